set_option maxHeartbeats 4000000 in
theorem vc_Mo_spread_0_0 (x1 : Int) (x2 : Int) (wide_0 : Int) (tall_0 : Int) (costOf_0 : Int → Int) (k1 : 0 ≤ x1 ∧ x1 ≤ 5999) (k2 : 0 ≤ x2 ∧ x2 ≤ 0) (f0 : GRX (wide_0) (tall_0)) (f1 : (0 ≤ x1) ∧ ((x1 + 1) ≤ (wide_0 * tall_0))) (hK_0_140 : ∀ j : Int, 0 ≤ j → j < 24000 → 0 ≤ costOf_0 j ∧ costOf_0 j ≤ 1000000) (kz_0_146 : (-2147483648) ≤ wide_0 ∧ wide_0 ≤ 2147483647) (kz_0_147 : (-2147483648) ≤ tall_0 ∧ tall_0 ≤ 2147483647) : CF1 (costOf_0) (x2) := by
  first
    | (intro s a b; exfalso; omega)
    | exact cf1_step ‹CF1 _ _› (by assumption) (by assumption) rfl (by omega)
def o_Mo_spread_0 : or_T := (2, 3, [(0, (2, 0, 0, [150])), (1, (0, 0, 5999, [])), (2, (0, 0, 0, []))], [(20, [0], [60, 2, 0, 418, 146, 147]), (20, [1, 0], [50, 2, 0, 1146, 1147, 2, 6, 0, 2, 0, 0, 1, 0, 0, 6, 4, 2, 1, 0, 0, 1, 6, 3, 2, 1, 146, 2, 1, 147])], [], [], [(20, [0, 2], [60, 0, 1, 425, 140]), (24, [0, 0], []), (24, [1, 1], [])], [], [])
theorem oo_Mo_spread_0 {kA : Nat → ClassId} : or_ok PRD kA GG o_Mo_spread_0 := by
  intro A ta ws vs hD hth hl hk hds hf
  have hl : vs.length = 3 := hl
  have hk : ∀ q ∈ ([(0, (2, 0, 0, [150])), (1, (0, 0, 5999, [])), (2, (0, 0, 0, []))] : List (Nat × tv_T)), tv_ok ta q.2 (n_v vs q.1) := hk
  obtain ⟨t0, hk⟩ := List.forall_mem_cons.mp hk
  have t0 : tv_ok ta (2, 0, 0, [150]) (n_v vs 0) := t0
  have r0 : ta (v_ad (n_v vs 0)) = some 150 := tv_rg t0
  obtain ⟨t1, hk⟩ := List.forall_mem_cons.mp hk
  have t1 : tv_ok ta (0, 0, 5999, []) (n_v vs 1) := t1
  have k1 : 0 ≤ v_iv (n_v vs 1) ∧ v_iv (n_v vs 1) ≤ 5999 := tv_rng t1
  obtain ⟨t2, hk⟩ := List.forall_mem_cons.mp hk
  have t2 : tv_ok ta (0, 0, 0, []) (n_v vs 2) := t2
  have k2 : 0 ≤ v_iv (n_v vs 2) ∧ v_iv (n_v vs 2) ≤ 0 := tv_rng t2
  have hf : fc_ok PRD [(20, [0], [60, 2, 0, 418, 146, 147]), (20, [1, 0], [50, 2, 0, 1146, 1147, 2, 6, 0, 2, 0, 0, 1, 0, 0, 6, 4, 2, 1, 0, 0, 1, 6, 3, 2, 1, 146, 2, 1, 147])] ta ws vs := hf
  obtain ⟨f0, hf⟩ := fc_un (show (20 : Nat) < 100 from by decide) hf
  have f0 : GRX (w_fi ws (n_v vs 0) 146) (w_fi ws (n_v vs 0) 147) := f0
  obtain ⟨f1, hf⟩ := fc_un (show (20 : Nat) < 100 from by decide) hf
  have f1 : (0 ≤ v_iv (n_v vs 1)) ∧ ((v_iv (n_v vs 1) + 1) ≤ (w_fi ws (n_v vs 0) 146 * w_fi ws (n_v vs 0) 147)) := f1
  have cr_0_140 : ta (w_ar ws (n_v vs 0) 140) = some 251 := tv_rg (th_fd hD hth r0 (g := GG_150) rfl (k := 140) (t := (2, 0, 0, [251])) rfl rfl)
  have hK_0_140 : ∀ j : Int, 0 ≤ j → j < 24000 → 0 ≤ w_ei ws (w_ar ws (n_v vs 0) 140) j ∧ w_ei ws (w_ar ws (n_v vs 0) 140) j ≤ 1000000 := fun j h0 h1 => th_el hD hth cr_0_140 (kd := 0) (n := 24000) (m := 24000) (lo := 0) (hi := 1000000) (rs := []) (L := []) rfl (by decide) (j := j.toNat) (by omega)
  have kz_0_146 : (-2147483648) ≤ w_fi ws (n_v vs 0) 146 ∧ w_fi ws (n_v vs 0) 146 ≤ 2147483647 := tv_rng (th_fd hD hth r0 (g := GG_150) rfl (k := 146) (t := (0, -2147483648, 2147483647, [])) rfl rfl)
  have kz_0_147 : (-2147483648) ≤ w_fi ws (n_v vs 0) 147 ∧ w_fi ws (n_v vs 0) 147 ≤ 2147483647 := tv_rng (th_fd hD hth r0 (g := GG_150) rfl (k := 147) (t := (0, -2147483648, 2147483647, [])) rfl rfl)
  have nf0 : fc_1 PRD (20, [0, 2], [60, 0, 1, 425, 140]) ws (vs) := by
    refine ⟨fun n hn => ?_, ?_⟩
    · have hn : n ∈ [0, 2] := hn
      rw [hl]
      simp only [List.mem_cons, List.not_mem_nil, or_false] at hn
      show n < 3; omega
    · show CF1 (w_ei ws (w_ar ws (n_v vs 0) 140)) (v_iv (n_v vs 2))
      exact vc_Mo_spread_0_0 (v_iv (n_v vs 1)) (v_iv (n_v vs 2)) (w_fi ws (n_v vs 0) 146) (w_fi ws (n_v vs 0) 147) (w_ei ws (w_ar ws (n_v vs 0) 140)) k1 k2 f0 f1 hK_0_140 kz_0_146 kz_0_147
  have nf1 : fc_1 PRD (24, [0, 0], []) ws (vs) := by
    refine ⟨fun n hn => ?_, ?_⟩
    · have hn : n ∈ [0, 0] := hn
      rw [hl]
      simp only [List.mem_cons, List.not_mem_nil, or_false] at hn
      show n < 3; omega
    · show n_v vs 0 = n_v vs 0
      first | rfl | simp only [true_and]
  have nf2 : fc_1 PRD (24, [1, 1], []) ws (vs) := by
    refine ⟨fun n hn => ?_, ?_⟩
    · have hn : n ∈ [1, 1] := hn
      rw [hl]
      simp only [List.mem_cons, List.not_mem_nil, or_false] at hn
      show n < 3; omega
    · show n_v vs 1 = n_v vs 1
      first | rfl | simp only [true_and]
  refine ⟨(fun _ h => (by cases h)), [], trivial, ?_, (fun _ h => (by cases h))⟩
  rw [List.append_nil]
  exact List.forall_mem_cons.mpr ⟨⟨show (20 : Nat) < 100 from by decide, nf0⟩, List.forall_mem_cons.mpr ⟨⟨show (24 : Nat) < 100 from by decide, nf1⟩, List.forall_mem_cons.mpr ⟨⟨show (24 : Nat) < 100 from by decide, nf2⟩, (fun _ h => (by cases h))⟩⟩⟩
set_option maxHeartbeats 4000000 in
theorem vc_Mo_spread_1_r0 (x1 : Int) (x3 : Int) (x4 : Int) (x6 : Int) (wide_0 : Int) (tall_0 : Int) (costOf_0 : Int → Int) (k1 : 0 ≤ x1 ∧ x1 ≤ 5999) (k3 : 0 ≤ x3 ∧ x3 ≤ 5999) (k4 : 0 ≤ x4 ∧ x4 ≤ 24000) (k6 : (-2147483648) ≤ x6 ∧ x6 ≤ 2147483647) (d0 : x3 + (-4294967296) ≤ x1 ∧ x1 ≤ x3 + 0) (d1 : x1 + (-4294967296) ≤ x3 ∧ x3 ≤ x1 + 0) (g0 : x6 = wide_0) (f1 : GRX (wide_0) (tall_0)) (f2 : (0 ≤ x1) ∧ ((x1 + 1) ≤ (wide_0 * tall_0))) (f3 : CF1 (costOf_0) (x4)) (hK_0_140 : ∀ j : Int, 0 ≤ j → j < 24000 → 0 ≤ costOf_0 j ∧ costOf_0 j ≤ 1000000) (kz_0_146 : (-2147483648) ≤ wide_0 ∧ wide_0 ≤ 2147483647) (kz_0_147 : (-2147483648) ≤ tall_0 ∧ tall_0 ≤ 2147483647) : 1 ≤ x6 ∧ x6 ≤ 6000 := by
  first
    | omega
    | (have g := gok_bd ‹GRX _ _›; omega)
    | (have h := bm_pos (b := x8) (m := x10) ‹RTQ _ _ _ _ _ _ _ _› (by omega) (by assumption); omega)
    | (have h := bk_at (b := x6) (k := x7) (s := x14) (q := x13) ‹RTQ _ _ _ _ _ _ _ _› (by omega) (by omega) (by omega) (by omega) (by assumption); omega)
    | (have h := bm_pos (b := x6) (m := x9) ‹RTQ _ _ _ _ _ _ _ _› (by omega) (by assumption); omega)
    | (have g := gok_bd (show GRX wide_0 tall_0 from ‹RTQ _ _ _ _ _ _ _ _›.1); omega)
def o_Mo_spread_1 : or_T := (8, 7, [(0, (2, 0, 0, [150])), (1, (0, 0, 5999, [])), (2, (2, 0, 0, [150])), (3, (0, 0, 5999, [])), (4, (0, 0, 24000, [])), (6, (0, -2147483648, 2147483647, []))], [(9, [6, 2], [146]), (20, [2], [60, 2, 0, 418, 146, 147]), (20, [3, 2], [50, 2, 0, 1146, 1147, 2, 6, 0, 2, 0, 0, 1, 0, 0, 6, 4, 2, 1, 0, 0, 1, 6, 3, 2, 1, 146, 2, 1, 147]), (20, [2, 4], [60, 0, 1, 425, 140]), (24, [0, 2], []), (24, [1, 3], [])], [(6, (0, 1, 6000, []))], [], [], [], [(1, 3, -4294967296, 0), (3, 1, -4294967296, 0)])
theorem oo_Mo_spread_1 {kA : Nat → ClassId} : or_ok PRD kA GG o_Mo_spread_1 := by
  intro A ta ws vs hD hth hl hk hds hf
  have hl : vs.length = 7 := hl
  have hk : ∀ q ∈ ([(0, (2, 0, 0, [150])), (1, (0, 0, 5999, [])), (2, (2, 0, 0, [150])), (3, (0, 0, 5999, [])), (4, (0, 0, 24000, [])), (6, (0, -2147483648, 2147483647, []))] : List (Nat × tv_T)), tv_ok ta q.2 (n_v vs q.1) := hk
  obtain ⟨t0, hk⟩ := List.forall_mem_cons.mp hk
  have t0 : tv_ok ta (2, 0, 0, [150]) (n_v vs 0) := t0
  have r0 : ta (v_ad (n_v vs 0)) = some 150 := tv_rg t0
  obtain ⟨t1, hk⟩ := List.forall_mem_cons.mp hk
  have t1 : tv_ok ta (0, 0, 5999, []) (n_v vs 1) := t1
  have k1 : 0 ≤ v_iv (n_v vs 1) ∧ v_iv (n_v vs 1) ≤ 5999 := tv_rng t1
  obtain ⟨t2, hk⟩ := List.forall_mem_cons.mp hk
  have t2 : tv_ok ta (2, 0, 0, [150]) (n_v vs 2) := t2
  have r2 : ta (v_ad (n_v vs 2)) = some 150 := tv_rg t2
  obtain ⟨t3, hk⟩ := List.forall_mem_cons.mp hk
  have t3 : tv_ok ta (0, 0, 5999, []) (n_v vs 3) := t3
  have k3 : 0 ≤ v_iv (n_v vs 3) ∧ v_iv (n_v vs 3) ≤ 5999 := tv_rng t3
  obtain ⟨t4, hk⟩ := List.forall_mem_cons.mp hk
  have t4 : tv_ok ta (0, 0, 24000, []) (n_v vs 4) := t4
  have k4 : 0 ≤ v_iv (n_v vs 4) ∧ v_iv (n_v vs 4) ≤ 24000 := tv_rng t4
  obtain ⟨t6, hk⟩ := List.forall_mem_cons.mp hk
  have t6 : tv_ok ta (0, -2147483648, 2147483647, []) (n_v vs 6) := t6
  have k6 : (-2147483648) ≤ v_iv (n_v vs 6) ∧ v_iv (n_v vs 6) ≤ 2147483647 := tv_rng t6
  have hds : ∀ q ∈ ([(1, 3, -4294967296, 0), (3, 1, -4294967296, 0)] : List of_T), n_iv vs q.2.1 + q.2.2.1 ≤ n_iv vs q.1 ∧ n_iv vs q.1 ≤ n_iv vs q.2.1 + q.2.2.2 := hds
  obtain ⟨d0, hds⟩ := List.forall_mem_cons.mp hds
  have d0 : v_iv (n_v vs 3) + (-4294967296) ≤ v_iv (n_v vs 1) ∧ v_iv (n_v vs 1) ≤ v_iv (n_v vs 3) + 0 := d0
  obtain ⟨d1, hds⟩ := List.forall_mem_cons.mp hds
  have d1 : v_iv (n_v vs 1) + (-4294967296) ≤ v_iv (n_v vs 3) ∧ v_iv (n_v vs 3) ≤ v_iv (n_v vs 1) + 0 := d1
  have hf : fc_ok PRD [(9, [6, 2], [146]), (20, [2], [60, 2, 0, 418, 146, 147]), (20, [3, 2], [50, 2, 0, 1146, 1147, 2, 6, 0, 2, 0, 0, 1, 0, 0, 6, 4, 2, 1, 0, 0, 1, 6, 3, 2, 1, 146, 2, 1, 147]), (20, [2, 4], [60, 0, 1, 425, 140]), (24, [0, 2], []), (24, [1, 3], [])] ta ws vs := hf
  obtain ⟨f0, hf⟩ := fc_un (show (9 : Nat) < 100 from by decide) hf
  have f0 : n_v vs 6 = w_fd ws (v_ad (n_v vs 2)) 146 := f0
  obtain ⟨f1, hf⟩ := fc_un (show (20 : Nat) < 100 from by decide) hf
  have f1 : GRX (w_fi ws (n_v vs 2) 146) (w_fi ws (n_v vs 2) 147) := f1
  obtain ⟨f2, hf⟩ := fc_un (show (20 : Nat) < 100 from by decide) hf
  have f2 : (0 ≤ v_iv (n_v vs 3)) ∧ ((v_iv (n_v vs 3) + 1) ≤ (w_fi ws (n_v vs 2) 146 * w_fi ws (n_v vs 2) 147)) := f2
  obtain ⟨f3, hf⟩ := fc_un (show (20 : Nat) < 100 from by decide) hf
  have f3 : CF1 (w_ei ws (w_ar ws (n_v vs 2) 140)) (v_iv (n_v vs 4)) := f3
  obtain ⟨f4, hf⟩ := fc_un (show (24 : Nat) < 100 from by decide) hf
  have f4 : n_v vs 0 = n_v vs 2 := f4
  obtain ⟨f5, hf⟩ := fc_un (show (24 : Nat) < 100 from by decide) hf
  have f5 : n_v vs 1 = n_v vs 3 := f5
  have q2 : n_v vs 2 = n_v vs 0 := f4.symm
  have q3 : n_v vs 3 = n_v vs 1 := f5.symm
  rw [q2] at f0
  rw [q2] at f1
  rw [q2] at f2
  rw [q3] at f2
  rw [q2] at f3
  have cr_0_140 : ta (w_ar ws (n_v vs 0) 140) = some 251 := tv_rg (th_fd hD hth r0 (g := GG_150) rfl (k := 140) (t := (2, 0, 0, [251])) rfl rfl)
  have g0 : v_iv (n_v vs 6) = w_fi ws (n_v vs 0) 146 := congrArg v_iv f0
  have hK_0_140 : ∀ j : Int, 0 ≤ j → j < 24000 → 0 ≤ w_ei ws (w_ar ws (n_v vs 0) 140) j ∧ w_ei ws (w_ar ws (n_v vs 0) 140) j ≤ 1000000 := fun j h0 h1 => th_el hD hth cr_0_140 (kd := 0) (n := 24000) (m := 24000) (lo := 0) (hi := 1000000) (rs := []) (L := []) rfl (by decide) (j := j.toNat) (by omega)
  have kz_0_146 : (-2147483648) ≤ w_fi ws (n_v vs 0) 146 ∧ w_fi ws (n_v vs 0) 146 ≤ 2147483647 := tv_rng (th_fd hD hth r0 (g := GG_150) rfl (k := 146) (t := (0, -2147483648, 2147483647, [])) rfl rfl)
  have kz_0_147 : (-2147483648) ≤ w_fi ws (n_v vs 0) 147 ∧ w_fi ws (n_v vs 0) 147 ≤ 2147483647 := tv_rng (th_fd hD hth r0 (g := GG_150) rfl (k := 147) (t := (0, -2147483648, 2147483647, [])) rfl rfl)
  have hrf0 : 1 ≤ v_iv (n_v vs 6) ∧ v_iv (n_v vs 6) ≤ 6000 := vc_Mo_spread_1_r0 (v_iv (n_v vs 1)) (v_iv (n_v vs 3)) (v_iv (n_v vs 4)) (v_iv (n_v vs 6)) (w_fi ws (n_v vs 0) 146) (w_fi ws (n_v vs 0) 147) (w_ei ws (w_ar ws (n_v vs 0) 140)) k1 k3 k4 k6 d0 d1 g0 f1 f2 f3 hK_0_140 kz_0_146 kz_0_147
  have rf6 : tv_ok ta (0, 1, 6000, []) (n_v vs 6) := tv_in t6 (by first | omega | grind) (by first | omega | grind)
  refine ⟨List.forall_mem_cons.mpr ⟨rf6, (fun _ h => (by cases h))⟩, [], trivial, ?_, (fun _ h => (by cases h))⟩
  rw [List.append_nil]
  exact (fun _ h => (by cases h))
set_option maxHeartbeats 4000000 in
theorem vc_Mo_spread_2_r0 (x1 : Int) (x3 : Int) (x4 : Int) (x5 : Int) (x6 : Int) (x7 : Int) (x8 : Int) (tall_0 : Int) (wide_0 : Int) (costOf_0 : Int → Int) (k1 : 0 ≤ x1 ∧ x1 ≤ 5999) (k3 : 0 ≤ x3 ∧ x3 ≤ 5999) (k4 : 0 ≤ x4 ∧ x4 ≤ 24000) (k5 : 4 ≤ x5 ∧ x5 ≤ 4) (k6 : 1 ≤ x6 ∧ x6 ≤ 6000) (k7 : 4 ≤ x7 ∧ x7 ≤ 24000) (k8 : (-2147483648) ≤ x8 ∧ x8 ≤ 2147483647) (d0 : x3 + (-4294967296) ≤ x1 ∧ x1 ≤ x3 + 0) (d1 : x1 + (-4294967296) ≤ x3 ∧ x3 ≤ x1 + 0) (g0 : x8 = tall_0) (f1 : x7 = 4 * x6) (g2 : x6 = wide_0) (f3 : GRX (wide_0) (tall_0)) (f4 : (0 ≤ x1) ∧ ((x1 + 1) ≤ (wide_0 * tall_0))) (f5 : CF1 (costOf_0) (x4)) (hK_0_140 : ∀ j : Int, 0 ≤ j → j < 24000 → 0 ≤ costOf_0 j ∧ costOf_0 j ≤ 1000000) (kz_0_146 : (-2147483648) ≤ wide_0 ∧ wide_0 ≤ 2147483647) (kz_0_147 : (-2147483648) ≤ tall_0 ∧ tall_0 ≤ 2147483647) : 1 ≤ x8 ∧ x8 ≤ 6000 := by
  have g := gok_bd ‹GRX _ _›
  omega
def o_Mo_spread_2 : or_T := (13, 9, [(0, (2, 0, 0, [150])), (1, (0, 0, 5999, [])), (2, (2, 0, 0, [150])), (3, (0, 0, 5999, [])), (4, (0, 0, 24000, [])), (5, (0, 4, 4, [])), (6, (0, 1, 6000, [])), (7, (0, 4, 24000, [])), (8, (0, -2147483648, 2147483647, []))], [(9, [8, 2], [147]), (3, [7, 5, 6], []), (9, [6, 2], [146]), (20, [2], [60, 2, 0, 418, 146, 147]), (20, [3, 2], [50, 2, 0, 1146, 1147, 2, 6, 0, 2, 0, 0, 1, 0, 0, 6, 4, 2, 1, 0, 0, 1, 6, 3, 2, 1, 146, 2, 1, 147]), (20, [2, 4], [60, 0, 1, 425, 140]), (24, [0, 2], []), (24, [1, 3], [])], [(8, (0, 1, 6000, []))], [], [], [], [(1, 3, -4294967296, 0), (3, 1, -4294967296, 0)])
theorem oo_Mo_spread_2 {kA : Nat → ClassId} : or_ok PRD kA GG o_Mo_spread_2 := by
  intro A ta ws vs hD hth hl hk hds hf
  have hl : vs.length = 9 := hl
  have hk : ∀ q ∈ ([(0, (2, 0, 0, [150])), (1, (0, 0, 5999, [])), (2, (2, 0, 0, [150])), (3, (0, 0, 5999, [])), (4, (0, 0, 24000, [])), (5, (0, 4, 4, [])), (6, (0, 1, 6000, [])), (7, (0, 4, 24000, [])), (8, (0, -2147483648, 2147483647, []))] : List (Nat × tv_T)), tv_ok ta q.2 (n_v vs q.1) := hk
  obtain ⟨t0, hk⟩ := List.forall_mem_cons.mp hk
  have t0 : tv_ok ta (2, 0, 0, [150]) (n_v vs 0) := t0
  have r0 : ta (v_ad (n_v vs 0)) = some 150 := tv_rg t0
  obtain ⟨t1, hk⟩ := List.forall_mem_cons.mp hk
  have t1 : tv_ok ta (0, 0, 5999, []) (n_v vs 1) := t1
  have k1 : 0 ≤ v_iv (n_v vs 1) ∧ v_iv (n_v vs 1) ≤ 5999 := tv_rng t1
  obtain ⟨t2, hk⟩ := List.forall_mem_cons.mp hk
  have t2 : tv_ok ta (2, 0, 0, [150]) (n_v vs 2) := t2
  have r2 : ta (v_ad (n_v vs 2)) = some 150 := tv_rg t2
  obtain ⟨t3, hk⟩ := List.forall_mem_cons.mp hk
  have t3 : tv_ok ta (0, 0, 5999, []) (n_v vs 3) := t3
  have k3 : 0 ≤ v_iv (n_v vs 3) ∧ v_iv (n_v vs 3) ≤ 5999 := tv_rng t3
  obtain ⟨t4, hk⟩ := List.forall_mem_cons.mp hk
  have t4 : tv_ok ta (0, 0, 24000, []) (n_v vs 4) := t4
  have k4 : 0 ≤ v_iv (n_v vs 4) ∧ v_iv (n_v vs 4) ≤ 24000 := tv_rng t4
  obtain ⟨t5, hk⟩ := List.forall_mem_cons.mp hk
  have t5 : tv_ok ta (0, 4, 4, []) (n_v vs 5) := t5
  have k5 : 4 ≤ v_iv (n_v vs 5) ∧ v_iv (n_v vs 5) ≤ 4 := tv_rng t5
  obtain ⟨t6, hk⟩ := List.forall_mem_cons.mp hk
  have t6 : tv_ok ta (0, 1, 6000, []) (n_v vs 6) := t6
  have k6 : 1 ≤ v_iv (n_v vs 6) ∧ v_iv (n_v vs 6) ≤ 6000 := tv_rng t6
  obtain ⟨t7, hk⟩ := List.forall_mem_cons.mp hk
  have t7 : tv_ok ta (0, 4, 24000, []) (n_v vs 7) := t7
  have k7 : 4 ≤ v_iv (n_v vs 7) ∧ v_iv (n_v vs 7) ≤ 24000 := tv_rng t7
  obtain ⟨t8, hk⟩ := List.forall_mem_cons.mp hk
  have t8 : tv_ok ta (0, -2147483648, 2147483647, []) (n_v vs 8) := t8
  have k8 : (-2147483648) ≤ v_iv (n_v vs 8) ∧ v_iv (n_v vs 8) ≤ 2147483647 := tv_rng t8
  have hds : ∀ q ∈ ([(1, 3, -4294967296, 0), (3, 1, -4294967296, 0)] : List of_T), n_iv vs q.2.1 + q.2.2.1 ≤ n_iv vs q.1 ∧ n_iv vs q.1 ≤ n_iv vs q.2.1 + q.2.2.2 := hds
  obtain ⟨d0, hds⟩ := List.forall_mem_cons.mp hds
  have d0 : v_iv (n_v vs 3) + (-4294967296) ≤ v_iv (n_v vs 1) ∧ v_iv (n_v vs 1) ≤ v_iv (n_v vs 3) + 0 := d0
  obtain ⟨d1, hds⟩ := List.forall_mem_cons.mp hds
  have d1 : v_iv (n_v vs 1) + (-4294967296) ≤ v_iv (n_v vs 3) ∧ v_iv (n_v vs 3) ≤ v_iv (n_v vs 1) + 0 := d1
  have hf : fc_ok PRD [(9, [8, 2], [147]), (3, [7, 5, 6], []), (9, [6, 2], [146]), (20, [2], [60, 2, 0, 418, 146, 147]), (20, [3, 2], [50, 2, 0, 1146, 1147, 2, 6, 0, 2, 0, 0, 1, 0, 0, 6, 4, 2, 1, 0, 0, 1, 6, 3, 2, 1, 146, 2, 1, 147]), (20, [2, 4], [60, 0, 1, 425, 140]), (24, [0, 2], []), (24, [1, 3], [])] ta ws vs := hf
  obtain ⟨f0, hf⟩ := fc_un (show (9 : Nat) < 100 from by decide) hf
  have f0 : n_v vs 8 = w_fd ws (v_ad (n_v vs 2)) 147 := f0
  obtain ⟨f1, hf⟩ := fc_un (show (3 : Nat) < 100 from by decide) hf
  have f1 : v_iv (n_v vs 7) = v_iv (n_v vs 5) * v_iv (n_v vs 6) := f1
  rw [show v_iv (n_v vs 5) = 4 from by omega] at f1
  obtain ⟨f2, hf⟩ := fc_un (show (9 : Nat) < 100 from by decide) hf
  have f2 : n_v vs 6 = w_fd ws (v_ad (n_v vs 2)) 146 := f2
  obtain ⟨f3, hf⟩ := fc_un (show (20 : Nat) < 100 from by decide) hf
  have f3 : GRX (w_fi ws (n_v vs 2) 146) (w_fi ws (n_v vs 2) 147) := f3
  obtain ⟨f4, hf⟩ := fc_un (show (20 : Nat) < 100 from by decide) hf
  have f4 : (0 ≤ v_iv (n_v vs 3)) ∧ ((v_iv (n_v vs 3) + 1) ≤ (w_fi ws (n_v vs 2) 146 * w_fi ws (n_v vs 2) 147)) := f4
  obtain ⟨f5, hf⟩ := fc_un (show (20 : Nat) < 100 from by decide) hf
  have f5 : CF1 (w_ei ws (w_ar ws (n_v vs 2) 140)) (v_iv (n_v vs 4)) := f5
  obtain ⟨f6, hf⟩ := fc_un (show (24 : Nat) < 100 from by decide) hf
  have f6 : n_v vs 0 = n_v vs 2 := f6
  obtain ⟨f7, hf⟩ := fc_un (show (24 : Nat) < 100 from by decide) hf
  have f7 : n_v vs 1 = n_v vs 3 := f7
  have q2 : n_v vs 2 = n_v vs 0 := f6.symm
  have q3 : n_v vs 3 = n_v vs 1 := f7.symm
  rw [q2] at f0
  rw [q2] at f2
  rw [q2] at f3
  rw [q2] at f4
  rw [q3] at f4
  rw [q2] at f5
  have cr_0_140 : ta (w_ar ws (n_v vs 0) 140) = some 251 := tv_rg (th_fd hD hth r0 (g := GG_150) rfl (k := 140) (t := (2, 0, 0, [251])) rfl rfl)
  have g0 : v_iv (n_v vs 8) = w_fi ws (n_v vs 0) 147 := congrArg v_iv f0
  have g2 : v_iv (n_v vs 6) = w_fi ws (n_v vs 0) 146 := congrArg v_iv f2
  have hK_0_140 : ∀ j : Int, 0 ≤ j → j < 24000 → 0 ≤ w_ei ws (w_ar ws (n_v vs 0) 140) j ∧ w_ei ws (w_ar ws (n_v vs 0) 140) j ≤ 1000000 := fun j h0 h1 => th_el hD hth cr_0_140 (kd := 0) (n := 24000) (m := 24000) (lo := 0) (hi := 1000000) (rs := []) (L := []) rfl (by decide) (j := j.toNat) (by omega)
  have kz_0_146 : (-2147483648) ≤ w_fi ws (n_v vs 0) 146 ∧ w_fi ws (n_v vs 0) 146 ≤ 2147483647 := tv_rng (th_fd hD hth r0 (g := GG_150) rfl (k := 146) (t := (0, -2147483648, 2147483647, [])) rfl rfl)
  have kz_0_147 : (-2147483648) ≤ w_fi ws (n_v vs 0) 147 ∧ w_fi ws (n_v vs 0) 147 ≤ 2147483647 := tv_rng (th_fd hD hth r0 (g := GG_150) rfl (k := 147) (t := (0, -2147483648, 2147483647, [])) rfl rfl)
  have hrf0 : 1 ≤ v_iv (n_v vs 8) ∧ v_iv (n_v vs 8) ≤ 6000 := vc_Mo_spread_2_r0 (v_iv (n_v vs 1)) (v_iv (n_v vs 3)) (v_iv (n_v vs 4)) (v_iv (n_v vs 5)) (v_iv (n_v vs 6)) (v_iv (n_v vs 7)) (v_iv (n_v vs 8)) (w_fi ws (n_v vs 0) 147) (w_fi ws (n_v vs 0) 146) (w_ei ws (w_ar ws (n_v vs 0) 140)) k1 k3 k4 k5 k6 k7 k8 d0 d1 g0 f1 g2 f3 f4 f5 hK_0_140 kz_0_146 kz_0_147
  have rf8 : tv_ok ta (0, 1, 6000, []) (n_v vs 8) := tv_in t8 (by first | omega | grind) (by first | omega | grind)
  refine ⟨List.forall_mem_cons.mpr ⟨rf8, (fun _ h => (by cases h))⟩, [], trivial, ?_, (fun _ h => (by cases h))⟩
  rw [List.append_nil]
  exact (fun _ h => (by cases h))
set_option maxHeartbeats 4000000 in
theorem vc_Mo_spread_3_0 (x1 : Int) (x3 : Int) (x4 : Int) (x5 : Int) (x6 : Int) (x7 : Int) (x8 : Int) (x9 : Int) (x10 : Int) (tall_0 : Int) (wide_0 : Int) (costOf_0 : Int → Int) (bucketMany_0 : Int → Int) (k1 : 0 ≤ x1 ∧ x1 ≤ 5999) (k3 : 0 ≤ x3 ∧ x3 ≤ 5999) (k4 : 4 ≤ x4 ∧ x4 ≤ 24000) (k5 : 4 ≤ x5 ∧ x5 ≤ 4) (k6 : 1 ≤ x6 ∧ x6 ≤ 6000) (k7 : 4 ≤ x7 ∧ x7 ≤ 24000) (k8 : 1 ≤ x8 ∧ x8 ≤ 6000) (k9 : 4 ≤ x9 ∧ x9 ≤ 24000) (k10 : 0 ≤ x10 ∧ x10 ≤ 0) (d0 : x9 + 0 ≤ x4 ∧ x4 ≤ x9 + 4294967296) (d1 : x3 + (-4294967296) ≤ x1 ∧ x1 ≤ x3 + 0) (d2 : x1 + (-4294967296) ≤ x3 ∧ x3 ≤ x1 + 0) (f0 : x9 ≤ x4) (f1 : x9 = x7 * x8) (g2 : x8 = tall_0) (f3 : x7 = 4 * x6) (g4 : x6 = wide_0) (f5 : GRX (wide_0) (tall_0)) (f6 : (0 ≤ x1) ∧ ((x1 + 1) ≤ (wide_0 * tall_0))) (f7 : CF1 (costOf_0) (x4)) (hK_0_140 : ∀ j : Int, 0 ≤ j → j < 24000 → 0 ≤ costOf_0 j ∧ costOf_0 j ≤ 1000000) (hK_0_142 : ∀ j : Int, 0 ≤ j → j < 4 → 0 ≤ bucketMany_0 j ∧ bucketMany_0 j ≤ 24009) (kz_0_146 : (-2147483648) ≤ wide_0 ∧ wide_0 ≤ 2147483647) (kz_0_147 : (-2147483648) ≤ tall_0 ∧ tall_0 ≤ 2147483647) : CFF (wide_0) (tall_0) (costOf_0) := by
  first
    | assumption
    | exact cff_of (n := x9) (m := x7) (w := x6) (t := x8) ‹CF1 _ _› ‹x6 = wide_0› ‹x8 = tall_0› (by assumption) (by assumption) (by omega)
set_option maxHeartbeats 4000000 in
theorem vc_Mo_spread_3_1 (x1 : Int) (x3 : Int) (x4 : Int) (x5 : Int) (x6 : Int) (x7 : Int) (x8 : Int) (x9 : Int) (x10 : Int) (tall_0 : Int) (wide_0 : Int) (costOf_0 : Int → Int) (bucketMany_0 : Int → Int) (k1 : 0 ≤ x1 ∧ x1 ≤ 5999) (k3 : 0 ≤ x3 ∧ x3 ≤ 5999) (k4 : 4 ≤ x4 ∧ x4 ≤ 24000) (k5 : 4 ≤ x5 ∧ x5 ≤ 4) (k6 : 1 ≤ x6 ∧ x6 ≤ 6000) (k7 : 4 ≤ x7 ∧ x7 ≤ 24000) (k8 : 1 ≤ x8 ∧ x8 ≤ 6000) (k9 : 4 ≤ x9 ∧ x9 ≤ 24000) (k10 : 0 ≤ x10 ∧ x10 ≤ 0) (d0 : x9 + 0 ≤ x4 ∧ x4 ≤ x9 + 4294967296) (d1 : x3 + (-4294967296) ≤ x1 ∧ x1 ≤ x3 + 0) (d2 : x1 + (-4294967296) ≤ x3 ∧ x3 ≤ x1 + 0) (f0 : x9 ≤ x4) (f1 : x9 = x7 * x8) (g2 : x8 = tall_0) (f3 : x7 = 4 * x6) (g4 : x6 = wide_0) (f5 : GRX (wide_0) (tall_0)) (f6 : (0 ≤ x1) ∧ ((x1 + 1) ≤ (wide_0 * tall_0))) (f7 : CF1 (costOf_0) (x4)) (hK_0_140 : ∀ j : Int, 0 ≤ j → j < 24000 → 0 ≤ costOf_0 j ∧ costOf_0 j ≤ 1000000) (hK_0_142 : ∀ j : Int, 0 ≤ j → j < 4 → 0 ≤ bucketMany_0 j ∧ bucketMany_0 j ≤ 24009) (kz_0_146 : (-2147483648) ≤ wide_0 ∧ wide_0 ≤ 2147483647) (kz_0_147 : (-2147483648) ≤ tall_0 ∧ tall_0 ≤ 2147483647) : BZ1 (bucketMany_0) (x10) := by
  first
    | (intro s a b; exfalso; omega)
    | exact bz1_step ‹BZ1 _ _› (by assumption) (by assumption) rfl (by omega)
def o_Mo_spread_3 : or_T := (34, 11, [(0, (2, 0, 0, [150])), (1, (0, 0, 5999, [])), (2, (2, 0, 0, [150])), (3, (0, 0, 5999, [])), (4, (0, 4, 24000, [])), (5, (0, 4, 4, [])), (6, (0, 1, 6000, [])), (7, (0, 4, 24000, [])), (8, (0, 1, 6000, [])), (9, (0, 4, 24000, [])), (10, (0, 0, 0, []))], [(7, [4, 9], [3]), (3, [9, 7, 8], []), (9, [8, 2], [147]), (3, [7, 5, 6], []), (9, [6, 2], [146]), (20, [2], [60, 2, 0, 418, 146, 147]), (20, [3, 2], [50, 2, 0, 1146, 1147, 2, 6, 0, 2, 0, 0, 1, 0, 0, 6, 4, 2, 1, 0, 0, 1, 6, 3, 2, 1, 146, 2, 1, 147]), (20, [2, 4], [60, 0, 1, 425, 140]), (24, [0, 2], []), (24, [1, 3], [])], [], [], [(20, [2], [60, 2, 1, 426, 146, 147, 140]), (20, [2, 10], [60, 0, 1, 427, 142])], [], [(4, 9, 0, 4294967296), (1, 3, -4294967296, 0), (3, 1, -4294967296, 0)])
theorem oo_Mo_spread_3 {kA : Nat → ClassId} : or_ok PRD kA GG o_Mo_spread_3 := by
  intro A ta ws vs hD hth hl hk hds hf
  have hl : vs.length = 11 := hl
  have hk : ∀ q ∈ ([(0, (2, 0, 0, [150])), (1, (0, 0, 5999, [])), (2, (2, 0, 0, [150])), (3, (0, 0, 5999, [])), (4, (0, 4, 24000, [])), (5, (0, 4, 4, [])), (6, (0, 1, 6000, [])), (7, (0, 4, 24000, [])), (8, (0, 1, 6000, [])), (9, (0, 4, 24000, [])), (10, (0, 0, 0, []))] : List (Nat × tv_T)), tv_ok ta q.2 (n_v vs q.1) := hk
  obtain ⟨t0, hk⟩ := List.forall_mem_cons.mp hk
  have t0 : tv_ok ta (2, 0, 0, [150]) (n_v vs 0) := t0
  have r0 : ta (v_ad (n_v vs 0)) = some 150 := tv_rg t0
  obtain ⟨t1, hk⟩ := List.forall_mem_cons.mp hk
  have t1 : tv_ok ta (0, 0, 5999, []) (n_v vs 1) := t1
  have k1 : 0 ≤ v_iv (n_v vs 1) ∧ v_iv (n_v vs 1) ≤ 5999 := tv_rng t1
  obtain ⟨t2, hk⟩ := List.forall_mem_cons.mp hk
  have t2 : tv_ok ta (2, 0, 0, [150]) (n_v vs 2) := t2
  have r2 : ta (v_ad (n_v vs 2)) = some 150 := tv_rg t2
  obtain ⟨t3, hk⟩ := List.forall_mem_cons.mp hk
  have t3 : tv_ok ta (0, 0, 5999, []) (n_v vs 3) := t3
  have k3 : 0 ≤ v_iv (n_v vs 3) ∧ v_iv (n_v vs 3) ≤ 5999 := tv_rng t3
  obtain ⟨t4, hk⟩ := List.forall_mem_cons.mp hk
  have t4 : tv_ok ta (0, 4, 24000, []) (n_v vs 4) := t4
  have k4 : 4 ≤ v_iv (n_v vs 4) ∧ v_iv (n_v vs 4) ≤ 24000 := tv_rng t4
  obtain ⟨t5, hk⟩ := List.forall_mem_cons.mp hk
  have t5 : tv_ok ta (0, 4, 4, []) (n_v vs 5) := t5
  have k5 : 4 ≤ v_iv (n_v vs 5) ∧ v_iv (n_v vs 5) ≤ 4 := tv_rng t5
  obtain ⟨t6, hk⟩ := List.forall_mem_cons.mp hk
  have t6 : tv_ok ta (0, 1, 6000, []) (n_v vs 6) := t6
  have k6 : 1 ≤ v_iv (n_v vs 6) ∧ v_iv (n_v vs 6) ≤ 6000 := tv_rng t6
  obtain ⟨t7, hk⟩ := List.forall_mem_cons.mp hk
  have t7 : tv_ok ta (0, 4, 24000, []) (n_v vs 7) := t7
  have k7 : 4 ≤ v_iv (n_v vs 7) ∧ v_iv (n_v vs 7) ≤ 24000 := tv_rng t7
  obtain ⟨t8, hk⟩ := List.forall_mem_cons.mp hk
  have t8 : tv_ok ta (0, 1, 6000, []) (n_v vs 8) := t8
  have k8 : 1 ≤ v_iv (n_v vs 8) ∧ v_iv (n_v vs 8) ≤ 6000 := tv_rng t8
  obtain ⟨t9, hk⟩ := List.forall_mem_cons.mp hk
  have t9 : tv_ok ta (0, 4, 24000, []) (n_v vs 9) := t9
  have k9 : 4 ≤ v_iv (n_v vs 9) ∧ v_iv (n_v vs 9) ≤ 24000 := tv_rng t9
  obtain ⟨t10, hk⟩ := List.forall_mem_cons.mp hk
  have t10 : tv_ok ta (0, 0, 0, []) (n_v vs 10) := t10
  have k10 : 0 ≤ v_iv (n_v vs 10) ∧ v_iv (n_v vs 10) ≤ 0 := tv_rng t10
  have hds : ∀ q ∈ ([(4, 9, 0, 4294967296), (1, 3, -4294967296, 0), (3, 1, -4294967296, 0)] : List of_T), n_iv vs q.2.1 + q.2.2.1 ≤ n_iv vs q.1 ∧ n_iv vs q.1 ≤ n_iv vs q.2.1 + q.2.2.2 := hds
  obtain ⟨d0, hds⟩ := List.forall_mem_cons.mp hds
  have d0 : v_iv (n_v vs 9) + 0 ≤ v_iv (n_v vs 4) ∧ v_iv (n_v vs 4) ≤ v_iv (n_v vs 9) + 4294967296 := d0
  obtain ⟨d1, hds⟩ := List.forall_mem_cons.mp hds
  have d1 : v_iv (n_v vs 3) + (-4294967296) ≤ v_iv (n_v vs 1) ∧ v_iv (n_v vs 1) ≤ v_iv (n_v vs 3) + 0 := d1
  obtain ⟨d2, hds⟩ := List.forall_mem_cons.mp hds
  have d2 : v_iv (n_v vs 1) + (-4294967296) ≤ v_iv (n_v vs 3) ∧ v_iv (n_v vs 3) ≤ v_iv (n_v vs 1) + 0 := d2
  have hf : fc_ok PRD [(7, [4, 9], [3]), (3, [9, 7, 8], []), (9, [8, 2], [147]), (3, [7, 5, 6], []), (9, [6, 2], [146]), (20, [2], [60, 2, 0, 418, 146, 147]), (20, [3, 2], [50, 2, 0, 1146, 1147, 2, 6, 0, 2, 0, 0, 1, 0, 0, 6, 4, 2, 1, 0, 0, 1, 6, 3, 2, 1, 146, 2, 1, 147]), (20, [2, 4], [60, 0, 1, 425, 140]), (24, [0, 2], []), (24, [1, 3], [])] ta ws vs := hf
  obtain ⟨f0, hf⟩ := fc_un (show (7 : Nat) < 100 from by decide) hf
  have f0 : v_iv (n_v vs 9) ≤ v_iv (n_v vs 4) := f0
  obtain ⟨f1, hf⟩ := fc_un (show (3 : Nat) < 100 from by decide) hf
  have f1 : v_iv (n_v vs 9) = v_iv (n_v vs 7) * v_iv (n_v vs 8) := f1
  obtain ⟨f2, hf⟩ := fc_un (show (9 : Nat) < 100 from by decide) hf
  have f2 : n_v vs 8 = w_fd ws (v_ad (n_v vs 2)) 147 := f2
  obtain ⟨f3, hf⟩ := fc_un (show (3 : Nat) < 100 from by decide) hf
  have f3 : v_iv (n_v vs 7) = v_iv (n_v vs 5) * v_iv (n_v vs 6) := f3
  rw [show v_iv (n_v vs 5) = 4 from by omega] at f3
  obtain ⟨f4, hf⟩ := fc_un (show (9 : Nat) < 100 from by decide) hf
  have f4 : n_v vs 6 = w_fd ws (v_ad (n_v vs 2)) 146 := f4
  obtain ⟨f5, hf⟩ := fc_un (show (20 : Nat) < 100 from by decide) hf
  have f5 : GRX (w_fi ws (n_v vs 2) 146) (w_fi ws (n_v vs 2) 147) := f5
  obtain ⟨f6, hf⟩ := fc_un (show (20 : Nat) < 100 from by decide) hf
  have f6 : (0 ≤ v_iv (n_v vs 3)) ∧ ((v_iv (n_v vs 3) + 1) ≤ (w_fi ws (n_v vs 2) 146 * w_fi ws (n_v vs 2) 147)) := f6
  obtain ⟨f7, hf⟩ := fc_un (show (20 : Nat) < 100 from by decide) hf
  have f7 : CF1 (w_ei ws (w_ar ws (n_v vs 2) 140)) (v_iv (n_v vs 4)) := f7
  obtain ⟨f8, hf⟩ := fc_un (show (24 : Nat) < 100 from by decide) hf
  have f8 : n_v vs 0 = n_v vs 2 := f8
  obtain ⟨f9, hf⟩ := fc_un (show (24 : Nat) < 100 from by decide) hf
  have f9 : n_v vs 1 = n_v vs 3 := f9
  have q2 : n_v vs 2 = n_v vs 0 := f8.symm
  have q3 : n_v vs 3 = n_v vs 1 := f9.symm
  rw [q2] at f2
  rw [q2] at f4
  rw [q2] at f5
  rw [q2] at f6
  rw [q3] at f6
  rw [q2] at f7
  have cr_0_140 : ta (w_ar ws (n_v vs 0) 140) = some 251 := tv_rg (th_fd hD hth r0 (g := GG_150) rfl (k := 140) (t := (2, 0, 0, [251])) rfl rfl)
  have cr_0_142 : ta (w_ar ws (n_v vs 0) 142) = some 253 := tv_rg (th_fd hD hth r0 (g := GG_150) rfl (k := 142) (t := (2, 0, 0, [253])) rfl rfl)
  have g2 : v_iv (n_v vs 8) = w_fi ws (n_v vs 0) 147 := congrArg v_iv f2
  have g4 : v_iv (n_v vs 6) = w_fi ws (n_v vs 0) 146 := congrArg v_iv f4
  have hK_0_140 : ∀ j : Int, 0 ≤ j → j < 24000 → 0 ≤ w_ei ws (w_ar ws (n_v vs 0) 140) j ∧ w_ei ws (w_ar ws (n_v vs 0) 140) j ≤ 1000000 := fun j h0 h1 => th_el hD hth cr_0_140 (kd := 0) (n := 24000) (m := 24000) (lo := 0) (hi := 1000000) (rs := []) (L := []) rfl (by decide) (j := j.toNat) (by omega)
  have hK_0_142 : ∀ j : Int, 0 ≤ j → j < 4 → 0 ≤ w_ei ws (w_ar ws (n_v vs 0) 142) j ∧ w_ei ws (w_ar ws (n_v vs 0) 142) j ≤ 24009 := fun j h0 h1 => th_el hD hth cr_0_142 (kd := 0) (n := 4) (m := 4) (lo := 0) (hi := 24009) (rs := []) (L := []) rfl (by decide) (j := j.toNat) (by omega)
  have kz_0_146 : (-2147483648) ≤ w_fi ws (n_v vs 0) 146 ∧ w_fi ws (n_v vs 0) 146 ≤ 2147483647 := tv_rng (th_fd hD hth r0 (g := GG_150) rfl (k := 146) (t := (0, -2147483648, 2147483647, [])) rfl rfl)
  have kz_0_147 : (-2147483648) ≤ w_fi ws (n_v vs 0) 147 ∧ w_fi ws (n_v vs 0) 147 ≤ 2147483647 := tv_rng (th_fd hD hth r0 (g := GG_150) rfl (k := 147) (t := (0, -2147483648, 2147483647, [])) rfl rfl)
  have nf0 : fc_1 PRD (20, [2], [60, 2, 1, 426, 146, 147, 140]) ws (vs) := by
    refine ⟨fun n hn => ?_, ?_⟩
    · have hn : n ∈ [2] := hn
      rw [hl]
      simp only [List.mem_cons, List.not_mem_nil, or_false] at hn
      show n < 11; omega
    · show CFF (w_fi ws (n_v vs 2) 146) (w_fi ws (n_v vs 2) 147) (w_ei ws (w_ar ws (n_v vs 2) 140))
      rw [q2]
      exact vc_Mo_spread_3_0 (v_iv (n_v vs 1)) (v_iv (n_v vs 3)) (v_iv (n_v vs 4)) (v_iv (n_v vs 5)) (v_iv (n_v vs 6)) (v_iv (n_v vs 7)) (v_iv (n_v vs 8)) (v_iv (n_v vs 9)) (v_iv (n_v vs 10)) (w_fi ws (n_v vs 0) 147) (w_fi ws (n_v vs 0) 146) (w_ei ws (w_ar ws (n_v vs 0) 140)) (w_ei ws (w_ar ws (n_v vs 0) 142)) k1 k3 k4 k5 k6 k7 k8 k9 k10 d0 d1 d2 f0 f1 g2 f3 g4 f5 f6 f7 hK_0_140 hK_0_142 kz_0_146 kz_0_147
  have nf1 : fc_1 PRD (20, [2, 10], [60, 0, 1, 427, 142]) ws (vs) := by
    refine ⟨fun n hn => ?_, ?_⟩
    · have hn : n ∈ [2, 10] := hn
      rw [hl]
      simp only [List.mem_cons, List.not_mem_nil, or_false] at hn
      show n < 11; omega
    · show BZ1 (w_ei ws (w_ar ws (n_v vs 2) 142)) (v_iv (n_v vs 10))
      rw [q2]
      exact vc_Mo_spread_3_1 (v_iv (n_v vs 1)) (v_iv (n_v vs 3)) (v_iv (n_v vs 4)) (v_iv (n_v vs 5)) (v_iv (n_v vs 6)) (v_iv (n_v vs 7)) (v_iv (n_v vs 8)) (v_iv (n_v vs 9)) (v_iv (n_v vs 10)) (w_fi ws (n_v vs 0) 147) (w_fi ws (n_v vs 0) 146) (w_ei ws (w_ar ws (n_v vs 0) 140)) (w_ei ws (w_ar ws (n_v vs 0) 142)) k1 k3 k4 k5 k6 k7 k8 k9 k10 d0 d1 d2 f0 f1 g2 f3 g4 f5 f6 f7 hK_0_140 hK_0_142 kz_0_146 kz_0_147
  refine ⟨(fun _ h => (by cases h)), [], trivial, ?_, (fun _ h => (by cases h))⟩
  rw [List.append_nil]
  exact List.forall_mem_cons.mpr ⟨⟨show (20 : Nat) < 100 from by decide, nf0⟩, List.forall_mem_cons.mpr ⟨⟨show (20 : Nat) < 100 from by decide, nf1⟩, (fun _ h => (by cases h))⟩⟩
set_option maxHeartbeats 4000000 in
theorem vc_Mo_spread_4_r0 (x1 : Int) (x3 : Int) (x4 : Int) (x5 : Int) (x6 : Int) (x7 : Int) (x8 : Int) (x9 : Int) (tall_0 : Int) (wide_0 : Int) (costOf_0 : Int → Int) (k1 : 0 ≤ x1 ∧ x1 ≤ 5999) (k3 : 0 ≤ x3 ∧ x3 ≤ 5999) (k4 : 0 ≤ x4 ∧ x4 ≤ 24000) (k5 : 4 ≤ x5 ∧ x5 ≤ 4) (k6 : 1 ≤ x6 ∧ x6 ≤ 6000) (k7 : 4 ≤ x7 ∧ x7 ≤ 24000) (k8 : 1 ≤ x8 ∧ x8 ≤ 6000) (k9 : 4 ≤ x9 ∧ x9 ≤ 144000000) (d0 : x9 + (-4294967296) ≤ x4 ∧ x4 ≤ x9 + (-1)) (d1 : x3 + (-4294967296) ≤ x1 ∧ x1 ≤ x3 + 0) (d2 : x1 + (-4294967296) ≤ x3 ∧ x3 ≤ x1 + 0) (f1 : x4 < x9) (f2 : x9 = x7 * x8) (g3 : x8 = tall_0) (f4 : x7 = 4 * x6) (g5 : x6 = wide_0) (f6 : GRX (wide_0) (tall_0)) (f7 : (0 ≤ x1) ∧ ((x1 + 1) ≤ (wide_0 * tall_0))) (f8 : CF1 (costOf_0) (x4)) (hK_0_140 : ∀ j : Int, 0 ≤ j → j < 24000 → 0 ≤ costOf_0 j ∧ costOf_0 j ≤ 1000000) (kz_0_146 : (-2147483648) ≤ wide_0 ∧ wide_0 ≤ 2147483647) (kz_0_147 : (-2147483648) ≤ tall_0 ∧ tall_0 ≤ 2147483647) : 0 ≤ x4 ∧ x4 ≤ 23999 := by
  have n := four_n (n := x9) (m := x7) (w := x6) (t := x8) ‹x6 = wide_0› ‹x8 = tall_0› (by assumption) (by assumption)
  have g3 := ‹GRX _ _›.2.2
  omega
def o_Mo_spread_4 : or_T := (25, 12, [(0, (2, 0, 0, [150])), (1, (0, 0, 5999, [])), (2, (2, 0, 0, [150])), (3, (0, 0, 5999, [])), (4, (0, 0, 24000, [])), (5, (0, 4, 4, [])), (6, (0, 1, 6000, [])), (7, (0, 4, 24000, [])), (8, (0, 1, 6000, [])), (9, (0, 4, 144000000, [])), (10, (2, 0, 0, [251]))], [(9, [10, 2], [140]), (7, [4, 9], [2]), (3, [9, 7, 8], []), (9, [8, 2], [147]), (3, [7, 5, 6], []), (9, [6, 2], [146]), (20, [2], [60, 2, 0, 418, 146, 147]), (20, [3, 2], [50, 2, 0, 1146, 1147, 2, 6, 0, 2, 0, 0, 1, 0, 0, 6, 4, 2, 1, 0, 0, 1, 6, 3, 2, 1, 146, 2, 1, 147]), (20, [2, 4], [60, 0, 1, 425, 140]), (24, [0, 2], []), (24, [1, 3], [])], [(4, (0, 0, 23999, []))], [], [], [], [(4, 9, -4294967296, -1), (1, 3, -4294967296, 0), (3, 1, -4294967296, 0)])
theorem oo_Mo_spread_4 {kA : Nat → ClassId} : or_ok PRD kA GG o_Mo_spread_4 := by
  intro A ta ws vs hD hth hl hk hds hf
  have hl : vs.length = 12 := hl
  have hk : ∀ q ∈ ([(0, (2, 0, 0, [150])), (1, (0, 0, 5999, [])), (2, (2, 0, 0, [150])), (3, (0, 0, 5999, [])), (4, (0, 0, 24000, [])), (5, (0, 4, 4, [])), (6, (0, 1, 6000, [])), (7, (0, 4, 24000, [])), (8, (0, 1, 6000, [])), (9, (0, 4, 144000000, [])), (10, (2, 0, 0, [251]))] : List (Nat × tv_T)), tv_ok ta q.2 (n_v vs q.1) := hk
  obtain ⟨t0, hk⟩ := List.forall_mem_cons.mp hk
  have t0 : tv_ok ta (2, 0, 0, [150]) (n_v vs 0) := t0
  have r0 : ta (v_ad (n_v vs 0)) = some 150 := tv_rg t0
  obtain ⟨t1, hk⟩ := List.forall_mem_cons.mp hk
  have t1 : tv_ok ta (0, 0, 5999, []) (n_v vs 1) := t1
  have k1 : 0 ≤ v_iv (n_v vs 1) ∧ v_iv (n_v vs 1) ≤ 5999 := tv_rng t1
  obtain ⟨t2, hk⟩ := List.forall_mem_cons.mp hk
  have t2 : tv_ok ta (2, 0, 0, [150]) (n_v vs 2) := t2
  have r2 : ta (v_ad (n_v vs 2)) = some 150 := tv_rg t2
  obtain ⟨t3, hk⟩ := List.forall_mem_cons.mp hk
  have t3 : tv_ok ta (0, 0, 5999, []) (n_v vs 3) := t3
  have k3 : 0 ≤ v_iv (n_v vs 3) ∧ v_iv (n_v vs 3) ≤ 5999 := tv_rng t3
  obtain ⟨t4, hk⟩ := List.forall_mem_cons.mp hk
  have t4 : tv_ok ta (0, 0, 24000, []) (n_v vs 4) := t4
  have k4 : 0 ≤ v_iv (n_v vs 4) ∧ v_iv (n_v vs 4) ≤ 24000 := tv_rng t4
  obtain ⟨t5, hk⟩ := List.forall_mem_cons.mp hk
  have t5 : tv_ok ta (0, 4, 4, []) (n_v vs 5) := t5
  have k5 : 4 ≤ v_iv (n_v vs 5) ∧ v_iv (n_v vs 5) ≤ 4 := tv_rng t5
  obtain ⟨t6, hk⟩ := List.forall_mem_cons.mp hk
  have t6 : tv_ok ta (0, 1, 6000, []) (n_v vs 6) := t6
  have k6 : 1 ≤ v_iv (n_v vs 6) ∧ v_iv (n_v vs 6) ≤ 6000 := tv_rng t6
  obtain ⟨t7, hk⟩ := List.forall_mem_cons.mp hk
  have t7 : tv_ok ta (0, 4, 24000, []) (n_v vs 7) := t7
  have k7 : 4 ≤ v_iv (n_v vs 7) ∧ v_iv (n_v vs 7) ≤ 24000 := tv_rng t7
  obtain ⟨t8, hk⟩ := List.forall_mem_cons.mp hk
  have t8 : tv_ok ta (0, 1, 6000, []) (n_v vs 8) := t8
  have k8 : 1 ≤ v_iv (n_v vs 8) ∧ v_iv (n_v vs 8) ≤ 6000 := tv_rng t8
  obtain ⟨t9, hk⟩ := List.forall_mem_cons.mp hk
  have t9 : tv_ok ta (0, 4, 144000000, []) (n_v vs 9) := t9
  have k9 : 4 ≤ v_iv (n_v vs 9) ∧ v_iv (n_v vs 9) ≤ 144000000 := tv_rng t9
  obtain ⟨t10, hk⟩ := List.forall_mem_cons.mp hk
  have t10 : tv_ok ta (2, 0, 0, [251]) (n_v vs 10) := t10
  have r10 : ta (v_ad (n_v vs 10)) = some 251 := tv_rg t10
  have hds : ∀ q ∈ ([(4, 9, -4294967296, -1), (1, 3, -4294967296, 0), (3, 1, -4294967296, 0)] : List of_T), n_iv vs q.2.1 + q.2.2.1 ≤ n_iv vs q.1 ∧ n_iv vs q.1 ≤ n_iv vs q.2.1 + q.2.2.2 := hds
  obtain ⟨d0, hds⟩ := List.forall_mem_cons.mp hds
  have d0 : v_iv (n_v vs 9) + (-4294967296) ≤ v_iv (n_v vs 4) ∧ v_iv (n_v vs 4) ≤ v_iv (n_v vs 9) + (-1) := d0
  obtain ⟨d1, hds⟩ := List.forall_mem_cons.mp hds
  have d1 : v_iv (n_v vs 3) + (-4294967296) ≤ v_iv (n_v vs 1) ∧ v_iv (n_v vs 1) ≤ v_iv (n_v vs 3) + 0 := d1
  obtain ⟨d2, hds⟩ := List.forall_mem_cons.mp hds
  have d2 : v_iv (n_v vs 1) + (-4294967296) ≤ v_iv (n_v vs 3) ∧ v_iv (n_v vs 3) ≤ v_iv (n_v vs 1) + 0 := d2
  have hf : fc_ok PRD [(9, [10, 2], [140]), (7, [4, 9], [2]), (3, [9, 7, 8], []), (9, [8, 2], [147]), (3, [7, 5, 6], []), (9, [6, 2], [146]), (20, [2], [60, 2, 0, 418, 146, 147]), (20, [3, 2], [50, 2, 0, 1146, 1147, 2, 6, 0, 2, 0, 0, 1, 0, 0, 6, 4, 2, 1, 0, 0, 1, 6, 3, 2, 1, 146, 2, 1, 147]), (20, [2, 4], [60, 0, 1, 425, 140]), (24, [0, 2], []), (24, [1, 3], [])] ta ws vs := hf
  obtain ⟨f0, hf⟩ := fc_un (show (9 : Nat) < 100 from by decide) hf
  have f0 : n_v vs 10 = w_fd ws (v_ad (n_v vs 2)) 140 := f0
  obtain ⟨f1, hf⟩ := fc_un (show (7 : Nat) < 100 from by decide) hf
  have f1 : v_iv (n_v vs 4) < v_iv (n_v vs 9) := f1
  obtain ⟨f2, hf⟩ := fc_un (show (3 : Nat) < 100 from by decide) hf
  have f2 : v_iv (n_v vs 9) = v_iv (n_v vs 7) * v_iv (n_v vs 8) := f2
  obtain ⟨f3, hf⟩ := fc_un (show (9 : Nat) < 100 from by decide) hf
  have f3 : n_v vs 8 = w_fd ws (v_ad (n_v vs 2)) 147 := f3
  obtain ⟨f4, hf⟩ := fc_un (show (3 : Nat) < 100 from by decide) hf
  have f4 : v_iv (n_v vs 7) = v_iv (n_v vs 5) * v_iv (n_v vs 6) := f4
  rw [show v_iv (n_v vs 5) = 4 from by omega] at f4
  obtain ⟨f5, hf⟩ := fc_un (show (9 : Nat) < 100 from by decide) hf
  have f5 : n_v vs 6 = w_fd ws (v_ad (n_v vs 2)) 146 := f5
  obtain ⟨f6, hf⟩ := fc_un (show (20 : Nat) < 100 from by decide) hf
  have f6 : GRX (w_fi ws (n_v vs 2) 146) (w_fi ws (n_v vs 2) 147) := f6
  obtain ⟨f7, hf⟩ := fc_un (show (20 : Nat) < 100 from by decide) hf
  have f7 : (0 ≤ v_iv (n_v vs 3)) ∧ ((v_iv (n_v vs 3) + 1) ≤ (w_fi ws (n_v vs 2) 146 * w_fi ws (n_v vs 2) 147)) := f7
  obtain ⟨f8, hf⟩ := fc_un (show (20 : Nat) < 100 from by decide) hf
  have f8 : CF1 (w_ei ws (w_ar ws (n_v vs 2) 140)) (v_iv (n_v vs 4)) := f8
  obtain ⟨f9, hf⟩ := fc_un (show (24 : Nat) < 100 from by decide) hf
  have f9 : n_v vs 0 = n_v vs 2 := f9
  obtain ⟨f10, hf⟩ := fc_un (show (24 : Nat) < 100 from by decide) hf
  have f10 : n_v vs 1 = n_v vs 3 := f10
  have q2 : n_v vs 2 = n_v vs 0 := f9.symm
  have q3 : n_v vs 3 = n_v vs 1 := f10.symm
  rw [q2] at f0
  rw [q2] at f3
  rw [q2] at f5
  rw [q2] at f6
  rw [q2] at f7
  rw [q3] at f7
  rw [q2] at f8
  have cr_0_140 : ta (w_ar ws (n_v vs 0) 140) = some 251 := tv_rg (th_fd hD hth r0 (g := GG_150) rfl (k := 140) (t := (2, 0, 0, [251])) rfl rfl)
  have ad_10 : v_ad (n_v vs 10) = w_ar ws (n_v vs 0) 140 := congrArg v_ad f0
  have g3 : v_iv (n_v vs 8) = w_fi ws (n_v vs 0) 147 := congrArg v_iv f3
  have g5 : v_iv (n_v vs 6) = w_fi ws (n_v vs 0) 146 := congrArg v_iv f5
  have hK_0_140 : ∀ j : Int, 0 ≤ j → j < 24000 → 0 ≤ w_ei ws (w_ar ws (n_v vs 0) 140) j ∧ w_ei ws (w_ar ws (n_v vs 0) 140) j ≤ 1000000 := fun j h0 h1 => th_el hD hth cr_0_140 (kd := 0) (n := 24000) (m := 24000) (lo := 0) (hi := 1000000) (rs := []) (L := []) rfl (by decide) (j := j.toNat) (by omega)
  have kz_0_146 : (-2147483648) ≤ w_fi ws (n_v vs 0) 146 ∧ w_fi ws (n_v vs 0) 146 ≤ 2147483647 := tv_rng (th_fd hD hth r0 (g := GG_150) rfl (k := 146) (t := (0, -2147483648, 2147483647, [])) rfl rfl)
  have kz_0_147 : (-2147483648) ≤ w_fi ws (n_v vs 0) 147 ∧ w_fi ws (n_v vs 0) 147 ≤ 2147483647 := tv_rng (th_fd hD hth r0 (g := GG_150) rfl (k := 147) (t := (0, -2147483648, 2147483647, [])) rfl rfl)
  have hrf0 : 0 ≤ v_iv (n_v vs 4) ∧ v_iv (n_v vs 4) ≤ 23999 := vc_Mo_spread_4_r0 (v_iv (n_v vs 1)) (v_iv (n_v vs 3)) (v_iv (n_v vs 4)) (v_iv (n_v vs 5)) (v_iv (n_v vs 6)) (v_iv (n_v vs 7)) (v_iv (n_v vs 8)) (v_iv (n_v vs 9)) (w_fi ws (n_v vs 0) 147) (w_fi ws (n_v vs 0) 146) (w_ei ws (w_ar ws (n_v vs 0) 140)) k1 k3 k4 k5 k6 k7 k8 k9 d0 d1 d2 f1 f2 g3 f4 g5 f6 f7 f8 hK_0_140 kz_0_146 kz_0_147
  have rf4 : tv_ok ta (0, 0, 23999, []) (n_v vs 4) := tv_in t4 (by first | omega | grind) (by first | omega | grind)
  refine ⟨List.forall_mem_cons.mpr ⟨rf4, (fun _ h => (by cases h))⟩, [], trivial, ?_, (fun _ h => (by cases h))⟩
  rw [List.append_nil]
  exact (fun _ h => (by cases h))
set_option maxHeartbeats 4000000 in
theorem vc_Mo_spread_5_0 (x1 : Int) (x3 : Int) (x4 : Int) (x5 : Int) (x6 : Int) (x7 : Int) (x8 : Int) (x9 : Int) (x11 : Int) (x12 : Int) (wide_0 : Int) (tall_0 : Int) (tall_1 : Int) (wide_1 : Int) (costOf_1 : Int → Int) (costOf_0 : Int → Int) (k1 : 0 ≤ x1 ∧ x1 ≤ 5999) (k3 : 0 ≤ x3 ∧ x3 ≤ 5999) (k4 : 0 ≤ x4 ∧ x4 ≤ 23999) (k5 : 4 ≤ x5 ∧ x5 ≤ 4) (k6 : 1 ≤ x6 ∧ x6 ≤ 6000) (k7 : 4 ≤ x7 ∧ x7 ≤ 24000) (k8 : 1 ≤ x8 ∧ x8 ≤ 6000) (k9 : 4 ≤ x9 ∧ x9 ≤ 144000000) (k11 : 1000000 ≤ x11 ∧ x11 ≤ 1000000) (k12 : 1 ≤ x12 ∧ x12 ≤ 24000) (d0 : x4 + 1 ≤ x12 ∧ x12 ≤ x4 + 1) (d1 : x9 + (-4294967296) ≤ x12 ∧ x12 ≤ x9 + 0) (d2 : x9 + (-4294967296) ≤ x4 ∧ x4 ≤ x9 + (-1)) (d3 : x3 + (-4294967296) ≤ x1 ∧ x1 ≤ x3 + 0) (d4 : x1 + (-4294967296) ≤ x3 ∧ x3 ≤ x1 + 0) (f0 : x12 = x4 + 1) (f1 : GRX (wide_0) (tall_0)) (f2 : (0 ≤ x1) ∧ ((x1 + 1) ≤ (wide_0 * tall_0))) (f7 : x4 < x9) (f8 : x9 = x7 * x8) (g9 : x8 = tall_1) (f10 : x7 = 4 * x6) (g11 : x6 = wide_1) (f12 : GRX (wide_1) (tall_1)) (f13 : (0 ≤ x1) ∧ ((x1 + 1) ≤ (wide_1 * tall_1))) (f14 : CF1 (costOf_1) (x4)) (fe_0_146_1 : wide_0 = wide_1) (fe_0_147_1 : tall_0 = tall_1) (hE_0_140_1 : ∀ j : Int, 0 ≤ j → (j = x4 → costOf_0 j = x11) ∧ (j ≠ x4 → costOf_0 j = costOf_1 j)) (hK_0_140 : ∀ j : Int, 0 ≤ j → j < 24000 → 0 ≤ costOf_0 j ∧ costOf_0 j ≤ 1000000) (kz_0_146 : (-2147483648) ≤ wide_0 ∧ wide_0 ≤ 2147483647) (kz_0_147 : (-2147483648) ≤ tall_0 ∧ tall_0 ≤ 2147483647) : CF1 (costOf_0) (x12) := by
  subst fe_0_146_1
  subst fe_0_147_1
  first
    | (intro s a b; exfalso; omega)
    | exact cf1_step ‹CF1 _ _› (by assumption) (by assumption) rfl (by omega)
def o_Mo_spread_5 : or_T := (2, 13, [(0, (2, 0, 0, [150])), (1, (0, 0, 5999, [])), (2, (2, 0, 0, [150])), (3, (0, 0, 5999, [])), (4, (0, 0, 23999, [])), (5, (0, 4, 4, [])), (6, (0, 1, 6000, [])), (7, (0, 4, 24000, [])), (8, (0, 1, 6000, [])), (9, (0, 4, 144000000, [])), (10, (2, 0, 0, [251])), (11, (0, 1000000, 1000000, [])), (12, (0, 1, 24000, []))], [(6, [12, 4], [1]), (20, [2], [60, 2, 0, 418, 146, 147]), (20, [3, 2], [50, 2, 0, 1146, 1147, 2, 6, 0, 2, 0, 0, 1, 0, 0, 6, 4, 2, 1, 0, 0, 1, 6, 3, 2, 1, 146, 2, 1, 147]), (24, [0, 2], []), (24, [1, 3], []), (100, [10, 4, 11], []), (9, [10, 2], [140]), (7, [4, 9], [2]), (3, [9, 7, 8], []), (9, [8, 2], [147]), (3, [7, 5, 6], []), (9, [6, 2], [146]), (20, [2], [60, 2, 0, 418, 146, 147]), (20, [3, 2], [50, 2, 0, 1146, 1147, 2, 6, 0, 2, 0, 0, 1, 0, 0, 6, 4, 2, 1, 0, 0, 1, 6, 3, 2, 1, 146, 2, 1, 147]), (20, [2, 4], [60, 0, 1, 425, 140])], [], [], [(20, [2, 12], [60, 0, 1, 425, 140])], [], [(12, 4, 1, 1), (12, 9, -4294967296, 0), (4, 9, -4294967296, -1), (1, 3, -4294967296, 0), (3, 1, -4294967296, 0)])
theorem oo_Mo_spread_5 {kA : Nat → ClassId} : or_ok PRD kA GG o_Mo_spread_5 := by
  intro A ta ws vs hD hth hl hk hds hf
  have hl : vs.length = 13 := hl
  have hk : ∀ q ∈ ([(0, (2, 0, 0, [150])), (1, (0, 0, 5999, [])), (2, (2, 0, 0, [150])), (3, (0, 0, 5999, [])), (4, (0, 0, 23999, [])), (5, (0, 4, 4, [])), (6, (0, 1, 6000, [])), (7, (0, 4, 24000, [])), (8, (0, 1, 6000, [])), (9, (0, 4, 144000000, [])), (10, (2, 0, 0, [251])), (11, (0, 1000000, 1000000, [])), (12, (0, 1, 24000, []))] : List (Nat × tv_T)), tv_ok ta q.2 (n_v vs q.1) := hk
  obtain ⟨t0, hk⟩ := List.forall_mem_cons.mp hk
  have t0 : tv_ok ta (2, 0, 0, [150]) (n_v vs 0) := t0
  have r0 : ta (v_ad (n_v vs 0)) = some 150 := tv_rg t0
  obtain ⟨t1, hk⟩ := List.forall_mem_cons.mp hk
  have t1 : tv_ok ta (0, 0, 5999, []) (n_v vs 1) := t1
  have k1 : 0 ≤ v_iv (n_v vs 1) ∧ v_iv (n_v vs 1) ≤ 5999 := tv_rng t1
  obtain ⟨t2, hk⟩ := List.forall_mem_cons.mp hk
  have t2 : tv_ok ta (2, 0, 0, [150]) (n_v vs 2) := t2
  have r2 : ta (v_ad (n_v vs 2)) = some 150 := tv_rg t2
  obtain ⟨t3, hk⟩ := List.forall_mem_cons.mp hk
  have t3 : tv_ok ta (0, 0, 5999, []) (n_v vs 3) := t3
  have k3 : 0 ≤ v_iv (n_v vs 3) ∧ v_iv (n_v vs 3) ≤ 5999 := tv_rng t3
  obtain ⟨t4, hk⟩ := List.forall_mem_cons.mp hk
  have t4 : tv_ok ta (0, 0, 23999, []) (n_v vs 4) := t4
  have k4 : 0 ≤ v_iv (n_v vs 4) ∧ v_iv (n_v vs 4) ≤ 23999 := tv_rng t4
  obtain ⟨t5, hk⟩ := List.forall_mem_cons.mp hk
  have t5 : tv_ok ta (0, 4, 4, []) (n_v vs 5) := t5
  have k5 : 4 ≤ v_iv (n_v vs 5) ∧ v_iv (n_v vs 5) ≤ 4 := tv_rng t5
  obtain ⟨t6, hk⟩ := List.forall_mem_cons.mp hk
  have t6 : tv_ok ta (0, 1, 6000, []) (n_v vs 6) := t6
  have k6 : 1 ≤ v_iv (n_v vs 6) ∧ v_iv (n_v vs 6) ≤ 6000 := tv_rng t6
  obtain ⟨t7, hk⟩ := List.forall_mem_cons.mp hk
  have t7 : tv_ok ta (0, 4, 24000, []) (n_v vs 7) := t7
  have k7 : 4 ≤ v_iv (n_v vs 7) ∧ v_iv (n_v vs 7) ≤ 24000 := tv_rng t7
  obtain ⟨t8, hk⟩ := List.forall_mem_cons.mp hk
  have t8 : tv_ok ta (0, 1, 6000, []) (n_v vs 8) := t8
  have k8 : 1 ≤ v_iv (n_v vs 8) ∧ v_iv (n_v vs 8) ≤ 6000 := tv_rng t8
  obtain ⟨t9, hk⟩ := List.forall_mem_cons.mp hk
  have t9 : tv_ok ta (0, 4, 144000000, []) (n_v vs 9) := t9
  have k9 : 4 ≤ v_iv (n_v vs 9) ∧ v_iv (n_v vs 9) ≤ 144000000 := tv_rng t9
  obtain ⟨t10, hk⟩ := List.forall_mem_cons.mp hk
  have t10 : tv_ok ta (2, 0, 0, [251]) (n_v vs 10) := t10
  have r10 : ta (v_ad (n_v vs 10)) = some 251 := tv_rg t10
  obtain ⟨t11, hk⟩ := List.forall_mem_cons.mp hk
  have t11 : tv_ok ta (0, 1000000, 1000000, []) (n_v vs 11) := t11
  have k11 : 1000000 ≤ v_iv (n_v vs 11) ∧ v_iv (n_v vs 11) ≤ 1000000 := tv_rng t11
  obtain ⟨t12, hk⟩ := List.forall_mem_cons.mp hk
  have t12 : tv_ok ta (0, 1, 24000, []) (n_v vs 12) := t12
  have k12 : 1 ≤ v_iv (n_v vs 12) ∧ v_iv (n_v vs 12) ≤ 24000 := tv_rng t12
  have hds : ∀ q ∈ ([(12, 4, 1, 1), (12, 9, -4294967296, 0), (4, 9, -4294967296, -1), (1, 3, -4294967296, 0), (3, 1, -4294967296, 0)] : List of_T), n_iv vs q.2.1 + q.2.2.1 ≤ n_iv vs q.1 ∧ n_iv vs q.1 ≤ n_iv vs q.2.1 + q.2.2.2 := hds
  obtain ⟨d0, hds⟩ := List.forall_mem_cons.mp hds
  have d0 : v_iv (n_v vs 4) + 1 ≤ v_iv (n_v vs 12) ∧ v_iv (n_v vs 12) ≤ v_iv (n_v vs 4) + 1 := d0
  obtain ⟨d1, hds⟩ := List.forall_mem_cons.mp hds
  have d1 : v_iv (n_v vs 9) + (-4294967296) ≤ v_iv (n_v vs 12) ∧ v_iv (n_v vs 12) ≤ v_iv (n_v vs 9) + 0 := d1
  obtain ⟨d2, hds⟩ := List.forall_mem_cons.mp hds
  have d2 : v_iv (n_v vs 9) + (-4294967296) ≤ v_iv (n_v vs 4) ∧ v_iv (n_v vs 4) ≤ v_iv (n_v vs 9) + (-1) := d2
  obtain ⟨d3, hds⟩ := List.forall_mem_cons.mp hds
  have d3 : v_iv (n_v vs 3) + (-4294967296) ≤ v_iv (n_v vs 1) ∧ v_iv (n_v vs 1) ≤ v_iv (n_v vs 3) + 0 := d3
  obtain ⟨d4, hds⟩ := List.forall_mem_cons.mp hds
  have d4 : v_iv (n_v vs 1) + (-4294967296) ≤ v_iv (n_v vs 3) ∧ v_iv (n_v vs 3) ≤ v_iv (n_v vs 1) + 0 := d4
  have hf : fc_ok PRD [(6, [12, 4], [1]), (20, [2], [60, 2, 0, 418, 146, 147]), (20, [3, 2], [50, 2, 0, 1146, 1147, 2, 6, 0, 2, 0, 0, 1, 0, 0, 6, 4, 2, 1, 0, 0, 1, 6, 3, 2, 1, 146, 2, 1, 147]), (24, [0, 2], []), (24, [1, 3], []), (100, [10, 4, 11], []), (9, [10, 2], [140]), (7, [4, 9], [2]), (3, [9, 7, 8], []), (9, [8, 2], [147]), (3, [7, 5, 6], []), (9, [6, 2], [146]), (20, [2], [60, 2, 0, 418, 146, 147]), (20, [3, 2], [50, 2, 0, 1146, 1147, 2, 6, 0, 2, 0, 0, 1, 0, 0, 6, 4, 2, 1, 0, 0, 1, 6, 3, 2, 1, 146, 2, 1, 147]), (20, [2, 4], [60, 0, 1, 425, 140])] ta ws vs := hf
  obtain ⟨f0, hf⟩ := fc_un (show (6 : Nat) < 100 from by decide) hf
  have f0 : v_iv (n_v vs 12) = v_iv (n_v vs 4) + 1 := f0
  obtain ⟨f1, hf⟩ := fc_un (show (20 : Nat) < 100 from by decide) hf
  have f1 : GRX (w_fi ws (n_v vs 2) 146) (w_fi ws (n_v vs 2) 147) := f1
  obtain ⟨f2, hf⟩ := fc_un (show (20 : Nat) < 100 from by decide) hf
  have f2 : (0 ≤ v_iv (n_v vs 3)) ∧ ((v_iv (n_v vs 3) + 1) ≤ (w_fi ws (n_v vs 2) 146 * w_fi ws (n_v vs 2) 147)) := f2
  obtain ⟨f3, hf⟩ := fc_un (show (24 : Nat) < 100 from by decide) hf
  have f3 : n_v vs 0 = n_v vs 2 := f3
  obtain ⟨f4, hf⟩ := fc_un (show (24 : Nat) < 100 from by decide) hf
  have f4 : n_v vs 1 = n_v vs 3 := f4
  obtain ⟨ta1, w1, le1, ⟨_, s1⟩, hf⟩ := fc_us (show ¬ (100 : Nat) < 100 from by decide) hf
  have s1 : (∀ b j, w_el ws b j = if b = v_ad (n_v vs 10) ∧ j = (v_iv (n_v vs 4)).toNat then v_iv (n_v vs 11) else w_el w1 b j) ∧ ∀ b k, w_fd ws b k = w_fd w1 b k := s1
  obtain ⟨f6, hf⟩ := fc_un (show (9 : Nat) < 100 from by decide) hf
  have f6 : n_v vs 10 = w_fd w1 (v_ad (n_v vs 2)) 140 := f6
  obtain ⟨f7, hf⟩ := fc_un (show (7 : Nat) < 100 from by decide) hf
  have f7 : v_iv (n_v vs 4) < v_iv (n_v vs 9) := f7
  obtain ⟨f8, hf⟩ := fc_un (show (3 : Nat) < 100 from by decide) hf
  have f8 : v_iv (n_v vs 9) = v_iv (n_v vs 7) * v_iv (n_v vs 8) := f8
  obtain ⟨f9, hf⟩ := fc_un (show (9 : Nat) < 100 from by decide) hf
  have f9 : n_v vs 8 = w_fd w1 (v_ad (n_v vs 2)) 147 := f9
  obtain ⟨f10, hf⟩ := fc_un (show (3 : Nat) < 100 from by decide) hf
  have f10 : v_iv (n_v vs 7) = v_iv (n_v vs 5) * v_iv (n_v vs 6) := f10
  rw [show v_iv (n_v vs 5) = 4 from by omega] at f10
  obtain ⟨f11, hf⟩ := fc_un (show (9 : Nat) < 100 from by decide) hf
  have f11 : n_v vs 6 = w_fd w1 (v_ad (n_v vs 2)) 146 := f11
  obtain ⟨f12, hf⟩ := fc_un (show (20 : Nat) < 100 from by decide) hf
  have f12 : GRX (w_fi w1 (n_v vs 2) 146) (w_fi w1 (n_v vs 2) 147) := f12
  obtain ⟨f13, hf⟩ := fc_un (show (20 : Nat) < 100 from by decide) hf
  have f13 : (0 ≤ v_iv (n_v vs 3)) ∧ ((v_iv (n_v vs 3) + 1) ≤ (w_fi w1 (n_v vs 2) 146 * w_fi w1 (n_v vs 2) 147)) := f13
  obtain ⟨f14, hf⟩ := fc_un (show (20 : Nat) < 100 from by decide) hf
  have f14 : CF1 (w_ei w1 (w_ar w1 (n_v vs 2) 140)) (v_iv (n_v vs 4)) := f14
  have q2 : n_v vs 2 = n_v vs 0 := f3.symm
  have q3 : n_v vs 3 = n_v vs 1 := f4.symm
  rw [q2] at f1
  rw [q2] at f2
  rw [q3] at f2
  rw [q2] at f6
  rw [q2] at f9
  rw [q2] at f11
  rw [q2] at f12
  rw [q2] at f13
  rw [q3] at f13
  rw [q2] at f14
  have ar_0_140_1 : w_ar w1 (n_v vs 0) 140 = w_ar ws (n_v vs 0) 140 := by show v_ad (w_fd w1 _ _) = v_ad (w_fd ws _ _); rw [s1.2]
  have cr_0_140 : ta (w_ar ws (n_v vs 0) 140) = some 251 := tv_rg (th_fd hD hth r0 (g := GG_150) rfl (k := 140) (t := (2, 0, 0, [251])) rfl rfl)
  have ad_10 : v_ad (n_v vs 10) = w_ar ws (n_v vs 0) 140 := (congrArg v_ad f6).trans ar_0_140_1
  have g9 : v_iv (n_v vs 8) = w_fi w1 (n_v vs 0) 147 := congrArg v_iv f9
  have g11 : v_iv (n_v vs 6) = w_fi w1 (n_v vs 0) 146 := congrArg v_iv f11
  rw [ar_0_140_1] at f14
  have fe_0_146_1 : w_fi ws (n_v vs 0) 146 = w_fi w1 (n_v vs 0) 146 := congrArg v_iv (s1.2 _ _)
  have fe_0_147_1 : w_fi ws (n_v vs 0) 147 = w_fi w1 (n_v vs 0) 147 := congrArg v_iv (s1.2 _ _)
  have hE_0_140_1 : ∀ j : Int, 0 ≤ j → (j = v_iv (n_v vs 4) → w_ei ws (w_ar ws (n_v vs 0) 140) j = v_iv (n_v vs 11)) ∧ (j ≠ v_iv (n_v vs 4) → w_ei ws (w_ar ws (n_v vs 0) 140) j = w_ei w1 (w_ar ws (n_v vs 0) 140) j) := fun j hj => ⟨fun h => by unfold w_ei; rw [s1.1, if_pos ⟨ad_10.symm, by rw [h]⟩], fun h => by unfold w_ei; rw [s1.1, if_neg (fun e => h (by have := e.2; omega))]⟩
  have hK_0_140 : ∀ j : Int, 0 ≤ j → j < 24000 → 0 ≤ w_ei ws (w_ar ws (n_v vs 0) 140) j ∧ w_ei ws (w_ar ws (n_v vs 0) 140) j ≤ 1000000 := fun j h0 h1 => th_el hD hth cr_0_140 (kd := 0) (n := 24000) (m := 24000) (lo := 0) (hi := 1000000) (rs := []) (L := []) rfl (by decide) (j := j.toNat) (by omega)
  have pe_0_146_147_1 : w_fi ws (n_v vs 0) 146 * w_fi ws (n_v vs 0) 147 = w_fi w1 (n_v vs 0) 146 * w_fi w1 (n_v vs 0) 147 := by rw [fe_0_146_1, fe_0_147_1]
  have kz_0_146 : (-2147483648) ≤ w_fi ws (n_v vs 0) 146 ∧ w_fi ws (n_v vs 0) 146 ≤ 2147483647 := tv_rng (th_fd hD hth r0 (g := GG_150) rfl (k := 146) (t := (0, -2147483648, 2147483647, [])) rfl rfl)
  have kz_0_147 : (-2147483648) ≤ w_fi ws (n_v vs 0) 147 ∧ w_fi ws (n_v vs 0) 147 ≤ 2147483647 := tv_rng (th_fd hD hth r0 (g := GG_150) rfl (k := 147) (t := (0, -2147483648, 2147483647, [])) rfl rfl)
  have nf0 : fc_1 PRD (20, [2, 12], [60, 0, 1, 425, 140]) ws (vs) := by
    refine ⟨fun n hn => ?_, ?_⟩
    · have hn : n ∈ [2, 12] := hn
      rw [hl]
      simp only [List.mem_cons, List.not_mem_nil, or_false] at hn
      show n < 13; omega
    · show CF1 (w_ei ws (w_ar ws (n_v vs 2) 140)) (v_iv (n_v vs 12))
      rw [q2]
      exact vc_Mo_spread_5_0 (v_iv (n_v vs 1)) (v_iv (n_v vs 3)) (v_iv (n_v vs 4)) (v_iv (n_v vs 5)) (v_iv (n_v vs 6)) (v_iv (n_v vs 7)) (v_iv (n_v vs 8)) (v_iv (n_v vs 9)) (v_iv (n_v vs 11)) (v_iv (n_v vs 12)) (w_fi ws (n_v vs 0) 146) (w_fi ws (n_v vs 0) 147) (w_fi w1 (n_v vs 0) 147) (w_fi w1 (n_v vs 0) 146) (w_ei w1 (w_ar ws (n_v vs 0) 140)) (w_ei ws (w_ar ws (n_v vs 0) 140)) k1 k3 k4 k5 k6 k7 k8 k9 k11 k12 d0 d1 d2 d3 d4 f0 f1 f2 f7 f8 g9 f10 g11 f12 f13 f14 fe_0_146_1 fe_0_147_1 hE_0_140_1 hK_0_140 kz_0_146 kz_0_147
  refine ⟨(fun _ h => (by cases h)), [], trivial, ?_, (fun _ h => (by cases h))⟩
  rw [List.append_nil]
  exact List.forall_mem_cons.mpr ⟨⟨show (20 : Nat) < 100 from by decide, nf0⟩, (fun _ h => (by cases h))⟩
set_option maxHeartbeats 4000000 in
theorem vc_Mo_spread_6_0 (x1 : Int) (x3 : Int) (x4 : Int) (x5 : Int) (x7 : Int) (barredPoint_0 : Int → Int) (wide_0 : Int) (tall_0 : Int) (costOf_0 : Int → Int) (bucketMany_0 : Int → Int) (bucket_0 : Int → Int) (k1 : 0 ≤ x1 ∧ x1 ≤ 5999) (k3 : 0 ≤ x3 ∧ x3 ≤ 5999) (k4 : 4 ≤ x4 ∧ x4 ≤ 4) (k5 : 4 ≤ x5 ∧ x5 ≤ 4) (k7 : 0 ≤ x7 ∧ x7 ≤ 0) (d0 : x3 + (-4294967296) ≤ x1 ∧ x1 ≤ x3 + 0) (d1 : x1 + (-4294967296) ≤ x3 ∧ x3 ≤ x1 + 0) (f0 : x7 = 0) (h1 : x7 = barredPoint_0 (x1)) (f3 : x5 ≤ x4) (f4 : GRX (wide_0) (tall_0)) (f5 : (0 ≤ x1) ∧ ((x1 + 1) ≤ (wide_0 * tall_0))) (f6 : CFF (wide_0) (tall_0) (costOf_0)) (f7 : BZ1 (bucketMany_0) (x4)) (hK_0_140 : ∀ j : Int, 0 ≤ j → j < 24000 → 0 ≤ costOf_0 j ∧ costOf_0 j ≤ 1000000) (hK_0_141 : ∀ j : Int, 0 ≤ j → j < 96040 → 0 ≤ bucket_0 j ∧ bucket_0 j ≤ 23999) (hK_0_142 : ∀ j : Int, 0 ≤ j → j < 4 → 0 ≤ bucketMany_0 j ∧ bucketMany_0 j ≤ 24009) (hK_0_143 : ∀ j : Int, 0 ≤ j → j < 6000 → 0 ≤ barredPoint_0 j ∧ barredPoint_0 j ≤ 1) (kz_0_146 : (-2147483648) ≤ wide_0 ∧ wide_0 ≤ 2147483647) (kz_0_147 : (-2147483648) ≤ tall_0 ∧ tall_0 ≤ 2147483647) : RT0 (wide_0) (tall_0) (barredPoint_0) (costOf_0) (bucket_0) (bucketMany_0) (x1) := by
  first
    | assumption
    | exact rt0_start ‹GRX _ _› ‹CFF _ _ _› ‹BZ1 _ _› (by omega)
    | (rw [show x1 = x10 by omega]; assumption)
    | (rw [show x3 = x10 by omega]; assumption)
set_option maxHeartbeats 4000000 in
theorem vc_Mo_spread_6_1 (x1 : Int) (x3 : Int) (x4 : Int) (x5 : Int) (x7 : Int) (barredPoint_0 : Int → Int) (wide_0 : Int) (tall_0 : Int) (costOf_0 : Int → Int) (bucketMany_0 : Int → Int) (bucket_0 : Int → Int) (k1 : 0 ≤ x1 ∧ x1 ≤ 5999) (k3 : 0 ≤ x3 ∧ x3 ≤ 5999) (k4 : 4 ≤ x4 ∧ x4 ≤ 4) (k5 : 4 ≤ x5 ∧ x5 ≤ 4) (k7 : 0 ≤ x7 ∧ x7 ≤ 0) (d0 : x3 + (-4294967296) ≤ x1 ∧ x1 ≤ x3 + 0) (d1 : x1 + (-4294967296) ≤ x3 ∧ x3 ≤ x1 + 0) (f0 : x7 = 0) (h1 : x7 = barredPoint_0 (x1)) (f3 : x5 ≤ x4) (f4 : GRX (wide_0) (tall_0)) (f5 : (0 ≤ x1) ∧ ((x1 + 1) ≤ (wide_0 * tall_0))) (f6 : CFF (wide_0) (tall_0) (costOf_0)) (f7 : BZ1 (bucketMany_0) (x4)) (hK_0_140 : ∀ j : Int, 0 ≤ j → j < 24000 → 0 ≤ costOf_0 j ∧ costOf_0 j ≤ 1000000) (hK_0_141 : ∀ j : Int, 0 ≤ j → j < 96040 → 0 ≤ bucket_0 j ∧ bucket_0 j ≤ 23999) (hK_0_142 : ∀ j : Int, 0 ≤ j → j < 4 → 0 ≤ bucketMany_0 j ∧ bucketMany_0 j ≤ 24009) (hK_0_143 : ∀ j : Int, 0 ≤ j → j < 6000 → 0 ≤ barredPoint_0 j ∧ barredPoint_0 j ≤ 1) (kz_0_146 : (-2147483648) ≤ wide_0 ∧ wide_0 ≤ 2147483647) (kz_0_147 : (-2147483648) ≤ tall_0 ∧ tall_0 ≤ 2147483647) : barredPoint_0 (x1) = 0 := by
  first
    | omega
    | (have g := gok_bd ‹GRX _ _›; omega)
    | (have h := bm_pos (b := x8) (m := x10) ‹RTQ _ _ _ _ _ _ _ _› (by omega) (by assumption); omega)
    | (have h := bk_at (b := x6) (k := x7) (s := x14) (q := x13) ‹RTQ _ _ _ _ _ _ _ _› (by omega) (by omega) (by omega) (by omega) (by assumption); omega)
    | (have h := bm_pos (b := x6) (m := x9) ‹RTQ _ _ _ _ _ _ _ _› (by omega) (by assumption); omega)
    | (have g := gok_bd (show GRX wide_0 tall_0 from ‹RTQ _ _ _ _ _ _ _ _›.1); omega)
def o_Mo_spread_6 : or_T := (64, 9, [(0, (2, 0, 0, [150])), (1, (0, 0, 5999, [])), (2, (2, 0, 0, [150])), (3, (0, 0, 5999, [])), (4, (0, 4, 4, [])), (5, (0, 4, 4, [])), (6, (2, 0, 0, [254])), (7, (0, 0, 0, []))], [(8, [7], [0]), (10, [7, 6, 3], []), (9, [6, 2], [143]), (7, [4, 5], [3]), (20, [2], [60, 2, 0, 418, 146, 147]), (20, [3, 2], [50, 2, 0, 1146, 1147, 2, 6, 0, 2, 0, 0, 1, 0, 0, 6, 4, 2, 1, 0, 0, 1, 6, 3, 2, 1, 146, 2, 1, 147]), (20, [2], [60, 2, 1, 426, 146, 147, 140]), (20, [2, 4], [60, 0, 1, 427, 142]), (24, [0, 2], []), (24, [1, 3], [])], [], [], [(20, [2, 3], [60, 2, 4, 420, 146, 147, 143, 140, 141, 142]), (20, [2, 3], [50, 0, 1, 143, 1, 5, 3, 0, 143, 1, 1, 0, 0])], [], [(1, 3, -4294967296, 0), (3, 1, -4294967296, 0)])
theorem oo_Mo_spread_6 {kA : Nat → ClassId} : or_ok PRD kA GG o_Mo_spread_6 := by
  intro A ta ws vs hD hth hl hk hds hf
  have hl : vs.length = 9 := hl
  have hk : ∀ q ∈ ([(0, (2, 0, 0, [150])), (1, (0, 0, 5999, [])), (2, (2, 0, 0, [150])), (3, (0, 0, 5999, [])), (4, (0, 4, 4, [])), (5, (0, 4, 4, [])), (6, (2, 0, 0, [254])), (7, (0, 0, 0, []))] : List (Nat × tv_T)), tv_ok ta q.2 (n_v vs q.1) := hk
  obtain ⟨t0, hk⟩ := List.forall_mem_cons.mp hk
  have t0 : tv_ok ta (2, 0, 0, [150]) (n_v vs 0) := t0
  have r0 : ta (v_ad (n_v vs 0)) = some 150 := tv_rg t0
  obtain ⟨t1, hk⟩ := List.forall_mem_cons.mp hk
  have t1 : tv_ok ta (0, 0, 5999, []) (n_v vs 1) := t1
  have k1 : 0 ≤ v_iv (n_v vs 1) ∧ v_iv (n_v vs 1) ≤ 5999 := tv_rng t1
  obtain ⟨t2, hk⟩ := List.forall_mem_cons.mp hk
  have t2 : tv_ok ta (2, 0, 0, [150]) (n_v vs 2) := t2
  have r2 : ta (v_ad (n_v vs 2)) = some 150 := tv_rg t2
  obtain ⟨t3, hk⟩ := List.forall_mem_cons.mp hk
  have t3 : tv_ok ta (0, 0, 5999, []) (n_v vs 3) := t3
  have k3 : 0 ≤ v_iv (n_v vs 3) ∧ v_iv (n_v vs 3) ≤ 5999 := tv_rng t3
  obtain ⟨t4, hk⟩ := List.forall_mem_cons.mp hk
  have t4 : tv_ok ta (0, 4, 4, []) (n_v vs 4) := t4
  have k4 : 4 ≤ v_iv (n_v vs 4) ∧ v_iv (n_v vs 4) ≤ 4 := tv_rng t4
  obtain ⟨t5, hk⟩ := List.forall_mem_cons.mp hk
  have t5 : tv_ok ta (0, 4, 4, []) (n_v vs 5) := t5
  have k5 : 4 ≤ v_iv (n_v vs 5) ∧ v_iv (n_v vs 5) ≤ 4 := tv_rng t5
  obtain ⟨t6, hk⟩ := List.forall_mem_cons.mp hk
  have t6 : tv_ok ta (2, 0, 0, [254]) (n_v vs 6) := t6
  have r6 : ta (v_ad (n_v vs 6)) = some 254 := tv_rg t6
  obtain ⟨t7, hk⟩ := List.forall_mem_cons.mp hk
  have t7 : tv_ok ta (0, 0, 0, []) (n_v vs 7) := t7
  have k7 : 0 ≤ v_iv (n_v vs 7) ∧ v_iv (n_v vs 7) ≤ 0 := tv_rng t7
  have hds : ∀ q ∈ ([(1, 3, -4294967296, 0), (3, 1, -4294967296, 0)] : List of_T), n_iv vs q.2.1 + q.2.2.1 ≤ n_iv vs q.1 ∧ n_iv vs q.1 ≤ n_iv vs q.2.1 + q.2.2.2 := hds
  obtain ⟨d0, hds⟩ := List.forall_mem_cons.mp hds
  have d0 : v_iv (n_v vs 3) + (-4294967296) ≤ v_iv (n_v vs 1) ∧ v_iv (n_v vs 1) ≤ v_iv (n_v vs 3) + 0 := d0
  obtain ⟨d1, hds⟩ := List.forall_mem_cons.mp hds
  have d1 : v_iv (n_v vs 1) + (-4294967296) ≤ v_iv (n_v vs 3) ∧ v_iv (n_v vs 3) ≤ v_iv (n_v vs 1) + 0 := d1
  have hf : fc_ok PRD [(8, [7], [0]), (10, [7, 6, 3], []), (9, [6, 2], [143]), (7, [4, 5], [3]), (20, [2], [60, 2, 0, 418, 146, 147]), (20, [3, 2], [50, 2, 0, 1146, 1147, 2, 6, 0, 2, 0, 0, 1, 0, 0, 6, 4, 2, 1, 0, 0, 1, 6, 3, 2, 1, 146, 2, 1, 147]), (20, [2], [60, 2, 1, 426, 146, 147, 140]), (20, [2, 4], [60, 0, 1, 427, 142]), (24, [0, 2], []), (24, [1, 3], [])] ta ws vs := hf
  obtain ⟨f0, hf⟩ := fc_un (show (8 : Nat) < 100 from by decide) hf
  have f0 : v_iv (n_v vs 7) = 0 := f0
  obtain ⟨f1, hf⟩ := fc_un (show (10 : Nat) < 100 from by decide) hf
  have f1 : v_iv (n_v vs 7) = w_el ws (v_ad (n_v vs 6)) (v_iv (n_v vs 3)).toNat := f1
  obtain ⟨f2, hf⟩ := fc_un (show (9 : Nat) < 100 from by decide) hf
  have f2 : n_v vs 6 = w_fd ws (v_ad (n_v vs 2)) 143 := f2
  obtain ⟨f3, hf⟩ := fc_un (show (7 : Nat) < 100 from by decide) hf
  have f3 : v_iv (n_v vs 5) ≤ v_iv (n_v vs 4) := f3
  obtain ⟨f4, hf⟩ := fc_un (show (20 : Nat) < 100 from by decide) hf
  have f4 : GRX (w_fi ws (n_v vs 2) 146) (w_fi ws (n_v vs 2) 147) := f4
  obtain ⟨f5, hf⟩ := fc_un (show (20 : Nat) < 100 from by decide) hf
  have f5 : (0 ≤ v_iv (n_v vs 3)) ∧ ((v_iv (n_v vs 3) + 1) ≤ (w_fi ws (n_v vs 2) 146 * w_fi ws (n_v vs 2) 147)) := f5
  obtain ⟨f6, hf⟩ := fc_un (show (20 : Nat) < 100 from by decide) hf
  have f6 : CFF (w_fi ws (n_v vs 2) 146) (w_fi ws (n_v vs 2) 147) (w_ei ws (w_ar ws (n_v vs 2) 140)) := f6
  obtain ⟨f7, hf⟩ := fc_un (show (20 : Nat) < 100 from by decide) hf
  have f7 : BZ1 (w_ei ws (w_ar ws (n_v vs 2) 142)) (v_iv (n_v vs 4)) := f7
  obtain ⟨f8, hf⟩ := fc_un (show (24 : Nat) < 100 from by decide) hf
  have f8 : n_v vs 0 = n_v vs 2 := f8
  obtain ⟨f9, hf⟩ := fc_un (show (24 : Nat) < 100 from by decide) hf
  have f9 : n_v vs 1 = n_v vs 3 := f9
  have q2 : n_v vs 2 = n_v vs 0 := f8.symm
  have q3 : n_v vs 3 = n_v vs 1 := f9.symm
  rw [q3] at f1
  rw [q2] at f2
  rw [q2] at f4
  rw [q2] at f5
  rw [q3] at f5
  rw [q2] at f6
  rw [q2] at f7
  have cr_0_140 : ta (w_ar ws (n_v vs 0) 140) = some 251 := tv_rg (th_fd hD hth r0 (g := GG_150) rfl (k := 140) (t := (2, 0, 0, [251])) rfl rfl)
  have cr_0_141 : ta (w_ar ws (n_v vs 0) 141) = some 252 := tv_rg (th_fd hD hth r0 (g := GG_150) rfl (k := 141) (t := (2, 0, 0, [252])) rfl rfl)
  have cr_0_142 : ta (w_ar ws (n_v vs 0) 142) = some 253 := tv_rg (th_fd hD hth r0 (g := GG_150) rfl (k := 142) (t := (2, 0, 0, [253])) rfl rfl)
  have cr_0_143 : ta (w_ar ws (n_v vs 0) 143) = some 254 := tv_rg (th_fd hD hth r0 (g := GG_150) rfl (k := 143) (t := (2, 0, 0, [254])) rfl rfl)
  have ad_6 : v_ad (n_v vs 6) = w_ar ws (n_v vs 0) 143 := congrArg v_ad f2
  rw [ad_6] at f1
  have h1 : v_iv (n_v vs 7) = w_ei ws (w_ar ws (n_v vs 0) 143) (v_iv (n_v vs 1)) := f1
  have hK_0_140 : ∀ j : Int, 0 ≤ j → j < 24000 → 0 ≤ w_ei ws (w_ar ws (n_v vs 0) 140) j ∧ w_ei ws (w_ar ws (n_v vs 0) 140) j ≤ 1000000 := fun j h0 h1 => th_el hD hth cr_0_140 (kd := 0) (n := 24000) (m := 24000) (lo := 0) (hi := 1000000) (rs := []) (L := []) rfl (by decide) (j := j.toNat) (by omega)
  have hK_0_141 : ∀ j : Int, 0 ≤ j → j < 96040 → 0 ≤ w_ei ws (w_ar ws (n_v vs 0) 141) j ∧ w_ei ws (w_ar ws (n_v vs 0) 141) j ≤ 23999 := fun j h0 h1 => th_el hD hth cr_0_141 (kd := 0) (n := 96040) (m := 96040) (lo := 0) (hi := 23999) (rs := []) (L := []) rfl (by decide) (j := j.toNat) (by omega)
  have hK_0_142 : ∀ j : Int, 0 ≤ j → j < 4 → 0 ≤ w_ei ws (w_ar ws (n_v vs 0) 142) j ∧ w_ei ws (w_ar ws (n_v vs 0) 142) j ≤ 24009 := fun j h0 h1 => th_el hD hth cr_0_142 (kd := 0) (n := 4) (m := 4) (lo := 0) (hi := 24009) (rs := []) (L := []) rfl (by decide) (j := j.toNat) (by omega)
  have hK_0_143 : ∀ j : Int, 0 ≤ j → j < 6000 → 0 ≤ w_ei ws (w_ar ws (n_v vs 0) 143) j ∧ w_ei ws (w_ar ws (n_v vs 0) 143) j ≤ 1 := fun j h0 h1 => th_el hD hth cr_0_143 (kd := 2) (n := 6000) (m := 6000) (lo := 0) (hi := 1) (rs := []) (L := []) rfl (by decide) (j := j.toNat) (by omega)
  have kz_0_146 : (-2147483648) ≤ w_fi ws (n_v vs 0) 146 ∧ w_fi ws (n_v vs 0) 146 ≤ 2147483647 := tv_rng (th_fd hD hth r0 (g := GG_150) rfl (k := 146) (t := (0, -2147483648, 2147483647, [])) rfl rfl)
  have kz_0_147 : (-2147483648) ≤ w_fi ws (n_v vs 0) 147 ∧ w_fi ws (n_v vs 0) 147 ≤ 2147483647 := tv_rng (th_fd hD hth r0 (g := GG_150) rfl (k := 147) (t := (0, -2147483648, 2147483647, [])) rfl rfl)
  have nf0 : fc_1 PRD (20, [2, 3], [60, 2, 4, 420, 146, 147, 143, 140, 141, 142]) ws (vs) := by
    refine ⟨fun n hn => ?_, ?_⟩
    · have hn : n ∈ [2, 3] := hn
      rw [hl]
      simp only [List.mem_cons, List.not_mem_nil, or_false] at hn
      show n < 9; omega
    · show RT0 (w_fi ws (n_v vs 2) 146) (w_fi ws (n_v vs 2) 147) (w_ei ws (w_ar ws (n_v vs 2) 143)) (w_ei ws (w_ar ws (n_v vs 2) 140)) (w_ei ws (w_ar ws (n_v vs 2) 141)) (w_ei ws (w_ar ws (n_v vs 2) 142)) (v_iv (n_v vs 3))
      rw [q2, q3]
      exact vc_Mo_spread_6_0 (v_iv (n_v vs 1)) (v_iv (n_v vs 3)) (v_iv (n_v vs 4)) (v_iv (n_v vs 5)) (v_iv (n_v vs 7)) (w_ei ws (w_ar ws (n_v vs 0) 143)) (w_fi ws (n_v vs 0) 146) (w_fi ws (n_v vs 0) 147) (w_ei ws (w_ar ws (n_v vs 0) 140)) (w_ei ws (w_ar ws (n_v vs 0) 142)) (w_ei ws (w_ar ws (n_v vs 0) 141)) k1 k3 k4 k5 k7 d0 d1 f0 h1 f3 f4 f5 f6 f7 hK_0_140 hK_0_141 hK_0_142 hK_0_143 kz_0_146 kz_0_147
  have nf1 : fc_1 PRD (20, [2, 3], [50, 0, 1, 143, 1, 5, 3, 0, 143, 1, 1, 0, 0]) ws (vs) := by
    refine ⟨fun n hn => ?_, ?_⟩
    · have hn : n ∈ [2, 3] := hn
      rw [hl]
      simp only [List.mem_cons, List.not_mem_nil, or_false] at hn
      show n < 9; omega
    · show w_ei ws (w_ar ws (n_v vs 2) 143) (v_iv (n_v vs 3)) = 0
      rw [q2, q3]
      exact vc_Mo_spread_6_1 (v_iv (n_v vs 1)) (v_iv (n_v vs 3)) (v_iv (n_v vs 4)) (v_iv (n_v vs 5)) (v_iv (n_v vs 7)) (w_ei ws (w_ar ws (n_v vs 0) 143)) (w_fi ws (n_v vs 0) 146) (w_fi ws (n_v vs 0) 147) (w_ei ws (w_ar ws (n_v vs 0) 140)) (w_ei ws (w_ar ws (n_v vs 0) 142)) (w_ei ws (w_ar ws (n_v vs 0) 141)) k1 k3 k4 k5 k7 d0 d1 f0 h1 f3 f4 f5 f6 f7 hK_0_140 hK_0_141 hK_0_142 hK_0_143 kz_0_146 kz_0_147
  refine ⟨(fun _ h => (by cases h)), [], trivial, ?_, (fun _ h => (by cases h))⟩
  rw [List.append_nil]
  exact List.forall_mem_cons.mpr ⟨⟨show (20 : Nat) < 100 from by decide, nf0⟩, List.forall_mem_cons.mpr ⟨⟨show (20 : Nat) < 100 from by decide, nf1⟩, (fun _ h => (by cases h))⟩⟩
set_option maxHeartbeats 4000000 in
theorem vc_Mo_spread_7_0 (x1 : Int) (x3 : Int) (x4 : Int) (x5 : Int) (x7 : Int) (barredPoint_0 : Int → Int) (wide_0 : Int) (tall_0 : Int) (costOf_0 : Int → Int) (bucketMany_0 : Int → Int) (k1 : 0 ≤ x1 ∧ x1 ≤ 5999) (k3 : 0 ≤ x3 ∧ x3 ≤ 5999) (k4 : 4 ≤ x4 ∧ x4 ≤ 4) (k5 : 4 ≤ x5 ∧ x5 ≤ 4) (k7 : 1 ≤ x7 ∧ x7 ≤ 1) (d0 : x3 + (-4294967296) ≤ x1 ∧ x1 ≤ x3 + 0) (d1 : x1 + (-4294967296) ≤ x3 ∧ x3 ≤ x1 + 0) (f0 : x7 ≠ 0) (h1 : x7 = barredPoint_0 (x1)) (f3 : x5 ≤ x4) (f4 : GRX (wide_0) (tall_0)) (f5 : (0 ≤ x1) ∧ ((x1 + 1) ≤ (wide_0 * tall_0))) (f6 : CFF (wide_0) (tall_0) (costOf_0)) (f7 : BZ1 (bucketMany_0) (x4)) (hK_0_140 : ∀ j : Int, 0 ≤ j → j < 24000 → 0 ≤ costOf_0 j ∧ costOf_0 j ≤ 1000000) (hK_0_142 : ∀ j : Int, 0 ≤ j → j < 4 → 0 ≤ bucketMany_0 j ∧ bucketMany_0 j ≤ 24009) (hK_0_143 : ∀ j : Int, 0 ≤ j → j < 6000 → 0 ≤ barredPoint_0 j ∧ barredPoint_0 j ≤ 1) (kz_0_146 : (-2147483648) ≤ wide_0 ∧ wide_0 ≤ 2147483647) (kz_0_147 : (-2147483648) ≤ tall_0 ∧ tall_0 ≤ 2147483647) : RTV (wide_0) (tall_0) (barredPoint_0) (costOf_0) (x1) := by
  first
    | exact rtv_far ‹GRX _ _› ‹CFF _ _ _›
    | exact spd_of ‹RTQ _ _ _ _ _ _ _ _›
def o_Mo_spread_7 : or_T := (61, 8, [(0, (2, 0, 0, [150])), (1, (0, 0, 5999, [])), (2, (2, 0, 0, [150])), (3, (0, 0, 5999, [])), (4, (0, 4, 4, [])), (5, (0, 4, 4, [])), (6, (2, 0, 0, [254])), (7, (0, 1, 1, []))], [(8, [7], [1]), (10, [7, 6, 3], []), (9, [6, 2], [143]), (7, [4, 5], [3]), (20, [2], [60, 2, 0, 418, 146, 147]), (20, [3, 2], [50, 2, 0, 1146, 1147, 2, 6, 0, 2, 0, 0, 1, 0, 0, 6, 4, 2, 1, 0, 0, 1, 6, 3, 2, 1, 146, 2, 1, 147]), (20, [2], [60, 2, 1, 426, 146, 147, 140]), (20, [2, 4], [60, 0, 1, 427, 142]), (24, [0, 2], []), (24, [1, 3], [])], [], [], [(20, [0, 1], [60, 2, 2, 428, 146, 147, 143, 140])], [], [(1, 3, -4294967296, 0), (3, 1, -4294967296, 0)])
theorem oo_Mo_spread_7 {kA : Nat → ClassId} : or_ok PRD kA GG o_Mo_spread_7 := by
  intro A ta ws vs hD hth hl hk hds hf
  have hl : vs.length = 8 := hl
  have hk : ∀ q ∈ ([(0, (2, 0, 0, [150])), (1, (0, 0, 5999, [])), (2, (2, 0, 0, [150])), (3, (0, 0, 5999, [])), (4, (0, 4, 4, [])), (5, (0, 4, 4, [])), (6, (2, 0, 0, [254])), (7, (0, 1, 1, []))] : List (Nat × tv_T)), tv_ok ta q.2 (n_v vs q.1) := hk
  obtain ⟨t0, hk⟩ := List.forall_mem_cons.mp hk
  have t0 : tv_ok ta (2, 0, 0, [150]) (n_v vs 0) := t0
  have r0 : ta (v_ad (n_v vs 0)) = some 150 := tv_rg t0
  obtain ⟨t1, hk⟩ := List.forall_mem_cons.mp hk
  have t1 : tv_ok ta (0, 0, 5999, []) (n_v vs 1) := t1
  have k1 : 0 ≤ v_iv (n_v vs 1) ∧ v_iv (n_v vs 1) ≤ 5999 := tv_rng t1
  obtain ⟨t2, hk⟩ := List.forall_mem_cons.mp hk
  have t2 : tv_ok ta (2, 0, 0, [150]) (n_v vs 2) := t2
  have r2 : ta (v_ad (n_v vs 2)) = some 150 := tv_rg t2
  obtain ⟨t3, hk⟩ := List.forall_mem_cons.mp hk
  have t3 : tv_ok ta (0, 0, 5999, []) (n_v vs 3) := t3
  have k3 : 0 ≤ v_iv (n_v vs 3) ∧ v_iv (n_v vs 3) ≤ 5999 := tv_rng t3
  obtain ⟨t4, hk⟩ := List.forall_mem_cons.mp hk
  have t4 : tv_ok ta (0, 4, 4, []) (n_v vs 4) := t4
  have k4 : 4 ≤ v_iv (n_v vs 4) ∧ v_iv (n_v vs 4) ≤ 4 := tv_rng t4
  obtain ⟨t5, hk⟩ := List.forall_mem_cons.mp hk
  have t5 : tv_ok ta (0, 4, 4, []) (n_v vs 5) := t5
  have k5 : 4 ≤ v_iv (n_v vs 5) ∧ v_iv (n_v vs 5) ≤ 4 := tv_rng t5
  obtain ⟨t6, hk⟩ := List.forall_mem_cons.mp hk
  have t6 : tv_ok ta (2, 0, 0, [254]) (n_v vs 6) := t6
  have r6 : ta (v_ad (n_v vs 6)) = some 254 := tv_rg t6
  obtain ⟨t7, hk⟩ := List.forall_mem_cons.mp hk
  have t7 : tv_ok ta (0, 1, 1, []) (n_v vs 7) := t7
  have k7 : 1 ≤ v_iv (n_v vs 7) ∧ v_iv (n_v vs 7) ≤ 1 := tv_rng t7
  have hds : ∀ q ∈ ([(1, 3, -4294967296, 0), (3, 1, -4294967296, 0)] : List of_T), n_iv vs q.2.1 + q.2.2.1 ≤ n_iv vs q.1 ∧ n_iv vs q.1 ≤ n_iv vs q.2.1 + q.2.2.2 := hds
  obtain ⟨d0, hds⟩ := List.forall_mem_cons.mp hds
  have d0 : v_iv (n_v vs 3) + (-4294967296) ≤ v_iv (n_v vs 1) ∧ v_iv (n_v vs 1) ≤ v_iv (n_v vs 3) + 0 := d0
  obtain ⟨d1, hds⟩ := List.forall_mem_cons.mp hds
  have d1 : v_iv (n_v vs 1) + (-4294967296) ≤ v_iv (n_v vs 3) ∧ v_iv (n_v vs 3) ≤ v_iv (n_v vs 1) + 0 := d1
  have hf : fc_ok PRD [(8, [7], [1]), (10, [7, 6, 3], []), (9, [6, 2], [143]), (7, [4, 5], [3]), (20, [2], [60, 2, 0, 418, 146, 147]), (20, [3, 2], [50, 2, 0, 1146, 1147, 2, 6, 0, 2, 0, 0, 1, 0, 0, 6, 4, 2, 1, 0, 0, 1, 6, 3, 2, 1, 146, 2, 1, 147]), (20, [2], [60, 2, 1, 426, 146, 147, 140]), (20, [2, 4], [60, 0, 1, 427, 142]), (24, [0, 2], []), (24, [1, 3], [])] ta ws vs := hf
  obtain ⟨f0, hf⟩ := fc_un (show (8 : Nat) < 100 from by decide) hf
  have f0 : v_iv (n_v vs 7) ≠ 0 := f0
  obtain ⟨f1, hf⟩ := fc_un (show (10 : Nat) < 100 from by decide) hf
  have f1 : v_iv (n_v vs 7) = w_el ws (v_ad (n_v vs 6)) (v_iv (n_v vs 3)).toNat := f1
  obtain ⟨f2, hf⟩ := fc_un (show (9 : Nat) < 100 from by decide) hf
  have f2 : n_v vs 6 = w_fd ws (v_ad (n_v vs 2)) 143 := f2
  obtain ⟨f3, hf⟩ := fc_un (show (7 : Nat) < 100 from by decide) hf
  have f3 : v_iv (n_v vs 5) ≤ v_iv (n_v vs 4) := f3
  obtain ⟨f4, hf⟩ := fc_un (show (20 : Nat) < 100 from by decide) hf
  have f4 : GRX (w_fi ws (n_v vs 2) 146) (w_fi ws (n_v vs 2) 147) := f4
  obtain ⟨f5, hf⟩ := fc_un (show (20 : Nat) < 100 from by decide) hf
  have f5 : (0 ≤ v_iv (n_v vs 3)) ∧ ((v_iv (n_v vs 3) + 1) ≤ (w_fi ws (n_v vs 2) 146 * w_fi ws (n_v vs 2) 147)) := f5
  obtain ⟨f6, hf⟩ := fc_un (show (20 : Nat) < 100 from by decide) hf
  have f6 : CFF (w_fi ws (n_v vs 2) 146) (w_fi ws (n_v vs 2) 147) (w_ei ws (w_ar ws (n_v vs 2) 140)) := f6
  obtain ⟨f7, hf⟩ := fc_un (show (20 : Nat) < 100 from by decide) hf
  have f7 : BZ1 (w_ei ws (w_ar ws (n_v vs 2) 142)) (v_iv (n_v vs 4)) := f7
  obtain ⟨f8, hf⟩ := fc_un (show (24 : Nat) < 100 from by decide) hf
  have f8 : n_v vs 0 = n_v vs 2 := f8
  obtain ⟨f9, hf⟩ := fc_un (show (24 : Nat) < 100 from by decide) hf
  have f9 : n_v vs 1 = n_v vs 3 := f9
  have q2 : n_v vs 2 = n_v vs 0 := f8.symm
  have q3 : n_v vs 3 = n_v vs 1 := f9.symm
  rw [q3] at f1
  rw [q2] at f2
  rw [q2] at f4
  rw [q2] at f5
  rw [q3] at f5
  rw [q2] at f6
  rw [q2] at f7
  have cr_0_140 : ta (w_ar ws (n_v vs 0) 140) = some 251 := tv_rg (th_fd hD hth r0 (g := GG_150) rfl (k := 140) (t := (2, 0, 0, [251])) rfl rfl)
  have cr_0_142 : ta (w_ar ws (n_v vs 0) 142) = some 253 := tv_rg (th_fd hD hth r0 (g := GG_150) rfl (k := 142) (t := (2, 0, 0, [253])) rfl rfl)
  have cr_0_143 : ta (w_ar ws (n_v vs 0) 143) = some 254 := tv_rg (th_fd hD hth r0 (g := GG_150) rfl (k := 143) (t := (2, 0, 0, [254])) rfl rfl)
  have ad_6 : v_ad (n_v vs 6) = w_ar ws (n_v vs 0) 143 := congrArg v_ad f2
  rw [ad_6] at f1
  have h1 : v_iv (n_v vs 7) = w_ei ws (w_ar ws (n_v vs 0) 143) (v_iv (n_v vs 1)) := f1
  have hK_0_140 : ∀ j : Int, 0 ≤ j → j < 24000 → 0 ≤ w_ei ws (w_ar ws (n_v vs 0) 140) j ∧ w_ei ws (w_ar ws (n_v vs 0) 140) j ≤ 1000000 := fun j h0 h1 => th_el hD hth cr_0_140 (kd := 0) (n := 24000) (m := 24000) (lo := 0) (hi := 1000000) (rs := []) (L := []) rfl (by decide) (j := j.toNat) (by omega)
  have hK_0_142 : ∀ j : Int, 0 ≤ j → j < 4 → 0 ≤ w_ei ws (w_ar ws (n_v vs 0) 142) j ∧ w_ei ws (w_ar ws (n_v vs 0) 142) j ≤ 24009 := fun j h0 h1 => th_el hD hth cr_0_142 (kd := 0) (n := 4) (m := 4) (lo := 0) (hi := 24009) (rs := []) (L := []) rfl (by decide) (j := j.toNat) (by omega)
  have hK_0_143 : ∀ j : Int, 0 ≤ j → j < 6000 → 0 ≤ w_ei ws (w_ar ws (n_v vs 0) 143) j ∧ w_ei ws (w_ar ws (n_v vs 0) 143) j ≤ 1 := fun j h0 h1 => th_el hD hth cr_0_143 (kd := 2) (n := 6000) (m := 6000) (lo := 0) (hi := 1) (rs := []) (L := []) rfl (by decide) (j := j.toNat) (by omega)
  have kz_0_146 : (-2147483648) ≤ w_fi ws (n_v vs 0) 146 ∧ w_fi ws (n_v vs 0) 146 ≤ 2147483647 := tv_rng (th_fd hD hth r0 (g := GG_150) rfl (k := 146) (t := (0, -2147483648, 2147483647, [])) rfl rfl)
  have kz_0_147 : (-2147483648) ≤ w_fi ws (n_v vs 0) 147 ∧ w_fi ws (n_v vs 0) 147 ≤ 2147483647 := tv_rng (th_fd hD hth r0 (g := GG_150) rfl (k := 147) (t := (0, -2147483648, 2147483647, [])) rfl rfl)
  have nf0 : fc_1 PRD (20, [0, 1], [60, 2, 2, 428, 146, 147, 143, 140]) ws (vs) := by
    refine ⟨fun n hn => ?_, ?_⟩
    · have hn : n ∈ [0, 1] := hn
      rw [hl]
      simp only [List.mem_cons, List.not_mem_nil, or_false] at hn
      show n < 8; omega
    · show RTV (w_fi ws (n_v vs 0) 146) (w_fi ws (n_v vs 0) 147) (w_ei ws (w_ar ws (n_v vs 0) 143)) (w_ei ws (w_ar ws (n_v vs 0) 140)) (v_iv (n_v vs 1))
      exact vc_Mo_spread_7_0 (v_iv (n_v vs 1)) (v_iv (n_v vs 3)) (v_iv (n_v vs 4)) (v_iv (n_v vs 5)) (v_iv (n_v vs 7)) (w_ei ws (w_ar ws (n_v vs 0) 143)) (w_fi ws (n_v vs 0) 146) (w_fi ws (n_v vs 0) 147) (w_ei ws (w_ar ws (n_v vs 0) 140)) (w_ei ws (w_ar ws (n_v vs 0) 142)) k1 k3 k4 k5 k7 d0 d1 f0 h1 f3 f4 f5 f6 f7 hK_0_140 hK_0_142 hK_0_143 kz_0_146 kz_0_147
  refine ⟨(fun _ h => (by cases h)), [], trivial, ?_, (fun _ h => (by cases h))⟩
  rw [List.append_nil]
  exact List.forall_mem_cons.mpr ⟨⟨show (20 : Nat) < 100 from by decide, nf0⟩, (fun _ h => (by cases h))⟩
set_option maxHeartbeats 4000000 in
theorem vc_Mo_spread_8_0 (x1 : Int) (x3 : Int) (x4 : Int) (x5 : Int) (x7 : Int) (x8 : Int) (wide_0 : Int) (tall_0 : Int) (costOf_0 : Int → Int) (wide_1 : Int) (tall_1 : Int) (costOf_1 : Int → Int) (bucketMany_1 : Int → Int) (bucketMany_0 : Int → Int) (k1 : 0 ≤ x1 ∧ x1 ≤ 5999) (k3 : 0 ≤ x3 ∧ x3 ≤ 5999) (k4 : 0 ≤ x4 ∧ x4 ≤ 3) (k5 : 4 ≤ x5 ∧ x5 ≤ 4) (k7 : 0 ≤ x7 ∧ x7 ≤ 0) (k8 : 1 ≤ x8 ∧ x8 ≤ 4) (d0 : x4 + 1 ≤ x8 ∧ x8 ≤ x4 + 1) (d1 : x3 + (-4294967296) ≤ x1 ∧ x1 ≤ x3 + 0) (d2 : x1 + (-4294967296) ≤ x3 ∧ x3 ≤ x1 + 0) (f0 : x8 = x4 + 1) (f1 : GRX (wide_0) (tall_0)) (f2 : (0 ≤ x1) ∧ ((x1 + 1) ≤ (wide_0 * tall_0))) (f3 : CFF (wide_0) (tall_0) (costOf_0)) (f8 : x4 < x5) (f9 : GRX (wide_1) (tall_1)) (f10 : (0 ≤ x1) ∧ ((x1 + 1) ≤ (wide_1 * tall_1))) (f11 : CFF (wide_1) (tall_1) (costOf_1)) (f12 : BZ1 (bucketMany_1) (x4)) (fe_0_146_1 : wide_0 = wide_1) (fe_0_147_1 : tall_0 = tall_1) (hE_0_140_1 : ∀ j : Int, costOf_0 j = costOf_1 j) (hK_0_140 : ∀ j : Int, 0 ≤ j → j < 24000 → 0 ≤ costOf_0 j ∧ costOf_0 j ≤ 1000000) (hE_0_142_1 : ∀ j : Int, 0 ≤ j → (j = x4 → bucketMany_0 j = x7) ∧ (j ≠ x4 → bucketMany_0 j = bucketMany_1 j)) (hK_0_142 : ∀ j : Int, 0 ≤ j → j < 4 → 0 ≤ bucketMany_0 j ∧ bucketMany_0 j ≤ 24009) (kz_0_146 : (-2147483648) ≤ wide_0 ∧ wide_0 ≤ 2147483647) (kz_0_147 : (-2147483648) ≤ tall_0 ∧ tall_0 ≤ 2147483647) : BZ1 (bucketMany_0) (x8) := by
  subst fe_0_146_1
  subst fe_0_147_1
  have e_hE_0_140_1 := funext hE_0_140_1; subst e_hE_0_140_1
  first
    | (intro s a b; exfalso; omega)
    | exact bz1_step ‹BZ1 _ _› (by assumption) (by assumption) rfl (by omega)
def o_Mo_spread_8 : or_T := (34, 9, [(0, (2, 0, 0, [150])), (1, (0, 0, 5999, [])), (2, (2, 0, 0, [150])), (3, (0, 0, 5999, [])), (4, (0, 0, 3, [])), (5, (0, 4, 4, [])), (6, (2, 0, 0, [253])), (7, (0, 0, 0, [])), (8, (0, 1, 4, []))], [(6, [8, 4], [1]), (20, [2], [60, 2, 0, 418, 146, 147]), (20, [3, 2], [50, 2, 0, 1146, 1147, 2, 6, 0, 2, 0, 0, 1, 0, 0, 6, 4, 2, 1, 0, 0, 1, 6, 3, 2, 1, 146, 2, 1, 147]), (20, [2], [60, 2, 1, 426, 146, 147, 140]), (24, [0, 2], []), (24, [1, 3], []), (100, [6, 4, 7], []), (9, [6, 2], [142]), (7, [4, 5], [2]), (20, [2], [60, 2, 0, 418, 146, 147]), (20, [3, 2], [50, 2, 0, 1146, 1147, 2, 6, 0, 2, 0, 0, 1, 0, 0, 6, 4, 2, 1, 0, 0, 1, 6, 3, 2, 1, 146, 2, 1, 147]), (20, [2], [60, 2, 1, 426, 146, 147, 140]), (20, [2, 4], [60, 0, 1, 427, 142])], [], [], [(20, [2, 8], [60, 0, 1, 427, 142])], [], [(8, 4, 1, 1), (1, 3, -4294967296, 0), (3, 1, -4294967296, 0)])
theorem oo_Mo_spread_8 {kA : Nat → ClassId} : or_ok PRD kA GG o_Mo_spread_8 := by
  intro A ta ws vs hD hth hl hk hds hf
  have hl : vs.length = 9 := hl
  have hk : ∀ q ∈ ([(0, (2, 0, 0, [150])), (1, (0, 0, 5999, [])), (2, (2, 0, 0, [150])), (3, (0, 0, 5999, [])), (4, (0, 0, 3, [])), (5, (0, 4, 4, [])), (6, (2, 0, 0, [253])), (7, (0, 0, 0, [])), (8, (0, 1, 4, []))] : List (Nat × tv_T)), tv_ok ta q.2 (n_v vs q.1) := hk
  obtain ⟨t0, hk⟩ := List.forall_mem_cons.mp hk
  have t0 : tv_ok ta (2, 0, 0, [150]) (n_v vs 0) := t0
  have r0 : ta (v_ad (n_v vs 0)) = some 150 := tv_rg t0
  obtain ⟨t1, hk⟩ := List.forall_mem_cons.mp hk
  have t1 : tv_ok ta (0, 0, 5999, []) (n_v vs 1) := t1
  have k1 : 0 ≤ v_iv (n_v vs 1) ∧ v_iv (n_v vs 1) ≤ 5999 := tv_rng t1
  obtain ⟨t2, hk⟩ := List.forall_mem_cons.mp hk
  have t2 : tv_ok ta (2, 0, 0, [150]) (n_v vs 2) := t2
  have r2 : ta (v_ad (n_v vs 2)) = some 150 := tv_rg t2
  obtain ⟨t3, hk⟩ := List.forall_mem_cons.mp hk
  have t3 : tv_ok ta (0, 0, 5999, []) (n_v vs 3) := t3
  have k3 : 0 ≤ v_iv (n_v vs 3) ∧ v_iv (n_v vs 3) ≤ 5999 := tv_rng t3
  obtain ⟨t4, hk⟩ := List.forall_mem_cons.mp hk
  have t4 : tv_ok ta (0, 0, 3, []) (n_v vs 4) := t4
  have k4 : 0 ≤ v_iv (n_v vs 4) ∧ v_iv (n_v vs 4) ≤ 3 := tv_rng t4
  obtain ⟨t5, hk⟩ := List.forall_mem_cons.mp hk
  have t5 : tv_ok ta (0, 4, 4, []) (n_v vs 5) := t5
  have k5 : 4 ≤ v_iv (n_v vs 5) ∧ v_iv (n_v vs 5) ≤ 4 := tv_rng t5
  obtain ⟨t6, hk⟩ := List.forall_mem_cons.mp hk
  have t6 : tv_ok ta (2, 0, 0, [253]) (n_v vs 6) := t6
  have r6 : ta (v_ad (n_v vs 6)) = some 253 := tv_rg t6
  obtain ⟨t7, hk⟩ := List.forall_mem_cons.mp hk
  have t7 : tv_ok ta (0, 0, 0, []) (n_v vs 7) := t7
  have k7 : 0 ≤ v_iv (n_v vs 7) ∧ v_iv (n_v vs 7) ≤ 0 := tv_rng t7
  obtain ⟨t8, hk⟩ := List.forall_mem_cons.mp hk
  have t8 : tv_ok ta (0, 1, 4, []) (n_v vs 8) := t8
  have k8 : 1 ≤ v_iv (n_v vs 8) ∧ v_iv (n_v vs 8) ≤ 4 := tv_rng t8
  have hds : ∀ q ∈ ([(8, 4, 1, 1), (1, 3, -4294967296, 0), (3, 1, -4294967296, 0)] : List of_T), n_iv vs q.2.1 + q.2.2.1 ≤ n_iv vs q.1 ∧ n_iv vs q.1 ≤ n_iv vs q.2.1 + q.2.2.2 := hds
  obtain ⟨d0, hds⟩ := List.forall_mem_cons.mp hds
  have d0 : v_iv (n_v vs 4) + 1 ≤ v_iv (n_v vs 8) ∧ v_iv (n_v vs 8) ≤ v_iv (n_v vs 4) + 1 := d0
  obtain ⟨d1, hds⟩ := List.forall_mem_cons.mp hds
  have d1 : v_iv (n_v vs 3) + (-4294967296) ≤ v_iv (n_v vs 1) ∧ v_iv (n_v vs 1) ≤ v_iv (n_v vs 3) + 0 := d1
  obtain ⟨d2, hds⟩ := List.forall_mem_cons.mp hds
  have d2 : v_iv (n_v vs 1) + (-4294967296) ≤ v_iv (n_v vs 3) ∧ v_iv (n_v vs 3) ≤ v_iv (n_v vs 1) + 0 := d2
  have hf : fc_ok PRD [(6, [8, 4], [1]), (20, [2], [60, 2, 0, 418, 146, 147]), (20, [3, 2], [50, 2, 0, 1146, 1147, 2, 6, 0, 2, 0, 0, 1, 0, 0, 6, 4, 2, 1, 0, 0, 1, 6, 3, 2, 1, 146, 2, 1, 147]), (20, [2], [60, 2, 1, 426, 146, 147, 140]), (24, [0, 2], []), (24, [1, 3], []), (100, [6, 4, 7], []), (9, [6, 2], [142]), (7, [4, 5], [2]), (20, [2], [60, 2, 0, 418, 146, 147]), (20, [3, 2], [50, 2, 0, 1146, 1147, 2, 6, 0, 2, 0, 0, 1, 0, 0, 6, 4, 2, 1, 0, 0, 1, 6, 3, 2, 1, 146, 2, 1, 147]), (20, [2], [60, 2, 1, 426, 146, 147, 140]), (20, [2, 4], [60, 0, 1, 427, 142])] ta ws vs := hf
  obtain ⟨f0, hf⟩ := fc_un (show (6 : Nat) < 100 from by decide) hf
  have f0 : v_iv (n_v vs 8) = v_iv (n_v vs 4) + 1 := f0
  obtain ⟨f1, hf⟩ := fc_un (show (20 : Nat) < 100 from by decide) hf
  have f1 : GRX (w_fi ws (n_v vs 2) 146) (w_fi ws (n_v vs 2) 147) := f1
  obtain ⟨f2, hf⟩ := fc_un (show (20 : Nat) < 100 from by decide) hf
  have f2 : (0 ≤ v_iv (n_v vs 3)) ∧ ((v_iv (n_v vs 3) + 1) ≤ (w_fi ws (n_v vs 2) 146 * w_fi ws (n_v vs 2) 147)) := f2
  obtain ⟨f3, hf⟩ := fc_un (show (20 : Nat) < 100 from by decide) hf
  have f3 : CFF (w_fi ws (n_v vs 2) 146) (w_fi ws (n_v vs 2) 147) (w_ei ws (w_ar ws (n_v vs 2) 140)) := f3
  obtain ⟨f4, hf⟩ := fc_un (show (24 : Nat) < 100 from by decide) hf
  have f4 : n_v vs 0 = n_v vs 2 := f4
  obtain ⟨f5, hf⟩ := fc_un (show (24 : Nat) < 100 from by decide) hf
  have f5 : n_v vs 1 = n_v vs 3 := f5
  obtain ⟨ta1, w1, le1, ⟨_, s1⟩, hf⟩ := fc_us (show ¬ (100 : Nat) < 100 from by decide) hf
  have s1 : (∀ b j, w_el ws b j = if b = v_ad (n_v vs 6) ∧ j = (v_iv (n_v vs 4)).toNat then v_iv (n_v vs 7) else w_el w1 b j) ∧ ∀ b k, w_fd ws b k = w_fd w1 b k := s1
  obtain ⟨f7, hf⟩ := fc_un (show (9 : Nat) < 100 from by decide) hf
  have f7 : n_v vs 6 = w_fd w1 (v_ad (n_v vs 2)) 142 := f7
  obtain ⟨f8, hf⟩ := fc_un (show (7 : Nat) < 100 from by decide) hf
  have f8 : v_iv (n_v vs 4) < v_iv (n_v vs 5) := f8
  obtain ⟨f9, hf⟩ := fc_un (show (20 : Nat) < 100 from by decide) hf
  have f9 : GRX (w_fi w1 (n_v vs 2) 146) (w_fi w1 (n_v vs 2) 147) := f9
  obtain ⟨f10, hf⟩ := fc_un (show (20 : Nat) < 100 from by decide) hf
  have f10 : (0 ≤ v_iv (n_v vs 3)) ∧ ((v_iv (n_v vs 3) + 1) ≤ (w_fi w1 (n_v vs 2) 146 * w_fi w1 (n_v vs 2) 147)) := f10
  obtain ⟨f11, hf⟩ := fc_un (show (20 : Nat) < 100 from by decide) hf
  have f11 : CFF (w_fi w1 (n_v vs 2) 146) (w_fi w1 (n_v vs 2) 147) (w_ei w1 (w_ar w1 (n_v vs 2) 140)) := f11
  obtain ⟨f12, hf⟩ := fc_un (show (20 : Nat) < 100 from by decide) hf
  have f12 : BZ1 (w_ei w1 (w_ar w1 (n_v vs 2) 142)) (v_iv (n_v vs 4)) := f12
  have q2 : n_v vs 2 = n_v vs 0 := f4.symm
  have q3 : n_v vs 3 = n_v vs 1 := f5.symm
  rw [q2] at f1
  rw [q2] at f2
  rw [q3] at f2
  rw [q2] at f3
  rw [q2] at f7
  rw [q2] at f9
  rw [q2] at f10
  rw [q3] at f10
  rw [q2] at f11
  rw [q2] at f12
  have ar_0_140_1 : w_ar w1 (n_v vs 0) 140 = w_ar ws (n_v vs 0) 140 := by show v_ad (w_fd w1 _ _) = v_ad (w_fd ws _ _); rw [s1.2]
  have cr_0_140 : ta (w_ar ws (n_v vs 0) 140) = some 251 := tv_rg (th_fd hD hth r0 (g := GG_150) rfl (k := 140) (t := (2, 0, 0, [251])) rfl rfl)
  have ar_0_142_1 : w_ar w1 (n_v vs 0) 142 = w_ar ws (n_v vs 0) 142 := by show v_ad (w_fd w1 _ _) = v_ad (w_fd ws _ _); rw [s1.2]
  have cr_0_142 : ta (w_ar ws (n_v vs 0) 142) = some 253 := tv_rg (th_fd hD hth r0 (g := GG_150) rfl (k := 142) (t := (2, 0, 0, [253])) rfl rfl)
  have ad_6 : v_ad (n_v vs 6) = w_ar ws (n_v vs 0) 142 := (congrArg v_ad f7).trans ar_0_142_1
  rw [ar_0_140_1] at f11
  rw [ar_0_142_1] at f12
  have fe_0_146_1 : w_fi ws (n_v vs 0) 146 = w_fi w1 (n_v vs 0) 146 := congrArg v_iv (s1.2 _ _)
  have fe_0_147_1 : w_fi ws (n_v vs 0) 147 = w_fi w1 (n_v vs 0) 147 := congrArg v_iv (s1.2 _ _)
  have hE_0_140_1 : ∀ j : Int, w_ei ws (w_ar ws (n_v vs 0) 140) j = w_ei w1 (w_ar ws (n_v vs 0) 140) j := fun j => by unfold w_ei; rw [s1.1, if_neg (fun e => by have e1 := e.1; rw [← e1] at r6; rw [cr_0_140] at r6; exact absurd (Option.some.inj r6) (by decide))]
  have hK_0_140 : ∀ j : Int, 0 ≤ j → j < 24000 → 0 ≤ w_ei ws (w_ar ws (n_v vs 0) 140) j ∧ w_ei ws (w_ar ws (n_v vs 0) 140) j ≤ 1000000 := fun j h0 h1 => th_el hD hth cr_0_140 (kd := 0) (n := 24000) (m := 24000) (lo := 0) (hi := 1000000) (rs := []) (L := []) rfl (by decide) (j := j.toNat) (by omega)
  have hE_0_142_1 : ∀ j : Int, 0 ≤ j → (j = v_iv (n_v vs 4) → w_ei ws (w_ar ws (n_v vs 0) 142) j = v_iv (n_v vs 7)) ∧ (j ≠ v_iv (n_v vs 4) → w_ei ws (w_ar ws (n_v vs 0) 142) j = w_ei w1 (w_ar ws (n_v vs 0) 142) j) := fun j hj => ⟨fun h => by unfold w_ei; rw [s1.1, if_pos ⟨ad_6.symm, by rw [h]⟩], fun h => by unfold w_ei; rw [s1.1, if_neg (fun e => h (by have := e.2; omega))]⟩
  have hK_0_142 : ∀ j : Int, 0 ≤ j → j < 4 → 0 ≤ w_ei ws (w_ar ws (n_v vs 0) 142) j ∧ w_ei ws (w_ar ws (n_v vs 0) 142) j ≤ 24009 := fun j h0 h1 => th_el hD hth cr_0_142 (kd := 0) (n := 4) (m := 4) (lo := 0) (hi := 24009) (rs := []) (L := []) rfl (by decide) (j := j.toNat) (by omega)
  have pe_0_146_147_1 : w_fi ws (n_v vs 0) 146 * w_fi ws (n_v vs 0) 147 = w_fi w1 (n_v vs 0) 146 * w_fi w1 (n_v vs 0) 147 := by rw [fe_0_146_1, fe_0_147_1]
  have kz_0_146 : (-2147483648) ≤ w_fi ws (n_v vs 0) 146 ∧ w_fi ws (n_v vs 0) 146 ≤ 2147483647 := tv_rng (th_fd hD hth r0 (g := GG_150) rfl (k := 146) (t := (0, -2147483648, 2147483647, [])) rfl rfl)
  have kz_0_147 : (-2147483648) ≤ w_fi ws (n_v vs 0) 147 ∧ w_fi ws (n_v vs 0) 147 ≤ 2147483647 := tv_rng (th_fd hD hth r0 (g := GG_150) rfl (k := 147) (t := (0, -2147483648, 2147483647, [])) rfl rfl)
  have nf0 : fc_1 PRD (20, [2, 8], [60, 0, 1, 427, 142]) ws (vs) := by
    refine ⟨fun n hn => ?_, ?_⟩
    · have hn : n ∈ [2, 8] := hn
      rw [hl]
      simp only [List.mem_cons, List.not_mem_nil, or_false] at hn
      show n < 9; omega
    · show BZ1 (w_ei ws (w_ar ws (n_v vs 2) 142)) (v_iv (n_v vs 8))
      rw [q2]
      exact vc_Mo_spread_8_0 (v_iv (n_v vs 1)) (v_iv (n_v vs 3)) (v_iv (n_v vs 4)) (v_iv (n_v vs 5)) (v_iv (n_v vs 7)) (v_iv (n_v vs 8)) (w_fi ws (n_v vs 0) 146) (w_fi ws (n_v vs 0) 147) (w_ei ws (w_ar ws (n_v vs 0) 140)) (w_fi w1 (n_v vs 0) 146) (w_fi w1 (n_v vs 0) 147) (w_ei w1 (w_ar ws (n_v vs 0) 140)) (w_ei w1 (w_ar ws (n_v vs 0) 142)) (w_ei ws (w_ar ws (n_v vs 0) 142)) k1 k3 k4 k5 k7 k8 d0 d1 d2 f0 f1 f2 f3 f8 f9 f10 f11 f12 fe_0_146_1 fe_0_147_1 hE_0_140_1 hK_0_140 hE_0_142_1 hK_0_142 kz_0_146 kz_0_147
  refine ⟨(fun _ h => (by cases h)), [], trivial, ?_, (fun _ h => (by cases h))⟩
  rw [List.append_nil]
  exact List.forall_mem_cons.mpr ⟨⟨show (20 : Nat) < 100 from by decide, nf0⟩, (fun _ h => (by cases h))⟩
set_option maxHeartbeats 4000000 in
theorem vc_Mo_spread_9_0 (x1 : Int) (x3 : Int) (x6 : Int) (x7 : Int) (wide_0 : Int) (tall_0 : Int) (barredPoint_0 : Int → Int) (costOf_0 : Int → Int) (bucket_0 : Int → Int) (bucketMany_0 : Int → Int) (k1 : 0 ≤ x1 ∧ x1 ≤ 5999) (k3 : 0 ≤ x3 ∧ x3 ≤ 5999) (k6 : 0 ≤ x6 ∧ x6 ≤ 0) (k7 : 0 ≤ x7 ∧ x7 ≤ 0) (d0 : x3 + (-4294967296) ≤ x1 ∧ x1 ≤ x3 + 0) (d1 : x1 + (-4294967296) ≤ x3 ∧ x3 ≤ x1 + 0) (f0 : (0 ≤ x1) ∧ ((x1 + 1) ≤ (wide_0 * tall_0))) (f1 : RT0 (wide_0) (tall_0) (barredPoint_0) (costOf_0) (bucket_0) (bucketMany_0) (x1)) (f2 : barredPoint_0 (x1) = 0) (hK_0_140 : ∀ j : Int, 0 ≤ j → j < 24000 → 0 ≤ costOf_0 j ∧ costOf_0 j ≤ 1000000) (hK_0_141 : ∀ j : Int, 0 ≤ j → j < 96040 → 0 ≤ bucket_0 j ∧ bucket_0 j ≤ 23999) (hK_0_142 : ∀ j : Int, 0 ≤ j → j < 4 → 0 ≤ bucketMany_0 j ∧ bucketMany_0 j ≤ 24009) (hK_0_143 : ∀ j : Int, 0 ≤ j → j < 6000 → 0 ≤ barredPoint_0 j ∧ barredPoint_0 j ≤ 1) (kz_0_146 : (-2147483648) ≤ wide_0 ∧ wide_0 ≤ 2147483647) (kz_0_147 : (-2147483648) ≤ tall_0 ∧ tall_0 ≤ 2147483647) : RTQ (wide_0) (tall_0) (barredPoint_0) (costOf_0) (bucket_0) (bucketMany_0) (x1) (x6) := by
  first
    | (have h := ‹RT0 _ _ _ _ _ _ _›; unfold RT0 at h; rw [show (0 : Int) = x6 by omega] at h; exact h)
    | exact spr_next (b := x6) ‹RTQ _ _ _ _ _ _ _ _› (by omega) (by assumption) (by omega) (by assumption)
set_option maxHeartbeats 4000000 in
theorem vc_Mo_spread_9_1 (x1 : Int) (x3 : Int) (x6 : Int) (x7 : Int) (wide_0 : Int) (tall_0 : Int) (barredPoint_0 : Int → Int) (costOf_0 : Int → Int) (bucket_0 : Int → Int) (bucketMany_0 : Int → Int) (k1 : 0 ≤ x1 ∧ x1 ≤ 5999) (k3 : 0 ≤ x3 ∧ x3 ≤ 5999) (k6 : 0 ≤ x6 ∧ x6 ≤ 0) (k7 : 0 ≤ x7 ∧ x7 ≤ 0) (d0 : x3 + (-4294967296) ≤ x1 ∧ x1 ≤ x3 + 0) (d1 : x1 + (-4294967296) ≤ x3 ∧ x3 ≤ x1 + 0) (f0 : (0 ≤ x1) ∧ ((x1 + 1) ≤ (wide_0 * tall_0))) (f1 : RT0 (wide_0) (tall_0) (barredPoint_0) (costOf_0) (bucket_0) (bucketMany_0) (x1)) (f2 : barredPoint_0 (x1) = 0) (hK_0_140 : ∀ j : Int, 0 ≤ j → j < 24000 → 0 ≤ costOf_0 j ∧ costOf_0 j ≤ 1000000) (hK_0_141 : ∀ j : Int, 0 ≤ j → j < 96040 → 0 ≤ bucket_0 j ∧ bucket_0 j ≤ 23999) (hK_0_142 : ∀ j : Int, 0 ≤ j → j < 4 → 0 ≤ bucketMany_0 j ∧ bucketMany_0 j ≤ 24009) (hK_0_143 : ∀ j : Int, 0 ≤ j → j < 6000 → 0 ≤ barredPoint_0 j ∧ barredPoint_0 j ≤ 1) (kz_0_146 : (-2147483648) ≤ wide_0 ∧ wide_0 ≤ 2147483647) (kz_0_147 : (-2147483648) ≤ tall_0 ∧ tall_0 ≤ 2147483647) : (0 ≤ x7) ∧ ((x6 - x7) ≤ 1000000) := by
  first
    | omega
    | (have g := gok_bd ‹GRX _ _›; omega)
    | (have h := bm_pos (b := x8) (m := x10) ‹RTQ _ _ _ _ _ _ _ _› (by omega) (by assumption); omega)
    | (have h := bk_at (b := x6) (k := x7) (s := x14) (q := x13) ‹RTQ _ _ _ _ _ _ _ _› (by omega) (by omega) (by omega) (by omega) (by assumption); omega)
    | (have h := bm_pos (b := x6) (m := x9) ‹RTQ _ _ _ _ _ _ _ _› (by omega) (by assumption); omega)
    | (have g := gok_bd (show GRX wide_0 tall_0 from ‹RTQ _ _ _ _ _ _ _ _›.1); omega)
def o_Mo_spread_9 : or_T := (89, 8, [(0, (2, 0, 0, [150])), (1, (0, 0, 5999, [])), (2, (2, 0, 0, [150])), (3, (0, 0, 5999, [])), (6, (0, 0, 0, [])), (7, (0, 0, 0, []))], [(20, [3, 2], [50, 2, 0, 1146, 1147, 2, 6, 0, 2, 0, 0, 1, 0, 0, 6, 4, 2, 1, 0, 0, 1, 6, 3, 2, 1, 146, 2, 1, 147]), (20, [2, 3], [60, 2, 4, 420, 146, 147, 143, 140, 141, 142]), (20, [2, 3], [50, 0, 1, 143, 1, 5, 3, 0, 143, 1, 1, 0, 0]), (24, [0, 2], []), (24, [1, 3], [])], [], [], [(20, [2, 3, 6], [60, 2, 4, 419, 146, 147, 143, 140, 141, 142]), (20, [7, 6], [50, 0, 0, 2, 6, 0, 2, 0, 0, 1, 0, 0, 6, 5, 2, 1, 1, 1, 0, 0, 1000000])], [], [(1, 3, -4294967296, 0), (3, 1, -4294967296, 0)])
theorem oo_Mo_spread_9 {kA : Nat → ClassId} : or_ok PRD kA GG o_Mo_spread_9 := by
  intro A ta ws vs hD hth hl hk hds hf
  have hl : vs.length = 8 := hl
  have hk : ∀ q ∈ ([(0, (2, 0, 0, [150])), (1, (0, 0, 5999, [])), (2, (2, 0, 0, [150])), (3, (0, 0, 5999, [])), (6, (0, 0, 0, [])), (7, (0, 0, 0, []))] : List (Nat × tv_T)), tv_ok ta q.2 (n_v vs q.1) := hk
  obtain ⟨t0, hk⟩ := List.forall_mem_cons.mp hk
  have t0 : tv_ok ta (2, 0, 0, [150]) (n_v vs 0) := t0
  have r0 : ta (v_ad (n_v vs 0)) = some 150 := tv_rg t0
  obtain ⟨t1, hk⟩ := List.forall_mem_cons.mp hk
  have t1 : tv_ok ta (0, 0, 5999, []) (n_v vs 1) := t1
  have k1 : 0 ≤ v_iv (n_v vs 1) ∧ v_iv (n_v vs 1) ≤ 5999 := tv_rng t1
  obtain ⟨t2, hk⟩ := List.forall_mem_cons.mp hk
  have t2 : tv_ok ta (2, 0, 0, [150]) (n_v vs 2) := t2
  have r2 : ta (v_ad (n_v vs 2)) = some 150 := tv_rg t2
  obtain ⟨t3, hk⟩ := List.forall_mem_cons.mp hk
  have t3 : tv_ok ta (0, 0, 5999, []) (n_v vs 3) := t3
  have k3 : 0 ≤ v_iv (n_v vs 3) ∧ v_iv (n_v vs 3) ≤ 5999 := tv_rng t3
  obtain ⟨t6, hk⟩ := List.forall_mem_cons.mp hk
  have t6 : tv_ok ta (0, 0, 0, []) (n_v vs 6) := t6
  have k6 : 0 ≤ v_iv (n_v vs 6) ∧ v_iv (n_v vs 6) ≤ 0 := tv_rng t6
  obtain ⟨t7, hk⟩ := List.forall_mem_cons.mp hk
  have t7 : tv_ok ta (0, 0, 0, []) (n_v vs 7) := t7
  have k7 : 0 ≤ v_iv (n_v vs 7) ∧ v_iv (n_v vs 7) ≤ 0 := tv_rng t7
  have hds : ∀ q ∈ ([(1, 3, -4294967296, 0), (3, 1, -4294967296, 0)] : List of_T), n_iv vs q.2.1 + q.2.2.1 ≤ n_iv vs q.1 ∧ n_iv vs q.1 ≤ n_iv vs q.2.1 + q.2.2.2 := hds
  obtain ⟨d0, hds⟩ := List.forall_mem_cons.mp hds
  have d0 : v_iv (n_v vs 3) + (-4294967296) ≤ v_iv (n_v vs 1) ∧ v_iv (n_v vs 1) ≤ v_iv (n_v vs 3) + 0 := d0
  obtain ⟨d1, hds⟩ := List.forall_mem_cons.mp hds
  have d1 : v_iv (n_v vs 1) + (-4294967296) ≤ v_iv (n_v vs 3) ∧ v_iv (n_v vs 3) ≤ v_iv (n_v vs 1) + 0 := d1
  have hf : fc_ok PRD [(20, [3, 2], [50, 2, 0, 1146, 1147, 2, 6, 0, 2, 0, 0, 1, 0, 0, 6, 4, 2, 1, 0, 0, 1, 6, 3, 2, 1, 146, 2, 1, 147]), (20, [2, 3], [60, 2, 4, 420, 146, 147, 143, 140, 141, 142]), (20, [2, 3], [50, 0, 1, 143, 1, 5, 3, 0, 143, 1, 1, 0, 0]), (24, [0, 2], []), (24, [1, 3], [])] ta ws vs := hf
  obtain ⟨f0, hf⟩ := fc_un (show (20 : Nat) < 100 from by decide) hf
  have f0 : (0 ≤ v_iv (n_v vs 3)) ∧ ((v_iv (n_v vs 3) + 1) ≤ (w_fi ws (n_v vs 2) 146 * w_fi ws (n_v vs 2) 147)) := f0
  obtain ⟨f1, hf⟩ := fc_un (show (20 : Nat) < 100 from by decide) hf
  have f1 : RT0 (w_fi ws (n_v vs 2) 146) (w_fi ws (n_v vs 2) 147) (w_ei ws (w_ar ws (n_v vs 2) 143)) (w_ei ws (w_ar ws (n_v vs 2) 140)) (w_ei ws (w_ar ws (n_v vs 2) 141)) (w_ei ws (w_ar ws (n_v vs 2) 142)) (v_iv (n_v vs 3)) := f1
  obtain ⟨f2, hf⟩ := fc_un (show (20 : Nat) < 100 from by decide) hf
  have f2 : w_ei ws (w_ar ws (n_v vs 2) 143) (v_iv (n_v vs 3)) = 0 := f2
  obtain ⟨f3, hf⟩ := fc_un (show (24 : Nat) < 100 from by decide) hf
  have f3 : n_v vs 0 = n_v vs 2 := f3
  obtain ⟨f4, hf⟩ := fc_un (show (24 : Nat) < 100 from by decide) hf
  have f4 : n_v vs 1 = n_v vs 3 := f4
  have q2 : n_v vs 2 = n_v vs 0 := f3.symm
  have q3 : n_v vs 3 = n_v vs 1 := f4.symm
  rw [q2] at f0
  rw [q3] at f0
  rw [q2] at f1
  rw [q3] at f1
  rw [q2] at f2
  rw [q3] at f2
  have cr_0_140 : ta (w_ar ws (n_v vs 0) 140) = some 251 := tv_rg (th_fd hD hth r0 (g := GG_150) rfl (k := 140) (t := (2, 0, 0, [251])) rfl rfl)
  have cr_0_141 : ta (w_ar ws (n_v vs 0) 141) = some 252 := tv_rg (th_fd hD hth r0 (g := GG_150) rfl (k := 141) (t := (2, 0, 0, [252])) rfl rfl)
  have cr_0_142 : ta (w_ar ws (n_v vs 0) 142) = some 253 := tv_rg (th_fd hD hth r0 (g := GG_150) rfl (k := 142) (t := (2, 0, 0, [253])) rfl rfl)
  have cr_0_143 : ta (w_ar ws (n_v vs 0) 143) = some 254 := tv_rg (th_fd hD hth r0 (g := GG_150) rfl (k := 143) (t := (2, 0, 0, [254])) rfl rfl)
  have hK_0_140 : ∀ j : Int, 0 ≤ j → j < 24000 → 0 ≤ w_ei ws (w_ar ws (n_v vs 0) 140) j ∧ w_ei ws (w_ar ws (n_v vs 0) 140) j ≤ 1000000 := fun j h0 h1 => th_el hD hth cr_0_140 (kd := 0) (n := 24000) (m := 24000) (lo := 0) (hi := 1000000) (rs := []) (L := []) rfl (by decide) (j := j.toNat) (by omega)
  have hK_0_141 : ∀ j : Int, 0 ≤ j → j < 96040 → 0 ≤ w_ei ws (w_ar ws (n_v vs 0) 141) j ∧ w_ei ws (w_ar ws (n_v vs 0) 141) j ≤ 23999 := fun j h0 h1 => th_el hD hth cr_0_141 (kd := 0) (n := 96040) (m := 96040) (lo := 0) (hi := 23999) (rs := []) (L := []) rfl (by decide) (j := j.toNat) (by omega)
  have hK_0_142 : ∀ j : Int, 0 ≤ j → j < 4 → 0 ≤ w_ei ws (w_ar ws (n_v vs 0) 142) j ∧ w_ei ws (w_ar ws (n_v vs 0) 142) j ≤ 24009 := fun j h0 h1 => th_el hD hth cr_0_142 (kd := 0) (n := 4) (m := 4) (lo := 0) (hi := 24009) (rs := []) (L := []) rfl (by decide) (j := j.toNat) (by omega)
  have hK_0_143 : ∀ j : Int, 0 ≤ j → j < 6000 → 0 ≤ w_ei ws (w_ar ws (n_v vs 0) 143) j ∧ w_ei ws (w_ar ws (n_v vs 0) 143) j ≤ 1 := fun j h0 h1 => th_el hD hth cr_0_143 (kd := 2) (n := 6000) (m := 6000) (lo := 0) (hi := 1) (rs := []) (L := []) rfl (by decide) (j := j.toNat) (by omega)
  have kz_0_146 : (-2147483648) ≤ w_fi ws (n_v vs 0) 146 ∧ w_fi ws (n_v vs 0) 146 ≤ 2147483647 := tv_rng (th_fd hD hth r0 (g := GG_150) rfl (k := 146) (t := (0, -2147483648, 2147483647, [])) rfl rfl)
  have kz_0_147 : (-2147483648) ≤ w_fi ws (n_v vs 0) 147 ∧ w_fi ws (n_v vs 0) 147 ≤ 2147483647 := tv_rng (th_fd hD hth r0 (g := GG_150) rfl (k := 147) (t := (0, -2147483648, 2147483647, [])) rfl rfl)
  have nf0 : fc_1 PRD (20, [2, 3, 6], [60, 2, 4, 419, 146, 147, 143, 140, 141, 142]) ws (vs) := by
    refine ⟨fun n hn => ?_, ?_⟩
    · have hn : n ∈ [2, 3, 6] := hn
      rw [hl]
      simp only [List.mem_cons, List.not_mem_nil, or_false] at hn
      show n < 8; omega
    · show RTQ (w_fi ws (n_v vs 2) 146) (w_fi ws (n_v vs 2) 147) (w_ei ws (w_ar ws (n_v vs 2) 143)) (w_ei ws (w_ar ws (n_v vs 2) 140)) (w_ei ws (w_ar ws (n_v vs 2) 141)) (w_ei ws (w_ar ws (n_v vs 2) 142)) (v_iv (n_v vs 3)) (v_iv (n_v vs 6))
      rw [q2, q3]
      exact vc_Mo_spread_9_0 (v_iv (n_v vs 1)) (v_iv (n_v vs 3)) (v_iv (n_v vs 6)) (v_iv (n_v vs 7)) (w_fi ws (n_v vs 0) 146) (w_fi ws (n_v vs 0) 147) (w_ei ws (w_ar ws (n_v vs 0) 143)) (w_ei ws (w_ar ws (n_v vs 0) 140)) (w_ei ws (w_ar ws (n_v vs 0) 141)) (w_ei ws (w_ar ws (n_v vs 0) 142)) k1 k3 k6 k7 d0 d1 f0 f1 f2 hK_0_140 hK_0_141 hK_0_142 hK_0_143 kz_0_146 kz_0_147
  have nf1 : fc_1 PRD (20, [7, 6], [50, 0, 0, 2, 6, 0, 2, 0, 0, 1, 0, 0, 6, 5, 2, 1, 1, 1, 0, 0, 1000000]) ws (vs) := by
    refine ⟨fun n hn => ?_, ?_⟩
    · have hn : n ∈ [7, 6] := hn
      rw [hl]
      simp only [List.mem_cons, List.not_mem_nil, or_false] at hn
      show n < 8; omega
    · show (0 ≤ v_iv (n_v vs 7)) ∧ ((v_iv (n_v vs 6) - v_iv (n_v vs 7)) ≤ 1000000)
      exact vc_Mo_spread_9_1 (v_iv (n_v vs 1)) (v_iv (n_v vs 3)) (v_iv (n_v vs 6)) (v_iv (n_v vs 7)) (w_fi ws (n_v vs 0) 146) (w_fi ws (n_v vs 0) 147) (w_ei ws (w_ar ws (n_v vs 0) 143)) (w_ei ws (w_ar ws (n_v vs 0) 140)) (w_ei ws (w_ar ws (n_v vs 0) 141)) (w_ei ws (w_ar ws (n_v vs 0) 142)) k1 k3 k6 k7 d0 d1 f0 f1 f2 hK_0_140 hK_0_141 hK_0_142 hK_0_143 kz_0_146 kz_0_147
  refine ⟨(fun _ h => (by cases h)), [], trivial, ?_, (fun _ h => (by cases h))⟩
  rw [List.append_nil]
  exact List.forall_mem_cons.mpr ⟨⟨show (20 : Nat) < 100 from by decide, nf0⟩, List.forall_mem_cons.mpr ⟨⟨show (20 : Nat) < 100 from by decide, nf1⟩, (fun _ h => (by cases h))⟩⟩
set_option maxHeartbeats 4000000 in
theorem vc_Mo_spread_10_0 (x1 : Int) (x3 : Int) (x4 : Int) (x5 : Int) (x6 : Int) (x7 : Int) (x8 : Int) (x9 : Int) (wide_0 : Int) (tall_0 : Int) (barredPoint_0 : Int → Int) (costOf_0 : Int → Int) (bucket_0 : Int → Int) (bucketMany_0 : Int → Int) (gx : Int) (k1 : 0 ≤ x1 ∧ x1 ≤ 5999) (k3 : 0 ≤ x3 ∧ x3 ≤ 5999) (k4 : 0 ≤ x4 ∧ x4 ≤ 3) (k5 : 4 ≤ x5 ∧ x5 ≤ 4) (k6 : 4 ≤ x6 ∧ x6 ≤ 4) (k7 : 0 ≤ x7 ∧ x7 ≤ 23996) (k8 : 0 ≤ x8 ∧ x8 ≤ 23999) (k9 : 0 ≤ x9 ∧ x9 ≤ 0) (d0 : x4 + 0 ≤ x8 ∧ x8 ≤ x4 + 23996) (d1 : x7 + 0 ≤ x8 ∧ x8 ≤ x7 + 3) (d2 : x3 + (-4294967296) ≤ x1 ∧ x1 ≤ x3 + 0) (d3 : x1 + (-4294967296) ≤ x3 ∧ x3 ≤ x1 + 0) (f0 : x8 = x7 + x4) (f1 : x7 = 4 * x1) (f2 : x4 < x5) (f3 : (0 ≤ x1) ∧ ((x1 + 1) ≤ (wide_0 * tall_0))) (f4 : RT0 (wide_0) (tall_0) (barredPoint_0) (costOf_0) (bucket_0) (bucketMany_0) (x1)) (f5 : barredPoint_0 (x1) = 0) (hK_0_140 : ∀ j : Int, 0 ≤ j → j < 24000 → 0 ≤ costOf_0 j ∧ costOf_0 j ≤ 1000000) (hK_0_141 : ∀ j : Int, 0 ≤ j → j < 96040 → 0 ≤ bucket_0 j ∧ bucket_0 j ≤ 23999) (hK_0_142 : ∀ j : Int, 0 ≤ j → j < 4 → 0 ≤ bucketMany_0 j ∧ bucketMany_0 j ≤ 24009) (hK_0_143 : ∀ j : Int, 0 ≤ j → j < 6000 → 0 ≤ barredPoint_0 j ∧ barredPoint_0 j ≤ 1) (kz_0_146 : (-2147483648) ≤ wide_0 ∧ wide_0 ≤ 2147483647) (kz_0_147 : (-2147483648) ≤ tall_0 ∧ tall_0 ≤ 2147483647) (ex2 : gx = x1) (ex3 : 0 ≤ gx ∧ gx ≤ 5999) : 1 * gx + ((-1) * x1 + 0) ≤ 0 := by
  first
    | omega
    | (have g := gok_bd ‹GRX _ _›; omega)
    | (have h := bm_pos (b := x8) (m := x10) ‹RTQ _ _ _ _ _ _ _ _› (by omega) (by assumption); omega)
    | (have h := bk_at (b := x6) (k := x7) (s := x14) (q := x13) ‹RTQ _ _ _ _ _ _ _ _› (by omega) (by omega) (by omega) (by omega) (by assumption); omega)
    | (have h := bm_pos (b := x6) (m := x9) ‹RTQ _ _ _ _ _ _ _ _› (by omega) (by assumption); omega)
    | (have g := gok_bd (show GRX wide_0 tall_0 from ‹RTQ _ _ _ _ _ _ _ _›.1); omega)
set_option maxHeartbeats 4000000 in
theorem vc_Mo_spread_10_1 (x1 : Int) (x3 : Int) (x4 : Int) (x5 : Int) (x6 : Int) (x7 : Int) (x8 : Int) (x9 : Int) (wide_0 : Int) (tall_0 : Int) (barredPoint_0 : Int → Int) (costOf_0 : Int → Int) (bucket_0 : Int → Int) (bucketMany_0 : Int → Int) (gx : Int) (k1 : 0 ≤ x1 ∧ x1 ≤ 5999) (k3 : 0 ≤ x3 ∧ x3 ≤ 5999) (k4 : 0 ≤ x4 ∧ x4 ≤ 3) (k5 : 4 ≤ x5 ∧ x5 ≤ 4) (k6 : 4 ≤ x6 ∧ x6 ≤ 4) (k7 : 0 ≤ x7 ∧ x7 ≤ 23996) (k8 : 0 ≤ x8 ∧ x8 ≤ 23999) (k9 : 0 ≤ x9 ∧ x9 ≤ 0) (d0 : x4 + 0 ≤ x8 ∧ x8 ≤ x4 + 23996) (d1 : x7 + 0 ≤ x8 ∧ x8 ≤ x7 + 3) (d2 : x3 + (-4294967296) ≤ x1 ∧ x1 ≤ x3 + 0) (d3 : x1 + (-4294967296) ≤ x3 ∧ x3 ≤ x1 + 0) (f0 : x8 = x7 + x4) (f1 : x7 = 4 * x1) (f2 : x4 < x5) (f3 : (0 ≤ x1) ∧ ((x1 + 1) ≤ (wide_0 * tall_0))) (f4 : RT0 (wide_0) (tall_0) (barredPoint_0) (costOf_0) (bucket_0) (bucketMany_0) (x1)) (f5 : barredPoint_0 (x1) = 0) (hK_0_140 : ∀ j : Int, 0 ≤ j → j < 24000 → 0 ≤ costOf_0 j ∧ costOf_0 j ≤ 1000000) (hK_0_141 : ∀ j : Int, 0 ≤ j → j < 96040 → 0 ≤ bucket_0 j ∧ bucket_0 j ≤ 23999) (hK_0_142 : ∀ j : Int, 0 ≤ j → j < 4 → 0 ≤ bucketMany_0 j ∧ bucketMany_0 j ≤ 24009) (hK_0_143 : ∀ j : Int, 0 ≤ j → j < 6000 → 0 ≤ barredPoint_0 j ∧ barredPoint_0 j ≤ 1) (kz_0_146 : (-2147483648) ≤ wide_0 ∧ wide_0 ≤ 2147483647) (kz_0_147 : (-2147483648) ≤ tall_0 ∧ tall_0 ≤ 2147483647) (ex2 : gx = x1) (ex3 : 0 ≤ gx ∧ gx ≤ 5999) : (-1) * gx + (1 * x1 + 0) ≤ 0 := by
  first
    | omega
    | (have g := gok_bd ‹GRX _ _›; omega)
    | (have h := bm_pos (b := x8) (m := x10) ‹RTQ _ _ _ _ _ _ _ _› (by omega) (by assumption); omega)
    | (have h := bk_at (b := x6) (k := x7) (s := x14) (q := x13) ‹RTQ _ _ _ _ _ _ _ _› (by omega) (by omega) (by omega) (by omega) (by assumption); omega)
    | (have h := bm_pos (b := x6) (m := x9) ‹RTQ _ _ _ _ _ _ _ _› (by omega) (by assumption); omega)
    | (have g := gok_bd (show GRX wide_0 tall_0 from ‹RTQ _ _ _ _ _ _ _ _›.1); omega)
set_option maxHeartbeats 4000000 in
theorem vc_Mo_spread_10_2 (x1 : Int) (x3 : Int) (x4 : Int) (x5 : Int) (x6 : Int) (x7 : Int) (x8 : Int) (x9 : Int) (wide_0 : Int) (tall_0 : Int) (barredPoint_0 : Int → Int) (costOf_0 : Int → Int) (bucket_0 : Int → Int) (bucketMany_0 : Int → Int) (gx : Int) (k1 : 0 ≤ x1 ∧ x1 ≤ 5999) (k3 : 0 ≤ x3 ∧ x3 ≤ 5999) (k4 : 0 ≤ x4 ∧ x4 ≤ 3) (k5 : 4 ≤ x5 ∧ x5 ≤ 4) (k6 : 4 ≤ x6 ∧ x6 ≤ 4) (k7 : 0 ≤ x7 ∧ x7 ≤ 23996) (k8 : 0 ≤ x8 ∧ x8 ≤ 23999) (k9 : 0 ≤ x9 ∧ x9 ≤ 0) (d0 : x4 + 0 ≤ x8 ∧ x8 ≤ x4 + 23996) (d1 : x7 + 0 ≤ x8 ∧ x8 ≤ x7 + 3) (d2 : x3 + (-4294967296) ≤ x1 ∧ x1 ≤ x3 + 0) (d3 : x1 + (-4294967296) ≤ x3 ∧ x3 ≤ x1 + 0) (f0 : x8 = x7 + x4) (f1 : x7 = 4 * x1) (f2 : x4 < x5) (f3 : (0 ≤ x1) ∧ ((x1 + 1) ≤ (wide_0 * tall_0))) (f4 : RT0 (wide_0) (tall_0) (barredPoint_0) (costOf_0) (bucket_0) (bucketMany_0) (x1)) (f5 : barredPoint_0 (x1) = 0) (hK_0_140 : ∀ j : Int, 0 ≤ j → j < 24000 → 0 ≤ costOf_0 j ∧ costOf_0 j ≤ 1000000) (hK_0_141 : ∀ j : Int, 0 ≤ j → j < 96040 → 0 ≤ bucket_0 j ∧ bucket_0 j ≤ 23999) (hK_0_142 : ∀ j : Int, 0 ≤ j → j < 4 → 0 ≤ bucketMany_0 j ∧ bucketMany_0 j ≤ 24009) (hK_0_143 : ∀ j : Int, 0 ≤ j → j < 6000 → 0 ≤ barredPoint_0 j ∧ barredPoint_0 j ≤ 1) (kz_0_146 : (-2147483648) ≤ wide_0 ∧ wide_0 ≤ 2147483647) (kz_0_147 : (-2147483648) ≤ tall_0 ∧ tall_0 ≤ 2147483647) (ex2 : gx = x1) (ex3 : 0 ≤ gx ∧ gx ≤ 5999) : RT0 (wide_0) (tall_0) (barredPoint_0) (costOf_0) (bucket_0) (bucketMany_0) (gx) := by
  first
    | (rw [ex2]; assumption)
    | assumption
set_option maxHeartbeats 4000000 in
theorem vc_Mo_spread_10_3 (x1 : Int) (x3 : Int) (x4 : Int) (x5 : Int) (x6 : Int) (x7 : Int) (x8 : Int) (x9 : Int) (wide_0 : Int) (tall_0 : Int) (barredPoint_0 : Int → Int) (costOf_0 : Int → Int) (bucket_0 : Int → Int) (bucketMany_0 : Int → Int) (gx : Int) (k1 : 0 ≤ x1 ∧ x1 ≤ 5999) (k3 : 0 ≤ x3 ∧ x3 ≤ 5999) (k4 : 0 ≤ x4 ∧ x4 ≤ 3) (k5 : 4 ≤ x5 ∧ x5 ≤ 4) (k6 : 4 ≤ x6 ∧ x6 ≤ 4) (k7 : 0 ≤ x7 ∧ x7 ≤ 23996) (k8 : 0 ≤ x8 ∧ x8 ≤ 23999) (k9 : 0 ≤ x9 ∧ x9 ≤ 0) (d0 : x4 + 0 ≤ x8 ∧ x8 ≤ x4 + 23996) (d1 : x7 + 0 ≤ x8 ∧ x8 ≤ x7 + 3) (d2 : x3 + (-4294967296) ≤ x1 ∧ x1 ≤ x3 + 0) (d3 : x1 + (-4294967296) ≤ x3 ∧ x3 ≤ x1 + 0) (f0 : x8 = x7 + x4) (f1 : x7 = 4 * x1) (f2 : x4 < x5) (f3 : (0 ≤ x1) ∧ ((x1 + 1) ≤ (wide_0 * tall_0))) (f4 : RT0 (wide_0) (tall_0) (barredPoint_0) (costOf_0) (bucket_0) (bucketMany_0) (x1)) (f5 : barredPoint_0 (x1) = 0) (hK_0_140 : ∀ j : Int, 0 ≤ j → j < 24000 → 0 ≤ costOf_0 j ∧ costOf_0 j ≤ 1000000) (hK_0_141 : ∀ j : Int, 0 ≤ j → j < 96040 → 0 ≤ bucket_0 j ∧ bucket_0 j ≤ 23999) (hK_0_142 : ∀ j : Int, 0 ≤ j → j < 4 → 0 ≤ bucketMany_0 j ∧ bucketMany_0 j ≤ 24009) (hK_0_143 : ∀ j : Int, 0 ≤ j → j < 6000 → 0 ≤ barredPoint_0 j ∧ barredPoint_0 j ≤ 1) (kz_0_146 : (-2147483648) ≤ wide_0 ∧ wide_0 ≤ 2147483647) (kz_0_147 : (-2147483648) ≤ tall_0 ∧ tall_0 ≤ 2147483647) (ex2 : gx = x1) (ex3 : 0 ≤ gx ∧ gx ≤ 5999) : RJ0 (wide_0) (tall_0) (barredPoint_0) (costOf_0) (gx) (x8) (x9) := by
  rw [ex2]
  exact rjb_i (by omega) (by omega) (by omega) (by assumption) (by omega)
set_option maxHeartbeats 4000000 in
theorem vc_Mo_spread_10_4 (x1 : Int) (x3 : Int) (x4 : Int) (x5 : Int) (x6 : Int) (x7 : Int) (x8 : Int) (x9 : Int) (wide_0 : Int) (tall_0 : Int) (barredPoint_0 : Int → Int) (costOf_0 : Int → Int) (bucket_0 : Int → Int) (bucketMany_0 : Int → Int) (gx : Int) (k1 : 0 ≤ x1 ∧ x1 ≤ 5999) (k3 : 0 ≤ x3 ∧ x3 ≤ 5999) (k4 : 0 ≤ x4 ∧ x4 ≤ 3) (k5 : 4 ≤ x5 ∧ x5 ≤ 4) (k6 : 4 ≤ x6 ∧ x6 ≤ 4) (k7 : 0 ≤ x7 ∧ x7 ≤ 23996) (k8 : 0 ≤ x8 ∧ x8 ≤ 23999) (k9 : 0 ≤ x9 ∧ x9 ≤ 0) (d0 : x4 + 0 ≤ x8 ∧ x8 ≤ x4 + 23996) (d1 : x7 + 0 ≤ x8 ∧ x8 ≤ x7 + 3) (d2 : x3 + (-4294967296) ≤ x1 ∧ x1 ≤ x3 + 0) (d3 : x1 + (-4294967296) ≤ x3 ∧ x3 ≤ x1 + 0) (f0 : x8 = x7 + x4) (f1 : x7 = 4 * x1) (f2 : x4 < x5) (f3 : (0 ≤ x1) ∧ ((x1 + 1) ≤ (wide_0 * tall_0))) (f4 : RT0 (wide_0) (tall_0) (barredPoint_0) (costOf_0) (bucket_0) (bucketMany_0) (x1)) (f5 : barredPoint_0 (x1) = 0) (hK_0_140 : ∀ j : Int, 0 ≤ j → j < 24000 → 0 ≤ costOf_0 j ∧ costOf_0 j ≤ 1000000) (hK_0_141 : ∀ j : Int, 0 ≤ j → j < 96040 → 0 ≤ bucket_0 j ∧ bucket_0 j ≤ 23999) (hK_0_142 : ∀ j : Int, 0 ≤ j → j < 4 → 0 ≤ bucketMany_0 j ∧ bucketMany_0 j ≤ 24009) (hK_0_143 : ∀ j : Int, 0 ≤ j → j < 6000 → 0 ≤ barredPoint_0 j ∧ barredPoint_0 j ≤ 1) (kz_0_146 : (-2147483648) ≤ wide_0 ∧ wide_0 ≤ 2147483647) (kz_0_147 : (-2147483648) ≤ tall_0 ∧ tall_0 ≤ 2147483647) (ex2 : gx = x1) (ex3 : 0 ≤ gx ∧ gx ≤ 5999) : gx = x1 := by
  first
    | omega
    | (have g := gok_bd ‹GRX _ _›; omega)
    | (have h := bm_pos (b := x8) (m := x10) ‹RTQ _ _ _ _ _ _ _ _› (by omega) (by assumption); omega)
    | (have h := bk_at (b := x6) (k := x7) (s := x14) (q := x13) ‹RTQ _ _ _ _ _ _ _ _› (by omega) (by omega) (by omega) (by omega) (by assumption); omega)
    | (have h := bm_pos (b := x6) (m := x9) ‹RTQ _ _ _ _ _ _ _ _› (by omega) (by assumption); omega)
    | (have g := gok_bd (show GRX wide_0 tall_0 from ‹RTQ _ _ _ _ _ _ _ _›.1); omega)
def o_Mo_spread_10 : or_T := (76, 10, [(0, (2, 0, 0, [150])), (1, (0, 0, 5999, [])), (2, (2, 0, 0, [150])), (3, (0, 0, 5999, [])), (4, (0, 0, 3, [])), (5, (0, 4, 4, [])), (6, (0, 4, 4, [])), (7, (0, 0, 23996, [])), (8, (0, 0, 23999, [])), (9, (0, 0, 0, []))], [(1, [8, 7, 4], []), (3, [7, 6, 3], []), (7, [4, 5], [2]), (20, [3, 2], [50, 2, 0, 1146, 1147, 2, 6, 0, 2, 0, 0, 1, 0, 0, 6, 4, 2, 1, 0, 0, 1, 6, 3, 2, 1, 146, 2, 1, 147]), (20, [2, 3], [60, 2, 4, 420, 146, 147, 143, 140, 141, 142]), (20, [2, 3], [50, 0, 1, 143, 1, 5, 3, 0, 143, 1, 1, 0, 0]), (24, [0, 2], []), (24, [1, 3], [])], [], [(0, 0, 5999, [])], [(23, [10, 3], [0, 1, -1]), (23, [10, 3], [0, -1, 1]), (20, [2, 10], [60, 2, 4, 420, 146, 147, 143, 140, 141, 142]), (20, [2, 10, 8, 9], [60, 2, 2, 423, 146, 147, 143, 140]), (20, [10, 3], [50, 0, 0, 1, 2, 1, 0, 1, 1])], [], [(8, 4, 0, 23996), (8, 7, 0, 3), (1, 3, -4294967296, 0), (3, 1, -4294967296, 0)])
theorem oo_Mo_spread_10 {kA : Nat → ClassId} : or_ok PRD kA GG o_Mo_spread_10 := by
  intro A ta ws vs hD hth hl hk hds hf
  have hl : vs.length = 10 := hl
  have hk : ∀ q ∈ ([(0, (2, 0, 0, [150])), (1, (0, 0, 5999, [])), (2, (2, 0, 0, [150])), (3, (0, 0, 5999, [])), (4, (0, 0, 3, [])), (5, (0, 4, 4, [])), (6, (0, 4, 4, [])), (7, (0, 0, 23996, [])), (8, (0, 0, 23999, [])), (9, (0, 0, 0, []))] : List (Nat × tv_T)), tv_ok ta q.2 (n_v vs q.1) := hk
  obtain ⟨t0, hk⟩ := List.forall_mem_cons.mp hk
  have t0 : tv_ok ta (2, 0, 0, [150]) (n_v vs 0) := t0
  have r0 : ta (v_ad (n_v vs 0)) = some 150 := tv_rg t0
  obtain ⟨t1, hk⟩ := List.forall_mem_cons.mp hk
  have t1 : tv_ok ta (0, 0, 5999, []) (n_v vs 1) := t1
  have k1 : 0 ≤ v_iv (n_v vs 1) ∧ v_iv (n_v vs 1) ≤ 5999 := tv_rng t1
  obtain ⟨t2, hk⟩ := List.forall_mem_cons.mp hk
  have t2 : tv_ok ta (2, 0, 0, [150]) (n_v vs 2) := t2
  have r2 : ta (v_ad (n_v vs 2)) = some 150 := tv_rg t2
  obtain ⟨t3, hk⟩ := List.forall_mem_cons.mp hk
  have t3 : tv_ok ta (0, 0, 5999, []) (n_v vs 3) := t3
  have k3 : 0 ≤ v_iv (n_v vs 3) ∧ v_iv (n_v vs 3) ≤ 5999 := tv_rng t3
  obtain ⟨t4, hk⟩ := List.forall_mem_cons.mp hk
  have t4 : tv_ok ta (0, 0, 3, []) (n_v vs 4) := t4
  have k4 : 0 ≤ v_iv (n_v vs 4) ∧ v_iv (n_v vs 4) ≤ 3 := tv_rng t4
  obtain ⟨t5, hk⟩ := List.forall_mem_cons.mp hk
  have t5 : tv_ok ta (0, 4, 4, []) (n_v vs 5) := t5
  have k5 : 4 ≤ v_iv (n_v vs 5) ∧ v_iv (n_v vs 5) ≤ 4 := tv_rng t5
  obtain ⟨t6, hk⟩ := List.forall_mem_cons.mp hk
  have t6 : tv_ok ta (0, 4, 4, []) (n_v vs 6) := t6
  have k6 : 4 ≤ v_iv (n_v vs 6) ∧ v_iv (n_v vs 6) ≤ 4 := tv_rng t6
  obtain ⟨t7, hk⟩ := List.forall_mem_cons.mp hk
  have t7 : tv_ok ta (0, 0, 23996, []) (n_v vs 7) := t7
  have k7 : 0 ≤ v_iv (n_v vs 7) ∧ v_iv (n_v vs 7) ≤ 23996 := tv_rng t7
  obtain ⟨t8, hk⟩ := List.forall_mem_cons.mp hk
  have t8 : tv_ok ta (0, 0, 23999, []) (n_v vs 8) := t8
  have k8 : 0 ≤ v_iv (n_v vs 8) ∧ v_iv (n_v vs 8) ≤ 23999 := tv_rng t8
  obtain ⟨t9, hk⟩ := List.forall_mem_cons.mp hk
  have t9 : tv_ok ta (0, 0, 0, []) (n_v vs 9) := t9
  have k9 : 0 ≤ v_iv (n_v vs 9) ∧ v_iv (n_v vs 9) ≤ 0 := tv_rng t9
  have hds : ∀ q ∈ ([(8, 4, 0, 23996), (8, 7, 0, 3), (1, 3, -4294967296, 0), (3, 1, -4294967296, 0)] : List of_T), n_iv vs q.2.1 + q.2.2.1 ≤ n_iv vs q.1 ∧ n_iv vs q.1 ≤ n_iv vs q.2.1 + q.2.2.2 := hds
  obtain ⟨d0, hds⟩ := List.forall_mem_cons.mp hds
  have d0 : v_iv (n_v vs 4) + 0 ≤ v_iv (n_v vs 8) ∧ v_iv (n_v vs 8) ≤ v_iv (n_v vs 4) + 23996 := d0
  obtain ⟨d1, hds⟩ := List.forall_mem_cons.mp hds
  have d1 : v_iv (n_v vs 7) + 0 ≤ v_iv (n_v vs 8) ∧ v_iv (n_v vs 8) ≤ v_iv (n_v vs 7) + 3 := d1
  obtain ⟨d2, hds⟩ := List.forall_mem_cons.mp hds
  have d2 : v_iv (n_v vs 3) + (-4294967296) ≤ v_iv (n_v vs 1) ∧ v_iv (n_v vs 1) ≤ v_iv (n_v vs 3) + 0 := d2
  obtain ⟨d3, hds⟩ := List.forall_mem_cons.mp hds
  have d3 : v_iv (n_v vs 1) + (-4294967296) ≤ v_iv (n_v vs 3) ∧ v_iv (n_v vs 3) ≤ v_iv (n_v vs 1) + 0 := d3
  have hf : fc_ok PRD [(1, [8, 7, 4], []), (3, [7, 6, 3], []), (7, [4, 5], [2]), (20, [3, 2], [50, 2, 0, 1146, 1147, 2, 6, 0, 2, 0, 0, 1, 0, 0, 6, 4, 2, 1, 0, 0, 1, 6, 3, 2, 1, 146, 2, 1, 147]), (20, [2, 3], [60, 2, 4, 420, 146, 147, 143, 140, 141, 142]), (20, [2, 3], [50, 0, 1, 143, 1, 5, 3, 0, 143, 1, 1, 0, 0]), (24, [0, 2], []), (24, [1, 3], [])] ta ws vs := hf
  obtain ⟨f0, hf⟩ := fc_un (show (1 : Nat) < 100 from by decide) hf
  have f0 : v_iv (n_v vs 8) = v_iv (n_v vs 7) + v_iv (n_v vs 4) := f0
  obtain ⟨f1, hf⟩ := fc_un (show (3 : Nat) < 100 from by decide) hf
  have f1 : v_iv (n_v vs 7) = v_iv (n_v vs 6) * v_iv (n_v vs 3) := f1
  rw [show v_iv (n_v vs 6) = 4 from by omega] at f1
  obtain ⟨f2, hf⟩ := fc_un (show (7 : Nat) < 100 from by decide) hf
  have f2 : v_iv (n_v vs 4) < v_iv (n_v vs 5) := f2
  obtain ⟨f3, hf⟩ := fc_un (show (20 : Nat) < 100 from by decide) hf
  have f3 : (0 ≤ v_iv (n_v vs 3)) ∧ ((v_iv (n_v vs 3) + 1) ≤ (w_fi ws (n_v vs 2) 146 * w_fi ws (n_v vs 2) 147)) := f3
  obtain ⟨f4, hf⟩ := fc_un (show (20 : Nat) < 100 from by decide) hf
  have f4 : RT0 (w_fi ws (n_v vs 2) 146) (w_fi ws (n_v vs 2) 147) (w_ei ws (w_ar ws (n_v vs 2) 143)) (w_ei ws (w_ar ws (n_v vs 2) 140)) (w_ei ws (w_ar ws (n_v vs 2) 141)) (w_ei ws (w_ar ws (n_v vs 2) 142)) (v_iv (n_v vs 3)) := f4
  obtain ⟨f5, hf⟩ := fc_un (show (20 : Nat) < 100 from by decide) hf
  have f5 : w_ei ws (w_ar ws (n_v vs 2) 143) (v_iv (n_v vs 3)) = 0 := f5
  obtain ⟨f6, hf⟩ := fc_un (show (24 : Nat) < 100 from by decide) hf
  have f6 : n_v vs 0 = n_v vs 2 := f6
  obtain ⟨f7, hf⟩ := fc_un (show (24 : Nat) < 100 from by decide) hf
  have f7 : n_v vs 1 = n_v vs 3 := f7
  have q2 : n_v vs 2 = n_v vs 0 := f6.symm
  have q3 : n_v vs 3 = n_v vs 1 := f7.symm
  rw [q3] at f1
  rw [q2] at f3
  rw [q3] at f3
  rw [q2] at f4
  rw [q3] at f4
  rw [q2] at f5
  rw [q3] at f5
  have cr_0_140 : ta (w_ar ws (n_v vs 0) 140) = some 251 := tv_rg (th_fd hD hth r0 (g := GG_150) rfl (k := 140) (t := (2, 0, 0, [251])) rfl rfl)
  have cr_0_141 : ta (w_ar ws (n_v vs 0) 141) = some 252 := tv_rg (th_fd hD hth r0 (g := GG_150) rfl (k := 141) (t := (2, 0, 0, [252])) rfl rfl)
  have cr_0_142 : ta (w_ar ws (n_v vs 0) 142) = some 253 := tv_rg (th_fd hD hth r0 (g := GG_150) rfl (k := 142) (t := (2, 0, 0, [253])) rfl rfl)
  have cr_0_143 : ta (w_ar ws (n_v vs 0) 143) = some 254 := tv_rg (th_fd hD hth r0 (g := GG_150) rfl (k := 143) (t := (2, 0, 0, [254])) rfl rfl)
  have hK_0_140 : ∀ j : Int, 0 ≤ j → j < 24000 → 0 ≤ w_ei ws (w_ar ws (n_v vs 0) 140) j ∧ w_ei ws (w_ar ws (n_v vs 0) 140) j ≤ 1000000 := fun j h0 h1 => th_el hD hth cr_0_140 (kd := 0) (n := 24000) (m := 24000) (lo := 0) (hi := 1000000) (rs := []) (L := []) rfl (by decide) (j := j.toNat) (by omega)
  have hK_0_141 : ∀ j : Int, 0 ≤ j → j < 96040 → 0 ≤ w_ei ws (w_ar ws (n_v vs 0) 141) j ∧ w_ei ws (w_ar ws (n_v vs 0) 141) j ≤ 23999 := fun j h0 h1 => th_el hD hth cr_0_141 (kd := 0) (n := 96040) (m := 96040) (lo := 0) (hi := 23999) (rs := []) (L := []) rfl (by decide) (j := j.toNat) (by omega)
  have hK_0_142 : ∀ j : Int, 0 ≤ j → j < 4 → 0 ≤ w_ei ws (w_ar ws (n_v vs 0) 142) j ∧ w_ei ws (w_ar ws (n_v vs 0) 142) j ≤ 24009 := fun j h0 h1 => th_el hD hth cr_0_142 (kd := 0) (n := 4) (m := 4) (lo := 0) (hi := 24009) (rs := []) (L := []) rfl (by decide) (j := j.toNat) (by omega)
  have hK_0_143 : ∀ j : Int, 0 ≤ j → j < 6000 → 0 ≤ w_ei ws (w_ar ws (n_v vs 0) 143) j ∧ w_ei ws (w_ar ws (n_v vs 0) 143) j ≤ 1 := fun j h0 h1 => th_el hD hth cr_0_143 (kd := 2) (n := 6000) (m := 6000) (lo := 0) (hi := 1) (rs := []) (L := []) rfl (by decide) (j := j.toNat) (by omega)
  have kz_0_146 : (-2147483648) ≤ w_fi ws (n_v vs 0) 146 ∧ w_fi ws (n_v vs 0) 146 ≤ 2147483647 := tv_rng (th_fd hD hth r0 (g := GG_150) rfl (k := 146) (t := (0, -2147483648, 2147483647, [])) rfl rfl)
  have kz_0_147 : (-2147483648) ≤ w_fi ws (n_v vs 0) 147 ∧ w_fi ws (n_v vs 0) 147 ≤ 2147483647 := tv_rng (th_fd hD hth r0 (g := GG_150) rfl (k := 147) (t := (0, -2147483648, 2147483647, [])) rfl rfl)
  obtain ⟨x, ex, hx⟩ := iv_ex (ta := ta) (lo := 0) (hi := 5999) (z := v_iv (n_v vs 1)) (by omega) (by omega) (by omega) (by omega)
  have ex2 : v_iv (Value.int x) = v_iv (n_v vs 1) := ex
  have ex3 : 0 ≤ v_iv (Value.int x) ∧ v_iv (Value.int x) ≤ 5999 := tv_rng hx
  have e_2 : n_v (vs ++ [Value.int x]) 2 = n_v vs 2 := n_v_old (by rw [hl]; decide)
  have e_3 : n_v (vs ++ [Value.int x]) 3 = n_v vs 3 := n_v_old (by rw [hl]; decide)
  have e_8 : n_v (vs ++ [Value.int x]) 8 = n_v vs 8 := n_v_old (by rw [hl]; decide)
  have e_9 : n_v (vs ++ [Value.int x]) 9 = n_v vs 9 := n_v_old (by rw [hl]; decide)
  have e_10 : n_v (vs ++ [Value.int x]) 10 = Value.int x := n_v_new hl
  have nf0 : fc_1 PRD (23, [10, 3], [0, 1, -1]) ws (vs ++ [Value.int x]) := by
    refine ⟨fun n hn => ?_, ?_⟩
    · have hn : n ∈ [10, 3] := hn
      rw [List.length_append, hl]
      simp only [List.mem_cons, List.not_mem_nil, or_false] at hn
      show n < 10 + 1; omega
    · show 1 * v_iv (n_v (vs ++ [Value.int x]) 10) + ((-1) * v_iv (n_v (vs ++ [Value.int x]) 3) + 0) ≤ 0
      rw [e_3]
      rw [e_10]
      rw [q3]
      exact vc_Mo_spread_10_0 (v_iv (n_v vs 1)) (v_iv (n_v vs 3)) (v_iv (n_v vs 4)) (v_iv (n_v vs 5)) (v_iv (n_v vs 6)) (v_iv (n_v vs 7)) (v_iv (n_v vs 8)) (v_iv (n_v vs 9)) (w_fi ws (n_v vs 0) 146) (w_fi ws (n_v vs 0) 147) (w_ei ws (w_ar ws (n_v vs 0) 143)) (w_ei ws (w_ar ws (n_v vs 0) 140)) (w_ei ws (w_ar ws (n_v vs 0) 141)) (w_ei ws (w_ar ws (n_v vs 0) 142)) (v_iv (Value.int x)) k1 k3 k4 k5 k6 k7 k8 k9 d0 d1 d2 d3 f0 f1 f2 f3 f4 f5 hK_0_140 hK_0_141 hK_0_142 hK_0_143 kz_0_146 kz_0_147 ex2 ex3
  have nf1 : fc_1 PRD (23, [10, 3], [0, -1, 1]) ws (vs ++ [Value.int x]) := by
    refine ⟨fun n hn => ?_, ?_⟩
    · have hn : n ∈ [10, 3] := hn
      rw [List.length_append, hl]
      simp only [List.mem_cons, List.not_mem_nil, or_false] at hn
      show n < 10 + 1; omega
    · show (-1) * v_iv (n_v (vs ++ [Value.int x]) 10) + (1 * v_iv (n_v (vs ++ [Value.int x]) 3) + 0) ≤ 0
      rw [e_3]
      rw [e_10]
      rw [q3]
      exact vc_Mo_spread_10_1 (v_iv (n_v vs 1)) (v_iv (n_v vs 3)) (v_iv (n_v vs 4)) (v_iv (n_v vs 5)) (v_iv (n_v vs 6)) (v_iv (n_v vs 7)) (v_iv (n_v vs 8)) (v_iv (n_v vs 9)) (w_fi ws (n_v vs 0) 146) (w_fi ws (n_v vs 0) 147) (w_ei ws (w_ar ws (n_v vs 0) 143)) (w_ei ws (w_ar ws (n_v vs 0) 140)) (w_ei ws (w_ar ws (n_v vs 0) 141)) (w_ei ws (w_ar ws (n_v vs 0) 142)) (v_iv (Value.int x)) k1 k3 k4 k5 k6 k7 k8 k9 d0 d1 d2 d3 f0 f1 f2 f3 f4 f5 hK_0_140 hK_0_141 hK_0_142 hK_0_143 kz_0_146 kz_0_147 ex2 ex3
  have nf2 : fc_1 PRD (20, [2, 10], [60, 2, 4, 420, 146, 147, 143, 140, 141, 142]) ws (vs ++ [Value.int x]) := by
    refine ⟨fun n hn => ?_, ?_⟩
    · have hn : n ∈ [2, 10] := hn
      rw [List.length_append, hl]
      simp only [List.mem_cons, List.not_mem_nil, or_false] at hn
      show n < 10 + 1; omega
    · show RT0 (w_fi ws (n_v (vs ++ [Value.int x]) 2) 146) (w_fi ws (n_v (vs ++ [Value.int x]) 2) 147) (w_ei ws (w_ar ws (n_v (vs ++ [Value.int x]) 2) 143)) (w_ei ws (w_ar ws (n_v (vs ++ [Value.int x]) 2) 140)) (w_ei ws (w_ar ws (n_v (vs ++ [Value.int x]) 2) 141)) (w_ei ws (w_ar ws (n_v (vs ++ [Value.int x]) 2) 142)) (v_iv (n_v (vs ++ [Value.int x]) 10))
      rw [e_2]
      rw [e_10]
      rw [q2]
      exact vc_Mo_spread_10_2 (v_iv (n_v vs 1)) (v_iv (n_v vs 3)) (v_iv (n_v vs 4)) (v_iv (n_v vs 5)) (v_iv (n_v vs 6)) (v_iv (n_v vs 7)) (v_iv (n_v vs 8)) (v_iv (n_v vs 9)) (w_fi ws (n_v vs 0) 146) (w_fi ws (n_v vs 0) 147) (w_ei ws (w_ar ws (n_v vs 0) 143)) (w_ei ws (w_ar ws (n_v vs 0) 140)) (w_ei ws (w_ar ws (n_v vs 0) 141)) (w_ei ws (w_ar ws (n_v vs 0) 142)) (v_iv (Value.int x)) k1 k3 k4 k5 k6 k7 k8 k9 d0 d1 d2 d3 f0 f1 f2 f3 f4 f5 hK_0_140 hK_0_141 hK_0_142 hK_0_143 kz_0_146 kz_0_147 ex2 ex3
  have nf3 : fc_1 PRD (20, [2, 10, 8, 9], [60, 2, 2, 423, 146, 147, 143, 140]) ws (vs ++ [Value.int x]) := by
    refine ⟨fun n hn => ?_, ?_⟩
    · have hn : n ∈ [2, 10, 8, 9] := hn
      rw [List.length_append, hl]
      simp only [List.mem_cons, List.not_mem_nil, or_false] at hn
      show n < 10 + 1; omega
    · show RJ0 (w_fi ws (n_v (vs ++ [Value.int x]) 2) 146) (w_fi ws (n_v (vs ++ [Value.int x]) 2) 147) (w_ei ws (w_ar ws (n_v (vs ++ [Value.int x]) 2) 143)) (w_ei ws (w_ar ws (n_v (vs ++ [Value.int x]) 2) 140)) (v_iv (n_v (vs ++ [Value.int x]) 10)) (v_iv (n_v (vs ++ [Value.int x]) 8)) (v_iv (n_v (vs ++ [Value.int x]) 9))
      rw [e_2]
      rw [e_8]
      rw [e_9]
      rw [e_10]
      rw [q2]
      exact vc_Mo_spread_10_3 (v_iv (n_v vs 1)) (v_iv (n_v vs 3)) (v_iv (n_v vs 4)) (v_iv (n_v vs 5)) (v_iv (n_v vs 6)) (v_iv (n_v vs 7)) (v_iv (n_v vs 8)) (v_iv (n_v vs 9)) (w_fi ws (n_v vs 0) 146) (w_fi ws (n_v vs 0) 147) (w_ei ws (w_ar ws (n_v vs 0) 143)) (w_ei ws (w_ar ws (n_v vs 0) 140)) (w_ei ws (w_ar ws (n_v vs 0) 141)) (w_ei ws (w_ar ws (n_v vs 0) 142)) (v_iv (Value.int x)) k1 k3 k4 k5 k6 k7 k8 k9 d0 d1 d2 d3 f0 f1 f2 f3 f4 f5 hK_0_140 hK_0_141 hK_0_142 hK_0_143 kz_0_146 kz_0_147 ex2 ex3
  have nf4 : fc_1 PRD (20, [10, 3], [50, 0, 0, 1, 2, 1, 0, 1, 1]) ws (vs ++ [Value.int x]) := by
    refine ⟨fun n hn => ?_, ?_⟩
    · have hn : n ∈ [10, 3] := hn
      rw [List.length_append, hl]
      simp only [List.mem_cons, List.not_mem_nil, or_false] at hn
      show n < 10 + 1; omega
    · show v_iv (n_v (vs ++ [Value.int x]) 10) = v_iv (n_v (vs ++ [Value.int x]) 3)
      rw [e_3]
      rw [e_10]
      rw [q3]
      exact vc_Mo_spread_10_4 (v_iv (n_v vs 1)) (v_iv (n_v vs 3)) (v_iv (n_v vs 4)) (v_iv (n_v vs 5)) (v_iv (n_v vs 6)) (v_iv (n_v vs 7)) (v_iv (n_v vs 8)) (v_iv (n_v vs 9)) (w_fi ws (n_v vs 0) 146) (w_fi ws (n_v vs 0) 147) (w_ei ws (w_ar ws (n_v vs 0) 143)) (w_ei ws (w_ar ws (n_v vs 0) 140)) (w_ei ws (w_ar ws (n_v vs 0) 141)) (w_ei ws (w_ar ws (n_v vs 0) 142)) (v_iv (Value.int x)) k1 k3 k4 k5 k6 k7 k8 k9 d0 d1 d2 d3 f0 f1 f2 f3 f4 f5 hK_0_140 hK_0_141 hK_0_142 hK_0_143 kz_0_146 kz_0_147 ex2 ex3
  exact ⟨(fun _ h => (by cases h)), [Value.int x], ag_one hx, List.forall_mem_cons.mpr ⟨⟨show (23 : Nat) < 100 from by decide, nf0⟩, List.forall_mem_cons.mpr ⟨⟨show (23 : Nat) < 100 from by decide, nf1⟩, List.forall_mem_cons.mpr ⟨⟨show (20 : Nat) < 100 from by decide, nf2⟩, List.forall_mem_cons.mpr ⟨⟨show (20 : Nat) < 100 from by decide, nf3⟩, List.forall_mem_cons.mpr ⟨⟨show (20 : Nat) < 100 from by decide, nf4⟩, (fun _ h => (by cases h))⟩⟩⟩⟩⟩, (fun _ h => (by cases h))⟩
set_option maxHeartbeats 4000000 in
theorem vc_Mo_spread_11_0 (x1 : Int) (x3 : Int) (x6 : Int) (x7 : Int) (x10 : Int) (wide_0 : Int) (tall_0 : Int) (barredPoint_0 : Int → Int) (costOf_0 : Int → Int) (bucket_0 : Int → Int) (bucketMany_0 : Int → Int) (k1 : 0 ≤ x1 ∧ x1 ≤ 5999) (k3 : 0 ≤ x3 ∧ x3 ≤ 5999) (k6 : 4 ≤ x6 ∧ x6 ≤ 4) (k7 : 0 ≤ x7 ∧ x7 ≤ 23996) (k10 : 0 ≤ x10 ∧ x10 ≤ 5999) (d0 : x3 + (-4294967296) ≤ x1 ∧ x1 ≤ x3 + 0) (d1 : x1 + (-4294967296) ≤ x3 ∧ x3 ≤ x1 + 0) (f0 : 1 * x10 + ((-1) * x1 + 0) ≤ 0) (f1 : (-1) * x10 + (1 * x1 + 0) ≤ 0) (f2 : x10 = x1) (f3 : (0 ≤ x1) ∧ ((x1 + 1) ≤ (wide_0 * tall_0))) (f4 : barredPoint_0 (x1) = 0) (f7 : RT0 (wide_0) (tall_0) (barredPoint_0) (costOf_0) (bucket_0) (bucketMany_0) (x10)) (f9 : 1 * x10 + ((-1) * x1 + 0) ≤ 0) (f10 : (-1) * x10 + (1 * x1 + 0) ≤ 0) (f11 : x7 = 4 * x1) (hK_0_140 : ∀ j : Int, 0 ≤ j → j < 24000 → 0 ≤ costOf_0 j ∧ costOf_0 j ≤ 1000000) (hK_0_141 : ∀ j : Int, 0 ≤ j → j < 96040 → 0 ≤ bucket_0 j ∧ bucket_0 j ≤ 23999) (hK_0_142 : ∀ j : Int, 0 ≤ j → j < 4 → 0 ≤ bucketMany_0 j ∧ bucketMany_0 j ≤ 24009) (hK_0_143 : ∀ j : Int, 0 ≤ j → j < 6000 → 0 ≤ barredPoint_0 j ∧ barredPoint_0 j ≤ 1) (kz_0_146 : (-2147483648) ≤ wide_0 ∧ wide_0 ≤ 2147483647) (kz_0_147 : (-2147483648) ≤ tall_0 ∧ tall_0 ≤ 2147483647) : RT0 (wide_0) (tall_0) (barredPoint_0) (costOf_0) (bucket_0) (bucketMany_0) (x1) := by
  first
    | assumption
    | exact rt0_start ‹GRX _ _› ‹CFF _ _ _› ‹BZ1 _ _› (by omega)
    | (rw [show x1 = x10 by omega]; assumption)
    | (rw [show x3 = x10 by omega]; assumption)
def o_Mo_spread_11 : or_T := (64, 12, [(0, (2, 0, 0, [150])), (1, (0, 0, 5999, [])), (2, (2, 0, 0, [150])), (3, (0, 0, 5999, [])), (6, (0, 4, 4, [])), (7, (0, 0, 23996, [])), (10, (0, 0, 5999, []))], [(23, [10, 3], [0, 1, -1]), (23, [10, 3], [0, -1, 1]), (20, [10, 3], [50, 0, 0, 1, 2, 1, 0, 1, 1]), (20, [3, 2], [50, 2, 0, 1146, 1147, 2, 6, 0, 2, 0, 0, 1, 0, 0, 6, 4, 2, 1, 0, 0, 1, 6, 3, 2, 1, 146, 2, 1, 147]), (20, [2, 3], [50, 0, 1, 143, 1, 5, 3, 0, 143, 1, 1, 0, 0]), (24, [0, 2], []), (24, [1, 3], []), (20, [2, 10], [60, 2, 4, 420, 146, 147, 143, 140, 141, 142]), (102, [10], [25329519520662917748906152970650479842902809145608873383631346501730997108736]), (23, [10, 3], [0, 1, -1]), (23, [10, 3], [0, -1, 1]), (3, [7, 6, 3], [])], [], [], [(20, [2, 3], [60, 2, 4, 420, 146, 147, 143, 140, 141, 142])], [], [(1, 3, -4294967296, 0), (3, 1, -4294967296, 0)])
theorem oo_Mo_spread_11 {kA : Nat → ClassId} : or_ok PRD kA GG o_Mo_spread_11 := by
  intro A ta ws vs hD hth hl hk hds hf
  have hl : vs.length = 12 := hl
  have hk : ∀ q ∈ ([(0, (2, 0, 0, [150])), (1, (0, 0, 5999, [])), (2, (2, 0, 0, [150])), (3, (0, 0, 5999, [])), (6, (0, 4, 4, [])), (7, (0, 0, 23996, [])), (10, (0, 0, 5999, []))] : List (Nat × tv_T)), tv_ok ta q.2 (n_v vs q.1) := hk
  obtain ⟨t0, hk⟩ := List.forall_mem_cons.mp hk
  have t0 : tv_ok ta (2, 0, 0, [150]) (n_v vs 0) := t0
  have r0 : ta (v_ad (n_v vs 0)) = some 150 := tv_rg t0
  obtain ⟨t1, hk⟩ := List.forall_mem_cons.mp hk
  have t1 : tv_ok ta (0, 0, 5999, []) (n_v vs 1) := t1
  have k1 : 0 ≤ v_iv (n_v vs 1) ∧ v_iv (n_v vs 1) ≤ 5999 := tv_rng t1
  obtain ⟨t2, hk⟩ := List.forall_mem_cons.mp hk
  have t2 : tv_ok ta (2, 0, 0, [150]) (n_v vs 2) := t2
  have r2 : ta (v_ad (n_v vs 2)) = some 150 := tv_rg t2
  obtain ⟨t3, hk⟩ := List.forall_mem_cons.mp hk
  have t3 : tv_ok ta (0, 0, 5999, []) (n_v vs 3) := t3
  have k3 : 0 ≤ v_iv (n_v vs 3) ∧ v_iv (n_v vs 3) ≤ 5999 := tv_rng t3
  obtain ⟨t6, hk⟩ := List.forall_mem_cons.mp hk
  have t6 : tv_ok ta (0, 4, 4, []) (n_v vs 6) := t6
  have k6 : 4 ≤ v_iv (n_v vs 6) ∧ v_iv (n_v vs 6) ≤ 4 := tv_rng t6
  obtain ⟨t7, hk⟩ := List.forall_mem_cons.mp hk
  have t7 : tv_ok ta (0, 0, 23996, []) (n_v vs 7) := t7
  have k7 : 0 ≤ v_iv (n_v vs 7) ∧ v_iv (n_v vs 7) ≤ 23996 := tv_rng t7
  obtain ⟨t10, hk⟩ := List.forall_mem_cons.mp hk
  have t10 : tv_ok ta (0, 0, 5999, []) (n_v vs 10) := t10
  have k10 : 0 ≤ v_iv (n_v vs 10) ∧ v_iv (n_v vs 10) ≤ 5999 := tv_rng t10
  have hds : ∀ q ∈ ([(1, 3, -4294967296, 0), (3, 1, -4294967296, 0)] : List of_T), n_iv vs q.2.1 + q.2.2.1 ≤ n_iv vs q.1 ∧ n_iv vs q.1 ≤ n_iv vs q.2.1 + q.2.2.2 := hds
  obtain ⟨d0, hds⟩ := List.forall_mem_cons.mp hds
  have d0 : v_iv (n_v vs 3) + (-4294967296) ≤ v_iv (n_v vs 1) ∧ v_iv (n_v vs 1) ≤ v_iv (n_v vs 3) + 0 := d0
  obtain ⟨d1, hds⟩ := List.forall_mem_cons.mp hds
  have d1 : v_iv (n_v vs 1) + (-4294967296) ≤ v_iv (n_v vs 3) ∧ v_iv (n_v vs 3) ≤ v_iv (n_v vs 1) + 0 := d1
  have hf : fc_ok PRD [(23, [10, 3], [0, 1, -1]), (23, [10, 3], [0, -1, 1]), (20, [10, 3], [50, 0, 0, 1, 2, 1, 0, 1, 1]), (20, [3, 2], [50, 2, 0, 1146, 1147, 2, 6, 0, 2, 0, 0, 1, 0, 0, 6, 4, 2, 1, 0, 0, 1, 6, 3, 2, 1, 146, 2, 1, 147]), (20, [2, 3], [50, 0, 1, 143, 1, 5, 3, 0, 143, 1, 1, 0, 0]), (24, [0, 2], []), (24, [1, 3], []), (20, [2, 10], [60, 2, 4, 420, 146, 147, 143, 140, 141, 142]), (102, [10], [25329519520662917748906152970650479842902809145608873383631346501730997108736]), (23, [10, 3], [0, 1, -1]), (23, [10, 3], [0, -1, 1]), (3, [7, 6, 3], [])] ta ws vs := hf
  obtain ⟨f0, hf⟩ := fc_un (show (23 : Nat) < 100 from by decide) hf
  have f0 : 1 * v_iv (n_v vs 10) + ((-1) * v_iv (n_v vs 3) + 0) ≤ 0 := f0
  obtain ⟨f1, hf⟩ := fc_un (show (23 : Nat) < 100 from by decide) hf
  have f1 : (-1) * v_iv (n_v vs 10) + (1 * v_iv (n_v vs 3) + 0) ≤ 0 := f1
  obtain ⟨f2, hf⟩ := fc_un (show (20 : Nat) < 100 from by decide) hf
  have f2 : v_iv (n_v vs 10) = v_iv (n_v vs 3) := f2
  obtain ⟨f3, hf⟩ := fc_un (show (20 : Nat) < 100 from by decide) hf
  have f3 : (0 ≤ v_iv (n_v vs 3)) ∧ ((v_iv (n_v vs 3) + 1) ≤ (w_fi ws (n_v vs 2) 146 * w_fi ws (n_v vs 2) 147)) := f3
  obtain ⟨f4, hf⟩ := fc_un (show (20 : Nat) < 100 from by decide) hf
  have f4 : w_ei ws (w_ar ws (n_v vs 2) 143) (v_iv (n_v vs 3)) = 0 := f4
  obtain ⟨f5, hf⟩ := fc_un (show (24 : Nat) < 100 from by decide) hf
  have f5 : n_v vs 0 = n_v vs 2 := f5
  obtain ⟨f6, hf⟩ := fc_un (show (24 : Nat) < 100 from by decide) hf
  have f6 : n_v vs 1 = n_v vs 3 := f6
  obtain ⟨f7, hf⟩ := fc_un (show (20 : Nat) < 100 from by decide) hf
  have f7 : RT0 (w_fi ws (n_v vs 2) 146) (w_fi ws (n_v vs 2) 147) (w_ei ws (w_ar ws (n_v vs 2) 143)) (w_ei ws (w_ar ws (n_v vs 2) 140)) (w_ei ws (w_ar ws (n_v vs 2) 141)) (w_ei ws (w_ar ws (n_v vs 2) 142)) (v_iv (n_v vs 10)) := f7
  obtain ⟨ta1, w1, le1, ⟨_, s1⟩, hf⟩ := fc_us (show ¬ (102 : Nat) < 100 from by decide) hf
  obtain ⟨f9, hf⟩ := fc_un (show (23 : Nat) < 100 from by decide) hf
  have f9 : 1 * v_iv (n_v vs 10) + ((-1) * v_iv (n_v vs 3) + 0) ≤ 0 := f9
  obtain ⟨f10, hf⟩ := fc_un (show (23 : Nat) < 100 from by decide) hf
  have f10 : (-1) * v_iv (n_v vs 10) + (1 * v_iv (n_v vs 3) + 0) ≤ 0 := f10
  obtain ⟨f11, hf⟩ := fc_un (show (3 : Nat) < 100 from by decide) hf
  have f11 : v_iv (n_v vs 7) = v_iv (n_v vs 6) * v_iv (n_v vs 3) := f11
  rw [show v_iv (n_v vs 6) = 4 from by omega] at f11
  have q2 : n_v vs 2 = n_v vs 0 := f5.symm
  have q3 : n_v vs 3 = n_v vs 1 := f6.symm
  rw [q3] at f0
  rw [q3] at f1
  rw [q3] at f2
  rw [q2] at f3
  rw [q3] at f3
  rw [q2] at f4
  rw [q3] at f4
  rw [q2] at f7
  rw [q3] at f9
  rw [q3] at f10
  rw [q3] at f11
  have cr_0_140 : ta (w_ar ws (n_v vs 0) 140) = some 251 := tv_rg (th_fd hD hth r0 (g := GG_150) rfl (k := 140) (t := (2, 0, 0, [251])) rfl rfl)
  have cr_0_141 : ta (w_ar ws (n_v vs 0) 141) = some 252 := tv_rg (th_fd hD hth r0 (g := GG_150) rfl (k := 141) (t := (2, 0, 0, [252])) rfl rfl)
  have cr_0_142 : ta (w_ar ws (n_v vs 0) 142) = some 253 := tv_rg (th_fd hD hth r0 (g := GG_150) rfl (k := 142) (t := (2, 0, 0, [253])) rfl rfl)
  have cr_0_143 : ta (w_ar ws (n_v vs 0) 143) = some 254 := tv_rg (th_fd hD hth r0 (g := GG_150) rfl (k := 143) (t := (2, 0, 0, [254])) rfl rfl)
  have hK_0_140 : ∀ j : Int, 0 ≤ j → j < 24000 → 0 ≤ w_ei ws (w_ar ws (n_v vs 0) 140) j ∧ w_ei ws (w_ar ws (n_v vs 0) 140) j ≤ 1000000 := fun j h0 h1 => th_el hD hth cr_0_140 (kd := 0) (n := 24000) (m := 24000) (lo := 0) (hi := 1000000) (rs := []) (L := []) rfl (by decide) (j := j.toNat) (by omega)
  have hK_0_141 : ∀ j : Int, 0 ≤ j → j < 96040 → 0 ≤ w_ei ws (w_ar ws (n_v vs 0) 141) j ∧ w_ei ws (w_ar ws (n_v vs 0) 141) j ≤ 23999 := fun j h0 h1 => th_el hD hth cr_0_141 (kd := 0) (n := 96040) (m := 96040) (lo := 0) (hi := 23999) (rs := []) (L := []) rfl (by decide) (j := j.toNat) (by omega)
  have hK_0_142 : ∀ j : Int, 0 ≤ j → j < 4 → 0 ≤ w_ei ws (w_ar ws (n_v vs 0) 142) j ∧ w_ei ws (w_ar ws (n_v vs 0) 142) j ≤ 24009 := fun j h0 h1 => th_el hD hth cr_0_142 (kd := 0) (n := 4) (m := 4) (lo := 0) (hi := 24009) (rs := []) (L := []) rfl (by decide) (j := j.toNat) (by omega)
  have hK_0_143 : ∀ j : Int, 0 ≤ j → j < 6000 → 0 ≤ w_ei ws (w_ar ws (n_v vs 0) 143) j ∧ w_ei ws (w_ar ws (n_v vs 0) 143) j ≤ 1 := fun j h0 h1 => th_el hD hth cr_0_143 (kd := 2) (n := 6000) (m := 6000) (lo := 0) (hi := 1) (rs := []) (L := []) rfl (by decide) (j := j.toNat) (by omega)
  have kz_0_146 : (-2147483648) ≤ w_fi ws (n_v vs 0) 146 ∧ w_fi ws (n_v vs 0) 146 ≤ 2147483647 := tv_rng (th_fd hD hth r0 (g := GG_150) rfl (k := 146) (t := (0, -2147483648, 2147483647, [])) rfl rfl)
  have kz_0_147 : (-2147483648) ≤ w_fi ws (n_v vs 0) 147 ∧ w_fi ws (n_v vs 0) 147 ≤ 2147483647 := tv_rng (th_fd hD hth r0 (g := GG_150) rfl (k := 147) (t := (0, -2147483648, 2147483647, [])) rfl rfl)
  have nf0 : fc_1 PRD (20, [2, 3], [60, 2, 4, 420, 146, 147, 143, 140, 141, 142]) ws (vs) := by
    refine ⟨fun n hn => ?_, ?_⟩
    · have hn : n ∈ [2, 3] := hn
      rw [hl]
      simp only [List.mem_cons, List.not_mem_nil, or_false] at hn
      show n < 12; omega
    · show RT0 (w_fi ws (n_v vs 2) 146) (w_fi ws (n_v vs 2) 147) (w_ei ws (w_ar ws (n_v vs 2) 143)) (w_ei ws (w_ar ws (n_v vs 2) 140)) (w_ei ws (w_ar ws (n_v vs 2) 141)) (w_ei ws (w_ar ws (n_v vs 2) 142)) (v_iv (n_v vs 3))
      rw [q2, q3]
      exact vc_Mo_spread_11_0 (v_iv (n_v vs 1)) (v_iv (n_v vs 3)) (v_iv (n_v vs 6)) (v_iv (n_v vs 7)) (v_iv (n_v vs 10)) (w_fi ws (n_v vs 0) 146) (w_fi ws (n_v vs 0) 147) (w_ei ws (w_ar ws (n_v vs 0) 143)) (w_ei ws (w_ar ws (n_v vs 0) 140)) (w_ei ws (w_ar ws (n_v vs 0) 141)) (w_ei ws (w_ar ws (n_v vs 0) 142)) k1 k3 k6 k7 k10 d0 d1 f0 f1 f2 f3 f4 f7 f9 f10 f11 hK_0_140 hK_0_141 hK_0_142 hK_0_143 kz_0_146 kz_0_147
  refine ⟨(fun _ h => (by cases h)), [], trivial, ?_, (fun _ h => (by cases h))⟩
  rw [List.append_nil]
  exact List.forall_mem_cons.mpr ⟨⟨show (20 : Nat) < 100 from by decide, nf0⟩, (fun _ h => (by cases h))⟩
set_option maxHeartbeats 4000000 in
theorem vc_Mo_spread_12_0 (x1 : Int) (x3 : Int) (x4 : Int) (x5 : Int) (x6 : Int) (wide_0 : Int) (tall_0 : Int) (barredPoint_0 : Int → Int) (costOf_0 : Int → Int) (bucket_0 : Int → Int) (bucketMany_0 : Int → Int) (k1 : 0 ≤ x1 ∧ x1 ≤ 5999) (k3 : 0 ≤ x3 ∧ x3 ≤ 5999) (k4 : 4 ≤ x4 ∧ x4 ≤ 1000004) (k5 : 4 ≤ x5 ∧ x5 ≤ 4) (k6 : 4 ≤ x6 ∧ x6 ≤ 4) (d0 : x3 + (-4294967296) ≤ x1 ∧ x1 ≤ x3 + 0) (d1 : x1 + (-4294967296) ≤ x3 ∧ x3 ≤ x1 + 0) (f0 : x6 ≤ x5) (f1 : (0 ≤ x1) ∧ ((x1 + 1) ≤ (wide_0 * tall_0))) (f2 : RTQ (wide_0) (tall_0) (barredPoint_0) (costOf_0) (bucket_0) (bucketMany_0) (x1) (x4)) (f3 : (0 ≤ x5) ∧ ((x4 - x5) ≤ 1000000)) (hK_0_140 : ∀ j : Int, 0 ≤ j → j < 24000 → 0 ≤ costOf_0 j ∧ costOf_0 j ≤ 1000000) (hK_0_141 : ∀ j : Int, 0 ≤ j → j < 96040 → 0 ≤ bucket_0 j ∧ bucket_0 j ≤ 23999) (hK_0_142 : ∀ j : Int, 0 ≤ j → j < 4 → 0 ≤ bucketMany_0 j ∧ bucketMany_0 j ≤ 24009) (hK_0_143 : ∀ j : Int, 0 ≤ j → j < 6000 → 0 ≤ barredPoint_0 j ∧ barredPoint_0 j ≤ 1) (kz_0_146 : (-2147483648) ≤ wide_0 ∧ wide_0 ≤ 2147483647) (kz_0_147 : (-2147483648) ≤ tall_0 ∧ tall_0 ≤ 2147483647) : RTV (wide_0) (tall_0) (barredPoint_0) (costOf_0) (x1) := by
  first
    | exact rtv_far ‹GRX _ _› ‹CFF _ _ _›
    | exact spd_of ‹RTQ _ _ _ _ _ _ _ _›
def o_Mo_spread_12 : or_T := (186, 7, [(0, (2, 0, 0, [150])), (1, (0, 0, 5999, [])), (2, (2, 0, 0, [150])), (3, (0, 0, 5999, [])), (4, (0, 4, 1000004, [])), (5, (0, 4, 4, [])), (6, (0, 4, 4, []))], [(7, [5, 6], [3]), (20, [3, 2], [50, 2, 0, 1146, 1147, 2, 6, 0, 2, 0, 0, 1, 0, 0, 6, 4, 2, 1, 0, 0, 1, 6, 3, 2, 1, 146, 2, 1, 147]), (20, [2, 3, 4], [60, 2, 4, 419, 146, 147, 143, 140, 141, 142]), (20, [5, 4], [50, 0, 0, 2, 6, 0, 2, 0, 0, 1, 0, 0, 6, 5, 2, 1, 1, 1, 0, 0, 1000000]), (24, [0, 2], []), (24, [1, 3], [])], [], [], [(20, [0, 1], [60, 2, 2, 428, 146, 147, 143, 140])], [], [(1, 3, -4294967296, 0), (3, 1, -4294967296, 0)])
theorem oo_Mo_spread_12 {kA : Nat → ClassId} : or_ok PRD kA GG o_Mo_spread_12 := by
  intro A ta ws vs hD hth hl hk hds hf
  have hl : vs.length = 7 := hl
  have hk : ∀ q ∈ ([(0, (2, 0, 0, [150])), (1, (0, 0, 5999, [])), (2, (2, 0, 0, [150])), (3, (0, 0, 5999, [])), (4, (0, 4, 1000004, [])), (5, (0, 4, 4, [])), (6, (0, 4, 4, []))] : List (Nat × tv_T)), tv_ok ta q.2 (n_v vs q.1) := hk
  obtain ⟨t0, hk⟩ := List.forall_mem_cons.mp hk
  have t0 : tv_ok ta (2, 0, 0, [150]) (n_v vs 0) := t0
  have r0 : ta (v_ad (n_v vs 0)) = some 150 := tv_rg t0
  obtain ⟨t1, hk⟩ := List.forall_mem_cons.mp hk
  have t1 : tv_ok ta (0, 0, 5999, []) (n_v vs 1) := t1
  have k1 : 0 ≤ v_iv (n_v vs 1) ∧ v_iv (n_v vs 1) ≤ 5999 := tv_rng t1
  obtain ⟨t2, hk⟩ := List.forall_mem_cons.mp hk
  have t2 : tv_ok ta (2, 0, 0, [150]) (n_v vs 2) := t2
  have r2 : ta (v_ad (n_v vs 2)) = some 150 := tv_rg t2
  obtain ⟨t3, hk⟩ := List.forall_mem_cons.mp hk
  have t3 : tv_ok ta (0, 0, 5999, []) (n_v vs 3) := t3
  have k3 : 0 ≤ v_iv (n_v vs 3) ∧ v_iv (n_v vs 3) ≤ 5999 := tv_rng t3
  obtain ⟨t4, hk⟩ := List.forall_mem_cons.mp hk
  have t4 : tv_ok ta (0, 4, 1000004, []) (n_v vs 4) := t4
  have k4 : 4 ≤ v_iv (n_v vs 4) ∧ v_iv (n_v vs 4) ≤ 1000004 := tv_rng t4
  obtain ⟨t5, hk⟩ := List.forall_mem_cons.mp hk
  have t5 : tv_ok ta (0, 4, 4, []) (n_v vs 5) := t5
  have k5 : 4 ≤ v_iv (n_v vs 5) ∧ v_iv (n_v vs 5) ≤ 4 := tv_rng t5
  obtain ⟨t6, hk⟩ := List.forall_mem_cons.mp hk
  have t6 : tv_ok ta (0, 4, 4, []) (n_v vs 6) := t6
  have k6 : 4 ≤ v_iv (n_v vs 6) ∧ v_iv (n_v vs 6) ≤ 4 := tv_rng t6
  have hds : ∀ q ∈ ([(1, 3, -4294967296, 0), (3, 1, -4294967296, 0)] : List of_T), n_iv vs q.2.1 + q.2.2.1 ≤ n_iv vs q.1 ∧ n_iv vs q.1 ≤ n_iv vs q.2.1 + q.2.2.2 := hds
  obtain ⟨d0, hds⟩ := List.forall_mem_cons.mp hds
  have d0 : v_iv (n_v vs 3) + (-4294967296) ≤ v_iv (n_v vs 1) ∧ v_iv (n_v vs 1) ≤ v_iv (n_v vs 3) + 0 := d0
  obtain ⟨d1, hds⟩ := List.forall_mem_cons.mp hds
  have d1 : v_iv (n_v vs 1) + (-4294967296) ≤ v_iv (n_v vs 3) ∧ v_iv (n_v vs 3) ≤ v_iv (n_v vs 1) + 0 := d1
  have hf : fc_ok PRD [(7, [5, 6], [3]), (20, [3, 2], [50, 2, 0, 1146, 1147, 2, 6, 0, 2, 0, 0, 1, 0, 0, 6, 4, 2, 1, 0, 0, 1, 6, 3, 2, 1, 146, 2, 1, 147]), (20, [2, 3, 4], [60, 2, 4, 419, 146, 147, 143, 140, 141, 142]), (20, [5, 4], [50, 0, 0, 2, 6, 0, 2, 0, 0, 1, 0, 0, 6, 5, 2, 1, 1, 1, 0, 0, 1000000]), (24, [0, 2], []), (24, [1, 3], [])] ta ws vs := hf
  obtain ⟨f0, hf⟩ := fc_un (show (7 : Nat) < 100 from by decide) hf
  have f0 : v_iv (n_v vs 6) ≤ v_iv (n_v vs 5) := f0
  obtain ⟨f1, hf⟩ := fc_un (show (20 : Nat) < 100 from by decide) hf
  have f1 : (0 ≤ v_iv (n_v vs 3)) ∧ ((v_iv (n_v vs 3) + 1) ≤ (w_fi ws (n_v vs 2) 146 * w_fi ws (n_v vs 2) 147)) := f1
  obtain ⟨f2, hf⟩ := fc_un (show (20 : Nat) < 100 from by decide) hf
  have f2 : RTQ (w_fi ws (n_v vs 2) 146) (w_fi ws (n_v vs 2) 147) (w_ei ws (w_ar ws (n_v vs 2) 143)) (w_ei ws (w_ar ws (n_v vs 2) 140)) (w_ei ws (w_ar ws (n_v vs 2) 141)) (w_ei ws (w_ar ws (n_v vs 2) 142)) (v_iv (n_v vs 3)) (v_iv (n_v vs 4)) := f2
  obtain ⟨f3, hf⟩ := fc_un (show (20 : Nat) < 100 from by decide) hf
  have f3 : (0 ≤ v_iv (n_v vs 5)) ∧ ((v_iv (n_v vs 4) - v_iv (n_v vs 5)) ≤ 1000000) := f3
  obtain ⟨f4, hf⟩ := fc_un (show (24 : Nat) < 100 from by decide) hf
  have f4 : n_v vs 0 = n_v vs 2 := f4
  obtain ⟨f5, hf⟩ := fc_un (show (24 : Nat) < 100 from by decide) hf
  have f5 : n_v vs 1 = n_v vs 3 := f5
  have q2 : n_v vs 2 = n_v vs 0 := f4.symm
  have q3 : n_v vs 3 = n_v vs 1 := f5.symm
  rw [q2] at f1
  rw [q3] at f1
  rw [q2] at f2
  rw [q3] at f2
  have cr_0_140 : ta (w_ar ws (n_v vs 0) 140) = some 251 := tv_rg (th_fd hD hth r0 (g := GG_150) rfl (k := 140) (t := (2, 0, 0, [251])) rfl rfl)
  have cr_0_141 : ta (w_ar ws (n_v vs 0) 141) = some 252 := tv_rg (th_fd hD hth r0 (g := GG_150) rfl (k := 141) (t := (2, 0, 0, [252])) rfl rfl)
  have cr_0_142 : ta (w_ar ws (n_v vs 0) 142) = some 253 := tv_rg (th_fd hD hth r0 (g := GG_150) rfl (k := 142) (t := (2, 0, 0, [253])) rfl rfl)
  have cr_0_143 : ta (w_ar ws (n_v vs 0) 143) = some 254 := tv_rg (th_fd hD hth r0 (g := GG_150) rfl (k := 143) (t := (2, 0, 0, [254])) rfl rfl)
  have hK_0_140 : ∀ j : Int, 0 ≤ j → j < 24000 → 0 ≤ w_ei ws (w_ar ws (n_v vs 0) 140) j ∧ w_ei ws (w_ar ws (n_v vs 0) 140) j ≤ 1000000 := fun j h0 h1 => th_el hD hth cr_0_140 (kd := 0) (n := 24000) (m := 24000) (lo := 0) (hi := 1000000) (rs := []) (L := []) rfl (by decide) (j := j.toNat) (by omega)
  have hK_0_141 : ∀ j : Int, 0 ≤ j → j < 96040 → 0 ≤ w_ei ws (w_ar ws (n_v vs 0) 141) j ∧ w_ei ws (w_ar ws (n_v vs 0) 141) j ≤ 23999 := fun j h0 h1 => th_el hD hth cr_0_141 (kd := 0) (n := 96040) (m := 96040) (lo := 0) (hi := 23999) (rs := []) (L := []) rfl (by decide) (j := j.toNat) (by omega)
  have hK_0_142 : ∀ j : Int, 0 ≤ j → j < 4 → 0 ≤ w_ei ws (w_ar ws (n_v vs 0) 142) j ∧ w_ei ws (w_ar ws (n_v vs 0) 142) j ≤ 24009 := fun j h0 h1 => th_el hD hth cr_0_142 (kd := 0) (n := 4) (m := 4) (lo := 0) (hi := 24009) (rs := []) (L := []) rfl (by decide) (j := j.toNat) (by omega)
  have hK_0_143 : ∀ j : Int, 0 ≤ j → j < 6000 → 0 ≤ w_ei ws (w_ar ws (n_v vs 0) 143) j ∧ w_ei ws (w_ar ws (n_v vs 0) 143) j ≤ 1 := fun j h0 h1 => th_el hD hth cr_0_143 (kd := 2) (n := 6000) (m := 6000) (lo := 0) (hi := 1) (rs := []) (L := []) rfl (by decide) (j := j.toNat) (by omega)
  have kz_0_146 : (-2147483648) ≤ w_fi ws (n_v vs 0) 146 ∧ w_fi ws (n_v vs 0) 146 ≤ 2147483647 := tv_rng (th_fd hD hth r0 (g := GG_150) rfl (k := 146) (t := (0, -2147483648, 2147483647, [])) rfl rfl)
  have kz_0_147 : (-2147483648) ≤ w_fi ws (n_v vs 0) 147 ∧ w_fi ws (n_v vs 0) 147 ≤ 2147483647 := tv_rng (th_fd hD hth r0 (g := GG_150) rfl (k := 147) (t := (0, -2147483648, 2147483647, [])) rfl rfl)
  have nf0 : fc_1 PRD (20, [0, 1], [60, 2, 2, 428, 146, 147, 143, 140]) ws (vs) := by
    refine ⟨fun n hn => ?_, ?_⟩
    · have hn : n ∈ [0, 1] := hn
      rw [hl]
      simp only [List.mem_cons, List.not_mem_nil, or_false] at hn
      show n < 7; omega
    · show RTV (w_fi ws (n_v vs 0) 146) (w_fi ws (n_v vs 0) 147) (w_ei ws (w_ar ws (n_v vs 0) 143)) (w_ei ws (w_ar ws (n_v vs 0) 140)) (v_iv (n_v vs 1))
      exact vc_Mo_spread_12_0 (v_iv (n_v vs 1)) (v_iv (n_v vs 3)) (v_iv (n_v vs 4)) (v_iv (n_v vs 5)) (v_iv (n_v vs 6)) (w_fi ws (n_v vs 0) 146) (w_fi ws (n_v vs 0) 147) (w_ei ws (w_ar ws (n_v vs 0) 143)) (w_ei ws (w_ar ws (n_v vs 0) 140)) (w_ei ws (w_ar ws (n_v vs 0) 141)) (w_ei ws (w_ar ws (n_v vs 0) 142)) k1 k3 k4 k5 k6 d0 d1 f0 f1 f2 f3 hK_0_140 hK_0_141 hK_0_142 hK_0_143 kz_0_146 kz_0_147
  refine ⟨(fun _ h => (by cases h)), [], trivial, ?_, (fun _ h => (by cases h))⟩
  rw [List.append_nil]
  exact List.forall_mem_cons.mpr ⟨⟨show (20 : Nat) < 100 from by decide, nf0⟩, (fun _ h => (by cases h))⟩
set_option maxHeartbeats 4000000 in
theorem vc_Mo_spread_13_0 (x1 : Int) (x3 : Int) (x4 : Int) (x5 : Int) (x6 : Int) (x7 : Int) (x8 : Int) (x10 : Int) (x11 : Int) (bucketMany_0 : Int → Int) (wide_0 : Int) (tall_0 : Int) (barredPoint_0 : Int → Int) (costOf_0 : Int → Int) (bucket_0 : Int → Int) (k1 : 0 ≤ x1 ∧ x1 ≤ 5999) (k3 : 0 ≤ x3 ∧ x3 ≤ 5999) (k4 : 0 ≤ x4 ∧ x4 ≤ 1000004) (k5 : 0 ≤ x5 ∧ x5 ≤ 3) (k6 : 4 ≤ x6 ∧ x6 ≤ 4) (k7 : 3 ≤ x7 ∧ x7 ≤ 3) (k8 : 0 ≤ x8 ∧ x8 ≤ 3) (k10 : 1 ≤ x10 ∧ x10 ≤ 24009) (k11 : 0 ≤ x11 ∧ x11 ≤ 0) (d0 : x3 + (-4294967296) ≤ x1 ∧ x1 ≤ x3 + 0) (d1 : x1 + (-4294967296) ≤ x3 ∧ x3 ≤ x1 + 0) (d2 : x4 + (-4294967296) ≤ x5 ∧ x5 ≤ x4 + 0) (f0 : x10 ≠ 0) (h1 : x10 = bucketMany_0 (x8)) (f3 : x8 = x4 % 4) (f4 : bvp (x8) = bvp (x4) &&& bvp (x7)) (f5 : x5 < x6) (f6 : (0 ≤ x1) ∧ ((x1 + 1) ≤ (wide_0 * tall_0))) (f7 : RTQ (wide_0) (tall_0) (barredPoint_0) (costOf_0) (bucket_0) (bucketMany_0) (x1) (x4)) (f8 : (0 ≤ x5) ∧ ((x4 - x5) ≤ 1000000)) (hK_0_140 : ∀ j : Int, 0 ≤ j → j < 24000 → 0 ≤ costOf_0 j ∧ costOf_0 j ≤ 1000000) (hK_0_141 : ∀ j : Int, 0 ≤ j → j < 96040 → 0 ≤ bucket_0 j ∧ bucket_0 j ≤ 23999) (hK_0_142 : ∀ j : Int, 0 ≤ j → j < 4 → 0 ≤ bucketMany_0 j ∧ bucketMany_0 j ≤ 24009) (hK_0_143 : ∀ j : Int, 0 ≤ j → j < 6000 → 0 ≤ barredPoint_0 j ∧ barredPoint_0 j ≤ 1) (kz_0_146 : (-2147483648) ≤ wide_0 ∧ wide_0 ≤ 2147483647) (kz_0_147 : (-2147483648) ≤ tall_0 ∧ tall_0 ≤ 2147483647) : (0 ≤ x11) ∧ (((x4 + 1) - x11) ≤ 1000000) := by
  first
    | omega
    | (have g := gok_bd ‹GRX _ _›; omega)
    | (have h := bm_pos (b := x8) (m := x10) ‹RTQ _ _ _ _ _ _ _ _› (by omega) (by assumption); omega)
    | (have h := bk_at (b := x6) (k := x7) (s := x14) (q := x13) ‹RTQ _ _ _ _ _ _ _ _› (by omega) (by omega) (by omega) (by omega) (by assumption); omega)
    | (have h := bm_pos (b := x6) (m := x9) ‹RTQ _ _ _ _ _ _ _ _› (by omega) (by assumption); omega)
    | (have g := gok_bd (show GRX wide_0 tall_0 from ‹RTQ _ _ _ _ _ _ _ _›.1); omega)
set_option maxHeartbeats 4000000 in
theorem vc_Mo_spread_13_1 (x1 : Int) (x3 : Int) (x4 : Int) (x5 : Int) (x6 : Int) (x7 : Int) (x8 : Int) (x10 : Int) (x11 : Int) (bucketMany_0 : Int → Int) (wide_0 : Int) (tall_0 : Int) (barredPoint_0 : Int → Int) (costOf_0 : Int → Int) (bucket_0 : Int → Int) (k1 : 0 ≤ x1 ∧ x1 ≤ 5999) (k3 : 0 ≤ x3 ∧ x3 ≤ 5999) (k4 : 0 ≤ x4 ∧ x4 ≤ 1000004) (k5 : 0 ≤ x5 ∧ x5 ≤ 3) (k6 : 4 ≤ x6 ∧ x6 ≤ 4) (k7 : 3 ≤ x7 ∧ x7 ≤ 3) (k8 : 0 ≤ x8 ∧ x8 ≤ 3) (k10 : 1 ≤ x10 ∧ x10 ≤ 24009) (k11 : 0 ≤ x11 ∧ x11 ≤ 0) (d0 : x3 + (-4294967296) ≤ x1 ∧ x1 ≤ x3 + 0) (d1 : x1 + (-4294967296) ≤ x3 ∧ x3 ≤ x1 + 0) (d2 : x4 + (-4294967296) ≤ x5 ∧ x5 ≤ x4 + 0) (f0 : x10 ≠ 0) (h1 : x10 = bucketMany_0 (x8)) (f3 : x8 = x4 % 4) (f4 : bvp (x8) = bvp (x4) &&& bvp (x7)) (f5 : x5 < x6) (f6 : (0 ≤ x1) ∧ ((x1 + 1) ≤ (wide_0 * tall_0))) (f7 : RTQ (wide_0) (tall_0) (barredPoint_0) (costOf_0) (bucket_0) (bucketMany_0) (x1) (x4)) (f8 : (0 ≤ x5) ∧ ((x4 - x5) ≤ 1000000)) (hK_0_140 : ∀ j : Int, 0 ≤ j → j < 24000 → 0 ≤ costOf_0 j ∧ costOf_0 j ≤ 1000000) (hK_0_141 : ∀ j : Int, 0 ≤ j → j < 96040 → 0 ≤ bucket_0 j ∧ bucket_0 j ≤ 23999) (hK_0_142 : ∀ j : Int, 0 ≤ j → j < 4 → 0 ≤ bucketMany_0 j ∧ bucketMany_0 j ≤ 24009) (hK_0_143 : ∀ j : Int, 0 ≤ j → j < 6000 → 0 ≤ barredPoint_0 j ∧ barredPoint_0 j ≤ 1) (kz_0_146 : (-2147483648) ≤ wide_0 ∧ wide_0 ≤ 2147483647) (kz_0_147 : (-2147483648) ≤ tall_0 ∧ tall_0 ≤ 2147483647) : x8 = (x4 % 4) := by
  first
    | omega
    | (have g := gok_bd ‹GRX _ _›; omega)
    | (have h := bm_pos (b := x8) (m := x10) ‹RTQ _ _ _ _ _ _ _ _› (by omega) (by assumption); omega)
    | (have h := bk_at (b := x6) (k := x7) (s := x14) (q := x13) ‹RTQ _ _ _ _ _ _ _ _› (by omega) (by omega) (by omega) (by omega) (by assumption); omega)
    | (have h := bm_pos (b := x6) (m := x9) ‹RTQ _ _ _ _ _ _ _ _› (by omega) (by assumption); omega)
    | (have g := gok_bd (show GRX wide_0 tall_0 from ‹RTQ _ _ _ _ _ _ _ _›.1); omega)
set_option maxHeartbeats 4000000 in
theorem vc_Mo_spread_13_2 (x1 : Int) (x3 : Int) (x4 : Int) (x5 : Int) (x6 : Int) (x7 : Int) (x8 : Int) (x10 : Int) (x11 : Int) (bucketMany_0 : Int → Int) (wide_0 : Int) (tall_0 : Int) (barredPoint_0 : Int → Int) (costOf_0 : Int → Int) (bucket_0 : Int → Int) (k1 : 0 ≤ x1 ∧ x1 ≤ 5999) (k3 : 0 ≤ x3 ∧ x3 ≤ 5999) (k4 : 0 ≤ x4 ∧ x4 ≤ 1000004) (k5 : 0 ≤ x5 ∧ x5 ≤ 3) (k6 : 4 ≤ x6 ∧ x6 ≤ 4) (k7 : 3 ≤ x7 ∧ x7 ≤ 3) (k8 : 0 ≤ x8 ∧ x8 ≤ 3) (k10 : 1 ≤ x10 ∧ x10 ≤ 24009) (k11 : 0 ≤ x11 ∧ x11 ≤ 0) (d0 : x3 + (-4294967296) ≤ x1 ∧ x1 ≤ x3 + 0) (d1 : x1 + (-4294967296) ≤ x3 ∧ x3 ≤ x1 + 0) (d2 : x4 + (-4294967296) ≤ x5 ∧ x5 ≤ x4 + 0) (f0 : x10 ≠ 0) (h1 : x10 = bucketMany_0 (x8)) (f3 : x8 = x4 % 4) (f4 : bvp (x8) = bvp (x4) &&& bvp (x7)) (f5 : x5 < x6) (f6 : (0 ≤ x1) ∧ ((x1 + 1) ≤ (wide_0 * tall_0))) (f7 : RTQ (wide_0) (tall_0) (barredPoint_0) (costOf_0) (bucket_0) (bucketMany_0) (x1) (x4)) (f8 : (0 ≤ x5) ∧ ((x4 - x5) ≤ 1000000)) (hK_0_140 : ∀ j : Int, 0 ≤ j → j < 24000 → 0 ≤ costOf_0 j ∧ costOf_0 j ≤ 1000000) (hK_0_141 : ∀ j : Int, 0 ≤ j → j < 96040 → 0 ≤ bucket_0 j ∧ bucket_0 j ≤ 23999) (hK_0_142 : ∀ j : Int, 0 ≤ j → j < 4 → 0 ≤ bucketMany_0 j ∧ bucketMany_0 j ≤ 24009) (hK_0_143 : ∀ j : Int, 0 ≤ j → j < 6000 → 0 ≤ barredPoint_0 j ∧ barredPoint_0 j ≤ 1) (kz_0_146 : (-2147483648) ≤ wide_0 ∧ wide_0 ≤ 2147483647) (kz_0_147 : (-2147483648) ≤ tall_0 ∧ tall_0 ≤ 2147483647) : x4 ≤ 1000003 := by
  first
    | omega
    | (have g := gok_bd ‹GRX _ _›; omega)
    | (have h := bm_pos (b := x8) (m := x10) ‹RTQ _ _ _ _ _ _ _ _› (by omega) (by assumption); omega)
    | (have h := bk_at (b := x6) (k := x7) (s := x14) (q := x13) ‹RTQ _ _ _ _ _ _ _ _› (by omega) (by omega) (by omega) (by omega) (by assumption); omega)
    | (have h := bm_pos (b := x6) (m := x9) ‹RTQ _ _ _ _ _ _ _ _› (by omega) (by assumption); omega)
    | (have g := gok_bd (show GRX wide_0 tall_0 from ‹RTQ _ _ _ _ _ _ _ _›.1); omega)
def o_Mo_spread_13 : or_T := (120, 13, [(0, (2, 0, 0, [150])), (1, (0, 0, 5999, [])), (2, (2, 0, 0, [150])), (3, (0, 0, 5999, [])), (4, (0, 0, 1000004, [])), (5, (0, 0, 3, [])), (6, (0, 4, 4, [])), (7, (0, 3, 3, [])), (8, (0, 0, 3, [])), (9, (2, 0, 0, [253])), (10, (0, 1, 24009, [])), (11, (0, 0, 0, []))], [(8, [10], [1]), (10, [10, 9, 8], []), (9, [9, 2], [142]), (12, [8, 4], [4]), (16, [8, 4, 7], [0]), (7, [5, 6], [2]), (20, [3, 2], [50, 2, 0, 1146, 1147, 2, 6, 0, 2, 0, 0, 1, 0, 0, 6, 4, 2, 1, 0, 0, 1, 6, 3, 2, 1, 146, 2, 1, 147]), (20, [2, 3, 4], [60, 2, 4, 419, 146, 147, 143, 140, 141, 142]), (20, [5, 4], [50, 0, 0, 2, 6, 0, 2, 0, 0, 1, 0, 0, 6, 5, 2, 1, 1, 1, 0, 0, 1000000]), (24, [0, 2], []), (24, [1, 3], [])], [], [], [(20, [11, 4], [50, 0, 0, 2, 6, 0, 2, 0, 0, 1, 0, 0, 10, 5, 6, 4, 2, 1, 1, 0, 1, 1, 0, 0, 1000000]), (20, [8, 4], [50, 0, 0, 1, 2, 1, 0, 9, 2, 1, 1, 0, 4]), (20, [4], [50, 0, 0, 0, 2, 1, 0, 0, 1000003])], [], [(1, 3, -4294967296, 0), (3, 1, -4294967296, 0), (5, 4, -4294967296, 0)])
theorem oo_Mo_spread_13 {kA : Nat → ClassId} : or_ok PRD kA GG o_Mo_spread_13 := by
  intro A ta ws vs hD hth hl hk hds hf
  have hl : vs.length = 13 := hl
  have hk : ∀ q ∈ ([(0, (2, 0, 0, [150])), (1, (0, 0, 5999, [])), (2, (2, 0, 0, [150])), (3, (0, 0, 5999, [])), (4, (0, 0, 1000004, [])), (5, (0, 0, 3, [])), (6, (0, 4, 4, [])), (7, (0, 3, 3, [])), (8, (0, 0, 3, [])), (9, (2, 0, 0, [253])), (10, (0, 1, 24009, [])), (11, (0, 0, 0, []))] : List (Nat × tv_T)), tv_ok ta q.2 (n_v vs q.1) := hk
  obtain ⟨t0, hk⟩ := List.forall_mem_cons.mp hk
  have t0 : tv_ok ta (2, 0, 0, [150]) (n_v vs 0) := t0
  have r0 : ta (v_ad (n_v vs 0)) = some 150 := tv_rg t0
  obtain ⟨t1, hk⟩ := List.forall_mem_cons.mp hk
  have t1 : tv_ok ta (0, 0, 5999, []) (n_v vs 1) := t1
  have k1 : 0 ≤ v_iv (n_v vs 1) ∧ v_iv (n_v vs 1) ≤ 5999 := tv_rng t1
  obtain ⟨t2, hk⟩ := List.forall_mem_cons.mp hk
  have t2 : tv_ok ta (2, 0, 0, [150]) (n_v vs 2) := t2
  have r2 : ta (v_ad (n_v vs 2)) = some 150 := tv_rg t2
  obtain ⟨t3, hk⟩ := List.forall_mem_cons.mp hk
  have t3 : tv_ok ta (0, 0, 5999, []) (n_v vs 3) := t3
  have k3 : 0 ≤ v_iv (n_v vs 3) ∧ v_iv (n_v vs 3) ≤ 5999 := tv_rng t3
  obtain ⟨t4, hk⟩ := List.forall_mem_cons.mp hk
  have t4 : tv_ok ta (0, 0, 1000004, []) (n_v vs 4) := t4
  have k4 : 0 ≤ v_iv (n_v vs 4) ∧ v_iv (n_v vs 4) ≤ 1000004 := tv_rng t4
  obtain ⟨t5, hk⟩ := List.forall_mem_cons.mp hk
  have t5 : tv_ok ta (0, 0, 3, []) (n_v vs 5) := t5
  have k5 : 0 ≤ v_iv (n_v vs 5) ∧ v_iv (n_v vs 5) ≤ 3 := tv_rng t5
  obtain ⟨t6, hk⟩ := List.forall_mem_cons.mp hk
  have t6 : tv_ok ta (0, 4, 4, []) (n_v vs 6) := t6
  have k6 : 4 ≤ v_iv (n_v vs 6) ∧ v_iv (n_v vs 6) ≤ 4 := tv_rng t6
  obtain ⟨t7, hk⟩ := List.forall_mem_cons.mp hk
  have t7 : tv_ok ta (0, 3, 3, []) (n_v vs 7) := t7
  have k7 : 3 ≤ v_iv (n_v vs 7) ∧ v_iv (n_v vs 7) ≤ 3 := tv_rng t7
  obtain ⟨t8, hk⟩ := List.forall_mem_cons.mp hk
  have t8 : tv_ok ta (0, 0, 3, []) (n_v vs 8) := t8
  have k8 : 0 ≤ v_iv (n_v vs 8) ∧ v_iv (n_v vs 8) ≤ 3 := tv_rng t8
  obtain ⟨t9, hk⟩ := List.forall_mem_cons.mp hk
  have t9 : tv_ok ta (2, 0, 0, [253]) (n_v vs 9) := t9
  have r9 : ta (v_ad (n_v vs 9)) = some 253 := tv_rg t9
  obtain ⟨t10, hk⟩ := List.forall_mem_cons.mp hk
  have t10 : tv_ok ta (0, 1, 24009, []) (n_v vs 10) := t10
  have k10 : 1 ≤ v_iv (n_v vs 10) ∧ v_iv (n_v vs 10) ≤ 24009 := tv_rng t10
  obtain ⟨t11, hk⟩ := List.forall_mem_cons.mp hk
  have t11 : tv_ok ta (0, 0, 0, []) (n_v vs 11) := t11
  have k11 : 0 ≤ v_iv (n_v vs 11) ∧ v_iv (n_v vs 11) ≤ 0 := tv_rng t11
  have hds : ∀ q ∈ ([(1, 3, -4294967296, 0), (3, 1, -4294967296, 0), (5, 4, -4294967296, 0)] : List of_T), n_iv vs q.2.1 + q.2.2.1 ≤ n_iv vs q.1 ∧ n_iv vs q.1 ≤ n_iv vs q.2.1 + q.2.2.2 := hds
  obtain ⟨d0, hds⟩ := List.forall_mem_cons.mp hds
  have d0 : v_iv (n_v vs 3) + (-4294967296) ≤ v_iv (n_v vs 1) ∧ v_iv (n_v vs 1) ≤ v_iv (n_v vs 3) + 0 := d0
  obtain ⟨d1, hds⟩ := List.forall_mem_cons.mp hds
  have d1 : v_iv (n_v vs 1) + (-4294967296) ≤ v_iv (n_v vs 3) ∧ v_iv (n_v vs 3) ≤ v_iv (n_v vs 1) + 0 := d1
  obtain ⟨d2, hds⟩ := List.forall_mem_cons.mp hds
  have d2 : v_iv (n_v vs 4) + (-4294967296) ≤ v_iv (n_v vs 5) ∧ v_iv (n_v vs 5) ≤ v_iv (n_v vs 4) + 0 := d2
  have hf : fc_ok PRD [(8, [10], [1]), (10, [10, 9, 8], []), (9, [9, 2], [142]), (12, [8, 4], [4]), (16, [8, 4, 7], [0]), (7, [5, 6], [2]), (20, [3, 2], [50, 2, 0, 1146, 1147, 2, 6, 0, 2, 0, 0, 1, 0, 0, 6, 4, 2, 1, 0, 0, 1, 6, 3, 2, 1, 146, 2, 1, 147]), (20, [2, 3, 4], [60, 2, 4, 419, 146, 147, 143, 140, 141, 142]), (20, [5, 4], [50, 0, 0, 2, 6, 0, 2, 0, 0, 1, 0, 0, 6, 5, 2, 1, 1, 1, 0, 0, 1000000]), (24, [0, 2], []), (24, [1, 3], [])] ta ws vs := hf
  obtain ⟨f0, hf⟩ := fc_un (show (8 : Nat) < 100 from by decide) hf
  have f0 : v_iv (n_v vs 10) ≠ 0 := f0
  obtain ⟨f1, hf⟩ := fc_un (show (10 : Nat) < 100 from by decide) hf
  have f1 : v_iv (n_v vs 10) = w_el ws (v_ad (n_v vs 9)) (v_iv (n_v vs 8)).toNat := f1
  obtain ⟨f2, hf⟩ := fc_un (show (9 : Nat) < 100 from by decide) hf
  have f2 : n_v vs 9 = w_fd ws (v_ad (n_v vs 2)) 142 := f2
  obtain ⟨f3, hf⟩ := fc_un (show (12 : Nat) < 100 from by decide) hf
  have f3 : v_iv (n_v vs 8) = v_iv (n_v vs 4) % 4 := f3
  obtain ⟨f4, hf⟩ := fc_un (show (16 : Nat) < 100 from by decide) hf
  have f4 : bv (v_iv (n_v vs 8)) = bv (v_iv (n_v vs 4)) &&& bv (v_iv (n_v vs 7)) := f4
  obtain ⟨f5, hf⟩ := fc_un (show (7 : Nat) < 100 from by decide) hf
  have f5 : v_iv (n_v vs 5) < v_iv (n_v vs 6) := f5
  obtain ⟨f6, hf⟩ := fc_un (show (20 : Nat) < 100 from by decide) hf
  have f6 : (0 ≤ v_iv (n_v vs 3)) ∧ ((v_iv (n_v vs 3) + 1) ≤ (w_fi ws (n_v vs 2) 146 * w_fi ws (n_v vs 2) 147)) := f6
  obtain ⟨f7, hf⟩ := fc_un (show (20 : Nat) < 100 from by decide) hf
  have f7 : RTQ (w_fi ws (n_v vs 2) 146) (w_fi ws (n_v vs 2) 147) (w_ei ws (w_ar ws (n_v vs 2) 143)) (w_ei ws (w_ar ws (n_v vs 2) 140)) (w_ei ws (w_ar ws (n_v vs 2) 141)) (w_ei ws (w_ar ws (n_v vs 2) 142)) (v_iv (n_v vs 3)) (v_iv (n_v vs 4)) := f7
  obtain ⟨f8, hf⟩ := fc_un (show (20 : Nat) < 100 from by decide) hf
  have f8 : (0 ≤ v_iv (n_v vs 5)) ∧ ((v_iv (n_v vs 4) - v_iv (n_v vs 5)) ≤ 1000000) := f8
  obtain ⟨f9, hf⟩ := fc_un (show (24 : Nat) < 100 from by decide) hf
  have f9 : n_v vs 0 = n_v vs 2 := f9
  obtain ⟨f10, hf⟩ := fc_un (show (24 : Nat) < 100 from by decide) hf
  have f10 : n_v vs 1 = n_v vs 3 := f10
  have q2 : n_v vs 2 = n_v vs 0 := f9.symm
  have q3 : n_v vs 3 = n_v vs 1 := f10.symm
  rw [q2] at f2
  rw [q2] at f6
  rw [q3] at f6
  rw [q2] at f7
  rw [q3] at f7
  have cr_0_140 : ta (w_ar ws (n_v vs 0) 140) = some 251 := tv_rg (th_fd hD hth r0 (g := GG_150) rfl (k := 140) (t := (2, 0, 0, [251])) rfl rfl)
  have cr_0_141 : ta (w_ar ws (n_v vs 0) 141) = some 252 := tv_rg (th_fd hD hth r0 (g := GG_150) rfl (k := 141) (t := (2, 0, 0, [252])) rfl rfl)
  have cr_0_142 : ta (w_ar ws (n_v vs 0) 142) = some 253 := tv_rg (th_fd hD hth r0 (g := GG_150) rfl (k := 142) (t := (2, 0, 0, [253])) rfl rfl)
  have cr_0_143 : ta (w_ar ws (n_v vs 0) 143) = some 254 := tv_rg (th_fd hD hth r0 (g := GG_150) rfl (k := 143) (t := (2, 0, 0, [254])) rfl rfl)
  have ad_9 : v_ad (n_v vs 9) = w_ar ws (n_v vs 0) 142 := congrArg v_ad f2
  rw [ad_9] at f1
  have h1 : v_iv (n_v vs 10) = w_ei ws (w_ar ws (n_v vs 0) 142) (v_iv (n_v vs 8)) := f1
  have hK_0_140 : ∀ j : Int, 0 ≤ j → j < 24000 → 0 ≤ w_ei ws (w_ar ws (n_v vs 0) 140) j ∧ w_ei ws (w_ar ws (n_v vs 0) 140) j ≤ 1000000 := fun j h0 h1 => th_el hD hth cr_0_140 (kd := 0) (n := 24000) (m := 24000) (lo := 0) (hi := 1000000) (rs := []) (L := []) rfl (by decide) (j := j.toNat) (by omega)
  have hK_0_141 : ∀ j : Int, 0 ≤ j → j < 96040 → 0 ≤ w_ei ws (w_ar ws (n_v vs 0) 141) j ∧ w_ei ws (w_ar ws (n_v vs 0) 141) j ≤ 23999 := fun j h0 h1 => th_el hD hth cr_0_141 (kd := 0) (n := 96040) (m := 96040) (lo := 0) (hi := 23999) (rs := []) (L := []) rfl (by decide) (j := j.toNat) (by omega)
  have hK_0_142 : ∀ j : Int, 0 ≤ j → j < 4 → 0 ≤ w_ei ws (w_ar ws (n_v vs 0) 142) j ∧ w_ei ws (w_ar ws (n_v vs 0) 142) j ≤ 24009 := fun j h0 h1 => th_el hD hth cr_0_142 (kd := 0) (n := 4) (m := 4) (lo := 0) (hi := 24009) (rs := []) (L := []) rfl (by decide) (j := j.toNat) (by omega)
  have hK_0_143 : ∀ j : Int, 0 ≤ j → j < 6000 → 0 ≤ w_ei ws (w_ar ws (n_v vs 0) 143) j ∧ w_ei ws (w_ar ws (n_v vs 0) 143) j ≤ 1 := fun j h0 h1 => th_el hD hth cr_0_143 (kd := 2) (n := 6000) (m := 6000) (lo := 0) (hi := 1) (rs := []) (L := []) rfl (by decide) (j := j.toNat) (by omega)
  have kz_0_146 : (-2147483648) ≤ w_fi ws (n_v vs 0) 146 ∧ w_fi ws (n_v vs 0) 146 ≤ 2147483647 := tv_rng (th_fd hD hth r0 (g := GG_150) rfl (k := 146) (t := (0, -2147483648, 2147483647, [])) rfl rfl)
  have kz_0_147 : (-2147483648) ≤ w_fi ws (n_v vs 0) 147 ∧ w_fi ws (n_v vs 0) 147 ≤ 2147483647 := tv_rng (th_fd hD hth r0 (g := GG_150) rfl (k := 147) (t := (0, -2147483648, 2147483647, [])) rfl rfl)
  have nf0 : fc_1 PRD (20, [11, 4], [50, 0, 0, 2, 6, 0, 2, 0, 0, 1, 0, 0, 10, 5, 6, 4, 2, 1, 1, 0, 1, 1, 0, 0, 1000000]) ws (vs) := by
    refine ⟨fun n hn => ?_, ?_⟩
    · have hn : n ∈ [11, 4] := hn
      rw [hl]
      simp only [List.mem_cons, List.not_mem_nil, or_false] at hn
      show n < 13; omega
    · show (0 ≤ v_iv (n_v vs 11)) ∧ (((v_iv (n_v vs 4) + 1) - v_iv (n_v vs 11)) ≤ 1000000)
      exact vc_Mo_spread_13_0 (v_iv (n_v vs 1)) (v_iv (n_v vs 3)) (v_iv (n_v vs 4)) (v_iv (n_v vs 5)) (v_iv (n_v vs 6)) (v_iv (n_v vs 7)) (v_iv (n_v vs 8)) (v_iv (n_v vs 10)) (v_iv (n_v vs 11)) (w_ei ws (w_ar ws (n_v vs 0) 142)) (w_fi ws (n_v vs 0) 146) (w_fi ws (n_v vs 0) 147) (w_ei ws (w_ar ws (n_v vs 0) 143)) (w_ei ws (w_ar ws (n_v vs 0) 140)) (w_ei ws (w_ar ws (n_v vs 0) 141)) k1 k3 k4 k5 k6 k7 k8 k10 k11 d0 d1 d2 f0 h1 f3 f4 f5 f6 f7 f8 hK_0_140 hK_0_141 hK_0_142 hK_0_143 kz_0_146 kz_0_147
  have nf1 : fc_1 PRD (20, [8, 4], [50, 0, 0, 1, 2, 1, 0, 9, 2, 1, 1, 0, 4]) ws (vs) := by
    refine ⟨fun n hn => ?_, ?_⟩
    · have hn : n ∈ [8, 4] := hn
      rw [hl]
      simp only [List.mem_cons, List.not_mem_nil, or_false] at hn
      show n < 13; omega
    · show v_iv (n_v vs 8) = (v_iv (n_v vs 4) % 4)
      exact vc_Mo_spread_13_1 (v_iv (n_v vs 1)) (v_iv (n_v vs 3)) (v_iv (n_v vs 4)) (v_iv (n_v vs 5)) (v_iv (n_v vs 6)) (v_iv (n_v vs 7)) (v_iv (n_v vs 8)) (v_iv (n_v vs 10)) (v_iv (n_v vs 11)) (w_ei ws (w_ar ws (n_v vs 0) 142)) (w_fi ws (n_v vs 0) 146) (w_fi ws (n_v vs 0) 147) (w_ei ws (w_ar ws (n_v vs 0) 143)) (w_ei ws (w_ar ws (n_v vs 0) 140)) (w_ei ws (w_ar ws (n_v vs 0) 141)) k1 k3 k4 k5 k6 k7 k8 k10 k11 d0 d1 d2 f0 h1 f3 f4 f5 f6 f7 f8 hK_0_140 hK_0_141 hK_0_142 hK_0_143 kz_0_146 kz_0_147
  have nf2 : fc_1 PRD (20, [4], [50, 0, 0, 0, 2, 1, 0, 0, 1000003]) ws (vs) := by
    refine ⟨fun n hn => ?_, ?_⟩
    · have hn : n ∈ [4] := hn
      rw [hl]
      simp only [List.mem_cons, List.not_mem_nil, or_false] at hn
      show n < 13; omega
    · show v_iv (n_v vs 4) ≤ 1000003
      exact vc_Mo_spread_13_2 (v_iv (n_v vs 1)) (v_iv (n_v vs 3)) (v_iv (n_v vs 4)) (v_iv (n_v vs 5)) (v_iv (n_v vs 6)) (v_iv (n_v vs 7)) (v_iv (n_v vs 8)) (v_iv (n_v vs 10)) (v_iv (n_v vs 11)) (w_ei ws (w_ar ws (n_v vs 0) 142)) (w_fi ws (n_v vs 0) 146) (w_fi ws (n_v vs 0) 147) (w_ei ws (w_ar ws (n_v vs 0) 143)) (w_ei ws (w_ar ws (n_v vs 0) 140)) (w_ei ws (w_ar ws (n_v vs 0) 141)) k1 k3 k4 k5 k6 k7 k8 k10 k11 d0 d1 d2 f0 h1 f3 f4 f5 f6 f7 f8 hK_0_140 hK_0_141 hK_0_142 hK_0_143 kz_0_146 kz_0_147
  refine ⟨(fun _ h => (by cases h)), [], trivial, ?_, (fun _ h => (by cases h))⟩
  rw [List.append_nil]
  exact List.forall_mem_cons.mpr ⟨⟨show (20 : Nat) < 100 from by decide, nf0⟩, List.forall_mem_cons.mpr ⟨⟨show (20 : Nat) < 100 from by decide, nf1⟩, List.forall_mem_cons.mpr ⟨⟨show (20 : Nat) < 100 from by decide, nf2⟩, (fun _ h => (by cases h))⟩⟩⟩
set_option maxHeartbeats 4000000 in
theorem vc_Mo_spread_14_0 (x1 : Int) (x3 : Int) (x4 : Int) (x5 : Int) (x6 : Int) (x7 : Int) (x8 : Int) (x10 : Int) (x11 : Int) (x12 : Int) (bucketMany_0 : Int → Int) (wide_0 : Int) (tall_0 : Int) (barredPoint_0 : Int → Int) (costOf_0 : Int → Int) (bucket_0 : Int → Int) (k1 : 0 ≤ x1 ∧ x1 ≤ 5999) (k3 : 0 ≤ x3 ∧ x3 ≤ 5999) (k4 : 0 ≤ x4 ∧ x4 ≤ 1000004) (k5 : 0 ≤ x5 ∧ x5 ≤ 3) (k6 : 4 ≤ x6 ∧ x6 ≤ 4) (k7 : 3 ≤ x7 ∧ x7 ≤ 3) (k8 : 0 ≤ x8 ∧ x8 ≤ 3) (k10 : 0 ≤ x10 ∧ x10 ≤ 0) (k11 : 1 ≤ x11 ∧ x11 ≤ 1) (k12 : 1 ≤ x12 ∧ x12 ≤ 4) (d0 : x5 + 1 ≤ x12 ∧ x12 ≤ x5 + 1) (d1 : x4 + (-4294967296) ≤ x12 ∧ x12 ≤ x4 + 1) (d2 : x3 + (-4294967296) ≤ x1 ∧ x1 ≤ x3 + 0) (d3 : x1 + (-4294967296) ≤ x3 ∧ x3 ≤ x1 + 0) (d4 : x4 + (-4294967296) ≤ x5 ∧ x5 ≤ x4 + 0) (f0 : x12 = x5 + x11) (f1 : x10 = 0) (h2 : x10 = bucketMany_0 (x8)) (f4 : x8 = x4 % 4) (f5 : bvp (x8) = bvp (x4) &&& bvp (x7)) (f6 : x5 < x6) (f7 : (0 ≤ x1) ∧ ((x1 + 1) ≤ (wide_0 * tall_0))) (f8 : RTQ (wide_0) (tall_0) (barredPoint_0) (costOf_0) (bucket_0) (bucketMany_0) (x1) (x4)) (f9 : (0 ≤ x5) ∧ ((x4 - x5) ≤ 1000000)) (hK_0_140 : ∀ j : Int, 0 ≤ j → j < 24000 → 0 ≤ costOf_0 j ∧ costOf_0 j ≤ 1000000) (hK_0_141 : ∀ j : Int, 0 ≤ j → j < 96040 → 0 ≤ bucket_0 j ∧ bucket_0 j ≤ 23999) (hK_0_142 : ∀ j : Int, 0 ≤ j → j < 4 → 0 ≤ bucketMany_0 j ∧ bucketMany_0 j ≤ 24009) (hK_0_143 : ∀ j : Int, 0 ≤ j → j < 6000 → 0 ≤ barredPoint_0 j ∧ barredPoint_0 j ≤ 1) (kz_0_146 : (-2147483648) ≤ wide_0 ∧ wide_0 ≤ 2147483647) (kz_0_147 : (-2147483648) ≤ tall_0 ∧ tall_0 ≤ 2147483647) : (0 ≤ x12) ∧ (((x4 + 1) - x12) ≤ 1000000) := by
  first
    | omega
    | (have g := gok_bd ‹GRX _ _›; omega)
    | (have h := bm_pos (b := x8) (m := x10) ‹RTQ _ _ _ _ _ _ _ _› (by omega) (by assumption); omega)
    | (have h := bk_at (b := x6) (k := x7) (s := x14) (q := x13) ‹RTQ _ _ _ _ _ _ _ _› (by omega) (by omega) (by omega) (by omega) (by assumption); omega)
    | (have h := bm_pos (b := x6) (m := x9) ‹RTQ _ _ _ _ _ _ _ _› (by omega) (by assumption); omega)
    | (have g := gok_bd (show GRX wide_0 tall_0 from ‹RTQ _ _ _ _ _ _ _ _›.1); omega)
set_option maxHeartbeats 4000000 in
theorem vc_Mo_spread_14_1 (x1 : Int) (x3 : Int) (x4 : Int) (x5 : Int) (x6 : Int) (x7 : Int) (x8 : Int) (x10 : Int) (x11 : Int) (x12 : Int) (bucketMany_0 : Int → Int) (wide_0 : Int) (tall_0 : Int) (barredPoint_0 : Int → Int) (costOf_0 : Int → Int) (bucket_0 : Int → Int) (k1 : 0 ≤ x1 ∧ x1 ≤ 5999) (k3 : 0 ≤ x3 ∧ x3 ≤ 5999) (k4 : 0 ≤ x4 ∧ x4 ≤ 1000004) (k5 : 0 ≤ x5 ∧ x5 ≤ 3) (k6 : 4 ≤ x6 ∧ x6 ≤ 4) (k7 : 3 ≤ x7 ∧ x7 ≤ 3) (k8 : 0 ≤ x8 ∧ x8 ≤ 3) (k10 : 0 ≤ x10 ∧ x10 ≤ 0) (k11 : 1 ≤ x11 ∧ x11 ≤ 1) (k12 : 1 ≤ x12 ∧ x12 ≤ 4) (d0 : x5 + 1 ≤ x12 ∧ x12 ≤ x5 + 1) (d1 : x4 + (-4294967296) ≤ x12 ∧ x12 ≤ x4 + 1) (d2 : x3 + (-4294967296) ≤ x1 ∧ x1 ≤ x3 + 0) (d3 : x1 + (-4294967296) ≤ x3 ∧ x3 ≤ x1 + 0) (d4 : x4 + (-4294967296) ≤ x5 ∧ x5 ≤ x4 + 0) (f0 : x12 = x5 + x11) (f1 : x10 = 0) (h2 : x10 = bucketMany_0 (x8)) (f4 : x8 = x4 % 4) (f5 : bvp (x8) = bvp (x4) &&& bvp (x7)) (f6 : x5 < x6) (f7 : (0 ≤ x1) ∧ ((x1 + 1) ≤ (wide_0 * tall_0))) (f8 : RTQ (wide_0) (tall_0) (barredPoint_0) (costOf_0) (bucket_0) (bucketMany_0) (x1) (x4)) (f9 : (0 ≤ x5) ∧ ((x4 - x5) ≤ 1000000)) (hK_0_140 : ∀ j : Int, 0 ≤ j → j < 24000 → 0 ≤ costOf_0 j ∧ costOf_0 j ≤ 1000000) (hK_0_141 : ∀ j : Int, 0 ≤ j → j < 96040 → 0 ≤ bucket_0 j ∧ bucket_0 j ≤ 23999) (hK_0_142 : ∀ j : Int, 0 ≤ j → j < 4 → 0 ≤ bucketMany_0 j ∧ bucketMany_0 j ≤ 24009) (hK_0_143 : ∀ j : Int, 0 ≤ j → j < 6000 → 0 ≤ barredPoint_0 j ∧ barredPoint_0 j ≤ 1) (kz_0_146 : (-2147483648) ≤ wide_0 ∧ wide_0 ≤ 2147483647) (kz_0_147 : (-2147483648) ≤ tall_0 ∧ tall_0 ≤ 2147483647) : x8 = (x4 % 4) := by
  first
    | omega
    | (have g := gok_bd ‹GRX _ _›; omega)
    | (have h := bm_pos (b := x8) (m := x10) ‹RTQ _ _ _ _ _ _ _ _› (by omega) (by assumption); omega)
    | (have h := bk_at (b := x6) (k := x7) (s := x14) (q := x13) ‹RTQ _ _ _ _ _ _ _ _› (by omega) (by omega) (by omega) (by omega) (by assumption); omega)
    | (have h := bm_pos (b := x6) (m := x9) ‹RTQ _ _ _ _ _ _ _ _› (by omega) (by assumption); omega)
    | (have g := gok_bd (show GRX wide_0 tall_0 from ‹RTQ _ _ _ _ _ _ _ _›.1); omega)
set_option maxHeartbeats 4000000 in
theorem vc_Mo_spread_14_2 (x1 : Int) (x3 : Int) (x4 : Int) (x5 : Int) (x6 : Int) (x7 : Int) (x8 : Int) (x10 : Int) (x11 : Int) (x12 : Int) (bucketMany_0 : Int → Int) (wide_0 : Int) (tall_0 : Int) (barredPoint_0 : Int → Int) (costOf_0 : Int → Int) (bucket_0 : Int → Int) (k1 : 0 ≤ x1 ∧ x1 ≤ 5999) (k3 : 0 ≤ x3 ∧ x3 ≤ 5999) (k4 : 0 ≤ x4 ∧ x4 ≤ 1000004) (k5 : 0 ≤ x5 ∧ x5 ≤ 3) (k6 : 4 ≤ x6 ∧ x6 ≤ 4) (k7 : 3 ≤ x7 ∧ x7 ≤ 3) (k8 : 0 ≤ x8 ∧ x8 ≤ 3) (k10 : 0 ≤ x10 ∧ x10 ≤ 0) (k11 : 1 ≤ x11 ∧ x11 ≤ 1) (k12 : 1 ≤ x12 ∧ x12 ≤ 4) (d0 : x5 + 1 ≤ x12 ∧ x12 ≤ x5 + 1) (d1 : x4 + (-4294967296) ≤ x12 ∧ x12 ≤ x4 + 1) (d2 : x3 + (-4294967296) ≤ x1 ∧ x1 ≤ x3 + 0) (d3 : x1 + (-4294967296) ≤ x3 ∧ x3 ≤ x1 + 0) (d4 : x4 + (-4294967296) ≤ x5 ∧ x5 ≤ x4 + 0) (f0 : x12 = x5 + x11) (f1 : x10 = 0) (h2 : x10 = bucketMany_0 (x8)) (f4 : x8 = x4 % 4) (f5 : bvp (x8) = bvp (x4) &&& bvp (x7)) (f6 : x5 < x6) (f7 : (0 ≤ x1) ∧ ((x1 + 1) ≤ (wide_0 * tall_0))) (f8 : RTQ (wide_0) (tall_0) (barredPoint_0) (costOf_0) (bucket_0) (bucketMany_0) (x1) (x4)) (f9 : (0 ≤ x5) ∧ ((x4 - x5) ≤ 1000000)) (hK_0_140 : ∀ j : Int, 0 ≤ j → j < 24000 → 0 ≤ costOf_0 j ∧ costOf_0 j ≤ 1000000) (hK_0_141 : ∀ j : Int, 0 ≤ j → j < 96040 → 0 ≤ bucket_0 j ∧ bucket_0 j ≤ 23999) (hK_0_142 : ∀ j : Int, 0 ≤ j → j < 4 → 0 ≤ bucketMany_0 j ∧ bucketMany_0 j ≤ 24009) (hK_0_143 : ∀ j : Int, 0 ≤ j → j < 6000 → 0 ≤ barredPoint_0 j ∧ barredPoint_0 j ≤ 1) (kz_0_146 : (-2147483648) ≤ wide_0 ∧ wide_0 ≤ 2147483647) (kz_0_147 : (-2147483648) ≤ tall_0 ∧ tall_0 ≤ 2147483647) : x4 ≤ 1000003 := by
  first
    | omega
    | (have g := gok_bd ‹GRX _ _›; omega)
    | (have h := bm_pos (b := x8) (m := x10) ‹RTQ _ _ _ _ _ _ _ _› (by omega) (by assumption); omega)
    | (have h := bk_at (b := x6) (k := x7) (s := x14) (q := x13) ‹RTQ _ _ _ _ _ _ _ _› (by omega) (by omega) (by omega) (by omega) (by assumption); omega)
    | (have h := bm_pos (b := x6) (m := x9) ‹RTQ _ _ _ _ _ _ _ _› (by omega) (by assumption); omega)
    | (have g := gok_bd (show GRX wide_0 tall_0 from ‹RTQ _ _ _ _ _ _ _ _›.1); omega)
def o_Mo_spread_14 : or_T := (120, 14, [(0, (2, 0, 0, [150])), (1, (0, 0, 5999, [])), (2, (2, 0, 0, [150])), (3, (0, 0, 5999, [])), (4, (0, 0, 1000004, [])), (5, (0, 0, 3, [])), (6, (0, 4, 4, [])), (7, (0, 3, 3, [])), (8, (0, 0, 3, [])), (9, (2, 0, 0, [253])), (10, (0, 0, 0, [])), (11, (0, 1, 1, [])), (12, (0, 1, 4, []))], [(1, [12, 5, 11], []), (8, [10], [0]), (10, [10, 9, 8], []), (9, [9, 2], [142]), (12, [8, 4], [4]), (16, [8, 4, 7], [0]), (7, [5, 6], [2]), (20, [3, 2], [50, 2, 0, 1146, 1147, 2, 6, 0, 2, 0, 0, 1, 0, 0, 6, 4, 2, 1, 0, 0, 1, 6, 3, 2, 1, 146, 2, 1, 147]), (20, [2, 3, 4], [60, 2, 4, 419, 146, 147, 143, 140, 141, 142]), (20, [5, 4], [50, 0, 0, 2, 6, 0, 2, 0, 0, 1, 0, 0, 6, 5, 2, 1, 1, 1, 0, 0, 1000000]), (24, [0, 2], []), (24, [1, 3], [])], [], [], [(20, [12, 4], [50, 0, 0, 2, 6, 0, 2, 0, 0, 1, 0, 0, 10, 5, 6, 4, 2, 1, 1, 0, 1, 1, 0, 0, 1000000]), (20, [8, 4], [50, 0, 0, 1, 2, 1, 0, 9, 2, 1, 1, 0, 4]), (20, [4], [50, 0, 0, 0, 2, 1, 0, 0, 1000003])], [], [(12, 5, 1, 1), (12, 4, -4294967296, 1), (1, 3, -4294967296, 0), (3, 1, -4294967296, 0), (5, 4, -4294967296, 0)])
theorem oo_Mo_spread_14 {kA : Nat → ClassId} : or_ok PRD kA GG o_Mo_spread_14 := by
  intro A ta ws vs hD hth hl hk hds hf
  have hl : vs.length = 14 := hl
  have hk : ∀ q ∈ ([(0, (2, 0, 0, [150])), (1, (0, 0, 5999, [])), (2, (2, 0, 0, [150])), (3, (0, 0, 5999, [])), (4, (0, 0, 1000004, [])), (5, (0, 0, 3, [])), (6, (0, 4, 4, [])), (7, (0, 3, 3, [])), (8, (0, 0, 3, [])), (9, (2, 0, 0, [253])), (10, (0, 0, 0, [])), (11, (0, 1, 1, [])), (12, (0, 1, 4, []))] : List (Nat × tv_T)), tv_ok ta q.2 (n_v vs q.1) := hk
  obtain ⟨t0, hk⟩ := List.forall_mem_cons.mp hk
  have t0 : tv_ok ta (2, 0, 0, [150]) (n_v vs 0) := t0
  have r0 : ta (v_ad (n_v vs 0)) = some 150 := tv_rg t0
  obtain ⟨t1, hk⟩ := List.forall_mem_cons.mp hk
  have t1 : tv_ok ta (0, 0, 5999, []) (n_v vs 1) := t1
  have k1 : 0 ≤ v_iv (n_v vs 1) ∧ v_iv (n_v vs 1) ≤ 5999 := tv_rng t1
  obtain ⟨t2, hk⟩ := List.forall_mem_cons.mp hk
  have t2 : tv_ok ta (2, 0, 0, [150]) (n_v vs 2) := t2
  have r2 : ta (v_ad (n_v vs 2)) = some 150 := tv_rg t2
  obtain ⟨t3, hk⟩ := List.forall_mem_cons.mp hk
  have t3 : tv_ok ta (0, 0, 5999, []) (n_v vs 3) := t3
  have k3 : 0 ≤ v_iv (n_v vs 3) ∧ v_iv (n_v vs 3) ≤ 5999 := tv_rng t3
  obtain ⟨t4, hk⟩ := List.forall_mem_cons.mp hk
  have t4 : tv_ok ta (0, 0, 1000004, []) (n_v vs 4) := t4
  have k4 : 0 ≤ v_iv (n_v vs 4) ∧ v_iv (n_v vs 4) ≤ 1000004 := tv_rng t4
  obtain ⟨t5, hk⟩ := List.forall_mem_cons.mp hk
  have t5 : tv_ok ta (0, 0, 3, []) (n_v vs 5) := t5
  have k5 : 0 ≤ v_iv (n_v vs 5) ∧ v_iv (n_v vs 5) ≤ 3 := tv_rng t5
  obtain ⟨t6, hk⟩ := List.forall_mem_cons.mp hk
  have t6 : tv_ok ta (0, 4, 4, []) (n_v vs 6) := t6
  have k6 : 4 ≤ v_iv (n_v vs 6) ∧ v_iv (n_v vs 6) ≤ 4 := tv_rng t6
  obtain ⟨t7, hk⟩ := List.forall_mem_cons.mp hk
  have t7 : tv_ok ta (0, 3, 3, []) (n_v vs 7) := t7
  have k7 : 3 ≤ v_iv (n_v vs 7) ∧ v_iv (n_v vs 7) ≤ 3 := tv_rng t7
  obtain ⟨t8, hk⟩ := List.forall_mem_cons.mp hk
  have t8 : tv_ok ta (0, 0, 3, []) (n_v vs 8) := t8
  have k8 : 0 ≤ v_iv (n_v vs 8) ∧ v_iv (n_v vs 8) ≤ 3 := tv_rng t8
  obtain ⟨t9, hk⟩ := List.forall_mem_cons.mp hk
  have t9 : tv_ok ta (2, 0, 0, [253]) (n_v vs 9) := t9
  have r9 : ta (v_ad (n_v vs 9)) = some 253 := tv_rg t9
  obtain ⟨t10, hk⟩ := List.forall_mem_cons.mp hk
  have t10 : tv_ok ta (0, 0, 0, []) (n_v vs 10) := t10
  have k10 : 0 ≤ v_iv (n_v vs 10) ∧ v_iv (n_v vs 10) ≤ 0 := tv_rng t10
  obtain ⟨t11, hk⟩ := List.forall_mem_cons.mp hk
  have t11 : tv_ok ta (0, 1, 1, []) (n_v vs 11) := t11
  have k11 : 1 ≤ v_iv (n_v vs 11) ∧ v_iv (n_v vs 11) ≤ 1 := tv_rng t11
  obtain ⟨t12, hk⟩ := List.forall_mem_cons.mp hk
  have t12 : tv_ok ta (0, 1, 4, []) (n_v vs 12) := t12
  have k12 : 1 ≤ v_iv (n_v vs 12) ∧ v_iv (n_v vs 12) ≤ 4 := tv_rng t12
  have hds : ∀ q ∈ ([(12, 5, 1, 1), (12, 4, -4294967296, 1), (1, 3, -4294967296, 0), (3, 1, -4294967296, 0), (5, 4, -4294967296, 0)] : List of_T), n_iv vs q.2.1 + q.2.2.1 ≤ n_iv vs q.1 ∧ n_iv vs q.1 ≤ n_iv vs q.2.1 + q.2.2.2 := hds
  obtain ⟨d0, hds⟩ := List.forall_mem_cons.mp hds
  have d0 : v_iv (n_v vs 5) + 1 ≤ v_iv (n_v vs 12) ∧ v_iv (n_v vs 12) ≤ v_iv (n_v vs 5) + 1 := d0
  obtain ⟨d1, hds⟩ := List.forall_mem_cons.mp hds
  have d1 : v_iv (n_v vs 4) + (-4294967296) ≤ v_iv (n_v vs 12) ∧ v_iv (n_v vs 12) ≤ v_iv (n_v vs 4) + 1 := d1
  obtain ⟨d2, hds⟩ := List.forall_mem_cons.mp hds
  have d2 : v_iv (n_v vs 3) + (-4294967296) ≤ v_iv (n_v vs 1) ∧ v_iv (n_v vs 1) ≤ v_iv (n_v vs 3) + 0 := d2
  obtain ⟨d3, hds⟩ := List.forall_mem_cons.mp hds
  have d3 : v_iv (n_v vs 1) + (-4294967296) ≤ v_iv (n_v vs 3) ∧ v_iv (n_v vs 3) ≤ v_iv (n_v vs 1) + 0 := d3
  obtain ⟨d4, hds⟩ := List.forall_mem_cons.mp hds
  have d4 : v_iv (n_v vs 4) + (-4294967296) ≤ v_iv (n_v vs 5) ∧ v_iv (n_v vs 5) ≤ v_iv (n_v vs 4) + 0 := d4
  have hf : fc_ok PRD [(1, [12, 5, 11], []), (8, [10], [0]), (10, [10, 9, 8], []), (9, [9, 2], [142]), (12, [8, 4], [4]), (16, [8, 4, 7], [0]), (7, [5, 6], [2]), (20, [3, 2], [50, 2, 0, 1146, 1147, 2, 6, 0, 2, 0, 0, 1, 0, 0, 6, 4, 2, 1, 0, 0, 1, 6, 3, 2, 1, 146, 2, 1, 147]), (20, [2, 3, 4], [60, 2, 4, 419, 146, 147, 143, 140, 141, 142]), (20, [5, 4], [50, 0, 0, 2, 6, 0, 2, 0, 0, 1, 0, 0, 6, 5, 2, 1, 1, 1, 0, 0, 1000000]), (24, [0, 2], []), (24, [1, 3], [])] ta ws vs := hf
  obtain ⟨f0, hf⟩ := fc_un (show (1 : Nat) < 100 from by decide) hf
  have f0 : v_iv (n_v vs 12) = v_iv (n_v vs 5) + v_iv (n_v vs 11) := f0
  obtain ⟨f1, hf⟩ := fc_un (show (8 : Nat) < 100 from by decide) hf
  have f1 : v_iv (n_v vs 10) = 0 := f1
  obtain ⟨f2, hf⟩ := fc_un (show (10 : Nat) < 100 from by decide) hf
  have f2 : v_iv (n_v vs 10) = w_el ws (v_ad (n_v vs 9)) (v_iv (n_v vs 8)).toNat := f2
  obtain ⟨f3, hf⟩ := fc_un (show (9 : Nat) < 100 from by decide) hf
  have f3 : n_v vs 9 = w_fd ws (v_ad (n_v vs 2)) 142 := f3
  obtain ⟨f4, hf⟩ := fc_un (show (12 : Nat) < 100 from by decide) hf
  have f4 : v_iv (n_v vs 8) = v_iv (n_v vs 4) % 4 := f4
  obtain ⟨f5, hf⟩ := fc_un (show (16 : Nat) < 100 from by decide) hf
  have f5 : bv (v_iv (n_v vs 8)) = bv (v_iv (n_v vs 4)) &&& bv (v_iv (n_v vs 7)) := f5
  obtain ⟨f6, hf⟩ := fc_un (show (7 : Nat) < 100 from by decide) hf
  have f6 : v_iv (n_v vs 5) < v_iv (n_v vs 6) := f6
  obtain ⟨f7, hf⟩ := fc_un (show (20 : Nat) < 100 from by decide) hf
  have f7 : (0 ≤ v_iv (n_v vs 3)) ∧ ((v_iv (n_v vs 3) + 1) ≤ (w_fi ws (n_v vs 2) 146 * w_fi ws (n_v vs 2) 147)) := f7
  obtain ⟨f8, hf⟩ := fc_un (show (20 : Nat) < 100 from by decide) hf
  have f8 : RTQ (w_fi ws (n_v vs 2) 146) (w_fi ws (n_v vs 2) 147) (w_ei ws (w_ar ws (n_v vs 2) 143)) (w_ei ws (w_ar ws (n_v vs 2) 140)) (w_ei ws (w_ar ws (n_v vs 2) 141)) (w_ei ws (w_ar ws (n_v vs 2) 142)) (v_iv (n_v vs 3)) (v_iv (n_v vs 4)) := f8
  obtain ⟨f9, hf⟩ := fc_un (show (20 : Nat) < 100 from by decide) hf
  have f9 : (0 ≤ v_iv (n_v vs 5)) ∧ ((v_iv (n_v vs 4) - v_iv (n_v vs 5)) ≤ 1000000) := f9
  obtain ⟨f10, hf⟩ := fc_un (show (24 : Nat) < 100 from by decide) hf
  have f10 : n_v vs 0 = n_v vs 2 := f10
  obtain ⟨f11, hf⟩ := fc_un (show (24 : Nat) < 100 from by decide) hf
  have f11 : n_v vs 1 = n_v vs 3 := f11
  have q2 : n_v vs 2 = n_v vs 0 := f10.symm
  have q3 : n_v vs 3 = n_v vs 1 := f11.symm
  rw [q2] at f3
  rw [q2] at f7
  rw [q3] at f7
  rw [q2] at f8
  rw [q3] at f8
  have cr_0_140 : ta (w_ar ws (n_v vs 0) 140) = some 251 := tv_rg (th_fd hD hth r0 (g := GG_150) rfl (k := 140) (t := (2, 0, 0, [251])) rfl rfl)
  have cr_0_141 : ta (w_ar ws (n_v vs 0) 141) = some 252 := tv_rg (th_fd hD hth r0 (g := GG_150) rfl (k := 141) (t := (2, 0, 0, [252])) rfl rfl)
  have cr_0_142 : ta (w_ar ws (n_v vs 0) 142) = some 253 := tv_rg (th_fd hD hth r0 (g := GG_150) rfl (k := 142) (t := (2, 0, 0, [253])) rfl rfl)
  have cr_0_143 : ta (w_ar ws (n_v vs 0) 143) = some 254 := tv_rg (th_fd hD hth r0 (g := GG_150) rfl (k := 143) (t := (2, 0, 0, [254])) rfl rfl)
  have ad_9 : v_ad (n_v vs 9) = w_ar ws (n_v vs 0) 142 := congrArg v_ad f3
  rw [ad_9] at f2
  have h2 : v_iv (n_v vs 10) = w_ei ws (w_ar ws (n_v vs 0) 142) (v_iv (n_v vs 8)) := f2
  have hK_0_140 : ∀ j : Int, 0 ≤ j → j < 24000 → 0 ≤ w_ei ws (w_ar ws (n_v vs 0) 140) j ∧ w_ei ws (w_ar ws (n_v vs 0) 140) j ≤ 1000000 := fun j h0 h1 => th_el hD hth cr_0_140 (kd := 0) (n := 24000) (m := 24000) (lo := 0) (hi := 1000000) (rs := []) (L := []) rfl (by decide) (j := j.toNat) (by omega)
  have hK_0_141 : ∀ j : Int, 0 ≤ j → j < 96040 → 0 ≤ w_ei ws (w_ar ws (n_v vs 0) 141) j ∧ w_ei ws (w_ar ws (n_v vs 0) 141) j ≤ 23999 := fun j h0 h1 => th_el hD hth cr_0_141 (kd := 0) (n := 96040) (m := 96040) (lo := 0) (hi := 23999) (rs := []) (L := []) rfl (by decide) (j := j.toNat) (by omega)
  have hK_0_142 : ∀ j : Int, 0 ≤ j → j < 4 → 0 ≤ w_ei ws (w_ar ws (n_v vs 0) 142) j ∧ w_ei ws (w_ar ws (n_v vs 0) 142) j ≤ 24009 := fun j h0 h1 => th_el hD hth cr_0_142 (kd := 0) (n := 4) (m := 4) (lo := 0) (hi := 24009) (rs := []) (L := []) rfl (by decide) (j := j.toNat) (by omega)
  have hK_0_143 : ∀ j : Int, 0 ≤ j → j < 6000 → 0 ≤ w_ei ws (w_ar ws (n_v vs 0) 143) j ∧ w_ei ws (w_ar ws (n_v vs 0) 143) j ≤ 1 := fun j h0 h1 => th_el hD hth cr_0_143 (kd := 2) (n := 6000) (m := 6000) (lo := 0) (hi := 1) (rs := []) (L := []) rfl (by decide) (j := j.toNat) (by omega)
  have kz_0_146 : (-2147483648) ≤ w_fi ws (n_v vs 0) 146 ∧ w_fi ws (n_v vs 0) 146 ≤ 2147483647 := tv_rng (th_fd hD hth r0 (g := GG_150) rfl (k := 146) (t := (0, -2147483648, 2147483647, [])) rfl rfl)
  have kz_0_147 : (-2147483648) ≤ w_fi ws (n_v vs 0) 147 ∧ w_fi ws (n_v vs 0) 147 ≤ 2147483647 := tv_rng (th_fd hD hth r0 (g := GG_150) rfl (k := 147) (t := (0, -2147483648, 2147483647, [])) rfl rfl)
  have nf0 : fc_1 PRD (20, [12, 4], [50, 0, 0, 2, 6, 0, 2, 0, 0, 1, 0, 0, 10, 5, 6, 4, 2, 1, 1, 0, 1, 1, 0, 0, 1000000]) ws (vs) := by
    refine ⟨fun n hn => ?_, ?_⟩
    · have hn : n ∈ [12, 4] := hn
      rw [hl]
      simp only [List.mem_cons, List.not_mem_nil, or_false] at hn
      show n < 14; omega
    · show (0 ≤ v_iv (n_v vs 12)) ∧ (((v_iv (n_v vs 4) + 1) - v_iv (n_v vs 12)) ≤ 1000000)
      exact vc_Mo_spread_14_0 (v_iv (n_v vs 1)) (v_iv (n_v vs 3)) (v_iv (n_v vs 4)) (v_iv (n_v vs 5)) (v_iv (n_v vs 6)) (v_iv (n_v vs 7)) (v_iv (n_v vs 8)) (v_iv (n_v vs 10)) (v_iv (n_v vs 11)) (v_iv (n_v vs 12)) (w_ei ws (w_ar ws (n_v vs 0) 142)) (w_fi ws (n_v vs 0) 146) (w_fi ws (n_v vs 0) 147) (w_ei ws (w_ar ws (n_v vs 0) 143)) (w_ei ws (w_ar ws (n_v vs 0) 140)) (w_ei ws (w_ar ws (n_v vs 0) 141)) k1 k3 k4 k5 k6 k7 k8 k10 k11 k12 d0 d1 d2 d3 d4 f0 f1 h2 f4 f5 f6 f7 f8 f9 hK_0_140 hK_0_141 hK_0_142 hK_0_143 kz_0_146 kz_0_147
  have nf1 : fc_1 PRD (20, [8, 4], [50, 0, 0, 1, 2, 1, 0, 9, 2, 1, 1, 0, 4]) ws (vs) := by
    refine ⟨fun n hn => ?_, ?_⟩
    · have hn : n ∈ [8, 4] := hn
      rw [hl]
      simp only [List.mem_cons, List.not_mem_nil, or_false] at hn
      show n < 14; omega
    · show v_iv (n_v vs 8) = (v_iv (n_v vs 4) % 4)
      exact vc_Mo_spread_14_1 (v_iv (n_v vs 1)) (v_iv (n_v vs 3)) (v_iv (n_v vs 4)) (v_iv (n_v vs 5)) (v_iv (n_v vs 6)) (v_iv (n_v vs 7)) (v_iv (n_v vs 8)) (v_iv (n_v vs 10)) (v_iv (n_v vs 11)) (v_iv (n_v vs 12)) (w_ei ws (w_ar ws (n_v vs 0) 142)) (w_fi ws (n_v vs 0) 146) (w_fi ws (n_v vs 0) 147) (w_ei ws (w_ar ws (n_v vs 0) 143)) (w_ei ws (w_ar ws (n_v vs 0) 140)) (w_ei ws (w_ar ws (n_v vs 0) 141)) k1 k3 k4 k5 k6 k7 k8 k10 k11 k12 d0 d1 d2 d3 d4 f0 f1 h2 f4 f5 f6 f7 f8 f9 hK_0_140 hK_0_141 hK_0_142 hK_0_143 kz_0_146 kz_0_147
  have nf2 : fc_1 PRD (20, [4], [50, 0, 0, 0, 2, 1, 0, 0, 1000003]) ws (vs) := by
    refine ⟨fun n hn => ?_, ?_⟩
    · have hn : n ∈ [4] := hn
      rw [hl]
      simp only [List.mem_cons, List.not_mem_nil, or_false] at hn
      show n < 14; omega
    · show v_iv (n_v vs 4) ≤ 1000003
      exact vc_Mo_spread_14_2 (v_iv (n_v vs 1)) (v_iv (n_v vs 3)) (v_iv (n_v vs 4)) (v_iv (n_v vs 5)) (v_iv (n_v vs 6)) (v_iv (n_v vs 7)) (v_iv (n_v vs 8)) (v_iv (n_v vs 10)) (v_iv (n_v vs 11)) (v_iv (n_v vs 12)) (w_ei ws (w_ar ws (n_v vs 0) 142)) (w_fi ws (n_v vs 0) 146) (w_fi ws (n_v vs 0) 147) (w_ei ws (w_ar ws (n_v vs 0) 143)) (w_ei ws (w_ar ws (n_v vs 0) 140)) (w_ei ws (w_ar ws (n_v vs 0) 141)) k1 k3 k4 k5 k6 k7 k8 k10 k11 k12 d0 d1 d2 d3 d4 f0 f1 h2 f4 f5 f6 f7 f8 f9 hK_0_140 hK_0_141 hK_0_142 hK_0_143 kz_0_146 kz_0_147
  refine ⟨(fun _ h => (by cases h)), [], trivial, ?_, (fun _ h => (by cases h))⟩
  rw [List.append_nil]
  exact List.forall_mem_cons.mpr ⟨⟨show (20 : Nat) < 100 from by decide, nf0⟩, List.forall_mem_cons.mpr ⟨⟨show (20 : Nat) < 100 from by decide, nf1⟩, List.forall_mem_cons.mpr ⟨⟨show (20 : Nat) < 100 from by decide, nf2⟩, (fun _ h => (by cases h))⟩⟩⟩
set_option maxHeartbeats 4000000 in
theorem vc_Mo_spread_15_r0 (x1 : Int) (x3 : Int) (x4 : Int) (x5 : Int) (x6 : Int) (x7 : Int) (x9 : Int) (x10 : Int) (wide_0 : Int) (tall_0 : Int) (bucketMany_1 : Int → Int) (wide_1 : Int) (tall_1 : Int) (barredPoint_1 : Int → Int) (costOf_1 : Int → Int) (bucket_1 : Int → Int) (costOf_0 : Int → Int) (bucket_0 : Int → Int) (bucketMany_0 : Int → Int) (barredPoint_0 : Int → Int) (k1 : 0 ≤ x1 ∧ x1 ≤ 5999) (k3 : 0 ≤ x3 ∧ x3 ≤ 5999) (k4 : 0 ≤ x4 ∧ x4 ≤ 1000004) (k5 : 0 ≤ x5 ∧ x5 ≤ 4) (k6 : 0 ≤ x6 ∧ x6 ≤ 3) (k7 : 0 ≤ x7 ∧ x7 ≤ 24000) (k9 : 0 ≤ x9 ∧ x9 ≤ 24000) (k10 : 0 ≤ x10 ∧ x10 ≤ 0) (d0 : x9 + 0 ≤ x7 ∧ x7 ≤ x9 + 4294967296) (d1 : x3 + (-4294967296) ≤ x1 ∧ x1 ≤ x3 + 0) (d2 : x1 + (-4294967296) ≤ x3 ∧ x3 ≤ x1 + 0) (d3 : x4 + (-4294967296) ≤ x5 ∧ x5 ≤ x4 + 1) (f0 : (0 ≤ x1) ∧ ((x1 + 1) ≤ (wide_0 * tall_0))) (f1 : (0 ≤ x5) ∧ (((x4 + 1) - x5) ≤ 1000000)) (f2 : x6 = (x4 % 4)) (f3 : x4 ≤ 1000003) (f8 : x9 ≤ x7) (h9 : x9 = bucketMany_1 (x6)) (f10 : (0 ≤ x1) ∧ ((x1 + 1) ≤ (wide_1 * tall_1))) (f11 : RTQ (wide_1) (tall_1) (barredPoint_1) (costOf_1) (bucket_1) (bucketMany_1) (x1) (x4)) (f12 : (0 ≤ x5) ∧ (((x4 + 1) - x5) ≤ 1000000)) (f13 : x6 = (x4 % 4)) (f14 : x4 ≤ 1000003) (fe_0_146_1 : wide_0 = wide_1) (fe_0_147_1 : tall_0 = tall_1) (hE_0_140_1 : ∀ j : Int, costOf_0 j = costOf_1 j) (hK_0_140 : ∀ j : Int, 0 ≤ j → j < 24000 → 0 ≤ costOf_0 j ∧ costOf_0 j ≤ 1000000) (hE_0_141_1 : ∀ j : Int, bucket_0 j = bucket_1 j) (hK_0_141 : ∀ j : Int, 0 ≤ j → j < 96040 → 0 ≤ bucket_0 j ∧ bucket_0 j ≤ 23999) (hE_0_142_1 : ∀ j : Int, 0 ≤ j → (j = x6 → bucketMany_0 j = x10) ∧ (j ≠ x6 → bucketMany_0 j = bucketMany_1 j)) (hK_0_142 : ∀ j : Int, 0 ≤ j → j < 4 → 0 ≤ bucketMany_0 j ∧ bucketMany_0 j ≤ 24009) (hE_0_143_1 : ∀ j : Int, barredPoint_0 j = barredPoint_1 j) (hK_0_143 : ∀ j : Int, 0 ≤ j → j < 6000 → 0 ≤ barredPoint_0 j ∧ barredPoint_0 j ≤ 1) (kz_0_146 : (-2147483648) ≤ wide_0 ∧ wide_0 ≤ 2147483647) (kz_0_147 : (-2147483648) ≤ tall_0 ∧ tall_0 ≤ 2147483647) : 0 ≤ x4 ∧ x4 ≤ 1000003 := by
  subst fe_0_146_1
  subst fe_0_147_1
  have e_hE_0_140_1 := funext hE_0_140_1; subst e_hE_0_140_1
  have e_hE_0_141_1 := funext hE_0_141_1; subst e_hE_0_141_1
  have e_hE_0_143_1 := funext hE_0_143_1; subst e_hE_0_143_1
  first
    | omega
    | (have g := gok_bd ‹GRX _ _›; omega)
    | (have h := bm_pos (b := x8) (m := x10) ‹RTQ _ _ _ _ _ _ _ _› (by omega) (by assumption); omega)
    | (have h := bk_at (b := x6) (k := x7) (s := x14) (q := x13) ‹RTQ _ _ _ _ _ _ _ _› (by omega) (by omega) (by omega) (by omega) (by assumption); omega)
    | (have h := bm_pos (b := x6) (m := x9) ‹RTQ _ _ _ _ _ _ _ _› (by omega) (by assumption); omega)
    | (have g := gok_bd (show GRX wide_0 tall_0 from ‹RTQ _ _ _ _ _ _ _ _›.1); omega)
def o_Mo_spread_15 : or_T := (180, 11, [(0, (2, 0, 0, [150])), (1, (0, 0, 5999, [])), (2, (2, 0, 0, [150])), (3, (0, 0, 5999, [])), (4, (0, 0, 1000004, [])), (5, (0, 0, 4, [])), (6, (0, 0, 3, [])), (7, (0, 0, 24000, [])), (8, (2, 0, 0, [253])), (9, (0, 0, 24000, [])), (10, (0, 0, 0, []))], [(20, [3, 2], [50, 2, 0, 1146, 1147, 2, 6, 0, 2, 0, 0, 1, 0, 0, 6, 4, 2, 1, 0, 0, 1, 6, 3, 2, 1, 146, 2, 1, 147]), (20, [5, 4], [50, 0, 0, 2, 6, 0, 2, 0, 0, 1, 0, 0, 10, 5, 6, 4, 2, 1, 1, 0, 1, 1, 0, 0, 1000000]), (20, [6, 4], [50, 0, 0, 1, 2, 1, 0, 9, 2, 1, 1, 0, 4]), (20, [4], [50, 0, 0, 0, 2, 1, 0, 0, 1000003]), (24, [0, 2], []), (24, [1, 3], []), (100, [8, 6, 10], []), (9, [8, 2], [142]), (7, [7, 9], [3]), (10, [9, 8, 6], []), (20, [3, 2], [50, 2, 0, 1146, 1147, 2, 6, 0, 2, 0, 0, 1, 0, 0, 6, 4, 2, 1, 0, 0, 1, 6, 3, 2, 1, 146, 2, 1, 147]), (20, [2, 3, 4], [60, 2, 4, 419, 146, 147, 143, 140, 141, 142]), (20, [5, 4], [50, 0, 0, 2, 6, 0, 2, 0, 0, 1, 0, 0, 10, 5, 6, 4, 2, 1, 1, 0, 1, 1, 0, 0, 1000000]), (20, [6, 4], [50, 0, 0, 1, 2, 1, 0, 9, 2, 1, 1, 0, 4]), (20, [4], [50, 0, 0, 0, 2, 1, 0, 0, 1000003])], [(4, (0, 0, 1000003, []))], [], [], [], [(7, 9, 0, 4294967296), (1, 3, -4294967296, 0), (3, 1, -4294967296, 0), (5, 4, -4294967296, 1)])
theorem oo_Mo_spread_15 {kA : Nat → ClassId} : or_ok PRD kA GG o_Mo_spread_15 := by
  intro A ta ws vs hD hth hl hk hds hf
  have hl : vs.length = 11 := hl
  have hk : ∀ q ∈ ([(0, (2, 0, 0, [150])), (1, (0, 0, 5999, [])), (2, (2, 0, 0, [150])), (3, (0, 0, 5999, [])), (4, (0, 0, 1000004, [])), (5, (0, 0, 4, [])), (6, (0, 0, 3, [])), (7, (0, 0, 24000, [])), (8, (2, 0, 0, [253])), (9, (0, 0, 24000, [])), (10, (0, 0, 0, []))] : List (Nat × tv_T)), tv_ok ta q.2 (n_v vs q.1) := hk
  obtain ⟨t0, hk⟩ := List.forall_mem_cons.mp hk
  have t0 : tv_ok ta (2, 0, 0, [150]) (n_v vs 0) := t0
  have r0 : ta (v_ad (n_v vs 0)) = some 150 := tv_rg t0
  obtain ⟨t1, hk⟩ := List.forall_mem_cons.mp hk
  have t1 : tv_ok ta (0, 0, 5999, []) (n_v vs 1) := t1
  have k1 : 0 ≤ v_iv (n_v vs 1) ∧ v_iv (n_v vs 1) ≤ 5999 := tv_rng t1
  obtain ⟨t2, hk⟩ := List.forall_mem_cons.mp hk
  have t2 : tv_ok ta (2, 0, 0, [150]) (n_v vs 2) := t2
  have r2 : ta (v_ad (n_v vs 2)) = some 150 := tv_rg t2
  obtain ⟨t3, hk⟩ := List.forall_mem_cons.mp hk
  have t3 : tv_ok ta (0, 0, 5999, []) (n_v vs 3) := t3
  have k3 : 0 ≤ v_iv (n_v vs 3) ∧ v_iv (n_v vs 3) ≤ 5999 := tv_rng t3
  obtain ⟨t4, hk⟩ := List.forall_mem_cons.mp hk
  have t4 : tv_ok ta (0, 0, 1000004, []) (n_v vs 4) := t4
  have k4 : 0 ≤ v_iv (n_v vs 4) ∧ v_iv (n_v vs 4) ≤ 1000004 := tv_rng t4
  obtain ⟨t5, hk⟩ := List.forall_mem_cons.mp hk
  have t5 : tv_ok ta (0, 0, 4, []) (n_v vs 5) := t5
  have k5 : 0 ≤ v_iv (n_v vs 5) ∧ v_iv (n_v vs 5) ≤ 4 := tv_rng t5
  obtain ⟨t6, hk⟩ := List.forall_mem_cons.mp hk
  have t6 : tv_ok ta (0, 0, 3, []) (n_v vs 6) := t6
  have k6 : 0 ≤ v_iv (n_v vs 6) ∧ v_iv (n_v vs 6) ≤ 3 := tv_rng t6
  obtain ⟨t7, hk⟩ := List.forall_mem_cons.mp hk
  have t7 : tv_ok ta (0, 0, 24000, []) (n_v vs 7) := t7
  have k7 : 0 ≤ v_iv (n_v vs 7) ∧ v_iv (n_v vs 7) ≤ 24000 := tv_rng t7
  obtain ⟨t8, hk⟩ := List.forall_mem_cons.mp hk
  have t8 : tv_ok ta (2, 0, 0, [253]) (n_v vs 8) := t8
  have r8 : ta (v_ad (n_v vs 8)) = some 253 := tv_rg t8
  obtain ⟨t9, hk⟩ := List.forall_mem_cons.mp hk
  have t9 : tv_ok ta (0, 0, 24000, []) (n_v vs 9) := t9
  have k9 : 0 ≤ v_iv (n_v vs 9) ∧ v_iv (n_v vs 9) ≤ 24000 := tv_rng t9
  obtain ⟨t10, hk⟩ := List.forall_mem_cons.mp hk
  have t10 : tv_ok ta (0, 0, 0, []) (n_v vs 10) := t10
  have k10 : 0 ≤ v_iv (n_v vs 10) ∧ v_iv (n_v vs 10) ≤ 0 := tv_rng t10
  have hds : ∀ q ∈ ([(7, 9, 0, 4294967296), (1, 3, -4294967296, 0), (3, 1, -4294967296, 0), (5, 4, -4294967296, 1)] : List of_T), n_iv vs q.2.1 + q.2.2.1 ≤ n_iv vs q.1 ∧ n_iv vs q.1 ≤ n_iv vs q.2.1 + q.2.2.2 := hds
  obtain ⟨d0, hds⟩ := List.forall_mem_cons.mp hds
  have d0 : v_iv (n_v vs 9) + 0 ≤ v_iv (n_v vs 7) ∧ v_iv (n_v vs 7) ≤ v_iv (n_v vs 9) + 4294967296 := d0
  obtain ⟨d1, hds⟩ := List.forall_mem_cons.mp hds
  have d1 : v_iv (n_v vs 3) + (-4294967296) ≤ v_iv (n_v vs 1) ∧ v_iv (n_v vs 1) ≤ v_iv (n_v vs 3) + 0 := d1
  obtain ⟨d2, hds⟩ := List.forall_mem_cons.mp hds
  have d2 : v_iv (n_v vs 1) + (-4294967296) ≤ v_iv (n_v vs 3) ∧ v_iv (n_v vs 3) ≤ v_iv (n_v vs 1) + 0 := d2
  obtain ⟨d3, hds⟩ := List.forall_mem_cons.mp hds
  have d3 : v_iv (n_v vs 4) + (-4294967296) ≤ v_iv (n_v vs 5) ∧ v_iv (n_v vs 5) ≤ v_iv (n_v vs 4) + 1 := d3
  have hf : fc_ok PRD [(20, [3, 2], [50, 2, 0, 1146, 1147, 2, 6, 0, 2, 0, 0, 1, 0, 0, 6, 4, 2, 1, 0, 0, 1, 6, 3, 2, 1, 146, 2, 1, 147]), (20, [5, 4], [50, 0, 0, 2, 6, 0, 2, 0, 0, 1, 0, 0, 10, 5, 6, 4, 2, 1, 1, 0, 1, 1, 0, 0, 1000000]), (20, [6, 4], [50, 0, 0, 1, 2, 1, 0, 9, 2, 1, 1, 0, 4]), (20, [4], [50, 0, 0, 0, 2, 1, 0, 0, 1000003]), (24, [0, 2], []), (24, [1, 3], []), (100, [8, 6, 10], []), (9, [8, 2], [142]), (7, [7, 9], [3]), (10, [9, 8, 6], []), (20, [3, 2], [50, 2, 0, 1146, 1147, 2, 6, 0, 2, 0, 0, 1, 0, 0, 6, 4, 2, 1, 0, 0, 1, 6, 3, 2, 1, 146, 2, 1, 147]), (20, [2, 3, 4], [60, 2, 4, 419, 146, 147, 143, 140, 141, 142]), (20, [5, 4], [50, 0, 0, 2, 6, 0, 2, 0, 0, 1, 0, 0, 10, 5, 6, 4, 2, 1, 1, 0, 1, 1, 0, 0, 1000000]), (20, [6, 4], [50, 0, 0, 1, 2, 1, 0, 9, 2, 1, 1, 0, 4]), (20, [4], [50, 0, 0, 0, 2, 1, 0, 0, 1000003])] ta ws vs := hf
  obtain ⟨f0, hf⟩ := fc_un (show (20 : Nat) < 100 from by decide) hf
  have f0 : (0 ≤ v_iv (n_v vs 3)) ∧ ((v_iv (n_v vs 3) + 1) ≤ (w_fi ws (n_v vs 2) 146 * w_fi ws (n_v vs 2) 147)) := f0
  obtain ⟨f1, hf⟩ := fc_un (show (20 : Nat) < 100 from by decide) hf
  have f1 : (0 ≤ v_iv (n_v vs 5)) ∧ (((v_iv (n_v vs 4) + 1) - v_iv (n_v vs 5)) ≤ 1000000) := f1
  obtain ⟨f2, hf⟩ := fc_un (show (20 : Nat) < 100 from by decide) hf
  have f2 : v_iv (n_v vs 6) = (v_iv (n_v vs 4) % 4) := f2
  obtain ⟨f3, hf⟩ := fc_un (show (20 : Nat) < 100 from by decide) hf
  have f3 : v_iv (n_v vs 4) ≤ 1000003 := f3
  obtain ⟨f4, hf⟩ := fc_un (show (24 : Nat) < 100 from by decide) hf
  have f4 : n_v vs 0 = n_v vs 2 := f4
  obtain ⟨f5, hf⟩ := fc_un (show (24 : Nat) < 100 from by decide) hf
  have f5 : n_v vs 1 = n_v vs 3 := f5
  obtain ⟨ta1, w1, le1, ⟨_, s1⟩, hf⟩ := fc_us (show ¬ (100 : Nat) < 100 from by decide) hf
  have s1 : (∀ b j, w_el ws b j = if b = v_ad (n_v vs 8) ∧ j = (v_iv (n_v vs 6)).toNat then v_iv (n_v vs 10) else w_el w1 b j) ∧ ∀ b k, w_fd ws b k = w_fd w1 b k := s1
  obtain ⟨f7, hf⟩ := fc_un (show (9 : Nat) < 100 from by decide) hf
  have f7 : n_v vs 8 = w_fd w1 (v_ad (n_v vs 2)) 142 := f7
  obtain ⟨f8, hf⟩ := fc_un (show (7 : Nat) < 100 from by decide) hf
  have f8 : v_iv (n_v vs 9) ≤ v_iv (n_v vs 7) := f8
  obtain ⟨f9, hf⟩ := fc_un (show (10 : Nat) < 100 from by decide) hf
  have f9 : v_iv (n_v vs 9) = w_el w1 (v_ad (n_v vs 8)) (v_iv (n_v vs 6)).toNat := f9
  obtain ⟨f10, hf⟩ := fc_un (show (20 : Nat) < 100 from by decide) hf
  have f10 : (0 ≤ v_iv (n_v vs 3)) ∧ ((v_iv (n_v vs 3) + 1) ≤ (w_fi w1 (n_v vs 2) 146 * w_fi w1 (n_v vs 2) 147)) := f10
  obtain ⟨f11, hf⟩ := fc_un (show (20 : Nat) < 100 from by decide) hf
  have f11 : RTQ (w_fi w1 (n_v vs 2) 146) (w_fi w1 (n_v vs 2) 147) (w_ei w1 (w_ar w1 (n_v vs 2) 143)) (w_ei w1 (w_ar w1 (n_v vs 2) 140)) (w_ei w1 (w_ar w1 (n_v vs 2) 141)) (w_ei w1 (w_ar w1 (n_v vs 2) 142)) (v_iv (n_v vs 3)) (v_iv (n_v vs 4)) := f11
  obtain ⟨f12, hf⟩ := fc_un (show (20 : Nat) < 100 from by decide) hf
  have f12 : (0 ≤ v_iv (n_v vs 5)) ∧ (((v_iv (n_v vs 4) + 1) - v_iv (n_v vs 5)) ≤ 1000000) := f12
  obtain ⟨f13, hf⟩ := fc_un (show (20 : Nat) < 100 from by decide) hf
  have f13 : v_iv (n_v vs 6) = (v_iv (n_v vs 4) % 4) := f13
  obtain ⟨f14, hf⟩ := fc_un (show (20 : Nat) < 100 from by decide) hf
  have f14 : v_iv (n_v vs 4) ≤ 1000003 := f14
  have q2 : n_v vs 2 = n_v vs 0 := f4.symm
  have q3 : n_v vs 3 = n_v vs 1 := f5.symm
  rw [q2] at f0
  rw [q3] at f0
  rw [q2] at f7
  rw [q2] at f10
  rw [q3] at f10
  rw [q2] at f11
  rw [q3] at f11
  have ar_0_140_1 : w_ar w1 (n_v vs 0) 140 = w_ar ws (n_v vs 0) 140 := by show v_ad (w_fd w1 _ _) = v_ad (w_fd ws _ _); rw [s1.2]
  have cr_0_140 : ta (w_ar ws (n_v vs 0) 140) = some 251 := tv_rg (th_fd hD hth r0 (g := GG_150) rfl (k := 140) (t := (2, 0, 0, [251])) rfl rfl)
  have ar_0_141_1 : w_ar w1 (n_v vs 0) 141 = w_ar ws (n_v vs 0) 141 := by show v_ad (w_fd w1 _ _) = v_ad (w_fd ws _ _); rw [s1.2]
  have cr_0_141 : ta (w_ar ws (n_v vs 0) 141) = some 252 := tv_rg (th_fd hD hth r0 (g := GG_150) rfl (k := 141) (t := (2, 0, 0, [252])) rfl rfl)
  have ar_0_142_1 : w_ar w1 (n_v vs 0) 142 = w_ar ws (n_v vs 0) 142 := by show v_ad (w_fd w1 _ _) = v_ad (w_fd ws _ _); rw [s1.2]
  have cr_0_142 : ta (w_ar ws (n_v vs 0) 142) = some 253 := tv_rg (th_fd hD hth r0 (g := GG_150) rfl (k := 142) (t := (2, 0, 0, [253])) rfl rfl)
  have ar_0_143_1 : w_ar w1 (n_v vs 0) 143 = w_ar ws (n_v vs 0) 143 := by show v_ad (w_fd w1 _ _) = v_ad (w_fd ws _ _); rw [s1.2]
  have cr_0_143 : ta (w_ar ws (n_v vs 0) 143) = some 254 := tv_rg (th_fd hD hth r0 (g := GG_150) rfl (k := 143) (t := (2, 0, 0, [254])) rfl rfl)
  have ad_8 : v_ad (n_v vs 8) = w_ar ws (n_v vs 0) 142 := (congrArg v_ad f7).trans ar_0_142_1
  rw [ad_8] at f9
  have h9 : v_iv (n_v vs 9) = w_ei w1 (w_ar ws (n_v vs 0) 142) (v_iv (n_v vs 6)) := f9
  rw [ar_0_140_1] at f11
  rw [ar_0_141_1] at f11
  rw [ar_0_142_1] at f11
  rw [ar_0_143_1] at f11
  have fe_0_146_1 : w_fi ws (n_v vs 0) 146 = w_fi w1 (n_v vs 0) 146 := congrArg v_iv (s1.2 _ _)
  have fe_0_147_1 : w_fi ws (n_v vs 0) 147 = w_fi w1 (n_v vs 0) 147 := congrArg v_iv (s1.2 _ _)
  have hE_0_140_1 : ∀ j : Int, w_ei ws (w_ar ws (n_v vs 0) 140) j = w_ei w1 (w_ar ws (n_v vs 0) 140) j := fun j => by unfold w_ei; rw [s1.1, if_neg (fun e => by have e1 := e.1; rw [← e1] at r8; rw [cr_0_140] at r8; exact absurd (Option.some.inj r8) (by decide))]
  have hK_0_140 : ∀ j : Int, 0 ≤ j → j < 24000 → 0 ≤ w_ei ws (w_ar ws (n_v vs 0) 140) j ∧ w_ei ws (w_ar ws (n_v vs 0) 140) j ≤ 1000000 := fun j h0 h1 => th_el hD hth cr_0_140 (kd := 0) (n := 24000) (m := 24000) (lo := 0) (hi := 1000000) (rs := []) (L := []) rfl (by decide) (j := j.toNat) (by omega)
  have hE_0_141_1 : ∀ j : Int, w_ei ws (w_ar ws (n_v vs 0) 141) j = w_ei w1 (w_ar ws (n_v vs 0) 141) j := fun j => by unfold w_ei; rw [s1.1, if_neg (fun e => by have e1 := e.1; rw [← e1] at r8; rw [cr_0_141] at r8; exact absurd (Option.some.inj r8) (by decide))]
  have hK_0_141 : ∀ j : Int, 0 ≤ j → j < 96040 → 0 ≤ w_ei ws (w_ar ws (n_v vs 0) 141) j ∧ w_ei ws (w_ar ws (n_v vs 0) 141) j ≤ 23999 := fun j h0 h1 => th_el hD hth cr_0_141 (kd := 0) (n := 96040) (m := 96040) (lo := 0) (hi := 23999) (rs := []) (L := []) rfl (by decide) (j := j.toNat) (by omega)
  have hE_0_142_1 : ∀ j : Int, 0 ≤ j → (j = v_iv (n_v vs 6) → w_ei ws (w_ar ws (n_v vs 0) 142) j = v_iv (n_v vs 10)) ∧ (j ≠ v_iv (n_v vs 6) → w_ei ws (w_ar ws (n_v vs 0) 142) j = w_ei w1 (w_ar ws (n_v vs 0) 142) j) := fun j hj => ⟨fun h => by unfold w_ei; rw [s1.1, if_pos ⟨ad_8.symm, by rw [h]⟩], fun h => by unfold w_ei; rw [s1.1, if_neg (fun e => h (by have := e.2; omega))]⟩
  have hK_0_142 : ∀ j : Int, 0 ≤ j → j < 4 → 0 ≤ w_ei ws (w_ar ws (n_v vs 0) 142) j ∧ w_ei ws (w_ar ws (n_v vs 0) 142) j ≤ 24009 := fun j h0 h1 => th_el hD hth cr_0_142 (kd := 0) (n := 4) (m := 4) (lo := 0) (hi := 24009) (rs := []) (L := []) rfl (by decide) (j := j.toNat) (by omega)
  have hE_0_143_1 : ∀ j : Int, w_ei ws (w_ar ws (n_v vs 0) 143) j = w_ei w1 (w_ar ws (n_v vs 0) 143) j := fun j => by unfold w_ei; rw [s1.1, if_neg (fun e => by have e1 := e.1; rw [← e1] at r8; rw [cr_0_143] at r8; exact absurd (Option.some.inj r8) (by decide))]
  have hK_0_143 : ∀ j : Int, 0 ≤ j → j < 6000 → 0 ≤ w_ei ws (w_ar ws (n_v vs 0) 143) j ∧ w_ei ws (w_ar ws (n_v vs 0) 143) j ≤ 1 := fun j h0 h1 => th_el hD hth cr_0_143 (kd := 2) (n := 6000) (m := 6000) (lo := 0) (hi := 1) (rs := []) (L := []) rfl (by decide) (j := j.toNat) (by omega)
  have pe_0_146_147_1 : w_fi ws (n_v vs 0) 146 * w_fi ws (n_v vs 0) 147 = w_fi w1 (n_v vs 0) 146 * w_fi w1 (n_v vs 0) 147 := by rw [fe_0_146_1, fe_0_147_1]
  have kz_0_146 : (-2147483648) ≤ w_fi ws (n_v vs 0) 146 ∧ w_fi ws (n_v vs 0) 146 ≤ 2147483647 := tv_rng (th_fd hD hth r0 (g := GG_150) rfl (k := 146) (t := (0, -2147483648, 2147483647, [])) rfl rfl)
  have kz_0_147 : (-2147483648) ≤ w_fi ws (n_v vs 0) 147 ∧ w_fi ws (n_v vs 0) 147 ≤ 2147483647 := tv_rng (th_fd hD hth r0 (g := GG_150) rfl (k := 147) (t := (0, -2147483648, 2147483647, [])) rfl rfl)
  have hrf0 : 0 ≤ v_iv (n_v vs 4) ∧ v_iv (n_v vs 4) ≤ 1000003 := vc_Mo_spread_15_r0 (v_iv (n_v vs 1)) (v_iv (n_v vs 3)) (v_iv (n_v vs 4)) (v_iv (n_v vs 5)) (v_iv (n_v vs 6)) (v_iv (n_v vs 7)) (v_iv (n_v vs 9)) (v_iv (n_v vs 10)) (w_fi ws (n_v vs 0) 146) (w_fi ws (n_v vs 0) 147) (w_ei w1 (w_ar ws (n_v vs 0) 142)) (w_fi w1 (n_v vs 0) 146) (w_fi w1 (n_v vs 0) 147) (w_ei w1 (w_ar ws (n_v vs 0) 143)) (w_ei w1 (w_ar ws (n_v vs 0) 140)) (w_ei w1 (w_ar ws (n_v vs 0) 141)) (w_ei ws (w_ar ws (n_v vs 0) 140)) (w_ei ws (w_ar ws (n_v vs 0) 141)) (w_ei ws (w_ar ws (n_v vs 0) 142)) (w_ei ws (w_ar ws (n_v vs 0) 143)) k1 k3 k4 k5 k6 k7 k9 k10 d0 d1 d2 d3 f0 f1 f2 f3 f8 h9 f10 f11 f12 f13 f14 fe_0_146_1 fe_0_147_1 hE_0_140_1 hK_0_140 hE_0_141_1 hK_0_141 hE_0_142_1 hK_0_142 hE_0_143_1 hK_0_143 kz_0_146 kz_0_147
  have rf4 : tv_ok ta (0, 0, 1000003, []) (n_v vs 4) := tv_in t4 (by first | omega | grind) (by first | omega | grind)
  refine ⟨List.forall_mem_cons.mpr ⟨rf4, (fun _ h => (by cases h))⟩, [], trivial, ?_, (fun _ h => (by cases h))⟩
  rw [List.append_nil]
  exact (fun _ h => (by cases h))
set_option maxHeartbeats 4000000 in
theorem vc_Mo_spread_16_0 (x1 : Int) (x3 : Int) (x4 : Int) (x5 : Int) (x6 : Int) (x7 : Int) (x9 : Int) (x10 : Int) (x11 : Int) (wide_0 : Int) (tall_0 : Int) (bucketMany_1 : Int → Int) (wide_1 : Int) (tall_1 : Int) (barredPoint_1 : Int → Int) (costOf_1 : Int → Int) (bucket_1 : Int → Int) (costOf_0 : Int → Int) (bucket_0 : Int → Int) (bucketMany_0 : Int → Int) (barredPoint_0 : Int → Int) (k1 : 0 ≤ x1 ∧ x1 ≤ 5999) (k3 : 0 ≤ x3 ∧ x3 ≤ 5999) (k4 : 0 ≤ x4 ∧ x4 ≤ 1000003) (k5 : 0 ≤ x5 ∧ x5 ≤ 4) (k6 : 0 ≤ x6 ∧ x6 ≤ 3) (k7 : 0 ≤ x7 ∧ x7 ≤ 24000) (k9 : 0 ≤ x9 ∧ x9 ≤ 24000) (k10 : 0 ≤ x10 ∧ x10 ≤ 0) (k11 : 1 ≤ x11 ∧ x11 ≤ 1000004) (d0 : x4 + 1 ≤ x11 ∧ x11 ≤ x4 + 1) (d1 : x9 + 0 ≤ x7 ∧ x7 ≤ x9 + 4294967296) (d2 : x3 + (-4294967296) ≤ x1 ∧ x1 ≤ x3 + 0) (d3 : x1 + (-4294967296) ≤ x3 ∧ x3 ≤ x1 + 0) (d4 : x4 + (-4294967296) ≤ x5 ∧ x5 ≤ x4 + 1) (f0 : x11 = x4 + 1) (f1 : (0 ≤ x1) ∧ ((x1 + 1) ≤ (wide_0 * tall_0))) (f2 : (0 ≤ x5) ∧ (((x4 + 1) - x5) ≤ 1000000)) (f3 : x6 = (x4 % 4)) (f4 : x4 ≤ 1000003) (f9 : x9 ≤ x7) (h10 : x9 = bucketMany_1 (x6)) (f11 : (0 ≤ x1) ∧ ((x1 + 1) ≤ (wide_1 * tall_1))) (f12 : RTQ (wide_1) (tall_1) (barredPoint_1) (costOf_1) (bucket_1) (bucketMany_1) (x1) (x4)) (f13 : (0 ≤ x5) ∧ (((x4 + 1) - x5) ≤ 1000000)) (f14 : x6 = (x4 % 4)) (f15 : x4 ≤ 1000003) (fe_0_146_1 : wide_0 = wide_1) (fe_0_147_1 : tall_0 = tall_1) (hE_0_140_1 : ∀ j : Int, costOf_0 j = costOf_1 j) (hK_0_140 : ∀ j : Int, 0 ≤ j → j < 24000 → 0 ≤ costOf_0 j ∧ costOf_0 j ≤ 1000000) (hE_0_141_1 : ∀ j : Int, bucket_0 j = bucket_1 j) (hK_0_141 : ∀ j : Int, 0 ≤ j → j < 96040 → 0 ≤ bucket_0 j ∧ bucket_0 j ≤ 23999) (hE_0_142_1 : ∀ j : Int, 0 ≤ j → (j = x6 → bucketMany_0 j = x10) ∧ (j ≠ x6 → bucketMany_0 j = bucketMany_1 j)) (hK_0_142 : ∀ j : Int, 0 ≤ j → j < 4 → 0 ≤ bucketMany_0 j ∧ bucketMany_0 j ≤ 24009) (hE_0_143_1 : ∀ j : Int, barredPoint_0 j = barredPoint_1 j) (hK_0_143 : ∀ j : Int, 0 ≤ j → j < 6000 → 0 ≤ barredPoint_0 j ∧ barredPoint_0 j ≤ 1) (kz_0_146 : (-2147483648) ≤ wide_0 ∧ wide_0 ≤ 2147483647) (kz_0_147 : (-2147483648) ≤ tall_0 ∧ tall_0 ≤ 2147483647) : RTQ (wide_0) (tall_0) (barredPoint_0) (costOf_0) (bucket_0) (bucketMany_0) (x1) (x11) := by
  subst fe_0_146_1
  subst fe_0_147_1
  have e_hE_0_140_1 := funext hE_0_140_1; subst e_hE_0_140_1
  have e_hE_0_141_1 := funext hE_0_141_1; subst e_hE_0_141_1
  have e_hE_0_143_1 := funext hE_0_143_1; subst e_hE_0_143_1
  first
    | (have h := ‹RT0 _ _ _ _ _ _ _›; unfold RT0 at h; rw [show (0 : Int) = x6 by omega] at h; exact h)
    | exact spr_next (b := x6) ‹RTQ _ _ _ _ _ _ _ _› (by omega) (by assumption) (by omega) (by assumption)
set_option maxHeartbeats 4000000 in
theorem vc_Mo_spread_16_1 (x1 : Int) (x3 : Int) (x4 : Int) (x5 : Int) (x6 : Int) (x7 : Int) (x9 : Int) (x10 : Int) (x11 : Int) (wide_0 : Int) (tall_0 : Int) (bucketMany_1 : Int → Int) (wide_1 : Int) (tall_1 : Int) (barredPoint_1 : Int → Int) (costOf_1 : Int → Int) (bucket_1 : Int → Int) (costOf_0 : Int → Int) (bucket_0 : Int → Int) (bucketMany_0 : Int → Int) (barredPoint_0 : Int → Int) (k1 : 0 ≤ x1 ∧ x1 ≤ 5999) (k3 : 0 ≤ x3 ∧ x3 ≤ 5999) (k4 : 0 ≤ x4 ∧ x4 ≤ 1000003) (k5 : 0 ≤ x5 ∧ x5 ≤ 4) (k6 : 0 ≤ x6 ∧ x6 ≤ 3) (k7 : 0 ≤ x7 ∧ x7 ≤ 24000) (k9 : 0 ≤ x9 ∧ x9 ≤ 24000) (k10 : 0 ≤ x10 ∧ x10 ≤ 0) (k11 : 1 ≤ x11 ∧ x11 ≤ 1000004) (d0 : x4 + 1 ≤ x11 ∧ x11 ≤ x4 + 1) (d1 : x9 + 0 ≤ x7 ∧ x7 ≤ x9 + 4294967296) (d2 : x3 + (-4294967296) ≤ x1 ∧ x1 ≤ x3 + 0) (d3 : x1 + (-4294967296) ≤ x3 ∧ x3 ≤ x1 + 0) (d4 : x4 + (-4294967296) ≤ x5 ∧ x5 ≤ x4 + 1) (f0 : x11 = x4 + 1) (f1 : (0 ≤ x1) ∧ ((x1 + 1) ≤ (wide_0 * tall_0))) (f2 : (0 ≤ x5) ∧ (((x4 + 1) - x5) ≤ 1000000)) (f3 : x6 = (x4 % 4)) (f4 : x4 ≤ 1000003) (f9 : x9 ≤ x7) (h10 : x9 = bucketMany_1 (x6)) (f11 : (0 ≤ x1) ∧ ((x1 + 1) ≤ (wide_1 * tall_1))) (f12 : RTQ (wide_1) (tall_1) (barredPoint_1) (costOf_1) (bucket_1) (bucketMany_1) (x1) (x4)) (f13 : (0 ≤ x5) ∧ (((x4 + 1) - x5) ≤ 1000000)) (f14 : x6 = (x4 % 4)) (f15 : x4 ≤ 1000003) (fe_0_146_1 : wide_0 = wide_1) (fe_0_147_1 : tall_0 = tall_1) (hE_0_140_1 : ∀ j : Int, costOf_0 j = costOf_1 j) (hK_0_140 : ∀ j : Int, 0 ≤ j → j < 24000 → 0 ≤ costOf_0 j ∧ costOf_0 j ≤ 1000000) (hE_0_141_1 : ∀ j : Int, bucket_0 j = bucket_1 j) (hK_0_141 : ∀ j : Int, 0 ≤ j → j < 96040 → 0 ≤ bucket_0 j ∧ bucket_0 j ≤ 23999) (hE_0_142_1 : ∀ j : Int, 0 ≤ j → (j = x6 → bucketMany_0 j = x10) ∧ (j ≠ x6 → bucketMany_0 j = bucketMany_1 j)) (hK_0_142 : ∀ j : Int, 0 ≤ j → j < 4 → 0 ≤ bucketMany_0 j ∧ bucketMany_0 j ≤ 24009) (hE_0_143_1 : ∀ j : Int, barredPoint_0 j = barredPoint_1 j) (hK_0_143 : ∀ j : Int, 0 ≤ j → j < 6000 → 0 ≤ barredPoint_0 j ∧ barredPoint_0 j ≤ 1) (kz_0_146 : (-2147483648) ≤ wide_0 ∧ wide_0 ≤ 2147483647) (kz_0_147 : (-2147483648) ≤ tall_0 ∧ tall_0 ≤ 2147483647) : (0 ≤ x5) ∧ ((x11 - x5) ≤ 1000000) := by
  subst fe_0_146_1
  subst fe_0_147_1
  have e_hE_0_140_1 := funext hE_0_140_1; subst e_hE_0_140_1
  have e_hE_0_141_1 := funext hE_0_141_1; subst e_hE_0_141_1
  have e_hE_0_143_1 := funext hE_0_143_1; subst e_hE_0_143_1
  first
    | omega
    | (have g := gok_bd ‹GRX _ _›; omega)
    | (have h := bm_pos (b := x8) (m := x10) ‹RTQ _ _ _ _ _ _ _ _› (by omega) (by assumption); omega)
    | (have h := bk_at (b := x6) (k := x7) (s := x14) (q := x13) ‹RTQ _ _ _ _ _ _ _ _› (by omega) (by omega) (by omega) (by omega) (by assumption); omega)
    | (have h := bm_pos (b := x6) (m := x9) ‹RTQ _ _ _ _ _ _ _ _› (by omega) (by assumption); omega)
    | (have g := gok_bd (show GRX wide_0 tall_0 from ‹RTQ _ _ _ _ _ _ _ _›.1); omega)
def o_Mo_spread_16 : or_T := (89, 12, [(0, (2, 0, 0, [150])), (1, (0, 0, 5999, [])), (2, (2, 0, 0, [150])), (3, (0, 0, 5999, [])), (4, (0, 0, 1000003, [])), (5, (0, 0, 4, [])), (6, (0, 0, 3, [])), (7, (0, 0, 24000, [])), (8, (2, 0, 0, [253])), (9, (0, 0, 24000, [])), (10, (0, 0, 0, [])), (11, (0, 1, 1000004, []))], [(6, [11, 4], [1]), (20, [3, 2], [50, 2, 0, 1146, 1147, 2, 6, 0, 2, 0, 0, 1, 0, 0, 6, 4, 2, 1, 0, 0, 1, 6, 3, 2, 1, 146, 2, 1, 147]), (20, [5, 4], [50, 0, 0, 2, 6, 0, 2, 0, 0, 1, 0, 0, 10, 5, 6, 4, 2, 1, 1, 0, 1, 1, 0, 0, 1000000]), (20, [6, 4], [50, 0, 0, 1, 2, 1, 0, 9, 2, 1, 1, 0, 4]), (20, [4], [50, 0, 0, 0, 2, 1, 0, 0, 1000003]), (24, [0, 2], []), (24, [1, 3], []), (100, [8, 6, 10], []), (9, [8, 2], [142]), (7, [7, 9], [3]), (10, [9, 8, 6], []), (20, [3, 2], [50, 2, 0, 1146, 1147, 2, 6, 0, 2, 0, 0, 1, 0, 0, 6, 4, 2, 1, 0, 0, 1, 6, 3, 2, 1, 146, 2, 1, 147]), (20, [2, 3, 4], [60, 2, 4, 419, 146, 147, 143, 140, 141, 142]), (20, [5, 4], [50, 0, 0, 2, 6, 0, 2, 0, 0, 1, 0, 0, 10, 5, 6, 4, 2, 1, 1, 0, 1, 1, 0, 0, 1000000]), (20, [6, 4], [50, 0, 0, 1, 2, 1, 0, 9, 2, 1, 1, 0, 4]), (20, [4], [50, 0, 0, 0, 2, 1, 0, 0, 1000003])], [], [], [(20, [2, 3, 11], [60, 2, 4, 419, 146, 147, 143, 140, 141, 142]), (20, [5, 11], [50, 0, 0, 2, 6, 0, 2, 0, 0, 1, 0, 0, 6, 5, 2, 1, 1, 1, 0, 0, 1000000])], [], [(11, 4, 1, 1), (7, 9, 0, 4294967296), (1, 3, -4294967296, 0), (3, 1, -4294967296, 0), (5, 4, -4294967296, 1)])
theorem oo_Mo_spread_16 {kA : Nat → ClassId} : or_ok PRD kA GG o_Mo_spread_16 := by
  intro A ta ws vs hD hth hl hk hds hf
  have hl : vs.length = 12 := hl
  have hk : ∀ q ∈ ([(0, (2, 0, 0, [150])), (1, (0, 0, 5999, [])), (2, (2, 0, 0, [150])), (3, (0, 0, 5999, [])), (4, (0, 0, 1000003, [])), (5, (0, 0, 4, [])), (6, (0, 0, 3, [])), (7, (0, 0, 24000, [])), (8, (2, 0, 0, [253])), (9, (0, 0, 24000, [])), (10, (0, 0, 0, [])), (11, (0, 1, 1000004, []))] : List (Nat × tv_T)), tv_ok ta q.2 (n_v vs q.1) := hk
  obtain ⟨t0, hk⟩ := List.forall_mem_cons.mp hk
  have t0 : tv_ok ta (2, 0, 0, [150]) (n_v vs 0) := t0
  have r0 : ta (v_ad (n_v vs 0)) = some 150 := tv_rg t0
  obtain ⟨t1, hk⟩ := List.forall_mem_cons.mp hk
  have t1 : tv_ok ta (0, 0, 5999, []) (n_v vs 1) := t1
  have k1 : 0 ≤ v_iv (n_v vs 1) ∧ v_iv (n_v vs 1) ≤ 5999 := tv_rng t1
  obtain ⟨t2, hk⟩ := List.forall_mem_cons.mp hk
  have t2 : tv_ok ta (2, 0, 0, [150]) (n_v vs 2) := t2
  have r2 : ta (v_ad (n_v vs 2)) = some 150 := tv_rg t2
  obtain ⟨t3, hk⟩ := List.forall_mem_cons.mp hk
  have t3 : tv_ok ta (0, 0, 5999, []) (n_v vs 3) := t3
  have k3 : 0 ≤ v_iv (n_v vs 3) ∧ v_iv (n_v vs 3) ≤ 5999 := tv_rng t3
  obtain ⟨t4, hk⟩ := List.forall_mem_cons.mp hk
  have t4 : tv_ok ta (0, 0, 1000003, []) (n_v vs 4) := t4
  have k4 : 0 ≤ v_iv (n_v vs 4) ∧ v_iv (n_v vs 4) ≤ 1000003 := tv_rng t4
  obtain ⟨t5, hk⟩ := List.forall_mem_cons.mp hk
  have t5 : tv_ok ta (0, 0, 4, []) (n_v vs 5) := t5
  have k5 : 0 ≤ v_iv (n_v vs 5) ∧ v_iv (n_v vs 5) ≤ 4 := tv_rng t5
  obtain ⟨t6, hk⟩ := List.forall_mem_cons.mp hk
  have t6 : tv_ok ta (0, 0, 3, []) (n_v vs 6) := t6
  have k6 : 0 ≤ v_iv (n_v vs 6) ∧ v_iv (n_v vs 6) ≤ 3 := tv_rng t6
  obtain ⟨t7, hk⟩ := List.forall_mem_cons.mp hk
  have t7 : tv_ok ta (0, 0, 24000, []) (n_v vs 7) := t7
  have k7 : 0 ≤ v_iv (n_v vs 7) ∧ v_iv (n_v vs 7) ≤ 24000 := tv_rng t7
  obtain ⟨t8, hk⟩ := List.forall_mem_cons.mp hk
  have t8 : tv_ok ta (2, 0, 0, [253]) (n_v vs 8) := t8
  have r8 : ta (v_ad (n_v vs 8)) = some 253 := tv_rg t8
  obtain ⟨t9, hk⟩ := List.forall_mem_cons.mp hk
  have t9 : tv_ok ta (0, 0, 24000, []) (n_v vs 9) := t9
  have k9 : 0 ≤ v_iv (n_v vs 9) ∧ v_iv (n_v vs 9) ≤ 24000 := tv_rng t9
  obtain ⟨t10, hk⟩ := List.forall_mem_cons.mp hk
  have t10 : tv_ok ta (0, 0, 0, []) (n_v vs 10) := t10
  have k10 : 0 ≤ v_iv (n_v vs 10) ∧ v_iv (n_v vs 10) ≤ 0 := tv_rng t10
  obtain ⟨t11, hk⟩ := List.forall_mem_cons.mp hk
  have t11 : tv_ok ta (0, 1, 1000004, []) (n_v vs 11) := t11
  have k11 : 1 ≤ v_iv (n_v vs 11) ∧ v_iv (n_v vs 11) ≤ 1000004 := tv_rng t11
  have hds : ∀ q ∈ ([(11, 4, 1, 1), (7, 9, 0, 4294967296), (1, 3, -4294967296, 0), (3, 1, -4294967296, 0), (5, 4, -4294967296, 1)] : List of_T), n_iv vs q.2.1 + q.2.2.1 ≤ n_iv vs q.1 ∧ n_iv vs q.1 ≤ n_iv vs q.2.1 + q.2.2.2 := hds
  obtain ⟨d0, hds⟩ := List.forall_mem_cons.mp hds
  have d0 : v_iv (n_v vs 4) + 1 ≤ v_iv (n_v vs 11) ∧ v_iv (n_v vs 11) ≤ v_iv (n_v vs 4) + 1 := d0
  obtain ⟨d1, hds⟩ := List.forall_mem_cons.mp hds
  have d1 : v_iv (n_v vs 9) + 0 ≤ v_iv (n_v vs 7) ∧ v_iv (n_v vs 7) ≤ v_iv (n_v vs 9) + 4294967296 := d1
  obtain ⟨d2, hds⟩ := List.forall_mem_cons.mp hds
  have d2 : v_iv (n_v vs 3) + (-4294967296) ≤ v_iv (n_v vs 1) ∧ v_iv (n_v vs 1) ≤ v_iv (n_v vs 3) + 0 := d2
  obtain ⟨d3, hds⟩ := List.forall_mem_cons.mp hds
  have d3 : v_iv (n_v vs 1) + (-4294967296) ≤ v_iv (n_v vs 3) ∧ v_iv (n_v vs 3) ≤ v_iv (n_v vs 1) + 0 := d3
  obtain ⟨d4, hds⟩ := List.forall_mem_cons.mp hds
  have d4 : v_iv (n_v vs 4) + (-4294967296) ≤ v_iv (n_v vs 5) ∧ v_iv (n_v vs 5) ≤ v_iv (n_v vs 4) + 1 := d4
  have hf : fc_ok PRD [(6, [11, 4], [1]), (20, [3, 2], [50, 2, 0, 1146, 1147, 2, 6, 0, 2, 0, 0, 1, 0, 0, 6, 4, 2, 1, 0, 0, 1, 6, 3, 2, 1, 146, 2, 1, 147]), (20, [5, 4], [50, 0, 0, 2, 6, 0, 2, 0, 0, 1, 0, 0, 10, 5, 6, 4, 2, 1, 1, 0, 1, 1, 0, 0, 1000000]), (20, [6, 4], [50, 0, 0, 1, 2, 1, 0, 9, 2, 1, 1, 0, 4]), (20, [4], [50, 0, 0, 0, 2, 1, 0, 0, 1000003]), (24, [0, 2], []), (24, [1, 3], []), (100, [8, 6, 10], []), (9, [8, 2], [142]), (7, [7, 9], [3]), (10, [9, 8, 6], []), (20, [3, 2], [50, 2, 0, 1146, 1147, 2, 6, 0, 2, 0, 0, 1, 0, 0, 6, 4, 2, 1, 0, 0, 1, 6, 3, 2, 1, 146, 2, 1, 147]), (20, [2, 3, 4], [60, 2, 4, 419, 146, 147, 143, 140, 141, 142]), (20, [5, 4], [50, 0, 0, 2, 6, 0, 2, 0, 0, 1, 0, 0, 10, 5, 6, 4, 2, 1, 1, 0, 1, 1, 0, 0, 1000000]), (20, [6, 4], [50, 0, 0, 1, 2, 1, 0, 9, 2, 1, 1, 0, 4]), (20, [4], [50, 0, 0, 0, 2, 1, 0, 0, 1000003])] ta ws vs := hf
  obtain ⟨f0, hf⟩ := fc_un (show (6 : Nat) < 100 from by decide) hf
  have f0 : v_iv (n_v vs 11) = v_iv (n_v vs 4) + 1 := f0
  obtain ⟨f1, hf⟩ := fc_un (show (20 : Nat) < 100 from by decide) hf
  have f1 : (0 ≤ v_iv (n_v vs 3)) ∧ ((v_iv (n_v vs 3) + 1) ≤ (w_fi ws (n_v vs 2) 146 * w_fi ws (n_v vs 2) 147)) := f1
  obtain ⟨f2, hf⟩ := fc_un (show (20 : Nat) < 100 from by decide) hf
  have f2 : (0 ≤ v_iv (n_v vs 5)) ∧ (((v_iv (n_v vs 4) + 1) - v_iv (n_v vs 5)) ≤ 1000000) := f2
  obtain ⟨f3, hf⟩ := fc_un (show (20 : Nat) < 100 from by decide) hf
  have f3 : v_iv (n_v vs 6) = (v_iv (n_v vs 4) % 4) := f3
  obtain ⟨f4, hf⟩ := fc_un (show (20 : Nat) < 100 from by decide) hf
  have f4 : v_iv (n_v vs 4) ≤ 1000003 := f4
  obtain ⟨f5, hf⟩ := fc_un (show (24 : Nat) < 100 from by decide) hf
  have f5 : n_v vs 0 = n_v vs 2 := f5
  obtain ⟨f6, hf⟩ := fc_un (show (24 : Nat) < 100 from by decide) hf
  have f6 : n_v vs 1 = n_v vs 3 := f6
  obtain ⟨ta1, w1, le1, ⟨_, s1⟩, hf⟩ := fc_us (show ¬ (100 : Nat) < 100 from by decide) hf
  have s1 : (∀ b j, w_el ws b j = if b = v_ad (n_v vs 8) ∧ j = (v_iv (n_v vs 6)).toNat then v_iv (n_v vs 10) else w_el w1 b j) ∧ ∀ b k, w_fd ws b k = w_fd w1 b k := s1
  obtain ⟨f8, hf⟩ := fc_un (show (9 : Nat) < 100 from by decide) hf
  have f8 : n_v vs 8 = w_fd w1 (v_ad (n_v vs 2)) 142 := f8
  obtain ⟨f9, hf⟩ := fc_un (show (7 : Nat) < 100 from by decide) hf
  have f9 : v_iv (n_v vs 9) ≤ v_iv (n_v vs 7) := f9
  obtain ⟨f10, hf⟩ := fc_un (show (10 : Nat) < 100 from by decide) hf
  have f10 : v_iv (n_v vs 9) = w_el w1 (v_ad (n_v vs 8)) (v_iv (n_v vs 6)).toNat := f10
  obtain ⟨f11, hf⟩ := fc_un (show (20 : Nat) < 100 from by decide) hf
  have f11 : (0 ≤ v_iv (n_v vs 3)) ∧ ((v_iv (n_v vs 3) + 1) ≤ (w_fi w1 (n_v vs 2) 146 * w_fi w1 (n_v vs 2) 147)) := f11
  obtain ⟨f12, hf⟩ := fc_un (show (20 : Nat) < 100 from by decide) hf
  have f12 : RTQ (w_fi w1 (n_v vs 2) 146) (w_fi w1 (n_v vs 2) 147) (w_ei w1 (w_ar w1 (n_v vs 2) 143)) (w_ei w1 (w_ar w1 (n_v vs 2) 140)) (w_ei w1 (w_ar w1 (n_v vs 2) 141)) (w_ei w1 (w_ar w1 (n_v vs 2) 142)) (v_iv (n_v vs 3)) (v_iv (n_v vs 4)) := f12
  obtain ⟨f13, hf⟩ := fc_un (show (20 : Nat) < 100 from by decide) hf
  have f13 : (0 ≤ v_iv (n_v vs 5)) ∧ (((v_iv (n_v vs 4) + 1) - v_iv (n_v vs 5)) ≤ 1000000) := f13
  obtain ⟨f14, hf⟩ := fc_un (show (20 : Nat) < 100 from by decide) hf
  have f14 : v_iv (n_v vs 6) = (v_iv (n_v vs 4) % 4) := f14
  obtain ⟨f15, hf⟩ := fc_un (show (20 : Nat) < 100 from by decide) hf
  have f15 : v_iv (n_v vs 4) ≤ 1000003 := f15
  have q2 : n_v vs 2 = n_v vs 0 := f5.symm
  have q3 : n_v vs 3 = n_v vs 1 := f6.symm
  rw [q2] at f1
  rw [q3] at f1
  rw [q2] at f8
  rw [q2] at f11
  rw [q3] at f11
  rw [q2] at f12
  rw [q3] at f12
  have ar_0_140_1 : w_ar w1 (n_v vs 0) 140 = w_ar ws (n_v vs 0) 140 := by show v_ad (w_fd w1 _ _) = v_ad (w_fd ws _ _); rw [s1.2]
  have cr_0_140 : ta (w_ar ws (n_v vs 0) 140) = some 251 := tv_rg (th_fd hD hth r0 (g := GG_150) rfl (k := 140) (t := (2, 0, 0, [251])) rfl rfl)
  have ar_0_141_1 : w_ar w1 (n_v vs 0) 141 = w_ar ws (n_v vs 0) 141 := by show v_ad (w_fd w1 _ _) = v_ad (w_fd ws _ _); rw [s1.2]
  have cr_0_141 : ta (w_ar ws (n_v vs 0) 141) = some 252 := tv_rg (th_fd hD hth r0 (g := GG_150) rfl (k := 141) (t := (2, 0, 0, [252])) rfl rfl)
  have ar_0_142_1 : w_ar w1 (n_v vs 0) 142 = w_ar ws (n_v vs 0) 142 := by show v_ad (w_fd w1 _ _) = v_ad (w_fd ws _ _); rw [s1.2]
  have cr_0_142 : ta (w_ar ws (n_v vs 0) 142) = some 253 := tv_rg (th_fd hD hth r0 (g := GG_150) rfl (k := 142) (t := (2, 0, 0, [253])) rfl rfl)
  have ar_0_143_1 : w_ar w1 (n_v vs 0) 143 = w_ar ws (n_v vs 0) 143 := by show v_ad (w_fd w1 _ _) = v_ad (w_fd ws _ _); rw [s1.2]
  have cr_0_143 : ta (w_ar ws (n_v vs 0) 143) = some 254 := tv_rg (th_fd hD hth r0 (g := GG_150) rfl (k := 143) (t := (2, 0, 0, [254])) rfl rfl)
  have ad_8 : v_ad (n_v vs 8) = w_ar ws (n_v vs 0) 142 := (congrArg v_ad f8).trans ar_0_142_1
  rw [ad_8] at f10
  have h10 : v_iv (n_v vs 9) = w_ei w1 (w_ar ws (n_v vs 0) 142) (v_iv (n_v vs 6)) := f10
  rw [ar_0_140_1] at f12
  rw [ar_0_141_1] at f12
  rw [ar_0_142_1] at f12
  rw [ar_0_143_1] at f12
  have fe_0_146_1 : w_fi ws (n_v vs 0) 146 = w_fi w1 (n_v vs 0) 146 := congrArg v_iv (s1.2 _ _)
  have fe_0_147_1 : w_fi ws (n_v vs 0) 147 = w_fi w1 (n_v vs 0) 147 := congrArg v_iv (s1.2 _ _)
  have hE_0_140_1 : ∀ j : Int, w_ei ws (w_ar ws (n_v vs 0) 140) j = w_ei w1 (w_ar ws (n_v vs 0) 140) j := fun j => by unfold w_ei; rw [s1.1, if_neg (fun e => by have e1 := e.1; rw [← e1] at r8; rw [cr_0_140] at r8; exact absurd (Option.some.inj r8) (by decide))]
  have hK_0_140 : ∀ j : Int, 0 ≤ j → j < 24000 → 0 ≤ w_ei ws (w_ar ws (n_v vs 0) 140) j ∧ w_ei ws (w_ar ws (n_v vs 0) 140) j ≤ 1000000 := fun j h0 h1 => th_el hD hth cr_0_140 (kd := 0) (n := 24000) (m := 24000) (lo := 0) (hi := 1000000) (rs := []) (L := []) rfl (by decide) (j := j.toNat) (by omega)
  have hE_0_141_1 : ∀ j : Int, w_ei ws (w_ar ws (n_v vs 0) 141) j = w_ei w1 (w_ar ws (n_v vs 0) 141) j := fun j => by unfold w_ei; rw [s1.1, if_neg (fun e => by have e1 := e.1; rw [← e1] at r8; rw [cr_0_141] at r8; exact absurd (Option.some.inj r8) (by decide))]
  have hK_0_141 : ∀ j : Int, 0 ≤ j → j < 96040 → 0 ≤ w_ei ws (w_ar ws (n_v vs 0) 141) j ∧ w_ei ws (w_ar ws (n_v vs 0) 141) j ≤ 23999 := fun j h0 h1 => th_el hD hth cr_0_141 (kd := 0) (n := 96040) (m := 96040) (lo := 0) (hi := 23999) (rs := []) (L := []) rfl (by decide) (j := j.toNat) (by omega)
  have hE_0_142_1 : ∀ j : Int, 0 ≤ j → (j = v_iv (n_v vs 6) → w_ei ws (w_ar ws (n_v vs 0) 142) j = v_iv (n_v vs 10)) ∧ (j ≠ v_iv (n_v vs 6) → w_ei ws (w_ar ws (n_v vs 0) 142) j = w_ei w1 (w_ar ws (n_v vs 0) 142) j) := fun j hj => ⟨fun h => by unfold w_ei; rw [s1.1, if_pos ⟨ad_8.symm, by rw [h]⟩], fun h => by unfold w_ei; rw [s1.1, if_neg (fun e => h (by have := e.2; omega))]⟩
  have hK_0_142 : ∀ j : Int, 0 ≤ j → j < 4 → 0 ≤ w_ei ws (w_ar ws (n_v vs 0) 142) j ∧ w_ei ws (w_ar ws (n_v vs 0) 142) j ≤ 24009 := fun j h0 h1 => th_el hD hth cr_0_142 (kd := 0) (n := 4) (m := 4) (lo := 0) (hi := 24009) (rs := []) (L := []) rfl (by decide) (j := j.toNat) (by omega)
  have hE_0_143_1 : ∀ j : Int, w_ei ws (w_ar ws (n_v vs 0) 143) j = w_ei w1 (w_ar ws (n_v vs 0) 143) j := fun j => by unfold w_ei; rw [s1.1, if_neg (fun e => by have e1 := e.1; rw [← e1] at r8; rw [cr_0_143] at r8; exact absurd (Option.some.inj r8) (by decide))]
  have hK_0_143 : ∀ j : Int, 0 ≤ j → j < 6000 → 0 ≤ w_ei ws (w_ar ws (n_v vs 0) 143) j ∧ w_ei ws (w_ar ws (n_v vs 0) 143) j ≤ 1 := fun j h0 h1 => th_el hD hth cr_0_143 (kd := 2) (n := 6000) (m := 6000) (lo := 0) (hi := 1) (rs := []) (L := []) rfl (by decide) (j := j.toNat) (by omega)
  have pe_0_146_147_1 : w_fi ws (n_v vs 0) 146 * w_fi ws (n_v vs 0) 147 = w_fi w1 (n_v vs 0) 146 * w_fi w1 (n_v vs 0) 147 := by rw [fe_0_146_1, fe_0_147_1]
  have kz_0_146 : (-2147483648) ≤ w_fi ws (n_v vs 0) 146 ∧ w_fi ws (n_v vs 0) 146 ≤ 2147483647 := tv_rng (th_fd hD hth r0 (g := GG_150) rfl (k := 146) (t := (0, -2147483648, 2147483647, [])) rfl rfl)
  have kz_0_147 : (-2147483648) ≤ w_fi ws (n_v vs 0) 147 ∧ w_fi ws (n_v vs 0) 147 ≤ 2147483647 := tv_rng (th_fd hD hth r0 (g := GG_150) rfl (k := 147) (t := (0, -2147483648, 2147483647, [])) rfl rfl)
  have nf0 : fc_1 PRD (20, [2, 3, 11], [60, 2, 4, 419, 146, 147, 143, 140, 141, 142]) ws (vs) := by
    refine ⟨fun n hn => ?_, ?_⟩
    · have hn : n ∈ [2, 3, 11] := hn
      rw [hl]
      simp only [List.mem_cons, List.not_mem_nil, or_false] at hn
      show n < 12; omega
    · show RTQ (w_fi ws (n_v vs 2) 146) (w_fi ws (n_v vs 2) 147) (w_ei ws (w_ar ws (n_v vs 2) 143)) (w_ei ws (w_ar ws (n_v vs 2) 140)) (w_ei ws (w_ar ws (n_v vs 2) 141)) (w_ei ws (w_ar ws (n_v vs 2) 142)) (v_iv (n_v vs 3)) (v_iv (n_v vs 11))
      rw [q2, q3]
      exact vc_Mo_spread_16_0 (v_iv (n_v vs 1)) (v_iv (n_v vs 3)) (v_iv (n_v vs 4)) (v_iv (n_v vs 5)) (v_iv (n_v vs 6)) (v_iv (n_v vs 7)) (v_iv (n_v vs 9)) (v_iv (n_v vs 10)) (v_iv (n_v vs 11)) (w_fi ws (n_v vs 0) 146) (w_fi ws (n_v vs 0) 147) (w_ei w1 (w_ar ws (n_v vs 0) 142)) (w_fi w1 (n_v vs 0) 146) (w_fi w1 (n_v vs 0) 147) (w_ei w1 (w_ar ws (n_v vs 0) 143)) (w_ei w1 (w_ar ws (n_v vs 0) 140)) (w_ei w1 (w_ar ws (n_v vs 0) 141)) (w_ei ws (w_ar ws (n_v vs 0) 140)) (w_ei ws (w_ar ws (n_v vs 0) 141)) (w_ei ws (w_ar ws (n_v vs 0) 142)) (w_ei ws (w_ar ws (n_v vs 0) 143)) k1 k3 k4 k5 k6 k7 k9 k10 k11 d0 d1 d2 d3 d4 f0 f1 f2 f3 f4 f9 h10 f11 f12 f13 f14 f15 fe_0_146_1 fe_0_147_1 hE_0_140_1 hK_0_140 hE_0_141_1 hK_0_141 hE_0_142_1 hK_0_142 hE_0_143_1 hK_0_143 kz_0_146 kz_0_147
  have nf1 : fc_1 PRD (20, [5, 11], [50, 0, 0, 2, 6, 0, 2, 0, 0, 1, 0, 0, 6, 5, 2, 1, 1, 1, 0, 0, 1000000]) ws (vs) := by
    refine ⟨fun n hn => ?_, ?_⟩
    · have hn : n ∈ [5, 11] := hn
      rw [hl]
      simp only [List.mem_cons, List.not_mem_nil, or_false] at hn
      show n < 12; omega
    · show (0 ≤ v_iv (n_v vs 5)) ∧ ((v_iv (n_v vs 11) - v_iv (n_v vs 5)) ≤ 1000000)
      exact vc_Mo_spread_16_1 (v_iv (n_v vs 1)) (v_iv (n_v vs 3)) (v_iv (n_v vs 4)) (v_iv (n_v vs 5)) (v_iv (n_v vs 6)) (v_iv (n_v vs 7)) (v_iv (n_v vs 9)) (v_iv (n_v vs 10)) (v_iv (n_v vs 11)) (w_fi ws (n_v vs 0) 146) (w_fi ws (n_v vs 0) 147) (w_ei w1 (w_ar ws (n_v vs 0) 142)) (w_fi w1 (n_v vs 0) 146) (w_fi w1 (n_v vs 0) 147) (w_ei w1 (w_ar ws (n_v vs 0) 143)) (w_ei w1 (w_ar ws (n_v vs 0) 140)) (w_ei w1 (w_ar ws (n_v vs 0) 141)) (w_ei ws (w_ar ws (n_v vs 0) 140)) (w_ei ws (w_ar ws (n_v vs 0) 141)) (w_ei ws (w_ar ws (n_v vs 0) 142)) (w_ei ws (w_ar ws (n_v vs 0) 143)) k1 k3 k4 k5 k6 k7 k9 k10 k11 d0 d1 d2 d3 d4 f0 f1 f2 f3 f4 f9 h10 f11 f12 f13 f14 f15 fe_0_146_1 fe_0_147_1 hE_0_140_1 hK_0_140 hE_0_141_1 hK_0_141 hE_0_142_1 hK_0_142 hE_0_143_1 hK_0_143 kz_0_146 kz_0_147
  refine ⟨(fun _ h => (by cases h)), [], trivial, ?_, (fun _ h => (by cases h))⟩
  rw [List.append_nil]
  exact List.forall_mem_cons.mpr ⟨⟨show (20 : Nat) < 100 from by decide, nf0⟩, List.forall_mem_cons.mpr ⟨⟨show (20 : Nat) < 100 from by decide, nf1⟩, (fun _ h => (by cases h))⟩⟩
set_option maxHeartbeats 4000000 in
theorem vc_Mo_spread_17_r0 (x1 : Int) (x3 : Int) (x4 : Int) (x5 : Int) (x6 : Int) (x7 : Int) (x9 : Int) (bucketMany_0 : Int → Int) (wide_0 : Int) (tall_0 : Int) (barredPoint_0 : Int → Int) (costOf_0 : Int → Int) (bucket_0 : Int → Int) (k1 : 0 ≤ x1 ∧ x1 ≤ 5999) (k3 : 0 ≤ x3 ∧ x3 ≤ 5999) (k4 : 0 ≤ x4 ∧ x4 ≤ 1000004) (k5 : 0 ≤ x5 ∧ x5 ≤ 4) (k6 : 0 ≤ x6 ∧ x6 ≤ 3) (k7 : 0 ≤ x7 ∧ x7 ≤ 24000) (k9 : 1 ≤ x9 ∧ x9 ≤ 24009) (d0 : x9 + (-4294967296) ≤ x7 ∧ x7 ≤ x9 + (-1)) (d1 : x3 + (-4294967296) ≤ x1 ∧ x1 ≤ x3 + 0) (d2 : x1 + (-4294967296) ≤ x3 ∧ x3 ≤ x1 + 0) (d3 : x4 + (-4294967296) ≤ x5 ∧ x5 ≤ x4 + 1) (f0 : x7 < x9) (h1 : x9 = bucketMany_0 (x6)) (f3 : (0 ≤ x1) ∧ ((x1 + 1) ≤ (wide_0 * tall_0))) (f4 : RTQ (wide_0) (tall_0) (barredPoint_0) (costOf_0) (bucket_0) (bucketMany_0) (x1) (x4)) (f5 : (0 ≤ x5) ∧ (((x4 + 1) - x5) ≤ 1000000)) (f6 : x6 = (x4 % 4)) (f7 : x4 ≤ 1000003) (hK_0_140 : ∀ j : Int, 0 ≤ j → j < 24000 → 0 ≤ costOf_0 j ∧ costOf_0 j ≤ 1000000) (hK_0_141 : ∀ j : Int, 0 ≤ j → j < 96040 → 0 ≤ bucket_0 j ∧ bucket_0 j ≤ 23999) (hK_0_142 : ∀ j : Int, 0 ≤ j → j < 4 → 0 ≤ bucketMany_0 j ∧ bucketMany_0 j ≤ 24009) (hK_0_143 : ∀ j : Int, 0 ≤ j → j < 6000 → 0 ≤ barredPoint_0 j ∧ barredPoint_0 j ≤ 1) (kz_0_146 : (-2147483648) ≤ wide_0 ∧ wide_0 ≤ 2147483647) (kz_0_147 : (-2147483648) ≤ tall_0 ∧ tall_0 ≤ 2147483647) : 0 ≤ x7 ∧ x7 ≤ 23999 := by
  first
    | omega
    | (have g := gok_bd ‹GRX _ _›; omega)
    | (have h := bm_pos (b := x8) (m := x10) ‹RTQ _ _ _ _ _ _ _ _› (by omega) (by assumption); omega)
    | (have h := bk_at (b := x6) (k := x7) (s := x14) (q := x13) ‹RTQ _ _ _ _ _ _ _ _› (by omega) (by omega) (by omega) (by omega) (by assumption); omega)
    | (have h := bm_pos (b := x6) (m := x9) ‹RTQ _ _ _ _ _ _ _ _› (by omega) (by assumption); omega)
    | (have g := gok_bd (show GRX wide_0 tall_0 from ‹RTQ _ _ _ _ _ _ _ _›.1); omega)
def o_Mo_spread_17 : or_T := (132, 10, [(0, (2, 0, 0, [150])), (1, (0, 0, 5999, [])), (2, (2, 0, 0, [150])), (3, (0, 0, 5999, [])), (4, (0, 0, 1000004, [])), (5, (0, 0, 4, [])), (6, (0, 0, 3, [])), (7, (0, 0, 24000, [])), (8, (2, 0, 0, [253])), (9, (0, 1, 24009, []))], [(7, [7, 9], [2]), (10, [9, 8, 6], []), (9, [8, 2], [142]), (20, [3, 2], [50, 2, 0, 1146, 1147, 2, 6, 0, 2, 0, 0, 1, 0, 0, 6, 4, 2, 1, 0, 0, 1, 6, 3, 2, 1, 146, 2, 1, 147]), (20, [2, 3, 4], [60, 2, 4, 419, 146, 147, 143, 140, 141, 142]), (20, [5, 4], [50, 0, 0, 2, 6, 0, 2, 0, 0, 1, 0, 0, 10, 5, 6, 4, 2, 1, 1, 0, 1, 1, 0, 0, 1000000]), (20, [6, 4], [50, 0, 0, 1, 2, 1, 0, 9, 2, 1, 1, 0, 4]), (20, [4], [50, 0, 0, 0, 2, 1, 0, 0, 1000003]), (24, [0, 2], []), (24, [1, 3], [])], [(7, (0, 0, 23999, []))], [], [], [], [(7, 9, -4294967296, -1), (1, 3, -4294967296, 0), (3, 1, -4294967296, 0), (5, 4, -4294967296, 1)])
theorem oo_Mo_spread_17 {kA : Nat → ClassId} : or_ok PRD kA GG o_Mo_spread_17 := by
  intro A ta ws vs hD hth hl hk hds hf
  have hl : vs.length = 10 := hl
  have hk : ∀ q ∈ ([(0, (2, 0, 0, [150])), (1, (0, 0, 5999, [])), (2, (2, 0, 0, [150])), (3, (0, 0, 5999, [])), (4, (0, 0, 1000004, [])), (5, (0, 0, 4, [])), (6, (0, 0, 3, [])), (7, (0, 0, 24000, [])), (8, (2, 0, 0, [253])), (9, (0, 1, 24009, []))] : List (Nat × tv_T)), tv_ok ta q.2 (n_v vs q.1) := hk
  obtain ⟨t0, hk⟩ := List.forall_mem_cons.mp hk
  have t0 : tv_ok ta (2, 0, 0, [150]) (n_v vs 0) := t0
  have r0 : ta (v_ad (n_v vs 0)) = some 150 := tv_rg t0
  obtain ⟨t1, hk⟩ := List.forall_mem_cons.mp hk
  have t1 : tv_ok ta (0, 0, 5999, []) (n_v vs 1) := t1
  have k1 : 0 ≤ v_iv (n_v vs 1) ∧ v_iv (n_v vs 1) ≤ 5999 := tv_rng t1
  obtain ⟨t2, hk⟩ := List.forall_mem_cons.mp hk
  have t2 : tv_ok ta (2, 0, 0, [150]) (n_v vs 2) := t2
  have r2 : ta (v_ad (n_v vs 2)) = some 150 := tv_rg t2
  obtain ⟨t3, hk⟩ := List.forall_mem_cons.mp hk
  have t3 : tv_ok ta (0, 0, 5999, []) (n_v vs 3) := t3
  have k3 : 0 ≤ v_iv (n_v vs 3) ∧ v_iv (n_v vs 3) ≤ 5999 := tv_rng t3
  obtain ⟨t4, hk⟩ := List.forall_mem_cons.mp hk
  have t4 : tv_ok ta (0, 0, 1000004, []) (n_v vs 4) := t4
  have k4 : 0 ≤ v_iv (n_v vs 4) ∧ v_iv (n_v vs 4) ≤ 1000004 := tv_rng t4
  obtain ⟨t5, hk⟩ := List.forall_mem_cons.mp hk
  have t5 : tv_ok ta (0, 0, 4, []) (n_v vs 5) := t5
  have k5 : 0 ≤ v_iv (n_v vs 5) ∧ v_iv (n_v vs 5) ≤ 4 := tv_rng t5
  obtain ⟨t6, hk⟩ := List.forall_mem_cons.mp hk
  have t6 : tv_ok ta (0, 0, 3, []) (n_v vs 6) := t6
  have k6 : 0 ≤ v_iv (n_v vs 6) ∧ v_iv (n_v vs 6) ≤ 3 := tv_rng t6
  obtain ⟨t7, hk⟩ := List.forall_mem_cons.mp hk
  have t7 : tv_ok ta (0, 0, 24000, []) (n_v vs 7) := t7
  have k7 : 0 ≤ v_iv (n_v vs 7) ∧ v_iv (n_v vs 7) ≤ 24000 := tv_rng t7
  obtain ⟨t8, hk⟩ := List.forall_mem_cons.mp hk
  have t8 : tv_ok ta (2, 0, 0, [253]) (n_v vs 8) := t8
  have r8 : ta (v_ad (n_v vs 8)) = some 253 := tv_rg t8
  obtain ⟨t9, hk⟩ := List.forall_mem_cons.mp hk
  have t9 : tv_ok ta (0, 1, 24009, []) (n_v vs 9) := t9
  have k9 : 1 ≤ v_iv (n_v vs 9) ∧ v_iv (n_v vs 9) ≤ 24009 := tv_rng t9
  have hds : ∀ q ∈ ([(7, 9, -4294967296, -1), (1, 3, -4294967296, 0), (3, 1, -4294967296, 0), (5, 4, -4294967296, 1)] : List of_T), n_iv vs q.2.1 + q.2.2.1 ≤ n_iv vs q.1 ∧ n_iv vs q.1 ≤ n_iv vs q.2.1 + q.2.2.2 := hds
  obtain ⟨d0, hds⟩ := List.forall_mem_cons.mp hds
  have d0 : v_iv (n_v vs 9) + (-4294967296) ≤ v_iv (n_v vs 7) ∧ v_iv (n_v vs 7) ≤ v_iv (n_v vs 9) + (-1) := d0
  obtain ⟨d1, hds⟩ := List.forall_mem_cons.mp hds
  have d1 : v_iv (n_v vs 3) + (-4294967296) ≤ v_iv (n_v vs 1) ∧ v_iv (n_v vs 1) ≤ v_iv (n_v vs 3) + 0 := d1
  obtain ⟨d2, hds⟩ := List.forall_mem_cons.mp hds
  have d2 : v_iv (n_v vs 1) + (-4294967296) ≤ v_iv (n_v vs 3) ∧ v_iv (n_v vs 3) ≤ v_iv (n_v vs 1) + 0 := d2
  obtain ⟨d3, hds⟩ := List.forall_mem_cons.mp hds
  have d3 : v_iv (n_v vs 4) + (-4294967296) ≤ v_iv (n_v vs 5) ∧ v_iv (n_v vs 5) ≤ v_iv (n_v vs 4) + 1 := d3
  have hf : fc_ok PRD [(7, [7, 9], [2]), (10, [9, 8, 6], []), (9, [8, 2], [142]), (20, [3, 2], [50, 2, 0, 1146, 1147, 2, 6, 0, 2, 0, 0, 1, 0, 0, 6, 4, 2, 1, 0, 0, 1, 6, 3, 2, 1, 146, 2, 1, 147]), (20, [2, 3, 4], [60, 2, 4, 419, 146, 147, 143, 140, 141, 142]), (20, [5, 4], [50, 0, 0, 2, 6, 0, 2, 0, 0, 1, 0, 0, 10, 5, 6, 4, 2, 1, 1, 0, 1, 1, 0, 0, 1000000]), (20, [6, 4], [50, 0, 0, 1, 2, 1, 0, 9, 2, 1, 1, 0, 4]), (20, [4], [50, 0, 0, 0, 2, 1, 0, 0, 1000003]), (24, [0, 2], []), (24, [1, 3], [])] ta ws vs := hf
  obtain ⟨f0, hf⟩ := fc_un (show (7 : Nat) < 100 from by decide) hf
  have f0 : v_iv (n_v vs 7) < v_iv (n_v vs 9) := f0
  obtain ⟨f1, hf⟩ := fc_un (show (10 : Nat) < 100 from by decide) hf
  have f1 : v_iv (n_v vs 9) = w_el ws (v_ad (n_v vs 8)) (v_iv (n_v vs 6)).toNat := f1
  obtain ⟨f2, hf⟩ := fc_un (show (9 : Nat) < 100 from by decide) hf
  have f2 : n_v vs 8 = w_fd ws (v_ad (n_v vs 2)) 142 := f2
  obtain ⟨f3, hf⟩ := fc_un (show (20 : Nat) < 100 from by decide) hf
  have f3 : (0 ≤ v_iv (n_v vs 3)) ∧ ((v_iv (n_v vs 3) + 1) ≤ (w_fi ws (n_v vs 2) 146 * w_fi ws (n_v vs 2) 147)) := f3
  obtain ⟨f4, hf⟩ := fc_un (show (20 : Nat) < 100 from by decide) hf
  have f4 : RTQ (w_fi ws (n_v vs 2) 146) (w_fi ws (n_v vs 2) 147) (w_ei ws (w_ar ws (n_v vs 2) 143)) (w_ei ws (w_ar ws (n_v vs 2) 140)) (w_ei ws (w_ar ws (n_v vs 2) 141)) (w_ei ws (w_ar ws (n_v vs 2) 142)) (v_iv (n_v vs 3)) (v_iv (n_v vs 4)) := f4
  obtain ⟨f5, hf⟩ := fc_un (show (20 : Nat) < 100 from by decide) hf
  have f5 : (0 ≤ v_iv (n_v vs 5)) ∧ (((v_iv (n_v vs 4) + 1) - v_iv (n_v vs 5)) ≤ 1000000) := f5
  obtain ⟨f6, hf⟩ := fc_un (show (20 : Nat) < 100 from by decide) hf
  have f6 : v_iv (n_v vs 6) = (v_iv (n_v vs 4) % 4) := f6
  obtain ⟨f7, hf⟩ := fc_un (show (20 : Nat) < 100 from by decide) hf
  have f7 : v_iv (n_v vs 4) ≤ 1000003 := f7
  obtain ⟨f8, hf⟩ := fc_un (show (24 : Nat) < 100 from by decide) hf
  have f8 : n_v vs 0 = n_v vs 2 := f8
  obtain ⟨f9, hf⟩ := fc_un (show (24 : Nat) < 100 from by decide) hf
  have f9 : n_v vs 1 = n_v vs 3 := f9
  have q2 : n_v vs 2 = n_v vs 0 := f8.symm
  have q3 : n_v vs 3 = n_v vs 1 := f9.symm
  rw [q2] at f2
  rw [q2] at f3
  rw [q3] at f3
  rw [q2] at f4
  rw [q3] at f4
  have cr_0_140 : ta (w_ar ws (n_v vs 0) 140) = some 251 := tv_rg (th_fd hD hth r0 (g := GG_150) rfl (k := 140) (t := (2, 0, 0, [251])) rfl rfl)
  have cr_0_141 : ta (w_ar ws (n_v vs 0) 141) = some 252 := tv_rg (th_fd hD hth r0 (g := GG_150) rfl (k := 141) (t := (2, 0, 0, [252])) rfl rfl)
  have cr_0_142 : ta (w_ar ws (n_v vs 0) 142) = some 253 := tv_rg (th_fd hD hth r0 (g := GG_150) rfl (k := 142) (t := (2, 0, 0, [253])) rfl rfl)
  have cr_0_143 : ta (w_ar ws (n_v vs 0) 143) = some 254 := tv_rg (th_fd hD hth r0 (g := GG_150) rfl (k := 143) (t := (2, 0, 0, [254])) rfl rfl)
  have ad_8 : v_ad (n_v vs 8) = w_ar ws (n_v vs 0) 142 := congrArg v_ad f2
  rw [ad_8] at f1
  have h1 : v_iv (n_v vs 9) = w_ei ws (w_ar ws (n_v vs 0) 142) (v_iv (n_v vs 6)) := f1
  have hK_0_140 : ∀ j : Int, 0 ≤ j → j < 24000 → 0 ≤ w_ei ws (w_ar ws (n_v vs 0) 140) j ∧ w_ei ws (w_ar ws (n_v vs 0) 140) j ≤ 1000000 := fun j h0 h1 => th_el hD hth cr_0_140 (kd := 0) (n := 24000) (m := 24000) (lo := 0) (hi := 1000000) (rs := []) (L := []) rfl (by decide) (j := j.toNat) (by omega)
  have hK_0_141 : ∀ j : Int, 0 ≤ j → j < 96040 → 0 ≤ w_ei ws (w_ar ws (n_v vs 0) 141) j ∧ w_ei ws (w_ar ws (n_v vs 0) 141) j ≤ 23999 := fun j h0 h1 => th_el hD hth cr_0_141 (kd := 0) (n := 96040) (m := 96040) (lo := 0) (hi := 23999) (rs := []) (L := []) rfl (by decide) (j := j.toNat) (by omega)
  have hK_0_142 : ∀ j : Int, 0 ≤ j → j < 4 → 0 ≤ w_ei ws (w_ar ws (n_v vs 0) 142) j ∧ w_ei ws (w_ar ws (n_v vs 0) 142) j ≤ 24009 := fun j h0 h1 => th_el hD hth cr_0_142 (kd := 0) (n := 4) (m := 4) (lo := 0) (hi := 24009) (rs := []) (L := []) rfl (by decide) (j := j.toNat) (by omega)
  have hK_0_143 : ∀ j : Int, 0 ≤ j → j < 6000 → 0 ≤ w_ei ws (w_ar ws (n_v vs 0) 143) j ∧ w_ei ws (w_ar ws (n_v vs 0) 143) j ≤ 1 := fun j h0 h1 => th_el hD hth cr_0_143 (kd := 2) (n := 6000) (m := 6000) (lo := 0) (hi := 1) (rs := []) (L := []) rfl (by decide) (j := j.toNat) (by omega)
  have kz_0_146 : (-2147483648) ≤ w_fi ws (n_v vs 0) 146 ∧ w_fi ws (n_v vs 0) 146 ≤ 2147483647 := tv_rng (th_fd hD hth r0 (g := GG_150) rfl (k := 146) (t := (0, -2147483648, 2147483647, [])) rfl rfl)
  have kz_0_147 : (-2147483648) ≤ w_fi ws (n_v vs 0) 147 ∧ w_fi ws (n_v vs 0) 147 ≤ 2147483647 := tv_rng (th_fd hD hth r0 (g := GG_150) rfl (k := 147) (t := (0, -2147483648, 2147483647, [])) rfl rfl)
  have hrf0 : 0 ≤ v_iv (n_v vs 7) ∧ v_iv (n_v vs 7) ≤ 23999 := vc_Mo_spread_17_r0 (v_iv (n_v vs 1)) (v_iv (n_v vs 3)) (v_iv (n_v vs 4)) (v_iv (n_v vs 5)) (v_iv (n_v vs 6)) (v_iv (n_v vs 7)) (v_iv (n_v vs 9)) (w_ei ws (w_ar ws (n_v vs 0) 142)) (w_fi ws (n_v vs 0) 146) (w_fi ws (n_v vs 0) 147) (w_ei ws (w_ar ws (n_v vs 0) 143)) (w_ei ws (w_ar ws (n_v vs 0) 140)) (w_ei ws (w_ar ws (n_v vs 0) 141)) k1 k3 k4 k5 k6 k7 k9 d0 d1 d2 d3 f0 h1 f3 f4 f5 f6 f7 hK_0_140 hK_0_141 hK_0_142 hK_0_143 kz_0_146 kz_0_147
  have rf7 : tv_ok ta (0, 0, 23999, []) (n_v vs 7) := tv_in t7 (by first | omega | grind) (by first | omega | grind)
  refine ⟨List.forall_mem_cons.mpr ⟨rf7, (fun _ h => (by cases h))⟩, [], trivial, ?_, (fun _ h => (by cases h))⟩
  rw [List.append_nil]
  exact (fun _ h => (by cases h))
set_option maxHeartbeats 4000000 in
theorem vc_Mo_spread_18_0 (x1 : Int) (x3 : Int) (x4 : Int) (x5 : Int) (x6 : Int) (x7 : Int) (x9 : Int) (x11 : Int) (x12 : Int) (x13 : Int) (x14 : Int) (x16 : Int) (costOf_0 : Int → Int) (bucket_0 : Int → Int) (bucketMany_0 : Int → Int) (wide_0 : Int) (tall_0 : Int) (barredPoint_0 : Int → Int) (gx : Int) (k1 : 0 ≤ x1 ∧ x1 ≤ 5999) (k3 : 0 ≤ x3 ∧ x3 ≤ 5999) (k4 : 0 ≤ x4 ∧ x4 ≤ 1000000) (k5 : 0 ≤ x5 ∧ x5 ≤ 4) (k6 : 0 ≤ x6 ∧ x6 ≤ 3) (k7 : 0 ≤ x7 ∧ x7 ≤ 23999) (k9 : 1 ≤ x9 ∧ x9 ≤ 24009) (k11 : 24010 ≤ x11 ∧ x11 ≤ 24010) (k12 : 0 ≤ x12 ∧ x12 ≤ 72030) (k13 : 0 ≤ x13 ∧ x13 ≤ 96029) (k14 : 0 ≤ x14 ∧ x14 ≤ 23999) (k16 : 0 ≤ x16 ∧ x16 ≤ 1000000) (d0 : x4 + 0 ≤ x16 ∧ x16 ≤ x4 + 0) (d1 : x7 + 0 ≤ x13 ∧ x13 ≤ x7 + 72030) (d2 : x9 + (-4294967296) ≤ x13 ∧ x13 ≤ x9 + 72029) (d3 : x12 + 0 ≤ x13 ∧ x13 ≤ x12 + 23999) (d4 : x9 + (-4294967296) ≤ x7 ∧ x7 ≤ x9 + (-1)) (d5 : x3 + (-4294967296) ≤ x1 ∧ x1 ≤ x3 + 0) (d6 : x1 + (-4294967296) ≤ x3 ∧ x3 ≤ x1 + 0) (d7 : x4 + (-4294967296) ≤ x5 ∧ x5 ≤ x4 + 1) (f0 : x16 = x4) (h1 : x16 = costOf_0 (x14)) (h3 : x14 = bucket_0 (x13)) (f4 : x13 = x12 + x7) (f5 : x12 = 24010 * x6) (f7 : x7 < x9) (h8 : x9 = bucketMany_0 (x6)) (f10 : (0 ≤ x1) ∧ ((x1 + 1) ≤ (wide_0 * tall_0))) (f11 : RTQ (wide_0) (tall_0) (barredPoint_0) (costOf_0) (bucket_0) (bucketMany_0) (x1) (x4)) (f12 : (0 ≤ x5) ∧ (((x4 + 1) - x5) ≤ 1000000)) (f13 : x6 = (x4 % 4)) (f14 : x4 ≤ 1000003) (hK_0_140 : ∀ j : Int, 0 ≤ j → j < 24000 → 0 ≤ costOf_0 j ∧ costOf_0 j ≤ 1000000) (hK_0_141 : ∀ j : Int, 0 ≤ j → j < 96040 → 0 ≤ bucket_0 j ∧ bucket_0 j ≤ 23999) (hK_0_142 : ∀ j : Int, 0 ≤ j → j < 4 → 0 ≤ bucketMany_0 j ∧ bucketMany_0 j ≤ 24009) (hK_0_143 : ∀ j : Int, 0 ≤ j → j < 6000 → 0 ≤ barredPoint_0 j ∧ barredPoint_0 j ≤ 1) (kz_0_146 : (-2147483648) ≤ wide_0 ∧ wide_0 ≤ 2147483647) (kz_0_147 : (-2147483648) ≤ tall_0 ∧ tall_0 ≤ 2147483647) (ex2 : gx = x1) (ex3 : 0 ≤ gx ∧ gx ≤ 5999) : 1 * gx + ((-1) * x1 + 0) ≤ 0 := by
  first
    | omega
    | (have g := gok_bd ‹GRX _ _›; omega)
    | (have h := bm_pos (b := x8) (m := x10) ‹RTQ _ _ _ _ _ _ _ _› (by omega) (by assumption); omega)
    | (have h := bk_at (b := x6) (k := x7) (s := x14) (q := x13) ‹RTQ _ _ _ _ _ _ _ _› (by omega) (by omega) (by omega) (by omega) (by assumption); omega)
    | (have h := bm_pos (b := x6) (m := x9) ‹RTQ _ _ _ _ _ _ _ _› (by omega) (by assumption); omega)
    | (have g := gok_bd (show GRX wide_0 tall_0 from ‹RTQ _ _ _ _ _ _ _ _›.1); omega)
set_option maxHeartbeats 4000000 in
theorem vc_Mo_spread_18_1 (x1 : Int) (x3 : Int) (x4 : Int) (x5 : Int) (x6 : Int) (x7 : Int) (x9 : Int) (x11 : Int) (x12 : Int) (x13 : Int) (x14 : Int) (x16 : Int) (costOf_0 : Int → Int) (bucket_0 : Int → Int) (bucketMany_0 : Int → Int) (wide_0 : Int) (tall_0 : Int) (barredPoint_0 : Int → Int) (gx : Int) (k1 : 0 ≤ x1 ∧ x1 ≤ 5999) (k3 : 0 ≤ x3 ∧ x3 ≤ 5999) (k4 : 0 ≤ x4 ∧ x4 ≤ 1000000) (k5 : 0 ≤ x5 ∧ x5 ≤ 4) (k6 : 0 ≤ x6 ∧ x6 ≤ 3) (k7 : 0 ≤ x7 ∧ x7 ≤ 23999) (k9 : 1 ≤ x9 ∧ x9 ≤ 24009) (k11 : 24010 ≤ x11 ∧ x11 ≤ 24010) (k12 : 0 ≤ x12 ∧ x12 ≤ 72030) (k13 : 0 ≤ x13 ∧ x13 ≤ 96029) (k14 : 0 ≤ x14 ∧ x14 ≤ 23999) (k16 : 0 ≤ x16 ∧ x16 ≤ 1000000) (d0 : x4 + 0 ≤ x16 ∧ x16 ≤ x4 + 0) (d1 : x7 + 0 ≤ x13 ∧ x13 ≤ x7 + 72030) (d2 : x9 + (-4294967296) ≤ x13 ∧ x13 ≤ x9 + 72029) (d3 : x12 + 0 ≤ x13 ∧ x13 ≤ x12 + 23999) (d4 : x9 + (-4294967296) ≤ x7 ∧ x7 ≤ x9 + (-1)) (d5 : x3 + (-4294967296) ≤ x1 ∧ x1 ≤ x3 + 0) (d6 : x1 + (-4294967296) ≤ x3 ∧ x3 ≤ x1 + 0) (d7 : x4 + (-4294967296) ≤ x5 ∧ x5 ≤ x4 + 1) (f0 : x16 = x4) (h1 : x16 = costOf_0 (x14)) (h3 : x14 = bucket_0 (x13)) (f4 : x13 = x12 + x7) (f5 : x12 = 24010 * x6) (f7 : x7 < x9) (h8 : x9 = bucketMany_0 (x6)) (f10 : (0 ≤ x1) ∧ ((x1 + 1) ≤ (wide_0 * tall_0))) (f11 : RTQ (wide_0) (tall_0) (barredPoint_0) (costOf_0) (bucket_0) (bucketMany_0) (x1) (x4)) (f12 : (0 ≤ x5) ∧ (((x4 + 1) - x5) ≤ 1000000)) (f13 : x6 = (x4 % 4)) (f14 : x4 ≤ 1000003) (hK_0_140 : ∀ j : Int, 0 ≤ j → j < 24000 → 0 ≤ costOf_0 j ∧ costOf_0 j ≤ 1000000) (hK_0_141 : ∀ j : Int, 0 ≤ j → j < 96040 → 0 ≤ bucket_0 j ∧ bucket_0 j ≤ 23999) (hK_0_142 : ∀ j : Int, 0 ≤ j → j < 4 → 0 ≤ bucketMany_0 j ∧ bucketMany_0 j ≤ 24009) (hK_0_143 : ∀ j : Int, 0 ≤ j → j < 6000 → 0 ≤ barredPoint_0 j ∧ barredPoint_0 j ≤ 1) (kz_0_146 : (-2147483648) ≤ wide_0 ∧ wide_0 ≤ 2147483647) (kz_0_147 : (-2147483648) ≤ tall_0 ∧ tall_0 ≤ 2147483647) (ex2 : gx = x1) (ex3 : 0 ≤ gx ∧ gx ≤ 5999) : (-1) * gx + (1 * x1 + 0) ≤ 0 := by
  first
    | omega
    | (have g := gok_bd ‹GRX _ _›; omega)
    | (have h := bm_pos (b := x8) (m := x10) ‹RTQ _ _ _ _ _ _ _ _› (by omega) (by assumption); omega)
    | (have h := bk_at (b := x6) (k := x7) (s := x14) (q := x13) ‹RTQ _ _ _ _ _ _ _ _› (by omega) (by omega) (by omega) (by omega) (by assumption); omega)
    | (have h := bm_pos (b := x6) (m := x9) ‹RTQ _ _ _ _ _ _ _ _› (by omega) (by assumption); omega)
    | (have g := gok_bd (show GRX wide_0 tall_0 from ‹RTQ _ _ _ _ _ _ _ _›.1); omega)
set_option maxHeartbeats 4000000 in
theorem vc_Mo_spread_18_2 (x1 : Int) (x3 : Int) (x4 : Int) (x5 : Int) (x6 : Int) (x7 : Int) (x9 : Int) (x11 : Int) (x12 : Int) (x13 : Int) (x14 : Int) (x16 : Int) (costOf_0 : Int → Int) (bucket_0 : Int → Int) (bucketMany_0 : Int → Int) (wide_0 : Int) (tall_0 : Int) (barredPoint_0 : Int → Int) (gx : Int) (k1 : 0 ≤ x1 ∧ x1 ≤ 5999) (k3 : 0 ≤ x3 ∧ x3 ≤ 5999) (k4 : 0 ≤ x4 ∧ x4 ≤ 1000000) (k5 : 0 ≤ x5 ∧ x5 ≤ 4) (k6 : 0 ≤ x6 ∧ x6 ≤ 3) (k7 : 0 ≤ x7 ∧ x7 ≤ 23999) (k9 : 1 ≤ x9 ∧ x9 ≤ 24009) (k11 : 24010 ≤ x11 ∧ x11 ≤ 24010) (k12 : 0 ≤ x12 ∧ x12 ≤ 72030) (k13 : 0 ≤ x13 ∧ x13 ≤ 96029) (k14 : 0 ≤ x14 ∧ x14 ≤ 23999) (k16 : 0 ≤ x16 ∧ x16 ≤ 1000000) (d0 : x4 + 0 ≤ x16 ∧ x16 ≤ x4 + 0) (d1 : x7 + 0 ≤ x13 ∧ x13 ≤ x7 + 72030) (d2 : x9 + (-4294967296) ≤ x13 ∧ x13 ≤ x9 + 72029) (d3 : x12 + 0 ≤ x13 ∧ x13 ≤ x12 + 23999) (d4 : x9 + (-4294967296) ≤ x7 ∧ x7 ≤ x9 + (-1)) (d5 : x3 + (-4294967296) ≤ x1 ∧ x1 ≤ x3 + 0) (d6 : x1 + (-4294967296) ≤ x3 ∧ x3 ≤ x1 + 0) (d7 : x4 + (-4294967296) ≤ x5 ∧ x5 ≤ x4 + 1) (f0 : x16 = x4) (h1 : x16 = costOf_0 (x14)) (h3 : x14 = bucket_0 (x13)) (f4 : x13 = x12 + x7) (f5 : x12 = 24010 * x6) (f7 : x7 < x9) (h8 : x9 = bucketMany_0 (x6)) (f10 : (0 ≤ x1) ∧ ((x1 + 1) ≤ (wide_0 * tall_0))) (f11 : RTQ (wide_0) (tall_0) (barredPoint_0) (costOf_0) (bucket_0) (bucketMany_0) (x1) (x4)) (f12 : (0 ≤ x5) ∧ (((x4 + 1) - x5) ≤ 1000000)) (f13 : x6 = (x4 % 4)) (f14 : x4 ≤ 1000003) (hK_0_140 : ∀ j : Int, 0 ≤ j → j < 24000 → 0 ≤ costOf_0 j ∧ costOf_0 j ≤ 1000000) (hK_0_141 : ∀ j : Int, 0 ≤ j → j < 96040 → 0 ≤ bucket_0 j ∧ bucket_0 j ≤ 23999) (hK_0_142 : ∀ j : Int, 0 ≤ j → j < 4 → 0 ≤ bucketMany_0 j ∧ bucketMany_0 j ≤ 24009) (hK_0_143 : ∀ j : Int, 0 ≤ j → j < 6000 → 0 ≤ barredPoint_0 j ∧ barredPoint_0 j ≤ 1) (kz_0_146 : (-2147483648) ≤ wide_0 ∧ wide_0 ≤ 2147483647) (kz_0_147 : (-2147483648) ≤ tall_0 ∧ tall_0 ≤ 2147483647) (ex2 : gx = x1) (ex3 : 0 ≤ gx ∧ gx ≤ 5999) : RTQ (wide_0) (tall_0) (barredPoint_0) (costOf_0) (bucket_0) (bucketMany_0) (gx) (x4) := by
  first
    | assumption
    | (rw [ex2]; assumption)
set_option maxHeartbeats 4000000 in
theorem vc_Mo_spread_18_3 (x1 : Int) (x3 : Int) (x4 : Int) (x5 : Int) (x6 : Int) (x7 : Int) (x9 : Int) (x11 : Int) (x12 : Int) (x13 : Int) (x14 : Int) (x16 : Int) (costOf_0 : Int → Int) (bucket_0 : Int → Int) (bucketMany_0 : Int → Int) (wide_0 : Int) (tall_0 : Int) (barredPoint_0 : Int → Int) (gx : Int) (k1 : 0 ≤ x1 ∧ x1 ≤ 5999) (k3 : 0 ≤ x3 ∧ x3 ≤ 5999) (k4 : 0 ≤ x4 ∧ x4 ≤ 1000000) (k5 : 0 ≤ x5 ∧ x5 ≤ 4) (k6 : 0 ≤ x6 ∧ x6 ≤ 3) (k7 : 0 ≤ x7 ∧ x7 ≤ 23999) (k9 : 1 ≤ x9 ∧ x9 ≤ 24009) (k11 : 24010 ≤ x11 ∧ x11 ≤ 24010) (k12 : 0 ≤ x12 ∧ x12 ≤ 72030) (k13 : 0 ≤ x13 ∧ x13 ≤ 96029) (k14 : 0 ≤ x14 ∧ x14 ≤ 23999) (k16 : 0 ≤ x16 ∧ x16 ≤ 1000000) (d0 : x4 + 0 ≤ x16 ∧ x16 ≤ x4 + 0) (d1 : x7 + 0 ≤ x13 ∧ x13 ≤ x7 + 72030) (d2 : x9 + (-4294967296) ≤ x13 ∧ x13 ≤ x9 + 72029) (d3 : x12 + 0 ≤ x13 ∧ x13 ≤ x12 + 23999) (d4 : x9 + (-4294967296) ≤ x7 ∧ x7 ≤ x9 + (-1)) (d5 : x3 + (-4294967296) ≤ x1 ∧ x1 ≤ x3 + 0) (d6 : x1 + (-4294967296) ≤ x3 ∧ x3 ≤ x1 + 0) (d7 : x4 + (-4294967296) ≤ x5 ∧ x5 ≤ x4 + 1) (f0 : x16 = x4) (h1 : x16 = costOf_0 (x14)) (h3 : x14 = bucket_0 (x13)) (f4 : x13 = x12 + x7) (f5 : x12 = 24010 * x6) (f7 : x7 < x9) (h8 : x9 = bucketMany_0 (x6)) (f10 : (0 ≤ x1) ∧ ((x1 + 1) ≤ (wide_0 * tall_0))) (f11 : RTQ (wide_0) (tall_0) (barredPoint_0) (costOf_0) (bucket_0) (bucketMany_0) (x1) (x4)) (f12 : (0 ≤ x5) ∧ (((x4 + 1) - x5) ≤ 1000000)) (f13 : x6 = (x4 % 4)) (f14 : x4 ≤ 1000003) (hK_0_140 : ∀ j : Int, 0 ≤ j → j < 24000 → 0 ≤ costOf_0 j ∧ costOf_0 j ≤ 1000000) (hK_0_141 : ∀ j : Int, 0 ≤ j → j < 96040 → 0 ≤ bucket_0 j ∧ bucket_0 j ≤ 23999) (hK_0_142 : ∀ j : Int, 0 ≤ j → j < 4 → 0 ≤ bucketMany_0 j ∧ bucketMany_0 j ≤ 24009) (hK_0_143 : ∀ j : Int, 0 ≤ j → j < 6000 → 0 ≤ barredPoint_0 j ∧ barredPoint_0 j ≤ 1) (kz_0_146 : (-2147483648) ≤ wide_0 ∧ wide_0 ≤ 2147483647) (kz_0_147 : (-2147483648) ≤ tall_0 ∧ tall_0 ≤ 2147483647) (ex2 : gx = x1) (ex3 : 0 ≤ gx ∧ gx ≤ 5999) : PIV (costOf_0) (x14) (x4) := by
  exact ⟨by omega, by omega⟩
set_option maxHeartbeats 4000000 in
theorem vc_Mo_spread_18_4 (x1 : Int) (x3 : Int) (x4 : Int) (x5 : Int) (x6 : Int) (x7 : Int) (x9 : Int) (x11 : Int) (x12 : Int) (x13 : Int) (x14 : Int) (x16 : Int) (costOf_0 : Int → Int) (bucket_0 : Int → Int) (bucketMany_0 : Int → Int) (wide_0 : Int) (tall_0 : Int) (barredPoint_0 : Int → Int) (gx : Int) (k1 : 0 ≤ x1 ∧ x1 ≤ 5999) (k3 : 0 ≤ x3 ∧ x3 ≤ 5999) (k4 : 0 ≤ x4 ∧ x4 ≤ 1000000) (k5 : 0 ≤ x5 ∧ x5 ≤ 4) (k6 : 0 ≤ x6 ∧ x6 ≤ 3) (k7 : 0 ≤ x7 ∧ x7 ≤ 23999) (k9 : 1 ≤ x9 ∧ x9 ≤ 24009) (k11 : 24010 ≤ x11 ∧ x11 ≤ 24010) (k12 : 0 ≤ x12 ∧ x12 ≤ 72030) (k13 : 0 ≤ x13 ∧ x13 ≤ 96029) (k14 : 0 ≤ x14 ∧ x14 ≤ 23999) (k16 : 0 ≤ x16 ∧ x16 ≤ 1000000) (d0 : x4 + 0 ≤ x16 ∧ x16 ≤ x4 + 0) (d1 : x7 + 0 ≤ x13 ∧ x13 ≤ x7 + 72030) (d2 : x9 + (-4294967296) ≤ x13 ∧ x13 ≤ x9 + 72029) (d3 : x12 + 0 ≤ x13 ∧ x13 ≤ x12 + 23999) (d4 : x9 + (-4294967296) ≤ x7 ∧ x7 ≤ x9 + (-1)) (d5 : x3 + (-4294967296) ≤ x1 ∧ x1 ≤ x3 + 0) (d6 : x1 + (-4294967296) ≤ x3 ∧ x3 ≤ x1 + 0) (d7 : x4 + (-4294967296) ≤ x5 ∧ x5 ≤ x4 + 1) (f0 : x16 = x4) (h1 : x16 = costOf_0 (x14)) (h3 : x14 = bucket_0 (x13)) (f4 : x13 = x12 + x7) (f5 : x12 = 24010 * x6) (f7 : x7 < x9) (h8 : x9 = bucketMany_0 (x6)) (f10 : (0 ≤ x1) ∧ ((x1 + 1) ≤ (wide_0 * tall_0))) (f11 : RTQ (wide_0) (tall_0) (barredPoint_0) (costOf_0) (bucket_0) (bucketMany_0) (x1) (x4)) (f12 : (0 ≤ x5) ∧ (((x4 + 1) - x5) ≤ 1000000)) (f13 : x6 = (x4 % 4)) (f14 : x4 ≤ 1000003) (hK_0_140 : ∀ j : Int, 0 ≤ j → j < 24000 → 0 ≤ costOf_0 j ∧ costOf_0 j ≤ 1000000) (hK_0_141 : ∀ j : Int, 0 ≤ j → j < 96040 → 0 ≤ bucket_0 j ∧ bucket_0 j ≤ 23999) (hK_0_142 : ∀ j : Int, 0 ≤ j → j < 4 → 0 ≤ bucketMany_0 j ∧ bucketMany_0 j ≤ 24009) (hK_0_143 : ∀ j : Int, 0 ≤ j → j < 6000 → 0 ≤ barredPoint_0 j ∧ barredPoint_0 j ≤ 1) (kz_0_146 : (-2147483648) ≤ wide_0 ∧ wide_0 ≤ 2147483647) (kz_0_147 : (-2147483648) ≤ tall_0 ∧ tall_0 ≤ 2147483647) (ex2 : gx = x1) (ex3 : 0 ≤ gx ∧ gx ≤ 5999) : (0 ≤ x14) ∧ ((x14 + 1) ≤ (4 * (wide_0 * tall_0))) := by
  first
    | omega
    | (have g := gok_bd ‹GRX _ _›; omega)
    | (have h := bm_pos (b := x8) (m := x10) ‹RTQ _ _ _ _ _ _ _ _› (by omega) (by assumption); omega)
    | (have h := bk_at (b := x6) (k := x7) (s := x14) (q := x13) ‹RTQ _ _ _ _ _ _ _ _› (by omega) (by omega) (by omega) (by omega) (by assumption); omega)
    | (have h := bm_pos (b := x6) (m := x9) ‹RTQ _ _ _ _ _ _ _ _› (by omega) (by assumption); omega)
    | (have g := gok_bd (show GRX wide_0 tall_0 from ‹RTQ _ _ _ _ _ _ _ _›.1); omega)
set_option maxHeartbeats 4000000 in
theorem vc_Mo_spread_18_5 (x1 : Int) (x3 : Int) (x4 : Int) (x5 : Int) (x6 : Int) (x7 : Int) (x9 : Int) (x11 : Int) (x12 : Int) (x13 : Int) (x14 : Int) (x16 : Int) (costOf_0 : Int → Int) (bucket_0 : Int → Int) (bucketMany_0 : Int → Int) (wide_0 : Int) (tall_0 : Int) (barredPoint_0 : Int → Int) (gx : Int) (k1 : 0 ≤ x1 ∧ x1 ≤ 5999) (k3 : 0 ≤ x3 ∧ x3 ≤ 5999) (k4 : 0 ≤ x4 ∧ x4 ≤ 1000000) (k5 : 0 ≤ x5 ∧ x5 ≤ 4) (k6 : 0 ≤ x6 ∧ x6 ≤ 3) (k7 : 0 ≤ x7 ∧ x7 ≤ 23999) (k9 : 1 ≤ x9 ∧ x9 ≤ 24009) (k11 : 24010 ≤ x11 ∧ x11 ≤ 24010) (k12 : 0 ≤ x12 ∧ x12 ≤ 72030) (k13 : 0 ≤ x13 ∧ x13 ≤ 96029) (k14 : 0 ≤ x14 ∧ x14 ≤ 23999) (k16 : 0 ≤ x16 ∧ x16 ≤ 1000000) (d0 : x4 + 0 ≤ x16 ∧ x16 ≤ x4 + 0) (d1 : x7 + 0 ≤ x13 ∧ x13 ≤ x7 + 72030) (d2 : x9 + (-4294967296) ≤ x13 ∧ x13 ≤ x9 + 72029) (d3 : x12 + 0 ≤ x13 ∧ x13 ≤ x12 + 23999) (d4 : x9 + (-4294967296) ≤ x7 ∧ x7 ≤ x9 + (-1)) (d5 : x3 + (-4294967296) ≤ x1 ∧ x1 ≤ x3 + 0) (d6 : x1 + (-4294967296) ≤ x3 ∧ x3 ≤ x1 + 0) (d7 : x4 + (-4294967296) ≤ x5 ∧ x5 ≤ x4 + 1) (f0 : x16 = x4) (h1 : x16 = costOf_0 (x14)) (h3 : x14 = bucket_0 (x13)) (f4 : x13 = x12 + x7) (f5 : x12 = 24010 * x6) (f7 : x7 < x9) (h8 : x9 = bucketMany_0 (x6)) (f10 : (0 ≤ x1) ∧ ((x1 + 1) ≤ (wide_0 * tall_0))) (f11 : RTQ (wide_0) (tall_0) (barredPoint_0) (costOf_0) (bucket_0) (bucketMany_0) (x1) (x4)) (f12 : (0 ≤ x5) ∧ (((x4 + 1) - x5) ≤ 1000000)) (f13 : x6 = (x4 % 4)) (f14 : x4 ≤ 1000003) (hK_0_140 : ∀ j : Int, 0 ≤ j → j < 24000 → 0 ≤ costOf_0 j ∧ costOf_0 j ≤ 1000000) (hK_0_141 : ∀ j : Int, 0 ≤ j → j < 96040 → 0 ≤ bucket_0 j ∧ bucket_0 j ≤ 23999) (hK_0_142 : ∀ j : Int, 0 ≤ j → j < 4 → 0 ≤ bucketMany_0 j ∧ bucketMany_0 j ≤ 24009) (hK_0_143 : ∀ j : Int, 0 ≤ j → j < 6000 → 0 ≤ barredPoint_0 j ∧ barredPoint_0 j ≤ 1) (kz_0_146 : (-2147483648) ≤ wide_0 ∧ wide_0 ≤ 2147483647) (kz_0_147 : (-2147483648) ≤ tall_0 ∧ tall_0 ≤ 2147483647) (ex2 : gx = x1) (ex3 : 0 ≤ gx ∧ gx ≤ 5999) : (0 ≤ x4) ∧ (x4 ≤ 999999) := by
  first
    | omega
    | (have g := gok_bd ‹GRX _ _›; omega)
    | (have h := bm_pos (b := x8) (m := x10) ‹RTQ _ _ _ _ _ _ _ _› (by omega) (by assumption); omega)
    | (have h := bk_at (b := x6) (k := x7) (s := x14) (q := x13) ‹RTQ _ _ _ _ _ _ _ _› (by omega) (by omega) (by omega) (by omega) (by assumption); omega)
    | (have h := bm_pos (b := x6) (m := x9) ‹RTQ _ _ _ _ _ _ _ _› (by omega) (by assumption); omega)
    | (have g := gok_bd (show GRX wide_0 tall_0 from ‹RTQ _ _ _ _ _ _ _ _›.1); omega)
set_option maxHeartbeats 4000000 in
theorem vc_Mo_spread_18_6 (x1 : Int) (x3 : Int) (x4 : Int) (x5 : Int) (x6 : Int) (x7 : Int) (x9 : Int) (x11 : Int) (x12 : Int) (x13 : Int) (x14 : Int) (x16 : Int) (costOf_0 : Int → Int) (bucket_0 : Int → Int) (bucketMany_0 : Int → Int) (wide_0 : Int) (tall_0 : Int) (barredPoint_0 : Int → Int) (gx : Int) (k1 : 0 ≤ x1 ∧ x1 ≤ 5999) (k3 : 0 ≤ x3 ∧ x3 ≤ 5999) (k4 : 0 ≤ x4 ∧ x4 ≤ 1000000) (k5 : 0 ≤ x5 ∧ x5 ≤ 4) (k6 : 0 ≤ x6 ∧ x6 ≤ 3) (k7 : 0 ≤ x7 ∧ x7 ≤ 23999) (k9 : 1 ≤ x9 ∧ x9 ≤ 24009) (k11 : 24010 ≤ x11 ∧ x11 ≤ 24010) (k12 : 0 ≤ x12 ∧ x12 ≤ 72030) (k13 : 0 ≤ x13 ∧ x13 ≤ 96029) (k14 : 0 ≤ x14 ∧ x14 ≤ 23999) (k16 : 0 ≤ x16 ∧ x16 ≤ 1000000) (d0 : x4 + 0 ≤ x16 ∧ x16 ≤ x4 + 0) (d1 : x7 + 0 ≤ x13 ∧ x13 ≤ x7 + 72030) (d2 : x9 + (-4294967296) ≤ x13 ∧ x13 ≤ x9 + 72029) (d3 : x12 + 0 ≤ x13 ∧ x13 ≤ x12 + 23999) (d4 : x9 + (-4294967296) ≤ x7 ∧ x7 ≤ x9 + (-1)) (d5 : x3 + (-4294967296) ≤ x1 ∧ x1 ≤ x3 + 0) (d6 : x1 + (-4294967296) ≤ x3 ∧ x3 ≤ x1 + 0) (d7 : x4 + (-4294967296) ≤ x5 ∧ x5 ≤ x4 + 1) (f0 : x16 = x4) (h1 : x16 = costOf_0 (x14)) (h3 : x14 = bucket_0 (x13)) (f4 : x13 = x12 + x7) (f5 : x12 = 24010 * x6) (f7 : x7 < x9) (h8 : x9 = bucketMany_0 (x6)) (f10 : (0 ≤ x1) ∧ ((x1 + 1) ≤ (wide_0 * tall_0))) (f11 : RTQ (wide_0) (tall_0) (barredPoint_0) (costOf_0) (bucket_0) (bucketMany_0) (x1) (x4)) (f12 : (0 ≤ x5) ∧ (((x4 + 1) - x5) ≤ 1000000)) (f13 : x6 = (x4 % 4)) (f14 : x4 ≤ 1000003) (hK_0_140 : ∀ j : Int, 0 ≤ j → j < 24000 → 0 ≤ costOf_0 j ∧ costOf_0 j ≤ 1000000) (hK_0_141 : ∀ j : Int, 0 ≤ j → j < 96040 → 0 ≤ bucket_0 j ∧ bucket_0 j ≤ 23999) (hK_0_142 : ∀ j : Int, 0 ≤ j → j < 4 → 0 ≤ bucketMany_0 j ∧ bucketMany_0 j ≤ 24009) (hK_0_143 : ∀ j : Int, 0 ≤ j → j < 6000 → 0 ≤ barredPoint_0 j ∧ barredPoint_0 j ≤ 1) (kz_0_146 : (-2147483648) ≤ wide_0 ∧ wide_0 ≤ 2147483647) (kz_0_147 : (-2147483648) ≤ tall_0 ∧ tall_0 ≤ 2147483647) (ex2 : gx = x1) (ex3 : 0 ≤ gx ∧ gx ≤ 5999) : gx = x1 := by
  first
    | omega
    | (have g := gok_bd ‹GRX _ _›; omega)
    | (have h := bm_pos (b := x8) (m := x10) ‹RTQ _ _ _ _ _ _ _ _› (by omega) (by assumption); omega)
    | (have h := bk_at (b := x6) (k := x7) (s := x14) (q := x13) ‹RTQ _ _ _ _ _ _ _ _› (by omega) (by omega) (by omega) (by omega) (by assumption); omega)
    | (have h := bm_pos (b := x6) (m := x9) ‹RTQ _ _ _ _ _ _ _ _› (by omega) (by assumption); omega)
    | (have g := gok_bd (show GRX wide_0 tall_0 from ‹RTQ _ _ _ _ _ _ _ _›.1); omega)
def o_Mo_spread_18 : or_T := (163, 17, [(0, (2, 0, 0, [150])), (1, (0, 0, 5999, [])), (2, (2, 0, 0, [150])), (3, (0, 0, 5999, [])), (4, (0, 0, 1000000, [])), (5, (0, 0, 4, [])), (6, (0, 0, 3, [])), (7, (0, 0, 23999, [])), (8, (2, 0, 0, [253])), (9, (0, 1, 24009, [])), (10, (2, 0, 0, [252])), (11, (0, 24010, 24010, [])), (12, (0, 0, 72030, [])), (13, (0, 0, 96029, [])), (14, (0, 0, 23999, [])), (15, (2, 0, 0, [251])), (16, (0, 0, 1000000, []))], [(7, [16, 4], [0]), (10, [16, 15, 14], []), (9, [15, 2], [140]), (10, [14, 10, 13], []), (1, [13, 12, 7], []), (3, [12, 11, 6], []), (9, [10, 2], [141]), (7, [7, 9], [2]), (10, [9, 8, 6], []), (9, [8, 2], [142]), (20, [3, 2], [50, 2, 0, 1146, 1147, 2, 6, 0, 2, 0, 0, 1, 0, 0, 6, 4, 2, 1, 0, 0, 1, 6, 3, 2, 1, 146, 2, 1, 147]), (20, [2, 3, 4], [60, 2, 4, 419, 146, 147, 143, 140, 141, 142]), (20, [5, 4], [50, 0, 0, 2, 6, 0, 2, 0, 0, 1, 0, 0, 10, 5, 6, 4, 2, 1, 1, 0, 1, 1, 0, 0, 1000000]), (20, [6, 4], [50, 0, 0, 1, 2, 1, 0, 9, 2, 1, 1, 0, 4]), (20, [4], [50, 0, 0, 0, 2, 1, 0, 0, 1000003]), (24, [0, 2], []), (24, [1, 3], [])], [], [(0, 0, 5999, [])], [(23, [17, 3], [0, 1, -1]), (23, [17, 3], [0, -1, 1]), (20, [2, 17, 4], [60, 2, 4, 419, 146, 147, 143, 140, 141, 142]), (20, [2, 14, 4], [60, 0, 1, 421, 140]), (20, [14, 2], [50, 2, 0, 1146, 1147, 2, 6, 0, 2, 0, 0, 1, 0, 0, 6, 4, 2, 1, 0, 0, 1, 6, 2, 0, 4, 6, 3, 2, 1, 146, 2, 1, 147]), (20, [4], [50, 0, 0, 2, 6, 0, 2, 0, 0, 1, 0, 0, 2, 1, 0, 0, 999999]), (20, [17, 3], [50, 0, 0, 1, 2, 1, 0, 1, 1])], [], [(16, 4, 0, 0), (13, 7, 0, 72030), (13, 9, -4294967296, 72029), (13, 12, 0, 23999), (7, 9, -4294967296, -1), (1, 3, -4294967296, 0), (3, 1, -4294967296, 0), (5, 4, -4294967296, 1)])
theorem oo_Mo_spread_18 {kA : Nat → ClassId} : or_ok PRD kA GG o_Mo_spread_18 := by
  intro A ta ws vs hD hth hl hk hds hf
  have hl : vs.length = 17 := hl
  have hk : ∀ q ∈ ([(0, (2, 0, 0, [150])), (1, (0, 0, 5999, [])), (2, (2, 0, 0, [150])), (3, (0, 0, 5999, [])), (4, (0, 0, 1000000, [])), (5, (0, 0, 4, [])), (6, (0, 0, 3, [])), (7, (0, 0, 23999, [])), (8, (2, 0, 0, [253])), (9, (0, 1, 24009, [])), (10, (2, 0, 0, [252])), (11, (0, 24010, 24010, [])), (12, (0, 0, 72030, [])), (13, (0, 0, 96029, [])), (14, (0, 0, 23999, [])), (15, (2, 0, 0, [251])), (16, (0, 0, 1000000, []))] : List (Nat × tv_T)), tv_ok ta q.2 (n_v vs q.1) := hk
  obtain ⟨t0, hk⟩ := List.forall_mem_cons.mp hk
  have t0 : tv_ok ta (2, 0, 0, [150]) (n_v vs 0) := t0
  have r0 : ta (v_ad (n_v vs 0)) = some 150 := tv_rg t0
  obtain ⟨t1, hk⟩ := List.forall_mem_cons.mp hk
  have t1 : tv_ok ta (0, 0, 5999, []) (n_v vs 1) := t1
  have k1 : 0 ≤ v_iv (n_v vs 1) ∧ v_iv (n_v vs 1) ≤ 5999 := tv_rng t1
  obtain ⟨t2, hk⟩ := List.forall_mem_cons.mp hk
  have t2 : tv_ok ta (2, 0, 0, [150]) (n_v vs 2) := t2
  have r2 : ta (v_ad (n_v vs 2)) = some 150 := tv_rg t2
  obtain ⟨t3, hk⟩ := List.forall_mem_cons.mp hk
  have t3 : tv_ok ta (0, 0, 5999, []) (n_v vs 3) := t3
  have k3 : 0 ≤ v_iv (n_v vs 3) ∧ v_iv (n_v vs 3) ≤ 5999 := tv_rng t3
  obtain ⟨t4, hk⟩ := List.forall_mem_cons.mp hk
  have t4 : tv_ok ta (0, 0, 1000000, []) (n_v vs 4) := t4
  have k4 : 0 ≤ v_iv (n_v vs 4) ∧ v_iv (n_v vs 4) ≤ 1000000 := tv_rng t4
  obtain ⟨t5, hk⟩ := List.forall_mem_cons.mp hk
  have t5 : tv_ok ta (0, 0, 4, []) (n_v vs 5) := t5
  have k5 : 0 ≤ v_iv (n_v vs 5) ∧ v_iv (n_v vs 5) ≤ 4 := tv_rng t5
  obtain ⟨t6, hk⟩ := List.forall_mem_cons.mp hk
  have t6 : tv_ok ta (0, 0, 3, []) (n_v vs 6) := t6
  have k6 : 0 ≤ v_iv (n_v vs 6) ∧ v_iv (n_v vs 6) ≤ 3 := tv_rng t6
  obtain ⟨t7, hk⟩ := List.forall_mem_cons.mp hk
  have t7 : tv_ok ta (0, 0, 23999, []) (n_v vs 7) := t7
  have k7 : 0 ≤ v_iv (n_v vs 7) ∧ v_iv (n_v vs 7) ≤ 23999 := tv_rng t7
  obtain ⟨t8, hk⟩ := List.forall_mem_cons.mp hk
  have t8 : tv_ok ta (2, 0, 0, [253]) (n_v vs 8) := t8
  have r8 : ta (v_ad (n_v vs 8)) = some 253 := tv_rg t8
  obtain ⟨t9, hk⟩ := List.forall_mem_cons.mp hk
  have t9 : tv_ok ta (0, 1, 24009, []) (n_v vs 9) := t9
  have k9 : 1 ≤ v_iv (n_v vs 9) ∧ v_iv (n_v vs 9) ≤ 24009 := tv_rng t9
  obtain ⟨t10, hk⟩ := List.forall_mem_cons.mp hk
  have t10 : tv_ok ta (2, 0, 0, [252]) (n_v vs 10) := t10
  have r10 : ta (v_ad (n_v vs 10)) = some 252 := tv_rg t10
  obtain ⟨t11, hk⟩ := List.forall_mem_cons.mp hk
  have t11 : tv_ok ta (0, 24010, 24010, []) (n_v vs 11) := t11
  have k11 : 24010 ≤ v_iv (n_v vs 11) ∧ v_iv (n_v vs 11) ≤ 24010 := tv_rng t11
  obtain ⟨t12, hk⟩ := List.forall_mem_cons.mp hk
  have t12 : tv_ok ta (0, 0, 72030, []) (n_v vs 12) := t12
  have k12 : 0 ≤ v_iv (n_v vs 12) ∧ v_iv (n_v vs 12) ≤ 72030 := tv_rng t12
  obtain ⟨t13, hk⟩ := List.forall_mem_cons.mp hk
  have t13 : tv_ok ta (0, 0, 96029, []) (n_v vs 13) := t13
  have k13 : 0 ≤ v_iv (n_v vs 13) ∧ v_iv (n_v vs 13) ≤ 96029 := tv_rng t13
  obtain ⟨t14, hk⟩ := List.forall_mem_cons.mp hk
  have t14 : tv_ok ta (0, 0, 23999, []) (n_v vs 14) := t14
  have k14 : 0 ≤ v_iv (n_v vs 14) ∧ v_iv (n_v vs 14) ≤ 23999 := tv_rng t14
  obtain ⟨t15, hk⟩ := List.forall_mem_cons.mp hk
  have t15 : tv_ok ta (2, 0, 0, [251]) (n_v vs 15) := t15
  have r15 : ta (v_ad (n_v vs 15)) = some 251 := tv_rg t15
  obtain ⟨t16, hk⟩ := List.forall_mem_cons.mp hk
  have t16 : tv_ok ta (0, 0, 1000000, []) (n_v vs 16) := t16
  have k16 : 0 ≤ v_iv (n_v vs 16) ∧ v_iv (n_v vs 16) ≤ 1000000 := tv_rng t16
  have hds : ∀ q ∈ ([(16, 4, 0, 0), (13, 7, 0, 72030), (13, 9, -4294967296, 72029), (13, 12, 0, 23999), (7, 9, -4294967296, -1), (1, 3, -4294967296, 0), (3, 1, -4294967296, 0), (5, 4, -4294967296, 1)] : List of_T), n_iv vs q.2.1 + q.2.2.1 ≤ n_iv vs q.1 ∧ n_iv vs q.1 ≤ n_iv vs q.2.1 + q.2.2.2 := hds
  obtain ⟨d0, hds⟩ := List.forall_mem_cons.mp hds
  have d0 : v_iv (n_v vs 4) + 0 ≤ v_iv (n_v vs 16) ∧ v_iv (n_v vs 16) ≤ v_iv (n_v vs 4) + 0 := d0
  obtain ⟨d1, hds⟩ := List.forall_mem_cons.mp hds
  have d1 : v_iv (n_v vs 7) + 0 ≤ v_iv (n_v vs 13) ∧ v_iv (n_v vs 13) ≤ v_iv (n_v vs 7) + 72030 := d1
  obtain ⟨d2, hds⟩ := List.forall_mem_cons.mp hds
  have d2 : v_iv (n_v vs 9) + (-4294967296) ≤ v_iv (n_v vs 13) ∧ v_iv (n_v vs 13) ≤ v_iv (n_v vs 9) + 72029 := d2
  obtain ⟨d3, hds⟩ := List.forall_mem_cons.mp hds
  have d3 : v_iv (n_v vs 12) + 0 ≤ v_iv (n_v vs 13) ∧ v_iv (n_v vs 13) ≤ v_iv (n_v vs 12) + 23999 := d3
  obtain ⟨d4, hds⟩ := List.forall_mem_cons.mp hds
  have d4 : v_iv (n_v vs 9) + (-4294967296) ≤ v_iv (n_v vs 7) ∧ v_iv (n_v vs 7) ≤ v_iv (n_v vs 9) + (-1) := d4
  obtain ⟨d5, hds⟩ := List.forall_mem_cons.mp hds
  have d5 : v_iv (n_v vs 3) + (-4294967296) ≤ v_iv (n_v vs 1) ∧ v_iv (n_v vs 1) ≤ v_iv (n_v vs 3) + 0 := d5
  obtain ⟨d6, hds⟩ := List.forall_mem_cons.mp hds
  have d6 : v_iv (n_v vs 1) + (-4294967296) ≤ v_iv (n_v vs 3) ∧ v_iv (n_v vs 3) ≤ v_iv (n_v vs 1) + 0 := d6
  obtain ⟨d7, hds⟩ := List.forall_mem_cons.mp hds
  have d7 : v_iv (n_v vs 4) + (-4294967296) ≤ v_iv (n_v vs 5) ∧ v_iv (n_v vs 5) ≤ v_iv (n_v vs 4) + 1 := d7
  have hf : fc_ok PRD [(7, [16, 4], [0]), (10, [16, 15, 14], []), (9, [15, 2], [140]), (10, [14, 10, 13], []), (1, [13, 12, 7], []), (3, [12, 11, 6], []), (9, [10, 2], [141]), (7, [7, 9], [2]), (10, [9, 8, 6], []), (9, [8, 2], [142]), (20, [3, 2], [50, 2, 0, 1146, 1147, 2, 6, 0, 2, 0, 0, 1, 0, 0, 6, 4, 2, 1, 0, 0, 1, 6, 3, 2, 1, 146, 2, 1, 147]), (20, [2, 3, 4], [60, 2, 4, 419, 146, 147, 143, 140, 141, 142]), (20, [5, 4], [50, 0, 0, 2, 6, 0, 2, 0, 0, 1, 0, 0, 10, 5, 6, 4, 2, 1, 1, 0, 1, 1, 0, 0, 1000000]), (20, [6, 4], [50, 0, 0, 1, 2, 1, 0, 9, 2, 1, 1, 0, 4]), (20, [4], [50, 0, 0, 0, 2, 1, 0, 0, 1000003]), (24, [0, 2], []), (24, [1, 3], [])] ta ws vs := hf
  obtain ⟨f0, hf⟩ := fc_un (show (7 : Nat) < 100 from by decide) hf
  have f0 : v_iv (n_v vs 16) = v_iv (n_v vs 4) := f0
  obtain ⟨f1, hf⟩ := fc_un (show (10 : Nat) < 100 from by decide) hf
  have f1 : v_iv (n_v vs 16) = w_el ws (v_ad (n_v vs 15)) (v_iv (n_v vs 14)).toNat := f1
  obtain ⟨f2, hf⟩ := fc_un (show (9 : Nat) < 100 from by decide) hf
  have f2 : n_v vs 15 = w_fd ws (v_ad (n_v vs 2)) 140 := f2
  obtain ⟨f3, hf⟩ := fc_un (show (10 : Nat) < 100 from by decide) hf
  have f3 : v_iv (n_v vs 14) = w_el ws (v_ad (n_v vs 10)) (v_iv (n_v vs 13)).toNat := f3
  obtain ⟨f4, hf⟩ := fc_un (show (1 : Nat) < 100 from by decide) hf
  have f4 : v_iv (n_v vs 13) = v_iv (n_v vs 12) + v_iv (n_v vs 7) := f4
  obtain ⟨f5, hf⟩ := fc_un (show (3 : Nat) < 100 from by decide) hf
  have f5 : v_iv (n_v vs 12) = v_iv (n_v vs 11) * v_iv (n_v vs 6) := f5
  rw [show v_iv (n_v vs 11) = 24010 from by omega] at f5
  obtain ⟨f6, hf⟩ := fc_un (show (9 : Nat) < 100 from by decide) hf
  have f6 : n_v vs 10 = w_fd ws (v_ad (n_v vs 2)) 141 := f6
  obtain ⟨f7, hf⟩ := fc_un (show (7 : Nat) < 100 from by decide) hf
  have f7 : v_iv (n_v vs 7) < v_iv (n_v vs 9) := f7
  obtain ⟨f8, hf⟩ := fc_un (show (10 : Nat) < 100 from by decide) hf
  have f8 : v_iv (n_v vs 9) = w_el ws (v_ad (n_v vs 8)) (v_iv (n_v vs 6)).toNat := f8
  obtain ⟨f9, hf⟩ := fc_un (show (9 : Nat) < 100 from by decide) hf
  have f9 : n_v vs 8 = w_fd ws (v_ad (n_v vs 2)) 142 := f9
  obtain ⟨f10, hf⟩ := fc_un (show (20 : Nat) < 100 from by decide) hf
  have f10 : (0 ≤ v_iv (n_v vs 3)) ∧ ((v_iv (n_v vs 3) + 1) ≤ (w_fi ws (n_v vs 2) 146 * w_fi ws (n_v vs 2) 147)) := f10
  obtain ⟨f11, hf⟩ := fc_un (show (20 : Nat) < 100 from by decide) hf
  have f11 : RTQ (w_fi ws (n_v vs 2) 146) (w_fi ws (n_v vs 2) 147) (w_ei ws (w_ar ws (n_v vs 2) 143)) (w_ei ws (w_ar ws (n_v vs 2) 140)) (w_ei ws (w_ar ws (n_v vs 2) 141)) (w_ei ws (w_ar ws (n_v vs 2) 142)) (v_iv (n_v vs 3)) (v_iv (n_v vs 4)) := f11
  obtain ⟨f12, hf⟩ := fc_un (show (20 : Nat) < 100 from by decide) hf
  have f12 : (0 ≤ v_iv (n_v vs 5)) ∧ (((v_iv (n_v vs 4) + 1) - v_iv (n_v vs 5)) ≤ 1000000) := f12
  obtain ⟨f13, hf⟩ := fc_un (show (20 : Nat) < 100 from by decide) hf
  have f13 : v_iv (n_v vs 6) = (v_iv (n_v vs 4) % 4) := f13
  obtain ⟨f14, hf⟩ := fc_un (show (20 : Nat) < 100 from by decide) hf
  have f14 : v_iv (n_v vs 4) ≤ 1000003 := f14
  obtain ⟨f15, hf⟩ := fc_un (show (24 : Nat) < 100 from by decide) hf
  have f15 : n_v vs 0 = n_v vs 2 := f15
  obtain ⟨f16, hf⟩ := fc_un (show (24 : Nat) < 100 from by decide) hf
  have f16 : n_v vs 1 = n_v vs 3 := f16
  have q2 : n_v vs 2 = n_v vs 0 := f15.symm
  have q3 : n_v vs 3 = n_v vs 1 := f16.symm
  rw [q2] at f2
  rw [q2] at f6
  rw [q2] at f9
  rw [q2] at f10
  rw [q3] at f10
  rw [q2] at f11
  rw [q3] at f11
  have cr_0_140 : ta (w_ar ws (n_v vs 0) 140) = some 251 := tv_rg (th_fd hD hth r0 (g := GG_150) rfl (k := 140) (t := (2, 0, 0, [251])) rfl rfl)
  have cr_0_141 : ta (w_ar ws (n_v vs 0) 141) = some 252 := tv_rg (th_fd hD hth r0 (g := GG_150) rfl (k := 141) (t := (2, 0, 0, [252])) rfl rfl)
  have cr_0_142 : ta (w_ar ws (n_v vs 0) 142) = some 253 := tv_rg (th_fd hD hth r0 (g := GG_150) rfl (k := 142) (t := (2, 0, 0, [253])) rfl rfl)
  have cr_0_143 : ta (w_ar ws (n_v vs 0) 143) = some 254 := tv_rg (th_fd hD hth r0 (g := GG_150) rfl (k := 143) (t := (2, 0, 0, [254])) rfl rfl)
  have ad_15 : v_ad (n_v vs 15) = w_ar ws (n_v vs 0) 140 := congrArg v_ad f2
  have ad_10 : v_ad (n_v vs 10) = w_ar ws (n_v vs 0) 141 := congrArg v_ad f6
  have ad_8 : v_ad (n_v vs 8) = w_ar ws (n_v vs 0) 142 := congrArg v_ad f9
  rw [ad_15] at f1
  have h1 : v_iv (n_v vs 16) = w_ei ws (w_ar ws (n_v vs 0) 140) (v_iv (n_v vs 14)) := f1
  rw [ad_10] at f3
  have h3 : v_iv (n_v vs 14) = w_ei ws (w_ar ws (n_v vs 0) 141) (v_iv (n_v vs 13)) := f3
  rw [ad_8] at f8
  have h8 : v_iv (n_v vs 9) = w_ei ws (w_ar ws (n_v vs 0) 142) (v_iv (n_v vs 6)) := f8
  have hK_0_140 : ∀ j : Int, 0 ≤ j → j < 24000 → 0 ≤ w_ei ws (w_ar ws (n_v vs 0) 140) j ∧ w_ei ws (w_ar ws (n_v vs 0) 140) j ≤ 1000000 := fun j h0 h1 => th_el hD hth cr_0_140 (kd := 0) (n := 24000) (m := 24000) (lo := 0) (hi := 1000000) (rs := []) (L := []) rfl (by decide) (j := j.toNat) (by omega)
  have hK_0_141 : ∀ j : Int, 0 ≤ j → j < 96040 → 0 ≤ w_ei ws (w_ar ws (n_v vs 0) 141) j ∧ w_ei ws (w_ar ws (n_v vs 0) 141) j ≤ 23999 := fun j h0 h1 => th_el hD hth cr_0_141 (kd := 0) (n := 96040) (m := 96040) (lo := 0) (hi := 23999) (rs := []) (L := []) rfl (by decide) (j := j.toNat) (by omega)
  have hK_0_142 : ∀ j : Int, 0 ≤ j → j < 4 → 0 ≤ w_ei ws (w_ar ws (n_v vs 0) 142) j ∧ w_ei ws (w_ar ws (n_v vs 0) 142) j ≤ 24009 := fun j h0 h1 => th_el hD hth cr_0_142 (kd := 0) (n := 4) (m := 4) (lo := 0) (hi := 24009) (rs := []) (L := []) rfl (by decide) (j := j.toNat) (by omega)
  have hK_0_143 : ∀ j : Int, 0 ≤ j → j < 6000 → 0 ≤ w_ei ws (w_ar ws (n_v vs 0) 143) j ∧ w_ei ws (w_ar ws (n_v vs 0) 143) j ≤ 1 := fun j h0 h1 => th_el hD hth cr_0_143 (kd := 2) (n := 6000) (m := 6000) (lo := 0) (hi := 1) (rs := []) (L := []) rfl (by decide) (j := j.toNat) (by omega)
  have kz_0_146 : (-2147483648) ≤ w_fi ws (n_v vs 0) 146 ∧ w_fi ws (n_v vs 0) 146 ≤ 2147483647 := tv_rng (th_fd hD hth r0 (g := GG_150) rfl (k := 146) (t := (0, -2147483648, 2147483647, [])) rfl rfl)
  have kz_0_147 : (-2147483648) ≤ w_fi ws (n_v vs 0) 147 ∧ w_fi ws (n_v vs 0) 147 ≤ 2147483647 := tv_rng (th_fd hD hth r0 (g := GG_150) rfl (k := 147) (t := (0, -2147483648, 2147483647, [])) rfl rfl)
  obtain ⟨x, ex, hx⟩ := iv_ex (ta := ta) (lo := 0) (hi := 5999) (z := v_iv (n_v vs 1)) (by omega) (by omega) (by omega) (by omega)
  have ex2 : v_iv (Value.int x) = v_iv (n_v vs 1) := ex
  have ex3 : 0 ≤ v_iv (Value.int x) ∧ v_iv (Value.int x) ≤ 5999 := tv_rng hx
  have e_2 : n_v (vs ++ [Value.int x]) 2 = n_v vs 2 := n_v_old (by rw [hl]; decide)
  have e_3 : n_v (vs ++ [Value.int x]) 3 = n_v vs 3 := n_v_old (by rw [hl]; decide)
  have e_4 : n_v (vs ++ [Value.int x]) 4 = n_v vs 4 := n_v_old (by rw [hl]; decide)
  have e_14 : n_v (vs ++ [Value.int x]) 14 = n_v vs 14 := n_v_old (by rw [hl]; decide)
  have e_17 : n_v (vs ++ [Value.int x]) 17 = Value.int x := n_v_new hl
  have nf0 : fc_1 PRD (23, [17, 3], [0, 1, -1]) ws (vs ++ [Value.int x]) := by
    refine ⟨fun n hn => ?_, ?_⟩
    · have hn : n ∈ [17, 3] := hn
      rw [List.length_append, hl]
      simp only [List.mem_cons, List.not_mem_nil, or_false] at hn
      show n < 17 + 1; omega
    · show 1 * v_iv (n_v (vs ++ [Value.int x]) 17) + ((-1) * v_iv (n_v (vs ++ [Value.int x]) 3) + 0) ≤ 0
      rw [e_3]
      rw [e_17]
      rw [q3]
      exact vc_Mo_spread_18_0 (v_iv (n_v vs 1)) (v_iv (n_v vs 3)) (v_iv (n_v vs 4)) (v_iv (n_v vs 5)) (v_iv (n_v vs 6)) (v_iv (n_v vs 7)) (v_iv (n_v vs 9)) (v_iv (n_v vs 11)) (v_iv (n_v vs 12)) (v_iv (n_v vs 13)) (v_iv (n_v vs 14)) (v_iv (n_v vs 16)) (w_ei ws (w_ar ws (n_v vs 0) 140)) (w_ei ws (w_ar ws (n_v vs 0) 141)) (w_ei ws (w_ar ws (n_v vs 0) 142)) (w_fi ws (n_v vs 0) 146) (w_fi ws (n_v vs 0) 147) (w_ei ws (w_ar ws (n_v vs 0) 143)) (v_iv (Value.int x)) k1 k3 k4 k5 k6 k7 k9 k11 k12 k13 k14 k16 d0 d1 d2 d3 d4 d5 d6 d7 f0 h1 h3 f4 f5 f7 h8 f10 f11 f12 f13 f14 hK_0_140 hK_0_141 hK_0_142 hK_0_143 kz_0_146 kz_0_147 ex2 ex3
  have nf1 : fc_1 PRD (23, [17, 3], [0, -1, 1]) ws (vs ++ [Value.int x]) := by
    refine ⟨fun n hn => ?_, ?_⟩
    · have hn : n ∈ [17, 3] := hn
      rw [List.length_append, hl]
      simp only [List.mem_cons, List.not_mem_nil, or_false] at hn
      show n < 17 + 1; omega
    · show (-1) * v_iv (n_v (vs ++ [Value.int x]) 17) + (1 * v_iv (n_v (vs ++ [Value.int x]) 3) + 0) ≤ 0
      rw [e_3]
      rw [e_17]
      rw [q3]
      exact vc_Mo_spread_18_1 (v_iv (n_v vs 1)) (v_iv (n_v vs 3)) (v_iv (n_v vs 4)) (v_iv (n_v vs 5)) (v_iv (n_v vs 6)) (v_iv (n_v vs 7)) (v_iv (n_v vs 9)) (v_iv (n_v vs 11)) (v_iv (n_v vs 12)) (v_iv (n_v vs 13)) (v_iv (n_v vs 14)) (v_iv (n_v vs 16)) (w_ei ws (w_ar ws (n_v vs 0) 140)) (w_ei ws (w_ar ws (n_v vs 0) 141)) (w_ei ws (w_ar ws (n_v vs 0) 142)) (w_fi ws (n_v vs 0) 146) (w_fi ws (n_v vs 0) 147) (w_ei ws (w_ar ws (n_v vs 0) 143)) (v_iv (Value.int x)) k1 k3 k4 k5 k6 k7 k9 k11 k12 k13 k14 k16 d0 d1 d2 d3 d4 d5 d6 d7 f0 h1 h3 f4 f5 f7 h8 f10 f11 f12 f13 f14 hK_0_140 hK_0_141 hK_0_142 hK_0_143 kz_0_146 kz_0_147 ex2 ex3
  have nf2 : fc_1 PRD (20, [2, 17, 4], [60, 2, 4, 419, 146, 147, 143, 140, 141, 142]) ws (vs ++ [Value.int x]) := by
    refine ⟨fun n hn => ?_, ?_⟩
    · have hn : n ∈ [2, 17, 4] := hn
      rw [List.length_append, hl]
      simp only [List.mem_cons, List.not_mem_nil, or_false] at hn
      show n < 17 + 1; omega
    · show RTQ (w_fi ws (n_v (vs ++ [Value.int x]) 2) 146) (w_fi ws (n_v (vs ++ [Value.int x]) 2) 147) (w_ei ws (w_ar ws (n_v (vs ++ [Value.int x]) 2) 143)) (w_ei ws (w_ar ws (n_v (vs ++ [Value.int x]) 2) 140)) (w_ei ws (w_ar ws (n_v (vs ++ [Value.int x]) 2) 141)) (w_ei ws (w_ar ws (n_v (vs ++ [Value.int x]) 2) 142)) (v_iv (n_v (vs ++ [Value.int x]) 17)) (v_iv (n_v (vs ++ [Value.int x]) 4))
      rw [e_2]
      rw [e_4]
      rw [e_17]
      rw [q2]
      exact vc_Mo_spread_18_2 (v_iv (n_v vs 1)) (v_iv (n_v vs 3)) (v_iv (n_v vs 4)) (v_iv (n_v vs 5)) (v_iv (n_v vs 6)) (v_iv (n_v vs 7)) (v_iv (n_v vs 9)) (v_iv (n_v vs 11)) (v_iv (n_v vs 12)) (v_iv (n_v vs 13)) (v_iv (n_v vs 14)) (v_iv (n_v vs 16)) (w_ei ws (w_ar ws (n_v vs 0) 140)) (w_ei ws (w_ar ws (n_v vs 0) 141)) (w_ei ws (w_ar ws (n_v vs 0) 142)) (w_fi ws (n_v vs 0) 146) (w_fi ws (n_v vs 0) 147) (w_ei ws (w_ar ws (n_v vs 0) 143)) (v_iv (Value.int x)) k1 k3 k4 k5 k6 k7 k9 k11 k12 k13 k14 k16 d0 d1 d2 d3 d4 d5 d6 d7 f0 h1 h3 f4 f5 f7 h8 f10 f11 f12 f13 f14 hK_0_140 hK_0_141 hK_0_142 hK_0_143 kz_0_146 kz_0_147 ex2 ex3
  have nf3 : fc_1 PRD (20, [2, 14, 4], [60, 0, 1, 421, 140]) ws (vs ++ [Value.int x]) := by
    refine ⟨fun n hn => ?_, ?_⟩
    · have hn : n ∈ [2, 14, 4] := hn
      rw [List.length_append, hl]
      simp only [List.mem_cons, List.not_mem_nil, or_false] at hn
      show n < 17 + 1; omega
    · show PIV (w_ei ws (w_ar ws (n_v (vs ++ [Value.int x]) 2) 140)) (v_iv (n_v (vs ++ [Value.int x]) 14)) (v_iv (n_v (vs ++ [Value.int x]) 4))
      rw [e_2]
      rw [e_4]
      rw [e_14]
      rw [q2]
      exact vc_Mo_spread_18_3 (v_iv (n_v vs 1)) (v_iv (n_v vs 3)) (v_iv (n_v vs 4)) (v_iv (n_v vs 5)) (v_iv (n_v vs 6)) (v_iv (n_v vs 7)) (v_iv (n_v vs 9)) (v_iv (n_v vs 11)) (v_iv (n_v vs 12)) (v_iv (n_v vs 13)) (v_iv (n_v vs 14)) (v_iv (n_v vs 16)) (w_ei ws (w_ar ws (n_v vs 0) 140)) (w_ei ws (w_ar ws (n_v vs 0) 141)) (w_ei ws (w_ar ws (n_v vs 0) 142)) (w_fi ws (n_v vs 0) 146) (w_fi ws (n_v vs 0) 147) (w_ei ws (w_ar ws (n_v vs 0) 143)) (v_iv (Value.int x)) k1 k3 k4 k5 k6 k7 k9 k11 k12 k13 k14 k16 d0 d1 d2 d3 d4 d5 d6 d7 f0 h1 h3 f4 f5 f7 h8 f10 f11 f12 f13 f14 hK_0_140 hK_0_141 hK_0_142 hK_0_143 kz_0_146 kz_0_147 ex2 ex3
  have nf4 : fc_1 PRD (20, [14, 2], [50, 2, 0, 1146, 1147, 2, 6, 0, 2, 0, 0, 1, 0, 0, 6, 4, 2, 1, 0, 0, 1, 6, 2, 0, 4, 6, 3, 2, 1, 146, 2, 1, 147]) ws (vs ++ [Value.int x]) := by
    refine ⟨fun n hn => ?_, ?_⟩
    · have hn : n ∈ [14, 2] := hn
      rw [List.length_append, hl]
      simp only [List.mem_cons, List.not_mem_nil, or_false] at hn
      show n < 17 + 1; omega
    · show (0 ≤ v_iv (n_v (vs ++ [Value.int x]) 14)) ∧ ((v_iv (n_v (vs ++ [Value.int x]) 14) + 1) ≤ (4 * (w_fi ws (n_v (vs ++ [Value.int x]) 2) 146 * w_fi ws (n_v (vs ++ [Value.int x]) 2) 147)))
      rw [e_2]
      rw [e_14]
      rw [q2]
      exact vc_Mo_spread_18_4 (v_iv (n_v vs 1)) (v_iv (n_v vs 3)) (v_iv (n_v vs 4)) (v_iv (n_v vs 5)) (v_iv (n_v vs 6)) (v_iv (n_v vs 7)) (v_iv (n_v vs 9)) (v_iv (n_v vs 11)) (v_iv (n_v vs 12)) (v_iv (n_v vs 13)) (v_iv (n_v vs 14)) (v_iv (n_v vs 16)) (w_ei ws (w_ar ws (n_v vs 0) 140)) (w_ei ws (w_ar ws (n_v vs 0) 141)) (w_ei ws (w_ar ws (n_v vs 0) 142)) (w_fi ws (n_v vs 0) 146) (w_fi ws (n_v vs 0) 147) (w_ei ws (w_ar ws (n_v vs 0) 143)) (v_iv (Value.int x)) k1 k3 k4 k5 k6 k7 k9 k11 k12 k13 k14 k16 d0 d1 d2 d3 d4 d5 d6 d7 f0 h1 h3 f4 f5 f7 h8 f10 f11 f12 f13 f14 hK_0_140 hK_0_141 hK_0_142 hK_0_143 kz_0_146 kz_0_147 ex2 ex3
  have nf5 : fc_1 PRD (20, [4], [50, 0, 0, 2, 6, 0, 2, 0, 0, 1, 0, 0, 2, 1, 0, 0, 999999]) ws (vs ++ [Value.int x]) := by
    refine ⟨fun n hn => ?_, ?_⟩
    · have hn : n ∈ [4] := hn
      rw [List.length_append, hl]
      simp only [List.mem_cons, List.not_mem_nil, or_false] at hn
      show n < 17 + 1; omega
    · show (0 ≤ v_iv (n_v (vs ++ [Value.int x]) 4)) ∧ (v_iv (n_v (vs ++ [Value.int x]) 4) ≤ 999999)
      rw [e_4]
      exact vc_Mo_spread_18_5 (v_iv (n_v vs 1)) (v_iv (n_v vs 3)) (v_iv (n_v vs 4)) (v_iv (n_v vs 5)) (v_iv (n_v vs 6)) (v_iv (n_v vs 7)) (v_iv (n_v vs 9)) (v_iv (n_v vs 11)) (v_iv (n_v vs 12)) (v_iv (n_v vs 13)) (v_iv (n_v vs 14)) (v_iv (n_v vs 16)) (w_ei ws (w_ar ws (n_v vs 0) 140)) (w_ei ws (w_ar ws (n_v vs 0) 141)) (w_ei ws (w_ar ws (n_v vs 0) 142)) (w_fi ws (n_v vs 0) 146) (w_fi ws (n_v vs 0) 147) (w_ei ws (w_ar ws (n_v vs 0) 143)) (v_iv (Value.int x)) k1 k3 k4 k5 k6 k7 k9 k11 k12 k13 k14 k16 d0 d1 d2 d3 d4 d5 d6 d7 f0 h1 h3 f4 f5 f7 h8 f10 f11 f12 f13 f14 hK_0_140 hK_0_141 hK_0_142 hK_0_143 kz_0_146 kz_0_147 ex2 ex3
  have nf6 : fc_1 PRD (20, [17, 3], [50, 0, 0, 1, 2, 1, 0, 1, 1]) ws (vs ++ [Value.int x]) := by
    refine ⟨fun n hn => ?_, ?_⟩
    · have hn : n ∈ [17, 3] := hn
      rw [List.length_append, hl]
      simp only [List.mem_cons, List.not_mem_nil, or_false] at hn
      show n < 17 + 1; omega
    · show v_iv (n_v (vs ++ [Value.int x]) 17) = v_iv (n_v (vs ++ [Value.int x]) 3)
      rw [e_3]
      rw [e_17]
      rw [q3]
      exact vc_Mo_spread_18_6 (v_iv (n_v vs 1)) (v_iv (n_v vs 3)) (v_iv (n_v vs 4)) (v_iv (n_v vs 5)) (v_iv (n_v vs 6)) (v_iv (n_v vs 7)) (v_iv (n_v vs 9)) (v_iv (n_v vs 11)) (v_iv (n_v vs 12)) (v_iv (n_v vs 13)) (v_iv (n_v vs 14)) (v_iv (n_v vs 16)) (w_ei ws (w_ar ws (n_v vs 0) 140)) (w_ei ws (w_ar ws (n_v vs 0) 141)) (w_ei ws (w_ar ws (n_v vs 0) 142)) (w_fi ws (n_v vs 0) 146) (w_fi ws (n_v vs 0) 147) (w_ei ws (w_ar ws (n_v vs 0) 143)) (v_iv (Value.int x)) k1 k3 k4 k5 k6 k7 k9 k11 k12 k13 k14 k16 d0 d1 d2 d3 d4 d5 d6 d7 f0 h1 h3 f4 f5 f7 h8 f10 f11 f12 f13 f14 hK_0_140 hK_0_141 hK_0_142 hK_0_143 kz_0_146 kz_0_147 ex2 ex3
  exact ⟨(fun _ h => (by cases h)), [Value.int x], ag_one hx, List.forall_mem_cons.mpr ⟨⟨show (23 : Nat) < 100 from by decide, nf0⟩, List.forall_mem_cons.mpr ⟨⟨show (23 : Nat) < 100 from by decide, nf1⟩, List.forall_mem_cons.mpr ⟨⟨show (20 : Nat) < 100 from by decide, nf2⟩, List.forall_mem_cons.mpr ⟨⟨show (20 : Nat) < 100 from by decide, nf3⟩, List.forall_mem_cons.mpr ⟨⟨show (20 : Nat) < 100 from by decide, nf4⟩, List.forall_mem_cons.mpr ⟨⟨show (20 : Nat) < 100 from by decide, nf5⟩, List.forall_mem_cons.mpr ⟨⟨show (20 : Nat) < 100 from by decide, nf6⟩, (fun _ h => (by cases h))⟩⟩⟩⟩⟩⟩⟩, (fun _ h => (by cases h))⟩
set_option maxHeartbeats 4000000 in
theorem vc_Mo_spread_19_0 (x1 : Int) (x3 : Int) (x4 : Int) (x5 : Int) (x6 : Int) (x11 : Int) (x12 : Int) (x14 : Int) (x16 : Int) (x17 : Int) (wide_0 : Int) (tall_0 : Int) (barredPoint_0 : Int → Int) (costOf_0 : Int → Int) (bucket_0 : Int → Int) (bucketMany_0 : Int → Int) (k1 : 0 ≤ x1 ∧ x1 ≤ 5999) (k3 : 0 ≤ x3 ∧ x3 ≤ 5999) (k4 : 0 ≤ x4 ∧ x4 ≤ 1000000) (k5 : 0 ≤ x5 ∧ x5 ≤ 4) (k6 : 0 ≤ x6 ∧ x6 ≤ 3) (k11 : 24010 ≤ x11 ∧ x11 ≤ 24010) (k12 : 0 ≤ x12 ∧ x12 ≤ 72030) (k14 : 0 ≤ x14 ∧ x14 ≤ 23999) (k16 : 0 ≤ x16 ∧ x16 ≤ 1000000) (k17 : 0 ≤ x17 ∧ x17 ≤ 5999) (d0 : x4 + 0 ≤ x16 ∧ x16 ≤ x4 + 0) (d1 : x3 + (-4294967296) ≤ x1 ∧ x1 ≤ x3 + 0) (d2 : x1 + (-4294967296) ≤ x3 ∧ x3 ≤ x1 + 0) (d3 : x4 + (-4294967296) ≤ x5 ∧ x5 ≤ x4 + 1) (f0 : 1 * x17 + ((-1) * x1 + 0) ≤ 0) (f1 : (-1) * x17 + (1 * x1 + 0) ≤ 0) (f2 : (0 ≤ x14) ∧ ((x14 + 1) ≤ (4 * (wide_0 * tall_0)))) (f3 : (0 ≤ x4) ∧ (x4 ≤ 999999)) (f4 : x17 = x1) (f5 : (0 ≤ x1) ∧ ((x1 + 1) ≤ (wide_0 * tall_0))) (f6 : (0 ≤ x5) ∧ (((x4 + 1) - x5) ≤ 1000000)) (f7 : x6 = (x4 % 4)) (f8 : x4 ≤ 1000003) (f11 : RTQ (wide_0) (tall_0) (barredPoint_0) (costOf_0) (bucket_0) (bucketMany_0) (x17) (x4)) (f13 : 1 * x17 + ((-1) * x1 + 0) ≤ 0) (f14 : (-1) * x17 + (1 * x1 + 0) ≤ 0) (f15 : x16 = x4) (f16 : x12 = 24010 * x6) (hK_0_140 : ∀ j : Int, 0 ≤ j → j < 24000 → 0 ≤ costOf_0 j ∧ costOf_0 j ≤ 1000000) (hK_0_141 : ∀ j : Int, 0 ≤ j → j < 96040 → 0 ≤ bucket_0 j ∧ bucket_0 j ≤ 23999) (hK_0_142 : ∀ j : Int, 0 ≤ j → j < 4 → 0 ≤ bucketMany_0 j ∧ bucketMany_0 j ≤ 24009) (hK_0_143 : ∀ j : Int, 0 ≤ j → j < 6000 → 0 ≤ barredPoint_0 j ∧ barredPoint_0 j ≤ 1) (kz_0_146 : (-2147483648) ≤ wide_0 ∧ wide_0 ≤ 2147483647) (kz_0_147 : (-2147483648) ≤ tall_0 ∧ tall_0 ≤ 2147483647) : RTQ (wide_0) (tall_0) (barredPoint_0) (costOf_0) (bucket_0) (bucketMany_0) (x1) (x4) := by
  first
    | assumption
    | (rw [show x1 = x17 by omega]; assumption)
    | (rw [show x3 = x17 by omega]; assumption)
def o_Mo_spread_19 : or_T := (120, 19, [(0, (2, 0, 0, [150])), (1, (0, 0, 5999, [])), (2, (2, 0, 0, [150])), (3, (0, 0, 5999, [])), (4, (0, 0, 1000000, [])), (5, (0, 0, 4, [])), (6, (0, 0, 3, [])), (11, (0, 24010, 24010, [])), (12, (0, 0, 72030, [])), (14, (0, 0, 23999, [])), (16, (0, 0, 1000000, [])), (17, (0, 0, 5999, []))], [(23, [17, 3], [0, 1, -1]), (23, [17, 3], [0, -1, 1]), (20, [14, 2], [50, 2, 0, 1146, 1147, 2, 6, 0, 2, 0, 0, 1, 0, 0, 6, 4, 2, 1, 0, 0, 1, 6, 2, 0, 4, 6, 3, 2, 1, 146, 2, 1, 147]), (20, [4], [50, 0, 0, 2, 6, 0, 2, 0, 0, 1, 0, 0, 2, 1, 0, 0, 999999]), (20, [17, 3], [50, 0, 0, 1, 2, 1, 0, 1, 1]), (20, [3, 2], [50, 2, 0, 1146, 1147, 2, 6, 0, 2, 0, 0, 1, 0, 0, 6, 4, 2, 1, 0, 0, 1, 6, 3, 2, 1, 146, 2, 1, 147]), (20, [5, 4], [50, 0, 0, 2, 6, 0, 2, 0, 0, 1, 0, 0, 10, 5, 6, 4, 2, 1, 1, 0, 1, 1, 0, 0, 1000000]), (20, [6, 4], [50, 0, 0, 1, 2, 1, 0, 9, 2, 1, 1, 0, 4]), (20, [4], [50, 0, 0, 0, 2, 1, 0, 0, 1000003]), (24, [0, 2], []), (24, [1, 3], []), (20, [2, 17, 4], [60, 2, 4, 419, 146, 147, 143, 140, 141, 142]), (102, [17], [25329519520662917748906152970650479842902809145608873383631346501730997108736]), (23, [17, 3], [0, 1, -1]), (23, [17, 3], [0, -1, 1]), (7, [16, 4], [0]), (3, [12, 11, 6], [])], [], [], [(20, [2, 3, 4], [60, 2, 4, 419, 146, 147, 143, 140, 141, 142])], [], [(16, 4, 0, 0), (1, 3, -4294967296, 0), (3, 1, -4294967296, 0), (5, 4, -4294967296, 1)])
theorem oo_Mo_spread_19 {kA : Nat → ClassId} : or_ok PRD kA GG o_Mo_spread_19 := by
  intro A ta ws vs hD hth hl hk hds hf
  have hl : vs.length = 19 := hl
  have hk : ∀ q ∈ ([(0, (2, 0, 0, [150])), (1, (0, 0, 5999, [])), (2, (2, 0, 0, [150])), (3, (0, 0, 5999, [])), (4, (0, 0, 1000000, [])), (5, (0, 0, 4, [])), (6, (0, 0, 3, [])), (11, (0, 24010, 24010, [])), (12, (0, 0, 72030, [])), (14, (0, 0, 23999, [])), (16, (0, 0, 1000000, [])), (17, (0, 0, 5999, []))] : List (Nat × tv_T)), tv_ok ta q.2 (n_v vs q.1) := hk
  obtain ⟨t0, hk⟩ := List.forall_mem_cons.mp hk
  have t0 : tv_ok ta (2, 0, 0, [150]) (n_v vs 0) := t0
  have r0 : ta (v_ad (n_v vs 0)) = some 150 := tv_rg t0
  obtain ⟨t1, hk⟩ := List.forall_mem_cons.mp hk
  have t1 : tv_ok ta (0, 0, 5999, []) (n_v vs 1) := t1
  have k1 : 0 ≤ v_iv (n_v vs 1) ∧ v_iv (n_v vs 1) ≤ 5999 := tv_rng t1
  obtain ⟨t2, hk⟩ := List.forall_mem_cons.mp hk
  have t2 : tv_ok ta (2, 0, 0, [150]) (n_v vs 2) := t2
  have r2 : ta (v_ad (n_v vs 2)) = some 150 := tv_rg t2
  obtain ⟨t3, hk⟩ := List.forall_mem_cons.mp hk
  have t3 : tv_ok ta (0, 0, 5999, []) (n_v vs 3) := t3
  have k3 : 0 ≤ v_iv (n_v vs 3) ∧ v_iv (n_v vs 3) ≤ 5999 := tv_rng t3
  obtain ⟨t4, hk⟩ := List.forall_mem_cons.mp hk
  have t4 : tv_ok ta (0, 0, 1000000, []) (n_v vs 4) := t4
  have k4 : 0 ≤ v_iv (n_v vs 4) ∧ v_iv (n_v vs 4) ≤ 1000000 := tv_rng t4
  obtain ⟨t5, hk⟩ := List.forall_mem_cons.mp hk
  have t5 : tv_ok ta (0, 0, 4, []) (n_v vs 5) := t5
  have k5 : 0 ≤ v_iv (n_v vs 5) ∧ v_iv (n_v vs 5) ≤ 4 := tv_rng t5
  obtain ⟨t6, hk⟩ := List.forall_mem_cons.mp hk
  have t6 : tv_ok ta (0, 0, 3, []) (n_v vs 6) := t6
  have k6 : 0 ≤ v_iv (n_v vs 6) ∧ v_iv (n_v vs 6) ≤ 3 := tv_rng t6
  obtain ⟨t11, hk⟩ := List.forall_mem_cons.mp hk
  have t11 : tv_ok ta (0, 24010, 24010, []) (n_v vs 11) := t11
  have k11 : 24010 ≤ v_iv (n_v vs 11) ∧ v_iv (n_v vs 11) ≤ 24010 := tv_rng t11
  obtain ⟨t12, hk⟩ := List.forall_mem_cons.mp hk
  have t12 : tv_ok ta (0, 0, 72030, []) (n_v vs 12) := t12
  have k12 : 0 ≤ v_iv (n_v vs 12) ∧ v_iv (n_v vs 12) ≤ 72030 := tv_rng t12
  obtain ⟨t14, hk⟩ := List.forall_mem_cons.mp hk
  have t14 : tv_ok ta (0, 0, 23999, []) (n_v vs 14) := t14
  have k14 : 0 ≤ v_iv (n_v vs 14) ∧ v_iv (n_v vs 14) ≤ 23999 := tv_rng t14
  obtain ⟨t16, hk⟩ := List.forall_mem_cons.mp hk
  have t16 : tv_ok ta (0, 0, 1000000, []) (n_v vs 16) := t16
  have k16 : 0 ≤ v_iv (n_v vs 16) ∧ v_iv (n_v vs 16) ≤ 1000000 := tv_rng t16
  obtain ⟨t17, hk⟩ := List.forall_mem_cons.mp hk
  have t17 : tv_ok ta (0, 0, 5999, []) (n_v vs 17) := t17
  have k17 : 0 ≤ v_iv (n_v vs 17) ∧ v_iv (n_v vs 17) ≤ 5999 := tv_rng t17
  have hds : ∀ q ∈ ([(16, 4, 0, 0), (1, 3, -4294967296, 0), (3, 1, -4294967296, 0), (5, 4, -4294967296, 1)] : List of_T), n_iv vs q.2.1 + q.2.2.1 ≤ n_iv vs q.1 ∧ n_iv vs q.1 ≤ n_iv vs q.2.1 + q.2.2.2 := hds
  obtain ⟨d0, hds⟩ := List.forall_mem_cons.mp hds
  have d0 : v_iv (n_v vs 4) + 0 ≤ v_iv (n_v vs 16) ∧ v_iv (n_v vs 16) ≤ v_iv (n_v vs 4) + 0 := d0
  obtain ⟨d1, hds⟩ := List.forall_mem_cons.mp hds
  have d1 : v_iv (n_v vs 3) + (-4294967296) ≤ v_iv (n_v vs 1) ∧ v_iv (n_v vs 1) ≤ v_iv (n_v vs 3) + 0 := d1
  obtain ⟨d2, hds⟩ := List.forall_mem_cons.mp hds
  have d2 : v_iv (n_v vs 1) + (-4294967296) ≤ v_iv (n_v vs 3) ∧ v_iv (n_v vs 3) ≤ v_iv (n_v vs 1) + 0 := d2
  obtain ⟨d3, hds⟩ := List.forall_mem_cons.mp hds
  have d3 : v_iv (n_v vs 4) + (-4294967296) ≤ v_iv (n_v vs 5) ∧ v_iv (n_v vs 5) ≤ v_iv (n_v vs 4) + 1 := d3
  have hf : fc_ok PRD [(23, [17, 3], [0, 1, -1]), (23, [17, 3], [0, -1, 1]), (20, [14, 2], [50, 2, 0, 1146, 1147, 2, 6, 0, 2, 0, 0, 1, 0, 0, 6, 4, 2, 1, 0, 0, 1, 6, 2, 0, 4, 6, 3, 2, 1, 146, 2, 1, 147]), (20, [4], [50, 0, 0, 2, 6, 0, 2, 0, 0, 1, 0, 0, 2, 1, 0, 0, 999999]), (20, [17, 3], [50, 0, 0, 1, 2, 1, 0, 1, 1]), (20, [3, 2], [50, 2, 0, 1146, 1147, 2, 6, 0, 2, 0, 0, 1, 0, 0, 6, 4, 2, 1, 0, 0, 1, 6, 3, 2, 1, 146, 2, 1, 147]), (20, [5, 4], [50, 0, 0, 2, 6, 0, 2, 0, 0, 1, 0, 0, 10, 5, 6, 4, 2, 1, 1, 0, 1, 1, 0, 0, 1000000]), (20, [6, 4], [50, 0, 0, 1, 2, 1, 0, 9, 2, 1, 1, 0, 4]), (20, [4], [50, 0, 0, 0, 2, 1, 0, 0, 1000003]), (24, [0, 2], []), (24, [1, 3], []), (20, [2, 17, 4], [60, 2, 4, 419, 146, 147, 143, 140, 141, 142]), (102, [17], [25329519520662917748906152970650479842902809145608873383631346501730997108736]), (23, [17, 3], [0, 1, -1]), (23, [17, 3], [0, -1, 1]), (7, [16, 4], [0]), (3, [12, 11, 6], [])] ta ws vs := hf
  obtain ⟨f0, hf⟩ := fc_un (show (23 : Nat) < 100 from by decide) hf
  have f0 : 1 * v_iv (n_v vs 17) + ((-1) * v_iv (n_v vs 3) + 0) ≤ 0 := f0
  obtain ⟨f1, hf⟩ := fc_un (show (23 : Nat) < 100 from by decide) hf
  have f1 : (-1) * v_iv (n_v vs 17) + (1 * v_iv (n_v vs 3) + 0) ≤ 0 := f1
  obtain ⟨f2, hf⟩ := fc_un (show (20 : Nat) < 100 from by decide) hf
  have f2 : (0 ≤ v_iv (n_v vs 14)) ∧ ((v_iv (n_v vs 14) + 1) ≤ (4 * (w_fi ws (n_v vs 2) 146 * w_fi ws (n_v vs 2) 147))) := f2
  obtain ⟨f3, hf⟩ := fc_un (show (20 : Nat) < 100 from by decide) hf
  have f3 : (0 ≤ v_iv (n_v vs 4)) ∧ (v_iv (n_v vs 4) ≤ 999999) := f3
  obtain ⟨f4, hf⟩ := fc_un (show (20 : Nat) < 100 from by decide) hf
  have f4 : v_iv (n_v vs 17) = v_iv (n_v vs 3) := f4
  obtain ⟨f5, hf⟩ := fc_un (show (20 : Nat) < 100 from by decide) hf
  have f5 : (0 ≤ v_iv (n_v vs 3)) ∧ ((v_iv (n_v vs 3) + 1) ≤ (w_fi ws (n_v vs 2) 146 * w_fi ws (n_v vs 2) 147)) := f5
  obtain ⟨f6, hf⟩ := fc_un (show (20 : Nat) < 100 from by decide) hf
  have f6 : (0 ≤ v_iv (n_v vs 5)) ∧ (((v_iv (n_v vs 4) + 1) - v_iv (n_v vs 5)) ≤ 1000000) := f6
  obtain ⟨f7, hf⟩ := fc_un (show (20 : Nat) < 100 from by decide) hf
  have f7 : v_iv (n_v vs 6) = (v_iv (n_v vs 4) % 4) := f7
  obtain ⟨f8, hf⟩ := fc_un (show (20 : Nat) < 100 from by decide) hf
  have f8 : v_iv (n_v vs 4) ≤ 1000003 := f8
  obtain ⟨f9, hf⟩ := fc_un (show (24 : Nat) < 100 from by decide) hf
  have f9 : n_v vs 0 = n_v vs 2 := f9
  obtain ⟨f10, hf⟩ := fc_un (show (24 : Nat) < 100 from by decide) hf
  have f10 : n_v vs 1 = n_v vs 3 := f10
  obtain ⟨f11, hf⟩ := fc_un (show (20 : Nat) < 100 from by decide) hf
  have f11 : RTQ (w_fi ws (n_v vs 2) 146) (w_fi ws (n_v vs 2) 147) (w_ei ws (w_ar ws (n_v vs 2) 143)) (w_ei ws (w_ar ws (n_v vs 2) 140)) (w_ei ws (w_ar ws (n_v vs 2) 141)) (w_ei ws (w_ar ws (n_v vs 2) 142)) (v_iv (n_v vs 17)) (v_iv (n_v vs 4)) := f11
  obtain ⟨ta1, w1, le1, ⟨_, s1⟩, hf⟩ := fc_us (show ¬ (102 : Nat) < 100 from by decide) hf
  obtain ⟨f13, hf⟩ := fc_un (show (23 : Nat) < 100 from by decide) hf
  have f13 : 1 * v_iv (n_v vs 17) + ((-1) * v_iv (n_v vs 3) + 0) ≤ 0 := f13
  obtain ⟨f14, hf⟩ := fc_un (show (23 : Nat) < 100 from by decide) hf
  have f14 : (-1) * v_iv (n_v vs 17) + (1 * v_iv (n_v vs 3) + 0) ≤ 0 := f14
  obtain ⟨f15, hf⟩ := fc_un (show (7 : Nat) < 100 from by decide) hf
  have f15 : v_iv (n_v vs 16) = v_iv (n_v vs 4) := f15
  obtain ⟨f16, hf⟩ := fc_un (show (3 : Nat) < 100 from by decide) hf
  have f16 : v_iv (n_v vs 12) = v_iv (n_v vs 11) * v_iv (n_v vs 6) := f16
  rw [show v_iv (n_v vs 11) = 24010 from by omega] at f16
  have q2 : n_v vs 2 = n_v vs 0 := f9.symm
  have q3 : n_v vs 3 = n_v vs 1 := f10.symm
  rw [q3] at f0
  rw [q3] at f1
  rw [q2] at f2
  rw [q3] at f4
  rw [q2] at f5
  rw [q3] at f5
  rw [q2] at f11
  rw [q3] at f13
  rw [q3] at f14
  have cr_0_140 : ta (w_ar ws (n_v vs 0) 140) = some 251 := tv_rg (th_fd hD hth r0 (g := GG_150) rfl (k := 140) (t := (2, 0, 0, [251])) rfl rfl)
  have cr_0_141 : ta (w_ar ws (n_v vs 0) 141) = some 252 := tv_rg (th_fd hD hth r0 (g := GG_150) rfl (k := 141) (t := (2, 0, 0, [252])) rfl rfl)
  have cr_0_142 : ta (w_ar ws (n_v vs 0) 142) = some 253 := tv_rg (th_fd hD hth r0 (g := GG_150) rfl (k := 142) (t := (2, 0, 0, [253])) rfl rfl)
  have cr_0_143 : ta (w_ar ws (n_v vs 0) 143) = some 254 := tv_rg (th_fd hD hth r0 (g := GG_150) rfl (k := 143) (t := (2, 0, 0, [254])) rfl rfl)
  have hK_0_140 : ∀ j : Int, 0 ≤ j → j < 24000 → 0 ≤ w_ei ws (w_ar ws (n_v vs 0) 140) j ∧ w_ei ws (w_ar ws (n_v vs 0) 140) j ≤ 1000000 := fun j h0 h1 => th_el hD hth cr_0_140 (kd := 0) (n := 24000) (m := 24000) (lo := 0) (hi := 1000000) (rs := []) (L := []) rfl (by decide) (j := j.toNat) (by omega)
  have hK_0_141 : ∀ j : Int, 0 ≤ j → j < 96040 → 0 ≤ w_ei ws (w_ar ws (n_v vs 0) 141) j ∧ w_ei ws (w_ar ws (n_v vs 0) 141) j ≤ 23999 := fun j h0 h1 => th_el hD hth cr_0_141 (kd := 0) (n := 96040) (m := 96040) (lo := 0) (hi := 23999) (rs := []) (L := []) rfl (by decide) (j := j.toNat) (by omega)
  have hK_0_142 : ∀ j : Int, 0 ≤ j → j < 4 → 0 ≤ w_ei ws (w_ar ws (n_v vs 0) 142) j ∧ w_ei ws (w_ar ws (n_v vs 0) 142) j ≤ 24009 := fun j h0 h1 => th_el hD hth cr_0_142 (kd := 0) (n := 4) (m := 4) (lo := 0) (hi := 24009) (rs := []) (L := []) rfl (by decide) (j := j.toNat) (by omega)
  have hK_0_143 : ∀ j : Int, 0 ≤ j → j < 6000 → 0 ≤ w_ei ws (w_ar ws (n_v vs 0) 143) j ∧ w_ei ws (w_ar ws (n_v vs 0) 143) j ≤ 1 := fun j h0 h1 => th_el hD hth cr_0_143 (kd := 2) (n := 6000) (m := 6000) (lo := 0) (hi := 1) (rs := []) (L := []) rfl (by decide) (j := j.toNat) (by omega)
  have kz_0_146 : (-2147483648) ≤ w_fi ws (n_v vs 0) 146 ∧ w_fi ws (n_v vs 0) 146 ≤ 2147483647 := tv_rng (th_fd hD hth r0 (g := GG_150) rfl (k := 146) (t := (0, -2147483648, 2147483647, [])) rfl rfl)
  have kz_0_147 : (-2147483648) ≤ w_fi ws (n_v vs 0) 147 ∧ w_fi ws (n_v vs 0) 147 ≤ 2147483647 := tv_rng (th_fd hD hth r0 (g := GG_150) rfl (k := 147) (t := (0, -2147483648, 2147483647, [])) rfl rfl)
  have nf0 : fc_1 PRD (20, [2, 3, 4], [60, 2, 4, 419, 146, 147, 143, 140, 141, 142]) ws (vs) := by
    refine ⟨fun n hn => ?_, ?_⟩
    · have hn : n ∈ [2, 3, 4] := hn
      rw [hl]
      simp only [List.mem_cons, List.not_mem_nil, or_false] at hn
      show n < 19; omega
    · show RTQ (w_fi ws (n_v vs 2) 146) (w_fi ws (n_v vs 2) 147) (w_ei ws (w_ar ws (n_v vs 2) 143)) (w_ei ws (w_ar ws (n_v vs 2) 140)) (w_ei ws (w_ar ws (n_v vs 2) 141)) (w_ei ws (w_ar ws (n_v vs 2) 142)) (v_iv (n_v vs 3)) (v_iv (n_v vs 4))
      rw [q2, q3]
      exact vc_Mo_spread_19_0 (v_iv (n_v vs 1)) (v_iv (n_v vs 3)) (v_iv (n_v vs 4)) (v_iv (n_v vs 5)) (v_iv (n_v vs 6)) (v_iv (n_v vs 11)) (v_iv (n_v vs 12)) (v_iv (n_v vs 14)) (v_iv (n_v vs 16)) (v_iv (n_v vs 17)) (w_fi ws (n_v vs 0) 146) (w_fi ws (n_v vs 0) 147) (w_ei ws (w_ar ws (n_v vs 0) 143)) (w_ei ws (w_ar ws (n_v vs 0) 140)) (w_ei ws (w_ar ws (n_v vs 0) 141)) (w_ei ws (w_ar ws (n_v vs 0) 142)) k1 k3 k4 k5 k6 k11 k12 k14 k16 k17 d0 d1 d2 d3 f0 f1 f2 f3 f4 f5 f6 f7 f8 f11 f13 f14 f15 f16 hK_0_140 hK_0_141 hK_0_142 hK_0_143 kz_0_146 kz_0_147
  refine ⟨(fun _ h => (by cases h)), [], trivial, ?_, (fun _ h => (by cases h))⟩
  rw [List.append_nil]
  exact List.forall_mem_cons.mpr ⟨⟨show (20 : Nat) < 100 from by decide, nf0⟩, (fun _ h => (by cases h))⟩
def n_Mo_spread_an : List an_T := [(2, [(0, (2, 0, 0, [150])), (1, (0, 0, 5999, [])), (2, (0, 0, 24000, []))], [], (0, 0), [(0, 0, 99998), (1, 4, 24000), (0, 0, 100000), (0, 0, 0), (0, 0, 0)], [(1, 3, -1000000000000, 0), (1, 4, -1000000000000, 5999), (3, 1, -1000000000000, 0), (3, 4, -1000000000000, 5999)], [], [(2, 0, 0, [150]), (0, 0, 5999, [])], 0, [], [(20, [2], [60, 2, 0, 418, 146, 147]), (20, [3, 2], [50, 2, 0, 1146, 1147, 2, 6, 0, 2, 0, 0, 1, 0, 0, 6, 4, 2, 1, 0, 0, 1, 6, 3, 2, 1, 146, 2, 1, 147]), (20, [2, 4], [60, 0, 1, 425, 140]), (24, [0, 2], []), (24, [1, 3], [])]), (34, [(0, (2, 0, 0, [150])), (1, (0, 0, 5999, [])), (2, (0, 0, 4, []))], [], (0, 0), [(0, 0, 99966), (1, 4, 4), (0, 0, 100000), (0, 0, 0), (0, 0, 0)], [(1, 3, -1000000000000, 0), (1, 4, -1000000000000, 5999), (3, 1, -1000000000000, 0), (3, 4, -1000000000000, 5999)], [], [(2, 0, 0, [150]), (0, 0, 5999, [])], 0, [], [(20, [2], [60, 2, 0, 418, 146, 147]), (20, [3, 2], [50, 2, 0, 1146, 1147, 2, 6, 0, 2, 0, 0, 1, 0, 0, 6, 4, 2, 1, 0, 0, 1, 6, 3, 2, 1, 146, 2, 1, 147]), (20, [2], [60, 2, 1, 426, 146, 147, 140]), (20, [2, 4], [60, 0, 1, 427, 142]), (24, [0, 2], []), (24, [1, 3], [])]), (64, [(0, (2, 0, 0, [150])), (1, (0, 0, 5999, [])), (2, (0, 0, 4, []))], [], (0, 0), [(0, 0, 99936), (1, 4, 4), (0, 0, 100000), (0, 0, 0), (0, 0, 0)], [(1, 3, -1000000000000, 0), (1, 4, -1000000000000, 5999), (3, 1, -1000000000000, 0), (3, 4, -1000000000000, 5999)], [], [(2, 0, 0, [150]), (0, 0, 5999, [])], 0, [], [(20, [3, 2], [50, 2, 0, 1146, 1147, 2, 6, 0, 2, 0, 0, 1, 0, 0, 6, 4, 2, 1, 0, 0, 1, 6, 3, 2, 1, 146, 2, 1, 147]), (20, [2, 3], [60, 2, 4, 420, 146, 147, 143, 140, 141, 142]), (20, [2, 3], [50, 0, 1, 143, 1, 5, 3, 0, 143, 1, 1, 0, 0]), (24, [0, 2], []), (24, [1, 3], [])]), (89, [(0, (2, 0, 0, [150])), (1, (0, 0, 5999, [])), (2, (0, 0, 1000004, [])), (3, (0, 0, 4, []))], [], (0, 0), [(0, 0, 99911), (1, 4, 1000004), (0, 0, 100000), (0, 0, 0), (0, 0, 0)], [(1, 3, -1000000000000, 0), (1, 4, -1000000000000, 5999), (1, 5, -1000000000000, 5999), (3, 1, -1000000000000, 0), (3, 4, -1000000000000, 5999), (3, 5, -1000000000000, 5999), (5, 4, -1000000000000, 0)], [], [(2, 0, 0, [150]), (0, 0, 5999, [])], 0, [], [(20, [3, 2], [50, 2, 0, 1146, 1147, 2, 6, 0, 2, 0, 0, 1, 0, 0, 6, 4, 2, 1, 0, 0, 1, 6, 3, 2, 1, 146, 2, 1, 147]), (20, [2, 3, 4], [60, 2, 4, 419, 146, 147, 143, 140, 141, 142]), (20, [5, 4], [50, 0, 0, 2, 6, 0, 2, 0, 0, 1, 0, 0, 6, 5, 2, 1, 1, 1, 0, 0, 1000000]), (24, [0, 2], []), (24, [1, 3], [])]), (120, [(0, (2, 0, 0, [150])), (1, (0, 0, 5999, [])), (2, (0, 0, 1000004, [])), (3, (0, 0, 4, [])), (4, (0, 0, 3, [])), (5, (0, 0, 24000, []))], [], (0, 0), [(0, 0, 99911), (1, 4, 1000004), (0, 0, 99880), (1, 7, 24000), (0, 0, 100000)], [(1, 3, -1000000000000, 0), (1, 4, -1000000000000, 5999), (1, 5, -1000000000000, 5999), (1, 6, -1000000000000, 5999), (1, 7, -1000000000000, 5999), (3, 1, -1000000000000, 0), (3, 4, -1000000000000, 5999), (3, 5, -1000000000000, 5999), (3, 6, -1000000000000, 5999), (3, 7, -1000000000000, 5999), (5, 4, -1000000000000, 1)], [], [(2, 0, 0, [150]), (0, 0, 5999, [])], 0, [], [(20, [3, 2], [50, 2, 0, 1146, 1147, 2, 6, 0, 2, 0, 0, 1, 0, 0, 6, 4, 2, 1, 0, 0, 1, 6, 3, 2, 1, 146, 2, 1, 147]), (20, [2, 3, 4], [60, 2, 4, 419, 146, 147, 143, 140, 141, 142]), (20, [5, 4], [50, 0, 0, 2, 6, 0, 2, 0, 0, 1, 0, 0, 10, 5, 6, 4, 2, 1, 1, 0, 1, 1, 0, 0, 1000000]), (20, [6, 4], [50, 0, 0, 1, 2, 1, 0, 9, 2, 1, 1, 0, 4]), (20, [4], [50, 0, 0, 0, 2, 1, 0, 0, 1000003]), (24, [0, 2], []), (24, [1, 3], [])])]
def t_Mo_spread_ct : ct_L := [(1, 1073, e_Mo_backFrom), (232, 1070, e_Mo_reached_at_gi)]
set_option maxRecDepth 100000 in
theorem c_Mo_spread {l : Launch} {D : va_G} {kA : Nat → ClassId} (h_Mo_backFrom : ct_ok PRD l D kA GG y_Mo_backFrom z_Mo_backFrom e_Mo_backFrom) (h_Mo_reached_at_gi : ct_ok PRD l D kA GG y_Mo_reached_at_gi z_Mo_reached_at_gi e_Mo_reached_at_gi) : ct_ok PRD l D kA GG y_Mo_spread z_Mo_spread e_Mo_spread := chk_all_ok (FT := [(317, 13, 140), (321, 13, 141), (324, 13, 142), (327, 13, 143), (1043, 13, 146), (1046, 13, 147)]) (PT := []) (CT := t_Mo_spread_ct) (KT := [(1, 546, .int (1000000), (0, 1000000, 1000000, []))]) (NT := []) (AN := n_Mo_spread_an) (OT := [o_Mo_spread_0, o_Mo_spread_1, o_Mo_spread_2, o_Mo_spread_3, o_Mo_spread_4, o_Mo_spread_5, o_Mo_spread_6, o_Mo_spread_7, o_Mo_spread_8, o_Mo_spread_9, o_Mo_spread_10, o_Mo_spread_11, o_Mo_spread_12, o_Mo_spread_13, o_Mo_spread_14, o_Mo_spread_15, o_Mo_spread_16, o_Mo_spread_17, o_Mo_spread_18, o_Mo_spread_19]) 5 460 (List.forall_mem_cons.mpr ⟨oo_Mo_spread_0, List.forall_mem_cons.mpr ⟨oo_Mo_spread_1, List.forall_mem_cons.mpr ⟨oo_Mo_spread_2, List.forall_mem_cons.mpr ⟨oo_Mo_spread_3, List.forall_mem_cons.mpr ⟨oo_Mo_spread_4, List.forall_mem_cons.mpr ⟨oo_Mo_spread_5, List.forall_mem_cons.mpr ⟨oo_Mo_spread_6, List.forall_mem_cons.mpr ⟨oo_Mo_spread_7, List.forall_mem_cons.mpr ⟨oo_Mo_spread_8, List.forall_mem_cons.mpr ⟨oo_Mo_spread_9, List.forall_mem_cons.mpr ⟨oo_Mo_spread_10, List.forall_mem_cons.mpr ⟨oo_Mo_spread_11, List.forall_mem_cons.mpr ⟨oo_Mo_spread_12, List.forall_mem_cons.mpr ⟨oo_Mo_spread_13, List.forall_mem_cons.mpr ⟨oo_Mo_spread_14, List.forall_mem_cons.mpr ⟨oo_Mo_spread_15, List.forall_mem_cons.mpr ⟨oo_Mo_spread_16, List.forall_mem_cons.mpr ⟨oo_Mo_spread_17, List.forall_mem_cons.mpr ⟨oo_Mo_spread_18, List.forall_mem_cons.mpr ⟨oo_Mo_spread_19, List.forall_mem_nil _⟩⟩⟩⟩⟩⟩⟩⟩⟩⟩⟩⟩⟩⟩⟩⟩⟩⟩⟩⟩) (by decide +kernel) ⟨List.forall_mem_cons.mpr ⟨gf_Mo_317, List.forall_mem_cons.mpr ⟨gf_Mo_321, List.forall_mem_cons.mpr ⟨gf_Mo_324, List.forall_mem_cons.mpr ⟨gf_Mo_327, List.forall_mem_cons.mpr ⟨gf_Mo_1043, List.forall_mem_cons.mpr ⟨gf_Mo_1046, List.forall_mem_nil _⟩⟩⟩⟩⟩⟩, List.forall_mem_nil _, List.forall_mem_cons.mpr ⟨cl_virtual (y := y_Mo_backFrom) (ci := 13) rfl rfl ⟨_, _, rfl⟩ (by decide +kernel) h_Mo_backFrom wm_3700 wm_9 wm_3697 wm_3699 wv_22_4 ⟨by decide, by decide, by decide +kernel⟩ (by decide), List.forall_mem_cons.mpr ⟨cl_virtual (y := y_Mo_reached_at_gi) (ci := 13) rfl rfl ⟨_, _, rfl⟩ (by decide +kernel) h_Mo_reached_at_gi wm_3696 wm_9 wm_3693 wm_3695 wv_22_3 ⟨by decide, by decide, by decide +kernel⟩ (by decide), List.forall_mem_nil _⟩⟩, List.forall_mem_cons.mpr ⟨kx_Mo_1_546, List.forall_mem_nil _⟩, List.forall_mem_nil _, GG_pl⟩ (by decide +kernel)
