def n_Mo_backFrom_an : List an_T := [(94, [(0, (2, 0, 0, [150])), (1, (0, 0, 23999, [])), (2, (0, 0, 1000000, [])), (3, (0, 0, 5999, [])), (4, (0, 0, 3, [])), (5, (0, 0, 5999, [])), (6, (0, 0, 5999, [])), (7, (0, 0, 5999, [])), (8, (0, 0, 4, []))], [], (0, 0), [(0, 0, 99906), (1, 12, 4), (0, 0, 100000)], [(1, 2, -1000000000000, 23999), (1, 3, -1000000000000, 23999), (1, 5, -1000000000000, 0), (1, 6, -1000000000000, 23999), (1, 7, -1000000000000, 23999), (1, 8, -1000000000000, 23999), (1, 9, -1000000000000, 23999), (1, 10, -1000000000000, 23999), (1, 11, -1000000000000, 23999), (1, 12, -1000000000000, 23999), (2, 1, -1000000000000, 1000000), (2, 3, -1000000000000, 1000000), (2, 5, -1000000000000, 1000000), (2, 6, -1000000000000, 0), (2, 7, -1000000000000, 1000000), (2, 8, -1000000000000, 1000000), (2, 9, -1000000000000, 1000000), (2, 10, -1000000000000, 1000000), (2, 11, -1000000000000, 1000000), (2, 12, -1000000000000, 1000000), (3, 1, -1000000000000, 5999), (3, 2, -1000000000000, 5999), (3, 5, -1000000000000, 5999), (3, 6, -1000000000000, 5999), (3, 7, -1000000000000, 5999), (3, 8, -1000000000000, 5999), (3, 9, -1000000000000, 5999), (3, 10, -1000000000000, 5999), (3, 11, -1000000000000, 5999), (3, 12, -1000000000000, 5999), (5, 1, -1000000000000, 0), (5, 2, -1000000000000, 23999), (5, 3, -1000000000000, 23999), (5, 6, -1000000000000, 23999), (5, 7, -1000000000000, 23999), (5, 8, -1000000000000, 23999), (5, 9, -1000000000000, 23999), (5, 10, -1000000000000, 23999), (5, 11, -1000000000000, 23999), (5, 12, -1000000000000, 23999), (6, 1, -1000000000000, 1000000), (6, 2, -1000000000000, 0), (6, 3, -1000000000000, 1000000), (6, 5, -1000000000000, 1000000), (6, 7, -1000000000000, 1000000), (6, 8, -1000000000000, 1000000), (6, 9, -1000000000000, 1000000), (6, 10, -1000000000000, 1000000), (6, 11, -1000000000000, 1000000), (6, 12, -1000000000000, 1000000), (7, 1, -1000000000000, 5999), (7, 2, -1000000000000, 5999), (7, 3, -1000000000000, 5999), (7, 5, -1000000000000, 5999), (7, 6, -1000000000000, 5999), (7, 8, -1000000000000, 5999), (7, 9, -1000000000000, 5999), (7, 10, -1000000000000, 5999), (7, 11, -1000000000000, 5999), (7, 12, -1000000000000, 5999), (8, 1, -1000000000000, 3), (8, 2, -1000000000000, 3), (8, 3, -1000000000000, 3), (8, 5, -1000000000000, 3), (8, 6, -1000000000000, 3), (8, 7, -1000000000000, 3), (8, 9, -1000000000000, 3), (8, 10, -1000000000000, 2), (8, 11, -1000000000000, 2), (8, 12, -1000000000000, 3), (9, 1, -1000000000000, 5999), (9, 2, -1000000000000, 5999), (9, 3, -1000000000000, 5999), (9, 5, -1000000000000, 5999), (9, 6, -1000000000000, 5999), (9, 7, -1000000000000, 5999), (9, 8, -1000000000000, 5998), (9, 10, -1000000000000, 5999), (9, 11, -1000000000000, 0), (9, 12, -1000000000000, 5999), (10, 1, -1000000000000, 5999), (10, 2, -1000000000000, 5999), (10, 3, -1000000000000, 5999), (10, 5, -1000000000000, 5999), (10, 6, -1000000000000, 5999), (10, 7, -1000000000000, 5999), (10, 8, -1000000000000, 5999), (10, 9, -1000000000000, 5999), (10, 11, -1000000000000, 5999), (10, 12, -1000000000000, 5999), (11, 1, -1000000000000, 5999), (11, 2, -1000000000000, 5999), (11, 3, -1000000000000, 5999), (11, 5, -1000000000000, 5999), (11, 6, -1000000000000, 5999), (11, 7, -1000000000000, 5999), (11, 8, -1000000000000, 5999), (11, 9, -1000000000000, 5999), (11, 10, -1000000000000, 5999), (11, 12, -1000000000000, 5999)], [], [(2, 0, 0, [150]), (0, 0, 23999, []), (0, 0, 1000000, []), (0, 0, 5999, [])], 0, [], [(20, [4, 3, 6], [60, 2, 4, 419, 146, 147, 143, 140, 141, 142]), (20, [4, 5, 6], [60, 0, 1, 421, 140]), (20, [4, 5, 11], [60, 2, 1, 424, 146, 147, 143]), (20, [8, 5], [50, 0, 0, 1, 2, 1, 0, 9, 2, 1, 1, 0, 4]), (20, [6], [50, 0, 0, 2, 6, 0, 2, 0, 0, 1, 0, 0, 2, 1, 0, 0, 999999]), (20, [11, 4], [50, 2, 0, 1146, 1147, 2, 6, 0, 2, 0, 0, 1, 0, 0, 6, 4, 2, 1, 0, 0, 1, 6, 3, 2, 1, 146, 2, 1, 147]), (24, [0, 4], []), (24, [1, 5], []), (24, [2, 6], [])])]
def t_Mo_backFrom_ct : ct_L := [(0, 387, e_Mo_in), (0, 1064, e_Mo_dx), (0, 1067, e_Mo_dy), (370, 1070, e_Mo_reached_at_gb)]
set_option maxRecDepth 100000 in
theorem c_Mo_backFrom {l : Launch} {D : va_G} {kA : Nat → ClassId} (h_Mo_dx : ct_ok PRD l D kA GG y_Mo_dx z_Mo_dx e_Mo_dx) (h_Mo_dy : ct_ok PRD l D kA GG y_Mo_dy z_Mo_dy e_Mo_dy) (h_Mo_in : ct_ok PRD l D kA GG y_Mo_in z_Mo_in e_Mo_in) (h_Mo_reached_at_gb : ct_ok PRD l D kA GG y_Mo_reached_at_gb z_Mo_reached_at_gb e_Mo_reached_at_gb) : ct_ok PRD l D kA GG y_Mo_backFrom z_Mo_backFrom e_Mo_backFrom := chk_all_ok (FT := [(327, 13, 143), (1043, 13, 146), (1046, 13, 147)]) (PT := []) (CT := t_Mo_backFrom_ct) (KT := []) (NT := []) (AN := n_Mo_backFrom_an) (OT := [o_Mo_backFrom_0, o_Mo_backFrom_1, o_Mo_backFrom_2, o_Mo_backFrom_3, o_Mo_backFrom_4, o_Mo_backFrom_5, o_Mo_backFrom_6, o_Mo_backFrom_7, o_Mo_backFrom_8, o_Mo_backFrom_9, o_Mo_backFrom_10, o_Mo_backFrom_11, o_Mo_backFrom_12, o_Mo_backFrom_13, o_Mo_backFrom_14, o_Mo_backFrom_15, o_Mo_backFrom_16, o_Mo_backFrom_17, o_Mo_backFrom_18, o_Mo_backFrom_19, o_Mo_backFrom_20]) 3 1008 (List.forall_mem_cons.mpr ⟨oo_Mo_backFrom_0, List.forall_mem_cons.mpr ⟨oo_Mo_backFrom_1, List.forall_mem_cons.mpr ⟨oo_Mo_backFrom_2, List.forall_mem_cons.mpr ⟨oo_Mo_backFrom_3, List.forall_mem_cons.mpr ⟨oo_Mo_backFrom_4, List.forall_mem_cons.mpr ⟨oo_Mo_backFrom_5, List.forall_mem_cons.mpr ⟨oo_Mo_backFrom_6, List.forall_mem_cons.mpr ⟨oo_Mo_backFrom_7, List.forall_mem_cons.mpr ⟨oo_Mo_backFrom_8, List.forall_mem_cons.mpr ⟨oo_Mo_backFrom_9, List.forall_mem_cons.mpr ⟨oo_Mo_backFrom_10, List.forall_mem_cons.mpr ⟨oo_Mo_backFrom_11, List.forall_mem_cons.mpr ⟨oo_Mo_backFrom_12, List.forall_mem_cons.mpr ⟨oo_Mo_backFrom_13, List.forall_mem_cons.mpr ⟨oo_Mo_backFrom_14, List.forall_mem_cons.mpr ⟨oo_Mo_backFrom_15, List.forall_mem_cons.mpr ⟨oo_Mo_backFrom_16, List.forall_mem_cons.mpr ⟨oo_Mo_backFrom_17, List.forall_mem_cons.mpr ⟨oo_Mo_backFrom_18, List.forall_mem_cons.mpr ⟨oo_Mo_backFrom_19, List.forall_mem_cons.mpr ⟨oo_Mo_backFrom_20, List.forall_mem_nil _⟩⟩⟩⟩⟩⟩⟩⟩⟩⟩⟩⟩⟩⟩⟩⟩⟩⟩⟩⟩⟩) (by decide +kernel) ⟨List.forall_mem_cons.mpr ⟨gf_Mo_327, List.forall_mem_cons.mpr ⟨gf_Mo_1043, List.forall_mem_cons.mpr ⟨gf_Mo_1046, List.forall_mem_nil _⟩⟩⟩, List.forall_mem_nil _, List.forall_mem_cons.mpr ⟨cl_static (y := y_Mo_in) h_Mo_in wm_2971 wm_9 wm_2969 wm_2970 ⟨by decide, by decide, by decide +kernel⟩ (by decide), List.forall_mem_cons.mpr ⟨cl_static (y := y_Mo_dx) h_Mo_dx wm_3703 wm_9 wm_3701 wm_3702 ⟨by decide, by decide, by decide +kernel⟩ (by decide), List.forall_mem_cons.mpr ⟨cl_static (y := y_Mo_dy) h_Mo_dy wm_3706 wm_9 wm_3704 wm_3705 ⟨by decide, by decide, by decide +kernel⟩ (by decide), List.forall_mem_cons.mpr ⟨cl_virtual (y := y_Mo_reached_at_gb) (ci := 13) rfl rfl ⟨_, _, rfl⟩ (by decide +kernel) h_Mo_reached_at_gb wm_3696 wm_9 wm_3693 wm_3695 wv_22_3 ⟨by decide, by decide, by decide +kernel⟩ (by decide), List.forall_mem_nil _⟩⟩⟩⟩, List.forall_mem_nil _, List.forall_mem_nil _, GG_pl⟩ (by decide +kernel)
set_option maxHeartbeats 4000000 in
theorem vc_Mo_bendsBecome_0_0 (x2 : Int) (x3 : Int) (x5 : Int) (x6 : Int) (x7 : Int) (x8 : Int) (wide_0 : Int) (tall_0 : Int) (barredPoint_0 : Int → Int) (costOf_0 : Int → Int) (k2 : 0 ≤ x2 ∧ x2 ≤ 5999) (k3 : 0 ≤ x3 ∧ x3 ≤ 5999) (k5 : 0 ≤ x5 ∧ x5 ≤ 0) (k6 : (-1) ≤ x6 ∧ x6 ≤ (-1)) (k7 : 1000000 ≤ x7 ∧ x7 ≤ 1000000) (k8 : 0 ≤ x8 ∧ x8 ≤ 0) (f0 : GRX (wide_0) (tall_0)) (f1 : RTV (wide_0) (tall_0) (barredPoint_0) (costOf_0) (x3)) (f2 : (0 ≤ x2) ∧ ((x2 + 1) ≤ (wide_0 * tall_0))) (f3 : (0 ≤ x3) ∧ ((x3 + 1) ≤ (wide_0 * tall_0))) (hK_0_140 : ∀ j : Int, 0 ≤ j → j < 24000 → 0 ≤ costOf_0 j ∧ costOf_0 j ≤ 1000000) (hK_0_143 : ∀ j : Int, 0 ≤ j → j < 6000 → 0 ≤ barredPoint_0 j ∧ barredPoint_0 j ≤ 1) (kz_0_146 : (-2147483648) ≤ wide_0 ∧ wide_0 ≤ 2147483647) (kz_0_147 : (-2147483648) ≤ tall_0 ∧ tall_0 ≤ 2147483647) : BB1 (wide_0) (tall_0) (barredPoint_0) (costOf_0) (x2) (x6) (x7) (x8) := by
  first
    | assumption
    | exact Or.inl ⟨by omega, by omega⟩
    | (have h := ‹BB1 _ _ _ _ _ _ _ _›; exact h)
    | (have hb : x8 ≤ 1000000 := by
         rcases ‹BB1 _ _ _ _ _ _ _ _› with h | h
         · omega
         · have := h.2.1; omega
       have e1 : x16 = costOf_0 x15 := by assumption
       have e2 : x22 = costOf_0 x21 := by assumption
       have e3 : x15 = x21 := by omega
       rw [e3, ← e2] at e1
       rw [show x24 = x22 + 1 by omega]; exact bb1_take (b := x8) (d := x7) (q := x11) (x := x21) (v := x22) ‹STQ _ _ _ _ _ _› (by omega) (by omega) (by omega) (by omega) (by assumption) (by omega))
    | sorry
set_option maxHeartbeats 4000000 in
theorem vc_Mo_bendsBecome_0_1 (x2 : Int) (x3 : Int) (x5 : Int) (x6 : Int) (x7 : Int) (x8 : Int) (wide_0 : Int) (tall_0 : Int) (barredPoint_0 : Int → Int) (costOf_0 : Int → Int) (k2 : 0 ≤ x2 ∧ x2 ≤ 5999) (k3 : 0 ≤ x3 ∧ x3 ≤ 5999) (k5 : 0 ≤ x5 ∧ x5 ≤ 0) (k6 : (-1) ≤ x6 ∧ x6 ≤ (-1)) (k7 : 1000000 ≤ x7 ∧ x7 ≤ 1000000) (k8 : 0 ≤ x8 ∧ x8 ≤ 0) (f0 : GRX (wide_0) (tall_0)) (f1 : RTV (wide_0) (tall_0) (barredPoint_0) (costOf_0) (x3)) (f2 : (0 ≤ x2) ∧ ((x2 + 1) ≤ (wide_0 * tall_0))) (f3 : (0 ≤ x3) ∧ ((x3 + 1) ≤ (wide_0 * tall_0))) (hK_0_140 : ∀ j : Int, 0 ≤ j → j < 24000 → 0 ≤ costOf_0 j ∧ costOf_0 j ≤ 1000000) (hK_0_143 : ∀ j : Int, 0 ≤ j → j < 6000 → 0 ≤ barredPoint_0 j ∧ barredPoint_0 j ≤ 1) (kz_0_146 : (-2147483648) ≤ wide_0 ∧ wide_0 ≤ 2147483647) (kz_0_147 : (-2147483648) ≤ tall_0 ∧ tall_0 ≤ 2147483647) : x5 = 0 := by
  first
    | omega
    | (have g := gok_bd ‹GRX _ _›; omega)
    | (have h := bb_next ‹RTV _ _ _ _ _› ‹BB2 _ _ _ _ _ _ _› ‹BB3 _ _ _ _ _ _ _ _ _ _› (by omega) (by omega)
       have h1 := h.1.1
       have h2 := h.2
       omega)
    | (obtain ⟨⟨mf, q, n1, n2, n3, n4⟩, u0, u1⟩ := bb_next ‹RTV _ _ _ _ _› ‹BB2 _ _ _ _ _ _ _› ‹BB3 _ _ _ _ _ _ _ _ _ _› (by omega) (by omega)
       have e := ‹STQ _ _ _ _ _ _›.2.2 q n1 n2
       have i := nb_in n1 (by have g := gok_bd ‹GRX _ _›; omega)
       have g3 := ‹GRX _ _›.2.2
       omega)
def o_Mo_bendsBecome_0 : or_T := (22, 9, [(0, (2, 0, 0, [150])), (2, (0, 0, 5999, [])), (3, (0, 0, 5999, [])), (5, (0, 0, 0, [])), (6, (0, -1, -1, [])), (7, (0, 1000000, 1000000, [])), (8, (0, 0, 0, []))], [(20, [0], [60, 2, 0, 418, 146, 147]), (20, [0, 3], [60, 2, 2, 428, 146, 147, 143, 140]), (20, [2, 0], [50, 2, 0, 1146, 1147, 2, 6, 0, 2, 0, 0, 1, 0, 0, 6, 4, 2, 1, 0, 0, 1, 6, 3, 2, 1, 146, 2, 1, 147]), (20, [3, 0], [50, 2, 0, 1146, 1147, 2, 6, 0, 2, 0, 0, 1, 0, 0, 6, 4, 2, 1, 0, 0, 1, 6, 3, 2, 1, 146, 2, 1, 147])], [], [], [(20, [0, 2, 6, 7, 8], [60, 2, 2, 430, 146, 147, 143, 140]), (20, [5], [50, 0, 0, 1, 2, 1, 0, 0, 0])], [], [])
theorem oo_Mo_bendsBecome_0 {kA : Nat → ClassId} : or_ok PRD kA GG o_Mo_bendsBecome_0 := by
  intro A ta ws vs hD hth hl hk hds hf
  have hl : vs.length = 9 := hl
  have hk : ∀ q ∈ ([(0, (2, 0, 0, [150])), (2, (0, 0, 5999, [])), (3, (0, 0, 5999, [])), (5, (0, 0, 0, [])), (6, (0, -1, -1, [])), (7, (0, 1000000, 1000000, [])), (8, (0, 0, 0, []))] : List (Nat × tv_T)), tv_ok ta q.2 (n_v vs q.1) := hk
  obtain ⟨t0, hk⟩ := List.forall_mem_cons.mp hk
  have t0 : tv_ok ta (2, 0, 0, [150]) (n_v vs 0) := t0
  have r0 : ta (v_ad (n_v vs 0)) = some 150 := tv_rg t0
  obtain ⟨t2, hk⟩ := List.forall_mem_cons.mp hk
  have t2 : tv_ok ta (0, 0, 5999, []) (n_v vs 2) := t2
  have k2 : 0 ≤ v_iv (n_v vs 2) ∧ v_iv (n_v vs 2) ≤ 5999 := tv_rng t2
  obtain ⟨t3, hk⟩ := List.forall_mem_cons.mp hk
  have t3 : tv_ok ta (0, 0, 5999, []) (n_v vs 3) := t3
  have k3 : 0 ≤ v_iv (n_v vs 3) ∧ v_iv (n_v vs 3) ≤ 5999 := tv_rng t3
  obtain ⟨t5, hk⟩ := List.forall_mem_cons.mp hk
  have t5 : tv_ok ta (0, 0, 0, []) (n_v vs 5) := t5
  have k5 : 0 ≤ v_iv (n_v vs 5) ∧ v_iv (n_v vs 5) ≤ 0 := tv_rng t5
  obtain ⟨t6, hk⟩ := List.forall_mem_cons.mp hk
  have t6 : tv_ok ta (0, -1, -1, []) (n_v vs 6) := t6
  have k6 : (-1) ≤ v_iv (n_v vs 6) ∧ v_iv (n_v vs 6) ≤ (-1) := tv_rng t6
  obtain ⟨t7, hk⟩ := List.forall_mem_cons.mp hk
  have t7 : tv_ok ta (0, 1000000, 1000000, []) (n_v vs 7) := t7
  have k7 : 1000000 ≤ v_iv (n_v vs 7) ∧ v_iv (n_v vs 7) ≤ 1000000 := tv_rng t7
  obtain ⟨t8, hk⟩ := List.forall_mem_cons.mp hk
  have t8 : tv_ok ta (0, 0, 0, []) (n_v vs 8) := t8
  have k8 : 0 ≤ v_iv (n_v vs 8) ∧ v_iv (n_v vs 8) ≤ 0 := tv_rng t8
  have hf : fc_ok PRD [(20, [0], [60, 2, 0, 418, 146, 147]), (20, [0, 3], [60, 2, 2, 428, 146, 147, 143, 140]), (20, [2, 0], [50, 2, 0, 1146, 1147, 2, 6, 0, 2, 0, 0, 1, 0, 0, 6, 4, 2, 1, 0, 0, 1, 6, 3, 2, 1, 146, 2, 1, 147]), (20, [3, 0], [50, 2, 0, 1146, 1147, 2, 6, 0, 2, 0, 0, 1, 0, 0, 6, 4, 2, 1, 0, 0, 1, 6, 3, 2, 1, 146, 2, 1, 147])] ta ws vs := hf
  obtain ⟨f0, hf⟩ := fc_un (show (20 : Nat) < 100 from by decide) hf
  have f0 : GRX (w_fi ws (n_v vs 0) 146) (w_fi ws (n_v vs 0) 147) := f0
  obtain ⟨f1, hf⟩ := fc_un (show (20 : Nat) < 100 from by decide) hf
  have f1 : RTV (w_fi ws (n_v vs 0) 146) (w_fi ws (n_v vs 0) 147) (w_ei ws (w_ar ws (n_v vs 0) 143)) (w_ei ws (w_ar ws (n_v vs 0) 140)) (v_iv (n_v vs 3)) := f1
  obtain ⟨f2, hf⟩ := fc_un (show (20 : Nat) < 100 from by decide) hf
  have f2 : (0 ≤ v_iv (n_v vs 2)) ∧ ((v_iv (n_v vs 2) + 1) ≤ (w_fi ws (n_v vs 0) 146 * w_fi ws (n_v vs 0) 147)) := f2
  obtain ⟨f3, hf⟩ := fc_un (show (20 : Nat) < 100 from by decide) hf
  have f3 : (0 ≤ v_iv (n_v vs 3)) ∧ ((v_iv (n_v vs 3) + 1) ≤ (w_fi ws (n_v vs 0) 146 * w_fi ws (n_v vs 0) 147)) := f3
  have cr_0_140 : ta (w_ar ws (n_v vs 0) 140) = some 251 := tv_rg (th_fd hD hth r0 (g := GG_150) rfl (k := 140) (t := (2, 0, 0, [251])) rfl rfl)
  have cr_0_143 : ta (w_ar ws (n_v vs 0) 143) = some 254 := tv_rg (th_fd hD hth r0 (g := GG_150) rfl (k := 143) (t := (2, 0, 0, [254])) rfl rfl)
  have hK_0_140 : ∀ j : Int, 0 ≤ j → j < 24000 → 0 ≤ w_ei ws (w_ar ws (n_v vs 0) 140) j ∧ w_ei ws (w_ar ws (n_v vs 0) 140) j ≤ 1000000 := fun j h0 h1 => th_el hD hth cr_0_140 (kd := 0) (n := 24000) (m := 24000) (lo := 0) (hi := 1000000) (rs := []) (L := []) rfl (by decide) (j := j.toNat) (by omega)
  have hK_0_143 : ∀ j : Int, 0 ≤ j → j < 6000 → 0 ≤ w_ei ws (w_ar ws (n_v vs 0) 143) j ∧ w_ei ws (w_ar ws (n_v vs 0) 143) j ≤ 1 := fun j h0 h1 => th_el hD hth cr_0_143 (kd := 2) (n := 6000) (m := 6000) (lo := 0) (hi := 1) (rs := []) (L := []) rfl (by decide) (j := j.toNat) (by omega)
  have kz_0_146 : (-2147483648) ≤ w_fi ws (n_v vs 0) 146 ∧ w_fi ws (n_v vs 0) 146 ≤ 2147483647 := tv_rng (th_fd hD hth r0 (g := GG_150) rfl (k := 146) (t := (0, -2147483648, 2147483647, [])) rfl rfl)
  have kz_0_147 : (-2147483648) ≤ w_fi ws (n_v vs 0) 147 ∧ w_fi ws (n_v vs 0) 147 ≤ 2147483647 := tv_rng (th_fd hD hth r0 (g := GG_150) rfl (k := 147) (t := (0, -2147483648, 2147483647, [])) rfl rfl)
  have nf0 : fc_1 PRD (20, [0, 2, 6, 7, 8], [60, 2, 2, 430, 146, 147, 143, 140]) ws (vs) := by
    refine ⟨fun n hn => ?_, ?_⟩
    · have hn : n ∈ [0, 2, 6, 7, 8] := hn
      rw [hl]
      simp only [List.mem_cons, List.not_mem_nil, or_false] at hn
      show n < 9; omega
    · show BB1 (w_fi ws (n_v vs 0) 146) (w_fi ws (n_v vs 0) 147) (w_ei ws (w_ar ws (n_v vs 0) 143)) (w_ei ws (w_ar ws (n_v vs 0) 140)) (v_iv (n_v vs 2)) (v_iv (n_v vs 6)) (v_iv (n_v vs 7)) (v_iv (n_v vs 8))
      exact vc_Mo_bendsBecome_0_0 (v_iv (n_v vs 2)) (v_iv (n_v vs 3)) (v_iv (n_v vs 5)) (v_iv (n_v vs 6)) (v_iv (n_v vs 7)) (v_iv (n_v vs 8)) (w_fi ws (n_v vs 0) 146) (w_fi ws (n_v vs 0) 147) (w_ei ws (w_ar ws (n_v vs 0) 143)) (w_ei ws (w_ar ws (n_v vs 0) 140)) k2 k3 k5 k6 k7 k8 f0 f1 f2 f3 hK_0_140 hK_0_143 kz_0_146 kz_0_147
  have nf1 : fc_1 PRD (20, [5], [50, 0, 0, 1, 2, 1, 0, 0, 0]) ws (vs) := by
    refine ⟨fun n hn => ?_, ?_⟩
    · have hn : n ∈ [5] := hn
      rw [hl]
      simp only [List.mem_cons, List.not_mem_nil, or_false] at hn
      show n < 9; omega
    · show v_iv (n_v vs 5) = 0
      exact vc_Mo_bendsBecome_0_1 (v_iv (n_v vs 2)) (v_iv (n_v vs 3)) (v_iv (n_v vs 5)) (v_iv (n_v vs 6)) (v_iv (n_v vs 7)) (v_iv (n_v vs 8)) (w_fi ws (n_v vs 0) 146) (w_fi ws (n_v vs 0) 147) (w_ei ws (w_ar ws (n_v vs 0) 143)) (w_ei ws (w_ar ws (n_v vs 0) 140)) k2 k3 k5 k6 k7 k8 f0 f1 f2 f3 hK_0_140 hK_0_143 kz_0_146 kz_0_147
  refine ⟨(fun _ h => (by cases h)), [], trivial, ?_, (fun _ h => (by cases h))⟩
  rw [List.append_nil]
  exact List.forall_mem_cons.mpr ⟨⟨show (20 : Nat) < 100 from by decide, nf0⟩, List.forall_mem_cons.mpr ⟨⟨show (20 : Nat) < 100 from by decide, nf1⟩, (fun _ h => (by cases h))⟩⟩
set_option maxHeartbeats 4000000 in
theorem vc_Mo_bendsBecome_1_r0 (x3 : Int) (x5 : Int) (x6 : Int) (x7 : Int) (x8 : Int) (x9 : Int) (x10 : Int) (x11 : Int) (barredPoint_0 : Int → Int) (wide_0 : Int) (tall_0 : Int) (costOf_0 : Int → Int) (k3 : 0 ≤ x3 ∧ x3 ≤ 5999) (k5 : 0 ≤ x5 ∧ x5 ≤ 0) (k6 : 0 ≤ x6 ∧ x6 ≤ 5999) (k7 : 0 ≤ x7 ∧ x7 ≤ 3) (k8 : 1 ≤ x8 ∧ x8 ≤ 1000001) (k9 : 4 ≤ x9 ∧ x9 ≤ 4) (k10 : 4 ≤ x10 ∧ x10 ≤ 4) (k11 : (-1) ≤ x11 ∧ x11 ≤ 5999) (f0 : STQ (wide_0) (tall_0) (barredPoint_0) (x6) (x7) (x11)) (f1 : ((-1) ≤ x11) ∧ ((x11 + 1) ≤ (wide_0 * tall_0))) (f2 : 0 ≤ x7) (f3 : x10 ≤ x9) (f4 : GRX (wide_0) (tall_0)) (f5 : RTV (wide_0) (tall_0) (barredPoint_0) (costOf_0) (x3)) (f6 : (0 ≤ x3) ∧ ((x3 + 1) ≤ (wide_0 * tall_0))) (f7 : (0 ≤ x6) ∧ ((x6 + 1) ≤ (wide_0 * tall_0))) (f8 : BB1 (wide_0) (tall_0) (barredPoint_0) (costOf_0) (x6) (x7) (x8) (x9)) (f9 : x5 = 0) (hK_0_140 : ∀ j : Int, 0 ≤ j → j < 24000 → 0 ≤ costOf_0 j ∧ costOf_0 j ≤ 1000000) (hK_0_143 : ∀ j : Int, 0 ≤ j → j < 6000 → 0 ≤ barredPoint_0 j ∧ barredPoint_0 j ≤ 1) (kz_0_146 : (-2147483648) ≤ wide_0 ∧ wide_0 ≤ 2147483647) (kz_0_147 : (-2147483648) ≤ tall_0 ∧ tall_0 ≤ 2147483647) : 0 ≤ x11 ∧ x11 ≤ 5999 := by
  (have h := bb2_start (t := x8 - 1) ‹RTV _ _ _ _ _› ‹BB1 _ _ _ _ _ _ _ _› (by omega) ‹STQ _ _ _ _ _ _› rfl
   have h1 := h.1
   have g3 := ‹GRX _ _›.2.2
   omega)
def o_Mo_bendsBecome_1 : or_T := (104, 12, [(0, (2, 0, 0, [150])), (3, (0, 0, 5999, [])), (5, (0, 0, 0, [])), (6, (0, 0, 5999, [])), (7, (0, 0, 3, [])), (8, (0, 1, 1000001, [])), (9, (0, 4, 4, [])), (10, (0, 4, 4, [])), (11, (0, -1, 5999, []))], [(20, [0, 6, 7, 11], [60, 2, 1, 429, 146, 147, 143]), (20, [11, 0], [50, 2, 0, 1146, 1147, 2, 6, 0, 2, 0, -1, 1, 0, 0, 6, 4, 2, 1, 0, 0, 1, 6, 3, 2, 1, 146, 2, 1, 147]), (8, [7], [3]), (7, [9, 10], [3]), (20, [0], [60, 2, 0, 418, 146, 147]), (20, [0, 3], [60, 2, 2, 428, 146, 147, 143, 140]), (20, [3, 0], [50, 2, 0, 1146, 1147, 2, 6, 0, 2, 0, 0, 1, 0, 0, 6, 4, 2, 1, 0, 0, 1, 6, 3, 2, 1, 146, 2, 1, 147]), (20, [6, 0], [50, 2, 0, 1146, 1147, 2, 6, 0, 2, 0, 0, 1, 0, 0, 6, 4, 2, 1, 0, 0, 1, 6, 3, 2, 1, 146, 2, 1, 147]), (20, [0, 6, 7, 8, 9], [60, 2, 2, 430, 146, 147, 143, 140]), (20, [5], [50, 0, 0, 1, 2, 1, 0, 0, 0])], [(11, (0, 0, 5999, []))], [], [], [], [])
theorem oo_Mo_bendsBecome_1 {kA : Nat → ClassId} : or_ok PRD kA GG o_Mo_bendsBecome_1 := by
  intro A ta ws vs hD hth hl hk hds hf
  have hl : vs.length = 12 := hl
  have hk : ∀ q ∈ ([(0, (2, 0, 0, [150])), (3, (0, 0, 5999, [])), (5, (0, 0, 0, [])), (6, (0, 0, 5999, [])), (7, (0, 0, 3, [])), (8, (0, 1, 1000001, [])), (9, (0, 4, 4, [])), (10, (0, 4, 4, [])), (11, (0, -1, 5999, []))] : List (Nat × tv_T)), tv_ok ta q.2 (n_v vs q.1) := hk
  obtain ⟨t0, hk⟩ := List.forall_mem_cons.mp hk
  have t0 : tv_ok ta (2, 0, 0, [150]) (n_v vs 0) := t0
  have r0 : ta (v_ad (n_v vs 0)) = some 150 := tv_rg t0
  obtain ⟨t3, hk⟩ := List.forall_mem_cons.mp hk
  have t3 : tv_ok ta (0, 0, 5999, []) (n_v vs 3) := t3
  have k3 : 0 ≤ v_iv (n_v vs 3) ∧ v_iv (n_v vs 3) ≤ 5999 := tv_rng t3
  obtain ⟨t5, hk⟩ := List.forall_mem_cons.mp hk
  have t5 : tv_ok ta (0, 0, 0, []) (n_v vs 5) := t5
  have k5 : 0 ≤ v_iv (n_v vs 5) ∧ v_iv (n_v vs 5) ≤ 0 := tv_rng t5
  obtain ⟨t6, hk⟩ := List.forall_mem_cons.mp hk
  have t6 : tv_ok ta (0, 0, 5999, []) (n_v vs 6) := t6
  have k6 : 0 ≤ v_iv (n_v vs 6) ∧ v_iv (n_v vs 6) ≤ 5999 := tv_rng t6
  obtain ⟨t7, hk⟩ := List.forall_mem_cons.mp hk
  have t7 : tv_ok ta (0, 0, 3, []) (n_v vs 7) := t7
  have k7 : 0 ≤ v_iv (n_v vs 7) ∧ v_iv (n_v vs 7) ≤ 3 := tv_rng t7
  obtain ⟨t8, hk⟩ := List.forall_mem_cons.mp hk
  have t8 : tv_ok ta (0, 1, 1000001, []) (n_v vs 8) := t8
  have k8 : 1 ≤ v_iv (n_v vs 8) ∧ v_iv (n_v vs 8) ≤ 1000001 := tv_rng t8
  obtain ⟨t9, hk⟩ := List.forall_mem_cons.mp hk
  have t9 : tv_ok ta (0, 4, 4, []) (n_v vs 9) := t9
  have k9 : 4 ≤ v_iv (n_v vs 9) ∧ v_iv (n_v vs 9) ≤ 4 := tv_rng t9
  obtain ⟨t10, hk⟩ := List.forall_mem_cons.mp hk
  have t10 : tv_ok ta (0, 4, 4, []) (n_v vs 10) := t10
  have k10 : 4 ≤ v_iv (n_v vs 10) ∧ v_iv (n_v vs 10) ≤ 4 := tv_rng t10
  obtain ⟨t11, hk⟩ := List.forall_mem_cons.mp hk
  have t11 : tv_ok ta (0, -1, 5999, []) (n_v vs 11) := t11
  have k11 : (-1) ≤ v_iv (n_v vs 11) ∧ v_iv (n_v vs 11) ≤ 5999 := tv_rng t11
  have hf : fc_ok PRD [(20, [0, 6, 7, 11], [60, 2, 1, 429, 146, 147, 143]), (20, [11, 0], [50, 2, 0, 1146, 1147, 2, 6, 0, 2, 0, -1, 1, 0, 0, 6, 4, 2, 1, 0, 0, 1, 6, 3, 2, 1, 146, 2, 1, 147]), (8, [7], [3]), (7, [9, 10], [3]), (20, [0], [60, 2, 0, 418, 146, 147]), (20, [0, 3], [60, 2, 2, 428, 146, 147, 143, 140]), (20, [3, 0], [50, 2, 0, 1146, 1147, 2, 6, 0, 2, 0, 0, 1, 0, 0, 6, 4, 2, 1, 0, 0, 1, 6, 3, 2, 1, 146, 2, 1, 147]), (20, [6, 0], [50, 2, 0, 1146, 1147, 2, 6, 0, 2, 0, 0, 1, 0, 0, 6, 4, 2, 1, 0, 0, 1, 6, 3, 2, 1, 146, 2, 1, 147]), (20, [0, 6, 7, 8, 9], [60, 2, 2, 430, 146, 147, 143, 140]), (20, [5], [50, 0, 0, 1, 2, 1, 0, 0, 0])] ta ws vs := hf
  obtain ⟨f0, hf⟩ := fc_un (show (20 : Nat) < 100 from by decide) hf
  have f0 : STQ (w_fi ws (n_v vs 0) 146) (w_fi ws (n_v vs 0) 147) (w_ei ws (w_ar ws (n_v vs 0) 143)) (v_iv (n_v vs 6)) (v_iv (n_v vs 7)) (v_iv (n_v vs 11)) := f0
  obtain ⟨f1, hf⟩ := fc_un (show (20 : Nat) < 100 from by decide) hf
  have f1 : ((-1) ≤ v_iv (n_v vs 11)) ∧ ((v_iv (n_v vs 11) + 1) ≤ (w_fi ws (n_v vs 0) 146 * w_fi ws (n_v vs 0) 147)) := f1
  obtain ⟨f2, hf⟩ := fc_un (show (8 : Nat) < 100 from by decide) hf
  have f2 : 0 ≤ v_iv (n_v vs 7) := f2
  obtain ⟨f3, hf⟩ := fc_un (show (7 : Nat) < 100 from by decide) hf
  have f3 : v_iv (n_v vs 10) ≤ v_iv (n_v vs 9) := f3
  obtain ⟨f4, hf⟩ := fc_un (show (20 : Nat) < 100 from by decide) hf
  have f4 : GRX (w_fi ws (n_v vs 0) 146) (w_fi ws (n_v vs 0) 147) := f4
  obtain ⟨f5, hf⟩ := fc_un (show (20 : Nat) < 100 from by decide) hf
  have f5 : RTV (w_fi ws (n_v vs 0) 146) (w_fi ws (n_v vs 0) 147) (w_ei ws (w_ar ws (n_v vs 0) 143)) (w_ei ws (w_ar ws (n_v vs 0) 140)) (v_iv (n_v vs 3)) := f5
  obtain ⟨f6, hf⟩ := fc_un (show (20 : Nat) < 100 from by decide) hf
  have f6 : (0 ≤ v_iv (n_v vs 3)) ∧ ((v_iv (n_v vs 3) + 1) ≤ (w_fi ws (n_v vs 0) 146 * w_fi ws (n_v vs 0) 147)) := f6
  obtain ⟨f7, hf⟩ := fc_un (show (20 : Nat) < 100 from by decide) hf
  have f7 : (0 ≤ v_iv (n_v vs 6)) ∧ ((v_iv (n_v vs 6) + 1) ≤ (w_fi ws (n_v vs 0) 146 * w_fi ws (n_v vs 0) 147)) := f7
  obtain ⟨f8, hf⟩ := fc_un (show (20 : Nat) < 100 from by decide) hf
  have f8 : BB1 (w_fi ws (n_v vs 0) 146) (w_fi ws (n_v vs 0) 147) (w_ei ws (w_ar ws (n_v vs 0) 143)) (w_ei ws (w_ar ws (n_v vs 0) 140)) (v_iv (n_v vs 6)) (v_iv (n_v vs 7)) (v_iv (n_v vs 8)) (v_iv (n_v vs 9)) := f8
  obtain ⟨f9, hf⟩ := fc_un (show (20 : Nat) < 100 from by decide) hf
  have f9 : v_iv (n_v vs 5) = 0 := f9
  have cr_0_140 : ta (w_ar ws (n_v vs 0) 140) = some 251 := tv_rg (th_fd hD hth r0 (g := GG_150) rfl (k := 140) (t := (2, 0, 0, [251])) rfl rfl)
  have cr_0_143 : ta (w_ar ws (n_v vs 0) 143) = some 254 := tv_rg (th_fd hD hth r0 (g := GG_150) rfl (k := 143) (t := (2, 0, 0, [254])) rfl rfl)
  have hK_0_140 : ∀ j : Int, 0 ≤ j → j < 24000 → 0 ≤ w_ei ws (w_ar ws (n_v vs 0) 140) j ∧ w_ei ws (w_ar ws (n_v vs 0) 140) j ≤ 1000000 := fun j h0 h1 => th_el hD hth cr_0_140 (kd := 0) (n := 24000) (m := 24000) (lo := 0) (hi := 1000000) (rs := []) (L := []) rfl (by decide) (j := j.toNat) (by omega)
  have hK_0_143 : ∀ j : Int, 0 ≤ j → j < 6000 → 0 ≤ w_ei ws (w_ar ws (n_v vs 0) 143) j ∧ w_ei ws (w_ar ws (n_v vs 0) 143) j ≤ 1 := fun j h0 h1 => th_el hD hth cr_0_143 (kd := 2) (n := 6000) (m := 6000) (lo := 0) (hi := 1) (rs := []) (L := []) rfl (by decide) (j := j.toNat) (by omega)
  have kz_0_146 : (-2147483648) ≤ w_fi ws (n_v vs 0) 146 ∧ w_fi ws (n_v vs 0) 146 ≤ 2147483647 := tv_rng (th_fd hD hth r0 (g := GG_150) rfl (k := 146) (t := (0, -2147483648, 2147483647, [])) rfl rfl)
  have kz_0_147 : (-2147483648) ≤ w_fi ws (n_v vs 0) 147 ∧ w_fi ws (n_v vs 0) 147 ≤ 2147483647 := tv_rng (th_fd hD hth r0 (g := GG_150) rfl (k := 147) (t := (0, -2147483648, 2147483647, [])) rfl rfl)
  have hrf0 : 0 ≤ v_iv (n_v vs 11) ∧ v_iv (n_v vs 11) ≤ 5999 := vc_Mo_bendsBecome_1_r0 (v_iv (n_v vs 3)) (v_iv (n_v vs 5)) (v_iv (n_v vs 6)) (v_iv (n_v vs 7)) (v_iv (n_v vs 8)) (v_iv (n_v vs 9)) (v_iv (n_v vs 10)) (v_iv (n_v vs 11)) (w_ei ws (w_ar ws (n_v vs 0) 143)) (w_fi ws (n_v vs 0) 146) (w_fi ws (n_v vs 0) 147) (w_ei ws (w_ar ws (n_v vs 0) 140)) k3 k5 k6 k7 k8 k9 k10 k11 f0 f1 f2 f3 f4 f5 f6 f7 f8 f9 hK_0_140 hK_0_143 kz_0_146 kz_0_147
  have rf11 : tv_ok ta (0, 0, 5999, []) (n_v vs 11) := tv_in t11 (by first | omega | grind) (by first | omega | grind)
  refine ⟨List.forall_mem_cons.mpr ⟨rf11, (fun _ h => (by cases h))⟩, [], trivial, ?_, (fun _ h => (by cases h))⟩
  rw [List.append_nil]
  exact (fun _ h => (by cases h))
set_option maxHeartbeats 4000000 in
theorem vc_Mo_bendsBecome_2_0 (x3 : Int) (x5 : Int) (x6 : Int) (x7 : Int) (x8 : Int) (x9 : Int) (x10 : Int) (x11 : Int) (x12 : Int) (x13 : Int) (barredPoint_0 : Int → Int) (wide_0 : Int) (tall_0 : Int) (costOf_0 : Int → Int) (gx : Int) (k3 : 0 ≤ x3 ∧ x3 ≤ 5999) (k5 : 0 ≤ x5 ∧ x5 ≤ 0) (k6 : 0 ≤ x6 ∧ x6 ≤ 5999) (k7 : 0 ≤ x7 ∧ x7 ≤ 3) (k8 : 1 ≤ x8 ∧ x8 ≤ 1000001) (k9 : 4 ≤ x9 ∧ x9 ≤ 4) (k10 : 4 ≤ x10 ∧ x10 ≤ 4) (k11 : 0 ≤ x11 ∧ x11 ≤ 5999) (k12 : 1 ≤ x12 ∧ x12 ≤ 1) (k13 : 0 ≤ x13 ∧ x13 ≤ 1000000) (d0 : x8 + (-1) ≤ x13 ∧ x13 ≤ x8 + (-1)) (f0 : x13 = x8 - x12) (f1 : STQ (wide_0) (tall_0) (barredPoint_0) (x6) (x7) (x11)) (f2 : ((-1) ≤ x11) ∧ ((x11 + 1) ≤ (wide_0 * tall_0))) (f3 : 0 ≤ x7) (f4 : x10 ≤ x9) (f5 : GRX (wide_0) (tall_0)) (f6 : RTV (wide_0) (tall_0) (barredPoint_0) (costOf_0) (x3)) (f7 : (0 ≤ x3) ∧ ((x3 + 1) ≤ (wide_0 * tall_0))) (f8 : (0 ≤ x6) ∧ ((x6 + 1) ≤ (wide_0 * tall_0))) (f9 : BB1 (wide_0) (tall_0) (barredPoint_0) (costOf_0) (x6) (x7) (x8) (x9)) (f10 : x5 = 0) (hK_0_140 : ∀ j : Int, 0 ≤ j → j < 24000 → 0 ≤ costOf_0 j ∧ costOf_0 j ≤ 1000000) (hK_0_143 : ∀ j : Int, 0 ≤ j → j < 6000 → 0 ≤ barredPoint_0 j ∧ barredPoint_0 j ≤ 1) (kz_0_146 : (-2147483648) ≤ wide_0 ∧ wide_0 ≤ 2147483647) (kz_0_147 : (-2147483648) ≤ tall_0 ∧ tall_0 ≤ 2147483647) (ex2 : gx = 1000000) (ex3 : (-2) ≤ gx ∧ gx ≤ 1000000) : GRX (wide_0) (tall_0) := by
  assumption
set_option maxHeartbeats 4000000 in
theorem vc_Mo_bendsBecome_2_1 (x3 : Int) (x5 : Int) (x6 : Int) (x7 : Int) (x8 : Int) (x9 : Int) (x10 : Int) (x11 : Int) (x12 : Int) (x13 : Int) (barredPoint_0 : Int → Int) (wide_0 : Int) (tall_0 : Int) (costOf_0 : Int → Int) (gx : Int) (k3 : 0 ≤ x3 ∧ x3 ≤ 5999) (k5 : 0 ≤ x5 ∧ x5 ≤ 0) (k6 : 0 ≤ x6 ∧ x6 ≤ 5999) (k7 : 0 ≤ x7 ∧ x7 ≤ 3) (k8 : 1 ≤ x8 ∧ x8 ≤ 1000001) (k9 : 4 ≤ x9 ∧ x9 ≤ 4) (k10 : 4 ≤ x10 ∧ x10 ≤ 4) (k11 : 0 ≤ x11 ∧ x11 ≤ 5999) (k12 : 1 ≤ x12 ∧ x12 ≤ 1) (k13 : 0 ≤ x13 ∧ x13 ≤ 1000000) (d0 : x8 + (-1) ≤ x13 ∧ x13 ≤ x8 + (-1)) (f0 : x13 = x8 - x12) (f1 : STQ (wide_0) (tall_0) (barredPoint_0) (x6) (x7) (x11)) (f2 : ((-1) ≤ x11) ∧ ((x11 + 1) ≤ (wide_0 * tall_0))) (f3 : 0 ≤ x7) (f4 : x10 ≤ x9) (f5 : GRX (wide_0) (tall_0)) (f6 : RTV (wide_0) (tall_0) (barredPoint_0) (costOf_0) (x3)) (f7 : (0 ≤ x3) ∧ ((x3 + 1) ≤ (wide_0 * tall_0))) (f8 : (0 ≤ x6) ∧ ((x6 + 1) ≤ (wide_0 * tall_0))) (f9 : BB1 (wide_0) (tall_0) (barredPoint_0) (costOf_0) (x6) (x7) (x8) (x9)) (f10 : x5 = 0) (hK_0_140 : ∀ j : Int, 0 ≤ j → j < 24000 → 0 ≤ costOf_0 j ∧ costOf_0 j ≤ 1000000) (hK_0_143 : ∀ j : Int, 0 ≤ j → j < 6000 → 0 ≤ barredPoint_0 j ∧ barredPoint_0 j ≤ 1) (kz_0_146 : (-2147483648) ≤ wide_0 ∧ wide_0 ≤ 2147483647) (kz_0_147 : (-2147483648) ≤ tall_0 ∧ tall_0 ≤ 2147483647) (ex2 : gx = 1000000) (ex3 : (-2) ≤ gx ∧ gx ≤ 1000000) : RTV (wide_0) (tall_0) (barredPoint_0) (costOf_0) (x3) := by
  assumption
set_option maxHeartbeats 4000000 in
theorem vc_Mo_bendsBecome_2_2 (x3 : Int) (x5 : Int) (x6 : Int) (x7 : Int) (x8 : Int) (x9 : Int) (x10 : Int) (x11 : Int) (x12 : Int) (x13 : Int) (barredPoint_0 : Int → Int) (wide_0 : Int) (tall_0 : Int) (costOf_0 : Int → Int) (gx : Int) (k3 : 0 ≤ x3 ∧ x3 ≤ 5999) (k5 : 0 ≤ x5 ∧ x5 ≤ 0) (k6 : 0 ≤ x6 ∧ x6 ≤ 5999) (k7 : 0 ≤ x7 ∧ x7 ≤ 3) (k8 : 1 ≤ x8 ∧ x8 ≤ 1000001) (k9 : 4 ≤ x9 ∧ x9 ≤ 4) (k10 : 4 ≤ x10 ∧ x10 ≤ 4) (k11 : 0 ≤ x11 ∧ x11 ≤ 5999) (k12 : 1 ≤ x12 ∧ x12 ≤ 1) (k13 : 0 ≤ x13 ∧ x13 ≤ 1000000) (d0 : x8 + (-1) ≤ x13 ∧ x13 ≤ x8 + (-1)) (f0 : x13 = x8 - x12) (f1 : STQ (wide_0) (tall_0) (barredPoint_0) (x6) (x7) (x11)) (f2 : ((-1) ≤ x11) ∧ ((x11 + 1) ≤ (wide_0 * tall_0))) (f3 : 0 ≤ x7) (f4 : x10 ≤ x9) (f5 : GRX (wide_0) (tall_0)) (f6 : RTV (wide_0) (tall_0) (barredPoint_0) (costOf_0) (x3)) (f7 : (0 ≤ x3) ∧ ((x3 + 1) ≤ (wide_0 * tall_0))) (f8 : (0 ≤ x6) ∧ ((x6 + 1) ≤ (wide_0 * tall_0))) (f9 : BB1 (wide_0) (tall_0) (barredPoint_0) (costOf_0) (x6) (x7) (x8) (x9)) (f10 : x5 = 0) (hK_0_140 : ∀ j : Int, 0 ≤ j → j < 24000 → 0 ≤ costOf_0 j ∧ costOf_0 j ≤ 1000000) (hK_0_143 : ∀ j : Int, 0 ≤ j → j < 6000 → 0 ≤ barredPoint_0 j ∧ barredPoint_0 j ≤ 1) (kz_0_146 : (-2147483648) ≤ wide_0 ∧ wide_0 ≤ 2147483647) (kz_0_147 : (-2147483648) ≤ tall_0 ∧ tall_0 ≤ 2147483647) (ex2 : gx = 1000000) (ex3 : (-2) ≤ gx ∧ gx ≤ 1000000) : (0 ≤ x3) ∧ ((x3 + 1) ≤ (wide_0 * tall_0)) := by
  first
    | omega
    | (have h := bb2_start (t := x13) ‹RTV _ _ _ _ _› ‹BB1 _ _ _ _ _ _ _ _› (by omega) ‹STQ _ _ _ _ _ _› (by omega)
       have h1 := h.1
       have h2 := h.2.2.2.2
       omega)
    | (have h := bb_next ‹RTV _ _ _ _ _› ‹BB2 _ _ _ _ _ _ _› ‹BB3 _ _ _ _ _ _ _ _ _ _› (by omega) (by omega)
       have h1 := h.1.1
       have h2 := h.2
       omega)
set_option maxHeartbeats 4000000 in
theorem vc_Mo_bendsBecome_2_3 (x3 : Int) (x5 : Int) (x6 : Int) (x7 : Int) (x8 : Int) (x9 : Int) (x10 : Int) (x11 : Int) (x12 : Int) (x13 : Int) (barredPoint_0 : Int → Int) (wide_0 : Int) (tall_0 : Int) (costOf_0 : Int → Int) (gx : Int) (k3 : 0 ≤ x3 ∧ x3 ≤ 5999) (k5 : 0 ≤ x5 ∧ x5 ≤ 0) (k6 : 0 ≤ x6 ∧ x6 ≤ 5999) (k7 : 0 ≤ x7 ∧ x7 ≤ 3) (k8 : 1 ≤ x8 ∧ x8 ≤ 1000001) (k9 : 4 ≤ x9 ∧ x9 ≤ 4) (k10 : 4 ≤ x10 ∧ x10 ≤ 4) (k11 : 0 ≤ x11 ∧ x11 ≤ 5999) (k12 : 1 ≤ x12 ∧ x12 ≤ 1) (k13 : 0 ≤ x13 ∧ x13 ≤ 1000000) (d0 : x8 + (-1) ≤ x13 ∧ x13 ≤ x8 + (-1)) (f0 : x13 = x8 - x12) (f1 : STQ (wide_0) (tall_0) (barredPoint_0) (x6) (x7) (x11)) (f2 : ((-1) ≤ x11) ∧ ((x11 + 1) ≤ (wide_0 * tall_0))) (f3 : 0 ≤ x7) (f4 : x10 ≤ x9) (f5 : GRX (wide_0) (tall_0)) (f6 : RTV (wide_0) (tall_0) (barredPoint_0) (costOf_0) (x3)) (f7 : (0 ≤ x3) ∧ ((x3 + 1) ≤ (wide_0 * tall_0))) (f8 : (0 ≤ x6) ∧ ((x6 + 1) ≤ (wide_0 * tall_0))) (f9 : BB1 (wide_0) (tall_0) (barredPoint_0) (costOf_0) (x6) (x7) (x8) (x9)) (f10 : x5 = 0) (hK_0_140 : ∀ j : Int, 0 ≤ j → j < 24000 → 0 ≤ costOf_0 j ∧ costOf_0 j ≤ 1000000) (hK_0_143 : ∀ j : Int, 0 ≤ j → j < 6000 → 0 ≤ barredPoint_0 j ∧ barredPoint_0 j ≤ 1) (kz_0_146 : (-2147483648) ≤ wide_0 ∧ wide_0 ≤ 2147483647) (kz_0_147 : (-2147483648) ≤ tall_0 ∧ tall_0 ≤ 2147483647) (ex2 : gx = 1000000) (ex3 : (-2) ≤ gx ∧ gx ≤ 1000000) : BB2 (wide_0) (tall_0) (barredPoint_0) (costOf_0) (x11) (x7) (x13) := by
  first
    | exact bb2_start ‹RTV _ _ _ _ _› ‹BB1 _ _ _ _ _ _ _ _› (by omega) ‹STQ _ _ _ _ _ _› (by omega)
    | exact bb2_next ‹RTV _ _ _ _ _› ‹BB2 _ _ _ _ _ _ _› ‹BB3 _ _ _ _ _ _ _ _ _ _› (by omega) (by omega) ‹STQ _ _ _ _ _ _›
    | sorry
set_option maxHeartbeats 4000000 in
theorem vc_Mo_bendsBecome_2_4 (x3 : Int) (x5 : Int) (x6 : Int) (x7 : Int) (x8 : Int) (x9 : Int) (x10 : Int) (x11 : Int) (x12 : Int) (x13 : Int) (barredPoint_0 : Int → Int) (wide_0 : Int) (tall_0 : Int) (costOf_0 : Int → Int) (gx : Int) (k3 : 0 ≤ x3 ∧ x3 ≤ 5999) (k5 : 0 ≤ x5 ∧ x5 ≤ 0) (k6 : 0 ≤ x6 ∧ x6 ≤ 5999) (k7 : 0 ≤ x7 ∧ x7 ≤ 3) (k8 : 1 ≤ x8 ∧ x8 ≤ 1000001) (k9 : 4 ≤ x9 ∧ x9 ≤ 4) (k10 : 4 ≤ x10 ∧ x10 ≤ 4) (k11 : 0 ≤ x11 ∧ x11 ≤ 5999) (k12 : 1 ≤ x12 ∧ x12 ≤ 1) (k13 : 0 ≤ x13 ∧ x13 ≤ 1000000) (d0 : x8 + (-1) ≤ x13 ∧ x13 ≤ x8 + (-1)) (f0 : x13 = x8 - x12) (f1 : STQ (wide_0) (tall_0) (barredPoint_0) (x6) (x7) (x11)) (f2 : ((-1) ≤ x11) ∧ ((x11 + 1) ≤ (wide_0 * tall_0))) (f3 : 0 ≤ x7) (f4 : x10 ≤ x9) (f5 : GRX (wide_0) (tall_0)) (f6 : RTV (wide_0) (tall_0) (barredPoint_0) (costOf_0) (x3)) (f7 : (0 ≤ x3) ∧ ((x3 + 1) ≤ (wide_0 * tall_0))) (f8 : (0 ≤ x6) ∧ ((x6 + 1) ≤ (wide_0 * tall_0))) (f9 : BB1 (wide_0) (tall_0) (barredPoint_0) (costOf_0) (x6) (x7) (x8) (x9)) (f10 : x5 = 0) (hK_0_140 : ∀ j : Int, 0 ≤ j → j < 24000 → 0 ≤ costOf_0 j ∧ costOf_0 j ≤ 1000000) (hK_0_143 : ∀ j : Int, 0 ≤ j → j < 6000 → 0 ≤ barredPoint_0 j ∧ barredPoint_0 j ≤ 1) (kz_0_146 : (-2147483648) ≤ wide_0 ∧ wide_0 ≤ 2147483647) (kz_0_147 : (-2147483648) ≤ tall_0 ∧ tall_0 ≤ 2147483647) (ex2 : gx = 1000000) (ex3 : (-2) ≤ gx ∧ gx ≤ 1000000) : (0 ≤ x11) ∧ ((x11 + 1) ≤ (wide_0 * tall_0)) := by
  first
    | omega
    | (have h := bb2_start (t := x13) ‹RTV _ _ _ _ _› ‹BB1 _ _ _ _ _ _ _ _› (by omega) ‹STQ _ _ _ _ _ _› (by omega)
       have h1 := h.1
       have h2 := h.2.2.2.2
       omega)
    | (have h := bb_next ‹RTV _ _ _ _ _› ‹BB2 _ _ _ _ _ _ _› ‹BB3 _ _ _ _ _ _ _ _ _ _› (by omega) (by omega)
       have h1 := h.1.1
       have h2 := h.2
       omega)
set_option maxHeartbeats 4000000 in
theorem vc_Mo_bendsBecome_2_5 (x3 : Int) (x5 : Int) (x6 : Int) (x7 : Int) (x8 : Int) (x9 : Int) (x10 : Int) (x11 : Int) (x12 : Int) (x13 : Int) (barredPoint_0 : Int → Int) (wide_0 : Int) (tall_0 : Int) (costOf_0 : Int → Int) (gx : Int) (k3 : 0 ≤ x3 ∧ x3 ≤ 5999) (k5 : 0 ≤ x5 ∧ x5 ≤ 0) (k6 : 0 ≤ x6 ∧ x6 ≤ 5999) (k7 : 0 ≤ x7 ∧ x7 ≤ 3) (k8 : 1 ≤ x8 ∧ x8 ≤ 1000001) (k9 : 4 ≤ x9 ∧ x9 ≤ 4) (k10 : 4 ≤ x10 ∧ x10 ≤ 4) (k11 : 0 ≤ x11 ∧ x11 ≤ 5999) (k12 : 1 ≤ x12 ∧ x12 ≤ 1) (k13 : 0 ≤ x13 ∧ x13 ≤ 1000000) (d0 : x8 + (-1) ≤ x13 ∧ x13 ≤ x8 + (-1)) (f0 : x13 = x8 - x12) (f1 : STQ (wide_0) (tall_0) (barredPoint_0) (x6) (x7) (x11)) (f2 : ((-1) ≤ x11) ∧ ((x11 + 1) ≤ (wide_0 * tall_0))) (f3 : 0 ≤ x7) (f4 : x10 ≤ x9) (f5 : GRX (wide_0) (tall_0)) (f6 : RTV (wide_0) (tall_0) (barredPoint_0) (costOf_0) (x3)) (f7 : (0 ≤ x3) ∧ ((x3 + 1) ≤ (wide_0 * tall_0))) (f8 : (0 ≤ x6) ∧ ((x6 + 1) ≤ (wide_0 * tall_0))) (f9 : BB1 (wide_0) (tall_0) (barredPoint_0) (costOf_0) (x6) (x7) (x8) (x9)) (f10 : x5 = 0) (hK_0_140 : ∀ j : Int, 0 ≤ j → j < 24000 → 0 ≤ costOf_0 j ∧ costOf_0 j ≤ 1000000) (hK_0_143 : ∀ j : Int, 0 ≤ j → j < 6000 → 0 ≤ barredPoint_0 j ∧ barredPoint_0 j ≤ 1) (kz_0_146 : (-2147483648) ≤ wide_0 ∧ wide_0 ≤ 2147483647) (kz_0_147 : (-2147483648) ≤ tall_0 ∧ tall_0 ≤ 2147483647) (ex2 : gx = 1000000) (ex3 : (-2) ≤ gx ∧ gx ≤ 1000000) : (x5 + x13) ≤ 1000000 := by
  first
    | omega
    | (have h := bb2_start (t := x13) ‹RTV _ _ _ _ _› ‹BB1 _ _ _ _ _ _ _ _› (by omega) ‹STQ _ _ _ _ _ _› (by omega)
       have h1 := h.1
       have h2 := h.2.2.2.2
       omega)
    | (have h := bb_next ‹RTV _ _ _ _ _› ‹BB2 _ _ _ _ _ _ _› ‹BB3 _ _ _ _ _ _ _ _ _ _› (by omega) (by omega)
       have h1 := h.1.1
       have h2 := h.2
       omega)
set_option maxHeartbeats 4000000 in
theorem vc_Mo_bendsBecome_2_6 (x3 : Int) (x5 : Int) (x6 : Int) (x7 : Int) (x8 : Int) (x9 : Int) (x10 : Int) (x11 : Int) (x12 : Int) (x13 : Int) (barredPoint_0 : Int → Int) (wide_0 : Int) (tall_0 : Int) (costOf_0 : Int → Int) (gx : Int) (k3 : 0 ≤ x3 ∧ x3 ≤ 5999) (k5 : 0 ≤ x5 ∧ x5 ≤ 0) (k6 : 0 ≤ x6 ∧ x6 ≤ 5999) (k7 : 0 ≤ x7 ∧ x7 ≤ 3) (k8 : 1 ≤ x8 ∧ x8 ≤ 1000001) (k9 : 4 ≤ x9 ∧ x9 ≤ 4) (k10 : 4 ≤ x10 ∧ x10 ≤ 4) (k11 : 0 ≤ x11 ∧ x11 ≤ 5999) (k12 : 1 ≤ x12 ∧ x12 ≤ 1) (k13 : 0 ≤ x13 ∧ x13 ≤ 1000000) (d0 : x8 + (-1) ≤ x13 ∧ x13 ≤ x8 + (-1)) (f0 : x13 = x8 - x12) (f1 : STQ (wide_0) (tall_0) (barredPoint_0) (x6) (x7) (x11)) (f2 : ((-1) ≤ x11) ∧ ((x11 + 1) ≤ (wide_0 * tall_0))) (f3 : 0 ≤ x7) (f4 : x10 ≤ x9) (f5 : GRX (wide_0) (tall_0)) (f6 : RTV (wide_0) (tall_0) (barredPoint_0) (costOf_0) (x3)) (f7 : (0 ≤ x3) ∧ ((x3 + 1) ≤ (wide_0 * tall_0))) (f8 : (0 ≤ x6) ∧ ((x6 + 1) ≤ (wide_0 * tall_0))) (f9 : BB1 (wide_0) (tall_0) (barredPoint_0) (costOf_0) (x6) (x7) (x8) (x9)) (f10 : x5 = 0) (hK_0_140 : ∀ j : Int, 0 ≤ j → j < 24000 → 0 ≤ costOf_0 j ∧ costOf_0 j ≤ 1000000) (hK_0_143 : ∀ j : Int, 0 ≤ j → j < 6000 → 0 ≤ barredPoint_0 j ∧ barredPoint_0 j ≤ 1) (kz_0_146 : (-2147483648) ≤ wide_0 ∧ wide_0 ≤ 2147483647) (kz_0_147 : (-2147483648) ≤ tall_0 ∧ tall_0 ≤ 2147483647) (ex2 : gx = 1000000) (ex3 : (-2) ≤ gx ∧ gx ≤ 1000000) : 0 ≤ x5 := by
  first
    | omega
    | (have h := bb2_start (t := x13) ‹RTV _ _ _ _ _› ‹BB1 _ _ _ _ _ _ _ _› (by omega) ‹STQ _ _ _ _ _ _› (by omega)
       have h1 := h.1
       have h2 := h.2.2.2.2
       omega)
    | (have h := bb_next ‹RTV _ _ _ _ _› ‹BB2 _ _ _ _ _ _ _› ‹BB3 _ _ _ _ _ _ _ _ _ _› (by omega) (by omega)
       have h1 := h.1.1
       have h2 := h.2
       omega)
set_option maxHeartbeats 4000000 in
theorem vc_Mo_bendsBecome_2_7 (x3 : Int) (x5 : Int) (x6 : Int) (x7 : Int) (x8 : Int) (x9 : Int) (x10 : Int) (x11 : Int) (x12 : Int) (x13 : Int) (barredPoint_0 : Int → Int) (wide_0 : Int) (tall_0 : Int) (costOf_0 : Int → Int) (gx : Int) (k3 : 0 ≤ x3 ∧ x3 ≤ 5999) (k5 : 0 ≤ x5 ∧ x5 ≤ 0) (k6 : 0 ≤ x6 ∧ x6 ≤ 5999) (k7 : 0 ≤ x7 ∧ x7 ≤ 3) (k8 : 1 ≤ x8 ∧ x8 ≤ 1000001) (k9 : 4 ≤ x9 ∧ x9 ≤ 4) (k10 : 4 ≤ x10 ∧ x10 ≤ 4) (k11 : 0 ≤ x11 ∧ x11 ≤ 5999) (k12 : 1 ≤ x12 ∧ x12 ≤ 1) (k13 : 0 ≤ x13 ∧ x13 ≤ 1000000) (d0 : x8 + (-1) ≤ x13 ∧ x13 ≤ x8 + (-1)) (f0 : x13 = x8 - x12) (f1 : STQ (wide_0) (tall_0) (barredPoint_0) (x6) (x7) (x11)) (f2 : ((-1) ≤ x11) ∧ ((x11 + 1) ≤ (wide_0 * tall_0))) (f3 : 0 ≤ x7) (f4 : x10 ≤ x9) (f5 : GRX (wide_0) (tall_0)) (f6 : RTV (wide_0) (tall_0) (barredPoint_0) (costOf_0) (x3)) (f7 : (0 ≤ x3) ∧ ((x3 + 1) ≤ (wide_0 * tall_0))) (f8 : (0 ≤ x6) ∧ ((x6 + 1) ≤ (wide_0 * tall_0))) (f9 : BB1 (wide_0) (tall_0) (barredPoint_0) (costOf_0) (x6) (x7) (x8) (x9)) (f10 : x5 = 0) (hK_0_140 : ∀ j : Int, 0 ≤ j → j < 24000 → 0 ≤ costOf_0 j ∧ costOf_0 j ≤ 1000000) (hK_0_143 : ∀ j : Int, 0 ≤ j → j < 6000 → 0 ≤ barredPoint_0 j ∧ barredPoint_0 j ≤ 1) (kz_0_146 : (-2147483648) ≤ wide_0 ∧ wide_0 ≤ 2147483647) (kz_0_147 : (-2147483648) ≤ tall_0 ∧ tall_0 ≤ 2147483647) (ex2 : gx = 1000000) (ex3 : (-2) ≤ gx ∧ gx ≤ 1000000) : (0 ≤ x13) ∧ (x13 ≤ gx) := by
  first
    | omega
    | (have h := bb2_start (t := x13) ‹RTV _ _ _ _ _› ‹BB1 _ _ _ _ _ _ _ _› (by omega) ‹STQ _ _ _ _ _ _› (by omega)
       have h1 := h.1
       have h2 := h.2.2.2.2
       omega)
    | (have h := bb_next ‹RTV _ _ _ _ _› ‹BB2 _ _ _ _ _ _ _› ‹BB3 _ _ _ _ _ _ _ _ _ _› (by omega) (by omega)
       have h1 := h.1.1
       have h2 := h.2
       omega)
def o_Mo_bendsBecome_2 : or_T := (112, 14, [(0, (2, 0, 0, [150])), (3, (0, 0, 5999, [])), (5, (0, 0, 0, [])), (6, (0, 0, 5999, [])), (7, (0, 0, 3, [])), (8, (0, 1, 1000001, [])), (9, (0, 4, 4, [])), (10, (0, 4, 4, [])), (11, (0, 0, 5999, [])), (12, (0, 1, 1, [])), (13, (0, 0, 1000000, []))], [(2, [13, 8, 12], []), (20, [0, 6, 7, 11], [60, 2, 1, 429, 146, 147, 143]), (20, [11, 0], [50, 2, 0, 1146, 1147, 2, 6, 0, 2, 0, -1, 1, 0, 0, 6, 4, 2, 1, 0, 0, 1, 6, 3, 2, 1, 146, 2, 1, 147]), (8, [7], [3]), (7, [9, 10], [3]), (20, [0], [60, 2, 0, 418, 146, 147]), (20, [0, 3], [60, 2, 2, 428, 146, 147, 143, 140]), (20, [3, 0], [50, 2, 0, 1146, 1147, 2, 6, 0, 2, 0, 0, 1, 0, 0, 6, 4, 2, 1, 0, 0, 1, 6, 3, 2, 1, 146, 2, 1, 147]), (20, [6, 0], [50, 2, 0, 1146, 1147, 2, 6, 0, 2, 0, 0, 1, 0, 0, 6, 4, 2, 1, 0, 0, 1, 6, 3, 2, 1, 146, 2, 1, 147]), (20, [0, 6, 7, 8, 9], [60, 2, 2, 430, 146, 147, 143, 140]), (20, [5], [50, 0, 0, 1, 2, 1, 0, 0, 0])], [], [(0, -2, 1000000, [])], [(20, [0], [60, 2, 0, 418, 146, 147]), (20, [0, 3], [60, 2, 2, 428, 146, 147, 143, 140]), (20, [3, 0], [50, 2, 0, 1146, 1147, 2, 6, 0, 2, 0, 0, 1, 0, 0, 6, 4, 2, 1, 0, 0, 1, 6, 3, 2, 1, 146, 2, 1, 147]), (20, [0, 11, 7, 13], [60, 2, 2, 431, 146, 147, 143, 140]), (20, [11, 0], [50, 2, 0, 1146, 1147, 2, 6, 0, 2, 0, 0, 1, 0, 0, 6, 4, 2, 1, 0, 0, 1, 6, 3, 2, 1, 146, 2, 1, 147]), (20, [5, 13], [50, 0, 0, 0, 6, 4, 2, 1, 0, 1, 1, 0, 1000000]), (20, [5], [50, 0, 0, 0, 2, 0, 0, 1, 0]), (20, [13, 14], [50, 0, 0, 2, 6, 0, 2, 0, 0, 1, 0, 0, 2, 1, 0, 1, 1])], [], [(13, 8, -1, -1)])
theorem oo_Mo_bendsBecome_2 {kA : Nat → ClassId} : or_ok PRD kA GG o_Mo_bendsBecome_2 := by
  intro A ta ws vs hD hth hl hk hds hf
  have hl : vs.length = 14 := hl
  have hk : ∀ q ∈ ([(0, (2, 0, 0, [150])), (3, (0, 0, 5999, [])), (5, (0, 0, 0, [])), (6, (0, 0, 5999, [])), (7, (0, 0, 3, [])), (8, (0, 1, 1000001, [])), (9, (0, 4, 4, [])), (10, (0, 4, 4, [])), (11, (0, 0, 5999, [])), (12, (0, 1, 1, [])), (13, (0, 0, 1000000, []))] : List (Nat × tv_T)), tv_ok ta q.2 (n_v vs q.1) := hk
  obtain ⟨t0, hk⟩ := List.forall_mem_cons.mp hk
  have t0 : tv_ok ta (2, 0, 0, [150]) (n_v vs 0) := t0
  have r0 : ta (v_ad (n_v vs 0)) = some 150 := tv_rg t0
  obtain ⟨t3, hk⟩ := List.forall_mem_cons.mp hk
  have t3 : tv_ok ta (0, 0, 5999, []) (n_v vs 3) := t3
  have k3 : 0 ≤ v_iv (n_v vs 3) ∧ v_iv (n_v vs 3) ≤ 5999 := tv_rng t3
  obtain ⟨t5, hk⟩ := List.forall_mem_cons.mp hk
  have t5 : tv_ok ta (0, 0, 0, []) (n_v vs 5) := t5
  have k5 : 0 ≤ v_iv (n_v vs 5) ∧ v_iv (n_v vs 5) ≤ 0 := tv_rng t5
  obtain ⟨t6, hk⟩ := List.forall_mem_cons.mp hk
  have t6 : tv_ok ta (0, 0, 5999, []) (n_v vs 6) := t6
  have k6 : 0 ≤ v_iv (n_v vs 6) ∧ v_iv (n_v vs 6) ≤ 5999 := tv_rng t6
  obtain ⟨t7, hk⟩ := List.forall_mem_cons.mp hk
  have t7 : tv_ok ta (0, 0, 3, []) (n_v vs 7) := t7
  have k7 : 0 ≤ v_iv (n_v vs 7) ∧ v_iv (n_v vs 7) ≤ 3 := tv_rng t7
  obtain ⟨t8, hk⟩ := List.forall_mem_cons.mp hk
  have t8 : tv_ok ta (0, 1, 1000001, []) (n_v vs 8) := t8
  have k8 : 1 ≤ v_iv (n_v vs 8) ∧ v_iv (n_v vs 8) ≤ 1000001 := tv_rng t8
  obtain ⟨t9, hk⟩ := List.forall_mem_cons.mp hk
  have t9 : tv_ok ta (0, 4, 4, []) (n_v vs 9) := t9
  have k9 : 4 ≤ v_iv (n_v vs 9) ∧ v_iv (n_v vs 9) ≤ 4 := tv_rng t9
  obtain ⟨t10, hk⟩ := List.forall_mem_cons.mp hk
  have t10 : tv_ok ta (0, 4, 4, []) (n_v vs 10) := t10
  have k10 : 4 ≤ v_iv (n_v vs 10) ∧ v_iv (n_v vs 10) ≤ 4 := tv_rng t10
  obtain ⟨t11, hk⟩ := List.forall_mem_cons.mp hk
  have t11 : tv_ok ta (0, 0, 5999, []) (n_v vs 11) := t11
  have k11 : 0 ≤ v_iv (n_v vs 11) ∧ v_iv (n_v vs 11) ≤ 5999 := tv_rng t11
  obtain ⟨t12, hk⟩ := List.forall_mem_cons.mp hk
  have t12 : tv_ok ta (0, 1, 1, []) (n_v vs 12) := t12
  have k12 : 1 ≤ v_iv (n_v vs 12) ∧ v_iv (n_v vs 12) ≤ 1 := tv_rng t12
  obtain ⟨t13, hk⟩ := List.forall_mem_cons.mp hk
  have t13 : tv_ok ta (0, 0, 1000000, []) (n_v vs 13) := t13
  have k13 : 0 ≤ v_iv (n_v vs 13) ∧ v_iv (n_v vs 13) ≤ 1000000 := tv_rng t13
  have hds : ∀ q ∈ ([(13, 8, -1, -1)] : List of_T), n_iv vs q.2.1 + q.2.2.1 ≤ n_iv vs q.1 ∧ n_iv vs q.1 ≤ n_iv vs q.2.1 + q.2.2.2 := hds
  obtain ⟨d0, hds⟩ := List.forall_mem_cons.mp hds
  have d0 : v_iv (n_v vs 8) + (-1) ≤ v_iv (n_v vs 13) ∧ v_iv (n_v vs 13) ≤ v_iv (n_v vs 8) + (-1) := d0
  have hf : fc_ok PRD [(2, [13, 8, 12], []), (20, [0, 6, 7, 11], [60, 2, 1, 429, 146, 147, 143]), (20, [11, 0], [50, 2, 0, 1146, 1147, 2, 6, 0, 2, 0, -1, 1, 0, 0, 6, 4, 2, 1, 0, 0, 1, 6, 3, 2, 1, 146, 2, 1, 147]), (8, [7], [3]), (7, [9, 10], [3]), (20, [0], [60, 2, 0, 418, 146, 147]), (20, [0, 3], [60, 2, 2, 428, 146, 147, 143, 140]), (20, [3, 0], [50, 2, 0, 1146, 1147, 2, 6, 0, 2, 0, 0, 1, 0, 0, 6, 4, 2, 1, 0, 0, 1, 6, 3, 2, 1, 146, 2, 1, 147]), (20, [6, 0], [50, 2, 0, 1146, 1147, 2, 6, 0, 2, 0, 0, 1, 0, 0, 6, 4, 2, 1, 0, 0, 1, 6, 3, 2, 1, 146, 2, 1, 147]), (20, [0, 6, 7, 8, 9], [60, 2, 2, 430, 146, 147, 143, 140]), (20, [5], [50, 0, 0, 1, 2, 1, 0, 0, 0])] ta ws vs := hf
  obtain ⟨f0, hf⟩ := fc_un (show (2 : Nat) < 100 from by decide) hf
  have f0 : v_iv (n_v vs 13) = v_iv (n_v vs 8) - v_iv (n_v vs 12) := f0
  obtain ⟨f1, hf⟩ := fc_un (show (20 : Nat) < 100 from by decide) hf
  have f1 : STQ (w_fi ws (n_v vs 0) 146) (w_fi ws (n_v vs 0) 147) (w_ei ws (w_ar ws (n_v vs 0) 143)) (v_iv (n_v vs 6)) (v_iv (n_v vs 7)) (v_iv (n_v vs 11)) := f1
  obtain ⟨f2, hf⟩ := fc_un (show (20 : Nat) < 100 from by decide) hf
  have f2 : ((-1) ≤ v_iv (n_v vs 11)) ∧ ((v_iv (n_v vs 11) + 1) ≤ (w_fi ws (n_v vs 0) 146 * w_fi ws (n_v vs 0) 147)) := f2
  obtain ⟨f3, hf⟩ := fc_un (show (8 : Nat) < 100 from by decide) hf
  have f3 : 0 ≤ v_iv (n_v vs 7) := f3
  obtain ⟨f4, hf⟩ := fc_un (show (7 : Nat) < 100 from by decide) hf
  have f4 : v_iv (n_v vs 10) ≤ v_iv (n_v vs 9) := f4
  obtain ⟨f5, hf⟩ := fc_un (show (20 : Nat) < 100 from by decide) hf
  have f5 : GRX (w_fi ws (n_v vs 0) 146) (w_fi ws (n_v vs 0) 147) := f5
  obtain ⟨f6, hf⟩ := fc_un (show (20 : Nat) < 100 from by decide) hf
  have f6 : RTV (w_fi ws (n_v vs 0) 146) (w_fi ws (n_v vs 0) 147) (w_ei ws (w_ar ws (n_v vs 0) 143)) (w_ei ws (w_ar ws (n_v vs 0) 140)) (v_iv (n_v vs 3)) := f6
  obtain ⟨f7, hf⟩ := fc_un (show (20 : Nat) < 100 from by decide) hf
  have f7 : (0 ≤ v_iv (n_v vs 3)) ∧ ((v_iv (n_v vs 3) + 1) ≤ (w_fi ws (n_v vs 0) 146 * w_fi ws (n_v vs 0) 147)) := f7
  obtain ⟨f8, hf⟩ := fc_un (show (20 : Nat) < 100 from by decide) hf
  have f8 : (0 ≤ v_iv (n_v vs 6)) ∧ ((v_iv (n_v vs 6) + 1) ≤ (w_fi ws (n_v vs 0) 146 * w_fi ws (n_v vs 0) 147)) := f8
  obtain ⟨f9, hf⟩ := fc_un (show (20 : Nat) < 100 from by decide) hf
  have f9 : BB1 (w_fi ws (n_v vs 0) 146) (w_fi ws (n_v vs 0) 147) (w_ei ws (w_ar ws (n_v vs 0) 143)) (w_ei ws (w_ar ws (n_v vs 0) 140)) (v_iv (n_v vs 6)) (v_iv (n_v vs 7)) (v_iv (n_v vs 8)) (v_iv (n_v vs 9)) := f9
  obtain ⟨f10, hf⟩ := fc_un (show (20 : Nat) < 100 from by decide) hf
  have f10 : v_iv (n_v vs 5) = 0 := f10
  have cr_0_140 : ta (w_ar ws (n_v vs 0) 140) = some 251 := tv_rg (th_fd hD hth r0 (g := GG_150) rfl (k := 140) (t := (2, 0, 0, [251])) rfl rfl)
  have cr_0_143 : ta (w_ar ws (n_v vs 0) 143) = some 254 := tv_rg (th_fd hD hth r0 (g := GG_150) rfl (k := 143) (t := (2, 0, 0, [254])) rfl rfl)
  have hK_0_140 : ∀ j : Int, 0 ≤ j → j < 24000 → 0 ≤ w_ei ws (w_ar ws (n_v vs 0) 140) j ∧ w_ei ws (w_ar ws (n_v vs 0) 140) j ≤ 1000000 := fun j h0 h1 => th_el hD hth cr_0_140 (kd := 0) (n := 24000) (m := 24000) (lo := 0) (hi := 1000000) (rs := []) (L := []) rfl (by decide) (j := j.toNat) (by omega)
  have hK_0_143 : ∀ j : Int, 0 ≤ j → j < 6000 → 0 ≤ w_ei ws (w_ar ws (n_v vs 0) 143) j ∧ w_ei ws (w_ar ws (n_v vs 0) 143) j ≤ 1 := fun j h0 h1 => th_el hD hth cr_0_143 (kd := 2) (n := 6000) (m := 6000) (lo := 0) (hi := 1) (rs := []) (L := []) rfl (by decide) (j := j.toNat) (by omega)
  have kz_0_146 : (-2147483648) ≤ w_fi ws (n_v vs 0) 146 ∧ w_fi ws (n_v vs 0) 146 ≤ 2147483647 := tv_rng (th_fd hD hth r0 (g := GG_150) rfl (k := 146) (t := (0, -2147483648, 2147483647, [])) rfl rfl)
  have kz_0_147 : (-2147483648) ≤ w_fi ws (n_v vs 0) 147 ∧ w_fi ws (n_v vs 0) 147 ≤ 2147483647 := tv_rng (th_fd hD hth r0 (g := GG_150) rfl (k := 147) (t := (0, -2147483648, 2147483647, [])) rfl rfl)
  obtain ⟨x, ex, hx⟩ := iv_ex (ta := ta) (lo := (-2)) (hi := 1000000) (z := 1000000) (by omega) (by omega) (by omega) (by omega)
  have ex2 : v_iv (Value.int x) = 1000000 := ex
  have ex3 : (-2) ≤ v_iv (Value.int x) ∧ v_iv (Value.int x) ≤ 1000000 := tv_rng hx
  have e_0 : n_v (vs ++ [Value.int x]) 0 = n_v vs 0 := n_v_old (by rw [hl]; decide)
  have e_3 : n_v (vs ++ [Value.int x]) 3 = n_v vs 3 := n_v_old (by rw [hl]; decide)
  have e_5 : n_v (vs ++ [Value.int x]) 5 = n_v vs 5 := n_v_old (by rw [hl]; decide)
  have e_7 : n_v (vs ++ [Value.int x]) 7 = n_v vs 7 := n_v_old (by rw [hl]; decide)
  have e_11 : n_v (vs ++ [Value.int x]) 11 = n_v vs 11 := n_v_old (by rw [hl]; decide)
  have e_13 : n_v (vs ++ [Value.int x]) 13 = n_v vs 13 := n_v_old (by rw [hl]; decide)
  have e_14 : n_v (vs ++ [Value.int x]) 14 = Value.int x := n_v_new hl
  have nf0 : fc_1 PRD (20, [0], [60, 2, 0, 418, 146, 147]) ws (vs ++ [Value.int x]) := by
    refine ⟨fun n hn => ?_, ?_⟩
    · have hn : n ∈ [0] := hn
      rw [List.length_append, hl]
      simp only [List.mem_cons, List.not_mem_nil, or_false] at hn
      show n < 14 + 1; omega
    · show GRX (w_fi ws (n_v (vs ++ [Value.int x]) 0) 146) (w_fi ws (n_v (vs ++ [Value.int x]) 0) 147)
      rw [e_0]
      exact vc_Mo_bendsBecome_2_0 (v_iv (n_v vs 3)) (v_iv (n_v vs 5)) (v_iv (n_v vs 6)) (v_iv (n_v vs 7)) (v_iv (n_v vs 8)) (v_iv (n_v vs 9)) (v_iv (n_v vs 10)) (v_iv (n_v vs 11)) (v_iv (n_v vs 12)) (v_iv (n_v vs 13)) (w_ei ws (w_ar ws (n_v vs 0) 143)) (w_fi ws (n_v vs 0) 146) (w_fi ws (n_v vs 0) 147) (w_ei ws (w_ar ws (n_v vs 0) 140)) (v_iv (Value.int x)) k3 k5 k6 k7 k8 k9 k10 k11 k12 k13 d0 f0 f1 f2 f3 f4 f5 f6 f7 f8 f9 f10 hK_0_140 hK_0_143 kz_0_146 kz_0_147 ex2 ex3
  have nf1 : fc_1 PRD (20, [0, 3], [60, 2, 2, 428, 146, 147, 143, 140]) ws (vs ++ [Value.int x]) := by
    refine ⟨fun n hn => ?_, ?_⟩
    · have hn : n ∈ [0, 3] := hn
      rw [List.length_append, hl]
      simp only [List.mem_cons, List.not_mem_nil, or_false] at hn
      show n < 14 + 1; omega
    · show RTV (w_fi ws (n_v (vs ++ [Value.int x]) 0) 146) (w_fi ws (n_v (vs ++ [Value.int x]) 0) 147) (w_ei ws (w_ar ws (n_v (vs ++ [Value.int x]) 0) 143)) (w_ei ws (w_ar ws (n_v (vs ++ [Value.int x]) 0) 140)) (v_iv (n_v (vs ++ [Value.int x]) 3))
      rw [e_0]
      rw [e_3]
      exact vc_Mo_bendsBecome_2_1 (v_iv (n_v vs 3)) (v_iv (n_v vs 5)) (v_iv (n_v vs 6)) (v_iv (n_v vs 7)) (v_iv (n_v vs 8)) (v_iv (n_v vs 9)) (v_iv (n_v vs 10)) (v_iv (n_v vs 11)) (v_iv (n_v vs 12)) (v_iv (n_v vs 13)) (w_ei ws (w_ar ws (n_v vs 0) 143)) (w_fi ws (n_v vs 0) 146) (w_fi ws (n_v vs 0) 147) (w_ei ws (w_ar ws (n_v vs 0) 140)) (v_iv (Value.int x)) k3 k5 k6 k7 k8 k9 k10 k11 k12 k13 d0 f0 f1 f2 f3 f4 f5 f6 f7 f8 f9 f10 hK_0_140 hK_0_143 kz_0_146 kz_0_147 ex2 ex3
  have nf2 : fc_1 PRD (20, [3, 0], [50, 2, 0, 1146, 1147, 2, 6, 0, 2, 0, 0, 1, 0, 0, 6, 4, 2, 1, 0, 0, 1, 6, 3, 2, 1, 146, 2, 1, 147]) ws (vs ++ [Value.int x]) := by
    refine ⟨fun n hn => ?_, ?_⟩
    · have hn : n ∈ [3, 0] := hn
      rw [List.length_append, hl]
      simp only [List.mem_cons, List.not_mem_nil, or_false] at hn
      show n < 14 + 1; omega
    · show (0 ≤ v_iv (n_v (vs ++ [Value.int x]) 3)) ∧ ((v_iv (n_v (vs ++ [Value.int x]) 3) + 1) ≤ (w_fi ws (n_v (vs ++ [Value.int x]) 0) 146 * w_fi ws (n_v (vs ++ [Value.int x]) 0) 147))
      rw [e_0]
      rw [e_3]
      exact vc_Mo_bendsBecome_2_2 (v_iv (n_v vs 3)) (v_iv (n_v vs 5)) (v_iv (n_v vs 6)) (v_iv (n_v vs 7)) (v_iv (n_v vs 8)) (v_iv (n_v vs 9)) (v_iv (n_v vs 10)) (v_iv (n_v vs 11)) (v_iv (n_v vs 12)) (v_iv (n_v vs 13)) (w_ei ws (w_ar ws (n_v vs 0) 143)) (w_fi ws (n_v vs 0) 146) (w_fi ws (n_v vs 0) 147) (w_ei ws (w_ar ws (n_v vs 0) 140)) (v_iv (Value.int x)) k3 k5 k6 k7 k8 k9 k10 k11 k12 k13 d0 f0 f1 f2 f3 f4 f5 f6 f7 f8 f9 f10 hK_0_140 hK_0_143 kz_0_146 kz_0_147 ex2 ex3
  have nf3 : fc_1 PRD (20, [0, 11, 7, 13], [60, 2, 2, 431, 146, 147, 143, 140]) ws (vs ++ [Value.int x]) := by
    refine ⟨fun n hn => ?_, ?_⟩
    · have hn : n ∈ [0, 11, 7, 13] := hn
      rw [List.length_append, hl]
      simp only [List.mem_cons, List.not_mem_nil, or_false] at hn
      show n < 14 + 1; omega
    · show BB2 (w_fi ws (n_v (vs ++ [Value.int x]) 0) 146) (w_fi ws (n_v (vs ++ [Value.int x]) 0) 147) (w_ei ws (w_ar ws (n_v (vs ++ [Value.int x]) 0) 143)) (w_ei ws (w_ar ws (n_v (vs ++ [Value.int x]) 0) 140)) (v_iv (n_v (vs ++ [Value.int x]) 11)) (v_iv (n_v (vs ++ [Value.int x]) 7)) (v_iv (n_v (vs ++ [Value.int x]) 13))
      rw [e_0]
      rw [e_7]
      rw [e_11]
      rw [e_13]
      exact vc_Mo_bendsBecome_2_3 (v_iv (n_v vs 3)) (v_iv (n_v vs 5)) (v_iv (n_v vs 6)) (v_iv (n_v vs 7)) (v_iv (n_v vs 8)) (v_iv (n_v vs 9)) (v_iv (n_v vs 10)) (v_iv (n_v vs 11)) (v_iv (n_v vs 12)) (v_iv (n_v vs 13)) (w_ei ws (w_ar ws (n_v vs 0) 143)) (w_fi ws (n_v vs 0) 146) (w_fi ws (n_v vs 0) 147) (w_ei ws (w_ar ws (n_v vs 0) 140)) (v_iv (Value.int x)) k3 k5 k6 k7 k8 k9 k10 k11 k12 k13 d0 f0 f1 f2 f3 f4 f5 f6 f7 f8 f9 f10 hK_0_140 hK_0_143 kz_0_146 kz_0_147 ex2 ex3
  have nf4 : fc_1 PRD (20, [11, 0], [50, 2, 0, 1146, 1147, 2, 6, 0, 2, 0, 0, 1, 0, 0, 6, 4, 2, 1, 0, 0, 1, 6, 3, 2, 1, 146, 2, 1, 147]) ws (vs ++ [Value.int x]) := by
    refine ⟨fun n hn => ?_, ?_⟩
    · have hn : n ∈ [11, 0] := hn
      rw [List.length_append, hl]
      simp only [List.mem_cons, List.not_mem_nil, or_false] at hn
      show n < 14 + 1; omega
    · show (0 ≤ v_iv (n_v (vs ++ [Value.int x]) 11)) ∧ ((v_iv (n_v (vs ++ [Value.int x]) 11) + 1) ≤ (w_fi ws (n_v (vs ++ [Value.int x]) 0) 146 * w_fi ws (n_v (vs ++ [Value.int x]) 0) 147))
      rw [e_0]
      rw [e_11]
      exact vc_Mo_bendsBecome_2_4 (v_iv (n_v vs 3)) (v_iv (n_v vs 5)) (v_iv (n_v vs 6)) (v_iv (n_v vs 7)) (v_iv (n_v vs 8)) (v_iv (n_v vs 9)) (v_iv (n_v vs 10)) (v_iv (n_v vs 11)) (v_iv (n_v vs 12)) (v_iv (n_v vs 13)) (w_ei ws (w_ar ws (n_v vs 0) 143)) (w_fi ws (n_v vs 0) 146) (w_fi ws (n_v vs 0) 147) (w_ei ws (w_ar ws (n_v vs 0) 140)) (v_iv (Value.int x)) k3 k5 k6 k7 k8 k9 k10 k11 k12 k13 d0 f0 f1 f2 f3 f4 f5 f6 f7 f8 f9 f10 hK_0_140 hK_0_143 kz_0_146 kz_0_147 ex2 ex3
  have nf5 : fc_1 PRD (20, [5, 13], [50, 0, 0, 0, 6, 4, 2, 1, 0, 1, 1, 0, 1000000]) ws (vs ++ [Value.int x]) := by
    refine ⟨fun n hn => ?_, ?_⟩
    · have hn : n ∈ [5, 13] := hn
      rw [List.length_append, hl]
      simp only [List.mem_cons, List.not_mem_nil, or_false] at hn
      show n < 14 + 1; omega
    · show (v_iv (n_v (vs ++ [Value.int x]) 5) + v_iv (n_v (vs ++ [Value.int x]) 13)) ≤ 1000000
      rw [e_5]
      rw [e_13]
      exact vc_Mo_bendsBecome_2_5 (v_iv (n_v vs 3)) (v_iv (n_v vs 5)) (v_iv (n_v vs 6)) (v_iv (n_v vs 7)) (v_iv (n_v vs 8)) (v_iv (n_v vs 9)) (v_iv (n_v vs 10)) (v_iv (n_v vs 11)) (v_iv (n_v vs 12)) (v_iv (n_v vs 13)) (w_ei ws (w_ar ws (n_v vs 0) 143)) (w_fi ws (n_v vs 0) 146) (w_fi ws (n_v vs 0) 147) (w_ei ws (w_ar ws (n_v vs 0) 140)) (v_iv (Value.int x)) k3 k5 k6 k7 k8 k9 k10 k11 k12 k13 d0 f0 f1 f2 f3 f4 f5 f6 f7 f8 f9 f10 hK_0_140 hK_0_143 kz_0_146 kz_0_147 ex2 ex3
  have nf6 : fc_1 PRD (20, [5], [50, 0, 0, 0, 2, 0, 0, 1, 0]) ws (vs ++ [Value.int x]) := by
    refine ⟨fun n hn => ?_, ?_⟩
    · have hn : n ∈ [5] := hn
      rw [List.length_append, hl]
      simp only [List.mem_cons, List.not_mem_nil, or_false] at hn
      show n < 14 + 1; omega
    · show 0 ≤ v_iv (n_v (vs ++ [Value.int x]) 5)
      rw [e_5]
      exact vc_Mo_bendsBecome_2_6 (v_iv (n_v vs 3)) (v_iv (n_v vs 5)) (v_iv (n_v vs 6)) (v_iv (n_v vs 7)) (v_iv (n_v vs 8)) (v_iv (n_v vs 9)) (v_iv (n_v vs 10)) (v_iv (n_v vs 11)) (v_iv (n_v vs 12)) (v_iv (n_v vs 13)) (w_ei ws (w_ar ws (n_v vs 0) 143)) (w_fi ws (n_v vs 0) 146) (w_fi ws (n_v vs 0) 147) (w_ei ws (w_ar ws (n_v vs 0) 140)) (v_iv (Value.int x)) k3 k5 k6 k7 k8 k9 k10 k11 k12 k13 d0 f0 f1 f2 f3 f4 f5 f6 f7 f8 f9 f10 hK_0_140 hK_0_143 kz_0_146 kz_0_147 ex2 ex3
  have nf7 : fc_1 PRD (20, [13, 14], [50, 0, 0, 2, 6, 0, 2, 0, 0, 1, 0, 0, 2, 1, 0, 1, 1]) ws (vs ++ [Value.int x]) := by
    refine ⟨fun n hn => ?_, ?_⟩
    · have hn : n ∈ [13, 14] := hn
      rw [List.length_append, hl]
      simp only [List.mem_cons, List.not_mem_nil, or_false] at hn
      show n < 14 + 1; omega
    · show (0 ≤ v_iv (n_v (vs ++ [Value.int x]) 13)) ∧ (v_iv (n_v (vs ++ [Value.int x]) 13) ≤ v_iv (n_v (vs ++ [Value.int x]) 14))
      rw [e_13]
      rw [e_14]
      exact vc_Mo_bendsBecome_2_7 (v_iv (n_v vs 3)) (v_iv (n_v vs 5)) (v_iv (n_v vs 6)) (v_iv (n_v vs 7)) (v_iv (n_v vs 8)) (v_iv (n_v vs 9)) (v_iv (n_v vs 10)) (v_iv (n_v vs 11)) (v_iv (n_v vs 12)) (v_iv (n_v vs 13)) (w_ei ws (w_ar ws (n_v vs 0) 143)) (w_fi ws (n_v vs 0) 146) (w_fi ws (n_v vs 0) 147) (w_ei ws (w_ar ws (n_v vs 0) 140)) (v_iv (Value.int x)) k3 k5 k6 k7 k8 k9 k10 k11 k12 k13 d0 f0 f1 f2 f3 f4 f5 f6 f7 f8 f9 f10 hK_0_140 hK_0_143 kz_0_146 kz_0_147 ex2 ex3
  exact ⟨(fun _ h => (by cases h)), [Value.int x], ag_one hx, List.forall_mem_cons.mpr ⟨⟨show (20 : Nat) < 100 from by decide, nf0⟩, List.forall_mem_cons.mpr ⟨⟨show (20 : Nat) < 100 from by decide, nf1⟩, List.forall_mem_cons.mpr ⟨⟨show (20 : Nat) < 100 from by decide, nf2⟩, List.forall_mem_cons.mpr ⟨⟨show (20 : Nat) < 100 from by decide, nf3⟩, List.forall_mem_cons.mpr ⟨⟨show (20 : Nat) < 100 from by decide, nf4⟩, List.forall_mem_cons.mpr ⟨⟨show (20 : Nat) < 100 from by decide, nf5⟩, List.forall_mem_cons.mpr ⟨⟨show (20 : Nat) < 100 from by decide, nf6⟩, List.forall_mem_cons.mpr ⟨⟨show (20 : Nat) < 100 from by decide, nf7⟩, (fun _ h => (by cases h))⟩⟩⟩⟩⟩⟩⟩⟩, (fun _ h => (by cases h))⟩
set_option maxHeartbeats 4000000 in
theorem vc_Mo_bendsBecome_3_0 (x3 : Int) (x5 : Int) (x6 : Int) (x7 : Int) (x8 : Int) (x9 : Int) (x10 : Int) (x11 : Int) (x12 : Int) (barredPoint_0 : Int → Int) (wide_0 : Int) (tall_0 : Int) (costOf_0 : Int → Int) (k3 : 0 ≤ x3 ∧ x3 ≤ 5999) (k5 : 0 ≤ x5 ∧ x5 ≤ 0) (k6 : 0 ≤ x6 ∧ x6 ≤ 5999) (k7 : (-1) ≤ x7 ∧ x7 ≤ 2) (k8 : 1 ≤ x8 ∧ x8 ≤ 1000001) (k9 : 0 ≤ x9 ∧ x9 ≤ 3) (k10 : 4 ≤ x10 ∧ x10 ≤ 4) (k11 : (-1) ≤ x11 ∧ x11 ≤ (-1)) (k12 : 1 ≤ x12 ∧ x12 ≤ 4) (d0 : x9 + 1 ≤ x12 ∧ x12 ≤ x9 + 1) (d1 : x9 + (-4294967296) ≤ x7 ∧ x7 ≤ x9 + (-1)) (d2 : x7 + (-4294967296) ≤ x8 ∧ x8 ≤ x7 + 1000001) (d3 : x9 + (-4294967296) ≤ x8 ∧ x8 ≤ x9 + 1000000) (f0 : x12 = x9 + 1) (f1 : x11 < 0) (f2 : STQ (wide_0) (tall_0) (barredPoint_0) (x6) (x9) (x11)) (f3 : ((-1) ≤ x11) ∧ ((x11 + 1) ≤ (wide_0 * tall_0))) (f4 : x9 < x10) (f5 : GRX (wide_0) (tall_0)) (f6 : RTV (wide_0) (tall_0) (barredPoint_0) (costOf_0) (x3)) (f7 : (0 ≤ x3) ∧ ((x3 + 1) ≤ (wide_0 * tall_0))) (f8 : (0 ≤ x6) ∧ ((x6 + 1) ≤ (wide_0 * tall_0))) (f9 : BB1 (wide_0) (tall_0) (barredPoint_0) (costOf_0) (x6) (x7) (x8) (x9)) (f10 : x5 = 0) (hK_0_140 : ∀ j : Int, 0 ≤ j → j < 24000 → 0 ≤ costOf_0 j ∧ costOf_0 j ≤ 1000000) (hK_0_143 : ∀ j : Int, 0 ≤ j → j < 6000 → 0 ≤ barredPoint_0 j ∧ barredPoint_0 j ≤ 1) (kz_0_146 : (-2147483648) ≤ wide_0 ∧ wide_0 ≤ 2147483647) (kz_0_147 : (-2147483648) ≤ tall_0 ∧ tall_0 ≤ 2147483647) : BB1 (wide_0) (tall_0) (barredPoint_0) (costOf_0) (x6) (x7) (x8) (x12) := by
  first
    | assumption
    | exact Or.inl ⟨by omega, by omega⟩
    | (have h := ‹BB1 _ _ _ _ _ _ _ _›; exact h)
    | (have hb : x8 ≤ 1000000 := by
         rcases ‹BB1 _ _ _ _ _ _ _ _› with h | h
         · omega
         · have := h.2.1; omega
       have e1 : x16 = costOf_0 x15 := by assumption
       have e2 : x22 = costOf_0 x21 := by assumption
       have e3 : x15 = x21 := by omega
       rw [e3, ← e2] at e1
       rw [show x24 = x22 + 1 by omega]; exact bb1_take (b := x8) (d := x7) (q := x11) (x := x21) (v := x22) ‹STQ _ _ _ _ _ _› (by omega) (by omega) (by omega) (by omega) (by assumption) (by omega))
    | sorry
def o_Mo_bendsBecome_3 : or_T := (22, 13, [(0, (2, 0, 0, [150])), (3, (0, 0, 5999, [])), (5, (0, 0, 0, [])), (6, (0, 0, 5999, [])), (7, (0, -1, 2, [])), (8, (0, 1, 1000001, [])), (9, (0, 0, 3, [])), (10, (0, 4, 4, [])), (11, (0, -1, -1, [])), (12, (0, 1, 4, []))], [(6, [12, 9], [1]), (8, [11], [2]), (20, [0, 6, 9, 11], [60, 2, 1, 429, 146, 147, 143]), (20, [11, 0], [50, 2, 0, 1146, 1147, 2, 6, 0, 2, 0, -1, 1, 0, 0, 6, 4, 2, 1, 0, 0, 1, 6, 3, 2, 1, 146, 2, 1, 147]), (7, [9, 10], [2]), (20, [0], [60, 2, 0, 418, 146, 147]), (20, [0, 3], [60, 2, 2, 428, 146, 147, 143, 140]), (20, [3, 0], [50, 2, 0, 1146, 1147, 2, 6, 0, 2, 0, 0, 1, 0, 0, 6, 4, 2, 1, 0, 0, 1, 6, 3, 2, 1, 146, 2, 1, 147]), (20, [6, 0], [50, 2, 0, 1146, 1147, 2, 6, 0, 2, 0, 0, 1, 0, 0, 6, 4, 2, 1, 0, 0, 1, 6, 3, 2, 1, 146, 2, 1, 147]), (20, [0, 6, 7, 8, 9], [60, 2, 2, 430, 146, 147, 143, 140]), (20, [5], [50, 0, 0, 1, 2, 1, 0, 0, 0])], [], [], [(20, [0, 6, 7, 8, 12], [60, 2, 2, 430, 146, 147, 143, 140])], [], [(12, 9, 1, 1), (7, 9, -4294967296, -1), (8, 7, -4294967296, 1000001), (8, 9, -4294967296, 1000000)])
theorem oo_Mo_bendsBecome_3 {kA : Nat → ClassId} : or_ok PRD kA GG o_Mo_bendsBecome_3 := by
  intro A ta ws vs hD hth hl hk hds hf
  have hl : vs.length = 13 := hl
  have hk : ∀ q ∈ ([(0, (2, 0, 0, [150])), (3, (0, 0, 5999, [])), (5, (0, 0, 0, [])), (6, (0, 0, 5999, [])), (7, (0, -1, 2, [])), (8, (0, 1, 1000001, [])), (9, (0, 0, 3, [])), (10, (0, 4, 4, [])), (11, (0, -1, -1, [])), (12, (0, 1, 4, []))] : List (Nat × tv_T)), tv_ok ta q.2 (n_v vs q.1) := hk
  obtain ⟨t0, hk⟩ := List.forall_mem_cons.mp hk
  have t0 : tv_ok ta (2, 0, 0, [150]) (n_v vs 0) := t0
  have r0 : ta (v_ad (n_v vs 0)) = some 150 := tv_rg t0
  obtain ⟨t3, hk⟩ := List.forall_mem_cons.mp hk
  have t3 : tv_ok ta (0, 0, 5999, []) (n_v vs 3) := t3
  have k3 : 0 ≤ v_iv (n_v vs 3) ∧ v_iv (n_v vs 3) ≤ 5999 := tv_rng t3
  obtain ⟨t5, hk⟩ := List.forall_mem_cons.mp hk
  have t5 : tv_ok ta (0, 0, 0, []) (n_v vs 5) := t5
  have k5 : 0 ≤ v_iv (n_v vs 5) ∧ v_iv (n_v vs 5) ≤ 0 := tv_rng t5
  obtain ⟨t6, hk⟩ := List.forall_mem_cons.mp hk
  have t6 : tv_ok ta (0, 0, 5999, []) (n_v vs 6) := t6
  have k6 : 0 ≤ v_iv (n_v vs 6) ∧ v_iv (n_v vs 6) ≤ 5999 := tv_rng t6
  obtain ⟨t7, hk⟩ := List.forall_mem_cons.mp hk
  have t7 : tv_ok ta (0, -1, 2, []) (n_v vs 7) := t7
  have k7 : (-1) ≤ v_iv (n_v vs 7) ∧ v_iv (n_v vs 7) ≤ 2 := tv_rng t7
  obtain ⟨t8, hk⟩ := List.forall_mem_cons.mp hk
  have t8 : tv_ok ta (0, 1, 1000001, []) (n_v vs 8) := t8
  have k8 : 1 ≤ v_iv (n_v vs 8) ∧ v_iv (n_v vs 8) ≤ 1000001 := tv_rng t8
  obtain ⟨t9, hk⟩ := List.forall_mem_cons.mp hk
  have t9 : tv_ok ta (0, 0, 3, []) (n_v vs 9) := t9
  have k9 : 0 ≤ v_iv (n_v vs 9) ∧ v_iv (n_v vs 9) ≤ 3 := tv_rng t9
  obtain ⟨t10, hk⟩ := List.forall_mem_cons.mp hk
  have t10 : tv_ok ta (0, 4, 4, []) (n_v vs 10) := t10
  have k10 : 4 ≤ v_iv (n_v vs 10) ∧ v_iv (n_v vs 10) ≤ 4 := tv_rng t10
  obtain ⟨t11, hk⟩ := List.forall_mem_cons.mp hk
  have t11 : tv_ok ta (0, -1, -1, []) (n_v vs 11) := t11
  have k11 : (-1) ≤ v_iv (n_v vs 11) ∧ v_iv (n_v vs 11) ≤ (-1) := tv_rng t11
  obtain ⟨t12, hk⟩ := List.forall_mem_cons.mp hk
  have t12 : tv_ok ta (0, 1, 4, []) (n_v vs 12) := t12
  have k12 : 1 ≤ v_iv (n_v vs 12) ∧ v_iv (n_v vs 12) ≤ 4 := tv_rng t12
  have hds : ∀ q ∈ ([(12, 9, 1, 1), (7, 9, -4294967296, -1), (8, 7, -4294967296, 1000001), (8, 9, -4294967296, 1000000)] : List of_T), n_iv vs q.2.1 + q.2.2.1 ≤ n_iv vs q.1 ∧ n_iv vs q.1 ≤ n_iv vs q.2.1 + q.2.2.2 := hds
  obtain ⟨d0, hds⟩ := List.forall_mem_cons.mp hds
  have d0 : v_iv (n_v vs 9) + 1 ≤ v_iv (n_v vs 12) ∧ v_iv (n_v vs 12) ≤ v_iv (n_v vs 9) + 1 := d0
  obtain ⟨d1, hds⟩ := List.forall_mem_cons.mp hds
  have d1 : v_iv (n_v vs 9) + (-4294967296) ≤ v_iv (n_v vs 7) ∧ v_iv (n_v vs 7) ≤ v_iv (n_v vs 9) + (-1) := d1
  obtain ⟨d2, hds⟩ := List.forall_mem_cons.mp hds
  have d2 : v_iv (n_v vs 7) + (-4294967296) ≤ v_iv (n_v vs 8) ∧ v_iv (n_v vs 8) ≤ v_iv (n_v vs 7) + 1000001 := d2
  obtain ⟨d3, hds⟩ := List.forall_mem_cons.mp hds
  have d3 : v_iv (n_v vs 9) + (-4294967296) ≤ v_iv (n_v vs 8) ∧ v_iv (n_v vs 8) ≤ v_iv (n_v vs 9) + 1000000 := d3
  have hf : fc_ok PRD [(6, [12, 9], [1]), (8, [11], [2]), (20, [0, 6, 9, 11], [60, 2, 1, 429, 146, 147, 143]), (20, [11, 0], [50, 2, 0, 1146, 1147, 2, 6, 0, 2, 0, -1, 1, 0, 0, 6, 4, 2, 1, 0, 0, 1, 6, 3, 2, 1, 146, 2, 1, 147]), (7, [9, 10], [2]), (20, [0], [60, 2, 0, 418, 146, 147]), (20, [0, 3], [60, 2, 2, 428, 146, 147, 143, 140]), (20, [3, 0], [50, 2, 0, 1146, 1147, 2, 6, 0, 2, 0, 0, 1, 0, 0, 6, 4, 2, 1, 0, 0, 1, 6, 3, 2, 1, 146, 2, 1, 147]), (20, [6, 0], [50, 2, 0, 1146, 1147, 2, 6, 0, 2, 0, 0, 1, 0, 0, 6, 4, 2, 1, 0, 0, 1, 6, 3, 2, 1, 146, 2, 1, 147]), (20, [0, 6, 7, 8, 9], [60, 2, 2, 430, 146, 147, 143, 140]), (20, [5], [50, 0, 0, 1, 2, 1, 0, 0, 0])] ta ws vs := hf
  obtain ⟨f0, hf⟩ := fc_un (show (6 : Nat) < 100 from by decide) hf
  have f0 : v_iv (n_v vs 12) = v_iv (n_v vs 9) + 1 := f0
  obtain ⟨f1, hf⟩ := fc_un (show (8 : Nat) < 100 from by decide) hf
  have f1 : v_iv (n_v vs 11) < 0 := f1
  obtain ⟨f2, hf⟩ := fc_un (show (20 : Nat) < 100 from by decide) hf
  have f2 : STQ (w_fi ws (n_v vs 0) 146) (w_fi ws (n_v vs 0) 147) (w_ei ws (w_ar ws (n_v vs 0) 143)) (v_iv (n_v vs 6)) (v_iv (n_v vs 9)) (v_iv (n_v vs 11)) := f2
  obtain ⟨f3, hf⟩ := fc_un (show (20 : Nat) < 100 from by decide) hf
  have f3 : ((-1) ≤ v_iv (n_v vs 11)) ∧ ((v_iv (n_v vs 11) + 1) ≤ (w_fi ws (n_v vs 0) 146 * w_fi ws (n_v vs 0) 147)) := f3
  obtain ⟨f4, hf⟩ := fc_un (show (7 : Nat) < 100 from by decide) hf
  have f4 : v_iv (n_v vs 9) < v_iv (n_v vs 10) := f4
  obtain ⟨f5, hf⟩ := fc_un (show (20 : Nat) < 100 from by decide) hf
  have f5 : GRX (w_fi ws (n_v vs 0) 146) (w_fi ws (n_v vs 0) 147) := f5
  obtain ⟨f6, hf⟩ := fc_un (show (20 : Nat) < 100 from by decide) hf
  have f6 : RTV (w_fi ws (n_v vs 0) 146) (w_fi ws (n_v vs 0) 147) (w_ei ws (w_ar ws (n_v vs 0) 143)) (w_ei ws (w_ar ws (n_v vs 0) 140)) (v_iv (n_v vs 3)) := f6
  obtain ⟨f7, hf⟩ := fc_un (show (20 : Nat) < 100 from by decide) hf
  have f7 : (0 ≤ v_iv (n_v vs 3)) ∧ ((v_iv (n_v vs 3) + 1) ≤ (w_fi ws (n_v vs 0) 146 * w_fi ws (n_v vs 0) 147)) := f7
  obtain ⟨f8, hf⟩ := fc_un (show (20 : Nat) < 100 from by decide) hf
  have f8 : (0 ≤ v_iv (n_v vs 6)) ∧ ((v_iv (n_v vs 6) + 1) ≤ (w_fi ws (n_v vs 0) 146 * w_fi ws (n_v vs 0) 147)) := f8
  obtain ⟨f9, hf⟩ := fc_un (show (20 : Nat) < 100 from by decide) hf
  have f9 : BB1 (w_fi ws (n_v vs 0) 146) (w_fi ws (n_v vs 0) 147) (w_ei ws (w_ar ws (n_v vs 0) 143)) (w_ei ws (w_ar ws (n_v vs 0) 140)) (v_iv (n_v vs 6)) (v_iv (n_v vs 7)) (v_iv (n_v vs 8)) (v_iv (n_v vs 9)) := f9
  obtain ⟨f10, hf⟩ := fc_un (show (20 : Nat) < 100 from by decide) hf
  have f10 : v_iv (n_v vs 5) = 0 := f10
  have cr_0_140 : ta (w_ar ws (n_v vs 0) 140) = some 251 := tv_rg (th_fd hD hth r0 (g := GG_150) rfl (k := 140) (t := (2, 0, 0, [251])) rfl rfl)
  have cr_0_143 : ta (w_ar ws (n_v vs 0) 143) = some 254 := tv_rg (th_fd hD hth r0 (g := GG_150) rfl (k := 143) (t := (2, 0, 0, [254])) rfl rfl)
  have hK_0_140 : ∀ j : Int, 0 ≤ j → j < 24000 → 0 ≤ w_ei ws (w_ar ws (n_v vs 0) 140) j ∧ w_ei ws (w_ar ws (n_v vs 0) 140) j ≤ 1000000 := fun j h0 h1 => th_el hD hth cr_0_140 (kd := 0) (n := 24000) (m := 24000) (lo := 0) (hi := 1000000) (rs := []) (L := []) rfl (by decide) (j := j.toNat) (by omega)
  have hK_0_143 : ∀ j : Int, 0 ≤ j → j < 6000 → 0 ≤ w_ei ws (w_ar ws (n_v vs 0) 143) j ∧ w_ei ws (w_ar ws (n_v vs 0) 143) j ≤ 1 := fun j h0 h1 => th_el hD hth cr_0_143 (kd := 2) (n := 6000) (m := 6000) (lo := 0) (hi := 1) (rs := []) (L := []) rfl (by decide) (j := j.toNat) (by omega)
  have kz_0_146 : (-2147483648) ≤ w_fi ws (n_v vs 0) 146 ∧ w_fi ws (n_v vs 0) 146 ≤ 2147483647 := tv_rng (th_fd hD hth r0 (g := GG_150) rfl (k := 146) (t := (0, -2147483648, 2147483647, [])) rfl rfl)
  have kz_0_147 : (-2147483648) ≤ w_fi ws (n_v vs 0) 147 ∧ w_fi ws (n_v vs 0) 147 ≤ 2147483647 := tv_rng (th_fd hD hth r0 (g := GG_150) rfl (k := 147) (t := (0, -2147483648, 2147483647, [])) rfl rfl)
  have nf0 : fc_1 PRD (20, [0, 6, 7, 8, 12], [60, 2, 2, 430, 146, 147, 143, 140]) ws (vs) := by
    refine ⟨fun n hn => ?_, ?_⟩
    · have hn : n ∈ [0, 6, 7, 8, 12] := hn
      rw [hl]
      simp only [List.mem_cons, List.not_mem_nil, or_false] at hn
      show n < 13; omega
    · show BB1 (w_fi ws (n_v vs 0) 146) (w_fi ws (n_v vs 0) 147) (w_ei ws (w_ar ws (n_v vs 0) 143)) (w_ei ws (w_ar ws (n_v vs 0) 140)) (v_iv (n_v vs 6)) (v_iv (n_v vs 7)) (v_iv (n_v vs 8)) (v_iv (n_v vs 12))
      exact vc_Mo_bendsBecome_3_0 (v_iv (n_v vs 3)) (v_iv (n_v vs 5)) (v_iv (n_v vs 6)) (v_iv (n_v vs 7)) (v_iv (n_v vs 8)) (v_iv (n_v vs 9)) (v_iv (n_v vs 10)) (v_iv (n_v vs 11)) (v_iv (n_v vs 12)) (w_ei ws (w_ar ws (n_v vs 0) 143)) (w_fi ws (n_v vs 0) 146) (w_fi ws (n_v vs 0) 147) (w_ei ws (w_ar ws (n_v vs 0) 140)) k3 k5 k6 k7 k8 k9 k10 k11 k12 d0 d1 d2 d3 f0 f1 f2 f3 f4 f5 f6 f7 f8 f9 f10 hK_0_140 hK_0_143 kz_0_146 kz_0_147
  refine ⟨(fun _ h => (by cases h)), [], trivial, ?_, (fun _ h => (by cases h))⟩
  rw [List.append_nil]
  exact List.forall_mem_cons.mpr ⟨⟨show (20 : Nat) < 100 from by decide, nf0⟩, (fun _ h => (by cases h))⟩
set_option maxHeartbeats 4000000 in
theorem vc_Mo_bendsBecome_4_0 (x3 : Int) (x5 : Int) (x6 : Int) (x7 : Int) (x8 : Int) (x9 : Int) (x10 : Int) (x11 : Int) (x13 : Int) (x14 : Int) (x15 : Int) (x16 : Int) (x17 : Int) (x18 : Int) (x19 : Int) (costOf_0 : Int → Int) (barredPoint_0 : Int → Int) (wide_0 : Int) (tall_0 : Int) (k3 : 0 ≤ x3 ∧ x3 ≤ 5999) (k5 : 0 ≤ x5 ∧ x5 ≤ 0) (k6 : 0 ≤ x6 ∧ x6 ≤ 5999) (k7 : (-1) ≤ x7 ∧ x7 ≤ 2) (k8 : 1 ≤ x8 ∧ x8 ≤ 1000001) (k9 : 0 ≤ x9 ∧ x9 ≤ 3) (k10 : 4 ≤ x10 ∧ x10 ≤ 4) (k11 : 0 ≤ x11 ∧ x11 ≤ 5999) (k13 : 4 ≤ x13 ∧ x13 ≤ 4) (k14 : 0 ≤ x14 ∧ x14 ≤ 23996) (k15 : 0 ≤ x15 ∧ x15 ≤ 23999) (k16 : 0 ≤ x16 ∧ x16 ≤ 1000000) (k17 : 1 ≤ x17 ∧ x17 ≤ 1) (k18 : 1 ≤ x18 ∧ x18 ≤ 1000001) (k19 : 1 ≤ x19 ∧ x19 ≤ 4) (d0 : x9 + 1 ≤ x19 ∧ x19 ≤ x9 + 1) (d1 : x8 + 0 ≤ x18 ∧ x18 ≤ x8 + 4294967296) (d2 : x16 + 1 ≤ x18 ∧ x18 ≤ x16 + 1) (d3 : x9 + 0 ≤ x15 ∧ x15 ≤ x9 + 23996) (d4 : x14 + 0 ≤ x15 ∧ x15 ≤ x14 + 3) (d5 : x9 + (-4294967296) ≤ x7 ∧ x7 ≤ x9 + (-1)) (d6 : x7 + (-4294967296) ≤ x8 ∧ x8 ≤ x7 + 1000001) (d7 : x9 + (-4294967296) ≤ x8 ∧ x8 ≤ x9 + 1000000) (f0 : x19 = x9 + 1) (f1 : x8 ≤ x18) (f2 : x18 = x16 + x17) (h3 : x16 = costOf_0 (x15)) (f4 : x15 = x14 + x9) (f5 : x14 = 4 * x11) (f7 : 0 ≤ x11) (f8 : STQ (wide_0) (tall_0) (barredPoint_0) (x6) (x9) (x11)) (f9 : ((-1) ≤ x11) ∧ ((x11 + 1) ≤ (wide_0 * tall_0))) (f10 : x9 < x10) (f11 : GRX (wide_0) (tall_0)) (f12 : RTV (wide_0) (tall_0) (barredPoint_0) (costOf_0) (x3)) (f13 : (0 ≤ x3) ∧ ((x3 + 1) ≤ (wide_0 * tall_0))) (f14 : (0 ≤ x6) ∧ ((x6 + 1) ≤ (wide_0 * tall_0))) (f15 : BB1 (wide_0) (tall_0) (barredPoint_0) (costOf_0) (x6) (x7) (x8) (x9)) (f16 : x5 = 0) (hK_0_140 : ∀ j : Int, 0 ≤ j → j < 24000 → 0 ≤ costOf_0 j ∧ costOf_0 j ≤ 1000000) (hK_0_143 : ∀ j : Int, 0 ≤ j → j < 6000 → 0 ≤ barredPoint_0 j ∧ barredPoint_0 j ≤ 1) (kz_0_146 : (-2147483648) ≤ wide_0 ∧ wide_0 ≤ 2147483647) (kz_0_147 : (-2147483648) ≤ tall_0 ∧ tall_0 ≤ 2147483647) : BB1 (wide_0) (tall_0) (barredPoint_0) (costOf_0) (x6) (x7) (x8) (x19) := by
  first
    | assumption
    | exact Or.inl ⟨by omega, by omega⟩
    | (have h := ‹BB1 _ _ _ _ _ _ _ _›; exact h)
    | (have hb : x8 ≤ 1000000 := by
         rcases ‹BB1 _ _ _ _ _ _ _ _› with h | h
         · omega
         · have := h.2.1; omega
       have e1 : x16 = costOf_0 x15 := by assumption
       have e2 : x22 = costOf_0 x21 := by assumption
       have e3 : x15 = x21 := by omega
       rw [e3, ← e2] at e1
       rw [show x24 = x22 + 1 by omega]; exact bb1_take (b := x8) (d := x7) (q := x11) (x := x21) (v := x22) ‹STQ _ _ _ _ _ _› (by omega) (by omega) (by omega) (by omega) (by assumption) (by omega))
    | sorry
def o_Mo_bendsBecome_4 : or_T := (22, 20, [(0, (2, 0, 0, [150])), (3, (0, 0, 5999, [])), (5, (0, 0, 0, [])), (6, (0, 0, 5999, [])), (7, (0, -1, 2, [])), (8, (0, 1, 1000001, [])), (9, (0, 0, 3, [])), (10, (0, 4, 4, [])), (11, (0, 0, 5999, [])), (12, (2, 0, 0, [251])), (13, (0, 4, 4, [])), (14, (0, 0, 23996, [])), (15, (0, 0, 23999, [])), (16, (0, 0, 1000000, [])), (17, (0, 1, 1, [])), (18, (0, 1, 1000001, [])), (19, (0, 1, 4, []))], [(6, [19, 9], [1]), (7, [18, 8], [3]), (1, [18, 16, 17], []), (10, [16, 12, 15], []), (1, [15, 14, 9], []), (3, [14, 13, 11], []), (9, [12, 0], [140]), (8, [11], [3]), (20, [0, 6, 9, 11], [60, 2, 1, 429, 146, 147, 143]), (20, [11, 0], [50, 2, 0, 1146, 1147, 2, 6, 0, 2, 0, -1, 1, 0, 0, 6, 4, 2, 1, 0, 0, 1, 6, 3, 2, 1, 146, 2, 1, 147]), (7, [9, 10], [2]), (20, [0], [60, 2, 0, 418, 146, 147]), (20, [0, 3], [60, 2, 2, 428, 146, 147, 143, 140]), (20, [3, 0], [50, 2, 0, 1146, 1147, 2, 6, 0, 2, 0, 0, 1, 0, 0, 6, 4, 2, 1, 0, 0, 1, 6, 3, 2, 1, 146, 2, 1, 147]), (20, [6, 0], [50, 2, 0, 1146, 1147, 2, 6, 0, 2, 0, 0, 1, 0, 0, 6, 4, 2, 1, 0, 0, 1, 6, 3, 2, 1, 146, 2, 1, 147]), (20, [0, 6, 7, 8, 9], [60, 2, 2, 430, 146, 147, 143, 140]), (20, [5], [50, 0, 0, 1, 2, 1, 0, 0, 0])], [], [], [(20, [0, 6, 7, 8, 19], [60, 2, 2, 430, 146, 147, 143, 140])], [], [(19, 9, 1, 1), (18, 8, 0, 4294967296), (18, 16, 1, 1), (15, 9, 0, 23996), (15, 14, 0, 3), (7, 9, -4294967296, -1), (8, 7, -4294967296, 1000001), (8, 9, -4294967296, 1000000)])
theorem oo_Mo_bendsBecome_4 {kA : Nat → ClassId} : or_ok PRD kA GG o_Mo_bendsBecome_4 := by
  intro A ta ws vs hD hth hl hk hds hf
  have hl : vs.length = 20 := hl
  have hk : ∀ q ∈ ([(0, (2, 0, 0, [150])), (3, (0, 0, 5999, [])), (5, (0, 0, 0, [])), (6, (0, 0, 5999, [])), (7, (0, -1, 2, [])), (8, (0, 1, 1000001, [])), (9, (0, 0, 3, [])), (10, (0, 4, 4, [])), (11, (0, 0, 5999, [])), (12, (2, 0, 0, [251])), (13, (0, 4, 4, [])), (14, (0, 0, 23996, [])), (15, (0, 0, 23999, [])), (16, (0, 0, 1000000, [])), (17, (0, 1, 1, [])), (18, (0, 1, 1000001, [])), (19, (0, 1, 4, []))] : List (Nat × tv_T)), tv_ok ta q.2 (n_v vs q.1) := hk
  obtain ⟨t0, hk⟩ := List.forall_mem_cons.mp hk
  have t0 : tv_ok ta (2, 0, 0, [150]) (n_v vs 0) := t0
  have r0 : ta (v_ad (n_v vs 0)) = some 150 := tv_rg t0
  obtain ⟨t3, hk⟩ := List.forall_mem_cons.mp hk
  have t3 : tv_ok ta (0, 0, 5999, []) (n_v vs 3) := t3
  have k3 : 0 ≤ v_iv (n_v vs 3) ∧ v_iv (n_v vs 3) ≤ 5999 := tv_rng t3
  obtain ⟨t5, hk⟩ := List.forall_mem_cons.mp hk
  have t5 : tv_ok ta (0, 0, 0, []) (n_v vs 5) := t5
  have k5 : 0 ≤ v_iv (n_v vs 5) ∧ v_iv (n_v vs 5) ≤ 0 := tv_rng t5
  obtain ⟨t6, hk⟩ := List.forall_mem_cons.mp hk
  have t6 : tv_ok ta (0, 0, 5999, []) (n_v vs 6) := t6
  have k6 : 0 ≤ v_iv (n_v vs 6) ∧ v_iv (n_v vs 6) ≤ 5999 := tv_rng t6
  obtain ⟨t7, hk⟩ := List.forall_mem_cons.mp hk
  have t7 : tv_ok ta (0, -1, 2, []) (n_v vs 7) := t7
  have k7 : (-1) ≤ v_iv (n_v vs 7) ∧ v_iv (n_v vs 7) ≤ 2 := tv_rng t7
  obtain ⟨t8, hk⟩ := List.forall_mem_cons.mp hk
  have t8 : tv_ok ta (0, 1, 1000001, []) (n_v vs 8) := t8
  have k8 : 1 ≤ v_iv (n_v vs 8) ∧ v_iv (n_v vs 8) ≤ 1000001 := tv_rng t8
  obtain ⟨t9, hk⟩ := List.forall_mem_cons.mp hk
  have t9 : tv_ok ta (0, 0, 3, []) (n_v vs 9) := t9
  have k9 : 0 ≤ v_iv (n_v vs 9) ∧ v_iv (n_v vs 9) ≤ 3 := tv_rng t9
  obtain ⟨t10, hk⟩ := List.forall_mem_cons.mp hk
  have t10 : tv_ok ta (0, 4, 4, []) (n_v vs 10) := t10
  have k10 : 4 ≤ v_iv (n_v vs 10) ∧ v_iv (n_v vs 10) ≤ 4 := tv_rng t10
  obtain ⟨t11, hk⟩ := List.forall_mem_cons.mp hk
  have t11 : tv_ok ta (0, 0, 5999, []) (n_v vs 11) := t11
  have k11 : 0 ≤ v_iv (n_v vs 11) ∧ v_iv (n_v vs 11) ≤ 5999 := tv_rng t11
  obtain ⟨t12, hk⟩ := List.forall_mem_cons.mp hk
  have t12 : tv_ok ta (2, 0, 0, [251]) (n_v vs 12) := t12
  have r12 : ta (v_ad (n_v vs 12)) = some 251 := tv_rg t12
  obtain ⟨t13, hk⟩ := List.forall_mem_cons.mp hk
  have t13 : tv_ok ta (0, 4, 4, []) (n_v vs 13) := t13
  have k13 : 4 ≤ v_iv (n_v vs 13) ∧ v_iv (n_v vs 13) ≤ 4 := tv_rng t13
  obtain ⟨t14, hk⟩ := List.forall_mem_cons.mp hk
  have t14 : tv_ok ta (0, 0, 23996, []) (n_v vs 14) := t14
  have k14 : 0 ≤ v_iv (n_v vs 14) ∧ v_iv (n_v vs 14) ≤ 23996 := tv_rng t14
  obtain ⟨t15, hk⟩ := List.forall_mem_cons.mp hk
  have t15 : tv_ok ta (0, 0, 23999, []) (n_v vs 15) := t15
  have k15 : 0 ≤ v_iv (n_v vs 15) ∧ v_iv (n_v vs 15) ≤ 23999 := tv_rng t15
  obtain ⟨t16, hk⟩ := List.forall_mem_cons.mp hk
  have t16 : tv_ok ta (0, 0, 1000000, []) (n_v vs 16) := t16
  have k16 : 0 ≤ v_iv (n_v vs 16) ∧ v_iv (n_v vs 16) ≤ 1000000 := tv_rng t16
  obtain ⟨t17, hk⟩ := List.forall_mem_cons.mp hk
  have t17 : tv_ok ta (0, 1, 1, []) (n_v vs 17) := t17
  have k17 : 1 ≤ v_iv (n_v vs 17) ∧ v_iv (n_v vs 17) ≤ 1 := tv_rng t17
  obtain ⟨t18, hk⟩ := List.forall_mem_cons.mp hk
  have t18 : tv_ok ta (0, 1, 1000001, []) (n_v vs 18) := t18
  have k18 : 1 ≤ v_iv (n_v vs 18) ∧ v_iv (n_v vs 18) ≤ 1000001 := tv_rng t18
  obtain ⟨t19, hk⟩ := List.forall_mem_cons.mp hk
  have t19 : tv_ok ta (0, 1, 4, []) (n_v vs 19) := t19
  have k19 : 1 ≤ v_iv (n_v vs 19) ∧ v_iv (n_v vs 19) ≤ 4 := tv_rng t19
  have hds : ∀ q ∈ ([(19, 9, 1, 1), (18, 8, 0, 4294967296), (18, 16, 1, 1), (15, 9, 0, 23996), (15, 14, 0, 3), (7, 9, -4294967296, -1), (8, 7, -4294967296, 1000001), (8, 9, -4294967296, 1000000)] : List of_T), n_iv vs q.2.1 + q.2.2.1 ≤ n_iv vs q.1 ∧ n_iv vs q.1 ≤ n_iv vs q.2.1 + q.2.2.2 := hds
  obtain ⟨d0, hds⟩ := List.forall_mem_cons.mp hds
  have d0 : v_iv (n_v vs 9) + 1 ≤ v_iv (n_v vs 19) ∧ v_iv (n_v vs 19) ≤ v_iv (n_v vs 9) + 1 := d0
  obtain ⟨d1, hds⟩ := List.forall_mem_cons.mp hds
  have d1 : v_iv (n_v vs 8) + 0 ≤ v_iv (n_v vs 18) ∧ v_iv (n_v vs 18) ≤ v_iv (n_v vs 8) + 4294967296 := d1
  obtain ⟨d2, hds⟩ := List.forall_mem_cons.mp hds
  have d2 : v_iv (n_v vs 16) + 1 ≤ v_iv (n_v vs 18) ∧ v_iv (n_v vs 18) ≤ v_iv (n_v vs 16) + 1 := d2
  obtain ⟨d3, hds⟩ := List.forall_mem_cons.mp hds
  have d3 : v_iv (n_v vs 9) + 0 ≤ v_iv (n_v vs 15) ∧ v_iv (n_v vs 15) ≤ v_iv (n_v vs 9) + 23996 := d3
  obtain ⟨d4, hds⟩ := List.forall_mem_cons.mp hds
  have d4 : v_iv (n_v vs 14) + 0 ≤ v_iv (n_v vs 15) ∧ v_iv (n_v vs 15) ≤ v_iv (n_v vs 14) + 3 := d4
  obtain ⟨d5, hds⟩ := List.forall_mem_cons.mp hds
  have d5 : v_iv (n_v vs 9) + (-4294967296) ≤ v_iv (n_v vs 7) ∧ v_iv (n_v vs 7) ≤ v_iv (n_v vs 9) + (-1) := d5
  obtain ⟨d6, hds⟩ := List.forall_mem_cons.mp hds
  have d6 : v_iv (n_v vs 7) + (-4294967296) ≤ v_iv (n_v vs 8) ∧ v_iv (n_v vs 8) ≤ v_iv (n_v vs 7) + 1000001 := d6
  obtain ⟨d7, hds⟩ := List.forall_mem_cons.mp hds
  have d7 : v_iv (n_v vs 9) + (-4294967296) ≤ v_iv (n_v vs 8) ∧ v_iv (n_v vs 8) ≤ v_iv (n_v vs 9) + 1000000 := d7
  have hf : fc_ok PRD [(6, [19, 9], [1]), (7, [18, 8], [3]), (1, [18, 16, 17], []), (10, [16, 12, 15], []), (1, [15, 14, 9], []), (3, [14, 13, 11], []), (9, [12, 0], [140]), (8, [11], [3]), (20, [0, 6, 9, 11], [60, 2, 1, 429, 146, 147, 143]), (20, [11, 0], [50, 2, 0, 1146, 1147, 2, 6, 0, 2, 0, -1, 1, 0, 0, 6, 4, 2, 1, 0, 0, 1, 6, 3, 2, 1, 146, 2, 1, 147]), (7, [9, 10], [2]), (20, [0], [60, 2, 0, 418, 146, 147]), (20, [0, 3], [60, 2, 2, 428, 146, 147, 143, 140]), (20, [3, 0], [50, 2, 0, 1146, 1147, 2, 6, 0, 2, 0, 0, 1, 0, 0, 6, 4, 2, 1, 0, 0, 1, 6, 3, 2, 1, 146, 2, 1, 147]), (20, [6, 0], [50, 2, 0, 1146, 1147, 2, 6, 0, 2, 0, 0, 1, 0, 0, 6, 4, 2, 1, 0, 0, 1, 6, 3, 2, 1, 146, 2, 1, 147]), (20, [0, 6, 7, 8, 9], [60, 2, 2, 430, 146, 147, 143, 140]), (20, [5], [50, 0, 0, 1, 2, 1, 0, 0, 0])] ta ws vs := hf
  obtain ⟨f0, hf⟩ := fc_un (show (6 : Nat) < 100 from by decide) hf
  have f0 : v_iv (n_v vs 19) = v_iv (n_v vs 9) + 1 := f0
  obtain ⟨f1, hf⟩ := fc_un (show (7 : Nat) < 100 from by decide) hf
  have f1 : v_iv (n_v vs 8) ≤ v_iv (n_v vs 18) := f1
  obtain ⟨f2, hf⟩ := fc_un (show (1 : Nat) < 100 from by decide) hf
  have f2 : v_iv (n_v vs 18) = v_iv (n_v vs 16) + v_iv (n_v vs 17) := f2
  obtain ⟨f3, hf⟩ := fc_un (show (10 : Nat) < 100 from by decide) hf
  have f3 : v_iv (n_v vs 16) = w_el ws (v_ad (n_v vs 12)) (v_iv (n_v vs 15)).toNat := f3
  obtain ⟨f4, hf⟩ := fc_un (show (1 : Nat) < 100 from by decide) hf
  have f4 : v_iv (n_v vs 15) = v_iv (n_v vs 14) + v_iv (n_v vs 9) := f4
  obtain ⟨f5, hf⟩ := fc_un (show (3 : Nat) < 100 from by decide) hf
  have f5 : v_iv (n_v vs 14) = v_iv (n_v vs 13) * v_iv (n_v vs 11) := f5
  rw [show v_iv (n_v vs 13) = 4 from by omega] at f5
  obtain ⟨f6, hf⟩ := fc_un (show (9 : Nat) < 100 from by decide) hf
  have f6 : n_v vs 12 = w_fd ws (v_ad (n_v vs 0)) 140 := f6
  obtain ⟨f7, hf⟩ := fc_un (show (8 : Nat) < 100 from by decide) hf
  have f7 : 0 ≤ v_iv (n_v vs 11) := f7
  obtain ⟨f8, hf⟩ := fc_un (show (20 : Nat) < 100 from by decide) hf
  have f8 : STQ (w_fi ws (n_v vs 0) 146) (w_fi ws (n_v vs 0) 147) (w_ei ws (w_ar ws (n_v vs 0) 143)) (v_iv (n_v vs 6)) (v_iv (n_v vs 9)) (v_iv (n_v vs 11)) := f8
  obtain ⟨f9, hf⟩ := fc_un (show (20 : Nat) < 100 from by decide) hf
  have f9 : ((-1) ≤ v_iv (n_v vs 11)) ∧ ((v_iv (n_v vs 11) + 1) ≤ (w_fi ws (n_v vs 0) 146 * w_fi ws (n_v vs 0) 147)) := f9
  obtain ⟨f10, hf⟩ := fc_un (show (7 : Nat) < 100 from by decide) hf
  have f10 : v_iv (n_v vs 9) < v_iv (n_v vs 10) := f10
  obtain ⟨f11, hf⟩ := fc_un (show (20 : Nat) < 100 from by decide) hf
  have f11 : GRX (w_fi ws (n_v vs 0) 146) (w_fi ws (n_v vs 0) 147) := f11
  obtain ⟨f12, hf⟩ := fc_un (show (20 : Nat) < 100 from by decide) hf
  have f12 : RTV (w_fi ws (n_v vs 0) 146) (w_fi ws (n_v vs 0) 147) (w_ei ws (w_ar ws (n_v vs 0) 143)) (w_ei ws (w_ar ws (n_v vs 0) 140)) (v_iv (n_v vs 3)) := f12
  obtain ⟨f13, hf⟩ := fc_un (show (20 : Nat) < 100 from by decide) hf
  have f13 : (0 ≤ v_iv (n_v vs 3)) ∧ ((v_iv (n_v vs 3) + 1) ≤ (w_fi ws (n_v vs 0) 146 * w_fi ws (n_v vs 0) 147)) := f13
  obtain ⟨f14, hf⟩ := fc_un (show (20 : Nat) < 100 from by decide) hf
  have f14 : (0 ≤ v_iv (n_v vs 6)) ∧ ((v_iv (n_v vs 6) + 1) ≤ (w_fi ws (n_v vs 0) 146 * w_fi ws (n_v vs 0) 147)) := f14
  obtain ⟨f15, hf⟩ := fc_un (show (20 : Nat) < 100 from by decide) hf
  have f15 : BB1 (w_fi ws (n_v vs 0) 146) (w_fi ws (n_v vs 0) 147) (w_ei ws (w_ar ws (n_v vs 0) 143)) (w_ei ws (w_ar ws (n_v vs 0) 140)) (v_iv (n_v vs 6)) (v_iv (n_v vs 7)) (v_iv (n_v vs 8)) (v_iv (n_v vs 9)) := f15
  obtain ⟨f16, hf⟩ := fc_un (show (20 : Nat) < 100 from by decide) hf
  have f16 : v_iv (n_v vs 5) = 0 := f16
  have cr_0_140 : ta (w_ar ws (n_v vs 0) 140) = some 251 := tv_rg (th_fd hD hth r0 (g := GG_150) rfl (k := 140) (t := (2, 0, 0, [251])) rfl rfl)
  have cr_0_143 : ta (w_ar ws (n_v vs 0) 143) = some 254 := tv_rg (th_fd hD hth r0 (g := GG_150) rfl (k := 143) (t := (2, 0, 0, [254])) rfl rfl)
  have ad_12 : v_ad (n_v vs 12) = w_ar ws (n_v vs 0) 140 := congrArg v_ad f6
  rw [ad_12] at f3
  have h3 : v_iv (n_v vs 16) = w_ei ws (w_ar ws (n_v vs 0) 140) (v_iv (n_v vs 15)) := f3
  have hK_0_140 : ∀ j : Int, 0 ≤ j → j < 24000 → 0 ≤ w_ei ws (w_ar ws (n_v vs 0) 140) j ∧ w_ei ws (w_ar ws (n_v vs 0) 140) j ≤ 1000000 := fun j h0 h1 => th_el hD hth cr_0_140 (kd := 0) (n := 24000) (m := 24000) (lo := 0) (hi := 1000000) (rs := []) (L := []) rfl (by decide) (j := j.toNat) (by omega)
  have hK_0_143 : ∀ j : Int, 0 ≤ j → j < 6000 → 0 ≤ w_ei ws (w_ar ws (n_v vs 0) 143) j ∧ w_ei ws (w_ar ws (n_v vs 0) 143) j ≤ 1 := fun j h0 h1 => th_el hD hth cr_0_143 (kd := 2) (n := 6000) (m := 6000) (lo := 0) (hi := 1) (rs := []) (L := []) rfl (by decide) (j := j.toNat) (by omega)
  have kz_0_146 : (-2147483648) ≤ w_fi ws (n_v vs 0) 146 ∧ w_fi ws (n_v vs 0) 146 ≤ 2147483647 := tv_rng (th_fd hD hth r0 (g := GG_150) rfl (k := 146) (t := (0, -2147483648, 2147483647, [])) rfl rfl)
  have kz_0_147 : (-2147483648) ≤ w_fi ws (n_v vs 0) 147 ∧ w_fi ws (n_v vs 0) 147 ≤ 2147483647 := tv_rng (th_fd hD hth r0 (g := GG_150) rfl (k := 147) (t := (0, -2147483648, 2147483647, [])) rfl rfl)
  have nf0 : fc_1 PRD (20, [0, 6, 7, 8, 19], [60, 2, 2, 430, 146, 147, 143, 140]) ws (vs) := by
    refine ⟨fun n hn => ?_, ?_⟩
    · have hn : n ∈ [0, 6, 7, 8, 19] := hn
      rw [hl]
      simp only [List.mem_cons, List.not_mem_nil, or_false] at hn
      show n < 20; omega
    · show BB1 (w_fi ws (n_v vs 0) 146) (w_fi ws (n_v vs 0) 147) (w_ei ws (w_ar ws (n_v vs 0) 143)) (w_ei ws (w_ar ws (n_v vs 0) 140)) (v_iv (n_v vs 6)) (v_iv (n_v vs 7)) (v_iv (n_v vs 8)) (v_iv (n_v vs 19))
      exact vc_Mo_bendsBecome_4_0 (v_iv (n_v vs 3)) (v_iv (n_v vs 5)) (v_iv (n_v vs 6)) (v_iv (n_v vs 7)) (v_iv (n_v vs 8)) (v_iv (n_v vs 9)) (v_iv (n_v vs 10)) (v_iv (n_v vs 11)) (v_iv (n_v vs 13)) (v_iv (n_v vs 14)) (v_iv (n_v vs 15)) (v_iv (n_v vs 16)) (v_iv (n_v vs 17)) (v_iv (n_v vs 18)) (v_iv (n_v vs 19)) (w_ei ws (w_ar ws (n_v vs 0) 140)) (w_ei ws (w_ar ws (n_v vs 0) 143)) (w_fi ws (n_v vs 0) 146) (w_fi ws (n_v vs 0) 147) k3 k5 k6 k7 k8 k9 k10 k11 k13 k14 k15 k16 k17 k18 k19 d0 d1 d2 d3 d4 d5 d6 d7 f0 f1 f2 h3 f4 f5 f7 f8 f9 f10 f11 f12 f13 f14 f15 f16 hK_0_140 hK_0_143 kz_0_146 kz_0_147
  refine ⟨(fun _ h => (by cases h)), [], trivial, ?_, (fun _ h => (by cases h))⟩
  rw [List.append_nil]
  exact List.forall_mem_cons.mpr ⟨⟨show (20 : Nat) < 100 from by decide, nf0⟩, (fun _ h => (by cases h))⟩
set_option maxHeartbeats 4000000 in
theorem vc_Mo_bendsBecome_5_0 (x3 : Int) (x5 : Int) (x6 : Int) (x7 : Int) (x8 : Int) (x9 : Int) (x10 : Int) (x11 : Int) (x13 : Int) (x14 : Int) (x15 : Int) (x16 : Int) (x17 : Int) (x18 : Int) (x19 : Int) (x20 : Int) (x21 : Int) (x22 : Int) (x23 : Int) (x24 : Int) (x25 : Int) (costOf_0 : Int → Int) (barredPoint_0 : Int → Int) (wide_0 : Int) (tall_0 : Int) (k3 : 0 ≤ x3 ∧ x3 ≤ 5999) (k5 : 0 ≤ x5 ∧ x5 ≤ 0) (k6 : 0 ≤ x6 ∧ x6 ≤ 5999) (k7 : (-1) ≤ x7 ∧ x7 ≤ 2) (k8 : 2 ≤ x8 ∧ x8 ≤ 1000001) (k9 : 0 ≤ x9 ∧ x9 ≤ 3) (k10 : 4 ≤ x10 ∧ x10 ≤ 4) (k11 : 0 ≤ x11 ∧ x11 ≤ 5999) (k13 : 4 ≤ x13 ∧ x13 ≤ 4) (k14 : 0 ≤ x14 ∧ x14 ≤ 23996) (k15 : 0 ≤ x15 ∧ x15 ≤ 23999) (k16 : 0 ≤ x16 ∧ x16 ≤ 999999) (k17 : 1 ≤ x17 ∧ x17 ≤ 1) (k18 : 1 ≤ x18 ∧ x18 ≤ 1000000) (k19 : 4 ≤ x19 ∧ x19 ≤ 4) (k20 : 0 ≤ x20 ∧ x20 ≤ 23996) (k21 : 0 ≤ x21 ∧ x21 ≤ 23999) (k22 : 0 ≤ x22 ∧ x22 ≤ 1000000) (k23 : 1 ≤ x23 ∧ x23 ≤ 1) (k24 : 1 ≤ x24 ∧ x24 ≤ 1000001) (k25 : 1 ≤ x25 ∧ x25 ≤ 4) (d0 : x9 + 1 ≤ x25 ∧ x25 ≤ x9 + 1) (d1 : x22 + 1 ≤ x24 ∧ x24 ≤ x22 + 1) (d2 : x9 + 0 ≤ x21 ∧ x21 ≤ x9 + 23996) (d3 : x20 + 0 ≤ x21 ∧ x21 ≤ x20 + 3) (d4 : x8 + (-4294967296) ≤ x18 ∧ x18 ≤ x8 + (-1)) (d5 : x16 + 1 ≤ x18 ∧ x18 ≤ x16 + 1) (d6 : x9 + 0 ≤ x15 ∧ x15 ≤ x9 + 23996) (d7 : x14 + 0 ≤ x15 ∧ x15 ≤ x14 + 3) (d8 : x9 + (-4294967296) ≤ x7 ∧ x7 ≤ x9 + (-1)) (d9 : x7 + (-4294967296) ≤ x8 ∧ x8 ≤ x7 + 1000001) (d10 : x9 + (-4294967296) ≤ x8 ∧ x8 ≤ x9 + 1000000) (f0 : x25 = x9 + 1) (f1 : x24 = x22 + x23) (h2 : x22 = costOf_0 (x21)) (f3 : x21 = x20 + x9) (f4 : x20 = 4 * x11) (f6 : x18 < x8) (f7 : x18 = x16 + x17) (h8 : x16 = costOf_0 (x15)) (f9 : x15 = x14 + x9) (f10 : x14 = 4 * x11) (f11 : 0 ≤ x11) (f12 : STQ (wide_0) (tall_0) (barredPoint_0) (x6) (x9) (x11)) (f13 : ((-1) ≤ x11) ∧ ((x11 + 1) ≤ (wide_0 * tall_0))) (f14 : x9 < x10) (f15 : GRX (wide_0) (tall_0)) (f16 : RTV (wide_0) (tall_0) (barredPoint_0) (costOf_0) (x3)) (f17 : (0 ≤ x3) ∧ ((x3 + 1) ≤ (wide_0 * tall_0))) (f18 : (0 ≤ x6) ∧ ((x6 + 1) ≤ (wide_0 * tall_0))) (f19 : BB1 (wide_0) (tall_0) (barredPoint_0) (costOf_0) (x6) (x7) (x8) (x9)) (f20 : x5 = 0) (hK_0_140 : ∀ j : Int, 0 ≤ j → j < 24000 → 0 ≤ costOf_0 j ∧ costOf_0 j ≤ 1000000) (hK_0_143 : ∀ j : Int, 0 ≤ j → j < 6000 → 0 ≤ barredPoint_0 j ∧ barredPoint_0 j ≤ 1) (kz_0_146 : (-2147483648) ≤ wide_0 ∧ wide_0 ≤ 2147483647) (kz_0_147 : (-2147483648) ≤ tall_0 ∧ tall_0 ≤ 2147483647) : BB1 (wide_0) (tall_0) (barredPoint_0) (costOf_0) (x6) (x9) (x24) (x25) := by
  first
    | assumption
    | exact Or.inl ⟨by omega, by omega⟩
    | (have h := ‹BB1 _ _ _ _ _ _ _ _›; exact h)
    | (have hb : x8 ≤ 1000000 := by
         rcases ‹BB1 _ _ _ _ _ _ _ _› with h | h
         · omega
         · have := h.2.1; omega
       have e1 : x16 = costOf_0 x15 := by assumption
       have e2 : x22 = costOf_0 x21 := by assumption
       have e3 : x15 = x21 := by omega
       rw [e3, ← e2] at e1
       rw [show x24 = x22 + 1 by omega]; exact bb1_take (b := x8) (d := x7) (q := x11) (x := x21) (v := x22) ‹STQ _ _ _ _ _ _› (by omega) (by omega) (by omega) (by omega) (by assumption) (by omega))
    | sorry
def o_Mo_bendsBecome_5 : or_T := (22, 26, [(0, (2, 0, 0, [150])), (3, (0, 0, 5999, [])), (5, (0, 0, 0, [])), (6, (0, 0, 5999, [])), (7, (0, -1, 2, [])), (8, (0, 2, 1000001, [])), (9, (0, 0, 3, [])), (10, (0, 4, 4, [])), (11, (0, 0, 5999, [])), (12, (2, 0, 0, [251])), (13, (0, 4, 4, [])), (14, (0, 0, 23996, [])), (15, (0, 0, 23999, [])), (16, (0, 0, 999999, [])), (17, (0, 1, 1, [])), (18, (0, 1, 1000000, [])), (19, (0, 4, 4, [])), (20, (0, 0, 23996, [])), (21, (0, 0, 23999, [])), (22, (0, 0, 1000000, [])), (23, (0, 1, 1, [])), (24, (0, 1, 1000001, [])), (25, (0, 1, 4, []))], [(6, [25, 9], [1]), (1, [24, 22, 23], []), (10, [22, 12, 21], []), (1, [21, 20, 9], []), (3, [20, 19, 11], []), (9, [12, 0], [140]), (7, [18, 8], [2]), (1, [18, 16, 17], []), (10, [16, 12, 15], []), (1, [15, 14, 9], []), (3, [14, 13, 11], []), (8, [11], [3]), (20, [0, 6, 9, 11], [60, 2, 1, 429, 146, 147, 143]), (20, [11, 0], [50, 2, 0, 1146, 1147, 2, 6, 0, 2, 0, -1, 1, 0, 0, 6, 4, 2, 1, 0, 0, 1, 6, 3, 2, 1, 146, 2, 1, 147]), (7, [9, 10], [2]), (20, [0], [60, 2, 0, 418, 146, 147]), (20, [0, 3], [60, 2, 2, 428, 146, 147, 143, 140]), (20, [3, 0], [50, 2, 0, 1146, 1147, 2, 6, 0, 2, 0, 0, 1, 0, 0, 6, 4, 2, 1, 0, 0, 1, 6, 3, 2, 1, 146, 2, 1, 147]), (20, [6, 0], [50, 2, 0, 1146, 1147, 2, 6, 0, 2, 0, 0, 1, 0, 0, 6, 4, 2, 1, 0, 0, 1, 6, 3, 2, 1, 146, 2, 1, 147]), (20, [0, 6, 7, 8, 9], [60, 2, 2, 430, 146, 147, 143, 140]), (20, [5], [50, 0, 0, 1, 2, 1, 0, 0, 0])], [], [], [(20, [0, 6, 9, 24, 25], [60, 2, 2, 430, 146, 147, 143, 140])], [], [(25, 9, 1, 1), (24, 22, 1, 1), (21, 9, 0, 23996), (21, 20, 0, 3), (18, 8, -4294967296, -1), (18, 16, 1, 1), (15, 9, 0, 23996), (15, 14, 0, 3), (7, 9, -4294967296, -1), (8, 7, -4294967296, 1000001), (8, 9, -4294967296, 1000000)])
theorem oo_Mo_bendsBecome_5 {kA : Nat → ClassId} : or_ok PRD kA GG o_Mo_bendsBecome_5 := by
  intro A ta ws vs hD hth hl hk hds hf
  have hl : vs.length = 26 := hl
  have hk : ∀ q ∈ ([(0, (2, 0, 0, [150])), (3, (0, 0, 5999, [])), (5, (0, 0, 0, [])), (6, (0, 0, 5999, [])), (7, (0, -1, 2, [])), (8, (0, 2, 1000001, [])), (9, (0, 0, 3, [])), (10, (0, 4, 4, [])), (11, (0, 0, 5999, [])), (12, (2, 0, 0, [251])), (13, (0, 4, 4, [])), (14, (0, 0, 23996, [])), (15, (0, 0, 23999, [])), (16, (0, 0, 999999, [])), (17, (0, 1, 1, [])), (18, (0, 1, 1000000, [])), (19, (0, 4, 4, [])), (20, (0, 0, 23996, [])), (21, (0, 0, 23999, [])), (22, (0, 0, 1000000, [])), (23, (0, 1, 1, [])), (24, (0, 1, 1000001, [])), (25, (0, 1, 4, []))] : List (Nat × tv_T)), tv_ok ta q.2 (n_v vs q.1) := hk
  obtain ⟨t0, hk⟩ := List.forall_mem_cons.mp hk
  have t0 : tv_ok ta (2, 0, 0, [150]) (n_v vs 0) := t0
  have r0 : ta (v_ad (n_v vs 0)) = some 150 := tv_rg t0
  obtain ⟨t3, hk⟩ := List.forall_mem_cons.mp hk
  have t3 : tv_ok ta (0, 0, 5999, []) (n_v vs 3) := t3
  have k3 : 0 ≤ v_iv (n_v vs 3) ∧ v_iv (n_v vs 3) ≤ 5999 := tv_rng t3
  obtain ⟨t5, hk⟩ := List.forall_mem_cons.mp hk
  have t5 : tv_ok ta (0, 0, 0, []) (n_v vs 5) := t5
  have k5 : 0 ≤ v_iv (n_v vs 5) ∧ v_iv (n_v vs 5) ≤ 0 := tv_rng t5
  obtain ⟨t6, hk⟩ := List.forall_mem_cons.mp hk
  have t6 : tv_ok ta (0, 0, 5999, []) (n_v vs 6) := t6
  have k6 : 0 ≤ v_iv (n_v vs 6) ∧ v_iv (n_v vs 6) ≤ 5999 := tv_rng t6
  obtain ⟨t7, hk⟩ := List.forall_mem_cons.mp hk
  have t7 : tv_ok ta (0, -1, 2, []) (n_v vs 7) := t7
  have k7 : (-1) ≤ v_iv (n_v vs 7) ∧ v_iv (n_v vs 7) ≤ 2 := tv_rng t7
  obtain ⟨t8, hk⟩ := List.forall_mem_cons.mp hk
  have t8 : tv_ok ta (0, 2, 1000001, []) (n_v vs 8) := t8
  have k8 : 2 ≤ v_iv (n_v vs 8) ∧ v_iv (n_v vs 8) ≤ 1000001 := tv_rng t8
  obtain ⟨t9, hk⟩ := List.forall_mem_cons.mp hk
  have t9 : tv_ok ta (0, 0, 3, []) (n_v vs 9) := t9
  have k9 : 0 ≤ v_iv (n_v vs 9) ∧ v_iv (n_v vs 9) ≤ 3 := tv_rng t9
  obtain ⟨t10, hk⟩ := List.forall_mem_cons.mp hk
  have t10 : tv_ok ta (0, 4, 4, []) (n_v vs 10) := t10
  have k10 : 4 ≤ v_iv (n_v vs 10) ∧ v_iv (n_v vs 10) ≤ 4 := tv_rng t10
  obtain ⟨t11, hk⟩ := List.forall_mem_cons.mp hk
  have t11 : tv_ok ta (0, 0, 5999, []) (n_v vs 11) := t11
  have k11 : 0 ≤ v_iv (n_v vs 11) ∧ v_iv (n_v vs 11) ≤ 5999 := tv_rng t11
  obtain ⟨t12, hk⟩ := List.forall_mem_cons.mp hk
  have t12 : tv_ok ta (2, 0, 0, [251]) (n_v vs 12) := t12
  have r12 : ta (v_ad (n_v vs 12)) = some 251 := tv_rg t12
  obtain ⟨t13, hk⟩ := List.forall_mem_cons.mp hk
  have t13 : tv_ok ta (0, 4, 4, []) (n_v vs 13) := t13
  have k13 : 4 ≤ v_iv (n_v vs 13) ∧ v_iv (n_v vs 13) ≤ 4 := tv_rng t13
  obtain ⟨t14, hk⟩ := List.forall_mem_cons.mp hk
  have t14 : tv_ok ta (0, 0, 23996, []) (n_v vs 14) := t14
  have k14 : 0 ≤ v_iv (n_v vs 14) ∧ v_iv (n_v vs 14) ≤ 23996 := tv_rng t14
  obtain ⟨t15, hk⟩ := List.forall_mem_cons.mp hk
  have t15 : tv_ok ta (0, 0, 23999, []) (n_v vs 15) := t15
  have k15 : 0 ≤ v_iv (n_v vs 15) ∧ v_iv (n_v vs 15) ≤ 23999 := tv_rng t15
  obtain ⟨t16, hk⟩ := List.forall_mem_cons.mp hk
  have t16 : tv_ok ta (0, 0, 999999, []) (n_v vs 16) := t16
  have k16 : 0 ≤ v_iv (n_v vs 16) ∧ v_iv (n_v vs 16) ≤ 999999 := tv_rng t16
  obtain ⟨t17, hk⟩ := List.forall_mem_cons.mp hk
  have t17 : tv_ok ta (0, 1, 1, []) (n_v vs 17) := t17
  have k17 : 1 ≤ v_iv (n_v vs 17) ∧ v_iv (n_v vs 17) ≤ 1 := tv_rng t17
  obtain ⟨t18, hk⟩ := List.forall_mem_cons.mp hk
  have t18 : tv_ok ta (0, 1, 1000000, []) (n_v vs 18) := t18
  have k18 : 1 ≤ v_iv (n_v vs 18) ∧ v_iv (n_v vs 18) ≤ 1000000 := tv_rng t18
  obtain ⟨t19, hk⟩ := List.forall_mem_cons.mp hk
  have t19 : tv_ok ta (0, 4, 4, []) (n_v vs 19) := t19
  have k19 : 4 ≤ v_iv (n_v vs 19) ∧ v_iv (n_v vs 19) ≤ 4 := tv_rng t19
  obtain ⟨t20, hk⟩ := List.forall_mem_cons.mp hk
  have t20 : tv_ok ta (0, 0, 23996, []) (n_v vs 20) := t20
  have k20 : 0 ≤ v_iv (n_v vs 20) ∧ v_iv (n_v vs 20) ≤ 23996 := tv_rng t20
  obtain ⟨t21, hk⟩ := List.forall_mem_cons.mp hk
  have t21 : tv_ok ta (0, 0, 23999, []) (n_v vs 21) := t21
  have k21 : 0 ≤ v_iv (n_v vs 21) ∧ v_iv (n_v vs 21) ≤ 23999 := tv_rng t21
  obtain ⟨t22, hk⟩ := List.forall_mem_cons.mp hk
  have t22 : tv_ok ta (0, 0, 1000000, []) (n_v vs 22) := t22
  have k22 : 0 ≤ v_iv (n_v vs 22) ∧ v_iv (n_v vs 22) ≤ 1000000 := tv_rng t22
  obtain ⟨t23, hk⟩ := List.forall_mem_cons.mp hk
  have t23 : tv_ok ta (0, 1, 1, []) (n_v vs 23) := t23
  have k23 : 1 ≤ v_iv (n_v vs 23) ∧ v_iv (n_v vs 23) ≤ 1 := tv_rng t23
  obtain ⟨t24, hk⟩ := List.forall_mem_cons.mp hk
  have t24 : tv_ok ta (0, 1, 1000001, []) (n_v vs 24) := t24
  have k24 : 1 ≤ v_iv (n_v vs 24) ∧ v_iv (n_v vs 24) ≤ 1000001 := tv_rng t24
  obtain ⟨t25, hk⟩ := List.forall_mem_cons.mp hk
  have t25 : tv_ok ta (0, 1, 4, []) (n_v vs 25) := t25
  have k25 : 1 ≤ v_iv (n_v vs 25) ∧ v_iv (n_v vs 25) ≤ 4 := tv_rng t25
  have hds : ∀ q ∈ ([(25, 9, 1, 1), (24, 22, 1, 1), (21, 9, 0, 23996), (21, 20, 0, 3), (18, 8, -4294967296, -1), (18, 16, 1, 1), (15, 9, 0, 23996), (15, 14, 0, 3), (7, 9, -4294967296, -1), (8, 7, -4294967296, 1000001), (8, 9, -4294967296, 1000000)] : List of_T), n_iv vs q.2.1 + q.2.2.1 ≤ n_iv vs q.1 ∧ n_iv vs q.1 ≤ n_iv vs q.2.1 + q.2.2.2 := hds
  obtain ⟨d0, hds⟩ := List.forall_mem_cons.mp hds
  have d0 : v_iv (n_v vs 9) + 1 ≤ v_iv (n_v vs 25) ∧ v_iv (n_v vs 25) ≤ v_iv (n_v vs 9) + 1 := d0
  obtain ⟨d1, hds⟩ := List.forall_mem_cons.mp hds
  have d1 : v_iv (n_v vs 22) + 1 ≤ v_iv (n_v vs 24) ∧ v_iv (n_v vs 24) ≤ v_iv (n_v vs 22) + 1 := d1
  obtain ⟨d2, hds⟩ := List.forall_mem_cons.mp hds
  have d2 : v_iv (n_v vs 9) + 0 ≤ v_iv (n_v vs 21) ∧ v_iv (n_v vs 21) ≤ v_iv (n_v vs 9) + 23996 := d2
  obtain ⟨d3, hds⟩ := List.forall_mem_cons.mp hds
  have d3 : v_iv (n_v vs 20) + 0 ≤ v_iv (n_v vs 21) ∧ v_iv (n_v vs 21) ≤ v_iv (n_v vs 20) + 3 := d3
  obtain ⟨d4, hds⟩ := List.forall_mem_cons.mp hds
  have d4 : v_iv (n_v vs 8) + (-4294967296) ≤ v_iv (n_v vs 18) ∧ v_iv (n_v vs 18) ≤ v_iv (n_v vs 8) + (-1) := d4
  obtain ⟨d5, hds⟩ := List.forall_mem_cons.mp hds
  have d5 : v_iv (n_v vs 16) + 1 ≤ v_iv (n_v vs 18) ∧ v_iv (n_v vs 18) ≤ v_iv (n_v vs 16) + 1 := d5
  obtain ⟨d6, hds⟩ := List.forall_mem_cons.mp hds
  have d6 : v_iv (n_v vs 9) + 0 ≤ v_iv (n_v vs 15) ∧ v_iv (n_v vs 15) ≤ v_iv (n_v vs 9) + 23996 := d6
  obtain ⟨d7, hds⟩ := List.forall_mem_cons.mp hds
  have d7 : v_iv (n_v vs 14) + 0 ≤ v_iv (n_v vs 15) ∧ v_iv (n_v vs 15) ≤ v_iv (n_v vs 14) + 3 := d7
  obtain ⟨d8, hds⟩ := List.forall_mem_cons.mp hds
  have d8 : v_iv (n_v vs 9) + (-4294967296) ≤ v_iv (n_v vs 7) ∧ v_iv (n_v vs 7) ≤ v_iv (n_v vs 9) + (-1) := d8
  obtain ⟨d9, hds⟩ := List.forall_mem_cons.mp hds
  have d9 : v_iv (n_v vs 7) + (-4294967296) ≤ v_iv (n_v vs 8) ∧ v_iv (n_v vs 8) ≤ v_iv (n_v vs 7) + 1000001 := d9
  obtain ⟨d10, hds⟩ := List.forall_mem_cons.mp hds
  have d10 : v_iv (n_v vs 9) + (-4294967296) ≤ v_iv (n_v vs 8) ∧ v_iv (n_v vs 8) ≤ v_iv (n_v vs 9) + 1000000 := d10
  have hf : fc_ok PRD [(6, [25, 9], [1]), (1, [24, 22, 23], []), (10, [22, 12, 21], []), (1, [21, 20, 9], []), (3, [20, 19, 11], []), (9, [12, 0], [140]), (7, [18, 8], [2]), (1, [18, 16, 17], []), (10, [16, 12, 15], []), (1, [15, 14, 9], []), (3, [14, 13, 11], []), (8, [11], [3]), (20, [0, 6, 9, 11], [60, 2, 1, 429, 146, 147, 143]), (20, [11, 0], [50, 2, 0, 1146, 1147, 2, 6, 0, 2, 0, -1, 1, 0, 0, 6, 4, 2, 1, 0, 0, 1, 6, 3, 2, 1, 146, 2, 1, 147]), (7, [9, 10], [2]), (20, [0], [60, 2, 0, 418, 146, 147]), (20, [0, 3], [60, 2, 2, 428, 146, 147, 143, 140]), (20, [3, 0], [50, 2, 0, 1146, 1147, 2, 6, 0, 2, 0, 0, 1, 0, 0, 6, 4, 2, 1, 0, 0, 1, 6, 3, 2, 1, 146, 2, 1, 147]), (20, [6, 0], [50, 2, 0, 1146, 1147, 2, 6, 0, 2, 0, 0, 1, 0, 0, 6, 4, 2, 1, 0, 0, 1, 6, 3, 2, 1, 146, 2, 1, 147]), (20, [0, 6, 7, 8, 9], [60, 2, 2, 430, 146, 147, 143, 140]), (20, [5], [50, 0, 0, 1, 2, 1, 0, 0, 0])] ta ws vs := hf
  obtain ⟨f0, hf⟩ := fc_un (show (6 : Nat) < 100 from by decide) hf
  have f0 : v_iv (n_v vs 25) = v_iv (n_v vs 9) + 1 := f0
  obtain ⟨f1, hf⟩ := fc_un (show (1 : Nat) < 100 from by decide) hf
  have f1 : v_iv (n_v vs 24) = v_iv (n_v vs 22) + v_iv (n_v vs 23) := f1
  obtain ⟨f2, hf⟩ := fc_un (show (10 : Nat) < 100 from by decide) hf
  have f2 : v_iv (n_v vs 22) = w_el ws (v_ad (n_v vs 12)) (v_iv (n_v vs 21)).toNat := f2
  obtain ⟨f3, hf⟩ := fc_un (show (1 : Nat) < 100 from by decide) hf
  have f3 : v_iv (n_v vs 21) = v_iv (n_v vs 20) + v_iv (n_v vs 9) := f3
  obtain ⟨f4, hf⟩ := fc_un (show (3 : Nat) < 100 from by decide) hf
  have f4 : v_iv (n_v vs 20) = v_iv (n_v vs 19) * v_iv (n_v vs 11) := f4
  rw [show v_iv (n_v vs 19) = 4 from by omega] at f4
  obtain ⟨f5, hf⟩ := fc_un (show (9 : Nat) < 100 from by decide) hf
  have f5 : n_v vs 12 = w_fd ws (v_ad (n_v vs 0)) 140 := f5
  obtain ⟨f6, hf⟩ := fc_un (show (7 : Nat) < 100 from by decide) hf
  have f6 : v_iv (n_v vs 18) < v_iv (n_v vs 8) := f6
  obtain ⟨f7, hf⟩ := fc_un (show (1 : Nat) < 100 from by decide) hf
  have f7 : v_iv (n_v vs 18) = v_iv (n_v vs 16) + v_iv (n_v vs 17) := f7
  obtain ⟨f8, hf⟩ := fc_un (show (10 : Nat) < 100 from by decide) hf
  have f8 : v_iv (n_v vs 16) = w_el ws (v_ad (n_v vs 12)) (v_iv (n_v vs 15)).toNat := f8
  obtain ⟨f9, hf⟩ := fc_un (show (1 : Nat) < 100 from by decide) hf
  have f9 : v_iv (n_v vs 15) = v_iv (n_v vs 14) + v_iv (n_v vs 9) := f9
  obtain ⟨f10, hf⟩ := fc_un (show (3 : Nat) < 100 from by decide) hf
  have f10 : v_iv (n_v vs 14) = v_iv (n_v vs 13) * v_iv (n_v vs 11) := f10
  rw [show v_iv (n_v vs 13) = 4 from by omega] at f10
  obtain ⟨f11, hf⟩ := fc_un (show (8 : Nat) < 100 from by decide) hf
  have f11 : 0 ≤ v_iv (n_v vs 11) := f11
  obtain ⟨f12, hf⟩ := fc_un (show (20 : Nat) < 100 from by decide) hf
  have f12 : STQ (w_fi ws (n_v vs 0) 146) (w_fi ws (n_v vs 0) 147) (w_ei ws (w_ar ws (n_v vs 0) 143)) (v_iv (n_v vs 6)) (v_iv (n_v vs 9)) (v_iv (n_v vs 11)) := f12
  obtain ⟨f13, hf⟩ := fc_un (show (20 : Nat) < 100 from by decide) hf
  have f13 : ((-1) ≤ v_iv (n_v vs 11)) ∧ ((v_iv (n_v vs 11) + 1) ≤ (w_fi ws (n_v vs 0) 146 * w_fi ws (n_v vs 0) 147)) := f13
  obtain ⟨f14, hf⟩ := fc_un (show (7 : Nat) < 100 from by decide) hf
  have f14 : v_iv (n_v vs 9) < v_iv (n_v vs 10) := f14
  obtain ⟨f15, hf⟩ := fc_un (show (20 : Nat) < 100 from by decide) hf
  have f15 : GRX (w_fi ws (n_v vs 0) 146) (w_fi ws (n_v vs 0) 147) := f15
  obtain ⟨f16, hf⟩ := fc_un (show (20 : Nat) < 100 from by decide) hf
  have f16 : RTV (w_fi ws (n_v vs 0) 146) (w_fi ws (n_v vs 0) 147) (w_ei ws (w_ar ws (n_v vs 0) 143)) (w_ei ws (w_ar ws (n_v vs 0) 140)) (v_iv (n_v vs 3)) := f16
  obtain ⟨f17, hf⟩ := fc_un (show (20 : Nat) < 100 from by decide) hf
  have f17 : (0 ≤ v_iv (n_v vs 3)) ∧ ((v_iv (n_v vs 3) + 1) ≤ (w_fi ws (n_v vs 0) 146 * w_fi ws (n_v vs 0) 147)) := f17
  obtain ⟨f18, hf⟩ := fc_un (show (20 : Nat) < 100 from by decide) hf
  have f18 : (0 ≤ v_iv (n_v vs 6)) ∧ ((v_iv (n_v vs 6) + 1) ≤ (w_fi ws (n_v vs 0) 146 * w_fi ws (n_v vs 0) 147)) := f18
  obtain ⟨f19, hf⟩ := fc_un (show (20 : Nat) < 100 from by decide) hf
  have f19 : BB1 (w_fi ws (n_v vs 0) 146) (w_fi ws (n_v vs 0) 147) (w_ei ws (w_ar ws (n_v vs 0) 143)) (w_ei ws (w_ar ws (n_v vs 0) 140)) (v_iv (n_v vs 6)) (v_iv (n_v vs 7)) (v_iv (n_v vs 8)) (v_iv (n_v vs 9)) := f19
  obtain ⟨f20, hf⟩ := fc_un (show (20 : Nat) < 100 from by decide) hf
  have f20 : v_iv (n_v vs 5) = 0 := f20
  have cr_0_140 : ta (w_ar ws (n_v vs 0) 140) = some 251 := tv_rg (th_fd hD hth r0 (g := GG_150) rfl (k := 140) (t := (2, 0, 0, [251])) rfl rfl)
  have cr_0_143 : ta (w_ar ws (n_v vs 0) 143) = some 254 := tv_rg (th_fd hD hth r0 (g := GG_150) rfl (k := 143) (t := (2, 0, 0, [254])) rfl rfl)
  have ad_12 : v_ad (n_v vs 12) = w_ar ws (n_v vs 0) 140 := congrArg v_ad f5
  rw [ad_12] at f2
  have h2 : v_iv (n_v vs 22) = w_ei ws (w_ar ws (n_v vs 0) 140) (v_iv (n_v vs 21)) := f2
  rw [ad_12] at f8
  have h8 : v_iv (n_v vs 16) = w_ei ws (w_ar ws (n_v vs 0) 140) (v_iv (n_v vs 15)) := f8
  have hK_0_140 : ∀ j : Int, 0 ≤ j → j < 24000 → 0 ≤ w_ei ws (w_ar ws (n_v vs 0) 140) j ∧ w_ei ws (w_ar ws (n_v vs 0) 140) j ≤ 1000000 := fun j h0 h1 => th_el hD hth cr_0_140 (kd := 0) (n := 24000) (m := 24000) (lo := 0) (hi := 1000000) (rs := []) (L := []) rfl (by decide) (j := j.toNat) (by omega)
  have hK_0_143 : ∀ j : Int, 0 ≤ j → j < 6000 → 0 ≤ w_ei ws (w_ar ws (n_v vs 0) 143) j ∧ w_ei ws (w_ar ws (n_v vs 0) 143) j ≤ 1 := fun j h0 h1 => th_el hD hth cr_0_143 (kd := 2) (n := 6000) (m := 6000) (lo := 0) (hi := 1) (rs := []) (L := []) rfl (by decide) (j := j.toNat) (by omega)
  have kz_0_146 : (-2147483648) ≤ w_fi ws (n_v vs 0) 146 ∧ w_fi ws (n_v vs 0) 146 ≤ 2147483647 := tv_rng (th_fd hD hth r0 (g := GG_150) rfl (k := 146) (t := (0, -2147483648, 2147483647, [])) rfl rfl)
  have kz_0_147 : (-2147483648) ≤ w_fi ws (n_v vs 0) 147 ∧ w_fi ws (n_v vs 0) 147 ≤ 2147483647 := tv_rng (th_fd hD hth r0 (g := GG_150) rfl (k := 147) (t := (0, -2147483648, 2147483647, [])) rfl rfl)
  have nf0 : fc_1 PRD (20, [0, 6, 9, 24, 25], [60, 2, 2, 430, 146, 147, 143, 140]) ws (vs) := by
    refine ⟨fun n hn => ?_, ?_⟩
    · have hn : n ∈ [0, 6, 9, 24, 25] := hn
      rw [hl]
      simp only [List.mem_cons, List.not_mem_nil, or_false] at hn
      show n < 26; omega
    · show BB1 (w_fi ws (n_v vs 0) 146) (w_fi ws (n_v vs 0) 147) (w_ei ws (w_ar ws (n_v vs 0) 143)) (w_ei ws (w_ar ws (n_v vs 0) 140)) (v_iv (n_v vs 6)) (v_iv (n_v vs 9)) (v_iv (n_v vs 24)) (v_iv (n_v vs 25))
      exact vc_Mo_bendsBecome_5_0 (v_iv (n_v vs 3)) (v_iv (n_v vs 5)) (v_iv (n_v vs 6)) (v_iv (n_v vs 7)) (v_iv (n_v vs 8)) (v_iv (n_v vs 9)) (v_iv (n_v vs 10)) (v_iv (n_v vs 11)) (v_iv (n_v vs 13)) (v_iv (n_v vs 14)) (v_iv (n_v vs 15)) (v_iv (n_v vs 16)) (v_iv (n_v vs 17)) (v_iv (n_v vs 18)) (v_iv (n_v vs 19)) (v_iv (n_v vs 20)) (v_iv (n_v vs 21)) (v_iv (n_v vs 22)) (v_iv (n_v vs 23)) (v_iv (n_v vs 24)) (v_iv (n_v vs 25)) (w_ei ws (w_ar ws (n_v vs 0) 140)) (w_ei ws (w_ar ws (n_v vs 0) 143)) (w_fi ws (n_v vs 0) 146) (w_fi ws (n_v vs 0) 147) k3 k5 k6 k7 k8 k9 k10 k11 k13 k14 k15 k16 k17 k18 k19 k20 k21 k22 k23 k24 k25 d0 d1 d2 d3 d4 d5 d6 d7 d8 d9 d10 f0 f1 h2 f3 f4 f6 f7 h8 f9 f10 f11 f12 f13 f14 f15 f16 f17 f18 f19 f20 hK_0_140 hK_0_143 kz_0_146 kz_0_147
  refine ⟨(fun _ h => (by cases h)), [], trivial, ?_, (fun _ h => (by cases h))⟩
  rw [List.append_nil]
  exact List.forall_mem_cons.mpr ⟨⟨show (20 : Nat) < 100 from by decide, nf0⟩, (fun _ h => (by cases h))⟩
set_option maxHeartbeats 4000000 in
theorem vc_Mo_bendsBecome_6_0 (x3 : Int) (x5 : Int) (x6 : Int) (x7 : Int) (x9 : Int) (x10 : Int) (x11 : Int) (x12 : Int) (x13 : Int) (wide_0 : Int) (tall_0 : Int) (barredPoint_0 : Int → Int) (costOf_0 : Int → Int) (gx : Int) (k3 : 0 ≤ x3 ∧ x3 ≤ 5999) (k5 : 0 ≤ x5 ∧ x5 ≤ 2147483647) (k6 : 0 ≤ x6 ∧ x6 ≤ 5999) (k7 : 0 ≤ x7 ∧ x7 ≤ 3) (k9 : 0 ≤ x9 ∧ x9 ≤ 1000000) (k10 : (-2) ≤ x10 ∧ x10 ≤ 1000000) (k11 : (-1) ≤ x11 ∧ x11 ≤ (-1)) (k12 : 0 ≤ x12 ∧ x12 ≤ 0) (k13 : 3 ≤ x13 ∧ x13 ≤ 3) (f0 : x6 ≠ x3) (f1 : GRX (wide_0) (tall_0)) (f2 : RTV (wide_0) (tall_0) (barredPoint_0) (costOf_0) (x3)) (f3 : (0 ≤ x3) ∧ ((x3 + 1) ≤ (wide_0 * tall_0))) (f4 : BB2 (wide_0) (tall_0) (barredPoint_0) (costOf_0) (x6) (x7) (x9)) (f5 : (0 ≤ x6) ∧ ((x6 + 1) ≤ (wide_0 * tall_0))) (f6 : (x5 + x9) ≤ 1000000) (f7 : 0 ≤ x5) (f8 : (0 ≤ x9) ∧ (x9 ≤ x10)) (hK_0_140 : ∀ j : Int, 0 ≤ j → j < 24000 → 0 ≤ costOf_0 j ∧ costOf_0 j ≤ 1000000) (hK_0_143 : ∀ j : Int, 0 ≤ j → j < 6000 → 0 ≤ barredPoint_0 j ∧ barredPoint_0 j ≤ 1) (kz_0_146 : (-2147483648) ≤ wide_0 ∧ wide_0 ≤ 2147483647) (kz_0_147 : (-2147483648) ≤ tall_0 ∧ tall_0 ≤ 2147483647) (ex2 : gx = 0 + (1 * x10 + 0)) (ex3 : (-2) ≤ gx ∧ gx ≤ 1000000) : GRX (wide_0) (tall_0) := by
  assumption
set_option maxHeartbeats 4000000 in
theorem vc_Mo_bendsBecome_6_1 (x3 : Int) (x5 : Int) (x6 : Int) (x7 : Int) (x9 : Int) (x10 : Int) (x11 : Int) (x12 : Int) (x13 : Int) (wide_0 : Int) (tall_0 : Int) (barredPoint_0 : Int → Int) (costOf_0 : Int → Int) (gx : Int) (k3 : 0 ≤ x3 ∧ x3 ≤ 5999) (k5 : 0 ≤ x5 ∧ x5 ≤ 2147483647) (k6 : 0 ≤ x6 ∧ x6 ≤ 5999) (k7 : 0 ≤ x7 ∧ x7 ≤ 3) (k9 : 0 ≤ x9 ∧ x9 ≤ 1000000) (k10 : (-2) ≤ x10 ∧ x10 ≤ 1000000) (k11 : (-1) ≤ x11 ∧ x11 ≤ (-1)) (k12 : 0 ≤ x12 ∧ x12 ≤ 0) (k13 : 3 ≤ x13 ∧ x13 ≤ 3) (f0 : x6 ≠ x3) (f1 : GRX (wide_0) (tall_0)) (f2 : RTV (wide_0) (tall_0) (barredPoint_0) (costOf_0) (x3)) (f3 : (0 ≤ x3) ∧ ((x3 + 1) ≤ (wide_0 * tall_0))) (f4 : BB2 (wide_0) (tall_0) (barredPoint_0) (costOf_0) (x6) (x7) (x9)) (f5 : (0 ≤ x6) ∧ ((x6 + 1) ≤ (wide_0 * tall_0))) (f6 : (x5 + x9) ≤ 1000000) (f7 : 0 ≤ x5) (f8 : (0 ≤ x9) ∧ (x9 ≤ x10)) (hK_0_140 : ∀ j : Int, 0 ≤ j → j < 24000 → 0 ≤ costOf_0 j ∧ costOf_0 j ≤ 1000000) (hK_0_143 : ∀ j : Int, 0 ≤ j → j < 6000 → 0 ≤ barredPoint_0 j ∧ barredPoint_0 j ≤ 1) (kz_0_146 : (-2147483648) ≤ wide_0 ∧ wide_0 ≤ 2147483647) (kz_0_147 : (-2147483648) ≤ tall_0 ∧ tall_0 ≤ 2147483647) (ex2 : gx = 0 + (1 * x10 + 0)) (ex3 : (-2) ≤ gx ∧ gx ≤ 1000000) : RTV (wide_0) (tall_0) (barredPoint_0) (costOf_0) (x3) := by
  assumption
set_option maxHeartbeats 4000000 in
theorem vc_Mo_bendsBecome_6_2 (x3 : Int) (x5 : Int) (x6 : Int) (x7 : Int) (x9 : Int) (x10 : Int) (x11 : Int) (x12 : Int) (x13 : Int) (wide_0 : Int) (tall_0 : Int) (barredPoint_0 : Int → Int) (costOf_0 : Int → Int) (gx : Int) (k3 : 0 ≤ x3 ∧ x3 ≤ 5999) (k5 : 0 ≤ x5 ∧ x5 ≤ 2147483647) (k6 : 0 ≤ x6 ∧ x6 ≤ 5999) (k7 : 0 ≤ x7 ∧ x7 ≤ 3) (k9 : 0 ≤ x9 ∧ x9 ≤ 1000000) (k10 : (-2) ≤ x10 ∧ x10 ≤ 1000000) (k11 : (-1) ≤ x11 ∧ x11 ≤ (-1)) (k12 : 0 ≤ x12 ∧ x12 ≤ 0) (k13 : 3 ≤ x13 ∧ x13 ≤ 3) (f0 : x6 ≠ x3) (f1 : GRX (wide_0) (tall_0)) (f2 : RTV (wide_0) (tall_0) (barredPoint_0) (costOf_0) (x3)) (f3 : (0 ≤ x3) ∧ ((x3 + 1) ≤ (wide_0 * tall_0))) (f4 : BB2 (wide_0) (tall_0) (barredPoint_0) (costOf_0) (x6) (x7) (x9)) (f5 : (0 ≤ x6) ∧ ((x6 + 1) ≤ (wide_0 * tall_0))) (f6 : (x5 + x9) ≤ 1000000) (f7 : 0 ≤ x5) (f8 : (0 ≤ x9) ∧ (x9 ≤ x10)) (hK_0_140 : ∀ j : Int, 0 ≤ j → j < 24000 → 0 ≤ costOf_0 j ∧ costOf_0 j ≤ 1000000) (hK_0_143 : ∀ j : Int, 0 ≤ j → j < 6000 → 0 ≤ barredPoint_0 j ∧ barredPoint_0 j ≤ 1) (kz_0_146 : (-2147483648) ≤ wide_0 ∧ wide_0 ≤ 2147483647) (kz_0_147 : (-2147483648) ≤ tall_0 ∧ tall_0 ≤ 2147483647) (ex2 : gx = 0 + (1 * x10 + 0)) (ex3 : (-2) ≤ gx ∧ gx ≤ 1000000) : (0 ≤ x3) ∧ ((x3 + 1) ≤ (wide_0 * tall_0)) := by
  first
    | omega
    | (have h := ‹BB2 _ _ _ _ _ _ _›
       obtain ⟨g, c, hc⟩ := ‹RTV _ _ _ _ _›
       obtain ⟨p0, d0, b0, e, t0, t1⟩ := h
       have w := ((hc (4 * x6 + x7) (by omega) (by omega)).2 (by omega)).2
       rw [e] at w
       rcases w with w | ⟨d', q, w1, w2, w3, w4, w5, w6⟩
       · have := w.2; omega
       · have := cw_bd ((4 * x6 + x7) % 4) d'; omega)
set_option maxHeartbeats 4000000 in
theorem vc_Mo_bendsBecome_6_3 (x3 : Int) (x5 : Int) (x6 : Int) (x7 : Int) (x9 : Int) (x10 : Int) (x11 : Int) (x12 : Int) (x13 : Int) (wide_0 : Int) (tall_0 : Int) (barredPoint_0 : Int → Int) (costOf_0 : Int → Int) (gx : Int) (k3 : 0 ≤ x3 ∧ x3 ≤ 5999) (k5 : 0 ≤ x5 ∧ x5 ≤ 2147483647) (k6 : 0 ≤ x6 ∧ x6 ≤ 5999) (k7 : 0 ≤ x7 ∧ x7 ≤ 3) (k9 : 0 ≤ x9 ∧ x9 ≤ 1000000) (k10 : (-2) ≤ x10 ∧ x10 ≤ 1000000) (k11 : (-1) ≤ x11 ∧ x11 ≤ (-1)) (k12 : 0 ≤ x12 ∧ x12 ≤ 0) (k13 : 3 ≤ x13 ∧ x13 ≤ 3) (f0 : x6 ≠ x3) (f1 : GRX (wide_0) (tall_0)) (f2 : RTV (wide_0) (tall_0) (barredPoint_0) (costOf_0) (x3)) (f3 : (0 ≤ x3) ∧ ((x3 + 1) ≤ (wide_0 * tall_0))) (f4 : BB2 (wide_0) (tall_0) (barredPoint_0) (costOf_0) (x6) (x7) (x9)) (f5 : (0 ≤ x6) ∧ ((x6 + 1) ≤ (wide_0 * tall_0))) (f6 : (x5 + x9) ≤ 1000000) (f7 : 0 ≤ x5) (f8 : (0 ≤ x9) ∧ (x9 ≤ x10)) (hK_0_140 : ∀ j : Int, 0 ≤ j → j < 24000 → 0 ≤ costOf_0 j ∧ costOf_0 j ≤ 1000000) (hK_0_143 : ∀ j : Int, 0 ≤ j → j < 6000 → 0 ≤ barredPoint_0 j ∧ barredPoint_0 j ≤ 1) (kz_0_146 : (-2147483648) ≤ wide_0 ∧ wide_0 ≤ 2147483647) (kz_0_147 : (-2147483648) ≤ tall_0 ∧ tall_0 ≤ 2147483647) (ex2 : gx = 0 + (1 * x10 + 0)) (ex3 : (-2) ≤ gx ∧ gx ≤ 1000000) : BB2 (wide_0) (tall_0) (barredPoint_0) (costOf_0) (x6) (x7) (x9) := by
  assumption
set_option maxHeartbeats 4000000 in
theorem vc_Mo_bendsBecome_6_4 (x3 : Int) (x5 : Int) (x6 : Int) (x7 : Int) (x9 : Int) (x10 : Int) (x11 : Int) (x12 : Int) (x13 : Int) (wide_0 : Int) (tall_0 : Int) (barredPoint_0 : Int → Int) (costOf_0 : Int → Int) (gx : Int) (k3 : 0 ≤ x3 ∧ x3 ≤ 5999) (k5 : 0 ≤ x5 ∧ x5 ≤ 2147483647) (k6 : 0 ≤ x6 ∧ x6 ≤ 5999) (k7 : 0 ≤ x7 ∧ x7 ≤ 3) (k9 : 0 ≤ x9 ∧ x9 ≤ 1000000) (k10 : (-2) ≤ x10 ∧ x10 ≤ 1000000) (k11 : (-1) ≤ x11 ∧ x11 ≤ (-1)) (k12 : 0 ≤ x12 ∧ x12 ≤ 0) (k13 : 3 ≤ x13 ∧ x13 ≤ 3) (f0 : x6 ≠ x3) (f1 : GRX (wide_0) (tall_0)) (f2 : RTV (wide_0) (tall_0) (barredPoint_0) (costOf_0) (x3)) (f3 : (0 ≤ x3) ∧ ((x3 + 1) ≤ (wide_0 * tall_0))) (f4 : BB2 (wide_0) (tall_0) (barredPoint_0) (costOf_0) (x6) (x7) (x9)) (f5 : (0 ≤ x6) ∧ ((x6 + 1) ≤ (wide_0 * tall_0))) (f6 : (x5 + x9) ≤ 1000000) (f7 : 0 ≤ x5) (f8 : (0 ≤ x9) ∧ (x9 ≤ x10)) (hK_0_140 : ∀ j : Int, 0 ≤ j → j < 24000 → 0 ≤ costOf_0 j ∧ costOf_0 j ≤ 1000000) (hK_0_143 : ∀ j : Int, 0 ≤ j → j < 6000 → 0 ≤ barredPoint_0 j ∧ barredPoint_0 j ≤ 1) (kz_0_146 : (-2147483648) ≤ wide_0 ∧ wide_0 ≤ 2147483647) (kz_0_147 : (-2147483648) ≤ tall_0 ∧ tall_0 ≤ 2147483647) (ex2 : gx = 0 + (1 * x10 + 0)) (ex3 : (-2) ≤ gx ∧ gx ≤ 1000000) : (0 ≤ x6) ∧ ((x6 + 1) ≤ (wide_0 * tall_0)) := by
  first
    | omega
    | (have h := ‹BB2 _ _ _ _ _ _ _›
       obtain ⟨g, c, hc⟩ := ‹RTV _ _ _ _ _›
       obtain ⟨p0, d0, b0, e, t0, t1⟩ := h
       have w := ((hc (4 * x6 + x7) (by omega) (by omega)).2 (by omega)).2
       rw [e] at w
       rcases w with w | ⟨d', q, w1, w2, w3, w4, w5, w6⟩
       · have := w.2; omega
       · have := cw_bd ((4 * x6 + x7) % 4) d'; omega)
set_option maxHeartbeats 4000000 in
theorem vc_Mo_bendsBecome_6_5 (x3 : Int) (x5 : Int) (x6 : Int) (x7 : Int) (x9 : Int) (x10 : Int) (x11 : Int) (x12 : Int) (x13 : Int) (wide_0 : Int) (tall_0 : Int) (barredPoint_0 : Int → Int) (costOf_0 : Int → Int) (gx : Int) (k3 : 0 ≤ x3 ∧ x3 ≤ 5999) (k5 : 0 ≤ x5 ∧ x5 ≤ 2147483647) (k6 : 0 ≤ x6 ∧ x6 ≤ 5999) (k7 : 0 ≤ x7 ∧ x7 ≤ 3) (k9 : 0 ≤ x9 ∧ x9 ≤ 1000000) (k10 : (-2) ≤ x10 ∧ x10 ≤ 1000000) (k11 : (-1) ≤ x11 ∧ x11 ≤ (-1)) (k12 : 0 ≤ x12 ∧ x12 ≤ 0) (k13 : 3 ≤ x13 ∧ x13 ≤ 3) (f0 : x6 ≠ x3) (f1 : GRX (wide_0) (tall_0)) (f2 : RTV (wide_0) (tall_0) (barredPoint_0) (costOf_0) (x3)) (f3 : (0 ≤ x3) ∧ ((x3 + 1) ≤ (wide_0 * tall_0))) (f4 : BB2 (wide_0) (tall_0) (barredPoint_0) (costOf_0) (x6) (x7) (x9)) (f5 : (0 ≤ x6) ∧ ((x6 + 1) ≤ (wide_0 * tall_0))) (f6 : (x5 + x9) ≤ 1000000) (f7 : 0 ≤ x5) (f8 : (0 ≤ x9) ∧ (x9 ≤ x10)) (hK_0_140 : ∀ j : Int, 0 ≤ j → j < 24000 → 0 ≤ costOf_0 j ∧ costOf_0 j ≤ 1000000) (hK_0_143 : ∀ j : Int, 0 ≤ j → j < 6000 → 0 ≤ barredPoint_0 j ∧ barredPoint_0 j ≤ 1) (kz_0_146 : (-2147483648) ≤ wide_0 ∧ wide_0 ≤ 2147483647) (kz_0_147 : (-2147483648) ≤ tall_0 ∧ tall_0 ≤ 2147483647) (ex2 : gx = 0 + (1 * x10 + 0)) (ex3 : (-2) ≤ gx ∧ gx ≤ 1000000) : (x5 + x9) ≤ 1000000 := by
  first
    | omega
    | (have h := ‹BB2 _ _ _ _ _ _ _›
       obtain ⟨g, c, hc⟩ := ‹RTV _ _ _ _ _›
       obtain ⟨p0, d0, b0, e, t0, t1⟩ := h
       have w := ((hc (4 * x6 + x7) (by omega) (by omega)).2 (by omega)).2
       rw [e] at w
       rcases w with w | ⟨d', q, w1, w2, w3, w4, w5, w6⟩
       · have := w.2; omega
       · have := cw_bd ((4 * x6 + x7) % 4) d'; omega)
set_option maxHeartbeats 4000000 in
theorem vc_Mo_bendsBecome_6_6 (x3 : Int) (x5 : Int) (x6 : Int) (x7 : Int) (x9 : Int) (x10 : Int) (x11 : Int) (x12 : Int) (x13 : Int) (wide_0 : Int) (tall_0 : Int) (barredPoint_0 : Int → Int) (costOf_0 : Int → Int) (gx : Int) (k3 : 0 ≤ x3 ∧ x3 ≤ 5999) (k5 : 0 ≤ x5 ∧ x5 ≤ 2147483647) (k6 : 0 ≤ x6 ∧ x6 ≤ 5999) (k7 : 0 ≤ x7 ∧ x7 ≤ 3) (k9 : 0 ≤ x9 ∧ x9 ≤ 1000000) (k10 : (-2) ≤ x10 ∧ x10 ≤ 1000000) (k11 : (-1) ≤ x11 ∧ x11 ≤ (-1)) (k12 : 0 ≤ x12 ∧ x12 ≤ 0) (k13 : 3 ≤ x13 ∧ x13 ≤ 3) (f0 : x6 ≠ x3) (f1 : GRX (wide_0) (tall_0)) (f2 : RTV (wide_0) (tall_0) (barredPoint_0) (costOf_0) (x3)) (f3 : (0 ≤ x3) ∧ ((x3 + 1) ≤ (wide_0 * tall_0))) (f4 : BB2 (wide_0) (tall_0) (barredPoint_0) (costOf_0) (x6) (x7) (x9)) (f5 : (0 ≤ x6) ∧ ((x6 + 1) ≤ (wide_0 * tall_0))) (f6 : (x5 + x9) ≤ 1000000) (f7 : 0 ≤ x5) (f8 : (0 ≤ x9) ∧ (x9 ≤ x10)) (hK_0_140 : ∀ j : Int, 0 ≤ j → j < 24000 → 0 ≤ costOf_0 j ∧ costOf_0 j ≤ 1000000) (hK_0_143 : ∀ j : Int, 0 ≤ j → j < 6000 → 0 ≤ barredPoint_0 j ∧ barredPoint_0 j ≤ 1) (kz_0_146 : (-2147483648) ≤ wide_0 ∧ wide_0 ≤ 2147483647) (kz_0_147 : (-2147483648) ≤ tall_0 ∧ tall_0 ≤ 2147483647) (ex2 : gx = 0 + (1 * x10 + 0)) (ex3 : (-2) ≤ gx ∧ gx ≤ 1000000) : 0 ≤ x5 := by
  first
    | omega
    | (have h := ‹BB2 _ _ _ _ _ _ _›
       obtain ⟨g, c, hc⟩ := ‹RTV _ _ _ _ _›
       obtain ⟨p0, d0, b0, e, t0, t1⟩ := h
       have w := ((hc (4 * x6 + x7) (by omega) (by omega)).2 (by omega)).2
       rw [e] at w
       rcases w with w | ⟨d', q, w1, w2, w3, w4, w5, w6⟩
       · have := w.2; omega
       · have := cw_bd ((4 * x6 + x7) % 4) d'; omega)
set_option maxHeartbeats 4000000 in
theorem vc_Mo_bendsBecome_6_7 (x3 : Int) (x5 : Int) (x6 : Int) (x7 : Int) (x9 : Int) (x10 : Int) (x11 : Int) (x12 : Int) (x13 : Int) (wide_0 : Int) (tall_0 : Int) (barredPoint_0 : Int → Int) (costOf_0 : Int → Int) (gx : Int) (k3 : 0 ≤ x3 ∧ x3 ≤ 5999) (k5 : 0 ≤ x5 ∧ x5 ≤ 2147483647) (k6 : 0 ≤ x6 ∧ x6 ≤ 5999) (k7 : 0 ≤ x7 ∧ x7 ≤ 3) (k9 : 0 ≤ x9 ∧ x9 ≤ 1000000) (k10 : (-2) ≤ x10 ∧ x10 ≤ 1000000) (k11 : (-1) ≤ x11 ∧ x11 ≤ (-1)) (k12 : 0 ≤ x12 ∧ x12 ≤ 0) (k13 : 3 ≤ x13 ∧ x13 ≤ 3) (f0 : x6 ≠ x3) (f1 : GRX (wide_0) (tall_0)) (f2 : RTV (wide_0) (tall_0) (barredPoint_0) (costOf_0) (x3)) (f3 : (0 ≤ x3) ∧ ((x3 + 1) ≤ (wide_0 * tall_0))) (f4 : BB2 (wide_0) (tall_0) (barredPoint_0) (costOf_0) (x6) (x7) (x9)) (f5 : (0 ≤ x6) ∧ ((x6 + 1) ≤ (wide_0 * tall_0))) (f6 : (x5 + x9) ≤ 1000000) (f7 : 0 ≤ x5) (f8 : (0 ≤ x9) ∧ (x9 ≤ x10)) (hK_0_140 : ∀ j : Int, 0 ≤ j → j < 24000 → 0 ≤ costOf_0 j ∧ costOf_0 j ≤ 1000000) (hK_0_143 : ∀ j : Int, 0 ≤ j → j < 6000 → 0 ≤ barredPoint_0 j ∧ barredPoint_0 j ≤ 1) (kz_0_146 : (-2147483648) ≤ wide_0 ∧ wide_0 ≤ 2147483647) (kz_0_147 : (-2147483648) ≤ tall_0 ∧ tall_0 ≤ 2147483647) (ex2 : gx = 0 + (1 * x10 + 0)) (ex3 : (-2) ≤ gx ∧ gx ≤ 1000000) : x6 ≠ x3 := by
  first
    | omega
    | (have h := ‹BB2 _ _ _ _ _ _ _›
       obtain ⟨g, c, hc⟩ := ‹RTV _ _ _ _ _›
       obtain ⟨p0, d0, b0, e, t0, t1⟩ := h
       have w := ((hc (4 * x6 + x7) (by omega) (by omega)).2 (by omega)).2
       rw [e] at w
       rcases w with w | ⟨d', q, w1, w2, w3, w4, w5, w6⟩
       · have := w.2; omega
       · have := cw_bd ((4 * x6 + x7) % 4) d'; omega)
set_option maxHeartbeats 4000000 in
theorem vc_Mo_bendsBecome_6_8 (x3 : Int) (x5 : Int) (x6 : Int) (x7 : Int) (x9 : Int) (x10 : Int) (x11 : Int) (x12 : Int) (x13 : Int) (wide_0 : Int) (tall_0 : Int) (barredPoint_0 : Int → Int) (costOf_0 : Int → Int) (gx : Int) (k3 : 0 ≤ x3 ∧ x3 ≤ 5999) (k5 : 0 ≤ x5 ∧ x5 ≤ 2147483647) (k6 : 0 ≤ x6 ∧ x6 ≤ 5999) (k7 : 0 ≤ x7 ∧ x7 ≤ 3) (k9 : 0 ≤ x9 ∧ x9 ≤ 1000000) (k10 : (-2) ≤ x10 ∧ x10 ≤ 1000000) (k11 : (-1) ≤ x11 ∧ x11 ≤ (-1)) (k12 : 0 ≤ x12 ∧ x12 ≤ 0) (k13 : 3 ≤ x13 ∧ x13 ≤ 3) (f0 : x6 ≠ x3) (f1 : GRX (wide_0) (tall_0)) (f2 : RTV (wide_0) (tall_0) (barredPoint_0) (costOf_0) (x3)) (f3 : (0 ≤ x3) ∧ ((x3 + 1) ≤ (wide_0 * tall_0))) (f4 : BB2 (wide_0) (tall_0) (barredPoint_0) (costOf_0) (x6) (x7) (x9)) (f5 : (0 ≤ x6) ∧ ((x6 + 1) ≤ (wide_0 * tall_0))) (f6 : (x5 + x9) ≤ 1000000) (f7 : 0 ≤ x5) (f8 : (0 ≤ x9) ∧ (x9 ≤ x10)) (hK_0_140 : ∀ j : Int, 0 ≤ j → j < 24000 → 0 ≤ costOf_0 j ∧ costOf_0 j ≤ 1000000) (hK_0_143 : ∀ j : Int, 0 ≤ j → j < 6000 → 0 ≤ barredPoint_0 j ∧ barredPoint_0 j ≤ 1) (kz_0_146 : (-2147483648) ≤ wide_0 ∧ wide_0 ≤ 2147483647) (kz_0_147 : (-2147483648) ≤ tall_0 ∧ tall_0 ≤ 2147483647) (ex2 : gx = 0 + (1 * x10 + 0)) (ex3 : (-2) ≤ gx ∧ gx ≤ 1000000) : BB3 (wide_0) (tall_0) (barredPoint_0) (costOf_0) (x6) (x7) (x9) (x11) (x12) (x13) := by
  first
    | exact bb3_start (by omega) (by omega)
    | exact bb3_skip (w := x15) (x := x14) (v := x14) ‹BB3 _ _ _ _ _ _ _ _ _ _› (by omega) ‹STQ _ _ _ _ _ _› (by omega) (Or.inl (by omega))
    | exact bb3_skip (w := 1) (x := x14) (v := x14) ‹BB3 _ _ _ _ _ _ _ _ _ _› (by omega) ‹STQ _ _ _ _ _ _› (Or.inl ⟨by omega, rfl⟩) (Or.inl (by omega))
    | exact bb3_skip (w := 3) (x := x14) (v := x14) ‹BB3 _ _ _ _ _ _ _ _ _ _› (by omega) ‹STQ _ _ _ _ _ _› (Or.inr ⟨by omega, rfl⟩) (Or.inl (by omega))
    | exact bb3_skip (w := x15) (x := x19) (v := x20) ‹BB3 _ _ _ _ _ _ _ _ _ _› (by omega) ‹STQ _ _ _ _ _ _› (by omega) (Or.inr ⟨by omega, by assumption, by omega⟩)
    | exact bb3_take (q := x14) (x := x19) (v := x20) (w := x15) ‹STQ _ _ _ _ _ _› (by omega) (by omega) (by omega) (by omega) (by assumption) (by omega) (by omega) (by omega) (by omega)
    | sorry
set_option maxHeartbeats 4000000 in
theorem vc_Mo_bendsBecome_6_9 (x3 : Int) (x5 : Int) (x6 : Int) (x7 : Int) (x9 : Int) (x10 : Int) (x11 : Int) (x12 : Int) (x13 : Int) (wide_0 : Int) (tall_0 : Int) (barredPoint_0 : Int → Int) (costOf_0 : Int → Int) (gx : Int) (k3 : 0 ≤ x3 ∧ x3 ≤ 5999) (k5 : 0 ≤ x5 ∧ x5 ≤ 2147483647) (k6 : 0 ≤ x6 ∧ x6 ≤ 5999) (k7 : 0 ≤ x7 ∧ x7 ≤ 3) (k9 : 0 ≤ x9 ∧ x9 ≤ 1000000) (k10 : (-2) ≤ x10 ∧ x10 ≤ 1000000) (k11 : (-1) ≤ x11 ∧ x11 ≤ (-1)) (k12 : 0 ≤ x12 ∧ x12 ≤ 0) (k13 : 3 ≤ x13 ∧ x13 ≤ 3) (f0 : x6 ≠ x3) (f1 : GRX (wide_0) (tall_0)) (f2 : RTV (wide_0) (tall_0) (barredPoint_0) (costOf_0) (x3)) (f3 : (0 ≤ x3) ∧ ((x3 + 1) ≤ (wide_0 * tall_0))) (f4 : BB2 (wide_0) (tall_0) (barredPoint_0) (costOf_0) (x6) (x7) (x9)) (f5 : (0 ≤ x6) ∧ ((x6 + 1) ≤ (wide_0 * tall_0))) (f6 : (x5 + x9) ≤ 1000000) (f7 : 0 ≤ x5) (f8 : (0 ≤ x9) ∧ (x9 ≤ x10)) (hK_0_140 : ∀ j : Int, 0 ≤ j → j < 24000 → 0 ≤ costOf_0 j ∧ costOf_0 j ≤ 1000000) (hK_0_143 : ∀ j : Int, 0 ≤ j → j < 6000 → 0 ≤ barredPoint_0 j ∧ barredPoint_0 j ≤ 1) (kz_0_146 : (-2147483648) ≤ wide_0 ∧ wide_0 ≤ 2147483647) (kz_0_147 : (-2147483648) ≤ tall_0 ∧ tall_0 ≤ 2147483647) (ex2 : gx = 0 + (1 * x10 + 0)) (ex3 : (-2) ≤ gx ∧ gx ≤ 1000000) : (0 ≤ x9) ∧ (x9 ≤ gx) := by
  first
    | omega
    | (have h := ‹BB2 _ _ _ _ _ _ _›
       obtain ⟨g, c, hc⟩ := ‹RTV _ _ _ _ _›
       obtain ⟨p0, d0, b0, e, t0, t1⟩ := h
       have w := ((hc (4 * x6 + x7) (by omega) (by omega)).2 (by omega)).2
       rw [e] at w
       rcases w with w | ⟨d', q, w1, w2, w3, w4, w5, w6⟩
       · have := w.2; omega
       · have := cw_bd ((4 * x6 + x7) % 4) d'; omega)
set_option maxHeartbeats 4000000 in
theorem vc_Mo_bendsBecome_6_10 (x3 : Int) (x5 : Int) (x6 : Int) (x7 : Int) (x9 : Int) (x10 : Int) (x11 : Int) (x12 : Int) (x13 : Int) (wide_0 : Int) (tall_0 : Int) (barredPoint_0 : Int → Int) (costOf_0 : Int → Int) (gx : Int) (k3 : 0 ≤ x3 ∧ x3 ≤ 5999) (k5 : 0 ≤ x5 ∧ x5 ≤ 2147483647) (k6 : 0 ≤ x6 ∧ x6 ≤ 5999) (k7 : 0 ≤ x7 ∧ x7 ≤ 3) (k9 : 0 ≤ x9 ∧ x9 ≤ 1000000) (k10 : (-2) ≤ x10 ∧ x10 ≤ 1000000) (k11 : (-1) ≤ x11 ∧ x11 ≤ (-1)) (k12 : 0 ≤ x12 ∧ x12 ≤ 0) (k13 : 3 ≤ x13 ∧ x13 ≤ 3) (f0 : x6 ≠ x3) (f1 : GRX (wide_0) (tall_0)) (f2 : RTV (wide_0) (tall_0) (barredPoint_0) (costOf_0) (x3)) (f3 : (0 ≤ x3) ∧ ((x3 + 1) ≤ (wide_0 * tall_0))) (f4 : BB2 (wide_0) (tall_0) (barredPoint_0) (costOf_0) (x6) (x7) (x9)) (f5 : (0 ≤ x6) ∧ ((x6 + 1) ≤ (wide_0 * tall_0))) (f6 : (x5 + x9) ≤ 1000000) (f7 : 0 ≤ x5) (f8 : (0 ≤ x9) ∧ (x9 ≤ x10)) (hK_0_140 : ∀ j : Int, 0 ≤ j → j < 24000 → 0 ≤ costOf_0 j ∧ costOf_0 j ≤ 1000000) (hK_0_143 : ∀ j : Int, 0 ≤ j → j < 6000 → 0 ≤ barredPoint_0 j ∧ barredPoint_0 j ≤ 1) (kz_0_146 : (-2147483648) ≤ wide_0 ∧ wide_0 ≤ 2147483647) (kz_0_147 : (-2147483648) ≤ tall_0 ∧ tall_0 ≤ 2147483647) (ex2 : gx = 0 + (1 * x10 + 0)) (ex3 : (-2) ≤ gx ∧ gx ≤ 1000000) : (-1) * gx + 0 ≤ (-1) := by
  first
    | omega
    | (have h := ‹BB2 _ _ _ _ _ _ _›
       obtain ⟨g, c, hc⟩ := ‹RTV _ _ _ _ _›
       obtain ⟨p0, d0, b0, e, t0, t1⟩ := h
       have w := ((hc (4 * x6 + x7) (by omega) (by omega)).2 (by omega)).2
       rw [e] at w
       rcases w with w | ⟨d', q, w1, w2, w3, w4, w5, w6⟩
       · have := w.2; omega
       · have := cw_bd ((4 * x6 + x7) % 4) d'; omega)
def o_Mo_bendsBecome_6 : or_T := (127, 14, [(0, (2, 0, 0, [150])), (3, (0, 0, 5999, [])), (5, (0, 0, 2147483647, [])), (6, (0, 0, 5999, [])), (7, (0, 0, 3, [])), (9, (0, 0, 1000000, [])), (10, (0, -2, 1000000, [])), (11, (0, -1, -1, [])), (12, (0, 0, 0, [])), (13, (0, 3, 3, []))], [(7, [6, 3], [1]), (20, [0], [60, 2, 0, 418, 146, 147]), (20, [0, 3], [60, 2, 2, 428, 146, 147, 143, 140]), (20, [3, 0], [50, 2, 0, 1146, 1147, 2, 6, 0, 2, 0, 0, 1, 0, 0, 6, 4, 2, 1, 0, 0, 1, 6, 3, 2, 1, 146, 2, 1, 147]), (20, [0, 6, 7, 9], [60, 2, 2, 431, 146, 147, 143, 140]), (20, [6, 0], [50, 2, 0, 1146, 1147, 2, 6, 0, 2, 0, 0, 1, 0, 0, 6, 4, 2, 1, 0, 0, 1, 6, 3, 2, 1, 146, 2, 1, 147]), (20, [5, 9], [50, 0, 0, 0, 6, 4, 2, 1, 0, 1, 1, 0, 1000000]), (20, [5], [50, 0, 0, 0, 2, 0, 0, 1, 0]), (20, [9, 10], [50, 0, 0, 2, 6, 0, 2, 0, 0, 1, 0, 0, 2, 1, 0, 1, 1])], [], [(0, -2, 1000000, [])], [(20, [0], [60, 2, 0, 418, 146, 147]), (20, [0, 3], [60, 2, 2, 428, 146, 147, 143, 140]), (20, [3, 0], [50, 2, 0, 1146, 1147, 2, 6, 0, 2, 0, 0, 1, 0, 0, 6, 4, 2, 1, 0, 0, 1, 6, 3, 2, 1, 146, 2, 1, 147]), (20, [0, 6, 7, 9], [60, 2, 2, 431, 146, 147, 143, 140]), (20, [6, 0], [50, 2, 0, 1146, 1147, 2, 6, 0, 2, 0, 0, 1, 0, 0, 6, 4, 2, 1, 0, 0, 1, 6, 3, 2, 1, 146, 2, 1, 147]), (20, [5, 9], [50, 0, 0, 0, 6, 4, 2, 1, 0, 1, 1, 0, 1000000]), (20, [5], [50, 0, 0, 0, 2, 0, 0, 1, 0]), (20, [6, 3], [50, 0, 0, 7, 2, 1, 0, 1, 1]), (20, [0, 6, 7, 9, 11, 12, 13], [60, 2, 2, 432, 146, 147, 143, 140]), (20, [9, 14], [50, 0, 0, 2, 6, 0, 2, 0, 0, 1, 0, 0, 2, 1, 0, 1, 1]), (23, [14], [-1, -1])], [(14, 10, 0, 0)], [])
theorem oo_Mo_bendsBecome_6 {kA : Nat → ClassId} : or_ok PRD kA GG o_Mo_bendsBecome_6 := by
  intro A ta ws vs hD hth hl hk hds hf
  have hl : vs.length = 14 := hl
  have hk : ∀ q ∈ ([(0, (2, 0, 0, [150])), (3, (0, 0, 5999, [])), (5, (0, 0, 2147483647, [])), (6, (0, 0, 5999, [])), (7, (0, 0, 3, [])), (9, (0, 0, 1000000, [])), (10, (0, -2, 1000000, [])), (11, (0, -1, -1, [])), (12, (0, 0, 0, [])), (13, (0, 3, 3, []))] : List (Nat × tv_T)), tv_ok ta q.2 (n_v vs q.1) := hk
  obtain ⟨t0, hk⟩ := List.forall_mem_cons.mp hk
  have t0 : tv_ok ta (2, 0, 0, [150]) (n_v vs 0) := t0
  have r0 : ta (v_ad (n_v vs 0)) = some 150 := tv_rg t0
  obtain ⟨t3, hk⟩ := List.forall_mem_cons.mp hk
  have t3 : tv_ok ta (0, 0, 5999, []) (n_v vs 3) := t3
  have k3 : 0 ≤ v_iv (n_v vs 3) ∧ v_iv (n_v vs 3) ≤ 5999 := tv_rng t3
  obtain ⟨t5, hk⟩ := List.forall_mem_cons.mp hk
  have t5 : tv_ok ta (0, 0, 2147483647, []) (n_v vs 5) := t5
  have k5 : 0 ≤ v_iv (n_v vs 5) ∧ v_iv (n_v vs 5) ≤ 2147483647 := tv_rng t5
  obtain ⟨t6, hk⟩ := List.forall_mem_cons.mp hk
  have t6 : tv_ok ta (0, 0, 5999, []) (n_v vs 6) := t6
  have k6 : 0 ≤ v_iv (n_v vs 6) ∧ v_iv (n_v vs 6) ≤ 5999 := tv_rng t6
  obtain ⟨t7, hk⟩ := List.forall_mem_cons.mp hk
  have t7 : tv_ok ta (0, 0, 3, []) (n_v vs 7) := t7
  have k7 : 0 ≤ v_iv (n_v vs 7) ∧ v_iv (n_v vs 7) ≤ 3 := tv_rng t7
  obtain ⟨t9, hk⟩ := List.forall_mem_cons.mp hk
  have t9 : tv_ok ta (0, 0, 1000000, []) (n_v vs 9) := t9
  have k9 : 0 ≤ v_iv (n_v vs 9) ∧ v_iv (n_v vs 9) ≤ 1000000 := tv_rng t9
  obtain ⟨t10, hk⟩ := List.forall_mem_cons.mp hk
  have t10 : tv_ok ta (0, -2, 1000000, []) (n_v vs 10) := t10
  have k10 : (-2) ≤ v_iv (n_v vs 10) ∧ v_iv (n_v vs 10) ≤ 1000000 := tv_rng t10
  obtain ⟨t11, hk⟩ := List.forall_mem_cons.mp hk
  have t11 : tv_ok ta (0, -1, -1, []) (n_v vs 11) := t11
  have k11 : (-1) ≤ v_iv (n_v vs 11) ∧ v_iv (n_v vs 11) ≤ (-1) := tv_rng t11
  obtain ⟨t12, hk⟩ := List.forall_mem_cons.mp hk
  have t12 : tv_ok ta (0, 0, 0, []) (n_v vs 12) := t12
  have k12 : 0 ≤ v_iv (n_v vs 12) ∧ v_iv (n_v vs 12) ≤ 0 := tv_rng t12
  obtain ⟨t13, hk⟩ := List.forall_mem_cons.mp hk
  have t13 : tv_ok ta (0, 3, 3, []) (n_v vs 13) := t13
  have k13 : 3 ≤ v_iv (n_v vs 13) ∧ v_iv (n_v vs 13) ≤ 3 := tv_rng t13
  have hf : fc_ok PRD [(7, [6, 3], [1]), (20, [0], [60, 2, 0, 418, 146, 147]), (20, [0, 3], [60, 2, 2, 428, 146, 147, 143, 140]), (20, [3, 0], [50, 2, 0, 1146, 1147, 2, 6, 0, 2, 0, 0, 1, 0, 0, 6, 4, 2, 1, 0, 0, 1, 6, 3, 2, 1, 146, 2, 1, 147]), (20, [0, 6, 7, 9], [60, 2, 2, 431, 146, 147, 143, 140]), (20, [6, 0], [50, 2, 0, 1146, 1147, 2, 6, 0, 2, 0, 0, 1, 0, 0, 6, 4, 2, 1, 0, 0, 1, 6, 3, 2, 1, 146, 2, 1, 147]), (20, [5, 9], [50, 0, 0, 0, 6, 4, 2, 1, 0, 1, 1, 0, 1000000]), (20, [5], [50, 0, 0, 0, 2, 0, 0, 1, 0]), (20, [9, 10], [50, 0, 0, 2, 6, 0, 2, 0, 0, 1, 0, 0, 2, 1, 0, 1, 1])] ta ws vs := hf
  obtain ⟨f0, hf⟩ := fc_un (show (7 : Nat) < 100 from by decide) hf
  have f0 : v_iv (n_v vs 6) ≠ v_iv (n_v vs 3) := f0
  obtain ⟨f1, hf⟩ := fc_un (show (20 : Nat) < 100 from by decide) hf
  have f1 : GRX (w_fi ws (n_v vs 0) 146) (w_fi ws (n_v vs 0) 147) := f1
  obtain ⟨f2, hf⟩ := fc_un (show (20 : Nat) < 100 from by decide) hf
  have f2 : RTV (w_fi ws (n_v vs 0) 146) (w_fi ws (n_v vs 0) 147) (w_ei ws (w_ar ws (n_v vs 0) 143)) (w_ei ws (w_ar ws (n_v vs 0) 140)) (v_iv (n_v vs 3)) := f2
  obtain ⟨f3, hf⟩ := fc_un (show (20 : Nat) < 100 from by decide) hf
  have f3 : (0 ≤ v_iv (n_v vs 3)) ∧ ((v_iv (n_v vs 3) + 1) ≤ (w_fi ws (n_v vs 0) 146 * w_fi ws (n_v vs 0) 147)) := f3
  obtain ⟨f4, hf⟩ := fc_un (show (20 : Nat) < 100 from by decide) hf
  have f4 : BB2 (w_fi ws (n_v vs 0) 146) (w_fi ws (n_v vs 0) 147) (w_ei ws (w_ar ws (n_v vs 0) 143)) (w_ei ws (w_ar ws (n_v vs 0) 140)) (v_iv (n_v vs 6)) (v_iv (n_v vs 7)) (v_iv (n_v vs 9)) := f4
  obtain ⟨f5, hf⟩ := fc_un (show (20 : Nat) < 100 from by decide) hf
  have f5 : (0 ≤ v_iv (n_v vs 6)) ∧ ((v_iv (n_v vs 6) + 1) ≤ (w_fi ws (n_v vs 0) 146 * w_fi ws (n_v vs 0) 147)) := f5
  obtain ⟨f6, hf⟩ := fc_un (show (20 : Nat) < 100 from by decide) hf
  have f6 : (v_iv (n_v vs 5) + v_iv (n_v vs 9)) ≤ 1000000 := f6
  obtain ⟨f7, hf⟩ := fc_un (show (20 : Nat) < 100 from by decide) hf
  have f7 : 0 ≤ v_iv (n_v vs 5) := f7
  obtain ⟨f8, hf⟩ := fc_un (show (20 : Nat) < 100 from by decide) hf
  have f8 : (0 ≤ v_iv (n_v vs 9)) ∧ (v_iv (n_v vs 9) ≤ v_iv (n_v vs 10)) := f8
  have cr_0_140 : ta (w_ar ws (n_v vs 0) 140) = some 251 := tv_rg (th_fd hD hth r0 (g := GG_150) rfl (k := 140) (t := (2, 0, 0, [251])) rfl rfl)
  have cr_0_143 : ta (w_ar ws (n_v vs 0) 143) = some 254 := tv_rg (th_fd hD hth r0 (g := GG_150) rfl (k := 143) (t := (2, 0, 0, [254])) rfl rfl)
  have hK_0_140 : ∀ j : Int, 0 ≤ j → j < 24000 → 0 ≤ w_ei ws (w_ar ws (n_v vs 0) 140) j ∧ w_ei ws (w_ar ws (n_v vs 0) 140) j ≤ 1000000 := fun j h0 h1 => th_el hD hth cr_0_140 (kd := 0) (n := 24000) (m := 24000) (lo := 0) (hi := 1000000) (rs := []) (L := []) rfl (by decide) (j := j.toNat) (by omega)
  have hK_0_143 : ∀ j : Int, 0 ≤ j → j < 6000 → 0 ≤ w_ei ws (w_ar ws (n_v vs 0) 143) j ∧ w_ei ws (w_ar ws (n_v vs 0) 143) j ≤ 1 := fun j h0 h1 => th_el hD hth cr_0_143 (kd := 2) (n := 6000) (m := 6000) (lo := 0) (hi := 1) (rs := []) (L := []) rfl (by decide) (j := j.toNat) (by omega)
  have kz_0_146 : (-2147483648) ≤ w_fi ws (n_v vs 0) 146 ∧ w_fi ws (n_v vs 0) 146 ≤ 2147483647 := tv_rng (th_fd hD hth r0 (g := GG_150) rfl (k := 146) (t := (0, -2147483648, 2147483647, [])) rfl rfl)
  have kz_0_147 : (-2147483648) ≤ w_fi ws (n_v vs 0) 147 ∧ w_fi ws (n_v vs 0) 147 ≤ 2147483647 := tv_rng (th_fd hD hth r0 (g := GG_150) rfl (k := 147) (t := (0, -2147483648, 2147483647, [])) rfl rfl)
  obtain ⟨x, ex, hx⟩ := iv_ex (ta := ta) (lo := (-2)) (hi := 1000000) (z := 0 + (1 * v_iv (n_v vs 10) + 0)) (by omega) (by omega) (by omega) (by omega)
  have ex2 : v_iv (Value.int x) = 0 + (1 * v_iv (n_v vs 10) + 0) := ex
  have ex3 : (-2) ≤ v_iv (Value.int x) ∧ v_iv (Value.int x) ≤ 1000000 := tv_rng hx
  have e_0 : n_v (vs ++ [Value.int x]) 0 = n_v vs 0 := n_v_old (by rw [hl]; decide)
  have e_3 : n_v (vs ++ [Value.int x]) 3 = n_v vs 3 := n_v_old (by rw [hl]; decide)
  have e_5 : n_v (vs ++ [Value.int x]) 5 = n_v vs 5 := n_v_old (by rw [hl]; decide)
  have e_6 : n_v (vs ++ [Value.int x]) 6 = n_v vs 6 := n_v_old (by rw [hl]; decide)
  have e_7 : n_v (vs ++ [Value.int x]) 7 = n_v vs 7 := n_v_old (by rw [hl]; decide)
  have e_9 : n_v (vs ++ [Value.int x]) 9 = n_v vs 9 := n_v_old (by rw [hl]; decide)
  have e_11 : n_v (vs ++ [Value.int x]) 11 = n_v vs 11 := n_v_old (by rw [hl]; decide)
  have e_12 : n_v (vs ++ [Value.int x]) 12 = n_v vs 12 := n_v_old (by rw [hl]; decide)
  have e_13 : n_v (vs ++ [Value.int x]) 13 = n_v vs 13 := n_v_old (by rw [hl]; decide)
  have e_14 : n_v (vs ++ [Value.int x]) 14 = Value.int x := n_v_new hl
  have nf0 : fc_1 PRD (20, [0], [60, 2, 0, 418, 146, 147]) ws (vs ++ [Value.int x]) := by
    refine ⟨fun n hn => ?_, ?_⟩
    · have hn : n ∈ [0] := hn
      rw [List.length_append, hl]
      simp only [List.mem_cons, List.not_mem_nil, or_false] at hn
      show n < 14 + 1; omega
    · show GRX (w_fi ws (n_v (vs ++ [Value.int x]) 0) 146) (w_fi ws (n_v (vs ++ [Value.int x]) 0) 147)
      rw [e_0]
      exact vc_Mo_bendsBecome_6_0 (v_iv (n_v vs 3)) (v_iv (n_v vs 5)) (v_iv (n_v vs 6)) (v_iv (n_v vs 7)) (v_iv (n_v vs 9)) (v_iv (n_v vs 10)) (v_iv (n_v vs 11)) (v_iv (n_v vs 12)) (v_iv (n_v vs 13)) (w_fi ws (n_v vs 0) 146) (w_fi ws (n_v vs 0) 147) (w_ei ws (w_ar ws (n_v vs 0) 143)) (w_ei ws (w_ar ws (n_v vs 0) 140)) (v_iv (Value.int x)) k3 k5 k6 k7 k9 k10 k11 k12 k13 f0 f1 f2 f3 f4 f5 f6 f7 f8 hK_0_140 hK_0_143 kz_0_146 kz_0_147 ex2 ex3
  have nf1 : fc_1 PRD (20, [0, 3], [60, 2, 2, 428, 146, 147, 143, 140]) ws (vs ++ [Value.int x]) := by
    refine ⟨fun n hn => ?_, ?_⟩
    · have hn : n ∈ [0, 3] := hn
      rw [List.length_append, hl]
      simp only [List.mem_cons, List.not_mem_nil, or_false] at hn
      show n < 14 + 1; omega
    · show RTV (w_fi ws (n_v (vs ++ [Value.int x]) 0) 146) (w_fi ws (n_v (vs ++ [Value.int x]) 0) 147) (w_ei ws (w_ar ws (n_v (vs ++ [Value.int x]) 0) 143)) (w_ei ws (w_ar ws (n_v (vs ++ [Value.int x]) 0) 140)) (v_iv (n_v (vs ++ [Value.int x]) 3))
      rw [e_0]
      rw [e_3]
      exact vc_Mo_bendsBecome_6_1 (v_iv (n_v vs 3)) (v_iv (n_v vs 5)) (v_iv (n_v vs 6)) (v_iv (n_v vs 7)) (v_iv (n_v vs 9)) (v_iv (n_v vs 10)) (v_iv (n_v vs 11)) (v_iv (n_v vs 12)) (v_iv (n_v vs 13)) (w_fi ws (n_v vs 0) 146) (w_fi ws (n_v vs 0) 147) (w_ei ws (w_ar ws (n_v vs 0) 143)) (w_ei ws (w_ar ws (n_v vs 0) 140)) (v_iv (Value.int x)) k3 k5 k6 k7 k9 k10 k11 k12 k13 f0 f1 f2 f3 f4 f5 f6 f7 f8 hK_0_140 hK_0_143 kz_0_146 kz_0_147 ex2 ex3
  have nf2 : fc_1 PRD (20, [3, 0], [50, 2, 0, 1146, 1147, 2, 6, 0, 2, 0, 0, 1, 0, 0, 6, 4, 2, 1, 0, 0, 1, 6, 3, 2, 1, 146, 2, 1, 147]) ws (vs ++ [Value.int x]) := by
    refine ⟨fun n hn => ?_, ?_⟩
    · have hn : n ∈ [3, 0] := hn
      rw [List.length_append, hl]
      simp only [List.mem_cons, List.not_mem_nil, or_false] at hn
      show n < 14 + 1; omega
    · show (0 ≤ v_iv (n_v (vs ++ [Value.int x]) 3)) ∧ ((v_iv (n_v (vs ++ [Value.int x]) 3) + 1) ≤ (w_fi ws (n_v (vs ++ [Value.int x]) 0) 146 * w_fi ws (n_v (vs ++ [Value.int x]) 0) 147))
      rw [e_0]
      rw [e_3]
      exact vc_Mo_bendsBecome_6_2 (v_iv (n_v vs 3)) (v_iv (n_v vs 5)) (v_iv (n_v vs 6)) (v_iv (n_v vs 7)) (v_iv (n_v vs 9)) (v_iv (n_v vs 10)) (v_iv (n_v vs 11)) (v_iv (n_v vs 12)) (v_iv (n_v vs 13)) (w_fi ws (n_v vs 0) 146) (w_fi ws (n_v vs 0) 147) (w_ei ws (w_ar ws (n_v vs 0) 143)) (w_ei ws (w_ar ws (n_v vs 0) 140)) (v_iv (Value.int x)) k3 k5 k6 k7 k9 k10 k11 k12 k13 f0 f1 f2 f3 f4 f5 f6 f7 f8 hK_0_140 hK_0_143 kz_0_146 kz_0_147 ex2 ex3
  have nf3 : fc_1 PRD (20, [0, 6, 7, 9], [60, 2, 2, 431, 146, 147, 143, 140]) ws (vs ++ [Value.int x]) := by
    refine ⟨fun n hn => ?_, ?_⟩
    · have hn : n ∈ [0, 6, 7, 9] := hn
      rw [List.length_append, hl]
      simp only [List.mem_cons, List.not_mem_nil, or_false] at hn
      show n < 14 + 1; omega
    · show BB2 (w_fi ws (n_v (vs ++ [Value.int x]) 0) 146) (w_fi ws (n_v (vs ++ [Value.int x]) 0) 147) (w_ei ws (w_ar ws (n_v (vs ++ [Value.int x]) 0) 143)) (w_ei ws (w_ar ws (n_v (vs ++ [Value.int x]) 0) 140)) (v_iv (n_v (vs ++ [Value.int x]) 6)) (v_iv (n_v (vs ++ [Value.int x]) 7)) (v_iv (n_v (vs ++ [Value.int x]) 9))
      rw [e_0]
      rw [e_6]
      rw [e_7]
      rw [e_9]
      exact vc_Mo_bendsBecome_6_3 (v_iv (n_v vs 3)) (v_iv (n_v vs 5)) (v_iv (n_v vs 6)) (v_iv (n_v vs 7)) (v_iv (n_v vs 9)) (v_iv (n_v vs 10)) (v_iv (n_v vs 11)) (v_iv (n_v vs 12)) (v_iv (n_v vs 13)) (w_fi ws (n_v vs 0) 146) (w_fi ws (n_v vs 0) 147) (w_ei ws (w_ar ws (n_v vs 0) 143)) (w_ei ws (w_ar ws (n_v vs 0) 140)) (v_iv (Value.int x)) k3 k5 k6 k7 k9 k10 k11 k12 k13 f0 f1 f2 f3 f4 f5 f6 f7 f8 hK_0_140 hK_0_143 kz_0_146 kz_0_147 ex2 ex3
  have nf4 : fc_1 PRD (20, [6, 0], [50, 2, 0, 1146, 1147, 2, 6, 0, 2, 0, 0, 1, 0, 0, 6, 4, 2, 1, 0, 0, 1, 6, 3, 2, 1, 146, 2, 1, 147]) ws (vs ++ [Value.int x]) := by
    refine ⟨fun n hn => ?_, ?_⟩
    · have hn : n ∈ [6, 0] := hn
      rw [List.length_append, hl]
      simp only [List.mem_cons, List.not_mem_nil, or_false] at hn
      show n < 14 + 1; omega
    · show (0 ≤ v_iv (n_v (vs ++ [Value.int x]) 6)) ∧ ((v_iv (n_v (vs ++ [Value.int x]) 6) + 1) ≤ (w_fi ws (n_v (vs ++ [Value.int x]) 0) 146 * w_fi ws (n_v (vs ++ [Value.int x]) 0) 147))
      rw [e_0]
      rw [e_6]
      exact vc_Mo_bendsBecome_6_4 (v_iv (n_v vs 3)) (v_iv (n_v vs 5)) (v_iv (n_v vs 6)) (v_iv (n_v vs 7)) (v_iv (n_v vs 9)) (v_iv (n_v vs 10)) (v_iv (n_v vs 11)) (v_iv (n_v vs 12)) (v_iv (n_v vs 13)) (w_fi ws (n_v vs 0) 146) (w_fi ws (n_v vs 0) 147) (w_ei ws (w_ar ws (n_v vs 0) 143)) (w_ei ws (w_ar ws (n_v vs 0) 140)) (v_iv (Value.int x)) k3 k5 k6 k7 k9 k10 k11 k12 k13 f0 f1 f2 f3 f4 f5 f6 f7 f8 hK_0_140 hK_0_143 kz_0_146 kz_0_147 ex2 ex3
  have nf5 : fc_1 PRD (20, [5, 9], [50, 0, 0, 0, 6, 4, 2, 1, 0, 1, 1, 0, 1000000]) ws (vs ++ [Value.int x]) := by
    refine ⟨fun n hn => ?_, ?_⟩
    · have hn : n ∈ [5, 9] := hn
      rw [List.length_append, hl]
      simp only [List.mem_cons, List.not_mem_nil, or_false] at hn
      show n < 14 + 1; omega
    · show (v_iv (n_v (vs ++ [Value.int x]) 5) + v_iv (n_v (vs ++ [Value.int x]) 9)) ≤ 1000000
      rw [e_5]
      rw [e_9]
      exact vc_Mo_bendsBecome_6_5 (v_iv (n_v vs 3)) (v_iv (n_v vs 5)) (v_iv (n_v vs 6)) (v_iv (n_v vs 7)) (v_iv (n_v vs 9)) (v_iv (n_v vs 10)) (v_iv (n_v vs 11)) (v_iv (n_v vs 12)) (v_iv (n_v vs 13)) (w_fi ws (n_v vs 0) 146) (w_fi ws (n_v vs 0) 147) (w_ei ws (w_ar ws (n_v vs 0) 143)) (w_ei ws (w_ar ws (n_v vs 0) 140)) (v_iv (Value.int x)) k3 k5 k6 k7 k9 k10 k11 k12 k13 f0 f1 f2 f3 f4 f5 f6 f7 f8 hK_0_140 hK_0_143 kz_0_146 kz_0_147 ex2 ex3
  have nf6 : fc_1 PRD (20, [5], [50, 0, 0, 0, 2, 0, 0, 1, 0]) ws (vs ++ [Value.int x]) := by
    refine ⟨fun n hn => ?_, ?_⟩
    · have hn : n ∈ [5] := hn
      rw [List.length_append, hl]
      simp only [List.mem_cons, List.not_mem_nil, or_false] at hn
      show n < 14 + 1; omega
    · show 0 ≤ v_iv (n_v (vs ++ [Value.int x]) 5)
      rw [e_5]
      exact vc_Mo_bendsBecome_6_6 (v_iv (n_v vs 3)) (v_iv (n_v vs 5)) (v_iv (n_v vs 6)) (v_iv (n_v vs 7)) (v_iv (n_v vs 9)) (v_iv (n_v vs 10)) (v_iv (n_v vs 11)) (v_iv (n_v vs 12)) (v_iv (n_v vs 13)) (w_fi ws (n_v vs 0) 146) (w_fi ws (n_v vs 0) 147) (w_ei ws (w_ar ws (n_v vs 0) 143)) (w_ei ws (w_ar ws (n_v vs 0) 140)) (v_iv (Value.int x)) k3 k5 k6 k7 k9 k10 k11 k12 k13 f0 f1 f2 f3 f4 f5 f6 f7 f8 hK_0_140 hK_0_143 kz_0_146 kz_0_147 ex2 ex3
  have nf7 : fc_1 PRD (20, [6, 3], [50, 0, 0, 7, 2, 1, 0, 1, 1]) ws (vs ++ [Value.int x]) := by
    refine ⟨fun n hn => ?_, ?_⟩
    · have hn : n ∈ [6, 3] := hn
      rw [List.length_append, hl]
      simp only [List.mem_cons, List.not_mem_nil, or_false] at hn
      show n < 14 + 1; omega
    · show v_iv (n_v (vs ++ [Value.int x]) 6) ≠ v_iv (n_v (vs ++ [Value.int x]) 3)
      rw [e_3]
      rw [e_6]
      exact vc_Mo_bendsBecome_6_7 (v_iv (n_v vs 3)) (v_iv (n_v vs 5)) (v_iv (n_v vs 6)) (v_iv (n_v vs 7)) (v_iv (n_v vs 9)) (v_iv (n_v vs 10)) (v_iv (n_v vs 11)) (v_iv (n_v vs 12)) (v_iv (n_v vs 13)) (w_fi ws (n_v vs 0) 146) (w_fi ws (n_v vs 0) 147) (w_ei ws (w_ar ws (n_v vs 0) 143)) (w_ei ws (w_ar ws (n_v vs 0) 140)) (v_iv (Value.int x)) k3 k5 k6 k7 k9 k10 k11 k12 k13 f0 f1 f2 f3 f4 f5 f6 f7 f8 hK_0_140 hK_0_143 kz_0_146 kz_0_147 ex2 ex3
  have nf8 : fc_1 PRD (20, [0, 6, 7, 9, 11, 12, 13], [60, 2, 2, 432, 146, 147, 143, 140]) ws (vs ++ [Value.int x]) := by
    refine ⟨fun n hn => ?_, ?_⟩
    · have hn : n ∈ [0, 6, 7, 9, 11, 12, 13] := hn
      rw [List.length_append, hl]
      simp only [List.mem_cons, List.not_mem_nil, or_false] at hn
      show n < 14 + 1; omega
    · show BB3 (w_fi ws (n_v (vs ++ [Value.int x]) 0) 146) (w_fi ws (n_v (vs ++ [Value.int x]) 0) 147) (w_ei ws (w_ar ws (n_v (vs ++ [Value.int x]) 0) 143)) (w_ei ws (w_ar ws (n_v (vs ++ [Value.int x]) 0) 140)) (v_iv (n_v (vs ++ [Value.int x]) 6)) (v_iv (n_v (vs ++ [Value.int x]) 7)) (v_iv (n_v (vs ++ [Value.int x]) 9)) (v_iv (n_v (vs ++ [Value.int x]) 11)) (v_iv (n_v (vs ++ [Value.int x]) 12)) (v_iv (n_v (vs ++ [Value.int x]) 13))
      rw [e_0]
      rw [e_6]
      rw [e_7]
      rw [e_9]
      rw [e_11]
      rw [e_12]
      rw [e_13]
      exact vc_Mo_bendsBecome_6_8 (v_iv (n_v vs 3)) (v_iv (n_v vs 5)) (v_iv (n_v vs 6)) (v_iv (n_v vs 7)) (v_iv (n_v vs 9)) (v_iv (n_v vs 10)) (v_iv (n_v vs 11)) (v_iv (n_v vs 12)) (v_iv (n_v vs 13)) (w_fi ws (n_v vs 0) 146) (w_fi ws (n_v vs 0) 147) (w_ei ws (w_ar ws (n_v vs 0) 143)) (w_ei ws (w_ar ws (n_v vs 0) 140)) (v_iv (Value.int x)) k3 k5 k6 k7 k9 k10 k11 k12 k13 f0 f1 f2 f3 f4 f5 f6 f7 f8 hK_0_140 hK_0_143 kz_0_146 kz_0_147 ex2 ex3
  have nf9 : fc_1 PRD (20, [9, 14], [50, 0, 0, 2, 6, 0, 2, 0, 0, 1, 0, 0, 2, 1, 0, 1, 1]) ws (vs ++ [Value.int x]) := by
    refine ⟨fun n hn => ?_, ?_⟩
    · have hn : n ∈ [9, 14] := hn
      rw [List.length_append, hl]
      simp only [List.mem_cons, List.not_mem_nil, or_false] at hn
      show n < 14 + 1; omega
    · show (0 ≤ v_iv (n_v (vs ++ [Value.int x]) 9)) ∧ (v_iv (n_v (vs ++ [Value.int x]) 9) ≤ v_iv (n_v (vs ++ [Value.int x]) 14))
      rw [e_9]
      rw [e_14]
      exact vc_Mo_bendsBecome_6_9 (v_iv (n_v vs 3)) (v_iv (n_v vs 5)) (v_iv (n_v vs 6)) (v_iv (n_v vs 7)) (v_iv (n_v vs 9)) (v_iv (n_v vs 10)) (v_iv (n_v vs 11)) (v_iv (n_v vs 12)) (v_iv (n_v vs 13)) (w_fi ws (n_v vs 0) 146) (w_fi ws (n_v vs 0) 147) (w_ei ws (w_ar ws (n_v vs 0) 143)) (w_ei ws (w_ar ws (n_v vs 0) 140)) (v_iv (Value.int x)) k3 k5 k6 k7 k9 k10 k11 k12 k13 f0 f1 f2 f3 f4 f5 f6 f7 f8 hK_0_140 hK_0_143 kz_0_146 kz_0_147 ex2 ex3
  have nf10 : fc_1 PRD (23, [14], [-1, -1]) ws (vs ++ [Value.int x]) := by
    refine ⟨fun n hn => ?_, ?_⟩
    · have hn : n ∈ [14] := hn
      rw [List.length_append, hl]
      simp only [List.mem_cons, List.not_mem_nil, or_false] at hn
      show n < 14 + 1; omega
    · show (-1) * v_iv (n_v (vs ++ [Value.int x]) 14) + 0 ≤ (-1)
      rw [e_14]
      exact vc_Mo_bendsBecome_6_10 (v_iv (n_v vs 3)) (v_iv (n_v vs 5)) (v_iv (n_v vs 6)) (v_iv (n_v vs 7)) (v_iv (n_v vs 9)) (v_iv (n_v vs 10)) (v_iv (n_v vs 11)) (v_iv (n_v vs 12)) (v_iv (n_v vs 13)) (w_fi ws (n_v vs 0) 146) (w_fi ws (n_v vs 0) 147) (w_ei ws (w_ar ws (n_v vs 0) 143)) (w_ei ws (w_ar ws (n_v vs 0) 140)) (v_iv (Value.int x)) k3 k5 k6 k7 k9 k10 k11 k12 k13 f0 f1 f2 f3 f4 f5 f6 f7 f8 hK_0_140 hK_0_143 kz_0_146 kz_0_147 ex2 ex3
  obtain ⟨x0, e0, _, _⟩ := tv_int t10 rfl
  have e1 : v_iv (n_v vs 10) = x0.toInt := by rw [e0]; rfl
  have ho : sy_ofs (vs ++ [Value.int x]) (14, 10, 0, 0) := by
    refine ⟨x, x0, by rw [List.getElem?_append_right (by rw [hl]; decide), hl]; rfl, ?_, ?_, ?_⟩
    · rw [List.getElem?_append_left (by rw [hl]; decide)]; exact n_v_some (by rw [hl]; decide) e0
    · show x0.toInt + 0 ≤ x.toInt; omega
    · show x.toInt ≤ x0.toInt + 0; omega
  exact ⟨(fun _ h => (by cases h)), [Value.int x], ag_one hx, List.forall_mem_cons.mpr ⟨⟨show (20 : Nat) < 100 from by decide, nf0⟩, List.forall_mem_cons.mpr ⟨⟨show (20 : Nat) < 100 from by decide, nf1⟩, List.forall_mem_cons.mpr ⟨⟨show (20 : Nat) < 100 from by decide, nf2⟩, List.forall_mem_cons.mpr ⟨⟨show (20 : Nat) < 100 from by decide, nf3⟩, List.forall_mem_cons.mpr ⟨⟨show (20 : Nat) < 100 from by decide, nf4⟩, List.forall_mem_cons.mpr ⟨⟨show (20 : Nat) < 100 from by decide, nf5⟩, List.forall_mem_cons.mpr ⟨⟨show (20 : Nat) < 100 from by decide, nf6⟩, List.forall_mem_cons.mpr ⟨⟨show (20 : Nat) < 100 from by decide, nf7⟩, List.forall_mem_cons.mpr ⟨⟨show (20 : Nat) < 100 from by decide, nf8⟩, List.forall_mem_cons.mpr ⟨⟨show (20 : Nat) < 100 from by decide, nf9⟩, List.forall_mem_cons.mpr ⟨⟨show (23 : Nat) < 100 from by decide, nf10⟩, (fun _ h => (by cases h))⟩⟩⟩⟩⟩⟩⟩⟩⟩⟩⟩, List.forall_mem_cons.mpr ⟨ho, (fun _ h => (by cases h))⟩⟩
set_option maxHeartbeats 4000000 in
theorem vc_Mo_bendsBecome_7_r0 (x3 : Int) (x5 : Int) (x6 : Int) (x7 : Int) (x9 : Int) (x10 : Int) (x11 : Int) (x12 : Int) (x13 : Int) (x14 : Int) (barredPoint_0 : Int → Int) (wide_0 : Int) (tall_0 : Int) (costOf_0 : Int → Int) (k3 : 0 ≤ x3 ∧ x3 ≤ 5999) (k5 : 0 ≤ x5 ∧ x5 ≤ 2147483647) (k6 : 0 ≤ x6 ∧ x6 ≤ 5999) (k7 : 0 ≤ x7 ∧ x7 ≤ 3) (k9 : 0 ≤ x9 ∧ x9 ≤ 1000000) (k10 : 0 ≤ x10 ∧ x10 ≤ 3) (k11 : 0 ≤ x11 ∧ x11 ≤ 999999) (k12 : (-1) ≤ x12 ∧ x12 ≤ (-1)) (k13 : (-2) ≤ x13 ∧ x13 ≤ 1000000) (k14 : (-1) ≤ x14 ∧ x14 ≤ 5999) (d0 : x7 + 0 ≤ x10 ∧ x10 ≤ x7 + 0) (d1 : x9 + (-4294967296) ≤ x10 ∧ x10 ≤ x9 + 2) (d2 : x9 + (-4294967296) ≤ x11 ∧ x11 ≤ x9 + 0) (f0 : STQ (wide_0) (tall_0) (barredPoint_0) (x6) (x10) (x14)) (f1 : ((-1) ≤ x14) ∧ ((x14 + 1) ≤ (wide_0 * tall_0))) (f2 : x10 = x7) (f3 : x12 < 0) (f4 : GRX (wide_0) (tall_0)) (f5 : RTV (wide_0) (tall_0) (barredPoint_0) (costOf_0) (x3)) (f6 : (0 ≤ x3) ∧ ((x3 + 1) ≤ (wide_0 * tall_0))) (f7 : BB2 (wide_0) (tall_0) (barredPoint_0) (costOf_0) (x6) (x7) (x9)) (f8 : (0 ≤ x6) ∧ ((x6 + 1) ≤ (wide_0 * tall_0))) (f9 : (x5 + x9) ≤ 1000000) (f10 : 0 ≤ x5) (f11 : x6 ≠ x3) (f12 : BB3 (wide_0) (tall_0) (barredPoint_0) (costOf_0) (x6) (x7) (x9) (x10) (x11) (x12)) (f13 : (0 ≤ x9) ∧ (x9 ≤ x13)) (f14 : (-1) * x13 + 0 ≤ (-1)) (hK_0_140 : ∀ j : Int, 0 ≤ j → j < 24000 → 0 ≤ costOf_0 j ∧ costOf_0 j ≤ 1000000) (hK_0_143 : ∀ j : Int, 0 ≤ j → j < 6000 → 0 ≤ barredPoint_0 j ∧ barredPoint_0 j ≤ 1) (kz_0_146 : (-2147483648) ≤ wide_0 ∧ wide_0 ≤ 2147483647) (kz_0_147 : (-2147483648) ≤ tall_0 ∧ tall_0 ≤ 2147483647) : 0 ≤ x14 ∧ x14 ≤ 5999 := by
  first
    | omega
    | (have g := gok_bd ‹GRX _ _›; omega)
    | (have h := bb_next ‹RTV _ _ _ _ _› ‹BB2 _ _ _ _ _ _ _› ‹BB3 _ _ _ _ _ _ _ _ _ _› (by omega) (by omega)
       have h1 := h.1.1
       have h2 := h.2
       omega)
    | (obtain ⟨⟨mf, q, n1, n2, n3, n4⟩, u0, u1⟩ := bb_next ‹RTV _ _ _ _ _› ‹BB2 _ _ _ _ _ _ _› ‹BB3 _ _ _ _ _ _ _ _ _ _› (by omega) (by omega)
       have e := ‹STQ _ _ _ _ _ _›.2.2 q n1 n2
       have i := nb_in n1 (by have g := gok_bd ‹GRX _ _›; omega)
       have g3 := ‹GRX _ _›.2.2
       omega)
def o_Mo_bendsBecome_7 : or_T := (272, 15, [(0, (2, 0, 0, [150])), (3, (0, 0, 5999, [])), (5, (0, 0, 2147483647, [])), (6, (0, 0, 5999, [])), (7, (0, 0, 3, [])), (9, (0, 0, 1000000, [])), (10, (0, 0, 3, [])), (11, (0, 0, 999999, [])), (12, (0, -1, -1, [])), (13, (0, -2, 1000000, [])), (14, (0, -1, 5999, []))], [(20, [0, 6, 10, 14], [60, 2, 1, 429, 146, 147, 143]), (20, [14, 0], [50, 2, 0, 1146, 1147, 2, 6, 0, 2, 0, -1, 1, 0, 0, 6, 4, 2, 1, 0, 0, 1, 6, 3, 2, 1, 146, 2, 1, 147]), (7, [10, 7], [0]), (8, [12], [2]), (20, [0], [60, 2, 0, 418, 146, 147]), (20, [0, 3], [60, 2, 2, 428, 146, 147, 143, 140]), (20, [3, 0], [50, 2, 0, 1146, 1147, 2, 6, 0, 2, 0, 0, 1, 0, 0, 6, 4, 2, 1, 0, 0, 1, 6, 3, 2, 1, 146, 2, 1, 147]), (20, [0, 6, 7, 9], [60, 2, 2, 431, 146, 147, 143, 140]), (20, [6, 0], [50, 2, 0, 1146, 1147, 2, 6, 0, 2, 0, 0, 1, 0, 0, 6, 4, 2, 1, 0, 0, 1, 6, 3, 2, 1, 146, 2, 1, 147]), (20, [5, 9], [50, 0, 0, 0, 6, 4, 2, 1, 0, 1, 1, 0, 1000000]), (20, [5], [50, 0, 0, 0, 2, 0, 0, 1, 0]), (20, [6, 3], [50, 0, 0, 7, 2, 1, 0, 1, 1]), (20, [0, 6, 7, 9, 10, 11, 12], [60, 2, 2, 432, 146, 147, 143, 140]), (20, [9, 13], [50, 0, 0, 2, 6, 0, 2, 0, 0, 1, 0, 0, 2, 1, 0, 1, 1]), (23, [13], [-1, -1])], [(14, (0, 0, 5999, []))], [], [], [], [(10, 7, 0, 0), (10, 9, -4294967296, 2), (11, 9, -4294967296, 0)])
theorem oo_Mo_bendsBecome_7 {kA : Nat → ClassId} : or_ok PRD kA GG o_Mo_bendsBecome_7 := by
  intro A ta ws vs hD hth hl hk hds hf
  have hl : vs.length = 15 := hl
  have hk : ∀ q ∈ ([(0, (2, 0, 0, [150])), (3, (0, 0, 5999, [])), (5, (0, 0, 2147483647, [])), (6, (0, 0, 5999, [])), (7, (0, 0, 3, [])), (9, (0, 0, 1000000, [])), (10, (0, 0, 3, [])), (11, (0, 0, 999999, [])), (12, (0, -1, -1, [])), (13, (0, -2, 1000000, [])), (14, (0, -1, 5999, []))] : List (Nat × tv_T)), tv_ok ta q.2 (n_v vs q.1) := hk
  obtain ⟨t0, hk⟩ := List.forall_mem_cons.mp hk
  have t0 : tv_ok ta (2, 0, 0, [150]) (n_v vs 0) := t0
  have r0 : ta (v_ad (n_v vs 0)) = some 150 := tv_rg t0
  obtain ⟨t3, hk⟩ := List.forall_mem_cons.mp hk
  have t3 : tv_ok ta (0, 0, 5999, []) (n_v vs 3) := t3
  have k3 : 0 ≤ v_iv (n_v vs 3) ∧ v_iv (n_v vs 3) ≤ 5999 := tv_rng t3
  obtain ⟨t5, hk⟩ := List.forall_mem_cons.mp hk
  have t5 : tv_ok ta (0, 0, 2147483647, []) (n_v vs 5) := t5
  have k5 : 0 ≤ v_iv (n_v vs 5) ∧ v_iv (n_v vs 5) ≤ 2147483647 := tv_rng t5
  obtain ⟨t6, hk⟩ := List.forall_mem_cons.mp hk
  have t6 : tv_ok ta (0, 0, 5999, []) (n_v vs 6) := t6
  have k6 : 0 ≤ v_iv (n_v vs 6) ∧ v_iv (n_v vs 6) ≤ 5999 := tv_rng t6
  obtain ⟨t7, hk⟩ := List.forall_mem_cons.mp hk
  have t7 : tv_ok ta (0, 0, 3, []) (n_v vs 7) := t7
  have k7 : 0 ≤ v_iv (n_v vs 7) ∧ v_iv (n_v vs 7) ≤ 3 := tv_rng t7
  obtain ⟨t9, hk⟩ := List.forall_mem_cons.mp hk
  have t9 : tv_ok ta (0, 0, 1000000, []) (n_v vs 9) := t9
  have k9 : 0 ≤ v_iv (n_v vs 9) ∧ v_iv (n_v vs 9) ≤ 1000000 := tv_rng t9
  obtain ⟨t10, hk⟩ := List.forall_mem_cons.mp hk
  have t10 : tv_ok ta (0, 0, 3, []) (n_v vs 10) := t10
  have k10 : 0 ≤ v_iv (n_v vs 10) ∧ v_iv (n_v vs 10) ≤ 3 := tv_rng t10
  obtain ⟨t11, hk⟩ := List.forall_mem_cons.mp hk
  have t11 : tv_ok ta (0, 0, 999999, []) (n_v vs 11) := t11
  have k11 : 0 ≤ v_iv (n_v vs 11) ∧ v_iv (n_v vs 11) ≤ 999999 := tv_rng t11
  obtain ⟨t12, hk⟩ := List.forall_mem_cons.mp hk
  have t12 : tv_ok ta (0, -1, -1, []) (n_v vs 12) := t12
  have k12 : (-1) ≤ v_iv (n_v vs 12) ∧ v_iv (n_v vs 12) ≤ (-1) := tv_rng t12
  obtain ⟨t13, hk⟩ := List.forall_mem_cons.mp hk
  have t13 : tv_ok ta (0, -2, 1000000, []) (n_v vs 13) := t13
  have k13 : (-2) ≤ v_iv (n_v vs 13) ∧ v_iv (n_v vs 13) ≤ 1000000 := tv_rng t13
  obtain ⟨t14, hk⟩ := List.forall_mem_cons.mp hk
  have t14 : tv_ok ta (0, -1, 5999, []) (n_v vs 14) := t14
  have k14 : (-1) ≤ v_iv (n_v vs 14) ∧ v_iv (n_v vs 14) ≤ 5999 := tv_rng t14
  have hds : ∀ q ∈ ([(10, 7, 0, 0), (10, 9, -4294967296, 2), (11, 9, -4294967296, 0)] : List of_T), n_iv vs q.2.1 + q.2.2.1 ≤ n_iv vs q.1 ∧ n_iv vs q.1 ≤ n_iv vs q.2.1 + q.2.2.2 := hds
  obtain ⟨d0, hds⟩ := List.forall_mem_cons.mp hds
  have d0 : v_iv (n_v vs 7) + 0 ≤ v_iv (n_v vs 10) ∧ v_iv (n_v vs 10) ≤ v_iv (n_v vs 7) + 0 := d0
  obtain ⟨d1, hds⟩ := List.forall_mem_cons.mp hds
  have d1 : v_iv (n_v vs 9) + (-4294967296) ≤ v_iv (n_v vs 10) ∧ v_iv (n_v vs 10) ≤ v_iv (n_v vs 9) + 2 := d1
  obtain ⟨d2, hds⟩ := List.forall_mem_cons.mp hds
  have d2 : v_iv (n_v vs 9) + (-4294967296) ≤ v_iv (n_v vs 11) ∧ v_iv (n_v vs 11) ≤ v_iv (n_v vs 9) + 0 := d2
  have hf : fc_ok PRD [(20, [0, 6, 10, 14], [60, 2, 1, 429, 146, 147, 143]), (20, [14, 0], [50, 2, 0, 1146, 1147, 2, 6, 0, 2, 0, -1, 1, 0, 0, 6, 4, 2, 1, 0, 0, 1, 6, 3, 2, 1, 146, 2, 1, 147]), (7, [10, 7], [0]), (8, [12], [2]), (20, [0], [60, 2, 0, 418, 146, 147]), (20, [0, 3], [60, 2, 2, 428, 146, 147, 143, 140]), (20, [3, 0], [50, 2, 0, 1146, 1147, 2, 6, 0, 2, 0, 0, 1, 0, 0, 6, 4, 2, 1, 0, 0, 1, 6, 3, 2, 1, 146, 2, 1, 147]), (20, [0, 6, 7, 9], [60, 2, 2, 431, 146, 147, 143, 140]), (20, [6, 0], [50, 2, 0, 1146, 1147, 2, 6, 0, 2, 0, 0, 1, 0, 0, 6, 4, 2, 1, 0, 0, 1, 6, 3, 2, 1, 146, 2, 1, 147]), (20, [5, 9], [50, 0, 0, 0, 6, 4, 2, 1, 0, 1, 1, 0, 1000000]), (20, [5], [50, 0, 0, 0, 2, 0, 0, 1, 0]), (20, [6, 3], [50, 0, 0, 7, 2, 1, 0, 1, 1]), (20, [0, 6, 7, 9, 10, 11, 12], [60, 2, 2, 432, 146, 147, 143, 140]), (20, [9, 13], [50, 0, 0, 2, 6, 0, 2, 0, 0, 1, 0, 0, 2, 1, 0, 1, 1]), (23, [13], [-1, -1])] ta ws vs := hf
  obtain ⟨f0, hf⟩ := fc_un (show (20 : Nat) < 100 from by decide) hf
  have f0 : STQ (w_fi ws (n_v vs 0) 146) (w_fi ws (n_v vs 0) 147) (w_ei ws (w_ar ws (n_v vs 0) 143)) (v_iv (n_v vs 6)) (v_iv (n_v vs 10)) (v_iv (n_v vs 14)) := f0
  obtain ⟨f1, hf⟩ := fc_un (show (20 : Nat) < 100 from by decide) hf
  have f1 : ((-1) ≤ v_iv (n_v vs 14)) ∧ ((v_iv (n_v vs 14) + 1) ≤ (w_fi ws (n_v vs 0) 146 * w_fi ws (n_v vs 0) 147)) := f1
  obtain ⟨f2, hf⟩ := fc_un (show (7 : Nat) < 100 from by decide) hf
  have f2 : v_iv (n_v vs 10) = v_iv (n_v vs 7) := f2
  obtain ⟨f3, hf⟩ := fc_un (show (8 : Nat) < 100 from by decide) hf
  have f3 : v_iv (n_v vs 12) < 0 := f3
  obtain ⟨f4, hf⟩ := fc_un (show (20 : Nat) < 100 from by decide) hf
  have f4 : GRX (w_fi ws (n_v vs 0) 146) (w_fi ws (n_v vs 0) 147) := f4
  obtain ⟨f5, hf⟩ := fc_un (show (20 : Nat) < 100 from by decide) hf
  have f5 : RTV (w_fi ws (n_v vs 0) 146) (w_fi ws (n_v vs 0) 147) (w_ei ws (w_ar ws (n_v vs 0) 143)) (w_ei ws (w_ar ws (n_v vs 0) 140)) (v_iv (n_v vs 3)) := f5
  obtain ⟨f6, hf⟩ := fc_un (show (20 : Nat) < 100 from by decide) hf
  have f6 : (0 ≤ v_iv (n_v vs 3)) ∧ ((v_iv (n_v vs 3) + 1) ≤ (w_fi ws (n_v vs 0) 146 * w_fi ws (n_v vs 0) 147)) := f6
  obtain ⟨f7, hf⟩ := fc_un (show (20 : Nat) < 100 from by decide) hf
  have f7 : BB2 (w_fi ws (n_v vs 0) 146) (w_fi ws (n_v vs 0) 147) (w_ei ws (w_ar ws (n_v vs 0) 143)) (w_ei ws (w_ar ws (n_v vs 0) 140)) (v_iv (n_v vs 6)) (v_iv (n_v vs 7)) (v_iv (n_v vs 9)) := f7
  obtain ⟨f8, hf⟩ := fc_un (show (20 : Nat) < 100 from by decide) hf
  have f8 : (0 ≤ v_iv (n_v vs 6)) ∧ ((v_iv (n_v vs 6) + 1) ≤ (w_fi ws (n_v vs 0) 146 * w_fi ws (n_v vs 0) 147)) := f8
  obtain ⟨f9, hf⟩ := fc_un (show (20 : Nat) < 100 from by decide) hf
  have f9 : (v_iv (n_v vs 5) + v_iv (n_v vs 9)) ≤ 1000000 := f9
  obtain ⟨f10, hf⟩ := fc_un (show (20 : Nat) < 100 from by decide) hf
  have f10 : 0 ≤ v_iv (n_v vs 5) := f10
  obtain ⟨f11, hf⟩ := fc_un (show (20 : Nat) < 100 from by decide) hf
  have f11 : v_iv (n_v vs 6) ≠ v_iv (n_v vs 3) := f11
  obtain ⟨f12, hf⟩ := fc_un (show (20 : Nat) < 100 from by decide) hf
  have f12 : BB3 (w_fi ws (n_v vs 0) 146) (w_fi ws (n_v vs 0) 147) (w_ei ws (w_ar ws (n_v vs 0) 143)) (w_ei ws (w_ar ws (n_v vs 0) 140)) (v_iv (n_v vs 6)) (v_iv (n_v vs 7)) (v_iv (n_v vs 9)) (v_iv (n_v vs 10)) (v_iv (n_v vs 11)) (v_iv (n_v vs 12)) := f12
  obtain ⟨f13, hf⟩ := fc_un (show (20 : Nat) < 100 from by decide) hf
  have f13 : (0 ≤ v_iv (n_v vs 9)) ∧ (v_iv (n_v vs 9) ≤ v_iv (n_v vs 13)) := f13
  obtain ⟨f14, hf⟩ := fc_un (show (23 : Nat) < 100 from by decide) hf
  have f14 : (-1) * v_iv (n_v vs 13) + 0 ≤ (-1) := f14
  have cr_0_140 : ta (w_ar ws (n_v vs 0) 140) = some 251 := tv_rg (th_fd hD hth r0 (g := GG_150) rfl (k := 140) (t := (2, 0, 0, [251])) rfl rfl)
  have cr_0_143 : ta (w_ar ws (n_v vs 0) 143) = some 254 := tv_rg (th_fd hD hth r0 (g := GG_150) rfl (k := 143) (t := (2, 0, 0, [254])) rfl rfl)
  have hK_0_140 : ∀ j : Int, 0 ≤ j → j < 24000 → 0 ≤ w_ei ws (w_ar ws (n_v vs 0) 140) j ∧ w_ei ws (w_ar ws (n_v vs 0) 140) j ≤ 1000000 := fun j h0 h1 => th_el hD hth cr_0_140 (kd := 0) (n := 24000) (m := 24000) (lo := 0) (hi := 1000000) (rs := []) (L := []) rfl (by decide) (j := j.toNat) (by omega)
  have hK_0_143 : ∀ j : Int, 0 ≤ j → j < 6000 → 0 ≤ w_ei ws (w_ar ws (n_v vs 0) 143) j ∧ w_ei ws (w_ar ws (n_v vs 0) 143) j ≤ 1 := fun j h0 h1 => th_el hD hth cr_0_143 (kd := 2) (n := 6000) (m := 6000) (lo := 0) (hi := 1) (rs := []) (L := []) rfl (by decide) (j := j.toNat) (by omega)
  have kz_0_146 : (-2147483648) ≤ w_fi ws (n_v vs 0) 146 ∧ w_fi ws (n_v vs 0) 146 ≤ 2147483647 := tv_rng (th_fd hD hth r0 (g := GG_150) rfl (k := 146) (t := (0, -2147483648, 2147483647, [])) rfl rfl)
  have kz_0_147 : (-2147483648) ≤ w_fi ws (n_v vs 0) 147 ∧ w_fi ws (n_v vs 0) 147 ≤ 2147483647 := tv_rng (th_fd hD hth r0 (g := GG_150) rfl (k := 147) (t := (0, -2147483648, 2147483647, [])) rfl rfl)
  have hrf0 : 0 ≤ v_iv (n_v vs 14) ∧ v_iv (n_v vs 14) ≤ 5999 := vc_Mo_bendsBecome_7_r0 (v_iv (n_v vs 3)) (v_iv (n_v vs 5)) (v_iv (n_v vs 6)) (v_iv (n_v vs 7)) (v_iv (n_v vs 9)) (v_iv (n_v vs 10)) (v_iv (n_v vs 11)) (v_iv (n_v vs 12)) (v_iv (n_v vs 13)) (v_iv (n_v vs 14)) (w_ei ws (w_ar ws (n_v vs 0) 143)) (w_fi ws (n_v vs 0) 146) (w_fi ws (n_v vs 0) 147) (w_ei ws (w_ar ws (n_v vs 0) 140)) k3 k5 k6 k7 k9 k10 k11 k12 k13 k14 d0 d1 d2 f0 f1 f2 f3 f4 f5 f6 f7 f8 f9 f10 f11 f12 f13 f14 hK_0_140 hK_0_143 kz_0_146 kz_0_147
  have rf14 : tv_ok ta (0, 0, 5999, []) (n_v vs 14) := tv_in t14 (by first | omega | grind) (by first | omega | grind)
  refine ⟨List.forall_mem_cons.mpr ⟨rf14, (fun _ h => (by cases h))⟩, [], trivial, ?_, (fun _ h => (by cases h))⟩
  rw [List.append_nil]
  exact (fun _ h => (by cases h))
set_option maxHeartbeats 4000000 in
theorem vc_Mo_bendsBecome_8_0 (x3 : Int) (x5 : Int) (x6 : Int) (x7 : Int) (x9 : Int) (x10 : Int) (x11 : Int) (x12 : Int) (x13 : Int) (x14 : Int) (barredPoint_0 : Int → Int) (wide_0 : Int) (tall_0 : Int) (costOf_0 : Int → Int) (gx : Int) (k3 : 0 ≤ x3 ∧ x3 ≤ 5999) (k5 : 0 ≤ x5 ∧ x5 ≤ 2147483647) (k6 : 0 ≤ x6 ∧ x6 ≤ 5999) (k7 : 0 ≤ x7 ∧ x7 ≤ 3) (k9 : 0 ≤ x9 ∧ x9 ≤ 1000000) (k10 : 0 ≤ x10 ∧ x10 ≤ 3) (k11 : 0 ≤ x11 ∧ x11 ≤ 999999) (k12 : (-1) ≤ x12 ∧ x12 ≤ (-1)) (k13 : (-2) ≤ x13 ∧ x13 ≤ 1000000) (k14 : 0 ≤ x14 ∧ x14 ≤ 5999) (d0 : x7 + 0 ≤ x10 ∧ x10 ≤ x7 + 0) (d1 : x9 + (-4294967296) ≤ x10 ∧ x10 ≤ x9 + 2) (d2 : x9 + (-4294967296) ≤ x11 ∧ x11 ≤ x9 + 0) (f0 : STQ (wide_0) (tall_0) (barredPoint_0) (x6) (x10) (x14)) (f1 : ((-1) ≤ x14) ∧ ((x14 + 1) ≤ (wide_0 * tall_0))) (f2 : x10 = x7) (f3 : x12 < 0) (f4 : GRX (wide_0) (tall_0)) (f5 : RTV (wide_0) (tall_0) (barredPoint_0) (costOf_0) (x3)) (f6 : (0 ≤ x3) ∧ ((x3 + 1) ≤ (wide_0 * tall_0))) (f7 : BB2 (wide_0) (tall_0) (barredPoint_0) (costOf_0) (x6) (x7) (x9)) (f8 : (0 ≤ x6) ∧ ((x6 + 1) ≤ (wide_0 * tall_0))) (f9 : (x5 + x9) ≤ 1000000) (f10 : 0 ≤ x5) (f11 : x6 ≠ x3) (f12 : BB3 (wide_0) (tall_0) (barredPoint_0) (costOf_0) (x6) (x7) (x9) (x10) (x11) (x12)) (f13 : (0 ≤ x9) ∧ (x9 ≤ x13)) (f14 : (-1) * x13 + 0 ≤ (-1)) (hK_0_140 : ∀ j : Int, 0 ≤ j → j < 24000 → 0 ≤ costOf_0 j ∧ costOf_0 j ≤ 1000000) (hK_0_143 : ∀ j : Int, 0 ≤ j → j < 6000 → 0 ≤ barredPoint_0 j ∧ barredPoint_0 j ≤ 1) (kz_0_146 : (-2147483648) ≤ wide_0 ∧ wide_0 ≤ 2147483647) (kz_0_147 : (-2147483648) ≤ tall_0 ∧ tall_0 ≤ 2147483647) (ex2 : gx = (-1) + (1 * x13 + 0)) (ex3 : (-2) ≤ gx ∧ gx ≤ 1000000) : GRX (wide_0) (tall_0) := by
  assumption
set_option maxHeartbeats 4000000 in
theorem vc_Mo_bendsBecome_8_1 (x3 : Int) (x5 : Int) (x6 : Int) (x7 : Int) (x9 : Int) (x10 : Int) (x11 : Int) (x12 : Int) (x13 : Int) (x14 : Int) (barredPoint_0 : Int → Int) (wide_0 : Int) (tall_0 : Int) (costOf_0 : Int → Int) (gx : Int) (k3 : 0 ≤ x3 ∧ x3 ≤ 5999) (k5 : 0 ≤ x5 ∧ x5 ≤ 2147483647) (k6 : 0 ≤ x6 ∧ x6 ≤ 5999) (k7 : 0 ≤ x7 ∧ x7 ≤ 3) (k9 : 0 ≤ x9 ∧ x9 ≤ 1000000) (k10 : 0 ≤ x10 ∧ x10 ≤ 3) (k11 : 0 ≤ x11 ∧ x11 ≤ 999999) (k12 : (-1) ≤ x12 ∧ x12 ≤ (-1)) (k13 : (-2) ≤ x13 ∧ x13 ≤ 1000000) (k14 : 0 ≤ x14 ∧ x14 ≤ 5999) (d0 : x7 + 0 ≤ x10 ∧ x10 ≤ x7 + 0) (d1 : x9 + (-4294967296) ≤ x10 ∧ x10 ≤ x9 + 2) (d2 : x9 + (-4294967296) ≤ x11 ∧ x11 ≤ x9 + 0) (f0 : STQ (wide_0) (tall_0) (barredPoint_0) (x6) (x10) (x14)) (f1 : ((-1) ≤ x14) ∧ ((x14 + 1) ≤ (wide_0 * tall_0))) (f2 : x10 = x7) (f3 : x12 < 0) (f4 : GRX (wide_0) (tall_0)) (f5 : RTV (wide_0) (tall_0) (barredPoint_0) (costOf_0) (x3)) (f6 : (0 ≤ x3) ∧ ((x3 + 1) ≤ (wide_0 * tall_0))) (f7 : BB2 (wide_0) (tall_0) (barredPoint_0) (costOf_0) (x6) (x7) (x9)) (f8 : (0 ≤ x6) ∧ ((x6 + 1) ≤ (wide_0 * tall_0))) (f9 : (x5 + x9) ≤ 1000000) (f10 : 0 ≤ x5) (f11 : x6 ≠ x3) (f12 : BB3 (wide_0) (tall_0) (barredPoint_0) (costOf_0) (x6) (x7) (x9) (x10) (x11) (x12)) (f13 : (0 ≤ x9) ∧ (x9 ≤ x13)) (f14 : (-1) * x13 + 0 ≤ (-1)) (hK_0_140 : ∀ j : Int, 0 ≤ j → j < 24000 → 0 ≤ costOf_0 j ∧ costOf_0 j ≤ 1000000) (hK_0_143 : ∀ j : Int, 0 ≤ j → j < 6000 → 0 ≤ barredPoint_0 j ∧ barredPoint_0 j ≤ 1) (kz_0_146 : (-2147483648) ≤ wide_0 ∧ wide_0 ≤ 2147483647) (kz_0_147 : (-2147483648) ≤ tall_0 ∧ tall_0 ≤ 2147483647) (ex2 : gx = (-1) + (1 * x13 + 0)) (ex3 : (-2) ≤ gx ∧ gx ≤ 1000000) : RTV (wide_0) (tall_0) (barredPoint_0) (costOf_0) (x3) := by
  assumption
set_option maxHeartbeats 4000000 in
theorem vc_Mo_bendsBecome_8_2 (x3 : Int) (x5 : Int) (x6 : Int) (x7 : Int) (x9 : Int) (x10 : Int) (x11 : Int) (x12 : Int) (x13 : Int) (x14 : Int) (barredPoint_0 : Int → Int) (wide_0 : Int) (tall_0 : Int) (costOf_0 : Int → Int) (gx : Int) (k3 : 0 ≤ x3 ∧ x3 ≤ 5999) (k5 : 0 ≤ x5 ∧ x5 ≤ 2147483647) (k6 : 0 ≤ x6 ∧ x6 ≤ 5999) (k7 : 0 ≤ x7 ∧ x7 ≤ 3) (k9 : 0 ≤ x9 ∧ x9 ≤ 1000000) (k10 : 0 ≤ x10 ∧ x10 ≤ 3) (k11 : 0 ≤ x11 ∧ x11 ≤ 999999) (k12 : (-1) ≤ x12 ∧ x12 ≤ (-1)) (k13 : (-2) ≤ x13 ∧ x13 ≤ 1000000) (k14 : 0 ≤ x14 ∧ x14 ≤ 5999) (d0 : x7 + 0 ≤ x10 ∧ x10 ≤ x7 + 0) (d1 : x9 + (-4294967296) ≤ x10 ∧ x10 ≤ x9 + 2) (d2 : x9 + (-4294967296) ≤ x11 ∧ x11 ≤ x9 + 0) (f0 : STQ (wide_0) (tall_0) (barredPoint_0) (x6) (x10) (x14)) (f1 : ((-1) ≤ x14) ∧ ((x14 + 1) ≤ (wide_0 * tall_0))) (f2 : x10 = x7) (f3 : x12 < 0) (f4 : GRX (wide_0) (tall_0)) (f5 : RTV (wide_0) (tall_0) (barredPoint_0) (costOf_0) (x3)) (f6 : (0 ≤ x3) ∧ ((x3 + 1) ≤ (wide_0 * tall_0))) (f7 : BB2 (wide_0) (tall_0) (barredPoint_0) (costOf_0) (x6) (x7) (x9)) (f8 : (0 ≤ x6) ∧ ((x6 + 1) ≤ (wide_0 * tall_0))) (f9 : (x5 + x9) ≤ 1000000) (f10 : 0 ≤ x5) (f11 : x6 ≠ x3) (f12 : BB3 (wide_0) (tall_0) (barredPoint_0) (costOf_0) (x6) (x7) (x9) (x10) (x11) (x12)) (f13 : (0 ≤ x9) ∧ (x9 ≤ x13)) (f14 : (-1) * x13 + 0 ≤ (-1)) (hK_0_140 : ∀ j : Int, 0 ≤ j → j < 24000 → 0 ≤ costOf_0 j ∧ costOf_0 j ≤ 1000000) (hK_0_143 : ∀ j : Int, 0 ≤ j → j < 6000 → 0 ≤ barredPoint_0 j ∧ barredPoint_0 j ≤ 1) (kz_0_146 : (-2147483648) ≤ wide_0 ∧ wide_0 ≤ 2147483647) (kz_0_147 : (-2147483648) ≤ tall_0 ∧ tall_0 ≤ 2147483647) (ex2 : gx = (-1) + (1 * x13 + 0)) (ex3 : (-2) ≤ gx ∧ gx ≤ 1000000) : (0 ≤ x3) ∧ ((x3 + 1) ≤ (wide_0 * tall_0)) := by
  first
    | omega
    | (have h := bb2_start (t := x13) ‹RTV _ _ _ _ _› ‹BB1 _ _ _ _ _ _ _ _› (by omega) ‹STQ _ _ _ _ _ _› (by omega)
       have h1 := h.1
       have h2 := h.2.2.2.2
       omega)
    | (have h := bb_next ‹RTV _ _ _ _ _› ‹BB2 _ _ _ _ _ _ _› ‹BB3 _ _ _ _ _ _ _ _ _ _› (by omega) (by omega)
       have h1 := h.1.1
       have h2 := h.2
       omega)
set_option maxHeartbeats 4000000 in
theorem vc_Mo_bendsBecome_8_3 (x3 : Int) (x5 : Int) (x6 : Int) (x7 : Int) (x9 : Int) (x10 : Int) (x11 : Int) (x12 : Int) (x13 : Int) (x14 : Int) (barredPoint_0 : Int → Int) (wide_0 : Int) (tall_0 : Int) (costOf_0 : Int → Int) (gx : Int) (k3 : 0 ≤ x3 ∧ x3 ≤ 5999) (k5 : 0 ≤ x5 ∧ x5 ≤ 2147483647) (k6 : 0 ≤ x6 ∧ x6 ≤ 5999) (k7 : 0 ≤ x7 ∧ x7 ≤ 3) (k9 : 0 ≤ x9 ∧ x9 ≤ 1000000) (k10 : 0 ≤ x10 ∧ x10 ≤ 3) (k11 : 0 ≤ x11 ∧ x11 ≤ 999999) (k12 : (-1) ≤ x12 ∧ x12 ≤ (-1)) (k13 : (-2) ≤ x13 ∧ x13 ≤ 1000000) (k14 : 0 ≤ x14 ∧ x14 ≤ 5999) (d0 : x7 + 0 ≤ x10 ∧ x10 ≤ x7 + 0) (d1 : x9 + (-4294967296) ≤ x10 ∧ x10 ≤ x9 + 2) (d2 : x9 + (-4294967296) ≤ x11 ∧ x11 ≤ x9 + 0) (f0 : STQ (wide_0) (tall_0) (barredPoint_0) (x6) (x10) (x14)) (f1 : ((-1) ≤ x14) ∧ ((x14 + 1) ≤ (wide_0 * tall_0))) (f2 : x10 = x7) (f3 : x12 < 0) (f4 : GRX (wide_0) (tall_0)) (f5 : RTV (wide_0) (tall_0) (barredPoint_0) (costOf_0) (x3)) (f6 : (0 ≤ x3) ∧ ((x3 + 1) ≤ (wide_0 * tall_0))) (f7 : BB2 (wide_0) (tall_0) (barredPoint_0) (costOf_0) (x6) (x7) (x9)) (f8 : (0 ≤ x6) ∧ ((x6 + 1) ≤ (wide_0 * tall_0))) (f9 : (x5 + x9) ≤ 1000000) (f10 : 0 ≤ x5) (f11 : x6 ≠ x3) (f12 : BB3 (wide_0) (tall_0) (barredPoint_0) (costOf_0) (x6) (x7) (x9) (x10) (x11) (x12)) (f13 : (0 ≤ x9) ∧ (x9 ≤ x13)) (f14 : (-1) * x13 + 0 ≤ (-1)) (hK_0_140 : ∀ j : Int, 0 ≤ j → j < 24000 → 0 ≤ costOf_0 j ∧ costOf_0 j ≤ 1000000) (hK_0_143 : ∀ j : Int, 0 ≤ j → j < 6000 → 0 ≤ barredPoint_0 j ∧ barredPoint_0 j ≤ 1) (kz_0_146 : (-2147483648) ≤ wide_0 ∧ wide_0 ≤ 2147483647) (kz_0_147 : (-2147483648) ≤ tall_0 ∧ tall_0 ≤ 2147483647) (ex2 : gx = (-1) + (1 * x13 + 0)) (ex3 : (-2) ≤ gx ∧ gx ≤ 1000000) : BB2 (wide_0) (tall_0) (barredPoint_0) (costOf_0) (x14) (x10) (x11) := by
  first
    | exact bb2_start ‹RTV _ _ _ _ _› ‹BB1 _ _ _ _ _ _ _ _› (by omega) ‹STQ _ _ _ _ _ _› (by omega)
    | exact bb2_next ‹RTV _ _ _ _ _› ‹BB2 _ _ _ _ _ _ _› ‹BB3 _ _ _ _ _ _ _ _ _ _› (by omega) (by omega) ‹STQ _ _ _ _ _ _›
    | sorry
set_option maxHeartbeats 4000000 in
theorem vc_Mo_bendsBecome_8_4 (x3 : Int) (x5 : Int) (x6 : Int) (x7 : Int) (x9 : Int) (x10 : Int) (x11 : Int) (x12 : Int) (x13 : Int) (x14 : Int) (barredPoint_0 : Int → Int) (wide_0 : Int) (tall_0 : Int) (costOf_0 : Int → Int) (gx : Int) (k3 : 0 ≤ x3 ∧ x3 ≤ 5999) (k5 : 0 ≤ x5 ∧ x5 ≤ 2147483647) (k6 : 0 ≤ x6 ∧ x6 ≤ 5999) (k7 : 0 ≤ x7 ∧ x7 ≤ 3) (k9 : 0 ≤ x9 ∧ x9 ≤ 1000000) (k10 : 0 ≤ x10 ∧ x10 ≤ 3) (k11 : 0 ≤ x11 ∧ x11 ≤ 999999) (k12 : (-1) ≤ x12 ∧ x12 ≤ (-1)) (k13 : (-2) ≤ x13 ∧ x13 ≤ 1000000) (k14 : 0 ≤ x14 ∧ x14 ≤ 5999) (d0 : x7 + 0 ≤ x10 ∧ x10 ≤ x7 + 0) (d1 : x9 + (-4294967296) ≤ x10 ∧ x10 ≤ x9 + 2) (d2 : x9 + (-4294967296) ≤ x11 ∧ x11 ≤ x9 + 0) (f0 : STQ (wide_0) (tall_0) (barredPoint_0) (x6) (x10) (x14)) (f1 : ((-1) ≤ x14) ∧ ((x14 + 1) ≤ (wide_0 * tall_0))) (f2 : x10 = x7) (f3 : x12 < 0) (f4 : GRX (wide_0) (tall_0)) (f5 : RTV (wide_0) (tall_0) (barredPoint_0) (costOf_0) (x3)) (f6 : (0 ≤ x3) ∧ ((x3 + 1) ≤ (wide_0 * tall_0))) (f7 : BB2 (wide_0) (tall_0) (barredPoint_0) (costOf_0) (x6) (x7) (x9)) (f8 : (0 ≤ x6) ∧ ((x6 + 1) ≤ (wide_0 * tall_0))) (f9 : (x5 + x9) ≤ 1000000) (f10 : 0 ≤ x5) (f11 : x6 ≠ x3) (f12 : BB3 (wide_0) (tall_0) (barredPoint_0) (costOf_0) (x6) (x7) (x9) (x10) (x11) (x12)) (f13 : (0 ≤ x9) ∧ (x9 ≤ x13)) (f14 : (-1) * x13 + 0 ≤ (-1)) (hK_0_140 : ∀ j : Int, 0 ≤ j → j < 24000 → 0 ≤ costOf_0 j ∧ costOf_0 j ≤ 1000000) (hK_0_143 : ∀ j : Int, 0 ≤ j → j < 6000 → 0 ≤ barredPoint_0 j ∧ barredPoint_0 j ≤ 1) (kz_0_146 : (-2147483648) ≤ wide_0 ∧ wide_0 ≤ 2147483647) (kz_0_147 : (-2147483648) ≤ tall_0 ∧ tall_0 ≤ 2147483647) (ex2 : gx = (-1) + (1 * x13 + 0)) (ex3 : (-2) ≤ gx ∧ gx ≤ 1000000) : (0 ≤ x14) ∧ ((x14 + 1) ≤ (wide_0 * tall_0)) := by
  first
    | omega
    | (have h := bb2_start (t := x13) ‹RTV _ _ _ _ _› ‹BB1 _ _ _ _ _ _ _ _› (by omega) ‹STQ _ _ _ _ _ _› (by omega)
       have h1 := h.1
       have h2 := h.2.2.2.2
       omega)
    | (have h := bb_next ‹RTV _ _ _ _ _› ‹BB2 _ _ _ _ _ _ _› ‹BB3 _ _ _ _ _ _ _ _ _ _› (by omega) (by omega)
       have h1 := h.1.1
       have h2 := h.2
       omega)
set_option maxHeartbeats 4000000 in
theorem vc_Mo_bendsBecome_8_5 (x3 : Int) (x5 : Int) (x6 : Int) (x7 : Int) (x9 : Int) (x10 : Int) (x11 : Int) (x12 : Int) (x13 : Int) (x14 : Int) (barredPoint_0 : Int → Int) (wide_0 : Int) (tall_0 : Int) (costOf_0 : Int → Int) (gx : Int) (k3 : 0 ≤ x3 ∧ x3 ≤ 5999) (k5 : 0 ≤ x5 ∧ x5 ≤ 2147483647) (k6 : 0 ≤ x6 ∧ x6 ≤ 5999) (k7 : 0 ≤ x7 ∧ x7 ≤ 3) (k9 : 0 ≤ x9 ∧ x9 ≤ 1000000) (k10 : 0 ≤ x10 ∧ x10 ≤ 3) (k11 : 0 ≤ x11 ∧ x11 ≤ 999999) (k12 : (-1) ≤ x12 ∧ x12 ≤ (-1)) (k13 : (-2) ≤ x13 ∧ x13 ≤ 1000000) (k14 : 0 ≤ x14 ∧ x14 ≤ 5999) (d0 : x7 + 0 ≤ x10 ∧ x10 ≤ x7 + 0) (d1 : x9 + (-4294967296) ≤ x10 ∧ x10 ≤ x9 + 2) (d2 : x9 + (-4294967296) ≤ x11 ∧ x11 ≤ x9 + 0) (f0 : STQ (wide_0) (tall_0) (barredPoint_0) (x6) (x10) (x14)) (f1 : ((-1) ≤ x14) ∧ ((x14 + 1) ≤ (wide_0 * tall_0))) (f2 : x10 = x7) (f3 : x12 < 0) (f4 : GRX (wide_0) (tall_0)) (f5 : RTV (wide_0) (tall_0) (barredPoint_0) (costOf_0) (x3)) (f6 : (0 ≤ x3) ∧ ((x3 + 1) ≤ (wide_0 * tall_0))) (f7 : BB2 (wide_0) (tall_0) (barredPoint_0) (costOf_0) (x6) (x7) (x9)) (f8 : (0 ≤ x6) ∧ ((x6 + 1) ≤ (wide_0 * tall_0))) (f9 : (x5 + x9) ≤ 1000000) (f10 : 0 ≤ x5) (f11 : x6 ≠ x3) (f12 : BB3 (wide_0) (tall_0) (barredPoint_0) (costOf_0) (x6) (x7) (x9) (x10) (x11) (x12)) (f13 : (0 ≤ x9) ∧ (x9 ≤ x13)) (f14 : (-1) * x13 + 0 ≤ (-1)) (hK_0_140 : ∀ j : Int, 0 ≤ j → j < 24000 → 0 ≤ costOf_0 j ∧ costOf_0 j ≤ 1000000) (hK_0_143 : ∀ j : Int, 0 ≤ j → j < 6000 → 0 ≤ barredPoint_0 j ∧ barredPoint_0 j ≤ 1) (kz_0_146 : (-2147483648) ≤ wide_0 ∧ wide_0 ≤ 2147483647) (kz_0_147 : (-2147483648) ≤ tall_0 ∧ tall_0 ≤ 2147483647) (ex2 : gx = (-1) + (1 * x13 + 0)) (ex3 : (-2) ≤ gx ∧ gx ≤ 1000000) : (x5 + x11) ≤ 1000000 := by
  first
    | omega
    | (have h := bb2_start (t := x13) ‹RTV _ _ _ _ _› ‹BB1 _ _ _ _ _ _ _ _› (by omega) ‹STQ _ _ _ _ _ _› (by omega)
       have h1 := h.1
       have h2 := h.2.2.2.2
       omega)
    | (have h := bb_next ‹RTV _ _ _ _ _› ‹BB2 _ _ _ _ _ _ _› ‹BB3 _ _ _ _ _ _ _ _ _ _› (by omega) (by omega)
       have h1 := h.1.1
       have h2 := h.2
       omega)
set_option maxHeartbeats 4000000 in
theorem vc_Mo_bendsBecome_8_6 (x3 : Int) (x5 : Int) (x6 : Int) (x7 : Int) (x9 : Int) (x10 : Int) (x11 : Int) (x12 : Int) (x13 : Int) (x14 : Int) (barredPoint_0 : Int → Int) (wide_0 : Int) (tall_0 : Int) (costOf_0 : Int → Int) (gx : Int) (k3 : 0 ≤ x3 ∧ x3 ≤ 5999) (k5 : 0 ≤ x5 ∧ x5 ≤ 2147483647) (k6 : 0 ≤ x6 ∧ x6 ≤ 5999) (k7 : 0 ≤ x7 ∧ x7 ≤ 3) (k9 : 0 ≤ x9 ∧ x9 ≤ 1000000) (k10 : 0 ≤ x10 ∧ x10 ≤ 3) (k11 : 0 ≤ x11 ∧ x11 ≤ 999999) (k12 : (-1) ≤ x12 ∧ x12 ≤ (-1)) (k13 : (-2) ≤ x13 ∧ x13 ≤ 1000000) (k14 : 0 ≤ x14 ∧ x14 ≤ 5999) (d0 : x7 + 0 ≤ x10 ∧ x10 ≤ x7 + 0) (d1 : x9 + (-4294967296) ≤ x10 ∧ x10 ≤ x9 + 2) (d2 : x9 + (-4294967296) ≤ x11 ∧ x11 ≤ x9 + 0) (f0 : STQ (wide_0) (tall_0) (barredPoint_0) (x6) (x10) (x14)) (f1 : ((-1) ≤ x14) ∧ ((x14 + 1) ≤ (wide_0 * tall_0))) (f2 : x10 = x7) (f3 : x12 < 0) (f4 : GRX (wide_0) (tall_0)) (f5 : RTV (wide_0) (tall_0) (barredPoint_0) (costOf_0) (x3)) (f6 : (0 ≤ x3) ∧ ((x3 + 1) ≤ (wide_0 * tall_0))) (f7 : BB2 (wide_0) (tall_0) (barredPoint_0) (costOf_0) (x6) (x7) (x9)) (f8 : (0 ≤ x6) ∧ ((x6 + 1) ≤ (wide_0 * tall_0))) (f9 : (x5 + x9) ≤ 1000000) (f10 : 0 ≤ x5) (f11 : x6 ≠ x3) (f12 : BB3 (wide_0) (tall_0) (barredPoint_0) (costOf_0) (x6) (x7) (x9) (x10) (x11) (x12)) (f13 : (0 ≤ x9) ∧ (x9 ≤ x13)) (f14 : (-1) * x13 + 0 ≤ (-1)) (hK_0_140 : ∀ j : Int, 0 ≤ j → j < 24000 → 0 ≤ costOf_0 j ∧ costOf_0 j ≤ 1000000) (hK_0_143 : ∀ j : Int, 0 ≤ j → j < 6000 → 0 ≤ barredPoint_0 j ∧ barredPoint_0 j ≤ 1) (kz_0_146 : (-2147483648) ≤ wide_0 ∧ wide_0 ≤ 2147483647) (kz_0_147 : (-2147483648) ≤ tall_0 ∧ tall_0 ≤ 2147483647) (ex2 : gx = (-1) + (1 * x13 + 0)) (ex3 : (-2) ≤ gx ∧ gx ≤ 1000000) : 0 ≤ x5 := by
  first
    | omega
    | (have h := bb2_start (t := x13) ‹RTV _ _ _ _ _› ‹BB1 _ _ _ _ _ _ _ _› (by omega) ‹STQ _ _ _ _ _ _› (by omega)
       have h1 := h.1
       have h2 := h.2.2.2.2
       omega)
    | (have h := bb_next ‹RTV _ _ _ _ _› ‹BB2 _ _ _ _ _ _ _› ‹BB3 _ _ _ _ _ _ _ _ _ _› (by omega) (by omega)
       have h1 := h.1.1
       have h2 := h.2
       omega)
set_option maxHeartbeats 4000000 in
theorem vc_Mo_bendsBecome_8_7 (x3 : Int) (x5 : Int) (x6 : Int) (x7 : Int) (x9 : Int) (x10 : Int) (x11 : Int) (x12 : Int) (x13 : Int) (x14 : Int) (barredPoint_0 : Int → Int) (wide_0 : Int) (tall_0 : Int) (costOf_0 : Int → Int) (gx : Int) (k3 : 0 ≤ x3 ∧ x3 ≤ 5999) (k5 : 0 ≤ x5 ∧ x5 ≤ 2147483647) (k6 : 0 ≤ x6 ∧ x6 ≤ 5999) (k7 : 0 ≤ x7 ∧ x7 ≤ 3) (k9 : 0 ≤ x9 ∧ x9 ≤ 1000000) (k10 : 0 ≤ x10 ∧ x10 ≤ 3) (k11 : 0 ≤ x11 ∧ x11 ≤ 999999) (k12 : (-1) ≤ x12 ∧ x12 ≤ (-1)) (k13 : (-2) ≤ x13 ∧ x13 ≤ 1000000) (k14 : 0 ≤ x14 ∧ x14 ≤ 5999) (d0 : x7 + 0 ≤ x10 ∧ x10 ≤ x7 + 0) (d1 : x9 + (-4294967296) ≤ x10 ∧ x10 ≤ x9 + 2) (d2 : x9 + (-4294967296) ≤ x11 ∧ x11 ≤ x9 + 0) (f0 : STQ (wide_0) (tall_0) (barredPoint_0) (x6) (x10) (x14)) (f1 : ((-1) ≤ x14) ∧ ((x14 + 1) ≤ (wide_0 * tall_0))) (f2 : x10 = x7) (f3 : x12 < 0) (f4 : GRX (wide_0) (tall_0)) (f5 : RTV (wide_0) (tall_0) (barredPoint_0) (costOf_0) (x3)) (f6 : (0 ≤ x3) ∧ ((x3 + 1) ≤ (wide_0 * tall_0))) (f7 : BB2 (wide_0) (tall_0) (barredPoint_0) (costOf_0) (x6) (x7) (x9)) (f8 : (0 ≤ x6) ∧ ((x6 + 1) ≤ (wide_0 * tall_0))) (f9 : (x5 + x9) ≤ 1000000) (f10 : 0 ≤ x5) (f11 : x6 ≠ x3) (f12 : BB3 (wide_0) (tall_0) (barredPoint_0) (costOf_0) (x6) (x7) (x9) (x10) (x11) (x12)) (f13 : (0 ≤ x9) ∧ (x9 ≤ x13)) (f14 : (-1) * x13 + 0 ≤ (-1)) (hK_0_140 : ∀ j : Int, 0 ≤ j → j < 24000 → 0 ≤ costOf_0 j ∧ costOf_0 j ≤ 1000000) (hK_0_143 : ∀ j : Int, 0 ≤ j → j < 6000 → 0 ≤ barredPoint_0 j ∧ barredPoint_0 j ≤ 1) (kz_0_146 : (-2147483648) ≤ wide_0 ∧ wide_0 ≤ 2147483647) (kz_0_147 : (-2147483648) ≤ tall_0 ∧ tall_0 ≤ 2147483647) (ex2 : gx = (-1) + (1 * x13 + 0)) (ex3 : (-2) ≤ gx ∧ gx ≤ 1000000) : (0 ≤ x11) ∧ (x11 ≤ gx) := by
  first
    | omega
    | (have h := bb2_start (t := x13) ‹RTV _ _ _ _ _› ‹BB1 _ _ _ _ _ _ _ _› (by omega) ‹STQ _ _ _ _ _ _› (by omega)
       have h1 := h.1
       have h2 := h.2.2.2.2
       omega)
    | (have h := bb_next ‹RTV _ _ _ _ _› ‹BB2 _ _ _ _ _ _ _› ‹BB3 _ _ _ _ _ _ _ _ _ _› (by omega) (by omega)
       have h1 := h.1.1
       have h2 := h.2
       omega)
def o_Mo_bendsBecome_8 : or_T := (112, 15, [(0, (2, 0, 0, [150])), (3, (0, 0, 5999, [])), (5, (0, 0, 2147483647, [])), (6, (0, 0, 5999, [])), (7, (0, 0, 3, [])), (9, (0, 0, 1000000, [])), (10, (0, 0, 3, [])), (11, (0, 0, 999999, [])), (12, (0, -1, -1, [])), (13, (0, -2, 1000000, [])), (14, (0, 0, 5999, []))], [(20, [0, 6, 10, 14], [60, 2, 1, 429, 146, 147, 143]), (20, [14, 0], [50, 2, 0, 1146, 1147, 2, 6, 0, 2, 0, -1, 1, 0, 0, 6, 4, 2, 1, 0, 0, 1, 6, 3, 2, 1, 146, 2, 1, 147]), (7, [10, 7], [0]), (8, [12], [2]), (20, [0], [60, 2, 0, 418, 146, 147]), (20, [0, 3], [60, 2, 2, 428, 146, 147, 143, 140]), (20, [3, 0], [50, 2, 0, 1146, 1147, 2, 6, 0, 2, 0, 0, 1, 0, 0, 6, 4, 2, 1, 0, 0, 1, 6, 3, 2, 1, 146, 2, 1, 147]), (20, [0, 6, 7, 9], [60, 2, 2, 431, 146, 147, 143, 140]), (20, [6, 0], [50, 2, 0, 1146, 1147, 2, 6, 0, 2, 0, 0, 1, 0, 0, 6, 4, 2, 1, 0, 0, 1, 6, 3, 2, 1, 146, 2, 1, 147]), (20, [5, 9], [50, 0, 0, 0, 6, 4, 2, 1, 0, 1, 1, 0, 1000000]), (20, [5], [50, 0, 0, 0, 2, 0, 0, 1, 0]), (20, [6, 3], [50, 0, 0, 7, 2, 1, 0, 1, 1]), (20, [0, 6, 7, 9, 10, 11, 12], [60, 2, 2, 432, 146, 147, 143, 140]), (20, [9, 13], [50, 0, 0, 2, 6, 0, 2, 0, 0, 1, 0, 0, 2, 1, 0, 1, 1]), (23, [13], [-1, -1])], [], [(0, -2, 1000000, [])], [(20, [0], [60, 2, 0, 418, 146, 147]), (20, [0, 3], [60, 2, 2, 428, 146, 147, 143, 140]), (20, [3, 0], [50, 2, 0, 1146, 1147, 2, 6, 0, 2, 0, 0, 1, 0, 0, 6, 4, 2, 1, 0, 0, 1, 6, 3, 2, 1, 146, 2, 1, 147]), (20, [0, 14, 10, 11], [60, 2, 2, 431, 146, 147, 143, 140]), (20, [14, 0], [50, 2, 0, 1146, 1147, 2, 6, 0, 2, 0, 0, 1, 0, 0, 6, 4, 2, 1, 0, 0, 1, 6, 3, 2, 1, 146, 2, 1, 147]), (20, [5, 11], [50, 0, 0, 0, 6, 4, 2, 1, 0, 1, 1, 0, 1000000]), (20, [5], [50, 0, 0, 0, 2, 0, 0, 1, 0]), (20, [11, 15], [50, 0, 0, 2, 6, 0, 2, 0, 0, 1, 0, 0, 2, 1, 0, 1, 1])], [(15, 13, -1000000000000, -1)], [(10, 7, 0, 0), (10, 9, -4294967296, 2), (11, 9, -4294967296, 0)])
theorem oo_Mo_bendsBecome_8 {kA : Nat → ClassId} : or_ok PRD kA GG o_Mo_bendsBecome_8 := by
  intro A ta ws vs hD hth hl hk hds hf
  have hl : vs.length = 15 := hl
  have hk : ∀ q ∈ ([(0, (2, 0, 0, [150])), (3, (0, 0, 5999, [])), (5, (0, 0, 2147483647, [])), (6, (0, 0, 5999, [])), (7, (0, 0, 3, [])), (9, (0, 0, 1000000, [])), (10, (0, 0, 3, [])), (11, (0, 0, 999999, [])), (12, (0, -1, -1, [])), (13, (0, -2, 1000000, [])), (14, (0, 0, 5999, []))] : List (Nat × tv_T)), tv_ok ta q.2 (n_v vs q.1) := hk
  obtain ⟨t0, hk⟩ := List.forall_mem_cons.mp hk
  have t0 : tv_ok ta (2, 0, 0, [150]) (n_v vs 0) := t0
  have r0 : ta (v_ad (n_v vs 0)) = some 150 := tv_rg t0
  obtain ⟨t3, hk⟩ := List.forall_mem_cons.mp hk
  have t3 : tv_ok ta (0, 0, 5999, []) (n_v vs 3) := t3
  have k3 : 0 ≤ v_iv (n_v vs 3) ∧ v_iv (n_v vs 3) ≤ 5999 := tv_rng t3
  obtain ⟨t5, hk⟩ := List.forall_mem_cons.mp hk
  have t5 : tv_ok ta (0, 0, 2147483647, []) (n_v vs 5) := t5
  have k5 : 0 ≤ v_iv (n_v vs 5) ∧ v_iv (n_v vs 5) ≤ 2147483647 := tv_rng t5
  obtain ⟨t6, hk⟩ := List.forall_mem_cons.mp hk
  have t6 : tv_ok ta (0, 0, 5999, []) (n_v vs 6) := t6
  have k6 : 0 ≤ v_iv (n_v vs 6) ∧ v_iv (n_v vs 6) ≤ 5999 := tv_rng t6
  obtain ⟨t7, hk⟩ := List.forall_mem_cons.mp hk
  have t7 : tv_ok ta (0, 0, 3, []) (n_v vs 7) := t7
  have k7 : 0 ≤ v_iv (n_v vs 7) ∧ v_iv (n_v vs 7) ≤ 3 := tv_rng t7
  obtain ⟨t9, hk⟩ := List.forall_mem_cons.mp hk
  have t9 : tv_ok ta (0, 0, 1000000, []) (n_v vs 9) := t9
  have k9 : 0 ≤ v_iv (n_v vs 9) ∧ v_iv (n_v vs 9) ≤ 1000000 := tv_rng t9
  obtain ⟨t10, hk⟩ := List.forall_mem_cons.mp hk
  have t10 : tv_ok ta (0, 0, 3, []) (n_v vs 10) := t10
  have k10 : 0 ≤ v_iv (n_v vs 10) ∧ v_iv (n_v vs 10) ≤ 3 := tv_rng t10
  obtain ⟨t11, hk⟩ := List.forall_mem_cons.mp hk
  have t11 : tv_ok ta (0, 0, 999999, []) (n_v vs 11) := t11
  have k11 : 0 ≤ v_iv (n_v vs 11) ∧ v_iv (n_v vs 11) ≤ 999999 := tv_rng t11
  obtain ⟨t12, hk⟩ := List.forall_mem_cons.mp hk
  have t12 : tv_ok ta (0, -1, -1, []) (n_v vs 12) := t12
  have k12 : (-1) ≤ v_iv (n_v vs 12) ∧ v_iv (n_v vs 12) ≤ (-1) := tv_rng t12
  obtain ⟨t13, hk⟩ := List.forall_mem_cons.mp hk
  have t13 : tv_ok ta (0, -2, 1000000, []) (n_v vs 13) := t13
  have k13 : (-2) ≤ v_iv (n_v vs 13) ∧ v_iv (n_v vs 13) ≤ 1000000 := tv_rng t13
  obtain ⟨t14, hk⟩ := List.forall_mem_cons.mp hk
  have t14 : tv_ok ta (0, 0, 5999, []) (n_v vs 14) := t14
  have k14 : 0 ≤ v_iv (n_v vs 14) ∧ v_iv (n_v vs 14) ≤ 5999 := tv_rng t14
  have hds : ∀ q ∈ ([(10, 7, 0, 0), (10, 9, -4294967296, 2), (11, 9, -4294967296, 0)] : List of_T), n_iv vs q.2.1 + q.2.2.1 ≤ n_iv vs q.1 ∧ n_iv vs q.1 ≤ n_iv vs q.2.1 + q.2.2.2 := hds
  obtain ⟨d0, hds⟩ := List.forall_mem_cons.mp hds
  have d0 : v_iv (n_v vs 7) + 0 ≤ v_iv (n_v vs 10) ∧ v_iv (n_v vs 10) ≤ v_iv (n_v vs 7) + 0 := d0
  obtain ⟨d1, hds⟩ := List.forall_mem_cons.mp hds
  have d1 : v_iv (n_v vs 9) + (-4294967296) ≤ v_iv (n_v vs 10) ∧ v_iv (n_v vs 10) ≤ v_iv (n_v vs 9) + 2 := d1
  obtain ⟨d2, hds⟩ := List.forall_mem_cons.mp hds
  have d2 : v_iv (n_v vs 9) + (-4294967296) ≤ v_iv (n_v vs 11) ∧ v_iv (n_v vs 11) ≤ v_iv (n_v vs 9) + 0 := d2
  have hf : fc_ok PRD [(20, [0, 6, 10, 14], [60, 2, 1, 429, 146, 147, 143]), (20, [14, 0], [50, 2, 0, 1146, 1147, 2, 6, 0, 2, 0, -1, 1, 0, 0, 6, 4, 2, 1, 0, 0, 1, 6, 3, 2, 1, 146, 2, 1, 147]), (7, [10, 7], [0]), (8, [12], [2]), (20, [0], [60, 2, 0, 418, 146, 147]), (20, [0, 3], [60, 2, 2, 428, 146, 147, 143, 140]), (20, [3, 0], [50, 2, 0, 1146, 1147, 2, 6, 0, 2, 0, 0, 1, 0, 0, 6, 4, 2, 1, 0, 0, 1, 6, 3, 2, 1, 146, 2, 1, 147]), (20, [0, 6, 7, 9], [60, 2, 2, 431, 146, 147, 143, 140]), (20, [6, 0], [50, 2, 0, 1146, 1147, 2, 6, 0, 2, 0, 0, 1, 0, 0, 6, 4, 2, 1, 0, 0, 1, 6, 3, 2, 1, 146, 2, 1, 147]), (20, [5, 9], [50, 0, 0, 0, 6, 4, 2, 1, 0, 1, 1, 0, 1000000]), (20, [5], [50, 0, 0, 0, 2, 0, 0, 1, 0]), (20, [6, 3], [50, 0, 0, 7, 2, 1, 0, 1, 1]), (20, [0, 6, 7, 9, 10, 11, 12], [60, 2, 2, 432, 146, 147, 143, 140]), (20, [9, 13], [50, 0, 0, 2, 6, 0, 2, 0, 0, 1, 0, 0, 2, 1, 0, 1, 1]), (23, [13], [-1, -1])] ta ws vs := hf
  obtain ⟨f0, hf⟩ := fc_un (show (20 : Nat) < 100 from by decide) hf
  have f0 : STQ (w_fi ws (n_v vs 0) 146) (w_fi ws (n_v vs 0) 147) (w_ei ws (w_ar ws (n_v vs 0) 143)) (v_iv (n_v vs 6)) (v_iv (n_v vs 10)) (v_iv (n_v vs 14)) := f0
  obtain ⟨f1, hf⟩ := fc_un (show (20 : Nat) < 100 from by decide) hf
  have f1 : ((-1) ≤ v_iv (n_v vs 14)) ∧ ((v_iv (n_v vs 14) + 1) ≤ (w_fi ws (n_v vs 0) 146 * w_fi ws (n_v vs 0) 147)) := f1
  obtain ⟨f2, hf⟩ := fc_un (show (7 : Nat) < 100 from by decide) hf
  have f2 : v_iv (n_v vs 10) = v_iv (n_v vs 7) := f2
  obtain ⟨f3, hf⟩ := fc_un (show (8 : Nat) < 100 from by decide) hf
  have f3 : v_iv (n_v vs 12) < 0 := f3
  obtain ⟨f4, hf⟩ := fc_un (show (20 : Nat) < 100 from by decide) hf
  have f4 : GRX (w_fi ws (n_v vs 0) 146) (w_fi ws (n_v vs 0) 147) := f4
  obtain ⟨f5, hf⟩ := fc_un (show (20 : Nat) < 100 from by decide) hf
  have f5 : RTV (w_fi ws (n_v vs 0) 146) (w_fi ws (n_v vs 0) 147) (w_ei ws (w_ar ws (n_v vs 0) 143)) (w_ei ws (w_ar ws (n_v vs 0) 140)) (v_iv (n_v vs 3)) := f5
  obtain ⟨f6, hf⟩ := fc_un (show (20 : Nat) < 100 from by decide) hf
  have f6 : (0 ≤ v_iv (n_v vs 3)) ∧ ((v_iv (n_v vs 3) + 1) ≤ (w_fi ws (n_v vs 0) 146 * w_fi ws (n_v vs 0) 147)) := f6
  obtain ⟨f7, hf⟩ := fc_un (show (20 : Nat) < 100 from by decide) hf
  have f7 : BB2 (w_fi ws (n_v vs 0) 146) (w_fi ws (n_v vs 0) 147) (w_ei ws (w_ar ws (n_v vs 0) 143)) (w_ei ws (w_ar ws (n_v vs 0) 140)) (v_iv (n_v vs 6)) (v_iv (n_v vs 7)) (v_iv (n_v vs 9)) := f7
  obtain ⟨f8, hf⟩ := fc_un (show (20 : Nat) < 100 from by decide) hf
  have f8 : (0 ≤ v_iv (n_v vs 6)) ∧ ((v_iv (n_v vs 6) + 1) ≤ (w_fi ws (n_v vs 0) 146 * w_fi ws (n_v vs 0) 147)) := f8
  obtain ⟨f9, hf⟩ := fc_un (show (20 : Nat) < 100 from by decide) hf
  have f9 : (v_iv (n_v vs 5) + v_iv (n_v vs 9)) ≤ 1000000 := f9
  obtain ⟨f10, hf⟩ := fc_un (show (20 : Nat) < 100 from by decide) hf
  have f10 : 0 ≤ v_iv (n_v vs 5) := f10
  obtain ⟨f11, hf⟩ := fc_un (show (20 : Nat) < 100 from by decide) hf
  have f11 : v_iv (n_v vs 6) ≠ v_iv (n_v vs 3) := f11
  obtain ⟨f12, hf⟩ := fc_un (show (20 : Nat) < 100 from by decide) hf
  have f12 : BB3 (w_fi ws (n_v vs 0) 146) (w_fi ws (n_v vs 0) 147) (w_ei ws (w_ar ws (n_v vs 0) 143)) (w_ei ws (w_ar ws (n_v vs 0) 140)) (v_iv (n_v vs 6)) (v_iv (n_v vs 7)) (v_iv (n_v vs 9)) (v_iv (n_v vs 10)) (v_iv (n_v vs 11)) (v_iv (n_v vs 12)) := f12
  obtain ⟨f13, hf⟩ := fc_un (show (20 : Nat) < 100 from by decide) hf
  have f13 : (0 ≤ v_iv (n_v vs 9)) ∧ (v_iv (n_v vs 9) ≤ v_iv (n_v vs 13)) := f13
  obtain ⟨f14, hf⟩ := fc_un (show (23 : Nat) < 100 from by decide) hf
  have f14 : (-1) * v_iv (n_v vs 13) + 0 ≤ (-1) := f14
  have cr_0_140 : ta (w_ar ws (n_v vs 0) 140) = some 251 := tv_rg (th_fd hD hth r0 (g := GG_150) rfl (k := 140) (t := (2, 0, 0, [251])) rfl rfl)
  have cr_0_143 : ta (w_ar ws (n_v vs 0) 143) = some 254 := tv_rg (th_fd hD hth r0 (g := GG_150) rfl (k := 143) (t := (2, 0, 0, [254])) rfl rfl)
  have hK_0_140 : ∀ j : Int, 0 ≤ j → j < 24000 → 0 ≤ w_ei ws (w_ar ws (n_v vs 0) 140) j ∧ w_ei ws (w_ar ws (n_v vs 0) 140) j ≤ 1000000 := fun j h0 h1 => th_el hD hth cr_0_140 (kd := 0) (n := 24000) (m := 24000) (lo := 0) (hi := 1000000) (rs := []) (L := []) rfl (by decide) (j := j.toNat) (by omega)
  have hK_0_143 : ∀ j : Int, 0 ≤ j → j < 6000 → 0 ≤ w_ei ws (w_ar ws (n_v vs 0) 143) j ∧ w_ei ws (w_ar ws (n_v vs 0) 143) j ≤ 1 := fun j h0 h1 => th_el hD hth cr_0_143 (kd := 2) (n := 6000) (m := 6000) (lo := 0) (hi := 1) (rs := []) (L := []) rfl (by decide) (j := j.toNat) (by omega)
  have kz_0_146 : (-2147483648) ≤ w_fi ws (n_v vs 0) 146 ∧ w_fi ws (n_v vs 0) 146 ≤ 2147483647 := tv_rng (th_fd hD hth r0 (g := GG_150) rfl (k := 146) (t := (0, -2147483648, 2147483647, [])) rfl rfl)
  have kz_0_147 : (-2147483648) ≤ w_fi ws (n_v vs 0) 147 ∧ w_fi ws (n_v vs 0) 147 ≤ 2147483647 := tv_rng (th_fd hD hth r0 (g := GG_150) rfl (k := 147) (t := (0, -2147483648, 2147483647, [])) rfl rfl)
  obtain ⟨x, ex, hx⟩ := iv_ex (ta := ta) (lo := (-2)) (hi := 1000000) (z := (-1) + (1 * v_iv (n_v vs 13) + 0)) (by omega) (by omega) (by omega) (by omega)
  have ex2 : v_iv (Value.int x) = (-1) + (1 * v_iv (n_v vs 13) + 0) := ex
  have ex3 : (-2) ≤ v_iv (Value.int x) ∧ v_iv (Value.int x) ≤ 1000000 := tv_rng hx
  have e_0 : n_v (vs ++ [Value.int x]) 0 = n_v vs 0 := n_v_old (by rw [hl]; decide)
  have e_3 : n_v (vs ++ [Value.int x]) 3 = n_v vs 3 := n_v_old (by rw [hl]; decide)
  have e_5 : n_v (vs ++ [Value.int x]) 5 = n_v vs 5 := n_v_old (by rw [hl]; decide)
  have e_10 : n_v (vs ++ [Value.int x]) 10 = n_v vs 10 := n_v_old (by rw [hl]; decide)
  have e_11 : n_v (vs ++ [Value.int x]) 11 = n_v vs 11 := n_v_old (by rw [hl]; decide)
  have e_14 : n_v (vs ++ [Value.int x]) 14 = n_v vs 14 := n_v_old (by rw [hl]; decide)
  have e_15 : n_v (vs ++ [Value.int x]) 15 = Value.int x := n_v_new hl
  have nf0 : fc_1 PRD (20, [0], [60, 2, 0, 418, 146, 147]) ws (vs ++ [Value.int x]) := by
    refine ⟨fun n hn => ?_, ?_⟩
    · have hn : n ∈ [0] := hn
      rw [List.length_append, hl]
      simp only [List.mem_cons, List.not_mem_nil, or_false] at hn
      show n < 15 + 1; omega
    · show GRX (w_fi ws (n_v (vs ++ [Value.int x]) 0) 146) (w_fi ws (n_v (vs ++ [Value.int x]) 0) 147)
      rw [e_0]
      exact vc_Mo_bendsBecome_8_0 (v_iv (n_v vs 3)) (v_iv (n_v vs 5)) (v_iv (n_v vs 6)) (v_iv (n_v vs 7)) (v_iv (n_v vs 9)) (v_iv (n_v vs 10)) (v_iv (n_v vs 11)) (v_iv (n_v vs 12)) (v_iv (n_v vs 13)) (v_iv (n_v vs 14)) (w_ei ws (w_ar ws (n_v vs 0) 143)) (w_fi ws (n_v vs 0) 146) (w_fi ws (n_v vs 0) 147) (w_ei ws (w_ar ws (n_v vs 0) 140)) (v_iv (Value.int x)) k3 k5 k6 k7 k9 k10 k11 k12 k13 k14 d0 d1 d2 f0 f1 f2 f3 f4 f5 f6 f7 f8 f9 f10 f11 f12 f13 f14 hK_0_140 hK_0_143 kz_0_146 kz_0_147 ex2 ex3
  have nf1 : fc_1 PRD (20, [0, 3], [60, 2, 2, 428, 146, 147, 143, 140]) ws (vs ++ [Value.int x]) := by
    refine ⟨fun n hn => ?_, ?_⟩
    · have hn : n ∈ [0, 3] := hn
      rw [List.length_append, hl]
      simp only [List.mem_cons, List.not_mem_nil, or_false] at hn
      show n < 15 + 1; omega
    · show RTV (w_fi ws (n_v (vs ++ [Value.int x]) 0) 146) (w_fi ws (n_v (vs ++ [Value.int x]) 0) 147) (w_ei ws (w_ar ws (n_v (vs ++ [Value.int x]) 0) 143)) (w_ei ws (w_ar ws (n_v (vs ++ [Value.int x]) 0) 140)) (v_iv (n_v (vs ++ [Value.int x]) 3))
      rw [e_0]
      rw [e_3]
      exact vc_Mo_bendsBecome_8_1 (v_iv (n_v vs 3)) (v_iv (n_v vs 5)) (v_iv (n_v vs 6)) (v_iv (n_v vs 7)) (v_iv (n_v vs 9)) (v_iv (n_v vs 10)) (v_iv (n_v vs 11)) (v_iv (n_v vs 12)) (v_iv (n_v vs 13)) (v_iv (n_v vs 14)) (w_ei ws (w_ar ws (n_v vs 0) 143)) (w_fi ws (n_v vs 0) 146) (w_fi ws (n_v vs 0) 147) (w_ei ws (w_ar ws (n_v vs 0) 140)) (v_iv (Value.int x)) k3 k5 k6 k7 k9 k10 k11 k12 k13 k14 d0 d1 d2 f0 f1 f2 f3 f4 f5 f6 f7 f8 f9 f10 f11 f12 f13 f14 hK_0_140 hK_0_143 kz_0_146 kz_0_147 ex2 ex3
  have nf2 : fc_1 PRD (20, [3, 0], [50, 2, 0, 1146, 1147, 2, 6, 0, 2, 0, 0, 1, 0, 0, 6, 4, 2, 1, 0, 0, 1, 6, 3, 2, 1, 146, 2, 1, 147]) ws (vs ++ [Value.int x]) := by
    refine ⟨fun n hn => ?_, ?_⟩
    · have hn : n ∈ [3, 0] := hn
      rw [List.length_append, hl]
      simp only [List.mem_cons, List.not_mem_nil, or_false] at hn
      show n < 15 + 1; omega
    · show (0 ≤ v_iv (n_v (vs ++ [Value.int x]) 3)) ∧ ((v_iv (n_v (vs ++ [Value.int x]) 3) + 1) ≤ (w_fi ws (n_v (vs ++ [Value.int x]) 0) 146 * w_fi ws (n_v (vs ++ [Value.int x]) 0) 147))
      rw [e_0]
      rw [e_3]
      exact vc_Mo_bendsBecome_8_2 (v_iv (n_v vs 3)) (v_iv (n_v vs 5)) (v_iv (n_v vs 6)) (v_iv (n_v vs 7)) (v_iv (n_v vs 9)) (v_iv (n_v vs 10)) (v_iv (n_v vs 11)) (v_iv (n_v vs 12)) (v_iv (n_v vs 13)) (v_iv (n_v vs 14)) (w_ei ws (w_ar ws (n_v vs 0) 143)) (w_fi ws (n_v vs 0) 146) (w_fi ws (n_v vs 0) 147) (w_ei ws (w_ar ws (n_v vs 0) 140)) (v_iv (Value.int x)) k3 k5 k6 k7 k9 k10 k11 k12 k13 k14 d0 d1 d2 f0 f1 f2 f3 f4 f5 f6 f7 f8 f9 f10 f11 f12 f13 f14 hK_0_140 hK_0_143 kz_0_146 kz_0_147 ex2 ex3
  have nf3 : fc_1 PRD (20, [0, 14, 10, 11], [60, 2, 2, 431, 146, 147, 143, 140]) ws (vs ++ [Value.int x]) := by
    refine ⟨fun n hn => ?_, ?_⟩
    · have hn : n ∈ [0, 14, 10, 11] := hn
      rw [List.length_append, hl]
      simp only [List.mem_cons, List.not_mem_nil, or_false] at hn
      show n < 15 + 1; omega
    · show BB2 (w_fi ws (n_v (vs ++ [Value.int x]) 0) 146) (w_fi ws (n_v (vs ++ [Value.int x]) 0) 147) (w_ei ws (w_ar ws (n_v (vs ++ [Value.int x]) 0) 143)) (w_ei ws (w_ar ws (n_v (vs ++ [Value.int x]) 0) 140)) (v_iv (n_v (vs ++ [Value.int x]) 14)) (v_iv (n_v (vs ++ [Value.int x]) 10)) (v_iv (n_v (vs ++ [Value.int x]) 11))
      rw [e_0]
      rw [e_10]
      rw [e_11]
      rw [e_14]
      exact vc_Mo_bendsBecome_8_3 (v_iv (n_v vs 3)) (v_iv (n_v vs 5)) (v_iv (n_v vs 6)) (v_iv (n_v vs 7)) (v_iv (n_v vs 9)) (v_iv (n_v vs 10)) (v_iv (n_v vs 11)) (v_iv (n_v vs 12)) (v_iv (n_v vs 13)) (v_iv (n_v vs 14)) (w_ei ws (w_ar ws (n_v vs 0) 143)) (w_fi ws (n_v vs 0) 146) (w_fi ws (n_v vs 0) 147) (w_ei ws (w_ar ws (n_v vs 0) 140)) (v_iv (Value.int x)) k3 k5 k6 k7 k9 k10 k11 k12 k13 k14 d0 d1 d2 f0 f1 f2 f3 f4 f5 f6 f7 f8 f9 f10 f11 f12 f13 f14 hK_0_140 hK_0_143 kz_0_146 kz_0_147 ex2 ex3
  have nf4 : fc_1 PRD (20, [14, 0], [50, 2, 0, 1146, 1147, 2, 6, 0, 2, 0, 0, 1, 0, 0, 6, 4, 2, 1, 0, 0, 1, 6, 3, 2, 1, 146, 2, 1, 147]) ws (vs ++ [Value.int x]) := by
    refine ⟨fun n hn => ?_, ?_⟩
    · have hn : n ∈ [14, 0] := hn
      rw [List.length_append, hl]
      simp only [List.mem_cons, List.not_mem_nil, or_false] at hn
      show n < 15 + 1; omega
    · show (0 ≤ v_iv (n_v (vs ++ [Value.int x]) 14)) ∧ ((v_iv (n_v (vs ++ [Value.int x]) 14) + 1) ≤ (w_fi ws (n_v (vs ++ [Value.int x]) 0) 146 * w_fi ws (n_v (vs ++ [Value.int x]) 0) 147))
      rw [e_0]
      rw [e_14]
      exact vc_Mo_bendsBecome_8_4 (v_iv (n_v vs 3)) (v_iv (n_v vs 5)) (v_iv (n_v vs 6)) (v_iv (n_v vs 7)) (v_iv (n_v vs 9)) (v_iv (n_v vs 10)) (v_iv (n_v vs 11)) (v_iv (n_v vs 12)) (v_iv (n_v vs 13)) (v_iv (n_v vs 14)) (w_ei ws (w_ar ws (n_v vs 0) 143)) (w_fi ws (n_v vs 0) 146) (w_fi ws (n_v vs 0) 147) (w_ei ws (w_ar ws (n_v vs 0) 140)) (v_iv (Value.int x)) k3 k5 k6 k7 k9 k10 k11 k12 k13 k14 d0 d1 d2 f0 f1 f2 f3 f4 f5 f6 f7 f8 f9 f10 f11 f12 f13 f14 hK_0_140 hK_0_143 kz_0_146 kz_0_147 ex2 ex3
  have nf5 : fc_1 PRD (20, [5, 11], [50, 0, 0, 0, 6, 4, 2, 1, 0, 1, 1, 0, 1000000]) ws (vs ++ [Value.int x]) := by
    refine ⟨fun n hn => ?_, ?_⟩
    · have hn : n ∈ [5, 11] := hn
      rw [List.length_append, hl]
      simp only [List.mem_cons, List.not_mem_nil, or_false] at hn
      show n < 15 + 1; omega
    · show (v_iv (n_v (vs ++ [Value.int x]) 5) + v_iv (n_v (vs ++ [Value.int x]) 11)) ≤ 1000000
      rw [e_5]
      rw [e_11]
      exact vc_Mo_bendsBecome_8_5 (v_iv (n_v vs 3)) (v_iv (n_v vs 5)) (v_iv (n_v vs 6)) (v_iv (n_v vs 7)) (v_iv (n_v vs 9)) (v_iv (n_v vs 10)) (v_iv (n_v vs 11)) (v_iv (n_v vs 12)) (v_iv (n_v vs 13)) (v_iv (n_v vs 14)) (w_ei ws (w_ar ws (n_v vs 0) 143)) (w_fi ws (n_v vs 0) 146) (w_fi ws (n_v vs 0) 147) (w_ei ws (w_ar ws (n_v vs 0) 140)) (v_iv (Value.int x)) k3 k5 k6 k7 k9 k10 k11 k12 k13 k14 d0 d1 d2 f0 f1 f2 f3 f4 f5 f6 f7 f8 f9 f10 f11 f12 f13 f14 hK_0_140 hK_0_143 kz_0_146 kz_0_147 ex2 ex3
  have nf6 : fc_1 PRD (20, [5], [50, 0, 0, 0, 2, 0, 0, 1, 0]) ws (vs ++ [Value.int x]) := by
    refine ⟨fun n hn => ?_, ?_⟩
    · have hn : n ∈ [5] := hn
      rw [List.length_append, hl]
      simp only [List.mem_cons, List.not_mem_nil, or_false] at hn
      show n < 15 + 1; omega
    · show 0 ≤ v_iv (n_v (vs ++ [Value.int x]) 5)
      rw [e_5]
      exact vc_Mo_bendsBecome_8_6 (v_iv (n_v vs 3)) (v_iv (n_v vs 5)) (v_iv (n_v vs 6)) (v_iv (n_v vs 7)) (v_iv (n_v vs 9)) (v_iv (n_v vs 10)) (v_iv (n_v vs 11)) (v_iv (n_v vs 12)) (v_iv (n_v vs 13)) (v_iv (n_v vs 14)) (w_ei ws (w_ar ws (n_v vs 0) 143)) (w_fi ws (n_v vs 0) 146) (w_fi ws (n_v vs 0) 147) (w_ei ws (w_ar ws (n_v vs 0) 140)) (v_iv (Value.int x)) k3 k5 k6 k7 k9 k10 k11 k12 k13 k14 d0 d1 d2 f0 f1 f2 f3 f4 f5 f6 f7 f8 f9 f10 f11 f12 f13 f14 hK_0_140 hK_0_143 kz_0_146 kz_0_147 ex2 ex3
  have nf7 : fc_1 PRD (20, [11, 15], [50, 0, 0, 2, 6, 0, 2, 0, 0, 1, 0, 0, 2, 1, 0, 1, 1]) ws (vs ++ [Value.int x]) := by
    refine ⟨fun n hn => ?_, ?_⟩
    · have hn : n ∈ [11, 15] := hn
      rw [List.length_append, hl]
      simp only [List.mem_cons, List.not_mem_nil, or_false] at hn
      show n < 15 + 1; omega
    · show (0 ≤ v_iv (n_v (vs ++ [Value.int x]) 11)) ∧ (v_iv (n_v (vs ++ [Value.int x]) 11) ≤ v_iv (n_v (vs ++ [Value.int x]) 15))
      rw [e_11]
      rw [e_15]
      exact vc_Mo_bendsBecome_8_7 (v_iv (n_v vs 3)) (v_iv (n_v vs 5)) (v_iv (n_v vs 6)) (v_iv (n_v vs 7)) (v_iv (n_v vs 9)) (v_iv (n_v vs 10)) (v_iv (n_v vs 11)) (v_iv (n_v vs 12)) (v_iv (n_v vs 13)) (v_iv (n_v vs 14)) (w_ei ws (w_ar ws (n_v vs 0) 143)) (w_fi ws (n_v vs 0) 146) (w_fi ws (n_v vs 0) 147) (w_ei ws (w_ar ws (n_v vs 0) 140)) (v_iv (Value.int x)) k3 k5 k6 k7 k9 k10 k11 k12 k13 k14 d0 d1 d2 f0 f1 f2 f3 f4 f5 f6 f7 f8 f9 f10 f11 f12 f13 f14 hK_0_140 hK_0_143 kz_0_146 kz_0_147 ex2 ex3
  obtain ⟨x0, e0, _, _⟩ := tv_int t13 rfl
  have e1 : v_iv (n_v vs 13) = x0.toInt := by rw [e0]; rfl
  have ho : sy_ofs (vs ++ [Value.int x]) (15, 13, -1000000000000, -1) := by
    refine ⟨x, x0, by rw [List.getElem?_append_right (by rw [hl]; decide), hl]; rfl, ?_, ?_, ?_⟩
    · rw [List.getElem?_append_left (by rw [hl]; decide)]; exact n_v_some (by rw [hl]; decide) e0
    · show x0.toInt + (-1000000000000) ≤ x.toInt; omega
    · show x.toInt ≤ x0.toInt + (-1); omega
  exact ⟨(fun _ h => (by cases h)), [Value.int x], ag_one hx, List.forall_mem_cons.mpr ⟨⟨show (20 : Nat) < 100 from by decide, nf0⟩, List.forall_mem_cons.mpr ⟨⟨show (20 : Nat) < 100 from by decide, nf1⟩, List.forall_mem_cons.mpr ⟨⟨show (20 : Nat) < 100 from by decide, nf2⟩, List.forall_mem_cons.mpr ⟨⟨show (20 : Nat) < 100 from by decide, nf3⟩, List.forall_mem_cons.mpr ⟨⟨show (20 : Nat) < 100 from by decide, nf4⟩, List.forall_mem_cons.mpr ⟨⟨show (20 : Nat) < 100 from by decide, nf5⟩, List.forall_mem_cons.mpr ⟨⟨show (20 : Nat) < 100 from by decide, nf6⟩, List.forall_mem_cons.mpr ⟨⟨show (20 : Nat) < 100 from by decide, nf7⟩, (fun _ h => (by cases h))⟩⟩⟩⟩⟩⟩⟩⟩, List.forall_mem_cons.mpr ⟨ho, (fun _ h => (by cases h))⟩⟩
set_option maxHeartbeats 4000000 in
theorem vc_Mo_bendsBecome_9_r0 (x3 : Int) (x5 : Int) (x6 : Int) (x7 : Int) (x9 : Int) (x10 : Int) (x11 : Int) (x12 : Int) (x13 : Int) (x14 : Int) (wide_0 : Int) (tall_0 : Int) (barredPoint_0 : Int → Int) (costOf_0 : Int → Int) (k3 : 0 ≤ x3 ∧ x3 ≤ 5999) (k5 : 25 ≤ x5 ∧ x5 ≤ 2147483647) (k6 : 0 ≤ x6 ∧ x6 ≤ 5999) (k7 : 0 ≤ x7 ∧ x7 ≤ 3) (k9 : 0 ≤ x9 ∧ x9 ≤ 1000000) (k10 : (-1) ≤ x10 ∧ x10 ≤ 3) (k11 : 0 ≤ x11 ∧ x11 ≤ 999999) (k12 : (-1) ≤ x12 ∧ x12 ≤ (-1)) (k13 : (-2) ≤ x13 ∧ x13 ≤ 1000000) (k14 : 25 ≤ x14 ∧ x14 ≤ 25) (d0 : x9 + (-4294967296) ≤ x10 ∧ x10 ≤ x9 + 2) (d1 : x9 + (-4294967296) ≤ x11 ∧ x11 ≤ x9 + 0) (f0 : x14 ≤ x5) (f1 : x10 ≠ x7) (f2 : x12 < 0) (f3 : GRX (wide_0) (tall_0)) (f4 : RTV (wide_0) (tall_0) (barredPoint_0) (costOf_0) (x3)) (f5 : (0 ≤ x3) ∧ ((x3 + 1) ≤ (wide_0 * tall_0))) (f6 : BB2 (wide_0) (tall_0) (barredPoint_0) (costOf_0) (x6) (x7) (x9)) (f7 : (0 ≤ x6) ∧ ((x6 + 1) ≤ (wide_0 * tall_0))) (f8 : (x5 + x9) ≤ 1000000) (f9 : 0 ≤ x5) (f10 : x6 ≠ x3) (f11 : BB3 (wide_0) (tall_0) (barredPoint_0) (costOf_0) (x6) (x7) (x9) (x10) (x11) (x12)) (f12 : (0 ≤ x9) ∧ (x9 ≤ x13)) (f13 : (-1) * x13 + 0 ≤ (-1)) (hK_0_140 : ∀ j : Int, 0 ≤ j → j < 24000 → 0 ≤ costOf_0 j ∧ costOf_0 j ≤ 1000000) (hK_0_143 : ∀ j : Int, 0 ≤ j → j < 6000 → 0 ≤ barredPoint_0 j ∧ barredPoint_0 j ≤ 1) (kz_0_146 : (-2147483648) ≤ wide_0 ∧ wide_0 ≤ 2147483647) (kz_0_147 : (-2147483648) ≤ tall_0 ∧ tall_0 ≤ 2147483647) : 25 ≤ x5 ∧ x5 ≤ 999999 := by
  first
    | omega
    | (have g := gok_bd ‹GRX _ _›; omega)
    | (have h := bb_next ‹RTV _ _ _ _ _› ‹BB2 _ _ _ _ _ _ _› ‹BB3 _ _ _ _ _ _ _ _ _ _› (by omega) (by omega)
       have h1 := h.1.1
       have h2 := h.2
       omega)
    | (obtain ⟨⟨mf, q, n1, n2, n3, n4⟩, u0, u1⟩ := bb_next ‹RTV _ _ _ _ _› ‹BB2 _ _ _ _ _ _ _› ‹BB3 _ _ _ _ _ _ _ _ _ _› (by omega) (by omega)
       have e := ‹STQ _ _ _ _ _ _›.2.2 q n1 n2
       have i := nb_in n1 (by have g := gok_bd ‹GRX _ _›; omega)
       have g3 := ‹GRX _ _›.2.2
       omega)
def o_Mo_bendsBecome_9 : or_T := (253, 15, [(0, (2, 0, 0, [150])), (3, (0, 0, 5999, [])), (5, (0, 25, 2147483647, [])), (6, (0, 0, 5999, [])), (7, (0, 0, 3, [])), (9, (0, 0, 1000000, [])), (10, (0, -1, 3, [])), (11, (0, 0, 999999, [])), (12, (0, -1, -1, [])), (13, (0, -2, 1000000, [])), (14, (0, 25, 25, []))], [(7, [5, 14], [3]), (7, [10, 7], [1]), (8, [12], [2]), (20, [0], [60, 2, 0, 418, 146, 147]), (20, [0, 3], [60, 2, 2, 428, 146, 147, 143, 140]), (20, [3, 0], [50, 2, 0, 1146, 1147, 2, 6, 0, 2, 0, 0, 1, 0, 0, 6, 4, 2, 1, 0, 0, 1, 6, 3, 2, 1, 146, 2, 1, 147]), (20, [0, 6, 7, 9], [60, 2, 2, 431, 146, 147, 143, 140]), (20, [6, 0], [50, 2, 0, 1146, 1147, 2, 6, 0, 2, 0, 0, 1, 0, 0, 6, 4, 2, 1, 0, 0, 1, 6, 3, 2, 1, 146, 2, 1, 147]), (20, [5, 9], [50, 0, 0, 0, 6, 4, 2, 1, 0, 1, 1, 0, 1000000]), (20, [5], [50, 0, 0, 0, 2, 0, 0, 1, 0]), (20, [6, 3], [50, 0, 0, 7, 2, 1, 0, 1, 1]), (20, [0, 6, 7, 9, 10, 11, 12], [60, 2, 2, 432, 146, 147, 143, 140]), (20, [9, 13], [50, 0, 0, 2, 6, 0, 2, 0, 0, 1, 0, 0, 2, 1, 0, 1, 1]), (23, [13], [-1, -1])], [(5, (0, 25, 999999, []))], [], [], [], [(10, 9, -4294967296, 2), (11, 9, -4294967296, 0)])
theorem oo_Mo_bendsBecome_9 {kA : Nat → ClassId} : or_ok PRD kA GG o_Mo_bendsBecome_9 := by
  intro A ta ws vs hD hth hl hk hds hf
  have hl : vs.length = 15 := hl
  have hk : ∀ q ∈ ([(0, (2, 0, 0, [150])), (3, (0, 0, 5999, [])), (5, (0, 25, 2147483647, [])), (6, (0, 0, 5999, [])), (7, (0, 0, 3, [])), (9, (0, 0, 1000000, [])), (10, (0, -1, 3, [])), (11, (0, 0, 999999, [])), (12, (0, -1, -1, [])), (13, (0, -2, 1000000, [])), (14, (0, 25, 25, []))] : List (Nat × tv_T)), tv_ok ta q.2 (n_v vs q.1) := hk
  obtain ⟨t0, hk⟩ := List.forall_mem_cons.mp hk
  have t0 : tv_ok ta (2, 0, 0, [150]) (n_v vs 0) := t0
  have r0 : ta (v_ad (n_v vs 0)) = some 150 := tv_rg t0
  obtain ⟨t3, hk⟩ := List.forall_mem_cons.mp hk
  have t3 : tv_ok ta (0, 0, 5999, []) (n_v vs 3) := t3
  have k3 : 0 ≤ v_iv (n_v vs 3) ∧ v_iv (n_v vs 3) ≤ 5999 := tv_rng t3
  obtain ⟨t5, hk⟩ := List.forall_mem_cons.mp hk
  have t5 : tv_ok ta (0, 25, 2147483647, []) (n_v vs 5) := t5
  have k5 : 25 ≤ v_iv (n_v vs 5) ∧ v_iv (n_v vs 5) ≤ 2147483647 := tv_rng t5
  obtain ⟨t6, hk⟩ := List.forall_mem_cons.mp hk
  have t6 : tv_ok ta (0, 0, 5999, []) (n_v vs 6) := t6
  have k6 : 0 ≤ v_iv (n_v vs 6) ∧ v_iv (n_v vs 6) ≤ 5999 := tv_rng t6
  obtain ⟨t7, hk⟩ := List.forall_mem_cons.mp hk
  have t7 : tv_ok ta (0, 0, 3, []) (n_v vs 7) := t7
  have k7 : 0 ≤ v_iv (n_v vs 7) ∧ v_iv (n_v vs 7) ≤ 3 := tv_rng t7
  obtain ⟨t9, hk⟩ := List.forall_mem_cons.mp hk
  have t9 : tv_ok ta (0, 0, 1000000, []) (n_v vs 9) := t9
  have k9 : 0 ≤ v_iv (n_v vs 9) ∧ v_iv (n_v vs 9) ≤ 1000000 := tv_rng t9
  obtain ⟨t10, hk⟩ := List.forall_mem_cons.mp hk
  have t10 : tv_ok ta (0, -1, 3, []) (n_v vs 10) := t10
  have k10 : (-1) ≤ v_iv (n_v vs 10) ∧ v_iv (n_v vs 10) ≤ 3 := tv_rng t10
  obtain ⟨t11, hk⟩ := List.forall_mem_cons.mp hk
  have t11 : tv_ok ta (0, 0, 999999, []) (n_v vs 11) := t11
  have k11 : 0 ≤ v_iv (n_v vs 11) ∧ v_iv (n_v vs 11) ≤ 999999 := tv_rng t11
  obtain ⟨t12, hk⟩ := List.forall_mem_cons.mp hk
  have t12 : tv_ok ta (0, -1, -1, []) (n_v vs 12) := t12
  have k12 : (-1) ≤ v_iv (n_v vs 12) ∧ v_iv (n_v vs 12) ≤ (-1) := tv_rng t12
  obtain ⟨t13, hk⟩ := List.forall_mem_cons.mp hk
  have t13 : tv_ok ta (0, -2, 1000000, []) (n_v vs 13) := t13
  have k13 : (-2) ≤ v_iv (n_v vs 13) ∧ v_iv (n_v vs 13) ≤ 1000000 := tv_rng t13
  obtain ⟨t14, hk⟩ := List.forall_mem_cons.mp hk
  have t14 : tv_ok ta (0, 25, 25, []) (n_v vs 14) := t14
  have k14 : 25 ≤ v_iv (n_v vs 14) ∧ v_iv (n_v vs 14) ≤ 25 := tv_rng t14
  have hds : ∀ q ∈ ([(10, 9, -4294967296, 2), (11, 9, -4294967296, 0)] : List of_T), n_iv vs q.2.1 + q.2.2.1 ≤ n_iv vs q.1 ∧ n_iv vs q.1 ≤ n_iv vs q.2.1 + q.2.2.2 := hds
  obtain ⟨d0, hds⟩ := List.forall_mem_cons.mp hds
  have d0 : v_iv (n_v vs 9) + (-4294967296) ≤ v_iv (n_v vs 10) ∧ v_iv (n_v vs 10) ≤ v_iv (n_v vs 9) + 2 := d0
  obtain ⟨d1, hds⟩ := List.forall_mem_cons.mp hds
  have d1 : v_iv (n_v vs 9) + (-4294967296) ≤ v_iv (n_v vs 11) ∧ v_iv (n_v vs 11) ≤ v_iv (n_v vs 9) + 0 := d1
  have hf : fc_ok PRD [(7, [5, 14], [3]), (7, [10, 7], [1]), (8, [12], [2]), (20, [0], [60, 2, 0, 418, 146, 147]), (20, [0, 3], [60, 2, 2, 428, 146, 147, 143, 140]), (20, [3, 0], [50, 2, 0, 1146, 1147, 2, 6, 0, 2, 0, 0, 1, 0, 0, 6, 4, 2, 1, 0, 0, 1, 6, 3, 2, 1, 146, 2, 1, 147]), (20, [0, 6, 7, 9], [60, 2, 2, 431, 146, 147, 143, 140]), (20, [6, 0], [50, 2, 0, 1146, 1147, 2, 6, 0, 2, 0, 0, 1, 0, 0, 6, 4, 2, 1, 0, 0, 1, 6, 3, 2, 1, 146, 2, 1, 147]), (20, [5, 9], [50, 0, 0, 0, 6, 4, 2, 1, 0, 1, 1, 0, 1000000]), (20, [5], [50, 0, 0, 0, 2, 0, 0, 1, 0]), (20, [6, 3], [50, 0, 0, 7, 2, 1, 0, 1, 1]), (20, [0, 6, 7, 9, 10, 11, 12], [60, 2, 2, 432, 146, 147, 143, 140]), (20, [9, 13], [50, 0, 0, 2, 6, 0, 2, 0, 0, 1, 0, 0, 2, 1, 0, 1, 1]), (23, [13], [-1, -1])] ta ws vs := hf
  obtain ⟨f0, hf⟩ := fc_un (show (7 : Nat) < 100 from by decide) hf
  have f0 : v_iv (n_v vs 14) ≤ v_iv (n_v vs 5) := f0
  obtain ⟨f1, hf⟩ := fc_un (show (7 : Nat) < 100 from by decide) hf
  have f1 : v_iv (n_v vs 10) ≠ v_iv (n_v vs 7) := f1
  obtain ⟨f2, hf⟩ := fc_un (show (8 : Nat) < 100 from by decide) hf
  have f2 : v_iv (n_v vs 12) < 0 := f2
  obtain ⟨f3, hf⟩ := fc_un (show (20 : Nat) < 100 from by decide) hf
  have f3 : GRX (w_fi ws (n_v vs 0) 146) (w_fi ws (n_v vs 0) 147) := f3
  obtain ⟨f4, hf⟩ := fc_un (show (20 : Nat) < 100 from by decide) hf
  have f4 : RTV (w_fi ws (n_v vs 0) 146) (w_fi ws (n_v vs 0) 147) (w_ei ws (w_ar ws (n_v vs 0) 143)) (w_ei ws (w_ar ws (n_v vs 0) 140)) (v_iv (n_v vs 3)) := f4
  obtain ⟨f5, hf⟩ := fc_un (show (20 : Nat) < 100 from by decide) hf
  have f5 : (0 ≤ v_iv (n_v vs 3)) ∧ ((v_iv (n_v vs 3) + 1) ≤ (w_fi ws (n_v vs 0) 146 * w_fi ws (n_v vs 0) 147)) := f5
  obtain ⟨f6, hf⟩ := fc_un (show (20 : Nat) < 100 from by decide) hf
  have f6 : BB2 (w_fi ws (n_v vs 0) 146) (w_fi ws (n_v vs 0) 147) (w_ei ws (w_ar ws (n_v vs 0) 143)) (w_ei ws (w_ar ws (n_v vs 0) 140)) (v_iv (n_v vs 6)) (v_iv (n_v vs 7)) (v_iv (n_v vs 9)) := f6
  obtain ⟨f7, hf⟩ := fc_un (show (20 : Nat) < 100 from by decide) hf
  have f7 : (0 ≤ v_iv (n_v vs 6)) ∧ ((v_iv (n_v vs 6) + 1) ≤ (w_fi ws (n_v vs 0) 146 * w_fi ws (n_v vs 0) 147)) := f7
  obtain ⟨f8, hf⟩ := fc_un (show (20 : Nat) < 100 from by decide) hf
  have f8 : (v_iv (n_v vs 5) + v_iv (n_v vs 9)) ≤ 1000000 := f8
  obtain ⟨f9, hf⟩ := fc_un (show (20 : Nat) < 100 from by decide) hf
  have f9 : 0 ≤ v_iv (n_v vs 5) := f9
  obtain ⟨f10, hf⟩ := fc_un (show (20 : Nat) < 100 from by decide) hf
  have f10 : v_iv (n_v vs 6) ≠ v_iv (n_v vs 3) := f10
  obtain ⟨f11, hf⟩ := fc_un (show (20 : Nat) < 100 from by decide) hf
  have f11 : BB3 (w_fi ws (n_v vs 0) 146) (w_fi ws (n_v vs 0) 147) (w_ei ws (w_ar ws (n_v vs 0) 143)) (w_ei ws (w_ar ws (n_v vs 0) 140)) (v_iv (n_v vs 6)) (v_iv (n_v vs 7)) (v_iv (n_v vs 9)) (v_iv (n_v vs 10)) (v_iv (n_v vs 11)) (v_iv (n_v vs 12)) := f11
  obtain ⟨f12, hf⟩ := fc_un (show (20 : Nat) < 100 from by decide) hf
  have f12 : (0 ≤ v_iv (n_v vs 9)) ∧ (v_iv (n_v vs 9) ≤ v_iv (n_v vs 13)) := f12
  obtain ⟨f13, hf⟩ := fc_un (show (23 : Nat) < 100 from by decide) hf
  have f13 : (-1) * v_iv (n_v vs 13) + 0 ≤ (-1) := f13
  have cr_0_140 : ta (w_ar ws (n_v vs 0) 140) = some 251 := tv_rg (th_fd hD hth r0 (g := GG_150) rfl (k := 140) (t := (2, 0, 0, [251])) rfl rfl)
  have cr_0_143 : ta (w_ar ws (n_v vs 0) 143) = some 254 := tv_rg (th_fd hD hth r0 (g := GG_150) rfl (k := 143) (t := (2, 0, 0, [254])) rfl rfl)
  have hK_0_140 : ∀ j : Int, 0 ≤ j → j < 24000 → 0 ≤ w_ei ws (w_ar ws (n_v vs 0) 140) j ∧ w_ei ws (w_ar ws (n_v vs 0) 140) j ≤ 1000000 := fun j h0 h1 => th_el hD hth cr_0_140 (kd := 0) (n := 24000) (m := 24000) (lo := 0) (hi := 1000000) (rs := []) (L := []) rfl (by decide) (j := j.toNat) (by omega)
  have hK_0_143 : ∀ j : Int, 0 ≤ j → j < 6000 → 0 ≤ w_ei ws (w_ar ws (n_v vs 0) 143) j ∧ w_ei ws (w_ar ws (n_v vs 0) 143) j ≤ 1 := fun j h0 h1 => th_el hD hth cr_0_143 (kd := 2) (n := 6000) (m := 6000) (lo := 0) (hi := 1) (rs := []) (L := []) rfl (by decide) (j := j.toNat) (by omega)
  have kz_0_146 : (-2147483648) ≤ w_fi ws (n_v vs 0) 146 ∧ w_fi ws (n_v vs 0) 146 ≤ 2147483647 := tv_rng (th_fd hD hth r0 (g := GG_150) rfl (k := 146) (t := (0, -2147483648, 2147483647, [])) rfl rfl)
  have kz_0_147 : (-2147483648) ≤ w_fi ws (n_v vs 0) 147 ∧ w_fi ws (n_v vs 0) 147 ≤ 2147483647 := tv_rng (th_fd hD hth r0 (g := GG_150) rfl (k := 147) (t := (0, -2147483648, 2147483647, [])) rfl rfl)
  have hrf0 : 25 ≤ v_iv (n_v vs 5) ∧ v_iv (n_v vs 5) ≤ 999999 := vc_Mo_bendsBecome_9_r0 (v_iv (n_v vs 3)) (v_iv (n_v vs 5)) (v_iv (n_v vs 6)) (v_iv (n_v vs 7)) (v_iv (n_v vs 9)) (v_iv (n_v vs 10)) (v_iv (n_v vs 11)) (v_iv (n_v vs 12)) (v_iv (n_v vs 13)) (v_iv (n_v vs 14)) (w_fi ws (n_v vs 0) 146) (w_fi ws (n_v vs 0) 147) (w_ei ws (w_ar ws (n_v vs 0) 143)) (w_ei ws (w_ar ws (n_v vs 0) 140)) k3 k5 k6 k7 k9 k10 k11 k12 k13 k14 d0 d1 f0 f1 f2 f3 f4 f5 f6 f7 f8 f9 f10 f11 f12 f13 hK_0_140 hK_0_143 kz_0_146 kz_0_147
  have rf5 : tv_ok ta (0, 25, 999999, []) (n_v vs 5) := tv_in t5 (by first | omega | grind) (by first | omega | grind)
  refine ⟨List.forall_mem_cons.mpr ⟨rf5, (fun _ h => (by cases h))⟩, [], trivial, ?_, (fun _ h => (by cases h))⟩
  rw [List.append_nil]
  exact (fun _ h => (by cases h))
set_option maxHeartbeats 4000000 in
theorem vc_Mo_bendsBecome_10_r0 (x3 : Int) (x5 : Int) (x6 : Int) (x7 : Int) (x9 : Int) (x10 : Int) (x11 : Int) (x12 : Int) (x13 : Int) (x14 : Int) (x15 : Int) (wide_0 : Int) (tall_0 : Int) (barredPoint_0 : Int → Int) (costOf_0 : Int → Int) (k3 : 0 ≤ x3 ∧ x3 ≤ 5999) (k5 : 25 ≤ x5 ∧ x5 ≤ 999999) (k6 : 0 ≤ x6 ∧ x6 ≤ 5999) (k7 : 0 ≤ x7 ∧ x7 ≤ 3) (k9 : 0 ≤ x9 ∧ x9 ≤ 1000000) (k10 : (-1) ≤ x10 ∧ x10 ≤ 3) (k11 : 0 ≤ x11 ∧ x11 ≤ 999999) (k12 : (-1) ≤ x12 ∧ x12 ≤ (-1)) (k13 : (-2) ≤ x13 ∧ x13 ≤ 1000000) (k14 : 25 ≤ x14 ∧ x14 ≤ 25) (k15 : 26 ≤ x15 ∧ x15 ≤ 1000000) (d0 : x5 + 1 ≤ x15 ∧ x15 ≤ x5 + 1) (d1 : x9 + (-4294967296) ≤ x10 ∧ x10 ≤ x9 + 2) (d2 : x9 + (-4294967296) ≤ x11 ∧ x11 ≤ x9 + 0) (f0 : x15 = x5 + 1) (f1 : x14 ≤ x5) (f2 : x10 ≠ x7) (f3 : x12 < 0) (f4 : GRX (wide_0) (tall_0)) (f5 : RTV (wide_0) (tall_0) (barredPoint_0) (costOf_0) (x3)) (f6 : (0 ≤ x3) ∧ ((x3 + 1) ≤ (wide_0 * tall_0))) (f7 : BB2 (wide_0) (tall_0) (barredPoint_0) (costOf_0) (x6) (x7) (x9)) (f8 : (0 ≤ x6) ∧ ((x6 + 1) ≤ (wide_0 * tall_0))) (f9 : (x5 + x9) ≤ 1000000) (f10 : 0 ≤ x5) (f11 : x6 ≠ x3) (f12 : BB3 (wide_0) (tall_0) (barredPoint_0) (costOf_0) (x6) (x7) (x9) (x10) (x11) (x12)) (f13 : (0 ≤ x9) ∧ (x9 ≤ x13)) (f14 : (-1) * x13 + 0 ≤ (-1)) (hK_0_140 : ∀ j : Int, 0 ≤ j → j < 24000 → 0 ≤ costOf_0 j ∧ costOf_0 j ≤ 1000000) (hK_0_143 : ∀ j : Int, 0 ≤ j → j < 6000 → 0 ≤ barredPoint_0 j ∧ barredPoint_0 j ≤ 1) (kz_0_146 : (-2147483648) ≤ wide_0 ∧ wide_0 ≤ 2147483647) (kz_0_147 : (-2147483648) ≤ tall_0 ∧ tall_0 ≤ 2147483647) : 0 ≤ x10 ∧ x10 ≤ 3 := by
  first
    | omega
    | (have g := gok_bd ‹GRX _ _›; omega)
    | (have h := bb_next ‹RTV _ _ _ _ _› ‹BB2 _ _ _ _ _ _ _› ‹BB3 _ _ _ _ _ _ _ _ _ _› (by omega) (by omega)
       have h1 := h.1.1
       have h2 := h.2
       omega)
    | (obtain ⟨⟨mf, q, n1, n2, n3, n4⟩, u0, u1⟩ := bb_next ‹RTV _ _ _ _ _› ‹BB2 _ _ _ _ _ _ _› ‹BB3 _ _ _ _ _ _ _ _ _ _› (by omega) (by omega)
       have e := ‹STQ _ _ _ _ _ _›.2.2 q n1 n2
       have i := nb_in n1 (by have g := gok_bd ‹GRX _ _›; omega)
       have g3 := ‹GRX _ _›.2.2
       omega)
def o_Mo_bendsBecome_10 : or_T := (258, 16, [(0, (2, 0, 0, [150])), (3, (0, 0, 5999, [])), (5, (0, 25, 999999, [])), (6, (0, 0, 5999, [])), (7, (0, 0, 3, [])), (9, (0, 0, 1000000, [])), (10, (0, -1, 3, [])), (11, (0, 0, 999999, [])), (12, (0, -1, -1, [])), (13, (0, -2, 1000000, [])), (14, (0, 25, 25, [])), (15, (0, 26, 1000000, []))], [(6, [15, 5], [1]), (7, [5, 14], [3]), (7, [10, 7], [1]), (8, [12], [2]), (20, [0], [60, 2, 0, 418, 146, 147]), (20, [0, 3], [60, 2, 2, 428, 146, 147, 143, 140]), (20, [3, 0], [50, 2, 0, 1146, 1147, 2, 6, 0, 2, 0, 0, 1, 0, 0, 6, 4, 2, 1, 0, 0, 1, 6, 3, 2, 1, 146, 2, 1, 147]), (20, [0, 6, 7, 9], [60, 2, 2, 431, 146, 147, 143, 140]), (20, [6, 0], [50, 2, 0, 1146, 1147, 2, 6, 0, 2, 0, 0, 1, 0, 0, 6, 4, 2, 1, 0, 0, 1, 6, 3, 2, 1, 146, 2, 1, 147]), (20, [5, 9], [50, 0, 0, 0, 6, 4, 2, 1, 0, 1, 1, 0, 1000000]), (20, [5], [50, 0, 0, 0, 2, 0, 0, 1, 0]), (20, [6, 3], [50, 0, 0, 7, 2, 1, 0, 1, 1]), (20, [0, 6, 7, 9, 10, 11, 12], [60, 2, 2, 432, 146, 147, 143, 140]), (20, [9, 13], [50, 0, 0, 2, 6, 0, 2, 0, 0, 1, 0, 0, 2, 1, 0, 1, 1]), (23, [13], [-1, -1])], [(10, (0, 0, 3, []))], [], [], [], [(15, 5, 1, 1), (10, 9, -4294967296, 2), (11, 9, -4294967296, 0)])
theorem oo_Mo_bendsBecome_10 {kA : Nat → ClassId} : or_ok PRD kA GG o_Mo_bendsBecome_10 := by
  intro A ta ws vs hD hth hl hk hds hf
  have hl : vs.length = 16 := hl
  have hk : ∀ q ∈ ([(0, (2, 0, 0, [150])), (3, (0, 0, 5999, [])), (5, (0, 25, 999999, [])), (6, (0, 0, 5999, [])), (7, (0, 0, 3, [])), (9, (0, 0, 1000000, [])), (10, (0, -1, 3, [])), (11, (0, 0, 999999, [])), (12, (0, -1, -1, [])), (13, (0, -2, 1000000, [])), (14, (0, 25, 25, [])), (15, (0, 26, 1000000, []))] : List (Nat × tv_T)), tv_ok ta q.2 (n_v vs q.1) := hk
  obtain ⟨t0, hk⟩ := List.forall_mem_cons.mp hk
  have t0 : tv_ok ta (2, 0, 0, [150]) (n_v vs 0) := t0
  have r0 : ta (v_ad (n_v vs 0)) = some 150 := tv_rg t0
  obtain ⟨t3, hk⟩ := List.forall_mem_cons.mp hk
  have t3 : tv_ok ta (0, 0, 5999, []) (n_v vs 3) := t3
  have k3 : 0 ≤ v_iv (n_v vs 3) ∧ v_iv (n_v vs 3) ≤ 5999 := tv_rng t3
  obtain ⟨t5, hk⟩ := List.forall_mem_cons.mp hk
  have t5 : tv_ok ta (0, 25, 999999, []) (n_v vs 5) := t5
  have k5 : 25 ≤ v_iv (n_v vs 5) ∧ v_iv (n_v vs 5) ≤ 999999 := tv_rng t5
  obtain ⟨t6, hk⟩ := List.forall_mem_cons.mp hk
  have t6 : tv_ok ta (0, 0, 5999, []) (n_v vs 6) := t6
  have k6 : 0 ≤ v_iv (n_v vs 6) ∧ v_iv (n_v vs 6) ≤ 5999 := tv_rng t6
  obtain ⟨t7, hk⟩ := List.forall_mem_cons.mp hk
  have t7 : tv_ok ta (0, 0, 3, []) (n_v vs 7) := t7
  have k7 : 0 ≤ v_iv (n_v vs 7) ∧ v_iv (n_v vs 7) ≤ 3 := tv_rng t7
  obtain ⟨t9, hk⟩ := List.forall_mem_cons.mp hk
  have t9 : tv_ok ta (0, 0, 1000000, []) (n_v vs 9) := t9
  have k9 : 0 ≤ v_iv (n_v vs 9) ∧ v_iv (n_v vs 9) ≤ 1000000 := tv_rng t9
  obtain ⟨t10, hk⟩ := List.forall_mem_cons.mp hk
  have t10 : tv_ok ta (0, -1, 3, []) (n_v vs 10) := t10
  have k10 : (-1) ≤ v_iv (n_v vs 10) ∧ v_iv (n_v vs 10) ≤ 3 := tv_rng t10
  obtain ⟨t11, hk⟩ := List.forall_mem_cons.mp hk
  have t11 : tv_ok ta (0, 0, 999999, []) (n_v vs 11) := t11
  have k11 : 0 ≤ v_iv (n_v vs 11) ∧ v_iv (n_v vs 11) ≤ 999999 := tv_rng t11
  obtain ⟨t12, hk⟩ := List.forall_mem_cons.mp hk
  have t12 : tv_ok ta (0, -1, -1, []) (n_v vs 12) := t12
  have k12 : (-1) ≤ v_iv (n_v vs 12) ∧ v_iv (n_v vs 12) ≤ (-1) := tv_rng t12
  obtain ⟨t13, hk⟩ := List.forall_mem_cons.mp hk
  have t13 : tv_ok ta (0, -2, 1000000, []) (n_v vs 13) := t13
  have k13 : (-2) ≤ v_iv (n_v vs 13) ∧ v_iv (n_v vs 13) ≤ 1000000 := tv_rng t13
  obtain ⟨t14, hk⟩ := List.forall_mem_cons.mp hk
  have t14 : tv_ok ta (0, 25, 25, []) (n_v vs 14) := t14
  have k14 : 25 ≤ v_iv (n_v vs 14) ∧ v_iv (n_v vs 14) ≤ 25 := tv_rng t14
  obtain ⟨t15, hk⟩ := List.forall_mem_cons.mp hk
  have t15 : tv_ok ta (0, 26, 1000000, []) (n_v vs 15) := t15
  have k15 : 26 ≤ v_iv (n_v vs 15) ∧ v_iv (n_v vs 15) ≤ 1000000 := tv_rng t15
  have hds : ∀ q ∈ ([(15, 5, 1, 1), (10, 9, -4294967296, 2), (11, 9, -4294967296, 0)] : List of_T), n_iv vs q.2.1 + q.2.2.1 ≤ n_iv vs q.1 ∧ n_iv vs q.1 ≤ n_iv vs q.2.1 + q.2.2.2 := hds
  obtain ⟨d0, hds⟩ := List.forall_mem_cons.mp hds
  have d0 : v_iv (n_v vs 5) + 1 ≤ v_iv (n_v vs 15) ∧ v_iv (n_v vs 15) ≤ v_iv (n_v vs 5) + 1 := d0
  obtain ⟨d1, hds⟩ := List.forall_mem_cons.mp hds
  have d1 : v_iv (n_v vs 9) + (-4294967296) ≤ v_iv (n_v vs 10) ∧ v_iv (n_v vs 10) ≤ v_iv (n_v vs 9) + 2 := d1
  obtain ⟨d2, hds⟩ := List.forall_mem_cons.mp hds
  have d2 : v_iv (n_v vs 9) + (-4294967296) ≤ v_iv (n_v vs 11) ∧ v_iv (n_v vs 11) ≤ v_iv (n_v vs 9) + 0 := d2
  have hf : fc_ok PRD [(6, [15, 5], [1]), (7, [5, 14], [3]), (7, [10, 7], [1]), (8, [12], [2]), (20, [0], [60, 2, 0, 418, 146, 147]), (20, [0, 3], [60, 2, 2, 428, 146, 147, 143, 140]), (20, [3, 0], [50, 2, 0, 1146, 1147, 2, 6, 0, 2, 0, 0, 1, 0, 0, 6, 4, 2, 1, 0, 0, 1, 6, 3, 2, 1, 146, 2, 1, 147]), (20, [0, 6, 7, 9], [60, 2, 2, 431, 146, 147, 143, 140]), (20, [6, 0], [50, 2, 0, 1146, 1147, 2, 6, 0, 2, 0, 0, 1, 0, 0, 6, 4, 2, 1, 0, 0, 1, 6, 3, 2, 1, 146, 2, 1, 147]), (20, [5, 9], [50, 0, 0, 0, 6, 4, 2, 1, 0, 1, 1, 0, 1000000]), (20, [5], [50, 0, 0, 0, 2, 0, 0, 1, 0]), (20, [6, 3], [50, 0, 0, 7, 2, 1, 0, 1, 1]), (20, [0, 6, 7, 9, 10, 11, 12], [60, 2, 2, 432, 146, 147, 143, 140]), (20, [9, 13], [50, 0, 0, 2, 6, 0, 2, 0, 0, 1, 0, 0, 2, 1, 0, 1, 1]), (23, [13], [-1, -1])] ta ws vs := hf
  obtain ⟨f0, hf⟩ := fc_un (show (6 : Nat) < 100 from by decide) hf
  have f0 : v_iv (n_v vs 15) = v_iv (n_v vs 5) + 1 := f0
  obtain ⟨f1, hf⟩ := fc_un (show (7 : Nat) < 100 from by decide) hf
  have f1 : v_iv (n_v vs 14) ≤ v_iv (n_v vs 5) := f1
  obtain ⟨f2, hf⟩ := fc_un (show (7 : Nat) < 100 from by decide) hf
  have f2 : v_iv (n_v vs 10) ≠ v_iv (n_v vs 7) := f2
  obtain ⟨f3, hf⟩ := fc_un (show (8 : Nat) < 100 from by decide) hf
  have f3 : v_iv (n_v vs 12) < 0 := f3
  obtain ⟨f4, hf⟩ := fc_un (show (20 : Nat) < 100 from by decide) hf
  have f4 : GRX (w_fi ws (n_v vs 0) 146) (w_fi ws (n_v vs 0) 147) := f4
  obtain ⟨f5, hf⟩ := fc_un (show (20 : Nat) < 100 from by decide) hf
  have f5 : RTV (w_fi ws (n_v vs 0) 146) (w_fi ws (n_v vs 0) 147) (w_ei ws (w_ar ws (n_v vs 0) 143)) (w_ei ws (w_ar ws (n_v vs 0) 140)) (v_iv (n_v vs 3)) := f5
  obtain ⟨f6, hf⟩ := fc_un (show (20 : Nat) < 100 from by decide) hf
  have f6 : (0 ≤ v_iv (n_v vs 3)) ∧ ((v_iv (n_v vs 3) + 1) ≤ (w_fi ws (n_v vs 0) 146 * w_fi ws (n_v vs 0) 147)) := f6
  obtain ⟨f7, hf⟩ := fc_un (show (20 : Nat) < 100 from by decide) hf
  have f7 : BB2 (w_fi ws (n_v vs 0) 146) (w_fi ws (n_v vs 0) 147) (w_ei ws (w_ar ws (n_v vs 0) 143)) (w_ei ws (w_ar ws (n_v vs 0) 140)) (v_iv (n_v vs 6)) (v_iv (n_v vs 7)) (v_iv (n_v vs 9)) := f7
  obtain ⟨f8, hf⟩ := fc_un (show (20 : Nat) < 100 from by decide) hf
  have f8 : (0 ≤ v_iv (n_v vs 6)) ∧ ((v_iv (n_v vs 6) + 1) ≤ (w_fi ws (n_v vs 0) 146 * w_fi ws (n_v vs 0) 147)) := f8
  obtain ⟨f9, hf⟩ := fc_un (show (20 : Nat) < 100 from by decide) hf
  have f9 : (v_iv (n_v vs 5) + v_iv (n_v vs 9)) ≤ 1000000 := f9
  obtain ⟨f10, hf⟩ := fc_un (show (20 : Nat) < 100 from by decide) hf
  have f10 : 0 ≤ v_iv (n_v vs 5) := f10
  obtain ⟨f11, hf⟩ := fc_un (show (20 : Nat) < 100 from by decide) hf
  have f11 : v_iv (n_v vs 6) ≠ v_iv (n_v vs 3) := f11
  obtain ⟨f12, hf⟩ := fc_un (show (20 : Nat) < 100 from by decide) hf
  have f12 : BB3 (w_fi ws (n_v vs 0) 146) (w_fi ws (n_v vs 0) 147) (w_ei ws (w_ar ws (n_v vs 0) 143)) (w_ei ws (w_ar ws (n_v vs 0) 140)) (v_iv (n_v vs 6)) (v_iv (n_v vs 7)) (v_iv (n_v vs 9)) (v_iv (n_v vs 10)) (v_iv (n_v vs 11)) (v_iv (n_v vs 12)) := f12
  obtain ⟨f13, hf⟩ := fc_un (show (20 : Nat) < 100 from by decide) hf
  have f13 : (0 ≤ v_iv (n_v vs 9)) ∧ (v_iv (n_v vs 9) ≤ v_iv (n_v vs 13)) := f13
  obtain ⟨f14, hf⟩ := fc_un (show (23 : Nat) < 100 from by decide) hf
  have f14 : (-1) * v_iv (n_v vs 13) + 0 ≤ (-1) := f14
  have cr_0_140 : ta (w_ar ws (n_v vs 0) 140) = some 251 := tv_rg (th_fd hD hth r0 (g := GG_150) rfl (k := 140) (t := (2, 0, 0, [251])) rfl rfl)
  have cr_0_143 : ta (w_ar ws (n_v vs 0) 143) = some 254 := tv_rg (th_fd hD hth r0 (g := GG_150) rfl (k := 143) (t := (2, 0, 0, [254])) rfl rfl)
  have hK_0_140 : ∀ j : Int, 0 ≤ j → j < 24000 → 0 ≤ w_ei ws (w_ar ws (n_v vs 0) 140) j ∧ w_ei ws (w_ar ws (n_v vs 0) 140) j ≤ 1000000 := fun j h0 h1 => th_el hD hth cr_0_140 (kd := 0) (n := 24000) (m := 24000) (lo := 0) (hi := 1000000) (rs := []) (L := []) rfl (by decide) (j := j.toNat) (by omega)
  have hK_0_143 : ∀ j : Int, 0 ≤ j → j < 6000 → 0 ≤ w_ei ws (w_ar ws (n_v vs 0) 143) j ∧ w_ei ws (w_ar ws (n_v vs 0) 143) j ≤ 1 := fun j h0 h1 => th_el hD hth cr_0_143 (kd := 2) (n := 6000) (m := 6000) (lo := 0) (hi := 1) (rs := []) (L := []) rfl (by decide) (j := j.toNat) (by omega)
  have kz_0_146 : (-2147483648) ≤ w_fi ws (n_v vs 0) 146 ∧ w_fi ws (n_v vs 0) 146 ≤ 2147483647 := tv_rng (th_fd hD hth r0 (g := GG_150) rfl (k := 146) (t := (0, -2147483648, 2147483647, [])) rfl rfl)
  have kz_0_147 : (-2147483648) ≤ w_fi ws (n_v vs 0) 147 ∧ w_fi ws (n_v vs 0) 147 ≤ 2147483647 := tv_rng (th_fd hD hth r0 (g := GG_150) rfl (k := 147) (t := (0, -2147483648, 2147483647, [])) rfl rfl)
  have hrf0 : 0 ≤ v_iv (n_v vs 10) ∧ v_iv (n_v vs 10) ≤ 3 := vc_Mo_bendsBecome_10_r0 (v_iv (n_v vs 3)) (v_iv (n_v vs 5)) (v_iv (n_v vs 6)) (v_iv (n_v vs 7)) (v_iv (n_v vs 9)) (v_iv (n_v vs 10)) (v_iv (n_v vs 11)) (v_iv (n_v vs 12)) (v_iv (n_v vs 13)) (v_iv (n_v vs 14)) (v_iv (n_v vs 15)) (w_fi ws (n_v vs 0) 146) (w_fi ws (n_v vs 0) 147) (w_ei ws (w_ar ws (n_v vs 0) 143)) (w_ei ws (w_ar ws (n_v vs 0) 140)) k3 k5 k6 k7 k9 k10 k11 k12 k13 k14 k15 d0 d1 d2 f0 f1 f2 f3 f4 f5 f6 f7 f8 f9 f10 f11 f12 f13 f14 hK_0_140 hK_0_143 kz_0_146 kz_0_147
  have rf10 : tv_ok ta (0, 0, 3, []) (n_v vs 10) := tv_in t10 (by first | omega | grind) (by first | omega | grind)
  refine ⟨List.forall_mem_cons.mpr ⟨rf10, (fun _ h => (by cases h))⟩, [], trivial, ?_, (fun _ h => (by cases h))⟩
  rw [List.append_nil]
  exact (fun _ h => (by cases h))
set_option maxHeartbeats 4000000 in
theorem vc_Mo_bendsBecome_11_r0 (x3 : Int) (x5 : Int) (x6 : Int) (x7 : Int) (x9 : Int) (x10 : Int) (x11 : Int) (x12 : Int) (x13 : Int) (x14 : Int) (x15 : Int) (x16 : Int) (barredPoint_0 : Int → Int) (wide_0 : Int) (tall_0 : Int) (costOf_0 : Int → Int) (k3 : 0 ≤ x3 ∧ x3 ≤ 5999) (k5 : 25 ≤ x5 ∧ x5 ≤ 999999) (k6 : 0 ≤ x6 ∧ x6 ≤ 5999) (k7 : 0 ≤ x7 ∧ x7 ≤ 3) (k9 : 0 ≤ x9 ∧ x9 ≤ 1000000) (k10 : 0 ≤ x10 ∧ x10 ≤ 3) (k11 : 0 ≤ x11 ∧ x11 ≤ 999999) (k12 : (-1) ≤ x12 ∧ x12 ≤ (-1)) (k13 : (-2) ≤ x13 ∧ x13 ≤ 1000000) (k14 : 25 ≤ x14 ∧ x14 ≤ 25) (k15 : 26 ≤ x15 ∧ x15 ≤ 1000000) (k16 : (-1) ≤ x16 ∧ x16 ≤ 5999) (d0 : x5 + 1 ≤ x15 ∧ x15 ≤ x5 + 1) (d1 : x9 + (-4294967296) ≤ x10 ∧ x10 ≤ x9 + 2) (d2 : x9 + (-4294967296) ≤ x11 ∧ x11 ≤ x9 + 0) (f0 : STQ (wide_0) (tall_0) (barredPoint_0) (x6) (x10) (x16)) (f1 : ((-1) ≤ x16) ∧ ((x16 + 1) ≤ (wide_0 * tall_0))) (f2 : x15 = x5 + 1) (f3 : x14 ≤ x5) (f4 : x10 ≠ x7) (f5 : x12 < 0) (f6 : GRX (wide_0) (tall_0)) (f7 : RTV (wide_0) (tall_0) (barredPoint_0) (costOf_0) (x3)) (f8 : (0 ≤ x3) ∧ ((x3 + 1) ≤ (wide_0 * tall_0))) (f9 : BB2 (wide_0) (tall_0) (barredPoint_0) (costOf_0) (x6) (x7) (x9)) (f10 : (0 ≤ x6) ∧ ((x6 + 1) ≤ (wide_0 * tall_0))) (f11 : (x5 + x9) ≤ 1000000) (f12 : 0 ≤ x5) (f13 : x6 ≠ x3) (f14 : BB3 (wide_0) (tall_0) (barredPoint_0) (costOf_0) (x6) (x7) (x9) (x10) (x11) (x12)) (f15 : (0 ≤ x9) ∧ (x9 ≤ x13)) (f16 : (-1) * x13 + 0 ≤ (-1)) (hK_0_140 : ∀ j : Int, 0 ≤ j → j < 24000 → 0 ≤ costOf_0 j ∧ costOf_0 j ≤ 1000000) (hK_0_143 : ∀ j : Int, 0 ≤ j → j < 6000 → 0 ≤ barredPoint_0 j ∧ barredPoint_0 j ≤ 1) (kz_0_146 : (-2147483648) ≤ wide_0 ∧ wide_0 ≤ 2147483647) (kz_0_147 : (-2147483648) ≤ tall_0 ∧ tall_0 ≤ 2147483647) : 0 ≤ x16 ∧ x16 ≤ 5999 := by
  first
    | omega
    | (have g := gok_bd ‹GRX _ _›; omega)
    | (have h := bb_next ‹RTV _ _ _ _ _› ‹BB2 _ _ _ _ _ _ _› ‹BB3 _ _ _ _ _ _ _ _ _ _› (by omega) (by omega)
       have h1 := h.1.1
       have h2 := h.2
       omega)
    | (obtain ⟨⟨mf, q, n1, n2, n3, n4⟩, u0, u1⟩ := bb_next ‹RTV _ _ _ _ _› ‹BB2 _ _ _ _ _ _ _› ‹BB3 _ _ _ _ _ _ _ _ _ _› (by omega) (by omega)
       have e := ‹STQ _ _ _ _ _ _›.2.2 q n1 n2
       have i := nb_in n1 (by have g := gok_bd ‹GRX _ _›; omega)
       have g3 := ‹GRX _ _›.2.2
       omega)
def o_Mo_bendsBecome_11 : or_T := (272, 17, [(0, (2, 0, 0, [150])), (3, (0, 0, 5999, [])), (5, (0, 25, 999999, [])), (6, (0, 0, 5999, [])), (7, (0, 0, 3, [])), (9, (0, 0, 1000000, [])), (10, (0, 0, 3, [])), (11, (0, 0, 999999, [])), (12, (0, -1, -1, [])), (13, (0, -2, 1000000, [])), (14, (0, 25, 25, [])), (15, (0, 26, 1000000, [])), (16, (0, -1, 5999, []))], [(20, [0, 6, 10, 16], [60, 2, 1, 429, 146, 147, 143]), (20, [16, 0], [50, 2, 0, 1146, 1147, 2, 6, 0, 2, 0, -1, 1, 0, 0, 6, 4, 2, 1, 0, 0, 1, 6, 3, 2, 1, 146, 2, 1, 147]), (6, [15, 5], [1]), (7, [5, 14], [3]), (7, [10, 7], [1]), (8, [12], [2]), (20, [0], [60, 2, 0, 418, 146, 147]), (20, [0, 3], [60, 2, 2, 428, 146, 147, 143, 140]), (20, [3, 0], [50, 2, 0, 1146, 1147, 2, 6, 0, 2, 0, 0, 1, 0, 0, 6, 4, 2, 1, 0, 0, 1, 6, 3, 2, 1, 146, 2, 1, 147]), (20, [0, 6, 7, 9], [60, 2, 2, 431, 146, 147, 143, 140]), (20, [6, 0], [50, 2, 0, 1146, 1147, 2, 6, 0, 2, 0, 0, 1, 0, 0, 6, 4, 2, 1, 0, 0, 1, 6, 3, 2, 1, 146, 2, 1, 147]), (20, [5, 9], [50, 0, 0, 0, 6, 4, 2, 1, 0, 1, 1, 0, 1000000]), (20, [5], [50, 0, 0, 0, 2, 0, 0, 1, 0]), (20, [6, 3], [50, 0, 0, 7, 2, 1, 0, 1, 1]), (20, [0, 6, 7, 9, 10, 11, 12], [60, 2, 2, 432, 146, 147, 143, 140]), (20, [9, 13], [50, 0, 0, 2, 6, 0, 2, 0, 0, 1, 0, 0, 2, 1, 0, 1, 1]), (23, [13], [-1, -1])], [(16, (0, 0, 5999, []))], [], [], [], [(15, 5, 1, 1), (10, 9, -4294967296, 2), (11, 9, -4294967296, 0)])
theorem oo_Mo_bendsBecome_11 {kA : Nat → ClassId} : or_ok PRD kA GG o_Mo_bendsBecome_11 := by
  intro A ta ws vs hD hth hl hk hds hf
  have hl : vs.length = 17 := hl
  have hk : ∀ q ∈ ([(0, (2, 0, 0, [150])), (3, (0, 0, 5999, [])), (5, (0, 25, 999999, [])), (6, (0, 0, 5999, [])), (7, (0, 0, 3, [])), (9, (0, 0, 1000000, [])), (10, (0, 0, 3, [])), (11, (0, 0, 999999, [])), (12, (0, -1, -1, [])), (13, (0, -2, 1000000, [])), (14, (0, 25, 25, [])), (15, (0, 26, 1000000, [])), (16, (0, -1, 5999, []))] : List (Nat × tv_T)), tv_ok ta q.2 (n_v vs q.1) := hk
  obtain ⟨t0, hk⟩ := List.forall_mem_cons.mp hk
  have t0 : tv_ok ta (2, 0, 0, [150]) (n_v vs 0) := t0
  have r0 : ta (v_ad (n_v vs 0)) = some 150 := tv_rg t0
  obtain ⟨t3, hk⟩ := List.forall_mem_cons.mp hk
  have t3 : tv_ok ta (0, 0, 5999, []) (n_v vs 3) := t3
  have k3 : 0 ≤ v_iv (n_v vs 3) ∧ v_iv (n_v vs 3) ≤ 5999 := tv_rng t3
  obtain ⟨t5, hk⟩ := List.forall_mem_cons.mp hk
  have t5 : tv_ok ta (0, 25, 999999, []) (n_v vs 5) := t5
  have k5 : 25 ≤ v_iv (n_v vs 5) ∧ v_iv (n_v vs 5) ≤ 999999 := tv_rng t5
  obtain ⟨t6, hk⟩ := List.forall_mem_cons.mp hk
  have t6 : tv_ok ta (0, 0, 5999, []) (n_v vs 6) := t6
  have k6 : 0 ≤ v_iv (n_v vs 6) ∧ v_iv (n_v vs 6) ≤ 5999 := tv_rng t6
  obtain ⟨t7, hk⟩ := List.forall_mem_cons.mp hk
  have t7 : tv_ok ta (0, 0, 3, []) (n_v vs 7) := t7
  have k7 : 0 ≤ v_iv (n_v vs 7) ∧ v_iv (n_v vs 7) ≤ 3 := tv_rng t7
  obtain ⟨t9, hk⟩ := List.forall_mem_cons.mp hk
  have t9 : tv_ok ta (0, 0, 1000000, []) (n_v vs 9) := t9
  have k9 : 0 ≤ v_iv (n_v vs 9) ∧ v_iv (n_v vs 9) ≤ 1000000 := tv_rng t9
  obtain ⟨t10, hk⟩ := List.forall_mem_cons.mp hk
  have t10 : tv_ok ta (0, 0, 3, []) (n_v vs 10) := t10
  have k10 : 0 ≤ v_iv (n_v vs 10) ∧ v_iv (n_v vs 10) ≤ 3 := tv_rng t10
  obtain ⟨t11, hk⟩ := List.forall_mem_cons.mp hk
  have t11 : tv_ok ta (0, 0, 999999, []) (n_v vs 11) := t11
  have k11 : 0 ≤ v_iv (n_v vs 11) ∧ v_iv (n_v vs 11) ≤ 999999 := tv_rng t11
  obtain ⟨t12, hk⟩ := List.forall_mem_cons.mp hk
  have t12 : tv_ok ta (0, -1, -1, []) (n_v vs 12) := t12
  have k12 : (-1) ≤ v_iv (n_v vs 12) ∧ v_iv (n_v vs 12) ≤ (-1) := tv_rng t12
  obtain ⟨t13, hk⟩ := List.forall_mem_cons.mp hk
  have t13 : tv_ok ta (0, -2, 1000000, []) (n_v vs 13) := t13
  have k13 : (-2) ≤ v_iv (n_v vs 13) ∧ v_iv (n_v vs 13) ≤ 1000000 := tv_rng t13
  obtain ⟨t14, hk⟩ := List.forall_mem_cons.mp hk
  have t14 : tv_ok ta (0, 25, 25, []) (n_v vs 14) := t14
  have k14 : 25 ≤ v_iv (n_v vs 14) ∧ v_iv (n_v vs 14) ≤ 25 := tv_rng t14
  obtain ⟨t15, hk⟩ := List.forall_mem_cons.mp hk
  have t15 : tv_ok ta (0, 26, 1000000, []) (n_v vs 15) := t15
  have k15 : 26 ≤ v_iv (n_v vs 15) ∧ v_iv (n_v vs 15) ≤ 1000000 := tv_rng t15
  obtain ⟨t16, hk⟩ := List.forall_mem_cons.mp hk
  have t16 : tv_ok ta (0, -1, 5999, []) (n_v vs 16) := t16
  have k16 : (-1) ≤ v_iv (n_v vs 16) ∧ v_iv (n_v vs 16) ≤ 5999 := tv_rng t16
  have hds : ∀ q ∈ ([(15, 5, 1, 1), (10, 9, -4294967296, 2), (11, 9, -4294967296, 0)] : List of_T), n_iv vs q.2.1 + q.2.2.1 ≤ n_iv vs q.1 ∧ n_iv vs q.1 ≤ n_iv vs q.2.1 + q.2.2.2 := hds
  obtain ⟨d0, hds⟩ := List.forall_mem_cons.mp hds
  have d0 : v_iv (n_v vs 5) + 1 ≤ v_iv (n_v vs 15) ∧ v_iv (n_v vs 15) ≤ v_iv (n_v vs 5) + 1 := d0
  obtain ⟨d1, hds⟩ := List.forall_mem_cons.mp hds
  have d1 : v_iv (n_v vs 9) + (-4294967296) ≤ v_iv (n_v vs 10) ∧ v_iv (n_v vs 10) ≤ v_iv (n_v vs 9) + 2 := d1
  obtain ⟨d2, hds⟩ := List.forall_mem_cons.mp hds
  have d2 : v_iv (n_v vs 9) + (-4294967296) ≤ v_iv (n_v vs 11) ∧ v_iv (n_v vs 11) ≤ v_iv (n_v vs 9) + 0 := d2
  have hf : fc_ok PRD [(20, [0, 6, 10, 16], [60, 2, 1, 429, 146, 147, 143]), (20, [16, 0], [50, 2, 0, 1146, 1147, 2, 6, 0, 2, 0, -1, 1, 0, 0, 6, 4, 2, 1, 0, 0, 1, 6, 3, 2, 1, 146, 2, 1, 147]), (6, [15, 5], [1]), (7, [5, 14], [3]), (7, [10, 7], [1]), (8, [12], [2]), (20, [0], [60, 2, 0, 418, 146, 147]), (20, [0, 3], [60, 2, 2, 428, 146, 147, 143, 140]), (20, [3, 0], [50, 2, 0, 1146, 1147, 2, 6, 0, 2, 0, 0, 1, 0, 0, 6, 4, 2, 1, 0, 0, 1, 6, 3, 2, 1, 146, 2, 1, 147]), (20, [0, 6, 7, 9], [60, 2, 2, 431, 146, 147, 143, 140]), (20, [6, 0], [50, 2, 0, 1146, 1147, 2, 6, 0, 2, 0, 0, 1, 0, 0, 6, 4, 2, 1, 0, 0, 1, 6, 3, 2, 1, 146, 2, 1, 147]), (20, [5, 9], [50, 0, 0, 0, 6, 4, 2, 1, 0, 1, 1, 0, 1000000]), (20, [5], [50, 0, 0, 0, 2, 0, 0, 1, 0]), (20, [6, 3], [50, 0, 0, 7, 2, 1, 0, 1, 1]), (20, [0, 6, 7, 9, 10, 11, 12], [60, 2, 2, 432, 146, 147, 143, 140]), (20, [9, 13], [50, 0, 0, 2, 6, 0, 2, 0, 0, 1, 0, 0, 2, 1, 0, 1, 1]), (23, [13], [-1, -1])] ta ws vs := hf
  obtain ⟨f0, hf⟩ := fc_un (show (20 : Nat) < 100 from by decide) hf
  have f0 : STQ (w_fi ws (n_v vs 0) 146) (w_fi ws (n_v vs 0) 147) (w_ei ws (w_ar ws (n_v vs 0) 143)) (v_iv (n_v vs 6)) (v_iv (n_v vs 10)) (v_iv (n_v vs 16)) := f0
  obtain ⟨f1, hf⟩ := fc_un (show (20 : Nat) < 100 from by decide) hf
  have f1 : ((-1) ≤ v_iv (n_v vs 16)) ∧ ((v_iv (n_v vs 16) + 1) ≤ (w_fi ws (n_v vs 0) 146 * w_fi ws (n_v vs 0) 147)) := f1
  obtain ⟨f2, hf⟩ := fc_un (show (6 : Nat) < 100 from by decide) hf
  have f2 : v_iv (n_v vs 15) = v_iv (n_v vs 5) + 1 := f2
  obtain ⟨f3, hf⟩ := fc_un (show (7 : Nat) < 100 from by decide) hf
  have f3 : v_iv (n_v vs 14) ≤ v_iv (n_v vs 5) := f3
  obtain ⟨f4, hf⟩ := fc_un (show (7 : Nat) < 100 from by decide) hf
  have f4 : v_iv (n_v vs 10) ≠ v_iv (n_v vs 7) := f4
  obtain ⟨f5, hf⟩ := fc_un (show (8 : Nat) < 100 from by decide) hf
  have f5 : v_iv (n_v vs 12) < 0 := f5
  obtain ⟨f6, hf⟩ := fc_un (show (20 : Nat) < 100 from by decide) hf
  have f6 : GRX (w_fi ws (n_v vs 0) 146) (w_fi ws (n_v vs 0) 147) := f6
  obtain ⟨f7, hf⟩ := fc_un (show (20 : Nat) < 100 from by decide) hf
  have f7 : RTV (w_fi ws (n_v vs 0) 146) (w_fi ws (n_v vs 0) 147) (w_ei ws (w_ar ws (n_v vs 0) 143)) (w_ei ws (w_ar ws (n_v vs 0) 140)) (v_iv (n_v vs 3)) := f7
  obtain ⟨f8, hf⟩ := fc_un (show (20 : Nat) < 100 from by decide) hf
  have f8 : (0 ≤ v_iv (n_v vs 3)) ∧ ((v_iv (n_v vs 3) + 1) ≤ (w_fi ws (n_v vs 0) 146 * w_fi ws (n_v vs 0) 147)) := f8
  obtain ⟨f9, hf⟩ := fc_un (show (20 : Nat) < 100 from by decide) hf
  have f9 : BB2 (w_fi ws (n_v vs 0) 146) (w_fi ws (n_v vs 0) 147) (w_ei ws (w_ar ws (n_v vs 0) 143)) (w_ei ws (w_ar ws (n_v vs 0) 140)) (v_iv (n_v vs 6)) (v_iv (n_v vs 7)) (v_iv (n_v vs 9)) := f9
  obtain ⟨f10, hf⟩ := fc_un (show (20 : Nat) < 100 from by decide) hf
  have f10 : (0 ≤ v_iv (n_v vs 6)) ∧ ((v_iv (n_v vs 6) + 1) ≤ (w_fi ws (n_v vs 0) 146 * w_fi ws (n_v vs 0) 147)) := f10
  obtain ⟨f11, hf⟩ := fc_un (show (20 : Nat) < 100 from by decide) hf
  have f11 : (v_iv (n_v vs 5) + v_iv (n_v vs 9)) ≤ 1000000 := f11
  obtain ⟨f12, hf⟩ := fc_un (show (20 : Nat) < 100 from by decide) hf
  have f12 : 0 ≤ v_iv (n_v vs 5) := f12
  obtain ⟨f13, hf⟩ := fc_un (show (20 : Nat) < 100 from by decide) hf
  have f13 : v_iv (n_v vs 6) ≠ v_iv (n_v vs 3) := f13
  obtain ⟨f14, hf⟩ := fc_un (show (20 : Nat) < 100 from by decide) hf
  have f14 : BB3 (w_fi ws (n_v vs 0) 146) (w_fi ws (n_v vs 0) 147) (w_ei ws (w_ar ws (n_v vs 0) 143)) (w_ei ws (w_ar ws (n_v vs 0) 140)) (v_iv (n_v vs 6)) (v_iv (n_v vs 7)) (v_iv (n_v vs 9)) (v_iv (n_v vs 10)) (v_iv (n_v vs 11)) (v_iv (n_v vs 12)) := f14
  obtain ⟨f15, hf⟩ := fc_un (show (20 : Nat) < 100 from by decide) hf
  have f15 : (0 ≤ v_iv (n_v vs 9)) ∧ (v_iv (n_v vs 9) ≤ v_iv (n_v vs 13)) := f15
  obtain ⟨f16, hf⟩ := fc_un (show (23 : Nat) < 100 from by decide) hf
  have f16 : (-1) * v_iv (n_v vs 13) + 0 ≤ (-1) := f16
  have cr_0_140 : ta (w_ar ws (n_v vs 0) 140) = some 251 := tv_rg (th_fd hD hth r0 (g := GG_150) rfl (k := 140) (t := (2, 0, 0, [251])) rfl rfl)
  have cr_0_143 : ta (w_ar ws (n_v vs 0) 143) = some 254 := tv_rg (th_fd hD hth r0 (g := GG_150) rfl (k := 143) (t := (2, 0, 0, [254])) rfl rfl)
  have hK_0_140 : ∀ j : Int, 0 ≤ j → j < 24000 → 0 ≤ w_ei ws (w_ar ws (n_v vs 0) 140) j ∧ w_ei ws (w_ar ws (n_v vs 0) 140) j ≤ 1000000 := fun j h0 h1 => th_el hD hth cr_0_140 (kd := 0) (n := 24000) (m := 24000) (lo := 0) (hi := 1000000) (rs := []) (L := []) rfl (by decide) (j := j.toNat) (by omega)
  have hK_0_143 : ∀ j : Int, 0 ≤ j → j < 6000 → 0 ≤ w_ei ws (w_ar ws (n_v vs 0) 143) j ∧ w_ei ws (w_ar ws (n_v vs 0) 143) j ≤ 1 := fun j h0 h1 => th_el hD hth cr_0_143 (kd := 2) (n := 6000) (m := 6000) (lo := 0) (hi := 1) (rs := []) (L := []) rfl (by decide) (j := j.toNat) (by omega)
  have kz_0_146 : (-2147483648) ≤ w_fi ws (n_v vs 0) 146 ∧ w_fi ws (n_v vs 0) 146 ≤ 2147483647 := tv_rng (th_fd hD hth r0 (g := GG_150) rfl (k := 146) (t := (0, -2147483648, 2147483647, [])) rfl rfl)
  have kz_0_147 : (-2147483648) ≤ w_fi ws (n_v vs 0) 147 ∧ w_fi ws (n_v vs 0) 147 ≤ 2147483647 := tv_rng (th_fd hD hth r0 (g := GG_150) rfl (k := 147) (t := (0, -2147483648, 2147483647, [])) rfl rfl)
  have hrf0 : 0 ≤ v_iv (n_v vs 16) ∧ v_iv (n_v vs 16) ≤ 5999 := vc_Mo_bendsBecome_11_r0 (v_iv (n_v vs 3)) (v_iv (n_v vs 5)) (v_iv (n_v vs 6)) (v_iv (n_v vs 7)) (v_iv (n_v vs 9)) (v_iv (n_v vs 10)) (v_iv (n_v vs 11)) (v_iv (n_v vs 12)) (v_iv (n_v vs 13)) (v_iv (n_v vs 14)) (v_iv (n_v vs 15)) (v_iv (n_v vs 16)) (w_ei ws (w_ar ws (n_v vs 0) 143)) (w_fi ws (n_v vs 0) 146) (w_fi ws (n_v vs 0) 147) (w_ei ws (w_ar ws (n_v vs 0) 140)) k3 k5 k6 k7 k9 k10 k11 k12 k13 k14 k15 k16 d0 d1 d2 f0 f1 f2 f3 f4 f5 f6 f7 f8 f9 f10 f11 f12 f13 f14 f15 f16 hK_0_140 hK_0_143 kz_0_146 kz_0_147
  have rf16 : tv_ok ta (0, 0, 5999, []) (n_v vs 16) := tv_in t16 (by first | omega | grind) (by first | omega | grind)
  refine ⟨List.forall_mem_cons.mpr ⟨rf16, (fun _ h => (by cases h))⟩, [], trivial, ?_, (fun _ h => (by cases h))⟩
  rw [List.append_nil]
  exact (fun _ h => (by cases h))
set_option maxHeartbeats 4000000 in
theorem vc_Mo_bendsBecome_12_0 (x3 : Int) (x5 : Int) (x6 : Int) (x7 : Int) (x9 : Int) (x10 : Int) (x11 : Int) (x12 : Int) (x13 : Int) (x14 : Int) (x15 : Int) (x16 : Int) (barredPoint_0 : Int → Int) (wide_0 : Int) (tall_0 : Int) (costOf_0 : Int → Int) (gx : Int) (k3 : 0 ≤ x3 ∧ x3 ≤ 5999) (k5 : 25 ≤ x5 ∧ x5 ≤ 999999) (k6 : 0 ≤ x6 ∧ x6 ≤ 5999) (k7 : 0 ≤ x7 ∧ x7 ≤ 3) (k9 : 0 ≤ x9 ∧ x9 ≤ 1000000) (k10 : 0 ≤ x10 ∧ x10 ≤ 3) (k11 : 0 ≤ x11 ∧ x11 ≤ 999999) (k12 : (-1) ≤ x12 ∧ x12 ≤ (-1)) (k13 : (-2) ≤ x13 ∧ x13 ≤ 1000000) (k14 : 25 ≤ x14 ∧ x14 ≤ 25) (k15 : 26 ≤ x15 ∧ x15 ≤ 1000000) (k16 : 0 ≤ x16 ∧ x16 ≤ 5999) (d0 : x5 + 1 ≤ x15 ∧ x15 ≤ x5 + 1) (d1 : x9 + (-4294967296) ≤ x10 ∧ x10 ≤ x9 + 2) (d2 : x9 + (-4294967296) ≤ x11 ∧ x11 ≤ x9 + 0) (f0 : STQ (wide_0) (tall_0) (barredPoint_0) (x6) (x10) (x16)) (f1 : ((-1) ≤ x16) ∧ ((x16 + 1) ≤ (wide_0 * tall_0))) (f2 : x15 = x5 + 1) (f3 : x14 ≤ x5) (f4 : x10 ≠ x7) (f5 : x12 < 0) (f6 : GRX (wide_0) (tall_0)) (f7 : RTV (wide_0) (tall_0) (barredPoint_0) (costOf_0) (x3)) (f8 : (0 ≤ x3) ∧ ((x3 + 1) ≤ (wide_0 * tall_0))) (f9 : BB2 (wide_0) (tall_0) (barredPoint_0) (costOf_0) (x6) (x7) (x9)) (f10 : (0 ≤ x6) ∧ ((x6 + 1) ≤ (wide_0 * tall_0))) (f11 : (x5 + x9) ≤ 1000000) (f12 : 0 ≤ x5) (f13 : x6 ≠ x3) (f14 : BB3 (wide_0) (tall_0) (barredPoint_0) (costOf_0) (x6) (x7) (x9) (x10) (x11) (x12)) (f15 : (0 ≤ x9) ∧ (x9 ≤ x13)) (f16 : (-1) * x13 + 0 ≤ (-1)) (hK_0_140 : ∀ j : Int, 0 ≤ j → j < 24000 → 0 ≤ costOf_0 j ∧ costOf_0 j ≤ 1000000) (hK_0_143 : ∀ j : Int, 0 ≤ j → j < 6000 → 0 ≤ barredPoint_0 j ∧ barredPoint_0 j ≤ 1) (kz_0_146 : (-2147483648) ≤ wide_0 ∧ wide_0 ≤ 2147483647) (kz_0_147 : (-2147483648) ≤ tall_0 ∧ tall_0 ≤ 2147483647) (ex2 : gx = (-1) + (1 * x13 + 0)) (ex3 : (-2) ≤ gx ∧ gx ≤ 1000000) : GRX (wide_0) (tall_0) := by
  assumption
set_option maxHeartbeats 4000000 in
theorem vc_Mo_bendsBecome_12_1 (x3 : Int) (x5 : Int) (x6 : Int) (x7 : Int) (x9 : Int) (x10 : Int) (x11 : Int) (x12 : Int) (x13 : Int) (x14 : Int) (x15 : Int) (x16 : Int) (barredPoint_0 : Int → Int) (wide_0 : Int) (tall_0 : Int) (costOf_0 : Int → Int) (gx : Int) (k3 : 0 ≤ x3 ∧ x3 ≤ 5999) (k5 : 25 ≤ x5 ∧ x5 ≤ 999999) (k6 : 0 ≤ x6 ∧ x6 ≤ 5999) (k7 : 0 ≤ x7 ∧ x7 ≤ 3) (k9 : 0 ≤ x9 ∧ x9 ≤ 1000000) (k10 : 0 ≤ x10 ∧ x10 ≤ 3) (k11 : 0 ≤ x11 ∧ x11 ≤ 999999) (k12 : (-1) ≤ x12 ∧ x12 ≤ (-1)) (k13 : (-2) ≤ x13 ∧ x13 ≤ 1000000) (k14 : 25 ≤ x14 ∧ x14 ≤ 25) (k15 : 26 ≤ x15 ∧ x15 ≤ 1000000) (k16 : 0 ≤ x16 ∧ x16 ≤ 5999) (d0 : x5 + 1 ≤ x15 ∧ x15 ≤ x5 + 1) (d1 : x9 + (-4294967296) ≤ x10 ∧ x10 ≤ x9 + 2) (d2 : x9 + (-4294967296) ≤ x11 ∧ x11 ≤ x9 + 0) (f0 : STQ (wide_0) (tall_0) (barredPoint_0) (x6) (x10) (x16)) (f1 : ((-1) ≤ x16) ∧ ((x16 + 1) ≤ (wide_0 * tall_0))) (f2 : x15 = x5 + 1) (f3 : x14 ≤ x5) (f4 : x10 ≠ x7) (f5 : x12 < 0) (f6 : GRX (wide_0) (tall_0)) (f7 : RTV (wide_0) (tall_0) (barredPoint_0) (costOf_0) (x3)) (f8 : (0 ≤ x3) ∧ ((x3 + 1) ≤ (wide_0 * tall_0))) (f9 : BB2 (wide_0) (tall_0) (barredPoint_0) (costOf_0) (x6) (x7) (x9)) (f10 : (0 ≤ x6) ∧ ((x6 + 1) ≤ (wide_0 * tall_0))) (f11 : (x5 + x9) ≤ 1000000) (f12 : 0 ≤ x5) (f13 : x6 ≠ x3) (f14 : BB3 (wide_0) (tall_0) (barredPoint_0) (costOf_0) (x6) (x7) (x9) (x10) (x11) (x12)) (f15 : (0 ≤ x9) ∧ (x9 ≤ x13)) (f16 : (-1) * x13 + 0 ≤ (-1)) (hK_0_140 : ∀ j : Int, 0 ≤ j → j < 24000 → 0 ≤ costOf_0 j ∧ costOf_0 j ≤ 1000000) (hK_0_143 : ∀ j : Int, 0 ≤ j → j < 6000 → 0 ≤ barredPoint_0 j ∧ barredPoint_0 j ≤ 1) (kz_0_146 : (-2147483648) ≤ wide_0 ∧ wide_0 ≤ 2147483647) (kz_0_147 : (-2147483648) ≤ tall_0 ∧ tall_0 ≤ 2147483647) (ex2 : gx = (-1) + (1 * x13 + 0)) (ex3 : (-2) ≤ gx ∧ gx ≤ 1000000) : RTV (wide_0) (tall_0) (barredPoint_0) (costOf_0) (x3) := by
  assumption
set_option maxHeartbeats 4000000 in
theorem vc_Mo_bendsBecome_12_2 (x3 : Int) (x5 : Int) (x6 : Int) (x7 : Int) (x9 : Int) (x10 : Int) (x11 : Int) (x12 : Int) (x13 : Int) (x14 : Int) (x15 : Int) (x16 : Int) (barredPoint_0 : Int → Int) (wide_0 : Int) (tall_0 : Int) (costOf_0 : Int → Int) (gx : Int) (k3 : 0 ≤ x3 ∧ x3 ≤ 5999) (k5 : 25 ≤ x5 ∧ x5 ≤ 999999) (k6 : 0 ≤ x6 ∧ x6 ≤ 5999) (k7 : 0 ≤ x7 ∧ x7 ≤ 3) (k9 : 0 ≤ x9 ∧ x9 ≤ 1000000) (k10 : 0 ≤ x10 ∧ x10 ≤ 3) (k11 : 0 ≤ x11 ∧ x11 ≤ 999999) (k12 : (-1) ≤ x12 ∧ x12 ≤ (-1)) (k13 : (-2) ≤ x13 ∧ x13 ≤ 1000000) (k14 : 25 ≤ x14 ∧ x14 ≤ 25) (k15 : 26 ≤ x15 ∧ x15 ≤ 1000000) (k16 : 0 ≤ x16 ∧ x16 ≤ 5999) (d0 : x5 + 1 ≤ x15 ∧ x15 ≤ x5 + 1) (d1 : x9 + (-4294967296) ≤ x10 ∧ x10 ≤ x9 + 2) (d2 : x9 + (-4294967296) ≤ x11 ∧ x11 ≤ x9 + 0) (f0 : STQ (wide_0) (tall_0) (barredPoint_0) (x6) (x10) (x16)) (f1 : ((-1) ≤ x16) ∧ ((x16 + 1) ≤ (wide_0 * tall_0))) (f2 : x15 = x5 + 1) (f3 : x14 ≤ x5) (f4 : x10 ≠ x7) (f5 : x12 < 0) (f6 : GRX (wide_0) (tall_0)) (f7 : RTV (wide_0) (tall_0) (barredPoint_0) (costOf_0) (x3)) (f8 : (0 ≤ x3) ∧ ((x3 + 1) ≤ (wide_0 * tall_0))) (f9 : BB2 (wide_0) (tall_0) (barredPoint_0) (costOf_0) (x6) (x7) (x9)) (f10 : (0 ≤ x6) ∧ ((x6 + 1) ≤ (wide_0 * tall_0))) (f11 : (x5 + x9) ≤ 1000000) (f12 : 0 ≤ x5) (f13 : x6 ≠ x3) (f14 : BB3 (wide_0) (tall_0) (barredPoint_0) (costOf_0) (x6) (x7) (x9) (x10) (x11) (x12)) (f15 : (0 ≤ x9) ∧ (x9 ≤ x13)) (f16 : (-1) * x13 + 0 ≤ (-1)) (hK_0_140 : ∀ j : Int, 0 ≤ j → j < 24000 → 0 ≤ costOf_0 j ∧ costOf_0 j ≤ 1000000) (hK_0_143 : ∀ j : Int, 0 ≤ j → j < 6000 → 0 ≤ barredPoint_0 j ∧ barredPoint_0 j ≤ 1) (kz_0_146 : (-2147483648) ≤ wide_0 ∧ wide_0 ≤ 2147483647) (kz_0_147 : (-2147483648) ≤ tall_0 ∧ tall_0 ≤ 2147483647) (ex2 : gx = (-1) + (1 * x13 + 0)) (ex3 : (-2) ≤ gx ∧ gx ≤ 1000000) : (0 ≤ x3) ∧ ((x3 + 1) ≤ (wide_0 * tall_0)) := by
  first
    | omega
    | (have h := bb2_start (t := x13) ‹RTV _ _ _ _ _› ‹BB1 _ _ _ _ _ _ _ _› (by omega) ‹STQ _ _ _ _ _ _› (by omega)
       have h1 := h.1
       have h2 := h.2.2.2.2
       omega)
    | (have h := bb_next ‹RTV _ _ _ _ _› ‹BB2 _ _ _ _ _ _ _› ‹BB3 _ _ _ _ _ _ _ _ _ _› (by omega) (by omega)
       have h1 := h.1.1
       have h2 := h.2
       omega)
set_option maxHeartbeats 4000000 in
theorem vc_Mo_bendsBecome_12_3 (x3 : Int) (x5 : Int) (x6 : Int) (x7 : Int) (x9 : Int) (x10 : Int) (x11 : Int) (x12 : Int) (x13 : Int) (x14 : Int) (x15 : Int) (x16 : Int) (barredPoint_0 : Int → Int) (wide_0 : Int) (tall_0 : Int) (costOf_0 : Int → Int) (gx : Int) (k3 : 0 ≤ x3 ∧ x3 ≤ 5999) (k5 : 25 ≤ x5 ∧ x5 ≤ 999999) (k6 : 0 ≤ x6 ∧ x6 ≤ 5999) (k7 : 0 ≤ x7 ∧ x7 ≤ 3) (k9 : 0 ≤ x9 ∧ x9 ≤ 1000000) (k10 : 0 ≤ x10 ∧ x10 ≤ 3) (k11 : 0 ≤ x11 ∧ x11 ≤ 999999) (k12 : (-1) ≤ x12 ∧ x12 ≤ (-1)) (k13 : (-2) ≤ x13 ∧ x13 ≤ 1000000) (k14 : 25 ≤ x14 ∧ x14 ≤ 25) (k15 : 26 ≤ x15 ∧ x15 ≤ 1000000) (k16 : 0 ≤ x16 ∧ x16 ≤ 5999) (d0 : x5 + 1 ≤ x15 ∧ x15 ≤ x5 + 1) (d1 : x9 + (-4294967296) ≤ x10 ∧ x10 ≤ x9 + 2) (d2 : x9 + (-4294967296) ≤ x11 ∧ x11 ≤ x9 + 0) (f0 : STQ (wide_0) (tall_0) (barredPoint_0) (x6) (x10) (x16)) (f1 : ((-1) ≤ x16) ∧ ((x16 + 1) ≤ (wide_0 * tall_0))) (f2 : x15 = x5 + 1) (f3 : x14 ≤ x5) (f4 : x10 ≠ x7) (f5 : x12 < 0) (f6 : GRX (wide_0) (tall_0)) (f7 : RTV (wide_0) (tall_0) (barredPoint_0) (costOf_0) (x3)) (f8 : (0 ≤ x3) ∧ ((x3 + 1) ≤ (wide_0 * tall_0))) (f9 : BB2 (wide_0) (tall_0) (barredPoint_0) (costOf_0) (x6) (x7) (x9)) (f10 : (0 ≤ x6) ∧ ((x6 + 1) ≤ (wide_0 * tall_0))) (f11 : (x5 + x9) ≤ 1000000) (f12 : 0 ≤ x5) (f13 : x6 ≠ x3) (f14 : BB3 (wide_0) (tall_0) (barredPoint_0) (costOf_0) (x6) (x7) (x9) (x10) (x11) (x12)) (f15 : (0 ≤ x9) ∧ (x9 ≤ x13)) (f16 : (-1) * x13 + 0 ≤ (-1)) (hK_0_140 : ∀ j : Int, 0 ≤ j → j < 24000 → 0 ≤ costOf_0 j ∧ costOf_0 j ≤ 1000000) (hK_0_143 : ∀ j : Int, 0 ≤ j → j < 6000 → 0 ≤ barredPoint_0 j ∧ barredPoint_0 j ≤ 1) (kz_0_146 : (-2147483648) ≤ wide_0 ∧ wide_0 ≤ 2147483647) (kz_0_147 : (-2147483648) ≤ tall_0 ∧ tall_0 ≤ 2147483647) (ex2 : gx = (-1) + (1 * x13 + 0)) (ex3 : (-2) ≤ gx ∧ gx ≤ 1000000) : BB2 (wide_0) (tall_0) (barredPoint_0) (costOf_0) (x16) (x10) (x11) := by
  first
    | exact bb2_start ‹RTV _ _ _ _ _› ‹BB1 _ _ _ _ _ _ _ _› (by omega) ‹STQ _ _ _ _ _ _› (by omega)
    | exact bb2_next ‹RTV _ _ _ _ _› ‹BB2 _ _ _ _ _ _ _› ‹BB3 _ _ _ _ _ _ _ _ _ _› (by omega) (by omega) ‹STQ _ _ _ _ _ _›
    | sorry
set_option maxHeartbeats 4000000 in
theorem vc_Mo_bendsBecome_12_4 (x3 : Int) (x5 : Int) (x6 : Int) (x7 : Int) (x9 : Int) (x10 : Int) (x11 : Int) (x12 : Int) (x13 : Int) (x14 : Int) (x15 : Int) (x16 : Int) (barredPoint_0 : Int → Int) (wide_0 : Int) (tall_0 : Int) (costOf_0 : Int → Int) (gx : Int) (k3 : 0 ≤ x3 ∧ x3 ≤ 5999) (k5 : 25 ≤ x5 ∧ x5 ≤ 999999) (k6 : 0 ≤ x6 ∧ x6 ≤ 5999) (k7 : 0 ≤ x7 ∧ x7 ≤ 3) (k9 : 0 ≤ x9 ∧ x9 ≤ 1000000) (k10 : 0 ≤ x10 ∧ x10 ≤ 3) (k11 : 0 ≤ x11 ∧ x11 ≤ 999999) (k12 : (-1) ≤ x12 ∧ x12 ≤ (-1)) (k13 : (-2) ≤ x13 ∧ x13 ≤ 1000000) (k14 : 25 ≤ x14 ∧ x14 ≤ 25) (k15 : 26 ≤ x15 ∧ x15 ≤ 1000000) (k16 : 0 ≤ x16 ∧ x16 ≤ 5999) (d0 : x5 + 1 ≤ x15 ∧ x15 ≤ x5 + 1) (d1 : x9 + (-4294967296) ≤ x10 ∧ x10 ≤ x9 + 2) (d2 : x9 + (-4294967296) ≤ x11 ∧ x11 ≤ x9 + 0) (f0 : STQ (wide_0) (tall_0) (barredPoint_0) (x6) (x10) (x16)) (f1 : ((-1) ≤ x16) ∧ ((x16 + 1) ≤ (wide_0 * tall_0))) (f2 : x15 = x5 + 1) (f3 : x14 ≤ x5) (f4 : x10 ≠ x7) (f5 : x12 < 0) (f6 : GRX (wide_0) (tall_0)) (f7 : RTV (wide_0) (tall_0) (barredPoint_0) (costOf_0) (x3)) (f8 : (0 ≤ x3) ∧ ((x3 + 1) ≤ (wide_0 * tall_0))) (f9 : BB2 (wide_0) (tall_0) (barredPoint_0) (costOf_0) (x6) (x7) (x9)) (f10 : (0 ≤ x6) ∧ ((x6 + 1) ≤ (wide_0 * tall_0))) (f11 : (x5 + x9) ≤ 1000000) (f12 : 0 ≤ x5) (f13 : x6 ≠ x3) (f14 : BB3 (wide_0) (tall_0) (barredPoint_0) (costOf_0) (x6) (x7) (x9) (x10) (x11) (x12)) (f15 : (0 ≤ x9) ∧ (x9 ≤ x13)) (f16 : (-1) * x13 + 0 ≤ (-1)) (hK_0_140 : ∀ j : Int, 0 ≤ j → j < 24000 → 0 ≤ costOf_0 j ∧ costOf_0 j ≤ 1000000) (hK_0_143 : ∀ j : Int, 0 ≤ j → j < 6000 → 0 ≤ barredPoint_0 j ∧ barredPoint_0 j ≤ 1) (kz_0_146 : (-2147483648) ≤ wide_0 ∧ wide_0 ≤ 2147483647) (kz_0_147 : (-2147483648) ≤ tall_0 ∧ tall_0 ≤ 2147483647) (ex2 : gx = (-1) + (1 * x13 + 0)) (ex3 : (-2) ≤ gx ∧ gx ≤ 1000000) : (0 ≤ x16) ∧ ((x16 + 1) ≤ (wide_0 * tall_0)) := by
  first
    | omega
    | (have h := bb2_start (t := x13) ‹RTV _ _ _ _ _› ‹BB1 _ _ _ _ _ _ _ _› (by omega) ‹STQ _ _ _ _ _ _› (by omega)
       have h1 := h.1
       have h2 := h.2.2.2.2
       omega)
    | (have h := bb_next ‹RTV _ _ _ _ _› ‹BB2 _ _ _ _ _ _ _› ‹BB3 _ _ _ _ _ _ _ _ _ _› (by omega) (by omega)
       have h1 := h.1.1
       have h2 := h.2
       omega)
set_option maxHeartbeats 4000000 in
theorem vc_Mo_bendsBecome_12_5 (x3 : Int) (x5 : Int) (x6 : Int) (x7 : Int) (x9 : Int) (x10 : Int) (x11 : Int) (x12 : Int) (x13 : Int) (x14 : Int) (x15 : Int) (x16 : Int) (barredPoint_0 : Int → Int) (wide_0 : Int) (tall_0 : Int) (costOf_0 : Int → Int) (gx : Int) (k3 : 0 ≤ x3 ∧ x3 ≤ 5999) (k5 : 25 ≤ x5 ∧ x5 ≤ 999999) (k6 : 0 ≤ x6 ∧ x6 ≤ 5999) (k7 : 0 ≤ x7 ∧ x7 ≤ 3) (k9 : 0 ≤ x9 ∧ x9 ≤ 1000000) (k10 : 0 ≤ x10 ∧ x10 ≤ 3) (k11 : 0 ≤ x11 ∧ x11 ≤ 999999) (k12 : (-1) ≤ x12 ∧ x12 ≤ (-1)) (k13 : (-2) ≤ x13 ∧ x13 ≤ 1000000) (k14 : 25 ≤ x14 ∧ x14 ≤ 25) (k15 : 26 ≤ x15 ∧ x15 ≤ 1000000) (k16 : 0 ≤ x16 ∧ x16 ≤ 5999) (d0 : x5 + 1 ≤ x15 ∧ x15 ≤ x5 + 1) (d1 : x9 + (-4294967296) ≤ x10 ∧ x10 ≤ x9 + 2) (d2 : x9 + (-4294967296) ≤ x11 ∧ x11 ≤ x9 + 0) (f0 : STQ (wide_0) (tall_0) (barredPoint_0) (x6) (x10) (x16)) (f1 : ((-1) ≤ x16) ∧ ((x16 + 1) ≤ (wide_0 * tall_0))) (f2 : x15 = x5 + 1) (f3 : x14 ≤ x5) (f4 : x10 ≠ x7) (f5 : x12 < 0) (f6 : GRX (wide_0) (tall_0)) (f7 : RTV (wide_0) (tall_0) (barredPoint_0) (costOf_0) (x3)) (f8 : (0 ≤ x3) ∧ ((x3 + 1) ≤ (wide_0 * tall_0))) (f9 : BB2 (wide_0) (tall_0) (barredPoint_0) (costOf_0) (x6) (x7) (x9)) (f10 : (0 ≤ x6) ∧ ((x6 + 1) ≤ (wide_0 * tall_0))) (f11 : (x5 + x9) ≤ 1000000) (f12 : 0 ≤ x5) (f13 : x6 ≠ x3) (f14 : BB3 (wide_0) (tall_0) (barredPoint_0) (costOf_0) (x6) (x7) (x9) (x10) (x11) (x12)) (f15 : (0 ≤ x9) ∧ (x9 ≤ x13)) (f16 : (-1) * x13 + 0 ≤ (-1)) (hK_0_140 : ∀ j : Int, 0 ≤ j → j < 24000 → 0 ≤ costOf_0 j ∧ costOf_0 j ≤ 1000000) (hK_0_143 : ∀ j : Int, 0 ≤ j → j < 6000 → 0 ≤ barredPoint_0 j ∧ barredPoint_0 j ≤ 1) (kz_0_146 : (-2147483648) ≤ wide_0 ∧ wide_0 ≤ 2147483647) (kz_0_147 : (-2147483648) ≤ tall_0 ∧ tall_0 ≤ 2147483647) (ex2 : gx = (-1) + (1 * x13 + 0)) (ex3 : (-2) ≤ gx ∧ gx ≤ 1000000) : (x15 + x11) ≤ 1000000 := by
  first
    | omega
    | (have h := bb2_start (t := x13) ‹RTV _ _ _ _ _› ‹BB1 _ _ _ _ _ _ _ _› (by omega) ‹STQ _ _ _ _ _ _› (by omega)
       have h1 := h.1
       have h2 := h.2.2.2.2
       omega)
    | (have h := bb_next ‹RTV _ _ _ _ _› ‹BB2 _ _ _ _ _ _ _› ‹BB3 _ _ _ _ _ _ _ _ _ _› (by omega) (by omega)
       have h1 := h.1.1
       have h2 := h.2
       omega)
set_option maxHeartbeats 4000000 in
theorem vc_Mo_bendsBecome_12_6 (x3 : Int) (x5 : Int) (x6 : Int) (x7 : Int) (x9 : Int) (x10 : Int) (x11 : Int) (x12 : Int) (x13 : Int) (x14 : Int) (x15 : Int) (x16 : Int) (barredPoint_0 : Int → Int) (wide_0 : Int) (tall_0 : Int) (costOf_0 : Int → Int) (gx : Int) (k3 : 0 ≤ x3 ∧ x3 ≤ 5999) (k5 : 25 ≤ x5 ∧ x5 ≤ 999999) (k6 : 0 ≤ x6 ∧ x6 ≤ 5999) (k7 : 0 ≤ x7 ∧ x7 ≤ 3) (k9 : 0 ≤ x9 ∧ x9 ≤ 1000000) (k10 : 0 ≤ x10 ∧ x10 ≤ 3) (k11 : 0 ≤ x11 ∧ x11 ≤ 999999) (k12 : (-1) ≤ x12 ∧ x12 ≤ (-1)) (k13 : (-2) ≤ x13 ∧ x13 ≤ 1000000) (k14 : 25 ≤ x14 ∧ x14 ≤ 25) (k15 : 26 ≤ x15 ∧ x15 ≤ 1000000) (k16 : 0 ≤ x16 ∧ x16 ≤ 5999) (d0 : x5 + 1 ≤ x15 ∧ x15 ≤ x5 + 1) (d1 : x9 + (-4294967296) ≤ x10 ∧ x10 ≤ x9 + 2) (d2 : x9 + (-4294967296) ≤ x11 ∧ x11 ≤ x9 + 0) (f0 : STQ (wide_0) (tall_0) (barredPoint_0) (x6) (x10) (x16)) (f1 : ((-1) ≤ x16) ∧ ((x16 + 1) ≤ (wide_0 * tall_0))) (f2 : x15 = x5 + 1) (f3 : x14 ≤ x5) (f4 : x10 ≠ x7) (f5 : x12 < 0) (f6 : GRX (wide_0) (tall_0)) (f7 : RTV (wide_0) (tall_0) (barredPoint_0) (costOf_0) (x3)) (f8 : (0 ≤ x3) ∧ ((x3 + 1) ≤ (wide_0 * tall_0))) (f9 : BB2 (wide_0) (tall_0) (barredPoint_0) (costOf_0) (x6) (x7) (x9)) (f10 : (0 ≤ x6) ∧ ((x6 + 1) ≤ (wide_0 * tall_0))) (f11 : (x5 + x9) ≤ 1000000) (f12 : 0 ≤ x5) (f13 : x6 ≠ x3) (f14 : BB3 (wide_0) (tall_0) (barredPoint_0) (costOf_0) (x6) (x7) (x9) (x10) (x11) (x12)) (f15 : (0 ≤ x9) ∧ (x9 ≤ x13)) (f16 : (-1) * x13 + 0 ≤ (-1)) (hK_0_140 : ∀ j : Int, 0 ≤ j → j < 24000 → 0 ≤ costOf_0 j ∧ costOf_0 j ≤ 1000000) (hK_0_143 : ∀ j : Int, 0 ≤ j → j < 6000 → 0 ≤ barredPoint_0 j ∧ barredPoint_0 j ≤ 1) (kz_0_146 : (-2147483648) ≤ wide_0 ∧ wide_0 ≤ 2147483647) (kz_0_147 : (-2147483648) ≤ tall_0 ∧ tall_0 ≤ 2147483647) (ex2 : gx = (-1) + (1 * x13 + 0)) (ex3 : (-2) ≤ gx ∧ gx ≤ 1000000) : 0 ≤ x15 := by
  first
    | omega
    | (have h := bb2_start (t := x13) ‹RTV _ _ _ _ _› ‹BB1 _ _ _ _ _ _ _ _› (by omega) ‹STQ _ _ _ _ _ _› (by omega)
       have h1 := h.1
       have h2 := h.2.2.2.2
       omega)
    | (have h := bb_next ‹RTV _ _ _ _ _› ‹BB2 _ _ _ _ _ _ _› ‹BB3 _ _ _ _ _ _ _ _ _ _› (by omega) (by omega)
       have h1 := h.1.1
       have h2 := h.2
       omega)
set_option maxHeartbeats 4000000 in
theorem vc_Mo_bendsBecome_12_7 (x3 : Int) (x5 : Int) (x6 : Int) (x7 : Int) (x9 : Int) (x10 : Int) (x11 : Int) (x12 : Int) (x13 : Int) (x14 : Int) (x15 : Int) (x16 : Int) (barredPoint_0 : Int → Int) (wide_0 : Int) (tall_0 : Int) (costOf_0 : Int → Int) (gx : Int) (k3 : 0 ≤ x3 ∧ x3 ≤ 5999) (k5 : 25 ≤ x5 ∧ x5 ≤ 999999) (k6 : 0 ≤ x6 ∧ x6 ≤ 5999) (k7 : 0 ≤ x7 ∧ x7 ≤ 3) (k9 : 0 ≤ x9 ∧ x9 ≤ 1000000) (k10 : 0 ≤ x10 ∧ x10 ≤ 3) (k11 : 0 ≤ x11 ∧ x11 ≤ 999999) (k12 : (-1) ≤ x12 ∧ x12 ≤ (-1)) (k13 : (-2) ≤ x13 ∧ x13 ≤ 1000000) (k14 : 25 ≤ x14 ∧ x14 ≤ 25) (k15 : 26 ≤ x15 ∧ x15 ≤ 1000000) (k16 : 0 ≤ x16 ∧ x16 ≤ 5999) (d0 : x5 + 1 ≤ x15 ∧ x15 ≤ x5 + 1) (d1 : x9 + (-4294967296) ≤ x10 ∧ x10 ≤ x9 + 2) (d2 : x9 + (-4294967296) ≤ x11 ∧ x11 ≤ x9 + 0) (f0 : STQ (wide_0) (tall_0) (barredPoint_0) (x6) (x10) (x16)) (f1 : ((-1) ≤ x16) ∧ ((x16 + 1) ≤ (wide_0 * tall_0))) (f2 : x15 = x5 + 1) (f3 : x14 ≤ x5) (f4 : x10 ≠ x7) (f5 : x12 < 0) (f6 : GRX (wide_0) (tall_0)) (f7 : RTV (wide_0) (tall_0) (barredPoint_0) (costOf_0) (x3)) (f8 : (0 ≤ x3) ∧ ((x3 + 1) ≤ (wide_0 * tall_0))) (f9 : BB2 (wide_0) (tall_0) (barredPoint_0) (costOf_0) (x6) (x7) (x9)) (f10 : (0 ≤ x6) ∧ ((x6 + 1) ≤ (wide_0 * tall_0))) (f11 : (x5 + x9) ≤ 1000000) (f12 : 0 ≤ x5) (f13 : x6 ≠ x3) (f14 : BB3 (wide_0) (tall_0) (barredPoint_0) (costOf_0) (x6) (x7) (x9) (x10) (x11) (x12)) (f15 : (0 ≤ x9) ∧ (x9 ≤ x13)) (f16 : (-1) * x13 + 0 ≤ (-1)) (hK_0_140 : ∀ j : Int, 0 ≤ j → j < 24000 → 0 ≤ costOf_0 j ∧ costOf_0 j ≤ 1000000) (hK_0_143 : ∀ j : Int, 0 ≤ j → j < 6000 → 0 ≤ barredPoint_0 j ∧ barredPoint_0 j ≤ 1) (kz_0_146 : (-2147483648) ≤ wide_0 ∧ wide_0 ≤ 2147483647) (kz_0_147 : (-2147483648) ≤ tall_0 ∧ tall_0 ≤ 2147483647) (ex2 : gx = (-1) + (1 * x13 + 0)) (ex3 : (-2) ≤ gx ∧ gx ≤ 1000000) : (0 ≤ x11) ∧ (x11 ≤ gx) := by
  first
    | omega
    | (have h := bb2_start (t := x13) ‹RTV _ _ _ _ _› ‹BB1 _ _ _ _ _ _ _ _› (by omega) ‹STQ _ _ _ _ _ _› (by omega)
       have h1 := h.1
       have h2 := h.2.2.2.2
       omega)
    | (have h := bb_next ‹RTV _ _ _ _ _› ‹BB2 _ _ _ _ _ _ _› ‹BB3 _ _ _ _ _ _ _ _ _ _› (by omega) (by omega)
       have h1 := h.1.1
       have h2 := h.2
       omega)
def o_Mo_bendsBecome_12 : or_T := (112, 17, [(0, (2, 0, 0, [150])), (3, (0, 0, 5999, [])), (5, (0, 25, 999999, [])), (6, (0, 0, 5999, [])), (7, (0, 0, 3, [])), (9, (0, 0, 1000000, [])), (10, (0, 0, 3, [])), (11, (0, 0, 999999, [])), (12, (0, -1, -1, [])), (13, (0, -2, 1000000, [])), (14, (0, 25, 25, [])), (15, (0, 26, 1000000, [])), (16, (0, 0, 5999, []))], [(20, [0, 6, 10, 16], [60, 2, 1, 429, 146, 147, 143]), (20, [16, 0], [50, 2, 0, 1146, 1147, 2, 6, 0, 2, 0, -1, 1, 0, 0, 6, 4, 2, 1, 0, 0, 1, 6, 3, 2, 1, 146, 2, 1, 147]), (6, [15, 5], [1]), (7, [5, 14], [3]), (7, [10, 7], [1]), (8, [12], [2]), (20, [0], [60, 2, 0, 418, 146, 147]), (20, [0, 3], [60, 2, 2, 428, 146, 147, 143, 140]), (20, [3, 0], [50, 2, 0, 1146, 1147, 2, 6, 0, 2, 0, 0, 1, 0, 0, 6, 4, 2, 1, 0, 0, 1, 6, 3, 2, 1, 146, 2, 1, 147]), (20, [0, 6, 7, 9], [60, 2, 2, 431, 146, 147, 143, 140]), (20, [6, 0], [50, 2, 0, 1146, 1147, 2, 6, 0, 2, 0, 0, 1, 0, 0, 6, 4, 2, 1, 0, 0, 1, 6, 3, 2, 1, 146, 2, 1, 147]), (20, [5, 9], [50, 0, 0, 0, 6, 4, 2, 1, 0, 1, 1, 0, 1000000]), (20, [5], [50, 0, 0, 0, 2, 0, 0, 1, 0]), (20, [6, 3], [50, 0, 0, 7, 2, 1, 0, 1, 1]), (20, [0, 6, 7, 9, 10, 11, 12], [60, 2, 2, 432, 146, 147, 143, 140]), (20, [9, 13], [50, 0, 0, 2, 6, 0, 2, 0, 0, 1, 0, 0, 2, 1, 0, 1, 1]), (23, [13], [-1, -1])], [], [(0, -2, 1000000, [])], [(20, [0], [60, 2, 0, 418, 146, 147]), (20, [0, 3], [60, 2, 2, 428, 146, 147, 143, 140]), (20, [3, 0], [50, 2, 0, 1146, 1147, 2, 6, 0, 2, 0, 0, 1, 0, 0, 6, 4, 2, 1, 0, 0, 1, 6, 3, 2, 1, 146, 2, 1, 147]), (20, [0, 16, 10, 11], [60, 2, 2, 431, 146, 147, 143, 140]), (20, [16, 0], [50, 2, 0, 1146, 1147, 2, 6, 0, 2, 0, 0, 1, 0, 0, 6, 4, 2, 1, 0, 0, 1, 6, 3, 2, 1, 146, 2, 1, 147]), (20, [15, 11], [50, 0, 0, 0, 6, 4, 2, 1, 0, 1, 1, 0, 1000000]), (20, [15], [50, 0, 0, 0, 2, 0, 0, 1, 0]), (20, [11, 17], [50, 0, 0, 2, 6, 0, 2, 0, 0, 1, 0, 0, 2, 1, 0, 1, 1])], [(17, 13, -1000000000000, -1)], [(15, 5, 1, 1), (10, 9, -4294967296, 2), (11, 9, -4294967296, 0)])
theorem oo_Mo_bendsBecome_12 {kA : Nat → ClassId} : or_ok PRD kA GG o_Mo_bendsBecome_12 := by
  intro A ta ws vs hD hth hl hk hds hf
  have hl : vs.length = 17 := hl
  have hk : ∀ q ∈ ([(0, (2, 0, 0, [150])), (3, (0, 0, 5999, [])), (5, (0, 25, 999999, [])), (6, (0, 0, 5999, [])), (7, (0, 0, 3, [])), (9, (0, 0, 1000000, [])), (10, (0, 0, 3, [])), (11, (0, 0, 999999, [])), (12, (0, -1, -1, [])), (13, (0, -2, 1000000, [])), (14, (0, 25, 25, [])), (15, (0, 26, 1000000, [])), (16, (0, 0, 5999, []))] : List (Nat × tv_T)), tv_ok ta q.2 (n_v vs q.1) := hk
  obtain ⟨t0, hk⟩ := List.forall_mem_cons.mp hk
  have t0 : tv_ok ta (2, 0, 0, [150]) (n_v vs 0) := t0
  have r0 : ta (v_ad (n_v vs 0)) = some 150 := tv_rg t0
  obtain ⟨t3, hk⟩ := List.forall_mem_cons.mp hk
  have t3 : tv_ok ta (0, 0, 5999, []) (n_v vs 3) := t3
  have k3 : 0 ≤ v_iv (n_v vs 3) ∧ v_iv (n_v vs 3) ≤ 5999 := tv_rng t3
  obtain ⟨t5, hk⟩ := List.forall_mem_cons.mp hk
  have t5 : tv_ok ta (0, 25, 999999, []) (n_v vs 5) := t5
  have k5 : 25 ≤ v_iv (n_v vs 5) ∧ v_iv (n_v vs 5) ≤ 999999 := tv_rng t5
  obtain ⟨t6, hk⟩ := List.forall_mem_cons.mp hk
  have t6 : tv_ok ta (0, 0, 5999, []) (n_v vs 6) := t6
  have k6 : 0 ≤ v_iv (n_v vs 6) ∧ v_iv (n_v vs 6) ≤ 5999 := tv_rng t6
  obtain ⟨t7, hk⟩ := List.forall_mem_cons.mp hk
  have t7 : tv_ok ta (0, 0, 3, []) (n_v vs 7) := t7
  have k7 : 0 ≤ v_iv (n_v vs 7) ∧ v_iv (n_v vs 7) ≤ 3 := tv_rng t7
  obtain ⟨t9, hk⟩ := List.forall_mem_cons.mp hk
  have t9 : tv_ok ta (0, 0, 1000000, []) (n_v vs 9) := t9
  have k9 : 0 ≤ v_iv (n_v vs 9) ∧ v_iv (n_v vs 9) ≤ 1000000 := tv_rng t9
  obtain ⟨t10, hk⟩ := List.forall_mem_cons.mp hk
  have t10 : tv_ok ta (0, 0, 3, []) (n_v vs 10) := t10
  have k10 : 0 ≤ v_iv (n_v vs 10) ∧ v_iv (n_v vs 10) ≤ 3 := tv_rng t10
  obtain ⟨t11, hk⟩ := List.forall_mem_cons.mp hk
  have t11 : tv_ok ta (0, 0, 999999, []) (n_v vs 11) := t11
  have k11 : 0 ≤ v_iv (n_v vs 11) ∧ v_iv (n_v vs 11) ≤ 999999 := tv_rng t11
  obtain ⟨t12, hk⟩ := List.forall_mem_cons.mp hk
  have t12 : tv_ok ta (0, -1, -1, []) (n_v vs 12) := t12
  have k12 : (-1) ≤ v_iv (n_v vs 12) ∧ v_iv (n_v vs 12) ≤ (-1) := tv_rng t12
  obtain ⟨t13, hk⟩ := List.forall_mem_cons.mp hk
  have t13 : tv_ok ta (0, -2, 1000000, []) (n_v vs 13) := t13
  have k13 : (-2) ≤ v_iv (n_v vs 13) ∧ v_iv (n_v vs 13) ≤ 1000000 := tv_rng t13
  obtain ⟨t14, hk⟩ := List.forall_mem_cons.mp hk
  have t14 : tv_ok ta (0, 25, 25, []) (n_v vs 14) := t14
  have k14 : 25 ≤ v_iv (n_v vs 14) ∧ v_iv (n_v vs 14) ≤ 25 := tv_rng t14
  obtain ⟨t15, hk⟩ := List.forall_mem_cons.mp hk
  have t15 : tv_ok ta (0, 26, 1000000, []) (n_v vs 15) := t15
  have k15 : 26 ≤ v_iv (n_v vs 15) ∧ v_iv (n_v vs 15) ≤ 1000000 := tv_rng t15
  obtain ⟨t16, hk⟩ := List.forall_mem_cons.mp hk
  have t16 : tv_ok ta (0, 0, 5999, []) (n_v vs 16) := t16
  have k16 : 0 ≤ v_iv (n_v vs 16) ∧ v_iv (n_v vs 16) ≤ 5999 := tv_rng t16
  have hds : ∀ q ∈ ([(15, 5, 1, 1), (10, 9, -4294967296, 2), (11, 9, -4294967296, 0)] : List of_T), n_iv vs q.2.1 + q.2.2.1 ≤ n_iv vs q.1 ∧ n_iv vs q.1 ≤ n_iv vs q.2.1 + q.2.2.2 := hds
  obtain ⟨d0, hds⟩ := List.forall_mem_cons.mp hds
  have d0 : v_iv (n_v vs 5) + 1 ≤ v_iv (n_v vs 15) ∧ v_iv (n_v vs 15) ≤ v_iv (n_v vs 5) + 1 := d0
  obtain ⟨d1, hds⟩ := List.forall_mem_cons.mp hds
  have d1 : v_iv (n_v vs 9) + (-4294967296) ≤ v_iv (n_v vs 10) ∧ v_iv (n_v vs 10) ≤ v_iv (n_v vs 9) + 2 := d1
  obtain ⟨d2, hds⟩ := List.forall_mem_cons.mp hds
  have d2 : v_iv (n_v vs 9) + (-4294967296) ≤ v_iv (n_v vs 11) ∧ v_iv (n_v vs 11) ≤ v_iv (n_v vs 9) + 0 := d2
  have hf : fc_ok PRD [(20, [0, 6, 10, 16], [60, 2, 1, 429, 146, 147, 143]), (20, [16, 0], [50, 2, 0, 1146, 1147, 2, 6, 0, 2, 0, -1, 1, 0, 0, 6, 4, 2, 1, 0, 0, 1, 6, 3, 2, 1, 146, 2, 1, 147]), (6, [15, 5], [1]), (7, [5, 14], [3]), (7, [10, 7], [1]), (8, [12], [2]), (20, [0], [60, 2, 0, 418, 146, 147]), (20, [0, 3], [60, 2, 2, 428, 146, 147, 143, 140]), (20, [3, 0], [50, 2, 0, 1146, 1147, 2, 6, 0, 2, 0, 0, 1, 0, 0, 6, 4, 2, 1, 0, 0, 1, 6, 3, 2, 1, 146, 2, 1, 147]), (20, [0, 6, 7, 9], [60, 2, 2, 431, 146, 147, 143, 140]), (20, [6, 0], [50, 2, 0, 1146, 1147, 2, 6, 0, 2, 0, 0, 1, 0, 0, 6, 4, 2, 1, 0, 0, 1, 6, 3, 2, 1, 146, 2, 1, 147]), (20, [5, 9], [50, 0, 0, 0, 6, 4, 2, 1, 0, 1, 1, 0, 1000000]), (20, [5], [50, 0, 0, 0, 2, 0, 0, 1, 0]), (20, [6, 3], [50, 0, 0, 7, 2, 1, 0, 1, 1]), (20, [0, 6, 7, 9, 10, 11, 12], [60, 2, 2, 432, 146, 147, 143, 140]), (20, [9, 13], [50, 0, 0, 2, 6, 0, 2, 0, 0, 1, 0, 0, 2, 1, 0, 1, 1]), (23, [13], [-1, -1])] ta ws vs := hf
  obtain ⟨f0, hf⟩ := fc_un (show (20 : Nat) < 100 from by decide) hf
  have f0 : STQ (w_fi ws (n_v vs 0) 146) (w_fi ws (n_v vs 0) 147) (w_ei ws (w_ar ws (n_v vs 0) 143)) (v_iv (n_v vs 6)) (v_iv (n_v vs 10)) (v_iv (n_v vs 16)) := f0
  obtain ⟨f1, hf⟩ := fc_un (show (20 : Nat) < 100 from by decide) hf
  have f1 : ((-1) ≤ v_iv (n_v vs 16)) ∧ ((v_iv (n_v vs 16) + 1) ≤ (w_fi ws (n_v vs 0) 146 * w_fi ws (n_v vs 0) 147)) := f1
  obtain ⟨f2, hf⟩ := fc_un (show (6 : Nat) < 100 from by decide) hf
  have f2 : v_iv (n_v vs 15) = v_iv (n_v vs 5) + 1 := f2
  obtain ⟨f3, hf⟩ := fc_un (show (7 : Nat) < 100 from by decide) hf
  have f3 : v_iv (n_v vs 14) ≤ v_iv (n_v vs 5) := f3
  obtain ⟨f4, hf⟩ := fc_un (show (7 : Nat) < 100 from by decide) hf
  have f4 : v_iv (n_v vs 10) ≠ v_iv (n_v vs 7) := f4
  obtain ⟨f5, hf⟩ := fc_un (show (8 : Nat) < 100 from by decide) hf
  have f5 : v_iv (n_v vs 12) < 0 := f5
  obtain ⟨f6, hf⟩ := fc_un (show (20 : Nat) < 100 from by decide) hf
  have f6 : GRX (w_fi ws (n_v vs 0) 146) (w_fi ws (n_v vs 0) 147) := f6
  obtain ⟨f7, hf⟩ := fc_un (show (20 : Nat) < 100 from by decide) hf
  have f7 : RTV (w_fi ws (n_v vs 0) 146) (w_fi ws (n_v vs 0) 147) (w_ei ws (w_ar ws (n_v vs 0) 143)) (w_ei ws (w_ar ws (n_v vs 0) 140)) (v_iv (n_v vs 3)) := f7
  obtain ⟨f8, hf⟩ := fc_un (show (20 : Nat) < 100 from by decide) hf
  have f8 : (0 ≤ v_iv (n_v vs 3)) ∧ ((v_iv (n_v vs 3) + 1) ≤ (w_fi ws (n_v vs 0) 146 * w_fi ws (n_v vs 0) 147)) := f8
  obtain ⟨f9, hf⟩ := fc_un (show (20 : Nat) < 100 from by decide) hf
  have f9 : BB2 (w_fi ws (n_v vs 0) 146) (w_fi ws (n_v vs 0) 147) (w_ei ws (w_ar ws (n_v vs 0) 143)) (w_ei ws (w_ar ws (n_v vs 0) 140)) (v_iv (n_v vs 6)) (v_iv (n_v vs 7)) (v_iv (n_v vs 9)) := f9
  obtain ⟨f10, hf⟩ := fc_un (show (20 : Nat) < 100 from by decide) hf
  have f10 : (0 ≤ v_iv (n_v vs 6)) ∧ ((v_iv (n_v vs 6) + 1) ≤ (w_fi ws (n_v vs 0) 146 * w_fi ws (n_v vs 0) 147)) := f10
  obtain ⟨f11, hf⟩ := fc_un (show (20 : Nat) < 100 from by decide) hf
  have f11 : (v_iv (n_v vs 5) + v_iv (n_v vs 9)) ≤ 1000000 := f11
  obtain ⟨f12, hf⟩ := fc_un (show (20 : Nat) < 100 from by decide) hf
  have f12 : 0 ≤ v_iv (n_v vs 5) := f12
  obtain ⟨f13, hf⟩ := fc_un (show (20 : Nat) < 100 from by decide) hf
  have f13 : v_iv (n_v vs 6) ≠ v_iv (n_v vs 3) := f13
  obtain ⟨f14, hf⟩ := fc_un (show (20 : Nat) < 100 from by decide) hf
  have f14 : BB3 (w_fi ws (n_v vs 0) 146) (w_fi ws (n_v vs 0) 147) (w_ei ws (w_ar ws (n_v vs 0) 143)) (w_ei ws (w_ar ws (n_v vs 0) 140)) (v_iv (n_v vs 6)) (v_iv (n_v vs 7)) (v_iv (n_v vs 9)) (v_iv (n_v vs 10)) (v_iv (n_v vs 11)) (v_iv (n_v vs 12)) := f14
  obtain ⟨f15, hf⟩ := fc_un (show (20 : Nat) < 100 from by decide) hf
  have f15 : (0 ≤ v_iv (n_v vs 9)) ∧ (v_iv (n_v vs 9) ≤ v_iv (n_v vs 13)) := f15
  obtain ⟨f16, hf⟩ := fc_un (show (23 : Nat) < 100 from by decide) hf
  have f16 : (-1) * v_iv (n_v vs 13) + 0 ≤ (-1) := f16
  have cr_0_140 : ta (w_ar ws (n_v vs 0) 140) = some 251 := tv_rg (th_fd hD hth r0 (g := GG_150) rfl (k := 140) (t := (2, 0, 0, [251])) rfl rfl)
  have cr_0_143 : ta (w_ar ws (n_v vs 0) 143) = some 254 := tv_rg (th_fd hD hth r0 (g := GG_150) rfl (k := 143) (t := (2, 0, 0, [254])) rfl rfl)
  have hK_0_140 : ∀ j : Int, 0 ≤ j → j < 24000 → 0 ≤ w_ei ws (w_ar ws (n_v vs 0) 140) j ∧ w_ei ws (w_ar ws (n_v vs 0) 140) j ≤ 1000000 := fun j h0 h1 => th_el hD hth cr_0_140 (kd := 0) (n := 24000) (m := 24000) (lo := 0) (hi := 1000000) (rs := []) (L := []) rfl (by decide) (j := j.toNat) (by omega)
  have hK_0_143 : ∀ j : Int, 0 ≤ j → j < 6000 → 0 ≤ w_ei ws (w_ar ws (n_v vs 0) 143) j ∧ w_ei ws (w_ar ws (n_v vs 0) 143) j ≤ 1 := fun j h0 h1 => th_el hD hth cr_0_143 (kd := 2) (n := 6000) (m := 6000) (lo := 0) (hi := 1) (rs := []) (L := []) rfl (by decide) (j := j.toNat) (by omega)
  have kz_0_146 : (-2147483648) ≤ w_fi ws (n_v vs 0) 146 ∧ w_fi ws (n_v vs 0) 146 ≤ 2147483647 := tv_rng (th_fd hD hth r0 (g := GG_150) rfl (k := 146) (t := (0, -2147483648, 2147483647, [])) rfl rfl)
  have kz_0_147 : (-2147483648) ≤ w_fi ws (n_v vs 0) 147 ∧ w_fi ws (n_v vs 0) 147 ≤ 2147483647 := tv_rng (th_fd hD hth r0 (g := GG_150) rfl (k := 147) (t := (0, -2147483648, 2147483647, [])) rfl rfl)
  obtain ⟨x, ex, hx⟩ := iv_ex (ta := ta) (lo := (-2)) (hi := 1000000) (z := (-1) + (1 * v_iv (n_v vs 13) + 0)) (by omega) (by omega) (by omega) (by omega)
  have ex2 : v_iv (Value.int x) = (-1) + (1 * v_iv (n_v vs 13) + 0) := ex
  have ex3 : (-2) ≤ v_iv (Value.int x) ∧ v_iv (Value.int x) ≤ 1000000 := tv_rng hx
  have e_0 : n_v (vs ++ [Value.int x]) 0 = n_v vs 0 := n_v_old (by rw [hl]; decide)
  have e_3 : n_v (vs ++ [Value.int x]) 3 = n_v vs 3 := n_v_old (by rw [hl]; decide)
  have e_10 : n_v (vs ++ [Value.int x]) 10 = n_v vs 10 := n_v_old (by rw [hl]; decide)
  have e_11 : n_v (vs ++ [Value.int x]) 11 = n_v vs 11 := n_v_old (by rw [hl]; decide)
  have e_15 : n_v (vs ++ [Value.int x]) 15 = n_v vs 15 := n_v_old (by rw [hl]; decide)
  have e_16 : n_v (vs ++ [Value.int x]) 16 = n_v vs 16 := n_v_old (by rw [hl]; decide)
  have e_17 : n_v (vs ++ [Value.int x]) 17 = Value.int x := n_v_new hl
  have nf0 : fc_1 PRD (20, [0], [60, 2, 0, 418, 146, 147]) ws (vs ++ [Value.int x]) := by
    refine ⟨fun n hn => ?_, ?_⟩
    · have hn : n ∈ [0] := hn
      rw [List.length_append, hl]
      simp only [List.mem_cons, List.not_mem_nil, or_false] at hn
      show n < 17 + 1; omega
    · show GRX (w_fi ws (n_v (vs ++ [Value.int x]) 0) 146) (w_fi ws (n_v (vs ++ [Value.int x]) 0) 147)
      rw [e_0]
      exact vc_Mo_bendsBecome_12_0 (v_iv (n_v vs 3)) (v_iv (n_v vs 5)) (v_iv (n_v vs 6)) (v_iv (n_v vs 7)) (v_iv (n_v vs 9)) (v_iv (n_v vs 10)) (v_iv (n_v vs 11)) (v_iv (n_v vs 12)) (v_iv (n_v vs 13)) (v_iv (n_v vs 14)) (v_iv (n_v vs 15)) (v_iv (n_v vs 16)) (w_ei ws (w_ar ws (n_v vs 0) 143)) (w_fi ws (n_v vs 0) 146) (w_fi ws (n_v vs 0) 147) (w_ei ws (w_ar ws (n_v vs 0) 140)) (v_iv (Value.int x)) k3 k5 k6 k7 k9 k10 k11 k12 k13 k14 k15 k16 d0 d1 d2 f0 f1 f2 f3 f4 f5 f6 f7 f8 f9 f10 f11 f12 f13 f14 f15 f16 hK_0_140 hK_0_143 kz_0_146 kz_0_147 ex2 ex3
  have nf1 : fc_1 PRD (20, [0, 3], [60, 2, 2, 428, 146, 147, 143, 140]) ws (vs ++ [Value.int x]) := by
    refine ⟨fun n hn => ?_, ?_⟩
    · have hn : n ∈ [0, 3] := hn
      rw [List.length_append, hl]
      simp only [List.mem_cons, List.not_mem_nil, or_false] at hn
      show n < 17 + 1; omega
    · show RTV (w_fi ws (n_v (vs ++ [Value.int x]) 0) 146) (w_fi ws (n_v (vs ++ [Value.int x]) 0) 147) (w_ei ws (w_ar ws (n_v (vs ++ [Value.int x]) 0) 143)) (w_ei ws (w_ar ws (n_v (vs ++ [Value.int x]) 0) 140)) (v_iv (n_v (vs ++ [Value.int x]) 3))
      rw [e_0]
      rw [e_3]
      exact vc_Mo_bendsBecome_12_1 (v_iv (n_v vs 3)) (v_iv (n_v vs 5)) (v_iv (n_v vs 6)) (v_iv (n_v vs 7)) (v_iv (n_v vs 9)) (v_iv (n_v vs 10)) (v_iv (n_v vs 11)) (v_iv (n_v vs 12)) (v_iv (n_v vs 13)) (v_iv (n_v vs 14)) (v_iv (n_v vs 15)) (v_iv (n_v vs 16)) (w_ei ws (w_ar ws (n_v vs 0) 143)) (w_fi ws (n_v vs 0) 146) (w_fi ws (n_v vs 0) 147) (w_ei ws (w_ar ws (n_v vs 0) 140)) (v_iv (Value.int x)) k3 k5 k6 k7 k9 k10 k11 k12 k13 k14 k15 k16 d0 d1 d2 f0 f1 f2 f3 f4 f5 f6 f7 f8 f9 f10 f11 f12 f13 f14 f15 f16 hK_0_140 hK_0_143 kz_0_146 kz_0_147 ex2 ex3
  have nf2 : fc_1 PRD (20, [3, 0], [50, 2, 0, 1146, 1147, 2, 6, 0, 2, 0, 0, 1, 0, 0, 6, 4, 2, 1, 0, 0, 1, 6, 3, 2, 1, 146, 2, 1, 147]) ws (vs ++ [Value.int x]) := by
    refine ⟨fun n hn => ?_, ?_⟩
    · have hn : n ∈ [3, 0] := hn
      rw [List.length_append, hl]
      simp only [List.mem_cons, List.not_mem_nil, or_false] at hn
      show n < 17 + 1; omega
    · show (0 ≤ v_iv (n_v (vs ++ [Value.int x]) 3)) ∧ ((v_iv (n_v (vs ++ [Value.int x]) 3) + 1) ≤ (w_fi ws (n_v (vs ++ [Value.int x]) 0) 146 * w_fi ws (n_v (vs ++ [Value.int x]) 0) 147))
      rw [e_0]
      rw [e_3]
      exact vc_Mo_bendsBecome_12_2 (v_iv (n_v vs 3)) (v_iv (n_v vs 5)) (v_iv (n_v vs 6)) (v_iv (n_v vs 7)) (v_iv (n_v vs 9)) (v_iv (n_v vs 10)) (v_iv (n_v vs 11)) (v_iv (n_v vs 12)) (v_iv (n_v vs 13)) (v_iv (n_v vs 14)) (v_iv (n_v vs 15)) (v_iv (n_v vs 16)) (w_ei ws (w_ar ws (n_v vs 0) 143)) (w_fi ws (n_v vs 0) 146) (w_fi ws (n_v vs 0) 147) (w_ei ws (w_ar ws (n_v vs 0) 140)) (v_iv (Value.int x)) k3 k5 k6 k7 k9 k10 k11 k12 k13 k14 k15 k16 d0 d1 d2 f0 f1 f2 f3 f4 f5 f6 f7 f8 f9 f10 f11 f12 f13 f14 f15 f16 hK_0_140 hK_0_143 kz_0_146 kz_0_147 ex2 ex3
  have nf3 : fc_1 PRD (20, [0, 16, 10, 11], [60, 2, 2, 431, 146, 147, 143, 140]) ws (vs ++ [Value.int x]) := by
    refine ⟨fun n hn => ?_, ?_⟩
    · have hn : n ∈ [0, 16, 10, 11] := hn
      rw [List.length_append, hl]
      simp only [List.mem_cons, List.not_mem_nil, or_false] at hn
      show n < 17 + 1; omega
    · show BB2 (w_fi ws (n_v (vs ++ [Value.int x]) 0) 146) (w_fi ws (n_v (vs ++ [Value.int x]) 0) 147) (w_ei ws (w_ar ws (n_v (vs ++ [Value.int x]) 0) 143)) (w_ei ws (w_ar ws (n_v (vs ++ [Value.int x]) 0) 140)) (v_iv (n_v (vs ++ [Value.int x]) 16)) (v_iv (n_v (vs ++ [Value.int x]) 10)) (v_iv (n_v (vs ++ [Value.int x]) 11))
      rw [e_0]
      rw [e_10]
      rw [e_11]
      rw [e_16]
      exact vc_Mo_bendsBecome_12_3 (v_iv (n_v vs 3)) (v_iv (n_v vs 5)) (v_iv (n_v vs 6)) (v_iv (n_v vs 7)) (v_iv (n_v vs 9)) (v_iv (n_v vs 10)) (v_iv (n_v vs 11)) (v_iv (n_v vs 12)) (v_iv (n_v vs 13)) (v_iv (n_v vs 14)) (v_iv (n_v vs 15)) (v_iv (n_v vs 16)) (w_ei ws (w_ar ws (n_v vs 0) 143)) (w_fi ws (n_v vs 0) 146) (w_fi ws (n_v vs 0) 147) (w_ei ws (w_ar ws (n_v vs 0) 140)) (v_iv (Value.int x)) k3 k5 k6 k7 k9 k10 k11 k12 k13 k14 k15 k16 d0 d1 d2 f0 f1 f2 f3 f4 f5 f6 f7 f8 f9 f10 f11 f12 f13 f14 f15 f16 hK_0_140 hK_0_143 kz_0_146 kz_0_147 ex2 ex3
  have nf4 : fc_1 PRD (20, [16, 0], [50, 2, 0, 1146, 1147, 2, 6, 0, 2, 0, 0, 1, 0, 0, 6, 4, 2, 1, 0, 0, 1, 6, 3, 2, 1, 146, 2, 1, 147]) ws (vs ++ [Value.int x]) := by
    refine ⟨fun n hn => ?_, ?_⟩
    · have hn : n ∈ [16, 0] := hn
      rw [List.length_append, hl]
      simp only [List.mem_cons, List.not_mem_nil, or_false] at hn
      show n < 17 + 1; omega
    · show (0 ≤ v_iv (n_v (vs ++ [Value.int x]) 16)) ∧ ((v_iv (n_v (vs ++ [Value.int x]) 16) + 1) ≤ (w_fi ws (n_v (vs ++ [Value.int x]) 0) 146 * w_fi ws (n_v (vs ++ [Value.int x]) 0) 147))
      rw [e_0]
      rw [e_16]
      exact vc_Mo_bendsBecome_12_4 (v_iv (n_v vs 3)) (v_iv (n_v vs 5)) (v_iv (n_v vs 6)) (v_iv (n_v vs 7)) (v_iv (n_v vs 9)) (v_iv (n_v vs 10)) (v_iv (n_v vs 11)) (v_iv (n_v vs 12)) (v_iv (n_v vs 13)) (v_iv (n_v vs 14)) (v_iv (n_v vs 15)) (v_iv (n_v vs 16)) (w_ei ws (w_ar ws (n_v vs 0) 143)) (w_fi ws (n_v vs 0) 146) (w_fi ws (n_v vs 0) 147) (w_ei ws (w_ar ws (n_v vs 0) 140)) (v_iv (Value.int x)) k3 k5 k6 k7 k9 k10 k11 k12 k13 k14 k15 k16 d0 d1 d2 f0 f1 f2 f3 f4 f5 f6 f7 f8 f9 f10 f11 f12 f13 f14 f15 f16 hK_0_140 hK_0_143 kz_0_146 kz_0_147 ex2 ex3
  have nf5 : fc_1 PRD (20, [15, 11], [50, 0, 0, 0, 6, 4, 2, 1, 0, 1, 1, 0, 1000000]) ws (vs ++ [Value.int x]) := by
    refine ⟨fun n hn => ?_, ?_⟩
    · have hn : n ∈ [15, 11] := hn
      rw [List.length_append, hl]
      simp only [List.mem_cons, List.not_mem_nil, or_false] at hn
      show n < 17 + 1; omega
    · show (v_iv (n_v (vs ++ [Value.int x]) 15) + v_iv (n_v (vs ++ [Value.int x]) 11)) ≤ 1000000
      rw [e_11]
      rw [e_15]
      exact vc_Mo_bendsBecome_12_5 (v_iv (n_v vs 3)) (v_iv (n_v vs 5)) (v_iv (n_v vs 6)) (v_iv (n_v vs 7)) (v_iv (n_v vs 9)) (v_iv (n_v vs 10)) (v_iv (n_v vs 11)) (v_iv (n_v vs 12)) (v_iv (n_v vs 13)) (v_iv (n_v vs 14)) (v_iv (n_v vs 15)) (v_iv (n_v vs 16)) (w_ei ws (w_ar ws (n_v vs 0) 143)) (w_fi ws (n_v vs 0) 146) (w_fi ws (n_v vs 0) 147) (w_ei ws (w_ar ws (n_v vs 0) 140)) (v_iv (Value.int x)) k3 k5 k6 k7 k9 k10 k11 k12 k13 k14 k15 k16 d0 d1 d2 f0 f1 f2 f3 f4 f5 f6 f7 f8 f9 f10 f11 f12 f13 f14 f15 f16 hK_0_140 hK_0_143 kz_0_146 kz_0_147 ex2 ex3
  have nf6 : fc_1 PRD (20, [15], [50, 0, 0, 0, 2, 0, 0, 1, 0]) ws (vs ++ [Value.int x]) := by
    refine ⟨fun n hn => ?_, ?_⟩
    · have hn : n ∈ [15] := hn
      rw [List.length_append, hl]
      simp only [List.mem_cons, List.not_mem_nil, or_false] at hn
      show n < 17 + 1; omega
    · show 0 ≤ v_iv (n_v (vs ++ [Value.int x]) 15)
      rw [e_15]
      exact vc_Mo_bendsBecome_12_6 (v_iv (n_v vs 3)) (v_iv (n_v vs 5)) (v_iv (n_v vs 6)) (v_iv (n_v vs 7)) (v_iv (n_v vs 9)) (v_iv (n_v vs 10)) (v_iv (n_v vs 11)) (v_iv (n_v vs 12)) (v_iv (n_v vs 13)) (v_iv (n_v vs 14)) (v_iv (n_v vs 15)) (v_iv (n_v vs 16)) (w_ei ws (w_ar ws (n_v vs 0) 143)) (w_fi ws (n_v vs 0) 146) (w_fi ws (n_v vs 0) 147) (w_ei ws (w_ar ws (n_v vs 0) 140)) (v_iv (Value.int x)) k3 k5 k6 k7 k9 k10 k11 k12 k13 k14 k15 k16 d0 d1 d2 f0 f1 f2 f3 f4 f5 f6 f7 f8 f9 f10 f11 f12 f13 f14 f15 f16 hK_0_140 hK_0_143 kz_0_146 kz_0_147 ex2 ex3
  have nf7 : fc_1 PRD (20, [11, 17], [50, 0, 0, 2, 6, 0, 2, 0, 0, 1, 0, 0, 2, 1, 0, 1, 1]) ws (vs ++ [Value.int x]) := by
    refine ⟨fun n hn => ?_, ?_⟩
    · have hn : n ∈ [11, 17] := hn
      rw [List.length_append, hl]
      simp only [List.mem_cons, List.not_mem_nil, or_false] at hn
      show n < 17 + 1; omega
    · show (0 ≤ v_iv (n_v (vs ++ [Value.int x]) 11)) ∧ (v_iv (n_v (vs ++ [Value.int x]) 11) ≤ v_iv (n_v (vs ++ [Value.int x]) 17))
      rw [e_11]
      rw [e_17]
      exact vc_Mo_bendsBecome_12_7 (v_iv (n_v vs 3)) (v_iv (n_v vs 5)) (v_iv (n_v vs 6)) (v_iv (n_v vs 7)) (v_iv (n_v vs 9)) (v_iv (n_v vs 10)) (v_iv (n_v vs 11)) (v_iv (n_v vs 12)) (v_iv (n_v vs 13)) (v_iv (n_v vs 14)) (v_iv (n_v vs 15)) (v_iv (n_v vs 16)) (w_ei ws (w_ar ws (n_v vs 0) 143)) (w_fi ws (n_v vs 0) 146) (w_fi ws (n_v vs 0) 147) (w_ei ws (w_ar ws (n_v vs 0) 140)) (v_iv (Value.int x)) k3 k5 k6 k7 k9 k10 k11 k12 k13 k14 k15 k16 d0 d1 d2 f0 f1 f2 f3 f4 f5 f6 f7 f8 f9 f10 f11 f12 f13 f14 f15 f16 hK_0_140 hK_0_143 kz_0_146 kz_0_147 ex2 ex3
  obtain ⟨x0, e0, _, _⟩ := tv_int t13 rfl
  have e1 : v_iv (n_v vs 13) = x0.toInt := by rw [e0]; rfl
  have ho : sy_ofs (vs ++ [Value.int x]) (17, 13, -1000000000000, -1) := by
    refine ⟨x, x0, by rw [List.getElem?_append_right (by rw [hl]; decide), hl]; rfl, ?_, ?_, ?_⟩
    · rw [List.getElem?_append_left (by rw [hl]; decide)]; exact n_v_some (by rw [hl]; decide) e0
    · show x0.toInt + (-1000000000000) ≤ x.toInt; omega
    · show x.toInt ≤ x0.toInt + (-1); omega
  exact ⟨(fun _ h => (by cases h)), [Value.int x], ag_one hx, List.forall_mem_cons.mpr ⟨⟨show (20 : Nat) < 100 from by decide, nf0⟩, List.forall_mem_cons.mpr ⟨⟨show (20 : Nat) < 100 from by decide, nf1⟩, List.forall_mem_cons.mpr ⟨⟨show (20 : Nat) < 100 from by decide, nf2⟩, List.forall_mem_cons.mpr ⟨⟨show (20 : Nat) < 100 from by decide, nf3⟩, List.forall_mem_cons.mpr ⟨⟨show (20 : Nat) < 100 from by decide, nf4⟩, List.forall_mem_cons.mpr ⟨⟨show (20 : Nat) < 100 from by decide, nf5⟩, List.forall_mem_cons.mpr ⟨⟨show (20 : Nat) < 100 from by decide, nf6⟩, List.forall_mem_cons.mpr ⟨⟨show (20 : Nat) < 100 from by decide, nf7⟩, (fun _ h => (by cases h))⟩⟩⟩⟩⟩⟩⟩⟩, List.forall_mem_cons.mpr ⟨ho, (fun _ h => (by cases h))⟩⟩
set_option maxHeartbeats 4000000 in
theorem vc_Mo_bendsBecome_13_r0 (x3 : Int) (x5 : Int) (x6 : Int) (x7 : Int) (x9 : Int) (x10 : Int) (x11 : Int) (x12 : Int) (x13 : Int) (x14 : Int) (x17 : Int) (wide_0 : Int) (tall_0 : Int) (barredPoint_0 : Int → Int) (costOf_0 : Int → Int) (k3 : 0 ≤ x3 ∧ x3 ≤ 5999) (k5 : 0 ≤ x5 ∧ x5 ≤ 24) (k6 : 0 ≤ x6 ∧ x6 ≤ 5999) (k7 : 0 ≤ x7 ∧ x7 ≤ 3) (k9 : 0 ≤ x9 ∧ x9 ≤ 1000000) (k10 : (-1) ≤ x10 ∧ x10 ≤ 3) (k11 : 0 ≤ x11 ∧ x11 ≤ 999999) (k12 : (-1) ≤ x12 ∧ x12 ≤ (-1)) (k13 : (-2) ≤ x13 ∧ x13 ≤ 1000000) (k14 : 25 ≤ x14 ∧ x14 ≤ 25) (k17 : (-2147483648) ≤ x17 ∧ x17 ≤ 2147483647) (d0 : x9 + (-4294967296) ≤ x10 ∧ x10 ≤ x9 + 2) (d1 : x9 + (-4294967296) ≤ x11 ∧ x11 ≤ x9 + 0) (g0 : x17 = wide_0) (f1 : x5 < x14) (f2 : x10 ≠ x7) (f3 : x12 < 0) (f4 : GRX (wide_0) (tall_0)) (f5 : RTV (wide_0) (tall_0) (barredPoint_0) (costOf_0) (x3)) (f6 : (0 ≤ x3) ∧ ((x3 + 1) ≤ (wide_0 * tall_0))) (f7 : BB2 (wide_0) (tall_0) (barredPoint_0) (costOf_0) (x6) (x7) (x9)) (f8 : (0 ≤ x6) ∧ ((x6 + 1) ≤ (wide_0 * tall_0))) (f9 : (x5 + x9) ≤ 1000000) (f10 : 0 ≤ x5) (f11 : x6 ≠ x3) (f12 : BB3 (wide_0) (tall_0) (barredPoint_0) (costOf_0) (x6) (x7) (x9) (x10) (x11) (x12)) (f13 : (0 ≤ x9) ∧ (x9 ≤ x13)) (f14 : (-1) * x13 + 0 ≤ (-1)) (hK_0_140 : ∀ j : Int, 0 ≤ j → j < 24000 → 0 ≤ costOf_0 j ∧ costOf_0 j ≤ 1000000) (hK_0_143 : ∀ j : Int, 0 ≤ j → j < 6000 → 0 ≤ barredPoint_0 j ∧ barredPoint_0 j ≤ 1) (kz_0_146 : (-2147483648) ≤ wide_0 ∧ wide_0 ≤ 2147483647) (kz_0_147 : (-2147483648) ≤ tall_0 ∧ tall_0 ≤ 2147483647) : 1 ≤ x17 ∧ x17 ≤ 6000 := by
  first
    | omega
    | (have g := gok_bd ‹GRX _ _›; omega)
    | (have h := bb_next ‹RTV _ _ _ _ _› ‹BB2 _ _ _ _ _ _ _› ‹BB3 _ _ _ _ _ _ _ _ _ _› (by omega) (by omega)
       have h1 := h.1.1
       have h2 := h.2
       omega)
    | (obtain ⟨⟨mf, q, n1, n2, n3, n4⟩, u0, u1⟩ := bb_next ‹RTV _ _ _ _ _› ‹BB2 _ _ _ _ _ _ _› ‹BB3 _ _ _ _ _ _ _ _ _ _› (by omega) (by omega)
       have e := ‹STQ _ _ _ _ _ _›.2.2 q n1 n2
       have i := nb_in n1 (by have g := gok_bd ‹GRX _ _›; omega)
       have g3 := ‹GRX _ _›.2.2
       omega)
def o_Mo_bendsBecome_13 : or_T := (231, 18, [(0, (2, 0, 0, [150])), (3, (0, 0, 5999, [])), (5, (0, 0, 24, [])), (6, (0, 0, 5999, [])), (7, (0, 0, 3, [])), (9, (0, 0, 1000000, [])), (10, (0, -1, 3, [])), (11, (0, 0, 999999, [])), (12, (0, -1, -1, [])), (13, (0, -2, 1000000, [])), (14, (0, 25, 25, [])), (17, (0, -2147483648, 2147483647, []))], [(9, [17, 0], [146]), (7, [5, 14], [2]), (7, [10, 7], [1]), (8, [12], [2]), (20, [0], [60, 2, 0, 418, 146, 147]), (20, [0, 3], [60, 2, 2, 428, 146, 147, 143, 140]), (20, [3, 0], [50, 2, 0, 1146, 1147, 2, 6, 0, 2, 0, 0, 1, 0, 0, 6, 4, 2, 1, 0, 0, 1, 6, 3, 2, 1, 146, 2, 1, 147]), (20, [0, 6, 7, 9], [60, 2, 2, 431, 146, 147, 143, 140]), (20, [6, 0], [50, 2, 0, 1146, 1147, 2, 6, 0, 2, 0, 0, 1, 0, 0, 6, 4, 2, 1, 0, 0, 1, 6, 3, 2, 1, 146, 2, 1, 147]), (20, [5, 9], [50, 0, 0, 0, 6, 4, 2, 1, 0, 1, 1, 0, 1000000]), (20, [5], [50, 0, 0, 0, 2, 0, 0, 1, 0]), (20, [6, 3], [50, 0, 0, 7, 2, 1, 0, 1, 1]), (20, [0, 6, 7, 9, 10, 11, 12], [60, 2, 2, 432, 146, 147, 143, 140]), (20, [9, 13], [50, 0, 0, 2, 6, 0, 2, 0, 0, 1, 0, 0, 2, 1, 0, 1, 1]), (23, [13], [-1, -1])], [(17, (0, 1, 6000, []))], [], [], [], [(10, 9, -4294967296, 2), (11, 9, -4294967296, 0)])
theorem oo_Mo_bendsBecome_13 {kA : Nat → ClassId} : or_ok PRD kA GG o_Mo_bendsBecome_13 := by
  intro A ta ws vs hD hth hl hk hds hf
  have hl : vs.length = 18 := hl
  have hk : ∀ q ∈ ([(0, (2, 0, 0, [150])), (3, (0, 0, 5999, [])), (5, (0, 0, 24, [])), (6, (0, 0, 5999, [])), (7, (0, 0, 3, [])), (9, (0, 0, 1000000, [])), (10, (0, -1, 3, [])), (11, (0, 0, 999999, [])), (12, (0, -1, -1, [])), (13, (0, -2, 1000000, [])), (14, (0, 25, 25, [])), (17, (0, -2147483648, 2147483647, []))] : List (Nat × tv_T)), tv_ok ta q.2 (n_v vs q.1) := hk
  obtain ⟨t0, hk⟩ := List.forall_mem_cons.mp hk
  have t0 : tv_ok ta (2, 0, 0, [150]) (n_v vs 0) := t0
  have r0 : ta (v_ad (n_v vs 0)) = some 150 := tv_rg t0
  obtain ⟨t3, hk⟩ := List.forall_mem_cons.mp hk
  have t3 : tv_ok ta (0, 0, 5999, []) (n_v vs 3) := t3
  have k3 : 0 ≤ v_iv (n_v vs 3) ∧ v_iv (n_v vs 3) ≤ 5999 := tv_rng t3
  obtain ⟨t5, hk⟩ := List.forall_mem_cons.mp hk
  have t5 : tv_ok ta (0, 0, 24, []) (n_v vs 5) := t5
  have k5 : 0 ≤ v_iv (n_v vs 5) ∧ v_iv (n_v vs 5) ≤ 24 := tv_rng t5
  obtain ⟨t6, hk⟩ := List.forall_mem_cons.mp hk
  have t6 : tv_ok ta (0, 0, 5999, []) (n_v vs 6) := t6
  have k6 : 0 ≤ v_iv (n_v vs 6) ∧ v_iv (n_v vs 6) ≤ 5999 := tv_rng t6
  obtain ⟨t7, hk⟩ := List.forall_mem_cons.mp hk
  have t7 : tv_ok ta (0, 0, 3, []) (n_v vs 7) := t7
  have k7 : 0 ≤ v_iv (n_v vs 7) ∧ v_iv (n_v vs 7) ≤ 3 := tv_rng t7
  obtain ⟨t9, hk⟩ := List.forall_mem_cons.mp hk
  have t9 : tv_ok ta (0, 0, 1000000, []) (n_v vs 9) := t9
  have k9 : 0 ≤ v_iv (n_v vs 9) ∧ v_iv (n_v vs 9) ≤ 1000000 := tv_rng t9
  obtain ⟨t10, hk⟩ := List.forall_mem_cons.mp hk
  have t10 : tv_ok ta (0, -1, 3, []) (n_v vs 10) := t10
  have k10 : (-1) ≤ v_iv (n_v vs 10) ∧ v_iv (n_v vs 10) ≤ 3 := tv_rng t10
  obtain ⟨t11, hk⟩ := List.forall_mem_cons.mp hk
  have t11 : tv_ok ta (0, 0, 999999, []) (n_v vs 11) := t11
  have k11 : 0 ≤ v_iv (n_v vs 11) ∧ v_iv (n_v vs 11) ≤ 999999 := tv_rng t11
  obtain ⟨t12, hk⟩ := List.forall_mem_cons.mp hk
  have t12 : tv_ok ta (0, -1, -1, []) (n_v vs 12) := t12
  have k12 : (-1) ≤ v_iv (n_v vs 12) ∧ v_iv (n_v vs 12) ≤ (-1) := tv_rng t12
  obtain ⟨t13, hk⟩ := List.forall_mem_cons.mp hk
  have t13 : tv_ok ta (0, -2, 1000000, []) (n_v vs 13) := t13
  have k13 : (-2) ≤ v_iv (n_v vs 13) ∧ v_iv (n_v vs 13) ≤ 1000000 := tv_rng t13
  obtain ⟨t14, hk⟩ := List.forall_mem_cons.mp hk
  have t14 : tv_ok ta (0, 25, 25, []) (n_v vs 14) := t14
  have k14 : 25 ≤ v_iv (n_v vs 14) ∧ v_iv (n_v vs 14) ≤ 25 := tv_rng t14
  obtain ⟨t17, hk⟩ := List.forall_mem_cons.mp hk
  have t17 : tv_ok ta (0, -2147483648, 2147483647, []) (n_v vs 17) := t17
  have k17 : (-2147483648) ≤ v_iv (n_v vs 17) ∧ v_iv (n_v vs 17) ≤ 2147483647 := tv_rng t17
  have hds : ∀ q ∈ ([(10, 9, -4294967296, 2), (11, 9, -4294967296, 0)] : List of_T), n_iv vs q.2.1 + q.2.2.1 ≤ n_iv vs q.1 ∧ n_iv vs q.1 ≤ n_iv vs q.2.1 + q.2.2.2 := hds
  obtain ⟨d0, hds⟩ := List.forall_mem_cons.mp hds
  have d0 : v_iv (n_v vs 9) + (-4294967296) ≤ v_iv (n_v vs 10) ∧ v_iv (n_v vs 10) ≤ v_iv (n_v vs 9) + 2 := d0
  obtain ⟨d1, hds⟩ := List.forall_mem_cons.mp hds
  have d1 : v_iv (n_v vs 9) + (-4294967296) ≤ v_iv (n_v vs 11) ∧ v_iv (n_v vs 11) ≤ v_iv (n_v vs 9) + 0 := d1
  have hf : fc_ok PRD [(9, [17, 0], [146]), (7, [5, 14], [2]), (7, [10, 7], [1]), (8, [12], [2]), (20, [0], [60, 2, 0, 418, 146, 147]), (20, [0, 3], [60, 2, 2, 428, 146, 147, 143, 140]), (20, [3, 0], [50, 2, 0, 1146, 1147, 2, 6, 0, 2, 0, 0, 1, 0, 0, 6, 4, 2, 1, 0, 0, 1, 6, 3, 2, 1, 146, 2, 1, 147]), (20, [0, 6, 7, 9], [60, 2, 2, 431, 146, 147, 143, 140]), (20, [6, 0], [50, 2, 0, 1146, 1147, 2, 6, 0, 2, 0, 0, 1, 0, 0, 6, 4, 2, 1, 0, 0, 1, 6, 3, 2, 1, 146, 2, 1, 147]), (20, [5, 9], [50, 0, 0, 0, 6, 4, 2, 1, 0, 1, 1, 0, 1000000]), (20, [5], [50, 0, 0, 0, 2, 0, 0, 1, 0]), (20, [6, 3], [50, 0, 0, 7, 2, 1, 0, 1, 1]), (20, [0, 6, 7, 9, 10, 11, 12], [60, 2, 2, 432, 146, 147, 143, 140]), (20, [9, 13], [50, 0, 0, 2, 6, 0, 2, 0, 0, 1, 0, 0, 2, 1, 0, 1, 1]), (23, [13], [-1, -1])] ta ws vs := hf
  obtain ⟨f0, hf⟩ := fc_un (show (9 : Nat) < 100 from by decide) hf
  have f0 : n_v vs 17 = w_fd ws (v_ad (n_v vs 0)) 146 := f0
  obtain ⟨f1, hf⟩ := fc_un (show (7 : Nat) < 100 from by decide) hf
  have f1 : v_iv (n_v vs 5) < v_iv (n_v vs 14) := f1
  obtain ⟨f2, hf⟩ := fc_un (show (7 : Nat) < 100 from by decide) hf
  have f2 : v_iv (n_v vs 10) ≠ v_iv (n_v vs 7) := f2
  obtain ⟨f3, hf⟩ := fc_un (show (8 : Nat) < 100 from by decide) hf
  have f3 : v_iv (n_v vs 12) < 0 := f3
  obtain ⟨f4, hf⟩ := fc_un (show (20 : Nat) < 100 from by decide) hf
  have f4 : GRX (w_fi ws (n_v vs 0) 146) (w_fi ws (n_v vs 0) 147) := f4
  obtain ⟨f5, hf⟩ := fc_un (show (20 : Nat) < 100 from by decide) hf
  have f5 : RTV (w_fi ws (n_v vs 0) 146) (w_fi ws (n_v vs 0) 147) (w_ei ws (w_ar ws (n_v vs 0) 143)) (w_ei ws (w_ar ws (n_v vs 0) 140)) (v_iv (n_v vs 3)) := f5
  obtain ⟨f6, hf⟩ := fc_un (show (20 : Nat) < 100 from by decide) hf
  have f6 : (0 ≤ v_iv (n_v vs 3)) ∧ ((v_iv (n_v vs 3) + 1) ≤ (w_fi ws (n_v vs 0) 146 * w_fi ws (n_v vs 0) 147)) := f6
  obtain ⟨f7, hf⟩ := fc_un (show (20 : Nat) < 100 from by decide) hf
  have f7 : BB2 (w_fi ws (n_v vs 0) 146) (w_fi ws (n_v vs 0) 147) (w_ei ws (w_ar ws (n_v vs 0) 143)) (w_ei ws (w_ar ws (n_v vs 0) 140)) (v_iv (n_v vs 6)) (v_iv (n_v vs 7)) (v_iv (n_v vs 9)) := f7
  obtain ⟨f8, hf⟩ := fc_un (show (20 : Nat) < 100 from by decide) hf
  have f8 : (0 ≤ v_iv (n_v vs 6)) ∧ ((v_iv (n_v vs 6) + 1) ≤ (w_fi ws (n_v vs 0) 146 * w_fi ws (n_v vs 0) 147)) := f8
  obtain ⟨f9, hf⟩ := fc_un (show (20 : Nat) < 100 from by decide) hf
  have f9 : (v_iv (n_v vs 5) + v_iv (n_v vs 9)) ≤ 1000000 := f9
  obtain ⟨f10, hf⟩ := fc_un (show (20 : Nat) < 100 from by decide) hf
  have f10 : 0 ≤ v_iv (n_v vs 5) := f10
  obtain ⟨f11, hf⟩ := fc_un (show (20 : Nat) < 100 from by decide) hf
  have f11 : v_iv (n_v vs 6) ≠ v_iv (n_v vs 3) := f11
  obtain ⟨f12, hf⟩ := fc_un (show (20 : Nat) < 100 from by decide) hf
  have f12 : BB3 (w_fi ws (n_v vs 0) 146) (w_fi ws (n_v vs 0) 147) (w_ei ws (w_ar ws (n_v vs 0) 143)) (w_ei ws (w_ar ws (n_v vs 0) 140)) (v_iv (n_v vs 6)) (v_iv (n_v vs 7)) (v_iv (n_v vs 9)) (v_iv (n_v vs 10)) (v_iv (n_v vs 11)) (v_iv (n_v vs 12)) := f12
  obtain ⟨f13, hf⟩ := fc_un (show (20 : Nat) < 100 from by decide) hf
  have f13 : (0 ≤ v_iv (n_v vs 9)) ∧ (v_iv (n_v vs 9) ≤ v_iv (n_v vs 13)) := f13
  obtain ⟨f14, hf⟩ := fc_un (show (23 : Nat) < 100 from by decide) hf
  have f14 : (-1) * v_iv (n_v vs 13) + 0 ≤ (-1) := f14
  have cr_0_140 : ta (w_ar ws (n_v vs 0) 140) = some 251 := tv_rg (th_fd hD hth r0 (g := GG_150) rfl (k := 140) (t := (2, 0, 0, [251])) rfl rfl)
  have cr_0_143 : ta (w_ar ws (n_v vs 0) 143) = some 254 := tv_rg (th_fd hD hth r0 (g := GG_150) rfl (k := 143) (t := (2, 0, 0, [254])) rfl rfl)
  have g0 : v_iv (n_v vs 17) = w_fi ws (n_v vs 0) 146 := congrArg v_iv f0
  have hK_0_140 : ∀ j : Int, 0 ≤ j → j < 24000 → 0 ≤ w_ei ws (w_ar ws (n_v vs 0) 140) j ∧ w_ei ws (w_ar ws (n_v vs 0) 140) j ≤ 1000000 := fun j h0 h1 => th_el hD hth cr_0_140 (kd := 0) (n := 24000) (m := 24000) (lo := 0) (hi := 1000000) (rs := []) (L := []) rfl (by decide) (j := j.toNat) (by omega)
  have hK_0_143 : ∀ j : Int, 0 ≤ j → j < 6000 → 0 ≤ w_ei ws (w_ar ws (n_v vs 0) 143) j ∧ w_ei ws (w_ar ws (n_v vs 0) 143) j ≤ 1 := fun j h0 h1 => th_el hD hth cr_0_143 (kd := 2) (n := 6000) (m := 6000) (lo := 0) (hi := 1) (rs := []) (L := []) rfl (by decide) (j := j.toNat) (by omega)
  have kz_0_146 : (-2147483648) ≤ w_fi ws (n_v vs 0) 146 ∧ w_fi ws (n_v vs 0) 146 ≤ 2147483647 := tv_rng (th_fd hD hth r0 (g := GG_150) rfl (k := 146) (t := (0, -2147483648, 2147483647, [])) rfl rfl)
  have kz_0_147 : (-2147483648) ≤ w_fi ws (n_v vs 0) 147 ∧ w_fi ws (n_v vs 0) 147 ≤ 2147483647 := tv_rng (th_fd hD hth r0 (g := GG_150) rfl (k := 147) (t := (0, -2147483648, 2147483647, [])) rfl rfl)
  have hrf0 : 1 ≤ v_iv (n_v vs 17) ∧ v_iv (n_v vs 17) ≤ 6000 := vc_Mo_bendsBecome_13_r0 (v_iv (n_v vs 3)) (v_iv (n_v vs 5)) (v_iv (n_v vs 6)) (v_iv (n_v vs 7)) (v_iv (n_v vs 9)) (v_iv (n_v vs 10)) (v_iv (n_v vs 11)) (v_iv (n_v vs 12)) (v_iv (n_v vs 13)) (v_iv (n_v vs 14)) (v_iv (n_v vs 17)) (w_fi ws (n_v vs 0) 146) (w_fi ws (n_v vs 0) 147) (w_ei ws (w_ar ws (n_v vs 0) 143)) (w_ei ws (w_ar ws (n_v vs 0) 140)) k3 k5 k6 k7 k9 k10 k11 k12 k13 k14 k17 d0 d1 g0 f1 f2 f3 f4 f5 f6 f7 f8 f9 f10 f11 f12 f13 f14 hK_0_140 hK_0_143 kz_0_146 kz_0_147
  have rf17 : tv_ok ta (0, 1, 6000, []) (n_v vs 17) := tv_in t17 (by first | omega | grind) (by first | omega | grind)
  refine ⟨List.forall_mem_cons.mpr ⟨rf17, (fun _ h => (by cases h))⟩, [], trivial, ?_, (fun _ h => (by cases h))⟩
  rw [List.append_nil]
  exact (fun _ h => (by cases h))
set_option maxHeartbeats 4000000 in
theorem vc_Mo_bendsBecome_14_r0 (x3 : Int) (x5 : Int) (x6 : Int) (x7 : Int) (x9 : Int) (x10 : Int) (x11 : Int) (x12 : Int) (x13 : Int) (x14 : Int) (x17 : Int) (x18 : Int) (x22 : Int) (x24 : Int) (wide_0 : Int) (tall_0 : Int) (barredPoint_0 : Int → Int) (costOf_0 : Int → Int) (wide_1 : Int) (tall_1 : Int) (barredPoint_1 : Int → Int) (costOf_1 : Int → Int) (wide_2 : Int) (tall_2 : Int) (barredPoint_2 : Int → Int) (costOf_2 : Int → Int) (turnX_0 : Int → Int) (turnX_1 : Int → Int) (turnX_2 : Int → Int) (x19 : Int) (turnY_0 : Int → Int) (turnY_1 : Int → Int) (x23 : Int) (turnY_2 : Int → Int) (k3 : 0 ≤ x3 ∧ x3 ≤ 5999) (k5 : 0 ≤ x5 ∧ x5 ≤ 24) (k6 : 0 ≤ x6 ∧ x6 ≤ 5999) (k7 : 0 ≤ x7 ∧ x7 ≤ 3) (k9 : 0 ≤ x9 ∧ x9 ≤ 1000000) (k10 : (-1) ≤ x10 ∧ x10 ≤ 3) (k11 : 0 ≤ x11 ∧ x11 ≤ 999999) (k12 : (-1) ≤ x12 ∧ x12 ≤ (-1)) (k13 : (-2) ≤ x13 ∧ x13 ≤ 1000000) (k14 : 25 ≤ x14 ∧ x14 ≤ 25) (k17 : 1 ≤ x17 ∧ x17 ≤ 6000) (k18 : 0 ≤ x18 ∧ x18 ≤ 5999) (k22 : 0 ≤ x22 ∧ x22 ≤ 5999) (k24 : 1 ≤ x24 ∧ x24 ≤ 25) (d0 : x5 + 1 ≤ x24 ∧ x24 ≤ x5 + 1) (d1 : x17 + (-4294967295) ≤ x18 ∧ x18 ≤ x17 + (-1)) (d2 : x9 + (-4294967296) ≤ x10 ∧ x10 ≤ x9 + 2) (d3 : x9 + (-4294967296) ≤ x11 ∧ x11 ≤ x9 + 0) (f0 : x24 = x5 + 1) (f1 : GRX (wide_0) (tall_0)) (f2 : RTV (wide_0) (tall_0) (barredPoint_0) (costOf_0) (x3)) (f3 : (0 ≤ x3) ∧ ((x3 + 1) ≤ (wide_0 * tall_0))) (f4 : BB2 (wide_0) (tall_0) (barredPoint_0) (costOf_0) (x6) (x7) (x9)) (f5 : (0 ≤ x6) ∧ ((x6 + 1) ≤ (wide_0 * tall_0))) (f6 : (x5 + x9) ≤ 1000000) (f7 : 0 ≤ x5) (f8 : x6 ≠ x3) (f9 : BB3 (wide_0) (tall_0) (barredPoint_0) (costOf_0) (x6) (x7) (x9) (x10) (x11) (x12)) (f10 : (0 ≤ x9) ∧ (x9 ≤ x13)) (f11 : (-1) * x13 + 0 ≤ (-1)) (f13 : x22 = Int.tdiv (x6) (x17)) (g14 : x17 = wide_1) (f16 : GRX (wide_1) (tall_1)) (f17 : RTV (wide_1) (tall_1) (barredPoint_1) (costOf_1) (x3)) (f18 : (0 ≤ x3) ∧ ((x3 + 1) ≤ (wide_1 * tall_1))) (f19 : BB2 (wide_1) (tall_1) (barredPoint_1) (costOf_1) (x6) (x7) (x9)) (f20 : (0 ≤ x6) ∧ ((x6 + 1) ≤ (wide_1 * tall_1))) (f21 : (x5 + x9) ≤ 1000000) (f22 : 0 ≤ x5) (f23 : x6 ≠ x3) (f24 : BB3 (wide_1) (tall_1) (barredPoint_1) (costOf_1) (x6) (x7) (x9) (x10) (x11) (x12)) (f25 : (0 ≤ x9) ∧ (x9 ≤ x13)) (f26 : (-1) * x13 + 0 ≤ (-1)) (f28 : x18 = Int.tmod (x6) (x17)) (f30 : x5 < x14) (f31 : x10 ≠ x7) (f32 : x12 < 0) (f33 : GRX (wide_2) (tall_2)) (f34 : RTV (wide_2) (tall_2) (barredPoint_2) (costOf_2) (x3)) (f35 : (0 ≤ x3) ∧ ((x3 + 1) ≤ (wide_2 * tall_2))) (f36 : BB2 (wide_2) (tall_2) (barredPoint_2) (costOf_2) (x6) (x7) (x9)) (f37 : (0 ≤ x6) ∧ ((x6 + 1) ≤ (wide_2 * tall_2))) (f38 : (x5 + x9) ≤ 1000000) (f39 : 0 ≤ x5) (f40 : x6 ≠ x3) (f41 : BB3 (wide_2) (tall_2) (barredPoint_2) (costOf_2) (x6) (x7) (x9) (x10) (x11) (x12)) (f42 : (0 ≤ x9) ∧ (x9 ≤ x13)) (f43 : (-1) * x13 + 0 ≤ (-1)) (fe_0_146_1 : wide_0 = wide_1) (fe_0_147_1 : tall_0 = tall_1) (fe_0_146_2 : wide_1 = wide_2) (fe_0_147_2 : tall_1 = tall_2) (hE_0_140_1 : ∀ j : Int, costOf_0 j = costOf_1 j) (hE_0_140_2 : ∀ j : Int, costOf_1 j = costOf_2 j) (hK_0_140 : ∀ j : Int, 0 ≤ j → j < 24000 → 0 ≤ costOf_0 j ∧ costOf_0 j ≤ 1000000) (hE_0_143_1 : ∀ j : Int, barredPoint_0 j = barredPoint_1 j) (hE_0_143_2 : ∀ j : Int, barredPoint_1 j = barredPoint_2 j) (hK_0_143 : ∀ j : Int, 0 ≤ j → j < 6000 → 0 ≤ barredPoint_0 j ∧ barredPoint_0 j ≤ 1) (hE_0_148_1 : ∀ j : Int, turnX_0 j = turnX_1 j) (hE_0_148_2 : ∀ j : Int, 0 ≤ j → (j = x5 → turnX_1 j = x19) ∧ (j ≠ x5 → turnX_1 j = turnX_2 j)) (hK_0_148 : ∀ j : Int, 0 ≤ j → j < 26 → (-2147483648) ≤ turnX_0 j ∧ turnX_0 j ≤ 2005999) (hE_0_149_1 : ∀ j : Int, 0 ≤ j → (j = x5 → turnY_0 j = x23) ∧ (j ≠ x5 → turnY_0 j = turnY_1 j)) (hE_0_149_2 : ∀ j : Int, turnY_1 j = turnY_2 j) (hK_0_149 : ∀ j : Int, 0 ≤ j → j < 26 → (-2147483648) ≤ turnY_0 j ∧ turnY_0 j ≤ 2005999) (kz_0_146 : (-2147483648) ≤ wide_0 ∧ wide_0 ≤ 2147483647) (kz_0_147 : (-2147483648) ≤ tall_0 ∧ tall_0 ≤ 2147483647) : 0 ≤ x10 ∧ x10 ≤ 3 := by
  subst fe_0_146_1
  subst fe_0_147_1
  subst fe_0_146_2
  subst fe_0_147_2
  have e_hE_0_140_1 := funext hE_0_140_1; subst e_hE_0_140_1
  have e_hE_0_140_2 := funext hE_0_140_2; subst e_hE_0_140_2
  have e_hE_0_143_1 := funext hE_0_143_1; subst e_hE_0_143_1
  have e_hE_0_143_2 := funext hE_0_143_2; subst e_hE_0_143_2
  have e_hE_0_148_1 := funext hE_0_148_1; subst e_hE_0_148_1
  have e_hE_0_149_2 := funext hE_0_149_2; subst e_hE_0_149_2
  first
    | omega
    | (have g := gok_bd ‹GRX _ _›; omega)
    | (have h := bb_next ‹RTV _ _ _ _ _› ‹BB2 _ _ _ _ _ _ _› ‹BB3 _ _ _ _ _ _ _ _ _ _› (by omega) (by omega)
       have h1 := h.1.1
       have h2 := h.2
       omega)
    | (obtain ⟨⟨mf, q, n1, n2, n3, n4⟩, u0, u1⟩ := bb_next ‹RTV _ _ _ _ _› ‹BB2 _ _ _ _ _ _ _› ‹BB3 _ _ _ _ _ _ _ _ _ _› (by omega) (by omega)
       have e := ‹STQ _ _ _ _ _ _›.2.2 q n1 n2
       have i := nb_in n1 (by have g := gok_bd ‹GRX _ _›; omega)
       have g3 := ‹GRX _ _›.2.2
       omega)
def o_Mo_bendsBecome_14 : or_T := (258, 25, [(0, (2, 0, 0, [150])), (3, (0, 0, 5999, [])), (5, (0, 0, 24, [])), (6, (0, 0, 5999, [])), (7, (0, 0, 3, [])), (9, (0, 0, 1000000, [])), (10, (0, -1, 3, [])), (11, (0, 0, 999999, [])), (12, (0, -1, -1, [])), (13, (0, -2, 1000000, [])), (14, (0, 25, 25, [])), (15, (2, 0, 0, [255])), (17, (0, 1, 6000, [])), (18, (0, 0, 5999, [])), (20, (2, 0, 0, [256])), (22, (0, 0, 5999, [])), (24, (0, 1, 25, []))], [(6, [24, 5], [1]), (20, [0], [60, 2, 0, 418, 146, 147]), (20, [0, 3], [60, 2, 2, 428, 146, 147, 143, 140]), (20, [3, 0], [50, 2, 0, 1146, 1147, 2, 6, 0, 2, 0, 0, 1, 0, 0, 6, 4, 2, 1, 0, 0, 1, 6, 3, 2, 1, 146, 2, 1, 147]), (20, [0, 6, 7, 9], [60, 2, 2, 431, 146, 147, 143, 140]), (20, [6, 0], [50, 2, 0, 1146, 1147, 2, 6, 0, 2, 0, 0, 1, 0, 0, 6, 4, 2, 1, 0, 0, 1, 6, 3, 2, 1, 146, 2, 1, 147]), (20, [5, 9], [50, 0, 0, 0, 6, 4, 2, 1, 0, 1, 1, 0, 1000000]), (20, [5], [50, 0, 0, 0, 2, 0, 0, 1, 0]), (20, [6, 3], [50, 0, 0, 7, 2, 1, 0, 1, 1]), (20, [0, 6, 7, 9, 10, 11, 12], [60, 2, 2, 432, 146, 147, 143, 140]), (20, [9, 13], [50, 0, 0, 2, 6, 0, 2, 0, 0, 1, 0, 0, 2, 1, 0, 1, 1]), (23, [13], [-1, -1]), (100, [20, 5, 23], []), (4, [22, 6, 17], []), (9, [17, 0], [146]), (9, [20, 0], [149]), (20, [0], [60, 2, 0, 418, 146, 147]), (20, [0, 3], [60, 2, 2, 428, 146, 147, 143, 140]), (20, [3, 0], [50, 2, 0, 1146, 1147, 2, 6, 0, 2, 0, 0, 1, 0, 0, 6, 4, 2, 1, 0, 0, 1, 6, 3, 2, 1, 146, 2, 1, 147]), (20, [0, 6, 7, 9], [60, 2, 2, 431, 146, 147, 143, 140]), (20, [6, 0], [50, 2, 0, 1146, 1147, 2, 6, 0, 2, 0, 0, 1, 0, 0, 6, 4, 2, 1, 0, 0, 1, 6, 3, 2, 1, 146, 2, 1, 147]), (20, [5, 9], [50, 0, 0, 0, 6, 4, 2, 1, 0, 1, 1, 0, 1000000]), (20, [5], [50, 0, 0, 0, 2, 0, 0, 1, 0]), (20, [6, 3], [50, 0, 0, 7, 2, 1, 0, 1, 1]), (20, [0, 6, 7, 9, 10, 11, 12], [60, 2, 2, 432, 146, 147, 143, 140]), (20, [9, 13], [50, 0, 0, 2, 6, 0, 2, 0, 0, 1, 0, 0, 2, 1, 0, 1, 1]), (23, [13], [-1, -1]), (100, [15, 5, 19], []), (5, [18, 6, 17], []), (9, [15, 0], [148]), (7, [5, 14], [2]), (7, [10, 7], [1]), (8, [12], [2]), (20, [0], [60, 2, 0, 418, 146, 147]), (20, [0, 3], [60, 2, 2, 428, 146, 147, 143, 140]), (20, [3, 0], [50, 2, 0, 1146, 1147, 2, 6, 0, 2, 0, 0, 1, 0, 0, 6, 4, 2, 1, 0, 0, 1, 6, 3, 2, 1, 146, 2, 1, 147]), (20, [0, 6, 7, 9], [60, 2, 2, 431, 146, 147, 143, 140]), (20, [6, 0], [50, 2, 0, 1146, 1147, 2, 6, 0, 2, 0, 0, 1, 0, 0, 6, 4, 2, 1, 0, 0, 1, 6, 3, 2, 1, 146, 2, 1, 147]), (20, [5, 9], [50, 0, 0, 0, 6, 4, 2, 1, 0, 1, 1, 0, 1000000]), (20, [5], [50, 0, 0, 0, 2, 0, 0, 1, 0]), (20, [6, 3], [50, 0, 0, 7, 2, 1, 0, 1, 1]), (20, [0, 6, 7, 9, 10, 11, 12], [60, 2, 2, 432, 146, 147, 143, 140]), (20, [9, 13], [50, 0, 0, 2, 6, 0, 2, 0, 0, 1, 0, 0, 2, 1, 0, 1, 1]), (23, [13], [-1, -1])], [(10, (0, 0, 3, []))], [], [], [], [(24, 5, 1, 1), (18, 17, -4294967295, -1), (10, 9, -4294967296, 2), (11, 9, -4294967296, 0)])
theorem oo_Mo_bendsBecome_14 {kA : Nat → ClassId} : or_ok PRD kA GG o_Mo_bendsBecome_14 := by
  intro A ta ws vs hD hth hl hk hds hf
  have hl : vs.length = 25 := hl
  have hk : ∀ q ∈ ([(0, (2, 0, 0, [150])), (3, (0, 0, 5999, [])), (5, (0, 0, 24, [])), (6, (0, 0, 5999, [])), (7, (0, 0, 3, [])), (9, (0, 0, 1000000, [])), (10, (0, -1, 3, [])), (11, (0, 0, 999999, [])), (12, (0, -1, -1, [])), (13, (0, -2, 1000000, [])), (14, (0, 25, 25, [])), (15, (2, 0, 0, [255])), (17, (0, 1, 6000, [])), (18, (0, 0, 5999, [])), (20, (2, 0, 0, [256])), (22, (0, 0, 5999, [])), (24, (0, 1, 25, []))] : List (Nat × tv_T)), tv_ok ta q.2 (n_v vs q.1) := hk
  obtain ⟨t0, hk⟩ := List.forall_mem_cons.mp hk
  have t0 : tv_ok ta (2, 0, 0, [150]) (n_v vs 0) := t0
  have r0 : ta (v_ad (n_v vs 0)) = some 150 := tv_rg t0
  obtain ⟨t3, hk⟩ := List.forall_mem_cons.mp hk
  have t3 : tv_ok ta (0, 0, 5999, []) (n_v vs 3) := t3
  have k3 : 0 ≤ v_iv (n_v vs 3) ∧ v_iv (n_v vs 3) ≤ 5999 := tv_rng t3
  obtain ⟨t5, hk⟩ := List.forall_mem_cons.mp hk
  have t5 : tv_ok ta (0, 0, 24, []) (n_v vs 5) := t5
  have k5 : 0 ≤ v_iv (n_v vs 5) ∧ v_iv (n_v vs 5) ≤ 24 := tv_rng t5
  obtain ⟨t6, hk⟩ := List.forall_mem_cons.mp hk
  have t6 : tv_ok ta (0, 0, 5999, []) (n_v vs 6) := t6
  have k6 : 0 ≤ v_iv (n_v vs 6) ∧ v_iv (n_v vs 6) ≤ 5999 := tv_rng t6
  obtain ⟨t7, hk⟩ := List.forall_mem_cons.mp hk
  have t7 : tv_ok ta (0, 0, 3, []) (n_v vs 7) := t7
  have k7 : 0 ≤ v_iv (n_v vs 7) ∧ v_iv (n_v vs 7) ≤ 3 := tv_rng t7
  obtain ⟨t9, hk⟩ := List.forall_mem_cons.mp hk
  have t9 : tv_ok ta (0, 0, 1000000, []) (n_v vs 9) := t9
  have k9 : 0 ≤ v_iv (n_v vs 9) ∧ v_iv (n_v vs 9) ≤ 1000000 := tv_rng t9
  obtain ⟨t10, hk⟩ := List.forall_mem_cons.mp hk
  have t10 : tv_ok ta (0, -1, 3, []) (n_v vs 10) := t10
  have k10 : (-1) ≤ v_iv (n_v vs 10) ∧ v_iv (n_v vs 10) ≤ 3 := tv_rng t10
  obtain ⟨t11, hk⟩ := List.forall_mem_cons.mp hk
  have t11 : tv_ok ta (0, 0, 999999, []) (n_v vs 11) := t11
  have k11 : 0 ≤ v_iv (n_v vs 11) ∧ v_iv (n_v vs 11) ≤ 999999 := tv_rng t11
  obtain ⟨t12, hk⟩ := List.forall_mem_cons.mp hk
  have t12 : tv_ok ta (0, -1, -1, []) (n_v vs 12) := t12
  have k12 : (-1) ≤ v_iv (n_v vs 12) ∧ v_iv (n_v vs 12) ≤ (-1) := tv_rng t12
  obtain ⟨t13, hk⟩ := List.forall_mem_cons.mp hk
  have t13 : tv_ok ta (0, -2, 1000000, []) (n_v vs 13) := t13
  have k13 : (-2) ≤ v_iv (n_v vs 13) ∧ v_iv (n_v vs 13) ≤ 1000000 := tv_rng t13
  obtain ⟨t14, hk⟩ := List.forall_mem_cons.mp hk
  have t14 : tv_ok ta (0, 25, 25, []) (n_v vs 14) := t14
  have k14 : 25 ≤ v_iv (n_v vs 14) ∧ v_iv (n_v vs 14) ≤ 25 := tv_rng t14
  obtain ⟨t15, hk⟩ := List.forall_mem_cons.mp hk
  have t15 : tv_ok ta (2, 0, 0, [255]) (n_v vs 15) := t15
  have r15 : ta (v_ad (n_v vs 15)) = some 255 := tv_rg t15
  obtain ⟨t17, hk⟩ := List.forall_mem_cons.mp hk
  have t17 : tv_ok ta (0, 1, 6000, []) (n_v vs 17) := t17
  have k17 : 1 ≤ v_iv (n_v vs 17) ∧ v_iv (n_v vs 17) ≤ 6000 := tv_rng t17
  obtain ⟨t18, hk⟩ := List.forall_mem_cons.mp hk
  have t18 : tv_ok ta (0, 0, 5999, []) (n_v vs 18) := t18
  have k18 : 0 ≤ v_iv (n_v vs 18) ∧ v_iv (n_v vs 18) ≤ 5999 := tv_rng t18
  obtain ⟨t20, hk⟩ := List.forall_mem_cons.mp hk
  have t20 : tv_ok ta (2, 0, 0, [256]) (n_v vs 20) := t20
  have r20 : ta (v_ad (n_v vs 20)) = some 256 := tv_rg t20
  obtain ⟨t22, hk⟩ := List.forall_mem_cons.mp hk
  have t22 : tv_ok ta (0, 0, 5999, []) (n_v vs 22) := t22
  have k22 : 0 ≤ v_iv (n_v vs 22) ∧ v_iv (n_v vs 22) ≤ 5999 := tv_rng t22
  obtain ⟨t24, hk⟩ := List.forall_mem_cons.mp hk
  have t24 : tv_ok ta (0, 1, 25, []) (n_v vs 24) := t24
  have k24 : 1 ≤ v_iv (n_v vs 24) ∧ v_iv (n_v vs 24) ≤ 25 := tv_rng t24
  have hds : ∀ q ∈ ([(24, 5, 1, 1), (18, 17, -4294967295, -1), (10, 9, -4294967296, 2), (11, 9, -4294967296, 0)] : List of_T), n_iv vs q.2.1 + q.2.2.1 ≤ n_iv vs q.1 ∧ n_iv vs q.1 ≤ n_iv vs q.2.1 + q.2.2.2 := hds
  obtain ⟨d0, hds⟩ := List.forall_mem_cons.mp hds
  have d0 : v_iv (n_v vs 5) + 1 ≤ v_iv (n_v vs 24) ∧ v_iv (n_v vs 24) ≤ v_iv (n_v vs 5) + 1 := d0
  obtain ⟨d1, hds⟩ := List.forall_mem_cons.mp hds
  have d1 : v_iv (n_v vs 17) + (-4294967295) ≤ v_iv (n_v vs 18) ∧ v_iv (n_v vs 18) ≤ v_iv (n_v vs 17) + (-1) := d1
  obtain ⟨d2, hds⟩ := List.forall_mem_cons.mp hds
  have d2 : v_iv (n_v vs 9) + (-4294967296) ≤ v_iv (n_v vs 10) ∧ v_iv (n_v vs 10) ≤ v_iv (n_v vs 9) + 2 := d2
  obtain ⟨d3, hds⟩ := List.forall_mem_cons.mp hds
  have d3 : v_iv (n_v vs 9) + (-4294967296) ≤ v_iv (n_v vs 11) ∧ v_iv (n_v vs 11) ≤ v_iv (n_v vs 9) + 0 := d3
  have hf : fc_ok PRD [(6, [24, 5], [1]), (20, [0], [60, 2, 0, 418, 146, 147]), (20, [0, 3], [60, 2, 2, 428, 146, 147, 143, 140]), (20, [3, 0], [50, 2, 0, 1146, 1147, 2, 6, 0, 2, 0, 0, 1, 0, 0, 6, 4, 2, 1, 0, 0, 1, 6, 3, 2, 1, 146, 2, 1, 147]), (20, [0, 6, 7, 9], [60, 2, 2, 431, 146, 147, 143, 140]), (20, [6, 0], [50, 2, 0, 1146, 1147, 2, 6, 0, 2, 0, 0, 1, 0, 0, 6, 4, 2, 1, 0, 0, 1, 6, 3, 2, 1, 146, 2, 1, 147]), (20, [5, 9], [50, 0, 0, 0, 6, 4, 2, 1, 0, 1, 1, 0, 1000000]), (20, [5], [50, 0, 0, 0, 2, 0, 0, 1, 0]), (20, [6, 3], [50, 0, 0, 7, 2, 1, 0, 1, 1]), (20, [0, 6, 7, 9, 10, 11, 12], [60, 2, 2, 432, 146, 147, 143, 140]), (20, [9, 13], [50, 0, 0, 2, 6, 0, 2, 0, 0, 1, 0, 0, 2, 1, 0, 1, 1]), (23, [13], [-1, -1]), (100, [20, 5, 23], []), (4, [22, 6, 17], []), (9, [17, 0], [146]), (9, [20, 0], [149]), (20, [0], [60, 2, 0, 418, 146, 147]), (20, [0, 3], [60, 2, 2, 428, 146, 147, 143, 140]), (20, [3, 0], [50, 2, 0, 1146, 1147, 2, 6, 0, 2, 0, 0, 1, 0, 0, 6, 4, 2, 1, 0, 0, 1, 6, 3, 2, 1, 146, 2, 1, 147]), (20, [0, 6, 7, 9], [60, 2, 2, 431, 146, 147, 143, 140]), (20, [6, 0], [50, 2, 0, 1146, 1147, 2, 6, 0, 2, 0, 0, 1, 0, 0, 6, 4, 2, 1, 0, 0, 1, 6, 3, 2, 1, 146, 2, 1, 147]), (20, [5, 9], [50, 0, 0, 0, 6, 4, 2, 1, 0, 1, 1, 0, 1000000]), (20, [5], [50, 0, 0, 0, 2, 0, 0, 1, 0]), (20, [6, 3], [50, 0, 0, 7, 2, 1, 0, 1, 1]), (20, [0, 6, 7, 9, 10, 11, 12], [60, 2, 2, 432, 146, 147, 143, 140]), (20, [9, 13], [50, 0, 0, 2, 6, 0, 2, 0, 0, 1, 0, 0, 2, 1, 0, 1, 1]), (23, [13], [-1, -1]), (100, [15, 5, 19], []), (5, [18, 6, 17], []), (9, [15, 0], [148]), (7, [5, 14], [2]), (7, [10, 7], [1]), (8, [12], [2]), (20, [0], [60, 2, 0, 418, 146, 147]), (20, [0, 3], [60, 2, 2, 428, 146, 147, 143, 140]), (20, [3, 0], [50, 2, 0, 1146, 1147, 2, 6, 0, 2, 0, 0, 1, 0, 0, 6, 4, 2, 1, 0, 0, 1, 6, 3, 2, 1, 146, 2, 1, 147]), (20, [0, 6, 7, 9], [60, 2, 2, 431, 146, 147, 143, 140]), (20, [6, 0], [50, 2, 0, 1146, 1147, 2, 6, 0, 2, 0, 0, 1, 0, 0, 6, 4, 2, 1, 0, 0, 1, 6, 3, 2, 1, 146, 2, 1, 147]), (20, [5, 9], [50, 0, 0, 0, 6, 4, 2, 1, 0, 1, 1, 0, 1000000]), (20, [5], [50, 0, 0, 0, 2, 0, 0, 1, 0]), (20, [6, 3], [50, 0, 0, 7, 2, 1, 0, 1, 1]), (20, [0, 6, 7, 9, 10, 11, 12], [60, 2, 2, 432, 146, 147, 143, 140]), (20, [9, 13], [50, 0, 0, 2, 6, 0, 2, 0, 0, 1, 0, 0, 2, 1, 0, 1, 1]), (23, [13], [-1, -1])] ta ws vs := hf
  obtain ⟨f0, hf⟩ := fc_un (show (6 : Nat) < 100 from by decide) hf
  have f0 : v_iv (n_v vs 24) = v_iv (n_v vs 5) + 1 := f0
  obtain ⟨f1, hf⟩ := fc_un (show (20 : Nat) < 100 from by decide) hf
  have f1 : GRX (w_fi ws (n_v vs 0) 146) (w_fi ws (n_v vs 0) 147) := f1
  obtain ⟨f2, hf⟩ := fc_un (show (20 : Nat) < 100 from by decide) hf
  have f2 : RTV (w_fi ws (n_v vs 0) 146) (w_fi ws (n_v vs 0) 147) (w_ei ws (w_ar ws (n_v vs 0) 143)) (w_ei ws (w_ar ws (n_v vs 0) 140)) (v_iv (n_v vs 3)) := f2
  obtain ⟨f3, hf⟩ := fc_un (show (20 : Nat) < 100 from by decide) hf
  have f3 : (0 ≤ v_iv (n_v vs 3)) ∧ ((v_iv (n_v vs 3) + 1) ≤ (w_fi ws (n_v vs 0) 146 * w_fi ws (n_v vs 0) 147)) := f3
  obtain ⟨f4, hf⟩ := fc_un (show (20 : Nat) < 100 from by decide) hf
  have f4 : BB2 (w_fi ws (n_v vs 0) 146) (w_fi ws (n_v vs 0) 147) (w_ei ws (w_ar ws (n_v vs 0) 143)) (w_ei ws (w_ar ws (n_v vs 0) 140)) (v_iv (n_v vs 6)) (v_iv (n_v vs 7)) (v_iv (n_v vs 9)) := f4
  obtain ⟨f5, hf⟩ := fc_un (show (20 : Nat) < 100 from by decide) hf
  have f5 : (0 ≤ v_iv (n_v vs 6)) ∧ ((v_iv (n_v vs 6) + 1) ≤ (w_fi ws (n_v vs 0) 146 * w_fi ws (n_v vs 0) 147)) := f5
  obtain ⟨f6, hf⟩ := fc_un (show (20 : Nat) < 100 from by decide) hf
  have f6 : (v_iv (n_v vs 5) + v_iv (n_v vs 9)) ≤ 1000000 := f6
  obtain ⟨f7, hf⟩ := fc_un (show (20 : Nat) < 100 from by decide) hf
  have f7 : 0 ≤ v_iv (n_v vs 5) := f7
  obtain ⟨f8, hf⟩ := fc_un (show (20 : Nat) < 100 from by decide) hf
  have f8 : v_iv (n_v vs 6) ≠ v_iv (n_v vs 3) := f8
  obtain ⟨f9, hf⟩ := fc_un (show (20 : Nat) < 100 from by decide) hf
  have f9 : BB3 (w_fi ws (n_v vs 0) 146) (w_fi ws (n_v vs 0) 147) (w_ei ws (w_ar ws (n_v vs 0) 143)) (w_ei ws (w_ar ws (n_v vs 0) 140)) (v_iv (n_v vs 6)) (v_iv (n_v vs 7)) (v_iv (n_v vs 9)) (v_iv (n_v vs 10)) (v_iv (n_v vs 11)) (v_iv (n_v vs 12)) := f9
  obtain ⟨f10, hf⟩ := fc_un (show (20 : Nat) < 100 from by decide) hf
  have f10 : (0 ≤ v_iv (n_v vs 9)) ∧ (v_iv (n_v vs 9) ≤ v_iv (n_v vs 13)) := f10
  obtain ⟨f11, hf⟩ := fc_un (show (23 : Nat) < 100 from by decide) hf
  have f11 : (-1) * v_iv (n_v vs 13) + 0 ≤ (-1) := f11
  obtain ⟨ta1, w1, le1, ⟨_, s1⟩, hf⟩ := fc_us (show ¬ (100 : Nat) < 100 from by decide) hf
  have s1 : (∀ b j, w_el ws b j = if b = v_ad (n_v vs 20) ∧ j = (v_iv (n_v vs 5)).toNat then v_iv (n_v vs 23) else w_el w1 b j) ∧ ∀ b k, w_fd ws b k = w_fd w1 b k := s1
  obtain ⟨f13, hf⟩ := fc_un (show (4 : Nat) < 100 from by decide) hf
  have f13 : v_iv (n_v vs 22) = Int.tdiv (v_iv (n_v vs 6)) (v_iv (n_v vs 17)) := f13
  have fq13 : 10 ≤ v_iv (n_v vs 22) → 10 * v_iv (n_v vs 17) ≤ v_iv (n_v vs 6) := dv_ten f13 (by omega) (by omega)
  obtain ⟨f14, hf⟩ := fc_un (show (9 : Nat) < 100 from by decide) hf
  have f14 : n_v vs 17 = w_fd w1 (v_ad (n_v vs 0)) 146 := f14
  obtain ⟨f15, hf⟩ := fc_un (show (9 : Nat) < 100 from by decide) hf
  have f15 : n_v vs 20 = w_fd w1 (v_ad (n_v vs 0)) 149 := f15
  obtain ⟨f16, hf⟩ := fc_un (show (20 : Nat) < 100 from by decide) hf
  have f16 : GRX (w_fi w1 (n_v vs 0) 146) (w_fi w1 (n_v vs 0) 147) := f16
  obtain ⟨f17, hf⟩ := fc_un (show (20 : Nat) < 100 from by decide) hf
  have f17 : RTV (w_fi w1 (n_v vs 0) 146) (w_fi w1 (n_v vs 0) 147) (w_ei w1 (w_ar w1 (n_v vs 0) 143)) (w_ei w1 (w_ar w1 (n_v vs 0) 140)) (v_iv (n_v vs 3)) := f17
  obtain ⟨f18, hf⟩ := fc_un (show (20 : Nat) < 100 from by decide) hf
  have f18 : (0 ≤ v_iv (n_v vs 3)) ∧ ((v_iv (n_v vs 3) + 1) ≤ (w_fi w1 (n_v vs 0) 146 * w_fi w1 (n_v vs 0) 147)) := f18
  obtain ⟨f19, hf⟩ := fc_un (show (20 : Nat) < 100 from by decide) hf
  have f19 : BB2 (w_fi w1 (n_v vs 0) 146) (w_fi w1 (n_v vs 0) 147) (w_ei w1 (w_ar w1 (n_v vs 0) 143)) (w_ei w1 (w_ar w1 (n_v vs 0) 140)) (v_iv (n_v vs 6)) (v_iv (n_v vs 7)) (v_iv (n_v vs 9)) := f19
  obtain ⟨f20, hf⟩ := fc_un (show (20 : Nat) < 100 from by decide) hf
  have f20 : (0 ≤ v_iv (n_v vs 6)) ∧ ((v_iv (n_v vs 6) + 1) ≤ (w_fi w1 (n_v vs 0) 146 * w_fi w1 (n_v vs 0) 147)) := f20
  obtain ⟨f21, hf⟩ := fc_un (show (20 : Nat) < 100 from by decide) hf
  have f21 : (v_iv (n_v vs 5) + v_iv (n_v vs 9)) ≤ 1000000 := f21
  obtain ⟨f22, hf⟩ := fc_un (show (20 : Nat) < 100 from by decide) hf
  have f22 : 0 ≤ v_iv (n_v vs 5) := f22
  obtain ⟨f23, hf⟩ := fc_un (show (20 : Nat) < 100 from by decide) hf
  have f23 : v_iv (n_v vs 6) ≠ v_iv (n_v vs 3) := f23
  obtain ⟨f24, hf⟩ := fc_un (show (20 : Nat) < 100 from by decide) hf
  have f24 : BB3 (w_fi w1 (n_v vs 0) 146) (w_fi w1 (n_v vs 0) 147) (w_ei w1 (w_ar w1 (n_v vs 0) 143)) (w_ei w1 (w_ar w1 (n_v vs 0) 140)) (v_iv (n_v vs 6)) (v_iv (n_v vs 7)) (v_iv (n_v vs 9)) (v_iv (n_v vs 10)) (v_iv (n_v vs 11)) (v_iv (n_v vs 12)) := f24
  obtain ⟨f25, hf⟩ := fc_un (show (20 : Nat) < 100 from by decide) hf
  have f25 : (0 ≤ v_iv (n_v vs 9)) ∧ (v_iv (n_v vs 9) ≤ v_iv (n_v vs 13)) := f25
  obtain ⟨f26, hf⟩ := fc_un (show (23 : Nat) < 100 from by decide) hf
  have f26 : (-1) * v_iv (n_v vs 13) + 0 ≤ (-1) := f26
  obtain ⟨ta2, w2, le2, ⟨_, s2⟩, hf⟩ := fc_us (show ¬ (100 : Nat) < 100 from by decide) hf
  have s2 : (∀ b j, w_el w1 b j = if b = v_ad (n_v vs 15) ∧ j = (v_iv (n_v vs 5)).toNat then v_iv (n_v vs 19) else w_el w2 b j) ∧ ∀ b k, w_fd w1 b k = w_fd w2 b k := s2
  obtain ⟨f28, hf⟩ := fc_un (show (5 : Nat) < 100 from by decide) hf
  have f28 : v_iv (n_v vs 18) = Int.tmod (v_iv (n_v vs 6)) (v_iv (n_v vs 17)) := f28
  obtain ⟨f29, hf⟩ := fc_un (show (9 : Nat) < 100 from by decide) hf
  have f29 : n_v vs 15 = w_fd w2 (v_ad (n_v vs 0)) 148 := f29
  obtain ⟨f30, hf⟩ := fc_un (show (7 : Nat) < 100 from by decide) hf
  have f30 : v_iv (n_v vs 5) < v_iv (n_v vs 14) := f30
  obtain ⟨f31, hf⟩ := fc_un (show (7 : Nat) < 100 from by decide) hf
  have f31 : v_iv (n_v vs 10) ≠ v_iv (n_v vs 7) := f31
  obtain ⟨f32, hf⟩ := fc_un (show (8 : Nat) < 100 from by decide) hf
  have f32 : v_iv (n_v vs 12) < 0 := f32
  obtain ⟨f33, hf⟩ := fc_un (show (20 : Nat) < 100 from by decide) hf
  have f33 : GRX (w_fi w2 (n_v vs 0) 146) (w_fi w2 (n_v vs 0) 147) := f33
  obtain ⟨f34, hf⟩ := fc_un (show (20 : Nat) < 100 from by decide) hf
  have f34 : RTV (w_fi w2 (n_v vs 0) 146) (w_fi w2 (n_v vs 0) 147) (w_ei w2 (w_ar w2 (n_v vs 0) 143)) (w_ei w2 (w_ar w2 (n_v vs 0) 140)) (v_iv (n_v vs 3)) := f34
  obtain ⟨f35, hf⟩ := fc_un (show (20 : Nat) < 100 from by decide) hf
  have f35 : (0 ≤ v_iv (n_v vs 3)) ∧ ((v_iv (n_v vs 3) + 1) ≤ (w_fi w2 (n_v vs 0) 146 * w_fi w2 (n_v vs 0) 147)) := f35
  obtain ⟨f36, hf⟩ := fc_un (show (20 : Nat) < 100 from by decide) hf
  have f36 : BB2 (w_fi w2 (n_v vs 0) 146) (w_fi w2 (n_v vs 0) 147) (w_ei w2 (w_ar w2 (n_v vs 0) 143)) (w_ei w2 (w_ar w2 (n_v vs 0) 140)) (v_iv (n_v vs 6)) (v_iv (n_v vs 7)) (v_iv (n_v vs 9)) := f36
  obtain ⟨f37, hf⟩ := fc_un (show (20 : Nat) < 100 from by decide) hf
  have f37 : (0 ≤ v_iv (n_v vs 6)) ∧ ((v_iv (n_v vs 6) + 1) ≤ (w_fi w2 (n_v vs 0) 146 * w_fi w2 (n_v vs 0) 147)) := f37
  obtain ⟨f38, hf⟩ := fc_un (show (20 : Nat) < 100 from by decide) hf
  have f38 : (v_iv (n_v vs 5) + v_iv (n_v vs 9)) ≤ 1000000 := f38
  obtain ⟨f39, hf⟩ := fc_un (show (20 : Nat) < 100 from by decide) hf
  have f39 : 0 ≤ v_iv (n_v vs 5) := f39
  obtain ⟨f40, hf⟩ := fc_un (show (20 : Nat) < 100 from by decide) hf
  have f40 : v_iv (n_v vs 6) ≠ v_iv (n_v vs 3) := f40
  obtain ⟨f41, hf⟩ := fc_un (show (20 : Nat) < 100 from by decide) hf
  have f41 : BB3 (w_fi w2 (n_v vs 0) 146) (w_fi w2 (n_v vs 0) 147) (w_ei w2 (w_ar w2 (n_v vs 0) 143)) (w_ei w2 (w_ar w2 (n_v vs 0) 140)) (v_iv (n_v vs 6)) (v_iv (n_v vs 7)) (v_iv (n_v vs 9)) (v_iv (n_v vs 10)) (v_iv (n_v vs 11)) (v_iv (n_v vs 12)) := f41
  obtain ⟨f42, hf⟩ := fc_un (show (20 : Nat) < 100 from by decide) hf
  have f42 : (0 ≤ v_iv (n_v vs 9)) ∧ (v_iv (n_v vs 9) ≤ v_iv (n_v vs 13)) := f42
  obtain ⟨f43, hf⟩ := fc_un (show (23 : Nat) < 100 from by decide) hf
  have f43 : (-1) * v_iv (n_v vs 13) + 0 ≤ (-1) := f43
  have ar_0_140_1 : w_ar w1 (n_v vs 0) 140 = w_ar ws (n_v vs 0) 140 := by show v_ad (w_fd w1 _ _) = v_ad (w_fd ws _ _); rw [s1.2]
  have ar_0_140_2 : w_ar w2 (n_v vs 0) 140 = w_ar ws (n_v vs 0) 140 := by rw [← ar_0_140_1]; show v_ad (w_fd w2 _ _) = v_ad (w_fd w1 _ _); rw [s2.2]
  have cr_0_140 : ta (w_ar ws (n_v vs 0) 140) = some 251 := tv_rg (th_fd hD hth r0 (g := GG_150) rfl (k := 140) (t := (2, 0, 0, [251])) rfl rfl)
  have ar_0_143_1 : w_ar w1 (n_v vs 0) 143 = w_ar ws (n_v vs 0) 143 := by show v_ad (w_fd w1 _ _) = v_ad (w_fd ws _ _); rw [s1.2]
  have ar_0_143_2 : w_ar w2 (n_v vs 0) 143 = w_ar ws (n_v vs 0) 143 := by rw [← ar_0_143_1]; show v_ad (w_fd w2 _ _) = v_ad (w_fd w1 _ _); rw [s2.2]
  have cr_0_143 : ta (w_ar ws (n_v vs 0) 143) = some 254 := tv_rg (th_fd hD hth r0 (g := GG_150) rfl (k := 143) (t := (2, 0, 0, [254])) rfl rfl)
  have ar_0_148_1 : w_ar w1 (n_v vs 0) 148 = w_ar ws (n_v vs 0) 148 := by show v_ad (w_fd w1 _ _) = v_ad (w_fd ws _ _); rw [s1.2]
  have ar_0_148_2 : w_ar w2 (n_v vs 0) 148 = w_ar ws (n_v vs 0) 148 := by rw [← ar_0_148_1]; show v_ad (w_fd w2 _ _) = v_ad (w_fd w1 _ _); rw [s2.2]
  have cr_0_148 : ta (w_ar ws (n_v vs 0) 148) = some 255 := tv_rg (th_fd hD hth r0 (g := GG_150) rfl (k := 148) (t := (2, 0, 0, [255])) rfl rfl)
  have ar_0_149_1 : w_ar w1 (n_v vs 0) 149 = w_ar ws (n_v vs 0) 149 := by show v_ad (w_fd w1 _ _) = v_ad (w_fd ws _ _); rw [s1.2]
  have ar_0_149_2 : w_ar w2 (n_v vs 0) 149 = w_ar ws (n_v vs 0) 149 := by rw [← ar_0_149_1]; show v_ad (w_fd w2 _ _) = v_ad (w_fd w1 _ _); rw [s2.2]
  have cr_0_149 : ta (w_ar ws (n_v vs 0) 149) = some 256 := tv_rg (th_fd hD hth r0 (g := GG_150) rfl (k := 149) (t := (2, 0, 0, [256])) rfl rfl)
  have ad_20 : v_ad (n_v vs 20) = w_ar ws (n_v vs 0) 149 := (congrArg v_ad f15).trans ar_0_149_1
  have ad_15 : v_ad (n_v vs 15) = w_ar ws (n_v vs 0) 148 := (congrArg v_ad f29).trans ar_0_148_2
  have g14 : v_iv (n_v vs 17) = w_fi w1 (n_v vs 0) 146 := congrArg v_iv f14
  rw [ar_0_140_1] at f17
  rw [ar_0_143_1] at f17
  rw [ar_0_140_1] at f19
  rw [ar_0_143_1] at f19
  rw [ar_0_140_1] at f24
  rw [ar_0_143_1] at f24
  rw [ar_0_140_2] at f34
  rw [ar_0_143_2] at f34
  rw [ar_0_140_2] at f36
  rw [ar_0_143_2] at f36
  rw [ar_0_140_2] at f41
  rw [ar_0_143_2] at f41
  have fe_0_146_1 : w_fi ws (n_v vs 0) 146 = w_fi w1 (n_v vs 0) 146 := congrArg v_iv (s1.2 _ _)
  have fe_0_147_1 : w_fi ws (n_v vs 0) 147 = w_fi w1 (n_v vs 0) 147 := congrArg v_iv (s1.2 _ _)
  have fe_0_146_2 : w_fi w1 (n_v vs 0) 146 = w_fi w2 (n_v vs 0) 146 := congrArg v_iv (s2.2 _ _)
  have fe_0_147_2 : w_fi w1 (n_v vs 0) 147 = w_fi w2 (n_v vs 0) 147 := congrArg v_iv (s2.2 _ _)
  have hE_0_140_1 : ∀ j : Int, w_ei ws (w_ar ws (n_v vs 0) 140) j = w_ei w1 (w_ar ws (n_v vs 0) 140) j := fun j => by unfold w_ei; rw [s1.1, if_neg (fun e => by have e1 := e.1; rw [← e1] at r20; rw [cr_0_140] at r20; exact absurd (Option.some.inj r20) (by decide))]
  have hE_0_140_2 : ∀ j : Int, w_ei w1 (w_ar ws (n_v vs 0) 140) j = w_ei w2 (w_ar ws (n_v vs 0) 140) j := fun j => by unfold w_ei; rw [s2.1, if_neg (fun e => by have e1 := e.1; rw [← e1] at r15; rw [cr_0_140] at r15; exact absurd (Option.some.inj r15) (by decide))]
  have hK_0_140 : ∀ j : Int, 0 ≤ j → j < 24000 → 0 ≤ w_ei ws (w_ar ws (n_v vs 0) 140) j ∧ w_ei ws (w_ar ws (n_v vs 0) 140) j ≤ 1000000 := fun j h0 h1 => th_el hD hth cr_0_140 (kd := 0) (n := 24000) (m := 24000) (lo := 0) (hi := 1000000) (rs := []) (L := []) rfl (by decide) (j := j.toNat) (by omega)
  have hE_0_143_1 : ∀ j : Int, w_ei ws (w_ar ws (n_v vs 0) 143) j = w_ei w1 (w_ar ws (n_v vs 0) 143) j := fun j => by unfold w_ei; rw [s1.1, if_neg (fun e => by have e1 := e.1; rw [← e1] at r20; rw [cr_0_143] at r20; exact absurd (Option.some.inj r20) (by decide))]
  have hE_0_143_2 : ∀ j : Int, w_ei w1 (w_ar ws (n_v vs 0) 143) j = w_ei w2 (w_ar ws (n_v vs 0) 143) j := fun j => by unfold w_ei; rw [s2.1, if_neg (fun e => by have e1 := e.1; rw [← e1] at r15; rw [cr_0_143] at r15; exact absurd (Option.some.inj r15) (by decide))]
  have hK_0_143 : ∀ j : Int, 0 ≤ j → j < 6000 → 0 ≤ w_ei ws (w_ar ws (n_v vs 0) 143) j ∧ w_ei ws (w_ar ws (n_v vs 0) 143) j ≤ 1 := fun j h0 h1 => th_el hD hth cr_0_143 (kd := 2) (n := 6000) (m := 6000) (lo := 0) (hi := 1) (rs := []) (L := []) rfl (by decide) (j := j.toNat) (by omega)
  have hE_0_148_1 : ∀ j : Int, w_ei ws (w_ar ws (n_v vs 0) 148) j = w_ei w1 (w_ar ws (n_v vs 0) 148) j := fun j => by unfold w_ei; rw [s1.1, if_neg (fun e => by have e1 := e.1; rw [← e1] at r20; rw [cr_0_148] at r20; exact absurd (Option.some.inj r20) (by decide))]
  have hE_0_148_2 : ∀ j : Int, 0 ≤ j → (j = v_iv (n_v vs 5) → w_ei w1 (w_ar ws (n_v vs 0) 148) j = v_iv (n_v vs 19)) ∧ (j ≠ v_iv (n_v vs 5) → w_ei w1 (w_ar ws (n_v vs 0) 148) j = w_ei w2 (w_ar ws (n_v vs 0) 148) j) := fun j hj => ⟨fun h => by unfold w_ei; rw [s2.1, if_pos ⟨ad_15.symm, by rw [h]⟩], fun h => by unfold w_ei; rw [s2.1, if_neg (fun e => h (by have := e.2; omega))]⟩
  have hK_0_148 : ∀ j : Int, 0 ≤ j → j < 26 → (-2147483648) ≤ w_ei ws (w_ar ws (n_v vs 0) 148) j ∧ w_ei ws (w_ar ws (n_v vs 0) 148) j ≤ 2005999 := fun j h0 h1 => th_el hD hth cr_0_148 (kd := 0) (n := 26) (m := 26) (lo := (-2147483648)) (hi := 2005999) (rs := []) (L := []) rfl (by decide) (j := j.toNat) (by omega)
  have hE_0_149_1 : ∀ j : Int, 0 ≤ j → (j = v_iv (n_v vs 5) → w_ei ws (w_ar ws (n_v vs 0) 149) j = v_iv (n_v vs 23)) ∧ (j ≠ v_iv (n_v vs 5) → w_ei ws (w_ar ws (n_v vs 0) 149) j = w_ei w1 (w_ar ws (n_v vs 0) 149) j) := fun j hj => ⟨fun h => by unfold w_ei; rw [s1.1, if_pos ⟨ad_20.symm, by rw [h]⟩], fun h => by unfold w_ei; rw [s1.1, if_neg (fun e => h (by have := e.2; omega))]⟩
  have hE_0_149_2 : ∀ j : Int, w_ei w1 (w_ar ws (n_v vs 0) 149) j = w_ei w2 (w_ar ws (n_v vs 0) 149) j := fun j => by unfold w_ei; rw [s2.1, if_neg (fun e => by have e1 := e.1; rw [← e1] at r15; rw [cr_0_149] at r15; exact absurd (Option.some.inj r15) (by decide))]
  have hK_0_149 : ∀ j : Int, 0 ≤ j → j < 26 → (-2147483648) ≤ w_ei ws (w_ar ws (n_v vs 0) 149) j ∧ w_ei ws (w_ar ws (n_v vs 0) 149) j ≤ 2005999 := fun j h0 h1 => th_el hD hth cr_0_149 (kd := 0) (n := 26) (m := 26) (lo := (-2147483648)) (hi := 2005999) (rs := []) (L := []) rfl (by decide) (j := j.toNat) (by omega)
  have pe_0_146_147_1 : w_fi ws (n_v vs 0) 146 * w_fi ws (n_v vs 0) 147 = w_fi w1 (n_v vs 0) 146 * w_fi w1 (n_v vs 0) 147 := by rw [fe_0_146_1, fe_0_147_1]
  have pe_0_146_147_2 : w_fi w1 (n_v vs 0) 146 * w_fi w1 (n_v vs 0) 147 = w_fi w2 (n_v vs 0) 146 * w_fi w2 (n_v vs 0) 147 := by rw [fe_0_146_2, fe_0_147_2]
  have kz_0_146 : (-2147483648) ≤ w_fi ws (n_v vs 0) 146 ∧ w_fi ws (n_v vs 0) 146 ≤ 2147483647 := tv_rng (th_fd hD hth r0 (g := GG_150) rfl (k := 146) (t := (0, -2147483648, 2147483647, [])) rfl rfl)
  have kz_0_147 : (-2147483648) ≤ w_fi ws (n_v vs 0) 147 ∧ w_fi ws (n_v vs 0) 147 ≤ 2147483647 := tv_rng (th_fd hD hth r0 (g := GG_150) rfl (k := 147) (t := (0, -2147483648, 2147483647, [])) rfl rfl)
  have hrf0 : 0 ≤ v_iv (n_v vs 10) ∧ v_iv (n_v vs 10) ≤ 3 := vc_Mo_bendsBecome_14_r0 (v_iv (n_v vs 3)) (v_iv (n_v vs 5)) (v_iv (n_v vs 6)) (v_iv (n_v vs 7)) (v_iv (n_v vs 9)) (v_iv (n_v vs 10)) (v_iv (n_v vs 11)) (v_iv (n_v vs 12)) (v_iv (n_v vs 13)) (v_iv (n_v vs 14)) (v_iv (n_v vs 17)) (v_iv (n_v vs 18)) (v_iv (n_v vs 22)) (v_iv (n_v vs 24)) (w_fi ws (n_v vs 0) 146) (w_fi ws (n_v vs 0) 147) (w_ei ws (w_ar ws (n_v vs 0) 143)) (w_ei ws (w_ar ws (n_v vs 0) 140)) (w_fi w1 (n_v vs 0) 146) (w_fi w1 (n_v vs 0) 147) (w_ei w1 (w_ar ws (n_v vs 0) 143)) (w_ei w1 (w_ar ws (n_v vs 0) 140)) (w_fi w2 (n_v vs 0) 146) (w_fi w2 (n_v vs 0) 147) (w_ei w2 (w_ar ws (n_v vs 0) 143)) (w_ei w2 (w_ar ws (n_v vs 0) 140)) (w_ei ws (w_ar ws (n_v vs 0) 148)) (w_ei w1 (w_ar ws (n_v vs 0) 148)) (w_ei w2 (w_ar ws (n_v vs 0) 148)) (v_iv (n_v vs 19)) (w_ei ws (w_ar ws (n_v vs 0) 149)) (w_ei w1 (w_ar ws (n_v vs 0) 149)) (v_iv (n_v vs 23)) (w_ei w2 (w_ar ws (n_v vs 0) 149)) k3 k5 k6 k7 k9 k10 k11 k12 k13 k14 k17 k18 k22 k24 d0 d1 d2 d3 f0 f1 f2 f3 f4 f5 f6 f7 f8 f9 f10 f11 f13 g14 f16 f17 f18 f19 f20 f21 f22 f23 f24 f25 f26 f28 f30 f31 f32 f33 f34 f35 f36 f37 f38 f39 f40 f41 f42 f43 fe_0_146_1 fe_0_147_1 fe_0_146_2 fe_0_147_2 hE_0_140_1 hE_0_140_2 hK_0_140 hE_0_143_1 hE_0_143_2 hK_0_143 hE_0_148_1 hE_0_148_2 hK_0_148 hE_0_149_1 hE_0_149_2 hK_0_149 kz_0_146 kz_0_147
  have rf10 : tv_ok ta (0, 0, 3, []) (n_v vs 10) := tv_in t10 (by first | omega | grind) (by first | omega | grind)
  refine ⟨List.forall_mem_cons.mpr ⟨rf10, (fun _ h => (by cases h))⟩, [], trivial, ?_, (fun _ h => (by cases h))⟩
  rw [List.append_nil]
  exact (fun _ h => (by cases h))
set_option maxHeartbeats 4000000 in
theorem vc_Mo_bendsBecome_15_r0 (x3 : Int) (x5 : Int) (x6 : Int) (x7 : Int) (x9 : Int) (x10 : Int) (x11 : Int) (x12 : Int) (x13 : Int) (x14 : Int) (x17 : Int) (x18 : Int) (x22 : Int) (x24 : Int) (x25 : Int) (barredPoint_0 : Int → Int) (wide_0 : Int) (tall_0 : Int) (costOf_0 : Int → Int) (wide_1 : Int) (tall_1 : Int) (barredPoint_1 : Int → Int) (costOf_1 : Int → Int) (wide_2 : Int) (tall_2 : Int) (barredPoint_2 : Int → Int) (costOf_2 : Int → Int) (turnX_0 : Int → Int) (turnX_1 : Int → Int) (turnX_2 : Int → Int) (x19 : Int) (turnY_0 : Int → Int) (turnY_1 : Int → Int) (x23 : Int) (turnY_2 : Int → Int) (k3 : 0 ≤ x3 ∧ x3 ≤ 5999) (k5 : 0 ≤ x5 ∧ x5 ≤ 24) (k6 : 0 ≤ x6 ∧ x6 ≤ 5999) (k7 : 0 ≤ x7 ∧ x7 ≤ 3) (k9 : 0 ≤ x9 ∧ x9 ≤ 1000000) (k10 : 0 ≤ x10 ∧ x10 ≤ 3) (k11 : 0 ≤ x11 ∧ x11 ≤ 999999) (k12 : (-1) ≤ x12 ∧ x12 ≤ (-1)) (k13 : (-2) ≤ x13 ∧ x13 ≤ 1000000) (k14 : 25 ≤ x14 ∧ x14 ≤ 25) (k17 : 1 ≤ x17 ∧ x17 ≤ 6000) (k18 : 0 ≤ x18 ∧ x18 ≤ 5999) (k22 : 0 ≤ x22 ∧ x22 ≤ 5999) (k24 : 1 ≤ x24 ∧ x24 ≤ 25) (k25 : (-1) ≤ x25 ∧ x25 ≤ 5999) (d0 : x5 + 1 ≤ x24 ∧ x24 ≤ x5 + 1) (d1 : x17 + (-4294967295) ≤ x18 ∧ x18 ≤ x17 + (-1)) (d2 : x9 + (-4294967296) ≤ x10 ∧ x10 ≤ x9 + 2) (d3 : x9 + (-4294967296) ≤ x11 ∧ x11 ≤ x9 + 0) (f0 : STQ (wide_0) (tall_0) (barredPoint_0) (x6) (x10) (x25)) (f1 : ((-1) ≤ x25) ∧ ((x25 + 1) ≤ (wide_0 * tall_0))) (f2 : x24 = x5 + 1) (f3 : GRX (wide_0) (tall_0)) (f4 : RTV (wide_0) (tall_0) (barredPoint_0) (costOf_0) (x3)) (f5 : (0 ≤ x3) ∧ ((x3 + 1) ≤ (wide_0 * tall_0))) (f6 : BB2 (wide_0) (tall_0) (barredPoint_0) (costOf_0) (x6) (x7) (x9)) (f7 : (0 ≤ x6) ∧ ((x6 + 1) ≤ (wide_0 * tall_0))) (f8 : (x5 + x9) ≤ 1000000) (f9 : 0 ≤ x5) (f10 : x6 ≠ x3) (f11 : BB3 (wide_0) (tall_0) (barredPoint_0) (costOf_0) (x6) (x7) (x9) (x10) (x11) (x12)) (f12 : (0 ≤ x9) ∧ (x9 ≤ x13)) (f13 : (-1) * x13 + 0 ≤ (-1)) (f15 : x22 = Int.tdiv (x6) (x17)) (g16 : x17 = wide_1) (f18 : GRX (wide_1) (tall_1)) (f19 : RTV (wide_1) (tall_1) (barredPoint_1) (costOf_1) (x3)) (f20 : (0 ≤ x3) ∧ ((x3 + 1) ≤ (wide_1 * tall_1))) (f21 : BB2 (wide_1) (tall_1) (barredPoint_1) (costOf_1) (x6) (x7) (x9)) (f22 : (0 ≤ x6) ∧ ((x6 + 1) ≤ (wide_1 * tall_1))) (f23 : (x5 + x9) ≤ 1000000) (f24 : 0 ≤ x5) (f25 : x6 ≠ x3) (f26 : BB3 (wide_1) (tall_1) (barredPoint_1) (costOf_1) (x6) (x7) (x9) (x10) (x11) (x12)) (f27 : (0 ≤ x9) ∧ (x9 ≤ x13)) (f28 : (-1) * x13 + 0 ≤ (-1)) (f30 : x18 = Int.tmod (x6) (x17)) (f32 : x5 < x14) (f33 : x10 ≠ x7) (f34 : x12 < 0) (f35 : GRX (wide_2) (tall_2)) (f36 : RTV (wide_2) (tall_2) (barredPoint_2) (costOf_2) (x3)) (f37 : (0 ≤ x3) ∧ ((x3 + 1) ≤ (wide_2 * tall_2))) (f38 : BB2 (wide_2) (tall_2) (barredPoint_2) (costOf_2) (x6) (x7) (x9)) (f39 : (0 ≤ x6) ∧ ((x6 + 1) ≤ (wide_2 * tall_2))) (f40 : (x5 + x9) ≤ 1000000) (f41 : 0 ≤ x5) (f42 : x6 ≠ x3) (f43 : BB3 (wide_2) (tall_2) (barredPoint_2) (costOf_2) (x6) (x7) (x9) (x10) (x11) (x12)) (f44 : (0 ≤ x9) ∧ (x9 ≤ x13)) (f45 : (-1) * x13 + 0 ≤ (-1)) (fe_0_146_1 : wide_0 = wide_1) (fe_0_147_1 : tall_0 = tall_1) (fe_0_146_2 : wide_1 = wide_2) (fe_0_147_2 : tall_1 = tall_2) (hE_0_140_1 : ∀ j : Int, costOf_0 j = costOf_1 j) (hE_0_140_2 : ∀ j : Int, costOf_1 j = costOf_2 j) (hK_0_140 : ∀ j : Int, 0 ≤ j → j < 24000 → 0 ≤ costOf_0 j ∧ costOf_0 j ≤ 1000000) (hE_0_143_1 : ∀ j : Int, barredPoint_0 j = barredPoint_1 j) (hE_0_143_2 : ∀ j : Int, barredPoint_1 j = barredPoint_2 j) (hK_0_143 : ∀ j : Int, 0 ≤ j → j < 6000 → 0 ≤ barredPoint_0 j ∧ barredPoint_0 j ≤ 1) (hE_0_148_1 : ∀ j : Int, turnX_0 j = turnX_1 j) (hE_0_148_2 : ∀ j : Int, 0 ≤ j → (j = x5 → turnX_1 j = x19) ∧ (j ≠ x5 → turnX_1 j = turnX_2 j)) (hK_0_148 : ∀ j : Int, 0 ≤ j → j < 26 → (-2147483648) ≤ turnX_0 j ∧ turnX_0 j ≤ 2005999) (hE_0_149_1 : ∀ j : Int, 0 ≤ j → (j = x5 → turnY_0 j = x23) ∧ (j ≠ x5 → turnY_0 j = turnY_1 j)) (hE_0_149_2 : ∀ j : Int, turnY_1 j = turnY_2 j) (hK_0_149 : ∀ j : Int, 0 ≤ j → j < 26 → (-2147483648) ≤ turnY_0 j ∧ turnY_0 j ≤ 2005999) (kz_0_146 : (-2147483648) ≤ wide_0 ∧ wide_0 ≤ 2147483647) (kz_0_147 : (-2147483648) ≤ tall_0 ∧ tall_0 ≤ 2147483647) : 0 ≤ x25 ∧ x25 ≤ 5999 := by
  subst fe_0_146_1
  subst fe_0_147_1
  subst fe_0_146_2
  subst fe_0_147_2
  have e_hE_0_140_1 := funext hE_0_140_1; subst e_hE_0_140_1
  have e_hE_0_140_2 := funext hE_0_140_2; subst e_hE_0_140_2
  have e_hE_0_143_1 := funext hE_0_143_1; subst e_hE_0_143_1
  have e_hE_0_143_2 := funext hE_0_143_2; subst e_hE_0_143_2
  have e_hE_0_148_1 := funext hE_0_148_1; subst e_hE_0_148_1
  have e_hE_0_149_2 := funext hE_0_149_2; subst e_hE_0_149_2
  first
    | omega
    | (have g := gok_bd ‹GRX _ _›; omega)
    | (have h := bb_next ‹RTV _ _ _ _ _› ‹BB2 _ _ _ _ _ _ _› ‹BB3 _ _ _ _ _ _ _ _ _ _› (by omega) (by omega)
       have h1 := h.1.1
       have h2 := h.2
       omega)
    | (obtain ⟨⟨mf, q, n1, n2, n3, n4⟩, u0, u1⟩ := bb_next ‹RTV _ _ _ _ _› ‹BB2 _ _ _ _ _ _ _› ‹BB3 _ _ _ _ _ _ _ _ _ _› (by omega) (by omega)
       have e := ‹STQ _ _ _ _ _ _›.2.2 q n1 n2
       have i := nb_in n1 (by have g := gok_bd ‹GRX _ _›; omega)
       have g3 := ‹GRX _ _›.2.2
       omega)
def o_Mo_bendsBecome_15 : or_T := (272, 26, [(0, (2, 0, 0, [150])), (3, (0, 0, 5999, [])), (5, (0, 0, 24, [])), (6, (0, 0, 5999, [])), (7, (0, 0, 3, [])), (9, (0, 0, 1000000, [])), (10, (0, 0, 3, [])), (11, (0, 0, 999999, [])), (12, (0, -1, -1, [])), (13, (0, -2, 1000000, [])), (14, (0, 25, 25, [])), (15, (2, 0, 0, [255])), (17, (0, 1, 6000, [])), (18, (0, 0, 5999, [])), (20, (2, 0, 0, [256])), (22, (0, 0, 5999, [])), (24, (0, 1, 25, [])), (25, (0, -1, 5999, []))], [(20, [0, 6, 10, 25], [60, 2, 1, 429, 146, 147, 143]), (20, [25, 0], [50, 2, 0, 1146, 1147, 2, 6, 0, 2, 0, -1, 1, 0, 0, 6, 4, 2, 1, 0, 0, 1, 6, 3, 2, 1, 146, 2, 1, 147]), (6, [24, 5], [1]), (20, [0], [60, 2, 0, 418, 146, 147]), (20, [0, 3], [60, 2, 2, 428, 146, 147, 143, 140]), (20, [3, 0], [50, 2, 0, 1146, 1147, 2, 6, 0, 2, 0, 0, 1, 0, 0, 6, 4, 2, 1, 0, 0, 1, 6, 3, 2, 1, 146, 2, 1, 147]), (20, [0, 6, 7, 9], [60, 2, 2, 431, 146, 147, 143, 140]), (20, [6, 0], [50, 2, 0, 1146, 1147, 2, 6, 0, 2, 0, 0, 1, 0, 0, 6, 4, 2, 1, 0, 0, 1, 6, 3, 2, 1, 146, 2, 1, 147]), (20, [5, 9], [50, 0, 0, 0, 6, 4, 2, 1, 0, 1, 1, 0, 1000000]), (20, [5], [50, 0, 0, 0, 2, 0, 0, 1, 0]), (20, [6, 3], [50, 0, 0, 7, 2, 1, 0, 1, 1]), (20, [0, 6, 7, 9, 10, 11, 12], [60, 2, 2, 432, 146, 147, 143, 140]), (20, [9, 13], [50, 0, 0, 2, 6, 0, 2, 0, 0, 1, 0, 0, 2, 1, 0, 1, 1]), (23, [13], [-1, -1]), (100, [20, 5, 23], []), (4, [22, 6, 17], []), (9, [17, 0], [146]), (9, [20, 0], [149]), (20, [0], [60, 2, 0, 418, 146, 147]), (20, [0, 3], [60, 2, 2, 428, 146, 147, 143, 140]), (20, [3, 0], [50, 2, 0, 1146, 1147, 2, 6, 0, 2, 0, 0, 1, 0, 0, 6, 4, 2, 1, 0, 0, 1, 6, 3, 2, 1, 146, 2, 1, 147]), (20, [0, 6, 7, 9], [60, 2, 2, 431, 146, 147, 143, 140]), (20, [6, 0], [50, 2, 0, 1146, 1147, 2, 6, 0, 2, 0, 0, 1, 0, 0, 6, 4, 2, 1, 0, 0, 1, 6, 3, 2, 1, 146, 2, 1, 147]), (20, [5, 9], [50, 0, 0, 0, 6, 4, 2, 1, 0, 1, 1, 0, 1000000]), (20, [5], [50, 0, 0, 0, 2, 0, 0, 1, 0]), (20, [6, 3], [50, 0, 0, 7, 2, 1, 0, 1, 1]), (20, [0, 6, 7, 9, 10, 11, 12], [60, 2, 2, 432, 146, 147, 143, 140]), (20, [9, 13], [50, 0, 0, 2, 6, 0, 2, 0, 0, 1, 0, 0, 2, 1, 0, 1, 1]), (23, [13], [-1, -1]), (100, [15, 5, 19], []), (5, [18, 6, 17], []), (9, [15, 0], [148]), (7, [5, 14], [2]), (7, [10, 7], [1]), (8, [12], [2]), (20, [0], [60, 2, 0, 418, 146, 147]), (20, [0, 3], [60, 2, 2, 428, 146, 147, 143, 140]), (20, [3, 0], [50, 2, 0, 1146, 1147, 2, 6, 0, 2, 0, 0, 1, 0, 0, 6, 4, 2, 1, 0, 0, 1, 6, 3, 2, 1, 146, 2, 1, 147]), (20, [0, 6, 7, 9], [60, 2, 2, 431, 146, 147, 143, 140]), (20, [6, 0], [50, 2, 0, 1146, 1147, 2, 6, 0, 2, 0, 0, 1, 0, 0, 6, 4, 2, 1, 0, 0, 1, 6, 3, 2, 1, 146, 2, 1, 147]), (20, [5, 9], [50, 0, 0, 0, 6, 4, 2, 1, 0, 1, 1, 0, 1000000]), (20, [5], [50, 0, 0, 0, 2, 0, 0, 1, 0]), (20, [6, 3], [50, 0, 0, 7, 2, 1, 0, 1, 1]), (20, [0, 6, 7, 9, 10, 11, 12], [60, 2, 2, 432, 146, 147, 143, 140]), (20, [9, 13], [50, 0, 0, 2, 6, 0, 2, 0, 0, 1, 0, 0, 2, 1, 0, 1, 1]), (23, [13], [-1, -1])], [(25, (0, 0, 5999, []))], [], [], [], [(24, 5, 1, 1), (18, 17, -4294967295, -1), (10, 9, -4294967296, 2), (11, 9, -4294967296, 0)])
theorem oo_Mo_bendsBecome_15 {kA : Nat → ClassId} : or_ok PRD kA GG o_Mo_bendsBecome_15 := by
  intro A ta ws vs hD hth hl hk hds hf
  have hl : vs.length = 26 := hl
  have hk : ∀ q ∈ ([(0, (2, 0, 0, [150])), (3, (0, 0, 5999, [])), (5, (0, 0, 24, [])), (6, (0, 0, 5999, [])), (7, (0, 0, 3, [])), (9, (0, 0, 1000000, [])), (10, (0, 0, 3, [])), (11, (0, 0, 999999, [])), (12, (0, -1, -1, [])), (13, (0, -2, 1000000, [])), (14, (0, 25, 25, [])), (15, (2, 0, 0, [255])), (17, (0, 1, 6000, [])), (18, (0, 0, 5999, [])), (20, (2, 0, 0, [256])), (22, (0, 0, 5999, [])), (24, (0, 1, 25, [])), (25, (0, -1, 5999, []))] : List (Nat × tv_T)), tv_ok ta q.2 (n_v vs q.1) := hk
  obtain ⟨t0, hk⟩ := List.forall_mem_cons.mp hk
  have t0 : tv_ok ta (2, 0, 0, [150]) (n_v vs 0) := t0
  have r0 : ta (v_ad (n_v vs 0)) = some 150 := tv_rg t0
  obtain ⟨t3, hk⟩ := List.forall_mem_cons.mp hk
  have t3 : tv_ok ta (0, 0, 5999, []) (n_v vs 3) := t3
  have k3 : 0 ≤ v_iv (n_v vs 3) ∧ v_iv (n_v vs 3) ≤ 5999 := tv_rng t3
  obtain ⟨t5, hk⟩ := List.forall_mem_cons.mp hk
  have t5 : tv_ok ta (0, 0, 24, []) (n_v vs 5) := t5
  have k5 : 0 ≤ v_iv (n_v vs 5) ∧ v_iv (n_v vs 5) ≤ 24 := tv_rng t5
  obtain ⟨t6, hk⟩ := List.forall_mem_cons.mp hk
  have t6 : tv_ok ta (0, 0, 5999, []) (n_v vs 6) := t6
  have k6 : 0 ≤ v_iv (n_v vs 6) ∧ v_iv (n_v vs 6) ≤ 5999 := tv_rng t6
  obtain ⟨t7, hk⟩ := List.forall_mem_cons.mp hk
  have t7 : tv_ok ta (0, 0, 3, []) (n_v vs 7) := t7
  have k7 : 0 ≤ v_iv (n_v vs 7) ∧ v_iv (n_v vs 7) ≤ 3 := tv_rng t7
  obtain ⟨t9, hk⟩ := List.forall_mem_cons.mp hk
  have t9 : tv_ok ta (0, 0, 1000000, []) (n_v vs 9) := t9
  have k9 : 0 ≤ v_iv (n_v vs 9) ∧ v_iv (n_v vs 9) ≤ 1000000 := tv_rng t9
  obtain ⟨t10, hk⟩ := List.forall_mem_cons.mp hk
  have t10 : tv_ok ta (0, 0, 3, []) (n_v vs 10) := t10
  have k10 : 0 ≤ v_iv (n_v vs 10) ∧ v_iv (n_v vs 10) ≤ 3 := tv_rng t10
  obtain ⟨t11, hk⟩ := List.forall_mem_cons.mp hk
  have t11 : tv_ok ta (0, 0, 999999, []) (n_v vs 11) := t11
  have k11 : 0 ≤ v_iv (n_v vs 11) ∧ v_iv (n_v vs 11) ≤ 999999 := tv_rng t11
  obtain ⟨t12, hk⟩ := List.forall_mem_cons.mp hk
  have t12 : tv_ok ta (0, -1, -1, []) (n_v vs 12) := t12
  have k12 : (-1) ≤ v_iv (n_v vs 12) ∧ v_iv (n_v vs 12) ≤ (-1) := tv_rng t12
  obtain ⟨t13, hk⟩ := List.forall_mem_cons.mp hk
  have t13 : tv_ok ta (0, -2, 1000000, []) (n_v vs 13) := t13
  have k13 : (-2) ≤ v_iv (n_v vs 13) ∧ v_iv (n_v vs 13) ≤ 1000000 := tv_rng t13
  obtain ⟨t14, hk⟩ := List.forall_mem_cons.mp hk
  have t14 : tv_ok ta (0, 25, 25, []) (n_v vs 14) := t14
  have k14 : 25 ≤ v_iv (n_v vs 14) ∧ v_iv (n_v vs 14) ≤ 25 := tv_rng t14
  obtain ⟨t15, hk⟩ := List.forall_mem_cons.mp hk
  have t15 : tv_ok ta (2, 0, 0, [255]) (n_v vs 15) := t15
  have r15 : ta (v_ad (n_v vs 15)) = some 255 := tv_rg t15
  obtain ⟨t17, hk⟩ := List.forall_mem_cons.mp hk
  have t17 : tv_ok ta (0, 1, 6000, []) (n_v vs 17) := t17
  have k17 : 1 ≤ v_iv (n_v vs 17) ∧ v_iv (n_v vs 17) ≤ 6000 := tv_rng t17
  obtain ⟨t18, hk⟩ := List.forall_mem_cons.mp hk
  have t18 : tv_ok ta (0, 0, 5999, []) (n_v vs 18) := t18
  have k18 : 0 ≤ v_iv (n_v vs 18) ∧ v_iv (n_v vs 18) ≤ 5999 := tv_rng t18
  obtain ⟨t20, hk⟩ := List.forall_mem_cons.mp hk
  have t20 : tv_ok ta (2, 0, 0, [256]) (n_v vs 20) := t20
  have r20 : ta (v_ad (n_v vs 20)) = some 256 := tv_rg t20
  obtain ⟨t22, hk⟩ := List.forall_mem_cons.mp hk
  have t22 : tv_ok ta (0, 0, 5999, []) (n_v vs 22) := t22
  have k22 : 0 ≤ v_iv (n_v vs 22) ∧ v_iv (n_v vs 22) ≤ 5999 := tv_rng t22
  obtain ⟨t24, hk⟩ := List.forall_mem_cons.mp hk
  have t24 : tv_ok ta (0, 1, 25, []) (n_v vs 24) := t24
  have k24 : 1 ≤ v_iv (n_v vs 24) ∧ v_iv (n_v vs 24) ≤ 25 := tv_rng t24
  obtain ⟨t25, hk⟩ := List.forall_mem_cons.mp hk
  have t25 : tv_ok ta (0, -1, 5999, []) (n_v vs 25) := t25
  have k25 : (-1) ≤ v_iv (n_v vs 25) ∧ v_iv (n_v vs 25) ≤ 5999 := tv_rng t25
  have hds : ∀ q ∈ ([(24, 5, 1, 1), (18, 17, -4294967295, -1), (10, 9, -4294967296, 2), (11, 9, -4294967296, 0)] : List of_T), n_iv vs q.2.1 + q.2.2.1 ≤ n_iv vs q.1 ∧ n_iv vs q.1 ≤ n_iv vs q.2.1 + q.2.2.2 := hds
  obtain ⟨d0, hds⟩ := List.forall_mem_cons.mp hds
  have d0 : v_iv (n_v vs 5) + 1 ≤ v_iv (n_v vs 24) ∧ v_iv (n_v vs 24) ≤ v_iv (n_v vs 5) + 1 := d0
  obtain ⟨d1, hds⟩ := List.forall_mem_cons.mp hds
  have d1 : v_iv (n_v vs 17) + (-4294967295) ≤ v_iv (n_v vs 18) ∧ v_iv (n_v vs 18) ≤ v_iv (n_v vs 17) + (-1) := d1
  obtain ⟨d2, hds⟩ := List.forall_mem_cons.mp hds
  have d2 : v_iv (n_v vs 9) + (-4294967296) ≤ v_iv (n_v vs 10) ∧ v_iv (n_v vs 10) ≤ v_iv (n_v vs 9) + 2 := d2
  obtain ⟨d3, hds⟩ := List.forall_mem_cons.mp hds
  have d3 : v_iv (n_v vs 9) + (-4294967296) ≤ v_iv (n_v vs 11) ∧ v_iv (n_v vs 11) ≤ v_iv (n_v vs 9) + 0 := d3
  have hf : fc_ok PRD [(20, [0, 6, 10, 25], [60, 2, 1, 429, 146, 147, 143]), (20, [25, 0], [50, 2, 0, 1146, 1147, 2, 6, 0, 2, 0, -1, 1, 0, 0, 6, 4, 2, 1, 0, 0, 1, 6, 3, 2, 1, 146, 2, 1, 147]), (6, [24, 5], [1]), (20, [0], [60, 2, 0, 418, 146, 147]), (20, [0, 3], [60, 2, 2, 428, 146, 147, 143, 140]), (20, [3, 0], [50, 2, 0, 1146, 1147, 2, 6, 0, 2, 0, 0, 1, 0, 0, 6, 4, 2, 1, 0, 0, 1, 6, 3, 2, 1, 146, 2, 1, 147]), (20, [0, 6, 7, 9], [60, 2, 2, 431, 146, 147, 143, 140]), (20, [6, 0], [50, 2, 0, 1146, 1147, 2, 6, 0, 2, 0, 0, 1, 0, 0, 6, 4, 2, 1, 0, 0, 1, 6, 3, 2, 1, 146, 2, 1, 147]), (20, [5, 9], [50, 0, 0, 0, 6, 4, 2, 1, 0, 1, 1, 0, 1000000]), (20, [5], [50, 0, 0, 0, 2, 0, 0, 1, 0]), (20, [6, 3], [50, 0, 0, 7, 2, 1, 0, 1, 1]), (20, [0, 6, 7, 9, 10, 11, 12], [60, 2, 2, 432, 146, 147, 143, 140]), (20, [9, 13], [50, 0, 0, 2, 6, 0, 2, 0, 0, 1, 0, 0, 2, 1, 0, 1, 1]), (23, [13], [-1, -1]), (100, [20, 5, 23], []), (4, [22, 6, 17], []), (9, [17, 0], [146]), (9, [20, 0], [149]), (20, [0], [60, 2, 0, 418, 146, 147]), (20, [0, 3], [60, 2, 2, 428, 146, 147, 143, 140]), (20, [3, 0], [50, 2, 0, 1146, 1147, 2, 6, 0, 2, 0, 0, 1, 0, 0, 6, 4, 2, 1, 0, 0, 1, 6, 3, 2, 1, 146, 2, 1, 147]), (20, [0, 6, 7, 9], [60, 2, 2, 431, 146, 147, 143, 140]), (20, [6, 0], [50, 2, 0, 1146, 1147, 2, 6, 0, 2, 0, 0, 1, 0, 0, 6, 4, 2, 1, 0, 0, 1, 6, 3, 2, 1, 146, 2, 1, 147]), (20, [5, 9], [50, 0, 0, 0, 6, 4, 2, 1, 0, 1, 1, 0, 1000000]), (20, [5], [50, 0, 0, 0, 2, 0, 0, 1, 0]), (20, [6, 3], [50, 0, 0, 7, 2, 1, 0, 1, 1]), (20, [0, 6, 7, 9, 10, 11, 12], [60, 2, 2, 432, 146, 147, 143, 140]), (20, [9, 13], [50, 0, 0, 2, 6, 0, 2, 0, 0, 1, 0, 0, 2, 1, 0, 1, 1]), (23, [13], [-1, -1]), (100, [15, 5, 19], []), (5, [18, 6, 17], []), (9, [15, 0], [148]), (7, [5, 14], [2]), (7, [10, 7], [1]), (8, [12], [2]), (20, [0], [60, 2, 0, 418, 146, 147]), (20, [0, 3], [60, 2, 2, 428, 146, 147, 143, 140]), (20, [3, 0], [50, 2, 0, 1146, 1147, 2, 6, 0, 2, 0, 0, 1, 0, 0, 6, 4, 2, 1, 0, 0, 1, 6, 3, 2, 1, 146, 2, 1, 147]), (20, [0, 6, 7, 9], [60, 2, 2, 431, 146, 147, 143, 140]), (20, [6, 0], [50, 2, 0, 1146, 1147, 2, 6, 0, 2, 0, 0, 1, 0, 0, 6, 4, 2, 1, 0, 0, 1, 6, 3, 2, 1, 146, 2, 1, 147]), (20, [5, 9], [50, 0, 0, 0, 6, 4, 2, 1, 0, 1, 1, 0, 1000000]), (20, [5], [50, 0, 0, 0, 2, 0, 0, 1, 0]), (20, [6, 3], [50, 0, 0, 7, 2, 1, 0, 1, 1]), (20, [0, 6, 7, 9, 10, 11, 12], [60, 2, 2, 432, 146, 147, 143, 140]), (20, [9, 13], [50, 0, 0, 2, 6, 0, 2, 0, 0, 1, 0, 0, 2, 1, 0, 1, 1]), (23, [13], [-1, -1])] ta ws vs := hf
  obtain ⟨f0, hf⟩ := fc_un (show (20 : Nat) < 100 from by decide) hf
  have f0 : STQ (w_fi ws (n_v vs 0) 146) (w_fi ws (n_v vs 0) 147) (w_ei ws (w_ar ws (n_v vs 0) 143)) (v_iv (n_v vs 6)) (v_iv (n_v vs 10)) (v_iv (n_v vs 25)) := f0
  obtain ⟨f1, hf⟩ := fc_un (show (20 : Nat) < 100 from by decide) hf
  have f1 : ((-1) ≤ v_iv (n_v vs 25)) ∧ ((v_iv (n_v vs 25) + 1) ≤ (w_fi ws (n_v vs 0) 146 * w_fi ws (n_v vs 0) 147)) := f1
  obtain ⟨f2, hf⟩ := fc_un (show (6 : Nat) < 100 from by decide) hf
  have f2 : v_iv (n_v vs 24) = v_iv (n_v vs 5) + 1 := f2
  obtain ⟨f3, hf⟩ := fc_un (show (20 : Nat) < 100 from by decide) hf
  have f3 : GRX (w_fi ws (n_v vs 0) 146) (w_fi ws (n_v vs 0) 147) := f3
  obtain ⟨f4, hf⟩ := fc_un (show (20 : Nat) < 100 from by decide) hf
  have f4 : RTV (w_fi ws (n_v vs 0) 146) (w_fi ws (n_v vs 0) 147) (w_ei ws (w_ar ws (n_v vs 0) 143)) (w_ei ws (w_ar ws (n_v vs 0) 140)) (v_iv (n_v vs 3)) := f4
  obtain ⟨f5, hf⟩ := fc_un (show (20 : Nat) < 100 from by decide) hf
  have f5 : (0 ≤ v_iv (n_v vs 3)) ∧ ((v_iv (n_v vs 3) + 1) ≤ (w_fi ws (n_v vs 0) 146 * w_fi ws (n_v vs 0) 147)) := f5
  obtain ⟨f6, hf⟩ := fc_un (show (20 : Nat) < 100 from by decide) hf
  have f6 : BB2 (w_fi ws (n_v vs 0) 146) (w_fi ws (n_v vs 0) 147) (w_ei ws (w_ar ws (n_v vs 0) 143)) (w_ei ws (w_ar ws (n_v vs 0) 140)) (v_iv (n_v vs 6)) (v_iv (n_v vs 7)) (v_iv (n_v vs 9)) := f6
  obtain ⟨f7, hf⟩ := fc_un (show (20 : Nat) < 100 from by decide) hf
  have f7 : (0 ≤ v_iv (n_v vs 6)) ∧ ((v_iv (n_v vs 6) + 1) ≤ (w_fi ws (n_v vs 0) 146 * w_fi ws (n_v vs 0) 147)) := f7
  obtain ⟨f8, hf⟩ := fc_un (show (20 : Nat) < 100 from by decide) hf
  have f8 : (v_iv (n_v vs 5) + v_iv (n_v vs 9)) ≤ 1000000 := f8
  obtain ⟨f9, hf⟩ := fc_un (show (20 : Nat) < 100 from by decide) hf
  have f9 : 0 ≤ v_iv (n_v vs 5) := f9
  obtain ⟨f10, hf⟩ := fc_un (show (20 : Nat) < 100 from by decide) hf
  have f10 : v_iv (n_v vs 6) ≠ v_iv (n_v vs 3) := f10
  obtain ⟨f11, hf⟩ := fc_un (show (20 : Nat) < 100 from by decide) hf
  have f11 : BB3 (w_fi ws (n_v vs 0) 146) (w_fi ws (n_v vs 0) 147) (w_ei ws (w_ar ws (n_v vs 0) 143)) (w_ei ws (w_ar ws (n_v vs 0) 140)) (v_iv (n_v vs 6)) (v_iv (n_v vs 7)) (v_iv (n_v vs 9)) (v_iv (n_v vs 10)) (v_iv (n_v vs 11)) (v_iv (n_v vs 12)) := f11
  obtain ⟨f12, hf⟩ := fc_un (show (20 : Nat) < 100 from by decide) hf
  have f12 : (0 ≤ v_iv (n_v vs 9)) ∧ (v_iv (n_v vs 9) ≤ v_iv (n_v vs 13)) := f12
  obtain ⟨f13, hf⟩ := fc_un (show (23 : Nat) < 100 from by decide) hf
  have f13 : (-1) * v_iv (n_v vs 13) + 0 ≤ (-1) := f13
  obtain ⟨ta1, w1, le1, ⟨_, s1⟩, hf⟩ := fc_us (show ¬ (100 : Nat) < 100 from by decide) hf
  have s1 : (∀ b j, w_el ws b j = if b = v_ad (n_v vs 20) ∧ j = (v_iv (n_v vs 5)).toNat then v_iv (n_v vs 23) else w_el w1 b j) ∧ ∀ b k, w_fd ws b k = w_fd w1 b k := s1
  obtain ⟨f15, hf⟩ := fc_un (show (4 : Nat) < 100 from by decide) hf
  have f15 : v_iv (n_v vs 22) = Int.tdiv (v_iv (n_v vs 6)) (v_iv (n_v vs 17)) := f15
  have fq15 : 10 ≤ v_iv (n_v vs 22) → 10 * v_iv (n_v vs 17) ≤ v_iv (n_v vs 6) := dv_ten f15 (by omega) (by omega)
  obtain ⟨f16, hf⟩ := fc_un (show (9 : Nat) < 100 from by decide) hf
  have f16 : n_v vs 17 = w_fd w1 (v_ad (n_v vs 0)) 146 := f16
  obtain ⟨f17, hf⟩ := fc_un (show (9 : Nat) < 100 from by decide) hf
  have f17 : n_v vs 20 = w_fd w1 (v_ad (n_v vs 0)) 149 := f17
  obtain ⟨f18, hf⟩ := fc_un (show (20 : Nat) < 100 from by decide) hf
  have f18 : GRX (w_fi w1 (n_v vs 0) 146) (w_fi w1 (n_v vs 0) 147) := f18
  obtain ⟨f19, hf⟩ := fc_un (show (20 : Nat) < 100 from by decide) hf
  have f19 : RTV (w_fi w1 (n_v vs 0) 146) (w_fi w1 (n_v vs 0) 147) (w_ei w1 (w_ar w1 (n_v vs 0) 143)) (w_ei w1 (w_ar w1 (n_v vs 0) 140)) (v_iv (n_v vs 3)) := f19
  obtain ⟨f20, hf⟩ := fc_un (show (20 : Nat) < 100 from by decide) hf
  have f20 : (0 ≤ v_iv (n_v vs 3)) ∧ ((v_iv (n_v vs 3) + 1) ≤ (w_fi w1 (n_v vs 0) 146 * w_fi w1 (n_v vs 0) 147)) := f20
  obtain ⟨f21, hf⟩ := fc_un (show (20 : Nat) < 100 from by decide) hf
  have f21 : BB2 (w_fi w1 (n_v vs 0) 146) (w_fi w1 (n_v vs 0) 147) (w_ei w1 (w_ar w1 (n_v vs 0) 143)) (w_ei w1 (w_ar w1 (n_v vs 0) 140)) (v_iv (n_v vs 6)) (v_iv (n_v vs 7)) (v_iv (n_v vs 9)) := f21
  obtain ⟨f22, hf⟩ := fc_un (show (20 : Nat) < 100 from by decide) hf
  have f22 : (0 ≤ v_iv (n_v vs 6)) ∧ ((v_iv (n_v vs 6) + 1) ≤ (w_fi w1 (n_v vs 0) 146 * w_fi w1 (n_v vs 0) 147)) := f22
  obtain ⟨f23, hf⟩ := fc_un (show (20 : Nat) < 100 from by decide) hf
  have f23 : (v_iv (n_v vs 5) + v_iv (n_v vs 9)) ≤ 1000000 := f23
  obtain ⟨f24, hf⟩ := fc_un (show (20 : Nat) < 100 from by decide) hf
  have f24 : 0 ≤ v_iv (n_v vs 5) := f24
  obtain ⟨f25, hf⟩ := fc_un (show (20 : Nat) < 100 from by decide) hf
  have f25 : v_iv (n_v vs 6) ≠ v_iv (n_v vs 3) := f25
  obtain ⟨f26, hf⟩ := fc_un (show (20 : Nat) < 100 from by decide) hf
  have f26 : BB3 (w_fi w1 (n_v vs 0) 146) (w_fi w1 (n_v vs 0) 147) (w_ei w1 (w_ar w1 (n_v vs 0) 143)) (w_ei w1 (w_ar w1 (n_v vs 0) 140)) (v_iv (n_v vs 6)) (v_iv (n_v vs 7)) (v_iv (n_v vs 9)) (v_iv (n_v vs 10)) (v_iv (n_v vs 11)) (v_iv (n_v vs 12)) := f26
  obtain ⟨f27, hf⟩ := fc_un (show (20 : Nat) < 100 from by decide) hf
  have f27 : (0 ≤ v_iv (n_v vs 9)) ∧ (v_iv (n_v vs 9) ≤ v_iv (n_v vs 13)) := f27
  obtain ⟨f28, hf⟩ := fc_un (show (23 : Nat) < 100 from by decide) hf
  have f28 : (-1) * v_iv (n_v vs 13) + 0 ≤ (-1) := f28
  obtain ⟨ta2, w2, le2, ⟨_, s2⟩, hf⟩ := fc_us (show ¬ (100 : Nat) < 100 from by decide) hf
  have s2 : (∀ b j, w_el w1 b j = if b = v_ad (n_v vs 15) ∧ j = (v_iv (n_v vs 5)).toNat then v_iv (n_v vs 19) else w_el w2 b j) ∧ ∀ b k, w_fd w1 b k = w_fd w2 b k := s2
  obtain ⟨f30, hf⟩ := fc_un (show (5 : Nat) < 100 from by decide) hf
  have f30 : v_iv (n_v vs 18) = Int.tmod (v_iv (n_v vs 6)) (v_iv (n_v vs 17)) := f30
  obtain ⟨f31, hf⟩ := fc_un (show (9 : Nat) < 100 from by decide) hf
  have f31 : n_v vs 15 = w_fd w2 (v_ad (n_v vs 0)) 148 := f31
  obtain ⟨f32, hf⟩ := fc_un (show (7 : Nat) < 100 from by decide) hf
  have f32 : v_iv (n_v vs 5) < v_iv (n_v vs 14) := f32
  obtain ⟨f33, hf⟩ := fc_un (show (7 : Nat) < 100 from by decide) hf
  have f33 : v_iv (n_v vs 10) ≠ v_iv (n_v vs 7) := f33
  obtain ⟨f34, hf⟩ := fc_un (show (8 : Nat) < 100 from by decide) hf
  have f34 : v_iv (n_v vs 12) < 0 := f34
  obtain ⟨f35, hf⟩ := fc_un (show (20 : Nat) < 100 from by decide) hf
  have f35 : GRX (w_fi w2 (n_v vs 0) 146) (w_fi w2 (n_v vs 0) 147) := f35
  obtain ⟨f36, hf⟩ := fc_un (show (20 : Nat) < 100 from by decide) hf
  have f36 : RTV (w_fi w2 (n_v vs 0) 146) (w_fi w2 (n_v vs 0) 147) (w_ei w2 (w_ar w2 (n_v vs 0) 143)) (w_ei w2 (w_ar w2 (n_v vs 0) 140)) (v_iv (n_v vs 3)) := f36
  obtain ⟨f37, hf⟩ := fc_un (show (20 : Nat) < 100 from by decide) hf
  have f37 : (0 ≤ v_iv (n_v vs 3)) ∧ ((v_iv (n_v vs 3) + 1) ≤ (w_fi w2 (n_v vs 0) 146 * w_fi w2 (n_v vs 0) 147)) := f37
  obtain ⟨f38, hf⟩ := fc_un (show (20 : Nat) < 100 from by decide) hf
  have f38 : BB2 (w_fi w2 (n_v vs 0) 146) (w_fi w2 (n_v vs 0) 147) (w_ei w2 (w_ar w2 (n_v vs 0) 143)) (w_ei w2 (w_ar w2 (n_v vs 0) 140)) (v_iv (n_v vs 6)) (v_iv (n_v vs 7)) (v_iv (n_v vs 9)) := f38
  obtain ⟨f39, hf⟩ := fc_un (show (20 : Nat) < 100 from by decide) hf
  have f39 : (0 ≤ v_iv (n_v vs 6)) ∧ ((v_iv (n_v vs 6) + 1) ≤ (w_fi w2 (n_v vs 0) 146 * w_fi w2 (n_v vs 0) 147)) := f39
  obtain ⟨f40, hf⟩ := fc_un (show (20 : Nat) < 100 from by decide) hf
  have f40 : (v_iv (n_v vs 5) + v_iv (n_v vs 9)) ≤ 1000000 := f40
  obtain ⟨f41, hf⟩ := fc_un (show (20 : Nat) < 100 from by decide) hf
  have f41 : 0 ≤ v_iv (n_v vs 5) := f41
  obtain ⟨f42, hf⟩ := fc_un (show (20 : Nat) < 100 from by decide) hf
  have f42 : v_iv (n_v vs 6) ≠ v_iv (n_v vs 3) := f42
  obtain ⟨f43, hf⟩ := fc_un (show (20 : Nat) < 100 from by decide) hf
  have f43 : BB3 (w_fi w2 (n_v vs 0) 146) (w_fi w2 (n_v vs 0) 147) (w_ei w2 (w_ar w2 (n_v vs 0) 143)) (w_ei w2 (w_ar w2 (n_v vs 0) 140)) (v_iv (n_v vs 6)) (v_iv (n_v vs 7)) (v_iv (n_v vs 9)) (v_iv (n_v vs 10)) (v_iv (n_v vs 11)) (v_iv (n_v vs 12)) := f43
  obtain ⟨f44, hf⟩ := fc_un (show (20 : Nat) < 100 from by decide) hf
  have f44 : (0 ≤ v_iv (n_v vs 9)) ∧ (v_iv (n_v vs 9) ≤ v_iv (n_v vs 13)) := f44
  obtain ⟨f45, hf⟩ := fc_un (show (23 : Nat) < 100 from by decide) hf
  have f45 : (-1) * v_iv (n_v vs 13) + 0 ≤ (-1) := f45
  have ar_0_140_1 : w_ar w1 (n_v vs 0) 140 = w_ar ws (n_v vs 0) 140 := by show v_ad (w_fd w1 _ _) = v_ad (w_fd ws _ _); rw [s1.2]
  have ar_0_140_2 : w_ar w2 (n_v vs 0) 140 = w_ar ws (n_v vs 0) 140 := by rw [← ar_0_140_1]; show v_ad (w_fd w2 _ _) = v_ad (w_fd w1 _ _); rw [s2.2]
  have cr_0_140 : ta (w_ar ws (n_v vs 0) 140) = some 251 := tv_rg (th_fd hD hth r0 (g := GG_150) rfl (k := 140) (t := (2, 0, 0, [251])) rfl rfl)
  have ar_0_143_1 : w_ar w1 (n_v vs 0) 143 = w_ar ws (n_v vs 0) 143 := by show v_ad (w_fd w1 _ _) = v_ad (w_fd ws _ _); rw [s1.2]
  have ar_0_143_2 : w_ar w2 (n_v vs 0) 143 = w_ar ws (n_v vs 0) 143 := by rw [← ar_0_143_1]; show v_ad (w_fd w2 _ _) = v_ad (w_fd w1 _ _); rw [s2.2]
  have cr_0_143 : ta (w_ar ws (n_v vs 0) 143) = some 254 := tv_rg (th_fd hD hth r0 (g := GG_150) rfl (k := 143) (t := (2, 0, 0, [254])) rfl rfl)
  have ar_0_148_1 : w_ar w1 (n_v vs 0) 148 = w_ar ws (n_v vs 0) 148 := by show v_ad (w_fd w1 _ _) = v_ad (w_fd ws _ _); rw [s1.2]
  have ar_0_148_2 : w_ar w2 (n_v vs 0) 148 = w_ar ws (n_v vs 0) 148 := by rw [← ar_0_148_1]; show v_ad (w_fd w2 _ _) = v_ad (w_fd w1 _ _); rw [s2.2]
  have cr_0_148 : ta (w_ar ws (n_v vs 0) 148) = some 255 := tv_rg (th_fd hD hth r0 (g := GG_150) rfl (k := 148) (t := (2, 0, 0, [255])) rfl rfl)
  have ar_0_149_1 : w_ar w1 (n_v vs 0) 149 = w_ar ws (n_v vs 0) 149 := by show v_ad (w_fd w1 _ _) = v_ad (w_fd ws _ _); rw [s1.2]
  have ar_0_149_2 : w_ar w2 (n_v vs 0) 149 = w_ar ws (n_v vs 0) 149 := by rw [← ar_0_149_1]; show v_ad (w_fd w2 _ _) = v_ad (w_fd w1 _ _); rw [s2.2]
  have cr_0_149 : ta (w_ar ws (n_v vs 0) 149) = some 256 := tv_rg (th_fd hD hth r0 (g := GG_150) rfl (k := 149) (t := (2, 0, 0, [256])) rfl rfl)
  have ad_20 : v_ad (n_v vs 20) = w_ar ws (n_v vs 0) 149 := (congrArg v_ad f17).trans ar_0_149_1
  have ad_15 : v_ad (n_v vs 15) = w_ar ws (n_v vs 0) 148 := (congrArg v_ad f31).trans ar_0_148_2
  have g16 : v_iv (n_v vs 17) = w_fi w1 (n_v vs 0) 146 := congrArg v_iv f16
  rw [ar_0_140_1] at f19
  rw [ar_0_143_1] at f19
  rw [ar_0_140_1] at f21
  rw [ar_0_143_1] at f21
  rw [ar_0_140_1] at f26
  rw [ar_0_143_1] at f26
  rw [ar_0_140_2] at f36
  rw [ar_0_143_2] at f36
  rw [ar_0_140_2] at f38
  rw [ar_0_143_2] at f38
  rw [ar_0_140_2] at f43
  rw [ar_0_143_2] at f43
  have fe_0_146_1 : w_fi ws (n_v vs 0) 146 = w_fi w1 (n_v vs 0) 146 := congrArg v_iv (s1.2 _ _)
  have fe_0_147_1 : w_fi ws (n_v vs 0) 147 = w_fi w1 (n_v vs 0) 147 := congrArg v_iv (s1.2 _ _)
  have fe_0_146_2 : w_fi w1 (n_v vs 0) 146 = w_fi w2 (n_v vs 0) 146 := congrArg v_iv (s2.2 _ _)
  have fe_0_147_2 : w_fi w1 (n_v vs 0) 147 = w_fi w2 (n_v vs 0) 147 := congrArg v_iv (s2.2 _ _)
  have hE_0_140_1 : ∀ j : Int, w_ei ws (w_ar ws (n_v vs 0) 140) j = w_ei w1 (w_ar ws (n_v vs 0) 140) j := fun j => by unfold w_ei; rw [s1.1, if_neg (fun e => by have e1 := e.1; rw [← e1] at r20; rw [cr_0_140] at r20; exact absurd (Option.some.inj r20) (by decide))]
  have hE_0_140_2 : ∀ j : Int, w_ei w1 (w_ar ws (n_v vs 0) 140) j = w_ei w2 (w_ar ws (n_v vs 0) 140) j := fun j => by unfold w_ei; rw [s2.1, if_neg (fun e => by have e1 := e.1; rw [← e1] at r15; rw [cr_0_140] at r15; exact absurd (Option.some.inj r15) (by decide))]
  have hK_0_140 : ∀ j : Int, 0 ≤ j → j < 24000 → 0 ≤ w_ei ws (w_ar ws (n_v vs 0) 140) j ∧ w_ei ws (w_ar ws (n_v vs 0) 140) j ≤ 1000000 := fun j h0 h1 => th_el hD hth cr_0_140 (kd := 0) (n := 24000) (m := 24000) (lo := 0) (hi := 1000000) (rs := []) (L := []) rfl (by decide) (j := j.toNat) (by omega)
  have hE_0_143_1 : ∀ j : Int, w_ei ws (w_ar ws (n_v vs 0) 143) j = w_ei w1 (w_ar ws (n_v vs 0) 143) j := fun j => by unfold w_ei; rw [s1.1, if_neg (fun e => by have e1 := e.1; rw [← e1] at r20; rw [cr_0_143] at r20; exact absurd (Option.some.inj r20) (by decide))]
  have hE_0_143_2 : ∀ j : Int, w_ei w1 (w_ar ws (n_v vs 0) 143) j = w_ei w2 (w_ar ws (n_v vs 0) 143) j := fun j => by unfold w_ei; rw [s2.1, if_neg (fun e => by have e1 := e.1; rw [← e1] at r15; rw [cr_0_143] at r15; exact absurd (Option.some.inj r15) (by decide))]
  have hK_0_143 : ∀ j : Int, 0 ≤ j → j < 6000 → 0 ≤ w_ei ws (w_ar ws (n_v vs 0) 143) j ∧ w_ei ws (w_ar ws (n_v vs 0) 143) j ≤ 1 := fun j h0 h1 => th_el hD hth cr_0_143 (kd := 2) (n := 6000) (m := 6000) (lo := 0) (hi := 1) (rs := []) (L := []) rfl (by decide) (j := j.toNat) (by omega)
  have hE_0_148_1 : ∀ j : Int, w_ei ws (w_ar ws (n_v vs 0) 148) j = w_ei w1 (w_ar ws (n_v vs 0) 148) j := fun j => by unfold w_ei; rw [s1.1, if_neg (fun e => by have e1 := e.1; rw [← e1] at r20; rw [cr_0_148] at r20; exact absurd (Option.some.inj r20) (by decide))]
  have hE_0_148_2 : ∀ j : Int, 0 ≤ j → (j = v_iv (n_v vs 5) → w_ei w1 (w_ar ws (n_v vs 0) 148) j = v_iv (n_v vs 19)) ∧ (j ≠ v_iv (n_v vs 5) → w_ei w1 (w_ar ws (n_v vs 0) 148) j = w_ei w2 (w_ar ws (n_v vs 0) 148) j) := fun j hj => ⟨fun h => by unfold w_ei; rw [s2.1, if_pos ⟨ad_15.symm, by rw [h]⟩], fun h => by unfold w_ei; rw [s2.1, if_neg (fun e => h (by have := e.2; omega))]⟩
  have hK_0_148 : ∀ j : Int, 0 ≤ j → j < 26 → (-2147483648) ≤ w_ei ws (w_ar ws (n_v vs 0) 148) j ∧ w_ei ws (w_ar ws (n_v vs 0) 148) j ≤ 2005999 := fun j h0 h1 => th_el hD hth cr_0_148 (kd := 0) (n := 26) (m := 26) (lo := (-2147483648)) (hi := 2005999) (rs := []) (L := []) rfl (by decide) (j := j.toNat) (by omega)
  have hE_0_149_1 : ∀ j : Int, 0 ≤ j → (j = v_iv (n_v vs 5) → w_ei ws (w_ar ws (n_v vs 0) 149) j = v_iv (n_v vs 23)) ∧ (j ≠ v_iv (n_v vs 5) → w_ei ws (w_ar ws (n_v vs 0) 149) j = w_ei w1 (w_ar ws (n_v vs 0) 149) j) := fun j hj => ⟨fun h => by unfold w_ei; rw [s1.1, if_pos ⟨ad_20.symm, by rw [h]⟩], fun h => by unfold w_ei; rw [s1.1, if_neg (fun e => h (by have := e.2; omega))]⟩
  have hE_0_149_2 : ∀ j : Int, w_ei w1 (w_ar ws (n_v vs 0) 149) j = w_ei w2 (w_ar ws (n_v vs 0) 149) j := fun j => by unfold w_ei; rw [s2.1, if_neg (fun e => by have e1 := e.1; rw [← e1] at r15; rw [cr_0_149] at r15; exact absurd (Option.some.inj r15) (by decide))]
  have hK_0_149 : ∀ j : Int, 0 ≤ j → j < 26 → (-2147483648) ≤ w_ei ws (w_ar ws (n_v vs 0) 149) j ∧ w_ei ws (w_ar ws (n_v vs 0) 149) j ≤ 2005999 := fun j h0 h1 => th_el hD hth cr_0_149 (kd := 0) (n := 26) (m := 26) (lo := (-2147483648)) (hi := 2005999) (rs := []) (L := []) rfl (by decide) (j := j.toNat) (by omega)
  have pe_0_146_147_1 : w_fi ws (n_v vs 0) 146 * w_fi ws (n_v vs 0) 147 = w_fi w1 (n_v vs 0) 146 * w_fi w1 (n_v vs 0) 147 := by rw [fe_0_146_1, fe_0_147_1]
  have pe_0_146_147_2 : w_fi w1 (n_v vs 0) 146 * w_fi w1 (n_v vs 0) 147 = w_fi w2 (n_v vs 0) 146 * w_fi w2 (n_v vs 0) 147 := by rw [fe_0_146_2, fe_0_147_2]
  have kz_0_146 : (-2147483648) ≤ w_fi ws (n_v vs 0) 146 ∧ w_fi ws (n_v vs 0) 146 ≤ 2147483647 := tv_rng (th_fd hD hth r0 (g := GG_150) rfl (k := 146) (t := (0, -2147483648, 2147483647, [])) rfl rfl)
  have kz_0_147 : (-2147483648) ≤ w_fi ws (n_v vs 0) 147 ∧ w_fi ws (n_v vs 0) 147 ≤ 2147483647 := tv_rng (th_fd hD hth r0 (g := GG_150) rfl (k := 147) (t := (0, -2147483648, 2147483647, [])) rfl rfl)
  have hrf0 : 0 ≤ v_iv (n_v vs 25) ∧ v_iv (n_v vs 25) ≤ 5999 := vc_Mo_bendsBecome_15_r0 (v_iv (n_v vs 3)) (v_iv (n_v vs 5)) (v_iv (n_v vs 6)) (v_iv (n_v vs 7)) (v_iv (n_v vs 9)) (v_iv (n_v vs 10)) (v_iv (n_v vs 11)) (v_iv (n_v vs 12)) (v_iv (n_v vs 13)) (v_iv (n_v vs 14)) (v_iv (n_v vs 17)) (v_iv (n_v vs 18)) (v_iv (n_v vs 22)) (v_iv (n_v vs 24)) (v_iv (n_v vs 25)) (w_ei ws (w_ar ws (n_v vs 0) 143)) (w_fi ws (n_v vs 0) 146) (w_fi ws (n_v vs 0) 147) (w_ei ws (w_ar ws (n_v vs 0) 140)) (w_fi w1 (n_v vs 0) 146) (w_fi w1 (n_v vs 0) 147) (w_ei w1 (w_ar ws (n_v vs 0) 143)) (w_ei w1 (w_ar ws (n_v vs 0) 140)) (w_fi w2 (n_v vs 0) 146) (w_fi w2 (n_v vs 0) 147) (w_ei w2 (w_ar ws (n_v vs 0) 143)) (w_ei w2 (w_ar ws (n_v vs 0) 140)) (w_ei ws (w_ar ws (n_v vs 0) 148)) (w_ei w1 (w_ar ws (n_v vs 0) 148)) (w_ei w2 (w_ar ws (n_v vs 0) 148)) (v_iv (n_v vs 19)) (w_ei ws (w_ar ws (n_v vs 0) 149)) (w_ei w1 (w_ar ws (n_v vs 0) 149)) (v_iv (n_v vs 23)) (w_ei w2 (w_ar ws (n_v vs 0) 149)) k3 k5 k6 k7 k9 k10 k11 k12 k13 k14 k17 k18 k22 k24 k25 d0 d1 d2 d3 f0 f1 f2 f3 f4 f5 f6 f7 f8 f9 f10 f11 f12 f13 f15 g16 f18 f19 f20 f21 f22 f23 f24 f25 f26 f27 f28 f30 f32 f33 f34 f35 f36 f37 f38 f39 f40 f41 f42 f43 f44 f45 fe_0_146_1 fe_0_147_1 fe_0_146_2 fe_0_147_2 hE_0_140_1 hE_0_140_2 hK_0_140 hE_0_143_1 hE_0_143_2 hK_0_143 hE_0_148_1 hE_0_148_2 hK_0_148 hE_0_149_1 hE_0_149_2 hK_0_149 kz_0_146 kz_0_147
  have rf25 : tv_ok ta (0, 0, 5999, []) (n_v vs 25) := tv_in t25 (by first | omega | grind) (by first | omega | grind)
  refine ⟨List.forall_mem_cons.mpr ⟨rf25, (fun _ h => (by cases h))⟩, [], trivial, ?_, (fun _ h => (by cases h))⟩
  rw [List.append_nil]
  exact (fun _ h => (by cases h))
set_option maxHeartbeats 4000000 in
theorem vc_Mo_bendsBecome_16_0 (x3 : Int) (x5 : Int) (x6 : Int) (x7 : Int) (x9 : Int) (x10 : Int) (x11 : Int) (x12 : Int) (x13 : Int) (x14 : Int) (x17 : Int) (x18 : Int) (x22 : Int) (x24 : Int) (x25 : Int) (barredPoint_0 : Int → Int) (wide_0 : Int) (tall_0 : Int) (costOf_0 : Int → Int) (wide_1 : Int) (tall_1 : Int) (barredPoint_1 : Int → Int) (costOf_1 : Int → Int) (wide_2 : Int) (tall_2 : Int) (barredPoint_2 : Int → Int) (costOf_2 : Int → Int) (turnX_0 : Int → Int) (turnX_1 : Int → Int) (turnX_2 : Int → Int) (x19 : Int) (turnY_0 : Int → Int) (turnY_1 : Int → Int) (x23 : Int) (turnY_2 : Int → Int) (gx : Int) (k3 : 0 ≤ x3 ∧ x3 ≤ 5999) (k5 : 0 ≤ x5 ∧ x5 ≤ 24) (k6 : 0 ≤ x6 ∧ x6 ≤ 5999) (k7 : 0 ≤ x7 ∧ x7 ≤ 3) (k9 : 0 ≤ x9 ∧ x9 ≤ 1000000) (k10 : 0 ≤ x10 ∧ x10 ≤ 3) (k11 : 0 ≤ x11 ∧ x11 ≤ 999999) (k12 : (-1) ≤ x12 ∧ x12 ≤ (-1)) (k13 : (-2) ≤ x13 ∧ x13 ≤ 1000000) (k14 : 25 ≤ x14 ∧ x14 ≤ 25) (k17 : 1 ≤ x17 ∧ x17 ≤ 6000) (k18 : 0 ≤ x18 ∧ x18 ≤ 5999) (k22 : 0 ≤ x22 ∧ x22 ≤ 5999) (k24 : 1 ≤ x24 ∧ x24 ≤ 25) (k25 : 0 ≤ x25 ∧ x25 ≤ 5999) (d0 : x5 + 1 ≤ x24 ∧ x24 ≤ x5 + 1) (d1 : x17 + (-4294967295) ≤ x18 ∧ x18 ≤ x17 + (-1)) (d2 : x9 + (-4294967296) ≤ x10 ∧ x10 ≤ x9 + 2) (d3 : x9 + (-4294967296) ≤ x11 ∧ x11 ≤ x9 + 0) (f0 : STQ (wide_0) (tall_0) (barredPoint_0) (x6) (x10) (x25)) (f1 : ((-1) ≤ x25) ∧ ((x25 + 1) ≤ (wide_0 * tall_0))) (f2 : x24 = x5 + 1) (f3 : GRX (wide_0) (tall_0)) (f4 : RTV (wide_0) (tall_0) (barredPoint_0) (costOf_0) (x3)) (f5 : (0 ≤ x3) ∧ ((x3 + 1) ≤ (wide_0 * tall_0))) (f6 : BB2 (wide_0) (tall_0) (barredPoint_0) (costOf_0) (x6) (x7) (x9)) (f7 : (0 ≤ x6) ∧ ((x6 + 1) ≤ (wide_0 * tall_0))) (f8 : (x5 + x9) ≤ 1000000) (f9 : 0 ≤ x5) (f10 : x6 ≠ x3) (f11 : BB3 (wide_0) (tall_0) (barredPoint_0) (costOf_0) (x6) (x7) (x9) (x10) (x11) (x12)) (f12 : (0 ≤ x9) ∧ (x9 ≤ x13)) (f13 : (-1) * x13 + 0 ≤ (-1)) (f15 : x22 = Int.tdiv (x6) (x17)) (g16 : x17 = wide_1) (f18 : GRX (wide_1) (tall_1)) (f19 : RTV (wide_1) (tall_1) (barredPoint_1) (costOf_1) (x3)) (f20 : (0 ≤ x3) ∧ ((x3 + 1) ≤ (wide_1 * tall_1))) (f21 : BB2 (wide_1) (tall_1) (barredPoint_1) (costOf_1) (x6) (x7) (x9)) (f22 : (0 ≤ x6) ∧ ((x6 + 1) ≤ (wide_1 * tall_1))) (f23 : (x5 + x9) ≤ 1000000) (f24 : 0 ≤ x5) (f25 : x6 ≠ x3) (f26 : BB3 (wide_1) (tall_1) (barredPoint_1) (costOf_1) (x6) (x7) (x9) (x10) (x11) (x12)) (f27 : (0 ≤ x9) ∧ (x9 ≤ x13)) (f28 : (-1) * x13 + 0 ≤ (-1)) (f30 : x18 = Int.tmod (x6) (x17)) (f32 : x5 < x14) (f33 : x10 ≠ x7) (f34 : x12 < 0) (f35 : GRX (wide_2) (tall_2)) (f36 : RTV (wide_2) (tall_2) (barredPoint_2) (costOf_2) (x3)) (f37 : (0 ≤ x3) ∧ ((x3 + 1) ≤ (wide_2 * tall_2))) (f38 : BB2 (wide_2) (tall_2) (barredPoint_2) (costOf_2) (x6) (x7) (x9)) (f39 : (0 ≤ x6) ∧ ((x6 + 1) ≤ (wide_2 * tall_2))) (f40 : (x5 + x9) ≤ 1000000) (f41 : 0 ≤ x5) (f42 : x6 ≠ x3) (f43 : BB3 (wide_2) (tall_2) (barredPoint_2) (costOf_2) (x6) (x7) (x9) (x10) (x11) (x12)) (f44 : (0 ≤ x9) ∧ (x9 ≤ x13)) (f45 : (-1) * x13 + 0 ≤ (-1)) (fe_0_146_1 : wide_0 = wide_1) (fe_0_147_1 : tall_0 = tall_1) (fe_0_146_2 : wide_1 = wide_2) (fe_0_147_2 : tall_1 = tall_2) (hE_0_140_1 : ∀ j : Int, costOf_0 j = costOf_1 j) (hE_0_140_2 : ∀ j : Int, costOf_1 j = costOf_2 j) (hK_0_140 : ∀ j : Int, 0 ≤ j → j < 24000 → 0 ≤ costOf_0 j ∧ costOf_0 j ≤ 1000000) (hE_0_143_1 : ∀ j : Int, barredPoint_0 j = barredPoint_1 j) (hE_0_143_2 : ∀ j : Int, barredPoint_1 j = barredPoint_2 j) (hK_0_143 : ∀ j : Int, 0 ≤ j → j < 6000 → 0 ≤ barredPoint_0 j ∧ barredPoint_0 j ≤ 1) (hE_0_148_1 : ∀ j : Int, turnX_0 j = turnX_1 j) (hE_0_148_2 : ∀ j : Int, 0 ≤ j → (j = x5 → turnX_1 j = x19) ∧ (j ≠ x5 → turnX_1 j = turnX_2 j)) (hK_0_148 : ∀ j : Int, 0 ≤ j → j < 26 → (-2147483648) ≤ turnX_0 j ∧ turnX_0 j ≤ 2005999) (hE_0_149_1 : ∀ j : Int, 0 ≤ j → (j = x5 → turnY_0 j = x23) ∧ (j ≠ x5 → turnY_0 j = turnY_1 j)) (hE_0_149_2 : ∀ j : Int, turnY_1 j = turnY_2 j) (hK_0_149 : ∀ j : Int, 0 ≤ j → j < 26 → (-2147483648) ≤ turnY_0 j ∧ turnY_0 j ≤ 2005999) (kz_0_146 : (-2147483648) ≤ wide_0 ∧ wide_0 ≤ 2147483647) (kz_0_147 : (-2147483648) ≤ tall_0 ∧ tall_0 ≤ 2147483647) (ex2 : gx = (-1) + (1 * x13 + 0)) (ex3 : (-2) ≤ gx ∧ gx ≤ 1000000) : GRX (wide_0) (tall_0) := by
  subst fe_0_146_1
  subst fe_0_147_1
  subst fe_0_146_2
  subst fe_0_147_2
  have e_hE_0_140_1 := funext hE_0_140_1; subst e_hE_0_140_1
  have e_hE_0_140_2 := funext hE_0_140_2; subst e_hE_0_140_2
  have e_hE_0_143_1 := funext hE_0_143_1; subst e_hE_0_143_1
  have e_hE_0_143_2 := funext hE_0_143_2; subst e_hE_0_143_2
  have e_hE_0_148_1 := funext hE_0_148_1; subst e_hE_0_148_1
  have e_hE_0_149_2 := funext hE_0_149_2; subst e_hE_0_149_2
  assumption
set_option maxHeartbeats 4000000 in
theorem vc_Mo_bendsBecome_16_1 (x3 : Int) (x5 : Int) (x6 : Int) (x7 : Int) (x9 : Int) (x10 : Int) (x11 : Int) (x12 : Int) (x13 : Int) (x14 : Int) (x17 : Int) (x18 : Int) (x22 : Int) (x24 : Int) (x25 : Int) (barredPoint_0 : Int → Int) (wide_0 : Int) (tall_0 : Int) (costOf_0 : Int → Int) (wide_1 : Int) (tall_1 : Int) (barredPoint_1 : Int → Int) (costOf_1 : Int → Int) (wide_2 : Int) (tall_2 : Int) (barredPoint_2 : Int → Int) (costOf_2 : Int → Int) (turnX_0 : Int → Int) (turnX_1 : Int → Int) (turnX_2 : Int → Int) (x19 : Int) (turnY_0 : Int → Int) (turnY_1 : Int → Int) (x23 : Int) (turnY_2 : Int → Int) (gx : Int) (k3 : 0 ≤ x3 ∧ x3 ≤ 5999) (k5 : 0 ≤ x5 ∧ x5 ≤ 24) (k6 : 0 ≤ x6 ∧ x6 ≤ 5999) (k7 : 0 ≤ x7 ∧ x7 ≤ 3) (k9 : 0 ≤ x9 ∧ x9 ≤ 1000000) (k10 : 0 ≤ x10 ∧ x10 ≤ 3) (k11 : 0 ≤ x11 ∧ x11 ≤ 999999) (k12 : (-1) ≤ x12 ∧ x12 ≤ (-1)) (k13 : (-2) ≤ x13 ∧ x13 ≤ 1000000) (k14 : 25 ≤ x14 ∧ x14 ≤ 25) (k17 : 1 ≤ x17 ∧ x17 ≤ 6000) (k18 : 0 ≤ x18 ∧ x18 ≤ 5999) (k22 : 0 ≤ x22 ∧ x22 ≤ 5999) (k24 : 1 ≤ x24 ∧ x24 ≤ 25) (k25 : 0 ≤ x25 ∧ x25 ≤ 5999) (d0 : x5 + 1 ≤ x24 ∧ x24 ≤ x5 + 1) (d1 : x17 + (-4294967295) ≤ x18 ∧ x18 ≤ x17 + (-1)) (d2 : x9 + (-4294967296) ≤ x10 ∧ x10 ≤ x9 + 2) (d3 : x9 + (-4294967296) ≤ x11 ∧ x11 ≤ x9 + 0) (f0 : STQ (wide_0) (tall_0) (barredPoint_0) (x6) (x10) (x25)) (f1 : ((-1) ≤ x25) ∧ ((x25 + 1) ≤ (wide_0 * tall_0))) (f2 : x24 = x5 + 1) (f3 : GRX (wide_0) (tall_0)) (f4 : RTV (wide_0) (tall_0) (barredPoint_0) (costOf_0) (x3)) (f5 : (0 ≤ x3) ∧ ((x3 + 1) ≤ (wide_0 * tall_0))) (f6 : BB2 (wide_0) (tall_0) (barredPoint_0) (costOf_0) (x6) (x7) (x9)) (f7 : (0 ≤ x6) ∧ ((x6 + 1) ≤ (wide_0 * tall_0))) (f8 : (x5 + x9) ≤ 1000000) (f9 : 0 ≤ x5) (f10 : x6 ≠ x3) (f11 : BB3 (wide_0) (tall_0) (barredPoint_0) (costOf_0) (x6) (x7) (x9) (x10) (x11) (x12)) (f12 : (0 ≤ x9) ∧ (x9 ≤ x13)) (f13 : (-1) * x13 + 0 ≤ (-1)) (f15 : x22 = Int.tdiv (x6) (x17)) (g16 : x17 = wide_1) (f18 : GRX (wide_1) (tall_1)) (f19 : RTV (wide_1) (tall_1) (barredPoint_1) (costOf_1) (x3)) (f20 : (0 ≤ x3) ∧ ((x3 + 1) ≤ (wide_1 * tall_1))) (f21 : BB2 (wide_1) (tall_1) (barredPoint_1) (costOf_1) (x6) (x7) (x9)) (f22 : (0 ≤ x6) ∧ ((x6 + 1) ≤ (wide_1 * tall_1))) (f23 : (x5 + x9) ≤ 1000000) (f24 : 0 ≤ x5) (f25 : x6 ≠ x3) (f26 : BB3 (wide_1) (tall_1) (barredPoint_1) (costOf_1) (x6) (x7) (x9) (x10) (x11) (x12)) (f27 : (0 ≤ x9) ∧ (x9 ≤ x13)) (f28 : (-1) * x13 + 0 ≤ (-1)) (f30 : x18 = Int.tmod (x6) (x17)) (f32 : x5 < x14) (f33 : x10 ≠ x7) (f34 : x12 < 0) (f35 : GRX (wide_2) (tall_2)) (f36 : RTV (wide_2) (tall_2) (barredPoint_2) (costOf_2) (x3)) (f37 : (0 ≤ x3) ∧ ((x3 + 1) ≤ (wide_2 * tall_2))) (f38 : BB2 (wide_2) (tall_2) (barredPoint_2) (costOf_2) (x6) (x7) (x9)) (f39 : (0 ≤ x6) ∧ ((x6 + 1) ≤ (wide_2 * tall_2))) (f40 : (x5 + x9) ≤ 1000000) (f41 : 0 ≤ x5) (f42 : x6 ≠ x3) (f43 : BB3 (wide_2) (tall_2) (barredPoint_2) (costOf_2) (x6) (x7) (x9) (x10) (x11) (x12)) (f44 : (0 ≤ x9) ∧ (x9 ≤ x13)) (f45 : (-1) * x13 + 0 ≤ (-1)) (fe_0_146_1 : wide_0 = wide_1) (fe_0_147_1 : tall_0 = tall_1) (fe_0_146_2 : wide_1 = wide_2) (fe_0_147_2 : tall_1 = tall_2) (hE_0_140_1 : ∀ j : Int, costOf_0 j = costOf_1 j) (hE_0_140_2 : ∀ j : Int, costOf_1 j = costOf_2 j) (hK_0_140 : ∀ j : Int, 0 ≤ j → j < 24000 → 0 ≤ costOf_0 j ∧ costOf_0 j ≤ 1000000) (hE_0_143_1 : ∀ j : Int, barredPoint_0 j = barredPoint_1 j) (hE_0_143_2 : ∀ j : Int, barredPoint_1 j = barredPoint_2 j) (hK_0_143 : ∀ j : Int, 0 ≤ j → j < 6000 → 0 ≤ barredPoint_0 j ∧ barredPoint_0 j ≤ 1) (hE_0_148_1 : ∀ j : Int, turnX_0 j = turnX_1 j) (hE_0_148_2 : ∀ j : Int, 0 ≤ j → (j = x5 → turnX_1 j = x19) ∧ (j ≠ x5 → turnX_1 j = turnX_2 j)) (hK_0_148 : ∀ j : Int, 0 ≤ j → j < 26 → (-2147483648) ≤ turnX_0 j ∧ turnX_0 j ≤ 2005999) (hE_0_149_1 : ∀ j : Int, 0 ≤ j → (j = x5 → turnY_0 j = x23) ∧ (j ≠ x5 → turnY_0 j = turnY_1 j)) (hE_0_149_2 : ∀ j : Int, turnY_1 j = turnY_2 j) (hK_0_149 : ∀ j : Int, 0 ≤ j → j < 26 → (-2147483648) ≤ turnY_0 j ∧ turnY_0 j ≤ 2005999) (kz_0_146 : (-2147483648) ≤ wide_0 ∧ wide_0 ≤ 2147483647) (kz_0_147 : (-2147483648) ≤ tall_0 ∧ tall_0 ≤ 2147483647) (ex2 : gx = (-1) + (1 * x13 + 0)) (ex3 : (-2) ≤ gx ∧ gx ≤ 1000000) : RTV (wide_0) (tall_0) (barredPoint_0) (costOf_0) (x3) := by
  subst fe_0_146_1
  subst fe_0_147_1
  subst fe_0_146_2
  subst fe_0_147_2
  have e_hE_0_140_1 := funext hE_0_140_1; subst e_hE_0_140_1
  have e_hE_0_140_2 := funext hE_0_140_2; subst e_hE_0_140_2
  have e_hE_0_143_1 := funext hE_0_143_1; subst e_hE_0_143_1
  have e_hE_0_143_2 := funext hE_0_143_2; subst e_hE_0_143_2
  have e_hE_0_148_1 := funext hE_0_148_1; subst e_hE_0_148_1
  have e_hE_0_149_2 := funext hE_0_149_2; subst e_hE_0_149_2
  assumption
set_option maxHeartbeats 4000000 in
theorem vc_Mo_bendsBecome_16_2 (x3 : Int) (x5 : Int) (x6 : Int) (x7 : Int) (x9 : Int) (x10 : Int) (x11 : Int) (x12 : Int) (x13 : Int) (x14 : Int) (x17 : Int) (x18 : Int) (x22 : Int) (x24 : Int) (x25 : Int) (barredPoint_0 : Int → Int) (wide_0 : Int) (tall_0 : Int) (costOf_0 : Int → Int) (wide_1 : Int) (tall_1 : Int) (barredPoint_1 : Int → Int) (costOf_1 : Int → Int) (wide_2 : Int) (tall_2 : Int) (barredPoint_2 : Int → Int) (costOf_2 : Int → Int) (turnX_0 : Int → Int) (turnX_1 : Int → Int) (turnX_2 : Int → Int) (x19 : Int) (turnY_0 : Int → Int) (turnY_1 : Int → Int) (x23 : Int) (turnY_2 : Int → Int) (gx : Int) (k3 : 0 ≤ x3 ∧ x3 ≤ 5999) (k5 : 0 ≤ x5 ∧ x5 ≤ 24) (k6 : 0 ≤ x6 ∧ x6 ≤ 5999) (k7 : 0 ≤ x7 ∧ x7 ≤ 3) (k9 : 0 ≤ x9 ∧ x9 ≤ 1000000) (k10 : 0 ≤ x10 ∧ x10 ≤ 3) (k11 : 0 ≤ x11 ∧ x11 ≤ 999999) (k12 : (-1) ≤ x12 ∧ x12 ≤ (-1)) (k13 : (-2) ≤ x13 ∧ x13 ≤ 1000000) (k14 : 25 ≤ x14 ∧ x14 ≤ 25) (k17 : 1 ≤ x17 ∧ x17 ≤ 6000) (k18 : 0 ≤ x18 ∧ x18 ≤ 5999) (k22 : 0 ≤ x22 ∧ x22 ≤ 5999) (k24 : 1 ≤ x24 ∧ x24 ≤ 25) (k25 : 0 ≤ x25 ∧ x25 ≤ 5999) (d0 : x5 + 1 ≤ x24 ∧ x24 ≤ x5 + 1) (d1 : x17 + (-4294967295) ≤ x18 ∧ x18 ≤ x17 + (-1)) (d2 : x9 + (-4294967296) ≤ x10 ∧ x10 ≤ x9 + 2) (d3 : x9 + (-4294967296) ≤ x11 ∧ x11 ≤ x9 + 0) (f0 : STQ (wide_0) (tall_0) (barredPoint_0) (x6) (x10) (x25)) (f1 : ((-1) ≤ x25) ∧ ((x25 + 1) ≤ (wide_0 * tall_0))) (f2 : x24 = x5 + 1) (f3 : GRX (wide_0) (tall_0)) (f4 : RTV (wide_0) (tall_0) (barredPoint_0) (costOf_0) (x3)) (f5 : (0 ≤ x3) ∧ ((x3 + 1) ≤ (wide_0 * tall_0))) (f6 : BB2 (wide_0) (tall_0) (barredPoint_0) (costOf_0) (x6) (x7) (x9)) (f7 : (0 ≤ x6) ∧ ((x6 + 1) ≤ (wide_0 * tall_0))) (f8 : (x5 + x9) ≤ 1000000) (f9 : 0 ≤ x5) (f10 : x6 ≠ x3) (f11 : BB3 (wide_0) (tall_0) (barredPoint_0) (costOf_0) (x6) (x7) (x9) (x10) (x11) (x12)) (f12 : (0 ≤ x9) ∧ (x9 ≤ x13)) (f13 : (-1) * x13 + 0 ≤ (-1)) (f15 : x22 = Int.tdiv (x6) (x17)) (g16 : x17 = wide_1) (f18 : GRX (wide_1) (tall_1)) (f19 : RTV (wide_1) (tall_1) (barredPoint_1) (costOf_1) (x3)) (f20 : (0 ≤ x3) ∧ ((x3 + 1) ≤ (wide_1 * tall_1))) (f21 : BB2 (wide_1) (tall_1) (barredPoint_1) (costOf_1) (x6) (x7) (x9)) (f22 : (0 ≤ x6) ∧ ((x6 + 1) ≤ (wide_1 * tall_1))) (f23 : (x5 + x9) ≤ 1000000) (f24 : 0 ≤ x5) (f25 : x6 ≠ x3) (f26 : BB3 (wide_1) (tall_1) (barredPoint_1) (costOf_1) (x6) (x7) (x9) (x10) (x11) (x12)) (f27 : (0 ≤ x9) ∧ (x9 ≤ x13)) (f28 : (-1) * x13 + 0 ≤ (-1)) (f30 : x18 = Int.tmod (x6) (x17)) (f32 : x5 < x14) (f33 : x10 ≠ x7) (f34 : x12 < 0) (f35 : GRX (wide_2) (tall_2)) (f36 : RTV (wide_2) (tall_2) (barredPoint_2) (costOf_2) (x3)) (f37 : (0 ≤ x3) ∧ ((x3 + 1) ≤ (wide_2 * tall_2))) (f38 : BB2 (wide_2) (tall_2) (barredPoint_2) (costOf_2) (x6) (x7) (x9)) (f39 : (0 ≤ x6) ∧ ((x6 + 1) ≤ (wide_2 * tall_2))) (f40 : (x5 + x9) ≤ 1000000) (f41 : 0 ≤ x5) (f42 : x6 ≠ x3) (f43 : BB3 (wide_2) (tall_2) (barredPoint_2) (costOf_2) (x6) (x7) (x9) (x10) (x11) (x12)) (f44 : (0 ≤ x9) ∧ (x9 ≤ x13)) (f45 : (-1) * x13 + 0 ≤ (-1)) (fe_0_146_1 : wide_0 = wide_1) (fe_0_147_1 : tall_0 = tall_1) (fe_0_146_2 : wide_1 = wide_2) (fe_0_147_2 : tall_1 = tall_2) (hE_0_140_1 : ∀ j : Int, costOf_0 j = costOf_1 j) (hE_0_140_2 : ∀ j : Int, costOf_1 j = costOf_2 j) (hK_0_140 : ∀ j : Int, 0 ≤ j → j < 24000 → 0 ≤ costOf_0 j ∧ costOf_0 j ≤ 1000000) (hE_0_143_1 : ∀ j : Int, barredPoint_0 j = barredPoint_1 j) (hE_0_143_2 : ∀ j : Int, barredPoint_1 j = barredPoint_2 j) (hK_0_143 : ∀ j : Int, 0 ≤ j → j < 6000 → 0 ≤ barredPoint_0 j ∧ barredPoint_0 j ≤ 1) (hE_0_148_1 : ∀ j : Int, turnX_0 j = turnX_1 j) (hE_0_148_2 : ∀ j : Int, 0 ≤ j → (j = x5 → turnX_1 j = x19) ∧ (j ≠ x5 → turnX_1 j = turnX_2 j)) (hK_0_148 : ∀ j : Int, 0 ≤ j → j < 26 → (-2147483648) ≤ turnX_0 j ∧ turnX_0 j ≤ 2005999) (hE_0_149_1 : ∀ j : Int, 0 ≤ j → (j = x5 → turnY_0 j = x23) ∧ (j ≠ x5 → turnY_0 j = turnY_1 j)) (hE_0_149_2 : ∀ j : Int, turnY_1 j = turnY_2 j) (hK_0_149 : ∀ j : Int, 0 ≤ j → j < 26 → (-2147483648) ≤ turnY_0 j ∧ turnY_0 j ≤ 2005999) (kz_0_146 : (-2147483648) ≤ wide_0 ∧ wide_0 ≤ 2147483647) (kz_0_147 : (-2147483648) ≤ tall_0 ∧ tall_0 ≤ 2147483647) (ex2 : gx = (-1) + (1 * x13 + 0)) (ex3 : (-2) ≤ gx ∧ gx ≤ 1000000) : (0 ≤ x3) ∧ ((x3 + 1) ≤ (wide_0 * tall_0)) := by
  subst fe_0_146_1
  subst fe_0_147_1
  subst fe_0_146_2
  subst fe_0_147_2
  have e_hE_0_140_1 := funext hE_0_140_1; subst e_hE_0_140_1
  have e_hE_0_140_2 := funext hE_0_140_2; subst e_hE_0_140_2
  have e_hE_0_143_1 := funext hE_0_143_1; subst e_hE_0_143_1
  have e_hE_0_143_2 := funext hE_0_143_2; subst e_hE_0_143_2
  have e_hE_0_148_1 := funext hE_0_148_1; subst e_hE_0_148_1
  have e_hE_0_149_2 := funext hE_0_149_2; subst e_hE_0_149_2
  first
    | omega
    | (have h := bb2_start (t := x13) ‹RTV _ _ _ _ _› ‹BB1 _ _ _ _ _ _ _ _› (by omega) ‹STQ _ _ _ _ _ _› (by omega)
       have h1 := h.1
       have h2 := h.2.2.2.2
       omega)
    | (have h := bb_next ‹RTV _ _ _ _ _› ‹BB2 _ _ _ _ _ _ _› ‹BB3 _ _ _ _ _ _ _ _ _ _› (by omega) (by omega)
       have h1 := h.1.1
       have h2 := h.2
       omega)
set_option maxHeartbeats 4000000 in
theorem vc_Mo_bendsBecome_16_3 (x3 : Int) (x5 : Int) (x6 : Int) (x7 : Int) (x9 : Int) (x10 : Int) (x11 : Int) (x12 : Int) (x13 : Int) (x14 : Int) (x17 : Int) (x18 : Int) (x22 : Int) (x24 : Int) (x25 : Int) (barredPoint_0 : Int → Int) (wide_0 : Int) (tall_0 : Int) (costOf_0 : Int → Int) (wide_1 : Int) (tall_1 : Int) (barredPoint_1 : Int → Int) (costOf_1 : Int → Int) (wide_2 : Int) (tall_2 : Int) (barredPoint_2 : Int → Int) (costOf_2 : Int → Int) (turnX_0 : Int → Int) (turnX_1 : Int → Int) (turnX_2 : Int → Int) (x19 : Int) (turnY_0 : Int → Int) (turnY_1 : Int → Int) (x23 : Int) (turnY_2 : Int → Int) (gx : Int) (k3 : 0 ≤ x3 ∧ x3 ≤ 5999) (k5 : 0 ≤ x5 ∧ x5 ≤ 24) (k6 : 0 ≤ x6 ∧ x6 ≤ 5999) (k7 : 0 ≤ x7 ∧ x7 ≤ 3) (k9 : 0 ≤ x9 ∧ x9 ≤ 1000000) (k10 : 0 ≤ x10 ∧ x10 ≤ 3) (k11 : 0 ≤ x11 ∧ x11 ≤ 999999) (k12 : (-1) ≤ x12 ∧ x12 ≤ (-1)) (k13 : (-2) ≤ x13 ∧ x13 ≤ 1000000) (k14 : 25 ≤ x14 ∧ x14 ≤ 25) (k17 : 1 ≤ x17 ∧ x17 ≤ 6000) (k18 : 0 ≤ x18 ∧ x18 ≤ 5999) (k22 : 0 ≤ x22 ∧ x22 ≤ 5999) (k24 : 1 ≤ x24 ∧ x24 ≤ 25) (k25 : 0 ≤ x25 ∧ x25 ≤ 5999) (d0 : x5 + 1 ≤ x24 ∧ x24 ≤ x5 + 1) (d1 : x17 + (-4294967295) ≤ x18 ∧ x18 ≤ x17 + (-1)) (d2 : x9 + (-4294967296) ≤ x10 ∧ x10 ≤ x9 + 2) (d3 : x9 + (-4294967296) ≤ x11 ∧ x11 ≤ x9 + 0) (f0 : STQ (wide_0) (tall_0) (barredPoint_0) (x6) (x10) (x25)) (f1 : ((-1) ≤ x25) ∧ ((x25 + 1) ≤ (wide_0 * tall_0))) (f2 : x24 = x5 + 1) (f3 : GRX (wide_0) (tall_0)) (f4 : RTV (wide_0) (tall_0) (barredPoint_0) (costOf_0) (x3)) (f5 : (0 ≤ x3) ∧ ((x3 + 1) ≤ (wide_0 * tall_0))) (f6 : BB2 (wide_0) (tall_0) (barredPoint_0) (costOf_0) (x6) (x7) (x9)) (f7 : (0 ≤ x6) ∧ ((x6 + 1) ≤ (wide_0 * tall_0))) (f8 : (x5 + x9) ≤ 1000000) (f9 : 0 ≤ x5) (f10 : x6 ≠ x3) (f11 : BB3 (wide_0) (tall_0) (barredPoint_0) (costOf_0) (x6) (x7) (x9) (x10) (x11) (x12)) (f12 : (0 ≤ x9) ∧ (x9 ≤ x13)) (f13 : (-1) * x13 + 0 ≤ (-1)) (f15 : x22 = Int.tdiv (x6) (x17)) (g16 : x17 = wide_1) (f18 : GRX (wide_1) (tall_1)) (f19 : RTV (wide_1) (tall_1) (barredPoint_1) (costOf_1) (x3)) (f20 : (0 ≤ x3) ∧ ((x3 + 1) ≤ (wide_1 * tall_1))) (f21 : BB2 (wide_1) (tall_1) (barredPoint_1) (costOf_1) (x6) (x7) (x9)) (f22 : (0 ≤ x6) ∧ ((x6 + 1) ≤ (wide_1 * tall_1))) (f23 : (x5 + x9) ≤ 1000000) (f24 : 0 ≤ x5) (f25 : x6 ≠ x3) (f26 : BB3 (wide_1) (tall_1) (barredPoint_1) (costOf_1) (x6) (x7) (x9) (x10) (x11) (x12)) (f27 : (0 ≤ x9) ∧ (x9 ≤ x13)) (f28 : (-1) * x13 + 0 ≤ (-1)) (f30 : x18 = Int.tmod (x6) (x17)) (f32 : x5 < x14) (f33 : x10 ≠ x7) (f34 : x12 < 0) (f35 : GRX (wide_2) (tall_2)) (f36 : RTV (wide_2) (tall_2) (barredPoint_2) (costOf_2) (x3)) (f37 : (0 ≤ x3) ∧ ((x3 + 1) ≤ (wide_2 * tall_2))) (f38 : BB2 (wide_2) (tall_2) (barredPoint_2) (costOf_2) (x6) (x7) (x9)) (f39 : (0 ≤ x6) ∧ ((x6 + 1) ≤ (wide_2 * tall_2))) (f40 : (x5 + x9) ≤ 1000000) (f41 : 0 ≤ x5) (f42 : x6 ≠ x3) (f43 : BB3 (wide_2) (tall_2) (barredPoint_2) (costOf_2) (x6) (x7) (x9) (x10) (x11) (x12)) (f44 : (0 ≤ x9) ∧ (x9 ≤ x13)) (f45 : (-1) * x13 + 0 ≤ (-1)) (fe_0_146_1 : wide_0 = wide_1) (fe_0_147_1 : tall_0 = tall_1) (fe_0_146_2 : wide_1 = wide_2) (fe_0_147_2 : tall_1 = tall_2) (hE_0_140_1 : ∀ j : Int, costOf_0 j = costOf_1 j) (hE_0_140_2 : ∀ j : Int, costOf_1 j = costOf_2 j) (hK_0_140 : ∀ j : Int, 0 ≤ j → j < 24000 → 0 ≤ costOf_0 j ∧ costOf_0 j ≤ 1000000) (hE_0_143_1 : ∀ j : Int, barredPoint_0 j = barredPoint_1 j) (hE_0_143_2 : ∀ j : Int, barredPoint_1 j = barredPoint_2 j) (hK_0_143 : ∀ j : Int, 0 ≤ j → j < 6000 → 0 ≤ barredPoint_0 j ∧ barredPoint_0 j ≤ 1) (hE_0_148_1 : ∀ j : Int, turnX_0 j = turnX_1 j) (hE_0_148_2 : ∀ j : Int, 0 ≤ j → (j = x5 → turnX_1 j = x19) ∧ (j ≠ x5 → turnX_1 j = turnX_2 j)) (hK_0_148 : ∀ j : Int, 0 ≤ j → j < 26 → (-2147483648) ≤ turnX_0 j ∧ turnX_0 j ≤ 2005999) (hE_0_149_1 : ∀ j : Int, 0 ≤ j → (j = x5 → turnY_0 j = x23) ∧ (j ≠ x5 → turnY_0 j = turnY_1 j)) (hE_0_149_2 : ∀ j : Int, turnY_1 j = turnY_2 j) (hK_0_149 : ∀ j : Int, 0 ≤ j → j < 26 → (-2147483648) ≤ turnY_0 j ∧ turnY_0 j ≤ 2005999) (kz_0_146 : (-2147483648) ≤ wide_0 ∧ wide_0 ≤ 2147483647) (kz_0_147 : (-2147483648) ≤ tall_0 ∧ tall_0 ≤ 2147483647) (ex2 : gx = (-1) + (1 * x13 + 0)) (ex3 : (-2) ≤ gx ∧ gx ≤ 1000000) : BB2 (wide_0) (tall_0) (barredPoint_0) (costOf_0) (x25) (x10) (x11) := by
  subst fe_0_146_1
  subst fe_0_147_1
  subst fe_0_146_2
  subst fe_0_147_2
  have e_hE_0_140_1 := funext hE_0_140_1; subst e_hE_0_140_1
  have e_hE_0_140_2 := funext hE_0_140_2; subst e_hE_0_140_2
  have e_hE_0_143_1 := funext hE_0_143_1; subst e_hE_0_143_1
  have e_hE_0_143_2 := funext hE_0_143_2; subst e_hE_0_143_2
  have e_hE_0_148_1 := funext hE_0_148_1; subst e_hE_0_148_1
  have e_hE_0_149_2 := funext hE_0_149_2; subst e_hE_0_149_2
  first
    | exact bb2_start ‹RTV _ _ _ _ _› ‹BB1 _ _ _ _ _ _ _ _› (by omega) ‹STQ _ _ _ _ _ _› (by omega)
    | exact bb2_next ‹RTV _ _ _ _ _› ‹BB2 _ _ _ _ _ _ _› ‹BB3 _ _ _ _ _ _ _ _ _ _› (by omega) (by omega) ‹STQ _ _ _ _ _ _›
    | sorry
set_option maxHeartbeats 4000000 in
theorem vc_Mo_bendsBecome_16_4 (x3 : Int) (x5 : Int) (x6 : Int) (x7 : Int) (x9 : Int) (x10 : Int) (x11 : Int) (x12 : Int) (x13 : Int) (x14 : Int) (x17 : Int) (x18 : Int) (x22 : Int) (x24 : Int) (x25 : Int) (barredPoint_0 : Int → Int) (wide_0 : Int) (tall_0 : Int) (costOf_0 : Int → Int) (wide_1 : Int) (tall_1 : Int) (barredPoint_1 : Int → Int) (costOf_1 : Int → Int) (wide_2 : Int) (tall_2 : Int) (barredPoint_2 : Int → Int) (costOf_2 : Int → Int) (turnX_0 : Int → Int) (turnX_1 : Int → Int) (turnX_2 : Int → Int) (x19 : Int) (turnY_0 : Int → Int) (turnY_1 : Int → Int) (x23 : Int) (turnY_2 : Int → Int) (gx : Int) (k3 : 0 ≤ x3 ∧ x3 ≤ 5999) (k5 : 0 ≤ x5 ∧ x5 ≤ 24) (k6 : 0 ≤ x6 ∧ x6 ≤ 5999) (k7 : 0 ≤ x7 ∧ x7 ≤ 3) (k9 : 0 ≤ x9 ∧ x9 ≤ 1000000) (k10 : 0 ≤ x10 ∧ x10 ≤ 3) (k11 : 0 ≤ x11 ∧ x11 ≤ 999999) (k12 : (-1) ≤ x12 ∧ x12 ≤ (-1)) (k13 : (-2) ≤ x13 ∧ x13 ≤ 1000000) (k14 : 25 ≤ x14 ∧ x14 ≤ 25) (k17 : 1 ≤ x17 ∧ x17 ≤ 6000) (k18 : 0 ≤ x18 ∧ x18 ≤ 5999) (k22 : 0 ≤ x22 ∧ x22 ≤ 5999) (k24 : 1 ≤ x24 ∧ x24 ≤ 25) (k25 : 0 ≤ x25 ∧ x25 ≤ 5999) (d0 : x5 + 1 ≤ x24 ∧ x24 ≤ x5 + 1) (d1 : x17 + (-4294967295) ≤ x18 ∧ x18 ≤ x17 + (-1)) (d2 : x9 + (-4294967296) ≤ x10 ∧ x10 ≤ x9 + 2) (d3 : x9 + (-4294967296) ≤ x11 ∧ x11 ≤ x9 + 0) (f0 : STQ (wide_0) (tall_0) (barredPoint_0) (x6) (x10) (x25)) (f1 : ((-1) ≤ x25) ∧ ((x25 + 1) ≤ (wide_0 * tall_0))) (f2 : x24 = x5 + 1) (f3 : GRX (wide_0) (tall_0)) (f4 : RTV (wide_0) (tall_0) (barredPoint_0) (costOf_0) (x3)) (f5 : (0 ≤ x3) ∧ ((x3 + 1) ≤ (wide_0 * tall_0))) (f6 : BB2 (wide_0) (tall_0) (barredPoint_0) (costOf_0) (x6) (x7) (x9)) (f7 : (0 ≤ x6) ∧ ((x6 + 1) ≤ (wide_0 * tall_0))) (f8 : (x5 + x9) ≤ 1000000) (f9 : 0 ≤ x5) (f10 : x6 ≠ x3) (f11 : BB3 (wide_0) (tall_0) (barredPoint_0) (costOf_0) (x6) (x7) (x9) (x10) (x11) (x12)) (f12 : (0 ≤ x9) ∧ (x9 ≤ x13)) (f13 : (-1) * x13 + 0 ≤ (-1)) (f15 : x22 = Int.tdiv (x6) (x17)) (g16 : x17 = wide_1) (f18 : GRX (wide_1) (tall_1)) (f19 : RTV (wide_1) (tall_1) (barredPoint_1) (costOf_1) (x3)) (f20 : (0 ≤ x3) ∧ ((x3 + 1) ≤ (wide_1 * tall_1))) (f21 : BB2 (wide_1) (tall_1) (barredPoint_1) (costOf_1) (x6) (x7) (x9)) (f22 : (0 ≤ x6) ∧ ((x6 + 1) ≤ (wide_1 * tall_1))) (f23 : (x5 + x9) ≤ 1000000) (f24 : 0 ≤ x5) (f25 : x6 ≠ x3) (f26 : BB3 (wide_1) (tall_1) (barredPoint_1) (costOf_1) (x6) (x7) (x9) (x10) (x11) (x12)) (f27 : (0 ≤ x9) ∧ (x9 ≤ x13)) (f28 : (-1) * x13 + 0 ≤ (-1)) (f30 : x18 = Int.tmod (x6) (x17)) (f32 : x5 < x14) (f33 : x10 ≠ x7) (f34 : x12 < 0) (f35 : GRX (wide_2) (tall_2)) (f36 : RTV (wide_2) (tall_2) (barredPoint_2) (costOf_2) (x3)) (f37 : (0 ≤ x3) ∧ ((x3 + 1) ≤ (wide_2 * tall_2))) (f38 : BB2 (wide_2) (tall_2) (barredPoint_2) (costOf_2) (x6) (x7) (x9)) (f39 : (0 ≤ x6) ∧ ((x6 + 1) ≤ (wide_2 * tall_2))) (f40 : (x5 + x9) ≤ 1000000) (f41 : 0 ≤ x5) (f42 : x6 ≠ x3) (f43 : BB3 (wide_2) (tall_2) (barredPoint_2) (costOf_2) (x6) (x7) (x9) (x10) (x11) (x12)) (f44 : (0 ≤ x9) ∧ (x9 ≤ x13)) (f45 : (-1) * x13 + 0 ≤ (-1)) (fe_0_146_1 : wide_0 = wide_1) (fe_0_147_1 : tall_0 = tall_1) (fe_0_146_2 : wide_1 = wide_2) (fe_0_147_2 : tall_1 = tall_2) (hE_0_140_1 : ∀ j : Int, costOf_0 j = costOf_1 j) (hE_0_140_2 : ∀ j : Int, costOf_1 j = costOf_2 j) (hK_0_140 : ∀ j : Int, 0 ≤ j → j < 24000 → 0 ≤ costOf_0 j ∧ costOf_0 j ≤ 1000000) (hE_0_143_1 : ∀ j : Int, barredPoint_0 j = barredPoint_1 j) (hE_0_143_2 : ∀ j : Int, barredPoint_1 j = barredPoint_2 j) (hK_0_143 : ∀ j : Int, 0 ≤ j → j < 6000 → 0 ≤ barredPoint_0 j ∧ barredPoint_0 j ≤ 1) (hE_0_148_1 : ∀ j : Int, turnX_0 j = turnX_1 j) (hE_0_148_2 : ∀ j : Int, 0 ≤ j → (j = x5 → turnX_1 j = x19) ∧ (j ≠ x5 → turnX_1 j = turnX_2 j)) (hK_0_148 : ∀ j : Int, 0 ≤ j → j < 26 → (-2147483648) ≤ turnX_0 j ∧ turnX_0 j ≤ 2005999) (hE_0_149_1 : ∀ j : Int, 0 ≤ j → (j = x5 → turnY_0 j = x23) ∧ (j ≠ x5 → turnY_0 j = turnY_1 j)) (hE_0_149_2 : ∀ j : Int, turnY_1 j = turnY_2 j) (hK_0_149 : ∀ j : Int, 0 ≤ j → j < 26 → (-2147483648) ≤ turnY_0 j ∧ turnY_0 j ≤ 2005999) (kz_0_146 : (-2147483648) ≤ wide_0 ∧ wide_0 ≤ 2147483647) (kz_0_147 : (-2147483648) ≤ tall_0 ∧ tall_0 ≤ 2147483647) (ex2 : gx = (-1) + (1 * x13 + 0)) (ex3 : (-2) ≤ gx ∧ gx ≤ 1000000) : (0 ≤ x25) ∧ ((x25 + 1) ≤ (wide_0 * tall_0)) := by
  subst fe_0_146_1
  subst fe_0_147_1
  subst fe_0_146_2
  subst fe_0_147_2
  have e_hE_0_140_1 := funext hE_0_140_1; subst e_hE_0_140_1
  have e_hE_0_140_2 := funext hE_0_140_2; subst e_hE_0_140_2
  have e_hE_0_143_1 := funext hE_0_143_1; subst e_hE_0_143_1
  have e_hE_0_143_2 := funext hE_0_143_2; subst e_hE_0_143_2
  have e_hE_0_148_1 := funext hE_0_148_1; subst e_hE_0_148_1
  have e_hE_0_149_2 := funext hE_0_149_2; subst e_hE_0_149_2
  first
    | omega
    | (have h := bb2_start (t := x13) ‹RTV _ _ _ _ _› ‹BB1 _ _ _ _ _ _ _ _› (by omega) ‹STQ _ _ _ _ _ _› (by omega)
       have h1 := h.1
       have h2 := h.2.2.2.2
       omega)
    | (have h := bb_next ‹RTV _ _ _ _ _› ‹BB2 _ _ _ _ _ _ _› ‹BB3 _ _ _ _ _ _ _ _ _ _› (by omega) (by omega)
       have h1 := h.1.1
       have h2 := h.2
       omega)
set_option maxHeartbeats 4000000 in
theorem vc_Mo_bendsBecome_16_5 (x3 : Int) (x5 : Int) (x6 : Int) (x7 : Int) (x9 : Int) (x10 : Int) (x11 : Int) (x12 : Int) (x13 : Int) (x14 : Int) (x17 : Int) (x18 : Int) (x22 : Int) (x24 : Int) (x25 : Int) (barredPoint_0 : Int → Int) (wide_0 : Int) (tall_0 : Int) (costOf_0 : Int → Int) (wide_1 : Int) (tall_1 : Int) (barredPoint_1 : Int → Int) (costOf_1 : Int → Int) (wide_2 : Int) (tall_2 : Int) (barredPoint_2 : Int → Int) (costOf_2 : Int → Int) (turnX_0 : Int → Int) (turnX_1 : Int → Int) (turnX_2 : Int → Int) (x19 : Int) (turnY_0 : Int → Int) (turnY_1 : Int → Int) (x23 : Int) (turnY_2 : Int → Int) (gx : Int) (k3 : 0 ≤ x3 ∧ x3 ≤ 5999) (k5 : 0 ≤ x5 ∧ x5 ≤ 24) (k6 : 0 ≤ x6 ∧ x6 ≤ 5999) (k7 : 0 ≤ x7 ∧ x7 ≤ 3) (k9 : 0 ≤ x9 ∧ x9 ≤ 1000000) (k10 : 0 ≤ x10 ∧ x10 ≤ 3) (k11 : 0 ≤ x11 ∧ x11 ≤ 999999) (k12 : (-1) ≤ x12 ∧ x12 ≤ (-1)) (k13 : (-2) ≤ x13 ∧ x13 ≤ 1000000) (k14 : 25 ≤ x14 ∧ x14 ≤ 25) (k17 : 1 ≤ x17 ∧ x17 ≤ 6000) (k18 : 0 ≤ x18 ∧ x18 ≤ 5999) (k22 : 0 ≤ x22 ∧ x22 ≤ 5999) (k24 : 1 ≤ x24 ∧ x24 ≤ 25) (k25 : 0 ≤ x25 ∧ x25 ≤ 5999) (d0 : x5 + 1 ≤ x24 ∧ x24 ≤ x5 + 1) (d1 : x17 + (-4294967295) ≤ x18 ∧ x18 ≤ x17 + (-1)) (d2 : x9 + (-4294967296) ≤ x10 ∧ x10 ≤ x9 + 2) (d3 : x9 + (-4294967296) ≤ x11 ∧ x11 ≤ x9 + 0) (f0 : STQ (wide_0) (tall_0) (barredPoint_0) (x6) (x10) (x25)) (f1 : ((-1) ≤ x25) ∧ ((x25 + 1) ≤ (wide_0 * tall_0))) (f2 : x24 = x5 + 1) (f3 : GRX (wide_0) (tall_0)) (f4 : RTV (wide_0) (tall_0) (barredPoint_0) (costOf_0) (x3)) (f5 : (0 ≤ x3) ∧ ((x3 + 1) ≤ (wide_0 * tall_0))) (f6 : BB2 (wide_0) (tall_0) (barredPoint_0) (costOf_0) (x6) (x7) (x9)) (f7 : (0 ≤ x6) ∧ ((x6 + 1) ≤ (wide_0 * tall_0))) (f8 : (x5 + x9) ≤ 1000000) (f9 : 0 ≤ x5) (f10 : x6 ≠ x3) (f11 : BB3 (wide_0) (tall_0) (barredPoint_0) (costOf_0) (x6) (x7) (x9) (x10) (x11) (x12)) (f12 : (0 ≤ x9) ∧ (x9 ≤ x13)) (f13 : (-1) * x13 + 0 ≤ (-1)) (f15 : x22 = Int.tdiv (x6) (x17)) (g16 : x17 = wide_1) (f18 : GRX (wide_1) (tall_1)) (f19 : RTV (wide_1) (tall_1) (barredPoint_1) (costOf_1) (x3)) (f20 : (0 ≤ x3) ∧ ((x3 + 1) ≤ (wide_1 * tall_1))) (f21 : BB2 (wide_1) (tall_1) (barredPoint_1) (costOf_1) (x6) (x7) (x9)) (f22 : (0 ≤ x6) ∧ ((x6 + 1) ≤ (wide_1 * tall_1))) (f23 : (x5 + x9) ≤ 1000000) (f24 : 0 ≤ x5) (f25 : x6 ≠ x3) (f26 : BB3 (wide_1) (tall_1) (barredPoint_1) (costOf_1) (x6) (x7) (x9) (x10) (x11) (x12)) (f27 : (0 ≤ x9) ∧ (x9 ≤ x13)) (f28 : (-1) * x13 + 0 ≤ (-1)) (f30 : x18 = Int.tmod (x6) (x17)) (f32 : x5 < x14) (f33 : x10 ≠ x7) (f34 : x12 < 0) (f35 : GRX (wide_2) (tall_2)) (f36 : RTV (wide_2) (tall_2) (barredPoint_2) (costOf_2) (x3)) (f37 : (0 ≤ x3) ∧ ((x3 + 1) ≤ (wide_2 * tall_2))) (f38 : BB2 (wide_2) (tall_2) (barredPoint_2) (costOf_2) (x6) (x7) (x9)) (f39 : (0 ≤ x6) ∧ ((x6 + 1) ≤ (wide_2 * tall_2))) (f40 : (x5 + x9) ≤ 1000000) (f41 : 0 ≤ x5) (f42 : x6 ≠ x3) (f43 : BB3 (wide_2) (tall_2) (barredPoint_2) (costOf_2) (x6) (x7) (x9) (x10) (x11) (x12)) (f44 : (0 ≤ x9) ∧ (x9 ≤ x13)) (f45 : (-1) * x13 + 0 ≤ (-1)) (fe_0_146_1 : wide_0 = wide_1) (fe_0_147_1 : tall_0 = tall_1) (fe_0_146_2 : wide_1 = wide_2) (fe_0_147_2 : tall_1 = tall_2) (hE_0_140_1 : ∀ j : Int, costOf_0 j = costOf_1 j) (hE_0_140_2 : ∀ j : Int, costOf_1 j = costOf_2 j) (hK_0_140 : ∀ j : Int, 0 ≤ j → j < 24000 → 0 ≤ costOf_0 j ∧ costOf_0 j ≤ 1000000) (hE_0_143_1 : ∀ j : Int, barredPoint_0 j = barredPoint_1 j) (hE_0_143_2 : ∀ j : Int, barredPoint_1 j = barredPoint_2 j) (hK_0_143 : ∀ j : Int, 0 ≤ j → j < 6000 → 0 ≤ barredPoint_0 j ∧ barredPoint_0 j ≤ 1) (hE_0_148_1 : ∀ j : Int, turnX_0 j = turnX_1 j) (hE_0_148_2 : ∀ j : Int, 0 ≤ j → (j = x5 → turnX_1 j = x19) ∧ (j ≠ x5 → turnX_1 j = turnX_2 j)) (hK_0_148 : ∀ j : Int, 0 ≤ j → j < 26 → (-2147483648) ≤ turnX_0 j ∧ turnX_0 j ≤ 2005999) (hE_0_149_1 : ∀ j : Int, 0 ≤ j → (j = x5 → turnY_0 j = x23) ∧ (j ≠ x5 → turnY_0 j = turnY_1 j)) (hE_0_149_2 : ∀ j : Int, turnY_1 j = turnY_2 j) (hK_0_149 : ∀ j : Int, 0 ≤ j → j < 26 → (-2147483648) ≤ turnY_0 j ∧ turnY_0 j ≤ 2005999) (kz_0_146 : (-2147483648) ≤ wide_0 ∧ wide_0 ≤ 2147483647) (kz_0_147 : (-2147483648) ≤ tall_0 ∧ tall_0 ≤ 2147483647) (ex2 : gx = (-1) + (1 * x13 + 0)) (ex3 : (-2) ≤ gx ∧ gx ≤ 1000000) : (x24 + x11) ≤ 1000000 := by
  subst fe_0_146_1
  subst fe_0_147_1
  subst fe_0_146_2
  subst fe_0_147_2
  have e_hE_0_140_1 := funext hE_0_140_1; subst e_hE_0_140_1
  have e_hE_0_140_2 := funext hE_0_140_2; subst e_hE_0_140_2
  have e_hE_0_143_1 := funext hE_0_143_1; subst e_hE_0_143_1
  have e_hE_0_143_2 := funext hE_0_143_2; subst e_hE_0_143_2
  have e_hE_0_148_1 := funext hE_0_148_1; subst e_hE_0_148_1
  have e_hE_0_149_2 := funext hE_0_149_2; subst e_hE_0_149_2
  first
    | omega
    | (have h := bb2_start (t := x13) ‹RTV _ _ _ _ _› ‹BB1 _ _ _ _ _ _ _ _› (by omega) ‹STQ _ _ _ _ _ _› (by omega)
       have h1 := h.1
       have h2 := h.2.2.2.2
       omega)
    | (have h := bb_next ‹RTV _ _ _ _ _› ‹BB2 _ _ _ _ _ _ _› ‹BB3 _ _ _ _ _ _ _ _ _ _› (by omega) (by omega)
       have h1 := h.1.1
       have h2 := h.2
       omega)
set_option maxHeartbeats 4000000 in
theorem vc_Mo_bendsBecome_16_6 (x3 : Int) (x5 : Int) (x6 : Int) (x7 : Int) (x9 : Int) (x10 : Int) (x11 : Int) (x12 : Int) (x13 : Int) (x14 : Int) (x17 : Int) (x18 : Int) (x22 : Int) (x24 : Int) (x25 : Int) (barredPoint_0 : Int → Int) (wide_0 : Int) (tall_0 : Int) (costOf_0 : Int → Int) (wide_1 : Int) (tall_1 : Int) (barredPoint_1 : Int → Int) (costOf_1 : Int → Int) (wide_2 : Int) (tall_2 : Int) (barredPoint_2 : Int → Int) (costOf_2 : Int → Int) (turnX_0 : Int → Int) (turnX_1 : Int → Int) (turnX_2 : Int → Int) (x19 : Int) (turnY_0 : Int → Int) (turnY_1 : Int → Int) (x23 : Int) (turnY_2 : Int → Int) (gx : Int) (k3 : 0 ≤ x3 ∧ x3 ≤ 5999) (k5 : 0 ≤ x5 ∧ x5 ≤ 24) (k6 : 0 ≤ x6 ∧ x6 ≤ 5999) (k7 : 0 ≤ x7 ∧ x7 ≤ 3) (k9 : 0 ≤ x9 ∧ x9 ≤ 1000000) (k10 : 0 ≤ x10 ∧ x10 ≤ 3) (k11 : 0 ≤ x11 ∧ x11 ≤ 999999) (k12 : (-1) ≤ x12 ∧ x12 ≤ (-1)) (k13 : (-2) ≤ x13 ∧ x13 ≤ 1000000) (k14 : 25 ≤ x14 ∧ x14 ≤ 25) (k17 : 1 ≤ x17 ∧ x17 ≤ 6000) (k18 : 0 ≤ x18 ∧ x18 ≤ 5999) (k22 : 0 ≤ x22 ∧ x22 ≤ 5999) (k24 : 1 ≤ x24 ∧ x24 ≤ 25) (k25 : 0 ≤ x25 ∧ x25 ≤ 5999) (d0 : x5 + 1 ≤ x24 ∧ x24 ≤ x5 + 1) (d1 : x17 + (-4294967295) ≤ x18 ∧ x18 ≤ x17 + (-1)) (d2 : x9 + (-4294967296) ≤ x10 ∧ x10 ≤ x9 + 2) (d3 : x9 + (-4294967296) ≤ x11 ∧ x11 ≤ x9 + 0) (f0 : STQ (wide_0) (tall_0) (barredPoint_0) (x6) (x10) (x25)) (f1 : ((-1) ≤ x25) ∧ ((x25 + 1) ≤ (wide_0 * tall_0))) (f2 : x24 = x5 + 1) (f3 : GRX (wide_0) (tall_0)) (f4 : RTV (wide_0) (tall_0) (barredPoint_0) (costOf_0) (x3)) (f5 : (0 ≤ x3) ∧ ((x3 + 1) ≤ (wide_0 * tall_0))) (f6 : BB2 (wide_0) (tall_0) (barredPoint_0) (costOf_0) (x6) (x7) (x9)) (f7 : (0 ≤ x6) ∧ ((x6 + 1) ≤ (wide_0 * tall_0))) (f8 : (x5 + x9) ≤ 1000000) (f9 : 0 ≤ x5) (f10 : x6 ≠ x3) (f11 : BB3 (wide_0) (tall_0) (barredPoint_0) (costOf_0) (x6) (x7) (x9) (x10) (x11) (x12)) (f12 : (0 ≤ x9) ∧ (x9 ≤ x13)) (f13 : (-1) * x13 + 0 ≤ (-1)) (f15 : x22 = Int.tdiv (x6) (x17)) (g16 : x17 = wide_1) (f18 : GRX (wide_1) (tall_1)) (f19 : RTV (wide_1) (tall_1) (barredPoint_1) (costOf_1) (x3)) (f20 : (0 ≤ x3) ∧ ((x3 + 1) ≤ (wide_1 * tall_1))) (f21 : BB2 (wide_1) (tall_1) (barredPoint_1) (costOf_1) (x6) (x7) (x9)) (f22 : (0 ≤ x6) ∧ ((x6 + 1) ≤ (wide_1 * tall_1))) (f23 : (x5 + x9) ≤ 1000000) (f24 : 0 ≤ x5) (f25 : x6 ≠ x3) (f26 : BB3 (wide_1) (tall_1) (barredPoint_1) (costOf_1) (x6) (x7) (x9) (x10) (x11) (x12)) (f27 : (0 ≤ x9) ∧ (x9 ≤ x13)) (f28 : (-1) * x13 + 0 ≤ (-1)) (f30 : x18 = Int.tmod (x6) (x17)) (f32 : x5 < x14) (f33 : x10 ≠ x7) (f34 : x12 < 0) (f35 : GRX (wide_2) (tall_2)) (f36 : RTV (wide_2) (tall_2) (barredPoint_2) (costOf_2) (x3)) (f37 : (0 ≤ x3) ∧ ((x3 + 1) ≤ (wide_2 * tall_2))) (f38 : BB2 (wide_2) (tall_2) (barredPoint_2) (costOf_2) (x6) (x7) (x9)) (f39 : (0 ≤ x6) ∧ ((x6 + 1) ≤ (wide_2 * tall_2))) (f40 : (x5 + x9) ≤ 1000000) (f41 : 0 ≤ x5) (f42 : x6 ≠ x3) (f43 : BB3 (wide_2) (tall_2) (barredPoint_2) (costOf_2) (x6) (x7) (x9) (x10) (x11) (x12)) (f44 : (0 ≤ x9) ∧ (x9 ≤ x13)) (f45 : (-1) * x13 + 0 ≤ (-1)) (fe_0_146_1 : wide_0 = wide_1) (fe_0_147_1 : tall_0 = tall_1) (fe_0_146_2 : wide_1 = wide_2) (fe_0_147_2 : tall_1 = tall_2) (hE_0_140_1 : ∀ j : Int, costOf_0 j = costOf_1 j) (hE_0_140_2 : ∀ j : Int, costOf_1 j = costOf_2 j) (hK_0_140 : ∀ j : Int, 0 ≤ j → j < 24000 → 0 ≤ costOf_0 j ∧ costOf_0 j ≤ 1000000) (hE_0_143_1 : ∀ j : Int, barredPoint_0 j = barredPoint_1 j) (hE_0_143_2 : ∀ j : Int, barredPoint_1 j = barredPoint_2 j) (hK_0_143 : ∀ j : Int, 0 ≤ j → j < 6000 → 0 ≤ barredPoint_0 j ∧ barredPoint_0 j ≤ 1) (hE_0_148_1 : ∀ j : Int, turnX_0 j = turnX_1 j) (hE_0_148_2 : ∀ j : Int, 0 ≤ j → (j = x5 → turnX_1 j = x19) ∧ (j ≠ x5 → turnX_1 j = turnX_2 j)) (hK_0_148 : ∀ j : Int, 0 ≤ j → j < 26 → (-2147483648) ≤ turnX_0 j ∧ turnX_0 j ≤ 2005999) (hE_0_149_1 : ∀ j : Int, 0 ≤ j → (j = x5 → turnY_0 j = x23) ∧ (j ≠ x5 → turnY_0 j = turnY_1 j)) (hE_0_149_2 : ∀ j : Int, turnY_1 j = turnY_2 j) (hK_0_149 : ∀ j : Int, 0 ≤ j → j < 26 → (-2147483648) ≤ turnY_0 j ∧ turnY_0 j ≤ 2005999) (kz_0_146 : (-2147483648) ≤ wide_0 ∧ wide_0 ≤ 2147483647) (kz_0_147 : (-2147483648) ≤ tall_0 ∧ tall_0 ≤ 2147483647) (ex2 : gx = (-1) + (1 * x13 + 0)) (ex3 : (-2) ≤ gx ∧ gx ≤ 1000000) : 0 ≤ x24 := by
  subst fe_0_146_1
  subst fe_0_147_1
  subst fe_0_146_2
  subst fe_0_147_2
  have e_hE_0_140_1 := funext hE_0_140_1; subst e_hE_0_140_1
  have e_hE_0_140_2 := funext hE_0_140_2; subst e_hE_0_140_2
  have e_hE_0_143_1 := funext hE_0_143_1; subst e_hE_0_143_1
  have e_hE_0_143_2 := funext hE_0_143_2; subst e_hE_0_143_2
  have e_hE_0_148_1 := funext hE_0_148_1; subst e_hE_0_148_1
  have e_hE_0_149_2 := funext hE_0_149_2; subst e_hE_0_149_2
  first
    | omega
    | (have h := bb2_start (t := x13) ‹RTV _ _ _ _ _› ‹BB1 _ _ _ _ _ _ _ _› (by omega) ‹STQ _ _ _ _ _ _› (by omega)
       have h1 := h.1
       have h2 := h.2.2.2.2
       omega)
    | (have h := bb_next ‹RTV _ _ _ _ _› ‹BB2 _ _ _ _ _ _ _› ‹BB3 _ _ _ _ _ _ _ _ _ _› (by omega) (by omega)
       have h1 := h.1.1
       have h2 := h.2
       omega)
set_option maxHeartbeats 4000000 in
theorem vc_Mo_bendsBecome_16_7 (x3 : Int) (x5 : Int) (x6 : Int) (x7 : Int) (x9 : Int) (x10 : Int) (x11 : Int) (x12 : Int) (x13 : Int) (x14 : Int) (x17 : Int) (x18 : Int) (x22 : Int) (x24 : Int) (x25 : Int) (barredPoint_0 : Int → Int) (wide_0 : Int) (tall_0 : Int) (costOf_0 : Int → Int) (wide_1 : Int) (tall_1 : Int) (barredPoint_1 : Int → Int) (costOf_1 : Int → Int) (wide_2 : Int) (tall_2 : Int) (barredPoint_2 : Int → Int) (costOf_2 : Int → Int) (turnX_0 : Int → Int) (turnX_1 : Int → Int) (turnX_2 : Int → Int) (x19 : Int) (turnY_0 : Int → Int) (turnY_1 : Int → Int) (x23 : Int) (turnY_2 : Int → Int) (gx : Int) (k3 : 0 ≤ x3 ∧ x3 ≤ 5999) (k5 : 0 ≤ x5 ∧ x5 ≤ 24) (k6 : 0 ≤ x6 ∧ x6 ≤ 5999) (k7 : 0 ≤ x7 ∧ x7 ≤ 3) (k9 : 0 ≤ x9 ∧ x9 ≤ 1000000) (k10 : 0 ≤ x10 ∧ x10 ≤ 3) (k11 : 0 ≤ x11 ∧ x11 ≤ 999999) (k12 : (-1) ≤ x12 ∧ x12 ≤ (-1)) (k13 : (-2) ≤ x13 ∧ x13 ≤ 1000000) (k14 : 25 ≤ x14 ∧ x14 ≤ 25) (k17 : 1 ≤ x17 ∧ x17 ≤ 6000) (k18 : 0 ≤ x18 ∧ x18 ≤ 5999) (k22 : 0 ≤ x22 ∧ x22 ≤ 5999) (k24 : 1 ≤ x24 ∧ x24 ≤ 25) (k25 : 0 ≤ x25 ∧ x25 ≤ 5999) (d0 : x5 + 1 ≤ x24 ∧ x24 ≤ x5 + 1) (d1 : x17 + (-4294967295) ≤ x18 ∧ x18 ≤ x17 + (-1)) (d2 : x9 + (-4294967296) ≤ x10 ∧ x10 ≤ x9 + 2) (d3 : x9 + (-4294967296) ≤ x11 ∧ x11 ≤ x9 + 0) (f0 : STQ (wide_0) (tall_0) (barredPoint_0) (x6) (x10) (x25)) (f1 : ((-1) ≤ x25) ∧ ((x25 + 1) ≤ (wide_0 * tall_0))) (f2 : x24 = x5 + 1) (f3 : GRX (wide_0) (tall_0)) (f4 : RTV (wide_0) (tall_0) (barredPoint_0) (costOf_0) (x3)) (f5 : (0 ≤ x3) ∧ ((x3 + 1) ≤ (wide_0 * tall_0))) (f6 : BB2 (wide_0) (tall_0) (barredPoint_0) (costOf_0) (x6) (x7) (x9)) (f7 : (0 ≤ x6) ∧ ((x6 + 1) ≤ (wide_0 * tall_0))) (f8 : (x5 + x9) ≤ 1000000) (f9 : 0 ≤ x5) (f10 : x6 ≠ x3) (f11 : BB3 (wide_0) (tall_0) (barredPoint_0) (costOf_0) (x6) (x7) (x9) (x10) (x11) (x12)) (f12 : (0 ≤ x9) ∧ (x9 ≤ x13)) (f13 : (-1) * x13 + 0 ≤ (-1)) (f15 : x22 = Int.tdiv (x6) (x17)) (g16 : x17 = wide_1) (f18 : GRX (wide_1) (tall_1)) (f19 : RTV (wide_1) (tall_1) (barredPoint_1) (costOf_1) (x3)) (f20 : (0 ≤ x3) ∧ ((x3 + 1) ≤ (wide_1 * tall_1))) (f21 : BB2 (wide_1) (tall_1) (barredPoint_1) (costOf_1) (x6) (x7) (x9)) (f22 : (0 ≤ x6) ∧ ((x6 + 1) ≤ (wide_1 * tall_1))) (f23 : (x5 + x9) ≤ 1000000) (f24 : 0 ≤ x5) (f25 : x6 ≠ x3) (f26 : BB3 (wide_1) (tall_1) (barredPoint_1) (costOf_1) (x6) (x7) (x9) (x10) (x11) (x12)) (f27 : (0 ≤ x9) ∧ (x9 ≤ x13)) (f28 : (-1) * x13 + 0 ≤ (-1)) (f30 : x18 = Int.tmod (x6) (x17)) (f32 : x5 < x14) (f33 : x10 ≠ x7) (f34 : x12 < 0) (f35 : GRX (wide_2) (tall_2)) (f36 : RTV (wide_2) (tall_2) (barredPoint_2) (costOf_2) (x3)) (f37 : (0 ≤ x3) ∧ ((x3 + 1) ≤ (wide_2 * tall_2))) (f38 : BB2 (wide_2) (tall_2) (barredPoint_2) (costOf_2) (x6) (x7) (x9)) (f39 : (0 ≤ x6) ∧ ((x6 + 1) ≤ (wide_2 * tall_2))) (f40 : (x5 + x9) ≤ 1000000) (f41 : 0 ≤ x5) (f42 : x6 ≠ x3) (f43 : BB3 (wide_2) (tall_2) (barredPoint_2) (costOf_2) (x6) (x7) (x9) (x10) (x11) (x12)) (f44 : (0 ≤ x9) ∧ (x9 ≤ x13)) (f45 : (-1) * x13 + 0 ≤ (-1)) (fe_0_146_1 : wide_0 = wide_1) (fe_0_147_1 : tall_0 = tall_1) (fe_0_146_2 : wide_1 = wide_2) (fe_0_147_2 : tall_1 = tall_2) (hE_0_140_1 : ∀ j : Int, costOf_0 j = costOf_1 j) (hE_0_140_2 : ∀ j : Int, costOf_1 j = costOf_2 j) (hK_0_140 : ∀ j : Int, 0 ≤ j → j < 24000 → 0 ≤ costOf_0 j ∧ costOf_0 j ≤ 1000000) (hE_0_143_1 : ∀ j : Int, barredPoint_0 j = barredPoint_1 j) (hE_0_143_2 : ∀ j : Int, barredPoint_1 j = barredPoint_2 j) (hK_0_143 : ∀ j : Int, 0 ≤ j → j < 6000 → 0 ≤ barredPoint_0 j ∧ barredPoint_0 j ≤ 1) (hE_0_148_1 : ∀ j : Int, turnX_0 j = turnX_1 j) (hE_0_148_2 : ∀ j : Int, 0 ≤ j → (j = x5 → turnX_1 j = x19) ∧ (j ≠ x5 → turnX_1 j = turnX_2 j)) (hK_0_148 : ∀ j : Int, 0 ≤ j → j < 26 → (-2147483648) ≤ turnX_0 j ∧ turnX_0 j ≤ 2005999) (hE_0_149_1 : ∀ j : Int, 0 ≤ j → (j = x5 → turnY_0 j = x23) ∧ (j ≠ x5 → turnY_0 j = turnY_1 j)) (hE_0_149_2 : ∀ j : Int, turnY_1 j = turnY_2 j) (hK_0_149 : ∀ j : Int, 0 ≤ j → j < 26 → (-2147483648) ≤ turnY_0 j ∧ turnY_0 j ≤ 2005999) (kz_0_146 : (-2147483648) ≤ wide_0 ∧ wide_0 ≤ 2147483647) (kz_0_147 : (-2147483648) ≤ tall_0 ∧ tall_0 ≤ 2147483647) (ex2 : gx = (-1) + (1 * x13 + 0)) (ex3 : (-2) ≤ gx ∧ gx ≤ 1000000) : (0 ≤ x11) ∧ (x11 ≤ gx) := by
  subst fe_0_146_1
  subst fe_0_147_1
  subst fe_0_146_2
  subst fe_0_147_2
  have e_hE_0_140_1 := funext hE_0_140_1; subst e_hE_0_140_1
  have e_hE_0_140_2 := funext hE_0_140_2; subst e_hE_0_140_2
  have e_hE_0_143_1 := funext hE_0_143_1; subst e_hE_0_143_1
  have e_hE_0_143_2 := funext hE_0_143_2; subst e_hE_0_143_2
  have e_hE_0_148_1 := funext hE_0_148_1; subst e_hE_0_148_1
  have e_hE_0_149_2 := funext hE_0_149_2; subst e_hE_0_149_2
  first
    | omega
    | (have h := bb2_start (t := x13) ‹RTV _ _ _ _ _› ‹BB1 _ _ _ _ _ _ _ _› (by omega) ‹STQ _ _ _ _ _ _› (by omega)
       have h1 := h.1
       have h2 := h.2.2.2.2
       omega)
    | (have h := bb_next ‹RTV _ _ _ _ _› ‹BB2 _ _ _ _ _ _ _› ‹BB3 _ _ _ _ _ _ _ _ _ _› (by omega) (by omega)
       have h1 := h.1.1
       have h2 := h.2
       omega)
def o_Mo_bendsBecome_16 : or_T := (112, 26, [(0, (2, 0, 0, [150])), (3, (0, 0, 5999, [])), (5, (0, 0, 24, [])), (6, (0, 0, 5999, [])), (7, (0, 0, 3, [])), (9, (0, 0, 1000000, [])), (10, (0, 0, 3, [])), (11, (0, 0, 999999, [])), (12, (0, -1, -1, [])), (13, (0, -2, 1000000, [])), (14, (0, 25, 25, [])), (15, (2, 0, 0, [255])), (17, (0, 1, 6000, [])), (18, (0, 0, 5999, [])), (20, (2, 0, 0, [256])), (22, (0, 0, 5999, [])), (24, (0, 1, 25, [])), (25, (0, 0, 5999, []))], [(20, [0, 6, 10, 25], [60, 2, 1, 429, 146, 147, 143]), (20, [25, 0], [50, 2, 0, 1146, 1147, 2, 6, 0, 2, 0, -1, 1, 0, 0, 6, 4, 2, 1, 0, 0, 1, 6, 3, 2, 1, 146, 2, 1, 147]), (6, [24, 5], [1]), (20, [0], [60, 2, 0, 418, 146, 147]), (20, [0, 3], [60, 2, 2, 428, 146, 147, 143, 140]), (20, [3, 0], [50, 2, 0, 1146, 1147, 2, 6, 0, 2, 0, 0, 1, 0, 0, 6, 4, 2, 1, 0, 0, 1, 6, 3, 2, 1, 146, 2, 1, 147]), (20, [0, 6, 7, 9], [60, 2, 2, 431, 146, 147, 143, 140]), (20, [6, 0], [50, 2, 0, 1146, 1147, 2, 6, 0, 2, 0, 0, 1, 0, 0, 6, 4, 2, 1, 0, 0, 1, 6, 3, 2, 1, 146, 2, 1, 147]), (20, [5, 9], [50, 0, 0, 0, 6, 4, 2, 1, 0, 1, 1, 0, 1000000]), (20, [5], [50, 0, 0, 0, 2, 0, 0, 1, 0]), (20, [6, 3], [50, 0, 0, 7, 2, 1, 0, 1, 1]), (20, [0, 6, 7, 9, 10, 11, 12], [60, 2, 2, 432, 146, 147, 143, 140]), (20, [9, 13], [50, 0, 0, 2, 6, 0, 2, 0, 0, 1, 0, 0, 2, 1, 0, 1, 1]), (23, [13], [-1, -1]), (100, [20, 5, 23], []), (4, [22, 6, 17], []), (9, [17, 0], [146]), (9, [20, 0], [149]), (20, [0], [60, 2, 0, 418, 146, 147]), (20, [0, 3], [60, 2, 2, 428, 146, 147, 143, 140]), (20, [3, 0], [50, 2, 0, 1146, 1147, 2, 6, 0, 2, 0, 0, 1, 0, 0, 6, 4, 2, 1, 0, 0, 1, 6, 3, 2, 1, 146, 2, 1, 147]), (20, [0, 6, 7, 9], [60, 2, 2, 431, 146, 147, 143, 140]), (20, [6, 0], [50, 2, 0, 1146, 1147, 2, 6, 0, 2, 0, 0, 1, 0, 0, 6, 4, 2, 1, 0, 0, 1, 6, 3, 2, 1, 146, 2, 1, 147]), (20, [5, 9], [50, 0, 0, 0, 6, 4, 2, 1, 0, 1, 1, 0, 1000000]), (20, [5], [50, 0, 0, 0, 2, 0, 0, 1, 0]), (20, [6, 3], [50, 0, 0, 7, 2, 1, 0, 1, 1]), (20, [0, 6, 7, 9, 10, 11, 12], [60, 2, 2, 432, 146, 147, 143, 140]), (20, [9, 13], [50, 0, 0, 2, 6, 0, 2, 0, 0, 1, 0, 0, 2, 1, 0, 1, 1]), (23, [13], [-1, -1]), (100, [15, 5, 19], []), (5, [18, 6, 17], []), (9, [15, 0], [148]), (7, [5, 14], [2]), (7, [10, 7], [1]), (8, [12], [2]), (20, [0], [60, 2, 0, 418, 146, 147]), (20, [0, 3], [60, 2, 2, 428, 146, 147, 143, 140]), (20, [3, 0], [50, 2, 0, 1146, 1147, 2, 6, 0, 2, 0, 0, 1, 0, 0, 6, 4, 2, 1, 0, 0, 1, 6, 3, 2, 1, 146, 2, 1, 147]), (20, [0, 6, 7, 9], [60, 2, 2, 431, 146, 147, 143, 140]), (20, [6, 0], [50, 2, 0, 1146, 1147, 2, 6, 0, 2, 0, 0, 1, 0, 0, 6, 4, 2, 1, 0, 0, 1, 6, 3, 2, 1, 146, 2, 1, 147]), (20, [5, 9], [50, 0, 0, 0, 6, 4, 2, 1, 0, 1, 1, 0, 1000000]), (20, [5], [50, 0, 0, 0, 2, 0, 0, 1, 0]), (20, [6, 3], [50, 0, 0, 7, 2, 1, 0, 1, 1]), (20, [0, 6, 7, 9, 10, 11, 12], [60, 2, 2, 432, 146, 147, 143, 140]), (20, [9, 13], [50, 0, 0, 2, 6, 0, 2, 0, 0, 1, 0, 0, 2, 1, 0, 1, 1]), (23, [13], [-1, -1])], [], [(0, -2, 1000000, [])], [(20, [0], [60, 2, 0, 418, 146, 147]), (20, [0, 3], [60, 2, 2, 428, 146, 147, 143, 140]), (20, [3, 0], [50, 2, 0, 1146, 1147, 2, 6, 0, 2, 0, 0, 1, 0, 0, 6, 4, 2, 1, 0, 0, 1, 6, 3, 2, 1, 146, 2, 1, 147]), (20, [0, 25, 10, 11], [60, 2, 2, 431, 146, 147, 143, 140]), (20, [25, 0], [50, 2, 0, 1146, 1147, 2, 6, 0, 2, 0, 0, 1, 0, 0, 6, 4, 2, 1, 0, 0, 1, 6, 3, 2, 1, 146, 2, 1, 147]), (20, [24, 11], [50, 0, 0, 0, 6, 4, 2, 1, 0, 1, 1, 0, 1000000]), (20, [24], [50, 0, 0, 0, 2, 0, 0, 1, 0]), (20, [11, 26], [50, 0, 0, 2, 6, 0, 2, 0, 0, 1, 0, 0, 2, 1, 0, 1, 1])], [(26, 13, -1000000000000, -1)], [(24, 5, 1, 1), (18, 17, -4294967295, -1), (10, 9, -4294967296, 2), (11, 9, -4294967296, 0)])
theorem oo_Mo_bendsBecome_16 {kA : Nat → ClassId} : or_ok PRD kA GG o_Mo_bendsBecome_16 := by
  intro A ta ws vs hD hth hl hk hds hf
  have hl : vs.length = 26 := hl
  have hk : ∀ q ∈ ([(0, (2, 0, 0, [150])), (3, (0, 0, 5999, [])), (5, (0, 0, 24, [])), (6, (0, 0, 5999, [])), (7, (0, 0, 3, [])), (9, (0, 0, 1000000, [])), (10, (0, 0, 3, [])), (11, (0, 0, 999999, [])), (12, (0, -1, -1, [])), (13, (0, -2, 1000000, [])), (14, (0, 25, 25, [])), (15, (2, 0, 0, [255])), (17, (0, 1, 6000, [])), (18, (0, 0, 5999, [])), (20, (2, 0, 0, [256])), (22, (0, 0, 5999, [])), (24, (0, 1, 25, [])), (25, (0, 0, 5999, []))] : List (Nat × tv_T)), tv_ok ta q.2 (n_v vs q.1) := hk
  obtain ⟨t0, hk⟩ := List.forall_mem_cons.mp hk
  have t0 : tv_ok ta (2, 0, 0, [150]) (n_v vs 0) := t0
  have r0 : ta (v_ad (n_v vs 0)) = some 150 := tv_rg t0
  obtain ⟨t3, hk⟩ := List.forall_mem_cons.mp hk
  have t3 : tv_ok ta (0, 0, 5999, []) (n_v vs 3) := t3
  have k3 : 0 ≤ v_iv (n_v vs 3) ∧ v_iv (n_v vs 3) ≤ 5999 := tv_rng t3
  obtain ⟨t5, hk⟩ := List.forall_mem_cons.mp hk
  have t5 : tv_ok ta (0, 0, 24, []) (n_v vs 5) := t5
  have k5 : 0 ≤ v_iv (n_v vs 5) ∧ v_iv (n_v vs 5) ≤ 24 := tv_rng t5
  obtain ⟨t6, hk⟩ := List.forall_mem_cons.mp hk
  have t6 : tv_ok ta (0, 0, 5999, []) (n_v vs 6) := t6
  have k6 : 0 ≤ v_iv (n_v vs 6) ∧ v_iv (n_v vs 6) ≤ 5999 := tv_rng t6
  obtain ⟨t7, hk⟩ := List.forall_mem_cons.mp hk
  have t7 : tv_ok ta (0, 0, 3, []) (n_v vs 7) := t7
  have k7 : 0 ≤ v_iv (n_v vs 7) ∧ v_iv (n_v vs 7) ≤ 3 := tv_rng t7
  obtain ⟨t9, hk⟩ := List.forall_mem_cons.mp hk
  have t9 : tv_ok ta (0, 0, 1000000, []) (n_v vs 9) := t9
  have k9 : 0 ≤ v_iv (n_v vs 9) ∧ v_iv (n_v vs 9) ≤ 1000000 := tv_rng t9
  obtain ⟨t10, hk⟩ := List.forall_mem_cons.mp hk
  have t10 : tv_ok ta (0, 0, 3, []) (n_v vs 10) := t10
  have k10 : 0 ≤ v_iv (n_v vs 10) ∧ v_iv (n_v vs 10) ≤ 3 := tv_rng t10
  obtain ⟨t11, hk⟩ := List.forall_mem_cons.mp hk
  have t11 : tv_ok ta (0, 0, 999999, []) (n_v vs 11) := t11
  have k11 : 0 ≤ v_iv (n_v vs 11) ∧ v_iv (n_v vs 11) ≤ 999999 := tv_rng t11
  obtain ⟨t12, hk⟩ := List.forall_mem_cons.mp hk
  have t12 : tv_ok ta (0, -1, -1, []) (n_v vs 12) := t12
  have k12 : (-1) ≤ v_iv (n_v vs 12) ∧ v_iv (n_v vs 12) ≤ (-1) := tv_rng t12
  obtain ⟨t13, hk⟩ := List.forall_mem_cons.mp hk
  have t13 : tv_ok ta (0, -2, 1000000, []) (n_v vs 13) := t13
  have k13 : (-2) ≤ v_iv (n_v vs 13) ∧ v_iv (n_v vs 13) ≤ 1000000 := tv_rng t13
  obtain ⟨t14, hk⟩ := List.forall_mem_cons.mp hk
  have t14 : tv_ok ta (0, 25, 25, []) (n_v vs 14) := t14
  have k14 : 25 ≤ v_iv (n_v vs 14) ∧ v_iv (n_v vs 14) ≤ 25 := tv_rng t14
  obtain ⟨t15, hk⟩ := List.forall_mem_cons.mp hk
  have t15 : tv_ok ta (2, 0, 0, [255]) (n_v vs 15) := t15
  have r15 : ta (v_ad (n_v vs 15)) = some 255 := tv_rg t15
  obtain ⟨t17, hk⟩ := List.forall_mem_cons.mp hk
  have t17 : tv_ok ta (0, 1, 6000, []) (n_v vs 17) := t17
  have k17 : 1 ≤ v_iv (n_v vs 17) ∧ v_iv (n_v vs 17) ≤ 6000 := tv_rng t17
  obtain ⟨t18, hk⟩ := List.forall_mem_cons.mp hk
  have t18 : tv_ok ta (0, 0, 5999, []) (n_v vs 18) := t18
  have k18 : 0 ≤ v_iv (n_v vs 18) ∧ v_iv (n_v vs 18) ≤ 5999 := tv_rng t18
  obtain ⟨t20, hk⟩ := List.forall_mem_cons.mp hk
  have t20 : tv_ok ta (2, 0, 0, [256]) (n_v vs 20) := t20
  have r20 : ta (v_ad (n_v vs 20)) = some 256 := tv_rg t20
  obtain ⟨t22, hk⟩ := List.forall_mem_cons.mp hk
  have t22 : tv_ok ta (0, 0, 5999, []) (n_v vs 22) := t22
  have k22 : 0 ≤ v_iv (n_v vs 22) ∧ v_iv (n_v vs 22) ≤ 5999 := tv_rng t22
  obtain ⟨t24, hk⟩ := List.forall_mem_cons.mp hk
  have t24 : tv_ok ta (0, 1, 25, []) (n_v vs 24) := t24
  have k24 : 1 ≤ v_iv (n_v vs 24) ∧ v_iv (n_v vs 24) ≤ 25 := tv_rng t24
  obtain ⟨t25, hk⟩ := List.forall_mem_cons.mp hk
  have t25 : tv_ok ta (0, 0, 5999, []) (n_v vs 25) := t25
  have k25 : 0 ≤ v_iv (n_v vs 25) ∧ v_iv (n_v vs 25) ≤ 5999 := tv_rng t25
  have hds : ∀ q ∈ ([(24, 5, 1, 1), (18, 17, -4294967295, -1), (10, 9, -4294967296, 2), (11, 9, -4294967296, 0)] : List of_T), n_iv vs q.2.1 + q.2.2.1 ≤ n_iv vs q.1 ∧ n_iv vs q.1 ≤ n_iv vs q.2.1 + q.2.2.2 := hds
  obtain ⟨d0, hds⟩ := List.forall_mem_cons.mp hds
  have d0 : v_iv (n_v vs 5) + 1 ≤ v_iv (n_v vs 24) ∧ v_iv (n_v vs 24) ≤ v_iv (n_v vs 5) + 1 := d0
  obtain ⟨d1, hds⟩ := List.forall_mem_cons.mp hds
  have d1 : v_iv (n_v vs 17) + (-4294967295) ≤ v_iv (n_v vs 18) ∧ v_iv (n_v vs 18) ≤ v_iv (n_v vs 17) + (-1) := d1
  obtain ⟨d2, hds⟩ := List.forall_mem_cons.mp hds
  have d2 : v_iv (n_v vs 9) + (-4294967296) ≤ v_iv (n_v vs 10) ∧ v_iv (n_v vs 10) ≤ v_iv (n_v vs 9) + 2 := d2
  obtain ⟨d3, hds⟩ := List.forall_mem_cons.mp hds
  have d3 : v_iv (n_v vs 9) + (-4294967296) ≤ v_iv (n_v vs 11) ∧ v_iv (n_v vs 11) ≤ v_iv (n_v vs 9) + 0 := d3
  have hf : fc_ok PRD [(20, [0, 6, 10, 25], [60, 2, 1, 429, 146, 147, 143]), (20, [25, 0], [50, 2, 0, 1146, 1147, 2, 6, 0, 2, 0, -1, 1, 0, 0, 6, 4, 2, 1, 0, 0, 1, 6, 3, 2, 1, 146, 2, 1, 147]), (6, [24, 5], [1]), (20, [0], [60, 2, 0, 418, 146, 147]), (20, [0, 3], [60, 2, 2, 428, 146, 147, 143, 140]), (20, [3, 0], [50, 2, 0, 1146, 1147, 2, 6, 0, 2, 0, 0, 1, 0, 0, 6, 4, 2, 1, 0, 0, 1, 6, 3, 2, 1, 146, 2, 1, 147]), (20, [0, 6, 7, 9], [60, 2, 2, 431, 146, 147, 143, 140]), (20, [6, 0], [50, 2, 0, 1146, 1147, 2, 6, 0, 2, 0, 0, 1, 0, 0, 6, 4, 2, 1, 0, 0, 1, 6, 3, 2, 1, 146, 2, 1, 147]), (20, [5, 9], [50, 0, 0, 0, 6, 4, 2, 1, 0, 1, 1, 0, 1000000]), (20, [5], [50, 0, 0, 0, 2, 0, 0, 1, 0]), (20, [6, 3], [50, 0, 0, 7, 2, 1, 0, 1, 1]), (20, [0, 6, 7, 9, 10, 11, 12], [60, 2, 2, 432, 146, 147, 143, 140]), (20, [9, 13], [50, 0, 0, 2, 6, 0, 2, 0, 0, 1, 0, 0, 2, 1, 0, 1, 1]), (23, [13], [-1, -1]), (100, [20, 5, 23], []), (4, [22, 6, 17], []), (9, [17, 0], [146]), (9, [20, 0], [149]), (20, [0], [60, 2, 0, 418, 146, 147]), (20, [0, 3], [60, 2, 2, 428, 146, 147, 143, 140]), (20, [3, 0], [50, 2, 0, 1146, 1147, 2, 6, 0, 2, 0, 0, 1, 0, 0, 6, 4, 2, 1, 0, 0, 1, 6, 3, 2, 1, 146, 2, 1, 147]), (20, [0, 6, 7, 9], [60, 2, 2, 431, 146, 147, 143, 140]), (20, [6, 0], [50, 2, 0, 1146, 1147, 2, 6, 0, 2, 0, 0, 1, 0, 0, 6, 4, 2, 1, 0, 0, 1, 6, 3, 2, 1, 146, 2, 1, 147]), (20, [5, 9], [50, 0, 0, 0, 6, 4, 2, 1, 0, 1, 1, 0, 1000000]), (20, [5], [50, 0, 0, 0, 2, 0, 0, 1, 0]), (20, [6, 3], [50, 0, 0, 7, 2, 1, 0, 1, 1]), (20, [0, 6, 7, 9, 10, 11, 12], [60, 2, 2, 432, 146, 147, 143, 140]), (20, [9, 13], [50, 0, 0, 2, 6, 0, 2, 0, 0, 1, 0, 0, 2, 1, 0, 1, 1]), (23, [13], [-1, -1]), (100, [15, 5, 19], []), (5, [18, 6, 17], []), (9, [15, 0], [148]), (7, [5, 14], [2]), (7, [10, 7], [1]), (8, [12], [2]), (20, [0], [60, 2, 0, 418, 146, 147]), (20, [0, 3], [60, 2, 2, 428, 146, 147, 143, 140]), (20, [3, 0], [50, 2, 0, 1146, 1147, 2, 6, 0, 2, 0, 0, 1, 0, 0, 6, 4, 2, 1, 0, 0, 1, 6, 3, 2, 1, 146, 2, 1, 147]), (20, [0, 6, 7, 9], [60, 2, 2, 431, 146, 147, 143, 140]), (20, [6, 0], [50, 2, 0, 1146, 1147, 2, 6, 0, 2, 0, 0, 1, 0, 0, 6, 4, 2, 1, 0, 0, 1, 6, 3, 2, 1, 146, 2, 1, 147]), (20, [5, 9], [50, 0, 0, 0, 6, 4, 2, 1, 0, 1, 1, 0, 1000000]), (20, [5], [50, 0, 0, 0, 2, 0, 0, 1, 0]), (20, [6, 3], [50, 0, 0, 7, 2, 1, 0, 1, 1]), (20, [0, 6, 7, 9, 10, 11, 12], [60, 2, 2, 432, 146, 147, 143, 140]), (20, [9, 13], [50, 0, 0, 2, 6, 0, 2, 0, 0, 1, 0, 0, 2, 1, 0, 1, 1]), (23, [13], [-1, -1])] ta ws vs := hf
  obtain ⟨f0, hf⟩ := fc_un (show (20 : Nat) < 100 from by decide) hf
  have f0 : STQ (w_fi ws (n_v vs 0) 146) (w_fi ws (n_v vs 0) 147) (w_ei ws (w_ar ws (n_v vs 0) 143)) (v_iv (n_v vs 6)) (v_iv (n_v vs 10)) (v_iv (n_v vs 25)) := f0
  obtain ⟨f1, hf⟩ := fc_un (show (20 : Nat) < 100 from by decide) hf
  have f1 : ((-1) ≤ v_iv (n_v vs 25)) ∧ ((v_iv (n_v vs 25) + 1) ≤ (w_fi ws (n_v vs 0) 146 * w_fi ws (n_v vs 0) 147)) := f1
  obtain ⟨f2, hf⟩ := fc_un (show (6 : Nat) < 100 from by decide) hf
  have f2 : v_iv (n_v vs 24) = v_iv (n_v vs 5) + 1 := f2
  obtain ⟨f3, hf⟩ := fc_un (show (20 : Nat) < 100 from by decide) hf
  have f3 : GRX (w_fi ws (n_v vs 0) 146) (w_fi ws (n_v vs 0) 147) := f3
  obtain ⟨f4, hf⟩ := fc_un (show (20 : Nat) < 100 from by decide) hf
  have f4 : RTV (w_fi ws (n_v vs 0) 146) (w_fi ws (n_v vs 0) 147) (w_ei ws (w_ar ws (n_v vs 0) 143)) (w_ei ws (w_ar ws (n_v vs 0) 140)) (v_iv (n_v vs 3)) := f4
  obtain ⟨f5, hf⟩ := fc_un (show (20 : Nat) < 100 from by decide) hf
  have f5 : (0 ≤ v_iv (n_v vs 3)) ∧ ((v_iv (n_v vs 3) + 1) ≤ (w_fi ws (n_v vs 0) 146 * w_fi ws (n_v vs 0) 147)) := f5
  obtain ⟨f6, hf⟩ := fc_un (show (20 : Nat) < 100 from by decide) hf
  have f6 : BB2 (w_fi ws (n_v vs 0) 146) (w_fi ws (n_v vs 0) 147) (w_ei ws (w_ar ws (n_v vs 0) 143)) (w_ei ws (w_ar ws (n_v vs 0) 140)) (v_iv (n_v vs 6)) (v_iv (n_v vs 7)) (v_iv (n_v vs 9)) := f6
  obtain ⟨f7, hf⟩ := fc_un (show (20 : Nat) < 100 from by decide) hf
  have f7 : (0 ≤ v_iv (n_v vs 6)) ∧ ((v_iv (n_v vs 6) + 1) ≤ (w_fi ws (n_v vs 0) 146 * w_fi ws (n_v vs 0) 147)) := f7
  obtain ⟨f8, hf⟩ := fc_un (show (20 : Nat) < 100 from by decide) hf
  have f8 : (v_iv (n_v vs 5) + v_iv (n_v vs 9)) ≤ 1000000 := f8
  obtain ⟨f9, hf⟩ := fc_un (show (20 : Nat) < 100 from by decide) hf
  have f9 : 0 ≤ v_iv (n_v vs 5) := f9
  obtain ⟨f10, hf⟩ := fc_un (show (20 : Nat) < 100 from by decide) hf
  have f10 : v_iv (n_v vs 6) ≠ v_iv (n_v vs 3) := f10
  obtain ⟨f11, hf⟩ := fc_un (show (20 : Nat) < 100 from by decide) hf
  have f11 : BB3 (w_fi ws (n_v vs 0) 146) (w_fi ws (n_v vs 0) 147) (w_ei ws (w_ar ws (n_v vs 0) 143)) (w_ei ws (w_ar ws (n_v vs 0) 140)) (v_iv (n_v vs 6)) (v_iv (n_v vs 7)) (v_iv (n_v vs 9)) (v_iv (n_v vs 10)) (v_iv (n_v vs 11)) (v_iv (n_v vs 12)) := f11
  obtain ⟨f12, hf⟩ := fc_un (show (20 : Nat) < 100 from by decide) hf
  have f12 : (0 ≤ v_iv (n_v vs 9)) ∧ (v_iv (n_v vs 9) ≤ v_iv (n_v vs 13)) := f12
  obtain ⟨f13, hf⟩ := fc_un (show (23 : Nat) < 100 from by decide) hf
  have f13 : (-1) * v_iv (n_v vs 13) + 0 ≤ (-1) := f13
  obtain ⟨ta1, w1, le1, ⟨_, s1⟩, hf⟩ := fc_us (show ¬ (100 : Nat) < 100 from by decide) hf
  have s1 : (∀ b j, w_el ws b j = if b = v_ad (n_v vs 20) ∧ j = (v_iv (n_v vs 5)).toNat then v_iv (n_v vs 23) else w_el w1 b j) ∧ ∀ b k, w_fd ws b k = w_fd w1 b k := s1
  obtain ⟨f15, hf⟩ := fc_un (show (4 : Nat) < 100 from by decide) hf
  have f15 : v_iv (n_v vs 22) = Int.tdiv (v_iv (n_v vs 6)) (v_iv (n_v vs 17)) := f15
  have fq15 : 10 ≤ v_iv (n_v vs 22) → 10 * v_iv (n_v vs 17) ≤ v_iv (n_v vs 6) := dv_ten f15 (by omega) (by omega)
  obtain ⟨f16, hf⟩ := fc_un (show (9 : Nat) < 100 from by decide) hf
  have f16 : n_v vs 17 = w_fd w1 (v_ad (n_v vs 0)) 146 := f16
  obtain ⟨f17, hf⟩ := fc_un (show (9 : Nat) < 100 from by decide) hf
  have f17 : n_v vs 20 = w_fd w1 (v_ad (n_v vs 0)) 149 := f17
  obtain ⟨f18, hf⟩ := fc_un (show (20 : Nat) < 100 from by decide) hf
  have f18 : GRX (w_fi w1 (n_v vs 0) 146) (w_fi w1 (n_v vs 0) 147) := f18
  obtain ⟨f19, hf⟩ := fc_un (show (20 : Nat) < 100 from by decide) hf
  have f19 : RTV (w_fi w1 (n_v vs 0) 146) (w_fi w1 (n_v vs 0) 147) (w_ei w1 (w_ar w1 (n_v vs 0) 143)) (w_ei w1 (w_ar w1 (n_v vs 0) 140)) (v_iv (n_v vs 3)) := f19
  obtain ⟨f20, hf⟩ := fc_un (show (20 : Nat) < 100 from by decide) hf
  have f20 : (0 ≤ v_iv (n_v vs 3)) ∧ ((v_iv (n_v vs 3) + 1) ≤ (w_fi w1 (n_v vs 0) 146 * w_fi w1 (n_v vs 0) 147)) := f20
  obtain ⟨f21, hf⟩ := fc_un (show (20 : Nat) < 100 from by decide) hf
  have f21 : BB2 (w_fi w1 (n_v vs 0) 146) (w_fi w1 (n_v vs 0) 147) (w_ei w1 (w_ar w1 (n_v vs 0) 143)) (w_ei w1 (w_ar w1 (n_v vs 0) 140)) (v_iv (n_v vs 6)) (v_iv (n_v vs 7)) (v_iv (n_v vs 9)) := f21
  obtain ⟨f22, hf⟩ := fc_un (show (20 : Nat) < 100 from by decide) hf
  have f22 : (0 ≤ v_iv (n_v vs 6)) ∧ ((v_iv (n_v vs 6) + 1) ≤ (w_fi w1 (n_v vs 0) 146 * w_fi w1 (n_v vs 0) 147)) := f22
  obtain ⟨f23, hf⟩ := fc_un (show (20 : Nat) < 100 from by decide) hf
  have f23 : (v_iv (n_v vs 5) + v_iv (n_v vs 9)) ≤ 1000000 := f23
  obtain ⟨f24, hf⟩ := fc_un (show (20 : Nat) < 100 from by decide) hf
  have f24 : 0 ≤ v_iv (n_v vs 5) := f24
  obtain ⟨f25, hf⟩ := fc_un (show (20 : Nat) < 100 from by decide) hf
  have f25 : v_iv (n_v vs 6) ≠ v_iv (n_v vs 3) := f25
  obtain ⟨f26, hf⟩ := fc_un (show (20 : Nat) < 100 from by decide) hf
  have f26 : BB3 (w_fi w1 (n_v vs 0) 146) (w_fi w1 (n_v vs 0) 147) (w_ei w1 (w_ar w1 (n_v vs 0) 143)) (w_ei w1 (w_ar w1 (n_v vs 0) 140)) (v_iv (n_v vs 6)) (v_iv (n_v vs 7)) (v_iv (n_v vs 9)) (v_iv (n_v vs 10)) (v_iv (n_v vs 11)) (v_iv (n_v vs 12)) := f26
  obtain ⟨f27, hf⟩ := fc_un (show (20 : Nat) < 100 from by decide) hf
  have f27 : (0 ≤ v_iv (n_v vs 9)) ∧ (v_iv (n_v vs 9) ≤ v_iv (n_v vs 13)) := f27
  obtain ⟨f28, hf⟩ := fc_un (show (23 : Nat) < 100 from by decide) hf
  have f28 : (-1) * v_iv (n_v vs 13) + 0 ≤ (-1) := f28
  obtain ⟨ta2, w2, le2, ⟨_, s2⟩, hf⟩ := fc_us (show ¬ (100 : Nat) < 100 from by decide) hf
  have s2 : (∀ b j, w_el w1 b j = if b = v_ad (n_v vs 15) ∧ j = (v_iv (n_v vs 5)).toNat then v_iv (n_v vs 19) else w_el w2 b j) ∧ ∀ b k, w_fd w1 b k = w_fd w2 b k := s2
  obtain ⟨f30, hf⟩ := fc_un (show (5 : Nat) < 100 from by decide) hf
  have f30 : v_iv (n_v vs 18) = Int.tmod (v_iv (n_v vs 6)) (v_iv (n_v vs 17)) := f30
  obtain ⟨f31, hf⟩ := fc_un (show (9 : Nat) < 100 from by decide) hf
  have f31 : n_v vs 15 = w_fd w2 (v_ad (n_v vs 0)) 148 := f31
  obtain ⟨f32, hf⟩ := fc_un (show (7 : Nat) < 100 from by decide) hf
  have f32 : v_iv (n_v vs 5) < v_iv (n_v vs 14) := f32
  obtain ⟨f33, hf⟩ := fc_un (show (7 : Nat) < 100 from by decide) hf
  have f33 : v_iv (n_v vs 10) ≠ v_iv (n_v vs 7) := f33
  obtain ⟨f34, hf⟩ := fc_un (show (8 : Nat) < 100 from by decide) hf
  have f34 : v_iv (n_v vs 12) < 0 := f34
  obtain ⟨f35, hf⟩ := fc_un (show (20 : Nat) < 100 from by decide) hf
  have f35 : GRX (w_fi w2 (n_v vs 0) 146) (w_fi w2 (n_v vs 0) 147) := f35
  obtain ⟨f36, hf⟩ := fc_un (show (20 : Nat) < 100 from by decide) hf
  have f36 : RTV (w_fi w2 (n_v vs 0) 146) (w_fi w2 (n_v vs 0) 147) (w_ei w2 (w_ar w2 (n_v vs 0) 143)) (w_ei w2 (w_ar w2 (n_v vs 0) 140)) (v_iv (n_v vs 3)) := f36
  obtain ⟨f37, hf⟩ := fc_un (show (20 : Nat) < 100 from by decide) hf
  have f37 : (0 ≤ v_iv (n_v vs 3)) ∧ ((v_iv (n_v vs 3) + 1) ≤ (w_fi w2 (n_v vs 0) 146 * w_fi w2 (n_v vs 0) 147)) := f37
  obtain ⟨f38, hf⟩ := fc_un (show (20 : Nat) < 100 from by decide) hf
  have f38 : BB2 (w_fi w2 (n_v vs 0) 146) (w_fi w2 (n_v vs 0) 147) (w_ei w2 (w_ar w2 (n_v vs 0) 143)) (w_ei w2 (w_ar w2 (n_v vs 0) 140)) (v_iv (n_v vs 6)) (v_iv (n_v vs 7)) (v_iv (n_v vs 9)) := f38
  obtain ⟨f39, hf⟩ := fc_un (show (20 : Nat) < 100 from by decide) hf
  have f39 : (0 ≤ v_iv (n_v vs 6)) ∧ ((v_iv (n_v vs 6) + 1) ≤ (w_fi w2 (n_v vs 0) 146 * w_fi w2 (n_v vs 0) 147)) := f39
  obtain ⟨f40, hf⟩ := fc_un (show (20 : Nat) < 100 from by decide) hf
  have f40 : (v_iv (n_v vs 5) + v_iv (n_v vs 9)) ≤ 1000000 := f40
  obtain ⟨f41, hf⟩ := fc_un (show (20 : Nat) < 100 from by decide) hf
  have f41 : 0 ≤ v_iv (n_v vs 5) := f41
  obtain ⟨f42, hf⟩ := fc_un (show (20 : Nat) < 100 from by decide) hf
  have f42 : v_iv (n_v vs 6) ≠ v_iv (n_v vs 3) := f42
  obtain ⟨f43, hf⟩ := fc_un (show (20 : Nat) < 100 from by decide) hf
  have f43 : BB3 (w_fi w2 (n_v vs 0) 146) (w_fi w2 (n_v vs 0) 147) (w_ei w2 (w_ar w2 (n_v vs 0) 143)) (w_ei w2 (w_ar w2 (n_v vs 0) 140)) (v_iv (n_v vs 6)) (v_iv (n_v vs 7)) (v_iv (n_v vs 9)) (v_iv (n_v vs 10)) (v_iv (n_v vs 11)) (v_iv (n_v vs 12)) := f43
  obtain ⟨f44, hf⟩ := fc_un (show (20 : Nat) < 100 from by decide) hf
  have f44 : (0 ≤ v_iv (n_v vs 9)) ∧ (v_iv (n_v vs 9) ≤ v_iv (n_v vs 13)) := f44
  obtain ⟨f45, hf⟩ := fc_un (show (23 : Nat) < 100 from by decide) hf
  have f45 : (-1) * v_iv (n_v vs 13) + 0 ≤ (-1) := f45
  have ar_0_140_1 : w_ar w1 (n_v vs 0) 140 = w_ar ws (n_v vs 0) 140 := by show v_ad (w_fd w1 _ _) = v_ad (w_fd ws _ _); rw [s1.2]
  have ar_0_140_2 : w_ar w2 (n_v vs 0) 140 = w_ar ws (n_v vs 0) 140 := by rw [← ar_0_140_1]; show v_ad (w_fd w2 _ _) = v_ad (w_fd w1 _ _); rw [s2.2]
  have cr_0_140 : ta (w_ar ws (n_v vs 0) 140) = some 251 := tv_rg (th_fd hD hth r0 (g := GG_150) rfl (k := 140) (t := (2, 0, 0, [251])) rfl rfl)
  have ar_0_143_1 : w_ar w1 (n_v vs 0) 143 = w_ar ws (n_v vs 0) 143 := by show v_ad (w_fd w1 _ _) = v_ad (w_fd ws _ _); rw [s1.2]
  have ar_0_143_2 : w_ar w2 (n_v vs 0) 143 = w_ar ws (n_v vs 0) 143 := by rw [← ar_0_143_1]; show v_ad (w_fd w2 _ _) = v_ad (w_fd w1 _ _); rw [s2.2]
  have cr_0_143 : ta (w_ar ws (n_v vs 0) 143) = some 254 := tv_rg (th_fd hD hth r0 (g := GG_150) rfl (k := 143) (t := (2, 0, 0, [254])) rfl rfl)
  have ar_0_148_1 : w_ar w1 (n_v vs 0) 148 = w_ar ws (n_v vs 0) 148 := by show v_ad (w_fd w1 _ _) = v_ad (w_fd ws _ _); rw [s1.2]
  have ar_0_148_2 : w_ar w2 (n_v vs 0) 148 = w_ar ws (n_v vs 0) 148 := by rw [← ar_0_148_1]; show v_ad (w_fd w2 _ _) = v_ad (w_fd w1 _ _); rw [s2.2]
  have cr_0_148 : ta (w_ar ws (n_v vs 0) 148) = some 255 := tv_rg (th_fd hD hth r0 (g := GG_150) rfl (k := 148) (t := (2, 0, 0, [255])) rfl rfl)
  have ar_0_149_1 : w_ar w1 (n_v vs 0) 149 = w_ar ws (n_v vs 0) 149 := by show v_ad (w_fd w1 _ _) = v_ad (w_fd ws _ _); rw [s1.2]
  have ar_0_149_2 : w_ar w2 (n_v vs 0) 149 = w_ar ws (n_v vs 0) 149 := by rw [← ar_0_149_1]; show v_ad (w_fd w2 _ _) = v_ad (w_fd w1 _ _); rw [s2.2]
  have cr_0_149 : ta (w_ar ws (n_v vs 0) 149) = some 256 := tv_rg (th_fd hD hth r0 (g := GG_150) rfl (k := 149) (t := (2, 0, 0, [256])) rfl rfl)
  have ad_20 : v_ad (n_v vs 20) = w_ar ws (n_v vs 0) 149 := (congrArg v_ad f17).trans ar_0_149_1
  have ad_15 : v_ad (n_v vs 15) = w_ar ws (n_v vs 0) 148 := (congrArg v_ad f31).trans ar_0_148_2
  have g16 : v_iv (n_v vs 17) = w_fi w1 (n_v vs 0) 146 := congrArg v_iv f16
  rw [ar_0_140_1] at f19
  rw [ar_0_143_1] at f19
  rw [ar_0_140_1] at f21
  rw [ar_0_143_1] at f21
  rw [ar_0_140_1] at f26
  rw [ar_0_143_1] at f26
  rw [ar_0_140_2] at f36
  rw [ar_0_143_2] at f36
  rw [ar_0_140_2] at f38
  rw [ar_0_143_2] at f38
  rw [ar_0_140_2] at f43
  rw [ar_0_143_2] at f43
  have fe_0_146_1 : w_fi ws (n_v vs 0) 146 = w_fi w1 (n_v vs 0) 146 := congrArg v_iv (s1.2 _ _)
  have fe_0_147_1 : w_fi ws (n_v vs 0) 147 = w_fi w1 (n_v vs 0) 147 := congrArg v_iv (s1.2 _ _)
  have fe_0_146_2 : w_fi w1 (n_v vs 0) 146 = w_fi w2 (n_v vs 0) 146 := congrArg v_iv (s2.2 _ _)
  have fe_0_147_2 : w_fi w1 (n_v vs 0) 147 = w_fi w2 (n_v vs 0) 147 := congrArg v_iv (s2.2 _ _)
  have hE_0_140_1 : ∀ j : Int, w_ei ws (w_ar ws (n_v vs 0) 140) j = w_ei w1 (w_ar ws (n_v vs 0) 140) j := fun j => by unfold w_ei; rw [s1.1, if_neg (fun e => by have e1 := e.1; rw [← e1] at r20; rw [cr_0_140] at r20; exact absurd (Option.some.inj r20) (by decide))]
  have hE_0_140_2 : ∀ j : Int, w_ei w1 (w_ar ws (n_v vs 0) 140) j = w_ei w2 (w_ar ws (n_v vs 0) 140) j := fun j => by unfold w_ei; rw [s2.1, if_neg (fun e => by have e1 := e.1; rw [← e1] at r15; rw [cr_0_140] at r15; exact absurd (Option.some.inj r15) (by decide))]
  have hK_0_140 : ∀ j : Int, 0 ≤ j → j < 24000 → 0 ≤ w_ei ws (w_ar ws (n_v vs 0) 140) j ∧ w_ei ws (w_ar ws (n_v vs 0) 140) j ≤ 1000000 := fun j h0 h1 => th_el hD hth cr_0_140 (kd := 0) (n := 24000) (m := 24000) (lo := 0) (hi := 1000000) (rs := []) (L := []) rfl (by decide) (j := j.toNat) (by omega)
  have hE_0_143_1 : ∀ j : Int, w_ei ws (w_ar ws (n_v vs 0) 143) j = w_ei w1 (w_ar ws (n_v vs 0) 143) j := fun j => by unfold w_ei; rw [s1.1, if_neg (fun e => by have e1 := e.1; rw [← e1] at r20; rw [cr_0_143] at r20; exact absurd (Option.some.inj r20) (by decide))]
  have hE_0_143_2 : ∀ j : Int, w_ei w1 (w_ar ws (n_v vs 0) 143) j = w_ei w2 (w_ar ws (n_v vs 0) 143) j := fun j => by unfold w_ei; rw [s2.1, if_neg (fun e => by have e1 := e.1; rw [← e1] at r15; rw [cr_0_143] at r15; exact absurd (Option.some.inj r15) (by decide))]
  have hK_0_143 : ∀ j : Int, 0 ≤ j → j < 6000 → 0 ≤ w_ei ws (w_ar ws (n_v vs 0) 143) j ∧ w_ei ws (w_ar ws (n_v vs 0) 143) j ≤ 1 := fun j h0 h1 => th_el hD hth cr_0_143 (kd := 2) (n := 6000) (m := 6000) (lo := 0) (hi := 1) (rs := []) (L := []) rfl (by decide) (j := j.toNat) (by omega)
  have hE_0_148_1 : ∀ j : Int, w_ei ws (w_ar ws (n_v vs 0) 148) j = w_ei w1 (w_ar ws (n_v vs 0) 148) j := fun j => by unfold w_ei; rw [s1.1, if_neg (fun e => by have e1 := e.1; rw [← e1] at r20; rw [cr_0_148] at r20; exact absurd (Option.some.inj r20) (by decide))]
  have hE_0_148_2 : ∀ j : Int, 0 ≤ j → (j = v_iv (n_v vs 5) → w_ei w1 (w_ar ws (n_v vs 0) 148) j = v_iv (n_v vs 19)) ∧ (j ≠ v_iv (n_v vs 5) → w_ei w1 (w_ar ws (n_v vs 0) 148) j = w_ei w2 (w_ar ws (n_v vs 0) 148) j) := fun j hj => ⟨fun h => by unfold w_ei; rw [s2.1, if_pos ⟨ad_15.symm, by rw [h]⟩], fun h => by unfold w_ei; rw [s2.1, if_neg (fun e => h (by have := e.2; omega))]⟩
  have hK_0_148 : ∀ j : Int, 0 ≤ j → j < 26 → (-2147483648) ≤ w_ei ws (w_ar ws (n_v vs 0) 148) j ∧ w_ei ws (w_ar ws (n_v vs 0) 148) j ≤ 2005999 := fun j h0 h1 => th_el hD hth cr_0_148 (kd := 0) (n := 26) (m := 26) (lo := (-2147483648)) (hi := 2005999) (rs := []) (L := []) rfl (by decide) (j := j.toNat) (by omega)
  have hE_0_149_1 : ∀ j : Int, 0 ≤ j → (j = v_iv (n_v vs 5) → w_ei ws (w_ar ws (n_v vs 0) 149) j = v_iv (n_v vs 23)) ∧ (j ≠ v_iv (n_v vs 5) → w_ei ws (w_ar ws (n_v vs 0) 149) j = w_ei w1 (w_ar ws (n_v vs 0) 149) j) := fun j hj => ⟨fun h => by unfold w_ei; rw [s1.1, if_pos ⟨ad_20.symm, by rw [h]⟩], fun h => by unfold w_ei; rw [s1.1, if_neg (fun e => h (by have := e.2; omega))]⟩
  have hE_0_149_2 : ∀ j : Int, w_ei w1 (w_ar ws (n_v vs 0) 149) j = w_ei w2 (w_ar ws (n_v vs 0) 149) j := fun j => by unfold w_ei; rw [s2.1, if_neg (fun e => by have e1 := e.1; rw [← e1] at r15; rw [cr_0_149] at r15; exact absurd (Option.some.inj r15) (by decide))]
  have hK_0_149 : ∀ j : Int, 0 ≤ j → j < 26 → (-2147483648) ≤ w_ei ws (w_ar ws (n_v vs 0) 149) j ∧ w_ei ws (w_ar ws (n_v vs 0) 149) j ≤ 2005999 := fun j h0 h1 => th_el hD hth cr_0_149 (kd := 0) (n := 26) (m := 26) (lo := (-2147483648)) (hi := 2005999) (rs := []) (L := []) rfl (by decide) (j := j.toNat) (by omega)
  have pe_0_146_147_1 : w_fi ws (n_v vs 0) 146 * w_fi ws (n_v vs 0) 147 = w_fi w1 (n_v vs 0) 146 * w_fi w1 (n_v vs 0) 147 := by rw [fe_0_146_1, fe_0_147_1]
  have pe_0_146_147_2 : w_fi w1 (n_v vs 0) 146 * w_fi w1 (n_v vs 0) 147 = w_fi w2 (n_v vs 0) 146 * w_fi w2 (n_v vs 0) 147 := by rw [fe_0_146_2, fe_0_147_2]
  have kz_0_146 : (-2147483648) ≤ w_fi ws (n_v vs 0) 146 ∧ w_fi ws (n_v vs 0) 146 ≤ 2147483647 := tv_rng (th_fd hD hth r0 (g := GG_150) rfl (k := 146) (t := (0, -2147483648, 2147483647, [])) rfl rfl)
  have kz_0_147 : (-2147483648) ≤ w_fi ws (n_v vs 0) 147 ∧ w_fi ws (n_v vs 0) 147 ≤ 2147483647 := tv_rng (th_fd hD hth r0 (g := GG_150) rfl (k := 147) (t := (0, -2147483648, 2147483647, [])) rfl rfl)
  obtain ⟨x, ex, hx⟩ := iv_ex (ta := ta) (lo := (-2)) (hi := 1000000) (z := (-1) + (1 * v_iv (n_v vs 13) + 0)) (by omega) (by omega) (by omega) (by omega)
  have ex2 : v_iv (Value.int x) = (-1) + (1 * v_iv (n_v vs 13) + 0) := ex
  have ex3 : (-2) ≤ v_iv (Value.int x) ∧ v_iv (Value.int x) ≤ 1000000 := tv_rng hx
  have e_0 : n_v (vs ++ [Value.int x]) 0 = n_v vs 0 := n_v_old (by rw [hl]; decide)
  have e_3 : n_v (vs ++ [Value.int x]) 3 = n_v vs 3 := n_v_old (by rw [hl]; decide)
  have e_10 : n_v (vs ++ [Value.int x]) 10 = n_v vs 10 := n_v_old (by rw [hl]; decide)
  have e_11 : n_v (vs ++ [Value.int x]) 11 = n_v vs 11 := n_v_old (by rw [hl]; decide)
  have e_24 : n_v (vs ++ [Value.int x]) 24 = n_v vs 24 := n_v_old (by rw [hl]; decide)
  have e_25 : n_v (vs ++ [Value.int x]) 25 = n_v vs 25 := n_v_old (by rw [hl]; decide)
  have e_26 : n_v (vs ++ [Value.int x]) 26 = Value.int x := n_v_new hl
  have nf0 : fc_1 PRD (20, [0], [60, 2, 0, 418, 146, 147]) ws (vs ++ [Value.int x]) := by
    refine ⟨fun n hn => ?_, ?_⟩
    · have hn : n ∈ [0] := hn
      rw [List.length_append, hl]
      simp only [List.mem_cons, List.not_mem_nil, or_false] at hn
      show n < 26 + 1; omega
    · show GRX (w_fi ws (n_v (vs ++ [Value.int x]) 0) 146) (w_fi ws (n_v (vs ++ [Value.int x]) 0) 147)
      rw [e_0]
      exact vc_Mo_bendsBecome_16_0 (v_iv (n_v vs 3)) (v_iv (n_v vs 5)) (v_iv (n_v vs 6)) (v_iv (n_v vs 7)) (v_iv (n_v vs 9)) (v_iv (n_v vs 10)) (v_iv (n_v vs 11)) (v_iv (n_v vs 12)) (v_iv (n_v vs 13)) (v_iv (n_v vs 14)) (v_iv (n_v vs 17)) (v_iv (n_v vs 18)) (v_iv (n_v vs 22)) (v_iv (n_v vs 24)) (v_iv (n_v vs 25)) (w_ei ws (w_ar ws (n_v vs 0) 143)) (w_fi ws (n_v vs 0) 146) (w_fi ws (n_v vs 0) 147) (w_ei ws (w_ar ws (n_v vs 0) 140)) (w_fi w1 (n_v vs 0) 146) (w_fi w1 (n_v vs 0) 147) (w_ei w1 (w_ar ws (n_v vs 0) 143)) (w_ei w1 (w_ar ws (n_v vs 0) 140)) (w_fi w2 (n_v vs 0) 146) (w_fi w2 (n_v vs 0) 147) (w_ei w2 (w_ar ws (n_v vs 0) 143)) (w_ei w2 (w_ar ws (n_v vs 0) 140)) (w_ei ws (w_ar ws (n_v vs 0) 148)) (w_ei w1 (w_ar ws (n_v vs 0) 148)) (w_ei w2 (w_ar ws (n_v vs 0) 148)) (v_iv (n_v vs 19)) (w_ei ws (w_ar ws (n_v vs 0) 149)) (w_ei w1 (w_ar ws (n_v vs 0) 149)) (v_iv (n_v vs 23)) (w_ei w2 (w_ar ws (n_v vs 0) 149)) (v_iv (Value.int x)) k3 k5 k6 k7 k9 k10 k11 k12 k13 k14 k17 k18 k22 k24 k25 d0 d1 d2 d3 f0 f1 f2 f3 f4 f5 f6 f7 f8 f9 f10 f11 f12 f13 f15 g16 f18 f19 f20 f21 f22 f23 f24 f25 f26 f27 f28 f30 f32 f33 f34 f35 f36 f37 f38 f39 f40 f41 f42 f43 f44 f45 fe_0_146_1 fe_0_147_1 fe_0_146_2 fe_0_147_2 hE_0_140_1 hE_0_140_2 hK_0_140 hE_0_143_1 hE_0_143_2 hK_0_143 hE_0_148_1 hE_0_148_2 hK_0_148 hE_0_149_1 hE_0_149_2 hK_0_149 kz_0_146 kz_0_147 ex2 ex3
  have nf1 : fc_1 PRD (20, [0, 3], [60, 2, 2, 428, 146, 147, 143, 140]) ws (vs ++ [Value.int x]) := by
    refine ⟨fun n hn => ?_, ?_⟩
    · have hn : n ∈ [0, 3] := hn
      rw [List.length_append, hl]
      simp only [List.mem_cons, List.not_mem_nil, or_false] at hn
      show n < 26 + 1; omega
    · show RTV (w_fi ws (n_v (vs ++ [Value.int x]) 0) 146) (w_fi ws (n_v (vs ++ [Value.int x]) 0) 147) (w_ei ws (w_ar ws (n_v (vs ++ [Value.int x]) 0) 143)) (w_ei ws (w_ar ws (n_v (vs ++ [Value.int x]) 0) 140)) (v_iv (n_v (vs ++ [Value.int x]) 3))
      rw [e_0]
      rw [e_3]
      exact vc_Mo_bendsBecome_16_1 (v_iv (n_v vs 3)) (v_iv (n_v vs 5)) (v_iv (n_v vs 6)) (v_iv (n_v vs 7)) (v_iv (n_v vs 9)) (v_iv (n_v vs 10)) (v_iv (n_v vs 11)) (v_iv (n_v vs 12)) (v_iv (n_v vs 13)) (v_iv (n_v vs 14)) (v_iv (n_v vs 17)) (v_iv (n_v vs 18)) (v_iv (n_v vs 22)) (v_iv (n_v vs 24)) (v_iv (n_v vs 25)) (w_ei ws (w_ar ws (n_v vs 0) 143)) (w_fi ws (n_v vs 0) 146) (w_fi ws (n_v vs 0) 147) (w_ei ws (w_ar ws (n_v vs 0) 140)) (w_fi w1 (n_v vs 0) 146) (w_fi w1 (n_v vs 0) 147) (w_ei w1 (w_ar ws (n_v vs 0) 143)) (w_ei w1 (w_ar ws (n_v vs 0) 140)) (w_fi w2 (n_v vs 0) 146) (w_fi w2 (n_v vs 0) 147) (w_ei w2 (w_ar ws (n_v vs 0) 143)) (w_ei w2 (w_ar ws (n_v vs 0) 140)) (w_ei ws (w_ar ws (n_v vs 0) 148)) (w_ei w1 (w_ar ws (n_v vs 0) 148)) (w_ei w2 (w_ar ws (n_v vs 0) 148)) (v_iv (n_v vs 19)) (w_ei ws (w_ar ws (n_v vs 0) 149)) (w_ei w1 (w_ar ws (n_v vs 0) 149)) (v_iv (n_v vs 23)) (w_ei w2 (w_ar ws (n_v vs 0) 149)) (v_iv (Value.int x)) k3 k5 k6 k7 k9 k10 k11 k12 k13 k14 k17 k18 k22 k24 k25 d0 d1 d2 d3 f0 f1 f2 f3 f4 f5 f6 f7 f8 f9 f10 f11 f12 f13 f15 g16 f18 f19 f20 f21 f22 f23 f24 f25 f26 f27 f28 f30 f32 f33 f34 f35 f36 f37 f38 f39 f40 f41 f42 f43 f44 f45 fe_0_146_1 fe_0_147_1 fe_0_146_2 fe_0_147_2 hE_0_140_1 hE_0_140_2 hK_0_140 hE_0_143_1 hE_0_143_2 hK_0_143 hE_0_148_1 hE_0_148_2 hK_0_148 hE_0_149_1 hE_0_149_2 hK_0_149 kz_0_146 kz_0_147 ex2 ex3
  have nf2 : fc_1 PRD (20, [3, 0], [50, 2, 0, 1146, 1147, 2, 6, 0, 2, 0, 0, 1, 0, 0, 6, 4, 2, 1, 0, 0, 1, 6, 3, 2, 1, 146, 2, 1, 147]) ws (vs ++ [Value.int x]) := by
    refine ⟨fun n hn => ?_, ?_⟩
    · have hn : n ∈ [3, 0] := hn
      rw [List.length_append, hl]
      simp only [List.mem_cons, List.not_mem_nil, or_false] at hn
      show n < 26 + 1; omega
    · show (0 ≤ v_iv (n_v (vs ++ [Value.int x]) 3)) ∧ ((v_iv (n_v (vs ++ [Value.int x]) 3) + 1) ≤ (w_fi ws (n_v (vs ++ [Value.int x]) 0) 146 * w_fi ws (n_v (vs ++ [Value.int x]) 0) 147))
      rw [e_0]
      rw [e_3]
      exact vc_Mo_bendsBecome_16_2 (v_iv (n_v vs 3)) (v_iv (n_v vs 5)) (v_iv (n_v vs 6)) (v_iv (n_v vs 7)) (v_iv (n_v vs 9)) (v_iv (n_v vs 10)) (v_iv (n_v vs 11)) (v_iv (n_v vs 12)) (v_iv (n_v vs 13)) (v_iv (n_v vs 14)) (v_iv (n_v vs 17)) (v_iv (n_v vs 18)) (v_iv (n_v vs 22)) (v_iv (n_v vs 24)) (v_iv (n_v vs 25)) (w_ei ws (w_ar ws (n_v vs 0) 143)) (w_fi ws (n_v vs 0) 146) (w_fi ws (n_v vs 0) 147) (w_ei ws (w_ar ws (n_v vs 0) 140)) (w_fi w1 (n_v vs 0) 146) (w_fi w1 (n_v vs 0) 147) (w_ei w1 (w_ar ws (n_v vs 0) 143)) (w_ei w1 (w_ar ws (n_v vs 0) 140)) (w_fi w2 (n_v vs 0) 146) (w_fi w2 (n_v vs 0) 147) (w_ei w2 (w_ar ws (n_v vs 0) 143)) (w_ei w2 (w_ar ws (n_v vs 0) 140)) (w_ei ws (w_ar ws (n_v vs 0) 148)) (w_ei w1 (w_ar ws (n_v vs 0) 148)) (w_ei w2 (w_ar ws (n_v vs 0) 148)) (v_iv (n_v vs 19)) (w_ei ws (w_ar ws (n_v vs 0) 149)) (w_ei w1 (w_ar ws (n_v vs 0) 149)) (v_iv (n_v vs 23)) (w_ei w2 (w_ar ws (n_v vs 0) 149)) (v_iv (Value.int x)) k3 k5 k6 k7 k9 k10 k11 k12 k13 k14 k17 k18 k22 k24 k25 d0 d1 d2 d3 f0 f1 f2 f3 f4 f5 f6 f7 f8 f9 f10 f11 f12 f13 f15 g16 f18 f19 f20 f21 f22 f23 f24 f25 f26 f27 f28 f30 f32 f33 f34 f35 f36 f37 f38 f39 f40 f41 f42 f43 f44 f45 fe_0_146_1 fe_0_147_1 fe_0_146_2 fe_0_147_2 hE_0_140_1 hE_0_140_2 hK_0_140 hE_0_143_1 hE_0_143_2 hK_0_143 hE_0_148_1 hE_0_148_2 hK_0_148 hE_0_149_1 hE_0_149_2 hK_0_149 kz_0_146 kz_0_147 ex2 ex3
  have nf3 : fc_1 PRD (20, [0, 25, 10, 11], [60, 2, 2, 431, 146, 147, 143, 140]) ws (vs ++ [Value.int x]) := by
    refine ⟨fun n hn => ?_, ?_⟩
    · have hn : n ∈ [0, 25, 10, 11] := hn
      rw [List.length_append, hl]
      simp only [List.mem_cons, List.not_mem_nil, or_false] at hn
      show n < 26 + 1; omega
    · show BB2 (w_fi ws (n_v (vs ++ [Value.int x]) 0) 146) (w_fi ws (n_v (vs ++ [Value.int x]) 0) 147) (w_ei ws (w_ar ws (n_v (vs ++ [Value.int x]) 0) 143)) (w_ei ws (w_ar ws (n_v (vs ++ [Value.int x]) 0) 140)) (v_iv (n_v (vs ++ [Value.int x]) 25)) (v_iv (n_v (vs ++ [Value.int x]) 10)) (v_iv (n_v (vs ++ [Value.int x]) 11))
      rw [e_0]
      rw [e_10]
      rw [e_11]
      rw [e_25]
      exact vc_Mo_bendsBecome_16_3 (v_iv (n_v vs 3)) (v_iv (n_v vs 5)) (v_iv (n_v vs 6)) (v_iv (n_v vs 7)) (v_iv (n_v vs 9)) (v_iv (n_v vs 10)) (v_iv (n_v vs 11)) (v_iv (n_v vs 12)) (v_iv (n_v vs 13)) (v_iv (n_v vs 14)) (v_iv (n_v vs 17)) (v_iv (n_v vs 18)) (v_iv (n_v vs 22)) (v_iv (n_v vs 24)) (v_iv (n_v vs 25)) (w_ei ws (w_ar ws (n_v vs 0) 143)) (w_fi ws (n_v vs 0) 146) (w_fi ws (n_v vs 0) 147) (w_ei ws (w_ar ws (n_v vs 0) 140)) (w_fi w1 (n_v vs 0) 146) (w_fi w1 (n_v vs 0) 147) (w_ei w1 (w_ar ws (n_v vs 0) 143)) (w_ei w1 (w_ar ws (n_v vs 0) 140)) (w_fi w2 (n_v vs 0) 146) (w_fi w2 (n_v vs 0) 147) (w_ei w2 (w_ar ws (n_v vs 0) 143)) (w_ei w2 (w_ar ws (n_v vs 0) 140)) (w_ei ws (w_ar ws (n_v vs 0) 148)) (w_ei w1 (w_ar ws (n_v vs 0) 148)) (w_ei w2 (w_ar ws (n_v vs 0) 148)) (v_iv (n_v vs 19)) (w_ei ws (w_ar ws (n_v vs 0) 149)) (w_ei w1 (w_ar ws (n_v vs 0) 149)) (v_iv (n_v vs 23)) (w_ei w2 (w_ar ws (n_v vs 0) 149)) (v_iv (Value.int x)) k3 k5 k6 k7 k9 k10 k11 k12 k13 k14 k17 k18 k22 k24 k25 d0 d1 d2 d3 f0 f1 f2 f3 f4 f5 f6 f7 f8 f9 f10 f11 f12 f13 f15 g16 f18 f19 f20 f21 f22 f23 f24 f25 f26 f27 f28 f30 f32 f33 f34 f35 f36 f37 f38 f39 f40 f41 f42 f43 f44 f45 fe_0_146_1 fe_0_147_1 fe_0_146_2 fe_0_147_2 hE_0_140_1 hE_0_140_2 hK_0_140 hE_0_143_1 hE_0_143_2 hK_0_143 hE_0_148_1 hE_0_148_2 hK_0_148 hE_0_149_1 hE_0_149_2 hK_0_149 kz_0_146 kz_0_147 ex2 ex3
  have nf4 : fc_1 PRD (20, [25, 0], [50, 2, 0, 1146, 1147, 2, 6, 0, 2, 0, 0, 1, 0, 0, 6, 4, 2, 1, 0, 0, 1, 6, 3, 2, 1, 146, 2, 1, 147]) ws (vs ++ [Value.int x]) := by
    refine ⟨fun n hn => ?_, ?_⟩
    · have hn : n ∈ [25, 0] := hn
      rw [List.length_append, hl]
      simp only [List.mem_cons, List.not_mem_nil, or_false] at hn
      show n < 26 + 1; omega
    · show (0 ≤ v_iv (n_v (vs ++ [Value.int x]) 25)) ∧ ((v_iv (n_v (vs ++ [Value.int x]) 25) + 1) ≤ (w_fi ws (n_v (vs ++ [Value.int x]) 0) 146 * w_fi ws (n_v (vs ++ [Value.int x]) 0) 147))
      rw [e_0]
      rw [e_25]
      exact vc_Mo_bendsBecome_16_4 (v_iv (n_v vs 3)) (v_iv (n_v vs 5)) (v_iv (n_v vs 6)) (v_iv (n_v vs 7)) (v_iv (n_v vs 9)) (v_iv (n_v vs 10)) (v_iv (n_v vs 11)) (v_iv (n_v vs 12)) (v_iv (n_v vs 13)) (v_iv (n_v vs 14)) (v_iv (n_v vs 17)) (v_iv (n_v vs 18)) (v_iv (n_v vs 22)) (v_iv (n_v vs 24)) (v_iv (n_v vs 25)) (w_ei ws (w_ar ws (n_v vs 0) 143)) (w_fi ws (n_v vs 0) 146) (w_fi ws (n_v vs 0) 147) (w_ei ws (w_ar ws (n_v vs 0) 140)) (w_fi w1 (n_v vs 0) 146) (w_fi w1 (n_v vs 0) 147) (w_ei w1 (w_ar ws (n_v vs 0) 143)) (w_ei w1 (w_ar ws (n_v vs 0) 140)) (w_fi w2 (n_v vs 0) 146) (w_fi w2 (n_v vs 0) 147) (w_ei w2 (w_ar ws (n_v vs 0) 143)) (w_ei w2 (w_ar ws (n_v vs 0) 140)) (w_ei ws (w_ar ws (n_v vs 0) 148)) (w_ei w1 (w_ar ws (n_v vs 0) 148)) (w_ei w2 (w_ar ws (n_v vs 0) 148)) (v_iv (n_v vs 19)) (w_ei ws (w_ar ws (n_v vs 0) 149)) (w_ei w1 (w_ar ws (n_v vs 0) 149)) (v_iv (n_v vs 23)) (w_ei w2 (w_ar ws (n_v vs 0) 149)) (v_iv (Value.int x)) k3 k5 k6 k7 k9 k10 k11 k12 k13 k14 k17 k18 k22 k24 k25 d0 d1 d2 d3 f0 f1 f2 f3 f4 f5 f6 f7 f8 f9 f10 f11 f12 f13 f15 g16 f18 f19 f20 f21 f22 f23 f24 f25 f26 f27 f28 f30 f32 f33 f34 f35 f36 f37 f38 f39 f40 f41 f42 f43 f44 f45 fe_0_146_1 fe_0_147_1 fe_0_146_2 fe_0_147_2 hE_0_140_1 hE_0_140_2 hK_0_140 hE_0_143_1 hE_0_143_2 hK_0_143 hE_0_148_1 hE_0_148_2 hK_0_148 hE_0_149_1 hE_0_149_2 hK_0_149 kz_0_146 kz_0_147 ex2 ex3
  have nf5 : fc_1 PRD (20, [24, 11], [50, 0, 0, 0, 6, 4, 2, 1, 0, 1, 1, 0, 1000000]) ws (vs ++ [Value.int x]) := by
    refine ⟨fun n hn => ?_, ?_⟩
    · have hn : n ∈ [24, 11] := hn
      rw [List.length_append, hl]
      simp only [List.mem_cons, List.not_mem_nil, or_false] at hn
      show n < 26 + 1; omega
    · show (v_iv (n_v (vs ++ [Value.int x]) 24) + v_iv (n_v (vs ++ [Value.int x]) 11)) ≤ 1000000
      rw [e_11]
      rw [e_24]
      exact vc_Mo_bendsBecome_16_5 (v_iv (n_v vs 3)) (v_iv (n_v vs 5)) (v_iv (n_v vs 6)) (v_iv (n_v vs 7)) (v_iv (n_v vs 9)) (v_iv (n_v vs 10)) (v_iv (n_v vs 11)) (v_iv (n_v vs 12)) (v_iv (n_v vs 13)) (v_iv (n_v vs 14)) (v_iv (n_v vs 17)) (v_iv (n_v vs 18)) (v_iv (n_v vs 22)) (v_iv (n_v vs 24)) (v_iv (n_v vs 25)) (w_ei ws (w_ar ws (n_v vs 0) 143)) (w_fi ws (n_v vs 0) 146) (w_fi ws (n_v vs 0) 147) (w_ei ws (w_ar ws (n_v vs 0) 140)) (w_fi w1 (n_v vs 0) 146) (w_fi w1 (n_v vs 0) 147) (w_ei w1 (w_ar ws (n_v vs 0) 143)) (w_ei w1 (w_ar ws (n_v vs 0) 140)) (w_fi w2 (n_v vs 0) 146) (w_fi w2 (n_v vs 0) 147) (w_ei w2 (w_ar ws (n_v vs 0) 143)) (w_ei w2 (w_ar ws (n_v vs 0) 140)) (w_ei ws (w_ar ws (n_v vs 0) 148)) (w_ei w1 (w_ar ws (n_v vs 0) 148)) (w_ei w2 (w_ar ws (n_v vs 0) 148)) (v_iv (n_v vs 19)) (w_ei ws (w_ar ws (n_v vs 0) 149)) (w_ei w1 (w_ar ws (n_v vs 0) 149)) (v_iv (n_v vs 23)) (w_ei w2 (w_ar ws (n_v vs 0) 149)) (v_iv (Value.int x)) k3 k5 k6 k7 k9 k10 k11 k12 k13 k14 k17 k18 k22 k24 k25 d0 d1 d2 d3 f0 f1 f2 f3 f4 f5 f6 f7 f8 f9 f10 f11 f12 f13 f15 g16 f18 f19 f20 f21 f22 f23 f24 f25 f26 f27 f28 f30 f32 f33 f34 f35 f36 f37 f38 f39 f40 f41 f42 f43 f44 f45 fe_0_146_1 fe_0_147_1 fe_0_146_2 fe_0_147_2 hE_0_140_1 hE_0_140_2 hK_0_140 hE_0_143_1 hE_0_143_2 hK_0_143 hE_0_148_1 hE_0_148_2 hK_0_148 hE_0_149_1 hE_0_149_2 hK_0_149 kz_0_146 kz_0_147 ex2 ex3
  have nf6 : fc_1 PRD (20, [24], [50, 0, 0, 0, 2, 0, 0, 1, 0]) ws (vs ++ [Value.int x]) := by
    refine ⟨fun n hn => ?_, ?_⟩
    · have hn : n ∈ [24] := hn
      rw [List.length_append, hl]
      simp only [List.mem_cons, List.not_mem_nil, or_false] at hn
      show n < 26 + 1; omega
    · show 0 ≤ v_iv (n_v (vs ++ [Value.int x]) 24)
      rw [e_24]
      exact vc_Mo_bendsBecome_16_6 (v_iv (n_v vs 3)) (v_iv (n_v vs 5)) (v_iv (n_v vs 6)) (v_iv (n_v vs 7)) (v_iv (n_v vs 9)) (v_iv (n_v vs 10)) (v_iv (n_v vs 11)) (v_iv (n_v vs 12)) (v_iv (n_v vs 13)) (v_iv (n_v vs 14)) (v_iv (n_v vs 17)) (v_iv (n_v vs 18)) (v_iv (n_v vs 22)) (v_iv (n_v vs 24)) (v_iv (n_v vs 25)) (w_ei ws (w_ar ws (n_v vs 0) 143)) (w_fi ws (n_v vs 0) 146) (w_fi ws (n_v vs 0) 147) (w_ei ws (w_ar ws (n_v vs 0) 140)) (w_fi w1 (n_v vs 0) 146) (w_fi w1 (n_v vs 0) 147) (w_ei w1 (w_ar ws (n_v vs 0) 143)) (w_ei w1 (w_ar ws (n_v vs 0) 140)) (w_fi w2 (n_v vs 0) 146) (w_fi w2 (n_v vs 0) 147) (w_ei w2 (w_ar ws (n_v vs 0) 143)) (w_ei w2 (w_ar ws (n_v vs 0) 140)) (w_ei ws (w_ar ws (n_v vs 0) 148)) (w_ei w1 (w_ar ws (n_v vs 0) 148)) (w_ei w2 (w_ar ws (n_v vs 0) 148)) (v_iv (n_v vs 19)) (w_ei ws (w_ar ws (n_v vs 0) 149)) (w_ei w1 (w_ar ws (n_v vs 0) 149)) (v_iv (n_v vs 23)) (w_ei w2 (w_ar ws (n_v vs 0) 149)) (v_iv (Value.int x)) k3 k5 k6 k7 k9 k10 k11 k12 k13 k14 k17 k18 k22 k24 k25 d0 d1 d2 d3 f0 f1 f2 f3 f4 f5 f6 f7 f8 f9 f10 f11 f12 f13 f15 g16 f18 f19 f20 f21 f22 f23 f24 f25 f26 f27 f28 f30 f32 f33 f34 f35 f36 f37 f38 f39 f40 f41 f42 f43 f44 f45 fe_0_146_1 fe_0_147_1 fe_0_146_2 fe_0_147_2 hE_0_140_1 hE_0_140_2 hK_0_140 hE_0_143_1 hE_0_143_2 hK_0_143 hE_0_148_1 hE_0_148_2 hK_0_148 hE_0_149_1 hE_0_149_2 hK_0_149 kz_0_146 kz_0_147 ex2 ex3
  have nf7 : fc_1 PRD (20, [11, 26], [50, 0, 0, 2, 6, 0, 2, 0, 0, 1, 0, 0, 2, 1, 0, 1, 1]) ws (vs ++ [Value.int x]) := by
    refine ⟨fun n hn => ?_, ?_⟩
    · have hn : n ∈ [11, 26] := hn
      rw [List.length_append, hl]
      simp only [List.mem_cons, List.not_mem_nil, or_false] at hn
      show n < 26 + 1; omega
    · show (0 ≤ v_iv (n_v (vs ++ [Value.int x]) 11)) ∧ (v_iv (n_v (vs ++ [Value.int x]) 11) ≤ v_iv (n_v (vs ++ [Value.int x]) 26))
      rw [e_11]
      rw [e_26]
      exact vc_Mo_bendsBecome_16_7 (v_iv (n_v vs 3)) (v_iv (n_v vs 5)) (v_iv (n_v vs 6)) (v_iv (n_v vs 7)) (v_iv (n_v vs 9)) (v_iv (n_v vs 10)) (v_iv (n_v vs 11)) (v_iv (n_v vs 12)) (v_iv (n_v vs 13)) (v_iv (n_v vs 14)) (v_iv (n_v vs 17)) (v_iv (n_v vs 18)) (v_iv (n_v vs 22)) (v_iv (n_v vs 24)) (v_iv (n_v vs 25)) (w_ei ws (w_ar ws (n_v vs 0) 143)) (w_fi ws (n_v vs 0) 146) (w_fi ws (n_v vs 0) 147) (w_ei ws (w_ar ws (n_v vs 0) 140)) (w_fi w1 (n_v vs 0) 146) (w_fi w1 (n_v vs 0) 147) (w_ei w1 (w_ar ws (n_v vs 0) 143)) (w_ei w1 (w_ar ws (n_v vs 0) 140)) (w_fi w2 (n_v vs 0) 146) (w_fi w2 (n_v vs 0) 147) (w_ei w2 (w_ar ws (n_v vs 0) 143)) (w_ei w2 (w_ar ws (n_v vs 0) 140)) (w_ei ws (w_ar ws (n_v vs 0) 148)) (w_ei w1 (w_ar ws (n_v vs 0) 148)) (w_ei w2 (w_ar ws (n_v vs 0) 148)) (v_iv (n_v vs 19)) (w_ei ws (w_ar ws (n_v vs 0) 149)) (w_ei w1 (w_ar ws (n_v vs 0) 149)) (v_iv (n_v vs 23)) (w_ei w2 (w_ar ws (n_v vs 0) 149)) (v_iv (Value.int x)) k3 k5 k6 k7 k9 k10 k11 k12 k13 k14 k17 k18 k22 k24 k25 d0 d1 d2 d3 f0 f1 f2 f3 f4 f5 f6 f7 f8 f9 f10 f11 f12 f13 f15 g16 f18 f19 f20 f21 f22 f23 f24 f25 f26 f27 f28 f30 f32 f33 f34 f35 f36 f37 f38 f39 f40 f41 f42 f43 f44 f45 fe_0_146_1 fe_0_147_1 fe_0_146_2 fe_0_147_2 hE_0_140_1 hE_0_140_2 hK_0_140 hE_0_143_1 hE_0_143_2 hK_0_143 hE_0_148_1 hE_0_148_2 hK_0_148 hE_0_149_1 hE_0_149_2 hK_0_149 kz_0_146 kz_0_147 ex2 ex3
  obtain ⟨x0, e0, _, _⟩ := tv_int t13 rfl
  have e1 : v_iv (n_v vs 13) = x0.toInt := by rw [e0]; rfl
  have ho : sy_ofs (vs ++ [Value.int x]) (26, 13, -1000000000000, -1) := by
    refine ⟨x, x0, by rw [List.getElem?_append_right (by rw [hl]; decide), hl]; rfl, ?_, ?_, ?_⟩
    · rw [List.getElem?_append_left (by rw [hl]; decide)]; exact n_v_some (by rw [hl]; decide) e0
    · show x0.toInt + (-1000000000000) ≤ x.toInt; omega
    · show x.toInt ≤ x0.toInt + (-1); omega
  exact ⟨(fun _ h => (by cases h)), [Value.int x], ag_one hx, List.forall_mem_cons.mpr ⟨⟨show (20 : Nat) < 100 from by decide, nf0⟩, List.forall_mem_cons.mpr ⟨⟨show (20 : Nat) < 100 from by decide, nf1⟩, List.forall_mem_cons.mpr ⟨⟨show (20 : Nat) < 100 from by decide, nf2⟩, List.forall_mem_cons.mpr ⟨⟨show (20 : Nat) < 100 from by decide, nf3⟩, List.forall_mem_cons.mpr ⟨⟨show (20 : Nat) < 100 from by decide, nf4⟩, List.forall_mem_cons.mpr ⟨⟨show (20 : Nat) < 100 from by decide, nf5⟩, List.forall_mem_cons.mpr ⟨⟨show (20 : Nat) < 100 from by decide, nf6⟩, List.forall_mem_cons.mpr ⟨⟨show (20 : Nat) < 100 from by decide, nf7⟩, (fun _ h => (by cases h))⟩⟩⟩⟩⟩⟩⟩⟩, List.forall_mem_cons.mpr ⟨ho, (fun _ h => (by cases h))⟩⟩
set_option maxHeartbeats 4000000 in
theorem vc_Mo_bendsBecome_17_0 (x3 : Int) (x5 : Int) (x6 : Int) (x7 : Int) (x9 : Int) (x10 : Int) (x11 : Int) (x12 : Int) (x13 : Int) (x14 : Int) (x16 : Int) (barredPoint_0 : Int → Int) (wide_0 : Int) (tall_0 : Int) (costOf_0 : Int → Int) (k3 : 0 ≤ x3 ∧ x3 ≤ 5999) (k5 : 0 ≤ x5 ∧ x5 ≤ 2147483647) (k6 : 0 ≤ x6 ∧ x6 ≤ 5999) (k7 : 0 ≤ x7 ∧ x7 ≤ 3) (k9 : 0 ≤ x9 ∧ x9 ≤ 1000000) (k10 : (-1) ≤ x10 ∧ x10 ≤ 3) (k11 : 0 ≤ x11 ∧ x11 ≤ 999999) (k12 : 0 ≤ x12 ∧ x12 ≤ 3) (k13 : (-2) ≤ x13 ∧ x13 ≤ 1000000) (k14 : (-1) ≤ x14 ∧ x14 ≤ (-1)) (k16 : (-1) ≤ x16 ∧ x16 ≤ 2) (d0 : x12 + (-1) ≤ x16 ∧ x16 ≤ x12 + (-1)) (d1 : x9 + (-4294967296) ≤ x10 ∧ x10 ≤ x9 + 2) (d2 : x9 + (-4294967296) ≤ x11 ∧ x11 ≤ x9 + 0) (f0 : x16 = x12 + (-1)) (f1 : x14 < 0) (f2 : x12 ≠ x7) (f3 : STQ (wide_0) (tall_0) (barredPoint_0) (x6) (x12) (x14)) (f4 : ((-1) ≤ x14) ∧ ((x14 + 1) ≤ (wide_0 * tall_0))) (f5 : 0 ≤ x12) (f6 : GRX (wide_0) (tall_0)) (f7 : RTV (wide_0) (tall_0) (barredPoint_0) (costOf_0) (x3)) (f8 : (0 ≤ x3) ∧ ((x3 + 1) ≤ (wide_0 * tall_0))) (f9 : BB2 (wide_0) (tall_0) (barredPoint_0) (costOf_0) (x6) (x7) (x9)) (f10 : (0 ≤ x6) ∧ ((x6 + 1) ≤ (wide_0 * tall_0))) (f11 : (x5 + x9) ≤ 1000000) (f12 : 0 ≤ x5) (f13 : x6 ≠ x3) (f14 : BB3 (wide_0) (tall_0) (barredPoint_0) (costOf_0) (x6) (x7) (x9) (x10) (x11) (x12)) (f15 : (0 ≤ x9) ∧ (x9 ≤ x13)) (f16 : (-1) * x13 + 0 ≤ (-1)) (hK_0_140 : ∀ j : Int, 0 ≤ j → j < 24000 → 0 ≤ costOf_0 j ∧ costOf_0 j ≤ 1000000) (hK_0_143 : ∀ j : Int, 0 ≤ j → j < 6000 → 0 ≤ barredPoint_0 j ∧ barredPoint_0 j ≤ 1) (kz_0_146 : (-2147483648) ≤ wide_0 ∧ wide_0 ≤ 2147483647) (kz_0_147 : (-2147483648) ≤ tall_0 ∧ tall_0 ≤ 2147483647) : BB3 (wide_0) (tall_0) (barredPoint_0) (costOf_0) (x6) (x7) (x9) (x10) (x11) (x16) := by
  first
    | exact bb3_start (by omega) (by omega)
    | exact bb3_skip (w := x15) (x := x14) (v := x14) ‹BB3 _ _ _ _ _ _ _ _ _ _› (by omega) ‹STQ _ _ _ _ _ _› (by omega) (Or.inl (by omega))
    | exact bb3_skip (w := 1) (x := x14) (v := x14) ‹BB3 _ _ _ _ _ _ _ _ _ _› (by omega) ‹STQ _ _ _ _ _ _› (Or.inl ⟨by omega, rfl⟩) (Or.inl (by omega))
    | exact bb3_skip (w := 3) (x := x14) (v := x14) ‹BB3 _ _ _ _ _ _ _ _ _ _› (by omega) ‹STQ _ _ _ _ _ _› (Or.inr ⟨by omega, rfl⟩) (Or.inl (by omega))
    | exact bb3_skip (w := x15) (x := x19) (v := x20) ‹BB3 _ _ _ _ _ _ _ _ _ _› (by omega) ‹STQ _ _ _ _ _ _› (by omega) (Or.inr ⟨by omega, by assumption, by omega⟩)
    | exact bb3_take (q := x14) (x := x19) (v := x20) (w := x15) ‹STQ _ _ _ _ _ _› (by omega) (by omega) (by omega) (by omega) (by assumption) (by omega) (by omega) (by omega) (by omega)
    | sorry
def o_Mo_bendsBecome_17 : or_T := (127, 17, [(0, (2, 0, 0, [150])), (3, (0, 0, 5999, [])), (5, (0, 0, 2147483647, [])), (6, (0, 0, 5999, [])), (7, (0, 0, 3, [])), (9, (0, 0, 1000000, [])), (10, (0, -1, 3, [])), (11, (0, 0, 999999, [])), (12, (0, 0, 3, [])), (13, (0, -2, 1000000, [])), (14, (0, -1, -1, [])), (16, (0, -1, 2, []))], [(6, [16, 12], [-1]), (8, [14], [2]), (7, [12, 7], [1]), (20, [0, 6, 12, 14], [60, 2, 1, 429, 146, 147, 143]), (20, [14, 0], [50, 2, 0, 1146, 1147, 2, 6, 0, 2, 0, -1, 1, 0, 0, 6, 4, 2, 1, 0, 0, 1, 6, 3, 2, 1, 146, 2, 1, 147]), (8, [12], [3]), (20, [0], [60, 2, 0, 418, 146, 147]), (20, [0, 3], [60, 2, 2, 428, 146, 147, 143, 140]), (20, [3, 0], [50, 2, 0, 1146, 1147, 2, 6, 0, 2, 0, 0, 1, 0, 0, 6, 4, 2, 1, 0, 0, 1, 6, 3, 2, 1, 146, 2, 1, 147]), (20, [0, 6, 7, 9], [60, 2, 2, 431, 146, 147, 143, 140]), (20, [6, 0], [50, 2, 0, 1146, 1147, 2, 6, 0, 2, 0, 0, 1, 0, 0, 6, 4, 2, 1, 0, 0, 1, 6, 3, 2, 1, 146, 2, 1, 147]), (20, [5, 9], [50, 0, 0, 0, 6, 4, 2, 1, 0, 1, 1, 0, 1000000]), (20, [5], [50, 0, 0, 0, 2, 0, 0, 1, 0]), (20, [6, 3], [50, 0, 0, 7, 2, 1, 0, 1, 1]), (20, [0, 6, 7, 9, 10, 11, 12], [60, 2, 2, 432, 146, 147, 143, 140]), (20, [9, 13], [50, 0, 0, 2, 6, 0, 2, 0, 0, 1, 0, 0, 2, 1, 0, 1, 1]), (23, [13], [-1, -1])], [], [], [(20, [0, 6, 7, 9, 10, 11, 16], [60, 2, 2, 432, 146, 147, 143, 140])], [], [(16, 12, -1, -1), (10, 9, -4294967296, 2), (11, 9, -4294967296, 0)])
theorem oo_Mo_bendsBecome_17 {kA : Nat → ClassId} : or_ok PRD kA GG o_Mo_bendsBecome_17 := by
  intro A ta ws vs hD hth hl hk hds hf
  have hl : vs.length = 17 := hl
  have hk : ∀ q ∈ ([(0, (2, 0, 0, [150])), (3, (0, 0, 5999, [])), (5, (0, 0, 2147483647, [])), (6, (0, 0, 5999, [])), (7, (0, 0, 3, [])), (9, (0, 0, 1000000, [])), (10, (0, -1, 3, [])), (11, (0, 0, 999999, [])), (12, (0, 0, 3, [])), (13, (0, -2, 1000000, [])), (14, (0, -1, -1, [])), (16, (0, -1, 2, []))] : List (Nat × tv_T)), tv_ok ta q.2 (n_v vs q.1) := hk
  obtain ⟨t0, hk⟩ := List.forall_mem_cons.mp hk
  have t0 : tv_ok ta (2, 0, 0, [150]) (n_v vs 0) := t0
  have r0 : ta (v_ad (n_v vs 0)) = some 150 := tv_rg t0
  obtain ⟨t3, hk⟩ := List.forall_mem_cons.mp hk
  have t3 : tv_ok ta (0, 0, 5999, []) (n_v vs 3) := t3
  have k3 : 0 ≤ v_iv (n_v vs 3) ∧ v_iv (n_v vs 3) ≤ 5999 := tv_rng t3
  obtain ⟨t5, hk⟩ := List.forall_mem_cons.mp hk
  have t5 : tv_ok ta (0, 0, 2147483647, []) (n_v vs 5) := t5
  have k5 : 0 ≤ v_iv (n_v vs 5) ∧ v_iv (n_v vs 5) ≤ 2147483647 := tv_rng t5
  obtain ⟨t6, hk⟩ := List.forall_mem_cons.mp hk
  have t6 : tv_ok ta (0, 0, 5999, []) (n_v vs 6) := t6
  have k6 : 0 ≤ v_iv (n_v vs 6) ∧ v_iv (n_v vs 6) ≤ 5999 := tv_rng t6
  obtain ⟨t7, hk⟩ := List.forall_mem_cons.mp hk
  have t7 : tv_ok ta (0, 0, 3, []) (n_v vs 7) := t7
  have k7 : 0 ≤ v_iv (n_v vs 7) ∧ v_iv (n_v vs 7) ≤ 3 := tv_rng t7
  obtain ⟨t9, hk⟩ := List.forall_mem_cons.mp hk
  have t9 : tv_ok ta (0, 0, 1000000, []) (n_v vs 9) := t9
  have k9 : 0 ≤ v_iv (n_v vs 9) ∧ v_iv (n_v vs 9) ≤ 1000000 := tv_rng t9
  obtain ⟨t10, hk⟩ := List.forall_mem_cons.mp hk
  have t10 : tv_ok ta (0, -1, 3, []) (n_v vs 10) := t10
  have k10 : (-1) ≤ v_iv (n_v vs 10) ∧ v_iv (n_v vs 10) ≤ 3 := tv_rng t10
  obtain ⟨t11, hk⟩ := List.forall_mem_cons.mp hk
  have t11 : tv_ok ta (0, 0, 999999, []) (n_v vs 11) := t11
  have k11 : 0 ≤ v_iv (n_v vs 11) ∧ v_iv (n_v vs 11) ≤ 999999 := tv_rng t11
  obtain ⟨t12, hk⟩ := List.forall_mem_cons.mp hk
  have t12 : tv_ok ta (0, 0, 3, []) (n_v vs 12) := t12
  have k12 : 0 ≤ v_iv (n_v vs 12) ∧ v_iv (n_v vs 12) ≤ 3 := tv_rng t12
  obtain ⟨t13, hk⟩ := List.forall_mem_cons.mp hk
  have t13 : tv_ok ta (0, -2, 1000000, []) (n_v vs 13) := t13
  have k13 : (-2) ≤ v_iv (n_v vs 13) ∧ v_iv (n_v vs 13) ≤ 1000000 := tv_rng t13
  obtain ⟨t14, hk⟩ := List.forall_mem_cons.mp hk
  have t14 : tv_ok ta (0, -1, -1, []) (n_v vs 14) := t14
  have k14 : (-1) ≤ v_iv (n_v vs 14) ∧ v_iv (n_v vs 14) ≤ (-1) := tv_rng t14
  obtain ⟨t16, hk⟩ := List.forall_mem_cons.mp hk
  have t16 : tv_ok ta (0, -1, 2, []) (n_v vs 16) := t16
  have k16 : (-1) ≤ v_iv (n_v vs 16) ∧ v_iv (n_v vs 16) ≤ 2 := tv_rng t16
  have hds : ∀ q ∈ ([(16, 12, -1, -1), (10, 9, -4294967296, 2), (11, 9, -4294967296, 0)] : List of_T), n_iv vs q.2.1 + q.2.2.1 ≤ n_iv vs q.1 ∧ n_iv vs q.1 ≤ n_iv vs q.2.1 + q.2.2.2 := hds
  obtain ⟨d0, hds⟩ := List.forall_mem_cons.mp hds
  have d0 : v_iv (n_v vs 12) + (-1) ≤ v_iv (n_v vs 16) ∧ v_iv (n_v vs 16) ≤ v_iv (n_v vs 12) + (-1) := d0
  obtain ⟨d1, hds⟩ := List.forall_mem_cons.mp hds
  have d1 : v_iv (n_v vs 9) + (-4294967296) ≤ v_iv (n_v vs 10) ∧ v_iv (n_v vs 10) ≤ v_iv (n_v vs 9) + 2 := d1
  obtain ⟨d2, hds⟩ := List.forall_mem_cons.mp hds
  have d2 : v_iv (n_v vs 9) + (-4294967296) ≤ v_iv (n_v vs 11) ∧ v_iv (n_v vs 11) ≤ v_iv (n_v vs 9) + 0 := d2
  have hf : fc_ok PRD [(6, [16, 12], [-1]), (8, [14], [2]), (7, [12, 7], [1]), (20, [0, 6, 12, 14], [60, 2, 1, 429, 146, 147, 143]), (20, [14, 0], [50, 2, 0, 1146, 1147, 2, 6, 0, 2, 0, -1, 1, 0, 0, 6, 4, 2, 1, 0, 0, 1, 6, 3, 2, 1, 146, 2, 1, 147]), (8, [12], [3]), (20, [0], [60, 2, 0, 418, 146, 147]), (20, [0, 3], [60, 2, 2, 428, 146, 147, 143, 140]), (20, [3, 0], [50, 2, 0, 1146, 1147, 2, 6, 0, 2, 0, 0, 1, 0, 0, 6, 4, 2, 1, 0, 0, 1, 6, 3, 2, 1, 146, 2, 1, 147]), (20, [0, 6, 7, 9], [60, 2, 2, 431, 146, 147, 143, 140]), (20, [6, 0], [50, 2, 0, 1146, 1147, 2, 6, 0, 2, 0, 0, 1, 0, 0, 6, 4, 2, 1, 0, 0, 1, 6, 3, 2, 1, 146, 2, 1, 147]), (20, [5, 9], [50, 0, 0, 0, 6, 4, 2, 1, 0, 1, 1, 0, 1000000]), (20, [5], [50, 0, 0, 0, 2, 0, 0, 1, 0]), (20, [6, 3], [50, 0, 0, 7, 2, 1, 0, 1, 1]), (20, [0, 6, 7, 9, 10, 11, 12], [60, 2, 2, 432, 146, 147, 143, 140]), (20, [9, 13], [50, 0, 0, 2, 6, 0, 2, 0, 0, 1, 0, 0, 2, 1, 0, 1, 1]), (23, [13], [-1, -1])] ta ws vs := hf
  obtain ⟨f0, hf⟩ := fc_un (show (6 : Nat) < 100 from by decide) hf
  have f0 : v_iv (n_v vs 16) = v_iv (n_v vs 12) + (-1) := f0
  obtain ⟨f1, hf⟩ := fc_un (show (8 : Nat) < 100 from by decide) hf
  have f1 : v_iv (n_v vs 14) < 0 := f1
  obtain ⟨f2, hf⟩ := fc_un (show (7 : Nat) < 100 from by decide) hf
  have f2 : v_iv (n_v vs 12) ≠ v_iv (n_v vs 7) := f2
  obtain ⟨f3, hf⟩ := fc_un (show (20 : Nat) < 100 from by decide) hf
  have f3 : STQ (w_fi ws (n_v vs 0) 146) (w_fi ws (n_v vs 0) 147) (w_ei ws (w_ar ws (n_v vs 0) 143)) (v_iv (n_v vs 6)) (v_iv (n_v vs 12)) (v_iv (n_v vs 14)) := f3
  obtain ⟨f4, hf⟩ := fc_un (show (20 : Nat) < 100 from by decide) hf
  have f4 : ((-1) ≤ v_iv (n_v vs 14)) ∧ ((v_iv (n_v vs 14) + 1) ≤ (w_fi ws (n_v vs 0) 146 * w_fi ws (n_v vs 0) 147)) := f4
  obtain ⟨f5, hf⟩ := fc_un (show (8 : Nat) < 100 from by decide) hf
  have f5 : 0 ≤ v_iv (n_v vs 12) := f5
  obtain ⟨f6, hf⟩ := fc_un (show (20 : Nat) < 100 from by decide) hf
  have f6 : GRX (w_fi ws (n_v vs 0) 146) (w_fi ws (n_v vs 0) 147) := f6
  obtain ⟨f7, hf⟩ := fc_un (show (20 : Nat) < 100 from by decide) hf
  have f7 : RTV (w_fi ws (n_v vs 0) 146) (w_fi ws (n_v vs 0) 147) (w_ei ws (w_ar ws (n_v vs 0) 143)) (w_ei ws (w_ar ws (n_v vs 0) 140)) (v_iv (n_v vs 3)) := f7
  obtain ⟨f8, hf⟩ := fc_un (show (20 : Nat) < 100 from by decide) hf
  have f8 : (0 ≤ v_iv (n_v vs 3)) ∧ ((v_iv (n_v vs 3) + 1) ≤ (w_fi ws (n_v vs 0) 146 * w_fi ws (n_v vs 0) 147)) := f8
  obtain ⟨f9, hf⟩ := fc_un (show (20 : Nat) < 100 from by decide) hf
  have f9 : BB2 (w_fi ws (n_v vs 0) 146) (w_fi ws (n_v vs 0) 147) (w_ei ws (w_ar ws (n_v vs 0) 143)) (w_ei ws (w_ar ws (n_v vs 0) 140)) (v_iv (n_v vs 6)) (v_iv (n_v vs 7)) (v_iv (n_v vs 9)) := f9
  obtain ⟨f10, hf⟩ := fc_un (show (20 : Nat) < 100 from by decide) hf
  have f10 : (0 ≤ v_iv (n_v vs 6)) ∧ ((v_iv (n_v vs 6) + 1) ≤ (w_fi ws (n_v vs 0) 146 * w_fi ws (n_v vs 0) 147)) := f10
  obtain ⟨f11, hf⟩ := fc_un (show (20 : Nat) < 100 from by decide) hf
  have f11 : (v_iv (n_v vs 5) + v_iv (n_v vs 9)) ≤ 1000000 := f11
  obtain ⟨f12, hf⟩ := fc_un (show (20 : Nat) < 100 from by decide) hf
  have f12 : 0 ≤ v_iv (n_v vs 5) := f12
  obtain ⟨f13, hf⟩ := fc_un (show (20 : Nat) < 100 from by decide) hf
  have f13 : v_iv (n_v vs 6) ≠ v_iv (n_v vs 3) := f13
  obtain ⟨f14, hf⟩ := fc_un (show (20 : Nat) < 100 from by decide) hf
  have f14 : BB3 (w_fi ws (n_v vs 0) 146) (w_fi ws (n_v vs 0) 147) (w_ei ws (w_ar ws (n_v vs 0) 143)) (w_ei ws (w_ar ws (n_v vs 0) 140)) (v_iv (n_v vs 6)) (v_iv (n_v vs 7)) (v_iv (n_v vs 9)) (v_iv (n_v vs 10)) (v_iv (n_v vs 11)) (v_iv (n_v vs 12)) := f14
  obtain ⟨f15, hf⟩ := fc_un (show (20 : Nat) < 100 from by decide) hf
  have f15 : (0 ≤ v_iv (n_v vs 9)) ∧ (v_iv (n_v vs 9) ≤ v_iv (n_v vs 13)) := f15
  obtain ⟨f16, hf⟩ := fc_un (show (23 : Nat) < 100 from by decide) hf
  have f16 : (-1) * v_iv (n_v vs 13) + 0 ≤ (-1) := f16
  have cr_0_140 : ta (w_ar ws (n_v vs 0) 140) = some 251 := tv_rg (th_fd hD hth r0 (g := GG_150) rfl (k := 140) (t := (2, 0, 0, [251])) rfl rfl)
  have cr_0_143 : ta (w_ar ws (n_v vs 0) 143) = some 254 := tv_rg (th_fd hD hth r0 (g := GG_150) rfl (k := 143) (t := (2, 0, 0, [254])) rfl rfl)
  have hK_0_140 : ∀ j : Int, 0 ≤ j → j < 24000 → 0 ≤ w_ei ws (w_ar ws (n_v vs 0) 140) j ∧ w_ei ws (w_ar ws (n_v vs 0) 140) j ≤ 1000000 := fun j h0 h1 => th_el hD hth cr_0_140 (kd := 0) (n := 24000) (m := 24000) (lo := 0) (hi := 1000000) (rs := []) (L := []) rfl (by decide) (j := j.toNat) (by omega)
  have hK_0_143 : ∀ j : Int, 0 ≤ j → j < 6000 → 0 ≤ w_ei ws (w_ar ws (n_v vs 0) 143) j ∧ w_ei ws (w_ar ws (n_v vs 0) 143) j ≤ 1 := fun j h0 h1 => th_el hD hth cr_0_143 (kd := 2) (n := 6000) (m := 6000) (lo := 0) (hi := 1) (rs := []) (L := []) rfl (by decide) (j := j.toNat) (by omega)
  have kz_0_146 : (-2147483648) ≤ w_fi ws (n_v vs 0) 146 ∧ w_fi ws (n_v vs 0) 146 ≤ 2147483647 := tv_rng (th_fd hD hth r0 (g := GG_150) rfl (k := 146) (t := (0, -2147483648, 2147483647, [])) rfl rfl)
  have kz_0_147 : (-2147483648) ≤ w_fi ws (n_v vs 0) 147 ∧ w_fi ws (n_v vs 0) 147 ≤ 2147483647 := tv_rng (th_fd hD hth r0 (g := GG_150) rfl (k := 147) (t := (0, -2147483648, 2147483647, [])) rfl rfl)
  have nf0 : fc_1 PRD (20, [0, 6, 7, 9, 10, 11, 16], [60, 2, 2, 432, 146, 147, 143, 140]) ws (vs) := by
    refine ⟨fun n hn => ?_, ?_⟩
    · have hn : n ∈ [0, 6, 7, 9, 10, 11, 16] := hn
      rw [hl]
      simp only [List.mem_cons, List.not_mem_nil, or_false] at hn
      show n < 17; omega
    · show BB3 (w_fi ws (n_v vs 0) 146) (w_fi ws (n_v vs 0) 147) (w_ei ws (w_ar ws (n_v vs 0) 143)) (w_ei ws (w_ar ws (n_v vs 0) 140)) (v_iv (n_v vs 6)) (v_iv (n_v vs 7)) (v_iv (n_v vs 9)) (v_iv (n_v vs 10)) (v_iv (n_v vs 11)) (v_iv (n_v vs 16))
      exact vc_Mo_bendsBecome_17_0 (v_iv (n_v vs 3)) (v_iv (n_v vs 5)) (v_iv (n_v vs 6)) (v_iv (n_v vs 7)) (v_iv (n_v vs 9)) (v_iv (n_v vs 10)) (v_iv (n_v vs 11)) (v_iv (n_v vs 12)) (v_iv (n_v vs 13)) (v_iv (n_v vs 14)) (v_iv (n_v vs 16)) (w_ei ws (w_ar ws (n_v vs 0) 143)) (w_fi ws (n_v vs 0) 146) (w_fi ws (n_v vs 0) 147) (w_ei ws (w_ar ws (n_v vs 0) 140)) k3 k5 k6 k7 k9 k10 k11 k12 k13 k14 k16 d0 d1 d2 f0 f1 f2 f3 f4 f5 f6 f7 f8 f9 f10 f11 f12 f13 f14 f15 f16 hK_0_140 hK_0_143 kz_0_146 kz_0_147
  refine ⟨(fun _ h => (by cases h)), [], trivial, ?_, (fun _ h => (by cases h))⟩
  rw [List.append_nil]
  exact List.forall_mem_cons.mpr ⟨⟨show (20 : Nat) < 100 from by decide, nf0⟩, (fun _ h => (by cases h))⟩
set_option maxHeartbeats 4000000 in
theorem vc_Mo_bendsBecome_18_0 (x3 : Int) (x5 : Int) (x6 : Int) (x7 : Int) (x9 : Int) (x10 : Int) (x11 : Int) (x12 : Int) (x13 : Int) (x14 : Int) (x15 : Int) (x17 : Int) (x18 : Int) (x19 : Int) (x20 : Int) (x21 : Int) (x22 : Int) (x23 : Int) (costOf_0 : Int → Int) (barredPoint_0 : Int → Int) (wide_0 : Int) (tall_0 : Int) (k3 : 0 ≤ x3 ∧ x3 ≤ 5999) (k5 : 0 ≤ x5 ∧ x5 ≤ 2147483647) (k6 : 0 ≤ x6 ∧ x6 ≤ 5999) (k7 : 0 ≤ x7 ∧ x7 ≤ 3) (k9 : 3 ≤ x9 ∧ x9 ≤ 1000000) (k10 : (-1) ≤ x10 ∧ x10 ≤ 3) (k11 : 0 ≤ x11 ∧ x11 ≤ 999999) (k12 : 0 ≤ x12 ∧ x12 ≤ 3) (k13 : (-2) ≤ x13 ∧ x13 ≤ 1000000) (k14 : 0 ≤ x14 ∧ x14 ≤ 5999) (k15 : 3 ≤ x15 ∧ x15 ≤ 3) (k17 : 4 ≤ x17 ∧ x17 ≤ 4) (k18 : 0 ≤ x18 ∧ x18 ≤ 23996) (k19 : 0 ≤ x19 ∧ x19 ≤ 23999) (k20 : 0 ≤ x20 ∧ x20 ≤ 999997) (k21 : 0 ≤ x21 ∧ x21 ≤ 999997) (k22 : 0 ≤ x22 ∧ x22 ≤ 999997) (k23 : (-1) ≤ x23 ∧ x23 ≤ 2) (d0 : x12 + (-1) ≤ x23 ∧ x23 ≤ x12 + (-1)) (d1 : x9 + (-3) ≤ x22 ∧ x22 ≤ x9 + (-3)) (d2 : x21 + 0 ≤ x20 ∧ x20 ≤ x21 + 0) (d3 : x9 + (-3) ≤ x21 ∧ x21 ≤ x9 + (-3)) (d4 : x12 + 0 ≤ x19 ∧ x19 ≤ x12 + 23996) (d5 : x18 + 0 ≤ x19 ∧ x19 ≤ x18 + 3) (d6 : x9 + (-4294967296) ≤ x11 ∧ x11 ≤ x9 + 0) (f0 : x23 = x12 + (-1)) (f1 : x22 = x9 - x15) (f2 : x20 = x21) (f3 : x21 = x9 - x15) (h4 : x20 = costOf_0 (x19)) (f5 : x19 = x18 + x12) (f6 : x18 = 4 * x14) (f8 : 0 ≤ x14) (f9 : x12 ≠ x7) (f10 : STQ (wide_0) (tall_0) (barredPoint_0) (x6) (x12) (x14)) (f11 : ((-1) ≤ x14) ∧ ((x14 + 1) ≤ (wide_0 * tall_0))) (f12 : 0 ≤ x12) (f13 : GRX (wide_0) (tall_0)) (f14 : RTV (wide_0) (tall_0) (barredPoint_0) (costOf_0) (x3)) (f15 : (0 ≤ x3) ∧ ((x3 + 1) ≤ (wide_0 * tall_0))) (f16 : BB2 (wide_0) (tall_0) (barredPoint_0) (costOf_0) (x6) (x7) (x9)) (f17 : (0 ≤ x6) ∧ ((x6 + 1) ≤ (wide_0 * tall_0))) (f18 : (x5 + x9) ≤ 1000000) (f19 : 0 ≤ x5) (f20 : x6 ≠ x3) (f21 : BB3 (wide_0) (tall_0) (barredPoint_0) (costOf_0) (x6) (x7) (x9) (x10) (x11) (x12)) (f22 : (0 ≤ x9) ∧ (x9 ≤ x13)) (f23 : (-1) * x13 + 0 ≤ (-1)) (hK_0_140 : ∀ j : Int, 0 ≤ j → j < 24000 → 0 ≤ costOf_0 j ∧ costOf_0 j ≤ 1000000) (hK_0_143 : ∀ j : Int, 0 ≤ j → j < 6000 → 0 ≤ barredPoint_0 j ∧ barredPoint_0 j ≤ 1) (kz_0_146 : (-2147483648) ≤ wide_0 ∧ wide_0 ≤ 2147483647) (kz_0_147 : (-2147483648) ≤ tall_0 ∧ tall_0 ≤ 2147483647) : BB3 (wide_0) (tall_0) (barredPoint_0) (costOf_0) (x6) (x7) (x9) (x12) (x22) (x23) := by
  first
    | exact bb3_start (by omega) (by omega)
    | exact bb3_skip (w := x15) (x := x14) (v := x14) ‹BB3 _ _ _ _ _ _ _ _ _ _› (by omega) ‹STQ _ _ _ _ _ _› (by omega) (Or.inl (by omega))
    | exact bb3_skip (w := 1) (x := x14) (v := x14) ‹BB3 _ _ _ _ _ _ _ _ _ _› (by omega) ‹STQ _ _ _ _ _ _› (Or.inl ⟨by omega, rfl⟩) (Or.inl (by omega))
    | exact bb3_skip (w := 3) (x := x14) (v := x14) ‹BB3 _ _ _ _ _ _ _ _ _ _› (by omega) ‹STQ _ _ _ _ _ _› (Or.inr ⟨by omega, rfl⟩) (Or.inl (by omega))
    | exact bb3_skip (w := x15) (x := x19) (v := x20) ‹BB3 _ _ _ _ _ _ _ _ _ _› (by omega) ‹STQ _ _ _ _ _ _› (by omega) (Or.inr ⟨by omega, by assumption, by omega⟩)
    | exact bb3_take (q := x14) (x := x19) (v := x20) (w := x15) ‹STQ _ _ _ _ _ _› (by omega) (by omega) (by omega) (by omega) (by assumption) (by omega) (by omega) (by omega) (by omega)
    | sorry
def o_Mo_bendsBecome_18 : or_T := (127, 24, [(0, (2, 0, 0, [150])), (3, (0, 0, 5999, [])), (5, (0, 0, 2147483647, [])), (6, (0, 0, 5999, [])), (7, (0, 0, 3, [])), (9, (0, 3, 1000000, [])), (10, (0, -1, 3, [])), (11, (0, 0, 999999, [])), (12, (0, 0, 3, [])), (13, (0, -2, 1000000, [])), (14, (0, 0, 5999, [])), (15, (0, 3, 3, [])), (16, (2, 0, 0, [251])), (17, (0, 4, 4, [])), (18, (0, 0, 23996, [])), (19, (0, 0, 23999, [])), (20, (0, 0, 999997, [])), (21, (0, 0, 999997, [])), (22, (0, 0, 999997, [])), (23, (0, -1, 2, []))], [(6, [23, 12], [-1]), (2, [22, 9, 15], []), (7, [20, 21], [0]), (2, [21, 9, 15], []), (10, [20, 16, 19], []), (1, [19, 18, 12], []), (3, [18, 17, 14], []), (9, [16, 0], [140]), (8, [14], [3]), (7, [12, 7], [1]), (20, [0, 6, 12, 14], [60, 2, 1, 429, 146, 147, 143]), (20, [14, 0], [50, 2, 0, 1146, 1147, 2, 6, 0, 2, 0, -1, 1, 0, 0, 6, 4, 2, 1, 0, 0, 1, 6, 3, 2, 1, 146, 2, 1, 147]), (8, [12], [3]), (20, [0], [60, 2, 0, 418, 146, 147]), (20, [0, 3], [60, 2, 2, 428, 146, 147, 143, 140]), (20, [3, 0], [50, 2, 0, 1146, 1147, 2, 6, 0, 2, 0, 0, 1, 0, 0, 6, 4, 2, 1, 0, 0, 1, 6, 3, 2, 1, 146, 2, 1, 147]), (20, [0, 6, 7, 9], [60, 2, 2, 431, 146, 147, 143, 140]), (20, [6, 0], [50, 2, 0, 1146, 1147, 2, 6, 0, 2, 0, 0, 1, 0, 0, 6, 4, 2, 1, 0, 0, 1, 6, 3, 2, 1, 146, 2, 1, 147]), (20, [5, 9], [50, 0, 0, 0, 6, 4, 2, 1, 0, 1, 1, 0, 1000000]), (20, [5], [50, 0, 0, 0, 2, 0, 0, 1, 0]), (20, [6, 3], [50, 0, 0, 7, 2, 1, 0, 1, 1]), (20, [0, 6, 7, 9, 10, 11, 12], [60, 2, 2, 432, 146, 147, 143, 140]), (20, [9, 13], [50, 0, 0, 2, 6, 0, 2, 0, 0, 1, 0, 0, 2, 1, 0, 1, 1]), (23, [13], [-1, -1])], [], [], [(20, [0, 6, 7, 9, 12, 22, 23], [60, 2, 2, 432, 146, 147, 143, 140])], [], [(23, 12, -1, -1), (22, 9, -3, -3), (20, 21, 0, 0), (21, 9, -3, -3), (19, 12, 0, 23996), (19, 18, 0, 3), (11, 9, -4294967296, 0)])
theorem oo_Mo_bendsBecome_18 {kA : Nat → ClassId} : or_ok PRD kA GG o_Mo_bendsBecome_18 := by
  intro A ta ws vs hD hth hl hk hds hf
  have hl : vs.length = 24 := hl
  have hk : ∀ q ∈ ([(0, (2, 0, 0, [150])), (3, (0, 0, 5999, [])), (5, (0, 0, 2147483647, [])), (6, (0, 0, 5999, [])), (7, (0, 0, 3, [])), (9, (0, 3, 1000000, [])), (10, (0, -1, 3, [])), (11, (0, 0, 999999, [])), (12, (0, 0, 3, [])), (13, (0, -2, 1000000, [])), (14, (0, 0, 5999, [])), (15, (0, 3, 3, [])), (16, (2, 0, 0, [251])), (17, (0, 4, 4, [])), (18, (0, 0, 23996, [])), (19, (0, 0, 23999, [])), (20, (0, 0, 999997, [])), (21, (0, 0, 999997, [])), (22, (0, 0, 999997, [])), (23, (0, -1, 2, []))] : List (Nat × tv_T)), tv_ok ta q.2 (n_v vs q.1) := hk
  obtain ⟨t0, hk⟩ := List.forall_mem_cons.mp hk
  have t0 : tv_ok ta (2, 0, 0, [150]) (n_v vs 0) := t0
  have r0 : ta (v_ad (n_v vs 0)) = some 150 := tv_rg t0
  obtain ⟨t3, hk⟩ := List.forall_mem_cons.mp hk
  have t3 : tv_ok ta (0, 0, 5999, []) (n_v vs 3) := t3
  have k3 : 0 ≤ v_iv (n_v vs 3) ∧ v_iv (n_v vs 3) ≤ 5999 := tv_rng t3
  obtain ⟨t5, hk⟩ := List.forall_mem_cons.mp hk
  have t5 : tv_ok ta (0, 0, 2147483647, []) (n_v vs 5) := t5
  have k5 : 0 ≤ v_iv (n_v vs 5) ∧ v_iv (n_v vs 5) ≤ 2147483647 := tv_rng t5
  obtain ⟨t6, hk⟩ := List.forall_mem_cons.mp hk
  have t6 : tv_ok ta (0, 0, 5999, []) (n_v vs 6) := t6
  have k6 : 0 ≤ v_iv (n_v vs 6) ∧ v_iv (n_v vs 6) ≤ 5999 := tv_rng t6
  obtain ⟨t7, hk⟩ := List.forall_mem_cons.mp hk
  have t7 : tv_ok ta (0, 0, 3, []) (n_v vs 7) := t7
  have k7 : 0 ≤ v_iv (n_v vs 7) ∧ v_iv (n_v vs 7) ≤ 3 := tv_rng t7
  obtain ⟨t9, hk⟩ := List.forall_mem_cons.mp hk
  have t9 : tv_ok ta (0, 3, 1000000, []) (n_v vs 9) := t9
  have k9 : 3 ≤ v_iv (n_v vs 9) ∧ v_iv (n_v vs 9) ≤ 1000000 := tv_rng t9
  obtain ⟨t10, hk⟩ := List.forall_mem_cons.mp hk
  have t10 : tv_ok ta (0, -1, 3, []) (n_v vs 10) := t10
  have k10 : (-1) ≤ v_iv (n_v vs 10) ∧ v_iv (n_v vs 10) ≤ 3 := tv_rng t10
  obtain ⟨t11, hk⟩ := List.forall_mem_cons.mp hk
  have t11 : tv_ok ta (0, 0, 999999, []) (n_v vs 11) := t11
  have k11 : 0 ≤ v_iv (n_v vs 11) ∧ v_iv (n_v vs 11) ≤ 999999 := tv_rng t11
  obtain ⟨t12, hk⟩ := List.forall_mem_cons.mp hk
  have t12 : tv_ok ta (0, 0, 3, []) (n_v vs 12) := t12
  have k12 : 0 ≤ v_iv (n_v vs 12) ∧ v_iv (n_v vs 12) ≤ 3 := tv_rng t12
  obtain ⟨t13, hk⟩ := List.forall_mem_cons.mp hk
  have t13 : tv_ok ta (0, -2, 1000000, []) (n_v vs 13) := t13
  have k13 : (-2) ≤ v_iv (n_v vs 13) ∧ v_iv (n_v vs 13) ≤ 1000000 := tv_rng t13
  obtain ⟨t14, hk⟩ := List.forall_mem_cons.mp hk
  have t14 : tv_ok ta (0, 0, 5999, []) (n_v vs 14) := t14
  have k14 : 0 ≤ v_iv (n_v vs 14) ∧ v_iv (n_v vs 14) ≤ 5999 := tv_rng t14
  obtain ⟨t15, hk⟩ := List.forall_mem_cons.mp hk
  have t15 : tv_ok ta (0, 3, 3, []) (n_v vs 15) := t15
  have k15 : 3 ≤ v_iv (n_v vs 15) ∧ v_iv (n_v vs 15) ≤ 3 := tv_rng t15
  obtain ⟨t16, hk⟩ := List.forall_mem_cons.mp hk
  have t16 : tv_ok ta (2, 0, 0, [251]) (n_v vs 16) := t16
  have r16 : ta (v_ad (n_v vs 16)) = some 251 := tv_rg t16
  obtain ⟨t17, hk⟩ := List.forall_mem_cons.mp hk
  have t17 : tv_ok ta (0, 4, 4, []) (n_v vs 17) := t17
  have k17 : 4 ≤ v_iv (n_v vs 17) ∧ v_iv (n_v vs 17) ≤ 4 := tv_rng t17
  obtain ⟨t18, hk⟩ := List.forall_mem_cons.mp hk
  have t18 : tv_ok ta (0, 0, 23996, []) (n_v vs 18) := t18
  have k18 : 0 ≤ v_iv (n_v vs 18) ∧ v_iv (n_v vs 18) ≤ 23996 := tv_rng t18
  obtain ⟨t19, hk⟩ := List.forall_mem_cons.mp hk
  have t19 : tv_ok ta (0, 0, 23999, []) (n_v vs 19) := t19
  have k19 : 0 ≤ v_iv (n_v vs 19) ∧ v_iv (n_v vs 19) ≤ 23999 := tv_rng t19
  obtain ⟨t20, hk⟩ := List.forall_mem_cons.mp hk
  have t20 : tv_ok ta (0, 0, 999997, []) (n_v vs 20) := t20
  have k20 : 0 ≤ v_iv (n_v vs 20) ∧ v_iv (n_v vs 20) ≤ 999997 := tv_rng t20
  obtain ⟨t21, hk⟩ := List.forall_mem_cons.mp hk
  have t21 : tv_ok ta (0, 0, 999997, []) (n_v vs 21) := t21
  have k21 : 0 ≤ v_iv (n_v vs 21) ∧ v_iv (n_v vs 21) ≤ 999997 := tv_rng t21
  obtain ⟨t22, hk⟩ := List.forall_mem_cons.mp hk
  have t22 : tv_ok ta (0, 0, 999997, []) (n_v vs 22) := t22
  have k22 : 0 ≤ v_iv (n_v vs 22) ∧ v_iv (n_v vs 22) ≤ 999997 := tv_rng t22
  obtain ⟨t23, hk⟩ := List.forall_mem_cons.mp hk
  have t23 : tv_ok ta (0, -1, 2, []) (n_v vs 23) := t23
  have k23 : (-1) ≤ v_iv (n_v vs 23) ∧ v_iv (n_v vs 23) ≤ 2 := tv_rng t23
  have hds : ∀ q ∈ ([(23, 12, -1, -1), (22, 9, -3, -3), (20, 21, 0, 0), (21, 9, -3, -3), (19, 12, 0, 23996), (19, 18, 0, 3), (11, 9, -4294967296, 0)] : List of_T), n_iv vs q.2.1 + q.2.2.1 ≤ n_iv vs q.1 ∧ n_iv vs q.1 ≤ n_iv vs q.2.1 + q.2.2.2 := hds
  obtain ⟨d0, hds⟩ := List.forall_mem_cons.mp hds
  have d0 : v_iv (n_v vs 12) + (-1) ≤ v_iv (n_v vs 23) ∧ v_iv (n_v vs 23) ≤ v_iv (n_v vs 12) + (-1) := d0
  obtain ⟨d1, hds⟩ := List.forall_mem_cons.mp hds
  have d1 : v_iv (n_v vs 9) + (-3) ≤ v_iv (n_v vs 22) ∧ v_iv (n_v vs 22) ≤ v_iv (n_v vs 9) + (-3) := d1
  obtain ⟨d2, hds⟩ := List.forall_mem_cons.mp hds
  have d2 : v_iv (n_v vs 21) + 0 ≤ v_iv (n_v vs 20) ∧ v_iv (n_v vs 20) ≤ v_iv (n_v vs 21) + 0 := d2
  obtain ⟨d3, hds⟩ := List.forall_mem_cons.mp hds
  have d3 : v_iv (n_v vs 9) + (-3) ≤ v_iv (n_v vs 21) ∧ v_iv (n_v vs 21) ≤ v_iv (n_v vs 9) + (-3) := d3
  obtain ⟨d4, hds⟩ := List.forall_mem_cons.mp hds
  have d4 : v_iv (n_v vs 12) + 0 ≤ v_iv (n_v vs 19) ∧ v_iv (n_v vs 19) ≤ v_iv (n_v vs 12) + 23996 := d4
  obtain ⟨d5, hds⟩ := List.forall_mem_cons.mp hds
  have d5 : v_iv (n_v vs 18) + 0 ≤ v_iv (n_v vs 19) ∧ v_iv (n_v vs 19) ≤ v_iv (n_v vs 18) + 3 := d5
  obtain ⟨d6, hds⟩ := List.forall_mem_cons.mp hds
  have d6 : v_iv (n_v vs 9) + (-4294967296) ≤ v_iv (n_v vs 11) ∧ v_iv (n_v vs 11) ≤ v_iv (n_v vs 9) + 0 := d6
  have hf : fc_ok PRD [(6, [23, 12], [-1]), (2, [22, 9, 15], []), (7, [20, 21], [0]), (2, [21, 9, 15], []), (10, [20, 16, 19], []), (1, [19, 18, 12], []), (3, [18, 17, 14], []), (9, [16, 0], [140]), (8, [14], [3]), (7, [12, 7], [1]), (20, [0, 6, 12, 14], [60, 2, 1, 429, 146, 147, 143]), (20, [14, 0], [50, 2, 0, 1146, 1147, 2, 6, 0, 2, 0, -1, 1, 0, 0, 6, 4, 2, 1, 0, 0, 1, 6, 3, 2, 1, 146, 2, 1, 147]), (8, [12], [3]), (20, [0], [60, 2, 0, 418, 146, 147]), (20, [0, 3], [60, 2, 2, 428, 146, 147, 143, 140]), (20, [3, 0], [50, 2, 0, 1146, 1147, 2, 6, 0, 2, 0, 0, 1, 0, 0, 6, 4, 2, 1, 0, 0, 1, 6, 3, 2, 1, 146, 2, 1, 147]), (20, [0, 6, 7, 9], [60, 2, 2, 431, 146, 147, 143, 140]), (20, [6, 0], [50, 2, 0, 1146, 1147, 2, 6, 0, 2, 0, 0, 1, 0, 0, 6, 4, 2, 1, 0, 0, 1, 6, 3, 2, 1, 146, 2, 1, 147]), (20, [5, 9], [50, 0, 0, 0, 6, 4, 2, 1, 0, 1, 1, 0, 1000000]), (20, [5], [50, 0, 0, 0, 2, 0, 0, 1, 0]), (20, [6, 3], [50, 0, 0, 7, 2, 1, 0, 1, 1]), (20, [0, 6, 7, 9, 10, 11, 12], [60, 2, 2, 432, 146, 147, 143, 140]), (20, [9, 13], [50, 0, 0, 2, 6, 0, 2, 0, 0, 1, 0, 0, 2, 1, 0, 1, 1]), (23, [13], [-1, -1])] ta ws vs := hf
  obtain ⟨f0, hf⟩ := fc_un (show (6 : Nat) < 100 from by decide) hf
  have f0 : v_iv (n_v vs 23) = v_iv (n_v vs 12) + (-1) := f0
  obtain ⟨f1, hf⟩ := fc_un (show (2 : Nat) < 100 from by decide) hf
  have f1 : v_iv (n_v vs 22) = v_iv (n_v vs 9) - v_iv (n_v vs 15) := f1
  obtain ⟨f2, hf⟩ := fc_un (show (7 : Nat) < 100 from by decide) hf
  have f2 : v_iv (n_v vs 20) = v_iv (n_v vs 21) := f2
  obtain ⟨f3, hf⟩ := fc_un (show (2 : Nat) < 100 from by decide) hf
  have f3 : v_iv (n_v vs 21) = v_iv (n_v vs 9) - v_iv (n_v vs 15) := f3
  obtain ⟨f4, hf⟩ := fc_un (show (10 : Nat) < 100 from by decide) hf
  have f4 : v_iv (n_v vs 20) = w_el ws (v_ad (n_v vs 16)) (v_iv (n_v vs 19)).toNat := f4
  obtain ⟨f5, hf⟩ := fc_un (show (1 : Nat) < 100 from by decide) hf
  have f5 : v_iv (n_v vs 19) = v_iv (n_v vs 18) + v_iv (n_v vs 12) := f5
  obtain ⟨f6, hf⟩ := fc_un (show (3 : Nat) < 100 from by decide) hf
  have f6 : v_iv (n_v vs 18) = v_iv (n_v vs 17) * v_iv (n_v vs 14) := f6
  rw [show v_iv (n_v vs 17) = 4 from by omega] at f6
  obtain ⟨f7, hf⟩ := fc_un (show (9 : Nat) < 100 from by decide) hf
  have f7 : n_v vs 16 = w_fd ws (v_ad (n_v vs 0)) 140 := f7
  obtain ⟨f8, hf⟩ := fc_un (show (8 : Nat) < 100 from by decide) hf
  have f8 : 0 ≤ v_iv (n_v vs 14) := f8
  obtain ⟨f9, hf⟩ := fc_un (show (7 : Nat) < 100 from by decide) hf
  have f9 : v_iv (n_v vs 12) ≠ v_iv (n_v vs 7) := f9
  obtain ⟨f10, hf⟩ := fc_un (show (20 : Nat) < 100 from by decide) hf
  have f10 : STQ (w_fi ws (n_v vs 0) 146) (w_fi ws (n_v vs 0) 147) (w_ei ws (w_ar ws (n_v vs 0) 143)) (v_iv (n_v vs 6)) (v_iv (n_v vs 12)) (v_iv (n_v vs 14)) := f10
  obtain ⟨f11, hf⟩ := fc_un (show (20 : Nat) < 100 from by decide) hf
  have f11 : ((-1) ≤ v_iv (n_v vs 14)) ∧ ((v_iv (n_v vs 14) + 1) ≤ (w_fi ws (n_v vs 0) 146 * w_fi ws (n_v vs 0) 147)) := f11
  obtain ⟨f12, hf⟩ := fc_un (show (8 : Nat) < 100 from by decide) hf
  have f12 : 0 ≤ v_iv (n_v vs 12) := f12
  obtain ⟨f13, hf⟩ := fc_un (show (20 : Nat) < 100 from by decide) hf
  have f13 : GRX (w_fi ws (n_v vs 0) 146) (w_fi ws (n_v vs 0) 147) := f13
  obtain ⟨f14, hf⟩ := fc_un (show (20 : Nat) < 100 from by decide) hf
  have f14 : RTV (w_fi ws (n_v vs 0) 146) (w_fi ws (n_v vs 0) 147) (w_ei ws (w_ar ws (n_v vs 0) 143)) (w_ei ws (w_ar ws (n_v vs 0) 140)) (v_iv (n_v vs 3)) := f14
  obtain ⟨f15, hf⟩ := fc_un (show (20 : Nat) < 100 from by decide) hf
  have f15 : (0 ≤ v_iv (n_v vs 3)) ∧ ((v_iv (n_v vs 3) + 1) ≤ (w_fi ws (n_v vs 0) 146 * w_fi ws (n_v vs 0) 147)) := f15
  obtain ⟨f16, hf⟩ := fc_un (show (20 : Nat) < 100 from by decide) hf
  have f16 : BB2 (w_fi ws (n_v vs 0) 146) (w_fi ws (n_v vs 0) 147) (w_ei ws (w_ar ws (n_v vs 0) 143)) (w_ei ws (w_ar ws (n_v vs 0) 140)) (v_iv (n_v vs 6)) (v_iv (n_v vs 7)) (v_iv (n_v vs 9)) := f16
  obtain ⟨f17, hf⟩ := fc_un (show (20 : Nat) < 100 from by decide) hf
  have f17 : (0 ≤ v_iv (n_v vs 6)) ∧ ((v_iv (n_v vs 6) + 1) ≤ (w_fi ws (n_v vs 0) 146 * w_fi ws (n_v vs 0) 147)) := f17
  obtain ⟨f18, hf⟩ := fc_un (show (20 : Nat) < 100 from by decide) hf
  have f18 : (v_iv (n_v vs 5) + v_iv (n_v vs 9)) ≤ 1000000 := f18
  obtain ⟨f19, hf⟩ := fc_un (show (20 : Nat) < 100 from by decide) hf
  have f19 : 0 ≤ v_iv (n_v vs 5) := f19
  obtain ⟨f20, hf⟩ := fc_un (show (20 : Nat) < 100 from by decide) hf
  have f20 : v_iv (n_v vs 6) ≠ v_iv (n_v vs 3) := f20
  obtain ⟨f21, hf⟩ := fc_un (show (20 : Nat) < 100 from by decide) hf
  have f21 : BB3 (w_fi ws (n_v vs 0) 146) (w_fi ws (n_v vs 0) 147) (w_ei ws (w_ar ws (n_v vs 0) 143)) (w_ei ws (w_ar ws (n_v vs 0) 140)) (v_iv (n_v vs 6)) (v_iv (n_v vs 7)) (v_iv (n_v vs 9)) (v_iv (n_v vs 10)) (v_iv (n_v vs 11)) (v_iv (n_v vs 12)) := f21
  obtain ⟨f22, hf⟩ := fc_un (show (20 : Nat) < 100 from by decide) hf
  have f22 : (0 ≤ v_iv (n_v vs 9)) ∧ (v_iv (n_v vs 9) ≤ v_iv (n_v vs 13)) := f22
  obtain ⟨f23, hf⟩ := fc_un (show (23 : Nat) < 100 from by decide) hf
  have f23 : (-1) * v_iv (n_v vs 13) + 0 ≤ (-1) := f23
  have cr_0_140 : ta (w_ar ws (n_v vs 0) 140) = some 251 := tv_rg (th_fd hD hth r0 (g := GG_150) rfl (k := 140) (t := (2, 0, 0, [251])) rfl rfl)
  have cr_0_143 : ta (w_ar ws (n_v vs 0) 143) = some 254 := tv_rg (th_fd hD hth r0 (g := GG_150) rfl (k := 143) (t := (2, 0, 0, [254])) rfl rfl)
  have ad_16 : v_ad (n_v vs 16) = w_ar ws (n_v vs 0) 140 := congrArg v_ad f7
  rw [ad_16] at f4
  have h4 : v_iv (n_v vs 20) = w_ei ws (w_ar ws (n_v vs 0) 140) (v_iv (n_v vs 19)) := f4
  have hK_0_140 : ∀ j : Int, 0 ≤ j → j < 24000 → 0 ≤ w_ei ws (w_ar ws (n_v vs 0) 140) j ∧ w_ei ws (w_ar ws (n_v vs 0) 140) j ≤ 1000000 := fun j h0 h1 => th_el hD hth cr_0_140 (kd := 0) (n := 24000) (m := 24000) (lo := 0) (hi := 1000000) (rs := []) (L := []) rfl (by decide) (j := j.toNat) (by omega)
  have hK_0_143 : ∀ j : Int, 0 ≤ j → j < 6000 → 0 ≤ w_ei ws (w_ar ws (n_v vs 0) 143) j ∧ w_ei ws (w_ar ws (n_v vs 0) 143) j ≤ 1 := fun j h0 h1 => th_el hD hth cr_0_143 (kd := 2) (n := 6000) (m := 6000) (lo := 0) (hi := 1) (rs := []) (L := []) rfl (by decide) (j := j.toNat) (by omega)
  have kz_0_146 : (-2147483648) ≤ w_fi ws (n_v vs 0) 146 ∧ w_fi ws (n_v vs 0) 146 ≤ 2147483647 := tv_rng (th_fd hD hth r0 (g := GG_150) rfl (k := 146) (t := (0, -2147483648, 2147483647, [])) rfl rfl)
  have kz_0_147 : (-2147483648) ≤ w_fi ws (n_v vs 0) 147 ∧ w_fi ws (n_v vs 0) 147 ≤ 2147483647 := tv_rng (th_fd hD hth r0 (g := GG_150) rfl (k := 147) (t := (0, -2147483648, 2147483647, [])) rfl rfl)
  have nf0 : fc_1 PRD (20, [0, 6, 7, 9, 12, 22, 23], [60, 2, 2, 432, 146, 147, 143, 140]) ws (vs) := by
    refine ⟨fun n hn => ?_, ?_⟩
    · have hn : n ∈ [0, 6, 7, 9, 12, 22, 23] := hn
      rw [hl]
      simp only [List.mem_cons, List.not_mem_nil, or_false] at hn
      show n < 24; omega
    · show BB3 (w_fi ws (n_v vs 0) 146) (w_fi ws (n_v vs 0) 147) (w_ei ws (w_ar ws (n_v vs 0) 143)) (w_ei ws (w_ar ws (n_v vs 0) 140)) (v_iv (n_v vs 6)) (v_iv (n_v vs 7)) (v_iv (n_v vs 9)) (v_iv (n_v vs 12)) (v_iv (n_v vs 22)) (v_iv (n_v vs 23))
      exact vc_Mo_bendsBecome_18_0 (v_iv (n_v vs 3)) (v_iv (n_v vs 5)) (v_iv (n_v vs 6)) (v_iv (n_v vs 7)) (v_iv (n_v vs 9)) (v_iv (n_v vs 10)) (v_iv (n_v vs 11)) (v_iv (n_v vs 12)) (v_iv (n_v vs 13)) (v_iv (n_v vs 14)) (v_iv (n_v vs 15)) (v_iv (n_v vs 17)) (v_iv (n_v vs 18)) (v_iv (n_v vs 19)) (v_iv (n_v vs 20)) (v_iv (n_v vs 21)) (v_iv (n_v vs 22)) (v_iv (n_v vs 23)) (w_ei ws (w_ar ws (n_v vs 0) 140)) (w_ei ws (w_ar ws (n_v vs 0) 143)) (w_fi ws (n_v vs 0) 146) (w_fi ws (n_v vs 0) 147) k3 k5 k6 k7 k9 k10 k11 k12 k13 k14 k15 k17 k18 k19 k20 k21 k22 k23 d0 d1 d2 d3 d4 d5 d6 f0 f1 f2 f3 h4 f5 f6 f8 f9 f10 f11 f12 f13 f14 f15 f16 f17 f18 f19 f20 f21 f22 f23 hK_0_140 hK_0_143 kz_0_146 kz_0_147
  refine ⟨(fun _ h => (by cases h)), [], trivial, ?_, (fun _ h => (by cases h))⟩
  rw [List.append_nil]
  exact List.forall_mem_cons.mpr ⟨⟨show (20 : Nat) < 100 from by decide, nf0⟩, (fun _ h => (by cases h))⟩
set_option maxHeartbeats 4000000 in
theorem vc_Mo_bendsBecome_19_0 (x3 : Int) (x5 : Int) (x6 : Int) (x7 : Int) (x9 : Int) (x10 : Int) (x11 : Int) (x12 : Int) (x13 : Int) (x14 : Int) (x15 : Int) (x17 : Int) (x18 : Int) (x19 : Int) (x20 : Int) (x21 : Int) (x22 : Int) (costOf_0 : Int → Int) (barredPoint_0 : Int → Int) (wide_0 : Int) (tall_0 : Int) (k3 : 0 ≤ x3 ∧ x3 ≤ 5999) (k5 : 0 ≤ x5 ∧ x5 ≤ 2147483647) (k6 : 0 ≤ x6 ∧ x6 ≤ 5999) (k7 : 0 ≤ x7 ∧ x7 ≤ 3) (k9 : 0 ≤ x9 ∧ x9 ≤ 1000000) (k10 : (-1) ≤ x10 ∧ x10 ≤ 3) (k11 : 0 ≤ x11 ∧ x11 ≤ 999999) (k12 : 0 ≤ x12 ∧ x12 ≤ 3) (k13 : (-2) ≤ x13 ∧ x13 ≤ 1000000) (k14 : 0 ≤ x14 ∧ x14 ≤ 5999) (k15 : 3 ≤ x15 ∧ x15 ≤ 3) (k17 : 4 ≤ x17 ∧ x17 ≤ 4) (k18 : 0 ≤ x18 ∧ x18 ≤ 23996) (k19 : 0 ≤ x19 ∧ x19 ≤ 23999) (k20 : 0 ≤ x20 ∧ x20 ≤ 1000000) (k21 : (-3) ≤ x21 ∧ x21 ≤ 999997) (k22 : (-1) ≤ x22 ∧ x22 ≤ 2) (d0 : x12 + (-1) ≤ x22 ∧ x22 ≤ x12 + (-1)) (d1 : x9 + (-3) ≤ x21 ∧ x21 ≤ x9 + (-3)) (d2 : x12 + 0 ≤ x19 ∧ x19 ≤ x12 + 23996) (d3 : x18 + 0 ≤ x19 ∧ x19 ≤ x18 + 3) (d4 : x9 + (-4294967296) ≤ x10 ∧ x10 ≤ x9 + 2) (d5 : x9 + (-4294967296) ≤ x11 ∧ x11 ≤ x9 + 0) (f0 : x22 = x12 + (-1)) (f1 : x20 ≠ x21) (f2 : x21 = x9 - x15) (h3 : x20 = costOf_0 (x19)) (f4 : x19 = x18 + x12) (f5 : x18 = 4 * x14) (f7 : 0 ≤ x14) (f8 : x12 ≠ x7) (f9 : STQ (wide_0) (tall_0) (barredPoint_0) (x6) (x12) (x14)) (f10 : ((-1) ≤ x14) ∧ ((x14 + 1) ≤ (wide_0 * tall_0))) (f11 : 0 ≤ x12) (f12 : GRX (wide_0) (tall_0)) (f13 : RTV (wide_0) (tall_0) (barredPoint_0) (costOf_0) (x3)) (f14 : (0 ≤ x3) ∧ ((x3 + 1) ≤ (wide_0 * tall_0))) (f15 : BB2 (wide_0) (tall_0) (barredPoint_0) (costOf_0) (x6) (x7) (x9)) (f16 : (0 ≤ x6) ∧ ((x6 + 1) ≤ (wide_0 * tall_0))) (f17 : (x5 + x9) ≤ 1000000) (f18 : 0 ≤ x5) (f19 : x6 ≠ x3) (f20 : BB3 (wide_0) (tall_0) (barredPoint_0) (costOf_0) (x6) (x7) (x9) (x10) (x11) (x12)) (f21 : (0 ≤ x9) ∧ (x9 ≤ x13)) (f22 : (-1) * x13 + 0 ≤ (-1)) (hK_0_140 : ∀ j : Int, 0 ≤ j → j < 24000 → 0 ≤ costOf_0 j ∧ costOf_0 j ≤ 1000000) (hK_0_143 : ∀ j : Int, 0 ≤ j → j < 6000 → 0 ≤ barredPoint_0 j ∧ barredPoint_0 j ≤ 1) (kz_0_146 : (-2147483648) ≤ wide_0 ∧ wide_0 ≤ 2147483647) (kz_0_147 : (-2147483648) ≤ tall_0 ∧ tall_0 ≤ 2147483647) : BB3 (wide_0) (tall_0) (barredPoint_0) (costOf_0) (x6) (x7) (x9) (x10) (x11) (x22) := by
  first
    | exact bb3_start (by omega) (by omega)
    | exact bb3_skip (w := x15) (x := x14) (v := x14) ‹BB3 _ _ _ _ _ _ _ _ _ _› (by omega) ‹STQ _ _ _ _ _ _› (by omega) (Or.inl (by omega))
    | exact bb3_skip (w := 1) (x := x14) (v := x14) ‹BB3 _ _ _ _ _ _ _ _ _ _› (by omega) ‹STQ _ _ _ _ _ _› (Or.inl ⟨by omega, rfl⟩) (Or.inl (by omega))
    | exact bb3_skip (w := 3) (x := x14) (v := x14) ‹BB3 _ _ _ _ _ _ _ _ _ _› (by omega) ‹STQ _ _ _ _ _ _› (Or.inr ⟨by omega, rfl⟩) (Or.inl (by omega))
    | exact bb3_skip (w := x15) (x := x19) (v := x20) ‹BB3 _ _ _ _ _ _ _ _ _ _› (by omega) ‹STQ _ _ _ _ _ _› (by omega) (Or.inr ⟨by omega, by assumption, by omega⟩)
    | exact bb3_take (q := x14) (x := x19) (v := x20) (w := x15) ‹STQ _ _ _ _ _ _› (by omega) (by omega) (by omega) (by omega) (by assumption) (by omega) (by omega) (by omega) (by omega)
    | sorry
def o_Mo_bendsBecome_19 : or_T := (127, 23, [(0, (2, 0, 0, [150])), (3, (0, 0, 5999, [])), (5, (0, 0, 2147483647, [])), (6, (0, 0, 5999, [])), (7, (0, 0, 3, [])), (9, (0, 0, 1000000, [])), (10, (0, -1, 3, [])), (11, (0, 0, 999999, [])), (12, (0, 0, 3, [])), (13, (0, -2, 1000000, [])), (14, (0, 0, 5999, [])), (15, (0, 3, 3, [])), (16, (2, 0, 0, [251])), (17, (0, 4, 4, [])), (18, (0, 0, 23996, [])), (19, (0, 0, 23999, [])), (20, (0, 0, 1000000, [])), (21, (0, -3, 999997, [])), (22, (0, -1, 2, []))], [(6, [22, 12], [-1]), (7, [20, 21], [1]), (2, [21, 9, 15], []), (10, [20, 16, 19], []), (1, [19, 18, 12], []), (3, [18, 17, 14], []), (9, [16, 0], [140]), (8, [14], [3]), (7, [12, 7], [1]), (20, [0, 6, 12, 14], [60, 2, 1, 429, 146, 147, 143]), (20, [14, 0], [50, 2, 0, 1146, 1147, 2, 6, 0, 2, 0, -1, 1, 0, 0, 6, 4, 2, 1, 0, 0, 1, 6, 3, 2, 1, 146, 2, 1, 147]), (8, [12], [3]), (20, [0], [60, 2, 0, 418, 146, 147]), (20, [0, 3], [60, 2, 2, 428, 146, 147, 143, 140]), (20, [3, 0], [50, 2, 0, 1146, 1147, 2, 6, 0, 2, 0, 0, 1, 0, 0, 6, 4, 2, 1, 0, 0, 1, 6, 3, 2, 1, 146, 2, 1, 147]), (20, [0, 6, 7, 9], [60, 2, 2, 431, 146, 147, 143, 140]), (20, [6, 0], [50, 2, 0, 1146, 1147, 2, 6, 0, 2, 0, 0, 1, 0, 0, 6, 4, 2, 1, 0, 0, 1, 6, 3, 2, 1, 146, 2, 1, 147]), (20, [5, 9], [50, 0, 0, 0, 6, 4, 2, 1, 0, 1, 1, 0, 1000000]), (20, [5], [50, 0, 0, 0, 2, 0, 0, 1, 0]), (20, [6, 3], [50, 0, 0, 7, 2, 1, 0, 1, 1]), (20, [0, 6, 7, 9, 10, 11, 12], [60, 2, 2, 432, 146, 147, 143, 140]), (20, [9, 13], [50, 0, 0, 2, 6, 0, 2, 0, 0, 1, 0, 0, 2, 1, 0, 1, 1]), (23, [13], [-1, -1])], [], [], [(20, [0, 6, 7, 9, 10, 11, 22], [60, 2, 2, 432, 146, 147, 143, 140])], [], [(22, 12, -1, -1), (21, 9, -3, -3), (19, 12, 0, 23996), (19, 18, 0, 3), (10, 9, -4294967296, 2), (11, 9, -4294967296, 0)])
theorem oo_Mo_bendsBecome_19 {kA : Nat → ClassId} : or_ok PRD kA GG o_Mo_bendsBecome_19 := by
  intro A ta ws vs hD hth hl hk hds hf
  have hl : vs.length = 23 := hl
  have hk : ∀ q ∈ ([(0, (2, 0, 0, [150])), (3, (0, 0, 5999, [])), (5, (0, 0, 2147483647, [])), (6, (0, 0, 5999, [])), (7, (0, 0, 3, [])), (9, (0, 0, 1000000, [])), (10, (0, -1, 3, [])), (11, (0, 0, 999999, [])), (12, (0, 0, 3, [])), (13, (0, -2, 1000000, [])), (14, (0, 0, 5999, [])), (15, (0, 3, 3, [])), (16, (2, 0, 0, [251])), (17, (0, 4, 4, [])), (18, (0, 0, 23996, [])), (19, (0, 0, 23999, [])), (20, (0, 0, 1000000, [])), (21, (0, -3, 999997, [])), (22, (0, -1, 2, []))] : List (Nat × tv_T)), tv_ok ta q.2 (n_v vs q.1) := hk
  obtain ⟨t0, hk⟩ := List.forall_mem_cons.mp hk
  have t0 : tv_ok ta (2, 0, 0, [150]) (n_v vs 0) := t0
  have r0 : ta (v_ad (n_v vs 0)) = some 150 := tv_rg t0
  obtain ⟨t3, hk⟩ := List.forall_mem_cons.mp hk
  have t3 : tv_ok ta (0, 0, 5999, []) (n_v vs 3) := t3
  have k3 : 0 ≤ v_iv (n_v vs 3) ∧ v_iv (n_v vs 3) ≤ 5999 := tv_rng t3
  obtain ⟨t5, hk⟩ := List.forall_mem_cons.mp hk
  have t5 : tv_ok ta (0, 0, 2147483647, []) (n_v vs 5) := t5
  have k5 : 0 ≤ v_iv (n_v vs 5) ∧ v_iv (n_v vs 5) ≤ 2147483647 := tv_rng t5
  obtain ⟨t6, hk⟩ := List.forall_mem_cons.mp hk
  have t6 : tv_ok ta (0, 0, 5999, []) (n_v vs 6) := t6
  have k6 : 0 ≤ v_iv (n_v vs 6) ∧ v_iv (n_v vs 6) ≤ 5999 := tv_rng t6
  obtain ⟨t7, hk⟩ := List.forall_mem_cons.mp hk
  have t7 : tv_ok ta (0, 0, 3, []) (n_v vs 7) := t7
  have k7 : 0 ≤ v_iv (n_v vs 7) ∧ v_iv (n_v vs 7) ≤ 3 := tv_rng t7
  obtain ⟨t9, hk⟩ := List.forall_mem_cons.mp hk
  have t9 : tv_ok ta (0, 0, 1000000, []) (n_v vs 9) := t9
  have k9 : 0 ≤ v_iv (n_v vs 9) ∧ v_iv (n_v vs 9) ≤ 1000000 := tv_rng t9
  obtain ⟨t10, hk⟩ := List.forall_mem_cons.mp hk
  have t10 : tv_ok ta (0, -1, 3, []) (n_v vs 10) := t10
  have k10 : (-1) ≤ v_iv (n_v vs 10) ∧ v_iv (n_v vs 10) ≤ 3 := tv_rng t10
  obtain ⟨t11, hk⟩ := List.forall_mem_cons.mp hk
  have t11 : tv_ok ta (0, 0, 999999, []) (n_v vs 11) := t11
  have k11 : 0 ≤ v_iv (n_v vs 11) ∧ v_iv (n_v vs 11) ≤ 999999 := tv_rng t11
  obtain ⟨t12, hk⟩ := List.forall_mem_cons.mp hk
  have t12 : tv_ok ta (0, 0, 3, []) (n_v vs 12) := t12
  have k12 : 0 ≤ v_iv (n_v vs 12) ∧ v_iv (n_v vs 12) ≤ 3 := tv_rng t12
  obtain ⟨t13, hk⟩ := List.forall_mem_cons.mp hk
  have t13 : tv_ok ta (0, -2, 1000000, []) (n_v vs 13) := t13
  have k13 : (-2) ≤ v_iv (n_v vs 13) ∧ v_iv (n_v vs 13) ≤ 1000000 := tv_rng t13
  obtain ⟨t14, hk⟩ := List.forall_mem_cons.mp hk
  have t14 : tv_ok ta (0, 0, 5999, []) (n_v vs 14) := t14
  have k14 : 0 ≤ v_iv (n_v vs 14) ∧ v_iv (n_v vs 14) ≤ 5999 := tv_rng t14
  obtain ⟨t15, hk⟩ := List.forall_mem_cons.mp hk
  have t15 : tv_ok ta (0, 3, 3, []) (n_v vs 15) := t15
  have k15 : 3 ≤ v_iv (n_v vs 15) ∧ v_iv (n_v vs 15) ≤ 3 := tv_rng t15
  obtain ⟨t16, hk⟩ := List.forall_mem_cons.mp hk
  have t16 : tv_ok ta (2, 0, 0, [251]) (n_v vs 16) := t16
  have r16 : ta (v_ad (n_v vs 16)) = some 251 := tv_rg t16
  obtain ⟨t17, hk⟩ := List.forall_mem_cons.mp hk
  have t17 : tv_ok ta (0, 4, 4, []) (n_v vs 17) := t17
  have k17 : 4 ≤ v_iv (n_v vs 17) ∧ v_iv (n_v vs 17) ≤ 4 := tv_rng t17
  obtain ⟨t18, hk⟩ := List.forall_mem_cons.mp hk
  have t18 : tv_ok ta (0, 0, 23996, []) (n_v vs 18) := t18
  have k18 : 0 ≤ v_iv (n_v vs 18) ∧ v_iv (n_v vs 18) ≤ 23996 := tv_rng t18
  obtain ⟨t19, hk⟩ := List.forall_mem_cons.mp hk
  have t19 : tv_ok ta (0, 0, 23999, []) (n_v vs 19) := t19
  have k19 : 0 ≤ v_iv (n_v vs 19) ∧ v_iv (n_v vs 19) ≤ 23999 := tv_rng t19
  obtain ⟨t20, hk⟩ := List.forall_mem_cons.mp hk
  have t20 : tv_ok ta (0, 0, 1000000, []) (n_v vs 20) := t20
  have k20 : 0 ≤ v_iv (n_v vs 20) ∧ v_iv (n_v vs 20) ≤ 1000000 := tv_rng t20
  obtain ⟨t21, hk⟩ := List.forall_mem_cons.mp hk
  have t21 : tv_ok ta (0, -3, 999997, []) (n_v vs 21) := t21
  have k21 : (-3) ≤ v_iv (n_v vs 21) ∧ v_iv (n_v vs 21) ≤ 999997 := tv_rng t21
  obtain ⟨t22, hk⟩ := List.forall_mem_cons.mp hk
  have t22 : tv_ok ta (0, -1, 2, []) (n_v vs 22) := t22
  have k22 : (-1) ≤ v_iv (n_v vs 22) ∧ v_iv (n_v vs 22) ≤ 2 := tv_rng t22
  have hds : ∀ q ∈ ([(22, 12, -1, -1), (21, 9, -3, -3), (19, 12, 0, 23996), (19, 18, 0, 3), (10, 9, -4294967296, 2), (11, 9, -4294967296, 0)] : List of_T), n_iv vs q.2.1 + q.2.2.1 ≤ n_iv vs q.1 ∧ n_iv vs q.1 ≤ n_iv vs q.2.1 + q.2.2.2 := hds
  obtain ⟨d0, hds⟩ := List.forall_mem_cons.mp hds
  have d0 : v_iv (n_v vs 12) + (-1) ≤ v_iv (n_v vs 22) ∧ v_iv (n_v vs 22) ≤ v_iv (n_v vs 12) + (-1) := d0
  obtain ⟨d1, hds⟩ := List.forall_mem_cons.mp hds
  have d1 : v_iv (n_v vs 9) + (-3) ≤ v_iv (n_v vs 21) ∧ v_iv (n_v vs 21) ≤ v_iv (n_v vs 9) + (-3) := d1
  obtain ⟨d2, hds⟩ := List.forall_mem_cons.mp hds
  have d2 : v_iv (n_v vs 12) + 0 ≤ v_iv (n_v vs 19) ∧ v_iv (n_v vs 19) ≤ v_iv (n_v vs 12) + 23996 := d2
  obtain ⟨d3, hds⟩ := List.forall_mem_cons.mp hds
  have d3 : v_iv (n_v vs 18) + 0 ≤ v_iv (n_v vs 19) ∧ v_iv (n_v vs 19) ≤ v_iv (n_v vs 18) + 3 := d3
  obtain ⟨d4, hds⟩ := List.forall_mem_cons.mp hds
  have d4 : v_iv (n_v vs 9) + (-4294967296) ≤ v_iv (n_v vs 10) ∧ v_iv (n_v vs 10) ≤ v_iv (n_v vs 9) + 2 := d4
  obtain ⟨d5, hds⟩ := List.forall_mem_cons.mp hds
  have d5 : v_iv (n_v vs 9) + (-4294967296) ≤ v_iv (n_v vs 11) ∧ v_iv (n_v vs 11) ≤ v_iv (n_v vs 9) + 0 := d5
  have hf : fc_ok PRD [(6, [22, 12], [-1]), (7, [20, 21], [1]), (2, [21, 9, 15], []), (10, [20, 16, 19], []), (1, [19, 18, 12], []), (3, [18, 17, 14], []), (9, [16, 0], [140]), (8, [14], [3]), (7, [12, 7], [1]), (20, [0, 6, 12, 14], [60, 2, 1, 429, 146, 147, 143]), (20, [14, 0], [50, 2, 0, 1146, 1147, 2, 6, 0, 2, 0, -1, 1, 0, 0, 6, 4, 2, 1, 0, 0, 1, 6, 3, 2, 1, 146, 2, 1, 147]), (8, [12], [3]), (20, [0], [60, 2, 0, 418, 146, 147]), (20, [0, 3], [60, 2, 2, 428, 146, 147, 143, 140]), (20, [3, 0], [50, 2, 0, 1146, 1147, 2, 6, 0, 2, 0, 0, 1, 0, 0, 6, 4, 2, 1, 0, 0, 1, 6, 3, 2, 1, 146, 2, 1, 147]), (20, [0, 6, 7, 9], [60, 2, 2, 431, 146, 147, 143, 140]), (20, [6, 0], [50, 2, 0, 1146, 1147, 2, 6, 0, 2, 0, 0, 1, 0, 0, 6, 4, 2, 1, 0, 0, 1, 6, 3, 2, 1, 146, 2, 1, 147]), (20, [5, 9], [50, 0, 0, 0, 6, 4, 2, 1, 0, 1, 1, 0, 1000000]), (20, [5], [50, 0, 0, 0, 2, 0, 0, 1, 0]), (20, [6, 3], [50, 0, 0, 7, 2, 1, 0, 1, 1]), (20, [0, 6, 7, 9, 10, 11, 12], [60, 2, 2, 432, 146, 147, 143, 140]), (20, [9, 13], [50, 0, 0, 2, 6, 0, 2, 0, 0, 1, 0, 0, 2, 1, 0, 1, 1]), (23, [13], [-1, -1])] ta ws vs := hf
  obtain ⟨f0, hf⟩ := fc_un (show (6 : Nat) < 100 from by decide) hf
  have f0 : v_iv (n_v vs 22) = v_iv (n_v vs 12) + (-1) := f0
  obtain ⟨f1, hf⟩ := fc_un (show (7 : Nat) < 100 from by decide) hf
  have f1 : v_iv (n_v vs 20) ≠ v_iv (n_v vs 21) := f1
  obtain ⟨f2, hf⟩ := fc_un (show (2 : Nat) < 100 from by decide) hf
  have f2 : v_iv (n_v vs 21) = v_iv (n_v vs 9) - v_iv (n_v vs 15) := f2
  obtain ⟨f3, hf⟩ := fc_un (show (10 : Nat) < 100 from by decide) hf
  have f3 : v_iv (n_v vs 20) = w_el ws (v_ad (n_v vs 16)) (v_iv (n_v vs 19)).toNat := f3
  obtain ⟨f4, hf⟩ := fc_un (show (1 : Nat) < 100 from by decide) hf
  have f4 : v_iv (n_v vs 19) = v_iv (n_v vs 18) + v_iv (n_v vs 12) := f4
  obtain ⟨f5, hf⟩ := fc_un (show (3 : Nat) < 100 from by decide) hf
  have f5 : v_iv (n_v vs 18) = v_iv (n_v vs 17) * v_iv (n_v vs 14) := f5
  rw [show v_iv (n_v vs 17) = 4 from by omega] at f5
  obtain ⟨f6, hf⟩ := fc_un (show (9 : Nat) < 100 from by decide) hf
  have f6 : n_v vs 16 = w_fd ws (v_ad (n_v vs 0)) 140 := f6
  obtain ⟨f7, hf⟩ := fc_un (show (8 : Nat) < 100 from by decide) hf
  have f7 : 0 ≤ v_iv (n_v vs 14) := f7
  obtain ⟨f8, hf⟩ := fc_un (show (7 : Nat) < 100 from by decide) hf
  have f8 : v_iv (n_v vs 12) ≠ v_iv (n_v vs 7) := f8
  obtain ⟨f9, hf⟩ := fc_un (show (20 : Nat) < 100 from by decide) hf
  have f9 : STQ (w_fi ws (n_v vs 0) 146) (w_fi ws (n_v vs 0) 147) (w_ei ws (w_ar ws (n_v vs 0) 143)) (v_iv (n_v vs 6)) (v_iv (n_v vs 12)) (v_iv (n_v vs 14)) := f9
  obtain ⟨f10, hf⟩ := fc_un (show (20 : Nat) < 100 from by decide) hf
  have f10 : ((-1) ≤ v_iv (n_v vs 14)) ∧ ((v_iv (n_v vs 14) + 1) ≤ (w_fi ws (n_v vs 0) 146 * w_fi ws (n_v vs 0) 147)) := f10
  obtain ⟨f11, hf⟩ := fc_un (show (8 : Nat) < 100 from by decide) hf
  have f11 : 0 ≤ v_iv (n_v vs 12) := f11
  obtain ⟨f12, hf⟩ := fc_un (show (20 : Nat) < 100 from by decide) hf
  have f12 : GRX (w_fi ws (n_v vs 0) 146) (w_fi ws (n_v vs 0) 147) := f12
  obtain ⟨f13, hf⟩ := fc_un (show (20 : Nat) < 100 from by decide) hf
  have f13 : RTV (w_fi ws (n_v vs 0) 146) (w_fi ws (n_v vs 0) 147) (w_ei ws (w_ar ws (n_v vs 0) 143)) (w_ei ws (w_ar ws (n_v vs 0) 140)) (v_iv (n_v vs 3)) := f13
  obtain ⟨f14, hf⟩ := fc_un (show (20 : Nat) < 100 from by decide) hf
  have f14 : (0 ≤ v_iv (n_v vs 3)) ∧ ((v_iv (n_v vs 3) + 1) ≤ (w_fi ws (n_v vs 0) 146 * w_fi ws (n_v vs 0) 147)) := f14
  obtain ⟨f15, hf⟩ := fc_un (show (20 : Nat) < 100 from by decide) hf
  have f15 : BB2 (w_fi ws (n_v vs 0) 146) (w_fi ws (n_v vs 0) 147) (w_ei ws (w_ar ws (n_v vs 0) 143)) (w_ei ws (w_ar ws (n_v vs 0) 140)) (v_iv (n_v vs 6)) (v_iv (n_v vs 7)) (v_iv (n_v vs 9)) := f15
  obtain ⟨f16, hf⟩ := fc_un (show (20 : Nat) < 100 from by decide) hf
  have f16 : (0 ≤ v_iv (n_v vs 6)) ∧ ((v_iv (n_v vs 6) + 1) ≤ (w_fi ws (n_v vs 0) 146 * w_fi ws (n_v vs 0) 147)) := f16
  obtain ⟨f17, hf⟩ := fc_un (show (20 : Nat) < 100 from by decide) hf
  have f17 : (v_iv (n_v vs 5) + v_iv (n_v vs 9)) ≤ 1000000 := f17
  obtain ⟨f18, hf⟩ := fc_un (show (20 : Nat) < 100 from by decide) hf
  have f18 : 0 ≤ v_iv (n_v vs 5) := f18
  obtain ⟨f19, hf⟩ := fc_un (show (20 : Nat) < 100 from by decide) hf
  have f19 : v_iv (n_v vs 6) ≠ v_iv (n_v vs 3) := f19
  obtain ⟨f20, hf⟩ := fc_un (show (20 : Nat) < 100 from by decide) hf
  have f20 : BB3 (w_fi ws (n_v vs 0) 146) (w_fi ws (n_v vs 0) 147) (w_ei ws (w_ar ws (n_v vs 0) 143)) (w_ei ws (w_ar ws (n_v vs 0) 140)) (v_iv (n_v vs 6)) (v_iv (n_v vs 7)) (v_iv (n_v vs 9)) (v_iv (n_v vs 10)) (v_iv (n_v vs 11)) (v_iv (n_v vs 12)) := f20
  obtain ⟨f21, hf⟩ := fc_un (show (20 : Nat) < 100 from by decide) hf
  have f21 : (0 ≤ v_iv (n_v vs 9)) ∧ (v_iv (n_v vs 9) ≤ v_iv (n_v vs 13)) := f21
  obtain ⟨f22, hf⟩ := fc_un (show (23 : Nat) < 100 from by decide) hf
  have f22 : (-1) * v_iv (n_v vs 13) + 0 ≤ (-1) := f22
  have cr_0_140 : ta (w_ar ws (n_v vs 0) 140) = some 251 := tv_rg (th_fd hD hth r0 (g := GG_150) rfl (k := 140) (t := (2, 0, 0, [251])) rfl rfl)
  have cr_0_143 : ta (w_ar ws (n_v vs 0) 143) = some 254 := tv_rg (th_fd hD hth r0 (g := GG_150) rfl (k := 143) (t := (2, 0, 0, [254])) rfl rfl)
  have ad_16 : v_ad (n_v vs 16) = w_ar ws (n_v vs 0) 140 := congrArg v_ad f6
  rw [ad_16] at f3
  have h3 : v_iv (n_v vs 20) = w_ei ws (w_ar ws (n_v vs 0) 140) (v_iv (n_v vs 19)) := f3
  have hK_0_140 : ∀ j : Int, 0 ≤ j → j < 24000 → 0 ≤ w_ei ws (w_ar ws (n_v vs 0) 140) j ∧ w_ei ws (w_ar ws (n_v vs 0) 140) j ≤ 1000000 := fun j h0 h1 => th_el hD hth cr_0_140 (kd := 0) (n := 24000) (m := 24000) (lo := 0) (hi := 1000000) (rs := []) (L := []) rfl (by decide) (j := j.toNat) (by omega)
  have hK_0_143 : ∀ j : Int, 0 ≤ j → j < 6000 → 0 ≤ w_ei ws (w_ar ws (n_v vs 0) 143) j ∧ w_ei ws (w_ar ws (n_v vs 0) 143) j ≤ 1 := fun j h0 h1 => th_el hD hth cr_0_143 (kd := 2) (n := 6000) (m := 6000) (lo := 0) (hi := 1) (rs := []) (L := []) rfl (by decide) (j := j.toNat) (by omega)
  have kz_0_146 : (-2147483648) ≤ w_fi ws (n_v vs 0) 146 ∧ w_fi ws (n_v vs 0) 146 ≤ 2147483647 := tv_rng (th_fd hD hth r0 (g := GG_150) rfl (k := 146) (t := (0, -2147483648, 2147483647, [])) rfl rfl)
  have kz_0_147 : (-2147483648) ≤ w_fi ws (n_v vs 0) 147 ∧ w_fi ws (n_v vs 0) 147 ≤ 2147483647 := tv_rng (th_fd hD hth r0 (g := GG_150) rfl (k := 147) (t := (0, -2147483648, 2147483647, [])) rfl rfl)
  have nf0 : fc_1 PRD (20, [0, 6, 7, 9, 10, 11, 22], [60, 2, 2, 432, 146, 147, 143, 140]) ws (vs) := by
    refine ⟨fun n hn => ?_, ?_⟩
    · have hn : n ∈ [0, 6, 7, 9, 10, 11, 22] := hn
      rw [hl]
      simp only [List.mem_cons, List.not_mem_nil, or_false] at hn
      show n < 23; omega
    · show BB3 (w_fi ws (n_v vs 0) 146) (w_fi ws (n_v vs 0) 147) (w_ei ws (w_ar ws (n_v vs 0) 143)) (w_ei ws (w_ar ws (n_v vs 0) 140)) (v_iv (n_v vs 6)) (v_iv (n_v vs 7)) (v_iv (n_v vs 9)) (v_iv (n_v vs 10)) (v_iv (n_v vs 11)) (v_iv (n_v vs 22))
      exact vc_Mo_bendsBecome_19_0 (v_iv (n_v vs 3)) (v_iv (n_v vs 5)) (v_iv (n_v vs 6)) (v_iv (n_v vs 7)) (v_iv (n_v vs 9)) (v_iv (n_v vs 10)) (v_iv (n_v vs 11)) (v_iv (n_v vs 12)) (v_iv (n_v vs 13)) (v_iv (n_v vs 14)) (v_iv (n_v vs 15)) (v_iv (n_v vs 17)) (v_iv (n_v vs 18)) (v_iv (n_v vs 19)) (v_iv (n_v vs 20)) (v_iv (n_v vs 21)) (v_iv (n_v vs 22)) (w_ei ws (w_ar ws (n_v vs 0) 140)) (w_ei ws (w_ar ws (n_v vs 0) 143)) (w_fi ws (n_v vs 0) 146) (w_fi ws (n_v vs 0) 147) k3 k5 k6 k7 k9 k10 k11 k12 k13 k14 k15 k17 k18 k19 k20 k21 k22 d0 d1 d2 d3 d4 d5 f0 f1 f2 h3 f4 f5 f7 f8 f9 f10 f11 f12 f13 f14 f15 f16 f17 f18 f19 f20 f21 f22 hK_0_140 hK_0_143 kz_0_146 kz_0_147
  refine ⟨(fun _ h => (by cases h)), [], trivial, ?_, (fun _ h => (by cases h))⟩
  rw [List.append_nil]
  exact List.forall_mem_cons.mpr ⟨⟨show (20 : Nat) < 100 from by decide, nf0⟩, (fun _ h => (by cases h))⟩
set_option maxHeartbeats 4000000 in
theorem vc_Mo_bendsBecome_20_0 (x3 : Int) (x5 : Int) (x6 : Int) (x7 : Int) (x9 : Int) (x10 : Int) (x11 : Int) (x12 : Int) (x13 : Int) (x14 : Int) (x16 : Int) (barredPoint_0 : Int → Int) (wide_0 : Int) (tall_0 : Int) (costOf_0 : Int → Int) (k3 : 0 ≤ x3 ∧ x3 ≤ 5999) (k5 : 0 ≤ x5 ∧ x5 ≤ 2147483647) (k6 : 0 ≤ x6 ∧ x6 ≤ 5999) (k7 : 0 ≤ x7 ∧ x7 ≤ 3) (k9 : 0 ≤ x9 ∧ x9 ≤ 1000000) (k10 : (-1) ≤ x10 ∧ x10 ≤ 3) (k11 : 0 ≤ x11 ∧ x11 ≤ 999999) (k12 : 0 ≤ x12 ∧ x12 ≤ 3) (k13 : (-2) ≤ x13 ∧ x13 ≤ 1000000) (k14 : (-1) ≤ x14 ∧ x14 ≤ (-1)) (k16 : (-1) ≤ x16 ∧ x16 ≤ 2) (d0 : x12 + (-1) ≤ x16 ∧ x16 ≤ x12 + (-1)) (d1 : x7 + (-1) ≤ x16 ∧ x16 ≤ x7 + (-1)) (d2 : x7 + 0 ≤ x12 ∧ x12 ≤ x7 + 0) (d3 : x9 + (-4294967296) ≤ x10 ∧ x10 ≤ x9 + 2) (d4 : x9 + (-4294967296) ≤ x11 ∧ x11 ≤ x9 + 0) (f0 : x16 = x12 + (-1)) (f1 : x14 < 0) (f2 : x12 = x7) (f3 : STQ (wide_0) (tall_0) (barredPoint_0) (x6) (x12) (x14)) (f4 : ((-1) ≤ x14) ∧ ((x14 + 1) ≤ (wide_0 * tall_0))) (f5 : 0 ≤ x12) (f6 : GRX (wide_0) (tall_0)) (f7 : RTV (wide_0) (tall_0) (barredPoint_0) (costOf_0) (x3)) (f8 : (0 ≤ x3) ∧ ((x3 + 1) ≤ (wide_0 * tall_0))) (f9 : BB2 (wide_0) (tall_0) (barredPoint_0) (costOf_0) (x6) (x7) (x9)) (f10 : (0 ≤ x6) ∧ ((x6 + 1) ≤ (wide_0 * tall_0))) (f11 : (x5 + x9) ≤ 1000000) (f12 : 0 ≤ x5) (f13 : x6 ≠ x3) (f14 : BB3 (wide_0) (tall_0) (barredPoint_0) (costOf_0) (x6) (x7) (x9) (x10) (x11) (x12)) (f15 : (0 ≤ x9) ∧ (x9 ≤ x13)) (f16 : (-1) * x13 + 0 ≤ (-1)) (hK_0_140 : ∀ j : Int, 0 ≤ j → j < 24000 → 0 ≤ costOf_0 j ∧ costOf_0 j ≤ 1000000) (hK_0_143 : ∀ j : Int, 0 ≤ j → j < 6000 → 0 ≤ barredPoint_0 j ∧ barredPoint_0 j ≤ 1) (kz_0_146 : (-2147483648) ≤ wide_0 ∧ wide_0 ≤ 2147483647) (kz_0_147 : (-2147483648) ≤ tall_0 ∧ tall_0 ≤ 2147483647) : BB3 (wide_0) (tall_0) (barredPoint_0) (costOf_0) (x6) (x7) (x9) (x10) (x11) (x16) := by
  first
    | exact bb3_start (by omega) (by omega)
    | exact bb3_skip (w := x15) (x := x14) (v := x14) ‹BB3 _ _ _ _ _ _ _ _ _ _› (by omega) ‹STQ _ _ _ _ _ _› (by omega) (Or.inl (by omega))
    | exact bb3_skip (w := 1) (x := x14) (v := x14) ‹BB3 _ _ _ _ _ _ _ _ _ _› (by omega) ‹STQ _ _ _ _ _ _› (Or.inl ⟨by omega, rfl⟩) (Or.inl (by omega))
    | exact bb3_skip (w := 3) (x := x14) (v := x14) ‹BB3 _ _ _ _ _ _ _ _ _ _› (by omega) ‹STQ _ _ _ _ _ _› (Or.inr ⟨by omega, rfl⟩) (Or.inl (by omega))
    | exact bb3_skip (w := x15) (x := x19) (v := x20) ‹BB3 _ _ _ _ _ _ _ _ _ _› (by omega) ‹STQ _ _ _ _ _ _› (by omega) (Or.inr ⟨by omega, by assumption, by omega⟩)
    | exact bb3_take (q := x14) (x := x19) (v := x20) (w := x15) ‹STQ _ _ _ _ _ _› (by omega) (by omega) (by omega) (by omega) (by assumption) (by omega) (by omega) (by omega) (by omega)
    | sorry
def o_Mo_bendsBecome_20 : or_T := (127, 17, [(0, (2, 0, 0, [150])), (3, (0, 0, 5999, [])), (5, (0, 0, 2147483647, [])), (6, (0, 0, 5999, [])), (7, (0, 0, 3, [])), (9, (0, 0, 1000000, [])), (10, (0, -1, 3, [])), (11, (0, 0, 999999, [])), (12, (0, 0, 3, [])), (13, (0, -2, 1000000, [])), (14, (0, -1, -1, [])), (16, (0, -1, 2, []))], [(6, [16, 12], [-1]), (8, [14], [2]), (7, [12, 7], [0]), (20, [0, 6, 12, 14], [60, 2, 1, 429, 146, 147, 143]), (20, [14, 0], [50, 2, 0, 1146, 1147, 2, 6, 0, 2, 0, -1, 1, 0, 0, 6, 4, 2, 1, 0, 0, 1, 6, 3, 2, 1, 146, 2, 1, 147]), (8, [12], [3]), (20, [0], [60, 2, 0, 418, 146, 147]), (20, [0, 3], [60, 2, 2, 428, 146, 147, 143, 140]), (20, [3, 0], [50, 2, 0, 1146, 1147, 2, 6, 0, 2, 0, 0, 1, 0, 0, 6, 4, 2, 1, 0, 0, 1, 6, 3, 2, 1, 146, 2, 1, 147]), (20, [0, 6, 7, 9], [60, 2, 2, 431, 146, 147, 143, 140]), (20, [6, 0], [50, 2, 0, 1146, 1147, 2, 6, 0, 2, 0, 0, 1, 0, 0, 6, 4, 2, 1, 0, 0, 1, 6, 3, 2, 1, 146, 2, 1, 147]), (20, [5, 9], [50, 0, 0, 0, 6, 4, 2, 1, 0, 1, 1, 0, 1000000]), (20, [5], [50, 0, 0, 0, 2, 0, 0, 1, 0]), (20, [6, 3], [50, 0, 0, 7, 2, 1, 0, 1, 1]), (20, [0, 6, 7, 9, 10, 11, 12], [60, 2, 2, 432, 146, 147, 143, 140]), (20, [9, 13], [50, 0, 0, 2, 6, 0, 2, 0, 0, 1, 0, 0, 2, 1, 0, 1, 1]), (23, [13], [-1, -1])], [], [], [(20, [0, 6, 7, 9, 10, 11, 16], [60, 2, 2, 432, 146, 147, 143, 140])], [], [(16, 12, -1, -1), (16, 7, -1, -1), (12, 7, 0, 0), (10, 9, -4294967296, 2), (11, 9, -4294967296, 0)])
theorem oo_Mo_bendsBecome_20 {kA : Nat → ClassId} : or_ok PRD kA GG o_Mo_bendsBecome_20 := by
  intro A ta ws vs hD hth hl hk hds hf
  have hl : vs.length = 17 := hl
  have hk : ∀ q ∈ ([(0, (2, 0, 0, [150])), (3, (0, 0, 5999, [])), (5, (0, 0, 2147483647, [])), (6, (0, 0, 5999, [])), (7, (0, 0, 3, [])), (9, (0, 0, 1000000, [])), (10, (0, -1, 3, [])), (11, (0, 0, 999999, [])), (12, (0, 0, 3, [])), (13, (0, -2, 1000000, [])), (14, (0, -1, -1, [])), (16, (0, -1, 2, []))] : List (Nat × tv_T)), tv_ok ta q.2 (n_v vs q.1) := hk
  obtain ⟨t0, hk⟩ := List.forall_mem_cons.mp hk
  have t0 : tv_ok ta (2, 0, 0, [150]) (n_v vs 0) := t0
  have r0 : ta (v_ad (n_v vs 0)) = some 150 := tv_rg t0
  obtain ⟨t3, hk⟩ := List.forall_mem_cons.mp hk
  have t3 : tv_ok ta (0, 0, 5999, []) (n_v vs 3) := t3
  have k3 : 0 ≤ v_iv (n_v vs 3) ∧ v_iv (n_v vs 3) ≤ 5999 := tv_rng t3
  obtain ⟨t5, hk⟩ := List.forall_mem_cons.mp hk
  have t5 : tv_ok ta (0, 0, 2147483647, []) (n_v vs 5) := t5
  have k5 : 0 ≤ v_iv (n_v vs 5) ∧ v_iv (n_v vs 5) ≤ 2147483647 := tv_rng t5
  obtain ⟨t6, hk⟩ := List.forall_mem_cons.mp hk
  have t6 : tv_ok ta (0, 0, 5999, []) (n_v vs 6) := t6
  have k6 : 0 ≤ v_iv (n_v vs 6) ∧ v_iv (n_v vs 6) ≤ 5999 := tv_rng t6
  obtain ⟨t7, hk⟩ := List.forall_mem_cons.mp hk
  have t7 : tv_ok ta (0, 0, 3, []) (n_v vs 7) := t7
  have k7 : 0 ≤ v_iv (n_v vs 7) ∧ v_iv (n_v vs 7) ≤ 3 := tv_rng t7
  obtain ⟨t9, hk⟩ := List.forall_mem_cons.mp hk
  have t9 : tv_ok ta (0, 0, 1000000, []) (n_v vs 9) := t9
  have k9 : 0 ≤ v_iv (n_v vs 9) ∧ v_iv (n_v vs 9) ≤ 1000000 := tv_rng t9
  obtain ⟨t10, hk⟩ := List.forall_mem_cons.mp hk
  have t10 : tv_ok ta (0, -1, 3, []) (n_v vs 10) := t10
  have k10 : (-1) ≤ v_iv (n_v vs 10) ∧ v_iv (n_v vs 10) ≤ 3 := tv_rng t10
  obtain ⟨t11, hk⟩ := List.forall_mem_cons.mp hk
  have t11 : tv_ok ta (0, 0, 999999, []) (n_v vs 11) := t11
  have k11 : 0 ≤ v_iv (n_v vs 11) ∧ v_iv (n_v vs 11) ≤ 999999 := tv_rng t11
  obtain ⟨t12, hk⟩ := List.forall_mem_cons.mp hk
  have t12 : tv_ok ta (0, 0, 3, []) (n_v vs 12) := t12
  have k12 : 0 ≤ v_iv (n_v vs 12) ∧ v_iv (n_v vs 12) ≤ 3 := tv_rng t12
  obtain ⟨t13, hk⟩ := List.forall_mem_cons.mp hk
  have t13 : tv_ok ta (0, -2, 1000000, []) (n_v vs 13) := t13
  have k13 : (-2) ≤ v_iv (n_v vs 13) ∧ v_iv (n_v vs 13) ≤ 1000000 := tv_rng t13
  obtain ⟨t14, hk⟩ := List.forall_mem_cons.mp hk
  have t14 : tv_ok ta (0, -1, -1, []) (n_v vs 14) := t14
  have k14 : (-1) ≤ v_iv (n_v vs 14) ∧ v_iv (n_v vs 14) ≤ (-1) := tv_rng t14
  obtain ⟨t16, hk⟩ := List.forall_mem_cons.mp hk
  have t16 : tv_ok ta (0, -1, 2, []) (n_v vs 16) := t16
  have k16 : (-1) ≤ v_iv (n_v vs 16) ∧ v_iv (n_v vs 16) ≤ 2 := tv_rng t16
  have hds : ∀ q ∈ ([(16, 12, -1, -1), (16, 7, -1, -1), (12, 7, 0, 0), (10, 9, -4294967296, 2), (11, 9, -4294967296, 0)] : List of_T), n_iv vs q.2.1 + q.2.2.1 ≤ n_iv vs q.1 ∧ n_iv vs q.1 ≤ n_iv vs q.2.1 + q.2.2.2 := hds
  obtain ⟨d0, hds⟩ := List.forall_mem_cons.mp hds
  have d0 : v_iv (n_v vs 12) + (-1) ≤ v_iv (n_v vs 16) ∧ v_iv (n_v vs 16) ≤ v_iv (n_v vs 12) + (-1) := d0
  obtain ⟨d1, hds⟩ := List.forall_mem_cons.mp hds
  have d1 : v_iv (n_v vs 7) + (-1) ≤ v_iv (n_v vs 16) ∧ v_iv (n_v vs 16) ≤ v_iv (n_v vs 7) + (-1) := d1
  obtain ⟨d2, hds⟩ := List.forall_mem_cons.mp hds
  have d2 : v_iv (n_v vs 7) + 0 ≤ v_iv (n_v vs 12) ∧ v_iv (n_v vs 12) ≤ v_iv (n_v vs 7) + 0 := d2
  obtain ⟨d3, hds⟩ := List.forall_mem_cons.mp hds
  have d3 : v_iv (n_v vs 9) + (-4294967296) ≤ v_iv (n_v vs 10) ∧ v_iv (n_v vs 10) ≤ v_iv (n_v vs 9) + 2 := d3
  obtain ⟨d4, hds⟩ := List.forall_mem_cons.mp hds
  have d4 : v_iv (n_v vs 9) + (-4294967296) ≤ v_iv (n_v vs 11) ∧ v_iv (n_v vs 11) ≤ v_iv (n_v vs 9) + 0 := d4
  have hf : fc_ok PRD [(6, [16, 12], [-1]), (8, [14], [2]), (7, [12, 7], [0]), (20, [0, 6, 12, 14], [60, 2, 1, 429, 146, 147, 143]), (20, [14, 0], [50, 2, 0, 1146, 1147, 2, 6, 0, 2, 0, -1, 1, 0, 0, 6, 4, 2, 1, 0, 0, 1, 6, 3, 2, 1, 146, 2, 1, 147]), (8, [12], [3]), (20, [0], [60, 2, 0, 418, 146, 147]), (20, [0, 3], [60, 2, 2, 428, 146, 147, 143, 140]), (20, [3, 0], [50, 2, 0, 1146, 1147, 2, 6, 0, 2, 0, 0, 1, 0, 0, 6, 4, 2, 1, 0, 0, 1, 6, 3, 2, 1, 146, 2, 1, 147]), (20, [0, 6, 7, 9], [60, 2, 2, 431, 146, 147, 143, 140]), (20, [6, 0], [50, 2, 0, 1146, 1147, 2, 6, 0, 2, 0, 0, 1, 0, 0, 6, 4, 2, 1, 0, 0, 1, 6, 3, 2, 1, 146, 2, 1, 147]), (20, [5, 9], [50, 0, 0, 0, 6, 4, 2, 1, 0, 1, 1, 0, 1000000]), (20, [5], [50, 0, 0, 0, 2, 0, 0, 1, 0]), (20, [6, 3], [50, 0, 0, 7, 2, 1, 0, 1, 1]), (20, [0, 6, 7, 9, 10, 11, 12], [60, 2, 2, 432, 146, 147, 143, 140]), (20, [9, 13], [50, 0, 0, 2, 6, 0, 2, 0, 0, 1, 0, 0, 2, 1, 0, 1, 1]), (23, [13], [-1, -1])] ta ws vs := hf
  obtain ⟨f0, hf⟩ := fc_un (show (6 : Nat) < 100 from by decide) hf
  have f0 : v_iv (n_v vs 16) = v_iv (n_v vs 12) + (-1) := f0
  obtain ⟨f1, hf⟩ := fc_un (show (8 : Nat) < 100 from by decide) hf
  have f1 : v_iv (n_v vs 14) < 0 := f1
  obtain ⟨f2, hf⟩ := fc_un (show (7 : Nat) < 100 from by decide) hf
  have f2 : v_iv (n_v vs 12) = v_iv (n_v vs 7) := f2
  obtain ⟨f3, hf⟩ := fc_un (show (20 : Nat) < 100 from by decide) hf
  have f3 : STQ (w_fi ws (n_v vs 0) 146) (w_fi ws (n_v vs 0) 147) (w_ei ws (w_ar ws (n_v vs 0) 143)) (v_iv (n_v vs 6)) (v_iv (n_v vs 12)) (v_iv (n_v vs 14)) := f3
  obtain ⟨f4, hf⟩ := fc_un (show (20 : Nat) < 100 from by decide) hf
  have f4 : ((-1) ≤ v_iv (n_v vs 14)) ∧ ((v_iv (n_v vs 14) + 1) ≤ (w_fi ws (n_v vs 0) 146 * w_fi ws (n_v vs 0) 147)) := f4
  obtain ⟨f5, hf⟩ := fc_un (show (8 : Nat) < 100 from by decide) hf
  have f5 : 0 ≤ v_iv (n_v vs 12) := f5
  obtain ⟨f6, hf⟩ := fc_un (show (20 : Nat) < 100 from by decide) hf
  have f6 : GRX (w_fi ws (n_v vs 0) 146) (w_fi ws (n_v vs 0) 147) := f6
  obtain ⟨f7, hf⟩ := fc_un (show (20 : Nat) < 100 from by decide) hf
  have f7 : RTV (w_fi ws (n_v vs 0) 146) (w_fi ws (n_v vs 0) 147) (w_ei ws (w_ar ws (n_v vs 0) 143)) (w_ei ws (w_ar ws (n_v vs 0) 140)) (v_iv (n_v vs 3)) := f7
  obtain ⟨f8, hf⟩ := fc_un (show (20 : Nat) < 100 from by decide) hf
  have f8 : (0 ≤ v_iv (n_v vs 3)) ∧ ((v_iv (n_v vs 3) + 1) ≤ (w_fi ws (n_v vs 0) 146 * w_fi ws (n_v vs 0) 147)) := f8
  obtain ⟨f9, hf⟩ := fc_un (show (20 : Nat) < 100 from by decide) hf
  have f9 : BB2 (w_fi ws (n_v vs 0) 146) (w_fi ws (n_v vs 0) 147) (w_ei ws (w_ar ws (n_v vs 0) 143)) (w_ei ws (w_ar ws (n_v vs 0) 140)) (v_iv (n_v vs 6)) (v_iv (n_v vs 7)) (v_iv (n_v vs 9)) := f9
  obtain ⟨f10, hf⟩ := fc_un (show (20 : Nat) < 100 from by decide) hf
  have f10 : (0 ≤ v_iv (n_v vs 6)) ∧ ((v_iv (n_v vs 6) + 1) ≤ (w_fi ws (n_v vs 0) 146 * w_fi ws (n_v vs 0) 147)) := f10
  obtain ⟨f11, hf⟩ := fc_un (show (20 : Nat) < 100 from by decide) hf
  have f11 : (v_iv (n_v vs 5) + v_iv (n_v vs 9)) ≤ 1000000 := f11
  obtain ⟨f12, hf⟩ := fc_un (show (20 : Nat) < 100 from by decide) hf
  have f12 : 0 ≤ v_iv (n_v vs 5) := f12
  obtain ⟨f13, hf⟩ := fc_un (show (20 : Nat) < 100 from by decide) hf
  have f13 : v_iv (n_v vs 6) ≠ v_iv (n_v vs 3) := f13
  obtain ⟨f14, hf⟩ := fc_un (show (20 : Nat) < 100 from by decide) hf
  have f14 : BB3 (w_fi ws (n_v vs 0) 146) (w_fi ws (n_v vs 0) 147) (w_ei ws (w_ar ws (n_v vs 0) 143)) (w_ei ws (w_ar ws (n_v vs 0) 140)) (v_iv (n_v vs 6)) (v_iv (n_v vs 7)) (v_iv (n_v vs 9)) (v_iv (n_v vs 10)) (v_iv (n_v vs 11)) (v_iv (n_v vs 12)) := f14
  obtain ⟨f15, hf⟩ := fc_un (show (20 : Nat) < 100 from by decide) hf
  have f15 : (0 ≤ v_iv (n_v vs 9)) ∧ (v_iv (n_v vs 9) ≤ v_iv (n_v vs 13)) := f15
  obtain ⟨f16, hf⟩ := fc_un (show (23 : Nat) < 100 from by decide) hf
  have f16 : (-1) * v_iv (n_v vs 13) + 0 ≤ (-1) := f16
  have cr_0_140 : ta (w_ar ws (n_v vs 0) 140) = some 251 := tv_rg (th_fd hD hth r0 (g := GG_150) rfl (k := 140) (t := (2, 0, 0, [251])) rfl rfl)
  have cr_0_143 : ta (w_ar ws (n_v vs 0) 143) = some 254 := tv_rg (th_fd hD hth r0 (g := GG_150) rfl (k := 143) (t := (2, 0, 0, [254])) rfl rfl)
  have hK_0_140 : ∀ j : Int, 0 ≤ j → j < 24000 → 0 ≤ w_ei ws (w_ar ws (n_v vs 0) 140) j ∧ w_ei ws (w_ar ws (n_v vs 0) 140) j ≤ 1000000 := fun j h0 h1 => th_el hD hth cr_0_140 (kd := 0) (n := 24000) (m := 24000) (lo := 0) (hi := 1000000) (rs := []) (L := []) rfl (by decide) (j := j.toNat) (by omega)
  have hK_0_143 : ∀ j : Int, 0 ≤ j → j < 6000 → 0 ≤ w_ei ws (w_ar ws (n_v vs 0) 143) j ∧ w_ei ws (w_ar ws (n_v vs 0) 143) j ≤ 1 := fun j h0 h1 => th_el hD hth cr_0_143 (kd := 2) (n := 6000) (m := 6000) (lo := 0) (hi := 1) (rs := []) (L := []) rfl (by decide) (j := j.toNat) (by omega)
  have kz_0_146 : (-2147483648) ≤ w_fi ws (n_v vs 0) 146 ∧ w_fi ws (n_v vs 0) 146 ≤ 2147483647 := tv_rng (th_fd hD hth r0 (g := GG_150) rfl (k := 146) (t := (0, -2147483648, 2147483647, [])) rfl rfl)
  have kz_0_147 : (-2147483648) ≤ w_fi ws (n_v vs 0) 147 ∧ w_fi ws (n_v vs 0) 147 ≤ 2147483647 := tv_rng (th_fd hD hth r0 (g := GG_150) rfl (k := 147) (t := (0, -2147483648, 2147483647, [])) rfl rfl)
  have nf0 : fc_1 PRD (20, [0, 6, 7, 9, 10, 11, 16], [60, 2, 2, 432, 146, 147, 143, 140]) ws (vs) := by
    refine ⟨fun n hn => ?_, ?_⟩
    · have hn : n ∈ [0, 6, 7, 9, 10, 11, 16] := hn
      rw [hl]
      simp only [List.mem_cons, List.not_mem_nil, or_false] at hn
      show n < 17; omega
    · show BB3 (w_fi ws (n_v vs 0) 146) (w_fi ws (n_v vs 0) 147) (w_ei ws (w_ar ws (n_v vs 0) 143)) (w_ei ws (w_ar ws (n_v vs 0) 140)) (v_iv (n_v vs 6)) (v_iv (n_v vs 7)) (v_iv (n_v vs 9)) (v_iv (n_v vs 10)) (v_iv (n_v vs 11)) (v_iv (n_v vs 16))
      exact vc_Mo_bendsBecome_20_0 (v_iv (n_v vs 3)) (v_iv (n_v vs 5)) (v_iv (n_v vs 6)) (v_iv (n_v vs 7)) (v_iv (n_v vs 9)) (v_iv (n_v vs 10)) (v_iv (n_v vs 11)) (v_iv (n_v vs 12)) (v_iv (n_v vs 13)) (v_iv (n_v vs 14)) (v_iv (n_v vs 16)) (w_ei ws (w_ar ws (n_v vs 0) 143)) (w_fi ws (n_v vs 0) 146) (w_fi ws (n_v vs 0) 147) (w_ei ws (w_ar ws (n_v vs 0) 140)) k3 k5 k6 k7 k9 k10 k11 k12 k13 k14 k16 d0 d1 d2 d3 d4 f0 f1 f2 f3 f4 f5 f6 f7 f8 f9 f10 f11 f12 f13 f14 f15 f16 hK_0_140 hK_0_143 kz_0_146 kz_0_147
  refine ⟨(fun _ h => (by cases h)), [], trivial, ?_, (fun _ h => (by cases h))⟩
  rw [List.append_nil]
  exact List.forall_mem_cons.mpr ⟨⟨show (20 : Nat) < 100 from by decide, nf0⟩, (fun _ h => (by cases h))⟩
set_option maxHeartbeats 4000000 in
theorem vc_Mo_bendsBecome_21_0 (x3 : Int) (x5 : Int) (x6 : Int) (x7 : Int) (x9 : Int) (x10 : Int) (x11 : Int) (x12 : Int) (x13 : Int) (x14 : Int) (x15 : Int) (x17 : Int) (x18 : Int) (x19 : Int) (x20 : Int) (x21 : Int) (x22 : Int) (x23 : Int) (costOf_0 : Int → Int) (barredPoint_0 : Int → Int) (wide_0 : Int) (tall_0 : Int) (k3 : 0 ≤ x3 ∧ x3 ≤ 5999) (k5 : 0 ≤ x5 ∧ x5 ≤ 2147483647) (k6 : 0 ≤ x6 ∧ x6 ≤ 5999) (k7 : 0 ≤ x7 ∧ x7 ≤ 3) (k9 : 1 ≤ x9 ∧ x9 ≤ 1000000) (k10 : (-1) ≤ x10 ∧ x10 ≤ 3) (k11 : 0 ≤ x11 ∧ x11 ≤ 999999) (k12 : 0 ≤ x12 ∧ x12 ≤ 3) (k13 : (-2) ≤ x13 ∧ x13 ≤ 1000000) (k14 : 0 ≤ x14 ∧ x14 ≤ 5999) (k15 : 1 ≤ x15 ∧ x15 ≤ 1) (k17 : 4 ≤ x17 ∧ x17 ≤ 4) (k18 : 0 ≤ x18 ∧ x18 ≤ 23996) (k19 : 0 ≤ x19 ∧ x19 ≤ 23999) (k20 : 0 ≤ x20 ∧ x20 ≤ 999999) (k21 : 0 ≤ x21 ∧ x21 ≤ 999999) (k22 : 0 ≤ x22 ∧ x22 ≤ 999999) (k23 : (-1) ≤ x23 ∧ x23 ≤ 2) (d0 : x12 + (-1) ≤ x23 ∧ x23 ≤ x12 + (-1)) (d1 : x7 + (-1) ≤ x23 ∧ x23 ≤ x7 + (-1)) (d2 : x9 + (-1) ≤ x22 ∧ x22 ≤ x9 + (-1)) (d3 : x21 + 0 ≤ x20 ∧ x20 ≤ x21 + 0) (d4 : x9 + (-1) ≤ x21 ∧ x21 ≤ x9 + (-1)) (d5 : x12 + 0 ≤ x19 ∧ x19 ≤ x12 + 23996) (d6 : x7 + 0 ≤ x19 ∧ x19 ≤ x7 + 23996) (d7 : x18 + 0 ≤ x19 ∧ x19 ≤ x18 + 3) (d8 : x7 + 0 ≤ x12 ∧ x12 ≤ x7 + 0) (d9 : x9 + (-4294967296) ≤ x11 ∧ x11 ≤ x9 + 0) (f0 : x23 = x12 + (-1)) (f1 : x22 = x9 - x15) (f2 : x20 = x21) (f3 : x21 = x9 - x15) (h4 : x20 = costOf_0 (x19)) (f5 : x19 = x18 + x12) (f6 : x18 = 4 * x14) (f8 : 0 ≤ x14) (f9 : x12 = x7) (f10 : STQ (wide_0) (tall_0) (barredPoint_0) (x6) (x12) (x14)) (f11 : ((-1) ≤ x14) ∧ ((x14 + 1) ≤ (wide_0 * tall_0))) (f12 : 0 ≤ x12) (f13 : GRX (wide_0) (tall_0)) (f14 : RTV (wide_0) (tall_0) (barredPoint_0) (costOf_0) (x3)) (f15 : (0 ≤ x3) ∧ ((x3 + 1) ≤ (wide_0 * tall_0))) (f16 : BB2 (wide_0) (tall_0) (barredPoint_0) (costOf_0) (x6) (x7) (x9)) (f17 : (0 ≤ x6) ∧ ((x6 + 1) ≤ (wide_0 * tall_0))) (f18 : (x5 + x9) ≤ 1000000) (f19 : 0 ≤ x5) (f20 : x6 ≠ x3) (f21 : BB3 (wide_0) (tall_0) (barredPoint_0) (costOf_0) (x6) (x7) (x9) (x10) (x11) (x12)) (f22 : (0 ≤ x9) ∧ (x9 ≤ x13)) (f23 : (-1) * x13 + 0 ≤ (-1)) (hK_0_140 : ∀ j : Int, 0 ≤ j → j < 24000 → 0 ≤ costOf_0 j ∧ costOf_0 j ≤ 1000000) (hK_0_143 : ∀ j : Int, 0 ≤ j → j < 6000 → 0 ≤ barredPoint_0 j ∧ barredPoint_0 j ≤ 1) (kz_0_146 : (-2147483648) ≤ wide_0 ∧ wide_0 ≤ 2147483647) (kz_0_147 : (-2147483648) ≤ tall_0 ∧ tall_0 ≤ 2147483647) : BB3 (wide_0) (tall_0) (barredPoint_0) (costOf_0) (x6) (x7) (x9) (x12) (x22) (x23) := by
  first
    | exact bb3_start (by omega) (by omega)
    | exact bb3_skip (w := x15) (x := x14) (v := x14) ‹BB3 _ _ _ _ _ _ _ _ _ _› (by omega) ‹STQ _ _ _ _ _ _› (by omega) (Or.inl (by omega))
    | exact bb3_skip (w := 1) (x := x14) (v := x14) ‹BB3 _ _ _ _ _ _ _ _ _ _› (by omega) ‹STQ _ _ _ _ _ _› (Or.inl ⟨by omega, rfl⟩) (Or.inl (by omega))
    | exact bb3_skip (w := 3) (x := x14) (v := x14) ‹BB3 _ _ _ _ _ _ _ _ _ _› (by omega) ‹STQ _ _ _ _ _ _› (Or.inr ⟨by omega, rfl⟩) (Or.inl (by omega))
    | exact bb3_skip (w := x15) (x := x19) (v := x20) ‹BB3 _ _ _ _ _ _ _ _ _ _› (by omega) ‹STQ _ _ _ _ _ _› (by omega) (Or.inr ⟨by omega, by assumption, by omega⟩)
    | exact bb3_take (q := x14) (x := x19) (v := x20) (w := x15) ‹STQ _ _ _ _ _ _› (by omega) (by omega) (by omega) (by omega) (by assumption) (by omega) (by omega) (by omega) (by omega)
    | sorry
def o_Mo_bendsBecome_21 : or_T := (127, 24, [(0, (2, 0, 0, [150])), (3, (0, 0, 5999, [])), (5, (0, 0, 2147483647, [])), (6, (0, 0, 5999, [])), (7, (0, 0, 3, [])), (9, (0, 1, 1000000, [])), (10, (0, -1, 3, [])), (11, (0, 0, 999999, [])), (12, (0, 0, 3, [])), (13, (0, -2, 1000000, [])), (14, (0, 0, 5999, [])), (15, (0, 1, 1, [])), (16, (2, 0, 0, [251])), (17, (0, 4, 4, [])), (18, (0, 0, 23996, [])), (19, (0, 0, 23999, [])), (20, (0, 0, 999999, [])), (21, (0, 0, 999999, [])), (22, (0, 0, 999999, [])), (23, (0, -1, 2, []))], [(6, [23, 12], [-1]), (2, [22, 9, 15], []), (7, [20, 21], [0]), (2, [21, 9, 15], []), (10, [20, 16, 19], []), (1, [19, 18, 12], []), (3, [18, 17, 14], []), (9, [16, 0], [140]), (8, [14], [3]), (7, [12, 7], [0]), (20, [0, 6, 12, 14], [60, 2, 1, 429, 146, 147, 143]), (20, [14, 0], [50, 2, 0, 1146, 1147, 2, 6, 0, 2, 0, -1, 1, 0, 0, 6, 4, 2, 1, 0, 0, 1, 6, 3, 2, 1, 146, 2, 1, 147]), (8, [12], [3]), (20, [0], [60, 2, 0, 418, 146, 147]), (20, [0, 3], [60, 2, 2, 428, 146, 147, 143, 140]), (20, [3, 0], [50, 2, 0, 1146, 1147, 2, 6, 0, 2, 0, 0, 1, 0, 0, 6, 4, 2, 1, 0, 0, 1, 6, 3, 2, 1, 146, 2, 1, 147]), (20, [0, 6, 7, 9], [60, 2, 2, 431, 146, 147, 143, 140]), (20, [6, 0], [50, 2, 0, 1146, 1147, 2, 6, 0, 2, 0, 0, 1, 0, 0, 6, 4, 2, 1, 0, 0, 1, 6, 3, 2, 1, 146, 2, 1, 147]), (20, [5, 9], [50, 0, 0, 0, 6, 4, 2, 1, 0, 1, 1, 0, 1000000]), (20, [5], [50, 0, 0, 0, 2, 0, 0, 1, 0]), (20, [6, 3], [50, 0, 0, 7, 2, 1, 0, 1, 1]), (20, [0, 6, 7, 9, 10, 11, 12], [60, 2, 2, 432, 146, 147, 143, 140]), (20, [9, 13], [50, 0, 0, 2, 6, 0, 2, 0, 0, 1, 0, 0, 2, 1, 0, 1, 1]), (23, [13], [-1, -1])], [], [], [(20, [0, 6, 7, 9, 12, 22, 23], [60, 2, 2, 432, 146, 147, 143, 140])], [], [(23, 12, -1, -1), (23, 7, -1, -1), (22, 9, -1, -1), (20, 21, 0, 0), (21, 9, -1, -1), (19, 12, 0, 23996), (19, 7, 0, 23996), (19, 18, 0, 3), (12, 7, 0, 0), (11, 9, -4294967296, 0)])
theorem oo_Mo_bendsBecome_21 {kA : Nat → ClassId} : or_ok PRD kA GG o_Mo_bendsBecome_21 := by
  intro A ta ws vs hD hth hl hk hds hf
  have hl : vs.length = 24 := hl
  have hk : ∀ q ∈ ([(0, (2, 0, 0, [150])), (3, (0, 0, 5999, [])), (5, (0, 0, 2147483647, [])), (6, (0, 0, 5999, [])), (7, (0, 0, 3, [])), (9, (0, 1, 1000000, [])), (10, (0, -1, 3, [])), (11, (0, 0, 999999, [])), (12, (0, 0, 3, [])), (13, (0, -2, 1000000, [])), (14, (0, 0, 5999, [])), (15, (0, 1, 1, [])), (16, (2, 0, 0, [251])), (17, (0, 4, 4, [])), (18, (0, 0, 23996, [])), (19, (0, 0, 23999, [])), (20, (0, 0, 999999, [])), (21, (0, 0, 999999, [])), (22, (0, 0, 999999, [])), (23, (0, -1, 2, []))] : List (Nat × tv_T)), tv_ok ta q.2 (n_v vs q.1) := hk
  obtain ⟨t0, hk⟩ := List.forall_mem_cons.mp hk
  have t0 : tv_ok ta (2, 0, 0, [150]) (n_v vs 0) := t0
  have r0 : ta (v_ad (n_v vs 0)) = some 150 := tv_rg t0
  obtain ⟨t3, hk⟩ := List.forall_mem_cons.mp hk
  have t3 : tv_ok ta (0, 0, 5999, []) (n_v vs 3) := t3
  have k3 : 0 ≤ v_iv (n_v vs 3) ∧ v_iv (n_v vs 3) ≤ 5999 := tv_rng t3
  obtain ⟨t5, hk⟩ := List.forall_mem_cons.mp hk
  have t5 : tv_ok ta (0, 0, 2147483647, []) (n_v vs 5) := t5
  have k5 : 0 ≤ v_iv (n_v vs 5) ∧ v_iv (n_v vs 5) ≤ 2147483647 := tv_rng t5
  obtain ⟨t6, hk⟩ := List.forall_mem_cons.mp hk
  have t6 : tv_ok ta (0, 0, 5999, []) (n_v vs 6) := t6
  have k6 : 0 ≤ v_iv (n_v vs 6) ∧ v_iv (n_v vs 6) ≤ 5999 := tv_rng t6
  obtain ⟨t7, hk⟩ := List.forall_mem_cons.mp hk
  have t7 : tv_ok ta (0, 0, 3, []) (n_v vs 7) := t7
  have k7 : 0 ≤ v_iv (n_v vs 7) ∧ v_iv (n_v vs 7) ≤ 3 := tv_rng t7
  obtain ⟨t9, hk⟩ := List.forall_mem_cons.mp hk
  have t9 : tv_ok ta (0, 1, 1000000, []) (n_v vs 9) := t9
  have k9 : 1 ≤ v_iv (n_v vs 9) ∧ v_iv (n_v vs 9) ≤ 1000000 := tv_rng t9
  obtain ⟨t10, hk⟩ := List.forall_mem_cons.mp hk
  have t10 : tv_ok ta (0, -1, 3, []) (n_v vs 10) := t10
  have k10 : (-1) ≤ v_iv (n_v vs 10) ∧ v_iv (n_v vs 10) ≤ 3 := tv_rng t10
  obtain ⟨t11, hk⟩ := List.forall_mem_cons.mp hk
  have t11 : tv_ok ta (0, 0, 999999, []) (n_v vs 11) := t11
  have k11 : 0 ≤ v_iv (n_v vs 11) ∧ v_iv (n_v vs 11) ≤ 999999 := tv_rng t11
  obtain ⟨t12, hk⟩ := List.forall_mem_cons.mp hk
  have t12 : tv_ok ta (0, 0, 3, []) (n_v vs 12) := t12
  have k12 : 0 ≤ v_iv (n_v vs 12) ∧ v_iv (n_v vs 12) ≤ 3 := tv_rng t12
  obtain ⟨t13, hk⟩ := List.forall_mem_cons.mp hk
  have t13 : tv_ok ta (0, -2, 1000000, []) (n_v vs 13) := t13
  have k13 : (-2) ≤ v_iv (n_v vs 13) ∧ v_iv (n_v vs 13) ≤ 1000000 := tv_rng t13
  obtain ⟨t14, hk⟩ := List.forall_mem_cons.mp hk
  have t14 : tv_ok ta (0, 0, 5999, []) (n_v vs 14) := t14
  have k14 : 0 ≤ v_iv (n_v vs 14) ∧ v_iv (n_v vs 14) ≤ 5999 := tv_rng t14
  obtain ⟨t15, hk⟩ := List.forall_mem_cons.mp hk
  have t15 : tv_ok ta (0, 1, 1, []) (n_v vs 15) := t15
  have k15 : 1 ≤ v_iv (n_v vs 15) ∧ v_iv (n_v vs 15) ≤ 1 := tv_rng t15
  obtain ⟨t16, hk⟩ := List.forall_mem_cons.mp hk
  have t16 : tv_ok ta (2, 0, 0, [251]) (n_v vs 16) := t16
  have r16 : ta (v_ad (n_v vs 16)) = some 251 := tv_rg t16
  obtain ⟨t17, hk⟩ := List.forall_mem_cons.mp hk
  have t17 : tv_ok ta (0, 4, 4, []) (n_v vs 17) := t17
  have k17 : 4 ≤ v_iv (n_v vs 17) ∧ v_iv (n_v vs 17) ≤ 4 := tv_rng t17
  obtain ⟨t18, hk⟩ := List.forall_mem_cons.mp hk
  have t18 : tv_ok ta (0, 0, 23996, []) (n_v vs 18) := t18
  have k18 : 0 ≤ v_iv (n_v vs 18) ∧ v_iv (n_v vs 18) ≤ 23996 := tv_rng t18
  obtain ⟨t19, hk⟩ := List.forall_mem_cons.mp hk
  have t19 : tv_ok ta (0, 0, 23999, []) (n_v vs 19) := t19
  have k19 : 0 ≤ v_iv (n_v vs 19) ∧ v_iv (n_v vs 19) ≤ 23999 := tv_rng t19
  obtain ⟨t20, hk⟩ := List.forall_mem_cons.mp hk
  have t20 : tv_ok ta (0, 0, 999999, []) (n_v vs 20) := t20
  have k20 : 0 ≤ v_iv (n_v vs 20) ∧ v_iv (n_v vs 20) ≤ 999999 := tv_rng t20
  obtain ⟨t21, hk⟩ := List.forall_mem_cons.mp hk
  have t21 : tv_ok ta (0, 0, 999999, []) (n_v vs 21) := t21
  have k21 : 0 ≤ v_iv (n_v vs 21) ∧ v_iv (n_v vs 21) ≤ 999999 := tv_rng t21
  obtain ⟨t22, hk⟩ := List.forall_mem_cons.mp hk
  have t22 : tv_ok ta (0, 0, 999999, []) (n_v vs 22) := t22
  have k22 : 0 ≤ v_iv (n_v vs 22) ∧ v_iv (n_v vs 22) ≤ 999999 := tv_rng t22
  obtain ⟨t23, hk⟩ := List.forall_mem_cons.mp hk
  have t23 : tv_ok ta (0, -1, 2, []) (n_v vs 23) := t23
  have k23 : (-1) ≤ v_iv (n_v vs 23) ∧ v_iv (n_v vs 23) ≤ 2 := tv_rng t23
  have hds : ∀ q ∈ ([(23, 12, -1, -1), (23, 7, -1, -1), (22, 9, -1, -1), (20, 21, 0, 0), (21, 9, -1, -1), (19, 12, 0, 23996), (19, 7, 0, 23996), (19, 18, 0, 3), (12, 7, 0, 0), (11, 9, -4294967296, 0)] : List of_T), n_iv vs q.2.1 + q.2.2.1 ≤ n_iv vs q.1 ∧ n_iv vs q.1 ≤ n_iv vs q.2.1 + q.2.2.2 := hds
  obtain ⟨d0, hds⟩ := List.forall_mem_cons.mp hds
  have d0 : v_iv (n_v vs 12) + (-1) ≤ v_iv (n_v vs 23) ∧ v_iv (n_v vs 23) ≤ v_iv (n_v vs 12) + (-1) := d0
  obtain ⟨d1, hds⟩ := List.forall_mem_cons.mp hds
  have d1 : v_iv (n_v vs 7) + (-1) ≤ v_iv (n_v vs 23) ∧ v_iv (n_v vs 23) ≤ v_iv (n_v vs 7) + (-1) := d1
  obtain ⟨d2, hds⟩ := List.forall_mem_cons.mp hds
  have d2 : v_iv (n_v vs 9) + (-1) ≤ v_iv (n_v vs 22) ∧ v_iv (n_v vs 22) ≤ v_iv (n_v vs 9) + (-1) := d2
  obtain ⟨d3, hds⟩ := List.forall_mem_cons.mp hds
  have d3 : v_iv (n_v vs 21) + 0 ≤ v_iv (n_v vs 20) ∧ v_iv (n_v vs 20) ≤ v_iv (n_v vs 21) + 0 := d3
  obtain ⟨d4, hds⟩ := List.forall_mem_cons.mp hds
  have d4 : v_iv (n_v vs 9) + (-1) ≤ v_iv (n_v vs 21) ∧ v_iv (n_v vs 21) ≤ v_iv (n_v vs 9) + (-1) := d4
  obtain ⟨d5, hds⟩ := List.forall_mem_cons.mp hds
  have d5 : v_iv (n_v vs 12) + 0 ≤ v_iv (n_v vs 19) ∧ v_iv (n_v vs 19) ≤ v_iv (n_v vs 12) + 23996 := d5
  obtain ⟨d6, hds⟩ := List.forall_mem_cons.mp hds
  have d6 : v_iv (n_v vs 7) + 0 ≤ v_iv (n_v vs 19) ∧ v_iv (n_v vs 19) ≤ v_iv (n_v vs 7) + 23996 := d6
  obtain ⟨d7, hds⟩ := List.forall_mem_cons.mp hds
  have d7 : v_iv (n_v vs 18) + 0 ≤ v_iv (n_v vs 19) ∧ v_iv (n_v vs 19) ≤ v_iv (n_v vs 18) + 3 := d7
  obtain ⟨d8, hds⟩ := List.forall_mem_cons.mp hds
  have d8 : v_iv (n_v vs 7) + 0 ≤ v_iv (n_v vs 12) ∧ v_iv (n_v vs 12) ≤ v_iv (n_v vs 7) + 0 := d8
  obtain ⟨d9, hds⟩ := List.forall_mem_cons.mp hds
  have d9 : v_iv (n_v vs 9) + (-4294967296) ≤ v_iv (n_v vs 11) ∧ v_iv (n_v vs 11) ≤ v_iv (n_v vs 9) + 0 := d9
  have hf : fc_ok PRD [(6, [23, 12], [-1]), (2, [22, 9, 15], []), (7, [20, 21], [0]), (2, [21, 9, 15], []), (10, [20, 16, 19], []), (1, [19, 18, 12], []), (3, [18, 17, 14], []), (9, [16, 0], [140]), (8, [14], [3]), (7, [12, 7], [0]), (20, [0, 6, 12, 14], [60, 2, 1, 429, 146, 147, 143]), (20, [14, 0], [50, 2, 0, 1146, 1147, 2, 6, 0, 2, 0, -1, 1, 0, 0, 6, 4, 2, 1, 0, 0, 1, 6, 3, 2, 1, 146, 2, 1, 147]), (8, [12], [3]), (20, [0], [60, 2, 0, 418, 146, 147]), (20, [0, 3], [60, 2, 2, 428, 146, 147, 143, 140]), (20, [3, 0], [50, 2, 0, 1146, 1147, 2, 6, 0, 2, 0, 0, 1, 0, 0, 6, 4, 2, 1, 0, 0, 1, 6, 3, 2, 1, 146, 2, 1, 147]), (20, [0, 6, 7, 9], [60, 2, 2, 431, 146, 147, 143, 140]), (20, [6, 0], [50, 2, 0, 1146, 1147, 2, 6, 0, 2, 0, 0, 1, 0, 0, 6, 4, 2, 1, 0, 0, 1, 6, 3, 2, 1, 146, 2, 1, 147]), (20, [5, 9], [50, 0, 0, 0, 6, 4, 2, 1, 0, 1, 1, 0, 1000000]), (20, [5], [50, 0, 0, 0, 2, 0, 0, 1, 0]), (20, [6, 3], [50, 0, 0, 7, 2, 1, 0, 1, 1]), (20, [0, 6, 7, 9, 10, 11, 12], [60, 2, 2, 432, 146, 147, 143, 140]), (20, [9, 13], [50, 0, 0, 2, 6, 0, 2, 0, 0, 1, 0, 0, 2, 1, 0, 1, 1]), (23, [13], [-1, -1])] ta ws vs := hf
  obtain ⟨f0, hf⟩ := fc_un (show (6 : Nat) < 100 from by decide) hf
  have f0 : v_iv (n_v vs 23) = v_iv (n_v vs 12) + (-1) := f0
  obtain ⟨f1, hf⟩ := fc_un (show (2 : Nat) < 100 from by decide) hf
  have f1 : v_iv (n_v vs 22) = v_iv (n_v vs 9) - v_iv (n_v vs 15) := f1
  obtain ⟨f2, hf⟩ := fc_un (show (7 : Nat) < 100 from by decide) hf
  have f2 : v_iv (n_v vs 20) = v_iv (n_v vs 21) := f2
  obtain ⟨f3, hf⟩ := fc_un (show (2 : Nat) < 100 from by decide) hf
  have f3 : v_iv (n_v vs 21) = v_iv (n_v vs 9) - v_iv (n_v vs 15) := f3
  obtain ⟨f4, hf⟩ := fc_un (show (10 : Nat) < 100 from by decide) hf
  have f4 : v_iv (n_v vs 20) = w_el ws (v_ad (n_v vs 16)) (v_iv (n_v vs 19)).toNat := f4
  obtain ⟨f5, hf⟩ := fc_un (show (1 : Nat) < 100 from by decide) hf
  have f5 : v_iv (n_v vs 19) = v_iv (n_v vs 18) + v_iv (n_v vs 12) := f5
  obtain ⟨f6, hf⟩ := fc_un (show (3 : Nat) < 100 from by decide) hf
  have f6 : v_iv (n_v vs 18) = v_iv (n_v vs 17) * v_iv (n_v vs 14) := f6
  rw [show v_iv (n_v vs 17) = 4 from by omega] at f6
  obtain ⟨f7, hf⟩ := fc_un (show (9 : Nat) < 100 from by decide) hf
  have f7 : n_v vs 16 = w_fd ws (v_ad (n_v vs 0)) 140 := f7
  obtain ⟨f8, hf⟩ := fc_un (show (8 : Nat) < 100 from by decide) hf
  have f8 : 0 ≤ v_iv (n_v vs 14) := f8
  obtain ⟨f9, hf⟩ := fc_un (show (7 : Nat) < 100 from by decide) hf
  have f9 : v_iv (n_v vs 12) = v_iv (n_v vs 7) := f9
  obtain ⟨f10, hf⟩ := fc_un (show (20 : Nat) < 100 from by decide) hf
  have f10 : STQ (w_fi ws (n_v vs 0) 146) (w_fi ws (n_v vs 0) 147) (w_ei ws (w_ar ws (n_v vs 0) 143)) (v_iv (n_v vs 6)) (v_iv (n_v vs 12)) (v_iv (n_v vs 14)) := f10
  obtain ⟨f11, hf⟩ := fc_un (show (20 : Nat) < 100 from by decide) hf
  have f11 : ((-1) ≤ v_iv (n_v vs 14)) ∧ ((v_iv (n_v vs 14) + 1) ≤ (w_fi ws (n_v vs 0) 146 * w_fi ws (n_v vs 0) 147)) := f11
  obtain ⟨f12, hf⟩ := fc_un (show (8 : Nat) < 100 from by decide) hf
  have f12 : 0 ≤ v_iv (n_v vs 12) := f12
  obtain ⟨f13, hf⟩ := fc_un (show (20 : Nat) < 100 from by decide) hf
  have f13 : GRX (w_fi ws (n_v vs 0) 146) (w_fi ws (n_v vs 0) 147) := f13
  obtain ⟨f14, hf⟩ := fc_un (show (20 : Nat) < 100 from by decide) hf
  have f14 : RTV (w_fi ws (n_v vs 0) 146) (w_fi ws (n_v vs 0) 147) (w_ei ws (w_ar ws (n_v vs 0) 143)) (w_ei ws (w_ar ws (n_v vs 0) 140)) (v_iv (n_v vs 3)) := f14
  obtain ⟨f15, hf⟩ := fc_un (show (20 : Nat) < 100 from by decide) hf
  have f15 : (0 ≤ v_iv (n_v vs 3)) ∧ ((v_iv (n_v vs 3) + 1) ≤ (w_fi ws (n_v vs 0) 146 * w_fi ws (n_v vs 0) 147)) := f15
  obtain ⟨f16, hf⟩ := fc_un (show (20 : Nat) < 100 from by decide) hf
  have f16 : BB2 (w_fi ws (n_v vs 0) 146) (w_fi ws (n_v vs 0) 147) (w_ei ws (w_ar ws (n_v vs 0) 143)) (w_ei ws (w_ar ws (n_v vs 0) 140)) (v_iv (n_v vs 6)) (v_iv (n_v vs 7)) (v_iv (n_v vs 9)) := f16
  obtain ⟨f17, hf⟩ := fc_un (show (20 : Nat) < 100 from by decide) hf
  have f17 : (0 ≤ v_iv (n_v vs 6)) ∧ ((v_iv (n_v vs 6) + 1) ≤ (w_fi ws (n_v vs 0) 146 * w_fi ws (n_v vs 0) 147)) := f17
  obtain ⟨f18, hf⟩ := fc_un (show (20 : Nat) < 100 from by decide) hf
  have f18 : (v_iv (n_v vs 5) + v_iv (n_v vs 9)) ≤ 1000000 := f18
  obtain ⟨f19, hf⟩ := fc_un (show (20 : Nat) < 100 from by decide) hf
  have f19 : 0 ≤ v_iv (n_v vs 5) := f19
  obtain ⟨f20, hf⟩ := fc_un (show (20 : Nat) < 100 from by decide) hf
  have f20 : v_iv (n_v vs 6) ≠ v_iv (n_v vs 3) := f20
  obtain ⟨f21, hf⟩ := fc_un (show (20 : Nat) < 100 from by decide) hf
  have f21 : BB3 (w_fi ws (n_v vs 0) 146) (w_fi ws (n_v vs 0) 147) (w_ei ws (w_ar ws (n_v vs 0) 143)) (w_ei ws (w_ar ws (n_v vs 0) 140)) (v_iv (n_v vs 6)) (v_iv (n_v vs 7)) (v_iv (n_v vs 9)) (v_iv (n_v vs 10)) (v_iv (n_v vs 11)) (v_iv (n_v vs 12)) := f21
  obtain ⟨f22, hf⟩ := fc_un (show (20 : Nat) < 100 from by decide) hf
  have f22 : (0 ≤ v_iv (n_v vs 9)) ∧ (v_iv (n_v vs 9) ≤ v_iv (n_v vs 13)) := f22
  obtain ⟨f23, hf⟩ := fc_un (show (23 : Nat) < 100 from by decide) hf
  have f23 : (-1) * v_iv (n_v vs 13) + 0 ≤ (-1) := f23
  have cr_0_140 : ta (w_ar ws (n_v vs 0) 140) = some 251 := tv_rg (th_fd hD hth r0 (g := GG_150) rfl (k := 140) (t := (2, 0, 0, [251])) rfl rfl)
  have cr_0_143 : ta (w_ar ws (n_v vs 0) 143) = some 254 := tv_rg (th_fd hD hth r0 (g := GG_150) rfl (k := 143) (t := (2, 0, 0, [254])) rfl rfl)
  have ad_16 : v_ad (n_v vs 16) = w_ar ws (n_v vs 0) 140 := congrArg v_ad f7
  rw [ad_16] at f4
  have h4 : v_iv (n_v vs 20) = w_ei ws (w_ar ws (n_v vs 0) 140) (v_iv (n_v vs 19)) := f4
  have hK_0_140 : ∀ j : Int, 0 ≤ j → j < 24000 → 0 ≤ w_ei ws (w_ar ws (n_v vs 0) 140) j ∧ w_ei ws (w_ar ws (n_v vs 0) 140) j ≤ 1000000 := fun j h0 h1 => th_el hD hth cr_0_140 (kd := 0) (n := 24000) (m := 24000) (lo := 0) (hi := 1000000) (rs := []) (L := []) rfl (by decide) (j := j.toNat) (by omega)
  have hK_0_143 : ∀ j : Int, 0 ≤ j → j < 6000 → 0 ≤ w_ei ws (w_ar ws (n_v vs 0) 143) j ∧ w_ei ws (w_ar ws (n_v vs 0) 143) j ≤ 1 := fun j h0 h1 => th_el hD hth cr_0_143 (kd := 2) (n := 6000) (m := 6000) (lo := 0) (hi := 1) (rs := []) (L := []) rfl (by decide) (j := j.toNat) (by omega)
  have kz_0_146 : (-2147483648) ≤ w_fi ws (n_v vs 0) 146 ∧ w_fi ws (n_v vs 0) 146 ≤ 2147483647 := tv_rng (th_fd hD hth r0 (g := GG_150) rfl (k := 146) (t := (0, -2147483648, 2147483647, [])) rfl rfl)
  have kz_0_147 : (-2147483648) ≤ w_fi ws (n_v vs 0) 147 ∧ w_fi ws (n_v vs 0) 147 ≤ 2147483647 := tv_rng (th_fd hD hth r0 (g := GG_150) rfl (k := 147) (t := (0, -2147483648, 2147483647, [])) rfl rfl)
  have nf0 : fc_1 PRD (20, [0, 6, 7, 9, 12, 22, 23], [60, 2, 2, 432, 146, 147, 143, 140]) ws (vs) := by
    refine ⟨fun n hn => ?_, ?_⟩
    · have hn : n ∈ [0, 6, 7, 9, 12, 22, 23] := hn
      rw [hl]
      simp only [List.mem_cons, List.not_mem_nil, or_false] at hn
      show n < 24; omega
    · show BB3 (w_fi ws (n_v vs 0) 146) (w_fi ws (n_v vs 0) 147) (w_ei ws (w_ar ws (n_v vs 0) 143)) (w_ei ws (w_ar ws (n_v vs 0) 140)) (v_iv (n_v vs 6)) (v_iv (n_v vs 7)) (v_iv (n_v vs 9)) (v_iv (n_v vs 12)) (v_iv (n_v vs 22)) (v_iv (n_v vs 23))
      exact vc_Mo_bendsBecome_21_0 (v_iv (n_v vs 3)) (v_iv (n_v vs 5)) (v_iv (n_v vs 6)) (v_iv (n_v vs 7)) (v_iv (n_v vs 9)) (v_iv (n_v vs 10)) (v_iv (n_v vs 11)) (v_iv (n_v vs 12)) (v_iv (n_v vs 13)) (v_iv (n_v vs 14)) (v_iv (n_v vs 15)) (v_iv (n_v vs 17)) (v_iv (n_v vs 18)) (v_iv (n_v vs 19)) (v_iv (n_v vs 20)) (v_iv (n_v vs 21)) (v_iv (n_v vs 22)) (v_iv (n_v vs 23)) (w_ei ws (w_ar ws (n_v vs 0) 140)) (w_ei ws (w_ar ws (n_v vs 0) 143)) (w_fi ws (n_v vs 0) 146) (w_fi ws (n_v vs 0) 147) k3 k5 k6 k7 k9 k10 k11 k12 k13 k14 k15 k17 k18 k19 k20 k21 k22 k23 d0 d1 d2 d3 d4 d5 d6 d7 d8 d9 f0 f1 f2 f3 h4 f5 f6 f8 f9 f10 f11 f12 f13 f14 f15 f16 f17 f18 f19 f20 f21 f22 f23 hK_0_140 hK_0_143 kz_0_146 kz_0_147
  refine ⟨(fun _ h => (by cases h)), [], trivial, ?_, (fun _ h => (by cases h))⟩
  rw [List.append_nil]
  exact List.forall_mem_cons.mpr ⟨⟨show (20 : Nat) < 100 from by decide, nf0⟩, (fun _ h => (by cases h))⟩
set_option maxHeartbeats 4000000 in
theorem vc_Mo_bendsBecome_22_0 (x3 : Int) (x5 : Int) (x6 : Int) (x7 : Int) (x9 : Int) (x10 : Int) (x11 : Int) (x12 : Int) (x13 : Int) (x14 : Int) (x15 : Int) (x17 : Int) (x18 : Int) (x19 : Int) (x20 : Int) (x21 : Int) (x22 : Int) (costOf_0 : Int → Int) (barredPoint_0 : Int → Int) (wide_0 : Int) (tall_0 : Int) (k3 : 0 ≤ x3 ∧ x3 ≤ 5999) (k5 : 0 ≤ x5 ∧ x5 ≤ 2147483647) (k6 : 0 ≤ x6 ∧ x6 ≤ 5999) (k7 : 0 ≤ x7 ∧ x7 ≤ 3) (k9 : 0 ≤ x9 ∧ x9 ≤ 1000000) (k10 : (-1) ≤ x10 ∧ x10 ≤ 3) (k11 : 0 ≤ x11 ∧ x11 ≤ 999999) (k12 : 0 ≤ x12 ∧ x12 ≤ 3) (k13 : (-2) ≤ x13 ∧ x13 ≤ 1000000) (k14 : 0 ≤ x14 ∧ x14 ≤ 5999) (k15 : 1 ≤ x15 ∧ x15 ≤ 1) (k17 : 4 ≤ x17 ∧ x17 ≤ 4) (k18 : 0 ≤ x18 ∧ x18 ≤ 23996) (k19 : 0 ≤ x19 ∧ x19 ≤ 23999) (k20 : 0 ≤ x20 ∧ x20 ≤ 1000000) (k21 : (-1) ≤ x21 ∧ x21 ≤ 999999) (k22 : (-1) ≤ x22 ∧ x22 ≤ 2) (d0 : x12 + (-1) ≤ x22 ∧ x22 ≤ x12 + (-1)) (d1 : x7 + (-1) ≤ x22 ∧ x22 ≤ x7 + (-1)) (d2 : x9 + (-1) ≤ x21 ∧ x21 ≤ x9 + (-1)) (d3 : x12 + 0 ≤ x19 ∧ x19 ≤ x12 + 23996) (d4 : x7 + 0 ≤ x19 ∧ x19 ≤ x7 + 23996) (d5 : x18 + 0 ≤ x19 ∧ x19 ≤ x18 + 3) (d6 : x7 + 0 ≤ x12 ∧ x12 ≤ x7 + 0) (d7 : x9 + (-4294967296) ≤ x10 ∧ x10 ≤ x9 + 2) (d8 : x9 + (-4294967296) ≤ x11 ∧ x11 ≤ x9 + 0) (f0 : x22 = x12 + (-1)) (f1 : x20 ≠ x21) (f2 : x21 = x9 - x15) (h3 : x20 = costOf_0 (x19)) (f4 : x19 = x18 + x12) (f5 : x18 = 4 * x14) (f7 : 0 ≤ x14) (f8 : x12 = x7) (f9 : STQ (wide_0) (tall_0) (barredPoint_0) (x6) (x12) (x14)) (f10 : ((-1) ≤ x14) ∧ ((x14 + 1) ≤ (wide_0 * tall_0))) (f11 : 0 ≤ x12) (f12 : GRX (wide_0) (tall_0)) (f13 : RTV (wide_0) (tall_0) (barredPoint_0) (costOf_0) (x3)) (f14 : (0 ≤ x3) ∧ ((x3 + 1) ≤ (wide_0 * tall_0))) (f15 : BB2 (wide_0) (tall_0) (barredPoint_0) (costOf_0) (x6) (x7) (x9)) (f16 : (0 ≤ x6) ∧ ((x6 + 1) ≤ (wide_0 * tall_0))) (f17 : (x5 + x9) ≤ 1000000) (f18 : 0 ≤ x5) (f19 : x6 ≠ x3) (f20 : BB3 (wide_0) (tall_0) (barredPoint_0) (costOf_0) (x6) (x7) (x9) (x10) (x11) (x12)) (f21 : (0 ≤ x9) ∧ (x9 ≤ x13)) (f22 : (-1) * x13 + 0 ≤ (-1)) (hK_0_140 : ∀ j : Int, 0 ≤ j → j < 24000 → 0 ≤ costOf_0 j ∧ costOf_0 j ≤ 1000000) (hK_0_143 : ∀ j : Int, 0 ≤ j → j < 6000 → 0 ≤ barredPoint_0 j ∧ barredPoint_0 j ≤ 1) (kz_0_146 : (-2147483648) ≤ wide_0 ∧ wide_0 ≤ 2147483647) (kz_0_147 : (-2147483648) ≤ tall_0 ∧ tall_0 ≤ 2147483647) : BB3 (wide_0) (tall_0) (barredPoint_0) (costOf_0) (x6) (x7) (x9) (x10) (x11) (x22) := by
  first
    | exact bb3_start (by omega) (by omega)
    | exact bb3_skip (w := x15) (x := x14) (v := x14) ‹BB3 _ _ _ _ _ _ _ _ _ _› (by omega) ‹STQ _ _ _ _ _ _› (by omega) (Or.inl (by omega))
    | exact bb3_skip (w := 1) (x := x14) (v := x14) ‹BB3 _ _ _ _ _ _ _ _ _ _› (by omega) ‹STQ _ _ _ _ _ _› (Or.inl ⟨by omega, rfl⟩) (Or.inl (by omega))
    | exact bb3_skip (w := 3) (x := x14) (v := x14) ‹BB3 _ _ _ _ _ _ _ _ _ _› (by omega) ‹STQ _ _ _ _ _ _› (Or.inr ⟨by omega, rfl⟩) (Or.inl (by omega))
    | exact bb3_skip (w := x15) (x := x19) (v := x20) ‹BB3 _ _ _ _ _ _ _ _ _ _› (by omega) ‹STQ _ _ _ _ _ _› (by omega) (Or.inr ⟨by omega, by assumption, by omega⟩)
    | exact bb3_take (q := x14) (x := x19) (v := x20) (w := x15) ‹STQ _ _ _ _ _ _› (by omega) (by omega) (by omega) (by omega) (by assumption) (by omega) (by omega) (by omega) (by omega)
    | sorry
def o_Mo_bendsBecome_22 : or_T := (127, 23, [(0, (2, 0, 0, [150])), (3, (0, 0, 5999, [])), (5, (0, 0, 2147483647, [])), (6, (0, 0, 5999, [])), (7, (0, 0, 3, [])), (9, (0, 0, 1000000, [])), (10, (0, -1, 3, [])), (11, (0, 0, 999999, [])), (12, (0, 0, 3, [])), (13, (0, -2, 1000000, [])), (14, (0, 0, 5999, [])), (15, (0, 1, 1, [])), (16, (2, 0, 0, [251])), (17, (0, 4, 4, [])), (18, (0, 0, 23996, [])), (19, (0, 0, 23999, [])), (20, (0, 0, 1000000, [])), (21, (0, -1, 999999, [])), (22, (0, -1, 2, []))], [(6, [22, 12], [-1]), (7, [20, 21], [1]), (2, [21, 9, 15], []), (10, [20, 16, 19], []), (1, [19, 18, 12], []), (3, [18, 17, 14], []), (9, [16, 0], [140]), (8, [14], [3]), (7, [12, 7], [0]), (20, [0, 6, 12, 14], [60, 2, 1, 429, 146, 147, 143]), (20, [14, 0], [50, 2, 0, 1146, 1147, 2, 6, 0, 2, 0, -1, 1, 0, 0, 6, 4, 2, 1, 0, 0, 1, 6, 3, 2, 1, 146, 2, 1, 147]), (8, [12], [3]), (20, [0], [60, 2, 0, 418, 146, 147]), (20, [0, 3], [60, 2, 2, 428, 146, 147, 143, 140]), (20, [3, 0], [50, 2, 0, 1146, 1147, 2, 6, 0, 2, 0, 0, 1, 0, 0, 6, 4, 2, 1, 0, 0, 1, 6, 3, 2, 1, 146, 2, 1, 147]), (20, [0, 6, 7, 9], [60, 2, 2, 431, 146, 147, 143, 140]), (20, [6, 0], [50, 2, 0, 1146, 1147, 2, 6, 0, 2, 0, 0, 1, 0, 0, 6, 4, 2, 1, 0, 0, 1, 6, 3, 2, 1, 146, 2, 1, 147]), (20, [5, 9], [50, 0, 0, 0, 6, 4, 2, 1, 0, 1, 1, 0, 1000000]), (20, [5], [50, 0, 0, 0, 2, 0, 0, 1, 0]), (20, [6, 3], [50, 0, 0, 7, 2, 1, 0, 1, 1]), (20, [0, 6, 7, 9, 10, 11, 12], [60, 2, 2, 432, 146, 147, 143, 140]), (20, [9, 13], [50, 0, 0, 2, 6, 0, 2, 0, 0, 1, 0, 0, 2, 1, 0, 1, 1]), (23, [13], [-1, -1])], [], [], [(20, [0, 6, 7, 9, 10, 11, 22], [60, 2, 2, 432, 146, 147, 143, 140])], [], [(22, 12, -1, -1), (22, 7, -1, -1), (21, 9, -1, -1), (19, 12, 0, 23996), (19, 7, 0, 23996), (19, 18, 0, 3), (12, 7, 0, 0), (10, 9, -4294967296, 2), (11, 9, -4294967296, 0)])
theorem oo_Mo_bendsBecome_22 {kA : Nat → ClassId} : or_ok PRD kA GG o_Mo_bendsBecome_22 := by
  intro A ta ws vs hD hth hl hk hds hf
  have hl : vs.length = 23 := hl
  have hk : ∀ q ∈ ([(0, (2, 0, 0, [150])), (3, (0, 0, 5999, [])), (5, (0, 0, 2147483647, [])), (6, (0, 0, 5999, [])), (7, (0, 0, 3, [])), (9, (0, 0, 1000000, [])), (10, (0, -1, 3, [])), (11, (0, 0, 999999, [])), (12, (0, 0, 3, [])), (13, (0, -2, 1000000, [])), (14, (0, 0, 5999, [])), (15, (0, 1, 1, [])), (16, (2, 0, 0, [251])), (17, (0, 4, 4, [])), (18, (0, 0, 23996, [])), (19, (0, 0, 23999, [])), (20, (0, 0, 1000000, [])), (21, (0, -1, 999999, [])), (22, (0, -1, 2, []))] : List (Nat × tv_T)), tv_ok ta q.2 (n_v vs q.1) := hk
  obtain ⟨t0, hk⟩ := List.forall_mem_cons.mp hk
  have t0 : tv_ok ta (2, 0, 0, [150]) (n_v vs 0) := t0
  have r0 : ta (v_ad (n_v vs 0)) = some 150 := tv_rg t0
  obtain ⟨t3, hk⟩ := List.forall_mem_cons.mp hk
  have t3 : tv_ok ta (0, 0, 5999, []) (n_v vs 3) := t3
  have k3 : 0 ≤ v_iv (n_v vs 3) ∧ v_iv (n_v vs 3) ≤ 5999 := tv_rng t3
  obtain ⟨t5, hk⟩ := List.forall_mem_cons.mp hk
  have t5 : tv_ok ta (0, 0, 2147483647, []) (n_v vs 5) := t5
  have k5 : 0 ≤ v_iv (n_v vs 5) ∧ v_iv (n_v vs 5) ≤ 2147483647 := tv_rng t5
  obtain ⟨t6, hk⟩ := List.forall_mem_cons.mp hk
  have t6 : tv_ok ta (0, 0, 5999, []) (n_v vs 6) := t6
  have k6 : 0 ≤ v_iv (n_v vs 6) ∧ v_iv (n_v vs 6) ≤ 5999 := tv_rng t6
  obtain ⟨t7, hk⟩ := List.forall_mem_cons.mp hk
  have t7 : tv_ok ta (0, 0, 3, []) (n_v vs 7) := t7
  have k7 : 0 ≤ v_iv (n_v vs 7) ∧ v_iv (n_v vs 7) ≤ 3 := tv_rng t7
  obtain ⟨t9, hk⟩ := List.forall_mem_cons.mp hk
  have t9 : tv_ok ta (0, 0, 1000000, []) (n_v vs 9) := t9
  have k9 : 0 ≤ v_iv (n_v vs 9) ∧ v_iv (n_v vs 9) ≤ 1000000 := tv_rng t9
  obtain ⟨t10, hk⟩ := List.forall_mem_cons.mp hk
  have t10 : tv_ok ta (0, -1, 3, []) (n_v vs 10) := t10
  have k10 : (-1) ≤ v_iv (n_v vs 10) ∧ v_iv (n_v vs 10) ≤ 3 := tv_rng t10
  obtain ⟨t11, hk⟩ := List.forall_mem_cons.mp hk
  have t11 : tv_ok ta (0, 0, 999999, []) (n_v vs 11) := t11
  have k11 : 0 ≤ v_iv (n_v vs 11) ∧ v_iv (n_v vs 11) ≤ 999999 := tv_rng t11
  obtain ⟨t12, hk⟩ := List.forall_mem_cons.mp hk
  have t12 : tv_ok ta (0, 0, 3, []) (n_v vs 12) := t12
  have k12 : 0 ≤ v_iv (n_v vs 12) ∧ v_iv (n_v vs 12) ≤ 3 := tv_rng t12
  obtain ⟨t13, hk⟩ := List.forall_mem_cons.mp hk
  have t13 : tv_ok ta (0, -2, 1000000, []) (n_v vs 13) := t13
  have k13 : (-2) ≤ v_iv (n_v vs 13) ∧ v_iv (n_v vs 13) ≤ 1000000 := tv_rng t13
  obtain ⟨t14, hk⟩ := List.forall_mem_cons.mp hk
  have t14 : tv_ok ta (0, 0, 5999, []) (n_v vs 14) := t14
  have k14 : 0 ≤ v_iv (n_v vs 14) ∧ v_iv (n_v vs 14) ≤ 5999 := tv_rng t14
  obtain ⟨t15, hk⟩ := List.forall_mem_cons.mp hk
  have t15 : tv_ok ta (0, 1, 1, []) (n_v vs 15) := t15
  have k15 : 1 ≤ v_iv (n_v vs 15) ∧ v_iv (n_v vs 15) ≤ 1 := tv_rng t15
  obtain ⟨t16, hk⟩ := List.forall_mem_cons.mp hk
  have t16 : tv_ok ta (2, 0, 0, [251]) (n_v vs 16) := t16
  have r16 : ta (v_ad (n_v vs 16)) = some 251 := tv_rg t16
  obtain ⟨t17, hk⟩ := List.forall_mem_cons.mp hk
  have t17 : tv_ok ta (0, 4, 4, []) (n_v vs 17) := t17
  have k17 : 4 ≤ v_iv (n_v vs 17) ∧ v_iv (n_v vs 17) ≤ 4 := tv_rng t17
  obtain ⟨t18, hk⟩ := List.forall_mem_cons.mp hk
  have t18 : tv_ok ta (0, 0, 23996, []) (n_v vs 18) := t18
  have k18 : 0 ≤ v_iv (n_v vs 18) ∧ v_iv (n_v vs 18) ≤ 23996 := tv_rng t18
  obtain ⟨t19, hk⟩ := List.forall_mem_cons.mp hk
  have t19 : tv_ok ta (0, 0, 23999, []) (n_v vs 19) := t19
  have k19 : 0 ≤ v_iv (n_v vs 19) ∧ v_iv (n_v vs 19) ≤ 23999 := tv_rng t19
  obtain ⟨t20, hk⟩ := List.forall_mem_cons.mp hk
  have t20 : tv_ok ta (0, 0, 1000000, []) (n_v vs 20) := t20
  have k20 : 0 ≤ v_iv (n_v vs 20) ∧ v_iv (n_v vs 20) ≤ 1000000 := tv_rng t20
  obtain ⟨t21, hk⟩ := List.forall_mem_cons.mp hk
  have t21 : tv_ok ta (0, -1, 999999, []) (n_v vs 21) := t21
  have k21 : (-1) ≤ v_iv (n_v vs 21) ∧ v_iv (n_v vs 21) ≤ 999999 := tv_rng t21
  obtain ⟨t22, hk⟩ := List.forall_mem_cons.mp hk
  have t22 : tv_ok ta (0, -1, 2, []) (n_v vs 22) := t22
  have k22 : (-1) ≤ v_iv (n_v vs 22) ∧ v_iv (n_v vs 22) ≤ 2 := tv_rng t22
  have hds : ∀ q ∈ ([(22, 12, -1, -1), (22, 7, -1, -1), (21, 9, -1, -1), (19, 12, 0, 23996), (19, 7, 0, 23996), (19, 18, 0, 3), (12, 7, 0, 0), (10, 9, -4294967296, 2), (11, 9, -4294967296, 0)] : List of_T), n_iv vs q.2.1 + q.2.2.1 ≤ n_iv vs q.1 ∧ n_iv vs q.1 ≤ n_iv vs q.2.1 + q.2.2.2 := hds
  obtain ⟨d0, hds⟩ := List.forall_mem_cons.mp hds
  have d0 : v_iv (n_v vs 12) + (-1) ≤ v_iv (n_v vs 22) ∧ v_iv (n_v vs 22) ≤ v_iv (n_v vs 12) + (-1) := d0
  obtain ⟨d1, hds⟩ := List.forall_mem_cons.mp hds
  have d1 : v_iv (n_v vs 7) + (-1) ≤ v_iv (n_v vs 22) ∧ v_iv (n_v vs 22) ≤ v_iv (n_v vs 7) + (-1) := d1
  obtain ⟨d2, hds⟩ := List.forall_mem_cons.mp hds
  have d2 : v_iv (n_v vs 9) + (-1) ≤ v_iv (n_v vs 21) ∧ v_iv (n_v vs 21) ≤ v_iv (n_v vs 9) + (-1) := d2
  obtain ⟨d3, hds⟩ := List.forall_mem_cons.mp hds
  have d3 : v_iv (n_v vs 12) + 0 ≤ v_iv (n_v vs 19) ∧ v_iv (n_v vs 19) ≤ v_iv (n_v vs 12) + 23996 := d3
  obtain ⟨d4, hds⟩ := List.forall_mem_cons.mp hds
  have d4 : v_iv (n_v vs 7) + 0 ≤ v_iv (n_v vs 19) ∧ v_iv (n_v vs 19) ≤ v_iv (n_v vs 7) + 23996 := d4
  obtain ⟨d5, hds⟩ := List.forall_mem_cons.mp hds
  have d5 : v_iv (n_v vs 18) + 0 ≤ v_iv (n_v vs 19) ∧ v_iv (n_v vs 19) ≤ v_iv (n_v vs 18) + 3 := d5
  obtain ⟨d6, hds⟩ := List.forall_mem_cons.mp hds
  have d6 : v_iv (n_v vs 7) + 0 ≤ v_iv (n_v vs 12) ∧ v_iv (n_v vs 12) ≤ v_iv (n_v vs 7) + 0 := d6
  obtain ⟨d7, hds⟩ := List.forall_mem_cons.mp hds
  have d7 : v_iv (n_v vs 9) + (-4294967296) ≤ v_iv (n_v vs 10) ∧ v_iv (n_v vs 10) ≤ v_iv (n_v vs 9) + 2 := d7
  obtain ⟨d8, hds⟩ := List.forall_mem_cons.mp hds
  have d8 : v_iv (n_v vs 9) + (-4294967296) ≤ v_iv (n_v vs 11) ∧ v_iv (n_v vs 11) ≤ v_iv (n_v vs 9) + 0 := d8
  have hf : fc_ok PRD [(6, [22, 12], [-1]), (7, [20, 21], [1]), (2, [21, 9, 15], []), (10, [20, 16, 19], []), (1, [19, 18, 12], []), (3, [18, 17, 14], []), (9, [16, 0], [140]), (8, [14], [3]), (7, [12, 7], [0]), (20, [0, 6, 12, 14], [60, 2, 1, 429, 146, 147, 143]), (20, [14, 0], [50, 2, 0, 1146, 1147, 2, 6, 0, 2, 0, -1, 1, 0, 0, 6, 4, 2, 1, 0, 0, 1, 6, 3, 2, 1, 146, 2, 1, 147]), (8, [12], [3]), (20, [0], [60, 2, 0, 418, 146, 147]), (20, [0, 3], [60, 2, 2, 428, 146, 147, 143, 140]), (20, [3, 0], [50, 2, 0, 1146, 1147, 2, 6, 0, 2, 0, 0, 1, 0, 0, 6, 4, 2, 1, 0, 0, 1, 6, 3, 2, 1, 146, 2, 1, 147]), (20, [0, 6, 7, 9], [60, 2, 2, 431, 146, 147, 143, 140]), (20, [6, 0], [50, 2, 0, 1146, 1147, 2, 6, 0, 2, 0, 0, 1, 0, 0, 6, 4, 2, 1, 0, 0, 1, 6, 3, 2, 1, 146, 2, 1, 147]), (20, [5, 9], [50, 0, 0, 0, 6, 4, 2, 1, 0, 1, 1, 0, 1000000]), (20, [5], [50, 0, 0, 0, 2, 0, 0, 1, 0]), (20, [6, 3], [50, 0, 0, 7, 2, 1, 0, 1, 1]), (20, [0, 6, 7, 9, 10, 11, 12], [60, 2, 2, 432, 146, 147, 143, 140]), (20, [9, 13], [50, 0, 0, 2, 6, 0, 2, 0, 0, 1, 0, 0, 2, 1, 0, 1, 1]), (23, [13], [-1, -1])] ta ws vs := hf
  obtain ⟨f0, hf⟩ := fc_un (show (6 : Nat) < 100 from by decide) hf
  have f0 : v_iv (n_v vs 22) = v_iv (n_v vs 12) + (-1) := f0
  obtain ⟨f1, hf⟩ := fc_un (show (7 : Nat) < 100 from by decide) hf
  have f1 : v_iv (n_v vs 20) ≠ v_iv (n_v vs 21) := f1
  obtain ⟨f2, hf⟩ := fc_un (show (2 : Nat) < 100 from by decide) hf
  have f2 : v_iv (n_v vs 21) = v_iv (n_v vs 9) - v_iv (n_v vs 15) := f2
  obtain ⟨f3, hf⟩ := fc_un (show (10 : Nat) < 100 from by decide) hf
  have f3 : v_iv (n_v vs 20) = w_el ws (v_ad (n_v vs 16)) (v_iv (n_v vs 19)).toNat := f3
  obtain ⟨f4, hf⟩ := fc_un (show (1 : Nat) < 100 from by decide) hf
  have f4 : v_iv (n_v vs 19) = v_iv (n_v vs 18) + v_iv (n_v vs 12) := f4
  obtain ⟨f5, hf⟩ := fc_un (show (3 : Nat) < 100 from by decide) hf
  have f5 : v_iv (n_v vs 18) = v_iv (n_v vs 17) * v_iv (n_v vs 14) := f5
  rw [show v_iv (n_v vs 17) = 4 from by omega] at f5
  obtain ⟨f6, hf⟩ := fc_un (show (9 : Nat) < 100 from by decide) hf
  have f6 : n_v vs 16 = w_fd ws (v_ad (n_v vs 0)) 140 := f6
  obtain ⟨f7, hf⟩ := fc_un (show (8 : Nat) < 100 from by decide) hf
  have f7 : 0 ≤ v_iv (n_v vs 14) := f7
  obtain ⟨f8, hf⟩ := fc_un (show (7 : Nat) < 100 from by decide) hf
  have f8 : v_iv (n_v vs 12) = v_iv (n_v vs 7) := f8
  obtain ⟨f9, hf⟩ := fc_un (show (20 : Nat) < 100 from by decide) hf
  have f9 : STQ (w_fi ws (n_v vs 0) 146) (w_fi ws (n_v vs 0) 147) (w_ei ws (w_ar ws (n_v vs 0) 143)) (v_iv (n_v vs 6)) (v_iv (n_v vs 12)) (v_iv (n_v vs 14)) := f9
  obtain ⟨f10, hf⟩ := fc_un (show (20 : Nat) < 100 from by decide) hf
  have f10 : ((-1) ≤ v_iv (n_v vs 14)) ∧ ((v_iv (n_v vs 14) + 1) ≤ (w_fi ws (n_v vs 0) 146 * w_fi ws (n_v vs 0) 147)) := f10
  obtain ⟨f11, hf⟩ := fc_un (show (8 : Nat) < 100 from by decide) hf
  have f11 : 0 ≤ v_iv (n_v vs 12) := f11
  obtain ⟨f12, hf⟩ := fc_un (show (20 : Nat) < 100 from by decide) hf
  have f12 : GRX (w_fi ws (n_v vs 0) 146) (w_fi ws (n_v vs 0) 147) := f12
  obtain ⟨f13, hf⟩ := fc_un (show (20 : Nat) < 100 from by decide) hf
  have f13 : RTV (w_fi ws (n_v vs 0) 146) (w_fi ws (n_v vs 0) 147) (w_ei ws (w_ar ws (n_v vs 0) 143)) (w_ei ws (w_ar ws (n_v vs 0) 140)) (v_iv (n_v vs 3)) := f13
  obtain ⟨f14, hf⟩ := fc_un (show (20 : Nat) < 100 from by decide) hf
  have f14 : (0 ≤ v_iv (n_v vs 3)) ∧ ((v_iv (n_v vs 3) + 1) ≤ (w_fi ws (n_v vs 0) 146 * w_fi ws (n_v vs 0) 147)) := f14
  obtain ⟨f15, hf⟩ := fc_un (show (20 : Nat) < 100 from by decide) hf
  have f15 : BB2 (w_fi ws (n_v vs 0) 146) (w_fi ws (n_v vs 0) 147) (w_ei ws (w_ar ws (n_v vs 0) 143)) (w_ei ws (w_ar ws (n_v vs 0) 140)) (v_iv (n_v vs 6)) (v_iv (n_v vs 7)) (v_iv (n_v vs 9)) := f15
  obtain ⟨f16, hf⟩ := fc_un (show (20 : Nat) < 100 from by decide) hf
  have f16 : (0 ≤ v_iv (n_v vs 6)) ∧ ((v_iv (n_v vs 6) + 1) ≤ (w_fi ws (n_v vs 0) 146 * w_fi ws (n_v vs 0) 147)) := f16
  obtain ⟨f17, hf⟩ := fc_un (show (20 : Nat) < 100 from by decide) hf
  have f17 : (v_iv (n_v vs 5) + v_iv (n_v vs 9)) ≤ 1000000 := f17
  obtain ⟨f18, hf⟩ := fc_un (show (20 : Nat) < 100 from by decide) hf
  have f18 : 0 ≤ v_iv (n_v vs 5) := f18
  obtain ⟨f19, hf⟩ := fc_un (show (20 : Nat) < 100 from by decide) hf
  have f19 : v_iv (n_v vs 6) ≠ v_iv (n_v vs 3) := f19
  obtain ⟨f20, hf⟩ := fc_un (show (20 : Nat) < 100 from by decide) hf
  have f20 : BB3 (w_fi ws (n_v vs 0) 146) (w_fi ws (n_v vs 0) 147) (w_ei ws (w_ar ws (n_v vs 0) 143)) (w_ei ws (w_ar ws (n_v vs 0) 140)) (v_iv (n_v vs 6)) (v_iv (n_v vs 7)) (v_iv (n_v vs 9)) (v_iv (n_v vs 10)) (v_iv (n_v vs 11)) (v_iv (n_v vs 12)) := f20
  obtain ⟨f21, hf⟩ := fc_un (show (20 : Nat) < 100 from by decide) hf
  have f21 : (0 ≤ v_iv (n_v vs 9)) ∧ (v_iv (n_v vs 9) ≤ v_iv (n_v vs 13)) := f21
  obtain ⟨f22, hf⟩ := fc_un (show (23 : Nat) < 100 from by decide) hf
  have f22 : (-1) * v_iv (n_v vs 13) + 0 ≤ (-1) := f22
  have cr_0_140 : ta (w_ar ws (n_v vs 0) 140) = some 251 := tv_rg (th_fd hD hth r0 (g := GG_150) rfl (k := 140) (t := (2, 0, 0, [251])) rfl rfl)
  have cr_0_143 : ta (w_ar ws (n_v vs 0) 143) = some 254 := tv_rg (th_fd hD hth r0 (g := GG_150) rfl (k := 143) (t := (2, 0, 0, [254])) rfl rfl)
  have ad_16 : v_ad (n_v vs 16) = w_ar ws (n_v vs 0) 140 := congrArg v_ad f6
  rw [ad_16] at f3
  have h3 : v_iv (n_v vs 20) = w_ei ws (w_ar ws (n_v vs 0) 140) (v_iv (n_v vs 19)) := f3
  have hK_0_140 : ∀ j : Int, 0 ≤ j → j < 24000 → 0 ≤ w_ei ws (w_ar ws (n_v vs 0) 140) j ∧ w_ei ws (w_ar ws (n_v vs 0) 140) j ≤ 1000000 := fun j h0 h1 => th_el hD hth cr_0_140 (kd := 0) (n := 24000) (m := 24000) (lo := 0) (hi := 1000000) (rs := []) (L := []) rfl (by decide) (j := j.toNat) (by omega)
  have hK_0_143 : ∀ j : Int, 0 ≤ j → j < 6000 → 0 ≤ w_ei ws (w_ar ws (n_v vs 0) 143) j ∧ w_ei ws (w_ar ws (n_v vs 0) 143) j ≤ 1 := fun j h0 h1 => th_el hD hth cr_0_143 (kd := 2) (n := 6000) (m := 6000) (lo := 0) (hi := 1) (rs := []) (L := []) rfl (by decide) (j := j.toNat) (by omega)
  have kz_0_146 : (-2147483648) ≤ w_fi ws (n_v vs 0) 146 ∧ w_fi ws (n_v vs 0) 146 ≤ 2147483647 := tv_rng (th_fd hD hth r0 (g := GG_150) rfl (k := 146) (t := (0, -2147483648, 2147483647, [])) rfl rfl)
  have kz_0_147 : (-2147483648) ≤ w_fi ws (n_v vs 0) 147 ∧ w_fi ws (n_v vs 0) 147 ≤ 2147483647 := tv_rng (th_fd hD hth r0 (g := GG_150) rfl (k := 147) (t := (0, -2147483648, 2147483647, [])) rfl rfl)
  have nf0 : fc_1 PRD (20, [0, 6, 7, 9, 10, 11, 22], [60, 2, 2, 432, 146, 147, 143, 140]) ws (vs) := by
    refine ⟨fun n hn => ?_, ?_⟩
    · have hn : n ∈ [0, 6, 7, 9, 10, 11, 22] := hn
      rw [hl]
      simp only [List.mem_cons, List.not_mem_nil, or_false] at hn
      show n < 23; omega
    · show BB3 (w_fi ws (n_v vs 0) 146) (w_fi ws (n_v vs 0) 147) (w_ei ws (w_ar ws (n_v vs 0) 143)) (w_ei ws (w_ar ws (n_v vs 0) 140)) (v_iv (n_v vs 6)) (v_iv (n_v vs 7)) (v_iv (n_v vs 9)) (v_iv (n_v vs 10)) (v_iv (n_v vs 11)) (v_iv (n_v vs 22))
      exact vc_Mo_bendsBecome_22_0 (v_iv (n_v vs 3)) (v_iv (n_v vs 5)) (v_iv (n_v vs 6)) (v_iv (n_v vs 7)) (v_iv (n_v vs 9)) (v_iv (n_v vs 10)) (v_iv (n_v vs 11)) (v_iv (n_v vs 12)) (v_iv (n_v vs 13)) (v_iv (n_v vs 14)) (v_iv (n_v vs 15)) (v_iv (n_v vs 17)) (v_iv (n_v vs 18)) (v_iv (n_v vs 19)) (v_iv (n_v vs 20)) (v_iv (n_v vs 21)) (v_iv (n_v vs 22)) (w_ei ws (w_ar ws (n_v vs 0) 140)) (w_ei ws (w_ar ws (n_v vs 0) 143)) (w_fi ws (n_v vs 0) 146) (w_fi ws (n_v vs 0) 147) k3 k5 k6 k7 k9 k10 k11 k12 k13 k14 k15 k17 k18 k19 k20 k21 k22 d0 d1 d2 d3 d4 d5 d6 d7 d8 f0 f1 f2 h3 f4 f5 f7 f8 f9 f10 f11 f12 f13 f14 f15 f16 f17 f18 f19 f20 f21 f22 hK_0_140 hK_0_143 kz_0_146 kz_0_147
  refine ⟨(fun _ h => (by cases h)), [], trivial, ?_, (fun _ h => (by cases h))⟩
  rw [List.append_nil]
  exact List.forall_mem_cons.mpr ⟨⟨show (20 : Nat) < 100 from by decide, nf0⟩, (fun _ h => (by cases h))⟩
def n_Mo_bendsBecome_an : List an_T := [(22, [(0, (2, 0, 0, [150])), (1, (0, 0, 47, [])), (2, (0, 0, 5999, [])), (3, (0, 0, 5999, [])), (4, (0, 1, 1, [])), (5, (0, 0, 0, [])), (6, (0, 0, 5999, [])), (7, (0, -1, 3, [])), (8, (0, 1, 1000001, [])), (9, (0, 0, 4, []))], [], (0, 0), [(0, 0, 99978), (1, 9, 4), (0, 0, 100000), (0, 0, 0), (0, 0, 0)], [(1, 2, -1000000000000, 47), (1, 3, -1000000000000, 47), (1, 4, -1000000000000, 46), (1, 5, -1000000000000, 47), (1, 6, -1000000000000, 47), (1, 7, -1000000000000, 48), (1, 8, -1000000000000, 46), (1, 9, -1000000000000, 47), (2, 1, -1000000000000, 5999), (2, 3, -1000000000000, 5999), (2, 4, -1000000000000, 5998), (2, 5, -1000000000000, 5999), (2, 6, -1000000000000, 0), (2, 7, -1000000000000, 6000), (2, 8, -1000000000000, 5998), (2, 9, -1000000000000, 5999), (3, 1, -1000000000000, 5999), (3, 2, -1000000000000, 5999), (3, 4, -1000000000000, 5998), (3, 5, -1000000000000, 5999), (3, 6, -1000000000000, 5999), (3, 7, -1000000000000, 6000), (3, 8, -1000000000000, 5998), (3, 9, -1000000000000, 5999), (4, 1, -1000000000000, 1), (4, 2, -1000000000000, 1), (4, 3, -1000000000000, 1), (4, 5, -1000000000000, 1), (4, 6, -1000000000000, 1), (4, 7, -1000000000000, 2), (4, 8, -1000000000000, 0), (4, 9, -1000000000000, 1), (5, 1, -1000000000000, 0), (5, 2, -1000000000000, 0), (5, 3, -1000000000000, 0), (5, 4, -1000000000000, -1), (5, 6, -1000000000000, 0), (5, 7, -1000000000000, 1), (5, 8, -1000000000000, -1), (5, 9, -1000000000000, 0), (6, 1, -1000000000000, 5999), (6, 2, -1000000000000, 0), (6, 3, -1000000000000, 5999), (6, 4, -1000000000000, 5998), (6, 5, -1000000000000, 5999), (6, 7, -1000000000000, 6000), (6, 8, -1000000000000, 5998), (6, 9, -1000000000000, 5999), (7, 9, -1000000000000, -1), (8, 1, -1000000000000, 1000001), (8, 2, -1000000000000, 1000001), (8, 3, -1000000000000, 1000001), (8, 4, -1000000000000, 1000000), (8, 5, -1000000000000, 1000001), (8, 6, -1000000000000, 1000001), (8, 7, -1000000000000, 1000001), (8, 9, -1000000000000, 1000000)], [], [], 0, [], [(20, [0], [60, 2, 0, 418, 146, 147]), (20, [0, 3], [60, 2, 2, 428, 146, 147, 143, 140]), (20, [3, 0], [50, 2, 0, 1146, 1147, 2, 6, 0, 2, 0, 0, 1, 0, 0, 6, 4, 2, 1, 0, 0, 1, 6, 3, 2, 1, 146, 2, 1, 147]), (20, [6, 0], [50, 2, 0, 1146, 1147, 2, 6, 0, 2, 0, 0, 1, 0, 0, 6, 4, 2, 1, 0, 0, 1, 6, 3, 2, 1, 146, 2, 1, 147]), (20, [0, 6, 7, 8, 9], [60, 2, 2, 430, 146, 147, 143, 140]), (20, [5], [50, 0, 0, 1, 2, 1, 0, 0, 0])]), (112, [(0, (2, 0, 0, [150])), (1, (0, 0, 47, [])), (2, (0, 0, 5999, [])), (3, (0, 0, 5999, [])), (4, (0, 1, 1, [])), (5, (0, 0, 2147483647, [])), (6, (0, 0, 5999, [])), (7, (0, 0, 3, [])), (8, (0, 1, 1000001, [])), (9, (0, 0, 1000000, []))], [], (0, 0), [(0, 0, 99888), (2, 10, -2), (0, 0, 100000), (0, 0, 0), (0, 0, 0)], [(1, 2, -1000000000000, 47), (1, 3, -1000000000000, 47), (1, 4, -1000000000000, 46), (1, 5, -1000000000000, 47), (1, 6, -1000000000000, 47), (1, 7, -1000000000000, 47), (1, 8, -1000000000000, 46), (1, 9, -1000000000000, 47), (2, 1, -1000000000000, 5999), (2, 3, -1000000000000, 5999), (2, 4, -1000000000000, 5998), (2, 5, -1000000000000, 5999), (2, 6, -1000000000000, 5999), (2, 7, -1000000000000, 5999), (2, 8, -1000000000000, 5998), (2, 9, -1000000000000, 5999), (3, 1, -1000000000000, 5999), (3, 2, -1000000000000, 5999), (3, 4, -1000000000000, 5998), (3, 5, -1000000000000, 5999), (3, 6, -1000000000000, 5999), (3, 7, -1000000000000, 5999), (3, 8, -1000000000000, 5998), (3, 9, -1000000000000, 5999), (4, 1, -1000000000000, 1), (4, 2, -1000000000000, 1), (4, 3, -1000000000000, 1), (4, 5, -1000000000000, 1), (4, 6, -1000000000000, 1), (4, 7, -1000000000000, 1), (4, 8, -1000000000000, 0), (4, 9, -1000000000000, 1), (6, 1, -1000000000000, 5999), (6, 2, -1000000000000, 5999), (6, 3, -1000000000000, 5999), (6, 4, -1000000000000, 5998), (6, 5, -1000000000000, 5999), (6, 7, -1000000000000, 5999), (6, 8, -1000000000000, 5998), (6, 9, -1000000000000, 5999), (7, 1, -1000000000000, 3), (7, 2, -1000000000000, 3), (7, 3, -1000000000000, 3), (7, 4, -1000000000000, 2), (7, 5, -1000000000000, 3), (7, 6, -1000000000000, 3), (7, 8, -1000000000000, 2), (7, 9, -1000000000000, 3), (8, 1, -1000000000000, 1000001), (8, 2, -1000000000000, 1000001), (8, 3, -1000000000000, 1000001), (8, 4, -1000000000000, 1000000), (8, 5, -1000000000000, 1000001), (8, 6, -1000000000000, 1000001), (8, 7, -1000000000000, 1000001), (8, 9, -1000000000000, 1000001), (9, 1, -1000000000000, 1000000), (9, 2, -1000000000000, 1000000), (9, 3, -1000000000000, 1000000), (9, 4, -1000000000000, 999999), (9, 5, -1000000000000, 1000000), (9, 6, -1000000000000, 1000000), (9, 7, -1000000000000, 1000000), (9, 8, -1000000000000, -1)], [], [], 0, [(0, -2, 1000000, [])], [(20, [0], [60, 2, 0, 418, 146, 147]), (20, [0, 3], [60, 2, 2, 428, 146, 147, 143, 140]), (20, [3, 0], [50, 2, 0, 1146, 1147, 2, 6, 0, 2, 0, 0, 1, 0, 0, 6, 4, 2, 1, 0, 0, 1, 6, 3, 2, 1, 146, 2, 1, 147]), (20, [0, 6, 7, 9], [60, 2, 2, 431, 146, 147, 143, 140]), (20, [6, 0], [50, 2, 0, 1146, 1147, 2, 6, 0, 2, 0, 0, 1, 0, 0, 6, 4, 2, 1, 0, 0, 1, 6, 3, 2, 1, 146, 2, 1, 147]), (20, [5, 9], [50, 0, 0, 0, 6, 4, 2, 1, 0, 1, 1, 0, 1000000]), (20, [5], [50, 0, 0, 0, 2, 0, 0, 1, 0]), (20, [9, 10], [50, 0, 0, 2, 6, 0, 2, 0, 0, 1, 0, 0, 2, 1, 0, 1, 1])]), (127, [(0, (2, 0, 0, [150])), (1, (0, 0, 47, [])), (2, (0, 0, 5999, [])), (3, (0, 0, 5999, [])), (4, (0, 1, 1, [])), (5, (0, 0, 2147483647, [])), (6, (0, 0, 5999, [])), (7, (0, 0, 3, [])), (8, (0, 1, 1000001, [])), (9, (0, 0, 1000000, [])), (10, (0, -1, 3, [])), (11, (0, 0, 999999, [])), (12, (0, -1, 3, []))], [], (0, 0), [(0, 0, 99888), (2, 13, -2), (0, 0, 99873), (2, 12, -1), (0, 0, 100000)], [(1, 2, -1000000000000, 47), (1, 3, -1000000000000, 47), (1, 4, -1000000000000, 46), (1, 5, -1000000000000, 47), (1, 6, -1000000000000, 47), (1, 7, -1000000000000, 47), (1, 8, -1000000000000, 46), (1, 9, -1000000000000, 47), (1, 10, -1000000000000, 48), (1, 11, -1000000000000, 47), (2, 1, -1000000000000, 5999), (2, 3, -1000000000000, 5999), (2, 4, -1000000000000, 5998), (2, 5, -1000000000000, 5999), (2, 6, -1000000000000, 5999), (2, 7, -1000000000000, 5999), (2, 8, -1000000000000, 5998), (2, 9, -1000000000000, 5999), (2, 10, -1000000000000, 6000), (2, 11, -1000000000000, 5999), (3, 1, -1000000000000, 5999), (3, 2, -1000000000000, 5999), (3, 4, -1000000000000, 5998), (3, 5, -1000000000000, 5999), (3, 6, -1000000000000, 5999), (3, 7, -1000000000000, 5999), (3, 8, -1000000000000, 5998), (3, 9, -1000000000000, 5999), (3, 10, -1000000000000, 6000), (3, 11, -1000000000000, 5999), (4, 1, -1000000000000, 1), (4, 2, -1000000000000, 1), (4, 3, -1000000000000, 1), (4, 5, -1000000000000, 1), (4, 6, -1000000000000, 1), (4, 7, -1000000000000, 1), (4, 8, -1000000000000, 0), (4, 9, -1000000000000, 1), (4, 10, -1000000000000, 2), (4, 11, -1000000000000, 1), (6, 1, -1000000000000, 5999), (6, 2, -1000000000000, 5999), (6, 3, -1000000000000, 5999), (6, 4, -1000000000000, 5998), (6, 5, -1000000000000, 5999), (6, 7, -1000000000000, 5999), (6, 8, -1000000000000, 5998), (6, 9, -1000000000000, 5999), (6, 10, -1000000000000, 6000), (6, 11, -1000000000000, 5999), (7, 1, -1000000000000, 3), (7, 2, -1000000000000, 3), (7, 3, -1000000000000, 3), (7, 4, -1000000000000, 2), (7, 5, -1000000000000, 3), (7, 6, -1000000000000, 3), (7, 8, -1000000000000, 2), (7, 9, -1000000000000, 3), (7, 10, -1000000000000, 4), (7, 11, -1000000000000, 3), (8, 1, -1000000000000, 1000001), (8, 2, -1000000000000, 1000001), (8, 3, -1000000000000, 1000001), (8, 4, -1000000000000, 1000000), (8, 5, -1000000000000, 1000001), (8, 6, -1000000000000, 1000001), (8, 7, -1000000000000, 1000001), (8, 9, -1000000000000, 1000001), (8, 10, -1000000000000, 1000002), (8, 11, -1000000000000, 1000001), (9, 1, -1000000000000, 1000000), (9, 2, -1000000000000, 1000000), (9, 3, -1000000000000, 1000000), (9, 4, -1000000000000, 999999), (9, 5, -1000000000000, 1000000), (9, 6, -1000000000000, 1000000), (9, 7, -1000000000000, 1000000), (9, 8, -1000000000000, -1), (9, 10, -1000000000000, 1000001), (9, 11, -1000000000000, 1000000), (10, 1, -1000000000000, 3), (10, 2, -1000000000000, 3), (10, 3, -1000000000000, 3), (10, 4, -1000000000000, 2), (10, 5, -1000000000000, 3), (10, 6, -1000000000000, 3), (10, 7, -1000000000000, 3), (10, 8, -1000000000000, 1), (10, 9, -1000000000000, 2), (10, 11, -1000000000000, 3), (11, 1, -1000000000000, 999999), (11, 2, -1000000000000, 999999), (11, 3, -1000000000000, 999999), (11, 4, -1000000000000, 999998), (11, 5, -1000000000000, 999999), (11, 6, -1000000000000, 999999), (11, 8, -1000000000000, -1), (11, 9, -1000000000000, 0), (12, 1, -1000000000000, 3), (12, 2, -1000000000000, 3), (12, 3, -1000000000000, 3), (12, 4, -1000000000000, 2), (12, 5, -1000000000000, 3), (12, 6, -1000000000000, 3), (12, 7, -1000000000000, 3), (12, 8, -1000000000000, 2), (12, 9, -1000000000000, 3), (12, 10, -1000000000000, 4), (12, 11, -1000000000000, 3)], [], [], 0, [(0, -2, 1000000, [])], [(20, [0], [60, 2, 0, 418, 146, 147]), (20, [0, 3], [60, 2, 2, 428, 146, 147, 143, 140]), (20, [3, 0], [50, 2, 0, 1146, 1147, 2, 6, 0, 2, 0, 0, 1, 0, 0, 6, 4, 2, 1, 0, 0, 1, 6, 3, 2, 1, 146, 2, 1, 147]), (20, [0, 6, 7, 9], [60, 2, 2, 431, 146, 147, 143, 140]), (20, [6, 0], [50, 2, 0, 1146, 1147, 2, 6, 0, 2, 0, 0, 1, 0, 0, 6, 4, 2, 1, 0, 0, 1, 6, 3, 2, 1, 146, 2, 1, 147]), (20, [5, 9], [50, 0, 0, 0, 6, 4, 2, 1, 0, 1, 1, 0, 1000000]), (20, [5], [50, 0, 0, 0, 2, 0, 0, 1, 0]), (20, [6, 3], [50, 0, 0, 7, 2, 1, 0, 1, 1]), (20, [0, 6, 7, 9, 10, 11, 12], [60, 2, 2, 432, 146, 147, 143, 140]), (20, [9, 13], [50, 0, 0, 2, 6, 0, 2, 0, 0, 1, 0, 0, 2, 1, 0, 1, 1]), (23, [13], [-1, -1])]), (310, [(0, (2, 0, 0, [150])), (1, (0, 0, 47, [])), (2, (0, 0, 5999, [])), (3, (0, 0, 5999, [])), (4, (0, 0, 1, [])), (5, (0, 0, 24, [])), (6, (0, 0, 5999, [])), (7, (0, -1, 3, [])), (8, (0, 0, 191, [])), (9, (0, 0, 24, []))], [], (0, 0), [(0, 0, 99690), (1, 9, 24), (0, 0, 100000), (0, 0, 0), (0, 0, 0)], [(1, 2, -1000000000000, 47), (1, 3, -1000000000000, 47), (1, 4, -1000000000000, 47), (1, 5, -1000000000000, 47), (1, 6, -1000000000000, 47), (1, 7, -1000000000000, 48), (1, 8, -1000000000000, 0), (1, 9, -1000000000000, 47), (2, 1, -1000000000000, 5999), (2, 3, -1000000000000, 5999), (2, 4, -1000000000000, 5999), (2, 5, -1000000000000, 5999), (2, 6, -1000000000000, 5999), (2, 7, -1000000000000, 6000), (2, 8, -1000000000000, 5999), (2, 9, -1000000000000, 5999), (3, 1, -1000000000000, 5999), (3, 2, -1000000000000, 5999), (3, 4, -1000000000000, 5999), (3, 5, -1000000000000, 5999), (3, 6, -1000000000000, 5999), (3, 7, -1000000000000, 6000), (3, 8, -1000000000000, 5999), (3, 9, -1000000000000, 5999), (4, 1, -1000000000000, 1), (4, 2, -1000000000000, 1), (4, 3, -1000000000000, 1), (4, 5, -1000000000000, 1), (4, 6, -1000000000000, 1), (4, 7, -1000000000000, 1), (4, 8, -1000000000000, 1), (4, 9, -1000000000000, 1), (6, 1, -1000000000000, 5999), (6, 2, -1000000000000, 5999), (6, 3, -1000000000000, 5999), (6, 4, -1000000000000, 5999), (6, 5, -1000000000000, 5999), (6, 7, -1000000000000, 6000), (6, 8, -1000000000000, 5999), (6, 9, -1000000000000, 5999), (7, 1, -1000000000000, 3), (7, 2, -1000000000000, 3), (7, 3, -1000000000000, 3), (7, 4, -1000000000000, 2), (7, 5, -1000000000000, 3), (7, 6, -1000000000000, 3), (7, 8, -1000000000000, 3), (7, 9, -1000000000000, 3), (8, 1, -1000000000000, 144), (8, 2, -1000000000000, 191), (8, 3, -1000000000000, 191), (8, 4, -1000000000000, 191), (8, 5, -1000000000000, 191), (8, 6, -1000000000000, 191), (8, 7, -1000000000000, 192), (8, 9, -1000000000000, 191), (9, 5, -1000000000000, 0)], [], [], 0, [], [])]
def t_Mo_bendsBecome_ct : ct_L := [(1, 1076, e_Mo_stepTo)]
set_option maxRecDepth 100000 in
theorem c_Mo_bendsBecome {l : Launch} {D : va_G} {kA : Nat → ClassId} (h_Mo_stepTo : ct_ok PRD l D kA GG y_Mo_stepTo z_Mo_stepTo e_Mo_stepTo) : ct_ok PRD l D kA GG y_Mo_bendsBecome z_Mo_bendsBecome e_Mo_bendsBecome := chk_all_ok (FT := [(129, 13, 64), (132, 13, 65), (135, 13, 66), (317, 13, 140), (330, 13, 148), (333, 13, 149), (1020, 13, 139), (1037, 13, 144), (1040, 13, 145), (1043, 13, 146)]) (PT := []) (CT := t_Mo_bendsBecome_ct) (KT := [(1, 546, .int (1000000), (0, 1000000, 1000000, []))]) (NT := []) (AN := n_Mo_bendsBecome_an) (OT := [o_Mo_bendsBecome_0, o_Mo_bendsBecome_1, o_Mo_bendsBecome_2, o_Mo_bendsBecome_3, o_Mo_bendsBecome_4, o_Mo_bendsBecome_5, o_Mo_bendsBecome_6, o_Mo_bendsBecome_7, o_Mo_bendsBecome_8, o_Mo_bendsBecome_9, o_Mo_bendsBecome_10, o_Mo_bendsBecome_11, o_Mo_bendsBecome_12, o_Mo_bendsBecome_13, o_Mo_bendsBecome_14, o_Mo_bendsBecome_15, o_Mo_bendsBecome_16, o_Mo_bendsBecome_17, o_Mo_bendsBecome_18, o_Mo_bendsBecome_19, o_Mo_bendsBecome_20, o_Mo_bendsBecome_21, o_Mo_bendsBecome_22]) 5 1084 (List.forall_mem_cons.mpr ⟨oo_Mo_bendsBecome_0, List.forall_mem_cons.mpr ⟨oo_Mo_bendsBecome_1, List.forall_mem_cons.mpr ⟨oo_Mo_bendsBecome_2, List.forall_mem_cons.mpr ⟨oo_Mo_bendsBecome_3, List.forall_mem_cons.mpr ⟨oo_Mo_bendsBecome_4, List.forall_mem_cons.mpr ⟨oo_Mo_bendsBecome_5, List.forall_mem_cons.mpr ⟨oo_Mo_bendsBecome_6, List.forall_mem_cons.mpr ⟨oo_Mo_bendsBecome_7, List.forall_mem_cons.mpr ⟨oo_Mo_bendsBecome_8, List.forall_mem_cons.mpr ⟨oo_Mo_bendsBecome_9, List.forall_mem_cons.mpr ⟨oo_Mo_bendsBecome_10, List.forall_mem_cons.mpr ⟨oo_Mo_bendsBecome_11, List.forall_mem_cons.mpr ⟨oo_Mo_bendsBecome_12, List.forall_mem_cons.mpr ⟨oo_Mo_bendsBecome_13, List.forall_mem_cons.mpr ⟨oo_Mo_bendsBecome_14, List.forall_mem_cons.mpr ⟨oo_Mo_bendsBecome_15, List.forall_mem_cons.mpr ⟨oo_Mo_bendsBecome_16, List.forall_mem_cons.mpr ⟨oo_Mo_bendsBecome_17, List.forall_mem_cons.mpr ⟨oo_Mo_bendsBecome_18, List.forall_mem_cons.mpr ⟨oo_Mo_bendsBecome_19, List.forall_mem_cons.mpr ⟨oo_Mo_bendsBecome_20, List.forall_mem_cons.mpr ⟨oo_Mo_bendsBecome_21, List.forall_mem_cons.mpr ⟨oo_Mo_bendsBecome_22, List.forall_mem_nil _⟩⟩⟩⟩⟩⟩⟩⟩⟩⟩⟩⟩⟩⟩⟩⟩⟩⟩⟩⟩⟩⟩⟩) (by decide +kernel) ⟨List.forall_mem_cons.mpr ⟨gf_Mo_129, List.forall_mem_cons.mpr ⟨gf_Mo_132, List.forall_mem_cons.mpr ⟨gf_Mo_135, List.forall_mem_cons.mpr ⟨gf_Mo_317, List.forall_mem_cons.mpr ⟨gf_Mo_330, List.forall_mem_cons.mpr ⟨gf_Mo_333, List.forall_mem_cons.mpr ⟨gf_Mo_1020, List.forall_mem_cons.mpr ⟨gf_Mo_1037, List.forall_mem_cons.mpr ⟨gf_Mo_1040, List.forall_mem_cons.mpr ⟨gf_Mo_1043, List.forall_mem_nil _⟩⟩⟩⟩⟩⟩⟩⟩⟩⟩, List.forall_mem_nil _, List.forall_mem_cons.mpr ⟨cl_virtual (y := y_Mo_stepTo) (ci := 13) rfl rfl ⟨_, _, rfl⟩ (by decide +kernel) h_Mo_stepTo wm_3714 wm_9 wm_3711 wm_3713 wv_22_6 ⟨by decide, by decide, by decide +kernel⟩ (by decide), List.forall_mem_nil _⟩, List.forall_mem_cons.mpr ⟨kx_Mo_1_546, List.forall_mem_nil _⟩, List.forall_mem_nil _, GG_pl⟩ (by decide +kernel)
