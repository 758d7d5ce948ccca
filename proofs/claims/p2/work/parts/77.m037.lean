def o_Mo_rule_at_f0_0 : or_T := (57, 8, [(0, (2, 0, 0, [150])), (1, (0, 0, 2009, [])), (3, (0, 1, 1, [])), (5, (0, 0, 2009, [])), (6, (0, 1, 1, [])), (7, (0, 1, 2010, []))], [(1, [7, 5, 6], []), (9, [5, 0], [158]), (20, [0], [50, 2, 1, 158, 157, 160, 2, 12, 0, 7, 4, 3, 2, 0, 158, 0, 1, 2, 0, 157, 2, 7, 0, 3, 2, 0, 157, 0, 2010, 3, 14, 1, 10, 3, 0, 160, 5, 3, 2, 0, 157, 0, 1, 0, 0, 1, 10, 3, 0, 160, 5, 3, 2, 0, 157, 0, 1, 0, 4]), (20, [0, 1], [30, 0, 1, 1, 158, -1, 0, 0]), (20, [0, 1], [30, 0, -1, 1, 158, 1, 0, 0]), (20, [0], [30, 0, 1, 1, 159]), (20, [0], [30, 0, -1, 1, 159]), (20, [3, 0], [50, 1, 1, 1158, 1160, 4, 6, 1, 2, 1, 0, 0, 1, 1, 6, 3, 1, 160, 2, 1, 158, 0, 1]), (101, [0, 4], [164]), (8, [3], [1]), (8, [3], [1]), (20, [0], [50, 2, 1, 158, 157, 160, 2, 12, 0, 7, 4, 3, 2, 0, 158, 0, 1, 2, 0, 157, 2, 7, 0, 3, 2, 0, 157, 0, 2010, 3, 14, 1, 10, 3, 0, 160, 5, 3, 2, 0, 157, 0, 1, 0, 0, 1, 10, 3, 0, 160, 5, 3, 2, 0, 157, 0, 1, 0, 4]), (20, [0, 1], [30, 0, 1, 1, 158, -1, 0, 0]), (20, [0, 1], [30, 0, -1, 1, 158, 1, 0, 0]), (20, [0], [30, 0, 1, 1, 159]), (20, [0], [30, 0, -1, 1, 159]), (20, [3, 0], [50, 1, 1, 1158, 1160, 4, 6, 1, 2, 1, 0, 0, 1, 1, 6, 3, 1, 160, 2, 1, 158, 0, 1])], [(7, (0, 1, 2009, []))], [], [], [], [(7, 5, 1, 1)])
theorem oo_Mo_rule_at_f0_0 {kA : Nat → ClassId} : or_ok kA GG o_Mo_rule_at_f0_0 := by
  intro A ta ws vs hD hth hl hk hds hf
  have hl : vs.length = 8 := hl
  have hk : ∀ q ∈ ([(0, (2, 0, 0, [150])), (1, (0, 0, 2009, [])), (3, (0, 1, 1, [])), (5, (0, 0, 2009, [])), (6, (0, 1, 1, [])), (7, (0, 1, 2010, []))] : List (Nat × tv_T)), tv_ok ta q.2 (n_v vs q.1) := hk
  obtain ⟨t0, hk⟩ := List.forall_mem_cons.mp hk
  have t0 : tv_ok ta (2, 0, 0, [150]) (n_v vs 0) := t0
  have r0 : ta (v_ad (n_v vs 0)) = some 150 := tv_rg t0
  obtain ⟨t1, hk⟩ := List.forall_mem_cons.mp hk
  have t1 : tv_ok ta (0, 0, 2009, []) (n_v vs 1) := t1
  have k1 : 0 ≤ v_iv (n_v vs 1) ∧ v_iv (n_v vs 1) ≤ 2009 := tv_rng t1
  obtain ⟨t3, hk⟩ := List.forall_mem_cons.mp hk
  have t3 : tv_ok ta (0, 1, 1, []) (n_v vs 3) := t3
  have k3 : 1 ≤ v_iv (n_v vs 3) ∧ v_iv (n_v vs 3) ≤ 1 := tv_rng t3
  obtain ⟨t5, hk⟩ := List.forall_mem_cons.mp hk
  have t5 : tv_ok ta (0, 0, 2009, []) (n_v vs 5) := t5
  have k5 : 0 ≤ v_iv (n_v vs 5) ∧ v_iv (n_v vs 5) ≤ 2009 := tv_rng t5
  obtain ⟨t6, hk⟩ := List.forall_mem_cons.mp hk
  have t6 : tv_ok ta (0, 1, 1, []) (n_v vs 6) := t6
  have k6 : 1 ≤ v_iv (n_v vs 6) ∧ v_iv (n_v vs 6) ≤ 1 := tv_rng t6
  obtain ⟨t7, hk⟩ := List.forall_mem_cons.mp hk
  have t7 : tv_ok ta (0, 1, 2010, []) (n_v vs 7) := t7
  have k7 : 1 ≤ v_iv (n_v vs 7) ∧ v_iv (n_v vs 7) ≤ 2010 := tv_rng t7
  have hds : ∀ q ∈ ([(7, 5, 1, 1)] : List of_T), n_iv vs q.2.1 + q.2.2.1 ≤ n_iv vs q.1 ∧ n_iv vs q.1 ≤ n_iv vs q.2.1 + q.2.2.2 := hds
  obtain ⟨d0, hds⟩ := List.forall_mem_cons.mp hds
  have d0 : v_iv (n_v vs 5) + 1 ≤ v_iv (n_v vs 7) ∧ v_iv (n_v vs 7) ≤ v_iv (n_v vs 5) + 1 := d0
  have hf : fc_ok [(1, [7, 5, 6], []), (9, [5, 0], [158]), (20, [0], [50, 2, 1, 158, 157, 160, 2, 12, 0, 7, 4, 3, 2, 0, 158, 0, 1, 2, 0, 157, 2, 7, 0, 3, 2, 0, 157, 0, 2010, 3, 14, 1, 10, 3, 0, 160, 5, 3, 2, 0, 157, 0, 1, 0, 0, 1, 10, 3, 0, 160, 5, 3, 2, 0, 157, 0, 1, 0, 4]), (20, [0, 1], [30, 0, 1, 1, 158, -1, 0, 0]), (20, [0, 1], [30, 0, -1, 1, 158, 1, 0, 0]), (20, [0], [30, 0, 1, 1, 159]), (20, [0], [30, 0, -1, 1, 159]), (20, [3, 0], [50, 1, 1, 1158, 1160, 4, 6, 1, 2, 1, 0, 0, 1, 1, 6, 3, 1, 160, 2, 1, 158, 0, 1]), (101, [0, 4], [164]), (8, [3], [1]), (8, [3], [1]), (20, [0], [50, 2, 1, 158, 157, 160, 2, 12, 0, 7, 4, 3, 2, 0, 158, 0, 1, 2, 0, 157, 2, 7, 0, 3, 2, 0, 157, 0, 2010, 3, 14, 1, 10, 3, 0, 160, 5, 3, 2, 0, 157, 0, 1, 0, 0, 1, 10, 3, 0, 160, 5, 3, 2, 0, 157, 0, 1, 0, 4]), (20, [0, 1], [30, 0, 1, 1, 158, -1, 0, 0]), (20, [0, 1], [30, 0, -1, 1, 158, 1, 0, 0]), (20, [0], [30, 0, 1, 1, 159]), (20, [0], [30, 0, -1, 1, 159]), (20, [3, 0], [50, 1, 1, 1158, 1160, 4, 6, 1, 2, 1, 0, 0, 1, 1, 6, 3, 1, 160, 2, 1, 158, 0, 1])] ta ws vs := hf
  obtain ⟨f0, hf⟩ := fc_un (show (1 : Nat) < 100 from by decide) hf
  have f0 : v_iv (n_v vs 7) = v_iv (n_v vs 5) + v_iv (n_v vs 6) := f0
  obtain ⟨f1, hf⟩ := fc_un (show (9 : Nat) < 100 from by decide) hf
  have f1 : n_v vs 5 = w_fd ws (v_ad (n_v vs 0)) 158 := f1
  obtain ⟨f2, hf⟩ := fc_un (show (20 : Nat) < 100 from by decide) hf
  have f2 : ((w_fi ws (n_v vs 0) 158 + 1) ≤ w_fi ws (n_v vs 0) 157) ∧ ((w_fi ws (n_v vs 0) 157 ≤ 2010) ∧ ((w_ei ws (w_ar ws (n_v vs 0) 160) ((w_fi ws (n_v vs 0) 157 - 1)) = 0) ∨ (w_ei ws (w_ar ws (n_v vs 0) 160) ((w_fi ws (n_v vs 0) 157 - 1)) = 4))) := f2
  obtain ⟨f3, hf⟩ := fc_un (show (20 : Nat) < 100 from by decide) hf
  have f3 : 1 * w_fi ws (n_v vs 0) 158 + ((-1) * v_iv (n_v vs 1) + 0) ≤ 0 := f3
  obtain ⟨f4, hf⟩ := fc_un (show (20 : Nat) < 100 from by decide) hf
  have f4 : (-1) * w_fi ws (n_v vs 0) 158 + (1 * v_iv (n_v vs 1) + 0) ≤ 0 := f4
  obtain ⟨f5, hf⟩ := fc_un (show (20 : Nat) < 100 from by decide) hf
  have f5 : 1 * w_fi ws (n_v vs 0) 159 + 0 ≤ 0 := f5
  obtain ⟨f6, hf⟩ := fc_un (show (20 : Nat) < 100 from by decide) hf
  have f6 : (-1) * w_fi ws (n_v vs 0) 159 + 0 ≤ 0 := f6
  obtain ⟨f7, hf⟩ := fc_un (show (20 : Nat) < 100 from by decide) hf
  have f7 : (v_iv (n_v vs 3) = 1) → (w_ei ws (w_ar ws (n_v vs 0) 160) (w_fi ws (n_v vs 0) 158) = 1) := f7
  obtain ⟨ta1, w1, le1, ⟨_, s1⟩, hf⟩ := fc_us (show ¬ (101 : Nat) < 100 from by decide) hf
  have s1 : (∀ b j, w_el ws b j = w_el w1 b j) ∧ ∀ b j, w_fd ws b j = if b = v_ad (n_v vs 0) ∧ j = 164 then n_v vs 4 else w_fd w1 b j := s1
  obtain ⟨f9, hf⟩ := fc_un (show (8 : Nat) < 100 from by decide) hf
  have f9 : v_iv (n_v vs 3) ≠ 0 := f9
  obtain ⟨f10, hf⟩ := fc_un (show (8 : Nat) < 100 from by decide) hf
  have f10 : v_iv (n_v vs 3) ≠ 0 := f10
  obtain ⟨f11, hf⟩ := fc_un (show (20 : Nat) < 100 from by decide) hf
  have f11 : ((w_fi w1 (n_v vs 0) 158 + 1) ≤ w_fi w1 (n_v vs 0) 157) ∧ ((w_fi w1 (n_v vs 0) 157 ≤ 2010) ∧ ((w_ei w1 (w_ar w1 (n_v vs 0) 160) ((w_fi w1 (n_v vs 0) 157 - 1)) = 0) ∨ (w_ei w1 (w_ar w1 (n_v vs 0) 160) ((w_fi w1 (n_v vs 0) 157 - 1)) = 4))) := f11
  obtain ⟨f12, hf⟩ := fc_un (show (20 : Nat) < 100 from by decide) hf
  have f12 : 1 * w_fi w1 (n_v vs 0) 158 + ((-1) * v_iv (n_v vs 1) + 0) ≤ 0 := f12
  obtain ⟨f13, hf⟩ := fc_un (show (20 : Nat) < 100 from by decide) hf
  have f13 : (-1) * w_fi w1 (n_v vs 0) 158 + (1 * v_iv (n_v vs 1) + 0) ≤ 0 := f13
  obtain ⟨f14, hf⟩ := fc_un (show (20 : Nat) < 100 from by decide) hf
  have f14 : 1 * w_fi w1 (n_v vs 0) 159 + 0 ≤ 0 := f14
  obtain ⟨f15, hf⟩ := fc_un (show (20 : Nat) < 100 from by decide) hf
  have f15 : (-1) * w_fi w1 (n_v vs 0) 159 + 0 ≤ 0 := f15
  obtain ⟨f16, hf⟩ := fc_un (show (20 : Nat) < 100 from by decide) hf
  have f16 : (v_iv (n_v vs 3) = 1) → (w_ei w1 (w_ar w1 (n_v vs 0) 160) (w_fi w1 (n_v vs 0) 158) = 1) := f16
  have ar_0_160_1 : w_ar w1 (n_v vs 0) 160 = w_ar ws (n_v vs 0) 160 := by show v_ad (w_fd w1 _ _) = v_ad (w_fd ws _ _); rw [s1.2, if_neg (fun e => absurd e.2 (by decide))]
  have cr_0_160 : ta (w_ar ws (n_v vs 0) 160) = some 259 := tv_rg (th_fd hD hth r0 (g := GG_150) rfl (k := 160) (t := (2, 0, 0, [259])) rfl rfl)
  have g1 : v_iv (n_v vs 5) = w_fi ws (n_v vs 0) 158 := congrArg v_iv f1
  rw [ar_0_160_1] at f11
  rw [ar_0_160_1] at f16
  have fe_0_157_1 : w_fi ws (n_v vs 0) 157 = w_fi w1 (n_v vs 0) 157 := by show v_iv (w_fd _ _ _) = v_iv (w_fd _ _ _); rw [s1.2, if_neg (fun e => absurd e.2 (by decide))]
  have fe_0_158_1 : w_fi ws (n_v vs 0) 158 = w_fi w1 (n_v vs 0) 158 := by show v_iv (w_fd _ _ _) = v_iv (w_fd _ _ _); rw [s1.2, if_neg (fun e => absurd e.2 (by decide))]
  have fe_0_159_1 : w_fi ws (n_v vs 0) 159 = w_fi w1 (n_v vs 0) 159 := by show v_iv (w_fd _ _ _) = v_iv (w_fd _ _ _); rw [s1.2, if_neg (fun e => absurd e.2 (by decide))]
  have hE_0_160_1 : ∀ j : Int, w_ei ws (w_ar ws (n_v vs 0) 160) j = w_ei w1 (w_ar ws (n_v vs 0) 160) j := fun j => s1.1 _ _
  have hK_0_160 : ∀ j : Int, 0 ≤ j → j < 2010 → 0 ≤ w_ei ws (w_ar ws (n_v vs 0) 160) j ∧ w_ei ws (w_ar ws (n_v vs 0) 160) j ≤ 4 := fun j h0 h1 => th_el hD hth cr_0_160 (kd := 0) (n := 2010) (m := 2010) (lo := 0) (hi := 4) (rs := []) (L := []) rfl (by decide) (j := j.toNat) (by omega)
  have kz_0_157 : 0 ≤ w_fi ws (n_v vs 0) 157 ∧ w_fi ws (n_v vs 0) 157 ≤ 2010 := tv_rng (th_fd hD hth r0 (g := GG_150) rfl (k := 157) (t := (0, 0, 2010, [])) rfl rfl)
  have kz_0_158 : 0 ≤ w_fi ws (n_v vs 0) 158 ∧ w_fi ws (n_v vs 0) 158 ≤ 2009 := tv_rng (th_fd hD hth r0 (g := GG_150) rfl (k := 158) (t := (0, 0, 2009, [])) rfl rfl)
  have kz_0_159 : 0 ≤ w_fi ws (n_v vs 0) 159 ∧ w_fi ws (n_v vs 0) 159 ≤ 13 := tv_rng (th_fd hD hth r0 (g := GG_150) rfl (k := 159) (t := (0, 0, 13, [])) rfl rfl)
  have rf7 : tv_ok ta (0, 1, 2009, []) (n_v vs 7) := tv_in t7 (by first | omega | grind) (by first | omega | grind)
  refine ⟨List.forall_mem_cons.mpr ⟨rf7, (fun _ h => (by cases h))⟩, [], trivial, ?_, (fun _ h => (by cases h))⟩
  rw [List.append_nil]
  exact (fun _ h => (by cases h))
def o_Mo_rule_at_f0_1 : or_T := (92, 12, [(0, (2, 0, 0, [150])), (5, (0, 0, 2009, [])), (6, (0, 1, 1, [])), (7, (0, 1, 2009, [])), (9, (0, 1, 1, [])), (10, (0, 1, 1, [])), (11, (0, 2, 2010, []))], [(1, [11, 7, 10], []), (9, [7, 0], [158]), (8, [9], [1]), (20, [0], [30, 0, 1, 1, 159]), (20, [0], [30, 0, -1, 1, 159]), (20, [9, 0], [50, 1, 1, 1158, 1160, 4, 6, 1, 2, 1, 0, 0, 1, 1, 6, 3, 1, 160, 2, 1, 158, 0, 1]), (102, [8], [0]), (101, [0, 7], [158]), (1, [7, 5, 6], [])], [(11, (0, 2, 2009, []))], [], [], [], [(11, 7, 1, 1), (11, 5, 2, 2), (7, 5, 1, 1)])
theorem oo_Mo_rule_at_f0_1 {kA : Nat → ClassId} : or_ok kA GG o_Mo_rule_at_f0_1 := by
  intro A ta ws vs hD hth hl hk hds hf
  have hl : vs.length = 12 := hl
  have hk : ∀ q ∈ ([(0, (2, 0, 0, [150])), (5, (0, 0, 2009, [])), (6, (0, 1, 1, [])), (7, (0, 1, 2009, [])), (9, (0, 1, 1, [])), (10, (0, 1, 1, [])), (11, (0, 2, 2010, []))] : List (Nat × tv_T)), tv_ok ta q.2 (n_v vs q.1) := hk
  obtain ⟨t0, hk⟩ := List.forall_mem_cons.mp hk
  have t0 : tv_ok ta (2, 0, 0, [150]) (n_v vs 0) := t0
  have r0 : ta (v_ad (n_v vs 0)) = some 150 := tv_rg t0
  obtain ⟨t5, hk⟩ := List.forall_mem_cons.mp hk
  have t5 : tv_ok ta (0, 0, 2009, []) (n_v vs 5) := t5
  have k5 : 0 ≤ v_iv (n_v vs 5) ∧ v_iv (n_v vs 5) ≤ 2009 := tv_rng t5
  obtain ⟨t6, hk⟩ := List.forall_mem_cons.mp hk
  have t6 : tv_ok ta (0, 1, 1, []) (n_v vs 6) := t6
  have k6 : 1 ≤ v_iv (n_v vs 6) ∧ v_iv (n_v vs 6) ≤ 1 := tv_rng t6
  obtain ⟨t7, hk⟩ := List.forall_mem_cons.mp hk
  have t7 : tv_ok ta (0, 1, 2009, []) (n_v vs 7) := t7
  have k7 : 1 ≤ v_iv (n_v vs 7) ∧ v_iv (n_v vs 7) ≤ 2009 := tv_rng t7
  obtain ⟨t9, hk⟩ := List.forall_mem_cons.mp hk
  have t9 : tv_ok ta (0, 1, 1, []) (n_v vs 9) := t9
  have k9 : 1 ≤ v_iv (n_v vs 9) ∧ v_iv (n_v vs 9) ≤ 1 := tv_rng t9
  obtain ⟨t10, hk⟩ := List.forall_mem_cons.mp hk
  have t10 : tv_ok ta (0, 1, 1, []) (n_v vs 10) := t10
  have k10 : 1 ≤ v_iv (n_v vs 10) ∧ v_iv (n_v vs 10) ≤ 1 := tv_rng t10
  obtain ⟨t11, hk⟩ := List.forall_mem_cons.mp hk
  have t11 : tv_ok ta (0, 2, 2010, []) (n_v vs 11) := t11
  have k11 : 2 ≤ v_iv (n_v vs 11) ∧ v_iv (n_v vs 11) ≤ 2010 := tv_rng t11
  have hds : ∀ q ∈ ([(11, 7, 1, 1), (11, 5, 2, 2), (7, 5, 1, 1)] : List of_T), n_iv vs q.2.1 + q.2.2.1 ≤ n_iv vs q.1 ∧ n_iv vs q.1 ≤ n_iv vs q.2.1 + q.2.2.2 := hds
  obtain ⟨d0, hds⟩ := List.forall_mem_cons.mp hds
  have d0 : v_iv (n_v vs 7) + 1 ≤ v_iv (n_v vs 11) ∧ v_iv (n_v vs 11) ≤ v_iv (n_v vs 7) + 1 := d0
  obtain ⟨d1, hds⟩ := List.forall_mem_cons.mp hds
  have d1 : v_iv (n_v vs 5) + 2 ≤ v_iv (n_v vs 11) ∧ v_iv (n_v vs 11) ≤ v_iv (n_v vs 5) + 2 := d1
  obtain ⟨d2, hds⟩ := List.forall_mem_cons.mp hds
  have d2 : v_iv (n_v vs 5) + 1 ≤ v_iv (n_v vs 7) ∧ v_iv (n_v vs 7) ≤ v_iv (n_v vs 5) + 1 := d2
  have hf : fc_ok [(1, [11, 7, 10], []), (9, [7, 0], [158]), (8, [9], [1]), (20, [0], [30, 0, 1, 1, 159]), (20, [0], [30, 0, -1, 1, 159]), (20, [9, 0], [50, 1, 1, 1158, 1160, 4, 6, 1, 2, 1, 0, 0, 1, 1, 6, 3, 1, 160, 2, 1, 158, 0, 1]), (102, [8], [0]), (101, [0, 7], [158]), (1, [7, 5, 6], [])] ta ws vs := hf
  obtain ⟨f0, hf⟩ := fc_un (show (1 : Nat) < 100 from by decide) hf
  have f0 : v_iv (n_v vs 11) = v_iv (n_v vs 7) + v_iv (n_v vs 10) := f0
  obtain ⟨f1, hf⟩ := fc_un (show (9 : Nat) < 100 from by decide) hf
  have f1 : n_v vs 7 = w_fd ws (v_ad (n_v vs 0)) 158 := f1
  obtain ⟨f2, hf⟩ := fc_un (show (8 : Nat) < 100 from by decide) hf
  have f2 : v_iv (n_v vs 9) ≠ 0 := f2
  obtain ⟨f3, hf⟩ := fc_un (show (20 : Nat) < 100 from by decide) hf
  have f3 : 1 * w_fi ws (n_v vs 0) 159 + 0 ≤ 0 := f3
  obtain ⟨f4, hf⟩ := fc_un (show (20 : Nat) < 100 from by decide) hf
  have f4 : (-1) * w_fi ws (n_v vs 0) 159 + 0 ≤ 0 := f4
  obtain ⟨f5, hf⟩ := fc_un (show (20 : Nat) < 100 from by decide) hf
  have f5 : (v_iv (n_v vs 9) = 1) → (w_ei ws (w_ar ws (n_v vs 0) 160) (w_fi ws (n_v vs 0) 158) = 1) := f5
  obtain ⟨ta1, w1, le1, ⟨_, s1⟩, hf⟩ := fc_us (show ¬ (102 : Nat) < 100 from by decide) hf
  obtain ⟨ta2, w2, le2, ⟨_, s2⟩, hf⟩ := fc_us (show ¬ (101 : Nat) < 100 from by decide) hf
  have s2 : (∀ b j, w_el w1 b j = w_el w2 b j) ∧ ∀ b j, w_fd w1 b j = if b = v_ad (n_v vs 0) ∧ j = 158 then n_v vs 7 else w_fd w2 b j := s2
  obtain ⟨f8, hf⟩ := fc_un (show (1 : Nat) < 100 from by decide) hf
  have f8 : v_iv (n_v vs 7) = v_iv (n_v vs 5) + v_iv (n_v vs 6) := f8
  have cr_0_160 : ta (w_ar ws (n_v vs 0) 160) = some 259 := tv_rg (th_fd hD hth r0 (g := GG_150) rfl (k := 160) (t := (2, 0, 0, [259])) rfl rfl)
  have g1 : v_iv (n_v vs 7) = w_fi ws (n_v vs 0) 158 := congrArg v_iv f1
  have hK_0_160 : ∀ j : Int, 0 ≤ j → j < 2010 → 0 ≤ w_ei ws (w_ar ws (n_v vs 0) 160) j ∧ w_ei ws (w_ar ws (n_v vs 0) 160) j ≤ 4 := fun j h0 h1 => th_el hD hth cr_0_160 (kd := 0) (n := 2010) (m := 2010) (lo := 0) (hi := 4) (rs := []) (L := []) rfl (by decide) (j := j.toNat) (by omega)
  have kz_0_158 : 0 ≤ w_fi ws (n_v vs 0) 158 ∧ w_fi ws (n_v vs 0) 158 ≤ 2009 := tv_rng (th_fd hD hth r0 (g := GG_150) rfl (k := 158) (t := (0, 0, 2009, [])) rfl rfl)
  have kz_0_159 : 0 ≤ w_fi ws (n_v vs 0) 159 ∧ w_fi ws (n_v vs 0) 159 ≤ 13 := tv_rng (th_fd hD hth r0 (g := GG_150) rfl (k := 159) (t := (0, 0, 13, [])) rfl rfl)
  have rf11 : tv_ok ta (0, 2, 2009, []) (n_v vs 11) := tv_in t11 (by first | omega | grind) (by first | omega | grind)
  refine ⟨List.forall_mem_cons.mpr ⟨rf11, (fun _ h => (by cases h))⟩, [], trivial, ?_, (fun _ h => (by cases h))⟩
  rw [List.append_nil]
  exact (fun _ h => (by cases h))
def o_Mo_rule_at_f0_2 : or_T := (96, 12, [(0, (2, 0, 0, [150])), (1, (0, 0, 2009, [])), (5, (0, 0, 2009, [])), (6, (0, 1, 1, [])), (7, (0, 1, 2009, [])), (9, (0, 1, 1, [])), (10, (0, 1, 1, [])), (11, (0, 2, 2009, []))], [(20, [0], [30, 0, 1, 1, 159]), (20, [0], [30, 0, -1, 1, 159]), (101, [0, 11], [158]), (1, [11, 7, 10], []), (9, [7, 0], [158]), (8, [9], [1]), (20, [0], [30, 0, 1, 1, 159]), (20, [0], [30, 0, -1, 1, 159]), (20, [9, 0], [50, 1, 1, 1158, 1160, 4, 6, 1, 2, 1, 0, 0, 1, 1, 6, 3, 1, 160, 2, 1, 158, 0, 1]), (102, [8], [0]), (101, [0, 7], [158]), (1, [7, 5, 6], [])], [], [(0, 0, 2009, [])], [(20, [0], [50, 2, 1, 158, 157, 160, 2, 12, 0, 7, 4, 3, 2, 0, 158, 0, 1, 2, 0, 157, 2, 7, 0, 3, 2, 0, 157, 0, 2010, 3, 14, 1, 10, 3, 0, 160, 5, 3, 2, 0, 157, 0, 1, 0, 0, 1, 10, 3, 0, 160, 5, 3, 2, 0, 157, 0, 1, 0, 4]), (20, [0, 12], [30, 0, 1, 1, 158, -1, 0, 0]), (20, [0, 12], [30, 0, -1, 1, 158, 1, 0, 0]), (20, [0], [30, 0, 1, 1, 159]), (20, [0], [30, 0, -1, 1, 159]), (23, [1, 12], [0, 1, -1])], [], [(11, 7, 1, 1), (11, 5, 2, 2), (7, 5, 1, 1)])
theorem oo_Mo_rule_at_f0_2 {kA : Nat → ClassId} : or_ok kA GG o_Mo_rule_at_f0_2 := by
  intro A ta ws vs hD hth hl hk hds hf
  have hl : vs.length = 12 := hl
  have hk : ∀ q ∈ ([(0, (2, 0, 0, [150])), (1, (0, 0, 2009, [])), (5, (0, 0, 2009, [])), (6, (0, 1, 1, [])), (7, (0, 1, 2009, [])), (9, (0, 1, 1, [])), (10, (0, 1, 1, [])), (11, (0, 2, 2009, []))] : List (Nat × tv_T)), tv_ok ta q.2 (n_v vs q.1) := hk
  obtain ⟨t0, hk⟩ := List.forall_mem_cons.mp hk
  have t0 : tv_ok ta (2, 0, 0, [150]) (n_v vs 0) := t0
  have r0 : ta (v_ad (n_v vs 0)) = some 150 := tv_rg t0
  obtain ⟨t1, hk⟩ := List.forall_mem_cons.mp hk
  have t1 : tv_ok ta (0, 0, 2009, []) (n_v vs 1) := t1
  have k1 : 0 ≤ v_iv (n_v vs 1) ∧ v_iv (n_v vs 1) ≤ 2009 := tv_rng t1
  obtain ⟨t5, hk⟩ := List.forall_mem_cons.mp hk
  have t5 : tv_ok ta (0, 0, 2009, []) (n_v vs 5) := t5
  have k5 : 0 ≤ v_iv (n_v vs 5) ∧ v_iv (n_v vs 5) ≤ 2009 := tv_rng t5
  obtain ⟨t6, hk⟩ := List.forall_mem_cons.mp hk
  have t6 : tv_ok ta (0, 1, 1, []) (n_v vs 6) := t6
  have k6 : 1 ≤ v_iv (n_v vs 6) ∧ v_iv (n_v vs 6) ≤ 1 := tv_rng t6
  obtain ⟨t7, hk⟩ := List.forall_mem_cons.mp hk
  have t7 : tv_ok ta (0, 1, 2009, []) (n_v vs 7) := t7
  have k7 : 1 ≤ v_iv (n_v vs 7) ∧ v_iv (n_v vs 7) ≤ 2009 := tv_rng t7
  obtain ⟨t9, hk⟩ := List.forall_mem_cons.mp hk
  have t9 : tv_ok ta (0, 1, 1, []) (n_v vs 9) := t9
  have k9 : 1 ≤ v_iv (n_v vs 9) ∧ v_iv (n_v vs 9) ≤ 1 := tv_rng t9
  obtain ⟨t10, hk⟩ := List.forall_mem_cons.mp hk
  have t10 : tv_ok ta (0, 1, 1, []) (n_v vs 10) := t10
  have k10 : 1 ≤ v_iv (n_v vs 10) ∧ v_iv (n_v vs 10) ≤ 1 := tv_rng t10
  obtain ⟨t11, hk⟩ := List.forall_mem_cons.mp hk
  have t11 : tv_ok ta (0, 2, 2009, []) (n_v vs 11) := t11
  have k11 : 2 ≤ v_iv (n_v vs 11) ∧ v_iv (n_v vs 11) ≤ 2009 := tv_rng t11
  have hds : ∀ q ∈ ([(11, 7, 1, 1), (11, 5, 2, 2), (7, 5, 1, 1)] : List of_T), n_iv vs q.2.1 + q.2.2.1 ≤ n_iv vs q.1 ∧ n_iv vs q.1 ≤ n_iv vs q.2.1 + q.2.2.2 := hds
  obtain ⟨d0, hds⟩ := List.forall_mem_cons.mp hds
  have d0 : v_iv (n_v vs 7) + 1 ≤ v_iv (n_v vs 11) ∧ v_iv (n_v vs 11) ≤ v_iv (n_v vs 7) + 1 := d0
  obtain ⟨d1, hds⟩ := List.forall_mem_cons.mp hds
  have d1 : v_iv (n_v vs 5) + 2 ≤ v_iv (n_v vs 11) ∧ v_iv (n_v vs 11) ≤ v_iv (n_v vs 5) + 2 := d1
  obtain ⟨d2, hds⟩ := List.forall_mem_cons.mp hds
  have d2 : v_iv (n_v vs 5) + 1 ≤ v_iv (n_v vs 7) ∧ v_iv (n_v vs 7) ≤ v_iv (n_v vs 5) + 1 := d2
  have hf : fc_ok [(20, [0], [30, 0, 1, 1, 159]), (20, [0], [30, 0, -1, 1, 159]), (101, [0, 11], [158]), (1, [11, 7, 10], []), (9, [7, 0], [158]), (8, [9], [1]), (20, [0], [30, 0, 1, 1, 159]), (20, [0], [30, 0, -1, 1, 159]), (20, [9, 0], [50, 1, 1, 1158, 1160, 4, 6, 1, 2, 1, 0, 0, 1, 1, 6, 3, 1, 160, 2, 1, 158, 0, 1]), (102, [8], [0]), (101, [0, 7], [158]), (1, [7, 5, 6], [])] ta ws vs := hf
  obtain ⟨f0, hf⟩ := fc_un (show (20 : Nat) < 100 from by decide) hf
  have f0 : 1 * w_fi ws (n_v vs 0) 159 + 0 ≤ 0 := f0
  obtain ⟨f1, hf⟩ := fc_un (show (20 : Nat) < 100 from by decide) hf
  have f1 : (-1) * w_fi ws (n_v vs 0) 159 + 0 ≤ 0 := f1
  obtain ⟨ta1, w1, le1, ⟨_, s1⟩, hf⟩ := fc_us (show ¬ (101 : Nat) < 100 from by decide) hf
  have s1 : (∀ b j, w_el ws b j = w_el w1 b j) ∧ ∀ b j, w_fd ws b j = if b = v_ad (n_v vs 0) ∧ j = 158 then n_v vs 11 else w_fd w1 b j := s1
  obtain ⟨f3, hf⟩ := fc_un (show (1 : Nat) < 100 from by decide) hf
  have f3 : v_iv (n_v vs 11) = v_iv (n_v vs 7) + v_iv (n_v vs 10) := f3
  obtain ⟨f4, hf⟩ := fc_un (show (9 : Nat) < 100 from by decide) hf
  have f4 : n_v vs 7 = w_fd w1 (v_ad (n_v vs 0)) 158 := f4
  obtain ⟨f5, hf⟩ := fc_un (show (8 : Nat) < 100 from by decide) hf
  have f5 : v_iv (n_v vs 9) ≠ 0 := f5
  obtain ⟨f6, hf⟩ := fc_un (show (20 : Nat) < 100 from by decide) hf
  have f6 : 1 * w_fi w1 (n_v vs 0) 159 + 0 ≤ 0 := f6
  obtain ⟨f7, hf⟩ := fc_un (show (20 : Nat) < 100 from by decide) hf
  have f7 : (-1) * w_fi w1 (n_v vs 0) 159 + 0 ≤ 0 := f7
  obtain ⟨f8, hf⟩ := fc_un (show (20 : Nat) < 100 from by decide) hf
  have f8 : (v_iv (n_v vs 9) = 1) → (w_ei w1 (w_ar w1 (n_v vs 0) 160) (w_fi w1 (n_v vs 0) 158) = 1) := f8
  obtain ⟨ta2, w2, le2, ⟨_, s2⟩, hf⟩ := fc_us (show ¬ (102 : Nat) < 100 from by decide) hf
  obtain ⟨ta3, w3, le3, ⟨_, s3⟩, hf⟩ := fc_us (show ¬ (101 : Nat) < 100 from by decide) hf
  have s3 : (∀ b j, w_el w2 b j = w_el w3 b j) ∧ ∀ b j, w_fd w2 b j = if b = v_ad (n_v vs 0) ∧ j = 158 then n_v vs 7 else w_fd w3 b j := s3
  obtain ⟨f11, hf⟩ := fc_un (show (1 : Nat) < 100 from by decide) hf
  have f11 : v_iv (n_v vs 7) = v_iv (n_v vs 5) + v_iv (n_v vs 6) := f11
  have ar_0_160_1 : w_ar w1 (n_v vs 0) 160 = w_ar ws (n_v vs 0) 160 := by show v_ad (w_fd w1 _ _) = v_ad (w_fd ws _ _); rw [s1.2, if_neg (fun e => absurd e.2 (by decide))]
  have cr_0_160 : ta (w_ar ws (n_v vs 0) 160) = some 259 := tv_rg (th_fd hD hth r0 (g := GG_150) rfl (k := 160) (t := (2, 0, 0, [259])) rfl rfl)
  have g4 : v_iv (n_v vs 7) = w_fi w1 (n_v vs 0) 158 := congrArg v_iv f4
  rw [ar_0_160_1] at f8
  have fe_0_157_1 : w_fi ws (n_v vs 0) 157 = w_fi w1 (n_v vs 0) 157 := by show v_iv (w_fd _ _ _) = v_iv (w_fd _ _ _); rw [s1.2, if_neg (fun e => absurd e.2 (by decide))]
  have fe_0_158_1 : w_fi ws (n_v vs 0) 158 = v_iv (n_v vs 11) := by show v_iv (w_fd _ _ _) = _; rw [s1.2, if_pos ⟨rfl, rfl⟩]
  have fe_0_159_1 : w_fi ws (n_v vs 0) 159 = w_fi w1 (n_v vs 0) 159 := by show v_iv (w_fd _ _ _) = v_iv (w_fd _ _ _); rw [s1.2, if_neg (fun e => absurd e.2 (by decide))]
  have hE_0_160_1 : ∀ j : Int, w_ei ws (w_ar ws (n_v vs 0) 160) j = w_ei w1 (w_ar ws (n_v vs 0) 160) j := fun j => s1.1 _ _
  have hK_0_160 : ∀ j : Int, 0 ≤ j → j < 2010 → 0 ≤ w_ei ws (w_ar ws (n_v vs 0) 160) j ∧ w_ei ws (w_ar ws (n_v vs 0) 160) j ≤ 4 := fun j h0 h1 => th_el hD hth cr_0_160 (kd := 0) (n := 2010) (m := 2010) (lo := 0) (hi := 4) (rs := []) (L := []) rfl (by decide) (j := j.toNat) (by omega)
  have kz_0_157 : 0 ≤ w_fi ws (n_v vs 0) 157 ∧ w_fi ws (n_v vs 0) 157 ≤ 2010 := tv_rng (th_fd hD hth r0 (g := GG_150) rfl (k := 157) (t := (0, 0, 2010, [])) rfl rfl)
  have kz_0_158 : 0 ≤ w_fi ws (n_v vs 0) 158 ∧ w_fi ws (n_v vs 0) 158 ≤ 2009 := tv_rng (th_fd hD hth r0 (g := GG_150) rfl (k := 158) (t := (0, 0, 2009, [])) rfl rfl)
  have kz_0_159 : 0 ≤ w_fi ws (n_v vs 0) 159 ∧ w_fi ws (n_v vs 0) 159 ≤ 13 := tv_rng (th_fd hD hth r0 (g := GG_150) rfl (k := 159) (t := (0, 0, 13, [])) rfl rfl)
  have kv0 : 0 ≤ w_fi ws (n_v vs 0) 158 ∧ w_fi ws (n_v vs 0) 158 ≤ 2009 := tv_rng (th_fd hD hth r0 (g := GG_150) rfl (k := 158) (t := (0, 0, 2009, [])) rfl rfl)
  obtain ⟨x, ex, hx⟩ := iv_ex (ta := ta) (lo := 0) (hi := 2009) (z := w_fi ws (n_v vs 0) 158) (by omega) (by omega) (by omega) (by omega)
  have ex2 : v_iv (Value.int x) = w_fi ws (n_v vs 0) 158 := ex
  have ex3 : 0 ≤ v_iv (Value.int x) ∧ v_iv (Value.int x) ≤ 2009 := tv_rng hx
  have e_0 : n_v (vs ++ [Value.int x]) 0 = n_v vs 0 := n_v_old (by rw [hl]; decide)
  have e_1 : n_v (vs ++ [Value.int x]) 1 = n_v vs 1 := n_v_old (by rw [hl]; decide)
  have e_12 : n_v (vs ++ [Value.int x]) 12 = Value.int x := n_v_new hl
  have nf0 : fc_1 (20, [0], [50, 2, 1, 158, 157, 160, 2, 12, 0, 7, 4, 3, 2, 0, 158, 0, 1, 2, 0, 157, 2, 7, 0, 3, 2, 0, 157, 0, 2010, 3, 14, 1, 10, 3, 0, 160, 5, 3, 2, 0, 157, 0, 1, 0, 0, 1, 10, 3, 0, 160, 5, 3, 2, 0, 157, 0, 1, 0, 4]) ws (vs ++ [Value.int x]) := by
    refine ⟨fun n hn => ?_, ?_⟩
    · have hn : n ∈ [0] := hn
      rw [List.length_append, hl]
      simp only [List.mem_cons, List.not_mem_nil, or_false] at hn
      show n < 12 + 1; omega
    · show ((w_fi ws (n_v (vs ++ [Value.int x]) 0) 158 + 1) ≤ w_fi ws (n_v (vs ++ [Value.int x]) 0) 157) ∧ ((w_fi ws (n_v (vs ++ [Value.int x]) 0) 157 ≤ 2010) ∧ ((w_ei ws (w_ar ws (n_v (vs ++ [Value.int x]) 0) 160) ((w_fi ws (n_v (vs ++ [Value.int x]) 0) 157 - 1)) = 0) ∨ (w_ei ws (w_ar ws (n_v (vs ++ [Value.int x]) 0) 160) ((w_fi ws (n_v (vs ++ [Value.int x]) 0) 157 - 1)) = 4)))
      rw [e_0]
      first | omega | grind
  have nf1 : fc_1 (20, [0, 12], [30, 0, 1, 1, 158, -1, 0, 0]) ws (vs ++ [Value.int x]) := by
    refine ⟨fun n hn => ?_, ?_⟩
    · have hn : n ∈ [0, 12] := hn
      rw [List.length_append, hl]
      simp only [List.mem_cons, List.not_mem_nil, or_false] at hn
      show n < 12 + 1; omega
    · show 1 * w_fi ws (n_v (vs ++ [Value.int x]) 0) 158 + ((-1) * v_iv (n_v (vs ++ [Value.int x]) 12) + 0) ≤ 0
      rw [e_0]
      rw [e_12]
      omega
  have nf2 : fc_1 (20, [0, 12], [30, 0, -1, 1, 158, 1, 0, 0]) ws (vs ++ [Value.int x]) := by
    refine ⟨fun n hn => ?_, ?_⟩
    · have hn : n ∈ [0, 12] := hn
      rw [List.length_append, hl]
      simp only [List.mem_cons, List.not_mem_nil, or_false] at hn
      show n < 12 + 1; omega
    · show (-1) * w_fi ws (n_v (vs ++ [Value.int x]) 0) 158 + (1 * v_iv (n_v (vs ++ [Value.int x]) 12) + 0) ≤ 0
      rw [e_0]
      rw [e_12]
      omega
  have nf3 : fc_1 (20, [0], [30, 0, 1, 1, 159]) ws (vs ++ [Value.int x]) := by
    refine ⟨fun n hn => ?_, ?_⟩
    · have hn : n ∈ [0] := hn
      rw [List.length_append, hl]
      simp only [List.mem_cons, List.not_mem_nil, or_false] at hn
      show n < 12 + 1; omega
    · show 1 * w_fi ws (n_v (vs ++ [Value.int x]) 0) 159 + 0 ≤ 0
      rw [e_0]
      omega
  have nf4 : fc_1 (20, [0], [30, 0, -1, 1, 159]) ws (vs ++ [Value.int x]) := by
    refine ⟨fun n hn => ?_, ?_⟩
    · have hn : n ∈ [0] := hn
      rw [List.length_append, hl]
      simp only [List.mem_cons, List.not_mem_nil, or_false] at hn
      show n < 12 + 1; omega
    · show (-1) * w_fi ws (n_v (vs ++ [Value.int x]) 0) 159 + 0 ≤ 0
      rw [e_0]
      omega
  have nf5 : fc_1 (23, [1, 12], [0, 1, -1]) ws (vs ++ [Value.int x]) := by
    refine ⟨fun n hn => ?_, ?_⟩
    · have hn : n ∈ [1, 12] := hn
      rw [List.length_append, hl]
      simp only [List.mem_cons, List.not_mem_nil, or_false] at hn
      show n < 12 + 1; omega
    · show 1 * v_iv (n_v (vs ++ [Value.int x]) 1) + ((-1) * v_iv (n_v (vs ++ [Value.int x]) 12) + 0) ≤ 0
      rw [e_1]
      rw [e_12]
      omega
  exact ⟨fun q hq => (by cases hq), [Value.int x], ag_one hx, List.forall_mem_cons.mpr ⟨⟨show (20 : Nat) < 100 from by decide, nf0⟩, List.forall_mem_cons.mpr ⟨⟨show (20 : Nat) < 100 from by decide, nf1⟩, List.forall_mem_cons.mpr ⟨⟨show (20 : Nat) < 100 from by decide, nf2⟩, List.forall_mem_cons.mpr ⟨⟨show (20 : Nat) < 100 from by decide, nf3⟩, List.forall_mem_cons.mpr ⟨⟨show (20 : Nat) < 100 from by decide, nf4⟩, List.forall_mem_cons.mpr ⟨⟨show (23 : Nat) < 100 from by decide, nf5⟩, (fun _ h => (by cases h))⟩⟩⟩⟩⟩⟩, (fun _ h => (by cases h))⟩
def o_Mo_rule_at_f0_3 : or_T := (103, 15, [(0, (2, 0, 0, [150])), (1, (0, 0, 2009, [])), (5, (0, 0, 2009, [])), (6, (0, 1, 1, [])), (7, (0, 1, 2009, [])), (10, (0, 1, 1, [])), (11, (0, 2, 2009, [])), (12, (0, 0, 2009, []))], [(23, [1, 12], [0, 1, -1]), (20, [0], [50, 2, 1, 158, 157, 160, 2, 12, 0, 7, 4, 3, 2, 0, 158, 0, 1, 2, 0, 157, 2, 7, 0, 3, 2, 0, 157, 0, 2010, 3, 14, 1, 10, 3, 0, 160, 5, 3, 2, 0, 157, 0, 1, 0, 0, 1, 10, 3, 0, 160, 5, 3, 2, 0, 157, 0, 1, 0, 4]), (20, [12, 0], [30, 0, 1, 0, 0, -1, 1, 158]), (20, [0], [30, 0, 1, 1, 159]), (20, [0], [30, 0, -1, 1, 159]), (102, [12], [0, 13008, 13009, 13158, 13159]), (23, [1, 12], [0, 1, -1]), (101, [0, 11], [158]), (1, [11, 7, 10], []), (102, [8], [0]), (101, [0, 7], [158]), (1, [7, 5, 6], [])], [], [(0, 0, 2009, [])], [(20, [0], [50, 2, 1, 158, 157, 160, 2, 12, 0, 7, 4, 3, 2, 0, 158, 0, 1, 2, 0, 157, 2, 7, 0, 3, 2, 0, 157, 0, 2010, 3, 14, 1, 10, 3, 0, 160, 5, 3, 2, 0, 157, 0, 1, 0, 0, 1, 10, 3, 0, 160, 5, 3, 2, 0, 157, 0, 1, 0, 4]), (20, [0, 15], [30, 0, 1, 1, 158, -1, 0, 0]), (20, [0, 15], [30, 0, -1, 1, 158, 1, 0, 0]), (23, [1, 15], [0, 1, -1])], [], [(11, 7, 1, 1), (11, 5, 2, 2), (7, 5, 1, 1)])
theorem oo_Mo_rule_at_f0_3 {kA : Nat → ClassId} : or_ok kA GG o_Mo_rule_at_f0_3 := by
  intro A ta ws vs hD hth hl hk hds hf
  have hl : vs.length = 15 := hl
  have hk : ∀ q ∈ ([(0, (2, 0, 0, [150])), (1, (0, 0, 2009, [])), (5, (0, 0, 2009, [])), (6, (0, 1, 1, [])), (7, (0, 1, 2009, [])), (10, (0, 1, 1, [])), (11, (0, 2, 2009, [])), (12, (0, 0, 2009, []))] : List (Nat × tv_T)), tv_ok ta q.2 (n_v vs q.1) := hk
  obtain ⟨t0, hk⟩ := List.forall_mem_cons.mp hk
  have t0 : tv_ok ta (2, 0, 0, [150]) (n_v vs 0) := t0
  have r0 : ta (v_ad (n_v vs 0)) = some 150 := tv_rg t0
  obtain ⟨t1, hk⟩ := List.forall_mem_cons.mp hk
  have t1 : tv_ok ta (0, 0, 2009, []) (n_v vs 1) := t1
  have k1 : 0 ≤ v_iv (n_v vs 1) ∧ v_iv (n_v vs 1) ≤ 2009 := tv_rng t1
  obtain ⟨t5, hk⟩ := List.forall_mem_cons.mp hk
  have t5 : tv_ok ta (0, 0, 2009, []) (n_v vs 5) := t5
  have k5 : 0 ≤ v_iv (n_v vs 5) ∧ v_iv (n_v vs 5) ≤ 2009 := tv_rng t5
  obtain ⟨t6, hk⟩ := List.forall_mem_cons.mp hk
  have t6 : tv_ok ta (0, 1, 1, []) (n_v vs 6) := t6
  have k6 : 1 ≤ v_iv (n_v vs 6) ∧ v_iv (n_v vs 6) ≤ 1 := tv_rng t6
  obtain ⟨t7, hk⟩ := List.forall_mem_cons.mp hk
  have t7 : tv_ok ta (0, 1, 2009, []) (n_v vs 7) := t7
  have k7 : 1 ≤ v_iv (n_v vs 7) ∧ v_iv (n_v vs 7) ≤ 2009 := tv_rng t7
  obtain ⟨t10, hk⟩ := List.forall_mem_cons.mp hk
  have t10 : tv_ok ta (0, 1, 1, []) (n_v vs 10) := t10
  have k10 : 1 ≤ v_iv (n_v vs 10) ∧ v_iv (n_v vs 10) ≤ 1 := tv_rng t10
  obtain ⟨t11, hk⟩ := List.forall_mem_cons.mp hk
  have t11 : tv_ok ta (0, 2, 2009, []) (n_v vs 11) := t11
  have k11 : 2 ≤ v_iv (n_v vs 11) ∧ v_iv (n_v vs 11) ≤ 2009 := tv_rng t11
  obtain ⟨t12, hk⟩ := List.forall_mem_cons.mp hk
  have t12 : tv_ok ta (0, 0, 2009, []) (n_v vs 12) := t12
  have k12 : 0 ≤ v_iv (n_v vs 12) ∧ v_iv (n_v vs 12) ≤ 2009 := tv_rng t12
  have hds : ∀ q ∈ ([(11, 7, 1, 1), (11, 5, 2, 2), (7, 5, 1, 1)] : List of_T), n_iv vs q.2.1 + q.2.2.1 ≤ n_iv vs q.1 ∧ n_iv vs q.1 ≤ n_iv vs q.2.1 + q.2.2.2 := hds
  obtain ⟨d0, hds⟩ := List.forall_mem_cons.mp hds
  have d0 : v_iv (n_v vs 7) + 1 ≤ v_iv (n_v vs 11) ∧ v_iv (n_v vs 11) ≤ v_iv (n_v vs 7) + 1 := d0
  obtain ⟨d1, hds⟩ := List.forall_mem_cons.mp hds
  have d1 : v_iv (n_v vs 5) + 2 ≤ v_iv (n_v vs 11) ∧ v_iv (n_v vs 11) ≤ v_iv (n_v vs 5) + 2 := d1
  obtain ⟨d2, hds⟩ := List.forall_mem_cons.mp hds
  have d2 : v_iv (n_v vs 5) + 1 ≤ v_iv (n_v vs 7) ∧ v_iv (n_v vs 7) ≤ v_iv (n_v vs 5) + 1 := d2
  have hf : fc_ok [(23, [1, 12], [0, 1, -1]), (20, [0], [50, 2, 1, 158, 157, 160, 2, 12, 0, 7, 4, 3, 2, 0, 158, 0, 1, 2, 0, 157, 2, 7, 0, 3, 2, 0, 157, 0, 2010, 3, 14, 1, 10, 3, 0, 160, 5, 3, 2, 0, 157, 0, 1, 0, 0, 1, 10, 3, 0, 160, 5, 3, 2, 0, 157, 0, 1, 0, 4]), (20, [12, 0], [30, 0, 1, 0, 0, -1, 1, 158]), (20, [0], [30, 0, 1, 1, 159]), (20, [0], [30, 0, -1, 1, 159]), (102, [12], [0, 13008, 13009, 13158, 13159]), (23, [1, 12], [0, 1, -1]), (101, [0, 11], [158]), (1, [11, 7, 10], []), (102, [8], [0]), (101, [0, 7], [158]), (1, [7, 5, 6], [])] ta ws vs := hf
  obtain ⟨f0, hf⟩ := fc_un (show (23 : Nat) < 100 from by decide) hf
  have f0 : 1 * v_iv (n_v vs 1) + ((-1) * v_iv (n_v vs 12) + 0) ≤ 0 := f0
  obtain ⟨f1, hf⟩ := fc_un (show (20 : Nat) < 100 from by decide) hf
  have f1 : ((w_fi ws (n_v vs 0) 158 + 1) ≤ w_fi ws (n_v vs 0) 157) ∧ ((w_fi ws (n_v vs 0) 157 ≤ 2010) ∧ ((w_ei ws (w_ar ws (n_v vs 0) 160) ((w_fi ws (n_v vs 0) 157 - 1)) = 0) ∨ (w_ei ws (w_ar ws (n_v vs 0) 160) ((w_fi ws (n_v vs 0) 157 - 1)) = 4))) := f1
  obtain ⟨f2, hf⟩ := fc_un (show (20 : Nat) < 100 from by decide) hf
  have f2 : 1 * v_iv (n_v vs 12) + ((-1) * w_fi ws (n_v vs 0) 158 + 0) ≤ 0 := f2
  obtain ⟨f3, hf⟩ := fc_un (show (20 : Nat) < 100 from by decide) hf
  have f3 : 1 * w_fi ws (n_v vs 0) 159 + 0 ≤ 0 := f3
  obtain ⟨f4, hf⟩ := fc_un (show (20 : Nat) < 100 from by decide) hf
  have f4 : (-1) * w_fi ws (n_v vs 0) 159 + 0 ≤ 0 := f4
  obtain ⟨ta1, w1, le1, ⟨_, s1⟩, hf⟩ := fc_us (show ¬ (102 : Nat) < 100 from by decide) hf
  obtain ⟨f6, hf⟩ := fc_un (show (23 : Nat) < 100 from by decide) hf
  have f6 : 1 * v_iv (n_v vs 1) + ((-1) * v_iv (n_v vs 12) + 0) ≤ 0 := f6
  obtain ⟨ta2, w2, le2, ⟨_, s2⟩, hf⟩ := fc_us (show ¬ (101 : Nat) < 100 from by decide) hf
  have s2 : (∀ b j, w_el w1 b j = w_el w2 b j) ∧ ∀ b j, w_fd w1 b j = if b = v_ad (n_v vs 0) ∧ j = 158 then n_v vs 11 else w_fd w2 b j := s2
  obtain ⟨f8, hf⟩ := fc_un (show (1 : Nat) < 100 from by decide) hf
  have f8 : v_iv (n_v vs 11) = v_iv (n_v vs 7) + v_iv (n_v vs 10) := f8
  obtain ⟨ta3, w3, le3, ⟨_, s3⟩, hf⟩ := fc_us (show ¬ (102 : Nat) < 100 from by decide) hf
  obtain ⟨ta4, w4, le4, ⟨_, s4⟩, hf⟩ := fc_us (show ¬ (101 : Nat) < 100 from by decide) hf
  have s4 : (∀ b j, w_el w3 b j = w_el w4 b j) ∧ ∀ b j, w_fd w3 b j = if b = v_ad (n_v vs 0) ∧ j = 158 then n_v vs 7 else w_fd w4 b j := s4
  obtain ⟨f11, hf⟩ := fc_un (show (1 : Nat) < 100 from by decide) hf
  have f11 : v_iv (n_v vs 7) = v_iv (n_v vs 5) + v_iv (n_v vs 6) := f11
  have cr_0_160 : ta (w_ar ws (n_v vs 0) 160) = some 259 := tv_rg (th_fd hD hth r0 (g := GG_150) rfl (k := 160) (t := (2, 0, 0, [259])) rfl rfl)
  have hK_0_160 : ∀ j : Int, 0 ≤ j → j < 2010 → 0 ≤ w_ei ws (w_ar ws (n_v vs 0) 160) j ∧ w_ei ws (w_ar ws (n_v vs 0) 160) j ≤ 4 := fun j h0 h1 => th_el hD hth cr_0_160 (kd := 0) (n := 2010) (m := 2010) (lo := 0) (hi := 4) (rs := []) (L := []) rfl (by decide) (j := j.toNat) (by omega)
  have kz_0_157 : 0 ≤ w_fi ws (n_v vs 0) 157 ∧ w_fi ws (n_v vs 0) 157 ≤ 2010 := tv_rng (th_fd hD hth r0 (g := GG_150) rfl (k := 157) (t := (0, 0, 2010, [])) rfl rfl)
  have kz_0_158 : 0 ≤ w_fi ws (n_v vs 0) 158 ∧ w_fi ws (n_v vs 0) 158 ≤ 2009 := tv_rng (th_fd hD hth r0 (g := GG_150) rfl (k := 158) (t := (0, 0, 2009, [])) rfl rfl)
  have kz_0_159 : 0 ≤ w_fi ws (n_v vs 0) 159 ∧ w_fi ws (n_v vs 0) 159 ≤ 13 := tv_rng (th_fd hD hth r0 (g := GG_150) rfl (k := 159) (t := (0, 0, 13, [])) rfl rfl)
  have kv0 : 0 ≤ w_fi ws (n_v vs 0) 158 ∧ w_fi ws (n_v vs 0) 158 ≤ 2009 := tv_rng (th_fd hD hth r0 (g := GG_150) rfl (k := 158) (t := (0, 0, 2009, [])) rfl rfl)
  obtain ⟨x, ex, hx⟩ := iv_ex (ta := ta) (lo := 0) (hi := 2009) (z := w_fi ws (n_v vs 0) 158) (by omega) (by omega) (by omega) (by omega)
  have ex2 : v_iv (Value.int x) = w_fi ws (n_v vs 0) 158 := ex
  have ex3 : 0 ≤ v_iv (Value.int x) ∧ v_iv (Value.int x) ≤ 2009 := tv_rng hx
  have e_0 : n_v (vs ++ [Value.int x]) 0 = n_v vs 0 := n_v_old (by rw [hl]; decide)
  have e_1 : n_v (vs ++ [Value.int x]) 1 = n_v vs 1 := n_v_old (by rw [hl]; decide)
  have e_15 : n_v (vs ++ [Value.int x]) 15 = Value.int x := n_v_new hl
  have nf0 : fc_1 (20, [0], [50, 2, 1, 158, 157, 160, 2, 12, 0, 7, 4, 3, 2, 0, 158, 0, 1, 2, 0, 157, 2, 7, 0, 3, 2, 0, 157, 0, 2010, 3, 14, 1, 10, 3, 0, 160, 5, 3, 2, 0, 157, 0, 1, 0, 0, 1, 10, 3, 0, 160, 5, 3, 2, 0, 157, 0, 1, 0, 4]) ws (vs ++ [Value.int x]) := by
    refine ⟨fun n hn => ?_, ?_⟩
    · have hn : n ∈ [0] := hn
      rw [List.length_append, hl]
      simp only [List.mem_cons, List.not_mem_nil, or_false] at hn
      show n < 15 + 1; omega
    · show ((w_fi ws (n_v (vs ++ [Value.int x]) 0) 158 + 1) ≤ w_fi ws (n_v (vs ++ [Value.int x]) 0) 157) ∧ ((w_fi ws (n_v (vs ++ [Value.int x]) 0) 157 ≤ 2010) ∧ ((w_ei ws (w_ar ws (n_v (vs ++ [Value.int x]) 0) 160) ((w_fi ws (n_v (vs ++ [Value.int x]) 0) 157 - 1)) = 0) ∨ (w_ei ws (w_ar ws (n_v (vs ++ [Value.int x]) 0) 160) ((w_fi ws (n_v (vs ++ [Value.int x]) 0) 157 - 1)) = 4)))
      rw [e_0]
      first | omega | grind
  have nf1 : fc_1 (20, [0, 15], [30, 0, 1, 1, 158, -1, 0, 0]) ws (vs ++ [Value.int x]) := by
    refine ⟨fun n hn => ?_, ?_⟩
    · have hn : n ∈ [0, 15] := hn
      rw [List.length_append, hl]
      simp only [List.mem_cons, List.not_mem_nil, or_false] at hn
      show n < 15 + 1; omega
    · show 1 * w_fi ws (n_v (vs ++ [Value.int x]) 0) 158 + ((-1) * v_iv (n_v (vs ++ [Value.int x]) 15) + 0) ≤ 0
      rw [e_0]
      rw [e_15]
      omega
  have nf2 : fc_1 (20, [0, 15], [30, 0, -1, 1, 158, 1, 0, 0]) ws (vs ++ [Value.int x]) := by
    refine ⟨fun n hn => ?_, ?_⟩
    · have hn : n ∈ [0, 15] := hn
      rw [List.length_append, hl]
      simp only [List.mem_cons, List.not_mem_nil, or_false] at hn
      show n < 15 + 1; omega
    · show (-1) * w_fi ws (n_v (vs ++ [Value.int x]) 0) 158 + (1 * v_iv (n_v (vs ++ [Value.int x]) 15) + 0) ≤ 0
      rw [e_0]
      rw [e_15]
      omega
  have nf3 : fc_1 (23, [1, 15], [0, 1, -1]) ws (vs ++ [Value.int x]) := by
    refine ⟨fun n hn => ?_, ?_⟩
    · have hn : n ∈ [1, 15] := hn
      rw [List.length_append, hl]
      simp only [List.mem_cons, List.not_mem_nil, or_false] at hn
      show n < 15 + 1; omega
    · show 1 * v_iv (n_v (vs ++ [Value.int x]) 1) + ((-1) * v_iv (n_v (vs ++ [Value.int x]) 15) + 0) ≤ 0
      rw [e_1]
      rw [e_15]
      omega
  exact ⟨fun q hq => (by cases hq), [Value.int x], ag_one hx, List.forall_mem_cons.mpr ⟨⟨show (20 : Nat) < 100 from by decide, nf0⟩, List.forall_mem_cons.mpr ⟨⟨show (20 : Nat) < 100 from by decide, nf1⟩, List.forall_mem_cons.mpr ⟨⟨show (20 : Nat) < 100 from by decide, nf2⟩, List.forall_mem_cons.mpr ⟨⟨show (23 : Nat) < 100 from by decide, nf3⟩, (fun _ h => (by cases h))⟩⟩⟩⟩, (fun _ h => (by cases h))⟩
def o_Mo_rule_at_f0_4 : or_T := (106, 16, [(0, (2, 0, 0, [150])), (1, (0, 0, 2009, [])), (5, (0, 0, 2009, [])), (6, (0, 1, 1, [])), (7, (0, 1, 2009, [])), (10, (0, 1, 1, [])), (11, (0, 2, 2009, [])), (12, (0, 0, 2009, [])), (15, (0, 0, 2009, []))], [(23, [1, 15], [0, 1, -1]), (23, [1, 12], [0, 1, -1]), (20, [0], [30, 0, 1, 1, 159]), (20, [0], [30, 0, -1, 1, 159]), (20, [0], [50, 2, 1, 158, 157, 160, 2, 12, 0, 7, 4, 3, 2, 0, 158, 0, 1, 2, 0, 157, 2, 7, 0, 3, 2, 0, 157, 0, 2010, 3, 14, 1, 10, 3, 0, 160, 5, 3, 2, 0, 157, 0, 1, 0, 0, 1, 10, 3, 0, 160, 5, 3, 2, 0, 157, 0, 1, 0, 4]), (20, [15, 0], [30, 0, 1, 0, 0, -1, 1, 158]), (102, [15], [0, 13008, 13009, 13158]), (23, [1, 15], [0, 1, -1]), (23, [1, 12], [0, 1, -1]), (102, [12], [0, 13008, 13009, 13158, 13159]), (23, [1, 12], [0, 1, -1]), (101, [0, 11], [158]), (1, [11, 7, 10], []), (102, [8], [0]), (101, [0, 7], [158]), (1, [7, 5, 6], [])], [], [(0, 0, 2010, [])], [(20, [0], [50, 2, 1, 158, 157, 160, 2, 12, 0, 7, 4, 3, 2, 0, 158, 0, 1, 2, 0, 157, 2, 7, 0, 3, 2, 0, 157, 0, 2010, 3, 14, 1, 10, 3, 0, 160, 5, 3, 2, 0, 157, 0, 1, 0, 0, 1, 10, 3, 0, 160, 5, 3, 2, 0, 157, 0, 1, 0, 4]), (20, [1, 0], [30, 0, 1, 0, 0, -1, 1, 158]), (20, [0], [30, 0, 1, 1, 159]), (20, [0], [30, 0, -1, 1, 159]), (24, [0, 0], []), (20, [16, 0], [30, 2010, 1, 0, 0, 1, 1, 158]), (20, [16, 0], [30, -2010, -1, 0, 0, -1, 1, 158])], [], [(11, 7, 1, 1), (11, 5, 2, 2), (7, 5, 1, 1)])
theorem oo_Mo_rule_at_f0_4 {kA : Nat → ClassId} : or_ok kA GG o_Mo_rule_at_f0_4 := by
  intro A ta ws vs hD hth hl hk hds hf
  have hl : vs.length = 16 := hl
  have hk : ∀ q ∈ ([(0, (2, 0, 0, [150])), (1, (0, 0, 2009, [])), (5, (0, 0, 2009, [])), (6, (0, 1, 1, [])), (7, (0, 1, 2009, [])), (10, (0, 1, 1, [])), (11, (0, 2, 2009, [])), (12, (0, 0, 2009, [])), (15, (0, 0, 2009, []))] : List (Nat × tv_T)), tv_ok ta q.2 (n_v vs q.1) := hk
  obtain ⟨t0, hk⟩ := List.forall_mem_cons.mp hk
  have t0 : tv_ok ta (2, 0, 0, [150]) (n_v vs 0) := t0
  have r0 : ta (v_ad (n_v vs 0)) = some 150 := tv_rg t0
  obtain ⟨t1, hk⟩ := List.forall_mem_cons.mp hk
  have t1 : tv_ok ta (0, 0, 2009, []) (n_v vs 1) := t1
  have k1 : 0 ≤ v_iv (n_v vs 1) ∧ v_iv (n_v vs 1) ≤ 2009 := tv_rng t1
  obtain ⟨t5, hk⟩ := List.forall_mem_cons.mp hk
  have t5 : tv_ok ta (0, 0, 2009, []) (n_v vs 5) := t5
  have k5 : 0 ≤ v_iv (n_v vs 5) ∧ v_iv (n_v vs 5) ≤ 2009 := tv_rng t5
  obtain ⟨t6, hk⟩ := List.forall_mem_cons.mp hk
  have t6 : tv_ok ta (0, 1, 1, []) (n_v vs 6) := t6
  have k6 : 1 ≤ v_iv (n_v vs 6) ∧ v_iv (n_v vs 6) ≤ 1 := tv_rng t6
  obtain ⟨t7, hk⟩ := List.forall_mem_cons.mp hk
  have t7 : tv_ok ta (0, 1, 2009, []) (n_v vs 7) := t7
  have k7 : 1 ≤ v_iv (n_v vs 7) ∧ v_iv (n_v vs 7) ≤ 2009 := tv_rng t7
  obtain ⟨t10, hk⟩ := List.forall_mem_cons.mp hk
  have t10 : tv_ok ta (0, 1, 1, []) (n_v vs 10) := t10
  have k10 : 1 ≤ v_iv (n_v vs 10) ∧ v_iv (n_v vs 10) ≤ 1 := tv_rng t10
  obtain ⟨t11, hk⟩ := List.forall_mem_cons.mp hk
  have t11 : tv_ok ta (0, 2, 2009, []) (n_v vs 11) := t11
  have k11 : 2 ≤ v_iv (n_v vs 11) ∧ v_iv (n_v vs 11) ≤ 2009 := tv_rng t11
  obtain ⟨t12, hk⟩ := List.forall_mem_cons.mp hk
  have t12 : tv_ok ta (0, 0, 2009, []) (n_v vs 12) := t12
  have k12 : 0 ≤ v_iv (n_v vs 12) ∧ v_iv (n_v vs 12) ≤ 2009 := tv_rng t12
  obtain ⟨t15, hk⟩ := List.forall_mem_cons.mp hk
  have t15 : tv_ok ta (0, 0, 2009, []) (n_v vs 15) := t15
  have k15 : 0 ≤ v_iv (n_v vs 15) ∧ v_iv (n_v vs 15) ≤ 2009 := tv_rng t15
  have hds : ∀ q ∈ ([(11, 7, 1, 1), (11, 5, 2, 2), (7, 5, 1, 1)] : List of_T), n_iv vs q.2.1 + q.2.2.1 ≤ n_iv vs q.1 ∧ n_iv vs q.1 ≤ n_iv vs q.2.1 + q.2.2.2 := hds
  obtain ⟨d0, hds⟩ := List.forall_mem_cons.mp hds
  have d0 : v_iv (n_v vs 7) + 1 ≤ v_iv (n_v vs 11) ∧ v_iv (n_v vs 11) ≤ v_iv (n_v vs 7) + 1 := d0
  obtain ⟨d1, hds⟩ := List.forall_mem_cons.mp hds
  have d1 : v_iv (n_v vs 5) + 2 ≤ v_iv (n_v vs 11) ∧ v_iv (n_v vs 11) ≤ v_iv (n_v vs 5) + 2 := d1
  obtain ⟨d2, hds⟩ := List.forall_mem_cons.mp hds
  have d2 : v_iv (n_v vs 5) + 1 ≤ v_iv (n_v vs 7) ∧ v_iv (n_v vs 7) ≤ v_iv (n_v vs 5) + 1 := d2
  have hf : fc_ok [(23, [1, 15], [0, 1, -1]), (23, [1, 12], [0, 1, -1]), (20, [0], [30, 0, 1, 1, 159]), (20, [0], [30, 0, -1, 1, 159]), (20, [0], [50, 2, 1, 158, 157, 160, 2, 12, 0, 7, 4, 3, 2, 0, 158, 0, 1, 2, 0, 157, 2, 7, 0, 3, 2, 0, 157, 0, 2010, 3, 14, 1, 10, 3, 0, 160, 5, 3, 2, 0, 157, 0, 1, 0, 0, 1, 10, 3, 0, 160, 5, 3, 2, 0, 157, 0, 1, 0, 4]), (20, [15, 0], [30, 0, 1, 0, 0, -1, 1, 158]), (102, [15], [0, 13008, 13009, 13158]), (23, [1, 15], [0, 1, -1]), (23, [1, 12], [0, 1, -1]), (102, [12], [0, 13008, 13009, 13158, 13159]), (23, [1, 12], [0, 1, -1]), (101, [0, 11], [158]), (1, [11, 7, 10], []), (102, [8], [0]), (101, [0, 7], [158]), (1, [7, 5, 6], [])] ta ws vs := hf
  obtain ⟨f0, hf⟩ := fc_un (show (23 : Nat) < 100 from by decide) hf
  have f0 : 1 * v_iv (n_v vs 1) + ((-1) * v_iv (n_v vs 15) + 0) ≤ 0 := f0
  obtain ⟨f1, hf⟩ := fc_un (show (23 : Nat) < 100 from by decide) hf
  have f1 : 1 * v_iv (n_v vs 1) + ((-1) * v_iv (n_v vs 12) + 0) ≤ 0 := f1
  obtain ⟨f2, hf⟩ := fc_un (show (20 : Nat) < 100 from by decide) hf
  have f2 : 1 * w_fi ws (n_v vs 0) 159 + 0 ≤ 0 := f2
  obtain ⟨f3, hf⟩ := fc_un (show (20 : Nat) < 100 from by decide) hf
  have f3 : (-1) * w_fi ws (n_v vs 0) 159 + 0 ≤ 0 := f3
  obtain ⟨f4, hf⟩ := fc_un (show (20 : Nat) < 100 from by decide) hf
  have f4 : ((w_fi ws (n_v vs 0) 158 + 1) ≤ w_fi ws (n_v vs 0) 157) ∧ ((w_fi ws (n_v vs 0) 157 ≤ 2010) ∧ ((w_ei ws (w_ar ws (n_v vs 0) 160) ((w_fi ws (n_v vs 0) 157 - 1)) = 0) ∨ (w_ei ws (w_ar ws (n_v vs 0) 160) ((w_fi ws (n_v vs 0) 157 - 1)) = 4))) := f4
  obtain ⟨f5, hf⟩ := fc_un (show (20 : Nat) < 100 from by decide) hf
  have f5 : 1 * v_iv (n_v vs 15) + ((-1) * w_fi ws (n_v vs 0) 158 + 0) ≤ 0 := f5
  obtain ⟨ta1, w1, le1, ⟨_, s1⟩, hf⟩ := fc_us (show ¬ (102 : Nat) < 100 from by decide) hf
  obtain ⟨f7, hf⟩ := fc_un (show (23 : Nat) < 100 from by decide) hf
  have f7 : 1 * v_iv (n_v vs 1) + ((-1) * v_iv (n_v vs 15) + 0) ≤ 0 := f7
  obtain ⟨f8, hf⟩ := fc_un (show (23 : Nat) < 100 from by decide) hf
  have f8 : 1 * v_iv (n_v vs 1) + ((-1) * v_iv (n_v vs 12) + 0) ≤ 0 := f8
  obtain ⟨ta2, w2, le2, ⟨_, s2⟩, hf⟩ := fc_us (show ¬ (102 : Nat) < 100 from by decide) hf
  obtain ⟨f10, hf⟩ := fc_un (show (23 : Nat) < 100 from by decide) hf
  have f10 : 1 * v_iv (n_v vs 1) + ((-1) * v_iv (n_v vs 12) + 0) ≤ 0 := f10
  obtain ⟨ta3, w3, le3, ⟨_, s3⟩, hf⟩ := fc_us (show ¬ (101 : Nat) < 100 from by decide) hf
  have s3 : (∀ b j, w_el w2 b j = w_el w3 b j) ∧ ∀ b j, w_fd w2 b j = if b = v_ad (n_v vs 0) ∧ j = 158 then n_v vs 11 else w_fd w3 b j := s3
  obtain ⟨f12, hf⟩ := fc_un (show (1 : Nat) < 100 from by decide) hf
  have f12 : v_iv (n_v vs 11) = v_iv (n_v vs 7) + v_iv (n_v vs 10) := f12
  obtain ⟨ta4, w4, le4, ⟨_, s4⟩, hf⟩ := fc_us (show ¬ (102 : Nat) < 100 from by decide) hf
  obtain ⟨ta5, w5, le5, ⟨_, s5⟩, hf⟩ := fc_us (show ¬ (101 : Nat) < 100 from by decide) hf
  have s5 : (∀ b j, w_el w4 b j = w_el w5 b j) ∧ ∀ b j, w_fd w4 b j = if b = v_ad (n_v vs 0) ∧ j = 158 then n_v vs 7 else w_fd w5 b j := s5
  obtain ⟨f15, hf⟩ := fc_un (show (1 : Nat) < 100 from by decide) hf
  have f15 : v_iv (n_v vs 7) = v_iv (n_v vs 5) + v_iv (n_v vs 6) := f15
  have cr_0_160 : ta (w_ar ws (n_v vs 0) 160) = some 259 := tv_rg (th_fd hD hth r0 (g := GG_150) rfl (k := 160) (t := (2, 0, 0, [259])) rfl rfl)
  have hK_0_160 : ∀ j : Int, 0 ≤ j → j < 2010 → 0 ≤ w_ei ws (w_ar ws (n_v vs 0) 160) j ∧ w_ei ws (w_ar ws (n_v vs 0) 160) j ≤ 4 := fun j h0 h1 => th_el hD hth cr_0_160 (kd := 0) (n := 2010) (m := 2010) (lo := 0) (hi := 4) (rs := []) (L := []) rfl (by decide) (j := j.toNat) (by omega)
  have kz_0_157 : 0 ≤ w_fi ws (n_v vs 0) 157 ∧ w_fi ws (n_v vs 0) 157 ≤ 2010 := tv_rng (th_fd hD hth r0 (g := GG_150) rfl (k := 157) (t := (0, 0, 2010, [])) rfl rfl)
  have kz_0_158 : 0 ≤ w_fi ws (n_v vs 0) 158 ∧ w_fi ws (n_v vs 0) 158 ≤ 2009 := tv_rng (th_fd hD hth r0 (g := GG_150) rfl (k := 158) (t := (0, 0, 2009, [])) rfl rfl)
  have kz_0_159 : 0 ≤ w_fi ws (n_v vs 0) 159 ∧ w_fi ws (n_v vs 0) 159 ≤ 13 := tv_rng (th_fd hD hth r0 (g := GG_150) rfl (k := 159) (t := (0, 0, 13, [])) rfl rfl)
  have kb_0_158 : 0 ≤ w_fi ws (n_v vs 0) 158 ∧ w_fi ws (n_v vs 0) 158 ≤ 2009 := tv_rng (th_fd hD hth r0 (g := GG_150) rfl (k := 158) (t := (0, 0, 2009, [])) rfl rfl)
  obtain ⟨x, ex, hx⟩ := iv_ex (ta := ta) (lo := 0) (hi := 2010) (z := 2010 + ((-1) * w_fi ws (n_v vs 0) 158 + 0)) (by omega) (by omega) (by omega) (by omega)
  have ex2 : v_iv (Value.int x) = 2010 + ((-1) * w_fi ws (n_v vs 0) 158 + 0) := ex
  have ex3 : 0 ≤ v_iv (Value.int x) ∧ v_iv (Value.int x) ≤ 2010 := tv_rng hx
  have e_0 : n_v (vs ++ [Value.int x]) 0 = n_v vs 0 := n_v_old (by rw [hl]; decide)
  have e_1 : n_v (vs ++ [Value.int x]) 1 = n_v vs 1 := n_v_old (by rw [hl]; decide)
  have e_16 : n_v (vs ++ [Value.int x]) 16 = Value.int x := n_v_new hl
  have nf0 : fc_1 (20, [0], [50, 2, 1, 158, 157, 160, 2, 12, 0, 7, 4, 3, 2, 0, 158, 0, 1, 2, 0, 157, 2, 7, 0, 3, 2, 0, 157, 0, 2010, 3, 14, 1, 10, 3, 0, 160, 5, 3, 2, 0, 157, 0, 1, 0, 0, 1, 10, 3, 0, 160, 5, 3, 2, 0, 157, 0, 1, 0, 4]) ws (vs ++ [Value.int x]) := by
    refine ⟨fun n hn => ?_, ?_⟩
    · have hn : n ∈ [0] := hn
      rw [List.length_append, hl]
      simp only [List.mem_cons, List.not_mem_nil, or_false] at hn
      show n < 16 + 1; omega
    · show ((w_fi ws (n_v (vs ++ [Value.int x]) 0) 158 + 1) ≤ w_fi ws (n_v (vs ++ [Value.int x]) 0) 157) ∧ ((w_fi ws (n_v (vs ++ [Value.int x]) 0) 157 ≤ 2010) ∧ ((w_ei ws (w_ar ws (n_v (vs ++ [Value.int x]) 0) 160) ((w_fi ws (n_v (vs ++ [Value.int x]) 0) 157 - 1)) = 0) ∨ (w_ei ws (w_ar ws (n_v (vs ++ [Value.int x]) 0) 160) ((w_fi ws (n_v (vs ++ [Value.int x]) 0) 157 - 1)) = 4)))
      rw [e_0]
      first | omega | grind
  have nf1 : fc_1 (20, [1, 0], [30, 0, 1, 0, 0, -1, 1, 158]) ws (vs ++ [Value.int x]) := by
    refine ⟨fun n hn => ?_, ?_⟩
    · have hn : n ∈ [1, 0] := hn
      rw [List.length_append, hl]
      simp only [List.mem_cons, List.not_mem_nil, or_false] at hn
      show n < 16 + 1; omega
    · show 1 * v_iv (n_v (vs ++ [Value.int x]) 1) + ((-1) * w_fi ws (n_v (vs ++ [Value.int x]) 0) 158 + 0) ≤ 0
      rw [e_0]
      rw [e_1]
      omega
  have nf2 : fc_1 (20, [0], [30, 0, 1, 1, 159]) ws (vs ++ [Value.int x]) := by
    refine ⟨fun n hn => ?_, ?_⟩
    · have hn : n ∈ [0] := hn
      rw [List.length_append, hl]
      simp only [List.mem_cons, List.not_mem_nil, or_false] at hn
      show n < 16 + 1; omega
    · show 1 * w_fi ws (n_v (vs ++ [Value.int x]) 0) 159 + 0 ≤ 0
      rw [e_0]
      omega
  have nf3 : fc_1 (20, [0], [30, 0, -1, 1, 159]) ws (vs ++ [Value.int x]) := by
    refine ⟨fun n hn => ?_, ?_⟩
    · have hn : n ∈ [0] := hn
      rw [List.length_append, hl]
      simp only [List.mem_cons, List.not_mem_nil, or_false] at hn
      show n < 16 + 1; omega
    · show (-1) * w_fi ws (n_v (vs ++ [Value.int x]) 0) 159 + 0 ≤ 0
      rw [e_0]
      omega
  have nf4 : fc_1 (24, [0, 0], []) ws (vs ++ [Value.int x]) := by
    refine ⟨fun n hn => ?_, ?_⟩
    · have hn : n ∈ [0, 0] := hn
      rw [List.length_append, hl]
      simp only [List.mem_cons, List.not_mem_nil, or_false] at hn
      show n < 16 + 1; omega
    · show n_v (vs ++ [Value.int x]) 0 = n_v (vs ++ [Value.int x]) 0
      first | rfl | simp only [e_0]
  have nf5 : fc_1 (20, [16, 0], [30, 2010, 1, 0, 0, 1, 1, 158]) ws (vs ++ [Value.int x]) := by
    refine ⟨fun n hn => ?_, ?_⟩
    · have hn : n ∈ [16, 0] := hn
      rw [List.length_append, hl]
      simp only [List.mem_cons, List.not_mem_nil, or_false] at hn
      show n < 16 + 1; omega
    · show 1 * v_iv (n_v (vs ++ [Value.int x]) 16) + (1 * w_fi ws (n_v (vs ++ [Value.int x]) 0) 158 + 0) ≤ 2010
      rw [e_0]
      rw [e_16]
      omega
  have nf6 : fc_1 (20, [16, 0], [30, -2010, -1, 0, 0, -1, 1, 158]) ws (vs ++ [Value.int x]) := by
    refine ⟨fun n hn => ?_, ?_⟩
    · have hn : n ∈ [16, 0] := hn
      rw [List.length_append, hl]
      simp only [List.mem_cons, List.not_mem_nil, or_false] at hn
      show n < 16 + 1; omega
    · show (-1) * v_iv (n_v (vs ++ [Value.int x]) 16) + ((-1) * w_fi ws (n_v (vs ++ [Value.int x]) 0) 158 + 0) ≤ (-2010)
      rw [e_0]
      rw [e_16]
      omega
  exact ⟨fun q hq => (by cases hq), [Value.int x], ag_one hx, List.forall_mem_cons.mpr ⟨⟨show (20 : Nat) < 100 from by decide, nf0⟩, List.forall_mem_cons.mpr ⟨⟨show (20 : Nat) < 100 from by decide, nf1⟩, List.forall_mem_cons.mpr ⟨⟨show (20 : Nat) < 100 from by decide, nf2⟩, List.forall_mem_cons.mpr ⟨⟨show (20 : Nat) < 100 from by decide, nf3⟩, List.forall_mem_cons.mpr ⟨⟨show (24 : Nat) < 100 from by decide, nf4⟩, List.forall_mem_cons.mpr ⟨⟨show (20 : Nat) < 100 from by decide, nf5⟩, List.forall_mem_cons.mpr ⟨⟨show (20 : Nat) < 100 from by decide, nf6⟩, (fun _ h => (by cases h))⟩⟩⟩⟩⟩⟩⟩, (fun _ h => (by cases h))⟩
def o_Mo_rule_at_f0_5 : or_T := (84, 13, [(0, (2, 0, 0, [150])), (1, (0, 0, 2009, [])), (5, (0, 0, 2009, [])), (6, (0, 1, 1, [])), (7, (0, 1, 2009, [])), (9, (0, 0, 0, []))], [(20, [0], [30, 0, 1, 1, 159]), (20, [0], [30, 0, -1, 1, 159]), (20, [9, 0], [50, 1, 1, 1158, 1160, 4, 6, 1, 2, 1, 0, 0, 1, 1, 6, 3, 1, 160, 2, 1, 158, 0, 1]), (20, [0], [30, -1, -1, 1, 8]), (102, [12], [0, 13008, 13009]), (8, [9], [0]), (102, [8], [0]), (101, [0, 7], [158]), (1, [7, 5, 6], [])], [], [], [(20, [0], [50, 2, 1, 158, 157, 160, 2, 12, 0, 7, 4, 3, 2, 0, 158, 0, 1, 2, 0, 157, 2, 7, 0, 3, 2, 0, 157, 0, 2010, 3, 14, 1, 10, 3, 0, 160, 5, 3, 2, 0, 157, 0, 1, 0, 0, 1, 10, 3, 0, 160, 5, 3, 2, 0, 157, 0, 1, 0, 4]), (20, [1, 0], [30, 0, 1, 0, 0, -1, 1, 158]), (20, [0, 1, 0], [31, 1, -1, -1, 1, 8, -1, 1, 0, 0, -1, 1, 158])], [], [(7, 5, 1, 1)])
theorem oo_Mo_rule_at_f0_5 {kA : Nat → ClassId} : or_ok kA GG o_Mo_rule_at_f0_5 := by
  intro A ta ws vs hD hth hl hk hds hf
  have hl : vs.length = 13 := hl
  have hk : ∀ q ∈ ([(0, (2, 0, 0, [150])), (1, (0, 0, 2009, [])), (5, (0, 0, 2009, [])), (6, (0, 1, 1, [])), (7, (0, 1, 2009, [])), (9, (0, 0, 0, []))] : List (Nat × tv_T)), tv_ok ta q.2 (n_v vs q.1) := hk
  obtain ⟨t0, hk⟩ := List.forall_mem_cons.mp hk
  have t0 : tv_ok ta (2, 0, 0, [150]) (n_v vs 0) := t0
  have r0 : ta (v_ad (n_v vs 0)) = some 150 := tv_rg t0
  obtain ⟨t1, hk⟩ := List.forall_mem_cons.mp hk
  have t1 : tv_ok ta (0, 0, 2009, []) (n_v vs 1) := t1
  have k1 : 0 ≤ v_iv (n_v vs 1) ∧ v_iv (n_v vs 1) ≤ 2009 := tv_rng t1
  obtain ⟨t5, hk⟩ := List.forall_mem_cons.mp hk
  have t5 : tv_ok ta (0, 0, 2009, []) (n_v vs 5) := t5
  have k5 : 0 ≤ v_iv (n_v vs 5) ∧ v_iv (n_v vs 5) ≤ 2009 := tv_rng t5
  obtain ⟨t6, hk⟩ := List.forall_mem_cons.mp hk
  have t6 : tv_ok ta (0, 1, 1, []) (n_v vs 6) := t6
  have k6 : 1 ≤ v_iv (n_v vs 6) ∧ v_iv (n_v vs 6) ≤ 1 := tv_rng t6
  obtain ⟨t7, hk⟩ := List.forall_mem_cons.mp hk
  have t7 : tv_ok ta (0, 1, 2009, []) (n_v vs 7) := t7
  have k7 : 1 ≤ v_iv (n_v vs 7) ∧ v_iv (n_v vs 7) ≤ 2009 := tv_rng t7
  obtain ⟨t9, hk⟩ := List.forall_mem_cons.mp hk
  have t9 : tv_ok ta (0, 0, 0, []) (n_v vs 9) := t9
  have k9 : 0 ≤ v_iv (n_v vs 9) ∧ v_iv (n_v vs 9) ≤ 0 := tv_rng t9
  have hds : ∀ q ∈ ([(7, 5, 1, 1)] : List of_T), n_iv vs q.2.1 + q.2.2.1 ≤ n_iv vs q.1 ∧ n_iv vs q.1 ≤ n_iv vs q.2.1 + q.2.2.2 := hds
  obtain ⟨d0, hds⟩ := List.forall_mem_cons.mp hds
  have d0 : v_iv (n_v vs 5) + 1 ≤ v_iv (n_v vs 7) ∧ v_iv (n_v vs 7) ≤ v_iv (n_v vs 5) + 1 := d0
  have hf : fc_ok [(20, [0], [30, 0, 1, 1, 159]), (20, [0], [30, 0, -1, 1, 159]), (20, [9, 0], [50, 1, 1, 1158, 1160, 4, 6, 1, 2, 1, 0, 0, 1, 1, 6, 3, 1, 160, 2, 1, 158, 0, 1]), (20, [0], [30, -1, -1, 1, 8]), (102, [12], [0, 13008, 13009]), (8, [9], [0]), (102, [8], [0]), (101, [0, 7], [158]), (1, [7, 5, 6], [])] ta ws vs := hf
  obtain ⟨f0, hf⟩ := fc_un (show (20 : Nat) < 100 from by decide) hf
  have f0 : 1 * w_fi ws (n_v vs 0) 159 + 0 ≤ 0 := f0
  obtain ⟨f1, hf⟩ := fc_un (show (20 : Nat) < 100 from by decide) hf
  have f1 : (-1) * w_fi ws (n_v vs 0) 159 + 0 ≤ 0 := f1
  obtain ⟨f2, hf⟩ := fc_un (show (20 : Nat) < 100 from by decide) hf
  have f2 : (v_iv (n_v vs 9) = 1) → (w_ei ws (w_ar ws (n_v vs 0) 160) (w_fi ws (n_v vs 0) 158) = 1) := f2
  obtain ⟨f3, hf⟩ := fc_un (show (20 : Nat) < 100 from by decide) hf
  have f3 : (-1) * w_fi ws (n_v vs 0) 8 + 0 ≤ (-1) := f3
  obtain ⟨ta1, w1, le1, ⟨_, s1⟩, hf⟩ := fc_us (show ¬ (102 : Nat) < 100 from by decide) hf
  obtain ⟨f5, hf⟩ := fc_un (show (8 : Nat) < 100 from by decide) hf
  have f5 : v_iv (n_v vs 9) = 0 := f5
  obtain ⟨ta2, w2, le2, ⟨_, s2⟩, hf⟩ := fc_us (show ¬ (102 : Nat) < 100 from by decide) hf
  obtain ⟨ta3, w3, le3, ⟨_, s3⟩, hf⟩ := fc_us (show ¬ (101 : Nat) < 100 from by decide) hf
  have s3 : (∀ b j, w_el w2 b j = w_el w3 b j) ∧ ∀ b j, w_fd w2 b j = if b = v_ad (n_v vs 0) ∧ j = 158 then n_v vs 7 else w_fd w3 b j := s3
  obtain ⟨f8, hf⟩ := fc_un (show (1 : Nat) < 100 from by decide) hf
  have f8 : v_iv (n_v vs 7) = v_iv (n_v vs 5) + v_iv (n_v vs 6) := f8
  have cr_0_160 : ta (w_ar ws (n_v vs 0) 160) = some 259 := tv_rg (th_fd hD hth r0 (g := GG_150) rfl (k := 160) (t := (2, 0, 0, [259])) rfl rfl)
  have hK_0_160 : ∀ j : Int, 0 ≤ j → j < 2010 → 0 ≤ w_ei ws (w_ar ws (n_v vs 0) 160) j ∧ w_ei ws (w_ar ws (n_v vs 0) 160) j ≤ 4 := fun j h0 h1 => th_el hD hth cr_0_160 (kd := 0) (n := 2010) (m := 2010) (lo := 0) (hi := 4) (rs := []) (L := []) rfl (by decide) (j := j.toNat) (by omega)
  have kz_0_8 : 0 ≤ w_fi ws (n_v vs 0) 8 ∧ w_fi ws (n_v vs 0) 8 ≤ 5 := tv_rng (th_fd hD hth r0 (g := GG_150) rfl (k := 8) (t := (0, 0, 5, [])) rfl rfl)
  have kz_0_157 : 0 ≤ w_fi ws (n_v vs 0) 157 ∧ w_fi ws (n_v vs 0) 157 ≤ 2010 := tv_rng (th_fd hD hth r0 (g := GG_150) rfl (k := 157) (t := (0, 0, 2010, [])) rfl rfl)
  have kz_0_158 : 0 ≤ w_fi ws (n_v vs 0) 158 ∧ w_fi ws (n_v vs 0) 158 ≤ 2009 := tv_rng (th_fd hD hth r0 (g := GG_150) rfl (k := 158) (t := (0, 0, 2009, [])) rfl rfl)
  have kz_0_159 : 0 ≤ w_fi ws (n_v vs 0) 159 ∧ w_fi ws (n_v vs 0) 159 ≤ 13 := tv_rng (th_fd hD hth r0 (g := GG_150) rfl (k := 159) (t := (0, 0, 13, [])) rfl rfl)
  have nf0 : fc_1 (20, [0], [50, 2, 1, 158, 157, 160, 2, 12, 0, 7, 4, 3, 2, 0, 158, 0, 1, 2, 0, 157, 2, 7, 0, 3, 2, 0, 157, 0, 2010, 3, 14, 1, 10, 3, 0, 160, 5, 3, 2, 0, 157, 0, 1, 0, 0, 1, 10, 3, 0, 160, 5, 3, 2, 0, 157, 0, 1, 0, 4]) ws (vs) := by
    refine ⟨fun n hn => ?_, ?_⟩
    · have hn : n ∈ [0] := hn
      rw [hl]
      simp only [List.mem_cons, List.not_mem_nil, or_false] at hn
      show n < 13; omega
    · show ((w_fi ws (n_v vs 0) 158 + 1) ≤ w_fi ws (n_v vs 0) 157) ∧ ((w_fi ws (n_v vs 0) 157 ≤ 2010) ∧ ((w_ei ws (w_ar ws (n_v vs 0) 160) ((w_fi ws (n_v vs 0) 157 - 1)) = 0) ∨ (w_ei ws (w_ar ws (n_v vs 0) 160) ((w_fi ws (n_v vs 0) 157 - 1)) = 4)))
      first | omega | grind
  have nf1 : fc_1 (20, [1, 0], [30, 0, 1, 0, 0, -1, 1, 158]) ws (vs) := by
    refine ⟨fun n hn => ?_, ?_⟩
    · have hn : n ∈ [1, 0] := hn
      rw [hl]
      simp only [List.mem_cons, List.not_mem_nil, or_false] at hn
      show n < 13; omega
    · show 1 * v_iv (n_v vs 1) + ((-1) * w_fi ws (n_v vs 0) 158 + 0) ≤ 0
      omega
  have nf2 : fc_1 (20, [0, 1, 0], [31, 1, -1, -1, 1, 8, -1, 1, 0, 0, -1, 1, 158]) ws (vs) := by
    refine ⟨fun n hn => ?_, ?_⟩
    · have hn : n ∈ [0, 1, 0] := hn
      rw [hl]
      simp only [List.mem_cons, List.not_mem_nil, or_false] at hn
      show n < 13; omega
    · show ((-1) * w_fi ws (n_v vs 0) 8 + 0 ≤ (-1)) ∨ (1 * v_iv (n_v vs 1) + ((-1) * w_fi ws (n_v vs 0) 158 + 0) ≤ (-1))
      omega
  refine ⟨(fun _ h => (by cases h)), [], trivial, ?_, (fun _ h => (by cases h))⟩
  rw [List.append_nil]
  exact List.forall_mem_cons.mpr ⟨⟨show (20 : Nat) < 100 from by decide, nf0⟩, List.forall_mem_cons.mpr ⟨⟨show (20 : Nat) < 100 from by decide, nf1⟩, List.forall_mem_cons.mpr ⟨⟨show (20 : Nat) < 100 from by decide, nf2⟩, (fun _ h => (by cases h))⟩⟩⟩
def o_Mo_rule_at_f0_6 : or_T := (57, 10, [(0, (2, 0, 0, [150])), (1, (0, 0, 2009, [])), (3, (0, 0, 0, [])), (5, (0, 1, 1, [])), (7, (0, 0, 2009, [])), (8, (0, 1, 1, [])), (9, (0, 1, 2010, []))], [(1, [9, 7, 8], []), (9, [7, 0], [158]), (20, [0], [50, 2, 1, 158, 157, 160, 2, 12, 0, 7, 4, 3, 2, 0, 158, 0, 1, 2, 0, 157, 2, 7, 0, 3, 2, 0, 157, 0, 2010, 3, 14, 1, 10, 3, 0, 160, 5, 3, 2, 0, 157, 0, 1, 0, 0, 1, 10, 3, 0, 160, 5, 3, 2, 0, 157, 0, 1, 0, 4]), (20, [0, 1], [30, 0, 1, 1, 158, -1, 0, 0]), (20, [0, 1], [30, 0, -1, 1, 158, 1, 0, 0]), (20, [0], [30, 0, 1, 1, 159]), (20, [0], [30, 0, -1, 1, 159]), (20, [3, 0], [50, 1, 1, 1158, 1160, 4, 6, 1, 2, 1, 0, 0, 1, 1, 6, 3, 1, 160, 2, 1, 158, 0, 1]), (20, [5, 0], [50, 1, 1, 1158, 1160, 4, 6, 1, 2, 1, 0, 0, 1, 1, 6, 3, 1, 160, 2, 1, 158, 0, 1]), (101, [0, 6], [164]), (8, [3], [0]), (8, [5], [1]), (20, [0], [50, 2, 1, 158, 157, 160, 2, 12, 0, 7, 4, 3, 2, 0, 158, 0, 1, 2, 0, 157, 2, 7, 0, 3, 2, 0, 157, 0, 2010, 3, 14, 1, 10, 3, 0, 160, 5, 3, 2, 0, 157, 0, 1, 0, 0, 1, 10, 3, 0, 160, 5, 3, 2, 0, 157, 0, 1, 0, 4]), (20, [0, 1], [30, 0, 1, 1, 158, -1, 0, 0]), (20, [0, 1], [30, 0, -1, 1, 158, 1, 0, 0]), (20, [0], [30, 0, 1, 1, 159]), (20, [0], [30, 0, -1, 1, 159]), (20, [3, 0], [50, 1, 1, 1158, 1160, 4, 6, 1, 2, 1, 0, 0, 1, 1, 6, 3, 1, 160, 2, 1, 158, 0, 1]), (20, [5, 0], [50, 1, 1, 1158, 1160, 4, 6, 1, 2, 1, 0, 0, 1, 1, 6, 3, 1, 160, 2, 1, 158, 0, 1]), (102, [4], [0]), (8, [3], [0])], [(9, (0, 1, 2009, []))], [], [], [], [(9, 7, 1, 1)])
theorem oo_Mo_rule_at_f0_6 {kA : Nat → ClassId} : or_ok kA GG o_Mo_rule_at_f0_6 := by
  intro A ta ws vs hD hth hl hk hds hf
  have hl : vs.length = 10 := hl
  have hk : ∀ q ∈ ([(0, (2, 0, 0, [150])), (1, (0, 0, 2009, [])), (3, (0, 0, 0, [])), (5, (0, 1, 1, [])), (7, (0, 0, 2009, [])), (8, (0, 1, 1, [])), (9, (0, 1, 2010, []))] : List (Nat × tv_T)), tv_ok ta q.2 (n_v vs q.1) := hk
  obtain ⟨t0, hk⟩ := List.forall_mem_cons.mp hk
  have t0 : tv_ok ta (2, 0, 0, [150]) (n_v vs 0) := t0
  have r0 : ta (v_ad (n_v vs 0)) = some 150 := tv_rg t0
  obtain ⟨t1, hk⟩ := List.forall_mem_cons.mp hk
  have t1 : tv_ok ta (0, 0, 2009, []) (n_v vs 1) := t1
  have k1 : 0 ≤ v_iv (n_v vs 1) ∧ v_iv (n_v vs 1) ≤ 2009 := tv_rng t1
  obtain ⟨t3, hk⟩ := List.forall_mem_cons.mp hk
  have t3 : tv_ok ta (0, 0, 0, []) (n_v vs 3) := t3
  have k3 : 0 ≤ v_iv (n_v vs 3) ∧ v_iv (n_v vs 3) ≤ 0 := tv_rng t3
  obtain ⟨t5, hk⟩ := List.forall_mem_cons.mp hk
  have t5 : tv_ok ta (0, 1, 1, []) (n_v vs 5) := t5
  have k5 : 1 ≤ v_iv (n_v vs 5) ∧ v_iv (n_v vs 5) ≤ 1 := tv_rng t5
  obtain ⟨t7, hk⟩ := List.forall_mem_cons.mp hk
  have t7 : tv_ok ta (0, 0, 2009, []) (n_v vs 7) := t7
  have k7 : 0 ≤ v_iv (n_v vs 7) ∧ v_iv (n_v vs 7) ≤ 2009 := tv_rng t7
  obtain ⟨t8, hk⟩ := List.forall_mem_cons.mp hk
  have t8 : tv_ok ta (0, 1, 1, []) (n_v vs 8) := t8
  have k8 : 1 ≤ v_iv (n_v vs 8) ∧ v_iv (n_v vs 8) ≤ 1 := tv_rng t8
  obtain ⟨t9, hk⟩ := List.forall_mem_cons.mp hk
  have t9 : tv_ok ta (0, 1, 2010, []) (n_v vs 9) := t9
  have k9 : 1 ≤ v_iv (n_v vs 9) ∧ v_iv (n_v vs 9) ≤ 2010 := tv_rng t9
  have hds : ∀ q ∈ ([(9, 7, 1, 1)] : List of_T), n_iv vs q.2.1 + q.2.2.1 ≤ n_iv vs q.1 ∧ n_iv vs q.1 ≤ n_iv vs q.2.1 + q.2.2.2 := hds
  obtain ⟨d0, hds⟩ := List.forall_mem_cons.mp hds
  have d0 : v_iv (n_v vs 7) + 1 ≤ v_iv (n_v vs 9) ∧ v_iv (n_v vs 9) ≤ v_iv (n_v vs 7) + 1 := d0
  have hf : fc_ok [(1, [9, 7, 8], []), (9, [7, 0], [158]), (20, [0], [50, 2, 1, 158, 157, 160, 2, 12, 0, 7, 4, 3, 2, 0, 158, 0, 1, 2, 0, 157, 2, 7, 0, 3, 2, 0, 157, 0, 2010, 3, 14, 1, 10, 3, 0, 160, 5, 3, 2, 0, 157, 0, 1, 0, 0, 1, 10, 3, 0, 160, 5, 3, 2, 0, 157, 0, 1, 0, 4]), (20, [0, 1], [30, 0, 1, 1, 158, -1, 0, 0]), (20, [0, 1], [30, 0, -1, 1, 158, 1, 0, 0]), (20, [0], [30, 0, 1, 1, 159]), (20, [0], [30, 0, -1, 1, 159]), (20, [3, 0], [50, 1, 1, 1158, 1160, 4, 6, 1, 2, 1, 0, 0, 1, 1, 6, 3, 1, 160, 2, 1, 158, 0, 1]), (20, [5, 0], [50, 1, 1, 1158, 1160, 4, 6, 1, 2, 1, 0, 0, 1, 1, 6, 3, 1, 160, 2, 1, 158, 0, 1]), (101, [0, 6], [164]), (8, [3], [0]), (8, [5], [1]), (20, [0], [50, 2, 1, 158, 157, 160, 2, 12, 0, 7, 4, 3, 2, 0, 158, 0, 1, 2, 0, 157, 2, 7, 0, 3, 2, 0, 157, 0, 2010, 3, 14, 1, 10, 3, 0, 160, 5, 3, 2, 0, 157, 0, 1, 0, 0, 1, 10, 3, 0, 160, 5, 3, 2, 0, 157, 0, 1, 0, 4]), (20, [0, 1], [30, 0, 1, 1, 158, -1, 0, 0]), (20, [0, 1], [30, 0, -1, 1, 158, 1, 0, 0]), (20, [0], [30, 0, 1, 1, 159]), (20, [0], [30, 0, -1, 1, 159]), (20, [3, 0], [50, 1, 1, 1158, 1160, 4, 6, 1, 2, 1, 0, 0, 1, 1, 6, 3, 1, 160, 2, 1, 158, 0, 1]), (20, [5, 0], [50, 1, 1, 1158, 1160, 4, 6, 1, 2, 1, 0, 0, 1, 1, 6, 3, 1, 160, 2, 1, 158, 0, 1]), (102, [4], [0]), (8, [3], [0])] ta ws vs := hf
  obtain ⟨f0, hf⟩ := fc_un (show (1 : Nat) < 100 from by decide) hf
  have f0 : v_iv (n_v vs 9) = v_iv (n_v vs 7) + v_iv (n_v vs 8) := f0
  obtain ⟨f1, hf⟩ := fc_un (show (9 : Nat) < 100 from by decide) hf
  have f1 : n_v vs 7 = w_fd ws (v_ad (n_v vs 0)) 158 := f1
  obtain ⟨f2, hf⟩ := fc_un (show (20 : Nat) < 100 from by decide) hf
  have f2 : ((w_fi ws (n_v vs 0) 158 + 1) ≤ w_fi ws (n_v vs 0) 157) ∧ ((w_fi ws (n_v vs 0) 157 ≤ 2010) ∧ ((w_ei ws (w_ar ws (n_v vs 0) 160) ((w_fi ws (n_v vs 0) 157 - 1)) = 0) ∨ (w_ei ws (w_ar ws (n_v vs 0) 160) ((w_fi ws (n_v vs 0) 157 - 1)) = 4))) := f2
  obtain ⟨f3, hf⟩ := fc_un (show (20 : Nat) < 100 from by decide) hf
  have f3 : 1 * w_fi ws (n_v vs 0) 158 + ((-1) * v_iv (n_v vs 1) + 0) ≤ 0 := f3
  obtain ⟨f4, hf⟩ := fc_un (show (20 : Nat) < 100 from by decide) hf
  have f4 : (-1) * w_fi ws (n_v vs 0) 158 + (1 * v_iv (n_v vs 1) + 0) ≤ 0 := f4
  obtain ⟨f5, hf⟩ := fc_un (show (20 : Nat) < 100 from by decide) hf
  have f5 : 1 * w_fi ws (n_v vs 0) 159 + 0 ≤ 0 := f5
  obtain ⟨f6, hf⟩ := fc_un (show (20 : Nat) < 100 from by decide) hf
  have f6 : (-1) * w_fi ws (n_v vs 0) 159 + 0 ≤ 0 := f6
  obtain ⟨f7, hf⟩ := fc_un (show (20 : Nat) < 100 from by decide) hf
  have f7 : (v_iv (n_v vs 3) = 1) → (w_ei ws (w_ar ws (n_v vs 0) 160) (w_fi ws (n_v vs 0) 158) = 1) := f7
  obtain ⟨f8, hf⟩ := fc_un (show (20 : Nat) < 100 from by decide) hf
  have f8 : (v_iv (n_v vs 5) = 1) → (w_ei ws (w_ar ws (n_v vs 0) 160) (w_fi ws (n_v vs 0) 158) = 1) := f8
  obtain ⟨ta1, w1, le1, ⟨_, s1⟩, hf⟩ := fc_us (show ¬ (101 : Nat) < 100 from by decide) hf
  have s1 : (∀ b j, w_el ws b j = w_el w1 b j) ∧ ∀ b j, w_fd ws b j = if b = v_ad (n_v vs 0) ∧ j = 164 then n_v vs 6 else w_fd w1 b j := s1
  obtain ⟨f10, hf⟩ := fc_un (show (8 : Nat) < 100 from by decide) hf
  have f10 : v_iv (n_v vs 3) = 0 := f10
  obtain ⟨f11, hf⟩ := fc_un (show (8 : Nat) < 100 from by decide) hf
  have f11 : v_iv (n_v vs 5) ≠ 0 := f11
  obtain ⟨f12, hf⟩ := fc_un (show (20 : Nat) < 100 from by decide) hf
  have f12 : ((w_fi w1 (n_v vs 0) 158 + 1) ≤ w_fi w1 (n_v vs 0) 157) ∧ ((w_fi w1 (n_v vs 0) 157 ≤ 2010) ∧ ((w_ei w1 (w_ar w1 (n_v vs 0) 160) ((w_fi w1 (n_v vs 0) 157 - 1)) = 0) ∨ (w_ei w1 (w_ar w1 (n_v vs 0) 160) ((w_fi w1 (n_v vs 0) 157 - 1)) = 4))) := f12
  obtain ⟨f13, hf⟩ := fc_un (show (20 : Nat) < 100 from by decide) hf
  have f13 : 1 * w_fi w1 (n_v vs 0) 158 + ((-1) * v_iv (n_v vs 1) + 0) ≤ 0 := f13
  obtain ⟨f14, hf⟩ := fc_un (show (20 : Nat) < 100 from by decide) hf
  have f14 : (-1) * w_fi w1 (n_v vs 0) 158 + (1 * v_iv (n_v vs 1) + 0) ≤ 0 := f14
  obtain ⟨f15, hf⟩ := fc_un (show (20 : Nat) < 100 from by decide) hf
  have f15 : 1 * w_fi w1 (n_v vs 0) 159 + 0 ≤ 0 := f15
  obtain ⟨f16, hf⟩ := fc_un (show (20 : Nat) < 100 from by decide) hf
  have f16 : (-1) * w_fi w1 (n_v vs 0) 159 + 0 ≤ 0 := f16
  obtain ⟨f17, hf⟩ := fc_un (show (20 : Nat) < 100 from by decide) hf
  have f17 : (v_iv (n_v vs 3) = 1) → (w_ei w1 (w_ar w1 (n_v vs 0) 160) (w_fi w1 (n_v vs 0) 158) = 1) := f17
  obtain ⟨f18, hf⟩ := fc_un (show (20 : Nat) < 100 from by decide) hf
  have f18 : (v_iv (n_v vs 5) = 1) → (w_ei w1 (w_ar w1 (n_v vs 0) 160) (w_fi w1 (n_v vs 0) 158) = 1) := f18
  obtain ⟨ta2, w2, le2, ⟨_, s2⟩, hf⟩ := fc_us (show ¬ (102 : Nat) < 100 from by decide) hf
  obtain ⟨f20, hf⟩ := fc_un (show (8 : Nat) < 100 from by decide) hf
  have f20 : v_iv (n_v vs 3) = 0 := f20
  have ar_0_160_1 : w_ar w1 (n_v vs 0) 160 = w_ar ws (n_v vs 0) 160 := by show v_ad (w_fd w1 _ _) = v_ad (w_fd ws _ _); rw [s1.2, if_neg (fun e => absurd e.2 (by decide))]
  have cr_0_160 : ta (w_ar ws (n_v vs 0) 160) = some 259 := tv_rg (th_fd hD hth r0 (g := GG_150) rfl (k := 160) (t := (2, 0, 0, [259])) rfl rfl)
  have g1 : v_iv (n_v vs 7) = w_fi ws (n_v vs 0) 158 := congrArg v_iv f1
  rw [ar_0_160_1] at f12
  rw [ar_0_160_1] at f17
  rw [ar_0_160_1] at f18
  have fe_0_157_1 : w_fi ws (n_v vs 0) 157 = w_fi w1 (n_v vs 0) 157 := by show v_iv (w_fd _ _ _) = v_iv (w_fd _ _ _); rw [s1.2, if_neg (fun e => absurd e.2 (by decide))]
  have fe_0_158_1 : w_fi ws (n_v vs 0) 158 = w_fi w1 (n_v vs 0) 158 := by show v_iv (w_fd _ _ _) = v_iv (w_fd _ _ _); rw [s1.2, if_neg (fun e => absurd e.2 (by decide))]
  have fe_0_159_1 : w_fi ws (n_v vs 0) 159 = w_fi w1 (n_v vs 0) 159 := by show v_iv (w_fd _ _ _) = v_iv (w_fd _ _ _); rw [s1.2, if_neg (fun e => absurd e.2 (by decide))]
  have hE_0_160_1 : ∀ j : Int, w_ei ws (w_ar ws (n_v vs 0) 160) j = w_ei w1 (w_ar ws (n_v vs 0) 160) j := fun j => s1.1 _ _
  have hK_0_160 : ∀ j : Int, 0 ≤ j → j < 2010 → 0 ≤ w_ei ws (w_ar ws (n_v vs 0) 160) j ∧ w_ei ws (w_ar ws (n_v vs 0) 160) j ≤ 4 := fun j h0 h1 => th_el hD hth cr_0_160 (kd := 0) (n := 2010) (m := 2010) (lo := 0) (hi := 4) (rs := []) (L := []) rfl (by decide) (j := j.toNat) (by omega)
  have kz_0_157 : 0 ≤ w_fi ws (n_v vs 0) 157 ∧ w_fi ws (n_v vs 0) 157 ≤ 2010 := tv_rng (th_fd hD hth r0 (g := GG_150) rfl (k := 157) (t := (0, 0, 2010, [])) rfl rfl)
  have kz_0_158 : 0 ≤ w_fi ws (n_v vs 0) 158 ∧ w_fi ws (n_v vs 0) 158 ≤ 2009 := tv_rng (th_fd hD hth r0 (g := GG_150) rfl (k := 158) (t := (0, 0, 2009, [])) rfl rfl)
  have kz_0_159 : 0 ≤ w_fi ws (n_v vs 0) 159 ∧ w_fi ws (n_v vs 0) 159 ≤ 13 := tv_rng (th_fd hD hth r0 (g := GG_150) rfl (k := 159) (t := (0, 0, 13, [])) rfl rfl)
  have rf9 : tv_ok ta (0, 1, 2009, []) (n_v vs 9) := tv_in t9 (by first | omega | grind) (by first | omega | grind)
  refine ⟨List.forall_mem_cons.mpr ⟨rf9, (fun _ h => (by cases h))⟩, [], trivial, ?_, (fun _ h => (by cases h))⟩
  rw [List.append_nil]
  exact (fun _ h => (by cases h))
def o_Mo_rule_at_f0_7 : or_T := (92, 14, [(0, (2, 0, 0, [150])), (7, (0, 0, 2009, [])), (8, (0, 1, 1, [])), (9, (0, 1, 2009, [])), (11, (0, 1, 1, [])), (12, (0, 1, 1, [])), (13, (0, 2, 2010, []))], [(1, [13, 9, 12], []), (9, [9, 0], [158]), (8, [11], [1]), (20, [0], [30, 0, 1, 1, 159]), (20, [0], [30, 0, -1, 1, 159]), (20, [11, 0], [50, 1, 1, 1158, 1160, 4, 6, 1, 2, 1, 0, 0, 1, 1, 6, 3, 1, 160, 2, 1, 158, 0, 1]), (102, [10], [0]), (101, [0, 9], [158]), (1, [9, 7, 8], [])], [(13, (0, 2, 2009, []))], [], [], [], [(13, 9, 1, 1), (13, 7, 2, 2), (9, 7, 1, 1)])
theorem oo_Mo_rule_at_f0_7 {kA : Nat → ClassId} : or_ok kA GG o_Mo_rule_at_f0_7 := by
  intro A ta ws vs hD hth hl hk hds hf
  have hl : vs.length = 14 := hl
  have hk : ∀ q ∈ ([(0, (2, 0, 0, [150])), (7, (0, 0, 2009, [])), (8, (0, 1, 1, [])), (9, (0, 1, 2009, [])), (11, (0, 1, 1, [])), (12, (0, 1, 1, [])), (13, (0, 2, 2010, []))] : List (Nat × tv_T)), tv_ok ta q.2 (n_v vs q.1) := hk
  obtain ⟨t0, hk⟩ := List.forall_mem_cons.mp hk
  have t0 : tv_ok ta (2, 0, 0, [150]) (n_v vs 0) := t0
  have r0 : ta (v_ad (n_v vs 0)) = some 150 := tv_rg t0
  obtain ⟨t7, hk⟩ := List.forall_mem_cons.mp hk
  have t7 : tv_ok ta (0, 0, 2009, []) (n_v vs 7) := t7
  have k7 : 0 ≤ v_iv (n_v vs 7) ∧ v_iv (n_v vs 7) ≤ 2009 := tv_rng t7
  obtain ⟨t8, hk⟩ := List.forall_mem_cons.mp hk
  have t8 : tv_ok ta (0, 1, 1, []) (n_v vs 8) := t8
  have k8 : 1 ≤ v_iv (n_v vs 8) ∧ v_iv (n_v vs 8) ≤ 1 := tv_rng t8
  obtain ⟨t9, hk⟩ := List.forall_mem_cons.mp hk
  have t9 : tv_ok ta (0, 1, 2009, []) (n_v vs 9) := t9
  have k9 : 1 ≤ v_iv (n_v vs 9) ∧ v_iv (n_v vs 9) ≤ 2009 := tv_rng t9
  obtain ⟨t11, hk⟩ := List.forall_mem_cons.mp hk
  have t11 : tv_ok ta (0, 1, 1, []) (n_v vs 11) := t11
  have k11 : 1 ≤ v_iv (n_v vs 11) ∧ v_iv (n_v vs 11) ≤ 1 := tv_rng t11
  obtain ⟨t12, hk⟩ := List.forall_mem_cons.mp hk
  have t12 : tv_ok ta (0, 1, 1, []) (n_v vs 12) := t12
  have k12 : 1 ≤ v_iv (n_v vs 12) ∧ v_iv (n_v vs 12) ≤ 1 := tv_rng t12
  obtain ⟨t13, hk⟩ := List.forall_mem_cons.mp hk
  have t13 : tv_ok ta (0, 2, 2010, []) (n_v vs 13) := t13
  have k13 : 2 ≤ v_iv (n_v vs 13) ∧ v_iv (n_v vs 13) ≤ 2010 := tv_rng t13
  have hds : ∀ q ∈ ([(13, 9, 1, 1), (13, 7, 2, 2), (9, 7, 1, 1)] : List of_T), n_iv vs q.2.1 + q.2.2.1 ≤ n_iv vs q.1 ∧ n_iv vs q.1 ≤ n_iv vs q.2.1 + q.2.2.2 := hds
  obtain ⟨d0, hds⟩ := List.forall_mem_cons.mp hds
  have d0 : v_iv (n_v vs 9) + 1 ≤ v_iv (n_v vs 13) ∧ v_iv (n_v vs 13) ≤ v_iv (n_v vs 9) + 1 := d0
  obtain ⟨d1, hds⟩ := List.forall_mem_cons.mp hds
  have d1 : v_iv (n_v vs 7) + 2 ≤ v_iv (n_v vs 13) ∧ v_iv (n_v vs 13) ≤ v_iv (n_v vs 7) + 2 := d1
  obtain ⟨d2, hds⟩ := List.forall_mem_cons.mp hds
  have d2 : v_iv (n_v vs 7) + 1 ≤ v_iv (n_v vs 9) ∧ v_iv (n_v vs 9) ≤ v_iv (n_v vs 7) + 1 := d2
  have hf : fc_ok [(1, [13, 9, 12], []), (9, [9, 0], [158]), (8, [11], [1]), (20, [0], [30, 0, 1, 1, 159]), (20, [0], [30, 0, -1, 1, 159]), (20, [11, 0], [50, 1, 1, 1158, 1160, 4, 6, 1, 2, 1, 0, 0, 1, 1, 6, 3, 1, 160, 2, 1, 158, 0, 1]), (102, [10], [0]), (101, [0, 9], [158]), (1, [9, 7, 8], [])] ta ws vs := hf
  obtain ⟨f0, hf⟩ := fc_un (show (1 : Nat) < 100 from by decide) hf
  have f0 : v_iv (n_v vs 13) = v_iv (n_v vs 9) + v_iv (n_v vs 12) := f0
  obtain ⟨f1, hf⟩ := fc_un (show (9 : Nat) < 100 from by decide) hf
  have f1 : n_v vs 9 = w_fd ws (v_ad (n_v vs 0)) 158 := f1
  obtain ⟨f2, hf⟩ := fc_un (show (8 : Nat) < 100 from by decide) hf
  have f2 : v_iv (n_v vs 11) ≠ 0 := f2
  obtain ⟨f3, hf⟩ := fc_un (show (20 : Nat) < 100 from by decide) hf
  have f3 : 1 * w_fi ws (n_v vs 0) 159 + 0 ≤ 0 := f3
  obtain ⟨f4, hf⟩ := fc_un (show (20 : Nat) < 100 from by decide) hf
  have f4 : (-1) * w_fi ws (n_v vs 0) 159 + 0 ≤ 0 := f4
  obtain ⟨f5, hf⟩ := fc_un (show (20 : Nat) < 100 from by decide) hf
  have f5 : (v_iv (n_v vs 11) = 1) → (w_ei ws (w_ar ws (n_v vs 0) 160) (w_fi ws (n_v vs 0) 158) = 1) := f5
  obtain ⟨ta1, w1, le1, ⟨_, s1⟩, hf⟩ := fc_us (show ¬ (102 : Nat) < 100 from by decide) hf
  obtain ⟨ta2, w2, le2, ⟨_, s2⟩, hf⟩ := fc_us (show ¬ (101 : Nat) < 100 from by decide) hf
  have s2 : (∀ b j, w_el w1 b j = w_el w2 b j) ∧ ∀ b j, w_fd w1 b j = if b = v_ad (n_v vs 0) ∧ j = 158 then n_v vs 9 else w_fd w2 b j := s2
  obtain ⟨f8, hf⟩ := fc_un (show (1 : Nat) < 100 from by decide) hf
  have f8 : v_iv (n_v vs 9) = v_iv (n_v vs 7) + v_iv (n_v vs 8) := f8
  have cr_0_160 : ta (w_ar ws (n_v vs 0) 160) = some 259 := tv_rg (th_fd hD hth r0 (g := GG_150) rfl (k := 160) (t := (2, 0, 0, [259])) rfl rfl)
  have g1 : v_iv (n_v vs 9) = w_fi ws (n_v vs 0) 158 := congrArg v_iv f1
  have hK_0_160 : ∀ j : Int, 0 ≤ j → j < 2010 → 0 ≤ w_ei ws (w_ar ws (n_v vs 0) 160) j ∧ w_ei ws (w_ar ws (n_v vs 0) 160) j ≤ 4 := fun j h0 h1 => th_el hD hth cr_0_160 (kd := 0) (n := 2010) (m := 2010) (lo := 0) (hi := 4) (rs := []) (L := []) rfl (by decide) (j := j.toNat) (by omega)
  have kz_0_158 : 0 ≤ w_fi ws (n_v vs 0) 158 ∧ w_fi ws (n_v vs 0) 158 ≤ 2009 := tv_rng (th_fd hD hth r0 (g := GG_150) rfl (k := 158) (t := (0, 0, 2009, [])) rfl rfl)
  have kz_0_159 : 0 ≤ w_fi ws (n_v vs 0) 159 ∧ w_fi ws (n_v vs 0) 159 ≤ 13 := tv_rng (th_fd hD hth r0 (g := GG_150) rfl (k := 159) (t := (0, 0, 13, [])) rfl rfl)
  have rf13 : tv_ok ta (0, 2, 2009, []) (n_v vs 13) := tv_in t13 (by first | omega | grind) (by first | omega | grind)
  refine ⟨List.forall_mem_cons.mpr ⟨rf13, (fun _ h => (by cases h))⟩, [], trivial, ?_, (fun _ h => (by cases h))⟩
  rw [List.append_nil]
  exact (fun _ h => (by cases h))
def o_Mo_rule_at_f0_8 : or_T := (96, 14, [(0, (2, 0, 0, [150])), (1, (0, 0, 2009, [])), (7, (0, 0, 2009, [])), (8, (0, 1, 1, [])), (9, (0, 1, 2009, [])), (11, (0, 1, 1, [])), (12, (0, 1, 1, [])), (13, (0, 2, 2009, []))], [(20, [0], [30, 0, 1, 1, 159]), (20, [0], [30, 0, -1, 1, 159]), (101, [0, 13], [158]), (1, [13, 9, 12], []), (9, [9, 0], [158]), (8, [11], [1]), (20, [0], [30, 0, 1, 1, 159]), (20, [0], [30, 0, -1, 1, 159]), (20, [11, 0], [50, 1, 1, 1158, 1160, 4, 6, 1, 2, 1, 0, 0, 1, 1, 6, 3, 1, 160, 2, 1, 158, 0, 1]), (102, [10], [0]), (101, [0, 9], [158]), (1, [9, 7, 8], [])], [], [(0, 0, 2009, [])], [(20, [0], [50, 2, 1, 158, 157, 160, 2, 12, 0, 7, 4, 3, 2, 0, 158, 0, 1, 2, 0, 157, 2, 7, 0, 3, 2, 0, 157, 0, 2010, 3, 14, 1, 10, 3, 0, 160, 5, 3, 2, 0, 157, 0, 1, 0, 0, 1, 10, 3, 0, 160, 5, 3, 2, 0, 157, 0, 1, 0, 4]), (20, [0, 14], [30, 0, 1, 1, 158, -1, 0, 0]), (20, [0, 14], [30, 0, -1, 1, 158, 1, 0, 0]), (20, [0], [30, 0, 1, 1, 159]), (20, [0], [30, 0, -1, 1, 159]), (23, [1, 14], [0, 1, -1])], [], [(13, 9, 1, 1), (13, 7, 2, 2), (9, 7, 1, 1)])
theorem oo_Mo_rule_at_f0_8 {kA : Nat → ClassId} : or_ok kA GG o_Mo_rule_at_f0_8 := by
  intro A ta ws vs hD hth hl hk hds hf
  have hl : vs.length = 14 := hl
  have hk : ∀ q ∈ ([(0, (2, 0, 0, [150])), (1, (0, 0, 2009, [])), (7, (0, 0, 2009, [])), (8, (0, 1, 1, [])), (9, (0, 1, 2009, [])), (11, (0, 1, 1, [])), (12, (0, 1, 1, [])), (13, (0, 2, 2009, []))] : List (Nat × tv_T)), tv_ok ta q.2 (n_v vs q.1) := hk
  obtain ⟨t0, hk⟩ := List.forall_mem_cons.mp hk
  have t0 : tv_ok ta (2, 0, 0, [150]) (n_v vs 0) := t0
  have r0 : ta (v_ad (n_v vs 0)) = some 150 := tv_rg t0
  obtain ⟨t1, hk⟩ := List.forall_mem_cons.mp hk
  have t1 : tv_ok ta (0, 0, 2009, []) (n_v vs 1) := t1
  have k1 : 0 ≤ v_iv (n_v vs 1) ∧ v_iv (n_v vs 1) ≤ 2009 := tv_rng t1
  obtain ⟨t7, hk⟩ := List.forall_mem_cons.mp hk
  have t7 : tv_ok ta (0, 0, 2009, []) (n_v vs 7) := t7
  have k7 : 0 ≤ v_iv (n_v vs 7) ∧ v_iv (n_v vs 7) ≤ 2009 := tv_rng t7
  obtain ⟨t8, hk⟩ := List.forall_mem_cons.mp hk
  have t8 : tv_ok ta (0, 1, 1, []) (n_v vs 8) := t8
  have k8 : 1 ≤ v_iv (n_v vs 8) ∧ v_iv (n_v vs 8) ≤ 1 := tv_rng t8
  obtain ⟨t9, hk⟩ := List.forall_mem_cons.mp hk
  have t9 : tv_ok ta (0, 1, 2009, []) (n_v vs 9) := t9
  have k9 : 1 ≤ v_iv (n_v vs 9) ∧ v_iv (n_v vs 9) ≤ 2009 := tv_rng t9
  obtain ⟨t11, hk⟩ := List.forall_mem_cons.mp hk
  have t11 : tv_ok ta (0, 1, 1, []) (n_v vs 11) := t11
  have k11 : 1 ≤ v_iv (n_v vs 11) ∧ v_iv (n_v vs 11) ≤ 1 := tv_rng t11
  obtain ⟨t12, hk⟩ := List.forall_mem_cons.mp hk
  have t12 : tv_ok ta (0, 1, 1, []) (n_v vs 12) := t12
  have k12 : 1 ≤ v_iv (n_v vs 12) ∧ v_iv (n_v vs 12) ≤ 1 := tv_rng t12
  obtain ⟨t13, hk⟩ := List.forall_mem_cons.mp hk
  have t13 : tv_ok ta (0, 2, 2009, []) (n_v vs 13) := t13
  have k13 : 2 ≤ v_iv (n_v vs 13) ∧ v_iv (n_v vs 13) ≤ 2009 := tv_rng t13
  have hds : ∀ q ∈ ([(13, 9, 1, 1), (13, 7, 2, 2), (9, 7, 1, 1)] : List of_T), n_iv vs q.2.1 + q.2.2.1 ≤ n_iv vs q.1 ∧ n_iv vs q.1 ≤ n_iv vs q.2.1 + q.2.2.2 := hds
  obtain ⟨d0, hds⟩ := List.forall_mem_cons.mp hds
  have d0 : v_iv (n_v vs 9) + 1 ≤ v_iv (n_v vs 13) ∧ v_iv (n_v vs 13) ≤ v_iv (n_v vs 9) + 1 := d0
  obtain ⟨d1, hds⟩ := List.forall_mem_cons.mp hds
  have d1 : v_iv (n_v vs 7) + 2 ≤ v_iv (n_v vs 13) ∧ v_iv (n_v vs 13) ≤ v_iv (n_v vs 7) + 2 := d1
  obtain ⟨d2, hds⟩ := List.forall_mem_cons.mp hds
  have d2 : v_iv (n_v vs 7) + 1 ≤ v_iv (n_v vs 9) ∧ v_iv (n_v vs 9) ≤ v_iv (n_v vs 7) + 1 := d2
  have hf : fc_ok [(20, [0], [30, 0, 1, 1, 159]), (20, [0], [30, 0, -1, 1, 159]), (101, [0, 13], [158]), (1, [13, 9, 12], []), (9, [9, 0], [158]), (8, [11], [1]), (20, [0], [30, 0, 1, 1, 159]), (20, [0], [30, 0, -1, 1, 159]), (20, [11, 0], [50, 1, 1, 1158, 1160, 4, 6, 1, 2, 1, 0, 0, 1, 1, 6, 3, 1, 160, 2, 1, 158, 0, 1]), (102, [10], [0]), (101, [0, 9], [158]), (1, [9, 7, 8], [])] ta ws vs := hf
  obtain ⟨f0, hf⟩ := fc_un (show (20 : Nat) < 100 from by decide) hf
  have f0 : 1 * w_fi ws (n_v vs 0) 159 + 0 ≤ 0 := f0
  obtain ⟨f1, hf⟩ := fc_un (show (20 : Nat) < 100 from by decide) hf
  have f1 : (-1) * w_fi ws (n_v vs 0) 159 + 0 ≤ 0 := f1
  obtain ⟨ta1, w1, le1, ⟨_, s1⟩, hf⟩ := fc_us (show ¬ (101 : Nat) < 100 from by decide) hf
  have s1 : (∀ b j, w_el ws b j = w_el w1 b j) ∧ ∀ b j, w_fd ws b j = if b = v_ad (n_v vs 0) ∧ j = 158 then n_v vs 13 else w_fd w1 b j := s1
  obtain ⟨f3, hf⟩ := fc_un (show (1 : Nat) < 100 from by decide) hf
  have f3 : v_iv (n_v vs 13) = v_iv (n_v vs 9) + v_iv (n_v vs 12) := f3
  obtain ⟨f4, hf⟩ := fc_un (show (9 : Nat) < 100 from by decide) hf
  have f4 : n_v vs 9 = w_fd w1 (v_ad (n_v vs 0)) 158 := f4
  obtain ⟨f5, hf⟩ := fc_un (show (8 : Nat) < 100 from by decide) hf
  have f5 : v_iv (n_v vs 11) ≠ 0 := f5
  obtain ⟨f6, hf⟩ := fc_un (show (20 : Nat) < 100 from by decide) hf
  have f6 : 1 * w_fi w1 (n_v vs 0) 159 + 0 ≤ 0 := f6
  obtain ⟨f7, hf⟩ := fc_un (show (20 : Nat) < 100 from by decide) hf
  have f7 : (-1) * w_fi w1 (n_v vs 0) 159 + 0 ≤ 0 := f7
  obtain ⟨f8, hf⟩ := fc_un (show (20 : Nat) < 100 from by decide) hf
  have f8 : (v_iv (n_v vs 11) = 1) → (w_ei w1 (w_ar w1 (n_v vs 0) 160) (w_fi w1 (n_v vs 0) 158) = 1) := f8
  obtain ⟨ta2, w2, le2, ⟨_, s2⟩, hf⟩ := fc_us (show ¬ (102 : Nat) < 100 from by decide) hf
  obtain ⟨ta3, w3, le3, ⟨_, s3⟩, hf⟩ := fc_us (show ¬ (101 : Nat) < 100 from by decide) hf
  have s3 : (∀ b j, w_el w2 b j = w_el w3 b j) ∧ ∀ b j, w_fd w2 b j = if b = v_ad (n_v vs 0) ∧ j = 158 then n_v vs 9 else w_fd w3 b j := s3
  obtain ⟨f11, hf⟩ := fc_un (show (1 : Nat) < 100 from by decide) hf
  have f11 : v_iv (n_v vs 9) = v_iv (n_v vs 7) + v_iv (n_v vs 8) := f11
  have ar_0_160_1 : w_ar w1 (n_v vs 0) 160 = w_ar ws (n_v vs 0) 160 := by show v_ad (w_fd w1 _ _) = v_ad (w_fd ws _ _); rw [s1.2, if_neg (fun e => absurd e.2 (by decide))]
  have cr_0_160 : ta (w_ar ws (n_v vs 0) 160) = some 259 := tv_rg (th_fd hD hth r0 (g := GG_150) rfl (k := 160) (t := (2, 0, 0, [259])) rfl rfl)
  have g4 : v_iv (n_v vs 9) = w_fi w1 (n_v vs 0) 158 := congrArg v_iv f4
  rw [ar_0_160_1] at f8
  have fe_0_157_1 : w_fi ws (n_v vs 0) 157 = w_fi w1 (n_v vs 0) 157 := by show v_iv (w_fd _ _ _) = v_iv (w_fd _ _ _); rw [s1.2, if_neg (fun e => absurd e.2 (by decide))]
  have fe_0_158_1 : w_fi ws (n_v vs 0) 158 = v_iv (n_v vs 13) := by show v_iv (w_fd _ _ _) = _; rw [s1.2, if_pos ⟨rfl, rfl⟩]
  have fe_0_159_1 : w_fi ws (n_v vs 0) 159 = w_fi w1 (n_v vs 0) 159 := by show v_iv (w_fd _ _ _) = v_iv (w_fd _ _ _); rw [s1.2, if_neg (fun e => absurd e.2 (by decide))]
  have hE_0_160_1 : ∀ j : Int, w_ei ws (w_ar ws (n_v vs 0) 160) j = w_ei w1 (w_ar ws (n_v vs 0) 160) j := fun j => s1.1 _ _
  have hK_0_160 : ∀ j : Int, 0 ≤ j → j < 2010 → 0 ≤ w_ei ws (w_ar ws (n_v vs 0) 160) j ∧ w_ei ws (w_ar ws (n_v vs 0) 160) j ≤ 4 := fun j h0 h1 => th_el hD hth cr_0_160 (kd := 0) (n := 2010) (m := 2010) (lo := 0) (hi := 4) (rs := []) (L := []) rfl (by decide) (j := j.toNat) (by omega)
  have kz_0_157 : 0 ≤ w_fi ws (n_v vs 0) 157 ∧ w_fi ws (n_v vs 0) 157 ≤ 2010 := tv_rng (th_fd hD hth r0 (g := GG_150) rfl (k := 157) (t := (0, 0, 2010, [])) rfl rfl)
  have kz_0_158 : 0 ≤ w_fi ws (n_v vs 0) 158 ∧ w_fi ws (n_v vs 0) 158 ≤ 2009 := tv_rng (th_fd hD hth r0 (g := GG_150) rfl (k := 158) (t := (0, 0, 2009, [])) rfl rfl)
  have kz_0_159 : 0 ≤ w_fi ws (n_v vs 0) 159 ∧ w_fi ws (n_v vs 0) 159 ≤ 13 := tv_rng (th_fd hD hth r0 (g := GG_150) rfl (k := 159) (t := (0, 0, 13, [])) rfl rfl)
  have kv0 : 0 ≤ w_fi ws (n_v vs 0) 158 ∧ w_fi ws (n_v vs 0) 158 ≤ 2009 := tv_rng (th_fd hD hth r0 (g := GG_150) rfl (k := 158) (t := (0, 0, 2009, [])) rfl rfl)
  obtain ⟨x, ex, hx⟩ := iv_ex (ta := ta) (lo := 0) (hi := 2009) (z := w_fi ws (n_v vs 0) 158) (by omega) (by omega) (by omega) (by omega)
  have ex2 : v_iv (Value.int x) = w_fi ws (n_v vs 0) 158 := ex
  have ex3 : 0 ≤ v_iv (Value.int x) ∧ v_iv (Value.int x) ≤ 2009 := tv_rng hx
  have e_0 : n_v (vs ++ [Value.int x]) 0 = n_v vs 0 := n_v_old (by rw [hl]; decide)
  have e_1 : n_v (vs ++ [Value.int x]) 1 = n_v vs 1 := n_v_old (by rw [hl]; decide)
  have e_14 : n_v (vs ++ [Value.int x]) 14 = Value.int x := n_v_new hl
  have nf0 : fc_1 (20, [0], [50, 2, 1, 158, 157, 160, 2, 12, 0, 7, 4, 3, 2, 0, 158, 0, 1, 2, 0, 157, 2, 7, 0, 3, 2, 0, 157, 0, 2010, 3, 14, 1, 10, 3, 0, 160, 5, 3, 2, 0, 157, 0, 1, 0, 0, 1, 10, 3, 0, 160, 5, 3, 2, 0, 157, 0, 1, 0, 4]) ws (vs ++ [Value.int x]) := by
    refine ⟨fun n hn => ?_, ?_⟩
    · have hn : n ∈ [0] := hn
      rw [List.length_append, hl]
      simp only [List.mem_cons, List.not_mem_nil, or_false] at hn
      show n < 14 + 1; omega
    · show ((w_fi ws (n_v (vs ++ [Value.int x]) 0) 158 + 1) ≤ w_fi ws (n_v (vs ++ [Value.int x]) 0) 157) ∧ ((w_fi ws (n_v (vs ++ [Value.int x]) 0) 157 ≤ 2010) ∧ ((w_ei ws (w_ar ws (n_v (vs ++ [Value.int x]) 0) 160) ((w_fi ws (n_v (vs ++ [Value.int x]) 0) 157 - 1)) = 0) ∨ (w_ei ws (w_ar ws (n_v (vs ++ [Value.int x]) 0) 160) ((w_fi ws (n_v (vs ++ [Value.int x]) 0) 157 - 1)) = 4)))
      rw [e_0]
      first | omega | grind
  have nf1 : fc_1 (20, [0, 14], [30, 0, 1, 1, 158, -1, 0, 0]) ws (vs ++ [Value.int x]) := by
    refine ⟨fun n hn => ?_, ?_⟩
    · have hn : n ∈ [0, 14] := hn
      rw [List.length_append, hl]
      simp only [List.mem_cons, List.not_mem_nil, or_false] at hn
      show n < 14 + 1; omega
    · show 1 * w_fi ws (n_v (vs ++ [Value.int x]) 0) 158 + ((-1) * v_iv (n_v (vs ++ [Value.int x]) 14) + 0) ≤ 0
      rw [e_0]
      rw [e_14]
      omega
  have nf2 : fc_1 (20, [0, 14], [30, 0, -1, 1, 158, 1, 0, 0]) ws (vs ++ [Value.int x]) := by
    refine ⟨fun n hn => ?_, ?_⟩
    · have hn : n ∈ [0, 14] := hn
      rw [List.length_append, hl]
      simp only [List.mem_cons, List.not_mem_nil, or_false] at hn
      show n < 14 + 1; omega
    · show (-1) * w_fi ws (n_v (vs ++ [Value.int x]) 0) 158 + (1 * v_iv (n_v (vs ++ [Value.int x]) 14) + 0) ≤ 0
      rw [e_0]
      rw [e_14]
      omega
  have nf3 : fc_1 (20, [0], [30, 0, 1, 1, 159]) ws (vs ++ [Value.int x]) := by
    refine ⟨fun n hn => ?_, ?_⟩
    · have hn : n ∈ [0] := hn
      rw [List.length_append, hl]
      simp only [List.mem_cons, List.not_mem_nil, or_false] at hn
      show n < 14 + 1; omega
    · show 1 * w_fi ws (n_v (vs ++ [Value.int x]) 0) 159 + 0 ≤ 0
      rw [e_0]
      omega
  have nf4 : fc_1 (20, [0], [30, 0, -1, 1, 159]) ws (vs ++ [Value.int x]) := by
    refine ⟨fun n hn => ?_, ?_⟩
    · have hn : n ∈ [0] := hn
      rw [List.length_append, hl]
      simp only [List.mem_cons, List.not_mem_nil, or_false] at hn
      show n < 14 + 1; omega
    · show (-1) * w_fi ws (n_v (vs ++ [Value.int x]) 0) 159 + 0 ≤ 0
      rw [e_0]
      omega
  have nf5 : fc_1 (23, [1, 14], [0, 1, -1]) ws (vs ++ [Value.int x]) := by
    refine ⟨fun n hn => ?_, ?_⟩
    · have hn : n ∈ [1, 14] := hn
      rw [List.length_append, hl]
      simp only [List.mem_cons, List.not_mem_nil, or_false] at hn
      show n < 14 + 1; omega
    · show 1 * v_iv (n_v (vs ++ [Value.int x]) 1) + ((-1) * v_iv (n_v (vs ++ [Value.int x]) 14) + 0) ≤ 0
      rw [e_1]
      rw [e_14]
      omega
  exact ⟨fun q hq => (by cases hq), [Value.int x], ag_one hx, List.forall_mem_cons.mpr ⟨⟨show (20 : Nat) < 100 from by decide, nf0⟩, List.forall_mem_cons.mpr ⟨⟨show (20 : Nat) < 100 from by decide, nf1⟩, List.forall_mem_cons.mpr ⟨⟨show (20 : Nat) < 100 from by decide, nf2⟩, List.forall_mem_cons.mpr ⟨⟨show (20 : Nat) < 100 from by decide, nf3⟩, List.forall_mem_cons.mpr ⟨⟨show (20 : Nat) < 100 from by decide, nf4⟩, List.forall_mem_cons.mpr ⟨⟨show (23 : Nat) < 100 from by decide, nf5⟩, (fun _ h => (by cases h))⟩⟩⟩⟩⟩⟩, (fun _ h => (by cases h))⟩
def o_Mo_rule_at_f0_9 : or_T := (103, 17, [(0, (2, 0, 0, [150])), (1, (0, 0, 2009, [])), (7, (0, 0, 2009, [])), (8, (0, 1, 1, [])), (9, (0, 1, 2009, [])), (12, (0, 1, 1, [])), (13, (0, 2, 2009, [])), (14, (0, 0, 2009, []))], [(23, [1, 14], [0, 1, -1]), (20, [0], [50, 2, 1, 158, 157, 160, 2, 12, 0, 7, 4, 3, 2, 0, 158, 0, 1, 2, 0, 157, 2, 7, 0, 3, 2, 0, 157, 0, 2010, 3, 14, 1, 10, 3, 0, 160, 5, 3, 2, 0, 157, 0, 1, 0, 0, 1, 10, 3, 0, 160, 5, 3, 2, 0, 157, 0, 1, 0, 4]), (20, [14, 0], [30, 0, 1, 0, 0, -1, 1, 158]), (20, [0], [30, 0, 1, 1, 159]), (20, [0], [30, 0, -1, 1, 159]), (102, [14], [0, 13008, 13009, 13158, 13159]), (23, [1, 14], [0, 1, -1]), (101, [0, 13], [158]), (1, [13, 9, 12], []), (102, [10], [0]), (101, [0, 9], [158]), (1, [9, 7, 8], [])], [], [(0, 0, 2009, [])], [(20, [0], [50, 2, 1, 158, 157, 160, 2, 12, 0, 7, 4, 3, 2, 0, 158, 0, 1, 2, 0, 157, 2, 7, 0, 3, 2, 0, 157, 0, 2010, 3, 14, 1, 10, 3, 0, 160, 5, 3, 2, 0, 157, 0, 1, 0, 0, 1, 10, 3, 0, 160, 5, 3, 2, 0, 157, 0, 1, 0, 4]), (20, [0, 17], [30, 0, 1, 1, 158, -1, 0, 0]), (20, [0, 17], [30, 0, -1, 1, 158, 1, 0, 0]), (23, [1, 17], [0, 1, -1])], [], [(13, 9, 1, 1), (13, 7, 2, 2), (9, 7, 1, 1)])
theorem oo_Mo_rule_at_f0_9 {kA : Nat → ClassId} : or_ok kA GG o_Mo_rule_at_f0_9 := by
  intro A ta ws vs hD hth hl hk hds hf
  have hl : vs.length = 17 := hl
  have hk : ∀ q ∈ ([(0, (2, 0, 0, [150])), (1, (0, 0, 2009, [])), (7, (0, 0, 2009, [])), (8, (0, 1, 1, [])), (9, (0, 1, 2009, [])), (12, (0, 1, 1, [])), (13, (0, 2, 2009, [])), (14, (0, 0, 2009, []))] : List (Nat × tv_T)), tv_ok ta q.2 (n_v vs q.1) := hk
  obtain ⟨t0, hk⟩ := List.forall_mem_cons.mp hk
  have t0 : tv_ok ta (2, 0, 0, [150]) (n_v vs 0) := t0
  have r0 : ta (v_ad (n_v vs 0)) = some 150 := tv_rg t0
  obtain ⟨t1, hk⟩ := List.forall_mem_cons.mp hk
  have t1 : tv_ok ta (0, 0, 2009, []) (n_v vs 1) := t1
  have k1 : 0 ≤ v_iv (n_v vs 1) ∧ v_iv (n_v vs 1) ≤ 2009 := tv_rng t1
  obtain ⟨t7, hk⟩ := List.forall_mem_cons.mp hk
  have t7 : tv_ok ta (0, 0, 2009, []) (n_v vs 7) := t7
  have k7 : 0 ≤ v_iv (n_v vs 7) ∧ v_iv (n_v vs 7) ≤ 2009 := tv_rng t7
  obtain ⟨t8, hk⟩ := List.forall_mem_cons.mp hk
  have t8 : tv_ok ta (0, 1, 1, []) (n_v vs 8) := t8
  have k8 : 1 ≤ v_iv (n_v vs 8) ∧ v_iv (n_v vs 8) ≤ 1 := tv_rng t8
  obtain ⟨t9, hk⟩ := List.forall_mem_cons.mp hk
  have t9 : tv_ok ta (0, 1, 2009, []) (n_v vs 9) := t9
  have k9 : 1 ≤ v_iv (n_v vs 9) ∧ v_iv (n_v vs 9) ≤ 2009 := tv_rng t9
  obtain ⟨t12, hk⟩ := List.forall_mem_cons.mp hk
  have t12 : tv_ok ta (0, 1, 1, []) (n_v vs 12) := t12
  have k12 : 1 ≤ v_iv (n_v vs 12) ∧ v_iv (n_v vs 12) ≤ 1 := tv_rng t12
  obtain ⟨t13, hk⟩ := List.forall_mem_cons.mp hk
  have t13 : tv_ok ta (0, 2, 2009, []) (n_v vs 13) := t13
  have k13 : 2 ≤ v_iv (n_v vs 13) ∧ v_iv (n_v vs 13) ≤ 2009 := tv_rng t13
  obtain ⟨t14, hk⟩ := List.forall_mem_cons.mp hk
  have t14 : tv_ok ta (0, 0, 2009, []) (n_v vs 14) := t14
  have k14 : 0 ≤ v_iv (n_v vs 14) ∧ v_iv (n_v vs 14) ≤ 2009 := tv_rng t14
  have hds : ∀ q ∈ ([(13, 9, 1, 1), (13, 7, 2, 2), (9, 7, 1, 1)] : List of_T), n_iv vs q.2.1 + q.2.2.1 ≤ n_iv vs q.1 ∧ n_iv vs q.1 ≤ n_iv vs q.2.1 + q.2.2.2 := hds
  obtain ⟨d0, hds⟩ := List.forall_mem_cons.mp hds
  have d0 : v_iv (n_v vs 9) + 1 ≤ v_iv (n_v vs 13) ∧ v_iv (n_v vs 13) ≤ v_iv (n_v vs 9) + 1 := d0
  obtain ⟨d1, hds⟩ := List.forall_mem_cons.mp hds
  have d1 : v_iv (n_v vs 7) + 2 ≤ v_iv (n_v vs 13) ∧ v_iv (n_v vs 13) ≤ v_iv (n_v vs 7) + 2 := d1
  obtain ⟨d2, hds⟩ := List.forall_mem_cons.mp hds
  have d2 : v_iv (n_v vs 7) + 1 ≤ v_iv (n_v vs 9) ∧ v_iv (n_v vs 9) ≤ v_iv (n_v vs 7) + 1 := d2
  have hf : fc_ok [(23, [1, 14], [0, 1, -1]), (20, [0], [50, 2, 1, 158, 157, 160, 2, 12, 0, 7, 4, 3, 2, 0, 158, 0, 1, 2, 0, 157, 2, 7, 0, 3, 2, 0, 157, 0, 2010, 3, 14, 1, 10, 3, 0, 160, 5, 3, 2, 0, 157, 0, 1, 0, 0, 1, 10, 3, 0, 160, 5, 3, 2, 0, 157, 0, 1, 0, 4]), (20, [14, 0], [30, 0, 1, 0, 0, -1, 1, 158]), (20, [0], [30, 0, 1, 1, 159]), (20, [0], [30, 0, -1, 1, 159]), (102, [14], [0, 13008, 13009, 13158, 13159]), (23, [1, 14], [0, 1, -1]), (101, [0, 13], [158]), (1, [13, 9, 12], []), (102, [10], [0]), (101, [0, 9], [158]), (1, [9, 7, 8], [])] ta ws vs := hf
  obtain ⟨f0, hf⟩ := fc_un (show (23 : Nat) < 100 from by decide) hf
  have f0 : 1 * v_iv (n_v vs 1) + ((-1) * v_iv (n_v vs 14) + 0) ≤ 0 := f0
  obtain ⟨f1, hf⟩ := fc_un (show (20 : Nat) < 100 from by decide) hf
  have f1 : ((w_fi ws (n_v vs 0) 158 + 1) ≤ w_fi ws (n_v vs 0) 157) ∧ ((w_fi ws (n_v vs 0) 157 ≤ 2010) ∧ ((w_ei ws (w_ar ws (n_v vs 0) 160) ((w_fi ws (n_v vs 0) 157 - 1)) = 0) ∨ (w_ei ws (w_ar ws (n_v vs 0) 160) ((w_fi ws (n_v vs 0) 157 - 1)) = 4))) := f1
  obtain ⟨f2, hf⟩ := fc_un (show (20 : Nat) < 100 from by decide) hf
  have f2 : 1 * v_iv (n_v vs 14) + ((-1) * w_fi ws (n_v vs 0) 158 + 0) ≤ 0 := f2
  obtain ⟨f3, hf⟩ := fc_un (show (20 : Nat) < 100 from by decide) hf
  have f3 : 1 * w_fi ws (n_v vs 0) 159 + 0 ≤ 0 := f3
  obtain ⟨f4, hf⟩ := fc_un (show (20 : Nat) < 100 from by decide) hf
  have f4 : (-1) * w_fi ws (n_v vs 0) 159 + 0 ≤ 0 := f4
  obtain ⟨ta1, w1, le1, ⟨_, s1⟩, hf⟩ := fc_us (show ¬ (102 : Nat) < 100 from by decide) hf
  obtain ⟨f6, hf⟩ := fc_un (show (23 : Nat) < 100 from by decide) hf
  have f6 : 1 * v_iv (n_v vs 1) + ((-1) * v_iv (n_v vs 14) + 0) ≤ 0 := f6
  obtain ⟨ta2, w2, le2, ⟨_, s2⟩, hf⟩ := fc_us (show ¬ (101 : Nat) < 100 from by decide) hf
  have s2 : (∀ b j, w_el w1 b j = w_el w2 b j) ∧ ∀ b j, w_fd w1 b j = if b = v_ad (n_v vs 0) ∧ j = 158 then n_v vs 13 else w_fd w2 b j := s2
  obtain ⟨f8, hf⟩ := fc_un (show (1 : Nat) < 100 from by decide) hf
  have f8 : v_iv (n_v vs 13) = v_iv (n_v vs 9) + v_iv (n_v vs 12) := f8
  obtain ⟨ta3, w3, le3, ⟨_, s3⟩, hf⟩ := fc_us (show ¬ (102 : Nat) < 100 from by decide) hf
  obtain ⟨ta4, w4, le4, ⟨_, s4⟩, hf⟩ := fc_us (show ¬ (101 : Nat) < 100 from by decide) hf
  have s4 : (∀ b j, w_el w3 b j = w_el w4 b j) ∧ ∀ b j, w_fd w3 b j = if b = v_ad (n_v vs 0) ∧ j = 158 then n_v vs 9 else w_fd w4 b j := s4
  obtain ⟨f11, hf⟩ := fc_un (show (1 : Nat) < 100 from by decide) hf
  have f11 : v_iv (n_v vs 9) = v_iv (n_v vs 7) + v_iv (n_v vs 8) := f11
  have cr_0_160 : ta (w_ar ws (n_v vs 0) 160) = some 259 := tv_rg (th_fd hD hth r0 (g := GG_150) rfl (k := 160) (t := (2, 0, 0, [259])) rfl rfl)
  have hK_0_160 : ∀ j : Int, 0 ≤ j → j < 2010 → 0 ≤ w_ei ws (w_ar ws (n_v vs 0) 160) j ∧ w_ei ws (w_ar ws (n_v vs 0) 160) j ≤ 4 := fun j h0 h1 => th_el hD hth cr_0_160 (kd := 0) (n := 2010) (m := 2010) (lo := 0) (hi := 4) (rs := []) (L := []) rfl (by decide) (j := j.toNat) (by omega)
  have kz_0_157 : 0 ≤ w_fi ws (n_v vs 0) 157 ∧ w_fi ws (n_v vs 0) 157 ≤ 2010 := tv_rng (th_fd hD hth r0 (g := GG_150) rfl (k := 157) (t := (0, 0, 2010, [])) rfl rfl)
  have kz_0_158 : 0 ≤ w_fi ws (n_v vs 0) 158 ∧ w_fi ws (n_v vs 0) 158 ≤ 2009 := tv_rng (th_fd hD hth r0 (g := GG_150) rfl (k := 158) (t := (0, 0, 2009, [])) rfl rfl)
  have kz_0_159 : 0 ≤ w_fi ws (n_v vs 0) 159 ∧ w_fi ws (n_v vs 0) 159 ≤ 13 := tv_rng (th_fd hD hth r0 (g := GG_150) rfl (k := 159) (t := (0, 0, 13, [])) rfl rfl)
  have kv0 : 0 ≤ w_fi ws (n_v vs 0) 158 ∧ w_fi ws (n_v vs 0) 158 ≤ 2009 := tv_rng (th_fd hD hth r0 (g := GG_150) rfl (k := 158) (t := (0, 0, 2009, [])) rfl rfl)
  obtain ⟨x, ex, hx⟩ := iv_ex (ta := ta) (lo := 0) (hi := 2009) (z := w_fi ws (n_v vs 0) 158) (by omega) (by omega) (by omega) (by omega)
  have ex2 : v_iv (Value.int x) = w_fi ws (n_v vs 0) 158 := ex
  have ex3 : 0 ≤ v_iv (Value.int x) ∧ v_iv (Value.int x) ≤ 2009 := tv_rng hx
  have e_0 : n_v (vs ++ [Value.int x]) 0 = n_v vs 0 := n_v_old (by rw [hl]; decide)
  have e_1 : n_v (vs ++ [Value.int x]) 1 = n_v vs 1 := n_v_old (by rw [hl]; decide)
  have e_17 : n_v (vs ++ [Value.int x]) 17 = Value.int x := n_v_new hl
  have nf0 : fc_1 (20, [0], [50, 2, 1, 158, 157, 160, 2, 12, 0, 7, 4, 3, 2, 0, 158, 0, 1, 2, 0, 157, 2, 7, 0, 3, 2, 0, 157, 0, 2010, 3, 14, 1, 10, 3, 0, 160, 5, 3, 2, 0, 157, 0, 1, 0, 0, 1, 10, 3, 0, 160, 5, 3, 2, 0, 157, 0, 1, 0, 4]) ws (vs ++ [Value.int x]) := by
    refine ⟨fun n hn => ?_, ?_⟩
    · have hn : n ∈ [0] := hn
      rw [List.length_append, hl]
      simp only [List.mem_cons, List.not_mem_nil, or_false] at hn
      show n < 17 + 1; omega
    · show ((w_fi ws (n_v (vs ++ [Value.int x]) 0) 158 + 1) ≤ w_fi ws (n_v (vs ++ [Value.int x]) 0) 157) ∧ ((w_fi ws (n_v (vs ++ [Value.int x]) 0) 157 ≤ 2010) ∧ ((w_ei ws (w_ar ws (n_v (vs ++ [Value.int x]) 0) 160) ((w_fi ws (n_v (vs ++ [Value.int x]) 0) 157 - 1)) = 0) ∨ (w_ei ws (w_ar ws (n_v (vs ++ [Value.int x]) 0) 160) ((w_fi ws (n_v (vs ++ [Value.int x]) 0) 157 - 1)) = 4)))
      rw [e_0]
      first | omega | grind
  have nf1 : fc_1 (20, [0, 17], [30, 0, 1, 1, 158, -1, 0, 0]) ws (vs ++ [Value.int x]) := by
    refine ⟨fun n hn => ?_, ?_⟩
    · have hn : n ∈ [0, 17] := hn
      rw [List.length_append, hl]
      simp only [List.mem_cons, List.not_mem_nil, or_false] at hn
      show n < 17 + 1; omega
    · show 1 * w_fi ws (n_v (vs ++ [Value.int x]) 0) 158 + ((-1) * v_iv (n_v (vs ++ [Value.int x]) 17) + 0) ≤ 0
      rw [e_0]
      rw [e_17]
      omega
  have nf2 : fc_1 (20, [0, 17], [30, 0, -1, 1, 158, 1, 0, 0]) ws (vs ++ [Value.int x]) := by
    refine ⟨fun n hn => ?_, ?_⟩
    · have hn : n ∈ [0, 17] := hn
      rw [List.length_append, hl]
      simp only [List.mem_cons, List.not_mem_nil, or_false] at hn
      show n < 17 + 1; omega
    · show (-1) * w_fi ws (n_v (vs ++ [Value.int x]) 0) 158 + (1 * v_iv (n_v (vs ++ [Value.int x]) 17) + 0) ≤ 0
      rw [e_0]
      rw [e_17]
      omega
  have nf3 : fc_1 (23, [1, 17], [0, 1, -1]) ws (vs ++ [Value.int x]) := by
    refine ⟨fun n hn => ?_, ?_⟩
    · have hn : n ∈ [1, 17] := hn
      rw [List.length_append, hl]
      simp only [List.mem_cons, List.not_mem_nil, or_false] at hn
      show n < 17 + 1; omega
    · show 1 * v_iv (n_v (vs ++ [Value.int x]) 1) + ((-1) * v_iv (n_v (vs ++ [Value.int x]) 17) + 0) ≤ 0
      rw [e_1]
      rw [e_17]
      omega
  exact ⟨fun q hq => (by cases hq), [Value.int x], ag_one hx, List.forall_mem_cons.mpr ⟨⟨show (20 : Nat) < 100 from by decide, nf0⟩, List.forall_mem_cons.mpr ⟨⟨show (20 : Nat) < 100 from by decide, nf1⟩, List.forall_mem_cons.mpr ⟨⟨show (20 : Nat) < 100 from by decide, nf2⟩, List.forall_mem_cons.mpr ⟨⟨show (23 : Nat) < 100 from by decide, nf3⟩, (fun _ h => (by cases h))⟩⟩⟩⟩, (fun _ h => (by cases h))⟩
def o_Mo_rule_at_f0_10 : or_T := (106, 18, [(0, (2, 0, 0, [150])), (1, (0, 0, 2009, [])), (7, (0, 0, 2009, [])), (8, (0, 1, 1, [])), (9, (0, 1, 2009, [])), (12, (0, 1, 1, [])), (13, (0, 2, 2009, [])), (14, (0, 0, 2009, [])), (17, (0, 0, 2009, []))], [(23, [1, 17], [0, 1, -1]), (23, [1, 14], [0, 1, -1]), (20, [0], [30, 0, 1, 1, 159]), (20, [0], [30, 0, -1, 1, 159]), (20, [0], [50, 2, 1, 158, 157, 160, 2, 12, 0, 7, 4, 3, 2, 0, 158, 0, 1, 2, 0, 157, 2, 7, 0, 3, 2, 0, 157, 0, 2010, 3, 14, 1, 10, 3, 0, 160, 5, 3, 2, 0, 157, 0, 1, 0, 0, 1, 10, 3, 0, 160, 5, 3, 2, 0, 157, 0, 1, 0, 4]), (20, [17, 0], [30, 0, 1, 0, 0, -1, 1, 158]), (102, [17], [0, 13008, 13009, 13158]), (23, [1, 17], [0, 1, -1]), (23, [1, 14], [0, 1, -1]), (102, [14], [0, 13008, 13009, 13158, 13159]), (23, [1, 14], [0, 1, -1]), (101, [0, 13], [158]), (1, [13, 9, 12], []), (102, [10], [0]), (101, [0, 9], [158]), (1, [9, 7, 8], [])], [], [(0, 0, 2010, [])], [(20, [0], [50, 2, 1, 158, 157, 160, 2, 12, 0, 7, 4, 3, 2, 0, 158, 0, 1, 2, 0, 157, 2, 7, 0, 3, 2, 0, 157, 0, 2010, 3, 14, 1, 10, 3, 0, 160, 5, 3, 2, 0, 157, 0, 1, 0, 0, 1, 10, 3, 0, 160, 5, 3, 2, 0, 157, 0, 1, 0, 4]), (20, [1, 0], [30, 0, 1, 0, 0, -1, 1, 158]), (20, [0], [30, 0, 1, 1, 159]), (20, [0], [30, 0, -1, 1, 159]), (24, [0, 0], []), (20, [18, 0], [30, 2010, 1, 0, 0, 1, 1, 158]), (20, [18, 0], [30, -2010, -1, 0, 0, -1, 1, 158])], [], [(13, 9, 1, 1), (13, 7, 2, 2), (9, 7, 1, 1)])
theorem oo_Mo_rule_at_f0_10 {kA : Nat → ClassId} : or_ok kA GG o_Mo_rule_at_f0_10 := by
  intro A ta ws vs hD hth hl hk hds hf
  have hl : vs.length = 18 := hl
  have hk : ∀ q ∈ ([(0, (2, 0, 0, [150])), (1, (0, 0, 2009, [])), (7, (0, 0, 2009, [])), (8, (0, 1, 1, [])), (9, (0, 1, 2009, [])), (12, (0, 1, 1, [])), (13, (0, 2, 2009, [])), (14, (0, 0, 2009, [])), (17, (0, 0, 2009, []))] : List (Nat × tv_T)), tv_ok ta q.2 (n_v vs q.1) := hk
  obtain ⟨t0, hk⟩ := List.forall_mem_cons.mp hk
  have t0 : tv_ok ta (2, 0, 0, [150]) (n_v vs 0) := t0
  have r0 : ta (v_ad (n_v vs 0)) = some 150 := tv_rg t0
  obtain ⟨t1, hk⟩ := List.forall_mem_cons.mp hk
  have t1 : tv_ok ta (0, 0, 2009, []) (n_v vs 1) := t1
  have k1 : 0 ≤ v_iv (n_v vs 1) ∧ v_iv (n_v vs 1) ≤ 2009 := tv_rng t1
  obtain ⟨t7, hk⟩ := List.forall_mem_cons.mp hk
  have t7 : tv_ok ta (0, 0, 2009, []) (n_v vs 7) := t7
  have k7 : 0 ≤ v_iv (n_v vs 7) ∧ v_iv (n_v vs 7) ≤ 2009 := tv_rng t7
  obtain ⟨t8, hk⟩ := List.forall_mem_cons.mp hk
  have t8 : tv_ok ta (0, 1, 1, []) (n_v vs 8) := t8
  have k8 : 1 ≤ v_iv (n_v vs 8) ∧ v_iv (n_v vs 8) ≤ 1 := tv_rng t8
  obtain ⟨t9, hk⟩ := List.forall_mem_cons.mp hk
  have t9 : tv_ok ta (0, 1, 2009, []) (n_v vs 9) := t9
  have k9 : 1 ≤ v_iv (n_v vs 9) ∧ v_iv (n_v vs 9) ≤ 2009 := tv_rng t9
  obtain ⟨t12, hk⟩ := List.forall_mem_cons.mp hk
  have t12 : tv_ok ta (0, 1, 1, []) (n_v vs 12) := t12
  have k12 : 1 ≤ v_iv (n_v vs 12) ∧ v_iv (n_v vs 12) ≤ 1 := tv_rng t12
  obtain ⟨t13, hk⟩ := List.forall_mem_cons.mp hk
  have t13 : tv_ok ta (0, 2, 2009, []) (n_v vs 13) := t13
  have k13 : 2 ≤ v_iv (n_v vs 13) ∧ v_iv (n_v vs 13) ≤ 2009 := tv_rng t13
  obtain ⟨t14, hk⟩ := List.forall_mem_cons.mp hk
  have t14 : tv_ok ta (0, 0, 2009, []) (n_v vs 14) := t14
  have k14 : 0 ≤ v_iv (n_v vs 14) ∧ v_iv (n_v vs 14) ≤ 2009 := tv_rng t14
  obtain ⟨t17, hk⟩ := List.forall_mem_cons.mp hk
  have t17 : tv_ok ta (0, 0, 2009, []) (n_v vs 17) := t17
  have k17 : 0 ≤ v_iv (n_v vs 17) ∧ v_iv (n_v vs 17) ≤ 2009 := tv_rng t17
  have hds : ∀ q ∈ ([(13, 9, 1, 1), (13, 7, 2, 2), (9, 7, 1, 1)] : List of_T), n_iv vs q.2.1 + q.2.2.1 ≤ n_iv vs q.1 ∧ n_iv vs q.1 ≤ n_iv vs q.2.1 + q.2.2.2 := hds
  obtain ⟨d0, hds⟩ := List.forall_mem_cons.mp hds
  have d0 : v_iv (n_v vs 9) + 1 ≤ v_iv (n_v vs 13) ∧ v_iv (n_v vs 13) ≤ v_iv (n_v vs 9) + 1 := d0
  obtain ⟨d1, hds⟩ := List.forall_mem_cons.mp hds
  have d1 : v_iv (n_v vs 7) + 2 ≤ v_iv (n_v vs 13) ∧ v_iv (n_v vs 13) ≤ v_iv (n_v vs 7) + 2 := d1
  obtain ⟨d2, hds⟩ := List.forall_mem_cons.mp hds
  have d2 : v_iv (n_v vs 7) + 1 ≤ v_iv (n_v vs 9) ∧ v_iv (n_v vs 9) ≤ v_iv (n_v vs 7) + 1 := d2
  have hf : fc_ok [(23, [1, 17], [0, 1, -1]), (23, [1, 14], [0, 1, -1]), (20, [0], [30, 0, 1, 1, 159]), (20, [0], [30, 0, -1, 1, 159]), (20, [0], [50, 2, 1, 158, 157, 160, 2, 12, 0, 7, 4, 3, 2, 0, 158, 0, 1, 2, 0, 157, 2, 7, 0, 3, 2, 0, 157, 0, 2010, 3, 14, 1, 10, 3, 0, 160, 5, 3, 2, 0, 157, 0, 1, 0, 0, 1, 10, 3, 0, 160, 5, 3, 2, 0, 157, 0, 1, 0, 4]), (20, [17, 0], [30, 0, 1, 0, 0, -1, 1, 158]), (102, [17], [0, 13008, 13009, 13158]), (23, [1, 17], [0, 1, -1]), (23, [1, 14], [0, 1, -1]), (102, [14], [0, 13008, 13009, 13158, 13159]), (23, [1, 14], [0, 1, -1]), (101, [0, 13], [158]), (1, [13, 9, 12], []), (102, [10], [0]), (101, [0, 9], [158]), (1, [9, 7, 8], [])] ta ws vs := hf
  obtain ⟨f0, hf⟩ := fc_un (show (23 : Nat) < 100 from by decide) hf
  have f0 : 1 * v_iv (n_v vs 1) + ((-1) * v_iv (n_v vs 17) + 0) ≤ 0 := f0
  obtain ⟨f1, hf⟩ := fc_un (show (23 : Nat) < 100 from by decide) hf
  have f1 : 1 * v_iv (n_v vs 1) + ((-1) * v_iv (n_v vs 14) + 0) ≤ 0 := f1
  obtain ⟨f2, hf⟩ := fc_un (show (20 : Nat) < 100 from by decide) hf
  have f2 : 1 * w_fi ws (n_v vs 0) 159 + 0 ≤ 0 := f2
  obtain ⟨f3, hf⟩ := fc_un (show (20 : Nat) < 100 from by decide) hf
  have f3 : (-1) * w_fi ws (n_v vs 0) 159 + 0 ≤ 0 := f3
  obtain ⟨f4, hf⟩ := fc_un (show (20 : Nat) < 100 from by decide) hf
  have f4 : ((w_fi ws (n_v vs 0) 158 + 1) ≤ w_fi ws (n_v vs 0) 157) ∧ ((w_fi ws (n_v vs 0) 157 ≤ 2010) ∧ ((w_ei ws (w_ar ws (n_v vs 0) 160) ((w_fi ws (n_v vs 0) 157 - 1)) = 0) ∨ (w_ei ws (w_ar ws (n_v vs 0) 160) ((w_fi ws (n_v vs 0) 157 - 1)) = 4))) := f4
  obtain ⟨f5, hf⟩ := fc_un (show (20 : Nat) < 100 from by decide) hf
  have f5 : 1 * v_iv (n_v vs 17) + ((-1) * w_fi ws (n_v vs 0) 158 + 0) ≤ 0 := f5
  obtain ⟨ta1, w1, le1, ⟨_, s1⟩, hf⟩ := fc_us (show ¬ (102 : Nat) < 100 from by decide) hf
  obtain ⟨f7, hf⟩ := fc_un (show (23 : Nat) < 100 from by decide) hf
  have f7 : 1 * v_iv (n_v vs 1) + ((-1) * v_iv (n_v vs 17) + 0) ≤ 0 := f7
  obtain ⟨f8, hf⟩ := fc_un (show (23 : Nat) < 100 from by decide) hf
  have f8 : 1 * v_iv (n_v vs 1) + ((-1) * v_iv (n_v vs 14) + 0) ≤ 0 := f8
  obtain ⟨ta2, w2, le2, ⟨_, s2⟩, hf⟩ := fc_us (show ¬ (102 : Nat) < 100 from by decide) hf
  obtain ⟨f10, hf⟩ := fc_un (show (23 : Nat) < 100 from by decide) hf
  have f10 : 1 * v_iv (n_v vs 1) + ((-1) * v_iv (n_v vs 14) + 0) ≤ 0 := f10
  obtain ⟨ta3, w3, le3, ⟨_, s3⟩, hf⟩ := fc_us (show ¬ (101 : Nat) < 100 from by decide) hf
  have s3 : (∀ b j, w_el w2 b j = w_el w3 b j) ∧ ∀ b j, w_fd w2 b j = if b = v_ad (n_v vs 0) ∧ j = 158 then n_v vs 13 else w_fd w3 b j := s3
  obtain ⟨f12, hf⟩ := fc_un (show (1 : Nat) < 100 from by decide) hf
  have f12 : v_iv (n_v vs 13) = v_iv (n_v vs 9) + v_iv (n_v vs 12) := f12
  obtain ⟨ta4, w4, le4, ⟨_, s4⟩, hf⟩ := fc_us (show ¬ (102 : Nat) < 100 from by decide) hf
  obtain ⟨ta5, w5, le5, ⟨_, s5⟩, hf⟩ := fc_us (show ¬ (101 : Nat) < 100 from by decide) hf
  have s5 : (∀ b j, w_el w4 b j = w_el w5 b j) ∧ ∀ b j, w_fd w4 b j = if b = v_ad (n_v vs 0) ∧ j = 158 then n_v vs 9 else w_fd w5 b j := s5
  obtain ⟨f15, hf⟩ := fc_un (show (1 : Nat) < 100 from by decide) hf
  have f15 : v_iv (n_v vs 9) = v_iv (n_v vs 7) + v_iv (n_v vs 8) := f15
  have cr_0_160 : ta (w_ar ws (n_v vs 0) 160) = some 259 := tv_rg (th_fd hD hth r0 (g := GG_150) rfl (k := 160) (t := (2, 0, 0, [259])) rfl rfl)
  have hK_0_160 : ∀ j : Int, 0 ≤ j → j < 2010 → 0 ≤ w_ei ws (w_ar ws (n_v vs 0) 160) j ∧ w_ei ws (w_ar ws (n_v vs 0) 160) j ≤ 4 := fun j h0 h1 => th_el hD hth cr_0_160 (kd := 0) (n := 2010) (m := 2010) (lo := 0) (hi := 4) (rs := []) (L := []) rfl (by decide) (j := j.toNat) (by omega)
  have kz_0_157 : 0 ≤ w_fi ws (n_v vs 0) 157 ∧ w_fi ws (n_v vs 0) 157 ≤ 2010 := tv_rng (th_fd hD hth r0 (g := GG_150) rfl (k := 157) (t := (0, 0, 2010, [])) rfl rfl)
  have kz_0_158 : 0 ≤ w_fi ws (n_v vs 0) 158 ∧ w_fi ws (n_v vs 0) 158 ≤ 2009 := tv_rng (th_fd hD hth r0 (g := GG_150) rfl (k := 158) (t := (0, 0, 2009, [])) rfl rfl)
  have kz_0_159 : 0 ≤ w_fi ws (n_v vs 0) 159 ∧ w_fi ws (n_v vs 0) 159 ≤ 13 := tv_rng (th_fd hD hth r0 (g := GG_150) rfl (k := 159) (t := (0, 0, 13, [])) rfl rfl)
  have kb_0_158 : 0 ≤ w_fi ws (n_v vs 0) 158 ∧ w_fi ws (n_v vs 0) 158 ≤ 2009 := tv_rng (th_fd hD hth r0 (g := GG_150) rfl (k := 158) (t := (0, 0, 2009, [])) rfl rfl)
  obtain ⟨x, ex, hx⟩ := iv_ex (ta := ta) (lo := 0) (hi := 2010) (z := 2010 + ((-1) * w_fi ws (n_v vs 0) 158 + 0)) (by omega) (by omega) (by omega) (by omega)
  have ex2 : v_iv (Value.int x) = 2010 + ((-1) * w_fi ws (n_v vs 0) 158 + 0) := ex
  have ex3 : 0 ≤ v_iv (Value.int x) ∧ v_iv (Value.int x) ≤ 2010 := tv_rng hx
  have e_0 : n_v (vs ++ [Value.int x]) 0 = n_v vs 0 := n_v_old (by rw [hl]; decide)
  have e_1 : n_v (vs ++ [Value.int x]) 1 = n_v vs 1 := n_v_old (by rw [hl]; decide)
  have e_18 : n_v (vs ++ [Value.int x]) 18 = Value.int x := n_v_new hl
  have nf0 : fc_1 (20, [0], [50, 2, 1, 158, 157, 160, 2, 12, 0, 7, 4, 3, 2, 0, 158, 0, 1, 2, 0, 157, 2, 7, 0, 3, 2, 0, 157, 0, 2010, 3, 14, 1, 10, 3, 0, 160, 5, 3, 2, 0, 157, 0, 1, 0, 0, 1, 10, 3, 0, 160, 5, 3, 2, 0, 157, 0, 1, 0, 4]) ws (vs ++ [Value.int x]) := by
    refine ⟨fun n hn => ?_, ?_⟩
    · have hn : n ∈ [0] := hn
      rw [List.length_append, hl]
      simp only [List.mem_cons, List.not_mem_nil, or_false] at hn
      show n < 18 + 1; omega
    · show ((w_fi ws (n_v (vs ++ [Value.int x]) 0) 158 + 1) ≤ w_fi ws (n_v (vs ++ [Value.int x]) 0) 157) ∧ ((w_fi ws (n_v (vs ++ [Value.int x]) 0) 157 ≤ 2010) ∧ ((w_ei ws (w_ar ws (n_v (vs ++ [Value.int x]) 0) 160) ((w_fi ws (n_v (vs ++ [Value.int x]) 0) 157 - 1)) = 0) ∨ (w_ei ws (w_ar ws (n_v (vs ++ [Value.int x]) 0) 160) ((w_fi ws (n_v (vs ++ [Value.int x]) 0) 157 - 1)) = 4)))
      rw [e_0]
      first | omega | grind
  have nf1 : fc_1 (20, [1, 0], [30, 0, 1, 0, 0, -1, 1, 158]) ws (vs ++ [Value.int x]) := by
    refine ⟨fun n hn => ?_, ?_⟩
    · have hn : n ∈ [1, 0] := hn
      rw [List.length_append, hl]
      simp only [List.mem_cons, List.not_mem_nil, or_false] at hn
      show n < 18 + 1; omega
    · show 1 * v_iv (n_v (vs ++ [Value.int x]) 1) + ((-1) * w_fi ws (n_v (vs ++ [Value.int x]) 0) 158 + 0) ≤ 0
      rw [e_0]
      rw [e_1]
      omega
  have nf2 : fc_1 (20, [0], [30, 0, 1, 1, 159]) ws (vs ++ [Value.int x]) := by
    refine ⟨fun n hn => ?_, ?_⟩
    · have hn : n ∈ [0] := hn
      rw [List.length_append, hl]
      simp only [List.mem_cons, List.not_mem_nil, or_false] at hn
      show n < 18 + 1; omega
    · show 1 * w_fi ws (n_v (vs ++ [Value.int x]) 0) 159 + 0 ≤ 0
      rw [e_0]
      omega
  have nf3 : fc_1 (20, [0], [30, 0, -1, 1, 159]) ws (vs ++ [Value.int x]) := by
    refine ⟨fun n hn => ?_, ?_⟩
    · have hn : n ∈ [0] := hn
      rw [List.length_append, hl]
      simp only [List.mem_cons, List.not_mem_nil, or_false] at hn
      show n < 18 + 1; omega
    · show (-1) * w_fi ws (n_v (vs ++ [Value.int x]) 0) 159 + 0 ≤ 0
      rw [e_0]
      omega
  have nf4 : fc_1 (24, [0, 0], []) ws (vs ++ [Value.int x]) := by
    refine ⟨fun n hn => ?_, ?_⟩
    · have hn : n ∈ [0, 0] := hn
      rw [List.length_append, hl]
      simp only [List.mem_cons, List.not_mem_nil, or_false] at hn
      show n < 18 + 1; omega
    · show n_v (vs ++ [Value.int x]) 0 = n_v (vs ++ [Value.int x]) 0
      first | rfl | simp only [e_0]
  have nf5 : fc_1 (20, [18, 0], [30, 2010, 1, 0, 0, 1, 1, 158]) ws (vs ++ [Value.int x]) := by
    refine ⟨fun n hn => ?_, ?_⟩
    · have hn : n ∈ [18, 0] := hn
      rw [List.length_append, hl]
      simp only [List.mem_cons, List.not_mem_nil, or_false] at hn
      show n < 18 + 1; omega
    · show 1 * v_iv (n_v (vs ++ [Value.int x]) 18) + (1 * w_fi ws (n_v (vs ++ [Value.int x]) 0) 158 + 0) ≤ 2010
      rw [e_0]
      rw [e_18]
      omega
  have nf6 : fc_1 (20, [18, 0], [30, -2010, -1, 0, 0, -1, 1, 158]) ws (vs ++ [Value.int x]) := by
    refine ⟨fun n hn => ?_, ?_⟩
    · have hn : n ∈ [18, 0] := hn
      rw [List.length_append, hl]
      simp only [List.mem_cons, List.not_mem_nil, or_false] at hn
      show n < 18 + 1; omega
    · show (-1) * v_iv (n_v (vs ++ [Value.int x]) 18) + ((-1) * w_fi ws (n_v (vs ++ [Value.int x]) 0) 158 + 0) ≤ (-2010)
      rw [e_0]
      rw [e_18]
      omega
  exact ⟨fun q hq => (by cases hq), [Value.int x], ag_one hx, List.forall_mem_cons.mpr ⟨⟨show (20 : Nat) < 100 from by decide, nf0⟩, List.forall_mem_cons.mpr ⟨⟨show (20 : Nat) < 100 from by decide, nf1⟩, List.forall_mem_cons.mpr ⟨⟨show (20 : Nat) < 100 from by decide, nf2⟩, List.forall_mem_cons.mpr ⟨⟨show (20 : Nat) < 100 from by decide, nf3⟩, List.forall_mem_cons.mpr ⟨⟨show (24 : Nat) < 100 from by decide, nf4⟩, List.forall_mem_cons.mpr ⟨⟨show (20 : Nat) < 100 from by decide, nf5⟩, List.forall_mem_cons.mpr ⟨⟨show (20 : Nat) < 100 from by decide, nf6⟩, (fun _ h => (by cases h))⟩⟩⟩⟩⟩⟩⟩, (fun _ h => (by cases h))⟩
def o_Mo_rule_at_f0_11 : or_T := (84, 15, [(0, (2, 0, 0, [150])), (1, (0, 0, 2009, [])), (7, (0, 0, 2009, [])), (8, (0, 1, 1, [])), (9, (0, 1, 2009, [])), (11, (0, 0, 0, []))], [(20, [0], [30, 0, 1, 1, 159]), (20, [0], [30, 0, -1, 1, 159]), (20, [11, 0], [50, 1, 1, 1158, 1160, 4, 6, 1, 2, 1, 0, 0, 1, 1, 6, 3, 1, 160, 2, 1, 158, 0, 1]), (20, [0], [30, -1, -1, 1, 8]), (102, [14], [0, 13008, 13009]), (8, [11], [0]), (102, [10], [0]), (101, [0, 9], [158]), (1, [9, 7, 8], [])], [], [], [(20, [0], [50, 2, 1, 158, 157, 160, 2, 12, 0, 7, 4, 3, 2, 0, 158, 0, 1, 2, 0, 157, 2, 7, 0, 3, 2, 0, 157, 0, 2010, 3, 14, 1, 10, 3, 0, 160, 5, 3, 2, 0, 157, 0, 1, 0, 0, 1, 10, 3, 0, 160, 5, 3, 2, 0, 157, 0, 1, 0, 4]), (20, [1, 0], [30, 0, 1, 0, 0, -1, 1, 158]), (20, [0, 1, 0], [31, 1, -1, -1, 1, 8, -1, 1, 0, 0, -1, 1, 158])], [], [(9, 7, 1, 1)])
theorem oo_Mo_rule_at_f0_11 {kA : Nat → ClassId} : or_ok kA GG o_Mo_rule_at_f0_11 := by
  intro A ta ws vs hD hth hl hk hds hf
  have hl : vs.length = 15 := hl
  have hk : ∀ q ∈ ([(0, (2, 0, 0, [150])), (1, (0, 0, 2009, [])), (7, (0, 0, 2009, [])), (8, (0, 1, 1, [])), (9, (0, 1, 2009, [])), (11, (0, 0, 0, []))] : List (Nat × tv_T)), tv_ok ta q.2 (n_v vs q.1) := hk
  obtain ⟨t0, hk⟩ := List.forall_mem_cons.mp hk
  have t0 : tv_ok ta (2, 0, 0, [150]) (n_v vs 0) := t0
  have r0 : ta (v_ad (n_v vs 0)) = some 150 := tv_rg t0
  obtain ⟨t1, hk⟩ := List.forall_mem_cons.mp hk
  have t1 : tv_ok ta (0, 0, 2009, []) (n_v vs 1) := t1
  have k1 : 0 ≤ v_iv (n_v vs 1) ∧ v_iv (n_v vs 1) ≤ 2009 := tv_rng t1
  obtain ⟨t7, hk⟩ := List.forall_mem_cons.mp hk
  have t7 : tv_ok ta (0, 0, 2009, []) (n_v vs 7) := t7
  have k7 : 0 ≤ v_iv (n_v vs 7) ∧ v_iv (n_v vs 7) ≤ 2009 := tv_rng t7
  obtain ⟨t8, hk⟩ := List.forall_mem_cons.mp hk
  have t8 : tv_ok ta (0, 1, 1, []) (n_v vs 8) := t8
  have k8 : 1 ≤ v_iv (n_v vs 8) ∧ v_iv (n_v vs 8) ≤ 1 := tv_rng t8
  obtain ⟨t9, hk⟩ := List.forall_mem_cons.mp hk
  have t9 : tv_ok ta (0, 1, 2009, []) (n_v vs 9) := t9
  have k9 : 1 ≤ v_iv (n_v vs 9) ∧ v_iv (n_v vs 9) ≤ 2009 := tv_rng t9
  obtain ⟨t11, hk⟩ := List.forall_mem_cons.mp hk
  have t11 : tv_ok ta (0, 0, 0, []) (n_v vs 11) := t11
  have k11 : 0 ≤ v_iv (n_v vs 11) ∧ v_iv (n_v vs 11) ≤ 0 := tv_rng t11
  have hds : ∀ q ∈ ([(9, 7, 1, 1)] : List of_T), n_iv vs q.2.1 + q.2.2.1 ≤ n_iv vs q.1 ∧ n_iv vs q.1 ≤ n_iv vs q.2.1 + q.2.2.2 := hds
  obtain ⟨d0, hds⟩ := List.forall_mem_cons.mp hds
  have d0 : v_iv (n_v vs 7) + 1 ≤ v_iv (n_v vs 9) ∧ v_iv (n_v vs 9) ≤ v_iv (n_v vs 7) + 1 := d0
  have hf : fc_ok [(20, [0], [30, 0, 1, 1, 159]), (20, [0], [30, 0, -1, 1, 159]), (20, [11, 0], [50, 1, 1, 1158, 1160, 4, 6, 1, 2, 1, 0, 0, 1, 1, 6, 3, 1, 160, 2, 1, 158, 0, 1]), (20, [0], [30, -1, -1, 1, 8]), (102, [14], [0, 13008, 13009]), (8, [11], [0]), (102, [10], [0]), (101, [0, 9], [158]), (1, [9, 7, 8], [])] ta ws vs := hf
  obtain ⟨f0, hf⟩ := fc_un (show (20 : Nat) < 100 from by decide) hf
  have f0 : 1 * w_fi ws (n_v vs 0) 159 + 0 ≤ 0 := f0
  obtain ⟨f1, hf⟩ := fc_un (show (20 : Nat) < 100 from by decide) hf
  have f1 : (-1) * w_fi ws (n_v vs 0) 159 + 0 ≤ 0 := f1
  obtain ⟨f2, hf⟩ := fc_un (show (20 : Nat) < 100 from by decide) hf
  have f2 : (v_iv (n_v vs 11) = 1) → (w_ei ws (w_ar ws (n_v vs 0) 160) (w_fi ws (n_v vs 0) 158) = 1) := f2
  obtain ⟨f3, hf⟩ := fc_un (show (20 : Nat) < 100 from by decide) hf
  have f3 : (-1) * w_fi ws (n_v vs 0) 8 + 0 ≤ (-1) := f3
  obtain ⟨ta1, w1, le1, ⟨_, s1⟩, hf⟩ := fc_us (show ¬ (102 : Nat) < 100 from by decide) hf
  obtain ⟨f5, hf⟩ := fc_un (show (8 : Nat) < 100 from by decide) hf
  have f5 : v_iv (n_v vs 11) = 0 := f5
  obtain ⟨ta2, w2, le2, ⟨_, s2⟩, hf⟩ := fc_us (show ¬ (102 : Nat) < 100 from by decide) hf
  obtain ⟨ta3, w3, le3, ⟨_, s3⟩, hf⟩ := fc_us (show ¬ (101 : Nat) < 100 from by decide) hf
  have s3 : (∀ b j, w_el w2 b j = w_el w3 b j) ∧ ∀ b j, w_fd w2 b j = if b = v_ad (n_v vs 0) ∧ j = 158 then n_v vs 9 else w_fd w3 b j := s3
  obtain ⟨f8, hf⟩ := fc_un (show (1 : Nat) < 100 from by decide) hf
  have f8 : v_iv (n_v vs 9) = v_iv (n_v vs 7) + v_iv (n_v vs 8) := f8
  have cr_0_160 : ta (w_ar ws (n_v vs 0) 160) = some 259 := tv_rg (th_fd hD hth r0 (g := GG_150) rfl (k := 160) (t := (2, 0, 0, [259])) rfl rfl)
  have hK_0_160 : ∀ j : Int, 0 ≤ j → j < 2010 → 0 ≤ w_ei ws (w_ar ws (n_v vs 0) 160) j ∧ w_ei ws (w_ar ws (n_v vs 0) 160) j ≤ 4 := fun j h0 h1 => th_el hD hth cr_0_160 (kd := 0) (n := 2010) (m := 2010) (lo := 0) (hi := 4) (rs := []) (L := []) rfl (by decide) (j := j.toNat) (by omega)
  have kz_0_8 : 0 ≤ w_fi ws (n_v vs 0) 8 ∧ w_fi ws (n_v vs 0) 8 ≤ 5 := tv_rng (th_fd hD hth r0 (g := GG_150) rfl (k := 8) (t := (0, 0, 5, [])) rfl rfl)
  have kz_0_157 : 0 ≤ w_fi ws (n_v vs 0) 157 ∧ w_fi ws (n_v vs 0) 157 ≤ 2010 := tv_rng (th_fd hD hth r0 (g := GG_150) rfl (k := 157) (t := (0, 0, 2010, [])) rfl rfl)
  have kz_0_158 : 0 ≤ w_fi ws (n_v vs 0) 158 ∧ w_fi ws (n_v vs 0) 158 ≤ 2009 := tv_rng (th_fd hD hth r0 (g := GG_150) rfl (k := 158) (t := (0, 0, 2009, [])) rfl rfl)
  have kz_0_159 : 0 ≤ w_fi ws (n_v vs 0) 159 ∧ w_fi ws (n_v vs 0) 159 ≤ 13 := tv_rng (th_fd hD hth r0 (g := GG_150) rfl (k := 159) (t := (0, 0, 13, [])) rfl rfl)
  have nf0 : fc_1 (20, [0], [50, 2, 1, 158, 157, 160, 2, 12, 0, 7, 4, 3, 2, 0, 158, 0, 1, 2, 0, 157, 2, 7, 0, 3, 2, 0, 157, 0, 2010, 3, 14, 1, 10, 3, 0, 160, 5, 3, 2, 0, 157, 0, 1, 0, 0, 1, 10, 3, 0, 160, 5, 3, 2, 0, 157, 0, 1, 0, 4]) ws (vs) := by
    refine ⟨fun n hn => ?_, ?_⟩
    · have hn : n ∈ [0] := hn
      rw [hl]
      simp only [List.mem_cons, List.not_mem_nil, or_false] at hn
      show n < 15; omega
    · show ((w_fi ws (n_v vs 0) 158 + 1) ≤ w_fi ws (n_v vs 0) 157) ∧ ((w_fi ws (n_v vs 0) 157 ≤ 2010) ∧ ((w_ei ws (w_ar ws (n_v vs 0) 160) ((w_fi ws (n_v vs 0) 157 - 1)) = 0) ∨ (w_ei ws (w_ar ws (n_v vs 0) 160) ((w_fi ws (n_v vs 0) 157 - 1)) = 4)))
      first | omega | grind
  have nf1 : fc_1 (20, [1, 0], [30, 0, 1, 0, 0, -1, 1, 158]) ws (vs) := by
    refine ⟨fun n hn => ?_, ?_⟩
    · have hn : n ∈ [1, 0] := hn
      rw [hl]
      simp only [List.mem_cons, List.not_mem_nil, or_false] at hn
      show n < 15; omega
    · show 1 * v_iv (n_v vs 1) + ((-1) * w_fi ws (n_v vs 0) 158 + 0) ≤ 0
      omega
  have nf2 : fc_1 (20, [0, 1, 0], [31, 1, -1, -1, 1, 8, -1, 1, 0, 0, -1, 1, 158]) ws (vs) := by
    refine ⟨fun n hn => ?_, ?_⟩
    · have hn : n ∈ [0, 1, 0] := hn
      rw [hl]
      simp only [List.mem_cons, List.not_mem_nil, or_false] at hn
      show n < 15; omega
    · show ((-1) * w_fi ws (n_v vs 0) 8 + 0 ≤ (-1)) ∨ (1 * v_iv (n_v vs 1) + ((-1) * w_fi ws (n_v vs 0) 158 + 0) ≤ (-1))
      omega
  refine ⟨(fun _ h => (by cases h)), [], trivial, ?_, (fun _ h => (by cases h))⟩
  rw [List.append_nil]
  exact List.forall_mem_cons.mpr ⟨⟨show (20 : Nat) < 100 from by decide, nf0⟩, List.forall_mem_cons.mpr ⟨⟨show (20 : Nat) < 100 from by decide, nf1⟩, List.forall_mem_cons.mpr ⟨⟨show (20 : Nat) < 100 from by decide, nf2⟩, (fun _ h => (by cases h))⟩⟩⟩
def o_Mo_rule_at_f0_12 : or_T := (36, 10, [(0, (2, 0, 0, [150])), (1, (0, 0, 2009, [])), (3, (0, 0, 0, [])), (5, (0, 0, 0, []))], [(20, [0], [50, 2, 1, 158, 157, 160, 2, 12, 0, 7, 4, 3, 2, 0, 158, 0, 1, 2, 0, 157, 2, 7, 0, 3, 2, 0, 157, 0, 2010, 3, 14, 1, 10, 3, 0, 160, 5, 3, 2, 0, 157, 0, 1, 0, 0, 1, 10, 3, 0, 160, 5, 3, 2, 0, 157, 0, 1, 0, 4]), (20, [0, 1], [30, 0, 1, 1, 158, -1, 0, 0]), (20, [0, 1], [30, 0, -1, 1, 158, 1, 0, 0]), (20, [0], [30, 0, 1, 1, 159]), (20, [0], [30, 0, -1, 1, 159]), (20, [3, 0], [50, 1, 1, 1158, 1160, 4, 6, 1, 2, 1, 0, 0, 1, 1, 6, 3, 1, 160, 2, 1, 158, 0, 1]), (20, [5, 0], [50, 1, 1, 1158, 1160, 4, 6, 1, 2, 1, 0, 0, 1, 1, 6, 3, 1, 160, 2, 1, 158, 0, 1]), (20, [0], [30, -1, -1, 1, 8]), (102, [9], [0, 13008, 13009]), (8, [5], [0]), (102, [4], [0]), (8, [3], [0])], [], [], [(20, [1, 0], [30, 0, 1, 0, 0, -1, 1, 158]), (20, [0, 1, 0], [31, 1, -1, -1, 1, 8, -1, 1, 0, 0, -1, 1, 158])], [], [])
theorem oo_Mo_rule_at_f0_12 {kA : Nat → ClassId} : or_ok kA GG o_Mo_rule_at_f0_12 := by
  intro A ta ws vs hD hth hl hk hds hf
  have hl : vs.length = 10 := hl
  have hk : ∀ q ∈ ([(0, (2, 0, 0, [150])), (1, (0, 0, 2009, [])), (3, (0, 0, 0, [])), (5, (0, 0, 0, []))] : List (Nat × tv_T)), tv_ok ta q.2 (n_v vs q.1) := hk
  obtain ⟨t0, hk⟩ := List.forall_mem_cons.mp hk
  have t0 : tv_ok ta (2, 0, 0, [150]) (n_v vs 0) := t0
  have r0 : ta (v_ad (n_v vs 0)) = some 150 := tv_rg t0
  obtain ⟨t1, hk⟩ := List.forall_mem_cons.mp hk
  have t1 : tv_ok ta (0, 0, 2009, []) (n_v vs 1) := t1
  have k1 : 0 ≤ v_iv (n_v vs 1) ∧ v_iv (n_v vs 1) ≤ 2009 := tv_rng t1
  obtain ⟨t3, hk⟩ := List.forall_mem_cons.mp hk
  have t3 : tv_ok ta (0, 0, 0, []) (n_v vs 3) := t3
  have k3 : 0 ≤ v_iv (n_v vs 3) ∧ v_iv (n_v vs 3) ≤ 0 := tv_rng t3
  obtain ⟨t5, hk⟩ := List.forall_mem_cons.mp hk
  have t5 : tv_ok ta (0, 0, 0, []) (n_v vs 5) := t5
  have k5 : 0 ≤ v_iv (n_v vs 5) ∧ v_iv (n_v vs 5) ≤ 0 := tv_rng t5
  have hf : fc_ok [(20, [0], [50, 2, 1, 158, 157, 160, 2, 12, 0, 7, 4, 3, 2, 0, 158, 0, 1, 2, 0, 157, 2, 7, 0, 3, 2, 0, 157, 0, 2010, 3, 14, 1, 10, 3, 0, 160, 5, 3, 2, 0, 157, 0, 1, 0, 0, 1, 10, 3, 0, 160, 5, 3, 2, 0, 157, 0, 1, 0, 4]), (20, [0, 1], [30, 0, 1, 1, 158, -1, 0, 0]), (20, [0, 1], [30, 0, -1, 1, 158, 1, 0, 0]), (20, [0], [30, 0, 1, 1, 159]), (20, [0], [30, 0, -1, 1, 159]), (20, [3, 0], [50, 1, 1, 1158, 1160, 4, 6, 1, 2, 1, 0, 0, 1, 1, 6, 3, 1, 160, 2, 1, 158, 0, 1]), (20, [5, 0], [50, 1, 1, 1158, 1160, 4, 6, 1, 2, 1, 0, 0, 1, 1, 6, 3, 1, 160, 2, 1, 158, 0, 1]), (20, [0], [30, -1, -1, 1, 8]), (102, [9], [0, 13008, 13009]), (8, [5], [0]), (102, [4], [0]), (8, [3], [0])] ta ws vs := hf
  obtain ⟨f0, hf⟩ := fc_un (show (20 : Nat) < 100 from by decide) hf
  have f0 : ((w_fi ws (n_v vs 0) 158 + 1) ≤ w_fi ws (n_v vs 0) 157) ∧ ((w_fi ws (n_v vs 0) 157 ≤ 2010) ∧ ((w_ei ws (w_ar ws (n_v vs 0) 160) ((w_fi ws (n_v vs 0) 157 - 1)) = 0) ∨ (w_ei ws (w_ar ws (n_v vs 0) 160) ((w_fi ws (n_v vs 0) 157 - 1)) = 4))) := f0
  obtain ⟨f1, hf⟩ := fc_un (show (20 : Nat) < 100 from by decide) hf
  have f1 : 1 * w_fi ws (n_v vs 0) 158 + ((-1) * v_iv (n_v vs 1) + 0) ≤ 0 := f1
  obtain ⟨f2, hf⟩ := fc_un (show (20 : Nat) < 100 from by decide) hf
  have f2 : (-1) * w_fi ws (n_v vs 0) 158 + (1 * v_iv (n_v vs 1) + 0) ≤ 0 := f2
  obtain ⟨f3, hf⟩ := fc_un (show (20 : Nat) < 100 from by decide) hf
  have f3 : 1 * w_fi ws (n_v vs 0) 159 + 0 ≤ 0 := f3
  obtain ⟨f4, hf⟩ := fc_un (show (20 : Nat) < 100 from by decide) hf
  have f4 : (-1) * w_fi ws (n_v vs 0) 159 + 0 ≤ 0 := f4
  obtain ⟨f5, hf⟩ := fc_un (show (20 : Nat) < 100 from by decide) hf
  have f5 : (v_iv (n_v vs 3) = 1) → (w_ei ws (w_ar ws (n_v vs 0) 160) (w_fi ws (n_v vs 0) 158) = 1) := f5
  obtain ⟨f6, hf⟩ := fc_un (show (20 : Nat) < 100 from by decide) hf
  have f6 : (v_iv (n_v vs 5) = 1) → (w_ei ws (w_ar ws (n_v vs 0) 160) (w_fi ws (n_v vs 0) 158) = 1) := f6
  obtain ⟨f7, hf⟩ := fc_un (show (20 : Nat) < 100 from by decide) hf
  have f7 : (-1) * w_fi ws (n_v vs 0) 8 + 0 ≤ (-1) := f7
  obtain ⟨ta1, w1, le1, ⟨_, s1⟩, hf⟩ := fc_us (show ¬ (102 : Nat) < 100 from by decide) hf
  obtain ⟨f9, hf⟩ := fc_un (show (8 : Nat) < 100 from by decide) hf
  have f9 : v_iv (n_v vs 5) = 0 := f9
  obtain ⟨ta2, w2, le2, ⟨_, s2⟩, hf⟩ := fc_us (show ¬ (102 : Nat) < 100 from by decide) hf
  obtain ⟨f11, hf⟩ := fc_un (show (8 : Nat) < 100 from by decide) hf
  have f11 : v_iv (n_v vs 3) = 0 := f11
  have cr_0_160 : ta (w_ar ws (n_v vs 0) 160) = some 259 := tv_rg (th_fd hD hth r0 (g := GG_150) rfl (k := 160) (t := (2, 0, 0, [259])) rfl rfl)
  have hK_0_160 : ∀ j : Int, 0 ≤ j → j < 2010 → 0 ≤ w_ei ws (w_ar ws (n_v vs 0) 160) j ∧ w_ei ws (w_ar ws (n_v vs 0) 160) j ≤ 4 := fun j h0 h1 => th_el hD hth cr_0_160 (kd := 0) (n := 2010) (m := 2010) (lo := 0) (hi := 4) (rs := []) (L := []) rfl (by decide) (j := j.toNat) (by omega)
  have kz_0_8 : 0 ≤ w_fi ws (n_v vs 0) 8 ∧ w_fi ws (n_v vs 0) 8 ≤ 5 := tv_rng (th_fd hD hth r0 (g := GG_150) rfl (k := 8) (t := (0, 0, 5, [])) rfl rfl)
  have kz_0_157 : 0 ≤ w_fi ws (n_v vs 0) 157 ∧ w_fi ws (n_v vs 0) 157 ≤ 2010 := tv_rng (th_fd hD hth r0 (g := GG_150) rfl (k := 157) (t := (0, 0, 2010, [])) rfl rfl)
  have kz_0_158 : 0 ≤ w_fi ws (n_v vs 0) 158 ∧ w_fi ws (n_v vs 0) 158 ≤ 2009 := tv_rng (th_fd hD hth r0 (g := GG_150) rfl (k := 158) (t := (0, 0, 2009, [])) rfl rfl)
  have kz_0_159 : 0 ≤ w_fi ws (n_v vs 0) 159 ∧ w_fi ws (n_v vs 0) 159 ≤ 13 := tv_rng (th_fd hD hth r0 (g := GG_150) rfl (k := 159) (t := (0, 0, 13, [])) rfl rfl)
  have nf0 : fc_1 (20, [1, 0], [30, 0, 1, 0, 0, -1, 1, 158]) ws (vs) := by
    refine ⟨fun n hn => ?_, ?_⟩
    · have hn : n ∈ [1, 0] := hn
      rw [hl]
      simp only [List.mem_cons, List.not_mem_nil, or_false] at hn
      show n < 10; omega
    · show 1 * v_iv (n_v vs 1) + ((-1) * w_fi ws (n_v vs 0) 158 + 0) ≤ 0
      omega
  have nf1 : fc_1 (20, [0, 1, 0], [31, 1, -1, -1, 1, 8, -1, 1, 0, 0, -1, 1, 158]) ws (vs) := by
    refine ⟨fun n hn => ?_, ?_⟩
    · have hn : n ∈ [0, 1, 0] := hn
      rw [hl]
      simp only [List.mem_cons, List.not_mem_nil, or_false] at hn
      show n < 10; omega
    · show ((-1) * w_fi ws (n_v vs 0) 8 + 0 ≤ (-1)) ∨ (1 * v_iv (n_v vs 1) + ((-1) * w_fi ws (n_v vs 0) 158 + 0) ≤ (-1))
      omega
  refine ⟨(fun _ h => (by cases h)), [], trivial, ?_, (fun _ h => (by cases h))⟩
  rw [List.append_nil]
  exact List.forall_mem_cons.mpr ⟨⟨show (20 : Nat) < 100 from by decide, nf0⟩, List.forall_mem_cons.mpr ⟨⟨show (20 : Nat) < 100 from by decide, nf1⟩, (fun _ h => (by cases h))⟩⟩
def o_Mo_rule_at_f0_13 : or_T := (176, 18, [(0, (2, 0, 0, [150])), (1, (0, 0, 2009, [])), (2, (2, 0, 0, [150])), (6, (0, 0, 2010, [])), (8, (0, 0, 0, [])), (10, (0, 0, 0, [])), (12, (0, 0, 0, [])), (13, (0, -1, -1, [])), (17, (0, 0, 0, []))], [(8, [17], [5]), (9, [17, 2], [8]), (20, [2], [50, 2, 1, 158, 157, 160, 2, 12, 0, 7, 4, 3, 2, 0, 158, 0, 1, 2, 0, 157, 2, 7, 0, 3, 2, 0, 157, 0, 2010, 3, 14, 1, 10, 3, 0, 160, 5, 3, 2, 0, 157, 0, 1, 0, 0, 1, 10, 3, 0, 160, 5, 3, 2, 0, 157, 0, 1, 0, 4]), (20, [1, 2], [30, 0, 1, 0, 0, -1, 1, 158]), (20, [2], [30, 0, 1, 1, 159]), (20, [2], [30, 0, -1, 1, 159]), (24, [0, 2], []), (20, [6, 2], [30, 2010, 1, 0, 0, 1, 1, 158]), (20, [6, 2], [30, -2010, -1, 0, 0, -1, 1, 158]), (20, [8, 2], [50, 1, 1, 1158, 1160, 4, 6, 1, 2, 1, 0, 0, 1, 1, 6, 3, 1, 160, 2, 1, 158, 0, 1]), (20, [10, 2], [50, 1, 1, 1158, 1160, 4, 6, 1, 2, 1, 0, 0, 1, 1, 6, 3, 1, 160, 2, 1, 158, 0, 1]), (20, [12, 2], [50, 1, 1, 1158, 1160, 4, 6, 1, 2, 1, 0, 0, 1, 1, 6, 3, 1, 160, 2, 1, 158, 0, 1]), (20, [2], [30, -1, -1, 1, 8]), (102, [16], [0, 13008, 13009]), (8, [13], [2]), (8, [12], [0]), (102, [11], [0]), (8, [10], [0]), (102, [9], [0]), (8, [8], [0])], [], [], [(23, [13], [0, -1])], [], [])
theorem oo_Mo_rule_at_f0_13 {kA : Nat → ClassId} : or_ok kA GG o_Mo_rule_at_f0_13 := by
  intro A ta ws vs hD hth hl hk hds hf
  have hl : vs.length = 18 := hl
  have hk : ∀ q ∈ ([(0, (2, 0, 0, [150])), (1, (0, 0, 2009, [])), (2, (2, 0, 0, [150])), (6, (0, 0, 2010, [])), (8, (0, 0, 0, [])), (10, (0, 0, 0, [])), (12, (0, 0, 0, [])), (13, (0, -1, -1, [])), (17, (0, 0, 0, []))] : List (Nat × tv_T)), tv_ok ta q.2 (n_v vs q.1) := hk
  obtain ⟨t0, hk⟩ := List.forall_mem_cons.mp hk
  have t0 : tv_ok ta (2, 0, 0, [150]) (n_v vs 0) := t0
  have r0 : ta (v_ad (n_v vs 0)) = some 150 := tv_rg t0
  obtain ⟨t1, hk⟩ := List.forall_mem_cons.mp hk
  have t1 : tv_ok ta (0, 0, 2009, []) (n_v vs 1) := t1
  have k1 : 0 ≤ v_iv (n_v vs 1) ∧ v_iv (n_v vs 1) ≤ 2009 := tv_rng t1
  obtain ⟨t2, hk⟩ := List.forall_mem_cons.mp hk
  have t2 : tv_ok ta (2, 0, 0, [150]) (n_v vs 2) := t2
  have r2 : ta (v_ad (n_v vs 2)) = some 150 := tv_rg t2
  obtain ⟨t6, hk⟩ := List.forall_mem_cons.mp hk
  have t6 : tv_ok ta (0, 0, 2010, []) (n_v vs 6) := t6
  have k6 : 0 ≤ v_iv (n_v vs 6) ∧ v_iv (n_v vs 6) ≤ 2010 := tv_rng t6
  obtain ⟨t8, hk⟩ := List.forall_mem_cons.mp hk
  have t8 : tv_ok ta (0, 0, 0, []) (n_v vs 8) := t8
  have k8 : 0 ≤ v_iv (n_v vs 8) ∧ v_iv (n_v vs 8) ≤ 0 := tv_rng t8
  obtain ⟨t10, hk⟩ := List.forall_mem_cons.mp hk
  have t10 : tv_ok ta (0, 0, 0, []) (n_v vs 10) := t10
  have k10 : 0 ≤ v_iv (n_v vs 10) ∧ v_iv (n_v vs 10) ≤ 0 := tv_rng t10
  obtain ⟨t12, hk⟩ := List.forall_mem_cons.mp hk
  have t12 : tv_ok ta (0, 0, 0, []) (n_v vs 12) := t12
  have k12 : 0 ≤ v_iv (n_v vs 12) ∧ v_iv (n_v vs 12) ≤ 0 := tv_rng t12
  obtain ⟨t13, hk⟩ := List.forall_mem_cons.mp hk
  have t13 : tv_ok ta (0, -1, -1, []) (n_v vs 13) := t13
  have k13 : (-1) ≤ v_iv (n_v vs 13) ∧ v_iv (n_v vs 13) ≤ (-1) := tv_rng t13
  obtain ⟨t17, hk⟩ := List.forall_mem_cons.mp hk
  have t17 : tv_ok ta (0, 0, 0, []) (n_v vs 17) := t17
  have k17 : 0 ≤ v_iv (n_v vs 17) ∧ v_iv (n_v vs 17) ≤ 0 := tv_rng t17
  have hf : fc_ok [(8, [17], [5]), (9, [17, 2], [8]), (20, [2], [50, 2, 1, 158, 157, 160, 2, 12, 0, 7, 4, 3, 2, 0, 158, 0, 1, 2, 0, 157, 2, 7, 0, 3, 2, 0, 157, 0, 2010, 3, 14, 1, 10, 3, 0, 160, 5, 3, 2, 0, 157, 0, 1, 0, 0, 1, 10, 3, 0, 160, 5, 3, 2, 0, 157, 0, 1, 0, 4]), (20, [1, 2], [30, 0, 1, 0, 0, -1, 1, 158]), (20, [2], [30, 0, 1, 1, 159]), (20, [2], [30, 0, -1, 1, 159]), (24, [0, 2], []), (20, [6, 2], [30, 2010, 1, 0, 0, 1, 1, 158]), (20, [6, 2], [30, -2010, -1, 0, 0, -1, 1, 158]), (20, [8, 2], [50, 1, 1, 1158, 1160, 4, 6, 1, 2, 1, 0, 0, 1, 1, 6, 3, 1, 160, 2, 1, 158, 0, 1]), (20, [10, 2], [50, 1, 1, 1158, 1160, 4, 6, 1, 2, 1, 0, 0, 1, 1, 6, 3, 1, 160, 2, 1, 158, 0, 1]), (20, [12, 2], [50, 1, 1, 1158, 1160, 4, 6, 1, 2, 1, 0, 0, 1, 1, 6, 3, 1, 160, 2, 1, 158, 0, 1]), (20, [2], [30, -1, -1, 1, 8]), (102, [16], [0, 13008, 13009]), (8, [13], [2]), (8, [12], [0]), (102, [11], [0]), (8, [10], [0]), (102, [9], [0]), (8, [8], [0])] ta ws vs := hf
  obtain ⟨f0, hf⟩ := fc_un (show (8 : Nat) < 100 from by decide) hf
  have f0 : v_iv (n_v vs 17) ≤ 0 := f0
  obtain ⟨f1, hf⟩ := fc_un (show (9 : Nat) < 100 from by decide) hf
  have f1 : n_v vs 17 = w_fd ws (v_ad (n_v vs 2)) 8 := f1
  obtain ⟨f2, hf⟩ := fc_un (show (20 : Nat) < 100 from by decide) hf
  have f2 : ((w_fi ws (n_v vs 2) 158 + 1) ≤ w_fi ws (n_v vs 2) 157) ∧ ((w_fi ws (n_v vs 2) 157 ≤ 2010) ∧ ((w_ei ws (w_ar ws (n_v vs 2) 160) ((w_fi ws (n_v vs 2) 157 - 1)) = 0) ∨ (w_ei ws (w_ar ws (n_v vs 2) 160) ((w_fi ws (n_v vs 2) 157 - 1)) = 4))) := f2
  obtain ⟨f3, hf⟩ := fc_un (show (20 : Nat) < 100 from by decide) hf
  have f3 : 1 * v_iv (n_v vs 1) + ((-1) * w_fi ws (n_v vs 2) 158 + 0) ≤ 0 := f3
  obtain ⟨f4, hf⟩ := fc_un (show (20 : Nat) < 100 from by decide) hf
  have f4 : 1 * w_fi ws (n_v vs 2) 159 + 0 ≤ 0 := f4
  obtain ⟨f5, hf⟩ := fc_un (show (20 : Nat) < 100 from by decide) hf
  have f5 : (-1) * w_fi ws (n_v vs 2) 159 + 0 ≤ 0 := f5
  obtain ⟨f6, hf⟩ := fc_un (show (24 : Nat) < 100 from by decide) hf
  have f6 : n_v vs 0 = n_v vs 2 := f6
  obtain ⟨f7, hf⟩ := fc_un (show (20 : Nat) < 100 from by decide) hf
  have f7 : 1 * v_iv (n_v vs 6) + (1 * w_fi ws (n_v vs 2) 158 + 0) ≤ 2010 := f7
  obtain ⟨f8, hf⟩ := fc_un (show (20 : Nat) < 100 from by decide) hf
  have f8 : (-1) * v_iv (n_v vs 6) + ((-1) * w_fi ws (n_v vs 2) 158 + 0) ≤ (-2010) := f8
  obtain ⟨f9, hf⟩ := fc_un (show (20 : Nat) < 100 from by decide) hf
  have f9 : (v_iv (n_v vs 8) = 1) → (w_ei ws (w_ar ws (n_v vs 2) 160) (w_fi ws (n_v vs 2) 158) = 1) := f9
  obtain ⟨f10, hf⟩ := fc_un (show (20 : Nat) < 100 from by decide) hf
  have f10 : (v_iv (n_v vs 10) = 1) → (w_ei ws (w_ar ws (n_v vs 2) 160) (w_fi ws (n_v vs 2) 158) = 1) := f10
  obtain ⟨f11, hf⟩ := fc_un (show (20 : Nat) < 100 from by decide) hf
  have f11 : (v_iv (n_v vs 12) = 1) → (w_ei ws (w_ar ws (n_v vs 2) 160) (w_fi ws (n_v vs 2) 158) = 1) := f11
  obtain ⟨f12, hf⟩ := fc_un (show (20 : Nat) < 100 from by decide) hf
  have f12 : (-1) * w_fi ws (n_v vs 2) 8 + 0 ≤ (-1) := f12
  obtain ⟨ta1, w1, le1, ⟨_, s1⟩, hf⟩ := fc_us (show ¬ (102 : Nat) < 100 from by decide) hf
  obtain ⟨f14, hf⟩ := fc_un (show (8 : Nat) < 100 from by decide) hf
  have f14 : v_iv (n_v vs 13) < 0 := f14
  obtain ⟨f15, hf⟩ := fc_un (show (8 : Nat) < 100 from by decide) hf
  have f15 : v_iv (n_v vs 12) = 0 := f15
  obtain ⟨ta2, w2, le2, ⟨_, s2⟩, hf⟩ := fc_us (show ¬ (102 : Nat) < 100 from by decide) hf
  obtain ⟨f17, hf⟩ := fc_un (show (8 : Nat) < 100 from by decide) hf
  have f17 : v_iv (n_v vs 10) = 0 := f17
  obtain ⟨ta3, w3, le3, ⟨_, s3⟩, hf⟩ := fc_us (show ¬ (102 : Nat) < 100 from by decide) hf
  obtain ⟨f19, hf⟩ := fc_un (show (8 : Nat) < 100 from by decide) hf
  have f19 : v_iv (n_v vs 8) = 0 := f19
  have q2 : n_v vs 2 = n_v vs 0 := f6.symm
  rw [q2] at f1
  rw [q2] at f2
  rw [q2] at f3
  rw [q2] at f4
  rw [q2] at f5
  rw [q2] at f7
  rw [q2] at f8
  rw [q2] at f9
  rw [q2] at f10
  rw [q2] at f11
  rw [q2] at f12
  have cr_0_160 : ta (w_ar ws (n_v vs 0) 160) = some 259 := tv_rg (th_fd hD hth r0 (g := GG_150) rfl (k := 160) (t := (2, 0, 0, [259])) rfl rfl)
  have g1 : v_iv (n_v vs 17) = w_fi ws (n_v vs 0) 8 := congrArg v_iv f1
  have hK_0_160 : ∀ j : Int, 0 ≤ j → j < 2010 → 0 ≤ w_ei ws (w_ar ws (n_v vs 0) 160) j ∧ w_ei ws (w_ar ws (n_v vs 0) 160) j ≤ 4 := fun j h0 h1 => th_el hD hth cr_0_160 (kd := 0) (n := 2010) (m := 2010) (lo := 0) (hi := 4) (rs := []) (L := []) rfl (by decide) (j := j.toNat) (by omega)
  have kz_0_8 : 0 ≤ w_fi ws (n_v vs 0) 8 ∧ w_fi ws (n_v vs 0) 8 ≤ 5 := tv_rng (th_fd hD hth r0 (g := GG_150) rfl (k := 8) (t := (0, 0, 5, [])) rfl rfl)
  have kz_0_157 : 0 ≤ w_fi ws (n_v vs 0) 157 ∧ w_fi ws (n_v vs 0) 157 ≤ 2010 := tv_rng (th_fd hD hth r0 (g := GG_150) rfl (k := 157) (t := (0, 0, 2010, [])) rfl rfl)
  have kz_0_158 : 0 ≤ w_fi ws (n_v vs 0) 158 ∧ w_fi ws (n_v vs 0) 158 ≤ 2009 := tv_rng (th_fd hD hth r0 (g := GG_150) rfl (k := 158) (t := (0, 0, 2009, [])) rfl rfl)
  have kz_0_159 : 0 ≤ w_fi ws (n_v vs 0) 159 ∧ w_fi ws (n_v vs 0) 159 ≤ 13 := tv_rng (th_fd hD hth r0 (g := GG_150) rfl (k := 159) (t := (0, 0, 13, [])) rfl rfl)
  have nf0 : fc_1 (23, [13], [0, -1]) ws (vs) := by
    refine ⟨fun n hn => ?_, ?_⟩
    · have hn : n ∈ [13] := hn
      rw [hl]
      simp only [List.mem_cons, List.not_mem_nil, or_false] at hn
      show n < 18; omega
    · show (-1) * v_iv (n_v vs 13) + 0 ≤ 0
      omega
  refine ⟨(fun _ h => (by cases h)), [], trivial, ?_, (fun _ h => (by cases h))⟩
  rw [List.append_nil]
  exact List.forall_mem_cons.mpr ⟨⟨show (23 : Nat) < 100 from by decide, nf0⟩, (fun _ h => (by cases h))⟩
def o_Mo_rule_at_f0_14 : or_T := (183, 20, [(0, (2, 0, 0, [150])), (1, (0, 0, 2009, [])), (2, (2, 0, 0, [150])), (5, (0, 0, 2009, [])), (6, (0, 0, 2010, [])), (8, (0, 0, 0, [])), (10, (0, 0, 0, [])), (12, (0, 0, 0, [])), (17, (0, 0, 0, [])), (18, (0, 1, 1, [])), (19, (0, 1, 2010, []))], [(1, [19, 5, 18], []), (9, [5, 2], [158]), (8, [17], [5]), (9, [17, 2], [8]), (20, [2], [50, 2, 1, 158, 157, 160, 2, 12, 0, 7, 4, 3, 2, 0, 158, 0, 1, 2, 0, 157, 2, 7, 0, 3, 2, 0, 157, 0, 2010, 3, 14, 1, 10, 3, 0, 160, 5, 3, 2, 0, 157, 0, 1, 0, 0, 1, 10, 3, 0, 160, 5, 3, 2, 0, 157, 0, 1, 0, 4]), (20, [1, 2], [30, 0, 1, 0, 0, -1, 1, 158]), (20, [2], [30, 0, 1, 1, 159]), (20, [2], [30, 0, -1, 1, 159]), (24, [0, 2], []), (20, [6, 2], [30, 2010, 1, 0, 0, 1, 1, 158]), (20, [6, 2], [30, -2010, -1, 0, 0, -1, 1, 158]), (20, [8, 2], [50, 1, 1, 1158, 1160, 4, 6, 1, 2, 1, 0, 0, 1, 1, 6, 3, 1, 160, 2, 1, 158, 0, 1]), (20, [10, 2], [50, 1, 1, 1158, 1160, 4, 6, 1, 2, 1, 0, 0, 1, 1, 6, 3, 1, 160, 2, 1, 158, 0, 1]), (20, [12, 2], [50, 1, 1, 1158, 1160, 4, 6, 1, 2, 1, 0, 0, 1, 1, 6, 3, 1, 160, 2, 1, 158, 0, 1]), (20, [2], [30, -1, -1, 1, 8]), (102, [16], [0, 13008, 13009]), (8, [12], [0]), (102, [11], [0]), (8, [10], [0]), (102, [9], [0]), (8, [8], [0])], [(19, (0, 1, 2009, []))], [], [], [], [(19, 5, 1, 1), (19, 1, -4294967296, 2010), (1, 5, -4294967296, 2009), (5, 1, -4294967296, 2009)])
theorem oo_Mo_rule_at_f0_14 {kA : Nat → ClassId} : or_ok kA GG o_Mo_rule_at_f0_14 := by
  intro A ta ws vs hD hth hl hk hds hf
  have hl : vs.length = 20 := hl
  have hk : ∀ q ∈ ([(0, (2, 0, 0, [150])), (1, (0, 0, 2009, [])), (2, (2, 0, 0, [150])), (5, (0, 0, 2009, [])), (6, (0, 0, 2010, [])), (8, (0, 0, 0, [])), (10, (0, 0, 0, [])), (12, (0, 0, 0, [])), (17, (0, 0, 0, [])), (18, (0, 1, 1, [])), (19, (0, 1, 2010, []))] : List (Nat × tv_T)), tv_ok ta q.2 (n_v vs q.1) := hk
  obtain ⟨t0, hk⟩ := List.forall_mem_cons.mp hk
  have t0 : tv_ok ta (2, 0, 0, [150]) (n_v vs 0) := t0
  have r0 : ta (v_ad (n_v vs 0)) = some 150 := tv_rg t0
  obtain ⟨t1, hk⟩ := List.forall_mem_cons.mp hk
  have t1 : tv_ok ta (0, 0, 2009, []) (n_v vs 1) := t1
  have k1 : 0 ≤ v_iv (n_v vs 1) ∧ v_iv (n_v vs 1) ≤ 2009 := tv_rng t1
  obtain ⟨t2, hk⟩ := List.forall_mem_cons.mp hk
  have t2 : tv_ok ta (2, 0, 0, [150]) (n_v vs 2) := t2
  have r2 : ta (v_ad (n_v vs 2)) = some 150 := tv_rg t2
  obtain ⟨t5, hk⟩ := List.forall_mem_cons.mp hk
  have t5 : tv_ok ta (0, 0, 2009, []) (n_v vs 5) := t5
  have k5 : 0 ≤ v_iv (n_v vs 5) ∧ v_iv (n_v vs 5) ≤ 2009 := tv_rng t5
  obtain ⟨t6, hk⟩ := List.forall_mem_cons.mp hk
  have t6 : tv_ok ta (0, 0, 2010, []) (n_v vs 6) := t6
  have k6 : 0 ≤ v_iv (n_v vs 6) ∧ v_iv (n_v vs 6) ≤ 2010 := tv_rng t6
  obtain ⟨t8, hk⟩ := List.forall_mem_cons.mp hk
  have t8 : tv_ok ta (0, 0, 0, []) (n_v vs 8) := t8
  have k8 : 0 ≤ v_iv (n_v vs 8) ∧ v_iv (n_v vs 8) ≤ 0 := tv_rng t8
  obtain ⟨t10, hk⟩ := List.forall_mem_cons.mp hk
  have t10 : tv_ok ta (0, 0, 0, []) (n_v vs 10) := t10
  have k10 : 0 ≤ v_iv (n_v vs 10) ∧ v_iv (n_v vs 10) ≤ 0 := tv_rng t10
  obtain ⟨t12, hk⟩ := List.forall_mem_cons.mp hk
  have t12 : tv_ok ta (0, 0, 0, []) (n_v vs 12) := t12
  have k12 : 0 ≤ v_iv (n_v vs 12) ∧ v_iv (n_v vs 12) ≤ 0 := tv_rng t12
  obtain ⟨t17, hk⟩ := List.forall_mem_cons.mp hk
  have t17 : tv_ok ta (0, 0, 0, []) (n_v vs 17) := t17
  have k17 : 0 ≤ v_iv (n_v vs 17) ∧ v_iv (n_v vs 17) ≤ 0 := tv_rng t17
  obtain ⟨t18, hk⟩ := List.forall_mem_cons.mp hk
  have t18 : tv_ok ta (0, 1, 1, []) (n_v vs 18) := t18
  have k18 : 1 ≤ v_iv (n_v vs 18) ∧ v_iv (n_v vs 18) ≤ 1 := tv_rng t18
  obtain ⟨t19, hk⟩ := List.forall_mem_cons.mp hk
  have t19 : tv_ok ta (0, 1, 2010, []) (n_v vs 19) := t19
  have k19 : 1 ≤ v_iv (n_v vs 19) ∧ v_iv (n_v vs 19) ≤ 2010 := tv_rng t19
  have hds : ∀ q ∈ ([(19, 5, 1, 1), (19, 1, -4294967296, 2010), (1, 5, -4294967296, 2009), (5, 1, -4294967296, 2009)] : List of_T), n_iv vs q.2.1 + q.2.2.1 ≤ n_iv vs q.1 ∧ n_iv vs q.1 ≤ n_iv vs q.2.1 + q.2.2.2 := hds
  obtain ⟨d0, hds⟩ := List.forall_mem_cons.mp hds
  have d0 : v_iv (n_v vs 5) + 1 ≤ v_iv (n_v vs 19) ∧ v_iv (n_v vs 19) ≤ v_iv (n_v vs 5) + 1 := d0
  obtain ⟨d1, hds⟩ := List.forall_mem_cons.mp hds
  have d1 : v_iv (n_v vs 1) + (-4294967296) ≤ v_iv (n_v vs 19) ∧ v_iv (n_v vs 19) ≤ v_iv (n_v vs 1) + 2010 := d1
  obtain ⟨d2, hds⟩ := List.forall_mem_cons.mp hds
  have d2 : v_iv (n_v vs 5) + (-4294967296) ≤ v_iv (n_v vs 1) ∧ v_iv (n_v vs 1) ≤ v_iv (n_v vs 5) + 2009 := d2
  obtain ⟨d3, hds⟩ := List.forall_mem_cons.mp hds
  have d3 : v_iv (n_v vs 1) + (-4294967296) ≤ v_iv (n_v vs 5) ∧ v_iv (n_v vs 5) ≤ v_iv (n_v vs 1) + 2009 := d3
  have hf : fc_ok [(1, [19, 5, 18], []), (9, [5, 2], [158]), (8, [17], [5]), (9, [17, 2], [8]), (20, [2], [50, 2, 1, 158, 157, 160, 2, 12, 0, 7, 4, 3, 2, 0, 158, 0, 1, 2, 0, 157, 2, 7, 0, 3, 2, 0, 157, 0, 2010, 3, 14, 1, 10, 3, 0, 160, 5, 3, 2, 0, 157, 0, 1, 0, 0, 1, 10, 3, 0, 160, 5, 3, 2, 0, 157, 0, 1, 0, 4]), (20, [1, 2], [30, 0, 1, 0, 0, -1, 1, 158]), (20, [2], [30, 0, 1, 1, 159]), (20, [2], [30, 0, -1, 1, 159]), (24, [0, 2], []), (20, [6, 2], [30, 2010, 1, 0, 0, 1, 1, 158]), (20, [6, 2], [30, -2010, -1, 0, 0, -1, 1, 158]), (20, [8, 2], [50, 1, 1, 1158, 1160, 4, 6, 1, 2, 1, 0, 0, 1, 1, 6, 3, 1, 160, 2, 1, 158, 0, 1]), (20, [10, 2], [50, 1, 1, 1158, 1160, 4, 6, 1, 2, 1, 0, 0, 1, 1, 6, 3, 1, 160, 2, 1, 158, 0, 1]), (20, [12, 2], [50, 1, 1, 1158, 1160, 4, 6, 1, 2, 1, 0, 0, 1, 1, 6, 3, 1, 160, 2, 1, 158, 0, 1]), (20, [2], [30, -1, -1, 1, 8]), (102, [16], [0, 13008, 13009]), (8, [12], [0]), (102, [11], [0]), (8, [10], [0]), (102, [9], [0]), (8, [8], [0])] ta ws vs := hf
  obtain ⟨f0, hf⟩ := fc_un (show (1 : Nat) < 100 from by decide) hf
  have f0 : v_iv (n_v vs 19) = v_iv (n_v vs 5) + v_iv (n_v vs 18) := f0
  obtain ⟨f1, hf⟩ := fc_un (show (9 : Nat) < 100 from by decide) hf
  have f1 : n_v vs 5 = w_fd ws (v_ad (n_v vs 2)) 158 := f1
  obtain ⟨f2, hf⟩ := fc_un (show (8 : Nat) < 100 from by decide) hf
  have f2 : v_iv (n_v vs 17) ≤ 0 := f2
  obtain ⟨f3, hf⟩ := fc_un (show (9 : Nat) < 100 from by decide) hf
  have f3 : n_v vs 17 = w_fd ws (v_ad (n_v vs 2)) 8 := f3
  obtain ⟨f4, hf⟩ := fc_un (show (20 : Nat) < 100 from by decide) hf
  have f4 : ((w_fi ws (n_v vs 2) 158 + 1) ≤ w_fi ws (n_v vs 2) 157) ∧ ((w_fi ws (n_v vs 2) 157 ≤ 2010) ∧ ((w_ei ws (w_ar ws (n_v vs 2) 160) ((w_fi ws (n_v vs 2) 157 - 1)) = 0) ∨ (w_ei ws (w_ar ws (n_v vs 2) 160) ((w_fi ws (n_v vs 2) 157 - 1)) = 4))) := f4
  obtain ⟨f5, hf⟩ := fc_un (show (20 : Nat) < 100 from by decide) hf
  have f5 : 1 * v_iv (n_v vs 1) + ((-1) * w_fi ws (n_v vs 2) 158 + 0) ≤ 0 := f5
  obtain ⟨f6, hf⟩ := fc_un (show (20 : Nat) < 100 from by decide) hf
  have f6 : 1 * w_fi ws (n_v vs 2) 159 + 0 ≤ 0 := f6
  obtain ⟨f7, hf⟩ := fc_un (show (20 : Nat) < 100 from by decide) hf
  have f7 : (-1) * w_fi ws (n_v vs 2) 159 + 0 ≤ 0 := f7
  obtain ⟨f8, hf⟩ := fc_un (show (24 : Nat) < 100 from by decide) hf
  have f8 : n_v vs 0 = n_v vs 2 := f8
  obtain ⟨f9, hf⟩ := fc_un (show (20 : Nat) < 100 from by decide) hf
  have f9 : 1 * v_iv (n_v vs 6) + (1 * w_fi ws (n_v vs 2) 158 + 0) ≤ 2010 := f9
  obtain ⟨f10, hf⟩ := fc_un (show (20 : Nat) < 100 from by decide) hf
  have f10 : (-1) * v_iv (n_v vs 6) + ((-1) * w_fi ws (n_v vs 2) 158 + 0) ≤ (-2010) := f10
  obtain ⟨f11, hf⟩ := fc_un (show (20 : Nat) < 100 from by decide) hf
  have f11 : (v_iv (n_v vs 8) = 1) → (w_ei ws (w_ar ws (n_v vs 2) 160) (w_fi ws (n_v vs 2) 158) = 1) := f11
  obtain ⟨f12, hf⟩ := fc_un (show (20 : Nat) < 100 from by decide) hf
  have f12 : (v_iv (n_v vs 10) = 1) → (w_ei ws (w_ar ws (n_v vs 2) 160) (w_fi ws (n_v vs 2) 158) = 1) := f12
  obtain ⟨f13, hf⟩ := fc_un (show (20 : Nat) < 100 from by decide) hf
  have f13 : (v_iv (n_v vs 12) = 1) → (w_ei ws (w_ar ws (n_v vs 2) 160) (w_fi ws (n_v vs 2) 158) = 1) := f13
  obtain ⟨f14, hf⟩ := fc_un (show (20 : Nat) < 100 from by decide) hf
  have f14 : (-1) * w_fi ws (n_v vs 2) 8 + 0 ≤ (-1) := f14
  obtain ⟨ta1, w1, le1, ⟨_, s1⟩, hf⟩ := fc_us (show ¬ (102 : Nat) < 100 from by decide) hf
  obtain ⟨f16, hf⟩ := fc_un (show (8 : Nat) < 100 from by decide) hf
  have f16 : v_iv (n_v vs 12) = 0 := f16
  obtain ⟨ta2, w2, le2, ⟨_, s2⟩, hf⟩ := fc_us (show ¬ (102 : Nat) < 100 from by decide) hf
  obtain ⟨f18, hf⟩ := fc_un (show (8 : Nat) < 100 from by decide) hf
  have f18 : v_iv (n_v vs 10) = 0 := f18
  obtain ⟨ta3, w3, le3, ⟨_, s3⟩, hf⟩ := fc_us (show ¬ (102 : Nat) < 100 from by decide) hf
  obtain ⟨f20, hf⟩ := fc_un (show (8 : Nat) < 100 from by decide) hf
  have f20 : v_iv (n_v vs 8) = 0 := f20
  have q2 : n_v vs 2 = n_v vs 0 := f8.symm
  rw [q2] at f1
  rw [q2] at f3
  rw [q2] at f4
  rw [q2] at f5
  rw [q2] at f6
  rw [q2] at f7
  rw [q2] at f9
  rw [q2] at f10
  rw [q2] at f11
  rw [q2] at f12
  rw [q2] at f13
  rw [q2] at f14
  have cr_0_160 : ta (w_ar ws (n_v vs 0) 160) = some 259 := tv_rg (th_fd hD hth r0 (g := GG_150) rfl (k := 160) (t := (2, 0, 0, [259])) rfl rfl)
  have g1 : v_iv (n_v vs 5) = w_fi ws (n_v vs 0) 158 := congrArg v_iv f1
  have g3 : v_iv (n_v vs 17) = w_fi ws (n_v vs 0) 8 := congrArg v_iv f3
  have hK_0_160 : ∀ j : Int, 0 ≤ j → j < 2010 → 0 ≤ w_ei ws (w_ar ws (n_v vs 0) 160) j ∧ w_ei ws (w_ar ws (n_v vs 0) 160) j ≤ 4 := fun j h0 h1 => th_el hD hth cr_0_160 (kd := 0) (n := 2010) (m := 2010) (lo := 0) (hi := 4) (rs := []) (L := []) rfl (by decide) (j := j.toNat) (by omega)
  have kz_0_8 : 0 ≤ w_fi ws (n_v vs 0) 8 ∧ w_fi ws (n_v vs 0) 8 ≤ 5 := tv_rng (th_fd hD hth r0 (g := GG_150) rfl (k := 8) (t := (0, 0, 5, [])) rfl rfl)
  have kz_0_157 : 0 ≤ w_fi ws (n_v vs 0) 157 ∧ w_fi ws (n_v vs 0) 157 ≤ 2010 := tv_rng (th_fd hD hth r0 (g := GG_150) rfl (k := 157) (t := (0, 0, 2010, [])) rfl rfl)
  have kz_0_158 : 0 ≤ w_fi ws (n_v vs 0) 158 ∧ w_fi ws (n_v vs 0) 158 ≤ 2009 := tv_rng (th_fd hD hth r0 (g := GG_150) rfl (k := 158) (t := (0, 0, 2009, [])) rfl rfl)
  have kz_0_159 : 0 ≤ w_fi ws (n_v vs 0) 159 ∧ w_fi ws (n_v vs 0) 159 ≤ 13 := tv_rng (th_fd hD hth r0 (g := GG_150) rfl (k := 159) (t := (0, 0, 13, [])) rfl rfl)
  have rf19 : tv_ok ta (0, 1, 2009, []) (n_v vs 19) := tv_in t19 (by first | omega | grind) (by first | omega | grind)
  refine ⟨List.forall_mem_cons.mpr ⟨rf19, (fun _ h => (by cases h))⟩, [], trivial, ?_, (fun _ h => (by cases h))⟩
  rw [List.append_nil]
  exact (fun _ h => (by cases h))
def o_Mo_rule_at_f0_15 : or_T := (189, 21, [(0, (2, 0, 0, [150])), (1, (0, 0, 2009, [])), (2, (2, 0, 0, [150])), (5, (0, 0, 2009, [])), (6, (0, 0, 2010, [])), (8, (0, 0, 0, [])), (10, (0, 0, 0, [])), (12, (0, 0, 0, [])), (17, (0, 0, 0, [])), (18, (0, 1, 1, [])), (19, (0, 1, 2009, []))], [(20, [2], [30, 0, 1, 1, 159]), (20, [2], [30, 0, -1, 1, 159]), (24, [0, 2], []), (20, [2], [30, -1, -1, 1, 8]), (101, [2, 19], [158]), (1, [19, 5, 18], []), (9, [5, 2], [158]), (8, [17], [5]), (9, [17, 2], [8]), (20, [2], [50, 2, 1, 158, 157, 160, 2, 12, 0, 7, 4, 3, 2, 0, 158, 0, 1, 2, 0, 157, 2, 7, 0, 3, 2, 0, 157, 0, 2010, 3, 14, 1, 10, 3, 0, 160, 5, 3, 2, 0, 157, 0, 1, 0, 0, 1, 10, 3, 0, 160, 5, 3, 2, 0, 157, 0, 1, 0, 4]), (20, [1, 2], [30, 0, 1, 0, 0, -1, 1, 158]), (20, [2], [30, 0, 1, 1, 159]), (20, [2], [30, 0, -1, 1, 159]), (20, [6, 2], [30, 2010, 1, 0, 0, 1, 1, 158]), (20, [6, 2], [30, -2010, -1, 0, 0, -1, 1, 158]), (20, [8, 2], [50, 1, 1, 1158, 1160, 4, 6, 1, 2, 1, 0, 0, 1, 1, 6, 3, 1, 160, 2, 1, 158, 0, 1]), (20, [10, 2], [50, 1, 1, 1158, 1160, 4, 6, 1, 2, 1, 0, 0, 1, 1, 6, 3, 1, 160, 2, 1, 158, 0, 1]), (20, [12, 2], [50, 1, 1, 1158, 1160, 4, 6, 1, 2, 1, 0, 0, 1, 1, 6, 3, 1, 160, 2, 1, 158, 0, 1]), (20, [2], [30, -1, -1, 1, 8]), (102, [16], [0, 13008, 13009]), (8, [12], [0]), (102, [11], [0]), (8, [10], [0]), (102, [9], [0]), (8, [8], [0])], [], [(0, 0, 2009, [])], [(20, [2], [50, 2, 1, 158, 157, 160, 2, 12, 0, 7, 4, 3, 2, 0, 158, 0, 1, 2, 0, 157, 2, 7, 0, 3, 2, 0, 157, 0, 2010, 3, 14, 1, 10, 3, 0, 160, 5, 3, 2, 0, 157, 0, 1, 0, 0, 1, 10, 3, 0, 160, 5, 3, 2, 0, 157, 0, 1, 0, 4]), (20, [2, 21], [30, 0, 1, 1, 158, -1, 0, 0]), (20, [2, 21], [30, 0, -1, 1, 158, 1, 0, 0]), (23, [1, 21], [0, 1, -1]), (23, [6, 21], [-2011, -1, -1])], [], [(19, 5, 1, 1), (19, 1, -4294967296, 2010), (1, 5, -4294967296, 2009), (5, 1, -4294967296, 2009)])
theorem oo_Mo_rule_at_f0_15 {kA : Nat → ClassId} : or_ok kA GG o_Mo_rule_at_f0_15 := by
  intro A ta ws vs hD hth hl hk hds hf
  have hl : vs.length = 21 := hl
  have hk : ∀ q ∈ ([(0, (2, 0, 0, [150])), (1, (0, 0, 2009, [])), (2, (2, 0, 0, [150])), (5, (0, 0, 2009, [])), (6, (0, 0, 2010, [])), (8, (0, 0, 0, [])), (10, (0, 0, 0, [])), (12, (0, 0, 0, [])), (17, (0, 0, 0, [])), (18, (0, 1, 1, [])), (19, (0, 1, 2009, []))] : List (Nat × tv_T)), tv_ok ta q.2 (n_v vs q.1) := hk
  obtain ⟨t0, hk⟩ := List.forall_mem_cons.mp hk
  have t0 : tv_ok ta (2, 0, 0, [150]) (n_v vs 0) := t0
  have r0 : ta (v_ad (n_v vs 0)) = some 150 := tv_rg t0
  obtain ⟨t1, hk⟩ := List.forall_mem_cons.mp hk
  have t1 : tv_ok ta (0, 0, 2009, []) (n_v vs 1) := t1
  have k1 : 0 ≤ v_iv (n_v vs 1) ∧ v_iv (n_v vs 1) ≤ 2009 := tv_rng t1
  obtain ⟨t2, hk⟩ := List.forall_mem_cons.mp hk
  have t2 : tv_ok ta (2, 0, 0, [150]) (n_v vs 2) := t2
  have r2 : ta (v_ad (n_v vs 2)) = some 150 := tv_rg t2
  obtain ⟨t5, hk⟩ := List.forall_mem_cons.mp hk
  have t5 : tv_ok ta (0, 0, 2009, []) (n_v vs 5) := t5
  have k5 : 0 ≤ v_iv (n_v vs 5) ∧ v_iv (n_v vs 5) ≤ 2009 := tv_rng t5
  obtain ⟨t6, hk⟩ := List.forall_mem_cons.mp hk
  have t6 : tv_ok ta (0, 0, 2010, []) (n_v vs 6) := t6
  have k6 : 0 ≤ v_iv (n_v vs 6) ∧ v_iv (n_v vs 6) ≤ 2010 := tv_rng t6
  obtain ⟨t8, hk⟩ := List.forall_mem_cons.mp hk
  have t8 : tv_ok ta (0, 0, 0, []) (n_v vs 8) := t8
  have k8 : 0 ≤ v_iv (n_v vs 8) ∧ v_iv (n_v vs 8) ≤ 0 := tv_rng t8
  obtain ⟨t10, hk⟩ := List.forall_mem_cons.mp hk
  have t10 : tv_ok ta (0, 0, 0, []) (n_v vs 10) := t10
  have k10 : 0 ≤ v_iv (n_v vs 10) ∧ v_iv (n_v vs 10) ≤ 0 := tv_rng t10
  obtain ⟨t12, hk⟩ := List.forall_mem_cons.mp hk
  have t12 : tv_ok ta (0, 0, 0, []) (n_v vs 12) := t12
  have k12 : 0 ≤ v_iv (n_v vs 12) ∧ v_iv (n_v vs 12) ≤ 0 := tv_rng t12
  obtain ⟨t17, hk⟩ := List.forall_mem_cons.mp hk
  have t17 : tv_ok ta (0, 0, 0, []) (n_v vs 17) := t17
  have k17 : 0 ≤ v_iv (n_v vs 17) ∧ v_iv (n_v vs 17) ≤ 0 := tv_rng t17
  obtain ⟨t18, hk⟩ := List.forall_mem_cons.mp hk
  have t18 : tv_ok ta (0, 1, 1, []) (n_v vs 18) := t18
  have k18 : 1 ≤ v_iv (n_v vs 18) ∧ v_iv (n_v vs 18) ≤ 1 := tv_rng t18
  obtain ⟨t19, hk⟩ := List.forall_mem_cons.mp hk
  have t19 : tv_ok ta (0, 1, 2009, []) (n_v vs 19) := t19
  have k19 : 1 ≤ v_iv (n_v vs 19) ∧ v_iv (n_v vs 19) ≤ 2009 := tv_rng t19
  have hds : ∀ q ∈ ([(19, 5, 1, 1), (19, 1, -4294967296, 2010), (1, 5, -4294967296, 2009), (5, 1, -4294967296, 2009)] : List of_T), n_iv vs q.2.1 + q.2.2.1 ≤ n_iv vs q.1 ∧ n_iv vs q.1 ≤ n_iv vs q.2.1 + q.2.2.2 := hds
  obtain ⟨d0, hds⟩ := List.forall_mem_cons.mp hds
  have d0 : v_iv (n_v vs 5) + 1 ≤ v_iv (n_v vs 19) ∧ v_iv (n_v vs 19) ≤ v_iv (n_v vs 5) + 1 := d0
  obtain ⟨d1, hds⟩ := List.forall_mem_cons.mp hds
  have d1 : v_iv (n_v vs 1) + (-4294967296) ≤ v_iv (n_v vs 19) ∧ v_iv (n_v vs 19) ≤ v_iv (n_v vs 1) + 2010 := d1
  obtain ⟨d2, hds⟩ := List.forall_mem_cons.mp hds
  have d2 : v_iv (n_v vs 5) + (-4294967296) ≤ v_iv (n_v vs 1) ∧ v_iv (n_v vs 1) ≤ v_iv (n_v vs 5) + 2009 := d2
  obtain ⟨d3, hds⟩ := List.forall_mem_cons.mp hds
  have d3 : v_iv (n_v vs 1) + (-4294967296) ≤ v_iv (n_v vs 5) ∧ v_iv (n_v vs 5) ≤ v_iv (n_v vs 1) + 2009 := d3
  have hf : fc_ok [(20, [2], [30, 0, 1, 1, 159]), (20, [2], [30, 0, -1, 1, 159]), (24, [0, 2], []), (20, [2], [30, -1, -1, 1, 8]), (101, [2, 19], [158]), (1, [19, 5, 18], []), (9, [5, 2], [158]), (8, [17], [5]), (9, [17, 2], [8]), (20, [2], [50, 2, 1, 158, 157, 160, 2, 12, 0, 7, 4, 3, 2, 0, 158, 0, 1, 2, 0, 157, 2, 7, 0, 3, 2, 0, 157, 0, 2010, 3, 14, 1, 10, 3, 0, 160, 5, 3, 2, 0, 157, 0, 1, 0, 0, 1, 10, 3, 0, 160, 5, 3, 2, 0, 157, 0, 1, 0, 4]), (20, [1, 2], [30, 0, 1, 0, 0, -1, 1, 158]), (20, [2], [30, 0, 1, 1, 159]), (20, [2], [30, 0, -1, 1, 159]), (20, [6, 2], [30, 2010, 1, 0, 0, 1, 1, 158]), (20, [6, 2], [30, -2010, -1, 0, 0, -1, 1, 158]), (20, [8, 2], [50, 1, 1, 1158, 1160, 4, 6, 1, 2, 1, 0, 0, 1, 1, 6, 3, 1, 160, 2, 1, 158, 0, 1]), (20, [10, 2], [50, 1, 1, 1158, 1160, 4, 6, 1, 2, 1, 0, 0, 1, 1, 6, 3, 1, 160, 2, 1, 158, 0, 1]), (20, [12, 2], [50, 1, 1, 1158, 1160, 4, 6, 1, 2, 1, 0, 0, 1, 1, 6, 3, 1, 160, 2, 1, 158, 0, 1]), (20, [2], [30, -1, -1, 1, 8]), (102, [16], [0, 13008, 13009]), (8, [12], [0]), (102, [11], [0]), (8, [10], [0]), (102, [9], [0]), (8, [8], [0])] ta ws vs := hf
  obtain ⟨f0, hf⟩ := fc_un (show (20 : Nat) < 100 from by decide) hf
  have f0 : 1 * w_fi ws (n_v vs 2) 159 + 0 ≤ 0 := f0
  obtain ⟨f1, hf⟩ := fc_un (show (20 : Nat) < 100 from by decide) hf
  have f1 : (-1) * w_fi ws (n_v vs 2) 159 + 0 ≤ 0 := f1
  obtain ⟨f2, hf⟩ := fc_un (show (24 : Nat) < 100 from by decide) hf
  have f2 : n_v vs 0 = n_v vs 2 := f2
  obtain ⟨f3, hf⟩ := fc_un (show (20 : Nat) < 100 from by decide) hf
  have f3 : (-1) * w_fi ws (n_v vs 2) 8 + 0 ≤ (-1) := f3
  obtain ⟨ta1, w1, le1, ⟨_, s1⟩, hf⟩ := fc_us (show ¬ (101 : Nat) < 100 from by decide) hf
  have s1 : (∀ b j, w_el ws b j = w_el w1 b j) ∧ ∀ b j, w_fd ws b j = if b = v_ad (n_v vs 2) ∧ j = 158 then n_v vs 19 else w_fd w1 b j := s1
  obtain ⟨f5, hf⟩ := fc_un (show (1 : Nat) < 100 from by decide) hf
  have f5 : v_iv (n_v vs 19) = v_iv (n_v vs 5) + v_iv (n_v vs 18) := f5
  obtain ⟨f6, hf⟩ := fc_un (show (9 : Nat) < 100 from by decide) hf
  have f6 : n_v vs 5 = w_fd w1 (v_ad (n_v vs 2)) 158 := f6
  obtain ⟨f7, hf⟩ := fc_un (show (8 : Nat) < 100 from by decide) hf
  have f7 : v_iv (n_v vs 17) ≤ 0 := f7
  obtain ⟨f8, hf⟩ := fc_un (show (9 : Nat) < 100 from by decide) hf
  have f8 : n_v vs 17 = w_fd w1 (v_ad (n_v vs 2)) 8 := f8
  obtain ⟨f9, hf⟩ := fc_un (show (20 : Nat) < 100 from by decide) hf
  have f9 : ((w_fi w1 (n_v vs 2) 158 + 1) ≤ w_fi w1 (n_v vs 2) 157) ∧ ((w_fi w1 (n_v vs 2) 157 ≤ 2010) ∧ ((w_ei w1 (w_ar w1 (n_v vs 2) 160) ((w_fi w1 (n_v vs 2) 157 - 1)) = 0) ∨ (w_ei w1 (w_ar w1 (n_v vs 2) 160) ((w_fi w1 (n_v vs 2) 157 - 1)) = 4))) := f9
  obtain ⟨f10, hf⟩ := fc_un (show (20 : Nat) < 100 from by decide) hf
  have f10 : 1 * v_iv (n_v vs 1) + ((-1) * w_fi w1 (n_v vs 2) 158 + 0) ≤ 0 := f10
  obtain ⟨f11, hf⟩ := fc_un (show (20 : Nat) < 100 from by decide) hf
  have f11 : 1 * w_fi w1 (n_v vs 2) 159 + 0 ≤ 0 := f11
  obtain ⟨f12, hf⟩ := fc_un (show (20 : Nat) < 100 from by decide) hf
  have f12 : (-1) * w_fi w1 (n_v vs 2) 159 + 0 ≤ 0 := f12
  obtain ⟨f13, hf⟩ := fc_un (show (20 : Nat) < 100 from by decide) hf
  have f13 : 1 * v_iv (n_v vs 6) + (1 * w_fi w1 (n_v vs 2) 158 + 0) ≤ 2010 := f13
  obtain ⟨f14, hf⟩ := fc_un (show (20 : Nat) < 100 from by decide) hf
  have f14 : (-1) * v_iv (n_v vs 6) + ((-1) * w_fi w1 (n_v vs 2) 158 + 0) ≤ (-2010) := f14
  obtain ⟨f15, hf⟩ := fc_un (show (20 : Nat) < 100 from by decide) hf
  have f15 : (v_iv (n_v vs 8) = 1) → (w_ei w1 (w_ar w1 (n_v vs 2) 160) (w_fi w1 (n_v vs 2) 158) = 1) := f15
  obtain ⟨f16, hf⟩ := fc_un (show (20 : Nat) < 100 from by decide) hf
  have f16 : (v_iv (n_v vs 10) = 1) → (w_ei w1 (w_ar w1 (n_v vs 2) 160) (w_fi w1 (n_v vs 2) 158) = 1) := f16
  obtain ⟨f17, hf⟩ := fc_un (show (20 : Nat) < 100 from by decide) hf
  have f17 : (v_iv (n_v vs 12) = 1) → (w_ei w1 (w_ar w1 (n_v vs 2) 160) (w_fi w1 (n_v vs 2) 158) = 1) := f17
  obtain ⟨f18, hf⟩ := fc_un (show (20 : Nat) < 100 from by decide) hf
  have f18 : (-1) * w_fi w1 (n_v vs 2) 8 + 0 ≤ (-1) := f18
  obtain ⟨ta2, w2, le2, ⟨_, s2⟩, hf⟩ := fc_us (show ¬ (102 : Nat) < 100 from by decide) hf
  obtain ⟨f20, hf⟩ := fc_un (show (8 : Nat) < 100 from by decide) hf
  have f20 : v_iv (n_v vs 12) = 0 := f20
  obtain ⟨ta3, w3, le3, ⟨_, s3⟩, hf⟩ := fc_us (show ¬ (102 : Nat) < 100 from by decide) hf
  obtain ⟨f22, hf⟩ := fc_un (show (8 : Nat) < 100 from by decide) hf
  have f22 : v_iv (n_v vs 10) = 0 := f22
  obtain ⟨ta4, w4, le4, ⟨_, s4⟩, hf⟩ := fc_us (show ¬ (102 : Nat) < 100 from by decide) hf
  obtain ⟨f24, hf⟩ := fc_un (show (8 : Nat) < 100 from by decide) hf
  have f24 : v_iv (n_v vs 8) = 0 := f24
  have q2 : n_v vs 2 = n_v vs 0 := f2.symm
  rw [q2] at f0
  rw [q2] at f1
  rw [q2] at f3
  rw [q2] at s1
  rw [q2] at f6
  rw [q2] at f8
  rw [q2] at f9
  rw [q2] at f10
  rw [q2] at f11
  rw [q2] at f12
  rw [q2] at f13
  rw [q2] at f14
  rw [q2] at f15
  rw [q2] at f16
  rw [q2] at f17
  rw [q2] at f18
  have ar_0_160_1 : w_ar w1 (n_v vs 0) 160 = w_ar ws (n_v vs 0) 160 := by show v_ad (w_fd w1 _ _) = v_ad (w_fd ws _ _); rw [s1.2, if_neg (fun e => absurd e.2 (by decide))]
  have cr_0_160 : ta (w_ar ws (n_v vs 0) 160) = some 259 := tv_rg (th_fd hD hth r0 (g := GG_150) rfl (k := 160) (t := (2, 0, 0, [259])) rfl rfl)
  have g6 : v_iv (n_v vs 5) = w_fi w1 (n_v vs 0) 158 := congrArg v_iv f6
  have g8 : v_iv (n_v vs 17) = w_fi w1 (n_v vs 0) 8 := congrArg v_iv f8
  rw [ar_0_160_1] at f9
  rw [ar_0_160_1] at f15
  rw [ar_0_160_1] at f16
  rw [ar_0_160_1] at f17
  have fe_0_8_1 : w_fi ws (n_v vs 0) 8 = w_fi w1 (n_v vs 0) 8 := by show v_iv (w_fd _ _ _) = v_iv (w_fd _ _ _); rw [s1.2, if_neg (fun e => absurd e.2 (by decide))]
  have fe_0_157_1 : w_fi ws (n_v vs 0) 157 = w_fi w1 (n_v vs 0) 157 := by show v_iv (w_fd _ _ _) = v_iv (w_fd _ _ _); rw [s1.2, if_neg (fun e => absurd e.2 (by decide))]
  have fe_0_158_1 : w_fi ws (n_v vs 0) 158 = v_iv (n_v vs 19) := by show v_iv (w_fd _ _ _) = _; rw [s1.2, if_pos ⟨rfl, rfl⟩]
  have fe_0_159_1 : w_fi ws (n_v vs 0) 159 = w_fi w1 (n_v vs 0) 159 := by show v_iv (w_fd _ _ _) = v_iv (w_fd _ _ _); rw [s1.2, if_neg (fun e => absurd e.2 (by decide))]
  have hE_0_160_1 : ∀ j : Int, w_ei ws (w_ar ws (n_v vs 0) 160) j = w_ei w1 (w_ar ws (n_v vs 0) 160) j := fun j => s1.1 _ _
  have hK_0_160 : ∀ j : Int, 0 ≤ j → j < 2010 → 0 ≤ w_ei ws (w_ar ws (n_v vs 0) 160) j ∧ w_ei ws (w_ar ws (n_v vs 0) 160) j ≤ 4 := fun j h0 h1 => th_el hD hth cr_0_160 (kd := 0) (n := 2010) (m := 2010) (lo := 0) (hi := 4) (rs := []) (L := []) rfl (by decide) (j := j.toNat) (by omega)
  have kz_0_8 : 0 ≤ w_fi ws (n_v vs 0) 8 ∧ w_fi ws (n_v vs 0) 8 ≤ 5 := tv_rng (th_fd hD hth r0 (g := GG_150) rfl (k := 8) (t := (0, 0, 5, [])) rfl rfl)
  have kz_0_157 : 0 ≤ w_fi ws (n_v vs 0) 157 ∧ w_fi ws (n_v vs 0) 157 ≤ 2010 := tv_rng (th_fd hD hth r0 (g := GG_150) rfl (k := 157) (t := (0, 0, 2010, [])) rfl rfl)
  have kz_0_158 : 0 ≤ w_fi ws (n_v vs 0) 158 ∧ w_fi ws (n_v vs 0) 158 ≤ 2009 := tv_rng (th_fd hD hth r0 (g := GG_150) rfl (k := 158) (t := (0, 0, 2009, [])) rfl rfl)
  have kz_0_159 : 0 ≤ w_fi ws (n_v vs 0) 159 ∧ w_fi ws (n_v vs 0) 159 ≤ 13 := tv_rng (th_fd hD hth r0 (g := GG_150) rfl (k := 159) (t := (0, 0, 13, [])) rfl rfl)
  have kv0 : 0 ≤ w_fi ws (n_v vs 0) 158 ∧ w_fi ws (n_v vs 0) 158 ≤ 2009 := tv_rng (th_fd hD hth r0 (g := GG_150) rfl (k := 158) (t := (0, 0, 2009, [])) rfl rfl)
  obtain ⟨x, ex, hx⟩ := iv_ex (ta := ta) (lo := 0) (hi := 2009) (z := w_fi ws (n_v vs 0) 158) (by omega) (by omega) (by omega) (by omega)
  have ex2 : v_iv (Value.int x) = w_fi ws (n_v vs 0) 158 := ex
  have ex3 : 0 ≤ v_iv (Value.int x) ∧ v_iv (Value.int x) ≤ 2009 := tv_rng hx
  have e_1 : n_v (vs ++ [Value.int x]) 1 = n_v vs 1 := n_v_old (by rw [hl]; decide)
  have e_2 : n_v (vs ++ [Value.int x]) 2 = n_v vs 2 := n_v_old (by rw [hl]; decide)
  have e_6 : n_v (vs ++ [Value.int x]) 6 = n_v vs 6 := n_v_old (by rw [hl]; decide)
  have e_21 : n_v (vs ++ [Value.int x]) 21 = Value.int x := n_v_new hl
  have nf0 : fc_1 (20, [2], [50, 2, 1, 158, 157, 160, 2, 12, 0, 7, 4, 3, 2, 0, 158, 0, 1, 2, 0, 157, 2, 7, 0, 3, 2, 0, 157, 0, 2010, 3, 14, 1, 10, 3, 0, 160, 5, 3, 2, 0, 157, 0, 1, 0, 0, 1, 10, 3, 0, 160, 5, 3, 2, 0, 157, 0, 1, 0, 4]) ws (vs ++ [Value.int x]) := by
    refine ⟨fun n hn => ?_, ?_⟩
    · have hn : n ∈ [2] := hn
      rw [List.length_append, hl]
      simp only [List.mem_cons, List.not_mem_nil, or_false] at hn
      show n < 21 + 1; omega
    · show ((w_fi ws (n_v (vs ++ [Value.int x]) 2) 158 + 1) ≤ w_fi ws (n_v (vs ++ [Value.int x]) 2) 157) ∧ ((w_fi ws (n_v (vs ++ [Value.int x]) 2) 157 ≤ 2010) ∧ ((w_ei ws (w_ar ws (n_v (vs ++ [Value.int x]) 2) 160) ((w_fi ws (n_v (vs ++ [Value.int x]) 2) 157 - 1)) = 0) ∨ (w_ei ws (w_ar ws (n_v (vs ++ [Value.int x]) 2) 160) ((w_fi ws (n_v (vs ++ [Value.int x]) 2) 157 - 1)) = 4)))
      rw [e_2]
      rw [q2]
      first | omega | grind
  have nf1 : fc_1 (20, [2, 21], [30, 0, 1, 1, 158, -1, 0, 0]) ws (vs ++ [Value.int x]) := by
    refine ⟨fun n hn => ?_, ?_⟩
    · have hn : n ∈ [2, 21] := hn
      rw [List.length_append, hl]
      simp only [List.mem_cons, List.not_mem_nil, or_false] at hn
      show n < 21 + 1; omega
    · show 1 * w_fi ws (n_v (vs ++ [Value.int x]) 2) 158 + ((-1) * v_iv (n_v (vs ++ [Value.int x]) 21) + 0) ≤ 0
      rw [e_2]
      rw [e_21]
      rw [q2]
      omega
  have nf2 : fc_1 (20, [2, 21], [30, 0, -1, 1, 158, 1, 0, 0]) ws (vs ++ [Value.int x]) := by
    refine ⟨fun n hn => ?_, ?_⟩
    · have hn : n ∈ [2, 21] := hn
      rw [List.length_append, hl]
      simp only [List.mem_cons, List.not_mem_nil, or_false] at hn
      show n < 21 + 1; omega
    · show (-1) * w_fi ws (n_v (vs ++ [Value.int x]) 2) 158 + (1 * v_iv (n_v (vs ++ [Value.int x]) 21) + 0) ≤ 0
      rw [e_2]
      rw [e_21]
      rw [q2]
      omega
  have nf3 : fc_1 (23, [1, 21], [0, 1, -1]) ws (vs ++ [Value.int x]) := by
    refine ⟨fun n hn => ?_, ?_⟩
    · have hn : n ∈ [1, 21] := hn
      rw [List.length_append, hl]
      simp only [List.mem_cons, List.not_mem_nil, or_false] at hn
      show n < 21 + 1; omega
    · show 1 * v_iv (n_v (vs ++ [Value.int x]) 1) + ((-1) * v_iv (n_v (vs ++ [Value.int x]) 21) + 0) ≤ 0
      rw [e_1]
      rw [e_21]
      omega
  have nf4 : fc_1 (23, [6, 21], [-2011, -1, -1]) ws (vs ++ [Value.int x]) := by
    refine ⟨fun n hn => ?_, ?_⟩
    · have hn : n ∈ [6, 21] := hn
      rw [List.length_append, hl]
      simp only [List.mem_cons, List.not_mem_nil, or_false] at hn
      show n < 21 + 1; omega
    · show (-1) * v_iv (n_v (vs ++ [Value.int x]) 6) + ((-1) * v_iv (n_v (vs ++ [Value.int x]) 21) + 0) ≤ (-2011)
      rw [e_6]
      rw [e_21]
      omega
  exact ⟨fun q hq => (by cases hq), [Value.int x], ag_one hx, List.forall_mem_cons.mpr ⟨⟨show (20 : Nat) < 100 from by decide, nf0⟩, List.forall_mem_cons.mpr ⟨⟨show (20 : Nat) < 100 from by decide, nf1⟩, List.forall_mem_cons.mpr ⟨⟨show (20 : Nat) < 100 from by decide, nf2⟩, List.forall_mem_cons.mpr ⟨⟨show (23 : Nat) < 100 from by decide, nf3⟩, List.forall_mem_cons.mpr ⟨⟨show (23 : Nat) < 100 from by decide, nf4⟩, (fun _ h => (by cases h))⟩⟩⟩⟩⟩, (fun _ h => (by cases h))⟩
def o_Mo_rule_at_f0_16 : or_T := (193, 22, [(0, (2, 0, 0, [150])), (1, (0, 0, 2009, [])), (2, (2, 0, 0, [150])), (5, (0, 0, 2009, [])), (6, (0, 0, 2010, [])), (18, (0, 1, 1, [])), (19, (0, 1, 2009, [])), (21, (0, 0, 2009, []))], [(23, [1, 21], [0, 1, -1]), (23, [6, 21], [-2011, -1, -1]), (20, [2], [30, 0, 1, 1, 159]), (20, [2], [30, 0, -1, 1, 159]), (24, [0, 2], []), (20, [2], [50, 2, 1, 158, 157, 160, 2, 12, 0, 7, 4, 3, 2, 0, 158, 0, 1, 2, 0, 157, 2, 7, 0, 3, 2, 0, 157, 0, 2010, 3, 14, 1, 10, 3, 0, 160, 5, 3, 2, 0, 157, 0, 1, 0, 0, 1, 10, 3, 0, 160, 5, 3, 2, 0, 157, 0, 1, 0, 4]), (20, [21, 2], [30, 0, 1, 0, 0, -1, 1, 158]), (102, [21], [0, 13008, 13009, 13158]), (23, [1, 21], [0, 1, -1]), (23, [6, 21], [-2011, -1, -1]), (101, [2, 19], [158]), (1, [19, 5, 18], [])], [], [(0, 0, 2009, [])], [(20, [2], [50, 2, 1, 158, 157, 160, 2, 12, 0, 7, 4, 3, 2, 0, 158, 0, 1, 2, 0, 157, 2, 7, 0, 3, 2, 0, 157, 0, 2010, 3, 14, 1, 10, 3, 0, 160, 5, 3, 2, 0, 157, 0, 1, 0, 0, 1, 10, 3, 0, 160, 5, 3, 2, 0, 157, 0, 1, 0, 4]), (20, [2, 22], [30, 0, 1, 1, 158, -1, 0, 0]), (20, [2, 22], [30, 0, -1, 1, 158, 1, 0, 0]), (20, [2], [30, 0, 1, 1, 159]), (20, [2], [30, 0, -1, 1, 159]), (23, [1, 22], [0, 1, -1]), (23, [6, 22], [-2011, -1, -1])], [], [(19, 5, 1, 1), (19, 1, -4294967296, 2010), (1, 5, -4294967296, 2009), (5, 1, -4294967296, 2009)])
theorem oo_Mo_rule_at_f0_16 {kA : Nat → ClassId} : or_ok kA GG o_Mo_rule_at_f0_16 := by
  intro A ta ws vs hD hth hl hk hds hf
  have hl : vs.length = 22 := hl
  have hk : ∀ q ∈ ([(0, (2, 0, 0, [150])), (1, (0, 0, 2009, [])), (2, (2, 0, 0, [150])), (5, (0, 0, 2009, [])), (6, (0, 0, 2010, [])), (18, (0, 1, 1, [])), (19, (0, 1, 2009, [])), (21, (0, 0, 2009, []))] : List (Nat × tv_T)), tv_ok ta q.2 (n_v vs q.1) := hk
  obtain ⟨t0, hk⟩ := List.forall_mem_cons.mp hk
  have t0 : tv_ok ta (2, 0, 0, [150]) (n_v vs 0) := t0
  have r0 : ta (v_ad (n_v vs 0)) = some 150 := tv_rg t0
  obtain ⟨t1, hk⟩ := List.forall_mem_cons.mp hk
  have t1 : tv_ok ta (0, 0, 2009, []) (n_v vs 1) := t1
  have k1 : 0 ≤ v_iv (n_v vs 1) ∧ v_iv (n_v vs 1) ≤ 2009 := tv_rng t1
  obtain ⟨t2, hk⟩ := List.forall_mem_cons.mp hk
  have t2 : tv_ok ta (2, 0, 0, [150]) (n_v vs 2) := t2
  have r2 : ta (v_ad (n_v vs 2)) = some 150 := tv_rg t2
  obtain ⟨t5, hk⟩ := List.forall_mem_cons.mp hk
  have t5 : tv_ok ta (0, 0, 2009, []) (n_v vs 5) := t5
  have k5 : 0 ≤ v_iv (n_v vs 5) ∧ v_iv (n_v vs 5) ≤ 2009 := tv_rng t5
  obtain ⟨t6, hk⟩ := List.forall_mem_cons.mp hk
  have t6 : tv_ok ta (0, 0, 2010, []) (n_v vs 6) := t6
  have k6 : 0 ≤ v_iv (n_v vs 6) ∧ v_iv (n_v vs 6) ≤ 2010 := tv_rng t6
  obtain ⟨t18, hk⟩ := List.forall_mem_cons.mp hk
  have t18 : tv_ok ta (0, 1, 1, []) (n_v vs 18) := t18
  have k18 : 1 ≤ v_iv (n_v vs 18) ∧ v_iv (n_v vs 18) ≤ 1 := tv_rng t18
  obtain ⟨t19, hk⟩ := List.forall_mem_cons.mp hk
  have t19 : tv_ok ta (0, 1, 2009, []) (n_v vs 19) := t19
  have k19 : 1 ≤ v_iv (n_v vs 19) ∧ v_iv (n_v vs 19) ≤ 2009 := tv_rng t19
  obtain ⟨t21, hk⟩ := List.forall_mem_cons.mp hk
  have t21 : tv_ok ta (0, 0, 2009, []) (n_v vs 21) := t21
  have k21 : 0 ≤ v_iv (n_v vs 21) ∧ v_iv (n_v vs 21) ≤ 2009 := tv_rng t21
  have hds : ∀ q ∈ ([(19, 5, 1, 1), (19, 1, -4294967296, 2010), (1, 5, -4294967296, 2009), (5, 1, -4294967296, 2009)] : List of_T), n_iv vs q.2.1 + q.2.2.1 ≤ n_iv vs q.1 ∧ n_iv vs q.1 ≤ n_iv vs q.2.1 + q.2.2.2 := hds
  obtain ⟨d0, hds⟩ := List.forall_mem_cons.mp hds
  have d0 : v_iv (n_v vs 5) + 1 ≤ v_iv (n_v vs 19) ∧ v_iv (n_v vs 19) ≤ v_iv (n_v vs 5) + 1 := d0
  obtain ⟨d1, hds⟩ := List.forall_mem_cons.mp hds
  have d1 : v_iv (n_v vs 1) + (-4294967296) ≤ v_iv (n_v vs 19) ∧ v_iv (n_v vs 19) ≤ v_iv (n_v vs 1) + 2010 := d1
  obtain ⟨d2, hds⟩ := List.forall_mem_cons.mp hds
  have d2 : v_iv (n_v vs 5) + (-4294967296) ≤ v_iv (n_v vs 1) ∧ v_iv (n_v vs 1) ≤ v_iv (n_v vs 5) + 2009 := d2
  obtain ⟨d3, hds⟩ := List.forall_mem_cons.mp hds
  have d3 : v_iv (n_v vs 1) + (-4294967296) ≤ v_iv (n_v vs 5) ∧ v_iv (n_v vs 5) ≤ v_iv (n_v vs 1) + 2009 := d3
  have hf : fc_ok [(23, [1, 21], [0, 1, -1]), (23, [6, 21], [-2011, -1, -1]), (20, [2], [30, 0, 1, 1, 159]), (20, [2], [30, 0, -1, 1, 159]), (24, [0, 2], []), (20, [2], [50, 2, 1, 158, 157, 160, 2, 12, 0, 7, 4, 3, 2, 0, 158, 0, 1, 2, 0, 157, 2, 7, 0, 3, 2, 0, 157, 0, 2010, 3, 14, 1, 10, 3, 0, 160, 5, 3, 2, 0, 157, 0, 1, 0, 0, 1, 10, 3, 0, 160, 5, 3, 2, 0, 157, 0, 1, 0, 4]), (20, [21, 2], [30, 0, 1, 0, 0, -1, 1, 158]), (102, [21], [0, 13008, 13009, 13158]), (23, [1, 21], [0, 1, -1]), (23, [6, 21], [-2011, -1, -1]), (101, [2, 19], [158]), (1, [19, 5, 18], [])] ta ws vs := hf
  obtain ⟨f0, hf⟩ := fc_un (show (23 : Nat) < 100 from by decide) hf
  have f0 : 1 * v_iv (n_v vs 1) + ((-1) * v_iv (n_v vs 21) + 0) ≤ 0 := f0
  obtain ⟨f1, hf⟩ := fc_un (show (23 : Nat) < 100 from by decide) hf
  have f1 : (-1) * v_iv (n_v vs 6) + ((-1) * v_iv (n_v vs 21) + 0) ≤ (-2011) := f1
  obtain ⟨f2, hf⟩ := fc_un (show (20 : Nat) < 100 from by decide) hf
  have f2 : 1 * w_fi ws (n_v vs 2) 159 + 0 ≤ 0 := f2
  obtain ⟨f3, hf⟩ := fc_un (show (20 : Nat) < 100 from by decide) hf
  have f3 : (-1) * w_fi ws (n_v vs 2) 159 + 0 ≤ 0 := f3
  obtain ⟨f4, hf⟩ := fc_un (show (24 : Nat) < 100 from by decide) hf
  have f4 : n_v vs 0 = n_v vs 2 := f4
  obtain ⟨f5, hf⟩ := fc_un (show (20 : Nat) < 100 from by decide) hf
  have f5 : ((w_fi ws (n_v vs 2) 158 + 1) ≤ w_fi ws (n_v vs 2) 157) ∧ ((w_fi ws (n_v vs 2) 157 ≤ 2010) ∧ ((w_ei ws (w_ar ws (n_v vs 2) 160) ((w_fi ws (n_v vs 2) 157 - 1)) = 0) ∨ (w_ei ws (w_ar ws (n_v vs 2) 160) ((w_fi ws (n_v vs 2) 157 - 1)) = 4))) := f5
  obtain ⟨f6, hf⟩ := fc_un (show (20 : Nat) < 100 from by decide) hf
  have f6 : 1 * v_iv (n_v vs 21) + ((-1) * w_fi ws (n_v vs 2) 158 + 0) ≤ 0 := f6
  obtain ⟨ta1, w1, le1, ⟨_, s1⟩, hf⟩ := fc_us (show ¬ (102 : Nat) < 100 from by decide) hf
  obtain ⟨f8, hf⟩ := fc_un (show (23 : Nat) < 100 from by decide) hf
  have f8 : 1 * v_iv (n_v vs 1) + ((-1) * v_iv (n_v vs 21) + 0) ≤ 0 := f8
  obtain ⟨f9, hf⟩ := fc_un (show (23 : Nat) < 100 from by decide) hf
  have f9 : (-1) * v_iv (n_v vs 6) + ((-1) * v_iv (n_v vs 21) + 0) ≤ (-2011) := f9
  obtain ⟨ta2, w2, le2, ⟨_, s2⟩, hf⟩ := fc_us (show ¬ (101 : Nat) < 100 from by decide) hf
  have s2 : (∀ b j, w_el w1 b j = w_el w2 b j) ∧ ∀ b j, w_fd w1 b j = if b = v_ad (n_v vs 2) ∧ j = 158 then n_v vs 19 else w_fd w2 b j := s2
  obtain ⟨f11, hf⟩ := fc_un (show (1 : Nat) < 100 from by decide) hf
  have f11 : v_iv (n_v vs 19) = v_iv (n_v vs 5) + v_iv (n_v vs 18) := f11
  have q2 : n_v vs 2 = n_v vs 0 := f4.symm
  rw [q2] at f2
  rw [q2] at f3
  rw [q2] at f5
  rw [q2] at f6
  rw [q2] at s2
  have cr_0_160 : ta (w_ar ws (n_v vs 0) 160) = some 259 := tv_rg (th_fd hD hth r0 (g := GG_150) rfl (k := 160) (t := (2, 0, 0, [259])) rfl rfl)
  have hK_0_160 : ∀ j : Int, 0 ≤ j → j < 2010 → 0 ≤ w_ei ws (w_ar ws (n_v vs 0) 160) j ∧ w_ei ws (w_ar ws (n_v vs 0) 160) j ≤ 4 := fun j h0 h1 => th_el hD hth cr_0_160 (kd := 0) (n := 2010) (m := 2010) (lo := 0) (hi := 4) (rs := []) (L := []) rfl (by decide) (j := j.toNat) (by omega)
  have kz_0_157 : 0 ≤ w_fi ws (n_v vs 0) 157 ∧ w_fi ws (n_v vs 0) 157 ≤ 2010 := tv_rng (th_fd hD hth r0 (g := GG_150) rfl (k := 157) (t := (0, 0, 2010, [])) rfl rfl)
  have kz_0_158 : 0 ≤ w_fi ws (n_v vs 0) 158 ∧ w_fi ws (n_v vs 0) 158 ≤ 2009 := tv_rng (th_fd hD hth r0 (g := GG_150) rfl (k := 158) (t := (0, 0, 2009, [])) rfl rfl)
  have kz_0_159 : 0 ≤ w_fi ws (n_v vs 0) 159 ∧ w_fi ws (n_v vs 0) 159 ≤ 13 := tv_rng (th_fd hD hth r0 (g := GG_150) rfl (k := 159) (t := (0, 0, 13, [])) rfl rfl)
  have kv0 : 0 ≤ w_fi ws (n_v vs 0) 158 ∧ w_fi ws (n_v vs 0) 158 ≤ 2009 := tv_rng (th_fd hD hth r0 (g := GG_150) rfl (k := 158) (t := (0, 0, 2009, [])) rfl rfl)
  obtain ⟨x, ex, hx⟩ := iv_ex (ta := ta) (lo := 0) (hi := 2009) (z := w_fi ws (n_v vs 0) 158) (by omega) (by omega) (by omega) (by omega)
  have ex2 : v_iv (Value.int x) = w_fi ws (n_v vs 0) 158 := ex
  have ex3 : 0 ≤ v_iv (Value.int x) ∧ v_iv (Value.int x) ≤ 2009 := tv_rng hx
  have e_1 : n_v (vs ++ [Value.int x]) 1 = n_v vs 1 := n_v_old (by rw [hl]; decide)
  have e_2 : n_v (vs ++ [Value.int x]) 2 = n_v vs 2 := n_v_old (by rw [hl]; decide)
  have e_6 : n_v (vs ++ [Value.int x]) 6 = n_v vs 6 := n_v_old (by rw [hl]; decide)
  have e_22 : n_v (vs ++ [Value.int x]) 22 = Value.int x := n_v_new hl
  have nf0 : fc_1 (20, [2], [50, 2, 1, 158, 157, 160, 2, 12, 0, 7, 4, 3, 2, 0, 158, 0, 1, 2, 0, 157, 2, 7, 0, 3, 2, 0, 157, 0, 2010, 3, 14, 1, 10, 3, 0, 160, 5, 3, 2, 0, 157, 0, 1, 0, 0, 1, 10, 3, 0, 160, 5, 3, 2, 0, 157, 0, 1, 0, 4]) ws (vs ++ [Value.int x]) := by
    refine ⟨fun n hn => ?_, ?_⟩
    · have hn : n ∈ [2] := hn
      rw [List.length_append, hl]
      simp only [List.mem_cons, List.not_mem_nil, or_false] at hn
      show n < 22 + 1; omega
    · show ((w_fi ws (n_v (vs ++ [Value.int x]) 2) 158 + 1) ≤ w_fi ws (n_v (vs ++ [Value.int x]) 2) 157) ∧ ((w_fi ws (n_v (vs ++ [Value.int x]) 2) 157 ≤ 2010) ∧ ((w_ei ws (w_ar ws (n_v (vs ++ [Value.int x]) 2) 160) ((w_fi ws (n_v (vs ++ [Value.int x]) 2) 157 - 1)) = 0) ∨ (w_ei ws (w_ar ws (n_v (vs ++ [Value.int x]) 2) 160) ((w_fi ws (n_v (vs ++ [Value.int x]) 2) 157 - 1)) = 4)))
      rw [e_2]
      rw [q2]
      first | omega | grind
  have nf1 : fc_1 (20, [2, 22], [30, 0, 1, 1, 158, -1, 0, 0]) ws (vs ++ [Value.int x]) := by
    refine ⟨fun n hn => ?_, ?_⟩
    · have hn : n ∈ [2, 22] := hn
      rw [List.length_append, hl]
      simp only [List.mem_cons, List.not_mem_nil, or_false] at hn
      show n < 22 + 1; omega
    · show 1 * w_fi ws (n_v (vs ++ [Value.int x]) 2) 158 + ((-1) * v_iv (n_v (vs ++ [Value.int x]) 22) + 0) ≤ 0
      rw [e_2]
      rw [e_22]
      rw [q2]
      omega
  have nf2 : fc_1 (20, [2, 22], [30, 0, -1, 1, 158, 1, 0, 0]) ws (vs ++ [Value.int x]) := by
    refine ⟨fun n hn => ?_, ?_⟩
    · have hn : n ∈ [2, 22] := hn
      rw [List.length_append, hl]
      simp only [List.mem_cons, List.not_mem_nil, or_false] at hn
      show n < 22 + 1; omega
    · show (-1) * w_fi ws (n_v (vs ++ [Value.int x]) 2) 158 + (1 * v_iv (n_v (vs ++ [Value.int x]) 22) + 0) ≤ 0
      rw [e_2]
      rw [e_22]
      rw [q2]
      omega
  have nf3 : fc_1 (20, [2], [30, 0, 1, 1, 159]) ws (vs ++ [Value.int x]) := by
    refine ⟨fun n hn => ?_, ?_⟩
    · have hn : n ∈ [2] := hn
      rw [List.length_append, hl]
      simp only [List.mem_cons, List.not_mem_nil, or_false] at hn
      show n < 22 + 1; omega
    · show 1 * w_fi ws (n_v (vs ++ [Value.int x]) 2) 159 + 0 ≤ 0
      rw [e_2]
      rw [q2]
      omega
  have nf4 : fc_1 (20, [2], [30, 0, -1, 1, 159]) ws (vs ++ [Value.int x]) := by
    refine ⟨fun n hn => ?_, ?_⟩
    · have hn : n ∈ [2] := hn
      rw [List.length_append, hl]
      simp only [List.mem_cons, List.not_mem_nil, or_false] at hn
      show n < 22 + 1; omega
    · show (-1) * w_fi ws (n_v (vs ++ [Value.int x]) 2) 159 + 0 ≤ 0
      rw [e_2]
      rw [q2]
      omega
  have nf5 : fc_1 (23, [1, 22], [0, 1, -1]) ws (vs ++ [Value.int x]) := by
    refine ⟨fun n hn => ?_, ?_⟩
    · have hn : n ∈ [1, 22] := hn
      rw [List.length_append, hl]
      simp only [List.mem_cons, List.not_mem_nil, or_false] at hn
      show n < 22 + 1; omega
    · show 1 * v_iv (n_v (vs ++ [Value.int x]) 1) + ((-1) * v_iv (n_v (vs ++ [Value.int x]) 22) + 0) ≤ 0
      rw [e_1]
      rw [e_22]
      omega
  have nf6 : fc_1 (23, [6, 22], [-2011, -1, -1]) ws (vs ++ [Value.int x]) := by
    refine ⟨fun n hn => ?_, ?_⟩
    · have hn : n ∈ [6, 22] := hn
      rw [List.length_append, hl]
      simp only [List.mem_cons, List.not_mem_nil, or_false] at hn
      show n < 22 + 1; omega
    · show (-1) * v_iv (n_v (vs ++ [Value.int x]) 6) + ((-1) * v_iv (n_v (vs ++ [Value.int x]) 22) + 0) ≤ (-2011)
      rw [e_6]
      rw [e_22]
      omega
  exact ⟨fun q hq => (by cases hq), [Value.int x], ag_one hx, List.forall_mem_cons.mpr ⟨⟨show (20 : Nat) < 100 from by decide, nf0⟩, List.forall_mem_cons.mpr ⟨⟨show (20 : Nat) < 100 from by decide, nf1⟩, List.forall_mem_cons.mpr ⟨⟨show (20 : Nat) < 100 from by decide, nf2⟩, List.forall_mem_cons.mpr ⟨⟨show (20 : Nat) < 100 from by decide, nf3⟩, List.forall_mem_cons.mpr ⟨⟨show (20 : Nat) < 100 from by decide, nf4⟩, List.forall_mem_cons.mpr ⟨⟨show (23 : Nat) < 100 from by decide, nf5⟩, List.forall_mem_cons.mpr ⟨⟨show (23 : Nat) < 100 from by decide, nf6⟩, (fun _ h => (by cases h))⟩⟩⟩⟩⟩⟩⟩, (fun _ h => (by cases h))⟩
def o_Mo_rule_at_f0_17 : or_T := (275, 25, [(0, (2, 0, 0, [150])), (1, (0, 0, 2009, [])), (2, (2, 0, 0, [150])), (5, (0, 0, 2009, [])), (6, (0, 0, 2010, [])), (18, (0, 1, 1, [])), (19, (0, 1, 2009, [])), (21, (0, 0, 2009, [])), (22, (0, 0, 2009, []))], [(23, [1, 22], [0, 1, -1]), (23, [6, 22], [-2011, -1, -1]), (23, [1, 21], [0, 1, -1]), (23, [6, 21], [-2011, -1, -1]), (24, [0, 2], []), (20, [2], [50, 2, 1, 158, 157, 160, 2, 12, 0, 7, 4, 3, 2, 0, 158, 0, 1, 2, 0, 157, 2, 7, 0, 3, 2, 0, 157, 0, 2010, 3, 14, 1, 10, 3, 0, 160, 5, 3, 2, 0, 157, 0, 1, 0, 0, 1, 10, 3, 0, 160, 5, 3, 2, 0, 157, 0, 1, 0, 4]), (20, [22, 2], [30, 0, 1, 0, 0, -1, 1, 158]), (20, [2], [30, 0, 1, 1, 159]), (20, [2], [30, 0, -1, 1, 159]), (102, [22], [0, 13008, 13009, 13158, 13159]), (23, [1, 22], [0, 1, -1]), (23, [6, 22], [-2011, -1, -1]), (23, [1, 21], [0, 1, -1]), (23, [6, 21], [-2011, -1, -1]), (102, [21], [0, 13008, 13009, 13158]), (23, [1, 21], [0, 1, -1]), (23, [6, 21], [-2011, -1, -1]), (101, [2, 19], [158]), (1, [19, 5, 18], [])], [], [(0, 0, 2010, [])], [(20, [2], [50, 2, 1, 158, 157, 160, 2, 12, 0, 7, 4, 3, 2, 0, 158, 0, 1, 2, 0, 157, 2, 7, 0, 3, 2, 0, 157, 0, 2010, 3, 14, 1, 10, 3, 0, 160, 5, 3, 2, 0, 157, 0, 1, 0, 0, 1, 10, 3, 0, 160, 5, 3, 2, 0, 157, 0, 1, 0, 4]), (20, [1, 2], [30, 0, 1, 0, 0, -1, 1, 158]), (20, [2], [30, 0, 1, 1, 159]), (20, [2], [30, 0, -1, 1, 159]), (20, [25, 2], [30, -2011, -1, 0, 0, -1, 1, 158]), (24, [0, 2], [])], [(25, 6, 0, 0)], [(19, 5, 1, 1), (19, 1, -4294967296, 2010), (1, 5, -4294967296, 2009), (5, 1, -4294967296, 2009)])
theorem oo_Mo_rule_at_f0_17 {kA : Nat → ClassId} : or_ok kA GG o_Mo_rule_at_f0_17 := by
  intro A ta ws vs hD hth hl hk hds hf
  have hl : vs.length = 25 := hl
  have hk : ∀ q ∈ ([(0, (2, 0, 0, [150])), (1, (0, 0, 2009, [])), (2, (2, 0, 0, [150])), (5, (0, 0, 2009, [])), (6, (0, 0, 2010, [])), (18, (0, 1, 1, [])), (19, (0, 1, 2009, [])), (21, (0, 0, 2009, [])), (22, (0, 0, 2009, []))] : List (Nat × tv_T)), tv_ok ta q.2 (n_v vs q.1) := hk
  obtain ⟨t0, hk⟩ := List.forall_mem_cons.mp hk
  have t0 : tv_ok ta (2, 0, 0, [150]) (n_v vs 0) := t0
  have r0 : ta (v_ad (n_v vs 0)) = some 150 := tv_rg t0
  obtain ⟨t1, hk⟩ := List.forall_mem_cons.mp hk
  have t1 : tv_ok ta (0, 0, 2009, []) (n_v vs 1) := t1
  have k1 : 0 ≤ v_iv (n_v vs 1) ∧ v_iv (n_v vs 1) ≤ 2009 := tv_rng t1
  obtain ⟨t2, hk⟩ := List.forall_mem_cons.mp hk
  have t2 : tv_ok ta (2, 0, 0, [150]) (n_v vs 2) := t2
  have r2 : ta (v_ad (n_v vs 2)) = some 150 := tv_rg t2
  obtain ⟨t5, hk⟩ := List.forall_mem_cons.mp hk
  have t5 : tv_ok ta (0, 0, 2009, []) (n_v vs 5) := t5
  have k5 : 0 ≤ v_iv (n_v vs 5) ∧ v_iv (n_v vs 5) ≤ 2009 := tv_rng t5
  obtain ⟨t6, hk⟩ := List.forall_mem_cons.mp hk
  have t6 : tv_ok ta (0, 0, 2010, []) (n_v vs 6) := t6
  have k6 : 0 ≤ v_iv (n_v vs 6) ∧ v_iv (n_v vs 6) ≤ 2010 := tv_rng t6
  obtain ⟨t18, hk⟩ := List.forall_mem_cons.mp hk
  have t18 : tv_ok ta (0, 1, 1, []) (n_v vs 18) := t18
  have k18 : 1 ≤ v_iv (n_v vs 18) ∧ v_iv (n_v vs 18) ≤ 1 := tv_rng t18
  obtain ⟨t19, hk⟩ := List.forall_mem_cons.mp hk
  have t19 : tv_ok ta (0, 1, 2009, []) (n_v vs 19) := t19
  have k19 : 1 ≤ v_iv (n_v vs 19) ∧ v_iv (n_v vs 19) ≤ 2009 := tv_rng t19
  obtain ⟨t21, hk⟩ := List.forall_mem_cons.mp hk
  have t21 : tv_ok ta (0, 0, 2009, []) (n_v vs 21) := t21
  have k21 : 0 ≤ v_iv (n_v vs 21) ∧ v_iv (n_v vs 21) ≤ 2009 := tv_rng t21
  obtain ⟨t22, hk⟩ := List.forall_mem_cons.mp hk
  have t22 : tv_ok ta (0, 0, 2009, []) (n_v vs 22) := t22
  have k22 : 0 ≤ v_iv (n_v vs 22) ∧ v_iv (n_v vs 22) ≤ 2009 := tv_rng t22
  have hds : ∀ q ∈ ([(19, 5, 1, 1), (19, 1, -4294967296, 2010), (1, 5, -4294967296, 2009), (5, 1, -4294967296, 2009)] : List of_T), n_iv vs q.2.1 + q.2.2.1 ≤ n_iv vs q.1 ∧ n_iv vs q.1 ≤ n_iv vs q.2.1 + q.2.2.2 := hds
  obtain ⟨d0, hds⟩ := List.forall_mem_cons.mp hds
  have d0 : v_iv (n_v vs 5) + 1 ≤ v_iv (n_v vs 19) ∧ v_iv (n_v vs 19) ≤ v_iv (n_v vs 5) + 1 := d0
  obtain ⟨d1, hds⟩ := List.forall_mem_cons.mp hds
  have d1 : v_iv (n_v vs 1) + (-4294967296) ≤ v_iv (n_v vs 19) ∧ v_iv (n_v vs 19) ≤ v_iv (n_v vs 1) + 2010 := d1
  obtain ⟨d2, hds⟩ := List.forall_mem_cons.mp hds
  have d2 : v_iv (n_v vs 5) + (-4294967296) ≤ v_iv (n_v vs 1) ∧ v_iv (n_v vs 1) ≤ v_iv (n_v vs 5) + 2009 := d2
  obtain ⟨d3, hds⟩ := List.forall_mem_cons.mp hds
  have d3 : v_iv (n_v vs 1) + (-4294967296) ≤ v_iv (n_v vs 5) ∧ v_iv (n_v vs 5) ≤ v_iv (n_v vs 1) + 2009 := d3
  have hf : fc_ok [(23, [1, 22], [0, 1, -1]), (23, [6, 22], [-2011, -1, -1]), (23, [1, 21], [0, 1, -1]), (23, [6, 21], [-2011, -1, -1]), (24, [0, 2], []), (20, [2], [50, 2, 1, 158, 157, 160, 2, 12, 0, 7, 4, 3, 2, 0, 158, 0, 1, 2, 0, 157, 2, 7, 0, 3, 2, 0, 157, 0, 2010, 3, 14, 1, 10, 3, 0, 160, 5, 3, 2, 0, 157, 0, 1, 0, 0, 1, 10, 3, 0, 160, 5, 3, 2, 0, 157, 0, 1, 0, 4]), (20, [22, 2], [30, 0, 1, 0, 0, -1, 1, 158]), (20, [2], [30, 0, 1, 1, 159]), (20, [2], [30, 0, -1, 1, 159]), (102, [22], [0, 13008, 13009, 13158, 13159]), (23, [1, 22], [0, 1, -1]), (23, [6, 22], [-2011, -1, -1]), (23, [1, 21], [0, 1, -1]), (23, [6, 21], [-2011, -1, -1]), (102, [21], [0, 13008, 13009, 13158]), (23, [1, 21], [0, 1, -1]), (23, [6, 21], [-2011, -1, -1]), (101, [2, 19], [158]), (1, [19, 5, 18], [])] ta ws vs := hf
  obtain ⟨f0, hf⟩ := fc_un (show (23 : Nat) < 100 from by decide) hf
  have f0 : 1 * v_iv (n_v vs 1) + ((-1) * v_iv (n_v vs 22) + 0) ≤ 0 := f0
  obtain ⟨f1, hf⟩ := fc_un (show (23 : Nat) < 100 from by decide) hf
  have f1 : (-1) * v_iv (n_v vs 6) + ((-1) * v_iv (n_v vs 22) + 0) ≤ (-2011) := f1
  obtain ⟨f2, hf⟩ := fc_un (show (23 : Nat) < 100 from by decide) hf
  have f2 : 1 * v_iv (n_v vs 1) + ((-1) * v_iv (n_v vs 21) + 0) ≤ 0 := f2
  obtain ⟨f3, hf⟩ := fc_un (show (23 : Nat) < 100 from by decide) hf
  have f3 : (-1) * v_iv (n_v vs 6) + ((-1) * v_iv (n_v vs 21) + 0) ≤ (-2011) := f3
  obtain ⟨f4, hf⟩ := fc_un (show (24 : Nat) < 100 from by decide) hf
  have f4 : n_v vs 0 = n_v vs 2 := f4
  obtain ⟨f5, hf⟩ := fc_un (show (20 : Nat) < 100 from by decide) hf
  have f5 : ((w_fi ws (n_v vs 2) 158 + 1) ≤ w_fi ws (n_v vs 2) 157) ∧ ((w_fi ws (n_v vs 2) 157 ≤ 2010) ∧ ((w_ei ws (w_ar ws (n_v vs 2) 160) ((w_fi ws (n_v vs 2) 157 - 1)) = 0) ∨ (w_ei ws (w_ar ws (n_v vs 2) 160) ((w_fi ws (n_v vs 2) 157 - 1)) = 4))) := f5
  obtain ⟨f6, hf⟩ := fc_un (show (20 : Nat) < 100 from by decide) hf
  have f6 : 1 * v_iv (n_v vs 22) + ((-1) * w_fi ws (n_v vs 2) 158 + 0) ≤ 0 := f6
  obtain ⟨f7, hf⟩ := fc_un (show (20 : Nat) < 100 from by decide) hf
  have f7 : 1 * w_fi ws (n_v vs 2) 159 + 0 ≤ 0 := f7
  obtain ⟨f8, hf⟩ := fc_un (show (20 : Nat) < 100 from by decide) hf
  have f8 : (-1) * w_fi ws (n_v vs 2) 159 + 0 ≤ 0 := f8
  obtain ⟨ta1, w1, le1, ⟨_, s1⟩, hf⟩ := fc_us (show ¬ (102 : Nat) < 100 from by decide) hf
  obtain ⟨f10, hf⟩ := fc_un (show (23 : Nat) < 100 from by decide) hf
  have f10 : 1 * v_iv (n_v vs 1) + ((-1) * v_iv (n_v vs 22) + 0) ≤ 0 := f10
  obtain ⟨f11, hf⟩ := fc_un (show (23 : Nat) < 100 from by decide) hf
  have f11 : (-1) * v_iv (n_v vs 6) + ((-1) * v_iv (n_v vs 22) + 0) ≤ (-2011) := f11
  obtain ⟨f12, hf⟩ := fc_un (show (23 : Nat) < 100 from by decide) hf
  have f12 : 1 * v_iv (n_v vs 1) + ((-1) * v_iv (n_v vs 21) + 0) ≤ 0 := f12
  obtain ⟨f13, hf⟩ := fc_un (show (23 : Nat) < 100 from by decide) hf
  have f13 : (-1) * v_iv (n_v vs 6) + ((-1) * v_iv (n_v vs 21) + 0) ≤ (-2011) := f13
  obtain ⟨ta2, w2, le2, ⟨_, s2⟩, hf⟩ := fc_us (show ¬ (102 : Nat) < 100 from by decide) hf
  obtain ⟨f15, hf⟩ := fc_un (show (23 : Nat) < 100 from by decide) hf
  have f15 : 1 * v_iv (n_v vs 1) + ((-1) * v_iv (n_v vs 21) + 0) ≤ 0 := f15
  obtain ⟨f16, hf⟩ := fc_un (show (23 : Nat) < 100 from by decide) hf
  have f16 : (-1) * v_iv (n_v vs 6) + ((-1) * v_iv (n_v vs 21) + 0) ≤ (-2011) := f16
  obtain ⟨ta3, w3, le3, ⟨_, s3⟩, hf⟩ := fc_us (show ¬ (101 : Nat) < 100 from by decide) hf
  have s3 : (∀ b j, w_el w2 b j = w_el w3 b j) ∧ ∀ b j, w_fd w2 b j = if b = v_ad (n_v vs 2) ∧ j = 158 then n_v vs 19 else w_fd w3 b j := s3
  obtain ⟨f18, hf⟩ := fc_un (show (1 : Nat) < 100 from by decide) hf
  have f18 : v_iv (n_v vs 19) = v_iv (n_v vs 5) + v_iv (n_v vs 18) := f18
  have q2 : n_v vs 2 = n_v vs 0 := f4.symm
  rw [q2] at f5
  rw [q2] at f6
  rw [q2] at f7
  rw [q2] at f8
  rw [q2] at s3
  have cr_0_160 : ta (w_ar ws (n_v vs 0) 160) = some 259 := tv_rg (th_fd hD hth r0 (g := GG_150) rfl (k := 160) (t := (2, 0, 0, [259])) rfl rfl)
  have hK_0_160 : ∀ j : Int, 0 ≤ j → j < 2010 → 0 ≤ w_ei ws (w_ar ws (n_v vs 0) 160) j ∧ w_ei ws (w_ar ws (n_v vs 0) 160) j ≤ 4 := fun j h0 h1 => th_el hD hth cr_0_160 (kd := 0) (n := 2010) (m := 2010) (lo := 0) (hi := 4) (rs := []) (L := []) rfl (by decide) (j := j.toNat) (by omega)
  have kz_0_157 : 0 ≤ w_fi ws (n_v vs 0) 157 ∧ w_fi ws (n_v vs 0) 157 ≤ 2010 := tv_rng (th_fd hD hth r0 (g := GG_150) rfl (k := 157) (t := (0, 0, 2010, [])) rfl rfl)
  have kz_0_158 : 0 ≤ w_fi ws (n_v vs 0) 158 ∧ w_fi ws (n_v vs 0) 158 ≤ 2009 := tv_rng (th_fd hD hth r0 (g := GG_150) rfl (k := 158) (t := (0, 0, 2009, [])) rfl rfl)
  have kz_0_159 : 0 ≤ w_fi ws (n_v vs 0) 159 ∧ w_fi ws (n_v vs 0) 159 ≤ 13 := tv_rng (th_fd hD hth r0 (g := GG_150) rfl (k := 159) (t := (0, 0, 13, [])) rfl rfl)
  obtain ⟨x, ex, hx⟩ := iv_ex (ta := ta) (lo := 0) (hi := 2010) (z := 0 + (1 * v_iv (n_v vs 6) + 0)) (by omega) (by omega) (by omega) (by omega)
  have ex2 : v_iv (Value.int x) = 0 + (1 * v_iv (n_v vs 6) + 0) := ex
  have ex3 : 0 ≤ v_iv (Value.int x) ∧ v_iv (Value.int x) ≤ 2010 := tv_rng hx
  have e_0 : n_v (vs ++ [Value.int x]) 0 = n_v vs 0 := n_v_old (by rw [hl]; decide)
  have e_1 : n_v (vs ++ [Value.int x]) 1 = n_v vs 1 := n_v_old (by rw [hl]; decide)
  have e_2 : n_v (vs ++ [Value.int x]) 2 = n_v vs 2 := n_v_old (by rw [hl]; decide)
  have e_25 : n_v (vs ++ [Value.int x]) 25 = Value.int x := n_v_new hl
  have nf0 : fc_1 (20, [2], [50, 2, 1, 158, 157, 160, 2, 12, 0, 7, 4, 3, 2, 0, 158, 0, 1, 2, 0, 157, 2, 7, 0, 3, 2, 0, 157, 0, 2010, 3, 14, 1, 10, 3, 0, 160, 5, 3, 2, 0, 157, 0, 1, 0, 0, 1, 10, 3, 0, 160, 5, 3, 2, 0, 157, 0, 1, 0, 4]) ws (vs ++ [Value.int x]) := by
    refine ⟨fun n hn => ?_, ?_⟩
    · have hn : n ∈ [2] := hn
      rw [List.length_append, hl]
      simp only [List.mem_cons, List.not_mem_nil, or_false] at hn
      show n < 25 + 1; omega
    · show ((w_fi ws (n_v (vs ++ [Value.int x]) 2) 158 + 1) ≤ w_fi ws (n_v (vs ++ [Value.int x]) 2) 157) ∧ ((w_fi ws (n_v (vs ++ [Value.int x]) 2) 157 ≤ 2010) ∧ ((w_ei ws (w_ar ws (n_v (vs ++ [Value.int x]) 2) 160) ((w_fi ws (n_v (vs ++ [Value.int x]) 2) 157 - 1)) = 0) ∨ (w_ei ws (w_ar ws (n_v (vs ++ [Value.int x]) 2) 160) ((w_fi ws (n_v (vs ++ [Value.int x]) 2) 157 - 1)) = 4)))
      rw [e_2]
      rw [q2]
      first | omega | grind
  have nf1 : fc_1 (20, [1, 2], [30, 0, 1, 0, 0, -1, 1, 158]) ws (vs ++ [Value.int x]) := by
    refine ⟨fun n hn => ?_, ?_⟩
    · have hn : n ∈ [1, 2] := hn
      rw [List.length_append, hl]
      simp only [List.mem_cons, List.not_mem_nil, or_false] at hn
      show n < 25 + 1; omega
    · show 1 * v_iv (n_v (vs ++ [Value.int x]) 1) + ((-1) * w_fi ws (n_v (vs ++ [Value.int x]) 2) 158 + 0) ≤ 0
      rw [e_1]
      rw [e_2]
      rw [q2]
      omega
  have nf2 : fc_1 (20, [2], [30, 0, 1, 1, 159]) ws (vs ++ [Value.int x]) := by
    refine ⟨fun n hn => ?_, ?_⟩
    · have hn : n ∈ [2] := hn
      rw [List.length_append, hl]
      simp only [List.mem_cons, List.not_mem_nil, or_false] at hn
      show n < 25 + 1; omega
    · show 1 * w_fi ws (n_v (vs ++ [Value.int x]) 2) 159 + 0 ≤ 0
      rw [e_2]
      rw [q2]
      omega
  have nf3 : fc_1 (20, [2], [30, 0, -1, 1, 159]) ws (vs ++ [Value.int x]) := by
    refine ⟨fun n hn => ?_, ?_⟩
    · have hn : n ∈ [2] := hn
      rw [List.length_append, hl]
      simp only [List.mem_cons, List.not_mem_nil, or_false] at hn
      show n < 25 + 1; omega
    · show (-1) * w_fi ws (n_v (vs ++ [Value.int x]) 2) 159 + 0 ≤ 0
      rw [e_2]
      rw [q2]
      omega
  have nf4 : fc_1 (20, [25, 2], [30, -2011, -1, 0, 0, -1, 1, 158]) ws (vs ++ [Value.int x]) := by
    refine ⟨fun n hn => ?_, ?_⟩
    · have hn : n ∈ [25, 2] := hn
      rw [List.length_append, hl]
      simp only [List.mem_cons, List.not_mem_nil, or_false] at hn
      show n < 25 + 1; omega
    · show (-1) * v_iv (n_v (vs ++ [Value.int x]) 25) + ((-1) * w_fi ws (n_v (vs ++ [Value.int x]) 2) 158 + 0) ≤ (-2011)
      rw [e_2]
      rw [e_25]
      rw [q2]
      omega
  have nf5 : fc_1 (24, [0, 2], []) ws (vs ++ [Value.int x]) := by
    refine ⟨fun n hn => ?_, ?_⟩
    · have hn : n ∈ [0, 2] := hn
      rw [List.length_append, hl]
      simp only [List.mem_cons, List.not_mem_nil, or_false] at hn
      show n < 25 + 1; omega
    · show n_v (vs ++ [Value.int x]) 0 = n_v (vs ++ [Value.int x]) 2
      first | rfl | simp only [e_0, e_2, q2]
  obtain ⟨x0, e0, _, _⟩ := tv_int t6 rfl
  have e1 : v_iv (n_v vs 6) = x0.toInt := by rw [e0]; rfl
  have ho : sy_ofs (vs ++ [Value.int x]) (25, 6, 0, 0) := by
    refine ⟨x, x0, by rw [List.getElem?_append_right (by rw [hl]; decide), hl]; rfl, ?_, ?_, ?_⟩
    · rw [List.getElem?_append_left (by rw [hl]; decide)]; exact n_v_some (by rw [hl]; decide) e0
    · show x0.toInt + 0 ≤ x.toInt; omega
    · show x.toInt ≤ x0.toInt + 0; omega
  exact ⟨fun q hq => (by cases hq), [Value.int x], ag_one hx, List.forall_mem_cons.mpr ⟨⟨show (20 : Nat) < 100 from by decide, nf0⟩, List.forall_mem_cons.mpr ⟨⟨show (20 : Nat) < 100 from by decide, nf1⟩, List.forall_mem_cons.mpr ⟨⟨show (20 : Nat) < 100 from by decide, nf2⟩, List.forall_mem_cons.mpr ⟨⟨show (20 : Nat) < 100 from by decide, nf3⟩, List.forall_mem_cons.mpr ⟨⟨show (20 : Nat) < 100 from by decide, nf4⟩, List.forall_mem_cons.mpr ⟨⟨show (24 : Nat) < 100 from by decide, nf5⟩, (fun _ h => (by cases h))⟩⟩⟩⟩⟩⟩, List.forall_mem_cons.mpr ⟨ho, (fun _ h => (by cases h))⟩⟩
def o_Mo_rule_at_f0_18 : or_T := (275, 26, [(0, (2, 0, 0, [150])), (1, (0, 0, 2009, [])), (2, (2, 0, 0, [150])), (5, (0, 0, 2009, [])), (6, (0, 0, 2010, [])), (18, (0, 1, 1, [])), (19, (0, 1, 2009, [])), (21, (0, 0, 2009, [])), (22, (0, 0, 2009, []))], [(23, [1, 22], [0, 1, -1]), (23, [6, 22], [-2011, -1, -1]), (23, [1, 21], [0, 1, -1]), (23, [6, 21], [-2011, -1, -1]), (24, [0, 2], []), (20, [2], [50, 2, 1, 158, 157, 160, 2, 12, 0, 7, 4, 3, 2, 0, 158, 0, 1, 2, 0, 157, 2, 7, 0, 3, 2, 0, 157, 0, 2010, 3, 14, 1, 10, 3, 0, 160, 5, 3, 2, 0, 157, 0, 1, 0, 0, 1, 10, 3, 0, 160, 5, 3, 2, 0, 157, 0, 1, 0, 4]), (20, [22, 2], [30, 0, 1, 0, 0, -1, 1, 158]), (20, [2], [30, 0, 1, 1, 159]), (20, [2], [30, 0, -1, 1, 159]), (102, [22], [0, 13008, 13009, 13158, 13159]), (23, [1, 22], [0, 1, -1]), (23, [6, 22], [-2011, -1, -1]), (23, [1, 21], [0, 1, -1]), (23, [6, 21], [-2011, -1, -1]), (102, [21], [0, 13008, 13009, 13158]), (23, [1, 21], [0, 1, -1]), (23, [6, 21], [-2011, -1, -1]), (101, [2, 19], [158]), (1, [19, 5, 18], [])], [], [(0, 0, 2010, [])], [(20, [2], [50, 2, 1, 158, 157, 160, 2, 12, 0, 7, 4, 3, 2, 0, 158, 0, 1, 2, 0, 157, 2, 7, 0, 3, 2, 0, 157, 0, 2010, 3, 14, 1, 10, 3, 0, 160, 5, 3, 2, 0, 157, 0, 1, 0, 0, 1, 10, 3, 0, 160, 5, 3, 2, 0, 157, 0, 1, 0, 4]), (20, [1, 2], [30, 0, 1, 0, 0, -1, 1, 158]), (20, [2], [30, 0, 1, 1, 159]), (20, [2], [30, 0, -1, 1, 159]), (20, [26, 2], [30, -2011, -1, 0, 0, -1, 1, 158]), (24, [0, 2], [])], [(26, 6, 0, 0)], [(19, 5, 1, 1), (19, 1, -4294967296, 2010), (1, 5, -4294967296, 2009), (5, 1, -4294967296, 2009)])
theorem oo_Mo_rule_at_f0_18 {kA : Nat → ClassId} : or_ok kA GG o_Mo_rule_at_f0_18 := by
  intro A ta ws vs hD hth hl hk hds hf
  have hl : vs.length = 26 := hl
  have hk : ∀ q ∈ ([(0, (2, 0, 0, [150])), (1, (0, 0, 2009, [])), (2, (2, 0, 0, [150])), (5, (0, 0, 2009, [])), (6, (0, 0, 2010, [])), (18, (0, 1, 1, [])), (19, (0, 1, 2009, [])), (21, (0, 0, 2009, [])), (22, (0, 0, 2009, []))] : List (Nat × tv_T)), tv_ok ta q.2 (n_v vs q.1) := hk
  obtain ⟨t0, hk⟩ := List.forall_mem_cons.mp hk
  have t0 : tv_ok ta (2, 0, 0, [150]) (n_v vs 0) := t0
  have r0 : ta (v_ad (n_v vs 0)) = some 150 := tv_rg t0
  obtain ⟨t1, hk⟩ := List.forall_mem_cons.mp hk
  have t1 : tv_ok ta (0, 0, 2009, []) (n_v vs 1) := t1
  have k1 : 0 ≤ v_iv (n_v vs 1) ∧ v_iv (n_v vs 1) ≤ 2009 := tv_rng t1
  obtain ⟨t2, hk⟩ := List.forall_mem_cons.mp hk
  have t2 : tv_ok ta (2, 0, 0, [150]) (n_v vs 2) := t2
  have r2 : ta (v_ad (n_v vs 2)) = some 150 := tv_rg t2
  obtain ⟨t5, hk⟩ := List.forall_mem_cons.mp hk
  have t5 : tv_ok ta (0, 0, 2009, []) (n_v vs 5) := t5
  have k5 : 0 ≤ v_iv (n_v vs 5) ∧ v_iv (n_v vs 5) ≤ 2009 := tv_rng t5
  obtain ⟨t6, hk⟩ := List.forall_mem_cons.mp hk
  have t6 : tv_ok ta (0, 0, 2010, []) (n_v vs 6) := t6
  have k6 : 0 ≤ v_iv (n_v vs 6) ∧ v_iv (n_v vs 6) ≤ 2010 := tv_rng t6
  obtain ⟨t18, hk⟩ := List.forall_mem_cons.mp hk
  have t18 : tv_ok ta (0, 1, 1, []) (n_v vs 18) := t18
  have k18 : 1 ≤ v_iv (n_v vs 18) ∧ v_iv (n_v vs 18) ≤ 1 := tv_rng t18
  obtain ⟨t19, hk⟩ := List.forall_mem_cons.mp hk
  have t19 : tv_ok ta (0, 1, 2009, []) (n_v vs 19) := t19
  have k19 : 1 ≤ v_iv (n_v vs 19) ∧ v_iv (n_v vs 19) ≤ 2009 := tv_rng t19
  obtain ⟨t21, hk⟩ := List.forall_mem_cons.mp hk
  have t21 : tv_ok ta (0, 0, 2009, []) (n_v vs 21) := t21
  have k21 : 0 ≤ v_iv (n_v vs 21) ∧ v_iv (n_v vs 21) ≤ 2009 := tv_rng t21
  obtain ⟨t22, hk⟩ := List.forall_mem_cons.mp hk
  have t22 : tv_ok ta (0, 0, 2009, []) (n_v vs 22) := t22
  have k22 : 0 ≤ v_iv (n_v vs 22) ∧ v_iv (n_v vs 22) ≤ 2009 := tv_rng t22
  have hds : ∀ q ∈ ([(19, 5, 1, 1), (19, 1, -4294967296, 2010), (1, 5, -4294967296, 2009), (5, 1, -4294967296, 2009)] : List of_T), n_iv vs q.2.1 + q.2.2.1 ≤ n_iv vs q.1 ∧ n_iv vs q.1 ≤ n_iv vs q.2.1 + q.2.2.2 := hds
  obtain ⟨d0, hds⟩ := List.forall_mem_cons.mp hds
  have d0 : v_iv (n_v vs 5) + 1 ≤ v_iv (n_v vs 19) ∧ v_iv (n_v vs 19) ≤ v_iv (n_v vs 5) + 1 := d0
  obtain ⟨d1, hds⟩ := List.forall_mem_cons.mp hds
  have d1 : v_iv (n_v vs 1) + (-4294967296) ≤ v_iv (n_v vs 19) ∧ v_iv (n_v vs 19) ≤ v_iv (n_v vs 1) + 2010 := d1
  obtain ⟨d2, hds⟩ := List.forall_mem_cons.mp hds
  have d2 : v_iv (n_v vs 5) + (-4294967296) ≤ v_iv (n_v vs 1) ∧ v_iv (n_v vs 1) ≤ v_iv (n_v vs 5) + 2009 := d2
  obtain ⟨d3, hds⟩ := List.forall_mem_cons.mp hds
  have d3 : v_iv (n_v vs 1) + (-4294967296) ≤ v_iv (n_v vs 5) ∧ v_iv (n_v vs 5) ≤ v_iv (n_v vs 1) + 2009 := d3
  have hf : fc_ok [(23, [1, 22], [0, 1, -1]), (23, [6, 22], [-2011, -1, -1]), (23, [1, 21], [0, 1, -1]), (23, [6, 21], [-2011, -1, -1]), (24, [0, 2], []), (20, [2], [50, 2, 1, 158, 157, 160, 2, 12, 0, 7, 4, 3, 2, 0, 158, 0, 1, 2, 0, 157, 2, 7, 0, 3, 2, 0, 157, 0, 2010, 3, 14, 1, 10, 3, 0, 160, 5, 3, 2, 0, 157, 0, 1, 0, 0, 1, 10, 3, 0, 160, 5, 3, 2, 0, 157, 0, 1, 0, 4]), (20, [22, 2], [30, 0, 1, 0, 0, -1, 1, 158]), (20, [2], [30, 0, 1, 1, 159]), (20, [2], [30, 0, -1, 1, 159]), (102, [22], [0, 13008, 13009, 13158, 13159]), (23, [1, 22], [0, 1, -1]), (23, [6, 22], [-2011, -1, -1]), (23, [1, 21], [0, 1, -1]), (23, [6, 21], [-2011, -1, -1]), (102, [21], [0, 13008, 13009, 13158]), (23, [1, 21], [0, 1, -1]), (23, [6, 21], [-2011, -1, -1]), (101, [2, 19], [158]), (1, [19, 5, 18], [])] ta ws vs := hf
  obtain ⟨f0, hf⟩ := fc_un (show (23 : Nat) < 100 from by decide) hf
  have f0 : 1 * v_iv (n_v vs 1) + ((-1) * v_iv (n_v vs 22) + 0) ≤ 0 := f0
  obtain ⟨f1, hf⟩ := fc_un (show (23 : Nat) < 100 from by decide) hf
  have f1 : (-1) * v_iv (n_v vs 6) + ((-1) * v_iv (n_v vs 22) + 0) ≤ (-2011) := f1
  obtain ⟨f2, hf⟩ := fc_un (show (23 : Nat) < 100 from by decide) hf
  have f2 : 1 * v_iv (n_v vs 1) + ((-1) * v_iv (n_v vs 21) + 0) ≤ 0 := f2
  obtain ⟨f3, hf⟩ := fc_un (show (23 : Nat) < 100 from by decide) hf
  have f3 : (-1) * v_iv (n_v vs 6) + ((-1) * v_iv (n_v vs 21) + 0) ≤ (-2011) := f3
  obtain ⟨f4, hf⟩ := fc_un (show (24 : Nat) < 100 from by decide) hf
  have f4 : n_v vs 0 = n_v vs 2 := f4
  obtain ⟨f5, hf⟩ := fc_un (show (20 : Nat) < 100 from by decide) hf
  have f5 : ((w_fi ws (n_v vs 2) 158 + 1) ≤ w_fi ws (n_v vs 2) 157) ∧ ((w_fi ws (n_v vs 2) 157 ≤ 2010) ∧ ((w_ei ws (w_ar ws (n_v vs 2) 160) ((w_fi ws (n_v vs 2) 157 - 1)) = 0) ∨ (w_ei ws (w_ar ws (n_v vs 2) 160) ((w_fi ws (n_v vs 2) 157 - 1)) = 4))) := f5
  obtain ⟨f6, hf⟩ := fc_un (show (20 : Nat) < 100 from by decide) hf
  have f6 : 1 * v_iv (n_v vs 22) + ((-1) * w_fi ws (n_v vs 2) 158 + 0) ≤ 0 := f6
  obtain ⟨f7, hf⟩ := fc_un (show (20 : Nat) < 100 from by decide) hf
  have f7 : 1 * w_fi ws (n_v vs 2) 159 + 0 ≤ 0 := f7
  obtain ⟨f8, hf⟩ := fc_un (show (20 : Nat) < 100 from by decide) hf
  have f8 : (-1) * w_fi ws (n_v vs 2) 159 + 0 ≤ 0 := f8
  obtain ⟨ta1, w1, le1, ⟨_, s1⟩, hf⟩ := fc_us (show ¬ (102 : Nat) < 100 from by decide) hf
  obtain ⟨f10, hf⟩ := fc_un (show (23 : Nat) < 100 from by decide) hf
  have f10 : 1 * v_iv (n_v vs 1) + ((-1) * v_iv (n_v vs 22) + 0) ≤ 0 := f10
  obtain ⟨f11, hf⟩ := fc_un (show (23 : Nat) < 100 from by decide) hf
  have f11 : (-1) * v_iv (n_v vs 6) + ((-1) * v_iv (n_v vs 22) + 0) ≤ (-2011) := f11
  obtain ⟨f12, hf⟩ := fc_un (show (23 : Nat) < 100 from by decide) hf
  have f12 : 1 * v_iv (n_v vs 1) + ((-1) * v_iv (n_v vs 21) + 0) ≤ 0 := f12
  obtain ⟨f13, hf⟩ := fc_un (show (23 : Nat) < 100 from by decide) hf
  have f13 : (-1) * v_iv (n_v vs 6) + ((-1) * v_iv (n_v vs 21) + 0) ≤ (-2011) := f13
  obtain ⟨ta2, w2, le2, ⟨_, s2⟩, hf⟩ := fc_us (show ¬ (102 : Nat) < 100 from by decide) hf
  obtain ⟨f15, hf⟩ := fc_un (show (23 : Nat) < 100 from by decide) hf
  have f15 : 1 * v_iv (n_v vs 1) + ((-1) * v_iv (n_v vs 21) + 0) ≤ 0 := f15
  obtain ⟨f16, hf⟩ := fc_un (show (23 : Nat) < 100 from by decide) hf
  have f16 : (-1) * v_iv (n_v vs 6) + ((-1) * v_iv (n_v vs 21) + 0) ≤ (-2011) := f16
  obtain ⟨ta3, w3, le3, ⟨_, s3⟩, hf⟩ := fc_us (show ¬ (101 : Nat) < 100 from by decide) hf
  have s3 : (∀ b j, w_el w2 b j = w_el w3 b j) ∧ ∀ b j, w_fd w2 b j = if b = v_ad (n_v vs 2) ∧ j = 158 then n_v vs 19 else w_fd w3 b j := s3
  obtain ⟨f18, hf⟩ := fc_un (show (1 : Nat) < 100 from by decide) hf
  have f18 : v_iv (n_v vs 19) = v_iv (n_v vs 5) + v_iv (n_v vs 18) := f18
  have q2 : n_v vs 2 = n_v vs 0 := f4.symm
  rw [q2] at f5
  rw [q2] at f6
  rw [q2] at f7
  rw [q2] at f8
  rw [q2] at s3
  have cr_0_160 : ta (w_ar ws (n_v vs 0) 160) = some 259 := tv_rg (th_fd hD hth r0 (g := GG_150) rfl (k := 160) (t := (2, 0, 0, [259])) rfl rfl)
  have hK_0_160 : ∀ j : Int, 0 ≤ j → j < 2010 → 0 ≤ w_ei ws (w_ar ws (n_v vs 0) 160) j ∧ w_ei ws (w_ar ws (n_v vs 0) 160) j ≤ 4 := fun j h0 h1 => th_el hD hth cr_0_160 (kd := 0) (n := 2010) (m := 2010) (lo := 0) (hi := 4) (rs := []) (L := []) rfl (by decide) (j := j.toNat) (by omega)
  have kz_0_157 : 0 ≤ w_fi ws (n_v vs 0) 157 ∧ w_fi ws (n_v vs 0) 157 ≤ 2010 := tv_rng (th_fd hD hth r0 (g := GG_150) rfl (k := 157) (t := (0, 0, 2010, [])) rfl rfl)
  have kz_0_158 : 0 ≤ w_fi ws (n_v vs 0) 158 ∧ w_fi ws (n_v vs 0) 158 ≤ 2009 := tv_rng (th_fd hD hth r0 (g := GG_150) rfl (k := 158) (t := (0, 0, 2009, [])) rfl rfl)
  have kz_0_159 : 0 ≤ w_fi ws (n_v vs 0) 159 ∧ w_fi ws (n_v vs 0) 159 ≤ 13 := tv_rng (th_fd hD hth r0 (g := GG_150) rfl (k := 159) (t := (0, 0, 13, [])) rfl rfl)
  obtain ⟨x, ex, hx⟩ := iv_ex (ta := ta) (lo := 0) (hi := 2010) (z := 0 + (1 * v_iv (n_v vs 6) + 0)) (by omega) (by omega) (by omega) (by omega)
  have ex2 : v_iv (Value.int x) = 0 + (1 * v_iv (n_v vs 6) + 0) := ex
  have ex3 : 0 ≤ v_iv (Value.int x) ∧ v_iv (Value.int x) ≤ 2010 := tv_rng hx
  have e_0 : n_v (vs ++ [Value.int x]) 0 = n_v vs 0 := n_v_old (by rw [hl]; decide)
  have e_1 : n_v (vs ++ [Value.int x]) 1 = n_v vs 1 := n_v_old (by rw [hl]; decide)
  have e_2 : n_v (vs ++ [Value.int x]) 2 = n_v vs 2 := n_v_old (by rw [hl]; decide)
  have e_26 : n_v (vs ++ [Value.int x]) 26 = Value.int x := n_v_new hl
  have nf0 : fc_1 (20, [2], [50, 2, 1, 158, 157, 160, 2, 12, 0, 7, 4, 3, 2, 0, 158, 0, 1, 2, 0, 157, 2, 7, 0, 3, 2, 0, 157, 0, 2010, 3, 14, 1, 10, 3, 0, 160, 5, 3, 2, 0, 157, 0, 1, 0, 0, 1, 10, 3, 0, 160, 5, 3, 2, 0, 157, 0, 1, 0, 4]) ws (vs ++ [Value.int x]) := by
    refine ⟨fun n hn => ?_, ?_⟩
    · have hn : n ∈ [2] := hn
      rw [List.length_append, hl]
      simp only [List.mem_cons, List.not_mem_nil, or_false] at hn
      show n < 26 + 1; omega
    · show ((w_fi ws (n_v (vs ++ [Value.int x]) 2) 158 + 1) ≤ w_fi ws (n_v (vs ++ [Value.int x]) 2) 157) ∧ ((w_fi ws (n_v (vs ++ [Value.int x]) 2) 157 ≤ 2010) ∧ ((w_ei ws (w_ar ws (n_v (vs ++ [Value.int x]) 2) 160) ((w_fi ws (n_v (vs ++ [Value.int x]) 2) 157 - 1)) = 0) ∨ (w_ei ws (w_ar ws (n_v (vs ++ [Value.int x]) 2) 160) ((w_fi ws (n_v (vs ++ [Value.int x]) 2) 157 - 1)) = 4)))
      rw [e_2]
      rw [q2]
      first | omega | grind
  have nf1 : fc_1 (20, [1, 2], [30, 0, 1, 0, 0, -1, 1, 158]) ws (vs ++ [Value.int x]) := by
    refine ⟨fun n hn => ?_, ?_⟩
    · have hn : n ∈ [1, 2] := hn
      rw [List.length_append, hl]
      simp only [List.mem_cons, List.not_mem_nil, or_false] at hn
      show n < 26 + 1; omega
    · show 1 * v_iv (n_v (vs ++ [Value.int x]) 1) + ((-1) * w_fi ws (n_v (vs ++ [Value.int x]) 2) 158 + 0) ≤ 0
      rw [e_1]
      rw [e_2]
      rw [q2]
      omega
  have nf2 : fc_1 (20, [2], [30, 0, 1, 1, 159]) ws (vs ++ [Value.int x]) := by
    refine ⟨fun n hn => ?_, ?_⟩
    · have hn : n ∈ [2] := hn
      rw [List.length_append, hl]
      simp only [List.mem_cons, List.not_mem_nil, or_false] at hn
      show n < 26 + 1; omega
    · show 1 * w_fi ws (n_v (vs ++ [Value.int x]) 2) 159 + 0 ≤ 0
      rw [e_2]
      rw [q2]
      omega
  have nf3 : fc_1 (20, [2], [30, 0, -1, 1, 159]) ws (vs ++ [Value.int x]) := by
    refine ⟨fun n hn => ?_, ?_⟩
    · have hn : n ∈ [2] := hn
      rw [List.length_append, hl]
      simp only [List.mem_cons, List.not_mem_nil, or_false] at hn
      show n < 26 + 1; omega
    · show (-1) * w_fi ws (n_v (vs ++ [Value.int x]) 2) 159 + 0 ≤ 0
      rw [e_2]
      rw [q2]
      omega
  have nf4 : fc_1 (20, [26, 2], [30, -2011, -1, 0, 0, -1, 1, 158]) ws (vs ++ [Value.int x]) := by
    refine ⟨fun n hn => ?_, ?_⟩
    · have hn : n ∈ [26, 2] := hn
      rw [List.length_append, hl]
      simp only [List.mem_cons, List.not_mem_nil, or_false] at hn
      show n < 26 + 1; omega
    · show (-1) * v_iv (n_v (vs ++ [Value.int x]) 26) + ((-1) * w_fi ws (n_v (vs ++ [Value.int x]) 2) 158 + 0) ≤ (-2011)
      rw [e_2]
      rw [e_26]
      rw [q2]
      omega
  have nf5 : fc_1 (24, [0, 2], []) ws (vs ++ [Value.int x]) := by
    refine ⟨fun n hn => ?_, ?_⟩
    · have hn : n ∈ [0, 2] := hn
      rw [List.length_append, hl]
      simp only [List.mem_cons, List.not_mem_nil, or_false] at hn
      show n < 26 + 1; omega
    · show n_v (vs ++ [Value.int x]) 0 = n_v (vs ++ [Value.int x]) 2
      first | rfl | simp only [e_0, e_2, q2]
  obtain ⟨x0, e0, _, _⟩ := tv_int t6 rfl
  have e1 : v_iv (n_v vs 6) = x0.toInt := by rw [e0]; rfl
  have ho : sy_ofs (vs ++ [Value.int x]) (26, 6, 0, 0) := by
    refine ⟨x, x0, by rw [List.getElem?_append_right (by rw [hl]; decide), hl]; rfl, ?_, ?_, ?_⟩
    · rw [List.getElem?_append_left (by rw [hl]; decide)]; exact n_v_some (by rw [hl]; decide) e0
    · show x0.toInt + 0 ≤ x.toInt; omega
    · show x.toInt ≤ x0.toInt + 0; omega
  exact ⟨fun q hq => (by cases hq), [Value.int x], ag_one hx, List.forall_mem_cons.mpr ⟨⟨show (20 : Nat) < 100 from by decide, nf0⟩, List.forall_mem_cons.mpr ⟨⟨show (20 : Nat) < 100 from by decide, nf1⟩, List.forall_mem_cons.mpr ⟨⟨show (20 : Nat) < 100 from by decide, nf2⟩, List.forall_mem_cons.mpr ⟨⟨show (20 : Nat) < 100 from by decide, nf3⟩, List.forall_mem_cons.mpr ⟨⟨show (20 : Nat) < 100 from by decide, nf4⟩, List.forall_mem_cons.mpr ⟨⟨show (24 : Nat) < 100 from by decide, nf5⟩, (fun _ h => (by cases h))⟩⟩⟩⟩⟩⟩, List.forall_mem_cons.mpr ⟨ho, (fun _ h => (by cases h))⟩⟩
def o_Mo_rule_at_f0_19 : or_T := (274, 41, [(0, (2, 0, 0, [150])), (1, (0, 0, 2009, [])), (2, (2, 0, 0, [150])), (5, (0, 0, 2009, [])), (6, (0, 0, 2010, [])), (13, (0, -1, -1, [])), (18, (0, 1, 1, [])), (19, (0, 1, 2009, [])), (21, (0, 0, 2009, [])), (22, (0, 0, 2009, [])), (25, (0, 0, 47, [])), (27, (0, 216, 216, [])), (28, (0, 0, 3, [])), (29, (0, 0, 648, [])), (30, (0, 72, 72, [])), (31, (0, 0, 1, [])), (32, (0, 0, 72, [])), (33, (0, 0, 720, [])), (34, (0, 3, 3, [])), (35, (0, 0, 141, [])), (36, (0, 0, 861, [])), (37, (0, -1, 860, []))], [(1, [37, 36, 13], []), (1, [36, 33, 35], []), (3, [35, 34, 25], []), (9, [25, 2], [165]), (1, [33, 29, 32], []), (3, [32, 30, 31], []), (9, [31, 2], [164]), (3, [29, 27, 28], []), (9, [28, 2], [139]), (8, [25], [3]), (23, [1, 22], [0, 1, -1]), (23, [6, 22], [-2011, -1, -1]), (23, [1, 21], [0, 1, -1]), (23, [6, 21], [-2011, -1, -1]), (23, [13], [0, -1]), (24, [0, 2], []), (20, [2], [50, 2, 1, 158, 157, 160, 2, 12, 0, 7, 4, 3, 2, 0, 158, 0, 1, 2, 0, 157, 2, 7, 0, 3, 2, 0, 157, 0, 2010, 3, 14, 1, 10, 3, 0, 160, 5, 3, 2, 0, 157, 0, 1, 0, 0, 1, 10, 3, 0, 160, 5, 3, 2, 0, 157, 0, 1, 0, 4]), (20, [22, 2], [30, 0, 1, 0, 0, -1, 1, 158]), (20, [2], [30, 0, 1, 1, 159]), (20, [2], [30, 0, -1, 1, 159]), (102, [22], [0, 13008, 13009, 13158, 13159]), (23, [1, 22], [0, 1, -1]), (23, [6, 22], [-2011, -1, -1]), (23, [1, 21], [0, 1, -1]), (23, [6, 21], [-2011, -1, -1]), (23, [13], [0, -1]), (102, [21], [0, 13008, 13009, 13158]), (23, [1, 21], [0, 1, -1]), (23, [6, 21], [-2011, -1, -1]), (23, [13], [0, -1]), (101, [2, 19], [158]), (1, [19, 5, 18], []), (23, [13], [0, -1]), (102, [16], [0, 13008, 13009]), (8, [13], [2])], [(37, (0, 0, 860, []))], [], [], [], [(37, 36, -1, -1), (37, 35, -1, 719), (37, 33, -1, 140), (37, 32, -1, 788), (37, 29, -1, 212), (36, 35, 0, 720), (36, 33, 0, 141), (36, 32, 0, 789), (36, 29, 0, 213), (33, 32, 0, 648), (33, 29, 0, 72), (19, 5, 1, 1), (19, 1, -4294967296, 2010), (1, 5, -4294967296, 2009), (5, 1, -4294967296, 2009)])
theorem oo_Mo_rule_at_f0_19 {kA : Nat → ClassId} : or_ok kA GG o_Mo_rule_at_f0_19 := by
  intro A ta ws vs hD hth hl hk hds hf
  have hl : vs.length = 41 := hl
  have hk : ∀ q ∈ ([(0, (2, 0, 0, [150])), (1, (0, 0, 2009, [])), (2, (2, 0, 0, [150])), (5, (0, 0, 2009, [])), (6, (0, 0, 2010, [])), (13, (0, -1, -1, [])), (18, (0, 1, 1, [])), (19, (0, 1, 2009, [])), (21, (0, 0, 2009, [])), (22, (0, 0, 2009, [])), (25, (0, 0, 47, [])), (27, (0, 216, 216, [])), (28, (0, 0, 3, [])), (29, (0, 0, 648, [])), (30, (0, 72, 72, [])), (31, (0, 0, 1, [])), (32, (0, 0, 72, [])), (33, (0, 0, 720, [])), (34, (0, 3, 3, [])), (35, (0, 0, 141, [])), (36, (0, 0, 861, [])), (37, (0, -1, 860, []))] : List (Nat × tv_T)), tv_ok ta q.2 (n_v vs q.1) := hk
  obtain ⟨t0, hk⟩ := List.forall_mem_cons.mp hk
  have t0 : tv_ok ta (2, 0, 0, [150]) (n_v vs 0) := t0
  have r0 : ta (v_ad (n_v vs 0)) = some 150 := tv_rg t0
  obtain ⟨t1, hk⟩ := List.forall_mem_cons.mp hk
  have t1 : tv_ok ta (0, 0, 2009, []) (n_v vs 1) := t1
  have k1 : 0 ≤ v_iv (n_v vs 1) ∧ v_iv (n_v vs 1) ≤ 2009 := tv_rng t1
  obtain ⟨t2, hk⟩ := List.forall_mem_cons.mp hk
  have t2 : tv_ok ta (2, 0, 0, [150]) (n_v vs 2) := t2
  have r2 : ta (v_ad (n_v vs 2)) = some 150 := tv_rg t2
  obtain ⟨t5, hk⟩ := List.forall_mem_cons.mp hk
  have t5 : tv_ok ta (0, 0, 2009, []) (n_v vs 5) := t5
  have k5 : 0 ≤ v_iv (n_v vs 5) ∧ v_iv (n_v vs 5) ≤ 2009 := tv_rng t5
  obtain ⟨t6, hk⟩ := List.forall_mem_cons.mp hk
  have t6 : tv_ok ta (0, 0, 2010, []) (n_v vs 6) := t6
  have k6 : 0 ≤ v_iv (n_v vs 6) ∧ v_iv (n_v vs 6) ≤ 2010 := tv_rng t6
  obtain ⟨t13, hk⟩ := List.forall_mem_cons.mp hk
  have t13 : tv_ok ta (0, -1, -1, []) (n_v vs 13) := t13
  have k13 : (-1) ≤ v_iv (n_v vs 13) ∧ v_iv (n_v vs 13) ≤ (-1) := tv_rng t13
  obtain ⟨t18, hk⟩ := List.forall_mem_cons.mp hk
  have t18 : tv_ok ta (0, 1, 1, []) (n_v vs 18) := t18
  have k18 : 1 ≤ v_iv (n_v vs 18) ∧ v_iv (n_v vs 18) ≤ 1 := tv_rng t18
  obtain ⟨t19, hk⟩ := List.forall_mem_cons.mp hk
  have t19 : tv_ok ta (0, 1, 2009, []) (n_v vs 19) := t19
  have k19 : 1 ≤ v_iv (n_v vs 19) ∧ v_iv (n_v vs 19) ≤ 2009 := tv_rng t19
  obtain ⟨t21, hk⟩ := List.forall_mem_cons.mp hk
  have t21 : tv_ok ta (0, 0, 2009, []) (n_v vs 21) := t21
  have k21 : 0 ≤ v_iv (n_v vs 21) ∧ v_iv (n_v vs 21) ≤ 2009 := tv_rng t21
  obtain ⟨t22, hk⟩ := List.forall_mem_cons.mp hk
  have t22 : tv_ok ta (0, 0, 2009, []) (n_v vs 22) := t22
  have k22 : 0 ≤ v_iv (n_v vs 22) ∧ v_iv (n_v vs 22) ≤ 2009 := tv_rng t22
  obtain ⟨t25, hk⟩ := List.forall_mem_cons.mp hk
  have t25 : tv_ok ta (0, 0, 47, []) (n_v vs 25) := t25
  have k25 : 0 ≤ v_iv (n_v vs 25) ∧ v_iv (n_v vs 25) ≤ 47 := tv_rng t25
  obtain ⟨t27, hk⟩ := List.forall_mem_cons.mp hk
  have t27 : tv_ok ta (0, 216, 216, []) (n_v vs 27) := t27
  have k27 : 216 ≤ v_iv (n_v vs 27) ∧ v_iv (n_v vs 27) ≤ 216 := tv_rng t27
  obtain ⟨t28, hk⟩ := List.forall_mem_cons.mp hk
  have t28 : tv_ok ta (0, 0, 3, []) (n_v vs 28) := t28
  have k28 : 0 ≤ v_iv (n_v vs 28) ∧ v_iv (n_v vs 28) ≤ 3 := tv_rng t28
  obtain ⟨t29, hk⟩ := List.forall_mem_cons.mp hk
  have t29 : tv_ok ta (0, 0, 648, []) (n_v vs 29) := t29
  have k29 : 0 ≤ v_iv (n_v vs 29) ∧ v_iv (n_v vs 29) ≤ 648 := tv_rng t29
  obtain ⟨t30, hk⟩ := List.forall_mem_cons.mp hk
  have t30 : tv_ok ta (0, 72, 72, []) (n_v vs 30) := t30
  have k30 : 72 ≤ v_iv (n_v vs 30) ∧ v_iv (n_v vs 30) ≤ 72 := tv_rng t30
  obtain ⟨t31, hk⟩ := List.forall_mem_cons.mp hk
  have t31 : tv_ok ta (0, 0, 1, []) (n_v vs 31) := t31
  have k31 : 0 ≤ v_iv (n_v vs 31) ∧ v_iv (n_v vs 31) ≤ 1 := tv_rng t31
  obtain ⟨t32, hk⟩ := List.forall_mem_cons.mp hk
  have t32 : tv_ok ta (0, 0, 72, []) (n_v vs 32) := t32
  have k32 : 0 ≤ v_iv (n_v vs 32) ∧ v_iv (n_v vs 32) ≤ 72 := tv_rng t32
  obtain ⟨t33, hk⟩ := List.forall_mem_cons.mp hk
  have t33 : tv_ok ta (0, 0, 720, []) (n_v vs 33) := t33
  have k33 : 0 ≤ v_iv (n_v vs 33) ∧ v_iv (n_v vs 33) ≤ 720 := tv_rng t33
  obtain ⟨t34, hk⟩ := List.forall_mem_cons.mp hk
  have t34 : tv_ok ta (0, 3, 3, []) (n_v vs 34) := t34
  have k34 : 3 ≤ v_iv (n_v vs 34) ∧ v_iv (n_v vs 34) ≤ 3 := tv_rng t34
  obtain ⟨t35, hk⟩ := List.forall_mem_cons.mp hk
  have t35 : tv_ok ta (0, 0, 141, []) (n_v vs 35) := t35
  have k35 : 0 ≤ v_iv (n_v vs 35) ∧ v_iv (n_v vs 35) ≤ 141 := tv_rng t35
  obtain ⟨t36, hk⟩ := List.forall_mem_cons.mp hk
  have t36 : tv_ok ta (0, 0, 861, []) (n_v vs 36) := t36
  have k36 : 0 ≤ v_iv (n_v vs 36) ∧ v_iv (n_v vs 36) ≤ 861 := tv_rng t36
  obtain ⟨t37, hk⟩ := List.forall_mem_cons.mp hk
  have t37 : tv_ok ta (0, -1, 860, []) (n_v vs 37) := t37
  have k37 : (-1) ≤ v_iv (n_v vs 37) ∧ v_iv (n_v vs 37) ≤ 860 := tv_rng t37
  have hds : ∀ q ∈ ([(37, 36, -1, -1), (37, 35, -1, 719), (37, 33, -1, 140), (37, 32, -1, 788), (37, 29, -1, 212), (36, 35, 0, 720), (36, 33, 0, 141), (36, 32, 0, 789), (36, 29, 0, 213), (33, 32, 0, 648), (33, 29, 0, 72), (19, 5, 1, 1), (19, 1, -4294967296, 2010), (1, 5, -4294967296, 2009), (5, 1, -4294967296, 2009)] : List of_T), n_iv vs q.2.1 + q.2.2.1 ≤ n_iv vs q.1 ∧ n_iv vs q.1 ≤ n_iv vs q.2.1 + q.2.2.2 := hds
  obtain ⟨d0, hds⟩ := List.forall_mem_cons.mp hds
  have d0 : v_iv (n_v vs 36) + (-1) ≤ v_iv (n_v vs 37) ∧ v_iv (n_v vs 37) ≤ v_iv (n_v vs 36) + (-1) := d0
  obtain ⟨d1, hds⟩ := List.forall_mem_cons.mp hds
  have d1 : v_iv (n_v vs 35) + (-1) ≤ v_iv (n_v vs 37) ∧ v_iv (n_v vs 37) ≤ v_iv (n_v vs 35) + 719 := d1
  obtain ⟨d2, hds⟩ := List.forall_mem_cons.mp hds
  have d2 : v_iv (n_v vs 33) + (-1) ≤ v_iv (n_v vs 37) ∧ v_iv (n_v vs 37) ≤ v_iv (n_v vs 33) + 140 := d2
  obtain ⟨d3, hds⟩ := List.forall_mem_cons.mp hds
  have d3 : v_iv (n_v vs 32) + (-1) ≤ v_iv (n_v vs 37) ∧ v_iv (n_v vs 37) ≤ v_iv (n_v vs 32) + 788 := d3
  obtain ⟨d4, hds⟩ := List.forall_mem_cons.mp hds
  have d4 : v_iv (n_v vs 29) + (-1) ≤ v_iv (n_v vs 37) ∧ v_iv (n_v vs 37) ≤ v_iv (n_v vs 29) + 212 := d4
  obtain ⟨d5, hds⟩ := List.forall_mem_cons.mp hds
  have d5 : v_iv (n_v vs 35) + 0 ≤ v_iv (n_v vs 36) ∧ v_iv (n_v vs 36) ≤ v_iv (n_v vs 35) + 720 := d5
  obtain ⟨d6, hds⟩ := List.forall_mem_cons.mp hds
  have d6 : v_iv (n_v vs 33) + 0 ≤ v_iv (n_v vs 36) ∧ v_iv (n_v vs 36) ≤ v_iv (n_v vs 33) + 141 := d6
  obtain ⟨d7, hds⟩ := List.forall_mem_cons.mp hds
  have d7 : v_iv (n_v vs 32) + 0 ≤ v_iv (n_v vs 36) ∧ v_iv (n_v vs 36) ≤ v_iv (n_v vs 32) + 789 := d7
  obtain ⟨d8, hds⟩ := List.forall_mem_cons.mp hds
  have d8 : v_iv (n_v vs 29) + 0 ≤ v_iv (n_v vs 36) ∧ v_iv (n_v vs 36) ≤ v_iv (n_v vs 29) + 213 := d8
  obtain ⟨d9, hds⟩ := List.forall_mem_cons.mp hds
  have d9 : v_iv (n_v vs 32) + 0 ≤ v_iv (n_v vs 33) ∧ v_iv (n_v vs 33) ≤ v_iv (n_v vs 32) + 648 := d9
  obtain ⟨d10, hds⟩ := List.forall_mem_cons.mp hds
  have d10 : v_iv (n_v vs 29) + 0 ≤ v_iv (n_v vs 33) ∧ v_iv (n_v vs 33) ≤ v_iv (n_v vs 29) + 72 := d10
  obtain ⟨d11, hds⟩ := List.forall_mem_cons.mp hds
  have d11 : v_iv (n_v vs 5) + 1 ≤ v_iv (n_v vs 19) ∧ v_iv (n_v vs 19) ≤ v_iv (n_v vs 5) + 1 := d11
  obtain ⟨d12, hds⟩ := List.forall_mem_cons.mp hds
  have d12 : v_iv (n_v vs 1) + (-4294967296) ≤ v_iv (n_v vs 19) ∧ v_iv (n_v vs 19) ≤ v_iv (n_v vs 1) + 2010 := d12
  obtain ⟨d13, hds⟩ := List.forall_mem_cons.mp hds
  have d13 : v_iv (n_v vs 5) + (-4294967296) ≤ v_iv (n_v vs 1) ∧ v_iv (n_v vs 1) ≤ v_iv (n_v vs 5) + 2009 := d13
  obtain ⟨d14, hds⟩ := List.forall_mem_cons.mp hds
  have d14 : v_iv (n_v vs 1) + (-4294967296) ≤ v_iv (n_v vs 5) ∧ v_iv (n_v vs 5) ≤ v_iv (n_v vs 1) + 2009 := d14
  have hf : fc_ok [(1, [37, 36, 13], []), (1, [36, 33, 35], []), (3, [35, 34, 25], []), (9, [25, 2], [165]), (1, [33, 29, 32], []), (3, [32, 30, 31], []), (9, [31, 2], [164]), (3, [29, 27, 28], []), (9, [28, 2], [139]), (8, [25], [3]), (23, [1, 22], [0, 1, -1]), (23, [6, 22], [-2011, -1, -1]), (23, [1, 21], [0, 1, -1]), (23, [6, 21], [-2011, -1, -1]), (23, [13], [0, -1]), (24, [0, 2], []), (20, [2], [50, 2, 1, 158, 157, 160, 2, 12, 0, 7, 4, 3, 2, 0, 158, 0, 1, 2, 0, 157, 2, 7, 0, 3, 2, 0, 157, 0, 2010, 3, 14, 1, 10, 3, 0, 160, 5, 3, 2, 0, 157, 0, 1, 0, 0, 1, 10, 3, 0, 160, 5, 3, 2, 0, 157, 0, 1, 0, 4]), (20, [22, 2], [30, 0, 1, 0, 0, -1, 1, 158]), (20, [2], [30, 0, 1, 1, 159]), (20, [2], [30, 0, -1, 1, 159]), (102, [22], [0, 13008, 13009, 13158, 13159]), (23, [1, 22], [0, 1, -1]), (23, [6, 22], [-2011, -1, -1]), (23, [1, 21], [0, 1, -1]), (23, [6, 21], [-2011, -1, -1]), (23, [13], [0, -1]), (102, [21], [0, 13008, 13009, 13158]), (23, [1, 21], [0, 1, -1]), (23, [6, 21], [-2011, -1, -1]), (23, [13], [0, -1]), (101, [2, 19], [158]), (1, [19, 5, 18], []), (23, [13], [0, -1]), (102, [16], [0, 13008, 13009]), (8, [13], [2])] ta ws vs := hf
  obtain ⟨f0, hf⟩ := fc_un (show (1 : Nat) < 100 from by decide) hf
  have f0 : v_iv (n_v vs 37) = v_iv (n_v vs 36) + v_iv (n_v vs 13) := f0
  obtain ⟨f1, hf⟩ := fc_un (show (1 : Nat) < 100 from by decide) hf
  have f1 : v_iv (n_v vs 36) = v_iv (n_v vs 33) + v_iv (n_v vs 35) := f1
  obtain ⟨f2, hf⟩ := fc_un (show (3 : Nat) < 100 from by decide) hf
  have f2 : v_iv (n_v vs 35) = v_iv (n_v vs 34) * v_iv (n_v vs 25) := f2
  rw [show v_iv (n_v vs 34) = 3 from by omega] at f2
  obtain ⟨f3, hf⟩ := fc_un (show (9 : Nat) < 100 from by decide) hf
  have f3 : n_v vs 25 = w_fd ws (v_ad (n_v vs 2)) 165 := f3
  obtain ⟨f4, hf⟩ := fc_un (show (1 : Nat) < 100 from by decide) hf
  have f4 : v_iv (n_v vs 33) = v_iv (n_v vs 29) + v_iv (n_v vs 32) := f4
  obtain ⟨f5, hf⟩ := fc_un (show (3 : Nat) < 100 from by decide) hf
  have f5 : v_iv (n_v vs 32) = v_iv (n_v vs 30) * v_iv (n_v vs 31) := f5
  rw [show v_iv (n_v vs 30) = 72 from by omega] at f5
  obtain ⟨f6, hf⟩ := fc_un (show (9 : Nat) < 100 from by decide) hf
  have f6 : n_v vs 31 = w_fd ws (v_ad (n_v vs 2)) 164 := f6
  obtain ⟨f7, hf⟩ := fc_un (show (3 : Nat) < 100 from by decide) hf
  have f7 : v_iv (n_v vs 29) = v_iv (n_v vs 27) * v_iv (n_v vs 28) := f7
  rw [show v_iv (n_v vs 27) = 216 from by omega] at f7
  obtain ⟨f8, hf⟩ := fc_un (show (9 : Nat) < 100 from by decide) hf
  have f8 : n_v vs 28 = w_fd ws (v_ad (n_v vs 2)) 139 := f8
  obtain ⟨f9, hf⟩ := fc_un (show (8 : Nat) < 100 from by decide) hf
  have f9 : 0 ≤ v_iv (n_v vs 25) := f9
  obtain ⟨f10, hf⟩ := fc_un (show (23 : Nat) < 100 from by decide) hf
  have f10 : 1 * v_iv (n_v vs 1) + ((-1) * v_iv (n_v vs 22) + 0) ≤ 0 := f10
  obtain ⟨f11, hf⟩ := fc_un (show (23 : Nat) < 100 from by decide) hf
  have f11 : (-1) * v_iv (n_v vs 6) + ((-1) * v_iv (n_v vs 22) + 0) ≤ (-2011) := f11
  obtain ⟨f12, hf⟩ := fc_un (show (23 : Nat) < 100 from by decide) hf
  have f12 : 1 * v_iv (n_v vs 1) + ((-1) * v_iv (n_v vs 21) + 0) ≤ 0 := f12
  obtain ⟨f13, hf⟩ := fc_un (show (23 : Nat) < 100 from by decide) hf
  have f13 : (-1) * v_iv (n_v vs 6) + ((-1) * v_iv (n_v vs 21) + 0) ≤ (-2011) := f13
  obtain ⟨f14, hf⟩ := fc_un (show (23 : Nat) < 100 from by decide) hf
  have f14 : (-1) * v_iv (n_v vs 13) + 0 ≤ 0 := f14
  obtain ⟨f15, hf⟩ := fc_un (show (24 : Nat) < 100 from by decide) hf
  have f15 : n_v vs 0 = n_v vs 2 := f15
  obtain ⟨f16, hf⟩ := fc_un (show (20 : Nat) < 100 from by decide) hf
  have f16 : ((w_fi ws (n_v vs 2) 158 + 1) ≤ w_fi ws (n_v vs 2) 157) ∧ ((w_fi ws (n_v vs 2) 157 ≤ 2010) ∧ ((w_ei ws (w_ar ws (n_v vs 2) 160) ((w_fi ws (n_v vs 2) 157 - 1)) = 0) ∨ (w_ei ws (w_ar ws (n_v vs 2) 160) ((w_fi ws (n_v vs 2) 157 - 1)) = 4))) := f16
  obtain ⟨f17, hf⟩ := fc_un (show (20 : Nat) < 100 from by decide) hf
  have f17 : 1 * v_iv (n_v vs 22) + ((-1) * w_fi ws (n_v vs 2) 158 + 0) ≤ 0 := f17
  obtain ⟨f18, hf⟩ := fc_un (show (20 : Nat) < 100 from by decide) hf
  have f18 : 1 * w_fi ws (n_v vs 2) 159 + 0 ≤ 0 := f18
  obtain ⟨f19, hf⟩ := fc_un (show (20 : Nat) < 100 from by decide) hf
  have f19 : (-1) * w_fi ws (n_v vs 2) 159 + 0 ≤ 0 := f19
  obtain ⟨ta1, w1, le1, ⟨_, s1⟩, hf⟩ := fc_us (show ¬ (102 : Nat) < 100 from by decide) hf
  obtain ⟨f21, hf⟩ := fc_un (show (23 : Nat) < 100 from by decide) hf
  have f21 : 1 * v_iv (n_v vs 1) + ((-1) * v_iv (n_v vs 22) + 0) ≤ 0 := f21
  obtain ⟨f22, hf⟩ := fc_un (show (23 : Nat) < 100 from by decide) hf
  have f22 : (-1) * v_iv (n_v vs 6) + ((-1) * v_iv (n_v vs 22) + 0) ≤ (-2011) := f22
  obtain ⟨f23, hf⟩ := fc_un (show (23 : Nat) < 100 from by decide) hf
  have f23 : 1 * v_iv (n_v vs 1) + ((-1) * v_iv (n_v vs 21) + 0) ≤ 0 := f23
  obtain ⟨f24, hf⟩ := fc_un (show (23 : Nat) < 100 from by decide) hf
  have f24 : (-1) * v_iv (n_v vs 6) + ((-1) * v_iv (n_v vs 21) + 0) ≤ (-2011) := f24
  obtain ⟨f25, hf⟩ := fc_un (show (23 : Nat) < 100 from by decide) hf
  have f25 : (-1) * v_iv (n_v vs 13) + 0 ≤ 0 := f25
  obtain ⟨ta2, w2, le2, ⟨_, s2⟩, hf⟩ := fc_us (show ¬ (102 : Nat) < 100 from by decide) hf
  obtain ⟨f27, hf⟩ := fc_un (show (23 : Nat) < 100 from by decide) hf
  have f27 : 1 * v_iv (n_v vs 1) + ((-1) * v_iv (n_v vs 21) + 0) ≤ 0 := f27
  obtain ⟨f28, hf⟩ := fc_un (show (23 : Nat) < 100 from by decide) hf
  have f28 : (-1) * v_iv (n_v vs 6) + ((-1) * v_iv (n_v vs 21) + 0) ≤ (-2011) := f28
  obtain ⟨f29, hf⟩ := fc_un (show (23 : Nat) < 100 from by decide) hf
  have f29 : (-1) * v_iv (n_v vs 13) + 0 ≤ 0 := f29
  obtain ⟨ta3, w3, le3, ⟨_, s3⟩, hf⟩ := fc_us (show ¬ (101 : Nat) < 100 from by decide) hf
  have s3 : (∀ b j, w_el w2 b j = w_el w3 b j) ∧ ∀ b j, w_fd w2 b j = if b = v_ad (n_v vs 2) ∧ j = 158 then n_v vs 19 else w_fd w3 b j := s3
  obtain ⟨f31, hf⟩ := fc_un (show (1 : Nat) < 100 from by decide) hf
  have f31 : v_iv (n_v vs 19) = v_iv (n_v vs 5) + v_iv (n_v vs 18) := f31
  obtain ⟨f32, hf⟩ := fc_un (show (23 : Nat) < 100 from by decide) hf
  have f32 : (-1) * v_iv (n_v vs 13) + 0 ≤ 0 := f32
  obtain ⟨ta4, w4, le4, ⟨_, s4⟩, hf⟩ := fc_us (show ¬ (102 : Nat) < 100 from by decide) hf
  obtain ⟨f34, hf⟩ := fc_un (show (8 : Nat) < 100 from by decide) hf
  have f34 : v_iv (n_v vs 13) < 0 := f34
  have q2 : n_v vs 2 = n_v vs 0 := f15.symm
  rw [q2] at f3
  rw [q2] at f6
  rw [q2] at f8
  rw [q2] at f16
  rw [q2] at f17
  rw [q2] at f18
  rw [q2] at f19
  rw [q2] at s3
  have cr_0_160 : ta (w_ar ws (n_v vs 0) 160) = some 259 := tv_rg (th_fd hD hth r0 (g := GG_150) rfl (k := 160) (t := (2, 0, 0, [259])) rfl rfl)
  have g3 : v_iv (n_v vs 25) = w_fi ws (n_v vs 0) 165 := congrArg v_iv f3
  have g6 : v_iv (n_v vs 31) = w_fi ws (n_v vs 0) 164 := congrArg v_iv f6
  have g8 : v_iv (n_v vs 28) = w_fi ws (n_v vs 0) 139 := congrArg v_iv f8
  have hK_0_160 : ∀ j : Int, 0 ≤ j → j < 2010 → 0 ≤ w_ei ws (w_ar ws (n_v vs 0) 160) j ∧ w_ei ws (w_ar ws (n_v vs 0) 160) j ≤ 4 := fun j h0 h1 => th_el hD hth cr_0_160 (kd := 0) (n := 2010) (m := 2010) (lo := 0) (hi := 4) (rs := []) (L := []) rfl (by decide) (j := j.toNat) (by omega)
  have kz_0_139 : 0 ≤ w_fi ws (n_v vs 0) 139 ∧ w_fi ws (n_v vs 0) 139 ≤ 3 := tv_rng (th_fd hD hth r0 (g := GG_150) rfl (k := 139) (t := (0, 0, 3, [])) rfl rfl)
  have kz_0_157 : 0 ≤ w_fi ws (n_v vs 0) 157 ∧ w_fi ws (n_v vs 0) 157 ≤ 2010 := tv_rng (th_fd hD hth r0 (g := GG_150) rfl (k := 157) (t := (0, 0, 2010, [])) rfl rfl)
  have kz_0_158 : 0 ≤ w_fi ws (n_v vs 0) 158 ∧ w_fi ws (n_v vs 0) 158 ≤ 2009 := tv_rng (th_fd hD hth r0 (g := GG_150) rfl (k := 158) (t := (0, 0, 2009, [])) rfl rfl)
  have kz_0_159 : 0 ≤ w_fi ws (n_v vs 0) 159 ∧ w_fi ws (n_v vs 0) 159 ≤ 13 := tv_rng (th_fd hD hth r0 (g := GG_150) rfl (k := 159) (t := (0, 0, 13, [])) rfl rfl)
  have kz_0_164 : 0 ≤ w_fi ws (n_v vs 0) 164 ∧ w_fi ws (n_v vs 0) 164 ≤ 1 := tv_rng (th_fd hD hth r0 (g := GG_150) rfl (k := 164) (t := (0, 0, 1, [])) rfl rfl)
  have kz_0_165 : (-1) ≤ w_fi ws (n_v vs 0) 165 ∧ w_fi ws (n_v vs 0) 165 ≤ 47 := tv_rng (th_fd hD hth r0 (g := GG_150) rfl (k := 165) (t := (0, -1, 47, [])) rfl rfl)
  have rf37 : tv_ok ta (0, 0, 860, []) (n_v vs 37) := tv_in t37 (by first | omega | grind) (by first | omega | grind)
  refine ⟨List.forall_mem_cons.mpr ⟨rf37, (fun _ h => (by cases h))⟩, [], trivial, ?_, (fun _ h => (by cases h))⟩
  rw [List.append_nil]
  exact (fun _ h => (by cases h))
def o_Mo_rule_at_f0_20 : or_T := (275, 41, [(0, (2, 0, 0, [150])), (1, (0, 0, 2009, [])), (2, (2, 0, 0, [150])), (5, (0, 0, 2009, [])), (6, (0, 0, 2010, [])), (18, (0, 1, 1, [])), (19, (0, 1, 2009, [])), (21, (0, 0, 2009, [])), (22, (0, 0, 2009, [])), (26, (2, 0, 0, [198]))], [(23, [1, 22], [0, 1, -1]), (23, [6, 22], [-2011, -1, -1]), (23, [1, 21], [0, 1, -1]), (23, [6, 21], [-2011, -1, -1]), (24, [0, 2], []), (20, [2], [50, 2, 1, 158, 157, 160, 2, 12, 0, 7, 4, 3, 2, 0, 158, 0, 1, 2, 0, 157, 2, 7, 0, 3, 2, 0, 157, 0, 2010, 3, 14, 1, 10, 3, 0, 160, 5, 3, 2, 0, 157, 0, 1, 0, 0, 1, 10, 3, 0, 160, 5, 3, 2, 0, 157, 0, 1, 0, 4]), (20, [22, 2], [30, 0, 1, 0, 0, -1, 1, 158]), (20, [2], [30, 0, 1, 1, 159]), (20, [2], [30, 0, -1, 1, 159]), (100, [26, 37, 40], []), (9, [26, 2], [73]), (23, [1, 22], [0, 1, -1]), (23, [6, 22], [-2011, -1, -1]), (23, [1, 21], [0, 1, -1]), (23, [6, 21], [-2011, -1, -1]), (20, [2], [50, 2, 1, 158, 157, 160, 2, 12, 0, 7, 4, 3, 2, 0, 158, 0, 1, 2, 0, 157, 2, 7, 0, 3, 2, 0, 157, 0, 2010, 3, 14, 1, 10, 3, 0, 160, 5, 3, 2, 0, 157, 0, 1, 0, 0, 1, 10, 3, 0, 160, 5, 3, 2, 0, 157, 0, 1, 0, 4]), (20, [22, 2], [30, 0, 1, 0, 0, -1, 1, 158]), (20, [2], [30, 0, 1, 1, 159]), (20, [2], [30, 0, -1, 1, 159]), (102, [22], [0, 13008, 13009, 13158, 13159]), (23, [1, 22], [0, 1, -1]), (23, [6, 22], [-2011, -1, -1]), (23, [1, 21], [0, 1, -1]), (23, [6, 21], [-2011, -1, -1]), (102, [21], [0, 13008, 13009, 13158]), (23, [1, 21], [0, 1, -1]), (23, [6, 21], [-2011, -1, -1]), (101, [2, 19], [158]), (1, [19, 5, 18], [])], [], [(0, 0, 2010, [])], [(20, [2], [50, 2, 1, 158, 157, 160, 2, 12, 0, 7, 4, 3, 2, 0, 158, 0, 1, 2, 0, 157, 2, 7, 0, 3, 2, 0, 157, 0, 2010, 3, 14, 1, 10, 3, 0, 160, 5, 3, 2, 0, 157, 0, 1, 0, 0, 1, 10, 3, 0, 160, 5, 3, 2, 0, 157, 0, 1, 0, 4]), (20, [1, 2], [30, 0, 1, 0, 0, -1, 1, 158]), (20, [2], [30, 0, 1, 1, 159]), (20, [2], [30, 0, -1, 1, 159]), (20, [41, 2], [30, -2011, -1, 0, 0, -1, 1, 158]), (24, [0, 2], [])], [(41, 6, 0, 0)], [(19, 5, 1, 1), (19, 1, -4294967296, 2010), (1, 5, -4294967296, 2009), (5, 1, -4294967296, 2009)])
theorem oo_Mo_rule_at_f0_20 {kA : Nat → ClassId} : or_ok kA GG o_Mo_rule_at_f0_20 := by
  intro A ta ws vs hD hth hl hk hds hf
  have hl : vs.length = 41 := hl
  have hk : ∀ q ∈ ([(0, (2, 0, 0, [150])), (1, (0, 0, 2009, [])), (2, (2, 0, 0, [150])), (5, (0, 0, 2009, [])), (6, (0, 0, 2010, [])), (18, (0, 1, 1, [])), (19, (0, 1, 2009, [])), (21, (0, 0, 2009, [])), (22, (0, 0, 2009, [])), (26, (2, 0, 0, [198]))] : List (Nat × tv_T)), tv_ok ta q.2 (n_v vs q.1) := hk
  obtain ⟨t0, hk⟩ := List.forall_mem_cons.mp hk
  have t0 : tv_ok ta (2, 0, 0, [150]) (n_v vs 0) := t0
  have r0 : ta (v_ad (n_v vs 0)) = some 150 := tv_rg t0
  obtain ⟨t1, hk⟩ := List.forall_mem_cons.mp hk
  have t1 : tv_ok ta (0, 0, 2009, []) (n_v vs 1) := t1
  have k1 : 0 ≤ v_iv (n_v vs 1) ∧ v_iv (n_v vs 1) ≤ 2009 := tv_rng t1
  obtain ⟨t2, hk⟩ := List.forall_mem_cons.mp hk
  have t2 : tv_ok ta (2, 0, 0, [150]) (n_v vs 2) := t2
  have r2 : ta (v_ad (n_v vs 2)) = some 150 := tv_rg t2
  obtain ⟨t5, hk⟩ := List.forall_mem_cons.mp hk
  have t5 : tv_ok ta (0, 0, 2009, []) (n_v vs 5) := t5
  have k5 : 0 ≤ v_iv (n_v vs 5) ∧ v_iv (n_v vs 5) ≤ 2009 := tv_rng t5
  obtain ⟨t6, hk⟩ := List.forall_mem_cons.mp hk
  have t6 : tv_ok ta (0, 0, 2010, []) (n_v vs 6) := t6
  have k6 : 0 ≤ v_iv (n_v vs 6) ∧ v_iv (n_v vs 6) ≤ 2010 := tv_rng t6
  obtain ⟨t18, hk⟩ := List.forall_mem_cons.mp hk
  have t18 : tv_ok ta (0, 1, 1, []) (n_v vs 18) := t18
  have k18 : 1 ≤ v_iv (n_v vs 18) ∧ v_iv (n_v vs 18) ≤ 1 := tv_rng t18
  obtain ⟨t19, hk⟩ := List.forall_mem_cons.mp hk
  have t19 : tv_ok ta (0, 1, 2009, []) (n_v vs 19) := t19
  have k19 : 1 ≤ v_iv (n_v vs 19) ∧ v_iv (n_v vs 19) ≤ 2009 := tv_rng t19
  obtain ⟨t21, hk⟩ := List.forall_mem_cons.mp hk
  have t21 : tv_ok ta (0, 0, 2009, []) (n_v vs 21) := t21
  have k21 : 0 ≤ v_iv (n_v vs 21) ∧ v_iv (n_v vs 21) ≤ 2009 := tv_rng t21
  obtain ⟨t22, hk⟩ := List.forall_mem_cons.mp hk
  have t22 : tv_ok ta (0, 0, 2009, []) (n_v vs 22) := t22
  have k22 : 0 ≤ v_iv (n_v vs 22) ∧ v_iv (n_v vs 22) ≤ 2009 := tv_rng t22
  obtain ⟨t26, hk⟩ := List.forall_mem_cons.mp hk
  have t26 : tv_ok ta (2, 0, 0, [198]) (n_v vs 26) := t26
  have r26 : ta (v_ad (n_v vs 26)) = some 198 := tv_rg t26
  have hds : ∀ q ∈ ([(19, 5, 1, 1), (19, 1, -4294967296, 2010), (1, 5, -4294967296, 2009), (5, 1, -4294967296, 2009)] : List of_T), n_iv vs q.2.1 + q.2.2.1 ≤ n_iv vs q.1 ∧ n_iv vs q.1 ≤ n_iv vs q.2.1 + q.2.2.2 := hds
  obtain ⟨d0, hds⟩ := List.forall_mem_cons.mp hds
  have d0 : v_iv (n_v vs 5) + 1 ≤ v_iv (n_v vs 19) ∧ v_iv (n_v vs 19) ≤ v_iv (n_v vs 5) + 1 := d0
  obtain ⟨d1, hds⟩ := List.forall_mem_cons.mp hds
  have d1 : v_iv (n_v vs 1) + (-4294967296) ≤ v_iv (n_v vs 19) ∧ v_iv (n_v vs 19) ≤ v_iv (n_v vs 1) + 2010 := d1
  obtain ⟨d2, hds⟩ := List.forall_mem_cons.mp hds
  have d2 : v_iv (n_v vs 5) + (-4294967296) ≤ v_iv (n_v vs 1) ∧ v_iv (n_v vs 1) ≤ v_iv (n_v vs 5) + 2009 := d2
  obtain ⟨d3, hds⟩ := List.forall_mem_cons.mp hds
  have d3 : v_iv (n_v vs 1) + (-4294967296) ≤ v_iv (n_v vs 5) ∧ v_iv (n_v vs 5) ≤ v_iv (n_v vs 1) + 2009 := d3
  have hf : fc_ok [(23, [1, 22], [0, 1, -1]), (23, [6, 22], [-2011, -1, -1]), (23, [1, 21], [0, 1, -1]), (23, [6, 21], [-2011, -1, -1]), (24, [0, 2], []), (20, [2], [50, 2, 1, 158, 157, 160, 2, 12, 0, 7, 4, 3, 2, 0, 158, 0, 1, 2, 0, 157, 2, 7, 0, 3, 2, 0, 157, 0, 2010, 3, 14, 1, 10, 3, 0, 160, 5, 3, 2, 0, 157, 0, 1, 0, 0, 1, 10, 3, 0, 160, 5, 3, 2, 0, 157, 0, 1, 0, 4]), (20, [22, 2], [30, 0, 1, 0, 0, -1, 1, 158]), (20, [2], [30, 0, 1, 1, 159]), (20, [2], [30, 0, -1, 1, 159]), (100, [26, 37, 40], []), (9, [26, 2], [73]), (23, [1, 22], [0, 1, -1]), (23, [6, 22], [-2011, -1, -1]), (23, [1, 21], [0, 1, -1]), (23, [6, 21], [-2011, -1, -1]), (20, [2], [50, 2, 1, 158, 157, 160, 2, 12, 0, 7, 4, 3, 2, 0, 158, 0, 1, 2, 0, 157, 2, 7, 0, 3, 2, 0, 157, 0, 2010, 3, 14, 1, 10, 3, 0, 160, 5, 3, 2, 0, 157, 0, 1, 0, 0, 1, 10, 3, 0, 160, 5, 3, 2, 0, 157, 0, 1, 0, 4]), (20, [22, 2], [30, 0, 1, 0, 0, -1, 1, 158]), (20, [2], [30, 0, 1, 1, 159]), (20, [2], [30, 0, -1, 1, 159]), (102, [22], [0, 13008, 13009, 13158, 13159]), (23, [1, 22], [0, 1, -1]), (23, [6, 22], [-2011, -1, -1]), (23, [1, 21], [0, 1, -1]), (23, [6, 21], [-2011, -1, -1]), (102, [21], [0, 13008, 13009, 13158]), (23, [1, 21], [0, 1, -1]), (23, [6, 21], [-2011, -1, -1]), (101, [2, 19], [158]), (1, [19, 5, 18], [])] ta ws vs := hf
  obtain ⟨f0, hf⟩ := fc_un (show (23 : Nat) < 100 from by decide) hf
  have f0 : 1 * v_iv (n_v vs 1) + ((-1) * v_iv (n_v vs 22) + 0) ≤ 0 := f0
  obtain ⟨f1, hf⟩ := fc_un (show (23 : Nat) < 100 from by decide) hf
  have f1 : (-1) * v_iv (n_v vs 6) + ((-1) * v_iv (n_v vs 22) + 0) ≤ (-2011) := f1
  obtain ⟨f2, hf⟩ := fc_un (show (23 : Nat) < 100 from by decide) hf
  have f2 : 1 * v_iv (n_v vs 1) + ((-1) * v_iv (n_v vs 21) + 0) ≤ 0 := f2
  obtain ⟨f3, hf⟩ := fc_un (show (23 : Nat) < 100 from by decide) hf
  have f3 : (-1) * v_iv (n_v vs 6) + ((-1) * v_iv (n_v vs 21) + 0) ≤ (-2011) := f3
  obtain ⟨f4, hf⟩ := fc_un (show (24 : Nat) < 100 from by decide) hf
  have f4 : n_v vs 0 = n_v vs 2 := f4
  obtain ⟨f5, hf⟩ := fc_un (show (20 : Nat) < 100 from by decide) hf
  have f5 : ((w_fi ws (n_v vs 2) 158 + 1) ≤ w_fi ws (n_v vs 2) 157) ∧ ((w_fi ws (n_v vs 2) 157 ≤ 2010) ∧ ((w_ei ws (w_ar ws (n_v vs 2) 160) ((w_fi ws (n_v vs 2) 157 - 1)) = 0) ∨ (w_ei ws (w_ar ws (n_v vs 2) 160) ((w_fi ws (n_v vs 2) 157 - 1)) = 4))) := f5
  obtain ⟨f6, hf⟩ := fc_un (show (20 : Nat) < 100 from by decide) hf
  have f6 : 1 * v_iv (n_v vs 22) + ((-1) * w_fi ws (n_v vs 2) 158 + 0) ≤ 0 := f6
  obtain ⟨f7, hf⟩ := fc_un (show (20 : Nat) < 100 from by decide) hf
  have f7 : 1 * w_fi ws (n_v vs 2) 159 + 0 ≤ 0 := f7
  obtain ⟨f8, hf⟩ := fc_un (show (20 : Nat) < 100 from by decide) hf
  have f8 : (-1) * w_fi ws (n_v vs 2) 159 + 0 ≤ 0 := f8
  obtain ⟨ta1, w1, le1, ⟨_, s1⟩, hf⟩ := fc_us (show ¬ (100 : Nat) < 100 from by decide) hf
  have s1 : (∀ b j, w_el ws b j = if b = v_ad (n_v vs 26) ∧ j = (v_iv (n_v vs 37)).toNat then v_iv (n_v vs 40) else w_el w1 b j) ∧ ∀ b k, w_fd ws b k = w_fd w1 b k := s1
  obtain ⟨f10, hf⟩ := fc_un (show (9 : Nat) < 100 from by decide) hf
  have f10 : n_v vs 26 = w_fd w1 (v_ad (n_v vs 2)) 73 := f10
  obtain ⟨f11, hf⟩ := fc_un (show (23 : Nat) < 100 from by decide) hf
  have f11 : 1 * v_iv (n_v vs 1) + ((-1) * v_iv (n_v vs 22) + 0) ≤ 0 := f11
  obtain ⟨f12, hf⟩ := fc_un (show (23 : Nat) < 100 from by decide) hf
  have f12 : (-1) * v_iv (n_v vs 6) + ((-1) * v_iv (n_v vs 22) + 0) ≤ (-2011) := f12
  obtain ⟨f13, hf⟩ := fc_un (show (23 : Nat) < 100 from by decide) hf
  have f13 : 1 * v_iv (n_v vs 1) + ((-1) * v_iv (n_v vs 21) + 0) ≤ 0 := f13
  obtain ⟨f14, hf⟩ := fc_un (show (23 : Nat) < 100 from by decide) hf
  have f14 : (-1) * v_iv (n_v vs 6) + ((-1) * v_iv (n_v vs 21) + 0) ≤ (-2011) := f14
  obtain ⟨f15, hf⟩ := fc_un (show (20 : Nat) < 100 from by decide) hf
  have f15 : ((w_fi w1 (n_v vs 2) 158 + 1) ≤ w_fi w1 (n_v vs 2) 157) ∧ ((w_fi w1 (n_v vs 2) 157 ≤ 2010) ∧ ((w_ei w1 (w_ar w1 (n_v vs 2) 160) ((w_fi w1 (n_v vs 2) 157 - 1)) = 0) ∨ (w_ei w1 (w_ar w1 (n_v vs 2) 160) ((w_fi w1 (n_v vs 2) 157 - 1)) = 4))) := f15
  obtain ⟨f16, hf⟩ := fc_un (show (20 : Nat) < 100 from by decide) hf
  have f16 : 1 * v_iv (n_v vs 22) + ((-1) * w_fi w1 (n_v vs 2) 158 + 0) ≤ 0 := f16
  obtain ⟨f17, hf⟩ := fc_un (show (20 : Nat) < 100 from by decide) hf
  have f17 : 1 * w_fi w1 (n_v vs 2) 159 + 0 ≤ 0 := f17
  obtain ⟨f18, hf⟩ := fc_un (show (20 : Nat) < 100 from by decide) hf
  have f18 : (-1) * w_fi w1 (n_v vs 2) 159 + 0 ≤ 0 := f18
  obtain ⟨ta2, w2, le2, ⟨_, s2⟩, hf⟩ := fc_us (show ¬ (102 : Nat) < 100 from by decide) hf
  obtain ⟨f20, hf⟩ := fc_un (show (23 : Nat) < 100 from by decide) hf
  have f20 : 1 * v_iv (n_v vs 1) + ((-1) * v_iv (n_v vs 22) + 0) ≤ 0 := f20
  obtain ⟨f21, hf⟩ := fc_un (show (23 : Nat) < 100 from by decide) hf
  have f21 : (-1) * v_iv (n_v vs 6) + ((-1) * v_iv (n_v vs 22) + 0) ≤ (-2011) := f21
  obtain ⟨f22, hf⟩ := fc_un (show (23 : Nat) < 100 from by decide) hf
  have f22 : 1 * v_iv (n_v vs 1) + ((-1) * v_iv (n_v vs 21) + 0) ≤ 0 := f22
  obtain ⟨f23, hf⟩ := fc_un (show (23 : Nat) < 100 from by decide) hf
  have f23 : (-1) * v_iv (n_v vs 6) + ((-1) * v_iv (n_v vs 21) + 0) ≤ (-2011) := f23
  obtain ⟨ta3, w3, le3, ⟨_, s3⟩, hf⟩ := fc_us (show ¬ (102 : Nat) < 100 from by decide) hf
  obtain ⟨f25, hf⟩ := fc_un (show (23 : Nat) < 100 from by decide) hf
  have f25 : 1 * v_iv (n_v vs 1) + ((-1) * v_iv (n_v vs 21) + 0) ≤ 0 := f25
  obtain ⟨f26, hf⟩ := fc_un (show (23 : Nat) < 100 from by decide) hf
  have f26 : (-1) * v_iv (n_v vs 6) + ((-1) * v_iv (n_v vs 21) + 0) ≤ (-2011) := f26
  obtain ⟨ta4, w4, le4, ⟨_, s4⟩, hf⟩ := fc_us (show ¬ (101 : Nat) < 100 from by decide) hf
  have s4 : (∀ b j, w_el w3 b j = w_el w4 b j) ∧ ∀ b j, w_fd w3 b j = if b = v_ad (n_v vs 2) ∧ j = 158 then n_v vs 19 else w_fd w4 b j := s4
  obtain ⟨f28, hf⟩ := fc_un (show (1 : Nat) < 100 from by decide) hf
  have f28 : v_iv (n_v vs 19) = v_iv (n_v vs 5) + v_iv (n_v vs 18) := f28
  have q2 : n_v vs 2 = n_v vs 0 := f4.symm
  rw [q2] at f5
  rw [q2] at f6
  rw [q2] at f7
  rw [q2] at f8
  rw [q2] at f10
  rw [q2] at f15
  rw [q2] at f16
  rw [q2] at f17
  rw [q2] at f18
  rw [q2] at s4
  have ar_0_73_1 : w_ar w1 (n_v vs 0) 73 = w_ar ws (n_v vs 0) 73 := by show v_ad (w_fd w1 _ _) = v_ad (w_fd ws _ _); rw [s1.2]
  have cr_0_73 : ta (w_ar ws (n_v vs 0) 73) = some 198 := tv_rg (th_fd hD hth r0 (g := GG_150) rfl (k := 73) (t := (2, 0, 0, [198])) rfl rfl)
  have ar_0_160_1 : w_ar w1 (n_v vs 0) 160 = w_ar ws (n_v vs 0) 160 := by show v_ad (w_fd w1 _ _) = v_ad (w_fd ws _ _); rw [s1.2]
  have cr_0_160 : ta (w_ar ws (n_v vs 0) 160) = some 259 := tv_rg (th_fd hD hth r0 (g := GG_150) rfl (k := 160) (t := (2, 0, 0, [259])) rfl rfl)
  have ad_26 : v_ad (n_v vs 26) = w_ar ws (n_v vs 0) 73 := (congrArg v_ad f10).trans ar_0_73_1
  rw [ar_0_160_1] at f15
  have fe_0_157_1 : w_fi ws (n_v vs 0) 157 = w_fi w1 (n_v vs 0) 157 := congrArg v_iv (s1.2 _ _)
  have fe_0_158_1 : w_fi ws (n_v vs 0) 158 = w_fi w1 (n_v vs 0) 158 := congrArg v_iv (s1.2 _ _)
  have fe_0_159_1 : w_fi ws (n_v vs 0) 159 = w_fi w1 (n_v vs 0) 159 := congrArg v_iv (s1.2 _ _)
  have hE_0_160_1 : ∀ j : Int, w_ei ws (w_ar ws (n_v vs 0) 160) j = w_ei w1 (w_ar ws (n_v vs 0) 160) j := fun j => by unfold w_ei; rw [s1.1, if_neg (fun e => by have e1 := e.1; rw [← e1] at r26; rw [cr_0_160] at r26; exact absurd (Option.some.inj r26) (by decide))]
  have hK_0_160 : ∀ j : Int, 0 ≤ j → j < 2010 → 0 ≤ w_ei ws (w_ar ws (n_v vs 0) 160) j ∧ w_ei ws (w_ar ws (n_v vs 0) 160) j ≤ 4 := fun j h0 h1 => th_el hD hth cr_0_160 (kd := 0) (n := 2010) (m := 2010) (lo := 0) (hi := 4) (rs := []) (L := []) rfl (by decide) (j := j.toNat) (by omega)
  have kz_0_157 : 0 ≤ w_fi ws (n_v vs 0) 157 ∧ w_fi ws (n_v vs 0) 157 ≤ 2010 := tv_rng (th_fd hD hth r0 (g := GG_150) rfl (k := 157) (t := (0, 0, 2010, [])) rfl rfl)
  have kz_0_158 : 0 ≤ w_fi ws (n_v vs 0) 158 ∧ w_fi ws (n_v vs 0) 158 ≤ 2009 := tv_rng (th_fd hD hth r0 (g := GG_150) rfl (k := 158) (t := (0, 0, 2009, [])) rfl rfl)
  have kz_0_159 : 0 ≤ w_fi ws (n_v vs 0) 159 ∧ w_fi ws (n_v vs 0) 159 ≤ 13 := tv_rng (th_fd hD hth r0 (g := GG_150) rfl (k := 159) (t := (0, 0, 13, [])) rfl rfl)
  obtain ⟨x, ex, hx⟩ := iv_ex (ta := ta) (lo := 0) (hi := 2010) (z := 0 + (1 * v_iv (n_v vs 6) + 0)) (by omega) (by omega) (by omega) (by omega)
  have ex2 : v_iv (Value.int x) = 0 + (1 * v_iv (n_v vs 6) + 0) := ex
  have ex3 : 0 ≤ v_iv (Value.int x) ∧ v_iv (Value.int x) ≤ 2010 := tv_rng hx
  have e_0 : n_v (vs ++ [Value.int x]) 0 = n_v vs 0 := n_v_old (by rw [hl]; decide)
  have e_1 : n_v (vs ++ [Value.int x]) 1 = n_v vs 1 := n_v_old (by rw [hl]; decide)
  have e_2 : n_v (vs ++ [Value.int x]) 2 = n_v vs 2 := n_v_old (by rw [hl]; decide)
  have e_41 : n_v (vs ++ [Value.int x]) 41 = Value.int x := n_v_new hl
  have nf0 : fc_1 (20, [2], [50, 2, 1, 158, 157, 160, 2, 12, 0, 7, 4, 3, 2, 0, 158, 0, 1, 2, 0, 157, 2, 7, 0, 3, 2, 0, 157, 0, 2010, 3, 14, 1, 10, 3, 0, 160, 5, 3, 2, 0, 157, 0, 1, 0, 0, 1, 10, 3, 0, 160, 5, 3, 2, 0, 157, 0, 1, 0, 4]) ws (vs ++ [Value.int x]) := by
    refine ⟨fun n hn => ?_, ?_⟩
    · have hn : n ∈ [2] := hn
      rw [List.length_append, hl]
      simp only [List.mem_cons, List.not_mem_nil, or_false] at hn
      show n < 41 + 1; omega
    · show ((w_fi ws (n_v (vs ++ [Value.int x]) 2) 158 + 1) ≤ w_fi ws (n_v (vs ++ [Value.int x]) 2) 157) ∧ ((w_fi ws (n_v (vs ++ [Value.int x]) 2) 157 ≤ 2010) ∧ ((w_ei ws (w_ar ws (n_v (vs ++ [Value.int x]) 2) 160) ((w_fi ws (n_v (vs ++ [Value.int x]) 2) 157 - 1)) = 0) ∨ (w_ei ws (w_ar ws (n_v (vs ++ [Value.int x]) 2) 160) ((w_fi ws (n_v (vs ++ [Value.int x]) 2) 157 - 1)) = 4)))
      rw [e_2]
      rw [q2]
      first | omega | grind
  have nf1 : fc_1 (20, [1, 2], [30, 0, 1, 0, 0, -1, 1, 158]) ws (vs ++ [Value.int x]) := by
    refine ⟨fun n hn => ?_, ?_⟩
    · have hn : n ∈ [1, 2] := hn
      rw [List.length_append, hl]
      simp only [List.mem_cons, List.not_mem_nil, or_false] at hn
      show n < 41 + 1; omega
    · show 1 * v_iv (n_v (vs ++ [Value.int x]) 1) + ((-1) * w_fi ws (n_v (vs ++ [Value.int x]) 2) 158 + 0) ≤ 0
      rw [e_1]
      rw [e_2]
      rw [q2]
      omega
  have nf2 : fc_1 (20, [2], [30, 0, 1, 1, 159]) ws (vs ++ [Value.int x]) := by
    refine ⟨fun n hn => ?_, ?_⟩
    · have hn : n ∈ [2] := hn
      rw [List.length_append, hl]
      simp only [List.mem_cons, List.not_mem_nil, or_false] at hn
      show n < 41 + 1; omega
    · show 1 * w_fi ws (n_v (vs ++ [Value.int x]) 2) 159 + 0 ≤ 0
      rw [e_2]
      rw [q2]
      omega
  have nf3 : fc_1 (20, [2], [30, 0, -1, 1, 159]) ws (vs ++ [Value.int x]) := by
    refine ⟨fun n hn => ?_, ?_⟩
    · have hn : n ∈ [2] := hn
      rw [List.length_append, hl]
      simp only [List.mem_cons, List.not_mem_nil, or_false] at hn
      show n < 41 + 1; omega
    · show (-1) * w_fi ws (n_v (vs ++ [Value.int x]) 2) 159 + 0 ≤ 0
      rw [e_2]
      rw [q2]
      omega
  have nf4 : fc_1 (20, [41, 2], [30, -2011, -1, 0, 0, -1, 1, 158]) ws (vs ++ [Value.int x]) := by
    refine ⟨fun n hn => ?_, ?_⟩
    · have hn : n ∈ [41, 2] := hn
      rw [List.length_append, hl]
      simp only [List.mem_cons, List.not_mem_nil, or_false] at hn
      show n < 41 + 1; omega
    · show (-1) * v_iv (n_v (vs ++ [Value.int x]) 41) + ((-1) * w_fi ws (n_v (vs ++ [Value.int x]) 2) 158 + 0) ≤ (-2011)
      rw [e_2]
      rw [e_41]
      rw [q2]
      omega
  have nf5 : fc_1 (24, [0, 2], []) ws (vs ++ [Value.int x]) := by
    refine ⟨fun n hn => ?_, ?_⟩
    · have hn : n ∈ [0, 2] := hn
      rw [List.length_append, hl]
      simp only [List.mem_cons, List.not_mem_nil, or_false] at hn
      show n < 41 + 1; omega
    · show n_v (vs ++ [Value.int x]) 0 = n_v (vs ++ [Value.int x]) 2
      first | rfl | simp only [e_0, e_2, q2]
  obtain ⟨x0, e0, _, _⟩ := tv_int t6 rfl
  have e1 : v_iv (n_v vs 6) = x0.toInt := by rw [e0]; rfl
  have ho : sy_ofs (vs ++ [Value.int x]) (41, 6, 0, 0) := by
    refine ⟨x, x0, by rw [List.getElem?_append_right (by rw [hl]; decide), hl]; rfl, ?_, ?_, ?_⟩
    · rw [List.getElem?_append_left (by rw [hl]; decide)]; exact n_v_some (by rw [hl]; decide) e0
    · show x0.toInt + 0 ≤ x.toInt; omega
    · show x.toInt ≤ x0.toInt + 0; omega
  exact ⟨fun q hq => (by cases hq), [Value.int x], ag_one hx, List.forall_mem_cons.mpr ⟨⟨show (20 : Nat) < 100 from by decide, nf0⟩, List.forall_mem_cons.mpr ⟨⟨show (20 : Nat) < 100 from by decide, nf1⟩, List.forall_mem_cons.mpr ⟨⟨show (20 : Nat) < 100 from by decide, nf2⟩, List.forall_mem_cons.mpr ⟨⟨show (20 : Nat) < 100 from by decide, nf3⟩, List.forall_mem_cons.mpr ⟨⟨show (20 : Nat) < 100 from by decide, nf4⟩, List.forall_mem_cons.mpr ⟨⟨show (24 : Nat) < 100 from by decide, nf5⟩, (fun _ h => (by cases h))⟩⟩⟩⟩⟩⟩, List.forall_mem_cons.mpr ⟨ho, (fun _ h => (by cases h))⟩⟩
def o_Mo_rule_at_f0_21 : or_T := (274, 40, [(0, (2, 0, 0, [150])), (1, (0, 0, 2009, [])), (2, (2, 0, 0, [150])), (5, (0, 0, 2009, [])), (6, (0, 0, 2010, [])), (13, (0, -1, -1, [])), (18, (0, 1, 1, [])), (19, (0, 1, 2009, [])), (21, (0, 0, 2009, [])), (22, (0, 0, 2009, [])), (25, (0, 0, 47, [])), (27, (0, 216, 216, [])), (28, (0, 0, 3, [])), (29, (0, 0, 648, [])), (30, (0, 72, 72, [])), (31, (0, 0, 1, [])), (32, (0, 0, 72, [])), (33, (0, 0, 720, [])), (34, (0, 3, 3, [])), (35, (0, 0, 141, [])), (36, (0, 0, 861, [])), (37, (0, -1, 860, []))], [(1, [37, 36, 13], []), (1, [36, 33, 35], []), (3, [35, 34, 25], []), (9, [25, 2], [165]), (1, [33, 29, 32], []), (3, [32, 30, 31], []), (9, [31, 2], [164]), (3, [29, 27, 28], []), (9, [28, 2], [139]), (8, [25], [3]), (23, [1, 22], [0, 1, -1]), (23, [6, 22], [-2011, -1, -1]), (23, [1, 21], [0, 1, -1]), (23, [6, 21], [-2011, -1, -1]), (23, [13], [0, -1]), (24, [0, 2], []), (20, [2], [50, 2, 1, 158, 157, 160, 2, 12, 0, 7, 4, 3, 2, 0, 158, 0, 1, 2, 0, 157, 2, 7, 0, 3, 2, 0, 157, 0, 2010, 3, 14, 1, 10, 3, 0, 160, 5, 3, 2, 0, 157, 0, 1, 0, 0, 1, 10, 3, 0, 160, 5, 3, 2, 0, 157, 0, 1, 0, 4]), (20, [22, 2], [30, 0, 1, 0, 0, -1, 1, 158]), (20, [2], [30, 0, 1, 1, 159]), (20, [2], [30, 0, -1, 1, 159]), (102, [22], [0, 13008, 13009, 13158, 13159]), (23, [1, 22], [0, 1, -1]), (23, [6, 22], [-2011, -1, -1]), (23, [1, 21], [0, 1, -1]), (23, [6, 21], [-2011, -1, -1]), (23, [13], [0, -1]), (102, [21], [0, 13008, 13009, 13158]), (23, [1, 21], [0, 1, -1]), (23, [6, 21], [-2011, -1, -1]), (23, [13], [0, -1]), (101, [2, 19], [158]), (1, [19, 5, 18], []), (23, [13], [0, -1]), (102, [16], [0, 13008, 13009]), (8, [13], [2])], [(37, (0, 0, 860, []))], [], [], [], [(37, 36, -1, -1), (37, 35, -1, 719), (37, 33, -1, 140), (37, 32, -1, 788), (37, 29, -1, 212), (36, 35, 0, 720), (36, 33, 0, 141), (36, 32, 0, 789), (36, 29, 0, 213), (33, 32, 0, 648), (33, 29, 0, 72), (19, 5, 1, 1), (19, 1, -4294967296, 2010), (1, 5, -4294967296, 2009), (5, 1, -4294967296, 2009)])
theorem oo_Mo_rule_at_f0_21 {kA : Nat → ClassId} : or_ok kA GG o_Mo_rule_at_f0_21 := by
  intro A ta ws vs hD hth hl hk hds hf
  have hl : vs.length = 40 := hl
  have hk : ∀ q ∈ ([(0, (2, 0, 0, [150])), (1, (0, 0, 2009, [])), (2, (2, 0, 0, [150])), (5, (0, 0, 2009, [])), (6, (0, 0, 2010, [])), (13, (0, -1, -1, [])), (18, (0, 1, 1, [])), (19, (0, 1, 2009, [])), (21, (0, 0, 2009, [])), (22, (0, 0, 2009, [])), (25, (0, 0, 47, [])), (27, (0, 216, 216, [])), (28, (0, 0, 3, [])), (29, (0, 0, 648, [])), (30, (0, 72, 72, [])), (31, (0, 0, 1, [])), (32, (0, 0, 72, [])), (33, (0, 0, 720, [])), (34, (0, 3, 3, [])), (35, (0, 0, 141, [])), (36, (0, 0, 861, [])), (37, (0, -1, 860, []))] : List (Nat × tv_T)), tv_ok ta q.2 (n_v vs q.1) := hk
  obtain ⟨t0, hk⟩ := List.forall_mem_cons.mp hk
  have t0 : tv_ok ta (2, 0, 0, [150]) (n_v vs 0) := t0
  have r0 : ta (v_ad (n_v vs 0)) = some 150 := tv_rg t0
  obtain ⟨t1, hk⟩ := List.forall_mem_cons.mp hk
  have t1 : tv_ok ta (0, 0, 2009, []) (n_v vs 1) := t1
  have k1 : 0 ≤ v_iv (n_v vs 1) ∧ v_iv (n_v vs 1) ≤ 2009 := tv_rng t1
  obtain ⟨t2, hk⟩ := List.forall_mem_cons.mp hk
  have t2 : tv_ok ta (2, 0, 0, [150]) (n_v vs 2) := t2
  have r2 : ta (v_ad (n_v vs 2)) = some 150 := tv_rg t2
  obtain ⟨t5, hk⟩ := List.forall_mem_cons.mp hk
  have t5 : tv_ok ta (0, 0, 2009, []) (n_v vs 5) := t5
  have k5 : 0 ≤ v_iv (n_v vs 5) ∧ v_iv (n_v vs 5) ≤ 2009 := tv_rng t5
  obtain ⟨t6, hk⟩ := List.forall_mem_cons.mp hk
  have t6 : tv_ok ta (0, 0, 2010, []) (n_v vs 6) := t6
  have k6 : 0 ≤ v_iv (n_v vs 6) ∧ v_iv (n_v vs 6) ≤ 2010 := tv_rng t6
  obtain ⟨t13, hk⟩ := List.forall_mem_cons.mp hk
  have t13 : tv_ok ta (0, -1, -1, []) (n_v vs 13) := t13
  have k13 : (-1) ≤ v_iv (n_v vs 13) ∧ v_iv (n_v vs 13) ≤ (-1) := tv_rng t13
  obtain ⟨t18, hk⟩ := List.forall_mem_cons.mp hk
  have t18 : tv_ok ta (0, 1, 1, []) (n_v vs 18) := t18
  have k18 : 1 ≤ v_iv (n_v vs 18) ∧ v_iv (n_v vs 18) ≤ 1 := tv_rng t18
  obtain ⟨t19, hk⟩ := List.forall_mem_cons.mp hk
  have t19 : tv_ok ta (0, 1, 2009, []) (n_v vs 19) := t19
  have k19 : 1 ≤ v_iv (n_v vs 19) ∧ v_iv (n_v vs 19) ≤ 2009 := tv_rng t19
  obtain ⟨t21, hk⟩ := List.forall_mem_cons.mp hk
  have t21 : tv_ok ta (0, 0, 2009, []) (n_v vs 21) := t21
  have k21 : 0 ≤ v_iv (n_v vs 21) ∧ v_iv (n_v vs 21) ≤ 2009 := tv_rng t21
  obtain ⟨t22, hk⟩ := List.forall_mem_cons.mp hk
  have t22 : tv_ok ta (0, 0, 2009, []) (n_v vs 22) := t22
  have k22 : 0 ≤ v_iv (n_v vs 22) ∧ v_iv (n_v vs 22) ≤ 2009 := tv_rng t22
  obtain ⟨t25, hk⟩ := List.forall_mem_cons.mp hk
  have t25 : tv_ok ta (0, 0, 47, []) (n_v vs 25) := t25
  have k25 : 0 ≤ v_iv (n_v vs 25) ∧ v_iv (n_v vs 25) ≤ 47 := tv_rng t25
  obtain ⟨t27, hk⟩ := List.forall_mem_cons.mp hk
  have t27 : tv_ok ta (0, 216, 216, []) (n_v vs 27) := t27
  have k27 : 216 ≤ v_iv (n_v vs 27) ∧ v_iv (n_v vs 27) ≤ 216 := tv_rng t27
  obtain ⟨t28, hk⟩ := List.forall_mem_cons.mp hk
  have t28 : tv_ok ta (0, 0, 3, []) (n_v vs 28) := t28
  have k28 : 0 ≤ v_iv (n_v vs 28) ∧ v_iv (n_v vs 28) ≤ 3 := tv_rng t28
  obtain ⟨t29, hk⟩ := List.forall_mem_cons.mp hk
  have t29 : tv_ok ta (0, 0, 648, []) (n_v vs 29) := t29
  have k29 : 0 ≤ v_iv (n_v vs 29) ∧ v_iv (n_v vs 29) ≤ 648 := tv_rng t29
  obtain ⟨t30, hk⟩ := List.forall_mem_cons.mp hk
  have t30 : tv_ok ta (0, 72, 72, []) (n_v vs 30) := t30
  have k30 : 72 ≤ v_iv (n_v vs 30) ∧ v_iv (n_v vs 30) ≤ 72 := tv_rng t30
  obtain ⟨t31, hk⟩ := List.forall_mem_cons.mp hk
  have t31 : tv_ok ta (0, 0, 1, []) (n_v vs 31) := t31
  have k31 : 0 ≤ v_iv (n_v vs 31) ∧ v_iv (n_v vs 31) ≤ 1 := tv_rng t31
  obtain ⟨t32, hk⟩ := List.forall_mem_cons.mp hk
  have t32 : tv_ok ta (0, 0, 72, []) (n_v vs 32) := t32
  have k32 : 0 ≤ v_iv (n_v vs 32) ∧ v_iv (n_v vs 32) ≤ 72 := tv_rng t32
  obtain ⟨t33, hk⟩ := List.forall_mem_cons.mp hk
  have t33 : tv_ok ta (0, 0, 720, []) (n_v vs 33) := t33
  have k33 : 0 ≤ v_iv (n_v vs 33) ∧ v_iv (n_v vs 33) ≤ 720 := tv_rng t33
  obtain ⟨t34, hk⟩ := List.forall_mem_cons.mp hk
  have t34 : tv_ok ta (0, 3, 3, []) (n_v vs 34) := t34
  have k34 : 3 ≤ v_iv (n_v vs 34) ∧ v_iv (n_v vs 34) ≤ 3 := tv_rng t34
  obtain ⟨t35, hk⟩ := List.forall_mem_cons.mp hk
  have t35 : tv_ok ta (0, 0, 141, []) (n_v vs 35) := t35
  have k35 : 0 ≤ v_iv (n_v vs 35) ∧ v_iv (n_v vs 35) ≤ 141 := tv_rng t35
  obtain ⟨t36, hk⟩ := List.forall_mem_cons.mp hk
  have t36 : tv_ok ta (0, 0, 861, []) (n_v vs 36) := t36
  have k36 : 0 ≤ v_iv (n_v vs 36) ∧ v_iv (n_v vs 36) ≤ 861 := tv_rng t36
  obtain ⟨t37, hk⟩ := List.forall_mem_cons.mp hk
  have t37 : tv_ok ta (0, -1, 860, []) (n_v vs 37) := t37
  have k37 : (-1) ≤ v_iv (n_v vs 37) ∧ v_iv (n_v vs 37) ≤ 860 := tv_rng t37
  have hds : ∀ q ∈ ([(37, 36, -1, -1), (37, 35, -1, 719), (37, 33, -1, 140), (37, 32, -1, 788), (37, 29, -1, 212), (36, 35, 0, 720), (36, 33, 0, 141), (36, 32, 0, 789), (36, 29, 0, 213), (33, 32, 0, 648), (33, 29, 0, 72), (19, 5, 1, 1), (19, 1, -4294967296, 2010), (1, 5, -4294967296, 2009), (5, 1, -4294967296, 2009)] : List of_T), n_iv vs q.2.1 + q.2.2.1 ≤ n_iv vs q.1 ∧ n_iv vs q.1 ≤ n_iv vs q.2.1 + q.2.2.2 := hds
  obtain ⟨d0, hds⟩ := List.forall_mem_cons.mp hds
  have d0 : v_iv (n_v vs 36) + (-1) ≤ v_iv (n_v vs 37) ∧ v_iv (n_v vs 37) ≤ v_iv (n_v vs 36) + (-1) := d0
  obtain ⟨d1, hds⟩ := List.forall_mem_cons.mp hds
  have d1 : v_iv (n_v vs 35) + (-1) ≤ v_iv (n_v vs 37) ∧ v_iv (n_v vs 37) ≤ v_iv (n_v vs 35) + 719 := d1
  obtain ⟨d2, hds⟩ := List.forall_mem_cons.mp hds
  have d2 : v_iv (n_v vs 33) + (-1) ≤ v_iv (n_v vs 37) ∧ v_iv (n_v vs 37) ≤ v_iv (n_v vs 33) + 140 := d2
  obtain ⟨d3, hds⟩ := List.forall_mem_cons.mp hds
  have d3 : v_iv (n_v vs 32) + (-1) ≤ v_iv (n_v vs 37) ∧ v_iv (n_v vs 37) ≤ v_iv (n_v vs 32) + 788 := d3
  obtain ⟨d4, hds⟩ := List.forall_mem_cons.mp hds
  have d4 : v_iv (n_v vs 29) + (-1) ≤ v_iv (n_v vs 37) ∧ v_iv (n_v vs 37) ≤ v_iv (n_v vs 29) + 212 := d4
  obtain ⟨d5, hds⟩ := List.forall_mem_cons.mp hds
  have d5 : v_iv (n_v vs 35) + 0 ≤ v_iv (n_v vs 36) ∧ v_iv (n_v vs 36) ≤ v_iv (n_v vs 35) + 720 := d5
  obtain ⟨d6, hds⟩ := List.forall_mem_cons.mp hds
  have d6 : v_iv (n_v vs 33) + 0 ≤ v_iv (n_v vs 36) ∧ v_iv (n_v vs 36) ≤ v_iv (n_v vs 33) + 141 := d6
  obtain ⟨d7, hds⟩ := List.forall_mem_cons.mp hds
  have d7 : v_iv (n_v vs 32) + 0 ≤ v_iv (n_v vs 36) ∧ v_iv (n_v vs 36) ≤ v_iv (n_v vs 32) + 789 := d7
  obtain ⟨d8, hds⟩ := List.forall_mem_cons.mp hds
  have d8 : v_iv (n_v vs 29) + 0 ≤ v_iv (n_v vs 36) ∧ v_iv (n_v vs 36) ≤ v_iv (n_v vs 29) + 213 := d8
  obtain ⟨d9, hds⟩ := List.forall_mem_cons.mp hds
  have d9 : v_iv (n_v vs 32) + 0 ≤ v_iv (n_v vs 33) ∧ v_iv (n_v vs 33) ≤ v_iv (n_v vs 32) + 648 := d9
  obtain ⟨d10, hds⟩ := List.forall_mem_cons.mp hds
  have d10 : v_iv (n_v vs 29) + 0 ≤ v_iv (n_v vs 33) ∧ v_iv (n_v vs 33) ≤ v_iv (n_v vs 29) + 72 := d10
  obtain ⟨d11, hds⟩ := List.forall_mem_cons.mp hds
  have d11 : v_iv (n_v vs 5) + 1 ≤ v_iv (n_v vs 19) ∧ v_iv (n_v vs 19) ≤ v_iv (n_v vs 5) + 1 := d11
  obtain ⟨d12, hds⟩ := List.forall_mem_cons.mp hds
  have d12 : v_iv (n_v vs 1) + (-4294967296) ≤ v_iv (n_v vs 19) ∧ v_iv (n_v vs 19) ≤ v_iv (n_v vs 1) + 2010 := d12
  obtain ⟨d13, hds⟩ := List.forall_mem_cons.mp hds
  have d13 : v_iv (n_v vs 5) + (-4294967296) ≤ v_iv (n_v vs 1) ∧ v_iv (n_v vs 1) ≤ v_iv (n_v vs 5) + 2009 := d13
  obtain ⟨d14, hds⟩ := List.forall_mem_cons.mp hds
  have d14 : v_iv (n_v vs 1) + (-4294967296) ≤ v_iv (n_v vs 5) ∧ v_iv (n_v vs 5) ≤ v_iv (n_v vs 1) + 2009 := d14
  have hf : fc_ok [(1, [37, 36, 13], []), (1, [36, 33, 35], []), (3, [35, 34, 25], []), (9, [25, 2], [165]), (1, [33, 29, 32], []), (3, [32, 30, 31], []), (9, [31, 2], [164]), (3, [29, 27, 28], []), (9, [28, 2], [139]), (8, [25], [3]), (23, [1, 22], [0, 1, -1]), (23, [6, 22], [-2011, -1, -1]), (23, [1, 21], [0, 1, -1]), (23, [6, 21], [-2011, -1, -1]), (23, [13], [0, -1]), (24, [0, 2], []), (20, [2], [50, 2, 1, 158, 157, 160, 2, 12, 0, 7, 4, 3, 2, 0, 158, 0, 1, 2, 0, 157, 2, 7, 0, 3, 2, 0, 157, 0, 2010, 3, 14, 1, 10, 3, 0, 160, 5, 3, 2, 0, 157, 0, 1, 0, 0, 1, 10, 3, 0, 160, 5, 3, 2, 0, 157, 0, 1, 0, 4]), (20, [22, 2], [30, 0, 1, 0, 0, -1, 1, 158]), (20, [2], [30, 0, 1, 1, 159]), (20, [2], [30, 0, -1, 1, 159]), (102, [22], [0, 13008, 13009, 13158, 13159]), (23, [1, 22], [0, 1, -1]), (23, [6, 22], [-2011, -1, -1]), (23, [1, 21], [0, 1, -1]), (23, [6, 21], [-2011, -1, -1]), (23, [13], [0, -1]), (102, [21], [0, 13008, 13009, 13158]), (23, [1, 21], [0, 1, -1]), (23, [6, 21], [-2011, -1, -1]), (23, [13], [0, -1]), (101, [2, 19], [158]), (1, [19, 5, 18], []), (23, [13], [0, -1]), (102, [16], [0, 13008, 13009]), (8, [13], [2])] ta ws vs := hf
  obtain ⟨f0, hf⟩ := fc_un (show (1 : Nat) < 100 from by decide) hf
  have f0 : v_iv (n_v vs 37) = v_iv (n_v vs 36) + v_iv (n_v vs 13) := f0
  obtain ⟨f1, hf⟩ := fc_un (show (1 : Nat) < 100 from by decide) hf
  have f1 : v_iv (n_v vs 36) = v_iv (n_v vs 33) + v_iv (n_v vs 35) := f1
  obtain ⟨f2, hf⟩ := fc_un (show (3 : Nat) < 100 from by decide) hf
  have f2 : v_iv (n_v vs 35) = v_iv (n_v vs 34) * v_iv (n_v vs 25) := f2
  rw [show v_iv (n_v vs 34) = 3 from by omega] at f2
  obtain ⟨f3, hf⟩ := fc_un (show (9 : Nat) < 100 from by decide) hf
  have f3 : n_v vs 25 = w_fd ws (v_ad (n_v vs 2)) 165 := f3
  obtain ⟨f4, hf⟩ := fc_un (show (1 : Nat) < 100 from by decide) hf
  have f4 : v_iv (n_v vs 33) = v_iv (n_v vs 29) + v_iv (n_v vs 32) := f4
  obtain ⟨f5, hf⟩ := fc_un (show (3 : Nat) < 100 from by decide) hf
  have f5 : v_iv (n_v vs 32) = v_iv (n_v vs 30) * v_iv (n_v vs 31) := f5
  rw [show v_iv (n_v vs 30) = 72 from by omega] at f5
  obtain ⟨f6, hf⟩ := fc_un (show (9 : Nat) < 100 from by decide) hf
  have f6 : n_v vs 31 = w_fd ws (v_ad (n_v vs 2)) 164 := f6
  obtain ⟨f7, hf⟩ := fc_un (show (3 : Nat) < 100 from by decide) hf
  have f7 : v_iv (n_v vs 29) = v_iv (n_v vs 27) * v_iv (n_v vs 28) := f7
  rw [show v_iv (n_v vs 27) = 216 from by omega] at f7
  obtain ⟨f8, hf⟩ := fc_un (show (9 : Nat) < 100 from by decide) hf
  have f8 : n_v vs 28 = w_fd ws (v_ad (n_v vs 2)) 139 := f8
  obtain ⟨f9, hf⟩ := fc_un (show (8 : Nat) < 100 from by decide) hf
  have f9 : 0 ≤ v_iv (n_v vs 25) := f9
  obtain ⟨f10, hf⟩ := fc_un (show (23 : Nat) < 100 from by decide) hf
  have f10 : 1 * v_iv (n_v vs 1) + ((-1) * v_iv (n_v vs 22) + 0) ≤ 0 := f10
  obtain ⟨f11, hf⟩ := fc_un (show (23 : Nat) < 100 from by decide) hf
  have f11 : (-1) * v_iv (n_v vs 6) + ((-1) * v_iv (n_v vs 22) + 0) ≤ (-2011) := f11
  obtain ⟨f12, hf⟩ := fc_un (show (23 : Nat) < 100 from by decide) hf
  have f12 : 1 * v_iv (n_v vs 1) + ((-1) * v_iv (n_v vs 21) + 0) ≤ 0 := f12
  obtain ⟨f13, hf⟩ := fc_un (show (23 : Nat) < 100 from by decide) hf
  have f13 : (-1) * v_iv (n_v vs 6) + ((-1) * v_iv (n_v vs 21) + 0) ≤ (-2011) := f13
  obtain ⟨f14, hf⟩ := fc_un (show (23 : Nat) < 100 from by decide) hf
  have f14 : (-1) * v_iv (n_v vs 13) + 0 ≤ 0 := f14
  obtain ⟨f15, hf⟩ := fc_un (show (24 : Nat) < 100 from by decide) hf
  have f15 : n_v vs 0 = n_v vs 2 := f15
  obtain ⟨f16, hf⟩ := fc_un (show (20 : Nat) < 100 from by decide) hf
  have f16 : ((w_fi ws (n_v vs 2) 158 + 1) ≤ w_fi ws (n_v vs 2) 157) ∧ ((w_fi ws (n_v vs 2) 157 ≤ 2010) ∧ ((w_ei ws (w_ar ws (n_v vs 2) 160) ((w_fi ws (n_v vs 2) 157 - 1)) = 0) ∨ (w_ei ws (w_ar ws (n_v vs 2) 160) ((w_fi ws (n_v vs 2) 157 - 1)) = 4))) := f16
  obtain ⟨f17, hf⟩ := fc_un (show (20 : Nat) < 100 from by decide) hf
  have f17 : 1 * v_iv (n_v vs 22) + ((-1) * w_fi ws (n_v vs 2) 158 + 0) ≤ 0 := f17
  obtain ⟨f18, hf⟩ := fc_un (show (20 : Nat) < 100 from by decide) hf
  have f18 : 1 * w_fi ws (n_v vs 2) 159 + 0 ≤ 0 := f18
  obtain ⟨f19, hf⟩ := fc_un (show (20 : Nat) < 100 from by decide) hf
  have f19 : (-1) * w_fi ws (n_v vs 2) 159 + 0 ≤ 0 := f19
  obtain ⟨ta1, w1, le1, ⟨_, s1⟩, hf⟩ := fc_us (show ¬ (102 : Nat) < 100 from by decide) hf
  obtain ⟨f21, hf⟩ := fc_un (show (23 : Nat) < 100 from by decide) hf
  have f21 : 1 * v_iv (n_v vs 1) + ((-1) * v_iv (n_v vs 22) + 0) ≤ 0 := f21
  obtain ⟨f22, hf⟩ := fc_un (show (23 : Nat) < 100 from by decide) hf
  have f22 : (-1) * v_iv (n_v vs 6) + ((-1) * v_iv (n_v vs 22) + 0) ≤ (-2011) := f22
  obtain ⟨f23, hf⟩ := fc_un (show (23 : Nat) < 100 from by decide) hf
  have f23 : 1 * v_iv (n_v vs 1) + ((-1) * v_iv (n_v vs 21) + 0) ≤ 0 := f23
  obtain ⟨f24, hf⟩ := fc_un (show (23 : Nat) < 100 from by decide) hf
  have f24 : (-1) * v_iv (n_v vs 6) + ((-1) * v_iv (n_v vs 21) + 0) ≤ (-2011) := f24
  obtain ⟨f25, hf⟩ := fc_un (show (23 : Nat) < 100 from by decide) hf
  have f25 : (-1) * v_iv (n_v vs 13) + 0 ≤ 0 := f25
  obtain ⟨ta2, w2, le2, ⟨_, s2⟩, hf⟩ := fc_us (show ¬ (102 : Nat) < 100 from by decide) hf
  obtain ⟨f27, hf⟩ := fc_un (show (23 : Nat) < 100 from by decide) hf
  have f27 : 1 * v_iv (n_v vs 1) + ((-1) * v_iv (n_v vs 21) + 0) ≤ 0 := f27
  obtain ⟨f28, hf⟩ := fc_un (show (23 : Nat) < 100 from by decide) hf
  have f28 : (-1) * v_iv (n_v vs 6) + ((-1) * v_iv (n_v vs 21) + 0) ≤ (-2011) := f28
  obtain ⟨f29, hf⟩ := fc_un (show (23 : Nat) < 100 from by decide) hf
  have f29 : (-1) * v_iv (n_v vs 13) + 0 ≤ 0 := f29
  obtain ⟨ta3, w3, le3, ⟨_, s3⟩, hf⟩ := fc_us (show ¬ (101 : Nat) < 100 from by decide) hf
  have s3 : (∀ b j, w_el w2 b j = w_el w3 b j) ∧ ∀ b j, w_fd w2 b j = if b = v_ad (n_v vs 2) ∧ j = 158 then n_v vs 19 else w_fd w3 b j := s3
  obtain ⟨f31, hf⟩ := fc_un (show (1 : Nat) < 100 from by decide) hf
  have f31 : v_iv (n_v vs 19) = v_iv (n_v vs 5) + v_iv (n_v vs 18) := f31
  obtain ⟨f32, hf⟩ := fc_un (show (23 : Nat) < 100 from by decide) hf
  have f32 : (-1) * v_iv (n_v vs 13) + 0 ≤ 0 := f32
  obtain ⟨ta4, w4, le4, ⟨_, s4⟩, hf⟩ := fc_us (show ¬ (102 : Nat) < 100 from by decide) hf
  obtain ⟨f34, hf⟩ := fc_un (show (8 : Nat) < 100 from by decide) hf
  have f34 : v_iv (n_v vs 13) < 0 := f34
  have q2 : n_v vs 2 = n_v vs 0 := f15.symm
  rw [q2] at f3
  rw [q2] at f6
  rw [q2] at f8
  rw [q2] at f16
  rw [q2] at f17
  rw [q2] at f18
  rw [q2] at f19
  rw [q2] at s3
  have cr_0_160 : ta (w_ar ws (n_v vs 0) 160) = some 259 := tv_rg (th_fd hD hth r0 (g := GG_150) rfl (k := 160) (t := (2, 0, 0, [259])) rfl rfl)
  have g3 : v_iv (n_v vs 25) = w_fi ws (n_v vs 0) 165 := congrArg v_iv f3
  have g6 : v_iv (n_v vs 31) = w_fi ws (n_v vs 0) 164 := congrArg v_iv f6
  have g8 : v_iv (n_v vs 28) = w_fi ws (n_v vs 0) 139 := congrArg v_iv f8
  have hK_0_160 : ∀ j : Int, 0 ≤ j → j < 2010 → 0 ≤ w_ei ws (w_ar ws (n_v vs 0) 160) j ∧ w_ei ws (w_ar ws (n_v vs 0) 160) j ≤ 4 := fun j h0 h1 => th_el hD hth cr_0_160 (kd := 0) (n := 2010) (m := 2010) (lo := 0) (hi := 4) (rs := []) (L := []) rfl (by decide) (j := j.toNat) (by omega)
  have kz_0_139 : 0 ≤ w_fi ws (n_v vs 0) 139 ∧ w_fi ws (n_v vs 0) 139 ≤ 3 := tv_rng (th_fd hD hth r0 (g := GG_150) rfl (k := 139) (t := (0, 0, 3, [])) rfl rfl)
  have kz_0_157 : 0 ≤ w_fi ws (n_v vs 0) 157 ∧ w_fi ws (n_v vs 0) 157 ≤ 2010 := tv_rng (th_fd hD hth r0 (g := GG_150) rfl (k := 157) (t := (0, 0, 2010, [])) rfl rfl)
  have kz_0_158 : 0 ≤ w_fi ws (n_v vs 0) 158 ∧ w_fi ws (n_v vs 0) 158 ≤ 2009 := tv_rng (th_fd hD hth r0 (g := GG_150) rfl (k := 158) (t := (0, 0, 2009, [])) rfl rfl)
  have kz_0_159 : 0 ≤ w_fi ws (n_v vs 0) 159 ∧ w_fi ws (n_v vs 0) 159 ≤ 13 := tv_rng (th_fd hD hth r0 (g := GG_150) rfl (k := 159) (t := (0, 0, 13, [])) rfl rfl)
  have kz_0_164 : 0 ≤ w_fi ws (n_v vs 0) 164 ∧ w_fi ws (n_v vs 0) 164 ≤ 1 := tv_rng (th_fd hD hth r0 (g := GG_150) rfl (k := 164) (t := (0, 0, 1, [])) rfl rfl)
  have kz_0_165 : (-1) ≤ w_fi ws (n_v vs 0) 165 ∧ w_fi ws (n_v vs 0) 165 ≤ 47 := tv_rng (th_fd hD hth r0 (g := GG_150) rfl (k := 165) (t := (0, -1, 47, [])) rfl rfl)
  have rf37 : tv_ok ta (0, 0, 860, []) (n_v vs 37) := tv_in t37 (by first | omega | grind) (by first | omega | grind)
  refine ⟨List.forall_mem_cons.mpr ⟨rf37, (fun _ h => (by cases h))⟩, [], trivial, ?_, (fun _ h => (by cases h))⟩
  rw [List.append_nil]
  exact (fun _ h => (by cases h))
def o_Mo_rule_at_f0_22 : or_T := (275, 40, [(0, (2, 0, 0, [150])), (1, (0, 0, 2009, [])), (2, (2, 0, 0, [150])), (5, (0, 0, 2009, [])), (6, (0, 0, 2010, [])), (18, (0, 1, 1, [])), (19, (0, 1, 2009, [])), (21, (0, 0, 2009, [])), (22, (0, 0, 2009, [])), (26, (2, 0, 0, [198]))], [(23, [1, 22], [0, 1, -1]), (23, [6, 22], [-2011, -1, -1]), (23, [1, 21], [0, 1, -1]), (23, [6, 21], [-2011, -1, -1]), (24, [0, 2], []), (20, [2], [50, 2, 1, 158, 157, 160, 2, 12, 0, 7, 4, 3, 2, 0, 158, 0, 1, 2, 0, 157, 2, 7, 0, 3, 2, 0, 157, 0, 2010, 3, 14, 1, 10, 3, 0, 160, 5, 3, 2, 0, 157, 0, 1, 0, 0, 1, 10, 3, 0, 160, 5, 3, 2, 0, 157, 0, 1, 0, 4]), (20, [22, 2], [30, 0, 1, 0, 0, -1, 1, 158]), (20, [2], [30, 0, 1, 1, 159]), (20, [2], [30, 0, -1, 1, 159]), (100, [26, 37, 39], []), (9, [26, 2], [73]), (23, [1, 22], [0, 1, -1]), (23, [6, 22], [-2011, -1, -1]), (23, [1, 21], [0, 1, -1]), (23, [6, 21], [-2011, -1, -1]), (20, [2], [50, 2, 1, 158, 157, 160, 2, 12, 0, 7, 4, 3, 2, 0, 158, 0, 1, 2, 0, 157, 2, 7, 0, 3, 2, 0, 157, 0, 2010, 3, 14, 1, 10, 3, 0, 160, 5, 3, 2, 0, 157, 0, 1, 0, 0, 1, 10, 3, 0, 160, 5, 3, 2, 0, 157, 0, 1, 0, 4]), (20, [22, 2], [30, 0, 1, 0, 0, -1, 1, 158]), (20, [2], [30, 0, 1, 1, 159]), (20, [2], [30, 0, -1, 1, 159]), (102, [22], [0, 13008, 13009, 13158, 13159]), (23, [1, 22], [0, 1, -1]), (23, [6, 22], [-2011, -1, -1]), (23, [1, 21], [0, 1, -1]), (23, [6, 21], [-2011, -1, -1]), (102, [21], [0, 13008, 13009, 13158]), (23, [1, 21], [0, 1, -1]), (23, [6, 21], [-2011, -1, -1]), (101, [2, 19], [158]), (1, [19, 5, 18], [])], [], [(0, 0, 2010, [])], [(20, [2], [50, 2, 1, 158, 157, 160, 2, 12, 0, 7, 4, 3, 2, 0, 158, 0, 1, 2, 0, 157, 2, 7, 0, 3, 2, 0, 157, 0, 2010, 3, 14, 1, 10, 3, 0, 160, 5, 3, 2, 0, 157, 0, 1, 0, 0, 1, 10, 3, 0, 160, 5, 3, 2, 0, 157, 0, 1, 0, 4]), (20, [1, 2], [30, 0, 1, 0, 0, -1, 1, 158]), (20, [2], [30, 0, 1, 1, 159]), (20, [2], [30, 0, -1, 1, 159]), (20, [40, 2], [30, -2011, -1, 0, 0, -1, 1, 158]), (24, [0, 2], [])], [(40, 6, 0, 0)], [(19, 5, 1, 1), (19, 1, -4294967296, 2010), (1, 5, -4294967296, 2009), (5, 1, -4294967296, 2009)])
theorem oo_Mo_rule_at_f0_22 {kA : Nat → ClassId} : or_ok kA GG o_Mo_rule_at_f0_22 := by
  intro A ta ws vs hD hth hl hk hds hf
  have hl : vs.length = 40 := hl
  have hk : ∀ q ∈ ([(0, (2, 0, 0, [150])), (1, (0, 0, 2009, [])), (2, (2, 0, 0, [150])), (5, (0, 0, 2009, [])), (6, (0, 0, 2010, [])), (18, (0, 1, 1, [])), (19, (0, 1, 2009, [])), (21, (0, 0, 2009, [])), (22, (0, 0, 2009, [])), (26, (2, 0, 0, [198]))] : List (Nat × tv_T)), tv_ok ta q.2 (n_v vs q.1) := hk
  obtain ⟨t0, hk⟩ := List.forall_mem_cons.mp hk
  have t0 : tv_ok ta (2, 0, 0, [150]) (n_v vs 0) := t0
  have r0 : ta (v_ad (n_v vs 0)) = some 150 := tv_rg t0
  obtain ⟨t1, hk⟩ := List.forall_mem_cons.mp hk
  have t1 : tv_ok ta (0, 0, 2009, []) (n_v vs 1) := t1
  have k1 : 0 ≤ v_iv (n_v vs 1) ∧ v_iv (n_v vs 1) ≤ 2009 := tv_rng t1
  obtain ⟨t2, hk⟩ := List.forall_mem_cons.mp hk
  have t2 : tv_ok ta (2, 0, 0, [150]) (n_v vs 2) := t2
  have r2 : ta (v_ad (n_v vs 2)) = some 150 := tv_rg t2
  obtain ⟨t5, hk⟩ := List.forall_mem_cons.mp hk
  have t5 : tv_ok ta (0, 0, 2009, []) (n_v vs 5) := t5
  have k5 : 0 ≤ v_iv (n_v vs 5) ∧ v_iv (n_v vs 5) ≤ 2009 := tv_rng t5
  obtain ⟨t6, hk⟩ := List.forall_mem_cons.mp hk
  have t6 : tv_ok ta (0, 0, 2010, []) (n_v vs 6) := t6
  have k6 : 0 ≤ v_iv (n_v vs 6) ∧ v_iv (n_v vs 6) ≤ 2010 := tv_rng t6
  obtain ⟨t18, hk⟩ := List.forall_mem_cons.mp hk
  have t18 : tv_ok ta (0, 1, 1, []) (n_v vs 18) := t18
  have k18 : 1 ≤ v_iv (n_v vs 18) ∧ v_iv (n_v vs 18) ≤ 1 := tv_rng t18
  obtain ⟨t19, hk⟩ := List.forall_mem_cons.mp hk
  have t19 : tv_ok ta (0, 1, 2009, []) (n_v vs 19) := t19
  have k19 : 1 ≤ v_iv (n_v vs 19) ∧ v_iv (n_v vs 19) ≤ 2009 := tv_rng t19
  obtain ⟨t21, hk⟩ := List.forall_mem_cons.mp hk
  have t21 : tv_ok ta (0, 0, 2009, []) (n_v vs 21) := t21
  have k21 : 0 ≤ v_iv (n_v vs 21) ∧ v_iv (n_v vs 21) ≤ 2009 := tv_rng t21
  obtain ⟨t22, hk⟩ := List.forall_mem_cons.mp hk
  have t22 : tv_ok ta (0, 0, 2009, []) (n_v vs 22) := t22
  have k22 : 0 ≤ v_iv (n_v vs 22) ∧ v_iv (n_v vs 22) ≤ 2009 := tv_rng t22
  obtain ⟨t26, hk⟩ := List.forall_mem_cons.mp hk
  have t26 : tv_ok ta (2, 0, 0, [198]) (n_v vs 26) := t26
  have r26 : ta (v_ad (n_v vs 26)) = some 198 := tv_rg t26
  have hds : ∀ q ∈ ([(19, 5, 1, 1), (19, 1, -4294967296, 2010), (1, 5, -4294967296, 2009), (5, 1, -4294967296, 2009)] : List of_T), n_iv vs q.2.1 + q.2.2.1 ≤ n_iv vs q.1 ∧ n_iv vs q.1 ≤ n_iv vs q.2.1 + q.2.2.2 := hds
  obtain ⟨d0, hds⟩ := List.forall_mem_cons.mp hds
  have d0 : v_iv (n_v vs 5) + 1 ≤ v_iv (n_v vs 19) ∧ v_iv (n_v vs 19) ≤ v_iv (n_v vs 5) + 1 := d0
  obtain ⟨d1, hds⟩ := List.forall_mem_cons.mp hds
  have d1 : v_iv (n_v vs 1) + (-4294967296) ≤ v_iv (n_v vs 19) ∧ v_iv (n_v vs 19) ≤ v_iv (n_v vs 1) + 2010 := d1
  obtain ⟨d2, hds⟩ := List.forall_mem_cons.mp hds
  have d2 : v_iv (n_v vs 5) + (-4294967296) ≤ v_iv (n_v vs 1) ∧ v_iv (n_v vs 1) ≤ v_iv (n_v vs 5) + 2009 := d2
  obtain ⟨d3, hds⟩ := List.forall_mem_cons.mp hds
  have d3 : v_iv (n_v vs 1) + (-4294967296) ≤ v_iv (n_v vs 5) ∧ v_iv (n_v vs 5) ≤ v_iv (n_v vs 1) + 2009 := d3
  have hf : fc_ok [(23, [1, 22], [0, 1, -1]), (23, [6, 22], [-2011, -1, -1]), (23, [1, 21], [0, 1, -1]), (23, [6, 21], [-2011, -1, -1]), (24, [0, 2], []), (20, [2], [50, 2, 1, 158, 157, 160, 2, 12, 0, 7, 4, 3, 2, 0, 158, 0, 1, 2, 0, 157, 2, 7, 0, 3, 2, 0, 157, 0, 2010, 3, 14, 1, 10, 3, 0, 160, 5, 3, 2, 0, 157, 0, 1, 0, 0, 1, 10, 3, 0, 160, 5, 3, 2, 0, 157, 0, 1, 0, 4]), (20, [22, 2], [30, 0, 1, 0, 0, -1, 1, 158]), (20, [2], [30, 0, 1, 1, 159]), (20, [2], [30, 0, -1, 1, 159]), (100, [26, 37, 39], []), (9, [26, 2], [73]), (23, [1, 22], [0, 1, -1]), (23, [6, 22], [-2011, -1, -1]), (23, [1, 21], [0, 1, -1]), (23, [6, 21], [-2011, -1, -1]), (20, [2], [50, 2, 1, 158, 157, 160, 2, 12, 0, 7, 4, 3, 2, 0, 158, 0, 1, 2, 0, 157, 2, 7, 0, 3, 2, 0, 157, 0, 2010, 3, 14, 1, 10, 3, 0, 160, 5, 3, 2, 0, 157, 0, 1, 0, 0, 1, 10, 3, 0, 160, 5, 3, 2, 0, 157, 0, 1, 0, 4]), (20, [22, 2], [30, 0, 1, 0, 0, -1, 1, 158]), (20, [2], [30, 0, 1, 1, 159]), (20, [2], [30, 0, -1, 1, 159]), (102, [22], [0, 13008, 13009, 13158, 13159]), (23, [1, 22], [0, 1, -1]), (23, [6, 22], [-2011, -1, -1]), (23, [1, 21], [0, 1, -1]), (23, [6, 21], [-2011, -1, -1]), (102, [21], [0, 13008, 13009, 13158]), (23, [1, 21], [0, 1, -1]), (23, [6, 21], [-2011, -1, -1]), (101, [2, 19], [158]), (1, [19, 5, 18], [])] ta ws vs := hf
  obtain ⟨f0, hf⟩ := fc_un (show (23 : Nat) < 100 from by decide) hf
  have f0 : 1 * v_iv (n_v vs 1) + ((-1) * v_iv (n_v vs 22) + 0) ≤ 0 := f0
  obtain ⟨f1, hf⟩ := fc_un (show (23 : Nat) < 100 from by decide) hf
  have f1 : (-1) * v_iv (n_v vs 6) + ((-1) * v_iv (n_v vs 22) + 0) ≤ (-2011) := f1
  obtain ⟨f2, hf⟩ := fc_un (show (23 : Nat) < 100 from by decide) hf
  have f2 : 1 * v_iv (n_v vs 1) + ((-1) * v_iv (n_v vs 21) + 0) ≤ 0 := f2
  obtain ⟨f3, hf⟩ := fc_un (show (23 : Nat) < 100 from by decide) hf
  have f3 : (-1) * v_iv (n_v vs 6) + ((-1) * v_iv (n_v vs 21) + 0) ≤ (-2011) := f3
  obtain ⟨f4, hf⟩ := fc_un (show (24 : Nat) < 100 from by decide) hf
  have f4 : n_v vs 0 = n_v vs 2 := f4
  obtain ⟨f5, hf⟩ := fc_un (show (20 : Nat) < 100 from by decide) hf
  have f5 : ((w_fi ws (n_v vs 2) 158 + 1) ≤ w_fi ws (n_v vs 2) 157) ∧ ((w_fi ws (n_v vs 2) 157 ≤ 2010) ∧ ((w_ei ws (w_ar ws (n_v vs 2) 160) ((w_fi ws (n_v vs 2) 157 - 1)) = 0) ∨ (w_ei ws (w_ar ws (n_v vs 2) 160) ((w_fi ws (n_v vs 2) 157 - 1)) = 4))) := f5
  obtain ⟨f6, hf⟩ := fc_un (show (20 : Nat) < 100 from by decide) hf
  have f6 : 1 * v_iv (n_v vs 22) + ((-1) * w_fi ws (n_v vs 2) 158 + 0) ≤ 0 := f6
  obtain ⟨f7, hf⟩ := fc_un (show (20 : Nat) < 100 from by decide) hf
  have f7 : 1 * w_fi ws (n_v vs 2) 159 + 0 ≤ 0 := f7
  obtain ⟨f8, hf⟩ := fc_un (show (20 : Nat) < 100 from by decide) hf
  have f8 : (-1) * w_fi ws (n_v vs 2) 159 + 0 ≤ 0 := f8
  obtain ⟨ta1, w1, le1, ⟨_, s1⟩, hf⟩ := fc_us (show ¬ (100 : Nat) < 100 from by decide) hf
  have s1 : (∀ b j, w_el ws b j = if b = v_ad (n_v vs 26) ∧ j = (v_iv (n_v vs 37)).toNat then v_iv (n_v vs 39) else w_el w1 b j) ∧ ∀ b k, w_fd ws b k = w_fd w1 b k := s1
  obtain ⟨f10, hf⟩ := fc_un (show (9 : Nat) < 100 from by decide) hf
  have f10 : n_v vs 26 = w_fd w1 (v_ad (n_v vs 2)) 73 := f10
  obtain ⟨f11, hf⟩ := fc_un (show (23 : Nat) < 100 from by decide) hf
  have f11 : 1 * v_iv (n_v vs 1) + ((-1) * v_iv (n_v vs 22) + 0) ≤ 0 := f11
  obtain ⟨f12, hf⟩ := fc_un (show (23 : Nat) < 100 from by decide) hf
  have f12 : (-1) * v_iv (n_v vs 6) + ((-1) * v_iv (n_v vs 22) + 0) ≤ (-2011) := f12
  obtain ⟨f13, hf⟩ := fc_un (show (23 : Nat) < 100 from by decide) hf
  have f13 : 1 * v_iv (n_v vs 1) + ((-1) * v_iv (n_v vs 21) + 0) ≤ 0 := f13
  obtain ⟨f14, hf⟩ := fc_un (show (23 : Nat) < 100 from by decide) hf
  have f14 : (-1) * v_iv (n_v vs 6) + ((-1) * v_iv (n_v vs 21) + 0) ≤ (-2011) := f14
  obtain ⟨f15, hf⟩ := fc_un (show (20 : Nat) < 100 from by decide) hf
  have f15 : ((w_fi w1 (n_v vs 2) 158 + 1) ≤ w_fi w1 (n_v vs 2) 157) ∧ ((w_fi w1 (n_v vs 2) 157 ≤ 2010) ∧ ((w_ei w1 (w_ar w1 (n_v vs 2) 160) ((w_fi w1 (n_v vs 2) 157 - 1)) = 0) ∨ (w_ei w1 (w_ar w1 (n_v vs 2) 160) ((w_fi w1 (n_v vs 2) 157 - 1)) = 4))) := f15
  obtain ⟨f16, hf⟩ := fc_un (show (20 : Nat) < 100 from by decide) hf
  have f16 : 1 * v_iv (n_v vs 22) + ((-1) * w_fi w1 (n_v vs 2) 158 + 0) ≤ 0 := f16
  obtain ⟨f17, hf⟩ := fc_un (show (20 : Nat) < 100 from by decide) hf
  have f17 : 1 * w_fi w1 (n_v vs 2) 159 + 0 ≤ 0 := f17
  obtain ⟨f18, hf⟩ := fc_un (show (20 : Nat) < 100 from by decide) hf
  have f18 : (-1) * w_fi w1 (n_v vs 2) 159 + 0 ≤ 0 := f18
  obtain ⟨ta2, w2, le2, ⟨_, s2⟩, hf⟩ := fc_us (show ¬ (102 : Nat) < 100 from by decide) hf
  obtain ⟨f20, hf⟩ := fc_un (show (23 : Nat) < 100 from by decide) hf
  have f20 : 1 * v_iv (n_v vs 1) + ((-1) * v_iv (n_v vs 22) + 0) ≤ 0 := f20
  obtain ⟨f21, hf⟩ := fc_un (show (23 : Nat) < 100 from by decide) hf
  have f21 : (-1) * v_iv (n_v vs 6) + ((-1) * v_iv (n_v vs 22) + 0) ≤ (-2011) := f21
  obtain ⟨f22, hf⟩ := fc_un (show (23 : Nat) < 100 from by decide) hf
  have f22 : 1 * v_iv (n_v vs 1) + ((-1) * v_iv (n_v vs 21) + 0) ≤ 0 := f22
  obtain ⟨f23, hf⟩ := fc_un (show (23 : Nat) < 100 from by decide) hf
  have f23 : (-1) * v_iv (n_v vs 6) + ((-1) * v_iv (n_v vs 21) + 0) ≤ (-2011) := f23
  obtain ⟨ta3, w3, le3, ⟨_, s3⟩, hf⟩ := fc_us (show ¬ (102 : Nat) < 100 from by decide) hf
  obtain ⟨f25, hf⟩ := fc_un (show (23 : Nat) < 100 from by decide) hf
  have f25 : 1 * v_iv (n_v vs 1) + ((-1) * v_iv (n_v vs 21) + 0) ≤ 0 := f25
  obtain ⟨f26, hf⟩ := fc_un (show (23 : Nat) < 100 from by decide) hf
  have f26 : (-1) * v_iv (n_v vs 6) + ((-1) * v_iv (n_v vs 21) + 0) ≤ (-2011) := f26
  obtain ⟨ta4, w4, le4, ⟨_, s4⟩, hf⟩ := fc_us (show ¬ (101 : Nat) < 100 from by decide) hf
  have s4 : (∀ b j, w_el w3 b j = w_el w4 b j) ∧ ∀ b j, w_fd w3 b j = if b = v_ad (n_v vs 2) ∧ j = 158 then n_v vs 19 else w_fd w4 b j := s4
  obtain ⟨f28, hf⟩ := fc_un (show (1 : Nat) < 100 from by decide) hf
  have f28 : v_iv (n_v vs 19) = v_iv (n_v vs 5) + v_iv (n_v vs 18) := f28
  have q2 : n_v vs 2 = n_v vs 0 := f4.symm
  rw [q2] at f5
  rw [q2] at f6
  rw [q2] at f7
  rw [q2] at f8
  rw [q2] at f10
  rw [q2] at f15
  rw [q2] at f16
  rw [q2] at f17
  rw [q2] at f18
  rw [q2] at s4
  have ar_0_73_1 : w_ar w1 (n_v vs 0) 73 = w_ar ws (n_v vs 0) 73 := by show v_ad (w_fd w1 _ _) = v_ad (w_fd ws _ _); rw [s1.2]
  have cr_0_73 : ta (w_ar ws (n_v vs 0) 73) = some 198 := tv_rg (th_fd hD hth r0 (g := GG_150) rfl (k := 73) (t := (2, 0, 0, [198])) rfl rfl)
  have ar_0_160_1 : w_ar w1 (n_v vs 0) 160 = w_ar ws (n_v vs 0) 160 := by show v_ad (w_fd w1 _ _) = v_ad (w_fd ws _ _); rw [s1.2]
  have cr_0_160 : ta (w_ar ws (n_v vs 0) 160) = some 259 := tv_rg (th_fd hD hth r0 (g := GG_150) rfl (k := 160) (t := (2, 0, 0, [259])) rfl rfl)
  have ad_26 : v_ad (n_v vs 26) = w_ar ws (n_v vs 0) 73 := (congrArg v_ad f10).trans ar_0_73_1
  rw [ar_0_160_1] at f15
  have fe_0_157_1 : w_fi ws (n_v vs 0) 157 = w_fi w1 (n_v vs 0) 157 := congrArg v_iv (s1.2 _ _)
  have fe_0_158_1 : w_fi ws (n_v vs 0) 158 = w_fi w1 (n_v vs 0) 158 := congrArg v_iv (s1.2 _ _)
  have fe_0_159_1 : w_fi ws (n_v vs 0) 159 = w_fi w1 (n_v vs 0) 159 := congrArg v_iv (s1.2 _ _)
  have hE_0_160_1 : ∀ j : Int, w_ei ws (w_ar ws (n_v vs 0) 160) j = w_ei w1 (w_ar ws (n_v vs 0) 160) j := fun j => by unfold w_ei; rw [s1.1, if_neg (fun e => by have e1 := e.1; rw [← e1] at r26; rw [cr_0_160] at r26; exact absurd (Option.some.inj r26) (by decide))]
  have hK_0_160 : ∀ j : Int, 0 ≤ j → j < 2010 → 0 ≤ w_ei ws (w_ar ws (n_v vs 0) 160) j ∧ w_ei ws (w_ar ws (n_v vs 0) 160) j ≤ 4 := fun j h0 h1 => th_el hD hth cr_0_160 (kd := 0) (n := 2010) (m := 2010) (lo := 0) (hi := 4) (rs := []) (L := []) rfl (by decide) (j := j.toNat) (by omega)
  have kz_0_157 : 0 ≤ w_fi ws (n_v vs 0) 157 ∧ w_fi ws (n_v vs 0) 157 ≤ 2010 := tv_rng (th_fd hD hth r0 (g := GG_150) rfl (k := 157) (t := (0, 0, 2010, [])) rfl rfl)
  have kz_0_158 : 0 ≤ w_fi ws (n_v vs 0) 158 ∧ w_fi ws (n_v vs 0) 158 ≤ 2009 := tv_rng (th_fd hD hth r0 (g := GG_150) rfl (k := 158) (t := (0, 0, 2009, [])) rfl rfl)
  have kz_0_159 : 0 ≤ w_fi ws (n_v vs 0) 159 ∧ w_fi ws (n_v vs 0) 159 ≤ 13 := tv_rng (th_fd hD hth r0 (g := GG_150) rfl (k := 159) (t := (0, 0, 13, [])) rfl rfl)
  obtain ⟨x, ex, hx⟩ := iv_ex (ta := ta) (lo := 0) (hi := 2010) (z := 0 + (1 * v_iv (n_v vs 6) + 0)) (by omega) (by omega) (by omega) (by omega)
  have ex2 : v_iv (Value.int x) = 0 + (1 * v_iv (n_v vs 6) + 0) := ex
  have ex3 : 0 ≤ v_iv (Value.int x) ∧ v_iv (Value.int x) ≤ 2010 := tv_rng hx
  have e_0 : n_v (vs ++ [Value.int x]) 0 = n_v vs 0 := n_v_old (by rw [hl]; decide)
  have e_1 : n_v (vs ++ [Value.int x]) 1 = n_v vs 1 := n_v_old (by rw [hl]; decide)
  have e_2 : n_v (vs ++ [Value.int x]) 2 = n_v vs 2 := n_v_old (by rw [hl]; decide)
  have e_40 : n_v (vs ++ [Value.int x]) 40 = Value.int x := n_v_new hl
  have nf0 : fc_1 (20, [2], [50, 2, 1, 158, 157, 160, 2, 12, 0, 7, 4, 3, 2, 0, 158, 0, 1, 2, 0, 157, 2, 7, 0, 3, 2, 0, 157, 0, 2010, 3, 14, 1, 10, 3, 0, 160, 5, 3, 2, 0, 157, 0, 1, 0, 0, 1, 10, 3, 0, 160, 5, 3, 2, 0, 157, 0, 1, 0, 4]) ws (vs ++ [Value.int x]) := by
    refine ⟨fun n hn => ?_, ?_⟩
    · have hn : n ∈ [2] := hn
      rw [List.length_append, hl]
      simp only [List.mem_cons, List.not_mem_nil, or_false] at hn
      show n < 40 + 1; omega
    · show ((w_fi ws (n_v (vs ++ [Value.int x]) 2) 158 + 1) ≤ w_fi ws (n_v (vs ++ [Value.int x]) 2) 157) ∧ ((w_fi ws (n_v (vs ++ [Value.int x]) 2) 157 ≤ 2010) ∧ ((w_ei ws (w_ar ws (n_v (vs ++ [Value.int x]) 2) 160) ((w_fi ws (n_v (vs ++ [Value.int x]) 2) 157 - 1)) = 0) ∨ (w_ei ws (w_ar ws (n_v (vs ++ [Value.int x]) 2) 160) ((w_fi ws (n_v (vs ++ [Value.int x]) 2) 157 - 1)) = 4)))
      rw [e_2]
      rw [q2]
      first | omega | grind
  have nf1 : fc_1 (20, [1, 2], [30, 0, 1, 0, 0, -1, 1, 158]) ws (vs ++ [Value.int x]) := by
    refine ⟨fun n hn => ?_, ?_⟩
    · have hn : n ∈ [1, 2] := hn
      rw [List.length_append, hl]
      simp only [List.mem_cons, List.not_mem_nil, or_false] at hn
      show n < 40 + 1; omega
    · show 1 * v_iv (n_v (vs ++ [Value.int x]) 1) + ((-1) * w_fi ws (n_v (vs ++ [Value.int x]) 2) 158 + 0) ≤ 0
      rw [e_1]
      rw [e_2]
      rw [q2]
      omega
  have nf2 : fc_1 (20, [2], [30, 0, 1, 1, 159]) ws (vs ++ [Value.int x]) := by
    refine ⟨fun n hn => ?_, ?_⟩
    · have hn : n ∈ [2] := hn
      rw [List.length_append, hl]
      simp only [List.mem_cons, List.not_mem_nil, or_false] at hn
      show n < 40 + 1; omega
    · show 1 * w_fi ws (n_v (vs ++ [Value.int x]) 2) 159 + 0 ≤ 0
      rw [e_2]
      rw [q2]
      omega
  have nf3 : fc_1 (20, [2], [30, 0, -1, 1, 159]) ws (vs ++ [Value.int x]) := by
    refine ⟨fun n hn => ?_, ?_⟩
    · have hn : n ∈ [2] := hn
      rw [List.length_append, hl]
      simp only [List.mem_cons, List.not_mem_nil, or_false] at hn
      show n < 40 + 1; omega
    · show (-1) * w_fi ws (n_v (vs ++ [Value.int x]) 2) 159 + 0 ≤ 0
      rw [e_2]
      rw [q2]
      omega
  have nf4 : fc_1 (20, [40, 2], [30, -2011, -1, 0, 0, -1, 1, 158]) ws (vs ++ [Value.int x]) := by
    refine ⟨fun n hn => ?_, ?_⟩
    · have hn : n ∈ [40, 2] := hn
      rw [List.length_append, hl]
      simp only [List.mem_cons, List.not_mem_nil, or_false] at hn
      show n < 40 + 1; omega
    · show (-1) * v_iv (n_v (vs ++ [Value.int x]) 40) + ((-1) * w_fi ws (n_v (vs ++ [Value.int x]) 2) 158 + 0) ≤ (-2011)
      rw [e_2]
      rw [e_40]
      rw [q2]
      omega
  have nf5 : fc_1 (24, [0, 2], []) ws (vs ++ [Value.int x]) := by
    refine ⟨fun n hn => ?_, ?_⟩
    · have hn : n ∈ [0, 2] := hn
      rw [List.length_append, hl]
      simp only [List.mem_cons, List.not_mem_nil, or_false] at hn
      show n < 40 + 1; omega
    · show n_v (vs ++ [Value.int x]) 0 = n_v (vs ++ [Value.int x]) 2
      first | rfl | simp only [e_0, e_2, q2]
  obtain ⟨x0, e0, _, _⟩ := tv_int t6 rfl
  have e1 : v_iv (n_v vs 6) = x0.toInt := by rw [e0]; rfl
  have ho : sy_ofs (vs ++ [Value.int x]) (40, 6, 0, 0) := by
    refine ⟨x, x0, by rw [List.getElem?_append_right (by rw [hl]; decide), hl]; rfl, ?_, ?_, ?_⟩
    · rw [List.getElem?_append_left (by rw [hl]; decide)]; exact n_v_some (by rw [hl]; decide) e0
    · show x0.toInt + 0 ≤ x.toInt; omega
    · show x.toInt ≤ x0.toInt + 0; omega
  exact ⟨fun q hq => (by cases hq), [Value.int x], ag_one hx, List.forall_mem_cons.mpr ⟨⟨show (20 : Nat) < 100 from by decide, nf0⟩, List.forall_mem_cons.mpr ⟨⟨show (20 : Nat) < 100 from by decide, nf1⟩, List.forall_mem_cons.mpr ⟨⟨show (20 : Nat) < 100 from by decide, nf2⟩, List.forall_mem_cons.mpr ⟨⟨show (20 : Nat) < 100 from by decide, nf3⟩, List.forall_mem_cons.mpr ⟨⟨show (20 : Nat) < 100 from by decide, nf4⟩, List.forall_mem_cons.mpr ⟨⟨show (24 : Nat) < 100 from by decide, nf5⟩, (fun _ h => (by cases h))⟩⟩⟩⟩⟩⟩, List.forall_mem_cons.mpr ⟨ho, (fun _ h => (by cases h))⟩⟩
def o_Mo_rule_at_f0_23 : or_T := (175, 18, [(0, (2, 0, 0, [150])), (1, (0, 0, 2009, [])), (2, (2, 0, 0, [150])), (6, (0, 0, 2010, [])), (8, (0, 0, 0, [])), (10, (0, 0, 0, [])), (12, (0, 0, 0, [])), (17, (0, 1, 5, []))], [(8, [17], [4]), (9, [17, 2], [8]), (20, [2], [50, 2, 1, 158, 157, 160, 2, 12, 0, 7, 4, 3, 2, 0, 158, 0, 1, 2, 0, 157, 2, 7, 0, 3, 2, 0, 157, 0, 2010, 3, 14, 1, 10, 3, 0, 160, 5, 3, 2, 0, 157, 0, 1, 0, 0, 1, 10, 3, 0, 160, 5, 3, 2, 0, 157, 0, 1, 0, 4]), (20, [1, 2], [30, 0, 1, 0, 0, -1, 1, 158]), (20, [2], [30, 0, 1, 1, 159]), (20, [2], [30, 0, -1, 1, 159]), (24, [0, 2], []), (20, [6, 2], [30, 2010, 1, 0, 0, 1, 1, 158]), (20, [6, 2], [30, -2010, -1, 0, 0, -1, 1, 158]), (20, [8, 2], [50, 1, 1, 1158, 1160, 4, 6, 1, 2, 1, 0, 0, 1, 1, 6, 3, 1, 160, 2, 1, 158, 0, 1]), (20, [10, 2], [50, 1, 1, 1158, 1160, 4, 6, 1, 2, 1, 0, 0, 1, 1, 6, 3, 1, 160, 2, 1, 158, 0, 1]), (20, [12, 2], [50, 1, 1, 1158, 1160, 4, 6, 1, 2, 1, 0, 0, 1, 1, 6, 3, 1, 160, 2, 1, 158, 0, 1]), (20, [2], [30, -1, -1, 1, 8]), (102, [16], [0, 13008, 13009]), (8, [12], [0]), (102, [11], [0]), (8, [10], [0]), (102, [9], [0]), (8, [8], [0])], [], [], [(20, [0], [50, 2, 1, 158, 157, 160, 2, 12, 0, 7, 4, 3, 2, 0, 158, 0, 1, 2, 0, 157, 2, 7, 0, 3, 2, 0, 157, 0, 2010, 3, 14, 1, 10, 3, 0, 160, 5, 3, 2, 0, 157, 0, 1, 0, 0, 1, 10, 3, 0, 160, 5, 3, 2, 0, 157, 0, 1, 0, 4]), (20, [1, 0], [30, 0, 1, 0, 0, -1, 1, 158]), (20, [0], [30, 0, 1, 1, 159]), (20, [0], [30, 0, -1, 1, 159]), (20, [0, 1, 0], [31, 1, -1, -1, 1, 8, -1, 1, 0, 0, -1, 1, 158])], [], [])
theorem oo_Mo_rule_at_f0_23 {kA : Nat → ClassId} : or_ok kA GG o_Mo_rule_at_f0_23 := by
  intro A ta ws vs hD hth hl hk hds hf
  have hl : vs.length = 18 := hl
  have hk : ∀ q ∈ ([(0, (2, 0, 0, [150])), (1, (0, 0, 2009, [])), (2, (2, 0, 0, [150])), (6, (0, 0, 2010, [])), (8, (0, 0, 0, [])), (10, (0, 0, 0, [])), (12, (0, 0, 0, [])), (17, (0, 1, 5, []))] : List (Nat × tv_T)), tv_ok ta q.2 (n_v vs q.1) := hk
  obtain ⟨t0, hk⟩ := List.forall_mem_cons.mp hk
  have t0 : tv_ok ta (2, 0, 0, [150]) (n_v vs 0) := t0
  have r0 : ta (v_ad (n_v vs 0)) = some 150 := tv_rg t0
  obtain ⟨t1, hk⟩ := List.forall_mem_cons.mp hk
  have t1 : tv_ok ta (0, 0, 2009, []) (n_v vs 1) := t1
  have k1 : 0 ≤ v_iv (n_v vs 1) ∧ v_iv (n_v vs 1) ≤ 2009 := tv_rng t1
  obtain ⟨t2, hk⟩ := List.forall_mem_cons.mp hk
  have t2 : tv_ok ta (2, 0, 0, [150]) (n_v vs 2) := t2
  have r2 : ta (v_ad (n_v vs 2)) = some 150 := tv_rg t2
  obtain ⟨t6, hk⟩ := List.forall_mem_cons.mp hk
  have t6 : tv_ok ta (0, 0, 2010, []) (n_v vs 6) := t6
  have k6 : 0 ≤ v_iv (n_v vs 6) ∧ v_iv (n_v vs 6) ≤ 2010 := tv_rng t6
  obtain ⟨t8, hk⟩ := List.forall_mem_cons.mp hk
  have t8 : tv_ok ta (0, 0, 0, []) (n_v vs 8) := t8
  have k8 : 0 ≤ v_iv (n_v vs 8) ∧ v_iv (n_v vs 8) ≤ 0 := tv_rng t8
  obtain ⟨t10, hk⟩ := List.forall_mem_cons.mp hk
  have t10 : tv_ok ta (0, 0, 0, []) (n_v vs 10) := t10
  have k10 : 0 ≤ v_iv (n_v vs 10) ∧ v_iv (n_v vs 10) ≤ 0 := tv_rng t10
  obtain ⟨t12, hk⟩ := List.forall_mem_cons.mp hk
  have t12 : tv_ok ta (0, 0, 0, []) (n_v vs 12) := t12
  have k12 : 0 ≤ v_iv (n_v vs 12) ∧ v_iv (n_v vs 12) ≤ 0 := tv_rng t12
  obtain ⟨t17, hk⟩ := List.forall_mem_cons.mp hk
  have t17 : tv_ok ta (0, 1, 5, []) (n_v vs 17) := t17
  have k17 : 1 ≤ v_iv (n_v vs 17) ∧ v_iv (n_v vs 17) ≤ 5 := tv_rng t17
  have hf : fc_ok [(8, [17], [4]), (9, [17, 2], [8]), (20, [2], [50, 2, 1, 158, 157, 160, 2, 12, 0, 7, 4, 3, 2, 0, 158, 0, 1, 2, 0, 157, 2, 7, 0, 3, 2, 0, 157, 0, 2010, 3, 14, 1, 10, 3, 0, 160, 5, 3, 2, 0, 157, 0, 1, 0, 0, 1, 10, 3, 0, 160, 5, 3, 2, 0, 157, 0, 1, 0, 4]), (20, [1, 2], [30, 0, 1, 0, 0, -1, 1, 158]), (20, [2], [30, 0, 1, 1, 159]), (20, [2], [30, 0, -1, 1, 159]), (24, [0, 2], []), (20, [6, 2], [30, 2010, 1, 0, 0, 1, 1, 158]), (20, [6, 2], [30, -2010, -1, 0, 0, -1, 1, 158]), (20, [8, 2], [50, 1, 1, 1158, 1160, 4, 6, 1, 2, 1, 0, 0, 1, 1, 6, 3, 1, 160, 2, 1, 158, 0, 1]), (20, [10, 2], [50, 1, 1, 1158, 1160, 4, 6, 1, 2, 1, 0, 0, 1, 1, 6, 3, 1, 160, 2, 1, 158, 0, 1]), (20, [12, 2], [50, 1, 1, 1158, 1160, 4, 6, 1, 2, 1, 0, 0, 1, 1, 6, 3, 1, 160, 2, 1, 158, 0, 1]), (20, [2], [30, -1, -1, 1, 8]), (102, [16], [0, 13008, 13009]), (8, [12], [0]), (102, [11], [0]), (8, [10], [0]), (102, [9], [0]), (8, [8], [0])] ta ws vs := hf
  obtain ⟨f0, hf⟩ := fc_un (show (8 : Nat) < 100 from by decide) hf
  have f0 : 0 < v_iv (n_v vs 17) := f0
  obtain ⟨f1, hf⟩ := fc_un (show (9 : Nat) < 100 from by decide) hf
  have f1 : n_v vs 17 = w_fd ws (v_ad (n_v vs 2)) 8 := f1
  obtain ⟨f2, hf⟩ := fc_un (show (20 : Nat) < 100 from by decide) hf
  have f2 : ((w_fi ws (n_v vs 2) 158 + 1) ≤ w_fi ws (n_v vs 2) 157) ∧ ((w_fi ws (n_v vs 2) 157 ≤ 2010) ∧ ((w_ei ws (w_ar ws (n_v vs 2) 160) ((w_fi ws (n_v vs 2) 157 - 1)) = 0) ∨ (w_ei ws (w_ar ws (n_v vs 2) 160) ((w_fi ws (n_v vs 2) 157 - 1)) = 4))) := f2
  obtain ⟨f3, hf⟩ := fc_un (show (20 : Nat) < 100 from by decide) hf
  have f3 : 1 * v_iv (n_v vs 1) + ((-1) * w_fi ws (n_v vs 2) 158 + 0) ≤ 0 := f3
  obtain ⟨f4, hf⟩ := fc_un (show (20 : Nat) < 100 from by decide) hf
  have f4 : 1 * w_fi ws (n_v vs 2) 159 + 0 ≤ 0 := f4
  obtain ⟨f5, hf⟩ := fc_un (show (20 : Nat) < 100 from by decide) hf
  have f5 : (-1) * w_fi ws (n_v vs 2) 159 + 0 ≤ 0 := f5
  obtain ⟨f6, hf⟩ := fc_un (show (24 : Nat) < 100 from by decide) hf
  have f6 : n_v vs 0 = n_v vs 2 := f6
  obtain ⟨f7, hf⟩ := fc_un (show (20 : Nat) < 100 from by decide) hf
  have f7 : 1 * v_iv (n_v vs 6) + (1 * w_fi ws (n_v vs 2) 158 + 0) ≤ 2010 := f7
  obtain ⟨f8, hf⟩ := fc_un (show (20 : Nat) < 100 from by decide) hf
  have f8 : (-1) * v_iv (n_v vs 6) + ((-1) * w_fi ws (n_v vs 2) 158 + 0) ≤ (-2010) := f8
  obtain ⟨f9, hf⟩ := fc_un (show (20 : Nat) < 100 from by decide) hf
  have f9 : (v_iv (n_v vs 8) = 1) → (w_ei ws (w_ar ws (n_v vs 2) 160) (w_fi ws (n_v vs 2) 158) = 1) := f9
  obtain ⟨f10, hf⟩ := fc_un (show (20 : Nat) < 100 from by decide) hf
  have f10 : (v_iv (n_v vs 10) = 1) → (w_ei ws (w_ar ws (n_v vs 2) 160) (w_fi ws (n_v vs 2) 158) = 1) := f10
  obtain ⟨f11, hf⟩ := fc_un (show (20 : Nat) < 100 from by decide) hf
  have f11 : (v_iv (n_v vs 12) = 1) → (w_ei ws (w_ar ws (n_v vs 2) 160) (w_fi ws (n_v vs 2) 158) = 1) := f11
  obtain ⟨f12, hf⟩ := fc_un (show (20 : Nat) < 100 from by decide) hf
  have f12 : (-1) * w_fi ws (n_v vs 2) 8 + 0 ≤ (-1) := f12
  obtain ⟨ta1, w1, le1, ⟨_, s1⟩, hf⟩ := fc_us (show ¬ (102 : Nat) < 100 from by decide) hf
  obtain ⟨f14, hf⟩ := fc_un (show (8 : Nat) < 100 from by decide) hf
  have f14 : v_iv (n_v vs 12) = 0 := f14
  obtain ⟨ta2, w2, le2, ⟨_, s2⟩, hf⟩ := fc_us (show ¬ (102 : Nat) < 100 from by decide) hf
  obtain ⟨f16, hf⟩ := fc_un (show (8 : Nat) < 100 from by decide) hf
  have f16 : v_iv (n_v vs 10) = 0 := f16
  obtain ⟨ta3, w3, le3, ⟨_, s3⟩, hf⟩ := fc_us (show ¬ (102 : Nat) < 100 from by decide) hf
  obtain ⟨f18, hf⟩ := fc_un (show (8 : Nat) < 100 from by decide) hf
  have f18 : v_iv (n_v vs 8) = 0 := f18
  have q2 : n_v vs 2 = n_v vs 0 := f6.symm
  rw [q2] at f1
  rw [q2] at f2
  rw [q2] at f3
  rw [q2] at f4
  rw [q2] at f5
  rw [q2] at f7
  rw [q2] at f8
  rw [q2] at f9
  rw [q2] at f10
  rw [q2] at f11
  rw [q2] at f12
  have cr_0_160 : ta (w_ar ws (n_v vs 0) 160) = some 259 := tv_rg (th_fd hD hth r0 (g := GG_150) rfl (k := 160) (t := (2, 0, 0, [259])) rfl rfl)
  have g1 : v_iv (n_v vs 17) = w_fi ws (n_v vs 0) 8 := congrArg v_iv f1
  have hK_0_160 : ∀ j : Int, 0 ≤ j → j < 2010 → 0 ≤ w_ei ws (w_ar ws (n_v vs 0) 160) j ∧ w_ei ws (w_ar ws (n_v vs 0) 160) j ≤ 4 := fun j h0 h1 => th_el hD hth cr_0_160 (kd := 0) (n := 2010) (m := 2010) (lo := 0) (hi := 4) (rs := []) (L := []) rfl (by decide) (j := j.toNat) (by omega)
  have kz_0_8 : 0 ≤ w_fi ws (n_v vs 0) 8 ∧ w_fi ws (n_v vs 0) 8 ≤ 5 := tv_rng (th_fd hD hth r0 (g := GG_150) rfl (k := 8) (t := (0, 0, 5, [])) rfl rfl)
  have kz_0_157 : 0 ≤ w_fi ws (n_v vs 0) 157 ∧ w_fi ws (n_v vs 0) 157 ≤ 2010 := tv_rng (th_fd hD hth r0 (g := GG_150) rfl (k := 157) (t := (0, 0, 2010, [])) rfl rfl)
  have kz_0_158 : 0 ≤ w_fi ws (n_v vs 0) 158 ∧ w_fi ws (n_v vs 0) 158 ≤ 2009 := tv_rng (th_fd hD hth r0 (g := GG_150) rfl (k := 158) (t := (0, 0, 2009, [])) rfl rfl)
  have kz_0_159 : 0 ≤ w_fi ws (n_v vs 0) 159 ∧ w_fi ws (n_v vs 0) 159 ≤ 13 := tv_rng (th_fd hD hth r0 (g := GG_150) rfl (k := 159) (t := (0, 0, 13, [])) rfl rfl)
  have nf0 : fc_1 (20, [0], [50, 2, 1, 158, 157, 160, 2, 12, 0, 7, 4, 3, 2, 0, 158, 0, 1, 2, 0, 157, 2, 7, 0, 3, 2, 0, 157, 0, 2010, 3, 14, 1, 10, 3, 0, 160, 5, 3, 2, 0, 157, 0, 1, 0, 0, 1, 10, 3, 0, 160, 5, 3, 2, 0, 157, 0, 1, 0, 4]) ws (vs) := by
    refine ⟨fun n hn => ?_, ?_⟩
    · have hn : n ∈ [0] := hn
      rw [hl]
      simp only [List.mem_cons, List.not_mem_nil, or_false] at hn
      show n < 18; omega
    · show ((w_fi ws (n_v vs 0) 158 + 1) ≤ w_fi ws (n_v vs 0) 157) ∧ ((w_fi ws (n_v vs 0) 157 ≤ 2010) ∧ ((w_ei ws (w_ar ws (n_v vs 0) 160) ((w_fi ws (n_v vs 0) 157 - 1)) = 0) ∨ (w_ei ws (w_ar ws (n_v vs 0) 160) ((w_fi ws (n_v vs 0) 157 - 1)) = 4)))
      first | omega | grind
  have nf1 : fc_1 (20, [1, 0], [30, 0, 1, 0, 0, -1, 1, 158]) ws (vs) := by
    refine ⟨fun n hn => ?_, ?_⟩
    · have hn : n ∈ [1, 0] := hn
      rw [hl]
      simp only [List.mem_cons, List.not_mem_nil, or_false] at hn
      show n < 18; omega
    · show 1 * v_iv (n_v vs 1) + ((-1) * w_fi ws (n_v vs 0) 158 + 0) ≤ 0
      omega
  have nf2 : fc_1 (20, [0], [30, 0, 1, 1, 159]) ws (vs) := by
    refine ⟨fun n hn => ?_, ?_⟩
    · have hn : n ∈ [0] := hn
      rw [hl]
      simp only [List.mem_cons, List.not_mem_nil, or_false] at hn
      show n < 18; omega
    · show 1 * w_fi ws (n_v vs 0) 159 + 0 ≤ 0
      omega
  have nf3 : fc_1 (20, [0], [30, 0, -1, 1, 159]) ws (vs) := by
    refine ⟨fun n hn => ?_, ?_⟩
    · have hn : n ∈ [0] := hn
      rw [hl]
      simp only [List.mem_cons, List.not_mem_nil, or_false] at hn
      show n < 18; omega
    · show (-1) * w_fi ws (n_v vs 0) 159 + 0 ≤ 0
      omega
  have nf4 : fc_1 (20, [0, 1, 0], [31, 1, -1, -1, 1, 8, -1, 1, 0, 0, -1, 1, 158]) ws (vs) := by
    refine ⟨fun n hn => ?_, ?_⟩
    · have hn : n ∈ [0, 1, 0] := hn
      rw [hl]
      simp only [List.mem_cons, List.not_mem_nil, or_false] at hn
      show n < 18; omega
    · show ((-1) * w_fi ws (n_v vs 0) 8 + 0 ≤ (-1)) ∨ (1 * v_iv (n_v vs 1) + ((-1) * w_fi ws (n_v vs 0) 158 + 0) ≤ (-1))
      omega
  refine ⟨(fun _ h => (by cases h)), [], trivial, ?_, (fun _ h => (by cases h))⟩
  rw [List.append_nil]
  exact List.forall_mem_cons.mpr ⟨⟨show (20 : Nat) < 100 from by decide, nf0⟩, List.forall_mem_cons.mpr ⟨⟨show (20 : Nat) < 100 from by decide, nf1⟩, List.forall_mem_cons.mpr ⟨⟨show (20 : Nat) < 100 from by decide, nf2⟩, List.forall_mem_cons.mpr ⟨⟨show (20 : Nat) < 100 from by decide, nf3⟩, List.forall_mem_cons.mpr ⟨⟨show (20 : Nat) < 100 from by decide, nf4⟩, (fun _ h => (by cases h))⟩⟩⟩⟩⟩
def o_Mo_rule_at_f0_24 : or_T := (176, 15, [(0, (2, 0, 0, [150])), (1, (0, 0, 2009, [])), (2, (2, 0, 0, [150])), (6, (0, 0, 2010, [])), (8, (0, 0, 0, [])), (10, (0, 0, 0, [])), (12, (0, 1, 1, [])), (13, (0, 2, 2, []))], [(8, [13], [3]), (8, [12], [1]), (20, [2], [50, 2, 1, 158, 157, 160, 2, 12, 0, 7, 4, 3, 2, 0, 158, 0, 1, 2, 0, 157, 2, 7, 0, 3, 2, 0, 157, 0, 2010, 3, 14, 1, 10, 3, 0, 160, 5, 3, 2, 0, 157, 0, 1, 0, 0, 1, 10, 3, 0, 160, 5, 3, 2, 0, 157, 0, 1, 0, 4]), (20, [1, 2], [30, 0, 1, 0, 0, -1, 1, 158]), (20, [2], [30, 0, 1, 1, 159]), (20, [2], [30, 0, -1, 1, 159]), (24, [0, 2], []), (20, [6, 2], [30, 2010, 1, 0, 0, 1, 1, 158]), (20, [6, 2], [30, -2010, -1, 0, 0, -1, 1, 158]), (20, [8, 2], [50, 1, 1, 1158, 1160, 4, 6, 1, 2, 1, 0, 0, 1, 1, 6, 3, 1, 160, 2, 1, 158, 0, 1]), (20, [10, 2], [50, 1, 1, 1158, 1160, 4, 6, 1, 2, 1, 0, 0, 1, 1, 6, 3, 1, 160, 2, 1, 158, 0, 1]), (20, [12, 2], [50, 1, 1, 1158, 1160, 4, 6, 1, 2, 1, 0, 0, 1, 1, 6, 3, 1, 160, 2, 1, 158, 0, 1]), (102, [11], [0]), (8, [10], [0]), (102, [9], [0]), (8, [8], [0])], [], [], [(23, [13], [0, -1])], [], [])
theorem oo_Mo_rule_at_f0_24 {kA : Nat → ClassId} : or_ok kA GG o_Mo_rule_at_f0_24 := by
  intro A ta ws vs hD hth hl hk hds hf
  have hl : vs.length = 15 := hl
  have hk : ∀ q ∈ ([(0, (2, 0, 0, [150])), (1, (0, 0, 2009, [])), (2, (2, 0, 0, [150])), (6, (0, 0, 2010, [])), (8, (0, 0, 0, [])), (10, (0, 0, 0, [])), (12, (0, 1, 1, [])), (13, (0, 2, 2, []))] : List (Nat × tv_T)), tv_ok ta q.2 (n_v vs q.1) := hk
  obtain ⟨t0, hk⟩ := List.forall_mem_cons.mp hk
  have t0 : tv_ok ta (2, 0, 0, [150]) (n_v vs 0) := t0
  have r0 : ta (v_ad (n_v vs 0)) = some 150 := tv_rg t0
  obtain ⟨t1, hk⟩ := List.forall_mem_cons.mp hk
  have t1 : tv_ok ta (0, 0, 2009, []) (n_v vs 1) := t1
  have k1 : 0 ≤ v_iv (n_v vs 1) ∧ v_iv (n_v vs 1) ≤ 2009 := tv_rng t1
  obtain ⟨t2, hk⟩ := List.forall_mem_cons.mp hk
  have t2 : tv_ok ta (2, 0, 0, [150]) (n_v vs 2) := t2
  have r2 : ta (v_ad (n_v vs 2)) = some 150 := tv_rg t2
  obtain ⟨t6, hk⟩ := List.forall_mem_cons.mp hk
  have t6 : tv_ok ta (0, 0, 2010, []) (n_v vs 6) := t6
  have k6 : 0 ≤ v_iv (n_v vs 6) ∧ v_iv (n_v vs 6) ≤ 2010 := tv_rng t6
  obtain ⟨t8, hk⟩ := List.forall_mem_cons.mp hk
  have t8 : tv_ok ta (0, 0, 0, []) (n_v vs 8) := t8
  have k8 : 0 ≤ v_iv (n_v vs 8) ∧ v_iv (n_v vs 8) ≤ 0 := tv_rng t8
  obtain ⟨t10, hk⟩ := List.forall_mem_cons.mp hk
  have t10 : tv_ok ta (0, 0, 0, []) (n_v vs 10) := t10
  have k10 : 0 ≤ v_iv (n_v vs 10) ∧ v_iv (n_v vs 10) ≤ 0 := tv_rng t10
  obtain ⟨t12, hk⟩ := List.forall_mem_cons.mp hk
  have t12 : tv_ok ta (0, 1, 1, []) (n_v vs 12) := t12
  have k12 : 1 ≤ v_iv (n_v vs 12) ∧ v_iv (n_v vs 12) ≤ 1 := tv_rng t12
  obtain ⟨t13, hk⟩ := List.forall_mem_cons.mp hk
  have t13 : tv_ok ta (0, 2, 2, []) (n_v vs 13) := t13
  have k13 : 2 ≤ v_iv (n_v vs 13) ∧ v_iv (n_v vs 13) ≤ 2 := tv_rng t13
  have hf : fc_ok [(8, [13], [3]), (8, [12], [1]), (20, [2], [50, 2, 1, 158, 157, 160, 2, 12, 0, 7, 4, 3, 2, 0, 158, 0, 1, 2, 0, 157, 2, 7, 0, 3, 2, 0, 157, 0, 2010, 3, 14, 1, 10, 3, 0, 160, 5, 3, 2, 0, 157, 0, 1, 0, 0, 1, 10, 3, 0, 160, 5, 3, 2, 0, 157, 0, 1, 0, 4]), (20, [1, 2], [30, 0, 1, 0, 0, -1, 1, 158]), (20, [2], [30, 0, 1, 1, 159]), (20, [2], [30, 0, -1, 1, 159]), (24, [0, 2], []), (20, [6, 2], [30, 2010, 1, 0, 0, 1, 1, 158]), (20, [6, 2], [30, -2010, -1, 0, 0, -1, 1, 158]), (20, [8, 2], [50, 1, 1, 1158, 1160, 4, 6, 1, 2, 1, 0, 0, 1, 1, 6, 3, 1, 160, 2, 1, 158, 0, 1]), (20, [10, 2], [50, 1, 1, 1158, 1160, 4, 6, 1, 2, 1, 0, 0, 1, 1, 6, 3, 1, 160, 2, 1, 158, 0, 1]), (20, [12, 2], [50, 1, 1, 1158, 1160, 4, 6, 1, 2, 1, 0, 0, 1, 1, 6, 3, 1, 160, 2, 1, 158, 0, 1]), (102, [11], [0]), (8, [10], [0]), (102, [9], [0]), (8, [8], [0])] ta ws vs := hf
  obtain ⟨f0, hf⟩ := fc_un (show (8 : Nat) < 100 from by decide) hf
  have f0 : 0 ≤ v_iv (n_v vs 13) := f0
  obtain ⟨f1, hf⟩ := fc_un (show (8 : Nat) < 100 from by decide) hf
  have f1 : v_iv (n_v vs 12) ≠ 0 := f1
  obtain ⟨f2, hf⟩ := fc_un (show (20 : Nat) < 100 from by decide) hf
  have f2 : ((w_fi ws (n_v vs 2) 158 + 1) ≤ w_fi ws (n_v vs 2) 157) ∧ ((w_fi ws (n_v vs 2) 157 ≤ 2010) ∧ ((w_ei ws (w_ar ws (n_v vs 2) 160) ((w_fi ws (n_v vs 2) 157 - 1)) = 0) ∨ (w_ei ws (w_ar ws (n_v vs 2) 160) ((w_fi ws (n_v vs 2) 157 - 1)) = 4))) := f2
  obtain ⟨f3, hf⟩ := fc_un (show (20 : Nat) < 100 from by decide) hf
  have f3 : 1 * v_iv (n_v vs 1) + ((-1) * w_fi ws (n_v vs 2) 158 + 0) ≤ 0 := f3
  obtain ⟨f4, hf⟩ := fc_un (show (20 : Nat) < 100 from by decide) hf
  have f4 : 1 * w_fi ws (n_v vs 2) 159 + 0 ≤ 0 := f4
  obtain ⟨f5, hf⟩ := fc_un (show (20 : Nat) < 100 from by decide) hf
  have f5 : (-1) * w_fi ws (n_v vs 2) 159 + 0 ≤ 0 := f5
  obtain ⟨f6, hf⟩ := fc_un (show (24 : Nat) < 100 from by decide) hf
  have f6 : n_v vs 0 = n_v vs 2 := f6
  obtain ⟨f7, hf⟩ := fc_un (show (20 : Nat) < 100 from by decide) hf
  have f7 : 1 * v_iv (n_v vs 6) + (1 * w_fi ws (n_v vs 2) 158 + 0) ≤ 2010 := f7
  obtain ⟨f8, hf⟩ := fc_un (show (20 : Nat) < 100 from by decide) hf
  have f8 : (-1) * v_iv (n_v vs 6) + ((-1) * w_fi ws (n_v vs 2) 158 + 0) ≤ (-2010) := f8
  obtain ⟨f9, hf⟩ := fc_un (show (20 : Nat) < 100 from by decide) hf
  have f9 : (v_iv (n_v vs 8) = 1) → (w_ei ws (w_ar ws (n_v vs 2) 160) (w_fi ws (n_v vs 2) 158) = 1) := f9
  obtain ⟨f10, hf⟩ := fc_un (show (20 : Nat) < 100 from by decide) hf
  have f10 : (v_iv (n_v vs 10) = 1) → (w_ei ws (w_ar ws (n_v vs 2) 160) (w_fi ws (n_v vs 2) 158) = 1) := f10
  obtain ⟨f11, hf⟩ := fc_un (show (20 : Nat) < 100 from by decide) hf
  have f11 : (v_iv (n_v vs 12) = 1) → (w_ei ws (w_ar ws (n_v vs 2) 160) (w_fi ws (n_v vs 2) 158) = 1) := f11
  obtain ⟨ta1, w1, le1, ⟨_, s1⟩, hf⟩ := fc_us (show ¬ (102 : Nat) < 100 from by decide) hf
  obtain ⟨f13, hf⟩ := fc_un (show (8 : Nat) < 100 from by decide) hf
  have f13 : v_iv (n_v vs 10) = 0 := f13
  obtain ⟨ta2, w2, le2, ⟨_, s2⟩, hf⟩ := fc_us (show ¬ (102 : Nat) < 100 from by decide) hf
  obtain ⟨f15, hf⟩ := fc_un (show (8 : Nat) < 100 from by decide) hf
  have f15 : v_iv (n_v vs 8) = 0 := f15
  have q2 : n_v vs 2 = n_v vs 0 := f6.symm
  rw [q2] at f2
  rw [q2] at f3
  rw [q2] at f4
  rw [q2] at f5
  rw [q2] at f7
  rw [q2] at f8
  rw [q2] at f9
  rw [q2] at f10
  rw [q2] at f11
  have cr_0_160 : ta (w_ar ws (n_v vs 0) 160) = some 259 := tv_rg (th_fd hD hth r0 (g := GG_150) rfl (k := 160) (t := (2, 0, 0, [259])) rfl rfl)
  have hK_0_160 : ∀ j : Int, 0 ≤ j → j < 2010 → 0 ≤ w_ei ws (w_ar ws (n_v vs 0) 160) j ∧ w_ei ws (w_ar ws (n_v vs 0) 160) j ≤ 4 := fun j h0 h1 => th_el hD hth cr_0_160 (kd := 0) (n := 2010) (m := 2010) (lo := 0) (hi := 4) (rs := []) (L := []) rfl (by decide) (j := j.toNat) (by omega)
  have kz_0_157 : 0 ≤ w_fi ws (n_v vs 0) 157 ∧ w_fi ws (n_v vs 0) 157 ≤ 2010 := tv_rng (th_fd hD hth r0 (g := GG_150) rfl (k := 157) (t := (0, 0, 2010, [])) rfl rfl)
  have kz_0_158 : 0 ≤ w_fi ws (n_v vs 0) 158 ∧ w_fi ws (n_v vs 0) 158 ≤ 2009 := tv_rng (th_fd hD hth r0 (g := GG_150) rfl (k := 158) (t := (0, 0, 2009, [])) rfl rfl)
  have kz_0_159 : 0 ≤ w_fi ws (n_v vs 0) 159 ∧ w_fi ws (n_v vs 0) 159 ≤ 13 := tv_rng (th_fd hD hth r0 (g := GG_150) rfl (k := 159) (t := (0, 0, 13, [])) rfl rfl)
  have nf0 : fc_1 (23, [13], [0, -1]) ws (vs) := by
    refine ⟨fun n hn => ?_, ?_⟩
    · have hn : n ∈ [13] := hn
      rw [hl]
      simp only [List.mem_cons, List.not_mem_nil, or_false] at hn
      show n < 15; omega
    · show (-1) * v_iv (n_v vs 13) + 0 ≤ 0
      omega
  refine ⟨(fun _ h => (by cases h)), [], trivial, ?_, (fun _ h => (by cases h))⟩
  rw [List.append_nil]
  exact List.forall_mem_cons.mpr ⟨⟨show (23 : Nat) < 100 from by decide, nf0⟩, (fun _ h => (by cases h))⟩
def o_Mo_rule_at_f0_25 : or_T := (183, 17, [(0, (2, 0, 0, [150])), (1, (0, 0, 2009, [])), (2, (2, 0, 0, [150])), (5, (0, 0, 2009, [])), (6, (0, 0, 2010, [])), (8, (0, 0, 0, [])), (10, (0, 0, 0, [])), (12, (0, 1, 1, [])), (15, (0, 1, 1, [])), (16, (0, 1, 2010, []))], [(1, [16, 5, 15], []), (9, [5, 2], [158]), (8, [12], [1]), (20, [2], [50, 2, 1, 158, 157, 160, 2, 12, 0, 7, 4, 3, 2, 0, 158, 0, 1, 2, 0, 157, 2, 7, 0, 3, 2, 0, 157, 0, 2010, 3, 14, 1, 10, 3, 0, 160, 5, 3, 2, 0, 157, 0, 1, 0, 0, 1, 10, 3, 0, 160, 5, 3, 2, 0, 157, 0, 1, 0, 4]), (20, [1, 2], [30, 0, 1, 0, 0, -1, 1, 158]), (20, [2], [30, 0, 1, 1, 159]), (20, [2], [30, 0, -1, 1, 159]), (24, [0, 2], []), (20, [6, 2], [30, 2010, 1, 0, 0, 1, 1, 158]), (20, [6, 2], [30, -2010, -1, 0, 0, -1, 1, 158]), (20, [8, 2], [50, 1, 1, 1158, 1160, 4, 6, 1, 2, 1, 0, 0, 1, 1, 6, 3, 1, 160, 2, 1, 158, 0, 1]), (20, [10, 2], [50, 1, 1, 1158, 1160, 4, 6, 1, 2, 1, 0, 0, 1, 1, 6, 3, 1, 160, 2, 1, 158, 0, 1]), (20, [12, 2], [50, 1, 1, 1158, 1160, 4, 6, 1, 2, 1, 0, 0, 1, 1, 6, 3, 1, 160, 2, 1, 158, 0, 1]), (102, [11], [0]), (8, [10], [0]), (102, [9], [0]), (8, [8], [0])], [(16, (0, 1, 2009, []))], [], [], [], [(16, 5, 1, 1), (16, 1, -4294967296, 2010), (1, 5, -4294967296, 2009), (5, 1, -4294967296, 2009)])
theorem oo_Mo_rule_at_f0_25 {kA : Nat → ClassId} : or_ok kA GG o_Mo_rule_at_f0_25 := by
  intro A ta ws vs hD hth hl hk hds hf
  have hl : vs.length = 17 := hl
  have hk : ∀ q ∈ ([(0, (2, 0, 0, [150])), (1, (0, 0, 2009, [])), (2, (2, 0, 0, [150])), (5, (0, 0, 2009, [])), (6, (0, 0, 2010, [])), (8, (0, 0, 0, [])), (10, (0, 0, 0, [])), (12, (0, 1, 1, [])), (15, (0, 1, 1, [])), (16, (0, 1, 2010, []))] : List (Nat × tv_T)), tv_ok ta q.2 (n_v vs q.1) := hk
  obtain ⟨t0, hk⟩ := List.forall_mem_cons.mp hk
  have t0 : tv_ok ta (2, 0, 0, [150]) (n_v vs 0) := t0
  have r0 : ta (v_ad (n_v vs 0)) = some 150 := tv_rg t0
  obtain ⟨t1, hk⟩ := List.forall_mem_cons.mp hk
  have t1 : tv_ok ta (0, 0, 2009, []) (n_v vs 1) := t1
  have k1 : 0 ≤ v_iv (n_v vs 1) ∧ v_iv (n_v vs 1) ≤ 2009 := tv_rng t1
  obtain ⟨t2, hk⟩ := List.forall_mem_cons.mp hk
  have t2 : tv_ok ta (2, 0, 0, [150]) (n_v vs 2) := t2
  have r2 : ta (v_ad (n_v vs 2)) = some 150 := tv_rg t2
  obtain ⟨t5, hk⟩ := List.forall_mem_cons.mp hk
  have t5 : tv_ok ta (0, 0, 2009, []) (n_v vs 5) := t5
  have k5 : 0 ≤ v_iv (n_v vs 5) ∧ v_iv (n_v vs 5) ≤ 2009 := tv_rng t5
  obtain ⟨t6, hk⟩ := List.forall_mem_cons.mp hk
  have t6 : tv_ok ta (0, 0, 2010, []) (n_v vs 6) := t6
  have k6 : 0 ≤ v_iv (n_v vs 6) ∧ v_iv (n_v vs 6) ≤ 2010 := tv_rng t6
  obtain ⟨t8, hk⟩ := List.forall_mem_cons.mp hk
  have t8 : tv_ok ta (0, 0, 0, []) (n_v vs 8) := t8
  have k8 : 0 ≤ v_iv (n_v vs 8) ∧ v_iv (n_v vs 8) ≤ 0 := tv_rng t8
  obtain ⟨t10, hk⟩ := List.forall_mem_cons.mp hk
  have t10 : tv_ok ta (0, 0, 0, []) (n_v vs 10) := t10
  have k10 : 0 ≤ v_iv (n_v vs 10) ∧ v_iv (n_v vs 10) ≤ 0 := tv_rng t10
  obtain ⟨t12, hk⟩ := List.forall_mem_cons.mp hk
  have t12 : tv_ok ta (0, 1, 1, []) (n_v vs 12) := t12
  have k12 : 1 ≤ v_iv (n_v vs 12) ∧ v_iv (n_v vs 12) ≤ 1 := tv_rng t12
  obtain ⟨t15, hk⟩ := List.forall_mem_cons.mp hk
  have t15 : tv_ok ta (0, 1, 1, []) (n_v vs 15) := t15
  have k15 : 1 ≤ v_iv (n_v vs 15) ∧ v_iv (n_v vs 15) ≤ 1 := tv_rng t15
  obtain ⟨t16, hk⟩ := List.forall_mem_cons.mp hk
  have t16 : tv_ok ta (0, 1, 2010, []) (n_v vs 16) := t16
  have k16 : 1 ≤ v_iv (n_v vs 16) ∧ v_iv (n_v vs 16) ≤ 2010 := tv_rng t16
  have hds : ∀ q ∈ ([(16, 5, 1, 1), (16, 1, -4294967296, 2010), (1, 5, -4294967296, 2009), (5, 1, -4294967296, 2009)] : List of_T), n_iv vs q.2.1 + q.2.2.1 ≤ n_iv vs q.1 ∧ n_iv vs q.1 ≤ n_iv vs q.2.1 + q.2.2.2 := hds
  obtain ⟨d0, hds⟩ := List.forall_mem_cons.mp hds
  have d0 : v_iv (n_v vs 5) + 1 ≤ v_iv (n_v vs 16) ∧ v_iv (n_v vs 16) ≤ v_iv (n_v vs 5) + 1 := d0
  obtain ⟨d1, hds⟩ := List.forall_mem_cons.mp hds
  have d1 : v_iv (n_v vs 1) + (-4294967296) ≤ v_iv (n_v vs 16) ∧ v_iv (n_v vs 16) ≤ v_iv (n_v vs 1) + 2010 := d1
  obtain ⟨d2, hds⟩ := List.forall_mem_cons.mp hds
  have d2 : v_iv (n_v vs 5) + (-4294967296) ≤ v_iv (n_v vs 1) ∧ v_iv (n_v vs 1) ≤ v_iv (n_v vs 5) + 2009 := d2
  obtain ⟨d3, hds⟩ := List.forall_mem_cons.mp hds
  have d3 : v_iv (n_v vs 1) + (-4294967296) ≤ v_iv (n_v vs 5) ∧ v_iv (n_v vs 5) ≤ v_iv (n_v vs 1) + 2009 := d3
  have hf : fc_ok [(1, [16, 5, 15], []), (9, [5, 2], [158]), (8, [12], [1]), (20, [2], [50, 2, 1, 158, 157, 160, 2, 12, 0, 7, 4, 3, 2, 0, 158, 0, 1, 2, 0, 157, 2, 7, 0, 3, 2, 0, 157, 0, 2010, 3, 14, 1, 10, 3, 0, 160, 5, 3, 2, 0, 157, 0, 1, 0, 0, 1, 10, 3, 0, 160, 5, 3, 2, 0, 157, 0, 1, 0, 4]), (20, [1, 2], [30, 0, 1, 0, 0, -1, 1, 158]), (20, [2], [30, 0, 1, 1, 159]), (20, [2], [30, 0, -1, 1, 159]), (24, [0, 2], []), (20, [6, 2], [30, 2010, 1, 0, 0, 1, 1, 158]), (20, [6, 2], [30, -2010, -1, 0, 0, -1, 1, 158]), (20, [8, 2], [50, 1, 1, 1158, 1160, 4, 6, 1, 2, 1, 0, 0, 1, 1, 6, 3, 1, 160, 2, 1, 158, 0, 1]), (20, [10, 2], [50, 1, 1, 1158, 1160, 4, 6, 1, 2, 1, 0, 0, 1, 1, 6, 3, 1, 160, 2, 1, 158, 0, 1]), (20, [12, 2], [50, 1, 1, 1158, 1160, 4, 6, 1, 2, 1, 0, 0, 1, 1, 6, 3, 1, 160, 2, 1, 158, 0, 1]), (102, [11], [0]), (8, [10], [0]), (102, [9], [0]), (8, [8], [0])] ta ws vs := hf
  obtain ⟨f0, hf⟩ := fc_un (show (1 : Nat) < 100 from by decide) hf
  have f0 : v_iv (n_v vs 16) = v_iv (n_v vs 5) + v_iv (n_v vs 15) := f0
  obtain ⟨f1, hf⟩ := fc_un (show (9 : Nat) < 100 from by decide) hf
  have f1 : n_v vs 5 = w_fd ws (v_ad (n_v vs 2)) 158 := f1
  obtain ⟨f2, hf⟩ := fc_un (show (8 : Nat) < 100 from by decide) hf
  have f2 : v_iv (n_v vs 12) ≠ 0 := f2
  obtain ⟨f3, hf⟩ := fc_un (show (20 : Nat) < 100 from by decide) hf
  have f3 : ((w_fi ws (n_v vs 2) 158 + 1) ≤ w_fi ws (n_v vs 2) 157) ∧ ((w_fi ws (n_v vs 2) 157 ≤ 2010) ∧ ((w_ei ws (w_ar ws (n_v vs 2) 160) ((w_fi ws (n_v vs 2) 157 - 1)) = 0) ∨ (w_ei ws (w_ar ws (n_v vs 2) 160) ((w_fi ws (n_v vs 2) 157 - 1)) = 4))) := f3
  obtain ⟨f4, hf⟩ := fc_un (show (20 : Nat) < 100 from by decide) hf
  have f4 : 1 * v_iv (n_v vs 1) + ((-1) * w_fi ws (n_v vs 2) 158 + 0) ≤ 0 := f4
  obtain ⟨f5, hf⟩ := fc_un (show (20 : Nat) < 100 from by decide) hf
  have f5 : 1 * w_fi ws (n_v vs 2) 159 + 0 ≤ 0 := f5
  obtain ⟨f6, hf⟩ := fc_un (show (20 : Nat) < 100 from by decide) hf
  have f6 : (-1) * w_fi ws (n_v vs 2) 159 + 0 ≤ 0 := f6
  obtain ⟨f7, hf⟩ := fc_un (show (24 : Nat) < 100 from by decide) hf
  have f7 : n_v vs 0 = n_v vs 2 := f7
  obtain ⟨f8, hf⟩ := fc_un (show (20 : Nat) < 100 from by decide) hf
  have f8 : 1 * v_iv (n_v vs 6) + (1 * w_fi ws (n_v vs 2) 158 + 0) ≤ 2010 := f8
  obtain ⟨f9, hf⟩ := fc_un (show (20 : Nat) < 100 from by decide) hf
  have f9 : (-1) * v_iv (n_v vs 6) + ((-1) * w_fi ws (n_v vs 2) 158 + 0) ≤ (-2010) := f9
  obtain ⟨f10, hf⟩ := fc_un (show (20 : Nat) < 100 from by decide) hf
  have f10 : (v_iv (n_v vs 8) = 1) → (w_ei ws (w_ar ws (n_v vs 2) 160) (w_fi ws (n_v vs 2) 158) = 1) := f10
  obtain ⟨f11, hf⟩ := fc_un (show (20 : Nat) < 100 from by decide) hf
  have f11 : (v_iv (n_v vs 10) = 1) → (w_ei ws (w_ar ws (n_v vs 2) 160) (w_fi ws (n_v vs 2) 158) = 1) := f11
  obtain ⟨f12, hf⟩ := fc_un (show (20 : Nat) < 100 from by decide) hf
  have f12 : (v_iv (n_v vs 12) = 1) → (w_ei ws (w_ar ws (n_v vs 2) 160) (w_fi ws (n_v vs 2) 158) = 1) := f12
  obtain ⟨ta1, w1, le1, ⟨_, s1⟩, hf⟩ := fc_us (show ¬ (102 : Nat) < 100 from by decide) hf
  obtain ⟨f14, hf⟩ := fc_un (show (8 : Nat) < 100 from by decide) hf
  have f14 : v_iv (n_v vs 10) = 0 := f14
  obtain ⟨ta2, w2, le2, ⟨_, s2⟩, hf⟩ := fc_us (show ¬ (102 : Nat) < 100 from by decide) hf
  obtain ⟨f16, hf⟩ := fc_un (show (8 : Nat) < 100 from by decide) hf
  have f16 : v_iv (n_v vs 8) = 0 := f16
  have q2 : n_v vs 2 = n_v vs 0 := f7.symm
  rw [q2] at f1
  rw [q2] at f3
  rw [q2] at f4
  rw [q2] at f5
  rw [q2] at f6
  rw [q2] at f8
  rw [q2] at f9
  rw [q2] at f10
  rw [q2] at f11
  rw [q2] at f12
  have cr_0_160 : ta (w_ar ws (n_v vs 0) 160) = some 259 := tv_rg (th_fd hD hth r0 (g := GG_150) rfl (k := 160) (t := (2, 0, 0, [259])) rfl rfl)
  have g1 : v_iv (n_v vs 5) = w_fi ws (n_v vs 0) 158 := congrArg v_iv f1
  have hK_0_160 : ∀ j : Int, 0 ≤ j → j < 2010 → 0 ≤ w_ei ws (w_ar ws (n_v vs 0) 160) j ∧ w_ei ws (w_ar ws (n_v vs 0) 160) j ≤ 4 := fun j h0 h1 => th_el hD hth cr_0_160 (kd := 0) (n := 2010) (m := 2010) (lo := 0) (hi := 4) (rs := []) (L := []) rfl (by decide) (j := j.toNat) (by omega)
  have kz_0_157 : 0 ≤ w_fi ws (n_v vs 0) 157 ∧ w_fi ws (n_v vs 0) 157 ≤ 2010 := tv_rng (th_fd hD hth r0 (g := GG_150) rfl (k := 157) (t := (0, 0, 2010, [])) rfl rfl)
  have kz_0_158 : 0 ≤ w_fi ws (n_v vs 0) 158 ∧ w_fi ws (n_v vs 0) 158 ≤ 2009 := tv_rng (th_fd hD hth r0 (g := GG_150) rfl (k := 158) (t := (0, 0, 2009, [])) rfl rfl)
  have kz_0_159 : 0 ≤ w_fi ws (n_v vs 0) 159 ∧ w_fi ws (n_v vs 0) 159 ≤ 13 := tv_rng (th_fd hD hth r0 (g := GG_150) rfl (k := 159) (t := (0, 0, 13, [])) rfl rfl)
  have rf16 : tv_ok ta (0, 1, 2009, []) (n_v vs 16) := tv_in t16 (by first | omega | grind) (by first | omega | grind)
  refine ⟨List.forall_mem_cons.mpr ⟨rf16, (fun _ h => (by cases h))⟩, [], trivial, ?_, (fun _ h => (by cases h))⟩
  rw [List.append_nil]
  exact (fun _ h => (by cases h))
def o_Mo_rule_at_f0_26 : or_T := (189, 18, [(0, (2, 0, 0, [150])), (1, (0, 0, 2009, [])), (2, (2, 0, 0, [150])), (5, (0, 0, 2009, [])), (6, (0, 0, 2010, [])), (8, (0, 0, 0, [])), (10, (0, 0, 0, [])), (12, (0, 1, 1, [])), (15, (0, 1, 1, [])), (16, (0, 1, 2009, []))], [(20, [2], [30, 0, 1, 1, 159]), (20, [2], [30, 0, -1, 1, 159]), (24, [0, 2], []), (101, [2, 16], [158]), (1, [16, 5, 15], []), (9, [5, 2], [158]), (8, [12], [1]), (20, [2], [50, 2, 1, 158, 157, 160, 2, 12, 0, 7, 4, 3, 2, 0, 158, 0, 1, 2, 0, 157, 2, 7, 0, 3, 2, 0, 157, 0, 2010, 3, 14, 1, 10, 3, 0, 160, 5, 3, 2, 0, 157, 0, 1, 0, 0, 1, 10, 3, 0, 160, 5, 3, 2, 0, 157, 0, 1, 0, 4]), (20, [1, 2], [30, 0, 1, 0, 0, -1, 1, 158]), (20, [2], [30, 0, 1, 1, 159]), (20, [2], [30, 0, -1, 1, 159]), (20, [6, 2], [30, 2010, 1, 0, 0, 1, 1, 158]), (20, [6, 2], [30, -2010, -1, 0, 0, -1, 1, 158]), (20, [8, 2], [50, 1, 1, 1158, 1160, 4, 6, 1, 2, 1, 0, 0, 1, 1, 6, 3, 1, 160, 2, 1, 158, 0, 1]), (20, [10, 2], [50, 1, 1, 1158, 1160, 4, 6, 1, 2, 1, 0, 0, 1, 1, 6, 3, 1, 160, 2, 1, 158, 0, 1]), (20, [12, 2], [50, 1, 1, 1158, 1160, 4, 6, 1, 2, 1, 0, 0, 1, 1, 6, 3, 1, 160, 2, 1, 158, 0, 1]), (102, [11], [0]), (8, [10], [0]), (102, [9], [0]), (8, [8], [0])], [], [(0, 0, 2009, [])], [(20, [2], [50, 2, 1, 158, 157, 160, 2, 12, 0, 7, 4, 3, 2, 0, 158, 0, 1, 2, 0, 157, 2, 7, 0, 3, 2, 0, 157, 0, 2010, 3, 14, 1, 10, 3, 0, 160, 5, 3, 2, 0, 157, 0, 1, 0, 0, 1, 10, 3, 0, 160, 5, 3, 2, 0, 157, 0, 1, 0, 4]), (20, [2, 18], [30, 0, 1, 1, 158, -1, 0, 0]), (20, [2, 18], [30, 0, -1, 1, 158, 1, 0, 0]), (23, [1, 18], [0, 1, -1]), (23, [6, 18], [-2011, -1, -1])], [], [(16, 5, 1, 1), (16, 1, -4294967296, 2010), (1, 5, -4294967296, 2009), (5, 1, -4294967296, 2009)])
theorem oo_Mo_rule_at_f0_26 {kA : Nat → ClassId} : or_ok kA GG o_Mo_rule_at_f0_26 := by
  intro A ta ws vs hD hth hl hk hds hf
  have hl : vs.length = 18 := hl
  have hk : ∀ q ∈ ([(0, (2, 0, 0, [150])), (1, (0, 0, 2009, [])), (2, (2, 0, 0, [150])), (5, (0, 0, 2009, [])), (6, (0, 0, 2010, [])), (8, (0, 0, 0, [])), (10, (0, 0, 0, [])), (12, (0, 1, 1, [])), (15, (0, 1, 1, [])), (16, (0, 1, 2009, []))] : List (Nat × tv_T)), tv_ok ta q.2 (n_v vs q.1) := hk
  obtain ⟨t0, hk⟩ := List.forall_mem_cons.mp hk
  have t0 : tv_ok ta (2, 0, 0, [150]) (n_v vs 0) := t0
  have r0 : ta (v_ad (n_v vs 0)) = some 150 := tv_rg t0
  obtain ⟨t1, hk⟩ := List.forall_mem_cons.mp hk
  have t1 : tv_ok ta (0, 0, 2009, []) (n_v vs 1) := t1
  have k1 : 0 ≤ v_iv (n_v vs 1) ∧ v_iv (n_v vs 1) ≤ 2009 := tv_rng t1
  obtain ⟨t2, hk⟩ := List.forall_mem_cons.mp hk
  have t2 : tv_ok ta (2, 0, 0, [150]) (n_v vs 2) := t2
  have r2 : ta (v_ad (n_v vs 2)) = some 150 := tv_rg t2
  obtain ⟨t5, hk⟩ := List.forall_mem_cons.mp hk
  have t5 : tv_ok ta (0, 0, 2009, []) (n_v vs 5) := t5
  have k5 : 0 ≤ v_iv (n_v vs 5) ∧ v_iv (n_v vs 5) ≤ 2009 := tv_rng t5
  obtain ⟨t6, hk⟩ := List.forall_mem_cons.mp hk
  have t6 : tv_ok ta (0, 0, 2010, []) (n_v vs 6) := t6
  have k6 : 0 ≤ v_iv (n_v vs 6) ∧ v_iv (n_v vs 6) ≤ 2010 := tv_rng t6
  obtain ⟨t8, hk⟩ := List.forall_mem_cons.mp hk
  have t8 : tv_ok ta (0, 0, 0, []) (n_v vs 8) := t8
  have k8 : 0 ≤ v_iv (n_v vs 8) ∧ v_iv (n_v vs 8) ≤ 0 := tv_rng t8
  obtain ⟨t10, hk⟩ := List.forall_mem_cons.mp hk
  have t10 : tv_ok ta (0, 0, 0, []) (n_v vs 10) := t10
  have k10 : 0 ≤ v_iv (n_v vs 10) ∧ v_iv (n_v vs 10) ≤ 0 := tv_rng t10
  obtain ⟨t12, hk⟩ := List.forall_mem_cons.mp hk
  have t12 : tv_ok ta (0, 1, 1, []) (n_v vs 12) := t12
  have k12 : 1 ≤ v_iv (n_v vs 12) ∧ v_iv (n_v vs 12) ≤ 1 := tv_rng t12
  obtain ⟨t15, hk⟩ := List.forall_mem_cons.mp hk
  have t15 : tv_ok ta (0, 1, 1, []) (n_v vs 15) := t15
  have k15 : 1 ≤ v_iv (n_v vs 15) ∧ v_iv (n_v vs 15) ≤ 1 := tv_rng t15
  obtain ⟨t16, hk⟩ := List.forall_mem_cons.mp hk
  have t16 : tv_ok ta (0, 1, 2009, []) (n_v vs 16) := t16
  have k16 : 1 ≤ v_iv (n_v vs 16) ∧ v_iv (n_v vs 16) ≤ 2009 := tv_rng t16
  have hds : ∀ q ∈ ([(16, 5, 1, 1), (16, 1, -4294967296, 2010), (1, 5, -4294967296, 2009), (5, 1, -4294967296, 2009)] : List of_T), n_iv vs q.2.1 + q.2.2.1 ≤ n_iv vs q.1 ∧ n_iv vs q.1 ≤ n_iv vs q.2.1 + q.2.2.2 := hds
  obtain ⟨d0, hds⟩ := List.forall_mem_cons.mp hds
  have d0 : v_iv (n_v vs 5) + 1 ≤ v_iv (n_v vs 16) ∧ v_iv (n_v vs 16) ≤ v_iv (n_v vs 5) + 1 := d0
  obtain ⟨d1, hds⟩ := List.forall_mem_cons.mp hds
  have d1 : v_iv (n_v vs 1) + (-4294967296) ≤ v_iv (n_v vs 16) ∧ v_iv (n_v vs 16) ≤ v_iv (n_v vs 1) + 2010 := d1
  obtain ⟨d2, hds⟩ := List.forall_mem_cons.mp hds
  have d2 : v_iv (n_v vs 5) + (-4294967296) ≤ v_iv (n_v vs 1) ∧ v_iv (n_v vs 1) ≤ v_iv (n_v vs 5) + 2009 := d2
  obtain ⟨d3, hds⟩ := List.forall_mem_cons.mp hds
  have d3 : v_iv (n_v vs 1) + (-4294967296) ≤ v_iv (n_v vs 5) ∧ v_iv (n_v vs 5) ≤ v_iv (n_v vs 1) + 2009 := d3
  have hf : fc_ok [(20, [2], [30, 0, 1, 1, 159]), (20, [2], [30, 0, -1, 1, 159]), (24, [0, 2], []), (101, [2, 16], [158]), (1, [16, 5, 15], []), (9, [5, 2], [158]), (8, [12], [1]), (20, [2], [50, 2, 1, 158, 157, 160, 2, 12, 0, 7, 4, 3, 2, 0, 158, 0, 1, 2, 0, 157, 2, 7, 0, 3, 2, 0, 157, 0, 2010, 3, 14, 1, 10, 3, 0, 160, 5, 3, 2, 0, 157, 0, 1, 0, 0, 1, 10, 3, 0, 160, 5, 3, 2, 0, 157, 0, 1, 0, 4]), (20, [1, 2], [30, 0, 1, 0, 0, -1, 1, 158]), (20, [2], [30, 0, 1, 1, 159]), (20, [2], [30, 0, -1, 1, 159]), (20, [6, 2], [30, 2010, 1, 0, 0, 1, 1, 158]), (20, [6, 2], [30, -2010, -1, 0, 0, -1, 1, 158]), (20, [8, 2], [50, 1, 1, 1158, 1160, 4, 6, 1, 2, 1, 0, 0, 1, 1, 6, 3, 1, 160, 2, 1, 158, 0, 1]), (20, [10, 2], [50, 1, 1, 1158, 1160, 4, 6, 1, 2, 1, 0, 0, 1, 1, 6, 3, 1, 160, 2, 1, 158, 0, 1]), (20, [12, 2], [50, 1, 1, 1158, 1160, 4, 6, 1, 2, 1, 0, 0, 1, 1, 6, 3, 1, 160, 2, 1, 158, 0, 1]), (102, [11], [0]), (8, [10], [0]), (102, [9], [0]), (8, [8], [0])] ta ws vs := hf
  obtain ⟨f0, hf⟩ := fc_un (show (20 : Nat) < 100 from by decide) hf
  have f0 : 1 * w_fi ws (n_v vs 2) 159 + 0 ≤ 0 := f0
  obtain ⟨f1, hf⟩ := fc_un (show (20 : Nat) < 100 from by decide) hf
  have f1 : (-1) * w_fi ws (n_v vs 2) 159 + 0 ≤ 0 := f1
  obtain ⟨f2, hf⟩ := fc_un (show (24 : Nat) < 100 from by decide) hf
  have f2 : n_v vs 0 = n_v vs 2 := f2
  obtain ⟨ta1, w1, le1, ⟨_, s1⟩, hf⟩ := fc_us (show ¬ (101 : Nat) < 100 from by decide) hf
  have s1 : (∀ b j, w_el ws b j = w_el w1 b j) ∧ ∀ b j, w_fd ws b j = if b = v_ad (n_v vs 2) ∧ j = 158 then n_v vs 16 else w_fd w1 b j := s1
  obtain ⟨f4, hf⟩ := fc_un (show (1 : Nat) < 100 from by decide) hf
  have f4 : v_iv (n_v vs 16) = v_iv (n_v vs 5) + v_iv (n_v vs 15) := f4
  obtain ⟨f5, hf⟩ := fc_un (show (9 : Nat) < 100 from by decide) hf
  have f5 : n_v vs 5 = w_fd w1 (v_ad (n_v vs 2)) 158 := f5
  obtain ⟨f6, hf⟩ := fc_un (show (8 : Nat) < 100 from by decide) hf
  have f6 : v_iv (n_v vs 12) ≠ 0 := f6
  obtain ⟨f7, hf⟩ := fc_un (show (20 : Nat) < 100 from by decide) hf
  have f7 : ((w_fi w1 (n_v vs 2) 158 + 1) ≤ w_fi w1 (n_v vs 2) 157) ∧ ((w_fi w1 (n_v vs 2) 157 ≤ 2010) ∧ ((w_ei w1 (w_ar w1 (n_v vs 2) 160) ((w_fi w1 (n_v vs 2) 157 - 1)) = 0) ∨ (w_ei w1 (w_ar w1 (n_v vs 2) 160) ((w_fi w1 (n_v vs 2) 157 - 1)) = 4))) := f7
  obtain ⟨f8, hf⟩ := fc_un (show (20 : Nat) < 100 from by decide) hf
  have f8 : 1 * v_iv (n_v vs 1) + ((-1) * w_fi w1 (n_v vs 2) 158 + 0) ≤ 0 := f8
  obtain ⟨f9, hf⟩ := fc_un (show (20 : Nat) < 100 from by decide) hf
  have f9 : 1 * w_fi w1 (n_v vs 2) 159 + 0 ≤ 0 := f9
  obtain ⟨f10, hf⟩ := fc_un (show (20 : Nat) < 100 from by decide) hf
  have f10 : (-1) * w_fi w1 (n_v vs 2) 159 + 0 ≤ 0 := f10
  obtain ⟨f11, hf⟩ := fc_un (show (20 : Nat) < 100 from by decide) hf
  have f11 : 1 * v_iv (n_v vs 6) + (1 * w_fi w1 (n_v vs 2) 158 + 0) ≤ 2010 := f11
  obtain ⟨f12, hf⟩ := fc_un (show (20 : Nat) < 100 from by decide) hf
  have f12 : (-1) * v_iv (n_v vs 6) + ((-1) * w_fi w1 (n_v vs 2) 158 + 0) ≤ (-2010) := f12
  obtain ⟨f13, hf⟩ := fc_un (show (20 : Nat) < 100 from by decide) hf
  have f13 : (v_iv (n_v vs 8) = 1) → (w_ei w1 (w_ar w1 (n_v vs 2) 160) (w_fi w1 (n_v vs 2) 158) = 1) := f13
  obtain ⟨f14, hf⟩ := fc_un (show (20 : Nat) < 100 from by decide) hf
  have f14 : (v_iv (n_v vs 10) = 1) → (w_ei w1 (w_ar w1 (n_v vs 2) 160) (w_fi w1 (n_v vs 2) 158) = 1) := f14
  obtain ⟨f15, hf⟩ := fc_un (show (20 : Nat) < 100 from by decide) hf
  have f15 : (v_iv (n_v vs 12) = 1) → (w_ei w1 (w_ar w1 (n_v vs 2) 160) (w_fi w1 (n_v vs 2) 158) = 1) := f15
  obtain ⟨ta2, w2, le2, ⟨_, s2⟩, hf⟩ := fc_us (show ¬ (102 : Nat) < 100 from by decide) hf
  obtain ⟨f17, hf⟩ := fc_un (show (8 : Nat) < 100 from by decide) hf
  have f17 : v_iv (n_v vs 10) = 0 := f17
  obtain ⟨ta3, w3, le3, ⟨_, s3⟩, hf⟩ := fc_us (show ¬ (102 : Nat) < 100 from by decide) hf
  obtain ⟨f19, hf⟩ := fc_un (show (8 : Nat) < 100 from by decide) hf
  have f19 : v_iv (n_v vs 8) = 0 := f19
  have q2 : n_v vs 2 = n_v vs 0 := f2.symm
  rw [q2] at f0
  rw [q2] at f1
  rw [q2] at s1
  rw [q2] at f5
  rw [q2] at f7
  rw [q2] at f8
  rw [q2] at f9
  rw [q2] at f10
  rw [q2] at f11
  rw [q2] at f12
  rw [q2] at f13
  rw [q2] at f14
  rw [q2] at f15
  have ar_0_160_1 : w_ar w1 (n_v vs 0) 160 = w_ar ws (n_v vs 0) 160 := by show v_ad (w_fd w1 _ _) = v_ad (w_fd ws _ _); rw [s1.2, if_neg (fun e => absurd e.2 (by decide))]
  have cr_0_160 : ta (w_ar ws (n_v vs 0) 160) = some 259 := tv_rg (th_fd hD hth r0 (g := GG_150) rfl (k := 160) (t := (2, 0, 0, [259])) rfl rfl)
  have g5 : v_iv (n_v vs 5) = w_fi w1 (n_v vs 0) 158 := congrArg v_iv f5
  rw [ar_0_160_1] at f7
  rw [ar_0_160_1] at f13
  rw [ar_0_160_1] at f14
  rw [ar_0_160_1] at f15
  have fe_0_157_1 : w_fi ws (n_v vs 0) 157 = w_fi w1 (n_v vs 0) 157 := by show v_iv (w_fd _ _ _) = v_iv (w_fd _ _ _); rw [s1.2, if_neg (fun e => absurd e.2 (by decide))]
  have fe_0_158_1 : w_fi ws (n_v vs 0) 158 = v_iv (n_v vs 16) := by show v_iv (w_fd _ _ _) = _; rw [s1.2, if_pos ⟨rfl, rfl⟩]
  have fe_0_159_1 : w_fi ws (n_v vs 0) 159 = w_fi w1 (n_v vs 0) 159 := by show v_iv (w_fd _ _ _) = v_iv (w_fd _ _ _); rw [s1.2, if_neg (fun e => absurd e.2 (by decide))]
  have hE_0_160_1 : ∀ j : Int, w_ei ws (w_ar ws (n_v vs 0) 160) j = w_ei w1 (w_ar ws (n_v vs 0) 160) j := fun j => s1.1 _ _
  have hK_0_160 : ∀ j : Int, 0 ≤ j → j < 2010 → 0 ≤ w_ei ws (w_ar ws (n_v vs 0) 160) j ∧ w_ei ws (w_ar ws (n_v vs 0) 160) j ≤ 4 := fun j h0 h1 => th_el hD hth cr_0_160 (kd := 0) (n := 2010) (m := 2010) (lo := 0) (hi := 4) (rs := []) (L := []) rfl (by decide) (j := j.toNat) (by omega)
  have kz_0_157 : 0 ≤ w_fi ws (n_v vs 0) 157 ∧ w_fi ws (n_v vs 0) 157 ≤ 2010 := tv_rng (th_fd hD hth r0 (g := GG_150) rfl (k := 157) (t := (0, 0, 2010, [])) rfl rfl)
  have kz_0_158 : 0 ≤ w_fi ws (n_v vs 0) 158 ∧ w_fi ws (n_v vs 0) 158 ≤ 2009 := tv_rng (th_fd hD hth r0 (g := GG_150) rfl (k := 158) (t := (0, 0, 2009, [])) rfl rfl)
  have kz_0_159 : 0 ≤ w_fi ws (n_v vs 0) 159 ∧ w_fi ws (n_v vs 0) 159 ≤ 13 := tv_rng (th_fd hD hth r0 (g := GG_150) rfl (k := 159) (t := (0, 0, 13, [])) rfl rfl)
  have kv0 : 0 ≤ w_fi ws (n_v vs 0) 158 ∧ w_fi ws (n_v vs 0) 158 ≤ 2009 := tv_rng (th_fd hD hth r0 (g := GG_150) rfl (k := 158) (t := (0, 0, 2009, [])) rfl rfl)
  obtain ⟨x, ex, hx⟩ := iv_ex (ta := ta) (lo := 0) (hi := 2009) (z := w_fi ws (n_v vs 0) 158) (by omega) (by omega) (by omega) (by omega)
  have ex2 : v_iv (Value.int x) = w_fi ws (n_v vs 0) 158 := ex
  have ex3 : 0 ≤ v_iv (Value.int x) ∧ v_iv (Value.int x) ≤ 2009 := tv_rng hx
  have e_1 : n_v (vs ++ [Value.int x]) 1 = n_v vs 1 := n_v_old (by rw [hl]; decide)
  have e_2 : n_v (vs ++ [Value.int x]) 2 = n_v vs 2 := n_v_old (by rw [hl]; decide)
  have e_6 : n_v (vs ++ [Value.int x]) 6 = n_v vs 6 := n_v_old (by rw [hl]; decide)
  have e_18 : n_v (vs ++ [Value.int x]) 18 = Value.int x := n_v_new hl
  have nf0 : fc_1 (20, [2], [50, 2, 1, 158, 157, 160, 2, 12, 0, 7, 4, 3, 2, 0, 158, 0, 1, 2, 0, 157, 2, 7, 0, 3, 2, 0, 157, 0, 2010, 3, 14, 1, 10, 3, 0, 160, 5, 3, 2, 0, 157, 0, 1, 0, 0, 1, 10, 3, 0, 160, 5, 3, 2, 0, 157, 0, 1, 0, 4]) ws (vs ++ [Value.int x]) := by
    refine ⟨fun n hn => ?_, ?_⟩
    · have hn : n ∈ [2] := hn
      rw [List.length_append, hl]
      simp only [List.mem_cons, List.not_mem_nil, or_false] at hn
      show n < 18 + 1; omega
    · show ((w_fi ws (n_v (vs ++ [Value.int x]) 2) 158 + 1) ≤ w_fi ws (n_v (vs ++ [Value.int x]) 2) 157) ∧ ((w_fi ws (n_v (vs ++ [Value.int x]) 2) 157 ≤ 2010) ∧ ((w_ei ws (w_ar ws (n_v (vs ++ [Value.int x]) 2) 160) ((w_fi ws (n_v (vs ++ [Value.int x]) 2) 157 - 1)) = 0) ∨ (w_ei ws (w_ar ws (n_v (vs ++ [Value.int x]) 2) 160) ((w_fi ws (n_v (vs ++ [Value.int x]) 2) 157 - 1)) = 4)))
      rw [e_2]
      rw [q2]
      first | omega | grind
  have nf1 : fc_1 (20, [2, 18], [30, 0, 1, 1, 158, -1, 0, 0]) ws (vs ++ [Value.int x]) := by
    refine ⟨fun n hn => ?_, ?_⟩
    · have hn : n ∈ [2, 18] := hn
      rw [List.length_append, hl]
      simp only [List.mem_cons, List.not_mem_nil, or_false] at hn
      show n < 18 + 1; omega
    · show 1 * w_fi ws (n_v (vs ++ [Value.int x]) 2) 158 + ((-1) * v_iv (n_v (vs ++ [Value.int x]) 18) + 0) ≤ 0
      rw [e_2]
      rw [e_18]
      rw [q2]
      omega
  have nf2 : fc_1 (20, [2, 18], [30, 0, -1, 1, 158, 1, 0, 0]) ws (vs ++ [Value.int x]) := by
    refine ⟨fun n hn => ?_, ?_⟩
    · have hn : n ∈ [2, 18] := hn
      rw [List.length_append, hl]
      simp only [List.mem_cons, List.not_mem_nil, or_false] at hn
      show n < 18 + 1; omega
    · show (-1) * w_fi ws (n_v (vs ++ [Value.int x]) 2) 158 + (1 * v_iv (n_v (vs ++ [Value.int x]) 18) + 0) ≤ 0
      rw [e_2]
      rw [e_18]
      rw [q2]
      omega
  have nf3 : fc_1 (23, [1, 18], [0, 1, -1]) ws (vs ++ [Value.int x]) := by
    refine ⟨fun n hn => ?_, ?_⟩
    · have hn : n ∈ [1, 18] := hn
      rw [List.length_append, hl]
      simp only [List.mem_cons, List.not_mem_nil, or_false] at hn
      show n < 18 + 1; omega
    · show 1 * v_iv (n_v (vs ++ [Value.int x]) 1) + ((-1) * v_iv (n_v (vs ++ [Value.int x]) 18) + 0) ≤ 0
      rw [e_1]
      rw [e_18]
      omega
  have nf4 : fc_1 (23, [6, 18], [-2011, -1, -1]) ws (vs ++ [Value.int x]) := by
    refine ⟨fun n hn => ?_, ?_⟩
    · have hn : n ∈ [6, 18] := hn
      rw [List.length_append, hl]
      simp only [List.mem_cons, List.not_mem_nil, or_false] at hn
      show n < 18 + 1; omega
    · show (-1) * v_iv (n_v (vs ++ [Value.int x]) 6) + ((-1) * v_iv (n_v (vs ++ [Value.int x]) 18) + 0) ≤ (-2011)
      rw [e_6]
      rw [e_18]
      omega
  exact ⟨fun q hq => (by cases hq), [Value.int x], ag_one hx, List.forall_mem_cons.mpr ⟨⟨show (20 : Nat) < 100 from by decide, nf0⟩, List.forall_mem_cons.mpr ⟨⟨show (20 : Nat) < 100 from by decide, nf1⟩, List.forall_mem_cons.mpr ⟨⟨show (20 : Nat) < 100 from by decide, nf2⟩, List.forall_mem_cons.mpr ⟨⟨show (23 : Nat) < 100 from by decide, nf3⟩, List.forall_mem_cons.mpr ⟨⟨show (23 : Nat) < 100 from by decide, nf4⟩, (fun _ h => (by cases h))⟩⟩⟩⟩⟩, (fun _ h => (by cases h))⟩
def o_Mo_rule_at_f0_27 : or_T := (193, 19, [(0, (2, 0, 0, [150])), (1, (0, 0, 2009, [])), (2, (2, 0, 0, [150])), (5, (0, 0, 2009, [])), (6, (0, 0, 2010, [])), (15, (0, 1, 1, [])), (16, (0, 1, 2009, [])), (18, (0, 0, 2009, []))], [(23, [1, 18], [0, 1, -1]), (23, [6, 18], [-2011, -1, -1]), (20, [2], [30, 0, 1, 1, 159]), (20, [2], [30, 0, -1, 1, 159]), (24, [0, 2], []), (20, [2], [50, 2, 1, 158, 157, 160, 2, 12, 0, 7, 4, 3, 2, 0, 158, 0, 1, 2, 0, 157, 2, 7, 0, 3, 2, 0, 157, 0, 2010, 3, 14, 1, 10, 3, 0, 160, 5, 3, 2, 0, 157, 0, 1, 0, 0, 1, 10, 3, 0, 160, 5, 3, 2, 0, 157, 0, 1, 0, 4]), (20, [18, 2], [30, 0, 1, 0, 0, -1, 1, 158]), (102, [18], [0, 13008, 13009, 13158]), (23, [1, 18], [0, 1, -1]), (23, [6, 18], [-2011, -1, -1]), (101, [2, 16], [158]), (1, [16, 5, 15], [])], [], [(0, 0, 2009, [])], [(20, [2], [50, 2, 1, 158, 157, 160, 2, 12, 0, 7, 4, 3, 2, 0, 158, 0, 1, 2, 0, 157, 2, 7, 0, 3, 2, 0, 157, 0, 2010, 3, 14, 1, 10, 3, 0, 160, 5, 3, 2, 0, 157, 0, 1, 0, 0, 1, 10, 3, 0, 160, 5, 3, 2, 0, 157, 0, 1, 0, 4]), (20, [2, 19], [30, 0, 1, 1, 158, -1, 0, 0]), (20, [2, 19], [30, 0, -1, 1, 158, 1, 0, 0]), (20, [2], [30, 0, 1, 1, 159]), (20, [2], [30, 0, -1, 1, 159]), (23, [1, 19], [0, 1, -1]), (23, [6, 19], [-2011, -1, -1])], [], [(16, 5, 1, 1), (16, 1, -4294967296, 2010), (1, 5, -4294967296, 2009), (5, 1, -4294967296, 2009)])
theorem oo_Mo_rule_at_f0_27 {kA : Nat → ClassId} : or_ok kA GG o_Mo_rule_at_f0_27 := by
  intro A ta ws vs hD hth hl hk hds hf
  have hl : vs.length = 19 := hl
  have hk : ∀ q ∈ ([(0, (2, 0, 0, [150])), (1, (0, 0, 2009, [])), (2, (2, 0, 0, [150])), (5, (0, 0, 2009, [])), (6, (0, 0, 2010, [])), (15, (0, 1, 1, [])), (16, (0, 1, 2009, [])), (18, (0, 0, 2009, []))] : List (Nat × tv_T)), tv_ok ta q.2 (n_v vs q.1) := hk
  obtain ⟨t0, hk⟩ := List.forall_mem_cons.mp hk
  have t0 : tv_ok ta (2, 0, 0, [150]) (n_v vs 0) := t0
  have r0 : ta (v_ad (n_v vs 0)) = some 150 := tv_rg t0
  obtain ⟨t1, hk⟩ := List.forall_mem_cons.mp hk
  have t1 : tv_ok ta (0, 0, 2009, []) (n_v vs 1) := t1
  have k1 : 0 ≤ v_iv (n_v vs 1) ∧ v_iv (n_v vs 1) ≤ 2009 := tv_rng t1
  obtain ⟨t2, hk⟩ := List.forall_mem_cons.mp hk
  have t2 : tv_ok ta (2, 0, 0, [150]) (n_v vs 2) := t2
  have r2 : ta (v_ad (n_v vs 2)) = some 150 := tv_rg t2
  obtain ⟨t5, hk⟩ := List.forall_mem_cons.mp hk
  have t5 : tv_ok ta (0, 0, 2009, []) (n_v vs 5) := t5
  have k5 : 0 ≤ v_iv (n_v vs 5) ∧ v_iv (n_v vs 5) ≤ 2009 := tv_rng t5
  obtain ⟨t6, hk⟩ := List.forall_mem_cons.mp hk
  have t6 : tv_ok ta (0, 0, 2010, []) (n_v vs 6) := t6
  have k6 : 0 ≤ v_iv (n_v vs 6) ∧ v_iv (n_v vs 6) ≤ 2010 := tv_rng t6
  obtain ⟨t15, hk⟩ := List.forall_mem_cons.mp hk
  have t15 : tv_ok ta (0, 1, 1, []) (n_v vs 15) := t15
  have k15 : 1 ≤ v_iv (n_v vs 15) ∧ v_iv (n_v vs 15) ≤ 1 := tv_rng t15
  obtain ⟨t16, hk⟩ := List.forall_mem_cons.mp hk
  have t16 : tv_ok ta (0, 1, 2009, []) (n_v vs 16) := t16
  have k16 : 1 ≤ v_iv (n_v vs 16) ∧ v_iv (n_v vs 16) ≤ 2009 := tv_rng t16
  obtain ⟨t18, hk⟩ := List.forall_mem_cons.mp hk
  have t18 : tv_ok ta (0, 0, 2009, []) (n_v vs 18) := t18
  have k18 : 0 ≤ v_iv (n_v vs 18) ∧ v_iv (n_v vs 18) ≤ 2009 := tv_rng t18
  have hds : ∀ q ∈ ([(16, 5, 1, 1), (16, 1, -4294967296, 2010), (1, 5, -4294967296, 2009), (5, 1, -4294967296, 2009)] : List of_T), n_iv vs q.2.1 + q.2.2.1 ≤ n_iv vs q.1 ∧ n_iv vs q.1 ≤ n_iv vs q.2.1 + q.2.2.2 := hds
  obtain ⟨d0, hds⟩ := List.forall_mem_cons.mp hds
  have d0 : v_iv (n_v vs 5) + 1 ≤ v_iv (n_v vs 16) ∧ v_iv (n_v vs 16) ≤ v_iv (n_v vs 5) + 1 := d0
  obtain ⟨d1, hds⟩ := List.forall_mem_cons.mp hds
  have d1 : v_iv (n_v vs 1) + (-4294967296) ≤ v_iv (n_v vs 16) ∧ v_iv (n_v vs 16) ≤ v_iv (n_v vs 1) + 2010 := d1
  obtain ⟨d2, hds⟩ := List.forall_mem_cons.mp hds
  have d2 : v_iv (n_v vs 5) + (-4294967296) ≤ v_iv (n_v vs 1) ∧ v_iv (n_v vs 1) ≤ v_iv (n_v vs 5) + 2009 := d2
  obtain ⟨d3, hds⟩ := List.forall_mem_cons.mp hds
  have d3 : v_iv (n_v vs 1) + (-4294967296) ≤ v_iv (n_v vs 5) ∧ v_iv (n_v vs 5) ≤ v_iv (n_v vs 1) + 2009 := d3
  have hf : fc_ok [(23, [1, 18], [0, 1, -1]), (23, [6, 18], [-2011, -1, -1]), (20, [2], [30, 0, 1, 1, 159]), (20, [2], [30, 0, -1, 1, 159]), (24, [0, 2], []), (20, [2], [50, 2, 1, 158, 157, 160, 2, 12, 0, 7, 4, 3, 2, 0, 158, 0, 1, 2, 0, 157, 2, 7, 0, 3, 2, 0, 157, 0, 2010, 3, 14, 1, 10, 3, 0, 160, 5, 3, 2, 0, 157, 0, 1, 0, 0, 1, 10, 3, 0, 160, 5, 3, 2, 0, 157, 0, 1, 0, 4]), (20, [18, 2], [30, 0, 1, 0, 0, -1, 1, 158]), (102, [18], [0, 13008, 13009, 13158]), (23, [1, 18], [0, 1, -1]), (23, [6, 18], [-2011, -1, -1]), (101, [2, 16], [158]), (1, [16, 5, 15], [])] ta ws vs := hf
  obtain ⟨f0, hf⟩ := fc_un (show (23 : Nat) < 100 from by decide) hf
  have f0 : 1 * v_iv (n_v vs 1) + ((-1) * v_iv (n_v vs 18) + 0) ≤ 0 := f0
  obtain ⟨f1, hf⟩ := fc_un (show (23 : Nat) < 100 from by decide) hf
  have f1 : (-1) * v_iv (n_v vs 6) + ((-1) * v_iv (n_v vs 18) + 0) ≤ (-2011) := f1
  obtain ⟨f2, hf⟩ := fc_un (show (20 : Nat) < 100 from by decide) hf
  have f2 : 1 * w_fi ws (n_v vs 2) 159 + 0 ≤ 0 := f2
  obtain ⟨f3, hf⟩ := fc_un (show (20 : Nat) < 100 from by decide) hf
  have f3 : (-1) * w_fi ws (n_v vs 2) 159 + 0 ≤ 0 := f3
  obtain ⟨f4, hf⟩ := fc_un (show (24 : Nat) < 100 from by decide) hf
  have f4 : n_v vs 0 = n_v vs 2 := f4
  obtain ⟨f5, hf⟩ := fc_un (show (20 : Nat) < 100 from by decide) hf
  have f5 : ((w_fi ws (n_v vs 2) 158 + 1) ≤ w_fi ws (n_v vs 2) 157) ∧ ((w_fi ws (n_v vs 2) 157 ≤ 2010) ∧ ((w_ei ws (w_ar ws (n_v vs 2) 160) ((w_fi ws (n_v vs 2) 157 - 1)) = 0) ∨ (w_ei ws (w_ar ws (n_v vs 2) 160) ((w_fi ws (n_v vs 2) 157 - 1)) = 4))) := f5
  obtain ⟨f6, hf⟩ := fc_un (show (20 : Nat) < 100 from by decide) hf
  have f6 : 1 * v_iv (n_v vs 18) + ((-1) * w_fi ws (n_v vs 2) 158 + 0) ≤ 0 := f6
  obtain ⟨ta1, w1, le1, ⟨_, s1⟩, hf⟩ := fc_us (show ¬ (102 : Nat) < 100 from by decide) hf
  obtain ⟨f8, hf⟩ := fc_un (show (23 : Nat) < 100 from by decide) hf
  have f8 : 1 * v_iv (n_v vs 1) + ((-1) * v_iv (n_v vs 18) + 0) ≤ 0 := f8
  obtain ⟨f9, hf⟩ := fc_un (show (23 : Nat) < 100 from by decide) hf
  have f9 : (-1) * v_iv (n_v vs 6) + ((-1) * v_iv (n_v vs 18) + 0) ≤ (-2011) := f9
  obtain ⟨ta2, w2, le2, ⟨_, s2⟩, hf⟩ := fc_us (show ¬ (101 : Nat) < 100 from by decide) hf
  have s2 : (∀ b j, w_el w1 b j = w_el w2 b j) ∧ ∀ b j, w_fd w1 b j = if b = v_ad (n_v vs 2) ∧ j = 158 then n_v vs 16 else w_fd w2 b j := s2
  obtain ⟨f11, hf⟩ := fc_un (show (1 : Nat) < 100 from by decide) hf
  have f11 : v_iv (n_v vs 16) = v_iv (n_v vs 5) + v_iv (n_v vs 15) := f11
  have q2 : n_v vs 2 = n_v vs 0 := f4.symm
  rw [q2] at f2
  rw [q2] at f3
  rw [q2] at f5
  rw [q2] at f6
  rw [q2] at s2
  have cr_0_160 : ta (w_ar ws (n_v vs 0) 160) = some 259 := tv_rg (th_fd hD hth r0 (g := GG_150) rfl (k := 160) (t := (2, 0, 0, [259])) rfl rfl)
  have hK_0_160 : ∀ j : Int, 0 ≤ j → j < 2010 → 0 ≤ w_ei ws (w_ar ws (n_v vs 0) 160) j ∧ w_ei ws (w_ar ws (n_v vs 0) 160) j ≤ 4 := fun j h0 h1 => th_el hD hth cr_0_160 (kd := 0) (n := 2010) (m := 2010) (lo := 0) (hi := 4) (rs := []) (L := []) rfl (by decide) (j := j.toNat) (by omega)
  have kz_0_157 : 0 ≤ w_fi ws (n_v vs 0) 157 ∧ w_fi ws (n_v vs 0) 157 ≤ 2010 := tv_rng (th_fd hD hth r0 (g := GG_150) rfl (k := 157) (t := (0, 0, 2010, [])) rfl rfl)
  have kz_0_158 : 0 ≤ w_fi ws (n_v vs 0) 158 ∧ w_fi ws (n_v vs 0) 158 ≤ 2009 := tv_rng (th_fd hD hth r0 (g := GG_150) rfl (k := 158) (t := (0, 0, 2009, [])) rfl rfl)
  have kz_0_159 : 0 ≤ w_fi ws (n_v vs 0) 159 ∧ w_fi ws (n_v vs 0) 159 ≤ 13 := tv_rng (th_fd hD hth r0 (g := GG_150) rfl (k := 159) (t := (0, 0, 13, [])) rfl rfl)
  have kv0 : 0 ≤ w_fi ws (n_v vs 0) 158 ∧ w_fi ws (n_v vs 0) 158 ≤ 2009 := tv_rng (th_fd hD hth r0 (g := GG_150) rfl (k := 158) (t := (0, 0, 2009, [])) rfl rfl)
  obtain ⟨x, ex, hx⟩ := iv_ex (ta := ta) (lo := 0) (hi := 2009) (z := w_fi ws (n_v vs 0) 158) (by omega) (by omega) (by omega) (by omega)
  have ex2 : v_iv (Value.int x) = w_fi ws (n_v vs 0) 158 := ex
  have ex3 : 0 ≤ v_iv (Value.int x) ∧ v_iv (Value.int x) ≤ 2009 := tv_rng hx
  have e_1 : n_v (vs ++ [Value.int x]) 1 = n_v vs 1 := n_v_old (by rw [hl]; decide)
  have e_2 : n_v (vs ++ [Value.int x]) 2 = n_v vs 2 := n_v_old (by rw [hl]; decide)
  have e_6 : n_v (vs ++ [Value.int x]) 6 = n_v vs 6 := n_v_old (by rw [hl]; decide)
  have e_19 : n_v (vs ++ [Value.int x]) 19 = Value.int x := n_v_new hl
  have nf0 : fc_1 (20, [2], [50, 2, 1, 158, 157, 160, 2, 12, 0, 7, 4, 3, 2, 0, 158, 0, 1, 2, 0, 157, 2, 7, 0, 3, 2, 0, 157, 0, 2010, 3, 14, 1, 10, 3, 0, 160, 5, 3, 2, 0, 157, 0, 1, 0, 0, 1, 10, 3, 0, 160, 5, 3, 2, 0, 157, 0, 1, 0, 4]) ws (vs ++ [Value.int x]) := by
    refine ⟨fun n hn => ?_, ?_⟩
    · have hn : n ∈ [2] := hn
      rw [List.length_append, hl]
      simp only [List.mem_cons, List.not_mem_nil, or_false] at hn
      show n < 19 + 1; omega
    · show ((w_fi ws (n_v (vs ++ [Value.int x]) 2) 158 + 1) ≤ w_fi ws (n_v (vs ++ [Value.int x]) 2) 157) ∧ ((w_fi ws (n_v (vs ++ [Value.int x]) 2) 157 ≤ 2010) ∧ ((w_ei ws (w_ar ws (n_v (vs ++ [Value.int x]) 2) 160) ((w_fi ws (n_v (vs ++ [Value.int x]) 2) 157 - 1)) = 0) ∨ (w_ei ws (w_ar ws (n_v (vs ++ [Value.int x]) 2) 160) ((w_fi ws (n_v (vs ++ [Value.int x]) 2) 157 - 1)) = 4)))
      rw [e_2]
      rw [q2]
      first | omega | grind
  have nf1 : fc_1 (20, [2, 19], [30, 0, 1, 1, 158, -1, 0, 0]) ws (vs ++ [Value.int x]) := by
    refine ⟨fun n hn => ?_, ?_⟩
    · have hn : n ∈ [2, 19] := hn
      rw [List.length_append, hl]
      simp only [List.mem_cons, List.not_mem_nil, or_false] at hn
      show n < 19 + 1; omega
    · show 1 * w_fi ws (n_v (vs ++ [Value.int x]) 2) 158 + ((-1) * v_iv (n_v (vs ++ [Value.int x]) 19) + 0) ≤ 0
      rw [e_2]
      rw [e_19]
      rw [q2]
      omega
  have nf2 : fc_1 (20, [2, 19], [30, 0, -1, 1, 158, 1, 0, 0]) ws (vs ++ [Value.int x]) := by
    refine ⟨fun n hn => ?_, ?_⟩
    · have hn : n ∈ [2, 19] := hn
      rw [List.length_append, hl]
      simp only [List.mem_cons, List.not_mem_nil, or_false] at hn
      show n < 19 + 1; omega
    · show (-1) * w_fi ws (n_v (vs ++ [Value.int x]) 2) 158 + (1 * v_iv (n_v (vs ++ [Value.int x]) 19) + 0) ≤ 0
      rw [e_2]
      rw [e_19]
      rw [q2]
      omega
  have nf3 : fc_1 (20, [2], [30, 0, 1, 1, 159]) ws (vs ++ [Value.int x]) := by
    refine ⟨fun n hn => ?_, ?_⟩
    · have hn : n ∈ [2] := hn
      rw [List.length_append, hl]
      simp only [List.mem_cons, List.not_mem_nil, or_false] at hn
      show n < 19 + 1; omega
    · show 1 * w_fi ws (n_v (vs ++ [Value.int x]) 2) 159 + 0 ≤ 0
      rw [e_2]
      rw [q2]
      omega
  have nf4 : fc_1 (20, [2], [30, 0, -1, 1, 159]) ws (vs ++ [Value.int x]) := by
    refine ⟨fun n hn => ?_, ?_⟩
    · have hn : n ∈ [2] := hn
      rw [List.length_append, hl]
      simp only [List.mem_cons, List.not_mem_nil, or_false] at hn
      show n < 19 + 1; omega
    · show (-1) * w_fi ws (n_v (vs ++ [Value.int x]) 2) 159 + 0 ≤ 0
      rw [e_2]
      rw [q2]
      omega
  have nf5 : fc_1 (23, [1, 19], [0, 1, -1]) ws (vs ++ [Value.int x]) := by
    refine ⟨fun n hn => ?_, ?_⟩
    · have hn : n ∈ [1, 19] := hn
      rw [List.length_append, hl]
      simp only [List.mem_cons, List.not_mem_nil, or_false] at hn
      show n < 19 + 1; omega
    · show 1 * v_iv (n_v (vs ++ [Value.int x]) 1) + ((-1) * v_iv (n_v (vs ++ [Value.int x]) 19) + 0) ≤ 0
      rw [e_1]
      rw [e_19]
      omega
  have nf6 : fc_1 (23, [6, 19], [-2011, -1, -1]) ws (vs ++ [Value.int x]) := by
    refine ⟨fun n hn => ?_, ?_⟩
    · have hn : n ∈ [6, 19] := hn
      rw [List.length_append, hl]
      simp only [List.mem_cons, List.not_mem_nil, or_false] at hn
      show n < 19 + 1; omega
    · show (-1) * v_iv (n_v (vs ++ [Value.int x]) 6) + ((-1) * v_iv (n_v (vs ++ [Value.int x]) 19) + 0) ≤ (-2011)
      rw [e_6]
      rw [e_19]
      omega
  exact ⟨fun q hq => (by cases hq), [Value.int x], ag_one hx, List.forall_mem_cons.mpr ⟨⟨show (20 : Nat) < 100 from by decide, nf0⟩, List.forall_mem_cons.mpr ⟨⟨show (20 : Nat) < 100 from by decide, nf1⟩, List.forall_mem_cons.mpr ⟨⟨show (20 : Nat) < 100 from by decide, nf2⟩, List.forall_mem_cons.mpr ⟨⟨show (20 : Nat) < 100 from by decide, nf3⟩, List.forall_mem_cons.mpr ⟨⟨show (20 : Nat) < 100 from by decide, nf4⟩, List.forall_mem_cons.mpr ⟨⟨show (23 : Nat) < 100 from by decide, nf5⟩, List.forall_mem_cons.mpr ⟨⟨show (23 : Nat) < 100 from by decide, nf6⟩, (fun _ h => (by cases h))⟩⟩⟩⟩⟩⟩⟩, (fun _ h => (by cases h))⟩
def o_Mo_rule_at_f0_28 : or_T := (275, 22, [(0, (2, 0, 0, [150])), (1, (0, 0, 2009, [])), (2, (2, 0, 0, [150])), (5, (0, 0, 2009, [])), (6, (0, 0, 2010, [])), (15, (0, 1, 1, [])), (16, (0, 1, 2009, [])), (18, (0, 0, 2009, [])), (19, (0, 0, 2009, []))], [(23, [1, 19], [0, 1, -1]), (23, [6, 19], [-2011, -1, -1]), (23, [1, 18], [0, 1, -1]), (23, [6, 18], [-2011, -1, -1]), (24, [0, 2], []), (20, [2], [50, 2, 1, 158, 157, 160, 2, 12, 0, 7, 4, 3, 2, 0, 158, 0, 1, 2, 0, 157, 2, 7, 0, 3, 2, 0, 157, 0, 2010, 3, 14, 1, 10, 3, 0, 160, 5, 3, 2, 0, 157, 0, 1, 0, 0, 1, 10, 3, 0, 160, 5, 3, 2, 0, 157, 0, 1, 0, 4]), (20, [19, 2], [30, 0, 1, 0, 0, -1, 1, 158]), (20, [2], [30, 0, 1, 1, 159]), (20, [2], [30, 0, -1, 1, 159]), (102, [19], [0, 13008, 13009, 13158, 13159]), (23, [1, 19], [0, 1, -1]), (23, [6, 19], [-2011, -1, -1]), (23, [1, 18], [0, 1, -1]), (23, [6, 18], [-2011, -1, -1]), (102, [18], [0, 13008, 13009, 13158]), (23, [1, 18], [0, 1, -1]), (23, [6, 18], [-2011, -1, -1]), (101, [2, 16], [158]), (1, [16, 5, 15], [])], [], [(0, 0, 2010, [])], [(20, [2], [50, 2, 1, 158, 157, 160, 2, 12, 0, 7, 4, 3, 2, 0, 158, 0, 1, 2, 0, 157, 2, 7, 0, 3, 2, 0, 157, 0, 2010, 3, 14, 1, 10, 3, 0, 160, 5, 3, 2, 0, 157, 0, 1, 0, 0, 1, 10, 3, 0, 160, 5, 3, 2, 0, 157, 0, 1, 0, 4]), (20, [1, 2], [30, 0, 1, 0, 0, -1, 1, 158]), (20, [2], [30, 0, 1, 1, 159]), (20, [2], [30, 0, -1, 1, 159]), (20, [22, 2], [30, -2011, -1, 0, 0, -1, 1, 158]), (24, [0, 2], [])], [(22, 6, 0, 0)], [(16, 5, 1, 1), (16, 1, -4294967296, 2010), (1, 5, -4294967296, 2009), (5, 1, -4294967296, 2009)])
theorem oo_Mo_rule_at_f0_28 {kA : Nat → ClassId} : or_ok kA GG o_Mo_rule_at_f0_28 := by
  intro A ta ws vs hD hth hl hk hds hf
  have hl : vs.length = 22 := hl
  have hk : ∀ q ∈ ([(0, (2, 0, 0, [150])), (1, (0, 0, 2009, [])), (2, (2, 0, 0, [150])), (5, (0, 0, 2009, [])), (6, (0, 0, 2010, [])), (15, (0, 1, 1, [])), (16, (0, 1, 2009, [])), (18, (0, 0, 2009, [])), (19, (0, 0, 2009, []))] : List (Nat × tv_T)), tv_ok ta q.2 (n_v vs q.1) := hk
  obtain ⟨t0, hk⟩ := List.forall_mem_cons.mp hk
  have t0 : tv_ok ta (2, 0, 0, [150]) (n_v vs 0) := t0
  have r0 : ta (v_ad (n_v vs 0)) = some 150 := tv_rg t0
  obtain ⟨t1, hk⟩ := List.forall_mem_cons.mp hk
  have t1 : tv_ok ta (0, 0, 2009, []) (n_v vs 1) := t1
  have k1 : 0 ≤ v_iv (n_v vs 1) ∧ v_iv (n_v vs 1) ≤ 2009 := tv_rng t1
  obtain ⟨t2, hk⟩ := List.forall_mem_cons.mp hk
  have t2 : tv_ok ta (2, 0, 0, [150]) (n_v vs 2) := t2
  have r2 : ta (v_ad (n_v vs 2)) = some 150 := tv_rg t2
  obtain ⟨t5, hk⟩ := List.forall_mem_cons.mp hk
  have t5 : tv_ok ta (0, 0, 2009, []) (n_v vs 5) := t5
  have k5 : 0 ≤ v_iv (n_v vs 5) ∧ v_iv (n_v vs 5) ≤ 2009 := tv_rng t5
  obtain ⟨t6, hk⟩ := List.forall_mem_cons.mp hk
  have t6 : tv_ok ta (0, 0, 2010, []) (n_v vs 6) := t6
  have k6 : 0 ≤ v_iv (n_v vs 6) ∧ v_iv (n_v vs 6) ≤ 2010 := tv_rng t6
  obtain ⟨t15, hk⟩ := List.forall_mem_cons.mp hk
  have t15 : tv_ok ta (0, 1, 1, []) (n_v vs 15) := t15
  have k15 : 1 ≤ v_iv (n_v vs 15) ∧ v_iv (n_v vs 15) ≤ 1 := tv_rng t15
  obtain ⟨t16, hk⟩ := List.forall_mem_cons.mp hk
  have t16 : tv_ok ta (0, 1, 2009, []) (n_v vs 16) := t16
  have k16 : 1 ≤ v_iv (n_v vs 16) ∧ v_iv (n_v vs 16) ≤ 2009 := tv_rng t16
  obtain ⟨t18, hk⟩ := List.forall_mem_cons.mp hk
  have t18 : tv_ok ta (0, 0, 2009, []) (n_v vs 18) := t18
  have k18 : 0 ≤ v_iv (n_v vs 18) ∧ v_iv (n_v vs 18) ≤ 2009 := tv_rng t18
  obtain ⟨t19, hk⟩ := List.forall_mem_cons.mp hk
  have t19 : tv_ok ta (0, 0, 2009, []) (n_v vs 19) := t19
  have k19 : 0 ≤ v_iv (n_v vs 19) ∧ v_iv (n_v vs 19) ≤ 2009 := tv_rng t19
  have hds : ∀ q ∈ ([(16, 5, 1, 1), (16, 1, -4294967296, 2010), (1, 5, -4294967296, 2009), (5, 1, -4294967296, 2009)] : List of_T), n_iv vs q.2.1 + q.2.2.1 ≤ n_iv vs q.1 ∧ n_iv vs q.1 ≤ n_iv vs q.2.1 + q.2.2.2 := hds
  obtain ⟨d0, hds⟩ := List.forall_mem_cons.mp hds
  have d0 : v_iv (n_v vs 5) + 1 ≤ v_iv (n_v vs 16) ∧ v_iv (n_v vs 16) ≤ v_iv (n_v vs 5) + 1 := d0
  obtain ⟨d1, hds⟩ := List.forall_mem_cons.mp hds
  have d1 : v_iv (n_v vs 1) + (-4294967296) ≤ v_iv (n_v vs 16) ∧ v_iv (n_v vs 16) ≤ v_iv (n_v vs 1) + 2010 := d1
  obtain ⟨d2, hds⟩ := List.forall_mem_cons.mp hds
  have d2 : v_iv (n_v vs 5) + (-4294967296) ≤ v_iv (n_v vs 1) ∧ v_iv (n_v vs 1) ≤ v_iv (n_v vs 5) + 2009 := d2
  obtain ⟨d3, hds⟩ := List.forall_mem_cons.mp hds
  have d3 : v_iv (n_v vs 1) + (-4294967296) ≤ v_iv (n_v vs 5) ∧ v_iv (n_v vs 5) ≤ v_iv (n_v vs 1) + 2009 := d3
  have hf : fc_ok [(23, [1, 19], [0, 1, -1]), (23, [6, 19], [-2011, -1, -1]), (23, [1, 18], [0, 1, -1]), (23, [6, 18], [-2011, -1, -1]), (24, [0, 2], []), (20, [2], [50, 2, 1, 158, 157, 160, 2, 12, 0, 7, 4, 3, 2, 0, 158, 0, 1, 2, 0, 157, 2, 7, 0, 3, 2, 0, 157, 0, 2010, 3, 14, 1, 10, 3, 0, 160, 5, 3, 2, 0, 157, 0, 1, 0, 0, 1, 10, 3, 0, 160, 5, 3, 2, 0, 157, 0, 1, 0, 4]), (20, [19, 2], [30, 0, 1, 0, 0, -1, 1, 158]), (20, [2], [30, 0, 1, 1, 159]), (20, [2], [30, 0, -1, 1, 159]), (102, [19], [0, 13008, 13009, 13158, 13159]), (23, [1, 19], [0, 1, -1]), (23, [6, 19], [-2011, -1, -1]), (23, [1, 18], [0, 1, -1]), (23, [6, 18], [-2011, -1, -1]), (102, [18], [0, 13008, 13009, 13158]), (23, [1, 18], [0, 1, -1]), (23, [6, 18], [-2011, -1, -1]), (101, [2, 16], [158]), (1, [16, 5, 15], [])] ta ws vs := hf
  obtain ⟨f0, hf⟩ := fc_un (show (23 : Nat) < 100 from by decide) hf
  have f0 : 1 * v_iv (n_v vs 1) + ((-1) * v_iv (n_v vs 19) + 0) ≤ 0 := f0
  obtain ⟨f1, hf⟩ := fc_un (show (23 : Nat) < 100 from by decide) hf
  have f1 : (-1) * v_iv (n_v vs 6) + ((-1) * v_iv (n_v vs 19) + 0) ≤ (-2011) := f1
  obtain ⟨f2, hf⟩ := fc_un (show (23 : Nat) < 100 from by decide) hf
  have f2 : 1 * v_iv (n_v vs 1) + ((-1) * v_iv (n_v vs 18) + 0) ≤ 0 := f2
  obtain ⟨f3, hf⟩ := fc_un (show (23 : Nat) < 100 from by decide) hf
  have f3 : (-1) * v_iv (n_v vs 6) + ((-1) * v_iv (n_v vs 18) + 0) ≤ (-2011) := f3
  obtain ⟨f4, hf⟩ := fc_un (show (24 : Nat) < 100 from by decide) hf
  have f4 : n_v vs 0 = n_v vs 2 := f4
  obtain ⟨f5, hf⟩ := fc_un (show (20 : Nat) < 100 from by decide) hf
  have f5 : ((w_fi ws (n_v vs 2) 158 + 1) ≤ w_fi ws (n_v vs 2) 157) ∧ ((w_fi ws (n_v vs 2) 157 ≤ 2010) ∧ ((w_ei ws (w_ar ws (n_v vs 2) 160) ((w_fi ws (n_v vs 2) 157 - 1)) = 0) ∨ (w_ei ws (w_ar ws (n_v vs 2) 160) ((w_fi ws (n_v vs 2) 157 - 1)) = 4))) := f5
  obtain ⟨f6, hf⟩ := fc_un (show (20 : Nat) < 100 from by decide) hf
  have f6 : 1 * v_iv (n_v vs 19) + ((-1) * w_fi ws (n_v vs 2) 158 + 0) ≤ 0 := f6
  obtain ⟨f7, hf⟩ := fc_un (show (20 : Nat) < 100 from by decide) hf
  have f7 : 1 * w_fi ws (n_v vs 2) 159 + 0 ≤ 0 := f7
  obtain ⟨f8, hf⟩ := fc_un (show (20 : Nat) < 100 from by decide) hf
  have f8 : (-1) * w_fi ws (n_v vs 2) 159 + 0 ≤ 0 := f8
  obtain ⟨ta1, w1, le1, ⟨_, s1⟩, hf⟩ := fc_us (show ¬ (102 : Nat) < 100 from by decide) hf
  obtain ⟨f10, hf⟩ := fc_un (show (23 : Nat) < 100 from by decide) hf
  have f10 : 1 * v_iv (n_v vs 1) + ((-1) * v_iv (n_v vs 19) + 0) ≤ 0 := f10
  obtain ⟨f11, hf⟩ := fc_un (show (23 : Nat) < 100 from by decide) hf
  have f11 : (-1) * v_iv (n_v vs 6) + ((-1) * v_iv (n_v vs 19) + 0) ≤ (-2011) := f11
  obtain ⟨f12, hf⟩ := fc_un (show (23 : Nat) < 100 from by decide) hf
  have f12 : 1 * v_iv (n_v vs 1) + ((-1) * v_iv (n_v vs 18) + 0) ≤ 0 := f12
  obtain ⟨f13, hf⟩ := fc_un (show (23 : Nat) < 100 from by decide) hf
  have f13 : (-1) * v_iv (n_v vs 6) + ((-1) * v_iv (n_v vs 18) + 0) ≤ (-2011) := f13
  obtain ⟨ta2, w2, le2, ⟨_, s2⟩, hf⟩ := fc_us (show ¬ (102 : Nat) < 100 from by decide) hf
  obtain ⟨f15, hf⟩ := fc_un (show (23 : Nat) < 100 from by decide) hf
  have f15 : 1 * v_iv (n_v vs 1) + ((-1) * v_iv (n_v vs 18) + 0) ≤ 0 := f15
  obtain ⟨f16, hf⟩ := fc_un (show (23 : Nat) < 100 from by decide) hf
  have f16 : (-1) * v_iv (n_v vs 6) + ((-1) * v_iv (n_v vs 18) + 0) ≤ (-2011) := f16
  obtain ⟨ta3, w3, le3, ⟨_, s3⟩, hf⟩ := fc_us (show ¬ (101 : Nat) < 100 from by decide) hf
  have s3 : (∀ b j, w_el w2 b j = w_el w3 b j) ∧ ∀ b j, w_fd w2 b j = if b = v_ad (n_v vs 2) ∧ j = 158 then n_v vs 16 else w_fd w3 b j := s3
  obtain ⟨f18, hf⟩ := fc_un (show (1 : Nat) < 100 from by decide) hf
  have f18 : v_iv (n_v vs 16) = v_iv (n_v vs 5) + v_iv (n_v vs 15) := f18
  have q2 : n_v vs 2 = n_v vs 0 := f4.symm
  rw [q2] at f5
  rw [q2] at f6
  rw [q2] at f7
  rw [q2] at f8
  rw [q2] at s3
  have cr_0_160 : ta (w_ar ws (n_v vs 0) 160) = some 259 := tv_rg (th_fd hD hth r0 (g := GG_150) rfl (k := 160) (t := (2, 0, 0, [259])) rfl rfl)
  have hK_0_160 : ∀ j : Int, 0 ≤ j → j < 2010 → 0 ≤ w_ei ws (w_ar ws (n_v vs 0) 160) j ∧ w_ei ws (w_ar ws (n_v vs 0) 160) j ≤ 4 := fun j h0 h1 => th_el hD hth cr_0_160 (kd := 0) (n := 2010) (m := 2010) (lo := 0) (hi := 4) (rs := []) (L := []) rfl (by decide) (j := j.toNat) (by omega)
  have kz_0_157 : 0 ≤ w_fi ws (n_v vs 0) 157 ∧ w_fi ws (n_v vs 0) 157 ≤ 2010 := tv_rng (th_fd hD hth r0 (g := GG_150) rfl (k := 157) (t := (0, 0, 2010, [])) rfl rfl)
  have kz_0_158 : 0 ≤ w_fi ws (n_v vs 0) 158 ∧ w_fi ws (n_v vs 0) 158 ≤ 2009 := tv_rng (th_fd hD hth r0 (g := GG_150) rfl (k := 158) (t := (0, 0, 2009, [])) rfl rfl)
  have kz_0_159 : 0 ≤ w_fi ws (n_v vs 0) 159 ∧ w_fi ws (n_v vs 0) 159 ≤ 13 := tv_rng (th_fd hD hth r0 (g := GG_150) rfl (k := 159) (t := (0, 0, 13, [])) rfl rfl)
  obtain ⟨x, ex, hx⟩ := iv_ex (ta := ta) (lo := 0) (hi := 2010) (z := 0 + (1 * v_iv (n_v vs 6) + 0)) (by omega) (by omega) (by omega) (by omega)
  have ex2 : v_iv (Value.int x) = 0 + (1 * v_iv (n_v vs 6) + 0) := ex
  have ex3 : 0 ≤ v_iv (Value.int x) ∧ v_iv (Value.int x) ≤ 2010 := tv_rng hx
  have e_0 : n_v (vs ++ [Value.int x]) 0 = n_v vs 0 := n_v_old (by rw [hl]; decide)
  have e_1 : n_v (vs ++ [Value.int x]) 1 = n_v vs 1 := n_v_old (by rw [hl]; decide)
  have e_2 : n_v (vs ++ [Value.int x]) 2 = n_v vs 2 := n_v_old (by rw [hl]; decide)
  have e_22 : n_v (vs ++ [Value.int x]) 22 = Value.int x := n_v_new hl
  have nf0 : fc_1 (20, [2], [50, 2, 1, 158, 157, 160, 2, 12, 0, 7, 4, 3, 2, 0, 158, 0, 1, 2, 0, 157, 2, 7, 0, 3, 2, 0, 157, 0, 2010, 3, 14, 1, 10, 3, 0, 160, 5, 3, 2, 0, 157, 0, 1, 0, 0, 1, 10, 3, 0, 160, 5, 3, 2, 0, 157, 0, 1, 0, 4]) ws (vs ++ [Value.int x]) := by
    refine ⟨fun n hn => ?_, ?_⟩
    · have hn : n ∈ [2] := hn
      rw [List.length_append, hl]
      simp only [List.mem_cons, List.not_mem_nil, or_false] at hn
      show n < 22 + 1; omega
    · show ((w_fi ws (n_v (vs ++ [Value.int x]) 2) 158 + 1) ≤ w_fi ws (n_v (vs ++ [Value.int x]) 2) 157) ∧ ((w_fi ws (n_v (vs ++ [Value.int x]) 2) 157 ≤ 2010) ∧ ((w_ei ws (w_ar ws (n_v (vs ++ [Value.int x]) 2) 160) ((w_fi ws (n_v (vs ++ [Value.int x]) 2) 157 - 1)) = 0) ∨ (w_ei ws (w_ar ws (n_v (vs ++ [Value.int x]) 2) 160) ((w_fi ws (n_v (vs ++ [Value.int x]) 2) 157 - 1)) = 4)))
      rw [e_2]
      rw [q2]
      first | omega | grind
  have nf1 : fc_1 (20, [1, 2], [30, 0, 1, 0, 0, -1, 1, 158]) ws (vs ++ [Value.int x]) := by
    refine ⟨fun n hn => ?_, ?_⟩
    · have hn : n ∈ [1, 2] := hn
      rw [List.length_append, hl]
      simp only [List.mem_cons, List.not_mem_nil, or_false] at hn
      show n < 22 + 1; omega
    · show 1 * v_iv (n_v (vs ++ [Value.int x]) 1) + ((-1) * w_fi ws (n_v (vs ++ [Value.int x]) 2) 158 + 0) ≤ 0
      rw [e_1]
      rw [e_2]
      rw [q2]
      omega
  have nf2 : fc_1 (20, [2], [30, 0, 1, 1, 159]) ws (vs ++ [Value.int x]) := by
    refine ⟨fun n hn => ?_, ?_⟩
    · have hn : n ∈ [2] := hn
      rw [List.length_append, hl]
      simp only [List.mem_cons, List.not_mem_nil, or_false] at hn
      show n < 22 + 1; omega
    · show 1 * w_fi ws (n_v (vs ++ [Value.int x]) 2) 159 + 0 ≤ 0
      rw [e_2]
      rw [q2]
      omega
  have nf3 : fc_1 (20, [2], [30, 0, -1, 1, 159]) ws (vs ++ [Value.int x]) := by
    refine ⟨fun n hn => ?_, ?_⟩
    · have hn : n ∈ [2] := hn
      rw [List.length_append, hl]
      simp only [List.mem_cons, List.not_mem_nil, or_false] at hn
      show n < 22 + 1; omega
    · show (-1) * w_fi ws (n_v (vs ++ [Value.int x]) 2) 159 + 0 ≤ 0
      rw [e_2]
      rw [q2]
      omega
  have nf4 : fc_1 (20, [22, 2], [30, -2011, -1, 0, 0, -1, 1, 158]) ws (vs ++ [Value.int x]) := by
    refine ⟨fun n hn => ?_, ?_⟩
    · have hn : n ∈ [22, 2] := hn
      rw [List.length_append, hl]
      simp only [List.mem_cons, List.not_mem_nil, or_false] at hn
      show n < 22 + 1; omega
    · show (-1) * v_iv (n_v (vs ++ [Value.int x]) 22) + ((-1) * w_fi ws (n_v (vs ++ [Value.int x]) 2) 158 + 0) ≤ (-2011)
      rw [e_2]
      rw [e_22]
      rw [q2]
      omega
  have nf5 : fc_1 (24, [0, 2], []) ws (vs ++ [Value.int x]) := by
    refine ⟨fun n hn => ?_, ?_⟩
    · have hn : n ∈ [0, 2] := hn
      rw [List.length_append, hl]
      simp only [List.mem_cons, List.not_mem_nil, or_false] at hn
      show n < 22 + 1; omega
    · show n_v (vs ++ [Value.int x]) 0 = n_v (vs ++ [Value.int x]) 2
      first | rfl | simp only [e_0, e_2, q2]
  obtain ⟨x0, e0, _, _⟩ := tv_int t6 rfl
  have e1 : v_iv (n_v vs 6) = x0.toInt := by rw [e0]; rfl
  have ho : sy_ofs (vs ++ [Value.int x]) (22, 6, 0, 0) := by
    refine ⟨x, x0, by rw [List.getElem?_append_right (by rw [hl]; decide), hl]; rfl, ?_, ?_, ?_⟩
    · rw [List.getElem?_append_left (by rw [hl]; decide)]; exact n_v_some (by rw [hl]; decide) e0
    · show x0.toInt + 0 ≤ x.toInt; omega
    · show x.toInt ≤ x0.toInt + 0; omega
  exact ⟨fun q hq => (by cases hq), [Value.int x], ag_one hx, List.forall_mem_cons.mpr ⟨⟨show (20 : Nat) < 100 from by decide, nf0⟩, List.forall_mem_cons.mpr ⟨⟨show (20 : Nat) < 100 from by decide, nf1⟩, List.forall_mem_cons.mpr ⟨⟨show (20 : Nat) < 100 from by decide, nf2⟩, List.forall_mem_cons.mpr ⟨⟨show (20 : Nat) < 100 from by decide, nf3⟩, List.forall_mem_cons.mpr ⟨⟨show (20 : Nat) < 100 from by decide, nf4⟩, List.forall_mem_cons.mpr ⟨⟨show (24 : Nat) < 100 from by decide, nf5⟩, (fun _ h => (by cases h))⟩⟩⟩⟩⟩⟩, List.forall_mem_cons.mpr ⟨ho, (fun _ h => (by cases h))⟩⟩
def o_Mo_rule_at_f0_29 : or_T := (275, 23, [(0, (2, 0, 0, [150])), (1, (0, 0, 2009, [])), (2, (2, 0, 0, [150])), (5, (0, 0, 2009, [])), (6, (0, 0, 2010, [])), (15, (0, 1, 1, [])), (16, (0, 1, 2009, [])), (18, (0, 0, 2009, [])), (19, (0, 0, 2009, []))], [(23, [1, 19], [0, 1, -1]), (23, [6, 19], [-2011, -1, -1]), (23, [1, 18], [0, 1, -1]), (23, [6, 18], [-2011, -1, -1]), (24, [0, 2], []), (20, [2], [50, 2, 1, 158, 157, 160, 2, 12, 0, 7, 4, 3, 2, 0, 158, 0, 1, 2, 0, 157, 2, 7, 0, 3, 2, 0, 157, 0, 2010, 3, 14, 1, 10, 3, 0, 160, 5, 3, 2, 0, 157, 0, 1, 0, 0, 1, 10, 3, 0, 160, 5, 3, 2, 0, 157, 0, 1, 0, 4]), (20, [19, 2], [30, 0, 1, 0, 0, -1, 1, 158]), (20, [2], [30, 0, 1, 1, 159]), (20, [2], [30, 0, -1, 1, 159]), (102, [19], [0, 13008, 13009, 13158, 13159]), (23, [1, 19], [0, 1, -1]), (23, [6, 19], [-2011, -1, -1]), (23, [1, 18], [0, 1, -1]), (23, [6, 18], [-2011, -1, -1]), (102, [18], [0, 13008, 13009, 13158]), (23, [1, 18], [0, 1, -1]), (23, [6, 18], [-2011, -1, -1]), (101, [2, 16], [158]), (1, [16, 5, 15], [])], [], [(0, 0, 2010, [])], [(20, [2], [50, 2, 1, 158, 157, 160, 2, 12, 0, 7, 4, 3, 2, 0, 158, 0, 1, 2, 0, 157, 2, 7, 0, 3, 2, 0, 157, 0, 2010, 3, 14, 1, 10, 3, 0, 160, 5, 3, 2, 0, 157, 0, 1, 0, 0, 1, 10, 3, 0, 160, 5, 3, 2, 0, 157, 0, 1, 0, 4]), (20, [1, 2], [30, 0, 1, 0, 0, -1, 1, 158]), (20, [2], [30, 0, 1, 1, 159]), (20, [2], [30, 0, -1, 1, 159]), (20, [23, 2], [30, -2011, -1, 0, 0, -1, 1, 158]), (24, [0, 2], [])], [(23, 6, 0, 0)], [(16, 5, 1, 1), (16, 1, -4294967296, 2010), (1, 5, -4294967296, 2009), (5, 1, -4294967296, 2009)])
theorem oo_Mo_rule_at_f0_29 {kA : Nat → ClassId} : or_ok kA GG o_Mo_rule_at_f0_29 := by
  intro A ta ws vs hD hth hl hk hds hf
  have hl : vs.length = 23 := hl
  have hk : ∀ q ∈ ([(0, (2, 0, 0, [150])), (1, (0, 0, 2009, [])), (2, (2, 0, 0, [150])), (5, (0, 0, 2009, [])), (6, (0, 0, 2010, [])), (15, (0, 1, 1, [])), (16, (0, 1, 2009, [])), (18, (0, 0, 2009, [])), (19, (0, 0, 2009, []))] : List (Nat × tv_T)), tv_ok ta q.2 (n_v vs q.1) := hk
  obtain ⟨t0, hk⟩ := List.forall_mem_cons.mp hk
  have t0 : tv_ok ta (2, 0, 0, [150]) (n_v vs 0) := t0
  have r0 : ta (v_ad (n_v vs 0)) = some 150 := tv_rg t0
  obtain ⟨t1, hk⟩ := List.forall_mem_cons.mp hk
  have t1 : tv_ok ta (0, 0, 2009, []) (n_v vs 1) := t1
  have k1 : 0 ≤ v_iv (n_v vs 1) ∧ v_iv (n_v vs 1) ≤ 2009 := tv_rng t1
  obtain ⟨t2, hk⟩ := List.forall_mem_cons.mp hk
  have t2 : tv_ok ta (2, 0, 0, [150]) (n_v vs 2) := t2
  have r2 : ta (v_ad (n_v vs 2)) = some 150 := tv_rg t2
  obtain ⟨t5, hk⟩ := List.forall_mem_cons.mp hk
  have t5 : tv_ok ta (0, 0, 2009, []) (n_v vs 5) := t5
  have k5 : 0 ≤ v_iv (n_v vs 5) ∧ v_iv (n_v vs 5) ≤ 2009 := tv_rng t5
  obtain ⟨t6, hk⟩ := List.forall_mem_cons.mp hk
  have t6 : tv_ok ta (0, 0, 2010, []) (n_v vs 6) := t6
  have k6 : 0 ≤ v_iv (n_v vs 6) ∧ v_iv (n_v vs 6) ≤ 2010 := tv_rng t6
  obtain ⟨t15, hk⟩ := List.forall_mem_cons.mp hk
  have t15 : tv_ok ta (0, 1, 1, []) (n_v vs 15) := t15
  have k15 : 1 ≤ v_iv (n_v vs 15) ∧ v_iv (n_v vs 15) ≤ 1 := tv_rng t15
  obtain ⟨t16, hk⟩ := List.forall_mem_cons.mp hk
  have t16 : tv_ok ta (0, 1, 2009, []) (n_v vs 16) := t16
  have k16 : 1 ≤ v_iv (n_v vs 16) ∧ v_iv (n_v vs 16) ≤ 2009 := tv_rng t16
  obtain ⟨t18, hk⟩ := List.forall_mem_cons.mp hk
  have t18 : tv_ok ta (0, 0, 2009, []) (n_v vs 18) := t18
  have k18 : 0 ≤ v_iv (n_v vs 18) ∧ v_iv (n_v vs 18) ≤ 2009 := tv_rng t18
  obtain ⟨t19, hk⟩ := List.forall_mem_cons.mp hk
  have t19 : tv_ok ta (0, 0, 2009, []) (n_v vs 19) := t19
  have k19 : 0 ≤ v_iv (n_v vs 19) ∧ v_iv (n_v vs 19) ≤ 2009 := tv_rng t19
  have hds : ∀ q ∈ ([(16, 5, 1, 1), (16, 1, -4294967296, 2010), (1, 5, -4294967296, 2009), (5, 1, -4294967296, 2009)] : List of_T), n_iv vs q.2.1 + q.2.2.1 ≤ n_iv vs q.1 ∧ n_iv vs q.1 ≤ n_iv vs q.2.1 + q.2.2.2 := hds
  obtain ⟨d0, hds⟩ := List.forall_mem_cons.mp hds
  have d0 : v_iv (n_v vs 5) + 1 ≤ v_iv (n_v vs 16) ∧ v_iv (n_v vs 16) ≤ v_iv (n_v vs 5) + 1 := d0
  obtain ⟨d1, hds⟩ := List.forall_mem_cons.mp hds
  have d1 : v_iv (n_v vs 1) + (-4294967296) ≤ v_iv (n_v vs 16) ∧ v_iv (n_v vs 16) ≤ v_iv (n_v vs 1) + 2010 := d1
  obtain ⟨d2, hds⟩ := List.forall_mem_cons.mp hds
  have d2 : v_iv (n_v vs 5) + (-4294967296) ≤ v_iv (n_v vs 1) ∧ v_iv (n_v vs 1) ≤ v_iv (n_v vs 5) + 2009 := d2
  obtain ⟨d3, hds⟩ := List.forall_mem_cons.mp hds
  have d3 : v_iv (n_v vs 1) + (-4294967296) ≤ v_iv (n_v vs 5) ∧ v_iv (n_v vs 5) ≤ v_iv (n_v vs 1) + 2009 := d3
  have hf : fc_ok [(23, [1, 19], [0, 1, -1]), (23, [6, 19], [-2011, -1, -1]), (23, [1, 18], [0, 1, -1]), (23, [6, 18], [-2011, -1, -1]), (24, [0, 2], []), (20, [2], [50, 2, 1, 158, 157, 160, 2, 12, 0, 7, 4, 3, 2, 0, 158, 0, 1, 2, 0, 157, 2, 7, 0, 3, 2, 0, 157, 0, 2010, 3, 14, 1, 10, 3, 0, 160, 5, 3, 2, 0, 157, 0, 1, 0, 0, 1, 10, 3, 0, 160, 5, 3, 2, 0, 157, 0, 1, 0, 4]), (20, [19, 2], [30, 0, 1, 0, 0, -1, 1, 158]), (20, [2], [30, 0, 1, 1, 159]), (20, [2], [30, 0, -1, 1, 159]), (102, [19], [0, 13008, 13009, 13158, 13159]), (23, [1, 19], [0, 1, -1]), (23, [6, 19], [-2011, -1, -1]), (23, [1, 18], [0, 1, -1]), (23, [6, 18], [-2011, -1, -1]), (102, [18], [0, 13008, 13009, 13158]), (23, [1, 18], [0, 1, -1]), (23, [6, 18], [-2011, -1, -1]), (101, [2, 16], [158]), (1, [16, 5, 15], [])] ta ws vs := hf
  obtain ⟨f0, hf⟩ := fc_un (show (23 : Nat) < 100 from by decide) hf
  have f0 : 1 * v_iv (n_v vs 1) + ((-1) * v_iv (n_v vs 19) + 0) ≤ 0 := f0
  obtain ⟨f1, hf⟩ := fc_un (show (23 : Nat) < 100 from by decide) hf
  have f1 : (-1) * v_iv (n_v vs 6) + ((-1) * v_iv (n_v vs 19) + 0) ≤ (-2011) := f1
  obtain ⟨f2, hf⟩ := fc_un (show (23 : Nat) < 100 from by decide) hf
  have f2 : 1 * v_iv (n_v vs 1) + ((-1) * v_iv (n_v vs 18) + 0) ≤ 0 := f2
  obtain ⟨f3, hf⟩ := fc_un (show (23 : Nat) < 100 from by decide) hf
  have f3 : (-1) * v_iv (n_v vs 6) + ((-1) * v_iv (n_v vs 18) + 0) ≤ (-2011) := f3
  obtain ⟨f4, hf⟩ := fc_un (show (24 : Nat) < 100 from by decide) hf
  have f4 : n_v vs 0 = n_v vs 2 := f4
  obtain ⟨f5, hf⟩ := fc_un (show (20 : Nat) < 100 from by decide) hf
  have f5 : ((w_fi ws (n_v vs 2) 158 + 1) ≤ w_fi ws (n_v vs 2) 157) ∧ ((w_fi ws (n_v vs 2) 157 ≤ 2010) ∧ ((w_ei ws (w_ar ws (n_v vs 2) 160) ((w_fi ws (n_v vs 2) 157 - 1)) = 0) ∨ (w_ei ws (w_ar ws (n_v vs 2) 160) ((w_fi ws (n_v vs 2) 157 - 1)) = 4))) := f5
  obtain ⟨f6, hf⟩ := fc_un (show (20 : Nat) < 100 from by decide) hf
  have f6 : 1 * v_iv (n_v vs 19) + ((-1) * w_fi ws (n_v vs 2) 158 + 0) ≤ 0 := f6
  obtain ⟨f7, hf⟩ := fc_un (show (20 : Nat) < 100 from by decide) hf
  have f7 : 1 * w_fi ws (n_v vs 2) 159 + 0 ≤ 0 := f7
  obtain ⟨f8, hf⟩ := fc_un (show (20 : Nat) < 100 from by decide) hf
  have f8 : (-1) * w_fi ws (n_v vs 2) 159 + 0 ≤ 0 := f8
  obtain ⟨ta1, w1, le1, ⟨_, s1⟩, hf⟩ := fc_us (show ¬ (102 : Nat) < 100 from by decide) hf
  obtain ⟨f10, hf⟩ := fc_un (show (23 : Nat) < 100 from by decide) hf
  have f10 : 1 * v_iv (n_v vs 1) + ((-1) * v_iv (n_v vs 19) + 0) ≤ 0 := f10
  obtain ⟨f11, hf⟩ := fc_un (show (23 : Nat) < 100 from by decide) hf
  have f11 : (-1) * v_iv (n_v vs 6) + ((-1) * v_iv (n_v vs 19) + 0) ≤ (-2011) := f11
  obtain ⟨f12, hf⟩ := fc_un (show (23 : Nat) < 100 from by decide) hf
  have f12 : 1 * v_iv (n_v vs 1) + ((-1) * v_iv (n_v vs 18) + 0) ≤ 0 := f12
  obtain ⟨f13, hf⟩ := fc_un (show (23 : Nat) < 100 from by decide) hf
  have f13 : (-1) * v_iv (n_v vs 6) + ((-1) * v_iv (n_v vs 18) + 0) ≤ (-2011) := f13
  obtain ⟨ta2, w2, le2, ⟨_, s2⟩, hf⟩ := fc_us (show ¬ (102 : Nat) < 100 from by decide) hf
  obtain ⟨f15, hf⟩ := fc_un (show (23 : Nat) < 100 from by decide) hf
  have f15 : 1 * v_iv (n_v vs 1) + ((-1) * v_iv (n_v vs 18) + 0) ≤ 0 := f15
  obtain ⟨f16, hf⟩ := fc_un (show (23 : Nat) < 100 from by decide) hf
  have f16 : (-1) * v_iv (n_v vs 6) + ((-1) * v_iv (n_v vs 18) + 0) ≤ (-2011) := f16
  obtain ⟨ta3, w3, le3, ⟨_, s3⟩, hf⟩ := fc_us (show ¬ (101 : Nat) < 100 from by decide) hf
  have s3 : (∀ b j, w_el w2 b j = w_el w3 b j) ∧ ∀ b j, w_fd w2 b j = if b = v_ad (n_v vs 2) ∧ j = 158 then n_v vs 16 else w_fd w3 b j := s3
  obtain ⟨f18, hf⟩ := fc_un (show (1 : Nat) < 100 from by decide) hf
  have f18 : v_iv (n_v vs 16) = v_iv (n_v vs 5) + v_iv (n_v vs 15) := f18
  have q2 : n_v vs 2 = n_v vs 0 := f4.symm
  rw [q2] at f5
  rw [q2] at f6
  rw [q2] at f7
  rw [q2] at f8
  rw [q2] at s3
  have cr_0_160 : ta (w_ar ws (n_v vs 0) 160) = some 259 := tv_rg (th_fd hD hth r0 (g := GG_150) rfl (k := 160) (t := (2, 0, 0, [259])) rfl rfl)
  have hK_0_160 : ∀ j : Int, 0 ≤ j → j < 2010 → 0 ≤ w_ei ws (w_ar ws (n_v vs 0) 160) j ∧ w_ei ws (w_ar ws (n_v vs 0) 160) j ≤ 4 := fun j h0 h1 => th_el hD hth cr_0_160 (kd := 0) (n := 2010) (m := 2010) (lo := 0) (hi := 4) (rs := []) (L := []) rfl (by decide) (j := j.toNat) (by omega)
  have kz_0_157 : 0 ≤ w_fi ws (n_v vs 0) 157 ∧ w_fi ws (n_v vs 0) 157 ≤ 2010 := tv_rng (th_fd hD hth r0 (g := GG_150) rfl (k := 157) (t := (0, 0, 2010, [])) rfl rfl)
  have kz_0_158 : 0 ≤ w_fi ws (n_v vs 0) 158 ∧ w_fi ws (n_v vs 0) 158 ≤ 2009 := tv_rng (th_fd hD hth r0 (g := GG_150) rfl (k := 158) (t := (0, 0, 2009, [])) rfl rfl)
  have kz_0_159 : 0 ≤ w_fi ws (n_v vs 0) 159 ∧ w_fi ws (n_v vs 0) 159 ≤ 13 := tv_rng (th_fd hD hth r0 (g := GG_150) rfl (k := 159) (t := (0, 0, 13, [])) rfl rfl)
  obtain ⟨x, ex, hx⟩ := iv_ex (ta := ta) (lo := 0) (hi := 2010) (z := 0 + (1 * v_iv (n_v vs 6) + 0)) (by omega) (by omega) (by omega) (by omega)
  have ex2 : v_iv (Value.int x) = 0 + (1 * v_iv (n_v vs 6) + 0) := ex
  have ex3 : 0 ≤ v_iv (Value.int x) ∧ v_iv (Value.int x) ≤ 2010 := tv_rng hx
  have e_0 : n_v (vs ++ [Value.int x]) 0 = n_v vs 0 := n_v_old (by rw [hl]; decide)
  have e_1 : n_v (vs ++ [Value.int x]) 1 = n_v vs 1 := n_v_old (by rw [hl]; decide)
  have e_2 : n_v (vs ++ [Value.int x]) 2 = n_v vs 2 := n_v_old (by rw [hl]; decide)
  have e_23 : n_v (vs ++ [Value.int x]) 23 = Value.int x := n_v_new hl
  have nf0 : fc_1 (20, [2], [50, 2, 1, 158, 157, 160, 2, 12, 0, 7, 4, 3, 2, 0, 158, 0, 1, 2, 0, 157, 2, 7, 0, 3, 2, 0, 157, 0, 2010, 3, 14, 1, 10, 3, 0, 160, 5, 3, 2, 0, 157, 0, 1, 0, 0, 1, 10, 3, 0, 160, 5, 3, 2, 0, 157, 0, 1, 0, 4]) ws (vs ++ [Value.int x]) := by
    refine ⟨fun n hn => ?_, ?_⟩
    · have hn : n ∈ [2] := hn
      rw [List.length_append, hl]
      simp only [List.mem_cons, List.not_mem_nil, or_false] at hn
      show n < 23 + 1; omega
    · show ((w_fi ws (n_v (vs ++ [Value.int x]) 2) 158 + 1) ≤ w_fi ws (n_v (vs ++ [Value.int x]) 2) 157) ∧ ((w_fi ws (n_v (vs ++ [Value.int x]) 2) 157 ≤ 2010) ∧ ((w_ei ws (w_ar ws (n_v (vs ++ [Value.int x]) 2) 160) ((w_fi ws (n_v (vs ++ [Value.int x]) 2) 157 - 1)) = 0) ∨ (w_ei ws (w_ar ws (n_v (vs ++ [Value.int x]) 2) 160) ((w_fi ws (n_v (vs ++ [Value.int x]) 2) 157 - 1)) = 4)))
      rw [e_2]
      rw [q2]
      first | omega | grind
  have nf1 : fc_1 (20, [1, 2], [30, 0, 1, 0, 0, -1, 1, 158]) ws (vs ++ [Value.int x]) := by
    refine ⟨fun n hn => ?_, ?_⟩
    · have hn : n ∈ [1, 2] := hn
      rw [List.length_append, hl]
      simp only [List.mem_cons, List.not_mem_nil, or_false] at hn
      show n < 23 + 1; omega
    · show 1 * v_iv (n_v (vs ++ [Value.int x]) 1) + ((-1) * w_fi ws (n_v (vs ++ [Value.int x]) 2) 158 + 0) ≤ 0
      rw [e_1]
      rw [e_2]
      rw [q2]
      omega
  have nf2 : fc_1 (20, [2], [30, 0, 1, 1, 159]) ws (vs ++ [Value.int x]) := by
    refine ⟨fun n hn => ?_, ?_⟩
    · have hn : n ∈ [2] := hn
      rw [List.length_append, hl]
      simp only [List.mem_cons, List.not_mem_nil, or_false] at hn
      show n < 23 + 1; omega
    · show 1 * w_fi ws (n_v (vs ++ [Value.int x]) 2) 159 + 0 ≤ 0
      rw [e_2]
      rw [q2]
      omega
  have nf3 : fc_1 (20, [2], [30, 0, -1, 1, 159]) ws (vs ++ [Value.int x]) := by
    refine ⟨fun n hn => ?_, ?_⟩
    · have hn : n ∈ [2] := hn
      rw [List.length_append, hl]
      simp only [List.mem_cons, List.not_mem_nil, or_false] at hn
      show n < 23 + 1; omega
    · show (-1) * w_fi ws (n_v (vs ++ [Value.int x]) 2) 159 + 0 ≤ 0
      rw [e_2]
      rw [q2]
      omega
  have nf4 : fc_1 (20, [23, 2], [30, -2011, -1, 0, 0, -1, 1, 158]) ws (vs ++ [Value.int x]) := by
    refine ⟨fun n hn => ?_, ?_⟩
    · have hn : n ∈ [23, 2] := hn
      rw [List.length_append, hl]
      simp only [List.mem_cons, List.not_mem_nil, or_false] at hn
      show n < 23 + 1; omega
    · show (-1) * v_iv (n_v (vs ++ [Value.int x]) 23) + ((-1) * w_fi ws (n_v (vs ++ [Value.int x]) 2) 158 + 0) ≤ (-2011)
      rw [e_2]
      rw [e_23]
      rw [q2]
      omega
  have nf5 : fc_1 (24, [0, 2], []) ws (vs ++ [Value.int x]) := by
    refine ⟨fun n hn => ?_, ?_⟩
    · have hn : n ∈ [0, 2] := hn
      rw [List.length_append, hl]
      simp only [List.mem_cons, List.not_mem_nil, or_false] at hn
      show n < 23 + 1; omega
    · show n_v (vs ++ [Value.int x]) 0 = n_v (vs ++ [Value.int x]) 2
      first | rfl | simp only [e_0, e_2, q2]
  obtain ⟨x0, e0, _, _⟩ := tv_int t6 rfl
  have e1 : v_iv (n_v vs 6) = x0.toInt := by rw [e0]; rfl
  have ho : sy_ofs (vs ++ [Value.int x]) (23, 6, 0, 0) := by
    refine ⟨x, x0, by rw [List.getElem?_append_right (by rw [hl]; decide), hl]; rfl, ?_, ?_, ?_⟩
    · rw [List.getElem?_append_left (by rw [hl]; decide)]; exact n_v_some (by rw [hl]; decide) e0
    · show x0.toInt + 0 ≤ x.toInt; omega
    · show x.toInt ≤ x0.toInt + 0; omega
  exact ⟨fun q hq => (by cases hq), [Value.int x], ag_one hx, List.forall_mem_cons.mpr ⟨⟨show (20 : Nat) < 100 from by decide, nf0⟩, List.forall_mem_cons.mpr ⟨⟨show (20 : Nat) < 100 from by decide, nf1⟩, List.forall_mem_cons.mpr ⟨⟨show (20 : Nat) < 100 from by decide, nf2⟩, List.forall_mem_cons.mpr ⟨⟨show (20 : Nat) < 100 from by decide, nf3⟩, List.forall_mem_cons.mpr ⟨⟨show (20 : Nat) < 100 from by decide, nf4⟩, List.forall_mem_cons.mpr ⟨⟨show (24 : Nat) < 100 from by decide, nf5⟩, (fun _ h => (by cases h))⟩⟩⟩⟩⟩⟩, List.forall_mem_cons.mpr ⟨ho, (fun _ h => (by cases h))⟩⟩
def o_Mo_rule_at_f0_30 : or_T := (275, 38, [(0, (2, 0, 0, [150])), (1, (0, 0, 2009, [])), (2, (2, 0, 0, [150])), (5, (0, 0, 2009, [])), (6, (0, 0, 2010, [])), (15, (0, 1, 1, [])), (16, (0, 1, 2009, [])), (18, (0, 0, 2009, [])), (19, (0, 0, 2009, [])), (23, (2, 0, 0, [198]))], [(23, [1, 19], [0, 1, -1]), (23, [6, 19], [-2011, -1, -1]), (23, [1, 18], [0, 1, -1]), (23, [6, 18], [-2011, -1, -1]), (24, [0, 2], []), (20, [2], [50, 2, 1, 158, 157, 160, 2, 12, 0, 7, 4, 3, 2, 0, 158, 0, 1, 2, 0, 157, 2, 7, 0, 3, 2, 0, 157, 0, 2010, 3, 14, 1, 10, 3, 0, 160, 5, 3, 2, 0, 157, 0, 1, 0, 0, 1, 10, 3, 0, 160, 5, 3, 2, 0, 157, 0, 1, 0, 4]), (20, [19, 2], [30, 0, 1, 0, 0, -1, 1, 158]), (20, [2], [30, 0, 1, 1, 159]), (20, [2], [30, 0, -1, 1, 159]), (100, [23, 34, 37], []), (9, [23, 2], [73]), (23, [1, 19], [0, 1, -1]), (23, [6, 19], [-2011, -1, -1]), (23, [1, 18], [0, 1, -1]), (23, [6, 18], [-2011, -1, -1]), (20, [2], [50, 2, 1, 158, 157, 160, 2, 12, 0, 7, 4, 3, 2, 0, 158, 0, 1, 2, 0, 157, 2, 7, 0, 3, 2, 0, 157, 0, 2010, 3, 14, 1, 10, 3, 0, 160, 5, 3, 2, 0, 157, 0, 1, 0, 0, 1, 10, 3, 0, 160, 5, 3, 2, 0, 157, 0, 1, 0, 4]), (20, [19, 2], [30, 0, 1, 0, 0, -1, 1, 158]), (20, [2], [30, 0, 1, 1, 159]), (20, [2], [30, 0, -1, 1, 159]), (102, [19], [0, 13008, 13009, 13158, 13159]), (23, [1, 19], [0, 1, -1]), (23, [6, 19], [-2011, -1, -1]), (23, [1, 18], [0, 1, -1]), (23, [6, 18], [-2011, -1, -1]), (102, [18], [0, 13008, 13009, 13158]), (23, [1, 18], [0, 1, -1]), (23, [6, 18], [-2011, -1, -1]), (101, [2, 16], [158]), (1, [16, 5, 15], [])], [], [(0, 0, 2010, [])], [(20, [2], [50, 2, 1, 158, 157, 160, 2, 12, 0, 7, 4, 3, 2, 0, 158, 0, 1, 2, 0, 157, 2, 7, 0, 3, 2, 0, 157, 0, 2010, 3, 14, 1, 10, 3, 0, 160, 5, 3, 2, 0, 157, 0, 1, 0, 0, 1, 10, 3, 0, 160, 5, 3, 2, 0, 157, 0, 1, 0, 4]), (20, [1, 2], [30, 0, 1, 0, 0, -1, 1, 158]), (20, [2], [30, 0, 1, 1, 159]), (20, [2], [30, 0, -1, 1, 159]), (20, [38, 2], [30, -2011, -1, 0, 0, -1, 1, 158]), (24, [0, 2], [])], [(38, 6, 0, 0)], [(16, 5, 1, 1), (16, 1, -4294967296, 2010), (1, 5, -4294967296, 2009), (5, 1, -4294967296, 2009)])
theorem oo_Mo_rule_at_f0_30 {kA : Nat → ClassId} : or_ok kA GG o_Mo_rule_at_f0_30 := by
  intro A ta ws vs hD hth hl hk hds hf
  have hl : vs.length = 38 := hl
  have hk : ∀ q ∈ ([(0, (2, 0, 0, [150])), (1, (0, 0, 2009, [])), (2, (2, 0, 0, [150])), (5, (0, 0, 2009, [])), (6, (0, 0, 2010, [])), (15, (0, 1, 1, [])), (16, (0, 1, 2009, [])), (18, (0, 0, 2009, [])), (19, (0, 0, 2009, [])), (23, (2, 0, 0, [198]))] : List (Nat × tv_T)), tv_ok ta q.2 (n_v vs q.1) := hk
  obtain ⟨t0, hk⟩ := List.forall_mem_cons.mp hk
  have t0 : tv_ok ta (2, 0, 0, [150]) (n_v vs 0) := t0
  have r0 : ta (v_ad (n_v vs 0)) = some 150 := tv_rg t0
  obtain ⟨t1, hk⟩ := List.forall_mem_cons.mp hk
  have t1 : tv_ok ta (0, 0, 2009, []) (n_v vs 1) := t1
  have k1 : 0 ≤ v_iv (n_v vs 1) ∧ v_iv (n_v vs 1) ≤ 2009 := tv_rng t1
  obtain ⟨t2, hk⟩ := List.forall_mem_cons.mp hk
  have t2 : tv_ok ta (2, 0, 0, [150]) (n_v vs 2) := t2
  have r2 : ta (v_ad (n_v vs 2)) = some 150 := tv_rg t2
  obtain ⟨t5, hk⟩ := List.forall_mem_cons.mp hk
  have t5 : tv_ok ta (0, 0, 2009, []) (n_v vs 5) := t5
  have k5 : 0 ≤ v_iv (n_v vs 5) ∧ v_iv (n_v vs 5) ≤ 2009 := tv_rng t5
  obtain ⟨t6, hk⟩ := List.forall_mem_cons.mp hk
  have t6 : tv_ok ta (0, 0, 2010, []) (n_v vs 6) := t6
  have k6 : 0 ≤ v_iv (n_v vs 6) ∧ v_iv (n_v vs 6) ≤ 2010 := tv_rng t6
  obtain ⟨t15, hk⟩ := List.forall_mem_cons.mp hk
  have t15 : tv_ok ta (0, 1, 1, []) (n_v vs 15) := t15
  have k15 : 1 ≤ v_iv (n_v vs 15) ∧ v_iv (n_v vs 15) ≤ 1 := tv_rng t15
  obtain ⟨t16, hk⟩ := List.forall_mem_cons.mp hk
  have t16 : tv_ok ta (0, 1, 2009, []) (n_v vs 16) := t16
  have k16 : 1 ≤ v_iv (n_v vs 16) ∧ v_iv (n_v vs 16) ≤ 2009 := tv_rng t16
  obtain ⟨t18, hk⟩ := List.forall_mem_cons.mp hk
  have t18 : tv_ok ta (0, 0, 2009, []) (n_v vs 18) := t18
  have k18 : 0 ≤ v_iv (n_v vs 18) ∧ v_iv (n_v vs 18) ≤ 2009 := tv_rng t18
  obtain ⟨t19, hk⟩ := List.forall_mem_cons.mp hk
  have t19 : tv_ok ta (0, 0, 2009, []) (n_v vs 19) := t19
  have k19 : 0 ≤ v_iv (n_v vs 19) ∧ v_iv (n_v vs 19) ≤ 2009 := tv_rng t19
  obtain ⟨t23, hk⟩ := List.forall_mem_cons.mp hk
  have t23 : tv_ok ta (2, 0, 0, [198]) (n_v vs 23) := t23
  have r23 : ta (v_ad (n_v vs 23)) = some 198 := tv_rg t23
  have hds : ∀ q ∈ ([(16, 5, 1, 1), (16, 1, -4294967296, 2010), (1, 5, -4294967296, 2009), (5, 1, -4294967296, 2009)] : List of_T), n_iv vs q.2.1 + q.2.2.1 ≤ n_iv vs q.1 ∧ n_iv vs q.1 ≤ n_iv vs q.2.1 + q.2.2.2 := hds
  obtain ⟨d0, hds⟩ := List.forall_mem_cons.mp hds
  have d0 : v_iv (n_v vs 5) + 1 ≤ v_iv (n_v vs 16) ∧ v_iv (n_v vs 16) ≤ v_iv (n_v vs 5) + 1 := d0
  obtain ⟨d1, hds⟩ := List.forall_mem_cons.mp hds
  have d1 : v_iv (n_v vs 1) + (-4294967296) ≤ v_iv (n_v vs 16) ∧ v_iv (n_v vs 16) ≤ v_iv (n_v vs 1) + 2010 := d1
  obtain ⟨d2, hds⟩ := List.forall_mem_cons.mp hds
  have d2 : v_iv (n_v vs 5) + (-4294967296) ≤ v_iv (n_v vs 1) ∧ v_iv (n_v vs 1) ≤ v_iv (n_v vs 5) + 2009 := d2
  obtain ⟨d3, hds⟩ := List.forall_mem_cons.mp hds
  have d3 : v_iv (n_v vs 1) + (-4294967296) ≤ v_iv (n_v vs 5) ∧ v_iv (n_v vs 5) ≤ v_iv (n_v vs 1) + 2009 := d3
  have hf : fc_ok [(23, [1, 19], [0, 1, -1]), (23, [6, 19], [-2011, -1, -1]), (23, [1, 18], [0, 1, -1]), (23, [6, 18], [-2011, -1, -1]), (24, [0, 2], []), (20, [2], [50, 2, 1, 158, 157, 160, 2, 12, 0, 7, 4, 3, 2, 0, 158, 0, 1, 2, 0, 157, 2, 7, 0, 3, 2, 0, 157, 0, 2010, 3, 14, 1, 10, 3, 0, 160, 5, 3, 2, 0, 157, 0, 1, 0, 0, 1, 10, 3, 0, 160, 5, 3, 2, 0, 157, 0, 1, 0, 4]), (20, [19, 2], [30, 0, 1, 0, 0, -1, 1, 158]), (20, [2], [30, 0, 1, 1, 159]), (20, [2], [30, 0, -1, 1, 159]), (100, [23, 34, 37], []), (9, [23, 2], [73]), (23, [1, 19], [0, 1, -1]), (23, [6, 19], [-2011, -1, -1]), (23, [1, 18], [0, 1, -1]), (23, [6, 18], [-2011, -1, -1]), (20, [2], [50, 2, 1, 158, 157, 160, 2, 12, 0, 7, 4, 3, 2, 0, 158, 0, 1, 2, 0, 157, 2, 7, 0, 3, 2, 0, 157, 0, 2010, 3, 14, 1, 10, 3, 0, 160, 5, 3, 2, 0, 157, 0, 1, 0, 0, 1, 10, 3, 0, 160, 5, 3, 2, 0, 157, 0, 1, 0, 4]), (20, [19, 2], [30, 0, 1, 0, 0, -1, 1, 158]), (20, [2], [30, 0, 1, 1, 159]), (20, [2], [30, 0, -1, 1, 159]), (102, [19], [0, 13008, 13009, 13158, 13159]), (23, [1, 19], [0, 1, -1]), (23, [6, 19], [-2011, -1, -1]), (23, [1, 18], [0, 1, -1]), (23, [6, 18], [-2011, -1, -1]), (102, [18], [0, 13008, 13009, 13158]), (23, [1, 18], [0, 1, -1]), (23, [6, 18], [-2011, -1, -1]), (101, [2, 16], [158]), (1, [16, 5, 15], [])] ta ws vs := hf
  obtain ⟨f0, hf⟩ := fc_un (show (23 : Nat) < 100 from by decide) hf
  have f0 : 1 * v_iv (n_v vs 1) + ((-1) * v_iv (n_v vs 19) + 0) ≤ 0 := f0
  obtain ⟨f1, hf⟩ := fc_un (show (23 : Nat) < 100 from by decide) hf
  have f1 : (-1) * v_iv (n_v vs 6) + ((-1) * v_iv (n_v vs 19) + 0) ≤ (-2011) := f1
  obtain ⟨f2, hf⟩ := fc_un (show (23 : Nat) < 100 from by decide) hf
  have f2 : 1 * v_iv (n_v vs 1) + ((-1) * v_iv (n_v vs 18) + 0) ≤ 0 := f2
  obtain ⟨f3, hf⟩ := fc_un (show (23 : Nat) < 100 from by decide) hf
  have f3 : (-1) * v_iv (n_v vs 6) + ((-1) * v_iv (n_v vs 18) + 0) ≤ (-2011) := f3
  obtain ⟨f4, hf⟩ := fc_un (show (24 : Nat) < 100 from by decide) hf
  have f4 : n_v vs 0 = n_v vs 2 := f4
  obtain ⟨f5, hf⟩ := fc_un (show (20 : Nat) < 100 from by decide) hf
  have f5 : ((w_fi ws (n_v vs 2) 158 + 1) ≤ w_fi ws (n_v vs 2) 157) ∧ ((w_fi ws (n_v vs 2) 157 ≤ 2010) ∧ ((w_ei ws (w_ar ws (n_v vs 2) 160) ((w_fi ws (n_v vs 2) 157 - 1)) = 0) ∨ (w_ei ws (w_ar ws (n_v vs 2) 160) ((w_fi ws (n_v vs 2) 157 - 1)) = 4))) := f5
  obtain ⟨f6, hf⟩ := fc_un (show (20 : Nat) < 100 from by decide) hf
  have f6 : 1 * v_iv (n_v vs 19) + ((-1) * w_fi ws (n_v vs 2) 158 + 0) ≤ 0 := f6
  obtain ⟨f7, hf⟩ := fc_un (show (20 : Nat) < 100 from by decide) hf
  have f7 : 1 * w_fi ws (n_v vs 2) 159 + 0 ≤ 0 := f7
  obtain ⟨f8, hf⟩ := fc_un (show (20 : Nat) < 100 from by decide) hf
  have f8 : (-1) * w_fi ws (n_v vs 2) 159 + 0 ≤ 0 := f8
  obtain ⟨ta1, w1, le1, ⟨_, s1⟩, hf⟩ := fc_us (show ¬ (100 : Nat) < 100 from by decide) hf
  have s1 : (∀ b j, w_el ws b j = if b = v_ad (n_v vs 23) ∧ j = (v_iv (n_v vs 34)).toNat then v_iv (n_v vs 37) else w_el w1 b j) ∧ ∀ b k, w_fd ws b k = w_fd w1 b k := s1
  obtain ⟨f10, hf⟩ := fc_un (show (9 : Nat) < 100 from by decide) hf
  have f10 : n_v vs 23 = w_fd w1 (v_ad (n_v vs 2)) 73 := f10
  obtain ⟨f11, hf⟩ := fc_un (show (23 : Nat) < 100 from by decide) hf
  have f11 : 1 * v_iv (n_v vs 1) + ((-1) * v_iv (n_v vs 19) + 0) ≤ 0 := f11
  obtain ⟨f12, hf⟩ := fc_un (show (23 : Nat) < 100 from by decide) hf
  have f12 : (-1) * v_iv (n_v vs 6) + ((-1) * v_iv (n_v vs 19) + 0) ≤ (-2011) := f12
  obtain ⟨f13, hf⟩ := fc_un (show (23 : Nat) < 100 from by decide) hf
  have f13 : 1 * v_iv (n_v vs 1) + ((-1) * v_iv (n_v vs 18) + 0) ≤ 0 := f13
  obtain ⟨f14, hf⟩ := fc_un (show (23 : Nat) < 100 from by decide) hf
  have f14 : (-1) * v_iv (n_v vs 6) + ((-1) * v_iv (n_v vs 18) + 0) ≤ (-2011) := f14
  obtain ⟨f15, hf⟩ := fc_un (show (20 : Nat) < 100 from by decide) hf
  have f15 : ((w_fi w1 (n_v vs 2) 158 + 1) ≤ w_fi w1 (n_v vs 2) 157) ∧ ((w_fi w1 (n_v vs 2) 157 ≤ 2010) ∧ ((w_ei w1 (w_ar w1 (n_v vs 2) 160) ((w_fi w1 (n_v vs 2) 157 - 1)) = 0) ∨ (w_ei w1 (w_ar w1 (n_v vs 2) 160) ((w_fi w1 (n_v vs 2) 157 - 1)) = 4))) := f15
  obtain ⟨f16, hf⟩ := fc_un (show (20 : Nat) < 100 from by decide) hf
  have f16 : 1 * v_iv (n_v vs 19) + ((-1) * w_fi w1 (n_v vs 2) 158 + 0) ≤ 0 := f16
  obtain ⟨f17, hf⟩ := fc_un (show (20 : Nat) < 100 from by decide) hf
  have f17 : 1 * w_fi w1 (n_v vs 2) 159 + 0 ≤ 0 := f17
  obtain ⟨f18, hf⟩ := fc_un (show (20 : Nat) < 100 from by decide) hf
  have f18 : (-1) * w_fi w1 (n_v vs 2) 159 + 0 ≤ 0 := f18
  obtain ⟨ta2, w2, le2, ⟨_, s2⟩, hf⟩ := fc_us (show ¬ (102 : Nat) < 100 from by decide) hf
  obtain ⟨f20, hf⟩ := fc_un (show (23 : Nat) < 100 from by decide) hf
  have f20 : 1 * v_iv (n_v vs 1) + ((-1) * v_iv (n_v vs 19) + 0) ≤ 0 := f20
  obtain ⟨f21, hf⟩ := fc_un (show (23 : Nat) < 100 from by decide) hf
  have f21 : (-1) * v_iv (n_v vs 6) + ((-1) * v_iv (n_v vs 19) + 0) ≤ (-2011) := f21
  obtain ⟨f22, hf⟩ := fc_un (show (23 : Nat) < 100 from by decide) hf
  have f22 : 1 * v_iv (n_v vs 1) + ((-1) * v_iv (n_v vs 18) + 0) ≤ 0 := f22
  obtain ⟨f23, hf⟩ := fc_un (show (23 : Nat) < 100 from by decide) hf
  have f23 : (-1) * v_iv (n_v vs 6) + ((-1) * v_iv (n_v vs 18) + 0) ≤ (-2011) := f23
  obtain ⟨ta3, w3, le3, ⟨_, s3⟩, hf⟩ := fc_us (show ¬ (102 : Nat) < 100 from by decide) hf
  obtain ⟨f25, hf⟩ := fc_un (show (23 : Nat) < 100 from by decide) hf
  have f25 : 1 * v_iv (n_v vs 1) + ((-1) * v_iv (n_v vs 18) + 0) ≤ 0 := f25
  obtain ⟨f26, hf⟩ := fc_un (show (23 : Nat) < 100 from by decide) hf
  have f26 : (-1) * v_iv (n_v vs 6) + ((-1) * v_iv (n_v vs 18) + 0) ≤ (-2011) := f26
  obtain ⟨ta4, w4, le4, ⟨_, s4⟩, hf⟩ := fc_us (show ¬ (101 : Nat) < 100 from by decide) hf
  have s4 : (∀ b j, w_el w3 b j = w_el w4 b j) ∧ ∀ b j, w_fd w3 b j = if b = v_ad (n_v vs 2) ∧ j = 158 then n_v vs 16 else w_fd w4 b j := s4
  obtain ⟨f28, hf⟩ := fc_un (show (1 : Nat) < 100 from by decide) hf
  have f28 : v_iv (n_v vs 16) = v_iv (n_v vs 5) + v_iv (n_v vs 15) := f28
  have q2 : n_v vs 2 = n_v vs 0 := f4.symm
  rw [q2] at f5
  rw [q2] at f6
  rw [q2] at f7
  rw [q2] at f8
  rw [q2] at f10
  rw [q2] at f15
  rw [q2] at f16
  rw [q2] at f17
  rw [q2] at f18
  rw [q2] at s4
  have ar_0_73_1 : w_ar w1 (n_v vs 0) 73 = w_ar ws (n_v vs 0) 73 := by show v_ad (w_fd w1 _ _) = v_ad (w_fd ws _ _); rw [s1.2]
  have cr_0_73 : ta (w_ar ws (n_v vs 0) 73) = some 198 := tv_rg (th_fd hD hth r0 (g := GG_150) rfl (k := 73) (t := (2, 0, 0, [198])) rfl rfl)
  have ar_0_160_1 : w_ar w1 (n_v vs 0) 160 = w_ar ws (n_v vs 0) 160 := by show v_ad (w_fd w1 _ _) = v_ad (w_fd ws _ _); rw [s1.2]
  have cr_0_160 : ta (w_ar ws (n_v vs 0) 160) = some 259 := tv_rg (th_fd hD hth r0 (g := GG_150) rfl (k := 160) (t := (2, 0, 0, [259])) rfl rfl)
  have ad_23 : v_ad (n_v vs 23) = w_ar ws (n_v vs 0) 73 := (congrArg v_ad f10).trans ar_0_73_1
  rw [ar_0_160_1] at f15
  have fe_0_157_1 : w_fi ws (n_v vs 0) 157 = w_fi w1 (n_v vs 0) 157 := congrArg v_iv (s1.2 _ _)
  have fe_0_158_1 : w_fi ws (n_v vs 0) 158 = w_fi w1 (n_v vs 0) 158 := congrArg v_iv (s1.2 _ _)
  have fe_0_159_1 : w_fi ws (n_v vs 0) 159 = w_fi w1 (n_v vs 0) 159 := congrArg v_iv (s1.2 _ _)
  have hE_0_160_1 : ∀ j : Int, w_ei ws (w_ar ws (n_v vs 0) 160) j = w_ei w1 (w_ar ws (n_v vs 0) 160) j := fun j => by unfold w_ei; rw [s1.1, if_neg (fun e => by have e1 := e.1; rw [← e1] at r23; rw [cr_0_160] at r23; exact absurd (Option.some.inj r23) (by decide))]
  have hK_0_160 : ∀ j : Int, 0 ≤ j → j < 2010 → 0 ≤ w_ei ws (w_ar ws (n_v vs 0) 160) j ∧ w_ei ws (w_ar ws (n_v vs 0) 160) j ≤ 4 := fun j h0 h1 => th_el hD hth cr_0_160 (kd := 0) (n := 2010) (m := 2010) (lo := 0) (hi := 4) (rs := []) (L := []) rfl (by decide) (j := j.toNat) (by omega)
  have kz_0_157 : 0 ≤ w_fi ws (n_v vs 0) 157 ∧ w_fi ws (n_v vs 0) 157 ≤ 2010 := tv_rng (th_fd hD hth r0 (g := GG_150) rfl (k := 157) (t := (0, 0, 2010, [])) rfl rfl)
  have kz_0_158 : 0 ≤ w_fi ws (n_v vs 0) 158 ∧ w_fi ws (n_v vs 0) 158 ≤ 2009 := tv_rng (th_fd hD hth r0 (g := GG_150) rfl (k := 158) (t := (0, 0, 2009, [])) rfl rfl)
  have kz_0_159 : 0 ≤ w_fi ws (n_v vs 0) 159 ∧ w_fi ws (n_v vs 0) 159 ≤ 13 := tv_rng (th_fd hD hth r0 (g := GG_150) rfl (k := 159) (t := (0, 0, 13, [])) rfl rfl)
  obtain ⟨x, ex, hx⟩ := iv_ex (ta := ta) (lo := 0) (hi := 2010) (z := 0 + (1 * v_iv (n_v vs 6) + 0)) (by omega) (by omega) (by omega) (by omega)
  have ex2 : v_iv (Value.int x) = 0 + (1 * v_iv (n_v vs 6) + 0) := ex
  have ex3 : 0 ≤ v_iv (Value.int x) ∧ v_iv (Value.int x) ≤ 2010 := tv_rng hx
  have e_0 : n_v (vs ++ [Value.int x]) 0 = n_v vs 0 := n_v_old (by rw [hl]; decide)
  have e_1 : n_v (vs ++ [Value.int x]) 1 = n_v vs 1 := n_v_old (by rw [hl]; decide)
  have e_2 : n_v (vs ++ [Value.int x]) 2 = n_v vs 2 := n_v_old (by rw [hl]; decide)
  have e_38 : n_v (vs ++ [Value.int x]) 38 = Value.int x := n_v_new hl
  have nf0 : fc_1 (20, [2], [50, 2, 1, 158, 157, 160, 2, 12, 0, 7, 4, 3, 2, 0, 158, 0, 1, 2, 0, 157, 2, 7, 0, 3, 2, 0, 157, 0, 2010, 3, 14, 1, 10, 3, 0, 160, 5, 3, 2, 0, 157, 0, 1, 0, 0, 1, 10, 3, 0, 160, 5, 3, 2, 0, 157, 0, 1, 0, 4]) ws (vs ++ [Value.int x]) := by
    refine ⟨fun n hn => ?_, ?_⟩
    · have hn : n ∈ [2] := hn
      rw [List.length_append, hl]
      simp only [List.mem_cons, List.not_mem_nil, or_false] at hn
      show n < 38 + 1; omega
    · show ((w_fi ws (n_v (vs ++ [Value.int x]) 2) 158 + 1) ≤ w_fi ws (n_v (vs ++ [Value.int x]) 2) 157) ∧ ((w_fi ws (n_v (vs ++ [Value.int x]) 2) 157 ≤ 2010) ∧ ((w_ei ws (w_ar ws (n_v (vs ++ [Value.int x]) 2) 160) ((w_fi ws (n_v (vs ++ [Value.int x]) 2) 157 - 1)) = 0) ∨ (w_ei ws (w_ar ws (n_v (vs ++ [Value.int x]) 2) 160) ((w_fi ws (n_v (vs ++ [Value.int x]) 2) 157 - 1)) = 4)))
      rw [e_2]
      rw [q2]
      first | omega | grind
  have nf1 : fc_1 (20, [1, 2], [30, 0, 1, 0, 0, -1, 1, 158]) ws (vs ++ [Value.int x]) := by
    refine ⟨fun n hn => ?_, ?_⟩
    · have hn : n ∈ [1, 2] := hn
      rw [List.length_append, hl]
      simp only [List.mem_cons, List.not_mem_nil, or_false] at hn
      show n < 38 + 1; omega
    · show 1 * v_iv (n_v (vs ++ [Value.int x]) 1) + ((-1) * w_fi ws (n_v (vs ++ [Value.int x]) 2) 158 + 0) ≤ 0
      rw [e_1]
      rw [e_2]
      rw [q2]
      omega
  have nf2 : fc_1 (20, [2], [30, 0, 1, 1, 159]) ws (vs ++ [Value.int x]) := by
    refine ⟨fun n hn => ?_, ?_⟩
    · have hn : n ∈ [2] := hn
      rw [List.length_append, hl]
      simp only [List.mem_cons, List.not_mem_nil, or_false] at hn
      show n < 38 + 1; omega
    · show 1 * w_fi ws (n_v (vs ++ [Value.int x]) 2) 159 + 0 ≤ 0
      rw [e_2]
      rw [q2]
      omega
  have nf3 : fc_1 (20, [2], [30, 0, -1, 1, 159]) ws (vs ++ [Value.int x]) := by
    refine ⟨fun n hn => ?_, ?_⟩
    · have hn : n ∈ [2] := hn
      rw [List.length_append, hl]
      simp only [List.mem_cons, List.not_mem_nil, or_false] at hn
      show n < 38 + 1; omega
    · show (-1) * w_fi ws (n_v (vs ++ [Value.int x]) 2) 159 + 0 ≤ 0
      rw [e_2]
      rw [q2]
      omega
  have nf4 : fc_1 (20, [38, 2], [30, -2011, -1, 0, 0, -1, 1, 158]) ws (vs ++ [Value.int x]) := by
    refine ⟨fun n hn => ?_, ?_⟩
    · have hn : n ∈ [38, 2] := hn
      rw [List.length_append, hl]
      simp only [List.mem_cons, List.not_mem_nil, or_false] at hn
      show n < 38 + 1; omega
    · show (-1) * v_iv (n_v (vs ++ [Value.int x]) 38) + ((-1) * w_fi ws (n_v (vs ++ [Value.int x]) 2) 158 + 0) ≤ (-2011)
      rw [e_2]
      rw [e_38]
      rw [q2]
      omega
  have nf5 : fc_1 (24, [0, 2], []) ws (vs ++ [Value.int x]) := by
    refine ⟨fun n hn => ?_, ?_⟩
    · have hn : n ∈ [0, 2] := hn
      rw [List.length_append, hl]
      simp only [List.mem_cons, List.not_mem_nil, or_false] at hn
      show n < 38 + 1; omega
    · show n_v (vs ++ [Value.int x]) 0 = n_v (vs ++ [Value.int x]) 2
      first | rfl | simp only [e_0, e_2, q2]
  obtain ⟨x0, e0, _, _⟩ := tv_int t6 rfl
  have e1 : v_iv (n_v vs 6) = x0.toInt := by rw [e0]; rfl
  have ho : sy_ofs (vs ++ [Value.int x]) (38, 6, 0, 0) := by
    refine ⟨x, x0, by rw [List.getElem?_append_right (by rw [hl]; decide), hl]; rfl, ?_, ?_, ?_⟩
    · rw [List.getElem?_append_left (by rw [hl]; decide)]; exact n_v_some (by rw [hl]; decide) e0
    · show x0.toInt + 0 ≤ x.toInt; omega
    · show x.toInt ≤ x0.toInt + 0; omega
  exact ⟨fun q hq => (by cases hq), [Value.int x], ag_one hx, List.forall_mem_cons.mpr ⟨⟨show (20 : Nat) < 100 from by decide, nf0⟩, List.forall_mem_cons.mpr ⟨⟨show (20 : Nat) < 100 from by decide, nf1⟩, List.forall_mem_cons.mpr ⟨⟨show (20 : Nat) < 100 from by decide, nf2⟩, List.forall_mem_cons.mpr ⟨⟨show (20 : Nat) < 100 from by decide, nf3⟩, List.forall_mem_cons.mpr ⟨⟨show (20 : Nat) < 100 from by decide, nf4⟩, List.forall_mem_cons.mpr ⟨⟨show (24 : Nat) < 100 from by decide, nf5⟩, (fun _ h => (by cases h))⟩⟩⟩⟩⟩⟩, List.forall_mem_cons.mpr ⟨ho, (fun _ h => (by cases h))⟩⟩
