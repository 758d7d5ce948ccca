def o_Mo_rule_at_f0_31 : or_T := (275, 37, [(0, (2, 0, 0, [150])), (1, (0, 0, 2009, [])), (2, (2, 0, 0, [150])), (5, (0, 0, 2009, [])), (6, (0, 0, 2010, [])), (15, (0, 1, 1, [])), (16, (0, 1, 2009, [])), (18, (0, 0, 2009, [])), (19, (0, 0, 2009, [])), (23, (2, 0, 0, [198]))], [(23, [1, 19], [0, 1, -1]), (23, [6, 19], [-2011, -1, -1]), (23, [1, 18], [0, 1, -1]), (23, [6, 18], [-2011, -1, -1]), (24, [0, 2], []), (20, [2], [50, 2, 1, 158, 157, 160, 2, 12, 0, 7, 4, 3, 2, 0, 158, 0, 1, 2, 0, 157, 2, 7, 0, 3, 2, 0, 157, 0, 2010, 3, 14, 1, 10, 3, 0, 160, 5, 3, 2, 0, 157, 0, 1, 0, 0, 1, 10, 3, 0, 160, 5, 3, 2, 0, 157, 0, 1, 0, 4]), (20, [19, 2], [30, 0, 1, 0, 0, -1, 1, 158]), (20, [2], [30, 0, 1, 1, 159]), (20, [2], [30, 0, -1, 1, 159]), (100, [23, 34, 36], []), (9, [23, 2], [73]), (23, [1, 19], [0, 1, -1]), (23, [6, 19], [-2011, -1, -1]), (23, [1, 18], [0, 1, -1]), (23, [6, 18], [-2011, -1, -1]), (20, [2], [50, 2, 1, 158, 157, 160, 2, 12, 0, 7, 4, 3, 2, 0, 158, 0, 1, 2, 0, 157, 2, 7, 0, 3, 2, 0, 157, 0, 2010, 3, 14, 1, 10, 3, 0, 160, 5, 3, 2, 0, 157, 0, 1, 0, 0, 1, 10, 3, 0, 160, 5, 3, 2, 0, 157, 0, 1, 0, 4]), (20, [19, 2], [30, 0, 1, 0, 0, -1, 1, 158]), (20, [2], [30, 0, 1, 1, 159]), (20, [2], [30, 0, -1, 1, 159]), (102, [19], [0, 13008, 13009, 13158, 13159]), (23, [1, 19], [0, 1, -1]), (23, [6, 19], [-2011, -1, -1]), (23, [1, 18], [0, 1, -1]), (23, [6, 18], [-2011, -1, -1]), (102, [18], [0, 13008, 13009, 13158]), (23, [1, 18], [0, 1, -1]), (23, [6, 18], [-2011, -1, -1]), (101, [2, 16], [158]), (1, [16, 5, 15], [])], [], [(0, 0, 2010, [])], [(20, [2], [50, 2, 1, 158, 157, 160, 2, 12, 0, 7, 4, 3, 2, 0, 158, 0, 1, 2, 0, 157, 2, 7, 0, 3, 2, 0, 157, 0, 2010, 3, 14, 1, 10, 3, 0, 160, 5, 3, 2, 0, 157, 0, 1, 0, 0, 1, 10, 3, 0, 160, 5, 3, 2, 0, 157, 0, 1, 0, 4]), (20, [1, 2], [30, 0, 1, 0, 0, -1, 1, 158]), (20, [2], [30, 0, 1, 1, 159]), (20, [2], [30, 0, -1, 1, 159]), (20, [37, 2], [30, -2011, -1, 0, 0, -1, 1, 158]), (24, [0, 2], [])], [(37, 6, 0, 0)], [(16, 5, 1, 1), (16, 1, -4294967296, 2010), (1, 5, -4294967296, 2009), (5, 1, -4294967296, 2009)])
theorem oo_Mo_rule_at_f0_31 {kA : Nat → ClassId} : or_ok kA GG o_Mo_rule_at_f0_31 := by
  intro A ta ws vs hD hth hl hk hds hf
  have hl : vs.length = 37 := hl
  have hk : ∀ q ∈ ([(0, (2, 0, 0, [150])), (1, (0, 0, 2009, [])), (2, (2, 0, 0, [150])), (5, (0, 0, 2009, [])), (6, (0, 0, 2010, [])), (15, (0, 1, 1, [])), (16, (0, 1, 2009, [])), (18, (0, 0, 2009, [])), (19, (0, 0, 2009, [])), (23, (2, 0, 0, [198]))] : List (Nat × tv_T)), tv_ok ta q.2 (n_v vs q.1) := hk
  obtain ⟨t0, hk⟩ := List.forall_mem_cons.mp hk
  have t0 : tv_ok ta (2, 0, 0, [150]) (n_v vs 0) := t0
  have r0 : ta (v_ad (n_v vs 0)) = some 150 := tv_rg t0
  obtain ⟨t1, hk⟩ := List.forall_mem_cons.mp hk
  have t1 : tv_ok ta (0, 0, 2009, []) (n_v vs 1) := t1
  have k1 : 0 ≤ v_iv (n_v vs 1) ∧ v_iv (n_v vs 1) ≤ 2009 := tv_rng t1
  obtain ⟨t2, hk⟩ := List.forall_mem_cons.mp hk
  have t2 : tv_ok ta (2, 0, 0, [150]) (n_v vs 2) := t2
  have r2 : ta (v_ad (n_v vs 2)) = some 150 := tv_rg t2
  obtain ⟨t5, hk⟩ := List.forall_mem_cons.mp hk
  have t5 : tv_ok ta (0, 0, 2009, []) (n_v vs 5) := t5
  have k5 : 0 ≤ v_iv (n_v vs 5) ∧ v_iv (n_v vs 5) ≤ 2009 := tv_rng t5
  obtain ⟨t6, hk⟩ := List.forall_mem_cons.mp hk
  have t6 : tv_ok ta (0, 0, 2010, []) (n_v vs 6) := t6
  have k6 : 0 ≤ v_iv (n_v vs 6) ∧ v_iv (n_v vs 6) ≤ 2010 := tv_rng t6
  obtain ⟨t15, hk⟩ := List.forall_mem_cons.mp hk
  have t15 : tv_ok ta (0, 1, 1, []) (n_v vs 15) := t15
  have k15 : 1 ≤ v_iv (n_v vs 15) ∧ v_iv (n_v vs 15) ≤ 1 := tv_rng t15
  obtain ⟨t16, hk⟩ := List.forall_mem_cons.mp hk
  have t16 : tv_ok ta (0, 1, 2009, []) (n_v vs 16) := t16
  have k16 : 1 ≤ v_iv (n_v vs 16) ∧ v_iv (n_v vs 16) ≤ 2009 := tv_rng t16
  obtain ⟨t18, hk⟩ := List.forall_mem_cons.mp hk
  have t18 : tv_ok ta (0, 0, 2009, []) (n_v vs 18) := t18
  have k18 : 0 ≤ v_iv (n_v vs 18) ∧ v_iv (n_v vs 18) ≤ 2009 := tv_rng t18
  obtain ⟨t19, hk⟩ := List.forall_mem_cons.mp hk
  have t19 : tv_ok ta (0, 0, 2009, []) (n_v vs 19) := t19
  have k19 : 0 ≤ v_iv (n_v vs 19) ∧ v_iv (n_v vs 19) ≤ 2009 := tv_rng t19
  obtain ⟨t23, hk⟩ := List.forall_mem_cons.mp hk
  have t23 : tv_ok ta (2, 0, 0, [198]) (n_v vs 23) := t23
  have r23 : ta (v_ad (n_v vs 23)) = some 198 := tv_rg t23
  have hds : ∀ q ∈ ([(16, 5, 1, 1), (16, 1, -4294967296, 2010), (1, 5, -4294967296, 2009), (5, 1, -4294967296, 2009)] : List of_T), n_iv vs q.2.1 + q.2.2.1 ≤ n_iv vs q.1 ∧ n_iv vs q.1 ≤ n_iv vs q.2.1 + q.2.2.2 := hds
  obtain ⟨d0, hds⟩ := List.forall_mem_cons.mp hds
  have d0 : v_iv (n_v vs 5) + 1 ≤ v_iv (n_v vs 16) ∧ v_iv (n_v vs 16) ≤ v_iv (n_v vs 5) + 1 := d0
  obtain ⟨d1, hds⟩ := List.forall_mem_cons.mp hds
  have d1 : v_iv (n_v vs 1) + (-4294967296) ≤ v_iv (n_v vs 16) ∧ v_iv (n_v vs 16) ≤ v_iv (n_v vs 1) + 2010 := d1
  obtain ⟨d2, hds⟩ := List.forall_mem_cons.mp hds
  have d2 : v_iv (n_v vs 5) + (-4294967296) ≤ v_iv (n_v vs 1) ∧ v_iv (n_v vs 1) ≤ v_iv (n_v vs 5) + 2009 := d2
  obtain ⟨d3, hds⟩ := List.forall_mem_cons.mp hds
  have d3 : v_iv (n_v vs 1) + (-4294967296) ≤ v_iv (n_v vs 5) ∧ v_iv (n_v vs 5) ≤ v_iv (n_v vs 1) + 2009 := d3
  have hf : fc_ok [(23, [1, 19], [0, 1, -1]), (23, [6, 19], [-2011, -1, -1]), (23, [1, 18], [0, 1, -1]), (23, [6, 18], [-2011, -1, -1]), (24, [0, 2], []), (20, [2], [50, 2, 1, 158, 157, 160, 2, 12, 0, 7, 4, 3, 2, 0, 158, 0, 1, 2, 0, 157, 2, 7, 0, 3, 2, 0, 157, 0, 2010, 3, 14, 1, 10, 3, 0, 160, 5, 3, 2, 0, 157, 0, 1, 0, 0, 1, 10, 3, 0, 160, 5, 3, 2, 0, 157, 0, 1, 0, 4]), (20, [19, 2], [30, 0, 1, 0, 0, -1, 1, 158]), (20, [2], [30, 0, 1, 1, 159]), (20, [2], [30, 0, -1, 1, 159]), (100, [23, 34, 36], []), (9, [23, 2], [73]), (23, [1, 19], [0, 1, -1]), (23, [6, 19], [-2011, -1, -1]), (23, [1, 18], [0, 1, -1]), (23, [6, 18], [-2011, -1, -1]), (20, [2], [50, 2, 1, 158, 157, 160, 2, 12, 0, 7, 4, 3, 2, 0, 158, 0, 1, 2, 0, 157, 2, 7, 0, 3, 2, 0, 157, 0, 2010, 3, 14, 1, 10, 3, 0, 160, 5, 3, 2, 0, 157, 0, 1, 0, 0, 1, 10, 3, 0, 160, 5, 3, 2, 0, 157, 0, 1, 0, 4]), (20, [19, 2], [30, 0, 1, 0, 0, -1, 1, 158]), (20, [2], [30, 0, 1, 1, 159]), (20, [2], [30, 0, -1, 1, 159]), (102, [19], [0, 13008, 13009, 13158, 13159]), (23, [1, 19], [0, 1, -1]), (23, [6, 19], [-2011, -1, -1]), (23, [1, 18], [0, 1, -1]), (23, [6, 18], [-2011, -1, -1]), (102, [18], [0, 13008, 13009, 13158]), (23, [1, 18], [0, 1, -1]), (23, [6, 18], [-2011, -1, -1]), (101, [2, 16], [158]), (1, [16, 5, 15], [])] ta ws vs := hf
  obtain ⟨f0, hf⟩ := fc_un (show (23 : Nat) < 100 from by decide) hf
  have f0 : 1 * v_iv (n_v vs 1) + ((-1) * v_iv (n_v vs 19) + 0) ≤ 0 := f0
  obtain ⟨f1, hf⟩ := fc_un (show (23 : Nat) < 100 from by decide) hf
  have f1 : (-1) * v_iv (n_v vs 6) + ((-1) * v_iv (n_v vs 19) + 0) ≤ (-2011) := f1
  obtain ⟨f2, hf⟩ := fc_un (show (23 : Nat) < 100 from by decide) hf
  have f2 : 1 * v_iv (n_v vs 1) + ((-1) * v_iv (n_v vs 18) + 0) ≤ 0 := f2
  obtain ⟨f3, hf⟩ := fc_un (show (23 : Nat) < 100 from by decide) hf
  have f3 : (-1) * v_iv (n_v vs 6) + ((-1) * v_iv (n_v vs 18) + 0) ≤ (-2011) := f3
  obtain ⟨f4, hf⟩ := fc_un (show (24 : Nat) < 100 from by decide) hf
  have f4 : n_v vs 0 = n_v vs 2 := f4
  obtain ⟨f5, hf⟩ := fc_un (show (20 : Nat) < 100 from by decide) hf
  have f5 : ((w_fi ws (n_v vs 2) 158 + 1) ≤ w_fi ws (n_v vs 2) 157) ∧ ((w_fi ws (n_v vs 2) 157 ≤ 2010) ∧ ((w_ei ws (w_ar ws (n_v vs 2) 160) ((w_fi ws (n_v vs 2) 157 - 1)) = 0) ∨ (w_ei ws (w_ar ws (n_v vs 2) 160) ((w_fi ws (n_v vs 2) 157 - 1)) = 4))) := f5
  obtain ⟨f6, hf⟩ := fc_un (show (20 : Nat) < 100 from by decide) hf
  have f6 : 1 * v_iv (n_v vs 19) + ((-1) * w_fi ws (n_v vs 2) 158 + 0) ≤ 0 := f6
  obtain ⟨f7, hf⟩ := fc_un (show (20 : Nat) < 100 from by decide) hf
  have f7 : 1 * w_fi ws (n_v vs 2) 159 + 0 ≤ 0 := f7
  obtain ⟨f8, hf⟩ := fc_un (show (20 : Nat) < 100 from by decide) hf
  have f8 : (-1) * w_fi ws (n_v vs 2) 159 + 0 ≤ 0 := f8
  obtain ⟨ta1, w1, le1, ⟨_, s1⟩, hf⟩ := fc_us (show ¬ (100 : Nat) < 100 from by decide) hf
  have s1 : (∀ b j, w_el ws b j = if b = v_ad (n_v vs 23) ∧ j = (v_iv (n_v vs 34)).toNat then v_iv (n_v vs 36) else w_el w1 b j) ∧ ∀ b k, w_fd ws b k = w_fd w1 b k := s1
  obtain ⟨f10, hf⟩ := fc_un (show (9 : Nat) < 100 from by decide) hf
  have f10 : n_v vs 23 = w_fd w1 (v_ad (n_v vs 2)) 73 := f10
  obtain ⟨f11, hf⟩ := fc_un (show (23 : Nat) < 100 from by decide) hf
  have f11 : 1 * v_iv (n_v vs 1) + ((-1) * v_iv (n_v vs 19) + 0) ≤ 0 := f11
  obtain ⟨f12, hf⟩ := fc_un (show (23 : Nat) < 100 from by decide) hf
  have f12 : (-1) * v_iv (n_v vs 6) + ((-1) * v_iv (n_v vs 19) + 0) ≤ (-2011) := f12
  obtain ⟨f13, hf⟩ := fc_un (show (23 : Nat) < 100 from by decide) hf
  have f13 : 1 * v_iv (n_v vs 1) + ((-1) * v_iv (n_v vs 18) + 0) ≤ 0 := f13
  obtain ⟨f14, hf⟩ := fc_un (show (23 : Nat) < 100 from by decide) hf
  have f14 : (-1) * v_iv (n_v vs 6) + ((-1) * v_iv (n_v vs 18) + 0) ≤ (-2011) := f14
  obtain ⟨f15, hf⟩ := fc_un (show (20 : Nat) < 100 from by decide) hf
  have f15 : ((w_fi w1 (n_v vs 2) 158 + 1) ≤ w_fi w1 (n_v vs 2) 157) ∧ ((w_fi w1 (n_v vs 2) 157 ≤ 2010) ∧ ((w_ei w1 (w_ar w1 (n_v vs 2) 160) ((w_fi w1 (n_v vs 2) 157 - 1)) = 0) ∨ (w_ei w1 (w_ar w1 (n_v vs 2) 160) ((w_fi w1 (n_v vs 2) 157 - 1)) = 4))) := f15
  obtain ⟨f16, hf⟩ := fc_un (show (20 : Nat) < 100 from by decide) hf
  have f16 : 1 * v_iv (n_v vs 19) + ((-1) * w_fi w1 (n_v vs 2) 158 + 0) ≤ 0 := f16
  obtain ⟨f17, hf⟩ := fc_un (show (20 : Nat) < 100 from by decide) hf
  have f17 : 1 * w_fi w1 (n_v vs 2) 159 + 0 ≤ 0 := f17
  obtain ⟨f18, hf⟩ := fc_un (show (20 : Nat) < 100 from by decide) hf
  have f18 : (-1) * w_fi w1 (n_v vs 2) 159 + 0 ≤ 0 := f18
  obtain ⟨ta2, w2, le2, ⟨_, s2⟩, hf⟩ := fc_us (show ¬ (102 : Nat) < 100 from by decide) hf
  obtain ⟨f20, hf⟩ := fc_un (show (23 : Nat) < 100 from by decide) hf
  have f20 : 1 * v_iv (n_v vs 1) + ((-1) * v_iv (n_v vs 19) + 0) ≤ 0 := f20
  obtain ⟨f21, hf⟩ := fc_un (show (23 : Nat) < 100 from by decide) hf
  have f21 : (-1) * v_iv (n_v vs 6) + ((-1) * v_iv (n_v vs 19) + 0) ≤ (-2011) := f21
  obtain ⟨f22, hf⟩ := fc_un (show (23 : Nat) < 100 from by decide) hf
  have f22 : 1 * v_iv (n_v vs 1) + ((-1) * v_iv (n_v vs 18) + 0) ≤ 0 := f22
  obtain ⟨f23, hf⟩ := fc_un (show (23 : Nat) < 100 from by decide) hf
  have f23 : (-1) * v_iv (n_v vs 6) + ((-1) * v_iv (n_v vs 18) + 0) ≤ (-2011) := f23
  obtain ⟨ta3, w3, le3, ⟨_, s3⟩, hf⟩ := fc_us (show ¬ (102 : Nat) < 100 from by decide) hf
  obtain ⟨f25, hf⟩ := fc_un (show (23 : Nat) < 100 from by decide) hf
  have f25 : 1 * v_iv (n_v vs 1) + ((-1) * v_iv (n_v vs 18) + 0) ≤ 0 := f25
  obtain ⟨f26, hf⟩ := fc_un (show (23 : Nat) < 100 from by decide) hf
  have f26 : (-1) * v_iv (n_v vs 6) + ((-1) * v_iv (n_v vs 18) + 0) ≤ (-2011) := f26
  obtain ⟨ta4, w4, le4, ⟨_, s4⟩, hf⟩ := fc_us (show ¬ (101 : Nat) < 100 from by decide) hf
  have s4 : (∀ b j, w_el w3 b j = w_el w4 b j) ∧ ∀ b j, w_fd w3 b j = if b = v_ad (n_v vs 2) ∧ j = 158 then n_v vs 16 else w_fd w4 b j := s4
  obtain ⟨f28, hf⟩ := fc_un (show (1 : Nat) < 100 from by decide) hf
  have f28 : v_iv (n_v vs 16) = v_iv (n_v vs 5) + v_iv (n_v vs 15) := f28
  have q2 : n_v vs 2 = n_v vs 0 := f4.symm
  rw [q2] at f5
  rw [q2] at f6
  rw [q2] at f7
  rw [q2] at f8
  rw [q2] at f10
  rw [q2] at f15
  rw [q2] at f16
  rw [q2] at f17
  rw [q2] at f18
  rw [q2] at s4
  have ar_0_73_1 : w_ar w1 (n_v vs 0) 73 = w_ar ws (n_v vs 0) 73 := by show v_ad (w_fd w1 _ _) = v_ad (w_fd ws _ _); rw [s1.2]
  have cr_0_73 : ta (w_ar ws (n_v vs 0) 73) = some 198 := tv_rg (th_fd hD hth r0 (g := GG_150) rfl (k := 73) (t := (2, 0, 0, [198])) rfl rfl)
  have ar_0_160_1 : w_ar w1 (n_v vs 0) 160 = w_ar ws (n_v vs 0) 160 := by show v_ad (w_fd w1 _ _) = v_ad (w_fd ws _ _); rw [s1.2]
  have cr_0_160 : ta (w_ar ws (n_v vs 0) 160) = some 259 := tv_rg (th_fd hD hth r0 (g := GG_150) rfl (k := 160) (t := (2, 0, 0, [259])) rfl rfl)
  have ad_23 : v_ad (n_v vs 23) = w_ar ws (n_v vs 0) 73 := (congrArg v_ad f10).trans ar_0_73_1
  rw [ar_0_160_1] at f15
  have fe_0_157_1 : w_fi ws (n_v vs 0) 157 = w_fi w1 (n_v vs 0) 157 := congrArg v_iv (s1.2 _ _)
  have fe_0_158_1 : w_fi ws (n_v vs 0) 158 = w_fi w1 (n_v vs 0) 158 := congrArg v_iv (s1.2 _ _)
  have fe_0_159_1 : w_fi ws (n_v vs 0) 159 = w_fi w1 (n_v vs 0) 159 := congrArg v_iv (s1.2 _ _)
  have hE_0_160_1 : ∀ j : Int, w_ei ws (w_ar ws (n_v vs 0) 160) j = w_ei w1 (w_ar ws (n_v vs 0) 160) j := fun j => by unfold w_ei; rw [s1.1, if_neg (fun e => by have e1 := e.1; rw [← e1] at r23; rw [cr_0_160] at r23; exact absurd (Option.some.inj r23) (by decide))]
  have hK_0_160 : ∀ j : Int, 0 ≤ j → j < 2010 → 0 ≤ w_ei ws (w_ar ws (n_v vs 0) 160) j ∧ w_ei ws (w_ar ws (n_v vs 0) 160) j ≤ 4 := fun j h0 h1 => th_el hD hth cr_0_160 (kd := 0) (n := 2010) (m := 2010) (lo := 0) (hi := 4) (rs := []) (L := []) rfl (by decide) (j := j.toNat) (by omega)
  have kz_0_157 : 0 ≤ w_fi ws (n_v vs 0) 157 ∧ w_fi ws (n_v vs 0) 157 ≤ 2010 := tv_rng (th_fd hD hth r0 (g := GG_150) rfl (k := 157) (t := (0, 0, 2010, [])) rfl rfl)
  have kz_0_158 : 0 ≤ w_fi ws (n_v vs 0) 158 ∧ w_fi ws (n_v vs 0) 158 ≤ 2009 := tv_rng (th_fd hD hth r0 (g := GG_150) rfl (k := 158) (t := (0, 0, 2009, [])) rfl rfl)
  have kz_0_159 : 0 ≤ w_fi ws (n_v vs 0) 159 ∧ w_fi ws (n_v vs 0) 159 ≤ 13 := tv_rng (th_fd hD hth r0 (g := GG_150) rfl (k := 159) (t := (0, 0, 13, [])) rfl rfl)
  obtain ⟨x, ex, hx⟩ := iv_ex (ta := ta) (lo := 0) (hi := 2010) (z := 0 + (1 * v_iv (n_v vs 6) + 0)) (by omega) (by omega) (by omega) (by omega)
  have ex2 : v_iv (Value.int x) = 0 + (1 * v_iv (n_v vs 6) + 0) := ex
  have ex3 : 0 ≤ v_iv (Value.int x) ∧ v_iv (Value.int x) ≤ 2010 := tv_rng hx
  have e_0 : n_v (vs ++ [Value.int x]) 0 = n_v vs 0 := n_v_old (by rw [hl]; decide)
  have e_1 : n_v (vs ++ [Value.int x]) 1 = n_v vs 1 := n_v_old (by rw [hl]; decide)
  have e_2 : n_v (vs ++ [Value.int x]) 2 = n_v vs 2 := n_v_old (by rw [hl]; decide)
  have e_37 : n_v (vs ++ [Value.int x]) 37 = Value.int x := n_v_new hl
  have nf0 : fc_1 (20, [2], [50, 2, 1, 158, 157, 160, 2, 12, 0, 7, 4, 3, 2, 0, 158, 0, 1, 2, 0, 157, 2, 7, 0, 3, 2, 0, 157, 0, 2010, 3, 14, 1, 10, 3, 0, 160, 5, 3, 2, 0, 157, 0, 1, 0, 0, 1, 10, 3, 0, 160, 5, 3, 2, 0, 157, 0, 1, 0, 4]) ws (vs ++ [Value.int x]) := by
    refine ⟨fun n hn => ?_, ?_⟩
    · have hn : n ∈ [2] := hn
      rw [List.length_append, hl]
      simp only [List.mem_cons, List.not_mem_nil, or_false] at hn
      show n < 37 + 1; omega
    · show ((w_fi ws (n_v (vs ++ [Value.int x]) 2) 158 + 1) ≤ w_fi ws (n_v (vs ++ [Value.int x]) 2) 157) ∧ ((w_fi ws (n_v (vs ++ [Value.int x]) 2) 157 ≤ 2010) ∧ ((w_ei ws (w_ar ws (n_v (vs ++ [Value.int x]) 2) 160) ((w_fi ws (n_v (vs ++ [Value.int x]) 2) 157 - 1)) = 0) ∨ (w_ei ws (w_ar ws (n_v (vs ++ [Value.int x]) 2) 160) ((w_fi ws (n_v (vs ++ [Value.int x]) 2) 157 - 1)) = 4)))
      rw [e_2]
      rw [q2]
      first | omega | grind
  have nf1 : fc_1 (20, [1, 2], [30, 0, 1, 0, 0, -1, 1, 158]) ws (vs ++ [Value.int x]) := by
    refine ⟨fun n hn => ?_, ?_⟩
    · have hn : n ∈ [1, 2] := hn
      rw [List.length_append, hl]
      simp only [List.mem_cons, List.not_mem_nil, or_false] at hn
      show n < 37 + 1; omega
    · show 1 * v_iv (n_v (vs ++ [Value.int x]) 1) + ((-1) * w_fi ws (n_v (vs ++ [Value.int x]) 2) 158 + 0) ≤ 0
      rw [e_1]
      rw [e_2]
      rw [q2]
      omega
  have nf2 : fc_1 (20, [2], [30, 0, 1, 1, 159]) ws (vs ++ [Value.int x]) := by
    refine ⟨fun n hn => ?_, ?_⟩
    · have hn : n ∈ [2] := hn
      rw [List.length_append, hl]
      simp only [List.mem_cons, List.not_mem_nil, or_false] at hn
      show n < 37 + 1; omega
    · show 1 * w_fi ws (n_v (vs ++ [Value.int x]) 2) 159 + 0 ≤ 0
      rw [e_2]
      rw [q2]
      omega
  have nf3 : fc_1 (20, [2], [30, 0, -1, 1, 159]) ws (vs ++ [Value.int x]) := by
    refine ⟨fun n hn => ?_, ?_⟩
    · have hn : n ∈ [2] := hn
      rw [List.length_append, hl]
      simp only [List.mem_cons, List.not_mem_nil, or_false] at hn
      show n < 37 + 1; omega
    · show (-1) * w_fi ws (n_v (vs ++ [Value.int x]) 2) 159 + 0 ≤ 0
      rw [e_2]
      rw [q2]
      omega
  have nf4 : fc_1 (20, [37, 2], [30, -2011, -1, 0, 0, -1, 1, 158]) ws (vs ++ [Value.int x]) := by
    refine ⟨fun n hn => ?_, ?_⟩
    · have hn : n ∈ [37, 2] := hn
      rw [List.length_append, hl]
      simp only [List.mem_cons, List.not_mem_nil, or_false] at hn
      show n < 37 + 1; omega
    · show (-1) * v_iv (n_v (vs ++ [Value.int x]) 37) + ((-1) * w_fi ws (n_v (vs ++ [Value.int x]) 2) 158 + 0) ≤ (-2011)
      rw [e_2]
      rw [e_37]
      rw [q2]
      omega
  have nf5 : fc_1 (24, [0, 2], []) ws (vs ++ [Value.int x]) := by
    refine ⟨fun n hn => ?_, ?_⟩
    · have hn : n ∈ [0, 2] := hn
      rw [List.length_append, hl]
      simp only [List.mem_cons, List.not_mem_nil, or_false] at hn
      show n < 37 + 1; omega
    · show n_v (vs ++ [Value.int x]) 0 = n_v (vs ++ [Value.int x]) 2
      first | rfl | simp only [e_0, e_2, q2]
  obtain ⟨x0, e0, _, _⟩ := tv_int t6 rfl
  have e1 : v_iv (n_v vs 6) = x0.toInt := by rw [e0]; rfl
  have ho : sy_ofs (vs ++ [Value.int x]) (37, 6, 0, 0) := by
    refine ⟨x, x0, by rw [List.getElem?_append_right (by rw [hl]; decide), hl]; rfl, ?_, ?_, ?_⟩
    · rw [List.getElem?_append_left (by rw [hl]; decide)]; exact n_v_some (by rw [hl]; decide) e0
    · show x0.toInt + 0 ≤ x.toInt; omega
    · show x.toInt ≤ x0.toInt + 0; omega
  exact ⟨fun q hq => (by cases hq), [Value.int x], ag_one hx, List.forall_mem_cons.mpr ⟨⟨show (20 : Nat) < 100 from by decide, nf0⟩, List.forall_mem_cons.mpr ⟨⟨show (20 : Nat) < 100 from by decide, nf1⟩, List.forall_mem_cons.mpr ⟨⟨show (20 : Nat) < 100 from by decide, nf2⟩, List.forall_mem_cons.mpr ⟨⟨show (20 : Nat) < 100 from by decide, nf3⟩, List.forall_mem_cons.mpr ⟨⟨show (20 : Nat) < 100 from by decide, nf4⟩, List.forall_mem_cons.mpr ⟨⟨show (24 : Nat) < 100 from by decide, nf5⟩, (fun _ h => (by cases h))⟩⟩⟩⟩⟩⟩, List.forall_mem_cons.mpr ⟨ho, (fun _ h => (by cases h))⟩⟩
def o_Mo_rule_at_f0_32 : or_T := (175, 15, [(0, (2, 0, 0, [150])), (1, (0, 0, 2009, [])), (2, (2, 0, 0, [150])), (6, (0, 0, 2010, [])), (8, (0, 0, 0, [])), (10, (0, 0, 0, [])), (12, (0, 1, 1, [])), (14, (0, 1, 5, []))], [(8, [14], [4]), (9, [14, 2], [8]), (8, [12], [1]), (20, [2], [50, 2, 1, 158, 157, 160, 2, 12, 0, 7, 4, 3, 2, 0, 158, 0, 1, 2, 0, 157, 2, 7, 0, 3, 2, 0, 157, 0, 2010, 3, 14, 1, 10, 3, 0, 160, 5, 3, 2, 0, 157, 0, 1, 0, 0, 1, 10, 3, 0, 160, 5, 3, 2, 0, 157, 0, 1, 0, 4]), (20, [1, 2], [30, 0, 1, 0, 0, -1, 1, 158]), (20, [2], [30, 0, 1, 1, 159]), (20, [2], [30, 0, -1, 1, 159]), (24, [0, 2], []), (20, [6, 2], [30, 2010, 1, 0, 0, 1, 1, 158]), (20, [6, 2], [30, -2010, -1, 0, 0, -1, 1, 158]), (20, [8, 2], [50, 1, 1, 1158, 1160, 4, 6, 1, 2, 1, 0, 0, 1, 1, 6, 3, 1, 160, 2, 1, 158, 0, 1]), (20, [10, 2], [50, 1, 1, 1158, 1160, 4, 6, 1, 2, 1, 0, 0, 1, 1, 6, 3, 1, 160, 2, 1, 158, 0, 1]), (20, [12, 2], [50, 1, 1, 1158, 1160, 4, 6, 1, 2, 1, 0, 0, 1, 1, 6, 3, 1, 160, 2, 1, 158, 0, 1]), (102, [11], [0]), (8, [10], [0]), (102, [9], [0]), (8, [8], [0])], [], [], [(20, [0], [50, 2, 1, 158, 157, 160, 2, 12, 0, 7, 4, 3, 2, 0, 158, 0, 1, 2, 0, 157, 2, 7, 0, 3, 2, 0, 157, 0, 2010, 3, 14, 1, 10, 3, 0, 160, 5, 3, 2, 0, 157, 0, 1, 0, 0, 1, 10, 3, 0, 160, 5, 3, 2, 0, 157, 0, 1, 0, 4]), (20, [1, 0], [30, 0, 1, 0, 0, -1, 1, 158]), (20, [0], [30, 0, 1, 1, 159]), (20, [0], [30, 0, -1, 1, 159]), (20, [0, 1, 0], [31, 1, -1, -1, 1, 8, -1, 1, 0, 0, -1, 1, 158])], [], [])
theorem oo_Mo_rule_at_f0_32 {kA : Nat → ClassId} : or_ok kA GG o_Mo_rule_at_f0_32 := by
  intro A ta ws vs hD hth hl hk hds hf
  have hl : vs.length = 15 := hl
  have hk : ∀ q ∈ ([(0, (2, 0, 0, [150])), (1, (0, 0, 2009, [])), (2, (2, 0, 0, [150])), (6, (0, 0, 2010, [])), (8, (0, 0, 0, [])), (10, (0, 0, 0, [])), (12, (0, 1, 1, [])), (14, (0, 1, 5, []))] : List (Nat × tv_T)), tv_ok ta q.2 (n_v vs q.1) := hk
  obtain ⟨t0, hk⟩ := List.forall_mem_cons.mp hk
  have t0 : tv_ok ta (2, 0, 0, [150]) (n_v vs 0) := t0
  have r0 : ta (v_ad (n_v vs 0)) = some 150 := tv_rg t0
  obtain ⟨t1, hk⟩ := List.forall_mem_cons.mp hk
  have t1 : tv_ok ta (0, 0, 2009, []) (n_v vs 1) := t1
  have k1 : 0 ≤ v_iv (n_v vs 1) ∧ v_iv (n_v vs 1) ≤ 2009 := tv_rng t1
  obtain ⟨t2, hk⟩ := List.forall_mem_cons.mp hk
  have t2 : tv_ok ta (2, 0, 0, [150]) (n_v vs 2) := t2
  have r2 : ta (v_ad (n_v vs 2)) = some 150 := tv_rg t2
  obtain ⟨t6, hk⟩ := List.forall_mem_cons.mp hk
  have t6 : tv_ok ta (0, 0, 2010, []) (n_v vs 6) := t6
  have k6 : 0 ≤ v_iv (n_v vs 6) ∧ v_iv (n_v vs 6) ≤ 2010 := tv_rng t6
  obtain ⟨t8, hk⟩ := List.forall_mem_cons.mp hk
  have t8 : tv_ok ta (0, 0, 0, []) (n_v vs 8) := t8
  have k8 : 0 ≤ v_iv (n_v vs 8) ∧ v_iv (n_v vs 8) ≤ 0 := tv_rng t8
  obtain ⟨t10, hk⟩ := List.forall_mem_cons.mp hk
  have t10 : tv_ok ta (0, 0, 0, []) (n_v vs 10) := t10
  have k10 : 0 ≤ v_iv (n_v vs 10) ∧ v_iv (n_v vs 10) ≤ 0 := tv_rng t10
  obtain ⟨t12, hk⟩ := List.forall_mem_cons.mp hk
  have t12 : tv_ok ta (0, 1, 1, []) (n_v vs 12) := t12
  have k12 : 1 ≤ v_iv (n_v vs 12) ∧ v_iv (n_v vs 12) ≤ 1 := tv_rng t12
  obtain ⟨t14, hk⟩ := List.forall_mem_cons.mp hk
  have t14 : tv_ok ta (0, 1, 5, []) (n_v vs 14) := t14
  have k14 : 1 ≤ v_iv (n_v vs 14) ∧ v_iv (n_v vs 14) ≤ 5 := tv_rng t14
  have hf : fc_ok [(8, [14], [4]), (9, [14, 2], [8]), (8, [12], [1]), (20, [2], [50, 2, 1, 158, 157, 160, 2, 12, 0, 7, 4, 3, 2, 0, 158, 0, 1, 2, 0, 157, 2, 7, 0, 3, 2, 0, 157, 0, 2010, 3, 14, 1, 10, 3, 0, 160, 5, 3, 2, 0, 157, 0, 1, 0, 0, 1, 10, 3, 0, 160, 5, 3, 2, 0, 157, 0, 1, 0, 4]), (20, [1, 2], [30, 0, 1, 0, 0, -1, 1, 158]), (20, [2], [30, 0, 1, 1, 159]), (20, [2], [30, 0, -1, 1, 159]), (24, [0, 2], []), (20, [6, 2], [30, 2010, 1, 0, 0, 1, 1, 158]), (20, [6, 2], [30, -2010, -1, 0, 0, -1, 1, 158]), (20, [8, 2], [50, 1, 1, 1158, 1160, 4, 6, 1, 2, 1, 0, 0, 1, 1, 6, 3, 1, 160, 2, 1, 158, 0, 1]), (20, [10, 2], [50, 1, 1, 1158, 1160, 4, 6, 1, 2, 1, 0, 0, 1, 1, 6, 3, 1, 160, 2, 1, 158, 0, 1]), (20, [12, 2], [50, 1, 1, 1158, 1160, 4, 6, 1, 2, 1, 0, 0, 1, 1, 6, 3, 1, 160, 2, 1, 158, 0, 1]), (102, [11], [0]), (8, [10], [0]), (102, [9], [0]), (8, [8], [0])] ta ws vs := hf
  obtain ⟨f0, hf⟩ := fc_un (show (8 : Nat) < 100 from by decide) hf
  have f0 : 0 < v_iv (n_v vs 14) := f0
  obtain ⟨f1, hf⟩ := fc_un (show (9 : Nat) < 100 from by decide) hf
  have f1 : n_v vs 14 = w_fd ws (v_ad (n_v vs 2)) 8 := f1
  obtain ⟨f2, hf⟩ := fc_un (show (8 : Nat) < 100 from by decide) hf
  have f2 : v_iv (n_v vs 12) ≠ 0 := f2
  obtain ⟨f3, hf⟩ := fc_un (show (20 : Nat) < 100 from by decide) hf
  have f3 : ((w_fi ws (n_v vs 2) 158 + 1) ≤ w_fi ws (n_v vs 2) 157) ∧ ((w_fi ws (n_v vs 2) 157 ≤ 2010) ∧ ((w_ei ws (w_ar ws (n_v vs 2) 160) ((w_fi ws (n_v vs 2) 157 - 1)) = 0) ∨ (w_ei ws (w_ar ws (n_v vs 2) 160) ((w_fi ws (n_v vs 2) 157 - 1)) = 4))) := f3
  obtain ⟨f4, hf⟩ := fc_un (show (20 : Nat) < 100 from by decide) hf
  have f4 : 1 * v_iv (n_v vs 1) + ((-1) * w_fi ws (n_v vs 2) 158 + 0) ≤ 0 := f4
  obtain ⟨f5, hf⟩ := fc_un (show (20 : Nat) < 100 from by decide) hf
  have f5 : 1 * w_fi ws (n_v vs 2) 159 + 0 ≤ 0 := f5
  obtain ⟨f6, hf⟩ := fc_un (show (20 : Nat) < 100 from by decide) hf
  have f6 : (-1) * w_fi ws (n_v vs 2) 159 + 0 ≤ 0 := f6
  obtain ⟨f7, hf⟩ := fc_un (show (24 : Nat) < 100 from by decide) hf
  have f7 : n_v vs 0 = n_v vs 2 := f7
  obtain ⟨f8, hf⟩ := fc_un (show (20 : Nat) < 100 from by decide) hf
  have f8 : 1 * v_iv (n_v vs 6) + (1 * w_fi ws (n_v vs 2) 158 + 0) ≤ 2010 := f8
  obtain ⟨f9, hf⟩ := fc_un (show (20 : Nat) < 100 from by decide) hf
  have f9 : (-1) * v_iv (n_v vs 6) + ((-1) * w_fi ws (n_v vs 2) 158 + 0) ≤ (-2010) := f9
  obtain ⟨f10, hf⟩ := fc_un (show (20 : Nat) < 100 from by decide) hf
  have f10 : (v_iv (n_v vs 8) = 1) → (w_ei ws (w_ar ws (n_v vs 2) 160) (w_fi ws (n_v vs 2) 158) = 1) := f10
  obtain ⟨f11, hf⟩ := fc_un (show (20 : Nat) < 100 from by decide) hf
  have f11 : (v_iv (n_v vs 10) = 1) → (w_ei ws (w_ar ws (n_v vs 2) 160) (w_fi ws (n_v vs 2) 158) = 1) := f11
  obtain ⟨f12, hf⟩ := fc_un (show (20 : Nat) < 100 from by decide) hf
  have f12 : (v_iv (n_v vs 12) = 1) → (w_ei ws (w_ar ws (n_v vs 2) 160) (w_fi ws (n_v vs 2) 158) = 1) := f12
  obtain ⟨ta1, w1, le1, ⟨_, s1⟩, hf⟩ := fc_us (show ¬ (102 : Nat) < 100 from by decide) hf
  obtain ⟨f14, hf⟩ := fc_un (show (8 : Nat) < 100 from by decide) hf
  have f14 : v_iv (n_v vs 10) = 0 := f14
  obtain ⟨ta2, w2, le2, ⟨_, s2⟩, hf⟩ := fc_us (show ¬ (102 : Nat) < 100 from by decide) hf
  obtain ⟨f16, hf⟩ := fc_un (show (8 : Nat) < 100 from by decide) hf
  have f16 : v_iv (n_v vs 8) = 0 := f16
  have q2 : n_v vs 2 = n_v vs 0 := f7.symm
  rw [q2] at f1
  rw [q2] at f3
  rw [q2] at f4
  rw [q2] at f5
  rw [q2] at f6
  rw [q2] at f8
  rw [q2] at f9
  rw [q2] at f10
  rw [q2] at f11
  rw [q2] at f12
  have cr_0_160 : ta (w_ar ws (n_v vs 0) 160) = some 259 := tv_rg (th_fd hD hth r0 (g := GG_150) rfl (k := 160) (t := (2, 0, 0, [259])) rfl rfl)
  have g1 : v_iv (n_v vs 14) = w_fi ws (n_v vs 0) 8 := congrArg v_iv f1
  have hK_0_160 : ∀ j : Int, 0 ≤ j → j < 2010 → 0 ≤ w_ei ws (w_ar ws (n_v vs 0) 160) j ∧ w_ei ws (w_ar ws (n_v vs 0) 160) j ≤ 4 := fun j h0 h1 => th_el hD hth cr_0_160 (kd := 0) (n := 2010) (m := 2010) (lo := 0) (hi := 4) (rs := []) (L := []) rfl (by decide) (j := j.toNat) (by omega)
  have kz_0_8 : 0 ≤ w_fi ws (n_v vs 0) 8 ∧ w_fi ws (n_v vs 0) 8 ≤ 5 := tv_rng (th_fd hD hth r0 (g := GG_150) rfl (k := 8) (t := (0, 0, 5, [])) rfl rfl)
  have kz_0_157 : 0 ≤ w_fi ws (n_v vs 0) 157 ∧ w_fi ws (n_v vs 0) 157 ≤ 2010 := tv_rng (th_fd hD hth r0 (g := GG_150) rfl (k := 157) (t := (0, 0, 2010, [])) rfl rfl)
  have kz_0_158 : 0 ≤ w_fi ws (n_v vs 0) 158 ∧ w_fi ws (n_v vs 0) 158 ≤ 2009 := tv_rng (th_fd hD hth r0 (g := GG_150) rfl (k := 158) (t := (0, 0, 2009, [])) rfl rfl)
  have kz_0_159 : 0 ≤ w_fi ws (n_v vs 0) 159 ∧ w_fi ws (n_v vs 0) 159 ≤ 13 := tv_rng (th_fd hD hth r0 (g := GG_150) rfl (k := 159) (t := (0, 0, 13, [])) rfl rfl)
  have nf0 : fc_1 (20, [0], [50, 2, 1, 158, 157, 160, 2, 12, 0, 7, 4, 3, 2, 0, 158, 0, 1, 2, 0, 157, 2, 7, 0, 3, 2, 0, 157, 0, 2010, 3, 14, 1, 10, 3, 0, 160, 5, 3, 2, 0, 157, 0, 1, 0, 0, 1, 10, 3, 0, 160, 5, 3, 2, 0, 157, 0, 1, 0, 4]) ws (vs) := by
    refine ⟨fun n hn => ?_, ?_⟩
    · have hn : n ∈ [0] := hn
      rw [hl]
      simp only [List.mem_cons, List.not_mem_nil, or_false] at hn
      show n < 15; omega
    · show ((w_fi ws (n_v vs 0) 158 + 1) ≤ w_fi ws (n_v vs 0) 157) ∧ ((w_fi ws (n_v vs 0) 157 ≤ 2010) ∧ ((w_ei ws (w_ar ws (n_v vs 0) 160) ((w_fi ws (n_v vs 0) 157 - 1)) = 0) ∨ (w_ei ws (w_ar ws (n_v vs 0) 160) ((w_fi ws (n_v vs 0) 157 - 1)) = 4)))
      first | omega | grind
  have nf1 : fc_1 (20, [1, 0], [30, 0, 1, 0, 0, -1, 1, 158]) ws (vs) := by
    refine ⟨fun n hn => ?_, ?_⟩
    · have hn : n ∈ [1, 0] := hn
      rw [hl]
      simp only [List.mem_cons, List.not_mem_nil, or_false] at hn
      show n < 15; omega
    · show 1 * v_iv (n_v vs 1) + ((-1) * w_fi ws (n_v vs 0) 158 + 0) ≤ 0
      omega
  have nf2 : fc_1 (20, [0], [30, 0, 1, 1, 159]) ws (vs) := by
    refine ⟨fun n hn => ?_, ?_⟩
    · have hn : n ∈ [0] := hn
      rw [hl]
      simp only [List.mem_cons, List.not_mem_nil, or_false] at hn
      show n < 15; omega
    · show 1 * w_fi ws (n_v vs 0) 159 + 0 ≤ 0
      omega
  have nf3 : fc_1 (20, [0], [30, 0, -1, 1, 159]) ws (vs) := by
    refine ⟨fun n hn => ?_, ?_⟩
    · have hn : n ∈ [0] := hn
      rw [hl]
      simp only [List.mem_cons, List.not_mem_nil, or_false] at hn
      show n < 15; omega
    · show (-1) * w_fi ws (n_v vs 0) 159 + 0 ≤ 0
      omega
  have nf4 : fc_1 (20, [0, 1, 0], [31, 1, -1, -1, 1, 8, -1, 1, 0, 0, -1, 1, 158]) ws (vs) := by
    refine ⟨fun n hn => ?_, ?_⟩
    · have hn : n ∈ [0, 1, 0] := hn
      rw [hl]
      simp only [List.mem_cons, List.not_mem_nil, or_false] at hn
      show n < 15; omega
    · show ((-1) * w_fi ws (n_v vs 0) 8 + 0 ≤ (-1)) ∨ (1 * v_iv (n_v vs 1) + ((-1) * w_fi ws (n_v vs 0) 158 + 0) ≤ (-1))
      omega
  refine ⟨(fun _ h => (by cases h)), [], trivial, ?_, (fun _ h => (by cases h))⟩
  rw [List.append_nil]
  exact List.forall_mem_cons.mpr ⟨⟨show (20 : Nat) < 100 from by decide, nf0⟩, List.forall_mem_cons.mpr ⟨⟨show (20 : Nat) < 100 from by decide, nf1⟩, List.forall_mem_cons.mpr ⟨⟨show (20 : Nat) < 100 from by decide, nf2⟩, List.forall_mem_cons.mpr ⟨⟨show (20 : Nat) < 100 from by decide, nf3⟩, List.forall_mem_cons.mpr ⟨⟨show (20 : Nat) < 100 from by decide, nf4⟩, (fun _ h => (by cases h))⟩⟩⟩⟩⟩
def o_Mo_rule_at_f0_33 : or_T := (176, 13, [(0, (2, 0, 0, [150])), (1, (0, 0, 2009, [])), (2, (2, 0, 0, [150])), (6, (0, 0, 2010, [])), (8, (0, 0, 0, [])), (10, (0, 1, 1, [])), (11, (0, 1, 1, []))], [(8, [11], [3]), (8, [10], [1]), (20, [2], [50, 2, 1, 158, 157, 160, 2, 12, 0, 7, 4, 3, 2, 0, 158, 0, 1, 2, 0, 157, 2, 7, 0, 3, 2, 0, 157, 0, 2010, 3, 14, 1, 10, 3, 0, 160, 5, 3, 2, 0, 157, 0, 1, 0, 0, 1, 10, 3, 0, 160, 5, 3, 2, 0, 157, 0, 1, 0, 4]), (20, [1, 2], [30, 0, 1, 0, 0, -1, 1, 158]), (20, [2], [30, 0, 1, 1, 159]), (20, [2], [30, 0, -1, 1, 159]), (24, [0, 2], []), (20, [6, 2], [30, 2010, 1, 0, 0, 1, 1, 158]), (20, [6, 2], [30, -2010, -1, 0, 0, -1, 1, 158]), (20, [8, 2], [50, 1, 1, 1158, 1160, 4, 6, 1, 2, 1, 0, 0, 1, 1, 6, 3, 1, 160, 2, 1, 158, 0, 1]), (20, [10, 2], [50, 1, 1, 1158, 1160, 4, 6, 1, 2, 1, 0, 0, 1, 1, 6, 3, 1, 160, 2, 1, 158, 0, 1]), (102, [9], [0]), (8, [8], [0])], [], [], [(23, [11], [0, -1])], [], [])
theorem oo_Mo_rule_at_f0_33 {kA : Nat → ClassId} : or_ok kA GG o_Mo_rule_at_f0_33 := by
  intro A ta ws vs hD hth hl hk hds hf
  have hl : vs.length = 13 := hl
  have hk : ∀ q ∈ ([(0, (2, 0, 0, [150])), (1, (0, 0, 2009, [])), (2, (2, 0, 0, [150])), (6, (0, 0, 2010, [])), (8, (0, 0, 0, [])), (10, (0, 1, 1, [])), (11, (0, 1, 1, []))] : List (Nat × tv_T)), tv_ok ta q.2 (n_v vs q.1) := hk
  obtain ⟨t0, hk⟩ := List.forall_mem_cons.mp hk
  have t0 : tv_ok ta (2, 0, 0, [150]) (n_v vs 0) := t0
  have r0 : ta (v_ad (n_v vs 0)) = some 150 := tv_rg t0
  obtain ⟨t1, hk⟩ := List.forall_mem_cons.mp hk
  have t1 : tv_ok ta (0, 0, 2009, []) (n_v vs 1) := t1
  have k1 : 0 ≤ v_iv (n_v vs 1) ∧ v_iv (n_v vs 1) ≤ 2009 := tv_rng t1
  obtain ⟨t2, hk⟩ := List.forall_mem_cons.mp hk
  have t2 : tv_ok ta (2, 0, 0, [150]) (n_v vs 2) := t2
  have r2 : ta (v_ad (n_v vs 2)) = some 150 := tv_rg t2
  obtain ⟨t6, hk⟩ := List.forall_mem_cons.mp hk
  have t6 : tv_ok ta (0, 0, 2010, []) (n_v vs 6) := t6
  have k6 : 0 ≤ v_iv (n_v vs 6) ∧ v_iv (n_v vs 6) ≤ 2010 := tv_rng t6
  obtain ⟨t8, hk⟩ := List.forall_mem_cons.mp hk
  have t8 : tv_ok ta (0, 0, 0, []) (n_v vs 8) := t8
  have k8 : 0 ≤ v_iv (n_v vs 8) ∧ v_iv (n_v vs 8) ≤ 0 := tv_rng t8
  obtain ⟨t10, hk⟩ := List.forall_mem_cons.mp hk
  have t10 : tv_ok ta (0, 1, 1, []) (n_v vs 10) := t10
  have k10 : 1 ≤ v_iv (n_v vs 10) ∧ v_iv (n_v vs 10) ≤ 1 := tv_rng t10
  obtain ⟨t11, hk⟩ := List.forall_mem_cons.mp hk
  have t11 : tv_ok ta (0, 1, 1, []) (n_v vs 11) := t11
  have k11 : 1 ≤ v_iv (n_v vs 11) ∧ v_iv (n_v vs 11) ≤ 1 := tv_rng t11
  have hf : fc_ok [(8, [11], [3]), (8, [10], [1]), (20, [2], [50, 2, 1, 158, 157, 160, 2, 12, 0, 7, 4, 3, 2, 0, 158, 0, 1, 2, 0, 157, 2, 7, 0, 3, 2, 0, 157, 0, 2010, 3, 14, 1, 10, 3, 0, 160, 5, 3, 2, 0, 157, 0, 1, 0, 0, 1, 10, 3, 0, 160, 5, 3, 2, 0, 157, 0, 1, 0, 4]), (20, [1, 2], [30, 0, 1, 0, 0, -1, 1, 158]), (20, [2], [30, 0, 1, 1, 159]), (20, [2], [30, 0, -1, 1, 159]), (24, [0, 2], []), (20, [6, 2], [30, 2010, 1, 0, 0, 1, 1, 158]), (20, [6, 2], [30, -2010, -1, 0, 0, -1, 1, 158]), (20, [8, 2], [50, 1, 1, 1158, 1160, 4, 6, 1, 2, 1, 0, 0, 1, 1, 6, 3, 1, 160, 2, 1, 158, 0, 1]), (20, [10, 2], [50, 1, 1, 1158, 1160, 4, 6, 1, 2, 1, 0, 0, 1, 1, 6, 3, 1, 160, 2, 1, 158, 0, 1]), (102, [9], [0]), (8, [8], [0])] ta ws vs := hf
  obtain ⟨f0, hf⟩ := fc_un (show (8 : Nat) < 100 from by decide) hf
  have f0 : 0 ≤ v_iv (n_v vs 11) := f0
  obtain ⟨f1, hf⟩ := fc_un (show (8 : Nat) < 100 from by decide) hf
  have f1 : v_iv (n_v vs 10) ≠ 0 := f1
  obtain ⟨f2, hf⟩ := fc_un (show (20 : Nat) < 100 from by decide) hf
  have f2 : ((w_fi ws (n_v vs 2) 158 + 1) ≤ w_fi ws (n_v vs 2) 157) ∧ ((w_fi ws (n_v vs 2) 157 ≤ 2010) ∧ ((w_ei ws (w_ar ws (n_v vs 2) 160) ((w_fi ws (n_v vs 2) 157 - 1)) = 0) ∨ (w_ei ws (w_ar ws (n_v vs 2) 160) ((w_fi ws (n_v vs 2) 157 - 1)) = 4))) := f2
  obtain ⟨f3, hf⟩ := fc_un (show (20 : Nat) < 100 from by decide) hf
  have f3 : 1 * v_iv (n_v vs 1) + ((-1) * w_fi ws (n_v vs 2) 158 + 0) ≤ 0 := f3
  obtain ⟨f4, hf⟩ := fc_un (show (20 : Nat) < 100 from by decide) hf
  have f4 : 1 * w_fi ws (n_v vs 2) 159 + 0 ≤ 0 := f4
  obtain ⟨f5, hf⟩ := fc_un (show (20 : Nat) < 100 from by decide) hf
  have f5 : (-1) * w_fi ws (n_v vs 2) 159 + 0 ≤ 0 := f5
  obtain ⟨f6, hf⟩ := fc_un (show (24 : Nat) < 100 from by decide) hf
  have f6 : n_v vs 0 = n_v vs 2 := f6
  obtain ⟨f7, hf⟩ := fc_un (show (20 : Nat) < 100 from by decide) hf
  have f7 : 1 * v_iv (n_v vs 6) + (1 * w_fi ws (n_v vs 2) 158 + 0) ≤ 2010 := f7
  obtain ⟨f8, hf⟩ := fc_un (show (20 : Nat) < 100 from by decide) hf
  have f8 : (-1) * v_iv (n_v vs 6) + ((-1) * w_fi ws (n_v vs 2) 158 + 0) ≤ (-2010) := f8
  obtain ⟨f9, hf⟩ := fc_un (show (20 : Nat) < 100 from by decide) hf
  have f9 : (v_iv (n_v vs 8) = 1) → (w_ei ws (w_ar ws (n_v vs 2) 160) (w_fi ws (n_v vs 2) 158) = 1) := f9
  obtain ⟨f10, hf⟩ := fc_un (show (20 : Nat) < 100 from by decide) hf
  have f10 : (v_iv (n_v vs 10) = 1) → (w_ei ws (w_ar ws (n_v vs 2) 160) (w_fi ws (n_v vs 2) 158) = 1) := f10
  obtain ⟨ta1, w1, le1, ⟨_, s1⟩, hf⟩ := fc_us (show ¬ (102 : Nat) < 100 from by decide) hf
  obtain ⟨f12, hf⟩ := fc_un (show (8 : Nat) < 100 from by decide) hf
  have f12 : v_iv (n_v vs 8) = 0 := f12
  have q2 : n_v vs 2 = n_v vs 0 := f6.symm
  rw [q2] at f2
  rw [q2] at f3
  rw [q2] at f4
  rw [q2] at f5
  rw [q2] at f7
  rw [q2] at f8
  rw [q2] at f9
  rw [q2] at f10
  have cr_0_160 : ta (w_ar ws (n_v vs 0) 160) = some 259 := tv_rg (th_fd hD hth r0 (g := GG_150) rfl (k := 160) (t := (2, 0, 0, [259])) rfl rfl)
  have hK_0_160 : ∀ j : Int, 0 ≤ j → j < 2010 → 0 ≤ w_ei ws (w_ar ws (n_v vs 0) 160) j ∧ w_ei ws (w_ar ws (n_v vs 0) 160) j ≤ 4 := fun j h0 h1 => th_el hD hth cr_0_160 (kd := 0) (n := 2010) (m := 2010) (lo := 0) (hi := 4) (rs := []) (L := []) rfl (by decide) (j := j.toNat) (by omega)
  have kz_0_157 : 0 ≤ w_fi ws (n_v vs 0) 157 ∧ w_fi ws (n_v vs 0) 157 ≤ 2010 := tv_rng (th_fd hD hth r0 (g := GG_150) rfl (k := 157) (t := (0, 0, 2010, [])) rfl rfl)
  have kz_0_158 : 0 ≤ w_fi ws (n_v vs 0) 158 ∧ w_fi ws (n_v vs 0) 158 ≤ 2009 := tv_rng (th_fd hD hth r0 (g := GG_150) rfl (k := 158) (t := (0, 0, 2009, [])) rfl rfl)
  have kz_0_159 : 0 ≤ w_fi ws (n_v vs 0) 159 ∧ w_fi ws (n_v vs 0) 159 ≤ 13 := tv_rng (th_fd hD hth r0 (g := GG_150) rfl (k := 159) (t := (0, 0, 13, [])) rfl rfl)
  have nf0 : fc_1 (23, [11], [0, -1]) ws (vs) := by
    refine ⟨fun n hn => ?_, ?_⟩
    · have hn : n ∈ [11] := hn
      rw [hl]
      simp only [List.mem_cons, List.not_mem_nil, or_false] at hn
      show n < 13; omega
    · show (-1) * v_iv (n_v vs 11) + 0 ≤ 0
      omega
  refine ⟨(fun _ h => (by cases h)), [], trivial, ?_, (fun _ h => (by cases h))⟩
  rw [List.append_nil]
  exact List.forall_mem_cons.mpr ⟨⟨show (23 : Nat) < 100 from by decide, nf0⟩, (fun _ h => (by cases h))⟩
def o_Mo_rule_at_f0_34 : or_T := (183, 15, [(0, (2, 0, 0, [150])), (1, (0, 0, 2009, [])), (2, (2, 0, 0, [150])), (5, (0, 0, 2009, [])), (6, (0, 0, 2010, [])), (8, (0, 0, 0, [])), (10, (0, 1, 1, [])), (13, (0, 1, 1, [])), (14, (0, 1, 2010, []))], [(1, [14, 5, 13], []), (9, [5, 2], [158]), (8, [10], [1]), (20, [2], [50, 2, 1, 158, 157, 160, 2, 12, 0, 7, 4, 3, 2, 0, 158, 0, 1, 2, 0, 157, 2, 7, 0, 3, 2, 0, 157, 0, 2010, 3, 14, 1, 10, 3, 0, 160, 5, 3, 2, 0, 157, 0, 1, 0, 0, 1, 10, 3, 0, 160, 5, 3, 2, 0, 157, 0, 1, 0, 4]), (20, [1, 2], [30, 0, 1, 0, 0, -1, 1, 158]), (20, [2], [30, 0, 1, 1, 159]), (20, [2], [30, 0, -1, 1, 159]), (24, [0, 2], []), (20, [6, 2], [30, 2010, 1, 0, 0, 1, 1, 158]), (20, [6, 2], [30, -2010, -1, 0, 0, -1, 1, 158]), (20, [8, 2], [50, 1, 1, 1158, 1160, 4, 6, 1, 2, 1, 0, 0, 1, 1, 6, 3, 1, 160, 2, 1, 158, 0, 1]), (20, [10, 2], [50, 1, 1, 1158, 1160, 4, 6, 1, 2, 1, 0, 0, 1, 1, 6, 3, 1, 160, 2, 1, 158, 0, 1]), (102, [9], [0]), (8, [8], [0])], [(14, (0, 1, 2009, []))], [], [], [], [(14, 5, 1, 1), (14, 1, -4294967296, 2010), (1, 5, -4294967296, 2009), (5, 1, -4294967296, 2009)])
theorem oo_Mo_rule_at_f0_34 {kA : Nat → ClassId} : or_ok kA GG o_Mo_rule_at_f0_34 := by
  intro A ta ws vs hD hth hl hk hds hf
  have hl : vs.length = 15 := hl
  have hk : ∀ q ∈ ([(0, (2, 0, 0, [150])), (1, (0, 0, 2009, [])), (2, (2, 0, 0, [150])), (5, (0, 0, 2009, [])), (6, (0, 0, 2010, [])), (8, (0, 0, 0, [])), (10, (0, 1, 1, [])), (13, (0, 1, 1, [])), (14, (0, 1, 2010, []))] : List (Nat × tv_T)), tv_ok ta q.2 (n_v vs q.1) := hk
  obtain ⟨t0, hk⟩ := List.forall_mem_cons.mp hk
  have t0 : tv_ok ta (2, 0, 0, [150]) (n_v vs 0) := t0
  have r0 : ta (v_ad (n_v vs 0)) = some 150 := tv_rg t0
  obtain ⟨t1, hk⟩ := List.forall_mem_cons.mp hk
  have t1 : tv_ok ta (0, 0, 2009, []) (n_v vs 1) := t1
  have k1 : 0 ≤ v_iv (n_v vs 1) ∧ v_iv (n_v vs 1) ≤ 2009 := tv_rng t1
  obtain ⟨t2, hk⟩ := List.forall_mem_cons.mp hk
  have t2 : tv_ok ta (2, 0, 0, [150]) (n_v vs 2) := t2
  have r2 : ta (v_ad (n_v vs 2)) = some 150 := tv_rg t2
  obtain ⟨t5, hk⟩ := List.forall_mem_cons.mp hk
  have t5 : tv_ok ta (0, 0, 2009, []) (n_v vs 5) := t5
  have k5 : 0 ≤ v_iv (n_v vs 5) ∧ v_iv (n_v vs 5) ≤ 2009 := tv_rng t5
  obtain ⟨t6, hk⟩ := List.forall_mem_cons.mp hk
  have t6 : tv_ok ta (0, 0, 2010, []) (n_v vs 6) := t6
  have k6 : 0 ≤ v_iv (n_v vs 6) ∧ v_iv (n_v vs 6) ≤ 2010 := tv_rng t6
  obtain ⟨t8, hk⟩ := List.forall_mem_cons.mp hk
  have t8 : tv_ok ta (0, 0, 0, []) (n_v vs 8) := t8
  have k8 : 0 ≤ v_iv (n_v vs 8) ∧ v_iv (n_v vs 8) ≤ 0 := tv_rng t8
  obtain ⟨t10, hk⟩ := List.forall_mem_cons.mp hk
  have t10 : tv_ok ta (0, 1, 1, []) (n_v vs 10) := t10
  have k10 : 1 ≤ v_iv (n_v vs 10) ∧ v_iv (n_v vs 10) ≤ 1 := tv_rng t10
  obtain ⟨t13, hk⟩ := List.forall_mem_cons.mp hk
  have t13 : tv_ok ta (0, 1, 1, []) (n_v vs 13) := t13
  have k13 : 1 ≤ v_iv (n_v vs 13) ∧ v_iv (n_v vs 13) ≤ 1 := tv_rng t13
  obtain ⟨t14, hk⟩ := List.forall_mem_cons.mp hk
  have t14 : tv_ok ta (0, 1, 2010, []) (n_v vs 14) := t14
  have k14 : 1 ≤ v_iv (n_v vs 14) ∧ v_iv (n_v vs 14) ≤ 2010 := tv_rng t14
  have hds : ∀ q ∈ ([(14, 5, 1, 1), (14, 1, -4294967296, 2010), (1, 5, -4294967296, 2009), (5, 1, -4294967296, 2009)] : List of_T), n_iv vs q.2.1 + q.2.2.1 ≤ n_iv vs q.1 ∧ n_iv vs q.1 ≤ n_iv vs q.2.1 + q.2.2.2 := hds
  obtain ⟨d0, hds⟩ := List.forall_mem_cons.mp hds
  have d0 : v_iv (n_v vs 5) + 1 ≤ v_iv (n_v vs 14) ∧ v_iv (n_v vs 14) ≤ v_iv (n_v vs 5) + 1 := d0
  obtain ⟨d1, hds⟩ := List.forall_mem_cons.mp hds
  have d1 : v_iv (n_v vs 1) + (-4294967296) ≤ v_iv (n_v vs 14) ∧ v_iv (n_v vs 14) ≤ v_iv (n_v vs 1) + 2010 := d1
  obtain ⟨d2, hds⟩ := List.forall_mem_cons.mp hds
  have d2 : v_iv (n_v vs 5) + (-4294967296) ≤ v_iv (n_v vs 1) ∧ v_iv (n_v vs 1) ≤ v_iv (n_v vs 5) + 2009 := d2
  obtain ⟨d3, hds⟩ := List.forall_mem_cons.mp hds
  have d3 : v_iv (n_v vs 1) + (-4294967296) ≤ v_iv (n_v vs 5) ∧ v_iv (n_v vs 5) ≤ v_iv (n_v vs 1) + 2009 := d3
  have hf : fc_ok [(1, [14, 5, 13], []), (9, [5, 2], [158]), (8, [10], [1]), (20, [2], [50, 2, 1, 158, 157, 160, 2, 12, 0, 7, 4, 3, 2, 0, 158, 0, 1, 2, 0, 157, 2, 7, 0, 3, 2, 0, 157, 0, 2010, 3, 14, 1, 10, 3, 0, 160, 5, 3, 2, 0, 157, 0, 1, 0, 0, 1, 10, 3, 0, 160, 5, 3, 2, 0, 157, 0, 1, 0, 4]), (20, [1, 2], [30, 0, 1, 0, 0, -1, 1, 158]), (20, [2], [30, 0, 1, 1, 159]), (20, [2], [30, 0, -1, 1, 159]), (24, [0, 2], []), (20, [6, 2], [30, 2010, 1, 0, 0, 1, 1, 158]), (20, [6, 2], [30, -2010, -1, 0, 0, -1, 1, 158]), (20, [8, 2], [50, 1, 1, 1158, 1160, 4, 6, 1, 2, 1, 0, 0, 1, 1, 6, 3, 1, 160, 2, 1, 158, 0, 1]), (20, [10, 2], [50, 1, 1, 1158, 1160, 4, 6, 1, 2, 1, 0, 0, 1, 1, 6, 3, 1, 160, 2, 1, 158, 0, 1]), (102, [9], [0]), (8, [8], [0])] ta ws vs := hf
  obtain ⟨f0, hf⟩ := fc_un (show (1 : Nat) < 100 from by decide) hf
  have f0 : v_iv (n_v vs 14) = v_iv (n_v vs 5) + v_iv (n_v vs 13) := f0
  obtain ⟨f1, hf⟩ := fc_un (show (9 : Nat) < 100 from by decide) hf
  have f1 : n_v vs 5 = w_fd ws (v_ad (n_v vs 2)) 158 := f1
  obtain ⟨f2, hf⟩ := fc_un (show (8 : Nat) < 100 from by decide) hf
  have f2 : v_iv (n_v vs 10) ≠ 0 := f2
  obtain ⟨f3, hf⟩ := fc_un (show (20 : Nat) < 100 from by decide) hf
  have f3 : ((w_fi ws (n_v vs 2) 158 + 1) ≤ w_fi ws (n_v vs 2) 157) ∧ ((w_fi ws (n_v vs 2) 157 ≤ 2010) ∧ ((w_ei ws (w_ar ws (n_v vs 2) 160) ((w_fi ws (n_v vs 2) 157 - 1)) = 0) ∨ (w_ei ws (w_ar ws (n_v vs 2) 160) ((w_fi ws (n_v vs 2) 157 - 1)) = 4))) := f3
  obtain ⟨f4, hf⟩ := fc_un (show (20 : Nat) < 100 from by decide) hf
  have f4 : 1 * v_iv (n_v vs 1) + ((-1) * w_fi ws (n_v vs 2) 158 + 0) ≤ 0 := f4
  obtain ⟨f5, hf⟩ := fc_un (show (20 : Nat) < 100 from by decide) hf
  have f5 : 1 * w_fi ws (n_v vs 2) 159 + 0 ≤ 0 := f5
  obtain ⟨f6, hf⟩ := fc_un (show (20 : Nat) < 100 from by decide) hf
  have f6 : (-1) * w_fi ws (n_v vs 2) 159 + 0 ≤ 0 := f6
  obtain ⟨f7, hf⟩ := fc_un (show (24 : Nat) < 100 from by decide) hf
  have f7 : n_v vs 0 = n_v vs 2 := f7
  obtain ⟨f8, hf⟩ := fc_un (show (20 : Nat) < 100 from by decide) hf
  have f8 : 1 * v_iv (n_v vs 6) + (1 * w_fi ws (n_v vs 2) 158 + 0) ≤ 2010 := f8
  obtain ⟨f9, hf⟩ := fc_un (show (20 : Nat) < 100 from by decide) hf
  have f9 : (-1) * v_iv (n_v vs 6) + ((-1) * w_fi ws (n_v vs 2) 158 + 0) ≤ (-2010) := f9
  obtain ⟨f10, hf⟩ := fc_un (show (20 : Nat) < 100 from by decide) hf
  have f10 : (v_iv (n_v vs 8) = 1) → (w_ei ws (w_ar ws (n_v vs 2) 160) (w_fi ws (n_v vs 2) 158) = 1) := f10
  obtain ⟨f11, hf⟩ := fc_un (show (20 : Nat) < 100 from by decide) hf
  have f11 : (v_iv (n_v vs 10) = 1) → (w_ei ws (w_ar ws (n_v vs 2) 160) (w_fi ws (n_v vs 2) 158) = 1) := f11
  obtain ⟨ta1, w1, le1, ⟨_, s1⟩, hf⟩ := fc_us (show ¬ (102 : Nat) < 100 from by decide) hf
  obtain ⟨f13, hf⟩ := fc_un (show (8 : Nat) < 100 from by decide) hf
  have f13 : v_iv (n_v vs 8) = 0 := f13
  have q2 : n_v vs 2 = n_v vs 0 := f7.symm
  rw [q2] at f1
  rw [q2] at f3
  rw [q2] at f4
  rw [q2] at f5
  rw [q2] at f6
  rw [q2] at f8
  rw [q2] at f9
  rw [q2] at f10
  rw [q2] at f11
  have cr_0_160 : ta (w_ar ws (n_v vs 0) 160) = some 259 := tv_rg (th_fd hD hth r0 (g := GG_150) rfl (k := 160) (t := (2, 0, 0, [259])) rfl rfl)
  have g1 : v_iv (n_v vs 5) = w_fi ws (n_v vs 0) 158 := congrArg v_iv f1
  have hK_0_160 : ∀ j : Int, 0 ≤ j → j < 2010 → 0 ≤ w_ei ws (w_ar ws (n_v vs 0) 160) j ∧ w_ei ws (w_ar ws (n_v vs 0) 160) j ≤ 4 := fun j h0 h1 => th_el hD hth cr_0_160 (kd := 0) (n := 2010) (m := 2010) (lo := 0) (hi := 4) (rs := []) (L := []) rfl (by decide) (j := j.toNat) (by omega)
  have kz_0_157 : 0 ≤ w_fi ws (n_v vs 0) 157 ∧ w_fi ws (n_v vs 0) 157 ≤ 2010 := tv_rng (th_fd hD hth r0 (g := GG_150) rfl (k := 157) (t := (0, 0, 2010, [])) rfl rfl)
  have kz_0_158 : 0 ≤ w_fi ws (n_v vs 0) 158 ∧ w_fi ws (n_v vs 0) 158 ≤ 2009 := tv_rng (th_fd hD hth r0 (g := GG_150) rfl (k := 158) (t := (0, 0, 2009, [])) rfl rfl)
  have kz_0_159 : 0 ≤ w_fi ws (n_v vs 0) 159 ∧ w_fi ws (n_v vs 0) 159 ≤ 13 := tv_rng (th_fd hD hth r0 (g := GG_150) rfl (k := 159) (t := (0, 0, 13, [])) rfl rfl)
  have rf14 : tv_ok ta (0, 1, 2009, []) (n_v vs 14) := tv_in t14 (by first | omega | grind) (by first | omega | grind)
  refine ⟨List.forall_mem_cons.mpr ⟨rf14, (fun _ h => (by cases h))⟩, [], trivial, ?_, (fun _ h => (by cases h))⟩
  rw [List.append_nil]
  exact (fun _ h => (by cases h))
def o_Mo_rule_at_f0_35 : or_T := (189, 16, [(0, (2, 0, 0, [150])), (1, (0, 0, 2009, [])), (2, (2, 0, 0, [150])), (5, (0, 0, 2009, [])), (6, (0, 0, 2010, [])), (8, (0, 0, 0, [])), (10, (0, 1, 1, [])), (13, (0, 1, 1, [])), (14, (0, 1, 2009, []))], [(20, [2], [30, 0, 1, 1, 159]), (20, [2], [30, 0, -1, 1, 159]), (24, [0, 2], []), (101, [2, 14], [158]), (1, [14, 5, 13], []), (9, [5, 2], [158]), (8, [10], [1]), (20, [2], [50, 2, 1, 158, 157, 160, 2, 12, 0, 7, 4, 3, 2, 0, 158, 0, 1, 2, 0, 157, 2, 7, 0, 3, 2, 0, 157, 0, 2010, 3, 14, 1, 10, 3, 0, 160, 5, 3, 2, 0, 157, 0, 1, 0, 0, 1, 10, 3, 0, 160, 5, 3, 2, 0, 157, 0, 1, 0, 4]), (20, [1, 2], [30, 0, 1, 0, 0, -1, 1, 158]), (20, [2], [30, 0, 1, 1, 159]), (20, [2], [30, 0, -1, 1, 159]), (20, [6, 2], [30, 2010, 1, 0, 0, 1, 1, 158]), (20, [6, 2], [30, -2010, -1, 0, 0, -1, 1, 158]), (20, [8, 2], [50, 1, 1, 1158, 1160, 4, 6, 1, 2, 1, 0, 0, 1, 1, 6, 3, 1, 160, 2, 1, 158, 0, 1]), (20, [10, 2], [50, 1, 1, 1158, 1160, 4, 6, 1, 2, 1, 0, 0, 1, 1, 6, 3, 1, 160, 2, 1, 158, 0, 1]), (102, [9], [0]), (8, [8], [0])], [], [(0, 0, 2009, [])], [(20, [2], [50, 2, 1, 158, 157, 160, 2, 12, 0, 7, 4, 3, 2, 0, 158, 0, 1, 2, 0, 157, 2, 7, 0, 3, 2, 0, 157, 0, 2010, 3, 14, 1, 10, 3, 0, 160, 5, 3, 2, 0, 157, 0, 1, 0, 0, 1, 10, 3, 0, 160, 5, 3, 2, 0, 157, 0, 1, 0, 4]), (20, [2, 16], [30, 0, 1, 1, 158, -1, 0, 0]), (20, [2, 16], [30, 0, -1, 1, 158, 1, 0, 0]), (23, [1, 16], [0, 1, -1]), (23, [6, 16], [-2011, -1, -1])], [], [(14, 5, 1, 1), (14, 1, -4294967296, 2010), (1, 5, -4294967296, 2009), (5, 1, -4294967296, 2009)])
theorem oo_Mo_rule_at_f0_35 {kA : Nat → ClassId} : or_ok kA GG o_Mo_rule_at_f0_35 := by
  intro A ta ws vs hD hth hl hk hds hf
  have hl : vs.length = 16 := hl
  have hk : ∀ q ∈ ([(0, (2, 0, 0, [150])), (1, (0, 0, 2009, [])), (2, (2, 0, 0, [150])), (5, (0, 0, 2009, [])), (6, (0, 0, 2010, [])), (8, (0, 0, 0, [])), (10, (0, 1, 1, [])), (13, (0, 1, 1, [])), (14, (0, 1, 2009, []))] : List (Nat × tv_T)), tv_ok ta q.2 (n_v vs q.1) := hk
  obtain ⟨t0, hk⟩ := List.forall_mem_cons.mp hk
  have t0 : tv_ok ta (2, 0, 0, [150]) (n_v vs 0) := t0
  have r0 : ta (v_ad (n_v vs 0)) = some 150 := tv_rg t0
  obtain ⟨t1, hk⟩ := List.forall_mem_cons.mp hk
  have t1 : tv_ok ta (0, 0, 2009, []) (n_v vs 1) := t1
  have k1 : 0 ≤ v_iv (n_v vs 1) ∧ v_iv (n_v vs 1) ≤ 2009 := tv_rng t1
  obtain ⟨t2, hk⟩ := List.forall_mem_cons.mp hk
  have t2 : tv_ok ta (2, 0, 0, [150]) (n_v vs 2) := t2
  have r2 : ta (v_ad (n_v vs 2)) = some 150 := tv_rg t2
  obtain ⟨t5, hk⟩ := List.forall_mem_cons.mp hk
  have t5 : tv_ok ta (0, 0, 2009, []) (n_v vs 5) := t5
  have k5 : 0 ≤ v_iv (n_v vs 5) ∧ v_iv (n_v vs 5) ≤ 2009 := tv_rng t5
  obtain ⟨t6, hk⟩ := List.forall_mem_cons.mp hk
  have t6 : tv_ok ta (0, 0, 2010, []) (n_v vs 6) := t6
  have k6 : 0 ≤ v_iv (n_v vs 6) ∧ v_iv (n_v vs 6) ≤ 2010 := tv_rng t6
  obtain ⟨t8, hk⟩ := List.forall_mem_cons.mp hk
  have t8 : tv_ok ta (0, 0, 0, []) (n_v vs 8) := t8
  have k8 : 0 ≤ v_iv (n_v vs 8) ∧ v_iv (n_v vs 8) ≤ 0 := tv_rng t8
  obtain ⟨t10, hk⟩ := List.forall_mem_cons.mp hk
  have t10 : tv_ok ta (0, 1, 1, []) (n_v vs 10) := t10
  have k10 : 1 ≤ v_iv (n_v vs 10) ∧ v_iv (n_v vs 10) ≤ 1 := tv_rng t10
  obtain ⟨t13, hk⟩ := List.forall_mem_cons.mp hk
  have t13 : tv_ok ta (0, 1, 1, []) (n_v vs 13) := t13
  have k13 : 1 ≤ v_iv (n_v vs 13) ∧ v_iv (n_v vs 13) ≤ 1 := tv_rng t13
  obtain ⟨t14, hk⟩ := List.forall_mem_cons.mp hk
  have t14 : tv_ok ta (0, 1, 2009, []) (n_v vs 14) := t14
  have k14 : 1 ≤ v_iv (n_v vs 14) ∧ v_iv (n_v vs 14) ≤ 2009 := tv_rng t14
  have hds : ∀ q ∈ ([(14, 5, 1, 1), (14, 1, -4294967296, 2010), (1, 5, -4294967296, 2009), (5, 1, -4294967296, 2009)] : List of_T), n_iv vs q.2.1 + q.2.2.1 ≤ n_iv vs q.1 ∧ n_iv vs q.1 ≤ n_iv vs q.2.1 + q.2.2.2 := hds
  obtain ⟨d0, hds⟩ := List.forall_mem_cons.mp hds
  have d0 : v_iv (n_v vs 5) + 1 ≤ v_iv (n_v vs 14) ∧ v_iv (n_v vs 14) ≤ v_iv (n_v vs 5) + 1 := d0
  obtain ⟨d1, hds⟩ := List.forall_mem_cons.mp hds
  have d1 : v_iv (n_v vs 1) + (-4294967296) ≤ v_iv (n_v vs 14) ∧ v_iv (n_v vs 14) ≤ v_iv (n_v vs 1) + 2010 := d1
  obtain ⟨d2, hds⟩ := List.forall_mem_cons.mp hds
  have d2 : v_iv (n_v vs 5) + (-4294967296) ≤ v_iv (n_v vs 1) ∧ v_iv (n_v vs 1) ≤ v_iv (n_v vs 5) + 2009 := d2
  obtain ⟨d3, hds⟩ := List.forall_mem_cons.mp hds
  have d3 : v_iv (n_v vs 1) + (-4294967296) ≤ v_iv (n_v vs 5) ∧ v_iv (n_v vs 5) ≤ v_iv (n_v vs 1) + 2009 := d3
  have hf : fc_ok [(20, [2], [30, 0, 1, 1, 159]), (20, [2], [30, 0, -1, 1, 159]), (24, [0, 2], []), (101, [2, 14], [158]), (1, [14, 5, 13], []), (9, [5, 2], [158]), (8, [10], [1]), (20, [2], [50, 2, 1, 158, 157, 160, 2, 12, 0, 7, 4, 3, 2, 0, 158, 0, 1, 2, 0, 157, 2, 7, 0, 3, 2, 0, 157, 0, 2010, 3, 14, 1, 10, 3, 0, 160, 5, 3, 2, 0, 157, 0, 1, 0, 0, 1, 10, 3, 0, 160, 5, 3, 2, 0, 157, 0, 1, 0, 4]), (20, [1, 2], [30, 0, 1, 0, 0, -1, 1, 158]), (20, [2], [30, 0, 1, 1, 159]), (20, [2], [30, 0, -1, 1, 159]), (20, [6, 2], [30, 2010, 1, 0, 0, 1, 1, 158]), (20, [6, 2], [30, -2010, -1, 0, 0, -1, 1, 158]), (20, [8, 2], [50, 1, 1, 1158, 1160, 4, 6, 1, 2, 1, 0, 0, 1, 1, 6, 3, 1, 160, 2, 1, 158, 0, 1]), (20, [10, 2], [50, 1, 1, 1158, 1160, 4, 6, 1, 2, 1, 0, 0, 1, 1, 6, 3, 1, 160, 2, 1, 158, 0, 1]), (102, [9], [0]), (8, [8], [0])] ta ws vs := hf
  obtain ⟨f0, hf⟩ := fc_un (show (20 : Nat) < 100 from by decide) hf
  have f0 : 1 * w_fi ws (n_v vs 2) 159 + 0 ≤ 0 := f0
  obtain ⟨f1, hf⟩ := fc_un (show (20 : Nat) < 100 from by decide) hf
  have f1 : (-1) * w_fi ws (n_v vs 2) 159 + 0 ≤ 0 := f1
  obtain ⟨f2, hf⟩ := fc_un (show (24 : Nat) < 100 from by decide) hf
  have f2 : n_v vs 0 = n_v vs 2 := f2
  obtain ⟨ta1, w1, le1, ⟨_, s1⟩, hf⟩ := fc_us (show ¬ (101 : Nat) < 100 from by decide) hf
  have s1 : (∀ b j, w_el ws b j = w_el w1 b j) ∧ ∀ b j, w_fd ws b j = if b = v_ad (n_v vs 2) ∧ j = 158 then n_v vs 14 else w_fd w1 b j := s1
  obtain ⟨f4, hf⟩ := fc_un (show (1 : Nat) < 100 from by decide) hf
  have f4 : v_iv (n_v vs 14) = v_iv (n_v vs 5) + v_iv (n_v vs 13) := f4
  obtain ⟨f5, hf⟩ := fc_un (show (9 : Nat) < 100 from by decide) hf
  have f5 : n_v vs 5 = w_fd w1 (v_ad (n_v vs 2)) 158 := f5
  obtain ⟨f6, hf⟩ := fc_un (show (8 : Nat) < 100 from by decide) hf
  have f6 : v_iv (n_v vs 10) ≠ 0 := f6
  obtain ⟨f7, hf⟩ := fc_un (show (20 : Nat) < 100 from by decide) hf
  have f7 : ((w_fi w1 (n_v vs 2) 158 + 1) ≤ w_fi w1 (n_v vs 2) 157) ∧ ((w_fi w1 (n_v vs 2) 157 ≤ 2010) ∧ ((w_ei w1 (w_ar w1 (n_v vs 2) 160) ((w_fi w1 (n_v vs 2) 157 - 1)) = 0) ∨ (w_ei w1 (w_ar w1 (n_v vs 2) 160) ((w_fi w1 (n_v vs 2) 157 - 1)) = 4))) := f7
  obtain ⟨f8, hf⟩ := fc_un (show (20 : Nat) < 100 from by decide) hf
  have f8 : 1 * v_iv (n_v vs 1) + ((-1) * w_fi w1 (n_v vs 2) 158 + 0) ≤ 0 := f8
  obtain ⟨f9, hf⟩ := fc_un (show (20 : Nat) < 100 from by decide) hf
  have f9 : 1 * w_fi w1 (n_v vs 2) 159 + 0 ≤ 0 := f9
  obtain ⟨f10, hf⟩ := fc_un (show (20 : Nat) < 100 from by decide) hf
  have f10 : (-1) * w_fi w1 (n_v vs 2) 159 + 0 ≤ 0 := f10
  obtain ⟨f11, hf⟩ := fc_un (show (20 : Nat) < 100 from by decide) hf
  have f11 : 1 * v_iv (n_v vs 6) + (1 * w_fi w1 (n_v vs 2) 158 + 0) ≤ 2010 := f11
  obtain ⟨f12, hf⟩ := fc_un (show (20 : Nat) < 100 from by decide) hf
  have f12 : (-1) * v_iv (n_v vs 6) + ((-1) * w_fi w1 (n_v vs 2) 158 + 0) ≤ (-2010) := f12
  obtain ⟨f13, hf⟩ := fc_un (show (20 : Nat) < 100 from by decide) hf
  have f13 : (v_iv (n_v vs 8) = 1) → (w_ei w1 (w_ar w1 (n_v vs 2) 160) (w_fi w1 (n_v vs 2) 158) = 1) := f13
  obtain ⟨f14, hf⟩ := fc_un (show (20 : Nat) < 100 from by decide) hf
  have f14 : (v_iv (n_v vs 10) = 1) → (w_ei w1 (w_ar w1 (n_v vs 2) 160) (w_fi w1 (n_v vs 2) 158) = 1) := f14
  obtain ⟨ta2, w2, le2, ⟨_, s2⟩, hf⟩ := fc_us (show ¬ (102 : Nat) < 100 from by decide) hf
  obtain ⟨f16, hf⟩ := fc_un (show (8 : Nat) < 100 from by decide) hf
  have f16 : v_iv (n_v vs 8) = 0 := f16
  have q2 : n_v vs 2 = n_v vs 0 := f2.symm
  rw [q2] at f0
  rw [q2] at f1
  rw [q2] at s1
  rw [q2] at f5
  rw [q2] at f7
  rw [q2] at f8
  rw [q2] at f9
  rw [q2] at f10
  rw [q2] at f11
  rw [q2] at f12
  rw [q2] at f13
  rw [q2] at f14
  have ar_0_160_1 : w_ar w1 (n_v vs 0) 160 = w_ar ws (n_v vs 0) 160 := by show v_ad (w_fd w1 _ _) = v_ad (w_fd ws _ _); rw [s1.2, if_neg (fun e => absurd e.2 (by decide))]
  have cr_0_160 : ta (w_ar ws (n_v vs 0) 160) = some 259 := tv_rg (th_fd hD hth r0 (g := GG_150) rfl (k := 160) (t := (2, 0, 0, [259])) rfl rfl)
  have g5 : v_iv (n_v vs 5) = w_fi w1 (n_v vs 0) 158 := congrArg v_iv f5
  rw [ar_0_160_1] at f7
  rw [ar_0_160_1] at f13
  rw [ar_0_160_1] at f14
  have fe_0_157_1 : w_fi ws (n_v vs 0) 157 = w_fi w1 (n_v vs 0) 157 := by show v_iv (w_fd _ _ _) = v_iv (w_fd _ _ _); rw [s1.2, if_neg (fun e => absurd e.2 (by decide))]
  have fe_0_158_1 : w_fi ws (n_v vs 0) 158 = v_iv (n_v vs 14) := by show v_iv (w_fd _ _ _) = _; rw [s1.2, if_pos ⟨rfl, rfl⟩]
  have fe_0_159_1 : w_fi ws (n_v vs 0) 159 = w_fi w1 (n_v vs 0) 159 := by show v_iv (w_fd _ _ _) = v_iv (w_fd _ _ _); rw [s1.2, if_neg (fun e => absurd e.2 (by decide))]
  have hE_0_160_1 : ∀ j : Int, w_ei ws (w_ar ws (n_v vs 0) 160) j = w_ei w1 (w_ar ws (n_v vs 0) 160) j := fun j => s1.1 _ _
  have hK_0_160 : ∀ j : Int, 0 ≤ j → j < 2010 → 0 ≤ w_ei ws (w_ar ws (n_v vs 0) 160) j ∧ w_ei ws (w_ar ws (n_v vs 0) 160) j ≤ 4 := fun j h0 h1 => th_el hD hth cr_0_160 (kd := 0) (n := 2010) (m := 2010) (lo := 0) (hi := 4) (rs := []) (L := []) rfl (by decide) (j := j.toNat) (by omega)
  have kz_0_157 : 0 ≤ w_fi ws (n_v vs 0) 157 ∧ w_fi ws (n_v vs 0) 157 ≤ 2010 := tv_rng (th_fd hD hth r0 (g := GG_150) rfl (k := 157) (t := (0, 0, 2010, [])) rfl rfl)
  have kz_0_158 : 0 ≤ w_fi ws (n_v vs 0) 158 ∧ w_fi ws (n_v vs 0) 158 ≤ 2009 := tv_rng (th_fd hD hth r0 (g := GG_150) rfl (k := 158) (t := (0, 0, 2009, [])) rfl rfl)
  have kz_0_159 : 0 ≤ w_fi ws (n_v vs 0) 159 ∧ w_fi ws (n_v vs 0) 159 ≤ 13 := tv_rng (th_fd hD hth r0 (g := GG_150) rfl (k := 159) (t := (0, 0, 13, [])) rfl rfl)
  have kv0 : 0 ≤ w_fi ws (n_v vs 0) 158 ∧ w_fi ws (n_v vs 0) 158 ≤ 2009 := tv_rng (th_fd hD hth r0 (g := GG_150) rfl (k := 158) (t := (0, 0, 2009, [])) rfl rfl)
  obtain ⟨x, ex, hx⟩ := iv_ex (ta := ta) (lo := 0) (hi := 2009) (z := w_fi ws (n_v vs 0) 158) (by omega) (by omega) (by omega) (by omega)
  have ex2 : v_iv (Value.int x) = w_fi ws (n_v vs 0) 158 := ex
  have ex3 : 0 ≤ v_iv (Value.int x) ∧ v_iv (Value.int x) ≤ 2009 := tv_rng hx
  have e_1 : n_v (vs ++ [Value.int x]) 1 = n_v vs 1 := n_v_old (by rw [hl]; decide)
  have e_2 : n_v (vs ++ [Value.int x]) 2 = n_v vs 2 := n_v_old (by rw [hl]; decide)
  have e_6 : n_v (vs ++ [Value.int x]) 6 = n_v vs 6 := n_v_old (by rw [hl]; decide)
  have e_16 : n_v (vs ++ [Value.int x]) 16 = Value.int x := n_v_new hl
  have nf0 : fc_1 (20, [2], [50, 2, 1, 158, 157, 160, 2, 12, 0, 7, 4, 3, 2, 0, 158, 0, 1, 2, 0, 157, 2, 7, 0, 3, 2, 0, 157, 0, 2010, 3, 14, 1, 10, 3, 0, 160, 5, 3, 2, 0, 157, 0, 1, 0, 0, 1, 10, 3, 0, 160, 5, 3, 2, 0, 157, 0, 1, 0, 4]) ws (vs ++ [Value.int x]) := by
    refine ⟨fun n hn => ?_, ?_⟩
    · have hn : n ∈ [2] := hn
      rw [List.length_append, hl]
      simp only [List.mem_cons, List.not_mem_nil, or_false] at hn
      show n < 16 + 1; omega
    · show ((w_fi ws (n_v (vs ++ [Value.int x]) 2) 158 + 1) ≤ w_fi ws (n_v (vs ++ [Value.int x]) 2) 157) ∧ ((w_fi ws (n_v (vs ++ [Value.int x]) 2) 157 ≤ 2010) ∧ ((w_ei ws (w_ar ws (n_v (vs ++ [Value.int x]) 2) 160) ((w_fi ws (n_v (vs ++ [Value.int x]) 2) 157 - 1)) = 0) ∨ (w_ei ws (w_ar ws (n_v (vs ++ [Value.int x]) 2) 160) ((w_fi ws (n_v (vs ++ [Value.int x]) 2) 157 - 1)) = 4)))
      rw [e_2]
      rw [q2]
      first | omega | grind
  have nf1 : fc_1 (20, [2, 16], [30, 0, 1, 1, 158, -1, 0, 0]) ws (vs ++ [Value.int x]) := by
    refine ⟨fun n hn => ?_, ?_⟩
    · have hn : n ∈ [2, 16] := hn
      rw [List.length_append, hl]
      simp only [List.mem_cons, List.not_mem_nil, or_false] at hn
      show n < 16 + 1; omega
    · show 1 * w_fi ws (n_v (vs ++ [Value.int x]) 2) 158 + ((-1) * v_iv (n_v (vs ++ [Value.int x]) 16) + 0) ≤ 0
      rw [e_2]
      rw [e_16]
      rw [q2]
      omega
  have nf2 : fc_1 (20, [2, 16], [30, 0, -1, 1, 158, 1, 0, 0]) ws (vs ++ [Value.int x]) := by
    refine ⟨fun n hn => ?_, ?_⟩
    · have hn : n ∈ [2, 16] := hn
      rw [List.length_append, hl]
      simp only [List.mem_cons, List.not_mem_nil, or_false] at hn
      show n < 16 + 1; omega
    · show (-1) * w_fi ws (n_v (vs ++ [Value.int x]) 2) 158 + (1 * v_iv (n_v (vs ++ [Value.int x]) 16) + 0) ≤ 0
      rw [e_2]
      rw [e_16]
      rw [q2]
      omega
  have nf3 : fc_1 (23, [1, 16], [0, 1, -1]) ws (vs ++ [Value.int x]) := by
    refine ⟨fun n hn => ?_, ?_⟩
    · have hn : n ∈ [1, 16] := hn
      rw [List.length_append, hl]
      simp only [List.mem_cons, List.not_mem_nil, or_false] at hn
      show n < 16 + 1; omega
    · show 1 * v_iv (n_v (vs ++ [Value.int x]) 1) + ((-1) * v_iv (n_v (vs ++ [Value.int x]) 16) + 0) ≤ 0
      rw [e_1]
      rw [e_16]
      omega
  have nf4 : fc_1 (23, [6, 16], [-2011, -1, -1]) ws (vs ++ [Value.int x]) := by
    refine ⟨fun n hn => ?_, ?_⟩
    · have hn : n ∈ [6, 16] := hn
      rw [List.length_append, hl]
      simp only [List.mem_cons, List.not_mem_nil, or_false] at hn
      show n < 16 + 1; omega
    · show (-1) * v_iv (n_v (vs ++ [Value.int x]) 6) + ((-1) * v_iv (n_v (vs ++ [Value.int x]) 16) + 0) ≤ (-2011)
      rw [e_6]
      rw [e_16]
      omega
  exact ⟨fun q hq => (by cases hq), [Value.int x], ag_one hx, List.forall_mem_cons.mpr ⟨⟨show (20 : Nat) < 100 from by decide, nf0⟩, List.forall_mem_cons.mpr ⟨⟨show (20 : Nat) < 100 from by decide, nf1⟩, List.forall_mem_cons.mpr ⟨⟨show (20 : Nat) < 100 from by decide, nf2⟩, List.forall_mem_cons.mpr ⟨⟨show (23 : Nat) < 100 from by decide, nf3⟩, List.forall_mem_cons.mpr ⟨⟨show (23 : Nat) < 100 from by decide, nf4⟩, (fun _ h => (by cases h))⟩⟩⟩⟩⟩, (fun _ h => (by cases h))⟩
def o_Mo_rule_at_f0_36 : or_T := (193, 17, [(0, (2, 0, 0, [150])), (1, (0, 0, 2009, [])), (2, (2, 0, 0, [150])), (5, (0, 0, 2009, [])), (6, (0, 0, 2010, [])), (13, (0, 1, 1, [])), (14, (0, 1, 2009, [])), (16, (0, 0, 2009, []))], [(23, [1, 16], [0, 1, -1]), (23, [6, 16], [-2011, -1, -1]), (20, [2], [30, 0, 1, 1, 159]), (20, [2], [30, 0, -1, 1, 159]), (24, [0, 2], []), (20, [2], [50, 2, 1, 158, 157, 160, 2, 12, 0, 7, 4, 3, 2, 0, 158, 0, 1, 2, 0, 157, 2, 7, 0, 3, 2, 0, 157, 0, 2010, 3, 14, 1, 10, 3, 0, 160, 5, 3, 2, 0, 157, 0, 1, 0, 0, 1, 10, 3, 0, 160, 5, 3, 2, 0, 157, 0, 1, 0, 4]), (20, [16, 2], [30, 0, 1, 0, 0, -1, 1, 158]), (102, [16], [0, 13008, 13009, 13158]), (23, [1, 16], [0, 1, -1]), (23, [6, 16], [-2011, -1, -1]), (101, [2, 14], [158]), (1, [14, 5, 13], [])], [], [(0, 0, 2009, [])], [(20, [2], [50, 2, 1, 158, 157, 160, 2, 12, 0, 7, 4, 3, 2, 0, 158, 0, 1, 2, 0, 157, 2, 7, 0, 3, 2, 0, 157, 0, 2010, 3, 14, 1, 10, 3, 0, 160, 5, 3, 2, 0, 157, 0, 1, 0, 0, 1, 10, 3, 0, 160, 5, 3, 2, 0, 157, 0, 1, 0, 4]), (20, [2, 17], [30, 0, 1, 1, 158, -1, 0, 0]), (20, [2, 17], [30, 0, -1, 1, 158, 1, 0, 0]), (20, [2], [30, 0, 1, 1, 159]), (20, [2], [30, 0, -1, 1, 159]), (23, [1, 17], [0, 1, -1]), (23, [6, 17], [-2011, -1, -1])], [], [(14, 5, 1, 1), (14, 1, -4294967296, 2010), (1, 5, -4294967296, 2009), (5, 1, -4294967296, 2009)])
theorem oo_Mo_rule_at_f0_36 {kA : Nat → ClassId} : or_ok kA GG o_Mo_rule_at_f0_36 := by
  intro A ta ws vs hD hth hl hk hds hf
  have hl : vs.length = 17 := hl
  have hk : ∀ q ∈ ([(0, (2, 0, 0, [150])), (1, (0, 0, 2009, [])), (2, (2, 0, 0, [150])), (5, (0, 0, 2009, [])), (6, (0, 0, 2010, [])), (13, (0, 1, 1, [])), (14, (0, 1, 2009, [])), (16, (0, 0, 2009, []))] : List (Nat × tv_T)), tv_ok ta q.2 (n_v vs q.1) := hk
  obtain ⟨t0, hk⟩ := List.forall_mem_cons.mp hk
  have t0 : tv_ok ta (2, 0, 0, [150]) (n_v vs 0) := t0
  have r0 : ta (v_ad (n_v vs 0)) = some 150 := tv_rg t0
  obtain ⟨t1, hk⟩ := List.forall_mem_cons.mp hk
  have t1 : tv_ok ta (0, 0, 2009, []) (n_v vs 1) := t1
  have k1 : 0 ≤ v_iv (n_v vs 1) ∧ v_iv (n_v vs 1) ≤ 2009 := tv_rng t1
  obtain ⟨t2, hk⟩ := List.forall_mem_cons.mp hk
  have t2 : tv_ok ta (2, 0, 0, [150]) (n_v vs 2) := t2
  have r2 : ta (v_ad (n_v vs 2)) = some 150 := tv_rg t2
  obtain ⟨t5, hk⟩ := List.forall_mem_cons.mp hk
  have t5 : tv_ok ta (0, 0, 2009, []) (n_v vs 5) := t5
  have k5 : 0 ≤ v_iv (n_v vs 5) ∧ v_iv (n_v vs 5) ≤ 2009 := tv_rng t5
  obtain ⟨t6, hk⟩ := List.forall_mem_cons.mp hk
  have t6 : tv_ok ta (0, 0, 2010, []) (n_v vs 6) := t6
  have k6 : 0 ≤ v_iv (n_v vs 6) ∧ v_iv (n_v vs 6) ≤ 2010 := tv_rng t6
  obtain ⟨t13, hk⟩ := List.forall_mem_cons.mp hk
  have t13 : tv_ok ta (0, 1, 1, []) (n_v vs 13) := t13
  have k13 : 1 ≤ v_iv (n_v vs 13) ∧ v_iv (n_v vs 13) ≤ 1 := tv_rng t13
  obtain ⟨t14, hk⟩ := List.forall_mem_cons.mp hk
  have t14 : tv_ok ta (0, 1, 2009, []) (n_v vs 14) := t14
  have k14 : 1 ≤ v_iv (n_v vs 14) ∧ v_iv (n_v vs 14) ≤ 2009 := tv_rng t14
  obtain ⟨t16, hk⟩ := List.forall_mem_cons.mp hk
  have t16 : tv_ok ta (0, 0, 2009, []) (n_v vs 16) := t16
  have k16 : 0 ≤ v_iv (n_v vs 16) ∧ v_iv (n_v vs 16) ≤ 2009 := tv_rng t16
  have hds : ∀ q ∈ ([(14, 5, 1, 1), (14, 1, -4294967296, 2010), (1, 5, -4294967296, 2009), (5, 1, -4294967296, 2009)] : List of_T), n_iv vs q.2.1 + q.2.2.1 ≤ n_iv vs q.1 ∧ n_iv vs q.1 ≤ n_iv vs q.2.1 + q.2.2.2 := hds
  obtain ⟨d0, hds⟩ := List.forall_mem_cons.mp hds
  have d0 : v_iv (n_v vs 5) + 1 ≤ v_iv (n_v vs 14) ∧ v_iv (n_v vs 14) ≤ v_iv (n_v vs 5) + 1 := d0
  obtain ⟨d1, hds⟩ := List.forall_mem_cons.mp hds
  have d1 : v_iv (n_v vs 1) + (-4294967296) ≤ v_iv (n_v vs 14) ∧ v_iv (n_v vs 14) ≤ v_iv (n_v vs 1) + 2010 := d1
  obtain ⟨d2, hds⟩ := List.forall_mem_cons.mp hds
  have d2 : v_iv (n_v vs 5) + (-4294967296) ≤ v_iv (n_v vs 1) ∧ v_iv (n_v vs 1) ≤ v_iv (n_v vs 5) + 2009 := d2
  obtain ⟨d3, hds⟩ := List.forall_mem_cons.mp hds
  have d3 : v_iv (n_v vs 1) + (-4294967296) ≤ v_iv (n_v vs 5) ∧ v_iv (n_v vs 5) ≤ v_iv (n_v vs 1) + 2009 := d3
  have hf : fc_ok [(23, [1, 16], [0, 1, -1]), (23, [6, 16], [-2011, -1, -1]), (20, [2], [30, 0, 1, 1, 159]), (20, [2], [30, 0, -1, 1, 159]), (24, [0, 2], []), (20, [2], [50, 2, 1, 158, 157, 160, 2, 12, 0, 7, 4, 3, 2, 0, 158, 0, 1, 2, 0, 157, 2, 7, 0, 3, 2, 0, 157, 0, 2010, 3, 14, 1, 10, 3, 0, 160, 5, 3, 2, 0, 157, 0, 1, 0, 0, 1, 10, 3, 0, 160, 5, 3, 2, 0, 157, 0, 1, 0, 4]), (20, [16, 2], [30, 0, 1, 0, 0, -1, 1, 158]), (102, [16], [0, 13008, 13009, 13158]), (23, [1, 16], [0, 1, -1]), (23, [6, 16], [-2011, -1, -1]), (101, [2, 14], [158]), (1, [14, 5, 13], [])] ta ws vs := hf
  obtain ⟨f0, hf⟩ := fc_un (show (23 : Nat) < 100 from by decide) hf
  have f0 : 1 * v_iv (n_v vs 1) + ((-1) * v_iv (n_v vs 16) + 0) ≤ 0 := f0
  obtain ⟨f1, hf⟩ := fc_un (show (23 : Nat) < 100 from by decide) hf
  have f1 : (-1) * v_iv (n_v vs 6) + ((-1) * v_iv (n_v vs 16) + 0) ≤ (-2011) := f1
  obtain ⟨f2, hf⟩ := fc_un (show (20 : Nat) < 100 from by decide) hf
  have f2 : 1 * w_fi ws (n_v vs 2) 159 + 0 ≤ 0 := f2
  obtain ⟨f3, hf⟩ := fc_un (show (20 : Nat) < 100 from by decide) hf
  have f3 : (-1) * w_fi ws (n_v vs 2) 159 + 0 ≤ 0 := f3
  obtain ⟨f4, hf⟩ := fc_un (show (24 : Nat) < 100 from by decide) hf
  have f4 : n_v vs 0 = n_v vs 2 := f4
  obtain ⟨f5, hf⟩ := fc_un (show (20 : Nat) < 100 from by decide) hf
  have f5 : ((w_fi ws (n_v vs 2) 158 + 1) ≤ w_fi ws (n_v vs 2) 157) ∧ ((w_fi ws (n_v vs 2) 157 ≤ 2010) ∧ ((w_ei ws (w_ar ws (n_v vs 2) 160) ((w_fi ws (n_v vs 2) 157 - 1)) = 0) ∨ (w_ei ws (w_ar ws (n_v vs 2) 160) ((w_fi ws (n_v vs 2) 157 - 1)) = 4))) := f5
  obtain ⟨f6, hf⟩ := fc_un (show (20 : Nat) < 100 from by decide) hf
  have f6 : 1 * v_iv (n_v vs 16) + ((-1) * w_fi ws (n_v vs 2) 158 + 0) ≤ 0 := f6
  obtain ⟨ta1, w1, le1, ⟨_, s1⟩, hf⟩ := fc_us (show ¬ (102 : Nat) < 100 from by decide) hf
  obtain ⟨f8, hf⟩ := fc_un (show (23 : Nat) < 100 from by decide) hf
  have f8 : 1 * v_iv (n_v vs 1) + ((-1) * v_iv (n_v vs 16) + 0) ≤ 0 := f8
  obtain ⟨f9, hf⟩ := fc_un (show (23 : Nat) < 100 from by decide) hf
  have f9 : (-1) * v_iv (n_v vs 6) + ((-1) * v_iv (n_v vs 16) + 0) ≤ (-2011) := f9
  obtain ⟨ta2, w2, le2, ⟨_, s2⟩, hf⟩ := fc_us (show ¬ (101 : Nat) < 100 from by decide) hf
  have s2 : (∀ b j, w_el w1 b j = w_el w2 b j) ∧ ∀ b j, w_fd w1 b j = if b = v_ad (n_v vs 2) ∧ j = 158 then n_v vs 14 else w_fd w2 b j := s2
  obtain ⟨f11, hf⟩ := fc_un (show (1 : Nat) < 100 from by decide) hf
  have f11 : v_iv (n_v vs 14) = v_iv (n_v vs 5) + v_iv (n_v vs 13) := f11
  have q2 : n_v vs 2 = n_v vs 0 := f4.symm
  rw [q2] at f2
  rw [q2] at f3
  rw [q2] at f5
  rw [q2] at f6
  rw [q2] at s2
  have cr_0_160 : ta (w_ar ws (n_v vs 0) 160) = some 259 := tv_rg (th_fd hD hth r0 (g := GG_150) rfl (k := 160) (t := (2, 0, 0, [259])) rfl rfl)
  have hK_0_160 : ∀ j : Int, 0 ≤ j → j < 2010 → 0 ≤ w_ei ws (w_ar ws (n_v vs 0) 160) j ∧ w_ei ws (w_ar ws (n_v vs 0) 160) j ≤ 4 := fun j h0 h1 => th_el hD hth cr_0_160 (kd := 0) (n := 2010) (m := 2010) (lo := 0) (hi := 4) (rs := []) (L := []) rfl (by decide) (j := j.toNat) (by omega)
  have kz_0_157 : 0 ≤ w_fi ws (n_v vs 0) 157 ∧ w_fi ws (n_v vs 0) 157 ≤ 2010 := tv_rng (th_fd hD hth r0 (g := GG_150) rfl (k := 157) (t := (0, 0, 2010, [])) rfl rfl)
  have kz_0_158 : 0 ≤ w_fi ws (n_v vs 0) 158 ∧ w_fi ws (n_v vs 0) 158 ≤ 2009 := tv_rng (th_fd hD hth r0 (g := GG_150) rfl (k := 158) (t := (0, 0, 2009, [])) rfl rfl)
  have kz_0_159 : 0 ≤ w_fi ws (n_v vs 0) 159 ∧ w_fi ws (n_v vs 0) 159 ≤ 13 := tv_rng (th_fd hD hth r0 (g := GG_150) rfl (k := 159) (t := (0, 0, 13, [])) rfl rfl)
  have kv0 : 0 ≤ w_fi ws (n_v vs 0) 158 ∧ w_fi ws (n_v vs 0) 158 ≤ 2009 := tv_rng (th_fd hD hth r0 (g := GG_150) rfl (k := 158) (t := (0, 0, 2009, [])) rfl rfl)
  obtain ⟨x, ex, hx⟩ := iv_ex (ta := ta) (lo := 0) (hi := 2009) (z := w_fi ws (n_v vs 0) 158) (by omega) (by omega) (by omega) (by omega)
  have ex2 : v_iv (Value.int x) = w_fi ws (n_v vs 0) 158 := ex
  have ex3 : 0 ≤ v_iv (Value.int x) ∧ v_iv (Value.int x) ≤ 2009 := tv_rng hx
  have e_1 : n_v (vs ++ [Value.int x]) 1 = n_v vs 1 := n_v_old (by rw [hl]; decide)
  have e_2 : n_v (vs ++ [Value.int x]) 2 = n_v vs 2 := n_v_old (by rw [hl]; decide)
  have e_6 : n_v (vs ++ [Value.int x]) 6 = n_v vs 6 := n_v_old (by rw [hl]; decide)
  have e_17 : n_v (vs ++ [Value.int x]) 17 = Value.int x := n_v_new hl
  have nf0 : fc_1 (20, [2], [50, 2, 1, 158, 157, 160, 2, 12, 0, 7, 4, 3, 2, 0, 158, 0, 1, 2, 0, 157, 2, 7, 0, 3, 2, 0, 157, 0, 2010, 3, 14, 1, 10, 3, 0, 160, 5, 3, 2, 0, 157, 0, 1, 0, 0, 1, 10, 3, 0, 160, 5, 3, 2, 0, 157, 0, 1, 0, 4]) ws (vs ++ [Value.int x]) := by
    refine ⟨fun n hn => ?_, ?_⟩
    · have hn : n ∈ [2] := hn
      rw [List.length_append, hl]
      simp only [List.mem_cons, List.not_mem_nil, or_false] at hn
      show n < 17 + 1; omega
    · show ((w_fi ws (n_v (vs ++ [Value.int x]) 2) 158 + 1) ≤ w_fi ws (n_v (vs ++ [Value.int x]) 2) 157) ∧ ((w_fi ws (n_v (vs ++ [Value.int x]) 2) 157 ≤ 2010) ∧ ((w_ei ws (w_ar ws (n_v (vs ++ [Value.int x]) 2) 160) ((w_fi ws (n_v (vs ++ [Value.int x]) 2) 157 - 1)) = 0) ∨ (w_ei ws (w_ar ws (n_v (vs ++ [Value.int x]) 2) 160) ((w_fi ws (n_v (vs ++ [Value.int x]) 2) 157 - 1)) = 4)))
      rw [e_2]
      rw [q2]
      first | omega | grind
  have nf1 : fc_1 (20, [2, 17], [30, 0, 1, 1, 158, -1, 0, 0]) ws (vs ++ [Value.int x]) := by
    refine ⟨fun n hn => ?_, ?_⟩
    · have hn : n ∈ [2, 17] := hn
      rw [List.length_append, hl]
      simp only [List.mem_cons, List.not_mem_nil, or_false] at hn
      show n < 17 + 1; omega
    · show 1 * w_fi ws (n_v (vs ++ [Value.int x]) 2) 158 + ((-1) * v_iv (n_v (vs ++ [Value.int x]) 17) + 0) ≤ 0
      rw [e_2]
      rw [e_17]
      rw [q2]
      omega
  have nf2 : fc_1 (20, [2, 17], [30, 0, -1, 1, 158, 1, 0, 0]) ws (vs ++ [Value.int x]) := by
    refine ⟨fun n hn => ?_, ?_⟩
    · have hn : n ∈ [2, 17] := hn
      rw [List.length_append, hl]
      simp only [List.mem_cons, List.not_mem_nil, or_false] at hn
      show n < 17 + 1; omega
    · show (-1) * w_fi ws (n_v (vs ++ [Value.int x]) 2) 158 + (1 * v_iv (n_v (vs ++ [Value.int x]) 17) + 0) ≤ 0
      rw [e_2]
      rw [e_17]
      rw [q2]
      omega
  have nf3 : fc_1 (20, [2], [30, 0, 1, 1, 159]) ws (vs ++ [Value.int x]) := by
    refine ⟨fun n hn => ?_, ?_⟩
    · have hn : n ∈ [2] := hn
      rw [List.length_append, hl]
      simp only [List.mem_cons, List.not_mem_nil, or_false] at hn
      show n < 17 + 1; omega
    · show 1 * w_fi ws (n_v (vs ++ [Value.int x]) 2) 159 + 0 ≤ 0
      rw [e_2]
      rw [q2]
      omega
  have nf4 : fc_1 (20, [2], [30, 0, -1, 1, 159]) ws (vs ++ [Value.int x]) := by
    refine ⟨fun n hn => ?_, ?_⟩
    · have hn : n ∈ [2] := hn
      rw [List.length_append, hl]
      simp only [List.mem_cons, List.not_mem_nil, or_false] at hn
      show n < 17 + 1; omega
    · show (-1) * w_fi ws (n_v (vs ++ [Value.int x]) 2) 159 + 0 ≤ 0
      rw [e_2]
      rw [q2]
      omega
  have nf5 : fc_1 (23, [1, 17], [0, 1, -1]) ws (vs ++ [Value.int x]) := by
    refine ⟨fun n hn => ?_, ?_⟩
    · have hn : n ∈ [1, 17] := hn
      rw [List.length_append, hl]
      simp only [List.mem_cons, List.not_mem_nil, or_false] at hn
      show n < 17 + 1; omega
    · show 1 * v_iv (n_v (vs ++ [Value.int x]) 1) + ((-1) * v_iv (n_v (vs ++ [Value.int x]) 17) + 0) ≤ 0
      rw [e_1]
      rw [e_17]
      omega
  have nf6 : fc_1 (23, [6, 17], [-2011, -1, -1]) ws (vs ++ [Value.int x]) := by
    refine ⟨fun n hn => ?_, ?_⟩
    · have hn : n ∈ [6, 17] := hn
      rw [List.length_append, hl]
      simp only [List.mem_cons, List.not_mem_nil, or_false] at hn
      show n < 17 + 1; omega
    · show (-1) * v_iv (n_v (vs ++ [Value.int x]) 6) + ((-1) * v_iv (n_v (vs ++ [Value.int x]) 17) + 0) ≤ (-2011)
      rw [e_6]
      rw [e_17]
      omega
  exact ⟨fun q hq => (by cases hq), [Value.int x], ag_one hx, List.forall_mem_cons.mpr ⟨⟨show (20 : Nat) < 100 from by decide, nf0⟩, List.forall_mem_cons.mpr ⟨⟨show (20 : Nat) < 100 from by decide, nf1⟩, List.forall_mem_cons.mpr ⟨⟨show (20 : Nat) < 100 from by decide, nf2⟩, List.forall_mem_cons.mpr ⟨⟨show (20 : Nat) < 100 from by decide, nf3⟩, List.forall_mem_cons.mpr ⟨⟨show (20 : Nat) < 100 from by decide, nf4⟩, List.forall_mem_cons.mpr ⟨⟨show (23 : Nat) < 100 from by decide, nf5⟩, List.forall_mem_cons.mpr ⟨⟨show (23 : Nat) < 100 from by decide, nf6⟩, (fun _ h => (by cases h))⟩⟩⟩⟩⟩⟩⟩, (fun _ h => (by cases h))⟩
def o_Mo_rule_at_f0_37 : or_T := (275, 20, [(0, (2, 0, 0, [150])), (1, (0, 0, 2009, [])), (2, (2, 0, 0, [150])), (5, (0, 0, 2009, [])), (6, (0, 0, 2010, [])), (13, (0, 1, 1, [])), (14, (0, 1, 2009, [])), (16, (0, 0, 2009, [])), (17, (0, 0, 2009, []))], [(23, [1, 17], [0, 1, -1]), (23, [6, 17], [-2011, -1, -1]), (23, [1, 16], [0, 1, -1]), (23, [6, 16], [-2011, -1, -1]), (24, [0, 2], []), (20, [2], [50, 2, 1, 158, 157, 160, 2, 12, 0, 7, 4, 3, 2, 0, 158, 0, 1, 2, 0, 157, 2, 7, 0, 3, 2, 0, 157, 0, 2010, 3, 14, 1, 10, 3, 0, 160, 5, 3, 2, 0, 157, 0, 1, 0, 0, 1, 10, 3, 0, 160, 5, 3, 2, 0, 157, 0, 1, 0, 4]), (20, [17, 2], [30, 0, 1, 0, 0, -1, 1, 158]), (20, [2], [30, 0, 1, 1, 159]), (20, [2], [30, 0, -1, 1, 159]), (102, [17], [0, 13008, 13009, 13158, 13159]), (23, [1, 17], [0, 1, -1]), (23, [6, 17], [-2011, -1, -1]), (23, [1, 16], [0, 1, -1]), (23, [6, 16], [-2011, -1, -1]), (102, [16], [0, 13008, 13009, 13158]), (23, [1, 16], [0, 1, -1]), (23, [6, 16], [-2011, -1, -1]), (101, [2, 14], [158]), (1, [14, 5, 13], [])], [], [(0, 0, 2010, [])], [(20, [2], [50, 2, 1, 158, 157, 160, 2, 12, 0, 7, 4, 3, 2, 0, 158, 0, 1, 2, 0, 157, 2, 7, 0, 3, 2, 0, 157, 0, 2010, 3, 14, 1, 10, 3, 0, 160, 5, 3, 2, 0, 157, 0, 1, 0, 0, 1, 10, 3, 0, 160, 5, 3, 2, 0, 157, 0, 1, 0, 4]), (20, [1, 2], [30, 0, 1, 0, 0, -1, 1, 158]), (20, [2], [30, 0, 1, 1, 159]), (20, [2], [30, 0, -1, 1, 159]), (20, [20, 2], [30, -2011, -1, 0, 0, -1, 1, 158]), (24, [0, 2], [])], [(20, 6, 0, 0)], [(14, 5, 1, 1), (14, 1, -4294967296, 2010), (1, 5, -4294967296, 2009), (5, 1, -4294967296, 2009)])
theorem oo_Mo_rule_at_f0_37 {kA : Nat → ClassId} : or_ok kA GG o_Mo_rule_at_f0_37 := by
  intro A ta ws vs hD hth hl hk hds hf
  have hl : vs.length = 20 := hl
  have hk : ∀ q ∈ ([(0, (2, 0, 0, [150])), (1, (0, 0, 2009, [])), (2, (2, 0, 0, [150])), (5, (0, 0, 2009, [])), (6, (0, 0, 2010, [])), (13, (0, 1, 1, [])), (14, (0, 1, 2009, [])), (16, (0, 0, 2009, [])), (17, (0, 0, 2009, []))] : List (Nat × tv_T)), tv_ok ta q.2 (n_v vs q.1) := hk
  obtain ⟨t0, hk⟩ := List.forall_mem_cons.mp hk
  have t0 : tv_ok ta (2, 0, 0, [150]) (n_v vs 0) := t0
  have r0 : ta (v_ad (n_v vs 0)) = some 150 := tv_rg t0
  obtain ⟨t1, hk⟩ := List.forall_mem_cons.mp hk
  have t1 : tv_ok ta (0, 0, 2009, []) (n_v vs 1) := t1
  have k1 : 0 ≤ v_iv (n_v vs 1) ∧ v_iv (n_v vs 1) ≤ 2009 := tv_rng t1
  obtain ⟨t2, hk⟩ := List.forall_mem_cons.mp hk
  have t2 : tv_ok ta (2, 0, 0, [150]) (n_v vs 2) := t2
  have r2 : ta (v_ad (n_v vs 2)) = some 150 := tv_rg t2
  obtain ⟨t5, hk⟩ := List.forall_mem_cons.mp hk
  have t5 : tv_ok ta (0, 0, 2009, []) (n_v vs 5) := t5
  have k5 : 0 ≤ v_iv (n_v vs 5) ∧ v_iv (n_v vs 5) ≤ 2009 := tv_rng t5
  obtain ⟨t6, hk⟩ := List.forall_mem_cons.mp hk
  have t6 : tv_ok ta (0, 0, 2010, []) (n_v vs 6) := t6
  have k6 : 0 ≤ v_iv (n_v vs 6) ∧ v_iv (n_v vs 6) ≤ 2010 := tv_rng t6
  obtain ⟨t13, hk⟩ := List.forall_mem_cons.mp hk
  have t13 : tv_ok ta (0, 1, 1, []) (n_v vs 13) := t13
  have k13 : 1 ≤ v_iv (n_v vs 13) ∧ v_iv (n_v vs 13) ≤ 1 := tv_rng t13
  obtain ⟨t14, hk⟩ := List.forall_mem_cons.mp hk
  have t14 : tv_ok ta (0, 1, 2009, []) (n_v vs 14) := t14
  have k14 : 1 ≤ v_iv (n_v vs 14) ∧ v_iv (n_v vs 14) ≤ 2009 := tv_rng t14
  obtain ⟨t16, hk⟩ := List.forall_mem_cons.mp hk
  have t16 : tv_ok ta (0, 0, 2009, []) (n_v vs 16) := t16
  have k16 : 0 ≤ v_iv (n_v vs 16) ∧ v_iv (n_v vs 16) ≤ 2009 := tv_rng t16
  obtain ⟨t17, hk⟩ := List.forall_mem_cons.mp hk
  have t17 : tv_ok ta (0, 0, 2009, []) (n_v vs 17) := t17
  have k17 : 0 ≤ v_iv (n_v vs 17) ∧ v_iv (n_v vs 17) ≤ 2009 := tv_rng t17
  have hds : ∀ q ∈ ([(14, 5, 1, 1), (14, 1, -4294967296, 2010), (1, 5, -4294967296, 2009), (5, 1, -4294967296, 2009)] : List of_T), n_iv vs q.2.1 + q.2.2.1 ≤ n_iv vs q.1 ∧ n_iv vs q.1 ≤ n_iv vs q.2.1 + q.2.2.2 := hds
  obtain ⟨d0, hds⟩ := List.forall_mem_cons.mp hds
  have d0 : v_iv (n_v vs 5) + 1 ≤ v_iv (n_v vs 14) ∧ v_iv (n_v vs 14) ≤ v_iv (n_v vs 5) + 1 := d0
  obtain ⟨d1, hds⟩ := List.forall_mem_cons.mp hds
  have d1 : v_iv (n_v vs 1) + (-4294967296) ≤ v_iv (n_v vs 14) ∧ v_iv (n_v vs 14) ≤ v_iv (n_v vs 1) + 2010 := d1
  obtain ⟨d2, hds⟩ := List.forall_mem_cons.mp hds
  have d2 : v_iv (n_v vs 5) + (-4294967296) ≤ v_iv (n_v vs 1) ∧ v_iv (n_v vs 1) ≤ v_iv (n_v vs 5) + 2009 := d2
  obtain ⟨d3, hds⟩ := List.forall_mem_cons.mp hds
  have d3 : v_iv (n_v vs 1) + (-4294967296) ≤ v_iv (n_v vs 5) ∧ v_iv (n_v vs 5) ≤ v_iv (n_v vs 1) + 2009 := d3
  have hf : fc_ok [(23, [1, 17], [0, 1, -1]), (23, [6, 17], [-2011, -1, -1]), (23, [1, 16], [0, 1, -1]), (23, [6, 16], [-2011, -1, -1]), (24, [0, 2], []), (20, [2], [50, 2, 1, 158, 157, 160, 2, 12, 0, 7, 4, 3, 2, 0, 158, 0, 1, 2, 0, 157, 2, 7, 0, 3, 2, 0, 157, 0, 2010, 3, 14, 1, 10, 3, 0, 160, 5, 3, 2, 0, 157, 0, 1, 0, 0, 1, 10, 3, 0, 160, 5, 3, 2, 0, 157, 0, 1, 0, 4]), (20, [17, 2], [30, 0, 1, 0, 0, -1, 1, 158]), (20, [2], [30, 0, 1, 1, 159]), (20, [2], [30, 0, -1, 1, 159]), (102, [17], [0, 13008, 13009, 13158, 13159]), (23, [1, 17], [0, 1, -1]), (23, [6, 17], [-2011, -1, -1]), (23, [1, 16], [0, 1, -1]), (23, [6, 16], [-2011, -1, -1]), (102, [16], [0, 13008, 13009, 13158]), (23, [1, 16], [0, 1, -1]), (23, [6, 16], [-2011, -1, -1]), (101, [2, 14], [158]), (1, [14, 5, 13], [])] ta ws vs := hf
  obtain ⟨f0, hf⟩ := fc_un (show (23 : Nat) < 100 from by decide) hf
  have f0 : 1 * v_iv (n_v vs 1) + ((-1) * v_iv (n_v vs 17) + 0) ≤ 0 := f0
  obtain ⟨f1, hf⟩ := fc_un (show (23 : Nat) < 100 from by decide) hf
  have f1 : (-1) * v_iv (n_v vs 6) + ((-1) * v_iv (n_v vs 17) + 0) ≤ (-2011) := f1
  obtain ⟨f2, hf⟩ := fc_un (show (23 : Nat) < 100 from by decide) hf
  have f2 : 1 * v_iv (n_v vs 1) + ((-1) * v_iv (n_v vs 16) + 0) ≤ 0 := f2
  obtain ⟨f3, hf⟩ := fc_un (show (23 : Nat) < 100 from by decide) hf
  have f3 : (-1) * v_iv (n_v vs 6) + ((-1) * v_iv (n_v vs 16) + 0) ≤ (-2011) := f3
  obtain ⟨f4, hf⟩ := fc_un (show (24 : Nat) < 100 from by decide) hf
  have f4 : n_v vs 0 = n_v vs 2 := f4
  obtain ⟨f5, hf⟩ := fc_un (show (20 : Nat) < 100 from by decide) hf
  have f5 : ((w_fi ws (n_v vs 2) 158 + 1) ≤ w_fi ws (n_v vs 2) 157) ∧ ((w_fi ws (n_v vs 2) 157 ≤ 2010) ∧ ((w_ei ws (w_ar ws (n_v vs 2) 160) ((w_fi ws (n_v vs 2) 157 - 1)) = 0) ∨ (w_ei ws (w_ar ws (n_v vs 2) 160) ((w_fi ws (n_v vs 2) 157 - 1)) = 4))) := f5
  obtain ⟨f6, hf⟩ := fc_un (show (20 : Nat) < 100 from by decide) hf
  have f6 : 1 * v_iv (n_v vs 17) + ((-1) * w_fi ws (n_v vs 2) 158 + 0) ≤ 0 := f6
  obtain ⟨f7, hf⟩ := fc_un (show (20 : Nat) < 100 from by decide) hf
  have f7 : 1 * w_fi ws (n_v vs 2) 159 + 0 ≤ 0 := f7
  obtain ⟨f8, hf⟩ := fc_un (show (20 : Nat) < 100 from by decide) hf
  have f8 : (-1) * w_fi ws (n_v vs 2) 159 + 0 ≤ 0 := f8
  obtain ⟨ta1, w1, le1, ⟨_, s1⟩, hf⟩ := fc_us (show ¬ (102 : Nat) < 100 from by decide) hf
  obtain ⟨f10, hf⟩ := fc_un (show (23 : Nat) < 100 from by decide) hf
  have f10 : 1 * v_iv (n_v vs 1) + ((-1) * v_iv (n_v vs 17) + 0) ≤ 0 := f10
  obtain ⟨f11, hf⟩ := fc_un (show (23 : Nat) < 100 from by decide) hf
  have f11 : (-1) * v_iv (n_v vs 6) + ((-1) * v_iv (n_v vs 17) + 0) ≤ (-2011) := f11
  obtain ⟨f12, hf⟩ := fc_un (show (23 : Nat) < 100 from by decide) hf
  have f12 : 1 * v_iv (n_v vs 1) + ((-1) * v_iv (n_v vs 16) + 0) ≤ 0 := f12
  obtain ⟨f13, hf⟩ := fc_un (show (23 : Nat) < 100 from by decide) hf
  have f13 : (-1) * v_iv (n_v vs 6) + ((-1) * v_iv (n_v vs 16) + 0) ≤ (-2011) := f13
  obtain ⟨ta2, w2, le2, ⟨_, s2⟩, hf⟩ := fc_us (show ¬ (102 : Nat) < 100 from by decide) hf
  obtain ⟨f15, hf⟩ := fc_un (show (23 : Nat) < 100 from by decide) hf
  have f15 : 1 * v_iv (n_v vs 1) + ((-1) * v_iv (n_v vs 16) + 0) ≤ 0 := f15
  obtain ⟨f16, hf⟩ := fc_un (show (23 : Nat) < 100 from by decide) hf
  have f16 : (-1) * v_iv (n_v vs 6) + ((-1) * v_iv (n_v vs 16) + 0) ≤ (-2011) := f16
  obtain ⟨ta3, w3, le3, ⟨_, s3⟩, hf⟩ := fc_us (show ¬ (101 : Nat) < 100 from by decide) hf
  have s3 : (∀ b j, w_el w2 b j = w_el w3 b j) ∧ ∀ b j, w_fd w2 b j = if b = v_ad (n_v vs 2) ∧ j = 158 then n_v vs 14 else w_fd w3 b j := s3
  obtain ⟨f18, hf⟩ := fc_un (show (1 : Nat) < 100 from by decide) hf
  have f18 : v_iv (n_v vs 14) = v_iv (n_v vs 5) + v_iv (n_v vs 13) := f18
  have q2 : n_v vs 2 = n_v vs 0 := f4.symm
  rw [q2] at f5
  rw [q2] at f6
  rw [q2] at f7
  rw [q2] at f8
  rw [q2] at s3
  have cr_0_160 : ta (w_ar ws (n_v vs 0) 160) = some 259 := tv_rg (th_fd hD hth r0 (g := GG_150) rfl (k := 160) (t := (2, 0, 0, [259])) rfl rfl)
  have hK_0_160 : ∀ j : Int, 0 ≤ j → j < 2010 → 0 ≤ w_ei ws (w_ar ws (n_v vs 0) 160) j ∧ w_ei ws (w_ar ws (n_v vs 0) 160) j ≤ 4 := fun j h0 h1 => th_el hD hth cr_0_160 (kd := 0) (n := 2010) (m := 2010) (lo := 0) (hi := 4) (rs := []) (L := []) rfl (by decide) (j := j.toNat) (by omega)
  have kz_0_157 : 0 ≤ w_fi ws (n_v vs 0) 157 ∧ w_fi ws (n_v vs 0) 157 ≤ 2010 := tv_rng (th_fd hD hth r0 (g := GG_150) rfl (k := 157) (t := (0, 0, 2010, [])) rfl rfl)
  have kz_0_158 : 0 ≤ w_fi ws (n_v vs 0) 158 ∧ w_fi ws (n_v vs 0) 158 ≤ 2009 := tv_rng (th_fd hD hth r0 (g := GG_150) rfl (k := 158) (t := (0, 0, 2009, [])) rfl rfl)
  have kz_0_159 : 0 ≤ w_fi ws (n_v vs 0) 159 ∧ w_fi ws (n_v vs 0) 159 ≤ 13 := tv_rng (th_fd hD hth r0 (g := GG_150) rfl (k := 159) (t := (0, 0, 13, [])) rfl rfl)
  obtain ⟨x, ex, hx⟩ := iv_ex (ta := ta) (lo := 0) (hi := 2010) (z := 0 + (1 * v_iv (n_v vs 6) + 0)) (by omega) (by omega) (by omega) (by omega)
  have ex2 : v_iv (Value.int x) = 0 + (1 * v_iv (n_v vs 6) + 0) := ex
  have ex3 : 0 ≤ v_iv (Value.int x) ∧ v_iv (Value.int x) ≤ 2010 := tv_rng hx
  have e_0 : n_v (vs ++ [Value.int x]) 0 = n_v vs 0 := n_v_old (by rw [hl]; decide)
  have e_1 : n_v (vs ++ [Value.int x]) 1 = n_v vs 1 := n_v_old (by rw [hl]; decide)
  have e_2 : n_v (vs ++ [Value.int x]) 2 = n_v vs 2 := n_v_old (by rw [hl]; decide)
  have e_20 : n_v (vs ++ [Value.int x]) 20 = Value.int x := n_v_new hl
  have nf0 : fc_1 (20, [2], [50, 2, 1, 158, 157, 160, 2, 12, 0, 7, 4, 3, 2, 0, 158, 0, 1, 2, 0, 157, 2, 7, 0, 3, 2, 0, 157, 0, 2010, 3, 14, 1, 10, 3, 0, 160, 5, 3, 2, 0, 157, 0, 1, 0, 0, 1, 10, 3, 0, 160, 5, 3, 2, 0, 157, 0, 1, 0, 4]) ws (vs ++ [Value.int x]) := by
    refine ⟨fun n hn => ?_, ?_⟩
    · have hn : n ∈ [2] := hn
      rw [List.length_append, hl]
      simp only [List.mem_cons, List.not_mem_nil, or_false] at hn
      show n < 20 + 1; omega
    · show ((w_fi ws (n_v (vs ++ [Value.int x]) 2) 158 + 1) ≤ w_fi ws (n_v (vs ++ [Value.int x]) 2) 157) ∧ ((w_fi ws (n_v (vs ++ [Value.int x]) 2) 157 ≤ 2010) ∧ ((w_ei ws (w_ar ws (n_v (vs ++ [Value.int x]) 2) 160) ((w_fi ws (n_v (vs ++ [Value.int x]) 2) 157 - 1)) = 0) ∨ (w_ei ws (w_ar ws (n_v (vs ++ [Value.int x]) 2) 160) ((w_fi ws (n_v (vs ++ [Value.int x]) 2) 157 - 1)) = 4)))
      rw [e_2]
      rw [q2]
      first | omega | grind
  have nf1 : fc_1 (20, [1, 2], [30, 0, 1, 0, 0, -1, 1, 158]) ws (vs ++ [Value.int x]) := by
    refine ⟨fun n hn => ?_, ?_⟩
    · have hn : n ∈ [1, 2] := hn
      rw [List.length_append, hl]
      simp only [List.mem_cons, List.not_mem_nil, or_false] at hn
      show n < 20 + 1; omega
    · show 1 * v_iv (n_v (vs ++ [Value.int x]) 1) + ((-1) * w_fi ws (n_v (vs ++ [Value.int x]) 2) 158 + 0) ≤ 0
      rw [e_1]
      rw [e_2]
      rw [q2]
      omega
  have nf2 : fc_1 (20, [2], [30, 0, 1, 1, 159]) ws (vs ++ [Value.int x]) := by
    refine ⟨fun n hn => ?_, ?_⟩
    · have hn : n ∈ [2] := hn
      rw [List.length_append, hl]
      simp only [List.mem_cons, List.not_mem_nil, or_false] at hn
      show n < 20 + 1; omega
    · show 1 * w_fi ws (n_v (vs ++ [Value.int x]) 2) 159 + 0 ≤ 0
      rw [e_2]
      rw [q2]
      omega
  have nf3 : fc_1 (20, [2], [30, 0, -1, 1, 159]) ws (vs ++ [Value.int x]) := by
    refine ⟨fun n hn => ?_, ?_⟩
    · have hn : n ∈ [2] := hn
      rw [List.length_append, hl]
      simp only [List.mem_cons, List.not_mem_nil, or_false] at hn
      show n < 20 + 1; omega
    · show (-1) * w_fi ws (n_v (vs ++ [Value.int x]) 2) 159 + 0 ≤ 0
      rw [e_2]
      rw [q2]
      omega
  have nf4 : fc_1 (20, [20, 2], [30, -2011, -1, 0, 0, -1, 1, 158]) ws (vs ++ [Value.int x]) := by
    refine ⟨fun n hn => ?_, ?_⟩
    · have hn : n ∈ [20, 2] := hn
      rw [List.length_append, hl]
      simp only [List.mem_cons, List.not_mem_nil, or_false] at hn
      show n < 20 + 1; omega
    · show (-1) * v_iv (n_v (vs ++ [Value.int x]) 20) + ((-1) * w_fi ws (n_v (vs ++ [Value.int x]) 2) 158 + 0) ≤ (-2011)
      rw [e_2]
      rw [e_20]
      rw [q2]
      omega
  have nf5 : fc_1 (24, [0, 2], []) ws (vs ++ [Value.int x]) := by
    refine ⟨fun n hn => ?_, ?_⟩
    · have hn : n ∈ [0, 2] := hn
      rw [List.length_append, hl]
      simp only [List.mem_cons, List.not_mem_nil, or_false] at hn
      show n < 20 + 1; omega
    · show n_v (vs ++ [Value.int x]) 0 = n_v (vs ++ [Value.int x]) 2
      first | rfl | simp only [e_0, e_2, q2]
  obtain ⟨x0, e0, _, _⟩ := tv_int t6 rfl
  have e1 : v_iv (n_v vs 6) = x0.toInt := by rw [e0]; rfl
  have ho : sy_ofs (vs ++ [Value.int x]) (20, 6, 0, 0) := by
    refine ⟨x, x0, by rw [List.getElem?_append_right (by rw [hl]; decide), hl]; rfl, ?_, ?_, ?_⟩
    · rw [List.getElem?_append_left (by rw [hl]; decide)]; exact n_v_some (by rw [hl]; decide) e0
    · show x0.toInt + 0 ≤ x.toInt; omega
    · show x.toInt ≤ x0.toInt + 0; omega
  exact ⟨fun q hq => (by cases hq), [Value.int x], ag_one hx, List.forall_mem_cons.mpr ⟨⟨show (20 : Nat) < 100 from by decide, nf0⟩, List.forall_mem_cons.mpr ⟨⟨show (20 : Nat) < 100 from by decide, nf1⟩, List.forall_mem_cons.mpr ⟨⟨show (20 : Nat) < 100 from by decide, nf2⟩, List.forall_mem_cons.mpr ⟨⟨show (20 : Nat) < 100 from by decide, nf3⟩, List.forall_mem_cons.mpr ⟨⟨show (20 : Nat) < 100 from by decide, nf4⟩, List.forall_mem_cons.mpr ⟨⟨show (24 : Nat) < 100 from by decide, nf5⟩, (fun _ h => (by cases h))⟩⟩⟩⟩⟩⟩, List.forall_mem_cons.mpr ⟨ho, (fun _ h => (by cases h))⟩⟩
def o_Mo_rule_at_f0_38 : or_T := (275, 21, [(0, (2, 0, 0, [150])), (1, (0, 0, 2009, [])), (2, (2, 0, 0, [150])), (5, (0, 0, 2009, [])), (6, (0, 0, 2010, [])), (13, (0, 1, 1, [])), (14, (0, 1, 2009, [])), (16, (0, 0, 2009, [])), (17, (0, 0, 2009, []))], [(23, [1, 17], [0, 1, -1]), (23, [6, 17], [-2011, -1, -1]), (23, [1, 16], [0, 1, -1]), (23, [6, 16], [-2011, -1, -1]), (24, [0, 2], []), (20, [2], [50, 2, 1, 158, 157, 160, 2, 12, 0, 7, 4, 3, 2, 0, 158, 0, 1, 2, 0, 157, 2, 7, 0, 3, 2, 0, 157, 0, 2010, 3, 14, 1, 10, 3, 0, 160, 5, 3, 2, 0, 157, 0, 1, 0, 0, 1, 10, 3, 0, 160, 5, 3, 2, 0, 157, 0, 1, 0, 4]), (20, [17, 2], [30, 0, 1, 0, 0, -1, 1, 158]), (20, [2], [30, 0, 1, 1, 159]), (20, [2], [30, 0, -1, 1, 159]), (102, [17], [0, 13008, 13009, 13158, 13159]), (23, [1, 17], [0, 1, -1]), (23, [6, 17], [-2011, -1, -1]), (23, [1, 16], [0, 1, -1]), (23, [6, 16], [-2011, -1, -1]), (102, [16], [0, 13008, 13009, 13158]), (23, [1, 16], [0, 1, -1]), (23, [6, 16], [-2011, -1, -1]), (101, [2, 14], [158]), (1, [14, 5, 13], [])], [], [(0, 0, 2010, [])], [(20, [2], [50, 2, 1, 158, 157, 160, 2, 12, 0, 7, 4, 3, 2, 0, 158, 0, 1, 2, 0, 157, 2, 7, 0, 3, 2, 0, 157, 0, 2010, 3, 14, 1, 10, 3, 0, 160, 5, 3, 2, 0, 157, 0, 1, 0, 0, 1, 10, 3, 0, 160, 5, 3, 2, 0, 157, 0, 1, 0, 4]), (20, [1, 2], [30, 0, 1, 0, 0, -1, 1, 158]), (20, [2], [30, 0, 1, 1, 159]), (20, [2], [30, 0, -1, 1, 159]), (20, [21, 2], [30, -2011, -1, 0, 0, -1, 1, 158]), (24, [0, 2], [])], [(21, 6, 0, 0)], [(14, 5, 1, 1), (14, 1, -4294967296, 2010), (1, 5, -4294967296, 2009), (5, 1, -4294967296, 2009)])
theorem oo_Mo_rule_at_f0_38 {kA : Nat → ClassId} : or_ok kA GG o_Mo_rule_at_f0_38 := by
  intro A ta ws vs hD hth hl hk hds hf
  have hl : vs.length = 21 := hl
  have hk : ∀ q ∈ ([(0, (2, 0, 0, [150])), (1, (0, 0, 2009, [])), (2, (2, 0, 0, [150])), (5, (0, 0, 2009, [])), (6, (0, 0, 2010, [])), (13, (0, 1, 1, [])), (14, (0, 1, 2009, [])), (16, (0, 0, 2009, [])), (17, (0, 0, 2009, []))] : List (Nat × tv_T)), tv_ok ta q.2 (n_v vs q.1) := hk
  obtain ⟨t0, hk⟩ := List.forall_mem_cons.mp hk
  have t0 : tv_ok ta (2, 0, 0, [150]) (n_v vs 0) := t0
  have r0 : ta (v_ad (n_v vs 0)) = some 150 := tv_rg t0
  obtain ⟨t1, hk⟩ := List.forall_mem_cons.mp hk
  have t1 : tv_ok ta (0, 0, 2009, []) (n_v vs 1) := t1
  have k1 : 0 ≤ v_iv (n_v vs 1) ∧ v_iv (n_v vs 1) ≤ 2009 := tv_rng t1
  obtain ⟨t2, hk⟩ := List.forall_mem_cons.mp hk
  have t2 : tv_ok ta (2, 0, 0, [150]) (n_v vs 2) := t2
  have r2 : ta (v_ad (n_v vs 2)) = some 150 := tv_rg t2
  obtain ⟨t5, hk⟩ := List.forall_mem_cons.mp hk
  have t5 : tv_ok ta (0, 0, 2009, []) (n_v vs 5) := t5
  have k5 : 0 ≤ v_iv (n_v vs 5) ∧ v_iv (n_v vs 5) ≤ 2009 := tv_rng t5
  obtain ⟨t6, hk⟩ := List.forall_mem_cons.mp hk
  have t6 : tv_ok ta (0, 0, 2010, []) (n_v vs 6) := t6
  have k6 : 0 ≤ v_iv (n_v vs 6) ∧ v_iv (n_v vs 6) ≤ 2010 := tv_rng t6
  obtain ⟨t13, hk⟩ := List.forall_mem_cons.mp hk
  have t13 : tv_ok ta (0, 1, 1, []) (n_v vs 13) := t13
  have k13 : 1 ≤ v_iv (n_v vs 13) ∧ v_iv (n_v vs 13) ≤ 1 := tv_rng t13
  obtain ⟨t14, hk⟩ := List.forall_mem_cons.mp hk
  have t14 : tv_ok ta (0, 1, 2009, []) (n_v vs 14) := t14
  have k14 : 1 ≤ v_iv (n_v vs 14) ∧ v_iv (n_v vs 14) ≤ 2009 := tv_rng t14
  obtain ⟨t16, hk⟩ := List.forall_mem_cons.mp hk
  have t16 : tv_ok ta (0, 0, 2009, []) (n_v vs 16) := t16
  have k16 : 0 ≤ v_iv (n_v vs 16) ∧ v_iv (n_v vs 16) ≤ 2009 := tv_rng t16
  obtain ⟨t17, hk⟩ := List.forall_mem_cons.mp hk
  have t17 : tv_ok ta (0, 0, 2009, []) (n_v vs 17) := t17
  have k17 : 0 ≤ v_iv (n_v vs 17) ∧ v_iv (n_v vs 17) ≤ 2009 := tv_rng t17
  have hds : ∀ q ∈ ([(14, 5, 1, 1), (14, 1, -4294967296, 2010), (1, 5, -4294967296, 2009), (5, 1, -4294967296, 2009)] : List of_T), n_iv vs q.2.1 + q.2.2.1 ≤ n_iv vs q.1 ∧ n_iv vs q.1 ≤ n_iv vs q.2.1 + q.2.2.2 := hds
  obtain ⟨d0, hds⟩ := List.forall_mem_cons.mp hds
  have d0 : v_iv (n_v vs 5) + 1 ≤ v_iv (n_v vs 14) ∧ v_iv (n_v vs 14) ≤ v_iv (n_v vs 5) + 1 := d0
  obtain ⟨d1, hds⟩ := List.forall_mem_cons.mp hds
  have d1 : v_iv (n_v vs 1) + (-4294967296) ≤ v_iv (n_v vs 14) ∧ v_iv (n_v vs 14) ≤ v_iv (n_v vs 1) + 2010 := d1
  obtain ⟨d2, hds⟩ := List.forall_mem_cons.mp hds
  have d2 : v_iv (n_v vs 5) + (-4294967296) ≤ v_iv (n_v vs 1) ∧ v_iv (n_v vs 1) ≤ v_iv (n_v vs 5) + 2009 := d2
  obtain ⟨d3, hds⟩ := List.forall_mem_cons.mp hds
  have d3 : v_iv (n_v vs 1) + (-4294967296) ≤ v_iv (n_v vs 5) ∧ v_iv (n_v vs 5) ≤ v_iv (n_v vs 1) + 2009 := d3
  have hf : fc_ok [(23, [1, 17], [0, 1, -1]), (23, [6, 17], [-2011, -1, -1]), (23, [1, 16], [0, 1, -1]), (23, [6, 16], [-2011, -1, -1]), (24, [0, 2], []), (20, [2], [50, 2, 1, 158, 157, 160, 2, 12, 0, 7, 4, 3, 2, 0, 158, 0, 1, 2, 0, 157, 2, 7, 0, 3, 2, 0, 157, 0, 2010, 3, 14, 1, 10, 3, 0, 160, 5, 3, 2, 0, 157, 0, 1, 0, 0, 1, 10, 3, 0, 160, 5, 3, 2, 0, 157, 0, 1, 0, 4]), (20, [17, 2], [30, 0, 1, 0, 0, -1, 1, 158]), (20, [2], [30, 0, 1, 1, 159]), (20, [2], [30, 0, -1, 1, 159]), (102, [17], [0, 13008, 13009, 13158, 13159]), (23, [1, 17], [0, 1, -1]), (23, [6, 17], [-2011, -1, -1]), (23, [1, 16], [0, 1, -1]), (23, [6, 16], [-2011, -1, -1]), (102, [16], [0, 13008, 13009, 13158]), (23, [1, 16], [0, 1, -1]), (23, [6, 16], [-2011, -1, -1]), (101, [2, 14], [158]), (1, [14, 5, 13], [])] ta ws vs := hf
  obtain ⟨f0, hf⟩ := fc_un (show (23 : Nat) < 100 from by decide) hf
  have f0 : 1 * v_iv (n_v vs 1) + ((-1) * v_iv (n_v vs 17) + 0) ≤ 0 := f0
  obtain ⟨f1, hf⟩ := fc_un (show (23 : Nat) < 100 from by decide) hf
  have f1 : (-1) * v_iv (n_v vs 6) + ((-1) * v_iv (n_v vs 17) + 0) ≤ (-2011) := f1
  obtain ⟨f2, hf⟩ := fc_un (show (23 : Nat) < 100 from by decide) hf
  have f2 : 1 * v_iv (n_v vs 1) + ((-1) * v_iv (n_v vs 16) + 0) ≤ 0 := f2
  obtain ⟨f3, hf⟩ := fc_un (show (23 : Nat) < 100 from by decide) hf
  have f3 : (-1) * v_iv (n_v vs 6) + ((-1) * v_iv (n_v vs 16) + 0) ≤ (-2011) := f3
  obtain ⟨f4, hf⟩ := fc_un (show (24 : Nat) < 100 from by decide) hf
  have f4 : n_v vs 0 = n_v vs 2 := f4
  obtain ⟨f5, hf⟩ := fc_un (show (20 : Nat) < 100 from by decide) hf
  have f5 : ((w_fi ws (n_v vs 2) 158 + 1) ≤ w_fi ws (n_v vs 2) 157) ∧ ((w_fi ws (n_v vs 2) 157 ≤ 2010) ∧ ((w_ei ws (w_ar ws (n_v vs 2) 160) ((w_fi ws (n_v vs 2) 157 - 1)) = 0) ∨ (w_ei ws (w_ar ws (n_v vs 2) 160) ((w_fi ws (n_v vs 2) 157 - 1)) = 4))) := f5
  obtain ⟨f6, hf⟩ := fc_un (show (20 : Nat) < 100 from by decide) hf
  have f6 : 1 * v_iv (n_v vs 17) + ((-1) * w_fi ws (n_v vs 2) 158 + 0) ≤ 0 := f6
  obtain ⟨f7, hf⟩ := fc_un (show (20 : Nat) < 100 from by decide) hf
  have f7 : 1 * w_fi ws (n_v vs 2) 159 + 0 ≤ 0 := f7
  obtain ⟨f8, hf⟩ := fc_un (show (20 : Nat) < 100 from by decide) hf
  have f8 : (-1) * w_fi ws (n_v vs 2) 159 + 0 ≤ 0 := f8
  obtain ⟨ta1, w1, le1, ⟨_, s1⟩, hf⟩ := fc_us (show ¬ (102 : Nat) < 100 from by decide) hf
  obtain ⟨f10, hf⟩ := fc_un (show (23 : Nat) < 100 from by decide) hf
  have f10 : 1 * v_iv (n_v vs 1) + ((-1) * v_iv (n_v vs 17) + 0) ≤ 0 := f10
  obtain ⟨f11, hf⟩ := fc_un (show (23 : Nat) < 100 from by decide) hf
  have f11 : (-1) * v_iv (n_v vs 6) + ((-1) * v_iv (n_v vs 17) + 0) ≤ (-2011) := f11
  obtain ⟨f12, hf⟩ := fc_un (show (23 : Nat) < 100 from by decide) hf
  have f12 : 1 * v_iv (n_v vs 1) + ((-1) * v_iv (n_v vs 16) + 0) ≤ 0 := f12
  obtain ⟨f13, hf⟩ := fc_un (show (23 : Nat) < 100 from by decide) hf
  have f13 : (-1) * v_iv (n_v vs 6) + ((-1) * v_iv (n_v vs 16) + 0) ≤ (-2011) := f13
  obtain ⟨ta2, w2, le2, ⟨_, s2⟩, hf⟩ := fc_us (show ¬ (102 : Nat) < 100 from by decide) hf
  obtain ⟨f15, hf⟩ := fc_un (show (23 : Nat) < 100 from by decide) hf
  have f15 : 1 * v_iv (n_v vs 1) + ((-1) * v_iv (n_v vs 16) + 0) ≤ 0 := f15
  obtain ⟨f16, hf⟩ := fc_un (show (23 : Nat) < 100 from by decide) hf
  have f16 : (-1) * v_iv (n_v vs 6) + ((-1) * v_iv (n_v vs 16) + 0) ≤ (-2011) := f16
  obtain ⟨ta3, w3, le3, ⟨_, s3⟩, hf⟩ := fc_us (show ¬ (101 : Nat) < 100 from by decide) hf
  have s3 : (∀ b j, w_el w2 b j = w_el w3 b j) ∧ ∀ b j, w_fd w2 b j = if b = v_ad (n_v vs 2) ∧ j = 158 then n_v vs 14 else w_fd w3 b j := s3
  obtain ⟨f18, hf⟩ := fc_un (show (1 : Nat) < 100 from by decide) hf
  have f18 : v_iv (n_v vs 14) = v_iv (n_v vs 5) + v_iv (n_v vs 13) := f18
  have q2 : n_v vs 2 = n_v vs 0 := f4.symm
  rw [q2] at f5
  rw [q2] at f6
  rw [q2] at f7
  rw [q2] at f8
  rw [q2] at s3
  have cr_0_160 : ta (w_ar ws (n_v vs 0) 160) = some 259 := tv_rg (th_fd hD hth r0 (g := GG_150) rfl (k := 160) (t := (2, 0, 0, [259])) rfl rfl)
  have hK_0_160 : ∀ j : Int, 0 ≤ j → j < 2010 → 0 ≤ w_ei ws (w_ar ws (n_v vs 0) 160) j ∧ w_ei ws (w_ar ws (n_v vs 0) 160) j ≤ 4 := fun j h0 h1 => th_el hD hth cr_0_160 (kd := 0) (n := 2010) (m := 2010) (lo := 0) (hi := 4) (rs := []) (L := []) rfl (by decide) (j := j.toNat) (by omega)
  have kz_0_157 : 0 ≤ w_fi ws (n_v vs 0) 157 ∧ w_fi ws (n_v vs 0) 157 ≤ 2010 := tv_rng (th_fd hD hth r0 (g := GG_150) rfl (k := 157) (t := (0, 0, 2010, [])) rfl rfl)
  have kz_0_158 : 0 ≤ w_fi ws (n_v vs 0) 158 ∧ w_fi ws (n_v vs 0) 158 ≤ 2009 := tv_rng (th_fd hD hth r0 (g := GG_150) rfl (k := 158) (t := (0, 0, 2009, [])) rfl rfl)
  have kz_0_159 : 0 ≤ w_fi ws (n_v vs 0) 159 ∧ w_fi ws (n_v vs 0) 159 ≤ 13 := tv_rng (th_fd hD hth r0 (g := GG_150) rfl (k := 159) (t := (0, 0, 13, [])) rfl rfl)
  obtain ⟨x, ex, hx⟩ := iv_ex (ta := ta) (lo := 0) (hi := 2010) (z := 0 + (1 * v_iv (n_v vs 6) + 0)) (by omega) (by omega) (by omega) (by omega)
  have ex2 : v_iv (Value.int x) = 0 + (1 * v_iv (n_v vs 6) + 0) := ex
  have ex3 : 0 ≤ v_iv (Value.int x) ∧ v_iv (Value.int x) ≤ 2010 := tv_rng hx
  have e_0 : n_v (vs ++ [Value.int x]) 0 = n_v vs 0 := n_v_old (by rw [hl]; decide)
  have e_1 : n_v (vs ++ [Value.int x]) 1 = n_v vs 1 := n_v_old (by rw [hl]; decide)
  have e_2 : n_v (vs ++ [Value.int x]) 2 = n_v vs 2 := n_v_old (by rw [hl]; decide)
  have e_21 : n_v (vs ++ [Value.int x]) 21 = Value.int x := n_v_new hl
  have nf0 : fc_1 (20, [2], [50, 2, 1, 158, 157, 160, 2, 12, 0, 7, 4, 3, 2, 0, 158, 0, 1, 2, 0, 157, 2, 7, 0, 3, 2, 0, 157, 0, 2010, 3, 14, 1, 10, 3, 0, 160, 5, 3, 2, 0, 157, 0, 1, 0, 0, 1, 10, 3, 0, 160, 5, 3, 2, 0, 157, 0, 1, 0, 4]) ws (vs ++ [Value.int x]) := by
    refine ⟨fun n hn => ?_, ?_⟩
    · have hn : n ∈ [2] := hn
      rw [List.length_append, hl]
      simp only [List.mem_cons, List.not_mem_nil, or_false] at hn
      show n < 21 + 1; omega
    · show ((w_fi ws (n_v (vs ++ [Value.int x]) 2) 158 + 1) ≤ w_fi ws (n_v (vs ++ [Value.int x]) 2) 157) ∧ ((w_fi ws (n_v (vs ++ [Value.int x]) 2) 157 ≤ 2010) ∧ ((w_ei ws (w_ar ws (n_v (vs ++ [Value.int x]) 2) 160) ((w_fi ws (n_v (vs ++ [Value.int x]) 2) 157 - 1)) = 0) ∨ (w_ei ws (w_ar ws (n_v (vs ++ [Value.int x]) 2) 160) ((w_fi ws (n_v (vs ++ [Value.int x]) 2) 157 - 1)) = 4)))
      rw [e_2]
      rw [q2]
      first | omega | grind
  have nf1 : fc_1 (20, [1, 2], [30, 0, 1, 0, 0, -1, 1, 158]) ws (vs ++ [Value.int x]) := by
    refine ⟨fun n hn => ?_, ?_⟩
    · have hn : n ∈ [1, 2] := hn
      rw [List.length_append, hl]
      simp only [List.mem_cons, List.not_mem_nil, or_false] at hn
      show n < 21 + 1; omega
    · show 1 * v_iv (n_v (vs ++ [Value.int x]) 1) + ((-1) * w_fi ws (n_v (vs ++ [Value.int x]) 2) 158 + 0) ≤ 0
      rw [e_1]
      rw [e_2]
      rw [q2]
      omega
  have nf2 : fc_1 (20, [2], [30, 0, 1, 1, 159]) ws (vs ++ [Value.int x]) := by
    refine ⟨fun n hn => ?_, ?_⟩
    · have hn : n ∈ [2] := hn
      rw [List.length_append, hl]
      simp only [List.mem_cons, List.not_mem_nil, or_false] at hn
      show n < 21 + 1; omega
    · show 1 * w_fi ws (n_v (vs ++ [Value.int x]) 2) 159 + 0 ≤ 0
      rw [e_2]
      rw [q2]
      omega
  have nf3 : fc_1 (20, [2], [30, 0, -1, 1, 159]) ws (vs ++ [Value.int x]) := by
    refine ⟨fun n hn => ?_, ?_⟩
    · have hn : n ∈ [2] := hn
      rw [List.length_append, hl]
      simp only [List.mem_cons, List.not_mem_nil, or_false] at hn
      show n < 21 + 1; omega
    · show (-1) * w_fi ws (n_v (vs ++ [Value.int x]) 2) 159 + 0 ≤ 0
      rw [e_2]
      rw [q2]
      omega
  have nf4 : fc_1 (20, [21, 2], [30, -2011, -1, 0, 0, -1, 1, 158]) ws (vs ++ [Value.int x]) := by
    refine ⟨fun n hn => ?_, ?_⟩
    · have hn : n ∈ [21, 2] := hn
      rw [List.length_append, hl]
      simp only [List.mem_cons, List.not_mem_nil, or_false] at hn
      show n < 21 + 1; omega
    · show (-1) * v_iv (n_v (vs ++ [Value.int x]) 21) + ((-1) * w_fi ws (n_v (vs ++ [Value.int x]) 2) 158 + 0) ≤ (-2011)
      rw [e_2]
      rw [e_21]
      rw [q2]
      omega
  have nf5 : fc_1 (24, [0, 2], []) ws (vs ++ [Value.int x]) := by
    refine ⟨fun n hn => ?_, ?_⟩
    · have hn : n ∈ [0, 2] := hn
      rw [List.length_append, hl]
      simp only [List.mem_cons, List.not_mem_nil, or_false] at hn
      show n < 21 + 1; omega
    · show n_v (vs ++ [Value.int x]) 0 = n_v (vs ++ [Value.int x]) 2
      first | rfl | simp only [e_0, e_2, q2]
  obtain ⟨x0, e0, _, _⟩ := tv_int t6 rfl
  have e1 : v_iv (n_v vs 6) = x0.toInt := by rw [e0]; rfl
  have ho : sy_ofs (vs ++ [Value.int x]) (21, 6, 0, 0) := by
    refine ⟨x, x0, by rw [List.getElem?_append_right (by rw [hl]; decide), hl]; rfl, ?_, ?_, ?_⟩
    · rw [List.getElem?_append_left (by rw [hl]; decide)]; exact n_v_some (by rw [hl]; decide) e0
    · show x0.toInt + 0 ≤ x.toInt; omega
    · show x.toInt ≤ x0.toInt + 0; omega
  exact ⟨fun q hq => (by cases hq), [Value.int x], ag_one hx, List.forall_mem_cons.mpr ⟨⟨show (20 : Nat) < 100 from by decide, nf0⟩, List.forall_mem_cons.mpr ⟨⟨show (20 : Nat) < 100 from by decide, nf1⟩, List.forall_mem_cons.mpr ⟨⟨show (20 : Nat) < 100 from by decide, nf2⟩, List.forall_mem_cons.mpr ⟨⟨show (20 : Nat) < 100 from by decide, nf3⟩, List.forall_mem_cons.mpr ⟨⟨show (20 : Nat) < 100 from by decide, nf4⟩, List.forall_mem_cons.mpr ⟨⟨show (24 : Nat) < 100 from by decide, nf5⟩, (fun _ h => (by cases h))⟩⟩⟩⟩⟩⟩, List.forall_mem_cons.mpr ⟨ho, (fun _ h => (by cases h))⟩⟩
def o_Mo_rule_at_f0_39 : or_T := (275, 36, [(0, (2, 0, 0, [150])), (1, (0, 0, 2009, [])), (2, (2, 0, 0, [150])), (5, (0, 0, 2009, [])), (6, (0, 0, 2010, [])), (13, (0, 1, 1, [])), (14, (0, 1, 2009, [])), (16, (0, 0, 2009, [])), (17, (0, 0, 2009, [])), (21, (2, 0, 0, [198]))], [(23, [1, 17], [0, 1, -1]), (23, [6, 17], [-2011, -1, -1]), (23, [1, 16], [0, 1, -1]), (23, [6, 16], [-2011, -1, -1]), (24, [0, 2], []), (20, [2], [50, 2, 1, 158, 157, 160, 2, 12, 0, 7, 4, 3, 2, 0, 158, 0, 1, 2, 0, 157, 2, 7, 0, 3, 2, 0, 157, 0, 2010, 3, 14, 1, 10, 3, 0, 160, 5, 3, 2, 0, 157, 0, 1, 0, 0, 1, 10, 3, 0, 160, 5, 3, 2, 0, 157, 0, 1, 0, 4]), (20, [17, 2], [30, 0, 1, 0, 0, -1, 1, 158]), (20, [2], [30, 0, 1, 1, 159]), (20, [2], [30, 0, -1, 1, 159]), (100, [21, 32, 35], []), (9, [21, 2], [73]), (23, [1, 17], [0, 1, -1]), (23, [6, 17], [-2011, -1, -1]), (23, [1, 16], [0, 1, -1]), (23, [6, 16], [-2011, -1, -1]), (20, [2], [50, 2, 1, 158, 157, 160, 2, 12, 0, 7, 4, 3, 2, 0, 158, 0, 1, 2, 0, 157, 2, 7, 0, 3, 2, 0, 157, 0, 2010, 3, 14, 1, 10, 3, 0, 160, 5, 3, 2, 0, 157, 0, 1, 0, 0, 1, 10, 3, 0, 160, 5, 3, 2, 0, 157, 0, 1, 0, 4]), (20, [17, 2], [30, 0, 1, 0, 0, -1, 1, 158]), (20, [2], [30, 0, 1, 1, 159]), (20, [2], [30, 0, -1, 1, 159]), (102, [17], [0, 13008, 13009, 13158, 13159]), (23, [1, 17], [0, 1, -1]), (23, [6, 17], [-2011, -1, -1]), (23, [1, 16], [0, 1, -1]), (23, [6, 16], [-2011, -1, -1]), (102, [16], [0, 13008, 13009, 13158]), (23, [1, 16], [0, 1, -1]), (23, [6, 16], [-2011, -1, -1]), (101, [2, 14], [158]), (1, [14, 5, 13], [])], [], [(0, 0, 2010, [])], [(20, [2], [50, 2, 1, 158, 157, 160, 2, 12, 0, 7, 4, 3, 2, 0, 158, 0, 1, 2, 0, 157, 2, 7, 0, 3, 2, 0, 157, 0, 2010, 3, 14, 1, 10, 3, 0, 160, 5, 3, 2, 0, 157, 0, 1, 0, 0, 1, 10, 3, 0, 160, 5, 3, 2, 0, 157, 0, 1, 0, 4]), (20, [1, 2], [30, 0, 1, 0, 0, -1, 1, 158]), (20, [2], [30, 0, 1, 1, 159]), (20, [2], [30, 0, -1, 1, 159]), (20, [36, 2], [30, -2011, -1, 0, 0, -1, 1, 158]), (24, [0, 2], [])], [(36, 6, 0, 0)], [(14, 5, 1, 1), (14, 1, -4294967296, 2010), (1, 5, -4294967296, 2009), (5, 1, -4294967296, 2009)])
theorem oo_Mo_rule_at_f0_39 {kA : Nat → ClassId} : or_ok kA GG o_Mo_rule_at_f0_39 := by
  intro A ta ws vs hD hth hl hk hds hf
  have hl : vs.length = 36 := hl
  have hk : ∀ q ∈ ([(0, (2, 0, 0, [150])), (1, (0, 0, 2009, [])), (2, (2, 0, 0, [150])), (5, (0, 0, 2009, [])), (6, (0, 0, 2010, [])), (13, (0, 1, 1, [])), (14, (0, 1, 2009, [])), (16, (0, 0, 2009, [])), (17, (0, 0, 2009, [])), (21, (2, 0, 0, [198]))] : List (Nat × tv_T)), tv_ok ta q.2 (n_v vs q.1) := hk
  obtain ⟨t0, hk⟩ := List.forall_mem_cons.mp hk
  have t0 : tv_ok ta (2, 0, 0, [150]) (n_v vs 0) := t0
  have r0 : ta (v_ad (n_v vs 0)) = some 150 := tv_rg t0
  obtain ⟨t1, hk⟩ := List.forall_mem_cons.mp hk
  have t1 : tv_ok ta (0, 0, 2009, []) (n_v vs 1) := t1
  have k1 : 0 ≤ v_iv (n_v vs 1) ∧ v_iv (n_v vs 1) ≤ 2009 := tv_rng t1
  obtain ⟨t2, hk⟩ := List.forall_mem_cons.mp hk
  have t2 : tv_ok ta (2, 0, 0, [150]) (n_v vs 2) := t2
  have r2 : ta (v_ad (n_v vs 2)) = some 150 := tv_rg t2
  obtain ⟨t5, hk⟩ := List.forall_mem_cons.mp hk
  have t5 : tv_ok ta (0, 0, 2009, []) (n_v vs 5) := t5
  have k5 : 0 ≤ v_iv (n_v vs 5) ∧ v_iv (n_v vs 5) ≤ 2009 := tv_rng t5
  obtain ⟨t6, hk⟩ := List.forall_mem_cons.mp hk
  have t6 : tv_ok ta (0, 0, 2010, []) (n_v vs 6) := t6
  have k6 : 0 ≤ v_iv (n_v vs 6) ∧ v_iv (n_v vs 6) ≤ 2010 := tv_rng t6
  obtain ⟨t13, hk⟩ := List.forall_mem_cons.mp hk
  have t13 : tv_ok ta (0, 1, 1, []) (n_v vs 13) := t13
  have k13 : 1 ≤ v_iv (n_v vs 13) ∧ v_iv (n_v vs 13) ≤ 1 := tv_rng t13
  obtain ⟨t14, hk⟩ := List.forall_mem_cons.mp hk
  have t14 : tv_ok ta (0, 1, 2009, []) (n_v vs 14) := t14
  have k14 : 1 ≤ v_iv (n_v vs 14) ∧ v_iv (n_v vs 14) ≤ 2009 := tv_rng t14
  obtain ⟨t16, hk⟩ := List.forall_mem_cons.mp hk
  have t16 : tv_ok ta (0, 0, 2009, []) (n_v vs 16) := t16
  have k16 : 0 ≤ v_iv (n_v vs 16) ∧ v_iv (n_v vs 16) ≤ 2009 := tv_rng t16
  obtain ⟨t17, hk⟩ := List.forall_mem_cons.mp hk
  have t17 : tv_ok ta (0, 0, 2009, []) (n_v vs 17) := t17
  have k17 : 0 ≤ v_iv (n_v vs 17) ∧ v_iv (n_v vs 17) ≤ 2009 := tv_rng t17
  obtain ⟨t21, hk⟩ := List.forall_mem_cons.mp hk
  have t21 : tv_ok ta (2, 0, 0, [198]) (n_v vs 21) := t21
  have r21 : ta (v_ad (n_v vs 21)) = some 198 := tv_rg t21
  have hds : ∀ q ∈ ([(14, 5, 1, 1), (14, 1, -4294967296, 2010), (1, 5, -4294967296, 2009), (5, 1, -4294967296, 2009)] : List of_T), n_iv vs q.2.1 + q.2.2.1 ≤ n_iv vs q.1 ∧ n_iv vs q.1 ≤ n_iv vs q.2.1 + q.2.2.2 := hds
  obtain ⟨d0, hds⟩ := List.forall_mem_cons.mp hds
  have d0 : v_iv (n_v vs 5) + 1 ≤ v_iv (n_v vs 14) ∧ v_iv (n_v vs 14) ≤ v_iv (n_v vs 5) + 1 := d0
  obtain ⟨d1, hds⟩ := List.forall_mem_cons.mp hds
  have d1 : v_iv (n_v vs 1) + (-4294967296) ≤ v_iv (n_v vs 14) ∧ v_iv (n_v vs 14) ≤ v_iv (n_v vs 1) + 2010 := d1
  obtain ⟨d2, hds⟩ := List.forall_mem_cons.mp hds
  have d2 : v_iv (n_v vs 5) + (-4294967296) ≤ v_iv (n_v vs 1) ∧ v_iv (n_v vs 1) ≤ v_iv (n_v vs 5) + 2009 := d2
  obtain ⟨d3, hds⟩ := List.forall_mem_cons.mp hds
  have d3 : v_iv (n_v vs 1) + (-4294967296) ≤ v_iv (n_v vs 5) ∧ v_iv (n_v vs 5) ≤ v_iv (n_v vs 1) + 2009 := d3
  have hf : fc_ok [(23, [1, 17], [0, 1, -1]), (23, [6, 17], [-2011, -1, -1]), (23, [1, 16], [0, 1, -1]), (23, [6, 16], [-2011, -1, -1]), (24, [0, 2], []), (20, [2], [50, 2, 1, 158, 157, 160, 2, 12, 0, 7, 4, 3, 2, 0, 158, 0, 1, 2, 0, 157, 2, 7, 0, 3, 2, 0, 157, 0, 2010, 3, 14, 1, 10, 3, 0, 160, 5, 3, 2, 0, 157, 0, 1, 0, 0, 1, 10, 3, 0, 160, 5, 3, 2, 0, 157, 0, 1, 0, 4]), (20, [17, 2], [30, 0, 1, 0, 0, -1, 1, 158]), (20, [2], [30, 0, 1, 1, 159]), (20, [2], [30, 0, -1, 1, 159]), (100, [21, 32, 35], []), (9, [21, 2], [73]), (23, [1, 17], [0, 1, -1]), (23, [6, 17], [-2011, -1, -1]), (23, [1, 16], [0, 1, -1]), (23, [6, 16], [-2011, -1, -1]), (20, [2], [50, 2, 1, 158, 157, 160, 2, 12, 0, 7, 4, 3, 2, 0, 158, 0, 1, 2, 0, 157, 2, 7, 0, 3, 2, 0, 157, 0, 2010, 3, 14, 1, 10, 3, 0, 160, 5, 3, 2, 0, 157, 0, 1, 0, 0, 1, 10, 3, 0, 160, 5, 3, 2, 0, 157, 0, 1, 0, 4]), (20, [17, 2], [30, 0, 1, 0, 0, -1, 1, 158]), (20, [2], [30, 0, 1, 1, 159]), (20, [2], [30, 0, -1, 1, 159]), (102, [17], [0, 13008, 13009, 13158, 13159]), (23, [1, 17], [0, 1, -1]), (23, [6, 17], [-2011, -1, -1]), (23, [1, 16], [0, 1, -1]), (23, [6, 16], [-2011, -1, -1]), (102, [16], [0, 13008, 13009, 13158]), (23, [1, 16], [0, 1, -1]), (23, [6, 16], [-2011, -1, -1]), (101, [2, 14], [158]), (1, [14, 5, 13], [])] ta ws vs := hf
  obtain ⟨f0, hf⟩ := fc_un (show (23 : Nat) < 100 from by decide) hf
  have f0 : 1 * v_iv (n_v vs 1) + ((-1) * v_iv (n_v vs 17) + 0) ≤ 0 := f0
  obtain ⟨f1, hf⟩ := fc_un (show (23 : Nat) < 100 from by decide) hf
  have f1 : (-1) * v_iv (n_v vs 6) + ((-1) * v_iv (n_v vs 17) + 0) ≤ (-2011) := f1
  obtain ⟨f2, hf⟩ := fc_un (show (23 : Nat) < 100 from by decide) hf
  have f2 : 1 * v_iv (n_v vs 1) + ((-1) * v_iv (n_v vs 16) + 0) ≤ 0 := f2
  obtain ⟨f3, hf⟩ := fc_un (show (23 : Nat) < 100 from by decide) hf
  have f3 : (-1) * v_iv (n_v vs 6) + ((-1) * v_iv (n_v vs 16) + 0) ≤ (-2011) := f3
  obtain ⟨f4, hf⟩ := fc_un (show (24 : Nat) < 100 from by decide) hf
  have f4 : n_v vs 0 = n_v vs 2 := f4
  obtain ⟨f5, hf⟩ := fc_un (show (20 : Nat) < 100 from by decide) hf
  have f5 : ((w_fi ws (n_v vs 2) 158 + 1) ≤ w_fi ws (n_v vs 2) 157) ∧ ((w_fi ws (n_v vs 2) 157 ≤ 2010) ∧ ((w_ei ws (w_ar ws (n_v vs 2) 160) ((w_fi ws (n_v vs 2) 157 - 1)) = 0) ∨ (w_ei ws (w_ar ws (n_v vs 2) 160) ((w_fi ws (n_v vs 2) 157 - 1)) = 4))) := f5
  obtain ⟨f6, hf⟩ := fc_un (show (20 : Nat) < 100 from by decide) hf
  have f6 : 1 * v_iv (n_v vs 17) + ((-1) * w_fi ws (n_v vs 2) 158 + 0) ≤ 0 := f6
  obtain ⟨f7, hf⟩ := fc_un (show (20 : Nat) < 100 from by decide) hf
  have f7 : 1 * w_fi ws (n_v vs 2) 159 + 0 ≤ 0 := f7
  obtain ⟨f8, hf⟩ := fc_un (show (20 : Nat) < 100 from by decide) hf
  have f8 : (-1) * w_fi ws (n_v vs 2) 159 + 0 ≤ 0 := f8
  obtain ⟨ta1, w1, le1, ⟨_, s1⟩, hf⟩ := fc_us (show ¬ (100 : Nat) < 100 from by decide) hf
  have s1 : (∀ b j, w_el ws b j = if b = v_ad (n_v vs 21) ∧ j = (v_iv (n_v vs 32)).toNat then v_iv (n_v vs 35) else w_el w1 b j) ∧ ∀ b k, w_fd ws b k = w_fd w1 b k := s1
  obtain ⟨f10, hf⟩ := fc_un (show (9 : Nat) < 100 from by decide) hf
  have f10 : n_v vs 21 = w_fd w1 (v_ad (n_v vs 2)) 73 := f10
  obtain ⟨f11, hf⟩ := fc_un (show (23 : Nat) < 100 from by decide) hf
  have f11 : 1 * v_iv (n_v vs 1) + ((-1) * v_iv (n_v vs 17) + 0) ≤ 0 := f11
  obtain ⟨f12, hf⟩ := fc_un (show (23 : Nat) < 100 from by decide) hf
  have f12 : (-1) * v_iv (n_v vs 6) + ((-1) * v_iv (n_v vs 17) + 0) ≤ (-2011) := f12
  obtain ⟨f13, hf⟩ := fc_un (show (23 : Nat) < 100 from by decide) hf
  have f13 : 1 * v_iv (n_v vs 1) + ((-1) * v_iv (n_v vs 16) + 0) ≤ 0 := f13
  obtain ⟨f14, hf⟩ := fc_un (show (23 : Nat) < 100 from by decide) hf
  have f14 : (-1) * v_iv (n_v vs 6) + ((-1) * v_iv (n_v vs 16) + 0) ≤ (-2011) := f14
  obtain ⟨f15, hf⟩ := fc_un (show (20 : Nat) < 100 from by decide) hf
  have f15 : ((w_fi w1 (n_v vs 2) 158 + 1) ≤ w_fi w1 (n_v vs 2) 157) ∧ ((w_fi w1 (n_v vs 2) 157 ≤ 2010) ∧ ((w_ei w1 (w_ar w1 (n_v vs 2) 160) ((w_fi w1 (n_v vs 2) 157 - 1)) = 0) ∨ (w_ei w1 (w_ar w1 (n_v vs 2) 160) ((w_fi w1 (n_v vs 2) 157 - 1)) = 4))) := f15
  obtain ⟨f16, hf⟩ := fc_un (show (20 : Nat) < 100 from by decide) hf
  have f16 : 1 * v_iv (n_v vs 17) + ((-1) * w_fi w1 (n_v vs 2) 158 + 0) ≤ 0 := f16
  obtain ⟨f17, hf⟩ := fc_un (show (20 : Nat) < 100 from by decide) hf
  have f17 : 1 * w_fi w1 (n_v vs 2) 159 + 0 ≤ 0 := f17
  obtain ⟨f18, hf⟩ := fc_un (show (20 : Nat) < 100 from by decide) hf
  have f18 : (-1) * w_fi w1 (n_v vs 2) 159 + 0 ≤ 0 := f18
  obtain ⟨ta2, w2, le2, ⟨_, s2⟩, hf⟩ := fc_us (show ¬ (102 : Nat) < 100 from by decide) hf
  obtain ⟨f20, hf⟩ := fc_un (show (23 : Nat) < 100 from by decide) hf
  have f20 : 1 * v_iv (n_v vs 1) + ((-1) * v_iv (n_v vs 17) + 0) ≤ 0 := f20
  obtain ⟨f21, hf⟩ := fc_un (show (23 : Nat) < 100 from by decide) hf
  have f21 : (-1) * v_iv (n_v vs 6) + ((-1) * v_iv (n_v vs 17) + 0) ≤ (-2011) := f21
  obtain ⟨f22, hf⟩ := fc_un (show (23 : Nat) < 100 from by decide) hf
  have f22 : 1 * v_iv (n_v vs 1) + ((-1) * v_iv (n_v vs 16) + 0) ≤ 0 := f22
  obtain ⟨f23, hf⟩ := fc_un (show (23 : Nat) < 100 from by decide) hf
  have f23 : (-1) * v_iv (n_v vs 6) + ((-1) * v_iv (n_v vs 16) + 0) ≤ (-2011) := f23
  obtain ⟨ta3, w3, le3, ⟨_, s3⟩, hf⟩ := fc_us (show ¬ (102 : Nat) < 100 from by decide) hf
  obtain ⟨f25, hf⟩ := fc_un (show (23 : Nat) < 100 from by decide) hf
  have f25 : 1 * v_iv (n_v vs 1) + ((-1) * v_iv (n_v vs 16) + 0) ≤ 0 := f25
  obtain ⟨f26, hf⟩ := fc_un (show (23 : Nat) < 100 from by decide) hf
  have f26 : (-1) * v_iv (n_v vs 6) + ((-1) * v_iv (n_v vs 16) + 0) ≤ (-2011) := f26
  obtain ⟨ta4, w4, le4, ⟨_, s4⟩, hf⟩ := fc_us (show ¬ (101 : Nat) < 100 from by decide) hf
  have s4 : (∀ b j, w_el w3 b j = w_el w4 b j) ∧ ∀ b j, w_fd w3 b j = if b = v_ad (n_v vs 2) ∧ j = 158 then n_v vs 14 else w_fd w4 b j := s4
  obtain ⟨f28, hf⟩ := fc_un (show (1 : Nat) < 100 from by decide) hf
  have f28 : v_iv (n_v vs 14) = v_iv (n_v vs 5) + v_iv (n_v vs 13) := f28
  have q2 : n_v vs 2 = n_v vs 0 := f4.symm
  rw [q2] at f5
  rw [q2] at f6
  rw [q2] at f7
  rw [q2] at f8
  rw [q2] at f10
  rw [q2] at f15
  rw [q2] at f16
  rw [q2] at f17
  rw [q2] at f18
  rw [q2] at s4
  have ar_0_73_1 : w_ar w1 (n_v vs 0) 73 = w_ar ws (n_v vs 0) 73 := by show v_ad (w_fd w1 _ _) = v_ad (w_fd ws _ _); rw [s1.2]
  have cr_0_73 : ta (w_ar ws (n_v vs 0) 73) = some 198 := tv_rg (th_fd hD hth r0 (g := GG_150) rfl (k := 73) (t := (2, 0, 0, [198])) rfl rfl)
  have ar_0_160_1 : w_ar w1 (n_v vs 0) 160 = w_ar ws (n_v vs 0) 160 := by show v_ad (w_fd w1 _ _) = v_ad (w_fd ws _ _); rw [s1.2]
  have cr_0_160 : ta (w_ar ws (n_v vs 0) 160) = some 259 := tv_rg (th_fd hD hth r0 (g := GG_150) rfl (k := 160) (t := (2, 0, 0, [259])) rfl rfl)
  have ad_21 : v_ad (n_v vs 21) = w_ar ws (n_v vs 0) 73 := (congrArg v_ad f10).trans ar_0_73_1
  rw [ar_0_160_1] at f15
  have fe_0_157_1 : w_fi ws (n_v vs 0) 157 = w_fi w1 (n_v vs 0) 157 := congrArg v_iv (s1.2 _ _)
  have fe_0_158_1 : w_fi ws (n_v vs 0) 158 = w_fi w1 (n_v vs 0) 158 := congrArg v_iv (s1.2 _ _)
  have fe_0_159_1 : w_fi ws (n_v vs 0) 159 = w_fi w1 (n_v vs 0) 159 := congrArg v_iv (s1.2 _ _)
  have hE_0_160_1 : ∀ j : Int, w_ei ws (w_ar ws (n_v vs 0) 160) j = w_ei w1 (w_ar ws (n_v vs 0) 160) j := fun j => by unfold w_ei; rw [s1.1, if_neg (fun e => by have e1 := e.1; rw [← e1] at r21; rw [cr_0_160] at r21; exact absurd (Option.some.inj r21) (by decide))]
  have hK_0_160 : ∀ j : Int, 0 ≤ j → j < 2010 → 0 ≤ w_ei ws (w_ar ws (n_v vs 0) 160) j ∧ w_ei ws (w_ar ws (n_v vs 0) 160) j ≤ 4 := fun j h0 h1 => th_el hD hth cr_0_160 (kd := 0) (n := 2010) (m := 2010) (lo := 0) (hi := 4) (rs := []) (L := []) rfl (by decide) (j := j.toNat) (by omega)
  have kz_0_157 : 0 ≤ w_fi ws (n_v vs 0) 157 ∧ w_fi ws (n_v vs 0) 157 ≤ 2010 := tv_rng (th_fd hD hth r0 (g := GG_150) rfl (k := 157) (t := (0, 0, 2010, [])) rfl rfl)
  have kz_0_158 : 0 ≤ w_fi ws (n_v vs 0) 158 ∧ w_fi ws (n_v vs 0) 158 ≤ 2009 := tv_rng (th_fd hD hth r0 (g := GG_150) rfl (k := 158) (t := (0, 0, 2009, [])) rfl rfl)
  have kz_0_159 : 0 ≤ w_fi ws (n_v vs 0) 159 ∧ w_fi ws (n_v vs 0) 159 ≤ 13 := tv_rng (th_fd hD hth r0 (g := GG_150) rfl (k := 159) (t := (0, 0, 13, [])) rfl rfl)
  obtain ⟨x, ex, hx⟩ := iv_ex (ta := ta) (lo := 0) (hi := 2010) (z := 0 + (1 * v_iv (n_v vs 6) + 0)) (by omega) (by omega) (by omega) (by omega)
  have ex2 : v_iv (Value.int x) = 0 + (1 * v_iv (n_v vs 6) + 0) := ex
  have ex3 : 0 ≤ v_iv (Value.int x) ∧ v_iv (Value.int x) ≤ 2010 := tv_rng hx
  have e_0 : n_v (vs ++ [Value.int x]) 0 = n_v vs 0 := n_v_old (by rw [hl]; decide)
  have e_1 : n_v (vs ++ [Value.int x]) 1 = n_v vs 1 := n_v_old (by rw [hl]; decide)
  have e_2 : n_v (vs ++ [Value.int x]) 2 = n_v vs 2 := n_v_old (by rw [hl]; decide)
  have e_36 : n_v (vs ++ [Value.int x]) 36 = Value.int x := n_v_new hl
  have nf0 : fc_1 (20, [2], [50, 2, 1, 158, 157, 160, 2, 12, 0, 7, 4, 3, 2, 0, 158, 0, 1, 2, 0, 157, 2, 7, 0, 3, 2, 0, 157, 0, 2010, 3, 14, 1, 10, 3, 0, 160, 5, 3, 2, 0, 157, 0, 1, 0, 0, 1, 10, 3, 0, 160, 5, 3, 2, 0, 157, 0, 1, 0, 4]) ws (vs ++ [Value.int x]) := by
    refine ⟨fun n hn => ?_, ?_⟩
    · have hn : n ∈ [2] := hn
      rw [List.length_append, hl]
      simp only [List.mem_cons, List.not_mem_nil, or_false] at hn
      show n < 36 + 1; omega
    · show ((w_fi ws (n_v (vs ++ [Value.int x]) 2) 158 + 1) ≤ w_fi ws (n_v (vs ++ [Value.int x]) 2) 157) ∧ ((w_fi ws (n_v (vs ++ [Value.int x]) 2) 157 ≤ 2010) ∧ ((w_ei ws (w_ar ws (n_v (vs ++ [Value.int x]) 2) 160) ((w_fi ws (n_v (vs ++ [Value.int x]) 2) 157 - 1)) = 0) ∨ (w_ei ws (w_ar ws (n_v (vs ++ [Value.int x]) 2) 160) ((w_fi ws (n_v (vs ++ [Value.int x]) 2) 157 - 1)) = 4)))
      rw [e_2]
      rw [q2]
      first | omega | grind
  have nf1 : fc_1 (20, [1, 2], [30, 0, 1, 0, 0, -1, 1, 158]) ws (vs ++ [Value.int x]) := by
    refine ⟨fun n hn => ?_, ?_⟩
    · have hn : n ∈ [1, 2] := hn
      rw [List.length_append, hl]
      simp only [List.mem_cons, List.not_mem_nil, or_false] at hn
      show n < 36 + 1; omega
    · show 1 * v_iv (n_v (vs ++ [Value.int x]) 1) + ((-1) * w_fi ws (n_v (vs ++ [Value.int x]) 2) 158 + 0) ≤ 0
      rw [e_1]
      rw [e_2]
      rw [q2]
      omega
  have nf2 : fc_1 (20, [2], [30, 0, 1, 1, 159]) ws (vs ++ [Value.int x]) := by
    refine ⟨fun n hn => ?_, ?_⟩
    · have hn : n ∈ [2] := hn
      rw [List.length_append, hl]
      simp only [List.mem_cons, List.not_mem_nil, or_false] at hn
      show n < 36 + 1; omega
    · show 1 * w_fi ws (n_v (vs ++ [Value.int x]) 2) 159 + 0 ≤ 0
      rw [e_2]
      rw [q2]
      omega
  have nf3 : fc_1 (20, [2], [30, 0, -1, 1, 159]) ws (vs ++ [Value.int x]) := by
    refine ⟨fun n hn => ?_, ?_⟩
    · have hn : n ∈ [2] := hn
      rw [List.length_append, hl]
      simp only [List.mem_cons, List.not_mem_nil, or_false] at hn
      show n < 36 + 1; omega
    · show (-1) * w_fi ws (n_v (vs ++ [Value.int x]) 2) 159 + 0 ≤ 0
      rw [e_2]
      rw [q2]
      omega
  have nf4 : fc_1 (20, [36, 2], [30, -2011, -1, 0, 0, -1, 1, 158]) ws (vs ++ [Value.int x]) := by
    refine ⟨fun n hn => ?_, ?_⟩
    · have hn : n ∈ [36, 2] := hn
      rw [List.length_append, hl]
      simp only [List.mem_cons, List.not_mem_nil, or_false] at hn
      show n < 36 + 1; omega
    · show (-1) * v_iv (n_v (vs ++ [Value.int x]) 36) + ((-1) * w_fi ws (n_v (vs ++ [Value.int x]) 2) 158 + 0) ≤ (-2011)
      rw [e_2]
      rw [e_36]
      rw [q2]
      omega
  have nf5 : fc_1 (24, [0, 2], []) ws (vs ++ [Value.int x]) := by
    refine ⟨fun n hn => ?_, ?_⟩
    · have hn : n ∈ [0, 2] := hn
      rw [List.length_append, hl]
      simp only [List.mem_cons, List.not_mem_nil, or_false] at hn
      show n < 36 + 1; omega
    · show n_v (vs ++ [Value.int x]) 0 = n_v (vs ++ [Value.int x]) 2
      first | rfl | simp only [e_0, e_2, q2]
  obtain ⟨x0, e0, _, _⟩ := tv_int t6 rfl
  have e1 : v_iv (n_v vs 6) = x0.toInt := by rw [e0]; rfl
  have ho : sy_ofs (vs ++ [Value.int x]) (36, 6, 0, 0) := by
    refine ⟨x, x0, by rw [List.getElem?_append_right (by rw [hl]; decide), hl]; rfl, ?_, ?_, ?_⟩
    · rw [List.getElem?_append_left (by rw [hl]; decide)]; exact n_v_some (by rw [hl]; decide) e0
    · show x0.toInt + 0 ≤ x.toInt; omega
    · show x.toInt ≤ x0.toInt + 0; omega
  exact ⟨fun q hq => (by cases hq), [Value.int x], ag_one hx, List.forall_mem_cons.mpr ⟨⟨show (20 : Nat) < 100 from by decide, nf0⟩, List.forall_mem_cons.mpr ⟨⟨show (20 : Nat) < 100 from by decide, nf1⟩, List.forall_mem_cons.mpr ⟨⟨show (20 : Nat) < 100 from by decide, nf2⟩, List.forall_mem_cons.mpr ⟨⟨show (20 : Nat) < 100 from by decide, nf3⟩, List.forall_mem_cons.mpr ⟨⟨show (20 : Nat) < 100 from by decide, nf4⟩, List.forall_mem_cons.mpr ⟨⟨show (24 : Nat) < 100 from by decide, nf5⟩, (fun _ h => (by cases h))⟩⟩⟩⟩⟩⟩, List.forall_mem_cons.mpr ⟨ho, (fun _ h => (by cases h))⟩⟩
def o_Mo_rule_at_f0_40 : or_T := (275, 35, [(0, (2, 0, 0, [150])), (1, (0, 0, 2009, [])), (2, (2, 0, 0, [150])), (5, (0, 0, 2009, [])), (6, (0, 0, 2010, [])), (13, (0, 1, 1, [])), (14, (0, 1, 2009, [])), (16, (0, 0, 2009, [])), (17, (0, 0, 2009, [])), (21, (2, 0, 0, [198]))], [(23, [1, 17], [0, 1, -1]), (23, [6, 17], [-2011, -1, -1]), (23, [1, 16], [0, 1, -1]), (23, [6, 16], [-2011, -1, -1]), (24, [0, 2], []), (20, [2], [50, 2, 1, 158, 157, 160, 2, 12, 0, 7, 4, 3, 2, 0, 158, 0, 1, 2, 0, 157, 2, 7, 0, 3, 2, 0, 157, 0, 2010, 3, 14, 1, 10, 3, 0, 160, 5, 3, 2, 0, 157, 0, 1, 0, 0, 1, 10, 3, 0, 160, 5, 3, 2, 0, 157, 0, 1, 0, 4]), (20, [17, 2], [30, 0, 1, 0, 0, -1, 1, 158]), (20, [2], [30, 0, 1, 1, 159]), (20, [2], [30, 0, -1, 1, 159]), (100, [21, 32, 34], []), (9, [21, 2], [73]), (23, [1, 17], [0, 1, -1]), (23, [6, 17], [-2011, -1, -1]), (23, [1, 16], [0, 1, -1]), (23, [6, 16], [-2011, -1, -1]), (20, [2], [50, 2, 1, 158, 157, 160, 2, 12, 0, 7, 4, 3, 2, 0, 158, 0, 1, 2, 0, 157, 2, 7, 0, 3, 2, 0, 157, 0, 2010, 3, 14, 1, 10, 3, 0, 160, 5, 3, 2, 0, 157, 0, 1, 0, 0, 1, 10, 3, 0, 160, 5, 3, 2, 0, 157, 0, 1, 0, 4]), (20, [17, 2], [30, 0, 1, 0, 0, -1, 1, 158]), (20, [2], [30, 0, 1, 1, 159]), (20, [2], [30, 0, -1, 1, 159]), (102, [17], [0, 13008, 13009, 13158, 13159]), (23, [1, 17], [0, 1, -1]), (23, [6, 17], [-2011, -1, -1]), (23, [1, 16], [0, 1, -1]), (23, [6, 16], [-2011, -1, -1]), (102, [16], [0, 13008, 13009, 13158]), (23, [1, 16], [0, 1, -1]), (23, [6, 16], [-2011, -1, -1]), (101, [2, 14], [158]), (1, [14, 5, 13], [])], [], [(0, 0, 2010, [])], [(20, [2], [50, 2, 1, 158, 157, 160, 2, 12, 0, 7, 4, 3, 2, 0, 158, 0, 1, 2, 0, 157, 2, 7, 0, 3, 2, 0, 157, 0, 2010, 3, 14, 1, 10, 3, 0, 160, 5, 3, 2, 0, 157, 0, 1, 0, 0, 1, 10, 3, 0, 160, 5, 3, 2, 0, 157, 0, 1, 0, 4]), (20, [1, 2], [30, 0, 1, 0, 0, -1, 1, 158]), (20, [2], [30, 0, 1, 1, 159]), (20, [2], [30, 0, -1, 1, 159]), (20, [35, 2], [30, -2011, -1, 0, 0, -1, 1, 158]), (24, [0, 2], [])], [(35, 6, 0, 0)], [(14, 5, 1, 1), (14, 1, -4294967296, 2010), (1, 5, -4294967296, 2009), (5, 1, -4294967296, 2009)])
theorem oo_Mo_rule_at_f0_40 {kA : Nat → ClassId} : or_ok kA GG o_Mo_rule_at_f0_40 := by
  intro A ta ws vs hD hth hl hk hds hf
  have hl : vs.length = 35 := hl
  have hk : ∀ q ∈ ([(0, (2, 0, 0, [150])), (1, (0, 0, 2009, [])), (2, (2, 0, 0, [150])), (5, (0, 0, 2009, [])), (6, (0, 0, 2010, [])), (13, (0, 1, 1, [])), (14, (0, 1, 2009, [])), (16, (0, 0, 2009, [])), (17, (0, 0, 2009, [])), (21, (2, 0, 0, [198]))] : List (Nat × tv_T)), tv_ok ta q.2 (n_v vs q.1) := hk
  obtain ⟨t0, hk⟩ := List.forall_mem_cons.mp hk
  have t0 : tv_ok ta (2, 0, 0, [150]) (n_v vs 0) := t0
  have r0 : ta (v_ad (n_v vs 0)) = some 150 := tv_rg t0
  obtain ⟨t1, hk⟩ := List.forall_mem_cons.mp hk
  have t1 : tv_ok ta (0, 0, 2009, []) (n_v vs 1) := t1
  have k1 : 0 ≤ v_iv (n_v vs 1) ∧ v_iv (n_v vs 1) ≤ 2009 := tv_rng t1
  obtain ⟨t2, hk⟩ := List.forall_mem_cons.mp hk
  have t2 : tv_ok ta (2, 0, 0, [150]) (n_v vs 2) := t2
  have r2 : ta (v_ad (n_v vs 2)) = some 150 := tv_rg t2
  obtain ⟨t5, hk⟩ := List.forall_mem_cons.mp hk
  have t5 : tv_ok ta (0, 0, 2009, []) (n_v vs 5) := t5
  have k5 : 0 ≤ v_iv (n_v vs 5) ∧ v_iv (n_v vs 5) ≤ 2009 := tv_rng t5
  obtain ⟨t6, hk⟩ := List.forall_mem_cons.mp hk
  have t6 : tv_ok ta (0, 0, 2010, []) (n_v vs 6) := t6
  have k6 : 0 ≤ v_iv (n_v vs 6) ∧ v_iv (n_v vs 6) ≤ 2010 := tv_rng t6
  obtain ⟨t13, hk⟩ := List.forall_mem_cons.mp hk
  have t13 : tv_ok ta (0, 1, 1, []) (n_v vs 13) := t13
  have k13 : 1 ≤ v_iv (n_v vs 13) ∧ v_iv (n_v vs 13) ≤ 1 := tv_rng t13
  obtain ⟨t14, hk⟩ := List.forall_mem_cons.mp hk
  have t14 : tv_ok ta (0, 1, 2009, []) (n_v vs 14) := t14
  have k14 : 1 ≤ v_iv (n_v vs 14) ∧ v_iv (n_v vs 14) ≤ 2009 := tv_rng t14
  obtain ⟨t16, hk⟩ := List.forall_mem_cons.mp hk
  have t16 : tv_ok ta (0, 0, 2009, []) (n_v vs 16) := t16
  have k16 : 0 ≤ v_iv (n_v vs 16) ∧ v_iv (n_v vs 16) ≤ 2009 := tv_rng t16
  obtain ⟨t17, hk⟩ := List.forall_mem_cons.mp hk
  have t17 : tv_ok ta (0, 0, 2009, []) (n_v vs 17) := t17
  have k17 : 0 ≤ v_iv (n_v vs 17) ∧ v_iv (n_v vs 17) ≤ 2009 := tv_rng t17
  obtain ⟨t21, hk⟩ := List.forall_mem_cons.mp hk
  have t21 : tv_ok ta (2, 0, 0, [198]) (n_v vs 21) := t21
  have r21 : ta (v_ad (n_v vs 21)) = some 198 := tv_rg t21
  have hds : ∀ q ∈ ([(14, 5, 1, 1), (14, 1, -4294967296, 2010), (1, 5, -4294967296, 2009), (5, 1, -4294967296, 2009)] : List of_T), n_iv vs q.2.1 + q.2.2.1 ≤ n_iv vs q.1 ∧ n_iv vs q.1 ≤ n_iv vs q.2.1 + q.2.2.2 := hds
  obtain ⟨d0, hds⟩ := List.forall_mem_cons.mp hds
  have d0 : v_iv (n_v vs 5) + 1 ≤ v_iv (n_v vs 14) ∧ v_iv (n_v vs 14) ≤ v_iv (n_v vs 5) + 1 := d0
  obtain ⟨d1, hds⟩ := List.forall_mem_cons.mp hds
  have d1 : v_iv (n_v vs 1) + (-4294967296) ≤ v_iv (n_v vs 14) ∧ v_iv (n_v vs 14) ≤ v_iv (n_v vs 1) + 2010 := d1
  obtain ⟨d2, hds⟩ := List.forall_mem_cons.mp hds
  have d2 : v_iv (n_v vs 5) + (-4294967296) ≤ v_iv (n_v vs 1) ∧ v_iv (n_v vs 1) ≤ v_iv (n_v vs 5) + 2009 := d2
  obtain ⟨d3, hds⟩ := List.forall_mem_cons.mp hds
  have d3 : v_iv (n_v vs 1) + (-4294967296) ≤ v_iv (n_v vs 5) ∧ v_iv (n_v vs 5) ≤ v_iv (n_v vs 1) + 2009 := d3
  have hf : fc_ok [(23, [1, 17], [0, 1, -1]), (23, [6, 17], [-2011, -1, -1]), (23, [1, 16], [0, 1, -1]), (23, [6, 16], [-2011, -1, -1]), (24, [0, 2], []), (20, [2], [50, 2, 1, 158, 157, 160, 2, 12, 0, 7, 4, 3, 2, 0, 158, 0, 1, 2, 0, 157, 2, 7, 0, 3, 2, 0, 157, 0, 2010, 3, 14, 1, 10, 3, 0, 160, 5, 3, 2, 0, 157, 0, 1, 0, 0, 1, 10, 3, 0, 160, 5, 3, 2, 0, 157, 0, 1, 0, 4]), (20, [17, 2], [30, 0, 1, 0, 0, -1, 1, 158]), (20, [2], [30, 0, 1, 1, 159]), (20, [2], [30, 0, -1, 1, 159]), (100, [21, 32, 34], []), (9, [21, 2], [73]), (23, [1, 17], [0, 1, -1]), (23, [6, 17], [-2011, -1, -1]), (23, [1, 16], [0, 1, -1]), (23, [6, 16], [-2011, -1, -1]), (20, [2], [50, 2, 1, 158, 157, 160, 2, 12, 0, 7, 4, 3, 2, 0, 158, 0, 1, 2, 0, 157, 2, 7, 0, 3, 2, 0, 157, 0, 2010, 3, 14, 1, 10, 3, 0, 160, 5, 3, 2, 0, 157, 0, 1, 0, 0, 1, 10, 3, 0, 160, 5, 3, 2, 0, 157, 0, 1, 0, 4]), (20, [17, 2], [30, 0, 1, 0, 0, -1, 1, 158]), (20, [2], [30, 0, 1, 1, 159]), (20, [2], [30, 0, -1, 1, 159]), (102, [17], [0, 13008, 13009, 13158, 13159]), (23, [1, 17], [0, 1, -1]), (23, [6, 17], [-2011, -1, -1]), (23, [1, 16], [0, 1, -1]), (23, [6, 16], [-2011, -1, -1]), (102, [16], [0, 13008, 13009, 13158]), (23, [1, 16], [0, 1, -1]), (23, [6, 16], [-2011, -1, -1]), (101, [2, 14], [158]), (1, [14, 5, 13], [])] ta ws vs := hf
  obtain ⟨f0, hf⟩ := fc_un (show (23 : Nat) < 100 from by decide) hf
  have f0 : 1 * v_iv (n_v vs 1) + ((-1) * v_iv (n_v vs 17) + 0) ≤ 0 := f0
  obtain ⟨f1, hf⟩ := fc_un (show (23 : Nat) < 100 from by decide) hf
  have f1 : (-1) * v_iv (n_v vs 6) + ((-1) * v_iv (n_v vs 17) + 0) ≤ (-2011) := f1
  obtain ⟨f2, hf⟩ := fc_un (show (23 : Nat) < 100 from by decide) hf
  have f2 : 1 * v_iv (n_v vs 1) + ((-1) * v_iv (n_v vs 16) + 0) ≤ 0 := f2
  obtain ⟨f3, hf⟩ := fc_un (show (23 : Nat) < 100 from by decide) hf
  have f3 : (-1) * v_iv (n_v vs 6) + ((-1) * v_iv (n_v vs 16) + 0) ≤ (-2011) := f3
  obtain ⟨f4, hf⟩ := fc_un (show (24 : Nat) < 100 from by decide) hf
  have f4 : n_v vs 0 = n_v vs 2 := f4
  obtain ⟨f5, hf⟩ := fc_un (show (20 : Nat) < 100 from by decide) hf
  have f5 : ((w_fi ws (n_v vs 2) 158 + 1) ≤ w_fi ws (n_v vs 2) 157) ∧ ((w_fi ws (n_v vs 2) 157 ≤ 2010) ∧ ((w_ei ws (w_ar ws (n_v vs 2) 160) ((w_fi ws (n_v vs 2) 157 - 1)) = 0) ∨ (w_ei ws (w_ar ws (n_v vs 2) 160) ((w_fi ws (n_v vs 2) 157 - 1)) = 4))) := f5
  obtain ⟨f6, hf⟩ := fc_un (show (20 : Nat) < 100 from by decide) hf
  have f6 : 1 * v_iv (n_v vs 17) + ((-1) * w_fi ws (n_v vs 2) 158 + 0) ≤ 0 := f6
  obtain ⟨f7, hf⟩ := fc_un (show (20 : Nat) < 100 from by decide) hf
  have f7 : 1 * w_fi ws (n_v vs 2) 159 + 0 ≤ 0 := f7
  obtain ⟨f8, hf⟩ := fc_un (show (20 : Nat) < 100 from by decide) hf
  have f8 : (-1) * w_fi ws (n_v vs 2) 159 + 0 ≤ 0 := f8
  obtain ⟨ta1, w1, le1, ⟨_, s1⟩, hf⟩ := fc_us (show ¬ (100 : Nat) < 100 from by decide) hf
  have s1 : (∀ b j, w_el ws b j = if b = v_ad (n_v vs 21) ∧ j = (v_iv (n_v vs 32)).toNat then v_iv (n_v vs 34) else w_el w1 b j) ∧ ∀ b k, w_fd ws b k = w_fd w1 b k := s1
  obtain ⟨f10, hf⟩ := fc_un (show (9 : Nat) < 100 from by decide) hf
  have f10 : n_v vs 21 = w_fd w1 (v_ad (n_v vs 2)) 73 := f10
  obtain ⟨f11, hf⟩ := fc_un (show (23 : Nat) < 100 from by decide) hf
  have f11 : 1 * v_iv (n_v vs 1) + ((-1) * v_iv (n_v vs 17) + 0) ≤ 0 := f11
  obtain ⟨f12, hf⟩ := fc_un (show (23 : Nat) < 100 from by decide) hf
  have f12 : (-1) * v_iv (n_v vs 6) + ((-1) * v_iv (n_v vs 17) + 0) ≤ (-2011) := f12
  obtain ⟨f13, hf⟩ := fc_un (show (23 : Nat) < 100 from by decide) hf
  have f13 : 1 * v_iv (n_v vs 1) + ((-1) * v_iv (n_v vs 16) + 0) ≤ 0 := f13
  obtain ⟨f14, hf⟩ := fc_un (show (23 : Nat) < 100 from by decide) hf
  have f14 : (-1) * v_iv (n_v vs 6) + ((-1) * v_iv (n_v vs 16) + 0) ≤ (-2011) := f14
  obtain ⟨f15, hf⟩ := fc_un (show (20 : Nat) < 100 from by decide) hf
  have f15 : ((w_fi w1 (n_v vs 2) 158 + 1) ≤ w_fi w1 (n_v vs 2) 157) ∧ ((w_fi w1 (n_v vs 2) 157 ≤ 2010) ∧ ((w_ei w1 (w_ar w1 (n_v vs 2) 160) ((w_fi w1 (n_v vs 2) 157 - 1)) = 0) ∨ (w_ei w1 (w_ar w1 (n_v vs 2) 160) ((w_fi w1 (n_v vs 2) 157 - 1)) = 4))) := f15
  obtain ⟨f16, hf⟩ := fc_un (show (20 : Nat) < 100 from by decide) hf
  have f16 : 1 * v_iv (n_v vs 17) + ((-1) * w_fi w1 (n_v vs 2) 158 + 0) ≤ 0 := f16
  obtain ⟨f17, hf⟩ := fc_un (show (20 : Nat) < 100 from by decide) hf
  have f17 : 1 * w_fi w1 (n_v vs 2) 159 + 0 ≤ 0 := f17
  obtain ⟨f18, hf⟩ := fc_un (show (20 : Nat) < 100 from by decide) hf
  have f18 : (-1) * w_fi w1 (n_v vs 2) 159 + 0 ≤ 0 := f18
  obtain ⟨ta2, w2, le2, ⟨_, s2⟩, hf⟩ := fc_us (show ¬ (102 : Nat) < 100 from by decide) hf
  obtain ⟨f20, hf⟩ := fc_un (show (23 : Nat) < 100 from by decide) hf
  have f20 : 1 * v_iv (n_v vs 1) + ((-1) * v_iv (n_v vs 17) + 0) ≤ 0 := f20
  obtain ⟨f21, hf⟩ := fc_un (show (23 : Nat) < 100 from by decide) hf
  have f21 : (-1) * v_iv (n_v vs 6) + ((-1) * v_iv (n_v vs 17) + 0) ≤ (-2011) := f21
  obtain ⟨f22, hf⟩ := fc_un (show (23 : Nat) < 100 from by decide) hf
  have f22 : 1 * v_iv (n_v vs 1) + ((-1) * v_iv (n_v vs 16) + 0) ≤ 0 := f22
  obtain ⟨f23, hf⟩ := fc_un (show (23 : Nat) < 100 from by decide) hf
  have f23 : (-1) * v_iv (n_v vs 6) + ((-1) * v_iv (n_v vs 16) + 0) ≤ (-2011) := f23
  obtain ⟨ta3, w3, le3, ⟨_, s3⟩, hf⟩ := fc_us (show ¬ (102 : Nat) < 100 from by decide) hf
  obtain ⟨f25, hf⟩ := fc_un (show (23 : Nat) < 100 from by decide) hf
  have f25 : 1 * v_iv (n_v vs 1) + ((-1) * v_iv (n_v vs 16) + 0) ≤ 0 := f25
  obtain ⟨f26, hf⟩ := fc_un (show (23 : Nat) < 100 from by decide) hf
  have f26 : (-1) * v_iv (n_v vs 6) + ((-1) * v_iv (n_v vs 16) + 0) ≤ (-2011) := f26
  obtain ⟨ta4, w4, le4, ⟨_, s4⟩, hf⟩ := fc_us (show ¬ (101 : Nat) < 100 from by decide) hf
  have s4 : (∀ b j, w_el w3 b j = w_el w4 b j) ∧ ∀ b j, w_fd w3 b j = if b = v_ad (n_v vs 2) ∧ j = 158 then n_v vs 14 else w_fd w4 b j := s4
  obtain ⟨f28, hf⟩ := fc_un (show (1 : Nat) < 100 from by decide) hf
  have f28 : v_iv (n_v vs 14) = v_iv (n_v vs 5) + v_iv (n_v vs 13) := f28
  have q2 : n_v vs 2 = n_v vs 0 := f4.symm
  rw [q2] at f5
  rw [q2] at f6
  rw [q2] at f7
  rw [q2] at f8
  rw [q2] at f10
  rw [q2] at f15
  rw [q2] at f16
  rw [q2] at f17
  rw [q2] at f18
  rw [q2] at s4
  have ar_0_73_1 : w_ar w1 (n_v vs 0) 73 = w_ar ws (n_v vs 0) 73 := by show v_ad (w_fd w1 _ _) = v_ad (w_fd ws _ _); rw [s1.2]
  have cr_0_73 : ta (w_ar ws (n_v vs 0) 73) = some 198 := tv_rg (th_fd hD hth r0 (g := GG_150) rfl (k := 73) (t := (2, 0, 0, [198])) rfl rfl)
  have ar_0_160_1 : w_ar w1 (n_v vs 0) 160 = w_ar ws (n_v vs 0) 160 := by show v_ad (w_fd w1 _ _) = v_ad (w_fd ws _ _); rw [s1.2]
  have cr_0_160 : ta (w_ar ws (n_v vs 0) 160) = some 259 := tv_rg (th_fd hD hth r0 (g := GG_150) rfl (k := 160) (t := (2, 0, 0, [259])) rfl rfl)
  have ad_21 : v_ad (n_v vs 21) = w_ar ws (n_v vs 0) 73 := (congrArg v_ad f10).trans ar_0_73_1
  rw [ar_0_160_1] at f15
  have fe_0_157_1 : w_fi ws (n_v vs 0) 157 = w_fi w1 (n_v vs 0) 157 := congrArg v_iv (s1.2 _ _)
  have fe_0_158_1 : w_fi ws (n_v vs 0) 158 = w_fi w1 (n_v vs 0) 158 := congrArg v_iv (s1.2 _ _)
  have fe_0_159_1 : w_fi ws (n_v vs 0) 159 = w_fi w1 (n_v vs 0) 159 := congrArg v_iv (s1.2 _ _)
  have hE_0_160_1 : ∀ j : Int, w_ei ws (w_ar ws (n_v vs 0) 160) j = w_ei w1 (w_ar ws (n_v vs 0) 160) j := fun j => by unfold w_ei; rw [s1.1, if_neg (fun e => by have e1 := e.1; rw [← e1] at r21; rw [cr_0_160] at r21; exact absurd (Option.some.inj r21) (by decide))]
  have hK_0_160 : ∀ j : Int, 0 ≤ j → j < 2010 → 0 ≤ w_ei ws (w_ar ws (n_v vs 0) 160) j ∧ w_ei ws (w_ar ws (n_v vs 0) 160) j ≤ 4 := fun j h0 h1 => th_el hD hth cr_0_160 (kd := 0) (n := 2010) (m := 2010) (lo := 0) (hi := 4) (rs := []) (L := []) rfl (by decide) (j := j.toNat) (by omega)
  have kz_0_157 : 0 ≤ w_fi ws (n_v vs 0) 157 ∧ w_fi ws (n_v vs 0) 157 ≤ 2010 := tv_rng (th_fd hD hth r0 (g := GG_150) rfl (k := 157) (t := (0, 0, 2010, [])) rfl rfl)
  have kz_0_158 : 0 ≤ w_fi ws (n_v vs 0) 158 ∧ w_fi ws (n_v vs 0) 158 ≤ 2009 := tv_rng (th_fd hD hth r0 (g := GG_150) rfl (k := 158) (t := (0, 0, 2009, [])) rfl rfl)
  have kz_0_159 : 0 ≤ w_fi ws (n_v vs 0) 159 ∧ w_fi ws (n_v vs 0) 159 ≤ 13 := tv_rng (th_fd hD hth r0 (g := GG_150) rfl (k := 159) (t := (0, 0, 13, [])) rfl rfl)
  obtain ⟨x, ex, hx⟩ := iv_ex (ta := ta) (lo := 0) (hi := 2010) (z := 0 + (1 * v_iv (n_v vs 6) + 0)) (by omega) (by omega) (by omega) (by omega)
  have ex2 : v_iv (Value.int x) = 0 + (1 * v_iv (n_v vs 6) + 0) := ex
  have ex3 : 0 ≤ v_iv (Value.int x) ∧ v_iv (Value.int x) ≤ 2010 := tv_rng hx
  have e_0 : n_v (vs ++ [Value.int x]) 0 = n_v vs 0 := n_v_old (by rw [hl]; decide)
  have e_1 : n_v (vs ++ [Value.int x]) 1 = n_v vs 1 := n_v_old (by rw [hl]; decide)
  have e_2 : n_v (vs ++ [Value.int x]) 2 = n_v vs 2 := n_v_old (by rw [hl]; decide)
  have e_35 : n_v (vs ++ [Value.int x]) 35 = Value.int x := n_v_new hl
  have nf0 : fc_1 (20, [2], [50, 2, 1, 158, 157, 160, 2, 12, 0, 7, 4, 3, 2, 0, 158, 0, 1, 2, 0, 157, 2, 7, 0, 3, 2, 0, 157, 0, 2010, 3, 14, 1, 10, 3, 0, 160, 5, 3, 2, 0, 157, 0, 1, 0, 0, 1, 10, 3, 0, 160, 5, 3, 2, 0, 157, 0, 1, 0, 4]) ws (vs ++ [Value.int x]) := by
    refine ⟨fun n hn => ?_, ?_⟩
    · have hn : n ∈ [2] := hn
      rw [List.length_append, hl]
      simp only [List.mem_cons, List.not_mem_nil, or_false] at hn
      show n < 35 + 1; omega
    · show ((w_fi ws (n_v (vs ++ [Value.int x]) 2) 158 + 1) ≤ w_fi ws (n_v (vs ++ [Value.int x]) 2) 157) ∧ ((w_fi ws (n_v (vs ++ [Value.int x]) 2) 157 ≤ 2010) ∧ ((w_ei ws (w_ar ws (n_v (vs ++ [Value.int x]) 2) 160) ((w_fi ws (n_v (vs ++ [Value.int x]) 2) 157 - 1)) = 0) ∨ (w_ei ws (w_ar ws (n_v (vs ++ [Value.int x]) 2) 160) ((w_fi ws (n_v (vs ++ [Value.int x]) 2) 157 - 1)) = 4)))
      rw [e_2]
      rw [q2]
      first | omega | grind
  have nf1 : fc_1 (20, [1, 2], [30, 0, 1, 0, 0, -1, 1, 158]) ws (vs ++ [Value.int x]) := by
    refine ⟨fun n hn => ?_, ?_⟩
    · have hn : n ∈ [1, 2] := hn
      rw [List.length_append, hl]
      simp only [List.mem_cons, List.not_mem_nil, or_false] at hn
      show n < 35 + 1; omega
    · show 1 * v_iv (n_v (vs ++ [Value.int x]) 1) + ((-1) * w_fi ws (n_v (vs ++ [Value.int x]) 2) 158 + 0) ≤ 0
      rw [e_1]
      rw [e_2]
      rw [q2]
      omega
  have nf2 : fc_1 (20, [2], [30, 0, 1, 1, 159]) ws (vs ++ [Value.int x]) := by
    refine ⟨fun n hn => ?_, ?_⟩
    · have hn : n ∈ [2] := hn
      rw [List.length_append, hl]
      simp only [List.mem_cons, List.not_mem_nil, or_false] at hn
      show n < 35 + 1; omega
    · show 1 * w_fi ws (n_v (vs ++ [Value.int x]) 2) 159 + 0 ≤ 0
      rw [e_2]
      rw [q2]
      omega
  have nf3 : fc_1 (20, [2], [30, 0, -1, 1, 159]) ws (vs ++ [Value.int x]) := by
    refine ⟨fun n hn => ?_, ?_⟩
    · have hn : n ∈ [2] := hn
      rw [List.length_append, hl]
      simp only [List.mem_cons, List.not_mem_nil, or_false] at hn
      show n < 35 + 1; omega
    · show (-1) * w_fi ws (n_v (vs ++ [Value.int x]) 2) 159 + 0 ≤ 0
      rw [e_2]
      rw [q2]
      omega
  have nf4 : fc_1 (20, [35, 2], [30, -2011, -1, 0, 0, -1, 1, 158]) ws (vs ++ [Value.int x]) := by
    refine ⟨fun n hn => ?_, ?_⟩
    · have hn : n ∈ [35, 2] := hn
      rw [List.length_append, hl]
      simp only [List.mem_cons, List.not_mem_nil, or_false] at hn
      show n < 35 + 1; omega
    · show (-1) * v_iv (n_v (vs ++ [Value.int x]) 35) + ((-1) * w_fi ws (n_v (vs ++ [Value.int x]) 2) 158 + 0) ≤ (-2011)
      rw [e_2]
      rw [e_35]
      rw [q2]
      omega
  have nf5 : fc_1 (24, [0, 2], []) ws (vs ++ [Value.int x]) := by
    refine ⟨fun n hn => ?_, ?_⟩
    · have hn : n ∈ [0, 2] := hn
      rw [List.length_append, hl]
      simp only [List.mem_cons, List.not_mem_nil, or_false] at hn
      show n < 35 + 1; omega
    · show n_v (vs ++ [Value.int x]) 0 = n_v (vs ++ [Value.int x]) 2
      first | rfl | simp only [e_0, e_2, q2]
  obtain ⟨x0, e0, _, _⟩ := tv_int t6 rfl
  have e1 : v_iv (n_v vs 6) = x0.toInt := by rw [e0]; rfl
  have ho : sy_ofs (vs ++ [Value.int x]) (35, 6, 0, 0) := by
    refine ⟨x, x0, by rw [List.getElem?_append_right (by rw [hl]; decide), hl]; rfl, ?_, ?_, ?_⟩
    · rw [List.getElem?_append_left (by rw [hl]; decide)]; exact n_v_some (by rw [hl]; decide) e0
    · show x0.toInt + 0 ≤ x.toInt; omega
    · show x.toInt ≤ x0.toInt + 0; omega
  exact ⟨fun q hq => (by cases hq), [Value.int x], ag_one hx, List.forall_mem_cons.mpr ⟨⟨show (20 : Nat) < 100 from by decide, nf0⟩, List.forall_mem_cons.mpr ⟨⟨show (20 : Nat) < 100 from by decide, nf1⟩, List.forall_mem_cons.mpr ⟨⟨show (20 : Nat) < 100 from by decide, nf2⟩, List.forall_mem_cons.mpr ⟨⟨show (20 : Nat) < 100 from by decide, nf3⟩, List.forall_mem_cons.mpr ⟨⟨show (20 : Nat) < 100 from by decide, nf4⟩, List.forall_mem_cons.mpr ⟨⟨show (24 : Nat) < 100 from by decide, nf5⟩, (fun _ h => (by cases h))⟩⟩⟩⟩⟩⟩, List.forall_mem_cons.mpr ⟨ho, (fun _ h => (by cases h))⟩⟩
def o_Mo_rule_at_f0_41 : or_T := (175, 13, [(0, (2, 0, 0, [150])), (1, (0, 0, 2009, [])), (2, (2, 0, 0, [150])), (6, (0, 0, 2010, [])), (8, (0, 0, 0, [])), (10, (0, 1, 1, [])), (12, (0, 1, 5, []))], [(8, [12], [4]), (9, [12, 2], [8]), (8, [10], [1]), (20, [2], [50, 2, 1, 158, 157, 160, 2, 12, 0, 7, 4, 3, 2, 0, 158, 0, 1, 2, 0, 157, 2, 7, 0, 3, 2, 0, 157, 0, 2010, 3, 14, 1, 10, 3, 0, 160, 5, 3, 2, 0, 157, 0, 1, 0, 0, 1, 10, 3, 0, 160, 5, 3, 2, 0, 157, 0, 1, 0, 4]), (20, [1, 2], [30, 0, 1, 0, 0, -1, 1, 158]), (20, [2], [30, 0, 1, 1, 159]), (20, [2], [30, 0, -1, 1, 159]), (24, [0, 2], []), (20, [6, 2], [30, 2010, 1, 0, 0, 1, 1, 158]), (20, [6, 2], [30, -2010, -1, 0, 0, -1, 1, 158]), (20, [8, 2], [50, 1, 1, 1158, 1160, 4, 6, 1, 2, 1, 0, 0, 1, 1, 6, 3, 1, 160, 2, 1, 158, 0, 1]), (20, [10, 2], [50, 1, 1, 1158, 1160, 4, 6, 1, 2, 1, 0, 0, 1, 1, 6, 3, 1, 160, 2, 1, 158, 0, 1]), (102, [9], [0]), (8, [8], [0])], [], [], [(20, [0], [50, 2, 1, 158, 157, 160, 2, 12, 0, 7, 4, 3, 2, 0, 158, 0, 1, 2, 0, 157, 2, 7, 0, 3, 2, 0, 157, 0, 2010, 3, 14, 1, 10, 3, 0, 160, 5, 3, 2, 0, 157, 0, 1, 0, 0, 1, 10, 3, 0, 160, 5, 3, 2, 0, 157, 0, 1, 0, 4]), (20, [1, 0], [30, 0, 1, 0, 0, -1, 1, 158]), (20, [0], [30, 0, 1, 1, 159]), (20, [0], [30, 0, -1, 1, 159]), (20, [0, 1, 0], [31, 1, -1, -1, 1, 8, -1, 1, 0, 0, -1, 1, 158])], [], [])
theorem oo_Mo_rule_at_f0_41 {kA : Nat → ClassId} : or_ok kA GG o_Mo_rule_at_f0_41 := by
  intro A ta ws vs hD hth hl hk hds hf
  have hl : vs.length = 13 := hl
  have hk : ∀ q ∈ ([(0, (2, 0, 0, [150])), (1, (0, 0, 2009, [])), (2, (2, 0, 0, [150])), (6, (0, 0, 2010, [])), (8, (0, 0, 0, [])), (10, (0, 1, 1, [])), (12, (0, 1, 5, []))] : List (Nat × tv_T)), tv_ok ta q.2 (n_v vs q.1) := hk
  obtain ⟨t0, hk⟩ := List.forall_mem_cons.mp hk
  have t0 : tv_ok ta (2, 0, 0, [150]) (n_v vs 0) := t0
  have r0 : ta (v_ad (n_v vs 0)) = some 150 := tv_rg t0
  obtain ⟨t1, hk⟩ := List.forall_mem_cons.mp hk
  have t1 : tv_ok ta (0, 0, 2009, []) (n_v vs 1) := t1
  have k1 : 0 ≤ v_iv (n_v vs 1) ∧ v_iv (n_v vs 1) ≤ 2009 := tv_rng t1
  obtain ⟨t2, hk⟩ := List.forall_mem_cons.mp hk
  have t2 : tv_ok ta (2, 0, 0, [150]) (n_v vs 2) := t2
  have r2 : ta (v_ad (n_v vs 2)) = some 150 := tv_rg t2
  obtain ⟨t6, hk⟩ := List.forall_mem_cons.mp hk
  have t6 : tv_ok ta (0, 0, 2010, []) (n_v vs 6) := t6
  have k6 : 0 ≤ v_iv (n_v vs 6) ∧ v_iv (n_v vs 6) ≤ 2010 := tv_rng t6
  obtain ⟨t8, hk⟩ := List.forall_mem_cons.mp hk
  have t8 : tv_ok ta (0, 0, 0, []) (n_v vs 8) := t8
  have k8 : 0 ≤ v_iv (n_v vs 8) ∧ v_iv (n_v vs 8) ≤ 0 := tv_rng t8
  obtain ⟨t10, hk⟩ := List.forall_mem_cons.mp hk
  have t10 : tv_ok ta (0, 1, 1, []) (n_v vs 10) := t10
  have k10 : 1 ≤ v_iv (n_v vs 10) ∧ v_iv (n_v vs 10) ≤ 1 := tv_rng t10
  obtain ⟨t12, hk⟩ := List.forall_mem_cons.mp hk
  have t12 : tv_ok ta (0, 1, 5, []) (n_v vs 12) := t12
  have k12 : 1 ≤ v_iv (n_v vs 12) ∧ v_iv (n_v vs 12) ≤ 5 := tv_rng t12
  have hf : fc_ok [(8, [12], [4]), (9, [12, 2], [8]), (8, [10], [1]), (20, [2], [50, 2, 1, 158, 157, 160, 2, 12, 0, 7, 4, 3, 2, 0, 158, 0, 1, 2, 0, 157, 2, 7, 0, 3, 2, 0, 157, 0, 2010, 3, 14, 1, 10, 3, 0, 160, 5, 3, 2, 0, 157, 0, 1, 0, 0, 1, 10, 3, 0, 160, 5, 3, 2, 0, 157, 0, 1, 0, 4]), (20, [1, 2], [30, 0, 1, 0, 0, -1, 1, 158]), (20, [2], [30, 0, 1, 1, 159]), (20, [2], [30, 0, -1, 1, 159]), (24, [0, 2], []), (20, [6, 2], [30, 2010, 1, 0, 0, 1, 1, 158]), (20, [6, 2], [30, -2010, -1, 0, 0, -1, 1, 158]), (20, [8, 2], [50, 1, 1, 1158, 1160, 4, 6, 1, 2, 1, 0, 0, 1, 1, 6, 3, 1, 160, 2, 1, 158, 0, 1]), (20, [10, 2], [50, 1, 1, 1158, 1160, 4, 6, 1, 2, 1, 0, 0, 1, 1, 6, 3, 1, 160, 2, 1, 158, 0, 1]), (102, [9], [0]), (8, [8], [0])] ta ws vs := hf
  obtain ⟨f0, hf⟩ := fc_un (show (8 : Nat) < 100 from by decide) hf
  have f0 : 0 < v_iv (n_v vs 12) := f0
  obtain ⟨f1, hf⟩ := fc_un (show (9 : Nat) < 100 from by decide) hf
  have f1 : n_v vs 12 = w_fd ws (v_ad (n_v vs 2)) 8 := f1
  obtain ⟨f2, hf⟩ := fc_un (show (8 : Nat) < 100 from by decide) hf
  have f2 : v_iv (n_v vs 10) ≠ 0 := f2
  obtain ⟨f3, hf⟩ := fc_un (show (20 : Nat) < 100 from by decide) hf
  have f3 : ((w_fi ws (n_v vs 2) 158 + 1) ≤ w_fi ws (n_v vs 2) 157) ∧ ((w_fi ws (n_v vs 2) 157 ≤ 2010) ∧ ((w_ei ws (w_ar ws (n_v vs 2) 160) ((w_fi ws (n_v vs 2) 157 - 1)) = 0) ∨ (w_ei ws (w_ar ws (n_v vs 2) 160) ((w_fi ws (n_v vs 2) 157 - 1)) = 4))) := f3
  obtain ⟨f4, hf⟩ := fc_un (show (20 : Nat) < 100 from by decide) hf
  have f4 : 1 * v_iv (n_v vs 1) + ((-1) * w_fi ws (n_v vs 2) 158 + 0) ≤ 0 := f4
  obtain ⟨f5, hf⟩ := fc_un (show (20 : Nat) < 100 from by decide) hf
  have f5 : 1 * w_fi ws (n_v vs 2) 159 + 0 ≤ 0 := f5
  obtain ⟨f6, hf⟩ := fc_un (show (20 : Nat) < 100 from by decide) hf
  have f6 : (-1) * w_fi ws (n_v vs 2) 159 + 0 ≤ 0 := f6
  obtain ⟨f7, hf⟩ := fc_un (show (24 : Nat) < 100 from by decide) hf
  have f7 : n_v vs 0 = n_v vs 2 := f7
  obtain ⟨f8, hf⟩ := fc_un (show (20 : Nat) < 100 from by decide) hf
  have f8 : 1 * v_iv (n_v vs 6) + (1 * w_fi ws (n_v vs 2) 158 + 0) ≤ 2010 := f8
  obtain ⟨f9, hf⟩ := fc_un (show (20 : Nat) < 100 from by decide) hf
  have f9 : (-1) * v_iv (n_v vs 6) + ((-1) * w_fi ws (n_v vs 2) 158 + 0) ≤ (-2010) := f9
  obtain ⟨f10, hf⟩ := fc_un (show (20 : Nat) < 100 from by decide) hf
  have f10 : (v_iv (n_v vs 8) = 1) → (w_ei ws (w_ar ws (n_v vs 2) 160) (w_fi ws (n_v vs 2) 158) = 1) := f10
  obtain ⟨f11, hf⟩ := fc_un (show (20 : Nat) < 100 from by decide) hf
  have f11 : (v_iv (n_v vs 10) = 1) → (w_ei ws (w_ar ws (n_v vs 2) 160) (w_fi ws (n_v vs 2) 158) = 1) := f11
  obtain ⟨ta1, w1, le1, ⟨_, s1⟩, hf⟩ := fc_us (show ¬ (102 : Nat) < 100 from by decide) hf
  obtain ⟨f13, hf⟩ := fc_un (show (8 : Nat) < 100 from by decide) hf
  have f13 : v_iv (n_v vs 8) = 0 := f13
  have q2 : n_v vs 2 = n_v vs 0 := f7.symm
  rw [q2] at f1
  rw [q2] at f3
  rw [q2] at f4
  rw [q2] at f5
  rw [q2] at f6
  rw [q2] at f8
  rw [q2] at f9
  rw [q2] at f10
  rw [q2] at f11
  have cr_0_160 : ta (w_ar ws (n_v vs 0) 160) = some 259 := tv_rg (th_fd hD hth r0 (g := GG_150) rfl (k := 160) (t := (2, 0, 0, [259])) rfl rfl)
  have g1 : v_iv (n_v vs 12) = w_fi ws (n_v vs 0) 8 := congrArg v_iv f1
  have hK_0_160 : ∀ j : Int, 0 ≤ j → j < 2010 → 0 ≤ w_ei ws (w_ar ws (n_v vs 0) 160) j ∧ w_ei ws (w_ar ws (n_v vs 0) 160) j ≤ 4 := fun j h0 h1 => th_el hD hth cr_0_160 (kd := 0) (n := 2010) (m := 2010) (lo := 0) (hi := 4) (rs := []) (L := []) rfl (by decide) (j := j.toNat) (by omega)
  have kz_0_8 : 0 ≤ w_fi ws (n_v vs 0) 8 ∧ w_fi ws (n_v vs 0) 8 ≤ 5 := tv_rng (th_fd hD hth r0 (g := GG_150) rfl (k := 8) (t := (0, 0, 5, [])) rfl rfl)
  have kz_0_157 : 0 ≤ w_fi ws (n_v vs 0) 157 ∧ w_fi ws (n_v vs 0) 157 ≤ 2010 := tv_rng (th_fd hD hth r0 (g := GG_150) rfl (k := 157) (t := (0, 0, 2010, [])) rfl rfl)
  have kz_0_158 : 0 ≤ w_fi ws (n_v vs 0) 158 ∧ w_fi ws (n_v vs 0) 158 ≤ 2009 := tv_rng (th_fd hD hth r0 (g := GG_150) rfl (k := 158) (t := (0, 0, 2009, [])) rfl rfl)
  have kz_0_159 : 0 ≤ w_fi ws (n_v vs 0) 159 ∧ w_fi ws (n_v vs 0) 159 ≤ 13 := tv_rng (th_fd hD hth r0 (g := GG_150) rfl (k := 159) (t := (0, 0, 13, [])) rfl rfl)
  have nf0 : fc_1 (20, [0], [50, 2, 1, 158, 157, 160, 2, 12, 0, 7, 4, 3, 2, 0, 158, 0, 1, 2, 0, 157, 2, 7, 0, 3, 2, 0, 157, 0, 2010, 3, 14, 1, 10, 3, 0, 160, 5, 3, 2, 0, 157, 0, 1, 0, 0, 1, 10, 3, 0, 160, 5, 3, 2, 0, 157, 0, 1, 0, 4]) ws (vs) := by
    refine ⟨fun n hn => ?_, ?_⟩
    · have hn : n ∈ [0] := hn
      rw [hl]
      simp only [List.mem_cons, List.not_mem_nil, or_false] at hn
      show n < 13; omega
    · show ((w_fi ws (n_v vs 0) 158 + 1) ≤ w_fi ws (n_v vs 0) 157) ∧ ((w_fi ws (n_v vs 0) 157 ≤ 2010) ∧ ((w_ei ws (w_ar ws (n_v vs 0) 160) ((w_fi ws (n_v vs 0) 157 - 1)) = 0) ∨ (w_ei ws (w_ar ws (n_v vs 0) 160) ((w_fi ws (n_v vs 0) 157 - 1)) = 4)))
      first | omega | grind
  have nf1 : fc_1 (20, [1, 0], [30, 0, 1, 0, 0, -1, 1, 158]) ws (vs) := by
    refine ⟨fun n hn => ?_, ?_⟩
    · have hn : n ∈ [1, 0] := hn
      rw [hl]
      simp only [List.mem_cons, List.not_mem_nil, or_false] at hn
      show n < 13; omega
    · show 1 * v_iv (n_v vs 1) + ((-1) * w_fi ws (n_v vs 0) 158 + 0) ≤ 0
      omega
  have nf2 : fc_1 (20, [0], [30, 0, 1, 1, 159]) ws (vs) := by
    refine ⟨fun n hn => ?_, ?_⟩
    · have hn : n ∈ [0] := hn
      rw [hl]
      simp only [List.mem_cons, List.not_mem_nil, or_false] at hn
      show n < 13; omega
    · show 1 * w_fi ws (n_v vs 0) 159 + 0 ≤ 0
      omega
  have nf3 : fc_1 (20, [0], [30, 0, -1, 1, 159]) ws (vs) := by
    refine ⟨fun n hn => ?_, ?_⟩
    · have hn : n ∈ [0] := hn
      rw [hl]
      simp only [List.mem_cons, List.not_mem_nil, or_false] at hn
      show n < 13; omega
    · show (-1) * w_fi ws (n_v vs 0) 159 + 0 ≤ 0
      omega
  have nf4 : fc_1 (20, [0, 1, 0], [31, 1, -1, -1, 1, 8, -1, 1, 0, 0, -1, 1, 158]) ws (vs) := by
    refine ⟨fun n hn => ?_, ?_⟩
    · have hn : n ∈ [0, 1, 0] := hn
      rw [hl]
      simp only [List.mem_cons, List.not_mem_nil, or_false] at hn
      show n < 13; omega
    · show ((-1) * w_fi ws (n_v vs 0) 8 + 0 ≤ (-1)) ∨ (1 * v_iv (n_v vs 1) + ((-1) * w_fi ws (n_v vs 0) 158 + 0) ≤ (-1))
      omega
  refine ⟨(fun _ h => (by cases h)), [], trivial, ?_, (fun _ h => (by cases h))⟩
  rw [List.append_nil]
  exact List.forall_mem_cons.mpr ⟨⟨show (20 : Nat) < 100 from by decide, nf0⟩, List.forall_mem_cons.mpr ⟨⟨show (20 : Nat) < 100 from by decide, nf1⟩, List.forall_mem_cons.mpr ⟨⟨show (20 : Nat) < 100 from by decide, nf2⟩, List.forall_mem_cons.mpr ⟨⟨show (20 : Nat) < 100 from by decide, nf3⟩, List.forall_mem_cons.mpr ⟨⟨show (20 : Nat) < 100 from by decide, nf4⟩, (fun _ h => (by cases h))⟩⟩⟩⟩⟩
def o_Mo_rule_at_f0_42 : or_T := (176, 11, [(0, (2, 0, 0, [150])), (1, (0, 0, 2009, [])), (2, (2, 0, 0, [150])), (6, (0, 0, 2010, [])), (8, (0, 1, 1, [])), (9, (0, 0, 0, []))], [(8, [9], [3]), (8, [8], [1]), (20, [2], [50, 2, 1, 158, 157, 160, 2, 12, 0, 7, 4, 3, 2, 0, 158, 0, 1, 2, 0, 157, 2, 7, 0, 3, 2, 0, 157, 0, 2010, 3, 14, 1, 10, 3, 0, 160, 5, 3, 2, 0, 157, 0, 1, 0, 0, 1, 10, 3, 0, 160, 5, 3, 2, 0, 157, 0, 1, 0, 4]), (20, [1, 2], [30, 0, 1, 0, 0, -1, 1, 158]), (20, [2], [30, 0, 1, 1, 159]), (20, [2], [30, 0, -1, 1, 159]), (24, [0, 2], []), (20, [6, 2], [30, 2010, 1, 0, 0, 1, 1, 158]), (20, [6, 2], [30, -2010, -1, 0, 0, -1, 1, 158]), (20, [8, 2], [50, 1, 1, 1158, 1160, 4, 6, 1, 2, 1, 0, 0, 1, 1, 6, 3, 1, 160, 2, 1, 158, 0, 1])], [], [], [(23, [9], [0, -1])], [], [])
theorem oo_Mo_rule_at_f0_42 {kA : Nat → ClassId} : or_ok kA GG o_Mo_rule_at_f0_42 := by
  intro A ta ws vs hD hth hl hk hds hf
  have hl : vs.length = 11 := hl
  have hk : ∀ q ∈ ([(0, (2, 0, 0, [150])), (1, (0, 0, 2009, [])), (2, (2, 0, 0, [150])), (6, (0, 0, 2010, [])), (8, (0, 1, 1, [])), (9, (0, 0, 0, []))] : List (Nat × tv_T)), tv_ok ta q.2 (n_v vs q.1) := hk
  obtain ⟨t0, hk⟩ := List.forall_mem_cons.mp hk
  have t0 : tv_ok ta (2, 0, 0, [150]) (n_v vs 0) := t0
  have r0 : ta (v_ad (n_v vs 0)) = some 150 := tv_rg t0
  obtain ⟨t1, hk⟩ := List.forall_mem_cons.mp hk
  have t1 : tv_ok ta (0, 0, 2009, []) (n_v vs 1) := t1
  have k1 : 0 ≤ v_iv (n_v vs 1) ∧ v_iv (n_v vs 1) ≤ 2009 := tv_rng t1
  obtain ⟨t2, hk⟩ := List.forall_mem_cons.mp hk
  have t2 : tv_ok ta (2, 0, 0, [150]) (n_v vs 2) := t2
  have r2 : ta (v_ad (n_v vs 2)) = some 150 := tv_rg t2
  obtain ⟨t6, hk⟩ := List.forall_mem_cons.mp hk
  have t6 : tv_ok ta (0, 0, 2010, []) (n_v vs 6) := t6
  have k6 : 0 ≤ v_iv (n_v vs 6) ∧ v_iv (n_v vs 6) ≤ 2010 := tv_rng t6
  obtain ⟨t8, hk⟩ := List.forall_mem_cons.mp hk
  have t8 : tv_ok ta (0, 1, 1, []) (n_v vs 8) := t8
  have k8 : 1 ≤ v_iv (n_v vs 8) ∧ v_iv (n_v vs 8) ≤ 1 := tv_rng t8
  obtain ⟨t9, hk⟩ := List.forall_mem_cons.mp hk
  have t9 : tv_ok ta (0, 0, 0, []) (n_v vs 9) := t9
  have k9 : 0 ≤ v_iv (n_v vs 9) ∧ v_iv (n_v vs 9) ≤ 0 := tv_rng t9
  have hf : fc_ok [(8, [9], [3]), (8, [8], [1]), (20, [2], [50, 2, 1, 158, 157, 160, 2, 12, 0, 7, 4, 3, 2, 0, 158, 0, 1, 2, 0, 157, 2, 7, 0, 3, 2, 0, 157, 0, 2010, 3, 14, 1, 10, 3, 0, 160, 5, 3, 2, 0, 157, 0, 1, 0, 0, 1, 10, 3, 0, 160, 5, 3, 2, 0, 157, 0, 1, 0, 4]), (20, [1, 2], [30, 0, 1, 0, 0, -1, 1, 158]), (20, [2], [30, 0, 1, 1, 159]), (20, [2], [30, 0, -1, 1, 159]), (24, [0, 2], []), (20, [6, 2], [30, 2010, 1, 0, 0, 1, 1, 158]), (20, [6, 2], [30, -2010, -1, 0, 0, -1, 1, 158]), (20, [8, 2], [50, 1, 1, 1158, 1160, 4, 6, 1, 2, 1, 0, 0, 1, 1, 6, 3, 1, 160, 2, 1, 158, 0, 1])] ta ws vs := hf
  obtain ⟨f0, hf⟩ := fc_un (show (8 : Nat) < 100 from by decide) hf
  have f0 : 0 ≤ v_iv (n_v vs 9) := f0
  obtain ⟨f1, hf⟩ := fc_un (show (8 : Nat) < 100 from by decide) hf
  have f1 : v_iv (n_v vs 8) ≠ 0 := f1
  obtain ⟨f2, hf⟩ := fc_un (show (20 : Nat) < 100 from by decide) hf
  have f2 : ((w_fi ws (n_v vs 2) 158 + 1) ≤ w_fi ws (n_v vs 2) 157) ∧ ((w_fi ws (n_v vs 2) 157 ≤ 2010) ∧ ((w_ei ws (w_ar ws (n_v vs 2) 160) ((w_fi ws (n_v vs 2) 157 - 1)) = 0) ∨ (w_ei ws (w_ar ws (n_v vs 2) 160) ((w_fi ws (n_v vs 2) 157 - 1)) = 4))) := f2
  obtain ⟨f3, hf⟩ := fc_un (show (20 : Nat) < 100 from by decide) hf
  have f3 : 1 * v_iv (n_v vs 1) + ((-1) * w_fi ws (n_v vs 2) 158 + 0) ≤ 0 := f3
  obtain ⟨f4, hf⟩ := fc_un (show (20 : Nat) < 100 from by decide) hf
  have f4 : 1 * w_fi ws (n_v vs 2) 159 + 0 ≤ 0 := f4
  obtain ⟨f5, hf⟩ := fc_un (show (20 : Nat) < 100 from by decide) hf
  have f5 : (-1) * w_fi ws (n_v vs 2) 159 + 0 ≤ 0 := f5
  obtain ⟨f6, hf⟩ := fc_un (show (24 : Nat) < 100 from by decide) hf
  have f6 : n_v vs 0 = n_v vs 2 := f6
  obtain ⟨f7, hf⟩ := fc_un (show (20 : Nat) < 100 from by decide) hf
  have f7 : 1 * v_iv (n_v vs 6) + (1 * w_fi ws (n_v vs 2) 158 + 0) ≤ 2010 := f7
  obtain ⟨f8, hf⟩ := fc_un (show (20 : Nat) < 100 from by decide) hf
  have f8 : (-1) * v_iv (n_v vs 6) + ((-1) * w_fi ws (n_v vs 2) 158 + 0) ≤ (-2010) := f8
  obtain ⟨f9, hf⟩ := fc_un (show (20 : Nat) < 100 from by decide) hf
  have f9 : (v_iv (n_v vs 8) = 1) → (w_ei ws (w_ar ws (n_v vs 2) 160) (w_fi ws (n_v vs 2) 158) = 1) := f9
  have q2 : n_v vs 2 = n_v vs 0 := f6.symm
  rw [q2] at f2
  rw [q2] at f3
  rw [q2] at f4
  rw [q2] at f5
  rw [q2] at f7
  rw [q2] at f8
  rw [q2] at f9
  have cr_0_160 : ta (w_ar ws (n_v vs 0) 160) = some 259 := tv_rg (th_fd hD hth r0 (g := GG_150) rfl (k := 160) (t := (2, 0, 0, [259])) rfl rfl)
  have hK_0_160 : ∀ j : Int, 0 ≤ j → j < 2010 → 0 ≤ w_ei ws (w_ar ws (n_v vs 0) 160) j ∧ w_ei ws (w_ar ws (n_v vs 0) 160) j ≤ 4 := fun j h0 h1 => th_el hD hth cr_0_160 (kd := 0) (n := 2010) (m := 2010) (lo := 0) (hi := 4) (rs := []) (L := []) rfl (by decide) (j := j.toNat) (by omega)
  have kz_0_157 : 0 ≤ w_fi ws (n_v vs 0) 157 ∧ w_fi ws (n_v vs 0) 157 ≤ 2010 := tv_rng (th_fd hD hth r0 (g := GG_150) rfl (k := 157) (t := (0, 0, 2010, [])) rfl rfl)
  have kz_0_158 : 0 ≤ w_fi ws (n_v vs 0) 158 ∧ w_fi ws (n_v vs 0) 158 ≤ 2009 := tv_rng (th_fd hD hth r0 (g := GG_150) rfl (k := 158) (t := (0, 0, 2009, [])) rfl rfl)
  have kz_0_159 : 0 ≤ w_fi ws (n_v vs 0) 159 ∧ w_fi ws (n_v vs 0) 159 ≤ 13 := tv_rng (th_fd hD hth r0 (g := GG_150) rfl (k := 159) (t := (0, 0, 13, [])) rfl rfl)
  have nf0 : fc_1 (23, [9], [0, -1]) ws (vs) := by
    refine ⟨fun n hn => ?_, ?_⟩
    · have hn : n ∈ [9] := hn
      rw [hl]
      simp only [List.mem_cons, List.not_mem_nil, or_false] at hn
      show n < 11; omega
    · show (-1) * v_iv (n_v vs 9) + 0 ≤ 0
      omega
  refine ⟨(fun _ h => (by cases h)), [], trivial, ?_, (fun _ h => (by cases h))⟩
  rw [List.append_nil]
  exact List.forall_mem_cons.mpr ⟨⟨show (23 : Nat) < 100 from by decide, nf0⟩, (fun _ h => (by cases h))⟩
def o_Mo_rule_at_f0_43 : or_T := (183, 13, [(0, (2, 0, 0, [150])), (1, (0, 0, 2009, [])), (2, (2, 0, 0, [150])), (5, (0, 0, 2009, [])), (6, (0, 0, 2010, [])), (8, (0, 1, 1, [])), (11, (0, 1, 1, [])), (12, (0, 1, 2010, []))], [(1, [12, 5, 11], []), (9, [5, 2], [158]), (8, [8], [1]), (20, [2], [50, 2, 1, 158, 157, 160, 2, 12, 0, 7, 4, 3, 2, 0, 158, 0, 1, 2, 0, 157, 2, 7, 0, 3, 2, 0, 157, 0, 2010, 3, 14, 1, 10, 3, 0, 160, 5, 3, 2, 0, 157, 0, 1, 0, 0, 1, 10, 3, 0, 160, 5, 3, 2, 0, 157, 0, 1, 0, 4]), (20, [1, 2], [30, 0, 1, 0, 0, -1, 1, 158]), (20, [2], [30, 0, 1, 1, 159]), (20, [2], [30, 0, -1, 1, 159]), (24, [0, 2], []), (20, [6, 2], [30, 2010, 1, 0, 0, 1, 1, 158]), (20, [6, 2], [30, -2010, -1, 0, 0, -1, 1, 158]), (20, [8, 2], [50, 1, 1, 1158, 1160, 4, 6, 1, 2, 1, 0, 0, 1, 1, 6, 3, 1, 160, 2, 1, 158, 0, 1])], [(12, (0, 1, 2009, []))], [], [], [], [(12, 5, 1, 1), (12, 1, -4294967296, 2010), (1, 5, -4294967296, 2009), (5, 1, -4294967296, 2009)])
theorem oo_Mo_rule_at_f0_43 {kA : Nat → ClassId} : or_ok kA GG o_Mo_rule_at_f0_43 := by
  intro A ta ws vs hD hth hl hk hds hf
  have hl : vs.length = 13 := hl
  have hk : ∀ q ∈ ([(0, (2, 0, 0, [150])), (1, (0, 0, 2009, [])), (2, (2, 0, 0, [150])), (5, (0, 0, 2009, [])), (6, (0, 0, 2010, [])), (8, (0, 1, 1, [])), (11, (0, 1, 1, [])), (12, (0, 1, 2010, []))] : List (Nat × tv_T)), tv_ok ta q.2 (n_v vs q.1) := hk
  obtain ⟨t0, hk⟩ := List.forall_mem_cons.mp hk
  have t0 : tv_ok ta (2, 0, 0, [150]) (n_v vs 0) := t0
  have r0 : ta (v_ad (n_v vs 0)) = some 150 := tv_rg t0
  obtain ⟨t1, hk⟩ := List.forall_mem_cons.mp hk
  have t1 : tv_ok ta (0, 0, 2009, []) (n_v vs 1) := t1
  have k1 : 0 ≤ v_iv (n_v vs 1) ∧ v_iv (n_v vs 1) ≤ 2009 := tv_rng t1
  obtain ⟨t2, hk⟩ := List.forall_mem_cons.mp hk
  have t2 : tv_ok ta (2, 0, 0, [150]) (n_v vs 2) := t2
  have r2 : ta (v_ad (n_v vs 2)) = some 150 := tv_rg t2
  obtain ⟨t5, hk⟩ := List.forall_mem_cons.mp hk
  have t5 : tv_ok ta (0, 0, 2009, []) (n_v vs 5) := t5
  have k5 : 0 ≤ v_iv (n_v vs 5) ∧ v_iv (n_v vs 5) ≤ 2009 := tv_rng t5
  obtain ⟨t6, hk⟩ := List.forall_mem_cons.mp hk
  have t6 : tv_ok ta (0, 0, 2010, []) (n_v vs 6) := t6
  have k6 : 0 ≤ v_iv (n_v vs 6) ∧ v_iv (n_v vs 6) ≤ 2010 := tv_rng t6
  obtain ⟨t8, hk⟩ := List.forall_mem_cons.mp hk
  have t8 : tv_ok ta (0, 1, 1, []) (n_v vs 8) := t8
  have k8 : 1 ≤ v_iv (n_v vs 8) ∧ v_iv (n_v vs 8) ≤ 1 := tv_rng t8
  obtain ⟨t11, hk⟩ := List.forall_mem_cons.mp hk
  have t11 : tv_ok ta (0, 1, 1, []) (n_v vs 11) := t11
  have k11 : 1 ≤ v_iv (n_v vs 11) ∧ v_iv (n_v vs 11) ≤ 1 := tv_rng t11
  obtain ⟨t12, hk⟩ := List.forall_mem_cons.mp hk
  have t12 : tv_ok ta (0, 1, 2010, []) (n_v vs 12) := t12
  have k12 : 1 ≤ v_iv (n_v vs 12) ∧ v_iv (n_v vs 12) ≤ 2010 := tv_rng t12
  have hds : ∀ q ∈ ([(12, 5, 1, 1), (12, 1, -4294967296, 2010), (1, 5, -4294967296, 2009), (5, 1, -4294967296, 2009)] : List of_T), n_iv vs q.2.1 + q.2.2.1 ≤ n_iv vs q.1 ∧ n_iv vs q.1 ≤ n_iv vs q.2.1 + q.2.2.2 := hds
  obtain ⟨d0, hds⟩ := List.forall_mem_cons.mp hds
  have d0 : v_iv (n_v vs 5) + 1 ≤ v_iv (n_v vs 12) ∧ v_iv (n_v vs 12) ≤ v_iv (n_v vs 5) + 1 := d0
  obtain ⟨d1, hds⟩ := List.forall_mem_cons.mp hds
  have d1 : v_iv (n_v vs 1) + (-4294967296) ≤ v_iv (n_v vs 12) ∧ v_iv (n_v vs 12) ≤ v_iv (n_v vs 1) + 2010 := d1
  obtain ⟨d2, hds⟩ := List.forall_mem_cons.mp hds
  have d2 : v_iv (n_v vs 5) + (-4294967296) ≤ v_iv (n_v vs 1) ∧ v_iv (n_v vs 1) ≤ v_iv (n_v vs 5) + 2009 := d2
  obtain ⟨d3, hds⟩ := List.forall_mem_cons.mp hds
  have d3 : v_iv (n_v vs 1) + (-4294967296) ≤ v_iv (n_v vs 5) ∧ v_iv (n_v vs 5) ≤ v_iv (n_v vs 1) + 2009 := d3
  have hf : fc_ok [(1, [12, 5, 11], []), (9, [5, 2], [158]), (8, [8], [1]), (20, [2], [50, 2, 1, 158, 157, 160, 2, 12, 0, 7, 4, 3, 2, 0, 158, 0, 1, 2, 0, 157, 2, 7, 0, 3, 2, 0, 157, 0, 2010, 3, 14, 1, 10, 3, 0, 160, 5, 3, 2, 0, 157, 0, 1, 0, 0, 1, 10, 3, 0, 160, 5, 3, 2, 0, 157, 0, 1, 0, 4]), (20, [1, 2], [30, 0, 1, 0, 0, -1, 1, 158]), (20, [2], [30, 0, 1, 1, 159]), (20, [2], [30, 0, -1, 1, 159]), (24, [0, 2], []), (20, [6, 2], [30, 2010, 1, 0, 0, 1, 1, 158]), (20, [6, 2], [30, -2010, -1, 0, 0, -1, 1, 158]), (20, [8, 2], [50, 1, 1, 1158, 1160, 4, 6, 1, 2, 1, 0, 0, 1, 1, 6, 3, 1, 160, 2, 1, 158, 0, 1])] ta ws vs := hf
  obtain ⟨f0, hf⟩ := fc_un (show (1 : Nat) < 100 from by decide) hf
  have f0 : v_iv (n_v vs 12) = v_iv (n_v vs 5) + v_iv (n_v vs 11) := f0
  obtain ⟨f1, hf⟩ := fc_un (show (9 : Nat) < 100 from by decide) hf
  have f1 : n_v vs 5 = w_fd ws (v_ad (n_v vs 2)) 158 := f1
  obtain ⟨f2, hf⟩ := fc_un (show (8 : Nat) < 100 from by decide) hf
  have f2 : v_iv (n_v vs 8) ≠ 0 := f2
  obtain ⟨f3, hf⟩ := fc_un (show (20 : Nat) < 100 from by decide) hf
  have f3 : ((w_fi ws (n_v vs 2) 158 + 1) ≤ w_fi ws (n_v vs 2) 157) ∧ ((w_fi ws (n_v vs 2) 157 ≤ 2010) ∧ ((w_ei ws (w_ar ws (n_v vs 2) 160) ((w_fi ws (n_v vs 2) 157 - 1)) = 0) ∨ (w_ei ws (w_ar ws (n_v vs 2) 160) ((w_fi ws (n_v vs 2) 157 - 1)) = 4))) := f3
  obtain ⟨f4, hf⟩ := fc_un (show (20 : Nat) < 100 from by decide) hf
  have f4 : 1 * v_iv (n_v vs 1) + ((-1) * w_fi ws (n_v vs 2) 158 + 0) ≤ 0 := f4
  obtain ⟨f5, hf⟩ := fc_un (show (20 : Nat) < 100 from by decide) hf
  have f5 : 1 * w_fi ws (n_v vs 2) 159 + 0 ≤ 0 := f5
  obtain ⟨f6, hf⟩ := fc_un (show (20 : Nat) < 100 from by decide) hf
  have f6 : (-1) * w_fi ws (n_v vs 2) 159 + 0 ≤ 0 := f6
  obtain ⟨f7, hf⟩ := fc_un (show (24 : Nat) < 100 from by decide) hf
  have f7 : n_v vs 0 = n_v vs 2 := f7
  obtain ⟨f8, hf⟩ := fc_un (show (20 : Nat) < 100 from by decide) hf
  have f8 : 1 * v_iv (n_v vs 6) + (1 * w_fi ws (n_v vs 2) 158 + 0) ≤ 2010 := f8
  obtain ⟨f9, hf⟩ := fc_un (show (20 : Nat) < 100 from by decide) hf
  have f9 : (-1) * v_iv (n_v vs 6) + ((-1) * w_fi ws (n_v vs 2) 158 + 0) ≤ (-2010) := f9
  obtain ⟨f10, hf⟩ := fc_un (show (20 : Nat) < 100 from by decide) hf
  have f10 : (v_iv (n_v vs 8) = 1) → (w_ei ws (w_ar ws (n_v vs 2) 160) (w_fi ws (n_v vs 2) 158) = 1) := f10
  have q2 : n_v vs 2 = n_v vs 0 := f7.symm
  rw [q2] at f1
  rw [q2] at f3
  rw [q2] at f4
  rw [q2] at f5
  rw [q2] at f6
  rw [q2] at f8
  rw [q2] at f9
  rw [q2] at f10
  have cr_0_160 : ta (w_ar ws (n_v vs 0) 160) = some 259 := tv_rg (th_fd hD hth r0 (g := GG_150) rfl (k := 160) (t := (2, 0, 0, [259])) rfl rfl)
  have g1 : v_iv (n_v vs 5) = w_fi ws (n_v vs 0) 158 := congrArg v_iv f1
  have hK_0_160 : ∀ j : Int, 0 ≤ j → j < 2010 → 0 ≤ w_ei ws (w_ar ws (n_v vs 0) 160) j ∧ w_ei ws (w_ar ws (n_v vs 0) 160) j ≤ 4 := fun j h0 h1 => th_el hD hth cr_0_160 (kd := 0) (n := 2010) (m := 2010) (lo := 0) (hi := 4) (rs := []) (L := []) rfl (by decide) (j := j.toNat) (by omega)
  have kz_0_157 : 0 ≤ w_fi ws (n_v vs 0) 157 ∧ w_fi ws (n_v vs 0) 157 ≤ 2010 := tv_rng (th_fd hD hth r0 (g := GG_150) rfl (k := 157) (t := (0, 0, 2010, [])) rfl rfl)
  have kz_0_158 : 0 ≤ w_fi ws (n_v vs 0) 158 ∧ w_fi ws (n_v vs 0) 158 ≤ 2009 := tv_rng (th_fd hD hth r0 (g := GG_150) rfl (k := 158) (t := (0, 0, 2009, [])) rfl rfl)
  have kz_0_159 : 0 ≤ w_fi ws (n_v vs 0) 159 ∧ w_fi ws (n_v vs 0) 159 ≤ 13 := tv_rng (th_fd hD hth r0 (g := GG_150) rfl (k := 159) (t := (0, 0, 13, [])) rfl rfl)
  have rf12 : tv_ok ta (0, 1, 2009, []) (n_v vs 12) := tv_in t12 (by first | omega | grind) (by first | omega | grind)
  refine ⟨List.forall_mem_cons.mpr ⟨rf12, (fun _ h => (by cases h))⟩, [], trivial, ?_, (fun _ h => (by cases h))⟩
  rw [List.append_nil]
  exact (fun _ h => (by cases h))
def o_Mo_rule_at_f0_44 : or_T := (189, 14, [(0, (2, 0, 0, [150])), (1, (0, 0, 2009, [])), (2, (2, 0, 0, [150])), (5, (0, 0, 2009, [])), (6, (0, 0, 2010, [])), (8, (0, 1, 1, [])), (11, (0, 1, 1, [])), (12, (0, 1, 2009, []))], [(20, [2], [30, 0, 1, 1, 159]), (20, [2], [30, 0, -1, 1, 159]), (24, [0, 2], []), (101, [2, 12], [158]), (1, [12, 5, 11], []), (9, [5, 2], [158]), (8, [8], [1]), (20, [2], [50, 2, 1, 158, 157, 160, 2, 12, 0, 7, 4, 3, 2, 0, 158, 0, 1, 2, 0, 157, 2, 7, 0, 3, 2, 0, 157, 0, 2010, 3, 14, 1, 10, 3, 0, 160, 5, 3, 2, 0, 157, 0, 1, 0, 0, 1, 10, 3, 0, 160, 5, 3, 2, 0, 157, 0, 1, 0, 4]), (20, [1, 2], [30, 0, 1, 0, 0, -1, 1, 158]), (20, [2], [30, 0, 1, 1, 159]), (20, [2], [30, 0, -1, 1, 159]), (20, [6, 2], [30, 2010, 1, 0, 0, 1, 1, 158]), (20, [6, 2], [30, -2010, -1, 0, 0, -1, 1, 158]), (20, [8, 2], [50, 1, 1, 1158, 1160, 4, 6, 1, 2, 1, 0, 0, 1, 1, 6, 3, 1, 160, 2, 1, 158, 0, 1])], [], [(0, 0, 2009, [])], [(20, [2], [50, 2, 1, 158, 157, 160, 2, 12, 0, 7, 4, 3, 2, 0, 158, 0, 1, 2, 0, 157, 2, 7, 0, 3, 2, 0, 157, 0, 2010, 3, 14, 1, 10, 3, 0, 160, 5, 3, 2, 0, 157, 0, 1, 0, 0, 1, 10, 3, 0, 160, 5, 3, 2, 0, 157, 0, 1, 0, 4]), (20, [2, 14], [30, 0, 1, 1, 158, -1, 0, 0]), (20, [2, 14], [30, 0, -1, 1, 158, 1, 0, 0]), (23, [1, 14], [0, 1, -1]), (23, [6, 14], [-2011, -1, -1])], [], [(12, 5, 1, 1), (12, 1, -4294967296, 2010), (1, 5, -4294967296, 2009), (5, 1, -4294967296, 2009)])
theorem oo_Mo_rule_at_f0_44 {kA : Nat → ClassId} : or_ok kA GG o_Mo_rule_at_f0_44 := by
  intro A ta ws vs hD hth hl hk hds hf
  have hl : vs.length = 14 := hl
  have hk : ∀ q ∈ ([(0, (2, 0, 0, [150])), (1, (0, 0, 2009, [])), (2, (2, 0, 0, [150])), (5, (0, 0, 2009, [])), (6, (0, 0, 2010, [])), (8, (0, 1, 1, [])), (11, (0, 1, 1, [])), (12, (0, 1, 2009, []))] : List (Nat × tv_T)), tv_ok ta q.2 (n_v vs q.1) := hk
  obtain ⟨t0, hk⟩ := List.forall_mem_cons.mp hk
  have t0 : tv_ok ta (2, 0, 0, [150]) (n_v vs 0) := t0
  have r0 : ta (v_ad (n_v vs 0)) = some 150 := tv_rg t0
  obtain ⟨t1, hk⟩ := List.forall_mem_cons.mp hk
  have t1 : tv_ok ta (0, 0, 2009, []) (n_v vs 1) := t1
  have k1 : 0 ≤ v_iv (n_v vs 1) ∧ v_iv (n_v vs 1) ≤ 2009 := tv_rng t1
  obtain ⟨t2, hk⟩ := List.forall_mem_cons.mp hk
  have t2 : tv_ok ta (2, 0, 0, [150]) (n_v vs 2) := t2
  have r2 : ta (v_ad (n_v vs 2)) = some 150 := tv_rg t2
  obtain ⟨t5, hk⟩ := List.forall_mem_cons.mp hk
  have t5 : tv_ok ta (0, 0, 2009, []) (n_v vs 5) := t5
  have k5 : 0 ≤ v_iv (n_v vs 5) ∧ v_iv (n_v vs 5) ≤ 2009 := tv_rng t5
  obtain ⟨t6, hk⟩ := List.forall_mem_cons.mp hk
  have t6 : tv_ok ta (0, 0, 2010, []) (n_v vs 6) := t6
  have k6 : 0 ≤ v_iv (n_v vs 6) ∧ v_iv (n_v vs 6) ≤ 2010 := tv_rng t6
  obtain ⟨t8, hk⟩ := List.forall_mem_cons.mp hk
  have t8 : tv_ok ta (0, 1, 1, []) (n_v vs 8) := t8
  have k8 : 1 ≤ v_iv (n_v vs 8) ∧ v_iv (n_v vs 8) ≤ 1 := tv_rng t8
  obtain ⟨t11, hk⟩ := List.forall_mem_cons.mp hk
  have t11 : tv_ok ta (0, 1, 1, []) (n_v vs 11) := t11
  have k11 : 1 ≤ v_iv (n_v vs 11) ∧ v_iv (n_v vs 11) ≤ 1 := tv_rng t11
  obtain ⟨t12, hk⟩ := List.forall_mem_cons.mp hk
  have t12 : tv_ok ta (0, 1, 2009, []) (n_v vs 12) := t12
  have k12 : 1 ≤ v_iv (n_v vs 12) ∧ v_iv (n_v vs 12) ≤ 2009 := tv_rng t12
  have hds : ∀ q ∈ ([(12, 5, 1, 1), (12, 1, -4294967296, 2010), (1, 5, -4294967296, 2009), (5, 1, -4294967296, 2009)] : List of_T), n_iv vs q.2.1 + q.2.2.1 ≤ n_iv vs q.1 ∧ n_iv vs q.1 ≤ n_iv vs q.2.1 + q.2.2.2 := hds
  obtain ⟨d0, hds⟩ := List.forall_mem_cons.mp hds
  have d0 : v_iv (n_v vs 5) + 1 ≤ v_iv (n_v vs 12) ∧ v_iv (n_v vs 12) ≤ v_iv (n_v vs 5) + 1 := d0
  obtain ⟨d1, hds⟩ := List.forall_mem_cons.mp hds
  have d1 : v_iv (n_v vs 1) + (-4294967296) ≤ v_iv (n_v vs 12) ∧ v_iv (n_v vs 12) ≤ v_iv (n_v vs 1) + 2010 := d1
  obtain ⟨d2, hds⟩ := List.forall_mem_cons.mp hds
  have d2 : v_iv (n_v vs 5) + (-4294967296) ≤ v_iv (n_v vs 1) ∧ v_iv (n_v vs 1) ≤ v_iv (n_v vs 5) + 2009 := d2
  obtain ⟨d3, hds⟩ := List.forall_mem_cons.mp hds
  have d3 : v_iv (n_v vs 1) + (-4294967296) ≤ v_iv (n_v vs 5) ∧ v_iv (n_v vs 5) ≤ v_iv (n_v vs 1) + 2009 := d3
  have hf : fc_ok [(20, [2], [30, 0, 1, 1, 159]), (20, [2], [30, 0, -1, 1, 159]), (24, [0, 2], []), (101, [2, 12], [158]), (1, [12, 5, 11], []), (9, [5, 2], [158]), (8, [8], [1]), (20, [2], [50, 2, 1, 158, 157, 160, 2, 12, 0, 7, 4, 3, 2, 0, 158, 0, 1, 2, 0, 157, 2, 7, 0, 3, 2, 0, 157, 0, 2010, 3, 14, 1, 10, 3, 0, 160, 5, 3, 2, 0, 157, 0, 1, 0, 0, 1, 10, 3, 0, 160, 5, 3, 2, 0, 157, 0, 1, 0, 4]), (20, [1, 2], [30, 0, 1, 0, 0, -1, 1, 158]), (20, [2], [30, 0, 1, 1, 159]), (20, [2], [30, 0, -1, 1, 159]), (20, [6, 2], [30, 2010, 1, 0, 0, 1, 1, 158]), (20, [6, 2], [30, -2010, -1, 0, 0, -1, 1, 158]), (20, [8, 2], [50, 1, 1, 1158, 1160, 4, 6, 1, 2, 1, 0, 0, 1, 1, 6, 3, 1, 160, 2, 1, 158, 0, 1])] ta ws vs := hf
  obtain ⟨f0, hf⟩ := fc_un (show (20 : Nat) < 100 from by decide) hf
  have f0 : 1 * w_fi ws (n_v vs 2) 159 + 0 ≤ 0 := f0
  obtain ⟨f1, hf⟩ := fc_un (show (20 : Nat) < 100 from by decide) hf
  have f1 : (-1) * w_fi ws (n_v vs 2) 159 + 0 ≤ 0 := f1
  obtain ⟨f2, hf⟩ := fc_un (show (24 : Nat) < 100 from by decide) hf
  have f2 : n_v vs 0 = n_v vs 2 := f2
  obtain ⟨ta1, w1, le1, ⟨_, s1⟩, hf⟩ := fc_us (show ¬ (101 : Nat) < 100 from by decide) hf
  have s1 : (∀ b j, w_el ws b j = w_el w1 b j) ∧ ∀ b j, w_fd ws b j = if b = v_ad (n_v vs 2) ∧ j = 158 then n_v vs 12 else w_fd w1 b j := s1
  obtain ⟨f4, hf⟩ := fc_un (show (1 : Nat) < 100 from by decide) hf
  have f4 : v_iv (n_v vs 12) = v_iv (n_v vs 5) + v_iv (n_v vs 11) := f4
  obtain ⟨f5, hf⟩ := fc_un (show (9 : Nat) < 100 from by decide) hf
  have f5 : n_v vs 5 = w_fd w1 (v_ad (n_v vs 2)) 158 := f5
  obtain ⟨f6, hf⟩ := fc_un (show (8 : Nat) < 100 from by decide) hf
  have f6 : v_iv (n_v vs 8) ≠ 0 := f6
  obtain ⟨f7, hf⟩ := fc_un (show (20 : Nat) < 100 from by decide) hf
  have f7 : ((w_fi w1 (n_v vs 2) 158 + 1) ≤ w_fi w1 (n_v vs 2) 157) ∧ ((w_fi w1 (n_v vs 2) 157 ≤ 2010) ∧ ((w_ei w1 (w_ar w1 (n_v vs 2) 160) ((w_fi w1 (n_v vs 2) 157 - 1)) = 0) ∨ (w_ei w1 (w_ar w1 (n_v vs 2) 160) ((w_fi w1 (n_v vs 2) 157 - 1)) = 4))) := f7
  obtain ⟨f8, hf⟩ := fc_un (show (20 : Nat) < 100 from by decide) hf
  have f8 : 1 * v_iv (n_v vs 1) + ((-1) * w_fi w1 (n_v vs 2) 158 + 0) ≤ 0 := f8
  obtain ⟨f9, hf⟩ := fc_un (show (20 : Nat) < 100 from by decide) hf
  have f9 : 1 * w_fi w1 (n_v vs 2) 159 + 0 ≤ 0 := f9
  obtain ⟨f10, hf⟩ := fc_un (show (20 : Nat) < 100 from by decide) hf
  have f10 : (-1) * w_fi w1 (n_v vs 2) 159 + 0 ≤ 0 := f10
  obtain ⟨f11, hf⟩ := fc_un (show (20 : Nat) < 100 from by decide) hf
  have f11 : 1 * v_iv (n_v vs 6) + (1 * w_fi w1 (n_v vs 2) 158 + 0) ≤ 2010 := f11
  obtain ⟨f12, hf⟩ := fc_un (show (20 : Nat) < 100 from by decide) hf
  have f12 : (-1) * v_iv (n_v vs 6) + ((-1) * w_fi w1 (n_v vs 2) 158 + 0) ≤ (-2010) := f12
  obtain ⟨f13, hf⟩ := fc_un (show (20 : Nat) < 100 from by decide) hf
  have f13 : (v_iv (n_v vs 8) = 1) → (w_ei w1 (w_ar w1 (n_v vs 2) 160) (w_fi w1 (n_v vs 2) 158) = 1) := f13
  have q2 : n_v vs 2 = n_v vs 0 := f2.symm
  rw [q2] at f0
  rw [q2] at f1
  rw [q2] at s1
  rw [q2] at f5
  rw [q2] at f7
  rw [q2] at f8
  rw [q2] at f9
  rw [q2] at f10
  rw [q2] at f11
  rw [q2] at f12
  rw [q2] at f13
  have ar_0_160_1 : w_ar w1 (n_v vs 0) 160 = w_ar ws (n_v vs 0) 160 := by show v_ad (w_fd w1 _ _) = v_ad (w_fd ws _ _); rw [s1.2, if_neg (fun e => absurd e.2 (by decide))]
  have cr_0_160 : ta (w_ar ws (n_v vs 0) 160) = some 259 := tv_rg (th_fd hD hth r0 (g := GG_150) rfl (k := 160) (t := (2, 0, 0, [259])) rfl rfl)
  have g5 : v_iv (n_v vs 5) = w_fi w1 (n_v vs 0) 158 := congrArg v_iv f5
  rw [ar_0_160_1] at f7
  rw [ar_0_160_1] at f13
  have fe_0_157_1 : w_fi ws (n_v vs 0) 157 = w_fi w1 (n_v vs 0) 157 := by show v_iv (w_fd _ _ _) = v_iv (w_fd _ _ _); rw [s1.2, if_neg (fun e => absurd e.2 (by decide))]
  have fe_0_158_1 : w_fi ws (n_v vs 0) 158 = v_iv (n_v vs 12) := by show v_iv (w_fd _ _ _) = _; rw [s1.2, if_pos ⟨rfl, rfl⟩]
  have fe_0_159_1 : w_fi ws (n_v vs 0) 159 = w_fi w1 (n_v vs 0) 159 := by show v_iv (w_fd _ _ _) = v_iv (w_fd _ _ _); rw [s1.2, if_neg (fun e => absurd e.2 (by decide))]
  have hE_0_160_1 : ∀ j : Int, w_ei ws (w_ar ws (n_v vs 0) 160) j = w_ei w1 (w_ar ws (n_v vs 0) 160) j := fun j => s1.1 _ _
  have hK_0_160 : ∀ j : Int, 0 ≤ j → j < 2010 → 0 ≤ w_ei ws (w_ar ws (n_v vs 0) 160) j ∧ w_ei ws (w_ar ws (n_v vs 0) 160) j ≤ 4 := fun j h0 h1 => th_el hD hth cr_0_160 (kd := 0) (n := 2010) (m := 2010) (lo := 0) (hi := 4) (rs := []) (L := []) rfl (by decide) (j := j.toNat) (by omega)
  have kz_0_157 : 0 ≤ w_fi ws (n_v vs 0) 157 ∧ w_fi ws (n_v vs 0) 157 ≤ 2010 := tv_rng (th_fd hD hth r0 (g := GG_150) rfl (k := 157) (t := (0, 0, 2010, [])) rfl rfl)
  have kz_0_158 : 0 ≤ w_fi ws (n_v vs 0) 158 ∧ w_fi ws (n_v vs 0) 158 ≤ 2009 := tv_rng (th_fd hD hth r0 (g := GG_150) rfl (k := 158) (t := (0, 0, 2009, [])) rfl rfl)
  have kz_0_159 : 0 ≤ w_fi ws (n_v vs 0) 159 ∧ w_fi ws (n_v vs 0) 159 ≤ 13 := tv_rng (th_fd hD hth r0 (g := GG_150) rfl (k := 159) (t := (0, 0, 13, [])) rfl rfl)
  have kv0 : 0 ≤ w_fi ws (n_v vs 0) 158 ∧ w_fi ws (n_v vs 0) 158 ≤ 2009 := tv_rng (th_fd hD hth r0 (g := GG_150) rfl (k := 158) (t := (0, 0, 2009, [])) rfl rfl)
  obtain ⟨x, ex, hx⟩ := iv_ex (ta := ta) (lo := 0) (hi := 2009) (z := w_fi ws (n_v vs 0) 158) (by omega) (by omega) (by omega) (by omega)
  have ex2 : v_iv (Value.int x) = w_fi ws (n_v vs 0) 158 := ex
  have ex3 : 0 ≤ v_iv (Value.int x) ∧ v_iv (Value.int x) ≤ 2009 := tv_rng hx
  have e_1 : n_v (vs ++ [Value.int x]) 1 = n_v vs 1 := n_v_old (by rw [hl]; decide)
  have e_2 : n_v (vs ++ [Value.int x]) 2 = n_v vs 2 := n_v_old (by rw [hl]; decide)
  have e_6 : n_v (vs ++ [Value.int x]) 6 = n_v vs 6 := n_v_old (by rw [hl]; decide)
  have e_14 : n_v (vs ++ [Value.int x]) 14 = Value.int x := n_v_new hl
  have nf0 : fc_1 (20, [2], [50, 2, 1, 158, 157, 160, 2, 12, 0, 7, 4, 3, 2, 0, 158, 0, 1, 2, 0, 157, 2, 7, 0, 3, 2, 0, 157, 0, 2010, 3, 14, 1, 10, 3, 0, 160, 5, 3, 2, 0, 157, 0, 1, 0, 0, 1, 10, 3, 0, 160, 5, 3, 2, 0, 157, 0, 1, 0, 4]) ws (vs ++ [Value.int x]) := by
    refine ⟨fun n hn => ?_, ?_⟩
    · have hn : n ∈ [2] := hn
      rw [List.length_append, hl]
      simp only [List.mem_cons, List.not_mem_nil, or_false] at hn
      show n < 14 + 1; omega
    · show ((w_fi ws (n_v (vs ++ [Value.int x]) 2) 158 + 1) ≤ w_fi ws (n_v (vs ++ [Value.int x]) 2) 157) ∧ ((w_fi ws (n_v (vs ++ [Value.int x]) 2) 157 ≤ 2010) ∧ ((w_ei ws (w_ar ws (n_v (vs ++ [Value.int x]) 2) 160) ((w_fi ws (n_v (vs ++ [Value.int x]) 2) 157 - 1)) = 0) ∨ (w_ei ws (w_ar ws (n_v (vs ++ [Value.int x]) 2) 160) ((w_fi ws (n_v (vs ++ [Value.int x]) 2) 157 - 1)) = 4)))
      rw [e_2]
      rw [q2]
      first | omega | grind
  have nf1 : fc_1 (20, [2, 14], [30, 0, 1, 1, 158, -1, 0, 0]) ws (vs ++ [Value.int x]) := by
    refine ⟨fun n hn => ?_, ?_⟩
    · have hn : n ∈ [2, 14] := hn
      rw [List.length_append, hl]
      simp only [List.mem_cons, List.not_mem_nil, or_false] at hn
      show n < 14 + 1; omega
    · show 1 * w_fi ws (n_v (vs ++ [Value.int x]) 2) 158 + ((-1) * v_iv (n_v (vs ++ [Value.int x]) 14) + 0) ≤ 0
      rw [e_2]
      rw [e_14]
      rw [q2]
      omega
  have nf2 : fc_1 (20, [2, 14], [30, 0, -1, 1, 158, 1, 0, 0]) ws (vs ++ [Value.int x]) := by
    refine ⟨fun n hn => ?_, ?_⟩
    · have hn : n ∈ [2, 14] := hn
      rw [List.length_append, hl]
      simp only [List.mem_cons, List.not_mem_nil, or_false] at hn
      show n < 14 + 1; omega
    · show (-1) * w_fi ws (n_v (vs ++ [Value.int x]) 2) 158 + (1 * v_iv (n_v (vs ++ [Value.int x]) 14) + 0) ≤ 0
      rw [e_2]
      rw [e_14]
      rw [q2]
      omega
  have nf3 : fc_1 (23, [1, 14], [0, 1, -1]) ws (vs ++ [Value.int x]) := by
    refine ⟨fun n hn => ?_, ?_⟩
    · have hn : n ∈ [1, 14] := hn
      rw [List.length_append, hl]
      simp only [List.mem_cons, List.not_mem_nil, or_false] at hn
      show n < 14 + 1; omega
    · show 1 * v_iv (n_v (vs ++ [Value.int x]) 1) + ((-1) * v_iv (n_v (vs ++ [Value.int x]) 14) + 0) ≤ 0
      rw [e_1]
      rw [e_14]
      omega
  have nf4 : fc_1 (23, [6, 14], [-2011, -1, -1]) ws (vs ++ [Value.int x]) := by
    refine ⟨fun n hn => ?_, ?_⟩
    · have hn : n ∈ [6, 14] := hn
      rw [List.length_append, hl]
      simp only [List.mem_cons, List.not_mem_nil, or_false] at hn
      show n < 14 + 1; omega
    · show (-1) * v_iv (n_v (vs ++ [Value.int x]) 6) + ((-1) * v_iv (n_v (vs ++ [Value.int x]) 14) + 0) ≤ (-2011)
      rw [e_6]
      rw [e_14]
      omega
  exact ⟨fun q hq => (by cases hq), [Value.int x], ag_one hx, List.forall_mem_cons.mpr ⟨⟨show (20 : Nat) < 100 from by decide, nf0⟩, List.forall_mem_cons.mpr ⟨⟨show (20 : Nat) < 100 from by decide, nf1⟩, List.forall_mem_cons.mpr ⟨⟨show (20 : Nat) < 100 from by decide, nf2⟩, List.forall_mem_cons.mpr ⟨⟨show (23 : Nat) < 100 from by decide, nf3⟩, List.forall_mem_cons.mpr ⟨⟨show (23 : Nat) < 100 from by decide, nf4⟩, (fun _ h => (by cases h))⟩⟩⟩⟩⟩, (fun _ h => (by cases h))⟩
def o_Mo_rule_at_f0_45 : or_T := (193, 15, [(0, (2, 0, 0, [150])), (1, (0, 0, 2009, [])), (2, (2, 0, 0, [150])), (5, (0, 0, 2009, [])), (6, (0, 0, 2010, [])), (11, (0, 1, 1, [])), (12, (0, 1, 2009, [])), (14, (0, 0, 2009, []))], [(23, [1, 14], [0, 1, -1]), (23, [6, 14], [-2011, -1, -1]), (20, [2], [30, 0, 1, 1, 159]), (20, [2], [30, 0, -1, 1, 159]), (24, [0, 2], []), (20, [2], [50, 2, 1, 158, 157, 160, 2, 12, 0, 7, 4, 3, 2, 0, 158, 0, 1, 2, 0, 157, 2, 7, 0, 3, 2, 0, 157, 0, 2010, 3, 14, 1, 10, 3, 0, 160, 5, 3, 2, 0, 157, 0, 1, 0, 0, 1, 10, 3, 0, 160, 5, 3, 2, 0, 157, 0, 1, 0, 4]), (20, [14, 2], [30, 0, 1, 0, 0, -1, 1, 158]), (102, [14], [0, 13008, 13009, 13158]), (23, [1, 14], [0, 1, -1]), (23, [6, 14], [-2011, -1, -1]), (101, [2, 12], [158]), (1, [12, 5, 11], [])], [], [(0, 0, 2009, [])], [(20, [2], [50, 2, 1, 158, 157, 160, 2, 12, 0, 7, 4, 3, 2, 0, 158, 0, 1, 2, 0, 157, 2, 7, 0, 3, 2, 0, 157, 0, 2010, 3, 14, 1, 10, 3, 0, 160, 5, 3, 2, 0, 157, 0, 1, 0, 0, 1, 10, 3, 0, 160, 5, 3, 2, 0, 157, 0, 1, 0, 4]), (20, [2, 15], [30, 0, 1, 1, 158, -1, 0, 0]), (20, [2, 15], [30, 0, -1, 1, 158, 1, 0, 0]), (20, [2], [30, 0, 1, 1, 159]), (20, [2], [30, 0, -1, 1, 159]), (23, [1, 15], [0, 1, -1]), (23, [6, 15], [-2011, -1, -1])], [], [(12, 5, 1, 1), (12, 1, -4294967296, 2010), (1, 5, -4294967296, 2009), (5, 1, -4294967296, 2009)])
theorem oo_Mo_rule_at_f0_45 {kA : Nat → ClassId} : or_ok kA GG o_Mo_rule_at_f0_45 := by
  intro A ta ws vs hD hth hl hk hds hf
  have hl : vs.length = 15 := hl
  have hk : ∀ q ∈ ([(0, (2, 0, 0, [150])), (1, (0, 0, 2009, [])), (2, (2, 0, 0, [150])), (5, (0, 0, 2009, [])), (6, (0, 0, 2010, [])), (11, (0, 1, 1, [])), (12, (0, 1, 2009, [])), (14, (0, 0, 2009, []))] : List (Nat × tv_T)), tv_ok ta q.2 (n_v vs q.1) := hk
  obtain ⟨t0, hk⟩ := List.forall_mem_cons.mp hk
  have t0 : tv_ok ta (2, 0, 0, [150]) (n_v vs 0) := t0
  have r0 : ta (v_ad (n_v vs 0)) = some 150 := tv_rg t0
  obtain ⟨t1, hk⟩ := List.forall_mem_cons.mp hk
  have t1 : tv_ok ta (0, 0, 2009, []) (n_v vs 1) := t1
  have k1 : 0 ≤ v_iv (n_v vs 1) ∧ v_iv (n_v vs 1) ≤ 2009 := tv_rng t1
  obtain ⟨t2, hk⟩ := List.forall_mem_cons.mp hk
  have t2 : tv_ok ta (2, 0, 0, [150]) (n_v vs 2) := t2
  have r2 : ta (v_ad (n_v vs 2)) = some 150 := tv_rg t2
  obtain ⟨t5, hk⟩ := List.forall_mem_cons.mp hk
  have t5 : tv_ok ta (0, 0, 2009, []) (n_v vs 5) := t5
  have k5 : 0 ≤ v_iv (n_v vs 5) ∧ v_iv (n_v vs 5) ≤ 2009 := tv_rng t5
  obtain ⟨t6, hk⟩ := List.forall_mem_cons.mp hk
  have t6 : tv_ok ta (0, 0, 2010, []) (n_v vs 6) := t6
  have k6 : 0 ≤ v_iv (n_v vs 6) ∧ v_iv (n_v vs 6) ≤ 2010 := tv_rng t6
  obtain ⟨t11, hk⟩ := List.forall_mem_cons.mp hk
  have t11 : tv_ok ta (0, 1, 1, []) (n_v vs 11) := t11
  have k11 : 1 ≤ v_iv (n_v vs 11) ∧ v_iv (n_v vs 11) ≤ 1 := tv_rng t11
  obtain ⟨t12, hk⟩ := List.forall_mem_cons.mp hk
  have t12 : tv_ok ta (0, 1, 2009, []) (n_v vs 12) := t12
  have k12 : 1 ≤ v_iv (n_v vs 12) ∧ v_iv (n_v vs 12) ≤ 2009 := tv_rng t12
  obtain ⟨t14, hk⟩ := List.forall_mem_cons.mp hk
  have t14 : tv_ok ta (0, 0, 2009, []) (n_v vs 14) := t14
  have k14 : 0 ≤ v_iv (n_v vs 14) ∧ v_iv (n_v vs 14) ≤ 2009 := tv_rng t14
  have hds : ∀ q ∈ ([(12, 5, 1, 1), (12, 1, -4294967296, 2010), (1, 5, -4294967296, 2009), (5, 1, -4294967296, 2009)] : List of_T), n_iv vs q.2.1 + q.2.2.1 ≤ n_iv vs q.1 ∧ n_iv vs q.1 ≤ n_iv vs q.2.1 + q.2.2.2 := hds
  obtain ⟨d0, hds⟩ := List.forall_mem_cons.mp hds
  have d0 : v_iv (n_v vs 5) + 1 ≤ v_iv (n_v vs 12) ∧ v_iv (n_v vs 12) ≤ v_iv (n_v vs 5) + 1 := d0
  obtain ⟨d1, hds⟩ := List.forall_mem_cons.mp hds
  have d1 : v_iv (n_v vs 1) + (-4294967296) ≤ v_iv (n_v vs 12) ∧ v_iv (n_v vs 12) ≤ v_iv (n_v vs 1) + 2010 := d1
  obtain ⟨d2, hds⟩ := List.forall_mem_cons.mp hds
  have d2 : v_iv (n_v vs 5) + (-4294967296) ≤ v_iv (n_v vs 1) ∧ v_iv (n_v vs 1) ≤ v_iv (n_v vs 5) + 2009 := d2
  obtain ⟨d3, hds⟩ := List.forall_mem_cons.mp hds
  have d3 : v_iv (n_v vs 1) + (-4294967296) ≤ v_iv (n_v vs 5) ∧ v_iv (n_v vs 5) ≤ v_iv (n_v vs 1) + 2009 := d3
  have hf : fc_ok [(23, [1, 14], [0, 1, -1]), (23, [6, 14], [-2011, -1, -1]), (20, [2], [30, 0, 1, 1, 159]), (20, [2], [30, 0, -1, 1, 159]), (24, [0, 2], []), (20, [2], [50, 2, 1, 158, 157, 160, 2, 12, 0, 7, 4, 3, 2, 0, 158, 0, 1, 2, 0, 157, 2, 7, 0, 3, 2, 0, 157, 0, 2010, 3, 14, 1, 10, 3, 0, 160, 5, 3, 2, 0, 157, 0, 1, 0, 0, 1, 10, 3, 0, 160, 5, 3, 2, 0, 157, 0, 1, 0, 4]), (20, [14, 2], [30, 0, 1, 0, 0, -1, 1, 158]), (102, [14], [0, 13008, 13009, 13158]), (23, [1, 14], [0, 1, -1]), (23, [6, 14], [-2011, -1, -1]), (101, [2, 12], [158]), (1, [12, 5, 11], [])] ta ws vs := hf
  obtain ⟨f0, hf⟩ := fc_un (show (23 : Nat) < 100 from by decide) hf
  have f0 : 1 * v_iv (n_v vs 1) + ((-1) * v_iv (n_v vs 14) + 0) ≤ 0 := f0
  obtain ⟨f1, hf⟩ := fc_un (show (23 : Nat) < 100 from by decide) hf
  have f1 : (-1) * v_iv (n_v vs 6) + ((-1) * v_iv (n_v vs 14) + 0) ≤ (-2011) := f1
  obtain ⟨f2, hf⟩ := fc_un (show (20 : Nat) < 100 from by decide) hf
  have f2 : 1 * w_fi ws (n_v vs 2) 159 + 0 ≤ 0 := f2
  obtain ⟨f3, hf⟩ := fc_un (show (20 : Nat) < 100 from by decide) hf
  have f3 : (-1) * w_fi ws (n_v vs 2) 159 + 0 ≤ 0 := f3
  obtain ⟨f4, hf⟩ := fc_un (show (24 : Nat) < 100 from by decide) hf
  have f4 : n_v vs 0 = n_v vs 2 := f4
  obtain ⟨f5, hf⟩ := fc_un (show (20 : Nat) < 100 from by decide) hf
  have f5 : ((w_fi ws (n_v vs 2) 158 + 1) ≤ w_fi ws (n_v vs 2) 157) ∧ ((w_fi ws (n_v vs 2) 157 ≤ 2010) ∧ ((w_ei ws (w_ar ws (n_v vs 2) 160) ((w_fi ws (n_v vs 2) 157 - 1)) = 0) ∨ (w_ei ws (w_ar ws (n_v vs 2) 160) ((w_fi ws (n_v vs 2) 157 - 1)) = 4))) := f5
  obtain ⟨f6, hf⟩ := fc_un (show (20 : Nat) < 100 from by decide) hf
  have f6 : 1 * v_iv (n_v vs 14) + ((-1) * w_fi ws (n_v vs 2) 158 + 0) ≤ 0 := f6
  obtain ⟨ta1, w1, le1, ⟨_, s1⟩, hf⟩ := fc_us (show ¬ (102 : Nat) < 100 from by decide) hf
  obtain ⟨f8, hf⟩ := fc_un (show (23 : Nat) < 100 from by decide) hf
  have f8 : 1 * v_iv (n_v vs 1) + ((-1) * v_iv (n_v vs 14) + 0) ≤ 0 := f8
  obtain ⟨f9, hf⟩ := fc_un (show (23 : Nat) < 100 from by decide) hf
  have f9 : (-1) * v_iv (n_v vs 6) + ((-1) * v_iv (n_v vs 14) + 0) ≤ (-2011) := f9
  obtain ⟨ta2, w2, le2, ⟨_, s2⟩, hf⟩ := fc_us (show ¬ (101 : Nat) < 100 from by decide) hf
  have s2 : (∀ b j, w_el w1 b j = w_el w2 b j) ∧ ∀ b j, w_fd w1 b j = if b = v_ad (n_v vs 2) ∧ j = 158 then n_v vs 12 else w_fd w2 b j := s2
  obtain ⟨f11, hf⟩ := fc_un (show (1 : Nat) < 100 from by decide) hf
  have f11 : v_iv (n_v vs 12) = v_iv (n_v vs 5) + v_iv (n_v vs 11) := f11
  have q2 : n_v vs 2 = n_v vs 0 := f4.symm
  rw [q2] at f2
  rw [q2] at f3
  rw [q2] at f5
  rw [q2] at f6
  rw [q2] at s2
  have cr_0_160 : ta (w_ar ws (n_v vs 0) 160) = some 259 := tv_rg (th_fd hD hth r0 (g := GG_150) rfl (k := 160) (t := (2, 0, 0, [259])) rfl rfl)
  have hK_0_160 : ∀ j : Int, 0 ≤ j → j < 2010 → 0 ≤ w_ei ws (w_ar ws (n_v vs 0) 160) j ∧ w_ei ws (w_ar ws (n_v vs 0) 160) j ≤ 4 := fun j h0 h1 => th_el hD hth cr_0_160 (kd := 0) (n := 2010) (m := 2010) (lo := 0) (hi := 4) (rs := []) (L := []) rfl (by decide) (j := j.toNat) (by omega)
  have kz_0_157 : 0 ≤ w_fi ws (n_v vs 0) 157 ∧ w_fi ws (n_v vs 0) 157 ≤ 2010 := tv_rng (th_fd hD hth r0 (g := GG_150) rfl (k := 157) (t := (0, 0, 2010, [])) rfl rfl)
  have kz_0_158 : 0 ≤ w_fi ws (n_v vs 0) 158 ∧ w_fi ws (n_v vs 0) 158 ≤ 2009 := tv_rng (th_fd hD hth r0 (g := GG_150) rfl (k := 158) (t := (0, 0, 2009, [])) rfl rfl)
  have kz_0_159 : 0 ≤ w_fi ws (n_v vs 0) 159 ∧ w_fi ws (n_v vs 0) 159 ≤ 13 := tv_rng (th_fd hD hth r0 (g := GG_150) rfl (k := 159) (t := (0, 0, 13, [])) rfl rfl)
  have kv0 : 0 ≤ w_fi ws (n_v vs 0) 158 ∧ w_fi ws (n_v vs 0) 158 ≤ 2009 := tv_rng (th_fd hD hth r0 (g := GG_150) rfl (k := 158) (t := (0, 0, 2009, [])) rfl rfl)
  obtain ⟨x, ex, hx⟩ := iv_ex (ta := ta) (lo := 0) (hi := 2009) (z := w_fi ws (n_v vs 0) 158) (by omega) (by omega) (by omega) (by omega)
  have ex2 : v_iv (Value.int x) = w_fi ws (n_v vs 0) 158 := ex
  have ex3 : 0 ≤ v_iv (Value.int x) ∧ v_iv (Value.int x) ≤ 2009 := tv_rng hx
  have e_1 : n_v (vs ++ [Value.int x]) 1 = n_v vs 1 := n_v_old (by rw [hl]; decide)
  have e_2 : n_v (vs ++ [Value.int x]) 2 = n_v vs 2 := n_v_old (by rw [hl]; decide)
  have e_6 : n_v (vs ++ [Value.int x]) 6 = n_v vs 6 := n_v_old (by rw [hl]; decide)
  have e_15 : n_v (vs ++ [Value.int x]) 15 = Value.int x := n_v_new hl
  have nf0 : fc_1 (20, [2], [50, 2, 1, 158, 157, 160, 2, 12, 0, 7, 4, 3, 2, 0, 158, 0, 1, 2, 0, 157, 2, 7, 0, 3, 2, 0, 157, 0, 2010, 3, 14, 1, 10, 3, 0, 160, 5, 3, 2, 0, 157, 0, 1, 0, 0, 1, 10, 3, 0, 160, 5, 3, 2, 0, 157, 0, 1, 0, 4]) ws (vs ++ [Value.int x]) := by
    refine ⟨fun n hn => ?_, ?_⟩
    · have hn : n ∈ [2] := hn
      rw [List.length_append, hl]
      simp only [List.mem_cons, List.not_mem_nil, or_false] at hn
      show n < 15 + 1; omega
    · show ((w_fi ws (n_v (vs ++ [Value.int x]) 2) 158 + 1) ≤ w_fi ws (n_v (vs ++ [Value.int x]) 2) 157) ∧ ((w_fi ws (n_v (vs ++ [Value.int x]) 2) 157 ≤ 2010) ∧ ((w_ei ws (w_ar ws (n_v (vs ++ [Value.int x]) 2) 160) ((w_fi ws (n_v (vs ++ [Value.int x]) 2) 157 - 1)) = 0) ∨ (w_ei ws (w_ar ws (n_v (vs ++ [Value.int x]) 2) 160) ((w_fi ws (n_v (vs ++ [Value.int x]) 2) 157 - 1)) = 4)))
      rw [e_2]
      rw [q2]
      first | omega | grind
  have nf1 : fc_1 (20, [2, 15], [30, 0, 1, 1, 158, -1, 0, 0]) ws (vs ++ [Value.int x]) := by
    refine ⟨fun n hn => ?_, ?_⟩
    · have hn : n ∈ [2, 15] := hn
      rw [List.length_append, hl]
      simp only [List.mem_cons, List.not_mem_nil, or_false] at hn
      show n < 15 + 1; omega
    · show 1 * w_fi ws (n_v (vs ++ [Value.int x]) 2) 158 + ((-1) * v_iv (n_v (vs ++ [Value.int x]) 15) + 0) ≤ 0
      rw [e_2]
      rw [e_15]
      rw [q2]
      omega
  have nf2 : fc_1 (20, [2, 15], [30, 0, -1, 1, 158, 1, 0, 0]) ws (vs ++ [Value.int x]) := by
    refine ⟨fun n hn => ?_, ?_⟩
    · have hn : n ∈ [2, 15] := hn
      rw [List.length_append, hl]
      simp only [List.mem_cons, List.not_mem_nil, or_false] at hn
      show n < 15 + 1; omega
    · show (-1) * w_fi ws (n_v (vs ++ [Value.int x]) 2) 158 + (1 * v_iv (n_v (vs ++ [Value.int x]) 15) + 0) ≤ 0
      rw [e_2]
      rw [e_15]
      rw [q2]
      omega
  have nf3 : fc_1 (20, [2], [30, 0, 1, 1, 159]) ws (vs ++ [Value.int x]) := by
    refine ⟨fun n hn => ?_, ?_⟩
    · have hn : n ∈ [2] := hn
      rw [List.length_append, hl]
      simp only [List.mem_cons, List.not_mem_nil, or_false] at hn
      show n < 15 + 1; omega
    · show 1 * w_fi ws (n_v (vs ++ [Value.int x]) 2) 159 + 0 ≤ 0
      rw [e_2]
      rw [q2]
      omega
  have nf4 : fc_1 (20, [2], [30, 0, -1, 1, 159]) ws (vs ++ [Value.int x]) := by
    refine ⟨fun n hn => ?_, ?_⟩
    · have hn : n ∈ [2] := hn
      rw [List.length_append, hl]
      simp only [List.mem_cons, List.not_mem_nil, or_false] at hn
      show n < 15 + 1; omega
    · show (-1) * w_fi ws (n_v (vs ++ [Value.int x]) 2) 159 + 0 ≤ 0
      rw [e_2]
      rw [q2]
      omega
  have nf5 : fc_1 (23, [1, 15], [0, 1, -1]) ws (vs ++ [Value.int x]) := by
    refine ⟨fun n hn => ?_, ?_⟩
    · have hn : n ∈ [1, 15] := hn
      rw [List.length_append, hl]
      simp only [List.mem_cons, List.not_mem_nil, or_false] at hn
      show n < 15 + 1; omega
    · show 1 * v_iv (n_v (vs ++ [Value.int x]) 1) + ((-1) * v_iv (n_v (vs ++ [Value.int x]) 15) + 0) ≤ 0
      rw [e_1]
      rw [e_15]
      omega
  have nf6 : fc_1 (23, [6, 15], [-2011, -1, -1]) ws (vs ++ [Value.int x]) := by
    refine ⟨fun n hn => ?_, ?_⟩
    · have hn : n ∈ [6, 15] := hn
      rw [List.length_append, hl]
      simp only [List.mem_cons, List.not_mem_nil, or_false] at hn
      show n < 15 + 1; omega
    · show (-1) * v_iv (n_v (vs ++ [Value.int x]) 6) + ((-1) * v_iv (n_v (vs ++ [Value.int x]) 15) + 0) ≤ (-2011)
      rw [e_6]
      rw [e_15]
      omega
  exact ⟨fun q hq => (by cases hq), [Value.int x], ag_one hx, List.forall_mem_cons.mpr ⟨⟨show (20 : Nat) < 100 from by decide, nf0⟩, List.forall_mem_cons.mpr ⟨⟨show (20 : Nat) < 100 from by decide, nf1⟩, List.forall_mem_cons.mpr ⟨⟨show (20 : Nat) < 100 from by decide, nf2⟩, List.forall_mem_cons.mpr ⟨⟨show (20 : Nat) < 100 from by decide, nf3⟩, List.forall_mem_cons.mpr ⟨⟨show (20 : Nat) < 100 from by decide, nf4⟩, List.forall_mem_cons.mpr ⟨⟨show (23 : Nat) < 100 from by decide, nf5⟩, List.forall_mem_cons.mpr ⟨⟨show (23 : Nat) < 100 from by decide, nf6⟩, (fun _ h => (by cases h))⟩⟩⟩⟩⟩⟩⟩, (fun _ h => (by cases h))⟩
def o_Mo_rule_at_f0_46 : or_T := (275, 18, [(0, (2, 0, 0, [150])), (1, (0, 0, 2009, [])), (2, (2, 0, 0, [150])), (5, (0, 0, 2009, [])), (6, (0, 0, 2010, [])), (11, (0, 1, 1, [])), (12, (0, 1, 2009, [])), (14, (0, 0, 2009, [])), (15, (0, 0, 2009, []))], [(23, [1, 15], [0, 1, -1]), (23, [6, 15], [-2011, -1, -1]), (23, [1, 14], [0, 1, -1]), (23, [6, 14], [-2011, -1, -1]), (24, [0, 2], []), (20, [2], [50, 2, 1, 158, 157, 160, 2, 12, 0, 7, 4, 3, 2, 0, 158, 0, 1, 2, 0, 157, 2, 7, 0, 3, 2, 0, 157, 0, 2010, 3, 14, 1, 10, 3, 0, 160, 5, 3, 2, 0, 157, 0, 1, 0, 0, 1, 10, 3, 0, 160, 5, 3, 2, 0, 157, 0, 1, 0, 4]), (20, [15, 2], [30, 0, 1, 0, 0, -1, 1, 158]), (20, [2], [30, 0, 1, 1, 159]), (20, [2], [30, 0, -1, 1, 159]), (102, [15], [0, 13008, 13009, 13158, 13159]), (23, [1, 15], [0, 1, -1]), (23, [6, 15], [-2011, -1, -1]), (23, [1, 14], [0, 1, -1]), (23, [6, 14], [-2011, -1, -1]), (102, [14], [0, 13008, 13009, 13158]), (23, [1, 14], [0, 1, -1]), (23, [6, 14], [-2011, -1, -1]), (101, [2, 12], [158]), (1, [12, 5, 11], [])], [], [(0, 0, 2010, [])], [(20, [2], [50, 2, 1, 158, 157, 160, 2, 12, 0, 7, 4, 3, 2, 0, 158, 0, 1, 2, 0, 157, 2, 7, 0, 3, 2, 0, 157, 0, 2010, 3, 14, 1, 10, 3, 0, 160, 5, 3, 2, 0, 157, 0, 1, 0, 0, 1, 10, 3, 0, 160, 5, 3, 2, 0, 157, 0, 1, 0, 4]), (20, [1, 2], [30, 0, 1, 0, 0, -1, 1, 158]), (20, [2], [30, 0, 1, 1, 159]), (20, [2], [30, 0, -1, 1, 159]), (20, [18, 2], [30, -2011, -1, 0, 0, -1, 1, 158]), (24, [0, 2], [])], [(18, 6, 0, 0)], [(12, 5, 1, 1), (12, 1, -4294967296, 2010), (1, 5, -4294967296, 2009), (5, 1, -4294967296, 2009)])
theorem oo_Mo_rule_at_f0_46 {kA : Nat → ClassId} : or_ok kA GG o_Mo_rule_at_f0_46 := by
  intro A ta ws vs hD hth hl hk hds hf
  have hl : vs.length = 18 := hl
  have hk : ∀ q ∈ ([(0, (2, 0, 0, [150])), (1, (0, 0, 2009, [])), (2, (2, 0, 0, [150])), (5, (0, 0, 2009, [])), (6, (0, 0, 2010, [])), (11, (0, 1, 1, [])), (12, (0, 1, 2009, [])), (14, (0, 0, 2009, [])), (15, (0, 0, 2009, []))] : List (Nat × tv_T)), tv_ok ta q.2 (n_v vs q.1) := hk
  obtain ⟨t0, hk⟩ := List.forall_mem_cons.mp hk
  have t0 : tv_ok ta (2, 0, 0, [150]) (n_v vs 0) := t0
  have r0 : ta (v_ad (n_v vs 0)) = some 150 := tv_rg t0
  obtain ⟨t1, hk⟩ := List.forall_mem_cons.mp hk
  have t1 : tv_ok ta (0, 0, 2009, []) (n_v vs 1) := t1
  have k1 : 0 ≤ v_iv (n_v vs 1) ∧ v_iv (n_v vs 1) ≤ 2009 := tv_rng t1
  obtain ⟨t2, hk⟩ := List.forall_mem_cons.mp hk
  have t2 : tv_ok ta (2, 0, 0, [150]) (n_v vs 2) := t2
  have r2 : ta (v_ad (n_v vs 2)) = some 150 := tv_rg t2
  obtain ⟨t5, hk⟩ := List.forall_mem_cons.mp hk
  have t5 : tv_ok ta (0, 0, 2009, []) (n_v vs 5) := t5
  have k5 : 0 ≤ v_iv (n_v vs 5) ∧ v_iv (n_v vs 5) ≤ 2009 := tv_rng t5
  obtain ⟨t6, hk⟩ := List.forall_mem_cons.mp hk
  have t6 : tv_ok ta (0, 0, 2010, []) (n_v vs 6) := t6
  have k6 : 0 ≤ v_iv (n_v vs 6) ∧ v_iv (n_v vs 6) ≤ 2010 := tv_rng t6
  obtain ⟨t11, hk⟩ := List.forall_mem_cons.mp hk
  have t11 : tv_ok ta (0, 1, 1, []) (n_v vs 11) := t11
  have k11 : 1 ≤ v_iv (n_v vs 11) ∧ v_iv (n_v vs 11) ≤ 1 := tv_rng t11
  obtain ⟨t12, hk⟩ := List.forall_mem_cons.mp hk
  have t12 : tv_ok ta (0, 1, 2009, []) (n_v vs 12) := t12
  have k12 : 1 ≤ v_iv (n_v vs 12) ∧ v_iv (n_v vs 12) ≤ 2009 := tv_rng t12
  obtain ⟨t14, hk⟩ := List.forall_mem_cons.mp hk
  have t14 : tv_ok ta (0, 0, 2009, []) (n_v vs 14) := t14
  have k14 : 0 ≤ v_iv (n_v vs 14) ∧ v_iv (n_v vs 14) ≤ 2009 := tv_rng t14
  obtain ⟨t15, hk⟩ := List.forall_mem_cons.mp hk
  have t15 : tv_ok ta (0, 0, 2009, []) (n_v vs 15) := t15
  have k15 : 0 ≤ v_iv (n_v vs 15) ∧ v_iv (n_v vs 15) ≤ 2009 := tv_rng t15
  have hds : ∀ q ∈ ([(12, 5, 1, 1), (12, 1, -4294967296, 2010), (1, 5, -4294967296, 2009), (5, 1, -4294967296, 2009)] : List of_T), n_iv vs q.2.1 + q.2.2.1 ≤ n_iv vs q.1 ∧ n_iv vs q.1 ≤ n_iv vs q.2.1 + q.2.2.2 := hds
  obtain ⟨d0, hds⟩ := List.forall_mem_cons.mp hds
  have d0 : v_iv (n_v vs 5) + 1 ≤ v_iv (n_v vs 12) ∧ v_iv (n_v vs 12) ≤ v_iv (n_v vs 5) + 1 := d0
  obtain ⟨d1, hds⟩ := List.forall_mem_cons.mp hds
  have d1 : v_iv (n_v vs 1) + (-4294967296) ≤ v_iv (n_v vs 12) ∧ v_iv (n_v vs 12) ≤ v_iv (n_v vs 1) + 2010 := d1
  obtain ⟨d2, hds⟩ := List.forall_mem_cons.mp hds
  have d2 : v_iv (n_v vs 5) + (-4294967296) ≤ v_iv (n_v vs 1) ∧ v_iv (n_v vs 1) ≤ v_iv (n_v vs 5) + 2009 := d2
  obtain ⟨d3, hds⟩ := List.forall_mem_cons.mp hds
  have d3 : v_iv (n_v vs 1) + (-4294967296) ≤ v_iv (n_v vs 5) ∧ v_iv (n_v vs 5) ≤ v_iv (n_v vs 1) + 2009 := d3
  have hf : fc_ok [(23, [1, 15], [0, 1, -1]), (23, [6, 15], [-2011, -1, -1]), (23, [1, 14], [0, 1, -1]), (23, [6, 14], [-2011, -1, -1]), (24, [0, 2], []), (20, [2], [50, 2, 1, 158, 157, 160, 2, 12, 0, 7, 4, 3, 2, 0, 158, 0, 1, 2, 0, 157, 2, 7, 0, 3, 2, 0, 157, 0, 2010, 3, 14, 1, 10, 3, 0, 160, 5, 3, 2, 0, 157, 0, 1, 0, 0, 1, 10, 3, 0, 160, 5, 3, 2, 0, 157, 0, 1, 0, 4]), (20, [15, 2], [30, 0, 1, 0, 0, -1, 1, 158]), (20, [2], [30, 0, 1, 1, 159]), (20, [2], [30, 0, -1, 1, 159]), (102, [15], [0, 13008, 13009, 13158, 13159]), (23, [1, 15], [0, 1, -1]), (23, [6, 15], [-2011, -1, -1]), (23, [1, 14], [0, 1, -1]), (23, [6, 14], [-2011, -1, -1]), (102, [14], [0, 13008, 13009, 13158]), (23, [1, 14], [0, 1, -1]), (23, [6, 14], [-2011, -1, -1]), (101, [2, 12], [158]), (1, [12, 5, 11], [])] ta ws vs := hf
  obtain ⟨f0, hf⟩ := fc_un (show (23 : Nat) < 100 from by decide) hf
  have f0 : 1 * v_iv (n_v vs 1) + ((-1) * v_iv (n_v vs 15) + 0) ≤ 0 := f0
  obtain ⟨f1, hf⟩ := fc_un (show (23 : Nat) < 100 from by decide) hf
  have f1 : (-1) * v_iv (n_v vs 6) + ((-1) * v_iv (n_v vs 15) + 0) ≤ (-2011) := f1
  obtain ⟨f2, hf⟩ := fc_un (show (23 : Nat) < 100 from by decide) hf
  have f2 : 1 * v_iv (n_v vs 1) + ((-1) * v_iv (n_v vs 14) + 0) ≤ 0 := f2
  obtain ⟨f3, hf⟩ := fc_un (show (23 : Nat) < 100 from by decide) hf
  have f3 : (-1) * v_iv (n_v vs 6) + ((-1) * v_iv (n_v vs 14) + 0) ≤ (-2011) := f3
  obtain ⟨f4, hf⟩ := fc_un (show (24 : Nat) < 100 from by decide) hf
  have f4 : n_v vs 0 = n_v vs 2 := f4
  obtain ⟨f5, hf⟩ := fc_un (show (20 : Nat) < 100 from by decide) hf
  have f5 : ((w_fi ws (n_v vs 2) 158 + 1) ≤ w_fi ws (n_v vs 2) 157) ∧ ((w_fi ws (n_v vs 2) 157 ≤ 2010) ∧ ((w_ei ws (w_ar ws (n_v vs 2) 160) ((w_fi ws (n_v vs 2) 157 - 1)) = 0) ∨ (w_ei ws (w_ar ws (n_v vs 2) 160) ((w_fi ws (n_v vs 2) 157 - 1)) = 4))) := f5
  obtain ⟨f6, hf⟩ := fc_un (show (20 : Nat) < 100 from by decide) hf
  have f6 : 1 * v_iv (n_v vs 15) + ((-1) * w_fi ws (n_v vs 2) 158 + 0) ≤ 0 := f6
  obtain ⟨f7, hf⟩ := fc_un (show (20 : Nat) < 100 from by decide) hf
  have f7 : 1 * w_fi ws (n_v vs 2) 159 + 0 ≤ 0 := f7
  obtain ⟨f8, hf⟩ := fc_un (show (20 : Nat) < 100 from by decide) hf
  have f8 : (-1) * w_fi ws (n_v vs 2) 159 + 0 ≤ 0 := f8
  obtain ⟨ta1, w1, le1, ⟨_, s1⟩, hf⟩ := fc_us (show ¬ (102 : Nat) < 100 from by decide) hf
  obtain ⟨f10, hf⟩ := fc_un (show (23 : Nat) < 100 from by decide) hf
  have f10 : 1 * v_iv (n_v vs 1) + ((-1) * v_iv (n_v vs 15) + 0) ≤ 0 := f10
  obtain ⟨f11, hf⟩ := fc_un (show (23 : Nat) < 100 from by decide) hf
  have f11 : (-1) * v_iv (n_v vs 6) + ((-1) * v_iv (n_v vs 15) + 0) ≤ (-2011) := f11
  obtain ⟨f12, hf⟩ := fc_un (show (23 : Nat) < 100 from by decide) hf
  have f12 : 1 * v_iv (n_v vs 1) + ((-1) * v_iv (n_v vs 14) + 0) ≤ 0 := f12
  obtain ⟨f13, hf⟩ := fc_un (show (23 : Nat) < 100 from by decide) hf
  have f13 : (-1) * v_iv (n_v vs 6) + ((-1) * v_iv (n_v vs 14) + 0) ≤ (-2011) := f13
  obtain ⟨ta2, w2, le2, ⟨_, s2⟩, hf⟩ := fc_us (show ¬ (102 : Nat) < 100 from by decide) hf
  obtain ⟨f15, hf⟩ := fc_un (show (23 : Nat) < 100 from by decide) hf
  have f15 : 1 * v_iv (n_v vs 1) + ((-1) * v_iv (n_v vs 14) + 0) ≤ 0 := f15
  obtain ⟨f16, hf⟩ := fc_un (show (23 : Nat) < 100 from by decide) hf
  have f16 : (-1) * v_iv (n_v vs 6) + ((-1) * v_iv (n_v vs 14) + 0) ≤ (-2011) := f16
  obtain ⟨ta3, w3, le3, ⟨_, s3⟩, hf⟩ := fc_us (show ¬ (101 : Nat) < 100 from by decide) hf
  have s3 : (∀ b j, w_el w2 b j = w_el w3 b j) ∧ ∀ b j, w_fd w2 b j = if b = v_ad (n_v vs 2) ∧ j = 158 then n_v vs 12 else w_fd w3 b j := s3
  obtain ⟨f18, hf⟩ := fc_un (show (1 : Nat) < 100 from by decide) hf
  have f18 : v_iv (n_v vs 12) = v_iv (n_v vs 5) + v_iv (n_v vs 11) := f18
  have q2 : n_v vs 2 = n_v vs 0 := f4.symm
  rw [q2] at f5
  rw [q2] at f6
  rw [q2] at f7
  rw [q2] at f8
  rw [q2] at s3
  have cr_0_160 : ta (w_ar ws (n_v vs 0) 160) = some 259 := tv_rg (th_fd hD hth r0 (g := GG_150) rfl (k := 160) (t := (2, 0, 0, [259])) rfl rfl)
  have hK_0_160 : ∀ j : Int, 0 ≤ j → j < 2010 → 0 ≤ w_ei ws (w_ar ws (n_v vs 0) 160) j ∧ w_ei ws (w_ar ws (n_v vs 0) 160) j ≤ 4 := fun j h0 h1 => th_el hD hth cr_0_160 (kd := 0) (n := 2010) (m := 2010) (lo := 0) (hi := 4) (rs := []) (L := []) rfl (by decide) (j := j.toNat) (by omega)
  have kz_0_157 : 0 ≤ w_fi ws (n_v vs 0) 157 ∧ w_fi ws (n_v vs 0) 157 ≤ 2010 := tv_rng (th_fd hD hth r0 (g := GG_150) rfl (k := 157) (t := (0, 0, 2010, [])) rfl rfl)
  have kz_0_158 : 0 ≤ w_fi ws (n_v vs 0) 158 ∧ w_fi ws (n_v vs 0) 158 ≤ 2009 := tv_rng (th_fd hD hth r0 (g := GG_150) rfl (k := 158) (t := (0, 0, 2009, [])) rfl rfl)
  have kz_0_159 : 0 ≤ w_fi ws (n_v vs 0) 159 ∧ w_fi ws (n_v vs 0) 159 ≤ 13 := tv_rng (th_fd hD hth r0 (g := GG_150) rfl (k := 159) (t := (0, 0, 13, [])) rfl rfl)
  obtain ⟨x, ex, hx⟩ := iv_ex (ta := ta) (lo := 0) (hi := 2010) (z := 0 + (1 * v_iv (n_v vs 6) + 0)) (by omega) (by omega) (by omega) (by omega)
  have ex2 : v_iv (Value.int x) = 0 + (1 * v_iv (n_v vs 6) + 0) := ex
  have ex3 : 0 ≤ v_iv (Value.int x) ∧ v_iv (Value.int x) ≤ 2010 := tv_rng hx
  have e_0 : n_v (vs ++ [Value.int x]) 0 = n_v vs 0 := n_v_old (by rw [hl]; decide)
  have e_1 : n_v (vs ++ [Value.int x]) 1 = n_v vs 1 := n_v_old (by rw [hl]; decide)
  have e_2 : n_v (vs ++ [Value.int x]) 2 = n_v vs 2 := n_v_old (by rw [hl]; decide)
  have e_18 : n_v (vs ++ [Value.int x]) 18 = Value.int x := n_v_new hl
  have nf0 : fc_1 (20, [2], [50, 2, 1, 158, 157, 160, 2, 12, 0, 7, 4, 3, 2, 0, 158, 0, 1, 2, 0, 157, 2, 7, 0, 3, 2, 0, 157, 0, 2010, 3, 14, 1, 10, 3, 0, 160, 5, 3, 2, 0, 157, 0, 1, 0, 0, 1, 10, 3, 0, 160, 5, 3, 2, 0, 157, 0, 1, 0, 4]) ws (vs ++ [Value.int x]) := by
    refine ⟨fun n hn => ?_, ?_⟩
    · have hn : n ∈ [2] := hn
      rw [List.length_append, hl]
      simp only [List.mem_cons, List.not_mem_nil, or_false] at hn
      show n < 18 + 1; omega
    · show ((w_fi ws (n_v (vs ++ [Value.int x]) 2) 158 + 1) ≤ w_fi ws (n_v (vs ++ [Value.int x]) 2) 157) ∧ ((w_fi ws (n_v (vs ++ [Value.int x]) 2) 157 ≤ 2010) ∧ ((w_ei ws (w_ar ws (n_v (vs ++ [Value.int x]) 2) 160) ((w_fi ws (n_v (vs ++ [Value.int x]) 2) 157 - 1)) = 0) ∨ (w_ei ws (w_ar ws (n_v (vs ++ [Value.int x]) 2) 160) ((w_fi ws (n_v (vs ++ [Value.int x]) 2) 157 - 1)) = 4)))
      rw [e_2]
      rw [q2]
      first | omega | grind
  have nf1 : fc_1 (20, [1, 2], [30, 0, 1, 0, 0, -1, 1, 158]) ws (vs ++ [Value.int x]) := by
    refine ⟨fun n hn => ?_, ?_⟩
    · have hn : n ∈ [1, 2] := hn
      rw [List.length_append, hl]
      simp only [List.mem_cons, List.not_mem_nil, or_false] at hn
      show n < 18 + 1; omega
    · show 1 * v_iv (n_v (vs ++ [Value.int x]) 1) + ((-1) * w_fi ws (n_v (vs ++ [Value.int x]) 2) 158 + 0) ≤ 0
      rw [e_1]
      rw [e_2]
      rw [q2]
      omega
  have nf2 : fc_1 (20, [2], [30, 0, 1, 1, 159]) ws (vs ++ [Value.int x]) := by
    refine ⟨fun n hn => ?_, ?_⟩
    · have hn : n ∈ [2] := hn
      rw [List.length_append, hl]
      simp only [List.mem_cons, List.not_mem_nil, or_false] at hn
      show n < 18 + 1; omega
    · show 1 * w_fi ws (n_v (vs ++ [Value.int x]) 2) 159 + 0 ≤ 0
      rw [e_2]
      rw [q2]
      omega
  have nf3 : fc_1 (20, [2], [30, 0, -1, 1, 159]) ws (vs ++ [Value.int x]) := by
    refine ⟨fun n hn => ?_, ?_⟩
    · have hn : n ∈ [2] := hn
      rw [List.length_append, hl]
      simp only [List.mem_cons, List.not_mem_nil, or_false] at hn
      show n < 18 + 1; omega
    · show (-1) * w_fi ws (n_v (vs ++ [Value.int x]) 2) 159 + 0 ≤ 0
      rw [e_2]
      rw [q2]
      omega
  have nf4 : fc_1 (20, [18, 2], [30, -2011, -1, 0, 0, -1, 1, 158]) ws (vs ++ [Value.int x]) := by
    refine ⟨fun n hn => ?_, ?_⟩
    · have hn : n ∈ [18, 2] := hn
      rw [List.length_append, hl]
      simp only [List.mem_cons, List.not_mem_nil, or_false] at hn
      show n < 18 + 1; omega
    · show (-1) * v_iv (n_v (vs ++ [Value.int x]) 18) + ((-1) * w_fi ws (n_v (vs ++ [Value.int x]) 2) 158 + 0) ≤ (-2011)
      rw [e_2]
      rw [e_18]
      rw [q2]
      omega
  have nf5 : fc_1 (24, [0, 2], []) ws (vs ++ [Value.int x]) := by
    refine ⟨fun n hn => ?_, ?_⟩
    · have hn : n ∈ [0, 2] := hn
      rw [List.length_append, hl]
      simp only [List.mem_cons, List.not_mem_nil, or_false] at hn
      show n < 18 + 1; omega
    · show n_v (vs ++ [Value.int x]) 0 = n_v (vs ++ [Value.int x]) 2
      first | rfl | simp only [e_0, e_2, q2]
  obtain ⟨x0, e0, _, _⟩ := tv_int t6 rfl
  have e1 : v_iv (n_v vs 6) = x0.toInt := by rw [e0]; rfl
  have ho : sy_ofs (vs ++ [Value.int x]) (18, 6, 0, 0) := by
    refine ⟨x, x0, by rw [List.getElem?_append_right (by rw [hl]; decide), hl]; rfl, ?_, ?_, ?_⟩
    · rw [List.getElem?_append_left (by rw [hl]; decide)]; exact n_v_some (by rw [hl]; decide) e0
    · show x0.toInt + 0 ≤ x.toInt; omega
    · show x.toInt ≤ x0.toInt + 0; omega
  exact ⟨fun q hq => (by cases hq), [Value.int x], ag_one hx, List.forall_mem_cons.mpr ⟨⟨show (20 : Nat) < 100 from by decide, nf0⟩, List.forall_mem_cons.mpr ⟨⟨show (20 : Nat) < 100 from by decide, nf1⟩, List.forall_mem_cons.mpr ⟨⟨show (20 : Nat) < 100 from by decide, nf2⟩, List.forall_mem_cons.mpr ⟨⟨show (20 : Nat) < 100 from by decide, nf3⟩, List.forall_mem_cons.mpr ⟨⟨show (20 : Nat) < 100 from by decide, nf4⟩, List.forall_mem_cons.mpr ⟨⟨show (24 : Nat) < 100 from by decide, nf5⟩, (fun _ h => (by cases h))⟩⟩⟩⟩⟩⟩, List.forall_mem_cons.mpr ⟨ho, (fun _ h => (by cases h))⟩⟩
def o_Mo_rule_at_f0_47 : or_T := (275, 19, [(0, (2, 0, 0, [150])), (1, (0, 0, 2009, [])), (2, (2, 0, 0, [150])), (5, (0, 0, 2009, [])), (6, (0, 0, 2010, [])), (11, (0, 1, 1, [])), (12, (0, 1, 2009, [])), (14, (0, 0, 2009, [])), (15, (0, 0, 2009, []))], [(23, [1, 15], [0, 1, -1]), (23, [6, 15], [-2011, -1, -1]), (23, [1, 14], [0, 1, -1]), (23, [6, 14], [-2011, -1, -1]), (24, [0, 2], []), (20, [2], [50, 2, 1, 158, 157, 160, 2, 12, 0, 7, 4, 3, 2, 0, 158, 0, 1, 2, 0, 157, 2, 7, 0, 3, 2, 0, 157, 0, 2010, 3, 14, 1, 10, 3, 0, 160, 5, 3, 2, 0, 157, 0, 1, 0, 0, 1, 10, 3, 0, 160, 5, 3, 2, 0, 157, 0, 1, 0, 4]), (20, [15, 2], [30, 0, 1, 0, 0, -1, 1, 158]), (20, [2], [30, 0, 1, 1, 159]), (20, [2], [30, 0, -1, 1, 159]), (102, [15], [0, 13008, 13009, 13158, 13159]), (23, [1, 15], [0, 1, -1]), (23, [6, 15], [-2011, -1, -1]), (23, [1, 14], [0, 1, -1]), (23, [6, 14], [-2011, -1, -1]), (102, [14], [0, 13008, 13009, 13158]), (23, [1, 14], [0, 1, -1]), (23, [6, 14], [-2011, -1, -1]), (101, [2, 12], [158]), (1, [12, 5, 11], [])], [], [(0, 0, 2010, [])], [(20, [2], [50, 2, 1, 158, 157, 160, 2, 12, 0, 7, 4, 3, 2, 0, 158, 0, 1, 2, 0, 157, 2, 7, 0, 3, 2, 0, 157, 0, 2010, 3, 14, 1, 10, 3, 0, 160, 5, 3, 2, 0, 157, 0, 1, 0, 0, 1, 10, 3, 0, 160, 5, 3, 2, 0, 157, 0, 1, 0, 4]), (20, [1, 2], [30, 0, 1, 0, 0, -1, 1, 158]), (20, [2], [30, 0, 1, 1, 159]), (20, [2], [30, 0, -1, 1, 159]), (20, [19, 2], [30, -2011, -1, 0, 0, -1, 1, 158]), (24, [0, 2], [])], [(19, 6, 0, 0)], [(12, 5, 1, 1), (12, 1, -4294967296, 2010), (1, 5, -4294967296, 2009), (5, 1, -4294967296, 2009)])
theorem oo_Mo_rule_at_f0_47 {kA : Nat → ClassId} : or_ok kA GG o_Mo_rule_at_f0_47 := by
  intro A ta ws vs hD hth hl hk hds hf
  have hl : vs.length = 19 := hl
  have hk : ∀ q ∈ ([(0, (2, 0, 0, [150])), (1, (0, 0, 2009, [])), (2, (2, 0, 0, [150])), (5, (0, 0, 2009, [])), (6, (0, 0, 2010, [])), (11, (0, 1, 1, [])), (12, (0, 1, 2009, [])), (14, (0, 0, 2009, [])), (15, (0, 0, 2009, []))] : List (Nat × tv_T)), tv_ok ta q.2 (n_v vs q.1) := hk
  obtain ⟨t0, hk⟩ := List.forall_mem_cons.mp hk
  have t0 : tv_ok ta (2, 0, 0, [150]) (n_v vs 0) := t0
  have r0 : ta (v_ad (n_v vs 0)) = some 150 := tv_rg t0
  obtain ⟨t1, hk⟩ := List.forall_mem_cons.mp hk
  have t1 : tv_ok ta (0, 0, 2009, []) (n_v vs 1) := t1
  have k1 : 0 ≤ v_iv (n_v vs 1) ∧ v_iv (n_v vs 1) ≤ 2009 := tv_rng t1
  obtain ⟨t2, hk⟩ := List.forall_mem_cons.mp hk
  have t2 : tv_ok ta (2, 0, 0, [150]) (n_v vs 2) := t2
  have r2 : ta (v_ad (n_v vs 2)) = some 150 := tv_rg t2
  obtain ⟨t5, hk⟩ := List.forall_mem_cons.mp hk
  have t5 : tv_ok ta (0, 0, 2009, []) (n_v vs 5) := t5
  have k5 : 0 ≤ v_iv (n_v vs 5) ∧ v_iv (n_v vs 5) ≤ 2009 := tv_rng t5
  obtain ⟨t6, hk⟩ := List.forall_mem_cons.mp hk
  have t6 : tv_ok ta (0, 0, 2010, []) (n_v vs 6) := t6
  have k6 : 0 ≤ v_iv (n_v vs 6) ∧ v_iv (n_v vs 6) ≤ 2010 := tv_rng t6
  obtain ⟨t11, hk⟩ := List.forall_mem_cons.mp hk
  have t11 : tv_ok ta (0, 1, 1, []) (n_v vs 11) := t11
  have k11 : 1 ≤ v_iv (n_v vs 11) ∧ v_iv (n_v vs 11) ≤ 1 := tv_rng t11
  obtain ⟨t12, hk⟩ := List.forall_mem_cons.mp hk
  have t12 : tv_ok ta (0, 1, 2009, []) (n_v vs 12) := t12
  have k12 : 1 ≤ v_iv (n_v vs 12) ∧ v_iv (n_v vs 12) ≤ 2009 := tv_rng t12
  obtain ⟨t14, hk⟩ := List.forall_mem_cons.mp hk
  have t14 : tv_ok ta (0, 0, 2009, []) (n_v vs 14) := t14
  have k14 : 0 ≤ v_iv (n_v vs 14) ∧ v_iv (n_v vs 14) ≤ 2009 := tv_rng t14
  obtain ⟨t15, hk⟩ := List.forall_mem_cons.mp hk
  have t15 : tv_ok ta (0, 0, 2009, []) (n_v vs 15) := t15
  have k15 : 0 ≤ v_iv (n_v vs 15) ∧ v_iv (n_v vs 15) ≤ 2009 := tv_rng t15
  have hds : ∀ q ∈ ([(12, 5, 1, 1), (12, 1, -4294967296, 2010), (1, 5, -4294967296, 2009), (5, 1, -4294967296, 2009)] : List of_T), n_iv vs q.2.1 + q.2.2.1 ≤ n_iv vs q.1 ∧ n_iv vs q.1 ≤ n_iv vs q.2.1 + q.2.2.2 := hds
  obtain ⟨d0, hds⟩ := List.forall_mem_cons.mp hds
  have d0 : v_iv (n_v vs 5) + 1 ≤ v_iv (n_v vs 12) ∧ v_iv (n_v vs 12) ≤ v_iv (n_v vs 5) + 1 := d0
  obtain ⟨d1, hds⟩ := List.forall_mem_cons.mp hds
  have d1 : v_iv (n_v vs 1) + (-4294967296) ≤ v_iv (n_v vs 12) ∧ v_iv (n_v vs 12) ≤ v_iv (n_v vs 1) + 2010 := d1
  obtain ⟨d2, hds⟩ := List.forall_mem_cons.mp hds
  have d2 : v_iv (n_v vs 5) + (-4294967296) ≤ v_iv (n_v vs 1) ∧ v_iv (n_v vs 1) ≤ v_iv (n_v vs 5) + 2009 := d2
  obtain ⟨d3, hds⟩ := List.forall_mem_cons.mp hds
  have d3 : v_iv (n_v vs 1) + (-4294967296) ≤ v_iv (n_v vs 5) ∧ v_iv (n_v vs 5) ≤ v_iv (n_v vs 1) + 2009 := d3
  have hf : fc_ok [(23, [1, 15], [0, 1, -1]), (23, [6, 15], [-2011, -1, -1]), (23, [1, 14], [0, 1, -1]), (23, [6, 14], [-2011, -1, -1]), (24, [0, 2], []), (20, [2], [50, 2, 1, 158, 157, 160, 2, 12, 0, 7, 4, 3, 2, 0, 158, 0, 1, 2, 0, 157, 2, 7, 0, 3, 2, 0, 157, 0, 2010, 3, 14, 1, 10, 3, 0, 160, 5, 3, 2, 0, 157, 0, 1, 0, 0, 1, 10, 3, 0, 160, 5, 3, 2, 0, 157, 0, 1, 0, 4]), (20, [15, 2], [30, 0, 1, 0, 0, -1, 1, 158]), (20, [2], [30, 0, 1, 1, 159]), (20, [2], [30, 0, -1, 1, 159]), (102, [15], [0, 13008, 13009, 13158, 13159]), (23, [1, 15], [0, 1, -1]), (23, [6, 15], [-2011, -1, -1]), (23, [1, 14], [0, 1, -1]), (23, [6, 14], [-2011, -1, -1]), (102, [14], [0, 13008, 13009, 13158]), (23, [1, 14], [0, 1, -1]), (23, [6, 14], [-2011, -1, -1]), (101, [2, 12], [158]), (1, [12, 5, 11], [])] ta ws vs := hf
  obtain ⟨f0, hf⟩ := fc_un (show (23 : Nat) < 100 from by decide) hf
  have f0 : 1 * v_iv (n_v vs 1) + ((-1) * v_iv (n_v vs 15) + 0) ≤ 0 := f0
  obtain ⟨f1, hf⟩ := fc_un (show (23 : Nat) < 100 from by decide) hf
  have f1 : (-1) * v_iv (n_v vs 6) + ((-1) * v_iv (n_v vs 15) + 0) ≤ (-2011) := f1
  obtain ⟨f2, hf⟩ := fc_un (show (23 : Nat) < 100 from by decide) hf
  have f2 : 1 * v_iv (n_v vs 1) + ((-1) * v_iv (n_v vs 14) + 0) ≤ 0 := f2
  obtain ⟨f3, hf⟩ := fc_un (show (23 : Nat) < 100 from by decide) hf
  have f3 : (-1) * v_iv (n_v vs 6) + ((-1) * v_iv (n_v vs 14) + 0) ≤ (-2011) := f3
  obtain ⟨f4, hf⟩ := fc_un (show (24 : Nat) < 100 from by decide) hf
  have f4 : n_v vs 0 = n_v vs 2 := f4
  obtain ⟨f5, hf⟩ := fc_un (show (20 : Nat) < 100 from by decide) hf
  have f5 : ((w_fi ws (n_v vs 2) 158 + 1) ≤ w_fi ws (n_v vs 2) 157) ∧ ((w_fi ws (n_v vs 2) 157 ≤ 2010) ∧ ((w_ei ws (w_ar ws (n_v vs 2) 160) ((w_fi ws (n_v vs 2) 157 - 1)) = 0) ∨ (w_ei ws (w_ar ws (n_v vs 2) 160) ((w_fi ws (n_v vs 2) 157 - 1)) = 4))) := f5
  obtain ⟨f6, hf⟩ := fc_un (show (20 : Nat) < 100 from by decide) hf
  have f6 : 1 * v_iv (n_v vs 15) + ((-1) * w_fi ws (n_v vs 2) 158 + 0) ≤ 0 := f6
  obtain ⟨f7, hf⟩ := fc_un (show (20 : Nat) < 100 from by decide) hf
  have f7 : 1 * w_fi ws (n_v vs 2) 159 + 0 ≤ 0 := f7
  obtain ⟨f8, hf⟩ := fc_un (show (20 : Nat) < 100 from by decide) hf
  have f8 : (-1) * w_fi ws (n_v vs 2) 159 + 0 ≤ 0 := f8
  obtain ⟨ta1, w1, le1, ⟨_, s1⟩, hf⟩ := fc_us (show ¬ (102 : Nat) < 100 from by decide) hf
  obtain ⟨f10, hf⟩ := fc_un (show (23 : Nat) < 100 from by decide) hf
  have f10 : 1 * v_iv (n_v vs 1) + ((-1) * v_iv (n_v vs 15) + 0) ≤ 0 := f10
  obtain ⟨f11, hf⟩ := fc_un (show (23 : Nat) < 100 from by decide) hf
  have f11 : (-1) * v_iv (n_v vs 6) + ((-1) * v_iv (n_v vs 15) + 0) ≤ (-2011) := f11
  obtain ⟨f12, hf⟩ := fc_un (show (23 : Nat) < 100 from by decide) hf
  have f12 : 1 * v_iv (n_v vs 1) + ((-1) * v_iv (n_v vs 14) + 0) ≤ 0 := f12
  obtain ⟨f13, hf⟩ := fc_un (show (23 : Nat) < 100 from by decide) hf
  have f13 : (-1) * v_iv (n_v vs 6) + ((-1) * v_iv (n_v vs 14) + 0) ≤ (-2011) := f13
  obtain ⟨ta2, w2, le2, ⟨_, s2⟩, hf⟩ := fc_us (show ¬ (102 : Nat) < 100 from by decide) hf
  obtain ⟨f15, hf⟩ := fc_un (show (23 : Nat) < 100 from by decide) hf
  have f15 : 1 * v_iv (n_v vs 1) + ((-1) * v_iv (n_v vs 14) + 0) ≤ 0 := f15
  obtain ⟨f16, hf⟩ := fc_un (show (23 : Nat) < 100 from by decide) hf
  have f16 : (-1) * v_iv (n_v vs 6) + ((-1) * v_iv (n_v vs 14) + 0) ≤ (-2011) := f16
  obtain ⟨ta3, w3, le3, ⟨_, s3⟩, hf⟩ := fc_us (show ¬ (101 : Nat) < 100 from by decide) hf
  have s3 : (∀ b j, w_el w2 b j = w_el w3 b j) ∧ ∀ b j, w_fd w2 b j = if b = v_ad (n_v vs 2) ∧ j = 158 then n_v vs 12 else w_fd w3 b j := s3
  obtain ⟨f18, hf⟩ := fc_un (show (1 : Nat) < 100 from by decide) hf
  have f18 : v_iv (n_v vs 12) = v_iv (n_v vs 5) + v_iv (n_v vs 11) := f18
  have q2 : n_v vs 2 = n_v vs 0 := f4.symm
  rw [q2] at f5
  rw [q2] at f6
  rw [q2] at f7
  rw [q2] at f8
  rw [q2] at s3
  have cr_0_160 : ta (w_ar ws (n_v vs 0) 160) = some 259 := tv_rg (th_fd hD hth r0 (g := GG_150) rfl (k := 160) (t := (2, 0, 0, [259])) rfl rfl)
  have hK_0_160 : ∀ j : Int, 0 ≤ j → j < 2010 → 0 ≤ w_ei ws (w_ar ws (n_v vs 0) 160) j ∧ w_ei ws (w_ar ws (n_v vs 0) 160) j ≤ 4 := fun j h0 h1 => th_el hD hth cr_0_160 (kd := 0) (n := 2010) (m := 2010) (lo := 0) (hi := 4) (rs := []) (L := []) rfl (by decide) (j := j.toNat) (by omega)
  have kz_0_157 : 0 ≤ w_fi ws (n_v vs 0) 157 ∧ w_fi ws (n_v vs 0) 157 ≤ 2010 := tv_rng (th_fd hD hth r0 (g := GG_150) rfl (k := 157) (t := (0, 0, 2010, [])) rfl rfl)
  have kz_0_158 : 0 ≤ w_fi ws (n_v vs 0) 158 ∧ w_fi ws (n_v vs 0) 158 ≤ 2009 := tv_rng (th_fd hD hth r0 (g := GG_150) rfl (k := 158) (t := (0, 0, 2009, [])) rfl rfl)
  have kz_0_159 : 0 ≤ w_fi ws (n_v vs 0) 159 ∧ w_fi ws (n_v vs 0) 159 ≤ 13 := tv_rng (th_fd hD hth r0 (g := GG_150) rfl (k := 159) (t := (0, 0, 13, [])) rfl rfl)
  obtain ⟨x, ex, hx⟩ := iv_ex (ta := ta) (lo := 0) (hi := 2010) (z := 0 + (1 * v_iv (n_v vs 6) + 0)) (by omega) (by omega) (by omega) (by omega)
  have ex2 : v_iv (Value.int x) = 0 + (1 * v_iv (n_v vs 6) + 0) := ex
  have ex3 : 0 ≤ v_iv (Value.int x) ∧ v_iv (Value.int x) ≤ 2010 := tv_rng hx
  have e_0 : n_v (vs ++ [Value.int x]) 0 = n_v vs 0 := n_v_old (by rw [hl]; decide)
  have e_1 : n_v (vs ++ [Value.int x]) 1 = n_v vs 1 := n_v_old (by rw [hl]; decide)
  have e_2 : n_v (vs ++ [Value.int x]) 2 = n_v vs 2 := n_v_old (by rw [hl]; decide)
  have e_19 : n_v (vs ++ [Value.int x]) 19 = Value.int x := n_v_new hl
  have nf0 : fc_1 (20, [2], [50, 2, 1, 158, 157, 160, 2, 12, 0, 7, 4, 3, 2, 0, 158, 0, 1, 2, 0, 157, 2, 7, 0, 3, 2, 0, 157, 0, 2010, 3, 14, 1, 10, 3, 0, 160, 5, 3, 2, 0, 157, 0, 1, 0, 0, 1, 10, 3, 0, 160, 5, 3, 2, 0, 157, 0, 1, 0, 4]) ws (vs ++ [Value.int x]) := by
    refine ⟨fun n hn => ?_, ?_⟩
    · have hn : n ∈ [2] := hn
      rw [List.length_append, hl]
      simp only [List.mem_cons, List.not_mem_nil, or_false] at hn
      show n < 19 + 1; omega
    · show ((w_fi ws (n_v (vs ++ [Value.int x]) 2) 158 + 1) ≤ w_fi ws (n_v (vs ++ [Value.int x]) 2) 157) ∧ ((w_fi ws (n_v (vs ++ [Value.int x]) 2) 157 ≤ 2010) ∧ ((w_ei ws (w_ar ws (n_v (vs ++ [Value.int x]) 2) 160) ((w_fi ws (n_v (vs ++ [Value.int x]) 2) 157 - 1)) = 0) ∨ (w_ei ws (w_ar ws (n_v (vs ++ [Value.int x]) 2) 160) ((w_fi ws (n_v (vs ++ [Value.int x]) 2) 157 - 1)) = 4)))
      rw [e_2]
      rw [q2]
      first | omega | grind
  have nf1 : fc_1 (20, [1, 2], [30, 0, 1, 0, 0, -1, 1, 158]) ws (vs ++ [Value.int x]) := by
    refine ⟨fun n hn => ?_, ?_⟩
    · have hn : n ∈ [1, 2] := hn
      rw [List.length_append, hl]
      simp only [List.mem_cons, List.not_mem_nil, or_false] at hn
      show n < 19 + 1; omega
    · show 1 * v_iv (n_v (vs ++ [Value.int x]) 1) + ((-1) * w_fi ws (n_v (vs ++ [Value.int x]) 2) 158 + 0) ≤ 0
      rw [e_1]
      rw [e_2]
      rw [q2]
      omega
  have nf2 : fc_1 (20, [2], [30, 0, 1, 1, 159]) ws (vs ++ [Value.int x]) := by
    refine ⟨fun n hn => ?_, ?_⟩
    · have hn : n ∈ [2] := hn
      rw [List.length_append, hl]
      simp only [List.mem_cons, List.not_mem_nil, or_false] at hn
      show n < 19 + 1; omega
    · show 1 * w_fi ws (n_v (vs ++ [Value.int x]) 2) 159 + 0 ≤ 0
      rw [e_2]
      rw [q2]
      omega
  have nf3 : fc_1 (20, [2], [30, 0, -1, 1, 159]) ws (vs ++ [Value.int x]) := by
    refine ⟨fun n hn => ?_, ?_⟩
    · have hn : n ∈ [2] := hn
      rw [List.length_append, hl]
      simp only [List.mem_cons, List.not_mem_nil, or_false] at hn
      show n < 19 + 1; omega
    · show (-1) * w_fi ws (n_v (vs ++ [Value.int x]) 2) 159 + 0 ≤ 0
      rw [e_2]
      rw [q2]
      omega
  have nf4 : fc_1 (20, [19, 2], [30, -2011, -1, 0, 0, -1, 1, 158]) ws (vs ++ [Value.int x]) := by
    refine ⟨fun n hn => ?_, ?_⟩
    · have hn : n ∈ [19, 2] := hn
      rw [List.length_append, hl]
      simp only [List.mem_cons, List.not_mem_nil, or_false] at hn
      show n < 19 + 1; omega
    · show (-1) * v_iv (n_v (vs ++ [Value.int x]) 19) + ((-1) * w_fi ws (n_v (vs ++ [Value.int x]) 2) 158 + 0) ≤ (-2011)
      rw [e_2]
      rw [e_19]
      rw [q2]
      omega
  have nf5 : fc_1 (24, [0, 2], []) ws (vs ++ [Value.int x]) := by
    refine ⟨fun n hn => ?_, ?_⟩
    · have hn : n ∈ [0, 2] := hn
      rw [List.length_append, hl]
      simp only [List.mem_cons, List.not_mem_nil, or_false] at hn
      show n < 19 + 1; omega
    · show n_v (vs ++ [Value.int x]) 0 = n_v (vs ++ [Value.int x]) 2
      first | rfl | simp only [e_0, e_2, q2]
  obtain ⟨x0, e0, _, _⟩ := tv_int t6 rfl
  have e1 : v_iv (n_v vs 6) = x0.toInt := by rw [e0]; rfl
  have ho : sy_ofs (vs ++ [Value.int x]) (19, 6, 0, 0) := by
    refine ⟨x, x0, by rw [List.getElem?_append_right (by rw [hl]; decide), hl]; rfl, ?_, ?_, ?_⟩
    · rw [List.getElem?_append_left (by rw [hl]; decide)]; exact n_v_some (by rw [hl]; decide) e0
    · show x0.toInt + 0 ≤ x.toInt; omega
    · show x.toInt ≤ x0.toInt + 0; omega
  exact ⟨fun q hq => (by cases hq), [Value.int x], ag_one hx, List.forall_mem_cons.mpr ⟨⟨show (20 : Nat) < 100 from by decide, nf0⟩, List.forall_mem_cons.mpr ⟨⟨show (20 : Nat) < 100 from by decide, nf1⟩, List.forall_mem_cons.mpr ⟨⟨show (20 : Nat) < 100 from by decide, nf2⟩, List.forall_mem_cons.mpr ⟨⟨show (20 : Nat) < 100 from by decide, nf3⟩, List.forall_mem_cons.mpr ⟨⟨show (20 : Nat) < 100 from by decide, nf4⟩, List.forall_mem_cons.mpr ⟨⟨show (24 : Nat) < 100 from by decide, nf5⟩, (fun _ h => (by cases h))⟩⟩⟩⟩⟩⟩, List.forall_mem_cons.mpr ⟨ho, (fun _ h => (by cases h))⟩⟩
def o_Mo_rule_at_f0_48 : or_T := (275, 34, [(0, (2, 0, 0, [150])), (1, (0, 0, 2009, [])), (2, (2, 0, 0, [150])), (5, (0, 0, 2009, [])), (6, (0, 0, 2010, [])), (11, (0, 1, 1, [])), (12, (0, 1, 2009, [])), (14, (0, 0, 2009, [])), (15, (0, 0, 2009, [])), (19, (2, 0, 0, [198]))], [(23, [1, 15], [0, 1, -1]), (23, [6, 15], [-2011, -1, -1]), (23, [1, 14], [0, 1, -1]), (23, [6, 14], [-2011, -1, -1]), (24, [0, 2], []), (20, [2], [50, 2, 1, 158, 157, 160, 2, 12, 0, 7, 4, 3, 2, 0, 158, 0, 1, 2, 0, 157, 2, 7, 0, 3, 2, 0, 157, 0, 2010, 3, 14, 1, 10, 3, 0, 160, 5, 3, 2, 0, 157, 0, 1, 0, 0, 1, 10, 3, 0, 160, 5, 3, 2, 0, 157, 0, 1, 0, 4]), (20, [15, 2], [30, 0, 1, 0, 0, -1, 1, 158]), (20, [2], [30, 0, 1, 1, 159]), (20, [2], [30, 0, -1, 1, 159]), (100, [19, 30, 33], []), (9, [19, 2], [73]), (23, [1, 15], [0, 1, -1]), (23, [6, 15], [-2011, -1, -1]), (23, [1, 14], [0, 1, -1]), (23, [6, 14], [-2011, -1, -1]), (20, [2], [50, 2, 1, 158, 157, 160, 2, 12, 0, 7, 4, 3, 2, 0, 158, 0, 1, 2, 0, 157, 2, 7, 0, 3, 2, 0, 157, 0, 2010, 3, 14, 1, 10, 3, 0, 160, 5, 3, 2, 0, 157, 0, 1, 0, 0, 1, 10, 3, 0, 160, 5, 3, 2, 0, 157, 0, 1, 0, 4]), (20, [15, 2], [30, 0, 1, 0, 0, -1, 1, 158]), (20, [2], [30, 0, 1, 1, 159]), (20, [2], [30, 0, -1, 1, 159]), (102, [15], [0, 13008, 13009, 13158, 13159]), (23, [1, 15], [0, 1, -1]), (23, [6, 15], [-2011, -1, -1]), (23, [1, 14], [0, 1, -1]), (23, [6, 14], [-2011, -1, -1]), (102, [14], [0, 13008, 13009, 13158]), (23, [1, 14], [0, 1, -1]), (23, [6, 14], [-2011, -1, -1]), (101, [2, 12], [158]), (1, [12, 5, 11], [])], [], [(0, 0, 2010, [])], [(20, [2], [50, 2, 1, 158, 157, 160, 2, 12, 0, 7, 4, 3, 2, 0, 158, 0, 1, 2, 0, 157, 2, 7, 0, 3, 2, 0, 157, 0, 2010, 3, 14, 1, 10, 3, 0, 160, 5, 3, 2, 0, 157, 0, 1, 0, 0, 1, 10, 3, 0, 160, 5, 3, 2, 0, 157, 0, 1, 0, 4]), (20, [1, 2], [30, 0, 1, 0, 0, -1, 1, 158]), (20, [2], [30, 0, 1, 1, 159]), (20, [2], [30, 0, -1, 1, 159]), (20, [34, 2], [30, -2011, -1, 0, 0, -1, 1, 158]), (24, [0, 2], [])], [(34, 6, 0, 0)], [(12, 5, 1, 1), (12, 1, -4294967296, 2010), (1, 5, -4294967296, 2009), (5, 1, -4294967296, 2009)])
theorem oo_Mo_rule_at_f0_48 {kA : Nat → ClassId} : or_ok kA GG o_Mo_rule_at_f0_48 := by
  intro A ta ws vs hD hth hl hk hds hf
  have hl : vs.length = 34 := hl
  have hk : ∀ q ∈ ([(0, (2, 0, 0, [150])), (1, (0, 0, 2009, [])), (2, (2, 0, 0, [150])), (5, (0, 0, 2009, [])), (6, (0, 0, 2010, [])), (11, (0, 1, 1, [])), (12, (0, 1, 2009, [])), (14, (0, 0, 2009, [])), (15, (0, 0, 2009, [])), (19, (2, 0, 0, [198]))] : List (Nat × tv_T)), tv_ok ta q.2 (n_v vs q.1) := hk
  obtain ⟨t0, hk⟩ := List.forall_mem_cons.mp hk
  have t0 : tv_ok ta (2, 0, 0, [150]) (n_v vs 0) := t0
  have r0 : ta (v_ad (n_v vs 0)) = some 150 := tv_rg t0
  obtain ⟨t1, hk⟩ := List.forall_mem_cons.mp hk
  have t1 : tv_ok ta (0, 0, 2009, []) (n_v vs 1) := t1
  have k1 : 0 ≤ v_iv (n_v vs 1) ∧ v_iv (n_v vs 1) ≤ 2009 := tv_rng t1
  obtain ⟨t2, hk⟩ := List.forall_mem_cons.mp hk
  have t2 : tv_ok ta (2, 0, 0, [150]) (n_v vs 2) := t2
  have r2 : ta (v_ad (n_v vs 2)) = some 150 := tv_rg t2
  obtain ⟨t5, hk⟩ := List.forall_mem_cons.mp hk
  have t5 : tv_ok ta (0, 0, 2009, []) (n_v vs 5) := t5
  have k5 : 0 ≤ v_iv (n_v vs 5) ∧ v_iv (n_v vs 5) ≤ 2009 := tv_rng t5
  obtain ⟨t6, hk⟩ := List.forall_mem_cons.mp hk
  have t6 : tv_ok ta (0, 0, 2010, []) (n_v vs 6) := t6
  have k6 : 0 ≤ v_iv (n_v vs 6) ∧ v_iv (n_v vs 6) ≤ 2010 := tv_rng t6
  obtain ⟨t11, hk⟩ := List.forall_mem_cons.mp hk
  have t11 : tv_ok ta (0, 1, 1, []) (n_v vs 11) := t11
  have k11 : 1 ≤ v_iv (n_v vs 11) ∧ v_iv (n_v vs 11) ≤ 1 := tv_rng t11
  obtain ⟨t12, hk⟩ := List.forall_mem_cons.mp hk
  have t12 : tv_ok ta (0, 1, 2009, []) (n_v vs 12) := t12
  have k12 : 1 ≤ v_iv (n_v vs 12) ∧ v_iv (n_v vs 12) ≤ 2009 := tv_rng t12
  obtain ⟨t14, hk⟩ := List.forall_mem_cons.mp hk
  have t14 : tv_ok ta (0, 0, 2009, []) (n_v vs 14) := t14
  have k14 : 0 ≤ v_iv (n_v vs 14) ∧ v_iv (n_v vs 14) ≤ 2009 := tv_rng t14
  obtain ⟨t15, hk⟩ := List.forall_mem_cons.mp hk
  have t15 : tv_ok ta (0, 0, 2009, []) (n_v vs 15) := t15
  have k15 : 0 ≤ v_iv (n_v vs 15) ∧ v_iv (n_v vs 15) ≤ 2009 := tv_rng t15
  obtain ⟨t19, hk⟩ := List.forall_mem_cons.mp hk
  have t19 : tv_ok ta (2, 0, 0, [198]) (n_v vs 19) := t19
  have r19 : ta (v_ad (n_v vs 19)) = some 198 := tv_rg t19
  have hds : ∀ q ∈ ([(12, 5, 1, 1), (12, 1, -4294967296, 2010), (1, 5, -4294967296, 2009), (5, 1, -4294967296, 2009)] : List of_T), n_iv vs q.2.1 + q.2.2.1 ≤ n_iv vs q.1 ∧ n_iv vs q.1 ≤ n_iv vs q.2.1 + q.2.2.2 := hds
  obtain ⟨d0, hds⟩ := List.forall_mem_cons.mp hds
  have d0 : v_iv (n_v vs 5) + 1 ≤ v_iv (n_v vs 12) ∧ v_iv (n_v vs 12) ≤ v_iv (n_v vs 5) + 1 := d0
  obtain ⟨d1, hds⟩ := List.forall_mem_cons.mp hds
  have d1 : v_iv (n_v vs 1) + (-4294967296) ≤ v_iv (n_v vs 12) ∧ v_iv (n_v vs 12) ≤ v_iv (n_v vs 1) + 2010 := d1
  obtain ⟨d2, hds⟩ := List.forall_mem_cons.mp hds
  have d2 : v_iv (n_v vs 5) + (-4294967296) ≤ v_iv (n_v vs 1) ∧ v_iv (n_v vs 1) ≤ v_iv (n_v vs 5) + 2009 := d2
  obtain ⟨d3, hds⟩ := List.forall_mem_cons.mp hds
  have d3 : v_iv (n_v vs 1) + (-4294967296) ≤ v_iv (n_v vs 5) ∧ v_iv (n_v vs 5) ≤ v_iv (n_v vs 1) + 2009 := d3
  have hf : fc_ok [(23, [1, 15], [0, 1, -1]), (23, [6, 15], [-2011, -1, -1]), (23, [1, 14], [0, 1, -1]), (23, [6, 14], [-2011, -1, -1]), (24, [0, 2], []), (20, [2], [50, 2, 1, 158, 157, 160, 2, 12, 0, 7, 4, 3, 2, 0, 158, 0, 1, 2, 0, 157, 2, 7, 0, 3, 2, 0, 157, 0, 2010, 3, 14, 1, 10, 3, 0, 160, 5, 3, 2, 0, 157, 0, 1, 0, 0, 1, 10, 3, 0, 160, 5, 3, 2, 0, 157, 0, 1, 0, 4]), (20, [15, 2], [30, 0, 1, 0, 0, -1, 1, 158]), (20, [2], [30, 0, 1, 1, 159]), (20, [2], [30, 0, -1, 1, 159]), (100, [19, 30, 33], []), (9, [19, 2], [73]), (23, [1, 15], [0, 1, -1]), (23, [6, 15], [-2011, -1, -1]), (23, [1, 14], [0, 1, -1]), (23, [6, 14], [-2011, -1, -1]), (20, [2], [50, 2, 1, 158, 157, 160, 2, 12, 0, 7, 4, 3, 2, 0, 158, 0, 1, 2, 0, 157, 2, 7, 0, 3, 2, 0, 157, 0, 2010, 3, 14, 1, 10, 3, 0, 160, 5, 3, 2, 0, 157, 0, 1, 0, 0, 1, 10, 3, 0, 160, 5, 3, 2, 0, 157, 0, 1, 0, 4]), (20, [15, 2], [30, 0, 1, 0, 0, -1, 1, 158]), (20, [2], [30, 0, 1, 1, 159]), (20, [2], [30, 0, -1, 1, 159]), (102, [15], [0, 13008, 13009, 13158, 13159]), (23, [1, 15], [0, 1, -1]), (23, [6, 15], [-2011, -1, -1]), (23, [1, 14], [0, 1, -1]), (23, [6, 14], [-2011, -1, -1]), (102, [14], [0, 13008, 13009, 13158]), (23, [1, 14], [0, 1, -1]), (23, [6, 14], [-2011, -1, -1]), (101, [2, 12], [158]), (1, [12, 5, 11], [])] ta ws vs := hf
  obtain ⟨f0, hf⟩ := fc_un (show (23 : Nat) < 100 from by decide) hf
  have f0 : 1 * v_iv (n_v vs 1) + ((-1) * v_iv (n_v vs 15) + 0) ≤ 0 := f0
  obtain ⟨f1, hf⟩ := fc_un (show (23 : Nat) < 100 from by decide) hf
  have f1 : (-1) * v_iv (n_v vs 6) + ((-1) * v_iv (n_v vs 15) + 0) ≤ (-2011) := f1
  obtain ⟨f2, hf⟩ := fc_un (show (23 : Nat) < 100 from by decide) hf
  have f2 : 1 * v_iv (n_v vs 1) + ((-1) * v_iv (n_v vs 14) + 0) ≤ 0 := f2
  obtain ⟨f3, hf⟩ := fc_un (show (23 : Nat) < 100 from by decide) hf
  have f3 : (-1) * v_iv (n_v vs 6) + ((-1) * v_iv (n_v vs 14) + 0) ≤ (-2011) := f3
  obtain ⟨f4, hf⟩ := fc_un (show (24 : Nat) < 100 from by decide) hf
  have f4 : n_v vs 0 = n_v vs 2 := f4
  obtain ⟨f5, hf⟩ := fc_un (show (20 : Nat) < 100 from by decide) hf
  have f5 : ((w_fi ws (n_v vs 2) 158 + 1) ≤ w_fi ws (n_v vs 2) 157) ∧ ((w_fi ws (n_v vs 2) 157 ≤ 2010) ∧ ((w_ei ws (w_ar ws (n_v vs 2) 160) ((w_fi ws (n_v vs 2) 157 - 1)) = 0) ∨ (w_ei ws (w_ar ws (n_v vs 2) 160) ((w_fi ws (n_v vs 2) 157 - 1)) = 4))) := f5
  obtain ⟨f6, hf⟩ := fc_un (show (20 : Nat) < 100 from by decide) hf
  have f6 : 1 * v_iv (n_v vs 15) + ((-1) * w_fi ws (n_v vs 2) 158 + 0) ≤ 0 := f6
  obtain ⟨f7, hf⟩ := fc_un (show (20 : Nat) < 100 from by decide) hf
  have f7 : 1 * w_fi ws (n_v vs 2) 159 + 0 ≤ 0 := f7
  obtain ⟨f8, hf⟩ := fc_un (show (20 : Nat) < 100 from by decide) hf
  have f8 : (-1) * w_fi ws (n_v vs 2) 159 + 0 ≤ 0 := f8
  obtain ⟨ta1, w1, le1, ⟨_, s1⟩, hf⟩ := fc_us (show ¬ (100 : Nat) < 100 from by decide) hf
  have s1 : (∀ b j, w_el ws b j = if b = v_ad (n_v vs 19) ∧ j = (v_iv (n_v vs 30)).toNat then v_iv (n_v vs 33) else w_el w1 b j) ∧ ∀ b k, w_fd ws b k = w_fd w1 b k := s1
  obtain ⟨f10, hf⟩ := fc_un (show (9 : Nat) < 100 from by decide) hf
  have f10 : n_v vs 19 = w_fd w1 (v_ad (n_v vs 2)) 73 := f10
  obtain ⟨f11, hf⟩ := fc_un (show (23 : Nat) < 100 from by decide) hf
  have f11 : 1 * v_iv (n_v vs 1) + ((-1) * v_iv (n_v vs 15) + 0) ≤ 0 := f11
  obtain ⟨f12, hf⟩ := fc_un (show (23 : Nat) < 100 from by decide) hf
  have f12 : (-1) * v_iv (n_v vs 6) + ((-1) * v_iv (n_v vs 15) + 0) ≤ (-2011) := f12
  obtain ⟨f13, hf⟩ := fc_un (show (23 : Nat) < 100 from by decide) hf
  have f13 : 1 * v_iv (n_v vs 1) + ((-1) * v_iv (n_v vs 14) + 0) ≤ 0 := f13
  obtain ⟨f14, hf⟩ := fc_un (show (23 : Nat) < 100 from by decide) hf
  have f14 : (-1) * v_iv (n_v vs 6) + ((-1) * v_iv (n_v vs 14) + 0) ≤ (-2011) := f14
  obtain ⟨f15, hf⟩ := fc_un (show (20 : Nat) < 100 from by decide) hf
  have f15 : ((w_fi w1 (n_v vs 2) 158 + 1) ≤ w_fi w1 (n_v vs 2) 157) ∧ ((w_fi w1 (n_v vs 2) 157 ≤ 2010) ∧ ((w_ei w1 (w_ar w1 (n_v vs 2) 160) ((w_fi w1 (n_v vs 2) 157 - 1)) = 0) ∨ (w_ei w1 (w_ar w1 (n_v vs 2) 160) ((w_fi w1 (n_v vs 2) 157 - 1)) = 4))) := f15
  obtain ⟨f16, hf⟩ := fc_un (show (20 : Nat) < 100 from by decide) hf
  have f16 : 1 * v_iv (n_v vs 15) + ((-1) * w_fi w1 (n_v vs 2) 158 + 0) ≤ 0 := f16
  obtain ⟨f17, hf⟩ := fc_un (show (20 : Nat) < 100 from by decide) hf
  have f17 : 1 * w_fi w1 (n_v vs 2) 159 + 0 ≤ 0 := f17
  obtain ⟨f18, hf⟩ := fc_un (show (20 : Nat) < 100 from by decide) hf
  have f18 : (-1) * w_fi w1 (n_v vs 2) 159 + 0 ≤ 0 := f18
  obtain ⟨ta2, w2, le2, ⟨_, s2⟩, hf⟩ := fc_us (show ¬ (102 : Nat) < 100 from by decide) hf
  obtain ⟨f20, hf⟩ := fc_un (show (23 : Nat) < 100 from by decide) hf
  have f20 : 1 * v_iv (n_v vs 1) + ((-1) * v_iv (n_v vs 15) + 0) ≤ 0 := f20
  obtain ⟨f21, hf⟩ := fc_un (show (23 : Nat) < 100 from by decide) hf
  have f21 : (-1) * v_iv (n_v vs 6) + ((-1) * v_iv (n_v vs 15) + 0) ≤ (-2011) := f21
  obtain ⟨f22, hf⟩ := fc_un (show (23 : Nat) < 100 from by decide) hf
  have f22 : 1 * v_iv (n_v vs 1) + ((-1) * v_iv (n_v vs 14) + 0) ≤ 0 := f22
  obtain ⟨f23, hf⟩ := fc_un (show (23 : Nat) < 100 from by decide) hf
  have f23 : (-1) * v_iv (n_v vs 6) + ((-1) * v_iv (n_v vs 14) + 0) ≤ (-2011) := f23
  obtain ⟨ta3, w3, le3, ⟨_, s3⟩, hf⟩ := fc_us (show ¬ (102 : Nat) < 100 from by decide) hf
  obtain ⟨f25, hf⟩ := fc_un (show (23 : Nat) < 100 from by decide) hf
  have f25 : 1 * v_iv (n_v vs 1) + ((-1) * v_iv (n_v vs 14) + 0) ≤ 0 := f25
  obtain ⟨f26, hf⟩ := fc_un (show (23 : Nat) < 100 from by decide) hf
  have f26 : (-1) * v_iv (n_v vs 6) + ((-1) * v_iv (n_v vs 14) + 0) ≤ (-2011) := f26
  obtain ⟨ta4, w4, le4, ⟨_, s4⟩, hf⟩ := fc_us (show ¬ (101 : Nat) < 100 from by decide) hf
  have s4 : (∀ b j, w_el w3 b j = w_el w4 b j) ∧ ∀ b j, w_fd w3 b j = if b = v_ad (n_v vs 2) ∧ j = 158 then n_v vs 12 else w_fd w4 b j := s4
  obtain ⟨f28, hf⟩ := fc_un (show (1 : Nat) < 100 from by decide) hf
  have f28 : v_iv (n_v vs 12) = v_iv (n_v vs 5) + v_iv (n_v vs 11) := f28
  have q2 : n_v vs 2 = n_v vs 0 := f4.symm
  rw [q2] at f5
  rw [q2] at f6
  rw [q2] at f7
  rw [q2] at f8
  rw [q2] at f10
  rw [q2] at f15
  rw [q2] at f16
  rw [q2] at f17
  rw [q2] at f18
  rw [q2] at s4
  have ar_0_73_1 : w_ar w1 (n_v vs 0) 73 = w_ar ws (n_v vs 0) 73 := by show v_ad (w_fd w1 _ _) = v_ad (w_fd ws _ _); rw [s1.2]
  have cr_0_73 : ta (w_ar ws (n_v vs 0) 73) = some 198 := tv_rg (th_fd hD hth r0 (g := GG_150) rfl (k := 73) (t := (2, 0, 0, [198])) rfl rfl)
  have ar_0_160_1 : w_ar w1 (n_v vs 0) 160 = w_ar ws (n_v vs 0) 160 := by show v_ad (w_fd w1 _ _) = v_ad (w_fd ws _ _); rw [s1.2]
  have cr_0_160 : ta (w_ar ws (n_v vs 0) 160) = some 259 := tv_rg (th_fd hD hth r0 (g := GG_150) rfl (k := 160) (t := (2, 0, 0, [259])) rfl rfl)
  have ad_19 : v_ad (n_v vs 19) = w_ar ws (n_v vs 0) 73 := (congrArg v_ad f10).trans ar_0_73_1
  rw [ar_0_160_1] at f15
  have fe_0_157_1 : w_fi ws (n_v vs 0) 157 = w_fi w1 (n_v vs 0) 157 := congrArg v_iv (s1.2 _ _)
  have fe_0_158_1 : w_fi ws (n_v vs 0) 158 = w_fi w1 (n_v vs 0) 158 := congrArg v_iv (s1.2 _ _)
  have fe_0_159_1 : w_fi ws (n_v vs 0) 159 = w_fi w1 (n_v vs 0) 159 := congrArg v_iv (s1.2 _ _)
  have hE_0_160_1 : ∀ j : Int, w_ei ws (w_ar ws (n_v vs 0) 160) j = w_ei w1 (w_ar ws (n_v vs 0) 160) j := fun j => by unfold w_ei; rw [s1.1, if_neg (fun e => by have e1 := e.1; rw [← e1] at r19; rw [cr_0_160] at r19; exact absurd (Option.some.inj r19) (by decide))]
  have hK_0_160 : ∀ j : Int, 0 ≤ j → j < 2010 → 0 ≤ w_ei ws (w_ar ws (n_v vs 0) 160) j ∧ w_ei ws (w_ar ws (n_v vs 0) 160) j ≤ 4 := fun j h0 h1 => th_el hD hth cr_0_160 (kd := 0) (n := 2010) (m := 2010) (lo := 0) (hi := 4) (rs := []) (L := []) rfl (by decide) (j := j.toNat) (by omega)
  have kz_0_157 : 0 ≤ w_fi ws (n_v vs 0) 157 ∧ w_fi ws (n_v vs 0) 157 ≤ 2010 := tv_rng (th_fd hD hth r0 (g := GG_150) rfl (k := 157) (t := (0, 0, 2010, [])) rfl rfl)
  have kz_0_158 : 0 ≤ w_fi ws (n_v vs 0) 158 ∧ w_fi ws (n_v vs 0) 158 ≤ 2009 := tv_rng (th_fd hD hth r0 (g := GG_150) rfl (k := 158) (t := (0, 0, 2009, [])) rfl rfl)
  have kz_0_159 : 0 ≤ w_fi ws (n_v vs 0) 159 ∧ w_fi ws (n_v vs 0) 159 ≤ 13 := tv_rng (th_fd hD hth r0 (g := GG_150) rfl (k := 159) (t := (0, 0, 13, [])) rfl rfl)
  obtain ⟨x, ex, hx⟩ := iv_ex (ta := ta) (lo := 0) (hi := 2010) (z := 0 + (1 * v_iv (n_v vs 6) + 0)) (by omega) (by omega) (by omega) (by omega)
  have ex2 : v_iv (Value.int x) = 0 + (1 * v_iv (n_v vs 6) + 0) := ex
  have ex3 : 0 ≤ v_iv (Value.int x) ∧ v_iv (Value.int x) ≤ 2010 := tv_rng hx
  have e_0 : n_v (vs ++ [Value.int x]) 0 = n_v vs 0 := n_v_old (by rw [hl]; decide)
  have e_1 : n_v (vs ++ [Value.int x]) 1 = n_v vs 1 := n_v_old (by rw [hl]; decide)
  have e_2 : n_v (vs ++ [Value.int x]) 2 = n_v vs 2 := n_v_old (by rw [hl]; decide)
  have e_34 : n_v (vs ++ [Value.int x]) 34 = Value.int x := n_v_new hl
  have nf0 : fc_1 (20, [2], [50, 2, 1, 158, 157, 160, 2, 12, 0, 7, 4, 3, 2, 0, 158, 0, 1, 2, 0, 157, 2, 7, 0, 3, 2, 0, 157, 0, 2010, 3, 14, 1, 10, 3, 0, 160, 5, 3, 2, 0, 157, 0, 1, 0, 0, 1, 10, 3, 0, 160, 5, 3, 2, 0, 157, 0, 1, 0, 4]) ws (vs ++ [Value.int x]) := by
    refine ⟨fun n hn => ?_, ?_⟩
    · have hn : n ∈ [2] := hn
      rw [List.length_append, hl]
      simp only [List.mem_cons, List.not_mem_nil, or_false] at hn
      show n < 34 + 1; omega
    · show ((w_fi ws (n_v (vs ++ [Value.int x]) 2) 158 + 1) ≤ w_fi ws (n_v (vs ++ [Value.int x]) 2) 157) ∧ ((w_fi ws (n_v (vs ++ [Value.int x]) 2) 157 ≤ 2010) ∧ ((w_ei ws (w_ar ws (n_v (vs ++ [Value.int x]) 2) 160) ((w_fi ws (n_v (vs ++ [Value.int x]) 2) 157 - 1)) = 0) ∨ (w_ei ws (w_ar ws (n_v (vs ++ [Value.int x]) 2) 160) ((w_fi ws (n_v (vs ++ [Value.int x]) 2) 157 - 1)) = 4)))
      rw [e_2]
      rw [q2]
      first | omega | grind
  have nf1 : fc_1 (20, [1, 2], [30, 0, 1, 0, 0, -1, 1, 158]) ws (vs ++ [Value.int x]) := by
    refine ⟨fun n hn => ?_, ?_⟩
    · have hn : n ∈ [1, 2] := hn
      rw [List.length_append, hl]
      simp only [List.mem_cons, List.not_mem_nil, or_false] at hn
      show n < 34 + 1; omega
    · show 1 * v_iv (n_v (vs ++ [Value.int x]) 1) + ((-1) * w_fi ws (n_v (vs ++ [Value.int x]) 2) 158 + 0) ≤ 0
      rw [e_1]
      rw [e_2]
      rw [q2]
      omega
  have nf2 : fc_1 (20, [2], [30, 0, 1, 1, 159]) ws (vs ++ [Value.int x]) := by
    refine ⟨fun n hn => ?_, ?_⟩
    · have hn : n ∈ [2] := hn
      rw [List.length_append, hl]
      simp only [List.mem_cons, List.not_mem_nil, or_false] at hn
      show n < 34 + 1; omega
    · show 1 * w_fi ws (n_v (vs ++ [Value.int x]) 2) 159 + 0 ≤ 0
      rw [e_2]
      rw [q2]
      omega
  have nf3 : fc_1 (20, [2], [30, 0, -1, 1, 159]) ws (vs ++ [Value.int x]) := by
    refine ⟨fun n hn => ?_, ?_⟩
    · have hn : n ∈ [2] := hn
      rw [List.length_append, hl]
      simp only [List.mem_cons, List.not_mem_nil, or_false] at hn
      show n < 34 + 1; omega
    · show (-1) * w_fi ws (n_v (vs ++ [Value.int x]) 2) 159 + 0 ≤ 0
      rw [e_2]
      rw [q2]
      omega
  have nf4 : fc_1 (20, [34, 2], [30, -2011, -1, 0, 0, -1, 1, 158]) ws (vs ++ [Value.int x]) := by
    refine ⟨fun n hn => ?_, ?_⟩
    · have hn : n ∈ [34, 2] := hn
      rw [List.length_append, hl]
      simp only [List.mem_cons, List.not_mem_nil, or_false] at hn
      show n < 34 + 1; omega
    · show (-1) * v_iv (n_v (vs ++ [Value.int x]) 34) + ((-1) * w_fi ws (n_v (vs ++ [Value.int x]) 2) 158 + 0) ≤ (-2011)
      rw [e_2]
      rw [e_34]
      rw [q2]
      omega
  have nf5 : fc_1 (24, [0, 2], []) ws (vs ++ [Value.int x]) := by
    refine ⟨fun n hn => ?_, ?_⟩
    · have hn : n ∈ [0, 2] := hn
      rw [List.length_append, hl]
      simp only [List.mem_cons, List.not_mem_nil, or_false] at hn
      show n < 34 + 1; omega
    · show n_v (vs ++ [Value.int x]) 0 = n_v (vs ++ [Value.int x]) 2
      first | rfl | simp only [e_0, e_2, q2]
  obtain ⟨x0, e0, _, _⟩ := tv_int t6 rfl
  have e1 : v_iv (n_v vs 6) = x0.toInt := by rw [e0]; rfl
  have ho : sy_ofs (vs ++ [Value.int x]) (34, 6, 0, 0) := by
    refine ⟨x, x0, by rw [List.getElem?_append_right (by rw [hl]; decide), hl]; rfl, ?_, ?_, ?_⟩
    · rw [List.getElem?_append_left (by rw [hl]; decide)]; exact n_v_some (by rw [hl]; decide) e0
    · show x0.toInt + 0 ≤ x.toInt; omega
    · show x.toInt ≤ x0.toInt + 0; omega
  exact ⟨fun q hq => (by cases hq), [Value.int x], ag_one hx, List.forall_mem_cons.mpr ⟨⟨show (20 : Nat) < 100 from by decide, nf0⟩, List.forall_mem_cons.mpr ⟨⟨show (20 : Nat) < 100 from by decide, nf1⟩, List.forall_mem_cons.mpr ⟨⟨show (20 : Nat) < 100 from by decide, nf2⟩, List.forall_mem_cons.mpr ⟨⟨show (20 : Nat) < 100 from by decide, nf3⟩, List.forall_mem_cons.mpr ⟨⟨show (20 : Nat) < 100 from by decide, nf4⟩, List.forall_mem_cons.mpr ⟨⟨show (24 : Nat) < 100 from by decide, nf5⟩, (fun _ h => (by cases h))⟩⟩⟩⟩⟩⟩, List.forall_mem_cons.mpr ⟨ho, (fun _ h => (by cases h))⟩⟩
def o_Mo_rule_at_f0_49 : or_T := (275, 33, [(0, (2, 0, 0, [150])), (1, (0, 0, 2009, [])), (2, (2, 0, 0, [150])), (5, (0, 0, 2009, [])), (6, (0, 0, 2010, [])), (11, (0, 1, 1, [])), (12, (0, 1, 2009, [])), (14, (0, 0, 2009, [])), (15, (0, 0, 2009, [])), (19, (2, 0, 0, [198]))], [(23, [1, 15], [0, 1, -1]), (23, [6, 15], [-2011, -1, -1]), (23, [1, 14], [0, 1, -1]), (23, [6, 14], [-2011, -1, -1]), (24, [0, 2], []), (20, [2], [50, 2, 1, 158, 157, 160, 2, 12, 0, 7, 4, 3, 2, 0, 158, 0, 1, 2, 0, 157, 2, 7, 0, 3, 2, 0, 157, 0, 2010, 3, 14, 1, 10, 3, 0, 160, 5, 3, 2, 0, 157, 0, 1, 0, 0, 1, 10, 3, 0, 160, 5, 3, 2, 0, 157, 0, 1, 0, 4]), (20, [15, 2], [30, 0, 1, 0, 0, -1, 1, 158]), (20, [2], [30, 0, 1, 1, 159]), (20, [2], [30, 0, -1, 1, 159]), (100, [19, 30, 32], []), (9, [19, 2], [73]), (23, [1, 15], [0, 1, -1]), (23, [6, 15], [-2011, -1, -1]), (23, [1, 14], [0, 1, -1]), (23, [6, 14], [-2011, -1, -1]), (20, [2], [50, 2, 1, 158, 157, 160, 2, 12, 0, 7, 4, 3, 2, 0, 158, 0, 1, 2, 0, 157, 2, 7, 0, 3, 2, 0, 157, 0, 2010, 3, 14, 1, 10, 3, 0, 160, 5, 3, 2, 0, 157, 0, 1, 0, 0, 1, 10, 3, 0, 160, 5, 3, 2, 0, 157, 0, 1, 0, 4]), (20, [15, 2], [30, 0, 1, 0, 0, -1, 1, 158]), (20, [2], [30, 0, 1, 1, 159]), (20, [2], [30, 0, -1, 1, 159]), (102, [15], [0, 13008, 13009, 13158, 13159]), (23, [1, 15], [0, 1, -1]), (23, [6, 15], [-2011, -1, -1]), (23, [1, 14], [0, 1, -1]), (23, [6, 14], [-2011, -1, -1]), (102, [14], [0, 13008, 13009, 13158]), (23, [1, 14], [0, 1, -1]), (23, [6, 14], [-2011, -1, -1]), (101, [2, 12], [158]), (1, [12, 5, 11], [])], [], [(0, 0, 2010, [])], [(20, [2], [50, 2, 1, 158, 157, 160, 2, 12, 0, 7, 4, 3, 2, 0, 158, 0, 1, 2, 0, 157, 2, 7, 0, 3, 2, 0, 157, 0, 2010, 3, 14, 1, 10, 3, 0, 160, 5, 3, 2, 0, 157, 0, 1, 0, 0, 1, 10, 3, 0, 160, 5, 3, 2, 0, 157, 0, 1, 0, 4]), (20, [1, 2], [30, 0, 1, 0, 0, -1, 1, 158]), (20, [2], [30, 0, 1, 1, 159]), (20, [2], [30, 0, -1, 1, 159]), (20, [33, 2], [30, -2011, -1, 0, 0, -1, 1, 158]), (24, [0, 2], [])], [(33, 6, 0, 0)], [(12, 5, 1, 1), (12, 1, -4294967296, 2010), (1, 5, -4294967296, 2009), (5, 1, -4294967296, 2009)])
theorem oo_Mo_rule_at_f0_49 {kA : Nat → ClassId} : or_ok kA GG o_Mo_rule_at_f0_49 := by
  intro A ta ws vs hD hth hl hk hds hf
  have hl : vs.length = 33 := hl
  have hk : ∀ q ∈ ([(0, (2, 0, 0, [150])), (1, (0, 0, 2009, [])), (2, (2, 0, 0, [150])), (5, (0, 0, 2009, [])), (6, (0, 0, 2010, [])), (11, (0, 1, 1, [])), (12, (0, 1, 2009, [])), (14, (0, 0, 2009, [])), (15, (0, 0, 2009, [])), (19, (2, 0, 0, [198]))] : List (Nat × tv_T)), tv_ok ta q.2 (n_v vs q.1) := hk
  obtain ⟨t0, hk⟩ := List.forall_mem_cons.mp hk
  have t0 : tv_ok ta (2, 0, 0, [150]) (n_v vs 0) := t0
  have r0 : ta (v_ad (n_v vs 0)) = some 150 := tv_rg t0
  obtain ⟨t1, hk⟩ := List.forall_mem_cons.mp hk
  have t1 : tv_ok ta (0, 0, 2009, []) (n_v vs 1) := t1
  have k1 : 0 ≤ v_iv (n_v vs 1) ∧ v_iv (n_v vs 1) ≤ 2009 := tv_rng t1
  obtain ⟨t2, hk⟩ := List.forall_mem_cons.mp hk
  have t2 : tv_ok ta (2, 0, 0, [150]) (n_v vs 2) := t2
  have r2 : ta (v_ad (n_v vs 2)) = some 150 := tv_rg t2
  obtain ⟨t5, hk⟩ := List.forall_mem_cons.mp hk
  have t5 : tv_ok ta (0, 0, 2009, []) (n_v vs 5) := t5
  have k5 : 0 ≤ v_iv (n_v vs 5) ∧ v_iv (n_v vs 5) ≤ 2009 := tv_rng t5
  obtain ⟨t6, hk⟩ := List.forall_mem_cons.mp hk
  have t6 : tv_ok ta (0, 0, 2010, []) (n_v vs 6) := t6
  have k6 : 0 ≤ v_iv (n_v vs 6) ∧ v_iv (n_v vs 6) ≤ 2010 := tv_rng t6
  obtain ⟨t11, hk⟩ := List.forall_mem_cons.mp hk
  have t11 : tv_ok ta (0, 1, 1, []) (n_v vs 11) := t11
  have k11 : 1 ≤ v_iv (n_v vs 11) ∧ v_iv (n_v vs 11) ≤ 1 := tv_rng t11
  obtain ⟨t12, hk⟩ := List.forall_mem_cons.mp hk
  have t12 : tv_ok ta (0, 1, 2009, []) (n_v vs 12) := t12
  have k12 : 1 ≤ v_iv (n_v vs 12) ∧ v_iv (n_v vs 12) ≤ 2009 := tv_rng t12
  obtain ⟨t14, hk⟩ := List.forall_mem_cons.mp hk
  have t14 : tv_ok ta (0, 0, 2009, []) (n_v vs 14) := t14
  have k14 : 0 ≤ v_iv (n_v vs 14) ∧ v_iv (n_v vs 14) ≤ 2009 := tv_rng t14
  obtain ⟨t15, hk⟩ := List.forall_mem_cons.mp hk
  have t15 : tv_ok ta (0, 0, 2009, []) (n_v vs 15) := t15
  have k15 : 0 ≤ v_iv (n_v vs 15) ∧ v_iv (n_v vs 15) ≤ 2009 := tv_rng t15
  obtain ⟨t19, hk⟩ := List.forall_mem_cons.mp hk
  have t19 : tv_ok ta (2, 0, 0, [198]) (n_v vs 19) := t19
  have r19 : ta (v_ad (n_v vs 19)) = some 198 := tv_rg t19
  have hds : ∀ q ∈ ([(12, 5, 1, 1), (12, 1, -4294967296, 2010), (1, 5, -4294967296, 2009), (5, 1, -4294967296, 2009)] : List of_T), n_iv vs q.2.1 + q.2.2.1 ≤ n_iv vs q.1 ∧ n_iv vs q.1 ≤ n_iv vs q.2.1 + q.2.2.2 := hds
  obtain ⟨d0, hds⟩ := List.forall_mem_cons.mp hds
  have d0 : v_iv (n_v vs 5) + 1 ≤ v_iv (n_v vs 12) ∧ v_iv (n_v vs 12) ≤ v_iv (n_v vs 5) + 1 := d0
  obtain ⟨d1, hds⟩ := List.forall_mem_cons.mp hds
  have d1 : v_iv (n_v vs 1) + (-4294967296) ≤ v_iv (n_v vs 12) ∧ v_iv (n_v vs 12) ≤ v_iv (n_v vs 1) + 2010 := d1
  obtain ⟨d2, hds⟩ := List.forall_mem_cons.mp hds
  have d2 : v_iv (n_v vs 5) + (-4294967296) ≤ v_iv (n_v vs 1) ∧ v_iv (n_v vs 1) ≤ v_iv (n_v vs 5) + 2009 := d2
  obtain ⟨d3, hds⟩ := List.forall_mem_cons.mp hds
  have d3 : v_iv (n_v vs 1) + (-4294967296) ≤ v_iv (n_v vs 5) ∧ v_iv (n_v vs 5) ≤ v_iv (n_v vs 1) + 2009 := d3
  have hf : fc_ok [(23, [1, 15], [0, 1, -1]), (23, [6, 15], [-2011, -1, -1]), (23, [1, 14], [0, 1, -1]), (23, [6, 14], [-2011, -1, -1]), (24, [0, 2], []), (20, [2], [50, 2, 1, 158, 157, 160, 2, 12, 0, 7, 4, 3, 2, 0, 158, 0, 1, 2, 0, 157, 2, 7, 0, 3, 2, 0, 157, 0, 2010, 3, 14, 1, 10, 3, 0, 160, 5, 3, 2, 0, 157, 0, 1, 0, 0, 1, 10, 3, 0, 160, 5, 3, 2, 0, 157, 0, 1, 0, 4]), (20, [15, 2], [30, 0, 1, 0, 0, -1, 1, 158]), (20, [2], [30, 0, 1, 1, 159]), (20, [2], [30, 0, -1, 1, 159]), (100, [19, 30, 32], []), (9, [19, 2], [73]), (23, [1, 15], [0, 1, -1]), (23, [6, 15], [-2011, -1, -1]), (23, [1, 14], [0, 1, -1]), (23, [6, 14], [-2011, -1, -1]), (20, [2], [50, 2, 1, 158, 157, 160, 2, 12, 0, 7, 4, 3, 2, 0, 158, 0, 1, 2, 0, 157, 2, 7, 0, 3, 2, 0, 157, 0, 2010, 3, 14, 1, 10, 3, 0, 160, 5, 3, 2, 0, 157, 0, 1, 0, 0, 1, 10, 3, 0, 160, 5, 3, 2, 0, 157, 0, 1, 0, 4]), (20, [15, 2], [30, 0, 1, 0, 0, -1, 1, 158]), (20, [2], [30, 0, 1, 1, 159]), (20, [2], [30, 0, -1, 1, 159]), (102, [15], [0, 13008, 13009, 13158, 13159]), (23, [1, 15], [0, 1, -1]), (23, [6, 15], [-2011, -1, -1]), (23, [1, 14], [0, 1, -1]), (23, [6, 14], [-2011, -1, -1]), (102, [14], [0, 13008, 13009, 13158]), (23, [1, 14], [0, 1, -1]), (23, [6, 14], [-2011, -1, -1]), (101, [2, 12], [158]), (1, [12, 5, 11], [])] ta ws vs := hf
  obtain ⟨f0, hf⟩ := fc_un (show (23 : Nat) < 100 from by decide) hf
  have f0 : 1 * v_iv (n_v vs 1) + ((-1) * v_iv (n_v vs 15) + 0) ≤ 0 := f0
  obtain ⟨f1, hf⟩ := fc_un (show (23 : Nat) < 100 from by decide) hf
  have f1 : (-1) * v_iv (n_v vs 6) + ((-1) * v_iv (n_v vs 15) + 0) ≤ (-2011) := f1
  obtain ⟨f2, hf⟩ := fc_un (show (23 : Nat) < 100 from by decide) hf
  have f2 : 1 * v_iv (n_v vs 1) + ((-1) * v_iv (n_v vs 14) + 0) ≤ 0 := f2
  obtain ⟨f3, hf⟩ := fc_un (show (23 : Nat) < 100 from by decide) hf
  have f3 : (-1) * v_iv (n_v vs 6) + ((-1) * v_iv (n_v vs 14) + 0) ≤ (-2011) := f3
  obtain ⟨f4, hf⟩ := fc_un (show (24 : Nat) < 100 from by decide) hf
  have f4 : n_v vs 0 = n_v vs 2 := f4
  obtain ⟨f5, hf⟩ := fc_un (show (20 : Nat) < 100 from by decide) hf
  have f5 : ((w_fi ws (n_v vs 2) 158 + 1) ≤ w_fi ws (n_v vs 2) 157) ∧ ((w_fi ws (n_v vs 2) 157 ≤ 2010) ∧ ((w_ei ws (w_ar ws (n_v vs 2) 160) ((w_fi ws (n_v vs 2) 157 - 1)) = 0) ∨ (w_ei ws (w_ar ws (n_v vs 2) 160) ((w_fi ws (n_v vs 2) 157 - 1)) = 4))) := f5
  obtain ⟨f6, hf⟩ := fc_un (show (20 : Nat) < 100 from by decide) hf
  have f6 : 1 * v_iv (n_v vs 15) + ((-1) * w_fi ws (n_v vs 2) 158 + 0) ≤ 0 := f6
  obtain ⟨f7, hf⟩ := fc_un (show (20 : Nat) < 100 from by decide) hf
  have f7 : 1 * w_fi ws (n_v vs 2) 159 + 0 ≤ 0 := f7
  obtain ⟨f8, hf⟩ := fc_un (show (20 : Nat) < 100 from by decide) hf
  have f8 : (-1) * w_fi ws (n_v vs 2) 159 + 0 ≤ 0 := f8
  obtain ⟨ta1, w1, le1, ⟨_, s1⟩, hf⟩ := fc_us (show ¬ (100 : Nat) < 100 from by decide) hf
  have s1 : (∀ b j, w_el ws b j = if b = v_ad (n_v vs 19) ∧ j = (v_iv (n_v vs 30)).toNat then v_iv (n_v vs 32) else w_el w1 b j) ∧ ∀ b k, w_fd ws b k = w_fd w1 b k := s1
  obtain ⟨f10, hf⟩ := fc_un (show (9 : Nat) < 100 from by decide) hf
  have f10 : n_v vs 19 = w_fd w1 (v_ad (n_v vs 2)) 73 := f10
  obtain ⟨f11, hf⟩ := fc_un (show (23 : Nat) < 100 from by decide) hf
  have f11 : 1 * v_iv (n_v vs 1) + ((-1) * v_iv (n_v vs 15) + 0) ≤ 0 := f11
  obtain ⟨f12, hf⟩ := fc_un (show (23 : Nat) < 100 from by decide) hf
  have f12 : (-1) * v_iv (n_v vs 6) + ((-1) * v_iv (n_v vs 15) + 0) ≤ (-2011) := f12
  obtain ⟨f13, hf⟩ := fc_un (show (23 : Nat) < 100 from by decide) hf
  have f13 : 1 * v_iv (n_v vs 1) + ((-1) * v_iv (n_v vs 14) + 0) ≤ 0 := f13
  obtain ⟨f14, hf⟩ := fc_un (show (23 : Nat) < 100 from by decide) hf
  have f14 : (-1) * v_iv (n_v vs 6) + ((-1) * v_iv (n_v vs 14) + 0) ≤ (-2011) := f14
  obtain ⟨f15, hf⟩ := fc_un (show (20 : Nat) < 100 from by decide) hf
  have f15 : ((w_fi w1 (n_v vs 2) 158 + 1) ≤ w_fi w1 (n_v vs 2) 157) ∧ ((w_fi w1 (n_v vs 2) 157 ≤ 2010) ∧ ((w_ei w1 (w_ar w1 (n_v vs 2) 160) ((w_fi w1 (n_v vs 2) 157 - 1)) = 0) ∨ (w_ei w1 (w_ar w1 (n_v vs 2) 160) ((w_fi w1 (n_v vs 2) 157 - 1)) = 4))) := f15
  obtain ⟨f16, hf⟩ := fc_un (show (20 : Nat) < 100 from by decide) hf
  have f16 : 1 * v_iv (n_v vs 15) + ((-1) * w_fi w1 (n_v vs 2) 158 + 0) ≤ 0 := f16
  obtain ⟨f17, hf⟩ := fc_un (show (20 : Nat) < 100 from by decide) hf
  have f17 : 1 * w_fi w1 (n_v vs 2) 159 + 0 ≤ 0 := f17
  obtain ⟨f18, hf⟩ := fc_un (show (20 : Nat) < 100 from by decide) hf
  have f18 : (-1) * w_fi w1 (n_v vs 2) 159 + 0 ≤ 0 := f18
  obtain ⟨ta2, w2, le2, ⟨_, s2⟩, hf⟩ := fc_us (show ¬ (102 : Nat) < 100 from by decide) hf
  obtain ⟨f20, hf⟩ := fc_un (show (23 : Nat) < 100 from by decide) hf
  have f20 : 1 * v_iv (n_v vs 1) + ((-1) * v_iv (n_v vs 15) + 0) ≤ 0 := f20
  obtain ⟨f21, hf⟩ := fc_un (show (23 : Nat) < 100 from by decide) hf
  have f21 : (-1) * v_iv (n_v vs 6) + ((-1) * v_iv (n_v vs 15) + 0) ≤ (-2011) := f21
  obtain ⟨f22, hf⟩ := fc_un (show (23 : Nat) < 100 from by decide) hf
  have f22 : 1 * v_iv (n_v vs 1) + ((-1) * v_iv (n_v vs 14) + 0) ≤ 0 := f22
  obtain ⟨f23, hf⟩ := fc_un (show (23 : Nat) < 100 from by decide) hf
  have f23 : (-1) * v_iv (n_v vs 6) + ((-1) * v_iv (n_v vs 14) + 0) ≤ (-2011) := f23
  obtain ⟨ta3, w3, le3, ⟨_, s3⟩, hf⟩ := fc_us (show ¬ (102 : Nat) < 100 from by decide) hf
  obtain ⟨f25, hf⟩ := fc_un (show (23 : Nat) < 100 from by decide) hf
  have f25 : 1 * v_iv (n_v vs 1) + ((-1) * v_iv (n_v vs 14) + 0) ≤ 0 := f25
  obtain ⟨f26, hf⟩ := fc_un (show (23 : Nat) < 100 from by decide) hf
  have f26 : (-1) * v_iv (n_v vs 6) + ((-1) * v_iv (n_v vs 14) + 0) ≤ (-2011) := f26
  obtain ⟨ta4, w4, le4, ⟨_, s4⟩, hf⟩ := fc_us (show ¬ (101 : Nat) < 100 from by decide) hf
  have s4 : (∀ b j, w_el w3 b j = w_el w4 b j) ∧ ∀ b j, w_fd w3 b j = if b = v_ad (n_v vs 2) ∧ j = 158 then n_v vs 12 else w_fd w4 b j := s4
  obtain ⟨f28, hf⟩ := fc_un (show (1 : Nat) < 100 from by decide) hf
  have f28 : v_iv (n_v vs 12) = v_iv (n_v vs 5) + v_iv (n_v vs 11) := f28
  have q2 : n_v vs 2 = n_v vs 0 := f4.symm
  rw [q2] at f5
  rw [q2] at f6
  rw [q2] at f7
  rw [q2] at f8
  rw [q2] at f10
  rw [q2] at f15
  rw [q2] at f16
  rw [q2] at f17
  rw [q2] at f18
  rw [q2] at s4
  have ar_0_73_1 : w_ar w1 (n_v vs 0) 73 = w_ar ws (n_v vs 0) 73 := by show v_ad (w_fd w1 _ _) = v_ad (w_fd ws _ _); rw [s1.2]
  have cr_0_73 : ta (w_ar ws (n_v vs 0) 73) = some 198 := tv_rg (th_fd hD hth r0 (g := GG_150) rfl (k := 73) (t := (2, 0, 0, [198])) rfl rfl)
  have ar_0_160_1 : w_ar w1 (n_v vs 0) 160 = w_ar ws (n_v vs 0) 160 := by show v_ad (w_fd w1 _ _) = v_ad (w_fd ws _ _); rw [s1.2]
  have cr_0_160 : ta (w_ar ws (n_v vs 0) 160) = some 259 := tv_rg (th_fd hD hth r0 (g := GG_150) rfl (k := 160) (t := (2, 0, 0, [259])) rfl rfl)
  have ad_19 : v_ad (n_v vs 19) = w_ar ws (n_v vs 0) 73 := (congrArg v_ad f10).trans ar_0_73_1
  rw [ar_0_160_1] at f15
  have fe_0_157_1 : w_fi ws (n_v vs 0) 157 = w_fi w1 (n_v vs 0) 157 := congrArg v_iv (s1.2 _ _)
  have fe_0_158_1 : w_fi ws (n_v vs 0) 158 = w_fi w1 (n_v vs 0) 158 := congrArg v_iv (s1.2 _ _)
  have fe_0_159_1 : w_fi ws (n_v vs 0) 159 = w_fi w1 (n_v vs 0) 159 := congrArg v_iv (s1.2 _ _)
  have hE_0_160_1 : ∀ j : Int, w_ei ws (w_ar ws (n_v vs 0) 160) j = w_ei w1 (w_ar ws (n_v vs 0) 160) j := fun j => by unfold w_ei; rw [s1.1, if_neg (fun e => by have e1 := e.1; rw [← e1] at r19; rw [cr_0_160] at r19; exact absurd (Option.some.inj r19) (by decide))]
  have hK_0_160 : ∀ j : Int, 0 ≤ j → j < 2010 → 0 ≤ w_ei ws (w_ar ws (n_v vs 0) 160) j ∧ w_ei ws (w_ar ws (n_v vs 0) 160) j ≤ 4 := fun j h0 h1 => th_el hD hth cr_0_160 (kd := 0) (n := 2010) (m := 2010) (lo := 0) (hi := 4) (rs := []) (L := []) rfl (by decide) (j := j.toNat) (by omega)
  have kz_0_157 : 0 ≤ w_fi ws (n_v vs 0) 157 ∧ w_fi ws (n_v vs 0) 157 ≤ 2010 := tv_rng (th_fd hD hth r0 (g := GG_150) rfl (k := 157) (t := (0, 0, 2010, [])) rfl rfl)
  have kz_0_158 : 0 ≤ w_fi ws (n_v vs 0) 158 ∧ w_fi ws (n_v vs 0) 158 ≤ 2009 := tv_rng (th_fd hD hth r0 (g := GG_150) rfl (k := 158) (t := (0, 0, 2009, [])) rfl rfl)
  have kz_0_159 : 0 ≤ w_fi ws (n_v vs 0) 159 ∧ w_fi ws (n_v vs 0) 159 ≤ 13 := tv_rng (th_fd hD hth r0 (g := GG_150) rfl (k := 159) (t := (0, 0, 13, [])) rfl rfl)
  obtain ⟨x, ex, hx⟩ := iv_ex (ta := ta) (lo := 0) (hi := 2010) (z := 0 + (1 * v_iv (n_v vs 6) + 0)) (by omega) (by omega) (by omega) (by omega)
  have ex2 : v_iv (Value.int x) = 0 + (1 * v_iv (n_v vs 6) + 0) := ex
  have ex3 : 0 ≤ v_iv (Value.int x) ∧ v_iv (Value.int x) ≤ 2010 := tv_rng hx
  have e_0 : n_v (vs ++ [Value.int x]) 0 = n_v vs 0 := n_v_old (by rw [hl]; decide)
  have e_1 : n_v (vs ++ [Value.int x]) 1 = n_v vs 1 := n_v_old (by rw [hl]; decide)
  have e_2 : n_v (vs ++ [Value.int x]) 2 = n_v vs 2 := n_v_old (by rw [hl]; decide)
  have e_33 : n_v (vs ++ [Value.int x]) 33 = Value.int x := n_v_new hl
  have nf0 : fc_1 (20, [2], [50, 2, 1, 158, 157, 160, 2, 12, 0, 7, 4, 3, 2, 0, 158, 0, 1, 2, 0, 157, 2, 7, 0, 3, 2, 0, 157, 0, 2010, 3, 14, 1, 10, 3, 0, 160, 5, 3, 2, 0, 157, 0, 1, 0, 0, 1, 10, 3, 0, 160, 5, 3, 2, 0, 157, 0, 1, 0, 4]) ws (vs ++ [Value.int x]) := by
    refine ⟨fun n hn => ?_, ?_⟩
    · have hn : n ∈ [2] := hn
      rw [List.length_append, hl]
      simp only [List.mem_cons, List.not_mem_nil, or_false] at hn
      show n < 33 + 1; omega
    · show ((w_fi ws (n_v (vs ++ [Value.int x]) 2) 158 + 1) ≤ w_fi ws (n_v (vs ++ [Value.int x]) 2) 157) ∧ ((w_fi ws (n_v (vs ++ [Value.int x]) 2) 157 ≤ 2010) ∧ ((w_ei ws (w_ar ws (n_v (vs ++ [Value.int x]) 2) 160) ((w_fi ws (n_v (vs ++ [Value.int x]) 2) 157 - 1)) = 0) ∨ (w_ei ws (w_ar ws (n_v (vs ++ [Value.int x]) 2) 160) ((w_fi ws (n_v (vs ++ [Value.int x]) 2) 157 - 1)) = 4)))
      rw [e_2]
      rw [q2]
      first | omega | grind
  have nf1 : fc_1 (20, [1, 2], [30, 0, 1, 0, 0, -1, 1, 158]) ws (vs ++ [Value.int x]) := by
    refine ⟨fun n hn => ?_, ?_⟩
    · have hn : n ∈ [1, 2] := hn
      rw [List.length_append, hl]
      simp only [List.mem_cons, List.not_mem_nil, or_false] at hn
      show n < 33 + 1; omega
    · show 1 * v_iv (n_v (vs ++ [Value.int x]) 1) + ((-1) * w_fi ws (n_v (vs ++ [Value.int x]) 2) 158 + 0) ≤ 0
      rw [e_1]
      rw [e_2]
      rw [q2]
      omega
  have nf2 : fc_1 (20, [2], [30, 0, 1, 1, 159]) ws (vs ++ [Value.int x]) := by
    refine ⟨fun n hn => ?_, ?_⟩
    · have hn : n ∈ [2] := hn
      rw [List.length_append, hl]
      simp only [List.mem_cons, List.not_mem_nil, or_false] at hn
      show n < 33 + 1; omega
    · show 1 * w_fi ws (n_v (vs ++ [Value.int x]) 2) 159 + 0 ≤ 0
      rw [e_2]
      rw [q2]
      omega
  have nf3 : fc_1 (20, [2], [30, 0, -1, 1, 159]) ws (vs ++ [Value.int x]) := by
    refine ⟨fun n hn => ?_, ?_⟩
    · have hn : n ∈ [2] := hn
      rw [List.length_append, hl]
      simp only [List.mem_cons, List.not_mem_nil, or_false] at hn
      show n < 33 + 1; omega
    · show (-1) * w_fi ws (n_v (vs ++ [Value.int x]) 2) 159 + 0 ≤ 0
      rw [e_2]
      rw [q2]
      omega
  have nf4 : fc_1 (20, [33, 2], [30, -2011, -1, 0, 0, -1, 1, 158]) ws (vs ++ [Value.int x]) := by
    refine ⟨fun n hn => ?_, ?_⟩
    · have hn : n ∈ [33, 2] := hn
      rw [List.length_append, hl]
      simp only [List.mem_cons, List.not_mem_nil, or_false] at hn
      show n < 33 + 1; omega
    · show (-1) * v_iv (n_v (vs ++ [Value.int x]) 33) + ((-1) * w_fi ws (n_v (vs ++ [Value.int x]) 2) 158 + 0) ≤ (-2011)
      rw [e_2]
      rw [e_33]
      rw [q2]
      omega
  have nf5 : fc_1 (24, [0, 2], []) ws (vs ++ [Value.int x]) := by
    refine ⟨fun n hn => ?_, ?_⟩
    · have hn : n ∈ [0, 2] := hn
      rw [List.length_append, hl]
      simp only [List.mem_cons, List.not_mem_nil, or_false] at hn
      show n < 33 + 1; omega
    · show n_v (vs ++ [Value.int x]) 0 = n_v (vs ++ [Value.int x]) 2
      first | rfl | simp only [e_0, e_2, q2]
  obtain ⟨x0, e0, _, _⟩ := tv_int t6 rfl
  have e1 : v_iv (n_v vs 6) = x0.toInt := by rw [e0]; rfl
  have ho : sy_ofs (vs ++ [Value.int x]) (33, 6, 0, 0) := by
    refine ⟨x, x0, by rw [List.getElem?_append_right (by rw [hl]; decide), hl]; rfl, ?_, ?_, ?_⟩
    · rw [List.getElem?_append_left (by rw [hl]; decide)]; exact n_v_some (by rw [hl]; decide) e0
    · show x0.toInt + 0 ≤ x.toInt; omega
    · show x.toInt ≤ x0.toInt + 0; omega
  exact ⟨fun q hq => (by cases hq), [Value.int x], ag_one hx, List.forall_mem_cons.mpr ⟨⟨show (20 : Nat) < 100 from by decide, nf0⟩, List.forall_mem_cons.mpr ⟨⟨show (20 : Nat) < 100 from by decide, nf1⟩, List.forall_mem_cons.mpr ⟨⟨show (20 : Nat) < 100 from by decide, nf2⟩, List.forall_mem_cons.mpr ⟨⟨show (20 : Nat) < 100 from by decide, nf3⟩, List.forall_mem_cons.mpr ⟨⟨show (20 : Nat) < 100 from by decide, nf4⟩, List.forall_mem_cons.mpr ⟨⟨show (24 : Nat) < 100 from by decide, nf5⟩, (fun _ h => (by cases h))⟩⟩⟩⟩⟩⟩, List.forall_mem_cons.mpr ⟨ho, (fun _ h => (by cases h))⟩⟩
def o_Mo_rule_at_f0_50 : or_T := (175, 11, [(0, (2, 0, 0, [150])), (1, (0, 0, 2009, [])), (2, (2, 0, 0, [150])), (6, (0, 0, 2010, [])), (8, (0, 1, 1, [])), (10, (0, 1, 5, []))], [(8, [10], [4]), (9, [10, 2], [8]), (8, [8], [1]), (20, [2], [50, 2, 1, 158, 157, 160, 2, 12, 0, 7, 4, 3, 2, 0, 158, 0, 1, 2, 0, 157, 2, 7, 0, 3, 2, 0, 157, 0, 2010, 3, 14, 1, 10, 3, 0, 160, 5, 3, 2, 0, 157, 0, 1, 0, 0, 1, 10, 3, 0, 160, 5, 3, 2, 0, 157, 0, 1, 0, 4]), (20, [1, 2], [30, 0, 1, 0, 0, -1, 1, 158]), (20, [2], [30, 0, 1, 1, 159]), (20, [2], [30, 0, -1, 1, 159]), (24, [0, 2], []), (20, [6, 2], [30, 2010, 1, 0, 0, 1, 1, 158]), (20, [6, 2], [30, -2010, -1, 0, 0, -1, 1, 158]), (20, [8, 2], [50, 1, 1, 1158, 1160, 4, 6, 1, 2, 1, 0, 0, 1, 1, 6, 3, 1, 160, 2, 1, 158, 0, 1])], [], [], [(20, [0], [50, 2, 1, 158, 157, 160, 2, 12, 0, 7, 4, 3, 2, 0, 158, 0, 1, 2, 0, 157, 2, 7, 0, 3, 2, 0, 157, 0, 2010, 3, 14, 1, 10, 3, 0, 160, 5, 3, 2, 0, 157, 0, 1, 0, 0, 1, 10, 3, 0, 160, 5, 3, 2, 0, 157, 0, 1, 0, 4]), (20, [1, 0], [30, 0, 1, 0, 0, -1, 1, 158]), (20, [0], [30, 0, 1, 1, 159]), (20, [0], [30, 0, -1, 1, 159]), (20, [0, 1, 0], [31, 1, -1, -1, 1, 8, -1, 1, 0, 0, -1, 1, 158])], [], [])
theorem oo_Mo_rule_at_f0_50 {kA : Nat → ClassId} : or_ok kA GG o_Mo_rule_at_f0_50 := by
  intro A ta ws vs hD hth hl hk hds hf
  have hl : vs.length = 11 := hl
  have hk : ∀ q ∈ ([(0, (2, 0, 0, [150])), (1, (0, 0, 2009, [])), (2, (2, 0, 0, [150])), (6, (0, 0, 2010, [])), (8, (0, 1, 1, [])), (10, (0, 1, 5, []))] : List (Nat × tv_T)), tv_ok ta q.2 (n_v vs q.1) := hk
  obtain ⟨t0, hk⟩ := List.forall_mem_cons.mp hk
  have t0 : tv_ok ta (2, 0, 0, [150]) (n_v vs 0) := t0
  have r0 : ta (v_ad (n_v vs 0)) = some 150 := tv_rg t0
  obtain ⟨t1, hk⟩ := List.forall_mem_cons.mp hk
  have t1 : tv_ok ta (0, 0, 2009, []) (n_v vs 1) := t1
  have k1 : 0 ≤ v_iv (n_v vs 1) ∧ v_iv (n_v vs 1) ≤ 2009 := tv_rng t1
  obtain ⟨t2, hk⟩ := List.forall_mem_cons.mp hk
  have t2 : tv_ok ta (2, 0, 0, [150]) (n_v vs 2) := t2
  have r2 : ta (v_ad (n_v vs 2)) = some 150 := tv_rg t2
  obtain ⟨t6, hk⟩ := List.forall_mem_cons.mp hk
  have t6 : tv_ok ta (0, 0, 2010, []) (n_v vs 6) := t6
  have k6 : 0 ≤ v_iv (n_v vs 6) ∧ v_iv (n_v vs 6) ≤ 2010 := tv_rng t6
  obtain ⟨t8, hk⟩ := List.forall_mem_cons.mp hk
  have t8 : tv_ok ta (0, 1, 1, []) (n_v vs 8) := t8
  have k8 : 1 ≤ v_iv (n_v vs 8) ∧ v_iv (n_v vs 8) ≤ 1 := tv_rng t8
  obtain ⟨t10, hk⟩ := List.forall_mem_cons.mp hk
  have t10 : tv_ok ta (0, 1, 5, []) (n_v vs 10) := t10
  have k10 : 1 ≤ v_iv (n_v vs 10) ∧ v_iv (n_v vs 10) ≤ 5 := tv_rng t10
  have hf : fc_ok [(8, [10], [4]), (9, [10, 2], [8]), (8, [8], [1]), (20, [2], [50, 2, 1, 158, 157, 160, 2, 12, 0, 7, 4, 3, 2, 0, 158, 0, 1, 2, 0, 157, 2, 7, 0, 3, 2, 0, 157, 0, 2010, 3, 14, 1, 10, 3, 0, 160, 5, 3, 2, 0, 157, 0, 1, 0, 0, 1, 10, 3, 0, 160, 5, 3, 2, 0, 157, 0, 1, 0, 4]), (20, [1, 2], [30, 0, 1, 0, 0, -1, 1, 158]), (20, [2], [30, 0, 1, 1, 159]), (20, [2], [30, 0, -1, 1, 159]), (24, [0, 2], []), (20, [6, 2], [30, 2010, 1, 0, 0, 1, 1, 158]), (20, [6, 2], [30, -2010, -1, 0, 0, -1, 1, 158]), (20, [8, 2], [50, 1, 1, 1158, 1160, 4, 6, 1, 2, 1, 0, 0, 1, 1, 6, 3, 1, 160, 2, 1, 158, 0, 1])] ta ws vs := hf
  obtain ⟨f0, hf⟩ := fc_un (show (8 : Nat) < 100 from by decide) hf
  have f0 : 0 < v_iv (n_v vs 10) := f0
  obtain ⟨f1, hf⟩ := fc_un (show (9 : Nat) < 100 from by decide) hf
  have f1 : n_v vs 10 = w_fd ws (v_ad (n_v vs 2)) 8 := f1
  obtain ⟨f2, hf⟩ := fc_un (show (8 : Nat) < 100 from by decide) hf
  have f2 : v_iv (n_v vs 8) ≠ 0 := f2
  obtain ⟨f3, hf⟩ := fc_un (show (20 : Nat) < 100 from by decide) hf
  have f3 : ((w_fi ws (n_v vs 2) 158 + 1) ≤ w_fi ws (n_v vs 2) 157) ∧ ((w_fi ws (n_v vs 2) 157 ≤ 2010) ∧ ((w_ei ws (w_ar ws (n_v vs 2) 160) ((w_fi ws (n_v vs 2) 157 - 1)) = 0) ∨ (w_ei ws (w_ar ws (n_v vs 2) 160) ((w_fi ws (n_v vs 2) 157 - 1)) = 4))) := f3
  obtain ⟨f4, hf⟩ := fc_un (show (20 : Nat) < 100 from by decide) hf
  have f4 : 1 * v_iv (n_v vs 1) + ((-1) * w_fi ws (n_v vs 2) 158 + 0) ≤ 0 := f4
  obtain ⟨f5, hf⟩ := fc_un (show (20 : Nat) < 100 from by decide) hf
  have f5 : 1 * w_fi ws (n_v vs 2) 159 + 0 ≤ 0 := f5
  obtain ⟨f6, hf⟩ := fc_un (show (20 : Nat) < 100 from by decide) hf
  have f6 : (-1) * w_fi ws (n_v vs 2) 159 + 0 ≤ 0 := f6
  obtain ⟨f7, hf⟩ := fc_un (show (24 : Nat) < 100 from by decide) hf
  have f7 : n_v vs 0 = n_v vs 2 := f7
  obtain ⟨f8, hf⟩ := fc_un (show (20 : Nat) < 100 from by decide) hf
  have f8 : 1 * v_iv (n_v vs 6) + (1 * w_fi ws (n_v vs 2) 158 + 0) ≤ 2010 := f8
  obtain ⟨f9, hf⟩ := fc_un (show (20 : Nat) < 100 from by decide) hf
  have f9 : (-1) * v_iv (n_v vs 6) + ((-1) * w_fi ws (n_v vs 2) 158 + 0) ≤ (-2010) := f9
  obtain ⟨f10, hf⟩ := fc_un (show (20 : Nat) < 100 from by decide) hf
  have f10 : (v_iv (n_v vs 8) = 1) → (w_ei ws (w_ar ws (n_v vs 2) 160) (w_fi ws (n_v vs 2) 158) = 1) := f10
  have q2 : n_v vs 2 = n_v vs 0 := f7.symm
  rw [q2] at f1
  rw [q2] at f3
  rw [q2] at f4
  rw [q2] at f5
  rw [q2] at f6
  rw [q2] at f8
  rw [q2] at f9
  rw [q2] at f10
  have cr_0_160 : ta (w_ar ws (n_v vs 0) 160) = some 259 := tv_rg (th_fd hD hth r0 (g := GG_150) rfl (k := 160) (t := (2, 0, 0, [259])) rfl rfl)
  have g1 : v_iv (n_v vs 10) = w_fi ws (n_v vs 0) 8 := congrArg v_iv f1
  have hK_0_160 : ∀ j : Int, 0 ≤ j → j < 2010 → 0 ≤ w_ei ws (w_ar ws (n_v vs 0) 160) j ∧ w_ei ws (w_ar ws (n_v vs 0) 160) j ≤ 4 := fun j h0 h1 => th_el hD hth cr_0_160 (kd := 0) (n := 2010) (m := 2010) (lo := 0) (hi := 4) (rs := []) (L := []) rfl (by decide) (j := j.toNat) (by omega)
  have kz_0_8 : 0 ≤ w_fi ws (n_v vs 0) 8 ∧ w_fi ws (n_v vs 0) 8 ≤ 5 := tv_rng (th_fd hD hth r0 (g := GG_150) rfl (k := 8) (t := (0, 0, 5, [])) rfl rfl)
  have kz_0_157 : 0 ≤ w_fi ws (n_v vs 0) 157 ∧ w_fi ws (n_v vs 0) 157 ≤ 2010 := tv_rng (th_fd hD hth r0 (g := GG_150) rfl (k := 157) (t := (0, 0, 2010, [])) rfl rfl)
  have kz_0_158 : 0 ≤ w_fi ws (n_v vs 0) 158 ∧ w_fi ws (n_v vs 0) 158 ≤ 2009 := tv_rng (th_fd hD hth r0 (g := GG_150) rfl (k := 158) (t := (0, 0, 2009, [])) rfl rfl)
  have kz_0_159 : 0 ≤ w_fi ws (n_v vs 0) 159 ∧ w_fi ws (n_v vs 0) 159 ≤ 13 := tv_rng (th_fd hD hth r0 (g := GG_150) rfl (k := 159) (t := (0, 0, 13, [])) rfl rfl)
  have nf0 : fc_1 (20, [0], [50, 2, 1, 158, 157, 160, 2, 12, 0, 7, 4, 3, 2, 0, 158, 0, 1, 2, 0, 157, 2, 7, 0, 3, 2, 0, 157, 0, 2010, 3, 14, 1, 10, 3, 0, 160, 5, 3, 2, 0, 157, 0, 1, 0, 0, 1, 10, 3, 0, 160, 5, 3, 2, 0, 157, 0, 1, 0, 4]) ws (vs) := by
    refine ⟨fun n hn => ?_, ?_⟩
    · have hn : n ∈ [0] := hn
      rw [hl]
      simp only [List.mem_cons, List.not_mem_nil, or_false] at hn
      show n < 11; omega
    · show ((w_fi ws (n_v vs 0) 158 + 1) ≤ w_fi ws (n_v vs 0) 157) ∧ ((w_fi ws (n_v vs 0) 157 ≤ 2010) ∧ ((w_ei ws (w_ar ws (n_v vs 0) 160) ((w_fi ws (n_v vs 0) 157 - 1)) = 0) ∨ (w_ei ws (w_ar ws (n_v vs 0) 160) ((w_fi ws (n_v vs 0) 157 - 1)) = 4)))
      first | omega | grind
  have nf1 : fc_1 (20, [1, 0], [30, 0, 1, 0, 0, -1, 1, 158]) ws (vs) := by
    refine ⟨fun n hn => ?_, ?_⟩
    · have hn : n ∈ [1, 0] := hn
      rw [hl]
      simp only [List.mem_cons, List.not_mem_nil, or_false] at hn
      show n < 11; omega
    · show 1 * v_iv (n_v vs 1) + ((-1) * w_fi ws (n_v vs 0) 158 + 0) ≤ 0
      omega
  have nf2 : fc_1 (20, [0], [30, 0, 1, 1, 159]) ws (vs) := by
    refine ⟨fun n hn => ?_, ?_⟩
    · have hn : n ∈ [0] := hn
      rw [hl]
      simp only [List.mem_cons, List.not_mem_nil, or_false] at hn
      show n < 11; omega
    · show 1 * w_fi ws (n_v vs 0) 159 + 0 ≤ 0
      omega
  have nf3 : fc_1 (20, [0], [30, 0, -1, 1, 159]) ws (vs) := by
    refine ⟨fun n hn => ?_, ?_⟩
    · have hn : n ∈ [0] := hn
      rw [hl]
      simp only [List.mem_cons, List.not_mem_nil, or_false] at hn
      show n < 11; omega
    · show (-1) * w_fi ws (n_v vs 0) 159 + 0 ≤ 0
      omega
  have nf4 : fc_1 (20, [0, 1, 0], [31, 1, -1, -1, 1, 8, -1, 1, 0, 0, -1, 1, 158]) ws (vs) := by
    refine ⟨fun n hn => ?_, ?_⟩
    · have hn : n ∈ [0, 1, 0] := hn
      rw [hl]
      simp only [List.mem_cons, List.not_mem_nil, or_false] at hn
      show n < 11; omega
    · show ((-1) * w_fi ws (n_v vs 0) 8 + 0 ≤ (-1)) ∨ (1 * v_iv (n_v vs 1) + ((-1) * w_fi ws (n_v vs 0) 158 + 0) ≤ (-1))
      omega
  refine ⟨(fun _ h => (by cases h)), [], trivial, ?_, (fun _ h => (by cases h))⟩
  rw [List.append_nil]
  exact List.forall_mem_cons.mpr ⟨⟨show (20 : Nat) < 100 from by decide, nf0⟩, List.forall_mem_cons.mpr ⟨⟨show (20 : Nat) < 100 from by decide, nf1⟩, List.forall_mem_cons.mpr ⟨⟨show (20 : Nat) < 100 from by decide, nf2⟩, List.forall_mem_cons.mpr ⟨⟨show (20 : Nat) < 100 from by decide, nf3⟩, List.forall_mem_cons.mpr ⟨⟨show (20 : Nat) < 100 from by decide, nf4⟩, (fun _ h => (by cases h))⟩⟩⟩⟩⟩
def o_Mo_rule_at_f0_51 : or_T := (276, 9, [(0, (2, 0, 0, [150])), (1, (0, 0, 2009, [])), (2, (2, 0, 0, [150])), (8, (0, 0, 2010, []))], [(20, [2], [50, 2, 1, 158, 157, 160, 2, 12, 0, 7, 4, 3, 2, 0, 158, 0, 1, 2, 0, 157, 2, 7, 0, 3, 2, 0, 157, 0, 2010, 3, 14, 1, 10, 3, 0, 160, 5, 3, 2, 0, 157, 0, 1, 0, 0, 1, 10, 3, 0, 160, 5, 3, 2, 0, 157, 0, 1, 0, 4]), (20, [1, 2], [30, 0, 1, 0, 0, -1, 1, 158]), (20, [2], [30, 0, 1, 1, 159]), (20, [2], [30, 0, -1, 1, 159]), (20, [8, 2], [30, -2011, -1, 0, 0, -1, 1, 158]), (24, [0, 2], [])], [], [(0, 0, 2009, [])], [(20, [2], [50, 2, 1, 158, 157, 160, 2, 12, 0, 7, 4, 3, 2, 0, 158, 0, 1, 2, 0, 157, 2, 7, 0, 3, 2, 0, 157, 0, 2010, 3, 14, 1, 10, 3, 0, 160, 5, 3, 2, 0, 157, 0, 1, 0, 0, 1, 10, 3, 0, 160, 5, 3, 2, 0, 157, 0, 1, 0, 4]), (20, [2, 9], [30, 0, 1, 1, 158, -1, 0, 0]), (20, [2, 9], [30, 0, -1, 1, 158, 1, 0, 0]), (23, [1, 9], [0, 1, -1])], [], [])
theorem oo_Mo_rule_at_f0_51 {kA : Nat → ClassId} : or_ok kA GG o_Mo_rule_at_f0_51 := by
  intro A ta ws vs hD hth hl hk hds hf
  have hl : vs.length = 9 := hl
  have hk : ∀ q ∈ ([(0, (2, 0, 0, [150])), (1, (0, 0, 2009, [])), (2, (2, 0, 0, [150])), (8, (0, 0, 2010, []))] : List (Nat × tv_T)), tv_ok ta q.2 (n_v vs q.1) := hk
  obtain ⟨t0, hk⟩ := List.forall_mem_cons.mp hk
  have t0 : tv_ok ta (2, 0, 0, [150]) (n_v vs 0) := t0
  have r0 : ta (v_ad (n_v vs 0)) = some 150 := tv_rg t0
  obtain ⟨t1, hk⟩ := List.forall_mem_cons.mp hk
  have t1 : tv_ok ta (0, 0, 2009, []) (n_v vs 1) := t1
  have k1 : 0 ≤ v_iv (n_v vs 1) ∧ v_iv (n_v vs 1) ≤ 2009 := tv_rng t1
  obtain ⟨t2, hk⟩ := List.forall_mem_cons.mp hk
  have t2 : tv_ok ta (2, 0, 0, [150]) (n_v vs 2) := t2
  have r2 : ta (v_ad (n_v vs 2)) = some 150 := tv_rg t2
  obtain ⟨t8, hk⟩ := List.forall_mem_cons.mp hk
  have t8 : tv_ok ta (0, 0, 2010, []) (n_v vs 8) := t8
  have k8 : 0 ≤ v_iv (n_v vs 8) ∧ v_iv (n_v vs 8) ≤ 2010 := tv_rng t8
  have hf : fc_ok [(20, [2], [50, 2, 1, 158, 157, 160, 2, 12, 0, 7, 4, 3, 2, 0, 158, 0, 1, 2, 0, 157, 2, 7, 0, 3, 2, 0, 157, 0, 2010, 3, 14, 1, 10, 3, 0, 160, 5, 3, 2, 0, 157, 0, 1, 0, 0, 1, 10, 3, 0, 160, 5, 3, 2, 0, 157, 0, 1, 0, 4]), (20, [1, 2], [30, 0, 1, 0, 0, -1, 1, 158]), (20, [2], [30, 0, 1, 1, 159]), (20, [2], [30, 0, -1, 1, 159]), (20, [8, 2], [30, -2011, -1, 0, 0, -1, 1, 158]), (24, [0, 2], [])] ta ws vs := hf
  obtain ⟨f0, hf⟩ := fc_un (show (20 : Nat) < 100 from by decide) hf
  have f0 : ((w_fi ws (n_v vs 2) 158 + 1) ≤ w_fi ws (n_v vs 2) 157) ∧ ((w_fi ws (n_v vs 2) 157 ≤ 2010) ∧ ((w_ei ws (w_ar ws (n_v vs 2) 160) ((w_fi ws (n_v vs 2) 157 - 1)) = 0) ∨ (w_ei ws (w_ar ws (n_v vs 2) 160) ((w_fi ws (n_v vs 2) 157 - 1)) = 4))) := f0
  obtain ⟨f1, hf⟩ := fc_un (show (20 : Nat) < 100 from by decide) hf
  have f1 : 1 * v_iv (n_v vs 1) + ((-1) * w_fi ws (n_v vs 2) 158 + 0) ≤ 0 := f1
  obtain ⟨f2, hf⟩ := fc_un (show (20 : Nat) < 100 from by decide) hf
  have f2 : 1 * w_fi ws (n_v vs 2) 159 + 0 ≤ 0 := f2
  obtain ⟨f3, hf⟩ := fc_un (show (20 : Nat) < 100 from by decide) hf
  have f3 : (-1) * w_fi ws (n_v vs 2) 159 + 0 ≤ 0 := f3
  obtain ⟨f4, hf⟩ := fc_un (show (20 : Nat) < 100 from by decide) hf
  have f4 : (-1) * v_iv (n_v vs 8) + ((-1) * w_fi ws (n_v vs 2) 158 + 0) ≤ (-2011) := f4
  obtain ⟨f5, hf⟩ := fc_un (show (24 : Nat) < 100 from by decide) hf
  have f5 : n_v vs 0 = n_v vs 2 := f5
  have q2 : n_v vs 2 = n_v vs 0 := f5.symm
  rw [q2] at f0
  rw [q2] at f1
  rw [q2] at f2
  rw [q2] at f3
  rw [q2] at f4
  have cr_0_160 : ta (w_ar ws (n_v vs 0) 160) = some 259 := tv_rg (th_fd hD hth r0 (g := GG_150) rfl (k := 160) (t := (2, 0, 0, [259])) rfl rfl)
  have hK_0_160 : ∀ j : Int, 0 ≤ j → j < 2010 → 0 ≤ w_ei ws (w_ar ws (n_v vs 0) 160) j ∧ w_ei ws (w_ar ws (n_v vs 0) 160) j ≤ 4 := fun j h0 h1 => th_el hD hth cr_0_160 (kd := 0) (n := 2010) (m := 2010) (lo := 0) (hi := 4) (rs := []) (L := []) rfl (by decide) (j := j.toNat) (by omega)
  have kz_0_157 : 0 ≤ w_fi ws (n_v vs 0) 157 ∧ w_fi ws (n_v vs 0) 157 ≤ 2010 := tv_rng (th_fd hD hth r0 (g := GG_150) rfl (k := 157) (t := (0, 0, 2010, [])) rfl rfl)
  have kz_0_158 : 0 ≤ w_fi ws (n_v vs 0) 158 ∧ w_fi ws (n_v vs 0) 158 ≤ 2009 := tv_rng (th_fd hD hth r0 (g := GG_150) rfl (k := 158) (t := (0, 0, 2009, [])) rfl rfl)
  have kz_0_159 : 0 ≤ w_fi ws (n_v vs 0) 159 ∧ w_fi ws (n_v vs 0) 159 ≤ 13 := tv_rng (th_fd hD hth r0 (g := GG_150) rfl (k := 159) (t := (0, 0, 13, [])) rfl rfl)
  have kv0 : 0 ≤ w_fi ws (n_v vs 0) 158 ∧ w_fi ws (n_v vs 0) 158 ≤ 2009 := tv_rng (th_fd hD hth r0 (g := GG_150) rfl (k := 158) (t := (0, 0, 2009, [])) rfl rfl)
  obtain ⟨x, ex, hx⟩ := iv_ex (ta := ta) (lo := 0) (hi := 2009) (z := w_fi ws (n_v vs 0) 158) (by omega) (by omega) (by omega) (by omega)
  have ex2 : v_iv (Value.int x) = w_fi ws (n_v vs 0) 158 := ex
  have ex3 : 0 ≤ v_iv (Value.int x) ∧ v_iv (Value.int x) ≤ 2009 := tv_rng hx
  have e_1 : n_v (vs ++ [Value.int x]) 1 = n_v vs 1 := n_v_old (by rw [hl]; decide)
  have e_2 : n_v (vs ++ [Value.int x]) 2 = n_v vs 2 := n_v_old (by rw [hl]; decide)
  have e_9 : n_v (vs ++ [Value.int x]) 9 = Value.int x := n_v_new hl
  have nf0 : fc_1 (20, [2], [50, 2, 1, 158, 157, 160, 2, 12, 0, 7, 4, 3, 2, 0, 158, 0, 1, 2, 0, 157, 2, 7, 0, 3, 2, 0, 157, 0, 2010, 3, 14, 1, 10, 3, 0, 160, 5, 3, 2, 0, 157, 0, 1, 0, 0, 1, 10, 3, 0, 160, 5, 3, 2, 0, 157, 0, 1, 0, 4]) ws (vs ++ [Value.int x]) := by
    refine ⟨fun n hn => ?_, ?_⟩
    · have hn : n ∈ [2] := hn
      rw [List.length_append, hl]
      simp only [List.mem_cons, List.not_mem_nil, or_false] at hn
      show n < 9 + 1; omega
    · show ((w_fi ws (n_v (vs ++ [Value.int x]) 2) 158 + 1) ≤ w_fi ws (n_v (vs ++ [Value.int x]) 2) 157) ∧ ((w_fi ws (n_v (vs ++ [Value.int x]) 2) 157 ≤ 2010) ∧ ((w_ei ws (w_ar ws (n_v (vs ++ [Value.int x]) 2) 160) ((w_fi ws (n_v (vs ++ [Value.int x]) 2) 157 - 1)) = 0) ∨ (w_ei ws (w_ar ws (n_v (vs ++ [Value.int x]) 2) 160) ((w_fi ws (n_v (vs ++ [Value.int x]) 2) 157 - 1)) = 4)))
      rw [e_2]
      rw [q2]
      first | omega | grind
  have nf1 : fc_1 (20, [2, 9], [30, 0, 1, 1, 158, -1, 0, 0]) ws (vs ++ [Value.int x]) := by
    refine ⟨fun n hn => ?_, ?_⟩
    · have hn : n ∈ [2, 9] := hn
      rw [List.length_append, hl]
      simp only [List.mem_cons, List.not_mem_nil, or_false] at hn
      show n < 9 + 1; omega
    · show 1 * w_fi ws (n_v (vs ++ [Value.int x]) 2) 158 + ((-1) * v_iv (n_v (vs ++ [Value.int x]) 9) + 0) ≤ 0
      rw [e_2]
      rw [e_9]
      rw [q2]
      omega
  have nf2 : fc_1 (20, [2, 9], [30, 0, -1, 1, 158, 1, 0, 0]) ws (vs ++ [Value.int x]) := by
    refine ⟨fun n hn => ?_, ?_⟩
    · have hn : n ∈ [2, 9] := hn
      rw [List.length_append, hl]
      simp only [List.mem_cons, List.not_mem_nil, or_false] at hn
      show n < 9 + 1; omega
    · show (-1) * w_fi ws (n_v (vs ++ [Value.int x]) 2) 158 + (1 * v_iv (n_v (vs ++ [Value.int x]) 9) + 0) ≤ 0
      rw [e_2]
      rw [e_9]
      rw [q2]
      omega
  have nf3 : fc_1 (23, [1, 9], [0, 1, -1]) ws (vs ++ [Value.int x]) := by
    refine ⟨fun n hn => ?_, ?_⟩
    · have hn : n ∈ [1, 9] := hn
      rw [List.length_append, hl]
      simp only [List.mem_cons, List.not_mem_nil, or_false] at hn
      show n < 9 + 1; omega
    · show 1 * v_iv (n_v (vs ++ [Value.int x]) 1) + ((-1) * v_iv (n_v (vs ++ [Value.int x]) 9) + 0) ≤ 0
      rw [e_1]
      rw [e_9]
      omega
  exact ⟨fun q hq => (by cases hq), [Value.int x], ag_one hx, List.forall_mem_cons.mpr ⟨⟨show (20 : Nat) < 100 from by decide, nf0⟩, List.forall_mem_cons.mpr ⟨⟨show (20 : Nat) < 100 from by decide, nf1⟩, List.forall_mem_cons.mpr ⟨⟨show (20 : Nat) < 100 from by decide, nf2⟩, List.forall_mem_cons.mpr ⟨⟨show (23 : Nat) < 100 from by decide, nf3⟩, (fun _ h => (by cases h))⟩⟩⟩⟩, (fun _ h => (by cases h))⟩
def o_Mo_rule_at_f0_52 : or_T := (106, 11, [(0, (2, 0, 0, [150])), (1, (0, 0, 2009, [])), (2, (2, 0, 0, [150])), (8, (0, 0, 2010, [])), (9, (0, 0, 2009, [])), (10, (0, 1, 1, []))], [(8, [10], [1]), (23, [1, 9], [0, 1, -1]), (20, [2], [30, 0, 1, 1, 159]), (20, [2], [30, 0, -1, 1, 159]), (24, [0, 2], []), (20, [2], [50, 2, 1, 158, 157, 160, 2, 12, 0, 7, 4, 3, 2, 0, 158, 0, 1, 2, 0, 157, 2, 7, 0, 3, 2, 0, 157, 0, 2010, 3, 14, 1, 10, 3, 0, 160, 5, 3, 2, 0, 157, 0, 1, 0, 0, 1, 10, 3, 0, 160, 5, 3, 2, 0, 157, 0, 1, 0, 4]), (20, [9, 10, 2], [30, 0, 1, 0, 0, 1, 0, 0, -1, 1, 158]), (102, [9], [0, 13158]), (23, [1, 9], [0, 1, -1])], [], [(0, 0, 2010, [])], [(20, [2], [50, 2, 1, 158, 157, 160, 2, 12, 0, 7, 4, 3, 2, 0, 158, 0, 1, 2, 0, 157, 2, 7, 0, 3, 2, 0, 157, 0, 2010, 3, 14, 1, 10, 3, 0, 160, 5, 3, 2, 0, 157, 0, 1, 0, 0, 1, 10, 3, 0, 160, 5, 3, 2, 0, 157, 0, 1, 0, 4]), (20, [1, 2], [30, 0, 1, 0, 0, -1, 1, 158]), (20, [2], [30, 0, 1, 1, 159]), (20, [2], [30, 0, -1, 1, 159]), (24, [0, 2], []), (20, [11, 2], [30, 2010, 1, 0, 0, 1, 1, 158]), (20, [11, 2], [30, -2010, -1, 0, 0, -1, 1, 158])], [(11, 8, -1000000000000, -1)], [])
theorem oo_Mo_rule_at_f0_52 {kA : Nat → ClassId} : or_ok kA GG o_Mo_rule_at_f0_52 := by
  intro A ta ws vs hD hth hl hk hds hf
  have hl : vs.length = 11 := hl
  have hk : ∀ q ∈ ([(0, (2, 0, 0, [150])), (1, (0, 0, 2009, [])), (2, (2, 0, 0, [150])), (8, (0, 0, 2010, [])), (9, (0, 0, 2009, [])), (10, (0, 1, 1, []))] : List (Nat × tv_T)), tv_ok ta q.2 (n_v vs q.1) := hk
  obtain ⟨t0, hk⟩ := List.forall_mem_cons.mp hk
  have t0 : tv_ok ta (2, 0, 0, [150]) (n_v vs 0) := t0
  have r0 : ta (v_ad (n_v vs 0)) = some 150 := tv_rg t0
  obtain ⟨t1, hk⟩ := List.forall_mem_cons.mp hk
  have t1 : tv_ok ta (0, 0, 2009, []) (n_v vs 1) := t1
  have k1 : 0 ≤ v_iv (n_v vs 1) ∧ v_iv (n_v vs 1) ≤ 2009 := tv_rng t1
  obtain ⟨t2, hk⟩ := List.forall_mem_cons.mp hk
  have t2 : tv_ok ta (2, 0, 0, [150]) (n_v vs 2) := t2
  have r2 : ta (v_ad (n_v vs 2)) = some 150 := tv_rg t2
  obtain ⟨t8, hk⟩ := List.forall_mem_cons.mp hk
  have t8 : tv_ok ta (0, 0, 2010, []) (n_v vs 8) := t8
  have k8 : 0 ≤ v_iv (n_v vs 8) ∧ v_iv (n_v vs 8) ≤ 2010 := tv_rng t8
  obtain ⟨t9, hk⟩ := List.forall_mem_cons.mp hk
  have t9 : tv_ok ta (0, 0, 2009, []) (n_v vs 9) := t9
  have k9 : 0 ≤ v_iv (n_v vs 9) ∧ v_iv (n_v vs 9) ≤ 2009 := tv_rng t9
  obtain ⟨t10, hk⟩ := List.forall_mem_cons.mp hk
  have t10 : tv_ok ta (0, 1, 1, []) (n_v vs 10) := t10
  have k10 : 1 ≤ v_iv (n_v vs 10) ∧ v_iv (n_v vs 10) ≤ 1 := tv_rng t10
  have hf : fc_ok [(8, [10], [1]), (23, [1, 9], [0, 1, -1]), (20, [2], [30, 0, 1, 1, 159]), (20, [2], [30, 0, -1, 1, 159]), (24, [0, 2], []), (20, [2], [50, 2, 1, 158, 157, 160, 2, 12, 0, 7, 4, 3, 2, 0, 158, 0, 1, 2, 0, 157, 2, 7, 0, 3, 2, 0, 157, 0, 2010, 3, 14, 1, 10, 3, 0, 160, 5, 3, 2, 0, 157, 0, 1, 0, 0, 1, 10, 3, 0, 160, 5, 3, 2, 0, 157, 0, 1, 0, 4]), (20, [9, 10, 2], [30, 0, 1, 0, 0, 1, 0, 0, -1, 1, 158]), (102, [9], [0, 13158]), (23, [1, 9], [0, 1, -1])] ta ws vs := hf
  obtain ⟨f0, hf⟩ := fc_un (show (8 : Nat) < 100 from by decide) hf
  have f0 : v_iv (n_v vs 10) ≠ 0 := f0
  obtain ⟨f1, hf⟩ := fc_un (show (23 : Nat) < 100 from by decide) hf
  have f1 : 1 * v_iv (n_v vs 1) + ((-1) * v_iv (n_v vs 9) + 0) ≤ 0 := f1
  obtain ⟨f2, hf⟩ := fc_un (show (20 : Nat) < 100 from by decide) hf
  have f2 : 1 * w_fi ws (n_v vs 2) 159 + 0 ≤ 0 := f2
  obtain ⟨f3, hf⟩ := fc_un (show (20 : Nat) < 100 from by decide) hf
  have f3 : (-1) * w_fi ws (n_v vs 2) 159 + 0 ≤ 0 := f3
  obtain ⟨f4, hf⟩ := fc_un (show (24 : Nat) < 100 from by decide) hf
  have f4 : n_v vs 0 = n_v vs 2 := f4
  obtain ⟨f5, hf⟩ := fc_un (show (20 : Nat) < 100 from by decide) hf
  have f5 : ((w_fi ws (n_v vs 2) 158 + 1) ≤ w_fi ws (n_v vs 2) 157) ∧ ((w_fi ws (n_v vs 2) 157 ≤ 2010) ∧ ((w_ei ws (w_ar ws (n_v vs 2) 160) ((w_fi ws (n_v vs 2) 157 - 1)) = 0) ∨ (w_ei ws (w_ar ws (n_v vs 2) 160) ((w_fi ws (n_v vs 2) 157 - 1)) = 4))) := f5
  obtain ⟨f6, hf⟩ := fc_un (show (20 : Nat) < 100 from by decide) hf
  have f6 : 1 * v_iv (n_v vs 9) + (1 * v_iv (n_v vs 10) + ((-1) * w_fi ws (n_v vs 2) 158 + 0)) ≤ 0 := f6
  obtain ⟨ta1, w1, le1, ⟨_, s1⟩, hf⟩ := fc_us (show ¬ (102 : Nat) < 100 from by decide) hf
  obtain ⟨f8, hf⟩ := fc_un (show (23 : Nat) < 100 from by decide) hf
  have f8 : 1 * v_iv (n_v vs 1) + ((-1) * v_iv (n_v vs 9) + 0) ≤ 0 := f8
  have q2 : n_v vs 2 = n_v vs 0 := f4.symm
  rw [q2] at f2
  rw [q2] at f3
  rw [q2] at f5
  rw [q2] at f6
  have cr_0_160 : ta (w_ar ws (n_v vs 0) 160) = some 259 := tv_rg (th_fd hD hth r0 (g := GG_150) rfl (k := 160) (t := (2, 0, 0, [259])) rfl rfl)
  have hK_0_160 : ∀ j : Int, 0 ≤ j → j < 2010 → 0 ≤ w_ei ws (w_ar ws (n_v vs 0) 160) j ∧ w_ei ws (w_ar ws (n_v vs 0) 160) j ≤ 4 := fun j h0 h1 => th_el hD hth cr_0_160 (kd := 0) (n := 2010) (m := 2010) (lo := 0) (hi := 4) (rs := []) (L := []) rfl (by decide) (j := j.toNat) (by omega)
  have kz_0_157 : 0 ≤ w_fi ws (n_v vs 0) 157 ∧ w_fi ws (n_v vs 0) 157 ≤ 2010 := tv_rng (th_fd hD hth r0 (g := GG_150) rfl (k := 157) (t := (0, 0, 2010, [])) rfl rfl)
  have kz_0_158 : 0 ≤ w_fi ws (n_v vs 0) 158 ∧ w_fi ws (n_v vs 0) 158 ≤ 2009 := tv_rng (th_fd hD hth r0 (g := GG_150) rfl (k := 158) (t := (0, 0, 2009, [])) rfl rfl)
  have kz_0_159 : 0 ≤ w_fi ws (n_v vs 0) 159 ∧ w_fi ws (n_v vs 0) 159 ≤ 13 := tv_rng (th_fd hD hth r0 (g := GG_150) rfl (k := 159) (t := (0, 0, 13, [])) rfl rfl)
  have kb_0_158 : 0 ≤ w_fi ws (n_v vs 0) 158 ∧ w_fi ws (n_v vs 0) 158 ≤ 2009 := tv_rng (th_fd hD hth r0 (g := GG_150) rfl (k := 158) (t := (0, 0, 2009, [])) rfl rfl)
  obtain ⟨x, ex, hx⟩ := iv_ex (ta := ta) (lo := 0) (hi := 2010) (z := 2010 + ((-1) * w_fi ws (n_v vs 0) 158 + 0)) (by omega) (by omega) (by omega) (by omega)
  have ex2 : v_iv (Value.int x) = 2010 + ((-1) * w_fi ws (n_v vs 0) 158 + 0) := ex
  have ex3 : 0 ≤ v_iv (Value.int x) ∧ v_iv (Value.int x) ≤ 2010 := tv_rng hx
  have e_0 : n_v (vs ++ [Value.int x]) 0 = n_v vs 0 := n_v_old (by rw [hl]; decide)
  have e_1 : n_v (vs ++ [Value.int x]) 1 = n_v vs 1 := n_v_old (by rw [hl]; decide)
  have e_2 : n_v (vs ++ [Value.int x]) 2 = n_v vs 2 := n_v_old (by rw [hl]; decide)
  have e_11 : n_v (vs ++ [Value.int x]) 11 = Value.int x := n_v_new hl
  have nf0 : fc_1 (20, [2], [50, 2, 1, 158, 157, 160, 2, 12, 0, 7, 4, 3, 2, 0, 158, 0, 1, 2, 0, 157, 2, 7, 0, 3, 2, 0, 157, 0, 2010, 3, 14, 1, 10, 3, 0, 160, 5, 3, 2, 0, 157, 0, 1, 0, 0, 1, 10, 3, 0, 160, 5, 3, 2, 0, 157, 0, 1, 0, 4]) ws (vs ++ [Value.int x]) := by
    refine ⟨fun n hn => ?_, ?_⟩
    · have hn : n ∈ [2] := hn
      rw [List.length_append, hl]
      simp only [List.mem_cons, List.not_mem_nil, or_false] at hn
      show n < 11 + 1; omega
    · show ((w_fi ws (n_v (vs ++ [Value.int x]) 2) 158 + 1) ≤ w_fi ws (n_v (vs ++ [Value.int x]) 2) 157) ∧ ((w_fi ws (n_v (vs ++ [Value.int x]) 2) 157 ≤ 2010) ∧ ((w_ei ws (w_ar ws (n_v (vs ++ [Value.int x]) 2) 160) ((w_fi ws (n_v (vs ++ [Value.int x]) 2) 157 - 1)) = 0) ∨ (w_ei ws (w_ar ws (n_v (vs ++ [Value.int x]) 2) 160) ((w_fi ws (n_v (vs ++ [Value.int x]) 2) 157 - 1)) = 4)))
      rw [e_2]
      rw [q2]
      first | omega | grind
  have nf1 : fc_1 (20, [1, 2], [30, 0, 1, 0, 0, -1, 1, 158]) ws (vs ++ [Value.int x]) := by
    refine ⟨fun n hn => ?_, ?_⟩
    · have hn : n ∈ [1, 2] := hn
      rw [List.length_append, hl]
      simp only [List.mem_cons, List.not_mem_nil, or_false] at hn
      show n < 11 + 1; omega
    · show 1 * v_iv (n_v (vs ++ [Value.int x]) 1) + ((-1) * w_fi ws (n_v (vs ++ [Value.int x]) 2) 158 + 0) ≤ 0
      rw [e_1]
      rw [e_2]
      rw [q2]
      omega
  have nf2 : fc_1 (20, [2], [30, 0, 1, 1, 159]) ws (vs ++ [Value.int x]) := by
    refine ⟨fun n hn => ?_, ?_⟩
    · have hn : n ∈ [2] := hn
      rw [List.length_append, hl]
      simp only [List.mem_cons, List.not_mem_nil, or_false] at hn
      show n < 11 + 1; omega
    · show 1 * w_fi ws (n_v (vs ++ [Value.int x]) 2) 159 + 0 ≤ 0
      rw [e_2]
      rw [q2]
      omega
  have nf3 : fc_1 (20, [2], [30, 0, -1, 1, 159]) ws (vs ++ [Value.int x]) := by
    refine ⟨fun n hn => ?_, ?_⟩
    · have hn : n ∈ [2] := hn
      rw [List.length_append, hl]
      simp only [List.mem_cons, List.not_mem_nil, or_false] at hn
      show n < 11 + 1; omega
    · show (-1) * w_fi ws (n_v (vs ++ [Value.int x]) 2) 159 + 0 ≤ 0
      rw [e_2]
      rw [q2]
      omega
  have nf4 : fc_1 (24, [0, 2], []) ws (vs ++ [Value.int x]) := by
    refine ⟨fun n hn => ?_, ?_⟩
    · have hn : n ∈ [0, 2] := hn
      rw [List.length_append, hl]
      simp only [List.mem_cons, List.not_mem_nil, or_false] at hn
      show n < 11 + 1; omega
    · show n_v (vs ++ [Value.int x]) 0 = n_v (vs ++ [Value.int x]) 2
      first | rfl | simp only [e_0, e_2, q2]
  have nf5 : fc_1 (20, [11, 2], [30, 2010, 1, 0, 0, 1, 1, 158]) ws (vs ++ [Value.int x]) := by
    refine ⟨fun n hn => ?_, ?_⟩
    · have hn : n ∈ [11, 2] := hn
      rw [List.length_append, hl]
      simp only [List.mem_cons, List.not_mem_nil, or_false] at hn
      show n < 11 + 1; omega
    · show 1 * v_iv (n_v (vs ++ [Value.int x]) 11) + (1 * w_fi ws (n_v (vs ++ [Value.int x]) 2) 158 + 0) ≤ 2010
      rw [e_2]
      rw [e_11]
      rw [q2]
      omega
  have nf6 : fc_1 (20, [11, 2], [30, -2010, -1, 0, 0, -1, 1, 158]) ws (vs ++ [Value.int x]) := by
    refine ⟨fun n hn => ?_, ?_⟩
    · have hn : n ∈ [11, 2] := hn
      rw [List.length_append, hl]
      simp only [List.mem_cons, List.not_mem_nil, or_false] at hn
      show n < 11 + 1; omega
    · show (-1) * v_iv (n_v (vs ++ [Value.int x]) 11) + ((-1) * w_fi ws (n_v (vs ++ [Value.int x]) 2) 158 + 0) ≤ (-2010)
      rw [e_2]
      rw [e_11]
      rw [q2]
      omega
  obtain ⟨x0, e0, _, _⟩ := tv_int t8 rfl
  have e1 : v_iv (n_v vs 8) = x0.toInt := by rw [e0]; rfl
  have ho : sy_ofs (vs ++ [Value.int x]) (11, 8, -1000000000000, -1) := by
    refine ⟨x, x0, by rw [List.getElem?_append_right (by rw [hl]; decide), hl]; rfl, ?_, ?_, ?_⟩
    · rw [List.getElem?_append_left (by rw [hl]; decide)]; exact n_v_some (by rw [hl]; decide) e0
    · show x0.toInt + (-1000000000000) ≤ x.toInt; omega
    · show x.toInt ≤ x0.toInt + (-1); omega
  exact ⟨fun q hq => (by cases hq), [Value.int x], ag_one hx, List.forall_mem_cons.mpr ⟨⟨show (20 : Nat) < 100 from by decide, nf0⟩, List.forall_mem_cons.mpr ⟨⟨show (20 : Nat) < 100 from by decide, nf1⟩, List.forall_mem_cons.mpr ⟨⟨show (20 : Nat) < 100 from by decide, nf2⟩, List.forall_mem_cons.mpr ⟨⟨show (20 : Nat) < 100 from by decide, nf3⟩, List.forall_mem_cons.mpr ⟨⟨show (24 : Nat) < 100 from by decide, nf4⟩, List.forall_mem_cons.mpr ⟨⟨show (20 : Nat) < 100 from by decide, nf5⟩, List.forall_mem_cons.mpr ⟨⟨show (20 : Nat) < 100 from by decide, nf6⟩, (fun _ h => (by cases h))⟩⟩⟩⟩⟩⟩⟩, List.forall_mem_cons.mpr ⟨ho, (fun _ h => (by cases h))⟩⟩
def o_Mo_rule_at_f0_53 : or_T := (285, 12, [(0, (2, 0, 0, [150])), (1, (0, 0, 2009, [])), (2, (2, 0, 0, [150])), (9, (0, 0, 2009, [])), (10, (0, 0, 0, []))], [(8, [10], [0]), (23, [1, 9], [0, 1, -1]), (20, [2], [30, 0, 1, 1, 159]), (20, [2], [30, 0, -1, 1, 159]), (24, [0, 2], []), (20, [2], [50, 2, 1, 158, 157, 160, 2, 12, 0, 7, 4, 3, 2, 0, 158, 0, 1, 2, 0, 157, 2, 7, 0, 3, 2, 0, 157, 0, 2010, 3, 14, 1, 10, 3, 0, 160, 5, 3, 2, 0, 157, 0, 1, 0, 0, 1, 10, 3, 0, 160, 5, 3, 2, 0, 157, 0, 1, 0, 4]), (20, [9, 10, 2], [30, 0, 1, 0, 0, 1, 0, 0, -1, 1, 158]), (102, [9], [0, 13158]), (23, [1, 9], [0, 1, -1])], [], [(0, 0, 2009, [])], [(20, [2], [50, 2, 1, 158, 157, 160, 2, 12, 0, 7, 4, 3, 2, 0, 158, 0, 1, 2, 0, 157, 2, 7, 0, 3, 2, 0, 157, 0, 2010, 3, 14, 1, 10, 3, 0, 160, 5, 3, 2, 0, 157, 0, 1, 0, 0, 1, 10, 3, 0, 160, 5, 3, 2, 0, 157, 0, 1, 0, 4]), (20, [2, 12], [30, 0, 1, 1, 158, -1, 0, 0]), (20, [2, 12], [30, 0, -1, 1, 158, 1, 0, 0]), (23, [1, 12], [0, 1, -1])], [], [])
theorem oo_Mo_rule_at_f0_53 {kA : Nat → ClassId} : or_ok kA GG o_Mo_rule_at_f0_53 := by
  intro A ta ws vs hD hth hl hk hds hf
  have hl : vs.length = 12 := hl
  have hk : ∀ q ∈ ([(0, (2, 0, 0, [150])), (1, (0, 0, 2009, [])), (2, (2, 0, 0, [150])), (9, (0, 0, 2009, [])), (10, (0, 0, 0, []))] : List (Nat × tv_T)), tv_ok ta q.2 (n_v vs q.1) := hk
  obtain ⟨t0, hk⟩ := List.forall_mem_cons.mp hk
  have t0 : tv_ok ta (2, 0, 0, [150]) (n_v vs 0) := t0
  have r0 : ta (v_ad (n_v vs 0)) = some 150 := tv_rg t0
  obtain ⟨t1, hk⟩ := List.forall_mem_cons.mp hk
  have t1 : tv_ok ta (0, 0, 2009, []) (n_v vs 1) := t1
  have k1 : 0 ≤ v_iv (n_v vs 1) ∧ v_iv (n_v vs 1) ≤ 2009 := tv_rng t1
  obtain ⟨t2, hk⟩ := List.forall_mem_cons.mp hk
  have t2 : tv_ok ta (2, 0, 0, [150]) (n_v vs 2) := t2
  have r2 : ta (v_ad (n_v vs 2)) = some 150 := tv_rg t2
  obtain ⟨t9, hk⟩ := List.forall_mem_cons.mp hk
  have t9 : tv_ok ta (0, 0, 2009, []) (n_v vs 9) := t9
  have k9 : 0 ≤ v_iv (n_v vs 9) ∧ v_iv (n_v vs 9) ≤ 2009 := tv_rng t9
  obtain ⟨t10, hk⟩ := List.forall_mem_cons.mp hk
  have t10 : tv_ok ta (0, 0, 0, []) (n_v vs 10) := t10
  have k10 : 0 ≤ v_iv (n_v vs 10) ∧ v_iv (n_v vs 10) ≤ 0 := tv_rng t10
  have hf : fc_ok [(8, [10], [0]), (23, [1, 9], [0, 1, -1]), (20, [2], [30, 0, 1, 1, 159]), (20, [2], [30, 0, -1, 1, 159]), (24, [0, 2], []), (20, [2], [50, 2, 1, 158, 157, 160, 2, 12, 0, 7, 4, 3, 2, 0, 158, 0, 1, 2, 0, 157, 2, 7, 0, 3, 2, 0, 157, 0, 2010, 3, 14, 1, 10, 3, 0, 160, 5, 3, 2, 0, 157, 0, 1, 0, 0, 1, 10, 3, 0, 160, 5, 3, 2, 0, 157, 0, 1, 0, 4]), (20, [9, 10, 2], [30, 0, 1, 0, 0, 1, 0, 0, -1, 1, 158]), (102, [9], [0, 13158]), (23, [1, 9], [0, 1, -1])] ta ws vs := hf
  obtain ⟨f0, hf⟩ := fc_un (show (8 : Nat) < 100 from by decide) hf
  have f0 : v_iv (n_v vs 10) = 0 := f0
  obtain ⟨f1, hf⟩ := fc_un (show (23 : Nat) < 100 from by decide) hf
  have f1 : 1 * v_iv (n_v vs 1) + ((-1) * v_iv (n_v vs 9) + 0) ≤ 0 := f1
  obtain ⟨f2, hf⟩ := fc_un (show (20 : Nat) < 100 from by decide) hf
  have f2 : 1 * w_fi ws (n_v vs 2) 159 + 0 ≤ 0 := f2
  obtain ⟨f3, hf⟩ := fc_un (show (20 : Nat) < 100 from by decide) hf
  have f3 : (-1) * w_fi ws (n_v vs 2) 159 + 0 ≤ 0 := f3
  obtain ⟨f4, hf⟩ := fc_un (show (24 : Nat) < 100 from by decide) hf
  have f4 : n_v vs 0 = n_v vs 2 := f4
  obtain ⟨f5, hf⟩ := fc_un (show (20 : Nat) < 100 from by decide) hf
  have f5 : ((w_fi ws (n_v vs 2) 158 + 1) ≤ w_fi ws (n_v vs 2) 157) ∧ ((w_fi ws (n_v vs 2) 157 ≤ 2010) ∧ ((w_ei ws (w_ar ws (n_v vs 2) 160) ((w_fi ws (n_v vs 2) 157 - 1)) = 0) ∨ (w_ei ws (w_ar ws (n_v vs 2) 160) ((w_fi ws (n_v vs 2) 157 - 1)) = 4))) := f5
  obtain ⟨f6, hf⟩ := fc_un (show (20 : Nat) < 100 from by decide) hf
  have f6 : 1 * v_iv (n_v vs 9) + (1 * v_iv (n_v vs 10) + ((-1) * w_fi ws (n_v vs 2) 158 + 0)) ≤ 0 := f6
  obtain ⟨ta1, w1, le1, ⟨_, s1⟩, hf⟩ := fc_us (show ¬ (102 : Nat) < 100 from by decide) hf
  obtain ⟨f8, hf⟩ := fc_un (show (23 : Nat) < 100 from by decide) hf
  have f8 : 1 * v_iv (n_v vs 1) + ((-1) * v_iv (n_v vs 9) + 0) ≤ 0 := f8
  have q2 : n_v vs 2 = n_v vs 0 := f4.symm
  rw [q2] at f2
  rw [q2] at f3
  rw [q2] at f5
  rw [q2] at f6
  have cr_0_160 : ta (w_ar ws (n_v vs 0) 160) = some 259 := tv_rg (th_fd hD hth r0 (g := GG_150) rfl (k := 160) (t := (2, 0, 0, [259])) rfl rfl)
  have hK_0_160 : ∀ j : Int, 0 ≤ j → j < 2010 → 0 ≤ w_ei ws (w_ar ws (n_v vs 0) 160) j ∧ w_ei ws (w_ar ws (n_v vs 0) 160) j ≤ 4 := fun j h0 h1 => th_el hD hth cr_0_160 (kd := 0) (n := 2010) (m := 2010) (lo := 0) (hi := 4) (rs := []) (L := []) rfl (by decide) (j := j.toNat) (by omega)
  have kz_0_157 : 0 ≤ w_fi ws (n_v vs 0) 157 ∧ w_fi ws (n_v vs 0) 157 ≤ 2010 := tv_rng (th_fd hD hth r0 (g := GG_150) rfl (k := 157) (t := (0, 0, 2010, [])) rfl rfl)
  have kz_0_158 : 0 ≤ w_fi ws (n_v vs 0) 158 ∧ w_fi ws (n_v vs 0) 158 ≤ 2009 := tv_rng (th_fd hD hth r0 (g := GG_150) rfl (k := 158) (t := (0, 0, 2009, [])) rfl rfl)
  have kz_0_159 : 0 ≤ w_fi ws (n_v vs 0) 159 ∧ w_fi ws (n_v vs 0) 159 ≤ 13 := tv_rng (th_fd hD hth r0 (g := GG_150) rfl (k := 159) (t := (0, 0, 13, [])) rfl rfl)
  have kv0 : 0 ≤ w_fi ws (n_v vs 0) 158 ∧ w_fi ws (n_v vs 0) 158 ≤ 2009 := tv_rng (th_fd hD hth r0 (g := GG_150) rfl (k := 158) (t := (0, 0, 2009, [])) rfl rfl)
  obtain ⟨x, ex, hx⟩ := iv_ex (ta := ta) (lo := 0) (hi := 2009) (z := w_fi ws (n_v vs 0) 158) (by omega) (by omega) (by omega) (by omega)
  have ex2 : v_iv (Value.int x) = w_fi ws (n_v vs 0) 158 := ex
  have ex3 : 0 ≤ v_iv (Value.int x) ∧ v_iv (Value.int x) ≤ 2009 := tv_rng hx
  have e_1 : n_v (vs ++ [Value.int x]) 1 = n_v vs 1 := n_v_old (by rw [hl]; decide)
  have e_2 : n_v (vs ++ [Value.int x]) 2 = n_v vs 2 := n_v_old (by rw [hl]; decide)
  have e_12 : n_v (vs ++ [Value.int x]) 12 = Value.int x := n_v_new hl
  have nf0 : fc_1 (20, [2], [50, 2, 1, 158, 157, 160, 2, 12, 0, 7, 4, 3, 2, 0, 158, 0, 1, 2, 0, 157, 2, 7, 0, 3, 2, 0, 157, 0, 2010, 3, 14, 1, 10, 3, 0, 160, 5, 3, 2, 0, 157, 0, 1, 0, 0, 1, 10, 3, 0, 160, 5, 3, 2, 0, 157, 0, 1, 0, 4]) ws (vs ++ [Value.int x]) := by
    refine ⟨fun n hn => ?_, ?_⟩
    · have hn : n ∈ [2] := hn
      rw [List.length_append, hl]
      simp only [List.mem_cons, List.not_mem_nil, or_false] at hn
      show n < 12 + 1; omega
    · show ((w_fi ws (n_v (vs ++ [Value.int x]) 2) 158 + 1) ≤ w_fi ws (n_v (vs ++ [Value.int x]) 2) 157) ∧ ((w_fi ws (n_v (vs ++ [Value.int x]) 2) 157 ≤ 2010) ∧ ((w_ei ws (w_ar ws (n_v (vs ++ [Value.int x]) 2) 160) ((w_fi ws (n_v (vs ++ [Value.int x]) 2) 157 - 1)) = 0) ∨ (w_ei ws (w_ar ws (n_v (vs ++ [Value.int x]) 2) 160) ((w_fi ws (n_v (vs ++ [Value.int x]) 2) 157 - 1)) = 4)))
      rw [e_2]
      rw [q2]
      first | omega | grind
  have nf1 : fc_1 (20, [2, 12], [30, 0, 1, 1, 158, -1, 0, 0]) ws (vs ++ [Value.int x]) := by
    refine ⟨fun n hn => ?_, ?_⟩
    · have hn : n ∈ [2, 12] := hn
      rw [List.length_append, hl]
      simp only [List.mem_cons, List.not_mem_nil, or_false] at hn
      show n < 12 + 1; omega
    · show 1 * w_fi ws (n_v (vs ++ [Value.int x]) 2) 158 + ((-1) * v_iv (n_v (vs ++ [Value.int x]) 12) + 0) ≤ 0
      rw [e_2]
      rw [e_12]
      rw [q2]
      omega
  have nf2 : fc_1 (20, [2, 12], [30, 0, -1, 1, 158, 1, 0, 0]) ws (vs ++ [Value.int x]) := by
    refine ⟨fun n hn => ?_, ?_⟩
    · have hn : n ∈ [2, 12] := hn
      rw [List.length_append, hl]
      simp only [List.mem_cons, List.not_mem_nil, or_false] at hn
      show n < 12 + 1; omega
    · show (-1) * w_fi ws (n_v (vs ++ [Value.int x]) 2) 158 + (1 * v_iv (n_v (vs ++ [Value.int x]) 12) + 0) ≤ 0
      rw [e_2]
      rw [e_12]
      rw [q2]
      omega
  have nf3 : fc_1 (23, [1, 12], [0, 1, -1]) ws (vs ++ [Value.int x]) := by
    refine ⟨fun n hn => ?_, ?_⟩
    · have hn : n ∈ [1, 12] := hn
      rw [List.length_append, hl]
      simp only [List.mem_cons, List.not_mem_nil, or_false] at hn
      show n < 12 + 1; omega
    · show 1 * v_iv (n_v (vs ++ [Value.int x]) 1) + ((-1) * v_iv (n_v (vs ++ [Value.int x]) 12) + 0) ≤ 0
      rw [e_1]
      rw [e_12]
      omega
  exact ⟨fun q hq => (by cases hq), [Value.int x], ag_one hx, List.forall_mem_cons.mpr ⟨⟨show (20 : Nat) < 100 from by decide, nf0⟩, List.forall_mem_cons.mpr ⟨⟨show (20 : Nat) < 100 from by decide, nf1⟩, List.forall_mem_cons.mpr ⟨⟨show (20 : Nat) < 100 from by decide, nf2⟩, List.forall_mem_cons.mpr ⟨⟨show (23 : Nat) < 100 from by decide, nf3⟩, (fun _ h => (by cases h))⟩⟩⟩⟩, (fun _ h => (by cases h))⟩
def o_Mo_rule_at_f0_54 : or_T := (288, 13, [(0, (2, 0, 0, [150])), (1, (0, 0, 2009, [])), (2, (2, 0, 0, [150])), (9, (0, 0, 2009, [])), (12, (0, 0, 2009, []))], [(23, [1, 12], [0, 1, -1]), (23, [1, 9], [0, 1, -1]), (20, [2], [30, 0, 1, 1, 159]), (20, [2], [30, 0, -1, 1, 159]), (24, [0, 2], []), (20, [2], [50, 2, 1, 158, 157, 160, 2, 12, 0, 7, 4, 3, 2, 0, 158, 0, 1, 2, 0, 157, 2, 7, 0, 3, 2, 0, 157, 0, 2010, 3, 14, 1, 10, 3, 0, 160, 5, 3, 2, 0, 157, 0, 1, 0, 0, 1, 10, 3, 0, 160, 5, 3, 2, 0, 157, 0, 1, 0, 4]), (20, [12, 2], [30, 0, 1, 0, 0, -1, 1, 158]), (102, [12], [0, 13008, 13009, 13158]), (23, [1, 12], [0, 1, -1]), (23, [1, 9], [0, 1, -1]), (102, [9], [0, 13158]), (23, [1, 9], [0, 1, -1])], [], [], [(20, [0], [50, 2, 1, 158, 157, 160, 2, 12, 0, 7, 4, 3, 2, 0, 158, 0, 1, 2, 0, 157, 2, 7, 0, 3, 2, 0, 157, 0, 2010, 3, 14, 1, 10, 3, 0, 160, 5, 3, 2, 0, 157, 0, 1, 0, 0, 1, 10, 3, 0, 160, 5, 3, 2, 0, 157, 0, 1, 0, 4]), (20, [1, 0], [30, 0, 1, 0, 0, -1, 1, 158]), (20, [0], [30, 0, 1, 1, 159]), (20, [0], [30, 0, -1, 1, 159]), (20, [0, 1, 0], [31, 1, -1, -1, 1, 8, -1, 1, 0, 0, -1, 1, 158])], [], [])
theorem oo_Mo_rule_at_f0_54 {kA : Nat → ClassId} : or_ok kA GG o_Mo_rule_at_f0_54 := by
  intro A ta ws vs hD hth hl hk hds hf
  have hl : vs.length = 13 := hl
  have hk : ∀ q ∈ ([(0, (2, 0, 0, [150])), (1, (0, 0, 2009, [])), (2, (2, 0, 0, [150])), (9, (0, 0, 2009, [])), (12, (0, 0, 2009, []))] : List (Nat × tv_T)), tv_ok ta q.2 (n_v vs q.1) := hk
  obtain ⟨t0, hk⟩ := List.forall_mem_cons.mp hk
  have t0 : tv_ok ta (2, 0, 0, [150]) (n_v vs 0) := t0
  have r0 : ta (v_ad (n_v vs 0)) = some 150 := tv_rg t0
  obtain ⟨t1, hk⟩ := List.forall_mem_cons.mp hk
  have t1 : tv_ok ta (0, 0, 2009, []) (n_v vs 1) := t1
  have k1 : 0 ≤ v_iv (n_v vs 1) ∧ v_iv (n_v vs 1) ≤ 2009 := tv_rng t1
  obtain ⟨t2, hk⟩ := List.forall_mem_cons.mp hk
  have t2 : tv_ok ta (2, 0, 0, [150]) (n_v vs 2) := t2
  have r2 : ta (v_ad (n_v vs 2)) = some 150 := tv_rg t2
  obtain ⟨t9, hk⟩ := List.forall_mem_cons.mp hk
  have t9 : tv_ok ta (0, 0, 2009, []) (n_v vs 9) := t9
  have k9 : 0 ≤ v_iv (n_v vs 9) ∧ v_iv (n_v vs 9) ≤ 2009 := tv_rng t9
  obtain ⟨t12, hk⟩ := List.forall_mem_cons.mp hk
  have t12 : tv_ok ta (0, 0, 2009, []) (n_v vs 12) := t12
  have k12 : 0 ≤ v_iv (n_v vs 12) ∧ v_iv (n_v vs 12) ≤ 2009 := tv_rng t12
  have hf : fc_ok [(23, [1, 12], [0, 1, -1]), (23, [1, 9], [0, 1, -1]), (20, [2], [30, 0, 1, 1, 159]), (20, [2], [30, 0, -1, 1, 159]), (24, [0, 2], []), (20, [2], [50, 2, 1, 158, 157, 160, 2, 12, 0, 7, 4, 3, 2, 0, 158, 0, 1, 2, 0, 157, 2, 7, 0, 3, 2, 0, 157, 0, 2010, 3, 14, 1, 10, 3, 0, 160, 5, 3, 2, 0, 157, 0, 1, 0, 0, 1, 10, 3, 0, 160, 5, 3, 2, 0, 157, 0, 1, 0, 4]), (20, [12, 2], [30, 0, 1, 0, 0, -1, 1, 158]), (102, [12], [0, 13008, 13009, 13158]), (23, [1, 12], [0, 1, -1]), (23, [1, 9], [0, 1, -1]), (102, [9], [0, 13158]), (23, [1, 9], [0, 1, -1])] ta ws vs := hf
  obtain ⟨f0, hf⟩ := fc_un (show (23 : Nat) < 100 from by decide) hf
  have f0 : 1 * v_iv (n_v vs 1) + ((-1) * v_iv (n_v vs 12) + 0) ≤ 0 := f0
  obtain ⟨f1, hf⟩ := fc_un (show (23 : Nat) < 100 from by decide) hf
  have f1 : 1 * v_iv (n_v vs 1) + ((-1) * v_iv (n_v vs 9) + 0) ≤ 0 := f1
  obtain ⟨f2, hf⟩ := fc_un (show (20 : Nat) < 100 from by decide) hf
  have f2 : 1 * w_fi ws (n_v vs 2) 159 + 0 ≤ 0 := f2
  obtain ⟨f3, hf⟩ := fc_un (show (20 : Nat) < 100 from by decide) hf
  have f3 : (-1) * w_fi ws (n_v vs 2) 159 + 0 ≤ 0 := f3
  obtain ⟨f4, hf⟩ := fc_un (show (24 : Nat) < 100 from by decide) hf
  have f4 : n_v vs 0 = n_v vs 2 := f4
  obtain ⟨f5, hf⟩ := fc_un (show (20 : Nat) < 100 from by decide) hf
  have f5 : ((w_fi ws (n_v vs 2) 158 + 1) ≤ w_fi ws (n_v vs 2) 157) ∧ ((w_fi ws (n_v vs 2) 157 ≤ 2010) ∧ ((w_ei ws (w_ar ws (n_v vs 2) 160) ((w_fi ws (n_v vs 2) 157 - 1)) = 0) ∨ (w_ei ws (w_ar ws (n_v vs 2) 160) ((w_fi ws (n_v vs 2) 157 - 1)) = 4))) := f5
  obtain ⟨f6, hf⟩ := fc_un (show (20 : Nat) < 100 from by decide) hf
  have f6 : 1 * v_iv (n_v vs 12) + ((-1) * w_fi ws (n_v vs 2) 158 + 0) ≤ 0 := f6
  obtain ⟨ta1, w1, le1, ⟨_, s1⟩, hf⟩ := fc_us (show ¬ (102 : Nat) < 100 from by decide) hf
  obtain ⟨f8, hf⟩ := fc_un (show (23 : Nat) < 100 from by decide) hf
  have f8 : 1 * v_iv (n_v vs 1) + ((-1) * v_iv (n_v vs 12) + 0) ≤ 0 := f8
  obtain ⟨f9, hf⟩ := fc_un (show (23 : Nat) < 100 from by decide) hf
  have f9 : 1 * v_iv (n_v vs 1) + ((-1) * v_iv (n_v vs 9) + 0) ≤ 0 := f9
  obtain ⟨ta2, w2, le2, ⟨_, s2⟩, hf⟩ := fc_us (show ¬ (102 : Nat) < 100 from by decide) hf
  obtain ⟨f11, hf⟩ := fc_un (show (23 : Nat) < 100 from by decide) hf
  have f11 : 1 * v_iv (n_v vs 1) + ((-1) * v_iv (n_v vs 9) + 0) ≤ 0 := f11
  have q2 : n_v vs 2 = n_v vs 0 := f4.symm
  rw [q2] at f2
  rw [q2] at f3
  rw [q2] at f5
  rw [q2] at f6
  have cr_0_160 : ta (w_ar ws (n_v vs 0) 160) = some 259 := tv_rg (th_fd hD hth r0 (g := GG_150) rfl (k := 160) (t := (2, 0, 0, [259])) rfl rfl)
  have hK_0_160 : ∀ j : Int, 0 ≤ j → j < 2010 → 0 ≤ w_ei ws (w_ar ws (n_v vs 0) 160) j ∧ w_ei ws (w_ar ws (n_v vs 0) 160) j ≤ 4 := fun j h0 h1 => th_el hD hth cr_0_160 (kd := 0) (n := 2010) (m := 2010) (lo := 0) (hi := 4) (rs := []) (L := []) rfl (by decide) (j := j.toNat) (by omega)
  have kz_0_8 : 0 ≤ w_fi ws (n_v vs 0) 8 ∧ w_fi ws (n_v vs 0) 8 ≤ 5 := tv_rng (th_fd hD hth r0 (g := GG_150) rfl (k := 8) (t := (0, 0, 5, [])) rfl rfl)
  have kz_0_157 : 0 ≤ w_fi ws (n_v vs 0) 157 ∧ w_fi ws (n_v vs 0) 157 ≤ 2010 := tv_rng (th_fd hD hth r0 (g := GG_150) rfl (k := 157) (t := (0, 0, 2010, [])) rfl rfl)
  have kz_0_158 : 0 ≤ w_fi ws (n_v vs 0) 158 ∧ w_fi ws (n_v vs 0) 158 ≤ 2009 := tv_rng (th_fd hD hth r0 (g := GG_150) rfl (k := 158) (t := (0, 0, 2009, [])) rfl rfl)
  have kz_0_159 : 0 ≤ w_fi ws (n_v vs 0) 159 ∧ w_fi ws (n_v vs 0) 159 ≤ 13 := tv_rng (th_fd hD hth r0 (g := GG_150) rfl (k := 159) (t := (0, 0, 13, [])) rfl rfl)
  have nf0 : fc_1 (20, [0], [50, 2, 1, 158, 157, 160, 2, 12, 0, 7, 4, 3, 2, 0, 158, 0, 1, 2, 0, 157, 2, 7, 0, 3, 2, 0, 157, 0, 2010, 3, 14, 1, 10, 3, 0, 160, 5, 3, 2, 0, 157, 0, 1, 0, 0, 1, 10, 3, 0, 160, 5, 3, 2, 0, 157, 0, 1, 0, 4]) ws (vs) := by
    refine ⟨fun n hn => ?_, ?_⟩
    · have hn : n ∈ [0] := hn
      rw [hl]
      simp only [List.mem_cons, List.not_mem_nil, or_false] at hn
      show n < 13; omega
    · show ((w_fi ws (n_v vs 0) 158 + 1) ≤ w_fi ws (n_v vs 0) 157) ∧ ((w_fi ws (n_v vs 0) 157 ≤ 2010) ∧ ((w_ei ws (w_ar ws (n_v vs 0) 160) ((w_fi ws (n_v vs 0) 157 - 1)) = 0) ∨ (w_ei ws (w_ar ws (n_v vs 0) 160) ((w_fi ws (n_v vs 0) 157 - 1)) = 4)))
      first | omega | grind
  have nf1 : fc_1 (20, [1, 0], [30, 0, 1, 0, 0, -1, 1, 158]) ws (vs) := by
    refine ⟨fun n hn => ?_, ?_⟩
    · have hn : n ∈ [1, 0] := hn
      rw [hl]
      simp only [List.mem_cons, List.not_mem_nil, or_false] at hn
      show n < 13; omega
    · show 1 * v_iv (n_v vs 1) + ((-1) * w_fi ws (n_v vs 0) 158 + 0) ≤ 0
      omega
  have nf2 : fc_1 (20, [0], [30, 0, 1, 1, 159]) ws (vs) := by
    refine ⟨fun n hn => ?_, ?_⟩
    · have hn : n ∈ [0] := hn
      rw [hl]
      simp only [List.mem_cons, List.not_mem_nil, or_false] at hn
      show n < 13; omega
    · show 1 * w_fi ws (n_v vs 0) 159 + 0 ≤ 0
      omega
  have nf3 : fc_1 (20, [0], [30, 0, -1, 1, 159]) ws (vs) := by
    refine ⟨fun n hn => ?_, ?_⟩
    · have hn : n ∈ [0] := hn
      rw [hl]
      simp only [List.mem_cons, List.not_mem_nil, or_false] at hn
      show n < 13; omega
    · show (-1) * w_fi ws (n_v vs 0) 159 + 0 ≤ 0
      omega
  have nf4 : fc_1 (20, [0, 1, 0], [31, 1, -1, -1, 1, 8, -1, 1, 0, 0, -1, 1, 158]) ws (vs) := by
    refine ⟨fun n hn => ?_, ?_⟩
    · have hn : n ∈ [0, 1, 0] := hn
      rw [hl]
      simp only [List.mem_cons, List.not_mem_nil, or_false] at hn
      show n < 13; omega
    · show ((-1) * w_fi ws (n_v vs 0) 8 + 0 ≤ (-1)) ∨ (1 * v_iv (n_v vs 1) + ((-1) * w_fi ws (n_v vs 0) 158 + 0) ≤ (-1))
      omega
  refine ⟨(fun _ h => (by cases h)), [], trivial, ?_, (fun _ h => (by cases h))⟩
  rw [List.append_nil]
  exact List.forall_mem_cons.mpr ⟨⟨show (20 : Nat) < 100 from by decide, nf0⟩, List.forall_mem_cons.mpr ⟨⟨show (20 : Nat) < 100 from by decide, nf1⟩, List.forall_mem_cons.mpr ⟨⟨show (20 : Nat) < 100 from by decide, nf2⟩, List.forall_mem_cons.mpr ⟨⟨show (20 : Nat) < 100 from by decide, nf3⟩, List.forall_mem_cons.mpr ⟨⟨show (20 : Nat) < 100 from by decide, nf4⟩, (fun _ h => (by cases h))⟩⟩⟩⟩⟩
def n_Mo_rule_at_f0_an : List an_T := [(106, [(0, (2, 0, 0, [150])), (1, (0, 0, 1, [])), (2, (0, 0, 1, []))], [], (0, 0), [(0, 0, 99894), (2, 6, 0), (0, 0, 100000)], [(1, 3, -1000000000000, 2009), (1, 4, -1000000000000, 2009), (1, 5, -1000000000000, 2009), (3, 1, -1000000000000, 1), (3, 4, -1000000000000, 1), (3, 5, -1000000000000, 1), (4, 1, -1000000000000, 1), (4, 3, -1000000000000, 1), (4, 5, -1000000000000, 1), (5, 1, -1000000000000, 2009), (5, 3, -1000000000000, 2009), (5, 4, -1000000000000, 2009)], [((0, 158), (0, 0, 2009, []))], [(2, 0, 0, [150]), (0, 0, 2009, [])], 0, [(0, 0, 2010, [])], [(20, [2], [50, 2, 1, 158, 157, 160, 2, 12, 0, 7, 4, 3, 2, 0, 158, 0, 1, 2, 0, 157, 2, 7, 0, 3, 2, 0, 157, 0, 2010, 3, 14, 1, 10, 3, 0, 160, 5, 3, 2, 0, 157, 0, 1, 0, 0, 1, 10, 3, 0, 160, 5, 3, 2, 0, 157, 0, 1, 0, 4]), (20, [1, 2], [30, 0, 1, 0, 0, -1, 1, 158]), (20, [2], [30, 0, 1, 1, 159]), (20, [2], [30, 0, -1, 1, 159]), (24, [0, 2], []), (20, [6, 2], [30, 2010, 1, 0, 0, 1, 1, 158]), (20, [6, 2], [30, -2010, -1, 0, 0, -1, 1, 158])]), (275, [(0, (2, 0, 0, [150])), (1, (0, 0, 1, [])), (2, (0, 0, 1, [])), (3, (0, -1, 2, [])), (4, (1, -9223372036854775808, 9223372036854775807, []))], [], (0, 0), [(0, 0, 99894), (2, 8, 0), (0, 0, 99725)], [(1, 3, -1000000000000, 2009), (1, 4, -1000000000000, 2009), (1, 5, -1000000000000, 2010), (1, 7, -1000000000000, 2009), (3, 1, -1000000000000, 1), (3, 4, -1000000000000, 1), (3, 5, -1000000000000, 2), (3, 7, -1000000000000, 1), (4, 1, -1000000000000, 1), (4, 3, -1000000000000, 1), (4, 5, -1000000000000, 2), (4, 7, -1000000000000, 1), (5, 1, -1000000000000, 2), (5, 3, -1000000000000, 2), (5, 4, -1000000000000, 2), (7, 1, -1000000000000, 5), (7, 3, -1000000000000, 5), (7, 4, -1000000000000, 5), (7, 5, -1000000000000, 6)], [((0, 8), (0, 0, 5, []))], [(2, 0, 0, [150]), (0, 0, 2009, [])], 0, [(0, 0, 2010, [])], [(20, [2], [50, 2, 1, 158, 157, 160, 2, 12, 0, 7, 4, 3, 2, 0, 158, 0, 1, 2, 0, 157, 2, 7, 0, 3, 2, 0, 157, 0, 2010, 3, 14, 1, 10, 3, 0, 160, 5, 3, 2, 0, 157, 0, 1, 0, 0, 1, 10, 3, 0, 160, 5, 3, 2, 0, 157, 0, 1, 0, 4]), (20, [1, 2], [30, 0, 1, 0, 0, -1, 1, 158]), (20, [2], [30, 0, 1, 1, 159]), (20, [2], [30, 0, -1, 1, 159]), (20, [8, 2], [30, -2011, -1, 0, 0, -1, 1, 158]), (24, [0, 2], [])])]
def t_Mo_rule_at_f0_ct : ct_L := [(1, 463, e_Mo_wrong), (1, 1203, e_Mo_styleNeed), (1, 1217, e_Mo_comma), (16, 1190, e_Mo_word_at_s5000), (52, 1190, e_Mo_word_at_s5022), (196, 1190, e_Mo_word_at_s5023), (292, 1200, e_Mo_test_at_f0), (334, 1190, e_Mo_word_at_s5042), (376, 1190, e_Mo_word_at_s5043), (418, 1190, e_Mo_word_at_s5044), (583, 1212, e_Mo_sum_at_f0), (1000001, 467, en_ro [] (2, 0, 0, [5000])), (1000001, 1193, en_ro [] (2, 0, 0, [5022])), (1000001, 1198, en_ro [] (2, 0, 0, [5023])), (1000001, 1206, en_ro [] (2, 0, 0, [5042])), (1000001, 1208, en_ro [] (2, 0, 0, [5043])), (1000001, 1210, en_ro [] (2, 0, 0, [5044]))]
set_option maxRecDepth 100000 in
theorem c_Mo_rule_at_f0 {l : Launch} {D : va_G} {kA : Nat → ClassId} (h_Mo_comma : ct_ok l D kA GG y_Mo_comma z_Mo_comma e_Mo_comma) (h_Mo_styleNeed : ct_ok l D kA GG y_Mo_styleNeed z_Mo_styleNeed e_Mo_styleNeed) (h_Mo_sum_at_f0 : ct_ok l D kA GG y_Mo_sum_at_f0 z_Mo_sum_at_f0 e_Mo_sum_at_f0) (h_Mo_test_at_f0 : ct_ok l D kA GG y_Mo_test_at_f0 z_Mo_test_at_f0 e_Mo_test_at_f0) (h_Mo_word_at_s5000 : ct_ok l D kA GG y_Mo_word_at_s5000 z_Mo_word_at_s5000 e_Mo_word_at_s5000) (h_Mo_word_at_s5022 : ct_ok l D kA GG y_Mo_word_at_s5022 z_Mo_word_at_s5022 e_Mo_word_at_s5022) (h_Mo_word_at_s5023 : ct_ok l D kA GG y_Mo_word_at_s5023 z_Mo_word_at_s5023 e_Mo_word_at_s5023) (h_Mo_word_at_s5042 : ct_ok l D kA GG y_Mo_word_at_s5042 z_Mo_word_at_s5042 e_Mo_word_at_s5042) (h_Mo_word_at_s5043 : ct_ok l D kA GG y_Mo_word_at_s5043 z_Mo_word_at_s5043 e_Mo_word_at_s5043) (h_Mo_word_at_s5044 : ct_ok l D kA GG y_Mo_word_at_s5044 z_Mo_word_at_s5044 e_Mo_word_at_s5044) (h_Mo_wrong : ct_ok l D kA GG y_Mo_wrong z_Mo_wrong e_Mo_wrong) : ct_ok l D kA GG y_Mo_rule_at_f0 z_Mo_rule_at_f0 e_Mo_rule_at_f0 := chk_all_ok (FT := [(156, 13, 73), (348, 13, 162), (413, 13, 8), (1020, 13, 139), (1169, 13, 158), (1181, 13, 165), (1195, 13, 164)]) (PT := [(1169, 13, 158, .int), (1195, 13, 164, .int)]) (CT := t_Mo_rule_at_f0_ct) (KT := [(2, 1215, .long (255), (1, 255, 255, []))]) (NT := []) (AN := n_Mo_rule_at_f0_an) (OT := [o_Mo_rule_at_f0_0, o_Mo_rule_at_f0_1, o_Mo_rule_at_f0_2, o_Mo_rule_at_f0_3, o_Mo_rule_at_f0_4, o_Mo_rule_at_f0_5, o_Mo_rule_at_f0_6, o_Mo_rule_at_f0_7, o_Mo_rule_at_f0_8, o_Mo_rule_at_f0_9, o_Mo_rule_at_f0_10, o_Mo_rule_at_f0_11, o_Mo_rule_at_f0_12, o_Mo_rule_at_f0_13, o_Mo_rule_at_f0_14, o_Mo_rule_at_f0_15, o_Mo_rule_at_f0_16, o_Mo_rule_at_f0_17, o_Mo_rule_at_f0_18, o_Mo_rule_at_f0_19, o_Mo_rule_at_f0_20, o_Mo_rule_at_f0_21, o_Mo_rule_at_f0_22, o_Mo_rule_at_f0_23, o_Mo_rule_at_f0_24, o_Mo_rule_at_f0_25, o_Mo_rule_at_f0_26, o_Mo_rule_at_f0_27, o_Mo_rule_at_f0_28, o_Mo_rule_at_f0_29, o_Mo_rule_at_f0_30, o_Mo_rule_at_f0_31, o_Mo_rule_at_f0_32, o_Mo_rule_at_f0_33, o_Mo_rule_at_f0_34, o_Mo_rule_at_f0_35, o_Mo_rule_at_f0_36, o_Mo_rule_at_f0_37, o_Mo_rule_at_f0_38, o_Mo_rule_at_f0_39, o_Mo_rule_at_f0_40, o_Mo_rule_at_f0_41, o_Mo_rule_at_f0_42, o_Mo_rule_at_f0_43, o_Mo_rule_at_f0_44, o_Mo_rule_at_f0_45, o_Mo_rule_at_f0_46, o_Mo_rule_at_f0_47, o_Mo_rule_at_f0_48, o_Mo_rule_at_f0_49, o_Mo_rule_at_f0_50, o_Mo_rule_at_f0_51, o_Mo_rule_at_f0_52, o_Mo_rule_at_f0_53, o_Mo_rule_at_f0_54]) 3 1464 (List.forall_mem_cons.mpr ⟨oo_Mo_rule_at_f0_0, List.forall_mem_cons.mpr ⟨oo_Mo_rule_at_f0_1, List.forall_mem_cons.mpr ⟨oo_Mo_rule_at_f0_2, List.forall_mem_cons.mpr ⟨oo_Mo_rule_at_f0_3, List.forall_mem_cons.mpr ⟨oo_Mo_rule_at_f0_4, List.forall_mem_cons.mpr ⟨oo_Mo_rule_at_f0_5, List.forall_mem_cons.mpr ⟨oo_Mo_rule_at_f0_6, List.forall_mem_cons.mpr ⟨oo_Mo_rule_at_f0_7, List.forall_mem_cons.mpr ⟨oo_Mo_rule_at_f0_8, List.forall_mem_cons.mpr ⟨oo_Mo_rule_at_f0_9, List.forall_mem_cons.mpr ⟨oo_Mo_rule_at_f0_10, List.forall_mem_cons.mpr ⟨oo_Mo_rule_at_f0_11, List.forall_mem_cons.mpr ⟨oo_Mo_rule_at_f0_12, List.forall_mem_cons.mpr ⟨oo_Mo_rule_at_f0_13, List.forall_mem_cons.mpr ⟨oo_Mo_rule_at_f0_14, List.forall_mem_cons.mpr ⟨oo_Mo_rule_at_f0_15, List.forall_mem_cons.mpr ⟨oo_Mo_rule_at_f0_16, List.forall_mem_cons.mpr ⟨oo_Mo_rule_at_f0_17, List.forall_mem_cons.mpr ⟨oo_Mo_rule_at_f0_18, List.forall_mem_cons.mpr ⟨oo_Mo_rule_at_f0_19, List.forall_mem_cons.mpr ⟨oo_Mo_rule_at_f0_20, List.forall_mem_cons.mpr ⟨oo_Mo_rule_at_f0_21, List.forall_mem_cons.mpr ⟨oo_Mo_rule_at_f0_22, List.forall_mem_cons.mpr ⟨oo_Mo_rule_at_f0_23, List.forall_mem_cons.mpr ⟨oo_Mo_rule_at_f0_24, List.forall_mem_cons.mpr ⟨oo_Mo_rule_at_f0_25, List.forall_mem_cons.mpr ⟨oo_Mo_rule_at_f0_26, List.forall_mem_cons.mpr ⟨oo_Mo_rule_at_f0_27, List.forall_mem_cons.mpr ⟨oo_Mo_rule_at_f0_28, List.forall_mem_cons.mpr ⟨oo_Mo_rule_at_f0_29, List.forall_mem_cons.mpr ⟨oo_Mo_rule_at_f0_30, List.forall_mem_cons.mpr ⟨oo_Mo_rule_at_f0_31, List.forall_mem_cons.mpr ⟨oo_Mo_rule_at_f0_32, List.forall_mem_cons.mpr ⟨oo_Mo_rule_at_f0_33, List.forall_mem_cons.mpr ⟨oo_Mo_rule_at_f0_34, List.forall_mem_cons.mpr ⟨oo_Mo_rule_at_f0_35, List.forall_mem_cons.mpr ⟨oo_Mo_rule_at_f0_36, List.forall_mem_cons.mpr ⟨oo_Mo_rule_at_f0_37, List.forall_mem_cons.mpr ⟨oo_Mo_rule_at_f0_38, List.forall_mem_cons.mpr ⟨oo_Mo_rule_at_f0_39, List.forall_mem_cons.mpr ⟨oo_Mo_rule_at_f0_40, List.forall_mem_cons.mpr ⟨oo_Mo_rule_at_f0_41, List.forall_mem_cons.mpr ⟨oo_Mo_rule_at_f0_42, List.forall_mem_cons.mpr ⟨oo_Mo_rule_at_f0_43, List.forall_mem_cons.mpr ⟨oo_Mo_rule_at_f0_44, List.forall_mem_cons.mpr ⟨oo_Mo_rule_at_f0_45, List.forall_mem_cons.mpr ⟨oo_Mo_rule_at_f0_46, List.forall_mem_cons.mpr ⟨oo_Mo_rule_at_f0_47, List.forall_mem_cons.mpr ⟨oo_Mo_rule_at_f0_48, List.forall_mem_cons.mpr ⟨oo_Mo_rule_at_f0_49, List.forall_mem_cons.mpr ⟨oo_Mo_rule_at_f0_50, List.forall_mem_cons.mpr ⟨oo_Mo_rule_at_f0_51, List.forall_mem_cons.mpr ⟨oo_Mo_rule_at_f0_52, List.forall_mem_cons.mpr ⟨oo_Mo_rule_at_f0_53, List.forall_mem_cons.mpr ⟨oo_Mo_rule_at_f0_54, List.forall_mem_nil _⟩⟩⟩⟩⟩⟩⟩⟩⟩⟩⟩⟩⟩⟩⟩⟩⟩⟩⟩⟩⟩⟩⟩⟩⟩⟩⟩⟩⟩⟩⟩⟩⟩⟩⟩⟩⟩⟩⟩⟩⟩⟩⟩⟩⟩⟩⟩⟩⟩⟩⟩⟩⟩⟩⟩) (by decide +kernel) ⟨List.forall_mem_cons.mpr ⟨gf_Mo_156, List.forall_mem_cons.mpr ⟨gf_Mo_348, List.forall_mem_cons.mpr ⟨gf_Mo_413, List.forall_mem_cons.mpr ⟨gf_Mo_1020, List.forall_mem_cons.mpr ⟨gf_Mo_1169, List.forall_mem_cons.mpr ⟨gf_Mo_1181, List.forall_mem_cons.mpr ⟨gf_Mo_1195, List.forall_mem_nil _⟩⟩⟩⟩⟩⟩⟩, List.forall_mem_cons.mpr ⟨pf_Mo_1169, List.forall_mem_cons.mpr ⟨pf_Mo_1195, List.forall_mem_nil _⟩⟩, List.forall_mem_cons.mpr ⟨cl_virtual (y := y_Mo_wrong) (ci := 13) rfl rfl ⟨_, _, rfl⟩ (by decide +kernel) h_Mo_wrong wm_3017 wm_9 wm_3014 wm_3016 wv_13_1 ⟨by decide, by decide, by decide +kernel⟩ (by decide), List.forall_mem_cons.mpr ⟨cl_virtual (y := y_Mo_styleNeed) (ci := 13) rfl rfl ⟨_, _, rfl⟩ (by decide +kernel) h_Mo_styleNeed wm_3836 wm_9 wm_3833 wm_3835 wv_23_12 ⟨by decide, by decide, by decide +kernel⟩ (by decide), List.forall_mem_cons.mpr ⟨cl_virtual (y := y_Mo_comma) (ci := 13) rfl rfl ⟨_, _, rfl⟩ (by decide +kernel) h_Mo_comma wm_3889 wm_9 wm_3886 wm_3888 wv_24_4 ⟨by decide, by decide, by decide +kernel⟩ (by decide), List.forall_mem_cons.mpr ⟨cl_virtual (y := y_Mo_word_at_s5000) (ci := 13) rfl rfl ⟨_, _, rfl⟩ (by decide +kernel) h_Mo_word_at_s5000 wm_3809 wm_9 wm_3806 wm_3808 wv_23_6 ⟨by decide, by decide, by decide +kernel⟩ (by decide), List.forall_mem_cons.mpr ⟨cl_virtual (y := y_Mo_word_at_s5022) (ci := 13) rfl rfl ⟨_, _, rfl⟩ (by decide +kernel) h_Mo_word_at_s5022 wm_3809 wm_9 wm_3806 wm_3808 wv_23_6 ⟨by decide, by decide, by decide +kernel⟩ (by decide), List.forall_mem_cons.mpr ⟨cl_virtual (y := y_Mo_word_at_s5023) (ci := 13) rfl rfl ⟨_, _, rfl⟩ (by decide +kernel) h_Mo_word_at_s5023 wm_3809 wm_9 wm_3806 wm_3808 wv_23_6 ⟨by decide, by decide, by decide +kernel⟩ (by decide), List.forall_mem_cons.mpr ⟨cl_virtual (y := y_Mo_test_at_f0) (ci := 13) rfl rfl ⟨_, _, rfl⟩ (by decide +kernel) h_Mo_test_at_f0 wm_3815 wm_9 wm_3812 wm_3814 wv_23_7 ⟨by decide, by decide, by decide +kernel⟩ (by decide), List.forall_mem_cons.mpr ⟨cl_virtual (y := y_Mo_word_at_s5042) (ci := 13) rfl rfl ⟨_, _, rfl⟩ (by decide +kernel) h_Mo_word_at_s5042 wm_3809 wm_9 wm_3806 wm_3808 wv_23_6 ⟨by decide, by decide, by decide +kernel⟩ (by decide), List.forall_mem_cons.mpr ⟨cl_virtual (y := y_Mo_word_at_s5043) (ci := 13) rfl rfl ⟨_, _, rfl⟩ (by decide +kernel) h_Mo_word_at_s5043 wm_3809 wm_9 wm_3806 wm_3808 wv_23_6 ⟨by decide, by decide, by decide +kernel⟩ (by decide), List.forall_mem_cons.mpr ⟨cl_virtual (y := y_Mo_word_at_s5044) (ci := 13) rfl rfl ⟨_, _, rfl⟩ (by decide +kernel) h_Mo_word_at_s5044 wm_3809 wm_9 wm_3806 wm_3808 wv_23_6 ⟨by decide, by decide, by decide +kernel⟩ (by decide), List.forall_mem_cons.mpr ⟨cl_virtual (y := y_Mo_sum_at_f0) (ci := 13) rfl rfl ⟨_, _, rfl⟩ (by decide +kernel) h_Mo_sum_at_f0 wm_3840 wm_9 wm_3837 wm_3839 wv_23_13 ⟨by decide, by decide, by decide +kernel⟩ (by decide), List.forall_mem_cons.mpr ⟨cl_ldcw (own := "DrawingHouseModel") (idx := 467) (i := 0) (tx := "node") (by decide +kernel) (by decide +kernel) (by decide +kernel), List.forall_mem_cons.mpr ⟨cl_ldcw (own := "DrawingHouseModel") (idx := 1193) (i := 22) (tx := "edge") (by decide +kernel) (by decide +kernel) (by decide +kernel), List.forall_mem_cons.mpr ⟨cl_ldcw (own := "DrawingHouseModel") (idx := 1198) (i := 23) (tx := "if") (by decide +kernel) (by decide +kernel) (by decide +kernel), List.forall_mem_cons.mpr ⟨cl_ldcw (own := "DrawingHouseModel") (idx := 1206) (i := 42) (tx := "color") (by decide +kernel) (by decide +kernel) (by decide +kernel), List.forall_mem_cons.mpr ⟨cl_ldcw (own := "DrawingHouseModel") (idx := 1208) (i := 43) (tx := "width") (by decide +kernel) (by decide +kernel) (by decide +kernel), List.forall_mem_cons.mpr ⟨cl_ldcw (own := "DrawingHouseModel") (idx := 1210) (i := 44) (tx := "form") (by decide +kernel) (by decide +kernel) (by decide +kernel), List.forall_mem_nil _⟩⟩⟩⟩⟩⟩⟩⟩⟩⟩⟩⟩⟩⟩⟩⟩⟩, List.forall_mem_cons.mpr ⟨⟨kt_mk2 wm_3885, fun _ => Or.inr (Or.inl ⟨rfl, _, rfl, by decide, by decide⟩)⟩, List.forall_mem_nil _⟩, List.forall_mem_nil _, GG_pl⟩ (by decide +kernel)
