def o_Mo_next_43 : or_T := (185, 17, [(0, (2, 0, 0, [150])), (1, (0, 0, 2000, [])), (2, (2, 0, 0, [150])), (5, (0, 0, 1999, [])), (6, (0, 48, 57, [])), (11, (0, 0, 255, [])), (15, (0, 1, 1, [])), (16, (0, 1, 2000, []))], [(20, [5, 2, 11], [50, 1, 1, 1010, 1001, 4, 11, 0, 6, 4, 2, 1, 0, 0, 1, 2, 1, 10, 1, 2, 1, 2, 9, 5, 3, 1, 1, 1, 0, 0, 256]), (20, [2, 5, 11], [50, 1, 0, 10, 4, 7, 0, 3, 2, 0, 10, 1, 1, 1, 2, 1, 2, 0, -1]), (20, [5, 2, 6], [50, 1, 1, 1010, 1001, 4, 11, 0, 6, 4, 2, 1, 0, 0, 1, 2, 1, 10, 1, 2, 1, 2, 9, 5, 3, 1, 1, 1, 0, 0, 256]), (20, [2, 5, 6], [50, 1, 0, 10, 4, 7, 0, 3, 2, 0, 10, 1, 1, 1, 2, 1, 2, 0, -1]), (20, [1, 2], [30, 0, 1, 0, 0, -1, 1, 15]), (24, [0, 2], []), (101, [2, 16], [11]), (1, [16, 5, 15], []), (9, [5, 2], [11]), (20, [5, 2, 11], [50, 1, 1, 1010, 1001, 4, 11, 0, 6, 4, 2, 1, 0, 0, 1, 2, 1, 10, 1, 2, 1, 2, 9, 5, 3, 1, 1, 1, 0, 0, 256]), (20, [2, 5, 11], [50, 1, 0, 10, 4, 7, 0, 3, 2, 0, 10, 1, 1, 1, 2, 1, 2, 0, -1]), (20, [5, 2, 6], [50, 1, 1, 1010, 1001, 4, 11, 0, 6, 4, 2, 1, 0, 0, 1, 2, 1, 10, 1, 2, 1, 2, 9, 5, 3, 1, 1, 1, 0, 0, 256]), (20, [2, 5, 6], [50, 1, 0, 10, 4, 7, 0, 3, 2, 0, 10, 1, 1, 1, 2, 1, 2, 0, -1]), (20, [1, 2], [30, 0, 1, 0, 0, -1, 1, 15]), (20, [2], [50, 3, 1, 15, 11, 10, 1, 2, 8, 0, 3, 2, 0, 15, 2, 0, 11, 3, 12, 0, 7, 4, 3, 2, 0, 15, 0, 1, 2, 0, 11, 2, 8, 1, 3, 2, 0, 11, 2, 0, 15, 2, 12, 0, 7, 4, 3, 2, 0, 15, 0, 1, 2, 0, 10, 2, 14, 0, 2, 0, 48, 9, 6, 3, 0, 1, 2, 0, 15, 0, 256, 0, 10, 9, 6, 3, 0, 1, 2, 0, 15, 0, 256, 0, 57]), (101, [2, 14], [14]), (20, [5, 2, 11], [50, 1, 1, 1010, 1001, 4, 11, 0, 6, 4, 2, 1, 0, 0, 1, 2, 1, 10, 1, 2, 1, 2, 9, 5, 3, 1, 1, 1, 0, 0, 256]), (20, [2, 5, 11], [50, 1, 0, 10, 4, 7, 0, 3, 2, 0, 10, 1, 1, 1, 2, 1, 2, 0, -1]), (20, [5, 2, 6], [50, 1, 1, 1010, 1001, 4, 11, 0, 6, 4, 2, 1, 0, 0, 1, 2, 1, 10, 1, 2, 1, 2, 9, 5, 3, 1, 1, 1, 0, 0, 256]), (20, [2, 5, 6], [50, 1, 0, 10, 4, 7, 0, 3, 2, 0, 10, 1, 1, 1, 2, 1, 2, 0, -1]), (20, [1, 2], [30, 0, 1, 0, 0, -1, 1, 15]), (20, [2], [50, 3, 1, 15, 11, 10, 1, 2, 8, 0, 3, 2, 0, 15, 2, 0, 11, 3, 12, 0, 7, 4, 3, 2, 0, 15, 0, 1, 2, 0, 11, 2, 8, 1, 3, 2, 0, 11, 2, 0, 15, 2, 12, 0, 7, 4, 3, 2, 0, 15, 0, 1, 2, 0, 10, 2, 14, 0, 2, 0, 48, 9, 6, 3, 0, 1, 2, 0, 15, 0, 256, 0, 10, 9, 6, 3, 0, 1, 2, 0, 15, 0, 256, 0, 57])], [], [], [(20, [2], [50, 3, 1, 15, 11, 10, 1, 2, 8, 0, 3, 2, 0, 15, 2, 0, 11, 3, 12, 0, 7, 4, 3, 2, 0, 15, 0, 1, 2, 0, 11, 2, 8, 1, 3, 2, 0, 11, 2, 0, 15, 2, 12, 0, 7, 4, 3, 2, 0, 15, 0, 1, 2, 0, 10, 2, 14, 0, 2, 0, 48, 9, 6, 3, 0, 1, 2, 0, 15, 0, 256, 0, 10, 9, 6, 3, 0, 1, 2, 0, 15, 0, 256, 0, 57])], [], [(16, 5, 1, 1), (16, 1, -4294967296, 2001), (1, 5, -4294967296, 2000), (5, 1, -4294967296, 2000)])
theorem oo_Mo_next_43 {kA : Nat → ClassId} : or_ok kA GG o_Mo_next_43 := by
  intro A ta ws vs hD hth hl hk hds hf
  have hl : vs.length = 17 := hl
  have hk : ∀ q ∈ ([(0, (2, 0, 0, [150])), (1, (0, 0, 2000, [])), (2, (2, 0, 0, [150])), (5, (0, 0, 1999, [])), (6, (0, 48, 57, [])), (11, (0, 0, 255, [])), (15, (0, 1, 1, [])), (16, (0, 1, 2000, []))] : List (Nat × tv_T)), tv_ok ta q.2 (n_v vs q.1) := hk
  obtain ⟨t0, hk⟩ := List.forall_mem_cons.mp hk
  have t0 : tv_ok ta (2, 0, 0, [150]) (n_v vs 0) := t0
  have r0 : ta (v_ad (n_v vs 0)) = some 150 := tv_rg t0
  obtain ⟨t1, hk⟩ := List.forall_mem_cons.mp hk
  have t1 : tv_ok ta (0, 0, 2000, []) (n_v vs 1) := t1
  have k1 : 0 ≤ v_iv (n_v vs 1) ∧ v_iv (n_v vs 1) ≤ 2000 := tv_rng t1
  obtain ⟨t2, hk⟩ := List.forall_mem_cons.mp hk
  have t2 : tv_ok ta (2, 0, 0, [150]) (n_v vs 2) := t2
  have r2 : ta (v_ad (n_v vs 2)) = some 150 := tv_rg t2
  obtain ⟨t5, hk⟩ := List.forall_mem_cons.mp hk
  have t5 : tv_ok ta (0, 0, 1999, []) (n_v vs 5) := t5
  have k5 : 0 ≤ v_iv (n_v vs 5) ∧ v_iv (n_v vs 5) ≤ 1999 := tv_rng t5
  obtain ⟨t6, hk⟩ := List.forall_mem_cons.mp hk
  have t6 : tv_ok ta (0, 48, 57, []) (n_v vs 6) := t6
  have k6 : 48 ≤ v_iv (n_v vs 6) ∧ v_iv (n_v vs 6) ≤ 57 := tv_rng t6
  obtain ⟨t11, hk⟩ := List.forall_mem_cons.mp hk
  have t11 : tv_ok ta (0, 0, 255, []) (n_v vs 11) := t11
  have k11 : 0 ≤ v_iv (n_v vs 11) ∧ v_iv (n_v vs 11) ≤ 255 := tv_rng t11
  obtain ⟨t15, hk⟩ := List.forall_mem_cons.mp hk
  have t15 : tv_ok ta (0, 1, 1, []) (n_v vs 15) := t15
  have k15 : 1 ≤ v_iv (n_v vs 15) ∧ v_iv (n_v vs 15) ≤ 1 := tv_rng t15
  obtain ⟨t16, hk⟩ := List.forall_mem_cons.mp hk
  have t16 : tv_ok ta (0, 1, 2000, []) (n_v vs 16) := t16
  have k16 : 1 ≤ v_iv (n_v vs 16) ∧ v_iv (n_v vs 16) ≤ 2000 := tv_rng t16
  have hds : ∀ q ∈ ([(16, 5, 1, 1), (16, 1, -4294967296, 2001), (1, 5, -4294967296, 2000), (5, 1, -4294967296, 2000)] : List of_T), n_iv vs q.2.1 + q.2.2.1 ≤ n_iv vs q.1 ∧ n_iv vs q.1 ≤ n_iv vs q.2.1 + q.2.2.2 := hds
  obtain ⟨d0, hds⟩ := List.forall_mem_cons.mp hds
  have d0 : v_iv (n_v vs 5) + 1 ≤ v_iv (n_v vs 16) ∧ v_iv (n_v vs 16) ≤ v_iv (n_v vs 5) + 1 := d0
  obtain ⟨d1, hds⟩ := List.forall_mem_cons.mp hds
  have d1 : v_iv (n_v vs 1) + (-4294967296) ≤ v_iv (n_v vs 16) ∧ v_iv (n_v vs 16) ≤ v_iv (n_v vs 1) + 2001 := d1
  obtain ⟨d2, hds⟩ := List.forall_mem_cons.mp hds
  have d2 : v_iv (n_v vs 5) + (-4294967296) ≤ v_iv (n_v vs 1) ∧ v_iv (n_v vs 1) ≤ v_iv (n_v vs 5) + 2000 := d2
  obtain ⟨d3, hds⟩ := List.forall_mem_cons.mp hds
  have d3 : v_iv (n_v vs 1) + (-4294967296) ≤ v_iv (n_v vs 5) ∧ v_iv (n_v vs 5) ≤ v_iv (n_v vs 1) + 2000 := d3
  have hf : fc_ok [(20, [5, 2, 11], [50, 1, 1, 1010, 1001, 4, 11, 0, 6, 4, 2, 1, 0, 0, 1, 2, 1, 10, 1, 2, 1, 2, 9, 5, 3, 1, 1, 1, 0, 0, 256]), (20, [2, 5, 11], [50, 1, 0, 10, 4, 7, 0, 3, 2, 0, 10, 1, 1, 1, 2, 1, 2, 0, -1]), (20, [5, 2, 6], [50, 1, 1, 1010, 1001, 4, 11, 0, 6, 4, 2, 1, 0, 0, 1, 2, 1, 10, 1, 2, 1, 2, 9, 5, 3, 1, 1, 1, 0, 0, 256]), (20, [2, 5, 6], [50, 1, 0, 10, 4, 7, 0, 3, 2, 0, 10, 1, 1, 1, 2, 1, 2, 0, -1]), (20, [1, 2], [30, 0, 1, 0, 0, -1, 1, 15]), (24, [0, 2], []), (101, [2, 16], [11]), (1, [16, 5, 15], []), (9, [5, 2], [11]), (20, [5, 2, 11], [50, 1, 1, 1010, 1001, 4, 11, 0, 6, 4, 2, 1, 0, 0, 1, 2, 1, 10, 1, 2, 1, 2, 9, 5, 3, 1, 1, 1, 0, 0, 256]), (20, [2, 5, 11], [50, 1, 0, 10, 4, 7, 0, 3, 2, 0, 10, 1, 1, 1, 2, 1, 2, 0, -1]), (20, [5, 2, 6], [50, 1, 1, 1010, 1001, 4, 11, 0, 6, 4, 2, 1, 0, 0, 1, 2, 1, 10, 1, 2, 1, 2, 9, 5, 3, 1, 1, 1, 0, 0, 256]), (20, [2, 5, 6], [50, 1, 0, 10, 4, 7, 0, 3, 2, 0, 10, 1, 1, 1, 2, 1, 2, 0, -1]), (20, [1, 2], [30, 0, 1, 0, 0, -1, 1, 15]), (20, [2], [50, 3, 1, 15, 11, 10, 1, 2, 8, 0, 3, 2, 0, 15, 2, 0, 11, 3, 12, 0, 7, 4, 3, 2, 0, 15, 0, 1, 2, 0, 11, 2, 8, 1, 3, 2, 0, 11, 2, 0, 15, 2, 12, 0, 7, 4, 3, 2, 0, 15, 0, 1, 2, 0, 10, 2, 14, 0, 2, 0, 48, 9, 6, 3, 0, 1, 2, 0, 15, 0, 256, 0, 10, 9, 6, 3, 0, 1, 2, 0, 15, 0, 256, 0, 57]), (101, [2, 14], [14]), (20, [5, 2, 11], [50, 1, 1, 1010, 1001, 4, 11, 0, 6, 4, 2, 1, 0, 0, 1, 2, 1, 10, 1, 2, 1, 2, 9, 5, 3, 1, 1, 1, 0, 0, 256]), (20, [2, 5, 11], [50, 1, 0, 10, 4, 7, 0, 3, 2, 0, 10, 1, 1, 1, 2, 1, 2, 0, -1]), (20, [5, 2, 6], [50, 1, 1, 1010, 1001, 4, 11, 0, 6, 4, 2, 1, 0, 0, 1, 2, 1, 10, 1, 2, 1, 2, 9, 5, 3, 1, 1, 1, 0, 0, 256]), (20, [2, 5, 6], [50, 1, 0, 10, 4, 7, 0, 3, 2, 0, 10, 1, 1, 1, 2, 1, 2, 0, -1]), (20, [1, 2], [30, 0, 1, 0, 0, -1, 1, 15]), (20, [2], [50, 3, 1, 15, 11, 10, 1, 2, 8, 0, 3, 2, 0, 15, 2, 0, 11, 3, 12, 0, 7, 4, 3, 2, 0, 15, 0, 1, 2, 0, 11, 2, 8, 1, 3, 2, 0, 11, 2, 0, 15, 2, 12, 0, 7, 4, 3, 2, 0, 15, 0, 1, 2, 0, 10, 2, 14, 0, 2, 0, 48, 9, 6, 3, 0, 1, 2, 0, 15, 0, 256, 0, 10, 9, 6, 3, 0, 1, 2, 0, 15, 0, 256, 0, 57])] ta ws vs := hf
  obtain ⟨f0, hf⟩ := fc_un (show (20 : Nat) < 100 from by decide) hf
  have f0 : ((v_iv (n_v vs 5) + 1) ≤ w_fi ws (n_v vs 2) 10) → (v_iv (n_v vs 11) = (w_ei ws (w_ar ws (n_v vs 2) 1) (v_iv (n_v vs 5)) % 256)) := f0
  obtain ⟨f1, hf⟩ := fc_un (show (20 : Nat) < 100 from by decide) hf
  have f1 : (w_fi ws (n_v vs 2) 10 ≤ v_iv (n_v vs 5)) → (v_iv (n_v vs 11) = (-1)) := f1
  obtain ⟨f2, hf⟩ := fc_un (show (20 : Nat) < 100 from by decide) hf
  have f2 : ((v_iv (n_v vs 5) + 1) ≤ w_fi ws (n_v vs 2) 10) → (v_iv (n_v vs 6) = (w_ei ws (w_ar ws (n_v vs 2) 1) (v_iv (n_v vs 5)) % 256)) := f2
  obtain ⟨f3, hf⟩ := fc_un (show (20 : Nat) < 100 from by decide) hf
  have f3 : (w_fi ws (n_v vs 2) 10 ≤ v_iv (n_v vs 5)) → (v_iv (n_v vs 6) = (-1)) := f3
  obtain ⟨f4, hf⟩ := fc_un (show (20 : Nat) < 100 from by decide) hf
  have f4 : 1 * v_iv (n_v vs 1) + ((-1) * w_fi ws (n_v vs 2) 15 + 0) ≤ 0 := f4
  obtain ⟨f5, hf⟩ := fc_un (show (24 : Nat) < 100 from by decide) hf
  have f5 : n_v vs 0 = n_v vs 2 := f5
  obtain ⟨ta1, w1, le1, ⟨_, s1⟩, hf⟩ := fc_us (show ¬ (101 : Nat) < 100 from by decide) hf
  have s1 : (∀ b j, w_el ws b j = w_el w1 b j) ∧ ∀ b j, w_fd ws b j = if b = v_ad (n_v vs 2) ∧ j = 11 then n_v vs 16 else w_fd w1 b j := s1
  obtain ⟨f7, hf⟩ := fc_un (show (1 : Nat) < 100 from by decide) hf
  have f7 : v_iv (n_v vs 16) = v_iv (n_v vs 5) + v_iv (n_v vs 15) := f7
  obtain ⟨f8, hf⟩ := fc_un (show (9 : Nat) < 100 from by decide) hf
  have f8 : n_v vs 5 = w_fd w1 (v_ad (n_v vs 2)) 11 := f8
  obtain ⟨f9, hf⟩ := fc_un (show (20 : Nat) < 100 from by decide) hf
  have f9 : ((v_iv (n_v vs 5) + 1) ≤ w_fi w1 (n_v vs 2) 10) → (v_iv (n_v vs 11) = (w_ei w1 (w_ar w1 (n_v vs 2) 1) (v_iv (n_v vs 5)) % 256)) := f9
  obtain ⟨f10, hf⟩ := fc_un (show (20 : Nat) < 100 from by decide) hf
  have f10 : (w_fi w1 (n_v vs 2) 10 ≤ v_iv (n_v vs 5)) → (v_iv (n_v vs 11) = (-1)) := f10
  obtain ⟨f11, hf⟩ := fc_un (show (20 : Nat) < 100 from by decide) hf
  have f11 : ((v_iv (n_v vs 5) + 1) ≤ w_fi w1 (n_v vs 2) 10) → (v_iv (n_v vs 6) = (w_ei w1 (w_ar w1 (n_v vs 2) 1) (v_iv (n_v vs 5)) % 256)) := f11
  obtain ⟨f12, hf⟩ := fc_un (show (20 : Nat) < 100 from by decide) hf
  have f12 : (w_fi w1 (n_v vs 2) 10 ≤ v_iv (n_v vs 5)) → (v_iv (n_v vs 6) = (-1)) := f12
  obtain ⟨f13, hf⟩ := fc_un (show (20 : Nat) < 100 from by decide) hf
  have f13 : 1 * v_iv (n_v vs 1) + ((-1) * w_fi w1 (n_v vs 2) 15 + 0) ≤ 0 := f13
  obtain ⟨f14, hf⟩ := fc_un (show (20 : Nat) < 100 from by decide) hf
  have f14 : (w_fi w1 (n_v vs 2) 15 ≤ w_fi w1 (n_v vs 2) 11) ∧ (((w_fi w1 (n_v vs 2) 15 + 1) ≤ w_fi w1 (n_v vs 2) 11) ∨ ((w_fi w1 (n_v vs 2) 11 = w_fi w1 (n_v vs 2) 15) ∧ (((w_fi w1 (n_v vs 2) 15 + 1) ≤ w_fi w1 (n_v vs 2) 10) ∧ ((48 ≤ (w_ei w1 (w_ar w1 (n_v vs 2) 1) (w_fi w1 (n_v vs 2) 15) % 256)) ∧ ((w_ei w1 (w_ar w1 (n_v vs 2) 1) (w_fi w1 (n_v vs 2) 15) % 256) ≤ 57))))) := f14
  obtain ⟨ta2, w2, le2, ⟨_, s2⟩, hf⟩ := fc_us (show ¬ (101 : Nat) < 100 from by decide) hf
  have s2 : (∀ b j, w_el w1 b j = w_el w2 b j) ∧ ∀ b j, w_fd w1 b j = if b = v_ad (n_v vs 2) ∧ j = 14 then n_v vs 14 else w_fd w2 b j := s2
  obtain ⟨f16, hf⟩ := fc_un (show (20 : Nat) < 100 from by decide) hf
  have f16 : ((v_iv (n_v vs 5) + 1) ≤ w_fi w2 (n_v vs 2) 10) → (v_iv (n_v vs 11) = (w_ei w2 (w_ar w2 (n_v vs 2) 1) (v_iv (n_v vs 5)) % 256)) := f16
  obtain ⟨f17, hf⟩ := fc_un (show (20 : Nat) < 100 from by decide) hf
  have f17 : (w_fi w2 (n_v vs 2) 10 ≤ v_iv (n_v vs 5)) → (v_iv (n_v vs 11) = (-1)) := f17
  obtain ⟨f18, hf⟩ := fc_un (show (20 : Nat) < 100 from by decide) hf
  have f18 : ((v_iv (n_v vs 5) + 1) ≤ w_fi w2 (n_v vs 2) 10) → (v_iv (n_v vs 6) = (w_ei w2 (w_ar w2 (n_v vs 2) 1) (v_iv (n_v vs 5)) % 256)) := f18
  obtain ⟨f19, hf⟩ := fc_un (show (20 : Nat) < 100 from by decide) hf
  have f19 : (w_fi w2 (n_v vs 2) 10 ≤ v_iv (n_v vs 5)) → (v_iv (n_v vs 6) = (-1)) := f19
  obtain ⟨f20, hf⟩ := fc_un (show (20 : Nat) < 100 from by decide) hf
  have f20 : 1 * v_iv (n_v vs 1) + ((-1) * w_fi w2 (n_v vs 2) 15 + 0) ≤ 0 := f20
  obtain ⟨f21, hf⟩ := fc_un (show (20 : Nat) < 100 from by decide) hf
  have f21 : (w_fi w2 (n_v vs 2) 15 ≤ w_fi w2 (n_v vs 2) 11) ∧ (((w_fi w2 (n_v vs 2) 15 + 1) ≤ w_fi w2 (n_v vs 2) 11) ∨ ((w_fi w2 (n_v vs 2) 11 = w_fi w2 (n_v vs 2) 15) ∧ (((w_fi w2 (n_v vs 2) 15 + 1) ≤ w_fi w2 (n_v vs 2) 10) ∧ ((48 ≤ (w_ei w2 (w_ar w2 (n_v vs 2) 1) (w_fi w2 (n_v vs 2) 15) % 256)) ∧ ((w_ei w2 (w_ar w2 (n_v vs 2) 1) (w_fi w2 (n_v vs 2) 15) % 256) ≤ 57))))) := f21
  have q2 : n_v vs 2 = n_v vs 0 := f5.symm
  rw [q2] at f0
  rw [q2] at f1
  rw [q2] at f2
  rw [q2] at f3
  rw [q2] at f4
  rw [q2] at s1
  rw [q2] at f8
  rw [q2] at f9
  rw [q2] at f10
  rw [q2] at f11
  rw [q2] at f12
  rw [q2] at f13
  rw [q2] at f14
  rw [q2] at s2
  rw [q2] at f16
  rw [q2] at f17
  rw [q2] at f18
  rw [q2] at f19
  rw [q2] at f20
  rw [q2] at f21
  have ar_0_1_1 : w_ar w1 (n_v vs 0) 1 = w_ar ws (n_v vs 0) 1 := by show v_ad (w_fd w1 _ _) = v_ad (w_fd ws _ _); rw [s1.2, if_neg (fun e => absurd e.2 (by decide))]
  have ar_0_1_2 : w_ar w2 (n_v vs 0) 1 = w_ar ws (n_v vs 0) 1 := by rw [← ar_0_1_1]; show v_ad (w_fd w2 _ _) = v_ad (w_fd w1 _ _); rw [s2.2, if_neg (fun e => absurd e.2 (by decide))]
  have cr_0_1 : ta (w_ar ws (n_v vs 0) 1) = some 151 := tv_rg (th_fd hD hth r0 (g := GG_150) rfl (k := 1) (t := (2, 0, 0, [151])) rfl rfl)
  have g8 : v_iv (n_v vs 5) = w_fi w1 (n_v vs 0) 11 := congrArg v_iv f8
  rw [ar_0_1_1] at f9
  rw [ar_0_1_1] at f11
  rw [ar_0_1_1] at f14
  rw [ar_0_1_2] at f16
  rw [ar_0_1_2] at f18
  rw [ar_0_1_2] at f21
  have fe_0_10_1 : w_fi ws (n_v vs 0) 10 = w_fi w1 (n_v vs 0) 10 := by show v_iv (w_fd _ _ _) = v_iv (w_fd _ _ _); rw [s1.2, if_neg (fun e => absurd e.2 (by decide))]
  have fe_0_11_1 : w_fi ws (n_v vs 0) 11 = v_iv (n_v vs 16) := by show v_iv (w_fd _ _ _) = _; rw [s1.2, if_pos ⟨rfl, rfl⟩]
  have fe_0_15_1 : w_fi ws (n_v vs 0) 15 = w_fi w1 (n_v vs 0) 15 := by show v_iv (w_fd _ _ _) = v_iv (w_fd _ _ _); rw [s1.2, if_neg (fun e => absurd e.2 (by decide))]
  have fe_0_10_2 : w_fi w1 (n_v vs 0) 10 = w_fi w2 (n_v vs 0) 10 := by show v_iv (w_fd _ _ _) = v_iv (w_fd _ _ _); rw [s2.2, if_neg (fun e => absurd e.2 (by decide))]
  have fe_0_11_2 : w_fi w1 (n_v vs 0) 11 = w_fi w2 (n_v vs 0) 11 := by show v_iv (w_fd _ _ _) = v_iv (w_fd _ _ _); rw [s2.2, if_neg (fun e => absurd e.2 (by decide))]
  have fe_0_15_2 : w_fi w1 (n_v vs 0) 15 = w_fi w2 (n_v vs 0) 15 := by show v_iv (w_fd _ _ _) = v_iv (w_fd _ _ _); rw [s2.2, if_neg (fun e => absurd e.2 (by decide))]
  have hE_0_1_1 : ∀ j : Int, w_ei ws (w_ar ws (n_v vs 0) 1) j = w_ei w1 (w_ar ws (n_v vs 0) 1) j := fun j => s1.1 _ _
  have hE_0_1_2 : ∀ j : Int, w_ei w1 (w_ar ws (n_v vs 0) 1) j = w_ei w2 (w_ar ws (n_v vs 0) 1) j := fun j => s2.1 _ _
  have hK_0_1 : ∀ j : Int, 0 ≤ j → j < 2000 → (-128) ≤ w_ei ws (w_ar ws (n_v vs 0) 1) j ∧ w_ei ws (w_ar ws (n_v vs 0) 1) j ≤ 127 := fun j h0 h1 => th_el hD hth cr_0_1 (kd := 1) (n := 2000) (m := 2000) (lo := (-128)) (hi := 127) (rs := []) (L := []) rfl (by decide) (j := j.toNat) (by omega)
  have kz_0_10 : 0 ≤ w_fi ws (n_v vs 0) 10 ∧ w_fi ws (n_v vs 0) 10 ≤ 2000 := tv_rng (th_fd hD hth r0 (g := GG_150) rfl (k := 10) (t := (0, 0, 2000, [])) rfl rfl)
  have kz_0_11 : 0 ≤ w_fi ws (n_v vs 0) 11 ∧ w_fi ws (n_v vs 0) 11 ≤ 2000 := tv_rng (th_fd hD hth r0 (g := GG_150) rfl (k := 11) (t := (0, 0, 2000, [])) rfl rfl)
  have kz_0_15 : 0 ≤ w_fi ws (n_v vs 0) 15 ∧ w_fi ws (n_v vs 0) 15 ≤ 2000 := tv_rng (th_fd hD hth r0 (g := GG_150) rfl (k := 15) (t := (0, 0, 2000, [])) rfl rfl)
  have nf0 : fc_1 (20, [2], [50, 3, 1, 15, 11, 10, 1, 2, 8, 0, 3, 2, 0, 15, 2, 0, 11, 3, 12, 0, 7, 4, 3, 2, 0, 15, 0, 1, 2, 0, 11, 2, 8, 1, 3, 2, 0, 11, 2, 0, 15, 2, 12, 0, 7, 4, 3, 2, 0, 15, 0, 1, 2, 0, 10, 2, 14, 0, 2, 0, 48, 9, 6, 3, 0, 1, 2, 0, 15, 0, 256, 0, 10, 9, 6, 3, 0, 1, 2, 0, 15, 0, 256, 0, 57]) ws (vs) := by
    refine ⟨fun n hn => ?_, ?_⟩
    · have hn : n ∈ [2] := hn
      rw [hl]
      simp only [List.mem_cons, List.not_mem_nil, or_false] at hn
      show n < 17; omega
    · show (w_fi ws (n_v vs 2) 15 ≤ w_fi ws (n_v vs 2) 11) ∧ (((w_fi ws (n_v vs 2) 15 + 1) ≤ w_fi ws (n_v vs 2) 11) ∨ ((w_fi ws (n_v vs 2) 11 = w_fi ws (n_v vs 2) 15) ∧ (((w_fi ws (n_v vs 2) 15 + 1) ≤ w_fi ws (n_v vs 2) 10) ∧ ((48 ≤ (w_ei ws (w_ar ws (n_v vs 2) 1) (w_fi ws (n_v vs 2) 15) % 256)) ∧ ((w_ei ws (w_ar ws (n_v vs 2) 1) (w_fi ws (n_v vs 2) 15) % 256) ≤ 57)))))
      rw [q2]
      first | omega | grind
  refine ⟨(fun _ h => (by cases h)), [], trivial, ?_, (fun _ h => (by cases h))⟩
  rw [List.append_nil]
  exact List.forall_mem_cons.mpr ⟨⟨show (20 : Nat) < 100 from by decide, nf0⟩, (fun _ h => (by cases h))⟩
def o_Mo_next_44 : or_T := (185, 11, [(0, (2, 0, 0, [150])), (1, (0, 0, 2000, [])), (2, (2, 0, 0, [150])), (5, (0, 0, 1999, [])), (6, (0, 48, 57, [])), (9, (0, 1, 1, [])), (10, (0, 1, 2000, []))], [(20, [5, 2, 6], [50, 1, 1, 1010, 1001, 4, 11, 0, 6, 4, 2, 1, 0, 0, 1, 2, 1, 10, 1, 2, 1, 2, 9, 5, 3, 1, 1, 1, 0, 0, 256]), (20, [2, 5, 6], [50, 1, 0, 10, 4, 7, 0, 3, 2, 0, 10, 1, 1, 1, 2, 1, 2, 0, -1]), (20, [1, 2], [30, 0, 1, 0, 0, -1, 1, 15]), (24, [0, 2], []), (101, [2, 10], [11]), (1, [10, 5, 9], []), (9, [5, 2], [11]), (20, [5, 2, 6], [50, 1, 1, 1010, 1001, 4, 11, 0, 6, 4, 2, 1, 0, 0, 1, 2, 1, 10, 1, 2, 1, 2, 9, 5, 3, 1, 1, 1, 0, 0, 256]), (20, [2, 5, 6], [50, 1, 0, 10, 4, 7, 0, 3, 2, 0, 10, 1, 1, 1, 2, 1, 2, 0, -1]), (20, [1, 2], [30, 0, 1, 0, 0, -1, 1, 15]), (20, [2], [50, 3, 1, 15, 11, 10, 1, 2, 8, 0, 3, 2, 0, 15, 2, 0, 11, 3, 12, 0, 7, 4, 3, 2, 0, 15, 0, 1, 2, 0, 11, 2, 8, 1, 3, 2, 0, 11, 2, 0, 15, 2, 12, 0, 7, 4, 3, 2, 0, 15, 0, 1, 2, 0, 10, 2, 14, 0, 2, 0, 48, 9, 6, 3, 0, 1, 2, 0, 15, 0, 256, 0, 10, 9, 6, 3, 0, 1, 2, 0, 15, 0, 256, 0, 57]), (101, [2, 4], [14]), (20, [5, 2, 6], [50, 1, 1, 1010, 1001, 4, 11, 0, 6, 4, 2, 1, 0, 0, 1, 2, 1, 10, 1, 2, 1, 2, 9, 5, 3, 1, 1, 1, 0, 0, 256]), (20, [2, 5, 6], [50, 1, 0, 10, 4, 7, 0, 3, 2, 0, 10, 1, 1, 1, 2, 1, 2, 0, -1]), (20, [1, 2], [30, 0, 1, 0, 0, -1, 1, 15]), (20, [2], [50, 3, 1, 15, 11, 10, 1, 2, 8, 0, 3, 2, 0, 15, 2, 0, 11, 3, 12, 0, 7, 4, 3, 2, 0, 15, 0, 1, 2, 0, 11, 2, 8, 1, 3, 2, 0, 11, 2, 0, 15, 2, 12, 0, 7, 4, 3, 2, 0, 15, 0, 1, 2, 0, 10, 2, 14, 0, 2, 0, 48, 9, 6, 3, 0, 1, 2, 0, 15, 0, 256, 0, 10, 9, 6, 3, 0, 1, 2, 0, 15, 0, 256, 0, 57])], [], [], [(20, [2], [50, 3, 1, 15, 11, 10, 1, 2, 8, 0, 3, 2, 0, 15, 2, 0, 11, 3, 12, 0, 7, 4, 3, 2, 0, 15, 0, 1, 2, 0, 11, 2, 8, 1, 3, 2, 0, 11, 2, 0, 15, 2, 12, 0, 7, 4, 3, 2, 0, 15, 0, 1, 2, 0, 10, 2, 14, 0, 2, 0, 48, 9, 6, 3, 0, 1, 2, 0, 15, 0, 256, 0, 10, 9, 6, 3, 0, 1, 2, 0, 15, 0, 256, 0, 57])], [], [(10, 5, 1, 1), (10, 1, -4294967296, 2001), (1, 5, -4294967296, 2000), (5, 1, -4294967296, 2000)])
theorem oo_Mo_next_44 {kA : Nat → ClassId} : or_ok kA GG o_Mo_next_44 := by
  intro A ta ws vs hD hth hl hk hds hf
  have hl : vs.length = 11 := hl
  have hk : ∀ q ∈ ([(0, (2, 0, 0, [150])), (1, (0, 0, 2000, [])), (2, (2, 0, 0, [150])), (5, (0, 0, 1999, [])), (6, (0, 48, 57, [])), (9, (0, 1, 1, [])), (10, (0, 1, 2000, []))] : List (Nat × tv_T)), tv_ok ta q.2 (n_v vs q.1) := hk
  obtain ⟨t0, hk⟩ := List.forall_mem_cons.mp hk
  have t0 : tv_ok ta (2, 0, 0, [150]) (n_v vs 0) := t0
  have r0 : ta (v_ad (n_v vs 0)) = some 150 := tv_rg t0
  obtain ⟨t1, hk⟩ := List.forall_mem_cons.mp hk
  have t1 : tv_ok ta (0, 0, 2000, []) (n_v vs 1) := t1
  have k1 : 0 ≤ v_iv (n_v vs 1) ∧ v_iv (n_v vs 1) ≤ 2000 := tv_rng t1
  obtain ⟨t2, hk⟩ := List.forall_mem_cons.mp hk
  have t2 : tv_ok ta (2, 0, 0, [150]) (n_v vs 2) := t2
  have r2 : ta (v_ad (n_v vs 2)) = some 150 := tv_rg t2
  obtain ⟨t5, hk⟩ := List.forall_mem_cons.mp hk
  have t5 : tv_ok ta (0, 0, 1999, []) (n_v vs 5) := t5
  have k5 : 0 ≤ v_iv (n_v vs 5) ∧ v_iv (n_v vs 5) ≤ 1999 := tv_rng t5
  obtain ⟨t6, hk⟩ := List.forall_mem_cons.mp hk
  have t6 : tv_ok ta (0, 48, 57, []) (n_v vs 6) := t6
  have k6 : 48 ≤ v_iv (n_v vs 6) ∧ v_iv (n_v vs 6) ≤ 57 := tv_rng t6
  obtain ⟨t9, hk⟩ := List.forall_mem_cons.mp hk
  have t9 : tv_ok ta (0, 1, 1, []) (n_v vs 9) := t9
  have k9 : 1 ≤ v_iv (n_v vs 9) ∧ v_iv (n_v vs 9) ≤ 1 := tv_rng t9
  obtain ⟨t10, hk⟩ := List.forall_mem_cons.mp hk
  have t10 : tv_ok ta (0, 1, 2000, []) (n_v vs 10) := t10
  have k10 : 1 ≤ v_iv (n_v vs 10) ∧ v_iv (n_v vs 10) ≤ 2000 := tv_rng t10
  have hds : ∀ q ∈ ([(10, 5, 1, 1), (10, 1, -4294967296, 2001), (1, 5, -4294967296, 2000), (5, 1, -4294967296, 2000)] : List of_T), n_iv vs q.2.1 + q.2.2.1 ≤ n_iv vs q.1 ∧ n_iv vs q.1 ≤ n_iv vs q.2.1 + q.2.2.2 := hds
  obtain ⟨d0, hds⟩ := List.forall_mem_cons.mp hds
  have d0 : v_iv (n_v vs 5) + 1 ≤ v_iv (n_v vs 10) ∧ v_iv (n_v vs 10) ≤ v_iv (n_v vs 5) + 1 := d0
  obtain ⟨d1, hds⟩ := List.forall_mem_cons.mp hds
  have d1 : v_iv (n_v vs 1) + (-4294967296) ≤ v_iv (n_v vs 10) ∧ v_iv (n_v vs 10) ≤ v_iv (n_v vs 1) + 2001 := d1
  obtain ⟨d2, hds⟩ := List.forall_mem_cons.mp hds
  have d2 : v_iv (n_v vs 5) + (-4294967296) ≤ v_iv (n_v vs 1) ∧ v_iv (n_v vs 1) ≤ v_iv (n_v vs 5) + 2000 := d2
  obtain ⟨d3, hds⟩ := List.forall_mem_cons.mp hds
  have d3 : v_iv (n_v vs 1) + (-4294967296) ≤ v_iv (n_v vs 5) ∧ v_iv (n_v vs 5) ≤ v_iv (n_v vs 1) + 2000 := d3
  have hf : fc_ok [(20, [5, 2, 6], [50, 1, 1, 1010, 1001, 4, 11, 0, 6, 4, 2, 1, 0, 0, 1, 2, 1, 10, 1, 2, 1, 2, 9, 5, 3, 1, 1, 1, 0, 0, 256]), (20, [2, 5, 6], [50, 1, 0, 10, 4, 7, 0, 3, 2, 0, 10, 1, 1, 1, 2, 1, 2, 0, -1]), (20, [1, 2], [30, 0, 1, 0, 0, -1, 1, 15]), (24, [0, 2], []), (101, [2, 10], [11]), (1, [10, 5, 9], []), (9, [5, 2], [11]), (20, [5, 2, 6], [50, 1, 1, 1010, 1001, 4, 11, 0, 6, 4, 2, 1, 0, 0, 1, 2, 1, 10, 1, 2, 1, 2, 9, 5, 3, 1, 1, 1, 0, 0, 256]), (20, [2, 5, 6], [50, 1, 0, 10, 4, 7, 0, 3, 2, 0, 10, 1, 1, 1, 2, 1, 2, 0, -1]), (20, [1, 2], [30, 0, 1, 0, 0, -1, 1, 15]), (20, [2], [50, 3, 1, 15, 11, 10, 1, 2, 8, 0, 3, 2, 0, 15, 2, 0, 11, 3, 12, 0, 7, 4, 3, 2, 0, 15, 0, 1, 2, 0, 11, 2, 8, 1, 3, 2, 0, 11, 2, 0, 15, 2, 12, 0, 7, 4, 3, 2, 0, 15, 0, 1, 2, 0, 10, 2, 14, 0, 2, 0, 48, 9, 6, 3, 0, 1, 2, 0, 15, 0, 256, 0, 10, 9, 6, 3, 0, 1, 2, 0, 15, 0, 256, 0, 57]), (101, [2, 4], [14]), (20, [5, 2, 6], [50, 1, 1, 1010, 1001, 4, 11, 0, 6, 4, 2, 1, 0, 0, 1, 2, 1, 10, 1, 2, 1, 2, 9, 5, 3, 1, 1, 1, 0, 0, 256]), (20, [2, 5, 6], [50, 1, 0, 10, 4, 7, 0, 3, 2, 0, 10, 1, 1, 1, 2, 1, 2, 0, -1]), (20, [1, 2], [30, 0, 1, 0, 0, -1, 1, 15]), (20, [2], [50, 3, 1, 15, 11, 10, 1, 2, 8, 0, 3, 2, 0, 15, 2, 0, 11, 3, 12, 0, 7, 4, 3, 2, 0, 15, 0, 1, 2, 0, 11, 2, 8, 1, 3, 2, 0, 11, 2, 0, 15, 2, 12, 0, 7, 4, 3, 2, 0, 15, 0, 1, 2, 0, 10, 2, 14, 0, 2, 0, 48, 9, 6, 3, 0, 1, 2, 0, 15, 0, 256, 0, 10, 9, 6, 3, 0, 1, 2, 0, 15, 0, 256, 0, 57])] ta ws vs := hf
  obtain ⟨f0, hf⟩ := fc_un (show (20 : Nat) < 100 from by decide) hf
  have f0 : ((v_iv (n_v vs 5) + 1) ≤ w_fi ws (n_v vs 2) 10) → (v_iv (n_v vs 6) = (w_ei ws (w_ar ws (n_v vs 2) 1) (v_iv (n_v vs 5)) % 256)) := f0
  obtain ⟨f1, hf⟩ := fc_un (show (20 : Nat) < 100 from by decide) hf
  have f1 : (w_fi ws (n_v vs 2) 10 ≤ v_iv (n_v vs 5)) → (v_iv (n_v vs 6) = (-1)) := f1
  obtain ⟨f2, hf⟩ := fc_un (show (20 : Nat) < 100 from by decide) hf
  have f2 : 1 * v_iv (n_v vs 1) + ((-1) * w_fi ws (n_v vs 2) 15 + 0) ≤ 0 := f2
  obtain ⟨f3, hf⟩ := fc_un (show (24 : Nat) < 100 from by decide) hf
  have f3 : n_v vs 0 = n_v vs 2 := f3
  obtain ⟨ta1, w1, le1, ⟨_, s1⟩, hf⟩ := fc_us (show ¬ (101 : Nat) < 100 from by decide) hf
  have s1 : (∀ b j, w_el ws b j = w_el w1 b j) ∧ ∀ b j, w_fd ws b j = if b = v_ad (n_v vs 2) ∧ j = 11 then n_v vs 10 else w_fd w1 b j := s1
  obtain ⟨f5, hf⟩ := fc_un (show (1 : Nat) < 100 from by decide) hf
  have f5 : v_iv (n_v vs 10) = v_iv (n_v vs 5) + v_iv (n_v vs 9) := f5
  obtain ⟨f6, hf⟩ := fc_un (show (9 : Nat) < 100 from by decide) hf
  have f6 : n_v vs 5 = w_fd w1 (v_ad (n_v vs 2)) 11 := f6
  obtain ⟨f7, hf⟩ := fc_un (show (20 : Nat) < 100 from by decide) hf
  have f7 : ((v_iv (n_v vs 5) + 1) ≤ w_fi w1 (n_v vs 2) 10) → (v_iv (n_v vs 6) = (w_ei w1 (w_ar w1 (n_v vs 2) 1) (v_iv (n_v vs 5)) % 256)) := f7
  obtain ⟨f8, hf⟩ := fc_un (show (20 : Nat) < 100 from by decide) hf
  have f8 : (w_fi w1 (n_v vs 2) 10 ≤ v_iv (n_v vs 5)) → (v_iv (n_v vs 6) = (-1)) := f8
  obtain ⟨f9, hf⟩ := fc_un (show (20 : Nat) < 100 from by decide) hf
  have f9 : 1 * v_iv (n_v vs 1) + ((-1) * w_fi w1 (n_v vs 2) 15 + 0) ≤ 0 := f9
  obtain ⟨f10, hf⟩ := fc_un (show (20 : Nat) < 100 from by decide) hf
  have f10 : (w_fi w1 (n_v vs 2) 15 ≤ w_fi w1 (n_v vs 2) 11) ∧ (((w_fi w1 (n_v vs 2) 15 + 1) ≤ w_fi w1 (n_v vs 2) 11) ∨ ((w_fi w1 (n_v vs 2) 11 = w_fi w1 (n_v vs 2) 15) ∧ (((w_fi w1 (n_v vs 2) 15 + 1) ≤ w_fi w1 (n_v vs 2) 10) ∧ ((48 ≤ (w_ei w1 (w_ar w1 (n_v vs 2) 1) (w_fi w1 (n_v vs 2) 15) % 256)) ∧ ((w_ei w1 (w_ar w1 (n_v vs 2) 1) (w_fi w1 (n_v vs 2) 15) % 256) ≤ 57))))) := f10
  obtain ⟨ta2, w2, le2, ⟨_, s2⟩, hf⟩ := fc_us (show ¬ (101 : Nat) < 100 from by decide) hf
  have s2 : (∀ b j, w_el w1 b j = w_el w2 b j) ∧ ∀ b j, w_fd w1 b j = if b = v_ad (n_v vs 2) ∧ j = 14 then n_v vs 4 else w_fd w2 b j := s2
  obtain ⟨f12, hf⟩ := fc_un (show (20 : Nat) < 100 from by decide) hf
  have f12 : ((v_iv (n_v vs 5) + 1) ≤ w_fi w2 (n_v vs 2) 10) → (v_iv (n_v vs 6) = (w_ei w2 (w_ar w2 (n_v vs 2) 1) (v_iv (n_v vs 5)) % 256)) := f12
  obtain ⟨f13, hf⟩ := fc_un (show (20 : Nat) < 100 from by decide) hf
  have f13 : (w_fi w2 (n_v vs 2) 10 ≤ v_iv (n_v vs 5)) → (v_iv (n_v vs 6) = (-1)) := f13
  obtain ⟨f14, hf⟩ := fc_un (show (20 : Nat) < 100 from by decide) hf
  have f14 : 1 * v_iv (n_v vs 1) + ((-1) * w_fi w2 (n_v vs 2) 15 + 0) ≤ 0 := f14
  obtain ⟨f15, hf⟩ := fc_un (show (20 : Nat) < 100 from by decide) hf
  have f15 : (w_fi w2 (n_v vs 2) 15 ≤ w_fi w2 (n_v vs 2) 11) ∧ (((w_fi w2 (n_v vs 2) 15 + 1) ≤ w_fi w2 (n_v vs 2) 11) ∨ ((w_fi w2 (n_v vs 2) 11 = w_fi w2 (n_v vs 2) 15) ∧ (((w_fi w2 (n_v vs 2) 15 + 1) ≤ w_fi w2 (n_v vs 2) 10) ∧ ((48 ≤ (w_ei w2 (w_ar w2 (n_v vs 2) 1) (w_fi w2 (n_v vs 2) 15) % 256)) ∧ ((w_ei w2 (w_ar w2 (n_v vs 2) 1) (w_fi w2 (n_v vs 2) 15) % 256) ≤ 57))))) := f15
  have q2 : n_v vs 2 = n_v vs 0 := f3.symm
  rw [q2] at f0
  rw [q2] at f1
  rw [q2] at f2
  rw [q2] at s1
  rw [q2] at f6
  rw [q2] at f7
  rw [q2] at f8
  rw [q2] at f9
  rw [q2] at f10
  rw [q2] at s2
  rw [q2] at f12
  rw [q2] at f13
  rw [q2] at f14
  rw [q2] at f15
  have ar_0_1_1 : w_ar w1 (n_v vs 0) 1 = w_ar ws (n_v vs 0) 1 := by show v_ad (w_fd w1 _ _) = v_ad (w_fd ws _ _); rw [s1.2, if_neg (fun e => absurd e.2 (by decide))]
  have ar_0_1_2 : w_ar w2 (n_v vs 0) 1 = w_ar ws (n_v vs 0) 1 := by rw [← ar_0_1_1]; show v_ad (w_fd w2 _ _) = v_ad (w_fd w1 _ _); rw [s2.2, if_neg (fun e => absurd e.2 (by decide))]
  have cr_0_1 : ta (w_ar ws (n_v vs 0) 1) = some 151 := tv_rg (th_fd hD hth r0 (g := GG_150) rfl (k := 1) (t := (2, 0, 0, [151])) rfl rfl)
  have g6 : v_iv (n_v vs 5) = w_fi w1 (n_v vs 0) 11 := congrArg v_iv f6
  rw [ar_0_1_1] at f7
  rw [ar_0_1_1] at f10
  rw [ar_0_1_2] at f12
  rw [ar_0_1_2] at f15
  have fe_0_10_1 : w_fi ws (n_v vs 0) 10 = w_fi w1 (n_v vs 0) 10 := by show v_iv (w_fd _ _ _) = v_iv (w_fd _ _ _); rw [s1.2, if_neg (fun e => absurd e.2 (by decide))]
  have fe_0_11_1 : w_fi ws (n_v vs 0) 11 = v_iv (n_v vs 10) := by show v_iv (w_fd _ _ _) = _; rw [s1.2, if_pos ⟨rfl, rfl⟩]
  have fe_0_15_1 : w_fi ws (n_v vs 0) 15 = w_fi w1 (n_v vs 0) 15 := by show v_iv (w_fd _ _ _) = v_iv (w_fd _ _ _); rw [s1.2, if_neg (fun e => absurd e.2 (by decide))]
  have fe_0_10_2 : w_fi w1 (n_v vs 0) 10 = w_fi w2 (n_v vs 0) 10 := by show v_iv (w_fd _ _ _) = v_iv (w_fd _ _ _); rw [s2.2, if_neg (fun e => absurd e.2 (by decide))]
  have fe_0_11_2 : w_fi w1 (n_v vs 0) 11 = w_fi w2 (n_v vs 0) 11 := by show v_iv (w_fd _ _ _) = v_iv (w_fd _ _ _); rw [s2.2, if_neg (fun e => absurd e.2 (by decide))]
  have fe_0_15_2 : w_fi w1 (n_v vs 0) 15 = w_fi w2 (n_v vs 0) 15 := by show v_iv (w_fd _ _ _) = v_iv (w_fd _ _ _); rw [s2.2, if_neg (fun e => absurd e.2 (by decide))]
  have hE_0_1_1 : ∀ j : Int, w_ei ws (w_ar ws (n_v vs 0) 1) j = w_ei w1 (w_ar ws (n_v vs 0) 1) j := fun j => s1.1 _ _
  have hE_0_1_2 : ∀ j : Int, w_ei w1 (w_ar ws (n_v vs 0) 1) j = w_ei w2 (w_ar ws (n_v vs 0) 1) j := fun j => s2.1 _ _
  have hK_0_1 : ∀ j : Int, 0 ≤ j → j < 2000 → (-128) ≤ w_ei ws (w_ar ws (n_v vs 0) 1) j ∧ w_ei ws (w_ar ws (n_v vs 0) 1) j ≤ 127 := fun j h0 h1 => th_el hD hth cr_0_1 (kd := 1) (n := 2000) (m := 2000) (lo := (-128)) (hi := 127) (rs := []) (L := []) rfl (by decide) (j := j.toNat) (by omega)
  have kz_0_10 : 0 ≤ w_fi ws (n_v vs 0) 10 ∧ w_fi ws (n_v vs 0) 10 ≤ 2000 := tv_rng (th_fd hD hth r0 (g := GG_150) rfl (k := 10) (t := (0, 0, 2000, [])) rfl rfl)
  have kz_0_11 : 0 ≤ w_fi ws (n_v vs 0) 11 ∧ w_fi ws (n_v vs 0) 11 ≤ 2000 := tv_rng (th_fd hD hth r0 (g := GG_150) rfl (k := 11) (t := (0, 0, 2000, [])) rfl rfl)
  have kz_0_15 : 0 ≤ w_fi ws (n_v vs 0) 15 ∧ w_fi ws (n_v vs 0) 15 ≤ 2000 := tv_rng (th_fd hD hth r0 (g := GG_150) rfl (k := 15) (t := (0, 0, 2000, [])) rfl rfl)
  have nf0 : fc_1 (20, [2], [50, 3, 1, 15, 11, 10, 1, 2, 8, 0, 3, 2, 0, 15, 2, 0, 11, 3, 12, 0, 7, 4, 3, 2, 0, 15, 0, 1, 2, 0, 11, 2, 8, 1, 3, 2, 0, 11, 2, 0, 15, 2, 12, 0, 7, 4, 3, 2, 0, 15, 0, 1, 2, 0, 10, 2, 14, 0, 2, 0, 48, 9, 6, 3, 0, 1, 2, 0, 15, 0, 256, 0, 10, 9, 6, 3, 0, 1, 2, 0, 15, 0, 256, 0, 57]) ws (vs) := by
    refine ⟨fun n hn => ?_, ?_⟩
    · have hn : n ∈ [2] := hn
      rw [hl]
      simp only [List.mem_cons, List.not_mem_nil, or_false] at hn
      show n < 11; omega
    · show (w_fi ws (n_v vs 2) 15 ≤ w_fi ws (n_v vs 2) 11) ∧ (((w_fi ws (n_v vs 2) 15 + 1) ≤ w_fi ws (n_v vs 2) 11) ∨ ((w_fi ws (n_v vs 2) 11 = w_fi ws (n_v vs 2) 15) ∧ (((w_fi ws (n_v vs 2) 15 + 1) ≤ w_fi ws (n_v vs 2) 10) ∧ ((48 ≤ (w_ei ws (w_ar ws (n_v vs 2) 1) (w_fi ws (n_v vs 2) 15) % 256)) ∧ ((w_ei ws (w_ar ws (n_v vs 2) 1) (w_fi ws (n_v vs 2) 15) % 256) ≤ 57)))))
      rw [q2]
      first | omega | grind
  refine ⟨(fun _ h => (by cases h)), [], trivial, ?_, (fun _ h => (by cases h))⟩
  rw [List.append_nil]
  exact List.forall_mem_cons.mpr ⟨⟨show (20 : Nat) < 100 from by decide, nf0⟩, (fun _ h => (by cases h))⟩
def o_Mo_next_45 : or_T := (354, 10, [(0, (2, 0, 0, [150])), (1, (0, 0, 2000, [])), (2, (2, 0, 0, [150])), (5, (0, 4, 2000, [])), (6, (0, 0, 2000, [])), (7, (0, 4, 2000, [])), (8, (0, 3, 3, [])), (9, (0, 4, 4, []))], [(20, [1, 2], [30, 0, 1, 0, 0, -1, 1, 15]), (20, [2], [50, 2, 0, 15, 11, 0, 7, 4, 3, 2, 0, 15, 0, 1, 2, 0, 11]), (24, [0, 2], []), (101, [2, 9], [12]), (7, [7, 8], [4]), (2, [7, 5, 6], []), (9, [6, 2], [15]), (9, [5, 2], [11]), (20, [1, 2], [30, 0, 1, 0, 0, -1, 1, 15]), (20, [2], [50, 2, 0, 15, 11, 0, 7, 4, 3, 2, 0, 15, 0, 1, 2, 0, 11])], [], [], [(20, [2, 2], [30, 0, 1, 1, 15, -1, 1, 11]), (20, [2], [50, 3, 0, 12, 11, 15, 2, 21, 4, 7, 1, 3, 2, 0, 12, 0, 1, 0, 3, 2, 0, 11, 4, 3, 2, 0, 15, 0, 8, 3, 7, 1, 3, 2, 0, 12, 0, 0, 0, 7, 4, 3, 2, 0, 15, 0, 1, 2, 0, 11]), (20, [0, 0], [30, 0, 1, 1, 15, -1, 1, 11]), (20, [0], [50, 3, 0, 12, 11, 15, 2, 21, 4, 7, 1, 3, 2, 0, 12, 0, 1, 0, 3, 2, 0, 11, 4, 3, 2, 0, 15, 0, 8, 3, 7, 1, 3, 2, 0, 12, 0, 0, 0, 7, 4, 3, 2, 0, 15, 0, 1, 2, 0, 11]), (20, [1, 0], [30, 0, 1, 0, 0, -1, 1, 15])], [], [(7, 5, -2000, 0), (7, 1, -4294967296, 2000), (1, 5, -4294967296, 2000), (5, 1, -4294967296, 2000)])
theorem oo_Mo_next_45 {kA : Nat → ClassId} : or_ok kA GG o_Mo_next_45 := by
  intro A ta ws vs hD hth hl hk hds hf
  have hl : vs.length = 10 := hl
  have hk : ∀ q ∈ ([(0, (2, 0, 0, [150])), (1, (0, 0, 2000, [])), (2, (2, 0, 0, [150])), (5, (0, 4, 2000, [])), (6, (0, 0, 2000, [])), (7, (0, 4, 2000, [])), (8, (0, 3, 3, [])), (9, (0, 4, 4, []))] : List (Nat × tv_T)), tv_ok ta q.2 (n_v vs q.1) := hk
  obtain ⟨t0, hk⟩ := List.forall_mem_cons.mp hk
  have t0 : tv_ok ta (2, 0, 0, [150]) (n_v vs 0) := t0
  have r0 : ta (v_ad (n_v vs 0)) = some 150 := tv_rg t0
  obtain ⟨t1, hk⟩ := List.forall_mem_cons.mp hk
  have t1 : tv_ok ta (0, 0, 2000, []) (n_v vs 1) := t1
  have k1 : 0 ≤ v_iv (n_v vs 1) ∧ v_iv (n_v vs 1) ≤ 2000 := tv_rng t1
  obtain ⟨t2, hk⟩ := List.forall_mem_cons.mp hk
  have t2 : tv_ok ta (2, 0, 0, [150]) (n_v vs 2) := t2
  have r2 : ta (v_ad (n_v vs 2)) = some 150 := tv_rg t2
  obtain ⟨t5, hk⟩ := List.forall_mem_cons.mp hk
  have t5 : tv_ok ta (0, 4, 2000, []) (n_v vs 5) := t5
  have k5 : 4 ≤ v_iv (n_v vs 5) ∧ v_iv (n_v vs 5) ≤ 2000 := tv_rng t5
  obtain ⟨t6, hk⟩ := List.forall_mem_cons.mp hk
  have t6 : tv_ok ta (0, 0, 2000, []) (n_v vs 6) := t6
  have k6 : 0 ≤ v_iv (n_v vs 6) ∧ v_iv (n_v vs 6) ≤ 2000 := tv_rng t6
  obtain ⟨t7, hk⟩ := List.forall_mem_cons.mp hk
  have t7 : tv_ok ta (0, 4, 2000, []) (n_v vs 7) := t7
  have k7 : 4 ≤ v_iv (n_v vs 7) ∧ v_iv (n_v vs 7) ≤ 2000 := tv_rng t7
  obtain ⟨t8, hk⟩ := List.forall_mem_cons.mp hk
  have t8 : tv_ok ta (0, 3, 3, []) (n_v vs 8) := t8
  have k8 : 3 ≤ v_iv (n_v vs 8) ∧ v_iv (n_v vs 8) ≤ 3 := tv_rng t8
  obtain ⟨t9, hk⟩ := List.forall_mem_cons.mp hk
  have t9 : tv_ok ta (0, 4, 4, []) (n_v vs 9) := t9
  have k9 : 4 ≤ v_iv (n_v vs 9) ∧ v_iv (n_v vs 9) ≤ 4 := tv_rng t9
  have hds : ∀ q ∈ ([(7, 5, -2000, 0), (7, 1, -4294967296, 2000), (1, 5, -4294967296, 2000), (5, 1, -4294967296, 2000)] : List of_T), n_iv vs q.2.1 + q.2.2.1 ≤ n_iv vs q.1 ∧ n_iv vs q.1 ≤ n_iv vs q.2.1 + q.2.2.2 := hds
  obtain ⟨d0, hds⟩ := List.forall_mem_cons.mp hds
  have d0 : v_iv (n_v vs 5) + (-2000) ≤ v_iv (n_v vs 7) ∧ v_iv (n_v vs 7) ≤ v_iv (n_v vs 5) + 0 := d0
  obtain ⟨d1, hds⟩ := List.forall_mem_cons.mp hds
  have d1 : v_iv (n_v vs 1) + (-4294967296) ≤ v_iv (n_v vs 7) ∧ v_iv (n_v vs 7) ≤ v_iv (n_v vs 1) + 2000 := d1
  obtain ⟨d2, hds⟩ := List.forall_mem_cons.mp hds
  have d2 : v_iv (n_v vs 5) + (-4294967296) ≤ v_iv (n_v vs 1) ∧ v_iv (n_v vs 1) ≤ v_iv (n_v vs 5) + 2000 := d2
  obtain ⟨d3, hds⟩ := List.forall_mem_cons.mp hds
  have d3 : v_iv (n_v vs 1) + (-4294967296) ≤ v_iv (n_v vs 5) ∧ v_iv (n_v vs 5) ≤ v_iv (n_v vs 1) + 2000 := d3
  have hf : fc_ok [(20, [1, 2], [30, 0, 1, 0, 0, -1, 1, 15]), (20, [2], [50, 2, 0, 15, 11, 0, 7, 4, 3, 2, 0, 15, 0, 1, 2, 0, 11]), (24, [0, 2], []), (101, [2, 9], [12]), (7, [7, 8], [4]), (2, [7, 5, 6], []), (9, [6, 2], [15]), (9, [5, 2], [11]), (20, [1, 2], [30, 0, 1, 0, 0, -1, 1, 15]), (20, [2], [50, 2, 0, 15, 11, 0, 7, 4, 3, 2, 0, 15, 0, 1, 2, 0, 11])] ta ws vs := hf
  obtain ⟨f0, hf⟩ := fc_un (show (20 : Nat) < 100 from by decide) hf
  have f0 : 1 * v_iv (n_v vs 1) + ((-1) * w_fi ws (n_v vs 2) 15 + 0) ≤ 0 := f0
  obtain ⟨f1, hf⟩ := fc_un (show (20 : Nat) < 100 from by decide) hf
  have f1 : (w_fi ws (n_v vs 2) 15 + 1) ≤ w_fi ws (n_v vs 2) 11 := f1
  obtain ⟨f2, hf⟩ := fc_un (show (24 : Nat) < 100 from by decide) hf
  have f2 : n_v vs 0 = n_v vs 2 := f2
  obtain ⟨ta1, w1, le1, ⟨_, s1⟩, hf⟩ := fc_us (show ¬ (101 : Nat) < 100 from by decide) hf
  have s1 : (∀ b j, w_el ws b j = w_el w1 b j) ∧ ∀ b j, w_fd ws b j = if b = v_ad (n_v vs 2) ∧ j = 12 then n_v vs 9 else w_fd w1 b j := s1
  obtain ⟨f4, hf⟩ := fc_un (show (7 : Nat) < 100 from by decide) hf
  have f4 : v_iv (n_v vs 8) < v_iv (n_v vs 7) := f4
  obtain ⟨f5, hf⟩ := fc_un (show (2 : Nat) < 100 from by decide) hf
  have f5 : v_iv (n_v vs 7) = v_iv (n_v vs 5) - v_iv (n_v vs 6) := f5
  obtain ⟨f6, hf⟩ := fc_un (show (9 : Nat) < 100 from by decide) hf
  have f6 : n_v vs 6 = w_fd w1 (v_ad (n_v vs 2)) 15 := f6
  obtain ⟨f7, hf⟩ := fc_un (show (9 : Nat) < 100 from by decide) hf
  have f7 : n_v vs 5 = w_fd w1 (v_ad (n_v vs 2)) 11 := f7
  obtain ⟨f8, hf⟩ := fc_un (show (20 : Nat) < 100 from by decide) hf
  have f8 : 1 * v_iv (n_v vs 1) + ((-1) * w_fi w1 (n_v vs 2) 15 + 0) ≤ 0 := f8
  obtain ⟨f9, hf⟩ := fc_un (show (20 : Nat) < 100 from by decide) hf
  have f9 : (w_fi w1 (n_v vs 2) 15 + 1) ≤ w_fi w1 (n_v vs 2) 11 := f9
  have q2 : n_v vs 2 = n_v vs 0 := f2.symm
  rw [q2] at f0
  rw [q2] at f1
  rw [q2] at s1
  rw [q2] at f6
  rw [q2] at f7
  rw [q2] at f8
  rw [q2] at f9
  have g6 : v_iv (n_v vs 6) = w_fi w1 (n_v vs 0) 15 := congrArg v_iv f6
  have g7 : v_iv (n_v vs 5) = w_fi w1 (n_v vs 0) 11 := congrArg v_iv f7
  have fe_0_11_1 : w_fi ws (n_v vs 0) 11 = w_fi w1 (n_v vs 0) 11 := by show v_iv (w_fd _ _ _) = v_iv (w_fd _ _ _); rw [s1.2, if_neg (fun e => absurd e.2 (by decide))]
  have fe_0_12_1 : w_fi ws (n_v vs 0) 12 = v_iv (n_v vs 9) := by show v_iv (w_fd _ _ _) = _; rw [s1.2, if_pos ⟨rfl, rfl⟩]
  have fe_0_15_1 : w_fi ws (n_v vs 0) 15 = w_fi w1 (n_v vs 0) 15 := by show v_iv (w_fd _ _ _) = v_iv (w_fd _ _ _); rw [s1.2, if_neg (fun e => absurd e.2 (by decide))]
  have kz_0_11 : 0 ≤ w_fi ws (n_v vs 0) 11 ∧ w_fi ws (n_v vs 0) 11 ≤ 2000 := tv_rng (th_fd hD hth r0 (g := GG_150) rfl (k := 11) (t := (0, 0, 2000, [])) rfl rfl)
  have kz_0_12 : 0 ≤ w_fi ws (n_v vs 0) 12 ∧ w_fi ws (n_v vs 0) 12 ≤ 4 := tv_rng (th_fd hD hth r0 (g := GG_150) rfl (k := 12) (t := (0, 0, 4, [])) rfl rfl)
  have kz_0_15 : 0 ≤ w_fi ws (n_v vs 0) 15 ∧ w_fi ws (n_v vs 0) 15 ≤ 2000 := tv_rng (th_fd hD hth r0 (g := GG_150) rfl (k := 15) (t := (0, 0, 2000, [])) rfl rfl)
  have nf0 : fc_1 (20, [2, 2], [30, 0, 1, 1, 15, -1, 1, 11]) ws (vs) := by
    refine ⟨fun n hn => ?_, ?_⟩
    · have hn : n ∈ [2, 2] := hn
      rw [hl]
      simp only [List.mem_cons, List.not_mem_nil, or_false] at hn
      show n < 10; omega
    · show 1 * w_fi ws (n_v vs 2) 15 + ((-1) * w_fi ws (n_v vs 2) 11 + 0) ≤ 0
      rw [q2]
      omega
  have nf1 : fc_1 (20, [2], [50, 3, 0, 12, 11, 15, 2, 21, 4, 7, 1, 3, 2, 0, 12, 0, 1, 0, 3, 2, 0, 11, 4, 3, 2, 0, 15, 0, 8, 3, 7, 1, 3, 2, 0, 12, 0, 0, 0, 7, 4, 3, 2, 0, 15, 0, 1, 2, 0, 11]) ws (vs) := by
    refine ⟨fun n hn => ?_, ?_⟩
    · have hn : n ∈ [2] := hn
      rw [hl]
      simp only [List.mem_cons, List.not_mem_nil, or_false] at hn
      show n < 10; omega
    · show ((w_fi ws (n_v vs 2) 12 = 1) → (w_fi ws (n_v vs 2) 11 ≤ (w_fi ws (n_v vs 2) 15 + 8))) ∧ ((w_fi ws (n_v vs 2) 12 = 0) ∨ ((w_fi ws (n_v vs 2) 15 + 1) ≤ w_fi ws (n_v vs 2) 11))
      rw [q2]
      first | omega | grind
  have nf2 : fc_1 (20, [0, 0], [30, 0, 1, 1, 15, -1, 1, 11]) ws (vs) := by
    refine ⟨fun n hn => ?_, ?_⟩
    · have hn : n ∈ [0, 0] := hn
      rw [hl]
      simp only [List.mem_cons, List.not_mem_nil, or_false] at hn
      show n < 10; omega
    · show 1 * w_fi ws (n_v vs 0) 15 + ((-1) * w_fi ws (n_v vs 0) 11 + 0) ≤ 0
      omega
  have nf3 : fc_1 (20, [0], [50, 3, 0, 12, 11, 15, 2, 21, 4, 7, 1, 3, 2, 0, 12, 0, 1, 0, 3, 2, 0, 11, 4, 3, 2, 0, 15, 0, 8, 3, 7, 1, 3, 2, 0, 12, 0, 0, 0, 7, 4, 3, 2, 0, 15, 0, 1, 2, 0, 11]) ws (vs) := by
    refine ⟨fun n hn => ?_, ?_⟩
    · have hn : n ∈ [0] := hn
      rw [hl]
      simp only [List.mem_cons, List.not_mem_nil, or_false] at hn
      show n < 10; omega
    · show ((w_fi ws (n_v vs 0) 12 = 1) → (w_fi ws (n_v vs 0) 11 ≤ (w_fi ws (n_v vs 0) 15 + 8))) ∧ ((w_fi ws (n_v vs 0) 12 = 0) ∨ ((w_fi ws (n_v vs 0) 15 + 1) ≤ w_fi ws (n_v vs 0) 11))
      first | omega | grind
  have nf4 : fc_1 (20, [1, 0], [30, 0, 1, 0, 0, -1, 1, 15]) ws (vs) := by
    refine ⟨fun n hn => ?_, ?_⟩
    · have hn : n ∈ [1, 0] := hn
      rw [hl]
      simp only [List.mem_cons, List.not_mem_nil, or_false] at hn
      show n < 10; omega
    · show 1 * v_iv (n_v vs 1) + ((-1) * w_fi ws (n_v vs 0) 15 + 0) ≤ 0
      omega
  refine ⟨(fun _ h => (by cases h)), [], trivial, ?_, (fun _ h => (by cases h))⟩
  rw [List.append_nil]
  exact List.forall_mem_cons.mpr ⟨⟨show (20 : Nat) < 100 from by decide, nf0⟩, List.forall_mem_cons.mpr ⟨⟨show (20 : Nat) < 100 from by decide, nf1⟩, List.forall_mem_cons.mpr ⟨⟨show (20 : Nat) < 100 from by decide, nf2⟩, List.forall_mem_cons.mpr ⟨⟨show (20 : Nat) < 100 from by decide, nf3⟩, List.forall_mem_cons.mpr ⟨⟨show (20 : Nat) < 100 from by decide, nf4⟩, (fun _ h => (by cases h))⟩⟩⟩⟩⟩
def o_Mo_next_46 : or_T := (354, 10, [(0, (2, 0, 0, [150])), (1, (0, 0, 2000, [])), (2, (2, 0, 0, [150])), (5, (0, 0, 2000, [])), (6, (0, 0, 2000, [])), (7, (0, -2000, 3, [])), (8, (0, 3, 3, [])), (9, (0, 2, 2, []))], [(20, [1, 2], [30, 0, 1, 0, 0, -1, 1, 15]), (20, [2], [50, 2, 0, 15, 11, 0, 7, 4, 3, 2, 0, 15, 0, 1, 2, 0, 11]), (24, [0, 2], []), (101, [2, 9], [12]), (7, [7, 8], [5]), (2, [7, 5, 6], []), (9, [6, 2], [15]), (9, [5, 2], [11]), (20, [1, 2], [30, 0, 1, 0, 0, -1, 1, 15]), (20, [2], [50, 2, 0, 15, 11, 0, 7, 4, 3, 2, 0, 15, 0, 1, 2, 0, 11])], [], [], [(20, [2, 2], [30, 0, 1, 1, 15, -1, 1, 11]), (20, [2], [50, 3, 0, 12, 11, 15, 2, 21, 4, 7, 1, 3, 2, 0, 12, 0, 1, 0, 3, 2, 0, 11, 4, 3, 2, 0, 15, 0, 8, 3, 7, 1, 3, 2, 0, 12, 0, 0, 0, 7, 4, 3, 2, 0, 15, 0, 1, 2, 0, 11]), (20, [0, 0], [30, 0, 1, 1, 15, -1, 1, 11]), (20, [0], [50, 3, 0, 12, 11, 15, 2, 21, 4, 7, 1, 3, 2, 0, 12, 0, 1, 0, 3, 2, 0, 11, 4, 3, 2, 0, 15, 0, 8, 3, 7, 1, 3, 2, 0, 12, 0, 0, 0, 7, 4, 3, 2, 0, 15, 0, 1, 2, 0, 11]), (20, [1, 0], [30, 0, 1, 0, 0, -1, 1, 15])], [], [(7, 5, -2000, 0), (7, 1, -4294967296, 2000), (1, 5, -4294967296, 2000), (5, 1, -4294967296, 2000)])
theorem oo_Mo_next_46 {kA : Nat → ClassId} : or_ok kA GG o_Mo_next_46 := by
  intro A ta ws vs hD hth hl hk hds hf
  have hl : vs.length = 10 := hl
  have hk : ∀ q ∈ ([(0, (2, 0, 0, [150])), (1, (0, 0, 2000, [])), (2, (2, 0, 0, [150])), (5, (0, 0, 2000, [])), (6, (0, 0, 2000, [])), (7, (0, -2000, 3, [])), (8, (0, 3, 3, [])), (9, (0, 2, 2, []))] : List (Nat × tv_T)), tv_ok ta q.2 (n_v vs q.1) := hk
  obtain ⟨t0, hk⟩ := List.forall_mem_cons.mp hk
  have t0 : tv_ok ta (2, 0, 0, [150]) (n_v vs 0) := t0
  have r0 : ta (v_ad (n_v vs 0)) = some 150 := tv_rg t0
  obtain ⟨t1, hk⟩ := List.forall_mem_cons.mp hk
  have t1 : tv_ok ta (0, 0, 2000, []) (n_v vs 1) := t1
  have k1 : 0 ≤ v_iv (n_v vs 1) ∧ v_iv (n_v vs 1) ≤ 2000 := tv_rng t1
  obtain ⟨t2, hk⟩ := List.forall_mem_cons.mp hk
  have t2 : tv_ok ta (2, 0, 0, [150]) (n_v vs 2) := t2
  have r2 : ta (v_ad (n_v vs 2)) = some 150 := tv_rg t2
  obtain ⟨t5, hk⟩ := List.forall_mem_cons.mp hk
  have t5 : tv_ok ta (0, 0, 2000, []) (n_v vs 5) := t5
  have k5 : 0 ≤ v_iv (n_v vs 5) ∧ v_iv (n_v vs 5) ≤ 2000 := tv_rng t5
  obtain ⟨t6, hk⟩ := List.forall_mem_cons.mp hk
  have t6 : tv_ok ta (0, 0, 2000, []) (n_v vs 6) := t6
  have k6 : 0 ≤ v_iv (n_v vs 6) ∧ v_iv (n_v vs 6) ≤ 2000 := tv_rng t6
  obtain ⟨t7, hk⟩ := List.forall_mem_cons.mp hk
  have t7 : tv_ok ta (0, -2000, 3, []) (n_v vs 7) := t7
  have k7 : (-2000) ≤ v_iv (n_v vs 7) ∧ v_iv (n_v vs 7) ≤ 3 := tv_rng t7
  obtain ⟨t8, hk⟩ := List.forall_mem_cons.mp hk
  have t8 : tv_ok ta (0, 3, 3, []) (n_v vs 8) := t8
  have k8 : 3 ≤ v_iv (n_v vs 8) ∧ v_iv (n_v vs 8) ≤ 3 := tv_rng t8
  obtain ⟨t9, hk⟩ := List.forall_mem_cons.mp hk
  have t9 : tv_ok ta (0, 2, 2, []) (n_v vs 9) := t9
  have k9 : 2 ≤ v_iv (n_v vs 9) ∧ v_iv (n_v vs 9) ≤ 2 := tv_rng t9
  have hds : ∀ q ∈ ([(7, 5, -2000, 0), (7, 1, -4294967296, 2000), (1, 5, -4294967296, 2000), (5, 1, -4294967296, 2000)] : List of_T), n_iv vs q.2.1 + q.2.2.1 ≤ n_iv vs q.1 ∧ n_iv vs q.1 ≤ n_iv vs q.2.1 + q.2.2.2 := hds
  obtain ⟨d0, hds⟩ := List.forall_mem_cons.mp hds
  have d0 : v_iv (n_v vs 5) + (-2000) ≤ v_iv (n_v vs 7) ∧ v_iv (n_v vs 7) ≤ v_iv (n_v vs 5) + 0 := d0
  obtain ⟨d1, hds⟩ := List.forall_mem_cons.mp hds
  have d1 : v_iv (n_v vs 1) + (-4294967296) ≤ v_iv (n_v vs 7) ∧ v_iv (n_v vs 7) ≤ v_iv (n_v vs 1) + 2000 := d1
  obtain ⟨d2, hds⟩ := List.forall_mem_cons.mp hds
  have d2 : v_iv (n_v vs 5) + (-4294967296) ≤ v_iv (n_v vs 1) ∧ v_iv (n_v vs 1) ≤ v_iv (n_v vs 5) + 2000 := d2
  obtain ⟨d3, hds⟩ := List.forall_mem_cons.mp hds
  have d3 : v_iv (n_v vs 1) + (-4294967296) ≤ v_iv (n_v vs 5) ∧ v_iv (n_v vs 5) ≤ v_iv (n_v vs 1) + 2000 := d3
  have hf : fc_ok [(20, [1, 2], [30, 0, 1, 0, 0, -1, 1, 15]), (20, [2], [50, 2, 0, 15, 11, 0, 7, 4, 3, 2, 0, 15, 0, 1, 2, 0, 11]), (24, [0, 2], []), (101, [2, 9], [12]), (7, [7, 8], [5]), (2, [7, 5, 6], []), (9, [6, 2], [15]), (9, [5, 2], [11]), (20, [1, 2], [30, 0, 1, 0, 0, -1, 1, 15]), (20, [2], [50, 2, 0, 15, 11, 0, 7, 4, 3, 2, 0, 15, 0, 1, 2, 0, 11])] ta ws vs := hf
  obtain ⟨f0, hf⟩ := fc_un (show (20 : Nat) < 100 from by decide) hf
  have f0 : 1 * v_iv (n_v vs 1) + ((-1) * w_fi ws (n_v vs 2) 15 + 0) ≤ 0 := f0
  obtain ⟨f1, hf⟩ := fc_un (show (20 : Nat) < 100 from by decide) hf
  have f1 : (w_fi ws (n_v vs 2) 15 + 1) ≤ w_fi ws (n_v vs 2) 11 := f1
  obtain ⟨f2, hf⟩ := fc_un (show (24 : Nat) < 100 from by decide) hf
  have f2 : n_v vs 0 = n_v vs 2 := f2
  obtain ⟨ta1, w1, le1, ⟨_, s1⟩, hf⟩ := fc_us (show ¬ (101 : Nat) < 100 from by decide) hf
  have s1 : (∀ b j, w_el ws b j = w_el w1 b j) ∧ ∀ b j, w_fd ws b j = if b = v_ad (n_v vs 2) ∧ j = 12 then n_v vs 9 else w_fd w1 b j := s1
  obtain ⟨f4, hf⟩ := fc_un (show (7 : Nat) < 100 from by decide) hf
  have f4 : v_iv (n_v vs 7) ≤ v_iv (n_v vs 8) := f4
  obtain ⟨f5, hf⟩ := fc_un (show (2 : Nat) < 100 from by decide) hf
  have f5 : v_iv (n_v vs 7) = v_iv (n_v vs 5) - v_iv (n_v vs 6) := f5
  obtain ⟨f6, hf⟩ := fc_un (show (9 : Nat) < 100 from by decide) hf
  have f6 : n_v vs 6 = w_fd w1 (v_ad (n_v vs 2)) 15 := f6
  obtain ⟨f7, hf⟩ := fc_un (show (9 : Nat) < 100 from by decide) hf
  have f7 : n_v vs 5 = w_fd w1 (v_ad (n_v vs 2)) 11 := f7
  obtain ⟨f8, hf⟩ := fc_un (show (20 : Nat) < 100 from by decide) hf
  have f8 : 1 * v_iv (n_v vs 1) + ((-1) * w_fi w1 (n_v vs 2) 15 + 0) ≤ 0 := f8
  obtain ⟨f9, hf⟩ := fc_un (show (20 : Nat) < 100 from by decide) hf
  have f9 : (w_fi w1 (n_v vs 2) 15 + 1) ≤ w_fi w1 (n_v vs 2) 11 := f9
  have q2 : n_v vs 2 = n_v vs 0 := f2.symm
  rw [q2] at f0
  rw [q2] at f1
  rw [q2] at s1
  rw [q2] at f6
  rw [q2] at f7
  rw [q2] at f8
  rw [q2] at f9
  have g6 : v_iv (n_v vs 6) = w_fi w1 (n_v vs 0) 15 := congrArg v_iv f6
  have g7 : v_iv (n_v vs 5) = w_fi w1 (n_v vs 0) 11 := congrArg v_iv f7
  have fe_0_11_1 : w_fi ws (n_v vs 0) 11 = w_fi w1 (n_v vs 0) 11 := by show v_iv (w_fd _ _ _) = v_iv (w_fd _ _ _); rw [s1.2, if_neg (fun e => absurd e.2 (by decide))]
  have fe_0_12_1 : w_fi ws (n_v vs 0) 12 = v_iv (n_v vs 9) := by show v_iv (w_fd _ _ _) = _; rw [s1.2, if_pos ⟨rfl, rfl⟩]
  have fe_0_15_1 : w_fi ws (n_v vs 0) 15 = w_fi w1 (n_v vs 0) 15 := by show v_iv (w_fd _ _ _) = v_iv (w_fd _ _ _); rw [s1.2, if_neg (fun e => absurd e.2 (by decide))]
  have kz_0_11 : 0 ≤ w_fi ws (n_v vs 0) 11 ∧ w_fi ws (n_v vs 0) 11 ≤ 2000 := tv_rng (th_fd hD hth r0 (g := GG_150) rfl (k := 11) (t := (0, 0, 2000, [])) rfl rfl)
  have kz_0_12 : 0 ≤ w_fi ws (n_v vs 0) 12 ∧ w_fi ws (n_v vs 0) 12 ≤ 4 := tv_rng (th_fd hD hth r0 (g := GG_150) rfl (k := 12) (t := (0, 0, 4, [])) rfl rfl)
  have kz_0_15 : 0 ≤ w_fi ws (n_v vs 0) 15 ∧ w_fi ws (n_v vs 0) 15 ≤ 2000 := tv_rng (th_fd hD hth r0 (g := GG_150) rfl (k := 15) (t := (0, 0, 2000, [])) rfl rfl)
  have nf0 : fc_1 (20, [2, 2], [30, 0, 1, 1, 15, -1, 1, 11]) ws (vs) := by
    refine ⟨fun n hn => ?_, ?_⟩
    · have hn : n ∈ [2, 2] := hn
      rw [hl]
      simp only [List.mem_cons, List.not_mem_nil, or_false] at hn
      show n < 10; omega
    · show 1 * w_fi ws (n_v vs 2) 15 + ((-1) * w_fi ws (n_v vs 2) 11 + 0) ≤ 0
      rw [q2]
      omega
  have nf1 : fc_1 (20, [2], [50, 3, 0, 12, 11, 15, 2, 21, 4, 7, 1, 3, 2, 0, 12, 0, 1, 0, 3, 2, 0, 11, 4, 3, 2, 0, 15, 0, 8, 3, 7, 1, 3, 2, 0, 12, 0, 0, 0, 7, 4, 3, 2, 0, 15, 0, 1, 2, 0, 11]) ws (vs) := by
    refine ⟨fun n hn => ?_, ?_⟩
    · have hn : n ∈ [2] := hn
      rw [hl]
      simp only [List.mem_cons, List.not_mem_nil, or_false] at hn
      show n < 10; omega
    · show ((w_fi ws (n_v vs 2) 12 = 1) → (w_fi ws (n_v vs 2) 11 ≤ (w_fi ws (n_v vs 2) 15 + 8))) ∧ ((w_fi ws (n_v vs 2) 12 = 0) ∨ ((w_fi ws (n_v vs 2) 15 + 1) ≤ w_fi ws (n_v vs 2) 11))
      rw [q2]
      first | omega | grind
  have nf2 : fc_1 (20, [0, 0], [30, 0, 1, 1, 15, -1, 1, 11]) ws (vs) := by
    refine ⟨fun n hn => ?_, ?_⟩
    · have hn : n ∈ [0, 0] := hn
      rw [hl]
      simp only [List.mem_cons, List.not_mem_nil, or_false] at hn
      show n < 10; omega
    · show 1 * w_fi ws (n_v vs 0) 15 + ((-1) * w_fi ws (n_v vs 0) 11 + 0) ≤ 0
      omega
  have nf3 : fc_1 (20, [0], [50, 3, 0, 12, 11, 15, 2, 21, 4, 7, 1, 3, 2, 0, 12, 0, 1, 0, 3, 2, 0, 11, 4, 3, 2, 0, 15, 0, 8, 3, 7, 1, 3, 2, 0, 12, 0, 0, 0, 7, 4, 3, 2, 0, 15, 0, 1, 2, 0, 11]) ws (vs) := by
    refine ⟨fun n hn => ?_, ?_⟩
    · have hn : n ∈ [0] := hn
      rw [hl]
      simp only [List.mem_cons, List.not_mem_nil, or_false] at hn
      show n < 10; omega
    · show ((w_fi ws (n_v vs 0) 12 = 1) → (w_fi ws (n_v vs 0) 11 ≤ (w_fi ws (n_v vs 0) 15 + 8))) ∧ ((w_fi ws (n_v vs 0) 12 = 0) ∨ ((w_fi ws (n_v vs 0) 15 + 1) ≤ w_fi ws (n_v vs 0) 11))
      first | omega | grind
  have nf4 : fc_1 (20, [1, 0], [30, 0, 1, 0, 0, -1, 1, 15]) ws (vs) := by
    refine ⟨fun n hn => ?_, ?_⟩
    · have hn : n ∈ [1, 0] := hn
      rw [hl]
      simp only [List.mem_cons, List.not_mem_nil, or_false] at hn
      show n < 10; omega
    · show 1 * v_iv (n_v vs 1) + ((-1) * w_fi ws (n_v vs 0) 15 + 0) ≤ 0
      omega
  refine ⟨(fun _ h => (by cases h)), [], trivial, ?_, (fun _ h => (by cases h))⟩
  rw [List.append_nil]
  exact List.forall_mem_cons.mpr ⟨⟨show (20 : Nat) < 100 from by decide, nf0⟩, List.forall_mem_cons.mpr ⟨⟨show (20 : Nat) < 100 from by decide, nf1⟩, List.forall_mem_cons.mpr ⟨⟨show (20 : Nat) < 100 from by decide, nf2⟩, List.forall_mem_cons.mpr ⟨⟨show (20 : Nat) < 100 from by decide, nf3⟩, List.forall_mem_cons.mpr ⟨⟨show (20 : Nat) < 100 from by decide, nf4⟩, (fun _ h => (by cases h))⟩⟩⟩⟩⟩
def o_Mo_next_47 : or_T := (354, 13, [(0, (2, 0, 0, [150])), (1, (0, 0, 2000, [])), (2, (2, 0, 0, [150])), (9, (0, 0, 1999, [])), (10, (0, 4, 4, [])), (11, (0, 1, 1, [])), (12, (0, 1, 2000, []))], [(20, [1, 2], [30, 0, 1, 0, 0, -1, 1, 15]), (24, [0, 2], []), (101, [2, 12], [11]), (1, [12, 9, 11], []), (9, [9, 2], [11]), (20, [1, 2], [30, 0, 1, 0, 0, -1, 1, 15]), (20, [2], [50, 2, 0, 11, 15, 1, 3, 2, 0, 11, 2, 0, 15]), (101, [2, 10], [12]), (20, [1, 2], [30, 0, 1, 0, 0, -1, 1, 15]), (20, [2], [50, 2, 0, 11, 15, 1, 3, 2, 0, 11, 2, 0, 15])], [], [], [(20, [2, 2], [30, 0, 1, 1, 15, -1, 1, 11]), (20, [2], [50, 3, 0, 12, 11, 15, 2, 21, 4, 7, 1, 3, 2, 0, 12, 0, 1, 0, 3, 2, 0, 11, 4, 3, 2, 0, 15, 0, 8, 3, 7, 1, 3, 2, 0, 12, 0, 0, 0, 7, 4, 3, 2, 0, 15, 0, 1, 2, 0, 11]), (20, [0, 0], [30, 0, 1, 1, 15, -1, 1, 11]), (20, [0], [50, 3, 0, 12, 11, 15, 2, 21, 4, 7, 1, 3, 2, 0, 12, 0, 1, 0, 3, 2, 0, 11, 4, 3, 2, 0, 15, 0, 8, 3, 7, 1, 3, 2, 0, 12, 0, 0, 0, 7, 4, 3, 2, 0, 15, 0, 1, 2, 0, 11]), (20, [1, 0], [30, 0, 1, 0, 0, -1, 1, 15])], [], [(12, 9, 1, 1), (12, 1, -4294967296, 2000), (1, 9, -4294967296, 2000), (9, 1, -4294967296, 1999)])
theorem oo_Mo_next_47 {kA : Nat → ClassId} : or_ok kA GG o_Mo_next_47 := by
  intro A ta ws vs hD hth hl hk hds hf
  have hl : vs.length = 13 := hl
  have hk : ∀ q ∈ ([(0, (2, 0, 0, [150])), (1, (0, 0, 2000, [])), (2, (2, 0, 0, [150])), (9, (0, 0, 1999, [])), (10, (0, 4, 4, [])), (11, (0, 1, 1, [])), (12, (0, 1, 2000, []))] : List (Nat × tv_T)), tv_ok ta q.2 (n_v vs q.1) := hk
  obtain ⟨t0, hk⟩ := List.forall_mem_cons.mp hk
  have t0 : tv_ok ta (2, 0, 0, [150]) (n_v vs 0) := t0
  have r0 : ta (v_ad (n_v vs 0)) = some 150 := tv_rg t0
  obtain ⟨t1, hk⟩ := List.forall_mem_cons.mp hk
  have t1 : tv_ok ta (0, 0, 2000, []) (n_v vs 1) := t1
  have k1 : 0 ≤ v_iv (n_v vs 1) ∧ v_iv (n_v vs 1) ≤ 2000 := tv_rng t1
  obtain ⟨t2, hk⟩ := List.forall_mem_cons.mp hk
  have t2 : tv_ok ta (2, 0, 0, [150]) (n_v vs 2) := t2
  have r2 : ta (v_ad (n_v vs 2)) = some 150 := tv_rg t2
  obtain ⟨t9, hk⟩ := List.forall_mem_cons.mp hk
  have t9 : tv_ok ta (0, 0, 1999, []) (n_v vs 9) := t9
  have k9 : 0 ≤ v_iv (n_v vs 9) ∧ v_iv (n_v vs 9) ≤ 1999 := tv_rng t9
  obtain ⟨t10, hk⟩ := List.forall_mem_cons.mp hk
  have t10 : tv_ok ta (0, 4, 4, []) (n_v vs 10) := t10
  have k10 : 4 ≤ v_iv (n_v vs 10) ∧ v_iv (n_v vs 10) ≤ 4 := tv_rng t10
  obtain ⟨t11, hk⟩ := List.forall_mem_cons.mp hk
  have t11 : tv_ok ta (0, 1, 1, []) (n_v vs 11) := t11
  have k11 : 1 ≤ v_iv (n_v vs 11) ∧ v_iv (n_v vs 11) ≤ 1 := tv_rng t11
  obtain ⟨t12, hk⟩ := List.forall_mem_cons.mp hk
  have t12 : tv_ok ta (0, 1, 2000, []) (n_v vs 12) := t12
  have k12 : 1 ≤ v_iv (n_v vs 12) ∧ v_iv (n_v vs 12) ≤ 2000 := tv_rng t12
  have hds : ∀ q ∈ ([(12, 9, 1, 1), (12, 1, -4294967296, 2000), (1, 9, -4294967296, 2000), (9, 1, -4294967296, 1999)] : List of_T), n_iv vs q.2.1 + q.2.2.1 ≤ n_iv vs q.1 ∧ n_iv vs q.1 ≤ n_iv vs q.2.1 + q.2.2.2 := hds
  obtain ⟨d0, hds⟩ := List.forall_mem_cons.mp hds
  have d0 : v_iv (n_v vs 9) + 1 ≤ v_iv (n_v vs 12) ∧ v_iv (n_v vs 12) ≤ v_iv (n_v vs 9) + 1 := d0
  obtain ⟨d1, hds⟩ := List.forall_mem_cons.mp hds
  have d1 : v_iv (n_v vs 1) + (-4294967296) ≤ v_iv (n_v vs 12) ∧ v_iv (n_v vs 12) ≤ v_iv (n_v vs 1) + 2000 := d1
  obtain ⟨d2, hds⟩ := List.forall_mem_cons.mp hds
  have d2 : v_iv (n_v vs 9) + (-4294967296) ≤ v_iv (n_v vs 1) ∧ v_iv (n_v vs 1) ≤ v_iv (n_v vs 9) + 2000 := d2
  obtain ⟨d3, hds⟩ := List.forall_mem_cons.mp hds
  have d3 : v_iv (n_v vs 1) + (-4294967296) ≤ v_iv (n_v vs 9) ∧ v_iv (n_v vs 9) ≤ v_iv (n_v vs 1) + 1999 := d3
  have hf : fc_ok [(20, [1, 2], [30, 0, 1, 0, 0, -1, 1, 15]), (24, [0, 2], []), (101, [2, 12], [11]), (1, [12, 9, 11], []), (9, [9, 2], [11]), (20, [1, 2], [30, 0, 1, 0, 0, -1, 1, 15]), (20, [2], [50, 2, 0, 11, 15, 1, 3, 2, 0, 11, 2, 0, 15]), (101, [2, 10], [12]), (20, [1, 2], [30, 0, 1, 0, 0, -1, 1, 15]), (20, [2], [50, 2, 0, 11, 15, 1, 3, 2, 0, 11, 2, 0, 15])] ta ws vs := hf
  obtain ⟨f0, hf⟩ := fc_un (show (20 : Nat) < 100 from by decide) hf
  have f0 : 1 * v_iv (n_v vs 1) + ((-1) * w_fi ws (n_v vs 2) 15 + 0) ≤ 0 := f0
  obtain ⟨f1, hf⟩ := fc_un (show (24 : Nat) < 100 from by decide) hf
  have f1 : n_v vs 0 = n_v vs 2 := f1
  obtain ⟨ta1, w1, le1, ⟨_, s1⟩, hf⟩ := fc_us (show ¬ (101 : Nat) < 100 from by decide) hf
  have s1 : (∀ b j, w_el ws b j = w_el w1 b j) ∧ ∀ b j, w_fd ws b j = if b = v_ad (n_v vs 2) ∧ j = 11 then n_v vs 12 else w_fd w1 b j := s1
  obtain ⟨f3, hf⟩ := fc_un (show (1 : Nat) < 100 from by decide) hf
  have f3 : v_iv (n_v vs 12) = v_iv (n_v vs 9) + v_iv (n_v vs 11) := f3
  obtain ⟨f4, hf⟩ := fc_un (show (9 : Nat) < 100 from by decide) hf
  have f4 : n_v vs 9 = w_fd w1 (v_ad (n_v vs 2)) 11 := f4
  obtain ⟨f5, hf⟩ := fc_un (show (20 : Nat) < 100 from by decide) hf
  have f5 : 1 * v_iv (n_v vs 1) + ((-1) * w_fi w1 (n_v vs 2) 15 + 0) ≤ 0 := f5
  obtain ⟨f6, hf⟩ := fc_un (show (20 : Nat) < 100 from by decide) hf
  have f6 : w_fi w1 (n_v vs 2) 11 = w_fi w1 (n_v vs 2) 15 := f6
  obtain ⟨ta2, w2, le2, ⟨_, s2⟩, hf⟩ := fc_us (show ¬ (101 : Nat) < 100 from by decide) hf
  have s2 : (∀ b j, w_el w1 b j = w_el w2 b j) ∧ ∀ b j, w_fd w1 b j = if b = v_ad (n_v vs 2) ∧ j = 12 then n_v vs 10 else w_fd w2 b j := s2
  obtain ⟨f8, hf⟩ := fc_un (show (20 : Nat) < 100 from by decide) hf
  have f8 : 1 * v_iv (n_v vs 1) + ((-1) * w_fi w2 (n_v vs 2) 15 + 0) ≤ 0 := f8
  obtain ⟨f9, hf⟩ := fc_un (show (20 : Nat) < 100 from by decide) hf
  have f9 : w_fi w2 (n_v vs 2) 11 = w_fi w2 (n_v vs 2) 15 := f9
  have q2 : n_v vs 2 = n_v vs 0 := f1.symm
  rw [q2] at f0
  rw [q2] at s1
  rw [q2] at f4
  rw [q2] at f5
  rw [q2] at f6
  rw [q2] at s2
  rw [q2] at f8
  rw [q2] at f9
  have g4 : v_iv (n_v vs 9) = w_fi w1 (n_v vs 0) 11 := congrArg v_iv f4
  have fe_0_11_1 : w_fi ws (n_v vs 0) 11 = v_iv (n_v vs 12) := by show v_iv (w_fd _ _ _) = _; rw [s1.2, if_pos ⟨rfl, rfl⟩]
  have fe_0_12_1 : w_fi ws (n_v vs 0) 12 = w_fi w1 (n_v vs 0) 12 := by show v_iv (w_fd _ _ _) = v_iv (w_fd _ _ _); rw [s1.2, if_neg (fun e => absurd e.2 (by decide))]
  have fe_0_15_1 : w_fi ws (n_v vs 0) 15 = w_fi w1 (n_v vs 0) 15 := by show v_iv (w_fd _ _ _) = v_iv (w_fd _ _ _); rw [s1.2, if_neg (fun e => absurd e.2 (by decide))]
  have fe_0_11_2 : w_fi w1 (n_v vs 0) 11 = w_fi w2 (n_v vs 0) 11 := by show v_iv (w_fd _ _ _) = v_iv (w_fd _ _ _); rw [s2.2, if_neg (fun e => absurd e.2 (by decide))]
  have fe_0_12_2 : w_fi w1 (n_v vs 0) 12 = v_iv (n_v vs 10) := by show v_iv (w_fd _ _ _) = _; rw [s2.2, if_pos ⟨rfl, rfl⟩]
  have fe_0_15_2 : w_fi w1 (n_v vs 0) 15 = w_fi w2 (n_v vs 0) 15 := by show v_iv (w_fd _ _ _) = v_iv (w_fd _ _ _); rw [s2.2, if_neg (fun e => absurd e.2 (by decide))]
  have kz_0_11 : 0 ≤ w_fi ws (n_v vs 0) 11 ∧ w_fi ws (n_v vs 0) 11 ≤ 2000 := tv_rng (th_fd hD hth r0 (g := GG_150) rfl (k := 11) (t := (0, 0, 2000, [])) rfl rfl)
  have kz_0_12 : 0 ≤ w_fi ws (n_v vs 0) 12 ∧ w_fi ws (n_v vs 0) 12 ≤ 4 := tv_rng (th_fd hD hth r0 (g := GG_150) rfl (k := 12) (t := (0, 0, 4, [])) rfl rfl)
  have kz_0_15 : 0 ≤ w_fi ws (n_v vs 0) 15 ∧ w_fi ws (n_v vs 0) 15 ≤ 2000 := tv_rng (th_fd hD hth r0 (g := GG_150) rfl (k := 15) (t := (0, 0, 2000, [])) rfl rfl)
  have nf0 : fc_1 (20, [2, 2], [30, 0, 1, 1, 15, -1, 1, 11]) ws (vs) := by
    refine ⟨fun n hn => ?_, ?_⟩
    · have hn : n ∈ [2, 2] := hn
      rw [hl]
      simp only [List.mem_cons, List.not_mem_nil, or_false] at hn
      show n < 13; omega
    · show 1 * w_fi ws (n_v vs 2) 15 + ((-1) * w_fi ws (n_v vs 2) 11 + 0) ≤ 0
      rw [q2]
      omega
  have nf1 : fc_1 (20, [2], [50, 3, 0, 12, 11, 15, 2, 21, 4, 7, 1, 3, 2, 0, 12, 0, 1, 0, 3, 2, 0, 11, 4, 3, 2, 0, 15, 0, 8, 3, 7, 1, 3, 2, 0, 12, 0, 0, 0, 7, 4, 3, 2, 0, 15, 0, 1, 2, 0, 11]) ws (vs) := by
    refine ⟨fun n hn => ?_, ?_⟩
    · have hn : n ∈ [2] := hn
      rw [hl]
      simp only [List.mem_cons, List.not_mem_nil, or_false] at hn
      show n < 13; omega
    · show ((w_fi ws (n_v vs 2) 12 = 1) → (w_fi ws (n_v vs 2) 11 ≤ (w_fi ws (n_v vs 2) 15 + 8))) ∧ ((w_fi ws (n_v vs 2) 12 = 0) ∨ ((w_fi ws (n_v vs 2) 15 + 1) ≤ w_fi ws (n_v vs 2) 11))
      rw [q2]
      first | omega | grind
  have nf2 : fc_1 (20, [0, 0], [30, 0, 1, 1, 15, -1, 1, 11]) ws (vs) := by
    refine ⟨fun n hn => ?_, ?_⟩
    · have hn : n ∈ [0, 0] := hn
      rw [hl]
      simp only [List.mem_cons, List.not_mem_nil, or_false] at hn
      show n < 13; omega
    · show 1 * w_fi ws (n_v vs 0) 15 + ((-1) * w_fi ws (n_v vs 0) 11 + 0) ≤ 0
      omega
  have nf3 : fc_1 (20, [0], [50, 3, 0, 12, 11, 15, 2, 21, 4, 7, 1, 3, 2, 0, 12, 0, 1, 0, 3, 2, 0, 11, 4, 3, 2, 0, 15, 0, 8, 3, 7, 1, 3, 2, 0, 12, 0, 0, 0, 7, 4, 3, 2, 0, 15, 0, 1, 2, 0, 11]) ws (vs) := by
    refine ⟨fun n hn => ?_, ?_⟩
    · have hn : n ∈ [0] := hn
      rw [hl]
      simp only [List.mem_cons, List.not_mem_nil, or_false] at hn
      show n < 13; omega
    · show ((w_fi ws (n_v vs 0) 12 = 1) → (w_fi ws (n_v vs 0) 11 ≤ (w_fi ws (n_v vs 0) 15 + 8))) ∧ ((w_fi ws (n_v vs 0) 12 = 0) ∨ ((w_fi ws (n_v vs 0) 15 + 1) ≤ w_fi ws (n_v vs 0) 11))
      first | omega | grind
  have nf4 : fc_1 (20, [1, 0], [30, 0, 1, 0, 0, -1, 1, 15]) ws (vs) := by
    refine ⟨fun n hn => ?_, ?_⟩
    · have hn : n ∈ [1, 0] := hn
      rw [hl]
      simp only [List.mem_cons, List.not_mem_nil, or_false] at hn
      show n < 13; omega
    · show 1 * v_iv (n_v vs 1) + ((-1) * w_fi ws (n_v vs 0) 15 + 0) ≤ 0
      omega
  refine ⟨(fun _ h => (by cases h)), [], trivial, ?_, (fun _ h => (by cases h))⟩
  rw [List.append_nil]
  exact List.forall_mem_cons.mpr ⟨⟨show (20 : Nat) < 100 from by decide, nf0⟩, List.forall_mem_cons.mpr ⟨⟨show (20 : Nat) < 100 from by decide, nf1⟩, List.forall_mem_cons.mpr ⟨⟨show (20 : Nat) < 100 from by decide, nf2⟩, List.forall_mem_cons.mpr ⟨⟨show (20 : Nat) < 100 from by decide, nf3⟩, List.forall_mem_cons.mpr ⟨⟨show (20 : Nat) < 100 from by decide, nf4⟩, (fun _ h => (by cases h))⟩⟩⟩⟩⟩
def o_Mo_next_48 : or_T := (354, 13, [(0, (2, 0, 0, [150])), (1, (0, 0, 2000, [])), (2, (2, 0, 0, [150])), (9, (0, 0, 1999, [])), (10, (0, 3, 3, [])), (11, (0, 1, 1, [])), (12, (0, 1, 2000, []))], [(20, [1, 2], [30, 0, 1, 0, 0, -1, 1, 15]), (24, [0, 2], []), (101, [2, 12], [11]), (1, [12, 9, 11], []), (9, [9, 2], [11]), (20, [1, 2], [30, 0, 1, 0, 0, -1, 1, 15]), (20, [2], [50, 2, 0, 11, 15, 1, 3, 2, 0, 11, 2, 0, 15]), (101, [2, 10], [12]), (20, [1, 2], [30, 0, 1, 0, 0, -1, 1, 15]), (20, [2], [50, 2, 0, 11, 15, 1, 3, 2, 0, 11, 2, 0, 15])], [], [], [(20, [2, 2], [30, 0, 1, 1, 15, -1, 1, 11]), (20, [2], [50, 3, 0, 12, 11, 15, 2, 21, 4, 7, 1, 3, 2, 0, 12, 0, 1, 0, 3, 2, 0, 11, 4, 3, 2, 0, 15, 0, 8, 3, 7, 1, 3, 2, 0, 12, 0, 0, 0, 7, 4, 3, 2, 0, 15, 0, 1, 2, 0, 11]), (20, [0, 0], [30, 0, 1, 1, 15, -1, 1, 11]), (20, [0], [50, 3, 0, 12, 11, 15, 2, 21, 4, 7, 1, 3, 2, 0, 12, 0, 1, 0, 3, 2, 0, 11, 4, 3, 2, 0, 15, 0, 8, 3, 7, 1, 3, 2, 0, 12, 0, 0, 0, 7, 4, 3, 2, 0, 15, 0, 1, 2, 0, 11]), (20, [1, 0], [30, 0, 1, 0, 0, -1, 1, 15])], [], [(12, 9, 1, 1), (12, 1, -4294967296, 2000), (1, 9, -4294967296, 2000), (9, 1, -4294967296, 1999)])
theorem oo_Mo_next_48 {kA : Nat → ClassId} : or_ok kA GG o_Mo_next_48 := by
  intro A ta ws vs hD hth hl hk hds hf
  have hl : vs.length = 13 := hl
  have hk : ∀ q ∈ ([(0, (2, 0, 0, [150])), (1, (0, 0, 2000, [])), (2, (2, 0, 0, [150])), (9, (0, 0, 1999, [])), (10, (0, 3, 3, [])), (11, (0, 1, 1, [])), (12, (0, 1, 2000, []))] : List (Nat × tv_T)), tv_ok ta q.2 (n_v vs q.1) := hk
  obtain ⟨t0, hk⟩ := List.forall_mem_cons.mp hk
  have t0 : tv_ok ta (2, 0, 0, [150]) (n_v vs 0) := t0
  have r0 : ta (v_ad (n_v vs 0)) = some 150 := tv_rg t0
  obtain ⟨t1, hk⟩ := List.forall_mem_cons.mp hk
  have t1 : tv_ok ta (0, 0, 2000, []) (n_v vs 1) := t1
  have k1 : 0 ≤ v_iv (n_v vs 1) ∧ v_iv (n_v vs 1) ≤ 2000 := tv_rng t1
  obtain ⟨t2, hk⟩ := List.forall_mem_cons.mp hk
  have t2 : tv_ok ta (2, 0, 0, [150]) (n_v vs 2) := t2
  have r2 : ta (v_ad (n_v vs 2)) = some 150 := tv_rg t2
  obtain ⟨t9, hk⟩ := List.forall_mem_cons.mp hk
  have t9 : tv_ok ta (0, 0, 1999, []) (n_v vs 9) := t9
  have k9 : 0 ≤ v_iv (n_v vs 9) ∧ v_iv (n_v vs 9) ≤ 1999 := tv_rng t9
  obtain ⟨t10, hk⟩ := List.forall_mem_cons.mp hk
  have t10 : tv_ok ta (0, 3, 3, []) (n_v vs 10) := t10
  have k10 : 3 ≤ v_iv (n_v vs 10) ∧ v_iv (n_v vs 10) ≤ 3 := tv_rng t10
  obtain ⟨t11, hk⟩ := List.forall_mem_cons.mp hk
  have t11 : tv_ok ta (0, 1, 1, []) (n_v vs 11) := t11
  have k11 : 1 ≤ v_iv (n_v vs 11) ∧ v_iv (n_v vs 11) ≤ 1 := tv_rng t11
  obtain ⟨t12, hk⟩ := List.forall_mem_cons.mp hk
  have t12 : tv_ok ta (0, 1, 2000, []) (n_v vs 12) := t12
  have k12 : 1 ≤ v_iv (n_v vs 12) ∧ v_iv (n_v vs 12) ≤ 2000 := tv_rng t12
  have hds : ∀ q ∈ ([(12, 9, 1, 1), (12, 1, -4294967296, 2000), (1, 9, -4294967296, 2000), (9, 1, -4294967296, 1999)] : List of_T), n_iv vs q.2.1 + q.2.2.1 ≤ n_iv vs q.1 ∧ n_iv vs q.1 ≤ n_iv vs q.2.1 + q.2.2.2 := hds
  obtain ⟨d0, hds⟩ := List.forall_mem_cons.mp hds
  have d0 : v_iv (n_v vs 9) + 1 ≤ v_iv (n_v vs 12) ∧ v_iv (n_v vs 12) ≤ v_iv (n_v vs 9) + 1 := d0
  obtain ⟨d1, hds⟩ := List.forall_mem_cons.mp hds
  have d1 : v_iv (n_v vs 1) + (-4294967296) ≤ v_iv (n_v vs 12) ∧ v_iv (n_v vs 12) ≤ v_iv (n_v vs 1) + 2000 := d1
  obtain ⟨d2, hds⟩ := List.forall_mem_cons.mp hds
  have d2 : v_iv (n_v vs 9) + (-4294967296) ≤ v_iv (n_v vs 1) ∧ v_iv (n_v vs 1) ≤ v_iv (n_v vs 9) + 2000 := d2
  obtain ⟨d3, hds⟩ := List.forall_mem_cons.mp hds
  have d3 : v_iv (n_v vs 1) + (-4294967296) ≤ v_iv (n_v vs 9) ∧ v_iv (n_v vs 9) ≤ v_iv (n_v vs 1) + 1999 := d3
  have hf : fc_ok [(20, [1, 2], [30, 0, 1, 0, 0, -1, 1, 15]), (24, [0, 2], []), (101, [2, 12], [11]), (1, [12, 9, 11], []), (9, [9, 2], [11]), (20, [1, 2], [30, 0, 1, 0, 0, -1, 1, 15]), (20, [2], [50, 2, 0, 11, 15, 1, 3, 2, 0, 11, 2, 0, 15]), (101, [2, 10], [12]), (20, [1, 2], [30, 0, 1, 0, 0, -1, 1, 15]), (20, [2], [50, 2, 0, 11, 15, 1, 3, 2, 0, 11, 2, 0, 15])] ta ws vs := hf
  obtain ⟨f0, hf⟩ := fc_un (show (20 : Nat) < 100 from by decide) hf
  have f0 : 1 * v_iv (n_v vs 1) + ((-1) * w_fi ws (n_v vs 2) 15 + 0) ≤ 0 := f0
  obtain ⟨f1, hf⟩ := fc_un (show (24 : Nat) < 100 from by decide) hf
  have f1 : n_v vs 0 = n_v vs 2 := f1
  obtain ⟨ta1, w1, le1, ⟨_, s1⟩, hf⟩ := fc_us (show ¬ (101 : Nat) < 100 from by decide) hf
  have s1 : (∀ b j, w_el ws b j = w_el w1 b j) ∧ ∀ b j, w_fd ws b j = if b = v_ad (n_v vs 2) ∧ j = 11 then n_v vs 12 else w_fd w1 b j := s1
  obtain ⟨f3, hf⟩ := fc_un (show (1 : Nat) < 100 from by decide) hf
  have f3 : v_iv (n_v vs 12) = v_iv (n_v vs 9) + v_iv (n_v vs 11) := f3
  obtain ⟨f4, hf⟩ := fc_un (show (9 : Nat) < 100 from by decide) hf
  have f4 : n_v vs 9 = w_fd w1 (v_ad (n_v vs 2)) 11 := f4
  obtain ⟨f5, hf⟩ := fc_un (show (20 : Nat) < 100 from by decide) hf
  have f5 : 1 * v_iv (n_v vs 1) + ((-1) * w_fi w1 (n_v vs 2) 15 + 0) ≤ 0 := f5
  obtain ⟨f6, hf⟩ := fc_un (show (20 : Nat) < 100 from by decide) hf
  have f6 : w_fi w1 (n_v vs 2) 11 = w_fi w1 (n_v vs 2) 15 := f6
  obtain ⟨ta2, w2, le2, ⟨_, s2⟩, hf⟩ := fc_us (show ¬ (101 : Nat) < 100 from by decide) hf
  have s2 : (∀ b j, w_el w1 b j = w_el w2 b j) ∧ ∀ b j, w_fd w1 b j = if b = v_ad (n_v vs 2) ∧ j = 12 then n_v vs 10 else w_fd w2 b j := s2
  obtain ⟨f8, hf⟩ := fc_un (show (20 : Nat) < 100 from by decide) hf
  have f8 : 1 * v_iv (n_v vs 1) + ((-1) * w_fi w2 (n_v vs 2) 15 + 0) ≤ 0 := f8
  obtain ⟨f9, hf⟩ := fc_un (show (20 : Nat) < 100 from by decide) hf
  have f9 : w_fi w2 (n_v vs 2) 11 = w_fi w2 (n_v vs 2) 15 := f9
  have q2 : n_v vs 2 = n_v vs 0 := f1.symm
  rw [q2] at f0
  rw [q2] at s1
  rw [q2] at f4
  rw [q2] at f5
  rw [q2] at f6
  rw [q2] at s2
  rw [q2] at f8
  rw [q2] at f9
  have g4 : v_iv (n_v vs 9) = w_fi w1 (n_v vs 0) 11 := congrArg v_iv f4
  have fe_0_11_1 : w_fi ws (n_v vs 0) 11 = v_iv (n_v vs 12) := by show v_iv (w_fd _ _ _) = _; rw [s1.2, if_pos ⟨rfl, rfl⟩]
  have fe_0_12_1 : w_fi ws (n_v vs 0) 12 = w_fi w1 (n_v vs 0) 12 := by show v_iv (w_fd _ _ _) = v_iv (w_fd _ _ _); rw [s1.2, if_neg (fun e => absurd e.2 (by decide))]
  have fe_0_15_1 : w_fi ws (n_v vs 0) 15 = w_fi w1 (n_v vs 0) 15 := by show v_iv (w_fd _ _ _) = v_iv (w_fd _ _ _); rw [s1.2, if_neg (fun e => absurd e.2 (by decide))]
  have fe_0_11_2 : w_fi w1 (n_v vs 0) 11 = w_fi w2 (n_v vs 0) 11 := by show v_iv (w_fd _ _ _) = v_iv (w_fd _ _ _); rw [s2.2, if_neg (fun e => absurd e.2 (by decide))]
  have fe_0_12_2 : w_fi w1 (n_v vs 0) 12 = v_iv (n_v vs 10) := by show v_iv (w_fd _ _ _) = _; rw [s2.2, if_pos ⟨rfl, rfl⟩]
  have fe_0_15_2 : w_fi w1 (n_v vs 0) 15 = w_fi w2 (n_v vs 0) 15 := by show v_iv (w_fd _ _ _) = v_iv (w_fd _ _ _); rw [s2.2, if_neg (fun e => absurd e.2 (by decide))]
  have kz_0_11 : 0 ≤ w_fi ws (n_v vs 0) 11 ∧ w_fi ws (n_v vs 0) 11 ≤ 2000 := tv_rng (th_fd hD hth r0 (g := GG_150) rfl (k := 11) (t := (0, 0, 2000, [])) rfl rfl)
  have kz_0_12 : 0 ≤ w_fi ws (n_v vs 0) 12 ∧ w_fi ws (n_v vs 0) 12 ≤ 4 := tv_rng (th_fd hD hth r0 (g := GG_150) rfl (k := 12) (t := (0, 0, 4, [])) rfl rfl)
  have kz_0_15 : 0 ≤ w_fi ws (n_v vs 0) 15 ∧ w_fi ws (n_v vs 0) 15 ≤ 2000 := tv_rng (th_fd hD hth r0 (g := GG_150) rfl (k := 15) (t := (0, 0, 2000, [])) rfl rfl)
  have nf0 : fc_1 (20, [2, 2], [30, 0, 1, 1, 15, -1, 1, 11]) ws (vs) := by
    refine ⟨fun n hn => ?_, ?_⟩
    · have hn : n ∈ [2, 2] := hn
      rw [hl]
      simp only [List.mem_cons, List.not_mem_nil, or_false] at hn
      show n < 13; omega
    · show 1 * w_fi ws (n_v vs 2) 15 + ((-1) * w_fi ws (n_v vs 2) 11 + 0) ≤ 0
      rw [q2]
      omega
  have nf1 : fc_1 (20, [2], [50, 3, 0, 12, 11, 15, 2, 21, 4, 7, 1, 3, 2, 0, 12, 0, 1, 0, 3, 2, 0, 11, 4, 3, 2, 0, 15, 0, 8, 3, 7, 1, 3, 2, 0, 12, 0, 0, 0, 7, 4, 3, 2, 0, 15, 0, 1, 2, 0, 11]) ws (vs) := by
    refine ⟨fun n hn => ?_, ?_⟩
    · have hn : n ∈ [2] := hn
      rw [hl]
      simp only [List.mem_cons, List.not_mem_nil, or_false] at hn
      show n < 13; omega
    · show ((w_fi ws (n_v vs 2) 12 = 1) → (w_fi ws (n_v vs 2) 11 ≤ (w_fi ws (n_v vs 2) 15 + 8))) ∧ ((w_fi ws (n_v vs 2) 12 = 0) ∨ ((w_fi ws (n_v vs 2) 15 + 1) ≤ w_fi ws (n_v vs 2) 11))
      rw [q2]
      first | omega | grind
  have nf2 : fc_1 (20, [0, 0], [30, 0, 1, 1, 15, -1, 1, 11]) ws (vs) := by
    refine ⟨fun n hn => ?_, ?_⟩
    · have hn : n ∈ [0, 0] := hn
      rw [hl]
      simp only [List.mem_cons, List.not_mem_nil, or_false] at hn
      show n < 13; omega
    · show 1 * w_fi ws (n_v vs 0) 15 + ((-1) * w_fi ws (n_v vs 0) 11 + 0) ≤ 0
      omega
  have nf3 : fc_1 (20, [0], [50, 3, 0, 12, 11, 15, 2, 21, 4, 7, 1, 3, 2, 0, 12, 0, 1, 0, 3, 2, 0, 11, 4, 3, 2, 0, 15, 0, 8, 3, 7, 1, 3, 2, 0, 12, 0, 0, 0, 7, 4, 3, 2, 0, 15, 0, 1, 2, 0, 11]) ws (vs) := by
    refine ⟨fun n hn => ?_, ?_⟩
    · have hn : n ∈ [0] := hn
      rw [hl]
      simp only [List.mem_cons, List.not_mem_nil, or_false] at hn
      show n < 13; omega
    · show ((w_fi ws (n_v vs 0) 12 = 1) → (w_fi ws (n_v vs 0) 11 ≤ (w_fi ws (n_v vs 0) 15 + 8))) ∧ ((w_fi ws (n_v vs 0) 12 = 0) ∨ ((w_fi ws (n_v vs 0) 15 + 1) ≤ w_fi ws (n_v vs 0) 11))
      first | omega | grind
  have nf4 : fc_1 (20, [1, 0], [30, 0, 1, 0, 0, -1, 1, 15]) ws (vs) := by
    refine ⟨fun n hn => ?_, ?_⟩
    · have hn : n ∈ [1, 0] := hn
      rw [hl]
      simp only [List.mem_cons, List.not_mem_nil, or_false] at hn
      show n < 13; omega
    · show 1 * v_iv (n_v vs 1) + ((-1) * w_fi ws (n_v vs 0) 15 + 0) ≤ 0
      omega
  refine ⟨(fun _ h => (by cases h)), [], trivial, ?_, (fun _ h => (by cases h))⟩
  rw [List.append_nil]
  exact List.forall_mem_cons.mpr ⟨⟨show (20 : Nat) < 100 from by decide, nf0⟩, List.forall_mem_cons.mpr ⟨⟨show (20 : Nat) < 100 from by decide, nf1⟩, List.forall_mem_cons.mpr ⟨⟨show (20 : Nat) < 100 from by decide, nf2⟩, List.forall_mem_cons.mpr ⟨⟨show (20 : Nat) < 100 from by decide, nf3⟩, List.forall_mem_cons.mpr ⟨⟨show (20 : Nat) < 100 from by decide, nf4⟩, (fun _ h => (by cases h))⟩⟩⟩⟩⟩
def o_Mo_next_49 : or_T := (354, 9, [(0, (2, 0, 0, [150])), (1, (0, 0, 2000, [])), (2, (2, 0, 0, [150]))], [(20, [1, 2], [30, 0, 1, 0, 0, -1, 1, 15]), (20, [2, 2], [30, 0, 1, 1, 15, -1, 1, 11]), (20, [2], [50, 3, 0, 12, 11, 15, 2, 21, 4, 7, 1, 3, 2, 0, 12, 0, 1, 0, 3, 2, 0, 11, 4, 3, 2, 0, 15, 0, 8, 3, 7, 1, 3, 2, 0, 12, 0, 0, 0, 7, 4, 3, 2, 0, 15, 0, 1, 2, 0, 11]), (24, [0, 2], [])], [], [], [(20, [0, 0], [30, 0, 1, 1, 15, -1, 1, 11]), (20, [0], [50, 3, 0, 12, 11, 15, 2, 21, 4, 7, 1, 3, 2, 0, 12, 0, 1, 0, 3, 2, 0, 11, 4, 3, 2, 0, 15, 0, 8, 3, 7, 1, 3, 2, 0, 12, 0, 0, 0, 7, 4, 3, 2, 0, 15, 0, 1, 2, 0, 11]), (20, [1, 0], [30, 0, 1, 0, 0, -1, 1, 15])], [], [])
theorem oo_Mo_next_49 {kA : Nat → ClassId} : or_ok kA GG o_Mo_next_49 := by
  intro A ta ws vs hD hth hl hk hds hf
  have hl : vs.length = 9 := hl
  have hk : ∀ q ∈ ([(0, (2, 0, 0, [150])), (1, (0, 0, 2000, [])), (2, (2, 0, 0, [150]))] : List (Nat × tv_T)), tv_ok ta q.2 (n_v vs q.1) := hk
  obtain ⟨t0, hk⟩ := List.forall_mem_cons.mp hk
  have t0 : tv_ok ta (2, 0, 0, [150]) (n_v vs 0) := t0
  have r0 : ta (v_ad (n_v vs 0)) = some 150 := tv_rg t0
  obtain ⟨t1, hk⟩ := List.forall_mem_cons.mp hk
  have t1 : tv_ok ta (0, 0, 2000, []) (n_v vs 1) := t1
  have k1 : 0 ≤ v_iv (n_v vs 1) ∧ v_iv (n_v vs 1) ≤ 2000 := tv_rng t1
  obtain ⟨t2, hk⟩ := List.forall_mem_cons.mp hk
  have t2 : tv_ok ta (2, 0, 0, [150]) (n_v vs 2) := t2
  have r2 : ta (v_ad (n_v vs 2)) = some 150 := tv_rg t2
  have hf : fc_ok [(20, [1, 2], [30, 0, 1, 0, 0, -1, 1, 15]), (20, [2, 2], [30, 0, 1, 1, 15, -1, 1, 11]), (20, [2], [50, 3, 0, 12, 11, 15, 2, 21, 4, 7, 1, 3, 2, 0, 12, 0, 1, 0, 3, 2, 0, 11, 4, 3, 2, 0, 15, 0, 8, 3, 7, 1, 3, 2, 0, 12, 0, 0, 0, 7, 4, 3, 2, 0, 15, 0, 1, 2, 0, 11]), (24, [0, 2], [])] ta ws vs := hf
  obtain ⟨f0, hf⟩ := fc_un (show (20 : Nat) < 100 from by decide) hf
  have f0 : 1 * v_iv (n_v vs 1) + ((-1) * w_fi ws (n_v vs 2) 15 + 0) ≤ 0 := f0
  obtain ⟨f1, hf⟩ := fc_un (show (20 : Nat) < 100 from by decide) hf
  have f1 : 1 * w_fi ws (n_v vs 2) 15 + ((-1) * w_fi ws (n_v vs 2) 11 + 0) ≤ 0 := f1
  obtain ⟨f2, hf⟩ := fc_un (show (20 : Nat) < 100 from by decide) hf
  have f2 : ((w_fi ws (n_v vs 2) 12 = 1) → (w_fi ws (n_v vs 2) 11 ≤ (w_fi ws (n_v vs 2) 15 + 8))) ∧ ((w_fi ws (n_v vs 2) 12 = 0) ∨ ((w_fi ws (n_v vs 2) 15 + 1) ≤ w_fi ws (n_v vs 2) 11)) := f2
  obtain ⟨f3, hf⟩ := fc_un (show (24 : Nat) < 100 from by decide) hf
  have f3 : n_v vs 0 = n_v vs 2 := f3
  have q2 : n_v vs 2 = n_v vs 0 := f3.symm
  rw [q2] at f0
  rw [q2] at f1
  rw [q2] at f2
  have kz_0_11 : 0 ≤ w_fi ws (n_v vs 0) 11 ∧ w_fi ws (n_v vs 0) 11 ≤ 2000 := tv_rng (th_fd hD hth r0 (g := GG_150) rfl (k := 11) (t := (0, 0, 2000, [])) rfl rfl)
  have kz_0_12 : 0 ≤ w_fi ws (n_v vs 0) 12 ∧ w_fi ws (n_v vs 0) 12 ≤ 4 := tv_rng (th_fd hD hth r0 (g := GG_150) rfl (k := 12) (t := (0, 0, 4, [])) rfl rfl)
  have kz_0_15 : 0 ≤ w_fi ws (n_v vs 0) 15 ∧ w_fi ws (n_v vs 0) 15 ≤ 2000 := tv_rng (th_fd hD hth r0 (g := GG_150) rfl (k := 15) (t := (0, 0, 2000, [])) rfl rfl)
  have nf0 : fc_1 (20, [0, 0], [30, 0, 1, 1, 15, -1, 1, 11]) ws (vs) := by
    refine ⟨fun n hn => ?_, ?_⟩
    · have hn : n ∈ [0, 0] := hn
      rw [hl]
      simp only [List.mem_cons, List.not_mem_nil, or_false] at hn
      show n < 9; omega
    · show 1 * w_fi ws (n_v vs 0) 15 + ((-1) * w_fi ws (n_v vs 0) 11 + 0) ≤ 0
      omega
  have nf1 : fc_1 (20, [0], [50, 3, 0, 12, 11, 15, 2, 21, 4, 7, 1, 3, 2, 0, 12, 0, 1, 0, 3, 2, 0, 11, 4, 3, 2, 0, 15, 0, 8, 3, 7, 1, 3, 2, 0, 12, 0, 0, 0, 7, 4, 3, 2, 0, 15, 0, 1, 2, 0, 11]) ws (vs) := by
    refine ⟨fun n hn => ?_, ?_⟩
    · have hn : n ∈ [0] := hn
      rw [hl]
      simp only [List.mem_cons, List.not_mem_nil, or_false] at hn
      show n < 9; omega
    · show ((w_fi ws (n_v vs 0) 12 = 1) → (w_fi ws (n_v vs 0) 11 ≤ (w_fi ws (n_v vs 0) 15 + 8))) ∧ ((w_fi ws (n_v vs 0) 12 = 0) ∨ ((w_fi ws (n_v vs 0) 15 + 1) ≤ w_fi ws (n_v vs 0) 11))
      first | omega | grind
  have nf2 : fc_1 (20, [1, 0], [30, 0, 1, 0, 0, -1, 1, 15]) ws (vs) := by
    refine ⟨fun n hn => ?_, ?_⟩
    · have hn : n ∈ [1, 0] := hn
      rw [hl]
      simp only [List.mem_cons, List.not_mem_nil, or_false] at hn
      show n < 9; omega
    · show 1 * v_iv (n_v vs 1) + ((-1) * w_fi ws (n_v vs 0) 15 + 0) ≤ 0
      omega
  refine ⟨(fun _ h => (by cases h)), [], trivial, ?_, (fun _ h => (by cases h))⟩
  rw [List.append_nil]
  exact List.forall_mem_cons.mpr ⟨⟨show (20 : Nat) < 100 from by decide, nf0⟩, List.forall_mem_cons.mpr ⟨⟨show (20 : Nat) < 100 from by decide, nf1⟩, List.forall_mem_cons.mpr ⟨⟨show (20 : Nat) < 100 from by decide, nf2⟩, (fun _ h => (by cases h))⟩⟩⟩
def n_Mo_next_an : List an_T := [(0, [(0, (2, 0, 0, [150]))], [], (0, 0), [(0, 0, 100000), (1, 3, 2000), (0, 0, 100000)], [(1, 3, -1000000000000, 2000), (3, 1, -1000000000000, 2000)], [((0, 11), (0, 0, 2000, []))], [(2, 0, 0, [150]), (0, 0, 2000, [])], 0, [], [(20, [1, 2], [30, 0, 1, 0, 0, -1, 1, 11]), (24, [0, 2], [])]), (39, [(0, (2, 0, 0, [150]))], [], (0, 0), [(0, 0, 99961), (0, 0, 0), (0, 0, 0)], [(1, 3, -1000000000000, 2000), (3, 1, -1000000000000, 2000)], [((0, 11), (0, 0, 2000, []))], [(2, 0, 0, [150]), (0, 0, 2000, [])], 0, [], [(20, [1, 2], [30, 0, 1, 0, 0, -1, 1, 11]), (24, [0, 2], [])]), (93, [(0, (2, 0, 0, [150])), (1, (0, 65, 122, []))], [], (0, 0), [(0, 0, 99907), (1, 4, 2000), (0, 0, 100000)], [(1, 3, -1000000000000, 1935), (1, 4, -1000000000000, 2000), (3, 1, -1000000000000, 122), (3, 4, -1000000000000, 122), (4, 1, -1000000000000, 2000), (4, 3, -1000000000000, 1935)], [((0, 11), (0, 0, 2000, []))], [(2, 0, 0, [150]), (0, 0, 2000, [])], 0, [], [(20, [1, 2], [30, 0, 1, 0, 0, -1, 1, 15]), (20, [2], [50, 3, 1, 15, 11, 10, 1, 2, 8, 0, 3, 2, 0, 15, 2, 0, 11, 3, 12, 0, 7, 4, 3, 2, 0, 15, 0, 1, 2, 0, 11, 2, 8, 1, 3, 2, 0, 11, 2, 0, 15, 2, 12, 0, 7, 4, 3, 2, 0, 15, 0, 1, 2, 0, 10, 3, 30, 2, 14, 0, 2, 0, 65, 9, 6, 3, 0, 1, 2, 0, 15, 0, 256, 0, 10, 9, 6, 3, 0, 1, 2, 0, 15, 0, 256, 0, 90, 2, 14, 0, 2, 0, 97, 9, 6, 3, 0, 1, 2, 0, 15, 0, 256, 0, 10, 9, 6, 3, 0, 1, 2, 0, 15, 0, 256, 0, 122]), (24, [0, 2], [])]), (134, [(0, (2, 0, 0, [150])), (1, (0, 65, 122, []))], [], (0, 0), [(0, 0, 99907), (1, 4, 2000), (0, 0, 99866)], [(1, 3, -1000000000000, 1935), (1, 4, -1000000000000, 2000), (3, 1, -1000000000000, 122), (3, 4, -1000000000000, 122), (4, 1, -1000000000000, 1999), (4, 3, -1000000000000, 1934)], [((0, 11), (0, 0, 1999, []))], [(2, 0, 0, [150]), (0, 0, 2000, [])], 0, [], [(20, [1, 2], [30, 0, 1, 0, 0, -1, 1, 15]), (20, [2], [50, 3, 1, 15, 11, 10, 1, 2, 8, 0, 3, 2, 0, 15, 2, 0, 11, 3, 12, 0, 7, 4, 3, 2, 0, 15, 0, 1, 2, 0, 11, 2, 8, 1, 3, 2, 0, 11, 2, 0, 15, 2, 12, 0, 7, 4, 3, 2, 0, 15, 0, 1, 2, 0, 10, 3, 30, 2, 14, 0, 2, 0, 65, 9, 6, 3, 0, 1, 2, 0, 15, 0, 256, 0, 10, 9, 6, 3, 0, 1, 2, 0, 15, 0, 256, 0, 90, 2, 14, 0, 2, 0, 97, 9, 6, 3, 0, 1, 2, 0, 15, 0, 256, 0, 10, 9, 6, 3, 0, 1, 2, 0, 15, 0, 256, 0, 122]), (24, [0, 2], [])]), (147, [(0, (2, 0, 0, [150])), (1, (0, 65, 122, []))], [], (0, 0), [(0, 0, 99853), (0, 0, 0), (0, 0, 0)], [(1, 3, -1000000000000, 1935), (1, 4, -1000000000000, 2000), (3, 1, -1000000000000, 122), (3, 4, -1000000000000, 122), (4, 1, -1000000000000, 2000), (4, 3, -1000000000000, 1935)], [((0, 11), (0, 0, 2000, []))], [(2, 0, 0, [150]), (0, 0, 2000, [])], 0, [], [(20, [1, 2], [30, 0, 1, 0, 0, -1, 1, 15]), (20, [2], [50, 2, 0, 15, 11, 0, 7, 4, 3, 2, 0, 15, 0, 1, 2, 0, 11]), (24, [0, 2], [])]), (185, [(0, (2, 0, 0, [150])), (1, (0, 48, 57, []))], [], (0, 0), [(0, 0, 99815), (1, 5, 2000), (0, 0, 100000)], [(1, 3, -1000000000000, 1952), (1, 5, -1000000000000, 2000), (3, 1, -1000000000000, 57), (3, 5, -1000000000000, 57), (5, 1, -1000000000000, 2000), (5, 3, -1000000000000, 1952)], [((0, 14), (0, -2147483648, 2147483647, [])), ((0, 11), (0, 0, 2000, []))], [(2, 0, 0, [150]), (0, 0, 2000, [])], 0, [], [(20, [1, 2], [30, 0, 1, 0, 0, -1, 1, 15]), (20, [2], [50, 3, 1, 15, 11, 10, 1, 2, 8, 0, 3, 2, 0, 15, 2, 0, 11, 3, 12, 0, 7, 4, 3, 2, 0, 15, 0, 1, 2, 0, 11, 2, 8, 1, 3, 2, 0, 11, 2, 0, 15, 2, 12, 0, 7, 4, 3, 2, 0, 15, 0, 1, 2, 0, 10, 2, 14, 0, 2, 0, 48, 9, 6, 3, 0, 1, 2, 0, 15, 0, 256, 0, 10, 9, 6, 3, 0, 1, 2, 0, 15, 0, 256, 0, 57]), (24, [0, 2], [])]), (252, [(0, (2, 0, 0, [150])), (1, (0, 48, 57, []))], [], (0, 0), [(0, 0, 99748), (0, 0, 0), (0, 0, 0)], [(1, 3, -1000000000000, 1952), (1, 5, -1000000000000, 2000), (3, 1, -1000000000000, 57), (3, 5, -1000000000000, 57), (5, 1, -1000000000000, 2000), (5, 3, -1000000000000, 1952)], [((0, 14), (0, -2147483648, 2147483647, [])), ((0, 11), (0, 0, 2000, []))], [(2, 0, 0, [150]), (0, 0, 2000, [])], 0, [], [(20, [1, 2], [30, 0, 1, 0, 0, -1, 1, 15]), (20, [2], [50, 2, 0, 15, 11, 0, 7, 4, 3, 2, 0, 15, 0, 1, 2, 0, 11]), (24, [0, 2], [])]), (277, [(0, (2, 0, 0, [150])), (1, (0, 0, 255, []))], [], (0, 0), [(0, 0, 99723), (0, 0, 0), (0, 0, 0)], [(1, 3, -1000000000000, 2000), (1, 4, -1000000000000, 2000), (1, 5, -1000000000000, 1996), (1, 6, -1000000000000, 2000), (1, 7, -1000000000000, 2000), (1, 8, -1000000000000, 2000), (3, 4, -1000000000000, 0), (4, 3, -1000000000000, 0), (5, 1, -1000000000000, 4), (5, 3, -1000000000000, 4), (5, 4, -1000000000000, 4), (5, 6, -1000000000000, 4), (5, 7, -1000000000000, 4), (5, 8, -1000000000000, 4), (6, 1, -1000000000000, 1999), (6, 3, -1000000000000, 1999), (6, 4, -1000000000000, 1999), (6, 5, -1000000000000, 1995), (6, 7, -1000000000000, 0), (6, 8, -1000000000000, 0), (7, 1, -1000000000000, 1999), (7, 3, -1000000000000, 1999), (7, 4, -1000000000000, 1999), (7, 5, -1000000000000, 1995), (7, 6, -1000000000000, 0), (7, 8, -1000000000000, 0), (8, 1, -1000000000000, 1999), (8, 3, -1000000000000, 1999), (8, 4, -1000000000000, 1999), (8, 5, -1000000000000, 1995), (8, 6, -1000000000000, 0), (8, 7, -1000000000000, 0)], [((0, 14), (0, 0, 255, [])), ((0, 12), (0, 4, 4, [])), ((0, 15), (0, 0, 1999, [])), ((0, 13), (0, 0, 1999, [])), ((0, 11), (0, 0, 1999, []))], [(2, 0, 0, [150]), (0, 0, 2000, [])], 0, [], [(20, [1, 2], [30, 0, 1, 0, 0, -1, 1, 15]), (20, [2], [50, 2, 0, 11, 15, 1, 3, 2, 0, 11, 2, 0, 15]), (24, [0, 2], [])]), (325, [(0, (2, 0, 0, [150])), (1, (0, 45, 125, []))], [], (0, 0), [(0, 0, 99675), (0, 0, 0), (0, 0, 0)], [(1, 5, -1000000000000, 1996), (1, 6, -1000000000000, 2000), (1, 7, -1000000000000, 2000), (1, 8, -1000000000000, 2000), (3, 1, -1000000000000, 125), (3, 4, -1000000000000, 0), (3, 5, -1000000000000, 121), (3, 6, -1000000000000, 125), (3, 7, -1000000000000, 125), (3, 8, -1000000000000, 125), (4, 1, -1000000000000, 125), (4, 3, -1000000000000, 0), (4, 5, -1000000000000, 121), (4, 6, -1000000000000, 125), (4, 7, -1000000000000, 125), (4, 8, -1000000000000, 125), (5, 1, -1000000000000, 4), (5, 6, -1000000000000, 4), (5, 7, -1000000000000, 4), (5, 8, -1000000000000, 4), (6, 1, -1000000000000, 1999), (6, 5, -1000000000000, 1995), (6, 7, -1000000000000, 0), (6, 8, -1000000000000, 0), (7, 1, -1000000000000, 1999), (7, 5, -1000000000000, 1995), (7, 6, -1000000000000, 0), (7, 8, -1000000000000, 0), (8, 1, -1000000000000, 1999), (8, 5, -1000000000000, 1995), (8, 6, -1000000000000, 0), (8, 7, -1000000000000, 0)], [((0, 14), (0, 45, 125, [])), ((0, 12), (0, 4, 4, [])), ((0, 15), (0, 0, 1999, [])), ((0, 13), (0, 0, 1999, [])), ((0, 11), (0, 0, 1999, []))], [(2, 0, 0, [150]), (0, 0, 2000, [])], 0, [], [(20, [1, 2], [30, 0, 1, 0, 0, -1, 1, 15]), (20, [2], [50, 2, 0, 11, 15, 1, 3, 2, 0, 11, 2, 0, 15]), (24, [0, 2], [])]), (330, [(0, (2, 0, 0, [150])), (1, (0, 0, 255, []))], [(0, 0, 1, [])], (0, 0), [(0, 0, 99670), (0, 0, 0), (0, 0, 0)], [(1, 3, -1000000000000, 2000), (1, 4, -1000000000000, 2000), (1, 5, -1000000000000, 2000), (1, 6, -1000000000000, 1996), (1, 7, -1000000000000, 2000), (1, 8, -1000000000000, 2000), (1, 9, -1000000000000, 2000), (3, 1, -1000000000000, 255), (3, 4, -1000000000000, 255), (3, 5, -1000000000000, 0), (3, 6, -1000000000000, 251), (3, 7, -1000000000000, 255), (3, 8, -1000000000000, 255), (3, 9, -1000000000000, 255), (4, 1, -1000000000000, 1), (4, 3, -1000000000000, 0), (4, 5, -1000000000000, 0), (4, 6, -1000000000000, -3), (4, 7, -1000000000000, 1), (4, 8, -1000000000000, 1), (4, 9, -1000000000000, 1), (5, 1, -1000000000000, 255), (5, 3, -1000000000000, 0), (5, 4, -1000000000000, 255), (5, 6, -1000000000000, 251), (5, 7, -1000000000000, 255), (5, 8, -1000000000000, 255), (5, 9, -1000000000000, 255), (6, 1, -1000000000000, 4), (6, 3, -1000000000000, 4), (6, 4, -1000000000000, 4), (6, 5, -1000000000000, 4), (6, 7, -1000000000000, 4), (6, 8, -1000000000000, 4), (6, 9, -1000000000000, 4), (7, 1, -1000000000000, 1999), (7, 3, -1000000000000, 1999), (7, 4, -1000000000000, 1999), (7, 5, -1000000000000, 1999), (7, 6, -1000000000000, 1995), (7, 8, -1000000000000, 0), (7, 9, -1000000000000, 0), (8, 1, -1000000000000, 1999), (8, 3, -1000000000000, 1999), (8, 4, -1000000000000, 1999), (8, 5, -1000000000000, 1999), (8, 6, -1000000000000, 1995), (8, 7, -1000000000000, 0), (8, 9, -1000000000000, 0), (9, 1, -1000000000000, 1999), (9, 3, -1000000000000, 1999), (9, 4, -1000000000000, 1999), (9, 5, -1000000000000, 1999), (9, 6, -1000000000000, 1995), (9, 7, -1000000000000, 0), (9, 8, -1000000000000, 0)], [((0, 14), (0, 0, 255, [])), ((0, 12), (0, 4, 4, [])), ((0, 15), (0, 0, 1999, [])), ((0, 13), (0, 0, 1999, [])), ((0, 11), (0, 0, 1999, []))], [(2, 0, 0, [150]), (0, 0, 2000, [])], 0, [], [(20, [1, 2], [30, 0, 1, 0, 0, -1, 1, 15]), (20, [2], [50, 2, 0, 11, 15, 1, 3, 2, 0, 11, 2, 0, 15]), (24, [0, 2], [])]), (354, [(0, (2, 0, 0, [150])), (1, (0, -1, 255, []))], [], (0, 0), [(0, 0, 99646), (0, 0, 0), (0, 0, 0)], [(1, 3, -1000000000000, 2001), (1, 4, -1000000000000, 2000), (1, 5, -1000000000000, 2147485648), (1, 6, -1000000000000, 2000), (1, 7, -1000000000000, 2000), (1, 8, -1000000000000, 2000), (3, 1, -1000000000000, 255), (3, 4, -1000000000000, 252), (3, 5, -1000000000000, 2147483770), (3, 6, -1000000000000, 255), (3, 7, -1000000000000, 255), (3, 8, -1000000000000, 254), (4, 1, -1000000000000, 4), (4, 3, -1000000000000, 4), (4, 5, -1000000000000, 2147483652), (4, 6, -1000000000000, 4), (4, 7, -1000000000000, 4), (4, 8, -1000000000000, 3), (5, 1, -1000000000000, 2147483647), (5, 3, -1000000000000, 2147483599), (5, 6, -1000000000000, 2147483647), (5, 7, -1000000000000, 2147483647), (6, 1, -1000000000000, 2000), (6, 3, -1000000000000, 2001), (6, 4, -1000000000000, 2000), (6, 5, -1000000000000, 2147485648), (6, 7, -1000000000000, 2000), (6, 8, -1000000000000, 2000), (7, 1, -1000000000000, 2000), (7, 3, -1000000000000, 2001), (7, 4, -1000000000000, 2000), (7, 5, -1000000000000, 2147485648), (7, 6, -1000000000000, 2000), (7, 8, -1000000000000, 2000), (8, 1, -1000000000000, 2000), (8, 3, -1000000000000, 2001), (8, 4, -1000000000000, 2000), (8, 5, -1000000000000, 2147485648)], [((0, 12), (0, 0, 4, [])), ((0, 14), (0, -2147483648, 2147483647, [])), ((0, 15), (0, 0, 2000, [])), ((0, 13), (0, 0, 2000, [])), ((0, 11), (0, 0, 2000, []))], [(2, 0, 0, [150]), (0, 0, 2000, [])], 0, [], [(20, [1, 2], [30, 0, 1, 0, 0, -1, 1, 15]), (20, [2, 2], [30, 0, 1, 1, 15, -1, 1, 11]), (20, [2], [50, 3, 0, 12, 11, 15, 2, 21, 4, 7, 1, 3, 2, 0, 12, 0, 1, 0, 3, 2, 0, 11, 4, 3, 2, 0, 15, 0, 8, 3, 7, 1, 3, 2, 0, 12, 0, 0, 0, 7, 4, 3, 2, 0, 15, 0, 1, 2, 0, 11]), (24, [0, 2], [])])]
def t_Mo_next_ct : ct_L := [(0, 440, e_Mo_isLetter), (0, 444, e_Mo_isDigit), (1, 425, e_Mo_byteAt)]
set_option maxRecDepth 100000 in
theorem c_Mo_next {l : Launch} {D : va_G} {kA : Nat → ClassId} (h_Mo_byteAt : ct_ok l D kA GG y_Mo_byteAt z_Mo_byteAt e_Mo_byteAt) (h_Mo_isDigit : ct_ok l D kA GG y_Mo_isDigit z_Mo_isDigit e_Mo_isDigit) (h_Mo_isLetter : ct_ok l D kA GG y_Mo_isLetter z_Mo_isLetter e_Mo_isLetter) : ct_ok l D kA GG y_Mo_next z_Mo_next e_Mo_next := chk_all_ok (FT := [(422, 13, 11), (431, 13, 15), (437, 13, 14)]) (PT := [(422, 13, 11, .int), (428, 13, 13, .int), (431, 13, 15, .int), (434, 13, 12, .int), (437, 13, 14, .int)]) (CT := t_Mo_next_ct) (KT := [(1, 447, .int (99999), (0, 99999, 99999, []))]) (NT := []) (AN := n_Mo_next_an) (OT := [o_Mo_next_0, o_Mo_next_1, o_Mo_next_2, o_Mo_next_3, o_Mo_next_4, o_Mo_next_5, o_Mo_next_6, o_Mo_next_7, o_Mo_next_8, o_Mo_next_9, o_Mo_next_10, o_Mo_next_11, o_Mo_next_12, o_Mo_next_13, o_Mo_next_14, o_Mo_next_15, o_Mo_next_16, o_Mo_next_17, o_Mo_next_18, o_Mo_next_19, o_Mo_next_20, o_Mo_next_21, o_Mo_next_22, o_Mo_next_23, o_Mo_next_24, o_Mo_next_25, o_Mo_next_26, o_Mo_next_27, o_Mo_next_28, o_Mo_next_29, o_Mo_next_30, o_Mo_next_31, o_Mo_next_32, o_Mo_next_33, o_Mo_next_34, o_Mo_next_35, o_Mo_next_36, o_Mo_next_37, o_Mo_next_38, o_Mo_next_39, o_Mo_next_40, o_Mo_next_41, o_Mo_next_42, o_Mo_next_43, o_Mo_next_44, o_Mo_next_45, o_Mo_next_46, o_Mo_next_47, o_Mo_next_48, o_Mo_next_49]) 3 1560 (List.forall_mem_cons.mpr ⟨oo_Mo_next_0, List.forall_mem_cons.mpr ⟨oo_Mo_next_1, List.forall_mem_cons.mpr ⟨oo_Mo_next_2, List.forall_mem_cons.mpr ⟨oo_Mo_next_3, List.forall_mem_cons.mpr ⟨oo_Mo_next_4, List.forall_mem_cons.mpr ⟨oo_Mo_next_5, List.forall_mem_cons.mpr ⟨oo_Mo_next_6, List.forall_mem_cons.mpr ⟨oo_Mo_next_7, List.forall_mem_cons.mpr ⟨oo_Mo_next_8, List.forall_mem_cons.mpr ⟨oo_Mo_next_9, List.forall_mem_cons.mpr ⟨oo_Mo_next_10, List.forall_mem_cons.mpr ⟨oo_Mo_next_11, List.forall_mem_cons.mpr ⟨oo_Mo_next_12, List.forall_mem_cons.mpr ⟨oo_Mo_next_13, List.forall_mem_cons.mpr ⟨oo_Mo_next_14, List.forall_mem_cons.mpr ⟨oo_Mo_next_15, List.forall_mem_cons.mpr ⟨oo_Mo_next_16, List.forall_mem_cons.mpr ⟨oo_Mo_next_17, List.forall_mem_cons.mpr ⟨oo_Mo_next_18, List.forall_mem_cons.mpr ⟨oo_Mo_next_19, List.forall_mem_cons.mpr ⟨oo_Mo_next_20, List.forall_mem_cons.mpr ⟨oo_Mo_next_21, List.forall_mem_cons.mpr ⟨oo_Mo_next_22, List.forall_mem_cons.mpr ⟨oo_Mo_next_23, List.forall_mem_cons.mpr ⟨oo_Mo_next_24, List.forall_mem_cons.mpr ⟨oo_Mo_next_25, List.forall_mem_cons.mpr ⟨oo_Mo_next_26, List.forall_mem_cons.mpr ⟨oo_Mo_next_27, List.forall_mem_cons.mpr ⟨oo_Mo_next_28, List.forall_mem_cons.mpr ⟨oo_Mo_next_29, List.forall_mem_cons.mpr ⟨oo_Mo_next_30, List.forall_mem_cons.mpr ⟨oo_Mo_next_31, List.forall_mem_cons.mpr ⟨oo_Mo_next_32, List.forall_mem_cons.mpr ⟨oo_Mo_next_33, List.forall_mem_cons.mpr ⟨oo_Mo_next_34, List.forall_mem_cons.mpr ⟨oo_Mo_next_35, List.forall_mem_cons.mpr ⟨oo_Mo_next_36, List.forall_mem_cons.mpr ⟨oo_Mo_next_37, List.forall_mem_cons.mpr ⟨oo_Mo_next_38, List.forall_mem_cons.mpr ⟨oo_Mo_next_39, List.forall_mem_cons.mpr ⟨oo_Mo_next_40, List.forall_mem_cons.mpr ⟨oo_Mo_next_41, List.forall_mem_cons.mpr ⟨oo_Mo_next_42, List.forall_mem_cons.mpr ⟨oo_Mo_next_43, List.forall_mem_cons.mpr ⟨oo_Mo_next_44, List.forall_mem_cons.mpr ⟨oo_Mo_next_45, List.forall_mem_cons.mpr ⟨oo_Mo_next_46, List.forall_mem_cons.mpr ⟨oo_Mo_next_47, List.forall_mem_cons.mpr ⟨oo_Mo_next_48, List.forall_mem_cons.mpr ⟨oo_Mo_next_49, List.forall_mem_nil _⟩⟩⟩⟩⟩⟩⟩⟩⟩⟩⟩⟩⟩⟩⟩⟩⟩⟩⟩⟩⟩⟩⟩⟩⟩⟩⟩⟩⟩⟩⟩⟩⟩⟩⟩⟩⟩⟩⟩⟩⟩⟩⟩⟩⟩⟩⟩⟩⟩⟩) (by decide +kernel) ⟨List.forall_mem_cons.mpr ⟨gf_Mo_422, List.forall_mem_cons.mpr ⟨gf_Mo_431, List.forall_mem_cons.mpr ⟨gf_Mo_437, List.forall_mem_nil _⟩⟩⟩, List.forall_mem_cons.mpr ⟨pf_Mo_422, List.forall_mem_cons.mpr ⟨pf_Mo_428, List.forall_mem_cons.mpr ⟨pf_Mo_431, List.forall_mem_cons.mpr ⟨pf_Mo_434, List.forall_mem_cons.mpr ⟨pf_Mo_437, List.forall_mem_nil _⟩⟩⟩⟩⟩, List.forall_mem_cons.mpr ⟨cl_static (y := y_Mo_isLetter) h_Mo_isLetter wm_2989 wm_9 wm_2987 wm_2988 ⟨by decide, by decide, by decide +kernel⟩ (by decide), List.forall_mem_cons.mpr ⟨cl_static (y := y_Mo_isDigit) h_Mo_isDigit wm_2992 wm_9 wm_2990 wm_2991 ⟨by decide, by decide, by decide +kernel⟩ (by decide), List.forall_mem_cons.mpr ⟨cl_virtual (y := y_Mo_byteAt) (ci := 13) rfl rfl ⟨_, _, rfl⟩ (by decide +kernel) h_Mo_byteAt wm_2986 wm_9 wm_2983 wm_2985 wv_12_12 ⟨by decide, by decide, by decide +kernel⟩ (by decide), List.forall_mem_nil _⟩⟩⟩, List.forall_mem_cons.mpr ⟨kx_Mo_1_447, List.forall_mem_nil _⟩, List.forall_mem_nil _, GG_pl⟩ (by decide +kernel)
def o_Ro_findCosts_0 : or_T := (28, 7, [(0, (2, 0, 0, [9])), (2, (0, 0, 0, [])), (5, (2, 0, 0, [113])), (6, (0, -1, -1, []))], [(9, [5, 0], [11]), (9, [2, 0], [14]), (20, [0], [50, 2, 0, 4, 5, 2, 7, 0, 2, 0, 1, 2, 0, 4, 2, 7, 0, 2, 0, 1, 2, 0, 5, 0, 8, 6, 3, 2, 0, 4, 2, 0, 5, 0, 6000]), (20, [0], [50, 3, 0, 7, 4, 5, 0, 7, 4, 3, 2, 0, 7, 0, 1, 6, 3, 2, 0, 4, 2, 0, 5]), (20, [5, 6], [8, -1, -1, 5]), (102, [6], [10384593717069655257060992658440192]), (102, [4], [5192296858534827628530496329220096]), (101, [0, 2], [14])], [], [], [(20, [0], [50, 3, 3, 14, 4, 5, 11, 12, 13, 2, 18, 5, 2, 0, 4, 0, 9, 4, 5, 3, 0, 11, 7, 0, 0, 1, 2, 0, 14, 5, 3, 2, 0, 14, 2, 23, 0, 9, 4, 5, 3, 0, 12, 7, 0, 0, 1, 6, 2, 0, 4, 6, 3, 2, 0, 4, 2, 0, 5, 0, 9, 4, 5, 3, 0, 13, 7, 0, 0, 1, 2, 0, 14])], [], [])
set_option maxHeartbeats 8000000 in
theorem oo_Ro_findCosts_0 {kA : Nat → ClassId} : or_ok kA GG o_Ro_findCosts_0 := by
  intro A ta ws vs hD hth hl hk hds hf
  have hl : vs.length = 7 := hl
  have hk : ∀ q ∈ ([(0, (2, 0, 0, [9])), (2, (0, 0, 0, [])), (5, (2, 0, 0, [113])), (6, (0, -1, -1, []))] : List (Nat × tv_T)), tv_ok ta q.2 (n_v vs q.1) := hk
  obtain ⟨t0, hk⟩ := List.forall_mem_cons.mp hk
  have t0 : tv_ok ta (2, 0, 0, [9]) (n_v vs 0) := t0
  have r0 : ta (v_ad (n_v vs 0)) = some 9 := tv_rg t0
  obtain ⟨t2, hk⟩ := List.forall_mem_cons.mp hk
  have t2 : tv_ok ta (0, 0, 0, []) (n_v vs 2) := t2
  have k2 : 0 ≤ v_iv (n_v vs 2) ∧ v_iv (n_v vs 2) ≤ 0 := tv_rng t2
  obtain ⟨t5, hk⟩ := List.forall_mem_cons.mp hk
  have t5 : tv_ok ta (2, 0, 0, [113]) (n_v vs 5) := t5
  have r5 : ta (v_ad (n_v vs 5)) = some 113 := tv_rg t5
  obtain ⟨t6, hk⟩ := List.forall_mem_cons.mp hk
  have t6 : tv_ok ta (0, -1, -1, []) (n_v vs 6) := t6
  have k6 : (-1) ≤ v_iv (n_v vs 6) ∧ v_iv (n_v vs 6) ≤ (-1) := tv_rng t6
  have hf : fc_ok [(9, [5, 0], [11]), (9, [2, 0], [14]), (20, [0], [50, 2, 0, 4, 5, 2, 7, 0, 2, 0, 1, 2, 0, 4, 2, 7, 0, 2, 0, 1, 2, 0, 5, 0, 8, 6, 3, 2, 0, 4, 2, 0, 5, 0, 6000]), (20, [0], [50, 3, 0, 7, 4, 5, 0, 7, 4, 3, 2, 0, 7, 0, 1, 6, 3, 2, 0, 4, 2, 0, 5]), (20, [5, 6], [8, -1, -1, 5]), (102, [6], [10384593717069655257060992658440192]), (102, [4], [5192296858534827628530496329220096]), (101, [0, 2], [14])] ta ws vs := hf
  obtain ⟨f0, hf⟩ := fc_un (show (9 : Nat) < 100 from by decide) hf
  have f0 : n_v vs 5 = w_fd ws (v_ad (n_v vs 0)) 11 := f0
  obtain ⟨f1, hf⟩ := fc_un (show (9 : Nat) < 100 from by decide) hf
  have f1 : n_v vs 2 = w_fd ws (v_ad (n_v vs 0)) 14 := f1
  obtain ⟨f2, hf⟩ := fc_un (show (20 : Nat) < 100 from by decide) hf
  have f2 : (1 ≤ w_fi ws (n_v vs 0) 4) ∧ ((1 ≤ w_fi ws (n_v vs 0) 5) ∧ ((w_fi ws (n_v vs 0) 4 * w_fi ws (n_v vs 0) 5) ≤ 6000)) := f2
  obtain ⟨f3, hf⟩ := fc_un (show (20 : Nat) < 100 from by decide) hf
  have f3 : (w_fi ws (n_v vs 0) 7 + 1) ≤ (w_fi ws (n_v vs 0) 4 * w_fi ws (n_v vs 0) 5) := f3
  obtain ⟨f4, hf⟩ := fc_un (show (20 : Nat) < 100 from by decide) hf
  have f4 : ∀ j : Nat, (j : Int) < v_iv (n_v vs 6) + 5 → (-1) ≤ w_el ws (v_ad (n_v vs 5)) j ∧ w_el ws (v_ad (n_v vs 5)) j ≤ (-1) := f4
  obtain ⟨ta1, w1, le1, ⟨_, s1⟩, hf⟩ := fc_us (show ¬ (102 : Nat) < 100 from by decide) hf
  obtain ⟨ta2, w2, le2, ⟨_, s2⟩, hf⟩ := fc_us (show ¬ (102 : Nat) < 100 from by decide) hf
  obtain ⟨ta3, w3, le3, ⟨_, s3⟩, hf⟩ := fc_us (show ¬ (101 : Nat) < 100 from by decide) hf
  have s3 : (∀ b j, w_el w2 b j = w_el w3 b j) ∧ ∀ b j, w_fd w2 b j = if b = v_ad (n_v vs 0) ∧ j = 14 then n_v vs 2 else w_fd w3 b j := s3
  have cr_0_11 : ta (w_ar ws (n_v vs 0) 11) = some 113 := tv_rg (th_fd hD hth r0 (g := GG_9) rfl (k := 11) (t := (2, 0, 0, [113])) rfl rfl)
  have cr_0_12 : ta (w_ar ws (n_v vs 0) 12) = some 114 := tv_rg (th_fd hD hth r0 (g := GG_9) rfl (k := 12) (t := (2, 0, 0, [114])) rfl rfl)
  have cr_0_13 : ta (w_ar ws (n_v vs 0) 13) = some 115 := tv_rg (th_fd hD hth r0 (g := GG_9) rfl (k := 13) (t := (2, 0, 0, [115])) rfl rfl)
  have ad_5 : v_ad (n_v vs 5) = w_ar ws (n_v vs 0) 11 := congrArg v_ad f0
  have g1 : v_iv (n_v vs 2) = w_fi ws (n_v vs 0) 14 := congrArg v_iv f1
  have hT4 : ∀ j : Int, 0 ≤ j → j < v_iv (n_v vs 6) + 5 → (-1) ≤ w_ei ws (w_ar ws (n_v vs 0) 11) j ∧ w_ei ws (w_ar ws (n_v vs 0) 11) j ≤ (-1) := fun j h0 h1 => by have h2 := f4 j.toNat (by omega); rw [ad_5] at h2; exact h2
  have hK_0_11 : ∀ j : Int, 0 ≤ j → j < 4 → (-1) ≤ w_ei ws (w_ar ws (n_v vs 0) 11) j ∧ w_ei ws (w_ar ws (n_v vs 0) 11) j ≤ 48003 := fun j h0 h1 => th_el hD hth cr_0_11 (kd := 0) (n := 4) (m := 4) (lo := (-1)) (hi := 48003) (rs := []) (L := []) rfl (by decide) (j := j.toNat) (by omega)
  have hK_0_12 : ∀ j : Int, 0 ≤ j → j < 48004 → 0 ≤ w_ei ws (w_ar ws (n_v vs 0) 12) j ∧ w_ei ws (w_ar ws (n_v vs 0) 12) j ≤ 23999 := fun j h0 h1 => th_el hD hth cr_0_12 (kd := 0) (n := 48004) (m := 48004) (lo := 0) (hi := 23999) (rs := []) (L := []) rfl (by decide) (j := j.toNat) (by omega)
  have hK_0_13 : ∀ j : Int, 0 ≤ j → j < 48004 → (-1) ≤ w_ei ws (w_ar ws (n_v vs 0) 13) j ∧ w_ei ws (w_ar ws (n_v vs 0) 13) j ≤ 48003 := fun j h0 h1 => th_el hD hth cr_0_13 (kd := 0) (n := 48004) (m := 48004) (lo := (-1)) (hi := 48003) (rs := []) (L := []) rfl (by decide) (j := j.toNat) (by omega)
  have kz_0_4 : (-2147483648) ≤ w_fi ws (n_v vs 0) 4 ∧ w_fi ws (n_v vs 0) 4 ≤ 2147483647 := tv_rng (th_fd hD hth r0 (g := GG_9) rfl (k := 4) (t := (0, -2147483648, 2147483647, [])) rfl rfl)
  have kz_0_5 : (-2147483648) ≤ w_fi ws (n_v vs 0) 5 ∧ w_fi ws (n_v vs 0) 5 ≤ 2147483647 := tv_rng (th_fd hD hth r0 (g := GG_9) rfl (k := 5) (t := (0, -2147483648, 2147483647, [])) rfl rfl)
  have kz_0_7 : 0 ≤ w_fi ws (n_v vs 0) 7 ∧ w_fi ws (n_v vs 0) 7 ≤ 5999 := tv_rng (th_fd hD hth r0 (g := GG_9) rfl (k := 7) (t := (0, 0, 5999, [])) rfl rfl)
  have kz_0_14 : 0 ≤ w_fi ws (n_v vs 0) 14 ∧ w_fi ws (n_v vs 0) 14 ≤ 48004 := tv_rng (th_fd hD hth r0 (g := GG_9) rfl (k := 14) (t := (0, 0, 48004, [])) rfl rfl)
  have nf0 : fc_1 (20, [0], [50, 3, 3, 14, 4, 5, 11, 12, 13, 2, 18, 5, 2, 0, 4, 0, 9, 4, 5, 3, 0, 11, 7, 0, 0, 1, 2, 0, 14, 5, 3, 2, 0, 14, 2, 23, 0, 9, 4, 5, 3, 0, 12, 7, 0, 0, 1, 6, 2, 0, 4, 6, 3, 2, 0, 4, 2, 0, 5, 0, 9, 4, 5, 3, 0, 13, 7, 0, 0, 1, 2, 0, 14]) ws (vs) := by
    refine ⟨fun n hn => ?_, ?_⟩
    · have hn : n ∈ [0] := hn
      rw [hl]
      simp only [List.mem_cons, List.not_mem_nil, or_false] at hn
      show n < 7; omega
    · show (∀ j0 : Int, 0 ≤ j0 → j0 < 4 → ((w_ei ws (w_ar ws (n_v vs 0) 11) (j0) + 1) ≤ w_fi ws (n_v vs 0) 14)) ∧ (∀ j0 : Int, 0 ≤ j0 → j0 < w_fi ws (n_v vs 0) 14 → (((w_ei ws (w_ar ws (n_v vs 0) 12) (j0) + 1) ≤ (4 * (w_fi ws (n_v vs 0) 4 * w_fi ws (n_v vs 0) 5))) ∧ ((w_ei ws (w_ar ws (n_v vs 0) 13) (j0) + 1) ≤ w_fi ws (n_v vs 0) 14)))
      first | omega | (exact ⟨by (intro j0 hj00 hj01; (first | have i1 := hT4 (j0) hj00 | skip); (first | have i2 := hK_0_11 (j0) hj00 | skip); (first | have i3 := hK_0_12 (j0) hj00 | skip); (first | have i4 := hK_0_13 (j0) hj00 | skip); omega), by (intro j0 hj00 hj01; exact ⟨by ((first | have i5 := hT4 (j0) hj00 | skip); (first | have i6 := hK_0_11 (j0) hj00 | skip); (first | have i7 := hK_0_12 (j0) hj00 | skip); (first | have i8 := hK_0_13 (j0) hj00 | skip); omega), by ((first | have i9 := hT4 (j0) hj00 | skip); (first | have i10 := hK_0_11 (j0) hj00 | skip); (first | have i11 := hK_0_12 (j0) hj00 | skip); (first | have i12 := hK_0_13 (j0) hj00 | skip); omega)⟩)⟩) | (set_option maxHeartbeats 200000 in grind)
  refine ⟨(fun _ h => (by cases h)), [], trivial, ?_, (fun _ h => (by cases h))⟩
  rw [List.append_nil]
  exact List.forall_mem_cons.mpr ⟨⟨show (20 : Nat) < 100 from by decide, nf0⟩, (fun _ h => (by cases h))⟩
def o_Ro_findCosts_1 : or_T := (58, 8, [(0, (2, 0, 0, [9])), (1, (0, 0, 3, [])), (2, (0, 4, 4, [])), (3, (0, 4, 4, [])), (4, (0, 0, 5999, [])), (5, (0, 0, 23996, [])), (6, (0, 0, 23999, []))], [(1, [6, 5, 1], []), (3, [5, 3, 4], []), (9, [4, 0], [7]), (7, [1, 2], [2]), (20, [0], [50, 3, 3, 14, 4, 5, 11, 12, 13, 2, 18, 5, 2, 0, 4, 0, 9, 4, 5, 3, 0, 11, 7, 0, 0, 1, 2, 0, 14, 5, 3, 2, 0, 14, 2, 23, 0, 9, 4, 5, 3, 0, 12, 7, 0, 0, 1, 6, 2, 0, 4, 6, 3, 2, 0, 4, 2, 0, 5, 0, 9, 4, 5, 3, 0, 13, 7, 0, 0, 1, 2, 0, 14]), (20, [0], [50, 2, 0, 4, 5, 2, 7, 0, 2, 0, 1, 2, 0, 4, 2, 7, 0, 2, 0, 1, 2, 0, 5, 0, 8, 6, 3, 2, 0, 4, 2, 0, 5, 0, 6000]), (20, [0], [50, 3, 0, 7, 4, 5, 0, 7, 4, 3, 2, 0, 7, 0, 1, 6, 3, 2, 0, 4, 2, 0, 5])], [], [(0, 0, 48004, [])], [(20, [0], [50, 3, 3, 14, 4, 5, 11, 12, 13, 2, 18, 5, 2, 0, 4, 0, 9, 4, 5, 3, 0, 11, 7, 0, 0, 1, 2, 0, 14, 5, 3, 2, 0, 14, 2, 23, 0, 9, 4, 5, 3, 0, 12, 7, 0, 0, 1, 6, 2, 0, 4, 6, 3, 2, 0, 4, 2, 0, 5, 0, 9, 4, 5, 3, 0, 13, 7, 0, 0, 1, 2, 0, 14]), (20, [6, 0], [50, 2, 0, 1004, 1005, 0, 6, 4, 2, 1, 0, 0, 1, 6, 2, 0, 4, 6, 3, 2, 1, 4, 2, 1, 5]), (20, [0, 8], [30, 0, 1, 1, 14, -1, 0, 0]), (20, [0, 8], [30, 0, -1, 1, 14, 1, 0, 0])], [], [(6, 1, 0, 23996), (6, 5, 0, 3)])
set_option maxHeartbeats 8000000 in
theorem oo_Ro_findCosts_1 {kA : Nat → ClassId} : or_ok kA GG o_Ro_findCosts_1 := by
  intro A ta ws vs hD hth hl hk hds hf
  have hl : vs.length = 8 := hl
  have hk : ∀ q ∈ ([(0, (2, 0, 0, [9])), (1, (0, 0, 3, [])), (2, (0, 4, 4, [])), (3, (0, 4, 4, [])), (4, (0, 0, 5999, [])), (5, (0, 0, 23996, [])), (6, (0, 0, 23999, []))] : List (Nat × tv_T)), tv_ok ta q.2 (n_v vs q.1) := hk
  obtain ⟨t0, hk⟩ := List.forall_mem_cons.mp hk
  have t0 : tv_ok ta (2, 0, 0, [9]) (n_v vs 0) := t0
  have r0 : ta (v_ad (n_v vs 0)) = some 9 := tv_rg t0
  obtain ⟨t1, hk⟩ := List.forall_mem_cons.mp hk
  have t1 : tv_ok ta (0, 0, 3, []) (n_v vs 1) := t1
  have k1 : 0 ≤ v_iv (n_v vs 1) ∧ v_iv (n_v vs 1) ≤ 3 := tv_rng t1
  obtain ⟨t2, hk⟩ := List.forall_mem_cons.mp hk
  have t2 : tv_ok ta (0, 4, 4, []) (n_v vs 2) := t2
  have k2 : 4 ≤ v_iv (n_v vs 2) ∧ v_iv (n_v vs 2) ≤ 4 := tv_rng t2
  obtain ⟨t3, hk⟩ := List.forall_mem_cons.mp hk
  have t3 : tv_ok ta (0, 4, 4, []) (n_v vs 3) := t3
  have k3 : 4 ≤ v_iv (n_v vs 3) ∧ v_iv (n_v vs 3) ≤ 4 := tv_rng t3
  obtain ⟨t4, hk⟩ := List.forall_mem_cons.mp hk
  have t4 : tv_ok ta (0, 0, 5999, []) (n_v vs 4) := t4
  have k4 : 0 ≤ v_iv (n_v vs 4) ∧ v_iv (n_v vs 4) ≤ 5999 := tv_rng t4
  obtain ⟨t5, hk⟩ := List.forall_mem_cons.mp hk
  have t5 : tv_ok ta (0, 0, 23996, []) (n_v vs 5) := t5
  have k5 : 0 ≤ v_iv (n_v vs 5) ∧ v_iv (n_v vs 5) ≤ 23996 := tv_rng t5
  obtain ⟨t6, hk⟩ := List.forall_mem_cons.mp hk
  have t6 : tv_ok ta (0, 0, 23999, []) (n_v vs 6) := t6
  have k6 : 0 ≤ v_iv (n_v vs 6) ∧ v_iv (n_v vs 6) ≤ 23999 := tv_rng t6
  have hds : ∀ q ∈ ([(6, 1, 0, 23996), (6, 5, 0, 3)] : List of_T), n_iv vs q.2.1 + q.2.2.1 ≤ n_iv vs q.1 ∧ n_iv vs q.1 ≤ n_iv vs q.2.1 + q.2.2.2 := hds
  obtain ⟨d0, hds⟩ := List.forall_mem_cons.mp hds
  have d0 : v_iv (n_v vs 1) + 0 ≤ v_iv (n_v vs 6) ∧ v_iv (n_v vs 6) ≤ v_iv (n_v vs 1) + 23996 := d0
  obtain ⟨d1, hds⟩ := List.forall_mem_cons.mp hds
  have d1 : v_iv (n_v vs 5) + 0 ≤ v_iv (n_v vs 6) ∧ v_iv (n_v vs 6) ≤ v_iv (n_v vs 5) + 3 := d1
  have hf : fc_ok [(1, [6, 5, 1], []), (3, [5, 3, 4], []), (9, [4, 0], [7]), (7, [1, 2], [2]), (20, [0], [50, 3, 3, 14, 4, 5, 11, 12, 13, 2, 18, 5, 2, 0, 4, 0, 9, 4, 5, 3, 0, 11, 7, 0, 0, 1, 2, 0, 14, 5, 3, 2, 0, 14, 2, 23, 0, 9, 4, 5, 3, 0, 12, 7, 0, 0, 1, 6, 2, 0, 4, 6, 3, 2, 0, 4, 2, 0, 5, 0, 9, 4, 5, 3, 0, 13, 7, 0, 0, 1, 2, 0, 14]), (20, [0], [50, 2, 0, 4, 5, 2, 7, 0, 2, 0, 1, 2, 0, 4, 2, 7, 0, 2, 0, 1, 2, 0, 5, 0, 8, 6, 3, 2, 0, 4, 2, 0, 5, 0, 6000]), (20, [0], [50, 3, 0, 7, 4, 5, 0, 7, 4, 3, 2, 0, 7, 0, 1, 6, 3, 2, 0, 4, 2, 0, 5])] ta ws vs := hf
  obtain ⟨f0, hf⟩ := fc_un (show (1 : Nat) < 100 from by decide) hf
  have f0 : v_iv (n_v vs 6) = v_iv (n_v vs 5) + v_iv (n_v vs 1) := f0
  obtain ⟨f1, hf⟩ := fc_un (show (3 : Nat) < 100 from by decide) hf
  have f1 : v_iv (n_v vs 5) = v_iv (n_v vs 3) * v_iv (n_v vs 4) := f1
  rw [show v_iv (n_v vs 3) = 4 from by omega] at f1
  obtain ⟨f2, hf⟩ := fc_un (show (9 : Nat) < 100 from by decide) hf
  have f2 : n_v vs 4 = w_fd ws (v_ad (n_v vs 0)) 7 := f2
  obtain ⟨f3, hf⟩ := fc_un (show (7 : Nat) < 100 from by decide) hf
  have f3 : v_iv (n_v vs 1) < v_iv (n_v vs 2) := f3
  obtain ⟨f4, hf⟩ := fc_un (show (20 : Nat) < 100 from by decide) hf
  have f4 : (∀ j0 : Int, 0 ≤ j0 → j0 < 4 → ((w_ei ws (w_ar ws (n_v vs 0) 11) (j0) + 1) ≤ w_fi ws (n_v vs 0) 14)) ∧ (∀ j0 : Int, 0 ≤ j0 → j0 < w_fi ws (n_v vs 0) 14 → (((w_ei ws (w_ar ws (n_v vs 0) 12) (j0) + 1) ≤ (4 * (w_fi ws (n_v vs 0) 4 * w_fi ws (n_v vs 0) 5))) ∧ ((w_ei ws (w_ar ws (n_v vs 0) 13) (j0) + 1) ≤ w_fi ws (n_v vs 0) 14))) := f4
  obtain ⟨f5, hf⟩ := fc_un (show (20 : Nat) < 100 from by decide) hf
  have f5 : (1 ≤ w_fi ws (n_v vs 0) 4) ∧ ((1 ≤ w_fi ws (n_v vs 0) 5) ∧ ((w_fi ws (n_v vs 0) 4 * w_fi ws (n_v vs 0) 5) ≤ 6000)) := f5
  obtain ⟨f6, hf⟩ := fc_un (show (20 : Nat) < 100 from by decide) hf
  have f6 : (w_fi ws (n_v vs 0) 7 + 1) ≤ (w_fi ws (n_v vs 0) 4 * w_fi ws (n_v vs 0) 5) := f6
  have cr_0_11 : ta (w_ar ws (n_v vs 0) 11) = some 113 := tv_rg (th_fd hD hth r0 (g := GG_9) rfl (k := 11) (t := (2, 0, 0, [113])) rfl rfl)
  have cr_0_12 : ta (w_ar ws (n_v vs 0) 12) = some 114 := tv_rg (th_fd hD hth r0 (g := GG_9) rfl (k := 12) (t := (2, 0, 0, [114])) rfl rfl)
  have cr_0_13 : ta (w_ar ws (n_v vs 0) 13) = some 115 := tv_rg (th_fd hD hth r0 (g := GG_9) rfl (k := 13) (t := (2, 0, 0, [115])) rfl rfl)
  have g2 : v_iv (n_v vs 4) = w_fi ws (n_v vs 0) 7 := congrArg v_iv f2
  have hK_0_11 : ∀ j : Int, 0 ≤ j → j < 4 → (-1) ≤ w_ei ws (w_ar ws (n_v vs 0) 11) j ∧ w_ei ws (w_ar ws (n_v vs 0) 11) j ≤ 48003 := fun j h0 h1 => th_el hD hth cr_0_11 (kd := 0) (n := 4) (m := 4) (lo := (-1)) (hi := 48003) (rs := []) (L := []) rfl (by decide) (j := j.toNat) (by omega)
  have hK_0_12 : ∀ j : Int, 0 ≤ j → j < 48004 → 0 ≤ w_ei ws (w_ar ws (n_v vs 0) 12) j ∧ w_ei ws (w_ar ws (n_v vs 0) 12) j ≤ 23999 := fun j h0 h1 => th_el hD hth cr_0_12 (kd := 0) (n := 48004) (m := 48004) (lo := 0) (hi := 23999) (rs := []) (L := []) rfl (by decide) (j := j.toNat) (by omega)
  have hK_0_13 : ∀ j : Int, 0 ≤ j → j < 48004 → (-1) ≤ w_ei ws (w_ar ws (n_v vs 0) 13) j ∧ w_ei ws (w_ar ws (n_v vs 0) 13) j ≤ 48003 := fun j h0 h1 => th_el hD hth cr_0_13 (kd := 0) (n := 48004) (m := 48004) (lo := (-1)) (hi := 48003) (rs := []) (L := []) rfl (by decide) (j := j.toNat) (by omega)
  have kz_0_4 : (-2147483648) ≤ w_fi ws (n_v vs 0) 4 ∧ w_fi ws (n_v vs 0) 4 ≤ 2147483647 := tv_rng (th_fd hD hth r0 (g := GG_9) rfl (k := 4) (t := (0, -2147483648, 2147483647, [])) rfl rfl)
  have kz_0_5 : (-2147483648) ≤ w_fi ws (n_v vs 0) 5 ∧ w_fi ws (n_v vs 0) 5 ≤ 2147483647 := tv_rng (th_fd hD hth r0 (g := GG_9) rfl (k := 5) (t := (0, -2147483648, 2147483647, [])) rfl rfl)
  have kz_0_7 : 0 ≤ w_fi ws (n_v vs 0) 7 ∧ w_fi ws (n_v vs 0) 7 ≤ 5999 := tv_rng (th_fd hD hth r0 (g := GG_9) rfl (k := 7) (t := (0, 0, 5999, [])) rfl rfl)
  have kz_0_14 : 0 ≤ w_fi ws (n_v vs 0) 14 ∧ w_fi ws (n_v vs 0) 14 ≤ 48004 := tv_rng (th_fd hD hth r0 (g := GG_9) rfl (k := 14) (t := (0, 0, 48004, [])) rfl rfl)
  have kv0 : 0 ≤ w_fi ws (n_v vs 0) 14 ∧ w_fi ws (n_v vs 0) 14 ≤ 48004 := tv_rng (th_fd hD hth r0 (g := GG_9) rfl (k := 14) (t := (0, 0, 48004, [])) rfl rfl)
  obtain ⟨x, ex, hx⟩ := iv_ex (ta := ta) (lo := 0) (hi := 48004) (z := w_fi ws (n_v vs 0) 14) (by omega) (by omega) (by omega) (by omega)
  have ex2 : v_iv (Value.int x) = w_fi ws (n_v vs 0) 14 := ex
  have ex3 : 0 ≤ v_iv (Value.int x) ∧ v_iv (Value.int x) ≤ 48004 := tv_rng hx
  have e_0 : n_v (vs ++ [Value.int x]) 0 = n_v vs 0 := n_v_old (by rw [hl]; decide)
  have e_6 : n_v (vs ++ [Value.int x]) 6 = n_v vs 6 := n_v_old (by rw [hl]; decide)
  have e_8 : n_v (vs ++ [Value.int x]) 8 = Value.int x := n_v_new hl
  have nf0 : fc_1 (20, [0], [50, 3, 3, 14, 4, 5, 11, 12, 13, 2, 18, 5, 2, 0, 4, 0, 9, 4, 5, 3, 0, 11, 7, 0, 0, 1, 2, 0, 14, 5, 3, 2, 0, 14, 2, 23, 0, 9, 4, 5, 3, 0, 12, 7, 0, 0, 1, 6, 2, 0, 4, 6, 3, 2, 0, 4, 2, 0, 5, 0, 9, 4, 5, 3, 0, 13, 7, 0, 0, 1, 2, 0, 14]) ws (vs ++ [Value.int x]) := by
    refine ⟨fun n hn => ?_, ?_⟩
    · have hn : n ∈ [0] := hn
      rw [List.length_append, hl]
      simp only [List.mem_cons, List.not_mem_nil, or_false] at hn
      show n < 8 + 1; omega
    · show (∀ j0 : Int, 0 ≤ j0 → j0 < 4 → ((w_ei ws (w_ar ws (n_v (vs ++ [Value.int x]) 0) 11) (j0) + 1) ≤ w_fi ws (n_v (vs ++ [Value.int x]) 0) 14)) ∧ (∀ j0 : Int, 0 ≤ j0 → j0 < w_fi ws (n_v (vs ++ [Value.int x]) 0) 14 → (((w_ei ws (w_ar ws (n_v (vs ++ [Value.int x]) 0) 12) (j0) + 1) ≤ (4 * (w_fi ws (n_v (vs ++ [Value.int x]) 0) 4 * w_fi ws (n_v (vs ++ [Value.int x]) 0) 5))) ∧ ((w_ei ws (w_ar ws (n_v (vs ++ [Value.int x]) 0) 13) (j0) + 1) ≤ w_fi ws (n_v (vs ++ [Value.int x]) 0) 14)))
      rw [e_0]
      first | omega | (exact ⟨by (intro j0 hj00 hj01; (first | have i1 := f4.1 (j0) hj00 | skip); (first | have i2 := f4.2 (j0) hj00 | skip); (first | have i3 := hK_0_11 (j0) hj00 | skip); (first | have i4 := hK_0_12 (j0) hj00 | skip); (first | have i5 := hK_0_13 (j0) hj00 | skip); omega), by (intro j0 hj00 hj01; exact ⟨by ((first | have i6 := f4.1 (j0) hj00 | skip); (first | have i7 := f4.2 (j0) hj00 | skip); (first | have i8 := hK_0_11 (j0) hj00 | skip); (first | have i9 := hK_0_12 (j0) hj00 | skip); (first | have i10 := hK_0_13 (j0) hj00 | skip); omega), by ((first | have i11 := f4.1 (j0) hj00 | skip); (first | have i12 := f4.2 (j0) hj00 | skip); (first | have i13 := hK_0_11 (j0) hj00 | skip); (first | have i14 := hK_0_12 (j0) hj00 | skip); (first | have i15 := hK_0_13 (j0) hj00 | skip); omega)⟩)⟩) | (set_option maxHeartbeats 200000 in grind)
  have nf1 : fc_1 (20, [6, 0], [50, 2, 0, 1004, 1005, 0, 6, 4, 2, 1, 0, 0, 1, 6, 2, 0, 4, 6, 3, 2, 1, 4, 2, 1, 5]) ws (vs ++ [Value.int x]) := by
    refine ⟨fun n hn => ?_, ?_⟩
    · have hn : n ∈ [6, 0] := hn
      rw [List.length_append, hl]
      simp only [List.mem_cons, List.not_mem_nil, or_false] at hn
      show n < 8 + 1; omega
    · show (v_iv (n_v (vs ++ [Value.int x]) 6) + 1) ≤ (4 * (w_fi ws (n_v (vs ++ [Value.int x]) 0) 4 * w_fi ws (n_v (vs ++ [Value.int x]) 0) 5))
      rw [e_0]
      rw [e_6]
      first | omega | (omega) | (set_option maxHeartbeats 200000 in grind)
  have nf2 : fc_1 (20, [0, 8], [30, 0, 1, 1, 14, -1, 0, 0]) ws (vs ++ [Value.int x]) := by
    refine ⟨fun n hn => ?_, ?_⟩
    · have hn : n ∈ [0, 8] := hn
      rw [List.length_append, hl]
      simp only [List.mem_cons, List.not_mem_nil, or_false] at hn
      show n < 8 + 1; omega
    · show 1 * w_fi ws (n_v (vs ++ [Value.int x]) 0) 14 + ((-1) * v_iv (n_v (vs ++ [Value.int x]) 8) + 0) ≤ 0
      rw [e_0]
      rw [e_8]
      omega
  have nf3 : fc_1 (20, [0, 8], [30, 0, -1, 1, 14, 1, 0, 0]) ws (vs ++ [Value.int x]) := by
    refine ⟨fun n hn => ?_, ?_⟩
    · have hn : n ∈ [0, 8] := hn
      rw [List.length_append, hl]
      simp only [List.mem_cons, List.not_mem_nil, or_false] at hn
      show n < 8 + 1; omega
    · show (-1) * w_fi ws (n_v (vs ++ [Value.int x]) 0) 14 + (1 * v_iv (n_v (vs ++ [Value.int x]) 8) + 0) ≤ 0
      rw [e_0]
      rw [e_8]
      omega
  exact ⟨(fun _ h => (by cases h)), [Value.int x], ag_one hx, List.forall_mem_cons.mpr ⟨⟨show (20 : Nat) < 100 from by decide, nf0⟩, List.forall_mem_cons.mpr ⟨⟨show (20 : Nat) < 100 from by decide, nf1⟩, List.forall_mem_cons.mpr ⟨⟨show (20 : Nat) < 100 from by decide, nf2⟩, List.forall_mem_cons.mpr ⟨⟨show (20 : Nat) < 100 from by decide, nf3⟩, (fun _ h => (by cases h))⟩⟩⟩⟩, (fun _ h => (by cases h))⟩
def o_Ro_findCosts_2 : or_T := (124, 16, [(0, (2, 0, 0, [9])), (6, (2, 0, 0, [113])), (8, (0, 0, 3, [])), (9, (0, 0, 48003, [])), (11, (0, 0, 3, [])), (12, (0, -1, -1, [])), (13, (0, -1, -1, []))], [(9, [6, 0], [11]), (7, [9, 13], [1]), (20, [0], [50, 2, 0, 4, 5, 2, 7, 0, 2, 0, 1, 2, 0, 4, 2, 7, 0, 2, 0, 1, 2, 0, 5, 0, 8, 6, 3, 2, 0, 4, 2, 0, 5, 0, 6000]), (100, [6, 11, 12], []), (10, [9, 6, 8], []), (20, [0], [50, 3, 3, 14, 4, 5, 11, 12, 13, 2, 18, 5, 2, 0, 4, 0, 9, 4, 5, 3, 0, 11, 7, 0, 0, 1, 2, 0, 14, 5, 3, 2, 0, 14, 2, 23, 0, 9, 4, 5, 3, 0, 12, 7, 0, 0, 1, 6, 2, 0, 4, 6, 3, 2, 0, 4, 2, 0, 5, 0, 9, 4, 5, 3, 0, 13, 7, 0, 0, 1, 2, 0, 14]), (20, [0], [50, 2, 0, 4, 5, 2, 7, 0, 2, 0, 1, 2, 0, 4, 2, 7, 0, 2, 0, 1, 2, 0, 5, 0, 8, 6, 3, 2, 0, 4, 2, 0, 5, 0, 6000])], [], [], [(20, [0], [50, 3, 3, 14, 4, 5, 11, 12, 13, 2, 18, 5, 2, 0, 4, 0, 9, 4, 5, 3, 0, 11, 7, 0, 0, 1, 2, 0, 14, 5, 3, 2, 0, 14, 2, 23, 0, 9, 4, 5, 3, 0, 12, 7, 0, 0, 1, 6, 2, 0, 4, 6, 3, 2, 0, 4, 2, 0, 5, 0, 9, 4, 5, 3, 0, 13, 7, 0, 0, 1, 2, 0, 14]), (20, [9, 0], [50, 1, 0, 1014, 0, 6, 4, 2, 1, 0, 0, 1, 2, 1, 14])], [], [])
set_option maxHeartbeats 8000000 in
theorem oo_Ro_findCosts_2 {kA : Nat → ClassId} : or_ok kA GG o_Ro_findCosts_2 := by
  intro A ta ws vs hD hth hl hk hds hf
  have hl : vs.length = 16 := hl
  have hk : ∀ q ∈ ([(0, (2, 0, 0, [9])), (6, (2, 0, 0, [113])), (8, (0, 0, 3, [])), (9, (0, 0, 48003, [])), (11, (0, 0, 3, [])), (12, (0, -1, -1, [])), (13, (0, -1, -1, []))] : List (Nat × tv_T)), tv_ok ta q.2 (n_v vs q.1) := hk
  obtain ⟨t0, hk⟩ := List.forall_mem_cons.mp hk
  have t0 : tv_ok ta (2, 0, 0, [9]) (n_v vs 0) := t0
  have r0 : ta (v_ad (n_v vs 0)) = some 9 := tv_rg t0
  obtain ⟨t6, hk⟩ := List.forall_mem_cons.mp hk
  have t6 : tv_ok ta (2, 0, 0, [113]) (n_v vs 6) := t6
  have r6 : ta (v_ad (n_v vs 6)) = some 113 := tv_rg t6
  obtain ⟨t8, hk⟩ := List.forall_mem_cons.mp hk
  have t8 : tv_ok ta (0, 0, 3, []) (n_v vs 8) := t8
  have k8 : 0 ≤ v_iv (n_v vs 8) ∧ v_iv (n_v vs 8) ≤ 3 := tv_rng t8
  obtain ⟨t9, hk⟩ := List.forall_mem_cons.mp hk
  have t9 : tv_ok ta (0, 0, 48003, []) (n_v vs 9) := t9
  have k9 : 0 ≤ v_iv (n_v vs 9) ∧ v_iv (n_v vs 9) ≤ 48003 := tv_rng t9
  obtain ⟨t11, hk⟩ := List.forall_mem_cons.mp hk
  have t11 : tv_ok ta (0, 0, 3, []) (n_v vs 11) := t11
  have k11 : 0 ≤ v_iv (n_v vs 11) ∧ v_iv (n_v vs 11) ≤ 3 := tv_rng t11
  obtain ⟨t12, hk⟩ := List.forall_mem_cons.mp hk
  have t12 : tv_ok ta (0, -1, -1, []) (n_v vs 12) := t12
  have k12 : (-1) ≤ v_iv (n_v vs 12) ∧ v_iv (n_v vs 12) ≤ (-1) := tv_rng t12
  obtain ⟨t13, hk⟩ := List.forall_mem_cons.mp hk
  have t13 : tv_ok ta (0, -1, -1, []) (n_v vs 13) := t13
  have k13 : (-1) ≤ v_iv (n_v vs 13) ∧ v_iv (n_v vs 13) ≤ (-1) := tv_rng t13
  have hf : fc_ok [(9, [6, 0], [11]), (7, [9, 13], [1]), (20, [0], [50, 2, 0, 4, 5, 2, 7, 0, 2, 0, 1, 2, 0, 4, 2, 7, 0, 2, 0, 1, 2, 0, 5, 0, 8, 6, 3, 2, 0, 4, 2, 0, 5, 0, 6000]), (100, [6, 11, 12], []), (10, [9, 6, 8], []), (20, [0], [50, 3, 3, 14, 4, 5, 11, 12, 13, 2, 18, 5, 2, 0, 4, 0, 9, 4, 5, 3, 0, 11, 7, 0, 0, 1, 2, 0, 14, 5, 3, 2, 0, 14, 2, 23, 0, 9, 4, 5, 3, 0, 12, 7, 0, 0, 1, 6, 2, 0, 4, 6, 3, 2, 0, 4, 2, 0, 5, 0, 9, 4, 5, 3, 0, 13, 7, 0, 0, 1, 2, 0, 14]), (20, [0], [50, 2, 0, 4, 5, 2, 7, 0, 2, 0, 1, 2, 0, 4, 2, 7, 0, 2, 0, 1, 2, 0, 5, 0, 8, 6, 3, 2, 0, 4, 2, 0, 5, 0, 6000])] ta ws vs := hf
  obtain ⟨f0, hf⟩ := fc_un (show (9 : Nat) < 100 from by decide) hf
  have f0 : n_v vs 6 = w_fd ws (v_ad (n_v vs 0)) 11 := f0
  obtain ⟨f1, hf⟩ := fc_un (show (7 : Nat) < 100 from by decide) hf
  have f1 : v_iv (n_v vs 9) ≠ v_iv (n_v vs 13) := f1
  obtain ⟨f2, hf⟩ := fc_un (show (20 : Nat) < 100 from by decide) hf
  have f2 : (1 ≤ w_fi ws (n_v vs 0) 4) ∧ ((1 ≤ w_fi ws (n_v vs 0) 5) ∧ ((w_fi ws (n_v vs 0) 4 * w_fi ws (n_v vs 0) 5) ≤ 6000)) := f2
  obtain ⟨ta1, w1, le1, ⟨_, s1⟩, hf⟩ := fc_us (show ¬ (100 : Nat) < 100 from by decide) hf
  have s1 : (∀ b j, w_el ws b j = if b = v_ad (n_v vs 6) ∧ j = (v_iv (n_v vs 11)).toNat then v_iv (n_v vs 12) else w_el w1 b j) ∧ ∀ b k, w_fd ws b k = w_fd w1 b k := s1
  obtain ⟨f4, hf⟩ := fc_un (show (10 : Nat) < 100 from by decide) hf
  have f4 : v_iv (n_v vs 9) = w_el w1 (v_ad (n_v vs 6)) (v_iv (n_v vs 8)).toNat := f4
  obtain ⟨f5, hf⟩ := fc_un (show (20 : Nat) < 100 from by decide) hf
  have f5 : (∀ j0 : Int, 0 ≤ j0 → j0 < 4 → ((w_ei w1 (w_ar w1 (n_v vs 0) 11) (j0) + 1) ≤ w_fi w1 (n_v vs 0) 14)) ∧ (∀ j0 : Int, 0 ≤ j0 → j0 < w_fi w1 (n_v vs 0) 14 → (((w_ei w1 (w_ar w1 (n_v vs 0) 12) (j0) + 1) ≤ (4 * (w_fi w1 (n_v vs 0) 4 * w_fi w1 (n_v vs 0) 5))) ∧ ((w_ei w1 (w_ar w1 (n_v vs 0) 13) (j0) + 1) ≤ w_fi w1 (n_v vs 0) 14))) := f5
  obtain ⟨f6, hf⟩ := fc_un (show (20 : Nat) < 100 from by decide) hf
  have f6 : (1 ≤ w_fi w1 (n_v vs 0) 4) ∧ ((1 ≤ w_fi w1 (n_v vs 0) 5) ∧ ((w_fi w1 (n_v vs 0) 4 * w_fi w1 (n_v vs 0) 5) ≤ 6000)) := f6
  have ar_0_11_1 : w_ar w1 (n_v vs 0) 11 = w_ar ws (n_v vs 0) 11 := by show v_ad (w_fd w1 _ _) = v_ad (w_fd ws _ _); rw [s1.2]
  have cr_0_11 : ta (w_ar ws (n_v vs 0) 11) = some 113 := tv_rg (th_fd hD hth r0 (g := GG_9) rfl (k := 11) (t := (2, 0, 0, [113])) rfl rfl)
  have ar_0_12_1 : w_ar w1 (n_v vs 0) 12 = w_ar ws (n_v vs 0) 12 := by show v_ad (w_fd w1 _ _) = v_ad (w_fd ws _ _); rw [s1.2]
  have cr_0_12 : ta (w_ar ws (n_v vs 0) 12) = some 114 := tv_rg (th_fd hD hth r0 (g := GG_9) rfl (k := 12) (t := (2, 0, 0, [114])) rfl rfl)
  have ar_0_13_1 : w_ar w1 (n_v vs 0) 13 = w_ar ws (n_v vs 0) 13 := by show v_ad (w_fd w1 _ _) = v_ad (w_fd ws _ _); rw [s1.2]
  have cr_0_13 : ta (w_ar ws (n_v vs 0) 13) = some 115 := tv_rg (th_fd hD hth r0 (g := GG_9) rfl (k := 13) (t := (2, 0, 0, [115])) rfl rfl)
  have ad_6 : v_ad (n_v vs 6) = w_ar ws (n_v vs 0) 11 := congrArg v_ad f0
  rw [ad_6] at f4
  have h4 : v_iv (n_v vs 9) = w_ei w1 (w_ar ws (n_v vs 0) 11) (v_iv (n_v vs 8)) := f4
  rw [ar_0_11_1] at f5
  rw [ar_0_12_1] at f5
  rw [ar_0_13_1] at f5
  have fe_0_4_1 : w_fi ws (n_v vs 0) 4 = w_fi w1 (n_v vs 0) 4 := congrArg v_iv (s1.2 _ _)
  have fe_0_5_1 : w_fi ws (n_v vs 0) 5 = w_fi w1 (n_v vs 0) 5 := congrArg v_iv (s1.2 _ _)
  have fe_0_14_1 : w_fi ws (n_v vs 0) 14 = w_fi w1 (n_v vs 0) 14 := congrArg v_iv (s1.2 _ _)
  have ee_0_11_8_1 : ((v_iv (n_v vs 8)).toNat = (v_iv (n_v vs 11)).toNat → w_el ws (w_ar ws (n_v vs 0) 11) (v_iv (n_v vs 8)).toNat = v_iv (n_v vs 12)) ∧ ((v_iv (n_v vs 8)).toNat ≠ (v_iv (n_v vs 11)).toNat → w_el ws (w_ar ws (n_v vs 0) 11) (v_iv (n_v vs 8)).toNat = w_el w1 (w_ar ws (n_v vs 0) 11) (v_iv (n_v vs 8)).toNat) := ⟨fun h => by rw [s1.1, if_pos ⟨ad_6.symm, h⟩], fun h => by rw [s1.1, if_neg (fun e => h e.2)]⟩
  have br_0_11_8_0 : w_ei ws (w_ar ws (n_v vs 0) 11) (v_iv (n_v vs 8)) = w_el ws (w_ar ws (n_v vs 0) 11) (v_iv (n_v vs 8)).toNat := rfl
  have br_0_11_8_1 : w_ei w1 (w_ar ws (n_v vs 0) 11) (v_iv (n_v vs 8)) = w_el w1 (w_ar ws (n_v vs 0) 11) (v_iv (n_v vs 8)).toNat := rfl
  have hE_0_11_1 : ∀ j : Int, 0 ≤ j → (j = v_iv (n_v vs 11) → w_ei ws (w_ar ws (n_v vs 0) 11) j = v_iv (n_v vs 12)) ∧ (j ≠ v_iv (n_v vs 11) → w_ei ws (w_ar ws (n_v vs 0) 11) j = w_ei w1 (w_ar ws (n_v vs 0) 11) j) := fun j hj => ⟨fun h => by unfold w_ei; rw [s1.1, if_pos ⟨ad_6.symm, by rw [h]⟩], fun h => by unfold w_ei; rw [s1.1, if_neg (fun e => h (by have := e.2; omega))]⟩
  have hK_0_11 : ∀ j : Int, 0 ≤ j → j < 4 → (-1) ≤ w_ei ws (w_ar ws (n_v vs 0) 11) j ∧ w_ei ws (w_ar ws (n_v vs 0) 11) j ≤ 48003 := fun j h0 h1 => th_el hD hth cr_0_11 (kd := 0) (n := 4) (m := 4) (lo := (-1)) (hi := 48003) (rs := []) (L := []) rfl (by decide) (j := j.toNat) (by omega)
  have hE_0_12_1 : ∀ j : Int, w_ei ws (w_ar ws (n_v vs 0) 12) j = w_ei w1 (w_ar ws (n_v vs 0) 12) j := fun j => by unfold w_ei; rw [s1.1, if_neg (fun e => by have e1 := e.1; rw [← e1] at r6; rw [cr_0_12] at r6; exact absurd (Option.some.inj r6) (by decide))]
  have hK_0_12 : ∀ j : Int, 0 ≤ j → j < 48004 → 0 ≤ w_ei ws (w_ar ws (n_v vs 0) 12) j ∧ w_ei ws (w_ar ws (n_v vs 0) 12) j ≤ 23999 := fun j h0 h1 => th_el hD hth cr_0_12 (kd := 0) (n := 48004) (m := 48004) (lo := 0) (hi := 23999) (rs := []) (L := []) rfl (by decide) (j := j.toNat) (by omega)
  have hE_0_13_1 : ∀ j : Int, w_ei ws (w_ar ws (n_v vs 0) 13) j = w_ei w1 (w_ar ws (n_v vs 0) 13) j := fun j => by unfold w_ei; rw [s1.1, if_neg (fun e => by have e1 := e.1; rw [← e1] at r6; rw [cr_0_13] at r6; exact absurd (Option.some.inj r6) (by decide))]
  have hK_0_13 : ∀ j : Int, 0 ≤ j → j < 48004 → (-1) ≤ w_ei ws (w_ar ws (n_v vs 0) 13) j ∧ w_ei ws (w_ar ws (n_v vs 0) 13) j ≤ 48003 := fun j h0 h1 => th_el hD hth cr_0_13 (kd := 0) (n := 48004) (m := 48004) (lo := (-1)) (hi := 48003) (rs := []) (L := []) rfl (by decide) (j := j.toNat) (by omega)
  have pe_0_4_5_1 : w_fi ws (n_v vs 0) 4 * w_fi ws (n_v vs 0) 5 = w_fi w1 (n_v vs 0) 4 * w_fi w1 (n_v vs 0) 5 := by rw [fe_0_4_1, fe_0_5_1]
  have kz_0_4 : (-2147483648) ≤ w_fi ws (n_v vs 0) 4 ∧ w_fi ws (n_v vs 0) 4 ≤ 2147483647 := tv_rng (th_fd hD hth r0 (g := GG_9) rfl (k := 4) (t := (0, -2147483648, 2147483647, [])) rfl rfl)
  have kz_0_5 : (-2147483648) ≤ w_fi ws (n_v vs 0) 5 ∧ w_fi ws (n_v vs 0) 5 ≤ 2147483647 := tv_rng (th_fd hD hth r0 (g := GG_9) rfl (k := 5) (t := (0, -2147483648, 2147483647, [])) rfl rfl)
  have kz_0_14 : 0 ≤ w_fi ws (n_v vs 0) 14 ∧ w_fi ws (n_v vs 0) 14 ≤ 48004 := tv_rng (th_fd hD hth r0 (g := GG_9) rfl (k := 14) (t := (0, 0, 48004, [])) rfl rfl)
  first | have qi1 := (hE_0_11_1 (v_iv (n_v vs 11)) (by omega)).1 (by omega) | have qi1 := (hE_0_11_1 (v_iv (n_v vs 11)) (by omega)).2 (by omega) | have qi1 := hE_0_11_1 (v_iv (n_v vs 11)) (by omega) | skip
  first | have qi2 := f5.1 (v_iv (n_v vs 11)) (by omega) (by omega) | have qi2 := f5.1 (v_iv (n_v vs 11)) (by omega) | skip
  first | have qi3 := hK_0_11 (v_iv (n_v vs 11)) (by omega) (by omega) | have qi3 := hK_0_11 (v_iv (n_v vs 11)) (by omega) | skip
  first | have qi4 := (hE_0_11_1 (v_iv (n_v vs 8)) (by omega)).1 (by omega) | have qi4 := (hE_0_11_1 (v_iv (n_v vs 8)) (by omega)).2 (by omega) | have qi4 := hE_0_11_1 (v_iv (n_v vs 8)) (by omega) | skip
  first | have qi5 := f5.1 (v_iv (n_v vs 8)) (by omega) (by omega) | have qi5 := f5.1 (v_iv (n_v vs 8)) (by omega) | skip
  first | have qi6 := hK_0_11 (v_iv (n_v vs 8)) (by omega) (by omega) | have qi6 := hK_0_11 (v_iv (n_v vs 8)) (by omega) | skip
  have nf0 : fc_1 (20, [0], [50, 3, 3, 14, 4, 5, 11, 12, 13, 2, 18, 5, 2, 0, 4, 0, 9, 4, 5, 3, 0, 11, 7, 0, 0, 1, 2, 0, 14, 5, 3, 2, 0, 14, 2, 23, 0, 9, 4, 5, 3, 0, 12, 7, 0, 0, 1, 6, 2, 0, 4, 6, 3, 2, 0, 4, 2, 0, 5, 0, 9, 4, 5, 3, 0, 13, 7, 0, 0, 1, 2, 0, 14]) ws (vs) := by
    refine ⟨fun n hn => ?_, ?_⟩
    · have hn : n ∈ [0] := hn
      rw [hl]
      simp only [List.mem_cons, List.not_mem_nil, or_false] at hn
      show n < 16; omega
    · show (∀ j0 : Int, 0 ≤ j0 → j0 < 4 → ((w_ei ws (w_ar ws (n_v vs 0) 11) (j0) + 1) ≤ w_fi ws (n_v vs 0) 14)) ∧ (∀ j0 : Int, 0 ≤ j0 → j0 < w_fi ws (n_v vs 0) 14 → (((w_ei ws (w_ar ws (n_v vs 0) 12) (j0) + 1) ≤ (4 * (w_fi ws (n_v vs 0) 4 * w_fi ws (n_v vs 0) 5))) ∧ ((w_ei ws (w_ar ws (n_v vs 0) 13) (j0) + 1) ≤ w_fi ws (n_v vs 0) 14)))
      first | omega | (exact ⟨by (intro j0 hj00 hj01; (first | have i1 := f5.1 (j0) hj00 | skip); (first | have i2 := f5.2 (j0) hj00 | skip); (first | have i3 := hK_0_11 (j0) hj00 | skip); (first | have i4 := hK_0_12 (j0) hj00 | skip); (first | have i5 := hK_0_13 (j0) hj00 | skip); (first | have i6 := hE_0_11_1 (j0) hj00 | skip); (first | have i7 := hE_0_12_1 (j0) | skip); (first | have i8 := hE_0_13_1 (j0) | skip); omega), by (intro j0 hj00 hj01; exact ⟨by ((first | have i9 := f5.1 (j0) hj00 | skip); (first | have i10 := f5.2 (j0) hj00 | skip); (first | have i11 := hK_0_11 (j0) hj00 | skip); (first | have i12 := hK_0_12 (j0) hj00 | skip); (first | have i13 := hK_0_13 (j0) hj00 | skip); (first | have i14 := hE_0_11_1 (j0) hj00 | skip); (first | have i15 := hE_0_12_1 (j0) | skip); (first | have i16 := hE_0_13_1 (j0) | skip); omega), by ((first | have i17 := f5.1 (j0) hj00 | skip); (first | have i18 := f5.2 (j0) hj00 | skip); (first | have i19 := hK_0_11 (j0) hj00 | skip); (first | have i20 := hK_0_12 (j0) hj00 | skip); (first | have i21 := hK_0_13 (j0) hj00 | skip); (first | have i22 := hE_0_11_1 (j0) hj00 | skip); (first | have i23 := hE_0_12_1 (j0) | skip); (first | have i24 := hE_0_13_1 (j0) | skip); omega)⟩)⟩) | (set_option maxHeartbeats 200000 in grind)
  have nf1 : fc_1 (20, [9, 0], [50, 1, 0, 1014, 0, 6, 4, 2, 1, 0, 0, 1, 2, 1, 14]) ws (vs) := by
    refine ⟨fun n hn => ?_, ?_⟩
    · have hn : n ∈ [9, 0] := hn
      rw [hl]
      simp only [List.mem_cons, List.not_mem_nil, or_false] at hn
      show n < 16; omega
    · show (v_iv (n_v vs 9) + 1) ≤ w_fi ws (n_v vs 0) 14
      first | omega | (omega) | (set_option maxHeartbeats 200000 in grind)
  refine ⟨(fun _ h => (by cases h)), [], trivial, ?_, (fun _ h => (by cases h))⟩
  rw [List.append_nil]
  exact List.forall_mem_cons.mpr ⟨⟨show (20 : Nat) < 100 from by decide, nf0⟩, List.forall_mem_cons.mpr ⟨⟨show (20 : Nat) < 100 from by decide, nf1⟩, (fun _ h => (by cases h))⟩⟩
def o_Ro_findCosts_3 : or_T := (124, 17, [(0, (2, 0, 0, [9])), (6, (2, 0, 0, [113])), (8, (0, 0, 3, [])), (9, (0, -1, -1, [])), (11, (0, 0, 3, [])), (12, (0, -1, -1, [])), (13, (0, -1, -1, []))], [(9, [6, 0], [11]), (7, [9, 13], [0]), (20, [0], [50, 2, 0, 4, 5, 2, 7, 0, 2, 0, 1, 2, 0, 4, 2, 7, 0, 2, 0, 1, 2, 0, 5, 0, 8, 6, 3, 2, 0, 4, 2, 0, 5, 0, 6000]), (100, [6, 11, 12], []), (10, [9, 6, 8], []), (20, [0], [50, 3, 3, 14, 4, 5, 11, 12, 13, 2, 18, 5, 2, 0, 4, 0, 9, 4, 5, 3, 0, 11, 7, 0, 0, 1, 2, 0, 14, 5, 3, 2, 0, 14, 2, 23, 0, 9, 4, 5, 3, 0, 12, 7, 0, 0, 1, 6, 2, 0, 4, 6, 3, 2, 0, 4, 2, 0, 5, 0, 9, 4, 5, 3, 0, 13, 7, 0, 0, 1, 2, 0, 14]), (20, [0], [50, 2, 0, 4, 5, 2, 7, 0, 2, 0, 1, 2, 0, 4, 2, 7, 0, 2, 0, 1, 2, 0, 5, 0, 8, 6, 3, 2, 0, 4, 2, 0, 5, 0, 6000])], [], [], [(20, [0], [50, 3, 3, 14, 4, 5, 11, 12, 13, 2, 18, 5, 2, 0, 4, 0, 9, 4, 5, 3, 0, 11, 7, 0, 0, 1, 2, 0, 14, 5, 3, 2, 0, 14, 2, 23, 0, 9, 4, 5, 3, 0, 12, 7, 0, 0, 1, 6, 2, 0, 4, 6, 3, 2, 0, 4, 2, 0, 5, 0, 9, 4, 5, 3, 0, 13, 7, 0, 0, 1, 2, 0, 14]), (20, [9, 0], [50, 1, 0, 1014, 0, 6, 4, 2, 1, 0, 0, 1, 2, 1, 14])], [], [])
set_option maxHeartbeats 8000000 in
theorem oo_Ro_findCosts_3 {kA : Nat → ClassId} : or_ok kA GG o_Ro_findCosts_3 := by
  intro A ta ws vs hD hth hl hk hds hf
  have hl : vs.length = 17 := hl
  have hk : ∀ q ∈ ([(0, (2, 0, 0, [9])), (6, (2, 0, 0, [113])), (8, (0, 0, 3, [])), (9, (0, -1, -1, [])), (11, (0, 0, 3, [])), (12, (0, -1, -1, [])), (13, (0, -1, -1, []))] : List (Nat × tv_T)), tv_ok ta q.2 (n_v vs q.1) := hk
  obtain ⟨t0, hk⟩ := List.forall_mem_cons.mp hk
  have t0 : tv_ok ta (2, 0, 0, [9]) (n_v vs 0) := t0
  have r0 : ta (v_ad (n_v vs 0)) = some 9 := tv_rg t0
  obtain ⟨t6, hk⟩ := List.forall_mem_cons.mp hk
  have t6 : tv_ok ta (2, 0, 0, [113]) (n_v vs 6) := t6
  have r6 : ta (v_ad (n_v vs 6)) = some 113 := tv_rg t6
  obtain ⟨t8, hk⟩ := List.forall_mem_cons.mp hk
  have t8 : tv_ok ta (0, 0, 3, []) (n_v vs 8) := t8
  have k8 : 0 ≤ v_iv (n_v vs 8) ∧ v_iv (n_v vs 8) ≤ 3 := tv_rng t8
  obtain ⟨t9, hk⟩ := List.forall_mem_cons.mp hk
  have t9 : tv_ok ta (0, -1, -1, []) (n_v vs 9) := t9
  have k9 : (-1) ≤ v_iv (n_v vs 9) ∧ v_iv (n_v vs 9) ≤ (-1) := tv_rng t9
  obtain ⟨t11, hk⟩ := List.forall_mem_cons.mp hk
  have t11 : tv_ok ta (0, 0, 3, []) (n_v vs 11) := t11
  have k11 : 0 ≤ v_iv (n_v vs 11) ∧ v_iv (n_v vs 11) ≤ 3 := tv_rng t11
  obtain ⟨t12, hk⟩ := List.forall_mem_cons.mp hk
  have t12 : tv_ok ta (0, -1, -1, []) (n_v vs 12) := t12
  have k12 : (-1) ≤ v_iv (n_v vs 12) ∧ v_iv (n_v vs 12) ≤ (-1) := tv_rng t12
  obtain ⟨t13, hk⟩ := List.forall_mem_cons.mp hk
  have t13 : tv_ok ta (0, -1, -1, []) (n_v vs 13) := t13
  have k13 : (-1) ≤ v_iv (n_v vs 13) ∧ v_iv (n_v vs 13) ≤ (-1) := tv_rng t13
  have hf : fc_ok [(9, [6, 0], [11]), (7, [9, 13], [0]), (20, [0], [50, 2, 0, 4, 5, 2, 7, 0, 2, 0, 1, 2, 0, 4, 2, 7, 0, 2, 0, 1, 2, 0, 5, 0, 8, 6, 3, 2, 0, 4, 2, 0, 5, 0, 6000]), (100, [6, 11, 12], []), (10, [9, 6, 8], []), (20, [0], [50, 3, 3, 14, 4, 5, 11, 12, 13, 2, 18, 5, 2, 0, 4, 0, 9, 4, 5, 3, 0, 11, 7, 0, 0, 1, 2, 0, 14, 5, 3, 2, 0, 14, 2, 23, 0, 9, 4, 5, 3, 0, 12, 7, 0, 0, 1, 6, 2, 0, 4, 6, 3, 2, 0, 4, 2, 0, 5, 0, 9, 4, 5, 3, 0, 13, 7, 0, 0, 1, 2, 0, 14]), (20, [0], [50, 2, 0, 4, 5, 2, 7, 0, 2, 0, 1, 2, 0, 4, 2, 7, 0, 2, 0, 1, 2, 0, 5, 0, 8, 6, 3, 2, 0, 4, 2, 0, 5, 0, 6000])] ta ws vs := hf
  obtain ⟨f0, hf⟩ := fc_un (show (9 : Nat) < 100 from by decide) hf
  have f0 : n_v vs 6 = w_fd ws (v_ad (n_v vs 0)) 11 := f0
  obtain ⟨f1, hf⟩ := fc_un (show (7 : Nat) < 100 from by decide) hf
  have f1 : v_iv (n_v vs 9) = v_iv (n_v vs 13) := f1
  obtain ⟨f2, hf⟩ := fc_un (show (20 : Nat) < 100 from by decide) hf
  have f2 : (1 ≤ w_fi ws (n_v vs 0) 4) ∧ ((1 ≤ w_fi ws (n_v vs 0) 5) ∧ ((w_fi ws (n_v vs 0) 4 * w_fi ws (n_v vs 0) 5) ≤ 6000)) := f2
  obtain ⟨ta1, w1, le1, ⟨_, s1⟩, hf⟩ := fc_us (show ¬ (100 : Nat) < 100 from by decide) hf
  have s1 : (∀ b j, w_el ws b j = if b = v_ad (n_v vs 6) ∧ j = (v_iv (n_v vs 11)).toNat then v_iv (n_v vs 12) else w_el w1 b j) ∧ ∀ b k, w_fd ws b k = w_fd w1 b k := s1
  obtain ⟨f4, hf⟩ := fc_un (show (10 : Nat) < 100 from by decide) hf
  have f4 : v_iv (n_v vs 9) = w_el w1 (v_ad (n_v vs 6)) (v_iv (n_v vs 8)).toNat := f4
  obtain ⟨f5, hf⟩ := fc_un (show (20 : Nat) < 100 from by decide) hf
  have f5 : (∀ j0 : Int, 0 ≤ j0 → j0 < 4 → ((w_ei w1 (w_ar w1 (n_v vs 0) 11) (j0) + 1) ≤ w_fi w1 (n_v vs 0) 14)) ∧ (∀ j0 : Int, 0 ≤ j0 → j0 < w_fi w1 (n_v vs 0) 14 → (((w_ei w1 (w_ar w1 (n_v vs 0) 12) (j0) + 1) ≤ (4 * (w_fi w1 (n_v vs 0) 4 * w_fi w1 (n_v vs 0) 5))) ∧ ((w_ei w1 (w_ar w1 (n_v vs 0) 13) (j0) + 1) ≤ w_fi w1 (n_v vs 0) 14))) := f5
  obtain ⟨f6, hf⟩ := fc_un (show (20 : Nat) < 100 from by decide) hf
  have f6 : (1 ≤ w_fi w1 (n_v vs 0) 4) ∧ ((1 ≤ w_fi w1 (n_v vs 0) 5) ∧ ((w_fi w1 (n_v vs 0) 4 * w_fi w1 (n_v vs 0) 5) ≤ 6000)) := f6
  have ar_0_11_1 : w_ar w1 (n_v vs 0) 11 = w_ar ws (n_v vs 0) 11 := by show v_ad (w_fd w1 _ _) = v_ad (w_fd ws _ _); rw [s1.2]
  have cr_0_11 : ta (w_ar ws (n_v vs 0) 11) = some 113 := tv_rg (th_fd hD hth r0 (g := GG_9) rfl (k := 11) (t := (2, 0, 0, [113])) rfl rfl)
  have ar_0_12_1 : w_ar w1 (n_v vs 0) 12 = w_ar ws (n_v vs 0) 12 := by show v_ad (w_fd w1 _ _) = v_ad (w_fd ws _ _); rw [s1.2]
  have cr_0_12 : ta (w_ar ws (n_v vs 0) 12) = some 114 := tv_rg (th_fd hD hth r0 (g := GG_9) rfl (k := 12) (t := (2, 0, 0, [114])) rfl rfl)
  have ar_0_13_1 : w_ar w1 (n_v vs 0) 13 = w_ar ws (n_v vs 0) 13 := by show v_ad (w_fd w1 _ _) = v_ad (w_fd ws _ _); rw [s1.2]
  have cr_0_13 : ta (w_ar ws (n_v vs 0) 13) = some 115 := tv_rg (th_fd hD hth r0 (g := GG_9) rfl (k := 13) (t := (2, 0, 0, [115])) rfl rfl)
  have ad_6 : v_ad (n_v vs 6) = w_ar ws (n_v vs 0) 11 := congrArg v_ad f0
  rw [ad_6] at f4
  have h4 : v_iv (n_v vs 9) = w_ei w1 (w_ar ws (n_v vs 0) 11) (v_iv (n_v vs 8)) := f4
  rw [ar_0_11_1] at f5
  rw [ar_0_12_1] at f5
  rw [ar_0_13_1] at f5
  have fe_0_4_1 : w_fi ws (n_v vs 0) 4 = w_fi w1 (n_v vs 0) 4 := congrArg v_iv (s1.2 _ _)
  have fe_0_5_1 : w_fi ws (n_v vs 0) 5 = w_fi w1 (n_v vs 0) 5 := congrArg v_iv (s1.2 _ _)
  have fe_0_14_1 : w_fi ws (n_v vs 0) 14 = w_fi w1 (n_v vs 0) 14 := congrArg v_iv (s1.2 _ _)
  have ee_0_11_8_1 : ((v_iv (n_v vs 8)).toNat = (v_iv (n_v vs 11)).toNat → w_el ws (w_ar ws (n_v vs 0) 11) (v_iv (n_v vs 8)).toNat = v_iv (n_v vs 12)) ∧ ((v_iv (n_v vs 8)).toNat ≠ (v_iv (n_v vs 11)).toNat → w_el ws (w_ar ws (n_v vs 0) 11) (v_iv (n_v vs 8)).toNat = w_el w1 (w_ar ws (n_v vs 0) 11) (v_iv (n_v vs 8)).toNat) := ⟨fun h => by rw [s1.1, if_pos ⟨ad_6.symm, h⟩], fun h => by rw [s1.1, if_neg (fun e => h e.2)]⟩
  have br_0_11_8_0 : w_ei ws (w_ar ws (n_v vs 0) 11) (v_iv (n_v vs 8)) = w_el ws (w_ar ws (n_v vs 0) 11) (v_iv (n_v vs 8)).toNat := rfl
  have br_0_11_8_1 : w_ei w1 (w_ar ws (n_v vs 0) 11) (v_iv (n_v vs 8)) = w_el w1 (w_ar ws (n_v vs 0) 11) (v_iv (n_v vs 8)).toNat := rfl
  have hE_0_11_1 : ∀ j : Int, 0 ≤ j → (j = v_iv (n_v vs 11) → w_ei ws (w_ar ws (n_v vs 0) 11) j = v_iv (n_v vs 12)) ∧ (j ≠ v_iv (n_v vs 11) → w_ei ws (w_ar ws (n_v vs 0) 11) j = w_ei w1 (w_ar ws (n_v vs 0) 11) j) := fun j hj => ⟨fun h => by unfold w_ei; rw [s1.1, if_pos ⟨ad_6.symm, by rw [h]⟩], fun h => by unfold w_ei; rw [s1.1, if_neg (fun e => h (by have := e.2; omega))]⟩
  have hK_0_11 : ∀ j : Int, 0 ≤ j → j < 4 → (-1) ≤ w_ei ws (w_ar ws (n_v vs 0) 11) j ∧ w_ei ws (w_ar ws (n_v vs 0) 11) j ≤ 48003 := fun j h0 h1 => th_el hD hth cr_0_11 (kd := 0) (n := 4) (m := 4) (lo := (-1)) (hi := 48003) (rs := []) (L := []) rfl (by decide) (j := j.toNat) (by omega)
  have hE_0_12_1 : ∀ j : Int, w_ei ws (w_ar ws (n_v vs 0) 12) j = w_ei w1 (w_ar ws (n_v vs 0) 12) j := fun j => by unfold w_ei; rw [s1.1, if_neg (fun e => by have e1 := e.1; rw [← e1] at r6; rw [cr_0_12] at r6; exact absurd (Option.some.inj r6) (by decide))]
  have hK_0_12 : ∀ j : Int, 0 ≤ j → j < 48004 → 0 ≤ w_ei ws (w_ar ws (n_v vs 0) 12) j ∧ w_ei ws (w_ar ws (n_v vs 0) 12) j ≤ 23999 := fun j h0 h1 => th_el hD hth cr_0_12 (kd := 0) (n := 48004) (m := 48004) (lo := 0) (hi := 23999) (rs := []) (L := []) rfl (by decide) (j := j.toNat) (by omega)
  have hE_0_13_1 : ∀ j : Int, w_ei ws (w_ar ws (n_v vs 0) 13) j = w_ei w1 (w_ar ws (n_v vs 0) 13) j := fun j => by unfold w_ei; rw [s1.1, if_neg (fun e => by have e1 := e.1; rw [← e1] at r6; rw [cr_0_13] at r6; exact absurd (Option.some.inj r6) (by decide))]
  have hK_0_13 : ∀ j : Int, 0 ≤ j → j < 48004 → (-1) ≤ w_ei ws (w_ar ws (n_v vs 0) 13) j ∧ w_ei ws (w_ar ws (n_v vs 0) 13) j ≤ 48003 := fun j h0 h1 => th_el hD hth cr_0_13 (kd := 0) (n := 48004) (m := 48004) (lo := (-1)) (hi := 48003) (rs := []) (L := []) rfl (by decide) (j := j.toNat) (by omega)
  have pe_0_4_5_1 : w_fi ws (n_v vs 0) 4 * w_fi ws (n_v vs 0) 5 = w_fi w1 (n_v vs 0) 4 * w_fi w1 (n_v vs 0) 5 := by rw [fe_0_4_1, fe_0_5_1]
  have kz_0_4 : (-2147483648) ≤ w_fi ws (n_v vs 0) 4 ∧ w_fi ws (n_v vs 0) 4 ≤ 2147483647 := tv_rng (th_fd hD hth r0 (g := GG_9) rfl (k := 4) (t := (0, -2147483648, 2147483647, [])) rfl rfl)
  have kz_0_5 : (-2147483648) ≤ w_fi ws (n_v vs 0) 5 ∧ w_fi ws (n_v vs 0) 5 ≤ 2147483647 := tv_rng (th_fd hD hth r0 (g := GG_9) rfl (k := 5) (t := (0, -2147483648, 2147483647, [])) rfl rfl)
  have kz_0_14 : 0 ≤ w_fi ws (n_v vs 0) 14 ∧ w_fi ws (n_v vs 0) 14 ≤ 48004 := tv_rng (th_fd hD hth r0 (g := GG_9) rfl (k := 14) (t := (0, 0, 48004, [])) rfl rfl)
  first | have qi1 := (hE_0_11_1 (v_iv (n_v vs 11)) (by omega)).1 (by omega) | have qi1 := (hE_0_11_1 (v_iv (n_v vs 11)) (by omega)).2 (by omega) | have qi1 := hE_0_11_1 (v_iv (n_v vs 11)) (by omega) | skip
  first | have qi2 := f5.1 (v_iv (n_v vs 11)) (by omega) (by omega) | have qi2 := f5.1 (v_iv (n_v vs 11)) (by omega) | skip
  first | have qi3 := hK_0_11 (v_iv (n_v vs 11)) (by omega) (by omega) | have qi3 := hK_0_11 (v_iv (n_v vs 11)) (by omega) | skip
  first | have qi4 := (hE_0_11_1 (v_iv (n_v vs 8)) (by omega)).1 (by omega) | have qi4 := (hE_0_11_1 (v_iv (n_v vs 8)) (by omega)).2 (by omega) | have qi4 := hE_0_11_1 (v_iv (n_v vs 8)) (by omega) | skip
  first | have qi5 := f5.1 (v_iv (n_v vs 8)) (by omega) (by omega) | have qi5 := f5.1 (v_iv (n_v vs 8)) (by omega) | skip
  first | have qi6 := hK_0_11 (v_iv (n_v vs 8)) (by omega) (by omega) | have qi6 := hK_0_11 (v_iv (n_v vs 8)) (by omega) | skip
  have nf0 : fc_1 (20, [0], [50, 3, 3, 14, 4, 5, 11, 12, 13, 2, 18, 5, 2, 0, 4, 0, 9, 4, 5, 3, 0, 11, 7, 0, 0, 1, 2, 0, 14, 5, 3, 2, 0, 14, 2, 23, 0, 9, 4, 5, 3, 0, 12, 7, 0, 0, 1, 6, 2, 0, 4, 6, 3, 2, 0, 4, 2, 0, 5, 0, 9, 4, 5, 3, 0, 13, 7, 0, 0, 1, 2, 0, 14]) ws (vs) := by
    refine ⟨fun n hn => ?_, ?_⟩
    · have hn : n ∈ [0] := hn
      rw [hl]
      simp only [List.mem_cons, List.not_mem_nil, or_false] at hn
      show n < 17; omega
    · show (∀ j0 : Int, 0 ≤ j0 → j0 < 4 → ((w_ei ws (w_ar ws (n_v vs 0) 11) (j0) + 1) ≤ w_fi ws (n_v vs 0) 14)) ∧ (∀ j0 : Int, 0 ≤ j0 → j0 < w_fi ws (n_v vs 0) 14 → (((w_ei ws (w_ar ws (n_v vs 0) 12) (j0) + 1) ≤ (4 * (w_fi ws (n_v vs 0) 4 * w_fi ws (n_v vs 0) 5))) ∧ ((w_ei ws (w_ar ws (n_v vs 0) 13) (j0) + 1) ≤ w_fi ws (n_v vs 0) 14)))
      first | omega | (exact ⟨by (intro j0 hj00 hj01; (first | have i1 := f5.1 (j0) hj00 | skip); (first | have i2 := f5.2 (j0) hj00 | skip); (first | have i3 := hK_0_11 (j0) hj00 | skip); (first | have i4 := hK_0_12 (j0) hj00 | skip); (first | have i5 := hK_0_13 (j0) hj00 | skip); (first | have i6 := hE_0_11_1 (j0) hj00 | skip); (first | have i7 := hE_0_12_1 (j0) | skip); (first | have i8 := hE_0_13_1 (j0) | skip); omega), by (intro j0 hj00 hj01; exact ⟨by ((first | have i9 := f5.1 (j0) hj00 | skip); (first | have i10 := f5.2 (j0) hj00 | skip); (first | have i11 := hK_0_11 (j0) hj00 | skip); (first | have i12 := hK_0_12 (j0) hj00 | skip); (first | have i13 := hK_0_13 (j0) hj00 | skip); (first | have i14 := hE_0_11_1 (j0) hj00 | skip); (first | have i15 := hE_0_12_1 (j0) | skip); (first | have i16 := hE_0_13_1 (j0) | skip); omega), by ((first | have i17 := f5.1 (j0) hj00 | skip); (first | have i18 := f5.2 (j0) hj00 | skip); (first | have i19 := hK_0_11 (j0) hj00 | skip); (first | have i20 := hK_0_12 (j0) hj00 | skip); (first | have i21 := hK_0_13 (j0) hj00 | skip); (first | have i22 := hE_0_11_1 (j0) hj00 | skip); (first | have i23 := hE_0_12_1 (j0) | skip); (first | have i24 := hE_0_13_1 (j0) | skip); omega)⟩)⟩) | (set_option maxHeartbeats 200000 in grind)
  have nf1 : fc_1 (20, [9, 0], [50, 1, 0, 1014, 0, 6, 4, 2, 1, 0, 0, 1, 2, 1, 14]) ws (vs) := by
    refine ⟨fun n hn => ?_, ?_⟩
    · have hn : n ∈ [9, 0] := hn
      rw [hl]
      simp only [List.mem_cons, List.not_mem_nil, or_false] at hn
      show n < 17; omega
    · show (v_iv (n_v vs 9) + 1) ≤ w_fi ws (n_v vs 0) 14
      first | omega | (omega) | (set_option maxHeartbeats 200000 in grind)
  refine ⟨(fun _ h => (by cases h)), [], trivial, ?_, (fun _ h => (by cases h))⟩
  rw [List.append_nil]
  exact List.forall_mem_cons.mpr ⟨⟨show (20 : Nat) < 100 from by decide, nf0⟩, List.forall_mem_cons.mpr ⟨⟨show (20 : Nat) < 100 from by decide, nf1⟩, (fun _ h => (by cases h))⟩⟩
def o_Ro_findCosts_4 : or_T := (124, 14, [(0, (2, 0, 0, [9])), (3, (0, 0, 48003, [])), (6, (0, -1, -1, [])), (8, (2, 0, 0, [114])), (9, (0, 0, 23999, [])), (11, (2, 0, 0, [115])), (12, (0, -1, 48003, []))], [(10, [12, 11, 3], []), (9, [11, 0], [13]), (10, [9, 8, 3], []), (9, [8, 0], [12]), (7, [3, 6], [1]), (20, [0], [50, 3, 3, 14, 4, 5, 11, 12, 13, 2, 18, 5, 2, 0, 4, 0, 9, 4, 5, 3, 0, 11, 7, 0, 0, 1, 2, 0, 14, 5, 3, 2, 0, 14, 2, 23, 0, 9, 4, 5, 3, 0, 12, 7, 0, 0, 1, 6, 2, 0, 4, 6, 3, 2, 0, 4, 2, 0, 5, 0, 9, 4, 5, 3, 0, 13, 7, 0, 0, 1, 2, 0, 14]), (20, [0], [50, 2, 0, 4, 5, 2, 7, 0, 2, 0, 1, 2, 0, 4, 2, 7, 0, 2, 0, 1, 2, 0, 5, 0, 8, 6, 3, 2, 0, 4, 2, 0, 5, 0, 6000]), (20, [3, 0], [50, 1, 0, 1014, 0, 6, 4, 2, 1, 0, 0, 1, 2, 1, 14])], [], [], [(20, [12, 0], [50, 1, 0, 1014, 0, 6, 4, 2, 1, 0, 0, 1, 2, 1, 14])], [], [])
set_option maxHeartbeats 8000000 in
theorem oo_Ro_findCosts_4 {kA : Nat → ClassId} : or_ok kA GG o_Ro_findCosts_4 := by
  intro A ta ws vs hD hth hl hk hds hf
  have hl : vs.length = 14 := hl
  have hk : ∀ q ∈ ([(0, (2, 0, 0, [9])), (3, (0, 0, 48003, [])), (6, (0, -1, -1, [])), (8, (2, 0, 0, [114])), (9, (0, 0, 23999, [])), (11, (2, 0, 0, [115])), (12, (0, -1, 48003, []))] : List (Nat × tv_T)), tv_ok ta q.2 (n_v vs q.1) := hk
  obtain ⟨t0, hk⟩ := List.forall_mem_cons.mp hk
  have t0 : tv_ok ta (2, 0, 0, [9]) (n_v vs 0) := t0
  have r0 : ta (v_ad (n_v vs 0)) = some 9 := tv_rg t0
  obtain ⟨t3, hk⟩ := List.forall_mem_cons.mp hk
  have t3 : tv_ok ta (0, 0, 48003, []) (n_v vs 3) := t3
  have k3 : 0 ≤ v_iv (n_v vs 3) ∧ v_iv (n_v vs 3) ≤ 48003 := tv_rng t3
  obtain ⟨t6, hk⟩ := List.forall_mem_cons.mp hk
  have t6 : tv_ok ta (0, -1, -1, []) (n_v vs 6) := t6
  have k6 : (-1) ≤ v_iv (n_v vs 6) ∧ v_iv (n_v vs 6) ≤ (-1) := tv_rng t6
  obtain ⟨t8, hk⟩ := List.forall_mem_cons.mp hk
  have t8 : tv_ok ta (2, 0, 0, [114]) (n_v vs 8) := t8
  have r8 : ta (v_ad (n_v vs 8)) = some 114 := tv_rg t8
  obtain ⟨t9, hk⟩ := List.forall_mem_cons.mp hk
  have t9 : tv_ok ta (0, 0, 23999, []) (n_v vs 9) := t9
  have k9 : 0 ≤ v_iv (n_v vs 9) ∧ v_iv (n_v vs 9) ≤ 23999 := tv_rng t9
  obtain ⟨t11, hk⟩ := List.forall_mem_cons.mp hk
  have t11 : tv_ok ta (2, 0, 0, [115]) (n_v vs 11) := t11
  have r11 : ta (v_ad (n_v vs 11)) = some 115 := tv_rg t11
  obtain ⟨t12, hk⟩ := List.forall_mem_cons.mp hk
  have t12 : tv_ok ta (0, -1, 48003, []) (n_v vs 12) := t12
  have k12 : (-1) ≤ v_iv (n_v vs 12) ∧ v_iv (n_v vs 12) ≤ 48003 := tv_rng t12
  have hf : fc_ok [(10, [12, 11, 3], []), (9, [11, 0], [13]), (10, [9, 8, 3], []), (9, [8, 0], [12]), (7, [3, 6], [1]), (20, [0], [50, 3, 3, 14, 4, 5, 11, 12, 13, 2, 18, 5, 2, 0, 4, 0, 9, 4, 5, 3, 0, 11, 7, 0, 0, 1, 2, 0, 14, 5, 3, 2, 0, 14, 2, 23, 0, 9, 4, 5, 3, 0, 12, 7, 0, 0, 1, 6, 2, 0, 4, 6, 3, 2, 0, 4, 2, 0, 5, 0, 9, 4, 5, 3, 0, 13, 7, 0, 0, 1, 2, 0, 14]), (20, [0], [50, 2, 0, 4, 5, 2, 7, 0, 2, 0, 1, 2, 0, 4, 2, 7, 0, 2, 0, 1, 2, 0, 5, 0, 8, 6, 3, 2, 0, 4, 2, 0, 5, 0, 6000]), (20, [3, 0], [50, 1, 0, 1014, 0, 6, 4, 2, 1, 0, 0, 1, 2, 1, 14])] ta ws vs := hf
  obtain ⟨f0, hf⟩ := fc_un (show (10 : Nat) < 100 from by decide) hf
  have f0 : v_iv (n_v vs 12) = w_el ws (v_ad (n_v vs 11)) (v_iv (n_v vs 3)).toNat := f0
  obtain ⟨f1, hf⟩ := fc_un (show (9 : Nat) < 100 from by decide) hf
  have f1 : n_v vs 11 = w_fd ws (v_ad (n_v vs 0)) 13 := f1
  obtain ⟨f2, hf⟩ := fc_un (show (10 : Nat) < 100 from by decide) hf
  have f2 : v_iv (n_v vs 9) = w_el ws (v_ad (n_v vs 8)) (v_iv (n_v vs 3)).toNat := f2
  obtain ⟨f3, hf⟩ := fc_un (show (9 : Nat) < 100 from by decide) hf
  have f3 : n_v vs 8 = w_fd ws (v_ad (n_v vs 0)) 12 := f3
  obtain ⟨f4, hf⟩ := fc_un (show (7 : Nat) < 100 from by decide) hf
  have f4 : v_iv (n_v vs 3) ≠ v_iv (n_v vs 6) := f4
  obtain ⟨f5, hf⟩ := fc_un (show (20 : Nat) < 100 from by decide) hf
  have f5 : (∀ j0 : Int, 0 ≤ j0 → j0 < 4 → ((w_ei ws (w_ar ws (n_v vs 0) 11) (j0) + 1) ≤ w_fi ws (n_v vs 0) 14)) ∧ (∀ j0 : Int, 0 ≤ j0 → j0 < w_fi ws (n_v vs 0) 14 → (((w_ei ws (w_ar ws (n_v vs 0) 12) (j0) + 1) ≤ (4 * (w_fi ws (n_v vs 0) 4 * w_fi ws (n_v vs 0) 5))) ∧ ((w_ei ws (w_ar ws (n_v vs 0) 13) (j0) + 1) ≤ w_fi ws (n_v vs 0) 14))) := f5
  obtain ⟨f6, hf⟩ := fc_un (show (20 : Nat) < 100 from by decide) hf
  have f6 : (1 ≤ w_fi ws (n_v vs 0) 4) ∧ ((1 ≤ w_fi ws (n_v vs 0) 5) ∧ ((w_fi ws (n_v vs 0) 4 * w_fi ws (n_v vs 0) 5) ≤ 6000)) := f6
  obtain ⟨f7, hf⟩ := fc_un (show (20 : Nat) < 100 from by decide) hf
  have f7 : (v_iv (n_v vs 3) + 1) ≤ w_fi ws (n_v vs 0) 14 := f7
  have cr_0_11 : ta (w_ar ws (n_v vs 0) 11) = some 113 := tv_rg (th_fd hD hth r0 (g := GG_9) rfl (k := 11) (t := (2, 0, 0, [113])) rfl rfl)
  have cr_0_12 : ta (w_ar ws (n_v vs 0) 12) = some 114 := tv_rg (th_fd hD hth r0 (g := GG_9) rfl (k := 12) (t := (2, 0, 0, [114])) rfl rfl)
  have cr_0_13 : ta (w_ar ws (n_v vs 0) 13) = some 115 := tv_rg (th_fd hD hth r0 (g := GG_9) rfl (k := 13) (t := (2, 0, 0, [115])) rfl rfl)
  have ad_11 : v_ad (n_v vs 11) = w_ar ws (n_v vs 0) 13 := congrArg v_ad f1
  have ad_8 : v_ad (n_v vs 8) = w_ar ws (n_v vs 0) 12 := congrArg v_ad f3
  rw [ad_11] at f0
  have h0 : v_iv (n_v vs 12) = w_ei ws (w_ar ws (n_v vs 0) 13) (v_iv (n_v vs 3)) := f0
  rw [ad_8] at f2
  have h2 : v_iv (n_v vs 9) = w_ei ws (w_ar ws (n_v vs 0) 12) (v_iv (n_v vs 3)) := f2
  have br_0_12_3_0 : w_ei ws (w_ar ws (n_v vs 0) 12) (v_iv (n_v vs 3)) = w_el ws (w_ar ws (n_v vs 0) 12) (v_iv (n_v vs 3)).toNat := rfl
  have br_0_13_3_0 : w_ei ws (w_ar ws (n_v vs 0) 13) (v_iv (n_v vs 3)) = w_el ws (w_ar ws (n_v vs 0) 13) (v_iv (n_v vs 3)).toNat := rfl
  have hK_0_11 : ∀ j : Int, 0 ≤ j → j < 4 → (-1) ≤ w_ei ws (w_ar ws (n_v vs 0) 11) j ∧ w_ei ws (w_ar ws (n_v vs 0) 11) j ≤ 48003 := fun j h0 h1 => th_el hD hth cr_0_11 (kd := 0) (n := 4) (m := 4) (lo := (-1)) (hi := 48003) (rs := []) (L := []) rfl (by decide) (j := j.toNat) (by omega)
  have hK_0_12 : ∀ j : Int, 0 ≤ j → j < 48004 → 0 ≤ w_ei ws (w_ar ws (n_v vs 0) 12) j ∧ w_ei ws (w_ar ws (n_v vs 0) 12) j ≤ 23999 := fun j h0 h1 => th_el hD hth cr_0_12 (kd := 0) (n := 48004) (m := 48004) (lo := 0) (hi := 23999) (rs := []) (L := []) rfl (by decide) (j := j.toNat) (by omega)
  have hK_0_13 : ∀ j : Int, 0 ≤ j → j < 48004 → (-1) ≤ w_ei ws (w_ar ws (n_v vs 0) 13) j ∧ w_ei ws (w_ar ws (n_v vs 0) 13) j ≤ 48003 := fun j h0 h1 => th_el hD hth cr_0_13 (kd := 0) (n := 48004) (m := 48004) (lo := (-1)) (hi := 48003) (rs := []) (L := []) rfl (by decide) (j := j.toNat) (by omega)
  have kz_0_4 : (-2147483648) ≤ w_fi ws (n_v vs 0) 4 ∧ w_fi ws (n_v vs 0) 4 ≤ 2147483647 := tv_rng (th_fd hD hth r0 (g := GG_9) rfl (k := 4) (t := (0, -2147483648, 2147483647, [])) rfl rfl)
  have kz_0_5 : (-2147483648) ≤ w_fi ws (n_v vs 0) 5 ∧ w_fi ws (n_v vs 0) 5 ≤ 2147483647 := tv_rng (th_fd hD hth r0 (g := GG_9) rfl (k := 5) (t := (0, -2147483648, 2147483647, [])) rfl rfl)
  have kz_0_14 : 0 ≤ w_fi ws (n_v vs 0) 14 ∧ w_fi ws (n_v vs 0) 14 ≤ 48004 := tv_rng (th_fd hD hth r0 (g := GG_9) rfl (k := 14) (t := (0, 0, 48004, [])) rfl rfl)
  first | have qi1 := f5.2 (v_iv (n_v vs 3)) (by omega) (by omega) | have qi1 := f5.2 (v_iv (n_v vs 3)) (by omega) | skip
  first | have qi2 := hK_0_12 (v_iv (n_v vs 3)) (by omega) (by omega) | have qi2 := hK_0_12 (v_iv (n_v vs 3)) (by omega) | skip
  first | have qi3 := f5.2 (v_iv (n_v vs 3)) (by omega) (by omega) | have qi3 := f5.2 (v_iv (n_v vs 3)) (by omega) | skip
  first | have qi4 := hK_0_13 (v_iv (n_v vs 3)) (by omega) (by omega) | have qi4 := hK_0_13 (v_iv (n_v vs 3)) (by omega) | skip
  have nf0 : fc_1 (20, [12, 0], [50, 1, 0, 1014, 0, 6, 4, 2, 1, 0, 0, 1, 2, 1, 14]) ws (vs) := by
    refine ⟨fun n hn => ?_, ?_⟩
    · have hn : n ∈ [12, 0] := hn
      rw [hl]
      simp only [List.mem_cons, List.not_mem_nil, or_false] at hn
      show n < 14; omega
    · show (v_iv (n_v vs 12) + 1) ≤ w_fi ws (n_v vs 0) 14
      first | omega | (omega) | (set_option maxHeartbeats 200000 in grind)
  refine ⟨(fun _ h => (by cases h)), [], trivial, ?_, (fun _ h => (by cases h))⟩
  rw [List.append_nil]
  exact List.forall_mem_cons.mpr ⟨⟨show (20 : Nat) < 100 from by decide, nf0⟩, (fun _ h => (by cases h))⟩
def o_Ro_findCosts_5 : or_T := (159, 12, [(0, (2, 0, 0, [9])), (3, (0, 0, 48003, [])), (6, (0, -1, -1, [])), (8, (2, 0, 0, [114])), (9, (0, 0, 23999, [])), (11, (0, 0, 23999, []))], [(10, [11, 8, 3], []), (9, [8, 0], [12]), (10, [9, 8, 3], []), (7, [3, 6], [1]), (20, [0], [50, 3, 3, 14, 4, 5, 11, 12, 13, 2, 18, 5, 2, 0, 4, 0, 9, 4, 5, 3, 0, 11, 7, 0, 0, 1, 2, 0, 14, 5, 3, 2, 0, 14, 2, 23, 0, 9, 4, 5, 3, 0, 12, 7, 0, 0, 1, 6, 2, 0, 4, 6, 3, 2, 0, 4, 2, 0, 5, 0, 9, 4, 5, 3, 0, 13, 7, 0, 0, 1, 2, 0, 14]), (20, [0], [50, 2, 0, 4, 5, 2, 7, 0, 2, 0, 1, 2, 0, 4, 2, 7, 0, 2, 0, 1, 2, 0, 5, 0, 8, 6, 3, 2, 0, 4, 2, 0, 5, 0, 6000]), (20, [3, 0], [50, 1, 0, 1014, 0, 6, 4, 2, 1, 0, 0, 1, 2, 1, 14])], [], [(0, 0, 48004, [])], [(20, [0], [50, 2, 0, 4, 5, 2, 7, 0, 2, 0, 1, 2, 0, 4, 2, 7, 0, 2, 0, 1, 2, 0, 5, 0, 8, 6, 3, 2, 0, 4, 2, 0, 5, 0, 6000]), (20, [11, 0], [50, 2, 0, 1004, 1005, 0, 6, 4, 2, 1, 0, 0, 1, 6, 2, 0, 4, 6, 3, 2, 1, 4, 2, 1, 5]), (20, [0], [50, 3, 3, 14, 4, 5, 11, 12, 13, 2, 18, 5, 2, 0, 4, 0, 9, 4, 5, 3, 0, 11, 7, 0, 0, 1, 2, 0, 14, 5, 3, 2, 0, 14, 2, 23, 0, 9, 4, 5, 3, 0, 12, 7, 0, 0, 1, 6, 2, 0, 4, 6, 3, 2, 0, 4, 2, 0, 5, 0, 9, 4, 5, 3, 0, 13, 7, 0, 0, 1, 2, 0, 14]), (20, [0, 12], [30, 0, 1, 1, 14, -1, 0, 0]), (20, [0, 12], [30, 0, -1, 1, 14, 1, 0, 0]), (23, [3, 12], [-1, 1, -1])], [], [])
set_option maxHeartbeats 8000000 in
theorem oo_Ro_findCosts_5 {kA : Nat → ClassId} : or_ok kA GG o_Ro_findCosts_5 := by
  intro A ta ws vs hD hth hl hk hds hf
  have hl : vs.length = 12 := hl
  have hk : ∀ q ∈ ([(0, (2, 0, 0, [9])), (3, (0, 0, 48003, [])), (6, (0, -1, -1, [])), (8, (2, 0, 0, [114])), (9, (0, 0, 23999, [])), (11, (0, 0, 23999, []))] : List (Nat × tv_T)), tv_ok ta q.2 (n_v vs q.1) := hk
  obtain ⟨t0, hk⟩ := List.forall_mem_cons.mp hk
  have t0 : tv_ok ta (2, 0, 0, [9]) (n_v vs 0) := t0
  have r0 : ta (v_ad (n_v vs 0)) = some 9 := tv_rg t0
  obtain ⟨t3, hk⟩ := List.forall_mem_cons.mp hk
  have t3 : tv_ok ta (0, 0, 48003, []) (n_v vs 3) := t3
  have k3 : 0 ≤ v_iv (n_v vs 3) ∧ v_iv (n_v vs 3) ≤ 48003 := tv_rng t3
  obtain ⟨t6, hk⟩ := List.forall_mem_cons.mp hk
  have t6 : tv_ok ta (0, -1, -1, []) (n_v vs 6) := t6
  have k6 : (-1) ≤ v_iv (n_v vs 6) ∧ v_iv (n_v vs 6) ≤ (-1) := tv_rng t6
  obtain ⟨t8, hk⟩ := List.forall_mem_cons.mp hk
  have t8 : tv_ok ta (2, 0, 0, [114]) (n_v vs 8) := t8
  have r8 : ta (v_ad (n_v vs 8)) = some 114 := tv_rg t8
  obtain ⟨t9, hk⟩ := List.forall_mem_cons.mp hk
  have t9 : tv_ok ta (0, 0, 23999, []) (n_v vs 9) := t9
  have k9 : 0 ≤ v_iv (n_v vs 9) ∧ v_iv (n_v vs 9) ≤ 23999 := tv_rng t9
  obtain ⟨t11, hk⟩ := List.forall_mem_cons.mp hk
  have t11 : tv_ok ta (0, 0, 23999, []) (n_v vs 11) := t11
  have k11 : 0 ≤ v_iv (n_v vs 11) ∧ v_iv (n_v vs 11) ≤ 23999 := tv_rng t11
  have hf : fc_ok [(10, [11, 8, 3], []), (9, [8, 0], [12]), (10, [9, 8, 3], []), (7, [3, 6], [1]), (20, [0], [50, 3, 3, 14, 4, 5, 11, 12, 13, 2, 18, 5, 2, 0, 4, 0, 9, 4, 5, 3, 0, 11, 7, 0, 0, 1, 2, 0, 14, 5, 3, 2, 0, 14, 2, 23, 0, 9, 4, 5, 3, 0, 12, 7, 0, 0, 1, 6, 2, 0, 4, 6, 3, 2, 0, 4, 2, 0, 5, 0, 9, 4, 5, 3, 0, 13, 7, 0, 0, 1, 2, 0, 14]), (20, [0], [50, 2, 0, 4, 5, 2, 7, 0, 2, 0, 1, 2, 0, 4, 2, 7, 0, 2, 0, 1, 2, 0, 5, 0, 8, 6, 3, 2, 0, 4, 2, 0, 5, 0, 6000]), (20, [3, 0], [50, 1, 0, 1014, 0, 6, 4, 2, 1, 0, 0, 1, 2, 1, 14])] ta ws vs := hf
  obtain ⟨f0, hf⟩ := fc_un (show (10 : Nat) < 100 from by decide) hf
  have f0 : v_iv (n_v vs 11) = w_el ws (v_ad (n_v vs 8)) (v_iv (n_v vs 3)).toNat := f0
  obtain ⟨f1, hf⟩ := fc_un (show (9 : Nat) < 100 from by decide) hf
  have f1 : n_v vs 8 = w_fd ws (v_ad (n_v vs 0)) 12 := f1
  obtain ⟨f2, hf⟩ := fc_un (show (10 : Nat) < 100 from by decide) hf
  have f2 : v_iv (n_v vs 9) = w_el ws (v_ad (n_v vs 8)) (v_iv (n_v vs 3)).toNat := f2
  obtain ⟨f3, hf⟩ := fc_un (show (7 : Nat) < 100 from by decide) hf
  have f3 : v_iv (n_v vs 3) ≠ v_iv (n_v vs 6) := f3
  obtain ⟨f4, hf⟩ := fc_un (show (20 : Nat) < 100 from by decide) hf
  have f4 : (∀ j0 : Int, 0 ≤ j0 → j0 < 4 → ((w_ei ws (w_ar ws (n_v vs 0) 11) (j0) + 1) ≤ w_fi ws (n_v vs 0) 14)) ∧ (∀ j0 : Int, 0 ≤ j0 → j0 < w_fi ws (n_v vs 0) 14 → (((w_ei ws (w_ar ws (n_v vs 0) 12) (j0) + 1) ≤ (4 * (w_fi ws (n_v vs 0) 4 * w_fi ws (n_v vs 0) 5))) ∧ ((w_ei ws (w_ar ws (n_v vs 0) 13) (j0) + 1) ≤ w_fi ws (n_v vs 0) 14))) := f4
  obtain ⟨f5, hf⟩ := fc_un (show (20 : Nat) < 100 from by decide) hf
  have f5 : (1 ≤ w_fi ws (n_v vs 0) 4) ∧ ((1 ≤ w_fi ws (n_v vs 0) 5) ∧ ((w_fi ws (n_v vs 0) 4 * w_fi ws (n_v vs 0) 5) ≤ 6000)) := f5
  obtain ⟨f6, hf⟩ := fc_un (show (20 : Nat) < 100 from by decide) hf
  have f6 : (v_iv (n_v vs 3) + 1) ≤ w_fi ws (n_v vs 0) 14 := f6
  have cr_0_11 : ta (w_ar ws (n_v vs 0) 11) = some 113 := tv_rg (th_fd hD hth r0 (g := GG_9) rfl (k := 11) (t := (2, 0, 0, [113])) rfl rfl)
  have cr_0_12 : ta (w_ar ws (n_v vs 0) 12) = some 114 := tv_rg (th_fd hD hth r0 (g := GG_9) rfl (k := 12) (t := (2, 0, 0, [114])) rfl rfl)
  have cr_0_13 : ta (w_ar ws (n_v vs 0) 13) = some 115 := tv_rg (th_fd hD hth r0 (g := GG_9) rfl (k := 13) (t := (2, 0, 0, [115])) rfl rfl)
  have ad_8 : v_ad (n_v vs 8) = w_ar ws (n_v vs 0) 12 := congrArg v_ad f1
  rw [ad_8] at f0
  have h0 : v_iv (n_v vs 11) = w_ei ws (w_ar ws (n_v vs 0) 12) (v_iv (n_v vs 3)) := f0
  rw [ad_8] at f2
  have h2 : v_iv (n_v vs 9) = w_ei ws (w_ar ws (n_v vs 0) 12) (v_iv (n_v vs 3)) := f2
  have br_0_12_3_0 : w_ei ws (w_ar ws (n_v vs 0) 12) (v_iv (n_v vs 3)) = w_el ws (w_ar ws (n_v vs 0) 12) (v_iv (n_v vs 3)).toNat := rfl
  have hK_0_11 : ∀ j : Int, 0 ≤ j → j < 4 → (-1) ≤ w_ei ws (w_ar ws (n_v vs 0) 11) j ∧ w_ei ws (w_ar ws (n_v vs 0) 11) j ≤ 48003 := fun j h0 h1 => th_el hD hth cr_0_11 (kd := 0) (n := 4) (m := 4) (lo := (-1)) (hi := 48003) (rs := []) (L := []) rfl (by decide) (j := j.toNat) (by omega)
  have hK_0_12 : ∀ j : Int, 0 ≤ j → j < 48004 → 0 ≤ w_ei ws (w_ar ws (n_v vs 0) 12) j ∧ w_ei ws (w_ar ws (n_v vs 0) 12) j ≤ 23999 := fun j h0 h1 => th_el hD hth cr_0_12 (kd := 0) (n := 48004) (m := 48004) (lo := 0) (hi := 23999) (rs := []) (L := []) rfl (by decide) (j := j.toNat) (by omega)
  have hK_0_13 : ∀ j : Int, 0 ≤ j → j < 48004 → (-1) ≤ w_ei ws (w_ar ws (n_v vs 0) 13) j ∧ w_ei ws (w_ar ws (n_v vs 0) 13) j ≤ 48003 := fun j h0 h1 => th_el hD hth cr_0_13 (kd := 0) (n := 48004) (m := 48004) (lo := (-1)) (hi := 48003) (rs := []) (L := []) rfl (by decide) (j := j.toNat) (by omega)
  have kz_0_4 : (-2147483648) ≤ w_fi ws (n_v vs 0) 4 ∧ w_fi ws (n_v vs 0) 4 ≤ 2147483647 := tv_rng (th_fd hD hth r0 (g := GG_9) rfl (k := 4) (t := (0, -2147483648, 2147483647, [])) rfl rfl)
  have kz_0_5 : (-2147483648) ≤ w_fi ws (n_v vs 0) 5 ∧ w_fi ws (n_v vs 0) 5 ≤ 2147483647 := tv_rng (th_fd hD hth r0 (g := GG_9) rfl (k := 5) (t := (0, -2147483648, 2147483647, [])) rfl rfl)
  have kz_0_14 : 0 ≤ w_fi ws (n_v vs 0) 14 ∧ w_fi ws (n_v vs 0) 14 ≤ 48004 := tv_rng (th_fd hD hth r0 (g := GG_9) rfl (k := 14) (t := (0, 0, 48004, [])) rfl rfl)
  first | have qi1 := f4.2 (v_iv (n_v vs 3)) (by omega) (by omega) | have qi1 := f4.2 (v_iv (n_v vs 3)) (by omega) | skip
  first | have qi2 := hK_0_12 (v_iv (n_v vs 3)) (by omega) (by omega) | have qi2 := hK_0_12 (v_iv (n_v vs 3)) (by omega) | skip
  have kv0 : 0 ≤ w_fi ws (n_v vs 0) 14 ∧ w_fi ws (n_v vs 0) 14 ≤ 48004 := tv_rng (th_fd hD hth r0 (g := GG_9) rfl (k := 14) (t := (0, 0, 48004, [])) rfl rfl)
  obtain ⟨x, ex, hx⟩ := iv_ex (ta := ta) (lo := 0) (hi := 48004) (z := w_fi ws (n_v vs 0) 14) (by omega) (by omega) (by omega) (by omega)
  have ex2 : v_iv (Value.int x) = w_fi ws (n_v vs 0) 14 := ex
  have ex3 : 0 ≤ v_iv (Value.int x) ∧ v_iv (Value.int x) ≤ 48004 := tv_rng hx
  have e_0 : n_v (vs ++ [Value.int x]) 0 = n_v vs 0 := n_v_old (by rw [hl]; decide)
  have e_3 : n_v (vs ++ [Value.int x]) 3 = n_v vs 3 := n_v_old (by rw [hl]; decide)
  have e_11 : n_v (vs ++ [Value.int x]) 11 = n_v vs 11 := n_v_old (by rw [hl]; decide)
  have e_12 : n_v (vs ++ [Value.int x]) 12 = Value.int x := n_v_new hl
  have nf0 : fc_1 (20, [0], [50, 2, 0, 4, 5, 2, 7, 0, 2, 0, 1, 2, 0, 4, 2, 7, 0, 2, 0, 1, 2, 0, 5, 0, 8, 6, 3, 2, 0, 4, 2, 0, 5, 0, 6000]) ws (vs ++ [Value.int x]) := by
    refine ⟨fun n hn => ?_, ?_⟩
    · have hn : n ∈ [0] := hn
      rw [List.length_append, hl]
      simp only [List.mem_cons, List.not_mem_nil, or_false] at hn
      show n < 12 + 1; omega
    · show (1 ≤ w_fi ws (n_v (vs ++ [Value.int x]) 0) 4) ∧ ((1 ≤ w_fi ws (n_v (vs ++ [Value.int x]) 0) 5) ∧ ((w_fi ws (n_v (vs ++ [Value.int x]) 0) 4 * w_fi ws (n_v (vs ++ [Value.int x]) 0) 5) ≤ 6000))
      rw [e_0]
      first | omega | (exact ⟨by (omega), by (exact ⟨by (omega), by (omega)⟩)⟩) | (set_option maxHeartbeats 200000 in grind)
  have nf1 : fc_1 (20, [11, 0], [50, 2, 0, 1004, 1005, 0, 6, 4, 2, 1, 0, 0, 1, 6, 2, 0, 4, 6, 3, 2, 1, 4, 2, 1, 5]) ws (vs ++ [Value.int x]) := by
    refine ⟨fun n hn => ?_, ?_⟩
    · have hn : n ∈ [11, 0] := hn
      rw [List.length_append, hl]
      simp only [List.mem_cons, List.not_mem_nil, or_false] at hn
      show n < 12 + 1; omega
    · show (v_iv (n_v (vs ++ [Value.int x]) 11) + 1) ≤ (4 * (w_fi ws (n_v (vs ++ [Value.int x]) 0) 4 * w_fi ws (n_v (vs ++ [Value.int x]) 0) 5))
      rw [e_0]
      rw [e_11]
      first | omega | (omega) | (set_option maxHeartbeats 200000 in grind)
  have nf2 : fc_1 (20, [0], [50, 3, 3, 14, 4, 5, 11, 12, 13, 2, 18, 5, 2, 0, 4, 0, 9, 4, 5, 3, 0, 11, 7, 0, 0, 1, 2, 0, 14, 5, 3, 2, 0, 14, 2, 23, 0, 9, 4, 5, 3, 0, 12, 7, 0, 0, 1, 6, 2, 0, 4, 6, 3, 2, 0, 4, 2, 0, 5, 0, 9, 4, 5, 3, 0, 13, 7, 0, 0, 1, 2, 0, 14]) ws (vs ++ [Value.int x]) := by
    refine ⟨fun n hn => ?_, ?_⟩
    · have hn : n ∈ [0] := hn
      rw [List.length_append, hl]
      simp only [List.mem_cons, List.not_mem_nil, or_false] at hn
      show n < 12 + 1; omega
    · show (∀ j0 : Int, 0 ≤ j0 → j0 < 4 → ((w_ei ws (w_ar ws (n_v (vs ++ [Value.int x]) 0) 11) (j0) + 1) ≤ w_fi ws (n_v (vs ++ [Value.int x]) 0) 14)) ∧ (∀ j0 : Int, 0 ≤ j0 → j0 < w_fi ws (n_v (vs ++ [Value.int x]) 0) 14 → (((w_ei ws (w_ar ws (n_v (vs ++ [Value.int x]) 0) 12) (j0) + 1) ≤ (4 * (w_fi ws (n_v (vs ++ [Value.int x]) 0) 4 * w_fi ws (n_v (vs ++ [Value.int x]) 0) 5))) ∧ ((w_ei ws (w_ar ws (n_v (vs ++ [Value.int x]) 0) 13) (j0) + 1) ≤ w_fi ws (n_v (vs ++ [Value.int x]) 0) 14)))
      rw [e_0]
      first | omega | (exact ⟨by (intro j0 hj00 hj01; (first | have i1 := f4.1 (j0) hj00 | skip); (first | have i2 := f4.2 (j0) hj00 | skip); (first | have i3 := hK_0_11 (j0) hj00 | skip); (first | have i4 := hK_0_12 (j0) hj00 | skip); (first | have i5 := hK_0_13 (j0) hj00 | skip); omega), by (intro j0 hj00 hj01; exact ⟨by ((first | have i6 := f4.1 (j0) hj00 | skip); (first | have i7 := f4.2 (j0) hj00 | skip); (first | have i8 := hK_0_11 (j0) hj00 | skip); (first | have i9 := hK_0_12 (j0) hj00 | skip); (first | have i10 := hK_0_13 (j0) hj00 | skip); omega), by ((first | have i11 := f4.1 (j0) hj00 | skip); (first | have i12 := f4.2 (j0) hj00 | skip); (first | have i13 := hK_0_11 (j0) hj00 | skip); (first | have i14 := hK_0_12 (j0) hj00 | skip); (first | have i15 := hK_0_13 (j0) hj00 | skip); omega)⟩)⟩) | (set_option maxHeartbeats 200000 in grind)
  have nf3 : fc_1 (20, [0, 12], [30, 0, 1, 1, 14, -1, 0, 0]) ws (vs ++ [Value.int x]) := by
    refine ⟨fun n hn => ?_, ?_⟩
    · have hn : n ∈ [0, 12] := hn
      rw [List.length_append, hl]
      simp only [List.mem_cons, List.not_mem_nil, or_false] at hn
      show n < 12 + 1; omega
    · show 1 * w_fi ws (n_v (vs ++ [Value.int x]) 0) 14 + ((-1) * v_iv (n_v (vs ++ [Value.int x]) 12) + 0) ≤ 0
      rw [e_0]
      rw [e_12]
      omega
  have nf4 : fc_1 (20, [0, 12], [30, 0, -1, 1, 14, 1, 0, 0]) ws (vs ++ [Value.int x]) := by
    refine ⟨fun n hn => ?_, ?_⟩
    · have hn : n ∈ [0, 12] := hn
      rw [List.length_append, hl]
      simp only [List.mem_cons, List.not_mem_nil, or_false] at hn
      show n < 12 + 1; omega
    · show (-1) * w_fi ws (n_v (vs ++ [Value.int x]) 0) 14 + (1 * v_iv (n_v (vs ++ [Value.int x]) 12) + 0) ≤ 0
      rw [e_0]
      rw [e_12]
      omega
  have nf5 : fc_1 (23, [3, 12], [-1, 1, -1]) ws (vs ++ [Value.int x]) := by
    refine ⟨fun n hn => ?_, ?_⟩
    · have hn : n ∈ [3, 12] := hn
      rw [List.length_append, hl]
      simp only [List.mem_cons, List.not_mem_nil, or_false] at hn
      show n < 12 + 1; omega
    · show 1 * v_iv (n_v (vs ++ [Value.int x]) 3) + ((-1) * v_iv (n_v (vs ++ [Value.int x]) 12) + 0) ≤ (-1)
      rw [e_3]
      rw [e_12]
      omega
  exact ⟨(fun _ h => (by cases h)), [Value.int x], ag_one hx, List.forall_mem_cons.mpr ⟨⟨show (20 : Nat) < 100 from by decide, nf0⟩, List.forall_mem_cons.mpr ⟨⟨show (20 : Nat) < 100 from by decide, nf1⟩, List.forall_mem_cons.mpr ⟨⟨show (20 : Nat) < 100 from by decide, nf2⟩, List.forall_mem_cons.mpr ⟨⟨show (20 : Nat) < 100 from by decide, nf3⟩, List.forall_mem_cons.mpr ⟨⟨show (20 : Nat) < 100 from by decide, nf4⟩, List.forall_mem_cons.mpr ⟨⟨show (23 : Nat) < 100 from by decide, nf5⟩, (fun _ h => (by cases h))⟩⟩⟩⟩⟩⟩, (fun _ h => (by cases h))⟩
def o_Ro_findCosts_6 : or_T := (124, 16, [(0, (2, 0, 0, [9])), (3, (0, 0, 48003, [])), (6, (0, -1, -1, [])), (8, (2, 0, 0, [114])), (11, (0, 0, 23999, [])), (12, (0, 0, 48004, [])), (13, (2, 0, 0, [115])), (14, (0, -1, 48003, []))], [(9, [8, 0], [12]), (10, [14, 13, 3], []), (9, [13, 0], [13]), (20, [0], [50, 2, 0, 4, 5, 2, 7, 0, 2, 0, 1, 2, 0, 4, 2, 7, 0, 2, 0, 1, 2, 0, 5, 0, 8, 6, 3, 2, 0, 4, 2, 0, 5, 0, 6000]), (20, [11, 0], [50, 2, 0, 1004, 1005, 0, 6, 4, 2, 1, 0, 0, 1, 6, 2, 0, 4, 6, 3, 2, 1, 4, 2, 1, 5]), (23, [3, 12], [-1, 1, -1]), (20, [0], [50, 2, 0, 4, 5, 2, 7, 0, 2, 0, 1, 2, 0, 4, 2, 7, 0, 2, 0, 1, 2, 0, 5, 0, 8, 6, 3, 2, 0, 4, 2, 0, 5, 0, 6000]), (20, [0], [50, 3, 3, 14, 4, 5, 11, 12, 13, 2, 18, 5, 2, 0, 4, 0, 9, 4, 5, 3, 0, 11, 7, 0, 0, 1, 2, 0, 14, 5, 3, 2, 0, 14, 2, 23, 0, 9, 4, 5, 3, 0, 12, 7, 0, 0, 1, 6, 2, 0, 4, 6, 3, 2, 0, 4, 2, 0, 5, 0, 9, 4, 5, 3, 0, 13, 7, 0, 0, 1, 2, 0, 14]), (20, [12, 0], [30, 0, 1, 0, 0, -1, 1, 14]), (102, [12], [77884452878022414427957444938301440, 9008, 9014]), (23, [3, 12], [-1, 1, -1]), (7, [3, 6], [1])], [], [], [(20, [14, 0], [50, 1, 0, 1014, 0, 6, 4, 2, 1, 0, 0, 1, 2, 1, 14])], [], [])
set_option maxHeartbeats 8000000 in
theorem oo_Ro_findCosts_6 {kA : Nat → ClassId} : or_ok kA GG o_Ro_findCosts_6 := by
  intro A ta ws vs hD hth hl hk hds hf
  have hl : vs.length = 16 := hl
  have hk : ∀ q ∈ ([(0, (2, 0, 0, [9])), (3, (0, 0, 48003, [])), (6, (0, -1, -1, [])), (8, (2, 0, 0, [114])), (11, (0, 0, 23999, [])), (12, (0, 0, 48004, [])), (13, (2, 0, 0, [115])), (14, (0, -1, 48003, []))] : List (Nat × tv_T)), tv_ok ta q.2 (n_v vs q.1) := hk
  obtain ⟨t0, hk⟩ := List.forall_mem_cons.mp hk
  have t0 : tv_ok ta (2, 0, 0, [9]) (n_v vs 0) := t0
  have r0 : ta (v_ad (n_v vs 0)) = some 9 := tv_rg t0
  obtain ⟨t3, hk⟩ := List.forall_mem_cons.mp hk
  have t3 : tv_ok ta (0, 0, 48003, []) (n_v vs 3) := t3
  have k3 : 0 ≤ v_iv (n_v vs 3) ∧ v_iv (n_v vs 3) ≤ 48003 := tv_rng t3
  obtain ⟨t6, hk⟩ := List.forall_mem_cons.mp hk
  have t6 : tv_ok ta (0, -1, -1, []) (n_v vs 6) := t6
  have k6 : (-1) ≤ v_iv (n_v vs 6) ∧ v_iv (n_v vs 6) ≤ (-1) := tv_rng t6
  obtain ⟨t8, hk⟩ := List.forall_mem_cons.mp hk
  have t8 : tv_ok ta (2, 0, 0, [114]) (n_v vs 8) := t8
  have r8 : ta (v_ad (n_v vs 8)) = some 114 := tv_rg t8
  obtain ⟨t11, hk⟩ := List.forall_mem_cons.mp hk
  have t11 : tv_ok ta (0, 0, 23999, []) (n_v vs 11) := t11
  have k11 : 0 ≤ v_iv (n_v vs 11) ∧ v_iv (n_v vs 11) ≤ 23999 := tv_rng t11
  obtain ⟨t12, hk⟩ := List.forall_mem_cons.mp hk
  have t12 : tv_ok ta (0, 0, 48004, []) (n_v vs 12) := t12
  have k12 : 0 ≤ v_iv (n_v vs 12) ∧ v_iv (n_v vs 12) ≤ 48004 := tv_rng t12
  obtain ⟨t13, hk⟩ := List.forall_mem_cons.mp hk
  have t13 : tv_ok ta (2, 0, 0, [115]) (n_v vs 13) := t13
  have r13 : ta (v_ad (n_v vs 13)) = some 115 := tv_rg t13
  obtain ⟨t14, hk⟩ := List.forall_mem_cons.mp hk
  have t14 : tv_ok ta (0, -1, 48003, []) (n_v vs 14) := t14
  have k14 : (-1) ≤ v_iv (n_v vs 14) ∧ v_iv (n_v vs 14) ≤ 48003 := tv_rng t14
  have hf : fc_ok [(9, [8, 0], [12]), (10, [14, 13, 3], []), (9, [13, 0], [13]), (20, [0], [50, 2, 0, 4, 5, 2, 7, 0, 2, 0, 1, 2, 0, 4, 2, 7, 0, 2, 0, 1, 2, 0, 5, 0, 8, 6, 3, 2, 0, 4, 2, 0, 5, 0, 6000]), (20, [11, 0], [50, 2, 0, 1004, 1005, 0, 6, 4, 2, 1, 0, 0, 1, 6, 2, 0, 4, 6, 3, 2, 1, 4, 2, 1, 5]), (23, [3, 12], [-1, 1, -1]), (20, [0], [50, 2, 0, 4, 5, 2, 7, 0, 2, 0, 1, 2, 0, 4, 2, 7, 0, 2, 0, 1, 2, 0, 5, 0, 8, 6, 3, 2, 0, 4, 2, 0, 5, 0, 6000]), (20, [0], [50, 3, 3, 14, 4, 5, 11, 12, 13, 2, 18, 5, 2, 0, 4, 0, 9, 4, 5, 3, 0, 11, 7, 0, 0, 1, 2, 0, 14, 5, 3, 2, 0, 14, 2, 23, 0, 9, 4, 5, 3, 0, 12, 7, 0, 0, 1, 6, 2, 0, 4, 6, 3, 2, 0, 4, 2, 0, 5, 0, 9, 4, 5, 3, 0, 13, 7, 0, 0, 1, 2, 0, 14]), (20, [12, 0], [30, 0, 1, 0, 0, -1, 1, 14]), (102, [12], [77884452878022414427957444938301440, 9008, 9014]), (23, [3, 12], [-1, 1, -1]), (7, [3, 6], [1])] ta ws vs := hf
  obtain ⟨f0, hf⟩ := fc_un (show (9 : Nat) < 100 from by decide) hf
  have f0 : n_v vs 8 = w_fd ws (v_ad (n_v vs 0)) 12 := f0
  obtain ⟨f1, hf⟩ := fc_un (show (10 : Nat) < 100 from by decide) hf
  have f1 : v_iv (n_v vs 14) = w_el ws (v_ad (n_v vs 13)) (v_iv (n_v vs 3)).toNat := f1
  obtain ⟨f2, hf⟩ := fc_un (show (9 : Nat) < 100 from by decide) hf
  have f2 : n_v vs 13 = w_fd ws (v_ad (n_v vs 0)) 13 := f2
  obtain ⟨f3, hf⟩ := fc_un (show (20 : Nat) < 100 from by decide) hf
  have f3 : (1 ≤ w_fi ws (n_v vs 0) 4) ∧ ((1 ≤ w_fi ws (n_v vs 0) 5) ∧ ((w_fi ws (n_v vs 0) 4 * w_fi ws (n_v vs 0) 5) ≤ 6000)) := f3
  obtain ⟨f4, hf⟩ := fc_un (show (20 : Nat) < 100 from by decide) hf
  have f4 : (v_iv (n_v vs 11) + 1) ≤ (4 * (w_fi ws (n_v vs 0) 4 * w_fi ws (n_v vs 0) 5)) := f4
  obtain ⟨f5, hf⟩ := fc_un (show (23 : Nat) < 100 from by decide) hf
  have f5 : 1 * v_iv (n_v vs 3) + ((-1) * v_iv (n_v vs 12) + 0) ≤ (-1) := f5
  obtain ⟨f6, hf⟩ := fc_un (show (20 : Nat) < 100 from by decide) hf
  have f6 : (1 ≤ w_fi ws (n_v vs 0) 4) ∧ ((1 ≤ w_fi ws (n_v vs 0) 5) ∧ ((w_fi ws (n_v vs 0) 4 * w_fi ws (n_v vs 0) 5) ≤ 6000)) := f6
  obtain ⟨f7, hf⟩ := fc_un (show (20 : Nat) < 100 from by decide) hf
  have f7 : (∀ j0 : Int, 0 ≤ j0 → j0 < 4 → ((w_ei ws (w_ar ws (n_v vs 0) 11) (j0) + 1) ≤ w_fi ws (n_v vs 0) 14)) ∧ (∀ j0 : Int, 0 ≤ j0 → j0 < w_fi ws (n_v vs 0) 14 → (((w_ei ws (w_ar ws (n_v vs 0) 12) (j0) + 1) ≤ (4 * (w_fi ws (n_v vs 0) 4 * w_fi ws (n_v vs 0) 5))) ∧ ((w_ei ws (w_ar ws (n_v vs 0) 13) (j0) + 1) ≤ w_fi ws (n_v vs 0) 14))) := f7
  obtain ⟨f8, hf⟩ := fc_un (show (20 : Nat) < 100 from by decide) hf
  have f8 : 1 * v_iv (n_v vs 12) + ((-1) * w_fi ws (n_v vs 0) 14 + 0) ≤ 0 := f8
  obtain ⟨ta1, w1, le1, ⟨_, s1⟩, hf⟩ := fc_us (show ¬ (102 : Nat) < 100 from by decide) hf
  obtain ⟨f10, hf⟩ := fc_un (show (23 : Nat) < 100 from by decide) hf
  have f10 : 1 * v_iv (n_v vs 3) + ((-1) * v_iv (n_v vs 12) + 0) ≤ (-1) := f10
  obtain ⟨f11, hf⟩ := fc_un (show (7 : Nat) < 100 from by decide) hf
  have f11 : v_iv (n_v vs 3) ≠ v_iv (n_v vs 6) := f11
  have cr_0_11 : ta (w_ar ws (n_v vs 0) 11) = some 113 := tv_rg (th_fd hD hth r0 (g := GG_9) rfl (k := 11) (t := (2, 0, 0, [113])) rfl rfl)
  have cr_0_12 : ta (w_ar ws (n_v vs 0) 12) = some 114 := tv_rg (th_fd hD hth r0 (g := GG_9) rfl (k := 12) (t := (2, 0, 0, [114])) rfl rfl)
  have cr_0_13 : ta (w_ar ws (n_v vs 0) 13) = some 115 := tv_rg (th_fd hD hth r0 (g := GG_9) rfl (k := 13) (t := (2, 0, 0, [115])) rfl rfl)
  have ad_8 : v_ad (n_v vs 8) = w_ar ws (n_v vs 0) 12 := congrArg v_ad f0
  have ad_13 : v_ad (n_v vs 13) = w_ar ws (n_v vs 0) 13 := congrArg v_ad f2
  rw [ad_13] at f1
  have h1 : v_iv (n_v vs 14) = w_ei ws (w_ar ws (n_v vs 0) 13) (v_iv (n_v vs 3)) := f1
  have br_0_13_3_0 : w_ei ws (w_ar ws (n_v vs 0) 13) (v_iv (n_v vs 3)) = w_el ws (w_ar ws (n_v vs 0) 13) (v_iv (n_v vs 3)).toNat := rfl
  have hK_0_11 : ∀ j : Int, 0 ≤ j → j < 4 → (-1) ≤ w_ei ws (w_ar ws (n_v vs 0) 11) j ∧ w_ei ws (w_ar ws (n_v vs 0) 11) j ≤ 48003 := fun j h0 h1 => th_el hD hth cr_0_11 (kd := 0) (n := 4) (m := 4) (lo := (-1)) (hi := 48003) (rs := []) (L := []) rfl (by decide) (j := j.toNat) (by omega)
  have hK_0_12 : ∀ j : Int, 0 ≤ j → j < 48004 → 0 ≤ w_ei ws (w_ar ws (n_v vs 0) 12) j ∧ w_ei ws (w_ar ws (n_v vs 0) 12) j ≤ 23999 := fun j h0 h1 => th_el hD hth cr_0_12 (kd := 0) (n := 48004) (m := 48004) (lo := 0) (hi := 23999) (rs := []) (L := []) rfl (by decide) (j := j.toNat) (by omega)
  have hK_0_13 : ∀ j : Int, 0 ≤ j → j < 48004 → (-1) ≤ w_ei ws (w_ar ws (n_v vs 0) 13) j ∧ w_ei ws (w_ar ws (n_v vs 0) 13) j ≤ 48003 := fun j h0 h1 => th_el hD hth cr_0_13 (kd := 0) (n := 48004) (m := 48004) (lo := (-1)) (hi := 48003) (rs := []) (L := []) rfl (by decide) (j := j.toNat) (by omega)
  have kz_0_4 : (-2147483648) ≤ w_fi ws (n_v vs 0) 4 ∧ w_fi ws (n_v vs 0) 4 ≤ 2147483647 := tv_rng (th_fd hD hth r0 (g := GG_9) rfl (k := 4) (t := (0, -2147483648, 2147483647, [])) rfl rfl)
  have kz_0_5 : (-2147483648) ≤ w_fi ws (n_v vs 0) 5 ∧ w_fi ws (n_v vs 0) 5 ≤ 2147483647 := tv_rng (th_fd hD hth r0 (g := GG_9) rfl (k := 5) (t := (0, -2147483648, 2147483647, [])) rfl rfl)
  have kz_0_14 : 0 ≤ w_fi ws (n_v vs 0) 14 ∧ w_fi ws (n_v vs 0) 14 ≤ 48004 := tv_rng (th_fd hD hth r0 (g := GG_9) rfl (k := 14) (t := (0, 0, 48004, [])) rfl rfl)
  first | have qi1 := f7.2 (v_iv (n_v vs 3)) (by omega) (by omega) | have qi1 := f7.2 (v_iv (n_v vs 3)) (by omega) | skip
  first | have qi2 := hK_0_13 (v_iv (n_v vs 3)) (by omega) (by omega) | have qi2 := hK_0_13 (v_iv (n_v vs 3)) (by omega) | skip
  have nf0 : fc_1 (20, [14, 0], [50, 1, 0, 1014, 0, 6, 4, 2, 1, 0, 0, 1, 2, 1, 14]) ws (vs) := by
    refine ⟨fun n hn => ?_, ?_⟩
    · have hn : n ∈ [14, 0] := hn
      rw [hl]
      simp only [List.mem_cons, List.not_mem_nil, or_false] at hn
      show n < 16; omega
    · show (v_iv (n_v vs 14) + 1) ≤ w_fi ws (n_v vs 0) 14
      first | omega | (omega) | (set_option maxHeartbeats 200000 in grind)
  refine ⟨(fun _ h => (by cases h)), [], trivial, ?_, (fun _ h => (by cases h))⟩
  rw [List.append_nil]
  exact List.forall_mem_cons.mpr ⟨⟨show (20 : Nat) < 100 from by decide, nf0⟩, (fun _ h => (by cases h))⟩
def n_Ro_findCosts_an : List an_T := [(43, [(0, (2, 0, 0, [9])), (1, (0, 0, 4, []))], [], (0, 0), [(0, 0, 99957), (1, 1, 4), (0, 0, 100000), (0, 0, 0), (0, 0, 0)], [], [], [], 0, [], [(20, [0], [50, 3, 3, 14, 4, 5, 11, 12, 13, 2, 18, 5, 2, 0, 4, 0, 9, 4, 5, 3, 0, 11, 7, 0, 0, 1, 2, 0, 14, 5, 3, 2, 0, 14, 2, 23, 0, 9, 4, 5, 3, 0, 12, 7, 0, 0, 1, 6, 2, 0, 4, 6, 3, 2, 0, 4, 2, 0, 5, 0, 9, 4, 5, 3, 0, 13, 7, 0, 0, 1, 2, 0, 14]), (20, [0], [50, 2, 0, 4, 5, 2, 7, 0, 2, 0, 1, 2, 0, 4, 2, 7, 0, 2, 0, 1, 2, 0, 5, 0, 8, 6, 3, 2, 0, 4, 2, 0, 5, 0, 6000]), (20, [0], [50, 3, 0, 7, 4, 5, 0, 7, 4, 3, 2, 0, 7, 0, 1, 6, 3, 2, 0, 4, 2, 0, 5])]), (71, [(0, (2, 0, 0, [9])), (1, (0, 0, 4, [])), (2, (0, -2147483646, 1000000, []))], [], (0, 0), [(0, 0, 99929), (1, 2, 1000000), (0, 0, 100000), (0, 0, 0), (0, 0, 0)], [(1, 2, -1000000000000, 2147483652)], [], [], 0, [], [(20, [0], [50, 3, 3, 14, 4, 5, 11, 12, 13, 2, 18, 5, 2, 0, 4, 0, 9, 4, 5, 3, 0, 11, 7, 0, 0, 1, 2, 0, 14, 5, 3, 2, 0, 14, 2, 23, 0, 9, 4, 5, 3, 0, 12, 7, 0, 0, 1, 6, 2, 0, 4, 6, 3, 2, 0, 4, 2, 0, 5, 0, 9, 4, 5, 3, 0, 13, 7, 0, 0, 1, 2, 0, 14]), (20, [0], [50, 2, 0, 4, 5, 2, 7, 0, 2, 0, 1, 2, 0, 4, 2, 7, 0, 2, 0, 1, 2, 0, 5, 0, 8, 6, 3, 2, 0, 4, 2, 0, 5, 0, 6000])]), (124, [(0, (2, 0, 0, [9])), (1, (0, 0, 4, [])), (2, (0, -2147483647, 999999, [])), (3, (0, -1, 48003, [])), (4, (0, 0, 48004, []))], [], (0, 0), [(0, 0, 99929), (1, 2, 1000000), (0, 0, 99876), (1, 4, 48004), (0, 0, 100000)], [(3, 1, -1000000000000, 48003), (3, 2, -1000000000000, 2147531651), (3, 4, -1000000000000, 48003)], [], [], 0, [], [(20, [0], [50, 3, 3, 14, 4, 5, 11, 12, 13, 2, 18, 5, 2, 0, 4, 0, 9, 4, 5, 3, 0, 11, 7, 0, 0, 1, 2, 0, 14, 5, 3, 2, 0, 14, 2, 23, 0, 9, 4, 5, 3, 0, 12, 7, 0, 0, 1, 6, 2, 0, 4, 6, 3, 2, 0, 4, 2, 0, 5, 0, 9, 4, 5, 3, 0, 13, 7, 0, 0, 1, 2, 0, 14]), (20, [0], [50, 2, 0, 4, 5, 2, 7, 0, 2, 0, 1, 2, 0, 4, 2, 7, 0, 2, 0, 1, 2, 0, 5, 0, 8, 6, 3, 2, 0, 4, 2, 0, 5, 0, 6000]), (20, [3, 0], [50, 1, 0, 1014, 0, 6, 4, 2, 1, 0, 0, 1, 2, 1, 14])])]
def t_Ro_findCosts_ct : ct_L := [(1, 137, e_Ro_enter), (1, 141, e_Ro_goBack), (54, 131, e_jArr_fill1_v69), (78, 131, e_jArr_fill1_v70)]
set_option maxRecDepth 100000 in
theorem c_Ro_findCosts {l : Launch} {D : va_G} {kA : Nat → ClassId} (h_Ro_enter : ct_ok l D kA GG y_Ro_enter z_Ro_enter e_Ro_enter) (h_Ro_goBack : ct_ok l D kA GG y_Ro_goBack z_Ro_goBack e_Ro_goBack) : ct_ok l D kA GG y_Ro_findCosts z_Ro_findCosts e_Ro_findCosts := chk_all_ok (FT := [(35, 9, 7), (38, 9, 8), (41, 9, 9), (45, 9, 10), (49, 9, 11), (53, 9, 12), (56, 9, 13)]) (PT := [(38, 9, 8, .int), (59, 9, 14, .int)]) (CT := t_Ro_findCosts_ct) (KT := [(0, 52, .int (48004), (0, 48004, 48004, [])), (0, 94, .int (1000000000), (0, 1000000000, 1000000000, [])), (0, 140, .int (1000000), (0, 1000000, 1000000, []))]) (NT := []) (AN := n_Ro_findCosts_an) (OT := [o_Ro_findCosts_0, o_Ro_findCosts_1, o_Ro_findCosts_2, o_Ro_findCosts_3, o_Ro_findCosts_4, o_Ro_findCosts_5, o_Ro_findCosts_6]) 5 488 (List.forall_mem_cons.mpr ⟨oo_Ro_findCosts_0, List.forall_mem_cons.mpr ⟨oo_Ro_findCosts_1, List.forall_mem_cons.mpr ⟨oo_Ro_findCosts_2, List.forall_mem_cons.mpr ⟨oo_Ro_findCosts_3, List.forall_mem_cons.mpr ⟨oo_Ro_findCosts_4, List.forall_mem_cons.mpr ⟨oo_Ro_findCosts_5, List.forall_mem_cons.mpr ⟨oo_Ro_findCosts_6, List.forall_mem_nil _⟩⟩⟩⟩⟩⟩⟩) (by decide +kernel) ⟨List.forall_mem_cons.mpr ⟨gf_Ro_35, List.forall_mem_cons.mpr ⟨gf_Ro_38, List.forall_mem_cons.mpr ⟨gf_Ro_41, List.forall_mem_cons.mpr ⟨gf_Ro_45, List.forall_mem_cons.mpr ⟨gf_Ro_49, List.forall_mem_cons.mpr ⟨gf_Ro_53, List.forall_mem_cons.mpr ⟨gf_Ro_56, List.forall_mem_nil _⟩⟩⟩⟩⟩⟩⟩, List.forall_mem_cons.mpr ⟨pf_Ro_38, List.forall_mem_cons.mpr ⟨pf_Ro_59, List.forall_mem_nil _⟩⟩, List.forall_mem_cons.mpr ⟨cl_virtual (y := y_Ro_enter) (ci := 9) rfl rfl ⟨_, _, rfl⟩ (by decide +kernel) h_Ro_enter wm_1952 wm_22 wm_1949 wm_1951 wv_9_4 ⟨by decide, by decide, by decide +kernel⟩ (by decide), List.forall_mem_cons.mpr ⟨cl_virtual (y := y_Ro_goBack) (ci := 9) rfl rfl ⟨_, _, rfl⟩ (by decide +kernel) h_Ro_goBack wm_1957 wm_22 wm_1954 wm_1956 wv_9_5 ⟨by decide, by decide, by decide +kernel⟩ (by decide), List.forall_mem_cons.mpr ⟨cl_static (y := y_jArr_fill1) c_jArr_fill1_v69 wm_55 wm_4 wm_1948 wm_54 ⟨by decide, by decide, by decide +kernel⟩ (by decide), List.forall_mem_cons.mpr ⟨cl_static (y := y_jArr_fill1) c_jArr_fill1_v70 wm_55 wm_4 wm_1948 wm_54 ⟨by decide, by decide, by decide +kernel⟩ (by decide), List.forall_mem_nil _⟩⟩⟩⟩, List.forall_mem_cons.mpr ⟨kx_Ro_0_52, List.forall_mem_cons.mpr ⟨kx_Ro_0_94, List.forall_mem_cons.mpr ⟨kx_Ro_0_140, List.forall_mem_nil _⟩⟩⟩, List.forall_mem_nil _, GG_pl⟩ (by decide +kernel)
def o_Mo_nearer_0 : or_T := (8, 6, [(0, (2, 0, 0, [150]))], [(20, [0], [50, 1, 3, 5, 2, 128, 127, 5, 2, 0, 24, 4, 14, 0, 6, 4, 2, 7, 0, 0, 1, 3, 0, 2, 2, 0, 5, 2, 9, 0, 2, 0, -1, 3, 0, 128, 7, 0, 2, 9, 0, 5, 3, 0, 128, 7, 0, 0, 24, 4, 9, 0, 2, 0, 0, 3, 0, 127, 7, 0, 2, 17, 0, 9, 4, 5, 3, 0, 127, 7, 0, 0, 1, 3, 0, 2, 2, 0, 5, 2, 12, 0, 2, 0, 0, 3, 0, 128, 3, 0, 127, 7, 0, 0, 12, 4, 8, 3, 0, 128, 3, 0, 127, 7, 0, 0, 1, 3, 0, 128, 7, 0])], [], [], [(24, [0, 0], [])], [], [])
theorem oo_Mo_nearer_0 {kA : Nat → ClassId} : or_ok kA GG o_Mo_nearer_0 := by
  intro A ta ws vs hD hth hl hk hds hf
  have hl : vs.length = 6 := hl
  have hk : ∀ q ∈ ([(0, (2, 0, 0, [150]))] : List (Nat × tv_T)), tv_ok ta q.2 (n_v vs q.1) := hk
  obtain ⟨t0, hk⟩ := List.forall_mem_cons.mp hk
  have t0 : tv_ok ta (2, 0, 0, [150]) (n_v vs 0) := t0
  have r0 : ta (v_ad (n_v vs 0)) = some 150 := tv_rg t0
  have hf : fc_ok [(20, [0], [50, 1, 3, 5, 2, 128, 127, 5, 2, 0, 24, 4, 14, 0, 6, 4, 2, 7, 0, 0, 1, 3, 0, 2, 2, 0, 5, 2, 9, 0, 2, 0, -1, 3, 0, 128, 7, 0, 2, 9, 0, 5, 3, 0, 128, 7, 0, 0, 24, 4, 9, 0, 2, 0, 0, 3, 0, 127, 7, 0, 2, 17, 0, 9, 4, 5, 3, 0, 127, 7, 0, 0, 1, 3, 0, 2, 2, 0, 5, 2, 12, 0, 2, 0, 0, 3, 0, 128, 3, 0, 127, 7, 0, 0, 12, 4, 8, 3, 0, 128, 3, 0, 127, 7, 0, 0, 1, 3, 0, 128, 7, 0])] ta ws vs := hf
  obtain ⟨f0, hf⟩ := fc_un (show (20 : Nat) < 100 from by decide) hf
  have f0 : ∀ j0 : Int, 0 ≤ j0 → j0 < 24 → (((j0 + 1) ≤ w_ei ws (w_ar ws (n_v vs 0) 2) (w_fi ws (n_v vs 0) 5)) → (((-1) ≤ w_ei ws (w_ar ws (n_v vs 0) 128) (j0)) ∧ ((w_ei ws (w_ar ws (n_v vs 0) 128) (j0) ≤ 24) ∧ ((0 ≤ w_ei ws (w_ar ws (n_v vs 0) 127) (j0)) → (((w_ei ws (w_ar ws (n_v vs 0) 127) (j0) + 1) ≤ w_ei ws (w_ar ws (n_v vs 0) 2) (w_fi ws (n_v vs 0) 5)) ∧ ((0 ≤ w_ei ws (w_ar ws (n_v vs 0) 128) (w_ei ws (w_ar ws (n_v vs 0) 127) (j0))) ∧ ((w_ei ws (w_ar ws (n_v vs 0) 128) (w_ei ws (w_ar ws (n_v vs 0) 127) (j0)) + 1) ≤ w_ei ws (w_ar ws (n_v vs 0) 128) (j0)))))))) := f0
  have cr_0_2 : ta (w_ar ws (n_v vs 0) 2) = some 152 := tv_rg (th_fd hD hth r0 (g := GG_150) rfl (k := 2) (t := (2, 0, 0, [152])) rfl rfl)
  have cr_0_127 : ta (w_ar ws (n_v vs 0) 127) = some 242 := tv_rg (th_fd hD hth r0 (g := GG_150) rfl (k := 127) (t := (2, 0, 0, [242])) rfl rfl)
  have cr_0_128 : ta (w_ar ws (n_v vs 0) 128) = some 243 := tv_rg (th_fd hD hth r0 (g := GG_150) rfl (k := 128) (t := (2, 0, 0, [243])) rfl rfl)
  have hK_0_127 : ∀ j : Int, 0 ≤ j → j < 26 → (-1) ≤ w_ei ws (w_ar ws (n_v vs 0) 127) j ∧ w_ei ws (w_ar ws (n_v vs 0) 127) j ≤ 23 := fun j h0 h1 => th_el hD hth cr_0_127 (kd := 0) (n := 26) (m := 26) (lo := (-1)) (hi := 23) (rs := []) (L := []) rfl (by decide) (j := j.toNat) (by omega)
  have hK_0_128 : ∀ j : Int, 0 ≤ j → j < 26 → (-23) ≤ w_ei ws (w_ar ws (n_v vs 0) 128) j ∧ w_ei ws (w_ar ws (n_v vs 0) 128) j ≤ 24 := fun j h0 h1 => th_el hD hth cr_0_128 (kd := 0) (n := 26) (m := 26) (lo := (-23)) (hi := 24) (rs := []) (L := []) rfl (by decide) (j := j.toNat) (by omega)
  have nf0 : fc_1 (24, [0, 0], []) ws (vs) := by
    refine ⟨fun n hn => ?_, ?_⟩
    · have hn : n ∈ [0, 0] := hn
      rw [hl]
      simp only [List.mem_cons, List.not_mem_nil, or_false] at hn
      show n < 6; omega
    · show n_v vs 0 = n_v vs 0
      first | rfl | simp only [true_and]
  refine ⟨(fun _ h => (by cases h)), [], trivial, ?_, (fun _ h => (by cases h))⟩
  rw [List.append_nil]
  exact List.forall_mem_cons.mpr ⟨⟨show (24 : Nat) < 100 from by decide, nf0⟩, (fun _ h => (by cases h))⟩
def o_Mo_nearer_1 : or_T := (58, 16, [(0, (2, 0, 0, [150])), (4, (2, 0, 0, [150])), (9, (0, 0, 23, [])), (12, (0, 0, 23, [])), (13, (0, 1, 24, [])), (14, (2, 0, 0, [243])), (15, (0, 0, 23, []))], [(7, [15, 9], [0]), (10, [15, 14, 12], []), (9, [14, 4], [128]), (7, [12, 13], [2]), (20, [13, 4], [30, 0, 1, 0, 0, -1, 3, 2005000]), (20, [13, 4], [30, 0, -1, 0, 0, 1, 3, 2005000]), (20, [4], [50, 1, 3, 5, 2, 128, 127, 5, 2, 0, 24, 4, 14, 0, 6, 4, 2, 7, 0, 0, 1, 3, 0, 2, 2, 0, 5, 2, 9, 0, 2, 0, -1, 3, 0, 128, 7, 0, 2, 9, 0, 5, 3, 0, 128, 7, 0, 0, 24, 4, 9, 0, 2, 0, 0, 3, 0, 127, 7, 0, 2, 17, 0, 9, 4, 5, 3, 0, 127, 7, 0, 0, 1, 3, 0, 2, 2, 0, 5, 2, 12, 0, 2, 0, 0, 3, 0, 128, 3, 0, 127, 7, 0, 0, 12, 4, 8, 3, 0, 128, 3, 0, 127, 7, 0, 0, 1, 3, 0, 128, 7, 0]), (24, [0, 4], [])], [], [], [(20, [12, 4], [30, -1, 1, 0, 0, -1, 3, 2005000])], [], [(15, 9, 0, 0), (12, 13, -4294967296, -1)])
theorem oo_Mo_nearer_1 {kA : Nat → ClassId} : or_ok kA GG o_Mo_nearer_1 := by
  intro A ta ws vs hD hth hl hk hds hf
  have hl : vs.length = 16 := hl
  have hk : ∀ q ∈ ([(0, (2, 0, 0, [150])), (4, (2, 0, 0, [150])), (9, (0, 0, 23, [])), (12, (0, 0, 23, [])), (13, (0, 1, 24, [])), (14, (2, 0, 0, [243])), (15, (0, 0, 23, []))] : List (Nat × tv_T)), tv_ok ta q.2 (n_v vs q.1) := hk
  obtain ⟨t0, hk⟩ := List.forall_mem_cons.mp hk
  have t0 : tv_ok ta (2, 0, 0, [150]) (n_v vs 0) := t0
  have r0 : ta (v_ad (n_v vs 0)) = some 150 := tv_rg t0
  obtain ⟨t4, hk⟩ := List.forall_mem_cons.mp hk
  have t4 : tv_ok ta (2, 0, 0, [150]) (n_v vs 4) := t4
  have r4 : ta (v_ad (n_v vs 4)) = some 150 := tv_rg t4
  obtain ⟨t9, hk⟩ := List.forall_mem_cons.mp hk
  have t9 : tv_ok ta (0, 0, 23, []) (n_v vs 9) := t9
  have k9 : 0 ≤ v_iv (n_v vs 9) ∧ v_iv (n_v vs 9) ≤ 23 := tv_rng t9
  obtain ⟨t12, hk⟩ := List.forall_mem_cons.mp hk
  have t12 : tv_ok ta (0, 0, 23, []) (n_v vs 12) := t12
  have k12 : 0 ≤ v_iv (n_v vs 12) ∧ v_iv (n_v vs 12) ≤ 23 := tv_rng t12
  obtain ⟨t13, hk⟩ := List.forall_mem_cons.mp hk
  have t13 : tv_ok ta (0, 1, 24, []) (n_v vs 13) := t13
  have k13 : 1 ≤ v_iv (n_v vs 13) ∧ v_iv (n_v vs 13) ≤ 24 := tv_rng t13
  obtain ⟨t14, hk⟩ := List.forall_mem_cons.mp hk
  have t14 : tv_ok ta (2, 0, 0, [243]) (n_v vs 14) := t14
  have r14 : ta (v_ad (n_v vs 14)) = some 243 := tv_rg t14
  obtain ⟨t15, hk⟩ := List.forall_mem_cons.mp hk
  have t15 : tv_ok ta (0, 0, 23, []) (n_v vs 15) := t15
  have k15 : 0 ≤ v_iv (n_v vs 15) ∧ v_iv (n_v vs 15) ≤ 23 := tv_rng t15
  have hds : ∀ q ∈ ([(15, 9, 0, 0), (12, 13, -4294967296, -1)] : List of_T), n_iv vs q.2.1 + q.2.2.1 ≤ n_iv vs q.1 ∧ n_iv vs q.1 ≤ n_iv vs q.2.1 + q.2.2.2 := hds
  obtain ⟨d0, hds⟩ := List.forall_mem_cons.mp hds
  have d0 : v_iv (n_v vs 9) + 0 ≤ v_iv (n_v vs 15) ∧ v_iv (n_v vs 15) ≤ v_iv (n_v vs 9) + 0 := d0
  obtain ⟨d1, hds⟩ := List.forall_mem_cons.mp hds
  have d1 : v_iv (n_v vs 13) + (-4294967296) ≤ v_iv (n_v vs 12) ∧ v_iv (n_v vs 12) ≤ v_iv (n_v vs 13) + (-1) := d1
  have hf : fc_ok [(7, [15, 9], [0]), (10, [15, 14, 12], []), (9, [14, 4], [128]), (7, [12, 13], [2]), (20, [13, 4], [30, 0, 1, 0, 0, -1, 3, 2005000]), (20, [13, 4], [30, 0, -1, 0, 0, 1, 3, 2005000]), (20, [4], [50, 1, 3, 5, 2, 128, 127, 5, 2, 0, 24, 4, 14, 0, 6, 4, 2, 7, 0, 0, 1, 3, 0, 2, 2, 0, 5, 2, 9, 0, 2, 0, -1, 3, 0, 128, 7, 0, 2, 9, 0, 5, 3, 0, 128, 7, 0, 0, 24, 4, 9, 0, 2, 0, 0, 3, 0, 127, 7, 0, 2, 17, 0, 9, 4, 5, 3, 0, 127, 7, 0, 0, 1, 3, 0, 2, 2, 0, 5, 2, 12, 0, 2, 0, 0, 3, 0, 128, 3, 0, 127, 7, 0, 0, 12, 4, 8, 3, 0, 128, 3, 0, 127, 7, 0, 0, 1, 3, 0, 128, 7, 0]), (24, [0, 4], [])] ta ws vs := hf
  obtain ⟨f0, hf⟩ := fc_un (show (7 : Nat) < 100 from by decide) hf
  have f0 : v_iv (n_v vs 15) = v_iv (n_v vs 9) := f0
  obtain ⟨f1, hf⟩ := fc_un (show (10 : Nat) < 100 from by decide) hf
  have f1 : v_iv (n_v vs 15) = w_el ws (v_ad (n_v vs 14)) (v_iv (n_v vs 12)).toNat := f1
  obtain ⟨f2, hf⟩ := fc_un (show (9 : Nat) < 100 from by decide) hf
  have f2 : n_v vs 14 = w_fd ws (v_ad (n_v vs 4)) 128 := f2
  obtain ⟨f3, hf⟩ := fc_un (show (7 : Nat) < 100 from by decide) hf
  have f3 : v_iv (n_v vs 12) < v_iv (n_v vs 13) := f3
  obtain ⟨f4, hf⟩ := fc_un (show (20 : Nat) < 100 from by decide) hf
  have f4 : 1 * v_iv (n_v vs 13) + ((-1) * w_el ws (w_ar ws (n_v vs 4) 2) (w_fi ws (n_v vs 4) 5 + 0).toNat + 0) ≤ 0 := f4
  obtain ⟨f5, hf⟩ := fc_un (show (20 : Nat) < 100 from by decide) hf
  have f5 : (-1) * v_iv (n_v vs 13) + (1 * w_el ws (w_ar ws (n_v vs 4) 2) (w_fi ws (n_v vs 4) 5 + 0).toNat + 0) ≤ 0 := f5
  obtain ⟨f6, hf⟩ := fc_un (show (20 : Nat) < 100 from by decide) hf
  have f6 : ∀ j0 : Int, 0 ≤ j0 → j0 < 24 → (((j0 + 1) ≤ w_ei ws (w_ar ws (n_v vs 4) 2) (w_fi ws (n_v vs 4) 5)) → (((-1) ≤ w_ei ws (w_ar ws (n_v vs 4) 128) (j0)) ∧ ((w_ei ws (w_ar ws (n_v vs 4) 128) (j0) ≤ 24) ∧ ((0 ≤ w_ei ws (w_ar ws (n_v vs 4) 127) (j0)) → (((w_ei ws (w_ar ws (n_v vs 4) 127) (j0) + 1) ≤ w_ei ws (w_ar ws (n_v vs 4) 2) (w_fi ws (n_v vs 4) 5)) ∧ ((0 ≤ w_ei ws (w_ar ws (n_v vs 4) 128) (w_ei ws (w_ar ws (n_v vs 4) 127) (j0))) ∧ ((w_ei ws (w_ar ws (n_v vs 4) 128) (w_ei ws (w_ar ws (n_v vs 4) 127) (j0)) + 1) ≤ w_ei ws (w_ar ws (n_v vs 4) 128) (j0)))))))) := f6
  obtain ⟨f7, hf⟩ := fc_un (show (24 : Nat) < 100 from by decide) hf
  have f7 : n_v vs 0 = n_v vs 4 := f7
  have q4 : n_v vs 4 = n_v vs 0 := f7.symm
  rw [q4] at f2
  rw [q4] at f4
  rw [q4] at f5
  rw [q4] at f6
  have cr_0_2 : ta (w_ar ws (n_v vs 0) 2) = some 152 := tv_rg (th_fd hD hth r0 (g := GG_150) rfl (k := 2) (t := (2, 0, 0, [152])) rfl rfl)
  have cr_0_127 : ta (w_ar ws (n_v vs 0) 127) = some 242 := tv_rg (th_fd hD hth r0 (g := GG_150) rfl (k := 127) (t := (2, 0, 0, [242])) rfl rfl)
  have cr_0_128 : ta (w_ar ws (n_v vs 0) 128) = some 243 := tv_rg (th_fd hD hth r0 (g := GG_150) rfl (k := 128) (t := (2, 0, 0, [243])) rfl rfl)
  have ad_14 : v_ad (n_v vs 14) = w_ar ws (n_v vs 0) 128 := congrArg v_ad f2
  rw [ad_14] at f1
  have h1 : v_iv (n_v vs 15) = w_ei ws (w_ar ws (n_v vs 0) 128) (v_iv (n_v vs 12)) := f1
  have br_0_128_12_0 : w_ei ws (w_ar ws (n_v vs 0) 128) (v_iv (n_v vs 12)) = w_el ws (w_ar ws (n_v vs 0) 128) (v_iv (n_v vs 12)).toNat := rfl
  have br_0_2_F5_0_0 : w_ei ws (w_ar ws (n_v vs 0) 2) (w_fi ws (n_v vs 0) 5 + 0) = w_el ws (w_ar ws (n_v vs 0) 2) (w_fi ws (n_v vs 0) 5 + 0).toNat := rfl
  have hK_0_127 : ∀ j : Int, 0 ≤ j → j < 26 → (-1) ≤ w_ei ws (w_ar ws (n_v vs 0) 127) j ∧ w_ei ws (w_ar ws (n_v vs 0) 127) j ≤ 23 := fun j h0 h1 => th_el hD hth cr_0_127 (kd := 0) (n := 26) (m := 26) (lo := (-1)) (hi := 23) (rs := []) (L := []) rfl (by decide) (j := j.toNat) (by omega)
  have hK_0_128 : ∀ j : Int, 0 ≤ j → j < 26 → (-23) ≤ w_ei ws (w_ar ws (n_v vs 0) 128) j ∧ w_ei ws (w_ar ws (n_v vs 0) 128) j ≤ 24 := fun j h0 h1 => th_el hD hth cr_0_128 (kd := 0) (n := 26) (m := 26) (lo := (-23)) (hi := 24) (rs := []) (L := []) rfl (by decide) (j := j.toNat) (by omega)
  have nf0 : fc_1 (20, [12, 4], [30, -1, 1, 0, 0, -1, 3, 2005000]) ws (vs) := by
    refine ⟨fun n hn => ?_, ?_⟩
    · have hn : n ∈ [12, 4] := hn
      rw [hl]
      simp only [List.mem_cons, List.not_mem_nil, or_false] at hn
      show n < 16; omega
    · show 1 * v_iv (n_v vs 12) + ((-1) * w_el ws (w_ar ws (n_v vs 4) 2) (w_fi ws (n_v vs 4) 5 + 0).toNat + 0) ≤ (-1)
      rw [q4]
      omega
  refine ⟨(fun _ h => (by cases h)), [], trivial, ?_, (fun _ h => (by cases h))⟩
  rw [List.append_nil]
  exact List.forall_mem_cons.mpr ⟨⟨show (20 : Nat) < 100 from by decide, nf0⟩, (fun _ h => (by cases h))⟩
def o_Mo_nearer_2 : or_T := (211, 11, [(0, (2, 0, 0, [150])), (4, (2, 0, 0, [150])), (9, (0, 0, 24, [])), (10, (0, 0, 24, []))], [(7, [9, 10], [3]), (20, [10, 4], [30, 0, 1, 0, 0, -1, 3, 2005000]), (20, [10, 4], [30, 0, -1, 0, 0, 1, 3, 2005000]), (20, [4], [50, 1, 3, 5, 2, 128, 127, 5, 2, 0, 24, 4, 14, 0, 6, 4, 2, 7, 0, 0, 1, 3, 0, 2, 2, 0, 5, 2, 9, 0, 2, 0, -1, 3, 0, 128, 7, 0, 2, 9, 0, 5, 3, 0, 128, 7, 0, 0, 24, 4, 9, 0, 2, 0, 0, 3, 0, 127, 7, 0, 2, 17, 0, 9, 4, 5, 3, 0, 127, 7, 0, 0, 1, 3, 0, 2, 2, 0, 5, 2, 12, 0, 2, 0, 0, 3, 0, 128, 3, 0, 127, 7, 0, 0, 12, 4, 8, 3, 0, 128, 3, 0, 127, 7, 0, 0, 1, 3, 0, 128, 7, 0]), (24, [0, 4], [])], [], [], [(20, [0], [50, 1, 3, 5, 2, 128, 127, 5, 2, 0, 24, 4, 14, 0, 6, 4, 2, 7, 0, 0, 1, 3, 0, 2, 2, 0, 5, 2, 9, 0, 2, 0, -1, 3, 0, 128, 7, 0, 2, 9, 0, 5, 3, 0, 128, 7, 0, 0, 24, 4, 9, 0, 2, 0, 0, 3, 0, 127, 7, 0, 2, 17, 0, 9, 4, 5, 3, 0, 127, 7, 0, 0, 1, 3, 0, 2, 2, 0, 5, 2, 12, 0, 2, 0, 0, 3, 0, 128, 3, 0, 127, 7, 0, 0, 12, 4, 8, 3, 0, 128, 3, 0, 127, 7, 0, 0, 1, 3, 0, 128, 7, 0])], [], [(9, 10, 0, 4294967296)])
theorem oo_Mo_nearer_2 {kA : Nat → ClassId} : or_ok kA GG o_Mo_nearer_2 := by
  intro A ta ws vs hD hth hl hk hds hf
  have hl : vs.length = 11 := hl
  have hk : ∀ q ∈ ([(0, (2, 0, 0, [150])), (4, (2, 0, 0, [150])), (9, (0, 0, 24, [])), (10, (0, 0, 24, []))] : List (Nat × tv_T)), tv_ok ta q.2 (n_v vs q.1) := hk
  obtain ⟨t0, hk⟩ := List.forall_mem_cons.mp hk
  have t0 : tv_ok ta (2, 0, 0, [150]) (n_v vs 0) := t0
  have r0 : ta (v_ad (n_v vs 0)) = some 150 := tv_rg t0
  obtain ⟨t4, hk⟩ := List.forall_mem_cons.mp hk
  have t4 : tv_ok ta (2, 0, 0, [150]) (n_v vs 4) := t4
  have r4 : ta (v_ad (n_v vs 4)) = some 150 := tv_rg t4
  obtain ⟨t9, hk⟩ := List.forall_mem_cons.mp hk
  have t9 : tv_ok ta (0, 0, 24, []) (n_v vs 9) := t9
  have k9 : 0 ≤ v_iv (n_v vs 9) ∧ v_iv (n_v vs 9) ≤ 24 := tv_rng t9
  obtain ⟨t10, hk⟩ := List.forall_mem_cons.mp hk
  have t10 : tv_ok ta (0, 0, 24, []) (n_v vs 10) := t10
  have k10 : 0 ≤ v_iv (n_v vs 10) ∧ v_iv (n_v vs 10) ≤ 24 := tv_rng t10
  have hds : ∀ q ∈ ([(9, 10, 0, 4294967296)] : List of_T), n_iv vs q.2.1 + q.2.2.1 ≤ n_iv vs q.1 ∧ n_iv vs q.1 ≤ n_iv vs q.2.1 + q.2.2.2 := hds
  obtain ⟨d0, hds⟩ := List.forall_mem_cons.mp hds
  have d0 : v_iv (n_v vs 10) + 0 ≤ v_iv (n_v vs 9) ∧ v_iv (n_v vs 9) ≤ v_iv (n_v vs 10) + 4294967296 := d0
  have hf : fc_ok [(7, [9, 10], [3]), (20, [10, 4], [30, 0, 1, 0, 0, -1, 3, 2005000]), (20, [10, 4], [30, 0, -1, 0, 0, 1, 3, 2005000]), (20, [4], [50, 1, 3, 5, 2, 128, 127, 5, 2, 0, 24, 4, 14, 0, 6, 4, 2, 7, 0, 0, 1, 3, 0, 2, 2, 0, 5, 2, 9, 0, 2, 0, -1, 3, 0, 128, 7, 0, 2, 9, 0, 5, 3, 0, 128, 7, 0, 0, 24, 4, 9, 0, 2, 0, 0, 3, 0, 127, 7, 0, 2, 17, 0, 9, 4, 5, 3, 0, 127, 7, 0, 0, 1, 3, 0, 2, 2, 0, 5, 2, 12, 0, 2, 0, 0, 3, 0, 128, 3, 0, 127, 7, 0, 0, 12, 4, 8, 3, 0, 128, 3, 0, 127, 7, 0, 0, 1, 3, 0, 128, 7, 0]), (24, [0, 4], [])] ta ws vs := hf
  obtain ⟨f0, hf⟩ := fc_un (show (7 : Nat) < 100 from by decide) hf
  have f0 : v_iv (n_v vs 10) ≤ v_iv (n_v vs 9) := f0
  obtain ⟨f1, hf⟩ := fc_un (show (20 : Nat) < 100 from by decide) hf
  have f1 : 1 * v_iv (n_v vs 10) + ((-1) * w_el ws (w_ar ws (n_v vs 4) 2) (w_fi ws (n_v vs 4) 5 + 0).toNat + 0) ≤ 0 := f1
  obtain ⟨f2, hf⟩ := fc_un (show (20 : Nat) < 100 from by decide) hf
  have f2 : (-1) * v_iv (n_v vs 10) + (1 * w_el ws (w_ar ws (n_v vs 4) 2) (w_fi ws (n_v vs 4) 5 + 0).toNat + 0) ≤ 0 := f2
  obtain ⟨f3, hf⟩ := fc_un (show (20 : Nat) < 100 from by decide) hf
  have f3 : ∀ j0 : Int, 0 ≤ j0 → j0 < 24 → (((j0 + 1) ≤ w_ei ws (w_ar ws (n_v vs 4) 2) (w_fi ws (n_v vs 4) 5)) → (((-1) ≤ w_ei ws (w_ar ws (n_v vs 4) 128) (j0)) ∧ ((w_ei ws (w_ar ws (n_v vs 4) 128) (j0) ≤ 24) ∧ ((0 ≤ w_ei ws (w_ar ws (n_v vs 4) 127) (j0)) → (((w_ei ws (w_ar ws (n_v vs 4) 127) (j0) + 1) ≤ w_ei ws (w_ar ws (n_v vs 4) 2) (w_fi ws (n_v vs 4) 5)) ∧ ((0 ≤ w_ei ws (w_ar ws (n_v vs 4) 128) (w_ei ws (w_ar ws (n_v vs 4) 127) (j0))) ∧ ((w_ei ws (w_ar ws (n_v vs 4) 128) (w_ei ws (w_ar ws (n_v vs 4) 127) (j0)) + 1) ≤ w_ei ws (w_ar ws (n_v vs 4) 128) (j0)))))))) := f3
  obtain ⟨f4, hf⟩ := fc_un (show (24 : Nat) < 100 from by decide) hf
  have f4 : n_v vs 0 = n_v vs 4 := f4
  have q4 : n_v vs 4 = n_v vs 0 := f4.symm
  rw [q4] at f1
  rw [q4] at f2
  rw [q4] at f3
  have cr_0_2 : ta (w_ar ws (n_v vs 0) 2) = some 152 := tv_rg (th_fd hD hth r0 (g := GG_150) rfl (k := 2) (t := (2, 0, 0, [152])) rfl rfl)
  have cr_0_127 : ta (w_ar ws (n_v vs 0) 127) = some 242 := tv_rg (th_fd hD hth r0 (g := GG_150) rfl (k := 127) (t := (2, 0, 0, [242])) rfl rfl)
  have cr_0_128 : ta (w_ar ws (n_v vs 0) 128) = some 243 := tv_rg (th_fd hD hth r0 (g := GG_150) rfl (k := 128) (t := (2, 0, 0, [243])) rfl rfl)
  have br_0_2_F5_0_0 : w_ei ws (w_ar ws (n_v vs 0) 2) (w_fi ws (n_v vs 0) 5 + 0) = w_el ws (w_ar ws (n_v vs 0) 2) (w_fi ws (n_v vs 0) 5 + 0).toNat := rfl
  have hK_0_127 : ∀ j : Int, 0 ≤ j → j < 26 → (-1) ≤ w_ei ws (w_ar ws (n_v vs 0) 127) j ∧ w_ei ws (w_ar ws (n_v vs 0) 127) j ≤ 23 := fun j h0 h1 => th_el hD hth cr_0_127 (kd := 0) (n := 26) (m := 26) (lo := (-1)) (hi := 23) (rs := []) (L := []) rfl (by decide) (j := j.toNat) (by omega)
  have hK_0_128 : ∀ j : Int, 0 ≤ j → j < 26 → (-23) ≤ w_ei ws (w_ar ws (n_v vs 0) 128) j ∧ w_ei ws (w_ar ws (n_v vs 0) 128) j ≤ 24 := fun j h0 h1 => th_el hD hth cr_0_128 (kd := 0) (n := 26) (m := 26) (lo := (-23)) (hi := 24) (rs := []) (L := []) rfl (by decide) (j := j.toNat) (by omega)
  have nf0 : fc_1 (20, [0], [50, 1, 3, 5, 2, 128, 127, 5, 2, 0, 24, 4, 14, 0, 6, 4, 2, 7, 0, 0, 1, 3, 0, 2, 2, 0, 5, 2, 9, 0, 2, 0, -1, 3, 0, 128, 7, 0, 2, 9, 0, 5, 3, 0, 128, 7, 0, 0, 24, 4, 9, 0, 2, 0, 0, 3, 0, 127, 7, 0, 2, 17, 0, 9, 4, 5, 3, 0, 127, 7, 0, 0, 1, 3, 0, 2, 2, 0, 5, 2, 12, 0, 2, 0, 0, 3, 0, 128, 3, 0, 127, 7, 0, 0, 12, 4, 8, 3, 0, 128, 3, 0, 127, 7, 0, 0, 1, 3, 0, 128, 7, 0]) ws (vs) := by
    refine ⟨fun n hn => ?_, ?_⟩
    · have hn : n ∈ [0] := hn
      rw [hl]
      simp only [List.mem_cons, List.not_mem_nil, or_false] at hn
      show n < 11; omega
    · show ∀ j0 : Int, 0 ≤ j0 → j0 < 24 → (((j0 + 1) ≤ w_ei ws (w_ar ws (n_v vs 0) 2) (w_fi ws (n_v vs 0) 5)) → (((-1) ≤ w_ei ws (w_ar ws (n_v vs 0) 128) (j0)) ∧ ((w_ei ws (w_ar ws (n_v vs 0) 128) (j0) ≤ 24) ∧ ((0 ≤ w_ei ws (w_ar ws (n_v vs 0) 127) (j0)) → (((w_ei ws (w_ar ws (n_v vs 0) 127) (j0) + 1) ≤ w_ei ws (w_ar ws (n_v vs 0) 2) (w_fi ws (n_v vs 0) 5)) ∧ ((0 ≤ w_ei ws (w_ar ws (n_v vs 0) 128) (w_ei ws (w_ar ws (n_v vs 0) 127) (j0))) ∧ ((w_ei ws (w_ar ws (n_v vs 0) 128) (w_ei ws (w_ar ws (n_v vs 0) 127) (j0)) + 1) ≤ w_ei ws (w_ar ws (n_v vs 0) 128) (j0))))))))
      first | omega | grind
  refine ⟨(fun _ h => (by cases h)), [], trivial, ?_, (fun _ h => (by cases h))⟩
  rw [List.append_nil]
  exact List.forall_mem_cons.mpr ⟨⟨show (20 : Nat) < 100 from by decide, nf0⟩, (fun _ h => (by cases h))⟩
def o_Mo_nearer_3 : or_T := (187, 11, [(0, (2, 0, 0, [150])), (4, (2, 0, 0, [150])), (9, (0, 0, 23, [])), (10, (0, 1, 24, []))], [(7, [9, 10], [2]), (20, [10, 4], [30, 0, 1, 0, 0, -1, 3, 2005000]), (20, [10, 4], [30, 0, -1, 0, 0, 1, 3, 2005000]), (20, [4], [50, 1, 3, 5, 2, 128, 127, 5, 2, 0, 24, 4, 14, 0, 6, 4, 2, 7, 0, 0, 1, 3, 0, 2, 2, 0, 5, 2, 9, 0, 2, 0, -1, 3, 0, 128, 7, 0, 2, 9, 0, 5, 3, 0, 128, 7, 0, 0, 24, 4, 9, 0, 2, 0, 0, 3, 0, 127, 7, 0, 2, 17, 0, 9, 4, 5, 3, 0, 127, 7, 0, 0, 1, 3, 0, 2, 2, 0, 5, 2, 12, 0, 2, 0, 0, 3, 0, 128, 3, 0, 127, 7, 0, 0, 12, 4, 8, 3, 0, 128, 3, 0, 127, 7, 0, 0, 1, 3, 0, 128, 7, 0]), (24, [0, 4], [])], [], [], [(20, [9, 4], [30, -1, 1, 0, 0, -1, 3, 2005000])], [], [(9, 10, -4294967296, -1)])
theorem oo_Mo_nearer_3 {kA : Nat → ClassId} : or_ok kA GG o_Mo_nearer_3 := by
  intro A ta ws vs hD hth hl hk hds hf
  have hl : vs.length = 11 := hl
  have hk : ∀ q ∈ ([(0, (2, 0, 0, [150])), (4, (2, 0, 0, [150])), (9, (0, 0, 23, [])), (10, (0, 1, 24, []))] : List (Nat × tv_T)), tv_ok ta q.2 (n_v vs q.1) := hk
  obtain ⟨t0, hk⟩ := List.forall_mem_cons.mp hk
  have t0 : tv_ok ta (2, 0, 0, [150]) (n_v vs 0) := t0
  have r0 : ta (v_ad (n_v vs 0)) = some 150 := tv_rg t0
  obtain ⟨t4, hk⟩ := List.forall_mem_cons.mp hk
  have t4 : tv_ok ta (2, 0, 0, [150]) (n_v vs 4) := t4
  have r4 : ta (v_ad (n_v vs 4)) = some 150 := tv_rg t4
  obtain ⟨t9, hk⟩ := List.forall_mem_cons.mp hk
  have t9 : tv_ok ta (0, 0, 23, []) (n_v vs 9) := t9
  have k9 : 0 ≤ v_iv (n_v vs 9) ∧ v_iv (n_v vs 9) ≤ 23 := tv_rng t9
  obtain ⟨t10, hk⟩ := List.forall_mem_cons.mp hk
  have t10 : tv_ok ta (0, 1, 24, []) (n_v vs 10) := t10
  have k10 : 1 ≤ v_iv (n_v vs 10) ∧ v_iv (n_v vs 10) ≤ 24 := tv_rng t10
  have hds : ∀ q ∈ ([(9, 10, -4294967296, -1)] : List of_T), n_iv vs q.2.1 + q.2.2.1 ≤ n_iv vs q.1 ∧ n_iv vs q.1 ≤ n_iv vs q.2.1 + q.2.2.2 := hds
  obtain ⟨d0, hds⟩ := List.forall_mem_cons.mp hds
  have d0 : v_iv (n_v vs 10) + (-4294967296) ≤ v_iv (n_v vs 9) ∧ v_iv (n_v vs 9) ≤ v_iv (n_v vs 10) + (-1) := d0
  have hf : fc_ok [(7, [9, 10], [2]), (20, [10, 4], [30, 0, 1, 0, 0, -1, 3, 2005000]), (20, [10, 4], [30, 0, -1, 0, 0, 1, 3, 2005000]), (20, [4], [50, 1, 3, 5, 2, 128, 127, 5, 2, 0, 24, 4, 14, 0, 6, 4, 2, 7, 0, 0, 1, 3, 0, 2, 2, 0, 5, 2, 9, 0, 2, 0, -1, 3, 0, 128, 7, 0, 2, 9, 0, 5, 3, 0, 128, 7, 0, 0, 24, 4, 9, 0, 2, 0, 0, 3, 0, 127, 7, 0, 2, 17, 0, 9, 4, 5, 3, 0, 127, 7, 0, 0, 1, 3, 0, 2, 2, 0, 5, 2, 12, 0, 2, 0, 0, 3, 0, 128, 3, 0, 127, 7, 0, 0, 12, 4, 8, 3, 0, 128, 3, 0, 127, 7, 0, 0, 1, 3, 0, 128, 7, 0]), (24, [0, 4], [])] ta ws vs := hf
  obtain ⟨f0, hf⟩ := fc_un (show (7 : Nat) < 100 from by decide) hf
  have f0 : v_iv (n_v vs 9) < v_iv (n_v vs 10) := f0
  obtain ⟨f1, hf⟩ := fc_un (show (20 : Nat) < 100 from by decide) hf
  have f1 : 1 * v_iv (n_v vs 10) + ((-1) * w_el ws (w_ar ws (n_v vs 4) 2) (w_fi ws (n_v vs 4) 5 + 0).toNat + 0) ≤ 0 := f1
  obtain ⟨f2, hf⟩ := fc_un (show (20 : Nat) < 100 from by decide) hf
  have f2 : (-1) * v_iv (n_v vs 10) + (1 * w_el ws (w_ar ws (n_v vs 4) 2) (w_fi ws (n_v vs 4) 5 + 0).toNat + 0) ≤ 0 := f2
  obtain ⟨f3, hf⟩ := fc_un (show (20 : Nat) < 100 from by decide) hf
  have f3 : ∀ j0 : Int, 0 ≤ j0 → j0 < 24 → (((j0 + 1) ≤ w_ei ws (w_ar ws (n_v vs 4) 2) (w_fi ws (n_v vs 4) 5)) → (((-1) ≤ w_ei ws (w_ar ws (n_v vs 4) 128) (j0)) ∧ ((w_ei ws (w_ar ws (n_v vs 4) 128) (j0) ≤ 24) ∧ ((0 ≤ w_ei ws (w_ar ws (n_v vs 4) 127) (j0)) → (((w_ei ws (w_ar ws (n_v vs 4) 127) (j0) + 1) ≤ w_ei ws (w_ar ws (n_v vs 4) 2) (w_fi ws (n_v vs 4) 5)) ∧ ((0 ≤ w_ei ws (w_ar ws (n_v vs 4) 128) (w_ei ws (w_ar ws (n_v vs 4) 127) (j0))) ∧ ((w_ei ws (w_ar ws (n_v vs 4) 128) (w_ei ws (w_ar ws (n_v vs 4) 127) (j0)) + 1) ≤ w_ei ws (w_ar ws (n_v vs 4) 128) (j0)))))))) := f3
  obtain ⟨f4, hf⟩ := fc_un (show (24 : Nat) < 100 from by decide) hf
  have f4 : n_v vs 0 = n_v vs 4 := f4
  have q4 : n_v vs 4 = n_v vs 0 := f4.symm
  rw [q4] at f1
  rw [q4] at f2
  rw [q4] at f3
  have cr_0_2 : ta (w_ar ws (n_v vs 0) 2) = some 152 := tv_rg (th_fd hD hth r0 (g := GG_150) rfl (k := 2) (t := (2, 0, 0, [152])) rfl rfl)
  have cr_0_127 : ta (w_ar ws (n_v vs 0) 127) = some 242 := tv_rg (th_fd hD hth r0 (g := GG_150) rfl (k := 127) (t := (2, 0, 0, [242])) rfl rfl)
  have cr_0_128 : ta (w_ar ws (n_v vs 0) 128) = some 243 := tv_rg (th_fd hD hth r0 (g := GG_150) rfl (k := 128) (t := (2, 0, 0, [243])) rfl rfl)
  have br_0_2_F5_0_0 : w_ei ws (w_ar ws (n_v vs 0) 2) (w_fi ws (n_v vs 0) 5 + 0) = w_el ws (w_ar ws (n_v vs 0) 2) (w_fi ws (n_v vs 0) 5 + 0).toNat := rfl
  have hK_0_127 : ∀ j : Int, 0 ≤ j → j < 26 → (-1) ≤ w_ei ws (w_ar ws (n_v vs 0) 127) j ∧ w_ei ws (w_ar ws (n_v vs 0) 127) j ≤ 23 := fun j h0 h1 => th_el hD hth cr_0_127 (kd := 0) (n := 26) (m := 26) (lo := (-1)) (hi := 23) (rs := []) (L := []) rfl (by decide) (j := j.toNat) (by omega)
  have hK_0_128 : ∀ j : Int, 0 ≤ j → j < 26 → (-23) ≤ w_ei ws (w_ar ws (n_v vs 0) 128) j ∧ w_ei ws (w_ar ws (n_v vs 0) 128) j ≤ 24 := fun j h0 h1 => th_el hD hth cr_0_128 (kd := 0) (n := 26) (m := 26) (lo := (-23)) (hi := 24) (rs := []) (L := []) rfl (by decide) (j := j.toNat) (by omega)
  have nf0 : fc_1 (20, [9, 4], [30, -1, 1, 0, 0, -1, 3, 2005000]) ws (vs) := by
    refine ⟨fun n hn => ?_, ?_⟩
    · have hn : n ∈ [9, 4] := hn
      rw [hl]
      simp only [List.mem_cons, List.not_mem_nil, or_false] at hn
      show n < 11; omega
    · show 1 * v_iv (n_v vs 9) + ((-1) * w_el ws (w_ar ws (n_v vs 4) 2) (w_fi ws (n_v vs 4) 5 + 0).toNat + 0) ≤ (-1)
      rw [q4]
      omega
  refine ⟨(fun _ h => (by cases h)), [], trivial, ?_, (fun _ h => (by cases h))⟩
  rw [List.append_nil]
  exact List.forall_mem_cons.mpr ⟨⟨show (20 : Nat) < 100 from by decide, nf0⟩, (fun _ h => (by cases h))⟩
def n_Mo_nearer_an : List an_T := [(8, [(0, (2, 0, 0, [150])), (1, (0, -1, 23, [])), (2, (0, 0, 23, [])), (3, (0, 0, 24, [])), (4, (0, -1000000, 2147483647, [])), (5, (0, 0, 24, []))], [], (0, 0), [(0, 0, 99992), (1, 9, 24), (0, 0, 100000), (0, 0, 0), (0, 0, 0)], [(1, 2, -1000000000000, 23), (1, 3, -1000000000000, 23), (1, 5, -1000000000000, 0), (1, 6, -1000000000000, 23), (1, 7, -1000000000000, 23), (1, 8, -1000000000000, 1000023), (1, 9, -1000000000000, 23), (2, 1, -1000000000000, 24), (2, 3, -1000000000000, 23), (2, 5, -1000000000000, 24), (2, 6, -1000000000000, 0), (2, 7, -1000000000000, 23), (2, 8, -1000000000000, 1000023), (2, 9, -1000000000000, 23), (3, 1, -1000000000000, 25), (3, 2, -1000000000000, 24), (3, 5, -1000000000000, 25), (3, 6, -1000000000000, 24), (3, 7, -1000000000000, 0), (3, 8, -1000000000000, 1000024), (3, 9, -1000000000000, 24), (5, 1, -1000000000000, 0), (5, 2, -1000000000000, 23), (5, 3, -1000000000000, 23), (5, 6, -1000000000000, 23), (5, 7, -1000000000000, 23), (5, 8, -1000000000000, 1000023), (5, 9, -1000000000000, 23), (6, 1, -1000000000000, 24), (6, 2, -1000000000000, 0), (6, 3, -1000000000000, 23), (6, 5, -1000000000000, 24), (6, 7, -1000000000000, 23), (6, 8, -1000000000000, 1000023), (6, 9, -1000000000000, 23), (7, 1, -1000000000000, 25), (7, 2, -1000000000000, 24), (7, 3, -1000000000000, 0), (7, 5, -1000000000000, 25), (7, 6, -1000000000000, 24), (7, 8, -1000000000000, 1000024), (7, 9, -1000000000000, 24), (8, 1, -1000000000000, 2147483648), (8, 2, -1000000000000, 2147483647), (8, 3, -1000000000000, 2147483647), (8, 5, -1000000000000, 2147483648), (8, 6, -1000000000000, 2147483647), (8, 7, -1000000000000, 2147483647), (8, 9, -1000000000000, 2147483646)], [], [(2, 0, 0, [150]), (0, -1, 23, []), (0, 0, 23, []), (0, 0, 24, [])], 0, [], [(20, [4], [50, 1, 3, 5, 2, 128, 127, 5, 2, 0, 24, 4, 14, 0, 6, 4, 2, 7, 0, 0, 1, 3, 0, 2, 2, 0, 5, 2, 9, 0, 2, 0, -1, 3, 0, 128, 7, 0, 2, 9, 0, 5, 3, 0, 128, 7, 0, 0, 24, 4, 9, 0, 2, 0, 0, 3, 0, 127, 7, 0, 2, 17, 0, 9, 4, 5, 3, 0, 127, 7, 0, 0, 1, 3, 0, 2, 2, 0, 5, 2, 12, 0, 2, 0, 0, 3, 0, 128, 3, 0, 127, 7, 0, 0, 12, 4, 8, 3, 0, 128, 3, 0, 127, 7, 0, 0, 1, 3, 0, 128, 7, 0]), (24, [0, 4], [])]), (30, [(0, (2, 0, 0, [150])), (1, (0, -1, 23, [])), (2, (0, 0, 23, [])), (3, (0, 0, 24, [])), (4, (0, -1000000, 2147483647, [])), (5, (0, 0, 23, [])), (6, (0, -1000000, 2147483647, [])), (7, (0, -2147483648, 1000000, [])), (8, (0, 0, 24, []))], [], (0, 0), [(0, 0, 99992), (1, 9, 24), (0, 0, 99970), (1, 12, 24), (0, 0, 100000)], [(1, 2, -1000000000000, 23), (1, 3, -1000000000000, 23), (1, 5, -1000000000000, 0), (1, 6, -1000000000000, 23), (1, 7, -1000000000000, 23), (1, 8, -1000000000000, 1000023), (1, 9, -1000000000000, 23), (1, 10, -1000000000000, 1000023), (1, 11, -1000000000000, 2147483671), (1, 12, -1000000000000, 23), (2, 1, -1000000000000, 24), (2, 3, -1000000000000, 23), (2, 5, -1000000000000, 24), (2, 6, -1000000000000, 0), (2, 7, -1000000000000, 23), (2, 8, -1000000000000, 1000023), (2, 9, -1000000000000, 23), (2, 10, -1000000000000, 1000023), (2, 11, -1000000000000, 2147483671), (2, 12, -1000000000000, 23), (3, 1, -1000000000000, 25), (3, 2, -1000000000000, 24), (3, 5, -1000000000000, 25), (3, 6, -1000000000000, 24), (3, 7, -1000000000000, 0), (3, 8, -1000000000000, 1000024), (3, 9, -1000000000000, 24), (3, 10, -1000000000000, 1000024), (3, 11, -1000000000000, 2147483672), (3, 12, -1000000000000, 24), (5, 1, -1000000000000, 0), (5, 2, -1000000000000, 23), (5, 3, -1000000000000, 23), (5, 6, -1000000000000, 23), (5, 7, -1000000000000, 23), (5, 8, -1000000000000, 1000023), (5, 9, -1000000000000, 23), (5, 10, -1000000000000, 1000023), (5, 11, -1000000000000, 2147483671), (5, 12, -1000000000000, 23), (6, 1, -1000000000000, 24), (6, 2, -1000000000000, 0), (6, 3, -1000000000000, 23), (6, 5, -1000000000000, 24), (6, 7, -1000000000000, 23), (6, 8, -1000000000000, 1000023), (6, 9, -1000000000000, 23), (6, 10, -1000000000000, 1000023), (6, 11, -1000000000000, 2147483671), (6, 12, -1000000000000, 23), (7, 1, -1000000000000, 25), (7, 2, -1000000000000, 24), (7, 3, -1000000000000, 0), (7, 5, -1000000000000, 25), (7, 6, -1000000000000, 24), (7, 8, -1000000000000, 1000024), (7, 9, -1000000000000, 24), (7, 10, -1000000000000, 1000024), (7, 11, -1000000000000, 2147483672), (7, 12, -1000000000000, 24), (8, 1, -1000000000000, 2147483648), (8, 2, -1000000000000, 2147483647), (8, 3, -1000000000000, 2147483647), (8, 5, -1000000000000, 2147483648), (8, 6, -1000000000000, 2147483647), (8, 7, -1000000000000, 2147483647), (8, 9, -1000000000000, 2147483646), (8, 10, -1000000000000, 2148483647), (8, 11, -1000000000000, 4294967295), (8, 12, -1000000000000, 2147483647), (10, 1, -1000000000000, 2147483648), (10, 2, -1000000000000, 2147483647), (10, 3, -1000000000000, 2147483647), (10, 5, -1000000000000, 2147483648), (10, 6, -1000000000000, 2147483647), (10, 7, -1000000000000, 2147483647), (10, 8, -1000000000000, 2148483647), (10, 9, -1000000000000, 2147483647), (10, 12, -1000000000000, 2147483646), (11, 1, -1000000000000, 1000001), (11, 2, -1000000000000, 1000000), (11, 3, -1000000000000, 1000000), (11, 5, -1000000000000, 1000001), (11, 6, -1000000000000, 1000000), (11, 7, -1000000000000, 1000000), (11, 8, -1000000000000, 2000000), (11, 9, -1000000000000, 1000000), (11, 10, -1000000000000, 2000000), (11, 12, -1000000000000, 1000000)], [], [(2, 0, 0, [150]), (0, -1, 23, []), (0, 0, 23, []), (0, 0, 24, [])], 0, [], [(20, [4], [50, 1, 3, 5, 2, 128, 127, 5, 2, 0, 24, 4, 14, 0, 6, 4, 2, 7, 0, 0, 1, 3, 0, 2, 2, 0, 5, 2, 9, 0, 2, 0, -1, 3, 0, 128, 7, 0, 2, 9, 0, 5, 3, 0, 128, 7, 0, 0, 24, 4, 9, 0, 2, 0, 0, 3, 0, 127, 7, 0, 2, 17, 0, 9, 4, 5, 3, 0, 127, 7, 0, 0, 1, 3, 0, 2, 2, 0, 5, 2, 12, 0, 2, 0, 0, 3, 0, 128, 3, 0, 127, 7, 0, 0, 12, 4, 8, 3, 0, 128, 3, 0, 127, 7, 0, 0, 1, 3, 0, 128, 7, 0]), (24, [0, 4], [])]), (174, [(0, (2, 0, 0, [150])), (1, (0, -1, 23, [])), (2, (0, 0, 23, [])), (3, (0, 0, 24, [])), (4, (0, -1000000, 2147483647, [])), (5, (0, 0, 24, []))], [], (0, 0), [(0, 0, 99826), (1, 9, 24), (0, 0, 100000), (0, 0, 0), (0, 0, 0)], [(1, 2, -1000000000000, 23), (1, 3, -1000000000000, 23), (1, 5, -1000000000000, 0), (1, 6, -1000000000000, 23), (1, 7, -1000000000000, 23), (1, 8, -1000000000000, 1000023), (1, 9, -1000000000000, 23), (2, 1, -1000000000000, 24), (2, 3, -1000000000000, 23), (2, 5, -1000000000000, 24), (2, 6, -1000000000000, 0), (2, 7, -1000000000000, 23), (2, 8, -1000000000000, 1000023), (2, 9, -1000000000000, 23), (3, 1, -1000000000000, 25), (3, 2, -1000000000000, 24), (3, 5, -1000000000000, 25), (3, 6, -1000000000000, 24), (3, 7, -1000000000000, 0), (3, 8, -1000000000000, 1000024), (3, 9, -1000000000000, 24), (5, 1, -1000000000000, 0), (5, 2, -1000000000000, 23), (5, 3, -1000000000000, 23), (5, 6, -1000000000000, 23), (5, 7, -1000000000000, 23), (5, 8, -1000000000000, 1000023), (5, 9, -1000000000000, 23), (6, 1, -1000000000000, 24), (6, 2, -1000000000000, 0), (6, 3, -1000000000000, 23), (6, 5, -1000000000000, 24), (6, 7, -1000000000000, 23), (6, 8, -1000000000000, 1000023), (6, 9, -1000000000000, 23), (7, 1, -1000000000000, 25), (7, 2, -1000000000000, 24), (7, 3, -1000000000000, 0), (7, 5, -1000000000000, 25), (7, 6, -1000000000000, 24), (7, 8, -1000000000000, 1000024), (7, 9, -1000000000000, 24), (8, 1, -1000000000000, 2147483648), (8, 2, -1000000000000, 2147483647), (8, 3, -1000000000000, 2147483647), (8, 5, -1000000000000, 2147483648), (8, 6, -1000000000000, 2147483647), (8, 7, -1000000000000, 2147483647), (8, 9, -1000000000000, 2147483647)], [], [(2, 0, 0, [150]), (0, -1, 23, []), (0, 0, 23, []), (0, 0, 24, [])], 0, [], [(20, [4], [50, 1, 3, 5, 2, 128, 127, 5, 2, 0, 24, 4, 14, 0, 6, 4, 2, 7, 0, 0, 1, 3, 0, 2, 2, 0, 5, 2, 9, 0, 2, 0, -1, 3, 0, 128, 7, 0, 2, 9, 0, 5, 3, 0, 128, 7, 0, 0, 24, 4, 9, 0, 2, 0, 0, 3, 0, 127, 7, 0, 2, 17, 0, 9, 4, 5, 3, 0, 127, 7, 0, 0, 1, 3, 0, 2, 2, 0, 5, 2, 12, 0, 2, 0, 0, 3, 0, 128, 3, 0, 127, 7, 0, 0, 12, 4, 8, 3, 0, 128, 3, 0, 127, 7, 0, 0, 1, 3, 0, 128, 7, 0]), (24, [0, 4], [])])]
def t_Mo_nearer_ct : ct_L := [(0, 547, e_Mo_min), (0, 855, e_Mo_max), (1, 475, e_Mo_nodes), (1, 954, e_Mo_isUnder), (1, 957, e_Mo_isAhead)]
set_option maxRecDepth 100000 in
theorem c_Mo_nearer {l : Launch} {D : va_G} {kA : Nat → ClassId} (h_Mo_isAhead : ct_ok l D kA GG y_Mo_isAhead z_Mo_isAhead e_Mo_isAhead) (h_Mo_isUnder : ct_ok l D kA GG y_Mo_isUnder z_Mo_isUnder e_Mo_isUnder) (h_Mo_max : ct_ok l D kA GG y_Mo_max z_Mo_max e_Mo_max) (h_Mo_min : ct_ok l D kA GG y_Mo_min z_Mo_min e_Mo_min) (h_Mo_nodes : ct_ok l D kA GG y_Mo_nodes z_Mo_nodes e_Mo_nodes) : ct_ok l D kA GG y_Mo_nearer z_Mo_nearer e_Mo_nearer := chk_all_ok (FT := [(29, 13, 16), (159, 13, 74), (293, 13, 128)]) (PT := []) (CT := t_Mo_nearer_ct) (KT := [(1, 546, .int (1000000), (0, 1000000, 1000000, [])), (1, 776, .int (Int32.ofInt (-1000000)), (0, -1000000, -1000000, []))]) (NT := []) (AN := n_Mo_nearer_an) (OT := [o_Mo_nearer_0, o_Mo_nearer_1, o_Mo_nearer_2, o_Mo_nearer_3]) 5 556 (List.forall_mem_cons.mpr ⟨oo_Mo_nearer_0, List.forall_mem_cons.mpr ⟨oo_Mo_nearer_1, List.forall_mem_cons.mpr ⟨oo_Mo_nearer_2, List.forall_mem_cons.mpr ⟨oo_Mo_nearer_3, List.forall_mem_nil _⟩⟩⟩⟩) (by decide +kernel) ⟨List.forall_mem_cons.mpr ⟨gf_Mo_29, List.forall_mem_cons.mpr ⟨gf_Mo_159, List.forall_mem_cons.mpr ⟨gf_Mo_293, List.forall_mem_nil _⟩⟩⟩, List.forall_mem_nil _, List.forall_mem_cons.mpr ⟨cl_static (y := y_Mo_min) h_Mo_min wm_3174 wm_9 wm_3172 wm_3173 ⟨by decide, by decide, by decide +kernel⟩ (by decide), List.forall_mem_cons.mpr ⟨cl_static (y := y_Mo_max) h_Mo_max wm_3430 wm_9 wm_3428 wm_3429 ⟨by decide, by decide, by decide +kernel⟩ (by decide), List.forall_mem_cons.mpr ⟨cl_virtual (y := y_Mo_nodes) (ci := 13) rfl rfl ⟨_, _, rfl⟩ (by decide +kernel) h_Mo_nodes wm_3025 wm_9 wm_3022 wm_3024 wv_13_3 ⟨by decide, by decide, by decide +kernel⟩ (by decide), List.forall_mem_cons.mpr ⟨cl_virtual (y := y_Mo_isUnder) (ci := 13) rfl rfl ⟨_, _, rfl⟩ (by decide +kernel) h_Mo_isUnder wm_3576 wm_9 wm_3573 wm_3575 wv_20_13 ⟨by decide, by decide, by decide +kernel⟩ (by decide), List.forall_mem_cons.mpr ⟨cl_virtual (y := y_Mo_isAhead) (ci := 13) rfl rfl ⟨_, _, rfl⟩ (by decide +kernel) h_Mo_isAhead wm_3580 wm_9 wm_3577 wm_3579 wv_20_14 ⟨by decide, by decide, by decide +kernel⟩ (by decide), List.forall_mem_nil _⟩⟩⟩⟩⟩, List.forall_mem_cons.mpr ⟨kx_Mo_1_546, List.forall_mem_cons.mpr ⟨kx_Mo_1_776, List.forall_mem_nil _⟩⟩, List.forall_mem_nil _, GG_pl⟩ (by decide +kernel)
def o_Mo_dropNode_0 : or_T := (7, 5, [(0, (2, 0, 0, [150])), (1, (0, 0, 23, [])), (2, (0, 0, 48, [])), (3, (0, 1, 1, [])), (4, (0, -1, 47, []))], [(2, [4, 2, 3], []), (20, [2, 0], [30, 0, 1, 0, 0, -1, 3, 2005001]), (20, [2, 0], [30, 0, -1, 0, 0, 1, 3, 2005001]), (20, [1, 0], [30, -1, 1, 0, 0, -1, 3, 2005000])], [], [], [(20, [4, 0], [30, -1, 1, 0, 0, -1, 3, 2005001])], [], [(4, 2, -1, -1)])
theorem oo_Mo_dropNode_0 {kA : Nat → ClassId} : or_ok kA GG o_Mo_dropNode_0 := by
  intro A ta ws vs hD hth hl hk hds hf
  have hl : vs.length = 5 := hl
  have hk : ∀ q ∈ ([(0, (2, 0, 0, [150])), (1, (0, 0, 23, [])), (2, (0, 0, 48, [])), (3, (0, 1, 1, [])), (4, (0, -1, 47, []))] : List (Nat × tv_T)), tv_ok ta q.2 (n_v vs q.1) := hk
  obtain ⟨t0, hk⟩ := List.forall_mem_cons.mp hk
  have t0 : tv_ok ta (2, 0, 0, [150]) (n_v vs 0) := t0
  have r0 : ta (v_ad (n_v vs 0)) = some 150 := tv_rg t0
  obtain ⟨t1, hk⟩ := List.forall_mem_cons.mp hk
  have t1 : tv_ok ta (0, 0, 23, []) (n_v vs 1) := t1
  have k1 : 0 ≤ v_iv (n_v vs 1) ∧ v_iv (n_v vs 1) ≤ 23 := tv_rng t1
  obtain ⟨t2, hk⟩ := List.forall_mem_cons.mp hk
  have t2 : tv_ok ta (0, 0, 48, []) (n_v vs 2) := t2
  have k2 : 0 ≤ v_iv (n_v vs 2) ∧ v_iv (n_v vs 2) ≤ 48 := tv_rng t2
  obtain ⟨t3, hk⟩ := List.forall_mem_cons.mp hk
  have t3 : tv_ok ta (0, 1, 1, []) (n_v vs 3) := t3
  have k3 : 1 ≤ v_iv (n_v vs 3) ∧ v_iv (n_v vs 3) ≤ 1 := tv_rng t3
  obtain ⟨t4, hk⟩ := List.forall_mem_cons.mp hk
  have t4 : tv_ok ta (0, -1, 47, []) (n_v vs 4) := t4
  have k4 : (-1) ≤ v_iv (n_v vs 4) ∧ v_iv (n_v vs 4) ≤ 47 := tv_rng t4
  have hds : ∀ q ∈ ([(4, 2, -1, -1)] : List of_T), n_iv vs q.2.1 + q.2.2.1 ≤ n_iv vs q.1 ∧ n_iv vs q.1 ≤ n_iv vs q.2.1 + q.2.2.2 := hds
  obtain ⟨d0, hds⟩ := List.forall_mem_cons.mp hds
  have d0 : v_iv (n_v vs 2) + (-1) ≤ v_iv (n_v vs 4) ∧ v_iv (n_v vs 4) ≤ v_iv (n_v vs 2) + (-1) := d0
  have hf : fc_ok [(2, [4, 2, 3], []), (20, [2, 0], [30, 0, 1, 0, 0, -1, 3, 2005001]), (20, [2, 0], [30, 0, -1, 0, 0, 1, 3, 2005001]), (20, [1, 0], [30, -1, 1, 0, 0, -1, 3, 2005000])] ta ws vs := hf
  obtain ⟨f0, hf⟩ := fc_un (show (2 : Nat) < 100 from by decide) hf
  have f0 : v_iv (n_v vs 4) = v_iv (n_v vs 2) - v_iv (n_v vs 3) := f0
  obtain ⟨f1, hf⟩ := fc_un (show (20 : Nat) < 100 from by decide) hf
  have f1 : 1 * v_iv (n_v vs 2) + ((-1) * w_el ws (w_ar ws (n_v vs 0) 2) (w_fi ws (n_v vs 0) 5 + 1).toNat + 0) ≤ 0 := f1
  obtain ⟨f2, hf⟩ := fc_un (show (20 : Nat) < 100 from by decide) hf
  have f2 : (-1) * v_iv (n_v vs 2) + (1 * w_el ws (w_ar ws (n_v vs 0) 2) (w_fi ws (n_v vs 0) 5 + 1).toNat + 0) ≤ 0 := f2
  obtain ⟨f3, hf⟩ := fc_un (show (20 : Nat) < 100 from by decide) hf
  have f3 : 1 * v_iv (n_v vs 1) + ((-1) * w_el ws (w_ar ws (n_v vs 0) 2) (w_fi ws (n_v vs 0) 5 + 0).toNat + 0) ≤ (-1) := f3
  have cr_0_2 : ta (w_ar ws (n_v vs 0) 2) = some 152 := tv_rg (th_fd hD hth r0 (g := GG_150) rfl (k := 2) (t := (2, 0, 0, [152])) rfl rfl)
  have nf0 : fc_1 (20, [4, 0], [30, -1, 1, 0, 0, -1, 3, 2005001]) ws (vs) := by
    refine ⟨fun n hn => ?_, ?_⟩
    · have hn : n ∈ [4, 0] := hn
      rw [hl]
      simp only [List.mem_cons, List.not_mem_nil, or_false] at hn
      show n < 5; omega
    · show 1 * v_iv (n_v vs 4) + ((-1) * w_el ws (w_ar ws (n_v vs 0) 2) (w_fi ws (n_v vs 0) 5 + 1).toNat + 0) ≤ (-1)
      omega
  refine ⟨(fun _ h => (by cases h)), [], trivial, ?_, (fun _ h => (by cases h))⟩
  rw [List.append_nil]
  exact List.forall_mem_cons.mpr ⟨⟨show (20 : Nat) < 100 from by decide, nf0⟩, (fun _ h => (by cases h))⟩
def o_Mo_dropNode_1 : or_T := (22, 4, [(0, (2, 0, 0, [150])), (1, (0, 0, 23, [])), (2, (0, 0, 47, []))], [(8, [2], [3]), (20, [1, 0], [30, -1, 1, 0, 0, -1, 3, 2005000]), (20, [2, 0], [30, -1, 1, 0, 0, -1, 3, 2005001])], [], [(0, 0, 23, [])], [(23, [4, 1], [0, 1, -1]), (23, [4, 1], [0, -1, 1]), (20, [2, 0], [30, -1, 1, 0, 0, -1, 3, 2005001]), (20, [4, 0], [30, -1, 1, 0, 0, -1, 3, 2005000])], [], [(1, 2, -4294967296, 24), (2, 1, -4294967296, 47)])
theorem oo_Mo_dropNode_1 {kA : Nat → ClassId} : or_ok kA GG o_Mo_dropNode_1 := by
  intro A ta ws vs hD hth hl hk hds hf
  have hl : vs.length = 4 := hl
  have hk : ∀ q ∈ ([(0, (2, 0, 0, [150])), (1, (0, 0, 23, [])), (2, (0, 0, 47, []))] : List (Nat × tv_T)), tv_ok ta q.2 (n_v vs q.1) := hk
  obtain ⟨t0, hk⟩ := List.forall_mem_cons.mp hk
  have t0 : tv_ok ta (2, 0, 0, [150]) (n_v vs 0) := t0
  have r0 : ta (v_ad (n_v vs 0)) = some 150 := tv_rg t0
  obtain ⟨t1, hk⟩ := List.forall_mem_cons.mp hk
  have t1 : tv_ok ta (0, 0, 23, []) (n_v vs 1) := t1
  have k1 : 0 ≤ v_iv (n_v vs 1) ∧ v_iv (n_v vs 1) ≤ 23 := tv_rng t1
  obtain ⟨t2, hk⟩ := List.forall_mem_cons.mp hk
  have t2 : tv_ok ta (0, 0, 47, []) (n_v vs 2) := t2
  have k2 : 0 ≤ v_iv (n_v vs 2) ∧ v_iv (n_v vs 2) ≤ 47 := tv_rng t2
  have hds : ∀ q ∈ ([(1, 2, -4294967296, 24), (2, 1, -4294967296, 47)] : List of_T), n_iv vs q.2.1 + q.2.2.1 ≤ n_iv vs q.1 ∧ n_iv vs q.1 ≤ n_iv vs q.2.1 + q.2.2.2 := hds
  obtain ⟨d0, hds⟩ := List.forall_mem_cons.mp hds
  have d0 : v_iv (n_v vs 2) + (-4294967296) ≤ v_iv (n_v vs 1) ∧ v_iv (n_v vs 1) ≤ v_iv (n_v vs 2) + 24 := d0
  obtain ⟨d1, hds⟩ := List.forall_mem_cons.mp hds
  have d1 : v_iv (n_v vs 1) + (-4294967296) ≤ v_iv (n_v vs 2) ∧ v_iv (n_v vs 2) ≤ v_iv (n_v vs 1) + 47 := d1
  have hf : fc_ok [(8, [2], [3]), (20, [1, 0], [30, -1, 1, 0, 0, -1, 3, 2005000]), (20, [2, 0], [30, -1, 1, 0, 0, -1, 3, 2005001])] ta ws vs := hf
  obtain ⟨f0, hf⟩ := fc_un (show (8 : Nat) < 100 from by decide) hf
  have f0 : 0 ≤ v_iv (n_v vs 2) := f0
  obtain ⟨f1, hf⟩ := fc_un (show (20 : Nat) < 100 from by decide) hf
  have f1 : 1 * v_iv (n_v vs 1) + ((-1) * w_el ws (w_ar ws (n_v vs 0) 2) (w_fi ws (n_v vs 0) 5 + 0).toNat + 0) ≤ (-1) := f1
  obtain ⟨f2, hf⟩ := fc_un (show (20 : Nat) < 100 from by decide) hf
  have f2 : 1 * v_iv (n_v vs 2) + ((-1) * w_el ws (w_ar ws (n_v vs 0) 2) (w_fi ws (n_v vs 0) 5 + 1).toNat + 0) ≤ (-1) := f2
  have cr_0_2 : ta (w_ar ws (n_v vs 0) 2) = some 152 := tv_rg (th_fd hD hth r0 (g := GG_150) rfl (k := 2) (t := (2, 0, 0, [152])) rfl rfl)
  obtain ⟨x, ex, hx⟩ := iv_ex (ta := ta) (lo := 0) (hi := 23) (z := v_iv (n_v vs 1)) (by omega) (by omega) (by omega) (by omega)
  have ex2 : v_iv (Value.int x) = v_iv (n_v vs 1) := ex
  have ex3 : 0 ≤ v_iv (Value.int x) ∧ v_iv (Value.int x) ≤ 23 := tv_rng hx
  have e_0 : n_v (vs ++ [Value.int x]) 0 = n_v vs 0 := n_v_old (by rw [hl]; decide)
  have e_1 : n_v (vs ++ [Value.int x]) 1 = n_v vs 1 := n_v_old (by rw [hl]; decide)
  have e_2 : n_v (vs ++ [Value.int x]) 2 = n_v vs 2 := n_v_old (by rw [hl]; decide)
  have e_4 : n_v (vs ++ [Value.int x]) 4 = Value.int x := n_v_new hl
  have nf0 : fc_1 (23, [4, 1], [0, 1, -1]) ws (vs ++ [Value.int x]) := by
    refine ⟨fun n hn => ?_, ?_⟩
    · have hn : n ∈ [4, 1] := hn
      rw [List.length_append, hl]
      simp only [List.mem_cons, List.not_mem_nil, or_false] at hn
      show n < 4 + 1; omega
    · show 1 * v_iv (n_v (vs ++ [Value.int x]) 4) + ((-1) * v_iv (n_v (vs ++ [Value.int x]) 1) + 0) ≤ 0
      rw [e_1]
      rw [e_4]
      omega
  have nf1 : fc_1 (23, [4, 1], [0, -1, 1]) ws (vs ++ [Value.int x]) := by
    refine ⟨fun n hn => ?_, ?_⟩
    · have hn : n ∈ [4, 1] := hn
      rw [List.length_append, hl]
      simp only [List.mem_cons, List.not_mem_nil, or_false] at hn
      show n < 4 + 1; omega
    · show (-1) * v_iv (n_v (vs ++ [Value.int x]) 4) + (1 * v_iv (n_v (vs ++ [Value.int x]) 1) + 0) ≤ 0
      rw [e_1]
      rw [e_4]
      omega
  have nf2 : fc_1 (20, [2, 0], [30, -1, 1, 0, 0, -1, 3, 2005001]) ws (vs ++ [Value.int x]) := by
    refine ⟨fun n hn => ?_, ?_⟩
    · have hn : n ∈ [2, 0] := hn
      rw [List.length_append, hl]
      simp only [List.mem_cons, List.not_mem_nil, or_false] at hn
      show n < 4 + 1; omega
    · show 1 * v_iv (n_v (vs ++ [Value.int x]) 2) + ((-1) * w_el ws (w_ar ws (n_v (vs ++ [Value.int x]) 0) 2) (w_fi ws (n_v (vs ++ [Value.int x]) 0) 5 + 1).toNat + 0) ≤ (-1)
      rw [e_0]
      rw [e_2]
      omega
  have nf3 : fc_1 (20, [4, 0], [30, -1, 1, 0, 0, -1, 3, 2005000]) ws (vs ++ [Value.int x]) := by
    refine ⟨fun n hn => ?_, ?_⟩
    · have hn : n ∈ [4, 0] := hn
      rw [List.length_append, hl]
      simp only [List.mem_cons, List.not_mem_nil, or_false] at hn
      show n < 4 + 1; omega
    · show 1 * v_iv (n_v (vs ++ [Value.int x]) 4) + ((-1) * w_el ws (w_ar ws (n_v (vs ++ [Value.int x]) 0) 2) (w_fi ws (n_v (vs ++ [Value.int x]) 0) 5 + 0).toNat + 0) ≤ (-1)
      rw [e_0]
      rw [e_4]
      omega
  exact ⟨(fun _ h => (by cases h)), [Value.int x], ag_one hx, List.forall_mem_cons.mpr ⟨⟨show (23 : Nat) < 100 from by decide, nf0⟩, List.forall_mem_cons.mpr ⟨⟨show (23 : Nat) < 100 from by decide, nf1⟩, List.forall_mem_cons.mpr ⟨⟨show (20 : Nat) < 100 from by decide, nf2⟩, List.forall_mem_cons.mpr ⟨⟨show (20 : Nat) < 100 from by decide, nf3⟩, (fun _ h => (by cases h))⟩⟩⟩⟩, (fun _ h => (by cases h))⟩
def o_Mo_dropNode_2 : or_T := (7, 6, [(0, (2, 0, 0, [150])), (1, (0, 0, 23, [])), (2, (0, 0, 47, [])), (4, (0, 0, 23, [])), (5, (0, -1, 46, []))], [(6, [5, 2], [-1]), (23, [4, 1], [0, 1, -1]), (23, [4, 1], [0, -1, 1]), (20, [2, 0], [30, 0, 1, 0, 0, -1, 3, 2005001]), (20, [4, 0], [30, -1, 1, 0, 0, -1, 3, 2005000]), (102, [4], [5708990770823839524233143877797980545530986496]), (23, [4, 1], [0, 1, -1]), (23, [4, 1], [0, -1, 1]), (8, [2], [3])], [], [], [(20, [1, 0], [30, -1, 1, 0, 0, -1, 3, 2005000]), (20, [5, 0], [30, -1, 1, 0, 0, -1, 3, 2005001])], [], [(5, 2, -1, -1), (5, 1, -4294967296, 46), (1, 2, -4294967296, 24), (2, 1, -4294967296, 47)])
theorem oo_Mo_dropNode_2 {kA : Nat → ClassId} : or_ok kA GG o_Mo_dropNode_2 := by
  intro A ta ws vs hD hth hl hk hds hf
  have hl : vs.length = 6 := hl
  have hk : ∀ q ∈ ([(0, (2, 0, 0, [150])), (1, (0, 0, 23, [])), (2, (0, 0, 47, [])), (4, (0, 0, 23, [])), (5, (0, -1, 46, []))] : List (Nat × tv_T)), tv_ok ta q.2 (n_v vs q.1) := hk
  obtain ⟨t0, hk⟩ := List.forall_mem_cons.mp hk
  have t0 : tv_ok ta (2, 0, 0, [150]) (n_v vs 0) := t0
  have r0 : ta (v_ad (n_v vs 0)) = some 150 := tv_rg t0
  obtain ⟨t1, hk⟩ := List.forall_mem_cons.mp hk
  have t1 : tv_ok ta (0, 0, 23, []) (n_v vs 1) := t1
  have k1 : 0 ≤ v_iv (n_v vs 1) ∧ v_iv (n_v vs 1) ≤ 23 := tv_rng t1
  obtain ⟨t2, hk⟩ := List.forall_mem_cons.mp hk
  have t2 : tv_ok ta (0, 0, 47, []) (n_v vs 2) := t2
  have k2 : 0 ≤ v_iv (n_v vs 2) ∧ v_iv (n_v vs 2) ≤ 47 := tv_rng t2
  obtain ⟨t4, hk⟩ := List.forall_mem_cons.mp hk
  have t4 : tv_ok ta (0, 0, 23, []) (n_v vs 4) := t4
  have k4 : 0 ≤ v_iv (n_v vs 4) ∧ v_iv (n_v vs 4) ≤ 23 := tv_rng t4
  obtain ⟨t5, hk⟩ := List.forall_mem_cons.mp hk
  have t5 : tv_ok ta (0, -1, 46, []) (n_v vs 5) := t5
  have k5 : (-1) ≤ v_iv (n_v vs 5) ∧ v_iv (n_v vs 5) ≤ 46 := tv_rng t5
  have hds : ∀ q ∈ ([(5, 2, -1, -1), (5, 1, -4294967296, 46), (1, 2, -4294967296, 24), (2, 1, -4294967296, 47)] : List of_T), n_iv vs q.2.1 + q.2.2.1 ≤ n_iv vs q.1 ∧ n_iv vs q.1 ≤ n_iv vs q.2.1 + q.2.2.2 := hds
  obtain ⟨d0, hds⟩ := List.forall_mem_cons.mp hds
  have d0 : v_iv (n_v vs 2) + (-1) ≤ v_iv (n_v vs 5) ∧ v_iv (n_v vs 5) ≤ v_iv (n_v vs 2) + (-1) := d0
  obtain ⟨d1, hds⟩ := List.forall_mem_cons.mp hds
  have d1 : v_iv (n_v vs 1) + (-4294967296) ≤ v_iv (n_v vs 5) ∧ v_iv (n_v vs 5) ≤ v_iv (n_v vs 1) + 46 := d1
  obtain ⟨d2, hds⟩ := List.forall_mem_cons.mp hds
  have d2 : v_iv (n_v vs 2) + (-4294967296) ≤ v_iv (n_v vs 1) ∧ v_iv (n_v vs 1) ≤ v_iv (n_v vs 2) + 24 := d2
  obtain ⟨d3, hds⟩ := List.forall_mem_cons.mp hds
  have d3 : v_iv (n_v vs 1) + (-4294967296) ≤ v_iv (n_v vs 2) ∧ v_iv (n_v vs 2) ≤ v_iv (n_v vs 1) + 47 := d3
  have hf : fc_ok [(6, [5, 2], [-1]), (23, [4, 1], [0, 1, -1]), (23, [4, 1], [0, -1, 1]), (20, [2, 0], [30, 0, 1, 0, 0, -1, 3, 2005001]), (20, [4, 0], [30, -1, 1, 0, 0, -1, 3, 2005000]), (102, [4], [5708990770823839524233143877797980545530986496]), (23, [4, 1], [0, 1, -1]), (23, [4, 1], [0, -1, 1]), (8, [2], [3])] ta ws vs := hf
  obtain ⟨f0, hf⟩ := fc_un (show (6 : Nat) < 100 from by decide) hf
  have f0 : v_iv (n_v vs 5) = v_iv (n_v vs 2) + (-1) := f0
  obtain ⟨f1, hf⟩ := fc_un (show (23 : Nat) < 100 from by decide) hf
  have f1 : 1 * v_iv (n_v vs 4) + ((-1) * v_iv (n_v vs 1) + 0) ≤ 0 := f1
  obtain ⟨f2, hf⟩ := fc_un (show (23 : Nat) < 100 from by decide) hf
  have f2 : (-1) * v_iv (n_v vs 4) + (1 * v_iv (n_v vs 1) + 0) ≤ 0 := f2
  obtain ⟨f3, hf⟩ := fc_un (show (20 : Nat) < 100 from by decide) hf
  have f3 : 1 * v_iv (n_v vs 2) + ((-1) * w_el ws (w_ar ws (n_v vs 0) 2) (w_fi ws (n_v vs 0) 5 + 1).toNat + 0) ≤ 0 := f3
  obtain ⟨f4, hf⟩ := fc_un (show (20 : Nat) < 100 from by decide) hf
  have f4 : 1 * v_iv (n_v vs 4) + ((-1) * w_el ws (w_ar ws (n_v vs 0) 2) (w_fi ws (n_v vs 0) 5 + 0).toNat + 0) ≤ (-1) := f4
  obtain ⟨ta1, w1, le1, ⟨_, s1⟩, hf⟩ := fc_us (show ¬ (102 : Nat) < 100 from by decide) hf
  obtain ⟨f6, hf⟩ := fc_un (show (23 : Nat) < 100 from by decide) hf
  have f6 : 1 * v_iv (n_v vs 4) + ((-1) * v_iv (n_v vs 1) + 0) ≤ 0 := f6
  obtain ⟨f7, hf⟩ := fc_un (show (23 : Nat) < 100 from by decide) hf
  have f7 : (-1) * v_iv (n_v vs 4) + (1 * v_iv (n_v vs 1) + 0) ≤ 0 := f7
  obtain ⟨f8, hf⟩ := fc_un (show (8 : Nat) < 100 from by decide) hf
  have f8 : 0 ≤ v_iv (n_v vs 2) := f8
  have cr_0_2 : ta (w_ar ws (n_v vs 0) 2) = some 152 := tv_rg (th_fd hD hth r0 (g := GG_150) rfl (k := 2) (t := (2, 0, 0, [152])) rfl rfl)
  have nf0 : fc_1 (20, [1, 0], [30, -1, 1, 0, 0, -1, 3, 2005000]) ws (vs) := by
    refine ⟨fun n hn => ?_, ?_⟩
    · have hn : n ∈ [1, 0] := hn
      rw [hl]
      simp only [List.mem_cons, List.not_mem_nil, or_false] at hn
      show n < 6; omega
    · show 1 * v_iv (n_v vs 1) + ((-1) * w_el ws (w_ar ws (n_v vs 0) 2) (w_fi ws (n_v vs 0) 5 + 0).toNat + 0) ≤ (-1)
      omega
  have nf1 : fc_1 (20, [5, 0], [30, -1, 1, 0, 0, -1, 3, 2005001]) ws (vs) := by
    refine ⟨fun n hn => ?_, ?_⟩
    · have hn : n ∈ [5, 0] := hn
      rw [hl]
      simp only [List.mem_cons, List.not_mem_nil, or_false] at hn
      show n < 6; omega
    · show 1 * v_iv (n_v vs 5) + ((-1) * w_el ws (w_ar ws (n_v vs 0) 2) (w_fi ws (n_v vs 0) 5 + 1).toNat + 0) ≤ (-1)
      omega
  refine ⟨(fun _ h => (by cases h)), [], trivial, ?_, (fun _ h => (by cases h))⟩
  rw [List.append_nil]
  exact List.forall_mem_cons.mpr ⟨⟨show (20 : Nat) < 100 from by decide, nf0⟩, List.forall_mem_cons.mpr ⟨⟨show (20 : Nat) < 100 from by decide, nf1⟩, (fun _ h => (by cases h))⟩⟩
def o_Mo_dropNode_3 : or_T := (7, 5, [(0, (2, 0, 0, [150])), (1, (0, 0, 23, [])), (2, (0, 0, 47, [])), (4, (0, -1, 46, []))], [(6, [4, 2], [-1]), (8, [2], [3]), (20, [1, 0], [30, -1, 1, 0, 0, -1, 3, 2005000]), (20, [2, 0], [30, -1, 1, 0, 0, -1, 3, 2005001])], [], [], [(20, [4, 0], [30, -1, 1, 0, 0, -1, 3, 2005001])], [], [(4, 2, -1, -1), (4, 1, -4294967296, 46), (1, 2, -4294967296, 24), (2, 1, -4294967296, 47)])
theorem oo_Mo_dropNode_3 {kA : Nat → ClassId} : or_ok kA GG o_Mo_dropNode_3 := by
  intro A ta ws vs hD hth hl hk hds hf
  have hl : vs.length = 5 := hl
  have hk : ∀ q ∈ ([(0, (2, 0, 0, [150])), (1, (0, 0, 23, [])), (2, (0, 0, 47, [])), (4, (0, -1, 46, []))] : List (Nat × tv_T)), tv_ok ta q.2 (n_v vs q.1) := hk
  obtain ⟨t0, hk⟩ := List.forall_mem_cons.mp hk
  have t0 : tv_ok ta (2, 0, 0, [150]) (n_v vs 0) := t0
  have r0 : ta (v_ad (n_v vs 0)) = some 150 := tv_rg t0
  obtain ⟨t1, hk⟩ := List.forall_mem_cons.mp hk
  have t1 : tv_ok ta (0, 0, 23, []) (n_v vs 1) := t1
  have k1 : 0 ≤ v_iv (n_v vs 1) ∧ v_iv (n_v vs 1) ≤ 23 := tv_rng t1
  obtain ⟨t2, hk⟩ := List.forall_mem_cons.mp hk
  have t2 : tv_ok ta (0, 0, 47, []) (n_v vs 2) := t2
  have k2 : 0 ≤ v_iv (n_v vs 2) ∧ v_iv (n_v vs 2) ≤ 47 := tv_rng t2
  obtain ⟨t4, hk⟩ := List.forall_mem_cons.mp hk
  have t4 : tv_ok ta (0, -1, 46, []) (n_v vs 4) := t4
  have k4 : (-1) ≤ v_iv (n_v vs 4) ∧ v_iv (n_v vs 4) ≤ 46 := tv_rng t4
  have hds : ∀ q ∈ ([(4, 2, -1, -1), (4, 1, -4294967296, 46), (1, 2, -4294967296, 24), (2, 1, -4294967296, 47)] : List of_T), n_iv vs q.2.1 + q.2.2.1 ≤ n_iv vs q.1 ∧ n_iv vs q.1 ≤ n_iv vs q.2.1 + q.2.2.2 := hds
  obtain ⟨d0, hds⟩ := List.forall_mem_cons.mp hds
  have d0 : v_iv (n_v vs 2) + (-1) ≤ v_iv (n_v vs 4) ∧ v_iv (n_v vs 4) ≤ v_iv (n_v vs 2) + (-1) := d0
  obtain ⟨d1, hds⟩ := List.forall_mem_cons.mp hds
  have d1 : v_iv (n_v vs 1) + (-4294967296) ≤ v_iv (n_v vs 4) ∧ v_iv (n_v vs 4) ≤ v_iv (n_v vs 1) + 46 := d1
  obtain ⟨d2, hds⟩ := List.forall_mem_cons.mp hds
  have d2 : v_iv (n_v vs 2) + (-4294967296) ≤ v_iv (n_v vs 1) ∧ v_iv (n_v vs 1) ≤ v_iv (n_v vs 2) + 24 := d2
  obtain ⟨d3, hds⟩ := List.forall_mem_cons.mp hds
  have d3 : v_iv (n_v vs 1) + (-4294967296) ≤ v_iv (n_v vs 2) ∧ v_iv (n_v vs 2) ≤ v_iv (n_v vs 1) + 47 := d3
  have hf : fc_ok [(6, [4, 2], [-1]), (8, [2], [3]), (20, [1, 0], [30, -1, 1, 0, 0, -1, 3, 2005000]), (20, [2, 0], [30, -1, 1, 0, 0, -1, 3, 2005001])] ta ws vs := hf
  obtain ⟨f0, hf⟩ := fc_un (show (6 : Nat) < 100 from by decide) hf
  have f0 : v_iv (n_v vs 4) = v_iv (n_v vs 2) + (-1) := f0
  obtain ⟨f1, hf⟩ := fc_un (show (8 : Nat) < 100 from by decide) hf
  have f1 : 0 ≤ v_iv (n_v vs 2) := f1
  obtain ⟨f2, hf⟩ := fc_un (show (20 : Nat) < 100 from by decide) hf
  have f2 : 1 * v_iv (n_v vs 1) + ((-1) * w_el ws (w_ar ws (n_v vs 0) 2) (w_fi ws (n_v vs 0) 5 + 0).toNat + 0) ≤ (-1) := f2
  obtain ⟨f3, hf⟩ := fc_un (show (20 : Nat) < 100 from by decide) hf
  have f3 : 1 * v_iv (n_v vs 2) + ((-1) * w_el ws (w_ar ws (n_v vs 0) 2) (w_fi ws (n_v vs 0) 5 + 1).toNat + 0) ≤ (-1) := f3
  have cr_0_2 : ta (w_ar ws (n_v vs 0) 2) = some 152 := tv_rg (th_fd hD hth r0 (g := GG_150) rfl (k := 2) (t := (2, 0, 0, [152])) rfl rfl)
  have nf0 : fc_1 (20, [4, 0], [30, -1, 1, 0, 0, -1, 3, 2005001]) ws (vs) := by
    refine ⟨fun n hn => ?_, ?_⟩
    · have hn : n ∈ [4, 0] := hn
      rw [hl]
      simp only [List.mem_cons, List.not_mem_nil, or_false] at hn
      show n < 5; omega
    · show 1 * v_iv (n_v vs 4) + ((-1) * w_el ws (w_ar ws (n_v vs 0) 2) (w_fi ws (n_v vs 0) 5 + 1).toNat + 0) ≤ (-1)
      omega
  refine ⟨(fun _ h => (by cases h)), [], trivial, ?_, (fun _ h => (by cases h))⟩
  rw [List.append_nil]
  exact List.forall_mem_cons.mpr ⟨⟨show (20 : Nat) < 100 from by decide, nf0⟩, (fun _ h => (by cases h))⟩
def o_Mo_dropNode_4 : or_T := (96, 14, [(0, (2, 0, 0, [150])), (1, (0, 0, 22, [])), (2, (0, 0, 47, [])), (3, (0, 1, 48, [])), (4, (0, 0, 22, [])), (5, (0, 1, 23, [])), (6, (2, 0, 0, [152])), (7, (0, 0, 66297, [])), (8, (0, 315, 315, [])), (9, (0, 315, 66612, [])), (10, (0, 315, 66659, [])), (11, (0, 0, 23, [])), (12, (0, 1, 1, [])), (13, (0, -1, 22, []))], [(2, [13, 11, 12], []), (10, [11, 6, 10], []), (1, [10, 9, 2], []), (1, [9, 7, 8], []), (9, [7, 0], [5]), (9, [6, 0], [2]), (7, [5, 1], [4]), (20, [5, 0, 2], [50, 1, 1, 1005, 1002, 1, 2, 1, 0, 3, 1, 2, 4, 7, 4, 3, 2, 1, 5, 0, 315, 1, 2]), (7, [4, 1], [5]), (20, [4, 0, 2], [50, 1, 1, 1005, 1002, 1, 2, 1, 0, 3, 1, 2, 4, 7, 4, 3, 2, 1, 5, 0, 267, 1, 2]), (7, [2, 3], [2]), (20, [3, 0], [30, 0, 1, 0, 0, -1, 3, 2005001]), (20, [3, 0], [30, 0, -1, 0, 0, 1, 3, 2005001]), (20, [1, 0], [30, -1, 1, 0, 0, -1, 3, 2005000])], [(13, (0, 0, 22, []))], [], [], [], [(13, 11, -1, -1), (10, 2, 315, 66612), (10, 3, -4294967296, 66611), (10, 9, 0, 47), (10, 7, 315, 362), (9, 7, 315, 315), (5, 1, 1, 4294967296), (4, 1, -4294967296, 0), (2, 3, -4294967296, -1), (1, 2, -4294967296, 23)])
theorem oo_Mo_dropNode_4 {kA : Nat → ClassId} : or_ok kA GG o_Mo_dropNode_4 := by
  intro A ta ws vs hD hth hl hk hds hf
  have hl : vs.length = 14 := hl
  have hk : ∀ q ∈ ([(0, (2, 0, 0, [150])), (1, (0, 0, 22, [])), (2, (0, 0, 47, [])), (3, (0, 1, 48, [])), (4, (0, 0, 22, [])), (5, (0, 1, 23, [])), (6, (2, 0, 0, [152])), (7, (0, 0, 66297, [])), (8, (0, 315, 315, [])), (9, (0, 315, 66612, [])), (10, (0, 315, 66659, [])), (11, (0, 0, 23, [])), (12, (0, 1, 1, [])), (13, (0, -1, 22, []))] : List (Nat × tv_T)), tv_ok ta q.2 (n_v vs q.1) := hk
  obtain ⟨t0, hk⟩ := List.forall_mem_cons.mp hk
  have t0 : tv_ok ta (2, 0, 0, [150]) (n_v vs 0) := t0
  have r0 : ta (v_ad (n_v vs 0)) = some 150 := tv_rg t0
  obtain ⟨t1, hk⟩ := List.forall_mem_cons.mp hk
  have t1 : tv_ok ta (0, 0, 22, []) (n_v vs 1) := t1
  have k1 : 0 ≤ v_iv (n_v vs 1) ∧ v_iv (n_v vs 1) ≤ 22 := tv_rng t1
  obtain ⟨t2, hk⟩ := List.forall_mem_cons.mp hk
  have t2 : tv_ok ta (0, 0, 47, []) (n_v vs 2) := t2
  have k2 : 0 ≤ v_iv (n_v vs 2) ∧ v_iv (n_v vs 2) ≤ 47 := tv_rng t2
  obtain ⟨t3, hk⟩ := List.forall_mem_cons.mp hk
  have t3 : tv_ok ta (0, 1, 48, []) (n_v vs 3) := t3
  have k3 : 1 ≤ v_iv (n_v vs 3) ∧ v_iv (n_v vs 3) ≤ 48 := tv_rng t3
  obtain ⟨t4, hk⟩ := List.forall_mem_cons.mp hk
  have t4 : tv_ok ta (0, 0, 22, []) (n_v vs 4) := t4
  have k4 : 0 ≤ v_iv (n_v vs 4) ∧ v_iv (n_v vs 4) ≤ 22 := tv_rng t4
  obtain ⟨t5, hk⟩ := List.forall_mem_cons.mp hk
  have t5 : tv_ok ta (0, 1, 23, []) (n_v vs 5) := t5
  have k5 : 1 ≤ v_iv (n_v vs 5) ∧ v_iv (n_v vs 5) ≤ 23 := tv_rng t5
  obtain ⟨t6, hk⟩ := List.forall_mem_cons.mp hk
  have t6 : tv_ok ta (2, 0, 0, [152]) (n_v vs 6) := t6
  have r6 : ta (v_ad (n_v vs 6)) = some 152 := tv_rg t6
  obtain ⟨t7, hk⟩ := List.forall_mem_cons.mp hk
  have t7 : tv_ok ta (0, 0, 66297, []) (n_v vs 7) := t7
  have k7 : 0 ≤ v_iv (n_v vs 7) ∧ v_iv (n_v vs 7) ≤ 66297 := tv_rng t7
  obtain ⟨t8, hk⟩ := List.forall_mem_cons.mp hk
  have t8 : tv_ok ta (0, 315, 315, []) (n_v vs 8) := t8
  have k8 : 315 ≤ v_iv (n_v vs 8) ∧ v_iv (n_v vs 8) ≤ 315 := tv_rng t8
  obtain ⟨t9, hk⟩ := List.forall_mem_cons.mp hk
  have t9 : tv_ok ta (0, 315, 66612, []) (n_v vs 9) := t9
  have k9 : 315 ≤ v_iv (n_v vs 9) ∧ v_iv (n_v vs 9) ≤ 66612 := tv_rng t9
  obtain ⟨t10, hk⟩ := List.forall_mem_cons.mp hk
  have t10 : tv_ok ta (0, 315, 66659, []) (n_v vs 10) := t10
  have k10 : 315 ≤ v_iv (n_v vs 10) ∧ v_iv (n_v vs 10) ≤ 66659 := tv_rng t10
  obtain ⟨t11, hk⟩ := List.forall_mem_cons.mp hk
  have t11 : tv_ok ta (0, 0, 23, []) (n_v vs 11) := t11
  have k11 : 0 ≤ v_iv (n_v vs 11) ∧ v_iv (n_v vs 11) ≤ 23 := tv_rng t11
  obtain ⟨t12, hk⟩ := List.forall_mem_cons.mp hk
  have t12 : tv_ok ta (0, 1, 1, []) (n_v vs 12) := t12
  have k12 : 1 ≤ v_iv (n_v vs 12) ∧ v_iv (n_v vs 12) ≤ 1 := tv_rng t12
  obtain ⟨t13, hk⟩ := List.forall_mem_cons.mp hk
  have t13 : tv_ok ta (0, -1, 22, []) (n_v vs 13) := t13
  have k13 : (-1) ≤ v_iv (n_v vs 13) ∧ v_iv (n_v vs 13) ≤ 22 := tv_rng t13
  have hds : ∀ q ∈ ([(13, 11, -1, -1), (10, 2, 315, 66612), (10, 3, -4294967296, 66611), (10, 9, 0, 47), (10, 7, 315, 362), (9, 7, 315, 315), (5, 1, 1, 4294967296), (4, 1, -4294967296, 0), (2, 3, -4294967296, -1), (1, 2, -4294967296, 23)] : List of_T), n_iv vs q.2.1 + q.2.2.1 ≤ n_iv vs q.1 ∧ n_iv vs q.1 ≤ n_iv vs q.2.1 + q.2.2.2 := hds
  obtain ⟨d0, hds⟩ := List.forall_mem_cons.mp hds
  have d0 : v_iv (n_v vs 11) + (-1) ≤ v_iv (n_v vs 13) ∧ v_iv (n_v vs 13) ≤ v_iv (n_v vs 11) + (-1) := d0
  obtain ⟨d1, hds⟩ := List.forall_mem_cons.mp hds
  have d1 : v_iv (n_v vs 2) + 315 ≤ v_iv (n_v vs 10) ∧ v_iv (n_v vs 10) ≤ v_iv (n_v vs 2) + 66612 := d1
  obtain ⟨d2, hds⟩ := List.forall_mem_cons.mp hds
  have d2 : v_iv (n_v vs 3) + (-4294967296) ≤ v_iv (n_v vs 10) ∧ v_iv (n_v vs 10) ≤ v_iv (n_v vs 3) + 66611 := d2
  obtain ⟨d3, hds⟩ := List.forall_mem_cons.mp hds
  have d3 : v_iv (n_v vs 9) + 0 ≤ v_iv (n_v vs 10) ∧ v_iv (n_v vs 10) ≤ v_iv (n_v vs 9) + 47 := d3
  obtain ⟨d4, hds⟩ := List.forall_mem_cons.mp hds
  have d4 : v_iv (n_v vs 7) + 315 ≤ v_iv (n_v vs 10) ∧ v_iv (n_v vs 10) ≤ v_iv (n_v vs 7) + 362 := d4
  obtain ⟨d5, hds⟩ := List.forall_mem_cons.mp hds
  have d5 : v_iv (n_v vs 7) + 315 ≤ v_iv (n_v vs 9) ∧ v_iv (n_v vs 9) ≤ v_iv (n_v vs 7) + 315 := d5
  obtain ⟨d6, hds⟩ := List.forall_mem_cons.mp hds
  have d6 : v_iv (n_v vs 1) + 1 ≤ v_iv (n_v vs 5) ∧ v_iv (n_v vs 5) ≤ v_iv (n_v vs 1) + 4294967296 := d6
  obtain ⟨d7, hds⟩ := List.forall_mem_cons.mp hds
  have d7 : v_iv (n_v vs 1) + (-4294967296) ≤ v_iv (n_v vs 4) ∧ v_iv (n_v vs 4) ≤ v_iv (n_v vs 1) + 0 := d7
  obtain ⟨d8, hds⟩ := List.forall_mem_cons.mp hds
  have d8 : v_iv (n_v vs 3) + (-4294967296) ≤ v_iv (n_v vs 2) ∧ v_iv (n_v vs 2) ≤ v_iv (n_v vs 3) + (-1) := d8
  obtain ⟨d9, hds⟩ := List.forall_mem_cons.mp hds
  have d9 : v_iv (n_v vs 2) + (-4294967296) ≤ v_iv (n_v vs 1) ∧ v_iv (n_v vs 1) ≤ v_iv (n_v vs 2) + 23 := d9
  have hf : fc_ok [(2, [13, 11, 12], []), (10, [11, 6, 10], []), (1, [10, 9, 2], []), (1, [9, 7, 8], []), (9, [7, 0], [5]), (9, [6, 0], [2]), (7, [5, 1], [4]), (20, [5, 0, 2], [50, 1, 1, 1005, 1002, 1, 2, 1, 0, 3, 1, 2, 4, 7, 4, 3, 2, 1, 5, 0, 315, 1, 2]), (7, [4, 1], [5]), (20, [4, 0, 2], [50, 1, 1, 1005, 1002, 1, 2, 1, 0, 3, 1, 2, 4, 7, 4, 3, 2, 1, 5, 0, 267, 1, 2]), (7, [2, 3], [2]), (20, [3, 0], [30, 0, 1, 0, 0, -1, 3, 2005001]), (20, [3, 0], [30, 0, -1, 0, 0, 1, 3, 2005001]), (20, [1, 0], [30, -1, 1, 0, 0, -1, 3, 2005000])] ta ws vs := hf
  obtain ⟨f0, hf⟩ := fc_un (show (2 : Nat) < 100 from by decide) hf
  have f0 : v_iv (n_v vs 13) = v_iv (n_v vs 11) - v_iv (n_v vs 12) := f0
  obtain ⟨f1, hf⟩ := fc_un (show (10 : Nat) < 100 from by decide) hf
  have f1 : v_iv (n_v vs 11) = w_el ws (v_ad (n_v vs 6)) (v_iv (n_v vs 10)).toNat := f1
  obtain ⟨f2, hf⟩ := fc_un (show (1 : Nat) < 100 from by decide) hf
  have f2 : v_iv (n_v vs 10) = v_iv (n_v vs 9) + v_iv (n_v vs 2) := f2
  obtain ⟨f3, hf⟩ := fc_un (show (1 : Nat) < 100 from by decide) hf
  have f3 : v_iv (n_v vs 9) = v_iv (n_v vs 7) + v_iv (n_v vs 8) := f3
  obtain ⟨f4, hf⟩ := fc_un (show (9 : Nat) < 100 from by decide) hf
  have f4 : n_v vs 7 = w_fd ws (v_ad (n_v vs 0)) 5 := f4
  obtain ⟨f5, hf⟩ := fc_un (show (9 : Nat) < 100 from by decide) hf
  have f5 : n_v vs 6 = w_fd ws (v_ad (n_v vs 0)) 2 := f5
  obtain ⟨f6, hf⟩ := fc_un (show (7 : Nat) < 100 from by decide) hf
  have f6 : v_iv (n_v vs 1) < v_iv (n_v vs 5) := f6
  obtain ⟨f7, hf⟩ := fc_un (show (20 : Nat) < 100 from by decide) hf
  have f7 : v_iv (n_v vs 5) = w_ei ws (w_ar ws (n_v vs 0) 2) (((w_fi ws (n_v vs 0) 5 + 315) + v_iv (n_v vs 2))) := f7
  obtain ⟨f8, hf⟩ := fc_un (show (7 : Nat) < 100 from by decide) hf
  have f8 : v_iv (n_v vs 4) ≤ v_iv (n_v vs 1) := f8
  obtain ⟨f9, hf⟩ := fc_un (show (20 : Nat) < 100 from by decide) hf
  have f9 : v_iv (n_v vs 4) = w_ei ws (w_ar ws (n_v vs 0) 2) (((w_fi ws (n_v vs 0) 5 + 267) + v_iv (n_v vs 2))) := f9
  obtain ⟨f10, hf⟩ := fc_un (show (7 : Nat) < 100 from by decide) hf
  have f10 : v_iv (n_v vs 2) < v_iv (n_v vs 3) := f10
  obtain ⟨f11, hf⟩ := fc_un (show (20 : Nat) < 100 from by decide) hf
  have f11 : 1 * v_iv (n_v vs 3) + ((-1) * w_el ws (w_ar ws (n_v vs 0) 2) (w_fi ws (n_v vs 0) 5 + 1).toNat + 0) ≤ 0 := f11
  obtain ⟨f12, hf⟩ := fc_un (show (20 : Nat) < 100 from by decide) hf
  have f12 : (-1) * v_iv (n_v vs 3) + (1 * w_el ws (w_ar ws (n_v vs 0) 2) (w_fi ws (n_v vs 0) 5 + 1).toNat + 0) ≤ 0 := f12
  obtain ⟨f13, hf⟩ := fc_un (show (20 : Nat) < 100 from by decide) hf
  have f13 : 1 * v_iv (n_v vs 1) + ((-1) * w_el ws (w_ar ws (n_v vs 0) 2) (w_fi ws (n_v vs 0) 5 + 0).toNat + 0) ≤ (-1) := f13
  have cr_0_2 : ta (w_ar ws (n_v vs 0) 2) = some 152 := tv_rg (th_fd hD hth r0 (g := GG_150) rfl (k := 2) (t := (2, 0, 0, [152])) rfl rfl)
  have ad_6 : v_ad (n_v vs 6) = w_ar ws (n_v vs 0) 2 := congrArg v_ad f5
  rw [ad_6] at f1
  have h1 : v_iv (n_v vs 11) = w_ei ws (w_ar ws (n_v vs 0) 2) (v_iv (n_v vs 10)) := f1
  have g4 : v_iv (n_v vs 7) = w_fi ws (n_v vs 0) 5 := congrArg v_iv f4
  have cg1_F5_1 : v_iv (n_v vs 10) = w_fi ws (n_v vs 0) 5 + 1 → w_el ws (w_ar ws (n_v vs 0) 2) (v_iv (n_v vs 10)).toNat = w_el ws (w_ar ws (n_v vs 0) 2) (w_fi ws (n_v vs 0) 5 + 1).toNat := fun h => by rw [h]
  have cg1_F5_0 : v_iv (n_v vs 10) = w_fi ws (n_v vs 0) 5 + 0 → w_el ws (w_ar ws (n_v vs 0) 2) (v_iv (n_v vs 10)).toNat = w_el ws (w_ar ws (n_v vs 0) 2) (w_fi ws (n_v vs 0) 5 + 0).toNat := fun h => by rw [h]
  have br_0_2_F5_0_0 : w_ei ws (w_ar ws (n_v vs 0) 2) (w_fi ws (n_v vs 0) 5 + 0) = w_el ws (w_ar ws (n_v vs 0) 2) (w_fi ws (n_v vs 0) 5 + 0).toNat := rfl
  have br_0_2_F5_1_0 : w_ei ws (w_ar ws (n_v vs 0) 2) (w_fi ws (n_v vs 0) 5 + 1) = w_el ws (w_ar ws (n_v vs 0) 2) (w_fi ws (n_v vs 0) 5 + 1).toNat := rfl
  have br_0_2_10_0 : w_ei ws (w_ar ws (n_v vs 0) 2) (v_iv (n_v vs 10)) = w_el ws (w_ar ws (n_v vs 0) 2) (v_iv (n_v vs 10)).toNat := rfl
  have rf13 : tv_ok ta (0, 0, 22, []) (n_v vs 13) := tv_in t13 (by first | omega | grind) (by first | omega | grind)
  refine ⟨List.forall_mem_cons.mpr ⟨rf13, (fun _ h => (by cases h))⟩, [], trivial, ?_, (fun _ h => (by cases h))⟩
  rw [List.append_nil]
  exact (fun _ h => (by cases h))
def o_Mo_dropNode_5 : or_T := (33, 15, [(0, (2, 0, 0, [150])), (1, (0, 0, 22, [])), (2, (0, 0, 47, [])), (3, (0, 1, 48, [])), (4, (0, 0, 22, [])), (5, (0, 1, 23, [])), (6, (2, 0, 0, [152])), (7, (0, 0, 66297, [])), (8, (0, 315, 315, [])), (9, (0, 315, 66612, [])), (10, (0, 315, 66659, [])), (11, (0, 0, 23, [])), (12, (0, 1, 1, [])), (13, (0, 0, 22, [])), (14, (0, 1, 48, []))], [(6, [14, 2], [1]), (100, [6, 10, 13], []), (2, [13, 11, 12], []), (10, [11, 6, 10], []), (1, [10, 9, 2], []), (1, [9, 7, 8], []), (9, [7, 0], [5]), (9, [6, 0], [2]), (7, [5, 1], [4]), (20, [5, 0, 2], [50, 1, 1, 1005, 1002, 1, 2, 1, 0, 3, 1, 2, 4, 7, 4, 3, 2, 1, 5, 0, 315, 1, 2]), (7, [4, 1], [5]), (20, [4, 0, 2], [50, 1, 1, 1005, 1002, 1, 2, 1, 0, 3, 1, 2, 4, 7, 4, 3, 2, 1, 5, 0, 267, 1, 2]), (7, [2, 3], [2]), (20, [3, 0], [30, 0, 1, 0, 0, -1, 3, 2005001]), (20, [3, 0], [30, 0, -1, 0, 0, 1, 3, 2005001]), (20, [1, 0], [30, -1, 1, 0, 0, -1, 3, 2005000])], [], [], [(20, [1, 0], [30, -1, 1, 0, 0, -1, 3, 2005000])], [], [(14, 2, 1, 1), (14, 3, -4294967296, 0), (13, 11, -1, -1), (10, 2, 315, 66612), (10, 3, -4294967296, 66611), (10, 9, 0, 47), (10, 7, 315, 362), (9, 7, 315, 315), (5, 1, 1, 4294967296), (4, 1, -4294967296, 0), (2, 3, -4294967296, -1), (1, 2, -4294967296, 23)])
theorem oo_Mo_dropNode_5 {kA : Nat → ClassId} : or_ok kA GG o_Mo_dropNode_5 := by
  intro A ta ws vs hD hth hl hk hds hf
  have hl : vs.length = 15 := hl
  have hk : ∀ q ∈ ([(0, (2, 0, 0, [150])), (1, (0, 0, 22, [])), (2, (0, 0, 47, [])), (3, (0, 1, 48, [])), (4, (0, 0, 22, [])), (5, (0, 1, 23, [])), (6, (2, 0, 0, [152])), (7, (0, 0, 66297, [])), (8, (0, 315, 315, [])), (9, (0, 315, 66612, [])), (10, (0, 315, 66659, [])), (11, (0, 0, 23, [])), (12, (0, 1, 1, [])), (13, (0, 0, 22, [])), (14, (0, 1, 48, []))] : List (Nat × tv_T)), tv_ok ta q.2 (n_v vs q.1) := hk
  obtain ⟨t0, hk⟩ := List.forall_mem_cons.mp hk
  have t0 : tv_ok ta (2, 0, 0, [150]) (n_v vs 0) := t0
  have r0 : ta (v_ad (n_v vs 0)) = some 150 := tv_rg t0
  obtain ⟨t1, hk⟩ := List.forall_mem_cons.mp hk
  have t1 : tv_ok ta (0, 0, 22, []) (n_v vs 1) := t1
  have k1 : 0 ≤ v_iv (n_v vs 1) ∧ v_iv (n_v vs 1) ≤ 22 := tv_rng t1
  obtain ⟨t2, hk⟩ := List.forall_mem_cons.mp hk
  have t2 : tv_ok ta (0, 0, 47, []) (n_v vs 2) := t2
  have k2 : 0 ≤ v_iv (n_v vs 2) ∧ v_iv (n_v vs 2) ≤ 47 := tv_rng t2
  obtain ⟨t3, hk⟩ := List.forall_mem_cons.mp hk
  have t3 : tv_ok ta (0, 1, 48, []) (n_v vs 3) := t3
  have k3 : 1 ≤ v_iv (n_v vs 3) ∧ v_iv (n_v vs 3) ≤ 48 := tv_rng t3
  obtain ⟨t4, hk⟩ := List.forall_mem_cons.mp hk
  have t4 : tv_ok ta (0, 0, 22, []) (n_v vs 4) := t4
  have k4 : 0 ≤ v_iv (n_v vs 4) ∧ v_iv (n_v vs 4) ≤ 22 := tv_rng t4
  obtain ⟨t5, hk⟩ := List.forall_mem_cons.mp hk
  have t5 : tv_ok ta (0, 1, 23, []) (n_v vs 5) := t5
  have k5 : 1 ≤ v_iv (n_v vs 5) ∧ v_iv (n_v vs 5) ≤ 23 := tv_rng t5
  obtain ⟨t6, hk⟩ := List.forall_mem_cons.mp hk
  have t6 : tv_ok ta (2, 0, 0, [152]) (n_v vs 6) := t6
  have r6 : ta (v_ad (n_v vs 6)) = some 152 := tv_rg t6
  obtain ⟨t7, hk⟩ := List.forall_mem_cons.mp hk
  have t7 : tv_ok ta (0, 0, 66297, []) (n_v vs 7) := t7
  have k7 : 0 ≤ v_iv (n_v vs 7) ∧ v_iv (n_v vs 7) ≤ 66297 := tv_rng t7
  obtain ⟨t8, hk⟩ := List.forall_mem_cons.mp hk
  have t8 : tv_ok ta (0, 315, 315, []) (n_v vs 8) := t8
  have k8 : 315 ≤ v_iv (n_v vs 8) ∧ v_iv (n_v vs 8) ≤ 315 := tv_rng t8
  obtain ⟨t9, hk⟩ := List.forall_mem_cons.mp hk
  have t9 : tv_ok ta (0, 315, 66612, []) (n_v vs 9) := t9
  have k9 : 315 ≤ v_iv (n_v vs 9) ∧ v_iv (n_v vs 9) ≤ 66612 := tv_rng t9
  obtain ⟨t10, hk⟩ := List.forall_mem_cons.mp hk
  have t10 : tv_ok ta (0, 315, 66659, []) (n_v vs 10) := t10
  have k10 : 315 ≤ v_iv (n_v vs 10) ∧ v_iv (n_v vs 10) ≤ 66659 := tv_rng t10
  obtain ⟨t11, hk⟩ := List.forall_mem_cons.mp hk
  have t11 : tv_ok ta (0, 0, 23, []) (n_v vs 11) := t11
  have k11 : 0 ≤ v_iv (n_v vs 11) ∧ v_iv (n_v vs 11) ≤ 23 := tv_rng t11
  obtain ⟨t12, hk⟩ := List.forall_mem_cons.mp hk
  have t12 : tv_ok ta (0, 1, 1, []) (n_v vs 12) := t12
  have k12 : 1 ≤ v_iv (n_v vs 12) ∧ v_iv (n_v vs 12) ≤ 1 := tv_rng t12
  obtain ⟨t13, hk⟩ := List.forall_mem_cons.mp hk
  have t13 : tv_ok ta (0, 0, 22, []) (n_v vs 13) := t13
  have k13 : 0 ≤ v_iv (n_v vs 13) ∧ v_iv (n_v vs 13) ≤ 22 := tv_rng t13
  obtain ⟨t14, hk⟩ := List.forall_mem_cons.mp hk
  have t14 : tv_ok ta (0, 1, 48, []) (n_v vs 14) := t14
  have k14 : 1 ≤ v_iv (n_v vs 14) ∧ v_iv (n_v vs 14) ≤ 48 := tv_rng t14
  have hds : ∀ q ∈ ([(14, 2, 1, 1), (14, 3, -4294967296, 0), (13, 11, -1, -1), (10, 2, 315, 66612), (10, 3, -4294967296, 66611), (10, 9, 0, 47), (10, 7, 315, 362), (9, 7, 315, 315), (5, 1, 1, 4294967296), (4, 1, -4294967296, 0), (2, 3, -4294967296, -1), (1, 2, -4294967296, 23)] : List of_T), n_iv vs q.2.1 + q.2.2.1 ≤ n_iv vs q.1 ∧ n_iv vs q.1 ≤ n_iv vs q.2.1 + q.2.2.2 := hds
  obtain ⟨d0, hds⟩ := List.forall_mem_cons.mp hds
  have d0 : v_iv (n_v vs 2) + 1 ≤ v_iv (n_v vs 14) ∧ v_iv (n_v vs 14) ≤ v_iv (n_v vs 2) + 1 := d0
  obtain ⟨d1, hds⟩ := List.forall_mem_cons.mp hds
  have d1 : v_iv (n_v vs 3) + (-4294967296) ≤ v_iv (n_v vs 14) ∧ v_iv (n_v vs 14) ≤ v_iv (n_v vs 3) + 0 := d1
  obtain ⟨d2, hds⟩ := List.forall_mem_cons.mp hds
  have d2 : v_iv (n_v vs 11) + (-1) ≤ v_iv (n_v vs 13) ∧ v_iv (n_v vs 13) ≤ v_iv (n_v vs 11) + (-1) := d2
  obtain ⟨d3, hds⟩ := List.forall_mem_cons.mp hds
  have d3 : v_iv (n_v vs 2) + 315 ≤ v_iv (n_v vs 10) ∧ v_iv (n_v vs 10) ≤ v_iv (n_v vs 2) + 66612 := d3
  obtain ⟨d4, hds⟩ := List.forall_mem_cons.mp hds
  have d4 : v_iv (n_v vs 3) + (-4294967296) ≤ v_iv (n_v vs 10) ∧ v_iv (n_v vs 10) ≤ v_iv (n_v vs 3) + 66611 := d4
  obtain ⟨d5, hds⟩ := List.forall_mem_cons.mp hds
  have d5 : v_iv (n_v vs 9) + 0 ≤ v_iv (n_v vs 10) ∧ v_iv (n_v vs 10) ≤ v_iv (n_v vs 9) + 47 := d5
  obtain ⟨d6, hds⟩ := List.forall_mem_cons.mp hds
  have d6 : v_iv (n_v vs 7) + 315 ≤ v_iv (n_v vs 10) ∧ v_iv (n_v vs 10) ≤ v_iv (n_v vs 7) + 362 := d6
  obtain ⟨d7, hds⟩ := List.forall_mem_cons.mp hds
  have d7 : v_iv (n_v vs 7) + 315 ≤ v_iv (n_v vs 9) ∧ v_iv (n_v vs 9) ≤ v_iv (n_v vs 7) + 315 := d7
  obtain ⟨d8, hds⟩ := List.forall_mem_cons.mp hds
  have d8 : v_iv (n_v vs 1) + 1 ≤ v_iv (n_v vs 5) ∧ v_iv (n_v vs 5) ≤ v_iv (n_v vs 1) + 4294967296 := d8
  obtain ⟨d9, hds⟩ := List.forall_mem_cons.mp hds
  have d9 : v_iv (n_v vs 1) + (-4294967296) ≤ v_iv (n_v vs 4) ∧ v_iv (n_v vs 4) ≤ v_iv (n_v vs 1) + 0 := d9
  obtain ⟨d10, hds⟩ := List.forall_mem_cons.mp hds
  have d10 : v_iv (n_v vs 3) + (-4294967296) ≤ v_iv (n_v vs 2) ∧ v_iv (n_v vs 2) ≤ v_iv (n_v vs 3) + (-1) := d10
  obtain ⟨d11, hds⟩ := List.forall_mem_cons.mp hds
  have d11 : v_iv (n_v vs 2) + (-4294967296) ≤ v_iv (n_v vs 1) ∧ v_iv (n_v vs 1) ≤ v_iv (n_v vs 2) + 23 := d11
  have hf : fc_ok [(6, [14, 2], [1]), (100, [6, 10, 13], []), (2, [13, 11, 12], []), (10, [11, 6, 10], []), (1, [10, 9, 2], []), (1, [9, 7, 8], []), (9, [7, 0], [5]), (9, [6, 0], [2]), (7, [5, 1], [4]), (20, [5, 0, 2], [50, 1, 1, 1005, 1002, 1, 2, 1, 0, 3, 1, 2, 4, 7, 4, 3, 2, 1, 5, 0, 315, 1, 2]), (7, [4, 1], [5]), (20, [4, 0, 2], [50, 1, 1, 1005, 1002, 1, 2, 1, 0, 3, 1, 2, 4, 7, 4, 3, 2, 1, 5, 0, 267, 1, 2]), (7, [2, 3], [2]), (20, [3, 0], [30, 0, 1, 0, 0, -1, 3, 2005001]), (20, [3, 0], [30, 0, -1, 0, 0, 1, 3, 2005001]), (20, [1, 0], [30, -1, 1, 0, 0, -1, 3, 2005000])] ta ws vs := hf
  obtain ⟨f0, hf⟩ := fc_un (show (6 : Nat) < 100 from by decide) hf
  have f0 : v_iv (n_v vs 14) = v_iv (n_v vs 2) + 1 := f0
  obtain ⟨ta1, w1, le1, ⟨_, s1⟩, hf⟩ := fc_us (show ¬ (100 : Nat) < 100 from by decide) hf
  have s1 : (∀ b j, w_el ws b j = if b = v_ad (n_v vs 6) ∧ j = (v_iv (n_v vs 10)).toNat then v_iv (n_v vs 13) else w_el w1 b j) ∧ ∀ b k, w_fd ws b k = w_fd w1 b k := s1
  obtain ⟨f2, hf⟩ := fc_un (show (2 : Nat) < 100 from by decide) hf
  have f2 : v_iv (n_v vs 13) = v_iv (n_v vs 11) - v_iv (n_v vs 12) := f2
  obtain ⟨f3, hf⟩ := fc_un (show (10 : Nat) < 100 from by decide) hf
  have f3 : v_iv (n_v vs 11) = w_el w1 (v_ad (n_v vs 6)) (v_iv (n_v vs 10)).toNat := f3
  obtain ⟨f4, hf⟩ := fc_un (show (1 : Nat) < 100 from by decide) hf
  have f4 : v_iv (n_v vs 10) = v_iv (n_v vs 9) + v_iv (n_v vs 2) := f4
  obtain ⟨f5, hf⟩ := fc_un (show (1 : Nat) < 100 from by decide) hf
  have f5 : v_iv (n_v vs 9) = v_iv (n_v vs 7) + v_iv (n_v vs 8) := f5
  obtain ⟨f6, hf⟩ := fc_un (show (9 : Nat) < 100 from by decide) hf
  have f6 : n_v vs 7 = w_fd w1 (v_ad (n_v vs 0)) 5 := f6
  obtain ⟨f7, hf⟩ := fc_un (show (9 : Nat) < 100 from by decide) hf
  have f7 : n_v vs 6 = w_fd w1 (v_ad (n_v vs 0)) 2 := f7
  obtain ⟨f8, hf⟩ := fc_un (show (7 : Nat) < 100 from by decide) hf
  have f8 : v_iv (n_v vs 1) < v_iv (n_v vs 5) := f8
  obtain ⟨f9, hf⟩ := fc_un (show (20 : Nat) < 100 from by decide) hf
  have f9 : v_iv (n_v vs 5) = w_ei w1 (w_ar w1 (n_v vs 0) 2) (((w_fi w1 (n_v vs 0) 5 + 315) + v_iv (n_v vs 2))) := f9
  obtain ⟨f10, hf⟩ := fc_un (show (7 : Nat) < 100 from by decide) hf
  have f10 : v_iv (n_v vs 4) ≤ v_iv (n_v vs 1) := f10
  obtain ⟨f11, hf⟩ := fc_un (show (20 : Nat) < 100 from by decide) hf
  have f11 : v_iv (n_v vs 4) = w_ei w1 (w_ar w1 (n_v vs 0) 2) (((w_fi w1 (n_v vs 0) 5 + 267) + v_iv (n_v vs 2))) := f11
  obtain ⟨f12, hf⟩ := fc_un (show (7 : Nat) < 100 from by decide) hf
  have f12 : v_iv (n_v vs 2) < v_iv (n_v vs 3) := f12
  obtain ⟨f13, hf⟩ := fc_un (show (20 : Nat) < 100 from by decide) hf
  have f13 : 1 * v_iv (n_v vs 3) + ((-1) * w_el w1 (w_ar w1 (n_v vs 0) 2) (w_fi w1 (n_v vs 0) 5 + 1).toNat + 0) ≤ 0 := f13
  obtain ⟨f14, hf⟩ := fc_un (show (20 : Nat) < 100 from by decide) hf
  have f14 : (-1) * v_iv (n_v vs 3) + (1 * w_el w1 (w_ar w1 (n_v vs 0) 2) (w_fi w1 (n_v vs 0) 5 + 1).toNat + 0) ≤ 0 := f14
  obtain ⟨f15, hf⟩ := fc_un (show (20 : Nat) < 100 from by decide) hf
  have f15 : 1 * v_iv (n_v vs 1) + ((-1) * w_el w1 (w_ar w1 (n_v vs 0) 2) (w_fi w1 (n_v vs 0) 5 + 0).toNat + 0) ≤ (-1) := f15
  have ar_0_2_1 : w_ar w1 (n_v vs 0) 2 = w_ar ws (n_v vs 0) 2 := by show v_ad (w_fd w1 _ _) = v_ad (w_fd ws _ _); rw [s1.2]
  have cr_0_2 : ta (w_ar ws (n_v vs 0) 2) = some 152 := tv_rg (th_fd hD hth r0 (g := GG_150) rfl (k := 2) (t := (2, 0, 0, [152])) rfl rfl)
  have fi_0_5_1 : w_fi w1 (n_v vs 0) 5 = w_fi ws (n_v vs 0) 5 := by show v_iv (w_fd w1 _ _) = v_iv (w_fd ws _ _); rw [s1.2]
  have ad_6 : v_ad (n_v vs 6) = w_ar ws (n_v vs 0) 2 := (congrArg v_ad f7).trans ar_0_2_1
  rw [ad_6] at f3
  have h3 : v_iv (n_v vs 11) = w_ei w1 (w_ar ws (n_v vs 0) 2) (v_iv (n_v vs 10)) := f3
  have g6 : v_iv (n_v vs 7) = w_fi w1 (n_v vs 0) 5 := congrArg v_iv f6
  rw [ar_0_2_1] at f9
  rw [ar_0_2_1] at f11
  rw [ar_0_2_1] at f13
  rw [fi_0_5_1] at f13
  rw [ar_0_2_1] at f14
  rw [fi_0_5_1] at f14
  rw [ar_0_2_1] at f15
  rw [fi_0_5_1] at f15
  have cg3_F5_1 : v_iv (n_v vs 10) = w_fi ws (n_v vs 0) 5 + 1 → w_el w1 (w_ar ws (n_v vs 0) 2) (v_iv (n_v vs 10)).toNat = w_el w1 (w_ar ws (n_v vs 0) 2) (w_fi ws (n_v vs 0) 5 + 1).toNat := fun h => by rw [h]
  have cg3_F5_0 : v_iv (n_v vs 10) = w_fi ws (n_v vs 0) 5 + 0 → w_el w1 (w_ar ws (n_v vs 0) 2) (v_iv (n_v vs 10)).toNat = w_el w1 (w_ar ws (n_v vs 0) 2) (w_fi ws (n_v vs 0) 5 + 0).toNat := fun h => by rw [h]
  have fe_0_5_1 : w_fi ws (n_v vs 0) 5 = w_fi w1 (n_v vs 0) 5 := congrArg v_iv (s1.2 _ _)
  first | (have ee_0_2_F5_0_1 : w_el ws (w_ar ws (n_v vs 0) 2) (w_fi ws (n_v vs 0) 5 + 0).toNat = w_el w1 (w_ar ws (n_v vs 0) 2) (w_fi ws (n_v vs 0) 5 + 0).toNat := by rw [s1.1, if_neg (fun e => absurd e.2 (by omega))]) | have ee_0_2_F5_0_1 : ((w_fi ws (n_v vs 0) 5 + 0).toNat = (v_iv (n_v vs 10)).toNat → w_el ws (w_ar ws (n_v vs 0) 2) (w_fi ws (n_v vs 0) 5 + 0).toNat = v_iv (n_v vs 13)) ∧ ((w_fi ws (n_v vs 0) 5 + 0).toNat ≠ (v_iv (n_v vs 10)).toNat → w_el ws (w_ar ws (n_v vs 0) 2) (w_fi ws (n_v vs 0) 5 + 0).toNat = w_el w1 (w_ar ws (n_v vs 0) 2) (w_fi ws (n_v vs 0) 5 + 0).toNat) := ⟨fun h => by rw [s1.1, if_pos ⟨ad_6.symm, h⟩], fun h => by rw [s1.1, if_neg (fun e => h e.2)]⟩
  first | (have ee_0_2_F5_1_1 : w_el ws (w_ar ws (n_v vs 0) 2) (w_fi ws (n_v vs 0) 5 + 1).toNat = w_el w1 (w_ar ws (n_v vs 0) 2) (w_fi ws (n_v vs 0) 5 + 1).toNat := by rw [s1.1, if_neg (fun e => absurd e.2 (by omega))]) | have ee_0_2_F5_1_1 : ((w_fi ws (n_v vs 0) 5 + 1).toNat = (v_iv (n_v vs 10)).toNat → w_el ws (w_ar ws (n_v vs 0) 2) (w_fi ws (n_v vs 0) 5 + 1).toNat = v_iv (n_v vs 13)) ∧ ((w_fi ws (n_v vs 0) 5 + 1).toNat ≠ (v_iv (n_v vs 10)).toNat → w_el ws (w_ar ws (n_v vs 0) 2) (w_fi ws (n_v vs 0) 5 + 1).toNat = w_el w1 (w_ar ws (n_v vs 0) 2) (w_fi ws (n_v vs 0) 5 + 1).toNat) := ⟨fun h => by rw [s1.1, if_pos ⟨ad_6.symm, h⟩], fun h => by rw [s1.1, if_neg (fun e => h e.2)]⟩
  have ee_0_2_10_1 : w_el ws (w_ar ws (n_v vs 0) 2) (v_iv (n_v vs 10)).toNat = v_iv (n_v vs 13) := by rw [s1.1, if_pos ⟨ad_6.symm, rfl⟩]
  have br_0_2_F5_0_0 : w_ei ws (w_ar ws (n_v vs 0) 2) (w_fi ws (n_v vs 0) 5 + 0) = w_el ws (w_ar ws (n_v vs 0) 2) (w_fi ws (n_v vs 0) 5 + 0).toNat := rfl
  have br_0_2_F5_0_1 : w_ei w1 (w_ar ws (n_v vs 0) 2) (w_fi ws (n_v vs 0) 5 + 0) = w_el w1 (w_ar ws (n_v vs 0) 2) (w_fi ws (n_v vs 0) 5 + 0).toNat := rfl
  have br_0_2_F5_1_0 : w_ei ws (w_ar ws (n_v vs 0) 2) (w_fi ws (n_v vs 0) 5 + 1) = w_el ws (w_ar ws (n_v vs 0) 2) (w_fi ws (n_v vs 0) 5 + 1).toNat := rfl
  have br_0_2_F5_1_1 : w_ei w1 (w_ar ws (n_v vs 0) 2) (w_fi ws (n_v vs 0) 5 + 1) = w_el w1 (w_ar ws (n_v vs 0) 2) (w_fi ws (n_v vs 0) 5 + 1).toNat := rfl
  have br_0_2_10_0 : w_ei ws (w_ar ws (n_v vs 0) 2) (v_iv (n_v vs 10)) = w_el ws (w_ar ws (n_v vs 0) 2) (v_iv (n_v vs 10)).toNat := rfl
  have br_0_2_10_1 : w_ei w1 (w_ar ws (n_v vs 0) 2) (v_iv (n_v vs 10)) = w_el w1 (w_ar ws (n_v vs 0) 2) (v_iv (n_v vs 10)).toNat := rfl
  have hE_0_2_1 : ∀ j : Int, 0 ≤ j → (j = v_iv (n_v vs 10) → w_ei ws (w_ar ws (n_v vs 0) 2) j = v_iv (n_v vs 13)) ∧ (j ≠ v_iv (n_v vs 10) → w_ei ws (w_ar ws (n_v vs 0) 2) j = w_ei w1 (w_ar ws (n_v vs 0) 2) j) := fun j hj => ⟨fun h => by unfold w_ei; rw [s1.1, if_pos ⟨ad_6.symm, by rw [h]⟩], fun h => by unfold w_ei; rw [s1.1, if_neg (fun e => h (by have := e.2; omega))]⟩
  have nf0 : fc_1 (20, [1, 0], [30, -1, 1, 0, 0, -1, 3, 2005000]) ws (vs) := by
    refine ⟨fun n hn => ?_, ?_⟩
    · have hn : n ∈ [1, 0] := hn
      rw [hl]
      simp only [List.mem_cons, List.not_mem_nil, or_false] at hn
      show n < 15; omega
    · show 1 * v_iv (n_v vs 1) + ((-1) * w_el ws (w_ar ws (n_v vs 0) 2) (w_fi ws (n_v vs 0) 5 + 0).toNat + 0) ≤ (-1)
      omega
  refine ⟨(fun _ h => (by cases h)), [], trivial, ?_, (fun _ h => (by cases h))⟩
  rw [List.append_nil]
  exact List.forall_mem_cons.mpr ⟨⟨show (20 : Nat) < 100 from by decide, nf0⟩, (fun _ h => (by cases h))⟩
def o_Mo_dropNode_6 : or_T := (68, 13, [(0, (2, 0, 0, [150])), (1, (0, 0, 22, [])), (2, (0, 0, 47, [])), (3, (0, 1, 48, [])), (4, (0, 1, 23, [])), (5, (2, 0, 0, [152])), (6, (0, 0, 66297, [])), (7, (0, 267, 267, [])), (8, (0, 267, 66564, [])), (9, (0, 267, 66611, [])), (10, (0, 0, 23, [])), (11, (0, 1, 1, [])), (12, (0, -1, 22, []))], [(2, [12, 10, 11], []), (10, [10, 5, 9], []), (1, [9, 8, 2], []), (1, [8, 6, 7], []), (9, [6, 0], [5]), (9, [5, 0], [2]), (7, [4, 1], [4]), (20, [4, 0, 2], [50, 1, 1, 1005, 1002, 1, 2, 1, 0, 3, 1, 2, 4, 7, 4, 3, 2, 1, 5, 0, 267, 1, 2]), (7, [2, 3], [2]), (20, [3, 0], [30, 0, 1, 0, 0, -1, 3, 2005001]), (20, [3, 0], [30, 0, -1, 0, 0, 1, 3, 2005001]), (20, [1, 0], [30, -1, 1, 0, 0, -1, 3, 2005000])], [(12, (0, 0, 22, []))], [], [], [], [(12, 10, -1, -1), (9, 2, 267, 66564), (9, 3, -4294967296, 66563), (9, 8, 0, 47), (9, 6, 267, 314), (8, 6, 267, 267), (4, 1, 1, 4294967296), (2, 3, -4294967296, -1), (1, 2, -4294967296, 23)])
theorem oo_Mo_dropNode_6 {kA : Nat → ClassId} : or_ok kA GG o_Mo_dropNode_6 := by
  intro A ta ws vs hD hth hl hk hds hf
  have hl : vs.length = 13 := hl
  have hk : ∀ q ∈ ([(0, (2, 0, 0, [150])), (1, (0, 0, 22, [])), (2, (0, 0, 47, [])), (3, (0, 1, 48, [])), (4, (0, 1, 23, [])), (5, (2, 0, 0, [152])), (6, (0, 0, 66297, [])), (7, (0, 267, 267, [])), (8, (0, 267, 66564, [])), (9, (0, 267, 66611, [])), (10, (0, 0, 23, [])), (11, (0, 1, 1, [])), (12, (0, -1, 22, []))] : List (Nat × tv_T)), tv_ok ta q.2 (n_v vs q.1) := hk
  obtain ⟨t0, hk⟩ := List.forall_mem_cons.mp hk
  have t0 : tv_ok ta (2, 0, 0, [150]) (n_v vs 0) := t0
  have r0 : ta (v_ad (n_v vs 0)) = some 150 := tv_rg t0
  obtain ⟨t1, hk⟩ := List.forall_mem_cons.mp hk
  have t1 : tv_ok ta (0, 0, 22, []) (n_v vs 1) := t1
  have k1 : 0 ≤ v_iv (n_v vs 1) ∧ v_iv (n_v vs 1) ≤ 22 := tv_rng t1
  obtain ⟨t2, hk⟩ := List.forall_mem_cons.mp hk
  have t2 : tv_ok ta (0, 0, 47, []) (n_v vs 2) := t2
  have k2 : 0 ≤ v_iv (n_v vs 2) ∧ v_iv (n_v vs 2) ≤ 47 := tv_rng t2
  obtain ⟨t3, hk⟩ := List.forall_mem_cons.mp hk
  have t3 : tv_ok ta (0, 1, 48, []) (n_v vs 3) := t3
  have k3 : 1 ≤ v_iv (n_v vs 3) ∧ v_iv (n_v vs 3) ≤ 48 := tv_rng t3
  obtain ⟨t4, hk⟩ := List.forall_mem_cons.mp hk
  have t4 : tv_ok ta (0, 1, 23, []) (n_v vs 4) := t4
  have k4 : 1 ≤ v_iv (n_v vs 4) ∧ v_iv (n_v vs 4) ≤ 23 := tv_rng t4
  obtain ⟨t5, hk⟩ := List.forall_mem_cons.mp hk
  have t5 : tv_ok ta (2, 0, 0, [152]) (n_v vs 5) := t5
  have r5 : ta (v_ad (n_v vs 5)) = some 152 := tv_rg t5
  obtain ⟨t6, hk⟩ := List.forall_mem_cons.mp hk
  have t6 : tv_ok ta (0, 0, 66297, []) (n_v vs 6) := t6
  have k6 : 0 ≤ v_iv (n_v vs 6) ∧ v_iv (n_v vs 6) ≤ 66297 := tv_rng t6
  obtain ⟨t7, hk⟩ := List.forall_mem_cons.mp hk
  have t7 : tv_ok ta (0, 267, 267, []) (n_v vs 7) := t7
  have k7 : 267 ≤ v_iv (n_v vs 7) ∧ v_iv (n_v vs 7) ≤ 267 := tv_rng t7
  obtain ⟨t8, hk⟩ := List.forall_mem_cons.mp hk
  have t8 : tv_ok ta (0, 267, 66564, []) (n_v vs 8) := t8
  have k8 : 267 ≤ v_iv (n_v vs 8) ∧ v_iv (n_v vs 8) ≤ 66564 := tv_rng t8
  obtain ⟨t9, hk⟩ := List.forall_mem_cons.mp hk
  have t9 : tv_ok ta (0, 267, 66611, []) (n_v vs 9) := t9
  have k9 : 267 ≤ v_iv (n_v vs 9) ∧ v_iv (n_v vs 9) ≤ 66611 := tv_rng t9
  obtain ⟨t10, hk⟩ := List.forall_mem_cons.mp hk
  have t10 : tv_ok ta (0, 0, 23, []) (n_v vs 10) := t10
  have k10 : 0 ≤ v_iv (n_v vs 10) ∧ v_iv (n_v vs 10) ≤ 23 := tv_rng t10
  obtain ⟨t11, hk⟩ := List.forall_mem_cons.mp hk
  have t11 : tv_ok ta (0, 1, 1, []) (n_v vs 11) := t11
  have k11 : 1 ≤ v_iv (n_v vs 11) ∧ v_iv (n_v vs 11) ≤ 1 := tv_rng t11
  obtain ⟨t12, hk⟩ := List.forall_mem_cons.mp hk
  have t12 : tv_ok ta (0, -1, 22, []) (n_v vs 12) := t12
  have k12 : (-1) ≤ v_iv (n_v vs 12) ∧ v_iv (n_v vs 12) ≤ 22 := tv_rng t12
  have hds : ∀ q ∈ ([(12, 10, -1, -1), (9, 2, 267, 66564), (9, 3, -4294967296, 66563), (9, 8, 0, 47), (9, 6, 267, 314), (8, 6, 267, 267), (4, 1, 1, 4294967296), (2, 3, -4294967296, -1), (1, 2, -4294967296, 23)] : List of_T), n_iv vs q.2.1 + q.2.2.1 ≤ n_iv vs q.1 ∧ n_iv vs q.1 ≤ n_iv vs q.2.1 + q.2.2.2 := hds
  obtain ⟨d0, hds⟩ := List.forall_mem_cons.mp hds
  have d0 : v_iv (n_v vs 10) + (-1) ≤ v_iv (n_v vs 12) ∧ v_iv (n_v vs 12) ≤ v_iv (n_v vs 10) + (-1) := d0
  obtain ⟨d1, hds⟩ := List.forall_mem_cons.mp hds
  have d1 : v_iv (n_v vs 2) + 267 ≤ v_iv (n_v vs 9) ∧ v_iv (n_v vs 9) ≤ v_iv (n_v vs 2) + 66564 := d1
  obtain ⟨d2, hds⟩ := List.forall_mem_cons.mp hds
  have d2 : v_iv (n_v vs 3) + (-4294967296) ≤ v_iv (n_v vs 9) ∧ v_iv (n_v vs 9) ≤ v_iv (n_v vs 3) + 66563 := d2
  obtain ⟨d3, hds⟩ := List.forall_mem_cons.mp hds
  have d3 : v_iv (n_v vs 8) + 0 ≤ v_iv (n_v vs 9) ∧ v_iv (n_v vs 9) ≤ v_iv (n_v vs 8) + 47 := d3
  obtain ⟨d4, hds⟩ := List.forall_mem_cons.mp hds
  have d4 : v_iv (n_v vs 6) + 267 ≤ v_iv (n_v vs 9) ∧ v_iv (n_v vs 9) ≤ v_iv (n_v vs 6) + 314 := d4
  obtain ⟨d5, hds⟩ := List.forall_mem_cons.mp hds
  have d5 : v_iv (n_v vs 6) + 267 ≤ v_iv (n_v vs 8) ∧ v_iv (n_v vs 8) ≤ v_iv (n_v vs 6) + 267 := d5
  obtain ⟨d6, hds⟩ := List.forall_mem_cons.mp hds
  have d6 : v_iv (n_v vs 1) + 1 ≤ v_iv (n_v vs 4) ∧ v_iv (n_v vs 4) ≤ v_iv (n_v vs 1) + 4294967296 := d6
  obtain ⟨d7, hds⟩ := List.forall_mem_cons.mp hds
  have d7 : v_iv (n_v vs 3) + (-4294967296) ≤ v_iv (n_v vs 2) ∧ v_iv (n_v vs 2) ≤ v_iv (n_v vs 3) + (-1) := d7
  obtain ⟨d8, hds⟩ := List.forall_mem_cons.mp hds
  have d8 : v_iv (n_v vs 2) + (-4294967296) ≤ v_iv (n_v vs 1) ∧ v_iv (n_v vs 1) ≤ v_iv (n_v vs 2) + 23 := d8
  have hf : fc_ok [(2, [12, 10, 11], []), (10, [10, 5, 9], []), (1, [9, 8, 2], []), (1, [8, 6, 7], []), (9, [6, 0], [5]), (9, [5, 0], [2]), (7, [4, 1], [4]), (20, [4, 0, 2], [50, 1, 1, 1005, 1002, 1, 2, 1, 0, 3, 1, 2, 4, 7, 4, 3, 2, 1, 5, 0, 267, 1, 2]), (7, [2, 3], [2]), (20, [3, 0], [30, 0, 1, 0, 0, -1, 3, 2005001]), (20, [3, 0], [30, 0, -1, 0, 0, 1, 3, 2005001]), (20, [1, 0], [30, -1, 1, 0, 0, -1, 3, 2005000])] ta ws vs := hf
  obtain ⟨f0, hf⟩ := fc_un (show (2 : Nat) < 100 from by decide) hf
  have f0 : v_iv (n_v vs 12) = v_iv (n_v vs 10) - v_iv (n_v vs 11) := f0
  obtain ⟨f1, hf⟩ := fc_un (show (10 : Nat) < 100 from by decide) hf
  have f1 : v_iv (n_v vs 10) = w_el ws (v_ad (n_v vs 5)) (v_iv (n_v vs 9)).toNat := f1
  obtain ⟨f2, hf⟩ := fc_un (show (1 : Nat) < 100 from by decide) hf
  have f2 : v_iv (n_v vs 9) = v_iv (n_v vs 8) + v_iv (n_v vs 2) := f2
  obtain ⟨f3, hf⟩ := fc_un (show (1 : Nat) < 100 from by decide) hf
  have f3 : v_iv (n_v vs 8) = v_iv (n_v vs 6) + v_iv (n_v vs 7) := f3
  obtain ⟨f4, hf⟩ := fc_un (show (9 : Nat) < 100 from by decide) hf
  have f4 : n_v vs 6 = w_fd ws (v_ad (n_v vs 0)) 5 := f4
  obtain ⟨f5, hf⟩ := fc_un (show (9 : Nat) < 100 from by decide) hf
  have f5 : n_v vs 5 = w_fd ws (v_ad (n_v vs 0)) 2 := f5
  obtain ⟨f6, hf⟩ := fc_un (show (7 : Nat) < 100 from by decide) hf
  have f6 : v_iv (n_v vs 1) < v_iv (n_v vs 4) := f6
  obtain ⟨f7, hf⟩ := fc_un (show (20 : Nat) < 100 from by decide) hf
  have f7 : v_iv (n_v vs 4) = w_ei ws (w_ar ws (n_v vs 0) 2) (((w_fi ws (n_v vs 0) 5 + 267) + v_iv (n_v vs 2))) := f7
  obtain ⟨f8, hf⟩ := fc_un (show (7 : Nat) < 100 from by decide) hf
  have f8 : v_iv (n_v vs 2) < v_iv (n_v vs 3) := f8
  obtain ⟨f9, hf⟩ := fc_un (show (20 : Nat) < 100 from by decide) hf
  have f9 : 1 * v_iv (n_v vs 3) + ((-1) * w_el ws (w_ar ws (n_v vs 0) 2) (w_fi ws (n_v vs 0) 5 + 1).toNat + 0) ≤ 0 := f9
  obtain ⟨f10, hf⟩ := fc_un (show (20 : Nat) < 100 from by decide) hf
  have f10 : (-1) * v_iv (n_v vs 3) + (1 * w_el ws (w_ar ws (n_v vs 0) 2) (w_fi ws (n_v vs 0) 5 + 1).toNat + 0) ≤ 0 := f10
  obtain ⟨f11, hf⟩ := fc_un (show (20 : Nat) < 100 from by decide) hf
  have f11 : 1 * v_iv (n_v vs 1) + ((-1) * w_el ws (w_ar ws (n_v vs 0) 2) (w_fi ws (n_v vs 0) 5 + 0).toNat + 0) ≤ (-1) := f11
  have cr_0_2 : ta (w_ar ws (n_v vs 0) 2) = some 152 := tv_rg (th_fd hD hth r0 (g := GG_150) rfl (k := 2) (t := (2, 0, 0, [152])) rfl rfl)
  have ad_5 : v_ad (n_v vs 5) = w_ar ws (n_v vs 0) 2 := congrArg v_ad f5
  rw [ad_5] at f1
  have h1 : v_iv (n_v vs 10) = w_ei ws (w_ar ws (n_v vs 0) 2) (v_iv (n_v vs 9)) := f1
  have g4 : v_iv (n_v vs 6) = w_fi ws (n_v vs 0) 5 := congrArg v_iv f4
  have cg1_F5_1 : v_iv (n_v vs 9) = w_fi ws (n_v vs 0) 5 + 1 → w_el ws (w_ar ws (n_v vs 0) 2) (v_iv (n_v vs 9)).toNat = w_el ws (w_ar ws (n_v vs 0) 2) (w_fi ws (n_v vs 0) 5 + 1).toNat := fun h => by rw [h]
  have cg1_F5_0 : v_iv (n_v vs 9) = w_fi ws (n_v vs 0) 5 + 0 → w_el ws (w_ar ws (n_v vs 0) 2) (v_iv (n_v vs 9)).toNat = w_el ws (w_ar ws (n_v vs 0) 2) (w_fi ws (n_v vs 0) 5 + 0).toNat := fun h => by rw [h]
  have br_0_2_F5_0_0 : w_ei ws (w_ar ws (n_v vs 0) 2) (w_fi ws (n_v vs 0) 5 + 0) = w_el ws (w_ar ws (n_v vs 0) 2) (w_fi ws (n_v vs 0) 5 + 0).toNat := rfl
  have br_0_2_F5_1_0 : w_ei ws (w_ar ws (n_v vs 0) 2) (w_fi ws (n_v vs 0) 5 + 1) = w_el ws (w_ar ws (n_v vs 0) 2) (w_fi ws (n_v vs 0) 5 + 1).toNat := rfl
  have br_0_2_9_0 : w_ei ws (w_ar ws (n_v vs 0) 2) (v_iv (n_v vs 9)) = w_el ws (w_ar ws (n_v vs 0) 2) (v_iv (n_v vs 9)).toNat := rfl
  have rf12 : tv_ok ta (0, 0, 22, []) (n_v vs 12) := tv_in t12 (by first | omega | grind) (by first | omega | grind)
  refine ⟨List.forall_mem_cons.mpr ⟨rf12, (fun _ h => (by cases h))⟩, [], trivial, ?_, (fun _ h => (by cases h))⟩
  rw [List.append_nil]
  exact (fun _ h => (by cases h))
def o_Mo_dropNode_7 : or_T := (33, 15, [(0, (2, 0, 0, [150])), (1, (0, 0, 22, [])), (2, (0, 0, 47, [])), (3, (0, 1, 48, [])), (4, (0, 1, 23, [])), (5, (2, 0, 0, [152])), (6, (0, 0, 66297, [])), (7, (0, 267, 267, [])), (8, (0, 267, 66564, [])), (9, (0, 267, 66611, [])), (10, (0, 0, 23, [])), (11, (0, 1, 1, [])), (12, (0, 0, 22, [])), (13, (0, 0, 22, [])), (14, (0, 1, 48, []))], [(6, [14, 2], [1]), (7, [13, 1], [5]), (20, [13, 0, 2], [50, 1, 1, 1005, 1002, 1, 2, 1, 0, 3, 1, 2, 4, 7, 4, 3, 2, 1, 5, 0, 315, 1, 2]), (100, [5, 9, 12], []), (2, [12, 10, 11], []), (10, [10, 5, 9], []), (1, [9, 8, 2], []), (1, [8, 6, 7], []), (9, [6, 0], [5]), (9, [5, 0], [2]), (7, [4, 1], [4]), (20, [4, 0, 2], [50, 1, 1, 1005, 1002, 1, 2, 1, 0, 3, 1, 2, 4, 7, 4, 3, 2, 1, 5, 0, 267, 1, 2]), (7, [2, 3], [2]), (20, [3, 0], [30, 0, 1, 0, 0, -1, 3, 2005001]), (20, [3, 0], [30, 0, -1, 0, 0, 1, 3, 2005001]), (20, [1, 0], [30, -1, 1, 0, 0, -1, 3, 2005000])], [], [], [(20, [1, 0], [30, -1, 1, 0, 0, -1, 3, 2005000])], [], [(14, 2, 1, 1), (14, 3, -4294967296, 0), (13, 1, -4294967296, 0), (12, 10, -1, -1), (9, 2, 267, 66564), (9, 3, -4294967296, 66563), (9, 8, 0, 47), (9, 6, 267, 314), (8, 6, 267, 267), (4, 1, 1, 4294967296), (2, 3, -4294967296, -1), (1, 2, -4294967296, 23)])
theorem oo_Mo_dropNode_7 {kA : Nat → ClassId} : or_ok kA GG o_Mo_dropNode_7 := by
  intro A ta ws vs hD hth hl hk hds hf
  have hl : vs.length = 15 := hl
  have hk : ∀ q ∈ ([(0, (2, 0, 0, [150])), (1, (0, 0, 22, [])), (2, (0, 0, 47, [])), (3, (0, 1, 48, [])), (4, (0, 1, 23, [])), (5, (2, 0, 0, [152])), (6, (0, 0, 66297, [])), (7, (0, 267, 267, [])), (8, (0, 267, 66564, [])), (9, (0, 267, 66611, [])), (10, (0, 0, 23, [])), (11, (0, 1, 1, [])), (12, (0, 0, 22, [])), (13, (0, 0, 22, [])), (14, (0, 1, 48, []))] : List (Nat × tv_T)), tv_ok ta q.2 (n_v vs q.1) := hk
  obtain ⟨t0, hk⟩ := List.forall_mem_cons.mp hk
  have t0 : tv_ok ta (2, 0, 0, [150]) (n_v vs 0) := t0
  have r0 : ta (v_ad (n_v vs 0)) = some 150 := tv_rg t0
  obtain ⟨t1, hk⟩ := List.forall_mem_cons.mp hk
  have t1 : tv_ok ta (0, 0, 22, []) (n_v vs 1) := t1
  have k1 : 0 ≤ v_iv (n_v vs 1) ∧ v_iv (n_v vs 1) ≤ 22 := tv_rng t1
  obtain ⟨t2, hk⟩ := List.forall_mem_cons.mp hk
  have t2 : tv_ok ta (0, 0, 47, []) (n_v vs 2) := t2
  have k2 : 0 ≤ v_iv (n_v vs 2) ∧ v_iv (n_v vs 2) ≤ 47 := tv_rng t2
  obtain ⟨t3, hk⟩ := List.forall_mem_cons.mp hk
  have t3 : tv_ok ta (0, 1, 48, []) (n_v vs 3) := t3
  have k3 : 1 ≤ v_iv (n_v vs 3) ∧ v_iv (n_v vs 3) ≤ 48 := tv_rng t3
  obtain ⟨t4, hk⟩ := List.forall_mem_cons.mp hk
  have t4 : tv_ok ta (0, 1, 23, []) (n_v vs 4) := t4
  have k4 : 1 ≤ v_iv (n_v vs 4) ∧ v_iv (n_v vs 4) ≤ 23 := tv_rng t4
  obtain ⟨t5, hk⟩ := List.forall_mem_cons.mp hk
  have t5 : tv_ok ta (2, 0, 0, [152]) (n_v vs 5) := t5
  have r5 : ta (v_ad (n_v vs 5)) = some 152 := tv_rg t5
  obtain ⟨t6, hk⟩ := List.forall_mem_cons.mp hk
  have t6 : tv_ok ta (0, 0, 66297, []) (n_v vs 6) := t6
  have k6 : 0 ≤ v_iv (n_v vs 6) ∧ v_iv (n_v vs 6) ≤ 66297 := tv_rng t6
  obtain ⟨t7, hk⟩ := List.forall_mem_cons.mp hk
  have t7 : tv_ok ta (0, 267, 267, []) (n_v vs 7) := t7
  have k7 : 267 ≤ v_iv (n_v vs 7) ∧ v_iv (n_v vs 7) ≤ 267 := tv_rng t7
  obtain ⟨t8, hk⟩ := List.forall_mem_cons.mp hk
  have t8 : tv_ok ta (0, 267, 66564, []) (n_v vs 8) := t8
  have k8 : 267 ≤ v_iv (n_v vs 8) ∧ v_iv (n_v vs 8) ≤ 66564 := tv_rng t8
  obtain ⟨t9, hk⟩ := List.forall_mem_cons.mp hk
  have t9 : tv_ok ta (0, 267, 66611, []) (n_v vs 9) := t9
  have k9 : 267 ≤ v_iv (n_v vs 9) ∧ v_iv (n_v vs 9) ≤ 66611 := tv_rng t9
  obtain ⟨t10, hk⟩ := List.forall_mem_cons.mp hk
  have t10 : tv_ok ta (0, 0, 23, []) (n_v vs 10) := t10
  have k10 : 0 ≤ v_iv (n_v vs 10) ∧ v_iv (n_v vs 10) ≤ 23 := tv_rng t10
  obtain ⟨t11, hk⟩ := List.forall_mem_cons.mp hk
  have t11 : tv_ok ta (0, 1, 1, []) (n_v vs 11) := t11
  have k11 : 1 ≤ v_iv (n_v vs 11) ∧ v_iv (n_v vs 11) ≤ 1 := tv_rng t11
  obtain ⟨t12, hk⟩ := List.forall_mem_cons.mp hk
  have t12 : tv_ok ta (0, 0, 22, []) (n_v vs 12) := t12
  have k12 : 0 ≤ v_iv (n_v vs 12) ∧ v_iv (n_v vs 12) ≤ 22 := tv_rng t12
  obtain ⟨t13, hk⟩ := List.forall_mem_cons.mp hk
  have t13 : tv_ok ta (0, 0, 22, []) (n_v vs 13) := t13
  have k13 : 0 ≤ v_iv (n_v vs 13) ∧ v_iv (n_v vs 13) ≤ 22 := tv_rng t13
  obtain ⟨t14, hk⟩ := List.forall_mem_cons.mp hk
  have t14 : tv_ok ta (0, 1, 48, []) (n_v vs 14) := t14
  have k14 : 1 ≤ v_iv (n_v vs 14) ∧ v_iv (n_v vs 14) ≤ 48 := tv_rng t14
  have hds : ∀ q ∈ ([(14, 2, 1, 1), (14, 3, -4294967296, 0), (13, 1, -4294967296, 0), (12, 10, -1, -1), (9, 2, 267, 66564), (9, 3, -4294967296, 66563), (9, 8, 0, 47), (9, 6, 267, 314), (8, 6, 267, 267), (4, 1, 1, 4294967296), (2, 3, -4294967296, -1), (1, 2, -4294967296, 23)] : List of_T), n_iv vs q.2.1 + q.2.2.1 ≤ n_iv vs q.1 ∧ n_iv vs q.1 ≤ n_iv vs q.2.1 + q.2.2.2 := hds
  obtain ⟨d0, hds⟩ := List.forall_mem_cons.mp hds
  have d0 : v_iv (n_v vs 2) + 1 ≤ v_iv (n_v vs 14) ∧ v_iv (n_v vs 14) ≤ v_iv (n_v vs 2) + 1 := d0
  obtain ⟨d1, hds⟩ := List.forall_mem_cons.mp hds
  have d1 : v_iv (n_v vs 3) + (-4294967296) ≤ v_iv (n_v vs 14) ∧ v_iv (n_v vs 14) ≤ v_iv (n_v vs 3) + 0 := d1
  obtain ⟨d2, hds⟩ := List.forall_mem_cons.mp hds
  have d2 : v_iv (n_v vs 1) + (-4294967296) ≤ v_iv (n_v vs 13) ∧ v_iv (n_v vs 13) ≤ v_iv (n_v vs 1) + 0 := d2
  obtain ⟨d3, hds⟩ := List.forall_mem_cons.mp hds
  have d3 : v_iv (n_v vs 10) + (-1) ≤ v_iv (n_v vs 12) ∧ v_iv (n_v vs 12) ≤ v_iv (n_v vs 10) + (-1) := d3
  obtain ⟨d4, hds⟩ := List.forall_mem_cons.mp hds
  have d4 : v_iv (n_v vs 2) + 267 ≤ v_iv (n_v vs 9) ∧ v_iv (n_v vs 9) ≤ v_iv (n_v vs 2) + 66564 := d4
  obtain ⟨d5, hds⟩ := List.forall_mem_cons.mp hds
  have d5 : v_iv (n_v vs 3) + (-4294967296) ≤ v_iv (n_v vs 9) ∧ v_iv (n_v vs 9) ≤ v_iv (n_v vs 3) + 66563 := d5
  obtain ⟨d6, hds⟩ := List.forall_mem_cons.mp hds
  have d6 : v_iv (n_v vs 8) + 0 ≤ v_iv (n_v vs 9) ∧ v_iv (n_v vs 9) ≤ v_iv (n_v vs 8) + 47 := d6
  obtain ⟨d7, hds⟩ := List.forall_mem_cons.mp hds
  have d7 : v_iv (n_v vs 6) + 267 ≤ v_iv (n_v vs 9) ∧ v_iv (n_v vs 9) ≤ v_iv (n_v vs 6) + 314 := d7
  obtain ⟨d8, hds⟩ := List.forall_mem_cons.mp hds
  have d8 : v_iv (n_v vs 6) + 267 ≤ v_iv (n_v vs 8) ∧ v_iv (n_v vs 8) ≤ v_iv (n_v vs 6) + 267 := d8
  obtain ⟨d9, hds⟩ := List.forall_mem_cons.mp hds
  have d9 : v_iv (n_v vs 1) + 1 ≤ v_iv (n_v vs 4) ∧ v_iv (n_v vs 4) ≤ v_iv (n_v vs 1) + 4294967296 := d9
  obtain ⟨d10, hds⟩ := List.forall_mem_cons.mp hds
  have d10 : v_iv (n_v vs 3) + (-4294967296) ≤ v_iv (n_v vs 2) ∧ v_iv (n_v vs 2) ≤ v_iv (n_v vs 3) + (-1) := d10
  obtain ⟨d11, hds⟩ := List.forall_mem_cons.mp hds
  have d11 : v_iv (n_v vs 2) + (-4294967296) ≤ v_iv (n_v vs 1) ∧ v_iv (n_v vs 1) ≤ v_iv (n_v vs 2) + 23 := d11
  have hf : fc_ok [(6, [14, 2], [1]), (7, [13, 1], [5]), (20, [13, 0, 2], [50, 1, 1, 1005, 1002, 1, 2, 1, 0, 3, 1, 2, 4, 7, 4, 3, 2, 1, 5, 0, 315, 1, 2]), (100, [5, 9, 12], []), (2, [12, 10, 11], []), (10, [10, 5, 9], []), (1, [9, 8, 2], []), (1, [8, 6, 7], []), (9, [6, 0], [5]), (9, [5, 0], [2]), (7, [4, 1], [4]), (20, [4, 0, 2], [50, 1, 1, 1005, 1002, 1, 2, 1, 0, 3, 1, 2, 4, 7, 4, 3, 2, 1, 5, 0, 267, 1, 2]), (7, [2, 3], [2]), (20, [3, 0], [30, 0, 1, 0, 0, -1, 3, 2005001]), (20, [3, 0], [30, 0, -1, 0, 0, 1, 3, 2005001]), (20, [1, 0], [30, -1, 1, 0, 0, -1, 3, 2005000])] ta ws vs := hf
  obtain ⟨f0, hf⟩ := fc_un (show (6 : Nat) < 100 from by decide) hf
  have f0 : v_iv (n_v vs 14) = v_iv (n_v vs 2) + 1 := f0
  obtain ⟨f1, hf⟩ := fc_un (show (7 : Nat) < 100 from by decide) hf
  have f1 : v_iv (n_v vs 13) ≤ v_iv (n_v vs 1) := f1
  obtain ⟨f2, hf⟩ := fc_un (show (20 : Nat) < 100 from by decide) hf
  have f2 : v_iv (n_v vs 13) = w_ei ws (w_ar ws (n_v vs 0) 2) (((w_fi ws (n_v vs 0) 5 + 315) + v_iv (n_v vs 2))) := f2
  obtain ⟨ta1, w1, le1, ⟨_, s1⟩, hf⟩ := fc_us (show ¬ (100 : Nat) < 100 from by decide) hf
  have s1 : (∀ b j, w_el ws b j = if b = v_ad (n_v vs 5) ∧ j = (v_iv (n_v vs 9)).toNat then v_iv (n_v vs 12) else w_el w1 b j) ∧ ∀ b k, w_fd ws b k = w_fd w1 b k := s1
  obtain ⟨f4, hf⟩ := fc_un (show (2 : Nat) < 100 from by decide) hf
  have f4 : v_iv (n_v vs 12) = v_iv (n_v vs 10) - v_iv (n_v vs 11) := f4
  obtain ⟨f5, hf⟩ := fc_un (show (10 : Nat) < 100 from by decide) hf
  have f5 : v_iv (n_v vs 10) = w_el w1 (v_ad (n_v vs 5)) (v_iv (n_v vs 9)).toNat := f5
  obtain ⟨f6, hf⟩ := fc_un (show (1 : Nat) < 100 from by decide) hf
  have f6 : v_iv (n_v vs 9) = v_iv (n_v vs 8) + v_iv (n_v vs 2) := f6
  obtain ⟨f7, hf⟩ := fc_un (show (1 : Nat) < 100 from by decide) hf
  have f7 : v_iv (n_v vs 8) = v_iv (n_v vs 6) + v_iv (n_v vs 7) := f7
  obtain ⟨f8, hf⟩ := fc_un (show (9 : Nat) < 100 from by decide) hf
  have f8 : n_v vs 6 = w_fd w1 (v_ad (n_v vs 0)) 5 := f8
  obtain ⟨f9, hf⟩ := fc_un (show (9 : Nat) < 100 from by decide) hf
  have f9 : n_v vs 5 = w_fd w1 (v_ad (n_v vs 0)) 2 := f9
  obtain ⟨f10, hf⟩ := fc_un (show (7 : Nat) < 100 from by decide) hf
  have f10 : v_iv (n_v vs 1) < v_iv (n_v vs 4) := f10
  obtain ⟨f11, hf⟩ := fc_un (show (20 : Nat) < 100 from by decide) hf
  have f11 : v_iv (n_v vs 4) = w_ei w1 (w_ar w1 (n_v vs 0) 2) (((w_fi w1 (n_v vs 0) 5 + 267) + v_iv (n_v vs 2))) := f11
  obtain ⟨f12, hf⟩ := fc_un (show (7 : Nat) < 100 from by decide) hf
  have f12 : v_iv (n_v vs 2) < v_iv (n_v vs 3) := f12
  obtain ⟨f13, hf⟩ := fc_un (show (20 : Nat) < 100 from by decide) hf
  have f13 : 1 * v_iv (n_v vs 3) + ((-1) * w_el w1 (w_ar w1 (n_v vs 0) 2) (w_fi w1 (n_v vs 0) 5 + 1).toNat + 0) ≤ 0 := f13
  obtain ⟨f14, hf⟩ := fc_un (show (20 : Nat) < 100 from by decide) hf
  have f14 : (-1) * v_iv (n_v vs 3) + (1 * w_el w1 (w_ar w1 (n_v vs 0) 2) (w_fi w1 (n_v vs 0) 5 + 1).toNat + 0) ≤ 0 := f14
  obtain ⟨f15, hf⟩ := fc_un (show (20 : Nat) < 100 from by decide) hf
  have f15 : 1 * v_iv (n_v vs 1) + ((-1) * w_el w1 (w_ar w1 (n_v vs 0) 2) (w_fi w1 (n_v vs 0) 5 + 0).toNat + 0) ≤ (-1) := f15
  have ar_0_2_1 : w_ar w1 (n_v vs 0) 2 = w_ar ws (n_v vs 0) 2 := by show v_ad (w_fd w1 _ _) = v_ad (w_fd ws _ _); rw [s1.2]
  have cr_0_2 : ta (w_ar ws (n_v vs 0) 2) = some 152 := tv_rg (th_fd hD hth r0 (g := GG_150) rfl (k := 2) (t := (2, 0, 0, [152])) rfl rfl)
  have fi_0_5_1 : w_fi w1 (n_v vs 0) 5 = w_fi ws (n_v vs 0) 5 := by show v_iv (w_fd w1 _ _) = v_iv (w_fd ws _ _); rw [s1.2]
  have ad_5 : v_ad (n_v vs 5) = w_ar ws (n_v vs 0) 2 := (congrArg v_ad f9).trans ar_0_2_1
  rw [ad_5] at f5
  have h5 : v_iv (n_v vs 10) = w_ei w1 (w_ar ws (n_v vs 0) 2) (v_iv (n_v vs 9)) := f5
  have g8 : v_iv (n_v vs 6) = w_fi w1 (n_v vs 0) 5 := congrArg v_iv f8
  rw [ar_0_2_1] at f11
  rw [ar_0_2_1] at f13
  rw [fi_0_5_1] at f13
  rw [ar_0_2_1] at f14
  rw [fi_0_5_1] at f14
  rw [ar_0_2_1] at f15
  rw [fi_0_5_1] at f15
  have cg5_F5_1 : v_iv (n_v vs 9) = w_fi ws (n_v vs 0) 5 + 1 → w_el w1 (w_ar ws (n_v vs 0) 2) (v_iv (n_v vs 9)).toNat = w_el w1 (w_ar ws (n_v vs 0) 2) (w_fi ws (n_v vs 0) 5 + 1).toNat := fun h => by rw [h]
  have cg5_F5_0 : v_iv (n_v vs 9) = w_fi ws (n_v vs 0) 5 + 0 → w_el w1 (w_ar ws (n_v vs 0) 2) (v_iv (n_v vs 9)).toNat = w_el w1 (w_ar ws (n_v vs 0) 2) (w_fi ws (n_v vs 0) 5 + 0).toNat := fun h => by rw [h]
  have fe_0_5_1 : w_fi ws (n_v vs 0) 5 = w_fi w1 (n_v vs 0) 5 := congrArg v_iv (s1.2 _ _)
  first | (have ee_0_2_F5_0_1 : w_el ws (w_ar ws (n_v vs 0) 2) (w_fi ws (n_v vs 0) 5 + 0).toNat = w_el w1 (w_ar ws (n_v vs 0) 2) (w_fi ws (n_v vs 0) 5 + 0).toNat := by rw [s1.1, if_neg (fun e => absurd e.2 (by omega))]) | have ee_0_2_F5_0_1 : ((w_fi ws (n_v vs 0) 5 + 0).toNat = (v_iv (n_v vs 9)).toNat → w_el ws (w_ar ws (n_v vs 0) 2) (w_fi ws (n_v vs 0) 5 + 0).toNat = v_iv (n_v vs 12)) ∧ ((w_fi ws (n_v vs 0) 5 + 0).toNat ≠ (v_iv (n_v vs 9)).toNat → w_el ws (w_ar ws (n_v vs 0) 2) (w_fi ws (n_v vs 0) 5 + 0).toNat = w_el w1 (w_ar ws (n_v vs 0) 2) (w_fi ws (n_v vs 0) 5 + 0).toNat) := ⟨fun h => by rw [s1.1, if_pos ⟨ad_5.symm, h⟩], fun h => by rw [s1.1, if_neg (fun e => h e.2)]⟩
  first | (have ee_0_2_F5_1_1 : w_el ws (w_ar ws (n_v vs 0) 2) (w_fi ws (n_v vs 0) 5 + 1).toNat = w_el w1 (w_ar ws (n_v vs 0) 2) (w_fi ws (n_v vs 0) 5 + 1).toNat := by rw [s1.1, if_neg (fun e => absurd e.2 (by omega))]) | have ee_0_2_F5_1_1 : ((w_fi ws (n_v vs 0) 5 + 1).toNat = (v_iv (n_v vs 9)).toNat → w_el ws (w_ar ws (n_v vs 0) 2) (w_fi ws (n_v vs 0) 5 + 1).toNat = v_iv (n_v vs 12)) ∧ ((w_fi ws (n_v vs 0) 5 + 1).toNat ≠ (v_iv (n_v vs 9)).toNat → w_el ws (w_ar ws (n_v vs 0) 2) (w_fi ws (n_v vs 0) 5 + 1).toNat = w_el w1 (w_ar ws (n_v vs 0) 2) (w_fi ws (n_v vs 0) 5 + 1).toNat) := ⟨fun h => by rw [s1.1, if_pos ⟨ad_5.symm, h⟩], fun h => by rw [s1.1, if_neg (fun e => h e.2)]⟩
  have ee_0_2_9_1 : w_el ws (w_ar ws (n_v vs 0) 2) (v_iv (n_v vs 9)).toNat = v_iv (n_v vs 12) := by rw [s1.1, if_pos ⟨ad_5.symm, rfl⟩]
  have br_0_2_F5_0_0 : w_ei ws (w_ar ws (n_v vs 0) 2) (w_fi ws (n_v vs 0) 5 + 0) = w_el ws (w_ar ws (n_v vs 0) 2) (w_fi ws (n_v vs 0) 5 + 0).toNat := rfl
  have br_0_2_F5_0_1 : w_ei w1 (w_ar ws (n_v vs 0) 2) (w_fi ws (n_v vs 0) 5 + 0) = w_el w1 (w_ar ws (n_v vs 0) 2) (w_fi ws (n_v vs 0) 5 + 0).toNat := rfl
  have br_0_2_F5_1_0 : w_ei ws (w_ar ws (n_v vs 0) 2) (w_fi ws (n_v vs 0) 5 + 1) = w_el ws (w_ar ws (n_v vs 0) 2) (w_fi ws (n_v vs 0) 5 + 1).toNat := rfl
  have br_0_2_F5_1_1 : w_ei w1 (w_ar ws (n_v vs 0) 2) (w_fi ws (n_v vs 0) 5 + 1) = w_el w1 (w_ar ws (n_v vs 0) 2) (w_fi ws (n_v vs 0) 5 + 1).toNat := rfl
  have br_0_2_9_0 : w_ei ws (w_ar ws (n_v vs 0) 2) (v_iv (n_v vs 9)) = w_el ws (w_ar ws (n_v vs 0) 2) (v_iv (n_v vs 9)).toNat := rfl
  have br_0_2_9_1 : w_ei w1 (w_ar ws (n_v vs 0) 2) (v_iv (n_v vs 9)) = w_el w1 (w_ar ws (n_v vs 0) 2) (v_iv (n_v vs 9)).toNat := rfl
  have hE_0_2_1 : ∀ j : Int, 0 ≤ j → (j = v_iv (n_v vs 9) → w_ei ws (w_ar ws (n_v vs 0) 2) j = v_iv (n_v vs 12)) ∧ (j ≠ v_iv (n_v vs 9) → w_ei ws (w_ar ws (n_v vs 0) 2) j = w_ei w1 (w_ar ws (n_v vs 0) 2) j) := fun j hj => ⟨fun h => by unfold w_ei; rw [s1.1, if_pos ⟨ad_5.symm, by rw [h]⟩], fun h => by unfold w_ei; rw [s1.1, if_neg (fun e => h (by have := e.2; omega))]⟩
  have nf0 : fc_1 (20, [1, 0], [30, -1, 1, 0, 0, -1, 3, 2005000]) ws (vs) := by
    refine ⟨fun n hn => ?_, ?_⟩
    · have hn : n ∈ [1, 0] := hn
      rw [hl]
      simp only [List.mem_cons, List.not_mem_nil, or_false] at hn
      show n < 15; omega
    · show 1 * v_iv (n_v vs 1) + ((-1) * w_el ws (w_ar ws (n_v vs 0) 2) (w_fi ws (n_v vs 0) 5 + 0).toNat + 0) ≤ (-1)
      omega
  refine ⟨(fun _ h => (by cases h)), [], trivial, ?_, (fun _ h => (by cases h))⟩
  rw [List.append_nil]
  exact List.forall_mem_cons.mpr ⟨⟨show (20 : Nat) < 100 from by decide, nf0⟩, (fun _ h => (by cases h))⟩
def o_Mo_dropNode_8 : or_T := (96, 20, [(0, (2, 0, 0, [150])), (1, (0, 0, 22, [])), (2, (0, 0, 47, [])), (3, (0, 1, 48, [])), (4, (0, 1, 23, [])), (5, (2, 0, 0, [152])), (6, (0, 0, 66297, [])), (7, (0, 267, 267, [])), (8, (0, 267, 66564, [])), (9, (0, 267, 66611, [])), (10, (0, 0, 23, [])), (11, (0, 1, 1, [])), (12, (0, 0, 22, [])), (13, (0, 1, 23, [])), (14, (0, 315, 315, [])), (15, (0, 315, 66612, [])), (16, (0, 315, 66659, [])), (17, (0, 0, 23, [])), (18, (0, 1, 1, [])), (19, (0, -1, 22, []))], [(2, [19, 17, 18], []), (10, [17, 5, 16], []), (1, [16, 15, 2], []), (1, [15, 6, 14], []), (9, [6, 0], [5]), (9, [5, 0], [2]), (7, [13, 1], [4]), (20, [13, 0, 2], [50, 1, 1, 1005, 1002, 1, 2, 1, 0, 3, 1, 2, 4, 7, 4, 3, 2, 1, 5, 0, 315, 1, 2]), (100, [5, 9, 12], []), (2, [12, 10, 11], []), (10, [10, 5, 9], []), (1, [9, 8, 2], []), (1, [8, 6, 7], []), (7, [4, 1], [4]), (20, [4, 0, 2], [50, 1, 1, 1005, 1002, 1, 2, 1, 0, 3, 1, 2, 4, 7, 4, 3, 2, 1, 5, 0, 267, 1, 2]), (7, [2, 3], [2]), (20, [3, 0], [30, 0, 1, 0, 0, -1, 3, 2005001]), (20, [3, 0], [30, 0, -1, 0, 0, 1, 3, 2005001]), (20, [1, 0], [30, -1, 1, 0, 0, -1, 3, 2005000])], [(19, (0, 0, 22, []))], [], [], [], [(19, 17, -1, -1), (16, 2, 315, 66612), (16, 3, -4294967296, 66611), (16, 15, 0, 47), (16, 6, 315, 362), (15, 6, 315, 315), (13, 1, 1, 4294967296), (12, 10, -1, -1), (9, 2, 267, 66564), (9, 3, -4294967296, 66563), (9, 8, 0, 47), (9, 6, 267, 314), (8, 6, 267, 267), (4, 1, 1, 4294967296), (2, 3, -4294967296, -1), (1, 2, -4294967296, 23)])
theorem oo_Mo_dropNode_8 {kA : Nat → ClassId} : or_ok kA GG o_Mo_dropNode_8 := by
  intro A ta ws vs hD hth hl hk hds hf
  have hl : vs.length = 20 := hl
  have hk : ∀ q ∈ ([(0, (2, 0, 0, [150])), (1, (0, 0, 22, [])), (2, (0, 0, 47, [])), (3, (0, 1, 48, [])), (4, (0, 1, 23, [])), (5, (2, 0, 0, [152])), (6, (0, 0, 66297, [])), (7, (0, 267, 267, [])), (8, (0, 267, 66564, [])), (9, (0, 267, 66611, [])), (10, (0, 0, 23, [])), (11, (0, 1, 1, [])), (12, (0, 0, 22, [])), (13, (0, 1, 23, [])), (14, (0, 315, 315, [])), (15, (0, 315, 66612, [])), (16, (0, 315, 66659, [])), (17, (0, 0, 23, [])), (18, (0, 1, 1, [])), (19, (0, -1, 22, []))] : List (Nat × tv_T)), tv_ok ta q.2 (n_v vs q.1) := hk
  obtain ⟨t0, hk⟩ := List.forall_mem_cons.mp hk
  have t0 : tv_ok ta (2, 0, 0, [150]) (n_v vs 0) := t0
  have r0 : ta (v_ad (n_v vs 0)) = some 150 := tv_rg t0
  obtain ⟨t1, hk⟩ := List.forall_mem_cons.mp hk
  have t1 : tv_ok ta (0, 0, 22, []) (n_v vs 1) := t1
  have k1 : 0 ≤ v_iv (n_v vs 1) ∧ v_iv (n_v vs 1) ≤ 22 := tv_rng t1
  obtain ⟨t2, hk⟩ := List.forall_mem_cons.mp hk
  have t2 : tv_ok ta (0, 0, 47, []) (n_v vs 2) := t2
  have k2 : 0 ≤ v_iv (n_v vs 2) ∧ v_iv (n_v vs 2) ≤ 47 := tv_rng t2
  obtain ⟨t3, hk⟩ := List.forall_mem_cons.mp hk
  have t3 : tv_ok ta (0, 1, 48, []) (n_v vs 3) := t3
  have k3 : 1 ≤ v_iv (n_v vs 3) ∧ v_iv (n_v vs 3) ≤ 48 := tv_rng t3
  obtain ⟨t4, hk⟩ := List.forall_mem_cons.mp hk
  have t4 : tv_ok ta (0, 1, 23, []) (n_v vs 4) := t4
  have k4 : 1 ≤ v_iv (n_v vs 4) ∧ v_iv (n_v vs 4) ≤ 23 := tv_rng t4
  obtain ⟨t5, hk⟩ := List.forall_mem_cons.mp hk
  have t5 : tv_ok ta (2, 0, 0, [152]) (n_v vs 5) := t5
  have r5 : ta (v_ad (n_v vs 5)) = some 152 := tv_rg t5
  obtain ⟨t6, hk⟩ := List.forall_mem_cons.mp hk
  have t6 : tv_ok ta (0, 0, 66297, []) (n_v vs 6) := t6
  have k6 : 0 ≤ v_iv (n_v vs 6) ∧ v_iv (n_v vs 6) ≤ 66297 := tv_rng t6
  obtain ⟨t7, hk⟩ := List.forall_mem_cons.mp hk
  have t7 : tv_ok ta (0, 267, 267, []) (n_v vs 7) := t7
  have k7 : 267 ≤ v_iv (n_v vs 7) ∧ v_iv (n_v vs 7) ≤ 267 := tv_rng t7
  obtain ⟨t8, hk⟩ := List.forall_mem_cons.mp hk
  have t8 : tv_ok ta (0, 267, 66564, []) (n_v vs 8) := t8
  have k8 : 267 ≤ v_iv (n_v vs 8) ∧ v_iv (n_v vs 8) ≤ 66564 := tv_rng t8
  obtain ⟨t9, hk⟩ := List.forall_mem_cons.mp hk
  have t9 : tv_ok ta (0, 267, 66611, []) (n_v vs 9) := t9
  have k9 : 267 ≤ v_iv (n_v vs 9) ∧ v_iv (n_v vs 9) ≤ 66611 := tv_rng t9
  obtain ⟨t10, hk⟩ := List.forall_mem_cons.mp hk
  have t10 : tv_ok ta (0, 0, 23, []) (n_v vs 10) := t10
  have k10 : 0 ≤ v_iv (n_v vs 10) ∧ v_iv (n_v vs 10) ≤ 23 := tv_rng t10
  obtain ⟨t11, hk⟩ := List.forall_mem_cons.mp hk
  have t11 : tv_ok ta (0, 1, 1, []) (n_v vs 11) := t11
  have k11 : 1 ≤ v_iv (n_v vs 11) ∧ v_iv (n_v vs 11) ≤ 1 := tv_rng t11
  obtain ⟨t12, hk⟩ := List.forall_mem_cons.mp hk
  have t12 : tv_ok ta (0, 0, 22, []) (n_v vs 12) := t12
  have k12 : 0 ≤ v_iv (n_v vs 12) ∧ v_iv (n_v vs 12) ≤ 22 := tv_rng t12
  obtain ⟨t13, hk⟩ := List.forall_mem_cons.mp hk
  have t13 : tv_ok ta (0, 1, 23, []) (n_v vs 13) := t13
  have k13 : 1 ≤ v_iv (n_v vs 13) ∧ v_iv (n_v vs 13) ≤ 23 := tv_rng t13
  obtain ⟨t14, hk⟩ := List.forall_mem_cons.mp hk
  have t14 : tv_ok ta (0, 315, 315, []) (n_v vs 14) := t14
  have k14 : 315 ≤ v_iv (n_v vs 14) ∧ v_iv (n_v vs 14) ≤ 315 := tv_rng t14
  obtain ⟨t15, hk⟩ := List.forall_mem_cons.mp hk
  have t15 : tv_ok ta (0, 315, 66612, []) (n_v vs 15) := t15
  have k15 : 315 ≤ v_iv (n_v vs 15) ∧ v_iv (n_v vs 15) ≤ 66612 := tv_rng t15
  obtain ⟨t16, hk⟩ := List.forall_mem_cons.mp hk
  have t16 : tv_ok ta (0, 315, 66659, []) (n_v vs 16) := t16
  have k16 : 315 ≤ v_iv (n_v vs 16) ∧ v_iv (n_v vs 16) ≤ 66659 := tv_rng t16
  obtain ⟨t17, hk⟩ := List.forall_mem_cons.mp hk
  have t17 : tv_ok ta (0, 0, 23, []) (n_v vs 17) := t17
  have k17 : 0 ≤ v_iv (n_v vs 17) ∧ v_iv (n_v vs 17) ≤ 23 := tv_rng t17
  obtain ⟨t18, hk⟩ := List.forall_mem_cons.mp hk
  have t18 : tv_ok ta (0, 1, 1, []) (n_v vs 18) := t18
  have k18 : 1 ≤ v_iv (n_v vs 18) ∧ v_iv (n_v vs 18) ≤ 1 := tv_rng t18
  obtain ⟨t19, hk⟩ := List.forall_mem_cons.mp hk
  have t19 : tv_ok ta (0, -1, 22, []) (n_v vs 19) := t19
  have k19 : (-1) ≤ v_iv (n_v vs 19) ∧ v_iv (n_v vs 19) ≤ 22 := tv_rng t19
  have hds : ∀ q ∈ ([(19, 17, -1, -1), (16, 2, 315, 66612), (16, 3, -4294967296, 66611), (16, 15, 0, 47), (16, 6, 315, 362), (15, 6, 315, 315), (13, 1, 1, 4294967296), (12, 10, -1, -1), (9, 2, 267, 66564), (9, 3, -4294967296, 66563), (9, 8, 0, 47), (9, 6, 267, 314), (8, 6, 267, 267), (4, 1, 1, 4294967296), (2, 3, -4294967296, -1), (1, 2, -4294967296, 23)] : List of_T), n_iv vs q.2.1 + q.2.2.1 ≤ n_iv vs q.1 ∧ n_iv vs q.1 ≤ n_iv vs q.2.1 + q.2.2.2 := hds
  obtain ⟨d0, hds⟩ := List.forall_mem_cons.mp hds
  have d0 : v_iv (n_v vs 17) + (-1) ≤ v_iv (n_v vs 19) ∧ v_iv (n_v vs 19) ≤ v_iv (n_v vs 17) + (-1) := d0
  obtain ⟨d1, hds⟩ := List.forall_mem_cons.mp hds
  have d1 : v_iv (n_v vs 2) + 315 ≤ v_iv (n_v vs 16) ∧ v_iv (n_v vs 16) ≤ v_iv (n_v vs 2) + 66612 := d1
  obtain ⟨d2, hds⟩ := List.forall_mem_cons.mp hds
  have d2 : v_iv (n_v vs 3) + (-4294967296) ≤ v_iv (n_v vs 16) ∧ v_iv (n_v vs 16) ≤ v_iv (n_v vs 3) + 66611 := d2
  obtain ⟨d3, hds⟩ := List.forall_mem_cons.mp hds
  have d3 : v_iv (n_v vs 15) + 0 ≤ v_iv (n_v vs 16) ∧ v_iv (n_v vs 16) ≤ v_iv (n_v vs 15) + 47 := d3
  obtain ⟨d4, hds⟩ := List.forall_mem_cons.mp hds
  have d4 : v_iv (n_v vs 6) + 315 ≤ v_iv (n_v vs 16) ∧ v_iv (n_v vs 16) ≤ v_iv (n_v vs 6) + 362 := d4
  obtain ⟨d5, hds⟩ := List.forall_mem_cons.mp hds
  have d5 : v_iv (n_v vs 6) + 315 ≤ v_iv (n_v vs 15) ∧ v_iv (n_v vs 15) ≤ v_iv (n_v vs 6) + 315 := d5
  obtain ⟨d6, hds⟩ := List.forall_mem_cons.mp hds
  have d6 : v_iv (n_v vs 1) + 1 ≤ v_iv (n_v vs 13) ∧ v_iv (n_v vs 13) ≤ v_iv (n_v vs 1) + 4294967296 := d6
  obtain ⟨d7, hds⟩ := List.forall_mem_cons.mp hds
  have d7 : v_iv (n_v vs 10) + (-1) ≤ v_iv (n_v vs 12) ∧ v_iv (n_v vs 12) ≤ v_iv (n_v vs 10) + (-1) := d7
  obtain ⟨d8, hds⟩ := List.forall_mem_cons.mp hds
  have d8 : v_iv (n_v vs 2) + 267 ≤ v_iv (n_v vs 9) ∧ v_iv (n_v vs 9) ≤ v_iv (n_v vs 2) + 66564 := d8
  obtain ⟨d9, hds⟩ := List.forall_mem_cons.mp hds
  have d9 : v_iv (n_v vs 3) + (-4294967296) ≤ v_iv (n_v vs 9) ∧ v_iv (n_v vs 9) ≤ v_iv (n_v vs 3) + 66563 := d9
  obtain ⟨d10, hds⟩ := List.forall_mem_cons.mp hds
  have d10 : v_iv (n_v vs 8) + 0 ≤ v_iv (n_v vs 9) ∧ v_iv (n_v vs 9) ≤ v_iv (n_v vs 8) + 47 := d10
  obtain ⟨d11, hds⟩ := List.forall_mem_cons.mp hds
  have d11 : v_iv (n_v vs 6) + 267 ≤ v_iv (n_v vs 9) ∧ v_iv (n_v vs 9) ≤ v_iv (n_v vs 6) + 314 := d11
  obtain ⟨d12, hds⟩ := List.forall_mem_cons.mp hds
  have d12 : v_iv (n_v vs 6) + 267 ≤ v_iv (n_v vs 8) ∧ v_iv (n_v vs 8) ≤ v_iv (n_v vs 6) + 267 := d12
  obtain ⟨d13, hds⟩ := List.forall_mem_cons.mp hds
  have d13 : v_iv (n_v vs 1) + 1 ≤ v_iv (n_v vs 4) ∧ v_iv (n_v vs 4) ≤ v_iv (n_v vs 1) + 4294967296 := d13
  obtain ⟨d14, hds⟩ := List.forall_mem_cons.mp hds
  have d14 : v_iv (n_v vs 3) + (-4294967296) ≤ v_iv (n_v vs 2) ∧ v_iv (n_v vs 2) ≤ v_iv (n_v vs 3) + (-1) := d14
  obtain ⟨d15, hds⟩ := List.forall_mem_cons.mp hds
  have d15 : v_iv (n_v vs 2) + (-4294967296) ≤ v_iv (n_v vs 1) ∧ v_iv (n_v vs 1) ≤ v_iv (n_v vs 2) + 23 := d15
  have hf : fc_ok [(2, [19, 17, 18], []), (10, [17, 5, 16], []), (1, [16, 15, 2], []), (1, [15, 6, 14], []), (9, [6, 0], [5]), (9, [5, 0], [2]), (7, [13, 1], [4]), (20, [13, 0, 2], [50, 1, 1, 1005, 1002, 1, 2, 1, 0, 3, 1, 2, 4, 7, 4, 3, 2, 1, 5, 0, 315, 1, 2]), (100, [5, 9, 12], []), (2, [12, 10, 11], []), (10, [10, 5, 9], []), (1, [9, 8, 2], []), (1, [8, 6, 7], []), (7, [4, 1], [4]), (20, [4, 0, 2], [50, 1, 1, 1005, 1002, 1, 2, 1, 0, 3, 1, 2, 4, 7, 4, 3, 2, 1, 5, 0, 267, 1, 2]), (7, [2, 3], [2]), (20, [3, 0], [30, 0, 1, 0, 0, -1, 3, 2005001]), (20, [3, 0], [30, 0, -1, 0, 0, 1, 3, 2005001]), (20, [1, 0], [30, -1, 1, 0, 0, -1, 3, 2005000])] ta ws vs := hf
  obtain ⟨f0, hf⟩ := fc_un (show (2 : Nat) < 100 from by decide) hf
  have f0 : v_iv (n_v vs 19) = v_iv (n_v vs 17) - v_iv (n_v vs 18) := f0
  obtain ⟨f1, hf⟩ := fc_un (show (10 : Nat) < 100 from by decide) hf
  have f1 : v_iv (n_v vs 17) = w_el ws (v_ad (n_v vs 5)) (v_iv (n_v vs 16)).toNat := f1
  obtain ⟨f2, hf⟩ := fc_un (show (1 : Nat) < 100 from by decide) hf
  have f2 : v_iv (n_v vs 16) = v_iv (n_v vs 15) + v_iv (n_v vs 2) := f2
  obtain ⟨f3, hf⟩ := fc_un (show (1 : Nat) < 100 from by decide) hf
  have f3 : v_iv (n_v vs 15) = v_iv (n_v vs 6) + v_iv (n_v vs 14) := f3
  obtain ⟨f4, hf⟩ := fc_un (show (9 : Nat) < 100 from by decide) hf
  have f4 : n_v vs 6 = w_fd ws (v_ad (n_v vs 0)) 5 := f4
  obtain ⟨f5, hf⟩ := fc_un (show (9 : Nat) < 100 from by decide) hf
  have f5 : n_v vs 5 = w_fd ws (v_ad (n_v vs 0)) 2 := f5
  obtain ⟨f6, hf⟩ := fc_un (show (7 : Nat) < 100 from by decide) hf
  have f6 : v_iv (n_v vs 1) < v_iv (n_v vs 13) := f6
  obtain ⟨f7, hf⟩ := fc_un (show (20 : Nat) < 100 from by decide) hf
  have f7 : v_iv (n_v vs 13) = w_ei ws (w_ar ws (n_v vs 0) 2) (((w_fi ws (n_v vs 0) 5 + 315) + v_iv (n_v vs 2))) := f7
  obtain ⟨ta1, w1, le1, ⟨_, s1⟩, hf⟩ := fc_us (show ¬ (100 : Nat) < 100 from by decide) hf
  have s1 : (∀ b j, w_el ws b j = if b = v_ad (n_v vs 5) ∧ j = (v_iv (n_v vs 9)).toNat then v_iv (n_v vs 12) else w_el w1 b j) ∧ ∀ b k, w_fd ws b k = w_fd w1 b k := s1
  obtain ⟨f9, hf⟩ := fc_un (show (2 : Nat) < 100 from by decide) hf
  have f9 : v_iv (n_v vs 12) = v_iv (n_v vs 10) - v_iv (n_v vs 11) := f9
  obtain ⟨f10, hf⟩ := fc_un (show (10 : Nat) < 100 from by decide) hf
  have f10 : v_iv (n_v vs 10) = w_el w1 (v_ad (n_v vs 5)) (v_iv (n_v vs 9)).toNat := f10
  obtain ⟨f11, hf⟩ := fc_un (show (1 : Nat) < 100 from by decide) hf
  have f11 : v_iv (n_v vs 9) = v_iv (n_v vs 8) + v_iv (n_v vs 2) := f11
  obtain ⟨f12, hf⟩ := fc_un (show (1 : Nat) < 100 from by decide) hf
  have f12 : v_iv (n_v vs 8) = v_iv (n_v vs 6) + v_iv (n_v vs 7) := f12
  obtain ⟨f13, hf⟩ := fc_un (show (7 : Nat) < 100 from by decide) hf
  have f13 : v_iv (n_v vs 1) < v_iv (n_v vs 4) := f13
  obtain ⟨f14, hf⟩ := fc_un (show (20 : Nat) < 100 from by decide) hf
  have f14 : v_iv (n_v vs 4) = w_ei w1 (w_ar w1 (n_v vs 0) 2) (((w_fi w1 (n_v vs 0) 5 + 267) + v_iv (n_v vs 2))) := f14
  obtain ⟨f15, hf⟩ := fc_un (show (7 : Nat) < 100 from by decide) hf
  have f15 : v_iv (n_v vs 2) < v_iv (n_v vs 3) := f15
  obtain ⟨f16, hf⟩ := fc_un (show (20 : Nat) < 100 from by decide) hf
  have f16 : 1 * v_iv (n_v vs 3) + ((-1) * w_el w1 (w_ar w1 (n_v vs 0) 2) (w_fi w1 (n_v vs 0) 5 + 1).toNat + 0) ≤ 0 := f16
  obtain ⟨f17, hf⟩ := fc_un (show (20 : Nat) < 100 from by decide) hf
  have f17 : (-1) * v_iv (n_v vs 3) + (1 * w_el w1 (w_ar w1 (n_v vs 0) 2) (w_fi w1 (n_v vs 0) 5 + 1).toNat + 0) ≤ 0 := f17
  obtain ⟨f18, hf⟩ := fc_un (show (20 : Nat) < 100 from by decide) hf
  have f18 : 1 * v_iv (n_v vs 1) + ((-1) * w_el w1 (w_ar w1 (n_v vs 0) 2) (w_fi w1 (n_v vs 0) 5 + 0).toNat + 0) ≤ (-1) := f18
  have ar_0_2_1 : w_ar w1 (n_v vs 0) 2 = w_ar ws (n_v vs 0) 2 := by show v_ad (w_fd w1 _ _) = v_ad (w_fd ws _ _); rw [s1.2]
  have cr_0_2 : ta (w_ar ws (n_v vs 0) 2) = some 152 := tv_rg (th_fd hD hth r0 (g := GG_150) rfl (k := 2) (t := (2, 0, 0, [152])) rfl rfl)
  have fi_0_5_1 : w_fi w1 (n_v vs 0) 5 = w_fi ws (n_v vs 0) 5 := by show v_iv (w_fd w1 _ _) = v_iv (w_fd ws _ _); rw [s1.2]
  have ad_5 : v_ad (n_v vs 5) = w_ar ws (n_v vs 0) 2 := congrArg v_ad f5
  rw [ad_5] at f1
  have h1 : v_iv (n_v vs 17) = w_ei ws (w_ar ws (n_v vs 0) 2) (v_iv (n_v vs 16)) := f1
  have g4 : v_iv (n_v vs 6) = w_fi ws (n_v vs 0) 5 := congrArg v_iv f4
  rw [ad_5] at f10
  have h10 : v_iv (n_v vs 10) = w_ei w1 (w_ar ws (n_v vs 0) 2) (v_iv (n_v vs 9)) := f10
  rw [ar_0_2_1] at f14
  rw [ar_0_2_1] at f16
  rw [fi_0_5_1] at f16
  rw [ar_0_2_1] at f17
  rw [fi_0_5_1] at f17
  rw [ar_0_2_1] at f18
  rw [fi_0_5_1] at f18
  have cg1_F5_1 : v_iv (n_v vs 16) = w_fi ws (n_v vs 0) 5 + 1 → w_el ws (w_ar ws (n_v vs 0) 2) (v_iv (n_v vs 16)).toNat = w_el ws (w_ar ws (n_v vs 0) 2) (w_fi ws (n_v vs 0) 5 + 1).toNat := fun h => by rw [h]
  have cg1_F5_0 : v_iv (n_v vs 16) = w_fi ws (n_v vs 0) 5 + 0 → w_el ws (w_ar ws (n_v vs 0) 2) (v_iv (n_v vs 16)).toNat = w_el ws (w_ar ws (n_v vs 0) 2) (w_fi ws (n_v vs 0) 5 + 0).toNat := fun h => by rw [h]
  have cg10_F5_1 : v_iv (n_v vs 9) = w_fi ws (n_v vs 0) 5 + 1 → w_el w1 (w_ar ws (n_v vs 0) 2) (v_iv (n_v vs 9)).toNat = w_el w1 (w_ar ws (n_v vs 0) 2) (w_fi ws (n_v vs 0) 5 + 1).toNat := fun h => by rw [h]
  have cg10_F5_0 : v_iv (n_v vs 9) = w_fi ws (n_v vs 0) 5 + 0 → w_el w1 (w_ar ws (n_v vs 0) 2) (v_iv (n_v vs 9)).toNat = w_el w1 (w_ar ws (n_v vs 0) 2) (w_fi ws (n_v vs 0) 5 + 0).toNat := fun h => by rw [h]
  have fe_0_5_1 : w_fi ws (n_v vs 0) 5 = w_fi w1 (n_v vs 0) 5 := congrArg v_iv (s1.2 _ _)
  first | (have ee_0_2_F5_0_1 : w_el ws (w_ar ws (n_v vs 0) 2) (w_fi ws (n_v vs 0) 5 + 0).toNat = w_el w1 (w_ar ws (n_v vs 0) 2) (w_fi ws (n_v vs 0) 5 + 0).toNat := by rw [s1.1, if_neg (fun e => absurd e.2 (by omega))]) | have ee_0_2_F5_0_1 : ((w_fi ws (n_v vs 0) 5 + 0).toNat = (v_iv (n_v vs 9)).toNat → w_el ws (w_ar ws (n_v vs 0) 2) (w_fi ws (n_v vs 0) 5 + 0).toNat = v_iv (n_v vs 12)) ∧ ((w_fi ws (n_v vs 0) 5 + 0).toNat ≠ (v_iv (n_v vs 9)).toNat → w_el ws (w_ar ws (n_v vs 0) 2) (w_fi ws (n_v vs 0) 5 + 0).toNat = w_el w1 (w_ar ws (n_v vs 0) 2) (w_fi ws (n_v vs 0) 5 + 0).toNat) := ⟨fun h => by rw [s1.1, if_pos ⟨ad_5.symm, h⟩], fun h => by rw [s1.1, if_neg (fun e => h e.2)]⟩
  first | (have ee_0_2_F5_1_1 : w_el ws (w_ar ws (n_v vs 0) 2) (w_fi ws (n_v vs 0) 5 + 1).toNat = w_el w1 (w_ar ws (n_v vs 0) 2) (w_fi ws (n_v vs 0) 5 + 1).toNat := by rw [s1.1, if_neg (fun e => absurd e.2 (by omega))]) | have ee_0_2_F5_1_1 : ((w_fi ws (n_v vs 0) 5 + 1).toNat = (v_iv (n_v vs 9)).toNat → w_el ws (w_ar ws (n_v vs 0) 2) (w_fi ws (n_v vs 0) 5 + 1).toNat = v_iv (n_v vs 12)) ∧ ((w_fi ws (n_v vs 0) 5 + 1).toNat ≠ (v_iv (n_v vs 9)).toNat → w_el ws (w_ar ws (n_v vs 0) 2) (w_fi ws (n_v vs 0) 5 + 1).toNat = w_el w1 (w_ar ws (n_v vs 0) 2) (w_fi ws (n_v vs 0) 5 + 1).toNat) := ⟨fun h => by rw [s1.1, if_pos ⟨ad_5.symm, h⟩], fun h => by rw [s1.1, if_neg (fun e => h e.2)]⟩
  have ee_0_2_16_1 : ((v_iv (n_v vs 16)).toNat = (v_iv (n_v vs 9)).toNat → w_el ws (w_ar ws (n_v vs 0) 2) (v_iv (n_v vs 16)).toNat = v_iv (n_v vs 12)) ∧ ((v_iv (n_v vs 16)).toNat ≠ (v_iv (n_v vs 9)).toNat → w_el ws (w_ar ws (n_v vs 0) 2) (v_iv (n_v vs 16)).toNat = w_el w1 (w_ar ws (n_v vs 0) 2) (v_iv (n_v vs 16)).toNat) := ⟨fun h => by rw [s1.1, if_pos ⟨ad_5.symm, h⟩], fun h => by rw [s1.1, if_neg (fun e => h e.2)]⟩
  have ee_0_2_9_1 : w_el ws (w_ar ws (n_v vs 0) 2) (v_iv (n_v vs 9)).toNat = v_iv (n_v vs 12) := by rw [s1.1, if_pos ⟨ad_5.symm, rfl⟩]
  have br_0_2_F5_0_0 : w_ei ws (w_ar ws (n_v vs 0) 2) (w_fi ws (n_v vs 0) 5 + 0) = w_el ws (w_ar ws (n_v vs 0) 2) (w_fi ws (n_v vs 0) 5 + 0).toNat := rfl
  have br_0_2_F5_0_1 : w_ei w1 (w_ar ws (n_v vs 0) 2) (w_fi ws (n_v vs 0) 5 + 0) = w_el w1 (w_ar ws (n_v vs 0) 2) (w_fi ws (n_v vs 0) 5 + 0).toNat := rfl
  have br_0_2_F5_1_0 : w_ei ws (w_ar ws (n_v vs 0) 2) (w_fi ws (n_v vs 0) 5 + 1) = w_el ws (w_ar ws (n_v vs 0) 2) (w_fi ws (n_v vs 0) 5 + 1).toNat := rfl
  have br_0_2_F5_1_1 : w_ei w1 (w_ar ws (n_v vs 0) 2) (w_fi ws (n_v vs 0) 5 + 1) = w_el w1 (w_ar ws (n_v vs 0) 2) (w_fi ws (n_v vs 0) 5 + 1).toNat := rfl
  have br_0_2_16_0 : w_ei ws (w_ar ws (n_v vs 0) 2) (v_iv (n_v vs 16)) = w_el ws (w_ar ws (n_v vs 0) 2) (v_iv (n_v vs 16)).toNat := rfl
  have br_0_2_16_1 : w_ei w1 (w_ar ws (n_v vs 0) 2) (v_iv (n_v vs 16)) = w_el w1 (w_ar ws (n_v vs 0) 2) (v_iv (n_v vs 16)).toNat := rfl
  have br_0_2_9_0 : w_ei ws (w_ar ws (n_v vs 0) 2) (v_iv (n_v vs 9)) = w_el ws (w_ar ws (n_v vs 0) 2) (v_iv (n_v vs 9)).toNat := rfl
  have br_0_2_9_1 : w_ei w1 (w_ar ws (n_v vs 0) 2) (v_iv (n_v vs 9)) = w_el w1 (w_ar ws (n_v vs 0) 2) (v_iv (n_v vs 9)).toNat := rfl
  have hE_0_2_1 : ∀ j : Int, 0 ≤ j → (j = v_iv (n_v vs 9) → w_ei ws (w_ar ws (n_v vs 0) 2) j = v_iv (n_v vs 12)) ∧ (j ≠ v_iv (n_v vs 9) → w_ei ws (w_ar ws (n_v vs 0) 2) j = w_ei w1 (w_ar ws (n_v vs 0) 2) j) := fun j hj => ⟨fun h => by unfold w_ei; rw [s1.1, if_pos ⟨ad_5.symm, by rw [h]⟩], fun h => by unfold w_ei; rw [s1.1, if_neg (fun e => h (by have := e.2; omega))]⟩
  have rf19 : tv_ok ta (0, 0, 22, []) (n_v vs 19) := tv_in t19 (by first | omega | grind) (by first | omega | grind)
  refine ⟨List.forall_mem_cons.mpr ⟨rf19, (fun _ h => (by cases h))⟩, [], trivial, ?_, (fun _ h => (by cases h))⟩
  rw [List.append_nil]
  exact (fun _ h => (by cases h))
def o_Mo_dropNode_9 : or_T := (33, 21, [(0, (2, 0, 0, [150])), (1, (0, 0, 22, [])), (2, (0, 0, 47, [])), (3, (0, 1, 48, [])), (4, (0, 1, 23, [])), (5, (2, 0, 0, [152])), (6, (0, 0, 66297, [])), (7, (0, 267, 267, [])), (8, (0, 267, 66564, [])), (9, (0, 267, 66611, [])), (10, (0, 0, 23, [])), (11, (0, 1, 1, [])), (12, (0, 0, 22, [])), (13, (0, 1, 23, [])), (14, (0, 315, 315, [])), (15, (0, 315, 66612, [])), (16, (0, 315, 66659, [])), (17, (0, 0, 23, [])), (18, (0, 1, 1, [])), (19, (0, 0, 22, [])), (20, (0, 1, 48, []))], [(6, [20, 2], [1]), (100, [5, 16, 19], []), (2, [19, 17, 18], []), (10, [17, 5, 16], []), (1, [16, 15, 2], []), (1, [15, 6, 14], []), (9, [6, 0], [5]), (9, [5, 0], [2]), (7, [13, 1], [4]), (20, [13, 0, 2], [50, 1, 1, 1005, 1002, 1, 2, 1, 0, 3, 1, 2, 4, 7, 4, 3, 2, 1, 5, 0, 315, 1, 2]), (100, [5, 9, 12], []), (2, [12, 10, 11], []), (10, [10, 5, 9], []), (1, [9, 8, 2], []), (1, [8, 6, 7], []), (7, [4, 1], [4]), (20, [4, 0, 2], [50, 1, 1, 1005, 1002, 1, 2, 1, 0, 3, 1, 2, 4, 7, 4, 3, 2, 1, 5, 0, 267, 1, 2]), (7, [2, 3], [2]), (20, [3, 0], [30, 0, 1, 0, 0, -1, 3, 2005001]), (20, [3, 0], [30, 0, -1, 0, 0, 1, 3, 2005001]), (20, [1, 0], [30, -1, 1, 0, 0, -1, 3, 2005000])], [], [], [(20, [1, 0], [30, -1, 1, 0, 0, -1, 3, 2005000])], [], [(20, 2, 1, 1), (20, 3, -4294967296, 0), (19, 17, -1, -1), (16, 2, 315, 66612), (16, 3, -4294967296, 66611), (16, 15, 0, 47), (16, 6, 315, 362), (15, 6, 315, 315), (13, 1, 1, 4294967296), (12, 10, -1, -1), (9, 2, 267, 66564), (9, 3, -4294967296, 66563), (9, 8, 0, 47), (9, 6, 267, 314), (8, 6, 267, 267), (4, 1, 1, 4294967296), (2, 3, -4294967296, -1), (1, 2, -4294967296, 23)])
theorem oo_Mo_dropNode_9 {kA : Nat → ClassId} : or_ok kA GG o_Mo_dropNode_9 := by
  intro A ta ws vs hD hth hl hk hds hf
  have hl : vs.length = 21 := hl
  have hk : ∀ q ∈ ([(0, (2, 0, 0, [150])), (1, (0, 0, 22, [])), (2, (0, 0, 47, [])), (3, (0, 1, 48, [])), (4, (0, 1, 23, [])), (5, (2, 0, 0, [152])), (6, (0, 0, 66297, [])), (7, (0, 267, 267, [])), (8, (0, 267, 66564, [])), (9, (0, 267, 66611, [])), (10, (0, 0, 23, [])), (11, (0, 1, 1, [])), (12, (0, 0, 22, [])), (13, (0, 1, 23, [])), (14, (0, 315, 315, [])), (15, (0, 315, 66612, [])), (16, (0, 315, 66659, [])), (17, (0, 0, 23, [])), (18, (0, 1, 1, [])), (19, (0, 0, 22, [])), (20, (0, 1, 48, []))] : List (Nat × tv_T)), tv_ok ta q.2 (n_v vs q.1) := hk
  obtain ⟨t0, hk⟩ := List.forall_mem_cons.mp hk
  have t0 : tv_ok ta (2, 0, 0, [150]) (n_v vs 0) := t0
  have r0 : ta (v_ad (n_v vs 0)) = some 150 := tv_rg t0
  obtain ⟨t1, hk⟩ := List.forall_mem_cons.mp hk
  have t1 : tv_ok ta (0, 0, 22, []) (n_v vs 1) := t1
  have k1 : 0 ≤ v_iv (n_v vs 1) ∧ v_iv (n_v vs 1) ≤ 22 := tv_rng t1
  obtain ⟨t2, hk⟩ := List.forall_mem_cons.mp hk
  have t2 : tv_ok ta (0, 0, 47, []) (n_v vs 2) := t2
  have k2 : 0 ≤ v_iv (n_v vs 2) ∧ v_iv (n_v vs 2) ≤ 47 := tv_rng t2
  obtain ⟨t3, hk⟩ := List.forall_mem_cons.mp hk
  have t3 : tv_ok ta (0, 1, 48, []) (n_v vs 3) := t3
  have k3 : 1 ≤ v_iv (n_v vs 3) ∧ v_iv (n_v vs 3) ≤ 48 := tv_rng t3
  obtain ⟨t4, hk⟩ := List.forall_mem_cons.mp hk
  have t4 : tv_ok ta (0, 1, 23, []) (n_v vs 4) := t4
  have k4 : 1 ≤ v_iv (n_v vs 4) ∧ v_iv (n_v vs 4) ≤ 23 := tv_rng t4
  obtain ⟨t5, hk⟩ := List.forall_mem_cons.mp hk
  have t5 : tv_ok ta (2, 0, 0, [152]) (n_v vs 5) := t5
  have r5 : ta (v_ad (n_v vs 5)) = some 152 := tv_rg t5
  obtain ⟨t6, hk⟩ := List.forall_mem_cons.mp hk
  have t6 : tv_ok ta (0, 0, 66297, []) (n_v vs 6) := t6
  have k6 : 0 ≤ v_iv (n_v vs 6) ∧ v_iv (n_v vs 6) ≤ 66297 := tv_rng t6
  obtain ⟨t7, hk⟩ := List.forall_mem_cons.mp hk
  have t7 : tv_ok ta (0, 267, 267, []) (n_v vs 7) := t7
  have k7 : 267 ≤ v_iv (n_v vs 7) ∧ v_iv (n_v vs 7) ≤ 267 := tv_rng t7
  obtain ⟨t8, hk⟩ := List.forall_mem_cons.mp hk
  have t8 : tv_ok ta (0, 267, 66564, []) (n_v vs 8) := t8
  have k8 : 267 ≤ v_iv (n_v vs 8) ∧ v_iv (n_v vs 8) ≤ 66564 := tv_rng t8
  obtain ⟨t9, hk⟩ := List.forall_mem_cons.mp hk
  have t9 : tv_ok ta (0, 267, 66611, []) (n_v vs 9) := t9
  have k9 : 267 ≤ v_iv (n_v vs 9) ∧ v_iv (n_v vs 9) ≤ 66611 := tv_rng t9
  obtain ⟨t10, hk⟩ := List.forall_mem_cons.mp hk
  have t10 : tv_ok ta (0, 0, 23, []) (n_v vs 10) := t10
  have k10 : 0 ≤ v_iv (n_v vs 10) ∧ v_iv (n_v vs 10) ≤ 23 := tv_rng t10
  obtain ⟨t11, hk⟩ := List.forall_mem_cons.mp hk
  have t11 : tv_ok ta (0, 1, 1, []) (n_v vs 11) := t11
  have k11 : 1 ≤ v_iv (n_v vs 11) ∧ v_iv (n_v vs 11) ≤ 1 := tv_rng t11
  obtain ⟨t12, hk⟩ := List.forall_mem_cons.mp hk
  have t12 : tv_ok ta (0, 0, 22, []) (n_v vs 12) := t12
  have k12 : 0 ≤ v_iv (n_v vs 12) ∧ v_iv (n_v vs 12) ≤ 22 := tv_rng t12
  obtain ⟨t13, hk⟩ := List.forall_mem_cons.mp hk
  have t13 : tv_ok ta (0, 1, 23, []) (n_v vs 13) := t13
  have k13 : 1 ≤ v_iv (n_v vs 13) ∧ v_iv (n_v vs 13) ≤ 23 := tv_rng t13
  obtain ⟨t14, hk⟩ := List.forall_mem_cons.mp hk
  have t14 : tv_ok ta (0, 315, 315, []) (n_v vs 14) := t14
  have k14 : 315 ≤ v_iv (n_v vs 14) ∧ v_iv (n_v vs 14) ≤ 315 := tv_rng t14
  obtain ⟨t15, hk⟩ := List.forall_mem_cons.mp hk
  have t15 : tv_ok ta (0, 315, 66612, []) (n_v vs 15) := t15
  have k15 : 315 ≤ v_iv (n_v vs 15) ∧ v_iv (n_v vs 15) ≤ 66612 := tv_rng t15
  obtain ⟨t16, hk⟩ := List.forall_mem_cons.mp hk
  have t16 : tv_ok ta (0, 315, 66659, []) (n_v vs 16) := t16
  have k16 : 315 ≤ v_iv (n_v vs 16) ∧ v_iv (n_v vs 16) ≤ 66659 := tv_rng t16
  obtain ⟨t17, hk⟩ := List.forall_mem_cons.mp hk
  have t17 : tv_ok ta (0, 0, 23, []) (n_v vs 17) := t17
  have k17 : 0 ≤ v_iv (n_v vs 17) ∧ v_iv (n_v vs 17) ≤ 23 := tv_rng t17
  obtain ⟨t18, hk⟩ := List.forall_mem_cons.mp hk
  have t18 : tv_ok ta (0, 1, 1, []) (n_v vs 18) := t18
  have k18 : 1 ≤ v_iv (n_v vs 18) ∧ v_iv (n_v vs 18) ≤ 1 := tv_rng t18
  obtain ⟨t19, hk⟩ := List.forall_mem_cons.mp hk
  have t19 : tv_ok ta (0, 0, 22, []) (n_v vs 19) := t19
  have k19 : 0 ≤ v_iv (n_v vs 19) ∧ v_iv (n_v vs 19) ≤ 22 := tv_rng t19
  obtain ⟨t20, hk⟩ := List.forall_mem_cons.mp hk
  have t20 : tv_ok ta (0, 1, 48, []) (n_v vs 20) := t20
  have k20 : 1 ≤ v_iv (n_v vs 20) ∧ v_iv (n_v vs 20) ≤ 48 := tv_rng t20
  have hds : ∀ q ∈ ([(20, 2, 1, 1), (20, 3, -4294967296, 0), (19, 17, -1, -1), (16, 2, 315, 66612), (16, 3, -4294967296, 66611), (16, 15, 0, 47), (16, 6, 315, 362), (15, 6, 315, 315), (13, 1, 1, 4294967296), (12, 10, -1, -1), (9, 2, 267, 66564), (9, 3, -4294967296, 66563), (9, 8, 0, 47), (9, 6, 267, 314), (8, 6, 267, 267), (4, 1, 1, 4294967296), (2, 3, -4294967296, -1), (1, 2, -4294967296, 23)] : List of_T), n_iv vs q.2.1 + q.2.2.1 ≤ n_iv vs q.1 ∧ n_iv vs q.1 ≤ n_iv vs q.2.1 + q.2.2.2 := hds
  obtain ⟨d0, hds⟩ := List.forall_mem_cons.mp hds
  have d0 : v_iv (n_v vs 2) + 1 ≤ v_iv (n_v vs 20) ∧ v_iv (n_v vs 20) ≤ v_iv (n_v vs 2) + 1 := d0
  obtain ⟨d1, hds⟩ := List.forall_mem_cons.mp hds
  have d1 : v_iv (n_v vs 3) + (-4294967296) ≤ v_iv (n_v vs 20) ∧ v_iv (n_v vs 20) ≤ v_iv (n_v vs 3) + 0 := d1
  obtain ⟨d2, hds⟩ := List.forall_mem_cons.mp hds
  have d2 : v_iv (n_v vs 17) + (-1) ≤ v_iv (n_v vs 19) ∧ v_iv (n_v vs 19) ≤ v_iv (n_v vs 17) + (-1) := d2
  obtain ⟨d3, hds⟩ := List.forall_mem_cons.mp hds
  have d3 : v_iv (n_v vs 2) + 315 ≤ v_iv (n_v vs 16) ∧ v_iv (n_v vs 16) ≤ v_iv (n_v vs 2) + 66612 := d3
  obtain ⟨d4, hds⟩ := List.forall_mem_cons.mp hds
  have d4 : v_iv (n_v vs 3) + (-4294967296) ≤ v_iv (n_v vs 16) ∧ v_iv (n_v vs 16) ≤ v_iv (n_v vs 3) + 66611 := d4
  obtain ⟨d5, hds⟩ := List.forall_mem_cons.mp hds
  have d5 : v_iv (n_v vs 15) + 0 ≤ v_iv (n_v vs 16) ∧ v_iv (n_v vs 16) ≤ v_iv (n_v vs 15) + 47 := d5
  obtain ⟨d6, hds⟩ := List.forall_mem_cons.mp hds
  have d6 : v_iv (n_v vs 6) + 315 ≤ v_iv (n_v vs 16) ∧ v_iv (n_v vs 16) ≤ v_iv (n_v vs 6) + 362 := d6
  obtain ⟨d7, hds⟩ := List.forall_mem_cons.mp hds
  have d7 : v_iv (n_v vs 6) + 315 ≤ v_iv (n_v vs 15) ∧ v_iv (n_v vs 15) ≤ v_iv (n_v vs 6) + 315 := d7
  obtain ⟨d8, hds⟩ := List.forall_mem_cons.mp hds
  have d8 : v_iv (n_v vs 1) + 1 ≤ v_iv (n_v vs 13) ∧ v_iv (n_v vs 13) ≤ v_iv (n_v vs 1) + 4294967296 := d8
  obtain ⟨d9, hds⟩ := List.forall_mem_cons.mp hds
  have d9 : v_iv (n_v vs 10) + (-1) ≤ v_iv (n_v vs 12) ∧ v_iv (n_v vs 12) ≤ v_iv (n_v vs 10) + (-1) := d9
  obtain ⟨d10, hds⟩ := List.forall_mem_cons.mp hds
  have d10 : v_iv (n_v vs 2) + 267 ≤ v_iv (n_v vs 9) ∧ v_iv (n_v vs 9) ≤ v_iv (n_v vs 2) + 66564 := d10
  obtain ⟨d11, hds⟩ := List.forall_mem_cons.mp hds
  have d11 : v_iv (n_v vs 3) + (-4294967296) ≤ v_iv (n_v vs 9) ∧ v_iv (n_v vs 9) ≤ v_iv (n_v vs 3) + 66563 := d11
  obtain ⟨d12, hds⟩ := List.forall_mem_cons.mp hds
  have d12 : v_iv (n_v vs 8) + 0 ≤ v_iv (n_v vs 9) ∧ v_iv (n_v vs 9) ≤ v_iv (n_v vs 8) + 47 := d12
  obtain ⟨d13, hds⟩ := List.forall_mem_cons.mp hds
  have d13 : v_iv (n_v vs 6) + 267 ≤ v_iv (n_v vs 9) ∧ v_iv (n_v vs 9) ≤ v_iv (n_v vs 6) + 314 := d13
  obtain ⟨d14, hds⟩ := List.forall_mem_cons.mp hds
  have d14 : v_iv (n_v vs 6) + 267 ≤ v_iv (n_v vs 8) ∧ v_iv (n_v vs 8) ≤ v_iv (n_v vs 6) + 267 := d14
  obtain ⟨d15, hds⟩ := List.forall_mem_cons.mp hds
  have d15 : v_iv (n_v vs 1) + 1 ≤ v_iv (n_v vs 4) ∧ v_iv (n_v vs 4) ≤ v_iv (n_v vs 1) + 4294967296 := d15
  obtain ⟨d16, hds⟩ := List.forall_mem_cons.mp hds
  have d16 : v_iv (n_v vs 3) + (-4294967296) ≤ v_iv (n_v vs 2) ∧ v_iv (n_v vs 2) ≤ v_iv (n_v vs 3) + (-1) := d16
  obtain ⟨d17, hds⟩ := List.forall_mem_cons.mp hds
  have d17 : v_iv (n_v vs 2) + (-4294967296) ≤ v_iv (n_v vs 1) ∧ v_iv (n_v vs 1) ≤ v_iv (n_v vs 2) + 23 := d17
  have hf : fc_ok [(6, [20, 2], [1]), (100, [5, 16, 19], []), (2, [19, 17, 18], []), (10, [17, 5, 16], []), (1, [16, 15, 2], []), (1, [15, 6, 14], []), (9, [6, 0], [5]), (9, [5, 0], [2]), (7, [13, 1], [4]), (20, [13, 0, 2], [50, 1, 1, 1005, 1002, 1, 2, 1, 0, 3, 1, 2, 4, 7, 4, 3, 2, 1, 5, 0, 315, 1, 2]), (100, [5, 9, 12], []), (2, [12, 10, 11], []), (10, [10, 5, 9], []), (1, [9, 8, 2], []), (1, [8, 6, 7], []), (7, [4, 1], [4]), (20, [4, 0, 2], [50, 1, 1, 1005, 1002, 1, 2, 1, 0, 3, 1, 2, 4, 7, 4, 3, 2, 1, 5, 0, 267, 1, 2]), (7, [2, 3], [2]), (20, [3, 0], [30, 0, 1, 0, 0, -1, 3, 2005001]), (20, [3, 0], [30, 0, -1, 0, 0, 1, 3, 2005001]), (20, [1, 0], [30, -1, 1, 0, 0, -1, 3, 2005000])] ta ws vs := hf
  obtain ⟨f0, hf⟩ := fc_un (show (6 : Nat) < 100 from by decide) hf
  have f0 : v_iv (n_v vs 20) = v_iv (n_v vs 2) + 1 := f0
  obtain ⟨ta1, w1, le1, ⟨_, s1⟩, hf⟩ := fc_us (show ¬ (100 : Nat) < 100 from by decide) hf
  have s1 : (∀ b j, w_el ws b j = if b = v_ad (n_v vs 5) ∧ j = (v_iv (n_v vs 16)).toNat then v_iv (n_v vs 19) else w_el w1 b j) ∧ ∀ b k, w_fd ws b k = w_fd w1 b k := s1
  obtain ⟨f2, hf⟩ := fc_un (show (2 : Nat) < 100 from by decide) hf
  have f2 : v_iv (n_v vs 19) = v_iv (n_v vs 17) - v_iv (n_v vs 18) := f2
  obtain ⟨f3, hf⟩ := fc_un (show (10 : Nat) < 100 from by decide) hf
  have f3 : v_iv (n_v vs 17) = w_el w1 (v_ad (n_v vs 5)) (v_iv (n_v vs 16)).toNat := f3
  obtain ⟨f4, hf⟩ := fc_un (show (1 : Nat) < 100 from by decide) hf
  have f4 : v_iv (n_v vs 16) = v_iv (n_v vs 15) + v_iv (n_v vs 2) := f4
  obtain ⟨f5, hf⟩ := fc_un (show (1 : Nat) < 100 from by decide) hf
  have f5 : v_iv (n_v vs 15) = v_iv (n_v vs 6) + v_iv (n_v vs 14) := f5
  obtain ⟨f6, hf⟩ := fc_un (show (9 : Nat) < 100 from by decide) hf
  have f6 : n_v vs 6 = w_fd w1 (v_ad (n_v vs 0)) 5 := f6
  obtain ⟨f7, hf⟩ := fc_un (show (9 : Nat) < 100 from by decide) hf
  have f7 : n_v vs 5 = w_fd w1 (v_ad (n_v vs 0)) 2 := f7
  obtain ⟨f8, hf⟩ := fc_un (show (7 : Nat) < 100 from by decide) hf
  have f8 : v_iv (n_v vs 1) < v_iv (n_v vs 13) := f8
  obtain ⟨f9, hf⟩ := fc_un (show (20 : Nat) < 100 from by decide) hf
  have f9 : v_iv (n_v vs 13) = w_ei w1 (w_ar w1 (n_v vs 0) 2) (((w_fi w1 (n_v vs 0) 5 + 315) + v_iv (n_v vs 2))) := f9
  obtain ⟨ta2, w2, le2, ⟨_, s2⟩, hf⟩ := fc_us (show ¬ (100 : Nat) < 100 from by decide) hf
  have s2 : (∀ b j, w_el w1 b j = if b = v_ad (n_v vs 5) ∧ j = (v_iv (n_v vs 9)).toNat then v_iv (n_v vs 12) else w_el w2 b j) ∧ ∀ b k, w_fd w1 b k = w_fd w2 b k := s2
  obtain ⟨f11, hf⟩ := fc_un (show (2 : Nat) < 100 from by decide) hf
  have f11 : v_iv (n_v vs 12) = v_iv (n_v vs 10) - v_iv (n_v vs 11) := f11
  obtain ⟨f12, hf⟩ := fc_un (show (10 : Nat) < 100 from by decide) hf
  have f12 : v_iv (n_v vs 10) = w_el w2 (v_ad (n_v vs 5)) (v_iv (n_v vs 9)).toNat := f12
  obtain ⟨f13, hf⟩ := fc_un (show (1 : Nat) < 100 from by decide) hf
  have f13 : v_iv (n_v vs 9) = v_iv (n_v vs 8) + v_iv (n_v vs 2) := f13
  obtain ⟨f14, hf⟩ := fc_un (show (1 : Nat) < 100 from by decide) hf
  have f14 : v_iv (n_v vs 8) = v_iv (n_v vs 6) + v_iv (n_v vs 7) := f14
  obtain ⟨f15, hf⟩ := fc_un (show (7 : Nat) < 100 from by decide) hf
  have f15 : v_iv (n_v vs 1) < v_iv (n_v vs 4) := f15
  obtain ⟨f16, hf⟩ := fc_un (show (20 : Nat) < 100 from by decide) hf
  have f16 : v_iv (n_v vs 4) = w_ei w2 (w_ar w2 (n_v vs 0) 2) (((w_fi w2 (n_v vs 0) 5 + 267) + v_iv (n_v vs 2))) := f16
  obtain ⟨f17, hf⟩ := fc_un (show (7 : Nat) < 100 from by decide) hf
  have f17 : v_iv (n_v vs 2) < v_iv (n_v vs 3) := f17
  obtain ⟨f18, hf⟩ := fc_un (show (20 : Nat) < 100 from by decide) hf
  have f18 : 1 * v_iv (n_v vs 3) + ((-1) * w_el w2 (w_ar w2 (n_v vs 0) 2) (w_fi w2 (n_v vs 0) 5 + 1).toNat + 0) ≤ 0 := f18
  obtain ⟨f19, hf⟩ := fc_un (show (20 : Nat) < 100 from by decide) hf
  have f19 : (-1) * v_iv (n_v vs 3) + (1 * w_el w2 (w_ar w2 (n_v vs 0) 2) (w_fi w2 (n_v vs 0) 5 + 1).toNat + 0) ≤ 0 := f19
  obtain ⟨f20, hf⟩ := fc_un (show (20 : Nat) < 100 from by decide) hf
  have f20 : 1 * v_iv (n_v vs 1) + ((-1) * w_el w2 (w_ar w2 (n_v vs 0) 2) (w_fi w2 (n_v vs 0) 5 + 0).toNat + 0) ≤ (-1) := f20
  have ar_0_2_1 : w_ar w1 (n_v vs 0) 2 = w_ar ws (n_v vs 0) 2 := by show v_ad (w_fd w1 _ _) = v_ad (w_fd ws _ _); rw [s1.2]
  have ar_0_2_2 : w_ar w2 (n_v vs 0) 2 = w_ar ws (n_v vs 0) 2 := by rw [← ar_0_2_1]; show v_ad (w_fd w2 _ _) = v_ad (w_fd w1 _ _); rw [s2.2]
  have cr_0_2 : ta (w_ar ws (n_v vs 0) 2) = some 152 := tv_rg (th_fd hD hth r0 (g := GG_150) rfl (k := 2) (t := (2, 0, 0, [152])) rfl rfl)
  have fi_0_5_1 : w_fi w1 (n_v vs 0) 5 = w_fi ws (n_v vs 0) 5 := by show v_iv (w_fd w1 _ _) = v_iv (w_fd ws _ _); rw [s1.2]
  have fi_0_5_2 : w_fi w2 (n_v vs 0) 5 = w_fi ws (n_v vs 0) 5 := by rw [← fi_0_5_1]; show v_iv (w_fd w2 _ _) = v_iv (w_fd w1 _ _); rw [s2.2]
  have ad_5 : v_ad (n_v vs 5) = w_ar ws (n_v vs 0) 2 := (congrArg v_ad f7).trans ar_0_2_1
  rw [ad_5] at f3
  have h3 : v_iv (n_v vs 17) = w_ei w1 (w_ar ws (n_v vs 0) 2) (v_iv (n_v vs 16)) := f3
  have g6 : v_iv (n_v vs 6) = w_fi w1 (n_v vs 0) 5 := congrArg v_iv f6
  rw [ar_0_2_1] at f9
  rw [ad_5] at f12
  have h12 : v_iv (n_v vs 10) = w_ei w2 (w_ar ws (n_v vs 0) 2) (v_iv (n_v vs 9)) := f12
  rw [ar_0_2_2] at f16
  rw [ar_0_2_2] at f18
  rw [fi_0_5_2] at f18
  rw [ar_0_2_2] at f19
  rw [fi_0_5_2] at f19
  rw [ar_0_2_2] at f20
  rw [fi_0_5_2] at f20
  have cg3_F5_1 : v_iv (n_v vs 16) = w_fi ws (n_v vs 0) 5 + 1 → w_el w1 (w_ar ws (n_v vs 0) 2) (v_iv (n_v vs 16)).toNat = w_el w1 (w_ar ws (n_v vs 0) 2) (w_fi ws (n_v vs 0) 5 + 1).toNat := fun h => by rw [h]
  have cg3_F5_0 : v_iv (n_v vs 16) = w_fi ws (n_v vs 0) 5 + 0 → w_el w1 (w_ar ws (n_v vs 0) 2) (v_iv (n_v vs 16)).toNat = w_el w1 (w_ar ws (n_v vs 0) 2) (w_fi ws (n_v vs 0) 5 + 0).toNat := fun h => by rw [h]
  have cg12_F5_1 : v_iv (n_v vs 9) = w_fi ws (n_v vs 0) 5 + 1 → w_el w2 (w_ar ws (n_v vs 0) 2) (v_iv (n_v vs 9)).toNat = w_el w2 (w_ar ws (n_v vs 0) 2) (w_fi ws (n_v vs 0) 5 + 1).toNat := fun h => by rw [h]
  have cg12_F5_0 : v_iv (n_v vs 9) = w_fi ws (n_v vs 0) 5 + 0 → w_el w2 (w_ar ws (n_v vs 0) 2) (v_iv (n_v vs 9)).toNat = w_el w2 (w_ar ws (n_v vs 0) 2) (w_fi ws (n_v vs 0) 5 + 0).toNat := fun h => by rw [h]
  have fe_0_5_1 : w_fi ws (n_v vs 0) 5 = w_fi w1 (n_v vs 0) 5 := congrArg v_iv (s1.2 _ _)
  first | (have ee_0_2_F5_0_1 : w_el ws (w_ar ws (n_v vs 0) 2) (w_fi ws (n_v vs 0) 5 + 0).toNat = w_el w1 (w_ar ws (n_v vs 0) 2) (w_fi ws (n_v vs 0) 5 + 0).toNat := by rw [s1.1, if_neg (fun e => absurd e.2 (by omega))]) | have ee_0_2_F5_0_1 : ((w_fi ws (n_v vs 0) 5 + 0).toNat = (v_iv (n_v vs 16)).toNat → w_el ws (w_ar ws (n_v vs 0) 2) (w_fi ws (n_v vs 0) 5 + 0).toNat = v_iv (n_v vs 19)) ∧ ((w_fi ws (n_v vs 0) 5 + 0).toNat ≠ (v_iv (n_v vs 16)).toNat → w_el ws (w_ar ws (n_v vs 0) 2) (w_fi ws (n_v vs 0) 5 + 0).toNat = w_el w1 (w_ar ws (n_v vs 0) 2) (w_fi ws (n_v vs 0) 5 + 0).toNat) := ⟨fun h => by rw [s1.1, if_pos ⟨ad_5.symm, h⟩], fun h => by rw [s1.1, if_neg (fun e => h e.2)]⟩
  first | (have ee_0_2_F5_1_1 : w_el ws (w_ar ws (n_v vs 0) 2) (w_fi ws (n_v vs 0) 5 + 1).toNat = w_el w1 (w_ar ws (n_v vs 0) 2) (w_fi ws (n_v vs 0) 5 + 1).toNat := by rw [s1.1, if_neg (fun e => absurd e.2 (by omega))]) | have ee_0_2_F5_1_1 : ((w_fi ws (n_v vs 0) 5 + 1).toNat = (v_iv (n_v vs 16)).toNat → w_el ws (w_ar ws (n_v vs 0) 2) (w_fi ws (n_v vs 0) 5 + 1).toNat = v_iv (n_v vs 19)) ∧ ((w_fi ws (n_v vs 0) 5 + 1).toNat ≠ (v_iv (n_v vs 16)).toNat → w_el ws (w_ar ws (n_v vs 0) 2) (w_fi ws (n_v vs 0) 5 + 1).toNat = w_el w1 (w_ar ws (n_v vs 0) 2) (w_fi ws (n_v vs 0) 5 + 1).toNat) := ⟨fun h => by rw [s1.1, if_pos ⟨ad_5.symm, h⟩], fun h => by rw [s1.1, if_neg (fun e => h e.2)]⟩
  have ee_0_2_16_1 : w_el ws (w_ar ws (n_v vs 0) 2) (v_iv (n_v vs 16)).toNat = v_iv (n_v vs 19) := by rw [s1.1, if_pos ⟨ad_5.symm, rfl⟩]
  have ee_0_2_9_1 : ((v_iv (n_v vs 9)).toNat = (v_iv (n_v vs 16)).toNat → w_el ws (w_ar ws (n_v vs 0) 2) (v_iv (n_v vs 9)).toNat = v_iv (n_v vs 19)) ∧ ((v_iv (n_v vs 9)).toNat ≠ (v_iv (n_v vs 16)).toNat → w_el ws (w_ar ws (n_v vs 0) 2) (v_iv (n_v vs 9)).toNat = w_el w1 (w_ar ws (n_v vs 0) 2) (v_iv (n_v vs 9)).toNat) := ⟨fun h => by rw [s1.1, if_pos ⟨ad_5.symm, h⟩], fun h => by rw [s1.1, if_neg (fun e => h e.2)]⟩
  have fe_0_5_2 : w_fi w1 (n_v vs 0) 5 = w_fi w2 (n_v vs 0) 5 := congrArg v_iv (s2.2 _ _)
  first | (have ee_0_2_F5_0_2 : w_el w1 (w_ar ws (n_v vs 0) 2) (w_fi ws (n_v vs 0) 5 + 0).toNat = w_el w2 (w_ar ws (n_v vs 0) 2) (w_fi ws (n_v vs 0) 5 + 0).toNat := by rw [s2.1, if_neg (fun e => absurd e.2 (by omega))]) | have ee_0_2_F5_0_2 : ((w_fi ws (n_v vs 0) 5 + 0).toNat = (v_iv (n_v vs 9)).toNat → w_el w1 (w_ar ws (n_v vs 0) 2) (w_fi ws (n_v vs 0) 5 + 0).toNat = v_iv (n_v vs 12)) ∧ ((w_fi ws (n_v vs 0) 5 + 0).toNat ≠ (v_iv (n_v vs 9)).toNat → w_el w1 (w_ar ws (n_v vs 0) 2) (w_fi ws (n_v vs 0) 5 + 0).toNat = w_el w2 (w_ar ws (n_v vs 0) 2) (w_fi ws (n_v vs 0) 5 + 0).toNat) := ⟨fun h => by rw [s2.1, if_pos ⟨ad_5.symm, h⟩], fun h => by rw [s2.1, if_neg (fun e => h e.2)]⟩
  first | (have ee_0_2_F5_1_2 : w_el w1 (w_ar ws (n_v vs 0) 2) (w_fi ws (n_v vs 0) 5 + 1).toNat = w_el w2 (w_ar ws (n_v vs 0) 2) (w_fi ws (n_v vs 0) 5 + 1).toNat := by rw [s2.1, if_neg (fun e => absurd e.2 (by omega))]) | have ee_0_2_F5_1_2 : ((w_fi ws (n_v vs 0) 5 + 1).toNat = (v_iv (n_v vs 9)).toNat → w_el w1 (w_ar ws (n_v vs 0) 2) (w_fi ws (n_v vs 0) 5 + 1).toNat = v_iv (n_v vs 12)) ∧ ((w_fi ws (n_v vs 0) 5 + 1).toNat ≠ (v_iv (n_v vs 9)).toNat → w_el w1 (w_ar ws (n_v vs 0) 2) (w_fi ws (n_v vs 0) 5 + 1).toNat = w_el w2 (w_ar ws (n_v vs 0) 2) (w_fi ws (n_v vs 0) 5 + 1).toNat) := ⟨fun h => by rw [s2.1, if_pos ⟨ad_5.symm, h⟩], fun h => by rw [s2.1, if_neg (fun e => h e.2)]⟩
  have ee_0_2_16_2 : ((v_iv (n_v vs 16)).toNat = (v_iv (n_v vs 9)).toNat → w_el w1 (w_ar ws (n_v vs 0) 2) (v_iv (n_v vs 16)).toNat = v_iv (n_v vs 12)) ∧ ((v_iv (n_v vs 16)).toNat ≠ (v_iv (n_v vs 9)).toNat → w_el w1 (w_ar ws (n_v vs 0) 2) (v_iv (n_v vs 16)).toNat = w_el w2 (w_ar ws (n_v vs 0) 2) (v_iv (n_v vs 16)).toNat) := ⟨fun h => by rw [s2.1, if_pos ⟨ad_5.symm, h⟩], fun h => by rw [s2.1, if_neg (fun e => h e.2)]⟩
  have ee_0_2_9_2 : w_el w1 (w_ar ws (n_v vs 0) 2) (v_iv (n_v vs 9)).toNat = v_iv (n_v vs 12) := by rw [s2.1, if_pos ⟨ad_5.symm, rfl⟩]
  have br_0_2_F5_0_0 : w_ei ws (w_ar ws (n_v vs 0) 2) (w_fi ws (n_v vs 0) 5 + 0) = w_el ws (w_ar ws (n_v vs 0) 2) (w_fi ws (n_v vs 0) 5 + 0).toNat := rfl
  have br_0_2_F5_0_1 : w_ei w1 (w_ar ws (n_v vs 0) 2) (w_fi ws (n_v vs 0) 5 + 0) = w_el w1 (w_ar ws (n_v vs 0) 2) (w_fi ws (n_v vs 0) 5 + 0).toNat := rfl
  have br_0_2_F5_0_2 : w_ei w2 (w_ar ws (n_v vs 0) 2) (w_fi ws (n_v vs 0) 5 + 0) = w_el w2 (w_ar ws (n_v vs 0) 2) (w_fi ws (n_v vs 0) 5 + 0).toNat := rfl
  have br_0_2_F5_1_0 : w_ei ws (w_ar ws (n_v vs 0) 2) (w_fi ws (n_v vs 0) 5 + 1) = w_el ws (w_ar ws (n_v vs 0) 2) (w_fi ws (n_v vs 0) 5 + 1).toNat := rfl
  have br_0_2_F5_1_1 : w_ei w1 (w_ar ws (n_v vs 0) 2) (w_fi ws (n_v vs 0) 5 + 1) = w_el w1 (w_ar ws (n_v vs 0) 2) (w_fi ws (n_v vs 0) 5 + 1).toNat := rfl
  have br_0_2_F5_1_2 : w_ei w2 (w_ar ws (n_v vs 0) 2) (w_fi ws (n_v vs 0) 5 + 1) = w_el w2 (w_ar ws (n_v vs 0) 2) (w_fi ws (n_v vs 0) 5 + 1).toNat := rfl
  have br_0_2_16_0 : w_ei ws (w_ar ws (n_v vs 0) 2) (v_iv (n_v vs 16)) = w_el ws (w_ar ws (n_v vs 0) 2) (v_iv (n_v vs 16)).toNat := rfl
  have br_0_2_16_1 : w_ei w1 (w_ar ws (n_v vs 0) 2) (v_iv (n_v vs 16)) = w_el w1 (w_ar ws (n_v vs 0) 2) (v_iv (n_v vs 16)).toNat := rfl
  have br_0_2_16_2 : w_ei w2 (w_ar ws (n_v vs 0) 2) (v_iv (n_v vs 16)) = w_el w2 (w_ar ws (n_v vs 0) 2) (v_iv (n_v vs 16)).toNat := rfl
  have br_0_2_9_0 : w_ei ws (w_ar ws (n_v vs 0) 2) (v_iv (n_v vs 9)) = w_el ws (w_ar ws (n_v vs 0) 2) (v_iv (n_v vs 9)).toNat := rfl
  have br_0_2_9_1 : w_ei w1 (w_ar ws (n_v vs 0) 2) (v_iv (n_v vs 9)) = w_el w1 (w_ar ws (n_v vs 0) 2) (v_iv (n_v vs 9)).toNat := rfl
  have br_0_2_9_2 : w_ei w2 (w_ar ws (n_v vs 0) 2) (v_iv (n_v vs 9)) = w_el w2 (w_ar ws (n_v vs 0) 2) (v_iv (n_v vs 9)).toNat := rfl
  have hE_0_2_1 : ∀ j : Int, 0 ≤ j → (j = v_iv (n_v vs 16) → w_ei ws (w_ar ws (n_v vs 0) 2) j = v_iv (n_v vs 19)) ∧ (j ≠ v_iv (n_v vs 16) → w_ei ws (w_ar ws (n_v vs 0) 2) j = w_ei w1 (w_ar ws (n_v vs 0) 2) j) := fun j hj => ⟨fun h => by unfold w_ei; rw [s1.1, if_pos ⟨ad_5.symm, by rw [h]⟩], fun h => by unfold w_ei; rw [s1.1, if_neg (fun e => h (by have := e.2; omega))]⟩
  have hE_0_2_2 : ∀ j : Int, 0 ≤ j → (j = v_iv (n_v vs 9) → w_ei w1 (w_ar ws (n_v vs 0) 2) j = v_iv (n_v vs 12)) ∧ (j ≠ v_iv (n_v vs 9) → w_ei w1 (w_ar ws (n_v vs 0) 2) j = w_ei w2 (w_ar ws (n_v vs 0) 2) j) := fun j hj => ⟨fun h => by unfold w_ei; rw [s2.1, if_pos ⟨ad_5.symm, by rw [h]⟩], fun h => by unfold w_ei; rw [s2.1, if_neg (fun e => h (by have := e.2; omega))]⟩
  have nf0 : fc_1 (20, [1, 0], [30, -1, 1, 0, 0, -1, 3, 2005000]) ws (vs) := by
    refine ⟨fun n hn => ?_, ?_⟩
    · have hn : n ∈ [1, 0] := hn
      rw [hl]
      simp only [List.mem_cons, List.not_mem_nil, or_false] at hn
      show n < 21; omega
    · show 1 * v_iv (n_v vs 1) + ((-1) * w_el ws (w_ar ws (n_v vs 0) 2) (w_fi ws (n_v vs 0) 5 + 0).toNat + 0) ≤ (-1)
      omega
  refine ⟨(fun _ h => (by cases h)), [], trivial, ?_, (fun _ h => (by cases h))⟩
  rw [List.append_nil]
  exact List.forall_mem_cons.mpr ⟨⟨show (20 : Nat) < 100 from by decide, nf0⟩, (fun _ h => (by cases h))⟩
def o_Mo_dropNode_10 : or_T := (282, 11, [(0, (2, 0, 0, [150])), (1, (0, 0, 23, [])), (2, (0, 0, 23, [])), (3, (0, 1, 1, [])), (4, (0, 1, 24, [])), (5, (0, 0, 24, [])), (6, (2, 0, 0, [152])), (7, (0, 0, 66297, [])), (8, (0, 0, 24, [])), (9, (0, 1, 1, [])), (10, (0, -1, 23, []))], [(2, [10, 8, 9], []), (10, [8, 6, 7], []), (9, [7, 0], [5]), (9, [6, 0], [2]), (7, [4, 5], [3]), (20, [5, 0], [30, 0, 1, 0, 0, -1, 3, 2005000]), (20, [5, 0], [30, 0, -1, 0, 0, 1, 3, 2005000]), (1, [4, 2, 3], []), (20, [1, 0], [30, -1, 1, 0, 0, -1, 3, 2005000])], [(10, (0, 0, 23, []))], [], [], [], [(10, 8, -1, -1), (4, 5, 0, 4294967296), (4, 2, 1, 1), (1, 2, -4294967296, 0)])
theorem oo_Mo_dropNode_10 {kA : Nat → ClassId} : or_ok kA GG o_Mo_dropNode_10 := by
  intro A ta ws vs hD hth hl hk hds hf
  have hl : vs.length = 11 := hl
  have hk : ∀ q ∈ ([(0, (2, 0, 0, [150])), (1, (0, 0, 23, [])), (2, (0, 0, 23, [])), (3, (0, 1, 1, [])), (4, (0, 1, 24, [])), (5, (0, 0, 24, [])), (6, (2, 0, 0, [152])), (7, (0, 0, 66297, [])), (8, (0, 0, 24, [])), (9, (0, 1, 1, [])), (10, (0, -1, 23, []))] : List (Nat × tv_T)), tv_ok ta q.2 (n_v vs q.1) := hk
  obtain ⟨t0, hk⟩ := List.forall_mem_cons.mp hk
  have t0 : tv_ok ta (2, 0, 0, [150]) (n_v vs 0) := t0
  have r0 : ta (v_ad (n_v vs 0)) = some 150 := tv_rg t0
  obtain ⟨t1, hk⟩ := List.forall_mem_cons.mp hk
  have t1 : tv_ok ta (0, 0, 23, []) (n_v vs 1) := t1
  have k1 : 0 ≤ v_iv (n_v vs 1) ∧ v_iv (n_v vs 1) ≤ 23 := tv_rng t1
  obtain ⟨t2, hk⟩ := List.forall_mem_cons.mp hk
  have t2 : tv_ok ta (0, 0, 23, []) (n_v vs 2) := t2
  have k2 : 0 ≤ v_iv (n_v vs 2) ∧ v_iv (n_v vs 2) ≤ 23 := tv_rng t2
  obtain ⟨t3, hk⟩ := List.forall_mem_cons.mp hk
  have t3 : tv_ok ta (0, 1, 1, []) (n_v vs 3) := t3
  have k3 : 1 ≤ v_iv (n_v vs 3) ∧ v_iv (n_v vs 3) ≤ 1 := tv_rng t3
  obtain ⟨t4, hk⟩ := List.forall_mem_cons.mp hk
  have t4 : tv_ok ta (0, 1, 24, []) (n_v vs 4) := t4
  have k4 : 1 ≤ v_iv (n_v vs 4) ∧ v_iv (n_v vs 4) ≤ 24 := tv_rng t4
  obtain ⟨t5, hk⟩ := List.forall_mem_cons.mp hk
  have t5 : tv_ok ta (0, 0, 24, []) (n_v vs 5) := t5
  have k5 : 0 ≤ v_iv (n_v vs 5) ∧ v_iv (n_v vs 5) ≤ 24 := tv_rng t5
  obtain ⟨t6, hk⟩ := List.forall_mem_cons.mp hk
  have t6 : tv_ok ta (2, 0, 0, [152]) (n_v vs 6) := t6
  have r6 : ta (v_ad (n_v vs 6)) = some 152 := tv_rg t6
  obtain ⟨t7, hk⟩ := List.forall_mem_cons.mp hk
  have t7 : tv_ok ta (0, 0, 66297, []) (n_v vs 7) := t7
  have k7 : 0 ≤ v_iv (n_v vs 7) ∧ v_iv (n_v vs 7) ≤ 66297 := tv_rng t7
  obtain ⟨t8, hk⟩ := List.forall_mem_cons.mp hk
  have t8 : tv_ok ta (0, 0, 24, []) (n_v vs 8) := t8
  have k8 : 0 ≤ v_iv (n_v vs 8) ∧ v_iv (n_v vs 8) ≤ 24 := tv_rng t8
  obtain ⟨t9, hk⟩ := List.forall_mem_cons.mp hk
  have t9 : tv_ok ta (0, 1, 1, []) (n_v vs 9) := t9
  have k9 : 1 ≤ v_iv (n_v vs 9) ∧ v_iv (n_v vs 9) ≤ 1 := tv_rng t9
  obtain ⟨t10, hk⟩ := List.forall_mem_cons.mp hk
  have t10 : tv_ok ta (0, -1, 23, []) (n_v vs 10) := t10
  have k10 : (-1) ≤ v_iv (n_v vs 10) ∧ v_iv (n_v vs 10) ≤ 23 := tv_rng t10
  have hds : ∀ q ∈ ([(10, 8, -1, -1), (4, 5, 0, 4294967296), (4, 2, 1, 1), (1, 2, -4294967296, 0)] : List of_T), n_iv vs q.2.1 + q.2.2.1 ≤ n_iv vs q.1 ∧ n_iv vs q.1 ≤ n_iv vs q.2.1 + q.2.2.2 := hds
  obtain ⟨d0, hds⟩ := List.forall_mem_cons.mp hds
  have d0 : v_iv (n_v vs 8) + (-1) ≤ v_iv (n_v vs 10) ∧ v_iv (n_v vs 10) ≤ v_iv (n_v vs 8) + (-1) := d0
  obtain ⟨d1, hds⟩ := List.forall_mem_cons.mp hds
  have d1 : v_iv (n_v vs 5) + 0 ≤ v_iv (n_v vs 4) ∧ v_iv (n_v vs 4) ≤ v_iv (n_v vs 5) + 4294967296 := d1
  obtain ⟨d2, hds⟩ := List.forall_mem_cons.mp hds
  have d2 : v_iv (n_v vs 2) + 1 ≤ v_iv (n_v vs 4) ∧ v_iv (n_v vs 4) ≤ v_iv (n_v vs 2) + 1 := d2
  obtain ⟨d3, hds⟩ := List.forall_mem_cons.mp hds
  have d3 : v_iv (n_v vs 2) + (-4294967296) ≤ v_iv (n_v vs 1) ∧ v_iv (n_v vs 1) ≤ v_iv (n_v vs 2) + 0 := d3
  have hf : fc_ok [(2, [10, 8, 9], []), (10, [8, 6, 7], []), (9, [7, 0], [5]), (9, [6, 0], [2]), (7, [4, 5], [3]), (20, [5, 0], [30, 0, 1, 0, 0, -1, 3, 2005000]), (20, [5, 0], [30, 0, -1, 0, 0, 1, 3, 2005000]), (1, [4, 2, 3], []), (20, [1, 0], [30, -1, 1, 0, 0, -1, 3, 2005000])] ta ws vs := hf
  obtain ⟨f0, hf⟩ := fc_un (show (2 : Nat) < 100 from by decide) hf
  have f0 : v_iv (n_v vs 10) = v_iv (n_v vs 8) - v_iv (n_v vs 9) := f0
  obtain ⟨f1, hf⟩ := fc_un (show (10 : Nat) < 100 from by decide) hf
  have f1 : v_iv (n_v vs 8) = w_el ws (v_ad (n_v vs 6)) (v_iv (n_v vs 7)).toNat := f1
  obtain ⟨f2, hf⟩ := fc_un (show (9 : Nat) < 100 from by decide) hf
  have f2 : n_v vs 7 = w_fd ws (v_ad (n_v vs 0)) 5 := f2
  obtain ⟨f3, hf⟩ := fc_un (show (9 : Nat) < 100 from by decide) hf
  have f3 : n_v vs 6 = w_fd ws (v_ad (n_v vs 0)) 2 := f3
  obtain ⟨f4, hf⟩ := fc_un (show (7 : Nat) < 100 from by decide) hf
  have f4 : v_iv (n_v vs 5) ≤ v_iv (n_v vs 4) := f4
  obtain ⟨f5, hf⟩ := fc_un (show (20 : Nat) < 100 from by decide) hf
  have f5 : 1 * v_iv (n_v vs 5) + ((-1) * w_el ws (w_ar ws (n_v vs 0) 2) (w_fi ws (n_v vs 0) 5 + 0).toNat + 0) ≤ 0 := f5
  obtain ⟨f6, hf⟩ := fc_un (show (20 : Nat) < 100 from by decide) hf
  have f6 : (-1) * v_iv (n_v vs 5) + (1 * w_el ws (w_ar ws (n_v vs 0) 2) (w_fi ws (n_v vs 0) 5 + 0).toNat + 0) ≤ 0 := f6
  obtain ⟨f7, hf⟩ := fc_un (show (1 : Nat) < 100 from by decide) hf
  have f7 : v_iv (n_v vs 4) = v_iv (n_v vs 2) + v_iv (n_v vs 3) := f7
  obtain ⟨f8, hf⟩ := fc_un (show (20 : Nat) < 100 from by decide) hf
  have f8 : 1 * v_iv (n_v vs 1) + ((-1) * w_el ws (w_ar ws (n_v vs 0) 2) (w_fi ws (n_v vs 0) 5 + 0).toNat + 0) ≤ (-1) := f8
  have cr_0_2 : ta (w_ar ws (n_v vs 0) 2) = some 152 := tv_rg (th_fd hD hth r0 (g := GG_150) rfl (k := 2) (t := (2, 0, 0, [152])) rfl rfl)
  have ad_6 : v_ad (n_v vs 6) = w_ar ws (n_v vs 0) 2 := congrArg v_ad f3
  rw [ad_6] at f1
  have g2 : v_iv (n_v vs 7) = w_fi ws (n_v vs 0) 5 := congrArg v_iv f2
  have cg1_F5_0 : v_iv (n_v vs 7) = w_fi ws (n_v vs 0) 5 + 0 → w_el ws (w_ar ws (n_v vs 0) 2) (v_iv (n_v vs 7)).toNat = w_el ws (w_ar ws (n_v vs 0) 2) (w_fi ws (n_v vs 0) 5 + 0).toNat := fun h => by rw [h]
  have rf10 : tv_ok ta (0, 0, 23, []) (n_v vs 10) := tv_in t10 (by omega) (by omega)
  refine ⟨List.forall_mem_cons.mpr ⟨rf10, (fun _ h => (by cases h))⟩, [], trivial, ?_, (fun _ h => (by cases h))⟩
  rw [List.append_nil]
  exact (fun _ h => (by cases h))
def o_Mo_dropNode_11 : or_T := (105, 35, [(0, (2, 0, 0, [150])), (1, (0, 0, 23, [])), (2, (0, 0, 22, [])), (5, (2, 0, 0, [152])), (6, (0, 0, 66297, [])), (7, (0, 195, 195, [])), (8, (0, 195, 66492, [])), (9, (0, 195, 66514, [])), (10, (0, 195, 195, [])), (11, (0, 195, 66492, [])), (12, (0, 195, 66514, [])), (13, (0, 1, 1, [])), (14, (0, 196, 66515, [])), (15, (0, 0, 8, [])), (16, (0, 219, 219, [])), (17, (0, 219, 66516, [])), (18, (0, 219, 66538, [])), (19, (0, 219, 219, [])), (20, (0, 219, 66516, [])), (21, (0, 219, 66538, [])), (22, (0, 1, 1, [])), (23, (0, 220, 66539, [])), (24, (0, 0, 99, [])), (25, (0, 243, 243, [])), (26, (0, 243, 66540, [])), (27, (0, 243, 66562, [])), (28, (0, 243, 243, [])), (29, (0, 243, 66540, [])), (30, (0, 243, 66562, [])), (31, (0, 1, 1, [])), (32, (0, 244, 66563, [])), (33, (0, 0, 7, [])), (34, (0, 1, 23, []))], [(6, [34, 2], [1]), (100, [5, 27, 33], []), (10, [33, 5, 32], []), (1, [32, 30, 31], []), (1, [30, 29, 2], []), (1, [29, 6, 28], []), (9, [6, 0], [5]), (9, [5, 0], [2]), (1, [27, 26, 2], []), (1, [26, 6, 25], []), (100, [5, 18, 24], []), (10, [24, 5, 23], []), (1, [23, 21, 22], []), (1, [21, 20, 2], []), (1, [20, 6, 19], []), (1, [18, 17, 2], []), (1, [17, 6, 16], []), (100, [5, 9, 15], []), (10, [15, 5, 14], []), (1, [14, 12, 13], []), (1, [12, 11, 2], []), (1, [11, 6, 10], []), (1, [9, 8, 2], []), (1, [8, 6, 7], []), (20, [1, 0], [30, -1, 1, 0, 0, -1, 3, 2005000])], [], [], [(20, [1, 0], [30, -1, 1, 0, 0, -1, 3, 2005000])], [], [(34, 2, 1, 1), (32, 30, 1, 1), (32, 2, 244, 66541), (32, 29, 1, 23), (32, 6, 244, 266), (30, 2, 243, 66540), (30, 29, 0, 22), (30, 6, 243, 265), (29, 6, 243, 243), (27, 2, 243, 66540), (27, 26, 0, 22), (27, 6, 243, 265), (26, 6, 243, 243), (23, 21, 1, 1), (23, 2, 220, 66517), (23, 20, 1, 23), (23, 6, 220, 242), (21, 2, 219, 66516), (21, 20, 0, 22), (21, 6, 219, 241), (20, 6, 219, 219), (18, 2, 219, 66516), (18, 17, 0, 22), (18, 6, 219, 241), (17, 6, 219, 219), (14, 12, 1, 1), (14, 2, 196, 66493), (14, 11, 1, 23), (14, 6, 196, 218), (12, 2, 195, 66492), (12, 11, 0, 22), (12, 6, 195, 217), (11, 6, 195, 195), (9, 2, 195, 66492), (9, 8, 0, 22), (9, 6, 195, 217), (8, 6, 195, 195), (1, 2, -4294967296, 0)])
theorem oo_Mo_dropNode_11 {kA : Nat → ClassId} : or_ok kA GG o_Mo_dropNode_11 := by
  intro A ta ws vs hD hth hl hk hds hf
  have hl : vs.length = 35 := hl
  have hk : ∀ q ∈ ([(0, (2, 0, 0, [150])), (1, (0, 0, 23, [])), (2, (0, 0, 22, [])), (5, (2, 0, 0, [152])), (6, (0, 0, 66297, [])), (7, (0, 195, 195, [])), (8, (0, 195, 66492, [])), (9, (0, 195, 66514, [])), (10, (0, 195, 195, [])), (11, (0, 195, 66492, [])), (12, (0, 195, 66514, [])), (13, (0, 1, 1, [])), (14, (0, 196, 66515, [])), (15, (0, 0, 8, [])), (16, (0, 219, 219, [])), (17, (0, 219, 66516, [])), (18, (0, 219, 66538, [])), (19, (0, 219, 219, [])), (20, (0, 219, 66516, [])), (21, (0, 219, 66538, [])), (22, (0, 1, 1, [])), (23, (0, 220, 66539, [])), (24, (0, 0, 99, [])), (25, (0, 243, 243, [])), (26, (0, 243, 66540, [])), (27, (0, 243, 66562, [])), (28, (0, 243, 243, [])), (29, (0, 243, 66540, [])), (30, (0, 243, 66562, [])), (31, (0, 1, 1, [])), (32, (0, 244, 66563, [])), (33, (0, 0, 7, [])), (34, (0, 1, 23, []))] : List (Nat × tv_T)), tv_ok ta q.2 (n_v vs q.1) := hk
  obtain ⟨t0, hk⟩ := List.forall_mem_cons.mp hk
  have t0 : tv_ok ta (2, 0, 0, [150]) (n_v vs 0) := t0
  have r0 : ta (v_ad (n_v vs 0)) = some 150 := tv_rg t0
  obtain ⟨t1, hk⟩ := List.forall_mem_cons.mp hk
  have t1 : tv_ok ta (0, 0, 23, []) (n_v vs 1) := t1
  have k1 : 0 ≤ v_iv (n_v vs 1) ∧ v_iv (n_v vs 1) ≤ 23 := tv_rng t1
  obtain ⟨t2, hk⟩ := List.forall_mem_cons.mp hk
  have t2 : tv_ok ta (0, 0, 22, []) (n_v vs 2) := t2
  have k2 : 0 ≤ v_iv (n_v vs 2) ∧ v_iv (n_v vs 2) ≤ 22 := tv_rng t2
  obtain ⟨t5, hk⟩ := List.forall_mem_cons.mp hk
  have t5 : tv_ok ta (2, 0, 0, [152]) (n_v vs 5) := t5
  have r5 : ta (v_ad (n_v vs 5)) = some 152 := tv_rg t5
  obtain ⟨t6, hk⟩ := List.forall_mem_cons.mp hk
  have t6 : tv_ok ta (0, 0, 66297, []) (n_v vs 6) := t6
  have k6 : 0 ≤ v_iv (n_v vs 6) ∧ v_iv (n_v vs 6) ≤ 66297 := tv_rng t6
  obtain ⟨t7, hk⟩ := List.forall_mem_cons.mp hk
  have t7 : tv_ok ta (0, 195, 195, []) (n_v vs 7) := t7
  have k7 : 195 ≤ v_iv (n_v vs 7) ∧ v_iv (n_v vs 7) ≤ 195 := tv_rng t7
  obtain ⟨t8, hk⟩ := List.forall_mem_cons.mp hk
  have t8 : tv_ok ta (0, 195, 66492, []) (n_v vs 8) := t8
  have k8 : 195 ≤ v_iv (n_v vs 8) ∧ v_iv (n_v vs 8) ≤ 66492 := tv_rng t8
  obtain ⟨t9, hk⟩ := List.forall_mem_cons.mp hk
  have t9 : tv_ok ta (0, 195, 66514, []) (n_v vs 9) := t9
  have k9 : 195 ≤ v_iv (n_v vs 9) ∧ v_iv (n_v vs 9) ≤ 66514 := tv_rng t9
  obtain ⟨t10, hk⟩ := List.forall_mem_cons.mp hk
  have t10 : tv_ok ta (0, 195, 195, []) (n_v vs 10) := t10
  have k10 : 195 ≤ v_iv (n_v vs 10) ∧ v_iv (n_v vs 10) ≤ 195 := tv_rng t10
  obtain ⟨t11, hk⟩ := List.forall_mem_cons.mp hk
  have t11 : tv_ok ta (0, 195, 66492, []) (n_v vs 11) := t11
  have k11 : 195 ≤ v_iv (n_v vs 11) ∧ v_iv (n_v vs 11) ≤ 66492 := tv_rng t11
  obtain ⟨t12, hk⟩ := List.forall_mem_cons.mp hk
  have t12 : tv_ok ta (0, 195, 66514, []) (n_v vs 12) := t12
  have k12 : 195 ≤ v_iv (n_v vs 12) ∧ v_iv (n_v vs 12) ≤ 66514 := tv_rng t12
  obtain ⟨t13, hk⟩ := List.forall_mem_cons.mp hk
  have t13 : tv_ok ta (0, 1, 1, []) (n_v vs 13) := t13
  have k13 : 1 ≤ v_iv (n_v vs 13) ∧ v_iv (n_v vs 13) ≤ 1 := tv_rng t13
  obtain ⟨t14, hk⟩ := List.forall_mem_cons.mp hk
  have t14 : tv_ok ta (0, 196, 66515, []) (n_v vs 14) := t14
  have k14 : 196 ≤ v_iv (n_v vs 14) ∧ v_iv (n_v vs 14) ≤ 66515 := tv_rng t14
  obtain ⟨t15, hk⟩ := List.forall_mem_cons.mp hk
  have t15 : tv_ok ta (0, 0, 8, []) (n_v vs 15) := t15
  have k15 : 0 ≤ v_iv (n_v vs 15) ∧ v_iv (n_v vs 15) ≤ 8 := tv_rng t15
  obtain ⟨t16, hk⟩ := List.forall_mem_cons.mp hk
  have t16 : tv_ok ta (0, 219, 219, []) (n_v vs 16) := t16
  have k16 : 219 ≤ v_iv (n_v vs 16) ∧ v_iv (n_v vs 16) ≤ 219 := tv_rng t16
  obtain ⟨t17, hk⟩ := List.forall_mem_cons.mp hk
  have t17 : tv_ok ta (0, 219, 66516, []) (n_v vs 17) := t17
  have k17 : 219 ≤ v_iv (n_v vs 17) ∧ v_iv (n_v vs 17) ≤ 66516 := tv_rng t17
  obtain ⟨t18, hk⟩ := List.forall_mem_cons.mp hk
  have t18 : tv_ok ta (0, 219, 66538, []) (n_v vs 18) := t18
  have k18 : 219 ≤ v_iv (n_v vs 18) ∧ v_iv (n_v vs 18) ≤ 66538 := tv_rng t18
  obtain ⟨t19, hk⟩ := List.forall_mem_cons.mp hk
  have t19 : tv_ok ta (0, 219, 219, []) (n_v vs 19) := t19
  have k19 : 219 ≤ v_iv (n_v vs 19) ∧ v_iv (n_v vs 19) ≤ 219 := tv_rng t19
  obtain ⟨t20, hk⟩ := List.forall_mem_cons.mp hk
  have t20 : tv_ok ta (0, 219, 66516, []) (n_v vs 20) := t20
  have k20 : 219 ≤ v_iv (n_v vs 20) ∧ v_iv (n_v vs 20) ≤ 66516 := tv_rng t20
  obtain ⟨t21, hk⟩ := List.forall_mem_cons.mp hk
  have t21 : tv_ok ta (0, 219, 66538, []) (n_v vs 21) := t21
  have k21 : 219 ≤ v_iv (n_v vs 21) ∧ v_iv (n_v vs 21) ≤ 66538 := tv_rng t21
  obtain ⟨t22, hk⟩ := List.forall_mem_cons.mp hk
  have t22 : tv_ok ta (0, 1, 1, []) (n_v vs 22) := t22
  have k22 : 1 ≤ v_iv (n_v vs 22) ∧ v_iv (n_v vs 22) ≤ 1 := tv_rng t22
  obtain ⟨t23, hk⟩ := List.forall_mem_cons.mp hk
  have t23 : tv_ok ta (0, 220, 66539, []) (n_v vs 23) := t23
  have k23 : 220 ≤ v_iv (n_v vs 23) ∧ v_iv (n_v vs 23) ≤ 66539 := tv_rng t23
  obtain ⟨t24, hk⟩ := List.forall_mem_cons.mp hk
  have t24 : tv_ok ta (0, 0, 99, []) (n_v vs 24) := t24
  have k24 : 0 ≤ v_iv (n_v vs 24) ∧ v_iv (n_v vs 24) ≤ 99 := tv_rng t24
  obtain ⟨t25, hk⟩ := List.forall_mem_cons.mp hk
  have t25 : tv_ok ta (0, 243, 243, []) (n_v vs 25) := t25
  have k25 : 243 ≤ v_iv (n_v vs 25) ∧ v_iv (n_v vs 25) ≤ 243 := tv_rng t25
  obtain ⟨t26, hk⟩ := List.forall_mem_cons.mp hk
  have t26 : tv_ok ta (0, 243, 66540, []) (n_v vs 26) := t26
  have k26 : 243 ≤ v_iv (n_v vs 26) ∧ v_iv (n_v vs 26) ≤ 66540 := tv_rng t26
  obtain ⟨t27, hk⟩ := List.forall_mem_cons.mp hk
  have t27 : tv_ok ta (0, 243, 66562, []) (n_v vs 27) := t27
  have k27 : 243 ≤ v_iv (n_v vs 27) ∧ v_iv (n_v vs 27) ≤ 66562 := tv_rng t27
  obtain ⟨t28, hk⟩ := List.forall_mem_cons.mp hk
  have t28 : tv_ok ta (0, 243, 243, []) (n_v vs 28) := t28
  have k28 : 243 ≤ v_iv (n_v vs 28) ∧ v_iv (n_v vs 28) ≤ 243 := tv_rng t28
  obtain ⟨t29, hk⟩ := List.forall_mem_cons.mp hk
  have t29 : tv_ok ta (0, 243, 66540, []) (n_v vs 29) := t29
  have k29 : 243 ≤ v_iv (n_v vs 29) ∧ v_iv (n_v vs 29) ≤ 66540 := tv_rng t29
  obtain ⟨t30, hk⟩ := List.forall_mem_cons.mp hk
  have t30 : tv_ok ta (0, 243, 66562, []) (n_v vs 30) := t30
  have k30 : 243 ≤ v_iv (n_v vs 30) ∧ v_iv (n_v vs 30) ≤ 66562 := tv_rng t30
  obtain ⟨t31, hk⟩ := List.forall_mem_cons.mp hk
  have t31 : tv_ok ta (0, 1, 1, []) (n_v vs 31) := t31
  have k31 : 1 ≤ v_iv (n_v vs 31) ∧ v_iv (n_v vs 31) ≤ 1 := tv_rng t31
  obtain ⟨t32, hk⟩ := List.forall_mem_cons.mp hk
  have t32 : tv_ok ta (0, 244, 66563, []) (n_v vs 32) := t32
  have k32 : 244 ≤ v_iv (n_v vs 32) ∧ v_iv (n_v vs 32) ≤ 66563 := tv_rng t32
  obtain ⟨t33, hk⟩ := List.forall_mem_cons.mp hk
  have t33 : tv_ok ta (0, 0, 7, []) (n_v vs 33) := t33
  have k33 : 0 ≤ v_iv (n_v vs 33) ∧ v_iv (n_v vs 33) ≤ 7 := tv_rng t33
  obtain ⟨t34, hk⟩ := List.forall_mem_cons.mp hk
  have t34 : tv_ok ta (0, 1, 23, []) (n_v vs 34) := t34
  have k34 : 1 ≤ v_iv (n_v vs 34) ∧ v_iv (n_v vs 34) ≤ 23 := tv_rng t34
  have hds : ∀ q ∈ ([(34, 2, 1, 1), (32, 30, 1, 1), (32, 2, 244, 66541), (32, 29, 1, 23), (32, 6, 244, 266), (30, 2, 243, 66540), (30, 29, 0, 22), (30, 6, 243, 265), (29, 6, 243, 243), (27, 2, 243, 66540), (27, 26, 0, 22), (27, 6, 243, 265), (26, 6, 243, 243), (23, 21, 1, 1), (23, 2, 220, 66517), (23, 20, 1, 23), (23, 6, 220, 242), (21, 2, 219, 66516), (21, 20, 0, 22), (21, 6, 219, 241), (20, 6, 219, 219), (18, 2, 219, 66516), (18, 17, 0, 22), (18, 6, 219, 241), (17, 6, 219, 219), (14, 12, 1, 1), (14, 2, 196, 66493), (14, 11, 1, 23), (14, 6, 196, 218), (12, 2, 195, 66492), (12, 11, 0, 22), (12, 6, 195, 217), (11, 6, 195, 195), (9, 2, 195, 66492), (9, 8, 0, 22), (9, 6, 195, 217), (8, 6, 195, 195), (1, 2, -4294967296, 0)] : List of_T), n_iv vs q.2.1 + q.2.2.1 ≤ n_iv vs q.1 ∧ n_iv vs q.1 ≤ n_iv vs q.2.1 + q.2.2.2 := hds
  obtain ⟨d0, hds⟩ := List.forall_mem_cons.mp hds
  have d0 : v_iv (n_v vs 2) + 1 ≤ v_iv (n_v vs 34) ∧ v_iv (n_v vs 34) ≤ v_iv (n_v vs 2) + 1 := d0
  obtain ⟨d1, hds⟩ := List.forall_mem_cons.mp hds
  have d1 : v_iv (n_v vs 30) + 1 ≤ v_iv (n_v vs 32) ∧ v_iv (n_v vs 32) ≤ v_iv (n_v vs 30) + 1 := d1
  obtain ⟨d2, hds⟩ := List.forall_mem_cons.mp hds
  have d2 : v_iv (n_v vs 2) + 244 ≤ v_iv (n_v vs 32) ∧ v_iv (n_v vs 32) ≤ v_iv (n_v vs 2) + 66541 := d2
  obtain ⟨d3, hds⟩ := List.forall_mem_cons.mp hds
  have d3 : v_iv (n_v vs 29) + 1 ≤ v_iv (n_v vs 32) ∧ v_iv (n_v vs 32) ≤ v_iv (n_v vs 29) + 23 := d3
  obtain ⟨d4, hds⟩ := List.forall_mem_cons.mp hds
  have d4 : v_iv (n_v vs 6) + 244 ≤ v_iv (n_v vs 32) ∧ v_iv (n_v vs 32) ≤ v_iv (n_v vs 6) + 266 := d4
  obtain ⟨d5, hds⟩ := List.forall_mem_cons.mp hds
  have d5 : v_iv (n_v vs 2) + 243 ≤ v_iv (n_v vs 30) ∧ v_iv (n_v vs 30) ≤ v_iv (n_v vs 2) + 66540 := d5
  obtain ⟨d6, hds⟩ := List.forall_mem_cons.mp hds
  have d6 : v_iv (n_v vs 29) + 0 ≤ v_iv (n_v vs 30) ∧ v_iv (n_v vs 30) ≤ v_iv (n_v vs 29) + 22 := d6
  obtain ⟨d7, hds⟩ := List.forall_mem_cons.mp hds
  have d7 : v_iv (n_v vs 6) + 243 ≤ v_iv (n_v vs 30) ∧ v_iv (n_v vs 30) ≤ v_iv (n_v vs 6) + 265 := d7
  obtain ⟨d8, hds⟩ := List.forall_mem_cons.mp hds
  have d8 : v_iv (n_v vs 6) + 243 ≤ v_iv (n_v vs 29) ∧ v_iv (n_v vs 29) ≤ v_iv (n_v vs 6) + 243 := d8
  obtain ⟨d9, hds⟩ := List.forall_mem_cons.mp hds
  have d9 : v_iv (n_v vs 2) + 243 ≤ v_iv (n_v vs 27) ∧ v_iv (n_v vs 27) ≤ v_iv (n_v vs 2) + 66540 := d9
  obtain ⟨d10, hds⟩ := List.forall_mem_cons.mp hds
  have d10 : v_iv (n_v vs 26) + 0 ≤ v_iv (n_v vs 27) ∧ v_iv (n_v vs 27) ≤ v_iv (n_v vs 26) + 22 := d10
  obtain ⟨d11, hds⟩ := List.forall_mem_cons.mp hds
  have d11 : v_iv (n_v vs 6) + 243 ≤ v_iv (n_v vs 27) ∧ v_iv (n_v vs 27) ≤ v_iv (n_v vs 6) + 265 := d11
  obtain ⟨d12, hds⟩ := List.forall_mem_cons.mp hds
  have d12 : v_iv (n_v vs 6) + 243 ≤ v_iv (n_v vs 26) ∧ v_iv (n_v vs 26) ≤ v_iv (n_v vs 6) + 243 := d12
  obtain ⟨d13, hds⟩ := List.forall_mem_cons.mp hds
  have d13 : v_iv (n_v vs 21) + 1 ≤ v_iv (n_v vs 23) ∧ v_iv (n_v vs 23) ≤ v_iv (n_v vs 21) + 1 := d13
  obtain ⟨d14, hds⟩ := List.forall_mem_cons.mp hds
  have d14 : v_iv (n_v vs 2) + 220 ≤ v_iv (n_v vs 23) ∧ v_iv (n_v vs 23) ≤ v_iv (n_v vs 2) + 66517 := d14
  obtain ⟨d15, hds⟩ := List.forall_mem_cons.mp hds
  have d15 : v_iv (n_v vs 20) + 1 ≤ v_iv (n_v vs 23) ∧ v_iv (n_v vs 23) ≤ v_iv (n_v vs 20) + 23 := d15
  obtain ⟨d16, hds⟩ := List.forall_mem_cons.mp hds
  have d16 : v_iv (n_v vs 6) + 220 ≤ v_iv (n_v vs 23) ∧ v_iv (n_v vs 23) ≤ v_iv (n_v vs 6) + 242 := d16
  obtain ⟨d17, hds⟩ := List.forall_mem_cons.mp hds
  have d17 : v_iv (n_v vs 2) + 219 ≤ v_iv (n_v vs 21) ∧ v_iv (n_v vs 21) ≤ v_iv (n_v vs 2) + 66516 := d17
  obtain ⟨d18, hds⟩ := List.forall_mem_cons.mp hds
  have d18 : v_iv (n_v vs 20) + 0 ≤ v_iv (n_v vs 21) ∧ v_iv (n_v vs 21) ≤ v_iv (n_v vs 20) + 22 := d18
  obtain ⟨d19, hds⟩ := List.forall_mem_cons.mp hds
  have d19 : v_iv (n_v vs 6) + 219 ≤ v_iv (n_v vs 21) ∧ v_iv (n_v vs 21) ≤ v_iv (n_v vs 6) + 241 := d19
  obtain ⟨d20, hds⟩ := List.forall_mem_cons.mp hds
  have d20 : v_iv (n_v vs 6) + 219 ≤ v_iv (n_v vs 20) ∧ v_iv (n_v vs 20) ≤ v_iv (n_v vs 6) + 219 := d20
  obtain ⟨d21, hds⟩ := List.forall_mem_cons.mp hds
  have d21 : v_iv (n_v vs 2) + 219 ≤ v_iv (n_v vs 18) ∧ v_iv (n_v vs 18) ≤ v_iv (n_v vs 2) + 66516 := d21
  obtain ⟨d22, hds⟩ := List.forall_mem_cons.mp hds
  have d22 : v_iv (n_v vs 17) + 0 ≤ v_iv (n_v vs 18) ∧ v_iv (n_v vs 18) ≤ v_iv (n_v vs 17) + 22 := d22
  obtain ⟨d23, hds⟩ := List.forall_mem_cons.mp hds
  have d23 : v_iv (n_v vs 6) + 219 ≤ v_iv (n_v vs 18) ∧ v_iv (n_v vs 18) ≤ v_iv (n_v vs 6) + 241 := d23
  obtain ⟨d24, hds⟩ := List.forall_mem_cons.mp hds
  have d24 : v_iv (n_v vs 6) + 219 ≤ v_iv (n_v vs 17) ∧ v_iv (n_v vs 17) ≤ v_iv (n_v vs 6) + 219 := d24
  obtain ⟨d25, hds⟩ := List.forall_mem_cons.mp hds
  have d25 : v_iv (n_v vs 12) + 1 ≤ v_iv (n_v vs 14) ∧ v_iv (n_v vs 14) ≤ v_iv (n_v vs 12) + 1 := d25
  obtain ⟨d26, hds⟩ := List.forall_mem_cons.mp hds
  have d26 : v_iv (n_v vs 2) + 196 ≤ v_iv (n_v vs 14) ∧ v_iv (n_v vs 14) ≤ v_iv (n_v vs 2) + 66493 := d26
  obtain ⟨d27, hds⟩ := List.forall_mem_cons.mp hds
  have d27 : v_iv (n_v vs 11) + 1 ≤ v_iv (n_v vs 14) ∧ v_iv (n_v vs 14) ≤ v_iv (n_v vs 11) + 23 := d27
  obtain ⟨d28, hds⟩ := List.forall_mem_cons.mp hds
  have d28 : v_iv (n_v vs 6) + 196 ≤ v_iv (n_v vs 14) ∧ v_iv (n_v vs 14) ≤ v_iv (n_v vs 6) + 218 := d28
  obtain ⟨d29, hds⟩ := List.forall_mem_cons.mp hds
  have d29 : v_iv (n_v vs 2) + 195 ≤ v_iv (n_v vs 12) ∧ v_iv (n_v vs 12) ≤ v_iv (n_v vs 2) + 66492 := d29
  obtain ⟨d30, hds⟩ := List.forall_mem_cons.mp hds
  have d30 : v_iv (n_v vs 11) + 0 ≤ v_iv (n_v vs 12) ∧ v_iv (n_v vs 12) ≤ v_iv (n_v vs 11) + 22 := d30
  obtain ⟨d31, hds⟩ := List.forall_mem_cons.mp hds
  have d31 : v_iv (n_v vs 6) + 195 ≤ v_iv (n_v vs 12) ∧ v_iv (n_v vs 12) ≤ v_iv (n_v vs 6) + 217 := d31
  obtain ⟨d32, hds⟩ := List.forall_mem_cons.mp hds
  have d32 : v_iv (n_v vs 6) + 195 ≤ v_iv (n_v vs 11) ∧ v_iv (n_v vs 11) ≤ v_iv (n_v vs 6) + 195 := d32
  obtain ⟨d33, hds⟩ := List.forall_mem_cons.mp hds
  have d33 : v_iv (n_v vs 2) + 195 ≤ v_iv (n_v vs 9) ∧ v_iv (n_v vs 9) ≤ v_iv (n_v vs 2) + 66492 := d33
  obtain ⟨d34, hds⟩ := List.forall_mem_cons.mp hds
  have d34 : v_iv (n_v vs 8) + 0 ≤ v_iv (n_v vs 9) ∧ v_iv (n_v vs 9) ≤ v_iv (n_v vs 8) + 22 := d34
  obtain ⟨d35, hds⟩ := List.forall_mem_cons.mp hds
  have d35 : v_iv (n_v vs 6) + 195 ≤ v_iv (n_v vs 9) ∧ v_iv (n_v vs 9) ≤ v_iv (n_v vs 6) + 217 := d35
  obtain ⟨d36, hds⟩ := List.forall_mem_cons.mp hds
  have d36 : v_iv (n_v vs 6) + 195 ≤ v_iv (n_v vs 8) ∧ v_iv (n_v vs 8) ≤ v_iv (n_v vs 6) + 195 := d36
  obtain ⟨d37, hds⟩ := List.forall_mem_cons.mp hds
  have d37 : v_iv (n_v vs 2) + (-4294967296) ≤ v_iv (n_v vs 1) ∧ v_iv (n_v vs 1) ≤ v_iv (n_v vs 2) + 0 := d37
  have hf : fc_ok [(6, [34, 2], [1]), (100, [5, 27, 33], []), (10, [33, 5, 32], []), (1, [32, 30, 31], []), (1, [30, 29, 2], []), (1, [29, 6, 28], []), (9, [6, 0], [5]), (9, [5, 0], [2]), (1, [27, 26, 2], []), (1, [26, 6, 25], []), (100, [5, 18, 24], []), (10, [24, 5, 23], []), (1, [23, 21, 22], []), (1, [21, 20, 2], []), (1, [20, 6, 19], []), (1, [18, 17, 2], []), (1, [17, 6, 16], []), (100, [5, 9, 15], []), (10, [15, 5, 14], []), (1, [14, 12, 13], []), (1, [12, 11, 2], []), (1, [11, 6, 10], []), (1, [9, 8, 2], []), (1, [8, 6, 7], []), (20, [1, 0], [30, -1, 1, 0, 0, -1, 3, 2005000])] ta ws vs := hf
  obtain ⟨f0, hf⟩ := fc_un (show (6 : Nat) < 100 from by decide) hf
  have f0 : v_iv (n_v vs 34) = v_iv (n_v vs 2) + 1 := f0
  obtain ⟨ta1, w1, le1, ⟨_, s1⟩, hf⟩ := fc_us (show ¬ (100 : Nat) < 100 from by decide) hf
  have s1 : (∀ b j, w_el ws b j = if b = v_ad (n_v vs 5) ∧ j = (v_iv (n_v vs 27)).toNat then v_iv (n_v vs 33) else w_el w1 b j) ∧ ∀ b k, w_fd ws b k = w_fd w1 b k := s1
  obtain ⟨f2, hf⟩ := fc_un (show (10 : Nat) < 100 from by decide) hf
  have f2 : v_iv (n_v vs 33) = w_el w1 (v_ad (n_v vs 5)) (v_iv (n_v vs 32)).toNat := f2
  obtain ⟨f3, hf⟩ := fc_un (show (1 : Nat) < 100 from by decide) hf
  have f3 : v_iv (n_v vs 32) = v_iv (n_v vs 30) + v_iv (n_v vs 31) := f3
  obtain ⟨f4, hf⟩ := fc_un (show (1 : Nat) < 100 from by decide) hf
  have f4 : v_iv (n_v vs 30) = v_iv (n_v vs 29) + v_iv (n_v vs 2) := f4
  obtain ⟨f5, hf⟩ := fc_un (show (1 : Nat) < 100 from by decide) hf
  have f5 : v_iv (n_v vs 29) = v_iv (n_v vs 6) + v_iv (n_v vs 28) := f5
  obtain ⟨f6, hf⟩ := fc_un (show (9 : Nat) < 100 from by decide) hf
  have f6 : n_v vs 6 = w_fd w1 (v_ad (n_v vs 0)) 5 := f6
  obtain ⟨f7, hf⟩ := fc_un (show (9 : Nat) < 100 from by decide) hf
  have f7 : n_v vs 5 = w_fd w1 (v_ad (n_v vs 0)) 2 := f7
  obtain ⟨f8, hf⟩ := fc_un (show (1 : Nat) < 100 from by decide) hf
  have f8 : v_iv (n_v vs 27) = v_iv (n_v vs 26) + v_iv (n_v vs 2) := f8
  obtain ⟨f9, hf⟩ := fc_un (show (1 : Nat) < 100 from by decide) hf
  have f9 : v_iv (n_v vs 26) = v_iv (n_v vs 6) + v_iv (n_v vs 25) := f9
  obtain ⟨ta2, w2, le2, ⟨_, s2⟩, hf⟩ := fc_us (show ¬ (100 : Nat) < 100 from by decide) hf
  have s2 : (∀ b j, w_el w1 b j = if b = v_ad (n_v vs 5) ∧ j = (v_iv (n_v vs 18)).toNat then v_iv (n_v vs 24) else w_el w2 b j) ∧ ∀ b k, w_fd w1 b k = w_fd w2 b k := s2
  obtain ⟨f11, hf⟩ := fc_un (show (10 : Nat) < 100 from by decide) hf
  have f11 : v_iv (n_v vs 24) = w_el w2 (v_ad (n_v vs 5)) (v_iv (n_v vs 23)).toNat := f11
  obtain ⟨f12, hf⟩ := fc_un (show (1 : Nat) < 100 from by decide) hf
  have f12 : v_iv (n_v vs 23) = v_iv (n_v vs 21) + v_iv (n_v vs 22) := f12
  obtain ⟨f13, hf⟩ := fc_un (show (1 : Nat) < 100 from by decide) hf
  have f13 : v_iv (n_v vs 21) = v_iv (n_v vs 20) + v_iv (n_v vs 2) := f13
  obtain ⟨f14, hf⟩ := fc_un (show (1 : Nat) < 100 from by decide) hf
  have f14 : v_iv (n_v vs 20) = v_iv (n_v vs 6) + v_iv (n_v vs 19) := f14
  obtain ⟨f15, hf⟩ := fc_un (show (1 : Nat) < 100 from by decide) hf
  have f15 : v_iv (n_v vs 18) = v_iv (n_v vs 17) + v_iv (n_v vs 2) := f15
  obtain ⟨f16, hf⟩ := fc_un (show (1 : Nat) < 100 from by decide) hf
  have f16 : v_iv (n_v vs 17) = v_iv (n_v vs 6) + v_iv (n_v vs 16) := f16
  obtain ⟨ta3, w3, le3, ⟨_, s3⟩, hf⟩ := fc_us (show ¬ (100 : Nat) < 100 from by decide) hf
  have s3 : (∀ b j, w_el w2 b j = if b = v_ad (n_v vs 5) ∧ j = (v_iv (n_v vs 9)).toNat then v_iv (n_v vs 15) else w_el w3 b j) ∧ ∀ b k, w_fd w2 b k = w_fd w3 b k := s3
  obtain ⟨f18, hf⟩ := fc_un (show (10 : Nat) < 100 from by decide) hf
  have f18 : v_iv (n_v vs 15) = w_el w3 (v_ad (n_v vs 5)) (v_iv (n_v vs 14)).toNat := f18
  obtain ⟨f19, hf⟩ := fc_un (show (1 : Nat) < 100 from by decide) hf
  have f19 : v_iv (n_v vs 14) = v_iv (n_v vs 12) + v_iv (n_v vs 13) := f19
  obtain ⟨f20, hf⟩ := fc_un (show (1 : Nat) < 100 from by decide) hf
  have f20 : v_iv (n_v vs 12) = v_iv (n_v vs 11) + v_iv (n_v vs 2) := f20
  obtain ⟨f21, hf⟩ := fc_un (show (1 : Nat) < 100 from by decide) hf
  have f21 : v_iv (n_v vs 11) = v_iv (n_v vs 6) + v_iv (n_v vs 10) := f21
  obtain ⟨f22, hf⟩ := fc_un (show (1 : Nat) < 100 from by decide) hf
  have f22 : v_iv (n_v vs 9) = v_iv (n_v vs 8) + v_iv (n_v vs 2) := f22
  obtain ⟨f23, hf⟩ := fc_un (show (1 : Nat) < 100 from by decide) hf
  have f23 : v_iv (n_v vs 8) = v_iv (n_v vs 6) + v_iv (n_v vs 7) := f23
  obtain ⟨f24, hf⟩ := fc_un (show (20 : Nat) < 100 from by decide) hf
  have f24 : 1 * v_iv (n_v vs 1) + ((-1) * w_el w3 (w_ar w3 (n_v vs 0) 2) (w_fi w3 (n_v vs 0) 5 + 0).toNat + 0) ≤ (-1) := f24
  have ar_0_2_1 : w_ar w1 (n_v vs 0) 2 = w_ar ws (n_v vs 0) 2 := by show v_ad (w_fd w1 _ _) = v_ad (w_fd ws _ _); rw [s1.2]
  have ar_0_2_2 : w_ar w2 (n_v vs 0) 2 = w_ar ws (n_v vs 0) 2 := by rw [← ar_0_2_1]; show v_ad (w_fd w2 _ _) = v_ad (w_fd w1 _ _); rw [s2.2]
  have ar_0_2_3 : w_ar w3 (n_v vs 0) 2 = w_ar ws (n_v vs 0) 2 := by rw [← ar_0_2_2]; show v_ad (w_fd w3 _ _) = v_ad (w_fd w2 _ _); rw [s3.2]
  have cr_0_2 : ta (w_ar ws (n_v vs 0) 2) = some 152 := tv_rg (th_fd hD hth r0 (g := GG_150) rfl (k := 2) (t := (2, 0, 0, [152])) rfl rfl)
  have fi_0_5_1 : w_fi w1 (n_v vs 0) 5 = w_fi ws (n_v vs 0) 5 := by show v_iv (w_fd w1 _ _) = v_iv (w_fd ws _ _); rw [s1.2]
  have fi_0_5_2 : w_fi w2 (n_v vs 0) 5 = w_fi ws (n_v vs 0) 5 := by rw [← fi_0_5_1]; show v_iv (w_fd w2 _ _) = v_iv (w_fd w1 _ _); rw [s2.2]
  have fi_0_5_3 : w_fi w3 (n_v vs 0) 5 = w_fi ws (n_v vs 0) 5 := by rw [← fi_0_5_2]; show v_iv (w_fd w3 _ _) = v_iv (w_fd w2 _ _); rw [s3.2]
  have ad_5 : v_ad (n_v vs 5) = w_ar ws (n_v vs 0) 2 := (congrArg v_ad f7).trans ar_0_2_1
  rw [ad_5] at f2
  have g6 : v_iv (n_v vs 6) = w_fi w1 (n_v vs 0) 5 := congrArg v_iv f6
  rw [ad_5] at f11
  rw [ad_5] at f18
  rw [ar_0_2_3] at f24
  rw [fi_0_5_3] at f24
  have cg2_F5_0 : v_iv (n_v vs 32) = w_fi ws (n_v vs 0) 5 + 0 → w_el w1 (w_ar ws (n_v vs 0) 2) (v_iv (n_v vs 32)).toNat = w_el w1 (w_ar ws (n_v vs 0) 2) (w_fi ws (n_v vs 0) 5 + 0).toNat := fun h => by rw [h]
  have cg11_F5_0 : v_iv (n_v vs 23) = w_fi ws (n_v vs 0) 5 + 0 → w_el w2 (w_ar ws (n_v vs 0) 2) (v_iv (n_v vs 23)).toNat = w_el w2 (w_ar ws (n_v vs 0) 2) (w_fi ws (n_v vs 0) 5 + 0).toNat := fun h => by rw [h]
  have cg18_F5_0 : v_iv (n_v vs 14) = w_fi ws (n_v vs 0) 5 + 0 → w_el w3 (w_ar ws (n_v vs 0) 2) (v_iv (n_v vs 14)).toNat = w_el w3 (w_ar ws (n_v vs 0) 2) (w_fi ws (n_v vs 0) 5 + 0).toNat := fun h => by rw [h]
  have fe_0_5_1 : w_fi ws (n_v vs 0) 5 = w_fi w1 (n_v vs 0) 5 := congrArg v_iv (s1.2 _ _)
  first | (have ee_0_2_F5_0_1 : w_el ws (w_ar ws (n_v vs 0) 2) (w_fi ws (n_v vs 0) 5 + 0).toNat = w_el w1 (w_ar ws (n_v vs 0) 2) (w_fi ws (n_v vs 0) 5 + 0).toNat := by rw [s1.1, if_neg (fun e => absurd e.2 (by omega))]) | have ee_0_2_F5_0_1 : ((w_fi ws (n_v vs 0) 5 + 0).toNat = (v_iv (n_v vs 27)).toNat → w_el ws (w_ar ws (n_v vs 0) 2) (w_fi ws (n_v vs 0) 5 + 0).toNat = v_iv (n_v vs 33)) ∧ ((w_fi ws (n_v vs 0) 5 + 0).toNat ≠ (v_iv (n_v vs 27)).toNat → w_el ws (w_ar ws (n_v vs 0) 2) (w_fi ws (n_v vs 0) 5 + 0).toNat = w_el w1 (w_ar ws (n_v vs 0) 2) (w_fi ws (n_v vs 0) 5 + 0).toNat) := ⟨fun h => by rw [s1.1, if_pos ⟨ad_5.symm, h⟩], fun h => by rw [s1.1, if_neg (fun e => h e.2)]⟩
  have ee_0_2_14_1 : ((v_iv (n_v vs 14)).toNat = (v_iv (n_v vs 27)).toNat → w_el ws (w_ar ws (n_v vs 0) 2) (v_iv (n_v vs 14)).toNat = v_iv (n_v vs 33)) ∧ ((v_iv (n_v vs 14)).toNat ≠ (v_iv (n_v vs 27)).toNat → w_el ws (w_ar ws (n_v vs 0) 2) (v_iv (n_v vs 14)).toNat = w_el w1 (w_ar ws (n_v vs 0) 2) (v_iv (n_v vs 14)).toNat) := ⟨fun h => by rw [s1.1, if_pos ⟨ad_5.symm, h⟩], fun h => by rw [s1.1, if_neg (fun e => h e.2)]⟩
  have ee_0_2_23_1 : ((v_iv (n_v vs 23)).toNat = (v_iv (n_v vs 27)).toNat → w_el ws (w_ar ws (n_v vs 0) 2) (v_iv (n_v vs 23)).toNat = v_iv (n_v vs 33)) ∧ ((v_iv (n_v vs 23)).toNat ≠ (v_iv (n_v vs 27)).toNat → w_el ws (w_ar ws (n_v vs 0) 2) (v_iv (n_v vs 23)).toNat = w_el w1 (w_ar ws (n_v vs 0) 2) (v_iv (n_v vs 23)).toNat) := ⟨fun h => by rw [s1.1, if_pos ⟨ad_5.symm, h⟩], fun h => by rw [s1.1, if_neg (fun e => h e.2)]⟩
  have ee_0_2_32_1 : ((v_iv (n_v vs 32)).toNat = (v_iv (n_v vs 27)).toNat → w_el ws (w_ar ws (n_v vs 0) 2) (v_iv (n_v vs 32)).toNat = v_iv (n_v vs 33)) ∧ ((v_iv (n_v vs 32)).toNat ≠ (v_iv (n_v vs 27)).toNat → w_el ws (w_ar ws (n_v vs 0) 2) (v_iv (n_v vs 32)).toNat = w_el w1 (w_ar ws (n_v vs 0) 2) (v_iv (n_v vs 32)).toNat) := ⟨fun h => by rw [s1.1, if_pos ⟨ad_5.symm, h⟩], fun h => by rw [s1.1, if_neg (fun e => h e.2)]⟩
  have fe_0_5_2 : w_fi w1 (n_v vs 0) 5 = w_fi w2 (n_v vs 0) 5 := congrArg v_iv (s2.2 _ _)
  first | (have ee_0_2_F5_0_2 : w_el w1 (w_ar ws (n_v vs 0) 2) (w_fi ws (n_v vs 0) 5 + 0).toNat = w_el w2 (w_ar ws (n_v vs 0) 2) (w_fi ws (n_v vs 0) 5 + 0).toNat := by rw [s2.1, if_neg (fun e => absurd e.2 (by omega))]) | have ee_0_2_F5_0_2 : ((w_fi ws (n_v vs 0) 5 + 0).toNat = (v_iv (n_v vs 18)).toNat → w_el w1 (w_ar ws (n_v vs 0) 2) (w_fi ws (n_v vs 0) 5 + 0).toNat = v_iv (n_v vs 24)) ∧ ((w_fi ws (n_v vs 0) 5 + 0).toNat ≠ (v_iv (n_v vs 18)).toNat → w_el w1 (w_ar ws (n_v vs 0) 2) (w_fi ws (n_v vs 0) 5 + 0).toNat = w_el w2 (w_ar ws (n_v vs 0) 2) (w_fi ws (n_v vs 0) 5 + 0).toNat) := ⟨fun h => by rw [s2.1, if_pos ⟨ad_5.symm, h⟩], fun h => by rw [s2.1, if_neg (fun e => h e.2)]⟩
  have ee_0_2_14_2 : ((v_iv (n_v vs 14)).toNat = (v_iv (n_v vs 18)).toNat → w_el w1 (w_ar ws (n_v vs 0) 2) (v_iv (n_v vs 14)).toNat = v_iv (n_v vs 24)) ∧ ((v_iv (n_v vs 14)).toNat ≠ (v_iv (n_v vs 18)).toNat → w_el w1 (w_ar ws (n_v vs 0) 2) (v_iv (n_v vs 14)).toNat = w_el w2 (w_ar ws (n_v vs 0) 2) (v_iv (n_v vs 14)).toNat) := ⟨fun h => by rw [s2.1, if_pos ⟨ad_5.symm, h⟩], fun h => by rw [s2.1, if_neg (fun e => h e.2)]⟩
  have ee_0_2_23_2 : ((v_iv (n_v vs 23)).toNat = (v_iv (n_v vs 18)).toNat → w_el w1 (w_ar ws (n_v vs 0) 2) (v_iv (n_v vs 23)).toNat = v_iv (n_v vs 24)) ∧ ((v_iv (n_v vs 23)).toNat ≠ (v_iv (n_v vs 18)).toNat → w_el w1 (w_ar ws (n_v vs 0) 2) (v_iv (n_v vs 23)).toNat = w_el w2 (w_ar ws (n_v vs 0) 2) (v_iv (n_v vs 23)).toNat) := ⟨fun h => by rw [s2.1, if_pos ⟨ad_5.symm, h⟩], fun h => by rw [s2.1, if_neg (fun e => h e.2)]⟩
  have ee_0_2_32_2 : ((v_iv (n_v vs 32)).toNat = (v_iv (n_v vs 18)).toNat → w_el w1 (w_ar ws (n_v vs 0) 2) (v_iv (n_v vs 32)).toNat = v_iv (n_v vs 24)) ∧ ((v_iv (n_v vs 32)).toNat ≠ (v_iv (n_v vs 18)).toNat → w_el w1 (w_ar ws (n_v vs 0) 2) (v_iv (n_v vs 32)).toNat = w_el w2 (w_ar ws (n_v vs 0) 2) (v_iv (n_v vs 32)).toNat) := ⟨fun h => by rw [s2.1, if_pos ⟨ad_5.symm, h⟩], fun h => by rw [s2.1, if_neg (fun e => h e.2)]⟩
  have fe_0_5_3 : w_fi w2 (n_v vs 0) 5 = w_fi w3 (n_v vs 0) 5 := congrArg v_iv (s3.2 _ _)
  first | (have ee_0_2_F5_0_3 : w_el w2 (w_ar ws (n_v vs 0) 2) (w_fi ws (n_v vs 0) 5 + 0).toNat = w_el w3 (w_ar ws (n_v vs 0) 2) (w_fi ws (n_v vs 0) 5 + 0).toNat := by rw [s3.1, if_neg (fun e => absurd e.2 (by omega))]) | have ee_0_2_F5_0_3 : ((w_fi ws (n_v vs 0) 5 + 0).toNat = (v_iv (n_v vs 9)).toNat → w_el w2 (w_ar ws (n_v vs 0) 2) (w_fi ws (n_v vs 0) 5 + 0).toNat = v_iv (n_v vs 15)) ∧ ((w_fi ws (n_v vs 0) 5 + 0).toNat ≠ (v_iv (n_v vs 9)).toNat → w_el w2 (w_ar ws (n_v vs 0) 2) (w_fi ws (n_v vs 0) 5 + 0).toNat = w_el w3 (w_ar ws (n_v vs 0) 2) (w_fi ws (n_v vs 0) 5 + 0).toNat) := ⟨fun h => by rw [s3.1, if_pos ⟨ad_5.symm, h⟩], fun h => by rw [s3.1, if_neg (fun e => h e.2)]⟩
  have ee_0_2_14_3 : ((v_iv (n_v vs 14)).toNat = (v_iv (n_v vs 9)).toNat → w_el w2 (w_ar ws (n_v vs 0) 2) (v_iv (n_v vs 14)).toNat = v_iv (n_v vs 15)) ∧ ((v_iv (n_v vs 14)).toNat ≠ (v_iv (n_v vs 9)).toNat → w_el w2 (w_ar ws (n_v vs 0) 2) (v_iv (n_v vs 14)).toNat = w_el w3 (w_ar ws (n_v vs 0) 2) (v_iv (n_v vs 14)).toNat) := ⟨fun h => by rw [s3.1, if_pos ⟨ad_5.symm, h⟩], fun h => by rw [s3.1, if_neg (fun e => h e.2)]⟩
  have ee_0_2_23_3 : ((v_iv (n_v vs 23)).toNat = (v_iv (n_v vs 9)).toNat → w_el w2 (w_ar ws (n_v vs 0) 2) (v_iv (n_v vs 23)).toNat = v_iv (n_v vs 15)) ∧ ((v_iv (n_v vs 23)).toNat ≠ (v_iv (n_v vs 9)).toNat → w_el w2 (w_ar ws (n_v vs 0) 2) (v_iv (n_v vs 23)).toNat = w_el w3 (w_ar ws (n_v vs 0) 2) (v_iv (n_v vs 23)).toNat) := ⟨fun h => by rw [s3.1, if_pos ⟨ad_5.symm, h⟩], fun h => by rw [s3.1, if_neg (fun e => h e.2)]⟩
  have ee_0_2_32_3 : ((v_iv (n_v vs 32)).toNat = (v_iv (n_v vs 9)).toNat → w_el w2 (w_ar ws (n_v vs 0) 2) (v_iv (n_v vs 32)).toNat = v_iv (n_v vs 15)) ∧ ((v_iv (n_v vs 32)).toNat ≠ (v_iv (n_v vs 9)).toNat → w_el w2 (w_ar ws (n_v vs 0) 2) (v_iv (n_v vs 32)).toNat = w_el w3 (w_ar ws (n_v vs 0) 2) (v_iv (n_v vs 32)).toNat) := ⟨fun h => by rw [s3.1, if_pos ⟨ad_5.symm, h⟩], fun h => by rw [s3.1, if_neg (fun e => h e.2)]⟩
  have nf0 : fc_1 (20, [1, 0], [30, -1, 1, 0, 0, -1, 3, 2005000]) ws (vs) := by
    refine ⟨fun n hn => ?_, ?_⟩
    · have hn : n ∈ [1, 0] := hn
      rw [hl]
      simp only [List.mem_cons, List.not_mem_nil, or_false] at hn
      show n < 35; omega
    · show 1 * v_iv (n_v vs 1) + ((-1) * w_el ws (w_ar ws (n_v vs 0) 2) (w_fi ws (n_v vs 0) 5 + 0).toNat + 0) ≤ (-1)
      omega
  refine ⟨(fun _ h => (by cases h)), [], trivial, ?_, (fun _ h => (by cases h))⟩
  rw [List.append_nil]
  exact List.forall_mem_cons.mpr ⟨⟨show (20 : Nat) < 100 from by decide, nf0⟩, (fun _ h => (by cases h))⟩
def o_Mo_dropNode_12 : or_T := (117, 23, [(0, (2, 0, 0, [150])), (1, (0, 0, 23, [])), (2, (0, 0, 22, [])), (3, (0, 0, 7, [])), (4, (0, 8, 8, [])), (5, (2, 0, 0, [152])), (6, (0, 0, 66297, [])), (7, (0, 3, 3, [])), (8, (0, 3, 66300, [])), (9, (0, 8, 8, [])), (10, (0, 0, 176, [])), (11, (0, 3, 66476, [])), (12, (0, 3, 66483, [])), (13, (0, 3, 3, [])), (14, (0, 3, 66300, [])), (15, (0, 8, 8, [])), (16, (0, 0, 176, [])), (17, (0, 3, 66476, [])), (18, (0, 8, 8, [])), (19, (0, 11, 66484, [])), (20, (0, 11, 66491, [])), (21, (0, -1, 255, [])), (22, (0, 1, 8, []))], [(6, [22, 3], [1]), (100, [5, 12, 21], []), (10, [21, 5, 20], []), (1, [20, 19, 3], []), (1, [19, 17, 18], []), (1, [17, 14, 16], []), (3, [16, 15, 2], []), (1, [14, 6, 13], []), (9, [6, 0], [5]), (9, [5, 0], [2]), (1, [12, 11, 3], []), (1, [11, 8, 10], []), (3, [10, 9, 2], []), (1, [8, 6, 7], []), (7, [3, 4], [2]), (20, [1, 0], [30, -1, 1, 0, 0, -1, 3, 2005000])], [], [], [(20, [1, 0], [30, -1, 1, 0, 0, -1, 3, 2005000])], [], [(22, 3, 1, 1), (20, 3, 11, 66484), (20, 19, 0, 7), (20, 17, 8, 15), (20, 16, 11, 66315), (20, 14, 8, 191), (20, 6, 11, 194), (19, 17, 8, 8), (19, 16, 11, 66308), (19, 14, 8, 184), (19, 6, 11, 187), (17, 16, 3, 66300), (17, 14, 0, 176), (17, 6, 3, 179), (14, 6, 3, 3), (12, 3, 3, 66476), (12, 11, 0, 7), (12, 10, 3, 66307), (12, 8, 0, 183), (12, 6, 3, 186), (11, 10, 3, 66300), (11, 8, 0, 176), (11, 6, 3, 179), (8, 6, 3, 3), (1, 2, -4294967296, 0), (1, 3, -4294967296, 22), (2, 3, -4294967296, 22)])
theorem oo_Mo_dropNode_12 {kA : Nat → ClassId} : or_ok kA GG o_Mo_dropNode_12 := by
  intro A ta ws vs hD hth hl hk hds hf
  have hl : vs.length = 23 := hl
  have hk : ∀ q ∈ ([(0, (2, 0, 0, [150])), (1, (0, 0, 23, [])), (2, (0, 0, 22, [])), (3, (0, 0, 7, [])), (4, (0, 8, 8, [])), (5, (2, 0, 0, [152])), (6, (0, 0, 66297, [])), (7, (0, 3, 3, [])), (8, (0, 3, 66300, [])), (9, (0, 8, 8, [])), (10, (0, 0, 176, [])), (11, (0, 3, 66476, [])), (12, (0, 3, 66483, [])), (13, (0, 3, 3, [])), (14, (0, 3, 66300, [])), (15, (0, 8, 8, [])), (16, (0, 0, 176, [])), (17, (0, 3, 66476, [])), (18, (0, 8, 8, [])), (19, (0, 11, 66484, [])), (20, (0, 11, 66491, [])), (21, (0, -1, 255, [])), (22, (0, 1, 8, []))] : List (Nat × tv_T)), tv_ok ta q.2 (n_v vs q.1) := hk
  obtain ⟨t0, hk⟩ := List.forall_mem_cons.mp hk
  have t0 : tv_ok ta (2, 0, 0, [150]) (n_v vs 0) := t0
  have r0 : ta (v_ad (n_v vs 0)) = some 150 := tv_rg t0
  obtain ⟨t1, hk⟩ := List.forall_mem_cons.mp hk
  have t1 : tv_ok ta (0, 0, 23, []) (n_v vs 1) := t1
  have k1 : 0 ≤ v_iv (n_v vs 1) ∧ v_iv (n_v vs 1) ≤ 23 := tv_rng t1
  obtain ⟨t2, hk⟩ := List.forall_mem_cons.mp hk
  have t2 : tv_ok ta (0, 0, 22, []) (n_v vs 2) := t2
  have k2 : 0 ≤ v_iv (n_v vs 2) ∧ v_iv (n_v vs 2) ≤ 22 := tv_rng t2
  obtain ⟨t3, hk⟩ := List.forall_mem_cons.mp hk
  have t3 : tv_ok ta (0, 0, 7, []) (n_v vs 3) := t3
  have k3 : 0 ≤ v_iv (n_v vs 3) ∧ v_iv (n_v vs 3) ≤ 7 := tv_rng t3
  obtain ⟨t4, hk⟩ := List.forall_mem_cons.mp hk
  have t4 : tv_ok ta (0, 8, 8, []) (n_v vs 4) := t4
  have k4 : 8 ≤ v_iv (n_v vs 4) ∧ v_iv (n_v vs 4) ≤ 8 := tv_rng t4
  obtain ⟨t5, hk⟩ := List.forall_mem_cons.mp hk
  have t5 : tv_ok ta (2, 0, 0, [152]) (n_v vs 5) := t5
  have r5 : ta (v_ad (n_v vs 5)) = some 152 := tv_rg t5
  obtain ⟨t6, hk⟩ := List.forall_mem_cons.mp hk
  have t6 : tv_ok ta (0, 0, 66297, []) (n_v vs 6) := t6
  have k6 : 0 ≤ v_iv (n_v vs 6) ∧ v_iv (n_v vs 6) ≤ 66297 := tv_rng t6
  obtain ⟨t7, hk⟩ := List.forall_mem_cons.mp hk
  have t7 : tv_ok ta (0, 3, 3, []) (n_v vs 7) := t7
  have k7 : 3 ≤ v_iv (n_v vs 7) ∧ v_iv (n_v vs 7) ≤ 3 := tv_rng t7
  obtain ⟨t8, hk⟩ := List.forall_mem_cons.mp hk
  have t8 : tv_ok ta (0, 3, 66300, []) (n_v vs 8) := t8
  have k8 : 3 ≤ v_iv (n_v vs 8) ∧ v_iv (n_v vs 8) ≤ 66300 := tv_rng t8
  obtain ⟨t9, hk⟩ := List.forall_mem_cons.mp hk
  have t9 : tv_ok ta (0, 8, 8, []) (n_v vs 9) := t9
  have k9 : 8 ≤ v_iv (n_v vs 9) ∧ v_iv (n_v vs 9) ≤ 8 := tv_rng t9
  obtain ⟨t10, hk⟩ := List.forall_mem_cons.mp hk
  have t10 : tv_ok ta (0, 0, 176, []) (n_v vs 10) := t10
  have k10 : 0 ≤ v_iv (n_v vs 10) ∧ v_iv (n_v vs 10) ≤ 176 := tv_rng t10
  obtain ⟨t11, hk⟩ := List.forall_mem_cons.mp hk
  have t11 : tv_ok ta (0, 3, 66476, []) (n_v vs 11) := t11
  have k11 : 3 ≤ v_iv (n_v vs 11) ∧ v_iv (n_v vs 11) ≤ 66476 := tv_rng t11
  obtain ⟨t12, hk⟩ := List.forall_mem_cons.mp hk
  have t12 : tv_ok ta (0, 3, 66483, []) (n_v vs 12) := t12
  have k12 : 3 ≤ v_iv (n_v vs 12) ∧ v_iv (n_v vs 12) ≤ 66483 := tv_rng t12
  obtain ⟨t13, hk⟩ := List.forall_mem_cons.mp hk
  have t13 : tv_ok ta (0, 3, 3, []) (n_v vs 13) := t13
  have k13 : 3 ≤ v_iv (n_v vs 13) ∧ v_iv (n_v vs 13) ≤ 3 := tv_rng t13
  obtain ⟨t14, hk⟩ := List.forall_mem_cons.mp hk
  have t14 : tv_ok ta (0, 3, 66300, []) (n_v vs 14) := t14
  have k14 : 3 ≤ v_iv (n_v vs 14) ∧ v_iv (n_v vs 14) ≤ 66300 := tv_rng t14
  obtain ⟨t15, hk⟩ := List.forall_mem_cons.mp hk
  have t15 : tv_ok ta (0, 8, 8, []) (n_v vs 15) := t15
  have k15 : 8 ≤ v_iv (n_v vs 15) ∧ v_iv (n_v vs 15) ≤ 8 := tv_rng t15
  obtain ⟨t16, hk⟩ := List.forall_mem_cons.mp hk
  have t16 : tv_ok ta (0, 0, 176, []) (n_v vs 16) := t16
  have k16 : 0 ≤ v_iv (n_v vs 16) ∧ v_iv (n_v vs 16) ≤ 176 := tv_rng t16
  obtain ⟨t17, hk⟩ := List.forall_mem_cons.mp hk
  have t17 : tv_ok ta (0, 3, 66476, []) (n_v vs 17) := t17
  have k17 : 3 ≤ v_iv (n_v vs 17) ∧ v_iv (n_v vs 17) ≤ 66476 := tv_rng t17
  obtain ⟨t18, hk⟩ := List.forall_mem_cons.mp hk
  have t18 : tv_ok ta (0, 8, 8, []) (n_v vs 18) := t18
  have k18 : 8 ≤ v_iv (n_v vs 18) ∧ v_iv (n_v vs 18) ≤ 8 := tv_rng t18
  obtain ⟨t19, hk⟩ := List.forall_mem_cons.mp hk
  have t19 : tv_ok ta (0, 11, 66484, []) (n_v vs 19) := t19
  have k19 : 11 ≤ v_iv (n_v vs 19) ∧ v_iv (n_v vs 19) ≤ 66484 := tv_rng t19
  obtain ⟨t20, hk⟩ := List.forall_mem_cons.mp hk
  have t20 : tv_ok ta (0, 11, 66491, []) (n_v vs 20) := t20
  have k20 : 11 ≤ v_iv (n_v vs 20) ∧ v_iv (n_v vs 20) ≤ 66491 := tv_rng t20
  obtain ⟨t21, hk⟩ := List.forall_mem_cons.mp hk
  have t21 : tv_ok ta (0, -1, 255, []) (n_v vs 21) := t21
  have k21 : (-1) ≤ v_iv (n_v vs 21) ∧ v_iv (n_v vs 21) ≤ 255 := tv_rng t21
  obtain ⟨t22, hk⟩ := List.forall_mem_cons.mp hk
  have t22 : tv_ok ta (0, 1, 8, []) (n_v vs 22) := t22
  have k22 : 1 ≤ v_iv (n_v vs 22) ∧ v_iv (n_v vs 22) ≤ 8 := tv_rng t22
  have hds : ∀ q ∈ ([(22, 3, 1, 1), (20, 3, 11, 66484), (20, 19, 0, 7), (20, 17, 8, 15), (20, 16, 11, 66315), (20, 14, 8, 191), (20, 6, 11, 194), (19, 17, 8, 8), (19, 16, 11, 66308), (19, 14, 8, 184), (19, 6, 11, 187), (17, 16, 3, 66300), (17, 14, 0, 176), (17, 6, 3, 179), (14, 6, 3, 3), (12, 3, 3, 66476), (12, 11, 0, 7), (12, 10, 3, 66307), (12, 8, 0, 183), (12, 6, 3, 186), (11, 10, 3, 66300), (11, 8, 0, 176), (11, 6, 3, 179), (8, 6, 3, 3), (1, 2, -4294967296, 0), (1, 3, -4294967296, 22), (2, 3, -4294967296, 22)] : List of_T), n_iv vs q.2.1 + q.2.2.1 ≤ n_iv vs q.1 ∧ n_iv vs q.1 ≤ n_iv vs q.2.1 + q.2.2.2 := hds
  obtain ⟨d0, hds⟩ := List.forall_mem_cons.mp hds
  have d0 : v_iv (n_v vs 3) + 1 ≤ v_iv (n_v vs 22) ∧ v_iv (n_v vs 22) ≤ v_iv (n_v vs 3) + 1 := d0
  obtain ⟨d1, hds⟩ := List.forall_mem_cons.mp hds
  have d1 : v_iv (n_v vs 3) + 11 ≤ v_iv (n_v vs 20) ∧ v_iv (n_v vs 20) ≤ v_iv (n_v vs 3) + 66484 := d1
  obtain ⟨d2, hds⟩ := List.forall_mem_cons.mp hds
  have d2 : v_iv (n_v vs 19) + 0 ≤ v_iv (n_v vs 20) ∧ v_iv (n_v vs 20) ≤ v_iv (n_v vs 19) + 7 := d2
  obtain ⟨d3, hds⟩ := List.forall_mem_cons.mp hds
  have d3 : v_iv (n_v vs 17) + 8 ≤ v_iv (n_v vs 20) ∧ v_iv (n_v vs 20) ≤ v_iv (n_v vs 17) + 15 := d3
  obtain ⟨d4, hds⟩ := List.forall_mem_cons.mp hds
  have d4 : v_iv (n_v vs 16) + 11 ≤ v_iv (n_v vs 20) ∧ v_iv (n_v vs 20) ≤ v_iv (n_v vs 16) + 66315 := d4
  obtain ⟨d5, hds⟩ := List.forall_mem_cons.mp hds
  have d5 : v_iv (n_v vs 14) + 8 ≤ v_iv (n_v vs 20) ∧ v_iv (n_v vs 20) ≤ v_iv (n_v vs 14) + 191 := d5
  obtain ⟨d6, hds⟩ := List.forall_mem_cons.mp hds
  have d6 : v_iv (n_v vs 6) + 11 ≤ v_iv (n_v vs 20) ∧ v_iv (n_v vs 20) ≤ v_iv (n_v vs 6) + 194 := d6
  obtain ⟨d7, hds⟩ := List.forall_mem_cons.mp hds
  have d7 : v_iv (n_v vs 17) + 8 ≤ v_iv (n_v vs 19) ∧ v_iv (n_v vs 19) ≤ v_iv (n_v vs 17) + 8 := d7
  obtain ⟨d8, hds⟩ := List.forall_mem_cons.mp hds
  have d8 : v_iv (n_v vs 16) + 11 ≤ v_iv (n_v vs 19) ∧ v_iv (n_v vs 19) ≤ v_iv (n_v vs 16) + 66308 := d8
  obtain ⟨d9, hds⟩ := List.forall_mem_cons.mp hds
  have d9 : v_iv (n_v vs 14) + 8 ≤ v_iv (n_v vs 19) ∧ v_iv (n_v vs 19) ≤ v_iv (n_v vs 14) + 184 := d9
  obtain ⟨d10, hds⟩ := List.forall_mem_cons.mp hds
  have d10 : v_iv (n_v vs 6) + 11 ≤ v_iv (n_v vs 19) ∧ v_iv (n_v vs 19) ≤ v_iv (n_v vs 6) + 187 := d10
  obtain ⟨d11, hds⟩ := List.forall_mem_cons.mp hds
  have d11 : v_iv (n_v vs 16) + 3 ≤ v_iv (n_v vs 17) ∧ v_iv (n_v vs 17) ≤ v_iv (n_v vs 16) + 66300 := d11
  obtain ⟨d12, hds⟩ := List.forall_mem_cons.mp hds
  have d12 : v_iv (n_v vs 14) + 0 ≤ v_iv (n_v vs 17) ∧ v_iv (n_v vs 17) ≤ v_iv (n_v vs 14) + 176 := d12
  obtain ⟨d13, hds⟩ := List.forall_mem_cons.mp hds
  have d13 : v_iv (n_v vs 6) + 3 ≤ v_iv (n_v vs 17) ∧ v_iv (n_v vs 17) ≤ v_iv (n_v vs 6) + 179 := d13
  obtain ⟨d14, hds⟩ := List.forall_mem_cons.mp hds
  have d14 : v_iv (n_v vs 6) + 3 ≤ v_iv (n_v vs 14) ∧ v_iv (n_v vs 14) ≤ v_iv (n_v vs 6) + 3 := d14
  obtain ⟨d15, hds⟩ := List.forall_mem_cons.mp hds
  have d15 : v_iv (n_v vs 3) + 3 ≤ v_iv (n_v vs 12) ∧ v_iv (n_v vs 12) ≤ v_iv (n_v vs 3) + 66476 := d15
  obtain ⟨d16, hds⟩ := List.forall_mem_cons.mp hds
  have d16 : v_iv (n_v vs 11) + 0 ≤ v_iv (n_v vs 12) ∧ v_iv (n_v vs 12) ≤ v_iv (n_v vs 11) + 7 := d16
  obtain ⟨d17, hds⟩ := List.forall_mem_cons.mp hds
  have d17 : v_iv (n_v vs 10) + 3 ≤ v_iv (n_v vs 12) ∧ v_iv (n_v vs 12) ≤ v_iv (n_v vs 10) + 66307 := d17
  obtain ⟨d18, hds⟩ := List.forall_mem_cons.mp hds
  have d18 : v_iv (n_v vs 8) + 0 ≤ v_iv (n_v vs 12) ∧ v_iv (n_v vs 12) ≤ v_iv (n_v vs 8) + 183 := d18
  obtain ⟨d19, hds⟩ := List.forall_mem_cons.mp hds
  have d19 : v_iv (n_v vs 6) + 3 ≤ v_iv (n_v vs 12) ∧ v_iv (n_v vs 12) ≤ v_iv (n_v vs 6) + 186 := d19
  obtain ⟨d20, hds⟩ := List.forall_mem_cons.mp hds
  have d20 : v_iv (n_v vs 10) + 3 ≤ v_iv (n_v vs 11) ∧ v_iv (n_v vs 11) ≤ v_iv (n_v vs 10) + 66300 := d20
  obtain ⟨d21, hds⟩ := List.forall_mem_cons.mp hds
  have d21 : v_iv (n_v vs 8) + 0 ≤ v_iv (n_v vs 11) ∧ v_iv (n_v vs 11) ≤ v_iv (n_v vs 8) + 176 := d21
  obtain ⟨d22, hds⟩ := List.forall_mem_cons.mp hds
  have d22 : v_iv (n_v vs 6) + 3 ≤ v_iv (n_v vs 11) ∧ v_iv (n_v vs 11) ≤ v_iv (n_v vs 6) + 179 := d22
  obtain ⟨d23, hds⟩ := List.forall_mem_cons.mp hds
  have d23 : v_iv (n_v vs 6) + 3 ≤ v_iv (n_v vs 8) ∧ v_iv (n_v vs 8) ≤ v_iv (n_v vs 6) + 3 := d23
  obtain ⟨d24, hds⟩ := List.forall_mem_cons.mp hds
  have d24 : v_iv (n_v vs 2) + (-4294967296) ≤ v_iv (n_v vs 1) ∧ v_iv (n_v vs 1) ≤ v_iv (n_v vs 2) + 0 := d24
  obtain ⟨d25, hds⟩ := List.forall_mem_cons.mp hds
  have d25 : v_iv (n_v vs 3) + (-4294967296) ≤ v_iv (n_v vs 1) ∧ v_iv (n_v vs 1) ≤ v_iv (n_v vs 3) + 22 := d25
  obtain ⟨d26, hds⟩ := List.forall_mem_cons.mp hds
  have d26 : v_iv (n_v vs 3) + (-4294967296) ≤ v_iv (n_v vs 2) ∧ v_iv (n_v vs 2) ≤ v_iv (n_v vs 3) + 22 := d26
  have hf : fc_ok [(6, [22, 3], [1]), (100, [5, 12, 21], []), (10, [21, 5, 20], []), (1, [20, 19, 3], []), (1, [19, 17, 18], []), (1, [17, 14, 16], []), (3, [16, 15, 2], []), (1, [14, 6, 13], []), (9, [6, 0], [5]), (9, [5, 0], [2]), (1, [12, 11, 3], []), (1, [11, 8, 10], []), (3, [10, 9, 2], []), (1, [8, 6, 7], []), (7, [3, 4], [2]), (20, [1, 0], [30, -1, 1, 0, 0, -1, 3, 2005000])] ta ws vs := hf
  obtain ⟨f0, hf⟩ := fc_un (show (6 : Nat) < 100 from by decide) hf
  have f0 : v_iv (n_v vs 22) = v_iv (n_v vs 3) + 1 := f0
  obtain ⟨ta1, w1, le1, ⟨_, s1⟩, hf⟩ := fc_us (show ¬ (100 : Nat) < 100 from by decide) hf
  have s1 : (∀ b j, w_el ws b j = if b = v_ad (n_v vs 5) ∧ j = (v_iv (n_v vs 12)).toNat then v_iv (n_v vs 21) else w_el w1 b j) ∧ ∀ b k, w_fd ws b k = w_fd w1 b k := s1
  obtain ⟨f2, hf⟩ := fc_un (show (10 : Nat) < 100 from by decide) hf
  have f2 : v_iv (n_v vs 21) = w_el w1 (v_ad (n_v vs 5)) (v_iv (n_v vs 20)).toNat := f2
  obtain ⟨f3, hf⟩ := fc_un (show (1 : Nat) < 100 from by decide) hf
  have f3 : v_iv (n_v vs 20) = v_iv (n_v vs 19) + v_iv (n_v vs 3) := f3
  obtain ⟨f4, hf⟩ := fc_un (show (1 : Nat) < 100 from by decide) hf
  have f4 : v_iv (n_v vs 19) = v_iv (n_v vs 17) + v_iv (n_v vs 18) := f4
  obtain ⟨f5, hf⟩ := fc_un (show (1 : Nat) < 100 from by decide) hf
  have f5 : v_iv (n_v vs 17) = v_iv (n_v vs 14) + v_iv (n_v vs 16) := f5
  obtain ⟨f6, hf⟩ := fc_un (show (3 : Nat) < 100 from by decide) hf
  have f6 : v_iv (n_v vs 16) = v_iv (n_v vs 15) * v_iv (n_v vs 2) := f6
  rw [show v_iv (n_v vs 15) = 8 from by omega] at f6
  obtain ⟨f7, hf⟩ := fc_un (show (1 : Nat) < 100 from by decide) hf
  have f7 : v_iv (n_v vs 14) = v_iv (n_v vs 6) + v_iv (n_v vs 13) := f7
  obtain ⟨f8, hf⟩ := fc_un (show (9 : Nat) < 100 from by decide) hf
  have f8 : n_v vs 6 = w_fd w1 (v_ad (n_v vs 0)) 5 := f8
  obtain ⟨f9, hf⟩ := fc_un (show (9 : Nat) < 100 from by decide) hf
  have f9 : n_v vs 5 = w_fd w1 (v_ad (n_v vs 0)) 2 := f9
  obtain ⟨f10, hf⟩ := fc_un (show (1 : Nat) < 100 from by decide) hf
  have f10 : v_iv (n_v vs 12) = v_iv (n_v vs 11) + v_iv (n_v vs 3) := f10
  obtain ⟨f11, hf⟩ := fc_un (show (1 : Nat) < 100 from by decide) hf
  have f11 : v_iv (n_v vs 11) = v_iv (n_v vs 8) + v_iv (n_v vs 10) := f11
  obtain ⟨f12, hf⟩ := fc_un (show (3 : Nat) < 100 from by decide) hf
  have f12 : v_iv (n_v vs 10) = v_iv (n_v vs 9) * v_iv (n_v vs 2) := f12
  rw [show v_iv (n_v vs 9) = 8 from by omega] at f12
  obtain ⟨f13, hf⟩ := fc_un (show (1 : Nat) < 100 from by decide) hf
  have f13 : v_iv (n_v vs 8) = v_iv (n_v vs 6) + v_iv (n_v vs 7) := f13
  obtain ⟨f14, hf⟩ := fc_un (show (7 : Nat) < 100 from by decide) hf
  have f14 : v_iv (n_v vs 3) < v_iv (n_v vs 4) := f14
  obtain ⟨f15, hf⟩ := fc_un (show (20 : Nat) < 100 from by decide) hf
  have f15 : 1 * v_iv (n_v vs 1) + ((-1) * w_el w1 (w_ar w1 (n_v vs 0) 2) (w_fi w1 (n_v vs 0) 5 + 0).toNat + 0) ≤ (-1) := f15
  have ar_0_2_1 : w_ar w1 (n_v vs 0) 2 = w_ar ws (n_v vs 0) 2 := by show v_ad (w_fd w1 _ _) = v_ad (w_fd ws _ _); rw [s1.2]
  have cr_0_2 : ta (w_ar ws (n_v vs 0) 2) = some 152 := tv_rg (th_fd hD hth r0 (g := GG_150) rfl (k := 2) (t := (2, 0, 0, [152])) rfl rfl)
  have fi_0_5_1 : w_fi w1 (n_v vs 0) 5 = w_fi ws (n_v vs 0) 5 := by show v_iv (w_fd w1 _ _) = v_iv (w_fd ws _ _); rw [s1.2]
  have ad_5 : v_ad (n_v vs 5) = w_ar ws (n_v vs 0) 2 := (congrArg v_ad f9).trans ar_0_2_1
  rw [ad_5] at f2
  have g8 : v_iv (n_v vs 6) = w_fi w1 (n_v vs 0) 5 := congrArg v_iv f8
  rw [ar_0_2_1] at f15
  rw [fi_0_5_1] at f15
  have cg2_F5_0 : v_iv (n_v vs 20) = w_fi ws (n_v vs 0) 5 + 0 → w_el w1 (w_ar ws (n_v vs 0) 2) (v_iv (n_v vs 20)).toNat = w_el w1 (w_ar ws (n_v vs 0) 2) (w_fi ws (n_v vs 0) 5 + 0).toNat := fun h => by rw [h]
  have fe_0_5_1 : w_fi ws (n_v vs 0) 5 = w_fi w1 (n_v vs 0) 5 := congrArg v_iv (s1.2 _ _)
  first | (have ee_0_2_F5_0_1 : w_el ws (w_ar ws (n_v vs 0) 2) (w_fi ws (n_v vs 0) 5 + 0).toNat = w_el w1 (w_ar ws (n_v vs 0) 2) (w_fi ws (n_v vs 0) 5 + 0).toNat := by rw [s1.1, if_neg (fun e => absurd e.2 (by omega))]) | have ee_0_2_F5_0_1 : ((w_fi ws (n_v vs 0) 5 + 0).toNat = (v_iv (n_v vs 12)).toNat → w_el ws (w_ar ws (n_v vs 0) 2) (w_fi ws (n_v vs 0) 5 + 0).toNat = v_iv (n_v vs 21)) ∧ ((w_fi ws (n_v vs 0) 5 + 0).toNat ≠ (v_iv (n_v vs 12)).toNat → w_el ws (w_ar ws (n_v vs 0) 2) (w_fi ws (n_v vs 0) 5 + 0).toNat = w_el w1 (w_ar ws (n_v vs 0) 2) (w_fi ws (n_v vs 0) 5 + 0).toNat) := ⟨fun h => by rw [s1.1, if_pos ⟨ad_5.symm, h⟩], fun h => by rw [s1.1, if_neg (fun e => h e.2)]⟩
  have ee_0_2_20_1 : ((v_iv (n_v vs 20)).toNat = (v_iv (n_v vs 12)).toNat → w_el ws (w_ar ws (n_v vs 0) 2) (v_iv (n_v vs 20)).toNat = v_iv (n_v vs 21)) ∧ ((v_iv (n_v vs 20)).toNat ≠ (v_iv (n_v vs 12)).toNat → w_el ws (w_ar ws (n_v vs 0) 2) (v_iv (n_v vs 20)).toNat = w_el w1 (w_ar ws (n_v vs 0) 2) (v_iv (n_v vs 20)).toNat) := ⟨fun h => by rw [s1.1, if_pos ⟨ad_5.symm, h⟩], fun h => by rw [s1.1, if_neg (fun e => h e.2)]⟩
  have nf0 : fc_1 (20, [1, 0], [30, -1, 1, 0, 0, -1, 3, 2005000]) ws (vs) := by
    refine ⟨fun n hn => ?_, ?_⟩
    · have hn : n ∈ [1, 0] := hn
      rw [hl]
      simp only [List.mem_cons, List.not_mem_nil, or_false] at hn
      show n < 23; omega
    · show 1 * v_iv (n_v vs 1) + ((-1) * w_el ws (w_ar ws (n_v vs 0) 2) (w_fi ws (n_v vs 0) 5 + 0).toNat + 0) ≤ (-1)
      omega
  refine ⟨(fun _ h => (by cases h)), [], trivial, ?_, (fun _ h => (by cases h))⟩
  rw [List.append_nil]
  exact List.forall_mem_cons.mpr ⟨⟨show (20 : Nat) < 100 from by decide, nf0⟩, (fun _ h => (by cases h))⟩
def n_Mo_dropNode_an : List an_T := [(7, [(0, (2, 0, 0, [150])), (1, (0, 0, 23, [])), (2, (0, -1, 47, []))], [], (0, 0), [(0, 0, 99993), (2, 2, -1), (0, 0, 100000), (0, 0, 0), (0, 0, 0)], [(1, 2, -1000000000000, 24), (2, 1, -1000000000000, 47)], [], [], 0, [], [(20, [1, 0], [30, -1, 1, 0, 0, -1, 3, 2005000]), (20, [2, 0], [30, -1, 1, 0, 0, -1, 3, 2005001])]), (33, [(0, (2, 0, 0, [150])), (1, (0, 0, 23, [])), (2, (0, 0, 48, []))], [], (0, 0), [(0, 0, 99967), (1, 2, 48), (0, 0, 100000), (0, 0, 0), (0, 0, 0)], [(1, 2, -1000000000000, 23)], [], [], 0, [], [(20, [1, 0], [30, -1, 1, 0, 0, -1, 3, 2005000])]), (105, [(0, (2, 0, 0, [150])), (1, (0, 0, 23, [])), (2, (0, 0, 23, []))], [], (0, 0), [(0, 0, 99895), (1, 2, 23), (0, 0, 100000), (0, 0, 0), (0, 0, 0)], [(1, 2, -1000000000000, 0)], [], [], 0, [], [(20, [1, 0], [30, -1, 1, 0, 0, -1, 3, 2005000])]), (117, [(0, (2, 0, 0, [150])), (1, (0, 0, 23, [])), (2, (0, 0, 22, [])), (3, (0, 0, 8, []))], [], (0, 0), [(0, 0, 99895), (1, 2, 23), (0, 0, 99883), (1, 3, 8), (0, 0, 100000)], [(1, 2, -1000000000000, 0), (1, 3, -1000000000000, 22), (2, 3, -1000000000000, 22)], [], [], 0, [], [(20, [1, 0], [30, -1, 1, 0, 0, -1, 3, 2005000])])]
def t_Mo_dropNode_ct : ct_L := [(1, 394, e_Mo_tail), (1, 398, e_Mo_head), (1, 401, e_Mo_edges), (1, 405, e_Mo_has), (1, 475, e_Mo_nodes), (70, 536, e_Mo_dropEdge_at_g0)]
set_option maxRecDepth 100000 in
theorem c_Mo_dropNode {l : Launch} {D : va_G} {kA : Nat → ClassId} (h_Mo_dropEdge_at_g0 : ct_ok l D kA GG y_Mo_dropEdge_at_g0 z_Mo_dropEdge_at_g0 e_Mo_dropEdge_at_g0) (h_Mo_edges : ct_ok l D kA GG y_Mo_edges z_Mo_edges e_Mo_edges) (h_Mo_has : ct_ok l D kA GG y_Mo_has z_Mo_has e_Mo_has) (h_Mo_head : ct_ok l D kA GG y_Mo_head z_Mo_head e_Mo_head) (h_Mo_nodes : ct_ok l D kA GG y_Mo_nodes z_Mo_nodes e_Mo_nodes) (h_Mo_tail : ct_ok l D kA GG y_Mo_tail z_Mo_tail e_Mo_tail) : ct_ok l D kA GG y_Mo_dropNode z_Mo_dropNode e_Mo_dropNode := chk_all_ok (FT := [(16, 13, 2), (391, 13, 5)]) (PT := []) (CT := t_Mo_dropNode_ct) (KT := []) (NT := []) (AN := n_Mo_dropNode_an) (OT := [o_Mo_dropNode_0, o_Mo_dropNode_1, o_Mo_dropNode_2, o_Mo_dropNode_3, o_Mo_dropNode_4, o_Mo_dropNode_5, o_Mo_dropNode_6, o_Mo_dropNode_7, o_Mo_dropNode_8, o_Mo_dropNode_9, o_Mo_dropNode_10, o_Mo_dropNode_11, o_Mo_dropNode_12]) 5 812 (List.forall_mem_cons.mpr ⟨oo_Mo_dropNode_0, List.forall_mem_cons.mpr ⟨oo_Mo_dropNode_1, List.forall_mem_cons.mpr ⟨oo_Mo_dropNode_2, List.forall_mem_cons.mpr ⟨oo_Mo_dropNode_3, List.forall_mem_cons.mpr ⟨oo_Mo_dropNode_4, List.forall_mem_cons.mpr ⟨oo_Mo_dropNode_5, List.forall_mem_cons.mpr ⟨oo_Mo_dropNode_6, List.forall_mem_cons.mpr ⟨oo_Mo_dropNode_7, List.forall_mem_cons.mpr ⟨oo_Mo_dropNode_8, List.forall_mem_cons.mpr ⟨oo_Mo_dropNode_9, List.forall_mem_cons.mpr ⟨oo_Mo_dropNode_10, List.forall_mem_cons.mpr ⟨oo_Mo_dropNode_11, List.forall_mem_cons.mpr ⟨oo_Mo_dropNode_12, List.forall_mem_nil _⟩⟩⟩⟩⟩⟩⟩⟩⟩⟩⟩⟩⟩) (by decide +kernel) ⟨List.forall_mem_cons.mpr ⟨gf_Mo_16, List.forall_mem_cons.mpr ⟨gf_Mo_391, List.forall_mem_nil _⟩⟩, List.forall_mem_nil _, List.forall_mem_cons.mpr ⟨cl_virtual (y := y_Mo_tail) (ci := 13) rfl rfl ⟨_, _, rfl⟩ (by decide +kernel) h_Mo_tail wm_3045 wm_9 wm_3042 wm_3044 wv_13_8 ⟨by decide, by decide, by decide +kernel⟩ (by decide), List.forall_mem_cons.mpr ⟨cl_virtual (y := y_Mo_head) (ci := 13) rfl rfl ⟨_, _, rfl⟩ (by decide +kernel) h_Mo_head wm_3049 wm_9 wm_3046 wm_3048 wv_13_9 ⟨by decide, by decide, by decide +kernel⟩ (by decide), List.forall_mem_cons.mpr ⟨cl_virtual (y := y_Mo_edges) (ci := 13) rfl rfl ⟨_, _, rfl⟩ (by decide +kernel) h_Mo_edges wm_3037 wm_9 wm_3034 wm_3036 wv_13_6 ⟨by decide, by decide, by decide +kernel⟩ (by decide), List.forall_mem_cons.mpr ⟨cl_virtual (y := y_Mo_has) (ci := 13) rfl rfl ⟨_, _, rfl⟩ (by decide +kernel) h_Mo_has wm_3041 wm_9 wm_3038 wm_3040 wv_13_7 ⟨by decide, by decide, by decide +kernel⟩ (by decide), List.forall_mem_cons.mpr ⟨cl_virtual (y := y_Mo_nodes) (ci := 13) rfl rfl ⟨_, _, rfl⟩ (by decide +kernel) h_Mo_nodes wm_3025 wm_9 wm_3022 wm_3024 wv_13_3 ⟨by decide, by decide, by decide +kernel⟩ (by decide), List.forall_mem_cons.mpr ⟨cl_virtual (y := y_Mo_dropEdge_at_g0) (ci := 13) rfl rfl ⟨_, _, rfl⟩ (by decide +kernel) h_Mo_dropEdge_at_g0 wm_3103 wm_9 wm_3100 wm_3102 wv_14_5 ⟨by decide, by decide, by decide +kernel⟩ (by decide), List.forall_mem_nil _⟩⟩⟩⟩⟩⟩, List.forall_mem_nil _, List.forall_mem_nil _, GG_pl⟩ (by decide +kernel)
def o_Mo_putBest_0 : or_T := (2, 4, [(0, (2, 0, 0, [150])), (1, (0, 1, 23, [])), (3, (0, 0, 0, []))], [(20, [0, 1], [50, 0, 1, 96, 6, 2, 0, 26, 1, 5, 3, 0, 96, 7, 0, 1, 1])], [], [], [(20, [3, 0, 1], [50, 0, 1, 1096, 6, 2, 0, 26, 2, 6, 0, 2, 1, 0, 7, 0, 1, 5, 3, 1, 96, 7, 0, 1, 2])], [], [])
theorem oo_Mo_putBest_0 {kA : Nat → ClassId} : or_ok kA GG o_Mo_putBest_0 := by
  intro A ta ws vs hD hth hl hk hds hf
  have hl : vs.length = 4 := hl
  have hk : ∀ q ∈ ([(0, (2, 0, 0, [150])), (1, (0, 1, 23, [])), (3, (0, 0, 0, []))] : List (Nat × tv_T)), tv_ok ta q.2 (n_v vs q.1) := hk
  obtain ⟨t0, hk⟩ := List.forall_mem_cons.mp hk
  have t0 : tv_ok ta (2, 0, 0, [150]) (n_v vs 0) := t0
  have r0 : ta (v_ad (n_v vs 0)) = some 150 := tv_rg t0
  obtain ⟨t1, hk⟩ := List.forall_mem_cons.mp hk
  have t1 : tv_ok ta (0, 1, 23, []) (n_v vs 1) := t1
  have k1 : 1 ≤ v_iv (n_v vs 1) ∧ v_iv (n_v vs 1) ≤ 23 := tv_rng t1
  obtain ⟨t3, hk⟩ := List.forall_mem_cons.mp hk
  have t3 : tv_ok ta (0, 0, 0, []) (n_v vs 3) := t3
  have k3 : 0 ≤ v_iv (n_v vs 3) ∧ v_iv (n_v vs 3) ≤ 0 := tv_rng t3
  have hf : fc_ok [(20, [0, 1], [50, 0, 1, 96, 6, 2, 0, 26, 1, 5, 3, 0, 96, 7, 0, 1, 1])] ta ws vs := hf
  obtain ⟨f0, hf⟩ := fc_un (show (20 : Nat) < 100 from by decide) hf
  have f0 : ∃ j0 : Int, 0 ≤ j0 ∧ j0 < 26 ∧ (w_ei ws (w_ar ws (n_v vs 0) 96) (j0) = v_iv (n_v vs 1)) := f0
  have cr_0_96 : ta (w_ar ws (n_v vs 0) 96) = some 217 := tv_rg (th_fd hD hth r0 (g := GG_150) rfl (k := 96) (t := (2, 0, 0, [217])) rfl rfl)
  have hK_0_96 : ∀ j : Int, 0 ≤ j → j < 26 → 0 ≤ w_ei ws (w_ar ws (n_v vs 0) 96) j ∧ w_ei ws (w_ar ws (n_v vs 0) 96) j ≤ 25 := fun j h0 h1 => th_el hD hth cr_0_96 (kd := 0) (n := 26) (m := 26) (lo := 0) (hi := 25) (rs := []) (L := []) rfl (by decide) (j := j.toNat) (by omega)
  have nf0 : fc_1 (20, [3, 0, 1], [50, 0, 1, 1096, 6, 2, 0, 26, 2, 6, 0, 2, 1, 0, 7, 0, 1, 5, 3, 1, 96, 7, 0, 1, 2]) ws (vs) := by
    refine ⟨fun n hn => ?_, ?_⟩
    · have hn : n ∈ [3, 0, 1] := hn
      rw [hl]
      simp only [List.mem_cons, List.not_mem_nil, or_false] at hn
      show n < 4; omega
    · show ∃ j0 : Int, 0 ≤ j0 ∧ j0 < 26 ∧ ((v_iv (n_v vs 3) ≤ j0) ∧ (w_ei ws (w_ar ws (n_v vs 0) 96) (j0) = v_iv (n_v vs 1)))
      first | omega | grind
  refine ⟨(fun _ h => (by cases h)), [], trivial, ?_, (fun _ h => (by cases h))⟩
  rw [List.append_nil]
  exact List.forall_mem_cons.mpr ⟨⟨show (20 : Nat) < 100 from by decide, nf0⟩, (fun _ h => (by cases h))⟩
def o_Mo_putBest_1 : or_T := (7, 5, [(0, (2, 0, 0, [150])), (1, (0, 1, 23, [])), (3, (0, 0, 26, [])), (4, (2, 0, 0, [217]))], [(9, [4, 0], [96]), (20, [3, 0, 1], [50, 0, 1, 1096, 6, 2, 0, 26, 2, 6, 0, 2, 1, 0, 7, 0, 1, 5, 3, 1, 96, 7, 0, 1, 2])], [(3, (0, 0, 25, []))], [], [], [], [(1, 3, -4294967296, 23)])
theorem oo_Mo_putBest_1 {kA : Nat → ClassId} : or_ok kA GG o_Mo_putBest_1 := by
  intro A ta ws vs hD hth hl hk hds hf
  have hl : vs.length = 5 := hl
  have hk : ∀ q ∈ ([(0, (2, 0, 0, [150])), (1, (0, 1, 23, [])), (3, (0, 0, 26, [])), (4, (2, 0, 0, [217]))] : List (Nat × tv_T)), tv_ok ta q.2 (n_v vs q.1) := hk
  obtain ⟨t0, hk⟩ := List.forall_mem_cons.mp hk
  have t0 : tv_ok ta (2, 0, 0, [150]) (n_v vs 0) := t0
  have r0 : ta (v_ad (n_v vs 0)) = some 150 := tv_rg t0
  obtain ⟨t1, hk⟩ := List.forall_mem_cons.mp hk
  have t1 : tv_ok ta (0, 1, 23, []) (n_v vs 1) := t1
  have k1 : 1 ≤ v_iv (n_v vs 1) ∧ v_iv (n_v vs 1) ≤ 23 := tv_rng t1
  obtain ⟨t3, hk⟩ := List.forall_mem_cons.mp hk
  have t3 : tv_ok ta (0, 0, 26, []) (n_v vs 3) := t3
  have k3 : 0 ≤ v_iv (n_v vs 3) ∧ v_iv (n_v vs 3) ≤ 26 := tv_rng t3
  obtain ⟨t4, hk⟩ := List.forall_mem_cons.mp hk
  have t4 : tv_ok ta (2, 0, 0, [217]) (n_v vs 4) := t4
  have r4 : ta (v_ad (n_v vs 4)) = some 217 := tv_rg t4
  have hds : ∀ q ∈ ([(1, 3, -4294967296, 23)] : List of_T), n_iv vs q.2.1 + q.2.2.1 ≤ n_iv vs q.1 ∧ n_iv vs q.1 ≤ n_iv vs q.2.1 + q.2.2.2 := hds
  obtain ⟨d0, hds⟩ := List.forall_mem_cons.mp hds
  have d0 : v_iv (n_v vs 3) + (-4294967296) ≤ v_iv (n_v vs 1) ∧ v_iv (n_v vs 1) ≤ v_iv (n_v vs 3) + 23 := d0
  have hf : fc_ok [(9, [4, 0], [96]), (20, [3, 0, 1], [50, 0, 1, 1096, 6, 2, 0, 26, 2, 6, 0, 2, 1, 0, 7, 0, 1, 5, 3, 1, 96, 7, 0, 1, 2])] ta ws vs := hf
  obtain ⟨f0, hf⟩ := fc_un (show (9 : Nat) < 100 from by decide) hf
  have f0 : n_v vs 4 = w_fd ws (v_ad (n_v vs 0)) 96 := f0
  obtain ⟨f1, hf⟩ := fc_un (show (20 : Nat) < 100 from by decide) hf
  have f1 : ∃ j0 : Int, 0 ≤ j0 ∧ j0 < 26 ∧ ((v_iv (n_v vs 3) ≤ j0) ∧ (w_ei ws (w_ar ws (n_v vs 0) 96) (j0) = v_iv (n_v vs 1))) := f1
  have cr_0_96 : ta (w_ar ws (n_v vs 0) 96) = some 217 := tv_rg (th_fd hD hth r0 (g := GG_150) rfl (k := 96) (t := (2, 0, 0, [217])) rfl rfl)
  have ad_4 : v_ad (n_v vs 4) = w_ar ws (n_v vs 0) 96 := congrArg v_ad f0
  have hK_0_96 : ∀ j : Int, 0 ≤ j → j < 26 → 0 ≤ w_ei ws (w_ar ws (n_v vs 0) 96) j ∧ w_ei ws (w_ar ws (n_v vs 0) 96) j ≤ 25 := fun j h0 h1 => th_el hD hth cr_0_96 (kd := 0) (n := 26) (m := 26) (lo := 0) (hi := 25) (rs := []) (L := []) rfl (by decide) (j := j.toNat) (by omega)
  have rf3 : tv_ok ta (0, 0, 25, []) (n_v vs 3) := tv_in t3 (by first | omega | grind) (by first | omega | grind)
  refine ⟨List.forall_mem_cons.mpr ⟨rf3, (fun _ h => (by cases h))⟩, [], trivial, ?_, (fun _ h => (by cases h))⟩
  rw [List.append_nil]
  exact (fun _ h => (by cases h))
def o_Mo_putBest_2 : or_T := (2, 7, [(0, (2, 0, 0, [150])), (1, (0, 1, 23, [])), (3, (0, 0, 25, [])), (4, (2, 0, 0, [217])), (5, (0, 0, 25, [])), (6, (0, 1, 26, []))], [(6, [6, 3], [1]), (7, [5, 1], [1]), (10, [5, 4, 3], []), (9, [4, 0], [96]), (20, [3, 0, 1], [50, 0, 1, 1096, 6, 2, 0, 26, 2, 6, 0, 2, 1, 0, 7, 0, 1, 5, 3, 1, 96, 7, 0, 1, 2])], [], [], [(20, [6, 0, 1], [50, 0, 1, 1096, 6, 2, 0, 26, 2, 6, 0, 2, 1, 0, 7, 0, 1, 5, 3, 1, 96, 7, 0, 1, 2])], [], [(6, 3, 1, 1), (1, 3, -4294967296, 23)])
theorem oo_Mo_putBest_2 {kA : Nat → ClassId} : or_ok kA GG o_Mo_putBest_2 := by
  intro A ta ws vs hD hth hl hk hds hf
  have hl : vs.length = 7 := hl
  have hk : ∀ q ∈ ([(0, (2, 0, 0, [150])), (1, (0, 1, 23, [])), (3, (0, 0, 25, [])), (4, (2, 0, 0, [217])), (5, (0, 0, 25, [])), (6, (0, 1, 26, []))] : List (Nat × tv_T)), tv_ok ta q.2 (n_v vs q.1) := hk
  obtain ⟨t0, hk⟩ := List.forall_mem_cons.mp hk
  have t0 : tv_ok ta (2, 0, 0, [150]) (n_v vs 0) := t0
  have r0 : ta (v_ad (n_v vs 0)) = some 150 := tv_rg t0
  obtain ⟨t1, hk⟩ := List.forall_mem_cons.mp hk
  have t1 : tv_ok ta (0, 1, 23, []) (n_v vs 1) := t1
  have k1 : 1 ≤ v_iv (n_v vs 1) ∧ v_iv (n_v vs 1) ≤ 23 := tv_rng t1
  obtain ⟨t3, hk⟩ := List.forall_mem_cons.mp hk
  have t3 : tv_ok ta (0, 0, 25, []) (n_v vs 3) := t3
  have k3 : 0 ≤ v_iv (n_v vs 3) ∧ v_iv (n_v vs 3) ≤ 25 := tv_rng t3
  obtain ⟨t4, hk⟩ := List.forall_mem_cons.mp hk
  have t4 : tv_ok ta (2, 0, 0, [217]) (n_v vs 4) := t4
  have r4 : ta (v_ad (n_v vs 4)) = some 217 := tv_rg t4
  obtain ⟨t5, hk⟩ := List.forall_mem_cons.mp hk
  have t5 : tv_ok ta (0, 0, 25, []) (n_v vs 5) := t5
  have k5 : 0 ≤ v_iv (n_v vs 5) ∧ v_iv (n_v vs 5) ≤ 25 := tv_rng t5
  obtain ⟨t6, hk⟩ := List.forall_mem_cons.mp hk
  have t6 : tv_ok ta (0, 1, 26, []) (n_v vs 6) := t6
  have k6 : 1 ≤ v_iv (n_v vs 6) ∧ v_iv (n_v vs 6) ≤ 26 := tv_rng t6
  have hds : ∀ q ∈ ([(6, 3, 1, 1), (1, 3, -4294967296, 23)] : List of_T), n_iv vs q.2.1 + q.2.2.1 ≤ n_iv vs q.1 ∧ n_iv vs q.1 ≤ n_iv vs q.2.1 + q.2.2.2 := hds
  obtain ⟨d0, hds⟩ := List.forall_mem_cons.mp hds
  have d0 : v_iv (n_v vs 3) + 1 ≤ v_iv (n_v vs 6) ∧ v_iv (n_v vs 6) ≤ v_iv (n_v vs 3) + 1 := d0
  obtain ⟨d1, hds⟩ := List.forall_mem_cons.mp hds
  have d1 : v_iv (n_v vs 3) + (-4294967296) ≤ v_iv (n_v vs 1) ∧ v_iv (n_v vs 1) ≤ v_iv (n_v vs 3) + 23 := d1
  have hf : fc_ok [(6, [6, 3], [1]), (7, [5, 1], [1]), (10, [5, 4, 3], []), (9, [4, 0], [96]), (20, [3, 0, 1], [50, 0, 1, 1096, 6, 2, 0, 26, 2, 6, 0, 2, 1, 0, 7, 0, 1, 5, 3, 1, 96, 7, 0, 1, 2])] ta ws vs := hf
  obtain ⟨f0, hf⟩ := fc_un (show (6 : Nat) < 100 from by decide) hf
  have f0 : v_iv (n_v vs 6) = v_iv (n_v vs 3) + 1 := f0
  obtain ⟨f1, hf⟩ := fc_un (show (7 : Nat) < 100 from by decide) hf
  have f1 : v_iv (n_v vs 5) ≠ v_iv (n_v vs 1) := f1
  obtain ⟨f2, hf⟩ := fc_un (show (10 : Nat) < 100 from by decide) hf
  have f2 : v_iv (n_v vs 5) = w_el ws (v_ad (n_v vs 4)) (v_iv (n_v vs 3)).toNat := f2
  obtain ⟨f3, hf⟩ := fc_un (show (9 : Nat) < 100 from by decide) hf
  have f3 : n_v vs 4 = w_fd ws (v_ad (n_v vs 0)) 96 := f3
  obtain ⟨f4, hf⟩ := fc_un (show (20 : Nat) < 100 from by decide) hf
  have f4 : ∃ j0 : Int, 0 ≤ j0 ∧ j0 < 26 ∧ ((v_iv (n_v vs 3) ≤ j0) ∧ (w_ei ws (w_ar ws (n_v vs 0) 96) (j0) = v_iv (n_v vs 1))) := f4
  have cr_0_96 : ta (w_ar ws (n_v vs 0) 96) = some 217 := tv_rg (th_fd hD hth r0 (g := GG_150) rfl (k := 96) (t := (2, 0, 0, [217])) rfl rfl)
  have ad_4 : v_ad (n_v vs 4) = w_ar ws (n_v vs 0) 96 := congrArg v_ad f3
  rw [ad_4] at f2
  have h2 : v_iv (n_v vs 5) = w_ei ws (w_ar ws (n_v vs 0) 96) (v_iv (n_v vs 3)) := f2
  have br_0_96_3_0 : w_ei ws (w_ar ws (n_v vs 0) 96) (v_iv (n_v vs 3)) = w_el ws (w_ar ws (n_v vs 0) 96) (v_iv (n_v vs 3)).toNat := rfl
  have hK_0_96 : ∀ j : Int, 0 ≤ j → j < 26 → 0 ≤ w_ei ws (w_ar ws (n_v vs 0) 96) j ∧ w_ei ws (w_ar ws (n_v vs 0) 96) j ≤ 25 := fun j h0 h1 => th_el hD hth cr_0_96 (kd := 0) (n := 26) (m := 26) (lo := 0) (hi := 25) (rs := []) (L := []) rfl (by decide) (j := j.toNat) (by omega)
  have nf0 : fc_1 (20, [6, 0, 1], [50, 0, 1, 1096, 6, 2, 0, 26, 2, 6, 0, 2, 1, 0, 7, 0, 1, 5, 3, 1, 96, 7, 0, 1, 2]) ws (vs) := by
    refine ⟨fun n hn => ?_, ?_⟩
    · have hn : n ∈ [6, 0, 1] := hn
      rw [hl]
      simp only [List.mem_cons, List.not_mem_nil, or_false] at hn
      show n < 7; omega
    · show ∃ j0 : Int, 0 ≤ j0 ∧ j0 < 26 ∧ ((v_iv (n_v vs 6) ≤ j0) ∧ (w_ei ws (w_ar ws (n_v vs 0) 96) (j0) = v_iv (n_v vs 1)))
      first | omega | grind
  refine ⟨(fun _ h => (by cases h)), [], trivial, ?_, (fun _ h => (by cases h))⟩
  rw [List.append_nil]
  exact List.forall_mem_cons.mpr ⟨⟨show (20 : Nat) < 100 from by decide, nf0⟩, (fun _ h => (by cases h))⟩
def n_Mo_putBest_an : List an_T := [(2, [(0, (2, 0, 0, [150])), (1, (0, 1, 23, [])), (2, (0, 9, 24, [])), (3, (0, 0, 26, []))], [], (0, 0), [(0, 0, 99998), (1, 3, 26), (0, 0, 100000), (0, 0, 0), (0, 0, 0)], [(1, 2, -1000000000000, 14), (1, 3, -1000000000000, 23), (2, 1, -1000000000000, 23), (2, 3, -1000000000000, 24)], [], [], 0, [], [(20, [3, 0, 1], [50, 0, 1, 1096, 6, 2, 0, 26, 2, 6, 0, 2, 1, 0, 7, 0, 1, 5, 3, 1, 96, 7, 0, 1, 2])]), (21, [(0, (2, 0, 0, [150])), (1, (0, 1, 23, [])), (2, (0, 9, 24, [])), (3, (0, 0, 25, [])), (4, (0, 0, 25, []))], [], (0, 0), [(0, 0, 99979), (1, 4, 25), (0, 0, 100000), (0, 0, 0), (0, 0, 0)], [(1, 2, -1000000000000, 14), (1, 3, -1000000000000, 23), (1, 4, -1000000000000, 23), (2, 1, -1000000000000, 23), (2, 3, -1000000000000, 24), (2, 4, -1000000000000, 24), (3, 4, -1000000000000, 0)], [], [], 0, [], []), (62, [(0, (2, 0, 0, [150])), (1, (0, 1, 23, [])), (2, (0, 9, 24, [])), (3, (0, 0, 25, [])), (4, (0, -2147483648, 1000000, [])), (5, (0, 1, 23, [])), (6, (0, 1, 24, []))], [], (0, 0), [(0, 0, 99938), (1, 6, 24), (0, 0, 100000), (0, 0, 0), (0, 0, 0)], [(1, 2, -1000000000000, 14), (1, 3, -1000000000000, 23), (1, 4, -1000000000000, 2147483671), (1, 5, -1000000000000, 22), (1, 6, -1000000000000, 22), (4, 1, -1000000000000, 999999), (4, 2, -1000000000000, 999991), (4, 3, -1000000000000, 1000000), (4, 5, -1000000000000, 999999), (4, 6, -1000000000000, 999999), (5, 6, -1000000000000, 0)], [], [], 0, [], []), (73, [(0, (2, 0, 0, [150])), (1, (0, 1, 23, [])), (2, (0, 9, 24, [])), (3, (0, 0, 25, [])), (4, (0, -2147483648, 1000000, [])), (5, (0, 1, 23, [])), (6, (0, 1, 23, [])), (7, (0, 1, 23, []))], [], (0, 0), [(0, 0, 99938), (1, 6, 24), (0, 0, 99927), (2, 7, 1), (0, 0, 100000)], [(1, 2, -1000000000000, 14), (1, 3, -1000000000000, 23), (1, 4, -1000000000000, 2147483671), (1, 5, -1000000000000, 22), (1, 6, -1000000000000, 22), (4, 1, -1000000000000, 999999), (4, 2, -1000000000000, 999991), (4, 3, -1000000000000, 1000000), (4, 5, -1000000000000, 999999), (4, 6, -1000000000000, 999999), (5, 6, -1000000000000, 0), (7, 2, -1000000000000, -1)], [], [], 0, [], []), (136, [(0, (2, 0, 0, [150])), (1, (0, 1, 23, [])), (2, (0, 9, 24, [])), (3, (0, 0, 25, [])), (4, (0, -2147483648, 1000000, [])), (5, (0, 1, 23, [])), (6, (0, 1, 23, [])), (7, (0, -2147483648, 2147483647, [])), (8, (0, 1, 23, []))], [], (0, 0), [(0, 0, 99938), (1, 6, 24), (0, 0, 99864), (1, 8, 23), (0, 0, 100000)], [(1, 2, -1000000000000, 14), (1, 3, -1000000000000, 23), (1, 4, -1000000000000, 2147483671), (1, 5, -1000000000000, 22), (1, 6, -1000000000000, 22), (1, 7, -1000000000000, 2147483671), (1, 8, -1000000000000, 22), (2, 1, -1000000000000, 23), (2, 3, -1000000000000, 24), (2, 4, -1000000000000, 2147483672), (2, 5, -1000000000000, 23), (2, 6, -1000000000000, 23), (2, 7, -1000000000000, 2147483672), (2, 8, -1000000000000, 23), (3, 1, -1000000000000, 24), (3, 2, -1000000000000, 16), (3, 4, -1000000000000, 2147483673), (3, 5, -1000000000000, 24), (3, 6, -1000000000000, 24), (3, 7, -1000000000000, 2147483673), (3, 8, -1000000000000, 24), (4, 1, -1000000000000, 999999), (4, 2, -1000000000000, 999991), (4, 3, -1000000000000, 1000000), (4, 5, -1000000000000, 999999), (4, 6, -1000000000000, 999999), (4, 7, -1000000000000, 0), (4, 8, -1000000000000, 999999), (5, 6, -1000000000000, 0), (5, 8, -1000000000000, 0), (6, 8, -1000000000000, 0)], [], [], 0, [], []), (177, [(0, (2, 0, 0, [150])), (1, (0, 1, 23, [])), (2, (0, 9, 24, [])), (3, (0, 0, 25, [])), (4, (0, -2147483648, 1000000, [])), (5, (0, 1, 23, [])), (6, (0, 1, 23, []))], [], (0, 0), [(0, 0, 99823), (2, 6, 1), (0, 0, 100000), (0, 0, 0), (0, 0, 0)], [(1, 2, -1000000000000, 14), (1, 3, -1000000000000, 23), (1, 5, -1000000000000, 22), (3, 1, -1000000000000, 24), (3, 2, -1000000000000, 16), (3, 5, -1000000000000, 24), (4, 1, -1000000000000, 999999), (4, 2, -1000000000000, 999991), (4, 3, -1000000000000, 1000000), (4, 5, -1000000000000, 999999), (6, 2, -1000000000000, -1)], [], [], 0, [], [])]
def t_Mo_putBest_ct : ct_L := [(1, 988, e_Mo_chordCrossings)]
set_option maxRecDepth 100000 in
theorem c_Mo_putBest {l : Launch} {D : va_G} {kA : Nat → ClassId} (h_Mo_chordCrossings : ct_ok l D kA GG y_Mo_chordCrossings z_Mo_chordCrossings e_Mo_chordCrossings) : ct_ok l D kA GG y_Mo_putBest z_Mo_putBest e_Mo_putBest := chk_all_ok (FT := [(213, 13, 96)]) (PT := []) (CT := t_Mo_putBest_ct) (KT := [(1, 546, .int (1000000), (0, 1000000, 1000000, []))]) (NT := []) (AN := n_Mo_putBest_an) (OT := [o_Mo_putBest_0, o_Mo_putBest_1, o_Mo_putBest_2]) 5 484 (List.forall_mem_cons.mpr ⟨oo_Mo_putBest_0, List.forall_mem_cons.mpr ⟨oo_Mo_putBest_1, List.forall_mem_cons.mpr ⟨oo_Mo_putBest_2, List.forall_mem_nil _⟩⟩⟩) (by decide +kernel) ⟨List.forall_mem_cons.mpr ⟨gf_Mo_213, List.forall_mem_nil _⟩, List.forall_mem_nil _, List.forall_mem_cons.mpr ⟨cl_virtual (y := y_Mo_chordCrossings) (ci := 13) rfl rfl ⟨_, _, rfl⟩ (by decide +kernel) h_Mo_chordCrossings wm_3612 wm_9 wm_3609 wm_3611 wv_21_6 ⟨by decide, by decide, by decide +kernel⟩ (by decide), List.forall_mem_nil _⟩, List.forall_mem_cons.mpr ⟨kx_Mo_1_546, List.forall_mem_nil _⟩, List.forall_mem_nil _, GG_pl⟩ (by decide +kernel)
def o_Mo_children_0 : or_T := (7, 5, [(0, (2, 0, 0, [150]))], [(20, [0], [50, 1, 3, 5, 2, 128, 127, 5, 2, 0, 24, 4, 14, 0, 6, 4, 2, 7, 0, 0, 1, 3, 0, 2, 2, 0, 5, 2, 9, 0, 2, 0, -1, 3, 0, 128, 7, 0, 2, 9, 0, 5, 3, 0, 128, 7, 0, 0, 24, 4, 9, 0, 2, 0, 0, 3, 0, 127, 7, 0, 2, 17, 0, 9, 4, 5, 3, 0, 127, 7, 0, 0, 1, 3, 0, 2, 2, 0, 5, 2, 12, 0, 2, 0, 0, 3, 0, 128, 3, 0, 127, 7, 0, 0, 12, 4, 8, 3, 0, 128, 3, 0, 127, 7, 0, 0, 1, 3, 0, 128, 7, 0])], [], [], [(24, [0, 0], [])], [], [])
theorem oo_Mo_children_0 {kA : Nat → ClassId} : or_ok kA GG o_Mo_children_0 := by
  intro A ta ws vs hD hth hl hk hds hf
  have hl : vs.length = 5 := hl
  have hk : ∀ q ∈ ([(0, (2, 0, 0, [150]))] : List (Nat × tv_T)), tv_ok ta q.2 (n_v vs q.1) := hk
  obtain ⟨t0, hk⟩ := List.forall_mem_cons.mp hk
  have t0 : tv_ok ta (2, 0, 0, [150]) (n_v vs 0) := t0
  have r0 : ta (v_ad (n_v vs 0)) = some 150 := tv_rg t0
  have hf : fc_ok [(20, [0], [50, 1, 3, 5, 2, 128, 127, 5, 2, 0, 24, 4, 14, 0, 6, 4, 2, 7, 0, 0, 1, 3, 0, 2, 2, 0, 5, 2, 9, 0, 2, 0, -1, 3, 0, 128, 7, 0, 2, 9, 0, 5, 3, 0, 128, 7, 0, 0, 24, 4, 9, 0, 2, 0, 0, 3, 0, 127, 7, 0, 2, 17, 0, 9, 4, 5, 3, 0, 127, 7, 0, 0, 1, 3, 0, 2, 2, 0, 5, 2, 12, 0, 2, 0, 0, 3, 0, 128, 3, 0, 127, 7, 0, 0, 12, 4, 8, 3, 0, 128, 3, 0, 127, 7, 0, 0, 1, 3, 0, 128, 7, 0])] ta ws vs := hf
  obtain ⟨f0, hf⟩ := fc_un (show (20 : Nat) < 100 from by decide) hf
  have f0 : ∀ j0 : Int, 0 ≤ j0 → j0 < 24 → (((j0 + 1) ≤ w_ei ws (w_ar ws (n_v vs 0) 2) (w_fi ws (n_v vs 0) 5)) → (((-1) ≤ w_ei ws (w_ar ws (n_v vs 0) 128) (j0)) ∧ ((w_ei ws (w_ar ws (n_v vs 0) 128) (j0) ≤ 24) ∧ ((0 ≤ w_ei ws (w_ar ws (n_v vs 0) 127) (j0)) → (((w_ei ws (w_ar ws (n_v vs 0) 127) (j0) + 1) ≤ w_ei ws (w_ar ws (n_v vs 0) 2) (w_fi ws (n_v vs 0) 5)) ∧ ((0 ≤ w_ei ws (w_ar ws (n_v vs 0) 128) (w_ei ws (w_ar ws (n_v vs 0) 127) (j0))) ∧ ((w_ei ws (w_ar ws (n_v vs 0) 128) (w_ei ws (w_ar ws (n_v vs 0) 127) (j0)) + 1) ≤ w_ei ws (w_ar ws (n_v vs 0) 128) (j0)))))))) := f0
  have cr_0_2 : ta (w_ar ws (n_v vs 0) 2) = some 152 := tv_rg (th_fd hD hth r0 (g := GG_150) rfl (k := 2) (t := (2, 0, 0, [152])) rfl rfl)
  have cr_0_127 : ta (w_ar ws (n_v vs 0) 127) = some 242 := tv_rg (th_fd hD hth r0 (g := GG_150) rfl (k := 127) (t := (2, 0, 0, [242])) rfl rfl)
  have cr_0_128 : ta (w_ar ws (n_v vs 0) 128) = some 243 := tv_rg (th_fd hD hth r0 (g := GG_150) rfl (k := 128) (t := (2, 0, 0, [243])) rfl rfl)
  have hK_0_127 : ∀ j : Int, 0 ≤ j → j < 26 → (-1) ≤ w_ei ws (w_ar ws (n_v vs 0) 127) j ∧ w_ei ws (w_ar ws (n_v vs 0) 127) j ≤ 23 := fun j h0 h1 => th_el hD hth cr_0_127 (kd := 0) (n := 26) (m := 26) (lo := (-1)) (hi := 23) (rs := []) (L := []) rfl (by decide) (j := j.toNat) (by omega)
  have hK_0_128 : ∀ j : Int, 0 ≤ j → j < 26 → (-23) ≤ w_ei ws (w_ar ws (n_v vs 0) 128) j ∧ w_ei ws (w_ar ws (n_v vs 0) 128) j ≤ 24 := fun j h0 h1 => th_el hD hth cr_0_128 (kd := 0) (n := 26) (m := 26) (lo := (-23)) (hi := 24) (rs := []) (L := []) rfl (by decide) (j := j.toNat) (by omega)
  have nf0 : fc_1 (24, [0, 0], []) ws (vs) := by
    refine ⟨fun n hn => ?_, ?_⟩
    · have hn : n ∈ [0, 0] := hn
      rw [hl]
      simp only [List.mem_cons, List.not_mem_nil, or_false] at hn
      show n < 5; omega
    · show n_v vs 0 = n_v vs 0
      first | rfl | simp only [true_and]
  refine ⟨(fun _ h => (by cases h)), [], trivial, ?_, (fun _ h => (by cases h))⟩
  rw [List.append_nil]
  exact List.forall_mem_cons.mpr ⟨⟨show (24 : Nat) < 100 from by decide, nf0⟩, (fun _ h => (by cases h))⟩
def o_Mo_children_1 : or_T := (88, 14, [(0, (2, 0, 0, [150])), (2, (2, 0, 0, [150])), (6, (0, 1, 24, [])), (7, (0, 0, 24, [])), (8, (2, 0, 0, [199]))], [(20, [7, 2], [30, 0, 1, 0, 0, -1, 3, 2005000]), (20, [7, 2], [30, 0, -1, 0, 0, 1, 3, 2005000]), (20, [2], [50, 1, 3, 5, 2, 128, 127, 5, 2, 0, 24, 4, 14, 0, 6, 4, 2, 7, 0, 0, 1, 3, 0, 2, 2, 0, 5, 2, 9, 0, 2, 0, -1, 3, 0, 128, 7, 0, 2, 9, 0, 5, 3, 0, 128, 7, 0, 0, 24, 4, 9, 0, 2, 0, 0, 3, 0, 127, 7, 0, 2, 17, 0, 9, 4, 5, 3, 0, 127, 7, 0, 0, 1, 3, 0, 2, 2, 0, 5, 2, 12, 0, 2, 0, 0, 3, 0, 128, 3, 0, 127, 7, 0, 0, 12, 4, 8, 3, 0, 128, 3, 0, 127, 7, 0, 0, 1, 3, 0, 128, 7, 0]), (24, [0, 2], []), (100, [8, 3, 13], []), (9, [8, 2], [74]), (7, [6, 7], [3]), (20, [7, 2], [30, 0, 1, 0, 0, -1, 3, 2005000]), (20, [7, 2], [30, 0, -1, 0, 0, 1, 3, 2005000]), (20, [2], [50, 1, 3, 5, 2, 128, 127, 5, 2, 0, 24, 4, 14, 0, 6, 4, 2, 7, 0, 0, 1, 3, 0, 2, 2, 0, 5, 2, 9, 0, 2, 0, -1, 3, 0, 128, 7, 0, 2, 9, 0, 5, 3, 0, 128, 7, 0, 0, 24, 4, 9, 0, 2, 0, 0, 3, 0, 127, 7, 0, 2, 17, 0, 9, 4, 5, 3, 0, 127, 7, 0, 0, 1, 3, 0, 2, 2, 0, 5, 2, 12, 0, 2, 0, 0, 3, 0, 128, 3, 0, 127, 7, 0, 0, 12, 4, 8, 3, 0, 128, 3, 0, 127, 7, 0, 0, 1, 3, 0, 128, 7, 0])], [], [], [(20, [0], [50, 1, 3, 5, 2, 128, 127, 5, 2, 0, 24, 4, 14, 0, 6, 4, 2, 7, 0, 0, 1, 3, 0, 2, 2, 0, 5, 2, 9, 0, 2, 0, -1, 3, 0, 128, 7, 0, 2, 9, 0, 5, 3, 0, 128, 7, 0, 0, 24, 4, 9, 0, 2, 0, 0, 3, 0, 127, 7, 0, 2, 17, 0, 9, 4, 5, 3, 0, 127, 7, 0, 0, 1, 3, 0, 2, 2, 0, 5, 2, 12, 0, 2, 0, 0, 3, 0, 128, 3, 0, 127, 7, 0, 0, 12, 4, 8, 3, 0, 128, 3, 0, 127, 7, 0, 0, 1, 3, 0, 128, 7, 0])], [], [(6, 7, 0, 4294967296)])
theorem oo_Mo_children_1 {kA : Nat → ClassId} : or_ok kA GG o_Mo_children_1 := by
  intro A ta ws vs hD hth hl hk hds hf
  have hl : vs.length = 14 := hl
  have hk : ∀ q ∈ ([(0, (2, 0, 0, [150])), (2, (2, 0, 0, [150])), (6, (0, 1, 24, [])), (7, (0, 0, 24, [])), (8, (2, 0, 0, [199]))] : List (Nat × tv_T)), tv_ok ta q.2 (n_v vs q.1) := hk
  obtain ⟨t0, hk⟩ := List.forall_mem_cons.mp hk
  have t0 : tv_ok ta (2, 0, 0, [150]) (n_v vs 0) := t0
  have r0 : ta (v_ad (n_v vs 0)) = some 150 := tv_rg t0
  obtain ⟨t2, hk⟩ := List.forall_mem_cons.mp hk
  have t2 : tv_ok ta (2, 0, 0, [150]) (n_v vs 2) := t2
  have r2 : ta (v_ad (n_v vs 2)) = some 150 := tv_rg t2
  obtain ⟨t6, hk⟩ := List.forall_mem_cons.mp hk
  have t6 : tv_ok ta (0, 1, 24, []) (n_v vs 6) := t6
  have k6 : 1 ≤ v_iv (n_v vs 6) ∧ v_iv (n_v vs 6) ≤ 24 := tv_rng t6
  obtain ⟨t7, hk⟩ := List.forall_mem_cons.mp hk
  have t7 : tv_ok ta (0, 0, 24, []) (n_v vs 7) := t7
  have k7 : 0 ≤ v_iv (n_v vs 7) ∧ v_iv (n_v vs 7) ≤ 24 := tv_rng t7
  obtain ⟨t8, hk⟩ := List.forall_mem_cons.mp hk
  have t8 : tv_ok ta (2, 0, 0, [199]) (n_v vs 8) := t8
  have r8 : ta (v_ad (n_v vs 8)) = some 199 := tv_rg t8
  have hds : ∀ q ∈ ([(6, 7, 0, 4294967296)] : List of_T), n_iv vs q.2.1 + q.2.2.1 ≤ n_iv vs q.1 ∧ n_iv vs q.1 ≤ n_iv vs q.2.1 + q.2.2.2 := hds
  obtain ⟨d0, hds⟩ := List.forall_mem_cons.mp hds
  have d0 : v_iv (n_v vs 7) + 0 ≤ v_iv (n_v vs 6) ∧ v_iv (n_v vs 6) ≤ v_iv (n_v vs 7) + 4294967296 := d0
  have hf : fc_ok [(20, [7, 2], [30, 0, 1, 0, 0, -1, 3, 2005000]), (20, [7, 2], [30, 0, -1, 0, 0, 1, 3, 2005000]), (20, [2], [50, 1, 3, 5, 2, 128, 127, 5, 2, 0, 24, 4, 14, 0, 6, 4, 2, 7, 0, 0, 1, 3, 0, 2, 2, 0, 5, 2, 9, 0, 2, 0, -1, 3, 0, 128, 7, 0, 2, 9, 0, 5, 3, 0, 128, 7, 0, 0, 24, 4, 9, 0, 2, 0, 0, 3, 0, 127, 7, 0, 2, 17, 0, 9, 4, 5, 3, 0, 127, 7, 0, 0, 1, 3, 0, 2, 2, 0, 5, 2, 12, 0, 2, 0, 0, 3, 0, 128, 3, 0, 127, 7, 0, 0, 12, 4, 8, 3, 0, 128, 3, 0, 127, 7, 0, 0, 1, 3, 0, 128, 7, 0]), (24, [0, 2], []), (100, [8, 3, 13], []), (9, [8, 2], [74]), (7, [6, 7], [3]), (20, [7, 2], [30, 0, 1, 0, 0, -1, 3, 2005000]), (20, [7, 2], [30, 0, -1, 0, 0, 1, 3, 2005000]), (20, [2], [50, 1, 3, 5, 2, 128, 127, 5, 2, 0, 24, 4, 14, 0, 6, 4, 2, 7, 0, 0, 1, 3, 0, 2, 2, 0, 5, 2, 9, 0, 2, 0, -1, 3, 0, 128, 7, 0, 2, 9, 0, 5, 3, 0, 128, 7, 0, 0, 24, 4, 9, 0, 2, 0, 0, 3, 0, 127, 7, 0, 2, 17, 0, 9, 4, 5, 3, 0, 127, 7, 0, 0, 1, 3, 0, 2, 2, 0, 5, 2, 12, 0, 2, 0, 0, 3, 0, 128, 3, 0, 127, 7, 0, 0, 12, 4, 8, 3, 0, 128, 3, 0, 127, 7, 0, 0, 1, 3, 0, 128, 7, 0])] ta ws vs := hf
  obtain ⟨f0, hf⟩ := fc_un (show (20 : Nat) < 100 from by decide) hf
  have f0 : 1 * v_iv (n_v vs 7) + ((-1) * w_el ws (w_ar ws (n_v vs 2) 2) (w_fi ws (n_v vs 2) 5 + 0).toNat + 0) ≤ 0 := f0
  obtain ⟨f1, hf⟩ := fc_un (show (20 : Nat) < 100 from by decide) hf
  have f1 : (-1) * v_iv (n_v vs 7) + (1 * w_el ws (w_ar ws (n_v vs 2) 2) (w_fi ws (n_v vs 2) 5 + 0).toNat + 0) ≤ 0 := f1
  obtain ⟨f2, hf⟩ := fc_un (show (20 : Nat) < 100 from by decide) hf
  have f2 : ∀ j0 : Int, 0 ≤ j0 → j0 < 24 → (((j0 + 1) ≤ w_ei ws (w_ar ws (n_v vs 2) 2) (w_fi ws (n_v vs 2) 5)) → (((-1) ≤ w_ei ws (w_ar ws (n_v vs 2) 128) (j0)) ∧ ((w_ei ws (w_ar ws (n_v vs 2) 128) (j0) ≤ 24) ∧ ((0 ≤ w_ei ws (w_ar ws (n_v vs 2) 127) (j0)) → (((w_ei ws (w_ar ws (n_v vs 2) 127) (j0) + 1) ≤ w_ei ws (w_ar ws (n_v vs 2) 2) (w_fi ws (n_v vs 2) 5)) ∧ ((0 ≤ w_ei ws (w_ar ws (n_v vs 2) 128) (w_ei ws (w_ar ws (n_v vs 2) 127) (j0))) ∧ ((w_ei ws (w_ar ws (n_v vs 2) 128) (w_ei ws (w_ar ws (n_v vs 2) 127) (j0)) + 1) ≤ w_ei ws (w_ar ws (n_v vs 2) 128) (j0)))))))) := f2
  obtain ⟨f3, hf⟩ := fc_un (show (24 : Nat) < 100 from by decide) hf
  have f3 : n_v vs 0 = n_v vs 2 := f3
  obtain ⟨ta1, w1, le1, ⟨_, s1⟩, hf⟩ := fc_us (show ¬ (100 : Nat) < 100 from by decide) hf
  have s1 : (∀ b j, w_el ws b j = if b = v_ad (n_v vs 8) ∧ j = (v_iv (n_v vs 3)).toNat then v_iv (n_v vs 13) else w_el w1 b j) ∧ ∀ b k, w_fd ws b k = w_fd w1 b k := s1
  obtain ⟨f5, hf⟩ := fc_un (show (9 : Nat) < 100 from by decide) hf
  have f5 : n_v vs 8 = w_fd w1 (v_ad (n_v vs 2)) 74 := f5
  obtain ⟨f6, hf⟩ := fc_un (show (7 : Nat) < 100 from by decide) hf
  have f6 : v_iv (n_v vs 7) ≤ v_iv (n_v vs 6) := f6
  obtain ⟨f7, hf⟩ := fc_un (show (20 : Nat) < 100 from by decide) hf
  have f7 : 1 * v_iv (n_v vs 7) + ((-1) * w_el w1 (w_ar w1 (n_v vs 2) 2) (w_fi w1 (n_v vs 2) 5 + 0).toNat + 0) ≤ 0 := f7
  obtain ⟨f8, hf⟩ := fc_un (show (20 : Nat) < 100 from by decide) hf
  have f8 : (-1) * v_iv (n_v vs 7) + (1 * w_el w1 (w_ar w1 (n_v vs 2) 2) (w_fi w1 (n_v vs 2) 5 + 0).toNat + 0) ≤ 0 := f8
  obtain ⟨f9, hf⟩ := fc_un (show (20 : Nat) < 100 from by decide) hf
  have f9 : ∀ j0 : Int, 0 ≤ j0 → j0 < 24 → (((j0 + 1) ≤ w_ei w1 (w_ar w1 (n_v vs 2) 2) (w_fi w1 (n_v vs 2) 5)) → (((-1) ≤ w_ei w1 (w_ar w1 (n_v vs 2) 128) (j0)) ∧ ((w_ei w1 (w_ar w1 (n_v vs 2) 128) (j0) ≤ 24) ∧ ((0 ≤ w_ei w1 (w_ar w1 (n_v vs 2) 127) (j0)) → (((w_ei w1 (w_ar w1 (n_v vs 2) 127) (j0) + 1) ≤ w_ei w1 (w_ar w1 (n_v vs 2) 2) (w_fi w1 (n_v vs 2) 5)) ∧ ((0 ≤ w_ei w1 (w_ar w1 (n_v vs 2) 128) (w_ei w1 (w_ar w1 (n_v vs 2) 127) (j0))) ∧ ((w_ei w1 (w_ar w1 (n_v vs 2) 128) (w_ei w1 (w_ar w1 (n_v vs 2) 127) (j0)) + 1) ≤ w_ei w1 (w_ar w1 (n_v vs 2) 128) (j0)))))))) := f9
  have q2 : n_v vs 2 = n_v vs 0 := f3.symm
  rw [q2] at f0
  rw [q2] at f1
  rw [q2] at f2
  rw [q2] at f5
  rw [q2] at f7
  rw [q2] at f8
  rw [q2] at f9
  have ar_0_2_1 : w_ar w1 (n_v vs 0) 2 = w_ar ws (n_v vs 0) 2 := by show v_ad (w_fd w1 _ _) = v_ad (w_fd ws _ _); rw [s1.2]
  have cr_0_2 : ta (w_ar ws (n_v vs 0) 2) = some 152 := tv_rg (th_fd hD hth r0 (g := GG_150) rfl (k := 2) (t := (2, 0, 0, [152])) rfl rfl)
  have ar_0_74_1 : w_ar w1 (n_v vs 0) 74 = w_ar ws (n_v vs 0) 74 := by show v_ad (w_fd w1 _ _) = v_ad (w_fd ws _ _); rw [s1.2]
  have cr_0_74 : ta (w_ar ws (n_v vs 0) 74) = some 199 := tv_rg (th_fd hD hth r0 (g := GG_150) rfl (k := 74) (t := (2, 0, 0, [199])) rfl rfl)
  have ar_0_127_1 : w_ar w1 (n_v vs 0) 127 = w_ar ws (n_v vs 0) 127 := by show v_ad (w_fd w1 _ _) = v_ad (w_fd ws _ _); rw [s1.2]
  have cr_0_127 : ta (w_ar ws (n_v vs 0) 127) = some 242 := tv_rg (th_fd hD hth r0 (g := GG_150) rfl (k := 127) (t := (2, 0, 0, [242])) rfl rfl)
  have ar_0_128_1 : w_ar w1 (n_v vs 0) 128 = w_ar ws (n_v vs 0) 128 := by show v_ad (w_fd w1 _ _) = v_ad (w_fd ws _ _); rw [s1.2]
  have cr_0_128 : ta (w_ar ws (n_v vs 0) 128) = some 243 := tv_rg (th_fd hD hth r0 (g := GG_150) rfl (k := 128) (t := (2, 0, 0, [243])) rfl rfl)
  have fi_0_5_1 : w_fi w1 (n_v vs 0) 5 = w_fi ws (n_v vs 0) 5 := by show v_iv (w_fd w1 _ _) = v_iv (w_fd ws _ _); rw [s1.2]
  have ad_8 : v_ad (n_v vs 8) = w_ar ws (n_v vs 0) 74 := (congrArg v_ad f5).trans ar_0_74_1
  rw [ar_0_2_1] at f7
  rw [fi_0_5_1] at f7
  rw [ar_0_2_1] at f8
  rw [fi_0_5_1] at f8
  rw [ar_0_2_1] at f9
  rw [ar_0_127_1] at f9
  rw [ar_0_128_1] at f9
  have fe_0_5_1 : w_fi ws (n_v vs 0) 5 = w_fi w1 (n_v vs 0) 5 := congrArg v_iv (s1.2 _ _)
  have ee_0_2_F5_0_1 : w_el ws (w_ar ws (n_v vs 0) 2) (w_fi ws (n_v vs 0) 5 + 0).toNat = w_el w1 (w_ar ws (n_v vs 0) 2) (w_fi ws (n_v vs 0) 5 + 0).toNat := by rw [s1.1, if_neg (fun e => by have e1 := e.1; rw [← e1] at r8; rw [cr_0_2] at r8; exact absurd (Option.some.inj r8) (by decide))]
  have br_0_2_F5_0_0 : w_ei ws (w_ar ws (n_v vs 0) 2) (w_fi ws (n_v vs 0) 5 + 0) = w_el ws (w_ar ws (n_v vs 0) 2) (w_fi ws (n_v vs 0) 5 + 0).toNat := rfl
  have br_0_2_F5_0_1 : w_ei w1 (w_ar ws (n_v vs 0) 2) (w_fi ws (n_v vs 0) 5 + 0) = w_el w1 (w_ar ws (n_v vs 0) 2) (w_fi ws (n_v vs 0) 5 + 0).toNat := rfl
  have hE_0_2_1 : ∀ j : Int, w_ei ws (w_ar ws (n_v vs 0) 2) j = w_ei w1 (w_ar ws (n_v vs 0) 2) j := fun j => by unfold w_ei; rw [s1.1, if_neg (fun e => by have e1 := e.1; rw [← e1] at r8; rw [cr_0_2] at r8; exact absurd (Option.some.inj r8) (by decide))]
  have hE_0_127_1 : ∀ j : Int, w_ei ws (w_ar ws (n_v vs 0) 127) j = w_ei w1 (w_ar ws (n_v vs 0) 127) j := fun j => by unfold w_ei; rw [s1.1, if_neg (fun e => by have e1 := e.1; rw [← e1] at r8; rw [cr_0_127] at r8; exact absurd (Option.some.inj r8) (by decide))]
  have hK_0_127 : ∀ j : Int, 0 ≤ j → j < 26 → (-1) ≤ w_ei ws (w_ar ws (n_v vs 0) 127) j ∧ w_ei ws (w_ar ws (n_v vs 0) 127) j ≤ 23 := fun j h0 h1 => th_el hD hth cr_0_127 (kd := 0) (n := 26) (m := 26) (lo := (-1)) (hi := 23) (rs := []) (L := []) rfl (by decide) (j := j.toNat) (by omega)
  have hE_0_128_1 : ∀ j : Int, w_ei ws (w_ar ws (n_v vs 0) 128) j = w_ei w1 (w_ar ws (n_v vs 0) 128) j := fun j => by unfold w_ei; rw [s1.1, if_neg (fun e => by have e1 := e.1; rw [← e1] at r8; rw [cr_0_128] at r8; exact absurd (Option.some.inj r8) (by decide))]
  have hK_0_128 : ∀ j : Int, 0 ≤ j → j < 26 → (-23) ≤ w_ei ws (w_ar ws (n_v vs 0) 128) j ∧ w_ei ws (w_ar ws (n_v vs 0) 128) j ≤ 24 := fun j h0 h1 => th_el hD hth cr_0_128 (kd := 0) (n := 26) (m := 26) (lo := (-23)) (hi := 24) (rs := []) (L := []) rfl (by decide) (j := j.toNat) (by omega)
  have nf0 : fc_1 (20, [0], [50, 1, 3, 5, 2, 128, 127, 5, 2, 0, 24, 4, 14, 0, 6, 4, 2, 7, 0, 0, 1, 3, 0, 2, 2, 0, 5, 2, 9, 0, 2, 0, -1, 3, 0, 128, 7, 0, 2, 9, 0, 5, 3, 0, 128, 7, 0, 0, 24, 4, 9, 0, 2, 0, 0, 3, 0, 127, 7, 0, 2, 17, 0, 9, 4, 5, 3, 0, 127, 7, 0, 0, 1, 3, 0, 2, 2, 0, 5, 2, 12, 0, 2, 0, 0, 3, 0, 128, 3, 0, 127, 7, 0, 0, 12, 4, 8, 3, 0, 128, 3, 0, 127, 7, 0, 0, 1, 3, 0, 128, 7, 0]) ws (vs) := by
    refine ⟨fun n hn => ?_, ?_⟩
    · have hn : n ∈ [0] := hn
      rw [hl]
      simp only [List.mem_cons, List.not_mem_nil, or_false] at hn
      show n < 14; omega
    · show ∀ j0 : Int, 0 ≤ j0 → j0 < 24 → (((j0 + 1) ≤ w_ei ws (w_ar ws (n_v vs 0) 2) (w_fi ws (n_v vs 0) 5)) → (((-1) ≤ w_ei ws (w_ar ws (n_v vs 0) 128) (j0)) ∧ ((w_ei ws (w_ar ws (n_v vs 0) 128) (j0) ≤ 24) ∧ ((0 ≤ w_ei ws (w_ar ws (n_v vs 0) 127) (j0)) → (((w_ei ws (w_ar ws (n_v vs 0) 127) (j0) + 1) ≤ w_ei ws (w_ar ws (n_v vs 0) 2) (w_fi ws (n_v vs 0) 5)) ∧ ((0 ≤ w_ei ws (w_ar ws (n_v vs 0) 128) (w_ei ws (w_ar ws (n_v vs 0) 127) (j0))) ∧ ((w_ei ws (w_ar ws (n_v vs 0) 128) (w_ei ws (w_ar ws (n_v vs 0) 127) (j0)) + 1) ≤ w_ei ws (w_ar ws (n_v vs 0) 128) (j0))))))))
      first | omega | grind
  refine ⟨(fun _ h => (by cases h)), [], trivial, ?_, (fun _ h => (by cases h))⟩
  rw [List.append_nil]
  exact List.forall_mem_cons.mpr ⟨⟨show (20 : Nat) < 100 from by decide, nf0⟩, (fun _ h => (by cases h))⟩
def o_Mo_children_2 : or_T := (88, 10, [(0, (2, 0, 0, [150])), (2, (2, 0, 0, [150])), (6, (0, 0, 24, [])), (7, (0, 0, 24, [])), (8, (2, 0, 0, [199]))], [(20, [7, 2], [30, 0, 1, 0, 0, -1, 3, 2005000]), (20, [7, 2], [30, 0, -1, 0, 0, 1, 3, 2005000]), (20, [2], [50, 1, 3, 5, 2, 128, 127, 5, 2, 0, 24, 4, 14, 0, 6, 4, 2, 7, 0, 0, 1, 3, 0, 2, 2, 0, 5, 2, 9, 0, 2, 0, -1, 3, 0, 128, 7, 0, 2, 9, 0, 5, 3, 0, 128, 7, 0, 0, 24, 4, 9, 0, 2, 0, 0, 3, 0, 127, 7, 0, 2, 17, 0, 9, 4, 5, 3, 0, 127, 7, 0, 0, 1, 3, 0, 2, 2, 0, 5, 2, 12, 0, 2, 0, 0, 3, 0, 128, 3, 0, 127, 7, 0, 0, 12, 4, 8, 3, 0, 128, 3, 0, 127, 7, 0, 0, 1, 3, 0, 128, 7, 0]), (24, [0, 2], []), (100, [8, 3, 9], []), (9, [8, 2], [74]), (7, [6, 7], [3]), (20, [7, 2], [30, 0, 1, 0, 0, -1, 3, 2005000]), (20, [7, 2], [30, 0, -1, 0, 0, 1, 3, 2005000]), (20, [2], [50, 1, 3, 5, 2, 128, 127, 5, 2, 0, 24, 4, 14, 0, 6, 4, 2, 7, 0, 0, 1, 3, 0, 2, 2, 0, 5, 2, 9, 0, 2, 0, -1, 3, 0, 128, 7, 0, 2, 9, 0, 5, 3, 0, 128, 7, 0, 0, 24, 4, 9, 0, 2, 0, 0, 3, 0, 127, 7, 0, 2, 17, 0, 9, 4, 5, 3, 0, 127, 7, 0, 0, 1, 3, 0, 2, 2, 0, 5, 2, 12, 0, 2, 0, 0, 3, 0, 128, 3, 0, 127, 7, 0, 0, 12, 4, 8, 3, 0, 128, 3, 0, 127, 7, 0, 0, 1, 3, 0, 128, 7, 0])], [], [], [(20, [0], [50, 1, 3, 5, 2, 128, 127, 5, 2, 0, 24, 4, 14, 0, 6, 4, 2, 7, 0, 0, 1, 3, 0, 2, 2, 0, 5, 2, 9, 0, 2, 0, -1, 3, 0, 128, 7, 0, 2, 9, 0, 5, 3, 0, 128, 7, 0, 0, 24, 4, 9, 0, 2, 0, 0, 3, 0, 127, 7, 0, 2, 17, 0, 9, 4, 5, 3, 0, 127, 7, 0, 0, 1, 3, 0, 2, 2, 0, 5, 2, 12, 0, 2, 0, 0, 3, 0, 128, 3, 0, 127, 7, 0, 0, 12, 4, 8, 3, 0, 128, 3, 0, 127, 7, 0, 0, 1, 3, 0, 128, 7, 0])], [], [(6, 7, 0, 4294967296)])
theorem oo_Mo_children_2 {kA : Nat → ClassId} : or_ok kA GG o_Mo_children_2 := by
  intro A ta ws vs hD hth hl hk hds hf
  have hl : vs.length = 10 := hl
  have hk : ∀ q ∈ ([(0, (2, 0, 0, [150])), (2, (2, 0, 0, [150])), (6, (0, 0, 24, [])), (7, (0, 0, 24, [])), (8, (2, 0, 0, [199]))] : List (Nat × tv_T)), tv_ok ta q.2 (n_v vs q.1) := hk
  obtain ⟨t0, hk⟩ := List.forall_mem_cons.mp hk
  have t0 : tv_ok ta (2, 0, 0, [150]) (n_v vs 0) := t0
  have r0 : ta (v_ad (n_v vs 0)) = some 150 := tv_rg t0
  obtain ⟨t2, hk⟩ := List.forall_mem_cons.mp hk
  have t2 : tv_ok ta (2, 0, 0, [150]) (n_v vs 2) := t2
  have r2 : ta (v_ad (n_v vs 2)) = some 150 := tv_rg t2
  obtain ⟨t6, hk⟩ := List.forall_mem_cons.mp hk
  have t6 : tv_ok ta (0, 0, 24, []) (n_v vs 6) := t6
  have k6 : 0 ≤ v_iv (n_v vs 6) ∧ v_iv (n_v vs 6) ≤ 24 := tv_rng t6
  obtain ⟨t7, hk⟩ := List.forall_mem_cons.mp hk
  have t7 : tv_ok ta (0, 0, 24, []) (n_v vs 7) := t7
  have k7 : 0 ≤ v_iv (n_v vs 7) ∧ v_iv (n_v vs 7) ≤ 24 := tv_rng t7
  obtain ⟨t8, hk⟩ := List.forall_mem_cons.mp hk
  have t8 : tv_ok ta (2, 0, 0, [199]) (n_v vs 8) := t8
  have r8 : ta (v_ad (n_v vs 8)) = some 199 := tv_rg t8
  have hds : ∀ q ∈ ([(6, 7, 0, 4294967296)] : List of_T), n_iv vs q.2.1 + q.2.2.1 ≤ n_iv vs q.1 ∧ n_iv vs q.1 ≤ n_iv vs q.2.1 + q.2.2.2 := hds
  obtain ⟨d0, hds⟩ := List.forall_mem_cons.mp hds
  have d0 : v_iv (n_v vs 7) + 0 ≤ v_iv (n_v vs 6) ∧ v_iv (n_v vs 6) ≤ v_iv (n_v vs 7) + 4294967296 := d0
  have hf : fc_ok [(20, [7, 2], [30, 0, 1, 0, 0, -1, 3, 2005000]), (20, [7, 2], [30, 0, -1, 0, 0, 1, 3, 2005000]), (20, [2], [50, 1, 3, 5, 2, 128, 127, 5, 2, 0, 24, 4, 14, 0, 6, 4, 2, 7, 0, 0, 1, 3, 0, 2, 2, 0, 5, 2, 9, 0, 2, 0, -1, 3, 0, 128, 7, 0, 2, 9, 0, 5, 3, 0, 128, 7, 0, 0, 24, 4, 9, 0, 2, 0, 0, 3, 0, 127, 7, 0, 2, 17, 0, 9, 4, 5, 3, 0, 127, 7, 0, 0, 1, 3, 0, 2, 2, 0, 5, 2, 12, 0, 2, 0, 0, 3, 0, 128, 3, 0, 127, 7, 0, 0, 12, 4, 8, 3, 0, 128, 3, 0, 127, 7, 0, 0, 1, 3, 0, 128, 7, 0]), (24, [0, 2], []), (100, [8, 3, 9], []), (9, [8, 2], [74]), (7, [6, 7], [3]), (20, [7, 2], [30, 0, 1, 0, 0, -1, 3, 2005000]), (20, [7, 2], [30, 0, -1, 0, 0, 1, 3, 2005000]), (20, [2], [50, 1, 3, 5, 2, 128, 127, 5, 2, 0, 24, 4, 14, 0, 6, 4, 2, 7, 0, 0, 1, 3, 0, 2, 2, 0, 5, 2, 9, 0, 2, 0, -1, 3, 0, 128, 7, 0, 2, 9, 0, 5, 3, 0, 128, 7, 0, 0, 24, 4, 9, 0, 2, 0, 0, 3, 0, 127, 7, 0, 2, 17, 0, 9, 4, 5, 3, 0, 127, 7, 0, 0, 1, 3, 0, 2, 2, 0, 5, 2, 12, 0, 2, 0, 0, 3, 0, 128, 3, 0, 127, 7, 0, 0, 12, 4, 8, 3, 0, 128, 3, 0, 127, 7, 0, 0, 1, 3, 0, 128, 7, 0])] ta ws vs := hf
  obtain ⟨f0, hf⟩ := fc_un (show (20 : Nat) < 100 from by decide) hf
  have f0 : 1 * v_iv (n_v vs 7) + ((-1) * w_el ws (w_ar ws (n_v vs 2) 2) (w_fi ws (n_v vs 2) 5 + 0).toNat + 0) ≤ 0 := f0
  obtain ⟨f1, hf⟩ := fc_un (show (20 : Nat) < 100 from by decide) hf
  have f1 : (-1) * v_iv (n_v vs 7) + (1 * w_el ws (w_ar ws (n_v vs 2) 2) (w_fi ws (n_v vs 2) 5 + 0).toNat + 0) ≤ 0 := f1
  obtain ⟨f2, hf⟩ := fc_un (show (20 : Nat) < 100 from by decide) hf
  have f2 : ∀ j0 : Int, 0 ≤ j0 → j0 < 24 → (((j0 + 1) ≤ w_ei ws (w_ar ws (n_v vs 2) 2) (w_fi ws (n_v vs 2) 5)) → (((-1) ≤ w_ei ws (w_ar ws (n_v vs 2) 128) (j0)) ∧ ((w_ei ws (w_ar ws (n_v vs 2) 128) (j0) ≤ 24) ∧ ((0 ≤ w_ei ws (w_ar ws (n_v vs 2) 127) (j0)) → (((w_ei ws (w_ar ws (n_v vs 2) 127) (j0) + 1) ≤ w_ei ws (w_ar ws (n_v vs 2) 2) (w_fi ws (n_v vs 2) 5)) ∧ ((0 ≤ w_ei ws (w_ar ws (n_v vs 2) 128) (w_ei ws (w_ar ws (n_v vs 2) 127) (j0))) ∧ ((w_ei ws (w_ar ws (n_v vs 2) 128) (w_ei ws (w_ar ws (n_v vs 2) 127) (j0)) + 1) ≤ w_ei ws (w_ar ws (n_v vs 2) 128) (j0)))))))) := f2
  obtain ⟨f3, hf⟩ := fc_un (show (24 : Nat) < 100 from by decide) hf
  have f3 : n_v vs 0 = n_v vs 2 := f3
  obtain ⟨ta1, w1, le1, ⟨_, s1⟩, hf⟩ := fc_us (show ¬ (100 : Nat) < 100 from by decide) hf
  have s1 : (∀ b j, w_el ws b j = if b = v_ad (n_v vs 8) ∧ j = (v_iv (n_v vs 3)).toNat then v_iv (n_v vs 9) else w_el w1 b j) ∧ ∀ b k, w_fd ws b k = w_fd w1 b k := s1
  obtain ⟨f5, hf⟩ := fc_un (show (9 : Nat) < 100 from by decide) hf
  have f5 : n_v vs 8 = w_fd w1 (v_ad (n_v vs 2)) 74 := f5
  obtain ⟨f6, hf⟩ := fc_un (show (7 : Nat) < 100 from by decide) hf
  have f6 : v_iv (n_v vs 7) ≤ v_iv (n_v vs 6) := f6
  obtain ⟨f7, hf⟩ := fc_un (show (20 : Nat) < 100 from by decide) hf
  have f7 : 1 * v_iv (n_v vs 7) + ((-1) * w_el w1 (w_ar w1 (n_v vs 2) 2) (w_fi w1 (n_v vs 2) 5 + 0).toNat + 0) ≤ 0 := f7
  obtain ⟨f8, hf⟩ := fc_un (show (20 : Nat) < 100 from by decide) hf
  have f8 : (-1) * v_iv (n_v vs 7) + (1 * w_el w1 (w_ar w1 (n_v vs 2) 2) (w_fi w1 (n_v vs 2) 5 + 0).toNat + 0) ≤ 0 := f8
  obtain ⟨f9, hf⟩ := fc_un (show (20 : Nat) < 100 from by decide) hf
  have f9 : ∀ j0 : Int, 0 ≤ j0 → j0 < 24 → (((j0 + 1) ≤ w_ei w1 (w_ar w1 (n_v vs 2) 2) (w_fi w1 (n_v vs 2) 5)) → (((-1) ≤ w_ei w1 (w_ar w1 (n_v vs 2) 128) (j0)) ∧ ((w_ei w1 (w_ar w1 (n_v vs 2) 128) (j0) ≤ 24) ∧ ((0 ≤ w_ei w1 (w_ar w1 (n_v vs 2) 127) (j0)) → (((w_ei w1 (w_ar w1 (n_v vs 2) 127) (j0) + 1) ≤ w_ei w1 (w_ar w1 (n_v vs 2) 2) (w_fi w1 (n_v vs 2) 5)) ∧ ((0 ≤ w_ei w1 (w_ar w1 (n_v vs 2) 128) (w_ei w1 (w_ar w1 (n_v vs 2) 127) (j0))) ∧ ((w_ei w1 (w_ar w1 (n_v vs 2) 128) (w_ei w1 (w_ar w1 (n_v vs 2) 127) (j0)) + 1) ≤ w_ei w1 (w_ar w1 (n_v vs 2) 128) (j0)))))))) := f9
  have q2 : n_v vs 2 = n_v vs 0 := f3.symm
  rw [q2] at f0
  rw [q2] at f1
  rw [q2] at f2
  rw [q2] at f5
  rw [q2] at f7
  rw [q2] at f8
  rw [q2] at f9
  have ar_0_2_1 : w_ar w1 (n_v vs 0) 2 = w_ar ws (n_v vs 0) 2 := by show v_ad (w_fd w1 _ _) = v_ad (w_fd ws _ _); rw [s1.2]
  have cr_0_2 : ta (w_ar ws (n_v vs 0) 2) = some 152 := tv_rg (th_fd hD hth r0 (g := GG_150) rfl (k := 2) (t := (2, 0, 0, [152])) rfl rfl)
  have ar_0_74_1 : w_ar w1 (n_v vs 0) 74 = w_ar ws (n_v vs 0) 74 := by show v_ad (w_fd w1 _ _) = v_ad (w_fd ws _ _); rw [s1.2]
  have cr_0_74 : ta (w_ar ws (n_v vs 0) 74) = some 199 := tv_rg (th_fd hD hth r0 (g := GG_150) rfl (k := 74) (t := (2, 0, 0, [199])) rfl rfl)
  have ar_0_127_1 : w_ar w1 (n_v vs 0) 127 = w_ar ws (n_v vs 0) 127 := by show v_ad (w_fd w1 _ _) = v_ad (w_fd ws _ _); rw [s1.2]
  have cr_0_127 : ta (w_ar ws (n_v vs 0) 127) = some 242 := tv_rg (th_fd hD hth r0 (g := GG_150) rfl (k := 127) (t := (2, 0, 0, [242])) rfl rfl)
  have ar_0_128_1 : w_ar w1 (n_v vs 0) 128 = w_ar ws (n_v vs 0) 128 := by show v_ad (w_fd w1 _ _) = v_ad (w_fd ws _ _); rw [s1.2]
  have cr_0_128 : ta (w_ar ws (n_v vs 0) 128) = some 243 := tv_rg (th_fd hD hth r0 (g := GG_150) rfl (k := 128) (t := (2, 0, 0, [243])) rfl rfl)
  have fi_0_5_1 : w_fi w1 (n_v vs 0) 5 = w_fi ws (n_v vs 0) 5 := by show v_iv (w_fd w1 _ _) = v_iv (w_fd ws _ _); rw [s1.2]
  have ad_8 : v_ad (n_v vs 8) = w_ar ws (n_v vs 0) 74 := (congrArg v_ad f5).trans ar_0_74_1
  rw [ar_0_2_1] at f7
  rw [fi_0_5_1] at f7
  rw [ar_0_2_1] at f8
  rw [fi_0_5_1] at f8
  rw [ar_0_2_1] at f9
  rw [ar_0_127_1] at f9
  rw [ar_0_128_1] at f9
  have fe_0_5_1 : w_fi ws (n_v vs 0) 5 = w_fi w1 (n_v vs 0) 5 := congrArg v_iv (s1.2 _ _)
  have ee_0_2_F5_0_1 : w_el ws (w_ar ws (n_v vs 0) 2) (w_fi ws (n_v vs 0) 5 + 0).toNat = w_el w1 (w_ar ws (n_v vs 0) 2) (w_fi ws (n_v vs 0) 5 + 0).toNat := by rw [s1.1, if_neg (fun e => by have e1 := e.1; rw [← e1] at r8; rw [cr_0_2] at r8; exact absurd (Option.some.inj r8) (by decide))]
  have br_0_2_F5_0_0 : w_ei ws (w_ar ws (n_v vs 0) 2) (w_fi ws (n_v vs 0) 5 + 0) = w_el ws (w_ar ws (n_v vs 0) 2) (w_fi ws (n_v vs 0) 5 + 0).toNat := rfl
  have br_0_2_F5_0_1 : w_ei w1 (w_ar ws (n_v vs 0) 2) (w_fi ws (n_v vs 0) 5 + 0) = w_el w1 (w_ar ws (n_v vs 0) 2) (w_fi ws (n_v vs 0) 5 + 0).toNat := rfl
  have hE_0_2_1 : ∀ j : Int, w_ei ws (w_ar ws (n_v vs 0) 2) j = w_ei w1 (w_ar ws (n_v vs 0) 2) j := fun j => by unfold w_ei; rw [s1.1, if_neg (fun e => by have e1 := e.1; rw [← e1] at r8; rw [cr_0_2] at r8; exact absurd (Option.some.inj r8) (by decide))]
  have hE_0_127_1 : ∀ j : Int, w_ei ws (w_ar ws (n_v vs 0) 127) j = w_ei w1 (w_ar ws (n_v vs 0) 127) j := fun j => by unfold w_ei; rw [s1.1, if_neg (fun e => by have e1 := e.1; rw [← e1] at r8; rw [cr_0_127] at r8; exact absurd (Option.some.inj r8) (by decide))]
  have hK_0_127 : ∀ j : Int, 0 ≤ j → j < 26 → (-1) ≤ w_ei ws (w_ar ws (n_v vs 0) 127) j ∧ w_ei ws (w_ar ws (n_v vs 0) 127) j ≤ 23 := fun j h0 h1 => th_el hD hth cr_0_127 (kd := 0) (n := 26) (m := 26) (lo := (-1)) (hi := 23) (rs := []) (L := []) rfl (by decide) (j := j.toNat) (by omega)
  have hE_0_128_1 : ∀ j : Int, w_ei ws (w_ar ws (n_v vs 0) 128) j = w_ei w1 (w_ar ws (n_v vs 0) 128) j := fun j => by unfold w_ei; rw [s1.1, if_neg (fun e => by have e1 := e.1; rw [← e1] at r8; rw [cr_0_128] at r8; exact absurd (Option.some.inj r8) (by decide))]
  have hK_0_128 : ∀ j : Int, 0 ≤ j → j < 26 → (-23) ≤ w_ei ws (w_ar ws (n_v vs 0) 128) j ∧ w_ei ws (w_ar ws (n_v vs 0) 128) j ≤ 24 := fun j h0 h1 => th_el hD hth cr_0_128 (kd := 0) (n := 26) (m := 26) (lo := (-23)) (hi := 24) (rs := []) (L := []) rfl (by decide) (j := j.toNat) (by omega)
  have nf0 : fc_1 (20, [0], [50, 1, 3, 5, 2, 128, 127, 5, 2, 0, 24, 4, 14, 0, 6, 4, 2, 7, 0, 0, 1, 3, 0, 2, 2, 0, 5, 2, 9, 0, 2, 0, -1, 3, 0, 128, 7, 0, 2, 9, 0, 5, 3, 0, 128, 7, 0, 0, 24, 4, 9, 0, 2, 0, 0, 3, 0, 127, 7, 0, 2, 17, 0, 9, 4, 5, 3, 0, 127, 7, 0, 0, 1, 3, 0, 2, 2, 0, 5, 2, 12, 0, 2, 0, 0, 3, 0, 128, 3, 0, 127, 7, 0, 0, 12, 4, 8, 3, 0, 128, 3, 0, 127, 7, 0, 0, 1, 3, 0, 128, 7, 0]) ws (vs) := by
    refine ⟨fun n hn => ?_, ?_⟩
    · have hn : n ∈ [0] := hn
      rw [hl]
      simp only [List.mem_cons, List.not_mem_nil, or_false] at hn
      show n < 10; omega
    · show ∀ j0 : Int, 0 ≤ j0 → j0 < 24 → (((j0 + 1) ≤ w_ei ws (w_ar ws (n_v vs 0) 2) (w_fi ws (n_v vs 0) 5)) → (((-1) ≤ w_ei ws (w_ar ws (n_v vs 0) 128) (j0)) ∧ ((w_ei ws (w_ar ws (n_v vs 0) 128) (j0) ≤ 24) ∧ ((0 ≤ w_ei ws (w_ar ws (n_v vs 0) 127) (j0)) → (((w_ei ws (w_ar ws (n_v vs 0) 127) (j0) + 1) ≤ w_ei ws (w_ar ws (n_v vs 0) 2) (w_fi ws (n_v vs 0) 5)) ∧ ((0 ≤ w_ei ws (w_ar ws (n_v vs 0) 128) (w_ei ws (w_ar ws (n_v vs 0) 127) (j0))) ∧ ((w_ei ws (w_ar ws (n_v vs 0) 128) (w_ei ws (w_ar ws (n_v vs 0) 127) (j0)) + 1) ≤ w_ei ws (w_ar ws (n_v vs 0) 128) (j0))))))))
      first | omega | grind
  refine ⟨(fun _ h => (by cases h)), [], trivial, ?_, (fun _ h => (by cases h))⟩
  rw [List.append_nil]
  exact List.forall_mem_cons.mpr ⟨⟨show (20 : Nat) < 100 from by decide, nf0⟩, (fun _ h => (by cases h))⟩
def n_Mo_children_an : List an_T := [(7, [(0, (2, 0, 0, [150])), (1, (0, 0, 23, [])), (2, (0, -1, 23, [])), (3, (0, -1, 23, [])), (4, (0, 0, 24, []))], [], (0, 0), [(0, 0, 99993), (1, 6, 24), (0, 0, 100000)], [(1, 3, -1000000000000, 0), (1, 4, -1000000000000, 24), (1, 5, -1000000000000, 24), (1, 6, -1000000000000, 23), (3, 1, -1000000000000, 0), (3, 4, -1000000000000, 24), (3, 5, -1000000000000, 24), (3, 6, -1000000000000, 23), (4, 5, -1000000000000, 0), (4, 6, -1000000000000, -1), (5, 6, -1000000000000, -1)], [], [(2, 0, 0, [150]), (0, 0, 23, [])], 0, [], [(20, [2], [50, 1, 3, 5, 2, 128, 127, 5, 2, 0, 24, 4, 14, 0, 6, 4, 2, 7, 0, 0, 1, 3, 0, 2, 2, 0, 5, 2, 9, 0, 2, 0, -1, 3, 0, 128, 7, 0, 2, 9, 0, 5, 3, 0, 128, 7, 0, 0, 24, 4, 9, 0, 2, 0, 0, 3, 0, 127, 7, 0, 2, 17, 0, 9, 4, 5, 3, 0, 127, 7, 0, 0, 1, 3, 0, 2, 2, 0, 5, 2, 12, 0, 2, 0, 0, 3, 0, 128, 3, 0, 127, 7, 0, 0, 12, 4, 8, 3, 0, 128, 3, 0, 127, 7, 0, 0, 1, 3, 0, 128, 7, 0]), (24, [0, 2], [])])]
def t_Mo_children_ct : ct_L := [(1, 475, e_Mo_nodes), (1, 951, e_Mo_nearer), (255, 931, e_jMath_floorDiv1_v39)]
set_option maxRecDepth 100000 in
theorem c_Mo_children {l : Launch} {D : va_G} {kA : Nat → ClassId} (h_Mo_nearer : ct_ok l D kA GG y_Mo_nearer z_Mo_nearer e_Mo_nearer) (h_Mo_nodes : ct_ok l D kA GG y_Mo_nodes z_Mo_nodes e_Mo_nodes) : ct_ok l D kA GG y_Mo_children z_Mo_children e_Mo_children := chk_all_ok (FT := [(159, 13, 74), (290, 13, 127)]) (PT := []) (CT := t_Mo_children_ct) (KT := []) (NT := []) (AN := n_Mo_children_an) (OT := [o_Mo_children_0, o_Mo_children_1, o_Mo_children_2]) 3 236 (List.forall_mem_cons.mpr ⟨oo_Mo_children_0, List.forall_mem_cons.mpr ⟨oo_Mo_children_1, List.forall_mem_cons.mpr ⟨oo_Mo_children_2, List.forall_mem_nil _⟩⟩⟩) (by decide +kernel) ⟨List.forall_mem_cons.mpr ⟨gf_Mo_159, List.forall_mem_cons.mpr ⟨gf_Mo_290, List.forall_mem_nil _⟩⟩, List.forall_mem_nil _, List.forall_mem_cons.mpr ⟨cl_virtual (y := y_Mo_nodes) (ci := 13) rfl rfl ⟨_, _, rfl⟩ (by decide +kernel) h_Mo_nodes wm_3025 wm_9 wm_3022 wm_3024 wv_13_3 ⟨by decide, by decide, by decide +kernel⟩ (by decide), List.forall_mem_cons.mpr ⟨cl_virtual (y := y_Mo_nearer) (ci := 13) rfl rfl ⟨_, _, rfl⟩ (by decide +kernel) h_Mo_nearer wm_3572 wm_9 wm_3569 wm_3571 wv_20_12 ⟨by decide, by decide, by decide +kernel⟩ (by decide), List.forall_mem_cons.mpr ⟨cl_static (y := y_jMath_floorDiv1) c_jMath_floorDiv1_v39 wm_1617 wm_10 wm_3556 wm_1616 ⟨by decide, by decide, by decide +kernel⟩ (by decide), List.forall_mem_nil _⟩⟩⟩, List.forall_mem_nil _, List.forall_mem_nil _, GG_pl⟩ (by decide +kernel)
def o_Mo_need_0 : or_T := (32, 7, [(0, (2, 0, 0, [150])), (2, (0, 0, 2000, []))], [(20, [0, 0], [30, 0, 1, 1, 15, -1, 1, 11]), (20, [0], [50, 3, 0, 12, 11, 15, 2, 21, 4, 7, 1, 3, 2, 0, 12, 0, 1, 0, 3, 2, 0, 11, 4, 3, 2, 0, 15, 0, 8, 3, 7, 1, 3, 2, 0, 12, 0, 0, 0, 7, 4, 3, 2, 0, 15, 0, 1, 2, 0, 11]), (20, [2, 0], [30, 0, 1, 0, 0, -1, 1, 11]), (20, [0], [30, -1, -1, 1, 8])], [], [], [(20, [0, 2], [50, 2, 0, 8, 11, 3, 7, 0, 2, 0, 1, 2, 0, 8, 0, 6, 4, 2, 1, 1, 0, 1, 2, 0, 11])], [], [])
theorem oo_Mo_need_0 {kA : Nat → ClassId} : or_ok kA GG o_Mo_need_0 := by
  intro A ta ws vs hD hth hl hk hds hf
  have hl : vs.length = 7 := hl
  have hk : ∀ q ∈ ([(0, (2, 0, 0, [150])), (2, (0, 0, 2000, []))] : List (Nat × tv_T)), tv_ok ta q.2 (n_v vs q.1) := hk
  obtain ⟨t0, hk⟩ := List.forall_mem_cons.mp hk
  have t0 : tv_ok ta (2, 0, 0, [150]) (n_v vs 0) := t0
  have r0 : ta (v_ad (n_v vs 0)) = some 150 := tv_rg t0
  obtain ⟨t2, hk⟩ := List.forall_mem_cons.mp hk
  have t2 : tv_ok ta (0, 0, 2000, []) (n_v vs 2) := t2
  have k2 : 0 ≤ v_iv (n_v vs 2) ∧ v_iv (n_v vs 2) ≤ 2000 := tv_rng t2
  have hf : fc_ok [(20, [0, 0], [30, 0, 1, 1, 15, -1, 1, 11]), (20, [0], [50, 3, 0, 12, 11, 15, 2, 21, 4, 7, 1, 3, 2, 0, 12, 0, 1, 0, 3, 2, 0, 11, 4, 3, 2, 0, 15, 0, 8, 3, 7, 1, 3, 2, 0, 12, 0, 0, 0, 7, 4, 3, 2, 0, 15, 0, 1, 2, 0, 11]), (20, [2, 0], [30, 0, 1, 0, 0, -1, 1, 11]), (20, [0], [30, -1, -1, 1, 8])] ta ws vs := hf
  obtain ⟨f0, hf⟩ := fc_un (show (20 : Nat) < 100 from by decide) hf
  have f0 : 1 * w_fi ws (n_v vs 0) 15 + ((-1) * w_fi ws (n_v vs 0) 11 + 0) ≤ 0 := f0
  obtain ⟨f1, hf⟩ := fc_un (show (20 : Nat) < 100 from by decide) hf
  have f1 : ((w_fi ws (n_v vs 0) 12 = 1) → (w_fi ws (n_v vs 0) 11 ≤ (w_fi ws (n_v vs 0) 15 + 8))) ∧ ((w_fi ws (n_v vs 0) 12 = 0) ∨ ((w_fi ws (n_v vs 0) 15 + 1) ≤ w_fi ws (n_v vs 0) 11)) := f1
  obtain ⟨f2, hf⟩ := fc_un (show (20 : Nat) < 100 from by decide) hf
  have f2 : 1 * v_iv (n_v vs 2) + ((-1) * w_fi ws (n_v vs 0) 11 + 0) ≤ 0 := f2
  obtain ⟨f3, hf⟩ := fc_un (show (20 : Nat) < 100 from by decide) hf
  have f3 : (-1) * w_fi ws (n_v vs 0) 8 + 0 ≤ (-1) := f3
  have kz_0_8 : 0 ≤ w_fi ws (n_v vs 0) 8 ∧ w_fi ws (n_v vs 0) 8 ≤ 5 := tv_rng (th_fd hD hth r0 (g := GG_150) rfl (k := 8) (t := (0, 0, 5, [])) rfl rfl)
  have kz_0_11 : 0 ≤ w_fi ws (n_v vs 0) 11 ∧ w_fi ws (n_v vs 0) 11 ≤ 2000 := tv_rng (th_fd hD hth r0 (g := GG_150) rfl (k := 11) (t := (0, 0, 2000, [])) rfl rfl)
  have kz_0_12 : 0 ≤ w_fi ws (n_v vs 0) 12 ∧ w_fi ws (n_v vs 0) 12 ≤ 4 := tv_rng (th_fd hD hth r0 (g := GG_150) rfl (k := 12) (t := (0, 0, 4, [])) rfl rfl)
  have kz_0_15 : 0 ≤ w_fi ws (n_v vs 0) 15 ∧ w_fi ws (n_v vs 0) 15 ≤ 2000 := tv_rng (th_fd hD hth r0 (g := GG_150) rfl (k := 15) (t := (0, 0, 2000, [])) rfl rfl)
  have nf0 : fc_1 (20, [0, 2], [50, 2, 0, 8, 11, 3, 7, 0, 2, 0, 1, 2, 0, 8, 0, 6, 4, 2, 1, 1, 0, 1, 2, 0, 11]) ws (vs) := by
    refine ⟨fun n hn => ?_, ?_⟩
    · have hn : n ∈ [0, 2] := hn
      rw [hl]
      simp only [List.mem_cons, List.not_mem_nil, or_false] at hn
      show n < 7; omega
    · show (1 ≤ w_fi ws (n_v vs 0) 8) ∨ ((v_iv (n_v vs 2) + 1) ≤ w_fi ws (n_v vs 0) 11)
      first | omega | grind
  refine ⟨(fun _ h => (by cases h)), [], trivial, ?_, (fun _ h => (by cases h))⟩
  rw [List.append_nil]
  exact List.forall_mem_cons.mpr ⟨⟨show (20 : Nat) < 100 from by decide, nf0⟩, (fun _ h => (by cases h))⟩
def o_Mo_need_1 : or_T := (17, 5, [(0, (2, 0, 0, [150])), (2, (0, 0, 2000, [])), (3, (0, 0, 0, [])), (4, (0, 1, 1, []))], [(8, [4], [1]), (20, [4, 0], [50, 2, 0, 1012, 1008, 4, 6, 1, 2, 1, 0, 0, 1, 2, 7, 1, 3, 2, 1, 12, 0, 3, 1, 3, 2, 1, 8, 0, 0]), (8, [3], [5]), (9, [3, 0], [8]), (20, [0, 0], [30, 0, 1, 1, 15, -1, 1, 11]), (20, [0], [50, 3, 0, 12, 11, 15, 2, 21, 4, 7, 1, 3, 2, 0, 12, 0, 1, 0, 3, 2, 0, 11, 4, 3, 2, 0, 15, 0, 8, 3, 7, 1, 3, 2, 0, 12, 0, 0, 0, 7, 4, 3, 2, 0, 15, 0, 1, 2, 0, 11]), (20, [2, 0], [30, 0, 1, 0, 0, -1, 1, 11]), (20, [0, 2], [50, 3, 0, 8, 12, 11, 3, 7, 0, 2, 0, 1, 2, 0, 8, 3, 7, 1, 3, 2, 0, 12, 0, 0, 0, 6, 4, 2, 1, 1, 0, 1, 2, 0, 11])], [], [(0, 0, 2000, [])], [(20, [5, 0], [30, 0, 1, 0, 0, -1, 1, 11]), (23, [2, 5], [-1, 1, -1])], [], [])
theorem oo_Mo_need_1 {kA : Nat → ClassId} : or_ok kA GG o_Mo_need_1 := by
  intro A ta ws vs hD hth hl hk hds hf
  have hl : vs.length = 5 := hl
  have hk : ∀ q ∈ ([(0, (2, 0, 0, [150])), (2, (0, 0, 2000, [])), (3, (0, 0, 0, [])), (4, (0, 1, 1, []))] : List (Nat × tv_T)), tv_ok ta q.2 (n_v vs q.1) := hk
  obtain ⟨t0, hk⟩ := List.forall_mem_cons.mp hk
  have t0 : tv_ok ta (2, 0, 0, [150]) (n_v vs 0) := t0
  have r0 : ta (v_ad (n_v vs 0)) = some 150 := tv_rg t0
  obtain ⟨t2, hk⟩ := List.forall_mem_cons.mp hk
  have t2 : tv_ok ta (0, 0, 2000, []) (n_v vs 2) := t2
  have k2 : 0 ≤ v_iv (n_v vs 2) ∧ v_iv (n_v vs 2) ≤ 2000 := tv_rng t2
  obtain ⟨t3, hk⟩ := List.forall_mem_cons.mp hk
  have t3 : tv_ok ta (0, 0, 0, []) (n_v vs 3) := t3
  have k3 : 0 ≤ v_iv (n_v vs 3) ∧ v_iv (n_v vs 3) ≤ 0 := tv_rng t3
  obtain ⟨t4, hk⟩ := List.forall_mem_cons.mp hk
  have t4 : tv_ok ta (0, 1, 1, []) (n_v vs 4) := t4
  have k4 : 1 ≤ v_iv (n_v vs 4) ∧ v_iv (n_v vs 4) ≤ 1 := tv_rng t4
  have hf : fc_ok [(8, [4], [1]), (20, [4, 0], [50, 2, 0, 1012, 1008, 4, 6, 1, 2, 1, 0, 0, 1, 2, 7, 1, 3, 2, 1, 12, 0, 3, 1, 3, 2, 1, 8, 0, 0]), (8, [3], [5]), (9, [3, 0], [8]), (20, [0, 0], [30, 0, 1, 1, 15, -1, 1, 11]), (20, [0], [50, 3, 0, 12, 11, 15, 2, 21, 4, 7, 1, 3, 2, 0, 12, 0, 1, 0, 3, 2, 0, 11, 4, 3, 2, 0, 15, 0, 8, 3, 7, 1, 3, 2, 0, 12, 0, 0, 0, 7, 4, 3, 2, 0, 15, 0, 1, 2, 0, 11]), (20, [2, 0], [30, 0, 1, 0, 0, -1, 1, 11]), (20, [0, 2], [50, 3, 0, 8, 12, 11, 3, 7, 0, 2, 0, 1, 2, 0, 8, 3, 7, 1, 3, 2, 0, 12, 0, 0, 0, 6, 4, 2, 1, 1, 0, 1, 2, 0, 11])] ta ws vs := hf
  obtain ⟨f0, hf⟩ := fc_un (show (8 : Nat) < 100 from by decide) hf
  have f0 : v_iv (n_v vs 4) ≠ 0 := f0
  obtain ⟨f1, hf⟩ := fc_un (show (20 : Nat) < 100 from by decide) hf
  have f1 : (v_iv (n_v vs 4) = 1) → ((w_fi ws (n_v vs 0) 12 = 3) ∧ (w_fi ws (n_v vs 0) 8 = 0)) := f1
  obtain ⟨f2, hf⟩ := fc_un (show (8 : Nat) < 100 from by decide) hf
  have f2 : v_iv (n_v vs 3) ≤ 0 := f2
  obtain ⟨f3, hf⟩ := fc_un (show (9 : Nat) < 100 from by decide) hf
  have f3 : n_v vs 3 = w_fd ws (v_ad (n_v vs 0)) 8 := f3
  obtain ⟨f4, hf⟩ := fc_un (show (20 : Nat) < 100 from by decide) hf
  have f4 : 1 * w_fi ws (n_v vs 0) 15 + ((-1) * w_fi ws (n_v vs 0) 11 + 0) ≤ 0 := f4
  obtain ⟨f5, hf⟩ := fc_un (show (20 : Nat) < 100 from by decide) hf
  have f5 : ((w_fi ws (n_v vs 0) 12 = 1) → (w_fi ws (n_v vs 0) 11 ≤ (w_fi ws (n_v vs 0) 15 + 8))) ∧ ((w_fi ws (n_v vs 0) 12 = 0) ∨ ((w_fi ws (n_v vs 0) 15 + 1) ≤ w_fi ws (n_v vs 0) 11)) := f5
  obtain ⟨f6, hf⟩ := fc_un (show (20 : Nat) < 100 from by decide) hf
  have f6 : 1 * v_iv (n_v vs 2) + ((-1) * w_fi ws (n_v vs 0) 11 + 0) ≤ 0 := f6
  obtain ⟨f7, hf⟩ := fc_un (show (20 : Nat) < 100 from by decide) hf
  have f7 : (1 ≤ w_fi ws (n_v vs 0) 8) ∨ ((w_fi ws (n_v vs 0) 12 = 0) ∨ ((v_iv (n_v vs 2) + 1) ≤ w_fi ws (n_v vs 0) 11)) := f7
  have g3 : v_iv (n_v vs 3) = w_fi ws (n_v vs 0) 8 := congrArg v_iv f3
  have kz_0_8 : 0 ≤ w_fi ws (n_v vs 0) 8 ∧ w_fi ws (n_v vs 0) 8 ≤ 5 := tv_rng (th_fd hD hth r0 (g := GG_150) rfl (k := 8) (t := (0, 0, 5, [])) rfl rfl)
  have kz_0_11 : 0 ≤ w_fi ws (n_v vs 0) 11 ∧ w_fi ws (n_v vs 0) 11 ≤ 2000 := tv_rng (th_fd hD hth r0 (g := GG_150) rfl (k := 11) (t := (0, 0, 2000, [])) rfl rfl)
  have kz_0_12 : 0 ≤ w_fi ws (n_v vs 0) 12 ∧ w_fi ws (n_v vs 0) 12 ≤ 4 := tv_rng (th_fd hD hth r0 (g := GG_150) rfl (k := 12) (t := (0, 0, 4, [])) rfl rfl)
  have kz_0_15 : 0 ≤ w_fi ws (n_v vs 0) 15 ∧ w_fi ws (n_v vs 0) 15 ≤ 2000 := tv_rng (th_fd hD hth r0 (g := GG_150) rfl (k := 15) (t := (0, 0, 2000, [])) rfl rfl)
  have kv0 : 0 ≤ w_fi ws (n_v vs 0) 11 ∧ w_fi ws (n_v vs 0) 11 ≤ 2000 := tv_rng (th_fd hD hth r0 (g := GG_150) rfl (k := 11) (t := (0, 0, 2000, [])) rfl rfl)
  obtain ⟨x, ex, hx⟩ := iv_ex (ta := ta) (lo := 0) (hi := 2000) (z := w_fi ws (n_v vs 0) 11) (by omega) (by omega) (by omega) (by omega)
  have ex2 : v_iv (Value.int x) = w_fi ws (n_v vs 0) 11 := ex
  have ex3 : 0 ≤ v_iv (Value.int x) ∧ v_iv (Value.int x) ≤ 2000 := tv_rng hx
  have e_0 : n_v (vs ++ [Value.int x]) 0 = n_v vs 0 := n_v_old (by rw [hl]; decide)
  have e_2 : n_v (vs ++ [Value.int x]) 2 = n_v vs 2 := n_v_old (by rw [hl]; decide)
  have e_5 : n_v (vs ++ [Value.int x]) 5 = Value.int x := n_v_new hl
  have nf0 : fc_1 (20, [5, 0], [30, 0, 1, 0, 0, -1, 1, 11]) ws (vs ++ [Value.int x]) := by
    refine ⟨fun n hn => ?_, ?_⟩
    · have hn : n ∈ [5, 0] := hn
      rw [List.length_append, hl]
      simp only [List.mem_cons, List.not_mem_nil, or_false] at hn
      show n < 5 + 1; omega
    · show 1 * v_iv (n_v (vs ++ [Value.int x]) 5) + ((-1) * w_fi ws (n_v (vs ++ [Value.int x]) 0) 11 + 0) ≤ 0
      rw [e_0]
      rw [e_5]
      omega
  have nf1 : fc_1 (23, [2, 5], [-1, 1, -1]) ws (vs ++ [Value.int x]) := by
    refine ⟨fun n hn => ?_, ?_⟩
    · have hn : n ∈ [2, 5] := hn
      rw [List.length_append, hl]
      simp only [List.mem_cons, List.not_mem_nil, or_false] at hn
      show n < 5 + 1; omega
    · show 1 * v_iv (n_v (vs ++ [Value.int x]) 2) + ((-1) * v_iv (n_v (vs ++ [Value.int x]) 5) + 0) ≤ (-1)
      rw [e_2]
      rw [e_5]
      omega
  exact ⟨(fun _ h => (by cases h)), [Value.int x], ag_one hx, List.forall_mem_cons.mpr ⟨⟨show (20 : Nat) < 100 from by decide, nf0⟩, List.forall_mem_cons.mpr ⟨⟨show (23 : Nat) < 100 from by decide, nf1⟩, (fun _ h => (by cases h))⟩⟩, (fun _ h => (by cases h))⟩
def o_Mo_need_2 : or_T := (32, 6, [(0, (2, 0, 0, [150])), (2, (0, 0, 2000, [])), (5, (0, 0, 2000, []))], [(23, [2, 5], [-1, 1, -1]), (20, [0, 0], [30, 0, 1, 1, 15, -1, 1, 11]), (20, [0], [50, 3, 0, 12, 11, 15, 2, 21, 4, 7, 1, 3, 2, 0, 12, 0, 1, 0, 3, 2, 0, 11, 4, 3, 2, 0, 15, 0, 8, 3, 7, 1, 3, 2, 0, 12, 0, 0, 0, 7, 4, 3, 2, 0, 15, 0, 1, 2, 0, 11]), (20, [5, 0], [30, 0, 1, 0, 0, -1, 1, 15]), (102, [5], [0, 13011, 13012, 13013, 13014, 13015]), (23, [2, 5], [-1, 1, -1])], [], [], [(20, [2, 0], [30, 0, 1, 0, 0, -1, 1, 11]), (20, [0, 2], [50, 2, 0, 8, 11, 3, 7, 0, 2, 0, 1, 2, 0, 8, 0, 6, 4, 2, 1, 1, 0, 1, 2, 0, 11])], [], [])
theorem oo_Mo_need_2 {kA : Nat → ClassId} : or_ok kA GG o_Mo_need_2 := by
  intro A ta ws vs hD hth hl hk hds hf
  have hl : vs.length = 6 := hl
  have hk : ∀ q ∈ ([(0, (2, 0, 0, [150])), (2, (0, 0, 2000, [])), (5, (0, 0, 2000, []))] : List (Nat × tv_T)), tv_ok ta q.2 (n_v vs q.1) := hk
  obtain ⟨t0, hk⟩ := List.forall_mem_cons.mp hk
  have t0 : tv_ok ta (2, 0, 0, [150]) (n_v vs 0) := t0
  have r0 : ta (v_ad (n_v vs 0)) = some 150 := tv_rg t0
  obtain ⟨t2, hk⟩ := List.forall_mem_cons.mp hk
  have t2 : tv_ok ta (0, 0, 2000, []) (n_v vs 2) := t2
  have k2 : 0 ≤ v_iv (n_v vs 2) ∧ v_iv (n_v vs 2) ≤ 2000 := tv_rng t2
  obtain ⟨t5, hk⟩ := List.forall_mem_cons.mp hk
  have t5 : tv_ok ta (0, 0, 2000, []) (n_v vs 5) := t5
  have k5 : 0 ≤ v_iv (n_v vs 5) ∧ v_iv (n_v vs 5) ≤ 2000 := tv_rng t5
  have hf : fc_ok [(23, [2, 5], [-1, 1, -1]), (20, [0, 0], [30, 0, 1, 1, 15, -1, 1, 11]), (20, [0], [50, 3, 0, 12, 11, 15, 2, 21, 4, 7, 1, 3, 2, 0, 12, 0, 1, 0, 3, 2, 0, 11, 4, 3, 2, 0, 15, 0, 8, 3, 7, 1, 3, 2, 0, 12, 0, 0, 0, 7, 4, 3, 2, 0, 15, 0, 1, 2, 0, 11]), (20, [5, 0], [30, 0, 1, 0, 0, -1, 1, 15]), (102, [5], [0, 13011, 13012, 13013, 13014, 13015]), (23, [2, 5], [-1, 1, -1])] ta ws vs := hf
  obtain ⟨f0, hf⟩ := fc_un (show (23 : Nat) < 100 from by decide) hf
  have f0 : 1 * v_iv (n_v vs 2) + ((-1) * v_iv (n_v vs 5) + 0) ≤ (-1) := f0
  obtain ⟨f1, hf⟩ := fc_un (show (20 : Nat) < 100 from by decide) hf
  have f1 : 1 * w_fi ws (n_v vs 0) 15 + ((-1) * w_fi ws (n_v vs 0) 11 + 0) ≤ 0 := f1
  obtain ⟨f2, hf⟩ := fc_un (show (20 : Nat) < 100 from by decide) hf
  have f2 : ((w_fi ws (n_v vs 0) 12 = 1) → (w_fi ws (n_v vs 0) 11 ≤ (w_fi ws (n_v vs 0) 15 + 8))) ∧ ((w_fi ws (n_v vs 0) 12 = 0) ∨ ((w_fi ws (n_v vs 0) 15 + 1) ≤ w_fi ws (n_v vs 0) 11)) := f2
  obtain ⟨f3, hf⟩ := fc_un (show (20 : Nat) < 100 from by decide) hf
  have f3 : 1 * v_iv (n_v vs 5) + ((-1) * w_fi ws (n_v vs 0) 15 + 0) ≤ 0 := f3
  obtain ⟨ta1, w1, le1, ⟨_, s1⟩, hf⟩ := fc_us (show ¬ (102 : Nat) < 100 from by decide) hf
  obtain ⟨f5, hf⟩ := fc_un (show (23 : Nat) < 100 from by decide) hf
  have f5 : 1 * v_iv (n_v vs 2) + ((-1) * v_iv (n_v vs 5) + 0) ≤ (-1) := f5
  have kz_0_8 : 0 ≤ w_fi ws (n_v vs 0) 8 ∧ w_fi ws (n_v vs 0) 8 ≤ 5 := tv_rng (th_fd hD hth r0 (g := GG_150) rfl (k := 8) (t := (0, 0, 5, [])) rfl rfl)
  have kz_0_11 : 0 ≤ w_fi ws (n_v vs 0) 11 ∧ w_fi ws (n_v vs 0) 11 ≤ 2000 := tv_rng (th_fd hD hth r0 (g := GG_150) rfl (k := 11) (t := (0, 0, 2000, [])) rfl rfl)
  have kz_0_12 : 0 ≤ w_fi ws (n_v vs 0) 12 ∧ w_fi ws (n_v vs 0) 12 ≤ 4 := tv_rng (th_fd hD hth r0 (g := GG_150) rfl (k := 12) (t := (0, 0, 4, [])) rfl rfl)
  have kz_0_15 : 0 ≤ w_fi ws (n_v vs 0) 15 ∧ w_fi ws (n_v vs 0) 15 ≤ 2000 := tv_rng (th_fd hD hth r0 (g := GG_150) rfl (k := 15) (t := (0, 0, 2000, [])) rfl rfl)
  have nf0 : fc_1 (20, [2, 0], [30, 0, 1, 0, 0, -1, 1, 11]) ws (vs) := by
    refine ⟨fun n hn => ?_, ?_⟩
    · have hn : n ∈ [2, 0] := hn
      rw [hl]
      simp only [List.mem_cons, List.not_mem_nil, or_false] at hn
      show n < 6; omega
    · show 1 * v_iv (n_v vs 2) + ((-1) * w_fi ws (n_v vs 0) 11 + 0) ≤ 0
      omega
  have nf1 : fc_1 (20, [0, 2], [50, 2, 0, 8, 11, 3, 7, 0, 2, 0, 1, 2, 0, 8, 0, 6, 4, 2, 1, 1, 0, 1, 2, 0, 11]) ws (vs) := by
    refine ⟨fun n hn => ?_, ?_⟩
    · have hn : n ∈ [0, 2] := hn
      rw [hl]
      simp only [List.mem_cons, List.not_mem_nil, or_false] at hn
      show n < 6; omega
    · show (1 ≤ w_fi ws (n_v vs 0) 8) ∨ ((v_iv (n_v vs 2) + 1) ≤ w_fi ws (n_v vs 0) 11)
      first | omega | grind
  refine ⟨(fun _ h => (by cases h)), [], trivial, ?_, (fun _ h => (by cases h))⟩
  rw [List.append_nil]
  exact List.forall_mem_cons.mpr ⟨⟨show (20 : Nat) < 100 from by decide, nf0⟩, List.forall_mem_cons.mpr ⟨⟨show (20 : Nat) < 100 from by decide, nf1⟩, (fun _ h => (by cases h))⟩⟩
def o_Mo_need_3 : or_T := (7, 4, [(0, (2, 0, 0, [150])), (2, (0, 0, 2000, [])), (3, (0, 1, 5, []))], [(8, [3], [4]), (9, [3, 0], [8]), (20, [0, 0], [30, 0, 1, 1, 15, -1, 1, 11]), (20, [0], [50, 3, 0, 12, 11, 15, 2, 21, 4, 7, 1, 3, 2, 0, 12, 0, 1, 0, 3, 2, 0, 11, 4, 3, 2, 0, 15, 0, 8, 3, 7, 1, 3, 2, 0, 12, 0, 0, 0, 7, 4, 3, 2, 0, 15, 0, 1, 2, 0, 11]), (20, [2, 0], [30, 0, 1, 0, 0, -1, 1, 11]), (20, [0, 2], [50, 3, 0, 8, 12, 11, 3, 7, 0, 2, 0, 1, 2, 0, 8, 3, 7, 1, 3, 2, 0, 12, 0, 0, 0, 6, 4, 2, 1, 1, 0, 1, 2, 0, 11])], [], [], [(20, [0, 2], [50, 2, 0, 8, 11, 3, 7, 0, 2, 0, 1, 2, 0, 8, 0, 6, 4, 2, 1, 1, 0, 1, 2, 0, 11])], [], [])
theorem oo_Mo_need_3 {kA : Nat → ClassId} : or_ok kA GG o_Mo_need_3 := by
  intro A ta ws vs hD hth hl hk hds hf
  have hl : vs.length = 4 := hl
  have hk : ∀ q ∈ ([(0, (2, 0, 0, [150])), (2, (0, 0, 2000, [])), (3, (0, 1, 5, []))] : List (Nat × tv_T)), tv_ok ta q.2 (n_v vs q.1) := hk
  obtain ⟨t0, hk⟩ := List.forall_mem_cons.mp hk
  have t0 : tv_ok ta (2, 0, 0, [150]) (n_v vs 0) := t0
  have r0 : ta (v_ad (n_v vs 0)) = some 150 := tv_rg t0
  obtain ⟨t2, hk⟩ := List.forall_mem_cons.mp hk
  have t2 : tv_ok ta (0, 0, 2000, []) (n_v vs 2) := t2
  have k2 : 0 ≤ v_iv (n_v vs 2) ∧ v_iv (n_v vs 2) ≤ 2000 := tv_rng t2
  obtain ⟨t3, hk⟩ := List.forall_mem_cons.mp hk
  have t3 : tv_ok ta (0, 1, 5, []) (n_v vs 3) := t3
  have k3 : 1 ≤ v_iv (n_v vs 3) ∧ v_iv (n_v vs 3) ≤ 5 := tv_rng t3
  have hf : fc_ok [(8, [3], [4]), (9, [3, 0], [8]), (20, [0, 0], [30, 0, 1, 1, 15, -1, 1, 11]), (20, [0], [50, 3, 0, 12, 11, 15, 2, 21, 4, 7, 1, 3, 2, 0, 12, 0, 1, 0, 3, 2, 0, 11, 4, 3, 2, 0, 15, 0, 8, 3, 7, 1, 3, 2, 0, 12, 0, 0, 0, 7, 4, 3, 2, 0, 15, 0, 1, 2, 0, 11]), (20, [2, 0], [30, 0, 1, 0, 0, -1, 1, 11]), (20, [0, 2], [50, 3, 0, 8, 12, 11, 3, 7, 0, 2, 0, 1, 2, 0, 8, 3, 7, 1, 3, 2, 0, 12, 0, 0, 0, 6, 4, 2, 1, 1, 0, 1, 2, 0, 11])] ta ws vs := hf
  obtain ⟨f0, hf⟩ := fc_un (show (8 : Nat) < 100 from by decide) hf
  have f0 : 0 < v_iv (n_v vs 3) := f0
  obtain ⟨f1, hf⟩ := fc_un (show (9 : Nat) < 100 from by decide) hf
  have f1 : n_v vs 3 = w_fd ws (v_ad (n_v vs 0)) 8 := f1
  obtain ⟨f2, hf⟩ := fc_un (show (20 : Nat) < 100 from by decide) hf
  have f2 : 1 * w_fi ws (n_v vs 0) 15 + ((-1) * w_fi ws (n_v vs 0) 11 + 0) ≤ 0 := f2
  obtain ⟨f3, hf⟩ := fc_un (show (20 : Nat) < 100 from by decide) hf
  have f3 : ((w_fi ws (n_v vs 0) 12 = 1) → (w_fi ws (n_v vs 0) 11 ≤ (w_fi ws (n_v vs 0) 15 + 8))) ∧ ((w_fi ws (n_v vs 0) 12 = 0) ∨ ((w_fi ws (n_v vs 0) 15 + 1) ≤ w_fi ws (n_v vs 0) 11)) := f3
  obtain ⟨f4, hf⟩ := fc_un (show (20 : Nat) < 100 from by decide) hf
  have f4 : 1 * v_iv (n_v vs 2) + ((-1) * w_fi ws (n_v vs 0) 11 + 0) ≤ 0 := f4
  obtain ⟨f5, hf⟩ := fc_un (show (20 : Nat) < 100 from by decide) hf
  have f5 : (1 ≤ w_fi ws (n_v vs 0) 8) ∨ ((w_fi ws (n_v vs 0) 12 = 0) ∨ ((v_iv (n_v vs 2) + 1) ≤ w_fi ws (n_v vs 0) 11)) := f5
  have g1 : v_iv (n_v vs 3) = w_fi ws (n_v vs 0) 8 := congrArg v_iv f1
  have kz_0_8 : 0 ≤ w_fi ws (n_v vs 0) 8 ∧ w_fi ws (n_v vs 0) 8 ≤ 5 := tv_rng (th_fd hD hth r0 (g := GG_150) rfl (k := 8) (t := (0, 0, 5, [])) rfl rfl)
  have kz_0_11 : 0 ≤ w_fi ws (n_v vs 0) 11 ∧ w_fi ws (n_v vs 0) 11 ≤ 2000 := tv_rng (th_fd hD hth r0 (g := GG_150) rfl (k := 11) (t := (0, 0, 2000, [])) rfl rfl)
  have kz_0_12 : 0 ≤ w_fi ws (n_v vs 0) 12 ∧ w_fi ws (n_v vs 0) 12 ≤ 4 := tv_rng (th_fd hD hth r0 (g := GG_150) rfl (k := 12) (t := (0, 0, 4, [])) rfl rfl)
  have kz_0_15 : 0 ≤ w_fi ws (n_v vs 0) 15 ∧ w_fi ws (n_v vs 0) 15 ≤ 2000 := tv_rng (th_fd hD hth r0 (g := GG_150) rfl (k := 15) (t := (0, 0, 2000, [])) rfl rfl)
  have nf0 : fc_1 (20, [0, 2], [50, 2, 0, 8, 11, 3, 7, 0, 2, 0, 1, 2, 0, 8, 0, 6, 4, 2, 1, 1, 0, 1, 2, 0, 11]) ws (vs) := by
    refine ⟨fun n hn => ?_, ?_⟩
    · have hn : n ∈ [0, 2] := hn
      rw [hl]
      simp only [List.mem_cons, List.not_mem_nil, or_false] at hn
      show n < 4; omega
    · show (1 ≤ w_fi ws (n_v vs 0) 8) ∨ ((v_iv (n_v vs 2) + 1) ≤ w_fi ws (n_v vs 0) 11)
      first | omega | grind
  refine ⟨(fun _ h => (by cases h)), [], trivial, ?_, (fun _ h => (by cases h))⟩
  rw [List.append_nil]
  exact List.forall_mem_cons.mpr ⟨⟨show (20 : Nat) < 100 from by decide, nf0⟩, (fun _ h => (by cases h))⟩
def n_Mo_need_an : List an_T := []
def t_Mo_need_ct : ct_L := [(1, 457, e_Mo_sign), (1, 460, e_Mo_next), (1, 463, e_Mo_wrong)]
set_option maxRecDepth 100000 in
theorem c_Mo_need {l : Launch} {D : va_G} {kA : Nat → ClassId} (h_Mo_next : ct_ok l D kA GG y_Mo_next z_Mo_next e_Mo_next) (h_Mo_sign : ct_ok l D kA GG y_Mo_sign z_Mo_sign e_Mo_sign) (h_Mo_wrong : ct_ok l D kA GG y_Mo_wrong z_Mo_wrong e_Mo_wrong) : ct_ok l D kA GG y_Mo_need z_Mo_need e_Mo_need := chk_all_ok (FT := [(413, 13, 8), (428, 13, 13)]) (PT := []) (CT := t_Mo_need_ct) (KT := []) (NT := []) (AN := n_Mo_need_an) (OT := [o_Mo_need_0, o_Mo_need_1, o_Mo_need_2, o_Mo_need_3]) 0 200 (List.forall_mem_cons.mpr ⟨oo_Mo_need_0, List.forall_mem_cons.mpr ⟨oo_Mo_need_1, List.forall_mem_cons.mpr ⟨oo_Mo_need_2, List.forall_mem_cons.mpr ⟨oo_Mo_need_3, List.forall_mem_nil _⟩⟩⟩⟩) (by decide +kernel) ⟨List.forall_mem_cons.mpr ⟨gf_Mo_413, List.forall_mem_cons.mpr ⟨gf_Mo_428, List.forall_mem_nil _⟩⟩, List.forall_mem_nil _, List.forall_mem_cons.mpr ⟨cl_virtual (y := y_Mo_sign) (ci := 13) rfl rfl ⟨_, _, rfl⟩ (by decide +kernel) h_Mo_sign wm_3058 wm_9 wm_3055 wm_3057 wv_13_11 ⟨by decide, by decide, by decide +kernel⟩ (by decide), List.forall_mem_cons.mpr ⟨cl_virtual (y := y_Mo_next) (ci := 13) rfl rfl ⟨_, _, rfl⟩ (by decide +kernel) h_Mo_next wm_2982 wm_9 wm_2979 wm_2981 wv_12_11 ⟨by decide, by decide, by decide +kernel⟩ (by decide), List.forall_mem_cons.mpr ⟨cl_virtual (y := y_Mo_wrong) (ci := 13) rfl rfl ⟨_, _, rfl⟩ (by decide +kernel) h_Mo_wrong wm_3017 wm_9 wm_3014 wm_3016 wv_13_1 ⟨by decide, by decide, by decide +kernel⟩ (by decide), List.forall_mem_nil _⟩⟩⟩, List.forall_mem_nil _, List.forall_mem_nil _, GG_pl⟩ (by decide +kernel)
