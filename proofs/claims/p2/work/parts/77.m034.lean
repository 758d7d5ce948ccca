def o_Mo_next_0 : or_T := (0, 2, [(0, (2, 0, 0, [150])), (1, (0, 0, 2000, []))], [(20, [1, 0], [30, 0, 1, 0, 0, -1, 1, 11])], [], [], [(24, [0, 0], [])], [], [])
theorem oo_Mo_next_0 {kA : Nat → ClassId} : or_ok kA GG o_Mo_next_0 := by
  intro A ta ws vs hD hth hl hk hds hf
  have hl : vs.length = 2 := hl
  have hk : ∀ q ∈ ([(0, (2, 0, 0, [150])), (1, (0, 0, 2000, []))] : List (Nat × tv_T)), tv_ok ta q.2 (n_v vs q.1) := hk
  obtain ⟨t0, hk⟩ := List.forall_mem_cons.mp hk
  have t0 : tv_ok ta (2, 0, 0, [150]) (n_v vs 0) := t0
  have r0 : ta (v_ad (n_v vs 0)) = some 150 := tv_rg t0
  obtain ⟨t1, hk⟩ := List.forall_mem_cons.mp hk
  have t1 : tv_ok ta (0, 0, 2000, []) (n_v vs 1) := t1
  have k1 : 0 ≤ v_iv (n_v vs 1) ∧ v_iv (n_v vs 1) ≤ 2000 := tv_rng t1
  have hf : fc_ok [(20, [1, 0], [30, 0, 1, 0, 0, -1, 1, 11])] ta ws vs := hf
  obtain ⟨f0, hf⟩ := fc_un (show (20 : Nat) < 100 from by decide) hf
  have f0 : 1 * v_iv (n_v vs 1) + ((-1) * w_fi ws (n_v vs 0) 11 + 0) ≤ 0 := f0
  have kz_0_11 : 0 ≤ w_fi ws (n_v vs 0) 11 ∧ w_fi ws (n_v vs 0) 11 ≤ 2000 := tv_rng (th_fd hD hth r0 (g := GG_150) rfl (k := 11) (t := (0, 0, 2000, [])) rfl rfl)
  have nf0 : fc_1 (24, [0, 0], []) ws (vs) := by
    refine ⟨fun n hn => ?_, ?_⟩
    · have hn : n ∈ [0, 0] := hn
      rw [hl]
      simp only [List.mem_cons, List.not_mem_nil, or_false] at hn
      show n < 2; omega
    · show n_v vs 0 = n_v vs 0
      first | rfl | simp only [true_and]
  refine ⟨(fun _ h => (by cases h)), [], trivial, ?_, (fun _ h => (by cases h))⟩
  rw [List.append_nil]
  exact List.forall_mem_cons.mpr ⟨⟨show (24 : Nat) < 100 from by decide, nf0⟩, (fun _ h => (by cases h))⟩
def o_Mo_next_1 : or_T := (0, 10, [(0, (2, 0, 0, [150])), (1, (0, 0, 2000, [])), (2, (2, 0, 0, [150])), (3, (0, 0, 1999, [])), (4, (0, -1, -1, [])), (5, (0, 32, 32, [])), (6, (0, 10, 10, [])), (7, (0, 10, 10, [])), (8, (0, 1, 1, [])), (9, (0, 1, 2000, []))], [(20, [3, 2, 6], [50, 1, 1, 1010, 1001, 4, 11, 0, 6, 4, 2, 1, 0, 0, 1, 2, 1, 10, 1, 2, 1, 2, 9, 5, 3, 1, 1, 1, 0, 0, 256]), (20, [2, 3, 6], [50, 1, 0, 10, 4, 7, 0, 3, 2, 0, 10, 1, 1, 1, 2, 1, 2, 0, -1]), (20, [3, 2, 4], [50, 1, 1, 1010, 1001, 4, 11, 0, 6, 4, 2, 1, 0, 0, 1, 2, 1, 10, 1, 2, 1, 2, 9, 5, 3, 1, 1, 1, 0, 0, 256]), (20, [2, 3, 4], [50, 1, 0, 10, 4, 7, 0, 3, 2, 0, 10, 1, 1, 1, 2, 1, 2, 0, -1]), (24, [0, 2], []), (101, [2, 9], [11]), (1, [9, 3, 8], []), (9, [3, 2], [11]), (7, [6, 7], [0]), (20, [3, 2, 6], [50, 1, 1, 1010, 1001, 4, 11, 0, 6, 4, 2, 1, 0, 0, 1, 2, 1, 10, 1, 2, 1, 2, 9, 5, 3, 1, 1, 1, 0, 0, 256]), (20, [2, 3, 6], [50, 1, 0, 10, 4, 7, 0, 3, 2, 0, 10, 1, 1, 1, 2, 1, 2, 0, -1]), (7, [4, 5], [1]), (20, [3, 2, 4], [50, 1, 1, 1010, 1001, 4, 11, 0, 6, 4, 2, 1, 0, 0, 1, 2, 1, 10, 1, 2, 1, 2, 9, 5, 3, 1, 1, 1, 0, 0, 256]), (20, [2, 3, 4], [50, 1, 0, 10, 4, 7, 0, 3, 2, 0, 10, 1, 1, 1, 2, 1, 2, 0, -1]), (20, [1, 2], [30, 0, 1, 0, 0, -1, 1, 11])], [], [], [(20, [1, 2], [30, 0, 1, 0, 0, -1, 1, 11])], [], [(9, 3, 1, 1), (9, 1, -4294967296, 2001), (1, 3, -4294967296, 2000), (3, 1, -4294967296, 2000)])
theorem oo_Mo_next_1 {kA : Nat → ClassId} : or_ok kA GG o_Mo_next_1 := by
  intro A ta ws vs hD hth hl hk hds hf
  have hl : vs.length = 10 := hl
  have hk : ∀ q ∈ ([(0, (2, 0, 0, [150])), (1, (0, 0, 2000, [])), (2, (2, 0, 0, [150])), (3, (0, 0, 1999, [])), (4, (0, -1, -1, [])), (5, (0, 32, 32, [])), (6, (0, 10, 10, [])), (7, (0, 10, 10, [])), (8, (0, 1, 1, [])), (9, (0, 1, 2000, []))] : List (Nat × tv_T)), tv_ok ta q.2 (n_v vs q.1) := hk
  obtain ⟨t0, hk⟩ := List.forall_mem_cons.mp hk
  have t0 : tv_ok ta (2, 0, 0, [150]) (n_v vs 0) := t0
  have r0 : ta (v_ad (n_v vs 0)) = some 150 := tv_rg t0
  obtain ⟨t1, hk⟩ := List.forall_mem_cons.mp hk
  have t1 : tv_ok ta (0, 0, 2000, []) (n_v vs 1) := t1
  have k1 : 0 ≤ v_iv (n_v vs 1) ∧ v_iv (n_v vs 1) ≤ 2000 := tv_rng t1
  obtain ⟨t2, hk⟩ := List.forall_mem_cons.mp hk
  have t2 : tv_ok ta (2, 0, 0, [150]) (n_v vs 2) := t2
  have r2 : ta (v_ad (n_v vs 2)) = some 150 := tv_rg t2
  obtain ⟨t3, hk⟩ := List.forall_mem_cons.mp hk
  have t3 : tv_ok ta (0, 0, 1999, []) (n_v vs 3) := t3
  have k3 : 0 ≤ v_iv (n_v vs 3) ∧ v_iv (n_v vs 3) ≤ 1999 := tv_rng t3
  obtain ⟨t4, hk⟩ := List.forall_mem_cons.mp hk
  have t4 : tv_ok ta (0, -1, -1, []) (n_v vs 4) := t4
  have k4 : (-1) ≤ v_iv (n_v vs 4) ∧ v_iv (n_v vs 4) ≤ (-1) := tv_rng t4
  obtain ⟨t5, hk⟩ := List.forall_mem_cons.mp hk
  have t5 : tv_ok ta (0, 32, 32, []) (n_v vs 5) := t5
  have k5 : 32 ≤ v_iv (n_v vs 5) ∧ v_iv (n_v vs 5) ≤ 32 := tv_rng t5
  obtain ⟨t6, hk⟩ := List.forall_mem_cons.mp hk
  have t6 : tv_ok ta (0, 10, 10, []) (n_v vs 6) := t6
  have k6 : 10 ≤ v_iv (n_v vs 6) ∧ v_iv (n_v vs 6) ≤ 10 := tv_rng t6
  obtain ⟨t7, hk⟩ := List.forall_mem_cons.mp hk
  have t7 : tv_ok ta (0, 10, 10, []) (n_v vs 7) := t7
  have k7 : 10 ≤ v_iv (n_v vs 7) ∧ v_iv (n_v vs 7) ≤ 10 := tv_rng t7
  obtain ⟨t8, hk⟩ := List.forall_mem_cons.mp hk
  have t8 : tv_ok ta (0, 1, 1, []) (n_v vs 8) := t8
  have k8 : 1 ≤ v_iv (n_v vs 8) ∧ v_iv (n_v vs 8) ≤ 1 := tv_rng t8
  obtain ⟨t9, hk⟩ := List.forall_mem_cons.mp hk
  have t9 : tv_ok ta (0, 1, 2000, []) (n_v vs 9) := t9
  have k9 : 1 ≤ v_iv (n_v vs 9) ∧ v_iv (n_v vs 9) ≤ 2000 := tv_rng t9
  have hds : ∀ q ∈ ([(9, 3, 1, 1), (9, 1, -4294967296, 2001), (1, 3, -4294967296, 2000), (3, 1, -4294967296, 2000)] : List of_T), n_iv vs q.2.1 + q.2.2.1 ≤ n_iv vs q.1 ∧ n_iv vs q.1 ≤ n_iv vs q.2.1 + q.2.2.2 := hds
  obtain ⟨d0, hds⟩ := List.forall_mem_cons.mp hds
  have d0 : v_iv (n_v vs 3) + 1 ≤ v_iv (n_v vs 9) ∧ v_iv (n_v vs 9) ≤ v_iv (n_v vs 3) + 1 := d0
  obtain ⟨d1, hds⟩ := List.forall_mem_cons.mp hds
  have d1 : v_iv (n_v vs 1) + (-4294967296) ≤ v_iv (n_v vs 9) ∧ v_iv (n_v vs 9) ≤ v_iv (n_v vs 1) + 2001 := d1
  obtain ⟨d2, hds⟩ := List.forall_mem_cons.mp hds
  have d2 : v_iv (n_v vs 3) + (-4294967296) ≤ v_iv (n_v vs 1) ∧ v_iv (n_v vs 1) ≤ v_iv (n_v vs 3) + 2000 := d2
  obtain ⟨d3, hds⟩ := List.forall_mem_cons.mp hds
  have d3 : v_iv (n_v vs 1) + (-4294967296) ≤ v_iv (n_v vs 3) ∧ v_iv (n_v vs 3) ≤ v_iv (n_v vs 1) + 2000 := d3
  have hf : fc_ok [(20, [3, 2, 6], [50, 1, 1, 1010, 1001, 4, 11, 0, 6, 4, 2, 1, 0, 0, 1, 2, 1, 10, 1, 2, 1, 2, 9, 5, 3, 1, 1, 1, 0, 0, 256]), (20, [2, 3, 6], [50, 1, 0, 10, 4, 7, 0, 3, 2, 0, 10, 1, 1, 1, 2, 1, 2, 0, -1]), (20, [3, 2, 4], [50, 1, 1, 1010, 1001, 4, 11, 0, 6, 4, 2, 1, 0, 0, 1, 2, 1, 10, 1, 2, 1, 2, 9, 5, 3, 1, 1, 1, 0, 0, 256]), (20, [2, 3, 4], [50, 1, 0, 10, 4, 7, 0, 3, 2, 0, 10, 1, 1, 1, 2, 1, 2, 0, -1]), (24, [0, 2], []), (101, [2, 9], [11]), (1, [9, 3, 8], []), (9, [3, 2], [11]), (7, [6, 7], [0]), (20, [3, 2, 6], [50, 1, 1, 1010, 1001, 4, 11, 0, 6, 4, 2, 1, 0, 0, 1, 2, 1, 10, 1, 2, 1, 2, 9, 5, 3, 1, 1, 1, 0, 0, 256]), (20, [2, 3, 6], [50, 1, 0, 10, 4, 7, 0, 3, 2, 0, 10, 1, 1, 1, 2, 1, 2, 0, -1]), (7, [4, 5], [1]), (20, [3, 2, 4], [50, 1, 1, 1010, 1001, 4, 11, 0, 6, 4, 2, 1, 0, 0, 1, 2, 1, 10, 1, 2, 1, 2, 9, 5, 3, 1, 1, 1, 0, 0, 256]), (20, [2, 3, 4], [50, 1, 0, 10, 4, 7, 0, 3, 2, 0, 10, 1, 1, 1, 2, 1, 2, 0, -1]), (20, [1, 2], [30, 0, 1, 0, 0, -1, 1, 11])] ta ws vs := hf
  obtain ⟨f0, hf⟩ := fc_un (show (20 : Nat) < 100 from by decide) hf
  have f0 : ((v_iv (n_v vs 3) + 1) ≤ w_fi ws (n_v vs 2) 10) → (v_iv (n_v vs 6) = (w_ei ws (w_ar ws (n_v vs 2) 1) (v_iv (n_v vs 3)) % 256)) := f0
  obtain ⟨f1, hf⟩ := fc_un (show (20 : Nat) < 100 from by decide) hf
  have f1 : (w_fi ws (n_v vs 2) 10 ≤ v_iv (n_v vs 3)) → (v_iv (n_v vs 6) = (-1)) := f1
  obtain ⟨f2, hf⟩ := fc_un (show (20 : Nat) < 100 from by decide) hf
  have f2 : ((v_iv (n_v vs 3) + 1) ≤ w_fi ws (n_v vs 2) 10) → (v_iv (n_v vs 4) = (w_ei ws (w_ar ws (n_v vs 2) 1) (v_iv (n_v vs 3)) % 256)) := f2
  obtain ⟨f3, hf⟩ := fc_un (show (20 : Nat) < 100 from by decide) hf
  have f3 : (w_fi ws (n_v vs 2) 10 ≤ v_iv (n_v vs 3)) → (v_iv (n_v vs 4) = (-1)) := f3
  obtain ⟨f4, hf⟩ := fc_un (show (24 : Nat) < 100 from by decide) hf
  have f4 : n_v vs 0 = n_v vs 2 := f4
  obtain ⟨ta1, w1, le1, ⟨_, s1⟩, hf⟩ := fc_us (show ¬ (101 : Nat) < 100 from by decide) hf
  have s1 : (∀ b j, w_el ws b j = w_el w1 b j) ∧ ∀ b j, w_fd ws b j = if b = v_ad (n_v vs 2) ∧ j = 11 then n_v vs 9 else w_fd w1 b j := s1
  obtain ⟨f6, hf⟩ := fc_un (show (1 : Nat) < 100 from by decide) hf
  have f6 : v_iv (n_v vs 9) = v_iv (n_v vs 3) + v_iv (n_v vs 8) := f6
  obtain ⟨f7, hf⟩ := fc_un (show (9 : Nat) < 100 from by decide) hf
  have f7 : n_v vs 3 = w_fd w1 (v_ad (n_v vs 2)) 11 := f7
  obtain ⟨f8, hf⟩ := fc_un (show (7 : Nat) < 100 from by decide) hf
  have f8 : v_iv (n_v vs 6) = v_iv (n_v vs 7) := f8
  obtain ⟨f9, hf⟩ := fc_un (show (20 : Nat) < 100 from by decide) hf
  have f9 : ((v_iv (n_v vs 3) + 1) ≤ w_fi w1 (n_v vs 2) 10) → (v_iv (n_v vs 6) = (w_ei w1 (w_ar w1 (n_v vs 2) 1) (v_iv (n_v vs 3)) % 256)) := f9
  obtain ⟨f10, hf⟩ := fc_un (show (20 : Nat) < 100 from by decide) hf
  have f10 : (w_fi w1 (n_v vs 2) 10 ≤ v_iv (n_v vs 3)) → (v_iv (n_v vs 6) = (-1)) := f10
  obtain ⟨f11, hf⟩ := fc_un (show (7 : Nat) < 100 from by decide) hf
  have f11 : v_iv (n_v vs 4) ≠ v_iv (n_v vs 5) := f11
  obtain ⟨f12, hf⟩ := fc_un (show (20 : Nat) < 100 from by decide) hf
  have f12 : ((v_iv (n_v vs 3) + 1) ≤ w_fi w1 (n_v vs 2) 10) → (v_iv (n_v vs 4) = (w_ei w1 (w_ar w1 (n_v vs 2) 1) (v_iv (n_v vs 3)) % 256)) := f12
  obtain ⟨f13, hf⟩ := fc_un (show (20 : Nat) < 100 from by decide) hf
  have f13 : (w_fi w1 (n_v vs 2) 10 ≤ v_iv (n_v vs 3)) → (v_iv (n_v vs 4) = (-1)) := f13
  obtain ⟨f14, hf⟩ := fc_un (show (20 : Nat) < 100 from by decide) hf
  have f14 : 1 * v_iv (n_v vs 1) + ((-1) * w_fi w1 (n_v vs 2) 11 + 0) ≤ 0 := f14
  have q2 : n_v vs 2 = n_v vs 0 := f4.symm
  rw [q2] at f0
  rw [q2] at f1
  rw [q2] at f2
  rw [q2] at f3
  rw [q2] at s1
  rw [q2] at f7
  rw [q2] at f9
  rw [q2] at f10
  rw [q2] at f12
  rw [q2] at f13
  rw [q2] at f14
  have ar_0_1_1 : w_ar w1 (n_v vs 0) 1 = w_ar ws (n_v vs 0) 1 := by show v_ad (w_fd w1 _ _) = v_ad (w_fd ws _ _); rw [s1.2, if_neg (fun e => absurd e.2 (by decide))]
  have cr_0_1 : ta (w_ar ws (n_v vs 0) 1) = some 151 := tv_rg (th_fd hD hth r0 (g := GG_150) rfl (k := 1) (t := (2, 0, 0, [151])) rfl rfl)
  have g7 : v_iv (n_v vs 3) = w_fi w1 (n_v vs 0) 11 := congrArg v_iv f7
  rw [ar_0_1_1] at f9
  rw [ar_0_1_1] at f12
  have fe_0_10_1 : w_fi ws (n_v vs 0) 10 = w_fi w1 (n_v vs 0) 10 := by show v_iv (w_fd _ _ _) = v_iv (w_fd _ _ _); rw [s1.2, if_neg (fun e => absurd e.2 (by decide))]
  have fe_0_11_1 : w_fi ws (n_v vs 0) 11 = v_iv (n_v vs 9) := by show v_iv (w_fd _ _ _) = _; rw [s1.2, if_pos ⟨rfl, rfl⟩]
  have hE_0_1_1 : ∀ j : Int, w_ei ws (w_ar ws (n_v vs 0) 1) j = w_ei w1 (w_ar ws (n_v vs 0) 1) j := fun j => s1.1 _ _
  have hK_0_1 : ∀ j : Int, 0 ≤ j → j < 2000 → (-128) ≤ w_ei ws (w_ar ws (n_v vs 0) 1) j ∧ w_ei ws (w_ar ws (n_v vs 0) 1) j ≤ 127 := fun j h0 h1 => th_el hD hth cr_0_1 (kd := 1) (n := 2000) (m := 2000) (lo := (-128)) (hi := 127) (rs := []) (L := []) rfl (by decide) (j := j.toNat) (by omega)
  have kz_0_10 : 0 ≤ w_fi ws (n_v vs 0) 10 ∧ w_fi ws (n_v vs 0) 10 ≤ 2000 := tv_rng (th_fd hD hth r0 (g := GG_150) rfl (k := 10) (t := (0, 0, 2000, [])) rfl rfl)
  have kz_0_11 : 0 ≤ w_fi ws (n_v vs 0) 11 ∧ w_fi ws (n_v vs 0) 11 ≤ 2000 := tv_rng (th_fd hD hth r0 (g := GG_150) rfl (k := 11) (t := (0, 0, 2000, [])) rfl rfl)
  have nf0 : fc_1 (20, [1, 2], [30, 0, 1, 0, 0, -1, 1, 11]) ws (vs) := by
    refine ⟨fun n hn => ?_, ?_⟩
    · have hn : n ∈ [1, 2] := hn
      rw [hl]
      simp only [List.mem_cons, List.not_mem_nil, or_false] at hn
      show n < 10; omega
    · show 1 * v_iv (n_v vs 1) + ((-1) * w_fi ws (n_v vs 2) 11 + 0) ≤ 0
      rw [q2]
      omega
  refine ⟨(fun _ h => (by cases h)), [], trivial, ?_, (fun _ h => (by cases h))⟩
  rw [List.append_nil]
  exact List.forall_mem_cons.mpr ⟨⟨show (20 : Nat) < 100 from by decide, nf0⟩, (fun _ h => (by cases h))⟩
def o_Mo_next_2 : or_T := (0, 8, [(0, (2, 0, 0, [150])), (1, (0, 0, 2000, [])), (2, (2, 0, 0, [150])), (3, (0, 0, 1999, [])), (4, (0, 32, 32, [])), (5, (0, 32, 32, [])), (6, (0, 1, 1, [])), (7, (0, 1, 2000, []))], [(20, [3, 2, 4], [50, 1, 1, 1010, 1001, 4, 11, 0, 6, 4, 2, 1, 0, 0, 1, 2, 1, 10, 1, 2, 1, 2, 9, 5, 3, 1, 1, 1, 0, 0, 256]), (20, [2, 3, 4], [50, 1, 0, 10, 4, 7, 0, 3, 2, 0, 10, 1, 1, 1, 2, 1, 2, 0, -1]), (24, [0, 2], []), (101, [2, 7], [11]), (1, [7, 3, 6], []), (9, [3, 2], [11]), (7, [4, 5], [0]), (20, [3, 2, 4], [50, 1, 1, 1010, 1001, 4, 11, 0, 6, 4, 2, 1, 0, 0, 1, 2, 1, 10, 1, 2, 1, 2, 9, 5, 3, 1, 1, 1, 0, 0, 256]), (20, [2, 3, 4], [50, 1, 0, 10, 4, 7, 0, 3, 2, 0, 10, 1, 1, 1, 2, 1, 2, 0, -1]), (20, [1, 2], [30, 0, 1, 0, 0, -1, 1, 11])], [], [], [(20, [1, 2], [30, 0, 1, 0, 0, -1, 1, 11])], [], [(7, 3, 1, 1), (7, 1, -4294967296, 2001), (1, 3, -4294967296, 2000), (3, 1, -4294967296, 2000)])
theorem oo_Mo_next_2 {kA : Nat → ClassId} : or_ok kA GG o_Mo_next_2 := by
  intro A ta ws vs hD hth hl hk hds hf
  have hl : vs.length = 8 := hl
  have hk : ∀ q ∈ ([(0, (2, 0, 0, [150])), (1, (0, 0, 2000, [])), (2, (2, 0, 0, [150])), (3, (0, 0, 1999, [])), (4, (0, 32, 32, [])), (5, (0, 32, 32, [])), (6, (0, 1, 1, [])), (7, (0, 1, 2000, []))] : List (Nat × tv_T)), tv_ok ta q.2 (n_v vs q.1) := hk
  obtain ⟨t0, hk⟩ := List.forall_mem_cons.mp hk
  have t0 : tv_ok ta (2, 0, 0, [150]) (n_v vs 0) := t0
  have r0 : ta (v_ad (n_v vs 0)) = some 150 := tv_rg t0
  obtain ⟨t1, hk⟩ := List.forall_mem_cons.mp hk
  have t1 : tv_ok ta (0, 0, 2000, []) (n_v vs 1) := t1
  have k1 : 0 ≤ v_iv (n_v vs 1) ∧ v_iv (n_v vs 1) ≤ 2000 := tv_rng t1
  obtain ⟨t2, hk⟩ := List.forall_mem_cons.mp hk
  have t2 : tv_ok ta (2, 0, 0, [150]) (n_v vs 2) := t2
  have r2 : ta (v_ad (n_v vs 2)) = some 150 := tv_rg t2
  obtain ⟨t3, hk⟩ := List.forall_mem_cons.mp hk
  have t3 : tv_ok ta (0, 0, 1999, []) (n_v vs 3) := t3
  have k3 : 0 ≤ v_iv (n_v vs 3) ∧ v_iv (n_v vs 3) ≤ 1999 := tv_rng t3
  obtain ⟨t4, hk⟩ := List.forall_mem_cons.mp hk
  have t4 : tv_ok ta (0, 32, 32, []) (n_v vs 4) := t4
  have k4 : 32 ≤ v_iv (n_v vs 4) ∧ v_iv (n_v vs 4) ≤ 32 := tv_rng t4
  obtain ⟨t5, hk⟩ := List.forall_mem_cons.mp hk
  have t5 : tv_ok ta (0, 32, 32, []) (n_v vs 5) := t5
  have k5 : 32 ≤ v_iv (n_v vs 5) ∧ v_iv (n_v vs 5) ≤ 32 := tv_rng t5
  obtain ⟨t6, hk⟩ := List.forall_mem_cons.mp hk
  have t6 : tv_ok ta (0, 1, 1, []) (n_v vs 6) := t6
  have k6 : 1 ≤ v_iv (n_v vs 6) ∧ v_iv (n_v vs 6) ≤ 1 := tv_rng t6
  obtain ⟨t7, hk⟩ := List.forall_mem_cons.mp hk
  have t7 : tv_ok ta (0, 1, 2000, []) (n_v vs 7) := t7
  have k7 : 1 ≤ v_iv (n_v vs 7) ∧ v_iv (n_v vs 7) ≤ 2000 := tv_rng t7
  have hds : ∀ q ∈ ([(7, 3, 1, 1), (7, 1, -4294967296, 2001), (1, 3, -4294967296, 2000), (3, 1, -4294967296, 2000)] : List of_T), n_iv vs q.2.1 + q.2.2.1 ≤ n_iv vs q.1 ∧ n_iv vs q.1 ≤ n_iv vs q.2.1 + q.2.2.2 := hds
  obtain ⟨d0, hds⟩ := List.forall_mem_cons.mp hds
  have d0 : v_iv (n_v vs 3) + 1 ≤ v_iv (n_v vs 7) ∧ v_iv (n_v vs 7) ≤ v_iv (n_v vs 3) + 1 := d0
  obtain ⟨d1, hds⟩ := List.forall_mem_cons.mp hds
  have d1 : v_iv (n_v vs 1) + (-4294967296) ≤ v_iv (n_v vs 7) ∧ v_iv (n_v vs 7) ≤ v_iv (n_v vs 1) + 2001 := d1
  obtain ⟨d2, hds⟩ := List.forall_mem_cons.mp hds
  have d2 : v_iv (n_v vs 3) + (-4294967296) ≤ v_iv (n_v vs 1) ∧ v_iv (n_v vs 1) ≤ v_iv (n_v vs 3) + 2000 := d2
  obtain ⟨d3, hds⟩ := List.forall_mem_cons.mp hds
  have d3 : v_iv (n_v vs 1) + (-4294967296) ≤ v_iv (n_v vs 3) ∧ v_iv (n_v vs 3) ≤ v_iv (n_v vs 1) + 2000 := d3
  have hf : fc_ok [(20, [3, 2, 4], [50, 1, 1, 1010, 1001, 4, 11, 0, 6, 4, 2, 1, 0, 0, 1, 2, 1, 10, 1, 2, 1, 2, 9, 5, 3, 1, 1, 1, 0, 0, 256]), (20, [2, 3, 4], [50, 1, 0, 10, 4, 7, 0, 3, 2, 0, 10, 1, 1, 1, 2, 1, 2, 0, -1]), (24, [0, 2], []), (101, [2, 7], [11]), (1, [7, 3, 6], []), (9, [3, 2], [11]), (7, [4, 5], [0]), (20, [3, 2, 4], [50, 1, 1, 1010, 1001, 4, 11, 0, 6, 4, 2, 1, 0, 0, 1, 2, 1, 10, 1, 2, 1, 2, 9, 5, 3, 1, 1, 1, 0, 0, 256]), (20, [2, 3, 4], [50, 1, 0, 10, 4, 7, 0, 3, 2, 0, 10, 1, 1, 1, 2, 1, 2, 0, -1]), (20, [1, 2], [30, 0, 1, 0, 0, -1, 1, 11])] ta ws vs := hf
  obtain ⟨f0, hf⟩ := fc_un (show (20 : Nat) < 100 from by decide) hf
  have f0 : ((v_iv (n_v vs 3) + 1) ≤ w_fi ws (n_v vs 2) 10) → (v_iv (n_v vs 4) = (w_ei ws (w_ar ws (n_v vs 2) 1) (v_iv (n_v vs 3)) % 256)) := f0
  obtain ⟨f1, hf⟩ := fc_un (show (20 : Nat) < 100 from by decide) hf
  have f1 : (w_fi ws (n_v vs 2) 10 ≤ v_iv (n_v vs 3)) → (v_iv (n_v vs 4) = (-1)) := f1
  obtain ⟨f2, hf⟩ := fc_un (show (24 : Nat) < 100 from by decide) hf
  have f2 : n_v vs 0 = n_v vs 2 := f2
  obtain ⟨ta1, w1, le1, ⟨_, s1⟩, hf⟩ := fc_us (show ¬ (101 : Nat) < 100 from by decide) hf
  have s1 : (∀ b j, w_el ws b j = w_el w1 b j) ∧ ∀ b j, w_fd ws b j = if b = v_ad (n_v vs 2) ∧ j = 11 then n_v vs 7 else w_fd w1 b j := s1
  obtain ⟨f4, hf⟩ := fc_un (show (1 : Nat) < 100 from by decide) hf
  have f4 : v_iv (n_v vs 7) = v_iv (n_v vs 3) + v_iv (n_v vs 6) := f4
  obtain ⟨f5, hf⟩ := fc_un (show (9 : Nat) < 100 from by decide) hf
  have f5 : n_v vs 3 = w_fd w1 (v_ad (n_v vs 2)) 11 := f5
  obtain ⟨f6, hf⟩ := fc_un (show (7 : Nat) < 100 from by decide) hf
  have f6 : v_iv (n_v vs 4) = v_iv (n_v vs 5) := f6
  obtain ⟨f7, hf⟩ := fc_un (show (20 : Nat) < 100 from by decide) hf
  have f7 : ((v_iv (n_v vs 3) + 1) ≤ w_fi w1 (n_v vs 2) 10) → (v_iv (n_v vs 4) = (w_ei w1 (w_ar w1 (n_v vs 2) 1) (v_iv (n_v vs 3)) % 256)) := f7
  obtain ⟨f8, hf⟩ := fc_un (show (20 : Nat) < 100 from by decide) hf
  have f8 : (w_fi w1 (n_v vs 2) 10 ≤ v_iv (n_v vs 3)) → (v_iv (n_v vs 4) = (-1)) := f8
  obtain ⟨f9, hf⟩ := fc_un (show (20 : Nat) < 100 from by decide) hf
  have f9 : 1 * v_iv (n_v vs 1) + ((-1) * w_fi w1 (n_v vs 2) 11 + 0) ≤ 0 := f9
  have q2 : n_v vs 2 = n_v vs 0 := f2.symm
  rw [q2] at f0
  rw [q2] at f1
  rw [q2] at s1
  rw [q2] at f5
  rw [q2] at f7
  rw [q2] at f8
  rw [q2] at f9
  have ar_0_1_1 : w_ar w1 (n_v vs 0) 1 = w_ar ws (n_v vs 0) 1 := by show v_ad (w_fd w1 _ _) = v_ad (w_fd ws _ _); rw [s1.2, if_neg (fun e => absurd e.2 (by decide))]
  have cr_0_1 : ta (w_ar ws (n_v vs 0) 1) = some 151 := tv_rg (th_fd hD hth r0 (g := GG_150) rfl (k := 1) (t := (2, 0, 0, [151])) rfl rfl)
  have g5 : v_iv (n_v vs 3) = w_fi w1 (n_v vs 0) 11 := congrArg v_iv f5
  rw [ar_0_1_1] at f7
  have fe_0_10_1 : w_fi ws (n_v vs 0) 10 = w_fi w1 (n_v vs 0) 10 := by show v_iv (w_fd _ _ _) = v_iv (w_fd _ _ _); rw [s1.2, if_neg (fun e => absurd e.2 (by decide))]
  have fe_0_11_1 : w_fi ws (n_v vs 0) 11 = v_iv (n_v vs 7) := by show v_iv (w_fd _ _ _) = _; rw [s1.2, if_pos ⟨rfl, rfl⟩]
  have hE_0_1_1 : ∀ j : Int, w_ei ws (w_ar ws (n_v vs 0) 1) j = w_ei w1 (w_ar ws (n_v vs 0) 1) j := fun j => s1.1 _ _
  have hK_0_1 : ∀ j : Int, 0 ≤ j → j < 2000 → (-128) ≤ w_ei ws (w_ar ws (n_v vs 0) 1) j ∧ w_ei ws (w_ar ws (n_v vs 0) 1) j ≤ 127 := fun j h0 h1 => th_el hD hth cr_0_1 (kd := 1) (n := 2000) (m := 2000) (lo := (-128)) (hi := 127) (rs := []) (L := []) rfl (by decide) (j := j.toNat) (by omega)
  have kz_0_10 : 0 ≤ w_fi ws (n_v vs 0) 10 ∧ w_fi ws (n_v vs 0) 10 ≤ 2000 := tv_rng (th_fd hD hth r0 (g := GG_150) rfl (k := 10) (t := (0, 0, 2000, [])) rfl rfl)
  have kz_0_11 : 0 ≤ w_fi ws (n_v vs 0) 11 ∧ w_fi ws (n_v vs 0) 11 ≤ 2000 := tv_rng (th_fd hD hth r0 (g := GG_150) rfl (k := 11) (t := (0, 0, 2000, [])) rfl rfl)
  have nf0 : fc_1 (20, [1, 2], [30, 0, 1, 0, 0, -1, 1, 11]) ws (vs) := by
    refine ⟨fun n hn => ?_, ?_⟩
    · have hn : n ∈ [1, 2] := hn
      rw [hl]
      simp only [List.mem_cons, List.not_mem_nil, or_false] at hn
      show n < 8; omega
    · show 1 * v_iv (n_v vs 1) + ((-1) * w_fi ws (n_v vs 2) 11 + 0) ≤ 0
      rw [q2]
      omega
  refine ⟨(fun _ h => (by cases h)), [], trivial, ?_, (fun _ h => (by cases h))⟩
  rw [List.append_nil]
  exact List.forall_mem_cons.mpr ⟨⟨show (20 : Nat) < 100 from by decide, nf0⟩, (fun _ h => (by cases h))⟩
def o_Mo_next_3 : or_T := (0, 10, [(0, (2, 0, 0, [150])), (1, (0, 0, 2000, [])), (2, (2, 0, 0, [150])), (3, (0, 0, 1999, [])), (4, (0, 0, 255, [])), (5, (0, 32, 32, [])), (6, (0, 10, 10, [])), (7, (0, 10, 10, [])), (8, (0, 1, 1, [])), (9, (0, 1, 2000, []))], [(20, [3, 2, 6], [50, 1, 1, 1010, 1001, 4, 11, 0, 6, 4, 2, 1, 0, 0, 1, 2, 1, 10, 1, 2, 1, 2, 9, 5, 3, 1, 1, 1, 0, 0, 256]), (20, [2, 3, 6], [50, 1, 0, 10, 4, 7, 0, 3, 2, 0, 10, 1, 1, 1, 2, 1, 2, 0, -1]), (20, [3, 2, 4], [50, 1, 1, 1010, 1001, 4, 11, 0, 6, 4, 2, 1, 0, 0, 1, 2, 1, 10, 1, 2, 1, 2, 9, 5, 3, 1, 1, 1, 0, 0, 256]), (20, [2, 3, 4], [50, 1, 0, 10, 4, 7, 0, 3, 2, 0, 10, 1, 1, 1, 2, 1, 2, 0, -1]), (24, [0, 2], []), (101, [2, 9], [11]), (1, [9, 3, 8], []), (9, [3, 2], [11]), (7, [6, 7], [0]), (20, [3, 2, 6], [50, 1, 1, 1010, 1001, 4, 11, 0, 6, 4, 2, 1, 0, 0, 1, 2, 1, 10, 1, 2, 1, 2, 9, 5, 3, 1, 1, 1, 0, 0, 256]), (20, [2, 3, 6], [50, 1, 0, 10, 4, 7, 0, 3, 2, 0, 10, 1, 1, 1, 2, 1, 2, 0, -1]), (7, [4, 5], [1]), (20, [3, 2, 4], [50, 1, 1, 1010, 1001, 4, 11, 0, 6, 4, 2, 1, 0, 0, 1, 2, 1, 10, 1, 2, 1, 2, 9, 5, 3, 1, 1, 1, 0, 0, 256]), (20, [2, 3, 4], [50, 1, 0, 10, 4, 7, 0, 3, 2, 0, 10, 1, 1, 1, 2, 1, 2, 0, -1]), (20, [1, 2], [30, 0, 1, 0, 0, -1, 1, 11])], [], [], [(20, [1, 2], [30, 0, 1, 0, 0, -1, 1, 11])], [], [(9, 3, 1, 1), (9, 1, -4294967296, 2001), (1, 3, -4294967296, 2000), (3, 1, -4294967296, 2000)])
theorem oo_Mo_next_3 {kA : Nat → ClassId} : or_ok kA GG o_Mo_next_3 := by
  intro A ta ws vs hD hth hl hk hds hf
  have hl : vs.length = 10 := hl
  have hk : ∀ q ∈ ([(0, (2, 0, 0, [150])), (1, (0, 0, 2000, [])), (2, (2, 0, 0, [150])), (3, (0, 0, 1999, [])), (4, (0, 0, 255, [])), (5, (0, 32, 32, [])), (6, (0, 10, 10, [])), (7, (0, 10, 10, [])), (8, (0, 1, 1, [])), (9, (0, 1, 2000, []))] : List (Nat × tv_T)), tv_ok ta q.2 (n_v vs q.1) := hk
  obtain ⟨t0, hk⟩ := List.forall_mem_cons.mp hk
  have t0 : tv_ok ta (2, 0, 0, [150]) (n_v vs 0) := t0
  have r0 : ta (v_ad (n_v vs 0)) = some 150 := tv_rg t0
  obtain ⟨t1, hk⟩ := List.forall_mem_cons.mp hk
  have t1 : tv_ok ta (0, 0, 2000, []) (n_v vs 1) := t1
  have k1 : 0 ≤ v_iv (n_v vs 1) ∧ v_iv (n_v vs 1) ≤ 2000 := tv_rng t1
  obtain ⟨t2, hk⟩ := List.forall_mem_cons.mp hk
  have t2 : tv_ok ta (2, 0, 0, [150]) (n_v vs 2) := t2
  have r2 : ta (v_ad (n_v vs 2)) = some 150 := tv_rg t2
  obtain ⟨t3, hk⟩ := List.forall_mem_cons.mp hk
  have t3 : tv_ok ta (0, 0, 1999, []) (n_v vs 3) := t3
  have k3 : 0 ≤ v_iv (n_v vs 3) ∧ v_iv (n_v vs 3) ≤ 1999 := tv_rng t3
  obtain ⟨t4, hk⟩ := List.forall_mem_cons.mp hk
  have t4 : tv_ok ta (0, 0, 255, []) (n_v vs 4) := t4
  have k4 : 0 ≤ v_iv (n_v vs 4) ∧ v_iv (n_v vs 4) ≤ 255 := tv_rng t4
  obtain ⟨t5, hk⟩ := List.forall_mem_cons.mp hk
  have t5 : tv_ok ta (0, 32, 32, []) (n_v vs 5) := t5
  have k5 : 32 ≤ v_iv (n_v vs 5) ∧ v_iv (n_v vs 5) ≤ 32 := tv_rng t5
  obtain ⟨t6, hk⟩ := List.forall_mem_cons.mp hk
  have t6 : tv_ok ta (0, 10, 10, []) (n_v vs 6) := t6
  have k6 : 10 ≤ v_iv (n_v vs 6) ∧ v_iv (n_v vs 6) ≤ 10 := tv_rng t6
  obtain ⟨t7, hk⟩ := List.forall_mem_cons.mp hk
  have t7 : tv_ok ta (0, 10, 10, []) (n_v vs 7) := t7
  have k7 : 10 ≤ v_iv (n_v vs 7) ∧ v_iv (n_v vs 7) ≤ 10 := tv_rng t7
  obtain ⟨t8, hk⟩ := List.forall_mem_cons.mp hk
  have t8 : tv_ok ta (0, 1, 1, []) (n_v vs 8) := t8
  have k8 : 1 ≤ v_iv (n_v vs 8) ∧ v_iv (n_v vs 8) ≤ 1 := tv_rng t8
  obtain ⟨t9, hk⟩ := List.forall_mem_cons.mp hk
  have t9 : tv_ok ta (0, 1, 2000, []) (n_v vs 9) := t9
  have k9 : 1 ≤ v_iv (n_v vs 9) ∧ v_iv (n_v vs 9) ≤ 2000 := tv_rng t9
  have hds : ∀ q ∈ ([(9, 3, 1, 1), (9, 1, -4294967296, 2001), (1, 3, -4294967296, 2000), (3, 1, -4294967296, 2000)] : List of_T), n_iv vs q.2.1 + q.2.2.1 ≤ n_iv vs q.1 ∧ n_iv vs q.1 ≤ n_iv vs q.2.1 + q.2.2.2 := hds
  obtain ⟨d0, hds⟩ := List.forall_mem_cons.mp hds
  have d0 : v_iv (n_v vs 3) + 1 ≤ v_iv (n_v vs 9) ∧ v_iv (n_v vs 9) ≤ v_iv (n_v vs 3) + 1 := d0
  obtain ⟨d1, hds⟩ := List.forall_mem_cons.mp hds
  have d1 : v_iv (n_v vs 1) + (-4294967296) ≤ v_iv (n_v vs 9) ∧ v_iv (n_v vs 9) ≤ v_iv (n_v vs 1) + 2001 := d1
  obtain ⟨d2, hds⟩ := List.forall_mem_cons.mp hds
  have d2 : v_iv (n_v vs 3) + (-4294967296) ≤ v_iv (n_v vs 1) ∧ v_iv (n_v vs 1) ≤ v_iv (n_v vs 3) + 2000 := d2
  obtain ⟨d3, hds⟩ := List.forall_mem_cons.mp hds
  have d3 : v_iv (n_v vs 1) + (-4294967296) ≤ v_iv (n_v vs 3) ∧ v_iv (n_v vs 3) ≤ v_iv (n_v vs 1) + 2000 := d3
  have hf : fc_ok [(20, [3, 2, 6], [50, 1, 1, 1010, 1001, 4, 11, 0, 6, 4, 2, 1, 0, 0, 1, 2, 1, 10, 1, 2, 1, 2, 9, 5, 3, 1, 1, 1, 0, 0, 256]), (20, [2, 3, 6], [50, 1, 0, 10, 4, 7, 0, 3, 2, 0, 10, 1, 1, 1, 2, 1, 2, 0, -1]), (20, [3, 2, 4], [50, 1, 1, 1010, 1001, 4, 11, 0, 6, 4, 2, 1, 0, 0, 1, 2, 1, 10, 1, 2, 1, 2, 9, 5, 3, 1, 1, 1, 0, 0, 256]), (20, [2, 3, 4], [50, 1, 0, 10, 4, 7, 0, 3, 2, 0, 10, 1, 1, 1, 2, 1, 2, 0, -1]), (24, [0, 2], []), (101, [2, 9], [11]), (1, [9, 3, 8], []), (9, [3, 2], [11]), (7, [6, 7], [0]), (20, [3, 2, 6], [50, 1, 1, 1010, 1001, 4, 11, 0, 6, 4, 2, 1, 0, 0, 1, 2, 1, 10, 1, 2, 1, 2, 9, 5, 3, 1, 1, 1, 0, 0, 256]), (20, [2, 3, 6], [50, 1, 0, 10, 4, 7, 0, 3, 2, 0, 10, 1, 1, 1, 2, 1, 2, 0, -1]), (7, [4, 5], [1]), (20, [3, 2, 4], [50, 1, 1, 1010, 1001, 4, 11, 0, 6, 4, 2, 1, 0, 0, 1, 2, 1, 10, 1, 2, 1, 2, 9, 5, 3, 1, 1, 1, 0, 0, 256]), (20, [2, 3, 4], [50, 1, 0, 10, 4, 7, 0, 3, 2, 0, 10, 1, 1, 1, 2, 1, 2, 0, -1]), (20, [1, 2], [30, 0, 1, 0, 0, -1, 1, 11])] ta ws vs := hf
  obtain ⟨f0, hf⟩ := fc_un (show (20 : Nat) < 100 from by decide) hf
  have f0 : ((v_iv (n_v vs 3) + 1) ≤ w_fi ws (n_v vs 2) 10) → (v_iv (n_v vs 6) = (w_ei ws (w_ar ws (n_v vs 2) 1) (v_iv (n_v vs 3)) % 256)) := f0
  obtain ⟨f1, hf⟩ := fc_un (show (20 : Nat) < 100 from by decide) hf
  have f1 : (w_fi ws (n_v vs 2) 10 ≤ v_iv (n_v vs 3)) → (v_iv (n_v vs 6) = (-1)) := f1
  obtain ⟨f2, hf⟩ := fc_un (show (20 : Nat) < 100 from by decide) hf
  have f2 : ((v_iv (n_v vs 3) + 1) ≤ w_fi ws (n_v vs 2) 10) → (v_iv (n_v vs 4) = (w_ei ws (w_ar ws (n_v vs 2) 1) (v_iv (n_v vs 3)) % 256)) := f2
  obtain ⟨f3, hf⟩ := fc_un (show (20 : Nat) < 100 from by decide) hf
  have f3 : (w_fi ws (n_v vs 2) 10 ≤ v_iv (n_v vs 3)) → (v_iv (n_v vs 4) = (-1)) := f3
  obtain ⟨f4, hf⟩ := fc_un (show (24 : Nat) < 100 from by decide) hf
  have f4 : n_v vs 0 = n_v vs 2 := f4
  obtain ⟨ta1, w1, le1, ⟨_, s1⟩, hf⟩ := fc_us (show ¬ (101 : Nat) < 100 from by decide) hf
  have s1 : (∀ b j, w_el ws b j = w_el w1 b j) ∧ ∀ b j, w_fd ws b j = if b = v_ad (n_v vs 2) ∧ j = 11 then n_v vs 9 else w_fd w1 b j := s1
  obtain ⟨f6, hf⟩ := fc_un (show (1 : Nat) < 100 from by decide) hf
  have f6 : v_iv (n_v vs 9) = v_iv (n_v vs 3) + v_iv (n_v vs 8) := f6
  obtain ⟨f7, hf⟩ := fc_un (show (9 : Nat) < 100 from by decide) hf
  have f7 : n_v vs 3 = w_fd w1 (v_ad (n_v vs 2)) 11 := f7
  obtain ⟨f8, hf⟩ := fc_un (show (7 : Nat) < 100 from by decide) hf
  have f8 : v_iv (n_v vs 6) = v_iv (n_v vs 7) := f8
  obtain ⟨f9, hf⟩ := fc_un (show (20 : Nat) < 100 from by decide) hf
  have f9 : ((v_iv (n_v vs 3) + 1) ≤ w_fi w1 (n_v vs 2) 10) → (v_iv (n_v vs 6) = (w_ei w1 (w_ar w1 (n_v vs 2) 1) (v_iv (n_v vs 3)) % 256)) := f9
  obtain ⟨f10, hf⟩ := fc_un (show (20 : Nat) < 100 from by decide) hf
  have f10 : (w_fi w1 (n_v vs 2) 10 ≤ v_iv (n_v vs 3)) → (v_iv (n_v vs 6) = (-1)) := f10
  obtain ⟨f11, hf⟩ := fc_un (show (7 : Nat) < 100 from by decide) hf
  have f11 : v_iv (n_v vs 4) ≠ v_iv (n_v vs 5) := f11
  obtain ⟨f12, hf⟩ := fc_un (show (20 : Nat) < 100 from by decide) hf
  have f12 : ((v_iv (n_v vs 3) + 1) ≤ w_fi w1 (n_v vs 2) 10) → (v_iv (n_v vs 4) = (w_ei w1 (w_ar w1 (n_v vs 2) 1) (v_iv (n_v vs 3)) % 256)) := f12
  obtain ⟨f13, hf⟩ := fc_un (show (20 : Nat) < 100 from by decide) hf
  have f13 : (w_fi w1 (n_v vs 2) 10 ≤ v_iv (n_v vs 3)) → (v_iv (n_v vs 4) = (-1)) := f13
  obtain ⟨f14, hf⟩ := fc_un (show (20 : Nat) < 100 from by decide) hf
  have f14 : 1 * v_iv (n_v vs 1) + ((-1) * w_fi w1 (n_v vs 2) 11 + 0) ≤ 0 := f14
  have q2 : n_v vs 2 = n_v vs 0 := f4.symm
  rw [q2] at f0
  rw [q2] at f1
  rw [q2] at f2
  rw [q2] at f3
  rw [q2] at s1
  rw [q2] at f7
  rw [q2] at f9
  rw [q2] at f10
  rw [q2] at f12
  rw [q2] at f13
  rw [q2] at f14
  have ar_0_1_1 : w_ar w1 (n_v vs 0) 1 = w_ar ws (n_v vs 0) 1 := by show v_ad (w_fd w1 _ _) = v_ad (w_fd ws _ _); rw [s1.2, if_neg (fun e => absurd e.2 (by decide))]
  have cr_0_1 : ta (w_ar ws (n_v vs 0) 1) = some 151 := tv_rg (th_fd hD hth r0 (g := GG_150) rfl (k := 1) (t := (2, 0, 0, [151])) rfl rfl)
  have g7 : v_iv (n_v vs 3) = w_fi w1 (n_v vs 0) 11 := congrArg v_iv f7
  rw [ar_0_1_1] at f9
  rw [ar_0_1_1] at f12
  have fe_0_10_1 : w_fi ws (n_v vs 0) 10 = w_fi w1 (n_v vs 0) 10 := by show v_iv (w_fd _ _ _) = v_iv (w_fd _ _ _); rw [s1.2, if_neg (fun e => absurd e.2 (by decide))]
  have fe_0_11_1 : w_fi ws (n_v vs 0) 11 = v_iv (n_v vs 9) := by show v_iv (w_fd _ _ _) = _; rw [s1.2, if_pos ⟨rfl, rfl⟩]
  have hE_0_1_1 : ∀ j : Int, w_ei ws (w_ar ws (n_v vs 0) 1) j = w_ei w1 (w_ar ws (n_v vs 0) 1) j := fun j => s1.1 _ _
  have hK_0_1 : ∀ j : Int, 0 ≤ j → j < 2000 → (-128) ≤ w_ei ws (w_ar ws (n_v vs 0) 1) j ∧ w_ei ws (w_ar ws (n_v vs 0) 1) j ≤ 127 := fun j h0 h1 => th_el hD hth cr_0_1 (kd := 1) (n := 2000) (m := 2000) (lo := (-128)) (hi := 127) (rs := []) (L := []) rfl (by decide) (j := j.toNat) (by omega)
  have kz_0_10 : 0 ≤ w_fi ws (n_v vs 0) 10 ∧ w_fi ws (n_v vs 0) 10 ≤ 2000 := tv_rng (th_fd hD hth r0 (g := GG_150) rfl (k := 10) (t := (0, 0, 2000, [])) rfl rfl)
  have kz_0_11 : 0 ≤ w_fi ws (n_v vs 0) 11 ∧ w_fi ws (n_v vs 0) 11 ≤ 2000 := tv_rng (th_fd hD hth r0 (g := GG_150) rfl (k := 11) (t := (0, 0, 2000, [])) rfl rfl)
  have nf0 : fc_1 (20, [1, 2], [30, 0, 1, 0, 0, -1, 1, 11]) ws (vs) := by
    refine ⟨fun n hn => ?_, ?_⟩
    · have hn : n ∈ [1, 2] := hn
      rw [hl]
      simp only [List.mem_cons, List.not_mem_nil, or_false] at hn
      show n < 10; omega
    · show 1 * v_iv (n_v vs 1) + ((-1) * w_fi ws (n_v vs 2) 11 + 0) ≤ 0
      rw [q2]
      omega
  refine ⟨(fun _ h => (by cases h)), [], trivial, ?_, (fun _ h => (by cases h))⟩
  rw [List.append_nil]
  exact List.forall_mem_cons.mpr ⟨⟨show (20 : Nat) < 100 from by decide, nf0⟩, (fun _ h => (by cases h))⟩
def o_Mo_next_4 : or_T := (354, 7, [(0, (2, 0, 0, [150])), (1, (0, 0, 2000, [])), (2, (2, 0, 0, [150])), (3, (0, 0, 2000, [])), (4, (0, -1, -1, [])), (5, (0, 4, 4, [])), (6, (0, 0, 0, []))], [(20, [3, 2, 4], [50, 1, 1, 1010, 1001, 4, 11, 0, 6, 4, 2, 1, 0, 0, 1, 2, 1, 10, 1, 2, 1, 2, 9, 5, 3, 1, 1, 1, 0, 0, 256]), (20, [2, 3, 4], [50, 1, 0, 10, 4, 7, 0, 3, 2, 0, 10, 1, 1, 1, 2, 1, 2, 0, -1]), (20, [1, 2], [30, 0, 1, 0, 0, -1, 1, 11]), (24, [0, 2], []), (101, [2, 6], [12]), (8, [4], [2]), (20, [3, 2, 4], [50, 1, 1, 1010, 1001, 4, 11, 0, 6, 4, 2, 1, 0, 0, 1, 2, 1, 10, 1, 2, 1, 2, 9, 5, 3, 1, 1, 1, 0, 0, 256]), (20, [2, 3, 4], [50, 1, 0, 10, 4, 7, 0, 3, 2, 0, 10, 1, 1, 1, 2, 1, 2, 0, -1]), (20, [1, 2], [30, 0, 1, 0, 0, -1, 1, 11]), (101, [2, 4], [14]), (20, [3, 2, 4], [50, 1, 1, 1010, 1001, 4, 11, 0, 6, 4, 2, 1, 0, 0, 1, 2, 1, 10, 1, 2, 1, 2, 9, 5, 3, 1, 1, 1, 0, 0, 256]), (20, [2, 3, 4], [50, 1, 0, 10, 4, 7, 0, 3, 2, 0, 10, 1, 1, 1, 2, 1, 2, 0, -1]), (20, [1, 2], [30, 0, 1, 0, 0, -1, 1, 11]), (101, [2, 5], [12]), (20, [3, 2, 4], [50, 1, 1, 1010, 1001, 4, 11, 0, 6, 4, 2, 1, 0, 0, 1, 2, 1, 10, 1, 2, 1, 2, 9, 5, 3, 1, 1, 1, 0, 0, 256]), (20, [2, 3, 4], [50, 1, 0, 10, 4, 7, 0, 3, 2, 0, 10, 1, 1, 1, 2, 1, 2, 0, -1]), (9, [3, 2], [11]), (20, [1, 2], [30, 0, 1, 0, 0, -1, 1, 11]), (101, [2, 3], [15]), (20, [1, 2], [30, 0, 1, 0, 0, -1, 1, 11]), (101, [2, 3], [13]), (20, [1, 2], [30, 0, 1, 0, 0, -1, 1, 11])], [], [], [(20, [1, 2], [30, 0, 1, 0, 0, -1, 1, 15]), (20, [2, 2], [30, 0, 1, 1, 15, -1, 1, 11]), (20, [2], [50, 3, 0, 12, 11, 15, 2, 21, 4, 7, 1, 3, 2, 0, 12, 0, 1, 0, 3, 2, 0, 11, 4, 3, 2, 0, 15, 0, 8, 3, 7, 1, 3, 2, 0, 12, 0, 0, 0, 7, 4, 3, 2, 0, 15, 0, 1, 2, 0, 11]), (20, [0, 0], [30, 0, 1, 1, 15, -1, 1, 11]), (20, [0], [50, 3, 0, 12, 11, 15, 2, 21, 4, 7, 1, 3, 2, 0, 12, 0, 1, 0, 3, 2, 0, 11, 4, 3, 2, 0, 15, 0, 8, 3, 7, 1, 3, 2, 0, 12, 0, 0, 0, 7, 4, 3, 2, 0, 15, 0, 1, 2, 0, 11]), (20, [1, 0], [30, 0, 1, 0, 0, -1, 1, 15])], [], [(1, 3, -4294967296, 2000), (3, 1, -4294967296, 2000)])
theorem oo_Mo_next_4 {kA : Nat → ClassId} : or_ok kA GG o_Mo_next_4 := by
  intro A ta ws vs hD hth hl hk hds hf
  have hl : vs.length = 7 := hl
  have hk : ∀ q ∈ ([(0, (2, 0, 0, [150])), (1, (0, 0, 2000, [])), (2, (2, 0, 0, [150])), (3, (0, 0, 2000, [])), (4, (0, -1, -1, [])), (5, (0, 4, 4, [])), (6, (0, 0, 0, []))] : List (Nat × tv_T)), tv_ok ta q.2 (n_v vs q.1) := hk
  obtain ⟨t0, hk⟩ := List.forall_mem_cons.mp hk
  have t0 : tv_ok ta (2, 0, 0, [150]) (n_v vs 0) := t0
  have r0 : ta (v_ad (n_v vs 0)) = some 150 := tv_rg t0
  obtain ⟨t1, hk⟩ := List.forall_mem_cons.mp hk
  have t1 : tv_ok ta (0, 0, 2000, []) (n_v vs 1) := t1
  have k1 : 0 ≤ v_iv (n_v vs 1) ∧ v_iv (n_v vs 1) ≤ 2000 := tv_rng t1
  obtain ⟨t2, hk⟩ := List.forall_mem_cons.mp hk
  have t2 : tv_ok ta (2, 0, 0, [150]) (n_v vs 2) := t2
  have r2 : ta (v_ad (n_v vs 2)) = some 150 := tv_rg t2
  obtain ⟨t3, hk⟩ := List.forall_mem_cons.mp hk
  have t3 : tv_ok ta (0, 0, 2000, []) (n_v vs 3) := t3
  have k3 : 0 ≤ v_iv (n_v vs 3) ∧ v_iv (n_v vs 3) ≤ 2000 := tv_rng t3
  obtain ⟨t4, hk⟩ := List.forall_mem_cons.mp hk
  have t4 : tv_ok ta (0, -1, -1, []) (n_v vs 4) := t4
  have k4 : (-1) ≤ v_iv (n_v vs 4) ∧ v_iv (n_v vs 4) ≤ (-1) := tv_rng t4
  obtain ⟨t5, hk⟩ := List.forall_mem_cons.mp hk
  have t5 : tv_ok ta (0, 4, 4, []) (n_v vs 5) := t5
  have k5 : 4 ≤ v_iv (n_v vs 5) ∧ v_iv (n_v vs 5) ≤ 4 := tv_rng t5
  obtain ⟨t6, hk⟩ := List.forall_mem_cons.mp hk
  have t6 : tv_ok ta (0, 0, 0, []) (n_v vs 6) := t6
  have k6 : 0 ≤ v_iv (n_v vs 6) ∧ v_iv (n_v vs 6) ≤ 0 := tv_rng t6
  have hds : ∀ q ∈ ([(1, 3, -4294967296, 2000), (3, 1, -4294967296, 2000)] : List of_T), n_iv vs q.2.1 + q.2.2.1 ≤ n_iv vs q.1 ∧ n_iv vs q.1 ≤ n_iv vs q.2.1 + q.2.2.2 := hds
  obtain ⟨d0, hds⟩ := List.forall_mem_cons.mp hds
  have d0 : v_iv (n_v vs 3) + (-4294967296) ≤ v_iv (n_v vs 1) ∧ v_iv (n_v vs 1) ≤ v_iv (n_v vs 3) + 2000 := d0
  obtain ⟨d1, hds⟩ := List.forall_mem_cons.mp hds
  have d1 : v_iv (n_v vs 1) + (-4294967296) ≤ v_iv (n_v vs 3) ∧ v_iv (n_v vs 3) ≤ v_iv (n_v vs 1) + 2000 := d1
  have hf : fc_ok [(20, [3, 2, 4], [50, 1, 1, 1010, 1001, 4, 11, 0, 6, 4, 2, 1, 0, 0, 1, 2, 1, 10, 1, 2, 1, 2, 9, 5, 3, 1, 1, 1, 0, 0, 256]), (20, [2, 3, 4], [50, 1, 0, 10, 4, 7, 0, 3, 2, 0, 10, 1, 1, 1, 2, 1, 2, 0, -1]), (20, [1, 2], [30, 0, 1, 0, 0, -1, 1, 11]), (24, [0, 2], []), (101, [2, 6], [12]), (8, [4], [2]), (20, [3, 2, 4], [50, 1, 1, 1010, 1001, 4, 11, 0, 6, 4, 2, 1, 0, 0, 1, 2, 1, 10, 1, 2, 1, 2, 9, 5, 3, 1, 1, 1, 0, 0, 256]), (20, [2, 3, 4], [50, 1, 0, 10, 4, 7, 0, 3, 2, 0, 10, 1, 1, 1, 2, 1, 2, 0, -1]), (20, [1, 2], [30, 0, 1, 0, 0, -1, 1, 11]), (101, [2, 4], [14]), (20, [3, 2, 4], [50, 1, 1, 1010, 1001, 4, 11, 0, 6, 4, 2, 1, 0, 0, 1, 2, 1, 10, 1, 2, 1, 2, 9, 5, 3, 1, 1, 1, 0, 0, 256]), (20, [2, 3, 4], [50, 1, 0, 10, 4, 7, 0, 3, 2, 0, 10, 1, 1, 1, 2, 1, 2, 0, -1]), (20, [1, 2], [30, 0, 1, 0, 0, -1, 1, 11]), (101, [2, 5], [12]), (20, [3, 2, 4], [50, 1, 1, 1010, 1001, 4, 11, 0, 6, 4, 2, 1, 0, 0, 1, 2, 1, 10, 1, 2, 1, 2, 9, 5, 3, 1, 1, 1, 0, 0, 256]), (20, [2, 3, 4], [50, 1, 0, 10, 4, 7, 0, 3, 2, 0, 10, 1, 1, 1, 2, 1, 2, 0, -1]), (9, [3, 2], [11]), (20, [1, 2], [30, 0, 1, 0, 0, -1, 1, 11]), (101, [2, 3], [15]), (20, [1, 2], [30, 0, 1, 0, 0, -1, 1, 11]), (101, [2, 3], [13]), (20, [1, 2], [30, 0, 1, 0, 0, -1, 1, 11])] ta ws vs := hf
  obtain ⟨f0, hf⟩ := fc_un (show (20 : Nat) < 100 from by decide) hf
  have f0 : ((v_iv (n_v vs 3) + 1) ≤ w_fi ws (n_v vs 2) 10) → (v_iv (n_v vs 4) = (w_ei ws (w_ar ws (n_v vs 2) 1) (v_iv (n_v vs 3)) % 256)) := f0
  obtain ⟨f1, hf⟩ := fc_un (show (20 : Nat) < 100 from by decide) hf
  have f1 : (w_fi ws (n_v vs 2) 10 ≤ v_iv (n_v vs 3)) → (v_iv (n_v vs 4) = (-1)) := f1
  obtain ⟨f2, hf⟩ := fc_un (show (20 : Nat) < 100 from by decide) hf
  have f2 : 1 * v_iv (n_v vs 1) + ((-1) * w_fi ws (n_v vs 2) 11 + 0) ≤ 0 := f2
  obtain ⟨f3, hf⟩ := fc_un (show (24 : Nat) < 100 from by decide) hf
  have f3 : n_v vs 0 = n_v vs 2 := f3
  obtain ⟨ta1, w1, le1, ⟨_, s1⟩, hf⟩ := fc_us (show ¬ (101 : Nat) < 100 from by decide) hf
  have s1 : (∀ b j, w_el ws b j = w_el w1 b j) ∧ ∀ b j, w_fd ws b j = if b = v_ad (n_v vs 2) ∧ j = 12 then n_v vs 6 else w_fd w1 b j := s1
  obtain ⟨f5, hf⟩ := fc_un (show (8 : Nat) < 100 from by decide) hf
  have f5 : v_iv (n_v vs 4) < 0 := f5
  obtain ⟨f6, hf⟩ := fc_un (show (20 : Nat) < 100 from by decide) hf
  have f6 : ((v_iv (n_v vs 3) + 1) ≤ w_fi w1 (n_v vs 2) 10) → (v_iv (n_v vs 4) = (w_ei w1 (w_ar w1 (n_v vs 2) 1) (v_iv (n_v vs 3)) % 256)) := f6
  obtain ⟨f7, hf⟩ := fc_un (show (20 : Nat) < 100 from by decide) hf
  have f7 : (w_fi w1 (n_v vs 2) 10 ≤ v_iv (n_v vs 3)) → (v_iv (n_v vs 4) = (-1)) := f7
  obtain ⟨f8, hf⟩ := fc_un (show (20 : Nat) < 100 from by decide) hf
  have f8 : 1 * v_iv (n_v vs 1) + ((-1) * w_fi w1 (n_v vs 2) 11 + 0) ≤ 0 := f8
  obtain ⟨ta2, w2, le2, ⟨_, s2⟩, hf⟩ := fc_us (show ¬ (101 : Nat) < 100 from by decide) hf
  have s2 : (∀ b j, w_el w1 b j = w_el w2 b j) ∧ ∀ b j, w_fd w1 b j = if b = v_ad (n_v vs 2) ∧ j = 14 then n_v vs 4 else w_fd w2 b j := s2
  obtain ⟨f10, hf⟩ := fc_un (show (20 : Nat) < 100 from by decide) hf
  have f10 : ((v_iv (n_v vs 3) + 1) ≤ w_fi w2 (n_v vs 2) 10) → (v_iv (n_v vs 4) = (w_ei w2 (w_ar w2 (n_v vs 2) 1) (v_iv (n_v vs 3)) % 256)) := f10
  obtain ⟨f11, hf⟩ := fc_un (show (20 : Nat) < 100 from by decide) hf
  have f11 : (w_fi w2 (n_v vs 2) 10 ≤ v_iv (n_v vs 3)) → (v_iv (n_v vs 4) = (-1)) := f11
  obtain ⟨f12, hf⟩ := fc_un (show (20 : Nat) < 100 from by decide) hf
  have f12 : 1 * v_iv (n_v vs 1) + ((-1) * w_fi w2 (n_v vs 2) 11 + 0) ≤ 0 := f12
  obtain ⟨ta3, w3, le3, ⟨_, s3⟩, hf⟩ := fc_us (show ¬ (101 : Nat) < 100 from by decide) hf
  have s3 : (∀ b j, w_el w2 b j = w_el w3 b j) ∧ ∀ b j, w_fd w2 b j = if b = v_ad (n_v vs 2) ∧ j = 12 then n_v vs 5 else w_fd w3 b j := s3
  obtain ⟨f14, hf⟩ := fc_un (show (20 : Nat) < 100 from by decide) hf
  have f14 : ((v_iv (n_v vs 3) + 1) ≤ w_fi w3 (n_v vs 2) 10) → (v_iv (n_v vs 4) = (w_ei w3 (w_ar w3 (n_v vs 2) 1) (v_iv (n_v vs 3)) % 256)) := f14
  obtain ⟨f15, hf⟩ := fc_un (show (20 : Nat) < 100 from by decide) hf
  have f15 : (w_fi w3 (n_v vs 2) 10 ≤ v_iv (n_v vs 3)) → (v_iv (n_v vs 4) = (-1)) := f15
  obtain ⟨f16, hf⟩ := fc_un (show (9 : Nat) < 100 from by decide) hf
  have f16 : n_v vs 3 = w_fd w3 (v_ad (n_v vs 2)) 11 := f16
  obtain ⟨f17, hf⟩ := fc_un (show (20 : Nat) < 100 from by decide) hf
  have f17 : 1 * v_iv (n_v vs 1) + ((-1) * w_fi w3 (n_v vs 2) 11 + 0) ≤ 0 := f17
  obtain ⟨ta4, w4, le4, ⟨_, s4⟩, hf⟩ := fc_us (show ¬ (101 : Nat) < 100 from by decide) hf
  have s4 : (∀ b j, w_el w3 b j = w_el w4 b j) ∧ ∀ b j, w_fd w3 b j = if b = v_ad (n_v vs 2) ∧ j = 15 then n_v vs 3 else w_fd w4 b j := s4
  obtain ⟨f19, hf⟩ := fc_un (show (20 : Nat) < 100 from by decide) hf
  have f19 : 1 * v_iv (n_v vs 1) + ((-1) * w_fi w4 (n_v vs 2) 11 + 0) ≤ 0 := f19
  obtain ⟨ta5, w5, le5, ⟨_, s5⟩, hf⟩ := fc_us (show ¬ (101 : Nat) < 100 from by decide) hf
  have s5 : (∀ b j, w_el w4 b j = w_el w5 b j) ∧ ∀ b j, w_fd w4 b j = if b = v_ad (n_v vs 2) ∧ j = 13 then n_v vs 3 else w_fd w5 b j := s5
  obtain ⟨f21, hf⟩ := fc_un (show (20 : Nat) < 100 from by decide) hf
  have f21 : 1 * v_iv (n_v vs 1) + ((-1) * w_fi w5 (n_v vs 2) 11 + 0) ≤ 0 := f21
  have q2 : n_v vs 2 = n_v vs 0 := f3.symm
  rw [q2] at f0
  rw [q2] at f1
  rw [q2] at f2
  rw [q2] at s1
  rw [q2] at f6
  rw [q2] at f7
  rw [q2] at f8
  rw [q2] at s2
  rw [q2] at f10
  rw [q2] at f11
  rw [q2] at f12
  rw [q2] at s3
  rw [q2] at f14
  rw [q2] at f15
  rw [q2] at f16
  rw [q2] at f17
  rw [q2] at s4
  rw [q2] at f19
  rw [q2] at s5
  rw [q2] at f21
  have ar_0_1_1 : w_ar w1 (n_v vs 0) 1 = w_ar ws (n_v vs 0) 1 := by show v_ad (w_fd w1 _ _) = v_ad (w_fd ws _ _); rw [s1.2, if_neg (fun e => absurd e.2 (by decide))]
  have ar_0_1_2 : w_ar w2 (n_v vs 0) 1 = w_ar ws (n_v vs 0) 1 := by rw [← ar_0_1_1]; show v_ad (w_fd w2 _ _) = v_ad (w_fd w1 _ _); rw [s2.2, if_neg (fun e => absurd e.2 (by decide))]
  have ar_0_1_3 : w_ar w3 (n_v vs 0) 1 = w_ar ws (n_v vs 0) 1 := by rw [← ar_0_1_2]; show v_ad (w_fd w3 _ _) = v_ad (w_fd w2 _ _); rw [s3.2, if_neg (fun e => absurd e.2 (by decide))]
  have ar_0_1_4 : w_ar w4 (n_v vs 0) 1 = w_ar ws (n_v vs 0) 1 := by rw [← ar_0_1_3]; show v_ad (w_fd w4 _ _) = v_ad (w_fd w3 _ _); rw [s4.2, if_neg (fun e => absurd e.2 (by decide))]
  have ar_0_1_5 : w_ar w5 (n_v vs 0) 1 = w_ar ws (n_v vs 0) 1 := by rw [← ar_0_1_4]; show v_ad (w_fd w5 _ _) = v_ad (w_fd w4 _ _); rw [s5.2, if_neg (fun e => absurd e.2 (by decide))]
  have cr_0_1 : ta (w_ar ws (n_v vs 0) 1) = some 151 := tv_rg (th_fd hD hth r0 (g := GG_150) rfl (k := 1) (t := (2, 0, 0, [151])) rfl rfl)
  rw [ar_0_1_1] at f6
  rw [ar_0_1_2] at f10
  rw [ar_0_1_3] at f14
  have g16 : v_iv (n_v vs 3) = w_fi w3 (n_v vs 0) 11 := congrArg v_iv f16
  have fe_0_10_1 : w_fi ws (n_v vs 0) 10 = w_fi w1 (n_v vs 0) 10 := by show v_iv (w_fd _ _ _) = v_iv (w_fd _ _ _); rw [s1.2, if_neg (fun e => absurd e.2 (by decide))]
  have fe_0_11_1 : w_fi ws (n_v vs 0) 11 = w_fi w1 (n_v vs 0) 11 := by show v_iv (w_fd _ _ _) = v_iv (w_fd _ _ _); rw [s1.2, if_neg (fun e => absurd e.2 (by decide))]
  have fe_0_12_1 : w_fi ws (n_v vs 0) 12 = v_iv (n_v vs 6) := by show v_iv (w_fd _ _ _) = _; rw [s1.2, if_pos ⟨rfl, rfl⟩]
  have fe_0_15_1 : w_fi ws (n_v vs 0) 15 = w_fi w1 (n_v vs 0) 15 := by show v_iv (w_fd _ _ _) = v_iv (w_fd _ _ _); rw [s1.2, if_neg (fun e => absurd e.2 (by decide))]
  have fe_0_10_2 : w_fi w1 (n_v vs 0) 10 = w_fi w2 (n_v vs 0) 10 := by show v_iv (w_fd _ _ _) = v_iv (w_fd _ _ _); rw [s2.2, if_neg (fun e => absurd e.2 (by decide))]
  have fe_0_11_2 : w_fi w1 (n_v vs 0) 11 = w_fi w2 (n_v vs 0) 11 := by show v_iv (w_fd _ _ _) = v_iv (w_fd _ _ _); rw [s2.2, if_neg (fun e => absurd e.2 (by decide))]
  have fe_0_12_2 : w_fi w1 (n_v vs 0) 12 = w_fi w2 (n_v vs 0) 12 := by show v_iv (w_fd _ _ _) = v_iv (w_fd _ _ _); rw [s2.2, if_neg (fun e => absurd e.2 (by decide))]
  have fe_0_15_2 : w_fi w1 (n_v vs 0) 15 = w_fi w2 (n_v vs 0) 15 := by show v_iv (w_fd _ _ _) = v_iv (w_fd _ _ _); rw [s2.2, if_neg (fun e => absurd e.2 (by decide))]
  have fe_0_10_3 : w_fi w2 (n_v vs 0) 10 = w_fi w3 (n_v vs 0) 10 := by show v_iv (w_fd _ _ _) = v_iv (w_fd _ _ _); rw [s3.2, if_neg (fun e => absurd e.2 (by decide))]
  have fe_0_11_3 : w_fi w2 (n_v vs 0) 11 = w_fi w3 (n_v vs 0) 11 := by show v_iv (w_fd _ _ _) = v_iv (w_fd _ _ _); rw [s3.2, if_neg (fun e => absurd e.2 (by decide))]
  have fe_0_12_3 : w_fi w2 (n_v vs 0) 12 = v_iv (n_v vs 5) := by show v_iv (w_fd _ _ _) = _; rw [s3.2, if_pos ⟨rfl, rfl⟩]
  have fe_0_15_3 : w_fi w2 (n_v vs 0) 15 = w_fi w3 (n_v vs 0) 15 := by show v_iv (w_fd _ _ _) = v_iv (w_fd _ _ _); rw [s3.2, if_neg (fun e => absurd e.2 (by decide))]
  have fe_0_10_4 : w_fi w3 (n_v vs 0) 10 = w_fi w4 (n_v vs 0) 10 := by show v_iv (w_fd _ _ _) = v_iv (w_fd _ _ _); rw [s4.2, if_neg (fun e => absurd e.2 (by decide))]
  have fe_0_11_4 : w_fi w3 (n_v vs 0) 11 = w_fi w4 (n_v vs 0) 11 := by show v_iv (w_fd _ _ _) = v_iv (w_fd _ _ _); rw [s4.2, if_neg (fun e => absurd e.2 (by decide))]
  have fe_0_12_4 : w_fi w3 (n_v vs 0) 12 = w_fi w4 (n_v vs 0) 12 := by show v_iv (w_fd _ _ _) = v_iv (w_fd _ _ _); rw [s4.2, if_neg (fun e => absurd e.2 (by decide))]
  have fe_0_15_4 : w_fi w3 (n_v vs 0) 15 = v_iv (n_v vs 3) := by show v_iv (w_fd _ _ _) = _; rw [s4.2, if_pos ⟨rfl, rfl⟩]
  have fe_0_10_5 : w_fi w4 (n_v vs 0) 10 = w_fi w5 (n_v vs 0) 10 := by show v_iv (w_fd _ _ _) = v_iv (w_fd _ _ _); rw [s5.2, if_neg (fun e => absurd e.2 (by decide))]
  have fe_0_11_5 : w_fi w4 (n_v vs 0) 11 = w_fi w5 (n_v vs 0) 11 := by show v_iv (w_fd _ _ _) = v_iv (w_fd _ _ _); rw [s5.2, if_neg (fun e => absurd e.2 (by decide))]
  have fe_0_12_5 : w_fi w4 (n_v vs 0) 12 = w_fi w5 (n_v vs 0) 12 := by show v_iv (w_fd _ _ _) = v_iv (w_fd _ _ _); rw [s5.2, if_neg (fun e => absurd e.2 (by decide))]
  have fe_0_15_5 : w_fi w4 (n_v vs 0) 15 = w_fi w5 (n_v vs 0) 15 := by show v_iv (w_fd _ _ _) = v_iv (w_fd _ _ _); rw [s5.2, if_neg (fun e => absurd e.2 (by decide))]
  have hE_0_1_1 : ∀ j : Int, w_ei ws (w_ar ws (n_v vs 0) 1) j = w_ei w1 (w_ar ws (n_v vs 0) 1) j := fun j => s1.1 _ _
  have hE_0_1_2 : ∀ j : Int, w_ei w1 (w_ar ws (n_v vs 0) 1) j = w_ei w2 (w_ar ws (n_v vs 0) 1) j := fun j => s2.1 _ _
  have hE_0_1_3 : ∀ j : Int, w_ei w2 (w_ar ws (n_v vs 0) 1) j = w_ei w3 (w_ar ws (n_v vs 0) 1) j := fun j => s3.1 _ _
  have hE_0_1_4 : ∀ j : Int, w_ei w3 (w_ar ws (n_v vs 0) 1) j = w_ei w4 (w_ar ws (n_v vs 0) 1) j := fun j => s4.1 _ _
  have hE_0_1_5 : ∀ j : Int, w_ei w4 (w_ar ws (n_v vs 0) 1) j = w_ei w5 (w_ar ws (n_v vs 0) 1) j := fun j => s5.1 _ _
  have hK_0_1 : ∀ j : Int, 0 ≤ j → j < 2000 → (-128) ≤ w_ei ws (w_ar ws (n_v vs 0) 1) j ∧ w_ei ws (w_ar ws (n_v vs 0) 1) j ≤ 127 := fun j h0 h1 => th_el hD hth cr_0_1 (kd := 1) (n := 2000) (m := 2000) (lo := (-128)) (hi := 127) (rs := []) (L := []) rfl (by decide) (j := j.toNat) (by omega)
  have kz_0_10 : 0 ≤ w_fi ws (n_v vs 0) 10 ∧ w_fi ws (n_v vs 0) 10 ≤ 2000 := tv_rng (th_fd hD hth r0 (g := GG_150) rfl (k := 10) (t := (0, 0, 2000, [])) rfl rfl)
  have kz_0_11 : 0 ≤ w_fi ws (n_v vs 0) 11 ∧ w_fi ws (n_v vs 0) 11 ≤ 2000 := tv_rng (th_fd hD hth r0 (g := GG_150) rfl (k := 11) (t := (0, 0, 2000, [])) rfl rfl)
  have kz_0_12 : 0 ≤ w_fi ws (n_v vs 0) 12 ∧ w_fi ws (n_v vs 0) 12 ≤ 4 := tv_rng (th_fd hD hth r0 (g := GG_150) rfl (k := 12) (t := (0, 0, 4, [])) rfl rfl)
  have kz_0_15 : 0 ≤ w_fi ws (n_v vs 0) 15 ∧ w_fi ws (n_v vs 0) 15 ≤ 2000 := tv_rng (th_fd hD hth r0 (g := GG_150) rfl (k := 15) (t := (0, 0, 2000, [])) rfl rfl)
  have nf0 : fc_1 (20, [1, 2], [30, 0, 1, 0, 0, -1, 1, 15]) ws (vs) := by
    refine ⟨fun n hn => ?_, ?_⟩
    · have hn : n ∈ [1, 2] := hn
      rw [hl]
      simp only [List.mem_cons, List.not_mem_nil, or_false] at hn
      show n < 7; omega
    · show 1 * v_iv (n_v vs 1) + ((-1) * w_fi ws (n_v vs 2) 15 + 0) ≤ 0
      rw [q2]
      omega
  have nf1 : fc_1 (20, [2, 2], [30, 0, 1, 1, 15, -1, 1, 11]) ws (vs) := by
    refine ⟨fun n hn => ?_, ?_⟩
    · have hn : n ∈ [2, 2] := hn
      rw [hl]
      simp only [List.mem_cons, List.not_mem_nil, or_false] at hn
      show n < 7; omega
    · show 1 * w_fi ws (n_v vs 2) 15 + ((-1) * w_fi ws (n_v vs 2) 11 + 0) ≤ 0
      rw [q2]
      omega
  have nf2 : fc_1 (20, [2], [50, 3, 0, 12, 11, 15, 2, 21, 4, 7, 1, 3, 2, 0, 12, 0, 1, 0, 3, 2, 0, 11, 4, 3, 2, 0, 15, 0, 8, 3, 7, 1, 3, 2, 0, 12, 0, 0, 0, 7, 4, 3, 2, 0, 15, 0, 1, 2, 0, 11]) ws (vs) := by
    refine ⟨fun n hn => ?_, ?_⟩
    · have hn : n ∈ [2] := hn
      rw [hl]
      simp only [List.mem_cons, List.not_mem_nil, or_false] at hn
      show n < 7; omega
    · show ((w_fi ws (n_v vs 2) 12 = 1) → (w_fi ws (n_v vs 2) 11 ≤ (w_fi ws (n_v vs 2) 15 + 8))) ∧ ((w_fi ws (n_v vs 2) 12 = 0) ∨ ((w_fi ws (n_v vs 2) 15 + 1) ≤ w_fi ws (n_v vs 2) 11))
      rw [q2]
      first | omega | grind
  have nf3 : fc_1 (20, [0, 0], [30, 0, 1, 1, 15, -1, 1, 11]) ws (vs) := by
    refine ⟨fun n hn => ?_, ?_⟩
    · have hn : n ∈ [0, 0] := hn
      rw [hl]
      simp only [List.mem_cons, List.not_mem_nil, or_false] at hn
      show n < 7; omega
    · show 1 * w_fi ws (n_v vs 0) 15 + ((-1) * w_fi ws (n_v vs 0) 11 + 0) ≤ 0
      omega
  have nf4 : fc_1 (20, [0], [50, 3, 0, 12, 11, 15, 2, 21, 4, 7, 1, 3, 2, 0, 12, 0, 1, 0, 3, 2, 0, 11, 4, 3, 2, 0, 15, 0, 8, 3, 7, 1, 3, 2, 0, 12, 0, 0, 0, 7, 4, 3, 2, 0, 15, 0, 1, 2, 0, 11]) ws (vs) := by
    refine ⟨fun n hn => ?_, ?_⟩
    · have hn : n ∈ [0] := hn
      rw [hl]
      simp only [List.mem_cons, List.not_mem_nil, or_false] at hn
      show n < 7; omega
    · show ((w_fi ws (n_v vs 0) 12 = 1) → (w_fi ws (n_v vs 0) 11 ≤ (w_fi ws (n_v vs 0) 15 + 8))) ∧ ((w_fi ws (n_v vs 0) 12 = 0) ∨ ((w_fi ws (n_v vs 0) 15 + 1) ≤ w_fi ws (n_v vs 0) 11))
      first | omega | grind
  have nf5 : fc_1 (20, [1, 0], [30, 0, 1, 0, 0, -1, 1, 15]) ws (vs) := by
    refine ⟨fun n hn => ?_, ?_⟩
    · have hn : n ∈ [1, 0] := hn
      rw [hl]
      simp only [List.mem_cons, List.not_mem_nil, or_false] at hn
      show n < 7; omega
    · show 1 * v_iv (n_v vs 1) + ((-1) * w_fi ws (n_v vs 0) 15 + 0) ≤ 0
      omega
  refine ⟨(fun _ h => (by cases h)), [], trivial, ?_, (fun _ h => (by cases h))⟩
  rw [List.append_nil]
  exact List.forall_mem_cons.mpr ⟨⟨show (20 : Nat) < 100 from by decide, nf0⟩, List.forall_mem_cons.mpr ⟨⟨show (20 : Nat) < 100 from by decide, nf1⟩, List.forall_mem_cons.mpr ⟨⟨show (20 : Nat) < 100 from by decide, nf2⟩, List.forall_mem_cons.mpr ⟨⟨show (20 : Nat) < 100 from by decide, nf3⟩, List.forall_mem_cons.mpr ⟨⟨show (20 : Nat) < 100 from by decide, nf4⟩, List.forall_mem_cons.mpr ⟨⟨show (20 : Nat) < 100 from by decide, nf5⟩, (fun _ h => (by cases h))⟩⟩⟩⟩⟩⟩
def o_Mo_next_5 : or_T := (277, 8, [(0, (2, 0, 0, [150])), (1, (0, 0, 2000, [])), (2, (2, 0, 0, [150])), (3, (0, 0, 1999, [])), (4, (0, 0, 47, []))], [(8, [4], [3]), (20, [3, 2, 4], [50, 1, 1, 1010, 1001, 4, 11, 0, 6, 4, 2, 1, 0, 0, 1, 2, 1, 10, 1, 2, 1, 2, 9, 5, 3, 1, 1, 1, 0, 0, 256]), (20, [2, 3, 4], [50, 1, 0, 10, 4, 7, 0, 3, 2, 0, 10, 1, 1, 1, 2, 1, 2, 0, -1]), (20, [1, 2], [30, 0, 1, 0, 0, -1, 1, 11]), (24, [0, 2], []), (101, [2, 4], [14]), (20, [3, 2, 4], [50, 1, 1, 1010, 1001, 4, 11, 0, 6, 4, 2, 1, 0, 0, 1, 2, 1, 10, 1, 2, 1, 2, 9, 5, 3, 1, 1, 1, 0, 0, 256]), (20, [2, 3, 4], [50, 1, 0, 10, 4, 7, 0, 3, 2, 0, 10, 1, 1, 1, 2, 1, 2, 0, -1]), (20, [1, 2], [30, 0, 1, 0, 0, -1, 1, 11]), (101, [2, 5], [12]), (20, [3, 2, 4], [50, 1, 1, 1010, 1001, 4, 11, 0, 6, 4, 2, 1, 0, 0, 1, 2, 1, 10, 1, 2, 1, 2, 9, 5, 3, 1, 1, 1, 0, 0, 256]), (20, [2, 3, 4], [50, 1, 0, 10, 4, 7, 0, 3, 2, 0, 10, 1, 1, 1, 2, 1, 2, 0, -1]), (9, [3, 2], [11]), (20, [1, 2], [30, 0, 1, 0, 0, -1, 1, 11]), (101, [2, 3], [15]), (20, [1, 2], [30, 0, 1, 0, 0, -1, 1, 11]), (101, [2, 3], [13]), (20, [1, 2], [30, 0, 1, 0, 0, -1, 1, 11])], [], [], [(20, [1, 2], [30, 0, 1, 0, 0, -1, 1, 15]), (20, [2], [50, 2, 0, 11, 15, 1, 3, 2, 0, 11, 2, 0, 15])], [], [(1, 3, -4294967296, 2000), (3, 1, -4294967296, 2000)])
theorem oo_Mo_next_5 {kA : Nat → ClassId} : or_ok kA GG o_Mo_next_5 := by
  intro A ta ws vs hD hth hl hk hds hf
  have hl : vs.length = 8 := hl
  have hk : ∀ q ∈ ([(0, (2, 0, 0, [150])), (1, (0, 0, 2000, [])), (2, (2, 0, 0, [150])), (3, (0, 0, 1999, [])), (4, (0, 0, 47, []))] : List (Nat × tv_T)), tv_ok ta q.2 (n_v vs q.1) := hk
  obtain ⟨t0, hk⟩ := List.forall_mem_cons.mp hk
  have t0 : tv_ok ta (2, 0, 0, [150]) (n_v vs 0) := t0
  have r0 : ta (v_ad (n_v vs 0)) = some 150 := tv_rg t0
  obtain ⟨t1, hk⟩ := List.forall_mem_cons.mp hk
  have t1 : tv_ok ta (0, 0, 2000, []) (n_v vs 1) := t1
  have k1 : 0 ≤ v_iv (n_v vs 1) ∧ v_iv (n_v vs 1) ≤ 2000 := tv_rng t1
  obtain ⟨t2, hk⟩ := List.forall_mem_cons.mp hk
  have t2 : tv_ok ta (2, 0, 0, [150]) (n_v vs 2) := t2
  have r2 : ta (v_ad (n_v vs 2)) = some 150 := tv_rg t2
  obtain ⟨t3, hk⟩ := List.forall_mem_cons.mp hk
  have t3 : tv_ok ta (0, 0, 1999, []) (n_v vs 3) := t3
  have k3 : 0 ≤ v_iv (n_v vs 3) ∧ v_iv (n_v vs 3) ≤ 1999 := tv_rng t3
  obtain ⟨t4, hk⟩ := List.forall_mem_cons.mp hk
  have t4 : tv_ok ta (0, 0, 47, []) (n_v vs 4) := t4
  have k4 : 0 ≤ v_iv (n_v vs 4) ∧ v_iv (n_v vs 4) ≤ 47 := tv_rng t4
  have hds : ∀ q ∈ ([(1, 3, -4294967296, 2000), (3, 1, -4294967296, 2000)] : List of_T), n_iv vs q.2.1 + q.2.2.1 ≤ n_iv vs q.1 ∧ n_iv vs q.1 ≤ n_iv vs q.2.1 + q.2.2.2 := hds
  obtain ⟨d0, hds⟩ := List.forall_mem_cons.mp hds
  have d0 : v_iv (n_v vs 3) + (-4294967296) ≤ v_iv (n_v vs 1) ∧ v_iv (n_v vs 1) ≤ v_iv (n_v vs 3) + 2000 := d0
  obtain ⟨d1, hds⟩ := List.forall_mem_cons.mp hds
  have d1 : v_iv (n_v vs 1) + (-4294967296) ≤ v_iv (n_v vs 3) ∧ v_iv (n_v vs 3) ≤ v_iv (n_v vs 1) + 2000 := d1
  have hf : fc_ok [(8, [4], [3]), (20, [3, 2, 4], [50, 1, 1, 1010, 1001, 4, 11, 0, 6, 4, 2, 1, 0, 0, 1, 2, 1, 10, 1, 2, 1, 2, 9, 5, 3, 1, 1, 1, 0, 0, 256]), (20, [2, 3, 4], [50, 1, 0, 10, 4, 7, 0, 3, 2, 0, 10, 1, 1, 1, 2, 1, 2, 0, -1]), (20, [1, 2], [30, 0, 1, 0, 0, -1, 1, 11]), (24, [0, 2], []), (101, [2, 4], [14]), (20, [3, 2, 4], [50, 1, 1, 1010, 1001, 4, 11, 0, 6, 4, 2, 1, 0, 0, 1, 2, 1, 10, 1, 2, 1, 2, 9, 5, 3, 1, 1, 1, 0, 0, 256]), (20, [2, 3, 4], [50, 1, 0, 10, 4, 7, 0, 3, 2, 0, 10, 1, 1, 1, 2, 1, 2, 0, -1]), (20, [1, 2], [30, 0, 1, 0, 0, -1, 1, 11]), (101, [2, 5], [12]), (20, [3, 2, 4], [50, 1, 1, 1010, 1001, 4, 11, 0, 6, 4, 2, 1, 0, 0, 1, 2, 1, 10, 1, 2, 1, 2, 9, 5, 3, 1, 1, 1, 0, 0, 256]), (20, [2, 3, 4], [50, 1, 0, 10, 4, 7, 0, 3, 2, 0, 10, 1, 1, 1, 2, 1, 2, 0, -1]), (9, [3, 2], [11]), (20, [1, 2], [30, 0, 1, 0, 0, -1, 1, 11]), (101, [2, 3], [15]), (20, [1, 2], [30, 0, 1, 0, 0, -1, 1, 11]), (101, [2, 3], [13]), (20, [1, 2], [30, 0, 1, 0, 0, -1, 1, 11])] ta ws vs := hf
  obtain ⟨f0, hf⟩ := fc_un (show (8 : Nat) < 100 from by decide) hf
  have f0 : 0 ≤ v_iv (n_v vs 4) := f0
  obtain ⟨f1, hf⟩ := fc_un (show (20 : Nat) < 100 from by decide) hf
  have f1 : ((v_iv (n_v vs 3) + 1) ≤ w_fi ws (n_v vs 2) 10) → (v_iv (n_v vs 4) = (w_ei ws (w_ar ws (n_v vs 2) 1) (v_iv (n_v vs 3)) % 256)) := f1
  obtain ⟨f2, hf⟩ := fc_un (show (20 : Nat) < 100 from by decide) hf
  have f2 : (w_fi ws (n_v vs 2) 10 ≤ v_iv (n_v vs 3)) → (v_iv (n_v vs 4) = (-1)) := f2
  obtain ⟨f3, hf⟩ := fc_un (show (20 : Nat) < 100 from by decide) hf
  have f3 : 1 * v_iv (n_v vs 1) + ((-1) * w_fi ws (n_v vs 2) 11 + 0) ≤ 0 := f3
  obtain ⟨f4, hf⟩ := fc_un (show (24 : Nat) < 100 from by decide) hf
  have f4 : n_v vs 0 = n_v vs 2 := f4
  obtain ⟨ta1, w1, le1, ⟨_, s1⟩, hf⟩ := fc_us (show ¬ (101 : Nat) < 100 from by decide) hf
  have s1 : (∀ b j, w_el ws b j = w_el w1 b j) ∧ ∀ b j, w_fd ws b j = if b = v_ad (n_v vs 2) ∧ j = 14 then n_v vs 4 else w_fd w1 b j := s1
  obtain ⟨f6, hf⟩ := fc_un (show (20 : Nat) < 100 from by decide) hf
  have f6 : ((v_iv (n_v vs 3) + 1) ≤ w_fi w1 (n_v vs 2) 10) → (v_iv (n_v vs 4) = (w_ei w1 (w_ar w1 (n_v vs 2) 1) (v_iv (n_v vs 3)) % 256)) := f6
  obtain ⟨f7, hf⟩ := fc_un (show (20 : Nat) < 100 from by decide) hf
  have f7 : (w_fi w1 (n_v vs 2) 10 ≤ v_iv (n_v vs 3)) → (v_iv (n_v vs 4) = (-1)) := f7
  obtain ⟨f8, hf⟩ := fc_un (show (20 : Nat) < 100 from by decide) hf
  have f8 : 1 * v_iv (n_v vs 1) + ((-1) * w_fi w1 (n_v vs 2) 11 + 0) ≤ 0 := f8
  obtain ⟨ta2, w2, le2, ⟨_, s2⟩, hf⟩ := fc_us (show ¬ (101 : Nat) < 100 from by decide) hf
  have s2 : (∀ b j, w_el w1 b j = w_el w2 b j) ∧ ∀ b j, w_fd w1 b j = if b = v_ad (n_v vs 2) ∧ j = 12 then n_v vs 5 else w_fd w2 b j := s2
  obtain ⟨f10, hf⟩ := fc_un (show (20 : Nat) < 100 from by decide) hf
  have f10 : ((v_iv (n_v vs 3) + 1) ≤ w_fi w2 (n_v vs 2) 10) → (v_iv (n_v vs 4) = (w_ei w2 (w_ar w2 (n_v vs 2) 1) (v_iv (n_v vs 3)) % 256)) := f10
  obtain ⟨f11, hf⟩ := fc_un (show (20 : Nat) < 100 from by decide) hf
  have f11 : (w_fi w2 (n_v vs 2) 10 ≤ v_iv (n_v vs 3)) → (v_iv (n_v vs 4) = (-1)) := f11
  obtain ⟨f12, hf⟩ := fc_un (show (9 : Nat) < 100 from by decide) hf
  have f12 : n_v vs 3 = w_fd w2 (v_ad (n_v vs 2)) 11 := f12
  obtain ⟨f13, hf⟩ := fc_un (show (20 : Nat) < 100 from by decide) hf
  have f13 : 1 * v_iv (n_v vs 1) + ((-1) * w_fi w2 (n_v vs 2) 11 + 0) ≤ 0 := f13
  obtain ⟨ta3, w3, le3, ⟨_, s3⟩, hf⟩ := fc_us (show ¬ (101 : Nat) < 100 from by decide) hf
  have s3 : (∀ b j, w_el w2 b j = w_el w3 b j) ∧ ∀ b j, w_fd w2 b j = if b = v_ad (n_v vs 2) ∧ j = 15 then n_v vs 3 else w_fd w3 b j := s3
  obtain ⟨f15, hf⟩ := fc_un (show (20 : Nat) < 100 from by decide) hf
  have f15 : 1 * v_iv (n_v vs 1) + ((-1) * w_fi w3 (n_v vs 2) 11 + 0) ≤ 0 := f15
  obtain ⟨ta4, w4, le4, ⟨_, s4⟩, hf⟩ := fc_us (show ¬ (101 : Nat) < 100 from by decide) hf
  have s4 : (∀ b j, w_el w3 b j = w_el w4 b j) ∧ ∀ b j, w_fd w3 b j = if b = v_ad (n_v vs 2) ∧ j = 13 then n_v vs 3 else w_fd w4 b j := s4
  obtain ⟨f17, hf⟩ := fc_un (show (20 : Nat) < 100 from by decide) hf
  have f17 : 1 * v_iv (n_v vs 1) + ((-1) * w_fi w4 (n_v vs 2) 11 + 0) ≤ 0 := f17
  have q2 : n_v vs 2 = n_v vs 0 := f4.symm
  rw [q2] at f1
  rw [q2] at f2
  rw [q2] at f3
  rw [q2] at s1
  rw [q2] at f6
  rw [q2] at f7
  rw [q2] at f8
  rw [q2] at s2
  rw [q2] at f10
  rw [q2] at f11
  rw [q2] at f12
  rw [q2] at f13
  rw [q2] at s3
  rw [q2] at f15
  rw [q2] at s4
  rw [q2] at f17
  have ar_0_1_1 : w_ar w1 (n_v vs 0) 1 = w_ar ws (n_v vs 0) 1 := by show v_ad (w_fd w1 _ _) = v_ad (w_fd ws _ _); rw [s1.2, if_neg (fun e => absurd e.2 (by decide))]
  have ar_0_1_2 : w_ar w2 (n_v vs 0) 1 = w_ar ws (n_v vs 0) 1 := by rw [← ar_0_1_1]; show v_ad (w_fd w2 _ _) = v_ad (w_fd w1 _ _); rw [s2.2, if_neg (fun e => absurd e.2 (by decide))]
  have ar_0_1_3 : w_ar w3 (n_v vs 0) 1 = w_ar ws (n_v vs 0) 1 := by rw [← ar_0_1_2]; show v_ad (w_fd w3 _ _) = v_ad (w_fd w2 _ _); rw [s3.2, if_neg (fun e => absurd e.2 (by decide))]
  have ar_0_1_4 : w_ar w4 (n_v vs 0) 1 = w_ar ws (n_v vs 0) 1 := by rw [← ar_0_1_3]; show v_ad (w_fd w4 _ _) = v_ad (w_fd w3 _ _); rw [s4.2, if_neg (fun e => absurd e.2 (by decide))]
  have cr_0_1 : ta (w_ar ws (n_v vs 0) 1) = some 151 := tv_rg (th_fd hD hth r0 (g := GG_150) rfl (k := 1) (t := (2, 0, 0, [151])) rfl rfl)
  rw [ar_0_1_1] at f6
  rw [ar_0_1_2] at f10
  have g12 : v_iv (n_v vs 3) = w_fi w2 (n_v vs 0) 11 := congrArg v_iv f12
  have fe_0_10_1 : w_fi ws (n_v vs 0) 10 = w_fi w1 (n_v vs 0) 10 := by show v_iv (w_fd _ _ _) = v_iv (w_fd _ _ _); rw [s1.2, if_neg (fun e => absurd e.2 (by decide))]
  have fe_0_11_1 : w_fi ws (n_v vs 0) 11 = w_fi w1 (n_v vs 0) 11 := by show v_iv (w_fd _ _ _) = v_iv (w_fd _ _ _); rw [s1.2, if_neg (fun e => absurd e.2 (by decide))]
  have fe_0_15_1 : w_fi ws (n_v vs 0) 15 = w_fi w1 (n_v vs 0) 15 := by show v_iv (w_fd _ _ _) = v_iv (w_fd _ _ _); rw [s1.2, if_neg (fun e => absurd e.2 (by decide))]
  have fe_0_10_2 : w_fi w1 (n_v vs 0) 10 = w_fi w2 (n_v vs 0) 10 := by show v_iv (w_fd _ _ _) = v_iv (w_fd _ _ _); rw [s2.2, if_neg (fun e => absurd e.2 (by decide))]
  have fe_0_11_2 : w_fi w1 (n_v vs 0) 11 = w_fi w2 (n_v vs 0) 11 := by show v_iv (w_fd _ _ _) = v_iv (w_fd _ _ _); rw [s2.2, if_neg (fun e => absurd e.2 (by decide))]
  have fe_0_15_2 : w_fi w1 (n_v vs 0) 15 = w_fi w2 (n_v vs 0) 15 := by show v_iv (w_fd _ _ _) = v_iv (w_fd _ _ _); rw [s2.2, if_neg (fun e => absurd e.2 (by decide))]
  have fe_0_10_3 : w_fi w2 (n_v vs 0) 10 = w_fi w3 (n_v vs 0) 10 := by show v_iv (w_fd _ _ _) = v_iv (w_fd _ _ _); rw [s3.2, if_neg (fun e => absurd e.2 (by decide))]
  have fe_0_11_3 : w_fi w2 (n_v vs 0) 11 = w_fi w3 (n_v vs 0) 11 := by show v_iv (w_fd _ _ _) = v_iv (w_fd _ _ _); rw [s3.2, if_neg (fun e => absurd e.2 (by decide))]
  have fe_0_15_3 : w_fi w2 (n_v vs 0) 15 = v_iv (n_v vs 3) := by show v_iv (w_fd _ _ _) = _; rw [s3.2, if_pos ⟨rfl, rfl⟩]
  have fe_0_10_4 : w_fi w3 (n_v vs 0) 10 = w_fi w4 (n_v vs 0) 10 := by show v_iv (w_fd _ _ _) = v_iv (w_fd _ _ _); rw [s4.2, if_neg (fun e => absurd e.2 (by decide))]
  have fe_0_11_4 : w_fi w3 (n_v vs 0) 11 = w_fi w4 (n_v vs 0) 11 := by show v_iv (w_fd _ _ _) = v_iv (w_fd _ _ _); rw [s4.2, if_neg (fun e => absurd e.2 (by decide))]
  have fe_0_15_4 : w_fi w3 (n_v vs 0) 15 = w_fi w4 (n_v vs 0) 15 := by show v_iv (w_fd _ _ _) = v_iv (w_fd _ _ _); rw [s4.2, if_neg (fun e => absurd e.2 (by decide))]
  have hE_0_1_1 : ∀ j : Int, w_ei ws (w_ar ws (n_v vs 0) 1) j = w_ei w1 (w_ar ws (n_v vs 0) 1) j := fun j => s1.1 _ _
  have hE_0_1_2 : ∀ j : Int, w_ei w1 (w_ar ws (n_v vs 0) 1) j = w_ei w2 (w_ar ws (n_v vs 0) 1) j := fun j => s2.1 _ _
  have hE_0_1_3 : ∀ j : Int, w_ei w2 (w_ar ws (n_v vs 0) 1) j = w_ei w3 (w_ar ws (n_v vs 0) 1) j := fun j => s3.1 _ _
  have hE_0_1_4 : ∀ j : Int, w_ei w3 (w_ar ws (n_v vs 0) 1) j = w_ei w4 (w_ar ws (n_v vs 0) 1) j := fun j => s4.1 _ _
  have hK_0_1 : ∀ j : Int, 0 ≤ j → j < 2000 → (-128) ≤ w_ei ws (w_ar ws (n_v vs 0) 1) j ∧ w_ei ws (w_ar ws (n_v vs 0) 1) j ≤ 127 := fun j h0 h1 => th_el hD hth cr_0_1 (kd := 1) (n := 2000) (m := 2000) (lo := (-128)) (hi := 127) (rs := []) (L := []) rfl (by decide) (j := j.toNat) (by omega)
  have kz_0_10 : 0 ≤ w_fi ws (n_v vs 0) 10 ∧ w_fi ws (n_v vs 0) 10 ≤ 2000 := tv_rng (th_fd hD hth r0 (g := GG_150) rfl (k := 10) (t := (0, 0, 2000, [])) rfl rfl)
  have kz_0_11 : 0 ≤ w_fi ws (n_v vs 0) 11 ∧ w_fi ws (n_v vs 0) 11 ≤ 2000 := tv_rng (th_fd hD hth r0 (g := GG_150) rfl (k := 11) (t := (0, 0, 2000, [])) rfl rfl)
  have kz_0_15 : 0 ≤ w_fi ws (n_v vs 0) 15 ∧ w_fi ws (n_v vs 0) 15 ≤ 2000 := tv_rng (th_fd hD hth r0 (g := GG_150) rfl (k := 15) (t := (0, 0, 2000, [])) rfl rfl)
  have nf0 : fc_1 (20, [1, 2], [30, 0, 1, 0, 0, -1, 1, 15]) ws (vs) := by
    refine ⟨fun n hn => ?_, ?_⟩
    · have hn : n ∈ [1, 2] := hn
      rw [hl]
      simp only [List.mem_cons, List.not_mem_nil, or_false] at hn
      show n < 8; omega
    · show 1 * v_iv (n_v vs 1) + ((-1) * w_fi ws (n_v vs 2) 15 + 0) ≤ 0
      rw [q2]
      omega
  have nf1 : fc_1 (20, [2], [50, 2, 0, 11, 15, 1, 3, 2, 0, 11, 2, 0, 15]) ws (vs) := by
    refine ⟨fun n hn => ?_, ?_⟩
    · have hn : n ∈ [2] := hn
      rw [hl]
      simp only [List.mem_cons, List.not_mem_nil, or_false] at hn
      show n < 8; omega
    · show w_fi ws (n_v vs 2) 11 = w_fi ws (n_v vs 2) 15
      rw [q2]
      first | omega | grind
  refine ⟨(fun _ h => (by cases h)), [], trivial, ?_, (fun _ h => (by cases h))⟩
  rw [List.append_nil]
  exact List.forall_mem_cons.mpr ⟨⟨show (20 : Nat) < 100 from by decide, nf0⟩, List.forall_mem_cons.mpr ⟨⟨show (20 : Nat) < 100 from by decide, nf1⟩, (fun _ h => (by cases h))⟩⟩
def o_Mo_next_6 : or_T := (277, 8, [(0, (2, 0, 0, [150])), (1, (0, 0, 2000, [])), (2, (2, 0, 0, [150])), (3, (0, 0, 1999, [])), (4, (0, 58, 64, []))], [(8, [4], [3]), (20, [3, 2, 4], [50, 1, 1, 1010, 1001, 4, 11, 0, 6, 4, 2, 1, 0, 0, 1, 2, 1, 10, 1, 2, 1, 2, 9, 5, 3, 1, 1, 1, 0, 0, 256]), (20, [2, 3, 4], [50, 1, 0, 10, 4, 7, 0, 3, 2, 0, 10, 1, 1, 1, 2, 1, 2, 0, -1]), (20, [1, 2], [30, 0, 1, 0, 0, -1, 1, 11]), (24, [0, 2], []), (101, [2, 4], [14]), (20, [3, 2, 4], [50, 1, 1, 1010, 1001, 4, 11, 0, 6, 4, 2, 1, 0, 0, 1, 2, 1, 10, 1, 2, 1, 2, 9, 5, 3, 1, 1, 1, 0, 0, 256]), (20, [2, 3, 4], [50, 1, 0, 10, 4, 7, 0, 3, 2, 0, 10, 1, 1, 1, 2, 1, 2, 0, -1]), (20, [1, 2], [30, 0, 1, 0, 0, -1, 1, 11]), (101, [2, 5], [12]), (20, [3, 2, 4], [50, 1, 1, 1010, 1001, 4, 11, 0, 6, 4, 2, 1, 0, 0, 1, 2, 1, 10, 1, 2, 1, 2, 9, 5, 3, 1, 1, 1, 0, 0, 256]), (20, [2, 3, 4], [50, 1, 0, 10, 4, 7, 0, 3, 2, 0, 10, 1, 1, 1, 2, 1, 2, 0, -1]), (9, [3, 2], [11]), (20, [1, 2], [30, 0, 1, 0, 0, -1, 1, 11]), (101, [2, 3], [15]), (20, [1, 2], [30, 0, 1, 0, 0, -1, 1, 11]), (101, [2, 3], [13]), (20, [1, 2], [30, 0, 1, 0, 0, -1, 1, 11])], [], [], [(20, [1, 2], [30, 0, 1, 0, 0, -1, 1, 15]), (20, [2], [50, 2, 0, 11, 15, 1, 3, 2, 0, 11, 2, 0, 15])], [], [(1, 3, -4294967296, 2000), (3, 1, -4294967296, 2000)])
theorem oo_Mo_next_6 {kA : Nat → ClassId} : or_ok kA GG o_Mo_next_6 := by
  intro A ta ws vs hD hth hl hk hds hf
  have hl : vs.length = 8 := hl
  have hk : ∀ q ∈ ([(0, (2, 0, 0, [150])), (1, (0, 0, 2000, [])), (2, (2, 0, 0, [150])), (3, (0, 0, 1999, [])), (4, (0, 58, 64, []))] : List (Nat × tv_T)), tv_ok ta q.2 (n_v vs q.1) := hk
  obtain ⟨t0, hk⟩ := List.forall_mem_cons.mp hk
  have t0 : tv_ok ta (2, 0, 0, [150]) (n_v vs 0) := t0
  have r0 : ta (v_ad (n_v vs 0)) = some 150 := tv_rg t0
  obtain ⟨t1, hk⟩ := List.forall_mem_cons.mp hk
  have t1 : tv_ok ta (0, 0, 2000, []) (n_v vs 1) := t1
  have k1 : 0 ≤ v_iv (n_v vs 1) ∧ v_iv (n_v vs 1) ≤ 2000 := tv_rng t1
  obtain ⟨t2, hk⟩ := List.forall_mem_cons.mp hk
  have t2 : tv_ok ta (2, 0, 0, [150]) (n_v vs 2) := t2
  have r2 : ta (v_ad (n_v vs 2)) = some 150 := tv_rg t2
  obtain ⟨t3, hk⟩ := List.forall_mem_cons.mp hk
  have t3 : tv_ok ta (0, 0, 1999, []) (n_v vs 3) := t3
  have k3 : 0 ≤ v_iv (n_v vs 3) ∧ v_iv (n_v vs 3) ≤ 1999 := tv_rng t3
  obtain ⟨t4, hk⟩ := List.forall_mem_cons.mp hk
  have t4 : tv_ok ta (0, 58, 64, []) (n_v vs 4) := t4
  have k4 : 58 ≤ v_iv (n_v vs 4) ∧ v_iv (n_v vs 4) ≤ 64 := tv_rng t4
  have hds : ∀ q ∈ ([(1, 3, -4294967296, 2000), (3, 1, -4294967296, 2000)] : List of_T), n_iv vs q.2.1 + q.2.2.1 ≤ n_iv vs q.1 ∧ n_iv vs q.1 ≤ n_iv vs q.2.1 + q.2.2.2 := hds
  obtain ⟨d0, hds⟩ := List.forall_mem_cons.mp hds
  have d0 : v_iv (n_v vs 3) + (-4294967296) ≤ v_iv (n_v vs 1) ∧ v_iv (n_v vs 1) ≤ v_iv (n_v vs 3) + 2000 := d0
  obtain ⟨d1, hds⟩ := List.forall_mem_cons.mp hds
  have d1 : v_iv (n_v vs 1) + (-4294967296) ≤ v_iv (n_v vs 3) ∧ v_iv (n_v vs 3) ≤ v_iv (n_v vs 1) + 2000 := d1
  have hf : fc_ok [(8, [4], [3]), (20, [3, 2, 4], [50, 1, 1, 1010, 1001, 4, 11, 0, 6, 4, 2, 1, 0, 0, 1, 2, 1, 10, 1, 2, 1, 2, 9, 5, 3, 1, 1, 1, 0, 0, 256]), (20, [2, 3, 4], [50, 1, 0, 10, 4, 7, 0, 3, 2, 0, 10, 1, 1, 1, 2, 1, 2, 0, -1]), (20, [1, 2], [30, 0, 1, 0, 0, -1, 1, 11]), (24, [0, 2], []), (101, [2, 4], [14]), (20, [3, 2, 4], [50, 1, 1, 1010, 1001, 4, 11, 0, 6, 4, 2, 1, 0, 0, 1, 2, 1, 10, 1, 2, 1, 2, 9, 5, 3, 1, 1, 1, 0, 0, 256]), (20, [2, 3, 4], [50, 1, 0, 10, 4, 7, 0, 3, 2, 0, 10, 1, 1, 1, 2, 1, 2, 0, -1]), (20, [1, 2], [30, 0, 1, 0, 0, -1, 1, 11]), (101, [2, 5], [12]), (20, [3, 2, 4], [50, 1, 1, 1010, 1001, 4, 11, 0, 6, 4, 2, 1, 0, 0, 1, 2, 1, 10, 1, 2, 1, 2, 9, 5, 3, 1, 1, 1, 0, 0, 256]), (20, [2, 3, 4], [50, 1, 0, 10, 4, 7, 0, 3, 2, 0, 10, 1, 1, 1, 2, 1, 2, 0, -1]), (9, [3, 2], [11]), (20, [1, 2], [30, 0, 1, 0, 0, -1, 1, 11]), (101, [2, 3], [15]), (20, [1, 2], [30, 0, 1, 0, 0, -1, 1, 11]), (101, [2, 3], [13]), (20, [1, 2], [30, 0, 1, 0, 0, -1, 1, 11])] ta ws vs := hf
  obtain ⟨f0, hf⟩ := fc_un (show (8 : Nat) < 100 from by decide) hf
  have f0 : 0 ≤ v_iv (n_v vs 4) := f0
  obtain ⟨f1, hf⟩ := fc_un (show (20 : Nat) < 100 from by decide) hf
  have f1 : ((v_iv (n_v vs 3) + 1) ≤ w_fi ws (n_v vs 2) 10) → (v_iv (n_v vs 4) = (w_ei ws (w_ar ws (n_v vs 2) 1) (v_iv (n_v vs 3)) % 256)) := f1
  obtain ⟨f2, hf⟩ := fc_un (show (20 : Nat) < 100 from by decide) hf
  have f2 : (w_fi ws (n_v vs 2) 10 ≤ v_iv (n_v vs 3)) → (v_iv (n_v vs 4) = (-1)) := f2
  obtain ⟨f3, hf⟩ := fc_un (show (20 : Nat) < 100 from by decide) hf
  have f3 : 1 * v_iv (n_v vs 1) + ((-1) * w_fi ws (n_v vs 2) 11 + 0) ≤ 0 := f3
  obtain ⟨f4, hf⟩ := fc_un (show (24 : Nat) < 100 from by decide) hf
  have f4 : n_v vs 0 = n_v vs 2 := f4
  obtain ⟨ta1, w1, le1, ⟨_, s1⟩, hf⟩ := fc_us (show ¬ (101 : Nat) < 100 from by decide) hf
  have s1 : (∀ b j, w_el ws b j = w_el w1 b j) ∧ ∀ b j, w_fd ws b j = if b = v_ad (n_v vs 2) ∧ j = 14 then n_v vs 4 else w_fd w1 b j := s1
  obtain ⟨f6, hf⟩ := fc_un (show (20 : Nat) < 100 from by decide) hf
  have f6 : ((v_iv (n_v vs 3) + 1) ≤ w_fi w1 (n_v vs 2) 10) → (v_iv (n_v vs 4) = (w_ei w1 (w_ar w1 (n_v vs 2) 1) (v_iv (n_v vs 3)) % 256)) := f6
  obtain ⟨f7, hf⟩ := fc_un (show (20 : Nat) < 100 from by decide) hf
  have f7 : (w_fi w1 (n_v vs 2) 10 ≤ v_iv (n_v vs 3)) → (v_iv (n_v vs 4) = (-1)) := f7
  obtain ⟨f8, hf⟩ := fc_un (show (20 : Nat) < 100 from by decide) hf
  have f8 : 1 * v_iv (n_v vs 1) + ((-1) * w_fi w1 (n_v vs 2) 11 + 0) ≤ 0 := f8
  obtain ⟨ta2, w2, le2, ⟨_, s2⟩, hf⟩ := fc_us (show ¬ (101 : Nat) < 100 from by decide) hf
  have s2 : (∀ b j, w_el w1 b j = w_el w2 b j) ∧ ∀ b j, w_fd w1 b j = if b = v_ad (n_v vs 2) ∧ j = 12 then n_v vs 5 else w_fd w2 b j := s2
  obtain ⟨f10, hf⟩ := fc_un (show (20 : Nat) < 100 from by decide) hf
  have f10 : ((v_iv (n_v vs 3) + 1) ≤ w_fi w2 (n_v vs 2) 10) → (v_iv (n_v vs 4) = (w_ei w2 (w_ar w2 (n_v vs 2) 1) (v_iv (n_v vs 3)) % 256)) := f10
  obtain ⟨f11, hf⟩ := fc_un (show (20 : Nat) < 100 from by decide) hf
  have f11 : (w_fi w2 (n_v vs 2) 10 ≤ v_iv (n_v vs 3)) → (v_iv (n_v vs 4) = (-1)) := f11
  obtain ⟨f12, hf⟩ := fc_un (show (9 : Nat) < 100 from by decide) hf
  have f12 : n_v vs 3 = w_fd w2 (v_ad (n_v vs 2)) 11 := f12
  obtain ⟨f13, hf⟩ := fc_un (show (20 : Nat) < 100 from by decide) hf
  have f13 : 1 * v_iv (n_v vs 1) + ((-1) * w_fi w2 (n_v vs 2) 11 + 0) ≤ 0 := f13
  obtain ⟨ta3, w3, le3, ⟨_, s3⟩, hf⟩ := fc_us (show ¬ (101 : Nat) < 100 from by decide) hf
  have s3 : (∀ b j, w_el w2 b j = w_el w3 b j) ∧ ∀ b j, w_fd w2 b j = if b = v_ad (n_v vs 2) ∧ j = 15 then n_v vs 3 else w_fd w3 b j := s3
  obtain ⟨f15, hf⟩ := fc_un (show (20 : Nat) < 100 from by decide) hf
  have f15 : 1 * v_iv (n_v vs 1) + ((-1) * w_fi w3 (n_v vs 2) 11 + 0) ≤ 0 := f15
  obtain ⟨ta4, w4, le4, ⟨_, s4⟩, hf⟩ := fc_us (show ¬ (101 : Nat) < 100 from by decide) hf
  have s4 : (∀ b j, w_el w3 b j = w_el w4 b j) ∧ ∀ b j, w_fd w3 b j = if b = v_ad (n_v vs 2) ∧ j = 13 then n_v vs 3 else w_fd w4 b j := s4
  obtain ⟨f17, hf⟩ := fc_un (show (20 : Nat) < 100 from by decide) hf
  have f17 : 1 * v_iv (n_v vs 1) + ((-1) * w_fi w4 (n_v vs 2) 11 + 0) ≤ 0 := f17
  have q2 : n_v vs 2 = n_v vs 0 := f4.symm
  rw [q2] at f1
  rw [q2] at f2
  rw [q2] at f3
  rw [q2] at s1
  rw [q2] at f6
  rw [q2] at f7
  rw [q2] at f8
  rw [q2] at s2
  rw [q2] at f10
  rw [q2] at f11
  rw [q2] at f12
  rw [q2] at f13
  rw [q2] at s3
  rw [q2] at f15
  rw [q2] at s4
  rw [q2] at f17
  have ar_0_1_1 : w_ar w1 (n_v vs 0) 1 = w_ar ws (n_v vs 0) 1 := by show v_ad (w_fd w1 _ _) = v_ad (w_fd ws _ _); rw [s1.2, if_neg (fun e => absurd e.2 (by decide))]
  have ar_0_1_2 : w_ar w2 (n_v vs 0) 1 = w_ar ws (n_v vs 0) 1 := by rw [← ar_0_1_1]; show v_ad (w_fd w2 _ _) = v_ad (w_fd w1 _ _); rw [s2.2, if_neg (fun e => absurd e.2 (by decide))]
  have ar_0_1_3 : w_ar w3 (n_v vs 0) 1 = w_ar ws (n_v vs 0) 1 := by rw [← ar_0_1_2]; show v_ad (w_fd w3 _ _) = v_ad (w_fd w2 _ _); rw [s3.2, if_neg (fun e => absurd e.2 (by decide))]
  have ar_0_1_4 : w_ar w4 (n_v vs 0) 1 = w_ar ws (n_v vs 0) 1 := by rw [← ar_0_1_3]; show v_ad (w_fd w4 _ _) = v_ad (w_fd w3 _ _); rw [s4.2, if_neg (fun e => absurd e.2 (by decide))]
  have cr_0_1 : ta (w_ar ws (n_v vs 0) 1) = some 151 := tv_rg (th_fd hD hth r0 (g := GG_150) rfl (k := 1) (t := (2, 0, 0, [151])) rfl rfl)
  rw [ar_0_1_1] at f6
  rw [ar_0_1_2] at f10
  have g12 : v_iv (n_v vs 3) = w_fi w2 (n_v vs 0) 11 := congrArg v_iv f12
  have fe_0_10_1 : w_fi ws (n_v vs 0) 10 = w_fi w1 (n_v vs 0) 10 := by show v_iv (w_fd _ _ _) = v_iv (w_fd _ _ _); rw [s1.2, if_neg (fun e => absurd e.2 (by decide))]
  have fe_0_11_1 : w_fi ws (n_v vs 0) 11 = w_fi w1 (n_v vs 0) 11 := by show v_iv (w_fd _ _ _) = v_iv (w_fd _ _ _); rw [s1.2, if_neg (fun e => absurd e.2 (by decide))]
  have fe_0_15_1 : w_fi ws (n_v vs 0) 15 = w_fi w1 (n_v vs 0) 15 := by show v_iv (w_fd _ _ _) = v_iv (w_fd _ _ _); rw [s1.2, if_neg (fun e => absurd e.2 (by decide))]
  have fe_0_10_2 : w_fi w1 (n_v vs 0) 10 = w_fi w2 (n_v vs 0) 10 := by show v_iv (w_fd _ _ _) = v_iv (w_fd _ _ _); rw [s2.2, if_neg (fun e => absurd e.2 (by decide))]
  have fe_0_11_2 : w_fi w1 (n_v vs 0) 11 = w_fi w2 (n_v vs 0) 11 := by show v_iv (w_fd _ _ _) = v_iv (w_fd _ _ _); rw [s2.2, if_neg (fun e => absurd e.2 (by decide))]
  have fe_0_15_2 : w_fi w1 (n_v vs 0) 15 = w_fi w2 (n_v vs 0) 15 := by show v_iv (w_fd _ _ _) = v_iv (w_fd _ _ _); rw [s2.2, if_neg (fun e => absurd e.2 (by decide))]
  have fe_0_10_3 : w_fi w2 (n_v vs 0) 10 = w_fi w3 (n_v vs 0) 10 := by show v_iv (w_fd _ _ _) = v_iv (w_fd _ _ _); rw [s3.2, if_neg (fun e => absurd e.2 (by decide))]
  have fe_0_11_3 : w_fi w2 (n_v vs 0) 11 = w_fi w3 (n_v vs 0) 11 := by show v_iv (w_fd _ _ _) = v_iv (w_fd _ _ _); rw [s3.2, if_neg (fun e => absurd e.2 (by decide))]
  have fe_0_15_3 : w_fi w2 (n_v vs 0) 15 = v_iv (n_v vs 3) := by show v_iv (w_fd _ _ _) = _; rw [s3.2, if_pos ⟨rfl, rfl⟩]
  have fe_0_10_4 : w_fi w3 (n_v vs 0) 10 = w_fi w4 (n_v vs 0) 10 := by show v_iv (w_fd _ _ _) = v_iv (w_fd _ _ _); rw [s4.2, if_neg (fun e => absurd e.2 (by decide))]
  have fe_0_11_4 : w_fi w3 (n_v vs 0) 11 = w_fi w4 (n_v vs 0) 11 := by show v_iv (w_fd _ _ _) = v_iv (w_fd _ _ _); rw [s4.2, if_neg (fun e => absurd e.2 (by decide))]
  have fe_0_15_4 : w_fi w3 (n_v vs 0) 15 = w_fi w4 (n_v vs 0) 15 := by show v_iv (w_fd _ _ _) = v_iv (w_fd _ _ _); rw [s4.2, if_neg (fun e => absurd e.2 (by decide))]
  have hE_0_1_1 : ∀ j : Int, w_ei ws (w_ar ws (n_v vs 0) 1) j = w_ei w1 (w_ar ws (n_v vs 0) 1) j := fun j => s1.1 _ _
  have hE_0_1_2 : ∀ j : Int, w_ei w1 (w_ar ws (n_v vs 0) 1) j = w_ei w2 (w_ar ws (n_v vs 0) 1) j := fun j => s2.1 _ _
  have hE_0_1_3 : ∀ j : Int, w_ei w2 (w_ar ws (n_v vs 0) 1) j = w_ei w3 (w_ar ws (n_v vs 0) 1) j := fun j => s3.1 _ _
  have hE_0_1_4 : ∀ j : Int, w_ei w3 (w_ar ws (n_v vs 0) 1) j = w_ei w4 (w_ar ws (n_v vs 0) 1) j := fun j => s4.1 _ _
  have hK_0_1 : ∀ j : Int, 0 ≤ j → j < 2000 → (-128) ≤ w_ei ws (w_ar ws (n_v vs 0) 1) j ∧ w_ei ws (w_ar ws (n_v vs 0) 1) j ≤ 127 := fun j h0 h1 => th_el hD hth cr_0_1 (kd := 1) (n := 2000) (m := 2000) (lo := (-128)) (hi := 127) (rs := []) (L := []) rfl (by decide) (j := j.toNat) (by omega)
  have kz_0_10 : 0 ≤ w_fi ws (n_v vs 0) 10 ∧ w_fi ws (n_v vs 0) 10 ≤ 2000 := tv_rng (th_fd hD hth r0 (g := GG_150) rfl (k := 10) (t := (0, 0, 2000, [])) rfl rfl)
  have kz_0_11 : 0 ≤ w_fi ws (n_v vs 0) 11 ∧ w_fi ws (n_v vs 0) 11 ≤ 2000 := tv_rng (th_fd hD hth r0 (g := GG_150) rfl (k := 11) (t := (0, 0, 2000, [])) rfl rfl)
  have kz_0_15 : 0 ≤ w_fi ws (n_v vs 0) 15 ∧ w_fi ws (n_v vs 0) 15 ≤ 2000 := tv_rng (th_fd hD hth r0 (g := GG_150) rfl (k := 15) (t := (0, 0, 2000, [])) rfl rfl)
  have nf0 : fc_1 (20, [1, 2], [30, 0, 1, 0, 0, -1, 1, 15]) ws (vs) := by
    refine ⟨fun n hn => ?_, ?_⟩
    · have hn : n ∈ [1, 2] := hn
      rw [hl]
      simp only [List.mem_cons, List.not_mem_nil, or_false] at hn
      show n < 8; omega
    · show 1 * v_iv (n_v vs 1) + ((-1) * w_fi ws (n_v vs 2) 15 + 0) ≤ 0
      rw [q2]
      omega
  have nf1 : fc_1 (20, [2], [50, 2, 0, 11, 15, 1, 3, 2, 0, 11, 2, 0, 15]) ws (vs) := by
    refine ⟨fun n hn => ?_, ?_⟩
    · have hn : n ∈ [2] := hn
      rw [hl]
      simp only [List.mem_cons, List.not_mem_nil, or_false] at hn
      show n < 8; omega
    · show w_fi ws (n_v vs 2) 11 = w_fi ws (n_v vs 2) 15
      rw [q2]
      first | omega | grind
  refine ⟨(fun _ h => (by cases h)), [], trivial, ?_, (fun _ h => (by cases h))⟩
  rw [List.append_nil]
  exact List.forall_mem_cons.mpr ⟨⟨show (20 : Nat) < 100 from by decide, nf0⟩, List.forall_mem_cons.mpr ⟨⟨show (20 : Nat) < 100 from by decide, nf1⟩, (fun _ h => (by cases h))⟩⟩
def o_Mo_next_7 : or_T := (185, 9, [(0, (2, 0, 0, [150])), (1, (0, 0, 2000, [])), (2, (2, 0, 0, [150])), (3, (0, 0, 1999, [])), (4, (0, 48, 57, []))], [(20, [3, 2, 4], [50, 1, 1, 1010, 1001, 4, 11, 0, 6, 4, 2, 1, 0, 0, 1, 2, 1, 10, 1, 2, 1, 2, 9, 5, 3, 1, 1, 1, 0, 0, 256]), (20, [2, 3, 4], [50, 1, 0, 10, 4, 7, 0, 3, 2, 0, 10, 1, 1, 1, 2, 1, 2, 0, -1]), (20, [1, 2], [30, 0, 1, 0, 0, -1, 1, 11]), (24, [0, 2], []), (101, [2, 8], [14]), (8, [4], [3]), (20, [3, 2, 4], [50, 1, 1, 1010, 1001, 4, 11, 0, 6, 4, 2, 1, 0, 0, 1, 2, 1, 10, 1, 2, 1, 2, 9, 5, 3, 1, 1, 1, 0, 0, 256]), (20, [2, 3, 4], [50, 1, 0, 10, 4, 7, 0, 3, 2, 0, 10, 1, 1, 1, 2, 1, 2, 0, -1]), (20, [1, 2], [30, 0, 1, 0, 0, -1, 1, 11]), (101, [2, 4], [14]), (20, [3, 2, 4], [50, 1, 1, 1010, 1001, 4, 11, 0, 6, 4, 2, 1, 0, 0, 1, 2, 1, 10, 1, 2, 1, 2, 9, 5, 3, 1, 1, 1, 0, 0, 256]), (20, [2, 3, 4], [50, 1, 0, 10, 4, 7, 0, 3, 2, 0, 10, 1, 1, 1, 2, 1, 2, 0, -1]), (20, [1, 2], [30, 0, 1, 0, 0, -1, 1, 11]), (101, [2, 5], [12]), (20, [3, 2, 4], [50, 1, 1, 1010, 1001, 4, 11, 0, 6, 4, 2, 1, 0, 0, 1, 2, 1, 10, 1, 2, 1, 2, 9, 5, 3, 1, 1, 1, 0, 0, 256]), (20, [2, 3, 4], [50, 1, 0, 10, 4, 7, 0, 3, 2, 0, 10, 1, 1, 1, 2, 1, 2, 0, -1]), (9, [3, 2], [11]), (20, [1, 2], [30, 0, 1, 0, 0, -1, 1, 11]), (101, [2, 3], [15]), (20, [1, 2], [30, 0, 1, 0, 0, -1, 1, 11]), (101, [2, 3], [13]), (20, [1, 2], [30, 0, 1, 0, 0, -1, 1, 11])], [], [], [(20, [1, 2], [30, 0, 1, 0, 0, -1, 1, 15]), (20, [2], [50, 3, 1, 15, 11, 10, 1, 2, 8, 0, 3, 2, 0, 15, 2, 0, 11, 3, 12, 0, 7, 4, 3, 2, 0, 15, 0, 1, 2, 0, 11, 2, 8, 1, 3, 2, 0, 11, 2, 0, 15, 2, 12, 0, 7, 4, 3, 2, 0, 15, 0, 1, 2, 0, 10, 2, 14, 0, 2, 0, 48, 9, 6, 3, 0, 1, 2, 0, 15, 0, 256, 0, 10, 9, 6, 3, 0, 1, 2, 0, 15, 0, 256, 0, 57])], [], [(1, 3, -4294967296, 2000), (3, 1, -4294967296, 2000)])
theorem oo_Mo_next_7 {kA : Nat → ClassId} : or_ok kA GG o_Mo_next_7 := by
  intro A ta ws vs hD hth hl hk hds hf
  have hl : vs.length = 9 := hl
  have hk : ∀ q ∈ ([(0, (2, 0, 0, [150])), (1, (0, 0, 2000, [])), (2, (2, 0, 0, [150])), (3, (0, 0, 1999, [])), (4, (0, 48, 57, []))] : List (Nat × tv_T)), tv_ok ta q.2 (n_v vs q.1) := hk
  obtain ⟨t0, hk⟩ := List.forall_mem_cons.mp hk
  have t0 : tv_ok ta (2, 0, 0, [150]) (n_v vs 0) := t0
  have r0 : ta (v_ad (n_v vs 0)) = some 150 := tv_rg t0
  obtain ⟨t1, hk⟩ := List.forall_mem_cons.mp hk
  have t1 : tv_ok ta (0, 0, 2000, []) (n_v vs 1) := t1
  have k1 : 0 ≤ v_iv (n_v vs 1) ∧ v_iv (n_v vs 1) ≤ 2000 := tv_rng t1
  obtain ⟨t2, hk⟩ := List.forall_mem_cons.mp hk
  have t2 : tv_ok ta (2, 0, 0, [150]) (n_v vs 2) := t2
  have r2 : ta (v_ad (n_v vs 2)) = some 150 := tv_rg t2
  obtain ⟨t3, hk⟩ := List.forall_mem_cons.mp hk
  have t3 : tv_ok ta (0, 0, 1999, []) (n_v vs 3) := t3
  have k3 : 0 ≤ v_iv (n_v vs 3) ∧ v_iv (n_v vs 3) ≤ 1999 := tv_rng t3
  obtain ⟨t4, hk⟩ := List.forall_mem_cons.mp hk
  have t4 : tv_ok ta (0, 48, 57, []) (n_v vs 4) := t4
  have k4 : 48 ≤ v_iv (n_v vs 4) ∧ v_iv (n_v vs 4) ≤ 57 := tv_rng t4
  have hds : ∀ q ∈ ([(1, 3, -4294967296, 2000), (3, 1, -4294967296, 2000)] : List of_T), n_iv vs q.2.1 + q.2.2.1 ≤ n_iv vs q.1 ∧ n_iv vs q.1 ≤ n_iv vs q.2.1 + q.2.2.2 := hds
  obtain ⟨d0, hds⟩ := List.forall_mem_cons.mp hds
  have d0 : v_iv (n_v vs 3) + (-4294967296) ≤ v_iv (n_v vs 1) ∧ v_iv (n_v vs 1) ≤ v_iv (n_v vs 3) + 2000 := d0
  obtain ⟨d1, hds⟩ := List.forall_mem_cons.mp hds
  have d1 : v_iv (n_v vs 1) + (-4294967296) ≤ v_iv (n_v vs 3) ∧ v_iv (n_v vs 3) ≤ v_iv (n_v vs 1) + 2000 := d1
  have hf : fc_ok [(20, [3, 2, 4], [50, 1, 1, 1010, 1001, 4, 11, 0, 6, 4, 2, 1, 0, 0, 1, 2, 1, 10, 1, 2, 1, 2, 9, 5, 3, 1, 1, 1, 0, 0, 256]), (20, [2, 3, 4], [50, 1, 0, 10, 4, 7, 0, 3, 2, 0, 10, 1, 1, 1, 2, 1, 2, 0, -1]), (20, [1, 2], [30, 0, 1, 0, 0, -1, 1, 11]), (24, [0, 2], []), (101, [2, 8], [14]), (8, [4], [3]), (20, [3, 2, 4], [50, 1, 1, 1010, 1001, 4, 11, 0, 6, 4, 2, 1, 0, 0, 1, 2, 1, 10, 1, 2, 1, 2, 9, 5, 3, 1, 1, 1, 0, 0, 256]), (20, [2, 3, 4], [50, 1, 0, 10, 4, 7, 0, 3, 2, 0, 10, 1, 1, 1, 2, 1, 2, 0, -1]), (20, [1, 2], [30, 0, 1, 0, 0, -1, 1, 11]), (101, [2, 4], [14]), (20, [3, 2, 4], [50, 1, 1, 1010, 1001, 4, 11, 0, 6, 4, 2, 1, 0, 0, 1, 2, 1, 10, 1, 2, 1, 2, 9, 5, 3, 1, 1, 1, 0, 0, 256]), (20, [2, 3, 4], [50, 1, 0, 10, 4, 7, 0, 3, 2, 0, 10, 1, 1, 1, 2, 1, 2, 0, -1]), (20, [1, 2], [30, 0, 1, 0, 0, -1, 1, 11]), (101, [2, 5], [12]), (20, [3, 2, 4], [50, 1, 1, 1010, 1001, 4, 11, 0, 6, 4, 2, 1, 0, 0, 1, 2, 1, 10, 1, 2, 1, 2, 9, 5, 3, 1, 1, 1, 0, 0, 256]), (20, [2, 3, 4], [50, 1, 0, 10, 4, 7, 0, 3, 2, 0, 10, 1, 1, 1, 2, 1, 2, 0, -1]), (9, [3, 2], [11]), (20, [1, 2], [30, 0, 1, 0, 0, -1, 1, 11]), (101, [2, 3], [15]), (20, [1, 2], [30, 0, 1, 0, 0, -1, 1, 11]), (101, [2, 3], [13]), (20, [1, 2], [30, 0, 1, 0, 0, -1, 1, 11])] ta ws vs := hf
  obtain ⟨f0, hf⟩ := fc_un (show (20 : Nat) < 100 from by decide) hf
  have f0 : ((v_iv (n_v vs 3) + 1) ≤ w_fi ws (n_v vs 2) 10) → (v_iv (n_v vs 4) = (w_ei ws (w_ar ws (n_v vs 2) 1) (v_iv (n_v vs 3)) % 256)) := f0
  obtain ⟨f1, hf⟩ := fc_un (show (20 : Nat) < 100 from by decide) hf
  have f1 : (w_fi ws (n_v vs 2) 10 ≤ v_iv (n_v vs 3)) → (v_iv (n_v vs 4) = (-1)) := f1
  obtain ⟨f2, hf⟩ := fc_un (show (20 : Nat) < 100 from by decide) hf
  have f2 : 1 * v_iv (n_v vs 1) + ((-1) * w_fi ws (n_v vs 2) 11 + 0) ≤ 0 := f2
  obtain ⟨f3, hf⟩ := fc_un (show (24 : Nat) < 100 from by decide) hf
  have f3 : n_v vs 0 = n_v vs 2 := f3
  obtain ⟨ta1, w1, le1, ⟨_, s1⟩, hf⟩ := fc_us (show ¬ (101 : Nat) < 100 from by decide) hf
  have s1 : (∀ b j, w_el ws b j = w_el w1 b j) ∧ ∀ b j, w_fd ws b j = if b = v_ad (n_v vs 2) ∧ j = 14 then n_v vs 8 else w_fd w1 b j := s1
  obtain ⟨f5, hf⟩ := fc_un (show (8 : Nat) < 100 from by decide) hf
  have f5 : 0 ≤ v_iv (n_v vs 4) := f5
  obtain ⟨f6, hf⟩ := fc_un (show (20 : Nat) < 100 from by decide) hf
  have f6 : ((v_iv (n_v vs 3) + 1) ≤ w_fi w1 (n_v vs 2) 10) → (v_iv (n_v vs 4) = (w_ei w1 (w_ar w1 (n_v vs 2) 1) (v_iv (n_v vs 3)) % 256)) := f6
  obtain ⟨f7, hf⟩ := fc_un (show (20 : Nat) < 100 from by decide) hf
  have f7 : (w_fi w1 (n_v vs 2) 10 ≤ v_iv (n_v vs 3)) → (v_iv (n_v vs 4) = (-1)) := f7
  obtain ⟨f8, hf⟩ := fc_un (show (20 : Nat) < 100 from by decide) hf
  have f8 : 1 * v_iv (n_v vs 1) + ((-1) * w_fi w1 (n_v vs 2) 11 + 0) ≤ 0 := f8
  obtain ⟨ta2, w2, le2, ⟨_, s2⟩, hf⟩ := fc_us (show ¬ (101 : Nat) < 100 from by decide) hf
  have s2 : (∀ b j, w_el w1 b j = w_el w2 b j) ∧ ∀ b j, w_fd w1 b j = if b = v_ad (n_v vs 2) ∧ j = 14 then n_v vs 4 else w_fd w2 b j := s2
  obtain ⟨f10, hf⟩ := fc_un (show (20 : Nat) < 100 from by decide) hf
  have f10 : ((v_iv (n_v vs 3) + 1) ≤ w_fi w2 (n_v vs 2) 10) → (v_iv (n_v vs 4) = (w_ei w2 (w_ar w2 (n_v vs 2) 1) (v_iv (n_v vs 3)) % 256)) := f10
  obtain ⟨f11, hf⟩ := fc_un (show (20 : Nat) < 100 from by decide) hf
  have f11 : (w_fi w2 (n_v vs 2) 10 ≤ v_iv (n_v vs 3)) → (v_iv (n_v vs 4) = (-1)) := f11
  obtain ⟨f12, hf⟩ := fc_un (show (20 : Nat) < 100 from by decide) hf
  have f12 : 1 * v_iv (n_v vs 1) + ((-1) * w_fi w2 (n_v vs 2) 11 + 0) ≤ 0 := f12
  obtain ⟨ta3, w3, le3, ⟨_, s3⟩, hf⟩ := fc_us (show ¬ (101 : Nat) < 100 from by decide) hf
  have s3 : (∀ b j, w_el w2 b j = w_el w3 b j) ∧ ∀ b j, w_fd w2 b j = if b = v_ad (n_v vs 2) ∧ j = 12 then n_v vs 5 else w_fd w3 b j := s3
  obtain ⟨f14, hf⟩ := fc_un (show (20 : Nat) < 100 from by decide) hf
  have f14 : ((v_iv (n_v vs 3) + 1) ≤ w_fi w3 (n_v vs 2) 10) → (v_iv (n_v vs 4) = (w_ei w3 (w_ar w3 (n_v vs 2) 1) (v_iv (n_v vs 3)) % 256)) := f14
  obtain ⟨f15, hf⟩ := fc_un (show (20 : Nat) < 100 from by decide) hf
  have f15 : (w_fi w3 (n_v vs 2) 10 ≤ v_iv (n_v vs 3)) → (v_iv (n_v vs 4) = (-1)) := f15
  obtain ⟨f16, hf⟩ := fc_un (show (9 : Nat) < 100 from by decide) hf
  have f16 : n_v vs 3 = w_fd w3 (v_ad (n_v vs 2)) 11 := f16
  obtain ⟨f17, hf⟩ := fc_un (show (20 : Nat) < 100 from by decide) hf
  have f17 : 1 * v_iv (n_v vs 1) + ((-1) * w_fi w3 (n_v vs 2) 11 + 0) ≤ 0 := f17
  obtain ⟨ta4, w4, le4, ⟨_, s4⟩, hf⟩ := fc_us (show ¬ (101 : Nat) < 100 from by decide) hf
  have s4 : (∀ b j, w_el w3 b j = w_el w4 b j) ∧ ∀ b j, w_fd w3 b j = if b = v_ad (n_v vs 2) ∧ j = 15 then n_v vs 3 else w_fd w4 b j := s4
  obtain ⟨f19, hf⟩ := fc_un (show (20 : Nat) < 100 from by decide) hf
  have f19 : 1 * v_iv (n_v vs 1) + ((-1) * w_fi w4 (n_v vs 2) 11 + 0) ≤ 0 := f19
  obtain ⟨ta5, w5, le5, ⟨_, s5⟩, hf⟩ := fc_us (show ¬ (101 : Nat) < 100 from by decide) hf
  have s5 : (∀ b j, w_el w4 b j = w_el w5 b j) ∧ ∀ b j, w_fd w4 b j = if b = v_ad (n_v vs 2) ∧ j = 13 then n_v vs 3 else w_fd w5 b j := s5
  obtain ⟨f21, hf⟩ := fc_un (show (20 : Nat) < 100 from by decide) hf
  have f21 : 1 * v_iv (n_v vs 1) + ((-1) * w_fi w5 (n_v vs 2) 11 + 0) ≤ 0 := f21
  have q2 : n_v vs 2 = n_v vs 0 := f3.symm
  rw [q2] at f0
  rw [q2] at f1
  rw [q2] at f2
  rw [q2] at s1
  rw [q2] at f6
  rw [q2] at f7
  rw [q2] at f8
  rw [q2] at s2
  rw [q2] at f10
  rw [q2] at f11
  rw [q2] at f12
  rw [q2] at s3
  rw [q2] at f14
  rw [q2] at f15
  rw [q2] at f16
  rw [q2] at f17
  rw [q2] at s4
  rw [q2] at f19
  rw [q2] at s5
  rw [q2] at f21
  have ar_0_1_1 : w_ar w1 (n_v vs 0) 1 = w_ar ws (n_v vs 0) 1 := by show v_ad (w_fd w1 _ _) = v_ad (w_fd ws _ _); rw [s1.2, if_neg (fun e => absurd e.2 (by decide))]
  have ar_0_1_2 : w_ar w2 (n_v vs 0) 1 = w_ar ws (n_v vs 0) 1 := by rw [← ar_0_1_1]; show v_ad (w_fd w2 _ _) = v_ad (w_fd w1 _ _); rw [s2.2, if_neg (fun e => absurd e.2 (by decide))]
  have ar_0_1_3 : w_ar w3 (n_v vs 0) 1 = w_ar ws (n_v vs 0) 1 := by rw [← ar_0_1_2]; show v_ad (w_fd w3 _ _) = v_ad (w_fd w2 _ _); rw [s3.2, if_neg (fun e => absurd e.2 (by decide))]
  have ar_0_1_4 : w_ar w4 (n_v vs 0) 1 = w_ar ws (n_v vs 0) 1 := by rw [← ar_0_1_3]; show v_ad (w_fd w4 _ _) = v_ad (w_fd w3 _ _); rw [s4.2, if_neg (fun e => absurd e.2 (by decide))]
  have ar_0_1_5 : w_ar w5 (n_v vs 0) 1 = w_ar ws (n_v vs 0) 1 := by rw [← ar_0_1_4]; show v_ad (w_fd w5 _ _) = v_ad (w_fd w4 _ _); rw [s5.2, if_neg (fun e => absurd e.2 (by decide))]
  have cr_0_1 : ta (w_ar ws (n_v vs 0) 1) = some 151 := tv_rg (th_fd hD hth r0 (g := GG_150) rfl (k := 1) (t := (2, 0, 0, [151])) rfl rfl)
  rw [ar_0_1_1] at f6
  rw [ar_0_1_2] at f10
  rw [ar_0_1_3] at f14
  have g16 : v_iv (n_v vs 3) = w_fi w3 (n_v vs 0) 11 := congrArg v_iv f16
  have fe_0_10_1 : w_fi ws (n_v vs 0) 10 = w_fi w1 (n_v vs 0) 10 := by show v_iv (w_fd _ _ _) = v_iv (w_fd _ _ _); rw [s1.2, if_neg (fun e => absurd e.2 (by decide))]
  have fe_0_11_1 : w_fi ws (n_v vs 0) 11 = w_fi w1 (n_v vs 0) 11 := by show v_iv (w_fd _ _ _) = v_iv (w_fd _ _ _); rw [s1.2, if_neg (fun e => absurd e.2 (by decide))]
  have fe_0_15_1 : w_fi ws (n_v vs 0) 15 = w_fi w1 (n_v vs 0) 15 := by show v_iv (w_fd _ _ _) = v_iv (w_fd _ _ _); rw [s1.2, if_neg (fun e => absurd e.2 (by decide))]
  have fe_0_10_2 : w_fi w1 (n_v vs 0) 10 = w_fi w2 (n_v vs 0) 10 := by show v_iv (w_fd _ _ _) = v_iv (w_fd _ _ _); rw [s2.2, if_neg (fun e => absurd e.2 (by decide))]
  have fe_0_11_2 : w_fi w1 (n_v vs 0) 11 = w_fi w2 (n_v vs 0) 11 := by show v_iv (w_fd _ _ _) = v_iv (w_fd _ _ _); rw [s2.2, if_neg (fun e => absurd e.2 (by decide))]
  have fe_0_15_2 : w_fi w1 (n_v vs 0) 15 = w_fi w2 (n_v vs 0) 15 := by show v_iv (w_fd _ _ _) = v_iv (w_fd _ _ _); rw [s2.2, if_neg (fun e => absurd e.2 (by decide))]
  have fe_0_10_3 : w_fi w2 (n_v vs 0) 10 = w_fi w3 (n_v vs 0) 10 := by show v_iv (w_fd _ _ _) = v_iv (w_fd _ _ _); rw [s3.2, if_neg (fun e => absurd e.2 (by decide))]
  have fe_0_11_3 : w_fi w2 (n_v vs 0) 11 = w_fi w3 (n_v vs 0) 11 := by show v_iv (w_fd _ _ _) = v_iv (w_fd _ _ _); rw [s3.2, if_neg (fun e => absurd e.2 (by decide))]
  have fe_0_15_3 : w_fi w2 (n_v vs 0) 15 = w_fi w3 (n_v vs 0) 15 := by show v_iv (w_fd _ _ _) = v_iv (w_fd _ _ _); rw [s3.2, if_neg (fun e => absurd e.2 (by decide))]
  have fe_0_10_4 : w_fi w3 (n_v vs 0) 10 = w_fi w4 (n_v vs 0) 10 := by show v_iv (w_fd _ _ _) = v_iv (w_fd _ _ _); rw [s4.2, if_neg (fun e => absurd e.2 (by decide))]
  have fe_0_11_4 : w_fi w3 (n_v vs 0) 11 = w_fi w4 (n_v vs 0) 11 := by show v_iv (w_fd _ _ _) = v_iv (w_fd _ _ _); rw [s4.2, if_neg (fun e => absurd e.2 (by decide))]
  have fe_0_15_4 : w_fi w3 (n_v vs 0) 15 = v_iv (n_v vs 3) := by show v_iv (w_fd _ _ _) = _; rw [s4.2, if_pos ⟨rfl, rfl⟩]
  have fe_0_10_5 : w_fi w4 (n_v vs 0) 10 = w_fi w5 (n_v vs 0) 10 := by show v_iv (w_fd _ _ _) = v_iv (w_fd _ _ _); rw [s5.2, if_neg (fun e => absurd e.2 (by decide))]
  have fe_0_11_5 : w_fi w4 (n_v vs 0) 11 = w_fi w5 (n_v vs 0) 11 := by show v_iv (w_fd _ _ _) = v_iv (w_fd _ _ _); rw [s5.2, if_neg (fun e => absurd e.2 (by decide))]
  have fe_0_15_5 : w_fi w4 (n_v vs 0) 15 = w_fi w5 (n_v vs 0) 15 := by show v_iv (w_fd _ _ _) = v_iv (w_fd _ _ _); rw [s5.2, if_neg (fun e => absurd e.2 (by decide))]
  have hE_0_1_1 : ∀ j : Int, w_ei ws (w_ar ws (n_v vs 0) 1) j = w_ei w1 (w_ar ws (n_v vs 0) 1) j := fun j => s1.1 _ _
  have hE_0_1_2 : ∀ j : Int, w_ei w1 (w_ar ws (n_v vs 0) 1) j = w_ei w2 (w_ar ws (n_v vs 0) 1) j := fun j => s2.1 _ _
  have hE_0_1_3 : ∀ j : Int, w_ei w2 (w_ar ws (n_v vs 0) 1) j = w_ei w3 (w_ar ws (n_v vs 0) 1) j := fun j => s3.1 _ _
  have hE_0_1_4 : ∀ j : Int, w_ei w3 (w_ar ws (n_v vs 0) 1) j = w_ei w4 (w_ar ws (n_v vs 0) 1) j := fun j => s4.1 _ _
  have hE_0_1_5 : ∀ j : Int, w_ei w4 (w_ar ws (n_v vs 0) 1) j = w_ei w5 (w_ar ws (n_v vs 0) 1) j := fun j => s5.1 _ _
  have hK_0_1 : ∀ j : Int, 0 ≤ j → j < 2000 → (-128) ≤ w_ei ws (w_ar ws (n_v vs 0) 1) j ∧ w_ei ws (w_ar ws (n_v vs 0) 1) j ≤ 127 := fun j h0 h1 => th_el hD hth cr_0_1 (kd := 1) (n := 2000) (m := 2000) (lo := (-128)) (hi := 127) (rs := []) (L := []) rfl (by decide) (j := j.toNat) (by omega)
  have kz_0_10 : 0 ≤ w_fi ws (n_v vs 0) 10 ∧ w_fi ws (n_v vs 0) 10 ≤ 2000 := tv_rng (th_fd hD hth r0 (g := GG_150) rfl (k := 10) (t := (0, 0, 2000, [])) rfl rfl)
  have kz_0_11 : 0 ≤ w_fi ws (n_v vs 0) 11 ∧ w_fi ws (n_v vs 0) 11 ≤ 2000 := tv_rng (th_fd hD hth r0 (g := GG_150) rfl (k := 11) (t := (0, 0, 2000, [])) rfl rfl)
  have kz_0_15 : 0 ≤ w_fi ws (n_v vs 0) 15 ∧ w_fi ws (n_v vs 0) 15 ≤ 2000 := tv_rng (th_fd hD hth r0 (g := GG_150) rfl (k := 15) (t := (0, 0, 2000, [])) rfl rfl)
  have nf0 : fc_1 (20, [1, 2], [30, 0, 1, 0, 0, -1, 1, 15]) ws (vs) := by
    refine ⟨fun n hn => ?_, ?_⟩
    · have hn : n ∈ [1, 2] := hn
      rw [hl]
      simp only [List.mem_cons, List.not_mem_nil, or_false] at hn
      show n < 9; omega
    · show 1 * v_iv (n_v vs 1) + ((-1) * w_fi ws (n_v vs 2) 15 + 0) ≤ 0
      rw [q2]
      omega
  have nf1 : fc_1 (20, [2], [50, 3, 1, 15, 11, 10, 1, 2, 8, 0, 3, 2, 0, 15, 2, 0, 11, 3, 12, 0, 7, 4, 3, 2, 0, 15, 0, 1, 2, 0, 11, 2, 8, 1, 3, 2, 0, 11, 2, 0, 15, 2, 12, 0, 7, 4, 3, 2, 0, 15, 0, 1, 2, 0, 10, 2, 14, 0, 2, 0, 48, 9, 6, 3, 0, 1, 2, 0, 15, 0, 256, 0, 10, 9, 6, 3, 0, 1, 2, 0, 15, 0, 256, 0, 57]) ws (vs) := by
    refine ⟨fun n hn => ?_, ?_⟩
    · have hn : n ∈ [2] := hn
      rw [hl]
      simp only [List.mem_cons, List.not_mem_nil, or_false] at hn
      show n < 9; omega
    · show (w_fi ws (n_v vs 2) 15 ≤ w_fi ws (n_v vs 2) 11) ∧ (((w_fi ws (n_v vs 2) 15 + 1) ≤ w_fi ws (n_v vs 2) 11) ∨ ((w_fi ws (n_v vs 2) 11 = w_fi ws (n_v vs 2) 15) ∧ (((w_fi ws (n_v vs 2) 15 + 1) ≤ w_fi ws (n_v vs 2) 10) ∧ ((48 ≤ (w_ei ws (w_ar ws (n_v vs 2) 1) (w_fi ws (n_v vs 2) 15) % 256)) ∧ ((w_ei ws (w_ar ws (n_v vs 2) 1) (w_fi ws (n_v vs 2) 15) % 256) ≤ 57)))))
      rw [q2]
      first | omega | grind
  refine ⟨(fun _ h => (by cases h)), [], trivial, ?_, (fun _ h => (by cases h))⟩
  rw [List.append_nil]
  exact List.forall_mem_cons.mpr ⟨⟨show (20 : Nat) < 100 from by decide, nf0⟩, List.forall_mem_cons.mpr ⟨⟨show (20 : Nat) < 100 from by decide, nf1⟩, (fun _ h => (by cases h))⟩⟩
def o_Mo_next_8 : or_T := (277, 8, [(0, (2, 0, 0, [150])), (1, (0, 0, 2000, [])), (2, (2, 0, 0, [150])), (3, (0, 0, 1999, [])), (4, (0, 91, 96, []))], [(8, [4], [3]), (20, [3, 2, 4], [50, 1, 1, 1010, 1001, 4, 11, 0, 6, 4, 2, 1, 0, 0, 1, 2, 1, 10, 1, 2, 1, 2, 9, 5, 3, 1, 1, 1, 0, 0, 256]), (20, [2, 3, 4], [50, 1, 0, 10, 4, 7, 0, 3, 2, 0, 10, 1, 1, 1, 2, 1, 2, 0, -1]), (20, [1, 2], [30, 0, 1, 0, 0, -1, 1, 11]), (24, [0, 2], []), (101, [2, 4], [14]), (20, [3, 2, 4], [50, 1, 1, 1010, 1001, 4, 11, 0, 6, 4, 2, 1, 0, 0, 1, 2, 1, 10, 1, 2, 1, 2, 9, 5, 3, 1, 1, 1, 0, 0, 256]), (20, [2, 3, 4], [50, 1, 0, 10, 4, 7, 0, 3, 2, 0, 10, 1, 1, 1, 2, 1, 2, 0, -1]), (20, [1, 2], [30, 0, 1, 0, 0, -1, 1, 11]), (101, [2, 5], [12]), (20, [3, 2, 4], [50, 1, 1, 1010, 1001, 4, 11, 0, 6, 4, 2, 1, 0, 0, 1, 2, 1, 10, 1, 2, 1, 2, 9, 5, 3, 1, 1, 1, 0, 0, 256]), (20, [2, 3, 4], [50, 1, 0, 10, 4, 7, 0, 3, 2, 0, 10, 1, 1, 1, 2, 1, 2, 0, -1]), (9, [3, 2], [11]), (20, [1, 2], [30, 0, 1, 0, 0, -1, 1, 11]), (101, [2, 3], [15]), (20, [1, 2], [30, 0, 1, 0, 0, -1, 1, 11]), (101, [2, 3], [13]), (20, [1, 2], [30, 0, 1, 0, 0, -1, 1, 11])], [], [], [(20, [1, 2], [30, 0, 1, 0, 0, -1, 1, 15]), (20, [2], [50, 2, 0, 11, 15, 1, 3, 2, 0, 11, 2, 0, 15])], [], [(1, 3, -4294967296, 2000), (3, 1, -4294967296, 2000)])
theorem oo_Mo_next_8 {kA : Nat → ClassId} : or_ok kA GG o_Mo_next_8 := by
  intro A ta ws vs hD hth hl hk hds hf
  have hl : vs.length = 8 := hl
  have hk : ∀ q ∈ ([(0, (2, 0, 0, [150])), (1, (0, 0, 2000, [])), (2, (2, 0, 0, [150])), (3, (0, 0, 1999, [])), (4, (0, 91, 96, []))] : List (Nat × tv_T)), tv_ok ta q.2 (n_v vs q.1) := hk
  obtain ⟨t0, hk⟩ := List.forall_mem_cons.mp hk
  have t0 : tv_ok ta (2, 0, 0, [150]) (n_v vs 0) := t0
  have r0 : ta (v_ad (n_v vs 0)) = some 150 := tv_rg t0
  obtain ⟨t1, hk⟩ := List.forall_mem_cons.mp hk
  have t1 : tv_ok ta (0, 0, 2000, []) (n_v vs 1) := t1
  have k1 : 0 ≤ v_iv (n_v vs 1) ∧ v_iv (n_v vs 1) ≤ 2000 := tv_rng t1
  obtain ⟨t2, hk⟩ := List.forall_mem_cons.mp hk
  have t2 : tv_ok ta (2, 0, 0, [150]) (n_v vs 2) := t2
  have r2 : ta (v_ad (n_v vs 2)) = some 150 := tv_rg t2
  obtain ⟨t3, hk⟩ := List.forall_mem_cons.mp hk
  have t3 : tv_ok ta (0, 0, 1999, []) (n_v vs 3) := t3
  have k3 : 0 ≤ v_iv (n_v vs 3) ∧ v_iv (n_v vs 3) ≤ 1999 := tv_rng t3
  obtain ⟨t4, hk⟩ := List.forall_mem_cons.mp hk
  have t4 : tv_ok ta (0, 91, 96, []) (n_v vs 4) := t4
  have k4 : 91 ≤ v_iv (n_v vs 4) ∧ v_iv (n_v vs 4) ≤ 96 := tv_rng t4
  have hds : ∀ q ∈ ([(1, 3, -4294967296, 2000), (3, 1, -4294967296, 2000)] : List of_T), n_iv vs q.2.1 + q.2.2.1 ≤ n_iv vs q.1 ∧ n_iv vs q.1 ≤ n_iv vs q.2.1 + q.2.2.2 := hds
  obtain ⟨d0, hds⟩ := List.forall_mem_cons.mp hds
  have d0 : v_iv (n_v vs 3) + (-4294967296) ≤ v_iv (n_v vs 1) ∧ v_iv (n_v vs 1) ≤ v_iv (n_v vs 3) + 2000 := d0
  obtain ⟨d1, hds⟩ := List.forall_mem_cons.mp hds
  have d1 : v_iv (n_v vs 1) + (-4294967296) ≤ v_iv (n_v vs 3) ∧ v_iv (n_v vs 3) ≤ v_iv (n_v vs 1) + 2000 := d1
  have hf : fc_ok [(8, [4], [3]), (20, [3, 2, 4], [50, 1, 1, 1010, 1001, 4, 11, 0, 6, 4, 2, 1, 0, 0, 1, 2, 1, 10, 1, 2, 1, 2, 9, 5, 3, 1, 1, 1, 0, 0, 256]), (20, [2, 3, 4], [50, 1, 0, 10, 4, 7, 0, 3, 2, 0, 10, 1, 1, 1, 2, 1, 2, 0, -1]), (20, [1, 2], [30, 0, 1, 0, 0, -1, 1, 11]), (24, [0, 2], []), (101, [2, 4], [14]), (20, [3, 2, 4], [50, 1, 1, 1010, 1001, 4, 11, 0, 6, 4, 2, 1, 0, 0, 1, 2, 1, 10, 1, 2, 1, 2, 9, 5, 3, 1, 1, 1, 0, 0, 256]), (20, [2, 3, 4], [50, 1, 0, 10, 4, 7, 0, 3, 2, 0, 10, 1, 1, 1, 2, 1, 2, 0, -1]), (20, [1, 2], [30, 0, 1, 0, 0, -1, 1, 11]), (101, [2, 5], [12]), (20, [3, 2, 4], [50, 1, 1, 1010, 1001, 4, 11, 0, 6, 4, 2, 1, 0, 0, 1, 2, 1, 10, 1, 2, 1, 2, 9, 5, 3, 1, 1, 1, 0, 0, 256]), (20, [2, 3, 4], [50, 1, 0, 10, 4, 7, 0, 3, 2, 0, 10, 1, 1, 1, 2, 1, 2, 0, -1]), (9, [3, 2], [11]), (20, [1, 2], [30, 0, 1, 0, 0, -1, 1, 11]), (101, [2, 3], [15]), (20, [1, 2], [30, 0, 1, 0, 0, -1, 1, 11]), (101, [2, 3], [13]), (20, [1, 2], [30, 0, 1, 0, 0, -1, 1, 11])] ta ws vs := hf
  obtain ⟨f0, hf⟩ := fc_un (show (8 : Nat) < 100 from by decide) hf
  have f0 : 0 ≤ v_iv (n_v vs 4) := f0
  obtain ⟨f1, hf⟩ := fc_un (show (20 : Nat) < 100 from by decide) hf
  have f1 : ((v_iv (n_v vs 3) + 1) ≤ w_fi ws (n_v vs 2) 10) → (v_iv (n_v vs 4) = (w_ei ws (w_ar ws (n_v vs 2) 1) (v_iv (n_v vs 3)) % 256)) := f1
  obtain ⟨f2, hf⟩ := fc_un (show (20 : Nat) < 100 from by decide) hf
  have f2 : (w_fi ws (n_v vs 2) 10 ≤ v_iv (n_v vs 3)) → (v_iv (n_v vs 4) = (-1)) := f2
  obtain ⟨f3, hf⟩ := fc_un (show (20 : Nat) < 100 from by decide) hf
  have f3 : 1 * v_iv (n_v vs 1) + ((-1) * w_fi ws (n_v vs 2) 11 + 0) ≤ 0 := f3
  obtain ⟨f4, hf⟩ := fc_un (show (24 : Nat) < 100 from by decide) hf
  have f4 : n_v vs 0 = n_v vs 2 := f4
  obtain ⟨ta1, w1, le1, ⟨_, s1⟩, hf⟩ := fc_us (show ¬ (101 : Nat) < 100 from by decide) hf
  have s1 : (∀ b j, w_el ws b j = w_el w1 b j) ∧ ∀ b j, w_fd ws b j = if b = v_ad (n_v vs 2) ∧ j = 14 then n_v vs 4 else w_fd w1 b j := s1
  obtain ⟨f6, hf⟩ := fc_un (show (20 : Nat) < 100 from by decide) hf
  have f6 : ((v_iv (n_v vs 3) + 1) ≤ w_fi w1 (n_v vs 2) 10) → (v_iv (n_v vs 4) = (w_ei w1 (w_ar w1 (n_v vs 2) 1) (v_iv (n_v vs 3)) % 256)) := f6
  obtain ⟨f7, hf⟩ := fc_un (show (20 : Nat) < 100 from by decide) hf
  have f7 : (w_fi w1 (n_v vs 2) 10 ≤ v_iv (n_v vs 3)) → (v_iv (n_v vs 4) = (-1)) := f7
  obtain ⟨f8, hf⟩ := fc_un (show (20 : Nat) < 100 from by decide) hf
  have f8 : 1 * v_iv (n_v vs 1) + ((-1) * w_fi w1 (n_v vs 2) 11 + 0) ≤ 0 := f8
  obtain ⟨ta2, w2, le2, ⟨_, s2⟩, hf⟩ := fc_us (show ¬ (101 : Nat) < 100 from by decide) hf
  have s2 : (∀ b j, w_el w1 b j = w_el w2 b j) ∧ ∀ b j, w_fd w1 b j = if b = v_ad (n_v vs 2) ∧ j = 12 then n_v vs 5 else w_fd w2 b j := s2
  obtain ⟨f10, hf⟩ := fc_un (show (20 : Nat) < 100 from by decide) hf
  have f10 : ((v_iv (n_v vs 3) + 1) ≤ w_fi w2 (n_v vs 2) 10) → (v_iv (n_v vs 4) = (w_ei w2 (w_ar w2 (n_v vs 2) 1) (v_iv (n_v vs 3)) % 256)) := f10
  obtain ⟨f11, hf⟩ := fc_un (show (20 : Nat) < 100 from by decide) hf
  have f11 : (w_fi w2 (n_v vs 2) 10 ≤ v_iv (n_v vs 3)) → (v_iv (n_v vs 4) = (-1)) := f11
  obtain ⟨f12, hf⟩ := fc_un (show (9 : Nat) < 100 from by decide) hf
  have f12 : n_v vs 3 = w_fd w2 (v_ad (n_v vs 2)) 11 := f12
  obtain ⟨f13, hf⟩ := fc_un (show (20 : Nat) < 100 from by decide) hf
  have f13 : 1 * v_iv (n_v vs 1) + ((-1) * w_fi w2 (n_v vs 2) 11 + 0) ≤ 0 := f13
  obtain ⟨ta3, w3, le3, ⟨_, s3⟩, hf⟩ := fc_us (show ¬ (101 : Nat) < 100 from by decide) hf
  have s3 : (∀ b j, w_el w2 b j = w_el w3 b j) ∧ ∀ b j, w_fd w2 b j = if b = v_ad (n_v vs 2) ∧ j = 15 then n_v vs 3 else w_fd w3 b j := s3
  obtain ⟨f15, hf⟩ := fc_un (show (20 : Nat) < 100 from by decide) hf
  have f15 : 1 * v_iv (n_v vs 1) + ((-1) * w_fi w3 (n_v vs 2) 11 + 0) ≤ 0 := f15
  obtain ⟨ta4, w4, le4, ⟨_, s4⟩, hf⟩ := fc_us (show ¬ (101 : Nat) < 100 from by decide) hf
  have s4 : (∀ b j, w_el w3 b j = w_el w4 b j) ∧ ∀ b j, w_fd w3 b j = if b = v_ad (n_v vs 2) ∧ j = 13 then n_v vs 3 else w_fd w4 b j := s4
  obtain ⟨f17, hf⟩ := fc_un (show (20 : Nat) < 100 from by decide) hf
  have f17 : 1 * v_iv (n_v vs 1) + ((-1) * w_fi w4 (n_v vs 2) 11 + 0) ≤ 0 := f17
  have q2 : n_v vs 2 = n_v vs 0 := f4.symm
  rw [q2] at f1
  rw [q2] at f2
  rw [q2] at f3
  rw [q2] at s1
  rw [q2] at f6
  rw [q2] at f7
  rw [q2] at f8
  rw [q2] at s2
  rw [q2] at f10
  rw [q2] at f11
  rw [q2] at f12
  rw [q2] at f13
  rw [q2] at s3
  rw [q2] at f15
  rw [q2] at s4
  rw [q2] at f17
  have ar_0_1_1 : w_ar w1 (n_v vs 0) 1 = w_ar ws (n_v vs 0) 1 := by show v_ad (w_fd w1 _ _) = v_ad (w_fd ws _ _); rw [s1.2, if_neg (fun e => absurd e.2 (by decide))]
  have ar_0_1_2 : w_ar w2 (n_v vs 0) 1 = w_ar ws (n_v vs 0) 1 := by rw [← ar_0_1_1]; show v_ad (w_fd w2 _ _) = v_ad (w_fd w1 _ _); rw [s2.2, if_neg (fun e => absurd e.2 (by decide))]
  have ar_0_1_3 : w_ar w3 (n_v vs 0) 1 = w_ar ws (n_v vs 0) 1 := by rw [← ar_0_1_2]; show v_ad (w_fd w3 _ _) = v_ad (w_fd w2 _ _); rw [s3.2, if_neg (fun e => absurd e.2 (by decide))]
  have ar_0_1_4 : w_ar w4 (n_v vs 0) 1 = w_ar ws (n_v vs 0) 1 := by rw [← ar_0_1_3]; show v_ad (w_fd w4 _ _) = v_ad (w_fd w3 _ _); rw [s4.2, if_neg (fun e => absurd e.2 (by decide))]
  have cr_0_1 : ta (w_ar ws (n_v vs 0) 1) = some 151 := tv_rg (th_fd hD hth r0 (g := GG_150) rfl (k := 1) (t := (2, 0, 0, [151])) rfl rfl)
  rw [ar_0_1_1] at f6
  rw [ar_0_1_2] at f10
  have g12 : v_iv (n_v vs 3) = w_fi w2 (n_v vs 0) 11 := congrArg v_iv f12
  have fe_0_10_1 : w_fi ws (n_v vs 0) 10 = w_fi w1 (n_v vs 0) 10 := by show v_iv (w_fd _ _ _) = v_iv (w_fd _ _ _); rw [s1.2, if_neg (fun e => absurd e.2 (by decide))]
  have fe_0_11_1 : w_fi ws (n_v vs 0) 11 = w_fi w1 (n_v vs 0) 11 := by show v_iv (w_fd _ _ _) = v_iv (w_fd _ _ _); rw [s1.2, if_neg (fun e => absurd e.2 (by decide))]
  have fe_0_15_1 : w_fi ws (n_v vs 0) 15 = w_fi w1 (n_v vs 0) 15 := by show v_iv (w_fd _ _ _) = v_iv (w_fd _ _ _); rw [s1.2, if_neg (fun e => absurd e.2 (by decide))]
  have fe_0_10_2 : w_fi w1 (n_v vs 0) 10 = w_fi w2 (n_v vs 0) 10 := by show v_iv (w_fd _ _ _) = v_iv (w_fd _ _ _); rw [s2.2, if_neg (fun e => absurd e.2 (by decide))]
  have fe_0_11_2 : w_fi w1 (n_v vs 0) 11 = w_fi w2 (n_v vs 0) 11 := by show v_iv (w_fd _ _ _) = v_iv (w_fd _ _ _); rw [s2.2, if_neg (fun e => absurd e.2 (by decide))]
  have fe_0_15_2 : w_fi w1 (n_v vs 0) 15 = w_fi w2 (n_v vs 0) 15 := by show v_iv (w_fd _ _ _) = v_iv (w_fd _ _ _); rw [s2.2, if_neg (fun e => absurd e.2 (by decide))]
  have fe_0_10_3 : w_fi w2 (n_v vs 0) 10 = w_fi w3 (n_v vs 0) 10 := by show v_iv (w_fd _ _ _) = v_iv (w_fd _ _ _); rw [s3.2, if_neg (fun e => absurd e.2 (by decide))]
  have fe_0_11_3 : w_fi w2 (n_v vs 0) 11 = w_fi w3 (n_v vs 0) 11 := by show v_iv (w_fd _ _ _) = v_iv (w_fd _ _ _); rw [s3.2, if_neg (fun e => absurd e.2 (by decide))]
  have fe_0_15_3 : w_fi w2 (n_v vs 0) 15 = v_iv (n_v vs 3) := by show v_iv (w_fd _ _ _) = _; rw [s3.2, if_pos ⟨rfl, rfl⟩]
  have fe_0_10_4 : w_fi w3 (n_v vs 0) 10 = w_fi w4 (n_v vs 0) 10 := by show v_iv (w_fd _ _ _) = v_iv (w_fd _ _ _); rw [s4.2, if_neg (fun e => absurd e.2 (by decide))]
  have fe_0_11_4 : w_fi w3 (n_v vs 0) 11 = w_fi w4 (n_v vs 0) 11 := by show v_iv (w_fd _ _ _) = v_iv (w_fd _ _ _); rw [s4.2, if_neg (fun e => absurd e.2 (by decide))]
  have fe_0_15_4 : w_fi w3 (n_v vs 0) 15 = w_fi w4 (n_v vs 0) 15 := by show v_iv (w_fd _ _ _) = v_iv (w_fd _ _ _); rw [s4.2, if_neg (fun e => absurd e.2 (by decide))]
  have hE_0_1_1 : ∀ j : Int, w_ei ws (w_ar ws (n_v vs 0) 1) j = w_ei w1 (w_ar ws (n_v vs 0) 1) j := fun j => s1.1 _ _
  have hE_0_1_2 : ∀ j : Int, w_ei w1 (w_ar ws (n_v vs 0) 1) j = w_ei w2 (w_ar ws (n_v vs 0) 1) j := fun j => s2.1 _ _
  have hE_0_1_3 : ∀ j : Int, w_ei w2 (w_ar ws (n_v vs 0) 1) j = w_ei w3 (w_ar ws (n_v vs 0) 1) j := fun j => s3.1 _ _
  have hE_0_1_4 : ∀ j : Int, w_ei w3 (w_ar ws (n_v vs 0) 1) j = w_ei w4 (w_ar ws (n_v vs 0) 1) j := fun j => s4.1 _ _
  have hK_0_1 : ∀ j : Int, 0 ≤ j → j < 2000 → (-128) ≤ w_ei ws (w_ar ws (n_v vs 0) 1) j ∧ w_ei ws (w_ar ws (n_v vs 0) 1) j ≤ 127 := fun j h0 h1 => th_el hD hth cr_0_1 (kd := 1) (n := 2000) (m := 2000) (lo := (-128)) (hi := 127) (rs := []) (L := []) rfl (by decide) (j := j.toNat) (by omega)
  have kz_0_10 : 0 ≤ w_fi ws (n_v vs 0) 10 ∧ w_fi ws (n_v vs 0) 10 ≤ 2000 := tv_rng (th_fd hD hth r0 (g := GG_150) rfl (k := 10) (t := (0, 0, 2000, [])) rfl rfl)
  have kz_0_11 : 0 ≤ w_fi ws (n_v vs 0) 11 ∧ w_fi ws (n_v vs 0) 11 ≤ 2000 := tv_rng (th_fd hD hth r0 (g := GG_150) rfl (k := 11) (t := (0, 0, 2000, [])) rfl rfl)
  have kz_0_15 : 0 ≤ w_fi ws (n_v vs 0) 15 ∧ w_fi ws (n_v vs 0) 15 ≤ 2000 := tv_rng (th_fd hD hth r0 (g := GG_150) rfl (k := 15) (t := (0, 0, 2000, [])) rfl rfl)
  have nf0 : fc_1 (20, [1, 2], [30, 0, 1, 0, 0, -1, 1, 15]) ws (vs) := by
    refine ⟨fun n hn => ?_, ?_⟩
    · have hn : n ∈ [1, 2] := hn
      rw [hl]
      simp only [List.mem_cons, List.not_mem_nil, or_false] at hn
      show n < 8; omega
    · show 1 * v_iv (n_v vs 1) + ((-1) * w_fi ws (n_v vs 2) 15 + 0) ≤ 0
      rw [q2]
      omega
  have nf1 : fc_1 (20, [2], [50, 2, 0, 11, 15, 1, 3, 2, 0, 11, 2, 0, 15]) ws (vs) := by
    refine ⟨fun n hn => ?_, ?_⟩
    · have hn : n ∈ [2] := hn
      rw [hl]
      simp only [List.mem_cons, List.not_mem_nil, or_false] at hn
      show n < 8; omega
    · show w_fi ws (n_v vs 2) 11 = w_fi ws (n_v vs 2) 15
      rw [q2]
      first | omega | grind
  refine ⟨(fun _ h => (by cases h)), [], trivial, ?_, (fun _ h => (by cases h))⟩
  rw [List.append_nil]
  exact List.forall_mem_cons.mpr ⟨⟨show (20 : Nat) < 100 from by decide, nf0⟩, List.forall_mem_cons.mpr ⟨⟨show (20 : Nat) < 100 from by decide, nf1⟩, (fun _ h => (by cases h))⟩⟩
def o_Mo_next_9 : or_T := (93, 7, [(0, (2, 0, 0, [150])), (1, (0, 0, 2000, [])), (2, (2, 0, 0, [150])), (3, (0, 0, 1999, [])), (4, (0, 65, 90, []))], [(8, [4], [3]), (20, [3, 2, 4], [50, 1, 1, 1010, 1001, 4, 11, 0, 6, 4, 2, 1, 0, 0, 1, 2, 1, 10, 1, 2, 1, 2, 9, 5, 3, 1, 1, 1, 0, 0, 256]), (20, [2, 3, 4], [50, 1, 0, 10, 4, 7, 0, 3, 2, 0, 10, 1, 1, 1, 2, 1, 2, 0, -1]), (20, [1, 2], [30, 0, 1, 0, 0, -1, 1, 11]), (24, [0, 2], []), (101, [2, 4], [14]), (20, [3, 2, 4], [50, 1, 1, 1010, 1001, 4, 11, 0, 6, 4, 2, 1, 0, 0, 1, 2, 1, 10, 1, 2, 1, 2, 9, 5, 3, 1, 1, 1, 0, 0, 256]), (20, [2, 3, 4], [50, 1, 0, 10, 4, 7, 0, 3, 2, 0, 10, 1, 1, 1, 2, 1, 2, 0, -1]), (20, [1, 2], [30, 0, 1, 0, 0, -1, 1, 11]), (101, [2, 5], [12]), (20, [3, 2, 4], [50, 1, 1, 1010, 1001, 4, 11, 0, 6, 4, 2, 1, 0, 0, 1, 2, 1, 10, 1, 2, 1, 2, 9, 5, 3, 1, 1, 1, 0, 0, 256]), (20, [2, 3, 4], [50, 1, 0, 10, 4, 7, 0, 3, 2, 0, 10, 1, 1, 1, 2, 1, 2, 0, -1]), (9, [3, 2], [11]), (20, [1, 2], [30, 0, 1, 0, 0, -1, 1, 11]), (101, [2, 3], [15]), (20, [1, 2], [30, 0, 1, 0, 0, -1, 1, 11]), (101, [2, 3], [13]), (20, [1, 2], [30, 0, 1, 0, 0, -1, 1, 11])], [], [], [(20, [1, 2], [30, 0, 1, 0, 0, -1, 1, 15]), (20, [2], [50, 3, 1, 15, 11, 10, 1, 2, 8, 0, 3, 2, 0, 15, 2, 0, 11, 3, 12, 0, 7, 4, 3, 2, 0, 15, 0, 1, 2, 0, 11, 2, 8, 1, 3, 2, 0, 11, 2, 0, 15, 2, 12, 0, 7, 4, 3, 2, 0, 15, 0, 1, 2, 0, 10, 3, 30, 2, 14, 0, 2, 0, 65, 9, 6, 3, 0, 1, 2, 0, 15, 0, 256, 0, 10, 9, 6, 3, 0, 1, 2, 0, 15, 0, 256, 0, 90, 2, 14, 0, 2, 0, 97, 9, 6, 3, 0, 1, 2, 0, 15, 0, 256, 0, 10, 9, 6, 3, 0, 1, 2, 0, 15, 0, 256, 0, 122])], [], [(1, 3, -4294967296, 2000), (3, 1, -4294967296, 2000)])
theorem oo_Mo_next_9 {kA : Nat → ClassId} : or_ok kA GG o_Mo_next_9 := by
  intro A ta ws vs hD hth hl hk hds hf
  have hl : vs.length = 7 := hl
  have hk : ∀ q ∈ ([(0, (2, 0, 0, [150])), (1, (0, 0, 2000, [])), (2, (2, 0, 0, [150])), (3, (0, 0, 1999, [])), (4, (0, 65, 90, []))] : List (Nat × tv_T)), tv_ok ta q.2 (n_v vs q.1) := hk
  obtain ⟨t0, hk⟩ := List.forall_mem_cons.mp hk
  have t0 : tv_ok ta (2, 0, 0, [150]) (n_v vs 0) := t0
  have r0 : ta (v_ad (n_v vs 0)) = some 150 := tv_rg t0
  obtain ⟨t1, hk⟩ := List.forall_mem_cons.mp hk
  have t1 : tv_ok ta (0, 0, 2000, []) (n_v vs 1) := t1
  have k1 : 0 ≤ v_iv (n_v vs 1) ∧ v_iv (n_v vs 1) ≤ 2000 := tv_rng t1
  obtain ⟨t2, hk⟩ := List.forall_mem_cons.mp hk
  have t2 : tv_ok ta (2, 0, 0, [150]) (n_v vs 2) := t2
  have r2 : ta (v_ad (n_v vs 2)) = some 150 := tv_rg t2
  obtain ⟨t3, hk⟩ := List.forall_mem_cons.mp hk
  have t3 : tv_ok ta (0, 0, 1999, []) (n_v vs 3) := t3
  have k3 : 0 ≤ v_iv (n_v vs 3) ∧ v_iv (n_v vs 3) ≤ 1999 := tv_rng t3
  obtain ⟨t4, hk⟩ := List.forall_mem_cons.mp hk
  have t4 : tv_ok ta (0, 65, 90, []) (n_v vs 4) := t4
  have k4 : 65 ≤ v_iv (n_v vs 4) ∧ v_iv (n_v vs 4) ≤ 90 := tv_rng t4
  have hds : ∀ q ∈ ([(1, 3, -4294967296, 2000), (3, 1, -4294967296, 2000)] : List of_T), n_iv vs q.2.1 + q.2.2.1 ≤ n_iv vs q.1 ∧ n_iv vs q.1 ≤ n_iv vs q.2.1 + q.2.2.2 := hds
  obtain ⟨d0, hds⟩ := List.forall_mem_cons.mp hds
  have d0 : v_iv (n_v vs 3) + (-4294967296) ≤ v_iv (n_v vs 1) ∧ v_iv (n_v vs 1) ≤ v_iv (n_v vs 3) + 2000 := d0
  obtain ⟨d1, hds⟩ := List.forall_mem_cons.mp hds
  have d1 : v_iv (n_v vs 1) + (-4294967296) ≤ v_iv (n_v vs 3) ∧ v_iv (n_v vs 3) ≤ v_iv (n_v vs 1) + 2000 := d1
  have hf : fc_ok [(8, [4], [3]), (20, [3, 2, 4], [50, 1, 1, 1010, 1001, 4, 11, 0, 6, 4, 2, 1, 0, 0, 1, 2, 1, 10, 1, 2, 1, 2, 9, 5, 3, 1, 1, 1, 0, 0, 256]), (20, [2, 3, 4], [50, 1, 0, 10, 4, 7, 0, 3, 2, 0, 10, 1, 1, 1, 2, 1, 2, 0, -1]), (20, [1, 2], [30, 0, 1, 0, 0, -1, 1, 11]), (24, [0, 2], []), (101, [2, 4], [14]), (20, [3, 2, 4], [50, 1, 1, 1010, 1001, 4, 11, 0, 6, 4, 2, 1, 0, 0, 1, 2, 1, 10, 1, 2, 1, 2, 9, 5, 3, 1, 1, 1, 0, 0, 256]), (20, [2, 3, 4], [50, 1, 0, 10, 4, 7, 0, 3, 2, 0, 10, 1, 1, 1, 2, 1, 2, 0, -1]), (20, [1, 2], [30, 0, 1, 0, 0, -1, 1, 11]), (101, [2, 5], [12]), (20, [3, 2, 4], [50, 1, 1, 1010, 1001, 4, 11, 0, 6, 4, 2, 1, 0, 0, 1, 2, 1, 10, 1, 2, 1, 2, 9, 5, 3, 1, 1, 1, 0, 0, 256]), (20, [2, 3, 4], [50, 1, 0, 10, 4, 7, 0, 3, 2, 0, 10, 1, 1, 1, 2, 1, 2, 0, -1]), (9, [3, 2], [11]), (20, [1, 2], [30, 0, 1, 0, 0, -1, 1, 11]), (101, [2, 3], [15]), (20, [1, 2], [30, 0, 1, 0, 0, -1, 1, 11]), (101, [2, 3], [13]), (20, [1, 2], [30, 0, 1, 0, 0, -1, 1, 11])] ta ws vs := hf
  obtain ⟨f0, hf⟩ := fc_un (show (8 : Nat) < 100 from by decide) hf
  have f0 : 0 ≤ v_iv (n_v vs 4) := f0
  obtain ⟨f1, hf⟩ := fc_un (show (20 : Nat) < 100 from by decide) hf
  have f1 : ((v_iv (n_v vs 3) + 1) ≤ w_fi ws (n_v vs 2) 10) → (v_iv (n_v vs 4) = (w_ei ws (w_ar ws (n_v vs 2) 1) (v_iv (n_v vs 3)) % 256)) := f1
  obtain ⟨f2, hf⟩ := fc_un (show (20 : Nat) < 100 from by decide) hf
  have f2 : (w_fi ws (n_v vs 2) 10 ≤ v_iv (n_v vs 3)) → (v_iv (n_v vs 4) = (-1)) := f2
  obtain ⟨f3, hf⟩ := fc_un (show (20 : Nat) < 100 from by decide) hf
  have f3 : 1 * v_iv (n_v vs 1) + ((-1) * w_fi ws (n_v vs 2) 11 + 0) ≤ 0 := f3
  obtain ⟨f4, hf⟩ := fc_un (show (24 : Nat) < 100 from by decide) hf
  have f4 : n_v vs 0 = n_v vs 2 := f4
  obtain ⟨ta1, w1, le1, ⟨_, s1⟩, hf⟩ := fc_us (show ¬ (101 : Nat) < 100 from by decide) hf
  have s1 : (∀ b j, w_el ws b j = w_el w1 b j) ∧ ∀ b j, w_fd ws b j = if b = v_ad (n_v vs 2) ∧ j = 14 then n_v vs 4 else w_fd w1 b j := s1
  obtain ⟨f6, hf⟩ := fc_un (show (20 : Nat) < 100 from by decide) hf
  have f6 : ((v_iv (n_v vs 3) + 1) ≤ w_fi w1 (n_v vs 2) 10) → (v_iv (n_v vs 4) = (w_ei w1 (w_ar w1 (n_v vs 2) 1) (v_iv (n_v vs 3)) % 256)) := f6
  obtain ⟨f7, hf⟩ := fc_un (show (20 : Nat) < 100 from by decide) hf
  have f7 : (w_fi w1 (n_v vs 2) 10 ≤ v_iv (n_v vs 3)) → (v_iv (n_v vs 4) = (-1)) := f7
  obtain ⟨f8, hf⟩ := fc_un (show (20 : Nat) < 100 from by decide) hf
  have f8 : 1 * v_iv (n_v vs 1) + ((-1) * w_fi w1 (n_v vs 2) 11 + 0) ≤ 0 := f8
  obtain ⟨ta2, w2, le2, ⟨_, s2⟩, hf⟩ := fc_us (show ¬ (101 : Nat) < 100 from by decide) hf
  have s2 : (∀ b j, w_el w1 b j = w_el w2 b j) ∧ ∀ b j, w_fd w1 b j = if b = v_ad (n_v vs 2) ∧ j = 12 then n_v vs 5 else w_fd w2 b j := s2
  obtain ⟨f10, hf⟩ := fc_un (show (20 : Nat) < 100 from by decide) hf
  have f10 : ((v_iv (n_v vs 3) + 1) ≤ w_fi w2 (n_v vs 2) 10) → (v_iv (n_v vs 4) = (w_ei w2 (w_ar w2 (n_v vs 2) 1) (v_iv (n_v vs 3)) % 256)) := f10
  obtain ⟨f11, hf⟩ := fc_un (show (20 : Nat) < 100 from by decide) hf
  have f11 : (w_fi w2 (n_v vs 2) 10 ≤ v_iv (n_v vs 3)) → (v_iv (n_v vs 4) = (-1)) := f11
  obtain ⟨f12, hf⟩ := fc_un (show (9 : Nat) < 100 from by decide) hf
  have f12 : n_v vs 3 = w_fd w2 (v_ad (n_v vs 2)) 11 := f12
  obtain ⟨f13, hf⟩ := fc_un (show (20 : Nat) < 100 from by decide) hf
  have f13 : 1 * v_iv (n_v vs 1) + ((-1) * w_fi w2 (n_v vs 2) 11 + 0) ≤ 0 := f13
  obtain ⟨ta3, w3, le3, ⟨_, s3⟩, hf⟩ := fc_us (show ¬ (101 : Nat) < 100 from by decide) hf
  have s3 : (∀ b j, w_el w2 b j = w_el w3 b j) ∧ ∀ b j, w_fd w2 b j = if b = v_ad (n_v vs 2) ∧ j = 15 then n_v vs 3 else w_fd w3 b j := s3
  obtain ⟨f15, hf⟩ := fc_un (show (20 : Nat) < 100 from by decide) hf
  have f15 : 1 * v_iv (n_v vs 1) + ((-1) * w_fi w3 (n_v vs 2) 11 + 0) ≤ 0 := f15
  obtain ⟨ta4, w4, le4, ⟨_, s4⟩, hf⟩ := fc_us (show ¬ (101 : Nat) < 100 from by decide) hf
  have s4 : (∀ b j, w_el w3 b j = w_el w4 b j) ∧ ∀ b j, w_fd w3 b j = if b = v_ad (n_v vs 2) ∧ j = 13 then n_v vs 3 else w_fd w4 b j := s4
  obtain ⟨f17, hf⟩ := fc_un (show (20 : Nat) < 100 from by decide) hf
  have f17 : 1 * v_iv (n_v vs 1) + ((-1) * w_fi w4 (n_v vs 2) 11 + 0) ≤ 0 := f17
  have q2 : n_v vs 2 = n_v vs 0 := f4.symm
  rw [q2] at f1
  rw [q2] at f2
  rw [q2] at f3
  rw [q2] at s1
  rw [q2] at f6
  rw [q2] at f7
  rw [q2] at f8
  rw [q2] at s2
  rw [q2] at f10
  rw [q2] at f11
  rw [q2] at f12
  rw [q2] at f13
  rw [q2] at s3
  rw [q2] at f15
  rw [q2] at s4
  rw [q2] at f17
  have ar_0_1_1 : w_ar w1 (n_v vs 0) 1 = w_ar ws (n_v vs 0) 1 := by show v_ad (w_fd w1 _ _) = v_ad (w_fd ws _ _); rw [s1.2, if_neg (fun e => absurd e.2 (by decide))]
  have ar_0_1_2 : w_ar w2 (n_v vs 0) 1 = w_ar ws (n_v vs 0) 1 := by rw [← ar_0_1_1]; show v_ad (w_fd w2 _ _) = v_ad (w_fd w1 _ _); rw [s2.2, if_neg (fun e => absurd e.2 (by decide))]
  have ar_0_1_3 : w_ar w3 (n_v vs 0) 1 = w_ar ws (n_v vs 0) 1 := by rw [← ar_0_1_2]; show v_ad (w_fd w3 _ _) = v_ad (w_fd w2 _ _); rw [s3.2, if_neg (fun e => absurd e.2 (by decide))]
  have ar_0_1_4 : w_ar w4 (n_v vs 0) 1 = w_ar ws (n_v vs 0) 1 := by rw [← ar_0_1_3]; show v_ad (w_fd w4 _ _) = v_ad (w_fd w3 _ _); rw [s4.2, if_neg (fun e => absurd e.2 (by decide))]
  have cr_0_1 : ta (w_ar ws (n_v vs 0) 1) = some 151 := tv_rg (th_fd hD hth r0 (g := GG_150) rfl (k := 1) (t := (2, 0, 0, [151])) rfl rfl)
  rw [ar_0_1_1] at f6
  rw [ar_0_1_2] at f10
  have g12 : v_iv (n_v vs 3) = w_fi w2 (n_v vs 0) 11 := congrArg v_iv f12
  have fe_0_10_1 : w_fi ws (n_v vs 0) 10 = w_fi w1 (n_v vs 0) 10 := by show v_iv (w_fd _ _ _) = v_iv (w_fd _ _ _); rw [s1.2, if_neg (fun e => absurd e.2 (by decide))]
  have fe_0_11_1 : w_fi ws (n_v vs 0) 11 = w_fi w1 (n_v vs 0) 11 := by show v_iv (w_fd _ _ _) = v_iv (w_fd _ _ _); rw [s1.2, if_neg (fun e => absurd e.2 (by decide))]
  have fe_0_15_1 : w_fi ws (n_v vs 0) 15 = w_fi w1 (n_v vs 0) 15 := by show v_iv (w_fd _ _ _) = v_iv (w_fd _ _ _); rw [s1.2, if_neg (fun e => absurd e.2 (by decide))]
  have fe_0_10_2 : w_fi w1 (n_v vs 0) 10 = w_fi w2 (n_v vs 0) 10 := by show v_iv (w_fd _ _ _) = v_iv (w_fd _ _ _); rw [s2.2, if_neg (fun e => absurd e.2 (by decide))]
  have fe_0_11_2 : w_fi w1 (n_v vs 0) 11 = w_fi w2 (n_v vs 0) 11 := by show v_iv (w_fd _ _ _) = v_iv (w_fd _ _ _); rw [s2.2, if_neg (fun e => absurd e.2 (by decide))]
  have fe_0_15_2 : w_fi w1 (n_v vs 0) 15 = w_fi w2 (n_v vs 0) 15 := by show v_iv (w_fd _ _ _) = v_iv (w_fd _ _ _); rw [s2.2, if_neg (fun e => absurd e.2 (by decide))]
  have fe_0_10_3 : w_fi w2 (n_v vs 0) 10 = w_fi w3 (n_v vs 0) 10 := by show v_iv (w_fd _ _ _) = v_iv (w_fd _ _ _); rw [s3.2, if_neg (fun e => absurd e.2 (by decide))]
  have fe_0_11_3 : w_fi w2 (n_v vs 0) 11 = w_fi w3 (n_v vs 0) 11 := by show v_iv (w_fd _ _ _) = v_iv (w_fd _ _ _); rw [s3.2, if_neg (fun e => absurd e.2 (by decide))]
  have fe_0_15_3 : w_fi w2 (n_v vs 0) 15 = v_iv (n_v vs 3) := by show v_iv (w_fd _ _ _) = _; rw [s3.2, if_pos ⟨rfl, rfl⟩]
  have fe_0_10_4 : w_fi w3 (n_v vs 0) 10 = w_fi w4 (n_v vs 0) 10 := by show v_iv (w_fd _ _ _) = v_iv (w_fd _ _ _); rw [s4.2, if_neg (fun e => absurd e.2 (by decide))]
  have fe_0_11_4 : w_fi w3 (n_v vs 0) 11 = w_fi w4 (n_v vs 0) 11 := by show v_iv (w_fd _ _ _) = v_iv (w_fd _ _ _); rw [s4.2, if_neg (fun e => absurd e.2 (by decide))]
  have fe_0_15_4 : w_fi w3 (n_v vs 0) 15 = w_fi w4 (n_v vs 0) 15 := by show v_iv (w_fd _ _ _) = v_iv (w_fd _ _ _); rw [s4.2, if_neg (fun e => absurd e.2 (by decide))]
  have hE_0_1_1 : ∀ j : Int, w_ei ws (w_ar ws (n_v vs 0) 1) j = w_ei w1 (w_ar ws (n_v vs 0) 1) j := fun j => s1.1 _ _
  have hE_0_1_2 : ∀ j : Int, w_ei w1 (w_ar ws (n_v vs 0) 1) j = w_ei w2 (w_ar ws (n_v vs 0) 1) j := fun j => s2.1 _ _
  have hE_0_1_3 : ∀ j : Int, w_ei w2 (w_ar ws (n_v vs 0) 1) j = w_ei w3 (w_ar ws (n_v vs 0) 1) j := fun j => s3.1 _ _
  have hE_0_1_4 : ∀ j : Int, w_ei w3 (w_ar ws (n_v vs 0) 1) j = w_ei w4 (w_ar ws (n_v vs 0) 1) j := fun j => s4.1 _ _
  have hK_0_1 : ∀ j : Int, 0 ≤ j → j < 2000 → (-128) ≤ w_ei ws (w_ar ws (n_v vs 0) 1) j ∧ w_ei ws (w_ar ws (n_v vs 0) 1) j ≤ 127 := fun j h0 h1 => th_el hD hth cr_0_1 (kd := 1) (n := 2000) (m := 2000) (lo := (-128)) (hi := 127) (rs := []) (L := []) rfl (by decide) (j := j.toNat) (by omega)
  have kz_0_10 : 0 ≤ w_fi ws (n_v vs 0) 10 ∧ w_fi ws (n_v vs 0) 10 ≤ 2000 := tv_rng (th_fd hD hth r0 (g := GG_150) rfl (k := 10) (t := (0, 0, 2000, [])) rfl rfl)
  have kz_0_11 : 0 ≤ w_fi ws (n_v vs 0) 11 ∧ w_fi ws (n_v vs 0) 11 ≤ 2000 := tv_rng (th_fd hD hth r0 (g := GG_150) rfl (k := 11) (t := (0, 0, 2000, [])) rfl rfl)
  have kz_0_15 : 0 ≤ w_fi ws (n_v vs 0) 15 ∧ w_fi ws (n_v vs 0) 15 ≤ 2000 := tv_rng (th_fd hD hth r0 (g := GG_150) rfl (k := 15) (t := (0, 0, 2000, [])) rfl rfl)
  have nf0 : fc_1 (20, [1, 2], [30, 0, 1, 0, 0, -1, 1, 15]) ws (vs) := by
    refine ⟨fun n hn => ?_, ?_⟩
    · have hn : n ∈ [1, 2] := hn
      rw [hl]
      simp only [List.mem_cons, List.not_mem_nil, or_false] at hn
      show n < 7; omega
    · show 1 * v_iv (n_v vs 1) + ((-1) * w_fi ws (n_v vs 2) 15 + 0) ≤ 0
      rw [q2]
      omega
  have nf1 : fc_1 (20, [2], [50, 3, 1, 15, 11, 10, 1, 2, 8, 0, 3, 2, 0, 15, 2, 0, 11, 3, 12, 0, 7, 4, 3, 2, 0, 15, 0, 1, 2, 0, 11, 2, 8, 1, 3, 2, 0, 11, 2, 0, 15, 2, 12, 0, 7, 4, 3, 2, 0, 15, 0, 1, 2, 0, 10, 3, 30, 2, 14, 0, 2, 0, 65, 9, 6, 3, 0, 1, 2, 0, 15, 0, 256, 0, 10, 9, 6, 3, 0, 1, 2, 0, 15, 0, 256, 0, 90, 2, 14, 0, 2, 0, 97, 9, 6, 3, 0, 1, 2, 0, 15, 0, 256, 0, 10, 9, 6, 3, 0, 1, 2, 0, 15, 0, 256, 0, 122]) ws (vs) := by
    refine ⟨fun n hn => ?_, ?_⟩
    · have hn : n ∈ [2] := hn
      rw [hl]
      simp only [List.mem_cons, List.not_mem_nil, or_false] at hn
      show n < 7; omega
    · show (w_fi ws (n_v vs 2) 15 ≤ w_fi ws (n_v vs 2) 11) ∧ (((w_fi ws (n_v vs 2) 15 + 1) ≤ w_fi ws (n_v vs 2) 11) ∨ ((w_fi ws (n_v vs 2) 11 = w_fi ws (n_v vs 2) 15) ∧ (((w_fi ws (n_v vs 2) 15 + 1) ≤ w_fi ws (n_v vs 2) 10) ∧ (((65 ≤ (w_ei ws (w_ar ws (n_v vs 2) 1) (w_fi ws (n_v vs 2) 15) % 256)) ∧ ((w_ei ws (w_ar ws (n_v vs 2) 1) (w_fi ws (n_v vs 2) 15) % 256) ≤ 90)) ∨ ((97 ≤ (w_ei ws (w_ar ws (n_v vs 2) 1) (w_fi ws (n_v vs 2) 15) % 256)) ∧ ((w_ei ws (w_ar ws (n_v vs 2) 1) (w_fi ws (n_v vs 2) 15) % 256) ≤ 122))))))
      rw [q2]
      first | omega | grind
  refine ⟨(fun _ h => (by cases h)), [], trivial, ?_, (fun _ h => (by cases h))⟩
  rw [List.append_nil]
  exact List.forall_mem_cons.mpr ⟨⟨show (20 : Nat) < 100 from by decide, nf0⟩, List.forall_mem_cons.mpr ⟨⟨show (20 : Nat) < 100 from by decide, nf1⟩, (fun _ h => (by cases h))⟩⟩
def o_Mo_next_10 : or_T := (277, 8, [(0, (2, 0, 0, [150])), (1, (0, 0, 2000, [])), (2, (2, 0, 0, [150])), (3, (0, 0, 1999, [])), (4, (0, 123, 255, []))], [(8, [4], [3]), (20, [3, 2, 4], [50, 1, 1, 1010, 1001, 4, 11, 0, 6, 4, 2, 1, 0, 0, 1, 2, 1, 10, 1, 2, 1, 2, 9, 5, 3, 1, 1, 1, 0, 0, 256]), (20, [2, 3, 4], [50, 1, 0, 10, 4, 7, 0, 3, 2, 0, 10, 1, 1, 1, 2, 1, 2, 0, -1]), (20, [1, 2], [30, 0, 1, 0, 0, -1, 1, 11]), (24, [0, 2], []), (101, [2, 4], [14]), (20, [3, 2, 4], [50, 1, 1, 1010, 1001, 4, 11, 0, 6, 4, 2, 1, 0, 0, 1, 2, 1, 10, 1, 2, 1, 2, 9, 5, 3, 1, 1, 1, 0, 0, 256]), (20, [2, 3, 4], [50, 1, 0, 10, 4, 7, 0, 3, 2, 0, 10, 1, 1, 1, 2, 1, 2, 0, -1]), (20, [1, 2], [30, 0, 1, 0, 0, -1, 1, 11]), (101, [2, 5], [12]), (20, [3, 2, 4], [50, 1, 1, 1010, 1001, 4, 11, 0, 6, 4, 2, 1, 0, 0, 1, 2, 1, 10, 1, 2, 1, 2, 9, 5, 3, 1, 1, 1, 0, 0, 256]), (20, [2, 3, 4], [50, 1, 0, 10, 4, 7, 0, 3, 2, 0, 10, 1, 1, 1, 2, 1, 2, 0, -1]), (9, [3, 2], [11]), (20, [1, 2], [30, 0, 1, 0, 0, -1, 1, 11]), (101, [2, 3], [15]), (20, [1, 2], [30, 0, 1, 0, 0, -1, 1, 11]), (101, [2, 3], [13]), (20, [1, 2], [30, 0, 1, 0, 0, -1, 1, 11])], [], [], [(20, [1, 2], [30, 0, 1, 0, 0, -1, 1, 15]), (20, [2], [50, 2, 0, 11, 15, 1, 3, 2, 0, 11, 2, 0, 15])], [], [(1, 3, -4294967296, 2000), (3, 1, -4294967296, 2000)])
theorem oo_Mo_next_10 {kA : Nat → ClassId} : or_ok kA GG o_Mo_next_10 := by
  intro A ta ws vs hD hth hl hk hds hf
  have hl : vs.length = 8 := hl
  have hk : ∀ q ∈ ([(0, (2, 0, 0, [150])), (1, (0, 0, 2000, [])), (2, (2, 0, 0, [150])), (3, (0, 0, 1999, [])), (4, (0, 123, 255, []))] : List (Nat × tv_T)), tv_ok ta q.2 (n_v vs q.1) := hk
  obtain ⟨t0, hk⟩ := List.forall_mem_cons.mp hk
  have t0 : tv_ok ta (2, 0, 0, [150]) (n_v vs 0) := t0
  have r0 : ta (v_ad (n_v vs 0)) = some 150 := tv_rg t0
  obtain ⟨t1, hk⟩ := List.forall_mem_cons.mp hk
  have t1 : tv_ok ta (0, 0, 2000, []) (n_v vs 1) := t1
  have k1 : 0 ≤ v_iv (n_v vs 1) ∧ v_iv (n_v vs 1) ≤ 2000 := tv_rng t1
  obtain ⟨t2, hk⟩ := List.forall_mem_cons.mp hk
  have t2 : tv_ok ta (2, 0, 0, [150]) (n_v vs 2) := t2
  have r2 : ta (v_ad (n_v vs 2)) = some 150 := tv_rg t2
  obtain ⟨t3, hk⟩ := List.forall_mem_cons.mp hk
  have t3 : tv_ok ta (0, 0, 1999, []) (n_v vs 3) := t3
  have k3 : 0 ≤ v_iv (n_v vs 3) ∧ v_iv (n_v vs 3) ≤ 1999 := tv_rng t3
  obtain ⟨t4, hk⟩ := List.forall_mem_cons.mp hk
  have t4 : tv_ok ta (0, 123, 255, []) (n_v vs 4) := t4
  have k4 : 123 ≤ v_iv (n_v vs 4) ∧ v_iv (n_v vs 4) ≤ 255 := tv_rng t4
  have hds : ∀ q ∈ ([(1, 3, -4294967296, 2000), (3, 1, -4294967296, 2000)] : List of_T), n_iv vs q.2.1 + q.2.2.1 ≤ n_iv vs q.1 ∧ n_iv vs q.1 ≤ n_iv vs q.2.1 + q.2.2.2 := hds
  obtain ⟨d0, hds⟩ := List.forall_mem_cons.mp hds
  have d0 : v_iv (n_v vs 3) + (-4294967296) ≤ v_iv (n_v vs 1) ∧ v_iv (n_v vs 1) ≤ v_iv (n_v vs 3) + 2000 := d0
  obtain ⟨d1, hds⟩ := List.forall_mem_cons.mp hds
  have d1 : v_iv (n_v vs 1) + (-4294967296) ≤ v_iv (n_v vs 3) ∧ v_iv (n_v vs 3) ≤ v_iv (n_v vs 1) + 2000 := d1
  have hf : fc_ok [(8, [4], [3]), (20, [3, 2, 4], [50, 1, 1, 1010, 1001, 4, 11, 0, 6, 4, 2, 1, 0, 0, 1, 2, 1, 10, 1, 2, 1, 2, 9, 5, 3, 1, 1, 1, 0, 0, 256]), (20, [2, 3, 4], [50, 1, 0, 10, 4, 7, 0, 3, 2, 0, 10, 1, 1, 1, 2, 1, 2, 0, -1]), (20, [1, 2], [30, 0, 1, 0, 0, -1, 1, 11]), (24, [0, 2], []), (101, [2, 4], [14]), (20, [3, 2, 4], [50, 1, 1, 1010, 1001, 4, 11, 0, 6, 4, 2, 1, 0, 0, 1, 2, 1, 10, 1, 2, 1, 2, 9, 5, 3, 1, 1, 1, 0, 0, 256]), (20, [2, 3, 4], [50, 1, 0, 10, 4, 7, 0, 3, 2, 0, 10, 1, 1, 1, 2, 1, 2, 0, -1]), (20, [1, 2], [30, 0, 1, 0, 0, -1, 1, 11]), (101, [2, 5], [12]), (20, [3, 2, 4], [50, 1, 1, 1010, 1001, 4, 11, 0, 6, 4, 2, 1, 0, 0, 1, 2, 1, 10, 1, 2, 1, 2, 9, 5, 3, 1, 1, 1, 0, 0, 256]), (20, [2, 3, 4], [50, 1, 0, 10, 4, 7, 0, 3, 2, 0, 10, 1, 1, 1, 2, 1, 2, 0, -1]), (9, [3, 2], [11]), (20, [1, 2], [30, 0, 1, 0, 0, -1, 1, 11]), (101, [2, 3], [15]), (20, [1, 2], [30, 0, 1, 0, 0, -1, 1, 11]), (101, [2, 3], [13]), (20, [1, 2], [30, 0, 1, 0, 0, -1, 1, 11])] ta ws vs := hf
  obtain ⟨f0, hf⟩ := fc_un (show (8 : Nat) < 100 from by decide) hf
  have f0 : 0 ≤ v_iv (n_v vs 4) := f0
  obtain ⟨f1, hf⟩ := fc_un (show (20 : Nat) < 100 from by decide) hf
  have f1 : ((v_iv (n_v vs 3) + 1) ≤ w_fi ws (n_v vs 2) 10) → (v_iv (n_v vs 4) = (w_ei ws (w_ar ws (n_v vs 2) 1) (v_iv (n_v vs 3)) % 256)) := f1
  obtain ⟨f2, hf⟩ := fc_un (show (20 : Nat) < 100 from by decide) hf
  have f2 : (w_fi ws (n_v vs 2) 10 ≤ v_iv (n_v vs 3)) → (v_iv (n_v vs 4) = (-1)) := f2
  obtain ⟨f3, hf⟩ := fc_un (show (20 : Nat) < 100 from by decide) hf
  have f3 : 1 * v_iv (n_v vs 1) + ((-1) * w_fi ws (n_v vs 2) 11 + 0) ≤ 0 := f3
  obtain ⟨f4, hf⟩ := fc_un (show (24 : Nat) < 100 from by decide) hf
  have f4 : n_v vs 0 = n_v vs 2 := f4
  obtain ⟨ta1, w1, le1, ⟨_, s1⟩, hf⟩ := fc_us (show ¬ (101 : Nat) < 100 from by decide) hf
  have s1 : (∀ b j, w_el ws b j = w_el w1 b j) ∧ ∀ b j, w_fd ws b j = if b = v_ad (n_v vs 2) ∧ j = 14 then n_v vs 4 else w_fd w1 b j := s1
  obtain ⟨f6, hf⟩ := fc_un (show (20 : Nat) < 100 from by decide) hf
  have f6 : ((v_iv (n_v vs 3) + 1) ≤ w_fi w1 (n_v vs 2) 10) → (v_iv (n_v vs 4) = (w_ei w1 (w_ar w1 (n_v vs 2) 1) (v_iv (n_v vs 3)) % 256)) := f6
  obtain ⟨f7, hf⟩ := fc_un (show (20 : Nat) < 100 from by decide) hf
  have f7 : (w_fi w1 (n_v vs 2) 10 ≤ v_iv (n_v vs 3)) → (v_iv (n_v vs 4) = (-1)) := f7
  obtain ⟨f8, hf⟩ := fc_un (show (20 : Nat) < 100 from by decide) hf
  have f8 : 1 * v_iv (n_v vs 1) + ((-1) * w_fi w1 (n_v vs 2) 11 + 0) ≤ 0 := f8
  obtain ⟨ta2, w2, le2, ⟨_, s2⟩, hf⟩ := fc_us (show ¬ (101 : Nat) < 100 from by decide) hf
  have s2 : (∀ b j, w_el w1 b j = w_el w2 b j) ∧ ∀ b j, w_fd w1 b j = if b = v_ad (n_v vs 2) ∧ j = 12 then n_v vs 5 else w_fd w2 b j := s2
  obtain ⟨f10, hf⟩ := fc_un (show (20 : Nat) < 100 from by decide) hf
  have f10 : ((v_iv (n_v vs 3) + 1) ≤ w_fi w2 (n_v vs 2) 10) → (v_iv (n_v vs 4) = (w_ei w2 (w_ar w2 (n_v vs 2) 1) (v_iv (n_v vs 3)) % 256)) := f10
  obtain ⟨f11, hf⟩ := fc_un (show (20 : Nat) < 100 from by decide) hf
  have f11 : (w_fi w2 (n_v vs 2) 10 ≤ v_iv (n_v vs 3)) → (v_iv (n_v vs 4) = (-1)) := f11
  obtain ⟨f12, hf⟩ := fc_un (show (9 : Nat) < 100 from by decide) hf
  have f12 : n_v vs 3 = w_fd w2 (v_ad (n_v vs 2)) 11 := f12
  obtain ⟨f13, hf⟩ := fc_un (show (20 : Nat) < 100 from by decide) hf
  have f13 : 1 * v_iv (n_v vs 1) + ((-1) * w_fi w2 (n_v vs 2) 11 + 0) ≤ 0 := f13
  obtain ⟨ta3, w3, le3, ⟨_, s3⟩, hf⟩ := fc_us (show ¬ (101 : Nat) < 100 from by decide) hf
  have s3 : (∀ b j, w_el w2 b j = w_el w3 b j) ∧ ∀ b j, w_fd w2 b j = if b = v_ad (n_v vs 2) ∧ j = 15 then n_v vs 3 else w_fd w3 b j := s3
  obtain ⟨f15, hf⟩ := fc_un (show (20 : Nat) < 100 from by decide) hf
  have f15 : 1 * v_iv (n_v vs 1) + ((-1) * w_fi w3 (n_v vs 2) 11 + 0) ≤ 0 := f15
  obtain ⟨ta4, w4, le4, ⟨_, s4⟩, hf⟩ := fc_us (show ¬ (101 : Nat) < 100 from by decide) hf
  have s4 : (∀ b j, w_el w3 b j = w_el w4 b j) ∧ ∀ b j, w_fd w3 b j = if b = v_ad (n_v vs 2) ∧ j = 13 then n_v vs 3 else w_fd w4 b j := s4
  obtain ⟨f17, hf⟩ := fc_un (show (20 : Nat) < 100 from by decide) hf
  have f17 : 1 * v_iv (n_v vs 1) + ((-1) * w_fi w4 (n_v vs 2) 11 + 0) ≤ 0 := f17
  have q2 : n_v vs 2 = n_v vs 0 := f4.symm
  rw [q2] at f1
  rw [q2] at f2
  rw [q2] at f3
  rw [q2] at s1
  rw [q2] at f6
  rw [q2] at f7
  rw [q2] at f8
  rw [q2] at s2
  rw [q2] at f10
  rw [q2] at f11
  rw [q2] at f12
  rw [q2] at f13
  rw [q2] at s3
  rw [q2] at f15
  rw [q2] at s4
  rw [q2] at f17
  have ar_0_1_1 : w_ar w1 (n_v vs 0) 1 = w_ar ws (n_v vs 0) 1 := by show v_ad (w_fd w1 _ _) = v_ad (w_fd ws _ _); rw [s1.2, if_neg (fun e => absurd e.2 (by decide))]
  have ar_0_1_2 : w_ar w2 (n_v vs 0) 1 = w_ar ws (n_v vs 0) 1 := by rw [← ar_0_1_1]; show v_ad (w_fd w2 _ _) = v_ad (w_fd w1 _ _); rw [s2.2, if_neg (fun e => absurd e.2 (by decide))]
  have ar_0_1_3 : w_ar w3 (n_v vs 0) 1 = w_ar ws (n_v vs 0) 1 := by rw [← ar_0_1_2]; show v_ad (w_fd w3 _ _) = v_ad (w_fd w2 _ _); rw [s3.2, if_neg (fun e => absurd e.2 (by decide))]
  have ar_0_1_4 : w_ar w4 (n_v vs 0) 1 = w_ar ws (n_v vs 0) 1 := by rw [← ar_0_1_3]; show v_ad (w_fd w4 _ _) = v_ad (w_fd w3 _ _); rw [s4.2, if_neg (fun e => absurd e.2 (by decide))]
  have cr_0_1 : ta (w_ar ws (n_v vs 0) 1) = some 151 := tv_rg (th_fd hD hth r0 (g := GG_150) rfl (k := 1) (t := (2, 0, 0, [151])) rfl rfl)
  rw [ar_0_1_1] at f6
  rw [ar_0_1_2] at f10
  have g12 : v_iv (n_v vs 3) = w_fi w2 (n_v vs 0) 11 := congrArg v_iv f12
  have fe_0_10_1 : w_fi ws (n_v vs 0) 10 = w_fi w1 (n_v vs 0) 10 := by show v_iv (w_fd _ _ _) = v_iv (w_fd _ _ _); rw [s1.2, if_neg (fun e => absurd e.2 (by decide))]
  have fe_0_11_1 : w_fi ws (n_v vs 0) 11 = w_fi w1 (n_v vs 0) 11 := by show v_iv (w_fd _ _ _) = v_iv (w_fd _ _ _); rw [s1.2, if_neg (fun e => absurd e.2 (by decide))]
  have fe_0_15_1 : w_fi ws (n_v vs 0) 15 = w_fi w1 (n_v vs 0) 15 := by show v_iv (w_fd _ _ _) = v_iv (w_fd _ _ _); rw [s1.2, if_neg (fun e => absurd e.2 (by decide))]
  have fe_0_10_2 : w_fi w1 (n_v vs 0) 10 = w_fi w2 (n_v vs 0) 10 := by show v_iv (w_fd _ _ _) = v_iv (w_fd _ _ _); rw [s2.2, if_neg (fun e => absurd e.2 (by decide))]
  have fe_0_11_2 : w_fi w1 (n_v vs 0) 11 = w_fi w2 (n_v vs 0) 11 := by show v_iv (w_fd _ _ _) = v_iv (w_fd _ _ _); rw [s2.2, if_neg (fun e => absurd e.2 (by decide))]
  have fe_0_15_2 : w_fi w1 (n_v vs 0) 15 = w_fi w2 (n_v vs 0) 15 := by show v_iv (w_fd _ _ _) = v_iv (w_fd _ _ _); rw [s2.2, if_neg (fun e => absurd e.2 (by decide))]
  have fe_0_10_3 : w_fi w2 (n_v vs 0) 10 = w_fi w3 (n_v vs 0) 10 := by show v_iv (w_fd _ _ _) = v_iv (w_fd _ _ _); rw [s3.2, if_neg (fun e => absurd e.2 (by decide))]
  have fe_0_11_3 : w_fi w2 (n_v vs 0) 11 = w_fi w3 (n_v vs 0) 11 := by show v_iv (w_fd _ _ _) = v_iv (w_fd _ _ _); rw [s3.2, if_neg (fun e => absurd e.2 (by decide))]
  have fe_0_15_3 : w_fi w2 (n_v vs 0) 15 = v_iv (n_v vs 3) := by show v_iv (w_fd _ _ _) = _; rw [s3.2, if_pos ⟨rfl, rfl⟩]
  have fe_0_10_4 : w_fi w3 (n_v vs 0) 10 = w_fi w4 (n_v vs 0) 10 := by show v_iv (w_fd _ _ _) = v_iv (w_fd _ _ _); rw [s4.2, if_neg (fun e => absurd e.2 (by decide))]
  have fe_0_11_4 : w_fi w3 (n_v vs 0) 11 = w_fi w4 (n_v vs 0) 11 := by show v_iv (w_fd _ _ _) = v_iv (w_fd _ _ _); rw [s4.2, if_neg (fun e => absurd e.2 (by decide))]
  have fe_0_15_4 : w_fi w3 (n_v vs 0) 15 = w_fi w4 (n_v vs 0) 15 := by show v_iv (w_fd _ _ _) = v_iv (w_fd _ _ _); rw [s4.2, if_neg (fun e => absurd e.2 (by decide))]
  have hE_0_1_1 : ∀ j : Int, w_ei ws (w_ar ws (n_v vs 0) 1) j = w_ei w1 (w_ar ws (n_v vs 0) 1) j := fun j => s1.1 _ _
  have hE_0_1_2 : ∀ j : Int, w_ei w1 (w_ar ws (n_v vs 0) 1) j = w_ei w2 (w_ar ws (n_v vs 0) 1) j := fun j => s2.1 _ _
  have hE_0_1_3 : ∀ j : Int, w_ei w2 (w_ar ws (n_v vs 0) 1) j = w_ei w3 (w_ar ws (n_v vs 0) 1) j := fun j => s3.1 _ _
  have hE_0_1_4 : ∀ j : Int, w_ei w3 (w_ar ws (n_v vs 0) 1) j = w_ei w4 (w_ar ws (n_v vs 0) 1) j := fun j => s4.1 _ _
  have hK_0_1 : ∀ j : Int, 0 ≤ j → j < 2000 → (-128) ≤ w_ei ws (w_ar ws (n_v vs 0) 1) j ∧ w_ei ws (w_ar ws (n_v vs 0) 1) j ≤ 127 := fun j h0 h1 => th_el hD hth cr_0_1 (kd := 1) (n := 2000) (m := 2000) (lo := (-128)) (hi := 127) (rs := []) (L := []) rfl (by decide) (j := j.toNat) (by omega)
  have kz_0_10 : 0 ≤ w_fi ws (n_v vs 0) 10 ∧ w_fi ws (n_v vs 0) 10 ≤ 2000 := tv_rng (th_fd hD hth r0 (g := GG_150) rfl (k := 10) (t := (0, 0, 2000, [])) rfl rfl)
  have kz_0_11 : 0 ≤ w_fi ws (n_v vs 0) 11 ∧ w_fi ws (n_v vs 0) 11 ≤ 2000 := tv_rng (th_fd hD hth r0 (g := GG_150) rfl (k := 11) (t := (0, 0, 2000, [])) rfl rfl)
  have kz_0_15 : 0 ≤ w_fi ws (n_v vs 0) 15 ∧ w_fi ws (n_v vs 0) 15 ≤ 2000 := tv_rng (th_fd hD hth r0 (g := GG_150) rfl (k := 15) (t := (0, 0, 2000, [])) rfl rfl)
  have nf0 : fc_1 (20, [1, 2], [30, 0, 1, 0, 0, -1, 1, 15]) ws (vs) := by
    refine ⟨fun n hn => ?_, ?_⟩
    · have hn : n ∈ [1, 2] := hn
      rw [hl]
      simp only [List.mem_cons, List.not_mem_nil, or_false] at hn
      show n < 8; omega
    · show 1 * v_iv (n_v vs 1) + ((-1) * w_fi ws (n_v vs 2) 15 + 0) ≤ 0
      rw [q2]
      omega
  have nf1 : fc_1 (20, [2], [50, 2, 0, 11, 15, 1, 3, 2, 0, 11, 2, 0, 15]) ws (vs) := by
    refine ⟨fun n hn => ?_, ?_⟩
    · have hn : n ∈ [2] := hn
      rw [hl]
      simp only [List.mem_cons, List.not_mem_nil, or_false] at hn
      show n < 8; omega
    · show w_fi ws (n_v vs 2) 11 = w_fi ws (n_v vs 2) 15
      rw [q2]
      first | omega | grind
  refine ⟨(fun _ h => (by cases h)), [], trivial, ?_, (fun _ h => (by cases h))⟩
  rw [List.append_nil]
  exact List.forall_mem_cons.mpr ⟨⟨show (20 : Nat) < 100 from by decide, nf0⟩, List.forall_mem_cons.mpr ⟨⟨show (20 : Nat) < 100 from by decide, nf1⟩, (fun _ h => (by cases h))⟩⟩
def o_Mo_next_11 : or_T := (93, 7, [(0, (2, 0, 0, [150])), (1, (0, 0, 2000, [])), (2, (2, 0, 0, [150])), (3, (0, 0, 1999, [])), (4, (0, 97, 122, []))], [(8, [4], [3]), (20, [3, 2, 4], [50, 1, 1, 1010, 1001, 4, 11, 0, 6, 4, 2, 1, 0, 0, 1, 2, 1, 10, 1, 2, 1, 2, 9, 5, 3, 1, 1, 1, 0, 0, 256]), (20, [2, 3, 4], [50, 1, 0, 10, 4, 7, 0, 3, 2, 0, 10, 1, 1, 1, 2, 1, 2, 0, -1]), (20, [1, 2], [30, 0, 1, 0, 0, -1, 1, 11]), (24, [0, 2], []), (101, [2, 4], [14]), (20, [3, 2, 4], [50, 1, 1, 1010, 1001, 4, 11, 0, 6, 4, 2, 1, 0, 0, 1, 2, 1, 10, 1, 2, 1, 2, 9, 5, 3, 1, 1, 1, 0, 0, 256]), (20, [2, 3, 4], [50, 1, 0, 10, 4, 7, 0, 3, 2, 0, 10, 1, 1, 1, 2, 1, 2, 0, -1]), (20, [1, 2], [30, 0, 1, 0, 0, -1, 1, 11]), (101, [2, 5], [12]), (20, [3, 2, 4], [50, 1, 1, 1010, 1001, 4, 11, 0, 6, 4, 2, 1, 0, 0, 1, 2, 1, 10, 1, 2, 1, 2, 9, 5, 3, 1, 1, 1, 0, 0, 256]), (20, [2, 3, 4], [50, 1, 0, 10, 4, 7, 0, 3, 2, 0, 10, 1, 1, 1, 2, 1, 2, 0, -1]), (9, [3, 2], [11]), (20, [1, 2], [30, 0, 1, 0, 0, -1, 1, 11]), (101, [2, 3], [15]), (20, [1, 2], [30, 0, 1, 0, 0, -1, 1, 11]), (101, [2, 3], [13]), (20, [1, 2], [30, 0, 1, 0, 0, -1, 1, 11])], [], [], [(20, [1, 2], [30, 0, 1, 0, 0, -1, 1, 15]), (20, [2], [50, 3, 1, 15, 11, 10, 1, 2, 8, 0, 3, 2, 0, 15, 2, 0, 11, 3, 12, 0, 7, 4, 3, 2, 0, 15, 0, 1, 2, 0, 11, 2, 8, 1, 3, 2, 0, 11, 2, 0, 15, 2, 12, 0, 7, 4, 3, 2, 0, 15, 0, 1, 2, 0, 10, 3, 30, 2, 14, 0, 2, 0, 65, 9, 6, 3, 0, 1, 2, 0, 15, 0, 256, 0, 10, 9, 6, 3, 0, 1, 2, 0, 15, 0, 256, 0, 90, 2, 14, 0, 2, 0, 97, 9, 6, 3, 0, 1, 2, 0, 15, 0, 256, 0, 10, 9, 6, 3, 0, 1, 2, 0, 15, 0, 256, 0, 122])], [], [(1, 3, -4294967296, 2000), (3, 1, -4294967296, 2000)])
theorem oo_Mo_next_11 {kA : Nat → ClassId} : or_ok kA GG o_Mo_next_11 := by
  intro A ta ws vs hD hth hl hk hds hf
  have hl : vs.length = 7 := hl
  have hk : ∀ q ∈ ([(0, (2, 0, 0, [150])), (1, (0, 0, 2000, [])), (2, (2, 0, 0, [150])), (3, (0, 0, 1999, [])), (4, (0, 97, 122, []))] : List (Nat × tv_T)), tv_ok ta q.2 (n_v vs q.1) := hk
  obtain ⟨t0, hk⟩ := List.forall_mem_cons.mp hk
  have t0 : tv_ok ta (2, 0, 0, [150]) (n_v vs 0) := t0
  have r0 : ta (v_ad (n_v vs 0)) = some 150 := tv_rg t0
  obtain ⟨t1, hk⟩ := List.forall_mem_cons.mp hk
  have t1 : tv_ok ta (0, 0, 2000, []) (n_v vs 1) := t1
  have k1 : 0 ≤ v_iv (n_v vs 1) ∧ v_iv (n_v vs 1) ≤ 2000 := tv_rng t1
  obtain ⟨t2, hk⟩ := List.forall_mem_cons.mp hk
  have t2 : tv_ok ta (2, 0, 0, [150]) (n_v vs 2) := t2
  have r2 : ta (v_ad (n_v vs 2)) = some 150 := tv_rg t2
  obtain ⟨t3, hk⟩ := List.forall_mem_cons.mp hk
  have t3 : tv_ok ta (0, 0, 1999, []) (n_v vs 3) := t3
  have k3 : 0 ≤ v_iv (n_v vs 3) ∧ v_iv (n_v vs 3) ≤ 1999 := tv_rng t3
  obtain ⟨t4, hk⟩ := List.forall_mem_cons.mp hk
  have t4 : tv_ok ta (0, 97, 122, []) (n_v vs 4) := t4
  have k4 : 97 ≤ v_iv (n_v vs 4) ∧ v_iv (n_v vs 4) ≤ 122 := tv_rng t4
  have hds : ∀ q ∈ ([(1, 3, -4294967296, 2000), (3, 1, -4294967296, 2000)] : List of_T), n_iv vs q.2.1 + q.2.2.1 ≤ n_iv vs q.1 ∧ n_iv vs q.1 ≤ n_iv vs q.2.1 + q.2.2.2 := hds
  obtain ⟨d0, hds⟩ := List.forall_mem_cons.mp hds
  have d0 : v_iv (n_v vs 3) + (-4294967296) ≤ v_iv (n_v vs 1) ∧ v_iv (n_v vs 1) ≤ v_iv (n_v vs 3) + 2000 := d0
  obtain ⟨d1, hds⟩ := List.forall_mem_cons.mp hds
  have d1 : v_iv (n_v vs 1) + (-4294967296) ≤ v_iv (n_v vs 3) ∧ v_iv (n_v vs 3) ≤ v_iv (n_v vs 1) + 2000 := d1
  have hf : fc_ok [(8, [4], [3]), (20, [3, 2, 4], [50, 1, 1, 1010, 1001, 4, 11, 0, 6, 4, 2, 1, 0, 0, 1, 2, 1, 10, 1, 2, 1, 2, 9, 5, 3, 1, 1, 1, 0, 0, 256]), (20, [2, 3, 4], [50, 1, 0, 10, 4, 7, 0, 3, 2, 0, 10, 1, 1, 1, 2, 1, 2, 0, -1]), (20, [1, 2], [30, 0, 1, 0, 0, -1, 1, 11]), (24, [0, 2], []), (101, [2, 4], [14]), (20, [3, 2, 4], [50, 1, 1, 1010, 1001, 4, 11, 0, 6, 4, 2, 1, 0, 0, 1, 2, 1, 10, 1, 2, 1, 2, 9, 5, 3, 1, 1, 1, 0, 0, 256]), (20, [2, 3, 4], [50, 1, 0, 10, 4, 7, 0, 3, 2, 0, 10, 1, 1, 1, 2, 1, 2, 0, -1]), (20, [1, 2], [30, 0, 1, 0, 0, -1, 1, 11]), (101, [2, 5], [12]), (20, [3, 2, 4], [50, 1, 1, 1010, 1001, 4, 11, 0, 6, 4, 2, 1, 0, 0, 1, 2, 1, 10, 1, 2, 1, 2, 9, 5, 3, 1, 1, 1, 0, 0, 256]), (20, [2, 3, 4], [50, 1, 0, 10, 4, 7, 0, 3, 2, 0, 10, 1, 1, 1, 2, 1, 2, 0, -1]), (9, [3, 2], [11]), (20, [1, 2], [30, 0, 1, 0, 0, -1, 1, 11]), (101, [2, 3], [15]), (20, [1, 2], [30, 0, 1, 0, 0, -1, 1, 11]), (101, [2, 3], [13]), (20, [1, 2], [30, 0, 1, 0, 0, -1, 1, 11])] ta ws vs := hf
  obtain ⟨f0, hf⟩ := fc_un (show (8 : Nat) < 100 from by decide) hf
  have f0 : 0 ≤ v_iv (n_v vs 4) := f0
  obtain ⟨f1, hf⟩ := fc_un (show (20 : Nat) < 100 from by decide) hf
  have f1 : ((v_iv (n_v vs 3) + 1) ≤ w_fi ws (n_v vs 2) 10) → (v_iv (n_v vs 4) = (w_ei ws (w_ar ws (n_v vs 2) 1) (v_iv (n_v vs 3)) % 256)) := f1
  obtain ⟨f2, hf⟩ := fc_un (show (20 : Nat) < 100 from by decide) hf
  have f2 : (w_fi ws (n_v vs 2) 10 ≤ v_iv (n_v vs 3)) → (v_iv (n_v vs 4) = (-1)) := f2
  obtain ⟨f3, hf⟩ := fc_un (show (20 : Nat) < 100 from by decide) hf
  have f3 : 1 * v_iv (n_v vs 1) + ((-1) * w_fi ws (n_v vs 2) 11 + 0) ≤ 0 := f3
  obtain ⟨f4, hf⟩ := fc_un (show (24 : Nat) < 100 from by decide) hf
  have f4 : n_v vs 0 = n_v vs 2 := f4
  obtain ⟨ta1, w1, le1, ⟨_, s1⟩, hf⟩ := fc_us (show ¬ (101 : Nat) < 100 from by decide) hf
  have s1 : (∀ b j, w_el ws b j = w_el w1 b j) ∧ ∀ b j, w_fd ws b j = if b = v_ad (n_v vs 2) ∧ j = 14 then n_v vs 4 else w_fd w1 b j := s1
  obtain ⟨f6, hf⟩ := fc_un (show (20 : Nat) < 100 from by decide) hf
  have f6 : ((v_iv (n_v vs 3) + 1) ≤ w_fi w1 (n_v vs 2) 10) → (v_iv (n_v vs 4) = (w_ei w1 (w_ar w1 (n_v vs 2) 1) (v_iv (n_v vs 3)) % 256)) := f6
  obtain ⟨f7, hf⟩ := fc_un (show (20 : Nat) < 100 from by decide) hf
  have f7 : (w_fi w1 (n_v vs 2) 10 ≤ v_iv (n_v vs 3)) → (v_iv (n_v vs 4) = (-1)) := f7
  obtain ⟨f8, hf⟩ := fc_un (show (20 : Nat) < 100 from by decide) hf
  have f8 : 1 * v_iv (n_v vs 1) + ((-1) * w_fi w1 (n_v vs 2) 11 + 0) ≤ 0 := f8
  obtain ⟨ta2, w2, le2, ⟨_, s2⟩, hf⟩ := fc_us (show ¬ (101 : Nat) < 100 from by decide) hf
  have s2 : (∀ b j, w_el w1 b j = w_el w2 b j) ∧ ∀ b j, w_fd w1 b j = if b = v_ad (n_v vs 2) ∧ j = 12 then n_v vs 5 else w_fd w2 b j := s2
  obtain ⟨f10, hf⟩ := fc_un (show (20 : Nat) < 100 from by decide) hf
  have f10 : ((v_iv (n_v vs 3) + 1) ≤ w_fi w2 (n_v vs 2) 10) → (v_iv (n_v vs 4) = (w_ei w2 (w_ar w2 (n_v vs 2) 1) (v_iv (n_v vs 3)) % 256)) := f10
  obtain ⟨f11, hf⟩ := fc_un (show (20 : Nat) < 100 from by decide) hf
  have f11 : (w_fi w2 (n_v vs 2) 10 ≤ v_iv (n_v vs 3)) → (v_iv (n_v vs 4) = (-1)) := f11
  obtain ⟨f12, hf⟩ := fc_un (show (9 : Nat) < 100 from by decide) hf
  have f12 : n_v vs 3 = w_fd w2 (v_ad (n_v vs 2)) 11 := f12
  obtain ⟨f13, hf⟩ := fc_un (show (20 : Nat) < 100 from by decide) hf
  have f13 : 1 * v_iv (n_v vs 1) + ((-1) * w_fi w2 (n_v vs 2) 11 + 0) ≤ 0 := f13
  obtain ⟨ta3, w3, le3, ⟨_, s3⟩, hf⟩ := fc_us (show ¬ (101 : Nat) < 100 from by decide) hf
  have s3 : (∀ b j, w_el w2 b j = w_el w3 b j) ∧ ∀ b j, w_fd w2 b j = if b = v_ad (n_v vs 2) ∧ j = 15 then n_v vs 3 else w_fd w3 b j := s3
  obtain ⟨f15, hf⟩ := fc_un (show (20 : Nat) < 100 from by decide) hf
  have f15 : 1 * v_iv (n_v vs 1) + ((-1) * w_fi w3 (n_v vs 2) 11 + 0) ≤ 0 := f15
  obtain ⟨ta4, w4, le4, ⟨_, s4⟩, hf⟩ := fc_us (show ¬ (101 : Nat) < 100 from by decide) hf
  have s4 : (∀ b j, w_el w3 b j = w_el w4 b j) ∧ ∀ b j, w_fd w3 b j = if b = v_ad (n_v vs 2) ∧ j = 13 then n_v vs 3 else w_fd w4 b j := s4
  obtain ⟨f17, hf⟩ := fc_un (show (20 : Nat) < 100 from by decide) hf
  have f17 : 1 * v_iv (n_v vs 1) + ((-1) * w_fi w4 (n_v vs 2) 11 + 0) ≤ 0 := f17
  have q2 : n_v vs 2 = n_v vs 0 := f4.symm
  rw [q2] at f1
  rw [q2] at f2
  rw [q2] at f3
  rw [q2] at s1
  rw [q2] at f6
  rw [q2] at f7
  rw [q2] at f8
  rw [q2] at s2
  rw [q2] at f10
  rw [q2] at f11
  rw [q2] at f12
  rw [q2] at f13
  rw [q2] at s3
  rw [q2] at f15
  rw [q2] at s4
  rw [q2] at f17
  have ar_0_1_1 : w_ar w1 (n_v vs 0) 1 = w_ar ws (n_v vs 0) 1 := by show v_ad (w_fd w1 _ _) = v_ad (w_fd ws _ _); rw [s1.2, if_neg (fun e => absurd e.2 (by decide))]
  have ar_0_1_2 : w_ar w2 (n_v vs 0) 1 = w_ar ws (n_v vs 0) 1 := by rw [← ar_0_1_1]; show v_ad (w_fd w2 _ _) = v_ad (w_fd w1 _ _); rw [s2.2, if_neg (fun e => absurd e.2 (by decide))]
  have ar_0_1_3 : w_ar w3 (n_v vs 0) 1 = w_ar ws (n_v vs 0) 1 := by rw [← ar_0_1_2]; show v_ad (w_fd w3 _ _) = v_ad (w_fd w2 _ _); rw [s3.2, if_neg (fun e => absurd e.2 (by decide))]
  have ar_0_1_4 : w_ar w4 (n_v vs 0) 1 = w_ar ws (n_v vs 0) 1 := by rw [← ar_0_1_3]; show v_ad (w_fd w4 _ _) = v_ad (w_fd w3 _ _); rw [s4.2, if_neg (fun e => absurd e.2 (by decide))]
  have cr_0_1 : ta (w_ar ws (n_v vs 0) 1) = some 151 := tv_rg (th_fd hD hth r0 (g := GG_150) rfl (k := 1) (t := (2, 0, 0, [151])) rfl rfl)
  rw [ar_0_1_1] at f6
  rw [ar_0_1_2] at f10
  have g12 : v_iv (n_v vs 3) = w_fi w2 (n_v vs 0) 11 := congrArg v_iv f12
  have fe_0_10_1 : w_fi ws (n_v vs 0) 10 = w_fi w1 (n_v vs 0) 10 := by show v_iv (w_fd _ _ _) = v_iv (w_fd _ _ _); rw [s1.2, if_neg (fun e => absurd e.2 (by decide))]
  have fe_0_11_1 : w_fi ws (n_v vs 0) 11 = w_fi w1 (n_v vs 0) 11 := by show v_iv (w_fd _ _ _) = v_iv (w_fd _ _ _); rw [s1.2, if_neg (fun e => absurd e.2 (by decide))]
  have fe_0_15_1 : w_fi ws (n_v vs 0) 15 = w_fi w1 (n_v vs 0) 15 := by show v_iv (w_fd _ _ _) = v_iv (w_fd _ _ _); rw [s1.2, if_neg (fun e => absurd e.2 (by decide))]
  have fe_0_10_2 : w_fi w1 (n_v vs 0) 10 = w_fi w2 (n_v vs 0) 10 := by show v_iv (w_fd _ _ _) = v_iv (w_fd _ _ _); rw [s2.2, if_neg (fun e => absurd e.2 (by decide))]
  have fe_0_11_2 : w_fi w1 (n_v vs 0) 11 = w_fi w2 (n_v vs 0) 11 := by show v_iv (w_fd _ _ _) = v_iv (w_fd _ _ _); rw [s2.2, if_neg (fun e => absurd e.2 (by decide))]
  have fe_0_15_2 : w_fi w1 (n_v vs 0) 15 = w_fi w2 (n_v vs 0) 15 := by show v_iv (w_fd _ _ _) = v_iv (w_fd _ _ _); rw [s2.2, if_neg (fun e => absurd e.2 (by decide))]
  have fe_0_10_3 : w_fi w2 (n_v vs 0) 10 = w_fi w3 (n_v vs 0) 10 := by show v_iv (w_fd _ _ _) = v_iv (w_fd _ _ _); rw [s3.2, if_neg (fun e => absurd e.2 (by decide))]
  have fe_0_11_3 : w_fi w2 (n_v vs 0) 11 = w_fi w3 (n_v vs 0) 11 := by show v_iv (w_fd _ _ _) = v_iv (w_fd _ _ _); rw [s3.2, if_neg (fun e => absurd e.2 (by decide))]
  have fe_0_15_3 : w_fi w2 (n_v vs 0) 15 = v_iv (n_v vs 3) := by show v_iv (w_fd _ _ _) = _; rw [s3.2, if_pos ⟨rfl, rfl⟩]
  have fe_0_10_4 : w_fi w3 (n_v vs 0) 10 = w_fi w4 (n_v vs 0) 10 := by show v_iv (w_fd _ _ _) = v_iv (w_fd _ _ _); rw [s4.2, if_neg (fun e => absurd e.2 (by decide))]
  have fe_0_11_4 : w_fi w3 (n_v vs 0) 11 = w_fi w4 (n_v vs 0) 11 := by show v_iv (w_fd _ _ _) = v_iv (w_fd _ _ _); rw [s4.2, if_neg (fun e => absurd e.2 (by decide))]
  have fe_0_15_4 : w_fi w3 (n_v vs 0) 15 = w_fi w4 (n_v vs 0) 15 := by show v_iv (w_fd _ _ _) = v_iv (w_fd _ _ _); rw [s4.2, if_neg (fun e => absurd e.2 (by decide))]
  have hE_0_1_1 : ∀ j : Int, w_ei ws (w_ar ws (n_v vs 0) 1) j = w_ei w1 (w_ar ws (n_v vs 0) 1) j := fun j => s1.1 _ _
  have hE_0_1_2 : ∀ j : Int, w_ei w1 (w_ar ws (n_v vs 0) 1) j = w_ei w2 (w_ar ws (n_v vs 0) 1) j := fun j => s2.1 _ _
  have hE_0_1_3 : ∀ j : Int, w_ei w2 (w_ar ws (n_v vs 0) 1) j = w_ei w3 (w_ar ws (n_v vs 0) 1) j := fun j => s3.1 _ _
  have hE_0_1_4 : ∀ j : Int, w_ei w3 (w_ar ws (n_v vs 0) 1) j = w_ei w4 (w_ar ws (n_v vs 0) 1) j := fun j => s4.1 _ _
  have hK_0_1 : ∀ j : Int, 0 ≤ j → j < 2000 → (-128) ≤ w_ei ws (w_ar ws (n_v vs 0) 1) j ∧ w_ei ws (w_ar ws (n_v vs 0) 1) j ≤ 127 := fun j h0 h1 => th_el hD hth cr_0_1 (kd := 1) (n := 2000) (m := 2000) (lo := (-128)) (hi := 127) (rs := []) (L := []) rfl (by decide) (j := j.toNat) (by omega)
  have kz_0_10 : 0 ≤ w_fi ws (n_v vs 0) 10 ∧ w_fi ws (n_v vs 0) 10 ≤ 2000 := tv_rng (th_fd hD hth r0 (g := GG_150) rfl (k := 10) (t := (0, 0, 2000, [])) rfl rfl)
  have kz_0_11 : 0 ≤ w_fi ws (n_v vs 0) 11 ∧ w_fi ws (n_v vs 0) 11 ≤ 2000 := tv_rng (th_fd hD hth r0 (g := GG_150) rfl (k := 11) (t := (0, 0, 2000, [])) rfl rfl)
  have kz_0_15 : 0 ≤ w_fi ws (n_v vs 0) 15 ∧ w_fi ws (n_v vs 0) 15 ≤ 2000 := tv_rng (th_fd hD hth r0 (g := GG_150) rfl (k := 15) (t := (0, 0, 2000, [])) rfl rfl)
  have nf0 : fc_1 (20, [1, 2], [30, 0, 1, 0, 0, -1, 1, 15]) ws (vs) := by
    refine ⟨fun n hn => ?_, ?_⟩
    · have hn : n ∈ [1, 2] := hn
      rw [hl]
      simp only [List.mem_cons, List.not_mem_nil, or_false] at hn
      show n < 7; omega
    · show 1 * v_iv (n_v vs 1) + ((-1) * w_fi ws (n_v vs 2) 15 + 0) ≤ 0
      rw [q2]
      omega
  have nf1 : fc_1 (20, [2], [50, 3, 1, 15, 11, 10, 1, 2, 8, 0, 3, 2, 0, 15, 2, 0, 11, 3, 12, 0, 7, 4, 3, 2, 0, 15, 0, 1, 2, 0, 11, 2, 8, 1, 3, 2, 0, 11, 2, 0, 15, 2, 12, 0, 7, 4, 3, 2, 0, 15, 0, 1, 2, 0, 10, 3, 30, 2, 14, 0, 2, 0, 65, 9, 6, 3, 0, 1, 2, 0, 15, 0, 256, 0, 10, 9, 6, 3, 0, 1, 2, 0, 15, 0, 256, 0, 90, 2, 14, 0, 2, 0, 97, 9, 6, 3, 0, 1, 2, 0, 15, 0, 256, 0, 10, 9, 6, 3, 0, 1, 2, 0, 15, 0, 256, 0, 122]) ws (vs) := by
    refine ⟨fun n hn => ?_, ?_⟩
    · have hn : n ∈ [2] := hn
      rw [hl]
      simp only [List.mem_cons, List.not_mem_nil, or_false] at hn
      show n < 7; omega
    · show (w_fi ws (n_v vs 2) 15 ≤ w_fi ws (n_v vs 2) 11) ∧ (((w_fi ws (n_v vs 2) 15 + 1) ≤ w_fi ws (n_v vs 2) 11) ∨ ((w_fi ws (n_v vs 2) 11 = w_fi ws (n_v vs 2) 15) ∧ (((w_fi ws (n_v vs 2) 15 + 1) ≤ w_fi ws (n_v vs 2) 10) ∧ (((65 ≤ (w_ei ws (w_ar ws (n_v vs 2) 1) (w_fi ws (n_v vs 2) 15) % 256)) ∧ ((w_ei ws (w_ar ws (n_v vs 2) 1) (w_fi ws (n_v vs 2) 15) % 256) ≤ 90)) ∨ ((97 ≤ (w_ei ws (w_ar ws (n_v vs 2) 1) (w_fi ws (n_v vs 2) 15) % 256)) ∧ ((w_ei ws (w_ar ws (n_v vs 2) 1) (w_fi ws (n_v vs 2) 15) % 256) ≤ 122))))))
      rw [q2]
      first | omega | grind
  refine ⟨(fun _ h => (by cases h)), [], trivial, ?_, (fun _ h => (by cases h))⟩
  rw [List.append_nil]
  exact List.forall_mem_cons.mpr ⟨⟨show (20 : Nat) < 100 from by decide, nf0⟩, List.forall_mem_cons.mpr ⟨⟨show (20 : Nat) < 100 from by decide, nf1⟩, (fun _ h => (by cases h))⟩⟩
def o_Mo_next_12 : or_T := (147, 11, [(0, (2, 0, 0, [150])), (1, (0, 0, 2000, [])), (2, (2, 0, 0, [150])), (4, (0, 0, 2000, [])), (5, (0, -1, -1, [])), (7, (0, -1, -1, [])), (9, (0, -1, -1, [])), (10, (0, 95, 95, []))], [(7, [9, 10], [1]), (20, [4, 2, 9], [50, 1, 1, 1010, 1001, 4, 11, 0, 6, 4, 2, 1, 0, 0, 1, 2, 1, 10, 1, 2, 1, 2, 9, 5, 3, 1, 1, 1, 0, 0, 256]), (20, [2, 4, 9], [50, 1, 0, 10, 4, 7, 0, 3, 2, 0, 10, 1, 1, 1, 2, 1, 2, 0, -1]), (9, [4, 2], [11]), (20, [4, 2, 7], [50, 1, 1, 1010, 1001, 4, 11, 0, 6, 4, 2, 1, 0, 0, 1, 2, 1, 10, 1, 2, 1, 2, 9, 5, 3, 1, 1, 1, 0, 0, 256]), (20, [2, 4, 7], [50, 1, 0, 10, 4, 7, 0, 3, 2, 0, 10, 1, 1, 1, 2, 1, 2, 0, -1]), (20, [4, 2, 5], [50, 1, 1, 1010, 1001, 4, 11, 0, 6, 4, 2, 1, 0, 0, 1, 2, 1, 10, 1, 2, 1, 2, 9, 5, 3, 1, 1, 1, 0, 0, 256]), (20, [2, 4, 5], [50, 1, 0, 10, 4, 7, 0, 3, 2, 0, 10, 1, 1, 1, 2, 1, 2, 0, -1]), (20, [1, 2], [30, 0, 1, 0, 0, -1, 1, 15]), (20, [2], [50, 3, 1, 15, 11, 10, 1, 2, 8, 0, 3, 2, 0, 15, 2, 0, 11, 3, 12, 0, 7, 4, 3, 2, 0, 15, 0, 1, 2, 0, 11, 2, 8, 1, 3, 2, 0, 11, 2, 0, 15, 2, 12, 0, 7, 4, 3, 2, 0, 15, 0, 1, 2, 0, 10, 3, 30, 2, 14, 0, 2, 0, 65, 9, 6, 3, 0, 1, 2, 0, 15, 0, 256, 0, 10, 9, 6, 3, 0, 1, 2, 0, 15, 0, 256, 0, 90, 2, 14, 0, 2, 0, 97, 9, 6, 3, 0, 1, 2, 0, 15, 0, 256, 0, 10, 9, 6, 3, 0, 1, 2, 0, 15, 0, 256, 0, 122]), (24, [0, 2], [])], [], [], [(20, [2], [50, 2, 0, 15, 11, 0, 7, 4, 3, 2, 0, 15, 0, 1, 2, 0, 11])], [], [(1, 4, -4294967296, 2000), (4, 1, -4294967296, 2000)])
theorem oo_Mo_next_12 {kA : Nat → ClassId} : or_ok kA GG o_Mo_next_12 := by
  intro A ta ws vs hD hth hl hk hds hf
  have hl : vs.length = 11 := hl
  have hk : ∀ q ∈ ([(0, (2, 0, 0, [150])), (1, (0, 0, 2000, [])), (2, (2, 0, 0, [150])), (4, (0, 0, 2000, [])), (5, (0, -1, -1, [])), (7, (0, -1, -1, [])), (9, (0, -1, -1, [])), (10, (0, 95, 95, []))] : List (Nat × tv_T)), tv_ok ta q.2 (n_v vs q.1) := hk
  obtain ⟨t0, hk⟩ := List.forall_mem_cons.mp hk
  have t0 : tv_ok ta (2, 0, 0, [150]) (n_v vs 0) := t0
  have r0 : ta (v_ad (n_v vs 0)) = some 150 := tv_rg t0
  obtain ⟨t1, hk⟩ := List.forall_mem_cons.mp hk
  have t1 : tv_ok ta (0, 0, 2000, []) (n_v vs 1) := t1
  have k1 : 0 ≤ v_iv (n_v vs 1) ∧ v_iv (n_v vs 1) ≤ 2000 := tv_rng t1
  obtain ⟨t2, hk⟩ := List.forall_mem_cons.mp hk
  have t2 : tv_ok ta (2, 0, 0, [150]) (n_v vs 2) := t2
  have r2 : ta (v_ad (n_v vs 2)) = some 150 := tv_rg t2
  obtain ⟨t4, hk⟩ := List.forall_mem_cons.mp hk
  have t4 : tv_ok ta (0, 0, 2000, []) (n_v vs 4) := t4
  have k4 : 0 ≤ v_iv (n_v vs 4) ∧ v_iv (n_v vs 4) ≤ 2000 := tv_rng t4
  obtain ⟨t5, hk⟩ := List.forall_mem_cons.mp hk
  have t5 : tv_ok ta (0, -1, -1, []) (n_v vs 5) := t5
  have k5 : (-1) ≤ v_iv (n_v vs 5) ∧ v_iv (n_v vs 5) ≤ (-1) := tv_rng t5
  obtain ⟨t7, hk⟩ := List.forall_mem_cons.mp hk
  have t7 : tv_ok ta (0, -1, -1, []) (n_v vs 7) := t7
  have k7 : (-1) ≤ v_iv (n_v vs 7) ∧ v_iv (n_v vs 7) ≤ (-1) := tv_rng t7
  obtain ⟨t9, hk⟩ := List.forall_mem_cons.mp hk
  have t9 : tv_ok ta (0, -1, -1, []) (n_v vs 9) := t9
  have k9 : (-1) ≤ v_iv (n_v vs 9) ∧ v_iv (n_v vs 9) ≤ (-1) := tv_rng t9
  obtain ⟨t10, hk⟩ := List.forall_mem_cons.mp hk
  have t10 : tv_ok ta (0, 95, 95, []) (n_v vs 10) := t10
  have k10 : 95 ≤ v_iv (n_v vs 10) ∧ v_iv (n_v vs 10) ≤ 95 := tv_rng t10
  have hds : ∀ q ∈ ([(1, 4, -4294967296, 2000), (4, 1, -4294967296, 2000)] : List of_T), n_iv vs q.2.1 + q.2.2.1 ≤ n_iv vs q.1 ∧ n_iv vs q.1 ≤ n_iv vs q.2.1 + q.2.2.2 := hds
  obtain ⟨d0, hds⟩ := List.forall_mem_cons.mp hds
  have d0 : v_iv (n_v vs 4) + (-4294967296) ≤ v_iv (n_v vs 1) ∧ v_iv (n_v vs 1) ≤ v_iv (n_v vs 4) + 2000 := d0
  obtain ⟨d1, hds⟩ := List.forall_mem_cons.mp hds
  have d1 : v_iv (n_v vs 1) + (-4294967296) ≤ v_iv (n_v vs 4) ∧ v_iv (n_v vs 4) ≤ v_iv (n_v vs 1) + 2000 := d1
  have hf : fc_ok [(7, [9, 10], [1]), (20, [4, 2, 9], [50, 1, 1, 1010, 1001, 4, 11, 0, 6, 4, 2, 1, 0, 0, 1, 2, 1, 10, 1, 2, 1, 2, 9, 5, 3, 1, 1, 1, 0, 0, 256]), (20, [2, 4, 9], [50, 1, 0, 10, 4, 7, 0, 3, 2, 0, 10, 1, 1, 1, 2, 1, 2, 0, -1]), (9, [4, 2], [11]), (20, [4, 2, 7], [50, 1, 1, 1010, 1001, 4, 11, 0, 6, 4, 2, 1, 0, 0, 1, 2, 1, 10, 1, 2, 1, 2, 9, 5, 3, 1, 1, 1, 0, 0, 256]), (20, [2, 4, 7], [50, 1, 0, 10, 4, 7, 0, 3, 2, 0, 10, 1, 1, 1, 2, 1, 2, 0, -1]), (20, [4, 2, 5], [50, 1, 1, 1010, 1001, 4, 11, 0, 6, 4, 2, 1, 0, 0, 1, 2, 1, 10, 1, 2, 1, 2, 9, 5, 3, 1, 1, 1, 0, 0, 256]), (20, [2, 4, 5], [50, 1, 0, 10, 4, 7, 0, 3, 2, 0, 10, 1, 1, 1, 2, 1, 2, 0, -1]), (20, [1, 2], [30, 0, 1, 0, 0, -1, 1, 15]), (20, [2], [50, 3, 1, 15, 11, 10, 1, 2, 8, 0, 3, 2, 0, 15, 2, 0, 11, 3, 12, 0, 7, 4, 3, 2, 0, 15, 0, 1, 2, 0, 11, 2, 8, 1, 3, 2, 0, 11, 2, 0, 15, 2, 12, 0, 7, 4, 3, 2, 0, 15, 0, 1, 2, 0, 10, 3, 30, 2, 14, 0, 2, 0, 65, 9, 6, 3, 0, 1, 2, 0, 15, 0, 256, 0, 10, 9, 6, 3, 0, 1, 2, 0, 15, 0, 256, 0, 90, 2, 14, 0, 2, 0, 97, 9, 6, 3, 0, 1, 2, 0, 15, 0, 256, 0, 10, 9, 6, 3, 0, 1, 2, 0, 15, 0, 256, 0, 122]), (24, [0, 2], [])] ta ws vs := hf
  obtain ⟨f0, hf⟩ := fc_un (show (7 : Nat) < 100 from by decide) hf
  have f0 : v_iv (n_v vs 9) ≠ v_iv (n_v vs 10) := f0
  obtain ⟨f1, hf⟩ := fc_un (show (20 : Nat) < 100 from by decide) hf
  have f1 : ((v_iv (n_v vs 4) + 1) ≤ w_fi ws (n_v vs 2) 10) → (v_iv (n_v vs 9) = (w_ei ws (w_ar ws (n_v vs 2) 1) (v_iv (n_v vs 4)) % 256)) := f1
  obtain ⟨f2, hf⟩ := fc_un (show (20 : Nat) < 100 from by decide) hf
  have f2 : (w_fi ws (n_v vs 2) 10 ≤ v_iv (n_v vs 4)) → (v_iv (n_v vs 9) = (-1)) := f2
  obtain ⟨f3, hf⟩ := fc_un (show (9 : Nat) < 100 from by decide) hf
  have f3 : n_v vs 4 = w_fd ws (v_ad (n_v vs 2)) 11 := f3
  obtain ⟨f4, hf⟩ := fc_un (show (20 : Nat) < 100 from by decide) hf
  have f4 : ((v_iv (n_v vs 4) + 1) ≤ w_fi ws (n_v vs 2) 10) → (v_iv (n_v vs 7) = (w_ei ws (w_ar ws (n_v vs 2) 1) (v_iv (n_v vs 4)) % 256)) := f4
  obtain ⟨f5, hf⟩ := fc_un (show (20 : Nat) < 100 from by decide) hf
  have f5 : (w_fi ws (n_v vs 2) 10 ≤ v_iv (n_v vs 4)) → (v_iv (n_v vs 7) = (-1)) := f5
  obtain ⟨f6, hf⟩ := fc_un (show (20 : Nat) < 100 from by decide) hf
  have f6 : ((v_iv (n_v vs 4) + 1) ≤ w_fi ws (n_v vs 2) 10) → (v_iv (n_v vs 5) = (w_ei ws (w_ar ws (n_v vs 2) 1) (v_iv (n_v vs 4)) % 256)) := f6
  obtain ⟨f7, hf⟩ := fc_un (show (20 : Nat) < 100 from by decide) hf
  have f7 : (w_fi ws (n_v vs 2) 10 ≤ v_iv (n_v vs 4)) → (v_iv (n_v vs 5) = (-1)) := f7
  obtain ⟨f8, hf⟩ := fc_un (show (20 : Nat) < 100 from by decide) hf
  have f8 : 1 * v_iv (n_v vs 1) + ((-1) * w_fi ws (n_v vs 2) 15 + 0) ≤ 0 := f8
  obtain ⟨f9, hf⟩ := fc_un (show (20 : Nat) < 100 from by decide) hf
  have f9 : (w_fi ws (n_v vs 2) 15 ≤ w_fi ws (n_v vs 2) 11) ∧ (((w_fi ws (n_v vs 2) 15 + 1) ≤ w_fi ws (n_v vs 2) 11) ∨ ((w_fi ws (n_v vs 2) 11 = w_fi ws (n_v vs 2) 15) ∧ (((w_fi ws (n_v vs 2) 15 + 1) ≤ w_fi ws (n_v vs 2) 10) ∧ (((65 ≤ (w_ei ws (w_ar ws (n_v vs 2) 1) (w_fi ws (n_v vs 2) 15) % 256)) ∧ ((w_ei ws (w_ar ws (n_v vs 2) 1) (w_fi ws (n_v vs 2) 15) % 256) ≤ 90)) ∨ ((97 ≤ (w_ei ws (w_ar ws (n_v vs 2) 1) (w_fi ws (n_v vs 2) 15) % 256)) ∧ ((w_ei ws (w_ar ws (n_v vs 2) 1) (w_fi ws (n_v vs 2) 15) % 256) ≤ 122)))))) := f9
  obtain ⟨f10, hf⟩ := fc_un (show (24 : Nat) < 100 from by decide) hf
  have f10 : n_v vs 0 = n_v vs 2 := f10
  have q2 : n_v vs 2 = n_v vs 0 := f10.symm
  rw [q2] at f1
  rw [q2] at f2
  rw [q2] at f3
  rw [q2] at f4
  rw [q2] at f5
  rw [q2] at f6
  rw [q2] at f7
  rw [q2] at f8
  rw [q2] at f9
  have cr_0_1 : ta (w_ar ws (n_v vs 0) 1) = some 151 := tv_rg (th_fd hD hth r0 (g := GG_150) rfl (k := 1) (t := (2, 0, 0, [151])) rfl rfl)
  have g3 : v_iv (n_v vs 4) = w_fi ws (n_v vs 0) 11 := congrArg v_iv f3
  have hK_0_1 : ∀ j : Int, 0 ≤ j → j < 2000 → (-128) ≤ w_ei ws (w_ar ws (n_v vs 0) 1) j ∧ w_ei ws (w_ar ws (n_v vs 0) 1) j ≤ 127 := fun j h0 h1 => th_el hD hth cr_0_1 (kd := 1) (n := 2000) (m := 2000) (lo := (-128)) (hi := 127) (rs := []) (L := []) rfl (by decide) (j := j.toNat) (by omega)
  have kz_0_10 : 0 ≤ w_fi ws (n_v vs 0) 10 ∧ w_fi ws (n_v vs 0) 10 ≤ 2000 := tv_rng (th_fd hD hth r0 (g := GG_150) rfl (k := 10) (t := (0, 0, 2000, [])) rfl rfl)
  have kz_0_11 : 0 ≤ w_fi ws (n_v vs 0) 11 ∧ w_fi ws (n_v vs 0) 11 ≤ 2000 := tv_rng (th_fd hD hth r0 (g := GG_150) rfl (k := 11) (t := (0, 0, 2000, [])) rfl rfl)
  have kz_0_15 : 0 ≤ w_fi ws (n_v vs 0) 15 ∧ w_fi ws (n_v vs 0) 15 ≤ 2000 := tv_rng (th_fd hD hth r0 (g := GG_150) rfl (k := 15) (t := (0, 0, 2000, [])) rfl rfl)
  have nf0 : fc_1 (20, [2], [50, 2, 0, 15, 11, 0, 7, 4, 3, 2, 0, 15, 0, 1, 2, 0, 11]) ws (vs) := by
    refine ⟨fun n hn => ?_, ?_⟩
    · have hn : n ∈ [2] := hn
      rw [hl]
      simp only [List.mem_cons, List.not_mem_nil, or_false] at hn
      show n < 11; omega
    · show (w_fi ws (n_v vs 2) 15 + 1) ≤ w_fi ws (n_v vs 2) 11
      rw [q2]
      first | omega | grind
  refine ⟨(fun _ h => (by cases h)), [], trivial, ?_, (fun _ h => (by cases h))⟩
  rw [List.append_nil]
  exact List.forall_mem_cons.mpr ⟨⟨show (20 : Nat) < 100 from by decide, nf0⟩, (fun _ h => (by cases h))⟩
def o_Mo_next_13 : or_T := (147, 11, [(0, (2, 0, 0, [150])), (1, (0, 0, 2000, [])), (2, (2, 0, 0, [150])), (4, (0, 0, 1999, [])), (5, (0, -1, -1, [])), (7, (0, -1, -1, [])), (9, (0, 0, 255, [])), (10, (0, 95, 95, []))], [(7, [9, 10], [1]), (20, [4, 2, 9], [50, 1, 1, 1010, 1001, 4, 11, 0, 6, 4, 2, 1, 0, 0, 1, 2, 1, 10, 1, 2, 1, 2, 9, 5, 3, 1, 1, 1, 0, 0, 256]), (20, [2, 4, 9], [50, 1, 0, 10, 4, 7, 0, 3, 2, 0, 10, 1, 1, 1, 2, 1, 2, 0, -1]), (9, [4, 2], [11]), (20, [4, 2, 7], [50, 1, 1, 1010, 1001, 4, 11, 0, 6, 4, 2, 1, 0, 0, 1, 2, 1, 10, 1, 2, 1, 2, 9, 5, 3, 1, 1, 1, 0, 0, 256]), (20, [2, 4, 7], [50, 1, 0, 10, 4, 7, 0, 3, 2, 0, 10, 1, 1, 1, 2, 1, 2, 0, -1]), (20, [4, 2, 5], [50, 1, 1, 1010, 1001, 4, 11, 0, 6, 4, 2, 1, 0, 0, 1, 2, 1, 10, 1, 2, 1, 2, 9, 5, 3, 1, 1, 1, 0, 0, 256]), (20, [2, 4, 5], [50, 1, 0, 10, 4, 7, 0, 3, 2, 0, 10, 1, 1, 1, 2, 1, 2, 0, -1]), (20, [1, 2], [30, 0, 1, 0, 0, -1, 1, 15]), (20, [2], [50, 3, 1, 15, 11, 10, 1, 2, 8, 0, 3, 2, 0, 15, 2, 0, 11, 3, 12, 0, 7, 4, 3, 2, 0, 15, 0, 1, 2, 0, 11, 2, 8, 1, 3, 2, 0, 11, 2, 0, 15, 2, 12, 0, 7, 4, 3, 2, 0, 15, 0, 1, 2, 0, 10, 3, 30, 2, 14, 0, 2, 0, 65, 9, 6, 3, 0, 1, 2, 0, 15, 0, 256, 0, 10, 9, 6, 3, 0, 1, 2, 0, 15, 0, 256, 0, 90, 2, 14, 0, 2, 0, 97, 9, 6, 3, 0, 1, 2, 0, 15, 0, 256, 0, 10, 9, 6, 3, 0, 1, 2, 0, 15, 0, 256, 0, 122]), (24, [0, 2], [])], [], [], [(20, [2], [50, 2, 0, 15, 11, 0, 7, 4, 3, 2, 0, 15, 0, 1, 2, 0, 11])], [], [(1, 4, -4294967296, 2000), (4, 1, -4294967296, 2000)])
theorem oo_Mo_next_13 {kA : Nat → ClassId} : or_ok kA GG o_Mo_next_13 := by
  intro A ta ws vs hD hth hl hk hds hf
  have hl : vs.length = 11 := hl
  have hk : ∀ q ∈ ([(0, (2, 0, 0, [150])), (1, (0, 0, 2000, [])), (2, (2, 0, 0, [150])), (4, (0, 0, 1999, [])), (5, (0, -1, -1, [])), (7, (0, -1, -1, [])), (9, (0, 0, 255, [])), (10, (0, 95, 95, []))] : List (Nat × tv_T)), tv_ok ta q.2 (n_v vs q.1) := hk
  obtain ⟨t0, hk⟩ := List.forall_mem_cons.mp hk
  have t0 : tv_ok ta (2, 0, 0, [150]) (n_v vs 0) := t0
  have r0 : ta (v_ad (n_v vs 0)) = some 150 := tv_rg t0
  obtain ⟨t1, hk⟩ := List.forall_mem_cons.mp hk
  have t1 : tv_ok ta (0, 0, 2000, []) (n_v vs 1) := t1
  have k1 : 0 ≤ v_iv (n_v vs 1) ∧ v_iv (n_v vs 1) ≤ 2000 := tv_rng t1
  obtain ⟨t2, hk⟩ := List.forall_mem_cons.mp hk
  have t2 : tv_ok ta (2, 0, 0, [150]) (n_v vs 2) := t2
  have r2 : ta (v_ad (n_v vs 2)) = some 150 := tv_rg t2
  obtain ⟨t4, hk⟩ := List.forall_mem_cons.mp hk
  have t4 : tv_ok ta (0, 0, 1999, []) (n_v vs 4) := t4
  have k4 : 0 ≤ v_iv (n_v vs 4) ∧ v_iv (n_v vs 4) ≤ 1999 := tv_rng t4
  obtain ⟨t5, hk⟩ := List.forall_mem_cons.mp hk
  have t5 : tv_ok ta (0, -1, -1, []) (n_v vs 5) := t5
  have k5 : (-1) ≤ v_iv (n_v vs 5) ∧ v_iv (n_v vs 5) ≤ (-1) := tv_rng t5
  obtain ⟨t7, hk⟩ := List.forall_mem_cons.mp hk
  have t7 : tv_ok ta (0, -1, -1, []) (n_v vs 7) := t7
  have k7 : (-1) ≤ v_iv (n_v vs 7) ∧ v_iv (n_v vs 7) ≤ (-1) := tv_rng t7
  obtain ⟨t9, hk⟩ := List.forall_mem_cons.mp hk
  have t9 : tv_ok ta (0, 0, 255, []) (n_v vs 9) := t9
  have k9 : 0 ≤ v_iv (n_v vs 9) ∧ v_iv (n_v vs 9) ≤ 255 := tv_rng t9
  obtain ⟨t10, hk⟩ := List.forall_mem_cons.mp hk
  have t10 : tv_ok ta (0, 95, 95, []) (n_v vs 10) := t10
  have k10 : 95 ≤ v_iv (n_v vs 10) ∧ v_iv (n_v vs 10) ≤ 95 := tv_rng t10
  have hds : ∀ q ∈ ([(1, 4, -4294967296, 2000), (4, 1, -4294967296, 2000)] : List of_T), n_iv vs q.2.1 + q.2.2.1 ≤ n_iv vs q.1 ∧ n_iv vs q.1 ≤ n_iv vs q.2.1 + q.2.2.2 := hds
  obtain ⟨d0, hds⟩ := List.forall_mem_cons.mp hds
  have d0 : v_iv (n_v vs 4) + (-4294967296) ≤ v_iv (n_v vs 1) ∧ v_iv (n_v vs 1) ≤ v_iv (n_v vs 4) + 2000 := d0
  obtain ⟨d1, hds⟩ := List.forall_mem_cons.mp hds
  have d1 : v_iv (n_v vs 1) + (-4294967296) ≤ v_iv (n_v vs 4) ∧ v_iv (n_v vs 4) ≤ v_iv (n_v vs 1) + 2000 := d1
  have hf : fc_ok [(7, [9, 10], [1]), (20, [4, 2, 9], [50, 1, 1, 1010, 1001, 4, 11, 0, 6, 4, 2, 1, 0, 0, 1, 2, 1, 10, 1, 2, 1, 2, 9, 5, 3, 1, 1, 1, 0, 0, 256]), (20, [2, 4, 9], [50, 1, 0, 10, 4, 7, 0, 3, 2, 0, 10, 1, 1, 1, 2, 1, 2, 0, -1]), (9, [4, 2], [11]), (20, [4, 2, 7], [50, 1, 1, 1010, 1001, 4, 11, 0, 6, 4, 2, 1, 0, 0, 1, 2, 1, 10, 1, 2, 1, 2, 9, 5, 3, 1, 1, 1, 0, 0, 256]), (20, [2, 4, 7], [50, 1, 0, 10, 4, 7, 0, 3, 2, 0, 10, 1, 1, 1, 2, 1, 2, 0, -1]), (20, [4, 2, 5], [50, 1, 1, 1010, 1001, 4, 11, 0, 6, 4, 2, 1, 0, 0, 1, 2, 1, 10, 1, 2, 1, 2, 9, 5, 3, 1, 1, 1, 0, 0, 256]), (20, [2, 4, 5], [50, 1, 0, 10, 4, 7, 0, 3, 2, 0, 10, 1, 1, 1, 2, 1, 2, 0, -1]), (20, [1, 2], [30, 0, 1, 0, 0, -1, 1, 15]), (20, [2], [50, 3, 1, 15, 11, 10, 1, 2, 8, 0, 3, 2, 0, 15, 2, 0, 11, 3, 12, 0, 7, 4, 3, 2, 0, 15, 0, 1, 2, 0, 11, 2, 8, 1, 3, 2, 0, 11, 2, 0, 15, 2, 12, 0, 7, 4, 3, 2, 0, 15, 0, 1, 2, 0, 10, 3, 30, 2, 14, 0, 2, 0, 65, 9, 6, 3, 0, 1, 2, 0, 15, 0, 256, 0, 10, 9, 6, 3, 0, 1, 2, 0, 15, 0, 256, 0, 90, 2, 14, 0, 2, 0, 97, 9, 6, 3, 0, 1, 2, 0, 15, 0, 256, 0, 10, 9, 6, 3, 0, 1, 2, 0, 15, 0, 256, 0, 122]), (24, [0, 2], [])] ta ws vs := hf
  obtain ⟨f0, hf⟩ := fc_un (show (7 : Nat) < 100 from by decide) hf
  have f0 : v_iv (n_v vs 9) ≠ v_iv (n_v vs 10) := f0
  obtain ⟨f1, hf⟩ := fc_un (show (20 : Nat) < 100 from by decide) hf
  have f1 : ((v_iv (n_v vs 4) + 1) ≤ w_fi ws (n_v vs 2) 10) → (v_iv (n_v vs 9) = (w_ei ws (w_ar ws (n_v vs 2) 1) (v_iv (n_v vs 4)) % 256)) := f1
  obtain ⟨f2, hf⟩ := fc_un (show (20 : Nat) < 100 from by decide) hf
  have f2 : (w_fi ws (n_v vs 2) 10 ≤ v_iv (n_v vs 4)) → (v_iv (n_v vs 9) = (-1)) := f2
  obtain ⟨f3, hf⟩ := fc_un (show (9 : Nat) < 100 from by decide) hf
  have f3 : n_v vs 4 = w_fd ws (v_ad (n_v vs 2)) 11 := f3
  obtain ⟨f4, hf⟩ := fc_un (show (20 : Nat) < 100 from by decide) hf
  have f4 : ((v_iv (n_v vs 4) + 1) ≤ w_fi ws (n_v vs 2) 10) → (v_iv (n_v vs 7) = (w_ei ws (w_ar ws (n_v vs 2) 1) (v_iv (n_v vs 4)) % 256)) := f4
  obtain ⟨f5, hf⟩ := fc_un (show (20 : Nat) < 100 from by decide) hf
  have f5 : (w_fi ws (n_v vs 2) 10 ≤ v_iv (n_v vs 4)) → (v_iv (n_v vs 7) = (-1)) := f5
  obtain ⟨f6, hf⟩ := fc_un (show (20 : Nat) < 100 from by decide) hf
  have f6 : ((v_iv (n_v vs 4) + 1) ≤ w_fi ws (n_v vs 2) 10) → (v_iv (n_v vs 5) = (w_ei ws (w_ar ws (n_v vs 2) 1) (v_iv (n_v vs 4)) % 256)) := f6
  obtain ⟨f7, hf⟩ := fc_un (show (20 : Nat) < 100 from by decide) hf
  have f7 : (w_fi ws (n_v vs 2) 10 ≤ v_iv (n_v vs 4)) → (v_iv (n_v vs 5) = (-1)) := f7
  obtain ⟨f8, hf⟩ := fc_un (show (20 : Nat) < 100 from by decide) hf
  have f8 : 1 * v_iv (n_v vs 1) + ((-1) * w_fi ws (n_v vs 2) 15 + 0) ≤ 0 := f8
  obtain ⟨f9, hf⟩ := fc_un (show (20 : Nat) < 100 from by decide) hf
  have f9 : (w_fi ws (n_v vs 2) 15 ≤ w_fi ws (n_v vs 2) 11) ∧ (((w_fi ws (n_v vs 2) 15 + 1) ≤ w_fi ws (n_v vs 2) 11) ∨ ((w_fi ws (n_v vs 2) 11 = w_fi ws (n_v vs 2) 15) ∧ (((w_fi ws (n_v vs 2) 15 + 1) ≤ w_fi ws (n_v vs 2) 10) ∧ (((65 ≤ (w_ei ws (w_ar ws (n_v vs 2) 1) (w_fi ws (n_v vs 2) 15) % 256)) ∧ ((w_ei ws (w_ar ws (n_v vs 2) 1) (w_fi ws (n_v vs 2) 15) % 256) ≤ 90)) ∨ ((97 ≤ (w_ei ws (w_ar ws (n_v vs 2) 1) (w_fi ws (n_v vs 2) 15) % 256)) ∧ ((w_ei ws (w_ar ws (n_v vs 2) 1) (w_fi ws (n_v vs 2) 15) % 256) ≤ 122)))))) := f9
  obtain ⟨f10, hf⟩ := fc_un (show (24 : Nat) < 100 from by decide) hf
  have f10 : n_v vs 0 = n_v vs 2 := f10
  have q2 : n_v vs 2 = n_v vs 0 := f10.symm
  rw [q2] at f1
  rw [q2] at f2
  rw [q2] at f3
  rw [q2] at f4
  rw [q2] at f5
  rw [q2] at f6
  rw [q2] at f7
  rw [q2] at f8
  rw [q2] at f9
  have cr_0_1 : ta (w_ar ws (n_v vs 0) 1) = some 151 := tv_rg (th_fd hD hth r0 (g := GG_150) rfl (k := 1) (t := (2, 0, 0, [151])) rfl rfl)
  have g3 : v_iv (n_v vs 4) = w_fi ws (n_v vs 0) 11 := congrArg v_iv f3
  have hK_0_1 : ∀ j : Int, 0 ≤ j → j < 2000 → (-128) ≤ w_ei ws (w_ar ws (n_v vs 0) 1) j ∧ w_ei ws (w_ar ws (n_v vs 0) 1) j ≤ 127 := fun j h0 h1 => th_el hD hth cr_0_1 (kd := 1) (n := 2000) (m := 2000) (lo := (-128)) (hi := 127) (rs := []) (L := []) rfl (by decide) (j := j.toNat) (by omega)
  have kz_0_10 : 0 ≤ w_fi ws (n_v vs 0) 10 ∧ w_fi ws (n_v vs 0) 10 ≤ 2000 := tv_rng (th_fd hD hth r0 (g := GG_150) rfl (k := 10) (t := (0, 0, 2000, [])) rfl rfl)
  have kz_0_11 : 0 ≤ w_fi ws (n_v vs 0) 11 ∧ w_fi ws (n_v vs 0) 11 ≤ 2000 := tv_rng (th_fd hD hth r0 (g := GG_150) rfl (k := 11) (t := (0, 0, 2000, [])) rfl rfl)
  have kz_0_15 : 0 ≤ w_fi ws (n_v vs 0) 15 ∧ w_fi ws (n_v vs 0) 15 ≤ 2000 := tv_rng (th_fd hD hth r0 (g := GG_150) rfl (k := 15) (t := (0, 0, 2000, [])) rfl rfl)
  have nf0 : fc_1 (20, [2], [50, 2, 0, 15, 11, 0, 7, 4, 3, 2, 0, 15, 0, 1, 2, 0, 11]) ws (vs) := by
    refine ⟨fun n hn => ?_, ?_⟩
    · have hn : n ∈ [2] := hn
      rw [hl]
      simp only [List.mem_cons, List.not_mem_nil, or_false] at hn
      show n < 11; omega
    · show (w_fi ws (n_v vs 2) 15 + 1) ≤ w_fi ws (n_v vs 2) 11
      rw [q2]
      first | omega | grind
  refine ⟨(fun _ h => (by cases h)), [], trivial, ?_, (fun _ h => (by cases h))⟩
  rw [List.append_nil]
  exact List.forall_mem_cons.mpr ⟨⟨show (20 : Nat) < 100 from by decide, nf0⟩, (fun _ h => (by cases h))⟩
def o_Mo_next_14 : or_T := (147, 11, [(0, (2, 0, 0, [150])), (1, (0, 0, 2000, [])), (2, (2, 0, 0, [150])), (4, (0, 0, 1999, [])), (5, (0, -1, -1, [])), (7, (0, 0, 47, [])), (9, (0, -1, -1, [])), (10, (0, 95, 95, []))], [(7, [9, 10], [1]), (20, [4, 2, 9], [50, 1, 1, 1010, 1001, 4, 11, 0, 6, 4, 2, 1, 0, 0, 1, 2, 1, 10, 1, 2, 1, 2, 9, 5, 3, 1, 1, 1, 0, 0, 256]), (20, [2, 4, 9], [50, 1, 0, 10, 4, 7, 0, 3, 2, 0, 10, 1, 1, 1, 2, 1, 2, 0, -1]), (9, [4, 2], [11]), (20, [4, 2, 7], [50, 1, 1, 1010, 1001, 4, 11, 0, 6, 4, 2, 1, 0, 0, 1, 2, 1, 10, 1, 2, 1, 2, 9, 5, 3, 1, 1, 1, 0, 0, 256]), (20, [2, 4, 7], [50, 1, 0, 10, 4, 7, 0, 3, 2, 0, 10, 1, 1, 1, 2, 1, 2, 0, -1]), (20, [4, 2, 5], [50, 1, 1, 1010, 1001, 4, 11, 0, 6, 4, 2, 1, 0, 0, 1, 2, 1, 10, 1, 2, 1, 2, 9, 5, 3, 1, 1, 1, 0, 0, 256]), (20, [2, 4, 5], [50, 1, 0, 10, 4, 7, 0, 3, 2, 0, 10, 1, 1, 1, 2, 1, 2, 0, -1]), (20, [1, 2], [30, 0, 1, 0, 0, -1, 1, 15]), (20, [2], [50, 3, 1, 15, 11, 10, 1, 2, 8, 0, 3, 2, 0, 15, 2, 0, 11, 3, 12, 0, 7, 4, 3, 2, 0, 15, 0, 1, 2, 0, 11, 2, 8, 1, 3, 2, 0, 11, 2, 0, 15, 2, 12, 0, 7, 4, 3, 2, 0, 15, 0, 1, 2, 0, 10, 3, 30, 2, 14, 0, 2, 0, 65, 9, 6, 3, 0, 1, 2, 0, 15, 0, 256, 0, 10, 9, 6, 3, 0, 1, 2, 0, 15, 0, 256, 0, 90, 2, 14, 0, 2, 0, 97, 9, 6, 3, 0, 1, 2, 0, 15, 0, 256, 0, 10, 9, 6, 3, 0, 1, 2, 0, 15, 0, 256, 0, 122]), (24, [0, 2], [])], [], [], [(20, [2], [50, 2, 0, 15, 11, 0, 7, 4, 3, 2, 0, 15, 0, 1, 2, 0, 11])], [], [(1, 4, -4294967296, 2000), (4, 1, -4294967296, 2000)])
theorem oo_Mo_next_14 {kA : Nat → ClassId} : or_ok kA GG o_Mo_next_14 := by
  intro A ta ws vs hD hth hl hk hds hf
  have hl : vs.length = 11 := hl
  have hk : ∀ q ∈ ([(0, (2, 0, 0, [150])), (1, (0, 0, 2000, [])), (2, (2, 0, 0, [150])), (4, (0, 0, 1999, [])), (5, (0, -1, -1, [])), (7, (0, 0, 47, [])), (9, (0, -1, -1, [])), (10, (0, 95, 95, []))] : List (Nat × tv_T)), tv_ok ta q.2 (n_v vs q.1) := hk
  obtain ⟨t0, hk⟩ := List.forall_mem_cons.mp hk
  have t0 : tv_ok ta (2, 0, 0, [150]) (n_v vs 0) := t0
  have r0 : ta (v_ad (n_v vs 0)) = some 150 := tv_rg t0
  obtain ⟨t1, hk⟩ := List.forall_mem_cons.mp hk
  have t1 : tv_ok ta (0, 0, 2000, []) (n_v vs 1) := t1
  have k1 : 0 ≤ v_iv (n_v vs 1) ∧ v_iv (n_v vs 1) ≤ 2000 := tv_rng t1
  obtain ⟨t2, hk⟩ := List.forall_mem_cons.mp hk
  have t2 : tv_ok ta (2, 0, 0, [150]) (n_v vs 2) := t2
  have r2 : ta (v_ad (n_v vs 2)) = some 150 := tv_rg t2
  obtain ⟨t4, hk⟩ := List.forall_mem_cons.mp hk
  have t4 : tv_ok ta (0, 0, 1999, []) (n_v vs 4) := t4
  have k4 : 0 ≤ v_iv (n_v vs 4) ∧ v_iv (n_v vs 4) ≤ 1999 := tv_rng t4
  obtain ⟨t5, hk⟩ := List.forall_mem_cons.mp hk
  have t5 : tv_ok ta (0, -1, -1, []) (n_v vs 5) := t5
  have k5 : (-1) ≤ v_iv (n_v vs 5) ∧ v_iv (n_v vs 5) ≤ (-1) := tv_rng t5
  obtain ⟨t7, hk⟩ := List.forall_mem_cons.mp hk
  have t7 : tv_ok ta (0, 0, 47, []) (n_v vs 7) := t7
  have k7 : 0 ≤ v_iv (n_v vs 7) ∧ v_iv (n_v vs 7) ≤ 47 := tv_rng t7
  obtain ⟨t9, hk⟩ := List.forall_mem_cons.mp hk
  have t9 : tv_ok ta (0, -1, -1, []) (n_v vs 9) := t9
  have k9 : (-1) ≤ v_iv (n_v vs 9) ∧ v_iv (n_v vs 9) ≤ (-1) := tv_rng t9
  obtain ⟨t10, hk⟩ := List.forall_mem_cons.mp hk
  have t10 : tv_ok ta (0, 95, 95, []) (n_v vs 10) := t10
  have k10 : 95 ≤ v_iv (n_v vs 10) ∧ v_iv (n_v vs 10) ≤ 95 := tv_rng t10
  have hds : ∀ q ∈ ([(1, 4, -4294967296, 2000), (4, 1, -4294967296, 2000)] : List of_T), n_iv vs q.2.1 + q.2.2.1 ≤ n_iv vs q.1 ∧ n_iv vs q.1 ≤ n_iv vs q.2.1 + q.2.2.2 := hds
  obtain ⟨d0, hds⟩ := List.forall_mem_cons.mp hds
  have d0 : v_iv (n_v vs 4) + (-4294967296) ≤ v_iv (n_v vs 1) ∧ v_iv (n_v vs 1) ≤ v_iv (n_v vs 4) + 2000 := d0
  obtain ⟨d1, hds⟩ := List.forall_mem_cons.mp hds
  have d1 : v_iv (n_v vs 1) + (-4294967296) ≤ v_iv (n_v vs 4) ∧ v_iv (n_v vs 4) ≤ v_iv (n_v vs 1) + 2000 := d1
  have hf : fc_ok [(7, [9, 10], [1]), (20, [4, 2, 9], [50, 1, 1, 1010, 1001, 4, 11, 0, 6, 4, 2, 1, 0, 0, 1, 2, 1, 10, 1, 2, 1, 2, 9, 5, 3, 1, 1, 1, 0, 0, 256]), (20, [2, 4, 9], [50, 1, 0, 10, 4, 7, 0, 3, 2, 0, 10, 1, 1, 1, 2, 1, 2, 0, -1]), (9, [4, 2], [11]), (20, [4, 2, 7], [50, 1, 1, 1010, 1001, 4, 11, 0, 6, 4, 2, 1, 0, 0, 1, 2, 1, 10, 1, 2, 1, 2, 9, 5, 3, 1, 1, 1, 0, 0, 256]), (20, [2, 4, 7], [50, 1, 0, 10, 4, 7, 0, 3, 2, 0, 10, 1, 1, 1, 2, 1, 2, 0, -1]), (20, [4, 2, 5], [50, 1, 1, 1010, 1001, 4, 11, 0, 6, 4, 2, 1, 0, 0, 1, 2, 1, 10, 1, 2, 1, 2, 9, 5, 3, 1, 1, 1, 0, 0, 256]), (20, [2, 4, 5], [50, 1, 0, 10, 4, 7, 0, 3, 2, 0, 10, 1, 1, 1, 2, 1, 2, 0, -1]), (20, [1, 2], [30, 0, 1, 0, 0, -1, 1, 15]), (20, [2], [50, 3, 1, 15, 11, 10, 1, 2, 8, 0, 3, 2, 0, 15, 2, 0, 11, 3, 12, 0, 7, 4, 3, 2, 0, 15, 0, 1, 2, 0, 11, 2, 8, 1, 3, 2, 0, 11, 2, 0, 15, 2, 12, 0, 7, 4, 3, 2, 0, 15, 0, 1, 2, 0, 10, 3, 30, 2, 14, 0, 2, 0, 65, 9, 6, 3, 0, 1, 2, 0, 15, 0, 256, 0, 10, 9, 6, 3, 0, 1, 2, 0, 15, 0, 256, 0, 90, 2, 14, 0, 2, 0, 97, 9, 6, 3, 0, 1, 2, 0, 15, 0, 256, 0, 10, 9, 6, 3, 0, 1, 2, 0, 15, 0, 256, 0, 122]), (24, [0, 2], [])] ta ws vs := hf
  obtain ⟨f0, hf⟩ := fc_un (show (7 : Nat) < 100 from by decide) hf
  have f0 : v_iv (n_v vs 9) ≠ v_iv (n_v vs 10) := f0
  obtain ⟨f1, hf⟩ := fc_un (show (20 : Nat) < 100 from by decide) hf
  have f1 : ((v_iv (n_v vs 4) + 1) ≤ w_fi ws (n_v vs 2) 10) → (v_iv (n_v vs 9) = (w_ei ws (w_ar ws (n_v vs 2) 1) (v_iv (n_v vs 4)) % 256)) := f1
  obtain ⟨f2, hf⟩ := fc_un (show (20 : Nat) < 100 from by decide) hf
  have f2 : (w_fi ws (n_v vs 2) 10 ≤ v_iv (n_v vs 4)) → (v_iv (n_v vs 9) = (-1)) := f2
  obtain ⟨f3, hf⟩ := fc_un (show (9 : Nat) < 100 from by decide) hf
  have f3 : n_v vs 4 = w_fd ws (v_ad (n_v vs 2)) 11 := f3
  obtain ⟨f4, hf⟩ := fc_un (show (20 : Nat) < 100 from by decide) hf
  have f4 : ((v_iv (n_v vs 4) + 1) ≤ w_fi ws (n_v vs 2) 10) → (v_iv (n_v vs 7) = (w_ei ws (w_ar ws (n_v vs 2) 1) (v_iv (n_v vs 4)) % 256)) := f4
  obtain ⟨f5, hf⟩ := fc_un (show (20 : Nat) < 100 from by decide) hf
  have f5 : (w_fi ws (n_v vs 2) 10 ≤ v_iv (n_v vs 4)) → (v_iv (n_v vs 7) = (-1)) := f5
  obtain ⟨f6, hf⟩ := fc_un (show (20 : Nat) < 100 from by decide) hf
  have f6 : ((v_iv (n_v vs 4) + 1) ≤ w_fi ws (n_v vs 2) 10) → (v_iv (n_v vs 5) = (w_ei ws (w_ar ws (n_v vs 2) 1) (v_iv (n_v vs 4)) % 256)) := f6
  obtain ⟨f7, hf⟩ := fc_un (show (20 : Nat) < 100 from by decide) hf
  have f7 : (w_fi ws (n_v vs 2) 10 ≤ v_iv (n_v vs 4)) → (v_iv (n_v vs 5) = (-1)) := f7
  obtain ⟨f8, hf⟩ := fc_un (show (20 : Nat) < 100 from by decide) hf
  have f8 : 1 * v_iv (n_v vs 1) + ((-1) * w_fi ws (n_v vs 2) 15 + 0) ≤ 0 := f8
  obtain ⟨f9, hf⟩ := fc_un (show (20 : Nat) < 100 from by decide) hf
  have f9 : (w_fi ws (n_v vs 2) 15 ≤ w_fi ws (n_v vs 2) 11) ∧ (((w_fi ws (n_v vs 2) 15 + 1) ≤ w_fi ws (n_v vs 2) 11) ∨ ((w_fi ws (n_v vs 2) 11 = w_fi ws (n_v vs 2) 15) ∧ (((w_fi ws (n_v vs 2) 15 + 1) ≤ w_fi ws (n_v vs 2) 10) ∧ (((65 ≤ (w_ei ws (w_ar ws (n_v vs 2) 1) (w_fi ws (n_v vs 2) 15) % 256)) ∧ ((w_ei ws (w_ar ws (n_v vs 2) 1) (w_fi ws (n_v vs 2) 15) % 256) ≤ 90)) ∨ ((97 ≤ (w_ei ws (w_ar ws (n_v vs 2) 1) (w_fi ws (n_v vs 2) 15) % 256)) ∧ ((w_ei ws (w_ar ws (n_v vs 2) 1) (w_fi ws (n_v vs 2) 15) % 256) ≤ 122)))))) := f9
  obtain ⟨f10, hf⟩ := fc_un (show (24 : Nat) < 100 from by decide) hf
  have f10 : n_v vs 0 = n_v vs 2 := f10
  have q2 : n_v vs 2 = n_v vs 0 := f10.symm
  rw [q2] at f1
  rw [q2] at f2
  rw [q2] at f3
  rw [q2] at f4
  rw [q2] at f5
  rw [q2] at f6
  rw [q2] at f7
  rw [q2] at f8
  rw [q2] at f9
  have cr_0_1 : ta (w_ar ws (n_v vs 0) 1) = some 151 := tv_rg (th_fd hD hth r0 (g := GG_150) rfl (k := 1) (t := (2, 0, 0, [151])) rfl rfl)
  have g3 : v_iv (n_v vs 4) = w_fi ws (n_v vs 0) 11 := congrArg v_iv f3
  have hK_0_1 : ∀ j : Int, 0 ≤ j → j < 2000 → (-128) ≤ w_ei ws (w_ar ws (n_v vs 0) 1) j ∧ w_ei ws (w_ar ws (n_v vs 0) 1) j ≤ 127 := fun j h0 h1 => th_el hD hth cr_0_1 (kd := 1) (n := 2000) (m := 2000) (lo := (-128)) (hi := 127) (rs := []) (L := []) rfl (by decide) (j := j.toNat) (by omega)
  have kz_0_10 : 0 ≤ w_fi ws (n_v vs 0) 10 ∧ w_fi ws (n_v vs 0) 10 ≤ 2000 := tv_rng (th_fd hD hth r0 (g := GG_150) rfl (k := 10) (t := (0, 0, 2000, [])) rfl rfl)
  have kz_0_11 : 0 ≤ w_fi ws (n_v vs 0) 11 ∧ w_fi ws (n_v vs 0) 11 ≤ 2000 := tv_rng (th_fd hD hth r0 (g := GG_150) rfl (k := 11) (t := (0, 0, 2000, [])) rfl rfl)
  have kz_0_15 : 0 ≤ w_fi ws (n_v vs 0) 15 ∧ w_fi ws (n_v vs 0) 15 ≤ 2000 := tv_rng (th_fd hD hth r0 (g := GG_150) rfl (k := 15) (t := (0, 0, 2000, [])) rfl rfl)
  have nf0 : fc_1 (20, [2], [50, 2, 0, 15, 11, 0, 7, 4, 3, 2, 0, 15, 0, 1, 2, 0, 11]) ws (vs) := by
    refine ⟨fun n hn => ?_, ?_⟩
    · have hn : n ∈ [2] := hn
      rw [hl]
      simp only [List.mem_cons, List.not_mem_nil, or_false] at hn
      show n < 11; omega
    · show (w_fi ws (n_v vs 2) 15 + 1) ≤ w_fi ws (n_v vs 2) 11
      rw [q2]
      first | omega | grind
  refine ⟨(fun _ h => (by cases h)), [], trivial, ?_, (fun _ h => (by cases h))⟩
  rw [List.append_nil]
  exact List.forall_mem_cons.mpr ⟨⟨show (20 : Nat) < 100 from by decide, nf0⟩, (fun _ h => (by cases h))⟩
def o_Mo_next_15 : or_T := (147, 11, [(0, (2, 0, 0, [150])), (1, (0, 0, 2000, [])), (2, (2, 0, 0, [150])), (4, (0, 0, 1999, [])), (5, (0, -1, -1, [])), (7, (0, 0, 47, [])), (9, (0, 0, 255, [])), (10, (0, 95, 95, []))], [(7, [9, 10], [1]), (20, [4, 2, 9], [50, 1, 1, 1010, 1001, 4, 11, 0, 6, 4, 2, 1, 0, 0, 1, 2, 1, 10, 1, 2, 1, 2, 9, 5, 3, 1, 1, 1, 0, 0, 256]), (20, [2, 4, 9], [50, 1, 0, 10, 4, 7, 0, 3, 2, 0, 10, 1, 1, 1, 2, 1, 2, 0, -1]), (9, [4, 2], [11]), (20, [4, 2, 7], [50, 1, 1, 1010, 1001, 4, 11, 0, 6, 4, 2, 1, 0, 0, 1, 2, 1, 10, 1, 2, 1, 2, 9, 5, 3, 1, 1, 1, 0, 0, 256]), (20, [2, 4, 7], [50, 1, 0, 10, 4, 7, 0, 3, 2, 0, 10, 1, 1, 1, 2, 1, 2, 0, -1]), (20, [4, 2, 5], [50, 1, 1, 1010, 1001, 4, 11, 0, 6, 4, 2, 1, 0, 0, 1, 2, 1, 10, 1, 2, 1, 2, 9, 5, 3, 1, 1, 1, 0, 0, 256]), (20, [2, 4, 5], [50, 1, 0, 10, 4, 7, 0, 3, 2, 0, 10, 1, 1, 1, 2, 1, 2, 0, -1]), (20, [1, 2], [30, 0, 1, 0, 0, -1, 1, 15]), (20, [2], [50, 3, 1, 15, 11, 10, 1, 2, 8, 0, 3, 2, 0, 15, 2, 0, 11, 3, 12, 0, 7, 4, 3, 2, 0, 15, 0, 1, 2, 0, 11, 2, 8, 1, 3, 2, 0, 11, 2, 0, 15, 2, 12, 0, 7, 4, 3, 2, 0, 15, 0, 1, 2, 0, 10, 3, 30, 2, 14, 0, 2, 0, 65, 9, 6, 3, 0, 1, 2, 0, 15, 0, 256, 0, 10, 9, 6, 3, 0, 1, 2, 0, 15, 0, 256, 0, 90, 2, 14, 0, 2, 0, 97, 9, 6, 3, 0, 1, 2, 0, 15, 0, 256, 0, 10, 9, 6, 3, 0, 1, 2, 0, 15, 0, 256, 0, 122]), (24, [0, 2], [])], [], [], [(20, [2], [50, 2, 0, 15, 11, 0, 7, 4, 3, 2, 0, 15, 0, 1, 2, 0, 11])], [], [(1, 4, -4294967296, 2000), (4, 1, -4294967296, 2000)])
theorem oo_Mo_next_15 {kA : Nat → ClassId} : or_ok kA GG o_Mo_next_15 := by
  intro A ta ws vs hD hth hl hk hds hf
  have hl : vs.length = 11 := hl
  have hk : ∀ q ∈ ([(0, (2, 0, 0, [150])), (1, (0, 0, 2000, [])), (2, (2, 0, 0, [150])), (4, (0, 0, 1999, [])), (5, (0, -1, -1, [])), (7, (0, 0, 47, [])), (9, (0, 0, 255, [])), (10, (0, 95, 95, []))] : List (Nat × tv_T)), tv_ok ta q.2 (n_v vs q.1) := hk
  obtain ⟨t0, hk⟩ := List.forall_mem_cons.mp hk
  have t0 : tv_ok ta (2, 0, 0, [150]) (n_v vs 0) := t0
  have r0 : ta (v_ad (n_v vs 0)) = some 150 := tv_rg t0
  obtain ⟨t1, hk⟩ := List.forall_mem_cons.mp hk
  have t1 : tv_ok ta (0, 0, 2000, []) (n_v vs 1) := t1
  have k1 : 0 ≤ v_iv (n_v vs 1) ∧ v_iv (n_v vs 1) ≤ 2000 := tv_rng t1
  obtain ⟨t2, hk⟩ := List.forall_mem_cons.mp hk
  have t2 : tv_ok ta (2, 0, 0, [150]) (n_v vs 2) := t2
  have r2 : ta (v_ad (n_v vs 2)) = some 150 := tv_rg t2
  obtain ⟨t4, hk⟩ := List.forall_mem_cons.mp hk
  have t4 : tv_ok ta (0, 0, 1999, []) (n_v vs 4) := t4
  have k4 : 0 ≤ v_iv (n_v vs 4) ∧ v_iv (n_v vs 4) ≤ 1999 := tv_rng t4
  obtain ⟨t5, hk⟩ := List.forall_mem_cons.mp hk
  have t5 : tv_ok ta (0, -1, -1, []) (n_v vs 5) := t5
  have k5 : (-1) ≤ v_iv (n_v vs 5) ∧ v_iv (n_v vs 5) ≤ (-1) := tv_rng t5
  obtain ⟨t7, hk⟩ := List.forall_mem_cons.mp hk
  have t7 : tv_ok ta (0, 0, 47, []) (n_v vs 7) := t7
  have k7 : 0 ≤ v_iv (n_v vs 7) ∧ v_iv (n_v vs 7) ≤ 47 := tv_rng t7
  obtain ⟨t9, hk⟩ := List.forall_mem_cons.mp hk
  have t9 : tv_ok ta (0, 0, 255, []) (n_v vs 9) := t9
  have k9 : 0 ≤ v_iv (n_v vs 9) ∧ v_iv (n_v vs 9) ≤ 255 := tv_rng t9
  obtain ⟨t10, hk⟩ := List.forall_mem_cons.mp hk
  have t10 : tv_ok ta (0, 95, 95, []) (n_v vs 10) := t10
  have k10 : 95 ≤ v_iv (n_v vs 10) ∧ v_iv (n_v vs 10) ≤ 95 := tv_rng t10
  have hds : ∀ q ∈ ([(1, 4, -4294967296, 2000), (4, 1, -4294967296, 2000)] : List of_T), n_iv vs q.2.1 + q.2.2.1 ≤ n_iv vs q.1 ∧ n_iv vs q.1 ≤ n_iv vs q.2.1 + q.2.2.2 := hds
  obtain ⟨d0, hds⟩ := List.forall_mem_cons.mp hds
  have d0 : v_iv (n_v vs 4) + (-4294967296) ≤ v_iv (n_v vs 1) ∧ v_iv (n_v vs 1) ≤ v_iv (n_v vs 4) + 2000 := d0
  obtain ⟨d1, hds⟩ := List.forall_mem_cons.mp hds
  have d1 : v_iv (n_v vs 1) + (-4294967296) ≤ v_iv (n_v vs 4) ∧ v_iv (n_v vs 4) ≤ v_iv (n_v vs 1) + 2000 := d1
  have hf : fc_ok [(7, [9, 10], [1]), (20, [4, 2, 9], [50, 1, 1, 1010, 1001, 4, 11, 0, 6, 4, 2, 1, 0, 0, 1, 2, 1, 10, 1, 2, 1, 2, 9, 5, 3, 1, 1, 1, 0, 0, 256]), (20, [2, 4, 9], [50, 1, 0, 10, 4, 7, 0, 3, 2, 0, 10, 1, 1, 1, 2, 1, 2, 0, -1]), (9, [4, 2], [11]), (20, [4, 2, 7], [50, 1, 1, 1010, 1001, 4, 11, 0, 6, 4, 2, 1, 0, 0, 1, 2, 1, 10, 1, 2, 1, 2, 9, 5, 3, 1, 1, 1, 0, 0, 256]), (20, [2, 4, 7], [50, 1, 0, 10, 4, 7, 0, 3, 2, 0, 10, 1, 1, 1, 2, 1, 2, 0, -1]), (20, [4, 2, 5], [50, 1, 1, 1010, 1001, 4, 11, 0, 6, 4, 2, 1, 0, 0, 1, 2, 1, 10, 1, 2, 1, 2, 9, 5, 3, 1, 1, 1, 0, 0, 256]), (20, [2, 4, 5], [50, 1, 0, 10, 4, 7, 0, 3, 2, 0, 10, 1, 1, 1, 2, 1, 2, 0, -1]), (20, [1, 2], [30, 0, 1, 0, 0, -1, 1, 15]), (20, [2], [50, 3, 1, 15, 11, 10, 1, 2, 8, 0, 3, 2, 0, 15, 2, 0, 11, 3, 12, 0, 7, 4, 3, 2, 0, 15, 0, 1, 2, 0, 11, 2, 8, 1, 3, 2, 0, 11, 2, 0, 15, 2, 12, 0, 7, 4, 3, 2, 0, 15, 0, 1, 2, 0, 10, 3, 30, 2, 14, 0, 2, 0, 65, 9, 6, 3, 0, 1, 2, 0, 15, 0, 256, 0, 10, 9, 6, 3, 0, 1, 2, 0, 15, 0, 256, 0, 90, 2, 14, 0, 2, 0, 97, 9, 6, 3, 0, 1, 2, 0, 15, 0, 256, 0, 10, 9, 6, 3, 0, 1, 2, 0, 15, 0, 256, 0, 122]), (24, [0, 2], [])] ta ws vs := hf
  obtain ⟨f0, hf⟩ := fc_un (show (7 : Nat) < 100 from by decide) hf
  have f0 : v_iv (n_v vs 9) ≠ v_iv (n_v vs 10) := f0
  obtain ⟨f1, hf⟩ := fc_un (show (20 : Nat) < 100 from by decide) hf
  have f1 : ((v_iv (n_v vs 4) + 1) ≤ w_fi ws (n_v vs 2) 10) → (v_iv (n_v vs 9) = (w_ei ws (w_ar ws (n_v vs 2) 1) (v_iv (n_v vs 4)) % 256)) := f1
  obtain ⟨f2, hf⟩ := fc_un (show (20 : Nat) < 100 from by decide) hf
  have f2 : (w_fi ws (n_v vs 2) 10 ≤ v_iv (n_v vs 4)) → (v_iv (n_v vs 9) = (-1)) := f2
  obtain ⟨f3, hf⟩ := fc_un (show (9 : Nat) < 100 from by decide) hf
  have f3 : n_v vs 4 = w_fd ws (v_ad (n_v vs 2)) 11 := f3
  obtain ⟨f4, hf⟩ := fc_un (show (20 : Nat) < 100 from by decide) hf
  have f4 : ((v_iv (n_v vs 4) + 1) ≤ w_fi ws (n_v vs 2) 10) → (v_iv (n_v vs 7) = (w_ei ws (w_ar ws (n_v vs 2) 1) (v_iv (n_v vs 4)) % 256)) := f4
  obtain ⟨f5, hf⟩ := fc_un (show (20 : Nat) < 100 from by decide) hf
  have f5 : (w_fi ws (n_v vs 2) 10 ≤ v_iv (n_v vs 4)) → (v_iv (n_v vs 7) = (-1)) := f5
  obtain ⟨f6, hf⟩ := fc_un (show (20 : Nat) < 100 from by decide) hf
  have f6 : ((v_iv (n_v vs 4) + 1) ≤ w_fi ws (n_v vs 2) 10) → (v_iv (n_v vs 5) = (w_ei ws (w_ar ws (n_v vs 2) 1) (v_iv (n_v vs 4)) % 256)) := f6
  obtain ⟨f7, hf⟩ := fc_un (show (20 : Nat) < 100 from by decide) hf
  have f7 : (w_fi ws (n_v vs 2) 10 ≤ v_iv (n_v vs 4)) → (v_iv (n_v vs 5) = (-1)) := f7
  obtain ⟨f8, hf⟩ := fc_un (show (20 : Nat) < 100 from by decide) hf
  have f8 : 1 * v_iv (n_v vs 1) + ((-1) * w_fi ws (n_v vs 2) 15 + 0) ≤ 0 := f8
  obtain ⟨f9, hf⟩ := fc_un (show (20 : Nat) < 100 from by decide) hf
  have f9 : (w_fi ws (n_v vs 2) 15 ≤ w_fi ws (n_v vs 2) 11) ∧ (((w_fi ws (n_v vs 2) 15 + 1) ≤ w_fi ws (n_v vs 2) 11) ∨ ((w_fi ws (n_v vs 2) 11 = w_fi ws (n_v vs 2) 15) ∧ (((w_fi ws (n_v vs 2) 15 + 1) ≤ w_fi ws (n_v vs 2) 10) ∧ (((65 ≤ (w_ei ws (w_ar ws (n_v vs 2) 1) (w_fi ws (n_v vs 2) 15) % 256)) ∧ ((w_ei ws (w_ar ws (n_v vs 2) 1) (w_fi ws (n_v vs 2) 15) % 256) ≤ 90)) ∨ ((97 ≤ (w_ei ws (w_ar ws (n_v vs 2) 1) (w_fi ws (n_v vs 2) 15) % 256)) ∧ ((w_ei ws (w_ar ws (n_v vs 2) 1) (w_fi ws (n_v vs 2) 15) % 256) ≤ 122)))))) := f9
  obtain ⟨f10, hf⟩ := fc_un (show (24 : Nat) < 100 from by decide) hf
  have f10 : n_v vs 0 = n_v vs 2 := f10
  have q2 : n_v vs 2 = n_v vs 0 := f10.symm
  rw [q2] at f1
  rw [q2] at f2
  rw [q2] at f3
  rw [q2] at f4
  rw [q2] at f5
  rw [q2] at f6
  rw [q2] at f7
  rw [q2] at f8
  rw [q2] at f9
  have cr_0_1 : ta (w_ar ws (n_v vs 0) 1) = some 151 := tv_rg (th_fd hD hth r0 (g := GG_150) rfl (k := 1) (t := (2, 0, 0, [151])) rfl rfl)
  have g3 : v_iv (n_v vs 4) = w_fi ws (n_v vs 0) 11 := congrArg v_iv f3
  have hK_0_1 : ∀ j : Int, 0 ≤ j → j < 2000 → (-128) ≤ w_ei ws (w_ar ws (n_v vs 0) 1) j ∧ w_ei ws (w_ar ws (n_v vs 0) 1) j ≤ 127 := fun j h0 h1 => th_el hD hth cr_0_1 (kd := 1) (n := 2000) (m := 2000) (lo := (-128)) (hi := 127) (rs := []) (L := []) rfl (by decide) (j := j.toNat) (by omega)
  have kz_0_10 : 0 ≤ w_fi ws (n_v vs 0) 10 ∧ w_fi ws (n_v vs 0) 10 ≤ 2000 := tv_rng (th_fd hD hth r0 (g := GG_150) rfl (k := 10) (t := (0, 0, 2000, [])) rfl rfl)
  have kz_0_11 : 0 ≤ w_fi ws (n_v vs 0) 11 ∧ w_fi ws (n_v vs 0) 11 ≤ 2000 := tv_rng (th_fd hD hth r0 (g := GG_150) rfl (k := 11) (t := (0, 0, 2000, [])) rfl rfl)
  have kz_0_15 : 0 ≤ w_fi ws (n_v vs 0) 15 ∧ w_fi ws (n_v vs 0) 15 ≤ 2000 := tv_rng (th_fd hD hth r0 (g := GG_150) rfl (k := 15) (t := (0, 0, 2000, [])) rfl rfl)
  have nf0 : fc_1 (20, [2], [50, 2, 0, 15, 11, 0, 7, 4, 3, 2, 0, 15, 0, 1, 2, 0, 11]) ws (vs) := by
    refine ⟨fun n hn => ?_, ?_⟩
    · have hn : n ∈ [2] := hn
      rw [hl]
      simp only [List.mem_cons, List.not_mem_nil, or_false] at hn
      show n < 11; omega
    · show (w_fi ws (n_v vs 2) 15 + 1) ≤ w_fi ws (n_v vs 2) 11
      rw [q2]
      first | omega | grind
  refine ⟨(fun _ h => (by cases h)), [], trivial, ?_, (fun _ h => (by cases h))⟩
  rw [List.append_nil]
  exact List.forall_mem_cons.mpr ⟨⟨show (20 : Nat) < 100 from by decide, nf0⟩, (fun _ h => (by cases h))⟩
def o_Mo_next_16 : or_T := (147, 11, [(0, (2, 0, 0, [150])), (1, (0, 0, 2000, [])), (2, (2, 0, 0, [150])), (4, (0, 0, 1999, [])), (5, (0, -1, -1, [])), (7, (0, 58, 255, [])), (9, (0, -1, -1, [])), (10, (0, 95, 95, []))], [(7, [9, 10], [1]), (20, [4, 2, 9], [50, 1, 1, 1010, 1001, 4, 11, 0, 6, 4, 2, 1, 0, 0, 1, 2, 1, 10, 1, 2, 1, 2, 9, 5, 3, 1, 1, 1, 0, 0, 256]), (20, [2, 4, 9], [50, 1, 0, 10, 4, 7, 0, 3, 2, 0, 10, 1, 1, 1, 2, 1, 2, 0, -1]), (9, [4, 2], [11]), (20, [4, 2, 7], [50, 1, 1, 1010, 1001, 4, 11, 0, 6, 4, 2, 1, 0, 0, 1, 2, 1, 10, 1, 2, 1, 2, 9, 5, 3, 1, 1, 1, 0, 0, 256]), (20, [2, 4, 7], [50, 1, 0, 10, 4, 7, 0, 3, 2, 0, 10, 1, 1, 1, 2, 1, 2, 0, -1]), (20, [4, 2, 5], [50, 1, 1, 1010, 1001, 4, 11, 0, 6, 4, 2, 1, 0, 0, 1, 2, 1, 10, 1, 2, 1, 2, 9, 5, 3, 1, 1, 1, 0, 0, 256]), (20, [2, 4, 5], [50, 1, 0, 10, 4, 7, 0, 3, 2, 0, 10, 1, 1, 1, 2, 1, 2, 0, -1]), (20, [1, 2], [30, 0, 1, 0, 0, -1, 1, 15]), (20, [2], [50, 3, 1, 15, 11, 10, 1, 2, 8, 0, 3, 2, 0, 15, 2, 0, 11, 3, 12, 0, 7, 4, 3, 2, 0, 15, 0, 1, 2, 0, 11, 2, 8, 1, 3, 2, 0, 11, 2, 0, 15, 2, 12, 0, 7, 4, 3, 2, 0, 15, 0, 1, 2, 0, 10, 3, 30, 2, 14, 0, 2, 0, 65, 9, 6, 3, 0, 1, 2, 0, 15, 0, 256, 0, 10, 9, 6, 3, 0, 1, 2, 0, 15, 0, 256, 0, 90, 2, 14, 0, 2, 0, 97, 9, 6, 3, 0, 1, 2, 0, 15, 0, 256, 0, 10, 9, 6, 3, 0, 1, 2, 0, 15, 0, 256, 0, 122]), (24, [0, 2], [])], [], [], [(20, [2], [50, 2, 0, 15, 11, 0, 7, 4, 3, 2, 0, 15, 0, 1, 2, 0, 11])], [], [(1, 4, -4294967296, 2000), (4, 1, -4294967296, 2000)])
theorem oo_Mo_next_16 {kA : Nat → ClassId} : or_ok kA GG o_Mo_next_16 := by
  intro A ta ws vs hD hth hl hk hds hf
  have hl : vs.length = 11 := hl
  have hk : ∀ q ∈ ([(0, (2, 0, 0, [150])), (1, (0, 0, 2000, [])), (2, (2, 0, 0, [150])), (4, (0, 0, 1999, [])), (5, (0, -1, -1, [])), (7, (0, 58, 255, [])), (9, (0, -1, -1, [])), (10, (0, 95, 95, []))] : List (Nat × tv_T)), tv_ok ta q.2 (n_v vs q.1) := hk
  obtain ⟨t0, hk⟩ := List.forall_mem_cons.mp hk
  have t0 : tv_ok ta (2, 0, 0, [150]) (n_v vs 0) := t0
  have r0 : ta (v_ad (n_v vs 0)) = some 150 := tv_rg t0
  obtain ⟨t1, hk⟩ := List.forall_mem_cons.mp hk
  have t1 : tv_ok ta (0, 0, 2000, []) (n_v vs 1) := t1
  have k1 : 0 ≤ v_iv (n_v vs 1) ∧ v_iv (n_v vs 1) ≤ 2000 := tv_rng t1
  obtain ⟨t2, hk⟩ := List.forall_mem_cons.mp hk
  have t2 : tv_ok ta (2, 0, 0, [150]) (n_v vs 2) := t2
  have r2 : ta (v_ad (n_v vs 2)) = some 150 := tv_rg t2
  obtain ⟨t4, hk⟩ := List.forall_mem_cons.mp hk
  have t4 : tv_ok ta (0, 0, 1999, []) (n_v vs 4) := t4
  have k4 : 0 ≤ v_iv (n_v vs 4) ∧ v_iv (n_v vs 4) ≤ 1999 := tv_rng t4
  obtain ⟨t5, hk⟩ := List.forall_mem_cons.mp hk
  have t5 : tv_ok ta (0, -1, -1, []) (n_v vs 5) := t5
  have k5 : (-1) ≤ v_iv (n_v vs 5) ∧ v_iv (n_v vs 5) ≤ (-1) := tv_rng t5
  obtain ⟨t7, hk⟩ := List.forall_mem_cons.mp hk
  have t7 : tv_ok ta (0, 58, 255, []) (n_v vs 7) := t7
  have k7 : 58 ≤ v_iv (n_v vs 7) ∧ v_iv (n_v vs 7) ≤ 255 := tv_rng t7
  obtain ⟨t9, hk⟩ := List.forall_mem_cons.mp hk
  have t9 : tv_ok ta (0, -1, -1, []) (n_v vs 9) := t9
  have k9 : (-1) ≤ v_iv (n_v vs 9) ∧ v_iv (n_v vs 9) ≤ (-1) := tv_rng t9
  obtain ⟨t10, hk⟩ := List.forall_mem_cons.mp hk
  have t10 : tv_ok ta (0, 95, 95, []) (n_v vs 10) := t10
  have k10 : 95 ≤ v_iv (n_v vs 10) ∧ v_iv (n_v vs 10) ≤ 95 := tv_rng t10
  have hds : ∀ q ∈ ([(1, 4, -4294967296, 2000), (4, 1, -4294967296, 2000)] : List of_T), n_iv vs q.2.1 + q.2.2.1 ≤ n_iv vs q.1 ∧ n_iv vs q.1 ≤ n_iv vs q.2.1 + q.2.2.2 := hds
  obtain ⟨d0, hds⟩ := List.forall_mem_cons.mp hds
  have d0 : v_iv (n_v vs 4) + (-4294967296) ≤ v_iv (n_v vs 1) ∧ v_iv (n_v vs 1) ≤ v_iv (n_v vs 4) + 2000 := d0
  obtain ⟨d1, hds⟩ := List.forall_mem_cons.mp hds
  have d1 : v_iv (n_v vs 1) + (-4294967296) ≤ v_iv (n_v vs 4) ∧ v_iv (n_v vs 4) ≤ v_iv (n_v vs 1) + 2000 := d1
  have hf : fc_ok [(7, [9, 10], [1]), (20, [4, 2, 9], [50, 1, 1, 1010, 1001, 4, 11, 0, 6, 4, 2, 1, 0, 0, 1, 2, 1, 10, 1, 2, 1, 2, 9, 5, 3, 1, 1, 1, 0, 0, 256]), (20, [2, 4, 9], [50, 1, 0, 10, 4, 7, 0, 3, 2, 0, 10, 1, 1, 1, 2, 1, 2, 0, -1]), (9, [4, 2], [11]), (20, [4, 2, 7], [50, 1, 1, 1010, 1001, 4, 11, 0, 6, 4, 2, 1, 0, 0, 1, 2, 1, 10, 1, 2, 1, 2, 9, 5, 3, 1, 1, 1, 0, 0, 256]), (20, [2, 4, 7], [50, 1, 0, 10, 4, 7, 0, 3, 2, 0, 10, 1, 1, 1, 2, 1, 2, 0, -1]), (20, [4, 2, 5], [50, 1, 1, 1010, 1001, 4, 11, 0, 6, 4, 2, 1, 0, 0, 1, 2, 1, 10, 1, 2, 1, 2, 9, 5, 3, 1, 1, 1, 0, 0, 256]), (20, [2, 4, 5], [50, 1, 0, 10, 4, 7, 0, 3, 2, 0, 10, 1, 1, 1, 2, 1, 2, 0, -1]), (20, [1, 2], [30, 0, 1, 0, 0, -1, 1, 15]), (20, [2], [50, 3, 1, 15, 11, 10, 1, 2, 8, 0, 3, 2, 0, 15, 2, 0, 11, 3, 12, 0, 7, 4, 3, 2, 0, 15, 0, 1, 2, 0, 11, 2, 8, 1, 3, 2, 0, 11, 2, 0, 15, 2, 12, 0, 7, 4, 3, 2, 0, 15, 0, 1, 2, 0, 10, 3, 30, 2, 14, 0, 2, 0, 65, 9, 6, 3, 0, 1, 2, 0, 15, 0, 256, 0, 10, 9, 6, 3, 0, 1, 2, 0, 15, 0, 256, 0, 90, 2, 14, 0, 2, 0, 97, 9, 6, 3, 0, 1, 2, 0, 15, 0, 256, 0, 10, 9, 6, 3, 0, 1, 2, 0, 15, 0, 256, 0, 122]), (24, [0, 2], [])] ta ws vs := hf
  obtain ⟨f0, hf⟩ := fc_un (show (7 : Nat) < 100 from by decide) hf
  have f0 : v_iv (n_v vs 9) ≠ v_iv (n_v vs 10) := f0
  obtain ⟨f1, hf⟩ := fc_un (show (20 : Nat) < 100 from by decide) hf
  have f1 : ((v_iv (n_v vs 4) + 1) ≤ w_fi ws (n_v vs 2) 10) → (v_iv (n_v vs 9) = (w_ei ws (w_ar ws (n_v vs 2) 1) (v_iv (n_v vs 4)) % 256)) := f1
  obtain ⟨f2, hf⟩ := fc_un (show (20 : Nat) < 100 from by decide) hf
  have f2 : (w_fi ws (n_v vs 2) 10 ≤ v_iv (n_v vs 4)) → (v_iv (n_v vs 9) = (-1)) := f2
  obtain ⟨f3, hf⟩ := fc_un (show (9 : Nat) < 100 from by decide) hf
  have f3 : n_v vs 4 = w_fd ws (v_ad (n_v vs 2)) 11 := f3
  obtain ⟨f4, hf⟩ := fc_un (show (20 : Nat) < 100 from by decide) hf
  have f4 : ((v_iv (n_v vs 4) + 1) ≤ w_fi ws (n_v vs 2) 10) → (v_iv (n_v vs 7) = (w_ei ws (w_ar ws (n_v vs 2) 1) (v_iv (n_v vs 4)) % 256)) := f4
  obtain ⟨f5, hf⟩ := fc_un (show (20 : Nat) < 100 from by decide) hf
  have f5 : (w_fi ws (n_v vs 2) 10 ≤ v_iv (n_v vs 4)) → (v_iv (n_v vs 7) = (-1)) := f5
  obtain ⟨f6, hf⟩ := fc_un (show (20 : Nat) < 100 from by decide) hf
  have f6 : ((v_iv (n_v vs 4) + 1) ≤ w_fi ws (n_v vs 2) 10) → (v_iv (n_v vs 5) = (w_ei ws (w_ar ws (n_v vs 2) 1) (v_iv (n_v vs 4)) % 256)) := f6
  obtain ⟨f7, hf⟩ := fc_un (show (20 : Nat) < 100 from by decide) hf
  have f7 : (w_fi ws (n_v vs 2) 10 ≤ v_iv (n_v vs 4)) → (v_iv (n_v vs 5) = (-1)) := f7
  obtain ⟨f8, hf⟩ := fc_un (show (20 : Nat) < 100 from by decide) hf
  have f8 : 1 * v_iv (n_v vs 1) + ((-1) * w_fi ws (n_v vs 2) 15 + 0) ≤ 0 := f8
  obtain ⟨f9, hf⟩ := fc_un (show (20 : Nat) < 100 from by decide) hf
  have f9 : (w_fi ws (n_v vs 2) 15 ≤ w_fi ws (n_v vs 2) 11) ∧ (((w_fi ws (n_v vs 2) 15 + 1) ≤ w_fi ws (n_v vs 2) 11) ∨ ((w_fi ws (n_v vs 2) 11 = w_fi ws (n_v vs 2) 15) ∧ (((w_fi ws (n_v vs 2) 15 + 1) ≤ w_fi ws (n_v vs 2) 10) ∧ (((65 ≤ (w_ei ws (w_ar ws (n_v vs 2) 1) (w_fi ws (n_v vs 2) 15) % 256)) ∧ ((w_ei ws (w_ar ws (n_v vs 2) 1) (w_fi ws (n_v vs 2) 15) % 256) ≤ 90)) ∨ ((97 ≤ (w_ei ws (w_ar ws (n_v vs 2) 1) (w_fi ws (n_v vs 2) 15) % 256)) ∧ ((w_ei ws (w_ar ws (n_v vs 2) 1) (w_fi ws (n_v vs 2) 15) % 256) ≤ 122)))))) := f9
  obtain ⟨f10, hf⟩ := fc_un (show (24 : Nat) < 100 from by decide) hf
  have f10 : n_v vs 0 = n_v vs 2 := f10
  have q2 : n_v vs 2 = n_v vs 0 := f10.symm
  rw [q2] at f1
  rw [q2] at f2
  rw [q2] at f3
  rw [q2] at f4
  rw [q2] at f5
  rw [q2] at f6
  rw [q2] at f7
  rw [q2] at f8
  rw [q2] at f9
  have cr_0_1 : ta (w_ar ws (n_v vs 0) 1) = some 151 := tv_rg (th_fd hD hth r0 (g := GG_150) rfl (k := 1) (t := (2, 0, 0, [151])) rfl rfl)
  have g3 : v_iv (n_v vs 4) = w_fi ws (n_v vs 0) 11 := congrArg v_iv f3
  have hK_0_1 : ∀ j : Int, 0 ≤ j → j < 2000 → (-128) ≤ w_ei ws (w_ar ws (n_v vs 0) 1) j ∧ w_ei ws (w_ar ws (n_v vs 0) 1) j ≤ 127 := fun j h0 h1 => th_el hD hth cr_0_1 (kd := 1) (n := 2000) (m := 2000) (lo := (-128)) (hi := 127) (rs := []) (L := []) rfl (by decide) (j := j.toNat) (by omega)
  have kz_0_10 : 0 ≤ w_fi ws (n_v vs 0) 10 ∧ w_fi ws (n_v vs 0) 10 ≤ 2000 := tv_rng (th_fd hD hth r0 (g := GG_150) rfl (k := 10) (t := (0, 0, 2000, [])) rfl rfl)
  have kz_0_11 : 0 ≤ w_fi ws (n_v vs 0) 11 ∧ w_fi ws (n_v vs 0) 11 ≤ 2000 := tv_rng (th_fd hD hth r0 (g := GG_150) rfl (k := 11) (t := (0, 0, 2000, [])) rfl rfl)
  have kz_0_15 : 0 ≤ w_fi ws (n_v vs 0) 15 ∧ w_fi ws (n_v vs 0) 15 ≤ 2000 := tv_rng (th_fd hD hth r0 (g := GG_150) rfl (k := 15) (t := (0, 0, 2000, [])) rfl rfl)
  have nf0 : fc_1 (20, [2], [50, 2, 0, 15, 11, 0, 7, 4, 3, 2, 0, 15, 0, 1, 2, 0, 11]) ws (vs) := by
    refine ⟨fun n hn => ?_, ?_⟩
    · have hn : n ∈ [2] := hn
      rw [hl]
      simp only [List.mem_cons, List.not_mem_nil, or_false] at hn
      show n < 11; omega
    · show (w_fi ws (n_v vs 2) 15 + 1) ≤ w_fi ws (n_v vs 2) 11
      rw [q2]
      first | omega | grind
  refine ⟨(fun _ h => (by cases h)), [], trivial, ?_, (fun _ h => (by cases h))⟩
  rw [List.append_nil]
  exact List.forall_mem_cons.mpr ⟨⟨show (20 : Nat) < 100 from by decide, nf0⟩, (fun _ h => (by cases h))⟩
def o_Mo_next_17 : or_T := (147, 11, [(0, (2, 0, 0, [150])), (1, (0, 0, 2000, [])), (2, (2, 0, 0, [150])), (4, (0, 0, 1999, [])), (5, (0, -1, -1, [])), (7, (0, 58, 255, [])), (9, (0, 0, 255, [])), (10, (0, 95, 95, []))], [(7, [9, 10], [1]), (20, [4, 2, 9], [50, 1, 1, 1010, 1001, 4, 11, 0, 6, 4, 2, 1, 0, 0, 1, 2, 1, 10, 1, 2, 1, 2, 9, 5, 3, 1, 1, 1, 0, 0, 256]), (20, [2, 4, 9], [50, 1, 0, 10, 4, 7, 0, 3, 2, 0, 10, 1, 1, 1, 2, 1, 2, 0, -1]), (9, [4, 2], [11]), (20, [4, 2, 7], [50, 1, 1, 1010, 1001, 4, 11, 0, 6, 4, 2, 1, 0, 0, 1, 2, 1, 10, 1, 2, 1, 2, 9, 5, 3, 1, 1, 1, 0, 0, 256]), (20, [2, 4, 7], [50, 1, 0, 10, 4, 7, 0, 3, 2, 0, 10, 1, 1, 1, 2, 1, 2, 0, -1]), (20, [4, 2, 5], [50, 1, 1, 1010, 1001, 4, 11, 0, 6, 4, 2, 1, 0, 0, 1, 2, 1, 10, 1, 2, 1, 2, 9, 5, 3, 1, 1, 1, 0, 0, 256]), (20, [2, 4, 5], [50, 1, 0, 10, 4, 7, 0, 3, 2, 0, 10, 1, 1, 1, 2, 1, 2, 0, -1]), (20, [1, 2], [30, 0, 1, 0, 0, -1, 1, 15]), (20, [2], [50, 3, 1, 15, 11, 10, 1, 2, 8, 0, 3, 2, 0, 15, 2, 0, 11, 3, 12, 0, 7, 4, 3, 2, 0, 15, 0, 1, 2, 0, 11, 2, 8, 1, 3, 2, 0, 11, 2, 0, 15, 2, 12, 0, 7, 4, 3, 2, 0, 15, 0, 1, 2, 0, 10, 3, 30, 2, 14, 0, 2, 0, 65, 9, 6, 3, 0, 1, 2, 0, 15, 0, 256, 0, 10, 9, 6, 3, 0, 1, 2, 0, 15, 0, 256, 0, 90, 2, 14, 0, 2, 0, 97, 9, 6, 3, 0, 1, 2, 0, 15, 0, 256, 0, 10, 9, 6, 3, 0, 1, 2, 0, 15, 0, 256, 0, 122]), (24, [0, 2], [])], [], [], [(20, [2], [50, 2, 0, 15, 11, 0, 7, 4, 3, 2, 0, 15, 0, 1, 2, 0, 11])], [], [(1, 4, -4294967296, 2000), (4, 1, -4294967296, 2000)])
theorem oo_Mo_next_17 {kA : Nat → ClassId} : or_ok kA GG o_Mo_next_17 := by
  intro A ta ws vs hD hth hl hk hds hf
  have hl : vs.length = 11 := hl
  have hk : ∀ q ∈ ([(0, (2, 0, 0, [150])), (1, (0, 0, 2000, [])), (2, (2, 0, 0, [150])), (4, (0, 0, 1999, [])), (5, (0, -1, -1, [])), (7, (0, 58, 255, [])), (9, (0, 0, 255, [])), (10, (0, 95, 95, []))] : List (Nat × tv_T)), tv_ok ta q.2 (n_v vs q.1) := hk
  obtain ⟨t0, hk⟩ := List.forall_mem_cons.mp hk
  have t0 : tv_ok ta (2, 0, 0, [150]) (n_v vs 0) := t0
  have r0 : ta (v_ad (n_v vs 0)) = some 150 := tv_rg t0
  obtain ⟨t1, hk⟩ := List.forall_mem_cons.mp hk
  have t1 : tv_ok ta (0, 0, 2000, []) (n_v vs 1) := t1
  have k1 : 0 ≤ v_iv (n_v vs 1) ∧ v_iv (n_v vs 1) ≤ 2000 := tv_rng t1
  obtain ⟨t2, hk⟩ := List.forall_mem_cons.mp hk
  have t2 : tv_ok ta (2, 0, 0, [150]) (n_v vs 2) := t2
  have r2 : ta (v_ad (n_v vs 2)) = some 150 := tv_rg t2
  obtain ⟨t4, hk⟩ := List.forall_mem_cons.mp hk
  have t4 : tv_ok ta (0, 0, 1999, []) (n_v vs 4) := t4
  have k4 : 0 ≤ v_iv (n_v vs 4) ∧ v_iv (n_v vs 4) ≤ 1999 := tv_rng t4
  obtain ⟨t5, hk⟩ := List.forall_mem_cons.mp hk
  have t5 : tv_ok ta (0, -1, -1, []) (n_v vs 5) := t5
  have k5 : (-1) ≤ v_iv (n_v vs 5) ∧ v_iv (n_v vs 5) ≤ (-1) := tv_rng t5
  obtain ⟨t7, hk⟩ := List.forall_mem_cons.mp hk
  have t7 : tv_ok ta (0, 58, 255, []) (n_v vs 7) := t7
  have k7 : 58 ≤ v_iv (n_v vs 7) ∧ v_iv (n_v vs 7) ≤ 255 := tv_rng t7
  obtain ⟨t9, hk⟩ := List.forall_mem_cons.mp hk
  have t9 : tv_ok ta (0, 0, 255, []) (n_v vs 9) := t9
  have k9 : 0 ≤ v_iv (n_v vs 9) ∧ v_iv (n_v vs 9) ≤ 255 := tv_rng t9
  obtain ⟨t10, hk⟩ := List.forall_mem_cons.mp hk
  have t10 : tv_ok ta (0, 95, 95, []) (n_v vs 10) := t10
  have k10 : 95 ≤ v_iv (n_v vs 10) ∧ v_iv (n_v vs 10) ≤ 95 := tv_rng t10
  have hds : ∀ q ∈ ([(1, 4, -4294967296, 2000), (4, 1, -4294967296, 2000)] : List of_T), n_iv vs q.2.1 + q.2.2.1 ≤ n_iv vs q.1 ∧ n_iv vs q.1 ≤ n_iv vs q.2.1 + q.2.2.2 := hds
  obtain ⟨d0, hds⟩ := List.forall_mem_cons.mp hds
  have d0 : v_iv (n_v vs 4) + (-4294967296) ≤ v_iv (n_v vs 1) ∧ v_iv (n_v vs 1) ≤ v_iv (n_v vs 4) + 2000 := d0
  obtain ⟨d1, hds⟩ := List.forall_mem_cons.mp hds
  have d1 : v_iv (n_v vs 1) + (-4294967296) ≤ v_iv (n_v vs 4) ∧ v_iv (n_v vs 4) ≤ v_iv (n_v vs 1) + 2000 := d1
  have hf : fc_ok [(7, [9, 10], [1]), (20, [4, 2, 9], [50, 1, 1, 1010, 1001, 4, 11, 0, 6, 4, 2, 1, 0, 0, 1, 2, 1, 10, 1, 2, 1, 2, 9, 5, 3, 1, 1, 1, 0, 0, 256]), (20, [2, 4, 9], [50, 1, 0, 10, 4, 7, 0, 3, 2, 0, 10, 1, 1, 1, 2, 1, 2, 0, -1]), (9, [4, 2], [11]), (20, [4, 2, 7], [50, 1, 1, 1010, 1001, 4, 11, 0, 6, 4, 2, 1, 0, 0, 1, 2, 1, 10, 1, 2, 1, 2, 9, 5, 3, 1, 1, 1, 0, 0, 256]), (20, [2, 4, 7], [50, 1, 0, 10, 4, 7, 0, 3, 2, 0, 10, 1, 1, 1, 2, 1, 2, 0, -1]), (20, [4, 2, 5], [50, 1, 1, 1010, 1001, 4, 11, 0, 6, 4, 2, 1, 0, 0, 1, 2, 1, 10, 1, 2, 1, 2, 9, 5, 3, 1, 1, 1, 0, 0, 256]), (20, [2, 4, 5], [50, 1, 0, 10, 4, 7, 0, 3, 2, 0, 10, 1, 1, 1, 2, 1, 2, 0, -1]), (20, [1, 2], [30, 0, 1, 0, 0, -1, 1, 15]), (20, [2], [50, 3, 1, 15, 11, 10, 1, 2, 8, 0, 3, 2, 0, 15, 2, 0, 11, 3, 12, 0, 7, 4, 3, 2, 0, 15, 0, 1, 2, 0, 11, 2, 8, 1, 3, 2, 0, 11, 2, 0, 15, 2, 12, 0, 7, 4, 3, 2, 0, 15, 0, 1, 2, 0, 10, 3, 30, 2, 14, 0, 2, 0, 65, 9, 6, 3, 0, 1, 2, 0, 15, 0, 256, 0, 10, 9, 6, 3, 0, 1, 2, 0, 15, 0, 256, 0, 90, 2, 14, 0, 2, 0, 97, 9, 6, 3, 0, 1, 2, 0, 15, 0, 256, 0, 10, 9, 6, 3, 0, 1, 2, 0, 15, 0, 256, 0, 122]), (24, [0, 2], [])] ta ws vs := hf
  obtain ⟨f0, hf⟩ := fc_un (show (7 : Nat) < 100 from by decide) hf
  have f0 : v_iv (n_v vs 9) ≠ v_iv (n_v vs 10) := f0
  obtain ⟨f1, hf⟩ := fc_un (show (20 : Nat) < 100 from by decide) hf
  have f1 : ((v_iv (n_v vs 4) + 1) ≤ w_fi ws (n_v vs 2) 10) → (v_iv (n_v vs 9) = (w_ei ws (w_ar ws (n_v vs 2) 1) (v_iv (n_v vs 4)) % 256)) := f1
  obtain ⟨f2, hf⟩ := fc_un (show (20 : Nat) < 100 from by decide) hf
  have f2 : (w_fi ws (n_v vs 2) 10 ≤ v_iv (n_v vs 4)) → (v_iv (n_v vs 9) = (-1)) := f2
  obtain ⟨f3, hf⟩ := fc_un (show (9 : Nat) < 100 from by decide) hf
  have f3 : n_v vs 4 = w_fd ws (v_ad (n_v vs 2)) 11 := f3
  obtain ⟨f4, hf⟩ := fc_un (show (20 : Nat) < 100 from by decide) hf
  have f4 : ((v_iv (n_v vs 4) + 1) ≤ w_fi ws (n_v vs 2) 10) → (v_iv (n_v vs 7) = (w_ei ws (w_ar ws (n_v vs 2) 1) (v_iv (n_v vs 4)) % 256)) := f4
  obtain ⟨f5, hf⟩ := fc_un (show (20 : Nat) < 100 from by decide) hf
  have f5 : (w_fi ws (n_v vs 2) 10 ≤ v_iv (n_v vs 4)) → (v_iv (n_v vs 7) = (-1)) := f5
  obtain ⟨f6, hf⟩ := fc_un (show (20 : Nat) < 100 from by decide) hf
  have f6 : ((v_iv (n_v vs 4) + 1) ≤ w_fi ws (n_v vs 2) 10) → (v_iv (n_v vs 5) = (w_ei ws (w_ar ws (n_v vs 2) 1) (v_iv (n_v vs 4)) % 256)) := f6
  obtain ⟨f7, hf⟩ := fc_un (show (20 : Nat) < 100 from by decide) hf
  have f7 : (w_fi ws (n_v vs 2) 10 ≤ v_iv (n_v vs 4)) → (v_iv (n_v vs 5) = (-1)) := f7
  obtain ⟨f8, hf⟩ := fc_un (show (20 : Nat) < 100 from by decide) hf
  have f8 : 1 * v_iv (n_v vs 1) + ((-1) * w_fi ws (n_v vs 2) 15 + 0) ≤ 0 := f8
  obtain ⟨f9, hf⟩ := fc_un (show (20 : Nat) < 100 from by decide) hf
  have f9 : (w_fi ws (n_v vs 2) 15 ≤ w_fi ws (n_v vs 2) 11) ∧ (((w_fi ws (n_v vs 2) 15 + 1) ≤ w_fi ws (n_v vs 2) 11) ∨ ((w_fi ws (n_v vs 2) 11 = w_fi ws (n_v vs 2) 15) ∧ (((w_fi ws (n_v vs 2) 15 + 1) ≤ w_fi ws (n_v vs 2) 10) ∧ (((65 ≤ (w_ei ws (w_ar ws (n_v vs 2) 1) (w_fi ws (n_v vs 2) 15) % 256)) ∧ ((w_ei ws (w_ar ws (n_v vs 2) 1) (w_fi ws (n_v vs 2) 15) % 256) ≤ 90)) ∨ ((97 ≤ (w_ei ws (w_ar ws (n_v vs 2) 1) (w_fi ws (n_v vs 2) 15) % 256)) ∧ ((w_ei ws (w_ar ws (n_v vs 2) 1) (w_fi ws (n_v vs 2) 15) % 256) ≤ 122)))))) := f9
  obtain ⟨f10, hf⟩ := fc_un (show (24 : Nat) < 100 from by decide) hf
  have f10 : n_v vs 0 = n_v vs 2 := f10
  have q2 : n_v vs 2 = n_v vs 0 := f10.symm
  rw [q2] at f1
  rw [q2] at f2
  rw [q2] at f3
  rw [q2] at f4
  rw [q2] at f5
  rw [q2] at f6
  rw [q2] at f7
  rw [q2] at f8
  rw [q2] at f9
  have cr_0_1 : ta (w_ar ws (n_v vs 0) 1) = some 151 := tv_rg (th_fd hD hth r0 (g := GG_150) rfl (k := 1) (t := (2, 0, 0, [151])) rfl rfl)
  have g3 : v_iv (n_v vs 4) = w_fi ws (n_v vs 0) 11 := congrArg v_iv f3
  have hK_0_1 : ∀ j : Int, 0 ≤ j → j < 2000 → (-128) ≤ w_ei ws (w_ar ws (n_v vs 0) 1) j ∧ w_ei ws (w_ar ws (n_v vs 0) 1) j ≤ 127 := fun j h0 h1 => th_el hD hth cr_0_1 (kd := 1) (n := 2000) (m := 2000) (lo := (-128)) (hi := 127) (rs := []) (L := []) rfl (by decide) (j := j.toNat) (by omega)
  have kz_0_10 : 0 ≤ w_fi ws (n_v vs 0) 10 ∧ w_fi ws (n_v vs 0) 10 ≤ 2000 := tv_rng (th_fd hD hth r0 (g := GG_150) rfl (k := 10) (t := (0, 0, 2000, [])) rfl rfl)
  have kz_0_11 : 0 ≤ w_fi ws (n_v vs 0) 11 ∧ w_fi ws (n_v vs 0) 11 ≤ 2000 := tv_rng (th_fd hD hth r0 (g := GG_150) rfl (k := 11) (t := (0, 0, 2000, [])) rfl rfl)
  have kz_0_15 : 0 ≤ w_fi ws (n_v vs 0) 15 ∧ w_fi ws (n_v vs 0) 15 ≤ 2000 := tv_rng (th_fd hD hth r0 (g := GG_150) rfl (k := 15) (t := (0, 0, 2000, [])) rfl rfl)
  have nf0 : fc_1 (20, [2], [50, 2, 0, 15, 11, 0, 7, 4, 3, 2, 0, 15, 0, 1, 2, 0, 11]) ws (vs) := by
    refine ⟨fun n hn => ?_, ?_⟩
    · have hn : n ∈ [2] := hn
      rw [hl]
      simp only [List.mem_cons, List.not_mem_nil, or_false] at hn
      show n < 11; omega
    · show (w_fi ws (n_v vs 2) 15 + 1) ≤ w_fi ws (n_v vs 2) 11
      rw [q2]
      first | omega | grind
  refine ⟨(fun _ h => (by cases h)), [], trivial, ?_, (fun _ h => (by cases h))⟩
  rw [List.append_nil]
  exact List.forall_mem_cons.mpr ⟨⟨show (20 : Nat) < 100 from by decide, nf0⟩, (fun _ h => (by cases h))⟩
def o_Mo_next_18 : or_T := (147, 11, [(0, (2, 0, 0, [150])), (1, (0, 0, 2000, [])), (2, (2, 0, 0, [150])), (4, (0, 0, 1999, [])), (5, (0, 0, 64, [])), (7, (0, -1, -1, [])), (9, (0, -1, -1, [])), (10, (0, 95, 95, []))], [(7, [9, 10], [1]), (20, [4, 2, 9], [50, 1, 1, 1010, 1001, 4, 11, 0, 6, 4, 2, 1, 0, 0, 1, 2, 1, 10, 1, 2, 1, 2, 9, 5, 3, 1, 1, 1, 0, 0, 256]), (20, [2, 4, 9], [50, 1, 0, 10, 4, 7, 0, 3, 2, 0, 10, 1, 1, 1, 2, 1, 2, 0, -1]), (9, [4, 2], [11]), (20, [4, 2, 7], [50, 1, 1, 1010, 1001, 4, 11, 0, 6, 4, 2, 1, 0, 0, 1, 2, 1, 10, 1, 2, 1, 2, 9, 5, 3, 1, 1, 1, 0, 0, 256]), (20, [2, 4, 7], [50, 1, 0, 10, 4, 7, 0, 3, 2, 0, 10, 1, 1, 1, 2, 1, 2, 0, -1]), (20, [4, 2, 5], [50, 1, 1, 1010, 1001, 4, 11, 0, 6, 4, 2, 1, 0, 0, 1, 2, 1, 10, 1, 2, 1, 2, 9, 5, 3, 1, 1, 1, 0, 0, 256]), (20, [2, 4, 5], [50, 1, 0, 10, 4, 7, 0, 3, 2, 0, 10, 1, 1, 1, 2, 1, 2, 0, -1]), (20, [1, 2], [30, 0, 1, 0, 0, -1, 1, 15]), (20, [2], [50, 3, 1, 15, 11, 10, 1, 2, 8, 0, 3, 2, 0, 15, 2, 0, 11, 3, 12, 0, 7, 4, 3, 2, 0, 15, 0, 1, 2, 0, 11, 2, 8, 1, 3, 2, 0, 11, 2, 0, 15, 2, 12, 0, 7, 4, 3, 2, 0, 15, 0, 1, 2, 0, 10, 3, 30, 2, 14, 0, 2, 0, 65, 9, 6, 3, 0, 1, 2, 0, 15, 0, 256, 0, 10, 9, 6, 3, 0, 1, 2, 0, 15, 0, 256, 0, 90, 2, 14, 0, 2, 0, 97, 9, 6, 3, 0, 1, 2, 0, 15, 0, 256, 0, 10, 9, 6, 3, 0, 1, 2, 0, 15, 0, 256, 0, 122]), (24, [0, 2], [])], [], [], [(20, [2], [50, 2, 0, 15, 11, 0, 7, 4, 3, 2, 0, 15, 0, 1, 2, 0, 11])], [], [(1, 4, -4294967296, 2000), (4, 1, -4294967296, 2000)])
theorem oo_Mo_next_18 {kA : Nat → ClassId} : or_ok kA GG o_Mo_next_18 := by
  intro A ta ws vs hD hth hl hk hds hf
  have hl : vs.length = 11 := hl
  have hk : ∀ q ∈ ([(0, (2, 0, 0, [150])), (1, (0, 0, 2000, [])), (2, (2, 0, 0, [150])), (4, (0, 0, 1999, [])), (5, (0, 0, 64, [])), (7, (0, -1, -1, [])), (9, (0, -1, -1, [])), (10, (0, 95, 95, []))] : List (Nat × tv_T)), tv_ok ta q.2 (n_v vs q.1) := hk
  obtain ⟨t0, hk⟩ := List.forall_mem_cons.mp hk
  have t0 : tv_ok ta (2, 0, 0, [150]) (n_v vs 0) := t0
  have r0 : ta (v_ad (n_v vs 0)) = some 150 := tv_rg t0
  obtain ⟨t1, hk⟩ := List.forall_mem_cons.mp hk
  have t1 : tv_ok ta (0, 0, 2000, []) (n_v vs 1) := t1
  have k1 : 0 ≤ v_iv (n_v vs 1) ∧ v_iv (n_v vs 1) ≤ 2000 := tv_rng t1
  obtain ⟨t2, hk⟩ := List.forall_mem_cons.mp hk
  have t2 : tv_ok ta (2, 0, 0, [150]) (n_v vs 2) := t2
  have r2 : ta (v_ad (n_v vs 2)) = some 150 := tv_rg t2
  obtain ⟨t4, hk⟩ := List.forall_mem_cons.mp hk
  have t4 : tv_ok ta (0, 0, 1999, []) (n_v vs 4) := t4
  have k4 : 0 ≤ v_iv (n_v vs 4) ∧ v_iv (n_v vs 4) ≤ 1999 := tv_rng t4
  obtain ⟨t5, hk⟩ := List.forall_mem_cons.mp hk
  have t5 : tv_ok ta (0, 0, 64, []) (n_v vs 5) := t5
  have k5 : 0 ≤ v_iv (n_v vs 5) ∧ v_iv (n_v vs 5) ≤ 64 := tv_rng t5
  obtain ⟨t7, hk⟩ := List.forall_mem_cons.mp hk
  have t7 : tv_ok ta (0, -1, -1, []) (n_v vs 7) := t7
  have k7 : (-1) ≤ v_iv (n_v vs 7) ∧ v_iv (n_v vs 7) ≤ (-1) := tv_rng t7
  obtain ⟨t9, hk⟩ := List.forall_mem_cons.mp hk
  have t9 : tv_ok ta (0, -1, -1, []) (n_v vs 9) := t9
  have k9 : (-1) ≤ v_iv (n_v vs 9) ∧ v_iv (n_v vs 9) ≤ (-1) := tv_rng t9
  obtain ⟨t10, hk⟩ := List.forall_mem_cons.mp hk
  have t10 : tv_ok ta (0, 95, 95, []) (n_v vs 10) := t10
  have k10 : 95 ≤ v_iv (n_v vs 10) ∧ v_iv (n_v vs 10) ≤ 95 := tv_rng t10
  have hds : ∀ q ∈ ([(1, 4, -4294967296, 2000), (4, 1, -4294967296, 2000)] : List of_T), n_iv vs q.2.1 + q.2.2.1 ≤ n_iv vs q.1 ∧ n_iv vs q.1 ≤ n_iv vs q.2.1 + q.2.2.2 := hds
  obtain ⟨d0, hds⟩ := List.forall_mem_cons.mp hds
  have d0 : v_iv (n_v vs 4) + (-4294967296) ≤ v_iv (n_v vs 1) ∧ v_iv (n_v vs 1) ≤ v_iv (n_v vs 4) + 2000 := d0
  obtain ⟨d1, hds⟩ := List.forall_mem_cons.mp hds
  have d1 : v_iv (n_v vs 1) + (-4294967296) ≤ v_iv (n_v vs 4) ∧ v_iv (n_v vs 4) ≤ v_iv (n_v vs 1) + 2000 := d1
  have hf : fc_ok [(7, [9, 10], [1]), (20, [4, 2, 9], [50, 1, 1, 1010, 1001, 4, 11, 0, 6, 4, 2, 1, 0, 0, 1, 2, 1, 10, 1, 2, 1, 2, 9, 5, 3, 1, 1, 1, 0, 0, 256]), (20, [2, 4, 9], [50, 1, 0, 10, 4, 7, 0, 3, 2, 0, 10, 1, 1, 1, 2, 1, 2, 0, -1]), (9, [4, 2], [11]), (20, [4, 2, 7], [50, 1, 1, 1010, 1001, 4, 11, 0, 6, 4, 2, 1, 0, 0, 1, 2, 1, 10, 1, 2, 1, 2, 9, 5, 3, 1, 1, 1, 0, 0, 256]), (20, [2, 4, 7], [50, 1, 0, 10, 4, 7, 0, 3, 2, 0, 10, 1, 1, 1, 2, 1, 2, 0, -1]), (20, [4, 2, 5], [50, 1, 1, 1010, 1001, 4, 11, 0, 6, 4, 2, 1, 0, 0, 1, 2, 1, 10, 1, 2, 1, 2, 9, 5, 3, 1, 1, 1, 0, 0, 256]), (20, [2, 4, 5], [50, 1, 0, 10, 4, 7, 0, 3, 2, 0, 10, 1, 1, 1, 2, 1, 2, 0, -1]), (20, [1, 2], [30, 0, 1, 0, 0, -1, 1, 15]), (20, [2], [50, 3, 1, 15, 11, 10, 1, 2, 8, 0, 3, 2, 0, 15, 2, 0, 11, 3, 12, 0, 7, 4, 3, 2, 0, 15, 0, 1, 2, 0, 11, 2, 8, 1, 3, 2, 0, 11, 2, 0, 15, 2, 12, 0, 7, 4, 3, 2, 0, 15, 0, 1, 2, 0, 10, 3, 30, 2, 14, 0, 2, 0, 65, 9, 6, 3, 0, 1, 2, 0, 15, 0, 256, 0, 10, 9, 6, 3, 0, 1, 2, 0, 15, 0, 256, 0, 90, 2, 14, 0, 2, 0, 97, 9, 6, 3, 0, 1, 2, 0, 15, 0, 256, 0, 10, 9, 6, 3, 0, 1, 2, 0, 15, 0, 256, 0, 122]), (24, [0, 2], [])] ta ws vs := hf
  obtain ⟨f0, hf⟩ := fc_un (show (7 : Nat) < 100 from by decide) hf
  have f0 : v_iv (n_v vs 9) ≠ v_iv (n_v vs 10) := f0
  obtain ⟨f1, hf⟩ := fc_un (show (20 : Nat) < 100 from by decide) hf
  have f1 : ((v_iv (n_v vs 4) + 1) ≤ w_fi ws (n_v vs 2) 10) → (v_iv (n_v vs 9) = (w_ei ws (w_ar ws (n_v vs 2) 1) (v_iv (n_v vs 4)) % 256)) := f1
  obtain ⟨f2, hf⟩ := fc_un (show (20 : Nat) < 100 from by decide) hf
  have f2 : (w_fi ws (n_v vs 2) 10 ≤ v_iv (n_v vs 4)) → (v_iv (n_v vs 9) = (-1)) := f2
  obtain ⟨f3, hf⟩ := fc_un (show (9 : Nat) < 100 from by decide) hf
  have f3 : n_v vs 4 = w_fd ws (v_ad (n_v vs 2)) 11 := f3
  obtain ⟨f4, hf⟩ := fc_un (show (20 : Nat) < 100 from by decide) hf
  have f4 : ((v_iv (n_v vs 4) + 1) ≤ w_fi ws (n_v vs 2) 10) → (v_iv (n_v vs 7) = (w_ei ws (w_ar ws (n_v vs 2) 1) (v_iv (n_v vs 4)) % 256)) := f4
  obtain ⟨f5, hf⟩ := fc_un (show (20 : Nat) < 100 from by decide) hf
  have f5 : (w_fi ws (n_v vs 2) 10 ≤ v_iv (n_v vs 4)) → (v_iv (n_v vs 7) = (-1)) := f5
  obtain ⟨f6, hf⟩ := fc_un (show (20 : Nat) < 100 from by decide) hf
  have f6 : ((v_iv (n_v vs 4) + 1) ≤ w_fi ws (n_v vs 2) 10) → (v_iv (n_v vs 5) = (w_ei ws (w_ar ws (n_v vs 2) 1) (v_iv (n_v vs 4)) % 256)) := f6
  obtain ⟨f7, hf⟩ := fc_un (show (20 : Nat) < 100 from by decide) hf
  have f7 : (w_fi ws (n_v vs 2) 10 ≤ v_iv (n_v vs 4)) → (v_iv (n_v vs 5) = (-1)) := f7
  obtain ⟨f8, hf⟩ := fc_un (show (20 : Nat) < 100 from by decide) hf
  have f8 : 1 * v_iv (n_v vs 1) + ((-1) * w_fi ws (n_v vs 2) 15 + 0) ≤ 0 := f8
  obtain ⟨f9, hf⟩ := fc_un (show (20 : Nat) < 100 from by decide) hf
  have f9 : (w_fi ws (n_v vs 2) 15 ≤ w_fi ws (n_v vs 2) 11) ∧ (((w_fi ws (n_v vs 2) 15 + 1) ≤ w_fi ws (n_v vs 2) 11) ∨ ((w_fi ws (n_v vs 2) 11 = w_fi ws (n_v vs 2) 15) ∧ (((w_fi ws (n_v vs 2) 15 + 1) ≤ w_fi ws (n_v vs 2) 10) ∧ (((65 ≤ (w_ei ws (w_ar ws (n_v vs 2) 1) (w_fi ws (n_v vs 2) 15) % 256)) ∧ ((w_ei ws (w_ar ws (n_v vs 2) 1) (w_fi ws (n_v vs 2) 15) % 256) ≤ 90)) ∨ ((97 ≤ (w_ei ws (w_ar ws (n_v vs 2) 1) (w_fi ws (n_v vs 2) 15) % 256)) ∧ ((w_ei ws (w_ar ws (n_v vs 2) 1) (w_fi ws (n_v vs 2) 15) % 256) ≤ 122)))))) := f9
  obtain ⟨f10, hf⟩ := fc_un (show (24 : Nat) < 100 from by decide) hf
  have f10 : n_v vs 0 = n_v vs 2 := f10
  have q2 : n_v vs 2 = n_v vs 0 := f10.symm
  rw [q2] at f1
  rw [q2] at f2
  rw [q2] at f3
  rw [q2] at f4
  rw [q2] at f5
  rw [q2] at f6
  rw [q2] at f7
  rw [q2] at f8
  rw [q2] at f9
  have cr_0_1 : ta (w_ar ws (n_v vs 0) 1) = some 151 := tv_rg (th_fd hD hth r0 (g := GG_150) rfl (k := 1) (t := (2, 0, 0, [151])) rfl rfl)
  have g3 : v_iv (n_v vs 4) = w_fi ws (n_v vs 0) 11 := congrArg v_iv f3
  have hK_0_1 : ∀ j : Int, 0 ≤ j → j < 2000 → (-128) ≤ w_ei ws (w_ar ws (n_v vs 0) 1) j ∧ w_ei ws (w_ar ws (n_v vs 0) 1) j ≤ 127 := fun j h0 h1 => th_el hD hth cr_0_1 (kd := 1) (n := 2000) (m := 2000) (lo := (-128)) (hi := 127) (rs := []) (L := []) rfl (by decide) (j := j.toNat) (by omega)
  have kz_0_10 : 0 ≤ w_fi ws (n_v vs 0) 10 ∧ w_fi ws (n_v vs 0) 10 ≤ 2000 := tv_rng (th_fd hD hth r0 (g := GG_150) rfl (k := 10) (t := (0, 0, 2000, [])) rfl rfl)
  have kz_0_11 : 0 ≤ w_fi ws (n_v vs 0) 11 ∧ w_fi ws (n_v vs 0) 11 ≤ 2000 := tv_rng (th_fd hD hth r0 (g := GG_150) rfl (k := 11) (t := (0, 0, 2000, [])) rfl rfl)
  have kz_0_15 : 0 ≤ w_fi ws (n_v vs 0) 15 ∧ w_fi ws (n_v vs 0) 15 ≤ 2000 := tv_rng (th_fd hD hth r0 (g := GG_150) rfl (k := 15) (t := (0, 0, 2000, [])) rfl rfl)
  have nf0 : fc_1 (20, [2], [50, 2, 0, 15, 11, 0, 7, 4, 3, 2, 0, 15, 0, 1, 2, 0, 11]) ws (vs) := by
    refine ⟨fun n hn => ?_, ?_⟩
    · have hn : n ∈ [2] := hn
      rw [hl]
      simp only [List.mem_cons, List.not_mem_nil, or_false] at hn
      show n < 11; omega
    · show (w_fi ws (n_v vs 2) 15 + 1) ≤ w_fi ws (n_v vs 2) 11
      rw [q2]
      first | omega | grind
  refine ⟨(fun _ h => (by cases h)), [], trivial, ?_, (fun _ h => (by cases h))⟩
  rw [List.append_nil]
  exact List.forall_mem_cons.mpr ⟨⟨show (20 : Nat) < 100 from by decide, nf0⟩, (fun _ h => (by cases h))⟩
def o_Mo_next_19 : or_T := (147, 11, [(0, (2, 0, 0, [150])), (1, (0, 0, 2000, [])), (2, (2, 0, 0, [150])), (4, (0, 0, 1999, [])), (5, (0, 0, 64, [])), (7, (0, -1, -1, [])), (9, (0, 0, 255, [])), (10, (0, 95, 95, []))], [(7, [9, 10], [1]), (20, [4, 2, 9], [50, 1, 1, 1010, 1001, 4, 11, 0, 6, 4, 2, 1, 0, 0, 1, 2, 1, 10, 1, 2, 1, 2, 9, 5, 3, 1, 1, 1, 0, 0, 256]), (20, [2, 4, 9], [50, 1, 0, 10, 4, 7, 0, 3, 2, 0, 10, 1, 1, 1, 2, 1, 2, 0, -1]), (9, [4, 2], [11]), (20, [4, 2, 7], [50, 1, 1, 1010, 1001, 4, 11, 0, 6, 4, 2, 1, 0, 0, 1, 2, 1, 10, 1, 2, 1, 2, 9, 5, 3, 1, 1, 1, 0, 0, 256]), (20, [2, 4, 7], [50, 1, 0, 10, 4, 7, 0, 3, 2, 0, 10, 1, 1, 1, 2, 1, 2, 0, -1]), (20, [4, 2, 5], [50, 1, 1, 1010, 1001, 4, 11, 0, 6, 4, 2, 1, 0, 0, 1, 2, 1, 10, 1, 2, 1, 2, 9, 5, 3, 1, 1, 1, 0, 0, 256]), (20, [2, 4, 5], [50, 1, 0, 10, 4, 7, 0, 3, 2, 0, 10, 1, 1, 1, 2, 1, 2, 0, -1]), (20, [1, 2], [30, 0, 1, 0, 0, -1, 1, 15]), (20, [2], [50, 3, 1, 15, 11, 10, 1, 2, 8, 0, 3, 2, 0, 15, 2, 0, 11, 3, 12, 0, 7, 4, 3, 2, 0, 15, 0, 1, 2, 0, 11, 2, 8, 1, 3, 2, 0, 11, 2, 0, 15, 2, 12, 0, 7, 4, 3, 2, 0, 15, 0, 1, 2, 0, 10, 3, 30, 2, 14, 0, 2, 0, 65, 9, 6, 3, 0, 1, 2, 0, 15, 0, 256, 0, 10, 9, 6, 3, 0, 1, 2, 0, 15, 0, 256, 0, 90, 2, 14, 0, 2, 0, 97, 9, 6, 3, 0, 1, 2, 0, 15, 0, 256, 0, 10, 9, 6, 3, 0, 1, 2, 0, 15, 0, 256, 0, 122]), (24, [0, 2], [])], [], [], [(20, [2], [50, 2, 0, 15, 11, 0, 7, 4, 3, 2, 0, 15, 0, 1, 2, 0, 11])], [], [(1, 4, -4294967296, 2000), (4, 1, -4294967296, 2000)])
theorem oo_Mo_next_19 {kA : Nat → ClassId} : or_ok kA GG o_Mo_next_19 := by
  intro A ta ws vs hD hth hl hk hds hf
  have hl : vs.length = 11 := hl
  have hk : ∀ q ∈ ([(0, (2, 0, 0, [150])), (1, (0, 0, 2000, [])), (2, (2, 0, 0, [150])), (4, (0, 0, 1999, [])), (5, (0, 0, 64, [])), (7, (0, -1, -1, [])), (9, (0, 0, 255, [])), (10, (0, 95, 95, []))] : List (Nat × tv_T)), tv_ok ta q.2 (n_v vs q.1) := hk
  obtain ⟨t0, hk⟩ := List.forall_mem_cons.mp hk
  have t0 : tv_ok ta (2, 0, 0, [150]) (n_v vs 0) := t0
  have r0 : ta (v_ad (n_v vs 0)) = some 150 := tv_rg t0
  obtain ⟨t1, hk⟩ := List.forall_mem_cons.mp hk
  have t1 : tv_ok ta (0, 0, 2000, []) (n_v vs 1) := t1
  have k1 : 0 ≤ v_iv (n_v vs 1) ∧ v_iv (n_v vs 1) ≤ 2000 := tv_rng t1
  obtain ⟨t2, hk⟩ := List.forall_mem_cons.mp hk
  have t2 : tv_ok ta (2, 0, 0, [150]) (n_v vs 2) := t2
  have r2 : ta (v_ad (n_v vs 2)) = some 150 := tv_rg t2
  obtain ⟨t4, hk⟩ := List.forall_mem_cons.mp hk
  have t4 : tv_ok ta (0, 0, 1999, []) (n_v vs 4) := t4
  have k4 : 0 ≤ v_iv (n_v vs 4) ∧ v_iv (n_v vs 4) ≤ 1999 := tv_rng t4
  obtain ⟨t5, hk⟩ := List.forall_mem_cons.mp hk
  have t5 : tv_ok ta (0, 0, 64, []) (n_v vs 5) := t5
  have k5 : 0 ≤ v_iv (n_v vs 5) ∧ v_iv (n_v vs 5) ≤ 64 := tv_rng t5
  obtain ⟨t7, hk⟩ := List.forall_mem_cons.mp hk
  have t7 : tv_ok ta (0, -1, -1, []) (n_v vs 7) := t7
  have k7 : (-1) ≤ v_iv (n_v vs 7) ∧ v_iv (n_v vs 7) ≤ (-1) := tv_rng t7
  obtain ⟨t9, hk⟩ := List.forall_mem_cons.mp hk
  have t9 : tv_ok ta (0, 0, 255, []) (n_v vs 9) := t9
  have k9 : 0 ≤ v_iv (n_v vs 9) ∧ v_iv (n_v vs 9) ≤ 255 := tv_rng t9
  obtain ⟨t10, hk⟩ := List.forall_mem_cons.mp hk
  have t10 : tv_ok ta (0, 95, 95, []) (n_v vs 10) := t10
  have k10 : 95 ≤ v_iv (n_v vs 10) ∧ v_iv (n_v vs 10) ≤ 95 := tv_rng t10
  have hds : ∀ q ∈ ([(1, 4, -4294967296, 2000), (4, 1, -4294967296, 2000)] : List of_T), n_iv vs q.2.1 + q.2.2.1 ≤ n_iv vs q.1 ∧ n_iv vs q.1 ≤ n_iv vs q.2.1 + q.2.2.2 := hds
  obtain ⟨d0, hds⟩ := List.forall_mem_cons.mp hds
  have d0 : v_iv (n_v vs 4) + (-4294967296) ≤ v_iv (n_v vs 1) ∧ v_iv (n_v vs 1) ≤ v_iv (n_v vs 4) + 2000 := d0
  obtain ⟨d1, hds⟩ := List.forall_mem_cons.mp hds
  have d1 : v_iv (n_v vs 1) + (-4294967296) ≤ v_iv (n_v vs 4) ∧ v_iv (n_v vs 4) ≤ v_iv (n_v vs 1) + 2000 := d1
  have hf : fc_ok [(7, [9, 10], [1]), (20, [4, 2, 9], [50, 1, 1, 1010, 1001, 4, 11, 0, 6, 4, 2, 1, 0, 0, 1, 2, 1, 10, 1, 2, 1, 2, 9, 5, 3, 1, 1, 1, 0, 0, 256]), (20, [2, 4, 9], [50, 1, 0, 10, 4, 7, 0, 3, 2, 0, 10, 1, 1, 1, 2, 1, 2, 0, -1]), (9, [4, 2], [11]), (20, [4, 2, 7], [50, 1, 1, 1010, 1001, 4, 11, 0, 6, 4, 2, 1, 0, 0, 1, 2, 1, 10, 1, 2, 1, 2, 9, 5, 3, 1, 1, 1, 0, 0, 256]), (20, [2, 4, 7], [50, 1, 0, 10, 4, 7, 0, 3, 2, 0, 10, 1, 1, 1, 2, 1, 2, 0, -1]), (20, [4, 2, 5], [50, 1, 1, 1010, 1001, 4, 11, 0, 6, 4, 2, 1, 0, 0, 1, 2, 1, 10, 1, 2, 1, 2, 9, 5, 3, 1, 1, 1, 0, 0, 256]), (20, [2, 4, 5], [50, 1, 0, 10, 4, 7, 0, 3, 2, 0, 10, 1, 1, 1, 2, 1, 2, 0, -1]), (20, [1, 2], [30, 0, 1, 0, 0, -1, 1, 15]), (20, [2], [50, 3, 1, 15, 11, 10, 1, 2, 8, 0, 3, 2, 0, 15, 2, 0, 11, 3, 12, 0, 7, 4, 3, 2, 0, 15, 0, 1, 2, 0, 11, 2, 8, 1, 3, 2, 0, 11, 2, 0, 15, 2, 12, 0, 7, 4, 3, 2, 0, 15, 0, 1, 2, 0, 10, 3, 30, 2, 14, 0, 2, 0, 65, 9, 6, 3, 0, 1, 2, 0, 15, 0, 256, 0, 10, 9, 6, 3, 0, 1, 2, 0, 15, 0, 256, 0, 90, 2, 14, 0, 2, 0, 97, 9, 6, 3, 0, 1, 2, 0, 15, 0, 256, 0, 10, 9, 6, 3, 0, 1, 2, 0, 15, 0, 256, 0, 122]), (24, [0, 2], [])] ta ws vs := hf
  obtain ⟨f0, hf⟩ := fc_un (show (7 : Nat) < 100 from by decide) hf
  have f0 : v_iv (n_v vs 9) ≠ v_iv (n_v vs 10) := f0
  obtain ⟨f1, hf⟩ := fc_un (show (20 : Nat) < 100 from by decide) hf
  have f1 : ((v_iv (n_v vs 4) + 1) ≤ w_fi ws (n_v vs 2) 10) → (v_iv (n_v vs 9) = (w_ei ws (w_ar ws (n_v vs 2) 1) (v_iv (n_v vs 4)) % 256)) := f1
  obtain ⟨f2, hf⟩ := fc_un (show (20 : Nat) < 100 from by decide) hf
  have f2 : (w_fi ws (n_v vs 2) 10 ≤ v_iv (n_v vs 4)) → (v_iv (n_v vs 9) = (-1)) := f2
  obtain ⟨f3, hf⟩ := fc_un (show (9 : Nat) < 100 from by decide) hf
  have f3 : n_v vs 4 = w_fd ws (v_ad (n_v vs 2)) 11 := f3
  obtain ⟨f4, hf⟩ := fc_un (show (20 : Nat) < 100 from by decide) hf
  have f4 : ((v_iv (n_v vs 4) + 1) ≤ w_fi ws (n_v vs 2) 10) → (v_iv (n_v vs 7) = (w_ei ws (w_ar ws (n_v vs 2) 1) (v_iv (n_v vs 4)) % 256)) := f4
  obtain ⟨f5, hf⟩ := fc_un (show (20 : Nat) < 100 from by decide) hf
  have f5 : (w_fi ws (n_v vs 2) 10 ≤ v_iv (n_v vs 4)) → (v_iv (n_v vs 7) = (-1)) := f5
  obtain ⟨f6, hf⟩ := fc_un (show (20 : Nat) < 100 from by decide) hf
  have f6 : ((v_iv (n_v vs 4) + 1) ≤ w_fi ws (n_v vs 2) 10) → (v_iv (n_v vs 5) = (w_ei ws (w_ar ws (n_v vs 2) 1) (v_iv (n_v vs 4)) % 256)) := f6
  obtain ⟨f7, hf⟩ := fc_un (show (20 : Nat) < 100 from by decide) hf
  have f7 : (w_fi ws (n_v vs 2) 10 ≤ v_iv (n_v vs 4)) → (v_iv (n_v vs 5) = (-1)) := f7
  obtain ⟨f8, hf⟩ := fc_un (show (20 : Nat) < 100 from by decide) hf
  have f8 : 1 * v_iv (n_v vs 1) + ((-1) * w_fi ws (n_v vs 2) 15 + 0) ≤ 0 := f8
  obtain ⟨f9, hf⟩ := fc_un (show (20 : Nat) < 100 from by decide) hf
  have f9 : (w_fi ws (n_v vs 2) 15 ≤ w_fi ws (n_v vs 2) 11) ∧ (((w_fi ws (n_v vs 2) 15 + 1) ≤ w_fi ws (n_v vs 2) 11) ∨ ((w_fi ws (n_v vs 2) 11 = w_fi ws (n_v vs 2) 15) ∧ (((w_fi ws (n_v vs 2) 15 + 1) ≤ w_fi ws (n_v vs 2) 10) ∧ (((65 ≤ (w_ei ws (w_ar ws (n_v vs 2) 1) (w_fi ws (n_v vs 2) 15) % 256)) ∧ ((w_ei ws (w_ar ws (n_v vs 2) 1) (w_fi ws (n_v vs 2) 15) % 256) ≤ 90)) ∨ ((97 ≤ (w_ei ws (w_ar ws (n_v vs 2) 1) (w_fi ws (n_v vs 2) 15) % 256)) ∧ ((w_ei ws (w_ar ws (n_v vs 2) 1) (w_fi ws (n_v vs 2) 15) % 256) ≤ 122)))))) := f9
  obtain ⟨f10, hf⟩ := fc_un (show (24 : Nat) < 100 from by decide) hf
  have f10 : n_v vs 0 = n_v vs 2 := f10
  have q2 : n_v vs 2 = n_v vs 0 := f10.symm
  rw [q2] at f1
  rw [q2] at f2
  rw [q2] at f3
  rw [q2] at f4
  rw [q2] at f5
  rw [q2] at f6
  rw [q2] at f7
  rw [q2] at f8
  rw [q2] at f9
  have cr_0_1 : ta (w_ar ws (n_v vs 0) 1) = some 151 := tv_rg (th_fd hD hth r0 (g := GG_150) rfl (k := 1) (t := (2, 0, 0, [151])) rfl rfl)
  have g3 : v_iv (n_v vs 4) = w_fi ws (n_v vs 0) 11 := congrArg v_iv f3
  have hK_0_1 : ∀ j : Int, 0 ≤ j → j < 2000 → (-128) ≤ w_ei ws (w_ar ws (n_v vs 0) 1) j ∧ w_ei ws (w_ar ws (n_v vs 0) 1) j ≤ 127 := fun j h0 h1 => th_el hD hth cr_0_1 (kd := 1) (n := 2000) (m := 2000) (lo := (-128)) (hi := 127) (rs := []) (L := []) rfl (by decide) (j := j.toNat) (by omega)
  have kz_0_10 : 0 ≤ w_fi ws (n_v vs 0) 10 ∧ w_fi ws (n_v vs 0) 10 ≤ 2000 := tv_rng (th_fd hD hth r0 (g := GG_150) rfl (k := 10) (t := (0, 0, 2000, [])) rfl rfl)
  have kz_0_11 : 0 ≤ w_fi ws (n_v vs 0) 11 ∧ w_fi ws (n_v vs 0) 11 ≤ 2000 := tv_rng (th_fd hD hth r0 (g := GG_150) rfl (k := 11) (t := (0, 0, 2000, [])) rfl rfl)
  have kz_0_15 : 0 ≤ w_fi ws (n_v vs 0) 15 ∧ w_fi ws (n_v vs 0) 15 ≤ 2000 := tv_rng (th_fd hD hth r0 (g := GG_150) rfl (k := 15) (t := (0, 0, 2000, [])) rfl rfl)
  have nf0 : fc_1 (20, [2], [50, 2, 0, 15, 11, 0, 7, 4, 3, 2, 0, 15, 0, 1, 2, 0, 11]) ws (vs) := by
    refine ⟨fun n hn => ?_, ?_⟩
    · have hn : n ∈ [2] := hn
      rw [hl]
      simp only [List.mem_cons, List.not_mem_nil, or_false] at hn
      show n < 11; omega
    · show (w_fi ws (n_v vs 2) 15 + 1) ≤ w_fi ws (n_v vs 2) 11
      rw [q2]
      first | omega | grind
  refine ⟨(fun _ h => (by cases h)), [], trivial, ?_, (fun _ h => (by cases h))⟩
  rw [List.append_nil]
  exact List.forall_mem_cons.mpr ⟨⟨show (20 : Nat) < 100 from by decide, nf0⟩, (fun _ h => (by cases h))⟩
def o_Mo_next_20 : or_T := (147, 11, [(0, (2, 0, 0, [150])), (1, (0, 0, 2000, [])), (2, (2, 0, 0, [150])), (4, (0, 0, 1999, [])), (5, (0, 0, 64, [])), (7, (0, 0, 47, [])), (9, (0, -1, -1, [])), (10, (0, 95, 95, []))], [(7, [9, 10], [1]), (20, [4, 2, 9], [50, 1, 1, 1010, 1001, 4, 11, 0, 6, 4, 2, 1, 0, 0, 1, 2, 1, 10, 1, 2, 1, 2, 9, 5, 3, 1, 1, 1, 0, 0, 256]), (20, [2, 4, 9], [50, 1, 0, 10, 4, 7, 0, 3, 2, 0, 10, 1, 1, 1, 2, 1, 2, 0, -1]), (9, [4, 2], [11]), (20, [4, 2, 7], [50, 1, 1, 1010, 1001, 4, 11, 0, 6, 4, 2, 1, 0, 0, 1, 2, 1, 10, 1, 2, 1, 2, 9, 5, 3, 1, 1, 1, 0, 0, 256]), (20, [2, 4, 7], [50, 1, 0, 10, 4, 7, 0, 3, 2, 0, 10, 1, 1, 1, 2, 1, 2, 0, -1]), (20, [4, 2, 5], [50, 1, 1, 1010, 1001, 4, 11, 0, 6, 4, 2, 1, 0, 0, 1, 2, 1, 10, 1, 2, 1, 2, 9, 5, 3, 1, 1, 1, 0, 0, 256]), (20, [2, 4, 5], [50, 1, 0, 10, 4, 7, 0, 3, 2, 0, 10, 1, 1, 1, 2, 1, 2, 0, -1]), (20, [1, 2], [30, 0, 1, 0, 0, -1, 1, 15]), (20, [2], [50, 3, 1, 15, 11, 10, 1, 2, 8, 0, 3, 2, 0, 15, 2, 0, 11, 3, 12, 0, 7, 4, 3, 2, 0, 15, 0, 1, 2, 0, 11, 2, 8, 1, 3, 2, 0, 11, 2, 0, 15, 2, 12, 0, 7, 4, 3, 2, 0, 15, 0, 1, 2, 0, 10, 3, 30, 2, 14, 0, 2, 0, 65, 9, 6, 3, 0, 1, 2, 0, 15, 0, 256, 0, 10, 9, 6, 3, 0, 1, 2, 0, 15, 0, 256, 0, 90, 2, 14, 0, 2, 0, 97, 9, 6, 3, 0, 1, 2, 0, 15, 0, 256, 0, 10, 9, 6, 3, 0, 1, 2, 0, 15, 0, 256, 0, 122]), (24, [0, 2], [])], [], [], [(20, [2], [50, 2, 0, 15, 11, 0, 7, 4, 3, 2, 0, 15, 0, 1, 2, 0, 11])], [], [(1, 4, -4294967296, 2000), (4, 1, -4294967296, 2000)])
theorem oo_Mo_next_20 {kA : Nat → ClassId} : or_ok kA GG o_Mo_next_20 := by
  intro A ta ws vs hD hth hl hk hds hf
  have hl : vs.length = 11 := hl
  have hk : ∀ q ∈ ([(0, (2, 0, 0, [150])), (1, (0, 0, 2000, [])), (2, (2, 0, 0, [150])), (4, (0, 0, 1999, [])), (5, (0, 0, 64, [])), (7, (0, 0, 47, [])), (9, (0, -1, -1, [])), (10, (0, 95, 95, []))] : List (Nat × tv_T)), tv_ok ta q.2 (n_v vs q.1) := hk
  obtain ⟨t0, hk⟩ := List.forall_mem_cons.mp hk
  have t0 : tv_ok ta (2, 0, 0, [150]) (n_v vs 0) := t0
  have r0 : ta (v_ad (n_v vs 0)) = some 150 := tv_rg t0
  obtain ⟨t1, hk⟩ := List.forall_mem_cons.mp hk
  have t1 : tv_ok ta (0, 0, 2000, []) (n_v vs 1) := t1
  have k1 : 0 ≤ v_iv (n_v vs 1) ∧ v_iv (n_v vs 1) ≤ 2000 := tv_rng t1
  obtain ⟨t2, hk⟩ := List.forall_mem_cons.mp hk
  have t2 : tv_ok ta (2, 0, 0, [150]) (n_v vs 2) := t2
  have r2 : ta (v_ad (n_v vs 2)) = some 150 := tv_rg t2
  obtain ⟨t4, hk⟩ := List.forall_mem_cons.mp hk
  have t4 : tv_ok ta (0, 0, 1999, []) (n_v vs 4) := t4
  have k4 : 0 ≤ v_iv (n_v vs 4) ∧ v_iv (n_v vs 4) ≤ 1999 := tv_rng t4
  obtain ⟨t5, hk⟩ := List.forall_mem_cons.mp hk
  have t5 : tv_ok ta (0, 0, 64, []) (n_v vs 5) := t5
  have k5 : 0 ≤ v_iv (n_v vs 5) ∧ v_iv (n_v vs 5) ≤ 64 := tv_rng t5
  obtain ⟨t7, hk⟩ := List.forall_mem_cons.mp hk
  have t7 : tv_ok ta (0, 0, 47, []) (n_v vs 7) := t7
  have k7 : 0 ≤ v_iv (n_v vs 7) ∧ v_iv (n_v vs 7) ≤ 47 := tv_rng t7
  obtain ⟨t9, hk⟩ := List.forall_mem_cons.mp hk
  have t9 : tv_ok ta (0, -1, -1, []) (n_v vs 9) := t9
  have k9 : (-1) ≤ v_iv (n_v vs 9) ∧ v_iv (n_v vs 9) ≤ (-1) := tv_rng t9
  obtain ⟨t10, hk⟩ := List.forall_mem_cons.mp hk
  have t10 : tv_ok ta (0, 95, 95, []) (n_v vs 10) := t10
  have k10 : 95 ≤ v_iv (n_v vs 10) ∧ v_iv (n_v vs 10) ≤ 95 := tv_rng t10
  have hds : ∀ q ∈ ([(1, 4, -4294967296, 2000), (4, 1, -4294967296, 2000)] : List of_T), n_iv vs q.2.1 + q.2.2.1 ≤ n_iv vs q.1 ∧ n_iv vs q.1 ≤ n_iv vs q.2.1 + q.2.2.2 := hds
  obtain ⟨d0, hds⟩ := List.forall_mem_cons.mp hds
  have d0 : v_iv (n_v vs 4) + (-4294967296) ≤ v_iv (n_v vs 1) ∧ v_iv (n_v vs 1) ≤ v_iv (n_v vs 4) + 2000 := d0
  obtain ⟨d1, hds⟩ := List.forall_mem_cons.mp hds
  have d1 : v_iv (n_v vs 1) + (-4294967296) ≤ v_iv (n_v vs 4) ∧ v_iv (n_v vs 4) ≤ v_iv (n_v vs 1) + 2000 := d1
  have hf : fc_ok [(7, [9, 10], [1]), (20, [4, 2, 9], [50, 1, 1, 1010, 1001, 4, 11, 0, 6, 4, 2, 1, 0, 0, 1, 2, 1, 10, 1, 2, 1, 2, 9, 5, 3, 1, 1, 1, 0, 0, 256]), (20, [2, 4, 9], [50, 1, 0, 10, 4, 7, 0, 3, 2, 0, 10, 1, 1, 1, 2, 1, 2, 0, -1]), (9, [4, 2], [11]), (20, [4, 2, 7], [50, 1, 1, 1010, 1001, 4, 11, 0, 6, 4, 2, 1, 0, 0, 1, 2, 1, 10, 1, 2, 1, 2, 9, 5, 3, 1, 1, 1, 0, 0, 256]), (20, [2, 4, 7], [50, 1, 0, 10, 4, 7, 0, 3, 2, 0, 10, 1, 1, 1, 2, 1, 2, 0, -1]), (20, [4, 2, 5], [50, 1, 1, 1010, 1001, 4, 11, 0, 6, 4, 2, 1, 0, 0, 1, 2, 1, 10, 1, 2, 1, 2, 9, 5, 3, 1, 1, 1, 0, 0, 256]), (20, [2, 4, 5], [50, 1, 0, 10, 4, 7, 0, 3, 2, 0, 10, 1, 1, 1, 2, 1, 2, 0, -1]), (20, [1, 2], [30, 0, 1, 0, 0, -1, 1, 15]), (20, [2], [50, 3, 1, 15, 11, 10, 1, 2, 8, 0, 3, 2, 0, 15, 2, 0, 11, 3, 12, 0, 7, 4, 3, 2, 0, 15, 0, 1, 2, 0, 11, 2, 8, 1, 3, 2, 0, 11, 2, 0, 15, 2, 12, 0, 7, 4, 3, 2, 0, 15, 0, 1, 2, 0, 10, 3, 30, 2, 14, 0, 2, 0, 65, 9, 6, 3, 0, 1, 2, 0, 15, 0, 256, 0, 10, 9, 6, 3, 0, 1, 2, 0, 15, 0, 256, 0, 90, 2, 14, 0, 2, 0, 97, 9, 6, 3, 0, 1, 2, 0, 15, 0, 256, 0, 10, 9, 6, 3, 0, 1, 2, 0, 15, 0, 256, 0, 122]), (24, [0, 2], [])] ta ws vs := hf
  obtain ⟨f0, hf⟩ := fc_un (show (7 : Nat) < 100 from by decide) hf
  have f0 : v_iv (n_v vs 9) ≠ v_iv (n_v vs 10) := f0
  obtain ⟨f1, hf⟩ := fc_un (show (20 : Nat) < 100 from by decide) hf
  have f1 : ((v_iv (n_v vs 4) + 1) ≤ w_fi ws (n_v vs 2) 10) → (v_iv (n_v vs 9) = (w_ei ws (w_ar ws (n_v vs 2) 1) (v_iv (n_v vs 4)) % 256)) := f1
  obtain ⟨f2, hf⟩ := fc_un (show (20 : Nat) < 100 from by decide) hf
  have f2 : (w_fi ws (n_v vs 2) 10 ≤ v_iv (n_v vs 4)) → (v_iv (n_v vs 9) = (-1)) := f2
  obtain ⟨f3, hf⟩ := fc_un (show (9 : Nat) < 100 from by decide) hf
  have f3 : n_v vs 4 = w_fd ws (v_ad (n_v vs 2)) 11 := f3
  obtain ⟨f4, hf⟩ := fc_un (show (20 : Nat) < 100 from by decide) hf
  have f4 : ((v_iv (n_v vs 4) + 1) ≤ w_fi ws (n_v vs 2) 10) → (v_iv (n_v vs 7) = (w_ei ws (w_ar ws (n_v vs 2) 1) (v_iv (n_v vs 4)) % 256)) := f4
  obtain ⟨f5, hf⟩ := fc_un (show (20 : Nat) < 100 from by decide) hf
  have f5 : (w_fi ws (n_v vs 2) 10 ≤ v_iv (n_v vs 4)) → (v_iv (n_v vs 7) = (-1)) := f5
  obtain ⟨f6, hf⟩ := fc_un (show (20 : Nat) < 100 from by decide) hf
  have f6 : ((v_iv (n_v vs 4) + 1) ≤ w_fi ws (n_v vs 2) 10) → (v_iv (n_v vs 5) = (w_ei ws (w_ar ws (n_v vs 2) 1) (v_iv (n_v vs 4)) % 256)) := f6
  obtain ⟨f7, hf⟩ := fc_un (show (20 : Nat) < 100 from by decide) hf
  have f7 : (w_fi ws (n_v vs 2) 10 ≤ v_iv (n_v vs 4)) → (v_iv (n_v vs 5) = (-1)) := f7
  obtain ⟨f8, hf⟩ := fc_un (show (20 : Nat) < 100 from by decide) hf
  have f8 : 1 * v_iv (n_v vs 1) + ((-1) * w_fi ws (n_v vs 2) 15 + 0) ≤ 0 := f8
  obtain ⟨f9, hf⟩ := fc_un (show (20 : Nat) < 100 from by decide) hf
  have f9 : (w_fi ws (n_v vs 2) 15 ≤ w_fi ws (n_v vs 2) 11) ∧ (((w_fi ws (n_v vs 2) 15 + 1) ≤ w_fi ws (n_v vs 2) 11) ∨ ((w_fi ws (n_v vs 2) 11 = w_fi ws (n_v vs 2) 15) ∧ (((w_fi ws (n_v vs 2) 15 + 1) ≤ w_fi ws (n_v vs 2) 10) ∧ (((65 ≤ (w_ei ws (w_ar ws (n_v vs 2) 1) (w_fi ws (n_v vs 2) 15) % 256)) ∧ ((w_ei ws (w_ar ws (n_v vs 2) 1) (w_fi ws (n_v vs 2) 15) % 256) ≤ 90)) ∨ ((97 ≤ (w_ei ws (w_ar ws (n_v vs 2) 1) (w_fi ws (n_v vs 2) 15) % 256)) ∧ ((w_ei ws (w_ar ws (n_v vs 2) 1) (w_fi ws (n_v vs 2) 15) % 256) ≤ 122)))))) := f9
  obtain ⟨f10, hf⟩ := fc_un (show (24 : Nat) < 100 from by decide) hf
  have f10 : n_v vs 0 = n_v vs 2 := f10
  have q2 : n_v vs 2 = n_v vs 0 := f10.symm
  rw [q2] at f1
  rw [q2] at f2
  rw [q2] at f3
  rw [q2] at f4
  rw [q2] at f5
  rw [q2] at f6
  rw [q2] at f7
  rw [q2] at f8
  rw [q2] at f9
  have cr_0_1 : ta (w_ar ws (n_v vs 0) 1) = some 151 := tv_rg (th_fd hD hth r0 (g := GG_150) rfl (k := 1) (t := (2, 0, 0, [151])) rfl rfl)
  have g3 : v_iv (n_v vs 4) = w_fi ws (n_v vs 0) 11 := congrArg v_iv f3
  have hK_0_1 : ∀ j : Int, 0 ≤ j → j < 2000 → (-128) ≤ w_ei ws (w_ar ws (n_v vs 0) 1) j ∧ w_ei ws (w_ar ws (n_v vs 0) 1) j ≤ 127 := fun j h0 h1 => th_el hD hth cr_0_1 (kd := 1) (n := 2000) (m := 2000) (lo := (-128)) (hi := 127) (rs := []) (L := []) rfl (by decide) (j := j.toNat) (by omega)
  have kz_0_10 : 0 ≤ w_fi ws (n_v vs 0) 10 ∧ w_fi ws (n_v vs 0) 10 ≤ 2000 := tv_rng (th_fd hD hth r0 (g := GG_150) rfl (k := 10) (t := (0, 0, 2000, [])) rfl rfl)
  have kz_0_11 : 0 ≤ w_fi ws (n_v vs 0) 11 ∧ w_fi ws (n_v vs 0) 11 ≤ 2000 := tv_rng (th_fd hD hth r0 (g := GG_150) rfl (k := 11) (t := (0, 0, 2000, [])) rfl rfl)
  have kz_0_15 : 0 ≤ w_fi ws (n_v vs 0) 15 ∧ w_fi ws (n_v vs 0) 15 ≤ 2000 := tv_rng (th_fd hD hth r0 (g := GG_150) rfl (k := 15) (t := (0, 0, 2000, [])) rfl rfl)
  have nf0 : fc_1 (20, [2], [50, 2, 0, 15, 11, 0, 7, 4, 3, 2, 0, 15, 0, 1, 2, 0, 11]) ws (vs) := by
    refine ⟨fun n hn => ?_, ?_⟩
    · have hn : n ∈ [2] := hn
      rw [hl]
      simp only [List.mem_cons, List.not_mem_nil, or_false] at hn
      show n < 11; omega
    · show (w_fi ws (n_v vs 2) 15 + 1) ≤ w_fi ws (n_v vs 2) 11
      rw [q2]
      first | omega | grind
  refine ⟨(fun _ h => (by cases h)), [], trivial, ?_, (fun _ h => (by cases h))⟩
  rw [List.append_nil]
  exact List.forall_mem_cons.mpr ⟨⟨show (20 : Nat) < 100 from by decide, nf0⟩, (fun _ h => (by cases h))⟩
def o_Mo_next_21 : or_T := (147, 11, [(0, (2, 0, 0, [150])), (1, (0, 0, 2000, [])), (2, (2, 0, 0, [150])), (4, (0, 0, 1999, [])), (5, (0, 0, 64, [])), (7, (0, 0, 47, [])), (9, (0, 0, 255, [])), (10, (0, 95, 95, []))], [(7, [9, 10], [1]), (20, [4, 2, 9], [50, 1, 1, 1010, 1001, 4, 11, 0, 6, 4, 2, 1, 0, 0, 1, 2, 1, 10, 1, 2, 1, 2, 9, 5, 3, 1, 1, 1, 0, 0, 256]), (20, [2, 4, 9], [50, 1, 0, 10, 4, 7, 0, 3, 2, 0, 10, 1, 1, 1, 2, 1, 2, 0, -1]), (9, [4, 2], [11]), (20, [4, 2, 7], [50, 1, 1, 1010, 1001, 4, 11, 0, 6, 4, 2, 1, 0, 0, 1, 2, 1, 10, 1, 2, 1, 2, 9, 5, 3, 1, 1, 1, 0, 0, 256]), (20, [2, 4, 7], [50, 1, 0, 10, 4, 7, 0, 3, 2, 0, 10, 1, 1, 1, 2, 1, 2, 0, -1]), (20, [4, 2, 5], [50, 1, 1, 1010, 1001, 4, 11, 0, 6, 4, 2, 1, 0, 0, 1, 2, 1, 10, 1, 2, 1, 2, 9, 5, 3, 1, 1, 1, 0, 0, 256]), (20, [2, 4, 5], [50, 1, 0, 10, 4, 7, 0, 3, 2, 0, 10, 1, 1, 1, 2, 1, 2, 0, -1]), (20, [1, 2], [30, 0, 1, 0, 0, -1, 1, 15]), (20, [2], [50, 3, 1, 15, 11, 10, 1, 2, 8, 0, 3, 2, 0, 15, 2, 0, 11, 3, 12, 0, 7, 4, 3, 2, 0, 15, 0, 1, 2, 0, 11, 2, 8, 1, 3, 2, 0, 11, 2, 0, 15, 2, 12, 0, 7, 4, 3, 2, 0, 15, 0, 1, 2, 0, 10, 3, 30, 2, 14, 0, 2, 0, 65, 9, 6, 3, 0, 1, 2, 0, 15, 0, 256, 0, 10, 9, 6, 3, 0, 1, 2, 0, 15, 0, 256, 0, 90, 2, 14, 0, 2, 0, 97, 9, 6, 3, 0, 1, 2, 0, 15, 0, 256, 0, 10, 9, 6, 3, 0, 1, 2, 0, 15, 0, 256, 0, 122]), (24, [0, 2], [])], [], [], [(20, [2], [50, 2, 0, 15, 11, 0, 7, 4, 3, 2, 0, 15, 0, 1, 2, 0, 11])], [], [(1, 4, -4294967296, 2000), (4, 1, -4294967296, 2000)])
theorem oo_Mo_next_21 {kA : Nat → ClassId} : or_ok kA GG o_Mo_next_21 := by
  intro A ta ws vs hD hth hl hk hds hf
  have hl : vs.length = 11 := hl
  have hk : ∀ q ∈ ([(0, (2, 0, 0, [150])), (1, (0, 0, 2000, [])), (2, (2, 0, 0, [150])), (4, (0, 0, 1999, [])), (5, (0, 0, 64, [])), (7, (0, 0, 47, [])), (9, (0, 0, 255, [])), (10, (0, 95, 95, []))] : List (Nat × tv_T)), tv_ok ta q.2 (n_v vs q.1) := hk
  obtain ⟨t0, hk⟩ := List.forall_mem_cons.mp hk
  have t0 : tv_ok ta (2, 0, 0, [150]) (n_v vs 0) := t0
  have r0 : ta (v_ad (n_v vs 0)) = some 150 := tv_rg t0
  obtain ⟨t1, hk⟩ := List.forall_mem_cons.mp hk
  have t1 : tv_ok ta (0, 0, 2000, []) (n_v vs 1) := t1
  have k1 : 0 ≤ v_iv (n_v vs 1) ∧ v_iv (n_v vs 1) ≤ 2000 := tv_rng t1
  obtain ⟨t2, hk⟩ := List.forall_mem_cons.mp hk
  have t2 : tv_ok ta (2, 0, 0, [150]) (n_v vs 2) := t2
  have r2 : ta (v_ad (n_v vs 2)) = some 150 := tv_rg t2
  obtain ⟨t4, hk⟩ := List.forall_mem_cons.mp hk
  have t4 : tv_ok ta (0, 0, 1999, []) (n_v vs 4) := t4
  have k4 : 0 ≤ v_iv (n_v vs 4) ∧ v_iv (n_v vs 4) ≤ 1999 := tv_rng t4
  obtain ⟨t5, hk⟩ := List.forall_mem_cons.mp hk
  have t5 : tv_ok ta (0, 0, 64, []) (n_v vs 5) := t5
  have k5 : 0 ≤ v_iv (n_v vs 5) ∧ v_iv (n_v vs 5) ≤ 64 := tv_rng t5
  obtain ⟨t7, hk⟩ := List.forall_mem_cons.mp hk
  have t7 : tv_ok ta (0, 0, 47, []) (n_v vs 7) := t7
  have k7 : 0 ≤ v_iv (n_v vs 7) ∧ v_iv (n_v vs 7) ≤ 47 := tv_rng t7
  obtain ⟨t9, hk⟩ := List.forall_mem_cons.mp hk
  have t9 : tv_ok ta (0, 0, 255, []) (n_v vs 9) := t9
  have k9 : 0 ≤ v_iv (n_v vs 9) ∧ v_iv (n_v vs 9) ≤ 255 := tv_rng t9
  obtain ⟨t10, hk⟩ := List.forall_mem_cons.mp hk
  have t10 : tv_ok ta (0, 95, 95, []) (n_v vs 10) := t10
  have k10 : 95 ≤ v_iv (n_v vs 10) ∧ v_iv (n_v vs 10) ≤ 95 := tv_rng t10
  have hds : ∀ q ∈ ([(1, 4, -4294967296, 2000), (4, 1, -4294967296, 2000)] : List of_T), n_iv vs q.2.1 + q.2.2.1 ≤ n_iv vs q.1 ∧ n_iv vs q.1 ≤ n_iv vs q.2.1 + q.2.2.2 := hds
  obtain ⟨d0, hds⟩ := List.forall_mem_cons.mp hds
  have d0 : v_iv (n_v vs 4) + (-4294967296) ≤ v_iv (n_v vs 1) ∧ v_iv (n_v vs 1) ≤ v_iv (n_v vs 4) + 2000 := d0
  obtain ⟨d1, hds⟩ := List.forall_mem_cons.mp hds
  have d1 : v_iv (n_v vs 1) + (-4294967296) ≤ v_iv (n_v vs 4) ∧ v_iv (n_v vs 4) ≤ v_iv (n_v vs 1) + 2000 := d1
  have hf : fc_ok [(7, [9, 10], [1]), (20, [4, 2, 9], [50, 1, 1, 1010, 1001, 4, 11, 0, 6, 4, 2, 1, 0, 0, 1, 2, 1, 10, 1, 2, 1, 2, 9, 5, 3, 1, 1, 1, 0, 0, 256]), (20, [2, 4, 9], [50, 1, 0, 10, 4, 7, 0, 3, 2, 0, 10, 1, 1, 1, 2, 1, 2, 0, -1]), (9, [4, 2], [11]), (20, [4, 2, 7], [50, 1, 1, 1010, 1001, 4, 11, 0, 6, 4, 2, 1, 0, 0, 1, 2, 1, 10, 1, 2, 1, 2, 9, 5, 3, 1, 1, 1, 0, 0, 256]), (20, [2, 4, 7], [50, 1, 0, 10, 4, 7, 0, 3, 2, 0, 10, 1, 1, 1, 2, 1, 2, 0, -1]), (20, [4, 2, 5], [50, 1, 1, 1010, 1001, 4, 11, 0, 6, 4, 2, 1, 0, 0, 1, 2, 1, 10, 1, 2, 1, 2, 9, 5, 3, 1, 1, 1, 0, 0, 256]), (20, [2, 4, 5], [50, 1, 0, 10, 4, 7, 0, 3, 2, 0, 10, 1, 1, 1, 2, 1, 2, 0, -1]), (20, [1, 2], [30, 0, 1, 0, 0, -1, 1, 15]), (20, [2], [50, 3, 1, 15, 11, 10, 1, 2, 8, 0, 3, 2, 0, 15, 2, 0, 11, 3, 12, 0, 7, 4, 3, 2, 0, 15, 0, 1, 2, 0, 11, 2, 8, 1, 3, 2, 0, 11, 2, 0, 15, 2, 12, 0, 7, 4, 3, 2, 0, 15, 0, 1, 2, 0, 10, 3, 30, 2, 14, 0, 2, 0, 65, 9, 6, 3, 0, 1, 2, 0, 15, 0, 256, 0, 10, 9, 6, 3, 0, 1, 2, 0, 15, 0, 256, 0, 90, 2, 14, 0, 2, 0, 97, 9, 6, 3, 0, 1, 2, 0, 15, 0, 256, 0, 10, 9, 6, 3, 0, 1, 2, 0, 15, 0, 256, 0, 122]), (24, [0, 2], [])] ta ws vs := hf
  obtain ⟨f0, hf⟩ := fc_un (show (7 : Nat) < 100 from by decide) hf
  have f0 : v_iv (n_v vs 9) ≠ v_iv (n_v vs 10) := f0
  obtain ⟨f1, hf⟩ := fc_un (show (20 : Nat) < 100 from by decide) hf
  have f1 : ((v_iv (n_v vs 4) + 1) ≤ w_fi ws (n_v vs 2) 10) → (v_iv (n_v vs 9) = (w_ei ws (w_ar ws (n_v vs 2) 1) (v_iv (n_v vs 4)) % 256)) := f1
  obtain ⟨f2, hf⟩ := fc_un (show (20 : Nat) < 100 from by decide) hf
  have f2 : (w_fi ws (n_v vs 2) 10 ≤ v_iv (n_v vs 4)) → (v_iv (n_v vs 9) = (-1)) := f2
  obtain ⟨f3, hf⟩ := fc_un (show (9 : Nat) < 100 from by decide) hf
  have f3 : n_v vs 4 = w_fd ws (v_ad (n_v vs 2)) 11 := f3
  obtain ⟨f4, hf⟩ := fc_un (show (20 : Nat) < 100 from by decide) hf
  have f4 : ((v_iv (n_v vs 4) + 1) ≤ w_fi ws (n_v vs 2) 10) → (v_iv (n_v vs 7) = (w_ei ws (w_ar ws (n_v vs 2) 1) (v_iv (n_v vs 4)) % 256)) := f4
  obtain ⟨f5, hf⟩ := fc_un (show (20 : Nat) < 100 from by decide) hf
  have f5 : (w_fi ws (n_v vs 2) 10 ≤ v_iv (n_v vs 4)) → (v_iv (n_v vs 7) = (-1)) := f5
  obtain ⟨f6, hf⟩ := fc_un (show (20 : Nat) < 100 from by decide) hf
  have f6 : ((v_iv (n_v vs 4) + 1) ≤ w_fi ws (n_v vs 2) 10) → (v_iv (n_v vs 5) = (w_ei ws (w_ar ws (n_v vs 2) 1) (v_iv (n_v vs 4)) % 256)) := f6
  obtain ⟨f7, hf⟩ := fc_un (show (20 : Nat) < 100 from by decide) hf
  have f7 : (w_fi ws (n_v vs 2) 10 ≤ v_iv (n_v vs 4)) → (v_iv (n_v vs 5) = (-1)) := f7
  obtain ⟨f8, hf⟩ := fc_un (show (20 : Nat) < 100 from by decide) hf
  have f8 : 1 * v_iv (n_v vs 1) + ((-1) * w_fi ws (n_v vs 2) 15 + 0) ≤ 0 := f8
  obtain ⟨f9, hf⟩ := fc_un (show (20 : Nat) < 100 from by decide) hf
  have f9 : (w_fi ws (n_v vs 2) 15 ≤ w_fi ws (n_v vs 2) 11) ∧ (((w_fi ws (n_v vs 2) 15 + 1) ≤ w_fi ws (n_v vs 2) 11) ∨ ((w_fi ws (n_v vs 2) 11 = w_fi ws (n_v vs 2) 15) ∧ (((w_fi ws (n_v vs 2) 15 + 1) ≤ w_fi ws (n_v vs 2) 10) ∧ (((65 ≤ (w_ei ws (w_ar ws (n_v vs 2) 1) (w_fi ws (n_v vs 2) 15) % 256)) ∧ ((w_ei ws (w_ar ws (n_v vs 2) 1) (w_fi ws (n_v vs 2) 15) % 256) ≤ 90)) ∨ ((97 ≤ (w_ei ws (w_ar ws (n_v vs 2) 1) (w_fi ws (n_v vs 2) 15) % 256)) ∧ ((w_ei ws (w_ar ws (n_v vs 2) 1) (w_fi ws (n_v vs 2) 15) % 256) ≤ 122)))))) := f9
  obtain ⟨f10, hf⟩ := fc_un (show (24 : Nat) < 100 from by decide) hf
  have f10 : n_v vs 0 = n_v vs 2 := f10
  have q2 : n_v vs 2 = n_v vs 0 := f10.symm
  rw [q2] at f1
  rw [q2] at f2
  rw [q2] at f3
  rw [q2] at f4
  rw [q2] at f5
  rw [q2] at f6
  rw [q2] at f7
  rw [q2] at f8
  rw [q2] at f9
  have cr_0_1 : ta (w_ar ws (n_v vs 0) 1) = some 151 := tv_rg (th_fd hD hth r0 (g := GG_150) rfl (k := 1) (t := (2, 0, 0, [151])) rfl rfl)
  have g3 : v_iv (n_v vs 4) = w_fi ws (n_v vs 0) 11 := congrArg v_iv f3
  have hK_0_1 : ∀ j : Int, 0 ≤ j → j < 2000 → (-128) ≤ w_ei ws (w_ar ws (n_v vs 0) 1) j ∧ w_ei ws (w_ar ws (n_v vs 0) 1) j ≤ 127 := fun j h0 h1 => th_el hD hth cr_0_1 (kd := 1) (n := 2000) (m := 2000) (lo := (-128)) (hi := 127) (rs := []) (L := []) rfl (by decide) (j := j.toNat) (by omega)
  have kz_0_10 : 0 ≤ w_fi ws (n_v vs 0) 10 ∧ w_fi ws (n_v vs 0) 10 ≤ 2000 := tv_rng (th_fd hD hth r0 (g := GG_150) rfl (k := 10) (t := (0, 0, 2000, [])) rfl rfl)
  have kz_0_11 : 0 ≤ w_fi ws (n_v vs 0) 11 ∧ w_fi ws (n_v vs 0) 11 ≤ 2000 := tv_rng (th_fd hD hth r0 (g := GG_150) rfl (k := 11) (t := (0, 0, 2000, [])) rfl rfl)
  have kz_0_15 : 0 ≤ w_fi ws (n_v vs 0) 15 ∧ w_fi ws (n_v vs 0) 15 ≤ 2000 := tv_rng (th_fd hD hth r0 (g := GG_150) rfl (k := 15) (t := (0, 0, 2000, [])) rfl rfl)
  have nf0 : fc_1 (20, [2], [50, 2, 0, 15, 11, 0, 7, 4, 3, 2, 0, 15, 0, 1, 2, 0, 11]) ws (vs) := by
    refine ⟨fun n hn => ?_, ?_⟩
    · have hn : n ∈ [2] := hn
      rw [hl]
      simp only [List.mem_cons, List.not_mem_nil, or_false] at hn
      show n < 11; omega
    · show (w_fi ws (n_v vs 2) 15 + 1) ≤ w_fi ws (n_v vs 2) 11
      rw [q2]
      first | omega | grind
  refine ⟨(fun _ h => (by cases h)), [], trivial, ?_, (fun _ h => (by cases h))⟩
  rw [List.append_nil]
  exact List.forall_mem_cons.mpr ⟨⟨show (20 : Nat) < 100 from by decide, nf0⟩, (fun _ h => (by cases h))⟩
def o_Mo_next_22 : or_T := (147, 11, [(0, (2, 0, 0, [150])), (1, (0, 0, 2000, [])), (2, (2, 0, 0, [150])), (4, (0, 0, 1999, [])), (5, (0, 0, 64, [])), (7, (0, 58, 255, [])), (9, (0, -1, -1, [])), (10, (0, 95, 95, []))], [(7, [9, 10], [1]), (20, [4, 2, 9], [50, 1, 1, 1010, 1001, 4, 11, 0, 6, 4, 2, 1, 0, 0, 1, 2, 1, 10, 1, 2, 1, 2, 9, 5, 3, 1, 1, 1, 0, 0, 256]), (20, [2, 4, 9], [50, 1, 0, 10, 4, 7, 0, 3, 2, 0, 10, 1, 1, 1, 2, 1, 2, 0, -1]), (9, [4, 2], [11]), (20, [4, 2, 7], [50, 1, 1, 1010, 1001, 4, 11, 0, 6, 4, 2, 1, 0, 0, 1, 2, 1, 10, 1, 2, 1, 2, 9, 5, 3, 1, 1, 1, 0, 0, 256]), (20, [2, 4, 7], [50, 1, 0, 10, 4, 7, 0, 3, 2, 0, 10, 1, 1, 1, 2, 1, 2, 0, -1]), (20, [4, 2, 5], [50, 1, 1, 1010, 1001, 4, 11, 0, 6, 4, 2, 1, 0, 0, 1, 2, 1, 10, 1, 2, 1, 2, 9, 5, 3, 1, 1, 1, 0, 0, 256]), (20, [2, 4, 5], [50, 1, 0, 10, 4, 7, 0, 3, 2, 0, 10, 1, 1, 1, 2, 1, 2, 0, -1]), (20, [1, 2], [30, 0, 1, 0, 0, -1, 1, 15]), (20, [2], [50, 3, 1, 15, 11, 10, 1, 2, 8, 0, 3, 2, 0, 15, 2, 0, 11, 3, 12, 0, 7, 4, 3, 2, 0, 15, 0, 1, 2, 0, 11, 2, 8, 1, 3, 2, 0, 11, 2, 0, 15, 2, 12, 0, 7, 4, 3, 2, 0, 15, 0, 1, 2, 0, 10, 3, 30, 2, 14, 0, 2, 0, 65, 9, 6, 3, 0, 1, 2, 0, 15, 0, 256, 0, 10, 9, 6, 3, 0, 1, 2, 0, 15, 0, 256, 0, 90, 2, 14, 0, 2, 0, 97, 9, 6, 3, 0, 1, 2, 0, 15, 0, 256, 0, 10, 9, 6, 3, 0, 1, 2, 0, 15, 0, 256, 0, 122]), (24, [0, 2], [])], [], [], [(20, [2], [50, 2, 0, 15, 11, 0, 7, 4, 3, 2, 0, 15, 0, 1, 2, 0, 11])], [], [(1, 4, -4294967296, 2000), (4, 1, -4294967296, 2000)])
theorem oo_Mo_next_22 {kA : Nat → ClassId} : or_ok kA GG o_Mo_next_22 := by
  intro A ta ws vs hD hth hl hk hds hf
  have hl : vs.length = 11 := hl
  have hk : ∀ q ∈ ([(0, (2, 0, 0, [150])), (1, (0, 0, 2000, [])), (2, (2, 0, 0, [150])), (4, (0, 0, 1999, [])), (5, (0, 0, 64, [])), (7, (0, 58, 255, [])), (9, (0, -1, -1, [])), (10, (0, 95, 95, []))] : List (Nat × tv_T)), tv_ok ta q.2 (n_v vs q.1) := hk
  obtain ⟨t0, hk⟩ := List.forall_mem_cons.mp hk
  have t0 : tv_ok ta (2, 0, 0, [150]) (n_v vs 0) := t0
  have r0 : ta (v_ad (n_v vs 0)) = some 150 := tv_rg t0
  obtain ⟨t1, hk⟩ := List.forall_mem_cons.mp hk
  have t1 : tv_ok ta (0, 0, 2000, []) (n_v vs 1) := t1
  have k1 : 0 ≤ v_iv (n_v vs 1) ∧ v_iv (n_v vs 1) ≤ 2000 := tv_rng t1
  obtain ⟨t2, hk⟩ := List.forall_mem_cons.mp hk
  have t2 : tv_ok ta (2, 0, 0, [150]) (n_v vs 2) := t2
  have r2 : ta (v_ad (n_v vs 2)) = some 150 := tv_rg t2
  obtain ⟨t4, hk⟩ := List.forall_mem_cons.mp hk
  have t4 : tv_ok ta (0, 0, 1999, []) (n_v vs 4) := t4
  have k4 : 0 ≤ v_iv (n_v vs 4) ∧ v_iv (n_v vs 4) ≤ 1999 := tv_rng t4
  obtain ⟨t5, hk⟩ := List.forall_mem_cons.mp hk
  have t5 : tv_ok ta (0, 0, 64, []) (n_v vs 5) := t5
  have k5 : 0 ≤ v_iv (n_v vs 5) ∧ v_iv (n_v vs 5) ≤ 64 := tv_rng t5
  obtain ⟨t7, hk⟩ := List.forall_mem_cons.mp hk
  have t7 : tv_ok ta (0, 58, 255, []) (n_v vs 7) := t7
  have k7 : 58 ≤ v_iv (n_v vs 7) ∧ v_iv (n_v vs 7) ≤ 255 := tv_rng t7
  obtain ⟨t9, hk⟩ := List.forall_mem_cons.mp hk
  have t9 : tv_ok ta (0, -1, -1, []) (n_v vs 9) := t9
  have k9 : (-1) ≤ v_iv (n_v vs 9) ∧ v_iv (n_v vs 9) ≤ (-1) := tv_rng t9
  obtain ⟨t10, hk⟩ := List.forall_mem_cons.mp hk
  have t10 : tv_ok ta (0, 95, 95, []) (n_v vs 10) := t10
  have k10 : 95 ≤ v_iv (n_v vs 10) ∧ v_iv (n_v vs 10) ≤ 95 := tv_rng t10
  have hds : ∀ q ∈ ([(1, 4, -4294967296, 2000), (4, 1, -4294967296, 2000)] : List of_T), n_iv vs q.2.1 + q.2.2.1 ≤ n_iv vs q.1 ∧ n_iv vs q.1 ≤ n_iv vs q.2.1 + q.2.2.2 := hds
  obtain ⟨d0, hds⟩ := List.forall_mem_cons.mp hds
  have d0 : v_iv (n_v vs 4) + (-4294967296) ≤ v_iv (n_v vs 1) ∧ v_iv (n_v vs 1) ≤ v_iv (n_v vs 4) + 2000 := d0
  obtain ⟨d1, hds⟩ := List.forall_mem_cons.mp hds
  have d1 : v_iv (n_v vs 1) + (-4294967296) ≤ v_iv (n_v vs 4) ∧ v_iv (n_v vs 4) ≤ v_iv (n_v vs 1) + 2000 := d1
  have hf : fc_ok [(7, [9, 10], [1]), (20, [4, 2, 9], [50, 1, 1, 1010, 1001, 4, 11, 0, 6, 4, 2, 1, 0, 0, 1, 2, 1, 10, 1, 2, 1, 2, 9, 5, 3, 1, 1, 1, 0, 0, 256]), (20, [2, 4, 9], [50, 1, 0, 10, 4, 7, 0, 3, 2, 0, 10, 1, 1, 1, 2, 1, 2, 0, -1]), (9, [4, 2], [11]), (20, [4, 2, 7], [50, 1, 1, 1010, 1001, 4, 11, 0, 6, 4, 2, 1, 0, 0, 1, 2, 1, 10, 1, 2, 1, 2, 9, 5, 3, 1, 1, 1, 0, 0, 256]), (20, [2, 4, 7], [50, 1, 0, 10, 4, 7, 0, 3, 2, 0, 10, 1, 1, 1, 2, 1, 2, 0, -1]), (20, [4, 2, 5], [50, 1, 1, 1010, 1001, 4, 11, 0, 6, 4, 2, 1, 0, 0, 1, 2, 1, 10, 1, 2, 1, 2, 9, 5, 3, 1, 1, 1, 0, 0, 256]), (20, [2, 4, 5], [50, 1, 0, 10, 4, 7, 0, 3, 2, 0, 10, 1, 1, 1, 2, 1, 2, 0, -1]), (20, [1, 2], [30, 0, 1, 0, 0, -1, 1, 15]), (20, [2], [50, 3, 1, 15, 11, 10, 1, 2, 8, 0, 3, 2, 0, 15, 2, 0, 11, 3, 12, 0, 7, 4, 3, 2, 0, 15, 0, 1, 2, 0, 11, 2, 8, 1, 3, 2, 0, 11, 2, 0, 15, 2, 12, 0, 7, 4, 3, 2, 0, 15, 0, 1, 2, 0, 10, 3, 30, 2, 14, 0, 2, 0, 65, 9, 6, 3, 0, 1, 2, 0, 15, 0, 256, 0, 10, 9, 6, 3, 0, 1, 2, 0, 15, 0, 256, 0, 90, 2, 14, 0, 2, 0, 97, 9, 6, 3, 0, 1, 2, 0, 15, 0, 256, 0, 10, 9, 6, 3, 0, 1, 2, 0, 15, 0, 256, 0, 122]), (24, [0, 2], [])] ta ws vs := hf
  obtain ⟨f0, hf⟩ := fc_un (show (7 : Nat) < 100 from by decide) hf
  have f0 : v_iv (n_v vs 9) ≠ v_iv (n_v vs 10) := f0
  obtain ⟨f1, hf⟩ := fc_un (show (20 : Nat) < 100 from by decide) hf
  have f1 : ((v_iv (n_v vs 4) + 1) ≤ w_fi ws (n_v vs 2) 10) → (v_iv (n_v vs 9) = (w_ei ws (w_ar ws (n_v vs 2) 1) (v_iv (n_v vs 4)) % 256)) := f1
  obtain ⟨f2, hf⟩ := fc_un (show (20 : Nat) < 100 from by decide) hf
  have f2 : (w_fi ws (n_v vs 2) 10 ≤ v_iv (n_v vs 4)) → (v_iv (n_v vs 9) = (-1)) := f2
  obtain ⟨f3, hf⟩ := fc_un (show (9 : Nat) < 100 from by decide) hf
  have f3 : n_v vs 4 = w_fd ws (v_ad (n_v vs 2)) 11 := f3
  obtain ⟨f4, hf⟩ := fc_un (show (20 : Nat) < 100 from by decide) hf
  have f4 : ((v_iv (n_v vs 4) + 1) ≤ w_fi ws (n_v vs 2) 10) → (v_iv (n_v vs 7) = (w_ei ws (w_ar ws (n_v vs 2) 1) (v_iv (n_v vs 4)) % 256)) := f4
  obtain ⟨f5, hf⟩ := fc_un (show (20 : Nat) < 100 from by decide) hf
  have f5 : (w_fi ws (n_v vs 2) 10 ≤ v_iv (n_v vs 4)) → (v_iv (n_v vs 7) = (-1)) := f5
  obtain ⟨f6, hf⟩ := fc_un (show (20 : Nat) < 100 from by decide) hf
  have f6 : ((v_iv (n_v vs 4) + 1) ≤ w_fi ws (n_v vs 2) 10) → (v_iv (n_v vs 5) = (w_ei ws (w_ar ws (n_v vs 2) 1) (v_iv (n_v vs 4)) % 256)) := f6
  obtain ⟨f7, hf⟩ := fc_un (show (20 : Nat) < 100 from by decide) hf
  have f7 : (w_fi ws (n_v vs 2) 10 ≤ v_iv (n_v vs 4)) → (v_iv (n_v vs 5) = (-1)) := f7
  obtain ⟨f8, hf⟩ := fc_un (show (20 : Nat) < 100 from by decide) hf
  have f8 : 1 * v_iv (n_v vs 1) + ((-1) * w_fi ws (n_v vs 2) 15 + 0) ≤ 0 := f8
  obtain ⟨f9, hf⟩ := fc_un (show (20 : Nat) < 100 from by decide) hf
  have f9 : (w_fi ws (n_v vs 2) 15 ≤ w_fi ws (n_v vs 2) 11) ∧ (((w_fi ws (n_v vs 2) 15 + 1) ≤ w_fi ws (n_v vs 2) 11) ∨ ((w_fi ws (n_v vs 2) 11 = w_fi ws (n_v vs 2) 15) ∧ (((w_fi ws (n_v vs 2) 15 + 1) ≤ w_fi ws (n_v vs 2) 10) ∧ (((65 ≤ (w_ei ws (w_ar ws (n_v vs 2) 1) (w_fi ws (n_v vs 2) 15) % 256)) ∧ ((w_ei ws (w_ar ws (n_v vs 2) 1) (w_fi ws (n_v vs 2) 15) % 256) ≤ 90)) ∨ ((97 ≤ (w_ei ws (w_ar ws (n_v vs 2) 1) (w_fi ws (n_v vs 2) 15) % 256)) ∧ ((w_ei ws (w_ar ws (n_v vs 2) 1) (w_fi ws (n_v vs 2) 15) % 256) ≤ 122)))))) := f9
  obtain ⟨f10, hf⟩ := fc_un (show (24 : Nat) < 100 from by decide) hf
  have f10 : n_v vs 0 = n_v vs 2 := f10
  have q2 : n_v vs 2 = n_v vs 0 := f10.symm
  rw [q2] at f1
  rw [q2] at f2
  rw [q2] at f3
  rw [q2] at f4
  rw [q2] at f5
  rw [q2] at f6
  rw [q2] at f7
  rw [q2] at f8
  rw [q2] at f9
  have cr_0_1 : ta (w_ar ws (n_v vs 0) 1) = some 151 := tv_rg (th_fd hD hth r0 (g := GG_150) rfl (k := 1) (t := (2, 0, 0, [151])) rfl rfl)
  have g3 : v_iv (n_v vs 4) = w_fi ws (n_v vs 0) 11 := congrArg v_iv f3
  have hK_0_1 : ∀ j : Int, 0 ≤ j → j < 2000 → (-128) ≤ w_ei ws (w_ar ws (n_v vs 0) 1) j ∧ w_ei ws (w_ar ws (n_v vs 0) 1) j ≤ 127 := fun j h0 h1 => th_el hD hth cr_0_1 (kd := 1) (n := 2000) (m := 2000) (lo := (-128)) (hi := 127) (rs := []) (L := []) rfl (by decide) (j := j.toNat) (by omega)
  have kz_0_10 : 0 ≤ w_fi ws (n_v vs 0) 10 ∧ w_fi ws (n_v vs 0) 10 ≤ 2000 := tv_rng (th_fd hD hth r0 (g := GG_150) rfl (k := 10) (t := (0, 0, 2000, [])) rfl rfl)
  have kz_0_11 : 0 ≤ w_fi ws (n_v vs 0) 11 ∧ w_fi ws (n_v vs 0) 11 ≤ 2000 := tv_rng (th_fd hD hth r0 (g := GG_150) rfl (k := 11) (t := (0, 0, 2000, [])) rfl rfl)
  have kz_0_15 : 0 ≤ w_fi ws (n_v vs 0) 15 ∧ w_fi ws (n_v vs 0) 15 ≤ 2000 := tv_rng (th_fd hD hth r0 (g := GG_150) rfl (k := 15) (t := (0, 0, 2000, [])) rfl rfl)
  have nf0 : fc_1 (20, [2], [50, 2, 0, 15, 11, 0, 7, 4, 3, 2, 0, 15, 0, 1, 2, 0, 11]) ws (vs) := by
    refine ⟨fun n hn => ?_, ?_⟩
    · have hn : n ∈ [2] := hn
      rw [hl]
      simp only [List.mem_cons, List.not_mem_nil, or_false] at hn
      show n < 11; omega
    · show (w_fi ws (n_v vs 2) 15 + 1) ≤ w_fi ws (n_v vs 2) 11
      rw [q2]
      first | omega | grind
  refine ⟨(fun _ h => (by cases h)), [], trivial, ?_, (fun _ h => (by cases h))⟩
  rw [List.append_nil]
  exact List.forall_mem_cons.mpr ⟨⟨show (20 : Nat) < 100 from by decide, nf0⟩, (fun _ h => (by cases h))⟩
def o_Mo_next_23 : or_T := (147, 11, [(0, (2, 0, 0, [150])), (1, (0, 0, 2000, [])), (2, (2, 0, 0, [150])), (4, (0, 0, 1999, [])), (5, (0, 0, 64, [])), (7, (0, 58, 255, [])), (9, (0, 0, 255, [])), (10, (0, 95, 95, []))], [(7, [9, 10], [1]), (20, [4, 2, 9], [50, 1, 1, 1010, 1001, 4, 11, 0, 6, 4, 2, 1, 0, 0, 1, 2, 1, 10, 1, 2, 1, 2, 9, 5, 3, 1, 1, 1, 0, 0, 256]), (20, [2, 4, 9], [50, 1, 0, 10, 4, 7, 0, 3, 2, 0, 10, 1, 1, 1, 2, 1, 2, 0, -1]), (9, [4, 2], [11]), (20, [4, 2, 7], [50, 1, 1, 1010, 1001, 4, 11, 0, 6, 4, 2, 1, 0, 0, 1, 2, 1, 10, 1, 2, 1, 2, 9, 5, 3, 1, 1, 1, 0, 0, 256]), (20, [2, 4, 7], [50, 1, 0, 10, 4, 7, 0, 3, 2, 0, 10, 1, 1, 1, 2, 1, 2, 0, -1]), (20, [4, 2, 5], [50, 1, 1, 1010, 1001, 4, 11, 0, 6, 4, 2, 1, 0, 0, 1, 2, 1, 10, 1, 2, 1, 2, 9, 5, 3, 1, 1, 1, 0, 0, 256]), (20, [2, 4, 5], [50, 1, 0, 10, 4, 7, 0, 3, 2, 0, 10, 1, 1, 1, 2, 1, 2, 0, -1]), (20, [1, 2], [30, 0, 1, 0, 0, -1, 1, 15]), (20, [2], [50, 3, 1, 15, 11, 10, 1, 2, 8, 0, 3, 2, 0, 15, 2, 0, 11, 3, 12, 0, 7, 4, 3, 2, 0, 15, 0, 1, 2, 0, 11, 2, 8, 1, 3, 2, 0, 11, 2, 0, 15, 2, 12, 0, 7, 4, 3, 2, 0, 15, 0, 1, 2, 0, 10, 3, 30, 2, 14, 0, 2, 0, 65, 9, 6, 3, 0, 1, 2, 0, 15, 0, 256, 0, 10, 9, 6, 3, 0, 1, 2, 0, 15, 0, 256, 0, 90, 2, 14, 0, 2, 0, 97, 9, 6, 3, 0, 1, 2, 0, 15, 0, 256, 0, 10, 9, 6, 3, 0, 1, 2, 0, 15, 0, 256, 0, 122]), (24, [0, 2], [])], [], [], [(20, [2], [50, 2, 0, 15, 11, 0, 7, 4, 3, 2, 0, 15, 0, 1, 2, 0, 11])], [], [(1, 4, -4294967296, 2000), (4, 1, -4294967296, 2000)])
theorem oo_Mo_next_23 {kA : Nat → ClassId} : or_ok kA GG o_Mo_next_23 := by
  intro A ta ws vs hD hth hl hk hds hf
  have hl : vs.length = 11 := hl
  have hk : ∀ q ∈ ([(0, (2, 0, 0, [150])), (1, (0, 0, 2000, [])), (2, (2, 0, 0, [150])), (4, (0, 0, 1999, [])), (5, (0, 0, 64, [])), (7, (0, 58, 255, [])), (9, (0, 0, 255, [])), (10, (0, 95, 95, []))] : List (Nat × tv_T)), tv_ok ta q.2 (n_v vs q.1) := hk
  obtain ⟨t0, hk⟩ := List.forall_mem_cons.mp hk
  have t0 : tv_ok ta (2, 0, 0, [150]) (n_v vs 0) := t0
  have r0 : ta (v_ad (n_v vs 0)) = some 150 := tv_rg t0
  obtain ⟨t1, hk⟩ := List.forall_mem_cons.mp hk
  have t1 : tv_ok ta (0, 0, 2000, []) (n_v vs 1) := t1
  have k1 : 0 ≤ v_iv (n_v vs 1) ∧ v_iv (n_v vs 1) ≤ 2000 := tv_rng t1
  obtain ⟨t2, hk⟩ := List.forall_mem_cons.mp hk
  have t2 : tv_ok ta (2, 0, 0, [150]) (n_v vs 2) := t2
  have r2 : ta (v_ad (n_v vs 2)) = some 150 := tv_rg t2
  obtain ⟨t4, hk⟩ := List.forall_mem_cons.mp hk
  have t4 : tv_ok ta (0, 0, 1999, []) (n_v vs 4) := t4
  have k4 : 0 ≤ v_iv (n_v vs 4) ∧ v_iv (n_v vs 4) ≤ 1999 := tv_rng t4
  obtain ⟨t5, hk⟩ := List.forall_mem_cons.mp hk
  have t5 : tv_ok ta (0, 0, 64, []) (n_v vs 5) := t5
  have k5 : 0 ≤ v_iv (n_v vs 5) ∧ v_iv (n_v vs 5) ≤ 64 := tv_rng t5
  obtain ⟨t7, hk⟩ := List.forall_mem_cons.mp hk
  have t7 : tv_ok ta (0, 58, 255, []) (n_v vs 7) := t7
  have k7 : 58 ≤ v_iv (n_v vs 7) ∧ v_iv (n_v vs 7) ≤ 255 := tv_rng t7
  obtain ⟨t9, hk⟩ := List.forall_mem_cons.mp hk
  have t9 : tv_ok ta (0, 0, 255, []) (n_v vs 9) := t9
  have k9 : 0 ≤ v_iv (n_v vs 9) ∧ v_iv (n_v vs 9) ≤ 255 := tv_rng t9
  obtain ⟨t10, hk⟩ := List.forall_mem_cons.mp hk
  have t10 : tv_ok ta (0, 95, 95, []) (n_v vs 10) := t10
  have k10 : 95 ≤ v_iv (n_v vs 10) ∧ v_iv (n_v vs 10) ≤ 95 := tv_rng t10
  have hds : ∀ q ∈ ([(1, 4, -4294967296, 2000), (4, 1, -4294967296, 2000)] : List of_T), n_iv vs q.2.1 + q.2.2.1 ≤ n_iv vs q.1 ∧ n_iv vs q.1 ≤ n_iv vs q.2.1 + q.2.2.2 := hds
  obtain ⟨d0, hds⟩ := List.forall_mem_cons.mp hds
  have d0 : v_iv (n_v vs 4) + (-4294967296) ≤ v_iv (n_v vs 1) ∧ v_iv (n_v vs 1) ≤ v_iv (n_v vs 4) + 2000 := d0
  obtain ⟨d1, hds⟩ := List.forall_mem_cons.mp hds
  have d1 : v_iv (n_v vs 1) + (-4294967296) ≤ v_iv (n_v vs 4) ∧ v_iv (n_v vs 4) ≤ v_iv (n_v vs 1) + 2000 := d1
  have hf : fc_ok [(7, [9, 10], [1]), (20, [4, 2, 9], [50, 1, 1, 1010, 1001, 4, 11, 0, 6, 4, 2, 1, 0, 0, 1, 2, 1, 10, 1, 2, 1, 2, 9, 5, 3, 1, 1, 1, 0, 0, 256]), (20, [2, 4, 9], [50, 1, 0, 10, 4, 7, 0, 3, 2, 0, 10, 1, 1, 1, 2, 1, 2, 0, -1]), (9, [4, 2], [11]), (20, [4, 2, 7], [50, 1, 1, 1010, 1001, 4, 11, 0, 6, 4, 2, 1, 0, 0, 1, 2, 1, 10, 1, 2, 1, 2, 9, 5, 3, 1, 1, 1, 0, 0, 256]), (20, [2, 4, 7], [50, 1, 0, 10, 4, 7, 0, 3, 2, 0, 10, 1, 1, 1, 2, 1, 2, 0, -1]), (20, [4, 2, 5], [50, 1, 1, 1010, 1001, 4, 11, 0, 6, 4, 2, 1, 0, 0, 1, 2, 1, 10, 1, 2, 1, 2, 9, 5, 3, 1, 1, 1, 0, 0, 256]), (20, [2, 4, 5], [50, 1, 0, 10, 4, 7, 0, 3, 2, 0, 10, 1, 1, 1, 2, 1, 2, 0, -1]), (20, [1, 2], [30, 0, 1, 0, 0, -1, 1, 15]), (20, [2], [50, 3, 1, 15, 11, 10, 1, 2, 8, 0, 3, 2, 0, 15, 2, 0, 11, 3, 12, 0, 7, 4, 3, 2, 0, 15, 0, 1, 2, 0, 11, 2, 8, 1, 3, 2, 0, 11, 2, 0, 15, 2, 12, 0, 7, 4, 3, 2, 0, 15, 0, 1, 2, 0, 10, 3, 30, 2, 14, 0, 2, 0, 65, 9, 6, 3, 0, 1, 2, 0, 15, 0, 256, 0, 10, 9, 6, 3, 0, 1, 2, 0, 15, 0, 256, 0, 90, 2, 14, 0, 2, 0, 97, 9, 6, 3, 0, 1, 2, 0, 15, 0, 256, 0, 10, 9, 6, 3, 0, 1, 2, 0, 15, 0, 256, 0, 122]), (24, [0, 2], [])] ta ws vs := hf
  obtain ⟨f0, hf⟩ := fc_un (show (7 : Nat) < 100 from by decide) hf
  have f0 : v_iv (n_v vs 9) ≠ v_iv (n_v vs 10) := f0
  obtain ⟨f1, hf⟩ := fc_un (show (20 : Nat) < 100 from by decide) hf
  have f1 : ((v_iv (n_v vs 4) + 1) ≤ w_fi ws (n_v vs 2) 10) → (v_iv (n_v vs 9) = (w_ei ws (w_ar ws (n_v vs 2) 1) (v_iv (n_v vs 4)) % 256)) := f1
  obtain ⟨f2, hf⟩ := fc_un (show (20 : Nat) < 100 from by decide) hf
  have f2 : (w_fi ws (n_v vs 2) 10 ≤ v_iv (n_v vs 4)) → (v_iv (n_v vs 9) = (-1)) := f2
  obtain ⟨f3, hf⟩ := fc_un (show (9 : Nat) < 100 from by decide) hf
  have f3 : n_v vs 4 = w_fd ws (v_ad (n_v vs 2)) 11 := f3
  obtain ⟨f4, hf⟩ := fc_un (show (20 : Nat) < 100 from by decide) hf
  have f4 : ((v_iv (n_v vs 4) + 1) ≤ w_fi ws (n_v vs 2) 10) → (v_iv (n_v vs 7) = (w_ei ws (w_ar ws (n_v vs 2) 1) (v_iv (n_v vs 4)) % 256)) := f4
  obtain ⟨f5, hf⟩ := fc_un (show (20 : Nat) < 100 from by decide) hf
  have f5 : (w_fi ws (n_v vs 2) 10 ≤ v_iv (n_v vs 4)) → (v_iv (n_v vs 7) = (-1)) := f5
  obtain ⟨f6, hf⟩ := fc_un (show (20 : Nat) < 100 from by decide) hf
  have f6 : ((v_iv (n_v vs 4) + 1) ≤ w_fi ws (n_v vs 2) 10) → (v_iv (n_v vs 5) = (w_ei ws (w_ar ws (n_v vs 2) 1) (v_iv (n_v vs 4)) % 256)) := f6
  obtain ⟨f7, hf⟩ := fc_un (show (20 : Nat) < 100 from by decide) hf
  have f7 : (w_fi ws (n_v vs 2) 10 ≤ v_iv (n_v vs 4)) → (v_iv (n_v vs 5) = (-1)) := f7
  obtain ⟨f8, hf⟩ := fc_un (show (20 : Nat) < 100 from by decide) hf
  have f8 : 1 * v_iv (n_v vs 1) + ((-1) * w_fi ws (n_v vs 2) 15 + 0) ≤ 0 := f8
  obtain ⟨f9, hf⟩ := fc_un (show (20 : Nat) < 100 from by decide) hf
  have f9 : (w_fi ws (n_v vs 2) 15 ≤ w_fi ws (n_v vs 2) 11) ∧ (((w_fi ws (n_v vs 2) 15 + 1) ≤ w_fi ws (n_v vs 2) 11) ∨ ((w_fi ws (n_v vs 2) 11 = w_fi ws (n_v vs 2) 15) ∧ (((w_fi ws (n_v vs 2) 15 + 1) ≤ w_fi ws (n_v vs 2) 10) ∧ (((65 ≤ (w_ei ws (w_ar ws (n_v vs 2) 1) (w_fi ws (n_v vs 2) 15) % 256)) ∧ ((w_ei ws (w_ar ws (n_v vs 2) 1) (w_fi ws (n_v vs 2) 15) % 256) ≤ 90)) ∨ ((97 ≤ (w_ei ws (w_ar ws (n_v vs 2) 1) (w_fi ws (n_v vs 2) 15) % 256)) ∧ ((w_ei ws (w_ar ws (n_v vs 2) 1) (w_fi ws (n_v vs 2) 15) % 256) ≤ 122)))))) := f9
  obtain ⟨f10, hf⟩ := fc_un (show (24 : Nat) < 100 from by decide) hf
  have f10 : n_v vs 0 = n_v vs 2 := f10
  have q2 : n_v vs 2 = n_v vs 0 := f10.symm
  rw [q2] at f1
  rw [q2] at f2
  rw [q2] at f3
  rw [q2] at f4
  rw [q2] at f5
  rw [q2] at f6
  rw [q2] at f7
  rw [q2] at f8
  rw [q2] at f9
  have cr_0_1 : ta (w_ar ws (n_v vs 0) 1) = some 151 := tv_rg (th_fd hD hth r0 (g := GG_150) rfl (k := 1) (t := (2, 0, 0, [151])) rfl rfl)
  have g3 : v_iv (n_v vs 4) = w_fi ws (n_v vs 0) 11 := congrArg v_iv f3
  have hK_0_1 : ∀ j : Int, 0 ≤ j → j < 2000 → (-128) ≤ w_ei ws (w_ar ws (n_v vs 0) 1) j ∧ w_ei ws (w_ar ws (n_v vs 0) 1) j ≤ 127 := fun j h0 h1 => th_el hD hth cr_0_1 (kd := 1) (n := 2000) (m := 2000) (lo := (-128)) (hi := 127) (rs := []) (L := []) rfl (by decide) (j := j.toNat) (by omega)
  have kz_0_10 : 0 ≤ w_fi ws (n_v vs 0) 10 ∧ w_fi ws (n_v vs 0) 10 ≤ 2000 := tv_rng (th_fd hD hth r0 (g := GG_150) rfl (k := 10) (t := (0, 0, 2000, [])) rfl rfl)
  have kz_0_11 : 0 ≤ w_fi ws (n_v vs 0) 11 ∧ w_fi ws (n_v vs 0) 11 ≤ 2000 := tv_rng (th_fd hD hth r0 (g := GG_150) rfl (k := 11) (t := (0, 0, 2000, [])) rfl rfl)
  have kz_0_15 : 0 ≤ w_fi ws (n_v vs 0) 15 ∧ w_fi ws (n_v vs 0) 15 ≤ 2000 := tv_rng (th_fd hD hth r0 (g := GG_150) rfl (k := 15) (t := (0, 0, 2000, [])) rfl rfl)
  have nf0 : fc_1 (20, [2], [50, 2, 0, 15, 11, 0, 7, 4, 3, 2, 0, 15, 0, 1, 2, 0, 11]) ws (vs) := by
    refine ⟨fun n hn => ?_, ?_⟩
    · have hn : n ∈ [2] := hn
      rw [hl]
      simp only [List.mem_cons, List.not_mem_nil, or_false] at hn
      show n < 11; omega
    · show (w_fi ws (n_v vs 2) 15 + 1) ≤ w_fi ws (n_v vs 2) 11
      rw [q2]
      first | omega | grind
  refine ⟨(fun _ h => (by cases h)), [], trivial, ?_, (fun _ h => (by cases h))⟩
  rw [List.append_nil]
  exact List.forall_mem_cons.mpr ⟨⟨show (20 : Nat) < 100 from by decide, nf0⟩, (fun _ h => (by cases h))⟩
def o_Mo_next_24 : or_T := (147, 11, [(0, (2, 0, 0, [150])), (1, (0, 0, 2000, [])), (2, (2, 0, 0, [150])), (4, (0, 0, 1999, [])), (5, (0, 91, 96, [])), (7, (0, -1, -1, [])), (9, (0, -1, -1, [])), (10, (0, 95, 95, []))], [(7, [9, 10], [1]), (20, [4, 2, 9], [50, 1, 1, 1010, 1001, 4, 11, 0, 6, 4, 2, 1, 0, 0, 1, 2, 1, 10, 1, 2, 1, 2, 9, 5, 3, 1, 1, 1, 0, 0, 256]), (20, [2, 4, 9], [50, 1, 0, 10, 4, 7, 0, 3, 2, 0, 10, 1, 1, 1, 2, 1, 2, 0, -1]), (9, [4, 2], [11]), (20, [4, 2, 7], [50, 1, 1, 1010, 1001, 4, 11, 0, 6, 4, 2, 1, 0, 0, 1, 2, 1, 10, 1, 2, 1, 2, 9, 5, 3, 1, 1, 1, 0, 0, 256]), (20, [2, 4, 7], [50, 1, 0, 10, 4, 7, 0, 3, 2, 0, 10, 1, 1, 1, 2, 1, 2, 0, -1]), (20, [4, 2, 5], [50, 1, 1, 1010, 1001, 4, 11, 0, 6, 4, 2, 1, 0, 0, 1, 2, 1, 10, 1, 2, 1, 2, 9, 5, 3, 1, 1, 1, 0, 0, 256]), (20, [2, 4, 5], [50, 1, 0, 10, 4, 7, 0, 3, 2, 0, 10, 1, 1, 1, 2, 1, 2, 0, -1]), (20, [1, 2], [30, 0, 1, 0, 0, -1, 1, 15]), (20, [2], [50, 3, 1, 15, 11, 10, 1, 2, 8, 0, 3, 2, 0, 15, 2, 0, 11, 3, 12, 0, 7, 4, 3, 2, 0, 15, 0, 1, 2, 0, 11, 2, 8, 1, 3, 2, 0, 11, 2, 0, 15, 2, 12, 0, 7, 4, 3, 2, 0, 15, 0, 1, 2, 0, 10, 3, 30, 2, 14, 0, 2, 0, 65, 9, 6, 3, 0, 1, 2, 0, 15, 0, 256, 0, 10, 9, 6, 3, 0, 1, 2, 0, 15, 0, 256, 0, 90, 2, 14, 0, 2, 0, 97, 9, 6, 3, 0, 1, 2, 0, 15, 0, 256, 0, 10, 9, 6, 3, 0, 1, 2, 0, 15, 0, 256, 0, 122]), (24, [0, 2], [])], [], [], [(20, [2], [50, 2, 0, 15, 11, 0, 7, 4, 3, 2, 0, 15, 0, 1, 2, 0, 11])], [], [(1, 4, -4294967296, 2000), (4, 1, -4294967296, 2000)])
theorem oo_Mo_next_24 {kA : Nat → ClassId} : or_ok kA GG o_Mo_next_24 := by
  intro A ta ws vs hD hth hl hk hds hf
  have hl : vs.length = 11 := hl
  have hk : ∀ q ∈ ([(0, (2, 0, 0, [150])), (1, (0, 0, 2000, [])), (2, (2, 0, 0, [150])), (4, (0, 0, 1999, [])), (5, (0, 91, 96, [])), (7, (0, -1, -1, [])), (9, (0, -1, -1, [])), (10, (0, 95, 95, []))] : List (Nat × tv_T)), tv_ok ta q.2 (n_v vs q.1) := hk
  obtain ⟨t0, hk⟩ := List.forall_mem_cons.mp hk
  have t0 : tv_ok ta (2, 0, 0, [150]) (n_v vs 0) := t0
  have r0 : ta (v_ad (n_v vs 0)) = some 150 := tv_rg t0
  obtain ⟨t1, hk⟩ := List.forall_mem_cons.mp hk
  have t1 : tv_ok ta (0, 0, 2000, []) (n_v vs 1) := t1
  have k1 : 0 ≤ v_iv (n_v vs 1) ∧ v_iv (n_v vs 1) ≤ 2000 := tv_rng t1
  obtain ⟨t2, hk⟩ := List.forall_mem_cons.mp hk
  have t2 : tv_ok ta (2, 0, 0, [150]) (n_v vs 2) := t2
  have r2 : ta (v_ad (n_v vs 2)) = some 150 := tv_rg t2
  obtain ⟨t4, hk⟩ := List.forall_mem_cons.mp hk
  have t4 : tv_ok ta (0, 0, 1999, []) (n_v vs 4) := t4
  have k4 : 0 ≤ v_iv (n_v vs 4) ∧ v_iv (n_v vs 4) ≤ 1999 := tv_rng t4
  obtain ⟨t5, hk⟩ := List.forall_mem_cons.mp hk
  have t5 : tv_ok ta (0, 91, 96, []) (n_v vs 5) := t5
  have k5 : 91 ≤ v_iv (n_v vs 5) ∧ v_iv (n_v vs 5) ≤ 96 := tv_rng t5
  obtain ⟨t7, hk⟩ := List.forall_mem_cons.mp hk
  have t7 : tv_ok ta (0, -1, -1, []) (n_v vs 7) := t7
  have k7 : (-1) ≤ v_iv (n_v vs 7) ∧ v_iv (n_v vs 7) ≤ (-1) := tv_rng t7
  obtain ⟨t9, hk⟩ := List.forall_mem_cons.mp hk
  have t9 : tv_ok ta (0, -1, -1, []) (n_v vs 9) := t9
  have k9 : (-1) ≤ v_iv (n_v vs 9) ∧ v_iv (n_v vs 9) ≤ (-1) := tv_rng t9
  obtain ⟨t10, hk⟩ := List.forall_mem_cons.mp hk
  have t10 : tv_ok ta (0, 95, 95, []) (n_v vs 10) := t10
  have k10 : 95 ≤ v_iv (n_v vs 10) ∧ v_iv (n_v vs 10) ≤ 95 := tv_rng t10
  have hds : ∀ q ∈ ([(1, 4, -4294967296, 2000), (4, 1, -4294967296, 2000)] : List of_T), n_iv vs q.2.1 + q.2.2.1 ≤ n_iv vs q.1 ∧ n_iv vs q.1 ≤ n_iv vs q.2.1 + q.2.2.2 := hds
  obtain ⟨d0, hds⟩ := List.forall_mem_cons.mp hds
  have d0 : v_iv (n_v vs 4) + (-4294967296) ≤ v_iv (n_v vs 1) ∧ v_iv (n_v vs 1) ≤ v_iv (n_v vs 4) + 2000 := d0
  obtain ⟨d1, hds⟩ := List.forall_mem_cons.mp hds
  have d1 : v_iv (n_v vs 1) + (-4294967296) ≤ v_iv (n_v vs 4) ∧ v_iv (n_v vs 4) ≤ v_iv (n_v vs 1) + 2000 := d1
  have hf : fc_ok [(7, [9, 10], [1]), (20, [4, 2, 9], [50, 1, 1, 1010, 1001, 4, 11, 0, 6, 4, 2, 1, 0, 0, 1, 2, 1, 10, 1, 2, 1, 2, 9, 5, 3, 1, 1, 1, 0, 0, 256]), (20, [2, 4, 9], [50, 1, 0, 10, 4, 7, 0, 3, 2, 0, 10, 1, 1, 1, 2, 1, 2, 0, -1]), (9, [4, 2], [11]), (20, [4, 2, 7], [50, 1, 1, 1010, 1001, 4, 11, 0, 6, 4, 2, 1, 0, 0, 1, 2, 1, 10, 1, 2, 1, 2, 9, 5, 3, 1, 1, 1, 0, 0, 256]), (20, [2, 4, 7], [50, 1, 0, 10, 4, 7, 0, 3, 2, 0, 10, 1, 1, 1, 2, 1, 2, 0, -1]), (20, [4, 2, 5], [50, 1, 1, 1010, 1001, 4, 11, 0, 6, 4, 2, 1, 0, 0, 1, 2, 1, 10, 1, 2, 1, 2, 9, 5, 3, 1, 1, 1, 0, 0, 256]), (20, [2, 4, 5], [50, 1, 0, 10, 4, 7, 0, 3, 2, 0, 10, 1, 1, 1, 2, 1, 2, 0, -1]), (20, [1, 2], [30, 0, 1, 0, 0, -1, 1, 15]), (20, [2], [50, 3, 1, 15, 11, 10, 1, 2, 8, 0, 3, 2, 0, 15, 2, 0, 11, 3, 12, 0, 7, 4, 3, 2, 0, 15, 0, 1, 2, 0, 11, 2, 8, 1, 3, 2, 0, 11, 2, 0, 15, 2, 12, 0, 7, 4, 3, 2, 0, 15, 0, 1, 2, 0, 10, 3, 30, 2, 14, 0, 2, 0, 65, 9, 6, 3, 0, 1, 2, 0, 15, 0, 256, 0, 10, 9, 6, 3, 0, 1, 2, 0, 15, 0, 256, 0, 90, 2, 14, 0, 2, 0, 97, 9, 6, 3, 0, 1, 2, 0, 15, 0, 256, 0, 10, 9, 6, 3, 0, 1, 2, 0, 15, 0, 256, 0, 122]), (24, [0, 2], [])] ta ws vs := hf
  obtain ⟨f0, hf⟩ := fc_un (show (7 : Nat) < 100 from by decide) hf
  have f0 : v_iv (n_v vs 9) ≠ v_iv (n_v vs 10) := f0
  obtain ⟨f1, hf⟩ := fc_un (show (20 : Nat) < 100 from by decide) hf
  have f1 : ((v_iv (n_v vs 4) + 1) ≤ w_fi ws (n_v vs 2) 10) → (v_iv (n_v vs 9) = (w_ei ws (w_ar ws (n_v vs 2) 1) (v_iv (n_v vs 4)) % 256)) := f1
  obtain ⟨f2, hf⟩ := fc_un (show (20 : Nat) < 100 from by decide) hf
  have f2 : (w_fi ws (n_v vs 2) 10 ≤ v_iv (n_v vs 4)) → (v_iv (n_v vs 9) = (-1)) := f2
  obtain ⟨f3, hf⟩ := fc_un (show (9 : Nat) < 100 from by decide) hf
  have f3 : n_v vs 4 = w_fd ws (v_ad (n_v vs 2)) 11 := f3
  obtain ⟨f4, hf⟩ := fc_un (show (20 : Nat) < 100 from by decide) hf
  have f4 : ((v_iv (n_v vs 4) + 1) ≤ w_fi ws (n_v vs 2) 10) → (v_iv (n_v vs 7) = (w_ei ws (w_ar ws (n_v vs 2) 1) (v_iv (n_v vs 4)) % 256)) := f4
  obtain ⟨f5, hf⟩ := fc_un (show (20 : Nat) < 100 from by decide) hf
  have f5 : (w_fi ws (n_v vs 2) 10 ≤ v_iv (n_v vs 4)) → (v_iv (n_v vs 7) = (-1)) := f5
  obtain ⟨f6, hf⟩ := fc_un (show (20 : Nat) < 100 from by decide) hf
  have f6 : ((v_iv (n_v vs 4) + 1) ≤ w_fi ws (n_v vs 2) 10) → (v_iv (n_v vs 5) = (w_ei ws (w_ar ws (n_v vs 2) 1) (v_iv (n_v vs 4)) % 256)) := f6
  obtain ⟨f7, hf⟩ := fc_un (show (20 : Nat) < 100 from by decide) hf
  have f7 : (w_fi ws (n_v vs 2) 10 ≤ v_iv (n_v vs 4)) → (v_iv (n_v vs 5) = (-1)) := f7
  obtain ⟨f8, hf⟩ := fc_un (show (20 : Nat) < 100 from by decide) hf
  have f8 : 1 * v_iv (n_v vs 1) + ((-1) * w_fi ws (n_v vs 2) 15 + 0) ≤ 0 := f8
  obtain ⟨f9, hf⟩ := fc_un (show (20 : Nat) < 100 from by decide) hf
  have f9 : (w_fi ws (n_v vs 2) 15 ≤ w_fi ws (n_v vs 2) 11) ∧ (((w_fi ws (n_v vs 2) 15 + 1) ≤ w_fi ws (n_v vs 2) 11) ∨ ((w_fi ws (n_v vs 2) 11 = w_fi ws (n_v vs 2) 15) ∧ (((w_fi ws (n_v vs 2) 15 + 1) ≤ w_fi ws (n_v vs 2) 10) ∧ (((65 ≤ (w_ei ws (w_ar ws (n_v vs 2) 1) (w_fi ws (n_v vs 2) 15) % 256)) ∧ ((w_ei ws (w_ar ws (n_v vs 2) 1) (w_fi ws (n_v vs 2) 15) % 256) ≤ 90)) ∨ ((97 ≤ (w_ei ws (w_ar ws (n_v vs 2) 1) (w_fi ws (n_v vs 2) 15) % 256)) ∧ ((w_ei ws (w_ar ws (n_v vs 2) 1) (w_fi ws (n_v vs 2) 15) % 256) ≤ 122)))))) := f9
  obtain ⟨f10, hf⟩ := fc_un (show (24 : Nat) < 100 from by decide) hf
  have f10 : n_v vs 0 = n_v vs 2 := f10
  have q2 : n_v vs 2 = n_v vs 0 := f10.symm
  rw [q2] at f1
  rw [q2] at f2
  rw [q2] at f3
  rw [q2] at f4
  rw [q2] at f5
  rw [q2] at f6
  rw [q2] at f7
  rw [q2] at f8
  rw [q2] at f9
  have cr_0_1 : ta (w_ar ws (n_v vs 0) 1) = some 151 := tv_rg (th_fd hD hth r0 (g := GG_150) rfl (k := 1) (t := (2, 0, 0, [151])) rfl rfl)
  have g3 : v_iv (n_v vs 4) = w_fi ws (n_v vs 0) 11 := congrArg v_iv f3
  have hK_0_1 : ∀ j : Int, 0 ≤ j → j < 2000 → (-128) ≤ w_ei ws (w_ar ws (n_v vs 0) 1) j ∧ w_ei ws (w_ar ws (n_v vs 0) 1) j ≤ 127 := fun j h0 h1 => th_el hD hth cr_0_1 (kd := 1) (n := 2000) (m := 2000) (lo := (-128)) (hi := 127) (rs := []) (L := []) rfl (by decide) (j := j.toNat) (by omega)
  have kz_0_10 : 0 ≤ w_fi ws (n_v vs 0) 10 ∧ w_fi ws (n_v vs 0) 10 ≤ 2000 := tv_rng (th_fd hD hth r0 (g := GG_150) rfl (k := 10) (t := (0, 0, 2000, [])) rfl rfl)
  have kz_0_11 : 0 ≤ w_fi ws (n_v vs 0) 11 ∧ w_fi ws (n_v vs 0) 11 ≤ 2000 := tv_rng (th_fd hD hth r0 (g := GG_150) rfl (k := 11) (t := (0, 0, 2000, [])) rfl rfl)
  have kz_0_15 : 0 ≤ w_fi ws (n_v vs 0) 15 ∧ w_fi ws (n_v vs 0) 15 ≤ 2000 := tv_rng (th_fd hD hth r0 (g := GG_150) rfl (k := 15) (t := (0, 0, 2000, [])) rfl rfl)
  have nf0 : fc_1 (20, [2], [50, 2, 0, 15, 11, 0, 7, 4, 3, 2, 0, 15, 0, 1, 2, 0, 11]) ws (vs) := by
    refine ⟨fun n hn => ?_, ?_⟩
    · have hn : n ∈ [2] := hn
      rw [hl]
      simp only [List.mem_cons, List.not_mem_nil, or_false] at hn
      show n < 11; omega
    · show (w_fi ws (n_v vs 2) 15 + 1) ≤ w_fi ws (n_v vs 2) 11
      rw [q2]
      first | omega | grind
  refine ⟨(fun _ h => (by cases h)), [], trivial, ?_, (fun _ h => (by cases h))⟩
  rw [List.append_nil]
  exact List.forall_mem_cons.mpr ⟨⟨show (20 : Nat) < 100 from by decide, nf0⟩, (fun _ h => (by cases h))⟩
def o_Mo_next_25 : or_T := (147, 11, [(0, (2, 0, 0, [150])), (1, (0, 0, 2000, [])), (2, (2, 0, 0, [150])), (4, (0, 0, 1999, [])), (5, (0, 91, 96, [])), (7, (0, -1, -1, [])), (9, (0, 0, 255, [])), (10, (0, 95, 95, []))], [(7, [9, 10], [1]), (20, [4, 2, 9], [50, 1, 1, 1010, 1001, 4, 11, 0, 6, 4, 2, 1, 0, 0, 1, 2, 1, 10, 1, 2, 1, 2, 9, 5, 3, 1, 1, 1, 0, 0, 256]), (20, [2, 4, 9], [50, 1, 0, 10, 4, 7, 0, 3, 2, 0, 10, 1, 1, 1, 2, 1, 2, 0, -1]), (9, [4, 2], [11]), (20, [4, 2, 7], [50, 1, 1, 1010, 1001, 4, 11, 0, 6, 4, 2, 1, 0, 0, 1, 2, 1, 10, 1, 2, 1, 2, 9, 5, 3, 1, 1, 1, 0, 0, 256]), (20, [2, 4, 7], [50, 1, 0, 10, 4, 7, 0, 3, 2, 0, 10, 1, 1, 1, 2, 1, 2, 0, -1]), (20, [4, 2, 5], [50, 1, 1, 1010, 1001, 4, 11, 0, 6, 4, 2, 1, 0, 0, 1, 2, 1, 10, 1, 2, 1, 2, 9, 5, 3, 1, 1, 1, 0, 0, 256]), (20, [2, 4, 5], [50, 1, 0, 10, 4, 7, 0, 3, 2, 0, 10, 1, 1, 1, 2, 1, 2, 0, -1]), (20, [1, 2], [30, 0, 1, 0, 0, -1, 1, 15]), (20, [2], [50, 3, 1, 15, 11, 10, 1, 2, 8, 0, 3, 2, 0, 15, 2, 0, 11, 3, 12, 0, 7, 4, 3, 2, 0, 15, 0, 1, 2, 0, 11, 2, 8, 1, 3, 2, 0, 11, 2, 0, 15, 2, 12, 0, 7, 4, 3, 2, 0, 15, 0, 1, 2, 0, 10, 3, 30, 2, 14, 0, 2, 0, 65, 9, 6, 3, 0, 1, 2, 0, 15, 0, 256, 0, 10, 9, 6, 3, 0, 1, 2, 0, 15, 0, 256, 0, 90, 2, 14, 0, 2, 0, 97, 9, 6, 3, 0, 1, 2, 0, 15, 0, 256, 0, 10, 9, 6, 3, 0, 1, 2, 0, 15, 0, 256, 0, 122]), (24, [0, 2], [])], [], [], [(20, [2], [50, 2, 0, 15, 11, 0, 7, 4, 3, 2, 0, 15, 0, 1, 2, 0, 11])], [], [(1, 4, -4294967296, 2000), (4, 1, -4294967296, 2000)])
theorem oo_Mo_next_25 {kA : Nat → ClassId} : or_ok kA GG o_Mo_next_25 := by
  intro A ta ws vs hD hth hl hk hds hf
  have hl : vs.length = 11 := hl
  have hk : ∀ q ∈ ([(0, (2, 0, 0, [150])), (1, (0, 0, 2000, [])), (2, (2, 0, 0, [150])), (4, (0, 0, 1999, [])), (5, (0, 91, 96, [])), (7, (0, -1, -1, [])), (9, (0, 0, 255, [])), (10, (0, 95, 95, []))] : List (Nat × tv_T)), tv_ok ta q.2 (n_v vs q.1) := hk
  obtain ⟨t0, hk⟩ := List.forall_mem_cons.mp hk
  have t0 : tv_ok ta (2, 0, 0, [150]) (n_v vs 0) := t0
  have r0 : ta (v_ad (n_v vs 0)) = some 150 := tv_rg t0
  obtain ⟨t1, hk⟩ := List.forall_mem_cons.mp hk
  have t1 : tv_ok ta (0, 0, 2000, []) (n_v vs 1) := t1
  have k1 : 0 ≤ v_iv (n_v vs 1) ∧ v_iv (n_v vs 1) ≤ 2000 := tv_rng t1
  obtain ⟨t2, hk⟩ := List.forall_mem_cons.mp hk
  have t2 : tv_ok ta (2, 0, 0, [150]) (n_v vs 2) := t2
  have r2 : ta (v_ad (n_v vs 2)) = some 150 := tv_rg t2
  obtain ⟨t4, hk⟩ := List.forall_mem_cons.mp hk
  have t4 : tv_ok ta (0, 0, 1999, []) (n_v vs 4) := t4
  have k4 : 0 ≤ v_iv (n_v vs 4) ∧ v_iv (n_v vs 4) ≤ 1999 := tv_rng t4
  obtain ⟨t5, hk⟩ := List.forall_mem_cons.mp hk
  have t5 : tv_ok ta (0, 91, 96, []) (n_v vs 5) := t5
  have k5 : 91 ≤ v_iv (n_v vs 5) ∧ v_iv (n_v vs 5) ≤ 96 := tv_rng t5
  obtain ⟨t7, hk⟩ := List.forall_mem_cons.mp hk
  have t7 : tv_ok ta (0, -1, -1, []) (n_v vs 7) := t7
  have k7 : (-1) ≤ v_iv (n_v vs 7) ∧ v_iv (n_v vs 7) ≤ (-1) := tv_rng t7
  obtain ⟨t9, hk⟩ := List.forall_mem_cons.mp hk
  have t9 : tv_ok ta (0, 0, 255, []) (n_v vs 9) := t9
  have k9 : 0 ≤ v_iv (n_v vs 9) ∧ v_iv (n_v vs 9) ≤ 255 := tv_rng t9
  obtain ⟨t10, hk⟩ := List.forall_mem_cons.mp hk
  have t10 : tv_ok ta (0, 95, 95, []) (n_v vs 10) := t10
  have k10 : 95 ≤ v_iv (n_v vs 10) ∧ v_iv (n_v vs 10) ≤ 95 := tv_rng t10
  have hds : ∀ q ∈ ([(1, 4, -4294967296, 2000), (4, 1, -4294967296, 2000)] : List of_T), n_iv vs q.2.1 + q.2.2.1 ≤ n_iv vs q.1 ∧ n_iv vs q.1 ≤ n_iv vs q.2.1 + q.2.2.2 := hds
  obtain ⟨d0, hds⟩ := List.forall_mem_cons.mp hds
  have d0 : v_iv (n_v vs 4) + (-4294967296) ≤ v_iv (n_v vs 1) ∧ v_iv (n_v vs 1) ≤ v_iv (n_v vs 4) + 2000 := d0
  obtain ⟨d1, hds⟩ := List.forall_mem_cons.mp hds
  have d1 : v_iv (n_v vs 1) + (-4294967296) ≤ v_iv (n_v vs 4) ∧ v_iv (n_v vs 4) ≤ v_iv (n_v vs 1) + 2000 := d1
  have hf : fc_ok [(7, [9, 10], [1]), (20, [4, 2, 9], [50, 1, 1, 1010, 1001, 4, 11, 0, 6, 4, 2, 1, 0, 0, 1, 2, 1, 10, 1, 2, 1, 2, 9, 5, 3, 1, 1, 1, 0, 0, 256]), (20, [2, 4, 9], [50, 1, 0, 10, 4, 7, 0, 3, 2, 0, 10, 1, 1, 1, 2, 1, 2, 0, -1]), (9, [4, 2], [11]), (20, [4, 2, 7], [50, 1, 1, 1010, 1001, 4, 11, 0, 6, 4, 2, 1, 0, 0, 1, 2, 1, 10, 1, 2, 1, 2, 9, 5, 3, 1, 1, 1, 0, 0, 256]), (20, [2, 4, 7], [50, 1, 0, 10, 4, 7, 0, 3, 2, 0, 10, 1, 1, 1, 2, 1, 2, 0, -1]), (20, [4, 2, 5], [50, 1, 1, 1010, 1001, 4, 11, 0, 6, 4, 2, 1, 0, 0, 1, 2, 1, 10, 1, 2, 1, 2, 9, 5, 3, 1, 1, 1, 0, 0, 256]), (20, [2, 4, 5], [50, 1, 0, 10, 4, 7, 0, 3, 2, 0, 10, 1, 1, 1, 2, 1, 2, 0, -1]), (20, [1, 2], [30, 0, 1, 0, 0, -1, 1, 15]), (20, [2], [50, 3, 1, 15, 11, 10, 1, 2, 8, 0, 3, 2, 0, 15, 2, 0, 11, 3, 12, 0, 7, 4, 3, 2, 0, 15, 0, 1, 2, 0, 11, 2, 8, 1, 3, 2, 0, 11, 2, 0, 15, 2, 12, 0, 7, 4, 3, 2, 0, 15, 0, 1, 2, 0, 10, 3, 30, 2, 14, 0, 2, 0, 65, 9, 6, 3, 0, 1, 2, 0, 15, 0, 256, 0, 10, 9, 6, 3, 0, 1, 2, 0, 15, 0, 256, 0, 90, 2, 14, 0, 2, 0, 97, 9, 6, 3, 0, 1, 2, 0, 15, 0, 256, 0, 10, 9, 6, 3, 0, 1, 2, 0, 15, 0, 256, 0, 122]), (24, [0, 2], [])] ta ws vs := hf
  obtain ⟨f0, hf⟩ := fc_un (show (7 : Nat) < 100 from by decide) hf
  have f0 : v_iv (n_v vs 9) ≠ v_iv (n_v vs 10) := f0
  obtain ⟨f1, hf⟩ := fc_un (show (20 : Nat) < 100 from by decide) hf
  have f1 : ((v_iv (n_v vs 4) + 1) ≤ w_fi ws (n_v vs 2) 10) → (v_iv (n_v vs 9) = (w_ei ws (w_ar ws (n_v vs 2) 1) (v_iv (n_v vs 4)) % 256)) := f1
  obtain ⟨f2, hf⟩ := fc_un (show (20 : Nat) < 100 from by decide) hf
  have f2 : (w_fi ws (n_v vs 2) 10 ≤ v_iv (n_v vs 4)) → (v_iv (n_v vs 9) = (-1)) := f2
  obtain ⟨f3, hf⟩ := fc_un (show (9 : Nat) < 100 from by decide) hf
  have f3 : n_v vs 4 = w_fd ws (v_ad (n_v vs 2)) 11 := f3
  obtain ⟨f4, hf⟩ := fc_un (show (20 : Nat) < 100 from by decide) hf
  have f4 : ((v_iv (n_v vs 4) + 1) ≤ w_fi ws (n_v vs 2) 10) → (v_iv (n_v vs 7) = (w_ei ws (w_ar ws (n_v vs 2) 1) (v_iv (n_v vs 4)) % 256)) := f4
  obtain ⟨f5, hf⟩ := fc_un (show (20 : Nat) < 100 from by decide) hf
  have f5 : (w_fi ws (n_v vs 2) 10 ≤ v_iv (n_v vs 4)) → (v_iv (n_v vs 7) = (-1)) := f5
  obtain ⟨f6, hf⟩ := fc_un (show (20 : Nat) < 100 from by decide) hf
  have f6 : ((v_iv (n_v vs 4) + 1) ≤ w_fi ws (n_v vs 2) 10) → (v_iv (n_v vs 5) = (w_ei ws (w_ar ws (n_v vs 2) 1) (v_iv (n_v vs 4)) % 256)) := f6
  obtain ⟨f7, hf⟩ := fc_un (show (20 : Nat) < 100 from by decide) hf
  have f7 : (w_fi ws (n_v vs 2) 10 ≤ v_iv (n_v vs 4)) → (v_iv (n_v vs 5) = (-1)) := f7
  obtain ⟨f8, hf⟩ := fc_un (show (20 : Nat) < 100 from by decide) hf
  have f8 : 1 * v_iv (n_v vs 1) + ((-1) * w_fi ws (n_v vs 2) 15 + 0) ≤ 0 := f8
  obtain ⟨f9, hf⟩ := fc_un (show (20 : Nat) < 100 from by decide) hf
  have f9 : (w_fi ws (n_v vs 2) 15 ≤ w_fi ws (n_v vs 2) 11) ∧ (((w_fi ws (n_v vs 2) 15 + 1) ≤ w_fi ws (n_v vs 2) 11) ∨ ((w_fi ws (n_v vs 2) 11 = w_fi ws (n_v vs 2) 15) ∧ (((w_fi ws (n_v vs 2) 15 + 1) ≤ w_fi ws (n_v vs 2) 10) ∧ (((65 ≤ (w_ei ws (w_ar ws (n_v vs 2) 1) (w_fi ws (n_v vs 2) 15) % 256)) ∧ ((w_ei ws (w_ar ws (n_v vs 2) 1) (w_fi ws (n_v vs 2) 15) % 256) ≤ 90)) ∨ ((97 ≤ (w_ei ws (w_ar ws (n_v vs 2) 1) (w_fi ws (n_v vs 2) 15) % 256)) ∧ ((w_ei ws (w_ar ws (n_v vs 2) 1) (w_fi ws (n_v vs 2) 15) % 256) ≤ 122)))))) := f9
  obtain ⟨f10, hf⟩ := fc_un (show (24 : Nat) < 100 from by decide) hf
  have f10 : n_v vs 0 = n_v vs 2 := f10
  have q2 : n_v vs 2 = n_v vs 0 := f10.symm
  rw [q2] at f1
  rw [q2] at f2
  rw [q2] at f3
  rw [q2] at f4
  rw [q2] at f5
  rw [q2] at f6
  rw [q2] at f7
  rw [q2] at f8
  rw [q2] at f9
  have cr_0_1 : ta (w_ar ws (n_v vs 0) 1) = some 151 := tv_rg (th_fd hD hth r0 (g := GG_150) rfl (k := 1) (t := (2, 0, 0, [151])) rfl rfl)
  have g3 : v_iv (n_v vs 4) = w_fi ws (n_v vs 0) 11 := congrArg v_iv f3
  have hK_0_1 : ∀ j : Int, 0 ≤ j → j < 2000 → (-128) ≤ w_ei ws (w_ar ws (n_v vs 0) 1) j ∧ w_ei ws (w_ar ws (n_v vs 0) 1) j ≤ 127 := fun j h0 h1 => th_el hD hth cr_0_1 (kd := 1) (n := 2000) (m := 2000) (lo := (-128)) (hi := 127) (rs := []) (L := []) rfl (by decide) (j := j.toNat) (by omega)
  have kz_0_10 : 0 ≤ w_fi ws (n_v vs 0) 10 ∧ w_fi ws (n_v vs 0) 10 ≤ 2000 := tv_rng (th_fd hD hth r0 (g := GG_150) rfl (k := 10) (t := (0, 0, 2000, [])) rfl rfl)
  have kz_0_11 : 0 ≤ w_fi ws (n_v vs 0) 11 ∧ w_fi ws (n_v vs 0) 11 ≤ 2000 := tv_rng (th_fd hD hth r0 (g := GG_150) rfl (k := 11) (t := (0, 0, 2000, [])) rfl rfl)
  have kz_0_15 : 0 ≤ w_fi ws (n_v vs 0) 15 ∧ w_fi ws (n_v vs 0) 15 ≤ 2000 := tv_rng (th_fd hD hth r0 (g := GG_150) rfl (k := 15) (t := (0, 0, 2000, [])) rfl rfl)
  have nf0 : fc_1 (20, [2], [50, 2, 0, 15, 11, 0, 7, 4, 3, 2, 0, 15, 0, 1, 2, 0, 11]) ws (vs) := by
    refine ⟨fun n hn => ?_, ?_⟩
    · have hn : n ∈ [2] := hn
      rw [hl]
      simp only [List.mem_cons, List.not_mem_nil, or_false] at hn
      show n < 11; omega
    · show (w_fi ws (n_v vs 2) 15 + 1) ≤ w_fi ws (n_v vs 2) 11
      rw [q2]
      first | omega | grind
  refine ⟨(fun _ h => (by cases h)), [], trivial, ?_, (fun _ h => (by cases h))⟩
  rw [List.append_nil]
  exact List.forall_mem_cons.mpr ⟨⟨show (20 : Nat) < 100 from by decide, nf0⟩, (fun _ h => (by cases h))⟩
def o_Mo_next_26 : or_T := (147, 11, [(0, (2, 0, 0, [150])), (1, (0, 0, 2000, [])), (2, (2, 0, 0, [150])), (4, (0, 0, 1999, [])), (5, (0, 91, 96, [])), (7, (0, 0, 47, [])), (9, (0, -1, -1, [])), (10, (0, 95, 95, []))], [(7, [9, 10], [1]), (20, [4, 2, 9], [50, 1, 1, 1010, 1001, 4, 11, 0, 6, 4, 2, 1, 0, 0, 1, 2, 1, 10, 1, 2, 1, 2, 9, 5, 3, 1, 1, 1, 0, 0, 256]), (20, [2, 4, 9], [50, 1, 0, 10, 4, 7, 0, 3, 2, 0, 10, 1, 1, 1, 2, 1, 2, 0, -1]), (9, [4, 2], [11]), (20, [4, 2, 7], [50, 1, 1, 1010, 1001, 4, 11, 0, 6, 4, 2, 1, 0, 0, 1, 2, 1, 10, 1, 2, 1, 2, 9, 5, 3, 1, 1, 1, 0, 0, 256]), (20, [2, 4, 7], [50, 1, 0, 10, 4, 7, 0, 3, 2, 0, 10, 1, 1, 1, 2, 1, 2, 0, -1]), (20, [4, 2, 5], [50, 1, 1, 1010, 1001, 4, 11, 0, 6, 4, 2, 1, 0, 0, 1, 2, 1, 10, 1, 2, 1, 2, 9, 5, 3, 1, 1, 1, 0, 0, 256]), (20, [2, 4, 5], [50, 1, 0, 10, 4, 7, 0, 3, 2, 0, 10, 1, 1, 1, 2, 1, 2, 0, -1]), (20, [1, 2], [30, 0, 1, 0, 0, -1, 1, 15]), (20, [2], [50, 3, 1, 15, 11, 10, 1, 2, 8, 0, 3, 2, 0, 15, 2, 0, 11, 3, 12, 0, 7, 4, 3, 2, 0, 15, 0, 1, 2, 0, 11, 2, 8, 1, 3, 2, 0, 11, 2, 0, 15, 2, 12, 0, 7, 4, 3, 2, 0, 15, 0, 1, 2, 0, 10, 3, 30, 2, 14, 0, 2, 0, 65, 9, 6, 3, 0, 1, 2, 0, 15, 0, 256, 0, 10, 9, 6, 3, 0, 1, 2, 0, 15, 0, 256, 0, 90, 2, 14, 0, 2, 0, 97, 9, 6, 3, 0, 1, 2, 0, 15, 0, 256, 0, 10, 9, 6, 3, 0, 1, 2, 0, 15, 0, 256, 0, 122]), (24, [0, 2], [])], [], [], [(20, [2], [50, 2, 0, 15, 11, 0, 7, 4, 3, 2, 0, 15, 0, 1, 2, 0, 11])], [], [(1, 4, -4294967296, 2000), (4, 1, -4294967296, 2000)])
theorem oo_Mo_next_26 {kA : Nat → ClassId} : or_ok kA GG o_Mo_next_26 := by
  intro A ta ws vs hD hth hl hk hds hf
  have hl : vs.length = 11 := hl
  have hk : ∀ q ∈ ([(0, (2, 0, 0, [150])), (1, (0, 0, 2000, [])), (2, (2, 0, 0, [150])), (4, (0, 0, 1999, [])), (5, (0, 91, 96, [])), (7, (0, 0, 47, [])), (9, (0, -1, -1, [])), (10, (0, 95, 95, []))] : List (Nat × tv_T)), tv_ok ta q.2 (n_v vs q.1) := hk
  obtain ⟨t0, hk⟩ := List.forall_mem_cons.mp hk
  have t0 : tv_ok ta (2, 0, 0, [150]) (n_v vs 0) := t0
  have r0 : ta (v_ad (n_v vs 0)) = some 150 := tv_rg t0
  obtain ⟨t1, hk⟩ := List.forall_mem_cons.mp hk
  have t1 : tv_ok ta (0, 0, 2000, []) (n_v vs 1) := t1
  have k1 : 0 ≤ v_iv (n_v vs 1) ∧ v_iv (n_v vs 1) ≤ 2000 := tv_rng t1
  obtain ⟨t2, hk⟩ := List.forall_mem_cons.mp hk
  have t2 : tv_ok ta (2, 0, 0, [150]) (n_v vs 2) := t2
  have r2 : ta (v_ad (n_v vs 2)) = some 150 := tv_rg t2
  obtain ⟨t4, hk⟩ := List.forall_mem_cons.mp hk
  have t4 : tv_ok ta (0, 0, 1999, []) (n_v vs 4) := t4
  have k4 : 0 ≤ v_iv (n_v vs 4) ∧ v_iv (n_v vs 4) ≤ 1999 := tv_rng t4
  obtain ⟨t5, hk⟩ := List.forall_mem_cons.mp hk
  have t5 : tv_ok ta (0, 91, 96, []) (n_v vs 5) := t5
  have k5 : 91 ≤ v_iv (n_v vs 5) ∧ v_iv (n_v vs 5) ≤ 96 := tv_rng t5
  obtain ⟨t7, hk⟩ := List.forall_mem_cons.mp hk
  have t7 : tv_ok ta (0, 0, 47, []) (n_v vs 7) := t7
  have k7 : 0 ≤ v_iv (n_v vs 7) ∧ v_iv (n_v vs 7) ≤ 47 := tv_rng t7
  obtain ⟨t9, hk⟩ := List.forall_mem_cons.mp hk
  have t9 : tv_ok ta (0, -1, -1, []) (n_v vs 9) := t9
  have k9 : (-1) ≤ v_iv (n_v vs 9) ∧ v_iv (n_v vs 9) ≤ (-1) := tv_rng t9
  obtain ⟨t10, hk⟩ := List.forall_mem_cons.mp hk
  have t10 : tv_ok ta (0, 95, 95, []) (n_v vs 10) := t10
  have k10 : 95 ≤ v_iv (n_v vs 10) ∧ v_iv (n_v vs 10) ≤ 95 := tv_rng t10
  have hds : ∀ q ∈ ([(1, 4, -4294967296, 2000), (4, 1, -4294967296, 2000)] : List of_T), n_iv vs q.2.1 + q.2.2.1 ≤ n_iv vs q.1 ∧ n_iv vs q.1 ≤ n_iv vs q.2.1 + q.2.2.2 := hds
  obtain ⟨d0, hds⟩ := List.forall_mem_cons.mp hds
  have d0 : v_iv (n_v vs 4) + (-4294967296) ≤ v_iv (n_v vs 1) ∧ v_iv (n_v vs 1) ≤ v_iv (n_v vs 4) + 2000 := d0
  obtain ⟨d1, hds⟩ := List.forall_mem_cons.mp hds
  have d1 : v_iv (n_v vs 1) + (-4294967296) ≤ v_iv (n_v vs 4) ∧ v_iv (n_v vs 4) ≤ v_iv (n_v vs 1) + 2000 := d1
  have hf : fc_ok [(7, [9, 10], [1]), (20, [4, 2, 9], [50, 1, 1, 1010, 1001, 4, 11, 0, 6, 4, 2, 1, 0, 0, 1, 2, 1, 10, 1, 2, 1, 2, 9, 5, 3, 1, 1, 1, 0, 0, 256]), (20, [2, 4, 9], [50, 1, 0, 10, 4, 7, 0, 3, 2, 0, 10, 1, 1, 1, 2, 1, 2, 0, -1]), (9, [4, 2], [11]), (20, [4, 2, 7], [50, 1, 1, 1010, 1001, 4, 11, 0, 6, 4, 2, 1, 0, 0, 1, 2, 1, 10, 1, 2, 1, 2, 9, 5, 3, 1, 1, 1, 0, 0, 256]), (20, [2, 4, 7], [50, 1, 0, 10, 4, 7, 0, 3, 2, 0, 10, 1, 1, 1, 2, 1, 2, 0, -1]), (20, [4, 2, 5], [50, 1, 1, 1010, 1001, 4, 11, 0, 6, 4, 2, 1, 0, 0, 1, 2, 1, 10, 1, 2, 1, 2, 9, 5, 3, 1, 1, 1, 0, 0, 256]), (20, [2, 4, 5], [50, 1, 0, 10, 4, 7, 0, 3, 2, 0, 10, 1, 1, 1, 2, 1, 2, 0, -1]), (20, [1, 2], [30, 0, 1, 0, 0, -1, 1, 15]), (20, [2], [50, 3, 1, 15, 11, 10, 1, 2, 8, 0, 3, 2, 0, 15, 2, 0, 11, 3, 12, 0, 7, 4, 3, 2, 0, 15, 0, 1, 2, 0, 11, 2, 8, 1, 3, 2, 0, 11, 2, 0, 15, 2, 12, 0, 7, 4, 3, 2, 0, 15, 0, 1, 2, 0, 10, 3, 30, 2, 14, 0, 2, 0, 65, 9, 6, 3, 0, 1, 2, 0, 15, 0, 256, 0, 10, 9, 6, 3, 0, 1, 2, 0, 15, 0, 256, 0, 90, 2, 14, 0, 2, 0, 97, 9, 6, 3, 0, 1, 2, 0, 15, 0, 256, 0, 10, 9, 6, 3, 0, 1, 2, 0, 15, 0, 256, 0, 122]), (24, [0, 2], [])] ta ws vs := hf
  obtain ⟨f0, hf⟩ := fc_un (show (7 : Nat) < 100 from by decide) hf
  have f0 : v_iv (n_v vs 9) ≠ v_iv (n_v vs 10) := f0
  obtain ⟨f1, hf⟩ := fc_un (show (20 : Nat) < 100 from by decide) hf
  have f1 : ((v_iv (n_v vs 4) + 1) ≤ w_fi ws (n_v vs 2) 10) → (v_iv (n_v vs 9) = (w_ei ws (w_ar ws (n_v vs 2) 1) (v_iv (n_v vs 4)) % 256)) := f1
  obtain ⟨f2, hf⟩ := fc_un (show (20 : Nat) < 100 from by decide) hf
  have f2 : (w_fi ws (n_v vs 2) 10 ≤ v_iv (n_v vs 4)) → (v_iv (n_v vs 9) = (-1)) := f2
  obtain ⟨f3, hf⟩ := fc_un (show (9 : Nat) < 100 from by decide) hf
  have f3 : n_v vs 4 = w_fd ws (v_ad (n_v vs 2)) 11 := f3
  obtain ⟨f4, hf⟩ := fc_un (show (20 : Nat) < 100 from by decide) hf
  have f4 : ((v_iv (n_v vs 4) + 1) ≤ w_fi ws (n_v vs 2) 10) → (v_iv (n_v vs 7) = (w_ei ws (w_ar ws (n_v vs 2) 1) (v_iv (n_v vs 4)) % 256)) := f4
  obtain ⟨f5, hf⟩ := fc_un (show (20 : Nat) < 100 from by decide) hf
  have f5 : (w_fi ws (n_v vs 2) 10 ≤ v_iv (n_v vs 4)) → (v_iv (n_v vs 7) = (-1)) := f5
  obtain ⟨f6, hf⟩ := fc_un (show (20 : Nat) < 100 from by decide) hf
  have f6 : ((v_iv (n_v vs 4) + 1) ≤ w_fi ws (n_v vs 2) 10) → (v_iv (n_v vs 5) = (w_ei ws (w_ar ws (n_v vs 2) 1) (v_iv (n_v vs 4)) % 256)) := f6
  obtain ⟨f7, hf⟩ := fc_un (show (20 : Nat) < 100 from by decide) hf
  have f7 : (w_fi ws (n_v vs 2) 10 ≤ v_iv (n_v vs 4)) → (v_iv (n_v vs 5) = (-1)) := f7
  obtain ⟨f8, hf⟩ := fc_un (show (20 : Nat) < 100 from by decide) hf
  have f8 : 1 * v_iv (n_v vs 1) + ((-1) * w_fi ws (n_v vs 2) 15 + 0) ≤ 0 := f8
  obtain ⟨f9, hf⟩ := fc_un (show (20 : Nat) < 100 from by decide) hf
  have f9 : (w_fi ws (n_v vs 2) 15 ≤ w_fi ws (n_v vs 2) 11) ∧ (((w_fi ws (n_v vs 2) 15 + 1) ≤ w_fi ws (n_v vs 2) 11) ∨ ((w_fi ws (n_v vs 2) 11 = w_fi ws (n_v vs 2) 15) ∧ (((w_fi ws (n_v vs 2) 15 + 1) ≤ w_fi ws (n_v vs 2) 10) ∧ (((65 ≤ (w_ei ws (w_ar ws (n_v vs 2) 1) (w_fi ws (n_v vs 2) 15) % 256)) ∧ ((w_ei ws (w_ar ws (n_v vs 2) 1) (w_fi ws (n_v vs 2) 15) % 256) ≤ 90)) ∨ ((97 ≤ (w_ei ws (w_ar ws (n_v vs 2) 1) (w_fi ws (n_v vs 2) 15) % 256)) ∧ ((w_ei ws (w_ar ws (n_v vs 2) 1) (w_fi ws (n_v vs 2) 15) % 256) ≤ 122)))))) := f9
  obtain ⟨f10, hf⟩ := fc_un (show (24 : Nat) < 100 from by decide) hf
  have f10 : n_v vs 0 = n_v vs 2 := f10
  have q2 : n_v vs 2 = n_v vs 0 := f10.symm
  rw [q2] at f1
  rw [q2] at f2
  rw [q2] at f3
  rw [q2] at f4
  rw [q2] at f5
  rw [q2] at f6
  rw [q2] at f7
  rw [q2] at f8
  rw [q2] at f9
  have cr_0_1 : ta (w_ar ws (n_v vs 0) 1) = some 151 := tv_rg (th_fd hD hth r0 (g := GG_150) rfl (k := 1) (t := (2, 0, 0, [151])) rfl rfl)
  have g3 : v_iv (n_v vs 4) = w_fi ws (n_v vs 0) 11 := congrArg v_iv f3
  have hK_0_1 : ∀ j : Int, 0 ≤ j → j < 2000 → (-128) ≤ w_ei ws (w_ar ws (n_v vs 0) 1) j ∧ w_ei ws (w_ar ws (n_v vs 0) 1) j ≤ 127 := fun j h0 h1 => th_el hD hth cr_0_1 (kd := 1) (n := 2000) (m := 2000) (lo := (-128)) (hi := 127) (rs := []) (L := []) rfl (by decide) (j := j.toNat) (by omega)
  have kz_0_10 : 0 ≤ w_fi ws (n_v vs 0) 10 ∧ w_fi ws (n_v vs 0) 10 ≤ 2000 := tv_rng (th_fd hD hth r0 (g := GG_150) rfl (k := 10) (t := (0, 0, 2000, [])) rfl rfl)
  have kz_0_11 : 0 ≤ w_fi ws (n_v vs 0) 11 ∧ w_fi ws (n_v vs 0) 11 ≤ 2000 := tv_rng (th_fd hD hth r0 (g := GG_150) rfl (k := 11) (t := (0, 0, 2000, [])) rfl rfl)
  have kz_0_15 : 0 ≤ w_fi ws (n_v vs 0) 15 ∧ w_fi ws (n_v vs 0) 15 ≤ 2000 := tv_rng (th_fd hD hth r0 (g := GG_150) rfl (k := 15) (t := (0, 0, 2000, [])) rfl rfl)
  have nf0 : fc_1 (20, [2], [50, 2, 0, 15, 11, 0, 7, 4, 3, 2, 0, 15, 0, 1, 2, 0, 11]) ws (vs) := by
    refine ⟨fun n hn => ?_, ?_⟩
    · have hn : n ∈ [2] := hn
      rw [hl]
      simp only [List.mem_cons, List.not_mem_nil, or_false] at hn
      show n < 11; omega
    · show (w_fi ws (n_v vs 2) 15 + 1) ≤ w_fi ws (n_v vs 2) 11
      rw [q2]
      first | omega | grind
  refine ⟨(fun _ h => (by cases h)), [], trivial, ?_, (fun _ h => (by cases h))⟩
  rw [List.append_nil]
  exact List.forall_mem_cons.mpr ⟨⟨show (20 : Nat) < 100 from by decide, nf0⟩, (fun _ h => (by cases h))⟩
def o_Mo_next_27 : or_T := (147, 11, [(0, (2, 0, 0, [150])), (1, (0, 0, 2000, [])), (2, (2, 0, 0, [150])), (4, (0, 0, 1999, [])), (5, (0, 91, 96, [])), (7, (0, 0, 47, [])), (9, (0, 0, 255, [])), (10, (0, 95, 95, []))], [(7, [9, 10], [1]), (20, [4, 2, 9], [50, 1, 1, 1010, 1001, 4, 11, 0, 6, 4, 2, 1, 0, 0, 1, 2, 1, 10, 1, 2, 1, 2, 9, 5, 3, 1, 1, 1, 0, 0, 256]), (20, [2, 4, 9], [50, 1, 0, 10, 4, 7, 0, 3, 2, 0, 10, 1, 1, 1, 2, 1, 2, 0, -1]), (9, [4, 2], [11]), (20, [4, 2, 7], [50, 1, 1, 1010, 1001, 4, 11, 0, 6, 4, 2, 1, 0, 0, 1, 2, 1, 10, 1, 2, 1, 2, 9, 5, 3, 1, 1, 1, 0, 0, 256]), (20, [2, 4, 7], [50, 1, 0, 10, 4, 7, 0, 3, 2, 0, 10, 1, 1, 1, 2, 1, 2, 0, -1]), (20, [4, 2, 5], [50, 1, 1, 1010, 1001, 4, 11, 0, 6, 4, 2, 1, 0, 0, 1, 2, 1, 10, 1, 2, 1, 2, 9, 5, 3, 1, 1, 1, 0, 0, 256]), (20, [2, 4, 5], [50, 1, 0, 10, 4, 7, 0, 3, 2, 0, 10, 1, 1, 1, 2, 1, 2, 0, -1]), (20, [1, 2], [30, 0, 1, 0, 0, -1, 1, 15]), (20, [2], [50, 3, 1, 15, 11, 10, 1, 2, 8, 0, 3, 2, 0, 15, 2, 0, 11, 3, 12, 0, 7, 4, 3, 2, 0, 15, 0, 1, 2, 0, 11, 2, 8, 1, 3, 2, 0, 11, 2, 0, 15, 2, 12, 0, 7, 4, 3, 2, 0, 15, 0, 1, 2, 0, 10, 3, 30, 2, 14, 0, 2, 0, 65, 9, 6, 3, 0, 1, 2, 0, 15, 0, 256, 0, 10, 9, 6, 3, 0, 1, 2, 0, 15, 0, 256, 0, 90, 2, 14, 0, 2, 0, 97, 9, 6, 3, 0, 1, 2, 0, 15, 0, 256, 0, 10, 9, 6, 3, 0, 1, 2, 0, 15, 0, 256, 0, 122]), (24, [0, 2], [])], [], [], [(20, [2], [50, 2, 0, 15, 11, 0, 7, 4, 3, 2, 0, 15, 0, 1, 2, 0, 11])], [], [(1, 4, -4294967296, 2000), (4, 1, -4294967296, 2000)])
theorem oo_Mo_next_27 {kA : Nat → ClassId} : or_ok kA GG o_Mo_next_27 := by
  intro A ta ws vs hD hth hl hk hds hf
  have hl : vs.length = 11 := hl
  have hk : ∀ q ∈ ([(0, (2, 0, 0, [150])), (1, (0, 0, 2000, [])), (2, (2, 0, 0, [150])), (4, (0, 0, 1999, [])), (5, (0, 91, 96, [])), (7, (0, 0, 47, [])), (9, (0, 0, 255, [])), (10, (0, 95, 95, []))] : List (Nat × tv_T)), tv_ok ta q.2 (n_v vs q.1) := hk
  obtain ⟨t0, hk⟩ := List.forall_mem_cons.mp hk
  have t0 : tv_ok ta (2, 0, 0, [150]) (n_v vs 0) := t0
  have r0 : ta (v_ad (n_v vs 0)) = some 150 := tv_rg t0
  obtain ⟨t1, hk⟩ := List.forall_mem_cons.mp hk
  have t1 : tv_ok ta (0, 0, 2000, []) (n_v vs 1) := t1
  have k1 : 0 ≤ v_iv (n_v vs 1) ∧ v_iv (n_v vs 1) ≤ 2000 := tv_rng t1
  obtain ⟨t2, hk⟩ := List.forall_mem_cons.mp hk
  have t2 : tv_ok ta (2, 0, 0, [150]) (n_v vs 2) := t2
  have r2 : ta (v_ad (n_v vs 2)) = some 150 := tv_rg t2
  obtain ⟨t4, hk⟩ := List.forall_mem_cons.mp hk
  have t4 : tv_ok ta (0, 0, 1999, []) (n_v vs 4) := t4
  have k4 : 0 ≤ v_iv (n_v vs 4) ∧ v_iv (n_v vs 4) ≤ 1999 := tv_rng t4
  obtain ⟨t5, hk⟩ := List.forall_mem_cons.mp hk
  have t5 : tv_ok ta (0, 91, 96, []) (n_v vs 5) := t5
  have k5 : 91 ≤ v_iv (n_v vs 5) ∧ v_iv (n_v vs 5) ≤ 96 := tv_rng t5
  obtain ⟨t7, hk⟩ := List.forall_mem_cons.mp hk
  have t7 : tv_ok ta (0, 0, 47, []) (n_v vs 7) := t7
  have k7 : 0 ≤ v_iv (n_v vs 7) ∧ v_iv (n_v vs 7) ≤ 47 := tv_rng t7
  obtain ⟨t9, hk⟩ := List.forall_mem_cons.mp hk
  have t9 : tv_ok ta (0, 0, 255, []) (n_v vs 9) := t9
  have k9 : 0 ≤ v_iv (n_v vs 9) ∧ v_iv (n_v vs 9) ≤ 255 := tv_rng t9
  obtain ⟨t10, hk⟩ := List.forall_mem_cons.mp hk
  have t10 : tv_ok ta (0, 95, 95, []) (n_v vs 10) := t10
  have k10 : 95 ≤ v_iv (n_v vs 10) ∧ v_iv (n_v vs 10) ≤ 95 := tv_rng t10
  have hds : ∀ q ∈ ([(1, 4, -4294967296, 2000), (4, 1, -4294967296, 2000)] : List of_T), n_iv vs q.2.1 + q.2.2.1 ≤ n_iv vs q.1 ∧ n_iv vs q.1 ≤ n_iv vs q.2.1 + q.2.2.2 := hds
  obtain ⟨d0, hds⟩ := List.forall_mem_cons.mp hds
  have d0 : v_iv (n_v vs 4) + (-4294967296) ≤ v_iv (n_v vs 1) ∧ v_iv (n_v vs 1) ≤ v_iv (n_v vs 4) + 2000 := d0
  obtain ⟨d1, hds⟩ := List.forall_mem_cons.mp hds
  have d1 : v_iv (n_v vs 1) + (-4294967296) ≤ v_iv (n_v vs 4) ∧ v_iv (n_v vs 4) ≤ v_iv (n_v vs 1) + 2000 := d1
  have hf : fc_ok [(7, [9, 10], [1]), (20, [4, 2, 9], [50, 1, 1, 1010, 1001, 4, 11, 0, 6, 4, 2, 1, 0, 0, 1, 2, 1, 10, 1, 2, 1, 2, 9, 5, 3, 1, 1, 1, 0, 0, 256]), (20, [2, 4, 9], [50, 1, 0, 10, 4, 7, 0, 3, 2, 0, 10, 1, 1, 1, 2, 1, 2, 0, -1]), (9, [4, 2], [11]), (20, [4, 2, 7], [50, 1, 1, 1010, 1001, 4, 11, 0, 6, 4, 2, 1, 0, 0, 1, 2, 1, 10, 1, 2, 1, 2, 9, 5, 3, 1, 1, 1, 0, 0, 256]), (20, [2, 4, 7], [50, 1, 0, 10, 4, 7, 0, 3, 2, 0, 10, 1, 1, 1, 2, 1, 2, 0, -1]), (20, [4, 2, 5], [50, 1, 1, 1010, 1001, 4, 11, 0, 6, 4, 2, 1, 0, 0, 1, 2, 1, 10, 1, 2, 1, 2, 9, 5, 3, 1, 1, 1, 0, 0, 256]), (20, [2, 4, 5], [50, 1, 0, 10, 4, 7, 0, 3, 2, 0, 10, 1, 1, 1, 2, 1, 2, 0, -1]), (20, [1, 2], [30, 0, 1, 0, 0, -1, 1, 15]), (20, [2], [50, 3, 1, 15, 11, 10, 1, 2, 8, 0, 3, 2, 0, 15, 2, 0, 11, 3, 12, 0, 7, 4, 3, 2, 0, 15, 0, 1, 2, 0, 11, 2, 8, 1, 3, 2, 0, 11, 2, 0, 15, 2, 12, 0, 7, 4, 3, 2, 0, 15, 0, 1, 2, 0, 10, 3, 30, 2, 14, 0, 2, 0, 65, 9, 6, 3, 0, 1, 2, 0, 15, 0, 256, 0, 10, 9, 6, 3, 0, 1, 2, 0, 15, 0, 256, 0, 90, 2, 14, 0, 2, 0, 97, 9, 6, 3, 0, 1, 2, 0, 15, 0, 256, 0, 10, 9, 6, 3, 0, 1, 2, 0, 15, 0, 256, 0, 122]), (24, [0, 2], [])] ta ws vs := hf
  obtain ⟨f0, hf⟩ := fc_un (show (7 : Nat) < 100 from by decide) hf
  have f0 : v_iv (n_v vs 9) ≠ v_iv (n_v vs 10) := f0
  obtain ⟨f1, hf⟩ := fc_un (show (20 : Nat) < 100 from by decide) hf
  have f1 : ((v_iv (n_v vs 4) + 1) ≤ w_fi ws (n_v vs 2) 10) → (v_iv (n_v vs 9) = (w_ei ws (w_ar ws (n_v vs 2) 1) (v_iv (n_v vs 4)) % 256)) := f1
  obtain ⟨f2, hf⟩ := fc_un (show (20 : Nat) < 100 from by decide) hf
  have f2 : (w_fi ws (n_v vs 2) 10 ≤ v_iv (n_v vs 4)) → (v_iv (n_v vs 9) = (-1)) := f2
  obtain ⟨f3, hf⟩ := fc_un (show (9 : Nat) < 100 from by decide) hf
  have f3 : n_v vs 4 = w_fd ws (v_ad (n_v vs 2)) 11 := f3
  obtain ⟨f4, hf⟩ := fc_un (show (20 : Nat) < 100 from by decide) hf
  have f4 : ((v_iv (n_v vs 4) + 1) ≤ w_fi ws (n_v vs 2) 10) → (v_iv (n_v vs 7) = (w_ei ws (w_ar ws (n_v vs 2) 1) (v_iv (n_v vs 4)) % 256)) := f4
  obtain ⟨f5, hf⟩ := fc_un (show (20 : Nat) < 100 from by decide) hf
  have f5 : (w_fi ws (n_v vs 2) 10 ≤ v_iv (n_v vs 4)) → (v_iv (n_v vs 7) = (-1)) := f5
  obtain ⟨f6, hf⟩ := fc_un (show (20 : Nat) < 100 from by decide) hf
  have f6 : ((v_iv (n_v vs 4) + 1) ≤ w_fi ws (n_v vs 2) 10) → (v_iv (n_v vs 5) = (w_ei ws (w_ar ws (n_v vs 2) 1) (v_iv (n_v vs 4)) % 256)) := f6
  obtain ⟨f7, hf⟩ := fc_un (show (20 : Nat) < 100 from by decide) hf
  have f7 : (w_fi ws (n_v vs 2) 10 ≤ v_iv (n_v vs 4)) → (v_iv (n_v vs 5) = (-1)) := f7
  obtain ⟨f8, hf⟩ := fc_un (show (20 : Nat) < 100 from by decide) hf
  have f8 : 1 * v_iv (n_v vs 1) + ((-1) * w_fi ws (n_v vs 2) 15 + 0) ≤ 0 := f8
  obtain ⟨f9, hf⟩ := fc_un (show (20 : Nat) < 100 from by decide) hf
  have f9 : (w_fi ws (n_v vs 2) 15 ≤ w_fi ws (n_v vs 2) 11) ∧ (((w_fi ws (n_v vs 2) 15 + 1) ≤ w_fi ws (n_v vs 2) 11) ∨ ((w_fi ws (n_v vs 2) 11 = w_fi ws (n_v vs 2) 15) ∧ (((w_fi ws (n_v vs 2) 15 + 1) ≤ w_fi ws (n_v vs 2) 10) ∧ (((65 ≤ (w_ei ws (w_ar ws (n_v vs 2) 1) (w_fi ws (n_v vs 2) 15) % 256)) ∧ ((w_ei ws (w_ar ws (n_v vs 2) 1) (w_fi ws (n_v vs 2) 15) % 256) ≤ 90)) ∨ ((97 ≤ (w_ei ws (w_ar ws (n_v vs 2) 1) (w_fi ws (n_v vs 2) 15) % 256)) ∧ ((w_ei ws (w_ar ws (n_v vs 2) 1) (w_fi ws (n_v vs 2) 15) % 256) ≤ 122)))))) := f9
  obtain ⟨f10, hf⟩ := fc_un (show (24 : Nat) < 100 from by decide) hf
  have f10 : n_v vs 0 = n_v vs 2 := f10
  have q2 : n_v vs 2 = n_v vs 0 := f10.symm
  rw [q2] at f1
  rw [q2] at f2
  rw [q2] at f3
  rw [q2] at f4
  rw [q2] at f5
  rw [q2] at f6
  rw [q2] at f7
  rw [q2] at f8
  rw [q2] at f9
  have cr_0_1 : ta (w_ar ws (n_v vs 0) 1) = some 151 := tv_rg (th_fd hD hth r0 (g := GG_150) rfl (k := 1) (t := (2, 0, 0, [151])) rfl rfl)
  have g3 : v_iv (n_v vs 4) = w_fi ws (n_v vs 0) 11 := congrArg v_iv f3
  have hK_0_1 : ∀ j : Int, 0 ≤ j → j < 2000 → (-128) ≤ w_ei ws (w_ar ws (n_v vs 0) 1) j ∧ w_ei ws (w_ar ws (n_v vs 0) 1) j ≤ 127 := fun j h0 h1 => th_el hD hth cr_0_1 (kd := 1) (n := 2000) (m := 2000) (lo := (-128)) (hi := 127) (rs := []) (L := []) rfl (by decide) (j := j.toNat) (by omega)
  have kz_0_10 : 0 ≤ w_fi ws (n_v vs 0) 10 ∧ w_fi ws (n_v vs 0) 10 ≤ 2000 := tv_rng (th_fd hD hth r0 (g := GG_150) rfl (k := 10) (t := (0, 0, 2000, [])) rfl rfl)
  have kz_0_11 : 0 ≤ w_fi ws (n_v vs 0) 11 ∧ w_fi ws (n_v vs 0) 11 ≤ 2000 := tv_rng (th_fd hD hth r0 (g := GG_150) rfl (k := 11) (t := (0, 0, 2000, [])) rfl rfl)
  have kz_0_15 : 0 ≤ w_fi ws (n_v vs 0) 15 ∧ w_fi ws (n_v vs 0) 15 ≤ 2000 := tv_rng (th_fd hD hth r0 (g := GG_150) rfl (k := 15) (t := (0, 0, 2000, [])) rfl rfl)
  have nf0 : fc_1 (20, [2], [50, 2, 0, 15, 11, 0, 7, 4, 3, 2, 0, 15, 0, 1, 2, 0, 11]) ws (vs) := by
    refine ⟨fun n hn => ?_, ?_⟩
    · have hn : n ∈ [2] := hn
      rw [hl]
      simp only [List.mem_cons, List.not_mem_nil, or_false] at hn
      show n < 11; omega
    · show (w_fi ws (n_v vs 2) 15 + 1) ≤ w_fi ws (n_v vs 2) 11
      rw [q2]
      first | omega | grind
  refine ⟨(fun _ h => (by cases h)), [], trivial, ?_, (fun _ h => (by cases h))⟩
  rw [List.append_nil]
  exact List.forall_mem_cons.mpr ⟨⟨show (20 : Nat) < 100 from by decide, nf0⟩, (fun _ h => (by cases h))⟩
def o_Mo_next_28 : or_T := (147, 11, [(0, (2, 0, 0, [150])), (1, (0, 0, 2000, [])), (2, (2, 0, 0, [150])), (4, (0, 0, 1999, [])), (5, (0, 91, 96, [])), (7, (0, 58, 255, [])), (9, (0, -1, -1, [])), (10, (0, 95, 95, []))], [(7, [9, 10], [1]), (20, [4, 2, 9], [50, 1, 1, 1010, 1001, 4, 11, 0, 6, 4, 2, 1, 0, 0, 1, 2, 1, 10, 1, 2, 1, 2, 9, 5, 3, 1, 1, 1, 0, 0, 256]), (20, [2, 4, 9], [50, 1, 0, 10, 4, 7, 0, 3, 2, 0, 10, 1, 1, 1, 2, 1, 2, 0, -1]), (9, [4, 2], [11]), (20, [4, 2, 7], [50, 1, 1, 1010, 1001, 4, 11, 0, 6, 4, 2, 1, 0, 0, 1, 2, 1, 10, 1, 2, 1, 2, 9, 5, 3, 1, 1, 1, 0, 0, 256]), (20, [2, 4, 7], [50, 1, 0, 10, 4, 7, 0, 3, 2, 0, 10, 1, 1, 1, 2, 1, 2, 0, -1]), (20, [4, 2, 5], [50, 1, 1, 1010, 1001, 4, 11, 0, 6, 4, 2, 1, 0, 0, 1, 2, 1, 10, 1, 2, 1, 2, 9, 5, 3, 1, 1, 1, 0, 0, 256]), (20, [2, 4, 5], [50, 1, 0, 10, 4, 7, 0, 3, 2, 0, 10, 1, 1, 1, 2, 1, 2, 0, -1]), (20, [1, 2], [30, 0, 1, 0, 0, -1, 1, 15]), (20, [2], [50, 3, 1, 15, 11, 10, 1, 2, 8, 0, 3, 2, 0, 15, 2, 0, 11, 3, 12, 0, 7, 4, 3, 2, 0, 15, 0, 1, 2, 0, 11, 2, 8, 1, 3, 2, 0, 11, 2, 0, 15, 2, 12, 0, 7, 4, 3, 2, 0, 15, 0, 1, 2, 0, 10, 3, 30, 2, 14, 0, 2, 0, 65, 9, 6, 3, 0, 1, 2, 0, 15, 0, 256, 0, 10, 9, 6, 3, 0, 1, 2, 0, 15, 0, 256, 0, 90, 2, 14, 0, 2, 0, 97, 9, 6, 3, 0, 1, 2, 0, 15, 0, 256, 0, 10, 9, 6, 3, 0, 1, 2, 0, 15, 0, 256, 0, 122]), (24, [0, 2], [])], [], [], [(20, [2], [50, 2, 0, 15, 11, 0, 7, 4, 3, 2, 0, 15, 0, 1, 2, 0, 11])], [], [(1, 4, -4294967296, 2000), (4, 1, -4294967296, 2000)])
theorem oo_Mo_next_28 {kA : Nat → ClassId} : or_ok kA GG o_Mo_next_28 := by
  intro A ta ws vs hD hth hl hk hds hf
  have hl : vs.length = 11 := hl
  have hk : ∀ q ∈ ([(0, (2, 0, 0, [150])), (1, (0, 0, 2000, [])), (2, (2, 0, 0, [150])), (4, (0, 0, 1999, [])), (5, (0, 91, 96, [])), (7, (0, 58, 255, [])), (9, (0, -1, -1, [])), (10, (0, 95, 95, []))] : List (Nat × tv_T)), tv_ok ta q.2 (n_v vs q.1) := hk
  obtain ⟨t0, hk⟩ := List.forall_mem_cons.mp hk
  have t0 : tv_ok ta (2, 0, 0, [150]) (n_v vs 0) := t0
  have r0 : ta (v_ad (n_v vs 0)) = some 150 := tv_rg t0
  obtain ⟨t1, hk⟩ := List.forall_mem_cons.mp hk
  have t1 : tv_ok ta (0, 0, 2000, []) (n_v vs 1) := t1
  have k1 : 0 ≤ v_iv (n_v vs 1) ∧ v_iv (n_v vs 1) ≤ 2000 := tv_rng t1
  obtain ⟨t2, hk⟩ := List.forall_mem_cons.mp hk
  have t2 : tv_ok ta (2, 0, 0, [150]) (n_v vs 2) := t2
  have r2 : ta (v_ad (n_v vs 2)) = some 150 := tv_rg t2
  obtain ⟨t4, hk⟩ := List.forall_mem_cons.mp hk
  have t4 : tv_ok ta (0, 0, 1999, []) (n_v vs 4) := t4
  have k4 : 0 ≤ v_iv (n_v vs 4) ∧ v_iv (n_v vs 4) ≤ 1999 := tv_rng t4
  obtain ⟨t5, hk⟩ := List.forall_mem_cons.mp hk
  have t5 : tv_ok ta (0, 91, 96, []) (n_v vs 5) := t5
  have k5 : 91 ≤ v_iv (n_v vs 5) ∧ v_iv (n_v vs 5) ≤ 96 := tv_rng t5
  obtain ⟨t7, hk⟩ := List.forall_mem_cons.mp hk
  have t7 : tv_ok ta (0, 58, 255, []) (n_v vs 7) := t7
  have k7 : 58 ≤ v_iv (n_v vs 7) ∧ v_iv (n_v vs 7) ≤ 255 := tv_rng t7
  obtain ⟨t9, hk⟩ := List.forall_mem_cons.mp hk
  have t9 : tv_ok ta (0, -1, -1, []) (n_v vs 9) := t9
  have k9 : (-1) ≤ v_iv (n_v vs 9) ∧ v_iv (n_v vs 9) ≤ (-1) := tv_rng t9
  obtain ⟨t10, hk⟩ := List.forall_mem_cons.mp hk
  have t10 : tv_ok ta (0, 95, 95, []) (n_v vs 10) := t10
  have k10 : 95 ≤ v_iv (n_v vs 10) ∧ v_iv (n_v vs 10) ≤ 95 := tv_rng t10
  have hds : ∀ q ∈ ([(1, 4, -4294967296, 2000), (4, 1, -4294967296, 2000)] : List of_T), n_iv vs q.2.1 + q.2.2.1 ≤ n_iv vs q.1 ∧ n_iv vs q.1 ≤ n_iv vs q.2.1 + q.2.2.2 := hds
  obtain ⟨d0, hds⟩ := List.forall_mem_cons.mp hds
  have d0 : v_iv (n_v vs 4) + (-4294967296) ≤ v_iv (n_v vs 1) ∧ v_iv (n_v vs 1) ≤ v_iv (n_v vs 4) + 2000 := d0
  obtain ⟨d1, hds⟩ := List.forall_mem_cons.mp hds
  have d1 : v_iv (n_v vs 1) + (-4294967296) ≤ v_iv (n_v vs 4) ∧ v_iv (n_v vs 4) ≤ v_iv (n_v vs 1) + 2000 := d1
  have hf : fc_ok [(7, [9, 10], [1]), (20, [4, 2, 9], [50, 1, 1, 1010, 1001, 4, 11, 0, 6, 4, 2, 1, 0, 0, 1, 2, 1, 10, 1, 2, 1, 2, 9, 5, 3, 1, 1, 1, 0, 0, 256]), (20, [2, 4, 9], [50, 1, 0, 10, 4, 7, 0, 3, 2, 0, 10, 1, 1, 1, 2, 1, 2, 0, -1]), (9, [4, 2], [11]), (20, [4, 2, 7], [50, 1, 1, 1010, 1001, 4, 11, 0, 6, 4, 2, 1, 0, 0, 1, 2, 1, 10, 1, 2, 1, 2, 9, 5, 3, 1, 1, 1, 0, 0, 256]), (20, [2, 4, 7], [50, 1, 0, 10, 4, 7, 0, 3, 2, 0, 10, 1, 1, 1, 2, 1, 2, 0, -1]), (20, [4, 2, 5], [50, 1, 1, 1010, 1001, 4, 11, 0, 6, 4, 2, 1, 0, 0, 1, 2, 1, 10, 1, 2, 1, 2, 9, 5, 3, 1, 1, 1, 0, 0, 256]), (20, [2, 4, 5], [50, 1, 0, 10, 4, 7, 0, 3, 2, 0, 10, 1, 1, 1, 2, 1, 2, 0, -1]), (20, [1, 2], [30, 0, 1, 0, 0, -1, 1, 15]), (20, [2], [50, 3, 1, 15, 11, 10, 1, 2, 8, 0, 3, 2, 0, 15, 2, 0, 11, 3, 12, 0, 7, 4, 3, 2, 0, 15, 0, 1, 2, 0, 11, 2, 8, 1, 3, 2, 0, 11, 2, 0, 15, 2, 12, 0, 7, 4, 3, 2, 0, 15, 0, 1, 2, 0, 10, 3, 30, 2, 14, 0, 2, 0, 65, 9, 6, 3, 0, 1, 2, 0, 15, 0, 256, 0, 10, 9, 6, 3, 0, 1, 2, 0, 15, 0, 256, 0, 90, 2, 14, 0, 2, 0, 97, 9, 6, 3, 0, 1, 2, 0, 15, 0, 256, 0, 10, 9, 6, 3, 0, 1, 2, 0, 15, 0, 256, 0, 122]), (24, [0, 2], [])] ta ws vs := hf
  obtain ⟨f0, hf⟩ := fc_un (show (7 : Nat) < 100 from by decide) hf
  have f0 : v_iv (n_v vs 9) ≠ v_iv (n_v vs 10) := f0
  obtain ⟨f1, hf⟩ := fc_un (show (20 : Nat) < 100 from by decide) hf
  have f1 : ((v_iv (n_v vs 4) + 1) ≤ w_fi ws (n_v vs 2) 10) → (v_iv (n_v vs 9) = (w_ei ws (w_ar ws (n_v vs 2) 1) (v_iv (n_v vs 4)) % 256)) := f1
  obtain ⟨f2, hf⟩ := fc_un (show (20 : Nat) < 100 from by decide) hf
  have f2 : (w_fi ws (n_v vs 2) 10 ≤ v_iv (n_v vs 4)) → (v_iv (n_v vs 9) = (-1)) := f2
  obtain ⟨f3, hf⟩ := fc_un (show (9 : Nat) < 100 from by decide) hf
  have f3 : n_v vs 4 = w_fd ws (v_ad (n_v vs 2)) 11 := f3
  obtain ⟨f4, hf⟩ := fc_un (show (20 : Nat) < 100 from by decide) hf
  have f4 : ((v_iv (n_v vs 4) + 1) ≤ w_fi ws (n_v vs 2) 10) → (v_iv (n_v vs 7) = (w_ei ws (w_ar ws (n_v vs 2) 1) (v_iv (n_v vs 4)) % 256)) := f4
  obtain ⟨f5, hf⟩ := fc_un (show (20 : Nat) < 100 from by decide) hf
  have f5 : (w_fi ws (n_v vs 2) 10 ≤ v_iv (n_v vs 4)) → (v_iv (n_v vs 7) = (-1)) := f5
  obtain ⟨f6, hf⟩ := fc_un (show (20 : Nat) < 100 from by decide) hf
  have f6 : ((v_iv (n_v vs 4) + 1) ≤ w_fi ws (n_v vs 2) 10) → (v_iv (n_v vs 5) = (w_ei ws (w_ar ws (n_v vs 2) 1) (v_iv (n_v vs 4)) % 256)) := f6
  obtain ⟨f7, hf⟩ := fc_un (show (20 : Nat) < 100 from by decide) hf
  have f7 : (w_fi ws (n_v vs 2) 10 ≤ v_iv (n_v vs 4)) → (v_iv (n_v vs 5) = (-1)) := f7
  obtain ⟨f8, hf⟩ := fc_un (show (20 : Nat) < 100 from by decide) hf
  have f8 : 1 * v_iv (n_v vs 1) + ((-1) * w_fi ws (n_v vs 2) 15 + 0) ≤ 0 := f8
  obtain ⟨f9, hf⟩ := fc_un (show (20 : Nat) < 100 from by decide) hf
  have f9 : (w_fi ws (n_v vs 2) 15 ≤ w_fi ws (n_v vs 2) 11) ∧ (((w_fi ws (n_v vs 2) 15 + 1) ≤ w_fi ws (n_v vs 2) 11) ∨ ((w_fi ws (n_v vs 2) 11 = w_fi ws (n_v vs 2) 15) ∧ (((w_fi ws (n_v vs 2) 15 + 1) ≤ w_fi ws (n_v vs 2) 10) ∧ (((65 ≤ (w_ei ws (w_ar ws (n_v vs 2) 1) (w_fi ws (n_v vs 2) 15) % 256)) ∧ ((w_ei ws (w_ar ws (n_v vs 2) 1) (w_fi ws (n_v vs 2) 15) % 256) ≤ 90)) ∨ ((97 ≤ (w_ei ws (w_ar ws (n_v vs 2) 1) (w_fi ws (n_v vs 2) 15) % 256)) ∧ ((w_ei ws (w_ar ws (n_v vs 2) 1) (w_fi ws (n_v vs 2) 15) % 256) ≤ 122)))))) := f9
  obtain ⟨f10, hf⟩ := fc_un (show (24 : Nat) < 100 from by decide) hf
  have f10 : n_v vs 0 = n_v vs 2 := f10
  have q2 : n_v vs 2 = n_v vs 0 := f10.symm
  rw [q2] at f1
  rw [q2] at f2
  rw [q2] at f3
  rw [q2] at f4
  rw [q2] at f5
  rw [q2] at f6
  rw [q2] at f7
  rw [q2] at f8
  rw [q2] at f9
  have cr_0_1 : ta (w_ar ws (n_v vs 0) 1) = some 151 := tv_rg (th_fd hD hth r0 (g := GG_150) rfl (k := 1) (t := (2, 0, 0, [151])) rfl rfl)
  have g3 : v_iv (n_v vs 4) = w_fi ws (n_v vs 0) 11 := congrArg v_iv f3
  have hK_0_1 : ∀ j : Int, 0 ≤ j → j < 2000 → (-128) ≤ w_ei ws (w_ar ws (n_v vs 0) 1) j ∧ w_ei ws (w_ar ws (n_v vs 0) 1) j ≤ 127 := fun j h0 h1 => th_el hD hth cr_0_1 (kd := 1) (n := 2000) (m := 2000) (lo := (-128)) (hi := 127) (rs := []) (L := []) rfl (by decide) (j := j.toNat) (by omega)
  have kz_0_10 : 0 ≤ w_fi ws (n_v vs 0) 10 ∧ w_fi ws (n_v vs 0) 10 ≤ 2000 := tv_rng (th_fd hD hth r0 (g := GG_150) rfl (k := 10) (t := (0, 0, 2000, [])) rfl rfl)
  have kz_0_11 : 0 ≤ w_fi ws (n_v vs 0) 11 ∧ w_fi ws (n_v vs 0) 11 ≤ 2000 := tv_rng (th_fd hD hth r0 (g := GG_150) rfl (k := 11) (t := (0, 0, 2000, [])) rfl rfl)
  have kz_0_15 : 0 ≤ w_fi ws (n_v vs 0) 15 ∧ w_fi ws (n_v vs 0) 15 ≤ 2000 := tv_rng (th_fd hD hth r0 (g := GG_150) rfl (k := 15) (t := (0, 0, 2000, [])) rfl rfl)
  have nf0 : fc_1 (20, [2], [50, 2, 0, 15, 11, 0, 7, 4, 3, 2, 0, 15, 0, 1, 2, 0, 11]) ws (vs) := by
    refine ⟨fun n hn => ?_, ?_⟩
    · have hn : n ∈ [2] := hn
      rw [hl]
      simp only [List.mem_cons, List.not_mem_nil, or_false] at hn
      show n < 11; omega
    · show (w_fi ws (n_v vs 2) 15 + 1) ≤ w_fi ws (n_v vs 2) 11
      rw [q2]
      first | omega | grind
  refine ⟨(fun _ h => (by cases h)), [], trivial, ?_, (fun _ h => (by cases h))⟩
  rw [List.append_nil]
  exact List.forall_mem_cons.mpr ⟨⟨show (20 : Nat) < 100 from by decide, nf0⟩, (fun _ h => (by cases h))⟩
def o_Mo_next_29 : or_T := (147, 11, [(0, (2, 0, 0, [150])), (1, (0, 0, 2000, [])), (2, (2, 0, 0, [150])), (4, (0, 0, 1999, [])), (5, (0, 91, 96, [])), (7, (0, 58, 255, [])), (9, (0, 0, 255, [])), (10, (0, 95, 95, []))], [(7, [9, 10], [1]), (20, [4, 2, 9], [50, 1, 1, 1010, 1001, 4, 11, 0, 6, 4, 2, 1, 0, 0, 1, 2, 1, 10, 1, 2, 1, 2, 9, 5, 3, 1, 1, 1, 0, 0, 256]), (20, [2, 4, 9], [50, 1, 0, 10, 4, 7, 0, 3, 2, 0, 10, 1, 1, 1, 2, 1, 2, 0, -1]), (9, [4, 2], [11]), (20, [4, 2, 7], [50, 1, 1, 1010, 1001, 4, 11, 0, 6, 4, 2, 1, 0, 0, 1, 2, 1, 10, 1, 2, 1, 2, 9, 5, 3, 1, 1, 1, 0, 0, 256]), (20, [2, 4, 7], [50, 1, 0, 10, 4, 7, 0, 3, 2, 0, 10, 1, 1, 1, 2, 1, 2, 0, -1]), (20, [4, 2, 5], [50, 1, 1, 1010, 1001, 4, 11, 0, 6, 4, 2, 1, 0, 0, 1, 2, 1, 10, 1, 2, 1, 2, 9, 5, 3, 1, 1, 1, 0, 0, 256]), (20, [2, 4, 5], [50, 1, 0, 10, 4, 7, 0, 3, 2, 0, 10, 1, 1, 1, 2, 1, 2, 0, -1]), (20, [1, 2], [30, 0, 1, 0, 0, -1, 1, 15]), (20, [2], [50, 3, 1, 15, 11, 10, 1, 2, 8, 0, 3, 2, 0, 15, 2, 0, 11, 3, 12, 0, 7, 4, 3, 2, 0, 15, 0, 1, 2, 0, 11, 2, 8, 1, 3, 2, 0, 11, 2, 0, 15, 2, 12, 0, 7, 4, 3, 2, 0, 15, 0, 1, 2, 0, 10, 3, 30, 2, 14, 0, 2, 0, 65, 9, 6, 3, 0, 1, 2, 0, 15, 0, 256, 0, 10, 9, 6, 3, 0, 1, 2, 0, 15, 0, 256, 0, 90, 2, 14, 0, 2, 0, 97, 9, 6, 3, 0, 1, 2, 0, 15, 0, 256, 0, 10, 9, 6, 3, 0, 1, 2, 0, 15, 0, 256, 0, 122]), (24, [0, 2], [])], [], [], [(20, [2], [50, 2, 0, 15, 11, 0, 7, 4, 3, 2, 0, 15, 0, 1, 2, 0, 11])], [], [(1, 4, -4294967296, 2000), (4, 1, -4294967296, 2000)])
theorem oo_Mo_next_29 {kA : Nat → ClassId} : or_ok kA GG o_Mo_next_29 := by
  intro A ta ws vs hD hth hl hk hds hf
  have hl : vs.length = 11 := hl
  have hk : ∀ q ∈ ([(0, (2, 0, 0, [150])), (1, (0, 0, 2000, [])), (2, (2, 0, 0, [150])), (4, (0, 0, 1999, [])), (5, (0, 91, 96, [])), (7, (0, 58, 255, [])), (9, (0, 0, 255, [])), (10, (0, 95, 95, []))] : List (Nat × tv_T)), tv_ok ta q.2 (n_v vs q.1) := hk
  obtain ⟨t0, hk⟩ := List.forall_mem_cons.mp hk
  have t0 : tv_ok ta (2, 0, 0, [150]) (n_v vs 0) := t0
  have r0 : ta (v_ad (n_v vs 0)) = some 150 := tv_rg t0
  obtain ⟨t1, hk⟩ := List.forall_mem_cons.mp hk
  have t1 : tv_ok ta (0, 0, 2000, []) (n_v vs 1) := t1
  have k1 : 0 ≤ v_iv (n_v vs 1) ∧ v_iv (n_v vs 1) ≤ 2000 := tv_rng t1
  obtain ⟨t2, hk⟩ := List.forall_mem_cons.mp hk
  have t2 : tv_ok ta (2, 0, 0, [150]) (n_v vs 2) := t2
  have r2 : ta (v_ad (n_v vs 2)) = some 150 := tv_rg t2
  obtain ⟨t4, hk⟩ := List.forall_mem_cons.mp hk
  have t4 : tv_ok ta (0, 0, 1999, []) (n_v vs 4) := t4
  have k4 : 0 ≤ v_iv (n_v vs 4) ∧ v_iv (n_v vs 4) ≤ 1999 := tv_rng t4
  obtain ⟨t5, hk⟩ := List.forall_mem_cons.mp hk
  have t5 : tv_ok ta (0, 91, 96, []) (n_v vs 5) := t5
  have k5 : 91 ≤ v_iv (n_v vs 5) ∧ v_iv (n_v vs 5) ≤ 96 := tv_rng t5
  obtain ⟨t7, hk⟩ := List.forall_mem_cons.mp hk
  have t7 : tv_ok ta (0, 58, 255, []) (n_v vs 7) := t7
  have k7 : 58 ≤ v_iv (n_v vs 7) ∧ v_iv (n_v vs 7) ≤ 255 := tv_rng t7
  obtain ⟨t9, hk⟩ := List.forall_mem_cons.mp hk
  have t9 : tv_ok ta (0, 0, 255, []) (n_v vs 9) := t9
  have k9 : 0 ≤ v_iv (n_v vs 9) ∧ v_iv (n_v vs 9) ≤ 255 := tv_rng t9
  obtain ⟨t10, hk⟩ := List.forall_mem_cons.mp hk
  have t10 : tv_ok ta (0, 95, 95, []) (n_v vs 10) := t10
  have k10 : 95 ≤ v_iv (n_v vs 10) ∧ v_iv (n_v vs 10) ≤ 95 := tv_rng t10
  have hds : ∀ q ∈ ([(1, 4, -4294967296, 2000), (4, 1, -4294967296, 2000)] : List of_T), n_iv vs q.2.1 + q.2.2.1 ≤ n_iv vs q.1 ∧ n_iv vs q.1 ≤ n_iv vs q.2.1 + q.2.2.2 := hds
  obtain ⟨d0, hds⟩ := List.forall_mem_cons.mp hds
  have d0 : v_iv (n_v vs 4) + (-4294967296) ≤ v_iv (n_v vs 1) ∧ v_iv (n_v vs 1) ≤ v_iv (n_v vs 4) + 2000 := d0
  obtain ⟨d1, hds⟩ := List.forall_mem_cons.mp hds
  have d1 : v_iv (n_v vs 1) + (-4294967296) ≤ v_iv (n_v vs 4) ∧ v_iv (n_v vs 4) ≤ v_iv (n_v vs 1) + 2000 := d1
  have hf : fc_ok [(7, [9, 10], [1]), (20, [4, 2, 9], [50, 1, 1, 1010, 1001, 4, 11, 0, 6, 4, 2, 1, 0, 0, 1, 2, 1, 10, 1, 2, 1, 2, 9, 5, 3, 1, 1, 1, 0, 0, 256]), (20, [2, 4, 9], [50, 1, 0, 10, 4, 7, 0, 3, 2, 0, 10, 1, 1, 1, 2, 1, 2, 0, -1]), (9, [4, 2], [11]), (20, [4, 2, 7], [50, 1, 1, 1010, 1001, 4, 11, 0, 6, 4, 2, 1, 0, 0, 1, 2, 1, 10, 1, 2, 1, 2, 9, 5, 3, 1, 1, 1, 0, 0, 256]), (20, [2, 4, 7], [50, 1, 0, 10, 4, 7, 0, 3, 2, 0, 10, 1, 1, 1, 2, 1, 2, 0, -1]), (20, [4, 2, 5], [50, 1, 1, 1010, 1001, 4, 11, 0, 6, 4, 2, 1, 0, 0, 1, 2, 1, 10, 1, 2, 1, 2, 9, 5, 3, 1, 1, 1, 0, 0, 256]), (20, [2, 4, 5], [50, 1, 0, 10, 4, 7, 0, 3, 2, 0, 10, 1, 1, 1, 2, 1, 2, 0, -1]), (20, [1, 2], [30, 0, 1, 0, 0, -1, 1, 15]), (20, [2], [50, 3, 1, 15, 11, 10, 1, 2, 8, 0, 3, 2, 0, 15, 2, 0, 11, 3, 12, 0, 7, 4, 3, 2, 0, 15, 0, 1, 2, 0, 11, 2, 8, 1, 3, 2, 0, 11, 2, 0, 15, 2, 12, 0, 7, 4, 3, 2, 0, 15, 0, 1, 2, 0, 10, 3, 30, 2, 14, 0, 2, 0, 65, 9, 6, 3, 0, 1, 2, 0, 15, 0, 256, 0, 10, 9, 6, 3, 0, 1, 2, 0, 15, 0, 256, 0, 90, 2, 14, 0, 2, 0, 97, 9, 6, 3, 0, 1, 2, 0, 15, 0, 256, 0, 10, 9, 6, 3, 0, 1, 2, 0, 15, 0, 256, 0, 122]), (24, [0, 2], [])] ta ws vs := hf
  obtain ⟨f0, hf⟩ := fc_un (show (7 : Nat) < 100 from by decide) hf
  have f0 : v_iv (n_v vs 9) ≠ v_iv (n_v vs 10) := f0
  obtain ⟨f1, hf⟩ := fc_un (show (20 : Nat) < 100 from by decide) hf
  have f1 : ((v_iv (n_v vs 4) + 1) ≤ w_fi ws (n_v vs 2) 10) → (v_iv (n_v vs 9) = (w_ei ws (w_ar ws (n_v vs 2) 1) (v_iv (n_v vs 4)) % 256)) := f1
  obtain ⟨f2, hf⟩ := fc_un (show (20 : Nat) < 100 from by decide) hf
  have f2 : (w_fi ws (n_v vs 2) 10 ≤ v_iv (n_v vs 4)) → (v_iv (n_v vs 9) = (-1)) := f2
  obtain ⟨f3, hf⟩ := fc_un (show (9 : Nat) < 100 from by decide) hf
  have f3 : n_v vs 4 = w_fd ws (v_ad (n_v vs 2)) 11 := f3
  obtain ⟨f4, hf⟩ := fc_un (show (20 : Nat) < 100 from by decide) hf
  have f4 : ((v_iv (n_v vs 4) + 1) ≤ w_fi ws (n_v vs 2) 10) → (v_iv (n_v vs 7) = (w_ei ws (w_ar ws (n_v vs 2) 1) (v_iv (n_v vs 4)) % 256)) := f4
  obtain ⟨f5, hf⟩ := fc_un (show (20 : Nat) < 100 from by decide) hf
  have f5 : (w_fi ws (n_v vs 2) 10 ≤ v_iv (n_v vs 4)) → (v_iv (n_v vs 7) = (-1)) := f5
  obtain ⟨f6, hf⟩ := fc_un (show (20 : Nat) < 100 from by decide) hf
  have f6 : ((v_iv (n_v vs 4) + 1) ≤ w_fi ws (n_v vs 2) 10) → (v_iv (n_v vs 5) = (w_ei ws (w_ar ws (n_v vs 2) 1) (v_iv (n_v vs 4)) % 256)) := f6
  obtain ⟨f7, hf⟩ := fc_un (show (20 : Nat) < 100 from by decide) hf
  have f7 : (w_fi ws (n_v vs 2) 10 ≤ v_iv (n_v vs 4)) → (v_iv (n_v vs 5) = (-1)) := f7
  obtain ⟨f8, hf⟩ := fc_un (show (20 : Nat) < 100 from by decide) hf
  have f8 : 1 * v_iv (n_v vs 1) + ((-1) * w_fi ws (n_v vs 2) 15 + 0) ≤ 0 := f8
  obtain ⟨f9, hf⟩ := fc_un (show (20 : Nat) < 100 from by decide) hf
  have f9 : (w_fi ws (n_v vs 2) 15 ≤ w_fi ws (n_v vs 2) 11) ∧ (((w_fi ws (n_v vs 2) 15 + 1) ≤ w_fi ws (n_v vs 2) 11) ∨ ((w_fi ws (n_v vs 2) 11 = w_fi ws (n_v vs 2) 15) ∧ (((w_fi ws (n_v vs 2) 15 + 1) ≤ w_fi ws (n_v vs 2) 10) ∧ (((65 ≤ (w_ei ws (w_ar ws (n_v vs 2) 1) (w_fi ws (n_v vs 2) 15) % 256)) ∧ ((w_ei ws (w_ar ws (n_v vs 2) 1) (w_fi ws (n_v vs 2) 15) % 256) ≤ 90)) ∨ ((97 ≤ (w_ei ws (w_ar ws (n_v vs 2) 1) (w_fi ws (n_v vs 2) 15) % 256)) ∧ ((w_ei ws (w_ar ws (n_v vs 2) 1) (w_fi ws (n_v vs 2) 15) % 256) ≤ 122)))))) := f9
  obtain ⟨f10, hf⟩ := fc_un (show (24 : Nat) < 100 from by decide) hf
  have f10 : n_v vs 0 = n_v vs 2 := f10
  have q2 : n_v vs 2 = n_v vs 0 := f10.symm
  rw [q2] at f1
  rw [q2] at f2
  rw [q2] at f3
  rw [q2] at f4
  rw [q2] at f5
  rw [q2] at f6
  rw [q2] at f7
  rw [q2] at f8
  rw [q2] at f9
  have cr_0_1 : ta (w_ar ws (n_v vs 0) 1) = some 151 := tv_rg (th_fd hD hth r0 (g := GG_150) rfl (k := 1) (t := (2, 0, 0, [151])) rfl rfl)
  have g3 : v_iv (n_v vs 4) = w_fi ws (n_v vs 0) 11 := congrArg v_iv f3
  have hK_0_1 : ∀ j : Int, 0 ≤ j → j < 2000 → (-128) ≤ w_ei ws (w_ar ws (n_v vs 0) 1) j ∧ w_ei ws (w_ar ws (n_v vs 0) 1) j ≤ 127 := fun j h0 h1 => th_el hD hth cr_0_1 (kd := 1) (n := 2000) (m := 2000) (lo := (-128)) (hi := 127) (rs := []) (L := []) rfl (by decide) (j := j.toNat) (by omega)
  have kz_0_10 : 0 ≤ w_fi ws (n_v vs 0) 10 ∧ w_fi ws (n_v vs 0) 10 ≤ 2000 := tv_rng (th_fd hD hth r0 (g := GG_150) rfl (k := 10) (t := (0, 0, 2000, [])) rfl rfl)
  have kz_0_11 : 0 ≤ w_fi ws (n_v vs 0) 11 ∧ w_fi ws (n_v vs 0) 11 ≤ 2000 := tv_rng (th_fd hD hth r0 (g := GG_150) rfl (k := 11) (t := (0, 0, 2000, [])) rfl rfl)
  have kz_0_15 : 0 ≤ w_fi ws (n_v vs 0) 15 ∧ w_fi ws (n_v vs 0) 15 ≤ 2000 := tv_rng (th_fd hD hth r0 (g := GG_150) rfl (k := 15) (t := (0, 0, 2000, [])) rfl rfl)
  have nf0 : fc_1 (20, [2], [50, 2, 0, 15, 11, 0, 7, 4, 3, 2, 0, 15, 0, 1, 2, 0, 11]) ws (vs) := by
    refine ⟨fun n hn => ?_, ?_⟩
    · have hn : n ∈ [2] := hn
      rw [hl]
      simp only [List.mem_cons, List.not_mem_nil, or_false] at hn
      show n < 11; omega
    · show (w_fi ws (n_v vs 2) 15 + 1) ≤ w_fi ws (n_v vs 2) 11
      rw [q2]
      first | omega | grind
  refine ⟨(fun _ h => (by cases h)), [], trivial, ?_, (fun _ h => (by cases h))⟩
  rw [List.append_nil]
  exact List.forall_mem_cons.mpr ⟨⟨show (20 : Nat) < 100 from by decide, nf0⟩, (fun _ h => (by cases h))⟩
def o_Mo_next_30 : or_T := (147, 11, [(0, (2, 0, 0, [150])), (1, (0, 0, 2000, [])), (2, (2, 0, 0, [150])), (4, (0, 0, 1999, [])), (5, (0, 123, 255, [])), (7, (0, -1, -1, [])), (9, (0, -1, -1, [])), (10, (0, 95, 95, []))], [(7, [9, 10], [1]), (20, [4, 2, 9], [50, 1, 1, 1010, 1001, 4, 11, 0, 6, 4, 2, 1, 0, 0, 1, 2, 1, 10, 1, 2, 1, 2, 9, 5, 3, 1, 1, 1, 0, 0, 256]), (20, [2, 4, 9], [50, 1, 0, 10, 4, 7, 0, 3, 2, 0, 10, 1, 1, 1, 2, 1, 2, 0, -1]), (9, [4, 2], [11]), (20, [4, 2, 7], [50, 1, 1, 1010, 1001, 4, 11, 0, 6, 4, 2, 1, 0, 0, 1, 2, 1, 10, 1, 2, 1, 2, 9, 5, 3, 1, 1, 1, 0, 0, 256]), (20, [2, 4, 7], [50, 1, 0, 10, 4, 7, 0, 3, 2, 0, 10, 1, 1, 1, 2, 1, 2, 0, -1]), (20, [4, 2, 5], [50, 1, 1, 1010, 1001, 4, 11, 0, 6, 4, 2, 1, 0, 0, 1, 2, 1, 10, 1, 2, 1, 2, 9, 5, 3, 1, 1, 1, 0, 0, 256]), (20, [2, 4, 5], [50, 1, 0, 10, 4, 7, 0, 3, 2, 0, 10, 1, 1, 1, 2, 1, 2, 0, -1]), (20, [1, 2], [30, 0, 1, 0, 0, -1, 1, 15]), (20, [2], [50, 3, 1, 15, 11, 10, 1, 2, 8, 0, 3, 2, 0, 15, 2, 0, 11, 3, 12, 0, 7, 4, 3, 2, 0, 15, 0, 1, 2, 0, 11, 2, 8, 1, 3, 2, 0, 11, 2, 0, 15, 2, 12, 0, 7, 4, 3, 2, 0, 15, 0, 1, 2, 0, 10, 3, 30, 2, 14, 0, 2, 0, 65, 9, 6, 3, 0, 1, 2, 0, 15, 0, 256, 0, 10, 9, 6, 3, 0, 1, 2, 0, 15, 0, 256, 0, 90, 2, 14, 0, 2, 0, 97, 9, 6, 3, 0, 1, 2, 0, 15, 0, 256, 0, 10, 9, 6, 3, 0, 1, 2, 0, 15, 0, 256, 0, 122]), (24, [0, 2], [])], [], [], [(20, [2], [50, 2, 0, 15, 11, 0, 7, 4, 3, 2, 0, 15, 0, 1, 2, 0, 11])], [], [(1, 4, -4294967296, 2000), (4, 1, -4294967296, 2000)])
theorem oo_Mo_next_30 {kA : Nat → ClassId} : or_ok kA GG o_Mo_next_30 := by
  intro A ta ws vs hD hth hl hk hds hf
  have hl : vs.length = 11 := hl
  have hk : ∀ q ∈ ([(0, (2, 0, 0, [150])), (1, (0, 0, 2000, [])), (2, (2, 0, 0, [150])), (4, (0, 0, 1999, [])), (5, (0, 123, 255, [])), (7, (0, -1, -1, [])), (9, (0, -1, -1, [])), (10, (0, 95, 95, []))] : List (Nat × tv_T)), tv_ok ta q.2 (n_v vs q.1) := hk
  obtain ⟨t0, hk⟩ := List.forall_mem_cons.mp hk
  have t0 : tv_ok ta (2, 0, 0, [150]) (n_v vs 0) := t0
  have r0 : ta (v_ad (n_v vs 0)) = some 150 := tv_rg t0
  obtain ⟨t1, hk⟩ := List.forall_mem_cons.mp hk
  have t1 : tv_ok ta (0, 0, 2000, []) (n_v vs 1) := t1
  have k1 : 0 ≤ v_iv (n_v vs 1) ∧ v_iv (n_v vs 1) ≤ 2000 := tv_rng t1
  obtain ⟨t2, hk⟩ := List.forall_mem_cons.mp hk
  have t2 : tv_ok ta (2, 0, 0, [150]) (n_v vs 2) := t2
  have r2 : ta (v_ad (n_v vs 2)) = some 150 := tv_rg t2
  obtain ⟨t4, hk⟩ := List.forall_mem_cons.mp hk
  have t4 : tv_ok ta (0, 0, 1999, []) (n_v vs 4) := t4
  have k4 : 0 ≤ v_iv (n_v vs 4) ∧ v_iv (n_v vs 4) ≤ 1999 := tv_rng t4
  obtain ⟨t5, hk⟩ := List.forall_mem_cons.mp hk
  have t5 : tv_ok ta (0, 123, 255, []) (n_v vs 5) := t5
  have k5 : 123 ≤ v_iv (n_v vs 5) ∧ v_iv (n_v vs 5) ≤ 255 := tv_rng t5
  obtain ⟨t7, hk⟩ := List.forall_mem_cons.mp hk
  have t7 : tv_ok ta (0, -1, -1, []) (n_v vs 7) := t7
  have k7 : (-1) ≤ v_iv (n_v vs 7) ∧ v_iv (n_v vs 7) ≤ (-1) := tv_rng t7
  obtain ⟨t9, hk⟩ := List.forall_mem_cons.mp hk
  have t9 : tv_ok ta (0, -1, -1, []) (n_v vs 9) := t9
  have k9 : (-1) ≤ v_iv (n_v vs 9) ∧ v_iv (n_v vs 9) ≤ (-1) := tv_rng t9
  obtain ⟨t10, hk⟩ := List.forall_mem_cons.mp hk
  have t10 : tv_ok ta (0, 95, 95, []) (n_v vs 10) := t10
  have k10 : 95 ≤ v_iv (n_v vs 10) ∧ v_iv (n_v vs 10) ≤ 95 := tv_rng t10
  have hds : ∀ q ∈ ([(1, 4, -4294967296, 2000), (4, 1, -4294967296, 2000)] : List of_T), n_iv vs q.2.1 + q.2.2.1 ≤ n_iv vs q.1 ∧ n_iv vs q.1 ≤ n_iv vs q.2.1 + q.2.2.2 := hds
  obtain ⟨d0, hds⟩ := List.forall_mem_cons.mp hds
  have d0 : v_iv (n_v vs 4) + (-4294967296) ≤ v_iv (n_v vs 1) ∧ v_iv (n_v vs 1) ≤ v_iv (n_v vs 4) + 2000 := d0
  obtain ⟨d1, hds⟩ := List.forall_mem_cons.mp hds
  have d1 : v_iv (n_v vs 1) + (-4294967296) ≤ v_iv (n_v vs 4) ∧ v_iv (n_v vs 4) ≤ v_iv (n_v vs 1) + 2000 := d1
  have hf : fc_ok [(7, [9, 10], [1]), (20, [4, 2, 9], [50, 1, 1, 1010, 1001, 4, 11, 0, 6, 4, 2, 1, 0, 0, 1, 2, 1, 10, 1, 2, 1, 2, 9, 5, 3, 1, 1, 1, 0, 0, 256]), (20, [2, 4, 9], [50, 1, 0, 10, 4, 7, 0, 3, 2, 0, 10, 1, 1, 1, 2, 1, 2, 0, -1]), (9, [4, 2], [11]), (20, [4, 2, 7], [50, 1, 1, 1010, 1001, 4, 11, 0, 6, 4, 2, 1, 0, 0, 1, 2, 1, 10, 1, 2, 1, 2, 9, 5, 3, 1, 1, 1, 0, 0, 256]), (20, [2, 4, 7], [50, 1, 0, 10, 4, 7, 0, 3, 2, 0, 10, 1, 1, 1, 2, 1, 2, 0, -1]), (20, [4, 2, 5], [50, 1, 1, 1010, 1001, 4, 11, 0, 6, 4, 2, 1, 0, 0, 1, 2, 1, 10, 1, 2, 1, 2, 9, 5, 3, 1, 1, 1, 0, 0, 256]), (20, [2, 4, 5], [50, 1, 0, 10, 4, 7, 0, 3, 2, 0, 10, 1, 1, 1, 2, 1, 2, 0, -1]), (20, [1, 2], [30, 0, 1, 0, 0, -1, 1, 15]), (20, [2], [50, 3, 1, 15, 11, 10, 1, 2, 8, 0, 3, 2, 0, 15, 2, 0, 11, 3, 12, 0, 7, 4, 3, 2, 0, 15, 0, 1, 2, 0, 11, 2, 8, 1, 3, 2, 0, 11, 2, 0, 15, 2, 12, 0, 7, 4, 3, 2, 0, 15, 0, 1, 2, 0, 10, 3, 30, 2, 14, 0, 2, 0, 65, 9, 6, 3, 0, 1, 2, 0, 15, 0, 256, 0, 10, 9, 6, 3, 0, 1, 2, 0, 15, 0, 256, 0, 90, 2, 14, 0, 2, 0, 97, 9, 6, 3, 0, 1, 2, 0, 15, 0, 256, 0, 10, 9, 6, 3, 0, 1, 2, 0, 15, 0, 256, 0, 122]), (24, [0, 2], [])] ta ws vs := hf
  obtain ⟨f0, hf⟩ := fc_un (show (7 : Nat) < 100 from by decide) hf
  have f0 : v_iv (n_v vs 9) ≠ v_iv (n_v vs 10) := f0
  obtain ⟨f1, hf⟩ := fc_un (show (20 : Nat) < 100 from by decide) hf
  have f1 : ((v_iv (n_v vs 4) + 1) ≤ w_fi ws (n_v vs 2) 10) → (v_iv (n_v vs 9) = (w_ei ws (w_ar ws (n_v vs 2) 1) (v_iv (n_v vs 4)) % 256)) := f1
  obtain ⟨f2, hf⟩ := fc_un (show (20 : Nat) < 100 from by decide) hf
  have f2 : (w_fi ws (n_v vs 2) 10 ≤ v_iv (n_v vs 4)) → (v_iv (n_v vs 9) = (-1)) := f2
  obtain ⟨f3, hf⟩ := fc_un (show (9 : Nat) < 100 from by decide) hf
  have f3 : n_v vs 4 = w_fd ws (v_ad (n_v vs 2)) 11 := f3
  obtain ⟨f4, hf⟩ := fc_un (show (20 : Nat) < 100 from by decide) hf
  have f4 : ((v_iv (n_v vs 4) + 1) ≤ w_fi ws (n_v vs 2) 10) → (v_iv (n_v vs 7) = (w_ei ws (w_ar ws (n_v vs 2) 1) (v_iv (n_v vs 4)) % 256)) := f4
  obtain ⟨f5, hf⟩ := fc_un (show (20 : Nat) < 100 from by decide) hf
  have f5 : (w_fi ws (n_v vs 2) 10 ≤ v_iv (n_v vs 4)) → (v_iv (n_v vs 7) = (-1)) := f5
  obtain ⟨f6, hf⟩ := fc_un (show (20 : Nat) < 100 from by decide) hf
  have f6 : ((v_iv (n_v vs 4) + 1) ≤ w_fi ws (n_v vs 2) 10) → (v_iv (n_v vs 5) = (w_ei ws (w_ar ws (n_v vs 2) 1) (v_iv (n_v vs 4)) % 256)) := f6
  obtain ⟨f7, hf⟩ := fc_un (show (20 : Nat) < 100 from by decide) hf
  have f7 : (w_fi ws (n_v vs 2) 10 ≤ v_iv (n_v vs 4)) → (v_iv (n_v vs 5) = (-1)) := f7
  obtain ⟨f8, hf⟩ := fc_un (show (20 : Nat) < 100 from by decide) hf
  have f8 : 1 * v_iv (n_v vs 1) + ((-1) * w_fi ws (n_v vs 2) 15 + 0) ≤ 0 := f8
  obtain ⟨f9, hf⟩ := fc_un (show (20 : Nat) < 100 from by decide) hf
  have f9 : (w_fi ws (n_v vs 2) 15 ≤ w_fi ws (n_v vs 2) 11) ∧ (((w_fi ws (n_v vs 2) 15 + 1) ≤ w_fi ws (n_v vs 2) 11) ∨ ((w_fi ws (n_v vs 2) 11 = w_fi ws (n_v vs 2) 15) ∧ (((w_fi ws (n_v vs 2) 15 + 1) ≤ w_fi ws (n_v vs 2) 10) ∧ (((65 ≤ (w_ei ws (w_ar ws (n_v vs 2) 1) (w_fi ws (n_v vs 2) 15) % 256)) ∧ ((w_ei ws (w_ar ws (n_v vs 2) 1) (w_fi ws (n_v vs 2) 15) % 256) ≤ 90)) ∨ ((97 ≤ (w_ei ws (w_ar ws (n_v vs 2) 1) (w_fi ws (n_v vs 2) 15) % 256)) ∧ ((w_ei ws (w_ar ws (n_v vs 2) 1) (w_fi ws (n_v vs 2) 15) % 256) ≤ 122)))))) := f9
  obtain ⟨f10, hf⟩ := fc_un (show (24 : Nat) < 100 from by decide) hf
  have f10 : n_v vs 0 = n_v vs 2 := f10
  have q2 : n_v vs 2 = n_v vs 0 := f10.symm
  rw [q2] at f1
  rw [q2] at f2
  rw [q2] at f3
  rw [q2] at f4
  rw [q2] at f5
  rw [q2] at f6
  rw [q2] at f7
  rw [q2] at f8
  rw [q2] at f9
  have cr_0_1 : ta (w_ar ws (n_v vs 0) 1) = some 151 := tv_rg (th_fd hD hth r0 (g := GG_150) rfl (k := 1) (t := (2, 0, 0, [151])) rfl rfl)
  have g3 : v_iv (n_v vs 4) = w_fi ws (n_v vs 0) 11 := congrArg v_iv f3
  have hK_0_1 : ∀ j : Int, 0 ≤ j → j < 2000 → (-128) ≤ w_ei ws (w_ar ws (n_v vs 0) 1) j ∧ w_ei ws (w_ar ws (n_v vs 0) 1) j ≤ 127 := fun j h0 h1 => th_el hD hth cr_0_1 (kd := 1) (n := 2000) (m := 2000) (lo := (-128)) (hi := 127) (rs := []) (L := []) rfl (by decide) (j := j.toNat) (by omega)
  have kz_0_10 : 0 ≤ w_fi ws (n_v vs 0) 10 ∧ w_fi ws (n_v vs 0) 10 ≤ 2000 := tv_rng (th_fd hD hth r0 (g := GG_150) rfl (k := 10) (t := (0, 0, 2000, [])) rfl rfl)
  have kz_0_11 : 0 ≤ w_fi ws (n_v vs 0) 11 ∧ w_fi ws (n_v vs 0) 11 ≤ 2000 := tv_rng (th_fd hD hth r0 (g := GG_150) rfl (k := 11) (t := (0, 0, 2000, [])) rfl rfl)
  have kz_0_15 : 0 ≤ w_fi ws (n_v vs 0) 15 ∧ w_fi ws (n_v vs 0) 15 ≤ 2000 := tv_rng (th_fd hD hth r0 (g := GG_150) rfl (k := 15) (t := (0, 0, 2000, [])) rfl rfl)
  have nf0 : fc_1 (20, [2], [50, 2, 0, 15, 11, 0, 7, 4, 3, 2, 0, 15, 0, 1, 2, 0, 11]) ws (vs) := by
    refine ⟨fun n hn => ?_, ?_⟩
    · have hn : n ∈ [2] := hn
      rw [hl]
      simp only [List.mem_cons, List.not_mem_nil, or_false] at hn
      show n < 11; omega
    · show (w_fi ws (n_v vs 2) 15 + 1) ≤ w_fi ws (n_v vs 2) 11
      rw [q2]
      first | omega | grind
  refine ⟨(fun _ h => (by cases h)), [], trivial, ?_, (fun _ h => (by cases h))⟩
  rw [List.append_nil]
  exact List.forall_mem_cons.mpr ⟨⟨show (20 : Nat) < 100 from by decide, nf0⟩, (fun _ h => (by cases h))⟩
def o_Mo_next_31 : or_T := (147, 11, [(0, (2, 0, 0, [150])), (1, (0, 0, 2000, [])), (2, (2, 0, 0, [150])), (4, (0, 0, 1999, [])), (5, (0, 123, 255, [])), (7, (0, -1, -1, [])), (9, (0, 0, 255, [])), (10, (0, 95, 95, []))], [(7, [9, 10], [1]), (20, [4, 2, 9], [50, 1, 1, 1010, 1001, 4, 11, 0, 6, 4, 2, 1, 0, 0, 1, 2, 1, 10, 1, 2, 1, 2, 9, 5, 3, 1, 1, 1, 0, 0, 256]), (20, [2, 4, 9], [50, 1, 0, 10, 4, 7, 0, 3, 2, 0, 10, 1, 1, 1, 2, 1, 2, 0, -1]), (9, [4, 2], [11]), (20, [4, 2, 7], [50, 1, 1, 1010, 1001, 4, 11, 0, 6, 4, 2, 1, 0, 0, 1, 2, 1, 10, 1, 2, 1, 2, 9, 5, 3, 1, 1, 1, 0, 0, 256]), (20, [2, 4, 7], [50, 1, 0, 10, 4, 7, 0, 3, 2, 0, 10, 1, 1, 1, 2, 1, 2, 0, -1]), (20, [4, 2, 5], [50, 1, 1, 1010, 1001, 4, 11, 0, 6, 4, 2, 1, 0, 0, 1, 2, 1, 10, 1, 2, 1, 2, 9, 5, 3, 1, 1, 1, 0, 0, 256]), (20, [2, 4, 5], [50, 1, 0, 10, 4, 7, 0, 3, 2, 0, 10, 1, 1, 1, 2, 1, 2, 0, -1]), (20, [1, 2], [30, 0, 1, 0, 0, -1, 1, 15]), (20, [2], [50, 3, 1, 15, 11, 10, 1, 2, 8, 0, 3, 2, 0, 15, 2, 0, 11, 3, 12, 0, 7, 4, 3, 2, 0, 15, 0, 1, 2, 0, 11, 2, 8, 1, 3, 2, 0, 11, 2, 0, 15, 2, 12, 0, 7, 4, 3, 2, 0, 15, 0, 1, 2, 0, 10, 3, 30, 2, 14, 0, 2, 0, 65, 9, 6, 3, 0, 1, 2, 0, 15, 0, 256, 0, 10, 9, 6, 3, 0, 1, 2, 0, 15, 0, 256, 0, 90, 2, 14, 0, 2, 0, 97, 9, 6, 3, 0, 1, 2, 0, 15, 0, 256, 0, 10, 9, 6, 3, 0, 1, 2, 0, 15, 0, 256, 0, 122]), (24, [0, 2], [])], [], [], [(20, [2], [50, 2, 0, 15, 11, 0, 7, 4, 3, 2, 0, 15, 0, 1, 2, 0, 11])], [], [(1, 4, -4294967296, 2000), (4, 1, -4294967296, 2000)])
theorem oo_Mo_next_31 {kA : Nat → ClassId} : or_ok kA GG o_Mo_next_31 := by
  intro A ta ws vs hD hth hl hk hds hf
  have hl : vs.length = 11 := hl
  have hk : ∀ q ∈ ([(0, (2, 0, 0, [150])), (1, (0, 0, 2000, [])), (2, (2, 0, 0, [150])), (4, (0, 0, 1999, [])), (5, (0, 123, 255, [])), (7, (0, -1, -1, [])), (9, (0, 0, 255, [])), (10, (0, 95, 95, []))] : List (Nat × tv_T)), tv_ok ta q.2 (n_v vs q.1) := hk
  obtain ⟨t0, hk⟩ := List.forall_mem_cons.mp hk
  have t0 : tv_ok ta (2, 0, 0, [150]) (n_v vs 0) := t0
  have r0 : ta (v_ad (n_v vs 0)) = some 150 := tv_rg t0
  obtain ⟨t1, hk⟩ := List.forall_mem_cons.mp hk
  have t1 : tv_ok ta (0, 0, 2000, []) (n_v vs 1) := t1
  have k1 : 0 ≤ v_iv (n_v vs 1) ∧ v_iv (n_v vs 1) ≤ 2000 := tv_rng t1
  obtain ⟨t2, hk⟩ := List.forall_mem_cons.mp hk
  have t2 : tv_ok ta (2, 0, 0, [150]) (n_v vs 2) := t2
  have r2 : ta (v_ad (n_v vs 2)) = some 150 := tv_rg t2
  obtain ⟨t4, hk⟩ := List.forall_mem_cons.mp hk
  have t4 : tv_ok ta (0, 0, 1999, []) (n_v vs 4) := t4
  have k4 : 0 ≤ v_iv (n_v vs 4) ∧ v_iv (n_v vs 4) ≤ 1999 := tv_rng t4
  obtain ⟨t5, hk⟩ := List.forall_mem_cons.mp hk
  have t5 : tv_ok ta (0, 123, 255, []) (n_v vs 5) := t5
  have k5 : 123 ≤ v_iv (n_v vs 5) ∧ v_iv (n_v vs 5) ≤ 255 := tv_rng t5
  obtain ⟨t7, hk⟩ := List.forall_mem_cons.mp hk
  have t7 : tv_ok ta (0, -1, -1, []) (n_v vs 7) := t7
  have k7 : (-1) ≤ v_iv (n_v vs 7) ∧ v_iv (n_v vs 7) ≤ (-1) := tv_rng t7
  obtain ⟨t9, hk⟩ := List.forall_mem_cons.mp hk
  have t9 : tv_ok ta (0, 0, 255, []) (n_v vs 9) := t9
  have k9 : 0 ≤ v_iv (n_v vs 9) ∧ v_iv (n_v vs 9) ≤ 255 := tv_rng t9
  obtain ⟨t10, hk⟩ := List.forall_mem_cons.mp hk
  have t10 : tv_ok ta (0, 95, 95, []) (n_v vs 10) := t10
  have k10 : 95 ≤ v_iv (n_v vs 10) ∧ v_iv (n_v vs 10) ≤ 95 := tv_rng t10
  have hds : ∀ q ∈ ([(1, 4, -4294967296, 2000), (4, 1, -4294967296, 2000)] : List of_T), n_iv vs q.2.1 + q.2.2.1 ≤ n_iv vs q.1 ∧ n_iv vs q.1 ≤ n_iv vs q.2.1 + q.2.2.2 := hds
  obtain ⟨d0, hds⟩ := List.forall_mem_cons.mp hds
  have d0 : v_iv (n_v vs 4) + (-4294967296) ≤ v_iv (n_v vs 1) ∧ v_iv (n_v vs 1) ≤ v_iv (n_v vs 4) + 2000 := d0
  obtain ⟨d1, hds⟩ := List.forall_mem_cons.mp hds
  have d1 : v_iv (n_v vs 1) + (-4294967296) ≤ v_iv (n_v vs 4) ∧ v_iv (n_v vs 4) ≤ v_iv (n_v vs 1) + 2000 := d1
  have hf : fc_ok [(7, [9, 10], [1]), (20, [4, 2, 9], [50, 1, 1, 1010, 1001, 4, 11, 0, 6, 4, 2, 1, 0, 0, 1, 2, 1, 10, 1, 2, 1, 2, 9, 5, 3, 1, 1, 1, 0, 0, 256]), (20, [2, 4, 9], [50, 1, 0, 10, 4, 7, 0, 3, 2, 0, 10, 1, 1, 1, 2, 1, 2, 0, -1]), (9, [4, 2], [11]), (20, [4, 2, 7], [50, 1, 1, 1010, 1001, 4, 11, 0, 6, 4, 2, 1, 0, 0, 1, 2, 1, 10, 1, 2, 1, 2, 9, 5, 3, 1, 1, 1, 0, 0, 256]), (20, [2, 4, 7], [50, 1, 0, 10, 4, 7, 0, 3, 2, 0, 10, 1, 1, 1, 2, 1, 2, 0, -1]), (20, [4, 2, 5], [50, 1, 1, 1010, 1001, 4, 11, 0, 6, 4, 2, 1, 0, 0, 1, 2, 1, 10, 1, 2, 1, 2, 9, 5, 3, 1, 1, 1, 0, 0, 256]), (20, [2, 4, 5], [50, 1, 0, 10, 4, 7, 0, 3, 2, 0, 10, 1, 1, 1, 2, 1, 2, 0, -1]), (20, [1, 2], [30, 0, 1, 0, 0, -1, 1, 15]), (20, [2], [50, 3, 1, 15, 11, 10, 1, 2, 8, 0, 3, 2, 0, 15, 2, 0, 11, 3, 12, 0, 7, 4, 3, 2, 0, 15, 0, 1, 2, 0, 11, 2, 8, 1, 3, 2, 0, 11, 2, 0, 15, 2, 12, 0, 7, 4, 3, 2, 0, 15, 0, 1, 2, 0, 10, 3, 30, 2, 14, 0, 2, 0, 65, 9, 6, 3, 0, 1, 2, 0, 15, 0, 256, 0, 10, 9, 6, 3, 0, 1, 2, 0, 15, 0, 256, 0, 90, 2, 14, 0, 2, 0, 97, 9, 6, 3, 0, 1, 2, 0, 15, 0, 256, 0, 10, 9, 6, 3, 0, 1, 2, 0, 15, 0, 256, 0, 122]), (24, [0, 2], [])] ta ws vs := hf
  obtain ⟨f0, hf⟩ := fc_un (show (7 : Nat) < 100 from by decide) hf
  have f0 : v_iv (n_v vs 9) ≠ v_iv (n_v vs 10) := f0
  obtain ⟨f1, hf⟩ := fc_un (show (20 : Nat) < 100 from by decide) hf
  have f1 : ((v_iv (n_v vs 4) + 1) ≤ w_fi ws (n_v vs 2) 10) → (v_iv (n_v vs 9) = (w_ei ws (w_ar ws (n_v vs 2) 1) (v_iv (n_v vs 4)) % 256)) := f1
  obtain ⟨f2, hf⟩ := fc_un (show (20 : Nat) < 100 from by decide) hf
  have f2 : (w_fi ws (n_v vs 2) 10 ≤ v_iv (n_v vs 4)) → (v_iv (n_v vs 9) = (-1)) := f2
  obtain ⟨f3, hf⟩ := fc_un (show (9 : Nat) < 100 from by decide) hf
  have f3 : n_v vs 4 = w_fd ws (v_ad (n_v vs 2)) 11 := f3
  obtain ⟨f4, hf⟩ := fc_un (show (20 : Nat) < 100 from by decide) hf
  have f4 : ((v_iv (n_v vs 4) + 1) ≤ w_fi ws (n_v vs 2) 10) → (v_iv (n_v vs 7) = (w_ei ws (w_ar ws (n_v vs 2) 1) (v_iv (n_v vs 4)) % 256)) := f4
  obtain ⟨f5, hf⟩ := fc_un (show (20 : Nat) < 100 from by decide) hf
  have f5 : (w_fi ws (n_v vs 2) 10 ≤ v_iv (n_v vs 4)) → (v_iv (n_v vs 7) = (-1)) := f5
  obtain ⟨f6, hf⟩ := fc_un (show (20 : Nat) < 100 from by decide) hf
  have f6 : ((v_iv (n_v vs 4) + 1) ≤ w_fi ws (n_v vs 2) 10) → (v_iv (n_v vs 5) = (w_ei ws (w_ar ws (n_v vs 2) 1) (v_iv (n_v vs 4)) % 256)) := f6
  obtain ⟨f7, hf⟩ := fc_un (show (20 : Nat) < 100 from by decide) hf
  have f7 : (w_fi ws (n_v vs 2) 10 ≤ v_iv (n_v vs 4)) → (v_iv (n_v vs 5) = (-1)) := f7
  obtain ⟨f8, hf⟩ := fc_un (show (20 : Nat) < 100 from by decide) hf
  have f8 : 1 * v_iv (n_v vs 1) + ((-1) * w_fi ws (n_v vs 2) 15 + 0) ≤ 0 := f8
  obtain ⟨f9, hf⟩ := fc_un (show (20 : Nat) < 100 from by decide) hf
  have f9 : (w_fi ws (n_v vs 2) 15 ≤ w_fi ws (n_v vs 2) 11) ∧ (((w_fi ws (n_v vs 2) 15 + 1) ≤ w_fi ws (n_v vs 2) 11) ∨ ((w_fi ws (n_v vs 2) 11 = w_fi ws (n_v vs 2) 15) ∧ (((w_fi ws (n_v vs 2) 15 + 1) ≤ w_fi ws (n_v vs 2) 10) ∧ (((65 ≤ (w_ei ws (w_ar ws (n_v vs 2) 1) (w_fi ws (n_v vs 2) 15) % 256)) ∧ ((w_ei ws (w_ar ws (n_v vs 2) 1) (w_fi ws (n_v vs 2) 15) % 256) ≤ 90)) ∨ ((97 ≤ (w_ei ws (w_ar ws (n_v vs 2) 1) (w_fi ws (n_v vs 2) 15) % 256)) ∧ ((w_ei ws (w_ar ws (n_v vs 2) 1) (w_fi ws (n_v vs 2) 15) % 256) ≤ 122)))))) := f9
  obtain ⟨f10, hf⟩ := fc_un (show (24 : Nat) < 100 from by decide) hf
  have f10 : n_v vs 0 = n_v vs 2 := f10
  have q2 : n_v vs 2 = n_v vs 0 := f10.symm
  rw [q2] at f1
  rw [q2] at f2
  rw [q2] at f3
  rw [q2] at f4
  rw [q2] at f5
  rw [q2] at f6
  rw [q2] at f7
  rw [q2] at f8
  rw [q2] at f9
  have cr_0_1 : ta (w_ar ws (n_v vs 0) 1) = some 151 := tv_rg (th_fd hD hth r0 (g := GG_150) rfl (k := 1) (t := (2, 0, 0, [151])) rfl rfl)
  have g3 : v_iv (n_v vs 4) = w_fi ws (n_v vs 0) 11 := congrArg v_iv f3
  have hK_0_1 : ∀ j : Int, 0 ≤ j → j < 2000 → (-128) ≤ w_ei ws (w_ar ws (n_v vs 0) 1) j ∧ w_ei ws (w_ar ws (n_v vs 0) 1) j ≤ 127 := fun j h0 h1 => th_el hD hth cr_0_1 (kd := 1) (n := 2000) (m := 2000) (lo := (-128)) (hi := 127) (rs := []) (L := []) rfl (by decide) (j := j.toNat) (by omega)
  have kz_0_10 : 0 ≤ w_fi ws (n_v vs 0) 10 ∧ w_fi ws (n_v vs 0) 10 ≤ 2000 := tv_rng (th_fd hD hth r0 (g := GG_150) rfl (k := 10) (t := (0, 0, 2000, [])) rfl rfl)
  have kz_0_11 : 0 ≤ w_fi ws (n_v vs 0) 11 ∧ w_fi ws (n_v vs 0) 11 ≤ 2000 := tv_rng (th_fd hD hth r0 (g := GG_150) rfl (k := 11) (t := (0, 0, 2000, [])) rfl rfl)
  have kz_0_15 : 0 ≤ w_fi ws (n_v vs 0) 15 ∧ w_fi ws (n_v vs 0) 15 ≤ 2000 := tv_rng (th_fd hD hth r0 (g := GG_150) rfl (k := 15) (t := (0, 0, 2000, [])) rfl rfl)
  have nf0 : fc_1 (20, [2], [50, 2, 0, 15, 11, 0, 7, 4, 3, 2, 0, 15, 0, 1, 2, 0, 11]) ws (vs) := by
    refine ⟨fun n hn => ?_, ?_⟩
    · have hn : n ∈ [2] := hn
      rw [hl]
      simp only [List.mem_cons, List.not_mem_nil, or_false] at hn
      show n < 11; omega
    · show (w_fi ws (n_v vs 2) 15 + 1) ≤ w_fi ws (n_v vs 2) 11
      rw [q2]
      first | omega | grind
  refine ⟨(fun _ h => (by cases h)), [], trivial, ?_, (fun _ h => (by cases h))⟩
  rw [List.append_nil]
  exact List.forall_mem_cons.mpr ⟨⟨show (20 : Nat) < 100 from by decide, nf0⟩, (fun _ h => (by cases h))⟩
def o_Mo_next_32 : or_T := (147, 11, [(0, (2, 0, 0, [150])), (1, (0, 0, 2000, [])), (2, (2, 0, 0, [150])), (4, (0, 0, 1999, [])), (5, (0, 123, 255, [])), (7, (0, 0, 47, [])), (9, (0, -1, -1, [])), (10, (0, 95, 95, []))], [(7, [9, 10], [1]), (20, [4, 2, 9], [50, 1, 1, 1010, 1001, 4, 11, 0, 6, 4, 2, 1, 0, 0, 1, 2, 1, 10, 1, 2, 1, 2, 9, 5, 3, 1, 1, 1, 0, 0, 256]), (20, [2, 4, 9], [50, 1, 0, 10, 4, 7, 0, 3, 2, 0, 10, 1, 1, 1, 2, 1, 2, 0, -1]), (9, [4, 2], [11]), (20, [4, 2, 7], [50, 1, 1, 1010, 1001, 4, 11, 0, 6, 4, 2, 1, 0, 0, 1, 2, 1, 10, 1, 2, 1, 2, 9, 5, 3, 1, 1, 1, 0, 0, 256]), (20, [2, 4, 7], [50, 1, 0, 10, 4, 7, 0, 3, 2, 0, 10, 1, 1, 1, 2, 1, 2, 0, -1]), (20, [4, 2, 5], [50, 1, 1, 1010, 1001, 4, 11, 0, 6, 4, 2, 1, 0, 0, 1, 2, 1, 10, 1, 2, 1, 2, 9, 5, 3, 1, 1, 1, 0, 0, 256]), (20, [2, 4, 5], [50, 1, 0, 10, 4, 7, 0, 3, 2, 0, 10, 1, 1, 1, 2, 1, 2, 0, -1]), (20, [1, 2], [30, 0, 1, 0, 0, -1, 1, 15]), (20, [2], [50, 3, 1, 15, 11, 10, 1, 2, 8, 0, 3, 2, 0, 15, 2, 0, 11, 3, 12, 0, 7, 4, 3, 2, 0, 15, 0, 1, 2, 0, 11, 2, 8, 1, 3, 2, 0, 11, 2, 0, 15, 2, 12, 0, 7, 4, 3, 2, 0, 15, 0, 1, 2, 0, 10, 3, 30, 2, 14, 0, 2, 0, 65, 9, 6, 3, 0, 1, 2, 0, 15, 0, 256, 0, 10, 9, 6, 3, 0, 1, 2, 0, 15, 0, 256, 0, 90, 2, 14, 0, 2, 0, 97, 9, 6, 3, 0, 1, 2, 0, 15, 0, 256, 0, 10, 9, 6, 3, 0, 1, 2, 0, 15, 0, 256, 0, 122]), (24, [0, 2], [])], [], [], [(20, [2], [50, 2, 0, 15, 11, 0, 7, 4, 3, 2, 0, 15, 0, 1, 2, 0, 11])], [], [(1, 4, -4294967296, 2000), (4, 1, -4294967296, 2000)])
theorem oo_Mo_next_32 {kA : Nat → ClassId} : or_ok kA GG o_Mo_next_32 := by
  intro A ta ws vs hD hth hl hk hds hf
  have hl : vs.length = 11 := hl
  have hk : ∀ q ∈ ([(0, (2, 0, 0, [150])), (1, (0, 0, 2000, [])), (2, (2, 0, 0, [150])), (4, (0, 0, 1999, [])), (5, (0, 123, 255, [])), (7, (0, 0, 47, [])), (9, (0, -1, -1, [])), (10, (0, 95, 95, []))] : List (Nat × tv_T)), tv_ok ta q.2 (n_v vs q.1) := hk
  obtain ⟨t0, hk⟩ := List.forall_mem_cons.mp hk
  have t0 : tv_ok ta (2, 0, 0, [150]) (n_v vs 0) := t0
  have r0 : ta (v_ad (n_v vs 0)) = some 150 := tv_rg t0
  obtain ⟨t1, hk⟩ := List.forall_mem_cons.mp hk
  have t1 : tv_ok ta (0, 0, 2000, []) (n_v vs 1) := t1
  have k1 : 0 ≤ v_iv (n_v vs 1) ∧ v_iv (n_v vs 1) ≤ 2000 := tv_rng t1
  obtain ⟨t2, hk⟩ := List.forall_mem_cons.mp hk
  have t2 : tv_ok ta (2, 0, 0, [150]) (n_v vs 2) := t2
  have r2 : ta (v_ad (n_v vs 2)) = some 150 := tv_rg t2
  obtain ⟨t4, hk⟩ := List.forall_mem_cons.mp hk
  have t4 : tv_ok ta (0, 0, 1999, []) (n_v vs 4) := t4
  have k4 : 0 ≤ v_iv (n_v vs 4) ∧ v_iv (n_v vs 4) ≤ 1999 := tv_rng t4
  obtain ⟨t5, hk⟩ := List.forall_mem_cons.mp hk
  have t5 : tv_ok ta (0, 123, 255, []) (n_v vs 5) := t5
  have k5 : 123 ≤ v_iv (n_v vs 5) ∧ v_iv (n_v vs 5) ≤ 255 := tv_rng t5
  obtain ⟨t7, hk⟩ := List.forall_mem_cons.mp hk
  have t7 : tv_ok ta (0, 0, 47, []) (n_v vs 7) := t7
  have k7 : 0 ≤ v_iv (n_v vs 7) ∧ v_iv (n_v vs 7) ≤ 47 := tv_rng t7
  obtain ⟨t9, hk⟩ := List.forall_mem_cons.mp hk
  have t9 : tv_ok ta (0, -1, -1, []) (n_v vs 9) := t9
  have k9 : (-1) ≤ v_iv (n_v vs 9) ∧ v_iv (n_v vs 9) ≤ (-1) := tv_rng t9
  obtain ⟨t10, hk⟩ := List.forall_mem_cons.mp hk
  have t10 : tv_ok ta (0, 95, 95, []) (n_v vs 10) := t10
  have k10 : 95 ≤ v_iv (n_v vs 10) ∧ v_iv (n_v vs 10) ≤ 95 := tv_rng t10
  have hds : ∀ q ∈ ([(1, 4, -4294967296, 2000), (4, 1, -4294967296, 2000)] : List of_T), n_iv vs q.2.1 + q.2.2.1 ≤ n_iv vs q.1 ∧ n_iv vs q.1 ≤ n_iv vs q.2.1 + q.2.2.2 := hds
  obtain ⟨d0, hds⟩ := List.forall_mem_cons.mp hds
  have d0 : v_iv (n_v vs 4) + (-4294967296) ≤ v_iv (n_v vs 1) ∧ v_iv (n_v vs 1) ≤ v_iv (n_v vs 4) + 2000 := d0
  obtain ⟨d1, hds⟩ := List.forall_mem_cons.mp hds
  have d1 : v_iv (n_v vs 1) + (-4294967296) ≤ v_iv (n_v vs 4) ∧ v_iv (n_v vs 4) ≤ v_iv (n_v vs 1) + 2000 := d1
  have hf : fc_ok [(7, [9, 10], [1]), (20, [4, 2, 9], [50, 1, 1, 1010, 1001, 4, 11, 0, 6, 4, 2, 1, 0, 0, 1, 2, 1, 10, 1, 2, 1, 2, 9, 5, 3, 1, 1, 1, 0, 0, 256]), (20, [2, 4, 9], [50, 1, 0, 10, 4, 7, 0, 3, 2, 0, 10, 1, 1, 1, 2, 1, 2, 0, -1]), (9, [4, 2], [11]), (20, [4, 2, 7], [50, 1, 1, 1010, 1001, 4, 11, 0, 6, 4, 2, 1, 0, 0, 1, 2, 1, 10, 1, 2, 1, 2, 9, 5, 3, 1, 1, 1, 0, 0, 256]), (20, [2, 4, 7], [50, 1, 0, 10, 4, 7, 0, 3, 2, 0, 10, 1, 1, 1, 2, 1, 2, 0, -1]), (20, [4, 2, 5], [50, 1, 1, 1010, 1001, 4, 11, 0, 6, 4, 2, 1, 0, 0, 1, 2, 1, 10, 1, 2, 1, 2, 9, 5, 3, 1, 1, 1, 0, 0, 256]), (20, [2, 4, 5], [50, 1, 0, 10, 4, 7, 0, 3, 2, 0, 10, 1, 1, 1, 2, 1, 2, 0, -1]), (20, [1, 2], [30, 0, 1, 0, 0, -1, 1, 15]), (20, [2], [50, 3, 1, 15, 11, 10, 1, 2, 8, 0, 3, 2, 0, 15, 2, 0, 11, 3, 12, 0, 7, 4, 3, 2, 0, 15, 0, 1, 2, 0, 11, 2, 8, 1, 3, 2, 0, 11, 2, 0, 15, 2, 12, 0, 7, 4, 3, 2, 0, 15, 0, 1, 2, 0, 10, 3, 30, 2, 14, 0, 2, 0, 65, 9, 6, 3, 0, 1, 2, 0, 15, 0, 256, 0, 10, 9, 6, 3, 0, 1, 2, 0, 15, 0, 256, 0, 90, 2, 14, 0, 2, 0, 97, 9, 6, 3, 0, 1, 2, 0, 15, 0, 256, 0, 10, 9, 6, 3, 0, 1, 2, 0, 15, 0, 256, 0, 122]), (24, [0, 2], [])] ta ws vs := hf
  obtain ⟨f0, hf⟩ := fc_un (show (7 : Nat) < 100 from by decide) hf
  have f0 : v_iv (n_v vs 9) ≠ v_iv (n_v vs 10) := f0
  obtain ⟨f1, hf⟩ := fc_un (show (20 : Nat) < 100 from by decide) hf
  have f1 : ((v_iv (n_v vs 4) + 1) ≤ w_fi ws (n_v vs 2) 10) → (v_iv (n_v vs 9) = (w_ei ws (w_ar ws (n_v vs 2) 1) (v_iv (n_v vs 4)) % 256)) := f1
  obtain ⟨f2, hf⟩ := fc_un (show (20 : Nat) < 100 from by decide) hf
  have f2 : (w_fi ws (n_v vs 2) 10 ≤ v_iv (n_v vs 4)) → (v_iv (n_v vs 9) = (-1)) := f2
  obtain ⟨f3, hf⟩ := fc_un (show (9 : Nat) < 100 from by decide) hf
  have f3 : n_v vs 4 = w_fd ws (v_ad (n_v vs 2)) 11 := f3
  obtain ⟨f4, hf⟩ := fc_un (show (20 : Nat) < 100 from by decide) hf
  have f4 : ((v_iv (n_v vs 4) + 1) ≤ w_fi ws (n_v vs 2) 10) → (v_iv (n_v vs 7) = (w_ei ws (w_ar ws (n_v vs 2) 1) (v_iv (n_v vs 4)) % 256)) := f4
  obtain ⟨f5, hf⟩ := fc_un (show (20 : Nat) < 100 from by decide) hf
  have f5 : (w_fi ws (n_v vs 2) 10 ≤ v_iv (n_v vs 4)) → (v_iv (n_v vs 7) = (-1)) := f5
  obtain ⟨f6, hf⟩ := fc_un (show (20 : Nat) < 100 from by decide) hf
  have f6 : ((v_iv (n_v vs 4) + 1) ≤ w_fi ws (n_v vs 2) 10) → (v_iv (n_v vs 5) = (w_ei ws (w_ar ws (n_v vs 2) 1) (v_iv (n_v vs 4)) % 256)) := f6
  obtain ⟨f7, hf⟩ := fc_un (show (20 : Nat) < 100 from by decide) hf
  have f7 : (w_fi ws (n_v vs 2) 10 ≤ v_iv (n_v vs 4)) → (v_iv (n_v vs 5) = (-1)) := f7
  obtain ⟨f8, hf⟩ := fc_un (show (20 : Nat) < 100 from by decide) hf
  have f8 : 1 * v_iv (n_v vs 1) + ((-1) * w_fi ws (n_v vs 2) 15 + 0) ≤ 0 := f8
  obtain ⟨f9, hf⟩ := fc_un (show (20 : Nat) < 100 from by decide) hf
  have f9 : (w_fi ws (n_v vs 2) 15 ≤ w_fi ws (n_v vs 2) 11) ∧ (((w_fi ws (n_v vs 2) 15 + 1) ≤ w_fi ws (n_v vs 2) 11) ∨ ((w_fi ws (n_v vs 2) 11 = w_fi ws (n_v vs 2) 15) ∧ (((w_fi ws (n_v vs 2) 15 + 1) ≤ w_fi ws (n_v vs 2) 10) ∧ (((65 ≤ (w_ei ws (w_ar ws (n_v vs 2) 1) (w_fi ws (n_v vs 2) 15) % 256)) ∧ ((w_ei ws (w_ar ws (n_v vs 2) 1) (w_fi ws (n_v vs 2) 15) % 256) ≤ 90)) ∨ ((97 ≤ (w_ei ws (w_ar ws (n_v vs 2) 1) (w_fi ws (n_v vs 2) 15) % 256)) ∧ ((w_ei ws (w_ar ws (n_v vs 2) 1) (w_fi ws (n_v vs 2) 15) % 256) ≤ 122)))))) := f9
  obtain ⟨f10, hf⟩ := fc_un (show (24 : Nat) < 100 from by decide) hf
  have f10 : n_v vs 0 = n_v vs 2 := f10
  have q2 : n_v vs 2 = n_v vs 0 := f10.symm
  rw [q2] at f1
  rw [q2] at f2
  rw [q2] at f3
  rw [q2] at f4
  rw [q2] at f5
  rw [q2] at f6
  rw [q2] at f7
  rw [q2] at f8
  rw [q2] at f9
  have cr_0_1 : ta (w_ar ws (n_v vs 0) 1) = some 151 := tv_rg (th_fd hD hth r0 (g := GG_150) rfl (k := 1) (t := (2, 0, 0, [151])) rfl rfl)
  have g3 : v_iv (n_v vs 4) = w_fi ws (n_v vs 0) 11 := congrArg v_iv f3
  have hK_0_1 : ∀ j : Int, 0 ≤ j → j < 2000 → (-128) ≤ w_ei ws (w_ar ws (n_v vs 0) 1) j ∧ w_ei ws (w_ar ws (n_v vs 0) 1) j ≤ 127 := fun j h0 h1 => th_el hD hth cr_0_1 (kd := 1) (n := 2000) (m := 2000) (lo := (-128)) (hi := 127) (rs := []) (L := []) rfl (by decide) (j := j.toNat) (by omega)
  have kz_0_10 : 0 ≤ w_fi ws (n_v vs 0) 10 ∧ w_fi ws (n_v vs 0) 10 ≤ 2000 := tv_rng (th_fd hD hth r0 (g := GG_150) rfl (k := 10) (t := (0, 0, 2000, [])) rfl rfl)
  have kz_0_11 : 0 ≤ w_fi ws (n_v vs 0) 11 ∧ w_fi ws (n_v vs 0) 11 ≤ 2000 := tv_rng (th_fd hD hth r0 (g := GG_150) rfl (k := 11) (t := (0, 0, 2000, [])) rfl rfl)
  have kz_0_15 : 0 ≤ w_fi ws (n_v vs 0) 15 ∧ w_fi ws (n_v vs 0) 15 ≤ 2000 := tv_rng (th_fd hD hth r0 (g := GG_150) rfl (k := 15) (t := (0, 0, 2000, [])) rfl rfl)
  have nf0 : fc_1 (20, [2], [50, 2, 0, 15, 11, 0, 7, 4, 3, 2, 0, 15, 0, 1, 2, 0, 11]) ws (vs) := by
    refine ⟨fun n hn => ?_, ?_⟩
    · have hn : n ∈ [2] := hn
      rw [hl]
      simp only [List.mem_cons, List.not_mem_nil, or_false] at hn
      show n < 11; omega
    · show (w_fi ws (n_v vs 2) 15 + 1) ≤ w_fi ws (n_v vs 2) 11
      rw [q2]
      first | omega | grind
  refine ⟨(fun _ h => (by cases h)), [], trivial, ?_, (fun _ h => (by cases h))⟩
  rw [List.append_nil]
  exact List.forall_mem_cons.mpr ⟨⟨show (20 : Nat) < 100 from by decide, nf0⟩, (fun _ h => (by cases h))⟩
def o_Mo_next_33 : or_T := (147, 11, [(0, (2, 0, 0, [150])), (1, (0, 0, 2000, [])), (2, (2, 0, 0, [150])), (4, (0, 0, 1999, [])), (5, (0, 123, 255, [])), (7, (0, 0, 47, [])), (9, (0, 0, 255, [])), (10, (0, 95, 95, []))], [(7, [9, 10], [1]), (20, [4, 2, 9], [50, 1, 1, 1010, 1001, 4, 11, 0, 6, 4, 2, 1, 0, 0, 1, 2, 1, 10, 1, 2, 1, 2, 9, 5, 3, 1, 1, 1, 0, 0, 256]), (20, [2, 4, 9], [50, 1, 0, 10, 4, 7, 0, 3, 2, 0, 10, 1, 1, 1, 2, 1, 2, 0, -1]), (9, [4, 2], [11]), (20, [4, 2, 7], [50, 1, 1, 1010, 1001, 4, 11, 0, 6, 4, 2, 1, 0, 0, 1, 2, 1, 10, 1, 2, 1, 2, 9, 5, 3, 1, 1, 1, 0, 0, 256]), (20, [2, 4, 7], [50, 1, 0, 10, 4, 7, 0, 3, 2, 0, 10, 1, 1, 1, 2, 1, 2, 0, -1]), (20, [4, 2, 5], [50, 1, 1, 1010, 1001, 4, 11, 0, 6, 4, 2, 1, 0, 0, 1, 2, 1, 10, 1, 2, 1, 2, 9, 5, 3, 1, 1, 1, 0, 0, 256]), (20, [2, 4, 5], [50, 1, 0, 10, 4, 7, 0, 3, 2, 0, 10, 1, 1, 1, 2, 1, 2, 0, -1]), (20, [1, 2], [30, 0, 1, 0, 0, -1, 1, 15]), (20, [2], [50, 3, 1, 15, 11, 10, 1, 2, 8, 0, 3, 2, 0, 15, 2, 0, 11, 3, 12, 0, 7, 4, 3, 2, 0, 15, 0, 1, 2, 0, 11, 2, 8, 1, 3, 2, 0, 11, 2, 0, 15, 2, 12, 0, 7, 4, 3, 2, 0, 15, 0, 1, 2, 0, 10, 3, 30, 2, 14, 0, 2, 0, 65, 9, 6, 3, 0, 1, 2, 0, 15, 0, 256, 0, 10, 9, 6, 3, 0, 1, 2, 0, 15, 0, 256, 0, 90, 2, 14, 0, 2, 0, 97, 9, 6, 3, 0, 1, 2, 0, 15, 0, 256, 0, 10, 9, 6, 3, 0, 1, 2, 0, 15, 0, 256, 0, 122]), (24, [0, 2], [])], [], [], [(20, [2], [50, 2, 0, 15, 11, 0, 7, 4, 3, 2, 0, 15, 0, 1, 2, 0, 11])], [], [(1, 4, -4294967296, 2000), (4, 1, -4294967296, 2000)])
theorem oo_Mo_next_33 {kA : Nat → ClassId} : or_ok kA GG o_Mo_next_33 := by
  intro A ta ws vs hD hth hl hk hds hf
  have hl : vs.length = 11 := hl
  have hk : ∀ q ∈ ([(0, (2, 0, 0, [150])), (1, (0, 0, 2000, [])), (2, (2, 0, 0, [150])), (4, (0, 0, 1999, [])), (5, (0, 123, 255, [])), (7, (0, 0, 47, [])), (9, (0, 0, 255, [])), (10, (0, 95, 95, []))] : List (Nat × tv_T)), tv_ok ta q.2 (n_v vs q.1) := hk
  obtain ⟨t0, hk⟩ := List.forall_mem_cons.mp hk
  have t0 : tv_ok ta (2, 0, 0, [150]) (n_v vs 0) := t0
  have r0 : ta (v_ad (n_v vs 0)) = some 150 := tv_rg t0
  obtain ⟨t1, hk⟩ := List.forall_mem_cons.mp hk
  have t1 : tv_ok ta (0, 0, 2000, []) (n_v vs 1) := t1
  have k1 : 0 ≤ v_iv (n_v vs 1) ∧ v_iv (n_v vs 1) ≤ 2000 := tv_rng t1
  obtain ⟨t2, hk⟩ := List.forall_mem_cons.mp hk
  have t2 : tv_ok ta (2, 0, 0, [150]) (n_v vs 2) := t2
  have r2 : ta (v_ad (n_v vs 2)) = some 150 := tv_rg t2
  obtain ⟨t4, hk⟩ := List.forall_mem_cons.mp hk
  have t4 : tv_ok ta (0, 0, 1999, []) (n_v vs 4) := t4
  have k4 : 0 ≤ v_iv (n_v vs 4) ∧ v_iv (n_v vs 4) ≤ 1999 := tv_rng t4
  obtain ⟨t5, hk⟩ := List.forall_mem_cons.mp hk
  have t5 : tv_ok ta (0, 123, 255, []) (n_v vs 5) := t5
  have k5 : 123 ≤ v_iv (n_v vs 5) ∧ v_iv (n_v vs 5) ≤ 255 := tv_rng t5
  obtain ⟨t7, hk⟩ := List.forall_mem_cons.mp hk
  have t7 : tv_ok ta (0, 0, 47, []) (n_v vs 7) := t7
  have k7 : 0 ≤ v_iv (n_v vs 7) ∧ v_iv (n_v vs 7) ≤ 47 := tv_rng t7
  obtain ⟨t9, hk⟩ := List.forall_mem_cons.mp hk
  have t9 : tv_ok ta (0, 0, 255, []) (n_v vs 9) := t9
  have k9 : 0 ≤ v_iv (n_v vs 9) ∧ v_iv (n_v vs 9) ≤ 255 := tv_rng t9
  obtain ⟨t10, hk⟩ := List.forall_mem_cons.mp hk
  have t10 : tv_ok ta (0, 95, 95, []) (n_v vs 10) := t10
  have k10 : 95 ≤ v_iv (n_v vs 10) ∧ v_iv (n_v vs 10) ≤ 95 := tv_rng t10
  have hds : ∀ q ∈ ([(1, 4, -4294967296, 2000), (4, 1, -4294967296, 2000)] : List of_T), n_iv vs q.2.1 + q.2.2.1 ≤ n_iv vs q.1 ∧ n_iv vs q.1 ≤ n_iv vs q.2.1 + q.2.2.2 := hds
  obtain ⟨d0, hds⟩ := List.forall_mem_cons.mp hds
  have d0 : v_iv (n_v vs 4) + (-4294967296) ≤ v_iv (n_v vs 1) ∧ v_iv (n_v vs 1) ≤ v_iv (n_v vs 4) + 2000 := d0
  obtain ⟨d1, hds⟩ := List.forall_mem_cons.mp hds
  have d1 : v_iv (n_v vs 1) + (-4294967296) ≤ v_iv (n_v vs 4) ∧ v_iv (n_v vs 4) ≤ v_iv (n_v vs 1) + 2000 := d1
  have hf : fc_ok [(7, [9, 10], [1]), (20, [4, 2, 9], [50, 1, 1, 1010, 1001, 4, 11, 0, 6, 4, 2, 1, 0, 0, 1, 2, 1, 10, 1, 2, 1, 2, 9, 5, 3, 1, 1, 1, 0, 0, 256]), (20, [2, 4, 9], [50, 1, 0, 10, 4, 7, 0, 3, 2, 0, 10, 1, 1, 1, 2, 1, 2, 0, -1]), (9, [4, 2], [11]), (20, [4, 2, 7], [50, 1, 1, 1010, 1001, 4, 11, 0, 6, 4, 2, 1, 0, 0, 1, 2, 1, 10, 1, 2, 1, 2, 9, 5, 3, 1, 1, 1, 0, 0, 256]), (20, [2, 4, 7], [50, 1, 0, 10, 4, 7, 0, 3, 2, 0, 10, 1, 1, 1, 2, 1, 2, 0, -1]), (20, [4, 2, 5], [50, 1, 1, 1010, 1001, 4, 11, 0, 6, 4, 2, 1, 0, 0, 1, 2, 1, 10, 1, 2, 1, 2, 9, 5, 3, 1, 1, 1, 0, 0, 256]), (20, [2, 4, 5], [50, 1, 0, 10, 4, 7, 0, 3, 2, 0, 10, 1, 1, 1, 2, 1, 2, 0, -1]), (20, [1, 2], [30, 0, 1, 0, 0, -1, 1, 15]), (20, [2], [50, 3, 1, 15, 11, 10, 1, 2, 8, 0, 3, 2, 0, 15, 2, 0, 11, 3, 12, 0, 7, 4, 3, 2, 0, 15, 0, 1, 2, 0, 11, 2, 8, 1, 3, 2, 0, 11, 2, 0, 15, 2, 12, 0, 7, 4, 3, 2, 0, 15, 0, 1, 2, 0, 10, 3, 30, 2, 14, 0, 2, 0, 65, 9, 6, 3, 0, 1, 2, 0, 15, 0, 256, 0, 10, 9, 6, 3, 0, 1, 2, 0, 15, 0, 256, 0, 90, 2, 14, 0, 2, 0, 97, 9, 6, 3, 0, 1, 2, 0, 15, 0, 256, 0, 10, 9, 6, 3, 0, 1, 2, 0, 15, 0, 256, 0, 122]), (24, [0, 2], [])] ta ws vs := hf
  obtain ⟨f0, hf⟩ := fc_un (show (7 : Nat) < 100 from by decide) hf
  have f0 : v_iv (n_v vs 9) ≠ v_iv (n_v vs 10) := f0
  obtain ⟨f1, hf⟩ := fc_un (show (20 : Nat) < 100 from by decide) hf
  have f1 : ((v_iv (n_v vs 4) + 1) ≤ w_fi ws (n_v vs 2) 10) → (v_iv (n_v vs 9) = (w_ei ws (w_ar ws (n_v vs 2) 1) (v_iv (n_v vs 4)) % 256)) := f1
  obtain ⟨f2, hf⟩ := fc_un (show (20 : Nat) < 100 from by decide) hf
  have f2 : (w_fi ws (n_v vs 2) 10 ≤ v_iv (n_v vs 4)) → (v_iv (n_v vs 9) = (-1)) := f2
  obtain ⟨f3, hf⟩ := fc_un (show (9 : Nat) < 100 from by decide) hf
  have f3 : n_v vs 4 = w_fd ws (v_ad (n_v vs 2)) 11 := f3
  obtain ⟨f4, hf⟩ := fc_un (show (20 : Nat) < 100 from by decide) hf
  have f4 : ((v_iv (n_v vs 4) + 1) ≤ w_fi ws (n_v vs 2) 10) → (v_iv (n_v vs 7) = (w_ei ws (w_ar ws (n_v vs 2) 1) (v_iv (n_v vs 4)) % 256)) := f4
  obtain ⟨f5, hf⟩ := fc_un (show (20 : Nat) < 100 from by decide) hf
  have f5 : (w_fi ws (n_v vs 2) 10 ≤ v_iv (n_v vs 4)) → (v_iv (n_v vs 7) = (-1)) := f5
  obtain ⟨f6, hf⟩ := fc_un (show (20 : Nat) < 100 from by decide) hf
  have f6 : ((v_iv (n_v vs 4) + 1) ≤ w_fi ws (n_v vs 2) 10) → (v_iv (n_v vs 5) = (w_ei ws (w_ar ws (n_v vs 2) 1) (v_iv (n_v vs 4)) % 256)) := f6
  obtain ⟨f7, hf⟩ := fc_un (show (20 : Nat) < 100 from by decide) hf
  have f7 : (w_fi ws (n_v vs 2) 10 ≤ v_iv (n_v vs 4)) → (v_iv (n_v vs 5) = (-1)) := f7
  obtain ⟨f8, hf⟩ := fc_un (show (20 : Nat) < 100 from by decide) hf
  have f8 : 1 * v_iv (n_v vs 1) + ((-1) * w_fi ws (n_v vs 2) 15 + 0) ≤ 0 := f8
  obtain ⟨f9, hf⟩ := fc_un (show (20 : Nat) < 100 from by decide) hf
  have f9 : (w_fi ws (n_v vs 2) 15 ≤ w_fi ws (n_v vs 2) 11) ∧ (((w_fi ws (n_v vs 2) 15 + 1) ≤ w_fi ws (n_v vs 2) 11) ∨ ((w_fi ws (n_v vs 2) 11 = w_fi ws (n_v vs 2) 15) ∧ (((w_fi ws (n_v vs 2) 15 + 1) ≤ w_fi ws (n_v vs 2) 10) ∧ (((65 ≤ (w_ei ws (w_ar ws (n_v vs 2) 1) (w_fi ws (n_v vs 2) 15) % 256)) ∧ ((w_ei ws (w_ar ws (n_v vs 2) 1) (w_fi ws (n_v vs 2) 15) % 256) ≤ 90)) ∨ ((97 ≤ (w_ei ws (w_ar ws (n_v vs 2) 1) (w_fi ws (n_v vs 2) 15) % 256)) ∧ ((w_ei ws (w_ar ws (n_v vs 2) 1) (w_fi ws (n_v vs 2) 15) % 256) ≤ 122)))))) := f9
  obtain ⟨f10, hf⟩ := fc_un (show (24 : Nat) < 100 from by decide) hf
  have f10 : n_v vs 0 = n_v vs 2 := f10
  have q2 : n_v vs 2 = n_v vs 0 := f10.symm
  rw [q2] at f1
  rw [q2] at f2
  rw [q2] at f3
  rw [q2] at f4
  rw [q2] at f5
  rw [q2] at f6
  rw [q2] at f7
  rw [q2] at f8
  rw [q2] at f9
  have cr_0_1 : ta (w_ar ws (n_v vs 0) 1) = some 151 := tv_rg (th_fd hD hth r0 (g := GG_150) rfl (k := 1) (t := (2, 0, 0, [151])) rfl rfl)
  have g3 : v_iv (n_v vs 4) = w_fi ws (n_v vs 0) 11 := congrArg v_iv f3
  have hK_0_1 : ∀ j : Int, 0 ≤ j → j < 2000 → (-128) ≤ w_ei ws (w_ar ws (n_v vs 0) 1) j ∧ w_ei ws (w_ar ws (n_v vs 0) 1) j ≤ 127 := fun j h0 h1 => th_el hD hth cr_0_1 (kd := 1) (n := 2000) (m := 2000) (lo := (-128)) (hi := 127) (rs := []) (L := []) rfl (by decide) (j := j.toNat) (by omega)
  have kz_0_10 : 0 ≤ w_fi ws (n_v vs 0) 10 ∧ w_fi ws (n_v vs 0) 10 ≤ 2000 := tv_rng (th_fd hD hth r0 (g := GG_150) rfl (k := 10) (t := (0, 0, 2000, [])) rfl rfl)
  have kz_0_11 : 0 ≤ w_fi ws (n_v vs 0) 11 ∧ w_fi ws (n_v vs 0) 11 ≤ 2000 := tv_rng (th_fd hD hth r0 (g := GG_150) rfl (k := 11) (t := (0, 0, 2000, [])) rfl rfl)
  have kz_0_15 : 0 ≤ w_fi ws (n_v vs 0) 15 ∧ w_fi ws (n_v vs 0) 15 ≤ 2000 := tv_rng (th_fd hD hth r0 (g := GG_150) rfl (k := 15) (t := (0, 0, 2000, [])) rfl rfl)
  have nf0 : fc_1 (20, [2], [50, 2, 0, 15, 11, 0, 7, 4, 3, 2, 0, 15, 0, 1, 2, 0, 11]) ws (vs) := by
    refine ⟨fun n hn => ?_, ?_⟩
    · have hn : n ∈ [2] := hn
      rw [hl]
      simp only [List.mem_cons, List.not_mem_nil, or_false] at hn
      show n < 11; omega
    · show (w_fi ws (n_v vs 2) 15 + 1) ≤ w_fi ws (n_v vs 2) 11
      rw [q2]
      first | omega | grind
  refine ⟨(fun _ h => (by cases h)), [], trivial, ?_, (fun _ h => (by cases h))⟩
  rw [List.append_nil]
  exact List.forall_mem_cons.mpr ⟨⟨show (20 : Nat) < 100 from by decide, nf0⟩, (fun _ h => (by cases h))⟩
def o_Mo_next_34 : or_T := (147, 11, [(0, (2, 0, 0, [150])), (1, (0, 0, 2000, [])), (2, (2, 0, 0, [150])), (4, (0, 0, 1999, [])), (5, (0, 123, 255, [])), (7, (0, 58, 255, [])), (9, (0, -1, -1, [])), (10, (0, 95, 95, []))], [(7, [9, 10], [1]), (20, [4, 2, 9], [50, 1, 1, 1010, 1001, 4, 11, 0, 6, 4, 2, 1, 0, 0, 1, 2, 1, 10, 1, 2, 1, 2, 9, 5, 3, 1, 1, 1, 0, 0, 256]), (20, [2, 4, 9], [50, 1, 0, 10, 4, 7, 0, 3, 2, 0, 10, 1, 1, 1, 2, 1, 2, 0, -1]), (9, [4, 2], [11]), (20, [4, 2, 7], [50, 1, 1, 1010, 1001, 4, 11, 0, 6, 4, 2, 1, 0, 0, 1, 2, 1, 10, 1, 2, 1, 2, 9, 5, 3, 1, 1, 1, 0, 0, 256]), (20, [2, 4, 7], [50, 1, 0, 10, 4, 7, 0, 3, 2, 0, 10, 1, 1, 1, 2, 1, 2, 0, -1]), (20, [4, 2, 5], [50, 1, 1, 1010, 1001, 4, 11, 0, 6, 4, 2, 1, 0, 0, 1, 2, 1, 10, 1, 2, 1, 2, 9, 5, 3, 1, 1, 1, 0, 0, 256]), (20, [2, 4, 5], [50, 1, 0, 10, 4, 7, 0, 3, 2, 0, 10, 1, 1, 1, 2, 1, 2, 0, -1]), (20, [1, 2], [30, 0, 1, 0, 0, -1, 1, 15]), (20, [2], [50, 3, 1, 15, 11, 10, 1, 2, 8, 0, 3, 2, 0, 15, 2, 0, 11, 3, 12, 0, 7, 4, 3, 2, 0, 15, 0, 1, 2, 0, 11, 2, 8, 1, 3, 2, 0, 11, 2, 0, 15, 2, 12, 0, 7, 4, 3, 2, 0, 15, 0, 1, 2, 0, 10, 3, 30, 2, 14, 0, 2, 0, 65, 9, 6, 3, 0, 1, 2, 0, 15, 0, 256, 0, 10, 9, 6, 3, 0, 1, 2, 0, 15, 0, 256, 0, 90, 2, 14, 0, 2, 0, 97, 9, 6, 3, 0, 1, 2, 0, 15, 0, 256, 0, 10, 9, 6, 3, 0, 1, 2, 0, 15, 0, 256, 0, 122]), (24, [0, 2], [])], [], [], [(20, [2], [50, 2, 0, 15, 11, 0, 7, 4, 3, 2, 0, 15, 0, 1, 2, 0, 11])], [], [(1, 4, -4294967296, 2000), (4, 1, -4294967296, 2000)])
theorem oo_Mo_next_34 {kA : Nat → ClassId} : or_ok kA GG o_Mo_next_34 := by
  intro A ta ws vs hD hth hl hk hds hf
  have hl : vs.length = 11 := hl
  have hk : ∀ q ∈ ([(0, (2, 0, 0, [150])), (1, (0, 0, 2000, [])), (2, (2, 0, 0, [150])), (4, (0, 0, 1999, [])), (5, (0, 123, 255, [])), (7, (0, 58, 255, [])), (9, (0, -1, -1, [])), (10, (0, 95, 95, []))] : List (Nat × tv_T)), tv_ok ta q.2 (n_v vs q.1) := hk
  obtain ⟨t0, hk⟩ := List.forall_mem_cons.mp hk
  have t0 : tv_ok ta (2, 0, 0, [150]) (n_v vs 0) := t0
  have r0 : ta (v_ad (n_v vs 0)) = some 150 := tv_rg t0
  obtain ⟨t1, hk⟩ := List.forall_mem_cons.mp hk
  have t1 : tv_ok ta (0, 0, 2000, []) (n_v vs 1) := t1
  have k1 : 0 ≤ v_iv (n_v vs 1) ∧ v_iv (n_v vs 1) ≤ 2000 := tv_rng t1
  obtain ⟨t2, hk⟩ := List.forall_mem_cons.mp hk
  have t2 : tv_ok ta (2, 0, 0, [150]) (n_v vs 2) := t2
  have r2 : ta (v_ad (n_v vs 2)) = some 150 := tv_rg t2
  obtain ⟨t4, hk⟩ := List.forall_mem_cons.mp hk
  have t4 : tv_ok ta (0, 0, 1999, []) (n_v vs 4) := t4
  have k4 : 0 ≤ v_iv (n_v vs 4) ∧ v_iv (n_v vs 4) ≤ 1999 := tv_rng t4
  obtain ⟨t5, hk⟩ := List.forall_mem_cons.mp hk
  have t5 : tv_ok ta (0, 123, 255, []) (n_v vs 5) := t5
  have k5 : 123 ≤ v_iv (n_v vs 5) ∧ v_iv (n_v vs 5) ≤ 255 := tv_rng t5
  obtain ⟨t7, hk⟩ := List.forall_mem_cons.mp hk
  have t7 : tv_ok ta (0, 58, 255, []) (n_v vs 7) := t7
  have k7 : 58 ≤ v_iv (n_v vs 7) ∧ v_iv (n_v vs 7) ≤ 255 := tv_rng t7
  obtain ⟨t9, hk⟩ := List.forall_mem_cons.mp hk
  have t9 : tv_ok ta (0, -1, -1, []) (n_v vs 9) := t9
  have k9 : (-1) ≤ v_iv (n_v vs 9) ∧ v_iv (n_v vs 9) ≤ (-1) := tv_rng t9
  obtain ⟨t10, hk⟩ := List.forall_mem_cons.mp hk
  have t10 : tv_ok ta (0, 95, 95, []) (n_v vs 10) := t10
  have k10 : 95 ≤ v_iv (n_v vs 10) ∧ v_iv (n_v vs 10) ≤ 95 := tv_rng t10
  have hds : ∀ q ∈ ([(1, 4, -4294967296, 2000), (4, 1, -4294967296, 2000)] : List of_T), n_iv vs q.2.1 + q.2.2.1 ≤ n_iv vs q.1 ∧ n_iv vs q.1 ≤ n_iv vs q.2.1 + q.2.2.2 := hds
  obtain ⟨d0, hds⟩ := List.forall_mem_cons.mp hds
  have d0 : v_iv (n_v vs 4) + (-4294967296) ≤ v_iv (n_v vs 1) ∧ v_iv (n_v vs 1) ≤ v_iv (n_v vs 4) + 2000 := d0
  obtain ⟨d1, hds⟩ := List.forall_mem_cons.mp hds
  have d1 : v_iv (n_v vs 1) + (-4294967296) ≤ v_iv (n_v vs 4) ∧ v_iv (n_v vs 4) ≤ v_iv (n_v vs 1) + 2000 := d1
  have hf : fc_ok [(7, [9, 10], [1]), (20, [4, 2, 9], [50, 1, 1, 1010, 1001, 4, 11, 0, 6, 4, 2, 1, 0, 0, 1, 2, 1, 10, 1, 2, 1, 2, 9, 5, 3, 1, 1, 1, 0, 0, 256]), (20, [2, 4, 9], [50, 1, 0, 10, 4, 7, 0, 3, 2, 0, 10, 1, 1, 1, 2, 1, 2, 0, -1]), (9, [4, 2], [11]), (20, [4, 2, 7], [50, 1, 1, 1010, 1001, 4, 11, 0, 6, 4, 2, 1, 0, 0, 1, 2, 1, 10, 1, 2, 1, 2, 9, 5, 3, 1, 1, 1, 0, 0, 256]), (20, [2, 4, 7], [50, 1, 0, 10, 4, 7, 0, 3, 2, 0, 10, 1, 1, 1, 2, 1, 2, 0, -1]), (20, [4, 2, 5], [50, 1, 1, 1010, 1001, 4, 11, 0, 6, 4, 2, 1, 0, 0, 1, 2, 1, 10, 1, 2, 1, 2, 9, 5, 3, 1, 1, 1, 0, 0, 256]), (20, [2, 4, 5], [50, 1, 0, 10, 4, 7, 0, 3, 2, 0, 10, 1, 1, 1, 2, 1, 2, 0, -1]), (20, [1, 2], [30, 0, 1, 0, 0, -1, 1, 15]), (20, [2], [50, 3, 1, 15, 11, 10, 1, 2, 8, 0, 3, 2, 0, 15, 2, 0, 11, 3, 12, 0, 7, 4, 3, 2, 0, 15, 0, 1, 2, 0, 11, 2, 8, 1, 3, 2, 0, 11, 2, 0, 15, 2, 12, 0, 7, 4, 3, 2, 0, 15, 0, 1, 2, 0, 10, 3, 30, 2, 14, 0, 2, 0, 65, 9, 6, 3, 0, 1, 2, 0, 15, 0, 256, 0, 10, 9, 6, 3, 0, 1, 2, 0, 15, 0, 256, 0, 90, 2, 14, 0, 2, 0, 97, 9, 6, 3, 0, 1, 2, 0, 15, 0, 256, 0, 10, 9, 6, 3, 0, 1, 2, 0, 15, 0, 256, 0, 122]), (24, [0, 2], [])] ta ws vs := hf
  obtain ⟨f0, hf⟩ := fc_un (show (7 : Nat) < 100 from by decide) hf
  have f0 : v_iv (n_v vs 9) ≠ v_iv (n_v vs 10) := f0
  obtain ⟨f1, hf⟩ := fc_un (show (20 : Nat) < 100 from by decide) hf
  have f1 : ((v_iv (n_v vs 4) + 1) ≤ w_fi ws (n_v vs 2) 10) → (v_iv (n_v vs 9) = (w_ei ws (w_ar ws (n_v vs 2) 1) (v_iv (n_v vs 4)) % 256)) := f1
  obtain ⟨f2, hf⟩ := fc_un (show (20 : Nat) < 100 from by decide) hf
  have f2 : (w_fi ws (n_v vs 2) 10 ≤ v_iv (n_v vs 4)) → (v_iv (n_v vs 9) = (-1)) := f2
  obtain ⟨f3, hf⟩ := fc_un (show (9 : Nat) < 100 from by decide) hf
  have f3 : n_v vs 4 = w_fd ws (v_ad (n_v vs 2)) 11 := f3
  obtain ⟨f4, hf⟩ := fc_un (show (20 : Nat) < 100 from by decide) hf
  have f4 : ((v_iv (n_v vs 4) + 1) ≤ w_fi ws (n_v vs 2) 10) → (v_iv (n_v vs 7) = (w_ei ws (w_ar ws (n_v vs 2) 1) (v_iv (n_v vs 4)) % 256)) := f4
  obtain ⟨f5, hf⟩ := fc_un (show (20 : Nat) < 100 from by decide) hf
  have f5 : (w_fi ws (n_v vs 2) 10 ≤ v_iv (n_v vs 4)) → (v_iv (n_v vs 7) = (-1)) := f5
  obtain ⟨f6, hf⟩ := fc_un (show (20 : Nat) < 100 from by decide) hf
  have f6 : ((v_iv (n_v vs 4) + 1) ≤ w_fi ws (n_v vs 2) 10) → (v_iv (n_v vs 5) = (w_ei ws (w_ar ws (n_v vs 2) 1) (v_iv (n_v vs 4)) % 256)) := f6
  obtain ⟨f7, hf⟩ := fc_un (show (20 : Nat) < 100 from by decide) hf
  have f7 : (w_fi ws (n_v vs 2) 10 ≤ v_iv (n_v vs 4)) → (v_iv (n_v vs 5) = (-1)) := f7
  obtain ⟨f8, hf⟩ := fc_un (show (20 : Nat) < 100 from by decide) hf
  have f8 : 1 * v_iv (n_v vs 1) + ((-1) * w_fi ws (n_v vs 2) 15 + 0) ≤ 0 := f8
  obtain ⟨f9, hf⟩ := fc_un (show (20 : Nat) < 100 from by decide) hf
  have f9 : (w_fi ws (n_v vs 2) 15 ≤ w_fi ws (n_v vs 2) 11) ∧ (((w_fi ws (n_v vs 2) 15 + 1) ≤ w_fi ws (n_v vs 2) 11) ∨ ((w_fi ws (n_v vs 2) 11 = w_fi ws (n_v vs 2) 15) ∧ (((w_fi ws (n_v vs 2) 15 + 1) ≤ w_fi ws (n_v vs 2) 10) ∧ (((65 ≤ (w_ei ws (w_ar ws (n_v vs 2) 1) (w_fi ws (n_v vs 2) 15) % 256)) ∧ ((w_ei ws (w_ar ws (n_v vs 2) 1) (w_fi ws (n_v vs 2) 15) % 256) ≤ 90)) ∨ ((97 ≤ (w_ei ws (w_ar ws (n_v vs 2) 1) (w_fi ws (n_v vs 2) 15) % 256)) ∧ ((w_ei ws (w_ar ws (n_v vs 2) 1) (w_fi ws (n_v vs 2) 15) % 256) ≤ 122)))))) := f9
  obtain ⟨f10, hf⟩ := fc_un (show (24 : Nat) < 100 from by decide) hf
  have f10 : n_v vs 0 = n_v vs 2 := f10
  have q2 : n_v vs 2 = n_v vs 0 := f10.symm
  rw [q2] at f1
  rw [q2] at f2
  rw [q2] at f3
  rw [q2] at f4
  rw [q2] at f5
  rw [q2] at f6
  rw [q2] at f7
  rw [q2] at f8
  rw [q2] at f9
  have cr_0_1 : ta (w_ar ws (n_v vs 0) 1) = some 151 := tv_rg (th_fd hD hth r0 (g := GG_150) rfl (k := 1) (t := (2, 0, 0, [151])) rfl rfl)
  have g3 : v_iv (n_v vs 4) = w_fi ws (n_v vs 0) 11 := congrArg v_iv f3
  have hK_0_1 : ∀ j : Int, 0 ≤ j → j < 2000 → (-128) ≤ w_ei ws (w_ar ws (n_v vs 0) 1) j ∧ w_ei ws (w_ar ws (n_v vs 0) 1) j ≤ 127 := fun j h0 h1 => th_el hD hth cr_0_1 (kd := 1) (n := 2000) (m := 2000) (lo := (-128)) (hi := 127) (rs := []) (L := []) rfl (by decide) (j := j.toNat) (by omega)
  have kz_0_10 : 0 ≤ w_fi ws (n_v vs 0) 10 ∧ w_fi ws (n_v vs 0) 10 ≤ 2000 := tv_rng (th_fd hD hth r0 (g := GG_150) rfl (k := 10) (t := (0, 0, 2000, [])) rfl rfl)
  have kz_0_11 : 0 ≤ w_fi ws (n_v vs 0) 11 ∧ w_fi ws (n_v vs 0) 11 ≤ 2000 := tv_rng (th_fd hD hth r0 (g := GG_150) rfl (k := 11) (t := (0, 0, 2000, [])) rfl rfl)
  have kz_0_15 : 0 ≤ w_fi ws (n_v vs 0) 15 ∧ w_fi ws (n_v vs 0) 15 ≤ 2000 := tv_rng (th_fd hD hth r0 (g := GG_150) rfl (k := 15) (t := (0, 0, 2000, [])) rfl rfl)
  have nf0 : fc_1 (20, [2], [50, 2, 0, 15, 11, 0, 7, 4, 3, 2, 0, 15, 0, 1, 2, 0, 11]) ws (vs) := by
    refine ⟨fun n hn => ?_, ?_⟩
    · have hn : n ∈ [2] := hn
      rw [hl]
      simp only [List.mem_cons, List.not_mem_nil, or_false] at hn
      show n < 11; omega
    · show (w_fi ws (n_v vs 2) 15 + 1) ≤ w_fi ws (n_v vs 2) 11
      rw [q2]
      first | omega | grind
  refine ⟨(fun _ h => (by cases h)), [], trivial, ?_, (fun _ h => (by cases h))⟩
  rw [List.append_nil]
  exact List.forall_mem_cons.mpr ⟨⟨show (20 : Nat) < 100 from by decide, nf0⟩, (fun _ h => (by cases h))⟩
def o_Mo_next_35 : or_T := (147, 11, [(0, (2, 0, 0, [150])), (1, (0, 0, 2000, [])), (2, (2, 0, 0, [150])), (4, (0, 0, 1999, [])), (5, (0, 123, 255, [])), (7, (0, 58, 255, [])), (9, (0, 0, 255, [])), (10, (0, 95, 95, []))], [(7, [9, 10], [1]), (20, [4, 2, 9], [50, 1, 1, 1010, 1001, 4, 11, 0, 6, 4, 2, 1, 0, 0, 1, 2, 1, 10, 1, 2, 1, 2, 9, 5, 3, 1, 1, 1, 0, 0, 256]), (20, [2, 4, 9], [50, 1, 0, 10, 4, 7, 0, 3, 2, 0, 10, 1, 1, 1, 2, 1, 2, 0, -1]), (9, [4, 2], [11]), (20, [4, 2, 7], [50, 1, 1, 1010, 1001, 4, 11, 0, 6, 4, 2, 1, 0, 0, 1, 2, 1, 10, 1, 2, 1, 2, 9, 5, 3, 1, 1, 1, 0, 0, 256]), (20, [2, 4, 7], [50, 1, 0, 10, 4, 7, 0, 3, 2, 0, 10, 1, 1, 1, 2, 1, 2, 0, -1]), (20, [4, 2, 5], [50, 1, 1, 1010, 1001, 4, 11, 0, 6, 4, 2, 1, 0, 0, 1, 2, 1, 10, 1, 2, 1, 2, 9, 5, 3, 1, 1, 1, 0, 0, 256]), (20, [2, 4, 5], [50, 1, 0, 10, 4, 7, 0, 3, 2, 0, 10, 1, 1, 1, 2, 1, 2, 0, -1]), (20, [1, 2], [30, 0, 1, 0, 0, -1, 1, 15]), (20, [2], [50, 3, 1, 15, 11, 10, 1, 2, 8, 0, 3, 2, 0, 15, 2, 0, 11, 3, 12, 0, 7, 4, 3, 2, 0, 15, 0, 1, 2, 0, 11, 2, 8, 1, 3, 2, 0, 11, 2, 0, 15, 2, 12, 0, 7, 4, 3, 2, 0, 15, 0, 1, 2, 0, 10, 3, 30, 2, 14, 0, 2, 0, 65, 9, 6, 3, 0, 1, 2, 0, 15, 0, 256, 0, 10, 9, 6, 3, 0, 1, 2, 0, 15, 0, 256, 0, 90, 2, 14, 0, 2, 0, 97, 9, 6, 3, 0, 1, 2, 0, 15, 0, 256, 0, 10, 9, 6, 3, 0, 1, 2, 0, 15, 0, 256, 0, 122]), (24, [0, 2], [])], [], [], [(20, [2], [50, 2, 0, 15, 11, 0, 7, 4, 3, 2, 0, 15, 0, 1, 2, 0, 11])], [], [(1, 4, -4294967296, 2000), (4, 1, -4294967296, 2000)])
theorem oo_Mo_next_35 {kA : Nat → ClassId} : or_ok kA GG o_Mo_next_35 := by
  intro A ta ws vs hD hth hl hk hds hf
  have hl : vs.length = 11 := hl
  have hk : ∀ q ∈ ([(0, (2, 0, 0, [150])), (1, (0, 0, 2000, [])), (2, (2, 0, 0, [150])), (4, (0, 0, 1999, [])), (5, (0, 123, 255, [])), (7, (0, 58, 255, [])), (9, (0, 0, 255, [])), (10, (0, 95, 95, []))] : List (Nat × tv_T)), tv_ok ta q.2 (n_v vs q.1) := hk
  obtain ⟨t0, hk⟩ := List.forall_mem_cons.mp hk
  have t0 : tv_ok ta (2, 0, 0, [150]) (n_v vs 0) := t0
  have r0 : ta (v_ad (n_v vs 0)) = some 150 := tv_rg t0
  obtain ⟨t1, hk⟩ := List.forall_mem_cons.mp hk
  have t1 : tv_ok ta (0, 0, 2000, []) (n_v vs 1) := t1
  have k1 : 0 ≤ v_iv (n_v vs 1) ∧ v_iv (n_v vs 1) ≤ 2000 := tv_rng t1
  obtain ⟨t2, hk⟩ := List.forall_mem_cons.mp hk
  have t2 : tv_ok ta (2, 0, 0, [150]) (n_v vs 2) := t2
  have r2 : ta (v_ad (n_v vs 2)) = some 150 := tv_rg t2
  obtain ⟨t4, hk⟩ := List.forall_mem_cons.mp hk
  have t4 : tv_ok ta (0, 0, 1999, []) (n_v vs 4) := t4
  have k4 : 0 ≤ v_iv (n_v vs 4) ∧ v_iv (n_v vs 4) ≤ 1999 := tv_rng t4
  obtain ⟨t5, hk⟩ := List.forall_mem_cons.mp hk
  have t5 : tv_ok ta (0, 123, 255, []) (n_v vs 5) := t5
  have k5 : 123 ≤ v_iv (n_v vs 5) ∧ v_iv (n_v vs 5) ≤ 255 := tv_rng t5
  obtain ⟨t7, hk⟩ := List.forall_mem_cons.mp hk
  have t7 : tv_ok ta (0, 58, 255, []) (n_v vs 7) := t7
  have k7 : 58 ≤ v_iv (n_v vs 7) ∧ v_iv (n_v vs 7) ≤ 255 := tv_rng t7
  obtain ⟨t9, hk⟩ := List.forall_mem_cons.mp hk
  have t9 : tv_ok ta (0, 0, 255, []) (n_v vs 9) := t9
  have k9 : 0 ≤ v_iv (n_v vs 9) ∧ v_iv (n_v vs 9) ≤ 255 := tv_rng t9
  obtain ⟨t10, hk⟩ := List.forall_mem_cons.mp hk
  have t10 : tv_ok ta (0, 95, 95, []) (n_v vs 10) := t10
  have k10 : 95 ≤ v_iv (n_v vs 10) ∧ v_iv (n_v vs 10) ≤ 95 := tv_rng t10
  have hds : ∀ q ∈ ([(1, 4, -4294967296, 2000), (4, 1, -4294967296, 2000)] : List of_T), n_iv vs q.2.1 + q.2.2.1 ≤ n_iv vs q.1 ∧ n_iv vs q.1 ≤ n_iv vs q.2.1 + q.2.2.2 := hds
  obtain ⟨d0, hds⟩ := List.forall_mem_cons.mp hds
  have d0 : v_iv (n_v vs 4) + (-4294967296) ≤ v_iv (n_v vs 1) ∧ v_iv (n_v vs 1) ≤ v_iv (n_v vs 4) + 2000 := d0
  obtain ⟨d1, hds⟩ := List.forall_mem_cons.mp hds
  have d1 : v_iv (n_v vs 1) + (-4294967296) ≤ v_iv (n_v vs 4) ∧ v_iv (n_v vs 4) ≤ v_iv (n_v vs 1) + 2000 := d1
  have hf : fc_ok [(7, [9, 10], [1]), (20, [4, 2, 9], [50, 1, 1, 1010, 1001, 4, 11, 0, 6, 4, 2, 1, 0, 0, 1, 2, 1, 10, 1, 2, 1, 2, 9, 5, 3, 1, 1, 1, 0, 0, 256]), (20, [2, 4, 9], [50, 1, 0, 10, 4, 7, 0, 3, 2, 0, 10, 1, 1, 1, 2, 1, 2, 0, -1]), (9, [4, 2], [11]), (20, [4, 2, 7], [50, 1, 1, 1010, 1001, 4, 11, 0, 6, 4, 2, 1, 0, 0, 1, 2, 1, 10, 1, 2, 1, 2, 9, 5, 3, 1, 1, 1, 0, 0, 256]), (20, [2, 4, 7], [50, 1, 0, 10, 4, 7, 0, 3, 2, 0, 10, 1, 1, 1, 2, 1, 2, 0, -1]), (20, [4, 2, 5], [50, 1, 1, 1010, 1001, 4, 11, 0, 6, 4, 2, 1, 0, 0, 1, 2, 1, 10, 1, 2, 1, 2, 9, 5, 3, 1, 1, 1, 0, 0, 256]), (20, [2, 4, 5], [50, 1, 0, 10, 4, 7, 0, 3, 2, 0, 10, 1, 1, 1, 2, 1, 2, 0, -1]), (20, [1, 2], [30, 0, 1, 0, 0, -1, 1, 15]), (20, [2], [50, 3, 1, 15, 11, 10, 1, 2, 8, 0, 3, 2, 0, 15, 2, 0, 11, 3, 12, 0, 7, 4, 3, 2, 0, 15, 0, 1, 2, 0, 11, 2, 8, 1, 3, 2, 0, 11, 2, 0, 15, 2, 12, 0, 7, 4, 3, 2, 0, 15, 0, 1, 2, 0, 10, 3, 30, 2, 14, 0, 2, 0, 65, 9, 6, 3, 0, 1, 2, 0, 15, 0, 256, 0, 10, 9, 6, 3, 0, 1, 2, 0, 15, 0, 256, 0, 90, 2, 14, 0, 2, 0, 97, 9, 6, 3, 0, 1, 2, 0, 15, 0, 256, 0, 10, 9, 6, 3, 0, 1, 2, 0, 15, 0, 256, 0, 122]), (24, [0, 2], [])] ta ws vs := hf
  obtain ⟨f0, hf⟩ := fc_un (show (7 : Nat) < 100 from by decide) hf
  have f0 : v_iv (n_v vs 9) ≠ v_iv (n_v vs 10) := f0
  obtain ⟨f1, hf⟩ := fc_un (show (20 : Nat) < 100 from by decide) hf
  have f1 : ((v_iv (n_v vs 4) + 1) ≤ w_fi ws (n_v vs 2) 10) → (v_iv (n_v vs 9) = (w_ei ws (w_ar ws (n_v vs 2) 1) (v_iv (n_v vs 4)) % 256)) := f1
  obtain ⟨f2, hf⟩ := fc_un (show (20 : Nat) < 100 from by decide) hf
  have f2 : (w_fi ws (n_v vs 2) 10 ≤ v_iv (n_v vs 4)) → (v_iv (n_v vs 9) = (-1)) := f2
  obtain ⟨f3, hf⟩ := fc_un (show (9 : Nat) < 100 from by decide) hf
  have f3 : n_v vs 4 = w_fd ws (v_ad (n_v vs 2)) 11 := f3
  obtain ⟨f4, hf⟩ := fc_un (show (20 : Nat) < 100 from by decide) hf
  have f4 : ((v_iv (n_v vs 4) + 1) ≤ w_fi ws (n_v vs 2) 10) → (v_iv (n_v vs 7) = (w_ei ws (w_ar ws (n_v vs 2) 1) (v_iv (n_v vs 4)) % 256)) := f4
  obtain ⟨f5, hf⟩ := fc_un (show (20 : Nat) < 100 from by decide) hf
  have f5 : (w_fi ws (n_v vs 2) 10 ≤ v_iv (n_v vs 4)) → (v_iv (n_v vs 7) = (-1)) := f5
  obtain ⟨f6, hf⟩ := fc_un (show (20 : Nat) < 100 from by decide) hf
  have f6 : ((v_iv (n_v vs 4) + 1) ≤ w_fi ws (n_v vs 2) 10) → (v_iv (n_v vs 5) = (w_ei ws (w_ar ws (n_v vs 2) 1) (v_iv (n_v vs 4)) % 256)) := f6
  obtain ⟨f7, hf⟩ := fc_un (show (20 : Nat) < 100 from by decide) hf
  have f7 : (w_fi ws (n_v vs 2) 10 ≤ v_iv (n_v vs 4)) → (v_iv (n_v vs 5) = (-1)) := f7
  obtain ⟨f8, hf⟩ := fc_un (show (20 : Nat) < 100 from by decide) hf
  have f8 : 1 * v_iv (n_v vs 1) + ((-1) * w_fi ws (n_v vs 2) 15 + 0) ≤ 0 := f8
  obtain ⟨f9, hf⟩ := fc_un (show (20 : Nat) < 100 from by decide) hf
  have f9 : (w_fi ws (n_v vs 2) 15 ≤ w_fi ws (n_v vs 2) 11) ∧ (((w_fi ws (n_v vs 2) 15 + 1) ≤ w_fi ws (n_v vs 2) 11) ∨ ((w_fi ws (n_v vs 2) 11 = w_fi ws (n_v vs 2) 15) ∧ (((w_fi ws (n_v vs 2) 15 + 1) ≤ w_fi ws (n_v vs 2) 10) ∧ (((65 ≤ (w_ei ws (w_ar ws (n_v vs 2) 1) (w_fi ws (n_v vs 2) 15) % 256)) ∧ ((w_ei ws (w_ar ws (n_v vs 2) 1) (w_fi ws (n_v vs 2) 15) % 256) ≤ 90)) ∨ ((97 ≤ (w_ei ws (w_ar ws (n_v vs 2) 1) (w_fi ws (n_v vs 2) 15) % 256)) ∧ ((w_ei ws (w_ar ws (n_v vs 2) 1) (w_fi ws (n_v vs 2) 15) % 256) ≤ 122)))))) := f9
  obtain ⟨f10, hf⟩ := fc_un (show (24 : Nat) < 100 from by decide) hf
  have f10 : n_v vs 0 = n_v vs 2 := f10
  have q2 : n_v vs 2 = n_v vs 0 := f10.symm
  rw [q2] at f1
  rw [q2] at f2
  rw [q2] at f3
  rw [q2] at f4
  rw [q2] at f5
  rw [q2] at f6
  rw [q2] at f7
  rw [q2] at f8
  rw [q2] at f9
  have cr_0_1 : ta (w_ar ws (n_v vs 0) 1) = some 151 := tv_rg (th_fd hD hth r0 (g := GG_150) rfl (k := 1) (t := (2, 0, 0, [151])) rfl rfl)
  have g3 : v_iv (n_v vs 4) = w_fi ws (n_v vs 0) 11 := congrArg v_iv f3
  have hK_0_1 : ∀ j : Int, 0 ≤ j → j < 2000 → (-128) ≤ w_ei ws (w_ar ws (n_v vs 0) 1) j ∧ w_ei ws (w_ar ws (n_v vs 0) 1) j ≤ 127 := fun j h0 h1 => th_el hD hth cr_0_1 (kd := 1) (n := 2000) (m := 2000) (lo := (-128)) (hi := 127) (rs := []) (L := []) rfl (by decide) (j := j.toNat) (by omega)
  have kz_0_10 : 0 ≤ w_fi ws (n_v vs 0) 10 ∧ w_fi ws (n_v vs 0) 10 ≤ 2000 := tv_rng (th_fd hD hth r0 (g := GG_150) rfl (k := 10) (t := (0, 0, 2000, [])) rfl rfl)
  have kz_0_11 : 0 ≤ w_fi ws (n_v vs 0) 11 ∧ w_fi ws (n_v vs 0) 11 ≤ 2000 := tv_rng (th_fd hD hth r0 (g := GG_150) rfl (k := 11) (t := (0, 0, 2000, [])) rfl rfl)
  have kz_0_15 : 0 ≤ w_fi ws (n_v vs 0) 15 ∧ w_fi ws (n_v vs 0) 15 ≤ 2000 := tv_rng (th_fd hD hth r0 (g := GG_150) rfl (k := 15) (t := (0, 0, 2000, [])) rfl rfl)
  have nf0 : fc_1 (20, [2], [50, 2, 0, 15, 11, 0, 7, 4, 3, 2, 0, 15, 0, 1, 2, 0, 11]) ws (vs) := by
    refine ⟨fun n hn => ?_, ?_⟩
    · have hn : n ∈ [2] := hn
      rw [hl]
      simp only [List.mem_cons, List.not_mem_nil, or_false] at hn
      show n < 11; omega
    · show (w_fi ws (n_v vs 2) 15 + 1) ≤ w_fi ws (n_v vs 2) 11
      rw [q2]
      first | omega | grind
  refine ⟨(fun _ h => (by cases h)), [], trivial, ?_, (fun _ h => (by cases h))⟩
  rw [List.append_nil]
  exact List.forall_mem_cons.mpr ⟨⟨show (20 : Nat) < 100 from by decide, nf0⟩, (fun _ h => (by cases h))⟩
def o_Mo_next_36 : or_T := (93, 7, [(0, (2, 0, 0, [150])), (1, (0, 0, 2000, [])), (2, (2, 0, 0, [150])), (4, (0, 0, 1999, [])), (5, (0, 1, 1, [])), (6, (0, 1, 2000, []))], [(20, [1, 2], [30, 0, 1, 0, 0, -1, 1, 15]), (24, [0, 2], []), (101, [2, 6], [11]), (1, [6, 4, 5], []), (9, [4, 2], [11]), (20, [1, 2], [30, 0, 1, 0, 0, -1, 1, 15]), (20, [2], [50, 3, 1, 15, 11, 10, 1, 2, 8, 0, 3, 2, 0, 15, 2, 0, 11, 3, 12, 0, 7, 4, 3, 2, 0, 15, 0, 1, 2, 0, 11, 2, 8, 1, 3, 2, 0, 11, 2, 0, 15, 2, 12, 0, 7, 4, 3, 2, 0, 15, 0, 1, 2, 0, 10, 3, 30, 2, 14, 0, 2, 0, 65, 9, 6, 3, 0, 1, 2, 0, 15, 0, 256, 0, 10, 9, 6, 3, 0, 1, 2, 0, 15, 0, 256, 0, 90, 2, 14, 0, 2, 0, 97, 9, 6, 3, 0, 1, 2, 0, 15, 0, 256, 0, 10, 9, 6, 3, 0, 1, 2, 0, 15, 0, 256, 0, 122])], [], [], [(20, [2], [50, 3, 1, 15, 11, 10, 1, 2, 8, 0, 3, 2, 0, 15, 2, 0, 11, 3, 12, 0, 7, 4, 3, 2, 0, 15, 0, 1, 2, 0, 11, 2, 8, 1, 3, 2, 0, 11, 2, 0, 15, 2, 12, 0, 7, 4, 3, 2, 0, 15, 0, 1, 2, 0, 10, 3, 30, 2, 14, 0, 2, 0, 65, 9, 6, 3, 0, 1, 2, 0, 15, 0, 256, 0, 10, 9, 6, 3, 0, 1, 2, 0, 15, 0, 256, 0, 90, 2, 14, 0, 2, 0, 97, 9, 6, 3, 0, 1, 2, 0, 15, 0, 256, 0, 10, 9, 6, 3, 0, 1, 2, 0, 15, 0, 256, 0, 122])], [], [(6, 4, 1, 1), (6, 1, -4294967296, 2000), (1, 4, -4294967296, 2000), (4, 1, -4294967296, 1999)])
theorem oo_Mo_next_36 {kA : Nat → ClassId} : or_ok kA GG o_Mo_next_36 := by
  intro A ta ws vs hD hth hl hk hds hf
  have hl : vs.length = 7 := hl
  have hk : ∀ q ∈ ([(0, (2, 0, 0, [150])), (1, (0, 0, 2000, [])), (2, (2, 0, 0, [150])), (4, (0, 0, 1999, [])), (5, (0, 1, 1, [])), (6, (0, 1, 2000, []))] : List (Nat × tv_T)), tv_ok ta q.2 (n_v vs q.1) := hk
  obtain ⟨t0, hk⟩ := List.forall_mem_cons.mp hk
  have t0 : tv_ok ta (2, 0, 0, [150]) (n_v vs 0) := t0
  have r0 : ta (v_ad (n_v vs 0)) = some 150 := tv_rg t0
  obtain ⟨t1, hk⟩ := List.forall_mem_cons.mp hk
  have t1 : tv_ok ta (0, 0, 2000, []) (n_v vs 1) := t1
  have k1 : 0 ≤ v_iv (n_v vs 1) ∧ v_iv (n_v vs 1) ≤ 2000 := tv_rng t1
  obtain ⟨t2, hk⟩ := List.forall_mem_cons.mp hk
  have t2 : tv_ok ta (2, 0, 0, [150]) (n_v vs 2) := t2
  have r2 : ta (v_ad (n_v vs 2)) = some 150 := tv_rg t2
  obtain ⟨t4, hk⟩ := List.forall_mem_cons.mp hk
  have t4 : tv_ok ta (0, 0, 1999, []) (n_v vs 4) := t4
  have k4 : 0 ≤ v_iv (n_v vs 4) ∧ v_iv (n_v vs 4) ≤ 1999 := tv_rng t4
  obtain ⟨t5, hk⟩ := List.forall_mem_cons.mp hk
  have t5 : tv_ok ta (0, 1, 1, []) (n_v vs 5) := t5
  have k5 : 1 ≤ v_iv (n_v vs 5) ∧ v_iv (n_v vs 5) ≤ 1 := tv_rng t5
  obtain ⟨t6, hk⟩ := List.forall_mem_cons.mp hk
  have t6 : tv_ok ta (0, 1, 2000, []) (n_v vs 6) := t6
  have k6 : 1 ≤ v_iv (n_v vs 6) ∧ v_iv (n_v vs 6) ≤ 2000 := tv_rng t6
  have hds : ∀ q ∈ ([(6, 4, 1, 1), (6, 1, -4294967296, 2000), (1, 4, -4294967296, 2000), (4, 1, -4294967296, 1999)] : List of_T), n_iv vs q.2.1 + q.2.2.1 ≤ n_iv vs q.1 ∧ n_iv vs q.1 ≤ n_iv vs q.2.1 + q.2.2.2 := hds
  obtain ⟨d0, hds⟩ := List.forall_mem_cons.mp hds
  have d0 : v_iv (n_v vs 4) + 1 ≤ v_iv (n_v vs 6) ∧ v_iv (n_v vs 6) ≤ v_iv (n_v vs 4) + 1 := d0
  obtain ⟨d1, hds⟩ := List.forall_mem_cons.mp hds
  have d1 : v_iv (n_v vs 1) + (-4294967296) ≤ v_iv (n_v vs 6) ∧ v_iv (n_v vs 6) ≤ v_iv (n_v vs 1) + 2000 := d1
  obtain ⟨d2, hds⟩ := List.forall_mem_cons.mp hds
  have d2 : v_iv (n_v vs 4) + (-4294967296) ≤ v_iv (n_v vs 1) ∧ v_iv (n_v vs 1) ≤ v_iv (n_v vs 4) + 2000 := d2
  obtain ⟨d3, hds⟩ := List.forall_mem_cons.mp hds
  have d3 : v_iv (n_v vs 1) + (-4294967296) ≤ v_iv (n_v vs 4) ∧ v_iv (n_v vs 4) ≤ v_iv (n_v vs 1) + 1999 := d3
  have hf : fc_ok [(20, [1, 2], [30, 0, 1, 0, 0, -1, 1, 15]), (24, [0, 2], []), (101, [2, 6], [11]), (1, [6, 4, 5], []), (9, [4, 2], [11]), (20, [1, 2], [30, 0, 1, 0, 0, -1, 1, 15]), (20, [2], [50, 3, 1, 15, 11, 10, 1, 2, 8, 0, 3, 2, 0, 15, 2, 0, 11, 3, 12, 0, 7, 4, 3, 2, 0, 15, 0, 1, 2, 0, 11, 2, 8, 1, 3, 2, 0, 11, 2, 0, 15, 2, 12, 0, 7, 4, 3, 2, 0, 15, 0, 1, 2, 0, 10, 3, 30, 2, 14, 0, 2, 0, 65, 9, 6, 3, 0, 1, 2, 0, 15, 0, 256, 0, 10, 9, 6, 3, 0, 1, 2, 0, 15, 0, 256, 0, 90, 2, 14, 0, 2, 0, 97, 9, 6, 3, 0, 1, 2, 0, 15, 0, 256, 0, 10, 9, 6, 3, 0, 1, 2, 0, 15, 0, 256, 0, 122])] ta ws vs := hf
  obtain ⟨f0, hf⟩ := fc_un (show (20 : Nat) < 100 from by decide) hf
  have f0 : 1 * v_iv (n_v vs 1) + ((-1) * w_fi ws (n_v vs 2) 15 + 0) ≤ 0 := f0
  obtain ⟨f1, hf⟩ := fc_un (show (24 : Nat) < 100 from by decide) hf
  have f1 : n_v vs 0 = n_v vs 2 := f1
  obtain ⟨ta1, w1, le1, ⟨_, s1⟩, hf⟩ := fc_us (show ¬ (101 : Nat) < 100 from by decide) hf
  have s1 : (∀ b j, w_el ws b j = w_el w1 b j) ∧ ∀ b j, w_fd ws b j = if b = v_ad (n_v vs 2) ∧ j = 11 then n_v vs 6 else w_fd w1 b j := s1
  obtain ⟨f3, hf⟩ := fc_un (show (1 : Nat) < 100 from by decide) hf
  have f3 : v_iv (n_v vs 6) = v_iv (n_v vs 4) + v_iv (n_v vs 5) := f3
  obtain ⟨f4, hf⟩ := fc_un (show (9 : Nat) < 100 from by decide) hf
  have f4 : n_v vs 4 = w_fd w1 (v_ad (n_v vs 2)) 11 := f4
  obtain ⟨f5, hf⟩ := fc_un (show (20 : Nat) < 100 from by decide) hf
  have f5 : 1 * v_iv (n_v vs 1) + ((-1) * w_fi w1 (n_v vs 2) 15 + 0) ≤ 0 := f5
  obtain ⟨f6, hf⟩ := fc_un (show (20 : Nat) < 100 from by decide) hf
  have f6 : (w_fi w1 (n_v vs 2) 15 ≤ w_fi w1 (n_v vs 2) 11) ∧ (((w_fi w1 (n_v vs 2) 15 + 1) ≤ w_fi w1 (n_v vs 2) 11) ∨ ((w_fi w1 (n_v vs 2) 11 = w_fi w1 (n_v vs 2) 15) ∧ (((w_fi w1 (n_v vs 2) 15 + 1) ≤ w_fi w1 (n_v vs 2) 10) ∧ (((65 ≤ (w_ei w1 (w_ar w1 (n_v vs 2) 1) (w_fi w1 (n_v vs 2) 15) % 256)) ∧ ((w_ei w1 (w_ar w1 (n_v vs 2) 1) (w_fi w1 (n_v vs 2) 15) % 256) ≤ 90)) ∨ ((97 ≤ (w_ei w1 (w_ar w1 (n_v vs 2) 1) (w_fi w1 (n_v vs 2) 15) % 256)) ∧ ((w_ei w1 (w_ar w1 (n_v vs 2) 1) (w_fi w1 (n_v vs 2) 15) % 256) ≤ 122)))))) := f6
  have q2 : n_v vs 2 = n_v vs 0 := f1.symm
  rw [q2] at f0
  rw [q2] at s1
  rw [q2] at f4
  rw [q2] at f5
  rw [q2] at f6
  have ar_0_1_1 : w_ar w1 (n_v vs 0) 1 = w_ar ws (n_v vs 0) 1 := by show v_ad (w_fd w1 _ _) = v_ad (w_fd ws _ _); rw [s1.2, if_neg (fun e => absurd e.2 (by decide))]
  have cr_0_1 : ta (w_ar ws (n_v vs 0) 1) = some 151 := tv_rg (th_fd hD hth r0 (g := GG_150) rfl (k := 1) (t := (2, 0, 0, [151])) rfl rfl)
  have g4 : v_iv (n_v vs 4) = w_fi w1 (n_v vs 0) 11 := congrArg v_iv f4
  rw [ar_0_1_1] at f6
  have fe_0_10_1 : w_fi ws (n_v vs 0) 10 = w_fi w1 (n_v vs 0) 10 := by show v_iv (w_fd _ _ _) = v_iv (w_fd _ _ _); rw [s1.2, if_neg (fun e => absurd e.2 (by decide))]
  have fe_0_11_1 : w_fi ws (n_v vs 0) 11 = v_iv (n_v vs 6) := by show v_iv (w_fd _ _ _) = _; rw [s1.2, if_pos ⟨rfl, rfl⟩]
  have fe_0_15_1 : w_fi ws (n_v vs 0) 15 = w_fi w1 (n_v vs 0) 15 := by show v_iv (w_fd _ _ _) = v_iv (w_fd _ _ _); rw [s1.2, if_neg (fun e => absurd e.2 (by decide))]
  have hE_0_1_1 : ∀ j : Int, w_ei ws (w_ar ws (n_v vs 0) 1) j = w_ei w1 (w_ar ws (n_v vs 0) 1) j := fun j => s1.1 _ _
  have hK_0_1 : ∀ j : Int, 0 ≤ j → j < 2000 → (-128) ≤ w_ei ws (w_ar ws (n_v vs 0) 1) j ∧ w_ei ws (w_ar ws (n_v vs 0) 1) j ≤ 127 := fun j h0 h1 => th_el hD hth cr_0_1 (kd := 1) (n := 2000) (m := 2000) (lo := (-128)) (hi := 127) (rs := []) (L := []) rfl (by decide) (j := j.toNat) (by omega)
  have kz_0_10 : 0 ≤ w_fi ws (n_v vs 0) 10 ∧ w_fi ws (n_v vs 0) 10 ≤ 2000 := tv_rng (th_fd hD hth r0 (g := GG_150) rfl (k := 10) (t := (0, 0, 2000, [])) rfl rfl)
  have kz_0_11 : 0 ≤ w_fi ws (n_v vs 0) 11 ∧ w_fi ws (n_v vs 0) 11 ≤ 2000 := tv_rng (th_fd hD hth r0 (g := GG_150) rfl (k := 11) (t := (0, 0, 2000, [])) rfl rfl)
  have kz_0_15 : 0 ≤ w_fi ws (n_v vs 0) 15 ∧ w_fi ws (n_v vs 0) 15 ≤ 2000 := tv_rng (th_fd hD hth r0 (g := GG_150) rfl (k := 15) (t := (0, 0, 2000, [])) rfl rfl)
  have nf0 : fc_1 (20, [2], [50, 3, 1, 15, 11, 10, 1, 2, 8, 0, 3, 2, 0, 15, 2, 0, 11, 3, 12, 0, 7, 4, 3, 2, 0, 15, 0, 1, 2, 0, 11, 2, 8, 1, 3, 2, 0, 11, 2, 0, 15, 2, 12, 0, 7, 4, 3, 2, 0, 15, 0, 1, 2, 0, 10, 3, 30, 2, 14, 0, 2, 0, 65, 9, 6, 3, 0, 1, 2, 0, 15, 0, 256, 0, 10, 9, 6, 3, 0, 1, 2, 0, 15, 0, 256, 0, 90, 2, 14, 0, 2, 0, 97, 9, 6, 3, 0, 1, 2, 0, 15, 0, 256, 0, 10, 9, 6, 3, 0, 1, 2, 0, 15, 0, 256, 0, 122]) ws (vs) := by
    refine ⟨fun n hn => ?_, ?_⟩
    · have hn : n ∈ [2] := hn
      rw [hl]
      simp only [List.mem_cons, List.not_mem_nil, or_false] at hn
      show n < 7; omega
    · show (w_fi ws (n_v vs 2) 15 ≤ w_fi ws (n_v vs 2) 11) ∧ (((w_fi ws (n_v vs 2) 15 + 1) ≤ w_fi ws (n_v vs 2) 11) ∨ ((w_fi ws (n_v vs 2) 11 = w_fi ws (n_v vs 2) 15) ∧ (((w_fi ws (n_v vs 2) 15 + 1) ≤ w_fi ws (n_v vs 2) 10) ∧ (((65 ≤ (w_ei ws (w_ar ws (n_v vs 2) 1) (w_fi ws (n_v vs 2) 15) % 256)) ∧ ((w_ei ws (w_ar ws (n_v vs 2) 1) (w_fi ws (n_v vs 2) 15) % 256) ≤ 90)) ∨ ((97 ≤ (w_ei ws (w_ar ws (n_v vs 2) 1) (w_fi ws (n_v vs 2) 15) % 256)) ∧ ((w_ei ws (w_ar ws (n_v vs 2) 1) (w_fi ws (n_v vs 2) 15) % 256) ≤ 122))))))
      rw [q2]
      first | omega | grind
  refine ⟨(fun _ h => (by cases h)), [], trivial, ?_, (fun _ h => (by cases h))⟩
  rw [List.append_nil]
  exact List.forall_mem_cons.mpr ⟨⟨show (20 : Nat) < 100 from by decide, nf0⟩, (fun _ h => (by cases h))⟩
def o_Mo_next_37 : or_T := (354, 9, [(0, (2, 0, 0, [150])), (1, (0, 0, 2000, [])), (2, (2, 0, 0, [150])), (4, (0, 9, 2000, [])), (5, (0, 0, 2000, [])), (6, (0, 9, 2000, [])), (7, (0, 8, 8, [])), (8, (0, 4, 4, []))], [(20, [1, 2], [30, 0, 1, 0, 0, -1, 1, 15]), (20, [2], [50, 2, 0, 15, 11, 0, 7, 4, 3, 2, 0, 15, 0, 1, 2, 0, 11]), (24, [0, 2], []), (101, [2, 8], [12]), (7, [6, 7], [4]), (2, [6, 4, 5], []), (9, [5, 2], [15]), (9, [4, 2], [11]), (20, [1, 2], [30, 0, 1, 0, 0, -1, 1, 15]), (20, [2], [50, 2, 0, 15, 11, 0, 7, 4, 3, 2, 0, 15, 0, 1, 2, 0, 11])], [], [], [(20, [2, 2], [30, 0, 1, 1, 15, -1, 1, 11]), (20, [2], [50, 3, 0, 12, 11, 15, 2, 21, 4, 7, 1, 3, 2, 0, 12, 0, 1, 0, 3, 2, 0, 11, 4, 3, 2, 0, 15, 0, 8, 3, 7, 1, 3, 2, 0, 12, 0, 0, 0, 7, 4, 3, 2, 0, 15, 0, 1, 2, 0, 11]), (20, [0, 0], [30, 0, 1, 1, 15, -1, 1, 11]), (20, [0], [50, 3, 0, 12, 11, 15, 2, 21, 4, 7, 1, 3, 2, 0, 12, 0, 1, 0, 3, 2, 0, 11, 4, 3, 2, 0, 15, 0, 8, 3, 7, 1, 3, 2, 0, 12, 0, 0, 0, 7, 4, 3, 2, 0, 15, 0, 1, 2, 0, 11]), (20, [1, 0], [30, 0, 1, 0, 0, -1, 1, 15])], [], [(6, 4, -2000, 0), (6, 1, -4294967296, 2000), (1, 4, -4294967296, 2000), (4, 1, -4294967296, 2000)])
theorem oo_Mo_next_37 {kA : Nat → ClassId} : or_ok kA GG o_Mo_next_37 := by
  intro A ta ws vs hD hth hl hk hds hf
  have hl : vs.length = 9 := hl
  have hk : ∀ q ∈ ([(0, (2, 0, 0, [150])), (1, (0, 0, 2000, [])), (2, (2, 0, 0, [150])), (4, (0, 9, 2000, [])), (5, (0, 0, 2000, [])), (6, (0, 9, 2000, [])), (7, (0, 8, 8, [])), (8, (0, 4, 4, []))] : List (Nat × tv_T)), tv_ok ta q.2 (n_v vs q.1) := hk
  obtain ⟨t0, hk⟩ := List.forall_mem_cons.mp hk
  have t0 : tv_ok ta (2, 0, 0, [150]) (n_v vs 0) := t0
  have r0 : ta (v_ad (n_v vs 0)) = some 150 := tv_rg t0
  obtain ⟨t1, hk⟩ := List.forall_mem_cons.mp hk
  have t1 : tv_ok ta (0, 0, 2000, []) (n_v vs 1) := t1
  have k1 : 0 ≤ v_iv (n_v vs 1) ∧ v_iv (n_v vs 1) ≤ 2000 := tv_rng t1
  obtain ⟨t2, hk⟩ := List.forall_mem_cons.mp hk
  have t2 : tv_ok ta (2, 0, 0, [150]) (n_v vs 2) := t2
  have r2 : ta (v_ad (n_v vs 2)) = some 150 := tv_rg t2
  obtain ⟨t4, hk⟩ := List.forall_mem_cons.mp hk
  have t4 : tv_ok ta (0, 9, 2000, []) (n_v vs 4) := t4
  have k4 : 9 ≤ v_iv (n_v vs 4) ∧ v_iv (n_v vs 4) ≤ 2000 := tv_rng t4
  obtain ⟨t5, hk⟩ := List.forall_mem_cons.mp hk
  have t5 : tv_ok ta (0, 0, 2000, []) (n_v vs 5) := t5
  have k5 : 0 ≤ v_iv (n_v vs 5) ∧ v_iv (n_v vs 5) ≤ 2000 := tv_rng t5
  obtain ⟨t6, hk⟩ := List.forall_mem_cons.mp hk
  have t6 : tv_ok ta (0, 9, 2000, []) (n_v vs 6) := t6
  have k6 : 9 ≤ v_iv (n_v vs 6) ∧ v_iv (n_v vs 6) ≤ 2000 := tv_rng t6
  obtain ⟨t7, hk⟩ := List.forall_mem_cons.mp hk
  have t7 : tv_ok ta (0, 8, 8, []) (n_v vs 7) := t7
  have k7 : 8 ≤ v_iv (n_v vs 7) ∧ v_iv (n_v vs 7) ≤ 8 := tv_rng t7
  obtain ⟨t8, hk⟩ := List.forall_mem_cons.mp hk
  have t8 : tv_ok ta (0, 4, 4, []) (n_v vs 8) := t8
  have k8 : 4 ≤ v_iv (n_v vs 8) ∧ v_iv (n_v vs 8) ≤ 4 := tv_rng t8
  have hds : ∀ q ∈ ([(6, 4, -2000, 0), (6, 1, -4294967296, 2000), (1, 4, -4294967296, 2000), (4, 1, -4294967296, 2000)] : List of_T), n_iv vs q.2.1 + q.2.2.1 ≤ n_iv vs q.1 ∧ n_iv vs q.1 ≤ n_iv vs q.2.1 + q.2.2.2 := hds
  obtain ⟨d0, hds⟩ := List.forall_mem_cons.mp hds
  have d0 : v_iv (n_v vs 4) + (-2000) ≤ v_iv (n_v vs 6) ∧ v_iv (n_v vs 6) ≤ v_iv (n_v vs 4) + 0 := d0
  obtain ⟨d1, hds⟩ := List.forall_mem_cons.mp hds
  have d1 : v_iv (n_v vs 1) + (-4294967296) ≤ v_iv (n_v vs 6) ∧ v_iv (n_v vs 6) ≤ v_iv (n_v vs 1) + 2000 := d1
  obtain ⟨d2, hds⟩ := List.forall_mem_cons.mp hds
  have d2 : v_iv (n_v vs 4) + (-4294967296) ≤ v_iv (n_v vs 1) ∧ v_iv (n_v vs 1) ≤ v_iv (n_v vs 4) + 2000 := d2
  obtain ⟨d3, hds⟩ := List.forall_mem_cons.mp hds
  have d3 : v_iv (n_v vs 1) + (-4294967296) ≤ v_iv (n_v vs 4) ∧ v_iv (n_v vs 4) ≤ v_iv (n_v vs 1) + 2000 := d3
  have hf : fc_ok [(20, [1, 2], [30, 0, 1, 0, 0, -1, 1, 15]), (20, [2], [50, 2, 0, 15, 11, 0, 7, 4, 3, 2, 0, 15, 0, 1, 2, 0, 11]), (24, [0, 2], []), (101, [2, 8], [12]), (7, [6, 7], [4]), (2, [6, 4, 5], []), (9, [5, 2], [15]), (9, [4, 2], [11]), (20, [1, 2], [30, 0, 1, 0, 0, -1, 1, 15]), (20, [2], [50, 2, 0, 15, 11, 0, 7, 4, 3, 2, 0, 15, 0, 1, 2, 0, 11])] ta ws vs := hf
  obtain ⟨f0, hf⟩ := fc_un (show (20 : Nat) < 100 from by decide) hf
  have f0 : 1 * v_iv (n_v vs 1) + ((-1) * w_fi ws (n_v vs 2) 15 + 0) ≤ 0 := f0
  obtain ⟨f1, hf⟩ := fc_un (show (20 : Nat) < 100 from by decide) hf
  have f1 : (w_fi ws (n_v vs 2) 15 + 1) ≤ w_fi ws (n_v vs 2) 11 := f1
  obtain ⟨f2, hf⟩ := fc_un (show (24 : Nat) < 100 from by decide) hf
  have f2 : n_v vs 0 = n_v vs 2 := f2
  obtain ⟨ta1, w1, le1, ⟨_, s1⟩, hf⟩ := fc_us (show ¬ (101 : Nat) < 100 from by decide) hf
  have s1 : (∀ b j, w_el ws b j = w_el w1 b j) ∧ ∀ b j, w_fd ws b j = if b = v_ad (n_v vs 2) ∧ j = 12 then n_v vs 8 else w_fd w1 b j := s1
  obtain ⟨f4, hf⟩ := fc_un (show (7 : Nat) < 100 from by decide) hf
  have f4 : v_iv (n_v vs 7) < v_iv (n_v vs 6) := f4
  obtain ⟨f5, hf⟩ := fc_un (show (2 : Nat) < 100 from by decide) hf
  have f5 : v_iv (n_v vs 6) = v_iv (n_v vs 4) - v_iv (n_v vs 5) := f5
  obtain ⟨f6, hf⟩ := fc_un (show (9 : Nat) < 100 from by decide) hf
  have f6 : n_v vs 5 = w_fd w1 (v_ad (n_v vs 2)) 15 := f6
  obtain ⟨f7, hf⟩ := fc_un (show (9 : Nat) < 100 from by decide) hf
  have f7 : n_v vs 4 = w_fd w1 (v_ad (n_v vs 2)) 11 := f7
  obtain ⟨f8, hf⟩ := fc_un (show (20 : Nat) < 100 from by decide) hf
  have f8 : 1 * v_iv (n_v vs 1) + ((-1) * w_fi w1 (n_v vs 2) 15 + 0) ≤ 0 := f8
  obtain ⟨f9, hf⟩ := fc_un (show (20 : Nat) < 100 from by decide) hf
  have f9 : (w_fi w1 (n_v vs 2) 15 + 1) ≤ w_fi w1 (n_v vs 2) 11 := f9
  have q2 : n_v vs 2 = n_v vs 0 := f2.symm
  rw [q2] at f0
  rw [q2] at f1
  rw [q2] at s1
  rw [q2] at f6
  rw [q2] at f7
  rw [q2] at f8
  rw [q2] at f9
  have g6 : v_iv (n_v vs 5) = w_fi w1 (n_v vs 0) 15 := congrArg v_iv f6
  have g7 : v_iv (n_v vs 4) = w_fi w1 (n_v vs 0) 11 := congrArg v_iv f7
  have fe_0_11_1 : w_fi ws (n_v vs 0) 11 = w_fi w1 (n_v vs 0) 11 := by show v_iv (w_fd _ _ _) = v_iv (w_fd _ _ _); rw [s1.2, if_neg (fun e => absurd e.2 (by decide))]
  have fe_0_12_1 : w_fi ws (n_v vs 0) 12 = v_iv (n_v vs 8) := by show v_iv (w_fd _ _ _) = _; rw [s1.2, if_pos ⟨rfl, rfl⟩]
  have fe_0_15_1 : w_fi ws (n_v vs 0) 15 = w_fi w1 (n_v vs 0) 15 := by show v_iv (w_fd _ _ _) = v_iv (w_fd _ _ _); rw [s1.2, if_neg (fun e => absurd e.2 (by decide))]
  have kz_0_11 : 0 ≤ w_fi ws (n_v vs 0) 11 ∧ w_fi ws (n_v vs 0) 11 ≤ 2000 := tv_rng (th_fd hD hth r0 (g := GG_150) rfl (k := 11) (t := (0, 0, 2000, [])) rfl rfl)
  have kz_0_12 : 0 ≤ w_fi ws (n_v vs 0) 12 ∧ w_fi ws (n_v vs 0) 12 ≤ 4 := tv_rng (th_fd hD hth r0 (g := GG_150) rfl (k := 12) (t := (0, 0, 4, [])) rfl rfl)
  have kz_0_15 : 0 ≤ w_fi ws (n_v vs 0) 15 ∧ w_fi ws (n_v vs 0) 15 ≤ 2000 := tv_rng (th_fd hD hth r0 (g := GG_150) rfl (k := 15) (t := (0, 0, 2000, [])) rfl rfl)
  have nf0 : fc_1 (20, [2, 2], [30, 0, 1, 1, 15, -1, 1, 11]) ws (vs) := by
    refine ⟨fun n hn => ?_, ?_⟩
    · have hn : n ∈ [2, 2] := hn
      rw [hl]
      simp only [List.mem_cons, List.not_mem_nil, or_false] at hn
      show n < 9; omega
    · show 1 * w_fi ws (n_v vs 2) 15 + ((-1) * w_fi ws (n_v vs 2) 11 + 0) ≤ 0
      rw [q2]
      omega
  have nf1 : fc_1 (20, [2], [50, 3, 0, 12, 11, 15, 2, 21, 4, 7, 1, 3, 2, 0, 12, 0, 1, 0, 3, 2, 0, 11, 4, 3, 2, 0, 15, 0, 8, 3, 7, 1, 3, 2, 0, 12, 0, 0, 0, 7, 4, 3, 2, 0, 15, 0, 1, 2, 0, 11]) ws (vs) := by
    refine ⟨fun n hn => ?_, ?_⟩
    · have hn : n ∈ [2] := hn
      rw [hl]
      simp only [List.mem_cons, List.not_mem_nil, or_false] at hn
      show n < 9; omega
    · show ((w_fi ws (n_v vs 2) 12 = 1) → (w_fi ws (n_v vs 2) 11 ≤ (w_fi ws (n_v vs 2) 15 + 8))) ∧ ((w_fi ws (n_v vs 2) 12 = 0) ∨ ((w_fi ws (n_v vs 2) 15 + 1) ≤ w_fi ws (n_v vs 2) 11))
      rw [q2]
      first | omega | grind
  have nf2 : fc_1 (20, [0, 0], [30, 0, 1, 1, 15, -1, 1, 11]) ws (vs) := by
    refine ⟨fun n hn => ?_, ?_⟩
    · have hn : n ∈ [0, 0] := hn
      rw [hl]
      simp only [List.mem_cons, List.not_mem_nil, or_false] at hn
      show n < 9; omega
    · show 1 * w_fi ws (n_v vs 0) 15 + ((-1) * w_fi ws (n_v vs 0) 11 + 0) ≤ 0
      omega
  have nf3 : fc_1 (20, [0], [50, 3, 0, 12, 11, 15, 2, 21, 4, 7, 1, 3, 2, 0, 12, 0, 1, 0, 3, 2, 0, 11, 4, 3, 2, 0, 15, 0, 8, 3, 7, 1, 3, 2, 0, 12, 0, 0, 0, 7, 4, 3, 2, 0, 15, 0, 1, 2, 0, 11]) ws (vs) := by
    refine ⟨fun n hn => ?_, ?_⟩
    · have hn : n ∈ [0] := hn
      rw [hl]
      simp only [List.mem_cons, List.not_mem_nil, or_false] at hn
      show n < 9; omega
    · show ((w_fi ws (n_v vs 0) 12 = 1) → (w_fi ws (n_v vs 0) 11 ≤ (w_fi ws (n_v vs 0) 15 + 8))) ∧ ((w_fi ws (n_v vs 0) 12 = 0) ∨ ((w_fi ws (n_v vs 0) 15 + 1) ≤ w_fi ws (n_v vs 0) 11))
      first | omega | grind
  have nf4 : fc_1 (20, [1, 0], [30, 0, 1, 0, 0, -1, 1, 15]) ws (vs) := by
    refine ⟨fun n hn => ?_, ?_⟩
    · have hn : n ∈ [1, 0] := hn
      rw [hl]
      simp only [List.mem_cons, List.not_mem_nil, or_false] at hn
      show n < 9; omega
    · show 1 * v_iv (n_v vs 1) + ((-1) * w_fi ws (n_v vs 0) 15 + 0) ≤ 0
      omega
  refine ⟨(fun _ h => (by cases h)), [], trivial, ?_, (fun _ h => (by cases h))⟩
  rw [List.append_nil]
  exact List.forall_mem_cons.mpr ⟨⟨show (20 : Nat) < 100 from by decide, nf0⟩, List.forall_mem_cons.mpr ⟨⟨show (20 : Nat) < 100 from by decide, nf1⟩, List.forall_mem_cons.mpr ⟨⟨show (20 : Nat) < 100 from by decide, nf2⟩, List.forall_mem_cons.mpr ⟨⟨show (20 : Nat) < 100 from by decide, nf3⟩, List.forall_mem_cons.mpr ⟨⟨show (20 : Nat) < 100 from by decide, nf4⟩, (fun _ h => (by cases h))⟩⟩⟩⟩⟩
def o_Mo_next_38 : or_T := (354, 9, [(0, (2, 0, 0, [150])), (1, (0, 0, 2000, [])), (2, (2, 0, 0, [150])), (4, (0, 0, 2000, [])), (5, (0, 0, 2000, [])), (6, (0, -2000, 8, [])), (7, (0, 8, 8, [])), (8, (0, 1, 1, []))], [(20, [1, 2], [30, 0, 1, 0, 0, -1, 1, 15]), (20, [2], [50, 2, 0, 15, 11, 0, 7, 4, 3, 2, 0, 15, 0, 1, 2, 0, 11]), (24, [0, 2], []), (101, [2, 8], [12]), (7, [6, 7], [5]), (2, [6, 4, 5], []), (9, [5, 2], [15]), (9, [4, 2], [11]), (20, [1, 2], [30, 0, 1, 0, 0, -1, 1, 15]), (20, [2], [50, 2, 0, 15, 11, 0, 7, 4, 3, 2, 0, 15, 0, 1, 2, 0, 11])], [], [], [(20, [2, 2], [30, 0, 1, 1, 15, -1, 1, 11]), (20, [2], [50, 3, 0, 12, 11, 15, 2, 21, 4, 7, 1, 3, 2, 0, 12, 0, 1, 0, 3, 2, 0, 11, 4, 3, 2, 0, 15, 0, 8, 3, 7, 1, 3, 2, 0, 12, 0, 0, 0, 7, 4, 3, 2, 0, 15, 0, 1, 2, 0, 11]), (20, [0, 0], [30, 0, 1, 1, 15, -1, 1, 11]), (20, [0], [50, 3, 0, 12, 11, 15, 2, 21, 4, 7, 1, 3, 2, 0, 12, 0, 1, 0, 3, 2, 0, 11, 4, 3, 2, 0, 15, 0, 8, 3, 7, 1, 3, 2, 0, 12, 0, 0, 0, 7, 4, 3, 2, 0, 15, 0, 1, 2, 0, 11]), (20, [1, 0], [30, 0, 1, 0, 0, -1, 1, 15])], [], [(6, 4, -2000, 0), (6, 1, -4294967296, 2000), (1, 4, -4294967296, 2000), (4, 1, -4294967296, 2000)])
theorem oo_Mo_next_38 {kA : Nat → ClassId} : or_ok kA GG o_Mo_next_38 := by
  intro A ta ws vs hD hth hl hk hds hf
  have hl : vs.length = 9 := hl
  have hk : ∀ q ∈ ([(0, (2, 0, 0, [150])), (1, (0, 0, 2000, [])), (2, (2, 0, 0, [150])), (4, (0, 0, 2000, [])), (5, (0, 0, 2000, [])), (6, (0, -2000, 8, [])), (7, (0, 8, 8, [])), (8, (0, 1, 1, []))] : List (Nat × tv_T)), tv_ok ta q.2 (n_v vs q.1) := hk
  obtain ⟨t0, hk⟩ := List.forall_mem_cons.mp hk
  have t0 : tv_ok ta (2, 0, 0, [150]) (n_v vs 0) := t0
  have r0 : ta (v_ad (n_v vs 0)) = some 150 := tv_rg t0
  obtain ⟨t1, hk⟩ := List.forall_mem_cons.mp hk
  have t1 : tv_ok ta (0, 0, 2000, []) (n_v vs 1) := t1
  have k1 : 0 ≤ v_iv (n_v vs 1) ∧ v_iv (n_v vs 1) ≤ 2000 := tv_rng t1
  obtain ⟨t2, hk⟩ := List.forall_mem_cons.mp hk
  have t2 : tv_ok ta (2, 0, 0, [150]) (n_v vs 2) := t2
  have r2 : ta (v_ad (n_v vs 2)) = some 150 := tv_rg t2
  obtain ⟨t4, hk⟩ := List.forall_mem_cons.mp hk
  have t4 : tv_ok ta (0, 0, 2000, []) (n_v vs 4) := t4
  have k4 : 0 ≤ v_iv (n_v vs 4) ∧ v_iv (n_v vs 4) ≤ 2000 := tv_rng t4
  obtain ⟨t5, hk⟩ := List.forall_mem_cons.mp hk
  have t5 : tv_ok ta (0, 0, 2000, []) (n_v vs 5) := t5
  have k5 : 0 ≤ v_iv (n_v vs 5) ∧ v_iv (n_v vs 5) ≤ 2000 := tv_rng t5
  obtain ⟨t6, hk⟩ := List.forall_mem_cons.mp hk
  have t6 : tv_ok ta (0, -2000, 8, []) (n_v vs 6) := t6
  have k6 : (-2000) ≤ v_iv (n_v vs 6) ∧ v_iv (n_v vs 6) ≤ 8 := tv_rng t6
  obtain ⟨t7, hk⟩ := List.forall_mem_cons.mp hk
  have t7 : tv_ok ta (0, 8, 8, []) (n_v vs 7) := t7
  have k7 : 8 ≤ v_iv (n_v vs 7) ∧ v_iv (n_v vs 7) ≤ 8 := tv_rng t7
  obtain ⟨t8, hk⟩ := List.forall_mem_cons.mp hk
  have t8 : tv_ok ta (0, 1, 1, []) (n_v vs 8) := t8
  have k8 : 1 ≤ v_iv (n_v vs 8) ∧ v_iv (n_v vs 8) ≤ 1 := tv_rng t8
  have hds : ∀ q ∈ ([(6, 4, -2000, 0), (6, 1, -4294967296, 2000), (1, 4, -4294967296, 2000), (4, 1, -4294967296, 2000)] : List of_T), n_iv vs q.2.1 + q.2.2.1 ≤ n_iv vs q.1 ∧ n_iv vs q.1 ≤ n_iv vs q.2.1 + q.2.2.2 := hds
  obtain ⟨d0, hds⟩ := List.forall_mem_cons.mp hds
  have d0 : v_iv (n_v vs 4) + (-2000) ≤ v_iv (n_v vs 6) ∧ v_iv (n_v vs 6) ≤ v_iv (n_v vs 4) + 0 := d0
  obtain ⟨d1, hds⟩ := List.forall_mem_cons.mp hds
  have d1 : v_iv (n_v vs 1) + (-4294967296) ≤ v_iv (n_v vs 6) ∧ v_iv (n_v vs 6) ≤ v_iv (n_v vs 1) + 2000 := d1
  obtain ⟨d2, hds⟩ := List.forall_mem_cons.mp hds
  have d2 : v_iv (n_v vs 4) + (-4294967296) ≤ v_iv (n_v vs 1) ∧ v_iv (n_v vs 1) ≤ v_iv (n_v vs 4) + 2000 := d2
  obtain ⟨d3, hds⟩ := List.forall_mem_cons.mp hds
  have d3 : v_iv (n_v vs 1) + (-4294967296) ≤ v_iv (n_v vs 4) ∧ v_iv (n_v vs 4) ≤ v_iv (n_v vs 1) + 2000 := d3
  have hf : fc_ok [(20, [1, 2], [30, 0, 1, 0, 0, -1, 1, 15]), (20, [2], [50, 2, 0, 15, 11, 0, 7, 4, 3, 2, 0, 15, 0, 1, 2, 0, 11]), (24, [0, 2], []), (101, [2, 8], [12]), (7, [6, 7], [5]), (2, [6, 4, 5], []), (9, [5, 2], [15]), (9, [4, 2], [11]), (20, [1, 2], [30, 0, 1, 0, 0, -1, 1, 15]), (20, [2], [50, 2, 0, 15, 11, 0, 7, 4, 3, 2, 0, 15, 0, 1, 2, 0, 11])] ta ws vs := hf
  obtain ⟨f0, hf⟩ := fc_un (show (20 : Nat) < 100 from by decide) hf
  have f0 : 1 * v_iv (n_v vs 1) + ((-1) * w_fi ws (n_v vs 2) 15 + 0) ≤ 0 := f0
  obtain ⟨f1, hf⟩ := fc_un (show (20 : Nat) < 100 from by decide) hf
  have f1 : (w_fi ws (n_v vs 2) 15 + 1) ≤ w_fi ws (n_v vs 2) 11 := f1
  obtain ⟨f2, hf⟩ := fc_un (show (24 : Nat) < 100 from by decide) hf
  have f2 : n_v vs 0 = n_v vs 2 := f2
  obtain ⟨ta1, w1, le1, ⟨_, s1⟩, hf⟩ := fc_us (show ¬ (101 : Nat) < 100 from by decide) hf
  have s1 : (∀ b j, w_el ws b j = w_el w1 b j) ∧ ∀ b j, w_fd ws b j = if b = v_ad (n_v vs 2) ∧ j = 12 then n_v vs 8 else w_fd w1 b j := s1
  obtain ⟨f4, hf⟩ := fc_un (show (7 : Nat) < 100 from by decide) hf
  have f4 : v_iv (n_v vs 6) ≤ v_iv (n_v vs 7) := f4
  obtain ⟨f5, hf⟩ := fc_un (show (2 : Nat) < 100 from by decide) hf
  have f5 : v_iv (n_v vs 6) = v_iv (n_v vs 4) - v_iv (n_v vs 5) := f5
  obtain ⟨f6, hf⟩ := fc_un (show (9 : Nat) < 100 from by decide) hf
  have f6 : n_v vs 5 = w_fd w1 (v_ad (n_v vs 2)) 15 := f6
  obtain ⟨f7, hf⟩ := fc_un (show (9 : Nat) < 100 from by decide) hf
  have f7 : n_v vs 4 = w_fd w1 (v_ad (n_v vs 2)) 11 := f7
  obtain ⟨f8, hf⟩ := fc_un (show (20 : Nat) < 100 from by decide) hf
  have f8 : 1 * v_iv (n_v vs 1) + ((-1) * w_fi w1 (n_v vs 2) 15 + 0) ≤ 0 := f8
  obtain ⟨f9, hf⟩ := fc_un (show (20 : Nat) < 100 from by decide) hf
  have f9 : (w_fi w1 (n_v vs 2) 15 + 1) ≤ w_fi w1 (n_v vs 2) 11 := f9
  have q2 : n_v vs 2 = n_v vs 0 := f2.symm
  rw [q2] at f0
  rw [q2] at f1
  rw [q2] at s1
  rw [q2] at f6
  rw [q2] at f7
  rw [q2] at f8
  rw [q2] at f9
  have g6 : v_iv (n_v vs 5) = w_fi w1 (n_v vs 0) 15 := congrArg v_iv f6
  have g7 : v_iv (n_v vs 4) = w_fi w1 (n_v vs 0) 11 := congrArg v_iv f7
  have fe_0_11_1 : w_fi ws (n_v vs 0) 11 = w_fi w1 (n_v vs 0) 11 := by show v_iv (w_fd _ _ _) = v_iv (w_fd _ _ _); rw [s1.2, if_neg (fun e => absurd e.2 (by decide))]
  have fe_0_12_1 : w_fi ws (n_v vs 0) 12 = v_iv (n_v vs 8) := by show v_iv (w_fd _ _ _) = _; rw [s1.2, if_pos ⟨rfl, rfl⟩]
  have fe_0_15_1 : w_fi ws (n_v vs 0) 15 = w_fi w1 (n_v vs 0) 15 := by show v_iv (w_fd _ _ _) = v_iv (w_fd _ _ _); rw [s1.2, if_neg (fun e => absurd e.2 (by decide))]
  have kz_0_11 : 0 ≤ w_fi ws (n_v vs 0) 11 ∧ w_fi ws (n_v vs 0) 11 ≤ 2000 := tv_rng (th_fd hD hth r0 (g := GG_150) rfl (k := 11) (t := (0, 0, 2000, [])) rfl rfl)
  have kz_0_12 : 0 ≤ w_fi ws (n_v vs 0) 12 ∧ w_fi ws (n_v vs 0) 12 ≤ 4 := tv_rng (th_fd hD hth r0 (g := GG_150) rfl (k := 12) (t := (0, 0, 4, [])) rfl rfl)
  have kz_0_15 : 0 ≤ w_fi ws (n_v vs 0) 15 ∧ w_fi ws (n_v vs 0) 15 ≤ 2000 := tv_rng (th_fd hD hth r0 (g := GG_150) rfl (k := 15) (t := (0, 0, 2000, [])) rfl rfl)
  have nf0 : fc_1 (20, [2, 2], [30, 0, 1, 1, 15, -1, 1, 11]) ws (vs) := by
    refine ⟨fun n hn => ?_, ?_⟩
    · have hn : n ∈ [2, 2] := hn
      rw [hl]
      simp only [List.mem_cons, List.not_mem_nil, or_false] at hn
      show n < 9; omega
    · show 1 * w_fi ws (n_v vs 2) 15 + ((-1) * w_fi ws (n_v vs 2) 11 + 0) ≤ 0
      rw [q2]
      omega
  have nf1 : fc_1 (20, [2], [50, 3, 0, 12, 11, 15, 2, 21, 4, 7, 1, 3, 2, 0, 12, 0, 1, 0, 3, 2, 0, 11, 4, 3, 2, 0, 15, 0, 8, 3, 7, 1, 3, 2, 0, 12, 0, 0, 0, 7, 4, 3, 2, 0, 15, 0, 1, 2, 0, 11]) ws (vs) := by
    refine ⟨fun n hn => ?_, ?_⟩
    · have hn : n ∈ [2] := hn
      rw [hl]
      simp only [List.mem_cons, List.not_mem_nil, or_false] at hn
      show n < 9; omega
    · show ((w_fi ws (n_v vs 2) 12 = 1) → (w_fi ws (n_v vs 2) 11 ≤ (w_fi ws (n_v vs 2) 15 + 8))) ∧ ((w_fi ws (n_v vs 2) 12 = 0) ∨ ((w_fi ws (n_v vs 2) 15 + 1) ≤ w_fi ws (n_v vs 2) 11))
      rw [q2]
      first | omega | grind
  have nf2 : fc_1 (20, [0, 0], [30, 0, 1, 1, 15, -1, 1, 11]) ws (vs) := by
    refine ⟨fun n hn => ?_, ?_⟩
    · have hn : n ∈ [0, 0] := hn
      rw [hl]
      simp only [List.mem_cons, List.not_mem_nil, or_false] at hn
      show n < 9; omega
    · show 1 * w_fi ws (n_v vs 0) 15 + ((-1) * w_fi ws (n_v vs 0) 11 + 0) ≤ 0
      omega
  have nf3 : fc_1 (20, [0], [50, 3, 0, 12, 11, 15, 2, 21, 4, 7, 1, 3, 2, 0, 12, 0, 1, 0, 3, 2, 0, 11, 4, 3, 2, 0, 15, 0, 8, 3, 7, 1, 3, 2, 0, 12, 0, 0, 0, 7, 4, 3, 2, 0, 15, 0, 1, 2, 0, 11]) ws (vs) := by
    refine ⟨fun n hn => ?_, ?_⟩
    · have hn : n ∈ [0] := hn
      rw [hl]
      simp only [List.mem_cons, List.not_mem_nil, or_false] at hn
      show n < 9; omega
    · show ((w_fi ws (n_v vs 0) 12 = 1) → (w_fi ws (n_v vs 0) 11 ≤ (w_fi ws (n_v vs 0) 15 + 8))) ∧ ((w_fi ws (n_v vs 0) 12 = 0) ∨ ((w_fi ws (n_v vs 0) 15 + 1) ≤ w_fi ws (n_v vs 0) 11))
      first | omega | grind
  have nf4 : fc_1 (20, [1, 0], [30, 0, 1, 0, 0, -1, 1, 15]) ws (vs) := by
    refine ⟨fun n hn => ?_, ?_⟩
    · have hn : n ∈ [1, 0] := hn
      rw [hl]
      simp only [List.mem_cons, List.not_mem_nil, or_false] at hn
      show n < 9; omega
    · show 1 * v_iv (n_v vs 1) + ((-1) * w_fi ws (n_v vs 0) 15 + 0) ≤ 0
      omega
  refine ⟨(fun _ h => (by cases h)), [], trivial, ?_, (fun _ h => (by cases h))⟩
  rw [List.append_nil]
  exact List.forall_mem_cons.mpr ⟨⟨show (20 : Nat) < 100 from by decide, nf0⟩, List.forall_mem_cons.mpr ⟨⟨show (20 : Nat) < 100 from by decide, nf1⟩, List.forall_mem_cons.mpr ⟨⟨show (20 : Nat) < 100 from by decide, nf2⟩, List.forall_mem_cons.mpr ⟨⟨show (20 : Nat) < 100 from by decide, nf3⟩, List.forall_mem_cons.mpr ⟨⟨show (20 : Nat) < 100 from by decide, nf4⟩, (fun _ h => (by cases h))⟩⟩⟩⟩⟩
def o_Mo_next_39 : or_T := (252, 8, [(0, (2, 0, 0, [150])), (1, (0, 0, 2000, [])), (2, (2, 0, 0, [150])), (5, (0, 0, 2000, [])), (6, (0, -1, -1, []))], [(20, [5, 2, 6], [50, 1, 1, 1010, 1001, 4, 11, 0, 6, 4, 2, 1, 0, 0, 1, 2, 1, 10, 1, 2, 1, 2, 9, 5, 3, 1, 1, 1, 0, 0, 256]), (20, [2, 5, 6], [50, 1, 0, 10, 4, 7, 0, 3, 2, 0, 10, 1, 1, 1, 2, 1, 2, 0, -1]), (9, [5, 2], [11]), (20, [1, 2], [30, 0, 1, 0, 0, -1, 1, 15]), (20, [2], [50, 3, 1, 15, 11, 10, 1, 2, 8, 0, 3, 2, 0, 15, 2, 0, 11, 3, 12, 0, 7, 4, 3, 2, 0, 15, 0, 1, 2, 0, 11, 2, 8, 1, 3, 2, 0, 11, 2, 0, 15, 2, 12, 0, 7, 4, 3, 2, 0, 15, 0, 1, 2, 0, 10, 2, 14, 0, 2, 0, 48, 9, 6, 3, 0, 1, 2, 0, 15, 0, 256, 0, 10, 9, 6, 3, 0, 1, 2, 0, 15, 0, 256, 0, 57]), (24, [0, 2], [])], [], [], [(20, [2], [50, 2, 0, 15, 11, 0, 7, 4, 3, 2, 0, 15, 0, 1, 2, 0, 11])], [], [(1, 5, -4294967296, 2000), (5, 1, -4294967296, 2000)])
theorem oo_Mo_next_39 {kA : Nat → ClassId} : or_ok kA GG o_Mo_next_39 := by
  intro A ta ws vs hD hth hl hk hds hf
  have hl : vs.length = 8 := hl
  have hk : ∀ q ∈ ([(0, (2, 0, 0, [150])), (1, (0, 0, 2000, [])), (2, (2, 0, 0, [150])), (5, (0, 0, 2000, [])), (6, (0, -1, -1, []))] : List (Nat × tv_T)), tv_ok ta q.2 (n_v vs q.1) := hk
  obtain ⟨t0, hk⟩ := List.forall_mem_cons.mp hk
  have t0 : tv_ok ta (2, 0, 0, [150]) (n_v vs 0) := t0
  have r0 : ta (v_ad (n_v vs 0)) = some 150 := tv_rg t0
  obtain ⟨t1, hk⟩ := List.forall_mem_cons.mp hk
  have t1 : tv_ok ta (0, 0, 2000, []) (n_v vs 1) := t1
  have k1 : 0 ≤ v_iv (n_v vs 1) ∧ v_iv (n_v vs 1) ≤ 2000 := tv_rng t1
  obtain ⟨t2, hk⟩ := List.forall_mem_cons.mp hk
  have t2 : tv_ok ta (2, 0, 0, [150]) (n_v vs 2) := t2
  have r2 : ta (v_ad (n_v vs 2)) = some 150 := tv_rg t2
  obtain ⟨t5, hk⟩ := List.forall_mem_cons.mp hk
  have t5 : tv_ok ta (0, 0, 2000, []) (n_v vs 5) := t5
  have k5 : 0 ≤ v_iv (n_v vs 5) ∧ v_iv (n_v vs 5) ≤ 2000 := tv_rng t5
  obtain ⟨t6, hk⟩ := List.forall_mem_cons.mp hk
  have t6 : tv_ok ta (0, -1, -1, []) (n_v vs 6) := t6
  have k6 : (-1) ≤ v_iv (n_v vs 6) ∧ v_iv (n_v vs 6) ≤ (-1) := tv_rng t6
  have hds : ∀ q ∈ ([(1, 5, -4294967296, 2000), (5, 1, -4294967296, 2000)] : List of_T), n_iv vs q.2.1 + q.2.2.1 ≤ n_iv vs q.1 ∧ n_iv vs q.1 ≤ n_iv vs q.2.1 + q.2.2.2 := hds
  obtain ⟨d0, hds⟩ := List.forall_mem_cons.mp hds
  have d0 : v_iv (n_v vs 5) + (-4294967296) ≤ v_iv (n_v vs 1) ∧ v_iv (n_v vs 1) ≤ v_iv (n_v vs 5) + 2000 := d0
  obtain ⟨d1, hds⟩ := List.forall_mem_cons.mp hds
  have d1 : v_iv (n_v vs 1) + (-4294967296) ≤ v_iv (n_v vs 5) ∧ v_iv (n_v vs 5) ≤ v_iv (n_v vs 1) + 2000 := d1
  have hf : fc_ok [(20, [5, 2, 6], [50, 1, 1, 1010, 1001, 4, 11, 0, 6, 4, 2, 1, 0, 0, 1, 2, 1, 10, 1, 2, 1, 2, 9, 5, 3, 1, 1, 1, 0, 0, 256]), (20, [2, 5, 6], [50, 1, 0, 10, 4, 7, 0, 3, 2, 0, 10, 1, 1, 1, 2, 1, 2, 0, -1]), (9, [5, 2], [11]), (20, [1, 2], [30, 0, 1, 0, 0, -1, 1, 15]), (20, [2], [50, 3, 1, 15, 11, 10, 1, 2, 8, 0, 3, 2, 0, 15, 2, 0, 11, 3, 12, 0, 7, 4, 3, 2, 0, 15, 0, 1, 2, 0, 11, 2, 8, 1, 3, 2, 0, 11, 2, 0, 15, 2, 12, 0, 7, 4, 3, 2, 0, 15, 0, 1, 2, 0, 10, 2, 14, 0, 2, 0, 48, 9, 6, 3, 0, 1, 2, 0, 15, 0, 256, 0, 10, 9, 6, 3, 0, 1, 2, 0, 15, 0, 256, 0, 57]), (24, [0, 2], [])] ta ws vs := hf
  obtain ⟨f0, hf⟩ := fc_un (show (20 : Nat) < 100 from by decide) hf
  have f0 : ((v_iv (n_v vs 5) + 1) ≤ w_fi ws (n_v vs 2) 10) → (v_iv (n_v vs 6) = (w_ei ws (w_ar ws (n_v vs 2) 1) (v_iv (n_v vs 5)) % 256)) := f0
  obtain ⟨f1, hf⟩ := fc_un (show (20 : Nat) < 100 from by decide) hf
  have f1 : (w_fi ws (n_v vs 2) 10 ≤ v_iv (n_v vs 5)) → (v_iv (n_v vs 6) = (-1)) := f1
  obtain ⟨f2, hf⟩ := fc_un (show (9 : Nat) < 100 from by decide) hf
  have f2 : n_v vs 5 = w_fd ws (v_ad (n_v vs 2)) 11 := f2
  obtain ⟨f3, hf⟩ := fc_un (show (20 : Nat) < 100 from by decide) hf
  have f3 : 1 * v_iv (n_v vs 1) + ((-1) * w_fi ws (n_v vs 2) 15 + 0) ≤ 0 := f3
  obtain ⟨f4, hf⟩ := fc_un (show (20 : Nat) < 100 from by decide) hf
  have f4 : (w_fi ws (n_v vs 2) 15 ≤ w_fi ws (n_v vs 2) 11) ∧ (((w_fi ws (n_v vs 2) 15 + 1) ≤ w_fi ws (n_v vs 2) 11) ∨ ((w_fi ws (n_v vs 2) 11 = w_fi ws (n_v vs 2) 15) ∧ (((w_fi ws (n_v vs 2) 15 + 1) ≤ w_fi ws (n_v vs 2) 10) ∧ ((48 ≤ (w_ei ws (w_ar ws (n_v vs 2) 1) (w_fi ws (n_v vs 2) 15) % 256)) ∧ ((w_ei ws (w_ar ws (n_v vs 2) 1) (w_fi ws (n_v vs 2) 15) % 256) ≤ 57))))) := f4
  obtain ⟨f5, hf⟩ := fc_un (show (24 : Nat) < 100 from by decide) hf
  have f5 : n_v vs 0 = n_v vs 2 := f5
  have q2 : n_v vs 2 = n_v vs 0 := f5.symm
  rw [q2] at f0
  rw [q2] at f1
  rw [q2] at f2
  rw [q2] at f3
  rw [q2] at f4
  have cr_0_1 : ta (w_ar ws (n_v vs 0) 1) = some 151 := tv_rg (th_fd hD hth r0 (g := GG_150) rfl (k := 1) (t := (2, 0, 0, [151])) rfl rfl)
  have g2 : v_iv (n_v vs 5) = w_fi ws (n_v vs 0) 11 := congrArg v_iv f2
  have hK_0_1 : ∀ j : Int, 0 ≤ j → j < 2000 → (-128) ≤ w_ei ws (w_ar ws (n_v vs 0) 1) j ∧ w_ei ws (w_ar ws (n_v vs 0) 1) j ≤ 127 := fun j h0 h1 => th_el hD hth cr_0_1 (kd := 1) (n := 2000) (m := 2000) (lo := (-128)) (hi := 127) (rs := []) (L := []) rfl (by decide) (j := j.toNat) (by omega)
  have kz_0_10 : 0 ≤ w_fi ws (n_v vs 0) 10 ∧ w_fi ws (n_v vs 0) 10 ≤ 2000 := tv_rng (th_fd hD hth r0 (g := GG_150) rfl (k := 10) (t := (0, 0, 2000, [])) rfl rfl)
  have kz_0_11 : 0 ≤ w_fi ws (n_v vs 0) 11 ∧ w_fi ws (n_v vs 0) 11 ≤ 2000 := tv_rng (th_fd hD hth r0 (g := GG_150) rfl (k := 11) (t := (0, 0, 2000, [])) rfl rfl)
  have kz_0_15 : 0 ≤ w_fi ws (n_v vs 0) 15 ∧ w_fi ws (n_v vs 0) 15 ≤ 2000 := tv_rng (th_fd hD hth r0 (g := GG_150) rfl (k := 15) (t := (0, 0, 2000, [])) rfl rfl)
  have nf0 : fc_1 (20, [2], [50, 2, 0, 15, 11, 0, 7, 4, 3, 2, 0, 15, 0, 1, 2, 0, 11]) ws (vs) := by
    refine ⟨fun n hn => ?_, ?_⟩
    · have hn : n ∈ [2] := hn
      rw [hl]
      simp only [List.mem_cons, List.not_mem_nil, or_false] at hn
      show n < 8; omega
    · show (w_fi ws (n_v vs 2) 15 + 1) ≤ w_fi ws (n_v vs 2) 11
      rw [q2]
      first | omega | grind
  refine ⟨(fun _ h => (by cases h)), [], trivial, ?_, (fun _ h => (by cases h))⟩
  rw [List.append_nil]
  exact List.forall_mem_cons.mpr ⟨⟨show (20 : Nat) < 100 from by decide, nf0⟩, (fun _ h => (by cases h))⟩
def o_Mo_next_40 : or_T := (252, 8, [(0, (2, 0, 0, [150])), (1, (0, 0, 2000, [])), (2, (2, 0, 0, [150])), (5, (0, 0, 1999, [])), (6, (0, 0, 47, []))], [(20, [5, 2, 6], [50, 1, 1, 1010, 1001, 4, 11, 0, 6, 4, 2, 1, 0, 0, 1, 2, 1, 10, 1, 2, 1, 2, 9, 5, 3, 1, 1, 1, 0, 0, 256]), (20, [2, 5, 6], [50, 1, 0, 10, 4, 7, 0, 3, 2, 0, 10, 1, 1, 1, 2, 1, 2, 0, -1]), (9, [5, 2], [11]), (20, [1, 2], [30, 0, 1, 0, 0, -1, 1, 15]), (20, [2], [50, 3, 1, 15, 11, 10, 1, 2, 8, 0, 3, 2, 0, 15, 2, 0, 11, 3, 12, 0, 7, 4, 3, 2, 0, 15, 0, 1, 2, 0, 11, 2, 8, 1, 3, 2, 0, 11, 2, 0, 15, 2, 12, 0, 7, 4, 3, 2, 0, 15, 0, 1, 2, 0, 10, 2, 14, 0, 2, 0, 48, 9, 6, 3, 0, 1, 2, 0, 15, 0, 256, 0, 10, 9, 6, 3, 0, 1, 2, 0, 15, 0, 256, 0, 57]), (24, [0, 2], [])], [], [], [(20, [2], [50, 2, 0, 15, 11, 0, 7, 4, 3, 2, 0, 15, 0, 1, 2, 0, 11])], [], [(1, 5, -4294967296, 2000), (5, 1, -4294967296, 2000)])
theorem oo_Mo_next_40 {kA : Nat → ClassId} : or_ok kA GG o_Mo_next_40 := by
  intro A ta ws vs hD hth hl hk hds hf
  have hl : vs.length = 8 := hl
  have hk : ∀ q ∈ ([(0, (2, 0, 0, [150])), (1, (0, 0, 2000, [])), (2, (2, 0, 0, [150])), (5, (0, 0, 1999, [])), (6, (0, 0, 47, []))] : List (Nat × tv_T)), tv_ok ta q.2 (n_v vs q.1) := hk
  obtain ⟨t0, hk⟩ := List.forall_mem_cons.mp hk
  have t0 : tv_ok ta (2, 0, 0, [150]) (n_v vs 0) := t0
  have r0 : ta (v_ad (n_v vs 0)) = some 150 := tv_rg t0
  obtain ⟨t1, hk⟩ := List.forall_mem_cons.mp hk
  have t1 : tv_ok ta (0, 0, 2000, []) (n_v vs 1) := t1
  have k1 : 0 ≤ v_iv (n_v vs 1) ∧ v_iv (n_v vs 1) ≤ 2000 := tv_rng t1
  obtain ⟨t2, hk⟩ := List.forall_mem_cons.mp hk
  have t2 : tv_ok ta (2, 0, 0, [150]) (n_v vs 2) := t2
  have r2 : ta (v_ad (n_v vs 2)) = some 150 := tv_rg t2
  obtain ⟨t5, hk⟩ := List.forall_mem_cons.mp hk
  have t5 : tv_ok ta (0, 0, 1999, []) (n_v vs 5) := t5
  have k5 : 0 ≤ v_iv (n_v vs 5) ∧ v_iv (n_v vs 5) ≤ 1999 := tv_rng t5
  obtain ⟨t6, hk⟩ := List.forall_mem_cons.mp hk
  have t6 : tv_ok ta (0, 0, 47, []) (n_v vs 6) := t6
  have k6 : 0 ≤ v_iv (n_v vs 6) ∧ v_iv (n_v vs 6) ≤ 47 := tv_rng t6
  have hds : ∀ q ∈ ([(1, 5, -4294967296, 2000), (5, 1, -4294967296, 2000)] : List of_T), n_iv vs q.2.1 + q.2.2.1 ≤ n_iv vs q.1 ∧ n_iv vs q.1 ≤ n_iv vs q.2.1 + q.2.2.2 := hds
  obtain ⟨d0, hds⟩ := List.forall_mem_cons.mp hds
  have d0 : v_iv (n_v vs 5) + (-4294967296) ≤ v_iv (n_v vs 1) ∧ v_iv (n_v vs 1) ≤ v_iv (n_v vs 5) + 2000 := d0
  obtain ⟨d1, hds⟩ := List.forall_mem_cons.mp hds
  have d1 : v_iv (n_v vs 1) + (-4294967296) ≤ v_iv (n_v vs 5) ∧ v_iv (n_v vs 5) ≤ v_iv (n_v vs 1) + 2000 := d1
  have hf : fc_ok [(20, [5, 2, 6], [50, 1, 1, 1010, 1001, 4, 11, 0, 6, 4, 2, 1, 0, 0, 1, 2, 1, 10, 1, 2, 1, 2, 9, 5, 3, 1, 1, 1, 0, 0, 256]), (20, [2, 5, 6], [50, 1, 0, 10, 4, 7, 0, 3, 2, 0, 10, 1, 1, 1, 2, 1, 2, 0, -1]), (9, [5, 2], [11]), (20, [1, 2], [30, 0, 1, 0, 0, -1, 1, 15]), (20, [2], [50, 3, 1, 15, 11, 10, 1, 2, 8, 0, 3, 2, 0, 15, 2, 0, 11, 3, 12, 0, 7, 4, 3, 2, 0, 15, 0, 1, 2, 0, 11, 2, 8, 1, 3, 2, 0, 11, 2, 0, 15, 2, 12, 0, 7, 4, 3, 2, 0, 15, 0, 1, 2, 0, 10, 2, 14, 0, 2, 0, 48, 9, 6, 3, 0, 1, 2, 0, 15, 0, 256, 0, 10, 9, 6, 3, 0, 1, 2, 0, 15, 0, 256, 0, 57]), (24, [0, 2], [])] ta ws vs := hf
  obtain ⟨f0, hf⟩ := fc_un (show (20 : Nat) < 100 from by decide) hf
  have f0 : ((v_iv (n_v vs 5) + 1) ≤ w_fi ws (n_v vs 2) 10) → (v_iv (n_v vs 6) = (w_ei ws (w_ar ws (n_v vs 2) 1) (v_iv (n_v vs 5)) % 256)) := f0
  obtain ⟨f1, hf⟩ := fc_un (show (20 : Nat) < 100 from by decide) hf
  have f1 : (w_fi ws (n_v vs 2) 10 ≤ v_iv (n_v vs 5)) → (v_iv (n_v vs 6) = (-1)) := f1
  obtain ⟨f2, hf⟩ := fc_un (show (9 : Nat) < 100 from by decide) hf
  have f2 : n_v vs 5 = w_fd ws (v_ad (n_v vs 2)) 11 := f2
  obtain ⟨f3, hf⟩ := fc_un (show (20 : Nat) < 100 from by decide) hf
  have f3 : 1 * v_iv (n_v vs 1) + ((-1) * w_fi ws (n_v vs 2) 15 + 0) ≤ 0 := f3
  obtain ⟨f4, hf⟩ := fc_un (show (20 : Nat) < 100 from by decide) hf
  have f4 : (w_fi ws (n_v vs 2) 15 ≤ w_fi ws (n_v vs 2) 11) ∧ (((w_fi ws (n_v vs 2) 15 + 1) ≤ w_fi ws (n_v vs 2) 11) ∨ ((w_fi ws (n_v vs 2) 11 = w_fi ws (n_v vs 2) 15) ∧ (((w_fi ws (n_v vs 2) 15 + 1) ≤ w_fi ws (n_v vs 2) 10) ∧ ((48 ≤ (w_ei ws (w_ar ws (n_v vs 2) 1) (w_fi ws (n_v vs 2) 15) % 256)) ∧ ((w_ei ws (w_ar ws (n_v vs 2) 1) (w_fi ws (n_v vs 2) 15) % 256) ≤ 57))))) := f4
  obtain ⟨f5, hf⟩ := fc_un (show (24 : Nat) < 100 from by decide) hf
  have f5 : n_v vs 0 = n_v vs 2 := f5
  have q2 : n_v vs 2 = n_v vs 0 := f5.symm
  rw [q2] at f0
  rw [q2] at f1
  rw [q2] at f2
  rw [q2] at f3
  rw [q2] at f4
  have cr_0_1 : ta (w_ar ws (n_v vs 0) 1) = some 151 := tv_rg (th_fd hD hth r0 (g := GG_150) rfl (k := 1) (t := (2, 0, 0, [151])) rfl rfl)
  have g2 : v_iv (n_v vs 5) = w_fi ws (n_v vs 0) 11 := congrArg v_iv f2
  have hK_0_1 : ∀ j : Int, 0 ≤ j → j < 2000 → (-128) ≤ w_ei ws (w_ar ws (n_v vs 0) 1) j ∧ w_ei ws (w_ar ws (n_v vs 0) 1) j ≤ 127 := fun j h0 h1 => th_el hD hth cr_0_1 (kd := 1) (n := 2000) (m := 2000) (lo := (-128)) (hi := 127) (rs := []) (L := []) rfl (by decide) (j := j.toNat) (by omega)
  have kz_0_10 : 0 ≤ w_fi ws (n_v vs 0) 10 ∧ w_fi ws (n_v vs 0) 10 ≤ 2000 := tv_rng (th_fd hD hth r0 (g := GG_150) rfl (k := 10) (t := (0, 0, 2000, [])) rfl rfl)
  have kz_0_11 : 0 ≤ w_fi ws (n_v vs 0) 11 ∧ w_fi ws (n_v vs 0) 11 ≤ 2000 := tv_rng (th_fd hD hth r0 (g := GG_150) rfl (k := 11) (t := (0, 0, 2000, [])) rfl rfl)
  have kz_0_15 : 0 ≤ w_fi ws (n_v vs 0) 15 ∧ w_fi ws (n_v vs 0) 15 ≤ 2000 := tv_rng (th_fd hD hth r0 (g := GG_150) rfl (k := 15) (t := (0, 0, 2000, [])) rfl rfl)
  have nf0 : fc_1 (20, [2], [50, 2, 0, 15, 11, 0, 7, 4, 3, 2, 0, 15, 0, 1, 2, 0, 11]) ws (vs) := by
    refine ⟨fun n hn => ?_, ?_⟩
    · have hn : n ∈ [2] := hn
      rw [hl]
      simp only [List.mem_cons, List.not_mem_nil, or_false] at hn
      show n < 8; omega
    · show (w_fi ws (n_v vs 2) 15 + 1) ≤ w_fi ws (n_v vs 2) 11
      rw [q2]
      first | omega | grind
  refine ⟨(fun _ h => (by cases h)), [], trivial, ?_, (fun _ h => (by cases h))⟩
  rw [List.append_nil]
  exact List.forall_mem_cons.mpr ⟨⟨show (20 : Nat) < 100 from by decide, nf0⟩, (fun _ h => (by cases h))⟩
def o_Mo_next_41 : or_T := (252, 8, [(0, (2, 0, 0, [150])), (1, (0, 0, 2000, [])), (2, (2, 0, 0, [150])), (5, (0, 0, 1999, [])), (6, (0, 58, 255, []))], [(20, [5, 2, 6], [50, 1, 1, 1010, 1001, 4, 11, 0, 6, 4, 2, 1, 0, 0, 1, 2, 1, 10, 1, 2, 1, 2, 9, 5, 3, 1, 1, 1, 0, 0, 256]), (20, [2, 5, 6], [50, 1, 0, 10, 4, 7, 0, 3, 2, 0, 10, 1, 1, 1, 2, 1, 2, 0, -1]), (9, [5, 2], [11]), (20, [1, 2], [30, 0, 1, 0, 0, -1, 1, 15]), (20, [2], [50, 3, 1, 15, 11, 10, 1, 2, 8, 0, 3, 2, 0, 15, 2, 0, 11, 3, 12, 0, 7, 4, 3, 2, 0, 15, 0, 1, 2, 0, 11, 2, 8, 1, 3, 2, 0, 11, 2, 0, 15, 2, 12, 0, 7, 4, 3, 2, 0, 15, 0, 1, 2, 0, 10, 2, 14, 0, 2, 0, 48, 9, 6, 3, 0, 1, 2, 0, 15, 0, 256, 0, 10, 9, 6, 3, 0, 1, 2, 0, 15, 0, 256, 0, 57]), (24, [0, 2], [])], [], [], [(20, [2], [50, 2, 0, 15, 11, 0, 7, 4, 3, 2, 0, 15, 0, 1, 2, 0, 11])], [], [(1, 5, -4294967296, 2000), (5, 1, -4294967296, 2000)])
theorem oo_Mo_next_41 {kA : Nat → ClassId} : or_ok kA GG o_Mo_next_41 := by
  intro A ta ws vs hD hth hl hk hds hf
  have hl : vs.length = 8 := hl
  have hk : ∀ q ∈ ([(0, (2, 0, 0, [150])), (1, (0, 0, 2000, [])), (2, (2, 0, 0, [150])), (5, (0, 0, 1999, [])), (6, (0, 58, 255, []))] : List (Nat × tv_T)), tv_ok ta q.2 (n_v vs q.1) := hk
  obtain ⟨t0, hk⟩ := List.forall_mem_cons.mp hk
  have t0 : tv_ok ta (2, 0, 0, [150]) (n_v vs 0) := t0
  have r0 : ta (v_ad (n_v vs 0)) = some 150 := tv_rg t0
  obtain ⟨t1, hk⟩ := List.forall_mem_cons.mp hk
  have t1 : tv_ok ta (0, 0, 2000, []) (n_v vs 1) := t1
  have k1 : 0 ≤ v_iv (n_v vs 1) ∧ v_iv (n_v vs 1) ≤ 2000 := tv_rng t1
  obtain ⟨t2, hk⟩ := List.forall_mem_cons.mp hk
  have t2 : tv_ok ta (2, 0, 0, [150]) (n_v vs 2) := t2
  have r2 : ta (v_ad (n_v vs 2)) = some 150 := tv_rg t2
  obtain ⟨t5, hk⟩ := List.forall_mem_cons.mp hk
  have t5 : tv_ok ta (0, 0, 1999, []) (n_v vs 5) := t5
  have k5 : 0 ≤ v_iv (n_v vs 5) ∧ v_iv (n_v vs 5) ≤ 1999 := tv_rng t5
  obtain ⟨t6, hk⟩ := List.forall_mem_cons.mp hk
  have t6 : tv_ok ta (0, 58, 255, []) (n_v vs 6) := t6
  have k6 : 58 ≤ v_iv (n_v vs 6) ∧ v_iv (n_v vs 6) ≤ 255 := tv_rng t6
  have hds : ∀ q ∈ ([(1, 5, -4294967296, 2000), (5, 1, -4294967296, 2000)] : List of_T), n_iv vs q.2.1 + q.2.2.1 ≤ n_iv vs q.1 ∧ n_iv vs q.1 ≤ n_iv vs q.2.1 + q.2.2.2 := hds
  obtain ⟨d0, hds⟩ := List.forall_mem_cons.mp hds
  have d0 : v_iv (n_v vs 5) + (-4294967296) ≤ v_iv (n_v vs 1) ∧ v_iv (n_v vs 1) ≤ v_iv (n_v vs 5) + 2000 := d0
  obtain ⟨d1, hds⟩ := List.forall_mem_cons.mp hds
  have d1 : v_iv (n_v vs 1) + (-4294967296) ≤ v_iv (n_v vs 5) ∧ v_iv (n_v vs 5) ≤ v_iv (n_v vs 1) + 2000 := d1
  have hf : fc_ok [(20, [5, 2, 6], [50, 1, 1, 1010, 1001, 4, 11, 0, 6, 4, 2, 1, 0, 0, 1, 2, 1, 10, 1, 2, 1, 2, 9, 5, 3, 1, 1, 1, 0, 0, 256]), (20, [2, 5, 6], [50, 1, 0, 10, 4, 7, 0, 3, 2, 0, 10, 1, 1, 1, 2, 1, 2, 0, -1]), (9, [5, 2], [11]), (20, [1, 2], [30, 0, 1, 0, 0, -1, 1, 15]), (20, [2], [50, 3, 1, 15, 11, 10, 1, 2, 8, 0, 3, 2, 0, 15, 2, 0, 11, 3, 12, 0, 7, 4, 3, 2, 0, 15, 0, 1, 2, 0, 11, 2, 8, 1, 3, 2, 0, 11, 2, 0, 15, 2, 12, 0, 7, 4, 3, 2, 0, 15, 0, 1, 2, 0, 10, 2, 14, 0, 2, 0, 48, 9, 6, 3, 0, 1, 2, 0, 15, 0, 256, 0, 10, 9, 6, 3, 0, 1, 2, 0, 15, 0, 256, 0, 57]), (24, [0, 2], [])] ta ws vs := hf
  obtain ⟨f0, hf⟩ := fc_un (show (20 : Nat) < 100 from by decide) hf
  have f0 : ((v_iv (n_v vs 5) + 1) ≤ w_fi ws (n_v vs 2) 10) → (v_iv (n_v vs 6) = (w_ei ws (w_ar ws (n_v vs 2) 1) (v_iv (n_v vs 5)) % 256)) := f0
  obtain ⟨f1, hf⟩ := fc_un (show (20 : Nat) < 100 from by decide) hf
  have f1 : (w_fi ws (n_v vs 2) 10 ≤ v_iv (n_v vs 5)) → (v_iv (n_v vs 6) = (-1)) := f1
  obtain ⟨f2, hf⟩ := fc_un (show (9 : Nat) < 100 from by decide) hf
  have f2 : n_v vs 5 = w_fd ws (v_ad (n_v vs 2)) 11 := f2
  obtain ⟨f3, hf⟩ := fc_un (show (20 : Nat) < 100 from by decide) hf
  have f3 : 1 * v_iv (n_v vs 1) + ((-1) * w_fi ws (n_v vs 2) 15 + 0) ≤ 0 := f3
  obtain ⟨f4, hf⟩ := fc_un (show (20 : Nat) < 100 from by decide) hf
  have f4 : (w_fi ws (n_v vs 2) 15 ≤ w_fi ws (n_v vs 2) 11) ∧ (((w_fi ws (n_v vs 2) 15 + 1) ≤ w_fi ws (n_v vs 2) 11) ∨ ((w_fi ws (n_v vs 2) 11 = w_fi ws (n_v vs 2) 15) ∧ (((w_fi ws (n_v vs 2) 15 + 1) ≤ w_fi ws (n_v vs 2) 10) ∧ ((48 ≤ (w_ei ws (w_ar ws (n_v vs 2) 1) (w_fi ws (n_v vs 2) 15) % 256)) ∧ ((w_ei ws (w_ar ws (n_v vs 2) 1) (w_fi ws (n_v vs 2) 15) % 256) ≤ 57))))) := f4
  obtain ⟨f5, hf⟩ := fc_un (show (24 : Nat) < 100 from by decide) hf
  have f5 : n_v vs 0 = n_v vs 2 := f5
  have q2 : n_v vs 2 = n_v vs 0 := f5.symm
  rw [q2] at f0
  rw [q2] at f1
  rw [q2] at f2
  rw [q2] at f3
  rw [q2] at f4
  have cr_0_1 : ta (w_ar ws (n_v vs 0) 1) = some 151 := tv_rg (th_fd hD hth r0 (g := GG_150) rfl (k := 1) (t := (2, 0, 0, [151])) rfl rfl)
  have g2 : v_iv (n_v vs 5) = w_fi ws (n_v vs 0) 11 := congrArg v_iv f2
  have hK_0_1 : ∀ j : Int, 0 ≤ j → j < 2000 → (-128) ≤ w_ei ws (w_ar ws (n_v vs 0) 1) j ∧ w_ei ws (w_ar ws (n_v vs 0) 1) j ≤ 127 := fun j h0 h1 => th_el hD hth cr_0_1 (kd := 1) (n := 2000) (m := 2000) (lo := (-128)) (hi := 127) (rs := []) (L := []) rfl (by decide) (j := j.toNat) (by omega)
  have kz_0_10 : 0 ≤ w_fi ws (n_v vs 0) 10 ∧ w_fi ws (n_v vs 0) 10 ≤ 2000 := tv_rng (th_fd hD hth r0 (g := GG_150) rfl (k := 10) (t := (0, 0, 2000, [])) rfl rfl)
  have kz_0_11 : 0 ≤ w_fi ws (n_v vs 0) 11 ∧ w_fi ws (n_v vs 0) 11 ≤ 2000 := tv_rng (th_fd hD hth r0 (g := GG_150) rfl (k := 11) (t := (0, 0, 2000, [])) rfl rfl)
  have kz_0_15 : 0 ≤ w_fi ws (n_v vs 0) 15 ∧ w_fi ws (n_v vs 0) 15 ≤ 2000 := tv_rng (th_fd hD hth r0 (g := GG_150) rfl (k := 15) (t := (0, 0, 2000, [])) rfl rfl)
  have nf0 : fc_1 (20, [2], [50, 2, 0, 15, 11, 0, 7, 4, 3, 2, 0, 15, 0, 1, 2, 0, 11]) ws (vs) := by
    refine ⟨fun n hn => ?_, ?_⟩
    · have hn : n ∈ [2] := hn
      rw [hl]
      simp only [List.mem_cons, List.not_mem_nil, or_false] at hn
      show n < 8; omega
    · show (w_fi ws (n_v vs 2) 15 + 1) ≤ w_fi ws (n_v vs 2) 11
      rw [q2]
      first | omega | grind
  refine ⟨(fun _ h => (by cases h)), [], trivial, ?_, (fun _ h => (by cases h))⟩
  rw [List.append_nil]
  exact List.forall_mem_cons.mpr ⟨⟨show (20 : Nat) < 100 from by decide, nf0⟩, (fun _ h => (by cases h))⟩
def o_Mo_next_42 : or_T := (185, 17, [(0, (2, 0, 0, [150])), (1, (0, 0, 2000, [])), (2, (2, 0, 0, [150])), (5, (0, 0, 1999, [])), (6, (0, 48, 57, [])), (11, (0, -1, -1, [])), (15, (0, 1, 1, [])), (16, (0, 1, 2000, []))], [(20, [5, 2, 11], [50, 1, 1, 1010, 1001, 4, 11, 0, 6, 4, 2, 1, 0, 0, 1, 2, 1, 10, 1, 2, 1, 2, 9, 5, 3, 1, 1, 1, 0, 0, 256]), (20, [2, 5, 11], [50, 1, 0, 10, 4, 7, 0, 3, 2, 0, 10, 1, 1, 1, 2, 1, 2, 0, -1]), (20, [5, 2, 6], [50, 1, 1, 1010, 1001, 4, 11, 0, 6, 4, 2, 1, 0, 0, 1, 2, 1, 10, 1, 2, 1, 2, 9, 5, 3, 1, 1, 1, 0, 0, 256]), (20, [2, 5, 6], [50, 1, 0, 10, 4, 7, 0, 3, 2, 0, 10, 1, 1, 1, 2, 1, 2, 0, -1]), (20, [1, 2], [30, 0, 1, 0, 0, -1, 1, 15]), (24, [0, 2], []), (101, [2, 16], [11]), (1, [16, 5, 15], []), (9, [5, 2], [11]), (20, [5, 2, 11], [50, 1, 1, 1010, 1001, 4, 11, 0, 6, 4, 2, 1, 0, 0, 1, 2, 1, 10, 1, 2, 1, 2, 9, 5, 3, 1, 1, 1, 0, 0, 256]), (20, [2, 5, 11], [50, 1, 0, 10, 4, 7, 0, 3, 2, 0, 10, 1, 1, 1, 2, 1, 2, 0, -1]), (20, [5, 2, 6], [50, 1, 1, 1010, 1001, 4, 11, 0, 6, 4, 2, 1, 0, 0, 1, 2, 1, 10, 1, 2, 1, 2, 9, 5, 3, 1, 1, 1, 0, 0, 256]), (20, [2, 5, 6], [50, 1, 0, 10, 4, 7, 0, 3, 2, 0, 10, 1, 1, 1, 2, 1, 2, 0, -1]), (20, [1, 2], [30, 0, 1, 0, 0, -1, 1, 15]), (20, [2], [50, 3, 1, 15, 11, 10, 1, 2, 8, 0, 3, 2, 0, 15, 2, 0, 11, 3, 12, 0, 7, 4, 3, 2, 0, 15, 0, 1, 2, 0, 11, 2, 8, 1, 3, 2, 0, 11, 2, 0, 15, 2, 12, 0, 7, 4, 3, 2, 0, 15, 0, 1, 2, 0, 10, 2, 14, 0, 2, 0, 48, 9, 6, 3, 0, 1, 2, 0, 15, 0, 256, 0, 10, 9, 6, 3, 0, 1, 2, 0, 15, 0, 256, 0, 57]), (101, [2, 14], [14]), (20, [5, 2, 11], [50, 1, 1, 1010, 1001, 4, 11, 0, 6, 4, 2, 1, 0, 0, 1, 2, 1, 10, 1, 2, 1, 2, 9, 5, 3, 1, 1, 1, 0, 0, 256]), (20, [2, 5, 11], [50, 1, 0, 10, 4, 7, 0, 3, 2, 0, 10, 1, 1, 1, 2, 1, 2, 0, -1]), (20, [5, 2, 6], [50, 1, 1, 1010, 1001, 4, 11, 0, 6, 4, 2, 1, 0, 0, 1, 2, 1, 10, 1, 2, 1, 2, 9, 5, 3, 1, 1, 1, 0, 0, 256]), (20, [2, 5, 6], [50, 1, 0, 10, 4, 7, 0, 3, 2, 0, 10, 1, 1, 1, 2, 1, 2, 0, -1]), (20, [1, 2], [30, 0, 1, 0, 0, -1, 1, 15]), (20, [2], [50, 3, 1, 15, 11, 10, 1, 2, 8, 0, 3, 2, 0, 15, 2, 0, 11, 3, 12, 0, 7, 4, 3, 2, 0, 15, 0, 1, 2, 0, 11, 2, 8, 1, 3, 2, 0, 11, 2, 0, 15, 2, 12, 0, 7, 4, 3, 2, 0, 15, 0, 1, 2, 0, 10, 2, 14, 0, 2, 0, 48, 9, 6, 3, 0, 1, 2, 0, 15, 0, 256, 0, 10, 9, 6, 3, 0, 1, 2, 0, 15, 0, 256, 0, 57])], [], [], [(20, [2], [50, 3, 1, 15, 11, 10, 1, 2, 8, 0, 3, 2, 0, 15, 2, 0, 11, 3, 12, 0, 7, 4, 3, 2, 0, 15, 0, 1, 2, 0, 11, 2, 8, 1, 3, 2, 0, 11, 2, 0, 15, 2, 12, 0, 7, 4, 3, 2, 0, 15, 0, 1, 2, 0, 10, 2, 14, 0, 2, 0, 48, 9, 6, 3, 0, 1, 2, 0, 15, 0, 256, 0, 10, 9, 6, 3, 0, 1, 2, 0, 15, 0, 256, 0, 57])], [], [(16, 5, 1, 1), (16, 1, -4294967296, 2001), (1, 5, -4294967296, 2000), (5, 1, -4294967296, 2000)])
theorem oo_Mo_next_42 {kA : Nat → ClassId} : or_ok kA GG o_Mo_next_42 := by
  intro A ta ws vs hD hth hl hk hds hf
  have hl : vs.length = 17 := hl
  have hk : ∀ q ∈ ([(0, (2, 0, 0, [150])), (1, (0, 0, 2000, [])), (2, (2, 0, 0, [150])), (5, (0, 0, 1999, [])), (6, (0, 48, 57, [])), (11, (0, -1, -1, [])), (15, (0, 1, 1, [])), (16, (0, 1, 2000, []))] : List (Nat × tv_T)), tv_ok ta q.2 (n_v vs q.1) := hk
  obtain ⟨t0, hk⟩ := List.forall_mem_cons.mp hk
  have t0 : tv_ok ta (2, 0, 0, [150]) (n_v vs 0) := t0
  have r0 : ta (v_ad (n_v vs 0)) = some 150 := tv_rg t0
  obtain ⟨t1, hk⟩ := List.forall_mem_cons.mp hk
  have t1 : tv_ok ta (0, 0, 2000, []) (n_v vs 1) := t1
  have k1 : 0 ≤ v_iv (n_v vs 1) ∧ v_iv (n_v vs 1) ≤ 2000 := tv_rng t1
  obtain ⟨t2, hk⟩ := List.forall_mem_cons.mp hk
  have t2 : tv_ok ta (2, 0, 0, [150]) (n_v vs 2) := t2
  have r2 : ta (v_ad (n_v vs 2)) = some 150 := tv_rg t2
  obtain ⟨t5, hk⟩ := List.forall_mem_cons.mp hk
  have t5 : tv_ok ta (0, 0, 1999, []) (n_v vs 5) := t5
  have k5 : 0 ≤ v_iv (n_v vs 5) ∧ v_iv (n_v vs 5) ≤ 1999 := tv_rng t5
  obtain ⟨t6, hk⟩ := List.forall_mem_cons.mp hk
  have t6 : tv_ok ta (0, 48, 57, []) (n_v vs 6) := t6
  have k6 : 48 ≤ v_iv (n_v vs 6) ∧ v_iv (n_v vs 6) ≤ 57 := tv_rng t6
  obtain ⟨t11, hk⟩ := List.forall_mem_cons.mp hk
  have t11 : tv_ok ta (0, -1, -1, []) (n_v vs 11) := t11
  have k11 : (-1) ≤ v_iv (n_v vs 11) ∧ v_iv (n_v vs 11) ≤ (-1) := tv_rng t11
  obtain ⟨t15, hk⟩ := List.forall_mem_cons.mp hk
  have t15 : tv_ok ta (0, 1, 1, []) (n_v vs 15) := t15
  have k15 : 1 ≤ v_iv (n_v vs 15) ∧ v_iv (n_v vs 15) ≤ 1 := tv_rng t15
  obtain ⟨t16, hk⟩ := List.forall_mem_cons.mp hk
  have t16 : tv_ok ta (0, 1, 2000, []) (n_v vs 16) := t16
  have k16 : 1 ≤ v_iv (n_v vs 16) ∧ v_iv (n_v vs 16) ≤ 2000 := tv_rng t16
  have hds : ∀ q ∈ ([(16, 5, 1, 1), (16, 1, -4294967296, 2001), (1, 5, -4294967296, 2000), (5, 1, -4294967296, 2000)] : List of_T), n_iv vs q.2.1 + q.2.2.1 ≤ n_iv vs q.1 ∧ n_iv vs q.1 ≤ n_iv vs q.2.1 + q.2.2.2 := hds
  obtain ⟨d0, hds⟩ := List.forall_mem_cons.mp hds
  have d0 : v_iv (n_v vs 5) + 1 ≤ v_iv (n_v vs 16) ∧ v_iv (n_v vs 16) ≤ v_iv (n_v vs 5) + 1 := d0
  obtain ⟨d1, hds⟩ := List.forall_mem_cons.mp hds
  have d1 : v_iv (n_v vs 1) + (-4294967296) ≤ v_iv (n_v vs 16) ∧ v_iv (n_v vs 16) ≤ v_iv (n_v vs 1) + 2001 := d1
  obtain ⟨d2, hds⟩ := List.forall_mem_cons.mp hds
  have d2 : v_iv (n_v vs 5) + (-4294967296) ≤ v_iv (n_v vs 1) ∧ v_iv (n_v vs 1) ≤ v_iv (n_v vs 5) + 2000 := d2
  obtain ⟨d3, hds⟩ := List.forall_mem_cons.mp hds
  have d3 : v_iv (n_v vs 1) + (-4294967296) ≤ v_iv (n_v vs 5) ∧ v_iv (n_v vs 5) ≤ v_iv (n_v vs 1) + 2000 := d3
  have hf : fc_ok [(20, [5, 2, 11], [50, 1, 1, 1010, 1001, 4, 11, 0, 6, 4, 2, 1, 0, 0, 1, 2, 1, 10, 1, 2, 1, 2, 9, 5, 3, 1, 1, 1, 0, 0, 256]), (20, [2, 5, 11], [50, 1, 0, 10, 4, 7, 0, 3, 2, 0, 10, 1, 1, 1, 2, 1, 2, 0, -1]), (20, [5, 2, 6], [50, 1, 1, 1010, 1001, 4, 11, 0, 6, 4, 2, 1, 0, 0, 1, 2, 1, 10, 1, 2, 1, 2, 9, 5, 3, 1, 1, 1, 0, 0, 256]), (20, [2, 5, 6], [50, 1, 0, 10, 4, 7, 0, 3, 2, 0, 10, 1, 1, 1, 2, 1, 2, 0, -1]), (20, [1, 2], [30, 0, 1, 0, 0, -1, 1, 15]), (24, [0, 2], []), (101, [2, 16], [11]), (1, [16, 5, 15], []), (9, [5, 2], [11]), (20, [5, 2, 11], [50, 1, 1, 1010, 1001, 4, 11, 0, 6, 4, 2, 1, 0, 0, 1, 2, 1, 10, 1, 2, 1, 2, 9, 5, 3, 1, 1, 1, 0, 0, 256]), (20, [2, 5, 11], [50, 1, 0, 10, 4, 7, 0, 3, 2, 0, 10, 1, 1, 1, 2, 1, 2, 0, -1]), (20, [5, 2, 6], [50, 1, 1, 1010, 1001, 4, 11, 0, 6, 4, 2, 1, 0, 0, 1, 2, 1, 10, 1, 2, 1, 2, 9, 5, 3, 1, 1, 1, 0, 0, 256]), (20, [2, 5, 6], [50, 1, 0, 10, 4, 7, 0, 3, 2, 0, 10, 1, 1, 1, 2, 1, 2, 0, -1]), (20, [1, 2], [30, 0, 1, 0, 0, -1, 1, 15]), (20, [2], [50, 3, 1, 15, 11, 10, 1, 2, 8, 0, 3, 2, 0, 15, 2, 0, 11, 3, 12, 0, 7, 4, 3, 2, 0, 15, 0, 1, 2, 0, 11, 2, 8, 1, 3, 2, 0, 11, 2, 0, 15, 2, 12, 0, 7, 4, 3, 2, 0, 15, 0, 1, 2, 0, 10, 2, 14, 0, 2, 0, 48, 9, 6, 3, 0, 1, 2, 0, 15, 0, 256, 0, 10, 9, 6, 3, 0, 1, 2, 0, 15, 0, 256, 0, 57]), (101, [2, 14], [14]), (20, [5, 2, 11], [50, 1, 1, 1010, 1001, 4, 11, 0, 6, 4, 2, 1, 0, 0, 1, 2, 1, 10, 1, 2, 1, 2, 9, 5, 3, 1, 1, 1, 0, 0, 256]), (20, [2, 5, 11], [50, 1, 0, 10, 4, 7, 0, 3, 2, 0, 10, 1, 1, 1, 2, 1, 2, 0, -1]), (20, [5, 2, 6], [50, 1, 1, 1010, 1001, 4, 11, 0, 6, 4, 2, 1, 0, 0, 1, 2, 1, 10, 1, 2, 1, 2, 9, 5, 3, 1, 1, 1, 0, 0, 256]), (20, [2, 5, 6], [50, 1, 0, 10, 4, 7, 0, 3, 2, 0, 10, 1, 1, 1, 2, 1, 2, 0, -1]), (20, [1, 2], [30, 0, 1, 0, 0, -1, 1, 15]), (20, [2], [50, 3, 1, 15, 11, 10, 1, 2, 8, 0, 3, 2, 0, 15, 2, 0, 11, 3, 12, 0, 7, 4, 3, 2, 0, 15, 0, 1, 2, 0, 11, 2, 8, 1, 3, 2, 0, 11, 2, 0, 15, 2, 12, 0, 7, 4, 3, 2, 0, 15, 0, 1, 2, 0, 10, 2, 14, 0, 2, 0, 48, 9, 6, 3, 0, 1, 2, 0, 15, 0, 256, 0, 10, 9, 6, 3, 0, 1, 2, 0, 15, 0, 256, 0, 57])] ta ws vs := hf
  obtain ⟨f0, hf⟩ := fc_un (show (20 : Nat) < 100 from by decide) hf
  have f0 : ((v_iv (n_v vs 5) + 1) ≤ w_fi ws (n_v vs 2) 10) → (v_iv (n_v vs 11) = (w_ei ws (w_ar ws (n_v vs 2) 1) (v_iv (n_v vs 5)) % 256)) := f0
  obtain ⟨f1, hf⟩ := fc_un (show (20 : Nat) < 100 from by decide) hf
  have f1 : (w_fi ws (n_v vs 2) 10 ≤ v_iv (n_v vs 5)) → (v_iv (n_v vs 11) = (-1)) := f1
  obtain ⟨f2, hf⟩ := fc_un (show (20 : Nat) < 100 from by decide) hf
  have f2 : ((v_iv (n_v vs 5) + 1) ≤ w_fi ws (n_v vs 2) 10) → (v_iv (n_v vs 6) = (w_ei ws (w_ar ws (n_v vs 2) 1) (v_iv (n_v vs 5)) % 256)) := f2
  obtain ⟨f3, hf⟩ := fc_un (show (20 : Nat) < 100 from by decide) hf
  have f3 : (w_fi ws (n_v vs 2) 10 ≤ v_iv (n_v vs 5)) → (v_iv (n_v vs 6) = (-1)) := f3
  obtain ⟨f4, hf⟩ := fc_un (show (20 : Nat) < 100 from by decide) hf
  have f4 : 1 * v_iv (n_v vs 1) + ((-1) * w_fi ws (n_v vs 2) 15 + 0) ≤ 0 := f4
  obtain ⟨f5, hf⟩ := fc_un (show (24 : Nat) < 100 from by decide) hf
  have f5 : n_v vs 0 = n_v vs 2 := f5
  obtain ⟨ta1, w1, le1, ⟨_, s1⟩, hf⟩ := fc_us (show ¬ (101 : Nat) < 100 from by decide) hf
  have s1 : (∀ b j, w_el ws b j = w_el w1 b j) ∧ ∀ b j, w_fd ws b j = if b = v_ad (n_v vs 2) ∧ j = 11 then n_v vs 16 else w_fd w1 b j := s1
  obtain ⟨f7, hf⟩ := fc_un (show (1 : Nat) < 100 from by decide) hf
  have f7 : v_iv (n_v vs 16) = v_iv (n_v vs 5) + v_iv (n_v vs 15) := f7
  obtain ⟨f8, hf⟩ := fc_un (show (9 : Nat) < 100 from by decide) hf
  have f8 : n_v vs 5 = w_fd w1 (v_ad (n_v vs 2)) 11 := f8
  obtain ⟨f9, hf⟩ := fc_un (show (20 : Nat) < 100 from by decide) hf
  have f9 : ((v_iv (n_v vs 5) + 1) ≤ w_fi w1 (n_v vs 2) 10) → (v_iv (n_v vs 11) = (w_ei w1 (w_ar w1 (n_v vs 2) 1) (v_iv (n_v vs 5)) % 256)) := f9
  obtain ⟨f10, hf⟩ := fc_un (show (20 : Nat) < 100 from by decide) hf
  have f10 : (w_fi w1 (n_v vs 2) 10 ≤ v_iv (n_v vs 5)) → (v_iv (n_v vs 11) = (-1)) := f10
  obtain ⟨f11, hf⟩ := fc_un (show (20 : Nat) < 100 from by decide) hf
  have f11 : ((v_iv (n_v vs 5) + 1) ≤ w_fi w1 (n_v vs 2) 10) → (v_iv (n_v vs 6) = (w_ei w1 (w_ar w1 (n_v vs 2) 1) (v_iv (n_v vs 5)) % 256)) := f11
  obtain ⟨f12, hf⟩ := fc_un (show (20 : Nat) < 100 from by decide) hf
  have f12 : (w_fi w1 (n_v vs 2) 10 ≤ v_iv (n_v vs 5)) → (v_iv (n_v vs 6) = (-1)) := f12
  obtain ⟨f13, hf⟩ := fc_un (show (20 : Nat) < 100 from by decide) hf
  have f13 : 1 * v_iv (n_v vs 1) + ((-1) * w_fi w1 (n_v vs 2) 15 + 0) ≤ 0 := f13
  obtain ⟨f14, hf⟩ := fc_un (show (20 : Nat) < 100 from by decide) hf
  have f14 : (w_fi w1 (n_v vs 2) 15 ≤ w_fi w1 (n_v vs 2) 11) ∧ (((w_fi w1 (n_v vs 2) 15 + 1) ≤ w_fi w1 (n_v vs 2) 11) ∨ ((w_fi w1 (n_v vs 2) 11 = w_fi w1 (n_v vs 2) 15) ∧ (((w_fi w1 (n_v vs 2) 15 + 1) ≤ w_fi w1 (n_v vs 2) 10) ∧ ((48 ≤ (w_ei w1 (w_ar w1 (n_v vs 2) 1) (w_fi w1 (n_v vs 2) 15) % 256)) ∧ ((w_ei w1 (w_ar w1 (n_v vs 2) 1) (w_fi w1 (n_v vs 2) 15) % 256) ≤ 57))))) := f14
  obtain ⟨ta2, w2, le2, ⟨_, s2⟩, hf⟩ := fc_us (show ¬ (101 : Nat) < 100 from by decide) hf
  have s2 : (∀ b j, w_el w1 b j = w_el w2 b j) ∧ ∀ b j, w_fd w1 b j = if b = v_ad (n_v vs 2) ∧ j = 14 then n_v vs 14 else w_fd w2 b j := s2
  obtain ⟨f16, hf⟩ := fc_un (show (20 : Nat) < 100 from by decide) hf
  have f16 : ((v_iv (n_v vs 5) + 1) ≤ w_fi w2 (n_v vs 2) 10) → (v_iv (n_v vs 11) = (w_ei w2 (w_ar w2 (n_v vs 2) 1) (v_iv (n_v vs 5)) % 256)) := f16
  obtain ⟨f17, hf⟩ := fc_un (show (20 : Nat) < 100 from by decide) hf
  have f17 : (w_fi w2 (n_v vs 2) 10 ≤ v_iv (n_v vs 5)) → (v_iv (n_v vs 11) = (-1)) := f17
  obtain ⟨f18, hf⟩ := fc_un (show (20 : Nat) < 100 from by decide) hf
  have f18 : ((v_iv (n_v vs 5) + 1) ≤ w_fi w2 (n_v vs 2) 10) → (v_iv (n_v vs 6) = (w_ei w2 (w_ar w2 (n_v vs 2) 1) (v_iv (n_v vs 5)) % 256)) := f18
  obtain ⟨f19, hf⟩ := fc_un (show (20 : Nat) < 100 from by decide) hf
  have f19 : (w_fi w2 (n_v vs 2) 10 ≤ v_iv (n_v vs 5)) → (v_iv (n_v vs 6) = (-1)) := f19
  obtain ⟨f20, hf⟩ := fc_un (show (20 : Nat) < 100 from by decide) hf
  have f20 : 1 * v_iv (n_v vs 1) + ((-1) * w_fi w2 (n_v vs 2) 15 + 0) ≤ 0 := f20
  obtain ⟨f21, hf⟩ := fc_un (show (20 : Nat) < 100 from by decide) hf
  have f21 : (w_fi w2 (n_v vs 2) 15 ≤ w_fi w2 (n_v vs 2) 11) ∧ (((w_fi w2 (n_v vs 2) 15 + 1) ≤ w_fi w2 (n_v vs 2) 11) ∨ ((w_fi w2 (n_v vs 2) 11 = w_fi w2 (n_v vs 2) 15) ∧ (((w_fi w2 (n_v vs 2) 15 + 1) ≤ w_fi w2 (n_v vs 2) 10) ∧ ((48 ≤ (w_ei w2 (w_ar w2 (n_v vs 2) 1) (w_fi w2 (n_v vs 2) 15) % 256)) ∧ ((w_ei w2 (w_ar w2 (n_v vs 2) 1) (w_fi w2 (n_v vs 2) 15) % 256) ≤ 57))))) := f21
  have q2 : n_v vs 2 = n_v vs 0 := f5.symm
  rw [q2] at f0
  rw [q2] at f1
  rw [q2] at f2
  rw [q2] at f3
  rw [q2] at f4
  rw [q2] at s1
  rw [q2] at f8
  rw [q2] at f9
  rw [q2] at f10
  rw [q2] at f11
  rw [q2] at f12
  rw [q2] at f13
  rw [q2] at f14
  rw [q2] at s2
  rw [q2] at f16
  rw [q2] at f17
  rw [q2] at f18
  rw [q2] at f19
  rw [q2] at f20
  rw [q2] at f21
  have ar_0_1_1 : w_ar w1 (n_v vs 0) 1 = w_ar ws (n_v vs 0) 1 := by show v_ad (w_fd w1 _ _) = v_ad (w_fd ws _ _); rw [s1.2, if_neg (fun e => absurd e.2 (by decide))]
  have ar_0_1_2 : w_ar w2 (n_v vs 0) 1 = w_ar ws (n_v vs 0) 1 := by rw [← ar_0_1_1]; show v_ad (w_fd w2 _ _) = v_ad (w_fd w1 _ _); rw [s2.2, if_neg (fun e => absurd e.2 (by decide))]
  have cr_0_1 : ta (w_ar ws (n_v vs 0) 1) = some 151 := tv_rg (th_fd hD hth r0 (g := GG_150) rfl (k := 1) (t := (2, 0, 0, [151])) rfl rfl)
  have g8 : v_iv (n_v vs 5) = w_fi w1 (n_v vs 0) 11 := congrArg v_iv f8
  rw [ar_0_1_1] at f9
  rw [ar_0_1_1] at f11
  rw [ar_0_1_1] at f14
  rw [ar_0_1_2] at f16
  rw [ar_0_1_2] at f18
  rw [ar_0_1_2] at f21
  have fe_0_10_1 : w_fi ws (n_v vs 0) 10 = w_fi w1 (n_v vs 0) 10 := by show v_iv (w_fd _ _ _) = v_iv (w_fd _ _ _); rw [s1.2, if_neg (fun e => absurd e.2 (by decide))]
  have fe_0_11_1 : w_fi ws (n_v vs 0) 11 = v_iv (n_v vs 16) := by show v_iv (w_fd _ _ _) = _; rw [s1.2, if_pos ⟨rfl, rfl⟩]
  have fe_0_15_1 : w_fi ws (n_v vs 0) 15 = w_fi w1 (n_v vs 0) 15 := by show v_iv (w_fd _ _ _) = v_iv (w_fd _ _ _); rw [s1.2, if_neg (fun e => absurd e.2 (by decide))]
  have fe_0_10_2 : w_fi w1 (n_v vs 0) 10 = w_fi w2 (n_v vs 0) 10 := by show v_iv (w_fd _ _ _) = v_iv (w_fd _ _ _); rw [s2.2, if_neg (fun e => absurd e.2 (by decide))]
  have fe_0_11_2 : w_fi w1 (n_v vs 0) 11 = w_fi w2 (n_v vs 0) 11 := by show v_iv (w_fd _ _ _) = v_iv (w_fd _ _ _); rw [s2.2, if_neg (fun e => absurd e.2 (by decide))]
  have fe_0_15_2 : w_fi w1 (n_v vs 0) 15 = w_fi w2 (n_v vs 0) 15 := by show v_iv (w_fd _ _ _) = v_iv (w_fd _ _ _); rw [s2.2, if_neg (fun e => absurd e.2 (by decide))]
  have hE_0_1_1 : ∀ j : Int, w_ei ws (w_ar ws (n_v vs 0) 1) j = w_ei w1 (w_ar ws (n_v vs 0) 1) j := fun j => s1.1 _ _
  have hE_0_1_2 : ∀ j : Int, w_ei w1 (w_ar ws (n_v vs 0) 1) j = w_ei w2 (w_ar ws (n_v vs 0) 1) j := fun j => s2.1 _ _
  have hK_0_1 : ∀ j : Int, 0 ≤ j → j < 2000 → (-128) ≤ w_ei ws (w_ar ws (n_v vs 0) 1) j ∧ w_ei ws (w_ar ws (n_v vs 0) 1) j ≤ 127 := fun j h0 h1 => th_el hD hth cr_0_1 (kd := 1) (n := 2000) (m := 2000) (lo := (-128)) (hi := 127) (rs := []) (L := []) rfl (by decide) (j := j.toNat) (by omega)
  have kz_0_10 : 0 ≤ w_fi ws (n_v vs 0) 10 ∧ w_fi ws (n_v vs 0) 10 ≤ 2000 := tv_rng (th_fd hD hth r0 (g := GG_150) rfl (k := 10) (t := (0, 0, 2000, [])) rfl rfl)
  have kz_0_11 : 0 ≤ w_fi ws (n_v vs 0) 11 ∧ w_fi ws (n_v vs 0) 11 ≤ 2000 := tv_rng (th_fd hD hth r0 (g := GG_150) rfl (k := 11) (t := (0, 0, 2000, [])) rfl rfl)
  have kz_0_15 : 0 ≤ w_fi ws (n_v vs 0) 15 ∧ w_fi ws (n_v vs 0) 15 ≤ 2000 := tv_rng (th_fd hD hth r0 (g := GG_150) rfl (k := 15) (t := (0, 0, 2000, [])) rfl rfl)
  have nf0 : fc_1 (20, [2], [50, 3, 1, 15, 11, 10, 1, 2, 8, 0, 3, 2, 0, 15, 2, 0, 11, 3, 12, 0, 7, 4, 3, 2, 0, 15, 0, 1, 2, 0, 11, 2, 8, 1, 3, 2, 0, 11, 2, 0, 15, 2, 12, 0, 7, 4, 3, 2, 0, 15, 0, 1, 2, 0, 10, 2, 14, 0, 2, 0, 48, 9, 6, 3, 0, 1, 2, 0, 15, 0, 256, 0, 10, 9, 6, 3, 0, 1, 2, 0, 15, 0, 256, 0, 57]) ws (vs) := by
    refine ⟨fun n hn => ?_, ?_⟩
    · have hn : n ∈ [2] := hn
      rw [hl]
      simp only [List.mem_cons, List.not_mem_nil, or_false] at hn
      show n < 17; omega
    · show (w_fi ws (n_v vs 2) 15 ≤ w_fi ws (n_v vs 2) 11) ∧ (((w_fi ws (n_v vs 2) 15 + 1) ≤ w_fi ws (n_v vs 2) 11) ∨ ((w_fi ws (n_v vs 2) 11 = w_fi ws (n_v vs 2) 15) ∧ (((w_fi ws (n_v vs 2) 15 + 1) ≤ w_fi ws (n_v vs 2) 10) ∧ ((48 ≤ (w_ei ws (w_ar ws (n_v vs 2) 1) (w_fi ws (n_v vs 2) 15) % 256)) ∧ ((w_ei ws (w_ar ws (n_v vs 2) 1) (w_fi ws (n_v vs 2) 15) % 256) ≤ 57)))))
      rw [q2]
      first | omega | grind
  refine ⟨(fun _ h => (by cases h)), [], trivial, ?_, (fun _ h => (by cases h))⟩
  rw [List.append_nil]
  exact List.forall_mem_cons.mpr ⟨⟨show (20 : Nat) < 100 from by decide, nf0⟩, (fun _ h => (by cases h))⟩
