def o_Sy_compileRule_0 : or_T := (42, 9, [(0, (2, 0, 0, [11])), (2, (0, 0, 112, [])), (3, (0, 0, 111, []))], [(9, [2, 0], [0]), (20, [0, 3], [30, 0, 1, 1, 0, -1, 0, 0]), (101, [0, 7], [9]), (20, [0, 3], [30, 0, 1, 1, 0, -1, 0, 0])], [(2, (0, 0, 111, []))], [], [], [], [])
theorem oo_Sy_compileRule_0 {kA : Nat → ClassId} : or_ok kA GG o_Sy_compileRule_0 := by
  intro A ta ws vs hD hth hl hk hds hf
  have hl : vs.length = 9 := hl
  have hk : ∀ q ∈ ([(0, (2, 0, 0, [11])), (2, (0, 0, 112, [])), (3, (0, 0, 111, []))] : List (Nat × tv_T)), tv_ok ta q.2 (n_v vs q.1) := hk
  obtain ⟨t0, hk⟩ := List.forall_mem_cons.mp hk
  have t0 : tv_ok ta (2, 0, 0, [11]) (n_v vs 0) := t0
  have r0 : ta (v_ad (n_v vs 0)) = some 11 := tv_rg t0
  obtain ⟨t2, hk⟩ := List.forall_mem_cons.mp hk
  have t2 : tv_ok ta (0, 0, 112, []) (n_v vs 2) := t2
  have k2 : 0 ≤ v_iv (n_v vs 2) ∧ v_iv (n_v vs 2) ≤ 112 := tv_rng t2
  obtain ⟨t3, hk⟩ := List.forall_mem_cons.mp hk
  have t3 : tv_ok ta (0, 0, 111, []) (n_v vs 3) := t3
  have k3 : 0 ≤ v_iv (n_v vs 3) ∧ v_iv (n_v vs 3) ≤ 111 := tv_rng t3
  have hf : fc_ok [(9, [2, 0], [0]), (20, [0, 3], [30, 0, 1, 1, 0, -1, 0, 0]), (101, [0, 7], [9]), (20, [0, 3], [30, 0, 1, 1, 0, -1, 0, 0])] ta ws vs := hf
  obtain ⟨f0, hf⟩ := fc_un (show (9 : Nat) < 100 from by decide) hf
  have f0 : n_v vs 2 = w_fd ws (v_ad (n_v vs 0)) 0 := f0
  obtain ⟨f1, hf⟩ := fc_un (show (20 : Nat) < 100 from by decide) hf
  have f1 : 1 * w_fi ws (n_v vs 0) 0 + ((-1) * v_iv (n_v vs 3) + 0) ≤ 0 := f1
  obtain ⟨ta1, w1, le1, ⟨_, s1⟩, hf⟩ := fc_us (show ¬ (101 : Nat) < 100 from by decide) hf
  have s1 : (∀ b j, w_el ws b j = w_el w1 b j) ∧ ∀ b j, w_fd ws b j = if b = v_ad (n_v vs 0) ∧ j = 9 then n_v vs 7 else w_fd w1 b j := s1
  obtain ⟨f3, hf⟩ := fc_un (show (20 : Nat) < 100 from by decide) hf
  have f3 : 1 * w_fi w1 (n_v vs 0) 0 + ((-1) * v_iv (n_v vs 3) + 0) ≤ 0 := f3
  have g0 : v_iv (n_v vs 2) = w_fi ws (n_v vs 0) 0 := congrArg v_iv f0
  have fe_0_0_1 : w_fi ws (n_v vs 0) 0 = w_fi w1 (n_v vs 0) 0 := by show v_iv (w_fd _ _ _) = v_iv (w_fd _ _ _); rw [s1.2, if_neg (fun e => absurd e.2 (by decide))]
  have kz_0_0 : 0 ≤ w_fi ws (n_v vs 0) 0 ∧ w_fi ws (n_v vs 0) 0 ≤ 112 := tv_rng (th_fd hD hth r0 (g := GG_11) rfl (k := 0) (t := (0, 0, 112, [])) rfl rfl)
  have rf2 : tv_ok ta (0, 0, 111, []) (n_v vs 2) := tv_in t2 (by omega) (by omega)
  refine ⟨List.forall_mem_cons.mpr ⟨rf2, (fun _ h => (by cases h))⟩, [], trivial, ?_, (fun _ h => (by cases h))⟩
  rw [List.append_nil]
  exact (fun _ h => (by cases h))
def o_Sy_compileRule_1 : or_T := (66, 13, [(0, (2, 0, 0, [11])), (2, (0, 0, 111, [])), (3, (0, 0, 111, [])), (8, (2, 0, 0, [128])), (9, (2, 0, 0, [127])), (11, (0, 1, 1, [])), (12, (0, 1, 112, []))], [(101, [0, 12], [0]), (1, [12, 2, 11], []), (9, [2, 0], [0]), (20, [0, 3], [30, 0, 1, 1, 0, -1, 0, 0]), (100, [9, 2, 10], []), (9, [9, 0], [12]), (20, [0, 3], [30, 0, 1, 1, 0, -1, 0, 0]), (100, [8, 2, 5], []), (9, [8, 0], [13]), (20, [0, 3], [30, 0, 1, 1, 0, -1, 0, 0]), (101, [0, 7], [9]), (20, [0, 3], [30, 0, 1, 1, 0, -1, 0, 0])], [], [], [(20, [0, 3], [30, 1, 1, 1, 0, -1, 0, 0])], [], [(12, 2, 1, 1)])
theorem oo_Sy_compileRule_1 {kA : Nat → ClassId} : or_ok kA GG o_Sy_compileRule_1 := by
  intro A ta ws vs hD hth hl hk hds hf
  have hl : vs.length = 13 := hl
  have hk : ∀ q ∈ ([(0, (2, 0, 0, [11])), (2, (0, 0, 111, [])), (3, (0, 0, 111, [])), (8, (2, 0, 0, [128])), (9, (2, 0, 0, [127])), (11, (0, 1, 1, [])), (12, (0, 1, 112, []))] : List (Nat × tv_T)), tv_ok ta q.2 (n_v vs q.1) := hk
  obtain ⟨t0, hk⟩ := List.forall_mem_cons.mp hk
  have t0 : tv_ok ta (2, 0, 0, [11]) (n_v vs 0) := t0
  have r0 : ta (v_ad (n_v vs 0)) = some 11 := tv_rg t0
  obtain ⟨t2, hk⟩ := List.forall_mem_cons.mp hk
  have t2 : tv_ok ta (0, 0, 111, []) (n_v vs 2) := t2
  have k2 : 0 ≤ v_iv (n_v vs 2) ∧ v_iv (n_v vs 2) ≤ 111 := tv_rng t2
  obtain ⟨t3, hk⟩ := List.forall_mem_cons.mp hk
  have t3 : tv_ok ta (0, 0, 111, []) (n_v vs 3) := t3
  have k3 : 0 ≤ v_iv (n_v vs 3) ∧ v_iv (n_v vs 3) ≤ 111 := tv_rng t3
  obtain ⟨t8, hk⟩ := List.forall_mem_cons.mp hk
  have t8 : tv_ok ta (2, 0, 0, [128]) (n_v vs 8) := t8
  have r8 : ta (v_ad (n_v vs 8)) = some 128 := tv_rg t8
  obtain ⟨t9, hk⟩ := List.forall_mem_cons.mp hk
  have t9 : tv_ok ta (2, 0, 0, [127]) (n_v vs 9) := t9
  have r9 : ta (v_ad (n_v vs 9)) = some 127 := tv_rg t9
  obtain ⟨t11, hk⟩ := List.forall_mem_cons.mp hk
  have t11 : tv_ok ta (0, 1, 1, []) (n_v vs 11) := t11
  have k11 : 1 ≤ v_iv (n_v vs 11) ∧ v_iv (n_v vs 11) ≤ 1 := tv_rng t11
  obtain ⟨t12, hk⟩ := List.forall_mem_cons.mp hk
  have t12 : tv_ok ta (0, 1, 112, []) (n_v vs 12) := t12
  have k12 : 1 ≤ v_iv (n_v vs 12) ∧ v_iv (n_v vs 12) ≤ 112 := tv_rng t12
  have hds : ∀ q ∈ ([(12, 2, 1, 1)] : List of_T), n_iv vs q.2.1 + q.2.2.1 ≤ n_iv vs q.1 ∧ n_iv vs q.1 ≤ n_iv vs q.2.1 + q.2.2.2 := hds
  obtain ⟨d0, hds⟩ := List.forall_mem_cons.mp hds
  have d0 : v_iv (n_v vs 2) + 1 ≤ v_iv (n_v vs 12) ∧ v_iv (n_v vs 12) ≤ v_iv (n_v vs 2) + 1 := d0
  have hf : fc_ok [(101, [0, 12], [0]), (1, [12, 2, 11], []), (9, [2, 0], [0]), (20, [0, 3], [30, 0, 1, 1, 0, -1, 0, 0]), (100, [9, 2, 10], []), (9, [9, 0], [12]), (20, [0, 3], [30, 0, 1, 1, 0, -1, 0, 0]), (100, [8, 2, 5], []), (9, [8, 0], [13]), (20, [0, 3], [30, 0, 1, 1, 0, -1, 0, 0]), (101, [0, 7], [9]), (20, [0, 3], [30, 0, 1, 1, 0, -1, 0, 0])] ta ws vs := hf
  obtain ⟨ta1, w1, le1, ⟨_, s1⟩, hf⟩ := fc_us (show ¬ (101 : Nat) < 100 from by decide) hf
  have s1 : (∀ b j, w_el ws b j = w_el w1 b j) ∧ ∀ b j, w_fd ws b j = if b = v_ad (n_v vs 0) ∧ j = 0 then n_v vs 12 else w_fd w1 b j := s1
  obtain ⟨f1, hf⟩ := fc_un (show (1 : Nat) < 100 from by decide) hf
  have f1 : v_iv (n_v vs 12) = v_iv (n_v vs 2) + v_iv (n_v vs 11) := f1
  obtain ⟨f2, hf⟩ := fc_un (show (9 : Nat) < 100 from by decide) hf
  have f2 : n_v vs 2 = w_fd w1 (v_ad (n_v vs 0)) 0 := f2
  obtain ⟨f3, hf⟩ := fc_un (show (20 : Nat) < 100 from by decide) hf
  have f3 : 1 * w_fi w1 (n_v vs 0) 0 + ((-1) * v_iv (n_v vs 3) + 0) ≤ 0 := f3
  obtain ⟨ta2, w2, le2, ⟨_, s2⟩, hf⟩ := fc_us (show ¬ (100 : Nat) < 100 from by decide) hf
  have s2 : (∀ b j, w_el w1 b j = if b = v_ad (n_v vs 9) ∧ j = (v_iv (n_v vs 2)).toNat then v_iv (n_v vs 10) else w_el w2 b j) ∧ ∀ b k, w_fd w1 b k = w_fd w2 b k := s2
  obtain ⟨f5, hf⟩ := fc_un (show (9 : Nat) < 100 from by decide) hf
  have f5 : n_v vs 9 = w_fd w2 (v_ad (n_v vs 0)) 12 := f5
  obtain ⟨f6, hf⟩ := fc_un (show (20 : Nat) < 100 from by decide) hf
  have f6 : 1 * w_fi w2 (n_v vs 0) 0 + ((-1) * v_iv (n_v vs 3) + 0) ≤ 0 := f6
  obtain ⟨ta3, w3, le3, ⟨_, s3⟩, hf⟩ := fc_us (show ¬ (100 : Nat) < 100 from by decide) hf
  have s3 : (∀ b j, w_el w2 b j = if b = v_ad (n_v vs 8) ∧ j = (v_iv (n_v vs 2)).toNat then v_iv (n_v vs 5) else w_el w3 b j) ∧ ∀ b k, w_fd w2 b k = w_fd w3 b k := s3
  obtain ⟨f8, hf⟩ := fc_un (show (9 : Nat) < 100 from by decide) hf
  have f8 : n_v vs 8 = w_fd w3 (v_ad (n_v vs 0)) 13 := f8
  obtain ⟨f9, hf⟩ := fc_un (show (20 : Nat) < 100 from by decide) hf
  have f9 : 1 * w_fi w3 (n_v vs 0) 0 + ((-1) * v_iv (n_v vs 3) + 0) ≤ 0 := f9
  obtain ⟨ta4, w4, le4, ⟨_, s4⟩, hf⟩ := fc_us (show ¬ (101 : Nat) < 100 from by decide) hf
  have s4 : (∀ b j, w_el w3 b j = w_el w4 b j) ∧ ∀ b j, w_fd w3 b j = if b = v_ad (n_v vs 0) ∧ j = 9 then n_v vs 7 else w_fd w4 b j := s4
  obtain ⟨f11, hf⟩ := fc_un (show (20 : Nat) < 100 from by decide) hf
  have f11 : 1 * w_fi w4 (n_v vs 0) 0 + ((-1) * v_iv (n_v vs 3) + 0) ≤ 0 := f11
  have ar_0_12_1 : w_ar w1 (n_v vs 0) 12 = w_ar ws (n_v vs 0) 12 := by show v_ad (w_fd w1 _ _) = v_ad (w_fd ws _ _); rw [s1.2, if_neg (fun e => absurd e.2 (by decide))]
  have ar_0_12_2 : w_ar w2 (n_v vs 0) 12 = w_ar ws (n_v vs 0) 12 := by rw [← ar_0_12_1]; show v_ad (w_fd w2 _ _) = v_ad (w_fd w1 _ _); rw [s2.2]
  have ar_0_12_3 : w_ar w3 (n_v vs 0) 12 = w_ar ws (n_v vs 0) 12 := by rw [← ar_0_12_2]; show v_ad (w_fd w3 _ _) = v_ad (w_fd w2 _ _); rw [s3.2]
  have ar_0_12_4 : w_ar w4 (n_v vs 0) 12 = w_ar ws (n_v vs 0) 12 := by rw [← ar_0_12_3]; show v_ad (w_fd w4 _ _) = v_ad (w_fd w3 _ _); rw [s4.2, if_neg (fun e => absurd e.2 (by decide))]
  have cr_0_12 : ta (w_ar ws (n_v vs 0) 12) = some 127 := tv_rg (th_fd hD hth r0 (g := GG_11) rfl (k := 12) (t := (2, 0, 0, [127])) rfl rfl)
  have ar_0_13_1 : w_ar w1 (n_v vs 0) 13 = w_ar ws (n_v vs 0) 13 := by show v_ad (w_fd w1 _ _) = v_ad (w_fd ws _ _); rw [s1.2, if_neg (fun e => absurd e.2 (by decide))]
  have ar_0_13_2 : w_ar w2 (n_v vs 0) 13 = w_ar ws (n_v vs 0) 13 := by rw [← ar_0_13_1]; show v_ad (w_fd w2 _ _) = v_ad (w_fd w1 _ _); rw [s2.2]
  have ar_0_13_3 : w_ar w3 (n_v vs 0) 13 = w_ar ws (n_v vs 0) 13 := by rw [← ar_0_13_2]; show v_ad (w_fd w3 _ _) = v_ad (w_fd w2 _ _); rw [s3.2]
  have ar_0_13_4 : w_ar w4 (n_v vs 0) 13 = w_ar ws (n_v vs 0) 13 := by rw [← ar_0_13_3]; show v_ad (w_fd w4 _ _) = v_ad (w_fd w3 _ _); rw [s4.2, if_neg (fun e => absurd e.2 (by decide))]
  have cr_0_13 : ta (w_ar ws (n_v vs 0) 13) = some 128 := tv_rg (th_fd hD hth r0 (g := GG_11) rfl (k := 13) (t := (2, 0, 0, [128])) rfl rfl)
  have ad_9 : v_ad (n_v vs 9) = w_ar ws (n_v vs 0) 12 := (congrArg v_ad f5).trans ar_0_12_2
  have ad_8 : v_ad (n_v vs 8) = w_ar ws (n_v vs 0) 13 := (congrArg v_ad f8).trans ar_0_13_3
  have g2 : v_iv (n_v vs 2) = w_fi w1 (n_v vs 0) 0 := congrArg v_iv f2
  have fe_0_0_1 : w_fi ws (n_v vs 0) 0 = v_iv (n_v vs 12) := by show v_iv (w_fd _ _ _) = _; rw [s1.2, if_pos ⟨rfl, rfl⟩]
  have fe_0_0_2 : w_fi w1 (n_v vs 0) 0 = w_fi w2 (n_v vs 0) 0 := congrArg v_iv (s2.2 _ _)
  have fe_0_0_3 : w_fi w2 (n_v vs 0) 0 = w_fi w3 (n_v vs 0) 0 := congrArg v_iv (s3.2 _ _)
  have fe_0_0_4 : w_fi w3 (n_v vs 0) 0 = w_fi w4 (n_v vs 0) 0 := by show v_iv (w_fd _ _ _) = v_iv (w_fd _ _ _); rw [s4.2, if_neg (fun e => absurd e.2 (by decide))]
  have kz_0_0 : 0 ≤ w_fi ws (n_v vs 0) 0 ∧ w_fi ws (n_v vs 0) 0 ≤ 112 := tv_rng (th_fd hD hth r0 (g := GG_11) rfl (k := 0) (t := (0, 0, 112, [])) rfl rfl)
  have nf0 : fc_1 (20, [0, 3], [30, 1, 1, 1, 0, -1, 0, 0]) ws (vs) := by
    refine ⟨fun n hn => ?_, ?_⟩
    · have hn : n ∈ [0, 3] := hn
      rw [hl]
      simp only [List.mem_cons, List.not_mem_nil, or_false] at hn
      show n < 13; omega
    · show 1 * w_fi ws (n_v vs 0) 0 + ((-1) * v_iv (n_v vs 3) + 0) ≤ 1
      omega
  refine ⟨(fun _ h => (by cases h)), [], trivial, ?_, (fun _ h => (by cases h))⟩
  rw [List.append_nil]
  exact List.forall_mem_cons.mpr ⟨⟨show (20 : Nat) < 100 from by decide, nf0⟩, (fun _ h => (by cases h))⟩
def o_Sy_compileRule_2 : or_T := (124, 23, [(0, (2, 0, 0, [11])), (2, (0, 0, 111, [])), (3, (0, 0, 111, [])), (11, (0, 1, 1, [])), (12, (0, 1, 112, []))], [(20, [0, 3], [30, 1, 1, 1, 0, -1, 0, 0]), (102, [21], [85070591730234615865843651857942052864, 11011]), (102, [16], [85070591730234615865843651857942052864, 11001, 11002, 11005, 11006, 11007, 11008, 11011]), (102, [15], [0, 11005, 11006, 11007, 11008]), (102, [13], [0]), (102, [12], [0, 11005, 11006, 11007, 11008]), (101, [0, 12], [0]), (1, [12, 2, 11], [])], [], [], [(24, [0, 0], [])], [], [(12, 2, 1, 1)])
theorem oo_Sy_compileRule_2 {kA : Nat → ClassId} : or_ok kA GG o_Sy_compileRule_2 := by
  intro A ta ws vs hD hth hl hk hds hf
  have hl : vs.length = 23 := hl
  have hk : ∀ q ∈ ([(0, (2, 0, 0, [11])), (2, (0, 0, 111, [])), (3, (0, 0, 111, [])), (11, (0, 1, 1, [])), (12, (0, 1, 112, []))] : List (Nat × tv_T)), tv_ok ta q.2 (n_v vs q.1) := hk
  obtain ⟨t0, hk⟩ := List.forall_mem_cons.mp hk
  have t0 : tv_ok ta (2, 0, 0, [11]) (n_v vs 0) := t0
  have r0 : ta (v_ad (n_v vs 0)) = some 11 := tv_rg t0
  obtain ⟨t2, hk⟩ := List.forall_mem_cons.mp hk
  have t2 : tv_ok ta (0, 0, 111, []) (n_v vs 2) := t2
  have k2 : 0 ≤ v_iv (n_v vs 2) ∧ v_iv (n_v vs 2) ≤ 111 := tv_rng t2
  obtain ⟨t3, hk⟩ := List.forall_mem_cons.mp hk
  have t3 : tv_ok ta (0, 0, 111, []) (n_v vs 3) := t3
  have k3 : 0 ≤ v_iv (n_v vs 3) ∧ v_iv (n_v vs 3) ≤ 111 := tv_rng t3
  obtain ⟨t11, hk⟩ := List.forall_mem_cons.mp hk
  have t11 : tv_ok ta (0, 1, 1, []) (n_v vs 11) := t11
  have k11 : 1 ≤ v_iv (n_v vs 11) ∧ v_iv (n_v vs 11) ≤ 1 := tv_rng t11
  obtain ⟨t12, hk⟩ := List.forall_mem_cons.mp hk
  have t12 : tv_ok ta (0, 1, 112, []) (n_v vs 12) := t12
  have k12 : 1 ≤ v_iv (n_v vs 12) ∧ v_iv (n_v vs 12) ≤ 112 := tv_rng t12
  have hds : ∀ q ∈ ([(12, 2, 1, 1)] : List of_T), n_iv vs q.2.1 + q.2.2.1 ≤ n_iv vs q.1 ∧ n_iv vs q.1 ≤ n_iv vs q.2.1 + q.2.2.2 := hds
  obtain ⟨d0, hds⟩ := List.forall_mem_cons.mp hds
  have d0 : v_iv (n_v vs 2) + 1 ≤ v_iv (n_v vs 12) ∧ v_iv (n_v vs 12) ≤ v_iv (n_v vs 2) + 1 := d0
  have hf : fc_ok [(20, [0, 3], [30, 1, 1, 1, 0, -1, 0, 0]), (102, [21], [85070591730234615865843651857942052864, 11011]), (102, [16], [85070591730234615865843651857942052864, 11001, 11002, 11005, 11006, 11007, 11008, 11011]), (102, [15], [0, 11005, 11006, 11007, 11008]), (102, [13], [0]), (102, [12], [0, 11005, 11006, 11007, 11008]), (101, [0, 12], [0]), (1, [12, 2, 11], [])] ta ws vs := hf
  obtain ⟨f0, hf⟩ := fc_un (show (20 : Nat) < 100 from by decide) hf
  have f0 : 1 * w_fi ws (n_v vs 0) 0 + ((-1) * v_iv (n_v vs 3) + 0) ≤ 1 := f0
  obtain ⟨ta1, w1, le1, ⟨_, s1⟩, hf⟩ := fc_us (show ¬ (102 : Nat) < 100 from by decide) hf
  obtain ⟨ta2, w2, le2, ⟨_, s2⟩, hf⟩ := fc_us (show ¬ (102 : Nat) < 100 from by decide) hf
  obtain ⟨ta3, w3, le3, ⟨_, s3⟩, hf⟩ := fc_us (show ¬ (102 : Nat) < 100 from by decide) hf
  obtain ⟨ta4, w4, le4, ⟨_, s4⟩, hf⟩ := fc_us (show ¬ (102 : Nat) < 100 from by decide) hf
  obtain ⟨ta5, w5, le5, ⟨_, s5⟩, hf⟩ := fc_us (show ¬ (102 : Nat) < 100 from by decide) hf
  obtain ⟨ta6, w6, le6, ⟨_, s6⟩, hf⟩ := fc_us (show ¬ (101 : Nat) < 100 from by decide) hf
  have s6 : (∀ b j, w_el w5 b j = w_el w6 b j) ∧ ∀ b j, w_fd w5 b j = if b = v_ad (n_v vs 0) ∧ j = 0 then n_v vs 12 else w_fd w6 b j := s6
  obtain ⟨f7, hf⟩ := fc_un (show (1 : Nat) < 100 from by decide) hf
  have f7 : v_iv (n_v vs 12) = v_iv (n_v vs 2) + v_iv (n_v vs 11) := f7
  have kz_0_0 : 0 ≤ w_fi ws (n_v vs 0) 0 ∧ w_fi ws (n_v vs 0) 0 ≤ 112 := tv_rng (th_fd hD hth r0 (g := GG_11) rfl (k := 0) (t := (0, 0, 112, [])) rfl rfl)
  have nf0 : fc_1 (24, [0, 0], []) ws (vs) := by
    refine ⟨fun n hn => ?_, ?_⟩
    · have hn : n ∈ [0, 0] := hn
      rw [hl]
      simp only [List.mem_cons, List.not_mem_nil, or_false] at hn
      show n < 23; omega
    · show n_v vs 0 = n_v vs 0
      first | rfl | simp only [true_and]
  refine ⟨(fun _ h => (by cases h)), [], trivial, ?_, (fun _ h => (by cases h))⟩
  rw [List.append_nil]
  exact List.forall_mem_cons.mpr ⟨⟨show (24 : Nat) < 100 from by decide, nf0⟩, (fun _ h => (by cases h))⟩
def o_Sy_compileRule_3 : or_T := (17, 9, [(0, (2, 0, 0, [11])), (3, (0, 0, 111, []))], [(20, [0, 3], [30, 0, 1, 1, 0, -1, 0, 0])], [], [], [(20, [0, 3], [30, 1, 1, 1, 0, -1, 0, 0])], [], [])
theorem oo_Sy_compileRule_3 {kA : Nat → ClassId} : or_ok kA GG o_Sy_compileRule_3 := by
  intro A ta ws vs hD hth hl hk hds hf
  have hl : vs.length = 9 := hl
  have hk : ∀ q ∈ ([(0, (2, 0, 0, [11])), (3, (0, 0, 111, []))] : List (Nat × tv_T)), tv_ok ta q.2 (n_v vs q.1) := hk
  obtain ⟨t0, hk⟩ := List.forall_mem_cons.mp hk
  have t0 : tv_ok ta (2, 0, 0, [11]) (n_v vs 0) := t0
  have r0 : ta (v_ad (n_v vs 0)) = some 11 := tv_rg t0
  obtain ⟨t3, hk⟩ := List.forall_mem_cons.mp hk
  have t3 : tv_ok ta (0, 0, 111, []) (n_v vs 3) := t3
  have k3 : 0 ≤ v_iv (n_v vs 3) ∧ v_iv (n_v vs 3) ≤ 111 := tv_rng t3
  have hf : fc_ok [(20, [0, 3], [30, 0, 1, 1, 0, -1, 0, 0])] ta ws vs := hf
  obtain ⟨f0, hf⟩ := fc_un (show (20 : Nat) < 100 from by decide) hf
  have f0 : 1 * w_fi ws (n_v vs 0) 0 + ((-1) * v_iv (n_v vs 3) + 0) ≤ 0 := f0
  have kz_0_0 : 0 ≤ w_fi ws (n_v vs 0) 0 ∧ w_fi ws (n_v vs 0) 0 ≤ 112 := tv_rng (th_fd hD hth r0 (g := GG_11) rfl (k := 0) (t := (0, 0, 112, [])) rfl rfl)
  have nf0 : fc_1 (20, [0, 3], [30, 1, 1, 1, 0, -1, 0, 0]) ws (vs) := by
    refine ⟨fun n hn => ?_, ?_⟩
    · have hn : n ∈ [0, 3] := hn
      rw [hl]
      simp only [List.mem_cons, List.not_mem_nil, or_false] at hn
      show n < 9; omega
    · show 1 * w_fi ws (n_v vs 0) 0 + ((-1) * v_iv (n_v vs 3) + 0) ≤ 1
      omega
  refine ⟨(fun _ h => (by cases h)), [], trivial, ?_, (fun _ h => (by cases h))⟩
  rw [List.append_nil]
  exact List.forall_mem_cons.mpr ⟨⟨show (20 : Nat) < 100 from by decide, nf0⟩, (fun _ h => (by cases h))⟩
def o_Sy_compileRule_4 : or_T := (179, 12, [(0, (2, 0, 0, [11])), (3, (0, 0, 111, [])), (4, (2, 0, 0, [11]))], [(20, [4, 3], [30, 1, 1, 1, 0, -1, 0, 0]), (24, [0, 4], [])], [], [], [(20, [0, 3], [30, 1, 1, 1, 0, -1, 0, 0])], [], [])
theorem oo_Sy_compileRule_4 {kA : Nat → ClassId} : or_ok kA GG o_Sy_compileRule_4 := by
  intro A ta ws vs hD hth hl hk hds hf
  have hl : vs.length = 12 := hl
  have hk : ∀ q ∈ ([(0, (2, 0, 0, [11])), (3, (0, 0, 111, [])), (4, (2, 0, 0, [11]))] : List (Nat × tv_T)), tv_ok ta q.2 (n_v vs q.1) := hk
  obtain ⟨t0, hk⟩ := List.forall_mem_cons.mp hk
  have t0 : tv_ok ta (2, 0, 0, [11]) (n_v vs 0) := t0
  have r0 : ta (v_ad (n_v vs 0)) = some 11 := tv_rg t0
  obtain ⟨t3, hk⟩ := List.forall_mem_cons.mp hk
  have t3 : tv_ok ta (0, 0, 111, []) (n_v vs 3) := t3
  have k3 : 0 ≤ v_iv (n_v vs 3) ∧ v_iv (n_v vs 3) ≤ 111 := tv_rng t3
  obtain ⟨t4, hk⟩ := List.forall_mem_cons.mp hk
  have t4 : tv_ok ta (2, 0, 0, [11]) (n_v vs 4) := t4
  have r4 : ta (v_ad (n_v vs 4)) = some 11 := tv_rg t4
  have hf : fc_ok [(20, [4, 3], [30, 1, 1, 1, 0, -1, 0, 0]), (24, [0, 4], [])] ta ws vs := hf
  obtain ⟨f0, hf⟩ := fc_un (show (20 : Nat) < 100 from by decide) hf
  have f0 : 1 * w_fi ws (n_v vs 4) 0 + ((-1) * v_iv (n_v vs 3) + 0) ≤ 1 := f0
  obtain ⟨f1, hf⟩ := fc_un (show (24 : Nat) < 100 from by decide) hf
  have f1 : n_v vs 0 = n_v vs 4 := f1
  have q4 : n_v vs 4 = n_v vs 0 := f1.symm
  rw [q4] at f0
  have kz_0_0 : 0 ≤ w_fi ws (n_v vs 0) 0 ∧ w_fi ws (n_v vs 0) 0 ≤ 112 := tv_rng (th_fd hD hth r0 (g := GG_11) rfl (k := 0) (t := (0, 0, 112, [])) rfl rfl)
  have nf0 : fc_1 (20, [0, 3], [30, 1, 1, 1, 0, -1, 0, 0]) ws (vs) := by
    refine ⟨fun n hn => ?_, ?_⟩
    · have hn : n ∈ [0, 3] := hn
      rw [hl]
      simp only [List.mem_cons, List.not_mem_nil, or_false] at hn
      show n < 12; omega
    · show 1 * w_fi ws (n_v vs 0) 0 + ((-1) * v_iv (n_v vs 3) + 0) ≤ 1
      omega
  refine ⟨(fun _ h => (by cases h)), [], trivial, ?_, (fun _ h => (by cases h))⟩
  rw [List.append_nil]
  exact List.forall_mem_cons.mpr ⟨⟨show (20 : Nat) < 100 from by decide, nf0⟩, (fun _ h => (by cases h))⟩
def o_Sy_compileRule_5 : or_T := (173, 13, [(0, (2, 0, 0, [11])), (3, (0, 0, 111, [])), (4, (2, 0, 0, [11]))], [(20, [4, 3], [30, 1, 1, 1, 0, -1, 0, 0]), (24, [0, 4], [])], [], [], [(20, [0, 3], [30, 1, 1, 1, 0, -1, 0, 0])], [], [])
theorem oo_Sy_compileRule_5 {kA : Nat → ClassId} : or_ok kA GG o_Sy_compileRule_5 := by
  intro A ta ws vs hD hth hl hk hds hf
  have hl : vs.length = 13 := hl
  have hk : ∀ q ∈ ([(0, (2, 0, 0, [11])), (3, (0, 0, 111, [])), (4, (2, 0, 0, [11]))] : List (Nat × tv_T)), tv_ok ta q.2 (n_v vs q.1) := hk
  obtain ⟨t0, hk⟩ := List.forall_mem_cons.mp hk
  have t0 : tv_ok ta (2, 0, 0, [11]) (n_v vs 0) := t0
  have r0 : ta (v_ad (n_v vs 0)) = some 11 := tv_rg t0
  obtain ⟨t3, hk⟩ := List.forall_mem_cons.mp hk
  have t3 : tv_ok ta (0, 0, 111, []) (n_v vs 3) := t3
  have k3 : 0 ≤ v_iv (n_v vs 3) ∧ v_iv (n_v vs 3) ≤ 111 := tv_rng t3
  obtain ⟨t4, hk⟩ := List.forall_mem_cons.mp hk
  have t4 : tv_ok ta (2, 0, 0, [11]) (n_v vs 4) := t4
  have r4 : ta (v_ad (n_v vs 4)) = some 11 := tv_rg t4
  have hf : fc_ok [(20, [4, 3], [30, 1, 1, 1, 0, -1, 0, 0]), (24, [0, 4], [])] ta ws vs := hf
  obtain ⟨f0, hf⟩ := fc_un (show (20 : Nat) < 100 from by decide) hf
  have f0 : 1 * w_fi ws (n_v vs 4) 0 + ((-1) * v_iv (n_v vs 3) + 0) ≤ 1 := f0
  obtain ⟨f1, hf⟩ := fc_un (show (24 : Nat) < 100 from by decide) hf
  have f1 : n_v vs 0 = n_v vs 4 := f1
  have q4 : n_v vs 4 = n_v vs 0 := f1.symm
  rw [q4] at f0
  have kz_0_0 : 0 ≤ w_fi ws (n_v vs 0) 0 ∧ w_fi ws (n_v vs 0) 0 ≤ 112 := tv_rng (th_fd hD hth r0 (g := GG_11) rfl (k := 0) (t := (0, 0, 112, [])) rfl rfl)
  have nf0 : fc_1 (20, [0, 3], [30, 1, 1, 1, 0, -1, 0, 0]) ws (vs) := by
    refine ⟨fun n hn => ?_, ?_⟩
    · have hn : n ∈ [0, 3] := hn
      rw [hl]
      simp only [List.mem_cons, List.not_mem_nil, or_false] at hn
      show n < 13; omega
    · show 1 * w_fi ws (n_v vs 0) 0 + ((-1) * v_iv (n_v vs 3) + 0) ≤ 1
      omega
  refine ⟨(fun _ h => (by cases h)), [], trivial, ?_, (fun _ h => (by cases h))⟩
  rw [List.append_nil]
  exact List.forall_mem_cons.mpr ⟨⟨show (20 : Nat) < 100 from by decide, nf0⟩, (fun _ h => (by cases h))⟩
def o_Sy_compileRule_6 : or_T := (152, 11, [(0, (2, 0, 0, [11])), (3, (0, 0, 111, [])), (4, (2, 0, 0, [11]))], [(20, [4, 3], [30, 1, 1, 1, 0, -1, 0, 0]), (24, [0, 4], [])], [], [], [(20, [0, 3], [30, 1, 1, 1, 0, -1, 0, 0])], [], [])
theorem oo_Sy_compileRule_6 {kA : Nat → ClassId} : or_ok kA GG o_Sy_compileRule_6 := by
  intro A ta ws vs hD hth hl hk hds hf
  have hl : vs.length = 11 := hl
  have hk : ∀ q ∈ ([(0, (2, 0, 0, [11])), (3, (0, 0, 111, [])), (4, (2, 0, 0, [11]))] : List (Nat × tv_T)), tv_ok ta q.2 (n_v vs q.1) := hk
  obtain ⟨t0, hk⟩ := List.forall_mem_cons.mp hk
  have t0 : tv_ok ta (2, 0, 0, [11]) (n_v vs 0) := t0
  have r0 : ta (v_ad (n_v vs 0)) = some 11 := tv_rg t0
  obtain ⟨t3, hk⟩ := List.forall_mem_cons.mp hk
  have t3 : tv_ok ta (0, 0, 111, []) (n_v vs 3) := t3
  have k3 : 0 ≤ v_iv (n_v vs 3) ∧ v_iv (n_v vs 3) ≤ 111 := tv_rng t3
  obtain ⟨t4, hk⟩ := List.forall_mem_cons.mp hk
  have t4 : tv_ok ta (2, 0, 0, [11]) (n_v vs 4) := t4
  have r4 : ta (v_ad (n_v vs 4)) = some 11 := tv_rg t4
  have hf : fc_ok [(20, [4, 3], [30, 1, 1, 1, 0, -1, 0, 0]), (24, [0, 4], [])] ta ws vs := hf
  obtain ⟨f0, hf⟩ := fc_un (show (20 : Nat) < 100 from by decide) hf
  have f0 : 1 * w_fi ws (n_v vs 4) 0 + ((-1) * v_iv (n_v vs 3) + 0) ≤ 1 := f0
  obtain ⟨f1, hf⟩ := fc_un (show (24 : Nat) < 100 from by decide) hf
  have f1 : n_v vs 0 = n_v vs 4 := f1
  have q4 : n_v vs 4 = n_v vs 0 := f1.symm
  rw [q4] at f0
  have kz_0_0 : 0 ≤ w_fi ws (n_v vs 0) 0 ∧ w_fi ws (n_v vs 0) 0 ≤ 112 := tv_rng (th_fd hD hth r0 (g := GG_11) rfl (k := 0) (t := (0, 0, 112, [])) rfl rfl)
  have nf0 : fc_1 (20, [0, 3], [30, 1, 1, 1, 0, -1, 0, 0]) ws (vs) := by
    refine ⟨fun n hn => ?_, ?_⟩
    · have hn : n ∈ [0, 3] := hn
      rw [hl]
      simp only [List.mem_cons, List.not_mem_nil, or_false] at hn
      show n < 11; omega
    · show 1 * w_fi ws (n_v vs 0) 0 + ((-1) * v_iv (n_v vs 3) + 0) ≤ 1
      omega
  refine ⟨(fun _ h => (by cases h)), [], trivial, ?_, (fun _ h => (by cases h))⟩
  rw [List.append_nil]
  exact List.forall_mem_cons.mpr ⟨⟨show (20 : Nat) < 100 from by decide, nf0⟩, (fun _ h => (by cases h))⟩
def o_Sy_compileRule_7 : or_T := (179, 13, [(0, (2, 0, 0, [11])), (3, (0, 0, 111, [])), (4, (2, 0, 0, [11]))], [(20, [4, 3], [30, 1, 1, 1, 0, -1, 0, 0]), (24, [0, 4], [])], [], [], [(20, [0, 3], [30, 1, 1, 1, 0, -1, 0, 0])], [], [])
theorem oo_Sy_compileRule_7 {kA : Nat → ClassId} : or_ok kA GG o_Sy_compileRule_7 := by
  intro A ta ws vs hD hth hl hk hds hf
  have hl : vs.length = 13 := hl
  have hk : ∀ q ∈ ([(0, (2, 0, 0, [11])), (3, (0, 0, 111, [])), (4, (2, 0, 0, [11]))] : List (Nat × tv_T)), tv_ok ta q.2 (n_v vs q.1) := hk
  obtain ⟨t0, hk⟩ := List.forall_mem_cons.mp hk
  have t0 : tv_ok ta (2, 0, 0, [11]) (n_v vs 0) := t0
  have r0 : ta (v_ad (n_v vs 0)) = some 11 := tv_rg t0
  obtain ⟨t3, hk⟩ := List.forall_mem_cons.mp hk
  have t3 : tv_ok ta (0, 0, 111, []) (n_v vs 3) := t3
  have k3 : 0 ≤ v_iv (n_v vs 3) ∧ v_iv (n_v vs 3) ≤ 111 := tv_rng t3
  obtain ⟨t4, hk⟩ := List.forall_mem_cons.mp hk
  have t4 : tv_ok ta (2, 0, 0, [11]) (n_v vs 4) := t4
  have r4 : ta (v_ad (n_v vs 4)) = some 11 := tv_rg t4
  have hf : fc_ok [(20, [4, 3], [30, 1, 1, 1, 0, -1, 0, 0]), (24, [0, 4], [])] ta ws vs := hf
  obtain ⟨f0, hf⟩ := fc_un (show (20 : Nat) < 100 from by decide) hf
  have f0 : 1 * w_fi ws (n_v vs 4) 0 + ((-1) * v_iv (n_v vs 3) + 0) ≤ 1 := f0
  obtain ⟨f1, hf⟩ := fc_un (show (24 : Nat) < 100 from by decide) hf
  have f1 : n_v vs 0 = n_v vs 4 := f1
  have q4 : n_v vs 4 = n_v vs 0 := f1.symm
  rw [q4] at f0
  have kz_0_0 : 0 ≤ w_fi ws (n_v vs 0) 0 ∧ w_fi ws (n_v vs 0) 0 ≤ 112 := tv_rng (th_fd hD hth r0 (g := GG_11) rfl (k := 0) (t := (0, 0, 112, [])) rfl rfl)
  have nf0 : fc_1 (20, [0, 3], [30, 1, 1, 1, 0, -1, 0, 0]) ws (vs) := by
    refine ⟨fun n hn => ?_, ?_⟩
    · have hn : n ∈ [0, 3] := hn
      rw [hl]
      simp only [List.mem_cons, List.not_mem_nil, or_false] at hn
      show n < 13; omega
    · show 1 * w_fi ws (n_v vs 0) 0 + ((-1) * v_iv (n_v vs 3) + 0) ≤ 1
      omega
  refine ⟨(fun _ h => (by cases h)), [], trivial, ?_, (fun _ h => (by cases h))⟩
  rw [List.append_nil]
  exact List.forall_mem_cons.mpr ⟨⟨show (20 : Nat) < 100 from by decide, nf0⟩, (fun _ h => (by cases h))⟩
def o_Sy_compileRule_8 : or_T := (173, 14, [(0, (2, 0, 0, [11])), (3, (0, 0, 111, [])), (4, (2, 0, 0, [11]))], [(20, [4, 3], [30, 1, 1, 1, 0, -1, 0, 0]), (24, [0, 4], [])], [], [], [(20, [0, 3], [30, 1, 1, 1, 0, -1, 0, 0])], [], [])
theorem oo_Sy_compileRule_8 {kA : Nat → ClassId} : or_ok kA GG o_Sy_compileRule_8 := by
  intro A ta ws vs hD hth hl hk hds hf
  have hl : vs.length = 14 := hl
  have hk : ∀ q ∈ ([(0, (2, 0, 0, [11])), (3, (0, 0, 111, [])), (4, (2, 0, 0, [11]))] : List (Nat × tv_T)), tv_ok ta q.2 (n_v vs q.1) := hk
  obtain ⟨t0, hk⟩ := List.forall_mem_cons.mp hk
  have t0 : tv_ok ta (2, 0, 0, [11]) (n_v vs 0) := t0
  have r0 : ta (v_ad (n_v vs 0)) = some 11 := tv_rg t0
  obtain ⟨t3, hk⟩ := List.forall_mem_cons.mp hk
  have t3 : tv_ok ta (0, 0, 111, []) (n_v vs 3) := t3
  have k3 : 0 ≤ v_iv (n_v vs 3) ∧ v_iv (n_v vs 3) ≤ 111 := tv_rng t3
  obtain ⟨t4, hk⟩ := List.forall_mem_cons.mp hk
  have t4 : tv_ok ta (2, 0, 0, [11]) (n_v vs 4) := t4
  have r4 : ta (v_ad (n_v vs 4)) = some 11 := tv_rg t4
  have hf : fc_ok [(20, [4, 3], [30, 1, 1, 1, 0, -1, 0, 0]), (24, [0, 4], [])] ta ws vs := hf
  obtain ⟨f0, hf⟩ := fc_un (show (20 : Nat) < 100 from by decide) hf
  have f0 : 1 * w_fi ws (n_v vs 4) 0 + ((-1) * v_iv (n_v vs 3) + 0) ≤ 1 := f0
  obtain ⟨f1, hf⟩ := fc_un (show (24 : Nat) < 100 from by decide) hf
  have f1 : n_v vs 0 = n_v vs 4 := f1
  have q4 : n_v vs 4 = n_v vs 0 := f1.symm
  rw [q4] at f0
  have kz_0_0 : 0 ≤ w_fi ws (n_v vs 0) 0 ∧ w_fi ws (n_v vs 0) 0 ≤ 112 := tv_rng (th_fd hD hth r0 (g := GG_11) rfl (k := 0) (t := (0, 0, 112, [])) rfl rfl)
  have nf0 : fc_1 (20, [0, 3], [30, 1, 1, 1, 0, -1, 0, 0]) ws (vs) := by
    refine ⟨fun n hn => ?_, ?_⟩
    · have hn : n ∈ [0, 3] := hn
      rw [hl]
      simp only [List.mem_cons, List.not_mem_nil, or_false] at hn
      show n < 14; omega
    · show 1 * w_fi ws (n_v vs 0) 0 + ((-1) * v_iv (n_v vs 3) + 0) ≤ 1
      omega
  refine ⟨(fun _ h => (by cases h)), [], trivial, ?_, (fun _ h => (by cases h))⟩
  rw [List.append_nil]
  exact List.forall_mem_cons.mpr ⟨⟨show (20 : Nat) < 100 from by decide, nf0⟩, (fun _ h => (by cases h))⟩
def o_Sy_compileRule_9 : or_T := (152, 13, [(0, (2, 0, 0, [11])), (3, (0, 0, 111, [])), (4, (2, 0, 0, [11]))], [(20, [4, 3], [30, 1, 1, 1, 0, -1, 0, 0]), (24, [0, 4], [])], [], [], [(20, [0, 3], [30, 1, 1, 1, 0, -1, 0, 0])], [], [])
theorem oo_Sy_compileRule_9 {kA : Nat → ClassId} : or_ok kA GG o_Sy_compileRule_9 := by
  intro A ta ws vs hD hth hl hk hds hf
  have hl : vs.length = 13 := hl
  have hk : ∀ q ∈ ([(0, (2, 0, 0, [11])), (3, (0, 0, 111, [])), (4, (2, 0, 0, [11]))] : List (Nat × tv_T)), tv_ok ta q.2 (n_v vs q.1) := hk
  obtain ⟨t0, hk⟩ := List.forall_mem_cons.mp hk
  have t0 : tv_ok ta (2, 0, 0, [11]) (n_v vs 0) := t0
  have r0 : ta (v_ad (n_v vs 0)) = some 11 := tv_rg t0
  obtain ⟨t3, hk⟩ := List.forall_mem_cons.mp hk
  have t3 : tv_ok ta (0, 0, 111, []) (n_v vs 3) := t3
  have k3 : 0 ≤ v_iv (n_v vs 3) ∧ v_iv (n_v vs 3) ≤ 111 := tv_rng t3
  obtain ⟨t4, hk⟩ := List.forall_mem_cons.mp hk
  have t4 : tv_ok ta (2, 0, 0, [11]) (n_v vs 4) := t4
  have r4 : ta (v_ad (n_v vs 4)) = some 11 := tv_rg t4
  have hf : fc_ok [(20, [4, 3], [30, 1, 1, 1, 0, -1, 0, 0]), (24, [0, 4], [])] ta ws vs := hf
  obtain ⟨f0, hf⟩ := fc_un (show (20 : Nat) < 100 from by decide) hf
  have f0 : 1 * w_fi ws (n_v vs 4) 0 + ((-1) * v_iv (n_v vs 3) + 0) ≤ 1 := f0
  obtain ⟨f1, hf⟩ := fc_un (show (24 : Nat) < 100 from by decide) hf
  have f1 : n_v vs 0 = n_v vs 4 := f1
  have q4 : n_v vs 4 = n_v vs 0 := f1.symm
  rw [q4] at f0
  have kz_0_0 : 0 ≤ w_fi ws (n_v vs 0) 0 ∧ w_fi ws (n_v vs 0) 0 ≤ 112 := tv_rng (th_fd hD hth r0 (g := GG_11) rfl (k := 0) (t := (0, 0, 112, [])) rfl rfl)
  have nf0 : fc_1 (20, [0, 3], [30, 1, 1, 1, 0, -1, 0, 0]) ws (vs) := by
    refine ⟨fun n hn => ?_, ?_⟩
    · have hn : n ∈ [0, 3] := hn
      rw [hl]
      simp only [List.mem_cons, List.not_mem_nil, or_false] at hn
      show n < 13; omega
    · show 1 * w_fi ws (n_v vs 0) 0 + ((-1) * v_iv (n_v vs 3) + 0) ≤ 1
      omega
  refine ⟨(fun _ h => (by cases h)), [], trivial, ?_, (fun _ h => (by cases h))⟩
  rw [List.append_nil]
  exact List.forall_mem_cons.mpr ⟨⟨show (20 : Nat) < 100 from by decide, nf0⟩, (fun _ h => (by cases h))⟩
def n_Sy_compileRule_an : List an_T := [(124, [(0, (2, 0, 0, [11])), (1, (0, -2147483648, 2147483647, [])), (2, (0, 0, 2000, []))], [], (0, 0), [(0, 0, 99876), (1, 6, 2000), (0, 0, 100000)], [(2, 3, -1000000000000, 111), (2, 6, -1000000000000, 111), (3, 2, -1000000000000, 111), (3, 6, -1000000000000, 111)], [((0, 3), (2, 0, 0, [109]))], [(2, 0, 0, [11]), (2, 0, 0, [109]), (0, 0, 112, []), (0, 0, 111, [])], 0, [], [(20, [4, 3], [30, 1, 1, 1, 0, -1, 0, 0]), (24, [0, 4], [])])]
def t_Sy_compileRule_ct : ct_L := [(1, 69, e_Sy_advance), (1, 118, e_Sy_fail), (1, 128, e_Sy_emit), (1, 132, e_Sy_compileSetting), (13, 114, e_Sy_wordIn_at_s5006), (223, 114, e_Sy_wordIn_at_s5008), (280, 125, e_Sy_compileTest_at_k0), (1000000, 40, en_ro [] (2, 0, 0, [5004])), (1000000, 112, en_ro [] (2, 0, 0, [5006])), (1000000, 121, en_ro [] (2, 0, 0, [5007])), (1000000, 123, en_ro [] (2, 0, 0, [5008]))]
set_option maxRecDepth 100000 in
theorem c_Sy_compileRule {l : Launch} {D : va_G} {kA : Nat → ClassId} (h_Sy_advance : ct_ok l D kA GG y_Sy_advance z_Sy_advance e_Sy_advance) (h_Sy_compileSetting : ct_ok l D kA GG y_Sy_compileSetting z_Sy_compileSetting e_Sy_compileSetting) (h_Sy_compileTest_at_k0 : ct_ok l D kA GG y_Sy_compileTest_at_k0 z_Sy_compileTest_at_k0 e_Sy_compileTest_at_k0) (h_Sy_emit : ct_ok l D kA GG y_Sy_emit z_Sy_emit e_Sy_emit) (h_Sy_fail : ct_ok l D kA GG y_Sy_fail z_Sy_fail e_Sy_fail) (h_Sy_wordIn_at_s5006 : ct_ok l D kA GG y_Sy_wordIn_at_s5006 z_Sy_wordIn_at_s5006 e_Sy_wordIn_at_s5006) (h_Sy_wordIn_at_s5008 : ct_ok l D kA GG y_Sy_wordIn_at_s5008 z_Sy_wordIn_at_s5008 e_Sy_wordIn_at_s5008) : ct_ok l D kA GG y_Sy_compileRule z_Sy_compileRule e_Sy_compileRule := chk_all_ok (FT := [(9, 11, 0), (31, 11, 6), (50, 11, 11), (53, 11, 12), (56, 11, 13)]) (PT := [(9, 11, 0, .int), (42, 11, 9, .object "java/lang/String")]) (CT := t_Sy_compileRule_ct) (KT := []) (NT := []) (AN := n_Sy_compileRule_an) (OT := [o_Sy_compileRule_0, o_Sy_compileRule_1, o_Sy_compileRule_2, o_Sy_compileRule_3, o_Sy_compileRule_4, o_Sy_compileRule_5, o_Sy_compileRule_6, o_Sy_compileRule_7, o_Sy_compileRule_8, o_Sy_compileRule_9]) 3 688 (List.forall_mem_cons.mpr ⟨oo_Sy_compileRule_0, List.forall_mem_cons.mpr ⟨oo_Sy_compileRule_1, List.forall_mem_cons.mpr ⟨oo_Sy_compileRule_2, List.forall_mem_cons.mpr ⟨oo_Sy_compileRule_3, List.forall_mem_cons.mpr ⟨oo_Sy_compileRule_4, List.forall_mem_cons.mpr ⟨oo_Sy_compileRule_5, List.forall_mem_cons.mpr ⟨oo_Sy_compileRule_6, List.forall_mem_cons.mpr ⟨oo_Sy_compileRule_7, List.forall_mem_cons.mpr ⟨oo_Sy_compileRule_8, List.forall_mem_cons.mpr ⟨oo_Sy_compileRule_9, List.forall_mem_nil _⟩⟩⟩⟩⟩⟩⟩⟩⟩⟩) (by decide +kernel) ⟨List.forall_mem_cons.mpr ⟨gf_Sy_9, List.forall_mem_cons.mpr ⟨gf_Sy_31, List.forall_mem_cons.mpr ⟨gf_Sy_50, List.forall_mem_cons.mpr ⟨gf_Sy_53, List.forall_mem_cons.mpr ⟨gf_Sy_56, List.forall_mem_nil _⟩⟩⟩⟩⟩, List.forall_mem_cons.mpr ⟨pf_Sy_9, List.forall_mem_cons.mpr ⟨pf_Sy_42, List.forall_mem_nil _⟩⟩, List.forall_mem_cons.mpr ⟨cl_virtual (y := y_Sy_advance) (ci := 11) rfl rfl ⟨_, _, rfl⟩ (by decide +kernel) h_Sy_advance wm_2158 wm_23 wm_2155 wm_2157 wv_10_10 ⟨by decide, by decide, by decide +kernel⟩ (by decide), List.forall_mem_cons.mpr ⟨cl_virtual (y := y_Sy_fail) (ci := 11) rfl rfl ⟨_, _, rfl⟩ (by decide +kernel) h_Sy_fail wm_2239 wm_23 wm_2236 wm_2238 wv_10_14 ⟨by decide, by decide, by decide +kernel⟩ (by decide), List.forall_mem_cons.mpr ⟨cl_virtual (y := y_Sy_emit) (ci := 11) rfl rfl ⟨_, _, rfl⟩ (by decide +kernel) h_Sy_emit wm_2258 wm_23 wm_2255 wm_2257 wv_11_2 ⟨by decide, by decide, by decide +kernel⟩ (by decide), List.forall_mem_cons.mpr ⟨cl_virtual (y := y_Sy_compileSetting) (ci := 11) rfl rfl ⟨_, _, rfl⟩ (by decide +kernel) h_Sy_compileSetting wm_2280 wm_23 wm_2277 wm_2279 wv_11_7 ⟨by decide, by decide, by decide +kernel⟩ (by decide), List.forall_mem_cons.mpr ⟨cl_virtual (y := y_Sy_wordIn_at_s5006) (ci := 11) rfl rfl ⟨_, _, rfl⟩ (by decide +kernel) h_Sy_wordIn_at_s5006 wm_2229 wm_23 wm_2226 wm_2228 wv_10_12 ⟨by decide, by decide, by decide +kernel⟩ (by decide), List.forall_mem_cons.mpr ⟨cl_virtual (y := y_Sy_wordIn_at_s5008) (ci := 11) rfl rfl ⟨_, _, rfl⟩ (by decide +kernel) h_Sy_wordIn_at_s5008 wm_2229 wm_23 wm_2226 wm_2228 wv_10_12 ⟨by decide, by decide, by decide +kernel⟩ (by decide), List.forall_mem_cons.mpr ⟨cl_virtual (y := y_Sy_compileTest_at_k0) (ci := 11) rfl rfl ⟨_, _, rfl⟩ (by decide +kernel) h_Sy_compileTest_at_k0 wm_2245 wm_23 wm_2242 wm_2244 wv_10_15 ⟨by decide, by decide, by decide +kernel⟩ (by decide), List.forall_mem_cons.mpr ⟨cl_ldc (own := "DrawingHouse$Styler") (idx := 40) (i := 4) (tx := "deg in out size group far core cut x y ") (by decide +kernel) (by decide +kernel) (by decide +kernel), List.forall_mem_cons.mpr ⟨cl_ldc (own := "DrawingHouse$Styler") (idx := 112) (i := 6) (tx := "node edge ") (by decide +kernel) (by decide +kernel) (by decide +kernel), List.forall_mem_cons.mpr ⟨cl_ldc (own := "DrawingHouse$Styler") (idx := 121) (i := 7) (tx := "weight turned bridge from to block long one ") (by decide +kernel) (by decide +kernel) (by decide +kernel), List.forall_mem_cons.mpr ⟨cl_ldc (own := "DrawingHouse$Styler") (idx := 123) (i := 8) (tx := "if ") (by decide +kernel) (by decide +kernel) (by decide +kernel), List.forall_mem_nil _⟩⟩⟩⟩⟩⟩⟩⟩⟩⟩⟩, List.forall_mem_nil _, List.forall_mem_nil _, GG_pl⟩ (by decide +kernel)
def o_Em_outer_0 : or_T := (24, 7, [(5, (2, 0, 0, [149])), (6, (0, 0, 25, []))], [(9, [6, 5], [5]), (20, [5], [30, 24, 1, 1, 5])], [(6, (0, 0, 24, []))], [], [], [], [])
theorem oo_Em_outer_0 {kA : Nat → ClassId} : or_ok kA GG o_Em_outer_0 := by
  intro A ta ws vs hD hth hl hk hds hf
  have hl : vs.length = 7 := hl
  have hk : ∀ q ∈ ([(5, (2, 0, 0, [149])), (6, (0, 0, 25, []))] : List (Nat × tv_T)), tv_ok ta q.2 (n_v vs q.1) := hk
  obtain ⟨t5, hk⟩ := List.forall_mem_cons.mp hk
  have t5 : tv_ok ta (2, 0, 0, [149]) (n_v vs 5) := t5
  have r5 : ta (v_ad (n_v vs 5)) = some 149 := tv_rg t5
  obtain ⟨t6, hk⟩ := List.forall_mem_cons.mp hk
  have t6 : tv_ok ta (0, 0, 25, []) (n_v vs 6) := t6
  have k6 : 0 ≤ v_iv (n_v vs 6) ∧ v_iv (n_v vs 6) ≤ 25 := tv_rng t6
  have hf : fc_ok [(9, [6, 5], [5]), (20, [5], [30, 24, 1, 1, 5])] ta ws vs := hf
  obtain ⟨f0, hf⟩ := fc_un (show (9 : Nat) < 100 from by decide) hf
  have f0 : n_v vs 6 = w_fd ws (v_ad (n_v vs 5)) 5 := f0
  obtain ⟨f1, hf⟩ := fc_un (show (20 : Nat) < 100 from by decide) hf
  have f1 : 1 * w_fi ws (n_v vs 5) 5 + 0 ≤ 24 := f1
  have g0 : v_iv (n_v vs 6) = w_fi ws (n_v vs 5) 5 := congrArg v_iv f0
  have kz_5_5 : 0 ≤ w_fi ws (n_v vs 5) 5 ∧ w_fi ws (n_v vs 5) 5 ≤ 25 := tv_rng (th_fd hD hth r5 (g := GG_149) rfl (k := 5) (t := (0, 0, 25, [])) rfl rfl)
  have rf6 : tv_ok ta (0, 0, 24, []) (n_v vs 6) := tv_in t6 (by omega) (by omega)
  refine ⟨List.forall_mem_cons.mpr ⟨rf6, (fun _ h => (by cases h))⟩, [], trivial, ?_, (fun _ h => (by cases h))⟩
  rw [List.append_nil]
  exact (fun _ h => (by cases h))
def n_Em_outer_an : List an_T := [(31, [(0, (2, 0, 0, [1])), (1, (2, 0, 0, [3])), (2, (2, 0, 0, [5])), (3, (0, 0, 24, []))], [], (0, 0), [(0, 0, 99969), (1, 3, 24), (0, 0, 100000)], [], [], [], 0, [], [])]
def t_Em_outer_ct : ct_L := [(1, 95, e_Em_embed), (43, 81, e_Ne_load_at_Np), (148, 91, e_Ne_join_at_Np)]
set_option maxRecDepth 100000 in
theorem c_Em_outer {l : Launch} {D : va_G} {kA : Nat → ClassId} (h_Em_embed : ct_ok l D kA GG y_Em_embed z_Em_embed e_Em_embed) (h_Ne_join_at_Np : ct_ok l D kA GG y_Ne_join_at_Np z_Ne_join_at_Np e_Ne_join_at_Np) (h_Ne_load_at_Np : ct_ok l D kA GG y_Ne_load_at_Np z_Ne_load_at_Np e_Ne_load_at_Np) : ct_ok l D kA GG y_Em_outer z_Em_outer e_Em_outer := chk_all_ok (FT := [(18, 1, 1), (78, 5, 1), (85, 5, 5), (88, 3, 0)]) (PT := [(78, 5, 1, .int), (85, 5, 5, .int)]) (CT := t_Em_outer_ct) (KT := []) (NT := []) (AN := n_Em_outer_an) (OT := [o_Em_outer_0]) 3 200 (List.forall_mem_cons.mpr ⟨oo_Em_outer_0, List.forall_mem_nil _⟩) (by decide +kernel) ⟨List.forall_mem_cons.mpr ⟨gf_Em_18, List.forall_mem_cons.mpr ⟨gf_Em_78, List.forall_mem_cons.mpr ⟨gf_Em_85, List.forall_mem_cons.mpr ⟨gf_Em_88, List.forall_mem_nil _⟩⟩⟩⟩, List.forall_mem_cons.mpr ⟨pf_Em_78, List.forall_mem_cons.mpr ⟨pf_Em_85, List.forall_mem_nil _⟩⟩, List.forall_mem_cons.mpr ⟨cl_virtual (y := y_Em_embed) (ci := 1) rfl rfl ⟨_, _, rfl⟩ (by decide +kernel) h_Em_embed wm_1069 wm_5 wm_1162 wm_1067 wm_1068 ⟨by decide, by decide, by decide +kernel⟩ (by decide), List.forall_mem_cons.mpr ⟨cl_virtual (y := y_Ne_load_at_Np) (ci := 5) rfl rfl ⟨_, _, rfl⟩ (by decide +kernel) h_Ne_load_at_Np wm_1056 wm_6 wm_1168 wm_1054 wm_1055 ⟨by decide, by decide, by decide +kernel⟩ (by decide), List.forall_mem_cons.mpr ⟨cl_virtual (y := y_Ne_join_at_Np) (ci := 5) rfl rfl ⟨_, _, rfl⟩ (by decide +kernel) h_Ne_join_at_Np wm_1065 wm_6 wm_1161 wm_1063 wm_1064 ⟨by decide, by decide, by decide +kernel⟩ (by decide), List.forall_mem_nil _⟩⟩⟩, List.forall_mem_nil _, List.forall_mem_nil _, GG_pl⟩ (by decide +kernel)
def o_Sy_compile_0 : or_T := (36, 8, [(0, (2, 0, 0, [11])), (4, (0, 0, 0, []))], [(101, [0, 7], [2]), (101, [0, 6], [1]), (101, [0, 5], [11]), (101, [0, 4], [0])], [], [], [(20, [0], [30, 0, 1, 1, 0])], [], [])
theorem oo_Sy_compile_0 {kA : Nat → ClassId} : or_ok kA GG o_Sy_compile_0 := by
  intro A ta ws vs hD hth hl hk hds hf
  have hl : vs.length = 8 := hl
  have hk : ∀ q ∈ ([(0, (2, 0, 0, [11])), (4, (0, 0, 0, []))] : List (Nat × tv_T)), tv_ok ta q.2 (n_v vs q.1) := hk
  obtain ⟨t0, hk⟩ := List.forall_mem_cons.mp hk
  have t0 : tv_ok ta (2, 0, 0, [11]) (n_v vs 0) := t0
  have r0 : ta (v_ad (n_v vs 0)) = some 11 := tv_rg t0
  obtain ⟨t4, hk⟩ := List.forall_mem_cons.mp hk
  have t4 : tv_ok ta (0, 0, 0, []) (n_v vs 4) := t4
  have k4 : 0 ≤ v_iv (n_v vs 4) ∧ v_iv (n_v vs 4) ≤ 0 := tv_rng t4
  have hf : fc_ok [(101, [0, 7], [2]), (101, [0, 6], [1]), (101, [0, 5], [11]), (101, [0, 4], [0])] ta ws vs := hf
  obtain ⟨ta1, w1, le1, ⟨_, s1⟩, hf⟩ := fc_us (show ¬ (101 : Nat) < 100 from by decide) hf
  have s1 : (∀ b j, w_el ws b j = w_el w1 b j) ∧ ∀ b j, w_fd ws b j = if b = v_ad (n_v vs 0) ∧ j = 2 then n_v vs 7 else w_fd w1 b j := s1
  obtain ⟨ta2, w2, le2, ⟨_, s2⟩, hf⟩ := fc_us (show ¬ (101 : Nat) < 100 from by decide) hf
  have s2 : (∀ b j, w_el w1 b j = w_el w2 b j) ∧ ∀ b j, w_fd w1 b j = if b = v_ad (n_v vs 0) ∧ j = 1 then n_v vs 6 else w_fd w2 b j := s2
  obtain ⟨ta3, w3, le3, ⟨_, s3⟩, hf⟩ := fc_us (show ¬ (101 : Nat) < 100 from by decide) hf
  have s3 : (∀ b j, w_el w2 b j = w_el w3 b j) ∧ ∀ b j, w_fd w2 b j = if b = v_ad (n_v vs 0) ∧ j = 11 then n_v vs 5 else w_fd w3 b j := s3
  obtain ⟨ta4, w4, le4, ⟨_, s4⟩, hf⟩ := fc_us (show ¬ (101 : Nat) < 100 from by decide) hf
  have s4 : (∀ b j, w_el w3 b j = w_el w4 b j) ∧ ∀ b j, w_fd w3 b j = if b = v_ad (n_v vs 0) ∧ j = 0 then n_v vs 4 else w_fd w4 b j := s4
  have fe_0_0_1 : w_fi ws (n_v vs 0) 0 = w_fi w1 (n_v vs 0) 0 := by show v_iv (w_fd _ _ _) = v_iv (w_fd _ _ _); rw [s1.2, if_neg (fun e => absurd e.2 (by decide))]
  have fe_0_0_2 : w_fi w1 (n_v vs 0) 0 = w_fi w2 (n_v vs 0) 0 := by show v_iv (w_fd _ _ _) = v_iv (w_fd _ _ _); rw [s2.2, if_neg (fun e => absurd e.2 (by decide))]
  have fe_0_0_3 : w_fi w2 (n_v vs 0) 0 = w_fi w3 (n_v vs 0) 0 := by show v_iv (w_fd _ _ _) = v_iv (w_fd _ _ _); rw [s3.2, if_neg (fun e => absurd e.2 (by decide))]
  have fe_0_0_4 : w_fi w3 (n_v vs 0) 0 = v_iv (n_v vs 4) := by show v_iv (w_fd _ _ _) = _; rw [s4.2, if_pos ⟨rfl, rfl⟩]
  have kz_0_0 : 0 ≤ w_fi ws (n_v vs 0) 0 ∧ w_fi ws (n_v vs 0) 0 ≤ 112 := tv_rng (th_fd hD hth r0 (g := GG_11) rfl (k := 0) (t := (0, 0, 112, [])) rfl rfl)
  have nf0 : fc_1 (20, [0], [30, 0, 1, 1, 0]) ws (vs) := by
    refine ⟨fun n hn => ?_, ?_⟩
    · have hn : n ∈ [0] := hn
      rw [hl]
      simp only [List.mem_cons, List.not_mem_nil, or_false] at hn
      show n < 8; omega
    · show 1 * w_fi ws (n_v vs 0) 0 + 0 ≤ 0
      omega
  refine ⟨(fun _ h => (by cases h)), [], trivial, ?_, (fun _ h => (by cases h))⟩
  rw [List.append_nil]
  exact List.forall_mem_cons.mpr ⟨⟨show (20 : Nat) < 100 from by decide, nf0⟩, (fun _ h => (by cases h))⟩
def o_Sy_compile_1 : or_T := (41, 9, [(0, (2, 0, 0, [11])), (4, (0, 0, 0, [])), (8, (0, 0, 0, []))], [(20, [0], [30, 0, 1, 1, 0]), (102, [7], [0, 11005, 11006, 11007, 11008]), (101, [0, 7], [2]), (101, [0, 6], [1]), (101, [0, 5], [11]), (101, [0, 4], [0])], [], [], [(20, [0, 8], [30, 0, 1, 1, 0, -1, 0, 0])], [], [])
theorem oo_Sy_compile_1 {kA : Nat → ClassId} : or_ok kA GG o_Sy_compile_1 := by
  intro A ta ws vs hD hth hl hk hds hf
  have hl : vs.length = 9 := hl
  have hk : ∀ q ∈ ([(0, (2, 0, 0, [11])), (4, (0, 0, 0, [])), (8, (0, 0, 0, []))] : List (Nat × tv_T)), tv_ok ta q.2 (n_v vs q.1) := hk
  obtain ⟨t0, hk⟩ := List.forall_mem_cons.mp hk
  have t0 : tv_ok ta (2, 0, 0, [11]) (n_v vs 0) := t0
  have r0 : ta (v_ad (n_v vs 0)) = some 11 := tv_rg t0
  obtain ⟨t4, hk⟩ := List.forall_mem_cons.mp hk
  have t4 : tv_ok ta (0, 0, 0, []) (n_v vs 4) := t4
  have k4 : 0 ≤ v_iv (n_v vs 4) ∧ v_iv (n_v vs 4) ≤ 0 := tv_rng t4
  obtain ⟨t8, hk⟩ := List.forall_mem_cons.mp hk
  have t8 : tv_ok ta (0, 0, 0, []) (n_v vs 8) := t8
  have k8 : 0 ≤ v_iv (n_v vs 8) ∧ v_iv (n_v vs 8) ≤ 0 := tv_rng t8
  have hf : fc_ok [(20, [0], [30, 0, 1, 1, 0]), (102, [7], [0, 11005, 11006, 11007, 11008]), (101, [0, 7], [2]), (101, [0, 6], [1]), (101, [0, 5], [11]), (101, [0, 4], [0])] ta ws vs := hf
  obtain ⟨f0, hf⟩ := fc_un (show (20 : Nat) < 100 from by decide) hf
  have f0 : 1 * w_fi ws (n_v vs 0) 0 + 0 ≤ 0 := f0
  obtain ⟨ta1, w1, le1, ⟨_, s1⟩, hf⟩ := fc_us (show ¬ (102 : Nat) < 100 from by decide) hf
  obtain ⟨ta2, w2, le2, ⟨_, s2⟩, hf⟩ := fc_us (show ¬ (101 : Nat) < 100 from by decide) hf
  have s2 : (∀ b j, w_el w1 b j = w_el w2 b j) ∧ ∀ b j, w_fd w1 b j = if b = v_ad (n_v vs 0) ∧ j = 2 then n_v vs 7 else w_fd w2 b j := s2
  obtain ⟨ta3, w3, le3, ⟨_, s3⟩, hf⟩ := fc_us (show ¬ (101 : Nat) < 100 from by decide) hf
  have s3 : (∀ b j, w_el w2 b j = w_el w3 b j) ∧ ∀ b j, w_fd w2 b j = if b = v_ad (n_v vs 0) ∧ j = 1 then n_v vs 6 else w_fd w3 b j := s3
  obtain ⟨ta4, w4, le4, ⟨_, s4⟩, hf⟩ := fc_us (show ¬ (101 : Nat) < 100 from by decide) hf
  have s4 : (∀ b j, w_el w3 b j = w_el w4 b j) ∧ ∀ b j, w_fd w3 b j = if b = v_ad (n_v vs 0) ∧ j = 11 then n_v vs 5 else w_fd w4 b j := s4
  obtain ⟨ta5, w5, le5, ⟨_, s5⟩, hf⟩ := fc_us (show ¬ (101 : Nat) < 100 from by decide) hf
  have s5 : (∀ b j, w_el w4 b j = w_el w5 b j) ∧ ∀ b j, w_fd w4 b j = if b = v_ad (n_v vs 0) ∧ j = 0 then n_v vs 4 else w_fd w5 b j := s5
  have kz_0_0 : 0 ≤ w_fi ws (n_v vs 0) 0 ∧ w_fi ws (n_v vs 0) 0 ≤ 112 := tv_rng (th_fd hD hth r0 (g := GG_11) rfl (k := 0) (t := (0, 0, 112, [])) rfl rfl)
  have nf0 : fc_1 (20, [0, 8], [30, 0, 1, 1, 0, -1, 0, 0]) ws (vs) := by
    refine ⟨fun n hn => ?_, ?_⟩
    · have hn : n ∈ [0, 8] := hn
      rw [hl]
      simp only [List.mem_cons, List.not_mem_nil, or_false] at hn
      show n < 9; omega
    · show 1 * w_fi ws (n_v vs 0) 0 + ((-1) * v_iv (n_v vs 8) + 0) ≤ 0
      omega
  refine ⟨(fun _ h => (by cases h)), [], trivial, ?_, (fun _ h => (by cases h))⟩
  rw [List.append_nil]
  exact List.forall_mem_cons.mpr ⟨⟨show (20 : Nat) < 100 from by decide, nf0⟩, (fun _ h => (by cases h))⟩
def o_Sy_compile_2 : or_T := (55, 8, [(0, (2, 0, 0, [11])), (3, (0, 0, 111, [])), (6, (0, 112, 112, []))], [(7, [3, 6], [2]), (20, [0, 3], [30, 0, 1, 1, 0, -1, 0, 0])], [], [(0, 0, 111, [])], [(20, [0, 8], [30, 0, 1, 1, 0, -1, 0, 0]), (23, [8, 3], [0, 1, -1])], [], [])
theorem oo_Sy_compile_2 {kA : Nat → ClassId} : or_ok kA GG o_Sy_compile_2 := by
  intro A ta ws vs hD hth hl hk hds hf
  have hl : vs.length = 8 := hl
  have hk : ∀ q ∈ ([(0, (2, 0, 0, [11])), (3, (0, 0, 111, [])), (6, (0, 112, 112, []))] : List (Nat × tv_T)), tv_ok ta q.2 (n_v vs q.1) := hk
  obtain ⟨t0, hk⟩ := List.forall_mem_cons.mp hk
  have t0 : tv_ok ta (2, 0, 0, [11]) (n_v vs 0) := t0
  have r0 : ta (v_ad (n_v vs 0)) = some 11 := tv_rg t0
  obtain ⟨t3, hk⟩ := List.forall_mem_cons.mp hk
  have t3 : tv_ok ta (0, 0, 111, []) (n_v vs 3) := t3
  have k3 : 0 ≤ v_iv (n_v vs 3) ∧ v_iv (n_v vs 3) ≤ 111 := tv_rng t3
  obtain ⟨t6, hk⟩ := List.forall_mem_cons.mp hk
  have t6 : tv_ok ta (0, 112, 112, []) (n_v vs 6) := t6
  have k6 : 112 ≤ v_iv (n_v vs 6) ∧ v_iv (n_v vs 6) ≤ 112 := tv_rng t6
  have hf : fc_ok [(7, [3, 6], [2]), (20, [0, 3], [30, 0, 1, 1, 0, -1, 0, 0])] ta ws vs := hf
  obtain ⟨f0, hf⟩ := fc_un (show (7 : Nat) < 100 from by decide) hf
  have f0 : v_iv (n_v vs 3) < v_iv (n_v vs 6) := f0
  obtain ⟨f1, hf⟩ := fc_un (show (20 : Nat) < 100 from by decide) hf
  have f1 : 1 * w_fi ws (n_v vs 0) 0 + ((-1) * v_iv (n_v vs 3) + 0) ≤ 0 := f1
  have kz_0_0 : 0 ≤ w_fi ws (n_v vs 0) 0 ∧ w_fi ws (n_v vs 0) 0 ≤ 112 := tv_rng (th_fd hD hth r0 (g := GG_11) rfl (k := 0) (t := (0, 0, 112, [])) rfl rfl)
  have kv0 : 0 ≤ w_fi ws (n_v vs 0) 0 ∧ w_fi ws (n_v vs 0) 0 ≤ 112 := tv_rng (th_fd hD hth r0 (g := GG_11) rfl (k := 0) (t := (0, 0, 112, [])) rfl rfl)
  obtain ⟨x, ex, hx⟩ := iv_ex (ta := ta) (lo := 0) (hi := 111) (z := w_fi ws (n_v vs 0) 0) (by omega) (by omega) (by omega) (by omega)
  have ex2 : v_iv (Value.int x) = w_fi ws (n_v vs 0) 0 := ex
  have ex3 : 0 ≤ v_iv (Value.int x) ∧ v_iv (Value.int x) ≤ 111 := tv_rng hx
  have e_0 : n_v (vs ++ [Value.int x]) 0 = n_v vs 0 := n_v_old (by rw [hl]; decide)
  have e_3 : n_v (vs ++ [Value.int x]) 3 = n_v vs 3 := n_v_old (by rw [hl]; decide)
  have e_8 : n_v (vs ++ [Value.int x]) 8 = Value.int x := n_v_new hl
  have nf0 : fc_1 (20, [0, 8], [30, 0, 1, 1, 0, -1, 0, 0]) ws (vs ++ [Value.int x]) := by
    refine ⟨fun n hn => ?_, ?_⟩
    · have hn : n ∈ [0, 8] := hn
      rw [List.length_append, hl]
      simp only [List.mem_cons, List.not_mem_nil, or_false] at hn
      show n < 8 + 1; omega
    · show 1 * w_fi ws (n_v (vs ++ [Value.int x]) 0) 0 + ((-1) * v_iv (n_v (vs ++ [Value.int x]) 8) + 0) ≤ 0
      rw [e_0]
      rw [e_8]
      omega
  have nf1 : fc_1 (23, [8, 3], [0, 1, -1]) ws (vs ++ [Value.int x]) := by
    refine ⟨fun n hn => ?_, ?_⟩
    · have hn : n ∈ [8, 3] := hn
      rw [List.length_append, hl]
      simp only [List.mem_cons, List.not_mem_nil, or_false] at hn
      show n < 8 + 1; omega
    · show 1 * v_iv (n_v (vs ++ [Value.int x]) 8) + ((-1) * v_iv (n_v (vs ++ [Value.int x]) 3) + 0) ≤ 0
      rw [e_3]
      rw [e_8]
      omega
  exact ⟨(fun _ h => (by cases h)), [Value.int x], ag_one hx, List.forall_mem_cons.mpr ⟨⟨show (20 : Nat) < 100 from by decide, nf0⟩, List.forall_mem_cons.mpr ⟨⟨show (23 : Nat) < 100 from by decide, nf1⟩, (fun _ h => (by cases h))⟩⟩, (fun _ h => (by cases h))⟩
def o_Sy_compile_3 : or_T := (41, 11, [(0, (2, 0, 0, [11])), (3, (0, 0, 111, [])), (6, (0, 112, 112, [])), (8, (0, 0, 111, [])), (10, (0, 1, 112, []))], [(6, [10, 3], [1]), (23, [8, 3], [0, 1, -1]), (20, [0, 8], [30, 1, 1, 1, 0, -1, 0, 0]), (102, [8], [595494142111642311060905563005594370048, 11000, 11001, 11002, 11005, 11006, 11007, 11008, 11009, 11011]), (23, [8, 3], [0, 1, -1]), (7, [3, 6], [2])], [], [], [(20, [0, 10], [30, 0, 1, 1, 0, -1, 0, 0])], [], [(10, 3, 1, 1)])
theorem oo_Sy_compile_3 {kA : Nat → ClassId} : or_ok kA GG o_Sy_compile_3 := by
  intro A ta ws vs hD hth hl hk hds hf
  have hl : vs.length = 11 := hl
  have hk : ∀ q ∈ ([(0, (2, 0, 0, [11])), (3, (0, 0, 111, [])), (6, (0, 112, 112, [])), (8, (0, 0, 111, [])), (10, (0, 1, 112, []))] : List (Nat × tv_T)), tv_ok ta q.2 (n_v vs q.1) := hk
  obtain ⟨t0, hk⟩ := List.forall_mem_cons.mp hk
  have t0 : tv_ok ta (2, 0, 0, [11]) (n_v vs 0) := t0
  have r0 : ta (v_ad (n_v vs 0)) = some 11 := tv_rg t0
  obtain ⟨t3, hk⟩ := List.forall_mem_cons.mp hk
  have t3 : tv_ok ta (0, 0, 111, []) (n_v vs 3) := t3
  have k3 : 0 ≤ v_iv (n_v vs 3) ∧ v_iv (n_v vs 3) ≤ 111 := tv_rng t3
  obtain ⟨t6, hk⟩ := List.forall_mem_cons.mp hk
  have t6 : tv_ok ta (0, 112, 112, []) (n_v vs 6) := t6
  have k6 : 112 ≤ v_iv (n_v vs 6) ∧ v_iv (n_v vs 6) ≤ 112 := tv_rng t6
  obtain ⟨t8, hk⟩ := List.forall_mem_cons.mp hk
  have t8 : tv_ok ta (0, 0, 111, []) (n_v vs 8) := t8
  have k8 : 0 ≤ v_iv (n_v vs 8) ∧ v_iv (n_v vs 8) ≤ 111 := tv_rng t8
  obtain ⟨t10, hk⟩ := List.forall_mem_cons.mp hk
  have t10 : tv_ok ta (0, 1, 112, []) (n_v vs 10) := t10
  have k10 : 1 ≤ v_iv (n_v vs 10) ∧ v_iv (n_v vs 10) ≤ 112 := tv_rng t10
  have hds : ∀ q ∈ ([(10, 3, 1, 1)] : List of_T), n_iv vs q.2.1 + q.2.2.1 ≤ n_iv vs q.1 ∧ n_iv vs q.1 ≤ n_iv vs q.2.1 + q.2.2.2 := hds
  obtain ⟨d0, hds⟩ := List.forall_mem_cons.mp hds
  have d0 : v_iv (n_v vs 3) + 1 ≤ v_iv (n_v vs 10) ∧ v_iv (n_v vs 10) ≤ v_iv (n_v vs 3) + 1 := d0
  have hf : fc_ok [(6, [10, 3], [1]), (23, [8, 3], [0, 1, -1]), (20, [0, 8], [30, 1, 1, 1, 0, -1, 0, 0]), (102, [8], [595494142111642311060905563005594370048, 11000, 11001, 11002, 11005, 11006, 11007, 11008, 11009, 11011]), (23, [8, 3], [0, 1, -1]), (7, [3, 6], [2])] ta ws vs := hf
  obtain ⟨f0, hf⟩ := fc_un (show (6 : Nat) < 100 from by decide) hf
  have f0 : v_iv (n_v vs 10) = v_iv (n_v vs 3) + 1 := f0
  obtain ⟨f1, hf⟩ := fc_un (show (23 : Nat) < 100 from by decide) hf
  have f1 : 1 * v_iv (n_v vs 8) + ((-1) * v_iv (n_v vs 3) + 0) ≤ 0 := f1
  obtain ⟨f2, hf⟩ := fc_un (show (20 : Nat) < 100 from by decide) hf
  have f2 : 1 * w_fi ws (n_v vs 0) 0 + ((-1) * v_iv (n_v vs 8) + 0) ≤ 1 := f2
  obtain ⟨ta1, w1, le1, ⟨_, s1⟩, hf⟩ := fc_us (show ¬ (102 : Nat) < 100 from by decide) hf
  obtain ⟨f4, hf⟩ := fc_un (show (23 : Nat) < 100 from by decide) hf
  have f4 : 1 * v_iv (n_v vs 8) + ((-1) * v_iv (n_v vs 3) + 0) ≤ 0 := f4
  obtain ⟨f5, hf⟩ := fc_un (show (7 : Nat) < 100 from by decide) hf
  have f5 : v_iv (n_v vs 3) < v_iv (n_v vs 6) := f5
  have kz_0_0 : 0 ≤ w_fi ws (n_v vs 0) 0 ∧ w_fi ws (n_v vs 0) 0 ≤ 112 := tv_rng (th_fd hD hth r0 (g := GG_11) rfl (k := 0) (t := (0, 0, 112, [])) rfl rfl)
  have nf0 : fc_1 (20, [0, 10], [30, 0, 1, 1, 0, -1, 0, 0]) ws (vs) := by
    refine ⟨fun n hn => ?_, ?_⟩
    · have hn : n ∈ [0, 10] := hn
      rw [hl]
      simp only [List.mem_cons, List.not_mem_nil, or_false] at hn
      show n < 11; omega
    · show 1 * w_fi ws (n_v vs 0) 0 + ((-1) * v_iv (n_v vs 10) + 0) ≤ 0
      omega
  refine ⟨(fun _ h => (by cases h)), [], trivial, ?_, (fun _ h => (by cases h))⟩
  rw [List.append_nil]
  exact List.forall_mem_cons.mpr ⟨⟨show (20 : Nat) < 100 from by decide, nf0⟩, (fun _ h => (by cases h))⟩
def n_Sy_compile_an : List an_T := [(41, [(0, (2, 0, 0, [11])), (1, (2, 0, 0, [109])), (2, (0, 0, 2000, [])), (3, (0, 0, 112, []))], [], (0, 0), [(0, 0, 99959), (1, 3, 112), (0, 0, 100000)], [(2, 3, -1000000000000, 2000), (2, 4, -1000000000000, 2000), (4, 2, -1000000000000, 112), (4, 3, -1000000000000, 111)], [((0, 0), (0, 0, 112, [])), ((0, 3), (2, 0, 0, [109]))], [], 0, [], [(20, [0, 3], [30, 0, 1, 1, 0, -1, 0, 0])])]
def t_Sy_compile_ct : ct_L := [(1, 69, e_Sy_advance), (1, 72, e_Sy_compileRule)]
set_option maxRecDepth 100000 in
theorem c_Sy_compile {l : Launch} {D : va_G} {kA : Nat → ClassId} (h_Sy_advance : ct_ok l D kA GG y_Sy_advance z_Sy_advance e_Sy_advance) (h_Sy_compileRule : ct_ok l D kA GG y_Sy_compileRule z_Sy_compileRule e_Sy_compileRule) : ct_ok l D kA GG y_Sy_compile z_Sy_compile e_Sy_compile := chk_all_ok (FT := [(9, 11, 0), (31, 11, 6), (50, 11, 11), (53, 11, 12)]) (PT := [(9, 11, 0, .int), (15, 11, 1, .int), (18, 11, 2, .int), (21, 11, 3, .array .byte), (25, 11, 4, .int), (28, 11, 5, .int), (50, 11, 11, .int)]) (CT := t_Sy_compile_ct) (KT := []) (NT := []) (AN := n_Sy_compile_an) (OT := [o_Sy_compile_0, o_Sy_compile_1, o_Sy_compile_2, o_Sy_compile_3]) 3 224 (List.forall_mem_cons.mpr ⟨oo_Sy_compile_0, List.forall_mem_cons.mpr ⟨oo_Sy_compile_1, List.forall_mem_cons.mpr ⟨oo_Sy_compile_2, List.forall_mem_cons.mpr ⟨oo_Sy_compile_3, List.forall_mem_nil _⟩⟩⟩⟩) (by decide +kernel) ⟨List.forall_mem_cons.mpr ⟨gf_Sy_9, List.forall_mem_cons.mpr ⟨gf_Sy_31, List.forall_mem_cons.mpr ⟨gf_Sy_50, List.forall_mem_cons.mpr ⟨gf_Sy_53, List.forall_mem_nil _⟩⟩⟩⟩, List.forall_mem_cons.mpr ⟨pf_Sy_9, List.forall_mem_cons.mpr ⟨pf_Sy_15, List.forall_mem_cons.mpr ⟨pf_Sy_18, List.forall_mem_cons.mpr ⟨pf_Sy_21, List.forall_mem_cons.mpr ⟨pf_Sy_25, List.forall_mem_cons.mpr ⟨pf_Sy_28, List.forall_mem_cons.mpr ⟨pf_Sy_50, List.forall_mem_nil _⟩⟩⟩⟩⟩⟩⟩, List.forall_mem_cons.mpr ⟨cl_virtual (y := y_Sy_advance) (ci := 11) rfl rfl ⟨_, _, rfl⟩ (by decide +kernel) h_Sy_advance wm_2158 wm_23 wm_2155 wm_2157 wv_10_10 ⟨by decide, by decide, by decide +kernel⟩ (by decide), List.forall_mem_cons.mpr ⟨cl_virtual (y := y_Sy_compileRule) (ci := 11) rfl rfl ⟨_, _, rfl⟩ (by decide +kernel) h_Sy_compileRule wm_2224 wm_23 wm_2221 wm_2223 wv_10_11 ⟨by decide, by decide, by decide +kernel⟩ (by decide), List.forall_mem_nil _⟩⟩, List.forall_mem_nil _, List.forall_mem_nil _, GG_pl⟩ (by decide +kernel)
def o_Re_readGraph_0 : or_T := (47, 3, [(0, (2, 0, 0, [8]))], [], [], [(0, -2147483648, 1000000, [])], [(20, [0, 3], [30, 0, 1, 1, 9, -1, 0, 0]), (20, [0, 3], [30, 0, -1, 1, 9, 1, 0, 0])], [], [])
theorem oo_Re_readGraph_0 {kA : Nat → ClassId} : or_ok kA GG o_Re_readGraph_0 := by
  intro A ta ws vs hD hth hl hk hds hf
  have hl : vs.length = 3 := hl
  have hk : ∀ q ∈ ([(0, (2, 0, 0, [8]))] : List (Nat × tv_T)), tv_ok ta q.2 (n_v vs q.1) := hk
  obtain ⟨t0, hk⟩ := List.forall_mem_cons.mp hk
  have t0 : tv_ok ta (2, 0, 0, [8]) (n_v vs 0) := t0
  have r0 : ta (v_ad (n_v vs 0)) = some 8 := tv_rg t0
  have kz_0_9 : (-2147483648) ≤ w_fi ws (n_v vs 0) 9 ∧ w_fi ws (n_v vs 0) 9 ≤ 1000000 := tv_rng (th_fd hD hth r0 (g := GG_8) rfl (k := 9) (t := (0, -2147483648, 1000000, [])) rfl rfl)
  have kv0 : (-2147483648) ≤ w_fi ws (n_v vs 0) 9 ∧ w_fi ws (n_v vs 0) 9 ≤ 1000000 := tv_rng (th_fd hD hth r0 (g := GG_8) rfl (k := 9) (t := (0, -2147483648, 1000000, [])) rfl rfl)
  obtain ⟨x, ex, hx⟩ := iv_ex (ta := ta) (lo := (-2147483648)) (hi := 1000000) (z := w_fi ws (n_v vs 0) 9) (by omega) (by omega) (by omega) (by omega)
  have ex2 : v_iv (Value.int x) = w_fi ws (n_v vs 0) 9 := ex
  have ex3 : (-2147483648) ≤ v_iv (Value.int x) ∧ v_iv (Value.int x) ≤ 1000000 := tv_rng hx
  have e_0 : n_v (vs ++ [Value.int x]) 0 = n_v vs 0 := n_v_old (by rw [hl]; decide)
  have e_3 : n_v (vs ++ [Value.int x]) 3 = Value.int x := n_v_new hl
  have nf0 : fc_1 (20, [0, 3], [30, 0, 1, 1, 9, -1, 0, 0]) ws (vs ++ [Value.int x]) := by
    refine ⟨fun n hn => ?_, ?_⟩
    · have hn : n ∈ [0, 3] := hn
      rw [List.length_append, hl]
      simp only [List.mem_cons, List.not_mem_nil, or_false] at hn
      show n < 3 + 1; omega
    · show 1 * w_fi ws (n_v (vs ++ [Value.int x]) 0) 9 + ((-1) * v_iv (n_v (vs ++ [Value.int x]) 3) + 0) ≤ 0
      rw [e_0]
      rw [e_3]
      omega
  have nf1 : fc_1 (20, [0, 3], [30, 0, -1, 1, 9, 1, 0, 0]) ws (vs ++ [Value.int x]) := by
    refine ⟨fun n hn => ?_, ?_⟩
    · have hn : n ∈ [0, 3] := hn
      rw [List.length_append, hl]
      simp only [List.mem_cons, List.not_mem_nil, or_false] at hn
      show n < 3 + 1; omega
    · show (-1) * w_fi ws (n_v (vs ++ [Value.int x]) 0) 9 + (1 * v_iv (n_v (vs ++ [Value.int x]) 3) + 0) ≤ 0
      rw [e_0]
      rw [e_3]
      omega
  exact ⟨(fun _ h => (by cases h)), [Value.int x], ag_one hx, List.forall_mem_cons.mpr ⟨⟨show (20 : Nat) < 100 from by decide, nf0⟩, List.forall_mem_cons.mpr ⟨⟨show (20 : Nat) < 100 from by decide, nf1⟩, (fun _ h => (by cases h))⟩⟩, (fun _ h => (by cases h))⟩
def n_Re_readGraph_an : List an_T := [(41, [(0, (2, 0, 0, [8])), (1, (0, 0, 2000, [])), (2, (0, 0, 2001, []))], [], (0, 0), [(0, 0, 99959), (1, 2, 2001), (0, 0, 100000)], [(1, 2, -1000000000000, 2000), (2, 1, -1000000000000, 1)], [], [], 0, [], [])]
def t_Re_readGraph_ct : ct_L := [(1, 54, e_Gr_clear), (1, 57, e_Re_advance), (1, 60, e_Re_readItem)]
set_option maxRecDepth 100000 in
theorem c_Re_readGraph {l : Launch} {D : va_G} {kA : Nat → ClassId} (h_Gr_clear : ct_ok l D kA GG y_Gr_clear z_Gr_clear e_Gr_clear) (h_Re_advance : ct_ok l D kA GG y_Re_advance z_Re_advance e_Re_advance) (h_Re_readItem : ct_ok l D kA GG y_Re_readItem z_Re_readItem e_Re_readItem) : ct_ok l D kA GG y_Re_readGraph z_Re_readGraph e_Re_readGraph := chk_all_ok (FT := [(28, 8, 4), (38, 8, 7), (47, 8, 10), (51, 8, 11)]) (PT := [(19, 8, 2, .int), (22, 8, 3, .int), (32, 8, 5, .int), (35, 8, 6, .int), (51, 8, 11, .int)]) (CT := t_Re_readGraph_ct) (KT := []) (NT := []) (AN := n_Re_readGraph_an) (OT := [o_Re_readGraph_0]) 3 216 (List.forall_mem_cons.mpr ⟨oo_Re_readGraph_0, List.forall_mem_nil _⟩) (by decide +kernel) ⟨List.forall_mem_cons.mpr ⟨gf_Re_28, List.forall_mem_cons.mpr ⟨gf_Re_38, List.forall_mem_cons.mpr ⟨gf_Re_47, List.forall_mem_cons.mpr ⟨gf_Re_51, List.forall_mem_nil _⟩⟩⟩⟩, List.forall_mem_cons.mpr ⟨pf_Re_19, List.forall_mem_cons.mpr ⟨pf_Re_22, List.forall_mem_cons.mpr ⟨pf_Re_32, List.forall_mem_cons.mpr ⟨pf_Re_35, List.forall_mem_cons.mpr ⟨pf_Re_51, List.forall_mem_nil _⟩⟩⟩⟩⟩, List.forall_mem_cons.mpr ⟨cl_virtual (y := y_Gr_clear) (ci := 3) rfl rfl ⟨_, _, rfl⟩ (by decide +kernel) h_Gr_clear wm_641 wm_3 wm_638 wm_639 wm_640 ⟨by decide, by decide, by decide +kernel⟩ (by decide), List.forall_mem_cons.mpr ⟨cl_virtual (y := y_Re_advance) (ci := 8) rfl rfl ⟨_, _, rfl⟩ (by decide +kernel) h_Re_advance wm_645 wm_2 wm_642 wm_644 wv_1_0 ⟨by decide, by decide, by decide +kernel⟩ (by decide), List.forall_mem_cons.mpr ⟨cl_virtual (y := y_Re_readItem) (ci := 8) rfl rfl ⟨_, _, rfl⟩ (by decide +kernel) h_Re_readItem wm_665 wm_2 wm_662 wm_664 wv_1_1 ⟨by decide, by decide, by decide +kernel⟩ (by decide), List.forall_mem_nil _⟩⟩⟩, List.forall_mem_nil _, List.forall_mem_nil _, GG_pl⟩ (by decide +kernel)
def n_Ho_embedded_an : List an_T := []
def t_Ho_embedded_ct : ct_L := [(1, 422, e_Em_embed), (1, 426, e_Em_bar), (70, 419, e_Ne_load_at_Ne)]
set_option maxRecDepth 100000 in
theorem c_Ho_embedded {l : Launch} {D : va_G} {kA : Nat → ClassId} (h_Em_bar : ct_ok l D kA GG y_Em_bar z_Em_bar e_Em_bar) (h_Em_embed : ct_ok l D kA GG y_Em_embed z_Em_embed e_Em_embed) (h_Ne_load_at_Ne : ct_ok l D kA GG y_Ne_load_at_Ne z_Ne_load_at_Ne e_Ne_load_at_Ne) : ct_ok l D kA GG y_Ho_embedded z_Ho_embedded e_Ho_embedded := chk_all_ok (FT := [(13, 12, 0), (25, 12, 2), (45, 12, 5), (265, 5, 0)]) (PT := [(265, 5, 0, .int)]) (CT := t_Ho_embedded_ct) (KT := []) (NT := []) (AN := n_Ho_embedded_an) (OT := []) 0 200 (List.forall_mem_nil _) (by decide +kernel) ⟨List.forall_mem_cons.mpr ⟨gf_Ho_13, List.forall_mem_cons.mpr ⟨gf_Ho_25, List.forall_mem_cons.mpr ⟨gf_Ho_45, List.forall_mem_cons.mpr ⟨gf_Ho_265, List.forall_mem_nil _⟩⟩⟩⟩, List.forall_mem_cons.mpr ⟨pf_Ho_265, List.forall_mem_nil _⟩, List.forall_mem_cons.mpr ⟨cl_virtual (y := y_Em_embed) (ci := 1) rfl rfl ⟨_, _, rfl⟩ (by decide +kernel) h_Em_embed wm_1069 wm_5 wm_1066 wm_1067 wm_1068 ⟨by decide, by decide, by decide +kernel⟩ (by decide), List.forall_mem_cons.mpr ⟨cl_virtual (y := y_Em_bar) (ci := 1) rfl rfl ⟨_, _, rfl⟩ (by decide +kernel) h_Em_bar wm_1155 wm_5 wm_1152 wm_1153 wm_1154 ⟨by decide, by decide, by decide +kernel⟩ (by decide), List.forall_mem_cons.mpr ⟨cl_virtual (y := y_Ne_load_at_Ne) (ci := 5) rfl rfl ⟨_, _, rfl⟩ (by decide +kernel) h_Ne_load_at_Ne wm_1056 wm_6 wm_1053 wm_1054 wm_1055 ⟨by decide, by decide, by decide +kernel⟩ (by decide), List.forall_mem_nil _⟩⟩⟩, List.forall_mem_nil _, List.forall_mem_nil _, GG_pl⟩ (by decide +kernel)
def n_Ho_planar_an : List an_T := []
def t_Ho_planar_ct : ct_L := [(0, 115, e_Ho_isPlace), (1, 261, e_Ho_embedded), (1, 268, e_Em_outer)]
set_option maxRecDepth 100000 in
theorem c_Ho_planar {l : Launch} {D : va_G} {kA : Nat → ClassId} (h_Em_outer : ct_ok l D kA GG y_Em_outer z_Em_outer e_Em_outer) (h_Ho_embedded : ct_ok l D kA GG y_Ho_embedded z_Ho_embedded e_Ho_embedded) (h_Ho_isPlace : ct_ok l D kA GG y_Ho_isPlace z_Ho_isPlace e_Ho_isPlace) : ct_ok l D kA GG y_Ho_planar z_Ho_planar e_Ho_planar := chk_all_ok (FT := [(13, 12, 0), (45, 12, 5), (265, 5, 0), (272, 5, 13), (275, 5, 2), (278, 5, 3)]) (PT := []) (CT := t_Ho_planar_ct) (KT := []) (NT := []) (AN := n_Ho_planar_an) (OT := []) 0 236 (List.forall_mem_nil _) (by decide +kernel) ⟨List.forall_mem_cons.mpr ⟨gf_Ho_13, List.forall_mem_cons.mpr ⟨gf_Ho_45, List.forall_mem_cons.mpr ⟨gf_Ho_265, List.forall_mem_cons.mpr ⟨gf_Ho_272, List.forall_mem_cons.mpr ⟨gf_Ho_275, List.forall_mem_cons.mpr ⟨gf_Ho_278, List.forall_mem_nil _⟩⟩⟩⟩⟩⟩, List.forall_mem_nil _, List.forall_mem_cons.mpr ⟨cl_static (y := y_Ho_isPlace) h_Ho_isPlace wm_633 wm_1 wm_631 wm_632 ⟨by decide, by decide, by decide +kernel⟩ (by decide), List.forall_mem_cons.mpr ⟨cl_virtual (y := y_Ho_embedded) (ci := 12) rfl rfl ⟨_, _, rfl⟩ (by decide +kernel) h_Ho_embedded wm_1052 wm_1 wm_1049 wm_1051 wv_3_6 ⟨by decide, by decide, by decide +kernel⟩ (by decide), List.forall_mem_cons.mpr ⟨cl_virtual (y := y_Em_outer) (ci := 1) rfl rfl ⟨_, _, rfl⟩ (by decide +kernel) h_Em_outer wm_1167 wm_5 wm_1164 wm_1165 wm_1166 ⟨by decide, by decide, by decide +kernel⟩ (by decide), List.forall_mem_nil _⟩⟩⟩, List.forall_mem_nil _, List.forall_mem_nil _, GG_pl⟩ (by decide +kernel)
def n_Ho_turn_an : List an_T := []
def t_Ho_turn_ct : ct_L := [(0, 115, e_Ho_isPlace), (1, 261, e_Ho_embedded), (1, 284, e_Ne_edgeAround), (1, 287, e_Ne_nodeOfFace)]
set_option maxRecDepth 100000 in
theorem c_Ho_turn {l : Launch} {D : va_G} {kA : Nat → ClassId} (h_Ho_embedded : ct_ok l D kA GG y_Ho_embedded z_Ho_embedded e_Ho_embedded) (h_Ho_isPlace : ct_ok l D kA GG y_Ho_isPlace z_Ho_isPlace e_Ho_isPlace) (h_Ne_edgeAround : ct_ok l D kA GG y_Ne_edgeAround z_Ne_edgeAround e_Ne_edgeAround) (h_Ne_nodeOfFace : ct_ok l D kA GG y_Ne_nodeOfFace z_Ne_nodeOfFace e_Ne_nodeOfFace) : ct_ok l D kA GG y_Ho_turn z_Ho_turn e_Ho_turn := chk_all_ok (FT := [(265, 5, 0), (278, 5, 3), (281, 5, 4)]) (PT := []) (CT := t_Ho_turn_ct) (KT := []) (NT := []) (AN := n_Ho_turn_an) (OT := []) 0 272 (List.forall_mem_nil _) (by decide +kernel) ⟨List.forall_mem_cons.mpr ⟨gf_Ho_265, List.forall_mem_cons.mpr ⟨gf_Ho_278, List.forall_mem_cons.mpr ⟨gf_Ho_281, List.forall_mem_nil _⟩⟩⟩, List.forall_mem_nil _, List.forall_mem_cons.mpr ⟨cl_static (y := y_Ho_isPlace) h_Ho_isPlace wm_633 wm_1 wm_631 wm_632 ⟨by decide, by decide, by decide +kernel⟩ (by decide), List.forall_mem_cons.mpr ⟨cl_virtual (y := y_Ho_embedded) (ci := 12) rfl rfl ⟨_, _, rfl⟩ (by decide +kernel) h_Ho_embedded wm_1052 wm_1 wm_1049 wm_1051 wv_3_6 ⟨by decide, by decide, by decide +kernel⟩ (by decide), List.forall_mem_cons.mpr ⟨cl_virtual (y := y_Ne_edgeAround) (ci := 5) rfl rfl ⟨_, _, rfl⟩ (by decide +kernel) h_Ne_edgeAround wm_1176 wm_6 wm_1173 wm_1174 wm_1175 ⟨by decide, by decide, by decide +kernel⟩ (by decide), List.forall_mem_cons.mpr ⟨cl_virtual (y := y_Ne_nodeOfFace) (ci := 5) rfl rfl ⟨_, _, rfl⟩ (by decide +kernel) h_Ne_nodeOfFace wm_1181 wm_6 wm_1178 wm_1179 wm_1180 ⟨by decide, by decide, by decide +kernel⟩ (by decide), List.forall_mem_nil _⟩⟩⟩⟩, List.forall_mem_nil _, List.forall_mem_nil _, GG_pl⟩ (by decide +kernel)
def n_Pn_lay_an : List an_T := []
def t_Pn_lay_ct : ct_L := [(1, 52, e_Pn_layGrid), (1, 64, e_Pn_layBars)]
set_option maxRecDepth 100000 in
theorem c_Pn_lay {l : Launch} {D : va_G} {kA : Nat → ClassId} (h_Pn_layBars : ct_ok l D kA GG y_Pn_layBars z_Pn_layBars e_Pn_layBars) (h_Pn_layGrid : ct_ok l D kA GG y_Pn_layGrid z_Pn_layGrid e_Pn_layGrid) : ct_ok l D kA GG y_Pn_lay z_Pn_lay e_Pn_lay := chk_all_ok (FT := [(44, 5, 0), (47, 3, 0), (56, 2, 2), (61, 2, 1)]) (PT := []) (CT := t_Pn_lay_ct) (KT := []) (NT := []) (AN := n_Pn_lay_an) (OT := []) 0 200 (List.forall_mem_nil _) (by decide +kernel) ⟨List.forall_mem_cons.mpr ⟨gf_Pn_44, List.forall_mem_cons.mpr ⟨gf_Pn_47, List.forall_mem_cons.mpr ⟨gf_Pn_56, List.forall_mem_cons.mpr ⟨gf_Pn_61, List.forall_mem_nil _⟩⟩⟩⟩, List.forall_mem_nil _, List.forall_mem_cons.mpr ⟨cl_virtual (y := y_Pn_layGrid) (ci := 7) rfl rfl ⟨_, _, rfl⟩ (by decide +kernel) h_Pn_layGrid wm_1508 wm_20 wm_1505 wm_1507 wv_6_4 ⟨by decide, by decide, by decide +kernel⟩ (by decide), List.forall_mem_cons.mpr ⟨cl_virtual (y := y_Pn_layBars) (ci := 7) rfl rfl ⟨_, _, rfl⟩ (by decide +kernel) h_Pn_layBars wm_1583 wm_20 wm_1580 wm_1582 wv_7_0 ⟨by decide, by decide, by decide +kernel⟩ (by decide), List.forall_mem_nil _⟩⟩, List.forall_mem_nil _, List.forall_mem_nil _, GG_pl⟩ (by decide +kernel)
def n_Mo_planar_an : List an_T := []
def t_Mo_planar_ct : ct_L := [(0, 387, e_Mo_in), (0, 521, e_Mo_isPlace), (1, 527, e_Mo_take), (1, 701, e_Mo_isOuter), (1, 704, e_Mo_isPlanar), (1, 707, e_Mo_goRound), (1, 710, e_Mo_bar)]
set_option maxRecDepth 100000 in
theorem c_Mo_planar {l : Launch} {D : va_G} {kA : Nat → ClassId} (h_Mo_bar : ct_ok l D kA GG y_Mo_bar z_Mo_bar e_Mo_bar) (h_Mo_goRound : ct_ok l D kA GG y_Mo_goRound z_Mo_goRound e_Mo_goRound) (h_Mo_in : ct_ok l D kA GG y_Mo_in z_Mo_in e_Mo_in) (h_Mo_isOuter : ct_ok l D kA GG y_Mo_isOuter z_Mo_isOuter e_Mo_isOuter) (h_Mo_isPlace : ct_ok l D kA GG y_Mo_isPlace z_Mo_isPlace e_Mo_isPlace) (h_Mo_isPlanar : ct_ok l D kA GG y_Mo_isPlanar z_Mo_isPlanar e_Mo_isPlanar) (h_Mo_take : ct_ok l D kA GG y_Mo_take z_Mo_take e_Mo_take) : ct_ok l D kA GG y_Mo_planar z_Mo_planar e_Mo_planar := chk_all_ok (FT := [(683, 13, 53), (695, 13, 58), (698, 13, 59)]) (PT := []) (CT := t_Mo_planar_ct) (KT := []) (NT := []) (AN := n_Mo_planar_an) (OT := []) 0 324 (List.forall_mem_nil _) (by decide +kernel) ⟨List.forall_mem_cons.mpr ⟨gf_Mo_683, List.forall_mem_cons.mpr ⟨gf_Mo_695, List.forall_mem_cons.mpr ⟨gf_Mo_698, List.forall_mem_nil _⟩⟩⟩, List.forall_mem_nil _, List.forall_mem_cons.mpr ⟨cl_static (y := y_Mo_in) h_Mo_in wm_2971 wm_9 wm_2969 wm_2970 ⟨by decide, by decide, by decide +kernel⟩ (by decide), List.forall_mem_cons.mpr ⟨cl_static (y := y_Mo_isPlace) h_Mo_isPlace wm_2978 wm_9 wm_2976 wm_2977 ⟨by decide, by decide, by decide +kernel⟩ (by decide), List.forall_mem_cons.mpr ⟨cl_virtual (y := y_Mo_take) (ci := 13) rfl rfl ⟨_, _, rfl⟩ (by decide +kernel) h_Mo_take wm_3091 wm_9 wm_3088 wm_3090 wv_14_2 ⟨by decide, by decide, by decide +kernel⟩ (by decide), List.forall_mem_cons.mpr ⟨cl_virtual (y := y_Mo_isOuter) (ci := 13) rfl rfl ⟨_, _, rfl⟩ (by decide +kernel) h_Mo_isOuter wm_3143 wm_9 wm_3140 wm_3142 wv_14_11 ⟨by decide, by decide, by decide +kernel⟩ (by decide), List.forall_mem_cons.mpr ⟨cl_virtual (y := y_Mo_isPlanar) (ci := 13) rfl rfl ⟨_, _, rfl⟩ (by decide +kernel) h_Mo_isPlanar wm_3251 wm_9 wm_3248 wm_3250 wv_16_5 ⟨by decide, by decide, by decide +kernel⟩ (by decide), List.forall_mem_cons.mpr ⟨cl_virtual (y := y_Mo_goRound) (ci := 13) rfl rfl ⟨_, _, rfl⟩ (by decide +kernel) h_Mo_goRound wm_3255 wm_9 wm_3252 wm_3254 wv_16_6 ⟨by decide, by decide, by decide +kernel⟩ (by decide), List.forall_mem_cons.mpr ⟨cl_virtual (y := y_Mo_bar) (ci := 13) rfl rfl ⟨_, _, rfl⟩ (by decide +kernel) h_Mo_bar wm_3267 wm_9 wm_3264 wm_3266 wv_16_9 ⟨by decide, by decide, by decide +kernel⟩ (by decide), List.forall_mem_nil _⟩⟩⟩⟩⟩⟩⟩, List.forall_mem_nil _, List.forall_mem_nil _, GG_pl⟩ (by decide +kernel)
def o_Mo_turn_0 : or_T := (192, 31, [(4, (0, 0, 159, [])), (22, (0, 0, 160, [])), (23, (0, 0, 160, [])), (24, (0, -160, 160, [])), (25, (0, 1, 1, [])), (26, (0, -161, 159, [])), (29, (0, 0, 160, [])), (30, (0, 0, 319, []))], [(1, [30, 29, 4], []), (10, [29, 19, 3], []), (2, [26, 24, 25], []), (2, [24, 22, 23], []), (10, [23, 19, 3], [])], [(30, (0, 0, 159, []))], [], [], [], [(30, 4, 0, 160), (30, 26, -4294967296, 160), (30, 29, 0, 159), (4, 26, -4294967296, 0), (26, 24, -1, -1), (26, 22, -161, -1), (24, 22, -160, 0)])
theorem oo_Mo_turn_0 {kA : Nat → ClassId} : or_ok kA GG o_Mo_turn_0 := by
  intro A ta ws vs hD hth hl hk hds hf
  have hl : vs.length = 31 := hl
  have hk : ∀ q ∈ ([(4, (0, 0, 159, [])), (22, (0, 0, 160, [])), (23, (0, 0, 160, [])), (24, (0, -160, 160, [])), (25, (0, 1, 1, [])), (26, (0, -161, 159, [])), (29, (0, 0, 160, [])), (30, (0, 0, 319, []))] : List (Nat × tv_T)), tv_ok ta q.2 (n_v vs q.1) := hk
  obtain ⟨t4, hk⟩ := List.forall_mem_cons.mp hk
  have t4 : tv_ok ta (0, 0, 159, []) (n_v vs 4) := t4
  have k4 : 0 ≤ v_iv (n_v vs 4) ∧ v_iv (n_v vs 4) ≤ 159 := tv_rng t4
  obtain ⟨t22, hk⟩ := List.forall_mem_cons.mp hk
  have t22 : tv_ok ta (0, 0, 160, []) (n_v vs 22) := t22
  have k22 : 0 ≤ v_iv (n_v vs 22) ∧ v_iv (n_v vs 22) ≤ 160 := tv_rng t22
  obtain ⟨t23, hk⟩ := List.forall_mem_cons.mp hk
  have t23 : tv_ok ta (0, 0, 160, []) (n_v vs 23) := t23
  have k23 : 0 ≤ v_iv (n_v vs 23) ∧ v_iv (n_v vs 23) ≤ 160 := tv_rng t23
  obtain ⟨t24, hk⟩ := List.forall_mem_cons.mp hk
  have t24 : tv_ok ta (0, -160, 160, []) (n_v vs 24) := t24
  have k24 : (-160) ≤ v_iv (n_v vs 24) ∧ v_iv (n_v vs 24) ≤ 160 := tv_rng t24
  obtain ⟨t25, hk⟩ := List.forall_mem_cons.mp hk
  have t25 : tv_ok ta (0, 1, 1, []) (n_v vs 25) := t25
  have k25 : 1 ≤ v_iv (n_v vs 25) ∧ v_iv (n_v vs 25) ≤ 1 := tv_rng t25
  obtain ⟨t26, hk⟩ := List.forall_mem_cons.mp hk
  have t26 : tv_ok ta (0, -161, 159, []) (n_v vs 26) := t26
  have k26 : (-161) ≤ v_iv (n_v vs 26) ∧ v_iv (n_v vs 26) ≤ 159 := tv_rng t26
  obtain ⟨t29, hk⟩ := List.forall_mem_cons.mp hk
  have t29 : tv_ok ta (0, 0, 160, []) (n_v vs 29) := t29
  have k29 : 0 ≤ v_iv (n_v vs 29) ∧ v_iv (n_v vs 29) ≤ 160 := tv_rng t29
  obtain ⟨t30, hk⟩ := List.forall_mem_cons.mp hk
  have t30 : tv_ok ta (0, 0, 319, []) (n_v vs 30) := t30
  have k30 : 0 ≤ v_iv (n_v vs 30) ∧ v_iv (n_v vs 30) ≤ 319 := tv_rng t30
  have hds : ∀ q ∈ ([(30, 4, 0, 160), (30, 26, -4294967296, 160), (30, 29, 0, 159), (4, 26, -4294967296, 0), (26, 24, -1, -1), (26, 22, -161, -1), (24, 22, -160, 0)] : List of_T), n_iv vs q.2.1 + q.2.2.1 ≤ n_iv vs q.1 ∧ n_iv vs q.1 ≤ n_iv vs q.2.1 + q.2.2.2 := hds
  obtain ⟨d0, hds⟩ := List.forall_mem_cons.mp hds
  have d0 : v_iv (n_v vs 4) + 0 ≤ v_iv (n_v vs 30) ∧ v_iv (n_v vs 30) ≤ v_iv (n_v vs 4) + 160 := d0
  obtain ⟨d1, hds⟩ := List.forall_mem_cons.mp hds
  have d1 : v_iv (n_v vs 26) + (-4294967296) ≤ v_iv (n_v vs 30) ∧ v_iv (n_v vs 30) ≤ v_iv (n_v vs 26) + 160 := d1
  obtain ⟨d2, hds⟩ := List.forall_mem_cons.mp hds
  have d2 : v_iv (n_v vs 29) + 0 ≤ v_iv (n_v vs 30) ∧ v_iv (n_v vs 30) ≤ v_iv (n_v vs 29) + 159 := d2
  obtain ⟨d3, hds⟩ := List.forall_mem_cons.mp hds
  have d3 : v_iv (n_v vs 26) + (-4294967296) ≤ v_iv (n_v vs 4) ∧ v_iv (n_v vs 4) ≤ v_iv (n_v vs 26) + 0 := d3
  obtain ⟨d4, hds⟩ := List.forall_mem_cons.mp hds
  have d4 : v_iv (n_v vs 24) + (-1) ≤ v_iv (n_v vs 26) ∧ v_iv (n_v vs 26) ≤ v_iv (n_v vs 24) + (-1) := d4
  obtain ⟨d5, hds⟩ := List.forall_mem_cons.mp hds
  have d5 : v_iv (n_v vs 22) + (-161) ≤ v_iv (n_v vs 26) ∧ v_iv (n_v vs 26) ≤ v_iv (n_v vs 22) + (-1) := d5
  obtain ⟨d6, hds⟩ := List.forall_mem_cons.mp hds
  have d6 : v_iv (n_v vs 22) + (-160) ≤ v_iv (n_v vs 24) ∧ v_iv (n_v vs 24) ≤ v_iv (n_v vs 22) + 0 := d6
  have hf : fc_ok [(1, [30, 29, 4], []), (10, [29, 19, 3], []), (2, [26, 24, 25], []), (2, [24, 22, 23], []), (10, [23, 19, 3], [])] ta ws vs := hf
  obtain ⟨f0, hf⟩ := fc_un (show (1 : Nat) < 100 from by decide) hf
  have f0 : v_iv (n_v vs 30) = v_iv (n_v vs 29) + v_iv (n_v vs 4) := f0
  obtain ⟨f1, hf⟩ := fc_un (show (10 : Nat) < 100 from by decide) hf
  have f1 : v_iv (n_v vs 29) = w_el ws (v_ad (n_v vs 19)) (v_iv (n_v vs 3)).toNat := f1
  obtain ⟨f2, hf⟩ := fc_un (show (2 : Nat) < 100 from by decide) hf
  have f2 : v_iv (n_v vs 26) = v_iv (n_v vs 24) - v_iv (n_v vs 25) := f2
  obtain ⟨f3, hf⟩ := fc_un (show (2 : Nat) < 100 from by decide) hf
  have f3 : v_iv (n_v vs 24) = v_iv (n_v vs 22) - v_iv (n_v vs 23) := f3
  obtain ⟨f4, hf⟩ := fc_un (show (10 : Nat) < 100 from by decide) hf
  have f4 : v_iv (n_v vs 23) = w_el ws (v_ad (n_v vs 19)) (v_iv (n_v vs 3)).toNat := f4
  have rf30 : tv_ok ta (0, 0, 159, []) (n_v vs 30) := tv_in t30 (by omega) (by omega)
  refine ⟨List.forall_mem_cons.mpr ⟨rf30, (fun _ h => (by cases h))⟩, [], trivial, ?_, (fun _ h => (by cases h))⟩
  rw [List.append_nil]
  exact (fun _ h => (by cases h))
def n_Mo_turn_an : List an_T := []
def t_Mo_turn_ct : ct_L := [(0, 387, e_Mo_in), (0, 521, e_Mo_isPlace), (1, 527, e_Mo_take), (1, 704, e_Mo_isPlanar), (1, 707, e_Mo_goRound), (1, 710, e_Mo_bar), (1, 713, e_Mo_fromOf)]
set_option maxRecDepth 100000 in
theorem c_Mo_turn {l : Launch} {D : va_G} {kA : Nat → ClassId} (h_Mo_bar : ct_ok l D kA GG y_Mo_bar z_Mo_bar e_Mo_bar) (h_Mo_fromOf : ct_ok l D kA GG y_Mo_fromOf z_Mo_fromOf e_Mo_fromOf) (h_Mo_goRound : ct_ok l D kA GG y_Mo_goRound z_Mo_goRound e_Mo_goRound) (h_Mo_in : ct_ok l D kA GG y_Mo_in z_Mo_in e_Mo_in) (h_Mo_isPlace : ct_ok l D kA GG y_Mo_isPlace z_Mo_isPlace e_Mo_isPlace) (h_Mo_isPlanar : ct_ok l D kA GG y_Mo_isPlanar z_Mo_isPlanar e_Mo_isPlanar) (h_Mo_take : ct_ok l D kA GG y_Mo_take z_Mo_take e_Mo_take) : ct_ok l D kA GG y_Mo_turn z_Mo_turn e_Mo_turn := chk_all_ok (FT := [(66, 13, 36), (69, 13, 37), (111, 13, 56), (114, 13, 57), (117, 13, 60), (594, 13, 31), (683, 13, 53), (695, 13, 58)]) (PT := []) (CT := t_Mo_turn_ct) (KT := []) (NT := []) (AN := n_Mo_turn_an) (OT := [o_Mo_turn_0]) 0 640 (List.forall_mem_cons.mpr ⟨oo_Mo_turn_0, List.forall_mem_nil _⟩) (by decide +kernel) ⟨List.forall_mem_cons.mpr ⟨gf_Mo_66, List.forall_mem_cons.mpr ⟨gf_Mo_69, List.forall_mem_cons.mpr ⟨gf_Mo_111, List.forall_mem_cons.mpr ⟨gf_Mo_114, List.forall_mem_cons.mpr ⟨gf_Mo_117, List.forall_mem_cons.mpr ⟨gf_Mo_594, List.forall_mem_cons.mpr ⟨gf_Mo_683, List.forall_mem_cons.mpr ⟨gf_Mo_695, List.forall_mem_nil _⟩⟩⟩⟩⟩⟩⟩⟩, List.forall_mem_nil _, List.forall_mem_cons.mpr ⟨cl_static (y := y_Mo_in) h_Mo_in wm_2971 wm_9 wm_2969 wm_2970 ⟨by decide, by decide, by decide +kernel⟩ (by decide), List.forall_mem_cons.mpr ⟨cl_static (y := y_Mo_isPlace) h_Mo_isPlace wm_2978 wm_9 wm_2976 wm_2977 ⟨by decide, by decide, by decide +kernel⟩ (by decide), List.forall_mem_cons.mpr ⟨cl_virtual (y := y_Mo_take) (ci := 13) rfl rfl ⟨_, _, rfl⟩ (by decide +kernel) h_Mo_take wm_3091 wm_9 wm_3088 wm_3090 wv_14_2 ⟨by decide, by decide, by decide +kernel⟩ (by decide), List.forall_mem_cons.mpr ⟨cl_virtual (y := y_Mo_isPlanar) (ci := 13) rfl rfl ⟨_, _, rfl⟩ (by decide +kernel) h_Mo_isPlanar wm_3251 wm_9 wm_3248 wm_3250 wv_16_5 ⟨by decide, by decide, by decide +kernel⟩ (by decide), List.forall_mem_cons.mpr ⟨cl_virtual (y := y_Mo_goRound) (ci := 13) rfl rfl ⟨_, _, rfl⟩ (by decide +kernel) h_Mo_goRound wm_3255 wm_9 wm_3252 wm_3254 wv_16_6 ⟨by decide, by decide, by decide +kernel⟩ (by decide), List.forall_mem_cons.mpr ⟨cl_virtual (y := y_Mo_bar) (ci := 13) rfl rfl ⟨_, _, rfl⟩ (by decide +kernel) h_Mo_bar wm_3267 wm_9 wm_3264 wm_3266 wv_16_9 ⟨by decide, by decide, by decide +kernel⟩ (by decide), List.forall_mem_cons.mpr ⟨cl_virtual (y := y_Mo_fromOf) (ci := 13) rfl rfl ⟨_, _, rfl⟩ (by decide +kernel) h_Mo_fromOf wm_3275 wm_9 wm_3272 wm_3274 wv_16_10 ⟨by decide, by decide, by decide +kernel⟩ (by decide), List.forall_mem_nil _⟩⟩⟩⟩⟩⟩⟩, List.forall_mem_nil _, List.forall_mem_nil _, GG_pl⟩ (by decide +kernel)
def n_Ho_read_an : List an_T := []
def t_Ho_read_ct : ct_L := [(0, 115, e_Ho_isPlace), (1, 119, e_Re_readGraph), (1, 126, e_Gr_copyFrom), (1, 129, e_Ho_forget)]
set_option maxRecDepth 100000 in
theorem c_Ho_read {l : Launch} {D : va_G} {kA : Nat → ClassId} (h_Gr_copyFrom : ct_ok l D kA GG y_Gr_copyFrom z_Gr_copyFrom e_Gr_copyFrom) (h_Ho_forget : ct_ok l D kA GG y_Ho_forget z_Ho_forget e_Ho_forget) (h_Ho_isPlace : ct_ok l D kA GG y_Ho_isPlace z_Ho_isPlace e_Ho_isPlace) (h_Re_readGraph : ct_ok l D kA GG y_Re_readGraph z_Re_readGraph e_Re_readGraph) : ct_ok l D kA GG y_Ho_read z_Ho_read e_Ho_read := chk_all_ok (FT := [(13, 12, 0), (38, 12, 4), (108, 8, 1), (122, 8, 4), (132, 3, 0)]) (PT := [(108, 8, 1, .int)]) (CT := t_Ho_read_ct) (KT := []) (NT := []) (AN := n_Ho_read_an) (OT := []) 0 200 (List.forall_mem_nil _) (by decide +kernel) ⟨List.forall_mem_cons.mpr ⟨gf_Ho_13, List.forall_mem_cons.mpr ⟨gf_Ho_38, List.forall_mem_cons.mpr ⟨gf_Ho_108, List.forall_mem_cons.mpr ⟨gf_Ho_122, List.forall_mem_cons.mpr ⟨gf_Ho_132, List.forall_mem_nil _⟩⟩⟩⟩⟩, List.forall_mem_cons.mpr ⟨pf_Ho_108, List.forall_mem_nil _⟩, List.forall_mem_cons.mpr ⟨cl_static (y := y_Ho_isPlace) h_Ho_isPlace wm_633 wm_1 wm_631 wm_632 ⟨by decide, by decide, by decide +kernel⟩ (by decide), List.forall_mem_cons.mpr ⟨cl_virtual (y := y_Re_readGraph) (ci := 8) rfl rfl ⟨_, _, rfl⟩ (by decide +kernel) h_Re_readGraph wm_637 wm_2 wm_634 wm_635 wm_636 ⟨by decide, by decide, by decide +kernel⟩ (by decide), List.forall_mem_cons.mpr ⟨cl_virtual (y := y_Gr_copyFrom) (ci := 3) rfl rfl ⟨_, _, rfl⟩ (by decide +kernel) h_Gr_copyFrom wm_781 wm_3 wm_778 wm_779 wm_780 ⟨by decide, by decide, by decide +kernel⟩ (by decide), List.forall_mem_cons.mpr ⟨cl_virtual (y := y_Ho_forget) (ci := 12) rfl rfl ⟨_, _, rfl⟩ (by decide +kernel) h_Ho_forget wm_789 wm_1 wm_786 wm_788 wv_1_13 ⟨by decide, by decide, by decide +kernel⟩ (by decide), List.forall_mem_nil _⟩⟩⟩⟩, List.forall_mem_nil _, List.forall_mem_nil _, GG_pl⟩ (by decide +kernel)
def n_Mo_draw_an : List an_T := [(17, [(0, (2, 0, 0, [150])), (1, (0, -2147483648, 2147483647, [])), (2, (0, -2147483648, 2147483647, [])), (3, (0, -2147483648, 2147483647, []))], [], (0, 0), [(0, 0, 99983), (0, 0, 0), (0, 0, 0)], [], [], [], 0, [], []), (36, [(0, (2, 0, 0, [150])), (1, (0, 0, 3, [])), (2, (0, 0, 7, [])), (3, (0, -2147483648, 2147483647, [])), (4, (0, 0, 48, []))], [], (0, 0), [(0, 0, 99964), (1, 4, 48), (0, 0, 100000)], [], [], [], 0, [], []), (155, [(0, (2, 0, 0, [150])), (1, (0, 0, 3, [])), (2, (0, 0, 7, [])), (3, (0, -2147483648, 2147483647, [])), (4, (0, 0, 48, []))], [(0, -3, 0, [])], (0, 0), [(0, 0, 99845), (0, 0, 0), (0, 0, 0)], [], [], [], 0, [], []), (168, [(0, (2, 0, 0, [150])), (1, (0, 0, 3, [])), (2, (0, 0, 7, [])), (3, (0, -2147483648, 2147483647, [])), (4, (0, -3, 0, []))], [], (0, 0), [(0, 0, 99832), (0, 0, 0), (0, 0, 0)], [], [], [], 0, [], [])]
def t_Mo_draw_ct : ct_L := [(0, 387, e_Mo_in), (0, 521, e_Mo_isPlace), (1, 401, e_Mo_edges), (1, 475, e_Mo_nodes), (1, 527, e_Mo_take), (1, 748, e_Mo_layers), (1, 751, e_Mo_grid), (1, 754, e_Mo_bars), (1, 757, e_Mo_tree), (1, 760, e_Mo_areas), (1, 763, e_Mo_ring), (1, 766, e_Mo_forces), (1, 769, e_Mo_matrix), (1, 772, e_Mo_keep)]
set_option maxRecDepth 100000 in
theorem c_Mo_draw {l : Launch} {D : va_G} {kA : Nat → ClassId} (h_Mo_areas : ct_ok l D kA GG y_Mo_areas z_Mo_areas e_Mo_areas) (h_Mo_bars : ct_ok l D kA GG y_Mo_bars z_Mo_bars e_Mo_bars) (h_Mo_edges : ct_ok l D kA GG y_Mo_edges z_Mo_edges e_Mo_edges) (h_Mo_forces : ct_ok l D kA GG y_Mo_forces z_Mo_forces e_Mo_forces) (h_Mo_grid : ct_ok l D kA GG y_Mo_grid z_Mo_grid e_Mo_grid) (h_Mo_in : ct_ok l D kA GG y_Mo_in z_Mo_in e_Mo_in) (h_Mo_isPlace : ct_ok l D kA GG y_Mo_isPlace z_Mo_isPlace e_Mo_isPlace) (h_Mo_keep : ct_ok l D kA GG y_Mo_keep z_Mo_keep e_Mo_keep) (h_Mo_layers : ct_ok l D kA GG y_Mo_layers z_Mo_layers e_Mo_layers) (h_Mo_matrix : ct_ok l D kA GG y_Mo_matrix z_Mo_matrix e_Mo_matrix) (h_Mo_nodes : ct_ok l D kA GG y_Mo_nodes z_Mo_nodes e_Mo_nodes) (h_Mo_ring : ct_ok l D kA GG y_Mo_ring z_Mo_ring e_Mo_ring) (h_Mo_take : ct_ok l D kA GG y_Mo_take z_Mo_take e_Mo_take) (h_Mo_tree : ct_ok l D kA GG y_Mo_tree z_Mo_tree e_Mo_tree) : ct_ok l D kA GG y_Mo_draw z_Mo_draw e_Mo_draw := chk_all_ok (FT := [(165, 13, 76)]) (PT := []) (CT := t_Mo_draw_ct) (KT := []) (NT := []) (AN := n_Mo_draw_an) (OT := []) 3 380 (List.forall_mem_nil _) (by decide +kernel) ⟨List.forall_mem_cons.mpr ⟨gf_Mo_165, List.forall_mem_nil _⟩, List.forall_mem_nil _, List.forall_mem_cons.mpr ⟨cl_static (y := y_Mo_in) h_Mo_in wm_2971 wm_9 wm_2969 wm_2970 ⟨by decide, by decide, by decide +kernel⟩ (by decide), List.forall_mem_cons.mpr ⟨cl_static (y := y_Mo_isPlace) h_Mo_isPlace wm_2978 wm_9 wm_2976 wm_2977 ⟨by decide, by decide, by decide +kernel⟩ (by decide), List.forall_mem_cons.mpr ⟨cl_virtual (y := y_Mo_edges) (ci := 13) rfl rfl ⟨_, _, rfl⟩ (by decide +kernel) h_Mo_edges wm_3037 wm_9 wm_3034 wm_3036 wv_13_6 ⟨by decide, by decide, by decide +kernel⟩ (by decide), List.forall_mem_cons.mpr ⟨cl_virtual (y := y_Mo_nodes) (ci := 13) rfl rfl ⟨_, _, rfl⟩ (by decide +kernel) h_Mo_nodes wm_3025 wm_9 wm_3022 wm_3024 wv_13_3 ⟨by decide, by decide, by decide +kernel⟩ (by decide), List.forall_mem_cons.mpr ⟨cl_virtual (y := y_Mo_take) (ci := 13) rfl rfl ⟨_, _, rfl⟩ (by decide +kernel) h_Mo_take wm_3091 wm_9 wm_3088 wm_3090 wv_14_2 ⟨by decide, by decide, by decide +kernel⟩ (by decide), List.forall_mem_cons.mpr ⟨cl_virtual (y := y_Mo_layers) (ci := 13) rfl rfl ⟨_, _, rfl⟩ (by decide +kernel) h_Mo_layers wm_3371 wm_9 wm_3368 wm_3370 wv_17_11 ⟨by decide, by decide, by decide +kernel⟩ (by decide), List.forall_mem_cons.mpr ⟨cl_virtual (y := y_Mo_grid) (ci := 13) rfl rfl ⟨_, _, rfl⟩ (by decide +kernel) h_Mo_grid wm_3478 wm_9 wm_3475 wm_3477 wv_19_5 ⟨by decide, by decide, by decide +kernel⟩ (by decide), List.forall_mem_cons.mpr ⟨cl_virtual (y := y_Mo_bars) (ci := 13) rfl rfl ⟨_, _, rfl⟩ (by decide +kernel) h_Mo_bars wm_3526 wm_9 wm_3523 wm_3525 wv_20_1 ⟨by decide, by decide, by decide +kernel⟩ (by decide), List.forall_mem_cons.mpr ⟨cl_virtual (y := y_Mo_tree) (ci := 13) rfl rfl ⟨_, _, rfl⟩ (by decide +kernel) h_Mo_tree wm_3560 wm_9 wm_3557 wm_3559 wv_20_9 ⟨by decide, by decide, by decide +kernel⟩ (by decide), List.forall_mem_cons.mpr ⟨cl_virtual (y := y_Mo_areas) (ci := 13) rfl rfl ⟨_, _, rfl⟩ (by decide +kernel) h_Mo_areas wm_3584 wm_9 wm_3581 wm_3583 wv_20_15 ⟨by decide, by decide, by decide +kernel⟩ (by decide), List.forall_mem_cons.mpr ⟨cl_virtual (y := y_Mo_ring) (ci := 13) rfl rfl ⟨_, _, rfl⟩ (by decide +kernel) h_Mo_ring wm_3608 wm_9 wm_3605 wm_3607 wv_21_5 ⟨by decide, by decide, by decide +kernel⟩ (by decide), List.forall_mem_cons.mpr ⟨cl_virtual (y := y_Mo_forces) (ci := 13) rfl rfl ⟨_, _, rfl⟩ (by decide +kernel) h_Mo_forces wm_3620 wm_9 wm_3617 wm_3619 wv_21_8 ⟨by decide, by decide, by decide +kernel⟩ (by decide), List.forall_mem_cons.mpr ⟨cl_virtual (y := y_Mo_matrix) (ci := 13) rfl rfl ⟨_, _, rfl⟩ (by decide +kernel) h_Mo_matrix wm_3640 wm_9 wm_3637 wm_3639 wv_21_10 ⟨by decide, by decide, by decide +kernel⟩ (by decide), List.forall_mem_cons.mpr ⟨cl_virtual (y := y_Mo_keep) (ci := 13) rfl rfl ⟨_, _, rfl⟩ (by decide +kernel) h_Mo_keep wm_3648 wm_9 wm_3645 wm_3647 wv_21_12 ⟨by decide, by decide, by decide +kernel⟩ (by decide), List.forall_mem_nil _⟩⟩⟩⟩⟩⟩⟩⟩⟩⟩⟩⟩⟩⟩, List.forall_mem_nil _, List.forall_mem_nil _, GG_pl⟩ (by decide +kernel)
