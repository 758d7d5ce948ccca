def n_Sy_emit_an : List an_T := []
def t_Sy_emit_ct : ct_L := []
set_option maxRecDepth 100000 in
theorem c_Sy_emit {l : Launch} {D : va_G} {kA : Nat → ClassId} : ct_ok l D kA GG y_Sy_emit z_Sy_emit e_Sy_emit := chk_all_ok (FT := [(46, 11, 10), (50, 11, 11)]) (PT := [(50, 11, 11, .int)]) (CT := t_Sy_emit_ct) (KT := []) (NT := []) (AN := n_Sy_emit_an) (OT := []) 0 200 (List.forall_mem_nil _) (by decide +kernel) ⟨List.forall_mem_cons.mpr ⟨gf_Sy_46, List.forall_mem_cons.mpr ⟨gf_Sy_50, List.forall_mem_nil _⟩⟩, List.forall_mem_cons.mpr ⟨pf_Sy_50, List.forall_mem_nil _⟩, List.forall_mem_nil _, List.forall_mem_nil _, List.forall_mem_nil _, GG_pl⟩ (by decide +kernel)
def o_Sy_join_0 : or_T := (70, 4, [(2, (1, -9223372036854775808, 9223372036854775807, [])), (3, (1, 0, 0, []))], [(7, [2, 3], [1])], [], [], [(8, [2], [1])], [], [])
theorem oo_Sy_join_0 {kA : Nat → ClassId} : or_ok kA GG o_Sy_join_0 := by
  intro A ta ws vs hD hth hl hk hds hf
  have hl : vs.length = 4 := hl
  have hk : ∀ q ∈ ([(2, (1, -9223372036854775808, 9223372036854775807, [])), (3, (1, 0, 0, []))] : List (Nat × tv_T)), tv_ok ta q.2 (n_v vs q.1) := hk
  obtain ⟨t2, hk⟩ := List.forall_mem_cons.mp hk
  have t2 : tv_ok ta (1, -9223372036854775808, 9223372036854775807, []) (n_v vs 2) := t2
  have k2 : (-9223372036854775808) ≤ v_iv (n_v vs 2) ∧ v_iv (n_v vs 2) ≤ 9223372036854775807 := tv_rngL t2
  obtain ⟨t3, hk⟩ := List.forall_mem_cons.mp hk
  have t3 : tv_ok ta (1, 0, 0, []) (n_v vs 3) := t3
  have k3 : 0 ≤ v_iv (n_v vs 3) ∧ v_iv (n_v vs 3) ≤ 0 := tv_rngL t3
  have hf : fc_ok [(7, [2, 3], [1])] ta ws vs := hf
  obtain ⟨f0, hf⟩ := fc_un (by decide) hf
  have f0 : v_iv (n_v vs 2) ≠ v_iv (n_v vs 3) := f0
  have nf0 : fc_1 (8, [2], [1]) ws (vs) := by
    refine ⟨fun n hn => ?_, ?_⟩
    · have hn : n ∈ [2] := hn
      rw [hl]
      simp only [List.mem_cons, List.not_mem_nil, or_false] at hn
      show n < 4; omega
    · show v_iv (n_v vs 2) ≠ 0
      omega
  refine ⟨(fun _ h => (by cases h)), [], trivial, ?_, (fun _ h => (by cases h))⟩
  rw [List.append_nil]
  exact List.forall_mem_cons.mpr ⟨⟨by decide, nf0⟩, (fun _ h => (by cases h))⟩
def n_Sy_join_an : List an_T := []
def t_Sy_join_ct : ct_L := [(219, 274, e_jMath_floorDiv2_v19)]
set_option maxRecDepth 100000 in
theorem c_Sy_join {l : Launch} {D : va_G} {kA : Nat → ClassId} : ct_ok l D kA GG y_Sy_join z_Sy_join e_Sy_join := chk_all_ok (FT := []) (PT := []) (CT := t_Sy_join_ct) (KT := []) (NT := []) (AN := n_Sy_join_an) (OT := [o_Sy_join_0]) 0 224 (List.forall_mem_cons.mpr ⟨oo_Sy_join_0, List.forall_mem_nil _⟩) (by decide +kernel) ⟨List.forall_mem_nil _, List.forall_mem_nil _, List.forall_mem_cons.mpr ⟨cl_static (y := y_jMath_floorDiv2) c_jMath_floorDiv2_v19 wm_1800 wm_10 wm_2316 wm_1799 ⟨by decide, by decide, by decide +kernel⟩ (by decide), List.forall_mem_nil _⟩, List.forall_mem_nil _, List.forall_mem_nil _, GG_pl⟩ (by decide +kernel)
def o_Re_advance_0 : or_T := (0, 2, [(0, (2, 0, 0, [8])), (1, (0, -2147483648, 1000000, []))], [(20, [0, 1], [30, 0, 1, 1, 9, -1, 0, 0]), (20, [0, 1], [30, 0, -1, 1, 9, 1, 0, 0])], [], [], [(24, [0, 0], [])], [], [])
theorem oo_Re_advance_0 {kA : Nat → ClassId} : or_ok kA GG o_Re_advance_0 := by
  intro A ta ws vs hD hth hl hk hds hf
  have hl : vs.length = 2 := hl
  have hk : ∀ q ∈ ([(0, (2, 0, 0, [8])), (1, (0, -2147483648, 1000000, []))] : List (Nat × tv_T)), tv_ok ta q.2 (n_v vs q.1) := hk
  obtain ⟨t0, hk⟩ := List.forall_mem_cons.mp hk
  have t0 : tv_ok ta (2, 0, 0, [8]) (n_v vs 0) := t0
  have r0 : ta (v_ad (n_v vs 0)) = some 8 := tv_rg t0
  obtain ⟨t1, hk⟩ := List.forall_mem_cons.mp hk
  have t1 : tv_ok ta (0, -2147483648, 1000000, []) (n_v vs 1) := t1
  have k1 : (-2147483648) ≤ v_iv (n_v vs 1) ∧ v_iv (n_v vs 1) ≤ 1000000 := tv_rng t1
  have hf : fc_ok [(20, [0, 1], [30, 0, 1, 1, 9, -1, 0, 0]), (20, [0, 1], [30, 0, -1, 1, 9, 1, 0, 0])] ta ws vs := hf
  obtain ⟨f0, hf⟩ := fc_un (by decide) hf
  have f0 : 1 * w_fi ws (n_v vs 0) 9 + ((-1) * v_iv (n_v vs 1) + 0) ≤ 0 := f0
  obtain ⟨f1, hf⟩ := fc_un (by decide) hf
  have f1 : (-1) * w_fi ws (n_v vs 0) 9 + (1 * v_iv (n_v vs 1) + 0) ≤ 0 := f1
  have kz_0_9 : (-2147483648) ≤ w_fi ws (n_v vs 0) 9 ∧ w_fi ws (n_v vs 0) 9 ≤ 1000000 := tv_rng (th_fd hD hth r0 (g := GG_8) rfl (k := 9) (t := (0, -2147483648, 1000000, [])) rfl rfl)
  have nf0 : fc_1 (24, [0, 0], []) ws (vs) := by
    refine ⟨fun n hn => ?_, ?_⟩
    · have hn : n ∈ [0, 0] := hn
      rw [hl]
      simp only [List.mem_cons, List.not_mem_nil, or_false] at hn
      show n < 2; omega
    · show n_v vs 0 = n_v vs 0
      first | rfl | exact q0.symm
  refine ⟨(fun _ h => (by cases h)), [], trivial, ?_, (fun _ h => (by cases h))⟩
  rw [List.append_nil]
  exact List.forall_mem_cons.mpr ⟨⟨by decide, nf0⟩, (fun _ h => (by cases h))⟩
def o_Re_advance_1 : or_T := (290, 13, [(0, (2, 0, 0, [8])), (1, (0, -2147483648, 1000000, [])), (2, (2, 0, 0, [8])), (12, (0, 1, 1, []))], [(20, [2, 1], [30, 0, 1, 1, 9, -1, 0, 0]), (20, [2, 1], [30, 0, -1, 1, 9, 1, 0, 0]), (24, [0, 2], []), (101, [2, 12], [7]), (20, [2, 1], [30, 0, 1, 1, 9, -1, 0, 0]), (20, [2, 1], [30, 0, -1, 1, 9, 1, 0, 0]), (101, [2, 10], [6]), (20, [2, 1], [30, 0, 1, 1, 9, -1, 0, 0]), (20, [2, 1], [30, 0, -1, 1, 9, 1, 0, 0]), (101, [2, 3], [8]), (20, [2, 1], [30, 0, 1, 1, 9, -1, 0, 0]), (20, [2, 1], [30, 0, -1, 1, 9, 1, 0, 0])], [], [], [(20, [0, 0, 1], [31, 1, 3, 1, 1, 7, 0, 1, 1, 9, -1, 0, 0]), (20, [0, 0, 1], [31, 1, 3, 1, 1, 7, 0, -1, 1, 9, 1, 0, 0])], [], [])
theorem oo_Re_advance_1 {kA : Nat → ClassId} : or_ok kA GG o_Re_advance_1 := by
  intro A ta ws vs hD hth hl hk hds hf
  have hl : vs.length = 13 := hl
  have hk : ∀ q ∈ ([(0, (2, 0, 0, [8])), (1, (0, -2147483648, 1000000, [])), (2, (2, 0, 0, [8])), (12, (0, 1, 1, []))] : List (Nat × tv_T)), tv_ok ta q.2 (n_v vs q.1) := hk
  obtain ⟨t0, hk⟩ := List.forall_mem_cons.mp hk
  have t0 : tv_ok ta (2, 0, 0, [8]) (n_v vs 0) := t0
  have r0 : ta (v_ad (n_v vs 0)) = some 8 := tv_rg t0
  obtain ⟨t1, hk⟩ := List.forall_mem_cons.mp hk
  have t1 : tv_ok ta (0, -2147483648, 1000000, []) (n_v vs 1) := t1
  have k1 : (-2147483648) ≤ v_iv (n_v vs 1) ∧ v_iv (n_v vs 1) ≤ 1000000 := tv_rng t1
  obtain ⟨t2, hk⟩ := List.forall_mem_cons.mp hk
  have t2 : tv_ok ta (2, 0, 0, [8]) (n_v vs 2) := t2
  have r2 : ta (v_ad (n_v vs 2)) = some 8 := tv_rg t2
  obtain ⟨t12, hk⟩ := List.forall_mem_cons.mp hk
  have t12 : tv_ok ta (0, 1, 1, []) (n_v vs 12) := t12
  have k12 : 1 ≤ v_iv (n_v vs 12) ∧ v_iv (n_v vs 12) ≤ 1 := tv_rng t12
  have hf : fc_ok [(20, [2, 1], [30, 0, 1, 1, 9, -1, 0, 0]), (20, [2, 1], [30, 0, -1, 1, 9, 1, 0, 0]), (24, [0, 2], []), (101, [2, 12], [7]), (20, [2, 1], [30, 0, 1, 1, 9, -1, 0, 0]), (20, [2, 1], [30, 0, -1, 1, 9, 1, 0, 0]), (101, [2, 10], [6]), (20, [2, 1], [30, 0, 1, 1, 9, -1, 0, 0]), (20, [2, 1], [30, 0, -1, 1, 9, 1, 0, 0]), (101, [2, 3], [8]), (20, [2, 1], [30, 0, 1, 1, 9, -1, 0, 0]), (20, [2, 1], [30, 0, -1, 1, 9, 1, 0, 0])] ta ws vs := hf
  obtain ⟨f0, hf⟩ := fc_un (by decide) hf
  have f0 : 1 * w_fi ws (n_v vs 2) 9 + ((-1) * v_iv (n_v vs 1) + 0) ≤ 0 := f0
  obtain ⟨f1, hf⟩ := fc_un (by decide) hf
  have f1 : (-1) * w_fi ws (n_v vs 2) 9 + (1 * v_iv (n_v vs 1) + 0) ≤ 0 := f1
  obtain ⟨f2, hf⟩ := fc_un (by decide) hf
  have f2 : n_v vs 0 = n_v vs 2 := f2
  obtain ⟨ta1, w1, le1, ⟨_, s1⟩, hf⟩ := fc_us (by decide) hf
  have s1 : (∀ b j, w_el ws b j = w_el w1 b j) ∧ ∀ b j, w_fd ws b j = if b = v_ad (n_v vs 2) ∧ j = 7 then n_v vs 12 else w_fd w1 b j := s1
  obtain ⟨f4, hf⟩ := fc_un (by decide) hf
  have f4 : 1 * w_fi w1 (n_v vs 2) 9 + ((-1) * v_iv (n_v vs 1) + 0) ≤ 0 := f4
  obtain ⟨f5, hf⟩ := fc_un (by decide) hf
  have f5 : (-1) * w_fi w1 (n_v vs 2) 9 + (1 * v_iv (n_v vs 1) + 0) ≤ 0 := f5
  obtain ⟨ta2, w2, le2, ⟨_, s2⟩, hf⟩ := fc_us (by decide) hf
  have s2 : (∀ b j, w_el w1 b j = w_el w2 b j) ∧ ∀ b j, w_fd w1 b j = if b = v_ad (n_v vs 2) ∧ j = 6 then n_v vs 10 else w_fd w2 b j := s2
  obtain ⟨f7, hf⟩ := fc_un (by decide) hf
  have f7 : 1 * w_fi w2 (n_v vs 2) 9 + ((-1) * v_iv (n_v vs 1) + 0) ≤ 0 := f7
  obtain ⟨f8, hf⟩ := fc_un (by decide) hf
  have f8 : (-1) * w_fi w2 (n_v vs 2) 9 + (1 * v_iv (n_v vs 1) + 0) ≤ 0 := f8
  obtain ⟨ta3, w3, le3, ⟨_, s3⟩, hf⟩ := fc_us (by decide) hf
  have s3 : (∀ b j, w_el w2 b j = w_el w3 b j) ∧ ∀ b j, w_fd w2 b j = if b = v_ad (n_v vs 2) ∧ j = 8 then n_v vs 3 else w_fd w3 b j := s3
  obtain ⟨f10, hf⟩ := fc_un (by decide) hf
  have f10 : 1 * w_fi w3 (n_v vs 2) 9 + ((-1) * v_iv (n_v vs 1) + 0) ≤ 0 := f10
  obtain ⟨f11, hf⟩ := fc_un (by decide) hf
  have f11 : (-1) * w_fi w3 (n_v vs 2) 9 + (1 * v_iv (n_v vs 1) + 0) ≤ 0 := f11
  have q2 : n_v vs 2 = n_v vs 0 := f2.symm
  rw [q2] at f0
  rw [q2] at f1
  rw [q2] at s1
  rw [q2] at f4
  rw [q2] at f5
  rw [q2] at s2
  rw [q2] at f7
  rw [q2] at f8
  rw [q2] at s3
  rw [q2] at f10
  rw [q2] at f11
  have fe_0_7_1 : w_fi ws (n_v vs 0) 7 = v_iv (n_v vs 12) := by show v_iv (w_fd _ _ _) = _; rw [s1.2, if_pos ⟨rfl, rfl⟩]
  have fe_0_9_1 : w_fi ws (n_v vs 0) 9 = w_fi w1 (n_v vs 0) 9 := by show v_iv (w_fd _ _ _) = v_iv (w_fd _ _ _); rw [s1.2, if_neg (fun e => absurd e.2 (by decide))]
  have fe_0_7_2 : w_fi w1 (n_v vs 0) 7 = w_fi w2 (n_v vs 0) 7 := by show v_iv (w_fd _ _ _) = v_iv (w_fd _ _ _); rw [s2.2, if_neg (fun e => absurd e.2 (by decide))]
  have fe_0_9_2 : w_fi w1 (n_v vs 0) 9 = w_fi w2 (n_v vs 0) 9 := by show v_iv (w_fd _ _ _) = v_iv (w_fd _ _ _); rw [s2.2, if_neg (fun e => absurd e.2 (by decide))]
  have fe_0_7_3 : w_fi w2 (n_v vs 0) 7 = w_fi w3 (n_v vs 0) 7 := by show v_iv (w_fd _ _ _) = v_iv (w_fd _ _ _); rw [s3.2, if_neg (fun e => absurd e.2 (by decide))]
  have fe_0_9_3 : w_fi w2 (n_v vs 0) 9 = w_fi w3 (n_v vs 0) 9 := by show v_iv (w_fd _ _ _) = v_iv (w_fd _ _ _); rw [s3.2, if_neg (fun e => absurd e.2 (by decide))]
  have kz_0_7 : (-128) ≤ w_fi ws (n_v vs 0) 7 ∧ w_fi ws (n_v vs 0) 7 ≤ 127 := tv_rng (th_fd hD hth r0 (g := GG_8) rfl (k := 7) (t := (0, -128, 127, [])) rfl rfl)
  have kz_0_9 : (-2147483648) ≤ w_fi ws (n_v vs 0) 9 ∧ w_fi ws (n_v vs 0) 9 ≤ 1000000 := tv_rng (th_fd hD hth r0 (g := GG_8) rfl (k := 9) (t := (0, -2147483648, 1000000, [])) rfl rfl)
  have nf0 : fc_1 (20, [0, 0, 1], [31, 1, 3, 1, 1, 7, 0, 1, 1, 9, -1, 0, 0]) ws (vs) := by
    refine ⟨fun n hn => ?_, ?_⟩
    · have hn : n ∈ [0, 0, 1] := hn
      rw [hl]
      simp only [List.mem_cons, List.not_mem_nil, or_false] at hn
      show n < 13; omega
    · show (1 * w_fi ws (n_v vs 0) 7 + 0 ≤ 3) ∨ (1 * w_fi ws (n_v vs 0) 9 + ((-1) * v_iv (n_v vs 1) + 0) ≤ 0)
      omega
  have nf1 : fc_1 (20, [0, 0, 1], [31, 1, 3, 1, 1, 7, 0, -1, 1, 9, 1, 0, 0]) ws (vs) := by
    refine ⟨fun n hn => ?_, ?_⟩
    · have hn : n ∈ [0, 0, 1] := hn
      rw [hl]
      simp only [List.mem_cons, List.not_mem_nil, or_false] at hn
      show n < 13; omega
    · show (1 * w_fi ws (n_v vs 0) 7 + 0 ≤ 3) ∨ ((-1) * w_fi ws (n_v vs 0) 9 + (1 * v_iv (n_v vs 1) + 0) ≤ 0)
      omega
  refine ⟨(fun _ h => (by cases h)), [], trivial, ?_, (fun _ h => (by cases h))⟩
  rw [List.append_nil]
  exact List.forall_mem_cons.mpr ⟨⟨by decide, nf0⟩, List.forall_mem_cons.mpr ⟨⟨by decide, nf1⟩, (fun _ h => (by cases h))⟩⟩
def o_Re_advance_2 : or_T := (290, 12, [(0, (2, 0, 0, [8])), (1, (0, -2147483648, 1000000, [])), (2, (2, 0, 0, [8])), (3, (0, 1, 1999, [])), (4, (0, 1, 1999, [])), (5, (2, 0, 0, [109])), (6, (0, -128, 47, [])), (9, (0, 1, 1, [])), (10, (0, 2, 2000, []))], [(20, [2, 1], [30, 0, 1, 1, 9, -1, 0, 0]), (20, [2, 1], [30, 0, -1, 1, 9, 1, 0, 0]), (24, [0, 2], []), (101, [2, 6], [7]), (20, [2, 1], [30, 0, 1, 1, 9, -1, 0, 0]), (20, [2, 1], [30, 0, -1, 1, 9, 1, 0, 0]), (101, [2, 10], [6]), (1, [10, 3, 9], []), (9, [3, 2], [6]), (10, [6, 5, 3], []), (9, [5, 2], [0]), (7, [3, 4], [2]), (9, [4, 2], [5]), (20, [2, 1], [30, 0, 1, 1, 9, -1, 0, 0]), (20, [2, 1], [30, 0, -1, 1, 9, 1, 0, 0]), (101, [2, 3], [8]), (7, [3, 4], [3]), (20, [2, 1], [30, 0, 1, 1, 9, -1, 0, 0]), (20, [2, 1], [30, 0, -1, 1, 9, 1, 0, 0])], [], [], [(20, [0, 0, 1], [31, 1, 3, 1, 1, 7, 0, 1, 1, 9, -1, 0, 0]), (20, [0, 0, 1], [31, 1, 3, 1, 1, 7, 0, -1, 1, 9, 1, 0, 0])], [], [(10, 3, 1, 1), (10, 4, -4294967296, 0), (10, 4, 1, 4294967296), (3, 4, -4294967296, -1), (3, 4, 0, 4294967296), (1, 3, -4294967296, 1000000)])
theorem oo_Re_advance_2 {kA : Nat → ClassId} : or_ok kA GG o_Re_advance_2 := by
  intro A ta ws vs hD hth hl hk hds hf
  have hl : vs.length = 12 := hl
  have hk : ∀ q ∈ ([(0, (2, 0, 0, [8])), (1, (0, -2147483648, 1000000, [])), (2, (2, 0, 0, [8])), (3, (0, 1, 1999, [])), (4, (0, 1, 1999, [])), (5, (2, 0, 0, [109])), (6, (0, -128, 47, [])), (9, (0, 1, 1, [])), (10, (0, 2, 2000, []))] : List (Nat × tv_T)), tv_ok ta q.2 (n_v vs q.1) := hk
  obtain ⟨t0, hk⟩ := List.forall_mem_cons.mp hk
  have t0 : tv_ok ta (2, 0, 0, [8]) (n_v vs 0) := t0
  have r0 : ta (v_ad (n_v vs 0)) = some 8 := tv_rg t0
  obtain ⟨t1, hk⟩ := List.forall_mem_cons.mp hk
  have t1 : tv_ok ta (0, -2147483648, 1000000, []) (n_v vs 1) := t1
  have k1 : (-2147483648) ≤ v_iv (n_v vs 1) ∧ v_iv (n_v vs 1) ≤ 1000000 := tv_rng t1
  obtain ⟨t2, hk⟩ := List.forall_mem_cons.mp hk
  have t2 : tv_ok ta (2, 0, 0, [8]) (n_v vs 2) := t2
  have r2 : ta (v_ad (n_v vs 2)) = some 8 := tv_rg t2
  obtain ⟨t3, hk⟩ := List.forall_mem_cons.mp hk
  have t3 : tv_ok ta (0, 1, 1999, []) (n_v vs 3) := t3
  have k3 : 1 ≤ v_iv (n_v vs 3) ∧ v_iv (n_v vs 3) ≤ 1999 := tv_rng t3
  obtain ⟨t4, hk⟩ := List.forall_mem_cons.mp hk
  have t4 : tv_ok ta (0, 1, 1999, []) (n_v vs 4) := t4
  have k4 : 1 ≤ v_iv (n_v vs 4) ∧ v_iv (n_v vs 4) ≤ 1999 := tv_rng t4
  obtain ⟨t5, hk⟩ := List.forall_mem_cons.mp hk
  have t5 : tv_ok ta (2, 0, 0, [109]) (n_v vs 5) := t5
  have r5 : ta (v_ad (n_v vs 5)) = some 109 := tv_rg t5
  obtain ⟨t6, hk⟩ := List.forall_mem_cons.mp hk
  have t6 : tv_ok ta (0, -128, 47, []) (n_v vs 6) := t6
  have k6 : (-128) ≤ v_iv (n_v vs 6) ∧ v_iv (n_v vs 6) ≤ 47 := tv_rng t6
  obtain ⟨t9, hk⟩ := List.forall_mem_cons.mp hk
  have t9 : tv_ok ta (0, 1, 1, []) (n_v vs 9) := t9
  have k9 : 1 ≤ v_iv (n_v vs 9) ∧ v_iv (n_v vs 9) ≤ 1 := tv_rng t9
  obtain ⟨t10, hk⟩ := List.forall_mem_cons.mp hk
  have t10 : tv_ok ta (0, 2, 2000, []) (n_v vs 10) := t10
  have k10 : 2 ≤ v_iv (n_v vs 10) ∧ v_iv (n_v vs 10) ≤ 2000 := tv_rng t10
  have hds : ∀ q ∈ ([(10, 3, 1, 1), (10, 4, -4294967296, 0), (10, 4, 1, 4294967296), (3, 4, -4294967296, -1), (3, 4, 0, 4294967296), (1, 3, -4294967296, 1000000)] : List of_T), n_iv vs q.2.1 + q.2.2.1 ≤ n_iv vs q.1 ∧ n_iv vs q.1 ≤ n_iv vs q.2.1 + q.2.2.2 := hds
  obtain ⟨d0, hds⟩ := List.forall_mem_cons.mp hds
  have d0 : v_iv (n_v vs 3) + 1 ≤ v_iv (n_v vs 10) ∧ v_iv (n_v vs 10) ≤ v_iv (n_v vs 3) + 1 := d0
  obtain ⟨d1, hds⟩ := List.forall_mem_cons.mp hds
  have d1 : v_iv (n_v vs 4) + (-4294967296) ≤ v_iv (n_v vs 10) ∧ v_iv (n_v vs 10) ≤ v_iv (n_v vs 4) + 0 := d1
  obtain ⟨d2, hds⟩ := List.forall_mem_cons.mp hds
  have d2 : v_iv (n_v vs 4) + 1 ≤ v_iv (n_v vs 10) ∧ v_iv (n_v vs 10) ≤ v_iv (n_v vs 4) + 4294967296 := d2
  obtain ⟨d3, hds⟩ := List.forall_mem_cons.mp hds
  have d3 : v_iv (n_v vs 4) + (-4294967296) ≤ v_iv (n_v vs 3) ∧ v_iv (n_v vs 3) ≤ v_iv (n_v vs 4) + (-1) := d3
  obtain ⟨d4, hds⟩ := List.forall_mem_cons.mp hds
  have d4 : v_iv (n_v vs 4) + 0 ≤ v_iv (n_v vs 3) ∧ v_iv (n_v vs 3) ≤ v_iv (n_v vs 4) + 4294967296 := d4
  obtain ⟨d5, hds⟩ := List.forall_mem_cons.mp hds
  have d5 : v_iv (n_v vs 3) + (-4294967296) ≤ v_iv (n_v vs 1) ∧ v_iv (n_v vs 1) ≤ v_iv (n_v vs 3) + 1000000 := d5
  have hf : fc_ok [(20, [2, 1], [30, 0, 1, 1, 9, -1, 0, 0]), (20, [2, 1], [30, 0, -1, 1, 9, 1, 0, 0]), (24, [0, 2], []), (101, [2, 6], [7]), (20, [2, 1], [30, 0, 1, 1, 9, -1, 0, 0]), (20, [2, 1], [30, 0, -1, 1, 9, 1, 0, 0]), (101, [2, 10], [6]), (1, [10, 3, 9], []), (9, [3, 2], [6]), (10, [6, 5, 3], []), (9, [5, 2], [0]), (7, [3, 4], [2]), (9, [4, 2], [5]), (20, [2, 1], [30, 0, 1, 1, 9, -1, 0, 0]), (20, [2, 1], [30, 0, -1, 1, 9, 1, 0, 0]), (101, [2, 3], [8]), (7, [3, 4], [3]), (20, [2, 1], [30, 0, 1, 1, 9, -1, 0, 0]), (20, [2, 1], [30, 0, -1, 1, 9, 1, 0, 0])] ta ws vs := hf
  obtain ⟨f0, hf⟩ := fc_un (by decide) hf
  have f0 : 1 * w_fi ws (n_v vs 2) 9 + ((-1) * v_iv (n_v vs 1) + 0) ≤ 0 := f0
  obtain ⟨f1, hf⟩ := fc_un (by decide) hf
  have f1 : (-1) * w_fi ws (n_v vs 2) 9 + (1 * v_iv (n_v vs 1) + 0) ≤ 0 := f1
  obtain ⟨f2, hf⟩ := fc_un (by decide) hf
  have f2 : n_v vs 0 = n_v vs 2 := f2
  obtain ⟨ta1, w1, le1, ⟨_, s1⟩, hf⟩ := fc_us (by decide) hf
  have s1 : (∀ b j, w_el ws b j = w_el w1 b j) ∧ ∀ b j, w_fd ws b j = if b = v_ad (n_v vs 2) ∧ j = 7 then n_v vs 6 else w_fd w1 b j := s1
  obtain ⟨f4, hf⟩ := fc_un (by decide) hf
  have f4 : 1 * w_fi w1 (n_v vs 2) 9 + ((-1) * v_iv (n_v vs 1) + 0) ≤ 0 := f4
  obtain ⟨f5, hf⟩ := fc_un (by decide) hf
  have f5 : (-1) * w_fi w1 (n_v vs 2) 9 + (1 * v_iv (n_v vs 1) + 0) ≤ 0 := f5
  obtain ⟨ta2, w2, le2, ⟨_, s2⟩, hf⟩ := fc_us (by decide) hf
  have s2 : (∀ b j, w_el w1 b j = w_el w2 b j) ∧ ∀ b j, w_fd w1 b j = if b = v_ad (n_v vs 2) ∧ j = 6 then n_v vs 10 else w_fd w2 b j := s2
  obtain ⟨f7, hf⟩ := fc_un (by decide) hf
  have f7 : v_iv (n_v vs 10) = v_iv (n_v vs 3) + v_iv (n_v vs 9) := f7
  obtain ⟨f8, hf⟩ := fc_un (by decide) hf
  have f8 : n_v vs 3 = w_fd w2 (v_ad (n_v vs 2)) 6 := f8
  obtain ⟨f9, hf⟩ := fc_un (by decide) hf
  have f9 : v_iv (n_v vs 6) = w_el w2 (v_ad (n_v vs 5)) (v_iv (n_v vs 3)).toNat := f9
  obtain ⟨f10, hf⟩ := fc_un (by decide) hf
  have f10 : n_v vs 5 = w_fd w2 (v_ad (n_v vs 2)) 0 := f10
  obtain ⟨f11, hf⟩ := fc_un (by decide) hf
  have f11 : v_iv (n_v vs 3) < v_iv (n_v vs 4) := f11
  obtain ⟨f12, hf⟩ := fc_un (by decide) hf
  have f12 : n_v vs 4 = w_fd w2 (v_ad (n_v vs 2)) 5 := f12
  obtain ⟨f13, hf⟩ := fc_un (by decide) hf
  have f13 : 1 * w_fi w2 (n_v vs 2) 9 + ((-1) * v_iv (n_v vs 1) + 0) ≤ 0 := f13
  obtain ⟨f14, hf⟩ := fc_un (by decide) hf
  have f14 : (-1) * w_fi w2 (n_v vs 2) 9 + (1 * v_iv (n_v vs 1) + 0) ≤ 0 := f14
  obtain ⟨ta3, w3, le3, ⟨_, s3⟩, hf⟩ := fc_us (by decide) hf
  have s3 : (∀ b j, w_el w2 b j = w_el w3 b j) ∧ ∀ b j, w_fd w2 b j = if b = v_ad (n_v vs 2) ∧ j = 8 then n_v vs 3 else w_fd w3 b j := s3
  obtain ⟨f16, hf⟩ := fc_un (by decide) hf
  have f16 : v_iv (n_v vs 4) ≤ v_iv (n_v vs 3) := f16
  obtain ⟨f17, hf⟩ := fc_un (by decide) hf
  have f17 : 1 * w_fi w3 (n_v vs 2) 9 + ((-1) * v_iv (n_v vs 1) + 0) ≤ 0 := f17
  obtain ⟨f18, hf⟩ := fc_un (by decide) hf
  have f18 : (-1) * w_fi w3 (n_v vs 2) 9 + (1 * v_iv (n_v vs 1) + 0) ≤ 0 := f18
  have q2 : n_v vs 2 = n_v vs 0 := f2.symm
  rw [q2] at f0
  rw [q2] at f1
  rw [q2] at s1
  rw [q2] at f4
  rw [q2] at f5
  rw [q2] at s2
  rw [q2] at f8
  rw [q2] at f10
  rw [q2] at f12
  rw [q2] at f13
  rw [q2] at f14
  rw [q2] at s3
  rw [q2] at f17
  rw [q2] at f18
  have ar_0_0_1 : w_ar w1 (n_v vs 0) 0 = w_ar ws (n_v vs 0) 0 := by show v_ad (w_fd w1 _ _) = v_ad (w_fd ws _ _); rw [s1.2, if_neg (fun e => absurd e.2 (by decide))]
  have ar_0_0_2 : w_ar w2 (n_v vs 0) 0 = w_ar ws (n_v vs 0) 0 := by rw [← ar_0_0_1]; show v_ad (w_fd w2 _ _) = v_ad (w_fd w1 _ _); rw [s2.2, if_neg (fun e => absurd e.2 (by decide))]
  have ar_0_0_3 : w_ar w3 (n_v vs 0) 0 = w_ar ws (n_v vs 0) 0 := by rw [← ar_0_0_2]; show v_ad (w_fd w3 _ _) = v_ad (w_fd w2 _ _); rw [s3.2, if_neg (fun e => absurd e.2 (by decide))]
  have cr_0_0 : ta (w_ar ws (n_v vs 0) 0) = some 109 := tv_rg (th_fd hD hth r0 (g := GG_8) rfl (k := 0) (t := (2, 0, 0, [109])) rfl rfl)
  have ad_5 : v_ad (n_v vs 5) = w_ar ws (n_v vs 0) 0 := (congrArg v_ad f10).trans ar_0_0_2
  have g8 : v_iv (n_v vs 3) = w_fi w2 (n_v vs 0) 6 := congrArg v_iv f8
  rw [ad_5] at f9
  have g12 : v_iv (n_v vs 4) = w_fi w2 (n_v vs 0) 5 := congrArg v_iv f12
  have fe_0_5_1 : w_fi ws (n_v vs 0) 5 = w_fi w1 (n_v vs 0) 5 := by show v_iv (w_fd _ _ _) = v_iv (w_fd _ _ _); rw [s1.2, if_neg (fun e => absurd e.2 (by decide))]
  have fe_0_6_1 : w_fi ws (n_v vs 0) 6 = w_fi w1 (n_v vs 0) 6 := by show v_iv (w_fd _ _ _) = v_iv (w_fd _ _ _); rw [s1.2, if_neg (fun e => absurd e.2 (by decide))]
  have fe_0_7_1 : w_fi ws (n_v vs 0) 7 = v_iv (n_v vs 6) := by show v_iv (w_fd _ _ _) = _; rw [s1.2, if_pos ⟨rfl, rfl⟩]
  have fe_0_9_1 : w_fi ws (n_v vs 0) 9 = w_fi w1 (n_v vs 0) 9 := by show v_iv (w_fd _ _ _) = v_iv (w_fd _ _ _); rw [s1.2, if_neg (fun e => absurd e.2 (by decide))]
  have ee_0_0_3_1 : w_el ws (w_ar ws (n_v vs 0) 0) (v_iv (n_v vs 3)).toNat = w_el w1 (w_ar ws (n_v vs 0) 0) (v_iv (n_v vs 3)).toNat := s1.1 _ _
  have fe_0_5_2 : w_fi w1 (n_v vs 0) 5 = w_fi w2 (n_v vs 0) 5 := by show v_iv (w_fd _ _ _) = v_iv (w_fd _ _ _); rw [s2.2, if_neg (fun e => absurd e.2 (by decide))]
  have fe_0_6_2 : w_fi w1 (n_v vs 0) 6 = v_iv (n_v vs 10) := by show v_iv (w_fd _ _ _) = _; rw [s2.2, if_pos ⟨rfl, rfl⟩]
  have fe_0_7_2 : w_fi w1 (n_v vs 0) 7 = w_fi w2 (n_v vs 0) 7 := by show v_iv (w_fd _ _ _) = v_iv (w_fd _ _ _); rw [s2.2, if_neg (fun e => absurd e.2 (by decide))]
  have fe_0_9_2 : w_fi w1 (n_v vs 0) 9 = w_fi w2 (n_v vs 0) 9 := by show v_iv (w_fd _ _ _) = v_iv (w_fd _ _ _); rw [s2.2, if_neg (fun e => absurd e.2 (by decide))]
  have ee_0_0_3_2 : w_el w1 (w_ar ws (n_v vs 0) 0) (v_iv (n_v vs 3)).toNat = w_el w2 (w_ar ws (n_v vs 0) 0) (v_iv (n_v vs 3)).toNat := s2.1 _ _
  have fe_0_5_3 : w_fi w2 (n_v vs 0) 5 = w_fi w3 (n_v vs 0) 5 := by show v_iv (w_fd _ _ _) = v_iv (w_fd _ _ _); rw [s3.2, if_neg (fun e => absurd e.2 (by decide))]
  have fe_0_6_3 : w_fi w2 (n_v vs 0) 6 = w_fi w3 (n_v vs 0) 6 := by show v_iv (w_fd _ _ _) = v_iv (w_fd _ _ _); rw [s3.2, if_neg (fun e => absurd e.2 (by decide))]
  have fe_0_7_3 : w_fi w2 (n_v vs 0) 7 = w_fi w3 (n_v vs 0) 7 := by show v_iv (w_fd _ _ _) = v_iv (w_fd _ _ _); rw [s3.2, if_neg (fun e => absurd e.2 (by decide))]
  have fe_0_9_3 : w_fi w2 (n_v vs 0) 9 = w_fi w3 (n_v vs 0) 9 := by show v_iv (w_fd _ _ _) = v_iv (w_fd _ _ _); rw [s3.2, if_neg (fun e => absurd e.2 (by decide))]
  have ee_0_0_3_3 : w_el w2 (w_ar ws (n_v vs 0) 0) (v_iv (n_v vs 3)).toNat = w_el w3 (w_ar ws (n_v vs 0) 0) (v_iv (n_v vs 3)).toNat := s3.1 _ _
  have kz_0_5 : 0 ≤ w_fi ws (n_v vs 0) 5 ∧ w_fi ws (n_v vs 0) 5 ≤ 2000 := tv_rng (th_fd hD hth r0 (g := GG_8) rfl (k := 5) (t := (0, 0, 2000, [])) rfl rfl)
  have kz_0_6 : 0 ≤ w_fi ws (n_v vs 0) 6 ∧ w_fi ws (n_v vs 0) 6 ≤ 2000 := tv_rng (th_fd hD hth r0 (g := GG_8) rfl (k := 6) (t := (0, 0, 2000, [])) rfl rfl)
  have kz_0_7 : (-128) ≤ w_fi ws (n_v vs 0) 7 ∧ w_fi ws (n_v vs 0) 7 ≤ 127 := tv_rng (th_fd hD hth r0 (g := GG_8) rfl (k := 7) (t := (0, -128, 127, [])) rfl rfl)
  have kz_0_9 : (-2147483648) ≤ w_fi ws (n_v vs 0) 9 ∧ w_fi ws (n_v vs 0) 9 ≤ 1000000 := tv_rng (th_fd hD hth r0 (g := GG_8) rfl (k := 9) (t := (0, -2147483648, 1000000, [])) rfl rfl)
  have nf0 : fc_1 (20, [0, 0, 1], [31, 1, 3, 1, 1, 7, 0, 1, 1, 9, -1, 0, 0]) ws (vs) := by
    refine ⟨fun n hn => ?_, ?_⟩
    · have hn : n ∈ [0, 0, 1] := hn
      rw [hl]
      simp only [List.mem_cons, List.not_mem_nil, or_false] at hn
      show n < 12; omega
    · show (1 * w_fi ws (n_v vs 0) 7 + 0 ≤ 3) ∨ (1 * w_fi ws (n_v vs 0) 9 + ((-1) * v_iv (n_v vs 1) + 0) ≤ 0)
      omega
  have nf1 : fc_1 (20, [0, 0, 1], [31, 1, 3, 1, 1, 7, 0, -1, 1, 9, 1, 0, 0]) ws (vs) := by
    refine ⟨fun n hn => ?_, ?_⟩
    · have hn : n ∈ [0, 0, 1] := hn
      rw [hl]
      simp only [List.mem_cons, List.not_mem_nil, or_false] at hn
      show n < 12; omega
    · show (1 * w_fi ws (n_v vs 0) 7 + 0 ≤ 3) ∨ ((-1) * w_fi ws (n_v vs 0) 9 + (1 * v_iv (n_v vs 1) + 0) ≤ 0)
      omega
  refine ⟨(fun _ h => (by cases h)), [], trivial, ?_, (fun _ h => (by cases h))⟩
  rw [List.append_nil]
  exact List.forall_mem_cons.mpr ⟨⟨by decide, nf0⟩, List.forall_mem_cons.mpr ⟨⟨by decide, nf1⟩, (fun _ h => (by cases h))⟩⟩
def o_Re_advance_3 : or_T := (290, 12, [(0, (2, 0, 0, [8])), (1, (0, -2147483648, 1000000, [])), (2, (2, 0, 0, [8])), (3, (0, 1, 1999, [])), (4, (0, 1, 1999, [])), (5, (2, 0, 0, [109])), (6, (0, 58, 64, [])), (9, (0, 1, 1, [])), (10, (0, 2, 2000, []))], [(20, [2, 1], [30, 0, 1, 1, 9, -1, 0, 0]), (20, [2, 1], [30, 0, -1, 1, 9, 1, 0, 0]), (24, [0, 2], []), (101, [2, 6], [7]), (20, [2, 1], [30, 0, 1, 1, 9, -1, 0, 0]), (20, [2, 1], [30, 0, -1, 1, 9, 1, 0, 0]), (101, [2, 10], [6]), (1, [10, 3, 9], []), (9, [3, 2], [6]), (10, [6, 5, 3], []), (9, [5, 2], [0]), (7, [3, 4], [2]), (9, [4, 2], [5]), (20, [2, 1], [30, 0, 1, 1, 9, -1, 0, 0]), (20, [2, 1], [30, 0, -1, 1, 9, 1, 0, 0]), (101, [2, 3], [8]), (7, [3, 4], [3]), (20, [2, 1], [30, 0, 1, 1, 9, -1, 0, 0]), (20, [2, 1], [30, 0, -1, 1, 9, 1, 0, 0])], [], [], [(20, [0, 0, 1], [31, 1, 3, 1, 1, 7, 0, 1, 1, 9, -1, 0, 0]), (20, [0, 0, 1], [31, 1, 3, 1, 1, 7, 0, -1, 1, 9, 1, 0, 0])], [], [(10, 3, 1, 1), (10, 4, -4294967296, 0), (10, 4, 1, 4294967296), (3, 4, -4294967296, -1), (3, 4, 0, 4294967296), (1, 3, -4294967296, 1000000)])
theorem oo_Re_advance_3 {kA : Nat → ClassId} : or_ok kA GG o_Re_advance_3 := by
  intro A ta ws vs hD hth hl hk hds hf
  have hl : vs.length = 12 := hl
  have hk : ∀ q ∈ ([(0, (2, 0, 0, [8])), (1, (0, -2147483648, 1000000, [])), (2, (2, 0, 0, [8])), (3, (0, 1, 1999, [])), (4, (0, 1, 1999, [])), (5, (2, 0, 0, [109])), (6, (0, 58, 64, [])), (9, (0, 1, 1, [])), (10, (0, 2, 2000, []))] : List (Nat × tv_T)), tv_ok ta q.2 (n_v vs q.1) := hk
  obtain ⟨t0, hk⟩ := List.forall_mem_cons.mp hk
  have t0 : tv_ok ta (2, 0, 0, [8]) (n_v vs 0) := t0
  have r0 : ta (v_ad (n_v vs 0)) = some 8 := tv_rg t0
  obtain ⟨t1, hk⟩ := List.forall_mem_cons.mp hk
  have t1 : tv_ok ta (0, -2147483648, 1000000, []) (n_v vs 1) := t1
  have k1 : (-2147483648) ≤ v_iv (n_v vs 1) ∧ v_iv (n_v vs 1) ≤ 1000000 := tv_rng t1
  obtain ⟨t2, hk⟩ := List.forall_mem_cons.mp hk
  have t2 : tv_ok ta (2, 0, 0, [8]) (n_v vs 2) := t2
  have r2 : ta (v_ad (n_v vs 2)) = some 8 := tv_rg t2
  obtain ⟨t3, hk⟩ := List.forall_mem_cons.mp hk
  have t3 : tv_ok ta (0, 1, 1999, []) (n_v vs 3) := t3
  have k3 : 1 ≤ v_iv (n_v vs 3) ∧ v_iv (n_v vs 3) ≤ 1999 := tv_rng t3
  obtain ⟨t4, hk⟩ := List.forall_mem_cons.mp hk
  have t4 : tv_ok ta (0, 1, 1999, []) (n_v vs 4) := t4
  have k4 : 1 ≤ v_iv (n_v vs 4) ∧ v_iv (n_v vs 4) ≤ 1999 := tv_rng t4
  obtain ⟨t5, hk⟩ := List.forall_mem_cons.mp hk
  have t5 : tv_ok ta (2, 0, 0, [109]) (n_v vs 5) := t5
  have r5 : ta (v_ad (n_v vs 5)) = some 109 := tv_rg t5
  obtain ⟨t6, hk⟩ := List.forall_mem_cons.mp hk
  have t6 : tv_ok ta (0, 58, 64, []) (n_v vs 6) := t6
  have k6 : 58 ≤ v_iv (n_v vs 6) ∧ v_iv (n_v vs 6) ≤ 64 := tv_rng t6
  obtain ⟨t9, hk⟩ := List.forall_mem_cons.mp hk
  have t9 : tv_ok ta (0, 1, 1, []) (n_v vs 9) := t9
  have k9 : 1 ≤ v_iv (n_v vs 9) ∧ v_iv (n_v vs 9) ≤ 1 := tv_rng t9
  obtain ⟨t10, hk⟩ := List.forall_mem_cons.mp hk
  have t10 : tv_ok ta (0, 2, 2000, []) (n_v vs 10) := t10
  have k10 : 2 ≤ v_iv (n_v vs 10) ∧ v_iv (n_v vs 10) ≤ 2000 := tv_rng t10
  have hds : ∀ q ∈ ([(10, 3, 1, 1), (10, 4, -4294967296, 0), (10, 4, 1, 4294967296), (3, 4, -4294967296, -1), (3, 4, 0, 4294967296), (1, 3, -4294967296, 1000000)] : List of_T), n_iv vs q.2.1 + q.2.2.1 ≤ n_iv vs q.1 ∧ n_iv vs q.1 ≤ n_iv vs q.2.1 + q.2.2.2 := hds
  obtain ⟨d0, hds⟩ := List.forall_mem_cons.mp hds
  have d0 : v_iv (n_v vs 3) + 1 ≤ v_iv (n_v vs 10) ∧ v_iv (n_v vs 10) ≤ v_iv (n_v vs 3) + 1 := d0
  obtain ⟨d1, hds⟩ := List.forall_mem_cons.mp hds
  have d1 : v_iv (n_v vs 4) + (-4294967296) ≤ v_iv (n_v vs 10) ∧ v_iv (n_v vs 10) ≤ v_iv (n_v vs 4) + 0 := d1
  obtain ⟨d2, hds⟩ := List.forall_mem_cons.mp hds
  have d2 : v_iv (n_v vs 4) + 1 ≤ v_iv (n_v vs 10) ∧ v_iv (n_v vs 10) ≤ v_iv (n_v vs 4) + 4294967296 := d2
  obtain ⟨d3, hds⟩ := List.forall_mem_cons.mp hds
  have d3 : v_iv (n_v vs 4) + (-4294967296) ≤ v_iv (n_v vs 3) ∧ v_iv (n_v vs 3) ≤ v_iv (n_v vs 4) + (-1) := d3
  obtain ⟨d4, hds⟩ := List.forall_mem_cons.mp hds
  have d4 : v_iv (n_v vs 4) + 0 ≤ v_iv (n_v vs 3) ∧ v_iv (n_v vs 3) ≤ v_iv (n_v vs 4) + 4294967296 := d4
  obtain ⟨d5, hds⟩ := List.forall_mem_cons.mp hds
  have d5 : v_iv (n_v vs 3) + (-4294967296) ≤ v_iv (n_v vs 1) ∧ v_iv (n_v vs 1) ≤ v_iv (n_v vs 3) + 1000000 := d5
  have hf : fc_ok [(20, [2, 1], [30, 0, 1, 1, 9, -1, 0, 0]), (20, [2, 1], [30, 0, -1, 1, 9, 1, 0, 0]), (24, [0, 2], []), (101, [2, 6], [7]), (20, [2, 1], [30, 0, 1, 1, 9, -1, 0, 0]), (20, [2, 1], [30, 0, -1, 1, 9, 1, 0, 0]), (101, [2, 10], [6]), (1, [10, 3, 9], []), (9, [3, 2], [6]), (10, [6, 5, 3], []), (9, [5, 2], [0]), (7, [3, 4], [2]), (9, [4, 2], [5]), (20, [2, 1], [30, 0, 1, 1, 9, -1, 0, 0]), (20, [2, 1], [30, 0, -1, 1, 9, 1, 0, 0]), (101, [2, 3], [8]), (7, [3, 4], [3]), (20, [2, 1], [30, 0, 1, 1, 9, -1, 0, 0]), (20, [2, 1], [30, 0, -1, 1, 9, 1, 0, 0])] ta ws vs := hf
  obtain ⟨f0, hf⟩ := fc_un (by decide) hf
  have f0 : 1 * w_fi ws (n_v vs 2) 9 + ((-1) * v_iv (n_v vs 1) + 0) ≤ 0 := f0
  obtain ⟨f1, hf⟩ := fc_un (by decide) hf
  have f1 : (-1) * w_fi ws (n_v vs 2) 9 + (1 * v_iv (n_v vs 1) + 0) ≤ 0 := f1
  obtain ⟨f2, hf⟩ := fc_un (by decide) hf
  have f2 : n_v vs 0 = n_v vs 2 := f2
  obtain ⟨ta1, w1, le1, ⟨_, s1⟩, hf⟩ := fc_us (by decide) hf
  have s1 : (∀ b j, w_el ws b j = w_el w1 b j) ∧ ∀ b j, w_fd ws b j = if b = v_ad (n_v vs 2) ∧ j = 7 then n_v vs 6 else w_fd w1 b j := s1
  obtain ⟨f4, hf⟩ := fc_un (by decide) hf
  have f4 : 1 * w_fi w1 (n_v vs 2) 9 + ((-1) * v_iv (n_v vs 1) + 0) ≤ 0 := f4
  obtain ⟨f5, hf⟩ := fc_un (by decide) hf
  have f5 : (-1) * w_fi w1 (n_v vs 2) 9 + (1 * v_iv (n_v vs 1) + 0) ≤ 0 := f5
  obtain ⟨ta2, w2, le2, ⟨_, s2⟩, hf⟩ := fc_us (by decide) hf
  have s2 : (∀ b j, w_el w1 b j = w_el w2 b j) ∧ ∀ b j, w_fd w1 b j = if b = v_ad (n_v vs 2) ∧ j = 6 then n_v vs 10 else w_fd w2 b j := s2
  obtain ⟨f7, hf⟩ := fc_un (by decide) hf
  have f7 : v_iv (n_v vs 10) = v_iv (n_v vs 3) + v_iv (n_v vs 9) := f7
  obtain ⟨f8, hf⟩ := fc_un (by decide) hf
  have f8 : n_v vs 3 = w_fd w2 (v_ad (n_v vs 2)) 6 := f8
  obtain ⟨f9, hf⟩ := fc_un (by decide) hf
  have f9 : v_iv (n_v vs 6) = w_el w2 (v_ad (n_v vs 5)) (v_iv (n_v vs 3)).toNat := f9
  obtain ⟨f10, hf⟩ := fc_un (by decide) hf
  have f10 : n_v vs 5 = w_fd w2 (v_ad (n_v vs 2)) 0 := f10
  obtain ⟨f11, hf⟩ := fc_un (by decide) hf
  have f11 : v_iv (n_v vs 3) < v_iv (n_v vs 4) := f11
  obtain ⟨f12, hf⟩ := fc_un (by decide) hf
  have f12 : n_v vs 4 = w_fd w2 (v_ad (n_v vs 2)) 5 := f12
  obtain ⟨f13, hf⟩ := fc_un (by decide) hf
  have f13 : 1 * w_fi w2 (n_v vs 2) 9 + ((-1) * v_iv (n_v vs 1) + 0) ≤ 0 := f13
  obtain ⟨f14, hf⟩ := fc_un (by decide) hf
  have f14 : (-1) * w_fi w2 (n_v vs 2) 9 + (1 * v_iv (n_v vs 1) + 0) ≤ 0 := f14
  obtain ⟨ta3, w3, le3, ⟨_, s3⟩, hf⟩ := fc_us (by decide) hf
  have s3 : (∀ b j, w_el w2 b j = w_el w3 b j) ∧ ∀ b j, w_fd w2 b j = if b = v_ad (n_v vs 2) ∧ j = 8 then n_v vs 3 else w_fd w3 b j := s3
  obtain ⟨f16, hf⟩ := fc_un (by decide) hf
  have f16 : v_iv (n_v vs 4) ≤ v_iv (n_v vs 3) := f16
  obtain ⟨f17, hf⟩ := fc_un (by decide) hf
  have f17 : 1 * w_fi w3 (n_v vs 2) 9 + ((-1) * v_iv (n_v vs 1) + 0) ≤ 0 := f17
  obtain ⟨f18, hf⟩ := fc_un (by decide) hf
  have f18 : (-1) * w_fi w3 (n_v vs 2) 9 + (1 * v_iv (n_v vs 1) + 0) ≤ 0 := f18
  have q2 : n_v vs 2 = n_v vs 0 := f2.symm
  rw [q2] at f0
  rw [q2] at f1
  rw [q2] at s1
  rw [q2] at f4
  rw [q2] at f5
  rw [q2] at s2
  rw [q2] at f8
  rw [q2] at f10
  rw [q2] at f12
  rw [q2] at f13
  rw [q2] at f14
  rw [q2] at s3
  rw [q2] at f17
  rw [q2] at f18
  have ar_0_0_1 : w_ar w1 (n_v vs 0) 0 = w_ar ws (n_v vs 0) 0 := by show v_ad (w_fd w1 _ _) = v_ad (w_fd ws _ _); rw [s1.2, if_neg (fun e => absurd e.2 (by decide))]
  have ar_0_0_2 : w_ar w2 (n_v vs 0) 0 = w_ar ws (n_v vs 0) 0 := by rw [← ar_0_0_1]; show v_ad (w_fd w2 _ _) = v_ad (w_fd w1 _ _); rw [s2.2, if_neg (fun e => absurd e.2 (by decide))]
  have ar_0_0_3 : w_ar w3 (n_v vs 0) 0 = w_ar ws (n_v vs 0) 0 := by rw [← ar_0_0_2]; show v_ad (w_fd w3 _ _) = v_ad (w_fd w2 _ _); rw [s3.2, if_neg (fun e => absurd e.2 (by decide))]
  have cr_0_0 : ta (w_ar ws (n_v vs 0) 0) = some 109 := tv_rg (th_fd hD hth r0 (g := GG_8) rfl (k := 0) (t := (2, 0, 0, [109])) rfl rfl)
  have ad_5 : v_ad (n_v vs 5) = w_ar ws (n_v vs 0) 0 := (congrArg v_ad f10).trans ar_0_0_2
  have g8 : v_iv (n_v vs 3) = w_fi w2 (n_v vs 0) 6 := congrArg v_iv f8
  rw [ad_5] at f9
  have g12 : v_iv (n_v vs 4) = w_fi w2 (n_v vs 0) 5 := congrArg v_iv f12
  have fe_0_5_1 : w_fi ws (n_v vs 0) 5 = w_fi w1 (n_v vs 0) 5 := by show v_iv (w_fd _ _ _) = v_iv (w_fd _ _ _); rw [s1.2, if_neg (fun e => absurd e.2 (by decide))]
  have fe_0_6_1 : w_fi ws (n_v vs 0) 6 = w_fi w1 (n_v vs 0) 6 := by show v_iv (w_fd _ _ _) = v_iv (w_fd _ _ _); rw [s1.2, if_neg (fun e => absurd e.2 (by decide))]
  have fe_0_7_1 : w_fi ws (n_v vs 0) 7 = v_iv (n_v vs 6) := by show v_iv (w_fd _ _ _) = _; rw [s1.2, if_pos ⟨rfl, rfl⟩]
  have fe_0_9_1 : w_fi ws (n_v vs 0) 9 = w_fi w1 (n_v vs 0) 9 := by show v_iv (w_fd _ _ _) = v_iv (w_fd _ _ _); rw [s1.2, if_neg (fun e => absurd e.2 (by decide))]
  have ee_0_0_3_1 : w_el ws (w_ar ws (n_v vs 0) 0) (v_iv (n_v vs 3)).toNat = w_el w1 (w_ar ws (n_v vs 0) 0) (v_iv (n_v vs 3)).toNat := s1.1 _ _
  have fe_0_5_2 : w_fi w1 (n_v vs 0) 5 = w_fi w2 (n_v vs 0) 5 := by show v_iv (w_fd _ _ _) = v_iv (w_fd _ _ _); rw [s2.2, if_neg (fun e => absurd e.2 (by decide))]
  have fe_0_6_2 : w_fi w1 (n_v vs 0) 6 = v_iv (n_v vs 10) := by show v_iv (w_fd _ _ _) = _; rw [s2.2, if_pos ⟨rfl, rfl⟩]
  have fe_0_7_2 : w_fi w1 (n_v vs 0) 7 = w_fi w2 (n_v vs 0) 7 := by show v_iv (w_fd _ _ _) = v_iv (w_fd _ _ _); rw [s2.2, if_neg (fun e => absurd e.2 (by decide))]
  have fe_0_9_2 : w_fi w1 (n_v vs 0) 9 = w_fi w2 (n_v vs 0) 9 := by show v_iv (w_fd _ _ _) = v_iv (w_fd _ _ _); rw [s2.2, if_neg (fun e => absurd e.2 (by decide))]
  have ee_0_0_3_2 : w_el w1 (w_ar ws (n_v vs 0) 0) (v_iv (n_v vs 3)).toNat = w_el w2 (w_ar ws (n_v vs 0) 0) (v_iv (n_v vs 3)).toNat := s2.1 _ _
  have fe_0_5_3 : w_fi w2 (n_v vs 0) 5 = w_fi w3 (n_v vs 0) 5 := by show v_iv (w_fd _ _ _) = v_iv (w_fd _ _ _); rw [s3.2, if_neg (fun e => absurd e.2 (by decide))]
  have fe_0_6_3 : w_fi w2 (n_v vs 0) 6 = w_fi w3 (n_v vs 0) 6 := by show v_iv (w_fd _ _ _) = v_iv (w_fd _ _ _); rw [s3.2, if_neg (fun e => absurd e.2 (by decide))]
  have fe_0_7_3 : w_fi w2 (n_v vs 0) 7 = w_fi w3 (n_v vs 0) 7 := by show v_iv (w_fd _ _ _) = v_iv (w_fd _ _ _); rw [s3.2, if_neg (fun e => absurd e.2 (by decide))]
  have fe_0_9_3 : w_fi w2 (n_v vs 0) 9 = w_fi w3 (n_v vs 0) 9 := by show v_iv (w_fd _ _ _) = v_iv (w_fd _ _ _); rw [s3.2, if_neg (fun e => absurd e.2 (by decide))]
  have ee_0_0_3_3 : w_el w2 (w_ar ws (n_v vs 0) 0) (v_iv (n_v vs 3)).toNat = w_el w3 (w_ar ws (n_v vs 0) 0) (v_iv (n_v vs 3)).toNat := s3.1 _ _
  have kz_0_5 : 0 ≤ w_fi ws (n_v vs 0) 5 ∧ w_fi ws (n_v vs 0) 5 ≤ 2000 := tv_rng (th_fd hD hth r0 (g := GG_8) rfl (k := 5) (t := (0, 0, 2000, [])) rfl rfl)
  have kz_0_6 : 0 ≤ w_fi ws (n_v vs 0) 6 ∧ w_fi ws (n_v vs 0) 6 ≤ 2000 := tv_rng (th_fd hD hth r0 (g := GG_8) rfl (k := 6) (t := (0, 0, 2000, [])) rfl rfl)
  have kz_0_7 : (-128) ≤ w_fi ws (n_v vs 0) 7 ∧ w_fi ws (n_v vs 0) 7 ≤ 127 := tv_rng (th_fd hD hth r0 (g := GG_8) rfl (k := 7) (t := (0, -128, 127, [])) rfl rfl)
  have kz_0_9 : (-2147483648) ≤ w_fi ws (n_v vs 0) 9 ∧ w_fi ws (n_v vs 0) 9 ≤ 1000000 := tv_rng (th_fd hD hth r0 (g := GG_8) rfl (k := 9) (t := (0, -2147483648, 1000000, [])) rfl rfl)
  have nf0 : fc_1 (20, [0, 0, 1], [31, 1, 3, 1, 1, 7, 0, 1, 1, 9, -1, 0, 0]) ws (vs) := by
    refine ⟨fun n hn => ?_, ?_⟩
    · have hn : n ∈ [0, 0, 1] := hn
      rw [hl]
      simp only [List.mem_cons, List.not_mem_nil, or_false] at hn
      show n < 12; omega
    · show (1 * w_fi ws (n_v vs 0) 7 + 0 ≤ 3) ∨ (1 * w_fi ws (n_v vs 0) 9 + ((-1) * v_iv (n_v vs 1) + 0) ≤ 0)
      omega
  have nf1 : fc_1 (20, [0, 0, 1], [31, 1, 3, 1, 1, 7, 0, -1, 1, 9, 1, 0, 0]) ws (vs) := by
    refine ⟨fun n hn => ?_, ?_⟩
    · have hn : n ∈ [0, 0, 1] := hn
      rw [hl]
      simp only [List.mem_cons, List.not_mem_nil, or_false] at hn
      show n < 12; omega
    · show (1 * w_fi ws (n_v vs 0) 7 + 0 ≤ 3) ∨ ((-1) * w_fi ws (n_v vs 0) 9 + (1 * v_iv (n_v vs 1) + 0) ≤ 0)
      omega
  refine ⟨(fun _ h => (by cases h)), [], trivial, ?_, (fun _ h => (by cases h))⟩
  rw [List.append_nil]
  exact List.forall_mem_cons.mpr ⟨⟨by decide, nf0⟩, List.forall_mem_cons.mpr ⟨⟨by decide, nf1⟩, (fun _ h => (by cases h))⟩⟩
def o_Re_advance_4 : or_T := (290, 12, [(0, (2, 0, 0, [8])), (1, (0, -2147483648, 1000000, [])), (2, (2, 0, 0, [8])), (3, (0, 1, 1999, [])), (4, (0, 1, 1999, [])), (5, (2, 0, 0, [109])), (6, (0, 91, 96, [])), (9, (0, 1, 1, [])), (10, (0, 2, 2000, []))], [(20, [2, 1], [30, 0, 1, 1, 9, -1, 0, 0]), (20, [2, 1], [30, 0, -1, 1, 9, 1, 0, 0]), (24, [0, 2], []), (101, [2, 6], [7]), (20, [2, 1], [30, 0, 1, 1, 9, -1, 0, 0]), (20, [2, 1], [30, 0, -1, 1, 9, 1, 0, 0]), (101, [2, 10], [6]), (1, [10, 3, 9], []), (9, [3, 2], [6]), (10, [6, 5, 3], []), (9, [5, 2], [0]), (7, [3, 4], [2]), (9, [4, 2], [5]), (20, [2, 1], [30, 0, 1, 1, 9, -1, 0, 0]), (20, [2, 1], [30, 0, -1, 1, 9, 1, 0, 0]), (101, [2, 3], [8]), (7, [3, 4], [3]), (20, [2, 1], [30, 0, 1, 1, 9, -1, 0, 0]), (20, [2, 1], [30, 0, -1, 1, 9, 1, 0, 0])], [], [], [(20, [0, 0, 1], [31, 1, 3, 1, 1, 7, 0, 1, 1, 9, -1, 0, 0]), (20, [0, 0, 1], [31, 1, 3, 1, 1, 7, 0, -1, 1, 9, 1, 0, 0])], [], [(10, 3, 1, 1), (10, 4, -4294967296, 0), (10, 4, 1, 4294967296), (3, 4, -4294967296, -1), (3, 4, 0, 4294967296), (1, 3, -4294967296, 1000000)])
theorem oo_Re_advance_4 {kA : Nat → ClassId} : or_ok kA GG o_Re_advance_4 := by
  intro A ta ws vs hD hth hl hk hds hf
  have hl : vs.length = 12 := hl
  have hk : ∀ q ∈ ([(0, (2, 0, 0, [8])), (1, (0, -2147483648, 1000000, [])), (2, (2, 0, 0, [8])), (3, (0, 1, 1999, [])), (4, (0, 1, 1999, [])), (5, (2, 0, 0, [109])), (6, (0, 91, 96, [])), (9, (0, 1, 1, [])), (10, (0, 2, 2000, []))] : List (Nat × tv_T)), tv_ok ta q.2 (n_v vs q.1) := hk
  obtain ⟨t0, hk⟩ := List.forall_mem_cons.mp hk
  have t0 : tv_ok ta (2, 0, 0, [8]) (n_v vs 0) := t0
  have r0 : ta (v_ad (n_v vs 0)) = some 8 := tv_rg t0
  obtain ⟨t1, hk⟩ := List.forall_mem_cons.mp hk
  have t1 : tv_ok ta (0, -2147483648, 1000000, []) (n_v vs 1) := t1
  have k1 : (-2147483648) ≤ v_iv (n_v vs 1) ∧ v_iv (n_v vs 1) ≤ 1000000 := tv_rng t1
  obtain ⟨t2, hk⟩ := List.forall_mem_cons.mp hk
  have t2 : tv_ok ta (2, 0, 0, [8]) (n_v vs 2) := t2
  have r2 : ta (v_ad (n_v vs 2)) = some 8 := tv_rg t2
  obtain ⟨t3, hk⟩ := List.forall_mem_cons.mp hk
  have t3 : tv_ok ta (0, 1, 1999, []) (n_v vs 3) := t3
  have k3 : 1 ≤ v_iv (n_v vs 3) ∧ v_iv (n_v vs 3) ≤ 1999 := tv_rng t3
  obtain ⟨t4, hk⟩ := List.forall_mem_cons.mp hk
  have t4 : tv_ok ta (0, 1, 1999, []) (n_v vs 4) := t4
  have k4 : 1 ≤ v_iv (n_v vs 4) ∧ v_iv (n_v vs 4) ≤ 1999 := tv_rng t4
  obtain ⟨t5, hk⟩ := List.forall_mem_cons.mp hk
  have t5 : tv_ok ta (2, 0, 0, [109]) (n_v vs 5) := t5
  have r5 : ta (v_ad (n_v vs 5)) = some 109 := tv_rg t5
  obtain ⟨t6, hk⟩ := List.forall_mem_cons.mp hk
  have t6 : tv_ok ta (0, 91, 96, []) (n_v vs 6) := t6
  have k6 : 91 ≤ v_iv (n_v vs 6) ∧ v_iv (n_v vs 6) ≤ 96 := tv_rng t6
  obtain ⟨t9, hk⟩ := List.forall_mem_cons.mp hk
  have t9 : tv_ok ta (0, 1, 1, []) (n_v vs 9) := t9
  have k9 : 1 ≤ v_iv (n_v vs 9) ∧ v_iv (n_v vs 9) ≤ 1 := tv_rng t9
  obtain ⟨t10, hk⟩ := List.forall_mem_cons.mp hk
  have t10 : tv_ok ta (0, 2, 2000, []) (n_v vs 10) := t10
  have k10 : 2 ≤ v_iv (n_v vs 10) ∧ v_iv (n_v vs 10) ≤ 2000 := tv_rng t10
  have hds : ∀ q ∈ ([(10, 3, 1, 1), (10, 4, -4294967296, 0), (10, 4, 1, 4294967296), (3, 4, -4294967296, -1), (3, 4, 0, 4294967296), (1, 3, -4294967296, 1000000)] : List of_T), n_iv vs q.2.1 + q.2.2.1 ≤ n_iv vs q.1 ∧ n_iv vs q.1 ≤ n_iv vs q.2.1 + q.2.2.2 := hds
  obtain ⟨d0, hds⟩ := List.forall_mem_cons.mp hds
  have d0 : v_iv (n_v vs 3) + 1 ≤ v_iv (n_v vs 10) ∧ v_iv (n_v vs 10) ≤ v_iv (n_v vs 3) + 1 := d0
  obtain ⟨d1, hds⟩ := List.forall_mem_cons.mp hds
  have d1 : v_iv (n_v vs 4) + (-4294967296) ≤ v_iv (n_v vs 10) ∧ v_iv (n_v vs 10) ≤ v_iv (n_v vs 4) + 0 := d1
  obtain ⟨d2, hds⟩ := List.forall_mem_cons.mp hds
  have d2 : v_iv (n_v vs 4) + 1 ≤ v_iv (n_v vs 10) ∧ v_iv (n_v vs 10) ≤ v_iv (n_v vs 4) + 4294967296 := d2
  obtain ⟨d3, hds⟩ := List.forall_mem_cons.mp hds
  have d3 : v_iv (n_v vs 4) + (-4294967296) ≤ v_iv (n_v vs 3) ∧ v_iv (n_v vs 3) ≤ v_iv (n_v vs 4) + (-1) := d3
  obtain ⟨d4, hds⟩ := List.forall_mem_cons.mp hds
  have d4 : v_iv (n_v vs 4) + 0 ≤ v_iv (n_v vs 3) ∧ v_iv (n_v vs 3) ≤ v_iv (n_v vs 4) + 4294967296 := d4
  obtain ⟨d5, hds⟩ := List.forall_mem_cons.mp hds
  have d5 : v_iv (n_v vs 3) + (-4294967296) ≤ v_iv (n_v vs 1) ∧ v_iv (n_v vs 1) ≤ v_iv (n_v vs 3) + 1000000 := d5
  have hf : fc_ok [(20, [2, 1], [30, 0, 1, 1, 9, -1, 0, 0]), (20, [2, 1], [30, 0, -1, 1, 9, 1, 0, 0]), (24, [0, 2], []), (101, [2, 6], [7]), (20, [2, 1], [30, 0, 1, 1, 9, -1, 0, 0]), (20, [2, 1], [30, 0, -1, 1, 9, 1, 0, 0]), (101, [2, 10], [6]), (1, [10, 3, 9], []), (9, [3, 2], [6]), (10, [6, 5, 3], []), (9, [5, 2], [0]), (7, [3, 4], [2]), (9, [4, 2], [5]), (20, [2, 1], [30, 0, 1, 1, 9, -1, 0, 0]), (20, [2, 1], [30, 0, -1, 1, 9, 1, 0, 0]), (101, [2, 3], [8]), (7, [3, 4], [3]), (20, [2, 1], [30, 0, 1, 1, 9, -1, 0, 0]), (20, [2, 1], [30, 0, -1, 1, 9, 1, 0, 0])] ta ws vs := hf
  obtain ⟨f0, hf⟩ := fc_un (by decide) hf
  have f0 : 1 * w_fi ws (n_v vs 2) 9 + ((-1) * v_iv (n_v vs 1) + 0) ≤ 0 := f0
  obtain ⟨f1, hf⟩ := fc_un (by decide) hf
  have f1 : (-1) * w_fi ws (n_v vs 2) 9 + (1 * v_iv (n_v vs 1) + 0) ≤ 0 := f1
  obtain ⟨f2, hf⟩ := fc_un (by decide) hf
  have f2 : n_v vs 0 = n_v vs 2 := f2
  obtain ⟨ta1, w1, le1, ⟨_, s1⟩, hf⟩ := fc_us (by decide) hf
  have s1 : (∀ b j, w_el ws b j = w_el w1 b j) ∧ ∀ b j, w_fd ws b j = if b = v_ad (n_v vs 2) ∧ j = 7 then n_v vs 6 else w_fd w1 b j := s1
  obtain ⟨f4, hf⟩ := fc_un (by decide) hf
  have f4 : 1 * w_fi w1 (n_v vs 2) 9 + ((-1) * v_iv (n_v vs 1) + 0) ≤ 0 := f4
  obtain ⟨f5, hf⟩ := fc_un (by decide) hf
  have f5 : (-1) * w_fi w1 (n_v vs 2) 9 + (1 * v_iv (n_v vs 1) + 0) ≤ 0 := f5
  obtain ⟨ta2, w2, le2, ⟨_, s2⟩, hf⟩ := fc_us (by decide) hf
  have s2 : (∀ b j, w_el w1 b j = w_el w2 b j) ∧ ∀ b j, w_fd w1 b j = if b = v_ad (n_v vs 2) ∧ j = 6 then n_v vs 10 else w_fd w2 b j := s2
  obtain ⟨f7, hf⟩ := fc_un (by decide) hf
  have f7 : v_iv (n_v vs 10) = v_iv (n_v vs 3) + v_iv (n_v vs 9) := f7
  obtain ⟨f8, hf⟩ := fc_un (by decide) hf
  have f8 : n_v vs 3 = w_fd w2 (v_ad (n_v vs 2)) 6 := f8
  obtain ⟨f9, hf⟩ := fc_un (by decide) hf
  have f9 : v_iv (n_v vs 6) = w_el w2 (v_ad (n_v vs 5)) (v_iv (n_v vs 3)).toNat := f9
  obtain ⟨f10, hf⟩ := fc_un (by decide) hf
  have f10 : n_v vs 5 = w_fd w2 (v_ad (n_v vs 2)) 0 := f10
  obtain ⟨f11, hf⟩ := fc_un (by decide) hf
  have f11 : v_iv (n_v vs 3) < v_iv (n_v vs 4) := f11
  obtain ⟨f12, hf⟩ := fc_un (by decide) hf
  have f12 : n_v vs 4 = w_fd w2 (v_ad (n_v vs 2)) 5 := f12
  obtain ⟨f13, hf⟩ := fc_un (by decide) hf
  have f13 : 1 * w_fi w2 (n_v vs 2) 9 + ((-1) * v_iv (n_v vs 1) + 0) ≤ 0 := f13
  obtain ⟨f14, hf⟩ := fc_un (by decide) hf
  have f14 : (-1) * w_fi w2 (n_v vs 2) 9 + (1 * v_iv (n_v vs 1) + 0) ≤ 0 := f14
  obtain ⟨ta3, w3, le3, ⟨_, s3⟩, hf⟩ := fc_us (by decide) hf
  have s3 : (∀ b j, w_el w2 b j = w_el w3 b j) ∧ ∀ b j, w_fd w2 b j = if b = v_ad (n_v vs 2) ∧ j = 8 then n_v vs 3 else w_fd w3 b j := s3
  obtain ⟨f16, hf⟩ := fc_un (by decide) hf
  have f16 : v_iv (n_v vs 4) ≤ v_iv (n_v vs 3) := f16
  obtain ⟨f17, hf⟩ := fc_un (by decide) hf
  have f17 : 1 * w_fi w3 (n_v vs 2) 9 + ((-1) * v_iv (n_v vs 1) + 0) ≤ 0 := f17
  obtain ⟨f18, hf⟩ := fc_un (by decide) hf
  have f18 : (-1) * w_fi w3 (n_v vs 2) 9 + (1 * v_iv (n_v vs 1) + 0) ≤ 0 := f18
  have q2 : n_v vs 2 = n_v vs 0 := f2.symm
  rw [q2] at f0
  rw [q2] at f1
  rw [q2] at s1
  rw [q2] at f4
  rw [q2] at f5
  rw [q2] at s2
  rw [q2] at f8
  rw [q2] at f10
  rw [q2] at f12
  rw [q2] at f13
  rw [q2] at f14
  rw [q2] at s3
  rw [q2] at f17
  rw [q2] at f18
  have ar_0_0_1 : w_ar w1 (n_v vs 0) 0 = w_ar ws (n_v vs 0) 0 := by show v_ad (w_fd w1 _ _) = v_ad (w_fd ws _ _); rw [s1.2, if_neg (fun e => absurd e.2 (by decide))]
  have ar_0_0_2 : w_ar w2 (n_v vs 0) 0 = w_ar ws (n_v vs 0) 0 := by rw [← ar_0_0_1]; show v_ad (w_fd w2 _ _) = v_ad (w_fd w1 _ _); rw [s2.2, if_neg (fun e => absurd e.2 (by decide))]
  have ar_0_0_3 : w_ar w3 (n_v vs 0) 0 = w_ar ws (n_v vs 0) 0 := by rw [← ar_0_0_2]; show v_ad (w_fd w3 _ _) = v_ad (w_fd w2 _ _); rw [s3.2, if_neg (fun e => absurd e.2 (by decide))]
  have cr_0_0 : ta (w_ar ws (n_v vs 0) 0) = some 109 := tv_rg (th_fd hD hth r0 (g := GG_8) rfl (k := 0) (t := (2, 0, 0, [109])) rfl rfl)
  have ad_5 : v_ad (n_v vs 5) = w_ar ws (n_v vs 0) 0 := (congrArg v_ad f10).trans ar_0_0_2
  have g8 : v_iv (n_v vs 3) = w_fi w2 (n_v vs 0) 6 := congrArg v_iv f8
  rw [ad_5] at f9
  have g12 : v_iv (n_v vs 4) = w_fi w2 (n_v vs 0) 5 := congrArg v_iv f12
  have fe_0_5_1 : w_fi ws (n_v vs 0) 5 = w_fi w1 (n_v vs 0) 5 := by show v_iv (w_fd _ _ _) = v_iv (w_fd _ _ _); rw [s1.2, if_neg (fun e => absurd e.2 (by decide))]
  have fe_0_6_1 : w_fi ws (n_v vs 0) 6 = w_fi w1 (n_v vs 0) 6 := by show v_iv (w_fd _ _ _) = v_iv (w_fd _ _ _); rw [s1.2, if_neg (fun e => absurd e.2 (by decide))]
  have fe_0_7_1 : w_fi ws (n_v vs 0) 7 = v_iv (n_v vs 6) := by show v_iv (w_fd _ _ _) = _; rw [s1.2, if_pos ⟨rfl, rfl⟩]
  have fe_0_9_1 : w_fi ws (n_v vs 0) 9 = w_fi w1 (n_v vs 0) 9 := by show v_iv (w_fd _ _ _) = v_iv (w_fd _ _ _); rw [s1.2, if_neg (fun e => absurd e.2 (by decide))]
  have ee_0_0_3_1 : w_el ws (w_ar ws (n_v vs 0) 0) (v_iv (n_v vs 3)).toNat = w_el w1 (w_ar ws (n_v vs 0) 0) (v_iv (n_v vs 3)).toNat := s1.1 _ _
  have fe_0_5_2 : w_fi w1 (n_v vs 0) 5 = w_fi w2 (n_v vs 0) 5 := by show v_iv (w_fd _ _ _) = v_iv (w_fd _ _ _); rw [s2.2, if_neg (fun e => absurd e.2 (by decide))]
  have fe_0_6_2 : w_fi w1 (n_v vs 0) 6 = v_iv (n_v vs 10) := by show v_iv (w_fd _ _ _) = _; rw [s2.2, if_pos ⟨rfl, rfl⟩]
  have fe_0_7_2 : w_fi w1 (n_v vs 0) 7 = w_fi w2 (n_v vs 0) 7 := by show v_iv (w_fd _ _ _) = v_iv (w_fd _ _ _); rw [s2.2, if_neg (fun e => absurd e.2 (by decide))]
  have fe_0_9_2 : w_fi w1 (n_v vs 0) 9 = w_fi w2 (n_v vs 0) 9 := by show v_iv (w_fd _ _ _) = v_iv (w_fd _ _ _); rw [s2.2, if_neg (fun e => absurd e.2 (by decide))]
  have ee_0_0_3_2 : w_el w1 (w_ar ws (n_v vs 0) 0) (v_iv (n_v vs 3)).toNat = w_el w2 (w_ar ws (n_v vs 0) 0) (v_iv (n_v vs 3)).toNat := s2.1 _ _
  have fe_0_5_3 : w_fi w2 (n_v vs 0) 5 = w_fi w3 (n_v vs 0) 5 := by show v_iv (w_fd _ _ _) = v_iv (w_fd _ _ _); rw [s3.2, if_neg (fun e => absurd e.2 (by decide))]
  have fe_0_6_3 : w_fi w2 (n_v vs 0) 6 = w_fi w3 (n_v vs 0) 6 := by show v_iv (w_fd _ _ _) = v_iv (w_fd _ _ _); rw [s3.2, if_neg (fun e => absurd e.2 (by decide))]
  have fe_0_7_3 : w_fi w2 (n_v vs 0) 7 = w_fi w3 (n_v vs 0) 7 := by show v_iv (w_fd _ _ _) = v_iv (w_fd _ _ _); rw [s3.2, if_neg (fun e => absurd e.2 (by decide))]
  have fe_0_9_3 : w_fi w2 (n_v vs 0) 9 = w_fi w3 (n_v vs 0) 9 := by show v_iv (w_fd _ _ _) = v_iv (w_fd _ _ _); rw [s3.2, if_neg (fun e => absurd e.2 (by decide))]
  have ee_0_0_3_3 : w_el w2 (w_ar ws (n_v vs 0) 0) (v_iv (n_v vs 3)).toNat = w_el w3 (w_ar ws (n_v vs 0) 0) (v_iv (n_v vs 3)).toNat := s3.1 _ _
  have kz_0_5 : 0 ≤ w_fi ws (n_v vs 0) 5 ∧ w_fi ws (n_v vs 0) 5 ≤ 2000 := tv_rng (th_fd hD hth r0 (g := GG_8) rfl (k := 5) (t := (0, 0, 2000, [])) rfl rfl)
  have kz_0_6 : 0 ≤ w_fi ws (n_v vs 0) 6 ∧ w_fi ws (n_v vs 0) 6 ≤ 2000 := tv_rng (th_fd hD hth r0 (g := GG_8) rfl (k := 6) (t := (0, 0, 2000, [])) rfl rfl)
  have kz_0_7 : (-128) ≤ w_fi ws (n_v vs 0) 7 ∧ w_fi ws (n_v vs 0) 7 ≤ 127 := tv_rng (th_fd hD hth r0 (g := GG_8) rfl (k := 7) (t := (0, -128, 127, [])) rfl rfl)
  have kz_0_9 : (-2147483648) ≤ w_fi ws (n_v vs 0) 9 ∧ w_fi ws (n_v vs 0) 9 ≤ 1000000 := tv_rng (th_fd hD hth r0 (g := GG_8) rfl (k := 9) (t := (0, -2147483648, 1000000, [])) rfl rfl)
  have nf0 : fc_1 (20, [0, 0, 1], [31, 1, 3, 1, 1, 7, 0, 1, 1, 9, -1, 0, 0]) ws (vs) := by
    refine ⟨fun n hn => ?_, ?_⟩
    · have hn : n ∈ [0, 0, 1] := hn
      rw [hl]
      simp only [List.mem_cons, List.not_mem_nil, or_false] at hn
      show n < 12; omega
    · show (1 * w_fi ws (n_v vs 0) 7 + 0 ≤ 3) ∨ (1 * w_fi ws (n_v vs 0) 9 + ((-1) * v_iv (n_v vs 1) + 0) ≤ 0)
      omega
  have nf1 : fc_1 (20, [0, 0, 1], [31, 1, 3, 1, 1, 7, 0, -1, 1, 9, 1, 0, 0]) ws (vs) := by
    refine ⟨fun n hn => ?_, ?_⟩
    · have hn : n ∈ [0, 0, 1] := hn
      rw [hl]
      simp only [List.mem_cons, List.not_mem_nil, or_false] at hn
      show n < 12; omega
    · show (1 * w_fi ws (n_v vs 0) 7 + 0 ≤ 3) ∨ ((-1) * w_fi ws (n_v vs 0) 9 + (1 * v_iv (n_v vs 1) + 0) ≤ 0)
      omega
  refine ⟨(fun _ h => (by cases h)), [], trivial, ?_, (fun _ h => (by cases h))⟩
  rw [List.append_nil]
  exact List.forall_mem_cons.mpr ⟨⟨by decide, nf0⟩, List.forall_mem_cons.mpr ⟨⟨by decide, nf1⟩, (fun _ h => (by cases h))⟩⟩
def o_Re_advance_5 : or_T := (290, 12, [(0, (2, 0, 0, [8])), (1, (0, -2147483648, 1000000, [])), (2, (2, 0, 0, [8])), (3, (0, 1, 1999, [])), (4, (0, 1, 1999, [])), (5, (2, 0, 0, [109])), (6, (0, 123, 127, [])), (9, (0, 1, 1, [])), (10, (0, 2, 2000, []))], [(20, [2, 1], [30, 0, 1, 1, 9, -1, 0, 0]), (20, [2, 1], [30, 0, -1, 1, 9, 1, 0, 0]), (24, [0, 2], []), (101, [2, 6], [7]), (20, [2, 1], [30, 0, 1, 1, 9, -1, 0, 0]), (20, [2, 1], [30, 0, -1, 1, 9, 1, 0, 0]), (101, [2, 10], [6]), (1, [10, 3, 9], []), (9, [3, 2], [6]), (10, [6, 5, 3], []), (9, [5, 2], [0]), (7, [3, 4], [2]), (9, [4, 2], [5]), (20, [2, 1], [30, 0, 1, 1, 9, -1, 0, 0]), (20, [2, 1], [30, 0, -1, 1, 9, 1, 0, 0]), (101, [2, 3], [8]), (7, [3, 4], [3]), (20, [2, 1], [30, 0, 1, 1, 9, -1, 0, 0]), (20, [2, 1], [30, 0, -1, 1, 9, 1, 0, 0])], [], [], [(20, [0, 0, 1], [31, 1, 3, 1, 1, 7, 0, 1, 1, 9, -1, 0, 0]), (20, [0, 0, 1], [31, 1, 3, 1, 1, 7, 0, -1, 1, 9, 1, 0, 0])], [], [(10, 3, 1, 1), (10, 4, -4294967296, 0), (10, 4, 1, 4294967296), (3, 4, -4294967296, -1), (3, 4, 0, 4294967296), (1, 3, -4294967296, 1000000)])
theorem oo_Re_advance_5 {kA : Nat → ClassId} : or_ok kA GG o_Re_advance_5 := by
  intro A ta ws vs hD hth hl hk hds hf
  have hl : vs.length = 12 := hl
  have hk : ∀ q ∈ ([(0, (2, 0, 0, [8])), (1, (0, -2147483648, 1000000, [])), (2, (2, 0, 0, [8])), (3, (0, 1, 1999, [])), (4, (0, 1, 1999, [])), (5, (2, 0, 0, [109])), (6, (0, 123, 127, [])), (9, (0, 1, 1, [])), (10, (0, 2, 2000, []))] : List (Nat × tv_T)), tv_ok ta q.2 (n_v vs q.1) := hk
  obtain ⟨t0, hk⟩ := List.forall_mem_cons.mp hk
  have t0 : tv_ok ta (2, 0, 0, [8]) (n_v vs 0) := t0
  have r0 : ta (v_ad (n_v vs 0)) = some 8 := tv_rg t0
  obtain ⟨t1, hk⟩ := List.forall_mem_cons.mp hk
  have t1 : tv_ok ta (0, -2147483648, 1000000, []) (n_v vs 1) := t1
  have k1 : (-2147483648) ≤ v_iv (n_v vs 1) ∧ v_iv (n_v vs 1) ≤ 1000000 := tv_rng t1
  obtain ⟨t2, hk⟩ := List.forall_mem_cons.mp hk
  have t2 : tv_ok ta (2, 0, 0, [8]) (n_v vs 2) := t2
  have r2 : ta (v_ad (n_v vs 2)) = some 8 := tv_rg t2
  obtain ⟨t3, hk⟩ := List.forall_mem_cons.mp hk
  have t3 : tv_ok ta (0, 1, 1999, []) (n_v vs 3) := t3
  have k3 : 1 ≤ v_iv (n_v vs 3) ∧ v_iv (n_v vs 3) ≤ 1999 := tv_rng t3
  obtain ⟨t4, hk⟩ := List.forall_mem_cons.mp hk
  have t4 : tv_ok ta (0, 1, 1999, []) (n_v vs 4) := t4
  have k4 : 1 ≤ v_iv (n_v vs 4) ∧ v_iv (n_v vs 4) ≤ 1999 := tv_rng t4
  obtain ⟨t5, hk⟩ := List.forall_mem_cons.mp hk
  have t5 : tv_ok ta (2, 0, 0, [109]) (n_v vs 5) := t5
  have r5 : ta (v_ad (n_v vs 5)) = some 109 := tv_rg t5
  obtain ⟨t6, hk⟩ := List.forall_mem_cons.mp hk
  have t6 : tv_ok ta (0, 123, 127, []) (n_v vs 6) := t6
  have k6 : 123 ≤ v_iv (n_v vs 6) ∧ v_iv (n_v vs 6) ≤ 127 := tv_rng t6
  obtain ⟨t9, hk⟩ := List.forall_mem_cons.mp hk
  have t9 : tv_ok ta (0, 1, 1, []) (n_v vs 9) := t9
  have k9 : 1 ≤ v_iv (n_v vs 9) ∧ v_iv (n_v vs 9) ≤ 1 := tv_rng t9
  obtain ⟨t10, hk⟩ := List.forall_mem_cons.mp hk
  have t10 : tv_ok ta (0, 2, 2000, []) (n_v vs 10) := t10
  have k10 : 2 ≤ v_iv (n_v vs 10) ∧ v_iv (n_v vs 10) ≤ 2000 := tv_rng t10
  have hds : ∀ q ∈ ([(10, 3, 1, 1), (10, 4, -4294967296, 0), (10, 4, 1, 4294967296), (3, 4, -4294967296, -1), (3, 4, 0, 4294967296), (1, 3, -4294967296, 1000000)] : List of_T), n_iv vs q.2.1 + q.2.2.1 ≤ n_iv vs q.1 ∧ n_iv vs q.1 ≤ n_iv vs q.2.1 + q.2.2.2 := hds
  obtain ⟨d0, hds⟩ := List.forall_mem_cons.mp hds
  have d0 : v_iv (n_v vs 3) + 1 ≤ v_iv (n_v vs 10) ∧ v_iv (n_v vs 10) ≤ v_iv (n_v vs 3) + 1 := d0
  obtain ⟨d1, hds⟩ := List.forall_mem_cons.mp hds
  have d1 : v_iv (n_v vs 4) + (-4294967296) ≤ v_iv (n_v vs 10) ∧ v_iv (n_v vs 10) ≤ v_iv (n_v vs 4) + 0 := d1
  obtain ⟨d2, hds⟩ := List.forall_mem_cons.mp hds
  have d2 : v_iv (n_v vs 4) + 1 ≤ v_iv (n_v vs 10) ∧ v_iv (n_v vs 10) ≤ v_iv (n_v vs 4) + 4294967296 := d2
  obtain ⟨d3, hds⟩ := List.forall_mem_cons.mp hds
  have d3 : v_iv (n_v vs 4) + (-4294967296) ≤ v_iv (n_v vs 3) ∧ v_iv (n_v vs 3) ≤ v_iv (n_v vs 4) + (-1) := d3
  obtain ⟨d4, hds⟩ := List.forall_mem_cons.mp hds
  have d4 : v_iv (n_v vs 4) + 0 ≤ v_iv (n_v vs 3) ∧ v_iv (n_v vs 3) ≤ v_iv (n_v vs 4) + 4294967296 := d4
  obtain ⟨d5, hds⟩ := List.forall_mem_cons.mp hds
  have d5 : v_iv (n_v vs 3) + (-4294967296) ≤ v_iv (n_v vs 1) ∧ v_iv (n_v vs 1) ≤ v_iv (n_v vs 3) + 1000000 := d5
  have hf : fc_ok [(20, [2, 1], [30, 0, 1, 1, 9, -1, 0, 0]), (20, [2, 1], [30, 0, -1, 1, 9, 1, 0, 0]), (24, [0, 2], []), (101, [2, 6], [7]), (20, [2, 1], [30, 0, 1, 1, 9, -1, 0, 0]), (20, [2, 1], [30, 0, -1, 1, 9, 1, 0, 0]), (101, [2, 10], [6]), (1, [10, 3, 9], []), (9, [3, 2], [6]), (10, [6, 5, 3], []), (9, [5, 2], [0]), (7, [3, 4], [2]), (9, [4, 2], [5]), (20, [2, 1], [30, 0, 1, 1, 9, -1, 0, 0]), (20, [2, 1], [30, 0, -1, 1, 9, 1, 0, 0]), (101, [2, 3], [8]), (7, [3, 4], [3]), (20, [2, 1], [30, 0, 1, 1, 9, -1, 0, 0]), (20, [2, 1], [30, 0, -1, 1, 9, 1, 0, 0])] ta ws vs := hf
  obtain ⟨f0, hf⟩ := fc_un (by decide) hf
  have f0 : 1 * w_fi ws (n_v vs 2) 9 + ((-1) * v_iv (n_v vs 1) + 0) ≤ 0 := f0
  obtain ⟨f1, hf⟩ := fc_un (by decide) hf
  have f1 : (-1) * w_fi ws (n_v vs 2) 9 + (1 * v_iv (n_v vs 1) + 0) ≤ 0 := f1
  obtain ⟨f2, hf⟩ := fc_un (by decide) hf
  have f2 : n_v vs 0 = n_v vs 2 := f2
  obtain ⟨ta1, w1, le1, ⟨_, s1⟩, hf⟩ := fc_us (by decide) hf
  have s1 : (∀ b j, w_el ws b j = w_el w1 b j) ∧ ∀ b j, w_fd ws b j = if b = v_ad (n_v vs 2) ∧ j = 7 then n_v vs 6 else w_fd w1 b j := s1
  obtain ⟨f4, hf⟩ := fc_un (by decide) hf
  have f4 : 1 * w_fi w1 (n_v vs 2) 9 + ((-1) * v_iv (n_v vs 1) + 0) ≤ 0 := f4
  obtain ⟨f5, hf⟩ := fc_un (by decide) hf
  have f5 : (-1) * w_fi w1 (n_v vs 2) 9 + (1 * v_iv (n_v vs 1) + 0) ≤ 0 := f5
  obtain ⟨ta2, w2, le2, ⟨_, s2⟩, hf⟩ := fc_us (by decide) hf
  have s2 : (∀ b j, w_el w1 b j = w_el w2 b j) ∧ ∀ b j, w_fd w1 b j = if b = v_ad (n_v vs 2) ∧ j = 6 then n_v vs 10 else w_fd w2 b j := s2
  obtain ⟨f7, hf⟩ := fc_un (by decide) hf
  have f7 : v_iv (n_v vs 10) = v_iv (n_v vs 3) + v_iv (n_v vs 9) := f7
  obtain ⟨f8, hf⟩ := fc_un (by decide) hf
  have f8 : n_v vs 3 = w_fd w2 (v_ad (n_v vs 2)) 6 := f8
  obtain ⟨f9, hf⟩ := fc_un (by decide) hf
  have f9 : v_iv (n_v vs 6) = w_el w2 (v_ad (n_v vs 5)) (v_iv (n_v vs 3)).toNat := f9
  obtain ⟨f10, hf⟩ := fc_un (by decide) hf
  have f10 : n_v vs 5 = w_fd w2 (v_ad (n_v vs 2)) 0 := f10
  obtain ⟨f11, hf⟩ := fc_un (by decide) hf
  have f11 : v_iv (n_v vs 3) < v_iv (n_v vs 4) := f11
  obtain ⟨f12, hf⟩ := fc_un (by decide) hf
  have f12 : n_v vs 4 = w_fd w2 (v_ad (n_v vs 2)) 5 := f12
  obtain ⟨f13, hf⟩ := fc_un (by decide) hf
  have f13 : 1 * w_fi w2 (n_v vs 2) 9 + ((-1) * v_iv (n_v vs 1) + 0) ≤ 0 := f13
  obtain ⟨f14, hf⟩ := fc_un (by decide) hf
  have f14 : (-1) * w_fi w2 (n_v vs 2) 9 + (1 * v_iv (n_v vs 1) + 0) ≤ 0 := f14
  obtain ⟨ta3, w3, le3, ⟨_, s3⟩, hf⟩ := fc_us (by decide) hf
  have s3 : (∀ b j, w_el w2 b j = w_el w3 b j) ∧ ∀ b j, w_fd w2 b j = if b = v_ad (n_v vs 2) ∧ j = 8 then n_v vs 3 else w_fd w3 b j := s3
  obtain ⟨f16, hf⟩ := fc_un (by decide) hf
  have f16 : v_iv (n_v vs 4) ≤ v_iv (n_v vs 3) := f16
  obtain ⟨f17, hf⟩ := fc_un (by decide) hf
  have f17 : 1 * w_fi w3 (n_v vs 2) 9 + ((-1) * v_iv (n_v vs 1) + 0) ≤ 0 := f17
  obtain ⟨f18, hf⟩ := fc_un (by decide) hf
  have f18 : (-1) * w_fi w3 (n_v vs 2) 9 + (1 * v_iv (n_v vs 1) + 0) ≤ 0 := f18
  have q2 : n_v vs 2 = n_v vs 0 := f2.symm
  rw [q2] at f0
  rw [q2] at f1
  rw [q2] at s1
  rw [q2] at f4
  rw [q2] at f5
  rw [q2] at s2
  rw [q2] at f8
  rw [q2] at f10
  rw [q2] at f12
  rw [q2] at f13
  rw [q2] at f14
  rw [q2] at s3
  rw [q2] at f17
  rw [q2] at f18
  have ar_0_0_1 : w_ar w1 (n_v vs 0) 0 = w_ar ws (n_v vs 0) 0 := by show v_ad (w_fd w1 _ _) = v_ad (w_fd ws _ _); rw [s1.2, if_neg (fun e => absurd e.2 (by decide))]
  have ar_0_0_2 : w_ar w2 (n_v vs 0) 0 = w_ar ws (n_v vs 0) 0 := by rw [← ar_0_0_1]; show v_ad (w_fd w2 _ _) = v_ad (w_fd w1 _ _); rw [s2.2, if_neg (fun e => absurd e.2 (by decide))]
  have ar_0_0_3 : w_ar w3 (n_v vs 0) 0 = w_ar ws (n_v vs 0) 0 := by rw [← ar_0_0_2]; show v_ad (w_fd w3 _ _) = v_ad (w_fd w2 _ _); rw [s3.2, if_neg (fun e => absurd e.2 (by decide))]
  have cr_0_0 : ta (w_ar ws (n_v vs 0) 0) = some 109 := tv_rg (th_fd hD hth r0 (g := GG_8) rfl (k := 0) (t := (2, 0, 0, [109])) rfl rfl)
  have ad_5 : v_ad (n_v vs 5) = w_ar ws (n_v vs 0) 0 := (congrArg v_ad f10).trans ar_0_0_2
  have g8 : v_iv (n_v vs 3) = w_fi w2 (n_v vs 0) 6 := congrArg v_iv f8
  rw [ad_5] at f9
  have g12 : v_iv (n_v vs 4) = w_fi w2 (n_v vs 0) 5 := congrArg v_iv f12
  have fe_0_5_1 : w_fi ws (n_v vs 0) 5 = w_fi w1 (n_v vs 0) 5 := by show v_iv (w_fd _ _ _) = v_iv (w_fd _ _ _); rw [s1.2, if_neg (fun e => absurd e.2 (by decide))]
  have fe_0_6_1 : w_fi ws (n_v vs 0) 6 = w_fi w1 (n_v vs 0) 6 := by show v_iv (w_fd _ _ _) = v_iv (w_fd _ _ _); rw [s1.2, if_neg (fun e => absurd e.2 (by decide))]
  have fe_0_7_1 : w_fi ws (n_v vs 0) 7 = v_iv (n_v vs 6) := by show v_iv (w_fd _ _ _) = _; rw [s1.2, if_pos ⟨rfl, rfl⟩]
  have fe_0_9_1 : w_fi ws (n_v vs 0) 9 = w_fi w1 (n_v vs 0) 9 := by show v_iv (w_fd _ _ _) = v_iv (w_fd _ _ _); rw [s1.2, if_neg (fun e => absurd e.2 (by decide))]
  have ee_0_0_3_1 : w_el ws (w_ar ws (n_v vs 0) 0) (v_iv (n_v vs 3)).toNat = w_el w1 (w_ar ws (n_v vs 0) 0) (v_iv (n_v vs 3)).toNat := s1.1 _ _
  have fe_0_5_2 : w_fi w1 (n_v vs 0) 5 = w_fi w2 (n_v vs 0) 5 := by show v_iv (w_fd _ _ _) = v_iv (w_fd _ _ _); rw [s2.2, if_neg (fun e => absurd e.2 (by decide))]
  have fe_0_6_2 : w_fi w1 (n_v vs 0) 6 = v_iv (n_v vs 10) := by show v_iv (w_fd _ _ _) = _; rw [s2.2, if_pos ⟨rfl, rfl⟩]
  have fe_0_7_2 : w_fi w1 (n_v vs 0) 7 = w_fi w2 (n_v vs 0) 7 := by show v_iv (w_fd _ _ _) = v_iv (w_fd _ _ _); rw [s2.2, if_neg (fun e => absurd e.2 (by decide))]
  have fe_0_9_2 : w_fi w1 (n_v vs 0) 9 = w_fi w2 (n_v vs 0) 9 := by show v_iv (w_fd _ _ _) = v_iv (w_fd _ _ _); rw [s2.2, if_neg (fun e => absurd e.2 (by decide))]
  have ee_0_0_3_2 : w_el w1 (w_ar ws (n_v vs 0) 0) (v_iv (n_v vs 3)).toNat = w_el w2 (w_ar ws (n_v vs 0) 0) (v_iv (n_v vs 3)).toNat := s2.1 _ _
  have fe_0_5_3 : w_fi w2 (n_v vs 0) 5 = w_fi w3 (n_v vs 0) 5 := by show v_iv (w_fd _ _ _) = v_iv (w_fd _ _ _); rw [s3.2, if_neg (fun e => absurd e.2 (by decide))]
  have fe_0_6_3 : w_fi w2 (n_v vs 0) 6 = w_fi w3 (n_v vs 0) 6 := by show v_iv (w_fd _ _ _) = v_iv (w_fd _ _ _); rw [s3.2, if_neg (fun e => absurd e.2 (by decide))]
  have fe_0_7_3 : w_fi w2 (n_v vs 0) 7 = w_fi w3 (n_v vs 0) 7 := by show v_iv (w_fd _ _ _) = v_iv (w_fd _ _ _); rw [s3.2, if_neg (fun e => absurd e.2 (by decide))]
  have fe_0_9_3 : w_fi w2 (n_v vs 0) 9 = w_fi w3 (n_v vs 0) 9 := by show v_iv (w_fd _ _ _) = v_iv (w_fd _ _ _); rw [s3.2, if_neg (fun e => absurd e.2 (by decide))]
  have ee_0_0_3_3 : w_el w2 (w_ar ws (n_v vs 0) 0) (v_iv (n_v vs 3)).toNat = w_el w3 (w_ar ws (n_v vs 0) 0) (v_iv (n_v vs 3)).toNat := s3.1 _ _
  have kz_0_5 : 0 ≤ w_fi ws (n_v vs 0) 5 ∧ w_fi ws (n_v vs 0) 5 ≤ 2000 := tv_rng (th_fd hD hth r0 (g := GG_8) rfl (k := 5) (t := (0, 0, 2000, [])) rfl rfl)
  have kz_0_6 : 0 ≤ w_fi ws (n_v vs 0) 6 ∧ w_fi ws (n_v vs 0) 6 ≤ 2000 := tv_rng (th_fd hD hth r0 (g := GG_8) rfl (k := 6) (t := (0, 0, 2000, [])) rfl rfl)
  have kz_0_7 : (-128) ≤ w_fi ws (n_v vs 0) 7 ∧ w_fi ws (n_v vs 0) 7 ≤ 127 := tv_rng (th_fd hD hth r0 (g := GG_8) rfl (k := 7) (t := (0, -128, 127, [])) rfl rfl)
  have kz_0_9 : (-2147483648) ≤ w_fi ws (n_v vs 0) 9 ∧ w_fi ws (n_v vs 0) 9 ≤ 1000000 := tv_rng (th_fd hD hth r0 (g := GG_8) rfl (k := 9) (t := (0, -2147483648, 1000000, [])) rfl rfl)
  have nf0 : fc_1 (20, [0, 0, 1], [31, 1, 3, 1, 1, 7, 0, 1, 1, 9, -1, 0, 0]) ws (vs) := by
    refine ⟨fun n hn => ?_, ?_⟩
    · have hn : n ∈ [0, 0, 1] := hn
      rw [hl]
      simp only [List.mem_cons, List.not_mem_nil, or_false] at hn
      show n < 12; omega
    · show (1 * w_fi ws (n_v vs 0) 7 + 0 ≤ 3) ∨ (1 * w_fi ws (n_v vs 0) 9 + ((-1) * v_iv (n_v vs 1) + 0) ≤ 0)
      omega
  have nf1 : fc_1 (20, [0, 0, 1], [31, 1, 3, 1, 1, 7, 0, -1, 1, 9, 1, 0, 0]) ws (vs) := by
    refine ⟨fun n hn => ?_, ?_⟩
    · have hn : n ∈ [0, 0, 1] := hn
      rw [hl]
      simp only [List.mem_cons, List.not_mem_nil, or_false] at hn
      show n < 12; omega
    · show (1 * w_fi ws (n_v vs 0) 7 + 0 ≤ 3) ∨ ((-1) * w_fi ws (n_v vs 0) 9 + (1 * v_iv (n_v vs 1) + 0) ≤ 0)
      omega
  refine ⟨(fun _ h => (by cases h)), [], trivial, ?_, (fun _ h => (by cases h))⟩
  rw [List.append_nil]
  exact List.forall_mem_cons.mpr ⟨⟨by decide, nf0⟩, List.forall_mem_cons.mpr ⟨⟨by decide, nf1⟩, (fun _ h => (by cases h))⟩⟩
def o_Re_advance_6 : or_T := (76, 6, [(0, (2, 0, 0, [8])), (1, (0, -2147483648, 1000000, [])), (2, (2, 0, 0, [8])), (5, (0, 0, 0, []))], [(20, [2, 1], [30, 0, 1, 1, 9, -1, 0, 0]), (20, [2, 1], [30, 0, -1, 1, 9, 1, 0, 0]), (24, [0, 2], []), (101, [2, 5], [7]), (20, [2, 1], [30, 0, 1, 1, 9, -1, 0, 0]), (20, [2, 1], [30, 0, -1, 1, 9, 1, 0, 0]), (101, [2, 3], [8]), (20, [2, 1], [30, 0, 1, 1, 9, -1, 0, 0]), (20, [2, 1], [30, 0, -1, 1, 9, 1, 0, 0])], [], [], [(20, [0, 0, 1], [31, 1, 3, 1, 1, 7, 0, 1, 1, 9, -1, 0, 0]), (20, [0, 0, 1], [31, 1, 3, 1, 1, 7, 0, -1, 1, 9, 1, 0, 0])], [], [])
theorem oo_Re_advance_6 {kA : Nat → ClassId} : or_ok kA GG o_Re_advance_6 := by
  intro A ta ws vs hD hth hl hk hds hf
  have hl : vs.length = 6 := hl
  have hk : ∀ q ∈ ([(0, (2, 0, 0, [8])), (1, (0, -2147483648, 1000000, [])), (2, (2, 0, 0, [8])), (5, (0, 0, 0, []))] : List (Nat × tv_T)), tv_ok ta q.2 (n_v vs q.1) := hk
  obtain ⟨t0, hk⟩ := List.forall_mem_cons.mp hk
  have t0 : tv_ok ta (2, 0, 0, [8]) (n_v vs 0) := t0
  have r0 : ta (v_ad (n_v vs 0)) = some 8 := tv_rg t0
  obtain ⟨t1, hk⟩ := List.forall_mem_cons.mp hk
  have t1 : tv_ok ta (0, -2147483648, 1000000, []) (n_v vs 1) := t1
  have k1 : (-2147483648) ≤ v_iv (n_v vs 1) ∧ v_iv (n_v vs 1) ≤ 1000000 := tv_rng t1
  obtain ⟨t2, hk⟩ := List.forall_mem_cons.mp hk
  have t2 : tv_ok ta (2, 0, 0, [8]) (n_v vs 2) := t2
  have r2 : ta (v_ad (n_v vs 2)) = some 8 := tv_rg t2
  obtain ⟨t5, hk⟩ := List.forall_mem_cons.mp hk
  have t5 : tv_ok ta (0, 0, 0, []) (n_v vs 5) := t5
  have k5 : 0 ≤ v_iv (n_v vs 5) ∧ v_iv (n_v vs 5) ≤ 0 := tv_rng t5
  have hf : fc_ok [(20, [2, 1], [30, 0, 1, 1, 9, -1, 0, 0]), (20, [2, 1], [30, 0, -1, 1, 9, 1, 0, 0]), (24, [0, 2], []), (101, [2, 5], [7]), (20, [2, 1], [30, 0, 1, 1, 9, -1, 0, 0]), (20, [2, 1], [30, 0, -1, 1, 9, 1, 0, 0]), (101, [2, 3], [8]), (20, [2, 1], [30, 0, 1, 1, 9, -1, 0, 0]), (20, [2, 1], [30, 0, -1, 1, 9, 1, 0, 0])] ta ws vs := hf
  obtain ⟨f0, hf⟩ := fc_un (by decide) hf
  have f0 : 1 * w_fi ws (n_v vs 2) 9 + ((-1) * v_iv (n_v vs 1) + 0) ≤ 0 := f0
  obtain ⟨f1, hf⟩ := fc_un (by decide) hf
  have f1 : (-1) * w_fi ws (n_v vs 2) 9 + (1 * v_iv (n_v vs 1) + 0) ≤ 0 := f1
  obtain ⟨f2, hf⟩ := fc_un (by decide) hf
  have f2 : n_v vs 0 = n_v vs 2 := f2
  obtain ⟨ta1, w1, le1, ⟨_, s1⟩, hf⟩ := fc_us (by decide) hf
  have s1 : (∀ b j, w_el ws b j = w_el w1 b j) ∧ ∀ b j, w_fd ws b j = if b = v_ad (n_v vs 2) ∧ j = 7 then n_v vs 5 else w_fd w1 b j := s1
  obtain ⟨f4, hf⟩ := fc_un (by decide) hf
  have f4 : 1 * w_fi w1 (n_v vs 2) 9 + ((-1) * v_iv (n_v vs 1) + 0) ≤ 0 := f4
  obtain ⟨f5, hf⟩ := fc_un (by decide) hf
  have f5 : (-1) * w_fi w1 (n_v vs 2) 9 + (1 * v_iv (n_v vs 1) + 0) ≤ 0 := f5
  obtain ⟨ta2, w2, le2, ⟨_, s2⟩, hf⟩ := fc_us (by decide) hf
  have s2 : (∀ b j, w_el w1 b j = w_el w2 b j) ∧ ∀ b j, w_fd w1 b j = if b = v_ad (n_v vs 2) ∧ j = 8 then n_v vs 3 else w_fd w2 b j := s2
  obtain ⟨f7, hf⟩ := fc_un (by decide) hf
  have f7 : 1 * w_fi w2 (n_v vs 2) 9 + ((-1) * v_iv (n_v vs 1) + 0) ≤ 0 := f7
  obtain ⟨f8, hf⟩ := fc_un (by decide) hf
  have f8 : (-1) * w_fi w2 (n_v vs 2) 9 + (1 * v_iv (n_v vs 1) + 0) ≤ 0 := f8
  have q2 : n_v vs 2 = n_v vs 0 := f2.symm
  rw [q2] at f0
  rw [q2] at f1
  rw [q2] at s1
  rw [q2] at f4
  rw [q2] at f5
  rw [q2] at s2
  rw [q2] at f7
  rw [q2] at f8
  have fe_0_7_1 : w_fi ws (n_v vs 0) 7 = v_iv (n_v vs 5) := by show v_iv (w_fd _ _ _) = _; rw [s1.2, if_pos ⟨rfl, rfl⟩]
  have fe_0_9_1 : w_fi ws (n_v vs 0) 9 = w_fi w1 (n_v vs 0) 9 := by show v_iv (w_fd _ _ _) = v_iv (w_fd _ _ _); rw [s1.2, if_neg (fun e => absurd e.2 (by decide))]
  have fe_0_7_2 : w_fi w1 (n_v vs 0) 7 = w_fi w2 (n_v vs 0) 7 := by show v_iv (w_fd _ _ _) = v_iv (w_fd _ _ _); rw [s2.2, if_neg (fun e => absurd e.2 (by decide))]
  have fe_0_9_2 : w_fi w1 (n_v vs 0) 9 = w_fi w2 (n_v vs 0) 9 := by show v_iv (w_fd _ _ _) = v_iv (w_fd _ _ _); rw [s2.2, if_neg (fun e => absurd e.2 (by decide))]
  have kz_0_7 : (-128) ≤ w_fi ws (n_v vs 0) 7 ∧ w_fi ws (n_v vs 0) 7 ≤ 127 := tv_rng (th_fd hD hth r0 (g := GG_8) rfl (k := 7) (t := (0, -128, 127, [])) rfl rfl)
  have kz_0_9 : (-2147483648) ≤ w_fi ws (n_v vs 0) 9 ∧ w_fi ws (n_v vs 0) 9 ≤ 1000000 := tv_rng (th_fd hD hth r0 (g := GG_8) rfl (k := 9) (t := (0, -2147483648, 1000000, [])) rfl rfl)
  have nf0 : fc_1 (20, [0, 0, 1], [31, 1, 3, 1, 1, 7, 0, 1, 1, 9, -1, 0, 0]) ws (vs) := by
    refine ⟨fun n hn => ?_, ?_⟩
    · have hn : n ∈ [0, 0, 1] := hn
      rw [hl]
      simp only [List.mem_cons, List.not_mem_nil, or_false] at hn
      show n < 6; omega
    · show (1 * w_fi ws (n_v vs 0) 7 + 0 ≤ 3) ∨ (1 * w_fi ws (n_v vs 0) 9 + ((-1) * v_iv (n_v vs 1) + 0) ≤ 0)
      omega
  have nf1 : fc_1 (20, [0, 0, 1], [31, 1, 3, 1, 1, 7, 0, -1, 1, 9, 1, 0, 0]) ws (vs) := by
    refine ⟨fun n hn => ?_, ?_⟩
    · have hn : n ∈ [0, 0, 1] := hn
      rw [hl]
      simp only [List.mem_cons, List.not_mem_nil, or_false] at hn
      show n < 6; omega
    · show (1 * w_fi ws (n_v vs 0) 7 + 0 ≤ 3) ∨ ((-1) * w_fi ws (n_v vs 0) 9 + (1 * v_iv (n_v vs 1) + 0) ≤ 0)
      omega
  refine ⟨(fun _ h => (by cases h)), [], trivial, ?_, (fun _ h => (by cases h))⟩
  rw [List.append_nil]
  exact List.forall_mem_cons.mpr ⟨⟨by decide, nf0⟩, List.forall_mem_cons.mpr ⟨⟨by decide, nf1⟩, (fun _ h => (by cases h))⟩⟩
def o_Re_advance_7 : or_T := (290, 17, [(0, (2, 0, 0, [8])), (1, (0, -2147483648, 1000000, [])), (2, (2, 0, 0, [8])), (16, (0, 1, 1, []))], [(20, [2, 1], [30, 0, 1, 1, 9, -1, 0, 0]), (20, [2, 1], [30, 0, -1, 1, 9, 1, 0, 0]), (24, [0, 2], []), (101, [2, 16], [7]), (20, [2, 1], [30, 0, 1, 1, 9, -1, 0, 0]), (20, [2, 1], [30, 0, -1, 1, 9, 1, 0, 0]), (101, [2, 14], [6]), (20, [2, 1], [30, 0, 1, 1, 9, -1, 0, 0]), (20, [2, 1], [30, 0, -1, 1, 9, 1, 0, 0]), (101, [2, 3], [8]), (20, [2, 1], [30, 0, 1, 1, 9, -1, 0, 0]), (20, [2, 1], [30, 0, -1, 1, 9, 1, 0, 0])], [], [], [(20, [0, 0, 1], [31, 1, 3, 1, 1, 7, 0, 1, 1, 9, -1, 0, 0]), (20, [0, 0, 1], [31, 1, 3, 1, 1, 7, 0, -1, 1, 9, 1, 0, 0])], [], [])
theorem oo_Re_advance_7 {kA : Nat → ClassId} : or_ok kA GG o_Re_advance_7 := by
  intro A ta ws vs hD hth hl hk hds hf
  have hl : vs.length = 17 := hl
  have hk : ∀ q ∈ ([(0, (2, 0, 0, [8])), (1, (0, -2147483648, 1000000, [])), (2, (2, 0, 0, [8])), (16, (0, 1, 1, []))] : List (Nat × tv_T)), tv_ok ta q.2 (n_v vs q.1) := hk
  obtain ⟨t0, hk⟩ := List.forall_mem_cons.mp hk
  have t0 : tv_ok ta (2, 0, 0, [8]) (n_v vs 0) := t0
  have r0 : ta (v_ad (n_v vs 0)) = some 8 := tv_rg t0
  obtain ⟨t1, hk⟩ := List.forall_mem_cons.mp hk
  have t1 : tv_ok ta (0, -2147483648, 1000000, []) (n_v vs 1) := t1
  have k1 : (-2147483648) ≤ v_iv (n_v vs 1) ∧ v_iv (n_v vs 1) ≤ 1000000 := tv_rng t1
  obtain ⟨t2, hk⟩ := List.forall_mem_cons.mp hk
  have t2 : tv_ok ta (2, 0, 0, [8]) (n_v vs 2) := t2
  have r2 : ta (v_ad (n_v vs 2)) = some 8 := tv_rg t2
  obtain ⟨t16, hk⟩ := List.forall_mem_cons.mp hk
  have t16 : tv_ok ta (0, 1, 1, []) (n_v vs 16) := t16
  have k16 : 1 ≤ v_iv (n_v vs 16) ∧ v_iv (n_v vs 16) ≤ 1 := tv_rng t16
  have hf : fc_ok [(20, [2, 1], [30, 0, 1, 1, 9, -1, 0, 0]), (20, [2, 1], [30, 0, -1, 1, 9, 1, 0, 0]), (24, [0, 2], []), (101, [2, 16], [7]), (20, [2, 1], [30, 0, 1, 1, 9, -1, 0, 0]), (20, [2, 1], [30, 0, -1, 1, 9, 1, 0, 0]), (101, [2, 14], [6]), (20, [2, 1], [30, 0, 1, 1, 9, -1, 0, 0]), (20, [2, 1], [30, 0, -1, 1, 9, 1, 0, 0]), (101, [2, 3], [8]), (20, [2, 1], [30, 0, 1, 1, 9, -1, 0, 0]), (20, [2, 1], [30, 0, -1, 1, 9, 1, 0, 0])] ta ws vs := hf
  obtain ⟨f0, hf⟩ := fc_un (by decide) hf
  have f0 : 1 * w_fi ws (n_v vs 2) 9 + ((-1) * v_iv (n_v vs 1) + 0) ≤ 0 := f0
  obtain ⟨f1, hf⟩ := fc_un (by decide) hf
  have f1 : (-1) * w_fi ws (n_v vs 2) 9 + (1 * v_iv (n_v vs 1) + 0) ≤ 0 := f1
  obtain ⟨f2, hf⟩ := fc_un (by decide) hf
  have f2 : n_v vs 0 = n_v vs 2 := f2
  obtain ⟨ta1, w1, le1, ⟨_, s1⟩, hf⟩ := fc_us (by decide) hf
  have s1 : (∀ b j, w_el ws b j = w_el w1 b j) ∧ ∀ b j, w_fd ws b j = if b = v_ad (n_v vs 2) ∧ j = 7 then n_v vs 16 else w_fd w1 b j := s1
  obtain ⟨f4, hf⟩ := fc_un (by decide) hf
  have f4 : 1 * w_fi w1 (n_v vs 2) 9 + ((-1) * v_iv (n_v vs 1) + 0) ≤ 0 := f4
  obtain ⟨f5, hf⟩ := fc_un (by decide) hf
  have f5 : (-1) * w_fi w1 (n_v vs 2) 9 + (1 * v_iv (n_v vs 1) + 0) ≤ 0 := f5
  obtain ⟨ta2, w2, le2, ⟨_, s2⟩, hf⟩ := fc_us (by decide) hf
  have s2 : (∀ b j, w_el w1 b j = w_el w2 b j) ∧ ∀ b j, w_fd w1 b j = if b = v_ad (n_v vs 2) ∧ j = 6 then n_v vs 14 else w_fd w2 b j := s2
  obtain ⟨f7, hf⟩ := fc_un (by decide) hf
  have f7 : 1 * w_fi w2 (n_v vs 2) 9 + ((-1) * v_iv (n_v vs 1) + 0) ≤ 0 := f7
  obtain ⟨f8, hf⟩ := fc_un (by decide) hf
  have f8 : (-1) * w_fi w2 (n_v vs 2) 9 + (1 * v_iv (n_v vs 1) + 0) ≤ 0 := f8
  obtain ⟨ta3, w3, le3, ⟨_, s3⟩, hf⟩ := fc_us (by decide) hf
  have s3 : (∀ b j, w_el w2 b j = w_el w3 b j) ∧ ∀ b j, w_fd w2 b j = if b = v_ad (n_v vs 2) ∧ j = 8 then n_v vs 3 else w_fd w3 b j := s3
  obtain ⟨f10, hf⟩ := fc_un (by decide) hf
  have f10 : 1 * w_fi w3 (n_v vs 2) 9 + ((-1) * v_iv (n_v vs 1) + 0) ≤ 0 := f10
  obtain ⟨f11, hf⟩ := fc_un (by decide) hf
  have f11 : (-1) * w_fi w3 (n_v vs 2) 9 + (1 * v_iv (n_v vs 1) + 0) ≤ 0 := f11
  have q2 : n_v vs 2 = n_v vs 0 := f2.symm
  rw [q2] at f0
  rw [q2] at f1
  rw [q2] at s1
  rw [q2] at f4
  rw [q2] at f5
  rw [q2] at s2
  rw [q2] at f7
  rw [q2] at f8
  rw [q2] at s3
  rw [q2] at f10
  rw [q2] at f11
  have fe_0_7_1 : w_fi ws (n_v vs 0) 7 = v_iv (n_v vs 16) := by show v_iv (w_fd _ _ _) = _; rw [s1.2, if_pos ⟨rfl, rfl⟩]
  have fe_0_9_1 : w_fi ws (n_v vs 0) 9 = w_fi w1 (n_v vs 0) 9 := by show v_iv (w_fd _ _ _) = v_iv (w_fd _ _ _); rw [s1.2, if_neg (fun e => absurd e.2 (by decide))]
  have fe_0_7_2 : w_fi w1 (n_v vs 0) 7 = w_fi w2 (n_v vs 0) 7 := by show v_iv (w_fd _ _ _) = v_iv (w_fd _ _ _); rw [s2.2, if_neg (fun e => absurd e.2 (by decide))]
  have fe_0_9_2 : w_fi w1 (n_v vs 0) 9 = w_fi w2 (n_v vs 0) 9 := by show v_iv (w_fd _ _ _) = v_iv (w_fd _ _ _); rw [s2.2, if_neg (fun e => absurd e.2 (by decide))]
  have fe_0_7_3 : w_fi w2 (n_v vs 0) 7 = w_fi w3 (n_v vs 0) 7 := by show v_iv (w_fd _ _ _) = v_iv (w_fd _ _ _); rw [s3.2, if_neg (fun e => absurd e.2 (by decide))]
  have fe_0_9_3 : w_fi w2 (n_v vs 0) 9 = w_fi w3 (n_v vs 0) 9 := by show v_iv (w_fd _ _ _) = v_iv (w_fd _ _ _); rw [s3.2, if_neg (fun e => absurd e.2 (by decide))]
  have kz_0_7 : (-128) ≤ w_fi ws (n_v vs 0) 7 ∧ w_fi ws (n_v vs 0) 7 ≤ 127 := tv_rng (th_fd hD hth r0 (g := GG_8) rfl (k := 7) (t := (0, -128, 127, [])) rfl rfl)
  have kz_0_9 : (-2147483648) ≤ w_fi ws (n_v vs 0) 9 ∧ w_fi ws (n_v vs 0) 9 ≤ 1000000 := tv_rng (th_fd hD hth r0 (g := GG_8) rfl (k := 9) (t := (0, -2147483648, 1000000, [])) rfl rfl)
  have nf0 : fc_1 (20, [0, 0, 1], [31, 1, 3, 1, 1, 7, 0, 1, 1, 9, -1, 0, 0]) ws (vs) := by
    refine ⟨fun n hn => ?_, ?_⟩
    · have hn : n ∈ [0, 0, 1] := hn
      rw [hl]
      simp only [List.mem_cons, List.not_mem_nil, or_false] at hn
      show n < 17; omega
    · show (1 * w_fi ws (n_v vs 0) 7 + 0 ≤ 3) ∨ (1 * w_fi ws (n_v vs 0) 9 + ((-1) * v_iv (n_v vs 1) + 0) ≤ 0)
      omega
  have nf1 : fc_1 (20, [0, 0, 1], [31, 1, 3, 1, 1, 7, 0, -1, 1, 9, 1, 0, 0]) ws (vs) := by
    refine ⟨fun n hn => ?_, ?_⟩
    · have hn : n ∈ [0, 0, 1] := hn
      rw [hl]
      simp only [List.mem_cons, List.not_mem_nil, or_false] at hn
      show n < 17; omega
    · show (1 * w_fi ws (n_v vs 0) 7 + 0 ≤ 3) ∨ ((-1) * w_fi ws (n_v vs 0) 9 + (1 * v_iv (n_v vs 1) + 0) ≤ 0)
      omega
  refine ⟨(fun _ h => (by cases h)), [], trivial, ?_, (fun _ h => (by cases h))⟩
  rw [List.append_nil]
  exact List.forall_mem_cons.mpr ⟨⟨by decide, nf0⟩, List.forall_mem_cons.mpr ⟨⟨by decide, nf1⟩, (fun _ h => (by cases h))⟩⟩
def o_Re_advance_8 : or_T := (290, 16, [(0, (2, 0, 0, [8])), (1, (0, -2147483648, 1000000, [])), (2, (2, 0, 0, [8])), (3, (0, 0, 1999, [])), (4, (0, 1, 2000, [])), (5, (2, 0, 0, [109])), (6, (0, -128, 127, [])), (7, (0, 32, 32, [])), (8, (0, -128, 127, [])), (9, (0, 10, 10, [])), (10, (0, -128, 47, [])), (13, (0, 1, 1, [])), (14, (0, 1, 2000, []))], [(20, [2, 1], [30, 0, 1, 1, 9, -1, 0, 0]), (20, [2, 1], [30, 0, -1, 1, 9, 1, 0, 0]), (24, [0, 2], []), (101, [2, 10], [7]), (20, [2, 1], [30, 0, 1, 1, 9, -1, 0, 0]), (20, [2, 1], [30, 0, -1, 1, 9, 1, 0, 0]), (101, [2, 14], [6]), (1, [14, 3, 13], []), (9, [3, 2], [6]), (10, [10, 5, 3], []), (9, [5, 2], [0]), (7, [3, 4], [2]), (9, [4, 2], [5]), (20, [2, 1], [30, 0, 1, 1, 9, -1, 0, 0]), (20, [2, 1], [30, 0, -1, 1, 9, 1, 0, 0]), (101, [2, 3], [8]), (7, [8, 9], [1]), (10, [8, 5, 3], []), (7, [6, 7], [1]), (10, [6, 5, 3], []), (7, [3, 4], [2]), (20, [2, 1], [30, 0, 1, 1, 9, -1, 0, 0]), (20, [2, 1], [30, 0, -1, 1, 9, 1, 0, 0])], [], [], [(20, [0, 0, 1], [31, 1, 3, 1, 1, 7, 0, 1, 1, 9, -1, 0, 0]), (20, [0, 0, 1], [31, 1, 3, 1, 1, 7, 0, -1, 1, 9, 1, 0, 0])], [], [(14, 3, 1, 1), (14, 4, -4294967296, 0), (3, 4, -4294967296, -1), (1, 3, -4294967296, 1000000)])
theorem oo_Re_advance_8 {kA : Nat → ClassId} : or_ok kA GG o_Re_advance_8 := by
  intro A ta ws vs hD hth hl hk hds hf
  have hl : vs.length = 16 := hl
  have hk : ∀ q ∈ ([(0, (2, 0, 0, [8])), (1, (0, -2147483648, 1000000, [])), (2, (2, 0, 0, [8])), (3, (0, 0, 1999, [])), (4, (0, 1, 2000, [])), (5, (2, 0, 0, [109])), (6, (0, -128, 127, [])), (7, (0, 32, 32, [])), (8, (0, -128, 127, [])), (9, (0, 10, 10, [])), (10, (0, -128, 47, [])), (13, (0, 1, 1, [])), (14, (0, 1, 2000, []))] : List (Nat × tv_T)), tv_ok ta q.2 (n_v vs q.1) := hk
  obtain ⟨t0, hk⟩ := List.forall_mem_cons.mp hk
  have t0 : tv_ok ta (2, 0, 0, [8]) (n_v vs 0) := t0
  have r0 : ta (v_ad (n_v vs 0)) = some 8 := tv_rg t0
  obtain ⟨t1, hk⟩ := List.forall_mem_cons.mp hk
  have t1 : tv_ok ta (0, -2147483648, 1000000, []) (n_v vs 1) := t1
  have k1 : (-2147483648) ≤ v_iv (n_v vs 1) ∧ v_iv (n_v vs 1) ≤ 1000000 := tv_rng t1
  obtain ⟨t2, hk⟩ := List.forall_mem_cons.mp hk
  have t2 : tv_ok ta (2, 0, 0, [8]) (n_v vs 2) := t2
  have r2 : ta (v_ad (n_v vs 2)) = some 8 := tv_rg t2
  obtain ⟨t3, hk⟩ := List.forall_mem_cons.mp hk
  have t3 : tv_ok ta (0, 0, 1999, []) (n_v vs 3) := t3
  have k3 : 0 ≤ v_iv (n_v vs 3) ∧ v_iv (n_v vs 3) ≤ 1999 := tv_rng t3
  obtain ⟨t4, hk⟩ := List.forall_mem_cons.mp hk
  have t4 : tv_ok ta (0, 1, 2000, []) (n_v vs 4) := t4
  have k4 : 1 ≤ v_iv (n_v vs 4) ∧ v_iv (n_v vs 4) ≤ 2000 := tv_rng t4
  obtain ⟨t5, hk⟩ := List.forall_mem_cons.mp hk
  have t5 : tv_ok ta (2, 0, 0, [109]) (n_v vs 5) := t5
  have r5 : ta (v_ad (n_v vs 5)) = some 109 := tv_rg t5
  obtain ⟨t6, hk⟩ := List.forall_mem_cons.mp hk
  have t6 : tv_ok ta (0, -128, 127, []) (n_v vs 6) := t6
  have k6 : (-128) ≤ v_iv (n_v vs 6) ∧ v_iv (n_v vs 6) ≤ 127 := tv_rng t6
  obtain ⟨t7, hk⟩ := List.forall_mem_cons.mp hk
  have t7 : tv_ok ta (0, 32, 32, []) (n_v vs 7) := t7
  have k7 : 32 ≤ v_iv (n_v vs 7) ∧ v_iv (n_v vs 7) ≤ 32 := tv_rng t7
  obtain ⟨t8, hk⟩ := List.forall_mem_cons.mp hk
  have t8 : tv_ok ta (0, -128, 127, []) (n_v vs 8) := t8
  have k8 : (-128) ≤ v_iv (n_v vs 8) ∧ v_iv (n_v vs 8) ≤ 127 := tv_rng t8
  obtain ⟨t9, hk⟩ := List.forall_mem_cons.mp hk
  have t9 : tv_ok ta (0, 10, 10, []) (n_v vs 9) := t9
  have k9 : 10 ≤ v_iv (n_v vs 9) ∧ v_iv (n_v vs 9) ≤ 10 := tv_rng t9
  obtain ⟨t10, hk⟩ := List.forall_mem_cons.mp hk
  have t10 : tv_ok ta (0, -128, 47, []) (n_v vs 10) := t10
  have k10 : (-128) ≤ v_iv (n_v vs 10) ∧ v_iv (n_v vs 10) ≤ 47 := tv_rng t10
  obtain ⟨t13, hk⟩ := List.forall_mem_cons.mp hk
  have t13 : tv_ok ta (0, 1, 1, []) (n_v vs 13) := t13
  have k13 : 1 ≤ v_iv (n_v vs 13) ∧ v_iv (n_v vs 13) ≤ 1 := tv_rng t13
  obtain ⟨t14, hk⟩ := List.forall_mem_cons.mp hk
  have t14 : tv_ok ta (0, 1, 2000, []) (n_v vs 14) := t14
  have k14 : 1 ≤ v_iv (n_v vs 14) ∧ v_iv (n_v vs 14) ≤ 2000 := tv_rng t14
  have hds : ∀ q ∈ ([(14, 3, 1, 1), (14, 4, -4294967296, 0), (3, 4, -4294967296, -1), (1, 3, -4294967296, 1000000)] : List of_T), n_iv vs q.2.1 + q.2.2.1 ≤ n_iv vs q.1 ∧ n_iv vs q.1 ≤ n_iv vs q.2.1 + q.2.2.2 := hds
  obtain ⟨d0, hds⟩ := List.forall_mem_cons.mp hds
  have d0 : v_iv (n_v vs 3) + 1 ≤ v_iv (n_v vs 14) ∧ v_iv (n_v vs 14) ≤ v_iv (n_v vs 3) + 1 := d0
  obtain ⟨d1, hds⟩ := List.forall_mem_cons.mp hds
  have d1 : v_iv (n_v vs 4) + (-4294967296) ≤ v_iv (n_v vs 14) ∧ v_iv (n_v vs 14) ≤ v_iv (n_v vs 4) + 0 := d1
  obtain ⟨d2, hds⟩ := List.forall_mem_cons.mp hds
  have d2 : v_iv (n_v vs 4) + (-4294967296) ≤ v_iv (n_v vs 3) ∧ v_iv (n_v vs 3) ≤ v_iv (n_v vs 4) + (-1) := d2
  obtain ⟨d3, hds⟩ := List.forall_mem_cons.mp hds
  have d3 : v_iv (n_v vs 3) + (-4294967296) ≤ v_iv (n_v vs 1) ∧ v_iv (n_v vs 1) ≤ v_iv (n_v vs 3) + 1000000 := d3
  have hf : fc_ok [(20, [2, 1], [30, 0, 1, 1, 9, -1, 0, 0]), (20, [2, 1], [30, 0, -1, 1, 9, 1, 0, 0]), (24, [0, 2], []), (101, [2, 10], [7]), (20, [2, 1], [30, 0, 1, 1, 9, -1, 0, 0]), (20, [2, 1], [30, 0, -1, 1, 9, 1, 0, 0]), (101, [2, 14], [6]), (1, [14, 3, 13], []), (9, [3, 2], [6]), (10, [10, 5, 3], []), (9, [5, 2], [0]), (7, [3, 4], [2]), (9, [4, 2], [5]), (20, [2, 1], [30, 0, 1, 1, 9, -1, 0, 0]), (20, [2, 1], [30, 0, -1, 1, 9, 1, 0, 0]), (101, [2, 3], [8]), (7, [8, 9], [1]), (10, [8, 5, 3], []), (7, [6, 7], [1]), (10, [6, 5, 3], []), (7, [3, 4], [2]), (20, [2, 1], [30, 0, 1, 1, 9, -1, 0, 0]), (20, [2, 1], [30, 0, -1, 1, 9, 1, 0, 0])] ta ws vs := hf
  obtain ⟨f0, hf⟩ := fc_un (by decide) hf
  have f0 : 1 * w_fi ws (n_v vs 2) 9 + ((-1) * v_iv (n_v vs 1) + 0) ≤ 0 := f0
  obtain ⟨f1, hf⟩ := fc_un (by decide) hf
  have f1 : (-1) * w_fi ws (n_v vs 2) 9 + (1 * v_iv (n_v vs 1) + 0) ≤ 0 := f1
  obtain ⟨f2, hf⟩ := fc_un (by decide) hf
  have f2 : n_v vs 0 = n_v vs 2 := f2
  obtain ⟨ta1, w1, le1, ⟨_, s1⟩, hf⟩ := fc_us (by decide) hf
  have s1 : (∀ b j, w_el ws b j = w_el w1 b j) ∧ ∀ b j, w_fd ws b j = if b = v_ad (n_v vs 2) ∧ j = 7 then n_v vs 10 else w_fd w1 b j := s1
  obtain ⟨f4, hf⟩ := fc_un (by decide) hf
  have f4 : 1 * w_fi w1 (n_v vs 2) 9 + ((-1) * v_iv (n_v vs 1) + 0) ≤ 0 := f4
  obtain ⟨f5, hf⟩ := fc_un (by decide) hf
  have f5 : (-1) * w_fi w1 (n_v vs 2) 9 + (1 * v_iv (n_v vs 1) + 0) ≤ 0 := f5
  obtain ⟨ta2, w2, le2, ⟨_, s2⟩, hf⟩ := fc_us (by decide) hf
  have s2 : (∀ b j, w_el w1 b j = w_el w2 b j) ∧ ∀ b j, w_fd w1 b j = if b = v_ad (n_v vs 2) ∧ j = 6 then n_v vs 14 else w_fd w2 b j := s2
  obtain ⟨f7, hf⟩ := fc_un (by decide) hf
  have f7 : v_iv (n_v vs 14) = v_iv (n_v vs 3) + v_iv (n_v vs 13) := f7
  obtain ⟨f8, hf⟩ := fc_un (by decide) hf
  have f8 : n_v vs 3 = w_fd w2 (v_ad (n_v vs 2)) 6 := f8
  obtain ⟨f9, hf⟩ := fc_un (by decide) hf
  have f9 : v_iv (n_v vs 10) = w_el w2 (v_ad (n_v vs 5)) (v_iv (n_v vs 3)).toNat := f9
  obtain ⟨f10, hf⟩ := fc_un (by decide) hf
  have f10 : n_v vs 5 = w_fd w2 (v_ad (n_v vs 2)) 0 := f10
  obtain ⟨f11, hf⟩ := fc_un (by decide) hf
  have f11 : v_iv (n_v vs 3) < v_iv (n_v vs 4) := f11
  obtain ⟨f12, hf⟩ := fc_un (by decide) hf
  have f12 : n_v vs 4 = w_fd w2 (v_ad (n_v vs 2)) 5 := f12
  obtain ⟨f13, hf⟩ := fc_un (by decide) hf
  have f13 : 1 * w_fi w2 (n_v vs 2) 9 + ((-1) * v_iv (n_v vs 1) + 0) ≤ 0 := f13
  obtain ⟨f14, hf⟩ := fc_un (by decide) hf
  have f14 : (-1) * w_fi w2 (n_v vs 2) 9 + (1 * v_iv (n_v vs 1) + 0) ≤ 0 := f14
  obtain ⟨ta3, w3, le3, ⟨_, s3⟩, hf⟩ := fc_us (by decide) hf
  have s3 : (∀ b j, w_el w2 b j = w_el w3 b j) ∧ ∀ b j, w_fd w2 b j = if b = v_ad (n_v vs 2) ∧ j = 8 then n_v vs 3 else w_fd w3 b j := s3
  obtain ⟨f16, hf⟩ := fc_un (by decide) hf
  have f16 : v_iv (n_v vs 8) ≠ v_iv (n_v vs 9) := f16
  obtain ⟨f17, hf⟩ := fc_un (by decide) hf
  have f17 : v_iv (n_v vs 8) = w_el w3 (v_ad (n_v vs 5)) (v_iv (n_v vs 3)).toNat := f17
  obtain ⟨f18, hf⟩ := fc_un (by decide) hf
  have f18 : v_iv (n_v vs 6) ≠ v_iv (n_v vs 7) := f18
  obtain ⟨f19, hf⟩ := fc_un (by decide) hf
  have f19 : v_iv (n_v vs 6) = w_el w3 (v_ad (n_v vs 5)) (v_iv (n_v vs 3)).toNat := f19
  obtain ⟨f20, hf⟩ := fc_un (by decide) hf
  have f20 : v_iv (n_v vs 3) < v_iv (n_v vs 4) := f20
  obtain ⟨f21, hf⟩ := fc_un (by decide) hf
  have f21 : 1 * w_fi w3 (n_v vs 2) 9 + ((-1) * v_iv (n_v vs 1) + 0) ≤ 0 := f21
  obtain ⟨f22, hf⟩ := fc_un (by decide) hf
  have f22 : (-1) * w_fi w3 (n_v vs 2) 9 + (1 * v_iv (n_v vs 1) + 0) ≤ 0 := f22
  have q2 : n_v vs 2 = n_v vs 0 := f2.symm
  rw [q2] at f0
  rw [q2] at f1
  rw [q2] at s1
  rw [q2] at f4
  rw [q2] at f5
  rw [q2] at s2
  rw [q2] at f8
  rw [q2] at f10
  rw [q2] at f12
  rw [q2] at f13
  rw [q2] at f14
  rw [q2] at s3
  rw [q2] at f21
  rw [q2] at f22
  have ar_0_0_1 : w_ar w1 (n_v vs 0) 0 = w_ar ws (n_v vs 0) 0 := by show v_ad (w_fd w1 _ _) = v_ad (w_fd ws _ _); rw [s1.2, if_neg (fun e => absurd e.2 (by decide))]
  have ar_0_0_2 : w_ar w2 (n_v vs 0) 0 = w_ar ws (n_v vs 0) 0 := by rw [← ar_0_0_1]; show v_ad (w_fd w2 _ _) = v_ad (w_fd w1 _ _); rw [s2.2, if_neg (fun e => absurd e.2 (by decide))]
  have ar_0_0_3 : w_ar w3 (n_v vs 0) 0 = w_ar ws (n_v vs 0) 0 := by rw [← ar_0_0_2]; show v_ad (w_fd w3 _ _) = v_ad (w_fd w2 _ _); rw [s3.2, if_neg (fun e => absurd e.2 (by decide))]
  have cr_0_0 : ta (w_ar ws (n_v vs 0) 0) = some 109 := tv_rg (th_fd hD hth r0 (g := GG_8) rfl (k := 0) (t := (2, 0, 0, [109])) rfl rfl)
  have ad_5 : v_ad (n_v vs 5) = w_ar ws (n_v vs 0) 0 := (congrArg v_ad f10).trans ar_0_0_2
  have g8 : v_iv (n_v vs 3) = w_fi w2 (n_v vs 0) 6 := congrArg v_iv f8
  rw [ad_5] at f9
  have g12 : v_iv (n_v vs 4) = w_fi w2 (n_v vs 0) 5 := congrArg v_iv f12
  rw [ad_5] at f17
  rw [ad_5] at f19
  have fe_0_5_1 : w_fi ws (n_v vs 0) 5 = w_fi w1 (n_v vs 0) 5 := by show v_iv (w_fd _ _ _) = v_iv (w_fd _ _ _); rw [s1.2, if_neg (fun e => absurd e.2 (by decide))]
  have fe_0_6_1 : w_fi ws (n_v vs 0) 6 = w_fi w1 (n_v vs 0) 6 := by show v_iv (w_fd _ _ _) = v_iv (w_fd _ _ _); rw [s1.2, if_neg (fun e => absurd e.2 (by decide))]
  have fe_0_7_1 : w_fi ws (n_v vs 0) 7 = v_iv (n_v vs 10) := by show v_iv (w_fd _ _ _) = _; rw [s1.2, if_pos ⟨rfl, rfl⟩]
  have fe_0_9_1 : w_fi ws (n_v vs 0) 9 = w_fi w1 (n_v vs 0) 9 := by show v_iv (w_fd _ _ _) = v_iv (w_fd _ _ _); rw [s1.2, if_neg (fun e => absurd e.2 (by decide))]
  have ee_0_0_3_1 : w_el ws (w_ar ws (n_v vs 0) 0) (v_iv (n_v vs 3)).toNat = w_el w1 (w_ar ws (n_v vs 0) 0) (v_iv (n_v vs 3)).toNat := s1.1 _ _
  have fe_0_5_2 : w_fi w1 (n_v vs 0) 5 = w_fi w2 (n_v vs 0) 5 := by show v_iv (w_fd _ _ _) = v_iv (w_fd _ _ _); rw [s2.2, if_neg (fun e => absurd e.2 (by decide))]
  have fe_0_6_2 : w_fi w1 (n_v vs 0) 6 = v_iv (n_v vs 14) := by show v_iv (w_fd _ _ _) = _; rw [s2.2, if_pos ⟨rfl, rfl⟩]
  have fe_0_7_2 : w_fi w1 (n_v vs 0) 7 = w_fi w2 (n_v vs 0) 7 := by show v_iv (w_fd _ _ _) = v_iv (w_fd _ _ _); rw [s2.2, if_neg (fun e => absurd e.2 (by decide))]
  have fe_0_9_2 : w_fi w1 (n_v vs 0) 9 = w_fi w2 (n_v vs 0) 9 := by show v_iv (w_fd _ _ _) = v_iv (w_fd _ _ _); rw [s2.2, if_neg (fun e => absurd e.2 (by decide))]
  have ee_0_0_3_2 : w_el w1 (w_ar ws (n_v vs 0) 0) (v_iv (n_v vs 3)).toNat = w_el w2 (w_ar ws (n_v vs 0) 0) (v_iv (n_v vs 3)).toNat := s2.1 _ _
  have fe_0_5_3 : w_fi w2 (n_v vs 0) 5 = w_fi w3 (n_v vs 0) 5 := by show v_iv (w_fd _ _ _) = v_iv (w_fd _ _ _); rw [s3.2, if_neg (fun e => absurd e.2 (by decide))]
  have fe_0_6_3 : w_fi w2 (n_v vs 0) 6 = w_fi w3 (n_v vs 0) 6 := by show v_iv (w_fd _ _ _) = v_iv (w_fd _ _ _); rw [s3.2, if_neg (fun e => absurd e.2 (by decide))]
  have fe_0_7_3 : w_fi w2 (n_v vs 0) 7 = w_fi w3 (n_v vs 0) 7 := by show v_iv (w_fd _ _ _) = v_iv (w_fd _ _ _); rw [s3.2, if_neg (fun e => absurd e.2 (by decide))]
  have fe_0_9_3 : w_fi w2 (n_v vs 0) 9 = w_fi w3 (n_v vs 0) 9 := by show v_iv (w_fd _ _ _) = v_iv (w_fd _ _ _); rw [s3.2, if_neg (fun e => absurd e.2 (by decide))]
  have ee_0_0_3_3 : w_el w2 (w_ar ws (n_v vs 0) 0) (v_iv (n_v vs 3)).toNat = w_el w3 (w_ar ws (n_v vs 0) 0) (v_iv (n_v vs 3)).toNat := s3.1 _ _
  have kz_0_5 : 0 ≤ w_fi ws (n_v vs 0) 5 ∧ w_fi ws (n_v vs 0) 5 ≤ 2000 := tv_rng (th_fd hD hth r0 (g := GG_8) rfl (k := 5) (t := (0, 0, 2000, [])) rfl rfl)
  have kz_0_6 : 0 ≤ w_fi ws (n_v vs 0) 6 ∧ w_fi ws (n_v vs 0) 6 ≤ 2000 := tv_rng (th_fd hD hth r0 (g := GG_8) rfl (k := 6) (t := (0, 0, 2000, [])) rfl rfl)
  have kz_0_7 : (-128) ≤ w_fi ws (n_v vs 0) 7 ∧ w_fi ws (n_v vs 0) 7 ≤ 127 := tv_rng (th_fd hD hth r0 (g := GG_8) rfl (k := 7) (t := (0, -128, 127, [])) rfl rfl)
  have kz_0_9 : (-2147483648) ≤ w_fi ws (n_v vs 0) 9 ∧ w_fi ws (n_v vs 0) 9 ≤ 1000000 := tv_rng (th_fd hD hth r0 (g := GG_8) rfl (k := 9) (t := (0, -2147483648, 1000000, [])) rfl rfl)
  have nf0 : fc_1 (20, [0, 0, 1], [31, 1, 3, 1, 1, 7, 0, 1, 1, 9, -1, 0, 0]) ws (vs) := by
    refine ⟨fun n hn => ?_, ?_⟩
    · have hn : n ∈ [0, 0, 1] := hn
      rw [hl]
      simp only [List.mem_cons, List.not_mem_nil, or_false] at hn
      show n < 16; omega
    · show (1 * w_fi ws (n_v vs 0) 7 + 0 ≤ 3) ∨ (1 * w_fi ws (n_v vs 0) 9 + ((-1) * v_iv (n_v vs 1) + 0) ≤ 0)
      omega
  have nf1 : fc_1 (20, [0, 0, 1], [31, 1, 3, 1, 1, 7, 0, -1, 1, 9, 1, 0, 0]) ws (vs) := by
    refine ⟨fun n hn => ?_, ?_⟩
    · have hn : n ∈ [0, 0, 1] := hn
      rw [hl]
      simp only [List.mem_cons, List.not_mem_nil, or_false] at hn
      show n < 16; omega
    · show (1 * w_fi ws (n_v vs 0) 7 + 0 ≤ 3) ∨ ((-1) * w_fi ws (n_v vs 0) 9 + (1 * v_iv (n_v vs 1) + 0) ≤ 0)
      omega
  refine ⟨(fun _ h => (by cases h)), [], trivial, ?_, (fun _ h => (by cases h))⟩
  rw [List.append_nil]
  exact List.forall_mem_cons.mpr ⟨⟨by decide, nf0⟩, List.forall_mem_cons.mpr ⟨⟨by decide, nf1⟩, (fun _ h => (by cases h))⟩⟩
def o_Re_advance_9 : or_T := (290, 16, [(0, (2, 0, 0, [8])), (1, (0, -2147483648, 1000000, [])), (2, (2, 0, 0, [8])), (3, (0, 0, 1999, [])), (4, (0, 1, 2000, [])), (5, (2, 0, 0, [109])), (6, (0, -128, 127, [])), (7, (0, 32, 32, [])), (8, (0, -128, 127, [])), (9, (0, 10, 10, [])), (10, (0, 58, 64, [])), (13, (0, 1, 1, [])), (14, (0, 1, 2000, []))], [(20, [2, 1], [30, 0, 1, 1, 9, -1, 0, 0]), (20, [2, 1], [30, 0, -1, 1, 9, 1, 0, 0]), (24, [0, 2], []), (101, [2, 10], [7]), (20, [2, 1], [30, 0, 1, 1, 9, -1, 0, 0]), (20, [2, 1], [30, 0, -1, 1, 9, 1, 0, 0]), (101, [2, 14], [6]), (1, [14, 3, 13], []), (9, [3, 2], [6]), (10, [10, 5, 3], []), (9, [5, 2], [0]), (7, [3, 4], [2]), (9, [4, 2], [5]), (20, [2, 1], [30, 0, 1, 1, 9, -1, 0, 0]), (20, [2, 1], [30, 0, -1, 1, 9, 1, 0, 0]), (101, [2, 3], [8]), (7, [8, 9], [1]), (10, [8, 5, 3], []), (7, [6, 7], [1]), (10, [6, 5, 3], []), (7, [3, 4], [2]), (20, [2, 1], [30, 0, 1, 1, 9, -1, 0, 0]), (20, [2, 1], [30, 0, -1, 1, 9, 1, 0, 0])], [], [], [(20, [0, 0, 1], [31, 1, 3, 1, 1, 7, 0, 1, 1, 9, -1, 0, 0]), (20, [0, 0, 1], [31, 1, 3, 1, 1, 7, 0, -1, 1, 9, 1, 0, 0])], [], [(14, 3, 1, 1), (14, 4, -4294967296, 0), (3, 4, -4294967296, -1), (1, 3, -4294967296, 1000000)])
theorem oo_Re_advance_9 {kA : Nat → ClassId} : or_ok kA GG o_Re_advance_9 := by
  intro A ta ws vs hD hth hl hk hds hf
  have hl : vs.length = 16 := hl
  have hk : ∀ q ∈ ([(0, (2, 0, 0, [8])), (1, (0, -2147483648, 1000000, [])), (2, (2, 0, 0, [8])), (3, (0, 0, 1999, [])), (4, (0, 1, 2000, [])), (5, (2, 0, 0, [109])), (6, (0, -128, 127, [])), (7, (0, 32, 32, [])), (8, (0, -128, 127, [])), (9, (0, 10, 10, [])), (10, (0, 58, 64, [])), (13, (0, 1, 1, [])), (14, (0, 1, 2000, []))] : List (Nat × tv_T)), tv_ok ta q.2 (n_v vs q.1) := hk
  obtain ⟨t0, hk⟩ := List.forall_mem_cons.mp hk
  have t0 : tv_ok ta (2, 0, 0, [8]) (n_v vs 0) := t0
  have r0 : ta (v_ad (n_v vs 0)) = some 8 := tv_rg t0
  obtain ⟨t1, hk⟩ := List.forall_mem_cons.mp hk
  have t1 : tv_ok ta (0, -2147483648, 1000000, []) (n_v vs 1) := t1
  have k1 : (-2147483648) ≤ v_iv (n_v vs 1) ∧ v_iv (n_v vs 1) ≤ 1000000 := tv_rng t1
  obtain ⟨t2, hk⟩ := List.forall_mem_cons.mp hk
  have t2 : tv_ok ta (2, 0, 0, [8]) (n_v vs 2) := t2
  have r2 : ta (v_ad (n_v vs 2)) = some 8 := tv_rg t2
  obtain ⟨t3, hk⟩ := List.forall_mem_cons.mp hk
  have t3 : tv_ok ta (0, 0, 1999, []) (n_v vs 3) := t3
  have k3 : 0 ≤ v_iv (n_v vs 3) ∧ v_iv (n_v vs 3) ≤ 1999 := tv_rng t3
  obtain ⟨t4, hk⟩ := List.forall_mem_cons.mp hk
  have t4 : tv_ok ta (0, 1, 2000, []) (n_v vs 4) := t4
  have k4 : 1 ≤ v_iv (n_v vs 4) ∧ v_iv (n_v vs 4) ≤ 2000 := tv_rng t4
  obtain ⟨t5, hk⟩ := List.forall_mem_cons.mp hk
  have t5 : tv_ok ta (2, 0, 0, [109]) (n_v vs 5) := t5
  have r5 : ta (v_ad (n_v vs 5)) = some 109 := tv_rg t5
  obtain ⟨t6, hk⟩ := List.forall_mem_cons.mp hk
  have t6 : tv_ok ta (0, -128, 127, []) (n_v vs 6) := t6
  have k6 : (-128) ≤ v_iv (n_v vs 6) ∧ v_iv (n_v vs 6) ≤ 127 := tv_rng t6
  obtain ⟨t7, hk⟩ := List.forall_mem_cons.mp hk
  have t7 : tv_ok ta (0, 32, 32, []) (n_v vs 7) := t7
  have k7 : 32 ≤ v_iv (n_v vs 7) ∧ v_iv (n_v vs 7) ≤ 32 := tv_rng t7
  obtain ⟨t8, hk⟩ := List.forall_mem_cons.mp hk
  have t8 : tv_ok ta (0, -128, 127, []) (n_v vs 8) := t8
  have k8 : (-128) ≤ v_iv (n_v vs 8) ∧ v_iv (n_v vs 8) ≤ 127 := tv_rng t8
  obtain ⟨t9, hk⟩ := List.forall_mem_cons.mp hk
  have t9 : tv_ok ta (0, 10, 10, []) (n_v vs 9) := t9
  have k9 : 10 ≤ v_iv (n_v vs 9) ∧ v_iv (n_v vs 9) ≤ 10 := tv_rng t9
  obtain ⟨t10, hk⟩ := List.forall_mem_cons.mp hk
  have t10 : tv_ok ta (0, 58, 64, []) (n_v vs 10) := t10
  have k10 : 58 ≤ v_iv (n_v vs 10) ∧ v_iv (n_v vs 10) ≤ 64 := tv_rng t10
  obtain ⟨t13, hk⟩ := List.forall_mem_cons.mp hk
  have t13 : tv_ok ta (0, 1, 1, []) (n_v vs 13) := t13
  have k13 : 1 ≤ v_iv (n_v vs 13) ∧ v_iv (n_v vs 13) ≤ 1 := tv_rng t13
  obtain ⟨t14, hk⟩ := List.forall_mem_cons.mp hk
  have t14 : tv_ok ta (0, 1, 2000, []) (n_v vs 14) := t14
  have k14 : 1 ≤ v_iv (n_v vs 14) ∧ v_iv (n_v vs 14) ≤ 2000 := tv_rng t14
  have hds : ∀ q ∈ ([(14, 3, 1, 1), (14, 4, -4294967296, 0), (3, 4, -4294967296, -1), (1, 3, -4294967296, 1000000)] : List of_T), n_iv vs q.2.1 + q.2.2.1 ≤ n_iv vs q.1 ∧ n_iv vs q.1 ≤ n_iv vs q.2.1 + q.2.2.2 := hds
  obtain ⟨d0, hds⟩ := List.forall_mem_cons.mp hds
  have d0 : v_iv (n_v vs 3) + 1 ≤ v_iv (n_v vs 14) ∧ v_iv (n_v vs 14) ≤ v_iv (n_v vs 3) + 1 := d0
  obtain ⟨d1, hds⟩ := List.forall_mem_cons.mp hds
  have d1 : v_iv (n_v vs 4) + (-4294967296) ≤ v_iv (n_v vs 14) ∧ v_iv (n_v vs 14) ≤ v_iv (n_v vs 4) + 0 := d1
  obtain ⟨d2, hds⟩ := List.forall_mem_cons.mp hds
  have d2 : v_iv (n_v vs 4) + (-4294967296) ≤ v_iv (n_v vs 3) ∧ v_iv (n_v vs 3) ≤ v_iv (n_v vs 4) + (-1) := d2
  obtain ⟨d3, hds⟩ := List.forall_mem_cons.mp hds
  have d3 : v_iv (n_v vs 3) + (-4294967296) ≤ v_iv (n_v vs 1) ∧ v_iv (n_v vs 1) ≤ v_iv (n_v vs 3) + 1000000 := d3
  have hf : fc_ok [(20, [2, 1], [30, 0, 1, 1, 9, -1, 0, 0]), (20, [2, 1], [30, 0, -1, 1, 9, 1, 0, 0]), (24, [0, 2], []), (101, [2, 10], [7]), (20, [2, 1], [30, 0, 1, 1, 9, -1, 0, 0]), (20, [2, 1], [30, 0, -1, 1, 9, 1, 0, 0]), (101, [2, 14], [6]), (1, [14, 3, 13], []), (9, [3, 2], [6]), (10, [10, 5, 3], []), (9, [5, 2], [0]), (7, [3, 4], [2]), (9, [4, 2], [5]), (20, [2, 1], [30, 0, 1, 1, 9, -1, 0, 0]), (20, [2, 1], [30, 0, -1, 1, 9, 1, 0, 0]), (101, [2, 3], [8]), (7, [8, 9], [1]), (10, [8, 5, 3], []), (7, [6, 7], [1]), (10, [6, 5, 3], []), (7, [3, 4], [2]), (20, [2, 1], [30, 0, 1, 1, 9, -1, 0, 0]), (20, [2, 1], [30, 0, -1, 1, 9, 1, 0, 0])] ta ws vs := hf
  obtain ⟨f0, hf⟩ := fc_un (by decide) hf
  have f0 : 1 * w_fi ws (n_v vs 2) 9 + ((-1) * v_iv (n_v vs 1) + 0) ≤ 0 := f0
  obtain ⟨f1, hf⟩ := fc_un (by decide) hf
  have f1 : (-1) * w_fi ws (n_v vs 2) 9 + (1 * v_iv (n_v vs 1) + 0) ≤ 0 := f1
  obtain ⟨f2, hf⟩ := fc_un (by decide) hf
  have f2 : n_v vs 0 = n_v vs 2 := f2
  obtain ⟨ta1, w1, le1, ⟨_, s1⟩, hf⟩ := fc_us (by decide) hf
  have s1 : (∀ b j, w_el ws b j = w_el w1 b j) ∧ ∀ b j, w_fd ws b j = if b = v_ad (n_v vs 2) ∧ j = 7 then n_v vs 10 else w_fd w1 b j := s1
  obtain ⟨f4, hf⟩ := fc_un (by decide) hf
  have f4 : 1 * w_fi w1 (n_v vs 2) 9 + ((-1) * v_iv (n_v vs 1) + 0) ≤ 0 := f4
  obtain ⟨f5, hf⟩ := fc_un (by decide) hf
  have f5 : (-1) * w_fi w1 (n_v vs 2) 9 + (1 * v_iv (n_v vs 1) + 0) ≤ 0 := f5
  obtain ⟨ta2, w2, le2, ⟨_, s2⟩, hf⟩ := fc_us (by decide) hf
  have s2 : (∀ b j, w_el w1 b j = w_el w2 b j) ∧ ∀ b j, w_fd w1 b j = if b = v_ad (n_v vs 2) ∧ j = 6 then n_v vs 14 else w_fd w2 b j := s2
  obtain ⟨f7, hf⟩ := fc_un (by decide) hf
  have f7 : v_iv (n_v vs 14) = v_iv (n_v vs 3) + v_iv (n_v vs 13) := f7
  obtain ⟨f8, hf⟩ := fc_un (by decide) hf
  have f8 : n_v vs 3 = w_fd w2 (v_ad (n_v vs 2)) 6 := f8
  obtain ⟨f9, hf⟩ := fc_un (by decide) hf
  have f9 : v_iv (n_v vs 10) = w_el w2 (v_ad (n_v vs 5)) (v_iv (n_v vs 3)).toNat := f9
  obtain ⟨f10, hf⟩ := fc_un (by decide) hf
  have f10 : n_v vs 5 = w_fd w2 (v_ad (n_v vs 2)) 0 := f10
  obtain ⟨f11, hf⟩ := fc_un (by decide) hf
  have f11 : v_iv (n_v vs 3) < v_iv (n_v vs 4) := f11
  obtain ⟨f12, hf⟩ := fc_un (by decide) hf
  have f12 : n_v vs 4 = w_fd w2 (v_ad (n_v vs 2)) 5 := f12
  obtain ⟨f13, hf⟩ := fc_un (by decide) hf
  have f13 : 1 * w_fi w2 (n_v vs 2) 9 + ((-1) * v_iv (n_v vs 1) + 0) ≤ 0 := f13
  obtain ⟨f14, hf⟩ := fc_un (by decide) hf
  have f14 : (-1) * w_fi w2 (n_v vs 2) 9 + (1 * v_iv (n_v vs 1) + 0) ≤ 0 := f14
  obtain ⟨ta3, w3, le3, ⟨_, s3⟩, hf⟩ := fc_us (by decide) hf
  have s3 : (∀ b j, w_el w2 b j = w_el w3 b j) ∧ ∀ b j, w_fd w2 b j = if b = v_ad (n_v vs 2) ∧ j = 8 then n_v vs 3 else w_fd w3 b j := s3
  obtain ⟨f16, hf⟩ := fc_un (by decide) hf
  have f16 : v_iv (n_v vs 8) ≠ v_iv (n_v vs 9) := f16
  obtain ⟨f17, hf⟩ := fc_un (by decide) hf
  have f17 : v_iv (n_v vs 8) = w_el w3 (v_ad (n_v vs 5)) (v_iv (n_v vs 3)).toNat := f17
  obtain ⟨f18, hf⟩ := fc_un (by decide) hf
  have f18 : v_iv (n_v vs 6) ≠ v_iv (n_v vs 7) := f18
  obtain ⟨f19, hf⟩ := fc_un (by decide) hf
  have f19 : v_iv (n_v vs 6) = w_el w3 (v_ad (n_v vs 5)) (v_iv (n_v vs 3)).toNat := f19
  obtain ⟨f20, hf⟩ := fc_un (by decide) hf
  have f20 : v_iv (n_v vs 3) < v_iv (n_v vs 4) := f20
  obtain ⟨f21, hf⟩ := fc_un (by decide) hf
  have f21 : 1 * w_fi w3 (n_v vs 2) 9 + ((-1) * v_iv (n_v vs 1) + 0) ≤ 0 := f21
  obtain ⟨f22, hf⟩ := fc_un (by decide) hf
  have f22 : (-1) * w_fi w3 (n_v vs 2) 9 + (1 * v_iv (n_v vs 1) + 0) ≤ 0 := f22
  have q2 : n_v vs 2 = n_v vs 0 := f2.symm
  rw [q2] at f0
  rw [q2] at f1
  rw [q2] at s1
  rw [q2] at f4
  rw [q2] at f5
  rw [q2] at s2
  rw [q2] at f8
  rw [q2] at f10
  rw [q2] at f12
  rw [q2] at f13
  rw [q2] at f14
  rw [q2] at s3
  rw [q2] at f21
  rw [q2] at f22
  have ar_0_0_1 : w_ar w1 (n_v vs 0) 0 = w_ar ws (n_v vs 0) 0 := by show v_ad (w_fd w1 _ _) = v_ad (w_fd ws _ _); rw [s1.2, if_neg (fun e => absurd e.2 (by decide))]
  have ar_0_0_2 : w_ar w2 (n_v vs 0) 0 = w_ar ws (n_v vs 0) 0 := by rw [← ar_0_0_1]; show v_ad (w_fd w2 _ _) = v_ad (w_fd w1 _ _); rw [s2.2, if_neg (fun e => absurd e.2 (by decide))]
  have ar_0_0_3 : w_ar w3 (n_v vs 0) 0 = w_ar ws (n_v vs 0) 0 := by rw [← ar_0_0_2]; show v_ad (w_fd w3 _ _) = v_ad (w_fd w2 _ _); rw [s3.2, if_neg (fun e => absurd e.2 (by decide))]
  have cr_0_0 : ta (w_ar ws (n_v vs 0) 0) = some 109 := tv_rg (th_fd hD hth r0 (g := GG_8) rfl (k := 0) (t := (2, 0, 0, [109])) rfl rfl)
  have ad_5 : v_ad (n_v vs 5) = w_ar ws (n_v vs 0) 0 := (congrArg v_ad f10).trans ar_0_0_2
  have g8 : v_iv (n_v vs 3) = w_fi w2 (n_v vs 0) 6 := congrArg v_iv f8
  rw [ad_5] at f9
  have g12 : v_iv (n_v vs 4) = w_fi w2 (n_v vs 0) 5 := congrArg v_iv f12
  rw [ad_5] at f17
  rw [ad_5] at f19
  have fe_0_5_1 : w_fi ws (n_v vs 0) 5 = w_fi w1 (n_v vs 0) 5 := by show v_iv (w_fd _ _ _) = v_iv (w_fd _ _ _); rw [s1.2, if_neg (fun e => absurd e.2 (by decide))]
  have fe_0_6_1 : w_fi ws (n_v vs 0) 6 = w_fi w1 (n_v vs 0) 6 := by show v_iv (w_fd _ _ _) = v_iv (w_fd _ _ _); rw [s1.2, if_neg (fun e => absurd e.2 (by decide))]
  have fe_0_7_1 : w_fi ws (n_v vs 0) 7 = v_iv (n_v vs 10) := by show v_iv (w_fd _ _ _) = _; rw [s1.2, if_pos ⟨rfl, rfl⟩]
  have fe_0_9_1 : w_fi ws (n_v vs 0) 9 = w_fi w1 (n_v vs 0) 9 := by show v_iv (w_fd _ _ _) = v_iv (w_fd _ _ _); rw [s1.2, if_neg (fun e => absurd e.2 (by decide))]
  have ee_0_0_3_1 : w_el ws (w_ar ws (n_v vs 0) 0) (v_iv (n_v vs 3)).toNat = w_el w1 (w_ar ws (n_v vs 0) 0) (v_iv (n_v vs 3)).toNat := s1.1 _ _
  have fe_0_5_2 : w_fi w1 (n_v vs 0) 5 = w_fi w2 (n_v vs 0) 5 := by show v_iv (w_fd _ _ _) = v_iv (w_fd _ _ _); rw [s2.2, if_neg (fun e => absurd e.2 (by decide))]
  have fe_0_6_2 : w_fi w1 (n_v vs 0) 6 = v_iv (n_v vs 14) := by show v_iv (w_fd _ _ _) = _; rw [s2.2, if_pos ⟨rfl, rfl⟩]
  have fe_0_7_2 : w_fi w1 (n_v vs 0) 7 = w_fi w2 (n_v vs 0) 7 := by show v_iv (w_fd _ _ _) = v_iv (w_fd _ _ _); rw [s2.2, if_neg (fun e => absurd e.2 (by decide))]
  have fe_0_9_2 : w_fi w1 (n_v vs 0) 9 = w_fi w2 (n_v vs 0) 9 := by show v_iv (w_fd _ _ _) = v_iv (w_fd _ _ _); rw [s2.2, if_neg (fun e => absurd e.2 (by decide))]
  have ee_0_0_3_2 : w_el w1 (w_ar ws (n_v vs 0) 0) (v_iv (n_v vs 3)).toNat = w_el w2 (w_ar ws (n_v vs 0) 0) (v_iv (n_v vs 3)).toNat := s2.1 _ _
  have fe_0_5_3 : w_fi w2 (n_v vs 0) 5 = w_fi w3 (n_v vs 0) 5 := by show v_iv (w_fd _ _ _) = v_iv (w_fd _ _ _); rw [s3.2, if_neg (fun e => absurd e.2 (by decide))]
  have fe_0_6_3 : w_fi w2 (n_v vs 0) 6 = w_fi w3 (n_v vs 0) 6 := by show v_iv (w_fd _ _ _) = v_iv (w_fd _ _ _); rw [s3.2, if_neg (fun e => absurd e.2 (by decide))]
  have fe_0_7_3 : w_fi w2 (n_v vs 0) 7 = w_fi w3 (n_v vs 0) 7 := by show v_iv (w_fd _ _ _) = v_iv (w_fd _ _ _); rw [s3.2, if_neg (fun e => absurd e.2 (by decide))]
  have fe_0_9_3 : w_fi w2 (n_v vs 0) 9 = w_fi w3 (n_v vs 0) 9 := by show v_iv (w_fd _ _ _) = v_iv (w_fd _ _ _); rw [s3.2, if_neg (fun e => absurd e.2 (by decide))]
  have ee_0_0_3_3 : w_el w2 (w_ar ws (n_v vs 0) 0) (v_iv (n_v vs 3)).toNat = w_el w3 (w_ar ws (n_v vs 0) 0) (v_iv (n_v vs 3)).toNat := s3.1 _ _
  have kz_0_5 : 0 ≤ w_fi ws (n_v vs 0) 5 ∧ w_fi ws (n_v vs 0) 5 ≤ 2000 := tv_rng (th_fd hD hth r0 (g := GG_8) rfl (k := 5) (t := (0, 0, 2000, [])) rfl rfl)
  have kz_0_6 : 0 ≤ w_fi ws (n_v vs 0) 6 ∧ w_fi ws (n_v vs 0) 6 ≤ 2000 := tv_rng (th_fd hD hth r0 (g := GG_8) rfl (k := 6) (t := (0, 0, 2000, [])) rfl rfl)
  have kz_0_7 : (-128) ≤ w_fi ws (n_v vs 0) 7 ∧ w_fi ws (n_v vs 0) 7 ≤ 127 := tv_rng (th_fd hD hth r0 (g := GG_8) rfl (k := 7) (t := (0, -128, 127, [])) rfl rfl)
  have kz_0_9 : (-2147483648) ≤ w_fi ws (n_v vs 0) 9 ∧ w_fi ws (n_v vs 0) 9 ≤ 1000000 := tv_rng (th_fd hD hth r0 (g := GG_8) rfl (k := 9) (t := (0, -2147483648, 1000000, [])) rfl rfl)
  have nf0 : fc_1 (20, [0, 0, 1], [31, 1, 3, 1, 1, 7, 0, 1, 1, 9, -1, 0, 0]) ws (vs) := by
    refine ⟨fun n hn => ?_, ?_⟩
    · have hn : n ∈ [0, 0, 1] := hn
      rw [hl]
      simp only [List.mem_cons, List.not_mem_nil, or_false] at hn
      show n < 16; omega
    · show (1 * w_fi ws (n_v vs 0) 7 + 0 ≤ 3) ∨ (1 * w_fi ws (n_v vs 0) 9 + ((-1) * v_iv (n_v vs 1) + 0) ≤ 0)
      omega
  have nf1 : fc_1 (20, [0, 0, 1], [31, 1, 3, 1, 1, 7, 0, -1, 1, 9, 1, 0, 0]) ws (vs) := by
    refine ⟨fun n hn => ?_, ?_⟩
    · have hn : n ∈ [0, 0, 1] := hn
      rw [hl]
      simp only [List.mem_cons, List.not_mem_nil, or_false] at hn
      show n < 16; omega
    · show (1 * w_fi ws (n_v vs 0) 7 + 0 ≤ 3) ∨ ((-1) * w_fi ws (n_v vs 0) 9 + (1 * v_iv (n_v vs 1) + 0) ≤ 0)
      omega
  refine ⟨(fun _ h => (by cases h)), [], trivial, ?_, (fun _ h => (by cases h))⟩
  rw [List.append_nil]
  exact List.forall_mem_cons.mpr ⟨⟨by decide, nf0⟩, List.forall_mem_cons.mpr ⟨⟨by decide, nf1⟩, (fun _ h => (by cases h))⟩⟩
def o_Re_advance_10 : or_T := (290, 16, [(0, (2, 0, 0, [8])), (1, (0, -2147483648, 1000000, [])), (2, (2, 0, 0, [8])), (3, (0, 0, 1999, [])), (4, (0, 1, 2000, [])), (5, (2, 0, 0, [109])), (6, (0, -128, 127, [])), (7, (0, 32, 32, [])), (8, (0, -128, 127, [])), (9, (0, 10, 10, [])), (10, (0, 91, 96, [])), (13, (0, 1, 1, [])), (14, (0, 1, 2000, []))], [(20, [2, 1], [30, 0, 1, 1, 9, -1, 0, 0]), (20, [2, 1], [30, 0, -1, 1, 9, 1, 0, 0]), (24, [0, 2], []), (101, [2, 10], [7]), (20, [2, 1], [30, 0, 1, 1, 9, -1, 0, 0]), (20, [2, 1], [30, 0, -1, 1, 9, 1, 0, 0]), (101, [2, 14], [6]), (1, [14, 3, 13], []), (9, [3, 2], [6]), (10, [10, 5, 3], []), (9, [5, 2], [0]), (7, [3, 4], [2]), (9, [4, 2], [5]), (20, [2, 1], [30, 0, 1, 1, 9, -1, 0, 0]), (20, [2, 1], [30, 0, -1, 1, 9, 1, 0, 0]), (101, [2, 3], [8]), (7, [8, 9], [1]), (10, [8, 5, 3], []), (7, [6, 7], [1]), (10, [6, 5, 3], []), (7, [3, 4], [2]), (20, [2, 1], [30, 0, 1, 1, 9, -1, 0, 0]), (20, [2, 1], [30, 0, -1, 1, 9, 1, 0, 0])], [], [], [(20, [0, 0, 1], [31, 1, 3, 1, 1, 7, 0, 1, 1, 9, -1, 0, 0]), (20, [0, 0, 1], [31, 1, 3, 1, 1, 7, 0, -1, 1, 9, 1, 0, 0])], [], [(14, 3, 1, 1), (14, 4, -4294967296, 0), (3, 4, -4294967296, -1), (1, 3, -4294967296, 1000000)])
theorem oo_Re_advance_10 {kA : Nat → ClassId} : or_ok kA GG o_Re_advance_10 := by
  intro A ta ws vs hD hth hl hk hds hf
  have hl : vs.length = 16 := hl
  have hk : ∀ q ∈ ([(0, (2, 0, 0, [8])), (1, (0, -2147483648, 1000000, [])), (2, (2, 0, 0, [8])), (3, (0, 0, 1999, [])), (4, (0, 1, 2000, [])), (5, (2, 0, 0, [109])), (6, (0, -128, 127, [])), (7, (0, 32, 32, [])), (8, (0, -128, 127, [])), (9, (0, 10, 10, [])), (10, (0, 91, 96, [])), (13, (0, 1, 1, [])), (14, (0, 1, 2000, []))] : List (Nat × tv_T)), tv_ok ta q.2 (n_v vs q.1) := hk
  obtain ⟨t0, hk⟩ := List.forall_mem_cons.mp hk
  have t0 : tv_ok ta (2, 0, 0, [8]) (n_v vs 0) := t0
  have r0 : ta (v_ad (n_v vs 0)) = some 8 := tv_rg t0
  obtain ⟨t1, hk⟩ := List.forall_mem_cons.mp hk
  have t1 : tv_ok ta (0, -2147483648, 1000000, []) (n_v vs 1) := t1
  have k1 : (-2147483648) ≤ v_iv (n_v vs 1) ∧ v_iv (n_v vs 1) ≤ 1000000 := tv_rng t1
  obtain ⟨t2, hk⟩ := List.forall_mem_cons.mp hk
  have t2 : tv_ok ta (2, 0, 0, [8]) (n_v vs 2) := t2
  have r2 : ta (v_ad (n_v vs 2)) = some 8 := tv_rg t2
  obtain ⟨t3, hk⟩ := List.forall_mem_cons.mp hk
  have t3 : tv_ok ta (0, 0, 1999, []) (n_v vs 3) := t3
  have k3 : 0 ≤ v_iv (n_v vs 3) ∧ v_iv (n_v vs 3) ≤ 1999 := tv_rng t3
  obtain ⟨t4, hk⟩ := List.forall_mem_cons.mp hk
  have t4 : tv_ok ta (0, 1, 2000, []) (n_v vs 4) := t4
  have k4 : 1 ≤ v_iv (n_v vs 4) ∧ v_iv (n_v vs 4) ≤ 2000 := tv_rng t4
  obtain ⟨t5, hk⟩ := List.forall_mem_cons.mp hk
  have t5 : tv_ok ta (2, 0, 0, [109]) (n_v vs 5) := t5
  have r5 : ta (v_ad (n_v vs 5)) = some 109 := tv_rg t5
  obtain ⟨t6, hk⟩ := List.forall_mem_cons.mp hk
  have t6 : tv_ok ta (0, -128, 127, []) (n_v vs 6) := t6
  have k6 : (-128) ≤ v_iv (n_v vs 6) ∧ v_iv (n_v vs 6) ≤ 127 := tv_rng t6
  obtain ⟨t7, hk⟩ := List.forall_mem_cons.mp hk
  have t7 : tv_ok ta (0, 32, 32, []) (n_v vs 7) := t7
  have k7 : 32 ≤ v_iv (n_v vs 7) ∧ v_iv (n_v vs 7) ≤ 32 := tv_rng t7
  obtain ⟨t8, hk⟩ := List.forall_mem_cons.mp hk
  have t8 : tv_ok ta (0, -128, 127, []) (n_v vs 8) := t8
  have k8 : (-128) ≤ v_iv (n_v vs 8) ∧ v_iv (n_v vs 8) ≤ 127 := tv_rng t8
  obtain ⟨t9, hk⟩ := List.forall_mem_cons.mp hk
  have t9 : tv_ok ta (0, 10, 10, []) (n_v vs 9) := t9
  have k9 : 10 ≤ v_iv (n_v vs 9) ∧ v_iv (n_v vs 9) ≤ 10 := tv_rng t9
  obtain ⟨t10, hk⟩ := List.forall_mem_cons.mp hk
  have t10 : tv_ok ta (0, 91, 96, []) (n_v vs 10) := t10
  have k10 : 91 ≤ v_iv (n_v vs 10) ∧ v_iv (n_v vs 10) ≤ 96 := tv_rng t10
  obtain ⟨t13, hk⟩ := List.forall_mem_cons.mp hk
  have t13 : tv_ok ta (0, 1, 1, []) (n_v vs 13) := t13
  have k13 : 1 ≤ v_iv (n_v vs 13) ∧ v_iv (n_v vs 13) ≤ 1 := tv_rng t13
  obtain ⟨t14, hk⟩ := List.forall_mem_cons.mp hk
  have t14 : tv_ok ta (0, 1, 2000, []) (n_v vs 14) := t14
  have k14 : 1 ≤ v_iv (n_v vs 14) ∧ v_iv (n_v vs 14) ≤ 2000 := tv_rng t14
  have hds : ∀ q ∈ ([(14, 3, 1, 1), (14, 4, -4294967296, 0), (3, 4, -4294967296, -1), (1, 3, -4294967296, 1000000)] : List of_T), n_iv vs q.2.1 + q.2.2.1 ≤ n_iv vs q.1 ∧ n_iv vs q.1 ≤ n_iv vs q.2.1 + q.2.2.2 := hds
  obtain ⟨d0, hds⟩ := List.forall_mem_cons.mp hds
  have d0 : v_iv (n_v vs 3) + 1 ≤ v_iv (n_v vs 14) ∧ v_iv (n_v vs 14) ≤ v_iv (n_v vs 3) + 1 := d0
  obtain ⟨d1, hds⟩ := List.forall_mem_cons.mp hds
  have d1 : v_iv (n_v vs 4) + (-4294967296) ≤ v_iv (n_v vs 14) ∧ v_iv (n_v vs 14) ≤ v_iv (n_v vs 4) + 0 := d1
  obtain ⟨d2, hds⟩ := List.forall_mem_cons.mp hds
  have d2 : v_iv (n_v vs 4) + (-4294967296) ≤ v_iv (n_v vs 3) ∧ v_iv (n_v vs 3) ≤ v_iv (n_v vs 4) + (-1) := d2
  obtain ⟨d3, hds⟩ := List.forall_mem_cons.mp hds
  have d3 : v_iv (n_v vs 3) + (-4294967296) ≤ v_iv (n_v vs 1) ∧ v_iv (n_v vs 1) ≤ v_iv (n_v vs 3) + 1000000 := d3
  have hf : fc_ok [(20, [2, 1], [30, 0, 1, 1, 9, -1, 0, 0]), (20, [2, 1], [30, 0, -1, 1, 9, 1, 0, 0]), (24, [0, 2], []), (101, [2, 10], [7]), (20, [2, 1], [30, 0, 1, 1, 9, -1, 0, 0]), (20, [2, 1], [30, 0, -1, 1, 9, 1, 0, 0]), (101, [2, 14], [6]), (1, [14, 3, 13], []), (9, [3, 2], [6]), (10, [10, 5, 3], []), (9, [5, 2], [0]), (7, [3, 4], [2]), (9, [4, 2], [5]), (20, [2, 1], [30, 0, 1, 1, 9, -1, 0, 0]), (20, [2, 1], [30, 0, -1, 1, 9, 1, 0, 0]), (101, [2, 3], [8]), (7, [8, 9], [1]), (10, [8, 5, 3], []), (7, [6, 7], [1]), (10, [6, 5, 3], []), (7, [3, 4], [2]), (20, [2, 1], [30, 0, 1, 1, 9, -1, 0, 0]), (20, [2, 1], [30, 0, -1, 1, 9, 1, 0, 0])] ta ws vs := hf
  obtain ⟨f0, hf⟩ := fc_un (by decide) hf
  have f0 : 1 * w_fi ws (n_v vs 2) 9 + ((-1) * v_iv (n_v vs 1) + 0) ≤ 0 := f0
  obtain ⟨f1, hf⟩ := fc_un (by decide) hf
  have f1 : (-1) * w_fi ws (n_v vs 2) 9 + (1 * v_iv (n_v vs 1) + 0) ≤ 0 := f1
  obtain ⟨f2, hf⟩ := fc_un (by decide) hf
  have f2 : n_v vs 0 = n_v vs 2 := f2
  obtain ⟨ta1, w1, le1, ⟨_, s1⟩, hf⟩ := fc_us (by decide) hf
  have s1 : (∀ b j, w_el ws b j = w_el w1 b j) ∧ ∀ b j, w_fd ws b j = if b = v_ad (n_v vs 2) ∧ j = 7 then n_v vs 10 else w_fd w1 b j := s1
  obtain ⟨f4, hf⟩ := fc_un (by decide) hf
  have f4 : 1 * w_fi w1 (n_v vs 2) 9 + ((-1) * v_iv (n_v vs 1) + 0) ≤ 0 := f4
  obtain ⟨f5, hf⟩ := fc_un (by decide) hf
  have f5 : (-1) * w_fi w1 (n_v vs 2) 9 + (1 * v_iv (n_v vs 1) + 0) ≤ 0 := f5
  obtain ⟨ta2, w2, le2, ⟨_, s2⟩, hf⟩ := fc_us (by decide) hf
  have s2 : (∀ b j, w_el w1 b j = w_el w2 b j) ∧ ∀ b j, w_fd w1 b j = if b = v_ad (n_v vs 2) ∧ j = 6 then n_v vs 14 else w_fd w2 b j := s2
  obtain ⟨f7, hf⟩ := fc_un (by decide) hf
  have f7 : v_iv (n_v vs 14) = v_iv (n_v vs 3) + v_iv (n_v vs 13) := f7
  obtain ⟨f8, hf⟩ := fc_un (by decide) hf
  have f8 : n_v vs 3 = w_fd w2 (v_ad (n_v vs 2)) 6 := f8
  obtain ⟨f9, hf⟩ := fc_un (by decide) hf
  have f9 : v_iv (n_v vs 10) = w_el w2 (v_ad (n_v vs 5)) (v_iv (n_v vs 3)).toNat := f9
  obtain ⟨f10, hf⟩ := fc_un (by decide) hf
  have f10 : n_v vs 5 = w_fd w2 (v_ad (n_v vs 2)) 0 := f10
  obtain ⟨f11, hf⟩ := fc_un (by decide) hf
  have f11 : v_iv (n_v vs 3) < v_iv (n_v vs 4) := f11
  obtain ⟨f12, hf⟩ := fc_un (by decide) hf
  have f12 : n_v vs 4 = w_fd w2 (v_ad (n_v vs 2)) 5 := f12
  obtain ⟨f13, hf⟩ := fc_un (by decide) hf
  have f13 : 1 * w_fi w2 (n_v vs 2) 9 + ((-1) * v_iv (n_v vs 1) + 0) ≤ 0 := f13
  obtain ⟨f14, hf⟩ := fc_un (by decide) hf
  have f14 : (-1) * w_fi w2 (n_v vs 2) 9 + (1 * v_iv (n_v vs 1) + 0) ≤ 0 := f14
  obtain ⟨ta3, w3, le3, ⟨_, s3⟩, hf⟩ := fc_us (by decide) hf
  have s3 : (∀ b j, w_el w2 b j = w_el w3 b j) ∧ ∀ b j, w_fd w2 b j = if b = v_ad (n_v vs 2) ∧ j = 8 then n_v vs 3 else w_fd w3 b j := s3
  obtain ⟨f16, hf⟩ := fc_un (by decide) hf
  have f16 : v_iv (n_v vs 8) ≠ v_iv (n_v vs 9) := f16
  obtain ⟨f17, hf⟩ := fc_un (by decide) hf
  have f17 : v_iv (n_v vs 8) = w_el w3 (v_ad (n_v vs 5)) (v_iv (n_v vs 3)).toNat := f17
  obtain ⟨f18, hf⟩ := fc_un (by decide) hf
  have f18 : v_iv (n_v vs 6) ≠ v_iv (n_v vs 7) := f18
  obtain ⟨f19, hf⟩ := fc_un (by decide) hf
  have f19 : v_iv (n_v vs 6) = w_el w3 (v_ad (n_v vs 5)) (v_iv (n_v vs 3)).toNat := f19
  obtain ⟨f20, hf⟩ := fc_un (by decide) hf
  have f20 : v_iv (n_v vs 3) < v_iv (n_v vs 4) := f20
  obtain ⟨f21, hf⟩ := fc_un (by decide) hf
  have f21 : 1 * w_fi w3 (n_v vs 2) 9 + ((-1) * v_iv (n_v vs 1) + 0) ≤ 0 := f21
  obtain ⟨f22, hf⟩ := fc_un (by decide) hf
  have f22 : (-1) * w_fi w3 (n_v vs 2) 9 + (1 * v_iv (n_v vs 1) + 0) ≤ 0 := f22
  have q2 : n_v vs 2 = n_v vs 0 := f2.symm
  rw [q2] at f0
  rw [q2] at f1
  rw [q2] at s1
  rw [q2] at f4
  rw [q2] at f5
  rw [q2] at s2
  rw [q2] at f8
  rw [q2] at f10
  rw [q2] at f12
  rw [q2] at f13
  rw [q2] at f14
  rw [q2] at s3
  rw [q2] at f21
  rw [q2] at f22
  have ar_0_0_1 : w_ar w1 (n_v vs 0) 0 = w_ar ws (n_v vs 0) 0 := by show v_ad (w_fd w1 _ _) = v_ad (w_fd ws _ _); rw [s1.2, if_neg (fun e => absurd e.2 (by decide))]
  have ar_0_0_2 : w_ar w2 (n_v vs 0) 0 = w_ar ws (n_v vs 0) 0 := by rw [← ar_0_0_1]; show v_ad (w_fd w2 _ _) = v_ad (w_fd w1 _ _); rw [s2.2, if_neg (fun e => absurd e.2 (by decide))]
  have ar_0_0_3 : w_ar w3 (n_v vs 0) 0 = w_ar ws (n_v vs 0) 0 := by rw [← ar_0_0_2]; show v_ad (w_fd w3 _ _) = v_ad (w_fd w2 _ _); rw [s3.2, if_neg (fun e => absurd e.2 (by decide))]
  have cr_0_0 : ta (w_ar ws (n_v vs 0) 0) = some 109 := tv_rg (th_fd hD hth r0 (g := GG_8) rfl (k := 0) (t := (2, 0, 0, [109])) rfl rfl)
  have ad_5 : v_ad (n_v vs 5) = w_ar ws (n_v vs 0) 0 := (congrArg v_ad f10).trans ar_0_0_2
  have g8 : v_iv (n_v vs 3) = w_fi w2 (n_v vs 0) 6 := congrArg v_iv f8
  rw [ad_5] at f9
  have g12 : v_iv (n_v vs 4) = w_fi w2 (n_v vs 0) 5 := congrArg v_iv f12
  rw [ad_5] at f17
  rw [ad_5] at f19
  have fe_0_5_1 : w_fi ws (n_v vs 0) 5 = w_fi w1 (n_v vs 0) 5 := by show v_iv (w_fd _ _ _) = v_iv (w_fd _ _ _); rw [s1.2, if_neg (fun e => absurd e.2 (by decide))]
  have fe_0_6_1 : w_fi ws (n_v vs 0) 6 = w_fi w1 (n_v vs 0) 6 := by show v_iv (w_fd _ _ _) = v_iv (w_fd _ _ _); rw [s1.2, if_neg (fun e => absurd e.2 (by decide))]
  have fe_0_7_1 : w_fi ws (n_v vs 0) 7 = v_iv (n_v vs 10) := by show v_iv (w_fd _ _ _) = _; rw [s1.2, if_pos ⟨rfl, rfl⟩]
  have fe_0_9_1 : w_fi ws (n_v vs 0) 9 = w_fi w1 (n_v vs 0) 9 := by show v_iv (w_fd _ _ _) = v_iv (w_fd _ _ _); rw [s1.2, if_neg (fun e => absurd e.2 (by decide))]
  have ee_0_0_3_1 : w_el ws (w_ar ws (n_v vs 0) 0) (v_iv (n_v vs 3)).toNat = w_el w1 (w_ar ws (n_v vs 0) 0) (v_iv (n_v vs 3)).toNat := s1.1 _ _
  have fe_0_5_2 : w_fi w1 (n_v vs 0) 5 = w_fi w2 (n_v vs 0) 5 := by show v_iv (w_fd _ _ _) = v_iv (w_fd _ _ _); rw [s2.2, if_neg (fun e => absurd e.2 (by decide))]
  have fe_0_6_2 : w_fi w1 (n_v vs 0) 6 = v_iv (n_v vs 14) := by show v_iv (w_fd _ _ _) = _; rw [s2.2, if_pos ⟨rfl, rfl⟩]
  have fe_0_7_2 : w_fi w1 (n_v vs 0) 7 = w_fi w2 (n_v vs 0) 7 := by show v_iv (w_fd _ _ _) = v_iv (w_fd _ _ _); rw [s2.2, if_neg (fun e => absurd e.2 (by decide))]
  have fe_0_9_2 : w_fi w1 (n_v vs 0) 9 = w_fi w2 (n_v vs 0) 9 := by show v_iv (w_fd _ _ _) = v_iv (w_fd _ _ _); rw [s2.2, if_neg (fun e => absurd e.2 (by decide))]
  have ee_0_0_3_2 : w_el w1 (w_ar ws (n_v vs 0) 0) (v_iv (n_v vs 3)).toNat = w_el w2 (w_ar ws (n_v vs 0) 0) (v_iv (n_v vs 3)).toNat := s2.1 _ _
  have fe_0_5_3 : w_fi w2 (n_v vs 0) 5 = w_fi w3 (n_v vs 0) 5 := by show v_iv (w_fd _ _ _) = v_iv (w_fd _ _ _); rw [s3.2, if_neg (fun e => absurd e.2 (by decide))]
  have fe_0_6_3 : w_fi w2 (n_v vs 0) 6 = w_fi w3 (n_v vs 0) 6 := by show v_iv (w_fd _ _ _) = v_iv (w_fd _ _ _); rw [s3.2, if_neg (fun e => absurd e.2 (by decide))]
  have fe_0_7_3 : w_fi w2 (n_v vs 0) 7 = w_fi w3 (n_v vs 0) 7 := by show v_iv (w_fd _ _ _) = v_iv (w_fd _ _ _); rw [s3.2, if_neg (fun e => absurd e.2 (by decide))]
  have fe_0_9_3 : w_fi w2 (n_v vs 0) 9 = w_fi w3 (n_v vs 0) 9 := by show v_iv (w_fd _ _ _) = v_iv (w_fd _ _ _); rw [s3.2, if_neg (fun e => absurd e.2 (by decide))]
  have ee_0_0_3_3 : w_el w2 (w_ar ws (n_v vs 0) 0) (v_iv (n_v vs 3)).toNat = w_el w3 (w_ar ws (n_v vs 0) 0) (v_iv (n_v vs 3)).toNat := s3.1 _ _
  have kz_0_5 : 0 ≤ w_fi ws (n_v vs 0) 5 ∧ w_fi ws (n_v vs 0) 5 ≤ 2000 := tv_rng (th_fd hD hth r0 (g := GG_8) rfl (k := 5) (t := (0, 0, 2000, [])) rfl rfl)
  have kz_0_6 : 0 ≤ w_fi ws (n_v vs 0) 6 ∧ w_fi ws (n_v vs 0) 6 ≤ 2000 := tv_rng (th_fd hD hth r0 (g := GG_8) rfl (k := 6) (t := (0, 0, 2000, [])) rfl rfl)
  have kz_0_7 : (-128) ≤ w_fi ws (n_v vs 0) 7 ∧ w_fi ws (n_v vs 0) 7 ≤ 127 := tv_rng (th_fd hD hth r0 (g := GG_8) rfl (k := 7) (t := (0, -128, 127, [])) rfl rfl)
  have kz_0_9 : (-2147483648) ≤ w_fi ws (n_v vs 0) 9 ∧ w_fi ws (n_v vs 0) 9 ≤ 1000000 := tv_rng (th_fd hD hth r0 (g := GG_8) rfl (k := 9) (t := (0, -2147483648, 1000000, [])) rfl rfl)
  have nf0 : fc_1 (20, [0, 0, 1], [31, 1, 3, 1, 1, 7, 0, 1, 1, 9, -1, 0, 0]) ws (vs) := by
    refine ⟨fun n hn => ?_, ?_⟩
    · have hn : n ∈ [0, 0, 1] := hn
      rw [hl]
      simp only [List.mem_cons, List.not_mem_nil, or_false] at hn
      show n < 16; omega
    · show (1 * w_fi ws (n_v vs 0) 7 + 0 ≤ 3) ∨ (1 * w_fi ws (n_v vs 0) 9 + ((-1) * v_iv (n_v vs 1) + 0) ≤ 0)
      omega
  have nf1 : fc_1 (20, [0, 0, 1], [31, 1, 3, 1, 1, 7, 0, -1, 1, 9, 1, 0, 0]) ws (vs) := by
    refine ⟨fun n hn => ?_, ?_⟩
    · have hn : n ∈ [0, 0, 1] := hn
      rw [hl]
      simp only [List.mem_cons, List.not_mem_nil, or_false] at hn
      show n < 16; omega
    · show (1 * w_fi ws (n_v vs 0) 7 + 0 ≤ 3) ∨ ((-1) * w_fi ws (n_v vs 0) 9 + (1 * v_iv (n_v vs 1) + 0) ≤ 0)
      omega
  refine ⟨(fun _ h => (by cases h)), [], trivial, ?_, (fun _ h => (by cases h))⟩
  rw [List.append_nil]
  exact List.forall_mem_cons.mpr ⟨⟨by decide, nf0⟩, List.forall_mem_cons.mpr ⟨⟨by decide, nf1⟩, (fun _ h => (by cases h))⟩⟩
def o_Re_advance_11 : or_T := (290, 16, [(0, (2, 0, 0, [8])), (1, (0, -2147483648, 1000000, [])), (2, (2, 0, 0, [8])), (3, (0, 0, 1999, [])), (4, (0, 1, 2000, [])), (5, (2, 0, 0, [109])), (6, (0, -128, 127, [])), (7, (0, 32, 32, [])), (8, (0, -128, 127, [])), (9, (0, 10, 10, [])), (10, (0, 123, 127, [])), (13, (0, 1, 1, [])), (14, (0, 1, 2000, []))], [(20, [2, 1], [30, 0, 1, 1, 9, -1, 0, 0]), (20, [2, 1], [30, 0, -1, 1, 9, 1, 0, 0]), (24, [0, 2], []), (101, [2, 10], [7]), (20, [2, 1], [30, 0, 1, 1, 9, -1, 0, 0]), (20, [2, 1], [30, 0, -1, 1, 9, 1, 0, 0]), (101, [2, 14], [6]), (1, [14, 3, 13], []), (9, [3, 2], [6]), (10, [10, 5, 3], []), (9, [5, 2], [0]), (7, [3, 4], [2]), (9, [4, 2], [5]), (20, [2, 1], [30, 0, 1, 1, 9, -1, 0, 0]), (20, [2, 1], [30, 0, -1, 1, 9, 1, 0, 0]), (101, [2, 3], [8]), (7, [8, 9], [1]), (10, [8, 5, 3], []), (7, [6, 7], [1]), (10, [6, 5, 3], []), (7, [3, 4], [2]), (20, [2, 1], [30, 0, 1, 1, 9, -1, 0, 0]), (20, [2, 1], [30, 0, -1, 1, 9, 1, 0, 0])], [], [], [(20, [0, 0, 1], [31, 1, 3, 1, 1, 7, 0, 1, 1, 9, -1, 0, 0]), (20, [0, 0, 1], [31, 1, 3, 1, 1, 7, 0, -1, 1, 9, 1, 0, 0])], [], [(14, 3, 1, 1), (14, 4, -4294967296, 0), (3, 4, -4294967296, -1), (1, 3, -4294967296, 1000000)])
theorem oo_Re_advance_11 {kA : Nat → ClassId} : or_ok kA GG o_Re_advance_11 := by
  intro A ta ws vs hD hth hl hk hds hf
  have hl : vs.length = 16 := hl
  have hk : ∀ q ∈ ([(0, (2, 0, 0, [8])), (1, (0, -2147483648, 1000000, [])), (2, (2, 0, 0, [8])), (3, (0, 0, 1999, [])), (4, (0, 1, 2000, [])), (5, (2, 0, 0, [109])), (6, (0, -128, 127, [])), (7, (0, 32, 32, [])), (8, (0, -128, 127, [])), (9, (0, 10, 10, [])), (10, (0, 123, 127, [])), (13, (0, 1, 1, [])), (14, (0, 1, 2000, []))] : List (Nat × tv_T)), tv_ok ta q.2 (n_v vs q.1) := hk
  obtain ⟨t0, hk⟩ := List.forall_mem_cons.mp hk
  have t0 : tv_ok ta (2, 0, 0, [8]) (n_v vs 0) := t0
  have r0 : ta (v_ad (n_v vs 0)) = some 8 := tv_rg t0
  obtain ⟨t1, hk⟩ := List.forall_mem_cons.mp hk
  have t1 : tv_ok ta (0, -2147483648, 1000000, []) (n_v vs 1) := t1
  have k1 : (-2147483648) ≤ v_iv (n_v vs 1) ∧ v_iv (n_v vs 1) ≤ 1000000 := tv_rng t1
  obtain ⟨t2, hk⟩ := List.forall_mem_cons.mp hk
  have t2 : tv_ok ta (2, 0, 0, [8]) (n_v vs 2) := t2
  have r2 : ta (v_ad (n_v vs 2)) = some 8 := tv_rg t2
  obtain ⟨t3, hk⟩ := List.forall_mem_cons.mp hk
  have t3 : tv_ok ta (0, 0, 1999, []) (n_v vs 3) := t3
  have k3 : 0 ≤ v_iv (n_v vs 3) ∧ v_iv (n_v vs 3) ≤ 1999 := tv_rng t3
  obtain ⟨t4, hk⟩ := List.forall_mem_cons.mp hk
  have t4 : tv_ok ta (0, 1, 2000, []) (n_v vs 4) := t4
  have k4 : 1 ≤ v_iv (n_v vs 4) ∧ v_iv (n_v vs 4) ≤ 2000 := tv_rng t4
  obtain ⟨t5, hk⟩ := List.forall_mem_cons.mp hk
  have t5 : tv_ok ta (2, 0, 0, [109]) (n_v vs 5) := t5
  have r5 : ta (v_ad (n_v vs 5)) = some 109 := tv_rg t5
  obtain ⟨t6, hk⟩ := List.forall_mem_cons.mp hk
  have t6 : tv_ok ta (0, -128, 127, []) (n_v vs 6) := t6
  have k6 : (-128) ≤ v_iv (n_v vs 6) ∧ v_iv (n_v vs 6) ≤ 127 := tv_rng t6
  obtain ⟨t7, hk⟩ := List.forall_mem_cons.mp hk
  have t7 : tv_ok ta (0, 32, 32, []) (n_v vs 7) := t7
  have k7 : 32 ≤ v_iv (n_v vs 7) ∧ v_iv (n_v vs 7) ≤ 32 := tv_rng t7
  obtain ⟨t8, hk⟩ := List.forall_mem_cons.mp hk
  have t8 : tv_ok ta (0, -128, 127, []) (n_v vs 8) := t8
  have k8 : (-128) ≤ v_iv (n_v vs 8) ∧ v_iv (n_v vs 8) ≤ 127 := tv_rng t8
  obtain ⟨t9, hk⟩ := List.forall_mem_cons.mp hk
  have t9 : tv_ok ta (0, 10, 10, []) (n_v vs 9) := t9
  have k9 : 10 ≤ v_iv (n_v vs 9) ∧ v_iv (n_v vs 9) ≤ 10 := tv_rng t9
  obtain ⟨t10, hk⟩ := List.forall_mem_cons.mp hk
  have t10 : tv_ok ta (0, 123, 127, []) (n_v vs 10) := t10
  have k10 : 123 ≤ v_iv (n_v vs 10) ∧ v_iv (n_v vs 10) ≤ 127 := tv_rng t10
  obtain ⟨t13, hk⟩ := List.forall_mem_cons.mp hk
  have t13 : tv_ok ta (0, 1, 1, []) (n_v vs 13) := t13
  have k13 : 1 ≤ v_iv (n_v vs 13) ∧ v_iv (n_v vs 13) ≤ 1 := tv_rng t13
  obtain ⟨t14, hk⟩ := List.forall_mem_cons.mp hk
  have t14 : tv_ok ta (0, 1, 2000, []) (n_v vs 14) := t14
  have k14 : 1 ≤ v_iv (n_v vs 14) ∧ v_iv (n_v vs 14) ≤ 2000 := tv_rng t14
  have hds : ∀ q ∈ ([(14, 3, 1, 1), (14, 4, -4294967296, 0), (3, 4, -4294967296, -1), (1, 3, -4294967296, 1000000)] : List of_T), n_iv vs q.2.1 + q.2.2.1 ≤ n_iv vs q.1 ∧ n_iv vs q.1 ≤ n_iv vs q.2.1 + q.2.2.2 := hds
  obtain ⟨d0, hds⟩ := List.forall_mem_cons.mp hds
  have d0 : v_iv (n_v vs 3) + 1 ≤ v_iv (n_v vs 14) ∧ v_iv (n_v vs 14) ≤ v_iv (n_v vs 3) + 1 := d0
  obtain ⟨d1, hds⟩ := List.forall_mem_cons.mp hds
  have d1 : v_iv (n_v vs 4) + (-4294967296) ≤ v_iv (n_v vs 14) ∧ v_iv (n_v vs 14) ≤ v_iv (n_v vs 4) + 0 := d1
  obtain ⟨d2, hds⟩ := List.forall_mem_cons.mp hds
  have d2 : v_iv (n_v vs 4) + (-4294967296) ≤ v_iv (n_v vs 3) ∧ v_iv (n_v vs 3) ≤ v_iv (n_v vs 4) + (-1) := d2
  obtain ⟨d3, hds⟩ := List.forall_mem_cons.mp hds
  have d3 : v_iv (n_v vs 3) + (-4294967296) ≤ v_iv (n_v vs 1) ∧ v_iv (n_v vs 1) ≤ v_iv (n_v vs 3) + 1000000 := d3
  have hf : fc_ok [(20, [2, 1], [30, 0, 1, 1, 9, -1, 0, 0]), (20, [2, 1], [30, 0, -1, 1, 9, 1, 0, 0]), (24, [0, 2], []), (101, [2, 10], [7]), (20, [2, 1], [30, 0, 1, 1, 9, -1, 0, 0]), (20, [2, 1], [30, 0, -1, 1, 9, 1, 0, 0]), (101, [2, 14], [6]), (1, [14, 3, 13], []), (9, [3, 2], [6]), (10, [10, 5, 3], []), (9, [5, 2], [0]), (7, [3, 4], [2]), (9, [4, 2], [5]), (20, [2, 1], [30, 0, 1, 1, 9, -1, 0, 0]), (20, [2, 1], [30, 0, -1, 1, 9, 1, 0, 0]), (101, [2, 3], [8]), (7, [8, 9], [1]), (10, [8, 5, 3], []), (7, [6, 7], [1]), (10, [6, 5, 3], []), (7, [3, 4], [2]), (20, [2, 1], [30, 0, 1, 1, 9, -1, 0, 0]), (20, [2, 1], [30, 0, -1, 1, 9, 1, 0, 0])] ta ws vs := hf
  obtain ⟨f0, hf⟩ := fc_un (by decide) hf
  have f0 : 1 * w_fi ws (n_v vs 2) 9 + ((-1) * v_iv (n_v vs 1) + 0) ≤ 0 := f0
  obtain ⟨f1, hf⟩ := fc_un (by decide) hf
  have f1 : (-1) * w_fi ws (n_v vs 2) 9 + (1 * v_iv (n_v vs 1) + 0) ≤ 0 := f1
  obtain ⟨f2, hf⟩ := fc_un (by decide) hf
  have f2 : n_v vs 0 = n_v vs 2 := f2
  obtain ⟨ta1, w1, le1, ⟨_, s1⟩, hf⟩ := fc_us (by decide) hf
  have s1 : (∀ b j, w_el ws b j = w_el w1 b j) ∧ ∀ b j, w_fd ws b j = if b = v_ad (n_v vs 2) ∧ j = 7 then n_v vs 10 else w_fd w1 b j := s1
  obtain ⟨f4, hf⟩ := fc_un (by decide) hf
  have f4 : 1 * w_fi w1 (n_v vs 2) 9 + ((-1) * v_iv (n_v vs 1) + 0) ≤ 0 := f4
  obtain ⟨f5, hf⟩ := fc_un (by decide) hf
  have f5 : (-1) * w_fi w1 (n_v vs 2) 9 + (1 * v_iv (n_v vs 1) + 0) ≤ 0 := f5
  obtain ⟨ta2, w2, le2, ⟨_, s2⟩, hf⟩ := fc_us (by decide) hf
  have s2 : (∀ b j, w_el w1 b j = w_el w2 b j) ∧ ∀ b j, w_fd w1 b j = if b = v_ad (n_v vs 2) ∧ j = 6 then n_v vs 14 else w_fd w2 b j := s2
  obtain ⟨f7, hf⟩ := fc_un (by decide) hf
  have f7 : v_iv (n_v vs 14) = v_iv (n_v vs 3) + v_iv (n_v vs 13) := f7
  obtain ⟨f8, hf⟩ := fc_un (by decide) hf
  have f8 : n_v vs 3 = w_fd w2 (v_ad (n_v vs 2)) 6 := f8
  obtain ⟨f9, hf⟩ := fc_un (by decide) hf
  have f9 : v_iv (n_v vs 10) = w_el w2 (v_ad (n_v vs 5)) (v_iv (n_v vs 3)).toNat := f9
  obtain ⟨f10, hf⟩ := fc_un (by decide) hf
  have f10 : n_v vs 5 = w_fd w2 (v_ad (n_v vs 2)) 0 := f10
  obtain ⟨f11, hf⟩ := fc_un (by decide) hf
  have f11 : v_iv (n_v vs 3) < v_iv (n_v vs 4) := f11
  obtain ⟨f12, hf⟩ := fc_un (by decide) hf
  have f12 : n_v vs 4 = w_fd w2 (v_ad (n_v vs 2)) 5 := f12
  obtain ⟨f13, hf⟩ := fc_un (by decide) hf
  have f13 : 1 * w_fi w2 (n_v vs 2) 9 + ((-1) * v_iv (n_v vs 1) + 0) ≤ 0 := f13
  obtain ⟨f14, hf⟩ := fc_un (by decide) hf
  have f14 : (-1) * w_fi w2 (n_v vs 2) 9 + (1 * v_iv (n_v vs 1) + 0) ≤ 0 := f14
  obtain ⟨ta3, w3, le3, ⟨_, s3⟩, hf⟩ := fc_us (by decide) hf
  have s3 : (∀ b j, w_el w2 b j = w_el w3 b j) ∧ ∀ b j, w_fd w2 b j = if b = v_ad (n_v vs 2) ∧ j = 8 then n_v vs 3 else w_fd w3 b j := s3
  obtain ⟨f16, hf⟩ := fc_un (by decide) hf
  have f16 : v_iv (n_v vs 8) ≠ v_iv (n_v vs 9) := f16
  obtain ⟨f17, hf⟩ := fc_un (by decide) hf
  have f17 : v_iv (n_v vs 8) = w_el w3 (v_ad (n_v vs 5)) (v_iv (n_v vs 3)).toNat := f17
  obtain ⟨f18, hf⟩ := fc_un (by decide) hf
  have f18 : v_iv (n_v vs 6) ≠ v_iv (n_v vs 7) := f18
  obtain ⟨f19, hf⟩ := fc_un (by decide) hf
  have f19 : v_iv (n_v vs 6) = w_el w3 (v_ad (n_v vs 5)) (v_iv (n_v vs 3)).toNat := f19
  obtain ⟨f20, hf⟩ := fc_un (by decide) hf
  have f20 : v_iv (n_v vs 3) < v_iv (n_v vs 4) := f20
  obtain ⟨f21, hf⟩ := fc_un (by decide) hf
  have f21 : 1 * w_fi w3 (n_v vs 2) 9 + ((-1) * v_iv (n_v vs 1) + 0) ≤ 0 := f21
  obtain ⟨f22, hf⟩ := fc_un (by decide) hf
  have f22 : (-1) * w_fi w3 (n_v vs 2) 9 + (1 * v_iv (n_v vs 1) + 0) ≤ 0 := f22
  have q2 : n_v vs 2 = n_v vs 0 := f2.symm
  rw [q2] at f0
  rw [q2] at f1
  rw [q2] at s1
  rw [q2] at f4
  rw [q2] at f5
  rw [q2] at s2
  rw [q2] at f8
  rw [q2] at f10
  rw [q2] at f12
  rw [q2] at f13
  rw [q2] at f14
  rw [q2] at s3
  rw [q2] at f21
  rw [q2] at f22
  have ar_0_0_1 : w_ar w1 (n_v vs 0) 0 = w_ar ws (n_v vs 0) 0 := by show v_ad (w_fd w1 _ _) = v_ad (w_fd ws _ _); rw [s1.2, if_neg (fun e => absurd e.2 (by decide))]
  have ar_0_0_2 : w_ar w2 (n_v vs 0) 0 = w_ar ws (n_v vs 0) 0 := by rw [← ar_0_0_1]; show v_ad (w_fd w2 _ _) = v_ad (w_fd w1 _ _); rw [s2.2, if_neg (fun e => absurd e.2 (by decide))]
  have ar_0_0_3 : w_ar w3 (n_v vs 0) 0 = w_ar ws (n_v vs 0) 0 := by rw [← ar_0_0_2]; show v_ad (w_fd w3 _ _) = v_ad (w_fd w2 _ _); rw [s3.2, if_neg (fun e => absurd e.2 (by decide))]
  have cr_0_0 : ta (w_ar ws (n_v vs 0) 0) = some 109 := tv_rg (th_fd hD hth r0 (g := GG_8) rfl (k := 0) (t := (2, 0, 0, [109])) rfl rfl)
  have ad_5 : v_ad (n_v vs 5) = w_ar ws (n_v vs 0) 0 := (congrArg v_ad f10).trans ar_0_0_2
  have g8 : v_iv (n_v vs 3) = w_fi w2 (n_v vs 0) 6 := congrArg v_iv f8
  rw [ad_5] at f9
  have g12 : v_iv (n_v vs 4) = w_fi w2 (n_v vs 0) 5 := congrArg v_iv f12
  rw [ad_5] at f17
  rw [ad_5] at f19
  have fe_0_5_1 : w_fi ws (n_v vs 0) 5 = w_fi w1 (n_v vs 0) 5 := by show v_iv (w_fd _ _ _) = v_iv (w_fd _ _ _); rw [s1.2, if_neg (fun e => absurd e.2 (by decide))]
  have fe_0_6_1 : w_fi ws (n_v vs 0) 6 = w_fi w1 (n_v vs 0) 6 := by show v_iv (w_fd _ _ _) = v_iv (w_fd _ _ _); rw [s1.2, if_neg (fun e => absurd e.2 (by decide))]
  have fe_0_7_1 : w_fi ws (n_v vs 0) 7 = v_iv (n_v vs 10) := by show v_iv (w_fd _ _ _) = _; rw [s1.2, if_pos ⟨rfl, rfl⟩]
  have fe_0_9_1 : w_fi ws (n_v vs 0) 9 = w_fi w1 (n_v vs 0) 9 := by show v_iv (w_fd _ _ _) = v_iv (w_fd _ _ _); rw [s1.2, if_neg (fun e => absurd e.2 (by decide))]
  have ee_0_0_3_1 : w_el ws (w_ar ws (n_v vs 0) 0) (v_iv (n_v vs 3)).toNat = w_el w1 (w_ar ws (n_v vs 0) 0) (v_iv (n_v vs 3)).toNat := s1.1 _ _
  have fe_0_5_2 : w_fi w1 (n_v vs 0) 5 = w_fi w2 (n_v vs 0) 5 := by show v_iv (w_fd _ _ _) = v_iv (w_fd _ _ _); rw [s2.2, if_neg (fun e => absurd e.2 (by decide))]
  have fe_0_6_2 : w_fi w1 (n_v vs 0) 6 = v_iv (n_v vs 14) := by show v_iv (w_fd _ _ _) = _; rw [s2.2, if_pos ⟨rfl, rfl⟩]
  have fe_0_7_2 : w_fi w1 (n_v vs 0) 7 = w_fi w2 (n_v vs 0) 7 := by show v_iv (w_fd _ _ _) = v_iv (w_fd _ _ _); rw [s2.2, if_neg (fun e => absurd e.2 (by decide))]
  have fe_0_9_2 : w_fi w1 (n_v vs 0) 9 = w_fi w2 (n_v vs 0) 9 := by show v_iv (w_fd _ _ _) = v_iv (w_fd _ _ _); rw [s2.2, if_neg (fun e => absurd e.2 (by decide))]
  have ee_0_0_3_2 : w_el w1 (w_ar ws (n_v vs 0) 0) (v_iv (n_v vs 3)).toNat = w_el w2 (w_ar ws (n_v vs 0) 0) (v_iv (n_v vs 3)).toNat := s2.1 _ _
  have fe_0_5_3 : w_fi w2 (n_v vs 0) 5 = w_fi w3 (n_v vs 0) 5 := by show v_iv (w_fd _ _ _) = v_iv (w_fd _ _ _); rw [s3.2, if_neg (fun e => absurd e.2 (by decide))]
  have fe_0_6_3 : w_fi w2 (n_v vs 0) 6 = w_fi w3 (n_v vs 0) 6 := by show v_iv (w_fd _ _ _) = v_iv (w_fd _ _ _); rw [s3.2, if_neg (fun e => absurd e.2 (by decide))]
  have fe_0_7_3 : w_fi w2 (n_v vs 0) 7 = w_fi w3 (n_v vs 0) 7 := by show v_iv (w_fd _ _ _) = v_iv (w_fd _ _ _); rw [s3.2, if_neg (fun e => absurd e.2 (by decide))]
  have fe_0_9_3 : w_fi w2 (n_v vs 0) 9 = w_fi w3 (n_v vs 0) 9 := by show v_iv (w_fd _ _ _) = v_iv (w_fd _ _ _); rw [s3.2, if_neg (fun e => absurd e.2 (by decide))]
  have ee_0_0_3_3 : w_el w2 (w_ar ws (n_v vs 0) 0) (v_iv (n_v vs 3)).toNat = w_el w3 (w_ar ws (n_v vs 0) 0) (v_iv (n_v vs 3)).toNat := s3.1 _ _
  have kz_0_5 : 0 ≤ w_fi ws (n_v vs 0) 5 ∧ w_fi ws (n_v vs 0) 5 ≤ 2000 := tv_rng (th_fd hD hth r0 (g := GG_8) rfl (k := 5) (t := (0, 0, 2000, [])) rfl rfl)
  have kz_0_6 : 0 ≤ w_fi ws (n_v vs 0) 6 ∧ w_fi ws (n_v vs 0) 6 ≤ 2000 := tv_rng (th_fd hD hth r0 (g := GG_8) rfl (k := 6) (t := (0, 0, 2000, [])) rfl rfl)
  have kz_0_7 : (-128) ≤ w_fi ws (n_v vs 0) 7 ∧ w_fi ws (n_v vs 0) 7 ≤ 127 := tv_rng (th_fd hD hth r0 (g := GG_8) rfl (k := 7) (t := (0, -128, 127, [])) rfl rfl)
  have kz_0_9 : (-2147483648) ≤ w_fi ws (n_v vs 0) 9 ∧ w_fi ws (n_v vs 0) 9 ≤ 1000000 := tv_rng (th_fd hD hth r0 (g := GG_8) rfl (k := 9) (t := (0, -2147483648, 1000000, [])) rfl rfl)
  have nf0 : fc_1 (20, [0, 0, 1], [31, 1, 3, 1, 1, 7, 0, 1, 1, 9, -1, 0, 0]) ws (vs) := by
    refine ⟨fun n hn => ?_, ?_⟩
    · have hn : n ∈ [0, 0, 1] := hn
      rw [hl]
      simp only [List.mem_cons, List.not_mem_nil, or_false] at hn
      show n < 16; omega
    · show (1 * w_fi ws (n_v vs 0) 7 + 0 ≤ 3) ∨ (1 * w_fi ws (n_v vs 0) 9 + ((-1) * v_iv (n_v vs 1) + 0) ≤ 0)
      omega
  have nf1 : fc_1 (20, [0, 0, 1], [31, 1, 3, 1, 1, 7, 0, -1, 1, 9, 1, 0, 0]) ws (vs) := by
    refine ⟨fun n hn => ?_, ?_⟩
    · have hn : n ∈ [0, 0, 1] := hn
      rw [hl]
      simp only [List.mem_cons, List.not_mem_nil, or_false] at hn
      show n < 16; omega
    · show (1 * w_fi ws (n_v vs 0) 7 + 0 ≤ 3) ∨ ((-1) * w_fi ws (n_v vs 0) 9 + (1 * v_iv (n_v vs 1) + 0) ≤ 0)
      omega
  refine ⟨(fun _ h => (by cases h)), [], trivial, ?_, (fun _ h => (by cases h))⟩
  rw [List.append_nil]
  exact List.forall_mem_cons.mpr ⟨⟨by decide, nf0⟩, List.forall_mem_cons.mpr ⟨⟨by decide, nf1⟩, (fun _ h => (by cases h))⟩⟩
def o_Re_advance_12 : or_T := (76, 11, [(0, (2, 0, 0, [8])), (1, (0, -2147483648, 1000000, [])), (2, (2, 0, 0, [8])), (10, (0, 0, 0, []))], [(20, [2, 1], [30, 0, 1, 1, 9, -1, 0, 0]), (20, [2, 1], [30, 0, -1, 1, 9, 1, 0, 0]), (24, [0, 2], []), (101, [2, 10], [7]), (20, [2, 1], [30, 0, 1, 1, 9, -1, 0, 0]), (20, [2, 1], [30, 0, -1, 1, 9, 1, 0, 0]), (101, [2, 3], [8]), (20, [2, 1], [30, 0, 1, 1, 9, -1, 0, 0]), (20, [2, 1], [30, 0, -1, 1, 9, 1, 0, 0])], [], [], [(20, [0, 0, 1], [31, 1, 3, 1, 1, 7, 0, 1, 1, 9, -1, 0, 0]), (20, [0, 0, 1], [31, 1, 3, 1, 1, 7, 0, -1, 1, 9, 1, 0, 0])], [], [])
theorem oo_Re_advance_12 {kA : Nat → ClassId} : or_ok kA GG o_Re_advance_12 := by
  intro A ta ws vs hD hth hl hk hds hf
  have hl : vs.length = 11 := hl
  have hk : ∀ q ∈ ([(0, (2, 0, 0, [8])), (1, (0, -2147483648, 1000000, [])), (2, (2, 0, 0, [8])), (10, (0, 0, 0, []))] : List (Nat × tv_T)), tv_ok ta q.2 (n_v vs q.1) := hk
  obtain ⟨t0, hk⟩ := List.forall_mem_cons.mp hk
  have t0 : tv_ok ta (2, 0, 0, [8]) (n_v vs 0) := t0
  have r0 : ta (v_ad (n_v vs 0)) = some 8 := tv_rg t0
  obtain ⟨t1, hk⟩ := List.forall_mem_cons.mp hk
  have t1 : tv_ok ta (0, -2147483648, 1000000, []) (n_v vs 1) := t1
  have k1 : (-2147483648) ≤ v_iv (n_v vs 1) ∧ v_iv (n_v vs 1) ≤ 1000000 := tv_rng t1
  obtain ⟨t2, hk⟩ := List.forall_mem_cons.mp hk
  have t2 : tv_ok ta (2, 0, 0, [8]) (n_v vs 2) := t2
  have r2 : ta (v_ad (n_v vs 2)) = some 8 := tv_rg t2
  obtain ⟨t10, hk⟩ := List.forall_mem_cons.mp hk
  have t10 : tv_ok ta (0, 0, 0, []) (n_v vs 10) := t10
  have k10 : 0 ≤ v_iv (n_v vs 10) ∧ v_iv (n_v vs 10) ≤ 0 := tv_rng t10
  have hf : fc_ok [(20, [2, 1], [30, 0, 1, 1, 9, -1, 0, 0]), (20, [2, 1], [30, 0, -1, 1, 9, 1, 0, 0]), (24, [0, 2], []), (101, [2, 10], [7]), (20, [2, 1], [30, 0, 1, 1, 9, -1, 0, 0]), (20, [2, 1], [30, 0, -1, 1, 9, 1, 0, 0]), (101, [2, 3], [8]), (20, [2, 1], [30, 0, 1, 1, 9, -1, 0, 0]), (20, [2, 1], [30, 0, -1, 1, 9, 1, 0, 0])] ta ws vs := hf
  obtain ⟨f0, hf⟩ := fc_un (by decide) hf
  have f0 : 1 * w_fi ws (n_v vs 2) 9 + ((-1) * v_iv (n_v vs 1) + 0) ≤ 0 := f0
  obtain ⟨f1, hf⟩ := fc_un (by decide) hf
  have f1 : (-1) * w_fi ws (n_v vs 2) 9 + (1 * v_iv (n_v vs 1) + 0) ≤ 0 := f1
  obtain ⟨f2, hf⟩ := fc_un (by decide) hf
  have f2 : n_v vs 0 = n_v vs 2 := f2
  obtain ⟨ta1, w1, le1, ⟨_, s1⟩, hf⟩ := fc_us (by decide) hf
  have s1 : (∀ b j, w_el ws b j = w_el w1 b j) ∧ ∀ b j, w_fd ws b j = if b = v_ad (n_v vs 2) ∧ j = 7 then n_v vs 10 else w_fd w1 b j := s1
  obtain ⟨f4, hf⟩ := fc_un (by decide) hf
  have f4 : 1 * w_fi w1 (n_v vs 2) 9 + ((-1) * v_iv (n_v vs 1) + 0) ≤ 0 := f4
  obtain ⟨f5, hf⟩ := fc_un (by decide) hf
  have f5 : (-1) * w_fi w1 (n_v vs 2) 9 + (1 * v_iv (n_v vs 1) + 0) ≤ 0 := f5
  obtain ⟨ta2, w2, le2, ⟨_, s2⟩, hf⟩ := fc_us (by decide) hf
  have s2 : (∀ b j, w_el w1 b j = w_el w2 b j) ∧ ∀ b j, w_fd w1 b j = if b = v_ad (n_v vs 2) ∧ j = 8 then n_v vs 3 else w_fd w2 b j := s2
  obtain ⟨f7, hf⟩ := fc_un (by decide) hf
  have f7 : 1 * w_fi w2 (n_v vs 2) 9 + ((-1) * v_iv (n_v vs 1) + 0) ≤ 0 := f7
  obtain ⟨f8, hf⟩ := fc_un (by decide) hf
  have f8 : (-1) * w_fi w2 (n_v vs 2) 9 + (1 * v_iv (n_v vs 1) + 0) ≤ 0 := f8
  have q2 : n_v vs 2 = n_v vs 0 := f2.symm
  rw [q2] at f0
  rw [q2] at f1
  rw [q2] at s1
  rw [q2] at f4
  rw [q2] at f5
  rw [q2] at s2
  rw [q2] at f7
  rw [q2] at f8
  have fe_0_7_1 : w_fi ws (n_v vs 0) 7 = v_iv (n_v vs 10) := by show v_iv (w_fd _ _ _) = _; rw [s1.2, if_pos ⟨rfl, rfl⟩]
  have fe_0_9_1 : w_fi ws (n_v vs 0) 9 = w_fi w1 (n_v vs 0) 9 := by show v_iv (w_fd _ _ _) = v_iv (w_fd _ _ _); rw [s1.2, if_neg (fun e => absurd e.2 (by decide))]
  have fe_0_7_2 : w_fi w1 (n_v vs 0) 7 = w_fi w2 (n_v vs 0) 7 := by show v_iv (w_fd _ _ _) = v_iv (w_fd _ _ _); rw [s2.2, if_neg (fun e => absurd e.2 (by decide))]
  have fe_0_9_2 : w_fi w1 (n_v vs 0) 9 = w_fi w2 (n_v vs 0) 9 := by show v_iv (w_fd _ _ _) = v_iv (w_fd _ _ _); rw [s2.2, if_neg (fun e => absurd e.2 (by decide))]
  have kz_0_7 : (-128) ≤ w_fi ws (n_v vs 0) 7 ∧ w_fi ws (n_v vs 0) 7 ≤ 127 := tv_rng (th_fd hD hth r0 (g := GG_8) rfl (k := 7) (t := (0, -128, 127, [])) rfl rfl)
  have kz_0_9 : (-2147483648) ≤ w_fi ws (n_v vs 0) 9 ∧ w_fi ws (n_v vs 0) 9 ≤ 1000000 := tv_rng (th_fd hD hth r0 (g := GG_8) rfl (k := 9) (t := (0, -2147483648, 1000000, [])) rfl rfl)
  have nf0 : fc_1 (20, [0, 0, 1], [31, 1, 3, 1, 1, 7, 0, 1, 1, 9, -1, 0, 0]) ws (vs) := by
    refine ⟨fun n hn => ?_, ?_⟩
    · have hn : n ∈ [0, 0, 1] := hn
      rw [hl]
      simp only [List.mem_cons, List.not_mem_nil, or_false] at hn
      show n < 11; omega
    · show (1 * w_fi ws (n_v vs 0) 7 + 0 ≤ 3) ∨ (1 * w_fi ws (n_v vs 0) 9 + ((-1) * v_iv (n_v vs 1) + 0) ≤ 0)
      omega
  have nf1 : fc_1 (20, [0, 0, 1], [31, 1, 3, 1, 1, 7, 0, -1, 1, 9, 1, 0, 0]) ws (vs) := by
    refine ⟨fun n hn => ?_, ?_⟩
    · have hn : n ∈ [0, 0, 1] := hn
      rw [hl]
      simp only [List.mem_cons, List.not_mem_nil, or_false] at hn
      show n < 11; omega
    · show (1 * w_fi ws (n_v vs 0) 7 + 0 ≤ 3) ∨ ((-1) * w_fi ws (n_v vs 0) 9 + (1 * v_iv (n_v vs 1) + 0) ≤ 0)
      omega
  refine ⟨(fun _ h => (by cases h)), [], trivial, ?_, (fun _ h => (by cases h))⟩
  rw [List.append_nil]
  exact List.forall_mem_cons.mpr ⟨⟨by decide, nf0⟩, List.forall_mem_cons.mpr ⟨⟨by decide, nf1⟩, (fun _ h => (by cases h))⟩⟩
def o_Re_advance_13 : or_T := (290, 10, [(0, (2, 0, 0, [8])), (1, (0, -2147483648, 1000000, [])), (2, (2, 0, 0, [8])), (9, (0, 1, 1, []))], [(20, [2, 1], [30, 0, 1, 1, 9, -1, 0, 0]), (20, [2, 1], [30, 0, -1, 1, 9, 1, 0, 0]), (24, [0, 2], []), (101, [2, 9], [7]), (20, [2, 1], [30, 0, 1, 1, 9, -1, 0, 0]), (20, [2, 1], [30, 0, -1, 1, 9, 1, 0, 0])], [], [], [(20, [0, 0, 1], [31, 1, 3, 1, 1, 7, 0, 1, 1, 9, -1, 0, 0]), (20, [0, 0, 1], [31, 1, 3, 1, 1, 7, 0, -1, 1, 9, 1, 0, 0])], [], [])
theorem oo_Re_advance_13 {kA : Nat → ClassId} : or_ok kA GG o_Re_advance_13 := by
  intro A ta ws vs hD hth hl hk hds hf
  have hl : vs.length = 10 := hl
  have hk : ∀ q ∈ ([(0, (2, 0, 0, [8])), (1, (0, -2147483648, 1000000, [])), (2, (2, 0, 0, [8])), (9, (0, 1, 1, []))] : List (Nat × tv_T)), tv_ok ta q.2 (n_v vs q.1) := hk
  obtain ⟨t0, hk⟩ := List.forall_mem_cons.mp hk
  have t0 : tv_ok ta (2, 0, 0, [8]) (n_v vs 0) := t0
  have r0 : ta (v_ad (n_v vs 0)) = some 8 := tv_rg t0
  obtain ⟨t1, hk⟩ := List.forall_mem_cons.mp hk
  have t1 : tv_ok ta (0, -2147483648, 1000000, []) (n_v vs 1) := t1
  have k1 : (-2147483648) ≤ v_iv (n_v vs 1) ∧ v_iv (n_v vs 1) ≤ 1000000 := tv_rng t1
  obtain ⟨t2, hk⟩ := List.forall_mem_cons.mp hk
  have t2 : tv_ok ta (2, 0, 0, [8]) (n_v vs 2) := t2
  have r2 : ta (v_ad (n_v vs 2)) = some 8 := tv_rg t2
  obtain ⟨t9, hk⟩ := List.forall_mem_cons.mp hk
  have t9 : tv_ok ta (0, 1, 1, []) (n_v vs 9) := t9
  have k9 : 1 ≤ v_iv (n_v vs 9) ∧ v_iv (n_v vs 9) ≤ 1 := tv_rng t9
  have hf : fc_ok [(20, [2, 1], [30, 0, 1, 1, 9, -1, 0, 0]), (20, [2, 1], [30, 0, -1, 1, 9, 1, 0, 0]), (24, [0, 2], []), (101, [2, 9], [7]), (20, [2, 1], [30, 0, 1, 1, 9, -1, 0, 0]), (20, [2, 1], [30, 0, -1, 1, 9, 1, 0, 0])] ta ws vs := hf
  obtain ⟨f0, hf⟩ := fc_un (by decide) hf
  have f0 : 1 * w_fi ws (n_v vs 2) 9 + ((-1) * v_iv (n_v vs 1) + 0) ≤ 0 := f0
  obtain ⟨f1, hf⟩ := fc_un (by decide) hf
  have f1 : (-1) * w_fi ws (n_v vs 2) 9 + (1 * v_iv (n_v vs 1) + 0) ≤ 0 := f1
  obtain ⟨f2, hf⟩ := fc_un (by decide) hf
  have f2 : n_v vs 0 = n_v vs 2 := f2
  obtain ⟨ta1, w1, le1, ⟨_, s1⟩, hf⟩ := fc_us (by decide) hf
  have s1 : (∀ b j, w_el ws b j = w_el w1 b j) ∧ ∀ b j, w_fd ws b j = if b = v_ad (n_v vs 2) ∧ j = 7 then n_v vs 9 else w_fd w1 b j := s1
  obtain ⟨f4, hf⟩ := fc_un (by decide) hf
  have f4 : 1 * w_fi w1 (n_v vs 2) 9 + ((-1) * v_iv (n_v vs 1) + 0) ≤ 0 := f4
  obtain ⟨f5, hf⟩ := fc_un (by decide) hf
  have f5 : (-1) * w_fi w1 (n_v vs 2) 9 + (1 * v_iv (n_v vs 1) + 0) ≤ 0 := f5
  have q2 : n_v vs 2 = n_v vs 0 := f2.symm
  rw [q2] at f0
  rw [q2] at f1
  rw [q2] at s1
  rw [q2] at f4
  rw [q2] at f5
  have fe_0_7_1 : w_fi ws (n_v vs 0) 7 = v_iv (n_v vs 9) := by show v_iv (w_fd _ _ _) = _; rw [s1.2, if_pos ⟨rfl, rfl⟩]
  have fe_0_9_1 : w_fi ws (n_v vs 0) 9 = w_fi w1 (n_v vs 0) 9 := by show v_iv (w_fd _ _ _) = v_iv (w_fd _ _ _); rw [s1.2, if_neg (fun e => absurd e.2 (by decide))]
  have kz_0_7 : (-128) ≤ w_fi ws (n_v vs 0) 7 ∧ w_fi ws (n_v vs 0) 7 ≤ 127 := tv_rng (th_fd hD hth r0 (g := GG_8) rfl (k := 7) (t := (0, -128, 127, [])) rfl rfl)
  have kz_0_9 : (-2147483648) ≤ w_fi ws (n_v vs 0) 9 ∧ w_fi ws (n_v vs 0) 9 ≤ 1000000 := tv_rng (th_fd hD hth r0 (g := GG_8) rfl (k := 9) (t := (0, -2147483648, 1000000, [])) rfl rfl)
  have nf0 : fc_1 (20, [0, 0, 1], [31, 1, 3, 1, 1, 7, 0, 1, 1, 9, -1, 0, 0]) ws (vs) := by
    refine ⟨fun n hn => ?_, ?_⟩
    · have hn : n ∈ [0, 0, 1] := hn
      rw [hl]
      simp only [List.mem_cons, List.not_mem_nil, or_false] at hn
      show n < 10; omega
    · show (1 * w_fi ws (n_v vs 0) 7 + 0 ≤ 3) ∨ (1 * w_fi ws (n_v vs 0) 9 + ((-1) * v_iv (n_v vs 1) + 0) ≤ 0)
      omega
  have nf1 : fc_1 (20, [0, 0, 1], [31, 1, 3, 1, 1, 7, 0, -1, 1, 9, 1, 0, 0]) ws (vs) := by
    refine ⟨fun n hn => ?_, ?_⟩
    · have hn : n ∈ [0, 0, 1] := hn
      rw [hl]
      simp only [List.mem_cons, List.not_mem_nil, or_false] at hn
      show n < 10; omega
    · show (1 * w_fi ws (n_v vs 0) 7 + 0 ≤ 3) ∨ ((-1) * w_fi ws (n_v vs 0) 9 + (1 * v_iv (n_v vs 1) + 0) ≤ 0)
      omega
  refine ⟨(fun _ h => (by cases h)), [], trivial, ?_, (fun _ h => (by cases h))⟩
  rw [List.append_nil]
  exact List.forall_mem_cons.mpr ⟨⟨by decide, nf0⟩, List.forall_mem_cons.mpr ⟨⟨by decide, nf1⟩, (fun _ h => (by cases h))⟩⟩
def o_Re_advance_14 : or_T := (290, 10, [(0, (2, 0, 0, [8])), (1, (0, -2147483648, 1000000, [])), (2, (2, 0, 0, [8])), (9, (0, 2, 2, []))], [(20, [2, 1], [30, 0, 1, 1, 9, -1, 0, 0]), (20, [2, 1], [30, 0, -1, 1, 9, 1, 0, 0]), (24, [0, 2], []), (101, [2, 9], [7]), (20, [2, 1], [30, 0, 1, 1, 9, -1, 0, 0]), (20, [2, 1], [30, 0, -1, 1, 9, 1, 0, 0])], [], [], [(20, [0, 0, 1], [31, 1, 3, 1, 1, 7, 0, 1, 1, 9, -1, 0, 0]), (20, [0, 0, 1], [31, 1, 3, 1, 1, 7, 0, -1, 1, 9, 1, 0, 0])], [], [])
theorem oo_Re_advance_14 {kA : Nat → ClassId} : or_ok kA GG o_Re_advance_14 := by
  intro A ta ws vs hD hth hl hk hds hf
  have hl : vs.length = 10 := hl
  have hk : ∀ q ∈ ([(0, (2, 0, 0, [8])), (1, (0, -2147483648, 1000000, [])), (2, (2, 0, 0, [8])), (9, (0, 2, 2, []))] : List (Nat × tv_T)), tv_ok ta q.2 (n_v vs q.1) := hk
  obtain ⟨t0, hk⟩ := List.forall_mem_cons.mp hk
  have t0 : tv_ok ta (2, 0, 0, [8]) (n_v vs 0) := t0
  have r0 : ta (v_ad (n_v vs 0)) = some 8 := tv_rg t0
  obtain ⟨t1, hk⟩ := List.forall_mem_cons.mp hk
  have t1 : tv_ok ta (0, -2147483648, 1000000, []) (n_v vs 1) := t1
  have k1 : (-2147483648) ≤ v_iv (n_v vs 1) ∧ v_iv (n_v vs 1) ≤ 1000000 := tv_rng t1
  obtain ⟨t2, hk⟩ := List.forall_mem_cons.mp hk
  have t2 : tv_ok ta (2, 0, 0, [8]) (n_v vs 2) := t2
  have r2 : ta (v_ad (n_v vs 2)) = some 8 := tv_rg t2
  obtain ⟨t9, hk⟩ := List.forall_mem_cons.mp hk
  have t9 : tv_ok ta (0, 2, 2, []) (n_v vs 9) := t9
  have k9 : 2 ≤ v_iv (n_v vs 9) ∧ v_iv (n_v vs 9) ≤ 2 := tv_rng t9
  have hf : fc_ok [(20, [2, 1], [30, 0, 1, 1, 9, -1, 0, 0]), (20, [2, 1], [30, 0, -1, 1, 9, 1, 0, 0]), (24, [0, 2], []), (101, [2, 9], [7]), (20, [2, 1], [30, 0, 1, 1, 9, -1, 0, 0]), (20, [2, 1], [30, 0, -1, 1, 9, 1, 0, 0])] ta ws vs := hf
  obtain ⟨f0, hf⟩ := fc_un (by decide) hf
  have f0 : 1 * w_fi ws (n_v vs 2) 9 + ((-1) * v_iv (n_v vs 1) + 0) ≤ 0 := f0
  obtain ⟨f1, hf⟩ := fc_un (by decide) hf
  have f1 : (-1) * w_fi ws (n_v vs 2) 9 + (1 * v_iv (n_v vs 1) + 0) ≤ 0 := f1
  obtain ⟨f2, hf⟩ := fc_un (by decide) hf
  have f2 : n_v vs 0 = n_v vs 2 := f2
  obtain ⟨ta1, w1, le1, ⟨_, s1⟩, hf⟩ := fc_us (by decide) hf
  have s1 : (∀ b j, w_el ws b j = w_el w1 b j) ∧ ∀ b j, w_fd ws b j = if b = v_ad (n_v vs 2) ∧ j = 7 then n_v vs 9 else w_fd w1 b j := s1
  obtain ⟨f4, hf⟩ := fc_un (by decide) hf
  have f4 : 1 * w_fi w1 (n_v vs 2) 9 + ((-1) * v_iv (n_v vs 1) + 0) ≤ 0 := f4
  obtain ⟨f5, hf⟩ := fc_un (by decide) hf
  have f5 : (-1) * w_fi w1 (n_v vs 2) 9 + (1 * v_iv (n_v vs 1) + 0) ≤ 0 := f5
  have q2 : n_v vs 2 = n_v vs 0 := f2.symm
  rw [q2] at f0
  rw [q2] at f1
  rw [q2] at s1
  rw [q2] at f4
  rw [q2] at f5
  have fe_0_7_1 : w_fi ws (n_v vs 0) 7 = v_iv (n_v vs 9) := by show v_iv (w_fd _ _ _) = _; rw [s1.2, if_pos ⟨rfl, rfl⟩]
  have fe_0_9_1 : w_fi ws (n_v vs 0) 9 = w_fi w1 (n_v vs 0) 9 := by show v_iv (w_fd _ _ _) = v_iv (w_fd _ _ _); rw [s1.2, if_neg (fun e => absurd e.2 (by decide))]
  have kz_0_7 : (-128) ≤ w_fi ws (n_v vs 0) 7 ∧ w_fi ws (n_v vs 0) 7 ≤ 127 := tv_rng (th_fd hD hth r0 (g := GG_8) rfl (k := 7) (t := (0, -128, 127, [])) rfl rfl)
  have kz_0_9 : (-2147483648) ≤ w_fi ws (n_v vs 0) 9 ∧ w_fi ws (n_v vs 0) 9 ≤ 1000000 := tv_rng (th_fd hD hth r0 (g := GG_8) rfl (k := 9) (t := (0, -2147483648, 1000000, [])) rfl rfl)
  have nf0 : fc_1 (20, [0, 0, 1], [31, 1, 3, 1, 1, 7, 0, 1, 1, 9, -1, 0, 0]) ws (vs) := by
    refine ⟨fun n hn => ?_, ?_⟩
    · have hn : n ∈ [0, 0, 1] := hn
      rw [hl]
      simp only [List.mem_cons, List.not_mem_nil, or_false] at hn
      show n < 10; omega
    · show (1 * w_fi ws (n_v vs 0) 7 + 0 ≤ 3) ∨ (1 * w_fi ws (n_v vs 0) 9 + ((-1) * v_iv (n_v vs 1) + 0) ≤ 0)
      omega
  have nf1 : fc_1 (20, [0, 0, 1], [31, 1, 3, 1, 1, 7, 0, -1, 1, 9, 1, 0, 0]) ws (vs) := by
    refine ⟨fun n hn => ?_, ?_⟩
    · have hn : n ∈ [0, 0, 1] := hn
      rw [hl]
      simp only [List.mem_cons, List.not_mem_nil, or_false] at hn
      show n < 10; omega
    · show (1 * w_fi ws (n_v vs 0) 7 + 0 ≤ 3) ∨ ((-1) * w_fi ws (n_v vs 0) 9 + (1 * v_iv (n_v vs 1) + 0) ≤ 0)
      omega
  refine ⟨(fun _ h => (by cases h)), [], trivial, ?_, (fun _ h => (by cases h))⟩
  rw [List.append_nil]
  exact List.forall_mem_cons.mpr ⟨⟨by decide, nf0⟩, List.forall_mem_cons.mpr ⟨⟨by decide, nf1⟩, (fun _ h => (by cases h))⟩⟩
def o_Re_advance_15 : or_T := (290, 13, [(0, (2, 0, 0, [8])), (1, (0, -2147483648, 1000000, [])), (2, (2, 0, 0, [8])), (12, (0, 1, 1, []))], [(20, [2, 1], [30, 0, 1, 1, 9, -1, 0, 0]), (20, [2, 1], [30, 0, -1, 1, 9, 1, 0, 0]), (24, [0, 2], []), (101, [2, 12], [7]), (20, [2, 1], [30, 0, 1, 1, 9, -1, 0, 0]), (20, [2, 1], [30, 0, -1, 1, 9, 1, 0, 0])], [], [], [(20, [0, 0, 1], [31, 1, 3, 1, 1, 7, 0, 1, 1, 9, -1, 0, 0]), (20, [0, 0, 1], [31, 1, 3, 1, 1, 7, 0, -1, 1, 9, 1, 0, 0])], [], [])
theorem oo_Re_advance_15 {kA : Nat → ClassId} : or_ok kA GG o_Re_advance_15 := by
  intro A ta ws vs hD hth hl hk hds hf
  have hl : vs.length = 13 := hl
  have hk : ∀ q ∈ ([(0, (2, 0, 0, [8])), (1, (0, -2147483648, 1000000, [])), (2, (2, 0, 0, [8])), (12, (0, 1, 1, []))] : List (Nat × tv_T)), tv_ok ta q.2 (n_v vs q.1) := hk
  obtain ⟨t0, hk⟩ := List.forall_mem_cons.mp hk
  have t0 : tv_ok ta (2, 0, 0, [8]) (n_v vs 0) := t0
  have r0 : ta (v_ad (n_v vs 0)) = some 8 := tv_rg t0
  obtain ⟨t1, hk⟩ := List.forall_mem_cons.mp hk
  have t1 : tv_ok ta (0, -2147483648, 1000000, []) (n_v vs 1) := t1
  have k1 : (-2147483648) ≤ v_iv (n_v vs 1) ∧ v_iv (n_v vs 1) ≤ 1000000 := tv_rng t1
  obtain ⟨t2, hk⟩ := List.forall_mem_cons.mp hk
  have t2 : tv_ok ta (2, 0, 0, [8]) (n_v vs 2) := t2
  have r2 : ta (v_ad (n_v vs 2)) = some 8 := tv_rg t2
  obtain ⟨t12, hk⟩ := List.forall_mem_cons.mp hk
  have t12 : tv_ok ta (0, 1, 1, []) (n_v vs 12) := t12
  have k12 : 1 ≤ v_iv (n_v vs 12) ∧ v_iv (n_v vs 12) ≤ 1 := tv_rng t12
  have hf : fc_ok [(20, [2, 1], [30, 0, 1, 1, 9, -1, 0, 0]), (20, [2, 1], [30, 0, -1, 1, 9, 1, 0, 0]), (24, [0, 2], []), (101, [2, 12], [7]), (20, [2, 1], [30, 0, 1, 1, 9, -1, 0, 0]), (20, [2, 1], [30, 0, -1, 1, 9, 1, 0, 0])] ta ws vs := hf
  obtain ⟨f0, hf⟩ := fc_un (by decide) hf
  have f0 : 1 * w_fi ws (n_v vs 2) 9 + ((-1) * v_iv (n_v vs 1) + 0) ≤ 0 := f0
  obtain ⟨f1, hf⟩ := fc_un (by decide) hf
  have f1 : (-1) * w_fi ws (n_v vs 2) 9 + (1 * v_iv (n_v vs 1) + 0) ≤ 0 := f1
  obtain ⟨f2, hf⟩ := fc_un (by decide) hf
  have f2 : n_v vs 0 = n_v vs 2 := f2
  obtain ⟨ta1, w1, le1, ⟨_, s1⟩, hf⟩ := fc_us (by decide) hf
  have s1 : (∀ b j, w_el ws b j = w_el w1 b j) ∧ ∀ b j, w_fd ws b j = if b = v_ad (n_v vs 2) ∧ j = 7 then n_v vs 12 else w_fd w1 b j := s1
  obtain ⟨f4, hf⟩ := fc_un (by decide) hf
  have f4 : 1 * w_fi w1 (n_v vs 2) 9 + ((-1) * v_iv (n_v vs 1) + 0) ≤ 0 := f4
  obtain ⟨f5, hf⟩ := fc_un (by decide) hf
  have f5 : (-1) * w_fi w1 (n_v vs 2) 9 + (1 * v_iv (n_v vs 1) + 0) ≤ 0 := f5
  have q2 : n_v vs 2 = n_v vs 0 := f2.symm
  rw [q2] at f0
  rw [q2] at f1
  rw [q2] at s1
  rw [q2] at f4
  rw [q2] at f5
  have fe_0_7_1 : w_fi ws (n_v vs 0) 7 = v_iv (n_v vs 12) := by show v_iv (w_fd _ _ _) = _; rw [s1.2, if_pos ⟨rfl, rfl⟩]
  have fe_0_9_1 : w_fi ws (n_v vs 0) 9 = w_fi w1 (n_v vs 0) 9 := by show v_iv (w_fd _ _ _) = v_iv (w_fd _ _ _); rw [s1.2, if_neg (fun e => absurd e.2 (by decide))]
  have kz_0_7 : (-128) ≤ w_fi ws (n_v vs 0) 7 ∧ w_fi ws (n_v vs 0) 7 ≤ 127 := tv_rng (th_fd hD hth r0 (g := GG_8) rfl (k := 7) (t := (0, -128, 127, [])) rfl rfl)
  have kz_0_9 : (-2147483648) ≤ w_fi ws (n_v vs 0) 9 ∧ w_fi ws (n_v vs 0) 9 ≤ 1000000 := tv_rng (th_fd hD hth r0 (g := GG_8) rfl (k := 9) (t := (0, -2147483648, 1000000, [])) rfl rfl)
  have nf0 : fc_1 (20, [0, 0, 1], [31, 1, 3, 1, 1, 7, 0, 1, 1, 9, -1, 0, 0]) ws (vs) := by
    refine ⟨fun n hn => ?_, ?_⟩
    · have hn : n ∈ [0, 0, 1] := hn
      rw [hl]
      simp only [List.mem_cons, List.not_mem_nil, or_false] at hn
      show n < 13; omega
    · show (1 * w_fi ws (n_v vs 0) 7 + 0 ≤ 3) ∨ (1 * w_fi ws (n_v vs 0) 9 + ((-1) * v_iv (n_v vs 1) + 0) ≤ 0)
      omega
  have nf1 : fc_1 (20, [0, 0, 1], [31, 1, 3, 1, 1, 7, 0, -1, 1, 9, 1, 0, 0]) ws (vs) := by
    refine ⟨fun n hn => ?_, ?_⟩
    · have hn : n ∈ [0, 0, 1] := hn
      rw [hl]
      simp only [List.mem_cons, List.not_mem_nil, or_false] at hn
      show n < 13; omega
    · show (1 * w_fi ws (n_v vs 0) 7 + 0 ≤ 3) ∨ ((-1) * w_fi ws (n_v vs 0) 9 + (1 * v_iv (n_v vs 1) + 0) ≤ 0)
      omega
  refine ⟨(fun _ h => (by cases h)), [], trivial, ?_, (fun _ h => (by cases h))⟩
  rw [List.append_nil]
  exact List.forall_mem_cons.mpr ⟨⟨by decide, nf0⟩, List.forall_mem_cons.mpr ⟨⟨by decide, nf1⟩, (fun _ h => (by cases h))⟩⟩
def o_Re_advance_16 : or_T := (290, 13, [(0, (2, 0, 0, [8])), (1, (0, -2147483648, 1000000, [])), (2, (2, 0, 0, [8])), (12, (0, 2, 2, []))], [(20, [2, 1], [30, 0, 1, 1, 9, -1, 0, 0]), (20, [2, 1], [30, 0, -1, 1, 9, 1, 0, 0]), (24, [0, 2], []), (101, [2, 12], [7]), (20, [2, 1], [30, 0, 1, 1, 9, -1, 0, 0]), (20, [2, 1], [30, 0, -1, 1, 9, 1, 0, 0])], [], [], [(20, [0, 0, 1], [31, 1, 3, 1, 1, 7, 0, 1, 1, 9, -1, 0, 0]), (20, [0, 0, 1], [31, 1, 3, 1, 1, 7, 0, -1, 1, 9, 1, 0, 0])], [], [])
theorem oo_Re_advance_16 {kA : Nat → ClassId} : or_ok kA GG o_Re_advance_16 := by
  intro A ta ws vs hD hth hl hk hds hf
  have hl : vs.length = 13 := hl
  have hk : ∀ q ∈ ([(0, (2, 0, 0, [8])), (1, (0, -2147483648, 1000000, [])), (2, (2, 0, 0, [8])), (12, (0, 2, 2, []))] : List (Nat × tv_T)), tv_ok ta q.2 (n_v vs q.1) := hk
  obtain ⟨t0, hk⟩ := List.forall_mem_cons.mp hk
  have t0 : tv_ok ta (2, 0, 0, [8]) (n_v vs 0) := t0
  have r0 : ta (v_ad (n_v vs 0)) = some 8 := tv_rg t0
  obtain ⟨t1, hk⟩ := List.forall_mem_cons.mp hk
  have t1 : tv_ok ta (0, -2147483648, 1000000, []) (n_v vs 1) := t1
  have k1 : (-2147483648) ≤ v_iv (n_v vs 1) ∧ v_iv (n_v vs 1) ≤ 1000000 := tv_rng t1
  obtain ⟨t2, hk⟩ := List.forall_mem_cons.mp hk
  have t2 : tv_ok ta (2, 0, 0, [8]) (n_v vs 2) := t2
  have r2 : ta (v_ad (n_v vs 2)) = some 8 := tv_rg t2
  obtain ⟨t12, hk⟩ := List.forall_mem_cons.mp hk
  have t12 : tv_ok ta (0, 2, 2, []) (n_v vs 12) := t12
  have k12 : 2 ≤ v_iv (n_v vs 12) ∧ v_iv (n_v vs 12) ≤ 2 := tv_rng t12
  have hf : fc_ok [(20, [2, 1], [30, 0, 1, 1, 9, -1, 0, 0]), (20, [2, 1], [30, 0, -1, 1, 9, 1, 0, 0]), (24, [0, 2], []), (101, [2, 12], [7]), (20, [2, 1], [30, 0, 1, 1, 9, -1, 0, 0]), (20, [2, 1], [30, 0, -1, 1, 9, 1, 0, 0])] ta ws vs := hf
  obtain ⟨f0, hf⟩ := fc_un (by decide) hf
  have f0 : 1 * w_fi ws (n_v vs 2) 9 + ((-1) * v_iv (n_v vs 1) + 0) ≤ 0 := f0
  obtain ⟨f1, hf⟩ := fc_un (by decide) hf
  have f1 : (-1) * w_fi ws (n_v vs 2) 9 + (1 * v_iv (n_v vs 1) + 0) ≤ 0 := f1
  obtain ⟨f2, hf⟩ := fc_un (by decide) hf
  have f2 : n_v vs 0 = n_v vs 2 := f2
  obtain ⟨ta1, w1, le1, ⟨_, s1⟩, hf⟩ := fc_us (by decide) hf
  have s1 : (∀ b j, w_el ws b j = w_el w1 b j) ∧ ∀ b j, w_fd ws b j = if b = v_ad (n_v vs 2) ∧ j = 7 then n_v vs 12 else w_fd w1 b j := s1
  obtain ⟨f4, hf⟩ := fc_un (by decide) hf
  have f4 : 1 * w_fi w1 (n_v vs 2) 9 + ((-1) * v_iv (n_v vs 1) + 0) ≤ 0 := f4
  obtain ⟨f5, hf⟩ := fc_un (by decide) hf
  have f5 : (-1) * w_fi w1 (n_v vs 2) 9 + (1 * v_iv (n_v vs 1) + 0) ≤ 0 := f5
  have q2 : n_v vs 2 = n_v vs 0 := f2.symm
  rw [q2] at f0
  rw [q2] at f1
  rw [q2] at s1
  rw [q2] at f4
  rw [q2] at f5
  have fe_0_7_1 : w_fi ws (n_v vs 0) 7 = v_iv (n_v vs 12) := by show v_iv (w_fd _ _ _) = _; rw [s1.2, if_pos ⟨rfl, rfl⟩]
  have fe_0_9_1 : w_fi ws (n_v vs 0) 9 = w_fi w1 (n_v vs 0) 9 := by show v_iv (w_fd _ _ _) = v_iv (w_fd _ _ _); rw [s1.2, if_neg (fun e => absurd e.2 (by decide))]
  have kz_0_7 : (-128) ≤ w_fi ws (n_v vs 0) 7 ∧ w_fi ws (n_v vs 0) 7 ≤ 127 := tv_rng (th_fd hD hth r0 (g := GG_8) rfl (k := 7) (t := (0, -128, 127, [])) rfl rfl)
  have kz_0_9 : (-2147483648) ≤ w_fi ws (n_v vs 0) 9 ∧ w_fi ws (n_v vs 0) 9 ≤ 1000000 := tv_rng (th_fd hD hth r0 (g := GG_8) rfl (k := 9) (t := (0, -2147483648, 1000000, [])) rfl rfl)
  have nf0 : fc_1 (20, [0, 0, 1], [31, 1, 3, 1, 1, 7, 0, 1, 1, 9, -1, 0, 0]) ws (vs) := by
    refine ⟨fun n hn => ?_, ?_⟩
    · have hn : n ∈ [0, 0, 1] := hn
      rw [hl]
      simp only [List.mem_cons, List.not_mem_nil, or_false] at hn
      show n < 13; omega
    · show (1 * w_fi ws (n_v vs 0) 7 + 0 ≤ 3) ∨ (1 * w_fi ws (n_v vs 0) 9 + ((-1) * v_iv (n_v vs 1) + 0) ≤ 0)
      omega
  have nf1 : fc_1 (20, [0, 0, 1], [31, 1, 3, 1, 1, 7, 0, -1, 1, 9, 1, 0, 0]) ws (vs) := by
    refine ⟨fun n hn => ?_, ?_⟩
    · have hn : n ∈ [0, 0, 1] := hn
      rw [hl]
      simp only [List.mem_cons, List.not_mem_nil, or_false] at hn
      show n < 13; omega
    · show (1 * w_fi ws (n_v vs 0) 7 + 0 ≤ 3) ∨ ((-1) * w_fi ws (n_v vs 0) 9 + (1 * v_iv (n_v vs 1) + 0) ≤ 0)
      omega
  refine ⟨(fun _ h => (by cases h)), [], trivial, ?_, (fun _ h => (by cases h))⟩
  rw [List.append_nil]
  exact List.forall_mem_cons.mpr ⟨⟨by decide, nf0⟩, List.forall_mem_cons.mpr ⟨⟨by decide, nf1⟩, (fun _ h => (by cases h))⟩⟩
def o_Re_advance_17 : or_T := (290, 11, [(0, (2, 0, 0, [8])), (1, (0, -2147483648, 1000000, [])), (2, (2, 0, 0, [8])), (10, (0, 1, 1, []))], [(24, [0, 2], []), (101, [2, 10], [7])], [], [], [(20, [0, 0, 1], [31, 1, 3, 1, 1, 7, 0, 1, 1, 9, -1, 0, 0]), (20, [0, 0, 1], [31, 1, 3, 1, 1, 7, 0, -1, 1, 9, 1, 0, 0])], [], [])
theorem oo_Re_advance_17 {kA : Nat → ClassId} : or_ok kA GG o_Re_advance_17 := by
  intro A ta ws vs hD hth hl hk hds hf
  have hl : vs.length = 11 := hl
  have hk : ∀ q ∈ ([(0, (2, 0, 0, [8])), (1, (0, -2147483648, 1000000, [])), (2, (2, 0, 0, [8])), (10, (0, 1, 1, []))] : List (Nat × tv_T)), tv_ok ta q.2 (n_v vs q.1) := hk
  obtain ⟨t0, hk⟩ := List.forall_mem_cons.mp hk
  have t0 : tv_ok ta (2, 0, 0, [8]) (n_v vs 0) := t0
  have r0 : ta (v_ad (n_v vs 0)) = some 8 := tv_rg t0
  obtain ⟨t1, hk⟩ := List.forall_mem_cons.mp hk
  have t1 : tv_ok ta (0, -2147483648, 1000000, []) (n_v vs 1) := t1
  have k1 : (-2147483648) ≤ v_iv (n_v vs 1) ∧ v_iv (n_v vs 1) ≤ 1000000 := tv_rng t1
  obtain ⟨t2, hk⟩ := List.forall_mem_cons.mp hk
  have t2 : tv_ok ta (2, 0, 0, [8]) (n_v vs 2) := t2
  have r2 : ta (v_ad (n_v vs 2)) = some 8 := tv_rg t2
  obtain ⟨t10, hk⟩ := List.forall_mem_cons.mp hk
  have t10 : tv_ok ta (0, 1, 1, []) (n_v vs 10) := t10
  have k10 : 1 ≤ v_iv (n_v vs 10) ∧ v_iv (n_v vs 10) ≤ 1 := tv_rng t10
  have hf : fc_ok [(24, [0, 2], []), (101, [2, 10], [7])] ta ws vs := hf
  obtain ⟨f0, hf⟩ := fc_un (by decide) hf
  have f0 : n_v vs 0 = n_v vs 2 := f0
  obtain ⟨ta1, w1, le1, ⟨_, s1⟩, hf⟩ := fc_us (by decide) hf
  have s1 : (∀ b j, w_el ws b j = w_el w1 b j) ∧ ∀ b j, w_fd ws b j = if b = v_ad (n_v vs 2) ∧ j = 7 then n_v vs 10 else w_fd w1 b j := s1
  have q2 : n_v vs 2 = n_v vs 0 := f0.symm
  rw [q2] at s1
  have fe_0_7_1 : w_fi ws (n_v vs 0) 7 = v_iv (n_v vs 10) := by show v_iv (w_fd _ _ _) = _; rw [s1.2, if_pos ⟨rfl, rfl⟩]
  have fe_0_9_1 : w_fi ws (n_v vs 0) 9 = w_fi w1 (n_v vs 0) 9 := by show v_iv (w_fd _ _ _) = v_iv (w_fd _ _ _); rw [s1.2, if_neg (fun e => absurd e.2 (by decide))]
  have kz_0_7 : (-128) ≤ w_fi ws (n_v vs 0) 7 ∧ w_fi ws (n_v vs 0) 7 ≤ 127 := tv_rng (th_fd hD hth r0 (g := GG_8) rfl (k := 7) (t := (0, -128, 127, [])) rfl rfl)
  have kz_0_9 : (-2147483648) ≤ w_fi ws (n_v vs 0) 9 ∧ w_fi ws (n_v vs 0) 9 ≤ 1000000 := tv_rng (th_fd hD hth r0 (g := GG_8) rfl (k := 9) (t := (0, -2147483648, 1000000, [])) rfl rfl)
  have nf0 : fc_1 (20, [0, 0, 1], [31, 1, 3, 1, 1, 7, 0, 1, 1, 9, -1, 0, 0]) ws (vs) := by
    refine ⟨fun n hn => ?_, ?_⟩
    · have hn : n ∈ [0, 0, 1] := hn
      rw [hl]
      simp only [List.mem_cons, List.not_mem_nil, or_false] at hn
      show n < 11; omega
    · show (1 * w_fi ws (n_v vs 0) 7 + 0 ≤ 3) ∨ (1 * w_fi ws (n_v vs 0) 9 + ((-1) * v_iv (n_v vs 1) + 0) ≤ 0)
      omega
  have nf1 : fc_1 (20, [0, 0, 1], [31, 1, 3, 1, 1, 7, 0, -1, 1, 9, 1, 0, 0]) ws (vs) := by
    refine ⟨fun n hn => ?_, ?_⟩
    · have hn : n ∈ [0, 0, 1] := hn
      rw [hl]
      simp only [List.mem_cons, List.not_mem_nil, or_false] at hn
      show n < 11; omega
    · show (1 * w_fi ws (n_v vs 0) 7 + 0 ≤ 3) ∨ ((-1) * w_fi ws (n_v vs 0) 9 + (1 * v_iv (n_v vs 1) + 0) ≤ 0)
      omega
  refine ⟨(fun _ h => (by cases h)), [], trivial, ?_, (fun _ h => (by cases h))⟩
  rw [List.append_nil]
  exact List.forall_mem_cons.mpr ⟨⟨by decide, nf0⟩, List.forall_mem_cons.mpr ⟨⟨by decide, nf1⟩, (fun _ h => (by cases h))⟩⟩
def o_Re_advance_18 : or_T := (290, 11, [(0, (2, 0, 0, [8])), (1, (0, -2147483648, 1000000, [])), (2, (2, 0, 0, [8])), (10, (0, 3, 3, []))], [(24, [0, 2], []), (101, [2, 10], [7])], [], [], [(20, [0, 0, 1], [31, 1, 3, 1, 1, 7, 0, 1, 1, 9, -1, 0, 0]), (20, [0, 0, 1], [31, 1, 3, 1, 1, 7, 0, -1, 1, 9, 1, 0, 0])], [], [])
theorem oo_Re_advance_18 {kA : Nat → ClassId} : or_ok kA GG o_Re_advance_18 := by
  intro A ta ws vs hD hth hl hk hds hf
  have hl : vs.length = 11 := hl
  have hk : ∀ q ∈ ([(0, (2, 0, 0, [8])), (1, (0, -2147483648, 1000000, [])), (2, (2, 0, 0, [8])), (10, (0, 3, 3, []))] : List (Nat × tv_T)), tv_ok ta q.2 (n_v vs q.1) := hk
  obtain ⟨t0, hk⟩ := List.forall_mem_cons.mp hk
  have t0 : tv_ok ta (2, 0, 0, [8]) (n_v vs 0) := t0
  have r0 : ta (v_ad (n_v vs 0)) = some 8 := tv_rg t0
  obtain ⟨t1, hk⟩ := List.forall_mem_cons.mp hk
  have t1 : tv_ok ta (0, -2147483648, 1000000, []) (n_v vs 1) := t1
  have k1 : (-2147483648) ≤ v_iv (n_v vs 1) ∧ v_iv (n_v vs 1) ≤ 1000000 := tv_rng t1
  obtain ⟨t2, hk⟩ := List.forall_mem_cons.mp hk
  have t2 : tv_ok ta (2, 0, 0, [8]) (n_v vs 2) := t2
  have r2 : ta (v_ad (n_v vs 2)) = some 8 := tv_rg t2
  obtain ⟨t10, hk⟩ := List.forall_mem_cons.mp hk
  have t10 : tv_ok ta (0, 3, 3, []) (n_v vs 10) := t10
  have k10 : 3 ≤ v_iv (n_v vs 10) ∧ v_iv (n_v vs 10) ≤ 3 := tv_rng t10
  have hf : fc_ok [(24, [0, 2], []), (101, [2, 10], [7])] ta ws vs := hf
  obtain ⟨f0, hf⟩ := fc_un (by decide) hf
  have f0 : n_v vs 0 = n_v vs 2 := f0
  obtain ⟨ta1, w1, le1, ⟨_, s1⟩, hf⟩ := fc_us (by decide) hf
  have s1 : (∀ b j, w_el ws b j = w_el w1 b j) ∧ ∀ b j, w_fd ws b j = if b = v_ad (n_v vs 2) ∧ j = 7 then n_v vs 10 else w_fd w1 b j := s1
  have q2 : n_v vs 2 = n_v vs 0 := f0.symm
  rw [q2] at s1
  have fe_0_7_1 : w_fi ws (n_v vs 0) 7 = v_iv (n_v vs 10) := by show v_iv (w_fd _ _ _) = _; rw [s1.2, if_pos ⟨rfl, rfl⟩]
  have fe_0_9_1 : w_fi ws (n_v vs 0) 9 = w_fi w1 (n_v vs 0) 9 := by show v_iv (w_fd _ _ _) = v_iv (w_fd _ _ _); rw [s1.2, if_neg (fun e => absurd e.2 (by decide))]
  have kz_0_7 : (-128) ≤ w_fi ws (n_v vs 0) 7 ∧ w_fi ws (n_v vs 0) 7 ≤ 127 := tv_rng (th_fd hD hth r0 (g := GG_8) rfl (k := 7) (t := (0, -128, 127, [])) rfl rfl)
  have kz_0_9 : (-2147483648) ≤ w_fi ws (n_v vs 0) 9 ∧ w_fi ws (n_v vs 0) 9 ≤ 1000000 := tv_rng (th_fd hD hth r0 (g := GG_8) rfl (k := 9) (t := (0, -2147483648, 1000000, [])) rfl rfl)
  have nf0 : fc_1 (20, [0, 0, 1], [31, 1, 3, 1, 1, 7, 0, 1, 1, 9, -1, 0, 0]) ws (vs) := by
    refine ⟨fun n hn => ?_, ?_⟩
    · have hn : n ∈ [0, 0, 1] := hn
      rw [hl]
      simp only [List.mem_cons, List.not_mem_nil, or_false] at hn
      show n < 11; omega
    · show (1 * w_fi ws (n_v vs 0) 7 + 0 ≤ 3) ∨ (1 * w_fi ws (n_v vs 0) 9 + ((-1) * v_iv (n_v vs 1) + 0) ≤ 0)
      omega
  have nf1 : fc_1 (20, [0, 0, 1], [31, 1, 3, 1, 1, 7, 0, -1, 1, 9, 1, 0, 0]) ws (vs) := by
    refine ⟨fun n hn => ?_, ?_⟩
    · have hn : n ∈ [0, 0, 1] := hn
      rw [hl]
      simp only [List.mem_cons, List.not_mem_nil, or_false] at hn
      show n < 11; omega
    · show (1 * w_fi ws (n_v vs 0) 7 + 0 ≤ 3) ∨ ((-1) * w_fi ws (n_v vs 0) 9 + (1 * v_iv (n_v vs 1) + 0) ≤ 0)
      omega
  refine ⟨(fun _ h => (by cases h)), [], trivial, ?_, (fun _ h => (by cases h))⟩
  rw [List.append_nil]
  exact List.forall_mem_cons.mpr ⟨⟨by decide, nf0⟩, List.forall_mem_cons.mpr ⟨⟨by decide, nf1⟩, (fun _ h => (by cases h))⟩⟩
def o_Re_advance_19 : or_T := (290, 14, [(0, (2, 0, 0, [8])), (1, (0, -2147483648, 1000000, [])), (2, (2, 0, 0, [8])), (13, (0, 1, 1, []))], [(24, [0, 2], []), (101, [2, 13], [7])], [], [], [(20, [0, 0, 1], [31, 1, 3, 1, 1, 7, 0, 1, 1, 9, -1, 0, 0]), (20, [0, 0, 1], [31, 1, 3, 1, 1, 7, 0, -1, 1, 9, 1, 0, 0])], [], [])
theorem oo_Re_advance_19 {kA : Nat → ClassId} : or_ok kA GG o_Re_advance_19 := by
  intro A ta ws vs hD hth hl hk hds hf
  have hl : vs.length = 14 := hl
  have hk : ∀ q ∈ ([(0, (2, 0, 0, [8])), (1, (0, -2147483648, 1000000, [])), (2, (2, 0, 0, [8])), (13, (0, 1, 1, []))] : List (Nat × tv_T)), tv_ok ta q.2 (n_v vs q.1) := hk
  obtain ⟨t0, hk⟩ := List.forall_mem_cons.mp hk
  have t0 : tv_ok ta (2, 0, 0, [8]) (n_v vs 0) := t0
  have r0 : ta (v_ad (n_v vs 0)) = some 8 := tv_rg t0
  obtain ⟨t1, hk⟩ := List.forall_mem_cons.mp hk
  have t1 : tv_ok ta (0, -2147483648, 1000000, []) (n_v vs 1) := t1
  have k1 : (-2147483648) ≤ v_iv (n_v vs 1) ∧ v_iv (n_v vs 1) ≤ 1000000 := tv_rng t1
  obtain ⟨t2, hk⟩ := List.forall_mem_cons.mp hk
  have t2 : tv_ok ta (2, 0, 0, [8]) (n_v vs 2) := t2
  have r2 : ta (v_ad (n_v vs 2)) = some 8 := tv_rg t2
  obtain ⟨t13, hk⟩ := List.forall_mem_cons.mp hk
  have t13 : tv_ok ta (0, 1, 1, []) (n_v vs 13) := t13
  have k13 : 1 ≤ v_iv (n_v vs 13) ∧ v_iv (n_v vs 13) ≤ 1 := tv_rng t13
  have hf : fc_ok [(24, [0, 2], []), (101, [2, 13], [7])] ta ws vs := hf
  obtain ⟨f0, hf⟩ := fc_un (by decide) hf
  have f0 : n_v vs 0 = n_v vs 2 := f0
  obtain ⟨ta1, w1, le1, ⟨_, s1⟩, hf⟩ := fc_us (by decide) hf
  have s1 : (∀ b j, w_el ws b j = w_el w1 b j) ∧ ∀ b j, w_fd ws b j = if b = v_ad (n_v vs 2) ∧ j = 7 then n_v vs 13 else w_fd w1 b j := s1
  have q2 : n_v vs 2 = n_v vs 0 := f0.symm
  rw [q2] at s1
  have fe_0_7_1 : w_fi ws (n_v vs 0) 7 = v_iv (n_v vs 13) := by show v_iv (w_fd _ _ _) = _; rw [s1.2, if_pos ⟨rfl, rfl⟩]
  have fe_0_9_1 : w_fi ws (n_v vs 0) 9 = w_fi w1 (n_v vs 0) 9 := by show v_iv (w_fd _ _ _) = v_iv (w_fd _ _ _); rw [s1.2, if_neg (fun e => absurd e.2 (by decide))]
  have kz_0_7 : (-128) ≤ w_fi ws (n_v vs 0) 7 ∧ w_fi ws (n_v vs 0) 7 ≤ 127 := tv_rng (th_fd hD hth r0 (g := GG_8) rfl (k := 7) (t := (0, -128, 127, [])) rfl rfl)
  have kz_0_9 : (-2147483648) ≤ w_fi ws (n_v vs 0) 9 ∧ w_fi ws (n_v vs 0) 9 ≤ 1000000 := tv_rng (th_fd hD hth r0 (g := GG_8) rfl (k := 9) (t := (0, -2147483648, 1000000, [])) rfl rfl)
  have nf0 : fc_1 (20, [0, 0, 1], [31, 1, 3, 1, 1, 7, 0, 1, 1, 9, -1, 0, 0]) ws (vs) := by
    refine ⟨fun n hn => ?_, ?_⟩
    · have hn : n ∈ [0, 0, 1] := hn
      rw [hl]
      simp only [List.mem_cons, List.not_mem_nil, or_false] at hn
      show n < 14; omega
    · show (1 * w_fi ws (n_v vs 0) 7 + 0 ≤ 3) ∨ (1 * w_fi ws (n_v vs 0) 9 + ((-1) * v_iv (n_v vs 1) + 0) ≤ 0)
      omega
  have nf1 : fc_1 (20, [0, 0, 1], [31, 1, 3, 1, 1, 7, 0, -1, 1, 9, 1, 0, 0]) ws (vs) := by
    refine ⟨fun n hn => ?_, ?_⟩
    · have hn : n ∈ [0, 0, 1] := hn
      rw [hl]
      simp only [List.mem_cons, List.not_mem_nil, or_false] at hn
      show n < 14; omega
    · show (1 * w_fi ws (n_v vs 0) 7 + 0 ≤ 3) ∨ ((-1) * w_fi ws (n_v vs 0) 9 + (1 * v_iv (n_v vs 1) + 0) ≤ 0)
      omega
  refine ⟨(fun _ h => (by cases h)), [], trivial, ?_, (fun _ h => (by cases h))⟩
  rw [List.append_nil]
  exact List.forall_mem_cons.mpr ⟨⟨by decide, nf0⟩, List.forall_mem_cons.mpr ⟨⟨by decide, nf1⟩, (fun _ h => (by cases h))⟩⟩
def o_Re_advance_20 : or_T := (290, 14, [(0, (2, 0, 0, [8])), (1, (0, -2147483648, 1000000, [])), (2, (2, 0, 0, [8])), (13, (0, 3, 3, []))], [(24, [0, 2], []), (101, [2, 13], [7])], [], [], [(20, [0, 0, 1], [31, 1, 3, 1, 1, 7, 0, 1, 1, 9, -1, 0, 0]), (20, [0, 0, 1], [31, 1, 3, 1, 1, 7, 0, -1, 1, 9, 1, 0, 0])], [], [])
theorem oo_Re_advance_20 {kA : Nat → ClassId} : or_ok kA GG o_Re_advance_20 := by
  intro A ta ws vs hD hth hl hk hds hf
  have hl : vs.length = 14 := hl
  have hk : ∀ q ∈ ([(0, (2, 0, 0, [8])), (1, (0, -2147483648, 1000000, [])), (2, (2, 0, 0, [8])), (13, (0, 3, 3, []))] : List (Nat × tv_T)), tv_ok ta q.2 (n_v vs q.1) := hk
  obtain ⟨t0, hk⟩ := List.forall_mem_cons.mp hk
  have t0 : tv_ok ta (2, 0, 0, [8]) (n_v vs 0) := t0
  have r0 : ta (v_ad (n_v vs 0)) = some 8 := tv_rg t0
  obtain ⟨t1, hk⟩ := List.forall_mem_cons.mp hk
  have t1 : tv_ok ta (0, -2147483648, 1000000, []) (n_v vs 1) := t1
  have k1 : (-2147483648) ≤ v_iv (n_v vs 1) ∧ v_iv (n_v vs 1) ≤ 1000000 := tv_rng t1
  obtain ⟨t2, hk⟩ := List.forall_mem_cons.mp hk
  have t2 : tv_ok ta (2, 0, 0, [8]) (n_v vs 2) := t2
  have r2 : ta (v_ad (n_v vs 2)) = some 8 := tv_rg t2
  obtain ⟨t13, hk⟩ := List.forall_mem_cons.mp hk
  have t13 : tv_ok ta (0, 3, 3, []) (n_v vs 13) := t13
  have k13 : 3 ≤ v_iv (n_v vs 13) ∧ v_iv (n_v vs 13) ≤ 3 := tv_rng t13
  have hf : fc_ok [(24, [0, 2], []), (101, [2, 13], [7])] ta ws vs := hf
  obtain ⟨f0, hf⟩ := fc_un (by decide) hf
  have f0 : n_v vs 0 = n_v vs 2 := f0
  obtain ⟨ta1, w1, le1, ⟨_, s1⟩, hf⟩ := fc_us (by decide) hf
  have s1 : (∀ b j, w_el ws b j = w_el w1 b j) ∧ ∀ b j, w_fd ws b j = if b = v_ad (n_v vs 2) ∧ j = 7 then n_v vs 13 else w_fd w1 b j := s1
  have q2 : n_v vs 2 = n_v vs 0 := f0.symm
  rw [q2] at s1
  have fe_0_7_1 : w_fi ws (n_v vs 0) 7 = v_iv (n_v vs 13) := by show v_iv (w_fd _ _ _) = _; rw [s1.2, if_pos ⟨rfl, rfl⟩]
  have fe_0_9_1 : w_fi ws (n_v vs 0) 9 = w_fi w1 (n_v vs 0) 9 := by show v_iv (w_fd _ _ _) = v_iv (w_fd _ _ _); rw [s1.2, if_neg (fun e => absurd e.2 (by decide))]
  have kz_0_7 : (-128) ≤ w_fi ws (n_v vs 0) 7 ∧ w_fi ws (n_v vs 0) 7 ≤ 127 := tv_rng (th_fd hD hth r0 (g := GG_8) rfl (k := 7) (t := (0, -128, 127, [])) rfl rfl)
  have kz_0_9 : (-2147483648) ≤ w_fi ws (n_v vs 0) 9 ∧ w_fi ws (n_v vs 0) 9 ≤ 1000000 := tv_rng (th_fd hD hth r0 (g := GG_8) rfl (k := 9) (t := (0, -2147483648, 1000000, [])) rfl rfl)
  have nf0 : fc_1 (20, [0, 0, 1], [31, 1, 3, 1, 1, 7, 0, 1, 1, 9, -1, 0, 0]) ws (vs) := by
    refine ⟨fun n hn => ?_, ?_⟩
    · have hn : n ∈ [0, 0, 1] := hn
      rw [hl]
      simp only [List.mem_cons, List.not_mem_nil, or_false] at hn
      show n < 14; omega
    · show (1 * w_fi ws (n_v vs 0) 7 + 0 ≤ 3) ∨ (1 * w_fi ws (n_v vs 0) 9 + ((-1) * v_iv (n_v vs 1) + 0) ≤ 0)
      omega
  have nf1 : fc_1 (20, [0, 0, 1], [31, 1, 3, 1, 1, 7, 0, -1, 1, 9, 1, 0, 0]) ws (vs) := by
    refine ⟨fun n hn => ?_, ?_⟩
    · have hn : n ∈ [0, 0, 1] := hn
      rw [hl]
      simp only [List.mem_cons, List.not_mem_nil, or_false] at hn
      show n < 14; omega
    · show (1 * w_fi ws (n_v vs 0) 7 + 0 ≤ 3) ∨ ((-1) * w_fi ws (n_v vs 0) 9 + (1 * v_iv (n_v vs 1) + 0) ≤ 0)
      omega
  refine ⟨(fun _ h => (by cases h)), [], trivial, ?_, (fun _ h => (by cases h))⟩
  rw [List.append_nil]
  exact List.forall_mem_cons.mpr ⟨⟨by decide, nf0⟩, List.forall_mem_cons.mpr ⟨⟨by decide, nf1⟩, (fun _ h => (by cases h))⟩⟩
def n_Re_advance_an : List an_T := [(0, [(0, (2, 0, 0, [8]))], [], (0, 0), [(0, 0, 100000), (1, 3, 2000), (0, 0, 100000)], [(1, 3, -1000000000000, 1000000)], [((0, 6), (0, 0, 2000, []))], [(2, 0, 0, [8]), (0, -2147483648, 1000000, [])], 0, [], [(20, [2, 1], [30, 0, 1, 1, 9, -1, 0, 0]), (20, [2, 1], [30, 0, -1, 1, 9, 1, 0, 0]), (24, [0, 2], [])]), (94, [(0, (2, 0, 0, [8])), (1, (0, 65, 122, []))], [], (0, 0), [(0, 0, 99906), (1, 4, 2000), (0, 0, 100000)], [(1, 3, -1000000000000, 999935), (1, 4, -1000000000000, 1000000), (3, 4, -1000000000000, 122), (4, 3, -1000000000000, 1935)], [((0, 6), (0, 0, 2000, []))], [(2, 0, 0, [8]), (0, -2147483648, 1000000, [])], 0, [], [(20, [2, 1], [30, 0, 1, 1, 9, -1, 0, 0]), (20, [2, 1], [30, 0, -1, 1, 9, 1, 0, 0]), (24, [0, 2], [])]), (171, [(0, (2, 0, 0, [8])), (1, (0, 48, 57, []))], [], (0, 0), [(0, 0, 99829), (1, 5, 2000), (0, 0, 100000)], [(1, 3, -1000000000000, 999952), (1, 5, -1000000000000, 1000000), (3, 5, -1000000000000, 57), (5, 3, -1000000000000, 1952)], [((0, 9), (0, -2147483648, 1000000, [])), ((0, 6), (0, 0, 2000, []))], [(2, 0, 0, [8]), (0, -2147483648, 1000000, [])], 0, [], [(24, [0, 2], [])])]
def t_Re_advance_ct : ct_L := [(0, 64, e_Re_isLetter), (0, 68, e_Re_isDigit), (0, 71, e_Re_isNameByte), (0, 81, e_Re_isSign), (663, 75, e_jMath_min1_v59), (663, 75, e_jMath_min1_v60), (663, 75, e_jMath_min1_v61), (663, 75, e_jMath_min1_v62), (663, 75, e_jMath_min1_v63)]
set_option maxRecDepth 100000 in
theorem c_Re_advance {l : Launch} {D : va_G} {kA : Nat → ClassId} (h_Re_isDigit : ct_ok l D kA GG y_Re_isDigit z_Re_isDigit e_Re_isDigit) (h_Re_isLetter : ct_ok l D kA GG y_Re_isLetter z_Re_isLetter e_Re_isLetter) (h_Re_isNameByte : ct_ok l D kA GG y_Re_isNameByte z_Re_isNameByte e_Re_isNameByte) (h_Re_isSign : ct_ok l D kA GG y_Re_isSign z_Re_isSign e_Re_isSign) : ct_ok l D kA GG y_Re_advance z_Re_advance e_Re_advance := chk_all_ok (FT := [(9, 8, 0), (32, 8, 5), (35, 8, 6), (41, 8, 8), (44, 8, 9)]) (PT := [(35, 8, 6, .int), (38, 8, 7, .int), (41, 8, 8, .int), (44, 8, 9, .int)]) (CT := t_Re_advance_ct) (KT := [(0, 74, .int (1000000), (0, 1000000, 1000000, []))]) (NT := []) (AN := n_Re_advance_an) (OT := [o_Re_advance_0, o_Re_advance_1, o_Re_advance_2, o_Re_advance_3, o_Re_advance_4, o_Re_advance_5, o_Re_advance_6, o_Re_advance_7, o_Re_advance_8, o_Re_advance_9, o_Re_advance_10, o_Re_advance_11, o_Re_advance_12, o_Re_advance_13, o_Re_advance_14, o_Re_advance_15, o_Re_advance_16, o_Re_advance_17, o_Re_advance_18, o_Re_advance_19, o_Re_advance_20]) 3 1876 (List.forall_mem_cons.mpr ⟨oo_Re_advance_0, List.forall_mem_cons.mpr ⟨oo_Re_advance_1, List.forall_mem_cons.mpr ⟨oo_Re_advance_2, List.forall_mem_cons.mpr ⟨oo_Re_advance_3, List.forall_mem_cons.mpr ⟨oo_Re_advance_4, List.forall_mem_cons.mpr ⟨oo_Re_advance_5, List.forall_mem_cons.mpr ⟨oo_Re_advance_6, List.forall_mem_cons.mpr ⟨oo_Re_advance_7, List.forall_mem_cons.mpr ⟨oo_Re_advance_8, List.forall_mem_cons.mpr ⟨oo_Re_advance_9, List.forall_mem_cons.mpr ⟨oo_Re_advance_10, List.forall_mem_cons.mpr ⟨oo_Re_advance_11, List.forall_mem_cons.mpr ⟨oo_Re_advance_12, List.forall_mem_cons.mpr ⟨oo_Re_advance_13, List.forall_mem_cons.mpr ⟨oo_Re_advance_14, List.forall_mem_cons.mpr ⟨oo_Re_advance_15, List.forall_mem_cons.mpr ⟨oo_Re_advance_16, List.forall_mem_cons.mpr ⟨oo_Re_advance_17, List.forall_mem_cons.mpr ⟨oo_Re_advance_18, List.forall_mem_cons.mpr ⟨oo_Re_advance_19, List.forall_mem_cons.mpr ⟨oo_Re_advance_20, List.forall_mem_nil _⟩⟩⟩⟩⟩⟩⟩⟩⟩⟩⟩⟩⟩⟩⟩⟩⟩⟩⟩⟩⟩) (by decide +kernel) ⟨List.forall_mem_cons.mpr ⟨gf_Re_9, List.forall_mem_cons.mpr ⟨gf_Re_32, List.forall_mem_cons.mpr ⟨gf_Re_35, List.forall_mem_cons.mpr ⟨gf_Re_41, List.forall_mem_cons.mpr ⟨gf_Re_44, List.forall_mem_nil _⟩⟩⟩⟩⟩, List.forall_mem_cons.mpr ⟨pf_Re_35, List.forall_mem_cons.mpr ⟨pf_Re_38, List.forall_mem_cons.mpr ⟨pf_Re_41, List.forall_mem_cons.mpr ⟨pf_Re_44, List.forall_mem_nil _⟩⟩⟩⟩, List.forall_mem_cons.mpr ⟨cl_static (y := y_Re_isLetter) h_Re_isLetter wm_648 wm_2 wm_646 wm_647 ⟨by decide, by decide, by decide +kernel⟩ (by decide), List.forall_mem_cons.mpr ⟨cl_static (y := y_Re_isDigit) h_Re_isDigit wm_654 wm_2 wm_652 wm_653 ⟨by decide, by decide, by decide +kernel⟩ (by decide), List.forall_mem_cons.mpr ⟨cl_static (y := y_Re_isNameByte) h_Re_isNameByte wm_651 wm_2 wm_649 wm_650 ⟨by decide, by decide, by decide +kernel⟩ (by decide), List.forall_mem_cons.mpr ⟨cl_static (y := y_Re_isSign) h_Re_isSign wm_661 wm_2 wm_659 wm_660 ⟨by decide, by decide, by decide +kernel⟩ (by decide), List.forall_mem_cons.mpr ⟨cl_static (y := y_jMath_min1) c_jMath_min1_v59 wm_658 wm_10 wm_656 wm_657 ⟨by decide, by decide, by decide +kernel⟩ (by decide), List.forall_mem_cons.mpr ⟨cl_static (y := y_jMath_min1) c_jMath_min1_v60 wm_658 wm_10 wm_656 wm_657 ⟨by decide, by decide, by decide +kernel⟩ (by decide), List.forall_mem_cons.mpr ⟨cl_static (y := y_jMath_min1) c_jMath_min1_v61 wm_658 wm_10 wm_656 wm_657 ⟨by decide, by decide, by decide +kernel⟩ (by decide), List.forall_mem_cons.mpr ⟨cl_static (y := y_jMath_min1) c_jMath_min1_v62 wm_658 wm_10 wm_656 wm_657 ⟨by decide, by decide, by decide +kernel⟩ (by decide), List.forall_mem_cons.mpr ⟨cl_static (y := y_jMath_min1) c_jMath_min1_v63 wm_658 wm_10 wm_656 wm_657 ⟨by decide, by decide, by decide +kernel⟩ (by decide), List.forall_mem_nil _⟩⟩⟩⟩⟩⟩⟩⟩⟩, List.forall_mem_cons.mpr ⟨kx_Re_0_74, List.forall_mem_nil _⟩, List.forall_mem_nil _, GG_pl⟩ (by decide +kernel)
def o_Sy_isWordAt_at_s5004_0 : or_T := (20, 9, [(0, (2, 0, 0, [11])), (2, (0, 0, 47, [])), (3, (0, 0, 38, [])), (5, (0, 0, 2000, [])), (6, (0, 0, 2000, [])), (7, (0, -47, 38, [])), (8, (0, -47, 38, []))], [(7, [7, 8], [0]), (2, [8, 3, 2], []), (2, [7, 5, 6], []), (9, [6, 0], [7]), (9, [5, 0], [5])], [], [], [(20, [0, 3, 2], [30, 2000, 1, 1, 7, 1, 0, 0, -1, 0, 0]), (20, [2, 2], [30, 0, 1, 0, 0, -1, 0, 0])], [], [(7, 8, 0, 0), (8, 3, -47, 0), (7, 5, -2000, 0)])
theorem oo_Sy_isWordAt_at_s5004_0 {kA : Nat → ClassId} : or_ok kA GG o_Sy_isWordAt_at_s5004_0 := by
  intro A ta ws vs hD hth hl hk hds hf
  have hl : vs.length = 9 := hl
  have hk : ∀ q ∈ ([(0, (2, 0, 0, [11])), (2, (0, 0, 47, [])), (3, (0, 0, 38, [])), (5, (0, 0, 2000, [])), (6, (0, 0, 2000, [])), (7, (0, -47, 38, [])), (8, (0, -47, 38, []))] : List (Nat × tv_T)), tv_ok ta q.2 (n_v vs q.1) := hk
  obtain ⟨t0, hk⟩ := List.forall_mem_cons.mp hk
  have t0 : tv_ok ta (2, 0, 0, [11]) (n_v vs 0) := t0
  have r0 : ta (v_ad (n_v vs 0)) = some 11 := tv_rg t0
  obtain ⟨t2, hk⟩ := List.forall_mem_cons.mp hk
  have t2 : tv_ok ta (0, 0, 47, []) (n_v vs 2) := t2
  have k2 : 0 ≤ v_iv (n_v vs 2) ∧ v_iv (n_v vs 2) ≤ 47 := tv_rng t2
  obtain ⟨t3, hk⟩ := List.forall_mem_cons.mp hk
  have t3 : tv_ok ta (0, 0, 38, []) (n_v vs 3) := t3
  have k3 : 0 ≤ v_iv (n_v vs 3) ∧ v_iv (n_v vs 3) ≤ 38 := tv_rng t3
  obtain ⟨t5, hk⟩ := List.forall_mem_cons.mp hk
  have t5 : tv_ok ta (0, 0, 2000, []) (n_v vs 5) := t5
  have k5 : 0 ≤ v_iv (n_v vs 5) ∧ v_iv (n_v vs 5) ≤ 2000 := tv_rng t5
  obtain ⟨t6, hk⟩ := List.forall_mem_cons.mp hk
  have t6 : tv_ok ta (0, 0, 2000, []) (n_v vs 6) := t6
  have k6 : 0 ≤ v_iv (n_v vs 6) ∧ v_iv (n_v vs 6) ≤ 2000 := tv_rng t6
  obtain ⟨t7, hk⟩ := List.forall_mem_cons.mp hk
  have t7 : tv_ok ta (0, -47, 38, []) (n_v vs 7) := t7
  have k7 : (-47) ≤ v_iv (n_v vs 7) ∧ v_iv (n_v vs 7) ≤ 38 := tv_rng t7
  obtain ⟨t8, hk⟩ := List.forall_mem_cons.mp hk
  have t8 : tv_ok ta (0, -47, 38, []) (n_v vs 8) := t8
  have k8 : (-47) ≤ v_iv (n_v vs 8) ∧ v_iv (n_v vs 8) ≤ 38 := tv_rng t8
  have hds : ∀ q ∈ ([(7, 8, 0, 0), (8, 3, -47, 0), (7, 5, -2000, 0)] : List of_T), n_iv vs q.2.1 + q.2.2.1 ≤ n_iv vs q.1 ∧ n_iv vs q.1 ≤ n_iv vs q.2.1 + q.2.2.2 := hds
  obtain ⟨d0, hds⟩ := List.forall_mem_cons.mp hds
  have d0 : v_iv (n_v vs 8) + 0 ≤ v_iv (n_v vs 7) ∧ v_iv (n_v vs 7) ≤ v_iv (n_v vs 8) + 0 := d0
  obtain ⟨d1, hds⟩ := List.forall_mem_cons.mp hds
  have d1 : v_iv (n_v vs 3) + (-47) ≤ v_iv (n_v vs 8) ∧ v_iv (n_v vs 8) ≤ v_iv (n_v vs 3) + 0 := d1
  obtain ⟨d2, hds⟩ := List.forall_mem_cons.mp hds
  have d2 : v_iv (n_v vs 5) + (-2000) ≤ v_iv (n_v vs 7) ∧ v_iv (n_v vs 7) ≤ v_iv (n_v vs 5) + 0 := d2
  have hf : fc_ok [(7, [7, 8], [0]), (2, [8, 3, 2], []), (2, [7, 5, 6], []), (9, [6, 0], [7]), (9, [5, 0], [5])] ta ws vs := hf
  obtain ⟨f0, hf⟩ := fc_un (by decide) hf
  have f0 : v_iv (n_v vs 7) = v_iv (n_v vs 8) := f0
  obtain ⟨f1, hf⟩ := fc_un (by decide) hf
  have f1 : v_iv (n_v vs 8) = v_iv (n_v vs 3) - v_iv (n_v vs 2) := f1
  obtain ⟨f2, hf⟩ := fc_un (by decide) hf
  have f2 : v_iv (n_v vs 7) = v_iv (n_v vs 5) - v_iv (n_v vs 6) := f2
  obtain ⟨f3, hf⟩ := fc_un (by decide) hf
  have f3 : n_v vs 6 = w_fd ws (v_ad (n_v vs 0)) 7 := f3
  obtain ⟨f4, hf⟩ := fc_un (by decide) hf
  have f4 : n_v vs 5 = w_fd ws (v_ad (n_v vs 0)) 5 := f4
  have g3 : v_iv (n_v vs 6) = w_fi ws (n_v vs 0) 7 := congrArg v_iv f3
  have g4 : v_iv (n_v vs 5) = w_fi ws (n_v vs 0) 5 := congrArg v_iv f4
  have kz_0_5 : 0 ≤ w_fi ws (n_v vs 0) 5 ∧ w_fi ws (n_v vs 0) 5 ≤ 2000 := tv_rng (th_fd hD hth r0 (g := GG_11) rfl (k := 5) (t := (0, 0, 2000, [])) rfl rfl)
  have kz_0_7 : 0 ≤ w_fi ws (n_v vs 0) 7 ∧ w_fi ws (n_v vs 0) 7 ≤ 2000 := tv_rng (th_fd hD hth r0 (g := GG_11) rfl (k := 7) (t := (0, 0, 2000, [])) rfl rfl)
  have nf0 : fc_1 (20, [0, 3, 2], [30, 2000, 1, 1, 7, 1, 0, 0, -1, 0, 0]) ws (vs) := by
    refine ⟨fun n hn => ?_, ?_⟩
    · have hn : n ∈ [0, 3, 2] := hn
      rw [hl]
      simp only [List.mem_cons, List.not_mem_nil, or_false] at hn
      show n < 9; omega
    · show 1 * w_fi ws (n_v vs 0) 7 + (1 * v_iv (n_v vs 3) + ((-1) * v_iv (n_v vs 2) + 0)) ≤ 2000
      omega
  have nf1 : fc_1 (20, [2, 2], [30, 0, 1, 0, 0, -1, 0, 0]) ws (vs) := by
    refine ⟨fun n hn => ?_, ?_⟩
    · have hn : n ∈ [2, 2] := hn
      rw [hl]
      simp only [List.mem_cons, List.not_mem_nil, or_false] at hn
      show n < 9; omega
    · show 1 * v_iv (n_v vs 2) + ((-1) * v_iv (n_v vs 2) + 0) ≤ 0
      omega
  refine ⟨(fun _ h => (by cases h)), [], trivial, ?_, (fun _ h => (by cases h))⟩
  rw [List.append_nil]
  exact List.forall_mem_cons.mpr ⟨⟨by decide, nf0⟩, List.forall_mem_cons.mpr ⟨⟨by decide, nf1⟩, (fun _ h => (by cases h))⟩⟩
def o_Sy_isWordAt_at_s5004_1 : or_T := (45, 10, [(0, (2, 0, 0, [11])), (2, (0, 0, 37, [])), (3, (0, 1, 38, [])), (4, (0, 0, 37, [])), (7, (0, 0, 2000, [])), (8, (0, 0, 2037, [])), (9, (0, -37, 2037, []))], [(2, [9, 8, 2], []), (1, [8, 7, 4], []), (9, [7, 0], [7]), (7, [4, 3], [2]), (20, [0, 3, 2], [30, 2000, 1, 1, 7, 1, 0, 0, -1, 0, 0]), (20, [2, 4], [30, 0, 1, 0, 0, -1, 0, 0])], [(9, (0, 0, 1999, []))], [], [], [], [(9, 8, -37, 0), (9, 4, -37, 2000), (9, 3, -4294967296, 1999), (9, 3, -4294967296, 2047), (9, 7, -37, 37), (8, 4, 0, 2000), (8, 3, -4294967296, 1999), (8, 3, -4294967296, 2047), (8, 7, 0, 37), (4, 3, -4294967296, -1), (2, 3, -4294967296, 47), (2, 4, -4294967296, 0), (3, 2, -4294967296, 38), (3, 4, -4294967296, 38), (4, 3, -4294967296, 47)])
theorem oo_Sy_isWordAt_at_s5004_1 {kA : Nat → ClassId} : or_ok kA GG o_Sy_isWordAt_at_s5004_1 := by
  intro A ta ws vs hD hth hl hk hds hf
  have hl : vs.length = 10 := hl
  have hk : ∀ q ∈ ([(0, (2, 0, 0, [11])), (2, (0, 0, 37, [])), (3, (0, 1, 38, [])), (4, (0, 0, 37, [])), (7, (0, 0, 2000, [])), (8, (0, 0, 2037, [])), (9, (0, -37, 2037, []))] : List (Nat × tv_T)), tv_ok ta q.2 (n_v vs q.1) := hk
  obtain ⟨t0, hk⟩ := List.forall_mem_cons.mp hk
  have t0 : tv_ok ta (2, 0, 0, [11]) (n_v vs 0) := t0
  have r0 : ta (v_ad (n_v vs 0)) = some 11 := tv_rg t0
  obtain ⟨t2, hk⟩ := List.forall_mem_cons.mp hk
  have t2 : tv_ok ta (0, 0, 37, []) (n_v vs 2) := t2
  have k2 : 0 ≤ v_iv (n_v vs 2) ∧ v_iv (n_v vs 2) ≤ 37 := tv_rng t2
  obtain ⟨t3, hk⟩ := List.forall_mem_cons.mp hk
  have t3 : tv_ok ta (0, 1, 38, []) (n_v vs 3) := t3
  have k3 : 1 ≤ v_iv (n_v vs 3) ∧ v_iv (n_v vs 3) ≤ 38 := tv_rng t3
  obtain ⟨t4, hk⟩ := List.forall_mem_cons.mp hk
  have t4 : tv_ok ta (0, 0, 37, []) (n_v vs 4) := t4
  have k4 : 0 ≤ v_iv (n_v vs 4) ∧ v_iv (n_v vs 4) ≤ 37 := tv_rng t4
  obtain ⟨t7, hk⟩ := List.forall_mem_cons.mp hk
  have t7 : tv_ok ta (0, 0, 2000, []) (n_v vs 7) := t7
  have k7 : 0 ≤ v_iv (n_v vs 7) ∧ v_iv (n_v vs 7) ≤ 2000 := tv_rng t7
  obtain ⟨t8, hk⟩ := List.forall_mem_cons.mp hk
  have t8 : tv_ok ta (0, 0, 2037, []) (n_v vs 8) := t8
  have k8 : 0 ≤ v_iv (n_v vs 8) ∧ v_iv (n_v vs 8) ≤ 2037 := tv_rng t8
  obtain ⟨t9, hk⟩ := List.forall_mem_cons.mp hk
  have t9 : tv_ok ta (0, -37, 2037, []) (n_v vs 9) := t9
  have k9 : (-37) ≤ v_iv (n_v vs 9) ∧ v_iv (n_v vs 9) ≤ 2037 := tv_rng t9
  have hds : ∀ q ∈ ([(9, 8, -37, 0), (9, 4, -37, 2000), (9, 3, -4294967296, 1999), (9, 3, -4294967296, 2047), (9, 7, -37, 37), (8, 4, 0, 2000), (8, 3, -4294967296, 1999), (8, 3, -4294967296, 2047), (8, 7, 0, 37), (4, 3, -4294967296, -1), (2, 3, -4294967296, 47), (2, 4, -4294967296, 0), (3, 2, -4294967296, 38), (3, 4, -4294967296, 38), (4, 3, -4294967296, 47)] : List of_T), n_iv vs q.2.1 + q.2.2.1 ≤ n_iv vs q.1 ∧ n_iv vs q.1 ≤ n_iv vs q.2.1 + q.2.2.2 := hds
  obtain ⟨d0, hds⟩ := List.forall_mem_cons.mp hds
  have d0 : v_iv (n_v vs 8) + (-37) ≤ v_iv (n_v vs 9) ∧ v_iv (n_v vs 9) ≤ v_iv (n_v vs 8) + 0 := d0
  obtain ⟨d1, hds⟩ := List.forall_mem_cons.mp hds
  have d1 : v_iv (n_v vs 4) + (-37) ≤ v_iv (n_v vs 9) ∧ v_iv (n_v vs 9) ≤ v_iv (n_v vs 4) + 2000 := d1
  obtain ⟨d2, hds⟩ := List.forall_mem_cons.mp hds
  have d2 : v_iv (n_v vs 3) + (-4294967296) ≤ v_iv (n_v vs 9) ∧ v_iv (n_v vs 9) ≤ v_iv (n_v vs 3) + 1999 := d2
  obtain ⟨d3, hds⟩ := List.forall_mem_cons.mp hds
  have d3 : v_iv (n_v vs 3) + (-4294967296) ≤ v_iv (n_v vs 9) ∧ v_iv (n_v vs 9) ≤ v_iv (n_v vs 3) + 2047 := d3
  obtain ⟨d4, hds⟩ := List.forall_mem_cons.mp hds
  have d4 : v_iv (n_v vs 7) + (-37) ≤ v_iv (n_v vs 9) ∧ v_iv (n_v vs 9) ≤ v_iv (n_v vs 7) + 37 := d4
  obtain ⟨d5, hds⟩ := List.forall_mem_cons.mp hds
  have d5 : v_iv (n_v vs 4) + 0 ≤ v_iv (n_v vs 8) ∧ v_iv (n_v vs 8) ≤ v_iv (n_v vs 4) + 2000 := d5
  obtain ⟨d6, hds⟩ := List.forall_mem_cons.mp hds
  have d6 : v_iv (n_v vs 3) + (-4294967296) ≤ v_iv (n_v vs 8) ∧ v_iv (n_v vs 8) ≤ v_iv (n_v vs 3) + 1999 := d6
  obtain ⟨d7, hds⟩ := List.forall_mem_cons.mp hds
  have d7 : v_iv (n_v vs 3) + (-4294967296) ≤ v_iv (n_v vs 8) ∧ v_iv (n_v vs 8) ≤ v_iv (n_v vs 3) + 2047 := d7
  obtain ⟨d8, hds⟩ := List.forall_mem_cons.mp hds
  have d8 : v_iv (n_v vs 7) + 0 ≤ v_iv (n_v vs 8) ∧ v_iv (n_v vs 8) ≤ v_iv (n_v vs 7) + 37 := d8
  obtain ⟨d9, hds⟩ := List.forall_mem_cons.mp hds
  have d9 : v_iv (n_v vs 3) + (-4294967296) ≤ v_iv (n_v vs 4) ∧ v_iv (n_v vs 4) ≤ v_iv (n_v vs 3) + (-1) := d9
  obtain ⟨d10, hds⟩ := List.forall_mem_cons.mp hds
  have d10 : v_iv (n_v vs 3) + (-4294967296) ≤ v_iv (n_v vs 2) ∧ v_iv (n_v vs 2) ≤ v_iv (n_v vs 3) + 47 := d10
  obtain ⟨d11, hds⟩ := List.forall_mem_cons.mp hds
  have d11 : v_iv (n_v vs 4) + (-4294967296) ≤ v_iv (n_v vs 2) ∧ v_iv (n_v vs 2) ≤ v_iv (n_v vs 4) + 0 := d11
  obtain ⟨d12, hds⟩ := List.forall_mem_cons.mp hds
  have d12 : v_iv (n_v vs 2) + (-4294967296) ≤ v_iv (n_v vs 3) ∧ v_iv (n_v vs 3) ≤ v_iv (n_v vs 2) + 38 := d12
  obtain ⟨d13, hds⟩ := List.forall_mem_cons.mp hds
  have d13 : v_iv (n_v vs 4) + (-4294967296) ≤ v_iv (n_v vs 3) ∧ v_iv (n_v vs 3) ≤ v_iv (n_v vs 4) + 38 := d13
  obtain ⟨d14, hds⟩ := List.forall_mem_cons.mp hds
  have d14 : v_iv (n_v vs 3) + (-4294967296) ≤ v_iv (n_v vs 4) ∧ v_iv (n_v vs 4) ≤ v_iv (n_v vs 3) + 47 := d14
  have hf : fc_ok [(2, [9, 8, 2], []), (1, [8, 7, 4], []), (9, [7, 0], [7]), (7, [4, 3], [2]), (20, [0, 3, 2], [30, 2000, 1, 1, 7, 1, 0, 0, -1, 0, 0]), (20, [2, 4], [30, 0, 1, 0, 0, -1, 0, 0])] ta ws vs := hf
  obtain ⟨f0, hf⟩ := fc_un (by decide) hf
  have f0 : v_iv (n_v vs 9) = v_iv (n_v vs 8) - v_iv (n_v vs 2) := f0
  obtain ⟨f1, hf⟩ := fc_un (by decide) hf
  have f1 : v_iv (n_v vs 8) = v_iv (n_v vs 7) + v_iv (n_v vs 4) := f1
  obtain ⟨f2, hf⟩ := fc_un (by decide) hf
  have f2 : n_v vs 7 = w_fd ws (v_ad (n_v vs 0)) 7 := f2
  obtain ⟨f3, hf⟩ := fc_un (by decide) hf
  have f3 : v_iv (n_v vs 4) < v_iv (n_v vs 3) := f3
  obtain ⟨f4, hf⟩ := fc_un (by decide) hf
  have f4 : 1 * w_fi ws (n_v vs 0) 7 + (1 * v_iv (n_v vs 3) + ((-1) * v_iv (n_v vs 2) + 0)) ≤ 2000 := f4
  obtain ⟨f5, hf⟩ := fc_un (by decide) hf
  have f5 : 1 * v_iv (n_v vs 2) + ((-1) * v_iv (n_v vs 4) + 0) ≤ 0 := f5
  have g2 : v_iv (n_v vs 7) = w_fi ws (n_v vs 0) 7 := congrArg v_iv f2
  have kz_0_7 : 0 ≤ w_fi ws (n_v vs 0) 7 ∧ w_fi ws (n_v vs 0) 7 ≤ 2000 := tv_rng (th_fd hD hth r0 (g := GG_11) rfl (k := 7) (t := (0, 0, 2000, [])) rfl rfl)
  have rf9 : tv_ok ta (0, 0, 1999, []) (n_v vs 9) := tv_in t9 (by omega) (by omega)
  refine ⟨List.forall_mem_cons.mpr ⟨rf9, (fun _ h => (by cases h))⟩, [], trivial, ?_, (fun _ h => (by cases h))⟩
  rw [List.append_nil]
  exact (fun _ h => (by cases h))
def o_Sy_isWordAt_at_s5004_2 : or_T := (20, 12, [(0, (2, 0, 0, [11])), (2, (0, 0, 37, [])), (3, (0, 1, 38, [])), (4, (0, 0, 37, [])), (7, (0, 0, 2000, [])), (8, (0, 0, 2037, [])), (9, (0, 0, 1999, [])), (11, (0, 1, 38, []))], [(6, [11, 4], [1]), (2, [9, 8, 2], []), (1, [8, 7, 4], []), (9, [7, 0], [7]), (7, [4, 3], [2]), (20, [0, 3, 2], [30, 2000, 1, 1, 7, 1, 0, 0, -1, 0, 0]), (20, [2, 4], [30, 0, 1, 0, 0, -1, 0, 0])], [], [], [(20, [2, 11], [30, 0, 1, 0, 0, -1, 0, 0])], [], [(11, 4, 1, 1), (11, 3, -4294967296, 0), (11, 3, -4294967296, 48), (9, 8, -37, 0), (9, 4, -37, 2000), (9, 3, -4294967296, 1999), (9, 3, -4294967296, 2047), (9, 7, -37, 37), (8, 4, 0, 2000), (8, 3, -4294967296, 1999), (8, 3, -4294967296, 2047), (8, 7, 0, 37), (4, 3, -4294967296, -1), (2, 3, -4294967296, 47), (2, 4, -4294967296, 0), (3, 2, -4294967296, 38), (3, 4, -4294967296, 38), (4, 3, -4294967296, 47)])
theorem oo_Sy_isWordAt_at_s5004_2 {kA : Nat → ClassId} : or_ok kA GG o_Sy_isWordAt_at_s5004_2 := by
  intro A ta ws vs hD hth hl hk hds hf
  have hl : vs.length = 12 := hl
  have hk : ∀ q ∈ ([(0, (2, 0, 0, [11])), (2, (0, 0, 37, [])), (3, (0, 1, 38, [])), (4, (0, 0, 37, [])), (7, (0, 0, 2000, [])), (8, (0, 0, 2037, [])), (9, (0, 0, 1999, [])), (11, (0, 1, 38, []))] : List (Nat × tv_T)), tv_ok ta q.2 (n_v vs q.1) := hk
  obtain ⟨t0, hk⟩ := List.forall_mem_cons.mp hk
  have t0 : tv_ok ta (2, 0, 0, [11]) (n_v vs 0) := t0
  have r0 : ta (v_ad (n_v vs 0)) = some 11 := tv_rg t0
  obtain ⟨t2, hk⟩ := List.forall_mem_cons.mp hk
  have t2 : tv_ok ta (0, 0, 37, []) (n_v vs 2) := t2
  have k2 : 0 ≤ v_iv (n_v vs 2) ∧ v_iv (n_v vs 2) ≤ 37 := tv_rng t2
  obtain ⟨t3, hk⟩ := List.forall_mem_cons.mp hk
  have t3 : tv_ok ta (0, 1, 38, []) (n_v vs 3) := t3
  have k3 : 1 ≤ v_iv (n_v vs 3) ∧ v_iv (n_v vs 3) ≤ 38 := tv_rng t3
  obtain ⟨t4, hk⟩ := List.forall_mem_cons.mp hk
  have t4 : tv_ok ta (0, 0, 37, []) (n_v vs 4) := t4
  have k4 : 0 ≤ v_iv (n_v vs 4) ∧ v_iv (n_v vs 4) ≤ 37 := tv_rng t4
  obtain ⟨t7, hk⟩ := List.forall_mem_cons.mp hk
  have t7 : tv_ok ta (0, 0, 2000, []) (n_v vs 7) := t7
  have k7 : 0 ≤ v_iv (n_v vs 7) ∧ v_iv (n_v vs 7) ≤ 2000 := tv_rng t7
  obtain ⟨t8, hk⟩ := List.forall_mem_cons.mp hk
  have t8 : tv_ok ta (0, 0, 2037, []) (n_v vs 8) := t8
  have k8 : 0 ≤ v_iv (n_v vs 8) ∧ v_iv (n_v vs 8) ≤ 2037 := tv_rng t8
  obtain ⟨t9, hk⟩ := List.forall_mem_cons.mp hk
  have t9 : tv_ok ta (0, 0, 1999, []) (n_v vs 9) := t9
  have k9 : 0 ≤ v_iv (n_v vs 9) ∧ v_iv (n_v vs 9) ≤ 1999 := tv_rng t9
  obtain ⟨t11, hk⟩ := List.forall_mem_cons.mp hk
  have t11 : tv_ok ta (0, 1, 38, []) (n_v vs 11) := t11
  have k11 : 1 ≤ v_iv (n_v vs 11) ∧ v_iv (n_v vs 11) ≤ 38 := tv_rng t11
  have hds : ∀ q ∈ ([(11, 4, 1, 1), (11, 3, -4294967296, 0), (11, 3, -4294967296, 48), (9, 8, -37, 0), (9, 4, -37, 2000), (9, 3, -4294967296, 1999), (9, 3, -4294967296, 2047), (9, 7, -37, 37), (8, 4, 0, 2000), (8, 3, -4294967296, 1999), (8, 3, -4294967296, 2047), (8, 7, 0, 37), (4, 3, -4294967296, -1), (2, 3, -4294967296, 47), (2, 4, -4294967296, 0), (3, 2, -4294967296, 38), (3, 4, -4294967296, 38), (4, 3, -4294967296, 47)] : List of_T), n_iv vs q.2.1 + q.2.2.1 ≤ n_iv vs q.1 ∧ n_iv vs q.1 ≤ n_iv vs q.2.1 + q.2.2.2 := hds
  obtain ⟨d0, hds⟩ := List.forall_mem_cons.mp hds
  have d0 : v_iv (n_v vs 4) + 1 ≤ v_iv (n_v vs 11) ∧ v_iv (n_v vs 11) ≤ v_iv (n_v vs 4) + 1 := d0
  obtain ⟨d1, hds⟩ := List.forall_mem_cons.mp hds
  have d1 : v_iv (n_v vs 3) + (-4294967296) ≤ v_iv (n_v vs 11) ∧ v_iv (n_v vs 11) ≤ v_iv (n_v vs 3) + 0 := d1
  obtain ⟨d2, hds⟩ := List.forall_mem_cons.mp hds
  have d2 : v_iv (n_v vs 3) + (-4294967296) ≤ v_iv (n_v vs 11) ∧ v_iv (n_v vs 11) ≤ v_iv (n_v vs 3) + 48 := d2
  obtain ⟨d3, hds⟩ := List.forall_mem_cons.mp hds
  have d3 : v_iv (n_v vs 8) + (-37) ≤ v_iv (n_v vs 9) ∧ v_iv (n_v vs 9) ≤ v_iv (n_v vs 8) + 0 := d3
  obtain ⟨d4, hds⟩ := List.forall_mem_cons.mp hds
  have d4 : v_iv (n_v vs 4) + (-37) ≤ v_iv (n_v vs 9) ∧ v_iv (n_v vs 9) ≤ v_iv (n_v vs 4) + 2000 := d4
  obtain ⟨d5, hds⟩ := List.forall_mem_cons.mp hds
  have d5 : v_iv (n_v vs 3) + (-4294967296) ≤ v_iv (n_v vs 9) ∧ v_iv (n_v vs 9) ≤ v_iv (n_v vs 3) + 1999 := d5
  obtain ⟨d6, hds⟩ := List.forall_mem_cons.mp hds
  have d6 : v_iv (n_v vs 3) + (-4294967296) ≤ v_iv (n_v vs 9) ∧ v_iv (n_v vs 9) ≤ v_iv (n_v vs 3) + 2047 := d6
  obtain ⟨d7, hds⟩ := List.forall_mem_cons.mp hds
  have d7 : v_iv (n_v vs 7) + (-37) ≤ v_iv (n_v vs 9) ∧ v_iv (n_v vs 9) ≤ v_iv (n_v vs 7) + 37 := d7
  obtain ⟨d8, hds⟩ := List.forall_mem_cons.mp hds
  have d8 : v_iv (n_v vs 4) + 0 ≤ v_iv (n_v vs 8) ∧ v_iv (n_v vs 8) ≤ v_iv (n_v vs 4) + 2000 := d8
  obtain ⟨d9, hds⟩ := List.forall_mem_cons.mp hds
  have d9 : v_iv (n_v vs 3) + (-4294967296) ≤ v_iv (n_v vs 8) ∧ v_iv (n_v vs 8) ≤ v_iv (n_v vs 3) + 1999 := d9
  obtain ⟨d10, hds⟩ := List.forall_mem_cons.mp hds
  have d10 : v_iv (n_v vs 3) + (-4294967296) ≤ v_iv (n_v vs 8) ∧ v_iv (n_v vs 8) ≤ v_iv (n_v vs 3) + 2047 := d10
  obtain ⟨d11, hds⟩ := List.forall_mem_cons.mp hds
  have d11 : v_iv (n_v vs 7) + 0 ≤ v_iv (n_v vs 8) ∧ v_iv (n_v vs 8) ≤ v_iv (n_v vs 7) + 37 := d11
  obtain ⟨d12, hds⟩ := List.forall_mem_cons.mp hds
  have d12 : v_iv (n_v vs 3) + (-4294967296) ≤ v_iv (n_v vs 4) ∧ v_iv (n_v vs 4) ≤ v_iv (n_v vs 3) + (-1) := d12
  obtain ⟨d13, hds⟩ := List.forall_mem_cons.mp hds
  have d13 : v_iv (n_v vs 3) + (-4294967296) ≤ v_iv (n_v vs 2) ∧ v_iv (n_v vs 2) ≤ v_iv (n_v vs 3) + 47 := d13
  obtain ⟨d14, hds⟩ := List.forall_mem_cons.mp hds
  have d14 : v_iv (n_v vs 4) + (-4294967296) ≤ v_iv (n_v vs 2) ∧ v_iv (n_v vs 2) ≤ v_iv (n_v vs 4) + 0 := d14
  obtain ⟨d15, hds⟩ := List.forall_mem_cons.mp hds
  have d15 : v_iv (n_v vs 2) + (-4294967296) ≤ v_iv (n_v vs 3) ∧ v_iv (n_v vs 3) ≤ v_iv (n_v vs 2) + 38 := d15
  obtain ⟨d16, hds⟩ := List.forall_mem_cons.mp hds
  have d16 : v_iv (n_v vs 4) + (-4294967296) ≤ v_iv (n_v vs 3) ∧ v_iv (n_v vs 3) ≤ v_iv (n_v vs 4) + 38 := d16
  obtain ⟨d17, hds⟩ := List.forall_mem_cons.mp hds
  have d17 : v_iv (n_v vs 3) + (-4294967296) ≤ v_iv (n_v vs 4) ∧ v_iv (n_v vs 4) ≤ v_iv (n_v vs 3) + 47 := d17
  have hf : fc_ok [(6, [11, 4], [1]), (2, [9, 8, 2], []), (1, [8, 7, 4], []), (9, [7, 0], [7]), (7, [4, 3], [2]), (20, [0, 3, 2], [30, 2000, 1, 1, 7, 1, 0, 0, -1, 0, 0]), (20, [2, 4], [30, 0, 1, 0, 0, -1, 0, 0])] ta ws vs := hf
  obtain ⟨f0, hf⟩ := fc_un (by decide) hf
  have f0 : v_iv (n_v vs 11) = v_iv (n_v vs 4) + 1 := f0
  obtain ⟨f1, hf⟩ := fc_un (by decide) hf
  have f1 : v_iv (n_v vs 9) = v_iv (n_v vs 8) - v_iv (n_v vs 2) := f1
  obtain ⟨f2, hf⟩ := fc_un (by decide) hf
  have f2 : v_iv (n_v vs 8) = v_iv (n_v vs 7) + v_iv (n_v vs 4) := f2
  obtain ⟨f3, hf⟩ := fc_un (by decide) hf
  have f3 : n_v vs 7 = w_fd ws (v_ad (n_v vs 0)) 7 := f3
  obtain ⟨f4, hf⟩ := fc_un (by decide) hf
  have f4 : v_iv (n_v vs 4) < v_iv (n_v vs 3) := f4
  obtain ⟨f5, hf⟩ := fc_un (by decide) hf
  have f5 : 1 * w_fi ws (n_v vs 0) 7 + (1 * v_iv (n_v vs 3) + ((-1) * v_iv (n_v vs 2) + 0)) ≤ 2000 := f5
  obtain ⟨f6, hf⟩ := fc_un (by decide) hf
  have f6 : 1 * v_iv (n_v vs 2) + ((-1) * v_iv (n_v vs 4) + 0) ≤ 0 := f6
  have g3 : v_iv (n_v vs 7) = w_fi ws (n_v vs 0) 7 := congrArg v_iv f3
  have kz_0_7 : 0 ≤ w_fi ws (n_v vs 0) 7 ∧ w_fi ws (n_v vs 0) 7 ≤ 2000 := tv_rng (th_fd hD hth r0 (g := GG_11) rfl (k := 7) (t := (0, 0, 2000, [])) rfl rfl)
  have nf0 : fc_1 (20, [2, 11], [30, 0, 1, 0, 0, -1, 0, 0]) ws (vs) := by
    refine ⟨fun n hn => ?_, ?_⟩
    · have hn : n ∈ [2, 11] := hn
      rw [hl]
      simp only [List.mem_cons, List.not_mem_nil, or_false] at hn
      show n < 12; omega
    · show 1 * v_iv (n_v vs 2) + ((-1) * v_iv (n_v vs 11) + 0) ≤ 0
      omega
  refine ⟨(fun _ h => (by cases h)), [], trivial, ?_, (fun _ h => (by cases h))⟩
  rw [List.append_nil]
  exact List.forall_mem_cons.mpr ⟨⟨by decide, nf0⟩, (fun _ h => (by cases h))⟩
def n_Sy_isWordAt_at_s5004_an : List an_T := [(20, [(0, (2, 0, 0, [11])), (1, (2, 0, 0, [5004])), (2, (0, 0, 47, [])), (3, (0, 0, 38, [])), (4, (0, 0, 47, []))], [], (0, 0), [(0, 0, 99980), (1, 4, 47), (0, 0, 100000)], [(2, 3, -1000000000000, 47), (2, 4, -1000000000000, 0), (3, 2, -1000000000000, 38), (3, 4, -1000000000000, 38), (4, 3, -1000000000000, 47)], [((0, 3), (2, 0, 0, [109]))], [], 0, [], [(20, [0, 3, 2], [30, 2000, 1, 1, 7, 1, 0, 0, -1, 0, 0]), (20, [2, 4], [30, 0, 1, 0, 0, -1, 0, 0])])]
def t_Sy_isWordAt_at_s5004_ct : ct_L := [(91, 104, e_jStr_charAt_v139)]
set_option maxRecDepth 100000 in
theorem c_Sy_isWordAt_at_s5004 {l : Launch} {D : va_G} {kA : Nat → ClassId} : ct_ok l D kA GG y_Sy_isWordAt_at_s5004 z_Sy_isWordAt_at_s5004 e_Sy_isWordAt_at_s5004 := chk_all_ok (FT := [(21, 11, 3), (28, 11, 5), (34, 11, 7)]) (PT := []) (CT := t_Sy_isWordAt_at_s5004_ct) (KT := []) (NT := []) (AN := n_Sy_isWordAt_at_s5004_an) (OT := [o_Sy_isWordAt_at_s5004_0, o_Sy_isWordAt_at_s5004_1, o_Sy_isWordAt_at_s5004_2]) 3 200 (List.forall_mem_cons.mpr ⟨oo_Sy_isWordAt_at_s5004_0, List.forall_mem_cons.mpr ⟨oo_Sy_isWordAt_at_s5004_1, List.forall_mem_cons.mpr ⟨oo_Sy_isWordAt_at_s5004_2, List.forall_mem_nil _⟩⟩⟩) (by decide +kernel) ⟨List.forall_mem_cons.mpr ⟨gf_Sy_21, List.forall_mem_cons.mpr ⟨gf_Sy_28, List.forall_mem_cons.mpr ⟨gf_Sy_34, List.forall_mem_nil _⟩⟩⟩, List.forall_mem_nil _, List.forall_mem_cons.mpr ⟨cl_string (y := y_jStr_charAt) (i := 4) rfl rfl (by decide +kernel) rfl c_jStr_charAt_v139 wm_684 wm_11 wm_2231 wm_682 wm_683 ⟨by decide, by decide, by decide +kernel⟩ (by decide), List.forall_mem_nil _⟩, List.forall_mem_nil _, List.forall_mem_nil _, GG_pl⟩ (by decide +kernel)
def o_Sy_isWordAt_at_s5006_0 : or_T := (20, 9, [(0, (2, 0, 0, [11])), (2, (0, 0, 15, [])), (3, (0, 0, 9, [])), (5, (0, 0, 2000, [])), (6, (0, 0, 2000, [])), (7, (0, -15, 9, [])), (8, (0, -15, 9, []))], [(7, [7, 8], [0]), (2, [8, 3, 2], []), (2, [7, 5, 6], []), (9, [6, 0], [7]), (9, [5, 0], [5])], [], [], [(20, [0, 3, 2], [30, 2000, 1, 1, 7, 1, 0, 0, -1, 0, 0]), (20, [2, 2], [30, 0, 1, 0, 0, -1, 0, 0])], [], [(7, 8, 0, 0), (8, 3, -15, 0), (7, 5, -2000, 0)])
theorem oo_Sy_isWordAt_at_s5006_0 {kA : Nat → ClassId} : or_ok kA GG o_Sy_isWordAt_at_s5006_0 := by
  intro A ta ws vs hD hth hl hk hds hf
  have hl : vs.length = 9 := hl
  have hk : ∀ q ∈ ([(0, (2, 0, 0, [11])), (2, (0, 0, 15, [])), (3, (0, 0, 9, [])), (5, (0, 0, 2000, [])), (6, (0, 0, 2000, [])), (7, (0, -15, 9, [])), (8, (0, -15, 9, []))] : List (Nat × tv_T)), tv_ok ta q.2 (n_v vs q.1) := hk
  obtain ⟨t0, hk⟩ := List.forall_mem_cons.mp hk
  have t0 : tv_ok ta (2, 0, 0, [11]) (n_v vs 0) := t0
  have r0 : ta (v_ad (n_v vs 0)) = some 11 := tv_rg t0
  obtain ⟨t2, hk⟩ := List.forall_mem_cons.mp hk
  have t2 : tv_ok ta (0, 0, 15, []) (n_v vs 2) := t2
  have k2 : 0 ≤ v_iv (n_v vs 2) ∧ v_iv (n_v vs 2) ≤ 15 := tv_rng t2
  obtain ⟨t3, hk⟩ := List.forall_mem_cons.mp hk
  have t3 : tv_ok ta (0, 0, 9, []) (n_v vs 3) := t3
  have k3 : 0 ≤ v_iv (n_v vs 3) ∧ v_iv (n_v vs 3) ≤ 9 := tv_rng t3
  obtain ⟨t5, hk⟩ := List.forall_mem_cons.mp hk
  have t5 : tv_ok ta (0, 0, 2000, []) (n_v vs 5) := t5
  have k5 : 0 ≤ v_iv (n_v vs 5) ∧ v_iv (n_v vs 5) ≤ 2000 := tv_rng t5
  obtain ⟨t6, hk⟩ := List.forall_mem_cons.mp hk
  have t6 : tv_ok ta (0, 0, 2000, []) (n_v vs 6) := t6
  have k6 : 0 ≤ v_iv (n_v vs 6) ∧ v_iv (n_v vs 6) ≤ 2000 := tv_rng t6
  obtain ⟨t7, hk⟩ := List.forall_mem_cons.mp hk
  have t7 : tv_ok ta (0, -15, 9, []) (n_v vs 7) := t7
  have k7 : (-15) ≤ v_iv (n_v vs 7) ∧ v_iv (n_v vs 7) ≤ 9 := tv_rng t7
  obtain ⟨t8, hk⟩ := List.forall_mem_cons.mp hk
  have t8 : tv_ok ta (0, -15, 9, []) (n_v vs 8) := t8
  have k8 : (-15) ≤ v_iv (n_v vs 8) ∧ v_iv (n_v vs 8) ≤ 9 := tv_rng t8
  have hds : ∀ q ∈ ([(7, 8, 0, 0), (8, 3, -15, 0), (7, 5, -2000, 0)] : List of_T), n_iv vs q.2.1 + q.2.2.1 ≤ n_iv vs q.1 ∧ n_iv vs q.1 ≤ n_iv vs q.2.1 + q.2.2.2 := hds
  obtain ⟨d0, hds⟩ := List.forall_mem_cons.mp hds
  have d0 : v_iv (n_v vs 8) + 0 ≤ v_iv (n_v vs 7) ∧ v_iv (n_v vs 7) ≤ v_iv (n_v vs 8) + 0 := d0
  obtain ⟨d1, hds⟩ := List.forall_mem_cons.mp hds
  have d1 : v_iv (n_v vs 3) + (-15) ≤ v_iv (n_v vs 8) ∧ v_iv (n_v vs 8) ≤ v_iv (n_v vs 3) + 0 := d1
  obtain ⟨d2, hds⟩ := List.forall_mem_cons.mp hds
  have d2 : v_iv (n_v vs 5) + (-2000) ≤ v_iv (n_v vs 7) ∧ v_iv (n_v vs 7) ≤ v_iv (n_v vs 5) + 0 := d2
  have hf : fc_ok [(7, [7, 8], [0]), (2, [8, 3, 2], []), (2, [7, 5, 6], []), (9, [6, 0], [7]), (9, [5, 0], [5])] ta ws vs := hf
  obtain ⟨f0, hf⟩ := fc_un (by decide) hf
  have f0 : v_iv (n_v vs 7) = v_iv (n_v vs 8) := f0
  obtain ⟨f1, hf⟩ := fc_un (by decide) hf
  have f1 : v_iv (n_v vs 8) = v_iv (n_v vs 3) - v_iv (n_v vs 2) := f1
  obtain ⟨f2, hf⟩ := fc_un (by decide) hf
  have f2 : v_iv (n_v vs 7) = v_iv (n_v vs 5) - v_iv (n_v vs 6) := f2
  obtain ⟨f3, hf⟩ := fc_un (by decide) hf
  have f3 : n_v vs 6 = w_fd ws (v_ad (n_v vs 0)) 7 := f3
  obtain ⟨f4, hf⟩ := fc_un (by decide) hf
  have f4 : n_v vs 5 = w_fd ws (v_ad (n_v vs 0)) 5 := f4
  have g3 : v_iv (n_v vs 6) = w_fi ws (n_v vs 0) 7 := congrArg v_iv f3
  have g4 : v_iv (n_v vs 5) = w_fi ws (n_v vs 0) 5 := congrArg v_iv f4
  have kz_0_5 : 0 ≤ w_fi ws (n_v vs 0) 5 ∧ w_fi ws (n_v vs 0) 5 ≤ 2000 := tv_rng (th_fd hD hth r0 (g := GG_11) rfl (k := 5) (t := (0, 0, 2000, [])) rfl rfl)
  have kz_0_7 : 0 ≤ w_fi ws (n_v vs 0) 7 ∧ w_fi ws (n_v vs 0) 7 ≤ 2000 := tv_rng (th_fd hD hth r0 (g := GG_11) rfl (k := 7) (t := (0, 0, 2000, [])) rfl rfl)
  have nf0 : fc_1 (20, [0, 3, 2], [30, 2000, 1, 1, 7, 1, 0, 0, -1, 0, 0]) ws (vs) := by
    refine ⟨fun n hn => ?_, ?_⟩
    · have hn : n ∈ [0, 3, 2] := hn
      rw [hl]
      simp only [List.mem_cons, List.not_mem_nil, or_false] at hn
      show n < 9; omega
    · show 1 * w_fi ws (n_v vs 0) 7 + (1 * v_iv (n_v vs 3) + ((-1) * v_iv (n_v vs 2) + 0)) ≤ 2000
      omega
  have nf1 : fc_1 (20, [2, 2], [30, 0, 1, 0, 0, -1, 0, 0]) ws (vs) := by
    refine ⟨fun n hn => ?_, ?_⟩
    · have hn : n ∈ [2, 2] := hn
      rw [hl]
      simp only [List.mem_cons, List.not_mem_nil, or_false] at hn
      show n < 9; omega
    · show 1 * v_iv (n_v vs 2) + ((-1) * v_iv (n_v vs 2) + 0) ≤ 0
      omega
  refine ⟨(fun _ h => (by cases h)), [], trivial, ?_, (fun _ h => (by cases h))⟩
  rw [List.append_nil]
  exact List.forall_mem_cons.mpr ⟨⟨by decide, nf0⟩, List.forall_mem_cons.mpr ⟨⟨by decide, nf1⟩, (fun _ h => (by cases h))⟩⟩
def o_Sy_isWordAt_at_s5006_1 : or_T := (45, 10, [(0, (2, 0, 0, [11])), (2, (0, 0, 8, [])), (3, (0, 1, 9, [])), (4, (0, 0, 8, [])), (7, (0, 0, 2000, [])), (8, (0, 0, 2008, [])), (9, (0, -8, 2008, []))], [(2, [9, 8, 2], []), (1, [8, 7, 4], []), (9, [7, 0], [7]), (7, [4, 3], [2]), (20, [0, 3, 2], [30, 2000, 1, 1, 7, 1, 0, 0, -1, 0, 0]), (20, [2, 4], [30, 0, 1, 0, 0, -1, 0, 0])], [(9, (0, 0, 1999, []))], [], [], [], [(9, 8, -8, 0), (9, 4, -8, 2000), (9, 3, -4294967296, 1999), (9, 3, -4294967296, 2015), (9, 7, -8, 8), (8, 4, 0, 2000), (8, 3, -4294967296, 1999), (8, 3, -4294967296, 2015), (8, 7, 0, 8), (4, 3, -4294967296, -1), (2, 3, -4294967296, 15), (2, 4, -4294967296, 0), (3, 2, -4294967296, 9), (3, 4, -4294967296, 9), (4, 3, -4294967296, 15)])
theorem oo_Sy_isWordAt_at_s5006_1 {kA : Nat → ClassId} : or_ok kA GG o_Sy_isWordAt_at_s5006_1 := by
  intro A ta ws vs hD hth hl hk hds hf
  have hl : vs.length = 10 := hl
  have hk : ∀ q ∈ ([(0, (2, 0, 0, [11])), (2, (0, 0, 8, [])), (3, (0, 1, 9, [])), (4, (0, 0, 8, [])), (7, (0, 0, 2000, [])), (8, (0, 0, 2008, [])), (9, (0, -8, 2008, []))] : List (Nat × tv_T)), tv_ok ta q.2 (n_v vs q.1) := hk
  obtain ⟨t0, hk⟩ := List.forall_mem_cons.mp hk
  have t0 : tv_ok ta (2, 0, 0, [11]) (n_v vs 0) := t0
  have r0 : ta (v_ad (n_v vs 0)) = some 11 := tv_rg t0
  obtain ⟨t2, hk⟩ := List.forall_mem_cons.mp hk
  have t2 : tv_ok ta (0, 0, 8, []) (n_v vs 2) := t2
  have k2 : 0 ≤ v_iv (n_v vs 2) ∧ v_iv (n_v vs 2) ≤ 8 := tv_rng t2
  obtain ⟨t3, hk⟩ := List.forall_mem_cons.mp hk
  have t3 : tv_ok ta (0, 1, 9, []) (n_v vs 3) := t3
  have k3 : 1 ≤ v_iv (n_v vs 3) ∧ v_iv (n_v vs 3) ≤ 9 := tv_rng t3
  obtain ⟨t4, hk⟩ := List.forall_mem_cons.mp hk
  have t4 : tv_ok ta (0, 0, 8, []) (n_v vs 4) := t4
  have k4 : 0 ≤ v_iv (n_v vs 4) ∧ v_iv (n_v vs 4) ≤ 8 := tv_rng t4
  obtain ⟨t7, hk⟩ := List.forall_mem_cons.mp hk
  have t7 : tv_ok ta (0, 0, 2000, []) (n_v vs 7) := t7
  have k7 : 0 ≤ v_iv (n_v vs 7) ∧ v_iv (n_v vs 7) ≤ 2000 := tv_rng t7
  obtain ⟨t8, hk⟩ := List.forall_mem_cons.mp hk
  have t8 : tv_ok ta (0, 0, 2008, []) (n_v vs 8) := t8
  have k8 : 0 ≤ v_iv (n_v vs 8) ∧ v_iv (n_v vs 8) ≤ 2008 := tv_rng t8
  obtain ⟨t9, hk⟩ := List.forall_mem_cons.mp hk
  have t9 : tv_ok ta (0, -8, 2008, []) (n_v vs 9) := t9
  have k9 : (-8) ≤ v_iv (n_v vs 9) ∧ v_iv (n_v vs 9) ≤ 2008 := tv_rng t9
  have hds : ∀ q ∈ ([(9, 8, -8, 0), (9, 4, -8, 2000), (9, 3, -4294967296, 1999), (9, 3, -4294967296, 2015), (9, 7, -8, 8), (8, 4, 0, 2000), (8, 3, -4294967296, 1999), (8, 3, -4294967296, 2015), (8, 7, 0, 8), (4, 3, -4294967296, -1), (2, 3, -4294967296, 15), (2, 4, -4294967296, 0), (3, 2, -4294967296, 9), (3, 4, -4294967296, 9), (4, 3, -4294967296, 15)] : List of_T), n_iv vs q.2.1 + q.2.2.1 ≤ n_iv vs q.1 ∧ n_iv vs q.1 ≤ n_iv vs q.2.1 + q.2.2.2 := hds
  obtain ⟨d0, hds⟩ := List.forall_mem_cons.mp hds
  have d0 : v_iv (n_v vs 8) + (-8) ≤ v_iv (n_v vs 9) ∧ v_iv (n_v vs 9) ≤ v_iv (n_v vs 8) + 0 := d0
  obtain ⟨d1, hds⟩ := List.forall_mem_cons.mp hds
  have d1 : v_iv (n_v vs 4) + (-8) ≤ v_iv (n_v vs 9) ∧ v_iv (n_v vs 9) ≤ v_iv (n_v vs 4) + 2000 := d1
  obtain ⟨d2, hds⟩ := List.forall_mem_cons.mp hds
  have d2 : v_iv (n_v vs 3) + (-4294967296) ≤ v_iv (n_v vs 9) ∧ v_iv (n_v vs 9) ≤ v_iv (n_v vs 3) + 1999 := d2
  obtain ⟨d3, hds⟩ := List.forall_mem_cons.mp hds
  have d3 : v_iv (n_v vs 3) + (-4294967296) ≤ v_iv (n_v vs 9) ∧ v_iv (n_v vs 9) ≤ v_iv (n_v vs 3) + 2015 := d3
  obtain ⟨d4, hds⟩ := List.forall_mem_cons.mp hds
  have d4 : v_iv (n_v vs 7) + (-8) ≤ v_iv (n_v vs 9) ∧ v_iv (n_v vs 9) ≤ v_iv (n_v vs 7) + 8 := d4
  obtain ⟨d5, hds⟩ := List.forall_mem_cons.mp hds
  have d5 : v_iv (n_v vs 4) + 0 ≤ v_iv (n_v vs 8) ∧ v_iv (n_v vs 8) ≤ v_iv (n_v vs 4) + 2000 := d5
  obtain ⟨d6, hds⟩ := List.forall_mem_cons.mp hds
  have d6 : v_iv (n_v vs 3) + (-4294967296) ≤ v_iv (n_v vs 8) ∧ v_iv (n_v vs 8) ≤ v_iv (n_v vs 3) + 1999 := d6
  obtain ⟨d7, hds⟩ := List.forall_mem_cons.mp hds
  have d7 : v_iv (n_v vs 3) + (-4294967296) ≤ v_iv (n_v vs 8) ∧ v_iv (n_v vs 8) ≤ v_iv (n_v vs 3) + 2015 := d7
  obtain ⟨d8, hds⟩ := List.forall_mem_cons.mp hds
  have d8 : v_iv (n_v vs 7) + 0 ≤ v_iv (n_v vs 8) ∧ v_iv (n_v vs 8) ≤ v_iv (n_v vs 7) + 8 := d8
  obtain ⟨d9, hds⟩ := List.forall_mem_cons.mp hds
  have d9 : v_iv (n_v vs 3) + (-4294967296) ≤ v_iv (n_v vs 4) ∧ v_iv (n_v vs 4) ≤ v_iv (n_v vs 3) + (-1) := d9
  obtain ⟨d10, hds⟩ := List.forall_mem_cons.mp hds
  have d10 : v_iv (n_v vs 3) + (-4294967296) ≤ v_iv (n_v vs 2) ∧ v_iv (n_v vs 2) ≤ v_iv (n_v vs 3) + 15 := d10
  obtain ⟨d11, hds⟩ := List.forall_mem_cons.mp hds
  have d11 : v_iv (n_v vs 4) + (-4294967296) ≤ v_iv (n_v vs 2) ∧ v_iv (n_v vs 2) ≤ v_iv (n_v vs 4) + 0 := d11
  obtain ⟨d12, hds⟩ := List.forall_mem_cons.mp hds
  have d12 : v_iv (n_v vs 2) + (-4294967296) ≤ v_iv (n_v vs 3) ∧ v_iv (n_v vs 3) ≤ v_iv (n_v vs 2) + 9 := d12
  obtain ⟨d13, hds⟩ := List.forall_mem_cons.mp hds
  have d13 : v_iv (n_v vs 4) + (-4294967296) ≤ v_iv (n_v vs 3) ∧ v_iv (n_v vs 3) ≤ v_iv (n_v vs 4) + 9 := d13
  obtain ⟨d14, hds⟩ := List.forall_mem_cons.mp hds
  have d14 : v_iv (n_v vs 3) + (-4294967296) ≤ v_iv (n_v vs 4) ∧ v_iv (n_v vs 4) ≤ v_iv (n_v vs 3) + 15 := d14
  have hf : fc_ok [(2, [9, 8, 2], []), (1, [8, 7, 4], []), (9, [7, 0], [7]), (7, [4, 3], [2]), (20, [0, 3, 2], [30, 2000, 1, 1, 7, 1, 0, 0, -1, 0, 0]), (20, [2, 4], [30, 0, 1, 0, 0, -1, 0, 0])] ta ws vs := hf
  obtain ⟨f0, hf⟩ := fc_un (by decide) hf
  have f0 : v_iv (n_v vs 9) = v_iv (n_v vs 8) - v_iv (n_v vs 2) := f0
  obtain ⟨f1, hf⟩ := fc_un (by decide) hf
  have f1 : v_iv (n_v vs 8) = v_iv (n_v vs 7) + v_iv (n_v vs 4) := f1
  obtain ⟨f2, hf⟩ := fc_un (by decide) hf
  have f2 : n_v vs 7 = w_fd ws (v_ad (n_v vs 0)) 7 := f2
  obtain ⟨f3, hf⟩ := fc_un (by decide) hf
  have f3 : v_iv (n_v vs 4) < v_iv (n_v vs 3) := f3
  obtain ⟨f4, hf⟩ := fc_un (by decide) hf
  have f4 : 1 * w_fi ws (n_v vs 0) 7 + (1 * v_iv (n_v vs 3) + ((-1) * v_iv (n_v vs 2) + 0)) ≤ 2000 := f4
  obtain ⟨f5, hf⟩ := fc_un (by decide) hf
  have f5 : 1 * v_iv (n_v vs 2) + ((-1) * v_iv (n_v vs 4) + 0) ≤ 0 := f5
  have g2 : v_iv (n_v vs 7) = w_fi ws (n_v vs 0) 7 := congrArg v_iv f2
  have kz_0_7 : 0 ≤ w_fi ws (n_v vs 0) 7 ∧ w_fi ws (n_v vs 0) 7 ≤ 2000 := tv_rng (th_fd hD hth r0 (g := GG_11) rfl (k := 7) (t := (0, 0, 2000, [])) rfl rfl)
  have rf9 : tv_ok ta (0, 0, 1999, []) (n_v vs 9) := tv_in t9 (by omega) (by omega)
  refine ⟨List.forall_mem_cons.mpr ⟨rf9, (fun _ h => (by cases h))⟩, [], trivial, ?_, (fun _ h => (by cases h))⟩
  rw [List.append_nil]
  exact (fun _ h => (by cases h))
def o_Sy_isWordAt_at_s5006_2 : or_T := (20, 12, [(0, (2, 0, 0, [11])), (2, (0, 0, 8, [])), (3, (0, 1, 9, [])), (4, (0, 0, 8, [])), (7, (0, 0, 2000, [])), (8, (0, 0, 2008, [])), (9, (0, 0, 1999, [])), (11, (0, 1, 9, []))], [(6, [11, 4], [1]), (2, [9, 8, 2], []), (1, [8, 7, 4], []), (9, [7, 0], [7]), (7, [4, 3], [2]), (20, [0, 3, 2], [30, 2000, 1, 1, 7, 1, 0, 0, -1, 0, 0]), (20, [2, 4], [30, 0, 1, 0, 0, -1, 0, 0])], [], [], [(20, [2, 11], [30, 0, 1, 0, 0, -1, 0, 0])], [], [(11, 4, 1, 1), (11, 3, -4294967296, 0), (11, 3, -4294967296, 16), (9, 8, -8, 0), (9, 4, -8, 2000), (9, 3, -4294967296, 1999), (9, 3, -4294967296, 2015), (9, 7, -8, 8), (8, 4, 0, 2000), (8, 3, -4294967296, 1999), (8, 3, -4294967296, 2015), (8, 7, 0, 8), (4, 3, -4294967296, -1), (2, 3, -4294967296, 15), (2, 4, -4294967296, 0), (3, 2, -4294967296, 9), (3, 4, -4294967296, 9), (4, 3, -4294967296, 15)])
theorem oo_Sy_isWordAt_at_s5006_2 {kA : Nat → ClassId} : or_ok kA GG o_Sy_isWordAt_at_s5006_2 := by
  intro A ta ws vs hD hth hl hk hds hf
  have hl : vs.length = 12 := hl
  have hk : ∀ q ∈ ([(0, (2, 0, 0, [11])), (2, (0, 0, 8, [])), (3, (0, 1, 9, [])), (4, (0, 0, 8, [])), (7, (0, 0, 2000, [])), (8, (0, 0, 2008, [])), (9, (0, 0, 1999, [])), (11, (0, 1, 9, []))] : List (Nat × tv_T)), tv_ok ta q.2 (n_v vs q.1) := hk
  obtain ⟨t0, hk⟩ := List.forall_mem_cons.mp hk
  have t0 : tv_ok ta (2, 0, 0, [11]) (n_v vs 0) := t0
  have r0 : ta (v_ad (n_v vs 0)) = some 11 := tv_rg t0
  obtain ⟨t2, hk⟩ := List.forall_mem_cons.mp hk
  have t2 : tv_ok ta (0, 0, 8, []) (n_v vs 2) := t2
  have k2 : 0 ≤ v_iv (n_v vs 2) ∧ v_iv (n_v vs 2) ≤ 8 := tv_rng t2
  obtain ⟨t3, hk⟩ := List.forall_mem_cons.mp hk
  have t3 : tv_ok ta (0, 1, 9, []) (n_v vs 3) := t3
  have k3 : 1 ≤ v_iv (n_v vs 3) ∧ v_iv (n_v vs 3) ≤ 9 := tv_rng t3
  obtain ⟨t4, hk⟩ := List.forall_mem_cons.mp hk
  have t4 : tv_ok ta (0, 0, 8, []) (n_v vs 4) := t4
  have k4 : 0 ≤ v_iv (n_v vs 4) ∧ v_iv (n_v vs 4) ≤ 8 := tv_rng t4
  obtain ⟨t7, hk⟩ := List.forall_mem_cons.mp hk
  have t7 : tv_ok ta (0, 0, 2000, []) (n_v vs 7) := t7
  have k7 : 0 ≤ v_iv (n_v vs 7) ∧ v_iv (n_v vs 7) ≤ 2000 := tv_rng t7
  obtain ⟨t8, hk⟩ := List.forall_mem_cons.mp hk
  have t8 : tv_ok ta (0, 0, 2008, []) (n_v vs 8) := t8
  have k8 : 0 ≤ v_iv (n_v vs 8) ∧ v_iv (n_v vs 8) ≤ 2008 := tv_rng t8
  obtain ⟨t9, hk⟩ := List.forall_mem_cons.mp hk
  have t9 : tv_ok ta (0, 0, 1999, []) (n_v vs 9) := t9
  have k9 : 0 ≤ v_iv (n_v vs 9) ∧ v_iv (n_v vs 9) ≤ 1999 := tv_rng t9
  obtain ⟨t11, hk⟩ := List.forall_mem_cons.mp hk
  have t11 : tv_ok ta (0, 1, 9, []) (n_v vs 11) := t11
  have k11 : 1 ≤ v_iv (n_v vs 11) ∧ v_iv (n_v vs 11) ≤ 9 := tv_rng t11
  have hds : ∀ q ∈ ([(11, 4, 1, 1), (11, 3, -4294967296, 0), (11, 3, -4294967296, 16), (9, 8, -8, 0), (9, 4, -8, 2000), (9, 3, -4294967296, 1999), (9, 3, -4294967296, 2015), (9, 7, -8, 8), (8, 4, 0, 2000), (8, 3, -4294967296, 1999), (8, 3, -4294967296, 2015), (8, 7, 0, 8), (4, 3, -4294967296, -1), (2, 3, -4294967296, 15), (2, 4, -4294967296, 0), (3, 2, -4294967296, 9), (3, 4, -4294967296, 9), (4, 3, -4294967296, 15)] : List of_T), n_iv vs q.2.1 + q.2.2.1 ≤ n_iv vs q.1 ∧ n_iv vs q.1 ≤ n_iv vs q.2.1 + q.2.2.2 := hds
  obtain ⟨d0, hds⟩ := List.forall_mem_cons.mp hds
  have d0 : v_iv (n_v vs 4) + 1 ≤ v_iv (n_v vs 11) ∧ v_iv (n_v vs 11) ≤ v_iv (n_v vs 4) + 1 := d0
  obtain ⟨d1, hds⟩ := List.forall_mem_cons.mp hds
  have d1 : v_iv (n_v vs 3) + (-4294967296) ≤ v_iv (n_v vs 11) ∧ v_iv (n_v vs 11) ≤ v_iv (n_v vs 3) + 0 := d1
  obtain ⟨d2, hds⟩ := List.forall_mem_cons.mp hds
  have d2 : v_iv (n_v vs 3) + (-4294967296) ≤ v_iv (n_v vs 11) ∧ v_iv (n_v vs 11) ≤ v_iv (n_v vs 3) + 16 := d2
  obtain ⟨d3, hds⟩ := List.forall_mem_cons.mp hds
  have d3 : v_iv (n_v vs 8) + (-8) ≤ v_iv (n_v vs 9) ∧ v_iv (n_v vs 9) ≤ v_iv (n_v vs 8) + 0 := d3
  obtain ⟨d4, hds⟩ := List.forall_mem_cons.mp hds
  have d4 : v_iv (n_v vs 4) + (-8) ≤ v_iv (n_v vs 9) ∧ v_iv (n_v vs 9) ≤ v_iv (n_v vs 4) + 2000 := d4
  obtain ⟨d5, hds⟩ := List.forall_mem_cons.mp hds
  have d5 : v_iv (n_v vs 3) + (-4294967296) ≤ v_iv (n_v vs 9) ∧ v_iv (n_v vs 9) ≤ v_iv (n_v vs 3) + 1999 := d5
  obtain ⟨d6, hds⟩ := List.forall_mem_cons.mp hds
  have d6 : v_iv (n_v vs 3) + (-4294967296) ≤ v_iv (n_v vs 9) ∧ v_iv (n_v vs 9) ≤ v_iv (n_v vs 3) + 2015 := d6
  obtain ⟨d7, hds⟩ := List.forall_mem_cons.mp hds
  have d7 : v_iv (n_v vs 7) + (-8) ≤ v_iv (n_v vs 9) ∧ v_iv (n_v vs 9) ≤ v_iv (n_v vs 7) + 8 := d7
  obtain ⟨d8, hds⟩ := List.forall_mem_cons.mp hds
  have d8 : v_iv (n_v vs 4) + 0 ≤ v_iv (n_v vs 8) ∧ v_iv (n_v vs 8) ≤ v_iv (n_v vs 4) + 2000 := d8
  obtain ⟨d9, hds⟩ := List.forall_mem_cons.mp hds
  have d9 : v_iv (n_v vs 3) + (-4294967296) ≤ v_iv (n_v vs 8) ∧ v_iv (n_v vs 8) ≤ v_iv (n_v vs 3) + 1999 := d9
  obtain ⟨d10, hds⟩ := List.forall_mem_cons.mp hds
  have d10 : v_iv (n_v vs 3) + (-4294967296) ≤ v_iv (n_v vs 8) ∧ v_iv (n_v vs 8) ≤ v_iv (n_v vs 3) + 2015 := d10
  obtain ⟨d11, hds⟩ := List.forall_mem_cons.mp hds
  have d11 : v_iv (n_v vs 7) + 0 ≤ v_iv (n_v vs 8) ∧ v_iv (n_v vs 8) ≤ v_iv (n_v vs 7) + 8 := d11
  obtain ⟨d12, hds⟩ := List.forall_mem_cons.mp hds
  have d12 : v_iv (n_v vs 3) + (-4294967296) ≤ v_iv (n_v vs 4) ∧ v_iv (n_v vs 4) ≤ v_iv (n_v vs 3) + (-1) := d12
  obtain ⟨d13, hds⟩ := List.forall_mem_cons.mp hds
  have d13 : v_iv (n_v vs 3) + (-4294967296) ≤ v_iv (n_v vs 2) ∧ v_iv (n_v vs 2) ≤ v_iv (n_v vs 3) + 15 := d13
  obtain ⟨d14, hds⟩ := List.forall_mem_cons.mp hds
  have d14 : v_iv (n_v vs 4) + (-4294967296) ≤ v_iv (n_v vs 2) ∧ v_iv (n_v vs 2) ≤ v_iv (n_v vs 4) + 0 := d14
  obtain ⟨d15, hds⟩ := List.forall_mem_cons.mp hds
  have d15 : v_iv (n_v vs 2) + (-4294967296) ≤ v_iv (n_v vs 3) ∧ v_iv (n_v vs 3) ≤ v_iv (n_v vs 2) + 9 := d15
  obtain ⟨d16, hds⟩ := List.forall_mem_cons.mp hds
  have d16 : v_iv (n_v vs 4) + (-4294967296) ≤ v_iv (n_v vs 3) ∧ v_iv (n_v vs 3) ≤ v_iv (n_v vs 4) + 9 := d16
  obtain ⟨d17, hds⟩ := List.forall_mem_cons.mp hds
  have d17 : v_iv (n_v vs 3) + (-4294967296) ≤ v_iv (n_v vs 4) ∧ v_iv (n_v vs 4) ≤ v_iv (n_v vs 3) + 15 := d17
  have hf : fc_ok [(6, [11, 4], [1]), (2, [9, 8, 2], []), (1, [8, 7, 4], []), (9, [7, 0], [7]), (7, [4, 3], [2]), (20, [0, 3, 2], [30, 2000, 1, 1, 7, 1, 0, 0, -1, 0, 0]), (20, [2, 4], [30, 0, 1, 0, 0, -1, 0, 0])] ta ws vs := hf
  obtain ⟨f0, hf⟩ := fc_un (by decide) hf
  have f0 : v_iv (n_v vs 11) = v_iv (n_v vs 4) + 1 := f0
  obtain ⟨f1, hf⟩ := fc_un (by decide) hf
  have f1 : v_iv (n_v vs 9) = v_iv (n_v vs 8) - v_iv (n_v vs 2) := f1
  obtain ⟨f2, hf⟩ := fc_un (by decide) hf
  have f2 : v_iv (n_v vs 8) = v_iv (n_v vs 7) + v_iv (n_v vs 4) := f2
  obtain ⟨f3, hf⟩ := fc_un (by decide) hf
  have f3 : n_v vs 7 = w_fd ws (v_ad (n_v vs 0)) 7 := f3
  obtain ⟨f4, hf⟩ := fc_un (by decide) hf
  have f4 : v_iv (n_v vs 4) < v_iv (n_v vs 3) := f4
  obtain ⟨f5, hf⟩ := fc_un (by decide) hf
  have f5 : 1 * w_fi ws (n_v vs 0) 7 + (1 * v_iv (n_v vs 3) + ((-1) * v_iv (n_v vs 2) + 0)) ≤ 2000 := f5
  obtain ⟨f6, hf⟩ := fc_un (by decide) hf
  have f6 : 1 * v_iv (n_v vs 2) + ((-1) * v_iv (n_v vs 4) + 0) ≤ 0 := f6
  have g3 : v_iv (n_v vs 7) = w_fi ws (n_v vs 0) 7 := congrArg v_iv f3
  have kz_0_7 : 0 ≤ w_fi ws (n_v vs 0) 7 ∧ w_fi ws (n_v vs 0) 7 ≤ 2000 := tv_rng (th_fd hD hth r0 (g := GG_11) rfl (k := 7) (t := (0, 0, 2000, [])) rfl rfl)
  have nf0 : fc_1 (20, [2, 11], [30, 0, 1, 0, 0, -1, 0, 0]) ws (vs) := by
    refine ⟨fun n hn => ?_, ?_⟩
    · have hn : n ∈ [2, 11] := hn
      rw [hl]
      simp only [List.mem_cons, List.not_mem_nil, or_false] at hn
      show n < 12; omega
    · show 1 * v_iv (n_v vs 2) + ((-1) * v_iv (n_v vs 11) + 0) ≤ 0
      omega
  refine ⟨(fun _ h => (by cases h)), [], trivial, ?_, (fun _ h => (by cases h))⟩
  rw [List.append_nil]
  exact List.forall_mem_cons.mpr ⟨⟨by decide, nf0⟩, (fun _ h => (by cases h))⟩
def n_Sy_isWordAt_at_s5006_an : List an_T := [(20, [(0, (2, 0, 0, [11])), (1, (2, 0, 0, [5006])), (2, (0, 0, 15, [])), (3, (0, 0, 9, [])), (4, (0, 0, 15, []))], [], (0, 0), [(0, 0, 99980), (1, 4, 15), (0, 0, 100000)], [(2, 3, -1000000000000, 15), (2, 4, -1000000000000, 0), (3, 2, -1000000000000, 9), (3, 4, -1000000000000, 9), (4, 3, -1000000000000, 15)], [((0, 3), (2, 0, 0, [109]))], [], 0, [], [(20, [0, 3, 2], [30, 2000, 1, 1, 7, 1, 0, 0, -1, 0, 0]), (20, [2, 4], [30, 0, 1, 0, 0, -1, 0, 0])])]
def t_Sy_isWordAt_at_s5006_ct : ct_L := [(91, 104, e_jStr_charAt_v144)]
set_option maxRecDepth 100000 in
theorem c_Sy_isWordAt_at_s5006 {l : Launch} {D : va_G} {kA : Nat → ClassId} : ct_ok l D kA GG y_Sy_isWordAt_at_s5006 z_Sy_isWordAt_at_s5006 e_Sy_isWordAt_at_s5006 := chk_all_ok (FT := [(21, 11, 3), (28, 11, 5), (34, 11, 7)]) (PT := []) (CT := t_Sy_isWordAt_at_s5006_ct) (KT := []) (NT := []) (AN := n_Sy_isWordAt_at_s5006_an) (OT := [o_Sy_isWordAt_at_s5006_0, o_Sy_isWordAt_at_s5006_1, o_Sy_isWordAt_at_s5006_2]) 3 200 (List.forall_mem_cons.mpr ⟨oo_Sy_isWordAt_at_s5006_0, List.forall_mem_cons.mpr ⟨oo_Sy_isWordAt_at_s5006_1, List.forall_mem_cons.mpr ⟨oo_Sy_isWordAt_at_s5006_2, List.forall_mem_nil _⟩⟩⟩) (by decide +kernel) ⟨List.forall_mem_cons.mpr ⟨gf_Sy_21, List.forall_mem_cons.mpr ⟨gf_Sy_28, List.forall_mem_cons.mpr ⟨gf_Sy_34, List.forall_mem_nil _⟩⟩⟩, List.forall_mem_nil _, List.forall_mem_cons.mpr ⟨cl_string (y := y_jStr_charAt) (i := 6) rfl rfl (by decide +kernel) rfl c_jStr_charAt_v144 wm_684 wm_11 wm_2231 wm_682 wm_683 ⟨by decide, by decide, by decide +kernel⟩ (by decide), List.forall_mem_nil _⟩, List.forall_mem_nil _, List.forall_mem_nil _, GG_pl⟩ (by decide +kernel)
def o_Sy_isWordAt_at_s5007_0 : or_T := (20, 9, [(0, (2, 0, 0, [11])), (2, (0, 0, 47, [])), (3, (0, 0, 43, [])), (5, (0, 0, 2000, [])), (6, (0, 0, 2000, [])), (7, (0, -47, 43, [])), (8, (0, -47, 43, []))], [(7, [7, 8], [0]), (2, [8, 3, 2], []), (2, [7, 5, 6], []), (9, [6, 0], [7]), (9, [5, 0], [5])], [], [], [(20, [0, 3, 2], [30, 2000, 1, 1, 7, 1, 0, 0, -1, 0, 0]), (20, [2, 2], [30, 0, 1, 0, 0, -1, 0, 0])], [], [(7, 8, 0, 0), (8, 3, -47, 0), (7, 5, -2000, 0)])
theorem oo_Sy_isWordAt_at_s5007_0 {kA : Nat → ClassId} : or_ok kA GG o_Sy_isWordAt_at_s5007_0 := by
  intro A ta ws vs hD hth hl hk hds hf
  have hl : vs.length = 9 := hl
  have hk : ∀ q ∈ ([(0, (2, 0, 0, [11])), (2, (0, 0, 47, [])), (3, (0, 0, 43, [])), (5, (0, 0, 2000, [])), (6, (0, 0, 2000, [])), (7, (0, -47, 43, [])), (8, (0, -47, 43, []))] : List (Nat × tv_T)), tv_ok ta q.2 (n_v vs q.1) := hk
  obtain ⟨t0, hk⟩ := List.forall_mem_cons.mp hk
  have t0 : tv_ok ta (2, 0, 0, [11]) (n_v vs 0) := t0
  have r0 : ta (v_ad (n_v vs 0)) = some 11 := tv_rg t0
  obtain ⟨t2, hk⟩ := List.forall_mem_cons.mp hk
  have t2 : tv_ok ta (0, 0, 47, []) (n_v vs 2) := t2
  have k2 : 0 ≤ v_iv (n_v vs 2) ∧ v_iv (n_v vs 2) ≤ 47 := tv_rng t2
  obtain ⟨t3, hk⟩ := List.forall_mem_cons.mp hk
  have t3 : tv_ok ta (0, 0, 43, []) (n_v vs 3) := t3
  have k3 : 0 ≤ v_iv (n_v vs 3) ∧ v_iv (n_v vs 3) ≤ 43 := tv_rng t3
  obtain ⟨t5, hk⟩ := List.forall_mem_cons.mp hk
  have t5 : tv_ok ta (0, 0, 2000, []) (n_v vs 5) := t5
  have k5 : 0 ≤ v_iv (n_v vs 5) ∧ v_iv (n_v vs 5) ≤ 2000 := tv_rng t5
  obtain ⟨t6, hk⟩ := List.forall_mem_cons.mp hk
  have t6 : tv_ok ta (0, 0, 2000, []) (n_v vs 6) := t6
  have k6 : 0 ≤ v_iv (n_v vs 6) ∧ v_iv (n_v vs 6) ≤ 2000 := tv_rng t6
  obtain ⟨t7, hk⟩ := List.forall_mem_cons.mp hk
  have t7 : tv_ok ta (0, -47, 43, []) (n_v vs 7) := t7
  have k7 : (-47) ≤ v_iv (n_v vs 7) ∧ v_iv (n_v vs 7) ≤ 43 := tv_rng t7
  obtain ⟨t8, hk⟩ := List.forall_mem_cons.mp hk
  have t8 : tv_ok ta (0, -47, 43, []) (n_v vs 8) := t8
  have k8 : (-47) ≤ v_iv (n_v vs 8) ∧ v_iv (n_v vs 8) ≤ 43 := tv_rng t8
  have hds : ∀ q ∈ ([(7, 8, 0, 0), (8, 3, -47, 0), (7, 5, -2000, 0)] : List of_T), n_iv vs q.2.1 + q.2.2.1 ≤ n_iv vs q.1 ∧ n_iv vs q.1 ≤ n_iv vs q.2.1 + q.2.2.2 := hds
  obtain ⟨d0, hds⟩ := List.forall_mem_cons.mp hds
  have d0 : v_iv (n_v vs 8) + 0 ≤ v_iv (n_v vs 7) ∧ v_iv (n_v vs 7) ≤ v_iv (n_v vs 8) + 0 := d0
  obtain ⟨d1, hds⟩ := List.forall_mem_cons.mp hds
  have d1 : v_iv (n_v vs 3) + (-47) ≤ v_iv (n_v vs 8) ∧ v_iv (n_v vs 8) ≤ v_iv (n_v vs 3) + 0 := d1
  obtain ⟨d2, hds⟩ := List.forall_mem_cons.mp hds
  have d2 : v_iv (n_v vs 5) + (-2000) ≤ v_iv (n_v vs 7) ∧ v_iv (n_v vs 7) ≤ v_iv (n_v vs 5) + 0 := d2
  have hf : fc_ok [(7, [7, 8], [0]), (2, [8, 3, 2], []), (2, [7, 5, 6], []), (9, [6, 0], [7]), (9, [5, 0], [5])] ta ws vs := hf
  obtain ⟨f0, hf⟩ := fc_un (by decide) hf
  have f0 : v_iv (n_v vs 7) = v_iv (n_v vs 8) := f0
  obtain ⟨f1, hf⟩ := fc_un (by decide) hf
  have f1 : v_iv (n_v vs 8) = v_iv (n_v vs 3) - v_iv (n_v vs 2) := f1
  obtain ⟨f2, hf⟩ := fc_un (by decide) hf
  have f2 : v_iv (n_v vs 7) = v_iv (n_v vs 5) - v_iv (n_v vs 6) := f2
  obtain ⟨f3, hf⟩ := fc_un (by decide) hf
  have f3 : n_v vs 6 = w_fd ws (v_ad (n_v vs 0)) 7 := f3
  obtain ⟨f4, hf⟩ := fc_un (by decide) hf
  have f4 : n_v vs 5 = w_fd ws (v_ad (n_v vs 0)) 5 := f4
  have g3 : v_iv (n_v vs 6) = w_fi ws (n_v vs 0) 7 := congrArg v_iv f3
  have g4 : v_iv (n_v vs 5) = w_fi ws (n_v vs 0) 5 := congrArg v_iv f4
  have kz_0_5 : 0 ≤ w_fi ws (n_v vs 0) 5 ∧ w_fi ws (n_v vs 0) 5 ≤ 2000 := tv_rng (th_fd hD hth r0 (g := GG_11) rfl (k := 5) (t := (0, 0, 2000, [])) rfl rfl)
  have kz_0_7 : 0 ≤ w_fi ws (n_v vs 0) 7 ∧ w_fi ws (n_v vs 0) 7 ≤ 2000 := tv_rng (th_fd hD hth r0 (g := GG_11) rfl (k := 7) (t := (0, 0, 2000, [])) rfl rfl)
  have nf0 : fc_1 (20, [0, 3, 2], [30, 2000, 1, 1, 7, 1, 0, 0, -1, 0, 0]) ws (vs) := by
    refine ⟨fun n hn => ?_, ?_⟩
    · have hn : n ∈ [0, 3, 2] := hn
      rw [hl]
      simp only [List.mem_cons, List.not_mem_nil, or_false] at hn
      show n < 9; omega
    · show 1 * w_fi ws (n_v vs 0) 7 + (1 * v_iv (n_v vs 3) + ((-1) * v_iv (n_v vs 2) + 0)) ≤ 2000
      omega
  have nf1 : fc_1 (20, [2, 2], [30, 0, 1, 0, 0, -1, 0, 0]) ws (vs) := by
    refine ⟨fun n hn => ?_, ?_⟩
    · have hn : n ∈ [2, 2] := hn
      rw [hl]
      simp only [List.mem_cons, List.not_mem_nil, or_false] at hn
      show n < 9; omega
    · show 1 * v_iv (n_v vs 2) + ((-1) * v_iv (n_v vs 2) + 0) ≤ 0
      omega
  refine ⟨(fun _ h => (by cases h)), [], trivial, ?_, (fun _ h => (by cases h))⟩
  rw [List.append_nil]
  exact List.forall_mem_cons.mpr ⟨⟨by decide, nf0⟩, List.forall_mem_cons.mpr ⟨⟨by decide, nf1⟩, (fun _ h => (by cases h))⟩⟩
def o_Sy_isWordAt_at_s5007_1 : or_T := (45, 10, [(0, (2, 0, 0, [11])), (2, (0, 0, 42, [])), (3, (0, 1, 43, [])), (4, (0, 0, 42, [])), (7, (0, 0, 2000, [])), (8, (0, 0, 2042, [])), (9, (0, -42, 2042, []))], [(2, [9, 8, 2], []), (1, [8, 7, 4], []), (9, [7, 0], [7]), (7, [4, 3], [2]), (20, [0, 3, 2], [30, 2000, 1, 1, 7, 1, 0, 0, -1, 0, 0]), (20, [2, 4], [30, 0, 1, 0, 0, -1, 0, 0])], [(9, (0, 0, 1999, []))], [], [], [], [(9, 8, -42, 0), (9, 4, -42, 2000), (9, 3, -4294967296, 1999), (9, 3, -4294967296, 2047), (9, 7, -42, 42), (8, 4, 0, 2000), (8, 3, -4294967296, 1999), (8, 3, -4294967296, 2047), (8, 7, 0, 42), (4, 3, -4294967296, -1), (2, 3, -4294967296, 47), (2, 4, -4294967296, 0), (3, 2, -4294967296, 43), (3, 4, -4294967296, 43), (4, 3, -4294967296, 47)])
theorem oo_Sy_isWordAt_at_s5007_1 {kA : Nat → ClassId} : or_ok kA GG o_Sy_isWordAt_at_s5007_1 := by
  intro A ta ws vs hD hth hl hk hds hf
  have hl : vs.length = 10 := hl
  have hk : ∀ q ∈ ([(0, (2, 0, 0, [11])), (2, (0, 0, 42, [])), (3, (0, 1, 43, [])), (4, (0, 0, 42, [])), (7, (0, 0, 2000, [])), (8, (0, 0, 2042, [])), (9, (0, -42, 2042, []))] : List (Nat × tv_T)), tv_ok ta q.2 (n_v vs q.1) := hk
  obtain ⟨t0, hk⟩ := List.forall_mem_cons.mp hk
  have t0 : tv_ok ta (2, 0, 0, [11]) (n_v vs 0) := t0
  have r0 : ta (v_ad (n_v vs 0)) = some 11 := tv_rg t0
  obtain ⟨t2, hk⟩ := List.forall_mem_cons.mp hk
  have t2 : tv_ok ta (0, 0, 42, []) (n_v vs 2) := t2
  have k2 : 0 ≤ v_iv (n_v vs 2) ∧ v_iv (n_v vs 2) ≤ 42 := tv_rng t2
  obtain ⟨t3, hk⟩ := List.forall_mem_cons.mp hk
  have t3 : tv_ok ta (0, 1, 43, []) (n_v vs 3) := t3
  have k3 : 1 ≤ v_iv (n_v vs 3) ∧ v_iv (n_v vs 3) ≤ 43 := tv_rng t3
  obtain ⟨t4, hk⟩ := List.forall_mem_cons.mp hk
  have t4 : tv_ok ta (0, 0, 42, []) (n_v vs 4) := t4
  have k4 : 0 ≤ v_iv (n_v vs 4) ∧ v_iv (n_v vs 4) ≤ 42 := tv_rng t4
  obtain ⟨t7, hk⟩ := List.forall_mem_cons.mp hk
  have t7 : tv_ok ta (0, 0, 2000, []) (n_v vs 7) := t7
  have k7 : 0 ≤ v_iv (n_v vs 7) ∧ v_iv (n_v vs 7) ≤ 2000 := tv_rng t7
  obtain ⟨t8, hk⟩ := List.forall_mem_cons.mp hk
  have t8 : tv_ok ta (0, 0, 2042, []) (n_v vs 8) := t8
  have k8 : 0 ≤ v_iv (n_v vs 8) ∧ v_iv (n_v vs 8) ≤ 2042 := tv_rng t8
  obtain ⟨t9, hk⟩ := List.forall_mem_cons.mp hk
  have t9 : tv_ok ta (0, -42, 2042, []) (n_v vs 9) := t9
  have k9 : (-42) ≤ v_iv (n_v vs 9) ∧ v_iv (n_v vs 9) ≤ 2042 := tv_rng t9
  have hds : ∀ q ∈ ([(9, 8, -42, 0), (9, 4, -42, 2000), (9, 3, -4294967296, 1999), (9, 3, -4294967296, 2047), (9, 7, -42, 42), (8, 4, 0, 2000), (8, 3, -4294967296, 1999), (8, 3, -4294967296, 2047), (8, 7, 0, 42), (4, 3, -4294967296, -1), (2, 3, -4294967296, 47), (2, 4, -4294967296, 0), (3, 2, -4294967296, 43), (3, 4, -4294967296, 43), (4, 3, -4294967296, 47)] : List of_T), n_iv vs q.2.1 + q.2.2.1 ≤ n_iv vs q.1 ∧ n_iv vs q.1 ≤ n_iv vs q.2.1 + q.2.2.2 := hds
  obtain ⟨d0, hds⟩ := List.forall_mem_cons.mp hds
  have d0 : v_iv (n_v vs 8) + (-42) ≤ v_iv (n_v vs 9) ∧ v_iv (n_v vs 9) ≤ v_iv (n_v vs 8) + 0 := d0
  obtain ⟨d1, hds⟩ := List.forall_mem_cons.mp hds
  have d1 : v_iv (n_v vs 4) + (-42) ≤ v_iv (n_v vs 9) ∧ v_iv (n_v vs 9) ≤ v_iv (n_v vs 4) + 2000 := d1
  obtain ⟨d2, hds⟩ := List.forall_mem_cons.mp hds
  have d2 : v_iv (n_v vs 3) + (-4294967296) ≤ v_iv (n_v vs 9) ∧ v_iv (n_v vs 9) ≤ v_iv (n_v vs 3) + 1999 := d2
  obtain ⟨d3, hds⟩ := List.forall_mem_cons.mp hds
  have d3 : v_iv (n_v vs 3) + (-4294967296) ≤ v_iv (n_v vs 9) ∧ v_iv (n_v vs 9) ≤ v_iv (n_v vs 3) + 2047 := d3
  obtain ⟨d4, hds⟩ := List.forall_mem_cons.mp hds
  have d4 : v_iv (n_v vs 7) + (-42) ≤ v_iv (n_v vs 9) ∧ v_iv (n_v vs 9) ≤ v_iv (n_v vs 7) + 42 := d4
  obtain ⟨d5, hds⟩ := List.forall_mem_cons.mp hds
  have d5 : v_iv (n_v vs 4) + 0 ≤ v_iv (n_v vs 8) ∧ v_iv (n_v vs 8) ≤ v_iv (n_v vs 4) + 2000 := d5
  obtain ⟨d6, hds⟩ := List.forall_mem_cons.mp hds
  have d6 : v_iv (n_v vs 3) + (-4294967296) ≤ v_iv (n_v vs 8) ∧ v_iv (n_v vs 8) ≤ v_iv (n_v vs 3) + 1999 := d6
  obtain ⟨d7, hds⟩ := List.forall_mem_cons.mp hds
  have d7 : v_iv (n_v vs 3) + (-4294967296) ≤ v_iv (n_v vs 8) ∧ v_iv (n_v vs 8) ≤ v_iv (n_v vs 3) + 2047 := d7
  obtain ⟨d8, hds⟩ := List.forall_mem_cons.mp hds
  have d8 : v_iv (n_v vs 7) + 0 ≤ v_iv (n_v vs 8) ∧ v_iv (n_v vs 8) ≤ v_iv (n_v vs 7) + 42 := d8
  obtain ⟨d9, hds⟩ := List.forall_mem_cons.mp hds
  have d9 : v_iv (n_v vs 3) + (-4294967296) ≤ v_iv (n_v vs 4) ∧ v_iv (n_v vs 4) ≤ v_iv (n_v vs 3) + (-1) := d9
  obtain ⟨d10, hds⟩ := List.forall_mem_cons.mp hds
  have d10 : v_iv (n_v vs 3) + (-4294967296) ≤ v_iv (n_v vs 2) ∧ v_iv (n_v vs 2) ≤ v_iv (n_v vs 3) + 47 := d10
  obtain ⟨d11, hds⟩ := List.forall_mem_cons.mp hds
  have d11 : v_iv (n_v vs 4) + (-4294967296) ≤ v_iv (n_v vs 2) ∧ v_iv (n_v vs 2) ≤ v_iv (n_v vs 4) + 0 := d11
  obtain ⟨d12, hds⟩ := List.forall_mem_cons.mp hds
  have d12 : v_iv (n_v vs 2) + (-4294967296) ≤ v_iv (n_v vs 3) ∧ v_iv (n_v vs 3) ≤ v_iv (n_v vs 2) + 43 := d12
  obtain ⟨d13, hds⟩ := List.forall_mem_cons.mp hds
  have d13 : v_iv (n_v vs 4) + (-4294967296) ≤ v_iv (n_v vs 3) ∧ v_iv (n_v vs 3) ≤ v_iv (n_v vs 4) + 43 := d13
  obtain ⟨d14, hds⟩ := List.forall_mem_cons.mp hds
  have d14 : v_iv (n_v vs 3) + (-4294967296) ≤ v_iv (n_v vs 4) ∧ v_iv (n_v vs 4) ≤ v_iv (n_v vs 3) + 47 := d14
  have hf : fc_ok [(2, [9, 8, 2], []), (1, [8, 7, 4], []), (9, [7, 0], [7]), (7, [4, 3], [2]), (20, [0, 3, 2], [30, 2000, 1, 1, 7, 1, 0, 0, -1, 0, 0]), (20, [2, 4], [30, 0, 1, 0, 0, -1, 0, 0])] ta ws vs := hf
  obtain ⟨f0, hf⟩ := fc_un (by decide) hf
  have f0 : v_iv (n_v vs 9) = v_iv (n_v vs 8) - v_iv (n_v vs 2) := f0
  obtain ⟨f1, hf⟩ := fc_un (by decide) hf
  have f1 : v_iv (n_v vs 8) = v_iv (n_v vs 7) + v_iv (n_v vs 4) := f1
  obtain ⟨f2, hf⟩ := fc_un (by decide) hf
  have f2 : n_v vs 7 = w_fd ws (v_ad (n_v vs 0)) 7 := f2
  obtain ⟨f3, hf⟩ := fc_un (by decide) hf
  have f3 : v_iv (n_v vs 4) < v_iv (n_v vs 3) := f3
  obtain ⟨f4, hf⟩ := fc_un (by decide) hf
  have f4 : 1 * w_fi ws (n_v vs 0) 7 + (1 * v_iv (n_v vs 3) + ((-1) * v_iv (n_v vs 2) + 0)) ≤ 2000 := f4
  obtain ⟨f5, hf⟩ := fc_un (by decide) hf
  have f5 : 1 * v_iv (n_v vs 2) + ((-1) * v_iv (n_v vs 4) + 0) ≤ 0 := f5
  have g2 : v_iv (n_v vs 7) = w_fi ws (n_v vs 0) 7 := congrArg v_iv f2
  have kz_0_7 : 0 ≤ w_fi ws (n_v vs 0) 7 ∧ w_fi ws (n_v vs 0) 7 ≤ 2000 := tv_rng (th_fd hD hth r0 (g := GG_11) rfl (k := 7) (t := (0, 0, 2000, [])) rfl rfl)
  have rf9 : tv_ok ta (0, 0, 1999, []) (n_v vs 9) := tv_in t9 (by omega) (by omega)
  refine ⟨List.forall_mem_cons.mpr ⟨rf9, (fun _ h => (by cases h))⟩, [], trivial, ?_, (fun _ h => (by cases h))⟩
  rw [List.append_nil]
  exact (fun _ h => (by cases h))
def o_Sy_isWordAt_at_s5007_2 : or_T := (20, 12, [(0, (2, 0, 0, [11])), (2, (0, 0, 42, [])), (3, (0, 1, 43, [])), (4, (0, 0, 42, [])), (7, (0, 0, 2000, [])), (8, (0, 0, 2042, [])), (9, (0, 0, 1999, [])), (11, (0, 1, 43, []))], [(6, [11, 4], [1]), (2, [9, 8, 2], []), (1, [8, 7, 4], []), (9, [7, 0], [7]), (7, [4, 3], [2]), (20, [0, 3, 2], [30, 2000, 1, 1, 7, 1, 0, 0, -1, 0, 0]), (20, [2, 4], [30, 0, 1, 0, 0, -1, 0, 0])], [], [], [(20, [2, 11], [30, 0, 1, 0, 0, -1, 0, 0])], [], [(11, 4, 1, 1), (11, 3, -4294967296, 0), (11, 3, -4294967296, 48), (9, 8, -42, 0), (9, 4, -42, 2000), (9, 3, -4294967296, 1999), (9, 3, -4294967296, 2047), (9, 7, -42, 42), (8, 4, 0, 2000), (8, 3, -4294967296, 1999), (8, 3, -4294967296, 2047), (8, 7, 0, 42), (4, 3, -4294967296, -1), (2, 3, -4294967296, 47), (2, 4, -4294967296, 0), (3, 2, -4294967296, 43), (3, 4, -4294967296, 43), (4, 3, -4294967296, 47)])
theorem oo_Sy_isWordAt_at_s5007_2 {kA : Nat → ClassId} : or_ok kA GG o_Sy_isWordAt_at_s5007_2 := by
  intro A ta ws vs hD hth hl hk hds hf
  have hl : vs.length = 12 := hl
  have hk : ∀ q ∈ ([(0, (2, 0, 0, [11])), (2, (0, 0, 42, [])), (3, (0, 1, 43, [])), (4, (0, 0, 42, [])), (7, (0, 0, 2000, [])), (8, (0, 0, 2042, [])), (9, (0, 0, 1999, [])), (11, (0, 1, 43, []))] : List (Nat × tv_T)), tv_ok ta q.2 (n_v vs q.1) := hk
  obtain ⟨t0, hk⟩ := List.forall_mem_cons.mp hk
  have t0 : tv_ok ta (2, 0, 0, [11]) (n_v vs 0) := t0
  have r0 : ta (v_ad (n_v vs 0)) = some 11 := tv_rg t0
  obtain ⟨t2, hk⟩ := List.forall_mem_cons.mp hk
  have t2 : tv_ok ta (0, 0, 42, []) (n_v vs 2) := t2
  have k2 : 0 ≤ v_iv (n_v vs 2) ∧ v_iv (n_v vs 2) ≤ 42 := tv_rng t2
  obtain ⟨t3, hk⟩ := List.forall_mem_cons.mp hk
  have t3 : tv_ok ta (0, 1, 43, []) (n_v vs 3) := t3
  have k3 : 1 ≤ v_iv (n_v vs 3) ∧ v_iv (n_v vs 3) ≤ 43 := tv_rng t3
  obtain ⟨t4, hk⟩ := List.forall_mem_cons.mp hk
  have t4 : tv_ok ta (0, 0, 42, []) (n_v vs 4) := t4
  have k4 : 0 ≤ v_iv (n_v vs 4) ∧ v_iv (n_v vs 4) ≤ 42 := tv_rng t4
  obtain ⟨t7, hk⟩ := List.forall_mem_cons.mp hk
  have t7 : tv_ok ta (0, 0, 2000, []) (n_v vs 7) := t7
  have k7 : 0 ≤ v_iv (n_v vs 7) ∧ v_iv (n_v vs 7) ≤ 2000 := tv_rng t7
  obtain ⟨t8, hk⟩ := List.forall_mem_cons.mp hk
  have t8 : tv_ok ta (0, 0, 2042, []) (n_v vs 8) := t8
  have k8 : 0 ≤ v_iv (n_v vs 8) ∧ v_iv (n_v vs 8) ≤ 2042 := tv_rng t8
  obtain ⟨t9, hk⟩ := List.forall_mem_cons.mp hk
  have t9 : tv_ok ta (0, 0, 1999, []) (n_v vs 9) := t9
  have k9 : 0 ≤ v_iv (n_v vs 9) ∧ v_iv (n_v vs 9) ≤ 1999 := tv_rng t9
  obtain ⟨t11, hk⟩ := List.forall_mem_cons.mp hk
  have t11 : tv_ok ta (0, 1, 43, []) (n_v vs 11) := t11
  have k11 : 1 ≤ v_iv (n_v vs 11) ∧ v_iv (n_v vs 11) ≤ 43 := tv_rng t11
  have hds : ∀ q ∈ ([(11, 4, 1, 1), (11, 3, -4294967296, 0), (11, 3, -4294967296, 48), (9, 8, -42, 0), (9, 4, -42, 2000), (9, 3, -4294967296, 1999), (9, 3, -4294967296, 2047), (9, 7, -42, 42), (8, 4, 0, 2000), (8, 3, -4294967296, 1999), (8, 3, -4294967296, 2047), (8, 7, 0, 42), (4, 3, -4294967296, -1), (2, 3, -4294967296, 47), (2, 4, -4294967296, 0), (3, 2, -4294967296, 43), (3, 4, -4294967296, 43), (4, 3, -4294967296, 47)] : List of_T), n_iv vs q.2.1 + q.2.2.1 ≤ n_iv vs q.1 ∧ n_iv vs q.1 ≤ n_iv vs q.2.1 + q.2.2.2 := hds
  obtain ⟨d0, hds⟩ := List.forall_mem_cons.mp hds
  have d0 : v_iv (n_v vs 4) + 1 ≤ v_iv (n_v vs 11) ∧ v_iv (n_v vs 11) ≤ v_iv (n_v vs 4) + 1 := d0
  obtain ⟨d1, hds⟩ := List.forall_mem_cons.mp hds
  have d1 : v_iv (n_v vs 3) + (-4294967296) ≤ v_iv (n_v vs 11) ∧ v_iv (n_v vs 11) ≤ v_iv (n_v vs 3) + 0 := d1
  obtain ⟨d2, hds⟩ := List.forall_mem_cons.mp hds
  have d2 : v_iv (n_v vs 3) + (-4294967296) ≤ v_iv (n_v vs 11) ∧ v_iv (n_v vs 11) ≤ v_iv (n_v vs 3) + 48 := d2
  obtain ⟨d3, hds⟩ := List.forall_mem_cons.mp hds
  have d3 : v_iv (n_v vs 8) + (-42) ≤ v_iv (n_v vs 9) ∧ v_iv (n_v vs 9) ≤ v_iv (n_v vs 8) + 0 := d3
  obtain ⟨d4, hds⟩ := List.forall_mem_cons.mp hds
  have d4 : v_iv (n_v vs 4) + (-42) ≤ v_iv (n_v vs 9) ∧ v_iv (n_v vs 9) ≤ v_iv (n_v vs 4) + 2000 := d4
  obtain ⟨d5, hds⟩ := List.forall_mem_cons.mp hds
  have d5 : v_iv (n_v vs 3) + (-4294967296) ≤ v_iv (n_v vs 9) ∧ v_iv (n_v vs 9) ≤ v_iv (n_v vs 3) + 1999 := d5
  obtain ⟨d6, hds⟩ := List.forall_mem_cons.mp hds
  have d6 : v_iv (n_v vs 3) + (-4294967296) ≤ v_iv (n_v vs 9) ∧ v_iv (n_v vs 9) ≤ v_iv (n_v vs 3) + 2047 := d6
  obtain ⟨d7, hds⟩ := List.forall_mem_cons.mp hds
  have d7 : v_iv (n_v vs 7) + (-42) ≤ v_iv (n_v vs 9) ∧ v_iv (n_v vs 9) ≤ v_iv (n_v vs 7) + 42 := d7
  obtain ⟨d8, hds⟩ := List.forall_mem_cons.mp hds
  have d8 : v_iv (n_v vs 4) + 0 ≤ v_iv (n_v vs 8) ∧ v_iv (n_v vs 8) ≤ v_iv (n_v vs 4) + 2000 := d8
  obtain ⟨d9, hds⟩ := List.forall_mem_cons.mp hds
  have d9 : v_iv (n_v vs 3) + (-4294967296) ≤ v_iv (n_v vs 8) ∧ v_iv (n_v vs 8) ≤ v_iv (n_v vs 3) + 1999 := d9
  obtain ⟨d10, hds⟩ := List.forall_mem_cons.mp hds
  have d10 : v_iv (n_v vs 3) + (-4294967296) ≤ v_iv (n_v vs 8) ∧ v_iv (n_v vs 8) ≤ v_iv (n_v vs 3) + 2047 := d10
  obtain ⟨d11, hds⟩ := List.forall_mem_cons.mp hds
  have d11 : v_iv (n_v vs 7) + 0 ≤ v_iv (n_v vs 8) ∧ v_iv (n_v vs 8) ≤ v_iv (n_v vs 7) + 42 := d11
  obtain ⟨d12, hds⟩ := List.forall_mem_cons.mp hds
  have d12 : v_iv (n_v vs 3) + (-4294967296) ≤ v_iv (n_v vs 4) ∧ v_iv (n_v vs 4) ≤ v_iv (n_v vs 3) + (-1) := d12
  obtain ⟨d13, hds⟩ := List.forall_mem_cons.mp hds
  have d13 : v_iv (n_v vs 3) + (-4294967296) ≤ v_iv (n_v vs 2) ∧ v_iv (n_v vs 2) ≤ v_iv (n_v vs 3) + 47 := d13
  obtain ⟨d14, hds⟩ := List.forall_mem_cons.mp hds
  have d14 : v_iv (n_v vs 4) + (-4294967296) ≤ v_iv (n_v vs 2) ∧ v_iv (n_v vs 2) ≤ v_iv (n_v vs 4) + 0 := d14
  obtain ⟨d15, hds⟩ := List.forall_mem_cons.mp hds
  have d15 : v_iv (n_v vs 2) + (-4294967296) ≤ v_iv (n_v vs 3) ∧ v_iv (n_v vs 3) ≤ v_iv (n_v vs 2) + 43 := d15
  obtain ⟨d16, hds⟩ := List.forall_mem_cons.mp hds
  have d16 : v_iv (n_v vs 4) + (-4294967296) ≤ v_iv (n_v vs 3) ∧ v_iv (n_v vs 3) ≤ v_iv (n_v vs 4) + 43 := d16
  obtain ⟨d17, hds⟩ := List.forall_mem_cons.mp hds
  have d17 : v_iv (n_v vs 3) + (-4294967296) ≤ v_iv (n_v vs 4) ∧ v_iv (n_v vs 4) ≤ v_iv (n_v vs 3) + 47 := d17
  have hf : fc_ok [(6, [11, 4], [1]), (2, [9, 8, 2], []), (1, [8, 7, 4], []), (9, [7, 0], [7]), (7, [4, 3], [2]), (20, [0, 3, 2], [30, 2000, 1, 1, 7, 1, 0, 0, -1, 0, 0]), (20, [2, 4], [30, 0, 1, 0, 0, -1, 0, 0])] ta ws vs := hf
  obtain ⟨f0, hf⟩ := fc_un (by decide) hf
  have f0 : v_iv (n_v vs 11) = v_iv (n_v vs 4) + 1 := f0
  obtain ⟨f1, hf⟩ := fc_un (by decide) hf
  have f1 : v_iv (n_v vs 9) = v_iv (n_v vs 8) - v_iv (n_v vs 2) := f1
  obtain ⟨f2, hf⟩ := fc_un (by decide) hf
  have f2 : v_iv (n_v vs 8) = v_iv (n_v vs 7) + v_iv (n_v vs 4) := f2
  obtain ⟨f3, hf⟩ := fc_un (by decide) hf
  have f3 : n_v vs 7 = w_fd ws (v_ad (n_v vs 0)) 7 := f3
  obtain ⟨f4, hf⟩ := fc_un (by decide) hf
  have f4 : v_iv (n_v vs 4) < v_iv (n_v vs 3) := f4
  obtain ⟨f5, hf⟩ := fc_un (by decide) hf
  have f5 : 1 * w_fi ws (n_v vs 0) 7 + (1 * v_iv (n_v vs 3) + ((-1) * v_iv (n_v vs 2) + 0)) ≤ 2000 := f5
  obtain ⟨f6, hf⟩ := fc_un (by decide) hf
  have f6 : 1 * v_iv (n_v vs 2) + ((-1) * v_iv (n_v vs 4) + 0) ≤ 0 := f6
  have g3 : v_iv (n_v vs 7) = w_fi ws (n_v vs 0) 7 := congrArg v_iv f3
  have kz_0_7 : 0 ≤ w_fi ws (n_v vs 0) 7 ∧ w_fi ws (n_v vs 0) 7 ≤ 2000 := tv_rng (th_fd hD hth r0 (g := GG_11) rfl (k := 7) (t := (0, 0, 2000, [])) rfl rfl)
  have nf0 : fc_1 (20, [2, 11], [30, 0, 1, 0, 0, -1, 0, 0]) ws (vs) := by
    refine ⟨fun n hn => ?_, ?_⟩
    · have hn : n ∈ [2, 11] := hn
      rw [hl]
      simp only [List.mem_cons, List.not_mem_nil, or_false] at hn
      show n < 12; omega
    · show 1 * v_iv (n_v vs 2) + ((-1) * v_iv (n_v vs 11) + 0) ≤ 0
      omega
  refine ⟨(fun _ h => (by cases h)), [], trivial, ?_, (fun _ h => (by cases h))⟩
  rw [List.append_nil]
  exact List.forall_mem_cons.mpr ⟨⟨by decide, nf0⟩, (fun _ h => (by cases h))⟩
def n_Sy_isWordAt_at_s5007_an : List an_T := [(20, [(0, (2, 0, 0, [11])), (1, (2, 0, 0, [5007])), (2, (0, 0, 47, [])), (3, (0, 0, 43, [])), (4, (0, 0, 47, []))], [], (0, 0), [(0, 0, 99980), (1, 4, 47), (0, 0, 100000)], [(2, 3, -1000000000000, 47), (2, 4, -1000000000000, 0), (3, 2, -1000000000000, 43), (3, 4, -1000000000000, 43), (4, 3, -1000000000000, 47)], [((0, 3), (2, 0, 0, [109]))], [], 0, [], [(20, [0, 3, 2], [30, 2000, 1, 1, 7, 1, 0, 0, -1, 0, 0]), (20, [2, 4], [30, 0, 1, 0, 0, -1, 0, 0])])]
def t_Sy_isWordAt_at_s5007_ct : ct_L := [(91, 104, e_jStr_charAt_v148)]
set_option maxRecDepth 100000 in
theorem c_Sy_isWordAt_at_s5007 {l : Launch} {D : va_G} {kA : Nat → ClassId} : ct_ok l D kA GG y_Sy_isWordAt_at_s5007 z_Sy_isWordAt_at_s5007 e_Sy_isWordAt_at_s5007 := chk_all_ok (FT := [(21, 11, 3), (28, 11, 5), (34, 11, 7)]) (PT := []) (CT := t_Sy_isWordAt_at_s5007_ct) (KT := []) (NT := []) (AN := n_Sy_isWordAt_at_s5007_an) (OT := [o_Sy_isWordAt_at_s5007_0, o_Sy_isWordAt_at_s5007_1, o_Sy_isWordAt_at_s5007_2]) 3 200 (List.forall_mem_cons.mpr ⟨oo_Sy_isWordAt_at_s5007_0, List.forall_mem_cons.mpr ⟨oo_Sy_isWordAt_at_s5007_1, List.forall_mem_cons.mpr ⟨oo_Sy_isWordAt_at_s5007_2, List.forall_mem_nil _⟩⟩⟩) (by decide +kernel) ⟨List.forall_mem_cons.mpr ⟨gf_Sy_21, List.forall_mem_cons.mpr ⟨gf_Sy_28, List.forall_mem_cons.mpr ⟨gf_Sy_34, List.forall_mem_nil _⟩⟩⟩, List.forall_mem_nil _, List.forall_mem_cons.mpr ⟨cl_string (y := y_jStr_charAt) (i := 7) rfl rfl (by decide +kernel) rfl c_jStr_charAt_v148 wm_684 wm_11 wm_2231 wm_682 wm_683 ⟨by decide, by decide, by decide +kernel⟩ (by decide), List.forall_mem_nil _⟩, List.forall_mem_nil _, List.forall_mem_nil _, GG_pl⟩ (by decide +kernel)
def o_Sy_isWordAt_at_s5008_0 : or_T := (20, 9, [(0, (2, 0, 0, [11])), (2, (0, 0, 3, [])), (3, (0, 0, 2, [])), (5, (0, 0, 2000, [])), (6, (0, 0, 2000, [])), (7, (0, -3, 2, [])), (8, (0, -3, 2, []))], [(7, [7, 8], [0]), (2, [8, 3, 2], []), (2, [7, 5, 6], []), (9, [6, 0], [7]), (9, [5, 0], [5])], [], [], [(20, [0, 3, 2], [30, 2000, 1, 1, 7, 1, 0, 0, -1, 0, 0]), (20, [2, 2], [30, 0, 1, 0, 0, -1, 0, 0])], [], [(7, 8, 0, 0), (8, 3, -3, 0), (7, 5, -2000, 0)])
theorem oo_Sy_isWordAt_at_s5008_0 {kA : Nat → ClassId} : or_ok kA GG o_Sy_isWordAt_at_s5008_0 := by
  intro A ta ws vs hD hth hl hk hds hf
  have hl : vs.length = 9 := hl
  have hk : ∀ q ∈ ([(0, (2, 0, 0, [11])), (2, (0, 0, 3, [])), (3, (0, 0, 2, [])), (5, (0, 0, 2000, [])), (6, (0, 0, 2000, [])), (7, (0, -3, 2, [])), (8, (0, -3, 2, []))] : List (Nat × tv_T)), tv_ok ta q.2 (n_v vs q.1) := hk
  obtain ⟨t0, hk⟩ := List.forall_mem_cons.mp hk
  have t0 : tv_ok ta (2, 0, 0, [11]) (n_v vs 0) := t0
  have r0 : ta (v_ad (n_v vs 0)) = some 11 := tv_rg t0
  obtain ⟨t2, hk⟩ := List.forall_mem_cons.mp hk
  have t2 : tv_ok ta (0, 0, 3, []) (n_v vs 2) := t2
  have k2 : 0 ≤ v_iv (n_v vs 2) ∧ v_iv (n_v vs 2) ≤ 3 := tv_rng t2
  obtain ⟨t3, hk⟩ := List.forall_mem_cons.mp hk
  have t3 : tv_ok ta (0, 0, 2, []) (n_v vs 3) := t3
  have k3 : 0 ≤ v_iv (n_v vs 3) ∧ v_iv (n_v vs 3) ≤ 2 := tv_rng t3
  obtain ⟨t5, hk⟩ := List.forall_mem_cons.mp hk
  have t5 : tv_ok ta (0, 0, 2000, []) (n_v vs 5) := t5
  have k5 : 0 ≤ v_iv (n_v vs 5) ∧ v_iv (n_v vs 5) ≤ 2000 := tv_rng t5
  obtain ⟨t6, hk⟩ := List.forall_mem_cons.mp hk
  have t6 : tv_ok ta (0, 0, 2000, []) (n_v vs 6) := t6
  have k6 : 0 ≤ v_iv (n_v vs 6) ∧ v_iv (n_v vs 6) ≤ 2000 := tv_rng t6
  obtain ⟨t7, hk⟩ := List.forall_mem_cons.mp hk
  have t7 : tv_ok ta (0, -3, 2, []) (n_v vs 7) := t7
  have k7 : (-3) ≤ v_iv (n_v vs 7) ∧ v_iv (n_v vs 7) ≤ 2 := tv_rng t7
  obtain ⟨t8, hk⟩ := List.forall_mem_cons.mp hk
  have t8 : tv_ok ta (0, -3, 2, []) (n_v vs 8) := t8
  have k8 : (-3) ≤ v_iv (n_v vs 8) ∧ v_iv (n_v vs 8) ≤ 2 := tv_rng t8
  have hds : ∀ q ∈ ([(7, 8, 0, 0), (8, 3, -3, 0), (7, 5, -2000, 0)] : List of_T), n_iv vs q.2.1 + q.2.2.1 ≤ n_iv vs q.1 ∧ n_iv vs q.1 ≤ n_iv vs q.2.1 + q.2.2.2 := hds
  obtain ⟨d0, hds⟩ := List.forall_mem_cons.mp hds
  have d0 : v_iv (n_v vs 8) + 0 ≤ v_iv (n_v vs 7) ∧ v_iv (n_v vs 7) ≤ v_iv (n_v vs 8) + 0 := d0
  obtain ⟨d1, hds⟩ := List.forall_mem_cons.mp hds
  have d1 : v_iv (n_v vs 3) + (-3) ≤ v_iv (n_v vs 8) ∧ v_iv (n_v vs 8) ≤ v_iv (n_v vs 3) + 0 := d1
  obtain ⟨d2, hds⟩ := List.forall_mem_cons.mp hds
  have d2 : v_iv (n_v vs 5) + (-2000) ≤ v_iv (n_v vs 7) ∧ v_iv (n_v vs 7) ≤ v_iv (n_v vs 5) + 0 := d2
  have hf : fc_ok [(7, [7, 8], [0]), (2, [8, 3, 2], []), (2, [7, 5, 6], []), (9, [6, 0], [7]), (9, [5, 0], [5])] ta ws vs := hf
  obtain ⟨f0, hf⟩ := fc_un (by decide) hf
  have f0 : v_iv (n_v vs 7) = v_iv (n_v vs 8) := f0
  obtain ⟨f1, hf⟩ := fc_un (by decide) hf
  have f1 : v_iv (n_v vs 8) = v_iv (n_v vs 3) - v_iv (n_v vs 2) := f1
  obtain ⟨f2, hf⟩ := fc_un (by decide) hf
  have f2 : v_iv (n_v vs 7) = v_iv (n_v vs 5) - v_iv (n_v vs 6) := f2
  obtain ⟨f3, hf⟩ := fc_un (by decide) hf
  have f3 : n_v vs 6 = w_fd ws (v_ad (n_v vs 0)) 7 := f3
  obtain ⟨f4, hf⟩ := fc_un (by decide) hf
  have f4 : n_v vs 5 = w_fd ws (v_ad (n_v vs 0)) 5 := f4
  have g3 : v_iv (n_v vs 6) = w_fi ws (n_v vs 0) 7 := congrArg v_iv f3
  have g4 : v_iv (n_v vs 5) = w_fi ws (n_v vs 0) 5 := congrArg v_iv f4
  have kz_0_5 : 0 ≤ w_fi ws (n_v vs 0) 5 ∧ w_fi ws (n_v vs 0) 5 ≤ 2000 := tv_rng (th_fd hD hth r0 (g := GG_11) rfl (k := 5) (t := (0, 0, 2000, [])) rfl rfl)
  have kz_0_7 : 0 ≤ w_fi ws (n_v vs 0) 7 ∧ w_fi ws (n_v vs 0) 7 ≤ 2000 := tv_rng (th_fd hD hth r0 (g := GG_11) rfl (k := 7) (t := (0, 0, 2000, [])) rfl rfl)
  have nf0 : fc_1 (20, [0, 3, 2], [30, 2000, 1, 1, 7, 1, 0, 0, -1, 0, 0]) ws (vs) := by
    refine ⟨fun n hn => ?_, ?_⟩
    · have hn : n ∈ [0, 3, 2] := hn
      rw [hl]
      simp only [List.mem_cons, List.not_mem_nil, or_false] at hn
      show n < 9; omega
    · show 1 * w_fi ws (n_v vs 0) 7 + (1 * v_iv (n_v vs 3) + ((-1) * v_iv (n_v vs 2) + 0)) ≤ 2000
      omega
  have nf1 : fc_1 (20, [2, 2], [30, 0, 1, 0, 0, -1, 0, 0]) ws (vs) := by
    refine ⟨fun n hn => ?_, ?_⟩
    · have hn : n ∈ [2, 2] := hn
      rw [hl]
      simp only [List.mem_cons, List.not_mem_nil, or_false] at hn
      show n < 9; omega
    · show 1 * v_iv (n_v vs 2) + ((-1) * v_iv (n_v vs 2) + 0) ≤ 0
      omega
  refine ⟨(fun _ h => (by cases h)), [], trivial, ?_, (fun _ h => (by cases h))⟩
  rw [List.append_nil]
  exact List.forall_mem_cons.mpr ⟨⟨by decide, nf0⟩, List.forall_mem_cons.mpr ⟨⟨by decide, nf1⟩, (fun _ h => (by cases h))⟩⟩
def o_Sy_isWordAt_at_s5008_1 : or_T := (45, 10, [(0, (2, 0, 0, [11])), (2, (0, 0, 1, [])), (3, (0, 1, 2, [])), (4, (0, 0, 1, [])), (7, (0, 0, 2000, [])), (8, (0, 0, 2001, [])), (9, (0, -1, 2001, []))], [(2, [9, 8, 2], []), (1, [8, 7, 4], []), (9, [7, 0], [7]), (7, [4, 3], [2]), (20, [0, 3, 2], [30, 2000, 1, 1, 7, 1, 0, 0, -1, 0, 0]), (20, [2, 4], [30, 0, 1, 0, 0, -1, 0, 0])], [(9, (0, 0, 1999, []))], [], [], [], [(9, 8, -1, 0), (9, 4, -1, 2000), (9, 3, -4294967296, 1999), (9, 2, -4294967296, 2002), (9, 3, -4294967296, 2003), (9, 7, -1, 1), (8, 4, 0, 2000), (8, 3, -4294967296, 1999), (8, 2, -4294967296, 2002), (8, 3, -4294967296, 2003), (8, 7, 0, 1), (4, 3, -4294967296, -1), (2, 3, -4294967296, 3), (2, 4, -4294967296, 0), (3, 2, -4294967296, 2), (3, 4, -4294967296, 2), (4, 2, -4294967296, 2), (4, 3, -4294967296, 3)])
theorem oo_Sy_isWordAt_at_s5008_1 {kA : Nat → ClassId} : or_ok kA GG o_Sy_isWordAt_at_s5008_1 := by
  intro A ta ws vs hD hth hl hk hds hf
  have hl : vs.length = 10 := hl
  have hk : ∀ q ∈ ([(0, (2, 0, 0, [11])), (2, (0, 0, 1, [])), (3, (0, 1, 2, [])), (4, (0, 0, 1, [])), (7, (0, 0, 2000, [])), (8, (0, 0, 2001, [])), (9, (0, -1, 2001, []))] : List (Nat × tv_T)), tv_ok ta q.2 (n_v vs q.1) := hk
  obtain ⟨t0, hk⟩ := List.forall_mem_cons.mp hk
  have t0 : tv_ok ta (2, 0, 0, [11]) (n_v vs 0) := t0
  have r0 : ta (v_ad (n_v vs 0)) = some 11 := tv_rg t0
  obtain ⟨t2, hk⟩ := List.forall_mem_cons.mp hk
  have t2 : tv_ok ta (0, 0, 1, []) (n_v vs 2) := t2
  have k2 : 0 ≤ v_iv (n_v vs 2) ∧ v_iv (n_v vs 2) ≤ 1 := tv_rng t2
  obtain ⟨t3, hk⟩ := List.forall_mem_cons.mp hk
  have t3 : tv_ok ta (0, 1, 2, []) (n_v vs 3) := t3
  have k3 : 1 ≤ v_iv (n_v vs 3) ∧ v_iv (n_v vs 3) ≤ 2 := tv_rng t3
  obtain ⟨t4, hk⟩ := List.forall_mem_cons.mp hk
  have t4 : tv_ok ta (0, 0, 1, []) (n_v vs 4) := t4
  have k4 : 0 ≤ v_iv (n_v vs 4) ∧ v_iv (n_v vs 4) ≤ 1 := tv_rng t4
  obtain ⟨t7, hk⟩ := List.forall_mem_cons.mp hk
  have t7 : tv_ok ta (0, 0, 2000, []) (n_v vs 7) := t7
  have k7 : 0 ≤ v_iv (n_v vs 7) ∧ v_iv (n_v vs 7) ≤ 2000 := tv_rng t7
  obtain ⟨t8, hk⟩ := List.forall_mem_cons.mp hk
  have t8 : tv_ok ta (0, 0, 2001, []) (n_v vs 8) := t8
  have k8 : 0 ≤ v_iv (n_v vs 8) ∧ v_iv (n_v vs 8) ≤ 2001 := tv_rng t8
  obtain ⟨t9, hk⟩ := List.forall_mem_cons.mp hk
  have t9 : tv_ok ta (0, -1, 2001, []) (n_v vs 9) := t9
  have k9 : (-1) ≤ v_iv (n_v vs 9) ∧ v_iv (n_v vs 9) ≤ 2001 := tv_rng t9
  have hds : ∀ q ∈ ([(9, 8, -1, 0), (9, 4, -1, 2000), (9, 3, -4294967296, 1999), (9, 2, -4294967296, 2002), (9, 3, -4294967296, 2003), (9, 7, -1, 1), (8, 4, 0, 2000), (8, 3, -4294967296, 1999), (8, 2, -4294967296, 2002), (8, 3, -4294967296, 2003), (8, 7, 0, 1), (4, 3, -4294967296, -1), (2, 3, -4294967296, 3), (2, 4, -4294967296, 0), (3, 2, -4294967296, 2), (3, 4, -4294967296, 2), (4, 2, -4294967296, 2), (4, 3, -4294967296, 3)] : List of_T), n_iv vs q.2.1 + q.2.2.1 ≤ n_iv vs q.1 ∧ n_iv vs q.1 ≤ n_iv vs q.2.1 + q.2.2.2 := hds
  obtain ⟨d0, hds⟩ := List.forall_mem_cons.mp hds
  have d0 : v_iv (n_v vs 8) + (-1) ≤ v_iv (n_v vs 9) ∧ v_iv (n_v vs 9) ≤ v_iv (n_v vs 8) + 0 := d0
  obtain ⟨d1, hds⟩ := List.forall_mem_cons.mp hds
  have d1 : v_iv (n_v vs 4) + (-1) ≤ v_iv (n_v vs 9) ∧ v_iv (n_v vs 9) ≤ v_iv (n_v vs 4) + 2000 := d1
  obtain ⟨d2, hds⟩ := List.forall_mem_cons.mp hds
  have d2 : v_iv (n_v vs 3) + (-4294967296) ≤ v_iv (n_v vs 9) ∧ v_iv (n_v vs 9) ≤ v_iv (n_v vs 3) + 1999 := d2
  obtain ⟨d3, hds⟩ := List.forall_mem_cons.mp hds
  have d3 : v_iv (n_v vs 2) + (-4294967296) ≤ v_iv (n_v vs 9) ∧ v_iv (n_v vs 9) ≤ v_iv (n_v vs 2) + 2002 := d3
  obtain ⟨d4, hds⟩ := List.forall_mem_cons.mp hds
  have d4 : v_iv (n_v vs 3) + (-4294967296) ≤ v_iv (n_v vs 9) ∧ v_iv (n_v vs 9) ≤ v_iv (n_v vs 3) + 2003 := d4
  obtain ⟨d5, hds⟩ := List.forall_mem_cons.mp hds
  have d5 : v_iv (n_v vs 7) + (-1) ≤ v_iv (n_v vs 9) ∧ v_iv (n_v vs 9) ≤ v_iv (n_v vs 7) + 1 := d5
  obtain ⟨d6, hds⟩ := List.forall_mem_cons.mp hds
  have d6 : v_iv (n_v vs 4) + 0 ≤ v_iv (n_v vs 8) ∧ v_iv (n_v vs 8) ≤ v_iv (n_v vs 4) + 2000 := d6
  obtain ⟨d7, hds⟩ := List.forall_mem_cons.mp hds
  have d7 : v_iv (n_v vs 3) + (-4294967296) ≤ v_iv (n_v vs 8) ∧ v_iv (n_v vs 8) ≤ v_iv (n_v vs 3) + 1999 := d7
  obtain ⟨d8, hds⟩ := List.forall_mem_cons.mp hds
  have d8 : v_iv (n_v vs 2) + (-4294967296) ≤ v_iv (n_v vs 8) ∧ v_iv (n_v vs 8) ≤ v_iv (n_v vs 2) + 2002 := d8
  obtain ⟨d9, hds⟩ := List.forall_mem_cons.mp hds
  have d9 : v_iv (n_v vs 3) + (-4294967296) ≤ v_iv (n_v vs 8) ∧ v_iv (n_v vs 8) ≤ v_iv (n_v vs 3) + 2003 := d9
  obtain ⟨d10, hds⟩ := List.forall_mem_cons.mp hds
  have d10 : v_iv (n_v vs 7) + 0 ≤ v_iv (n_v vs 8) ∧ v_iv (n_v vs 8) ≤ v_iv (n_v vs 7) + 1 := d10
  obtain ⟨d11, hds⟩ := List.forall_mem_cons.mp hds
  have d11 : v_iv (n_v vs 3) + (-4294967296) ≤ v_iv (n_v vs 4) ∧ v_iv (n_v vs 4) ≤ v_iv (n_v vs 3) + (-1) := d11
  obtain ⟨d12, hds⟩ := List.forall_mem_cons.mp hds
  have d12 : v_iv (n_v vs 3) + (-4294967296) ≤ v_iv (n_v vs 2) ∧ v_iv (n_v vs 2) ≤ v_iv (n_v vs 3) + 3 := d12
  obtain ⟨d13, hds⟩ := List.forall_mem_cons.mp hds
  have d13 : v_iv (n_v vs 4) + (-4294967296) ≤ v_iv (n_v vs 2) ∧ v_iv (n_v vs 2) ≤ v_iv (n_v vs 4) + 0 := d13
  obtain ⟨d14, hds⟩ := List.forall_mem_cons.mp hds
  have d14 : v_iv (n_v vs 2) + (-4294967296) ≤ v_iv (n_v vs 3) ∧ v_iv (n_v vs 3) ≤ v_iv (n_v vs 2) + 2 := d14
  obtain ⟨d15, hds⟩ := List.forall_mem_cons.mp hds
  have d15 : v_iv (n_v vs 4) + (-4294967296) ≤ v_iv (n_v vs 3) ∧ v_iv (n_v vs 3) ≤ v_iv (n_v vs 4) + 2 := d15
  obtain ⟨d16, hds⟩ := List.forall_mem_cons.mp hds
  have d16 : v_iv (n_v vs 2) + (-4294967296) ≤ v_iv (n_v vs 4) ∧ v_iv (n_v vs 4) ≤ v_iv (n_v vs 2) + 2 := d16
  obtain ⟨d17, hds⟩ := List.forall_mem_cons.mp hds
  have d17 : v_iv (n_v vs 3) + (-4294967296) ≤ v_iv (n_v vs 4) ∧ v_iv (n_v vs 4) ≤ v_iv (n_v vs 3) + 3 := d17
  have hf : fc_ok [(2, [9, 8, 2], []), (1, [8, 7, 4], []), (9, [7, 0], [7]), (7, [4, 3], [2]), (20, [0, 3, 2], [30, 2000, 1, 1, 7, 1, 0, 0, -1, 0, 0]), (20, [2, 4], [30, 0, 1, 0, 0, -1, 0, 0])] ta ws vs := hf
  obtain ⟨f0, hf⟩ := fc_un (by decide) hf
  have f0 : v_iv (n_v vs 9) = v_iv (n_v vs 8) - v_iv (n_v vs 2) := f0
  obtain ⟨f1, hf⟩ := fc_un (by decide) hf
  have f1 : v_iv (n_v vs 8) = v_iv (n_v vs 7) + v_iv (n_v vs 4) := f1
  obtain ⟨f2, hf⟩ := fc_un (by decide) hf
  have f2 : n_v vs 7 = w_fd ws (v_ad (n_v vs 0)) 7 := f2
  obtain ⟨f3, hf⟩ := fc_un (by decide) hf
  have f3 : v_iv (n_v vs 4) < v_iv (n_v vs 3) := f3
  obtain ⟨f4, hf⟩ := fc_un (by decide) hf
  have f4 : 1 * w_fi ws (n_v vs 0) 7 + (1 * v_iv (n_v vs 3) + ((-1) * v_iv (n_v vs 2) + 0)) ≤ 2000 := f4
  obtain ⟨f5, hf⟩ := fc_un (by decide) hf
  have f5 : 1 * v_iv (n_v vs 2) + ((-1) * v_iv (n_v vs 4) + 0) ≤ 0 := f5
  have g2 : v_iv (n_v vs 7) = w_fi ws (n_v vs 0) 7 := congrArg v_iv f2
  have kz_0_7 : 0 ≤ w_fi ws (n_v vs 0) 7 ∧ w_fi ws (n_v vs 0) 7 ≤ 2000 := tv_rng (th_fd hD hth r0 (g := GG_11) rfl (k := 7) (t := (0, 0, 2000, [])) rfl rfl)
  have rf9 : tv_ok ta (0, 0, 1999, []) (n_v vs 9) := tv_in t9 (by omega) (by omega)
  refine ⟨List.forall_mem_cons.mpr ⟨rf9, (fun _ h => (by cases h))⟩, [], trivial, ?_, (fun _ h => (by cases h))⟩
  rw [List.append_nil]
  exact (fun _ h => (by cases h))
def o_Sy_isWordAt_at_s5008_2 : or_T := (20, 12, [(0, (2, 0, 0, [11])), (2, (0, 0, 1, [])), (3, (0, 1, 2, [])), (4, (0, 0, 1, [])), (7, (0, 0, 2000, [])), (8, (0, 0, 2001, [])), (9, (0, 0, 1999, [])), (11, (0, 1, 2, []))], [(6, [11, 4], [1]), (2, [9, 8, 2], []), (1, [8, 7, 4], []), (9, [7, 0], [7]), (7, [4, 3], [2]), (20, [0, 3, 2], [30, 2000, 1, 1, 7, 1, 0, 0, -1, 0, 0]), (20, [2, 4], [30, 0, 1, 0, 0, -1, 0, 0])], [], [], [(20, [2, 11], [30, 0, 1, 0, 0, -1, 0, 0])], [], [(11, 4, 1, 1), (11, 3, -4294967296, 0), (11, 2, -4294967296, 3), (11, 3, -4294967296, 4), (9, 8, -1, 0), (9, 4, -1, 2000), (9, 3, -4294967296, 1999), (9, 2, -4294967296, 2002), (9, 3, -4294967296, 2003), (9, 7, -1, 1), (8, 4, 0, 2000), (8, 3, -4294967296, 1999), (8, 2, -4294967296, 2002), (8, 3, -4294967296, 2003), (8, 7, 0, 1), (4, 3, -4294967296, -1), (2, 3, -4294967296, 3), (2, 4, -4294967296, 0), (3, 2, -4294967296, 2), (3, 4, -4294967296, 2), (4, 2, -4294967296, 2), (4, 3, -4294967296, 3)])
theorem oo_Sy_isWordAt_at_s5008_2 {kA : Nat → ClassId} : or_ok kA GG o_Sy_isWordAt_at_s5008_2 := by
  intro A ta ws vs hD hth hl hk hds hf
  have hl : vs.length = 12 := hl
  have hk : ∀ q ∈ ([(0, (2, 0, 0, [11])), (2, (0, 0, 1, [])), (3, (0, 1, 2, [])), (4, (0, 0, 1, [])), (7, (0, 0, 2000, [])), (8, (0, 0, 2001, [])), (9, (0, 0, 1999, [])), (11, (0, 1, 2, []))] : List (Nat × tv_T)), tv_ok ta q.2 (n_v vs q.1) := hk
  obtain ⟨t0, hk⟩ := List.forall_mem_cons.mp hk
  have t0 : tv_ok ta (2, 0, 0, [11]) (n_v vs 0) := t0
  have r0 : ta (v_ad (n_v vs 0)) = some 11 := tv_rg t0
  obtain ⟨t2, hk⟩ := List.forall_mem_cons.mp hk
  have t2 : tv_ok ta (0, 0, 1, []) (n_v vs 2) := t2
  have k2 : 0 ≤ v_iv (n_v vs 2) ∧ v_iv (n_v vs 2) ≤ 1 := tv_rng t2
  obtain ⟨t3, hk⟩ := List.forall_mem_cons.mp hk
  have t3 : tv_ok ta (0, 1, 2, []) (n_v vs 3) := t3
  have k3 : 1 ≤ v_iv (n_v vs 3) ∧ v_iv (n_v vs 3) ≤ 2 := tv_rng t3
  obtain ⟨t4, hk⟩ := List.forall_mem_cons.mp hk
  have t4 : tv_ok ta (0, 0, 1, []) (n_v vs 4) := t4
  have k4 : 0 ≤ v_iv (n_v vs 4) ∧ v_iv (n_v vs 4) ≤ 1 := tv_rng t4
  obtain ⟨t7, hk⟩ := List.forall_mem_cons.mp hk
  have t7 : tv_ok ta (0, 0, 2000, []) (n_v vs 7) := t7
  have k7 : 0 ≤ v_iv (n_v vs 7) ∧ v_iv (n_v vs 7) ≤ 2000 := tv_rng t7
  obtain ⟨t8, hk⟩ := List.forall_mem_cons.mp hk
  have t8 : tv_ok ta (0, 0, 2001, []) (n_v vs 8) := t8
  have k8 : 0 ≤ v_iv (n_v vs 8) ∧ v_iv (n_v vs 8) ≤ 2001 := tv_rng t8
  obtain ⟨t9, hk⟩ := List.forall_mem_cons.mp hk
  have t9 : tv_ok ta (0, 0, 1999, []) (n_v vs 9) := t9
  have k9 : 0 ≤ v_iv (n_v vs 9) ∧ v_iv (n_v vs 9) ≤ 1999 := tv_rng t9
  obtain ⟨t11, hk⟩ := List.forall_mem_cons.mp hk
  have t11 : tv_ok ta (0, 1, 2, []) (n_v vs 11) := t11
  have k11 : 1 ≤ v_iv (n_v vs 11) ∧ v_iv (n_v vs 11) ≤ 2 := tv_rng t11
  have hds : ∀ q ∈ ([(11, 4, 1, 1), (11, 3, -4294967296, 0), (11, 2, -4294967296, 3), (11, 3, -4294967296, 4), (9, 8, -1, 0), (9, 4, -1, 2000), (9, 3, -4294967296, 1999), (9, 2, -4294967296, 2002), (9, 3, -4294967296, 2003), (9, 7, -1, 1), (8, 4, 0, 2000), (8, 3, -4294967296, 1999), (8, 2, -4294967296, 2002), (8, 3, -4294967296, 2003), (8, 7, 0, 1), (4, 3, -4294967296, -1), (2, 3, -4294967296, 3), (2, 4, -4294967296, 0), (3, 2, -4294967296, 2), (3, 4, -4294967296, 2), (4, 2, -4294967296, 2), (4, 3, -4294967296, 3)] : List of_T), n_iv vs q.2.1 + q.2.2.1 ≤ n_iv vs q.1 ∧ n_iv vs q.1 ≤ n_iv vs q.2.1 + q.2.2.2 := hds
  obtain ⟨d0, hds⟩ := List.forall_mem_cons.mp hds
  have d0 : v_iv (n_v vs 4) + 1 ≤ v_iv (n_v vs 11) ∧ v_iv (n_v vs 11) ≤ v_iv (n_v vs 4) + 1 := d0
  obtain ⟨d1, hds⟩ := List.forall_mem_cons.mp hds
  have d1 : v_iv (n_v vs 3) + (-4294967296) ≤ v_iv (n_v vs 11) ∧ v_iv (n_v vs 11) ≤ v_iv (n_v vs 3) + 0 := d1
  obtain ⟨d2, hds⟩ := List.forall_mem_cons.mp hds
  have d2 : v_iv (n_v vs 2) + (-4294967296) ≤ v_iv (n_v vs 11) ∧ v_iv (n_v vs 11) ≤ v_iv (n_v vs 2) + 3 := d2
  obtain ⟨d3, hds⟩ := List.forall_mem_cons.mp hds
  have d3 : v_iv (n_v vs 3) + (-4294967296) ≤ v_iv (n_v vs 11) ∧ v_iv (n_v vs 11) ≤ v_iv (n_v vs 3) + 4 := d3
  obtain ⟨d4, hds⟩ := List.forall_mem_cons.mp hds
  have d4 : v_iv (n_v vs 8) + (-1) ≤ v_iv (n_v vs 9) ∧ v_iv (n_v vs 9) ≤ v_iv (n_v vs 8) + 0 := d4
  obtain ⟨d5, hds⟩ := List.forall_mem_cons.mp hds
  have d5 : v_iv (n_v vs 4) + (-1) ≤ v_iv (n_v vs 9) ∧ v_iv (n_v vs 9) ≤ v_iv (n_v vs 4) + 2000 := d5
  obtain ⟨d6, hds⟩ := List.forall_mem_cons.mp hds
  have d6 : v_iv (n_v vs 3) + (-4294967296) ≤ v_iv (n_v vs 9) ∧ v_iv (n_v vs 9) ≤ v_iv (n_v vs 3) + 1999 := d6
  obtain ⟨d7, hds⟩ := List.forall_mem_cons.mp hds
  have d7 : v_iv (n_v vs 2) + (-4294967296) ≤ v_iv (n_v vs 9) ∧ v_iv (n_v vs 9) ≤ v_iv (n_v vs 2) + 2002 := d7
  obtain ⟨d8, hds⟩ := List.forall_mem_cons.mp hds
  have d8 : v_iv (n_v vs 3) + (-4294967296) ≤ v_iv (n_v vs 9) ∧ v_iv (n_v vs 9) ≤ v_iv (n_v vs 3) + 2003 := d8
  obtain ⟨d9, hds⟩ := List.forall_mem_cons.mp hds
  have d9 : v_iv (n_v vs 7) + (-1) ≤ v_iv (n_v vs 9) ∧ v_iv (n_v vs 9) ≤ v_iv (n_v vs 7) + 1 := d9
  obtain ⟨d10, hds⟩ := List.forall_mem_cons.mp hds
  have d10 : v_iv (n_v vs 4) + 0 ≤ v_iv (n_v vs 8) ∧ v_iv (n_v vs 8) ≤ v_iv (n_v vs 4) + 2000 := d10
  obtain ⟨d11, hds⟩ := List.forall_mem_cons.mp hds
  have d11 : v_iv (n_v vs 3) + (-4294967296) ≤ v_iv (n_v vs 8) ∧ v_iv (n_v vs 8) ≤ v_iv (n_v vs 3) + 1999 := d11
  obtain ⟨d12, hds⟩ := List.forall_mem_cons.mp hds
  have d12 : v_iv (n_v vs 2) + (-4294967296) ≤ v_iv (n_v vs 8) ∧ v_iv (n_v vs 8) ≤ v_iv (n_v vs 2) + 2002 := d12
  obtain ⟨d13, hds⟩ := List.forall_mem_cons.mp hds
  have d13 : v_iv (n_v vs 3) + (-4294967296) ≤ v_iv (n_v vs 8) ∧ v_iv (n_v vs 8) ≤ v_iv (n_v vs 3) + 2003 := d13
  obtain ⟨d14, hds⟩ := List.forall_mem_cons.mp hds
  have d14 : v_iv (n_v vs 7) + 0 ≤ v_iv (n_v vs 8) ∧ v_iv (n_v vs 8) ≤ v_iv (n_v vs 7) + 1 := d14
  obtain ⟨d15, hds⟩ := List.forall_mem_cons.mp hds
  have d15 : v_iv (n_v vs 3) + (-4294967296) ≤ v_iv (n_v vs 4) ∧ v_iv (n_v vs 4) ≤ v_iv (n_v vs 3) + (-1) := d15
  obtain ⟨d16, hds⟩ := List.forall_mem_cons.mp hds
  have d16 : v_iv (n_v vs 3) + (-4294967296) ≤ v_iv (n_v vs 2) ∧ v_iv (n_v vs 2) ≤ v_iv (n_v vs 3) + 3 := d16
  obtain ⟨d17, hds⟩ := List.forall_mem_cons.mp hds
  have d17 : v_iv (n_v vs 4) + (-4294967296) ≤ v_iv (n_v vs 2) ∧ v_iv (n_v vs 2) ≤ v_iv (n_v vs 4) + 0 := d17
  obtain ⟨d18, hds⟩ := List.forall_mem_cons.mp hds
  have d18 : v_iv (n_v vs 2) + (-4294967296) ≤ v_iv (n_v vs 3) ∧ v_iv (n_v vs 3) ≤ v_iv (n_v vs 2) + 2 := d18
  obtain ⟨d19, hds⟩ := List.forall_mem_cons.mp hds
  have d19 : v_iv (n_v vs 4) + (-4294967296) ≤ v_iv (n_v vs 3) ∧ v_iv (n_v vs 3) ≤ v_iv (n_v vs 4) + 2 := d19
  obtain ⟨d20, hds⟩ := List.forall_mem_cons.mp hds
  have d20 : v_iv (n_v vs 2) + (-4294967296) ≤ v_iv (n_v vs 4) ∧ v_iv (n_v vs 4) ≤ v_iv (n_v vs 2) + 2 := d20
  obtain ⟨d21, hds⟩ := List.forall_mem_cons.mp hds
  have d21 : v_iv (n_v vs 3) + (-4294967296) ≤ v_iv (n_v vs 4) ∧ v_iv (n_v vs 4) ≤ v_iv (n_v vs 3) + 3 := d21
  have hf : fc_ok [(6, [11, 4], [1]), (2, [9, 8, 2], []), (1, [8, 7, 4], []), (9, [7, 0], [7]), (7, [4, 3], [2]), (20, [0, 3, 2], [30, 2000, 1, 1, 7, 1, 0, 0, -1, 0, 0]), (20, [2, 4], [30, 0, 1, 0, 0, -1, 0, 0])] ta ws vs := hf
  obtain ⟨f0, hf⟩ := fc_un (by decide) hf
  have f0 : v_iv (n_v vs 11) = v_iv (n_v vs 4) + 1 := f0
  obtain ⟨f1, hf⟩ := fc_un (by decide) hf
  have f1 : v_iv (n_v vs 9) = v_iv (n_v vs 8) - v_iv (n_v vs 2) := f1
  obtain ⟨f2, hf⟩ := fc_un (by decide) hf
  have f2 : v_iv (n_v vs 8) = v_iv (n_v vs 7) + v_iv (n_v vs 4) := f2
  obtain ⟨f3, hf⟩ := fc_un (by decide) hf
  have f3 : n_v vs 7 = w_fd ws (v_ad (n_v vs 0)) 7 := f3
  obtain ⟨f4, hf⟩ := fc_un (by decide) hf
  have f4 : v_iv (n_v vs 4) < v_iv (n_v vs 3) := f4
  obtain ⟨f5, hf⟩ := fc_un (by decide) hf
  have f5 : 1 * w_fi ws (n_v vs 0) 7 + (1 * v_iv (n_v vs 3) + ((-1) * v_iv (n_v vs 2) + 0)) ≤ 2000 := f5
  obtain ⟨f6, hf⟩ := fc_un (by decide) hf
  have f6 : 1 * v_iv (n_v vs 2) + ((-1) * v_iv (n_v vs 4) + 0) ≤ 0 := f6
  have g3 : v_iv (n_v vs 7) = w_fi ws (n_v vs 0) 7 := congrArg v_iv f3
  have kz_0_7 : 0 ≤ w_fi ws (n_v vs 0) 7 ∧ w_fi ws (n_v vs 0) 7 ≤ 2000 := tv_rng (th_fd hD hth r0 (g := GG_11) rfl (k := 7) (t := (0, 0, 2000, [])) rfl rfl)
  have nf0 : fc_1 (20, [2, 11], [30, 0, 1, 0, 0, -1, 0, 0]) ws (vs) := by
    refine ⟨fun n hn => ?_, ?_⟩
    · have hn : n ∈ [2, 11] := hn
      rw [hl]
      simp only [List.mem_cons, List.not_mem_nil, or_false] at hn
      show n < 12; omega
    · show 1 * v_iv (n_v vs 2) + ((-1) * v_iv (n_v vs 11) + 0) ≤ 0
      omega
  refine ⟨(fun _ h => (by cases h)), [], trivial, ?_, (fun _ h => (by cases h))⟩
  rw [List.append_nil]
  exact List.forall_mem_cons.mpr ⟨⟨by decide, nf0⟩, (fun _ h => (by cases h))⟩
def n_Sy_isWordAt_at_s5008_an : List an_T := [(20, [(0, (2, 0, 0, [11])), (1, (2, 0, 0, [5008])), (2, (0, 0, 3, [])), (3, (0, 0, 2, [])), (4, (0, 0, 3, []))], [], (0, 0), [(0, 0, 99980), (1, 4, 3), (0, 0, 100000)], [(2, 3, -1000000000000, 3), (2, 4, -1000000000000, 0), (3, 2, -1000000000000, 2), (3, 4, -1000000000000, 2), (4, 2, -1000000000000, 2), (4, 3, -1000000000000, 3)], [((0, 3), (2, 0, 0, [109]))], [], 0, [], [(20, [0, 3, 2], [30, 2000, 1, 1, 7, 1, 0, 0, -1, 0, 0]), (20, [2, 4], [30, 0, 1, 0, 0, -1, 0, 0])])]
def t_Sy_isWordAt_at_s5008_ct : ct_L := [(91, 104, e_jStr_charAt_v152)]
set_option maxRecDepth 100000 in
theorem c_Sy_isWordAt_at_s5008 {l : Launch} {D : va_G} {kA : Nat → ClassId} : ct_ok l D kA GG y_Sy_isWordAt_at_s5008 z_Sy_isWordAt_at_s5008 e_Sy_isWordAt_at_s5008 := chk_all_ok (FT := [(21, 11, 3), (28, 11, 5), (34, 11, 7)]) (PT := []) (CT := t_Sy_isWordAt_at_s5008_ct) (KT := []) (NT := []) (AN := n_Sy_isWordAt_at_s5008_an) (OT := [o_Sy_isWordAt_at_s5008_0, o_Sy_isWordAt_at_s5008_1, o_Sy_isWordAt_at_s5008_2]) 3 200 (List.forall_mem_cons.mpr ⟨oo_Sy_isWordAt_at_s5008_0, List.forall_mem_cons.mpr ⟨oo_Sy_isWordAt_at_s5008_1, List.forall_mem_cons.mpr ⟨oo_Sy_isWordAt_at_s5008_2, List.forall_mem_nil _⟩⟩⟩) (by decide +kernel) ⟨List.forall_mem_cons.mpr ⟨gf_Sy_21, List.forall_mem_cons.mpr ⟨gf_Sy_28, List.forall_mem_cons.mpr ⟨gf_Sy_34, List.forall_mem_nil _⟩⟩⟩, List.forall_mem_nil _, List.forall_mem_cons.mpr ⟨cl_string (y := y_jStr_charAt) (i := 8) rfl rfl (by decide +kernel) rfl c_jStr_charAt_v152 wm_684 wm_11 wm_2231 wm_682 wm_683 ⟨by decide, by decide, by decide +kernel⟩ (by decide), List.forall_mem_nil _⟩, List.forall_mem_nil _, List.forall_mem_nil _, GG_pl⟩ (by decide +kernel)
def o_Sy_isWordAt_at_s5009_0 : or_T := (20, 9, [(0, (2, 0, 0, [11])), (2, (0, 0, 4, [])), (3, (0, 0, 3, [])), (5, (0, 0, 2000, [])), (6, (0, 0, 2000, [])), (7, (0, -4, 3, [])), (8, (0, -4, 3, []))], [(7, [7, 8], [0]), (2, [8, 3, 2], []), (2, [7, 5, 6], []), (9, [6, 0], [7]), (9, [5, 0], [5])], [], [], [(20, [0, 3, 2], [30, 2000, 1, 1, 7, 1, 0, 0, -1, 0, 0]), (20, [2, 2], [30, 0, 1, 0, 0, -1, 0, 0])], [], [(7, 8, 0, 0), (8, 3, -4, 0), (7, 5, -2000, 0)])
theorem oo_Sy_isWordAt_at_s5009_0 {kA : Nat → ClassId} : or_ok kA GG o_Sy_isWordAt_at_s5009_0 := by
  intro A ta ws vs hD hth hl hk hds hf
  have hl : vs.length = 9 := hl
  have hk : ∀ q ∈ ([(0, (2, 0, 0, [11])), (2, (0, 0, 4, [])), (3, (0, 0, 3, [])), (5, (0, 0, 2000, [])), (6, (0, 0, 2000, [])), (7, (0, -4, 3, [])), (8, (0, -4, 3, []))] : List (Nat × tv_T)), tv_ok ta q.2 (n_v vs q.1) := hk
  obtain ⟨t0, hk⟩ := List.forall_mem_cons.mp hk
  have t0 : tv_ok ta (2, 0, 0, [11]) (n_v vs 0) := t0
  have r0 : ta (v_ad (n_v vs 0)) = some 11 := tv_rg t0
  obtain ⟨t2, hk⟩ := List.forall_mem_cons.mp hk
  have t2 : tv_ok ta (0, 0, 4, []) (n_v vs 2) := t2
  have k2 : 0 ≤ v_iv (n_v vs 2) ∧ v_iv (n_v vs 2) ≤ 4 := tv_rng t2
  obtain ⟨t3, hk⟩ := List.forall_mem_cons.mp hk
  have t3 : tv_ok ta (0, 0, 3, []) (n_v vs 3) := t3
  have k3 : 0 ≤ v_iv (n_v vs 3) ∧ v_iv (n_v vs 3) ≤ 3 := tv_rng t3
  obtain ⟨t5, hk⟩ := List.forall_mem_cons.mp hk
  have t5 : tv_ok ta (0, 0, 2000, []) (n_v vs 5) := t5
  have k5 : 0 ≤ v_iv (n_v vs 5) ∧ v_iv (n_v vs 5) ≤ 2000 := tv_rng t5
  obtain ⟨t6, hk⟩ := List.forall_mem_cons.mp hk
  have t6 : tv_ok ta (0, 0, 2000, []) (n_v vs 6) := t6
  have k6 : 0 ≤ v_iv (n_v vs 6) ∧ v_iv (n_v vs 6) ≤ 2000 := tv_rng t6
  obtain ⟨t7, hk⟩ := List.forall_mem_cons.mp hk
  have t7 : tv_ok ta (0, -4, 3, []) (n_v vs 7) := t7
  have k7 : (-4) ≤ v_iv (n_v vs 7) ∧ v_iv (n_v vs 7) ≤ 3 := tv_rng t7
  obtain ⟨t8, hk⟩ := List.forall_mem_cons.mp hk
  have t8 : tv_ok ta (0, -4, 3, []) (n_v vs 8) := t8
  have k8 : (-4) ≤ v_iv (n_v vs 8) ∧ v_iv (n_v vs 8) ≤ 3 := tv_rng t8
  have hds : ∀ q ∈ ([(7, 8, 0, 0), (8, 3, -4, 0), (7, 5, -2000, 0)] : List of_T), n_iv vs q.2.1 + q.2.2.1 ≤ n_iv vs q.1 ∧ n_iv vs q.1 ≤ n_iv vs q.2.1 + q.2.2.2 := hds
  obtain ⟨d0, hds⟩ := List.forall_mem_cons.mp hds
  have d0 : v_iv (n_v vs 8) + 0 ≤ v_iv (n_v vs 7) ∧ v_iv (n_v vs 7) ≤ v_iv (n_v vs 8) + 0 := d0
  obtain ⟨d1, hds⟩ := List.forall_mem_cons.mp hds
  have d1 : v_iv (n_v vs 3) + (-4) ≤ v_iv (n_v vs 8) ∧ v_iv (n_v vs 8) ≤ v_iv (n_v vs 3) + 0 := d1
  obtain ⟨d2, hds⟩ := List.forall_mem_cons.mp hds
  have d2 : v_iv (n_v vs 5) + (-2000) ≤ v_iv (n_v vs 7) ∧ v_iv (n_v vs 7) ≤ v_iv (n_v vs 5) + 0 := d2
  have hf : fc_ok [(7, [7, 8], [0]), (2, [8, 3, 2], []), (2, [7, 5, 6], []), (9, [6, 0], [7]), (9, [5, 0], [5])] ta ws vs := hf
  obtain ⟨f0, hf⟩ := fc_un (by decide) hf
  have f0 : v_iv (n_v vs 7) = v_iv (n_v vs 8) := f0
  obtain ⟨f1, hf⟩ := fc_un (by decide) hf
  have f1 : v_iv (n_v vs 8) = v_iv (n_v vs 3) - v_iv (n_v vs 2) := f1
  obtain ⟨f2, hf⟩ := fc_un (by decide) hf
  have f2 : v_iv (n_v vs 7) = v_iv (n_v vs 5) - v_iv (n_v vs 6) := f2
  obtain ⟨f3, hf⟩ := fc_un (by decide) hf
  have f3 : n_v vs 6 = w_fd ws (v_ad (n_v vs 0)) 7 := f3
  obtain ⟨f4, hf⟩ := fc_un (by decide) hf
  have f4 : n_v vs 5 = w_fd ws (v_ad (n_v vs 0)) 5 := f4
  have g3 : v_iv (n_v vs 6) = w_fi ws (n_v vs 0) 7 := congrArg v_iv f3
  have g4 : v_iv (n_v vs 5) = w_fi ws (n_v vs 0) 5 := congrArg v_iv f4
  have kz_0_5 : 0 ≤ w_fi ws (n_v vs 0) 5 ∧ w_fi ws (n_v vs 0) 5 ≤ 2000 := tv_rng (th_fd hD hth r0 (g := GG_11) rfl (k := 5) (t := (0, 0, 2000, [])) rfl rfl)
  have kz_0_7 : 0 ≤ w_fi ws (n_v vs 0) 7 ∧ w_fi ws (n_v vs 0) 7 ≤ 2000 := tv_rng (th_fd hD hth r0 (g := GG_11) rfl (k := 7) (t := (0, 0, 2000, [])) rfl rfl)
  have nf0 : fc_1 (20, [0, 3, 2], [30, 2000, 1, 1, 7, 1, 0, 0, -1, 0, 0]) ws (vs) := by
    refine ⟨fun n hn => ?_, ?_⟩
    · have hn : n ∈ [0, 3, 2] := hn
      rw [hl]
      simp only [List.mem_cons, List.not_mem_nil, or_false] at hn
      show n < 9; omega
    · show 1 * w_fi ws (n_v vs 0) 7 + (1 * v_iv (n_v vs 3) + ((-1) * v_iv (n_v vs 2) + 0)) ≤ 2000
      omega
  have nf1 : fc_1 (20, [2, 2], [30, 0, 1, 0, 0, -1, 0, 0]) ws (vs) := by
    refine ⟨fun n hn => ?_, ?_⟩
    · have hn : n ∈ [2, 2] := hn
      rw [hl]
      simp only [List.mem_cons, List.not_mem_nil, or_false] at hn
      show n < 9; omega
    · show 1 * v_iv (n_v vs 2) + ((-1) * v_iv (n_v vs 2) + 0) ≤ 0
      omega
  refine ⟨(fun _ h => (by cases h)), [], trivial, ?_, (fun _ h => (by cases h))⟩
  rw [List.append_nil]
  exact List.forall_mem_cons.mpr ⟨⟨by decide, nf0⟩, List.forall_mem_cons.mpr ⟨⟨by decide, nf1⟩, (fun _ h => (by cases h))⟩⟩
def o_Sy_isWordAt_at_s5009_1 : or_T := (45, 10, [(0, (2, 0, 0, [11])), (2, (0, 0, 2, [])), (3, (0, 1, 3, [])), (4, (0, 0, 2, [])), (7, (0, 0, 2000, [])), (8, (0, 0, 2002, [])), (9, (0, -2, 2002, []))], [(2, [9, 8, 2], []), (1, [8, 7, 4], []), (9, [7, 0], [7]), (7, [4, 3], [2]), (20, [0, 3, 2], [30, 2000, 1, 1, 7, 1, 0, 0, -1, 0, 0]), (20, [2, 4], [30, 0, 1, 0, 0, -1, 0, 0])], [(9, (0, 0, 1999, []))], [], [], [], [(9, 8, -2, 0), (9, 4, -2, 2000), (9, 3, -4294967296, 1999), (9, 3, -4294967296, 2004), (9, 7, -2, 2), (8, 4, 0, 2000), (8, 3, -4294967296, 1999), (8, 3, -4294967296, 2004), (8, 7, 0, 2), (4, 3, -4294967296, -1), (2, 3, -4294967296, 4), (2, 4, -4294967296, 0), (3, 2, -4294967296, 3), (3, 4, -4294967296, 3), (4, 3, -4294967296, 4)])
theorem oo_Sy_isWordAt_at_s5009_1 {kA : Nat → ClassId} : or_ok kA GG o_Sy_isWordAt_at_s5009_1 := by
  intro A ta ws vs hD hth hl hk hds hf
  have hl : vs.length = 10 := hl
  have hk : ∀ q ∈ ([(0, (2, 0, 0, [11])), (2, (0, 0, 2, [])), (3, (0, 1, 3, [])), (4, (0, 0, 2, [])), (7, (0, 0, 2000, [])), (8, (0, 0, 2002, [])), (9, (0, -2, 2002, []))] : List (Nat × tv_T)), tv_ok ta q.2 (n_v vs q.1) := hk
  obtain ⟨t0, hk⟩ := List.forall_mem_cons.mp hk
  have t0 : tv_ok ta (2, 0, 0, [11]) (n_v vs 0) := t0
  have r0 : ta (v_ad (n_v vs 0)) = some 11 := tv_rg t0
  obtain ⟨t2, hk⟩ := List.forall_mem_cons.mp hk
  have t2 : tv_ok ta (0, 0, 2, []) (n_v vs 2) := t2
  have k2 : 0 ≤ v_iv (n_v vs 2) ∧ v_iv (n_v vs 2) ≤ 2 := tv_rng t2
  obtain ⟨t3, hk⟩ := List.forall_mem_cons.mp hk
  have t3 : tv_ok ta (0, 1, 3, []) (n_v vs 3) := t3
  have k3 : 1 ≤ v_iv (n_v vs 3) ∧ v_iv (n_v vs 3) ≤ 3 := tv_rng t3
  obtain ⟨t4, hk⟩ := List.forall_mem_cons.mp hk
  have t4 : tv_ok ta (0, 0, 2, []) (n_v vs 4) := t4
  have k4 : 0 ≤ v_iv (n_v vs 4) ∧ v_iv (n_v vs 4) ≤ 2 := tv_rng t4
  obtain ⟨t7, hk⟩ := List.forall_mem_cons.mp hk
  have t7 : tv_ok ta (0, 0, 2000, []) (n_v vs 7) := t7
  have k7 : 0 ≤ v_iv (n_v vs 7) ∧ v_iv (n_v vs 7) ≤ 2000 := tv_rng t7
  obtain ⟨t8, hk⟩ := List.forall_mem_cons.mp hk
  have t8 : tv_ok ta (0, 0, 2002, []) (n_v vs 8) := t8
  have k8 : 0 ≤ v_iv (n_v vs 8) ∧ v_iv (n_v vs 8) ≤ 2002 := tv_rng t8
  obtain ⟨t9, hk⟩ := List.forall_mem_cons.mp hk
  have t9 : tv_ok ta (0, -2, 2002, []) (n_v vs 9) := t9
  have k9 : (-2) ≤ v_iv (n_v vs 9) ∧ v_iv (n_v vs 9) ≤ 2002 := tv_rng t9
  have hds : ∀ q ∈ ([(9, 8, -2, 0), (9, 4, -2, 2000), (9, 3, -4294967296, 1999), (9, 3, -4294967296, 2004), (9, 7, -2, 2), (8, 4, 0, 2000), (8, 3, -4294967296, 1999), (8, 3, -4294967296, 2004), (8, 7, 0, 2), (4, 3, -4294967296, -1), (2, 3, -4294967296, 4), (2, 4, -4294967296, 0), (3, 2, -4294967296, 3), (3, 4, -4294967296, 3), (4, 3, -4294967296, 4)] : List of_T), n_iv vs q.2.1 + q.2.2.1 ≤ n_iv vs q.1 ∧ n_iv vs q.1 ≤ n_iv vs q.2.1 + q.2.2.2 := hds
  obtain ⟨d0, hds⟩ := List.forall_mem_cons.mp hds
  have d0 : v_iv (n_v vs 8) + (-2) ≤ v_iv (n_v vs 9) ∧ v_iv (n_v vs 9) ≤ v_iv (n_v vs 8) + 0 := d0
  obtain ⟨d1, hds⟩ := List.forall_mem_cons.mp hds
  have d1 : v_iv (n_v vs 4) + (-2) ≤ v_iv (n_v vs 9) ∧ v_iv (n_v vs 9) ≤ v_iv (n_v vs 4) + 2000 := d1
  obtain ⟨d2, hds⟩ := List.forall_mem_cons.mp hds
  have d2 : v_iv (n_v vs 3) + (-4294967296) ≤ v_iv (n_v vs 9) ∧ v_iv (n_v vs 9) ≤ v_iv (n_v vs 3) + 1999 := d2
  obtain ⟨d3, hds⟩ := List.forall_mem_cons.mp hds
  have d3 : v_iv (n_v vs 3) + (-4294967296) ≤ v_iv (n_v vs 9) ∧ v_iv (n_v vs 9) ≤ v_iv (n_v vs 3) + 2004 := d3
  obtain ⟨d4, hds⟩ := List.forall_mem_cons.mp hds
  have d4 : v_iv (n_v vs 7) + (-2) ≤ v_iv (n_v vs 9) ∧ v_iv (n_v vs 9) ≤ v_iv (n_v vs 7) + 2 := d4
  obtain ⟨d5, hds⟩ := List.forall_mem_cons.mp hds
  have d5 : v_iv (n_v vs 4) + 0 ≤ v_iv (n_v vs 8) ∧ v_iv (n_v vs 8) ≤ v_iv (n_v vs 4) + 2000 := d5
  obtain ⟨d6, hds⟩ := List.forall_mem_cons.mp hds
  have d6 : v_iv (n_v vs 3) + (-4294967296) ≤ v_iv (n_v vs 8) ∧ v_iv (n_v vs 8) ≤ v_iv (n_v vs 3) + 1999 := d6
  obtain ⟨d7, hds⟩ := List.forall_mem_cons.mp hds
  have d7 : v_iv (n_v vs 3) + (-4294967296) ≤ v_iv (n_v vs 8) ∧ v_iv (n_v vs 8) ≤ v_iv (n_v vs 3) + 2004 := d7
  obtain ⟨d8, hds⟩ := List.forall_mem_cons.mp hds
  have d8 : v_iv (n_v vs 7) + 0 ≤ v_iv (n_v vs 8) ∧ v_iv (n_v vs 8) ≤ v_iv (n_v vs 7) + 2 := d8
  obtain ⟨d9, hds⟩ := List.forall_mem_cons.mp hds
  have d9 : v_iv (n_v vs 3) + (-4294967296) ≤ v_iv (n_v vs 4) ∧ v_iv (n_v vs 4) ≤ v_iv (n_v vs 3) + (-1) := d9
  obtain ⟨d10, hds⟩ := List.forall_mem_cons.mp hds
  have d10 : v_iv (n_v vs 3) + (-4294967296) ≤ v_iv (n_v vs 2) ∧ v_iv (n_v vs 2) ≤ v_iv (n_v vs 3) + 4 := d10
  obtain ⟨d11, hds⟩ := List.forall_mem_cons.mp hds
  have d11 : v_iv (n_v vs 4) + (-4294967296) ≤ v_iv (n_v vs 2) ∧ v_iv (n_v vs 2) ≤ v_iv (n_v vs 4) + 0 := d11
  obtain ⟨d12, hds⟩ := List.forall_mem_cons.mp hds
  have d12 : v_iv (n_v vs 2) + (-4294967296) ≤ v_iv (n_v vs 3) ∧ v_iv (n_v vs 3) ≤ v_iv (n_v vs 2) + 3 := d12
  obtain ⟨d13, hds⟩ := List.forall_mem_cons.mp hds
  have d13 : v_iv (n_v vs 4) + (-4294967296) ≤ v_iv (n_v vs 3) ∧ v_iv (n_v vs 3) ≤ v_iv (n_v vs 4) + 3 := d13
  obtain ⟨d14, hds⟩ := List.forall_mem_cons.mp hds
  have d14 : v_iv (n_v vs 3) + (-4294967296) ≤ v_iv (n_v vs 4) ∧ v_iv (n_v vs 4) ≤ v_iv (n_v vs 3) + 4 := d14
  have hf : fc_ok [(2, [9, 8, 2], []), (1, [8, 7, 4], []), (9, [7, 0], [7]), (7, [4, 3], [2]), (20, [0, 3, 2], [30, 2000, 1, 1, 7, 1, 0, 0, -1, 0, 0]), (20, [2, 4], [30, 0, 1, 0, 0, -1, 0, 0])] ta ws vs := hf
  obtain ⟨f0, hf⟩ := fc_un (by decide) hf
  have f0 : v_iv (n_v vs 9) = v_iv (n_v vs 8) - v_iv (n_v vs 2) := f0
  obtain ⟨f1, hf⟩ := fc_un (by decide) hf
  have f1 : v_iv (n_v vs 8) = v_iv (n_v vs 7) + v_iv (n_v vs 4) := f1
  obtain ⟨f2, hf⟩ := fc_un (by decide) hf
  have f2 : n_v vs 7 = w_fd ws (v_ad (n_v vs 0)) 7 := f2
  obtain ⟨f3, hf⟩ := fc_un (by decide) hf
  have f3 : v_iv (n_v vs 4) < v_iv (n_v vs 3) := f3
  obtain ⟨f4, hf⟩ := fc_un (by decide) hf
  have f4 : 1 * w_fi ws (n_v vs 0) 7 + (1 * v_iv (n_v vs 3) + ((-1) * v_iv (n_v vs 2) + 0)) ≤ 2000 := f4
  obtain ⟨f5, hf⟩ := fc_un (by decide) hf
  have f5 : 1 * v_iv (n_v vs 2) + ((-1) * v_iv (n_v vs 4) + 0) ≤ 0 := f5
  have g2 : v_iv (n_v vs 7) = w_fi ws (n_v vs 0) 7 := congrArg v_iv f2
  have kz_0_7 : 0 ≤ w_fi ws (n_v vs 0) 7 ∧ w_fi ws (n_v vs 0) 7 ≤ 2000 := tv_rng (th_fd hD hth r0 (g := GG_11) rfl (k := 7) (t := (0, 0, 2000, [])) rfl rfl)
  have rf9 : tv_ok ta (0, 0, 1999, []) (n_v vs 9) := tv_in t9 (by omega) (by omega)
  refine ⟨List.forall_mem_cons.mpr ⟨rf9, (fun _ h => (by cases h))⟩, [], trivial, ?_, (fun _ h => (by cases h))⟩
  rw [List.append_nil]
  exact (fun _ h => (by cases h))
def o_Sy_isWordAt_at_s5009_2 : or_T := (20, 12, [(0, (2, 0, 0, [11])), (2, (0, 0, 2, [])), (3, (0, 1, 3, [])), (4, (0, 0, 2, [])), (7, (0, 0, 2000, [])), (8, (0, 0, 2002, [])), (9, (0, 0, 1999, [])), (11, (0, 1, 3, []))], [(6, [11, 4], [1]), (2, [9, 8, 2], []), (1, [8, 7, 4], []), (9, [7, 0], [7]), (7, [4, 3], [2]), (20, [0, 3, 2], [30, 2000, 1, 1, 7, 1, 0, 0, -1, 0, 0]), (20, [2, 4], [30, 0, 1, 0, 0, -1, 0, 0])], [], [], [(20, [2, 11], [30, 0, 1, 0, 0, -1, 0, 0])], [], [(11, 4, 1, 1), (11, 3, -4294967296, 0), (11, 3, -4294967296, 5), (9, 8, -2, 0), (9, 4, -2, 2000), (9, 3, -4294967296, 1999), (9, 3, -4294967296, 2004), (9, 7, -2, 2), (8, 4, 0, 2000), (8, 3, -4294967296, 1999), (8, 3, -4294967296, 2004), (8, 7, 0, 2), (4, 3, -4294967296, -1), (2, 3, -4294967296, 4), (2, 4, -4294967296, 0), (3, 2, -4294967296, 3), (3, 4, -4294967296, 3), (4, 3, -4294967296, 4)])
theorem oo_Sy_isWordAt_at_s5009_2 {kA : Nat → ClassId} : or_ok kA GG o_Sy_isWordAt_at_s5009_2 := by
  intro A ta ws vs hD hth hl hk hds hf
  have hl : vs.length = 12 := hl
  have hk : ∀ q ∈ ([(0, (2, 0, 0, [11])), (2, (0, 0, 2, [])), (3, (0, 1, 3, [])), (4, (0, 0, 2, [])), (7, (0, 0, 2000, [])), (8, (0, 0, 2002, [])), (9, (0, 0, 1999, [])), (11, (0, 1, 3, []))] : List (Nat × tv_T)), tv_ok ta q.2 (n_v vs q.1) := hk
  obtain ⟨t0, hk⟩ := List.forall_mem_cons.mp hk
  have t0 : tv_ok ta (2, 0, 0, [11]) (n_v vs 0) := t0
  have r0 : ta (v_ad (n_v vs 0)) = some 11 := tv_rg t0
  obtain ⟨t2, hk⟩ := List.forall_mem_cons.mp hk
  have t2 : tv_ok ta (0, 0, 2, []) (n_v vs 2) := t2
  have k2 : 0 ≤ v_iv (n_v vs 2) ∧ v_iv (n_v vs 2) ≤ 2 := tv_rng t2
  obtain ⟨t3, hk⟩ := List.forall_mem_cons.mp hk
  have t3 : tv_ok ta (0, 1, 3, []) (n_v vs 3) := t3
  have k3 : 1 ≤ v_iv (n_v vs 3) ∧ v_iv (n_v vs 3) ≤ 3 := tv_rng t3
  obtain ⟨t4, hk⟩ := List.forall_mem_cons.mp hk
  have t4 : tv_ok ta (0, 0, 2, []) (n_v vs 4) := t4
  have k4 : 0 ≤ v_iv (n_v vs 4) ∧ v_iv (n_v vs 4) ≤ 2 := tv_rng t4
  obtain ⟨t7, hk⟩ := List.forall_mem_cons.mp hk
  have t7 : tv_ok ta (0, 0, 2000, []) (n_v vs 7) := t7
  have k7 : 0 ≤ v_iv (n_v vs 7) ∧ v_iv (n_v vs 7) ≤ 2000 := tv_rng t7
  obtain ⟨t8, hk⟩ := List.forall_mem_cons.mp hk
  have t8 : tv_ok ta (0, 0, 2002, []) (n_v vs 8) := t8
  have k8 : 0 ≤ v_iv (n_v vs 8) ∧ v_iv (n_v vs 8) ≤ 2002 := tv_rng t8
  obtain ⟨t9, hk⟩ := List.forall_mem_cons.mp hk
  have t9 : tv_ok ta (0, 0, 1999, []) (n_v vs 9) := t9
  have k9 : 0 ≤ v_iv (n_v vs 9) ∧ v_iv (n_v vs 9) ≤ 1999 := tv_rng t9
  obtain ⟨t11, hk⟩ := List.forall_mem_cons.mp hk
  have t11 : tv_ok ta (0, 1, 3, []) (n_v vs 11) := t11
  have k11 : 1 ≤ v_iv (n_v vs 11) ∧ v_iv (n_v vs 11) ≤ 3 := tv_rng t11
  have hds : ∀ q ∈ ([(11, 4, 1, 1), (11, 3, -4294967296, 0), (11, 3, -4294967296, 5), (9, 8, -2, 0), (9, 4, -2, 2000), (9, 3, -4294967296, 1999), (9, 3, -4294967296, 2004), (9, 7, -2, 2), (8, 4, 0, 2000), (8, 3, -4294967296, 1999), (8, 3, -4294967296, 2004), (8, 7, 0, 2), (4, 3, -4294967296, -1), (2, 3, -4294967296, 4), (2, 4, -4294967296, 0), (3, 2, -4294967296, 3), (3, 4, -4294967296, 3), (4, 3, -4294967296, 4)] : List of_T), n_iv vs q.2.1 + q.2.2.1 ≤ n_iv vs q.1 ∧ n_iv vs q.1 ≤ n_iv vs q.2.1 + q.2.2.2 := hds
  obtain ⟨d0, hds⟩ := List.forall_mem_cons.mp hds
  have d0 : v_iv (n_v vs 4) + 1 ≤ v_iv (n_v vs 11) ∧ v_iv (n_v vs 11) ≤ v_iv (n_v vs 4) + 1 := d0
  obtain ⟨d1, hds⟩ := List.forall_mem_cons.mp hds
  have d1 : v_iv (n_v vs 3) + (-4294967296) ≤ v_iv (n_v vs 11) ∧ v_iv (n_v vs 11) ≤ v_iv (n_v vs 3) + 0 := d1
  obtain ⟨d2, hds⟩ := List.forall_mem_cons.mp hds
  have d2 : v_iv (n_v vs 3) + (-4294967296) ≤ v_iv (n_v vs 11) ∧ v_iv (n_v vs 11) ≤ v_iv (n_v vs 3) + 5 := d2
  obtain ⟨d3, hds⟩ := List.forall_mem_cons.mp hds
  have d3 : v_iv (n_v vs 8) + (-2) ≤ v_iv (n_v vs 9) ∧ v_iv (n_v vs 9) ≤ v_iv (n_v vs 8) + 0 := d3
  obtain ⟨d4, hds⟩ := List.forall_mem_cons.mp hds
  have d4 : v_iv (n_v vs 4) + (-2) ≤ v_iv (n_v vs 9) ∧ v_iv (n_v vs 9) ≤ v_iv (n_v vs 4) + 2000 := d4
  obtain ⟨d5, hds⟩ := List.forall_mem_cons.mp hds
  have d5 : v_iv (n_v vs 3) + (-4294967296) ≤ v_iv (n_v vs 9) ∧ v_iv (n_v vs 9) ≤ v_iv (n_v vs 3) + 1999 := d5
  obtain ⟨d6, hds⟩ := List.forall_mem_cons.mp hds
  have d6 : v_iv (n_v vs 3) + (-4294967296) ≤ v_iv (n_v vs 9) ∧ v_iv (n_v vs 9) ≤ v_iv (n_v vs 3) + 2004 := d6
  obtain ⟨d7, hds⟩ := List.forall_mem_cons.mp hds
  have d7 : v_iv (n_v vs 7) + (-2) ≤ v_iv (n_v vs 9) ∧ v_iv (n_v vs 9) ≤ v_iv (n_v vs 7) + 2 := d7
  obtain ⟨d8, hds⟩ := List.forall_mem_cons.mp hds
  have d8 : v_iv (n_v vs 4) + 0 ≤ v_iv (n_v vs 8) ∧ v_iv (n_v vs 8) ≤ v_iv (n_v vs 4) + 2000 := d8
  obtain ⟨d9, hds⟩ := List.forall_mem_cons.mp hds
  have d9 : v_iv (n_v vs 3) + (-4294967296) ≤ v_iv (n_v vs 8) ∧ v_iv (n_v vs 8) ≤ v_iv (n_v vs 3) + 1999 := d9
  obtain ⟨d10, hds⟩ := List.forall_mem_cons.mp hds
  have d10 : v_iv (n_v vs 3) + (-4294967296) ≤ v_iv (n_v vs 8) ∧ v_iv (n_v vs 8) ≤ v_iv (n_v vs 3) + 2004 := d10
  obtain ⟨d11, hds⟩ := List.forall_mem_cons.mp hds
  have d11 : v_iv (n_v vs 7) + 0 ≤ v_iv (n_v vs 8) ∧ v_iv (n_v vs 8) ≤ v_iv (n_v vs 7) + 2 := d11
  obtain ⟨d12, hds⟩ := List.forall_mem_cons.mp hds
  have d12 : v_iv (n_v vs 3) + (-4294967296) ≤ v_iv (n_v vs 4) ∧ v_iv (n_v vs 4) ≤ v_iv (n_v vs 3) + (-1) := d12
  obtain ⟨d13, hds⟩ := List.forall_mem_cons.mp hds
  have d13 : v_iv (n_v vs 3) + (-4294967296) ≤ v_iv (n_v vs 2) ∧ v_iv (n_v vs 2) ≤ v_iv (n_v vs 3) + 4 := d13
  obtain ⟨d14, hds⟩ := List.forall_mem_cons.mp hds
  have d14 : v_iv (n_v vs 4) + (-4294967296) ≤ v_iv (n_v vs 2) ∧ v_iv (n_v vs 2) ≤ v_iv (n_v vs 4) + 0 := d14
  obtain ⟨d15, hds⟩ := List.forall_mem_cons.mp hds
  have d15 : v_iv (n_v vs 2) + (-4294967296) ≤ v_iv (n_v vs 3) ∧ v_iv (n_v vs 3) ≤ v_iv (n_v vs 2) + 3 := d15
  obtain ⟨d16, hds⟩ := List.forall_mem_cons.mp hds
  have d16 : v_iv (n_v vs 4) + (-4294967296) ≤ v_iv (n_v vs 3) ∧ v_iv (n_v vs 3) ≤ v_iv (n_v vs 4) + 3 := d16
  obtain ⟨d17, hds⟩ := List.forall_mem_cons.mp hds
  have d17 : v_iv (n_v vs 3) + (-4294967296) ≤ v_iv (n_v vs 4) ∧ v_iv (n_v vs 4) ≤ v_iv (n_v vs 3) + 4 := d17
  have hf : fc_ok [(6, [11, 4], [1]), (2, [9, 8, 2], []), (1, [8, 7, 4], []), (9, [7, 0], [7]), (7, [4, 3], [2]), (20, [0, 3, 2], [30, 2000, 1, 1, 7, 1, 0, 0, -1, 0, 0]), (20, [2, 4], [30, 0, 1, 0, 0, -1, 0, 0])] ta ws vs := hf
  obtain ⟨f0, hf⟩ := fc_un (by decide) hf
  have f0 : v_iv (n_v vs 11) = v_iv (n_v vs 4) + 1 := f0
  obtain ⟨f1, hf⟩ := fc_un (by decide) hf
  have f1 : v_iv (n_v vs 9) = v_iv (n_v vs 8) - v_iv (n_v vs 2) := f1
  obtain ⟨f2, hf⟩ := fc_un (by decide) hf
  have f2 : v_iv (n_v vs 8) = v_iv (n_v vs 7) + v_iv (n_v vs 4) := f2
  obtain ⟨f3, hf⟩ := fc_un (by decide) hf
  have f3 : n_v vs 7 = w_fd ws (v_ad (n_v vs 0)) 7 := f3
  obtain ⟨f4, hf⟩ := fc_un (by decide) hf
  have f4 : v_iv (n_v vs 4) < v_iv (n_v vs 3) := f4
  obtain ⟨f5, hf⟩ := fc_un (by decide) hf
  have f5 : 1 * w_fi ws (n_v vs 0) 7 + (1 * v_iv (n_v vs 3) + ((-1) * v_iv (n_v vs 2) + 0)) ≤ 2000 := f5
  obtain ⟨f6, hf⟩ := fc_un (by decide) hf
  have f6 : 1 * v_iv (n_v vs 2) + ((-1) * v_iv (n_v vs 4) + 0) ≤ 0 := f6
  have g3 : v_iv (n_v vs 7) = w_fi ws (n_v vs 0) 7 := congrArg v_iv f3
  have kz_0_7 : 0 ≤ w_fi ws (n_v vs 0) 7 ∧ w_fi ws (n_v vs 0) 7 ≤ 2000 := tv_rng (th_fd hD hth r0 (g := GG_11) rfl (k := 7) (t := (0, 0, 2000, [])) rfl rfl)
  have nf0 : fc_1 (20, [2, 11], [30, 0, 1, 0, 0, -1, 0, 0]) ws (vs) := by
    refine ⟨fun n hn => ?_, ?_⟩
    · have hn : n ∈ [2, 11] := hn
      rw [hl]
      simp only [List.mem_cons, List.not_mem_nil, or_false] at hn
      show n < 12; omega
    · show 1 * v_iv (n_v vs 2) + ((-1) * v_iv (n_v vs 11) + 0) ≤ 0
      omega
  refine ⟨(fun _ h => (by cases h)), [], trivial, ?_, (fun _ h => (by cases h))⟩
  rw [List.append_nil]
  exact List.forall_mem_cons.mpr ⟨⟨by decide, nf0⟩, (fun _ h => (by cases h))⟩
def n_Sy_isWordAt_at_s5009_an : List an_T := [(20, [(0, (2, 0, 0, [11])), (1, (2, 0, 0, [5009])), (2, (0, 0, 4, [])), (3, (0, 0, 3, [])), (4, (0, 0, 4, []))], [], (0, 0), [(0, 0, 99980), (1, 4, 4), (0, 0, 100000)], [(2, 3, -1000000000000, 4), (2, 4, -1000000000000, 0), (3, 2, -1000000000000, 3), (3, 4, -1000000000000, 3), (4, 3, -1000000000000, 4)], [((0, 3), (2, 0, 0, [109]))], [], 0, [], [(20, [0, 3, 2], [30, 2000, 1, 1, 7, 1, 0, 0, -1, 0, 0]), (20, [2, 4], [30, 0, 1, 0, 0, -1, 0, 0])])]
def t_Sy_isWordAt_at_s5009_ct : ct_L := [(91, 104, e_jStr_charAt_v156)]
set_option maxRecDepth 100000 in
theorem c_Sy_isWordAt_at_s5009 {l : Launch} {D : va_G} {kA : Nat → ClassId} : ct_ok l D kA GG y_Sy_isWordAt_at_s5009 z_Sy_isWordAt_at_s5009 e_Sy_isWordAt_at_s5009 := chk_all_ok (FT := [(21, 11, 3), (28, 11, 5), (34, 11, 7)]) (PT := []) (CT := t_Sy_isWordAt_at_s5009_ct) (KT := []) (NT := []) (AN := n_Sy_isWordAt_at_s5009_an) (OT := [o_Sy_isWordAt_at_s5009_0, o_Sy_isWordAt_at_s5009_1, o_Sy_isWordAt_at_s5009_2]) 3 200 (List.forall_mem_cons.mpr ⟨oo_Sy_isWordAt_at_s5009_0, List.forall_mem_cons.mpr ⟨oo_Sy_isWordAt_at_s5009_1, List.forall_mem_cons.mpr ⟨oo_Sy_isWordAt_at_s5009_2, List.forall_mem_nil _⟩⟩⟩) (by decide +kernel) ⟨List.forall_mem_cons.mpr ⟨gf_Sy_21, List.forall_mem_cons.mpr ⟨gf_Sy_28, List.forall_mem_cons.mpr ⟨gf_Sy_34, List.forall_mem_nil _⟩⟩⟩, List.forall_mem_nil _, List.forall_mem_cons.mpr ⟨cl_string (y := y_jStr_charAt) (i := 9) rfl rfl (by decide +kernel) rfl c_jStr_charAt_v156 wm_684 wm_11 wm_2231 wm_682 wm_683 ⟨by decide, by decide, by decide +kernel⟩ (by decide), List.forall_mem_nil _⟩, List.forall_mem_nil _, List.forall_mem_nil _, GG_pl⟩ (by decide +kernel)
def o_Sy_isWordAt_at_s5010_0 : or_T := (20, 9, [(0, (2, 0, 0, [11])), (2, (0, 0, 4, [])), (3, (0, 0, 3, [])), (5, (0, 0, 2000, [])), (6, (0, 0, 2000, [])), (7, (0, -4, 3, [])), (8, (0, -4, 3, []))], [(7, [7, 8], [0]), (2, [8, 3, 2], []), (2, [7, 5, 6], []), (9, [6, 0], [7]), (9, [5, 0], [5])], [], [], [(20, [0, 3, 2], [30, 2000, 1, 1, 7, 1, 0, 0, -1, 0, 0]), (20, [2, 2], [30, 0, 1, 0, 0, -1, 0, 0])], [], [(7, 8, 0, 0), (8, 3, -4, 0), (7, 5, -2000, 0)])
theorem oo_Sy_isWordAt_at_s5010_0 {kA : Nat → ClassId} : or_ok kA GG o_Sy_isWordAt_at_s5010_0 := by
  intro A ta ws vs hD hth hl hk hds hf
  have hl : vs.length = 9 := hl
  have hk : ∀ q ∈ ([(0, (2, 0, 0, [11])), (2, (0, 0, 4, [])), (3, (0, 0, 3, [])), (5, (0, 0, 2000, [])), (6, (0, 0, 2000, [])), (7, (0, -4, 3, [])), (8, (0, -4, 3, []))] : List (Nat × tv_T)), tv_ok ta q.2 (n_v vs q.1) := hk
  obtain ⟨t0, hk⟩ := List.forall_mem_cons.mp hk
  have t0 : tv_ok ta (2, 0, 0, [11]) (n_v vs 0) := t0
  have r0 : ta (v_ad (n_v vs 0)) = some 11 := tv_rg t0
  obtain ⟨t2, hk⟩ := List.forall_mem_cons.mp hk
  have t2 : tv_ok ta (0, 0, 4, []) (n_v vs 2) := t2
  have k2 : 0 ≤ v_iv (n_v vs 2) ∧ v_iv (n_v vs 2) ≤ 4 := tv_rng t2
  obtain ⟨t3, hk⟩ := List.forall_mem_cons.mp hk
  have t3 : tv_ok ta (0, 0, 3, []) (n_v vs 3) := t3
  have k3 : 0 ≤ v_iv (n_v vs 3) ∧ v_iv (n_v vs 3) ≤ 3 := tv_rng t3
  obtain ⟨t5, hk⟩ := List.forall_mem_cons.mp hk
  have t5 : tv_ok ta (0, 0, 2000, []) (n_v vs 5) := t5
  have k5 : 0 ≤ v_iv (n_v vs 5) ∧ v_iv (n_v vs 5) ≤ 2000 := tv_rng t5
  obtain ⟨t6, hk⟩ := List.forall_mem_cons.mp hk
  have t6 : tv_ok ta (0, 0, 2000, []) (n_v vs 6) := t6
  have k6 : 0 ≤ v_iv (n_v vs 6) ∧ v_iv (n_v vs 6) ≤ 2000 := tv_rng t6
  obtain ⟨t7, hk⟩ := List.forall_mem_cons.mp hk
  have t7 : tv_ok ta (0, -4, 3, []) (n_v vs 7) := t7
  have k7 : (-4) ≤ v_iv (n_v vs 7) ∧ v_iv (n_v vs 7) ≤ 3 := tv_rng t7
  obtain ⟨t8, hk⟩ := List.forall_mem_cons.mp hk
  have t8 : tv_ok ta (0, -4, 3, []) (n_v vs 8) := t8
  have k8 : (-4) ≤ v_iv (n_v vs 8) ∧ v_iv (n_v vs 8) ≤ 3 := tv_rng t8
  have hds : ∀ q ∈ ([(7, 8, 0, 0), (8, 3, -4, 0), (7, 5, -2000, 0)] : List of_T), n_iv vs q.2.1 + q.2.2.1 ≤ n_iv vs q.1 ∧ n_iv vs q.1 ≤ n_iv vs q.2.1 + q.2.2.2 := hds
  obtain ⟨d0, hds⟩ := List.forall_mem_cons.mp hds
  have d0 : v_iv (n_v vs 8) + 0 ≤ v_iv (n_v vs 7) ∧ v_iv (n_v vs 7) ≤ v_iv (n_v vs 8) + 0 := d0
  obtain ⟨d1, hds⟩ := List.forall_mem_cons.mp hds
  have d1 : v_iv (n_v vs 3) + (-4) ≤ v_iv (n_v vs 8) ∧ v_iv (n_v vs 8) ≤ v_iv (n_v vs 3) + 0 := d1
  obtain ⟨d2, hds⟩ := List.forall_mem_cons.mp hds
  have d2 : v_iv (n_v vs 5) + (-2000) ≤ v_iv (n_v vs 7) ∧ v_iv (n_v vs 7) ≤ v_iv (n_v vs 5) + 0 := d2
  have hf : fc_ok [(7, [7, 8], [0]), (2, [8, 3, 2], []), (2, [7, 5, 6], []), (9, [6, 0], [7]), (9, [5, 0], [5])] ta ws vs := hf
  obtain ⟨f0, hf⟩ := fc_un (by decide) hf
  have f0 : v_iv (n_v vs 7) = v_iv (n_v vs 8) := f0
  obtain ⟨f1, hf⟩ := fc_un (by decide) hf
  have f1 : v_iv (n_v vs 8) = v_iv (n_v vs 3) - v_iv (n_v vs 2) := f1
  obtain ⟨f2, hf⟩ := fc_un (by decide) hf
  have f2 : v_iv (n_v vs 7) = v_iv (n_v vs 5) - v_iv (n_v vs 6) := f2
  obtain ⟨f3, hf⟩ := fc_un (by decide) hf
  have f3 : n_v vs 6 = w_fd ws (v_ad (n_v vs 0)) 7 := f3
  obtain ⟨f4, hf⟩ := fc_un (by decide) hf
  have f4 : n_v vs 5 = w_fd ws (v_ad (n_v vs 0)) 5 := f4
  have g3 : v_iv (n_v vs 6) = w_fi ws (n_v vs 0) 7 := congrArg v_iv f3
  have g4 : v_iv (n_v vs 5) = w_fi ws (n_v vs 0) 5 := congrArg v_iv f4
  have kz_0_5 : 0 ≤ w_fi ws (n_v vs 0) 5 ∧ w_fi ws (n_v vs 0) 5 ≤ 2000 := tv_rng (th_fd hD hth r0 (g := GG_11) rfl (k := 5) (t := (0, 0, 2000, [])) rfl rfl)
  have kz_0_7 : 0 ≤ w_fi ws (n_v vs 0) 7 ∧ w_fi ws (n_v vs 0) 7 ≤ 2000 := tv_rng (th_fd hD hth r0 (g := GG_11) rfl (k := 7) (t := (0, 0, 2000, [])) rfl rfl)
  have nf0 : fc_1 (20, [0, 3, 2], [30, 2000, 1, 1, 7, 1, 0, 0, -1, 0, 0]) ws (vs) := by
    refine ⟨fun n hn => ?_, ?_⟩
    · have hn : n ∈ [0, 3, 2] := hn
      rw [hl]
      simp only [List.mem_cons, List.not_mem_nil, or_false] at hn
      show n < 9; omega
    · show 1 * w_fi ws (n_v vs 0) 7 + (1 * v_iv (n_v vs 3) + ((-1) * v_iv (n_v vs 2) + 0)) ≤ 2000
      omega
  have nf1 : fc_1 (20, [2, 2], [30, 0, 1, 0, 0, -1, 0, 0]) ws (vs) := by
    refine ⟨fun n hn => ?_, ?_⟩
    · have hn : n ∈ [2, 2] := hn
      rw [hl]
      simp only [List.mem_cons, List.not_mem_nil, or_false] at hn
      show n < 9; omega
    · show 1 * v_iv (n_v vs 2) + ((-1) * v_iv (n_v vs 2) + 0) ≤ 0
      omega
  refine ⟨(fun _ h => (by cases h)), [], trivial, ?_, (fun _ h => (by cases h))⟩
  rw [List.append_nil]
  exact List.forall_mem_cons.mpr ⟨⟨by decide, nf0⟩, List.forall_mem_cons.mpr ⟨⟨by decide, nf1⟩, (fun _ h => (by cases h))⟩⟩
def o_Sy_isWordAt_at_s5010_1 : or_T := (45, 10, [(0, (2, 0, 0, [11])), (2, (0, 0, 2, [])), (3, (0, 1, 3, [])), (4, (0, 0, 2, [])), (7, (0, 0, 2000, [])), (8, (0, 0, 2002, [])), (9, (0, -2, 2002, []))], [(2, [9, 8, 2], []), (1, [8, 7, 4], []), (9, [7, 0], [7]), (7, [4, 3], [2]), (20, [0, 3, 2], [30, 2000, 1, 1, 7, 1, 0, 0, -1, 0, 0]), (20, [2, 4], [30, 0, 1, 0, 0, -1, 0, 0])], [(9, (0, 0, 1999, []))], [], [], [], [(9, 8, -2, 0), (9, 4, -2, 2000), (9, 3, -4294967296, 1999), (9, 3, -4294967296, 2004), (9, 7, -2, 2), (8, 4, 0, 2000), (8, 3, -4294967296, 1999), (8, 3, -4294967296, 2004), (8, 7, 0, 2), (4, 3, -4294967296, -1), (2, 3, -4294967296, 4), (2, 4, -4294967296, 0), (3, 2, -4294967296, 3), (3, 4, -4294967296, 3), (4, 3, -4294967296, 4)])
theorem oo_Sy_isWordAt_at_s5010_1 {kA : Nat → ClassId} : or_ok kA GG o_Sy_isWordAt_at_s5010_1 := by
  intro A ta ws vs hD hth hl hk hds hf
  have hl : vs.length = 10 := hl
  have hk : ∀ q ∈ ([(0, (2, 0, 0, [11])), (2, (0, 0, 2, [])), (3, (0, 1, 3, [])), (4, (0, 0, 2, [])), (7, (0, 0, 2000, [])), (8, (0, 0, 2002, [])), (9, (0, -2, 2002, []))] : List (Nat × tv_T)), tv_ok ta q.2 (n_v vs q.1) := hk
  obtain ⟨t0, hk⟩ := List.forall_mem_cons.mp hk
  have t0 : tv_ok ta (2, 0, 0, [11]) (n_v vs 0) := t0
  have r0 : ta (v_ad (n_v vs 0)) = some 11 := tv_rg t0
  obtain ⟨t2, hk⟩ := List.forall_mem_cons.mp hk
  have t2 : tv_ok ta (0, 0, 2, []) (n_v vs 2) := t2
  have k2 : 0 ≤ v_iv (n_v vs 2) ∧ v_iv (n_v vs 2) ≤ 2 := tv_rng t2
  obtain ⟨t3, hk⟩ := List.forall_mem_cons.mp hk
  have t3 : tv_ok ta (0, 1, 3, []) (n_v vs 3) := t3
  have k3 : 1 ≤ v_iv (n_v vs 3) ∧ v_iv (n_v vs 3) ≤ 3 := tv_rng t3
  obtain ⟨t4, hk⟩ := List.forall_mem_cons.mp hk
  have t4 : tv_ok ta (0, 0, 2, []) (n_v vs 4) := t4
  have k4 : 0 ≤ v_iv (n_v vs 4) ∧ v_iv (n_v vs 4) ≤ 2 := tv_rng t4
  obtain ⟨t7, hk⟩ := List.forall_mem_cons.mp hk
  have t7 : tv_ok ta (0, 0, 2000, []) (n_v vs 7) := t7
  have k7 : 0 ≤ v_iv (n_v vs 7) ∧ v_iv (n_v vs 7) ≤ 2000 := tv_rng t7
  obtain ⟨t8, hk⟩ := List.forall_mem_cons.mp hk
  have t8 : tv_ok ta (0, 0, 2002, []) (n_v vs 8) := t8
  have k8 : 0 ≤ v_iv (n_v vs 8) ∧ v_iv (n_v vs 8) ≤ 2002 := tv_rng t8
  obtain ⟨t9, hk⟩ := List.forall_mem_cons.mp hk
  have t9 : tv_ok ta (0, -2, 2002, []) (n_v vs 9) := t9
  have k9 : (-2) ≤ v_iv (n_v vs 9) ∧ v_iv (n_v vs 9) ≤ 2002 := tv_rng t9
  have hds : ∀ q ∈ ([(9, 8, -2, 0), (9, 4, -2, 2000), (9, 3, -4294967296, 1999), (9, 3, -4294967296, 2004), (9, 7, -2, 2), (8, 4, 0, 2000), (8, 3, -4294967296, 1999), (8, 3, -4294967296, 2004), (8, 7, 0, 2), (4, 3, -4294967296, -1), (2, 3, -4294967296, 4), (2, 4, -4294967296, 0), (3, 2, -4294967296, 3), (3, 4, -4294967296, 3), (4, 3, -4294967296, 4)] : List of_T), n_iv vs q.2.1 + q.2.2.1 ≤ n_iv vs q.1 ∧ n_iv vs q.1 ≤ n_iv vs q.2.1 + q.2.2.2 := hds
  obtain ⟨d0, hds⟩ := List.forall_mem_cons.mp hds
  have d0 : v_iv (n_v vs 8) + (-2) ≤ v_iv (n_v vs 9) ∧ v_iv (n_v vs 9) ≤ v_iv (n_v vs 8) + 0 := d0
  obtain ⟨d1, hds⟩ := List.forall_mem_cons.mp hds
  have d1 : v_iv (n_v vs 4) + (-2) ≤ v_iv (n_v vs 9) ∧ v_iv (n_v vs 9) ≤ v_iv (n_v vs 4) + 2000 := d1
  obtain ⟨d2, hds⟩ := List.forall_mem_cons.mp hds
  have d2 : v_iv (n_v vs 3) + (-4294967296) ≤ v_iv (n_v vs 9) ∧ v_iv (n_v vs 9) ≤ v_iv (n_v vs 3) + 1999 := d2
  obtain ⟨d3, hds⟩ := List.forall_mem_cons.mp hds
  have d3 : v_iv (n_v vs 3) + (-4294967296) ≤ v_iv (n_v vs 9) ∧ v_iv (n_v vs 9) ≤ v_iv (n_v vs 3) + 2004 := d3
  obtain ⟨d4, hds⟩ := List.forall_mem_cons.mp hds
  have d4 : v_iv (n_v vs 7) + (-2) ≤ v_iv (n_v vs 9) ∧ v_iv (n_v vs 9) ≤ v_iv (n_v vs 7) + 2 := d4
  obtain ⟨d5, hds⟩ := List.forall_mem_cons.mp hds
  have d5 : v_iv (n_v vs 4) + 0 ≤ v_iv (n_v vs 8) ∧ v_iv (n_v vs 8) ≤ v_iv (n_v vs 4) + 2000 := d5
  obtain ⟨d6, hds⟩ := List.forall_mem_cons.mp hds
  have d6 : v_iv (n_v vs 3) + (-4294967296) ≤ v_iv (n_v vs 8) ∧ v_iv (n_v vs 8) ≤ v_iv (n_v vs 3) + 1999 := d6
  obtain ⟨d7, hds⟩ := List.forall_mem_cons.mp hds
  have d7 : v_iv (n_v vs 3) + (-4294967296) ≤ v_iv (n_v vs 8) ∧ v_iv (n_v vs 8) ≤ v_iv (n_v vs 3) + 2004 := d7
  obtain ⟨d8, hds⟩ := List.forall_mem_cons.mp hds
  have d8 : v_iv (n_v vs 7) + 0 ≤ v_iv (n_v vs 8) ∧ v_iv (n_v vs 8) ≤ v_iv (n_v vs 7) + 2 := d8
  obtain ⟨d9, hds⟩ := List.forall_mem_cons.mp hds
  have d9 : v_iv (n_v vs 3) + (-4294967296) ≤ v_iv (n_v vs 4) ∧ v_iv (n_v vs 4) ≤ v_iv (n_v vs 3) + (-1) := d9
  obtain ⟨d10, hds⟩ := List.forall_mem_cons.mp hds
  have d10 : v_iv (n_v vs 3) + (-4294967296) ≤ v_iv (n_v vs 2) ∧ v_iv (n_v vs 2) ≤ v_iv (n_v vs 3) + 4 := d10
  obtain ⟨d11, hds⟩ := List.forall_mem_cons.mp hds
  have d11 : v_iv (n_v vs 4) + (-4294967296) ≤ v_iv (n_v vs 2) ∧ v_iv (n_v vs 2) ≤ v_iv (n_v vs 4) + 0 := d11
  obtain ⟨d12, hds⟩ := List.forall_mem_cons.mp hds
  have d12 : v_iv (n_v vs 2) + (-4294967296) ≤ v_iv (n_v vs 3) ∧ v_iv (n_v vs 3) ≤ v_iv (n_v vs 2) + 3 := d12
  obtain ⟨d13, hds⟩ := List.forall_mem_cons.mp hds
  have d13 : v_iv (n_v vs 4) + (-4294967296) ≤ v_iv (n_v vs 3) ∧ v_iv (n_v vs 3) ≤ v_iv (n_v vs 4) + 3 := d13
  obtain ⟨d14, hds⟩ := List.forall_mem_cons.mp hds
  have d14 : v_iv (n_v vs 3) + (-4294967296) ≤ v_iv (n_v vs 4) ∧ v_iv (n_v vs 4) ≤ v_iv (n_v vs 3) + 4 := d14
  have hf : fc_ok [(2, [9, 8, 2], []), (1, [8, 7, 4], []), (9, [7, 0], [7]), (7, [4, 3], [2]), (20, [0, 3, 2], [30, 2000, 1, 1, 7, 1, 0, 0, -1, 0, 0]), (20, [2, 4], [30, 0, 1, 0, 0, -1, 0, 0])] ta ws vs := hf
  obtain ⟨f0, hf⟩ := fc_un (by decide) hf
  have f0 : v_iv (n_v vs 9) = v_iv (n_v vs 8) - v_iv (n_v vs 2) := f0
  obtain ⟨f1, hf⟩ := fc_un (by decide) hf
  have f1 : v_iv (n_v vs 8) = v_iv (n_v vs 7) + v_iv (n_v vs 4) := f1
  obtain ⟨f2, hf⟩ := fc_un (by decide) hf
  have f2 : n_v vs 7 = w_fd ws (v_ad (n_v vs 0)) 7 := f2
  obtain ⟨f3, hf⟩ := fc_un (by decide) hf
  have f3 : v_iv (n_v vs 4) < v_iv (n_v vs 3) := f3
  obtain ⟨f4, hf⟩ := fc_un (by decide) hf
  have f4 : 1 * w_fi ws (n_v vs 0) 7 + (1 * v_iv (n_v vs 3) + ((-1) * v_iv (n_v vs 2) + 0)) ≤ 2000 := f4
  obtain ⟨f5, hf⟩ := fc_un (by decide) hf
  have f5 : 1 * v_iv (n_v vs 2) + ((-1) * v_iv (n_v vs 4) + 0) ≤ 0 := f5
  have g2 : v_iv (n_v vs 7) = w_fi ws (n_v vs 0) 7 := congrArg v_iv f2
  have kz_0_7 : 0 ≤ w_fi ws (n_v vs 0) 7 ∧ w_fi ws (n_v vs 0) 7 ≤ 2000 := tv_rng (th_fd hD hth r0 (g := GG_11) rfl (k := 7) (t := (0, 0, 2000, [])) rfl rfl)
  have rf9 : tv_ok ta (0, 0, 1999, []) (n_v vs 9) := tv_in t9 (by omega) (by omega)
  refine ⟨List.forall_mem_cons.mpr ⟨rf9, (fun _ h => (by cases h))⟩, [], trivial, ?_, (fun _ h => (by cases h))⟩
  rw [List.append_nil]
  exact (fun _ h => (by cases h))
def o_Sy_isWordAt_at_s5010_2 : or_T := (20, 12, [(0, (2, 0, 0, [11])), (2, (0, 0, 2, [])), (3, (0, 1, 3, [])), (4, (0, 0, 2, [])), (7, (0, 0, 2000, [])), (8, (0, 0, 2002, [])), (9, (0, 0, 1999, [])), (11, (0, 1, 3, []))], [(6, [11, 4], [1]), (2, [9, 8, 2], []), (1, [8, 7, 4], []), (9, [7, 0], [7]), (7, [4, 3], [2]), (20, [0, 3, 2], [30, 2000, 1, 1, 7, 1, 0, 0, -1, 0, 0]), (20, [2, 4], [30, 0, 1, 0, 0, -1, 0, 0])], [], [], [(20, [2, 11], [30, 0, 1, 0, 0, -1, 0, 0])], [], [(11, 4, 1, 1), (11, 3, -4294967296, 0), (11, 3, -4294967296, 5), (9, 8, -2, 0), (9, 4, -2, 2000), (9, 3, -4294967296, 1999), (9, 3, -4294967296, 2004), (9, 7, -2, 2), (8, 4, 0, 2000), (8, 3, -4294967296, 1999), (8, 3, -4294967296, 2004), (8, 7, 0, 2), (4, 3, -4294967296, -1), (2, 3, -4294967296, 4), (2, 4, -4294967296, 0), (3, 2, -4294967296, 3), (3, 4, -4294967296, 3), (4, 3, -4294967296, 4)])
theorem oo_Sy_isWordAt_at_s5010_2 {kA : Nat → ClassId} : or_ok kA GG o_Sy_isWordAt_at_s5010_2 := by
  intro A ta ws vs hD hth hl hk hds hf
  have hl : vs.length = 12 := hl
  have hk : ∀ q ∈ ([(0, (2, 0, 0, [11])), (2, (0, 0, 2, [])), (3, (0, 1, 3, [])), (4, (0, 0, 2, [])), (7, (0, 0, 2000, [])), (8, (0, 0, 2002, [])), (9, (0, 0, 1999, [])), (11, (0, 1, 3, []))] : List (Nat × tv_T)), tv_ok ta q.2 (n_v vs q.1) := hk
  obtain ⟨t0, hk⟩ := List.forall_mem_cons.mp hk
  have t0 : tv_ok ta (2, 0, 0, [11]) (n_v vs 0) := t0
  have r0 : ta (v_ad (n_v vs 0)) = some 11 := tv_rg t0
  obtain ⟨t2, hk⟩ := List.forall_mem_cons.mp hk
  have t2 : tv_ok ta (0, 0, 2, []) (n_v vs 2) := t2
  have k2 : 0 ≤ v_iv (n_v vs 2) ∧ v_iv (n_v vs 2) ≤ 2 := tv_rng t2
  obtain ⟨t3, hk⟩ := List.forall_mem_cons.mp hk
  have t3 : tv_ok ta (0, 1, 3, []) (n_v vs 3) := t3
  have k3 : 1 ≤ v_iv (n_v vs 3) ∧ v_iv (n_v vs 3) ≤ 3 := tv_rng t3
  obtain ⟨t4, hk⟩ := List.forall_mem_cons.mp hk
  have t4 : tv_ok ta (0, 0, 2, []) (n_v vs 4) := t4
  have k4 : 0 ≤ v_iv (n_v vs 4) ∧ v_iv (n_v vs 4) ≤ 2 := tv_rng t4
  obtain ⟨t7, hk⟩ := List.forall_mem_cons.mp hk
  have t7 : tv_ok ta (0, 0, 2000, []) (n_v vs 7) := t7
  have k7 : 0 ≤ v_iv (n_v vs 7) ∧ v_iv (n_v vs 7) ≤ 2000 := tv_rng t7
  obtain ⟨t8, hk⟩ := List.forall_mem_cons.mp hk
  have t8 : tv_ok ta (0, 0, 2002, []) (n_v vs 8) := t8
  have k8 : 0 ≤ v_iv (n_v vs 8) ∧ v_iv (n_v vs 8) ≤ 2002 := tv_rng t8
  obtain ⟨t9, hk⟩ := List.forall_mem_cons.mp hk
  have t9 : tv_ok ta (0, 0, 1999, []) (n_v vs 9) := t9
  have k9 : 0 ≤ v_iv (n_v vs 9) ∧ v_iv (n_v vs 9) ≤ 1999 := tv_rng t9
  obtain ⟨t11, hk⟩ := List.forall_mem_cons.mp hk
  have t11 : tv_ok ta (0, 1, 3, []) (n_v vs 11) := t11
  have k11 : 1 ≤ v_iv (n_v vs 11) ∧ v_iv (n_v vs 11) ≤ 3 := tv_rng t11
  have hds : ∀ q ∈ ([(11, 4, 1, 1), (11, 3, -4294967296, 0), (11, 3, -4294967296, 5), (9, 8, -2, 0), (9, 4, -2, 2000), (9, 3, -4294967296, 1999), (9, 3, -4294967296, 2004), (9, 7, -2, 2), (8, 4, 0, 2000), (8, 3, -4294967296, 1999), (8, 3, -4294967296, 2004), (8, 7, 0, 2), (4, 3, -4294967296, -1), (2, 3, -4294967296, 4), (2, 4, -4294967296, 0), (3, 2, -4294967296, 3), (3, 4, -4294967296, 3), (4, 3, -4294967296, 4)] : List of_T), n_iv vs q.2.1 + q.2.2.1 ≤ n_iv vs q.1 ∧ n_iv vs q.1 ≤ n_iv vs q.2.1 + q.2.2.2 := hds
  obtain ⟨d0, hds⟩ := List.forall_mem_cons.mp hds
  have d0 : v_iv (n_v vs 4) + 1 ≤ v_iv (n_v vs 11) ∧ v_iv (n_v vs 11) ≤ v_iv (n_v vs 4) + 1 := d0
  obtain ⟨d1, hds⟩ := List.forall_mem_cons.mp hds
  have d1 : v_iv (n_v vs 3) + (-4294967296) ≤ v_iv (n_v vs 11) ∧ v_iv (n_v vs 11) ≤ v_iv (n_v vs 3) + 0 := d1
  obtain ⟨d2, hds⟩ := List.forall_mem_cons.mp hds
  have d2 : v_iv (n_v vs 3) + (-4294967296) ≤ v_iv (n_v vs 11) ∧ v_iv (n_v vs 11) ≤ v_iv (n_v vs 3) + 5 := d2
  obtain ⟨d3, hds⟩ := List.forall_mem_cons.mp hds
  have d3 : v_iv (n_v vs 8) + (-2) ≤ v_iv (n_v vs 9) ∧ v_iv (n_v vs 9) ≤ v_iv (n_v vs 8) + 0 := d3
  obtain ⟨d4, hds⟩ := List.forall_mem_cons.mp hds
  have d4 : v_iv (n_v vs 4) + (-2) ≤ v_iv (n_v vs 9) ∧ v_iv (n_v vs 9) ≤ v_iv (n_v vs 4) + 2000 := d4
  obtain ⟨d5, hds⟩ := List.forall_mem_cons.mp hds
  have d5 : v_iv (n_v vs 3) + (-4294967296) ≤ v_iv (n_v vs 9) ∧ v_iv (n_v vs 9) ≤ v_iv (n_v vs 3) + 1999 := d5
  obtain ⟨d6, hds⟩ := List.forall_mem_cons.mp hds
  have d6 : v_iv (n_v vs 3) + (-4294967296) ≤ v_iv (n_v vs 9) ∧ v_iv (n_v vs 9) ≤ v_iv (n_v vs 3) + 2004 := d6
  obtain ⟨d7, hds⟩ := List.forall_mem_cons.mp hds
  have d7 : v_iv (n_v vs 7) + (-2) ≤ v_iv (n_v vs 9) ∧ v_iv (n_v vs 9) ≤ v_iv (n_v vs 7) + 2 := d7
  obtain ⟨d8, hds⟩ := List.forall_mem_cons.mp hds
  have d8 : v_iv (n_v vs 4) + 0 ≤ v_iv (n_v vs 8) ∧ v_iv (n_v vs 8) ≤ v_iv (n_v vs 4) + 2000 := d8
  obtain ⟨d9, hds⟩ := List.forall_mem_cons.mp hds
  have d9 : v_iv (n_v vs 3) + (-4294967296) ≤ v_iv (n_v vs 8) ∧ v_iv (n_v vs 8) ≤ v_iv (n_v vs 3) + 1999 := d9
  obtain ⟨d10, hds⟩ := List.forall_mem_cons.mp hds
  have d10 : v_iv (n_v vs 3) + (-4294967296) ≤ v_iv (n_v vs 8) ∧ v_iv (n_v vs 8) ≤ v_iv (n_v vs 3) + 2004 := d10
  obtain ⟨d11, hds⟩ := List.forall_mem_cons.mp hds
  have d11 : v_iv (n_v vs 7) + 0 ≤ v_iv (n_v vs 8) ∧ v_iv (n_v vs 8) ≤ v_iv (n_v vs 7) + 2 := d11
  obtain ⟨d12, hds⟩ := List.forall_mem_cons.mp hds
  have d12 : v_iv (n_v vs 3) + (-4294967296) ≤ v_iv (n_v vs 4) ∧ v_iv (n_v vs 4) ≤ v_iv (n_v vs 3) + (-1) := d12
  obtain ⟨d13, hds⟩ := List.forall_mem_cons.mp hds
  have d13 : v_iv (n_v vs 3) + (-4294967296) ≤ v_iv (n_v vs 2) ∧ v_iv (n_v vs 2) ≤ v_iv (n_v vs 3) + 4 := d13
  obtain ⟨d14, hds⟩ := List.forall_mem_cons.mp hds
  have d14 : v_iv (n_v vs 4) + (-4294967296) ≤ v_iv (n_v vs 2) ∧ v_iv (n_v vs 2) ≤ v_iv (n_v vs 4) + 0 := d14
  obtain ⟨d15, hds⟩ := List.forall_mem_cons.mp hds
  have d15 : v_iv (n_v vs 2) + (-4294967296) ≤ v_iv (n_v vs 3) ∧ v_iv (n_v vs 3) ≤ v_iv (n_v vs 2) + 3 := d15
  obtain ⟨d16, hds⟩ := List.forall_mem_cons.mp hds
  have d16 : v_iv (n_v vs 4) + (-4294967296) ≤ v_iv (n_v vs 3) ∧ v_iv (n_v vs 3) ≤ v_iv (n_v vs 4) + 3 := d16
  obtain ⟨d17, hds⟩ := List.forall_mem_cons.mp hds
  have d17 : v_iv (n_v vs 3) + (-4294967296) ≤ v_iv (n_v vs 4) ∧ v_iv (n_v vs 4) ≤ v_iv (n_v vs 3) + 4 := d17
  have hf : fc_ok [(6, [11, 4], [1]), (2, [9, 8, 2], []), (1, [8, 7, 4], []), (9, [7, 0], [7]), (7, [4, 3], [2]), (20, [0, 3, 2], [30, 2000, 1, 1, 7, 1, 0, 0, -1, 0, 0]), (20, [2, 4], [30, 0, 1, 0, 0, -1, 0, 0])] ta ws vs := hf
  obtain ⟨f0, hf⟩ := fc_un (by decide) hf
  have f0 : v_iv (n_v vs 11) = v_iv (n_v vs 4) + 1 := f0
  obtain ⟨f1, hf⟩ := fc_un (by decide) hf
  have f1 : v_iv (n_v vs 9) = v_iv (n_v vs 8) - v_iv (n_v vs 2) := f1
  obtain ⟨f2, hf⟩ := fc_un (by decide) hf
  have f2 : v_iv (n_v vs 8) = v_iv (n_v vs 7) + v_iv (n_v vs 4) := f2
  obtain ⟨f3, hf⟩ := fc_un (by decide) hf
  have f3 : n_v vs 7 = w_fd ws (v_ad (n_v vs 0)) 7 := f3
  obtain ⟨f4, hf⟩ := fc_un (by decide) hf
  have f4 : v_iv (n_v vs 4) < v_iv (n_v vs 3) := f4
  obtain ⟨f5, hf⟩ := fc_un (by decide) hf
  have f5 : 1 * w_fi ws (n_v vs 0) 7 + (1 * v_iv (n_v vs 3) + ((-1) * v_iv (n_v vs 2) + 0)) ≤ 2000 := f5
  obtain ⟨f6, hf⟩ := fc_un (by decide) hf
  have f6 : 1 * v_iv (n_v vs 2) + ((-1) * v_iv (n_v vs 4) + 0) ≤ 0 := f6
  have g3 : v_iv (n_v vs 7) = w_fi ws (n_v vs 0) 7 := congrArg v_iv f3
  have kz_0_7 : 0 ≤ w_fi ws (n_v vs 0) 7 ∧ w_fi ws (n_v vs 0) 7 ≤ 2000 := tv_rng (th_fd hD hth r0 (g := GG_11) rfl (k := 7) (t := (0, 0, 2000, [])) rfl rfl)
  have nf0 : fc_1 (20, [2, 11], [30, 0, 1, 0, 0, -1, 0, 0]) ws (vs) := by
    refine ⟨fun n hn => ?_, ?_⟩
    · have hn : n ∈ [2, 11] := hn
      rw [hl]
      simp only [List.mem_cons, List.not_mem_nil, or_false] at hn
      show n < 12; omega
    · show 1 * v_iv (n_v vs 2) + ((-1) * v_iv (n_v vs 11) + 0) ≤ 0
      omega
  refine ⟨(fun _ h => (by cases h)), [], trivial, ?_, (fun _ h => (by cases h))⟩
  rw [List.append_nil]
  exact List.forall_mem_cons.mpr ⟨⟨by decide, nf0⟩, (fun _ h => (by cases h))⟩
def n_Sy_isWordAt_at_s5010_an : List an_T := [(20, [(0, (2, 0, 0, [11])), (1, (2, 0, 0, [5010])), (2, (0, 0, 4, [])), (3, (0, 0, 3, [])), (4, (0, 0, 4, []))], [], (0, 0), [(0, 0, 99980), (1, 4, 4), (0, 0, 100000)], [(2, 3, -1000000000000, 4), (2, 4, -1000000000000, 0), (3, 2, -1000000000000, 3), (3, 4, -1000000000000, 3), (4, 3, -1000000000000, 4)], [((0, 3), (2, 0, 0, [109]))], [], 0, [], [(20, [0, 3, 2], [30, 2000, 1, 1, 7, 1, 0, 0, -1, 0, 0]), (20, [2, 4], [30, 0, 1, 0, 0, -1, 0, 0])])]
def t_Sy_isWordAt_at_s5010_ct : ct_L := [(91, 104, e_jStr_charAt_v160)]
set_option maxRecDepth 100000 in
theorem c_Sy_isWordAt_at_s5010 {l : Launch} {D : va_G} {kA : Nat → ClassId} : ct_ok l D kA GG y_Sy_isWordAt_at_s5010 z_Sy_isWordAt_at_s5010 e_Sy_isWordAt_at_s5010 := chk_all_ok (FT := [(21, 11, 3), (28, 11, 5), (34, 11, 7)]) (PT := []) (CT := t_Sy_isWordAt_at_s5010_ct) (KT := []) (NT := []) (AN := n_Sy_isWordAt_at_s5010_an) (OT := [o_Sy_isWordAt_at_s5010_0, o_Sy_isWordAt_at_s5010_1, o_Sy_isWordAt_at_s5010_2]) 3 200 (List.forall_mem_cons.mpr ⟨oo_Sy_isWordAt_at_s5010_0, List.forall_mem_cons.mpr ⟨oo_Sy_isWordAt_at_s5010_1, List.forall_mem_cons.mpr ⟨oo_Sy_isWordAt_at_s5010_2, List.forall_mem_nil _⟩⟩⟩) (by decide +kernel) ⟨List.forall_mem_cons.mpr ⟨gf_Sy_21, List.forall_mem_cons.mpr ⟨gf_Sy_28, List.forall_mem_cons.mpr ⟨gf_Sy_34, List.forall_mem_nil _⟩⟩⟩, List.forall_mem_nil _, List.forall_mem_cons.mpr ⟨cl_string (y := y_jStr_charAt) (i := 10) rfl rfl (by decide +kernel) rfl c_jStr_charAt_v160 wm_684 wm_11 wm_2231 wm_682 wm_683 ⟨by decide, by decide, by decide +kernel⟩ (by decide), List.forall_mem_nil _⟩, List.forall_mem_nil _, List.forall_mem_nil _, GG_pl⟩ (by decide +kernel)
def o_Sy_isWordAt_at_s5011_0 : or_T := (20, 9, [(0, (2, 0, 0, [11])), (2, (0, 0, 3, [])), (3, (0, 0, 2, [])), (5, (0, 0, 2000, [])), (6, (0, 0, 2000, [])), (7, (0, -3, 2, [])), (8, (0, -3, 2, []))], [(7, [7, 8], [0]), (2, [8, 3, 2], []), (2, [7, 5, 6], []), (9, [6, 0], [7]), (9, [5, 0], [5])], [], [], [(20, [0, 3, 2], [30, 2000, 1, 1, 7, 1, 0, 0, -1, 0, 0]), (20, [2, 2], [30, 0, 1, 0, 0, -1, 0, 0])], [], [(7, 8, 0, 0), (8, 3, -3, 0), (7, 5, -2000, 0)])
theorem oo_Sy_isWordAt_at_s5011_0 {kA : Nat → ClassId} : or_ok kA GG o_Sy_isWordAt_at_s5011_0 := by
  intro A ta ws vs hD hth hl hk hds hf
  have hl : vs.length = 9 := hl
  have hk : ∀ q ∈ ([(0, (2, 0, 0, [11])), (2, (0, 0, 3, [])), (3, (0, 0, 2, [])), (5, (0, 0, 2000, [])), (6, (0, 0, 2000, [])), (7, (0, -3, 2, [])), (8, (0, -3, 2, []))] : List (Nat × tv_T)), tv_ok ta q.2 (n_v vs q.1) := hk
  obtain ⟨t0, hk⟩ := List.forall_mem_cons.mp hk
  have t0 : tv_ok ta (2, 0, 0, [11]) (n_v vs 0) := t0
  have r0 : ta (v_ad (n_v vs 0)) = some 11 := tv_rg t0
  obtain ⟨t2, hk⟩ := List.forall_mem_cons.mp hk
  have t2 : tv_ok ta (0, 0, 3, []) (n_v vs 2) := t2
  have k2 : 0 ≤ v_iv (n_v vs 2) ∧ v_iv (n_v vs 2) ≤ 3 := tv_rng t2
  obtain ⟨t3, hk⟩ := List.forall_mem_cons.mp hk
  have t3 : tv_ok ta (0, 0, 2, []) (n_v vs 3) := t3
  have k3 : 0 ≤ v_iv (n_v vs 3) ∧ v_iv (n_v vs 3) ≤ 2 := tv_rng t3
  obtain ⟨t5, hk⟩ := List.forall_mem_cons.mp hk
  have t5 : tv_ok ta (0, 0, 2000, []) (n_v vs 5) := t5
  have k5 : 0 ≤ v_iv (n_v vs 5) ∧ v_iv (n_v vs 5) ≤ 2000 := tv_rng t5
  obtain ⟨t6, hk⟩ := List.forall_mem_cons.mp hk
  have t6 : tv_ok ta (0, 0, 2000, []) (n_v vs 6) := t6
  have k6 : 0 ≤ v_iv (n_v vs 6) ∧ v_iv (n_v vs 6) ≤ 2000 := tv_rng t6
  obtain ⟨t7, hk⟩ := List.forall_mem_cons.mp hk
  have t7 : tv_ok ta (0, -3, 2, []) (n_v vs 7) := t7
  have k7 : (-3) ≤ v_iv (n_v vs 7) ∧ v_iv (n_v vs 7) ≤ 2 := tv_rng t7
  obtain ⟨t8, hk⟩ := List.forall_mem_cons.mp hk
  have t8 : tv_ok ta (0, -3, 2, []) (n_v vs 8) := t8
  have k8 : (-3) ≤ v_iv (n_v vs 8) ∧ v_iv (n_v vs 8) ≤ 2 := tv_rng t8
  have hds : ∀ q ∈ ([(7, 8, 0, 0), (8, 3, -3, 0), (7, 5, -2000, 0)] : List of_T), n_iv vs q.2.1 + q.2.2.1 ≤ n_iv vs q.1 ∧ n_iv vs q.1 ≤ n_iv vs q.2.1 + q.2.2.2 := hds
  obtain ⟨d0, hds⟩ := List.forall_mem_cons.mp hds
  have d0 : v_iv (n_v vs 8) + 0 ≤ v_iv (n_v vs 7) ∧ v_iv (n_v vs 7) ≤ v_iv (n_v vs 8) + 0 := d0
  obtain ⟨d1, hds⟩ := List.forall_mem_cons.mp hds
  have d1 : v_iv (n_v vs 3) + (-3) ≤ v_iv (n_v vs 8) ∧ v_iv (n_v vs 8) ≤ v_iv (n_v vs 3) + 0 := d1
  obtain ⟨d2, hds⟩ := List.forall_mem_cons.mp hds
  have d2 : v_iv (n_v vs 5) + (-2000) ≤ v_iv (n_v vs 7) ∧ v_iv (n_v vs 7) ≤ v_iv (n_v vs 5) + 0 := d2
  have hf : fc_ok [(7, [7, 8], [0]), (2, [8, 3, 2], []), (2, [7, 5, 6], []), (9, [6, 0], [7]), (9, [5, 0], [5])] ta ws vs := hf
  obtain ⟨f0, hf⟩ := fc_un (by decide) hf
  have f0 : v_iv (n_v vs 7) = v_iv (n_v vs 8) := f0
  obtain ⟨f1, hf⟩ := fc_un (by decide) hf
  have f1 : v_iv (n_v vs 8) = v_iv (n_v vs 3) - v_iv (n_v vs 2) := f1
  obtain ⟨f2, hf⟩ := fc_un (by decide) hf
  have f2 : v_iv (n_v vs 7) = v_iv (n_v vs 5) - v_iv (n_v vs 6) := f2
  obtain ⟨f3, hf⟩ := fc_un (by decide) hf
  have f3 : n_v vs 6 = w_fd ws (v_ad (n_v vs 0)) 7 := f3
  obtain ⟨f4, hf⟩ := fc_un (by decide) hf
  have f4 : n_v vs 5 = w_fd ws (v_ad (n_v vs 0)) 5 := f4
  have g3 : v_iv (n_v vs 6) = w_fi ws (n_v vs 0) 7 := congrArg v_iv f3
  have g4 : v_iv (n_v vs 5) = w_fi ws (n_v vs 0) 5 := congrArg v_iv f4
  have kz_0_5 : 0 ≤ w_fi ws (n_v vs 0) 5 ∧ w_fi ws (n_v vs 0) 5 ≤ 2000 := tv_rng (th_fd hD hth r0 (g := GG_11) rfl (k := 5) (t := (0, 0, 2000, [])) rfl rfl)
  have kz_0_7 : 0 ≤ w_fi ws (n_v vs 0) 7 ∧ w_fi ws (n_v vs 0) 7 ≤ 2000 := tv_rng (th_fd hD hth r0 (g := GG_11) rfl (k := 7) (t := (0, 0, 2000, [])) rfl rfl)
  have nf0 : fc_1 (20, [0, 3, 2], [30, 2000, 1, 1, 7, 1, 0, 0, -1, 0, 0]) ws (vs) := by
    refine ⟨fun n hn => ?_, ?_⟩
    · have hn : n ∈ [0, 3, 2] := hn
      rw [hl]
      simp only [List.mem_cons, List.not_mem_nil, or_false] at hn
      show n < 9; omega
    · show 1 * w_fi ws (n_v vs 0) 7 + (1 * v_iv (n_v vs 3) + ((-1) * v_iv (n_v vs 2) + 0)) ≤ 2000
      omega
  have nf1 : fc_1 (20, [2, 2], [30, 0, 1, 0, 0, -1, 0, 0]) ws (vs) := by
    refine ⟨fun n hn => ?_, ?_⟩
    · have hn : n ∈ [2, 2] := hn
      rw [hl]
      simp only [List.mem_cons, List.not_mem_nil, or_false] at hn
      show n < 9; omega
    · show 1 * v_iv (n_v vs 2) + ((-1) * v_iv (n_v vs 2) + 0) ≤ 0
      omega
  refine ⟨(fun _ h => (by cases h)), [], trivial, ?_, (fun _ h => (by cases h))⟩
  rw [List.append_nil]
  exact List.forall_mem_cons.mpr ⟨⟨by decide, nf0⟩, List.forall_mem_cons.mpr ⟨⟨by decide, nf1⟩, (fun _ h => (by cases h))⟩⟩
def o_Sy_isWordAt_at_s5011_1 : or_T := (45, 10, [(0, (2, 0, 0, [11])), (2, (0, 0, 1, [])), (3, (0, 1, 2, [])), (4, (0, 0, 1, [])), (7, (0, 0, 2000, [])), (8, (0, 0, 2001, [])), (9, (0, -1, 2001, []))], [(2, [9, 8, 2], []), (1, [8, 7, 4], []), (9, [7, 0], [7]), (7, [4, 3], [2]), (20, [0, 3, 2], [30, 2000, 1, 1, 7, 1, 0, 0, -1, 0, 0]), (20, [2, 4], [30, 0, 1, 0, 0, -1, 0, 0])], [(9, (0, 0, 1999, []))], [], [], [], [(9, 8, -1, 0), (9, 4, -1, 2000), (9, 3, -4294967296, 1999), (9, 2, -4294967296, 2002), (9, 3, -4294967296, 2003), (9, 7, -1, 1), (8, 4, 0, 2000), (8, 3, -4294967296, 1999), (8, 2, -4294967296, 2002), (8, 3, -4294967296, 2003), (8, 7, 0, 1), (4, 3, -4294967296, -1), (2, 3, -4294967296, 3), (2, 4, -4294967296, 0), (3, 2, -4294967296, 2), (3, 4, -4294967296, 2), (4, 2, -4294967296, 2), (4, 3, -4294967296, 3)])
theorem oo_Sy_isWordAt_at_s5011_1 {kA : Nat → ClassId} : or_ok kA GG o_Sy_isWordAt_at_s5011_1 := by
  intro A ta ws vs hD hth hl hk hds hf
  have hl : vs.length = 10 := hl
  have hk : ∀ q ∈ ([(0, (2, 0, 0, [11])), (2, (0, 0, 1, [])), (3, (0, 1, 2, [])), (4, (0, 0, 1, [])), (7, (0, 0, 2000, [])), (8, (0, 0, 2001, [])), (9, (0, -1, 2001, []))] : List (Nat × tv_T)), tv_ok ta q.2 (n_v vs q.1) := hk
  obtain ⟨t0, hk⟩ := List.forall_mem_cons.mp hk
  have t0 : tv_ok ta (2, 0, 0, [11]) (n_v vs 0) := t0
  have r0 : ta (v_ad (n_v vs 0)) = some 11 := tv_rg t0
  obtain ⟨t2, hk⟩ := List.forall_mem_cons.mp hk
  have t2 : tv_ok ta (0, 0, 1, []) (n_v vs 2) := t2
  have k2 : 0 ≤ v_iv (n_v vs 2) ∧ v_iv (n_v vs 2) ≤ 1 := tv_rng t2
  obtain ⟨t3, hk⟩ := List.forall_mem_cons.mp hk
  have t3 : tv_ok ta (0, 1, 2, []) (n_v vs 3) := t3
  have k3 : 1 ≤ v_iv (n_v vs 3) ∧ v_iv (n_v vs 3) ≤ 2 := tv_rng t3
  obtain ⟨t4, hk⟩ := List.forall_mem_cons.mp hk
  have t4 : tv_ok ta (0, 0, 1, []) (n_v vs 4) := t4
  have k4 : 0 ≤ v_iv (n_v vs 4) ∧ v_iv (n_v vs 4) ≤ 1 := tv_rng t4
  obtain ⟨t7, hk⟩ := List.forall_mem_cons.mp hk
  have t7 : tv_ok ta (0, 0, 2000, []) (n_v vs 7) := t7
  have k7 : 0 ≤ v_iv (n_v vs 7) ∧ v_iv (n_v vs 7) ≤ 2000 := tv_rng t7
  obtain ⟨t8, hk⟩ := List.forall_mem_cons.mp hk
  have t8 : tv_ok ta (0, 0, 2001, []) (n_v vs 8) := t8
  have k8 : 0 ≤ v_iv (n_v vs 8) ∧ v_iv (n_v vs 8) ≤ 2001 := tv_rng t8
  obtain ⟨t9, hk⟩ := List.forall_mem_cons.mp hk
  have t9 : tv_ok ta (0, -1, 2001, []) (n_v vs 9) := t9
  have k9 : (-1) ≤ v_iv (n_v vs 9) ∧ v_iv (n_v vs 9) ≤ 2001 := tv_rng t9
  have hds : ∀ q ∈ ([(9, 8, -1, 0), (9, 4, -1, 2000), (9, 3, -4294967296, 1999), (9, 2, -4294967296, 2002), (9, 3, -4294967296, 2003), (9, 7, -1, 1), (8, 4, 0, 2000), (8, 3, -4294967296, 1999), (8, 2, -4294967296, 2002), (8, 3, -4294967296, 2003), (8, 7, 0, 1), (4, 3, -4294967296, -1), (2, 3, -4294967296, 3), (2, 4, -4294967296, 0), (3, 2, -4294967296, 2), (3, 4, -4294967296, 2), (4, 2, -4294967296, 2), (4, 3, -4294967296, 3)] : List of_T), n_iv vs q.2.1 + q.2.2.1 ≤ n_iv vs q.1 ∧ n_iv vs q.1 ≤ n_iv vs q.2.1 + q.2.2.2 := hds
  obtain ⟨d0, hds⟩ := List.forall_mem_cons.mp hds
  have d0 : v_iv (n_v vs 8) + (-1) ≤ v_iv (n_v vs 9) ∧ v_iv (n_v vs 9) ≤ v_iv (n_v vs 8) + 0 := d0
  obtain ⟨d1, hds⟩ := List.forall_mem_cons.mp hds
  have d1 : v_iv (n_v vs 4) + (-1) ≤ v_iv (n_v vs 9) ∧ v_iv (n_v vs 9) ≤ v_iv (n_v vs 4) + 2000 := d1
  obtain ⟨d2, hds⟩ := List.forall_mem_cons.mp hds
  have d2 : v_iv (n_v vs 3) + (-4294967296) ≤ v_iv (n_v vs 9) ∧ v_iv (n_v vs 9) ≤ v_iv (n_v vs 3) + 1999 := d2
  obtain ⟨d3, hds⟩ := List.forall_mem_cons.mp hds
  have d3 : v_iv (n_v vs 2) + (-4294967296) ≤ v_iv (n_v vs 9) ∧ v_iv (n_v vs 9) ≤ v_iv (n_v vs 2) + 2002 := d3
  obtain ⟨d4, hds⟩ := List.forall_mem_cons.mp hds
  have d4 : v_iv (n_v vs 3) + (-4294967296) ≤ v_iv (n_v vs 9) ∧ v_iv (n_v vs 9) ≤ v_iv (n_v vs 3) + 2003 := d4
  obtain ⟨d5, hds⟩ := List.forall_mem_cons.mp hds
  have d5 : v_iv (n_v vs 7) + (-1) ≤ v_iv (n_v vs 9) ∧ v_iv (n_v vs 9) ≤ v_iv (n_v vs 7) + 1 := d5
  obtain ⟨d6, hds⟩ := List.forall_mem_cons.mp hds
  have d6 : v_iv (n_v vs 4) + 0 ≤ v_iv (n_v vs 8) ∧ v_iv (n_v vs 8) ≤ v_iv (n_v vs 4) + 2000 := d6
  obtain ⟨d7, hds⟩ := List.forall_mem_cons.mp hds
  have d7 : v_iv (n_v vs 3) + (-4294967296) ≤ v_iv (n_v vs 8) ∧ v_iv (n_v vs 8) ≤ v_iv (n_v vs 3) + 1999 := d7
  obtain ⟨d8, hds⟩ := List.forall_mem_cons.mp hds
  have d8 : v_iv (n_v vs 2) + (-4294967296) ≤ v_iv (n_v vs 8) ∧ v_iv (n_v vs 8) ≤ v_iv (n_v vs 2) + 2002 := d8
  obtain ⟨d9, hds⟩ := List.forall_mem_cons.mp hds
  have d9 : v_iv (n_v vs 3) + (-4294967296) ≤ v_iv (n_v vs 8) ∧ v_iv (n_v vs 8) ≤ v_iv (n_v vs 3) + 2003 := d9
  obtain ⟨d10, hds⟩ := List.forall_mem_cons.mp hds
  have d10 : v_iv (n_v vs 7) + 0 ≤ v_iv (n_v vs 8) ∧ v_iv (n_v vs 8) ≤ v_iv (n_v vs 7) + 1 := d10
  obtain ⟨d11, hds⟩ := List.forall_mem_cons.mp hds
  have d11 : v_iv (n_v vs 3) + (-4294967296) ≤ v_iv (n_v vs 4) ∧ v_iv (n_v vs 4) ≤ v_iv (n_v vs 3) + (-1) := d11
  obtain ⟨d12, hds⟩ := List.forall_mem_cons.mp hds
  have d12 : v_iv (n_v vs 3) + (-4294967296) ≤ v_iv (n_v vs 2) ∧ v_iv (n_v vs 2) ≤ v_iv (n_v vs 3) + 3 := d12
  obtain ⟨d13, hds⟩ := List.forall_mem_cons.mp hds
  have d13 : v_iv (n_v vs 4) + (-4294967296) ≤ v_iv (n_v vs 2) ∧ v_iv (n_v vs 2) ≤ v_iv (n_v vs 4) + 0 := d13
  obtain ⟨d14, hds⟩ := List.forall_mem_cons.mp hds
  have d14 : v_iv (n_v vs 2) + (-4294967296) ≤ v_iv (n_v vs 3) ∧ v_iv (n_v vs 3) ≤ v_iv (n_v vs 2) + 2 := d14
  obtain ⟨d15, hds⟩ := List.forall_mem_cons.mp hds
  have d15 : v_iv (n_v vs 4) + (-4294967296) ≤ v_iv (n_v vs 3) ∧ v_iv (n_v vs 3) ≤ v_iv (n_v vs 4) + 2 := d15
  obtain ⟨d16, hds⟩ := List.forall_mem_cons.mp hds
  have d16 : v_iv (n_v vs 2) + (-4294967296) ≤ v_iv (n_v vs 4) ∧ v_iv (n_v vs 4) ≤ v_iv (n_v vs 2) + 2 := d16
  obtain ⟨d17, hds⟩ := List.forall_mem_cons.mp hds
  have d17 : v_iv (n_v vs 3) + (-4294967296) ≤ v_iv (n_v vs 4) ∧ v_iv (n_v vs 4) ≤ v_iv (n_v vs 3) + 3 := d17
  have hf : fc_ok [(2, [9, 8, 2], []), (1, [8, 7, 4], []), (9, [7, 0], [7]), (7, [4, 3], [2]), (20, [0, 3, 2], [30, 2000, 1, 1, 7, 1, 0, 0, -1, 0, 0]), (20, [2, 4], [30, 0, 1, 0, 0, -1, 0, 0])] ta ws vs := hf
  obtain ⟨f0, hf⟩ := fc_un (by decide) hf
  have f0 : v_iv (n_v vs 9) = v_iv (n_v vs 8) - v_iv (n_v vs 2) := f0
  obtain ⟨f1, hf⟩ := fc_un (by decide) hf
  have f1 : v_iv (n_v vs 8) = v_iv (n_v vs 7) + v_iv (n_v vs 4) := f1
  obtain ⟨f2, hf⟩ := fc_un (by decide) hf
  have f2 : n_v vs 7 = w_fd ws (v_ad (n_v vs 0)) 7 := f2
  obtain ⟨f3, hf⟩ := fc_un (by decide) hf
  have f3 : v_iv (n_v vs 4) < v_iv (n_v vs 3) := f3
  obtain ⟨f4, hf⟩ := fc_un (by decide) hf
  have f4 : 1 * w_fi ws (n_v vs 0) 7 + (1 * v_iv (n_v vs 3) + ((-1) * v_iv (n_v vs 2) + 0)) ≤ 2000 := f4
  obtain ⟨f5, hf⟩ := fc_un (by decide) hf
  have f5 : 1 * v_iv (n_v vs 2) + ((-1) * v_iv (n_v vs 4) + 0) ≤ 0 := f5
  have g2 : v_iv (n_v vs 7) = w_fi ws (n_v vs 0) 7 := congrArg v_iv f2
  have kz_0_7 : 0 ≤ w_fi ws (n_v vs 0) 7 ∧ w_fi ws (n_v vs 0) 7 ≤ 2000 := tv_rng (th_fd hD hth r0 (g := GG_11) rfl (k := 7) (t := (0, 0, 2000, [])) rfl rfl)
  have rf9 : tv_ok ta (0, 0, 1999, []) (n_v vs 9) := tv_in t9 (by omega) (by omega)
  refine ⟨List.forall_mem_cons.mpr ⟨rf9, (fun _ h => (by cases h))⟩, [], trivial, ?_, (fun _ h => (by cases h))⟩
  rw [List.append_nil]
  exact (fun _ h => (by cases h))
def o_Sy_isWordAt_at_s5011_2 : or_T := (20, 12, [(0, (2, 0, 0, [11])), (2, (0, 0, 1, [])), (3, (0, 1, 2, [])), (4, (0, 0, 1, [])), (7, (0, 0, 2000, [])), (8, (0, 0, 2001, [])), (9, (0, 0, 1999, [])), (11, (0, 1, 2, []))], [(6, [11, 4], [1]), (2, [9, 8, 2], []), (1, [8, 7, 4], []), (9, [7, 0], [7]), (7, [4, 3], [2]), (20, [0, 3, 2], [30, 2000, 1, 1, 7, 1, 0, 0, -1, 0, 0]), (20, [2, 4], [30, 0, 1, 0, 0, -1, 0, 0])], [], [], [(20, [2, 11], [30, 0, 1, 0, 0, -1, 0, 0])], [], [(11, 4, 1, 1), (11, 3, -4294967296, 0), (11, 2, -4294967296, 3), (11, 3, -4294967296, 4), (9, 8, -1, 0), (9, 4, -1, 2000), (9, 3, -4294967296, 1999), (9, 2, -4294967296, 2002), (9, 3, -4294967296, 2003), (9, 7, -1, 1), (8, 4, 0, 2000), (8, 3, -4294967296, 1999), (8, 2, -4294967296, 2002), (8, 3, -4294967296, 2003), (8, 7, 0, 1), (4, 3, -4294967296, -1), (2, 3, -4294967296, 3), (2, 4, -4294967296, 0), (3, 2, -4294967296, 2), (3, 4, -4294967296, 2), (4, 2, -4294967296, 2), (4, 3, -4294967296, 3)])
theorem oo_Sy_isWordAt_at_s5011_2 {kA : Nat → ClassId} : or_ok kA GG o_Sy_isWordAt_at_s5011_2 := by
  intro A ta ws vs hD hth hl hk hds hf
  have hl : vs.length = 12 := hl
  have hk : ∀ q ∈ ([(0, (2, 0, 0, [11])), (2, (0, 0, 1, [])), (3, (0, 1, 2, [])), (4, (0, 0, 1, [])), (7, (0, 0, 2000, [])), (8, (0, 0, 2001, [])), (9, (0, 0, 1999, [])), (11, (0, 1, 2, []))] : List (Nat × tv_T)), tv_ok ta q.2 (n_v vs q.1) := hk
  obtain ⟨t0, hk⟩ := List.forall_mem_cons.mp hk
  have t0 : tv_ok ta (2, 0, 0, [11]) (n_v vs 0) := t0
  have r0 : ta (v_ad (n_v vs 0)) = some 11 := tv_rg t0
  obtain ⟨t2, hk⟩ := List.forall_mem_cons.mp hk
  have t2 : tv_ok ta (0, 0, 1, []) (n_v vs 2) := t2
  have k2 : 0 ≤ v_iv (n_v vs 2) ∧ v_iv (n_v vs 2) ≤ 1 := tv_rng t2
  obtain ⟨t3, hk⟩ := List.forall_mem_cons.mp hk
  have t3 : tv_ok ta (0, 1, 2, []) (n_v vs 3) := t3
  have k3 : 1 ≤ v_iv (n_v vs 3) ∧ v_iv (n_v vs 3) ≤ 2 := tv_rng t3
  obtain ⟨t4, hk⟩ := List.forall_mem_cons.mp hk
  have t4 : tv_ok ta (0, 0, 1, []) (n_v vs 4) := t4
  have k4 : 0 ≤ v_iv (n_v vs 4) ∧ v_iv (n_v vs 4) ≤ 1 := tv_rng t4
  obtain ⟨t7, hk⟩ := List.forall_mem_cons.mp hk
  have t7 : tv_ok ta (0, 0, 2000, []) (n_v vs 7) := t7
  have k7 : 0 ≤ v_iv (n_v vs 7) ∧ v_iv (n_v vs 7) ≤ 2000 := tv_rng t7
  obtain ⟨t8, hk⟩ := List.forall_mem_cons.mp hk
  have t8 : tv_ok ta (0, 0, 2001, []) (n_v vs 8) := t8
  have k8 : 0 ≤ v_iv (n_v vs 8) ∧ v_iv (n_v vs 8) ≤ 2001 := tv_rng t8
  obtain ⟨t9, hk⟩ := List.forall_mem_cons.mp hk
  have t9 : tv_ok ta (0, 0, 1999, []) (n_v vs 9) := t9
  have k9 : 0 ≤ v_iv (n_v vs 9) ∧ v_iv (n_v vs 9) ≤ 1999 := tv_rng t9
  obtain ⟨t11, hk⟩ := List.forall_mem_cons.mp hk
  have t11 : tv_ok ta (0, 1, 2, []) (n_v vs 11) := t11
  have k11 : 1 ≤ v_iv (n_v vs 11) ∧ v_iv (n_v vs 11) ≤ 2 := tv_rng t11
  have hds : ∀ q ∈ ([(11, 4, 1, 1), (11, 3, -4294967296, 0), (11, 2, -4294967296, 3), (11, 3, -4294967296, 4), (9, 8, -1, 0), (9, 4, -1, 2000), (9, 3, -4294967296, 1999), (9, 2, -4294967296, 2002), (9, 3, -4294967296, 2003), (9, 7, -1, 1), (8, 4, 0, 2000), (8, 3, -4294967296, 1999), (8, 2, -4294967296, 2002), (8, 3, -4294967296, 2003), (8, 7, 0, 1), (4, 3, -4294967296, -1), (2, 3, -4294967296, 3), (2, 4, -4294967296, 0), (3, 2, -4294967296, 2), (3, 4, -4294967296, 2), (4, 2, -4294967296, 2), (4, 3, -4294967296, 3)] : List of_T), n_iv vs q.2.1 + q.2.2.1 ≤ n_iv vs q.1 ∧ n_iv vs q.1 ≤ n_iv vs q.2.1 + q.2.2.2 := hds
  obtain ⟨d0, hds⟩ := List.forall_mem_cons.mp hds
  have d0 : v_iv (n_v vs 4) + 1 ≤ v_iv (n_v vs 11) ∧ v_iv (n_v vs 11) ≤ v_iv (n_v vs 4) + 1 := d0
  obtain ⟨d1, hds⟩ := List.forall_mem_cons.mp hds
  have d1 : v_iv (n_v vs 3) + (-4294967296) ≤ v_iv (n_v vs 11) ∧ v_iv (n_v vs 11) ≤ v_iv (n_v vs 3) + 0 := d1
  obtain ⟨d2, hds⟩ := List.forall_mem_cons.mp hds
  have d2 : v_iv (n_v vs 2) + (-4294967296) ≤ v_iv (n_v vs 11) ∧ v_iv (n_v vs 11) ≤ v_iv (n_v vs 2) + 3 := d2
  obtain ⟨d3, hds⟩ := List.forall_mem_cons.mp hds
  have d3 : v_iv (n_v vs 3) + (-4294967296) ≤ v_iv (n_v vs 11) ∧ v_iv (n_v vs 11) ≤ v_iv (n_v vs 3) + 4 := d3
  obtain ⟨d4, hds⟩ := List.forall_mem_cons.mp hds
  have d4 : v_iv (n_v vs 8) + (-1) ≤ v_iv (n_v vs 9) ∧ v_iv (n_v vs 9) ≤ v_iv (n_v vs 8) + 0 := d4
  obtain ⟨d5, hds⟩ := List.forall_mem_cons.mp hds
  have d5 : v_iv (n_v vs 4) + (-1) ≤ v_iv (n_v vs 9) ∧ v_iv (n_v vs 9) ≤ v_iv (n_v vs 4) + 2000 := d5
  obtain ⟨d6, hds⟩ := List.forall_mem_cons.mp hds
  have d6 : v_iv (n_v vs 3) + (-4294967296) ≤ v_iv (n_v vs 9) ∧ v_iv (n_v vs 9) ≤ v_iv (n_v vs 3) + 1999 := d6
  obtain ⟨d7, hds⟩ := List.forall_mem_cons.mp hds
  have d7 : v_iv (n_v vs 2) + (-4294967296) ≤ v_iv (n_v vs 9) ∧ v_iv (n_v vs 9) ≤ v_iv (n_v vs 2) + 2002 := d7
  obtain ⟨d8, hds⟩ := List.forall_mem_cons.mp hds
  have d8 : v_iv (n_v vs 3) + (-4294967296) ≤ v_iv (n_v vs 9) ∧ v_iv (n_v vs 9) ≤ v_iv (n_v vs 3) + 2003 := d8
  obtain ⟨d9, hds⟩ := List.forall_mem_cons.mp hds
  have d9 : v_iv (n_v vs 7) + (-1) ≤ v_iv (n_v vs 9) ∧ v_iv (n_v vs 9) ≤ v_iv (n_v vs 7) + 1 := d9
  obtain ⟨d10, hds⟩ := List.forall_mem_cons.mp hds
  have d10 : v_iv (n_v vs 4) + 0 ≤ v_iv (n_v vs 8) ∧ v_iv (n_v vs 8) ≤ v_iv (n_v vs 4) + 2000 := d10
  obtain ⟨d11, hds⟩ := List.forall_mem_cons.mp hds
  have d11 : v_iv (n_v vs 3) + (-4294967296) ≤ v_iv (n_v vs 8) ∧ v_iv (n_v vs 8) ≤ v_iv (n_v vs 3) + 1999 := d11
  obtain ⟨d12, hds⟩ := List.forall_mem_cons.mp hds
  have d12 : v_iv (n_v vs 2) + (-4294967296) ≤ v_iv (n_v vs 8) ∧ v_iv (n_v vs 8) ≤ v_iv (n_v vs 2) + 2002 := d12
  obtain ⟨d13, hds⟩ := List.forall_mem_cons.mp hds
  have d13 : v_iv (n_v vs 3) + (-4294967296) ≤ v_iv (n_v vs 8) ∧ v_iv (n_v vs 8) ≤ v_iv (n_v vs 3) + 2003 := d13
  obtain ⟨d14, hds⟩ := List.forall_mem_cons.mp hds
  have d14 : v_iv (n_v vs 7) + 0 ≤ v_iv (n_v vs 8) ∧ v_iv (n_v vs 8) ≤ v_iv (n_v vs 7) + 1 := d14
  obtain ⟨d15, hds⟩ := List.forall_mem_cons.mp hds
  have d15 : v_iv (n_v vs 3) + (-4294967296) ≤ v_iv (n_v vs 4) ∧ v_iv (n_v vs 4) ≤ v_iv (n_v vs 3) + (-1) := d15
  obtain ⟨d16, hds⟩ := List.forall_mem_cons.mp hds
  have d16 : v_iv (n_v vs 3) + (-4294967296) ≤ v_iv (n_v vs 2) ∧ v_iv (n_v vs 2) ≤ v_iv (n_v vs 3) + 3 := d16
  obtain ⟨d17, hds⟩ := List.forall_mem_cons.mp hds
  have d17 : v_iv (n_v vs 4) + (-4294967296) ≤ v_iv (n_v vs 2) ∧ v_iv (n_v vs 2) ≤ v_iv (n_v vs 4) + 0 := d17
  obtain ⟨d18, hds⟩ := List.forall_mem_cons.mp hds
  have d18 : v_iv (n_v vs 2) + (-4294967296) ≤ v_iv (n_v vs 3) ∧ v_iv (n_v vs 3) ≤ v_iv (n_v vs 2) + 2 := d18
  obtain ⟨d19, hds⟩ := List.forall_mem_cons.mp hds
  have d19 : v_iv (n_v vs 4) + (-4294967296) ≤ v_iv (n_v vs 3) ∧ v_iv (n_v vs 3) ≤ v_iv (n_v vs 4) + 2 := d19
  obtain ⟨d20, hds⟩ := List.forall_mem_cons.mp hds
  have d20 : v_iv (n_v vs 2) + (-4294967296) ≤ v_iv (n_v vs 4) ∧ v_iv (n_v vs 4) ≤ v_iv (n_v vs 2) + 2 := d20
  obtain ⟨d21, hds⟩ := List.forall_mem_cons.mp hds
  have d21 : v_iv (n_v vs 3) + (-4294967296) ≤ v_iv (n_v vs 4) ∧ v_iv (n_v vs 4) ≤ v_iv (n_v vs 3) + 3 := d21
  have hf : fc_ok [(6, [11, 4], [1]), (2, [9, 8, 2], []), (1, [8, 7, 4], []), (9, [7, 0], [7]), (7, [4, 3], [2]), (20, [0, 3, 2], [30, 2000, 1, 1, 7, 1, 0, 0, -1, 0, 0]), (20, [2, 4], [30, 0, 1, 0, 0, -1, 0, 0])] ta ws vs := hf
  obtain ⟨f0, hf⟩ := fc_un (by decide) hf
  have f0 : v_iv (n_v vs 11) = v_iv (n_v vs 4) + 1 := f0
  obtain ⟨f1, hf⟩ := fc_un (by decide) hf
  have f1 : v_iv (n_v vs 9) = v_iv (n_v vs 8) - v_iv (n_v vs 2) := f1
  obtain ⟨f2, hf⟩ := fc_un (by decide) hf
  have f2 : v_iv (n_v vs 8) = v_iv (n_v vs 7) + v_iv (n_v vs 4) := f2
  obtain ⟨f3, hf⟩ := fc_un (by decide) hf
  have f3 : n_v vs 7 = w_fd ws (v_ad (n_v vs 0)) 7 := f3
  obtain ⟨f4, hf⟩ := fc_un (by decide) hf
  have f4 : v_iv (n_v vs 4) < v_iv (n_v vs 3) := f4
  obtain ⟨f5, hf⟩ := fc_un (by decide) hf
  have f5 : 1 * w_fi ws (n_v vs 0) 7 + (1 * v_iv (n_v vs 3) + ((-1) * v_iv (n_v vs 2) + 0)) ≤ 2000 := f5
  obtain ⟨f6, hf⟩ := fc_un (by decide) hf
  have f6 : 1 * v_iv (n_v vs 2) + ((-1) * v_iv (n_v vs 4) + 0) ≤ 0 := f6
  have g3 : v_iv (n_v vs 7) = w_fi ws (n_v vs 0) 7 := congrArg v_iv f3
  have kz_0_7 : 0 ≤ w_fi ws (n_v vs 0) 7 ∧ w_fi ws (n_v vs 0) 7 ≤ 2000 := tv_rng (th_fd hD hth r0 (g := GG_11) rfl (k := 7) (t := (0, 0, 2000, [])) rfl rfl)
  have nf0 : fc_1 (20, [2, 11], [30, 0, 1, 0, 0, -1, 0, 0]) ws (vs) := by
    refine ⟨fun n hn => ?_, ?_⟩
    · have hn : n ∈ [2, 11] := hn
      rw [hl]
      simp only [List.mem_cons, List.not_mem_nil, or_false] at hn
      show n < 12; omega
    · show 1 * v_iv (n_v vs 2) + ((-1) * v_iv (n_v vs 11) + 0) ≤ 0
      omega
  refine ⟨(fun _ h => (by cases h)), [], trivial, ?_, (fun _ h => (by cases h))⟩
  rw [List.append_nil]
  exact List.forall_mem_cons.mpr ⟨⟨by decide, nf0⟩, (fun _ h => (by cases h))⟩
def n_Sy_isWordAt_at_s5011_an : List an_T := [(20, [(0, (2, 0, 0, [11])), (1, (2, 0, 0, [5011])), (2, (0, 0, 3, [])), (3, (0, 0, 2, [])), (4, (0, 0, 3, []))], [], (0, 0), [(0, 0, 99980), (1, 4, 3), (0, 0, 100000)], [(2, 3, -1000000000000, 3), (2, 4, -1000000000000, 0), (3, 2, -1000000000000, 2), (3, 4, -1000000000000, 2), (4, 2, -1000000000000, 2), (4, 3, -1000000000000, 3)], [((0, 3), (2, 0, 0, [109]))], [], 0, [], [(20, [0, 3, 2], [30, 2000, 1, 1, 7, 1, 0, 0, -1, 0, 0]), (20, [2, 4], [30, 0, 1, 0, 0, -1, 0, 0])])]
def t_Sy_isWordAt_at_s5011_ct : ct_L := [(91, 104, e_jStr_charAt_v162)]
set_option maxRecDepth 100000 in
theorem c_Sy_isWordAt_at_s5011 {l : Launch} {D : va_G} {kA : Nat → ClassId} : ct_ok l D kA GG y_Sy_isWordAt_at_s5011 z_Sy_isWordAt_at_s5011 e_Sy_isWordAt_at_s5011 := chk_all_ok (FT := [(21, 11, 3), (28, 11, 5), (34, 11, 7)]) (PT := []) (CT := t_Sy_isWordAt_at_s5011_ct) (KT := []) (NT := []) (AN := n_Sy_isWordAt_at_s5011_an) (OT := [o_Sy_isWordAt_at_s5011_0, o_Sy_isWordAt_at_s5011_1, o_Sy_isWordAt_at_s5011_2]) 3 200 (List.forall_mem_cons.mpr ⟨oo_Sy_isWordAt_at_s5011_0, List.forall_mem_cons.mpr ⟨oo_Sy_isWordAt_at_s5011_1, List.forall_mem_cons.mpr ⟨oo_Sy_isWordAt_at_s5011_2, List.forall_mem_nil _⟩⟩⟩) (by decide +kernel) ⟨List.forall_mem_cons.mpr ⟨gf_Sy_21, List.forall_mem_cons.mpr ⟨gf_Sy_28, List.forall_mem_cons.mpr ⟨gf_Sy_34, List.forall_mem_nil _⟩⟩⟩, List.forall_mem_nil _, List.forall_mem_cons.mpr ⟨cl_string (y := y_jStr_charAt) (i := 11) rfl rfl (by decide +kernel) rfl c_jStr_charAt_v162 wm_684 wm_11 wm_2231 wm_682 wm_683 ⟨by decide, by decide, by decide +kernel⟩ (by decide), List.forall_mem_nil _⟩, List.forall_mem_nil _, List.forall_mem_nil _, GG_pl⟩ (by decide +kernel)
def o_Sy_isWordAt_at_s5012_0 : or_T := (20, 9, [(0, (2, 0, 0, [11])), (2, (0, 0, 23, [])), (3, (0, 0, 16, [])), (5, (0, 0, 2000, [])), (6, (0, 0, 2000, [])), (7, (0, -23, 16, [])), (8, (0, -23, 16, []))], [(7, [7, 8], [0]), (2, [8, 3, 2], []), (2, [7, 5, 6], []), (9, [6, 0], [7]), (9, [5, 0], [5])], [], [], [(20, [0, 3, 2], [30, 2000, 1, 1, 7, 1, 0, 0, -1, 0, 0]), (20, [2, 2], [30, 0, 1, 0, 0, -1, 0, 0])], [], [(7, 8, 0, 0), (8, 3, -23, 0), (7, 5, -2000, 0)])
theorem oo_Sy_isWordAt_at_s5012_0 {kA : Nat → ClassId} : or_ok kA GG o_Sy_isWordAt_at_s5012_0 := by
  intro A ta ws vs hD hth hl hk hds hf
  have hl : vs.length = 9 := hl
  have hk : ∀ q ∈ ([(0, (2, 0, 0, [11])), (2, (0, 0, 23, [])), (3, (0, 0, 16, [])), (5, (0, 0, 2000, [])), (6, (0, 0, 2000, [])), (7, (0, -23, 16, [])), (8, (0, -23, 16, []))] : List (Nat × tv_T)), tv_ok ta q.2 (n_v vs q.1) := hk
  obtain ⟨t0, hk⟩ := List.forall_mem_cons.mp hk
  have t0 : tv_ok ta (2, 0, 0, [11]) (n_v vs 0) := t0
  have r0 : ta (v_ad (n_v vs 0)) = some 11 := tv_rg t0
  obtain ⟨t2, hk⟩ := List.forall_mem_cons.mp hk
  have t2 : tv_ok ta (0, 0, 23, []) (n_v vs 2) := t2
  have k2 : 0 ≤ v_iv (n_v vs 2) ∧ v_iv (n_v vs 2) ≤ 23 := tv_rng t2
  obtain ⟨t3, hk⟩ := List.forall_mem_cons.mp hk
  have t3 : tv_ok ta (0, 0, 16, []) (n_v vs 3) := t3
  have k3 : 0 ≤ v_iv (n_v vs 3) ∧ v_iv (n_v vs 3) ≤ 16 := tv_rng t3
  obtain ⟨t5, hk⟩ := List.forall_mem_cons.mp hk
  have t5 : tv_ok ta (0, 0, 2000, []) (n_v vs 5) := t5
  have k5 : 0 ≤ v_iv (n_v vs 5) ∧ v_iv (n_v vs 5) ≤ 2000 := tv_rng t5
  obtain ⟨t6, hk⟩ := List.forall_mem_cons.mp hk
  have t6 : tv_ok ta (0, 0, 2000, []) (n_v vs 6) := t6
  have k6 : 0 ≤ v_iv (n_v vs 6) ∧ v_iv (n_v vs 6) ≤ 2000 := tv_rng t6
  obtain ⟨t7, hk⟩ := List.forall_mem_cons.mp hk
  have t7 : tv_ok ta (0, -23, 16, []) (n_v vs 7) := t7
  have k7 : (-23) ≤ v_iv (n_v vs 7) ∧ v_iv (n_v vs 7) ≤ 16 := tv_rng t7
  obtain ⟨t8, hk⟩ := List.forall_mem_cons.mp hk
  have t8 : tv_ok ta (0, -23, 16, []) (n_v vs 8) := t8
  have k8 : (-23) ≤ v_iv (n_v vs 8) ∧ v_iv (n_v vs 8) ≤ 16 := tv_rng t8
  have hds : ∀ q ∈ ([(7, 8, 0, 0), (8, 3, -23, 0), (7, 5, -2000, 0)] : List of_T), n_iv vs q.2.1 + q.2.2.1 ≤ n_iv vs q.1 ∧ n_iv vs q.1 ≤ n_iv vs q.2.1 + q.2.2.2 := hds
  obtain ⟨d0, hds⟩ := List.forall_mem_cons.mp hds
  have d0 : v_iv (n_v vs 8) + 0 ≤ v_iv (n_v vs 7) ∧ v_iv (n_v vs 7) ≤ v_iv (n_v vs 8) + 0 := d0
  obtain ⟨d1, hds⟩ := List.forall_mem_cons.mp hds
  have d1 : v_iv (n_v vs 3) + (-23) ≤ v_iv (n_v vs 8) ∧ v_iv (n_v vs 8) ≤ v_iv (n_v vs 3) + 0 := d1
  obtain ⟨d2, hds⟩ := List.forall_mem_cons.mp hds
  have d2 : v_iv (n_v vs 5) + (-2000) ≤ v_iv (n_v vs 7) ∧ v_iv (n_v vs 7) ≤ v_iv (n_v vs 5) + 0 := d2
  have hf : fc_ok [(7, [7, 8], [0]), (2, [8, 3, 2], []), (2, [7, 5, 6], []), (9, [6, 0], [7]), (9, [5, 0], [5])] ta ws vs := hf
  obtain ⟨f0, hf⟩ := fc_un (by decide) hf
  have f0 : v_iv (n_v vs 7) = v_iv (n_v vs 8) := f0
  obtain ⟨f1, hf⟩ := fc_un (by decide) hf
  have f1 : v_iv (n_v vs 8) = v_iv (n_v vs 3) - v_iv (n_v vs 2) := f1
  obtain ⟨f2, hf⟩ := fc_un (by decide) hf
  have f2 : v_iv (n_v vs 7) = v_iv (n_v vs 5) - v_iv (n_v vs 6) := f2
  obtain ⟨f3, hf⟩ := fc_un (by decide) hf
  have f3 : n_v vs 6 = w_fd ws (v_ad (n_v vs 0)) 7 := f3
  obtain ⟨f4, hf⟩ := fc_un (by decide) hf
  have f4 : n_v vs 5 = w_fd ws (v_ad (n_v vs 0)) 5 := f4
  have g3 : v_iv (n_v vs 6) = w_fi ws (n_v vs 0) 7 := congrArg v_iv f3
  have g4 : v_iv (n_v vs 5) = w_fi ws (n_v vs 0) 5 := congrArg v_iv f4
  have kz_0_5 : 0 ≤ w_fi ws (n_v vs 0) 5 ∧ w_fi ws (n_v vs 0) 5 ≤ 2000 := tv_rng (th_fd hD hth r0 (g := GG_11) rfl (k := 5) (t := (0, 0, 2000, [])) rfl rfl)
  have kz_0_7 : 0 ≤ w_fi ws (n_v vs 0) 7 ∧ w_fi ws (n_v vs 0) 7 ≤ 2000 := tv_rng (th_fd hD hth r0 (g := GG_11) rfl (k := 7) (t := (0, 0, 2000, [])) rfl rfl)
  have nf0 : fc_1 (20, [0, 3, 2], [30, 2000, 1, 1, 7, 1, 0, 0, -1, 0, 0]) ws (vs) := by
    refine ⟨fun n hn => ?_, ?_⟩
    · have hn : n ∈ [0, 3, 2] := hn
      rw [hl]
      simp only [List.mem_cons, List.not_mem_nil, or_false] at hn
      show n < 9; omega
    · show 1 * w_fi ws (n_v vs 0) 7 + (1 * v_iv (n_v vs 3) + ((-1) * v_iv (n_v vs 2) + 0)) ≤ 2000
      omega
  have nf1 : fc_1 (20, [2, 2], [30, 0, 1, 0, 0, -1, 0, 0]) ws (vs) := by
    refine ⟨fun n hn => ?_, ?_⟩
    · have hn : n ∈ [2, 2] := hn
      rw [hl]
      simp only [List.mem_cons, List.not_mem_nil, or_false] at hn
      show n < 9; omega
    · show 1 * v_iv (n_v vs 2) + ((-1) * v_iv (n_v vs 2) + 0) ≤ 0
      omega
  refine ⟨(fun _ h => (by cases h)), [], trivial, ?_, (fun _ h => (by cases h))⟩
  rw [List.append_nil]
  exact List.forall_mem_cons.mpr ⟨⟨by decide, nf0⟩, List.forall_mem_cons.mpr ⟨⟨by decide, nf1⟩, (fun _ h => (by cases h))⟩⟩
def o_Sy_isWordAt_at_s5012_1 : or_T := (45, 10, [(0, (2, 0, 0, [11])), (2, (0, 0, 15, [])), (3, (0, 1, 16, [])), (4, (0, 0, 15, [])), (7, (0, 0, 2000, [])), (8, (0, 0, 2015, [])), (9, (0, -15, 2015, []))], [(2, [9, 8, 2], []), (1, [8, 7, 4], []), (9, [7, 0], [7]), (7, [4, 3], [2]), (20, [0, 3, 2], [30, 2000, 1, 1, 7, 1, 0, 0, -1, 0, 0]), (20, [2, 4], [30, 0, 1, 0, 0, -1, 0, 0])], [(9, (0, 0, 1999, []))], [], [], [], [(9, 8, -15, 0), (9, 4, -15, 2000), (9, 3, -4294967296, 1999), (9, 3, -4294967296, 2023), (9, 7, -15, 15), (8, 4, 0, 2000), (8, 3, -4294967296, 1999), (8, 3, -4294967296, 2023), (8, 7, 0, 15), (4, 3, -4294967296, -1), (2, 3, -4294967296, 23), (2, 4, -4294967296, 0), (3, 2, -4294967296, 16), (3, 4, -4294967296, 16), (4, 3, -4294967296, 23)])
theorem oo_Sy_isWordAt_at_s5012_1 {kA : Nat → ClassId} : or_ok kA GG o_Sy_isWordAt_at_s5012_1 := by
  intro A ta ws vs hD hth hl hk hds hf
  have hl : vs.length = 10 := hl
  have hk : ∀ q ∈ ([(0, (2, 0, 0, [11])), (2, (0, 0, 15, [])), (3, (0, 1, 16, [])), (4, (0, 0, 15, [])), (7, (0, 0, 2000, [])), (8, (0, 0, 2015, [])), (9, (0, -15, 2015, []))] : List (Nat × tv_T)), tv_ok ta q.2 (n_v vs q.1) := hk
  obtain ⟨t0, hk⟩ := List.forall_mem_cons.mp hk
  have t0 : tv_ok ta (2, 0, 0, [11]) (n_v vs 0) := t0
  have r0 : ta (v_ad (n_v vs 0)) = some 11 := tv_rg t0
  obtain ⟨t2, hk⟩ := List.forall_mem_cons.mp hk
  have t2 : tv_ok ta (0, 0, 15, []) (n_v vs 2) := t2
  have k2 : 0 ≤ v_iv (n_v vs 2) ∧ v_iv (n_v vs 2) ≤ 15 := tv_rng t2
  obtain ⟨t3, hk⟩ := List.forall_mem_cons.mp hk
  have t3 : tv_ok ta (0, 1, 16, []) (n_v vs 3) := t3
  have k3 : 1 ≤ v_iv (n_v vs 3) ∧ v_iv (n_v vs 3) ≤ 16 := tv_rng t3
  obtain ⟨t4, hk⟩ := List.forall_mem_cons.mp hk
  have t4 : tv_ok ta (0, 0, 15, []) (n_v vs 4) := t4
  have k4 : 0 ≤ v_iv (n_v vs 4) ∧ v_iv (n_v vs 4) ≤ 15 := tv_rng t4
  obtain ⟨t7, hk⟩ := List.forall_mem_cons.mp hk
  have t7 : tv_ok ta (0, 0, 2000, []) (n_v vs 7) := t7
  have k7 : 0 ≤ v_iv (n_v vs 7) ∧ v_iv (n_v vs 7) ≤ 2000 := tv_rng t7
  obtain ⟨t8, hk⟩ := List.forall_mem_cons.mp hk
  have t8 : tv_ok ta (0, 0, 2015, []) (n_v vs 8) := t8
  have k8 : 0 ≤ v_iv (n_v vs 8) ∧ v_iv (n_v vs 8) ≤ 2015 := tv_rng t8
  obtain ⟨t9, hk⟩ := List.forall_mem_cons.mp hk
  have t9 : tv_ok ta (0, -15, 2015, []) (n_v vs 9) := t9
  have k9 : (-15) ≤ v_iv (n_v vs 9) ∧ v_iv (n_v vs 9) ≤ 2015 := tv_rng t9
  have hds : ∀ q ∈ ([(9, 8, -15, 0), (9, 4, -15, 2000), (9, 3, -4294967296, 1999), (9, 3, -4294967296, 2023), (9, 7, -15, 15), (8, 4, 0, 2000), (8, 3, -4294967296, 1999), (8, 3, -4294967296, 2023), (8, 7, 0, 15), (4, 3, -4294967296, -1), (2, 3, -4294967296, 23), (2, 4, -4294967296, 0), (3, 2, -4294967296, 16), (3, 4, -4294967296, 16), (4, 3, -4294967296, 23)] : List of_T), n_iv vs q.2.1 + q.2.2.1 ≤ n_iv vs q.1 ∧ n_iv vs q.1 ≤ n_iv vs q.2.1 + q.2.2.2 := hds
  obtain ⟨d0, hds⟩ := List.forall_mem_cons.mp hds
  have d0 : v_iv (n_v vs 8) + (-15) ≤ v_iv (n_v vs 9) ∧ v_iv (n_v vs 9) ≤ v_iv (n_v vs 8) + 0 := d0
  obtain ⟨d1, hds⟩ := List.forall_mem_cons.mp hds
  have d1 : v_iv (n_v vs 4) + (-15) ≤ v_iv (n_v vs 9) ∧ v_iv (n_v vs 9) ≤ v_iv (n_v vs 4) + 2000 := d1
  obtain ⟨d2, hds⟩ := List.forall_mem_cons.mp hds
  have d2 : v_iv (n_v vs 3) + (-4294967296) ≤ v_iv (n_v vs 9) ∧ v_iv (n_v vs 9) ≤ v_iv (n_v vs 3) + 1999 := d2
  obtain ⟨d3, hds⟩ := List.forall_mem_cons.mp hds
  have d3 : v_iv (n_v vs 3) + (-4294967296) ≤ v_iv (n_v vs 9) ∧ v_iv (n_v vs 9) ≤ v_iv (n_v vs 3) + 2023 := d3
  obtain ⟨d4, hds⟩ := List.forall_mem_cons.mp hds
  have d4 : v_iv (n_v vs 7) + (-15) ≤ v_iv (n_v vs 9) ∧ v_iv (n_v vs 9) ≤ v_iv (n_v vs 7) + 15 := d4
  obtain ⟨d5, hds⟩ := List.forall_mem_cons.mp hds
  have d5 : v_iv (n_v vs 4) + 0 ≤ v_iv (n_v vs 8) ∧ v_iv (n_v vs 8) ≤ v_iv (n_v vs 4) + 2000 := d5
  obtain ⟨d6, hds⟩ := List.forall_mem_cons.mp hds
  have d6 : v_iv (n_v vs 3) + (-4294967296) ≤ v_iv (n_v vs 8) ∧ v_iv (n_v vs 8) ≤ v_iv (n_v vs 3) + 1999 := d6
  obtain ⟨d7, hds⟩ := List.forall_mem_cons.mp hds
  have d7 : v_iv (n_v vs 3) + (-4294967296) ≤ v_iv (n_v vs 8) ∧ v_iv (n_v vs 8) ≤ v_iv (n_v vs 3) + 2023 := d7
  obtain ⟨d8, hds⟩ := List.forall_mem_cons.mp hds
  have d8 : v_iv (n_v vs 7) + 0 ≤ v_iv (n_v vs 8) ∧ v_iv (n_v vs 8) ≤ v_iv (n_v vs 7) + 15 := d8
  obtain ⟨d9, hds⟩ := List.forall_mem_cons.mp hds
  have d9 : v_iv (n_v vs 3) + (-4294967296) ≤ v_iv (n_v vs 4) ∧ v_iv (n_v vs 4) ≤ v_iv (n_v vs 3) + (-1) := d9
  obtain ⟨d10, hds⟩ := List.forall_mem_cons.mp hds
  have d10 : v_iv (n_v vs 3) + (-4294967296) ≤ v_iv (n_v vs 2) ∧ v_iv (n_v vs 2) ≤ v_iv (n_v vs 3) + 23 := d10
  obtain ⟨d11, hds⟩ := List.forall_mem_cons.mp hds
  have d11 : v_iv (n_v vs 4) + (-4294967296) ≤ v_iv (n_v vs 2) ∧ v_iv (n_v vs 2) ≤ v_iv (n_v vs 4) + 0 := d11
  obtain ⟨d12, hds⟩ := List.forall_mem_cons.mp hds
  have d12 : v_iv (n_v vs 2) + (-4294967296) ≤ v_iv (n_v vs 3) ∧ v_iv (n_v vs 3) ≤ v_iv (n_v vs 2) + 16 := d12
  obtain ⟨d13, hds⟩ := List.forall_mem_cons.mp hds
  have d13 : v_iv (n_v vs 4) + (-4294967296) ≤ v_iv (n_v vs 3) ∧ v_iv (n_v vs 3) ≤ v_iv (n_v vs 4) + 16 := d13
  obtain ⟨d14, hds⟩ := List.forall_mem_cons.mp hds
  have d14 : v_iv (n_v vs 3) + (-4294967296) ≤ v_iv (n_v vs 4) ∧ v_iv (n_v vs 4) ≤ v_iv (n_v vs 3) + 23 := d14
  have hf : fc_ok [(2, [9, 8, 2], []), (1, [8, 7, 4], []), (9, [7, 0], [7]), (7, [4, 3], [2]), (20, [0, 3, 2], [30, 2000, 1, 1, 7, 1, 0, 0, -1, 0, 0]), (20, [2, 4], [30, 0, 1, 0, 0, -1, 0, 0])] ta ws vs := hf
  obtain ⟨f0, hf⟩ := fc_un (by decide) hf
  have f0 : v_iv (n_v vs 9) = v_iv (n_v vs 8) - v_iv (n_v vs 2) := f0
  obtain ⟨f1, hf⟩ := fc_un (by decide) hf
  have f1 : v_iv (n_v vs 8) = v_iv (n_v vs 7) + v_iv (n_v vs 4) := f1
  obtain ⟨f2, hf⟩ := fc_un (by decide) hf
  have f2 : n_v vs 7 = w_fd ws (v_ad (n_v vs 0)) 7 := f2
  obtain ⟨f3, hf⟩ := fc_un (by decide) hf
  have f3 : v_iv (n_v vs 4) < v_iv (n_v vs 3) := f3
  obtain ⟨f4, hf⟩ := fc_un (by decide) hf
  have f4 : 1 * w_fi ws (n_v vs 0) 7 + (1 * v_iv (n_v vs 3) + ((-1) * v_iv (n_v vs 2) + 0)) ≤ 2000 := f4
  obtain ⟨f5, hf⟩ := fc_un (by decide) hf
  have f5 : 1 * v_iv (n_v vs 2) + ((-1) * v_iv (n_v vs 4) + 0) ≤ 0 := f5
  have g2 : v_iv (n_v vs 7) = w_fi ws (n_v vs 0) 7 := congrArg v_iv f2
  have kz_0_7 : 0 ≤ w_fi ws (n_v vs 0) 7 ∧ w_fi ws (n_v vs 0) 7 ≤ 2000 := tv_rng (th_fd hD hth r0 (g := GG_11) rfl (k := 7) (t := (0, 0, 2000, [])) rfl rfl)
  have rf9 : tv_ok ta (0, 0, 1999, []) (n_v vs 9) := tv_in t9 (by omega) (by omega)
  refine ⟨List.forall_mem_cons.mpr ⟨rf9, (fun _ h => (by cases h))⟩, [], trivial, ?_, (fun _ h => (by cases h))⟩
  rw [List.append_nil]
  exact (fun _ h => (by cases h))
def o_Sy_isWordAt_at_s5012_2 : or_T := (20, 12, [(0, (2, 0, 0, [11])), (2, (0, 0, 15, [])), (3, (0, 1, 16, [])), (4, (0, 0, 15, [])), (7, (0, 0, 2000, [])), (8, (0, 0, 2015, [])), (9, (0, 0, 1999, [])), (11, (0, 1, 16, []))], [(6, [11, 4], [1]), (2, [9, 8, 2], []), (1, [8, 7, 4], []), (9, [7, 0], [7]), (7, [4, 3], [2]), (20, [0, 3, 2], [30, 2000, 1, 1, 7, 1, 0, 0, -1, 0, 0]), (20, [2, 4], [30, 0, 1, 0, 0, -1, 0, 0])], [], [], [(20, [2, 11], [30, 0, 1, 0, 0, -1, 0, 0])], [], [(11, 4, 1, 1), (11, 3, -4294967296, 0), (11, 3, -4294967296, 24), (9, 8, -15, 0), (9, 4, -15, 2000), (9, 3, -4294967296, 1999), (9, 3, -4294967296, 2023), (9, 7, -15, 15), (8, 4, 0, 2000), (8, 3, -4294967296, 1999), (8, 3, -4294967296, 2023), (8, 7, 0, 15), (4, 3, -4294967296, -1), (2, 3, -4294967296, 23), (2, 4, -4294967296, 0), (3, 2, -4294967296, 16), (3, 4, -4294967296, 16), (4, 3, -4294967296, 23)])
theorem oo_Sy_isWordAt_at_s5012_2 {kA : Nat → ClassId} : or_ok kA GG o_Sy_isWordAt_at_s5012_2 := by
  intro A ta ws vs hD hth hl hk hds hf
  have hl : vs.length = 12 := hl
  have hk : ∀ q ∈ ([(0, (2, 0, 0, [11])), (2, (0, 0, 15, [])), (3, (0, 1, 16, [])), (4, (0, 0, 15, [])), (7, (0, 0, 2000, [])), (8, (0, 0, 2015, [])), (9, (0, 0, 1999, [])), (11, (0, 1, 16, []))] : List (Nat × tv_T)), tv_ok ta q.2 (n_v vs q.1) := hk
  obtain ⟨t0, hk⟩ := List.forall_mem_cons.mp hk
  have t0 : tv_ok ta (2, 0, 0, [11]) (n_v vs 0) := t0
  have r0 : ta (v_ad (n_v vs 0)) = some 11 := tv_rg t0
  obtain ⟨t2, hk⟩ := List.forall_mem_cons.mp hk
  have t2 : tv_ok ta (0, 0, 15, []) (n_v vs 2) := t2
  have k2 : 0 ≤ v_iv (n_v vs 2) ∧ v_iv (n_v vs 2) ≤ 15 := tv_rng t2
  obtain ⟨t3, hk⟩ := List.forall_mem_cons.mp hk
  have t3 : tv_ok ta (0, 1, 16, []) (n_v vs 3) := t3
  have k3 : 1 ≤ v_iv (n_v vs 3) ∧ v_iv (n_v vs 3) ≤ 16 := tv_rng t3
  obtain ⟨t4, hk⟩ := List.forall_mem_cons.mp hk
  have t4 : tv_ok ta (0, 0, 15, []) (n_v vs 4) := t4
  have k4 : 0 ≤ v_iv (n_v vs 4) ∧ v_iv (n_v vs 4) ≤ 15 := tv_rng t4
  obtain ⟨t7, hk⟩ := List.forall_mem_cons.mp hk
  have t7 : tv_ok ta (0, 0, 2000, []) (n_v vs 7) := t7
  have k7 : 0 ≤ v_iv (n_v vs 7) ∧ v_iv (n_v vs 7) ≤ 2000 := tv_rng t7
  obtain ⟨t8, hk⟩ := List.forall_mem_cons.mp hk
  have t8 : tv_ok ta (0, 0, 2015, []) (n_v vs 8) := t8
  have k8 : 0 ≤ v_iv (n_v vs 8) ∧ v_iv (n_v vs 8) ≤ 2015 := tv_rng t8
  obtain ⟨t9, hk⟩ := List.forall_mem_cons.mp hk
  have t9 : tv_ok ta (0, 0, 1999, []) (n_v vs 9) := t9
  have k9 : 0 ≤ v_iv (n_v vs 9) ∧ v_iv (n_v vs 9) ≤ 1999 := tv_rng t9
  obtain ⟨t11, hk⟩ := List.forall_mem_cons.mp hk
  have t11 : tv_ok ta (0, 1, 16, []) (n_v vs 11) := t11
  have k11 : 1 ≤ v_iv (n_v vs 11) ∧ v_iv (n_v vs 11) ≤ 16 := tv_rng t11
  have hds : ∀ q ∈ ([(11, 4, 1, 1), (11, 3, -4294967296, 0), (11, 3, -4294967296, 24), (9, 8, -15, 0), (9, 4, -15, 2000), (9, 3, -4294967296, 1999), (9, 3, -4294967296, 2023), (9, 7, -15, 15), (8, 4, 0, 2000), (8, 3, -4294967296, 1999), (8, 3, -4294967296, 2023), (8, 7, 0, 15), (4, 3, -4294967296, -1), (2, 3, -4294967296, 23), (2, 4, -4294967296, 0), (3, 2, -4294967296, 16), (3, 4, -4294967296, 16), (4, 3, -4294967296, 23)] : List of_T), n_iv vs q.2.1 + q.2.2.1 ≤ n_iv vs q.1 ∧ n_iv vs q.1 ≤ n_iv vs q.2.1 + q.2.2.2 := hds
  obtain ⟨d0, hds⟩ := List.forall_mem_cons.mp hds
  have d0 : v_iv (n_v vs 4) + 1 ≤ v_iv (n_v vs 11) ∧ v_iv (n_v vs 11) ≤ v_iv (n_v vs 4) + 1 := d0
  obtain ⟨d1, hds⟩ := List.forall_mem_cons.mp hds
  have d1 : v_iv (n_v vs 3) + (-4294967296) ≤ v_iv (n_v vs 11) ∧ v_iv (n_v vs 11) ≤ v_iv (n_v vs 3) + 0 := d1
  obtain ⟨d2, hds⟩ := List.forall_mem_cons.mp hds
  have d2 : v_iv (n_v vs 3) + (-4294967296) ≤ v_iv (n_v vs 11) ∧ v_iv (n_v vs 11) ≤ v_iv (n_v vs 3) + 24 := d2
  obtain ⟨d3, hds⟩ := List.forall_mem_cons.mp hds
  have d3 : v_iv (n_v vs 8) + (-15) ≤ v_iv (n_v vs 9) ∧ v_iv (n_v vs 9) ≤ v_iv (n_v vs 8) + 0 := d3
  obtain ⟨d4, hds⟩ := List.forall_mem_cons.mp hds
  have d4 : v_iv (n_v vs 4) + (-15) ≤ v_iv (n_v vs 9) ∧ v_iv (n_v vs 9) ≤ v_iv (n_v vs 4) + 2000 := d4
  obtain ⟨d5, hds⟩ := List.forall_mem_cons.mp hds
  have d5 : v_iv (n_v vs 3) + (-4294967296) ≤ v_iv (n_v vs 9) ∧ v_iv (n_v vs 9) ≤ v_iv (n_v vs 3) + 1999 := d5
  obtain ⟨d6, hds⟩ := List.forall_mem_cons.mp hds
  have d6 : v_iv (n_v vs 3) + (-4294967296) ≤ v_iv (n_v vs 9) ∧ v_iv (n_v vs 9) ≤ v_iv (n_v vs 3) + 2023 := d6
  obtain ⟨d7, hds⟩ := List.forall_mem_cons.mp hds
  have d7 : v_iv (n_v vs 7) + (-15) ≤ v_iv (n_v vs 9) ∧ v_iv (n_v vs 9) ≤ v_iv (n_v vs 7) + 15 := d7
  obtain ⟨d8, hds⟩ := List.forall_mem_cons.mp hds
  have d8 : v_iv (n_v vs 4) + 0 ≤ v_iv (n_v vs 8) ∧ v_iv (n_v vs 8) ≤ v_iv (n_v vs 4) + 2000 := d8
  obtain ⟨d9, hds⟩ := List.forall_mem_cons.mp hds
  have d9 : v_iv (n_v vs 3) + (-4294967296) ≤ v_iv (n_v vs 8) ∧ v_iv (n_v vs 8) ≤ v_iv (n_v vs 3) + 1999 := d9
  obtain ⟨d10, hds⟩ := List.forall_mem_cons.mp hds
  have d10 : v_iv (n_v vs 3) + (-4294967296) ≤ v_iv (n_v vs 8) ∧ v_iv (n_v vs 8) ≤ v_iv (n_v vs 3) + 2023 := d10
  obtain ⟨d11, hds⟩ := List.forall_mem_cons.mp hds
  have d11 : v_iv (n_v vs 7) + 0 ≤ v_iv (n_v vs 8) ∧ v_iv (n_v vs 8) ≤ v_iv (n_v vs 7) + 15 := d11
  obtain ⟨d12, hds⟩ := List.forall_mem_cons.mp hds
  have d12 : v_iv (n_v vs 3) + (-4294967296) ≤ v_iv (n_v vs 4) ∧ v_iv (n_v vs 4) ≤ v_iv (n_v vs 3) + (-1) := d12
  obtain ⟨d13, hds⟩ := List.forall_mem_cons.mp hds
  have d13 : v_iv (n_v vs 3) + (-4294967296) ≤ v_iv (n_v vs 2) ∧ v_iv (n_v vs 2) ≤ v_iv (n_v vs 3) + 23 := d13
  obtain ⟨d14, hds⟩ := List.forall_mem_cons.mp hds
  have d14 : v_iv (n_v vs 4) + (-4294967296) ≤ v_iv (n_v vs 2) ∧ v_iv (n_v vs 2) ≤ v_iv (n_v vs 4) + 0 := d14
  obtain ⟨d15, hds⟩ := List.forall_mem_cons.mp hds
  have d15 : v_iv (n_v vs 2) + (-4294967296) ≤ v_iv (n_v vs 3) ∧ v_iv (n_v vs 3) ≤ v_iv (n_v vs 2) + 16 := d15
  obtain ⟨d16, hds⟩ := List.forall_mem_cons.mp hds
  have d16 : v_iv (n_v vs 4) + (-4294967296) ≤ v_iv (n_v vs 3) ∧ v_iv (n_v vs 3) ≤ v_iv (n_v vs 4) + 16 := d16
  obtain ⟨d17, hds⟩ := List.forall_mem_cons.mp hds
  have d17 : v_iv (n_v vs 3) + (-4294967296) ≤ v_iv (n_v vs 4) ∧ v_iv (n_v vs 4) ≤ v_iv (n_v vs 3) + 23 := d17
  have hf : fc_ok [(6, [11, 4], [1]), (2, [9, 8, 2], []), (1, [8, 7, 4], []), (9, [7, 0], [7]), (7, [4, 3], [2]), (20, [0, 3, 2], [30, 2000, 1, 1, 7, 1, 0, 0, -1, 0, 0]), (20, [2, 4], [30, 0, 1, 0, 0, -1, 0, 0])] ta ws vs := hf
  obtain ⟨f0, hf⟩ := fc_un (by decide) hf
  have f0 : v_iv (n_v vs 11) = v_iv (n_v vs 4) + 1 := f0
  obtain ⟨f1, hf⟩ := fc_un (by decide) hf
  have f1 : v_iv (n_v vs 9) = v_iv (n_v vs 8) - v_iv (n_v vs 2) := f1
  obtain ⟨f2, hf⟩ := fc_un (by decide) hf
  have f2 : v_iv (n_v vs 8) = v_iv (n_v vs 7) + v_iv (n_v vs 4) := f2
  obtain ⟨f3, hf⟩ := fc_un (by decide) hf
  have f3 : n_v vs 7 = w_fd ws (v_ad (n_v vs 0)) 7 := f3
  obtain ⟨f4, hf⟩ := fc_un (by decide) hf
  have f4 : v_iv (n_v vs 4) < v_iv (n_v vs 3) := f4
  obtain ⟨f5, hf⟩ := fc_un (by decide) hf
  have f5 : 1 * w_fi ws (n_v vs 0) 7 + (1 * v_iv (n_v vs 3) + ((-1) * v_iv (n_v vs 2) + 0)) ≤ 2000 := f5
  obtain ⟨f6, hf⟩ := fc_un (by decide) hf
  have f6 : 1 * v_iv (n_v vs 2) + ((-1) * v_iv (n_v vs 4) + 0) ≤ 0 := f6
  have g3 : v_iv (n_v vs 7) = w_fi ws (n_v vs 0) 7 := congrArg v_iv f3
  have kz_0_7 : 0 ≤ w_fi ws (n_v vs 0) 7 ∧ w_fi ws (n_v vs 0) 7 ≤ 2000 := tv_rng (th_fd hD hth r0 (g := GG_11) rfl (k := 7) (t := (0, 0, 2000, [])) rfl rfl)
  have nf0 : fc_1 (20, [2, 11], [30, 0, 1, 0, 0, -1, 0, 0]) ws (vs) := by
    refine ⟨fun n hn => ?_, ?_⟩
    · have hn : n ∈ [2, 11] := hn
      rw [hl]
      simp only [List.mem_cons, List.not_mem_nil, or_false] at hn
      show n < 12; omega
    · show 1 * v_iv (n_v vs 2) + ((-1) * v_iv (n_v vs 11) + 0) ≤ 0
      omega
  refine ⟨(fun _ h => (by cases h)), [], trivial, ?_, (fun _ h => (by cases h))⟩
  rw [List.append_nil]
  exact List.forall_mem_cons.mpr ⟨⟨by decide, nf0⟩, (fun _ h => (by cases h))⟩
def n_Sy_isWordAt_at_s5012_an : List an_T := [(20, [(0, (2, 0, 0, [11])), (1, (2, 0, 0, [5012])), (2, (0, 0, 23, [])), (3, (0, 0, 16, [])), (4, (0, 0, 23, []))], [], (0, 0), [(0, 0, 99980), (1, 4, 23), (0, 0, 100000)], [(2, 3, -1000000000000, 23), (2, 4, -1000000000000, 0), (3, 2, -1000000000000, 16), (3, 4, -1000000000000, 16), (4, 3, -1000000000000, 23)], [((0, 3), (2, 0, 0, [109]))], [], 0, [], [(20, [0, 3, 2], [30, 2000, 1, 1, 7, 1, 0, 0, -1, 0, 0]), (20, [2, 4], [30, 0, 1, 0, 0, -1, 0, 0])])]
def t_Sy_isWordAt_at_s5012_ct : ct_L := [(91, 104, e_jStr_charAt_v164)]
set_option maxRecDepth 100000 in
theorem c_Sy_isWordAt_at_s5012 {l : Launch} {D : va_G} {kA : Nat → ClassId} : ct_ok l D kA GG y_Sy_isWordAt_at_s5012 z_Sy_isWordAt_at_s5012 e_Sy_isWordAt_at_s5012 := chk_all_ok (FT := [(21, 11, 3), (28, 11, 5), (34, 11, 7)]) (PT := []) (CT := t_Sy_isWordAt_at_s5012_ct) (KT := []) (NT := []) (AN := n_Sy_isWordAt_at_s5012_an) (OT := [o_Sy_isWordAt_at_s5012_0, o_Sy_isWordAt_at_s5012_1, o_Sy_isWordAt_at_s5012_2]) 3 200 (List.forall_mem_cons.mpr ⟨oo_Sy_isWordAt_at_s5012_0, List.forall_mem_cons.mpr ⟨oo_Sy_isWordAt_at_s5012_1, List.forall_mem_cons.mpr ⟨oo_Sy_isWordAt_at_s5012_2, List.forall_mem_nil _⟩⟩⟩) (by decide +kernel) ⟨List.forall_mem_cons.mpr ⟨gf_Sy_21, List.forall_mem_cons.mpr ⟨gf_Sy_28, List.forall_mem_cons.mpr ⟨gf_Sy_34, List.forall_mem_nil _⟩⟩⟩, List.forall_mem_nil _, List.forall_mem_cons.mpr ⟨cl_string (y := y_jStr_charAt) (i := 12) rfl rfl (by decide +kernel) rfl c_jStr_charAt_v164 wm_684 wm_11 wm_2231 wm_682 wm_683 ⟨by decide, by decide, by decide +kernel⟩ (by decide), List.forall_mem_nil _⟩, List.forall_mem_nil _, List.forall_mem_nil _, GG_pl⟩ (by decide +kernel)
def o_Re_isWord_at_s5000_0 : or_T := (28, 9, [(0, (2, 0, 0, [8])), (4, (0, 4, 2000, [])), (5, (0, 0, 2000, [])), (6, (0, 4, 4, [])), (7, (0, 4, 4, []))], [(7, [6, 7], [0]), (2, [6, 4, 5], []), (9, [5, 0], [8]), (9, [4, 0], [6])], [], [], [(20, [0], [30, 1996, 1, 1, 8])], [], [(6, 4, -2000, 0)])
theorem oo_Re_isWord_at_s5000_0 {kA : Nat → ClassId} : or_ok kA GG o_Re_isWord_at_s5000_0 := by
  intro A ta ws vs hD hth hl hk hds hf
  have hl : vs.length = 9 := hl
  have hk : ∀ q ∈ ([(0, (2, 0, 0, [8])), (4, (0, 4, 2000, [])), (5, (0, 0, 2000, [])), (6, (0, 4, 4, [])), (7, (0, 4, 4, []))] : List (Nat × tv_T)), tv_ok ta q.2 (n_v vs q.1) := hk
  obtain ⟨t0, hk⟩ := List.forall_mem_cons.mp hk
  have t0 : tv_ok ta (2, 0, 0, [8]) (n_v vs 0) := t0
  have r0 : ta (v_ad (n_v vs 0)) = some 8 := tv_rg t0
  obtain ⟨t4, hk⟩ := List.forall_mem_cons.mp hk
  have t4 : tv_ok ta (0, 4, 2000, []) (n_v vs 4) := t4
  have k4 : 4 ≤ v_iv (n_v vs 4) ∧ v_iv (n_v vs 4) ≤ 2000 := tv_rng t4
  obtain ⟨t5, hk⟩ := List.forall_mem_cons.mp hk
  have t5 : tv_ok ta (0, 0, 2000, []) (n_v vs 5) := t5
  have k5 : 0 ≤ v_iv (n_v vs 5) ∧ v_iv (n_v vs 5) ≤ 2000 := tv_rng t5
  obtain ⟨t6, hk⟩ := List.forall_mem_cons.mp hk
  have t6 : tv_ok ta (0, 4, 4, []) (n_v vs 6) := t6
  have k6 : 4 ≤ v_iv (n_v vs 6) ∧ v_iv (n_v vs 6) ≤ 4 := tv_rng t6
  obtain ⟨t7, hk⟩ := List.forall_mem_cons.mp hk
  have t7 : tv_ok ta (0, 4, 4, []) (n_v vs 7) := t7
  have k7 : 4 ≤ v_iv (n_v vs 7) ∧ v_iv (n_v vs 7) ≤ 4 := tv_rng t7
  have hds : ∀ q ∈ ([(6, 4, -2000, 0)] : List of_T), n_iv vs q.2.1 + q.2.2.1 ≤ n_iv vs q.1 ∧ n_iv vs q.1 ≤ n_iv vs q.2.1 + q.2.2.2 := hds
  obtain ⟨d0, hds⟩ := List.forall_mem_cons.mp hds
  have d0 : v_iv (n_v vs 4) + (-2000) ≤ v_iv (n_v vs 6) ∧ v_iv (n_v vs 6) ≤ v_iv (n_v vs 4) + 0 := d0
  have hf : fc_ok [(7, [6, 7], [0]), (2, [6, 4, 5], []), (9, [5, 0], [8]), (9, [4, 0], [6])] ta ws vs := hf
  obtain ⟨f0, hf⟩ := fc_un (by decide) hf
  have f0 : v_iv (n_v vs 6) = v_iv (n_v vs 7) := f0
  obtain ⟨f1, hf⟩ := fc_un (by decide) hf
  have f1 : v_iv (n_v vs 6) = v_iv (n_v vs 4) - v_iv (n_v vs 5) := f1
  obtain ⟨f2, hf⟩ := fc_un (by decide) hf
  have f2 : n_v vs 5 = w_fd ws (v_ad (n_v vs 0)) 8 := f2
  obtain ⟨f3, hf⟩ := fc_un (by decide) hf
  have f3 : n_v vs 4 = w_fd ws (v_ad (n_v vs 0)) 6 := f3
  have g2 : v_iv (n_v vs 5) = w_fi ws (n_v vs 0) 8 := congrArg v_iv f2
  have g3 : v_iv (n_v vs 4) = w_fi ws (n_v vs 0) 6 := congrArg v_iv f3
  have kz_0_6 : 0 ≤ w_fi ws (n_v vs 0) 6 ∧ w_fi ws (n_v vs 0) 6 ≤ 2000 := tv_rng (th_fd hD hth r0 (g := GG_8) rfl (k := 6) (t := (0, 0, 2000, [])) rfl rfl)
  have kz_0_8 : 0 ≤ w_fi ws (n_v vs 0) 8 ∧ w_fi ws (n_v vs 0) 8 ≤ 2000 := tv_rng (th_fd hD hth r0 (g := GG_8) rfl (k := 8) (t := (0, 0, 2000, [])) rfl rfl)
  have nf0 : fc_1 (20, [0], [30, 1996, 1, 1, 8]) ws (vs) := by
    refine ⟨fun n hn => ?_, ?_⟩
    · have hn : n ∈ [0] := hn
      rw [hl]
      simp only [List.mem_cons, List.not_mem_nil, or_false] at hn
      show n < 9; omega
    · show 1 * w_fi ws (n_v vs 0) 8 + 0 ≤ 1996
      omega
  refine ⟨(fun _ h => (by cases h)), [], trivial, ?_, (fun _ h => (by cases h))⟩
  rw [List.append_nil]
  exact List.forall_mem_cons.mpr ⟨⟨by decide, nf0⟩, (fun _ h => (by cases h))⟩
def o_Re_isWord_at_s5000_1 : or_T := (46, 7, [(0, (2, 0, 0, [8])), (2, (0, 0, 3, [])), (3, (0, 4, 4, [])), (5, (0, 0, 2000, [])), (6, (0, 0, 2003, []))], [(1, [6, 5, 2], []), (9, [5, 0], [8]), (7, [2, 3], [2]), (20, [0], [30, 1996, 1, 1, 8])], [(6, (0, 0, 1999, []))], [], [], [], [(6, 2, 0, 2000), (6, 5, 0, 3)])
theorem oo_Re_isWord_at_s5000_1 {kA : Nat → ClassId} : or_ok kA GG o_Re_isWord_at_s5000_1 := by
  intro A ta ws vs hD hth hl hk hds hf
  have hl : vs.length = 7 := hl
  have hk : ∀ q ∈ ([(0, (2, 0, 0, [8])), (2, (0, 0, 3, [])), (3, (0, 4, 4, [])), (5, (0, 0, 2000, [])), (6, (0, 0, 2003, []))] : List (Nat × tv_T)), tv_ok ta q.2 (n_v vs q.1) := hk
  obtain ⟨t0, hk⟩ := List.forall_mem_cons.mp hk
  have t0 : tv_ok ta (2, 0, 0, [8]) (n_v vs 0) := t0
  have r0 : ta (v_ad (n_v vs 0)) = some 8 := tv_rg t0
  obtain ⟨t2, hk⟩ := List.forall_mem_cons.mp hk
  have t2 : tv_ok ta (0, 0, 3, []) (n_v vs 2) := t2
  have k2 : 0 ≤ v_iv (n_v vs 2) ∧ v_iv (n_v vs 2) ≤ 3 := tv_rng t2
  obtain ⟨t3, hk⟩ := List.forall_mem_cons.mp hk
  have t3 : tv_ok ta (0, 4, 4, []) (n_v vs 3) := t3
  have k3 : 4 ≤ v_iv (n_v vs 3) ∧ v_iv (n_v vs 3) ≤ 4 := tv_rng t3
  obtain ⟨t5, hk⟩ := List.forall_mem_cons.mp hk
  have t5 : tv_ok ta (0, 0, 2000, []) (n_v vs 5) := t5
  have k5 : 0 ≤ v_iv (n_v vs 5) ∧ v_iv (n_v vs 5) ≤ 2000 := tv_rng t5
  obtain ⟨t6, hk⟩ := List.forall_mem_cons.mp hk
  have t6 : tv_ok ta (0, 0, 2003, []) (n_v vs 6) := t6
  have k6 : 0 ≤ v_iv (n_v vs 6) ∧ v_iv (n_v vs 6) ≤ 2003 := tv_rng t6
  have hds : ∀ q ∈ ([(6, 2, 0, 2000), (6, 5, 0, 3)] : List of_T), n_iv vs q.2.1 + q.2.2.1 ≤ n_iv vs q.1 ∧ n_iv vs q.1 ≤ n_iv vs q.2.1 + q.2.2.2 := hds
  obtain ⟨d0, hds⟩ := List.forall_mem_cons.mp hds
  have d0 : v_iv (n_v vs 2) + 0 ≤ v_iv (n_v vs 6) ∧ v_iv (n_v vs 6) ≤ v_iv (n_v vs 2) + 2000 := d0
  obtain ⟨d1, hds⟩ := List.forall_mem_cons.mp hds
  have d1 : v_iv (n_v vs 5) + 0 ≤ v_iv (n_v vs 6) ∧ v_iv (n_v vs 6) ≤ v_iv (n_v vs 5) + 3 := d1
  have hf : fc_ok [(1, [6, 5, 2], []), (9, [5, 0], [8]), (7, [2, 3], [2]), (20, [0], [30, 1996, 1, 1, 8])] ta ws vs := hf
  obtain ⟨f0, hf⟩ := fc_un (by decide) hf
  have f0 : v_iv (n_v vs 6) = v_iv (n_v vs 5) + v_iv (n_v vs 2) := f0
  obtain ⟨f1, hf⟩ := fc_un (by decide) hf
  have f1 : n_v vs 5 = w_fd ws (v_ad (n_v vs 0)) 8 := f1
  obtain ⟨f2, hf⟩ := fc_un (by decide) hf
  have f2 : v_iv (n_v vs 2) < v_iv (n_v vs 3) := f2
  obtain ⟨f3, hf⟩ := fc_un (by decide) hf
  have f3 : 1 * w_fi ws (n_v vs 0) 8 + 0 ≤ 1996 := f3
  have g1 : v_iv (n_v vs 5) = w_fi ws (n_v vs 0) 8 := congrArg v_iv f1
  have kz_0_8 : 0 ≤ w_fi ws (n_v vs 0) 8 ∧ w_fi ws (n_v vs 0) 8 ≤ 2000 := tv_rng (th_fd hD hth r0 (g := GG_8) rfl (k := 8) (t := (0, 0, 2000, [])) rfl rfl)
  have rf6 : tv_ok ta (0, 0, 1999, []) (n_v vs 6) := tv_in t6 (by omega) (by omega)
  refine ⟨List.forall_mem_cons.mpr ⟨rf6, (fun _ h => (by cases h))⟩, [], trivial, ?_, (fun _ h => (by cases h))⟩
  rw [List.append_nil]
  exact (fun _ h => (by cases h))
def n_Re_isWord_at_s5000_an : List an_T := [(28, [(0, (2, 0, 0, [8])), (1, (2, 0, 0, [5000])), (2, (0, 0, 4, []))], [], (0, 0), [(0, 0, 99972), (1, 2, 4), (0, 0, 100000)], [], [], [], 0, [], [(20, [0], [30, 1996, 1, 1, 8])])]
def t_Re_isWord_at_s5000_ct : ct_L := [(58, 84, e_jStr_length_v168), (94, 84, e_jStr_length_v168), (151, 89, e_jStr_charAt_v170)]
set_option maxRecDepth 100000 in
theorem c_Re_isWord_at_s5000 {l : Launch} {D : va_G} {kA : Nat → ClassId} : ct_ok l D kA GG y_Re_isWord_at_s5000 z_Re_isWord_at_s5000 e_Re_isWord_at_s5000 := chk_all_ok (FT := [(9, 8, 0), (35, 8, 6), (38, 8, 7), (41, 8, 8)]) (PT := []) (CT := t_Re_isWord_at_s5000_ct) (KT := []) (NT := []) (AN := n_Re_isWord_at_s5000_an) (OT := [o_Re_isWord_at_s5000_0, o_Re_isWord_at_s5000_1]) 3 200 (List.forall_mem_cons.mpr ⟨oo_Re_isWord_at_s5000_0, List.forall_mem_cons.mpr ⟨oo_Re_isWord_at_s5000_1, List.forall_mem_nil _⟩⟩) (by decide +kernel) ⟨List.forall_mem_cons.mpr ⟨gf_Re_9, List.forall_mem_cons.mpr ⟨gf_Re_35, List.forall_mem_cons.mpr ⟨gf_Re_38, List.forall_mem_cons.mpr ⟨gf_Re_41, List.forall_mem_nil _⟩⟩⟩⟩, List.forall_mem_nil _, List.forall_mem_cons.mpr ⟨cl_string (y := y_jStr_length) (i := 0) rfl rfl (by decide +kernel) rfl c_jStr_length_v168 wm_674 wm_11 wm_671 wm_672 wm_673 ⟨by decide, by decide, by decide +kernel⟩ (by decide), List.forall_mem_cons.mpr ⟨cl_string (y := y_jStr_length) (i := 0) rfl rfl (by decide +kernel) rfl c_jStr_length_v168 wm_674 wm_11 wm_671 wm_672 wm_673 ⟨by decide, by decide, by decide +kernel⟩ (by decide), List.forall_mem_cons.mpr ⟨cl_string (y := y_jStr_charAt) (i := 0) rfl rfl (by decide +kernel) rfl c_jStr_charAt_v170 wm_684 wm_11 wm_681 wm_682 wm_683 ⟨by decide, by decide, by decide +kernel⟩ (by decide), List.forall_mem_nil _⟩⟩⟩, List.forall_mem_nil _, List.forall_mem_nil _, GG_pl⟩ (by decide +kernel)
def o_Re_isWord_at_s5001_0 : or_T := (28, 9, [(0, (2, 0, 0, [8])), (4, (0, 5, 2000, [])), (5, (0, 0, 2000, [])), (6, (0, 5, 5, [])), (7, (0, 5, 5, []))], [(7, [6, 7], [0]), (2, [6, 4, 5], []), (9, [5, 0], [8]), (9, [4, 0], [6])], [], [], [(20, [0], [30, 1995, 1, 1, 8])], [], [(6, 4, -2000, 0)])
theorem oo_Re_isWord_at_s5001_0 {kA : Nat → ClassId} : or_ok kA GG o_Re_isWord_at_s5001_0 := by
  intro A ta ws vs hD hth hl hk hds hf
  have hl : vs.length = 9 := hl
  have hk : ∀ q ∈ ([(0, (2, 0, 0, [8])), (4, (0, 5, 2000, [])), (5, (0, 0, 2000, [])), (6, (0, 5, 5, [])), (7, (0, 5, 5, []))] : List (Nat × tv_T)), tv_ok ta q.2 (n_v vs q.1) := hk
  obtain ⟨t0, hk⟩ := List.forall_mem_cons.mp hk
  have t0 : tv_ok ta (2, 0, 0, [8]) (n_v vs 0) := t0
  have r0 : ta (v_ad (n_v vs 0)) = some 8 := tv_rg t0
  obtain ⟨t4, hk⟩ := List.forall_mem_cons.mp hk
  have t4 : tv_ok ta (0, 5, 2000, []) (n_v vs 4) := t4
  have k4 : 5 ≤ v_iv (n_v vs 4) ∧ v_iv (n_v vs 4) ≤ 2000 := tv_rng t4
  obtain ⟨t5, hk⟩ := List.forall_mem_cons.mp hk
  have t5 : tv_ok ta (0, 0, 2000, []) (n_v vs 5) := t5
  have k5 : 0 ≤ v_iv (n_v vs 5) ∧ v_iv (n_v vs 5) ≤ 2000 := tv_rng t5
  obtain ⟨t6, hk⟩ := List.forall_mem_cons.mp hk
  have t6 : tv_ok ta (0, 5, 5, []) (n_v vs 6) := t6
  have k6 : 5 ≤ v_iv (n_v vs 6) ∧ v_iv (n_v vs 6) ≤ 5 := tv_rng t6
  obtain ⟨t7, hk⟩ := List.forall_mem_cons.mp hk
  have t7 : tv_ok ta (0, 5, 5, []) (n_v vs 7) := t7
  have k7 : 5 ≤ v_iv (n_v vs 7) ∧ v_iv (n_v vs 7) ≤ 5 := tv_rng t7
  have hds : ∀ q ∈ ([(6, 4, -2000, 0)] : List of_T), n_iv vs q.2.1 + q.2.2.1 ≤ n_iv vs q.1 ∧ n_iv vs q.1 ≤ n_iv vs q.2.1 + q.2.2.2 := hds
  obtain ⟨d0, hds⟩ := List.forall_mem_cons.mp hds
  have d0 : v_iv (n_v vs 4) + (-2000) ≤ v_iv (n_v vs 6) ∧ v_iv (n_v vs 6) ≤ v_iv (n_v vs 4) + 0 := d0
  have hf : fc_ok [(7, [6, 7], [0]), (2, [6, 4, 5], []), (9, [5, 0], [8]), (9, [4, 0], [6])] ta ws vs := hf
  obtain ⟨f0, hf⟩ := fc_un (by decide) hf
  have f0 : v_iv (n_v vs 6) = v_iv (n_v vs 7) := f0
  obtain ⟨f1, hf⟩ := fc_un (by decide) hf
  have f1 : v_iv (n_v vs 6) = v_iv (n_v vs 4) - v_iv (n_v vs 5) := f1
  obtain ⟨f2, hf⟩ := fc_un (by decide) hf
  have f2 : n_v vs 5 = w_fd ws (v_ad (n_v vs 0)) 8 := f2
  obtain ⟨f3, hf⟩ := fc_un (by decide) hf
  have f3 : n_v vs 4 = w_fd ws (v_ad (n_v vs 0)) 6 := f3
  have g2 : v_iv (n_v vs 5) = w_fi ws (n_v vs 0) 8 := congrArg v_iv f2
  have g3 : v_iv (n_v vs 4) = w_fi ws (n_v vs 0) 6 := congrArg v_iv f3
  have kz_0_6 : 0 ≤ w_fi ws (n_v vs 0) 6 ∧ w_fi ws (n_v vs 0) 6 ≤ 2000 := tv_rng (th_fd hD hth r0 (g := GG_8) rfl (k := 6) (t := (0, 0, 2000, [])) rfl rfl)
  have kz_0_8 : 0 ≤ w_fi ws (n_v vs 0) 8 ∧ w_fi ws (n_v vs 0) 8 ≤ 2000 := tv_rng (th_fd hD hth r0 (g := GG_8) rfl (k := 8) (t := (0, 0, 2000, [])) rfl rfl)
  have nf0 : fc_1 (20, [0], [30, 1995, 1, 1, 8]) ws (vs) := by
    refine ⟨fun n hn => ?_, ?_⟩
    · have hn : n ∈ [0] := hn
      rw [hl]
      simp only [List.mem_cons, List.not_mem_nil, or_false] at hn
      show n < 9; omega
    · show 1 * w_fi ws (n_v vs 0) 8 + 0 ≤ 1995
      omega
  refine ⟨(fun _ h => (by cases h)), [], trivial, ?_, (fun _ h => (by cases h))⟩
  rw [List.append_nil]
  exact List.forall_mem_cons.mpr ⟨⟨by decide, nf0⟩, (fun _ h => (by cases h))⟩
def o_Re_isWord_at_s5001_1 : or_T := (46, 7, [(0, (2, 0, 0, [8])), (2, (0, 0, 4, [])), (3, (0, 5, 5, [])), (5, (0, 0, 2000, [])), (6, (0, 0, 2004, []))], [(1, [6, 5, 2], []), (9, [5, 0], [8]), (7, [2, 3], [2]), (20, [0], [30, 1995, 1, 1, 8])], [(6, (0, 0, 1999, []))], [], [], [], [(6, 2, 0, 2000), (6, 5, 0, 4)])
theorem oo_Re_isWord_at_s5001_1 {kA : Nat → ClassId} : or_ok kA GG o_Re_isWord_at_s5001_1 := by
  intro A ta ws vs hD hth hl hk hds hf
  have hl : vs.length = 7 := hl
  have hk : ∀ q ∈ ([(0, (2, 0, 0, [8])), (2, (0, 0, 4, [])), (3, (0, 5, 5, [])), (5, (0, 0, 2000, [])), (6, (0, 0, 2004, []))] : List (Nat × tv_T)), tv_ok ta q.2 (n_v vs q.1) := hk
  obtain ⟨t0, hk⟩ := List.forall_mem_cons.mp hk
  have t0 : tv_ok ta (2, 0, 0, [8]) (n_v vs 0) := t0
  have r0 : ta (v_ad (n_v vs 0)) = some 8 := tv_rg t0
  obtain ⟨t2, hk⟩ := List.forall_mem_cons.mp hk
  have t2 : tv_ok ta (0, 0, 4, []) (n_v vs 2) := t2
  have k2 : 0 ≤ v_iv (n_v vs 2) ∧ v_iv (n_v vs 2) ≤ 4 := tv_rng t2
  obtain ⟨t3, hk⟩ := List.forall_mem_cons.mp hk
  have t3 : tv_ok ta (0, 5, 5, []) (n_v vs 3) := t3
  have k3 : 5 ≤ v_iv (n_v vs 3) ∧ v_iv (n_v vs 3) ≤ 5 := tv_rng t3
  obtain ⟨t5, hk⟩ := List.forall_mem_cons.mp hk
  have t5 : tv_ok ta (0, 0, 2000, []) (n_v vs 5) := t5
  have k5 : 0 ≤ v_iv (n_v vs 5) ∧ v_iv (n_v vs 5) ≤ 2000 := tv_rng t5
  obtain ⟨t6, hk⟩ := List.forall_mem_cons.mp hk
  have t6 : tv_ok ta (0, 0, 2004, []) (n_v vs 6) := t6
  have k6 : 0 ≤ v_iv (n_v vs 6) ∧ v_iv (n_v vs 6) ≤ 2004 := tv_rng t6
  have hds : ∀ q ∈ ([(6, 2, 0, 2000), (6, 5, 0, 4)] : List of_T), n_iv vs q.2.1 + q.2.2.1 ≤ n_iv vs q.1 ∧ n_iv vs q.1 ≤ n_iv vs q.2.1 + q.2.2.2 := hds
  obtain ⟨d0, hds⟩ := List.forall_mem_cons.mp hds
  have d0 : v_iv (n_v vs 2) + 0 ≤ v_iv (n_v vs 6) ∧ v_iv (n_v vs 6) ≤ v_iv (n_v vs 2) + 2000 := d0
  obtain ⟨d1, hds⟩ := List.forall_mem_cons.mp hds
  have d1 : v_iv (n_v vs 5) + 0 ≤ v_iv (n_v vs 6) ∧ v_iv (n_v vs 6) ≤ v_iv (n_v vs 5) + 4 := d1
  have hf : fc_ok [(1, [6, 5, 2], []), (9, [5, 0], [8]), (7, [2, 3], [2]), (20, [0], [30, 1995, 1, 1, 8])] ta ws vs := hf
  obtain ⟨f0, hf⟩ := fc_un (by decide) hf
  have f0 : v_iv (n_v vs 6) = v_iv (n_v vs 5) + v_iv (n_v vs 2) := f0
  obtain ⟨f1, hf⟩ := fc_un (by decide) hf
  have f1 : n_v vs 5 = w_fd ws (v_ad (n_v vs 0)) 8 := f1
  obtain ⟨f2, hf⟩ := fc_un (by decide) hf
  have f2 : v_iv (n_v vs 2) < v_iv (n_v vs 3) := f2
  obtain ⟨f3, hf⟩ := fc_un (by decide) hf
  have f3 : 1 * w_fi ws (n_v vs 0) 8 + 0 ≤ 1995 := f3
  have g1 : v_iv (n_v vs 5) = w_fi ws (n_v vs 0) 8 := congrArg v_iv f1
  have kz_0_8 : 0 ≤ w_fi ws (n_v vs 0) 8 ∧ w_fi ws (n_v vs 0) 8 ≤ 2000 := tv_rng (th_fd hD hth r0 (g := GG_8) rfl (k := 8) (t := (0, 0, 2000, [])) rfl rfl)
  have rf6 : tv_ok ta (0, 0, 1999, []) (n_v vs 6) := tv_in t6 (by omega) (by omega)
  refine ⟨List.forall_mem_cons.mpr ⟨rf6, (fun _ h => (by cases h))⟩, [], trivial, ?_, (fun _ h => (by cases h))⟩
  rw [List.append_nil]
  exact (fun _ h => (by cases h))
def n_Re_isWord_at_s5001_an : List an_T := [(28, [(0, (2, 0, 0, [8])), (1, (2, 0, 0, [5001])), (2, (0, 0, 5, []))], [], (0, 0), [(0, 0, 99972), (1, 2, 5), (0, 0, 100000)], [], [], [], 0, [], [(20, [0], [30, 1995, 1, 1, 8])])]
def t_Re_isWord_at_s5001_ct : ct_L := [(58, 84, e_jStr_length_v172), (94, 84, e_jStr_length_v172), (151, 89, e_jStr_charAt_v173)]
set_option maxRecDepth 100000 in
theorem c_Re_isWord_at_s5001 {l : Launch} {D : va_G} {kA : Nat → ClassId} : ct_ok l D kA GG y_Re_isWord_at_s5001 z_Re_isWord_at_s5001 e_Re_isWord_at_s5001 := chk_all_ok (FT := [(9, 8, 0), (35, 8, 6), (38, 8, 7), (41, 8, 8)]) (PT := []) (CT := t_Re_isWord_at_s5001_ct) (KT := []) (NT := []) (AN := n_Re_isWord_at_s5001_an) (OT := [o_Re_isWord_at_s5001_0, o_Re_isWord_at_s5001_1]) 3 200 (List.forall_mem_cons.mpr ⟨oo_Re_isWord_at_s5001_0, List.forall_mem_cons.mpr ⟨oo_Re_isWord_at_s5001_1, List.forall_mem_nil _⟩⟩) (by decide +kernel) ⟨List.forall_mem_cons.mpr ⟨gf_Re_9, List.forall_mem_cons.mpr ⟨gf_Re_35, List.forall_mem_cons.mpr ⟨gf_Re_38, List.forall_mem_cons.mpr ⟨gf_Re_41, List.forall_mem_nil _⟩⟩⟩⟩, List.forall_mem_nil _, List.forall_mem_cons.mpr ⟨cl_string (y := y_jStr_length) (i := 1) rfl rfl (by decide +kernel) rfl c_jStr_length_v172 wm_674 wm_11 wm_671 wm_672 wm_673 ⟨by decide, by decide, by decide +kernel⟩ (by decide), List.forall_mem_cons.mpr ⟨cl_string (y := y_jStr_length) (i := 1) rfl rfl (by decide +kernel) rfl c_jStr_length_v172 wm_674 wm_11 wm_671 wm_672 wm_673 ⟨by decide, by decide, by decide +kernel⟩ (by decide), List.forall_mem_cons.mpr ⟨cl_string (y := y_jStr_charAt) (i := 1) rfl rfl (by decide +kernel) rfl c_jStr_charAt_v173 wm_684 wm_11 wm_681 wm_682 wm_683 ⟨by decide, by decide, by decide +kernel⟩ (by decide), List.forall_mem_nil _⟩⟩⟩, List.forall_mem_nil _, List.forall_mem_nil _, GG_pl⟩ (by decide +kernel)
def o_Re_isWord_at_s5002_0 : or_T := (28, 9, [(0, (2, 0, 0, [8])), (4, (0, 4, 2000, [])), (5, (0, 0, 2000, [])), (6, (0, 4, 4, [])), (7, (0, 4, 4, []))], [(7, [6, 7], [0]), (2, [6, 4, 5], []), (9, [5, 0], [8]), (9, [4, 0], [6])], [], [], [(20, [0], [30, 1996, 1, 1, 8])], [], [(6, 4, -2000, 0)])
theorem oo_Re_isWord_at_s5002_0 {kA : Nat → ClassId} : or_ok kA GG o_Re_isWord_at_s5002_0 := by
  intro A ta ws vs hD hth hl hk hds hf
  have hl : vs.length = 9 := hl
  have hk : ∀ q ∈ ([(0, (2, 0, 0, [8])), (4, (0, 4, 2000, [])), (5, (0, 0, 2000, [])), (6, (0, 4, 4, [])), (7, (0, 4, 4, []))] : List (Nat × tv_T)), tv_ok ta q.2 (n_v vs q.1) := hk
  obtain ⟨t0, hk⟩ := List.forall_mem_cons.mp hk
  have t0 : tv_ok ta (2, 0, 0, [8]) (n_v vs 0) := t0
  have r0 : ta (v_ad (n_v vs 0)) = some 8 := tv_rg t0
  obtain ⟨t4, hk⟩ := List.forall_mem_cons.mp hk
  have t4 : tv_ok ta (0, 4, 2000, []) (n_v vs 4) := t4
  have k4 : 4 ≤ v_iv (n_v vs 4) ∧ v_iv (n_v vs 4) ≤ 2000 := tv_rng t4
  obtain ⟨t5, hk⟩ := List.forall_mem_cons.mp hk
  have t5 : tv_ok ta (0, 0, 2000, []) (n_v vs 5) := t5
  have k5 : 0 ≤ v_iv (n_v vs 5) ∧ v_iv (n_v vs 5) ≤ 2000 := tv_rng t5
  obtain ⟨t6, hk⟩ := List.forall_mem_cons.mp hk
  have t6 : tv_ok ta (0, 4, 4, []) (n_v vs 6) := t6
  have k6 : 4 ≤ v_iv (n_v vs 6) ∧ v_iv (n_v vs 6) ≤ 4 := tv_rng t6
  obtain ⟨t7, hk⟩ := List.forall_mem_cons.mp hk
  have t7 : tv_ok ta (0, 4, 4, []) (n_v vs 7) := t7
  have k7 : 4 ≤ v_iv (n_v vs 7) ∧ v_iv (n_v vs 7) ≤ 4 := tv_rng t7
  have hds : ∀ q ∈ ([(6, 4, -2000, 0)] : List of_T), n_iv vs q.2.1 + q.2.2.1 ≤ n_iv vs q.1 ∧ n_iv vs q.1 ≤ n_iv vs q.2.1 + q.2.2.2 := hds
  obtain ⟨d0, hds⟩ := List.forall_mem_cons.mp hds
  have d0 : v_iv (n_v vs 4) + (-2000) ≤ v_iv (n_v vs 6) ∧ v_iv (n_v vs 6) ≤ v_iv (n_v vs 4) + 0 := d0
  have hf : fc_ok [(7, [6, 7], [0]), (2, [6, 4, 5], []), (9, [5, 0], [8]), (9, [4, 0], [6])] ta ws vs := hf
  obtain ⟨f0, hf⟩ := fc_un (by decide) hf
  have f0 : v_iv (n_v vs 6) = v_iv (n_v vs 7) := f0
  obtain ⟨f1, hf⟩ := fc_un (by decide) hf
  have f1 : v_iv (n_v vs 6) = v_iv (n_v vs 4) - v_iv (n_v vs 5) := f1
  obtain ⟨f2, hf⟩ := fc_un (by decide) hf
  have f2 : n_v vs 5 = w_fd ws (v_ad (n_v vs 0)) 8 := f2
  obtain ⟨f3, hf⟩ := fc_un (by decide) hf
  have f3 : n_v vs 4 = w_fd ws (v_ad (n_v vs 0)) 6 := f3
  have g2 : v_iv (n_v vs 5) = w_fi ws (n_v vs 0) 8 := congrArg v_iv f2
  have g3 : v_iv (n_v vs 4) = w_fi ws (n_v vs 0) 6 := congrArg v_iv f3
  have kz_0_6 : 0 ≤ w_fi ws (n_v vs 0) 6 ∧ w_fi ws (n_v vs 0) 6 ≤ 2000 := tv_rng (th_fd hD hth r0 (g := GG_8) rfl (k := 6) (t := (0, 0, 2000, [])) rfl rfl)
  have kz_0_8 : 0 ≤ w_fi ws (n_v vs 0) 8 ∧ w_fi ws (n_v vs 0) 8 ≤ 2000 := tv_rng (th_fd hD hth r0 (g := GG_8) rfl (k := 8) (t := (0, 0, 2000, [])) rfl rfl)
  have nf0 : fc_1 (20, [0], [30, 1996, 1, 1, 8]) ws (vs) := by
    refine ⟨fun n hn => ?_, ?_⟩
    · have hn : n ∈ [0] := hn
      rw [hl]
      simp only [List.mem_cons, List.not_mem_nil, or_false] at hn
      show n < 9; omega
    · show 1 * w_fi ws (n_v vs 0) 8 + 0 ≤ 1996
      omega
  refine ⟨(fun _ h => (by cases h)), [], trivial, ?_, (fun _ h => (by cases h))⟩
  rw [List.append_nil]
  exact List.forall_mem_cons.mpr ⟨⟨by decide, nf0⟩, (fun _ h => (by cases h))⟩
def o_Re_isWord_at_s5002_1 : or_T := (46, 7, [(0, (2, 0, 0, [8])), (2, (0, 0, 3, [])), (3, (0, 4, 4, [])), (5, (0, 0, 2000, [])), (6, (0, 0, 2003, []))], [(1, [6, 5, 2], []), (9, [5, 0], [8]), (7, [2, 3], [2]), (20, [0], [30, 1996, 1, 1, 8])], [(6, (0, 0, 1999, []))], [], [], [], [(6, 2, 0, 2000), (6, 5, 0, 3)])
theorem oo_Re_isWord_at_s5002_1 {kA : Nat → ClassId} : or_ok kA GG o_Re_isWord_at_s5002_1 := by
  intro A ta ws vs hD hth hl hk hds hf
  have hl : vs.length = 7 := hl
  have hk : ∀ q ∈ ([(0, (2, 0, 0, [8])), (2, (0, 0, 3, [])), (3, (0, 4, 4, [])), (5, (0, 0, 2000, [])), (6, (0, 0, 2003, []))] : List (Nat × tv_T)), tv_ok ta q.2 (n_v vs q.1) := hk
  obtain ⟨t0, hk⟩ := List.forall_mem_cons.mp hk
  have t0 : tv_ok ta (2, 0, 0, [8]) (n_v vs 0) := t0
  have r0 : ta (v_ad (n_v vs 0)) = some 8 := tv_rg t0
  obtain ⟨t2, hk⟩ := List.forall_mem_cons.mp hk
  have t2 : tv_ok ta (0, 0, 3, []) (n_v vs 2) := t2
  have k2 : 0 ≤ v_iv (n_v vs 2) ∧ v_iv (n_v vs 2) ≤ 3 := tv_rng t2
  obtain ⟨t3, hk⟩ := List.forall_mem_cons.mp hk
  have t3 : tv_ok ta (0, 4, 4, []) (n_v vs 3) := t3
  have k3 : 4 ≤ v_iv (n_v vs 3) ∧ v_iv (n_v vs 3) ≤ 4 := tv_rng t3
  obtain ⟨t5, hk⟩ := List.forall_mem_cons.mp hk
  have t5 : tv_ok ta (0, 0, 2000, []) (n_v vs 5) := t5
  have k5 : 0 ≤ v_iv (n_v vs 5) ∧ v_iv (n_v vs 5) ≤ 2000 := tv_rng t5
  obtain ⟨t6, hk⟩ := List.forall_mem_cons.mp hk
  have t6 : tv_ok ta (0, 0, 2003, []) (n_v vs 6) := t6
  have k6 : 0 ≤ v_iv (n_v vs 6) ∧ v_iv (n_v vs 6) ≤ 2003 := tv_rng t6
  have hds : ∀ q ∈ ([(6, 2, 0, 2000), (6, 5, 0, 3)] : List of_T), n_iv vs q.2.1 + q.2.2.1 ≤ n_iv vs q.1 ∧ n_iv vs q.1 ≤ n_iv vs q.2.1 + q.2.2.2 := hds
  obtain ⟨d0, hds⟩ := List.forall_mem_cons.mp hds
  have d0 : v_iv (n_v vs 2) + 0 ≤ v_iv (n_v vs 6) ∧ v_iv (n_v vs 6) ≤ v_iv (n_v vs 2) + 2000 := d0
  obtain ⟨d1, hds⟩ := List.forall_mem_cons.mp hds
  have d1 : v_iv (n_v vs 5) + 0 ≤ v_iv (n_v vs 6) ∧ v_iv (n_v vs 6) ≤ v_iv (n_v vs 5) + 3 := d1
  have hf : fc_ok [(1, [6, 5, 2], []), (9, [5, 0], [8]), (7, [2, 3], [2]), (20, [0], [30, 1996, 1, 1, 8])] ta ws vs := hf
  obtain ⟨f0, hf⟩ := fc_un (by decide) hf
  have f0 : v_iv (n_v vs 6) = v_iv (n_v vs 5) + v_iv (n_v vs 2) := f0
  obtain ⟨f1, hf⟩ := fc_un (by decide) hf
  have f1 : n_v vs 5 = w_fd ws (v_ad (n_v vs 0)) 8 := f1
  obtain ⟨f2, hf⟩ := fc_un (by decide) hf
  have f2 : v_iv (n_v vs 2) < v_iv (n_v vs 3) := f2
  obtain ⟨f3, hf⟩ := fc_un (by decide) hf
  have f3 : 1 * w_fi ws (n_v vs 0) 8 + 0 ≤ 1996 := f3
  have g1 : v_iv (n_v vs 5) = w_fi ws (n_v vs 0) 8 := congrArg v_iv f1
  have kz_0_8 : 0 ≤ w_fi ws (n_v vs 0) 8 ∧ w_fi ws (n_v vs 0) 8 ≤ 2000 := tv_rng (th_fd hD hth r0 (g := GG_8) rfl (k := 8) (t := (0, 0, 2000, [])) rfl rfl)
  have rf6 : tv_ok ta (0, 0, 1999, []) (n_v vs 6) := tv_in t6 (by omega) (by omega)
  refine ⟨List.forall_mem_cons.mpr ⟨rf6, (fun _ h => (by cases h))⟩, [], trivial, ?_, (fun _ h => (by cases h))⟩
  rw [List.append_nil]
  exact (fun _ h => (by cases h))
def n_Re_isWord_at_s5002_an : List an_T := [(28, [(0, (2, 0, 0, [8])), (1, (2, 0, 0, [5002])), (2, (0, 0, 4, []))], [], (0, 0), [(0, 0, 99972), (1, 2, 4), (0, 0, 100000)], [], [], [], 0, [], [(20, [0], [30, 1996, 1, 1, 8])])]
def t_Re_isWord_at_s5002_ct : ct_L := [(58, 84, e_jStr_length_v177), (94, 84, e_jStr_length_v177), (151, 89, e_jStr_charAt_v178)]
set_option maxRecDepth 100000 in
theorem c_Re_isWord_at_s5002 {l : Launch} {D : va_G} {kA : Nat → ClassId} : ct_ok l D kA GG y_Re_isWord_at_s5002 z_Re_isWord_at_s5002 e_Re_isWord_at_s5002 := chk_all_ok (FT := [(9, 8, 0), (35, 8, 6), (38, 8, 7), (41, 8, 8)]) (PT := []) (CT := t_Re_isWord_at_s5002_ct) (KT := []) (NT := []) (AN := n_Re_isWord_at_s5002_an) (OT := [o_Re_isWord_at_s5002_0, o_Re_isWord_at_s5002_1]) 3 200 (List.forall_mem_cons.mpr ⟨oo_Re_isWord_at_s5002_0, List.forall_mem_cons.mpr ⟨oo_Re_isWord_at_s5002_1, List.forall_mem_nil _⟩⟩) (by decide +kernel) ⟨List.forall_mem_cons.mpr ⟨gf_Re_9, List.forall_mem_cons.mpr ⟨gf_Re_35, List.forall_mem_cons.mpr ⟨gf_Re_38, List.forall_mem_cons.mpr ⟨gf_Re_41, List.forall_mem_nil _⟩⟩⟩⟩, List.forall_mem_nil _, List.forall_mem_cons.mpr ⟨cl_string (y := y_jStr_length) (i := 2) rfl rfl (by decide +kernel) rfl c_jStr_length_v177 wm_674 wm_11 wm_671 wm_672 wm_673 ⟨by decide, by decide, by decide +kernel⟩ (by decide), List.forall_mem_cons.mpr ⟨cl_string (y := y_jStr_length) (i := 2) rfl rfl (by decide +kernel) rfl c_jStr_length_v177 wm_674 wm_11 wm_671 wm_672 wm_673 ⟨by decide, by decide, by decide +kernel⟩ (by decide), List.forall_mem_cons.mpr ⟨cl_string (y := y_jStr_charAt) (i := 2) rfl rfl (by decide +kernel) rfl c_jStr_charAt_v178 wm_684 wm_11 wm_681 wm_682 wm_683 ⟨by decide, by decide, by decide +kernel⟩ (by decide), List.forall_mem_nil _⟩⟩⟩, List.forall_mem_nil _, List.forall_mem_nil _, GG_pl⟩ (by decide +kernel)
def o_Re_isWord_at_s5003_0 : or_T := (28, 9, [(0, (2, 0, 0, [8])), (4, (0, 6, 2000, [])), (5, (0, 0, 2000, [])), (6, (0, 6, 6, [])), (7, (0, 6, 6, []))], [(7, [6, 7], [0]), (2, [6, 4, 5], []), (9, [5, 0], [8]), (9, [4, 0], [6])], [], [], [(20, [0], [30, 1994, 1, 1, 8])], [], [(6, 4, -2000, 0)])
theorem oo_Re_isWord_at_s5003_0 {kA : Nat → ClassId} : or_ok kA GG o_Re_isWord_at_s5003_0 := by
  intro A ta ws vs hD hth hl hk hds hf
  have hl : vs.length = 9 := hl
  have hk : ∀ q ∈ ([(0, (2, 0, 0, [8])), (4, (0, 6, 2000, [])), (5, (0, 0, 2000, [])), (6, (0, 6, 6, [])), (7, (0, 6, 6, []))] : List (Nat × tv_T)), tv_ok ta q.2 (n_v vs q.1) := hk
  obtain ⟨t0, hk⟩ := List.forall_mem_cons.mp hk
  have t0 : tv_ok ta (2, 0, 0, [8]) (n_v vs 0) := t0
  have r0 : ta (v_ad (n_v vs 0)) = some 8 := tv_rg t0
  obtain ⟨t4, hk⟩ := List.forall_mem_cons.mp hk
  have t4 : tv_ok ta (0, 6, 2000, []) (n_v vs 4) := t4
  have k4 : 6 ≤ v_iv (n_v vs 4) ∧ v_iv (n_v vs 4) ≤ 2000 := tv_rng t4
  obtain ⟨t5, hk⟩ := List.forall_mem_cons.mp hk
  have t5 : tv_ok ta (0, 0, 2000, []) (n_v vs 5) := t5
  have k5 : 0 ≤ v_iv (n_v vs 5) ∧ v_iv (n_v vs 5) ≤ 2000 := tv_rng t5
  obtain ⟨t6, hk⟩ := List.forall_mem_cons.mp hk
  have t6 : tv_ok ta (0, 6, 6, []) (n_v vs 6) := t6
  have k6 : 6 ≤ v_iv (n_v vs 6) ∧ v_iv (n_v vs 6) ≤ 6 := tv_rng t6
  obtain ⟨t7, hk⟩ := List.forall_mem_cons.mp hk
  have t7 : tv_ok ta (0, 6, 6, []) (n_v vs 7) := t7
  have k7 : 6 ≤ v_iv (n_v vs 7) ∧ v_iv (n_v vs 7) ≤ 6 := tv_rng t7
  have hds : ∀ q ∈ ([(6, 4, -2000, 0)] : List of_T), n_iv vs q.2.1 + q.2.2.1 ≤ n_iv vs q.1 ∧ n_iv vs q.1 ≤ n_iv vs q.2.1 + q.2.2.2 := hds
  obtain ⟨d0, hds⟩ := List.forall_mem_cons.mp hds
  have d0 : v_iv (n_v vs 4) + (-2000) ≤ v_iv (n_v vs 6) ∧ v_iv (n_v vs 6) ≤ v_iv (n_v vs 4) + 0 := d0
  have hf : fc_ok [(7, [6, 7], [0]), (2, [6, 4, 5], []), (9, [5, 0], [8]), (9, [4, 0], [6])] ta ws vs := hf
  obtain ⟨f0, hf⟩ := fc_un (by decide) hf
  have f0 : v_iv (n_v vs 6) = v_iv (n_v vs 7) := f0
  obtain ⟨f1, hf⟩ := fc_un (by decide) hf
  have f1 : v_iv (n_v vs 6) = v_iv (n_v vs 4) - v_iv (n_v vs 5) := f1
  obtain ⟨f2, hf⟩ := fc_un (by decide) hf
  have f2 : n_v vs 5 = w_fd ws (v_ad (n_v vs 0)) 8 := f2
  obtain ⟨f3, hf⟩ := fc_un (by decide) hf
  have f3 : n_v vs 4 = w_fd ws (v_ad (n_v vs 0)) 6 := f3
  have g2 : v_iv (n_v vs 5) = w_fi ws (n_v vs 0) 8 := congrArg v_iv f2
  have g3 : v_iv (n_v vs 4) = w_fi ws (n_v vs 0) 6 := congrArg v_iv f3
  have kz_0_6 : 0 ≤ w_fi ws (n_v vs 0) 6 ∧ w_fi ws (n_v vs 0) 6 ≤ 2000 := tv_rng (th_fd hD hth r0 (g := GG_8) rfl (k := 6) (t := (0, 0, 2000, [])) rfl rfl)
  have kz_0_8 : 0 ≤ w_fi ws (n_v vs 0) 8 ∧ w_fi ws (n_v vs 0) 8 ≤ 2000 := tv_rng (th_fd hD hth r0 (g := GG_8) rfl (k := 8) (t := (0, 0, 2000, [])) rfl rfl)
  have nf0 : fc_1 (20, [0], [30, 1994, 1, 1, 8]) ws (vs) := by
    refine ⟨fun n hn => ?_, ?_⟩
    · have hn : n ∈ [0] := hn
      rw [hl]
      simp only [List.mem_cons, List.not_mem_nil, or_false] at hn
      show n < 9; omega
    · show 1 * w_fi ws (n_v vs 0) 8 + 0 ≤ 1994
      omega
  refine ⟨(fun _ h => (by cases h)), [], trivial, ?_, (fun _ h => (by cases h))⟩
  rw [List.append_nil]
  exact List.forall_mem_cons.mpr ⟨⟨by decide, nf0⟩, (fun _ h => (by cases h))⟩
def o_Re_isWord_at_s5003_1 : or_T := (46, 7, [(0, (2, 0, 0, [8])), (2, (0, 0, 5, [])), (3, (0, 6, 6, [])), (5, (0, 0, 2000, [])), (6, (0, 0, 2005, []))], [(1, [6, 5, 2], []), (9, [5, 0], [8]), (7, [2, 3], [2]), (20, [0], [30, 1994, 1, 1, 8])], [(6, (0, 0, 1999, []))], [], [], [], [(6, 2, 0, 2000), (6, 5, 0, 5)])
theorem oo_Re_isWord_at_s5003_1 {kA : Nat → ClassId} : or_ok kA GG o_Re_isWord_at_s5003_1 := by
  intro A ta ws vs hD hth hl hk hds hf
  have hl : vs.length = 7 := hl
  have hk : ∀ q ∈ ([(0, (2, 0, 0, [8])), (2, (0, 0, 5, [])), (3, (0, 6, 6, [])), (5, (0, 0, 2000, [])), (6, (0, 0, 2005, []))] : List (Nat × tv_T)), tv_ok ta q.2 (n_v vs q.1) := hk
  obtain ⟨t0, hk⟩ := List.forall_mem_cons.mp hk
  have t0 : tv_ok ta (2, 0, 0, [8]) (n_v vs 0) := t0
  have r0 : ta (v_ad (n_v vs 0)) = some 8 := tv_rg t0
  obtain ⟨t2, hk⟩ := List.forall_mem_cons.mp hk
  have t2 : tv_ok ta (0, 0, 5, []) (n_v vs 2) := t2
  have k2 : 0 ≤ v_iv (n_v vs 2) ∧ v_iv (n_v vs 2) ≤ 5 := tv_rng t2
  obtain ⟨t3, hk⟩ := List.forall_mem_cons.mp hk
  have t3 : tv_ok ta (0, 6, 6, []) (n_v vs 3) := t3
  have k3 : 6 ≤ v_iv (n_v vs 3) ∧ v_iv (n_v vs 3) ≤ 6 := tv_rng t3
  obtain ⟨t5, hk⟩ := List.forall_mem_cons.mp hk
  have t5 : tv_ok ta (0, 0, 2000, []) (n_v vs 5) := t5
  have k5 : 0 ≤ v_iv (n_v vs 5) ∧ v_iv (n_v vs 5) ≤ 2000 := tv_rng t5
  obtain ⟨t6, hk⟩ := List.forall_mem_cons.mp hk
  have t6 : tv_ok ta (0, 0, 2005, []) (n_v vs 6) := t6
  have k6 : 0 ≤ v_iv (n_v vs 6) ∧ v_iv (n_v vs 6) ≤ 2005 := tv_rng t6
  have hds : ∀ q ∈ ([(6, 2, 0, 2000), (6, 5, 0, 5)] : List of_T), n_iv vs q.2.1 + q.2.2.1 ≤ n_iv vs q.1 ∧ n_iv vs q.1 ≤ n_iv vs q.2.1 + q.2.2.2 := hds
  obtain ⟨d0, hds⟩ := List.forall_mem_cons.mp hds
  have d0 : v_iv (n_v vs 2) + 0 ≤ v_iv (n_v vs 6) ∧ v_iv (n_v vs 6) ≤ v_iv (n_v vs 2) + 2000 := d0
  obtain ⟨d1, hds⟩ := List.forall_mem_cons.mp hds
  have d1 : v_iv (n_v vs 5) + 0 ≤ v_iv (n_v vs 6) ∧ v_iv (n_v vs 6) ≤ v_iv (n_v vs 5) + 5 := d1
  have hf : fc_ok [(1, [6, 5, 2], []), (9, [5, 0], [8]), (7, [2, 3], [2]), (20, [0], [30, 1994, 1, 1, 8])] ta ws vs := hf
  obtain ⟨f0, hf⟩ := fc_un (by decide) hf
  have f0 : v_iv (n_v vs 6) = v_iv (n_v vs 5) + v_iv (n_v vs 2) := f0
  obtain ⟨f1, hf⟩ := fc_un (by decide) hf
  have f1 : n_v vs 5 = w_fd ws (v_ad (n_v vs 0)) 8 := f1
  obtain ⟨f2, hf⟩ := fc_un (by decide) hf
  have f2 : v_iv (n_v vs 2) < v_iv (n_v vs 3) := f2
  obtain ⟨f3, hf⟩ := fc_un (by decide) hf
  have f3 : 1 * w_fi ws (n_v vs 0) 8 + 0 ≤ 1994 := f3
  have g1 : v_iv (n_v vs 5) = w_fi ws (n_v vs 0) 8 := congrArg v_iv f1
  have kz_0_8 : 0 ≤ w_fi ws (n_v vs 0) 8 ∧ w_fi ws (n_v vs 0) 8 ≤ 2000 := tv_rng (th_fd hD hth r0 (g := GG_8) rfl (k := 8) (t := (0, 0, 2000, [])) rfl rfl)
  have rf6 : tv_ok ta (0, 0, 1999, []) (n_v vs 6) := tv_in t6 (by omega) (by omega)
  refine ⟨List.forall_mem_cons.mpr ⟨rf6, (fun _ h => (by cases h))⟩, [], trivial, ?_, (fun _ h => (by cases h))⟩
  rw [List.append_nil]
  exact (fun _ h => (by cases h))
def n_Re_isWord_at_s5003_an : List an_T := [(28, [(0, (2, 0, 0, [8])), (1, (2, 0, 0, [5003])), (2, (0, 0, 6, []))], [], (0, 0), [(0, 0, 99972), (1, 2, 6), (0, 0, 100000)], [], [], [], 0, [], [(20, [0], [30, 1994, 1, 1, 8])])]
def t_Re_isWord_at_s5003_ct : ct_L := [(58, 84, e_jStr_length_v180), (94, 84, e_jStr_length_v180), (151, 89, e_jStr_charAt_v181)]
set_option maxRecDepth 100000 in
theorem c_Re_isWord_at_s5003 {l : Launch} {D : va_G} {kA : Nat → ClassId} : ct_ok l D kA GG y_Re_isWord_at_s5003 z_Re_isWord_at_s5003 e_Re_isWord_at_s5003 := chk_all_ok (FT := [(9, 8, 0), (35, 8, 6), (38, 8, 7), (41, 8, 8)]) (PT := []) (CT := t_Re_isWord_at_s5003_ct) (KT := []) (NT := []) (AN := n_Re_isWord_at_s5003_an) (OT := [o_Re_isWord_at_s5003_0, o_Re_isWord_at_s5003_1]) 3 200 (List.forall_mem_cons.mpr ⟨oo_Re_isWord_at_s5003_0, List.forall_mem_cons.mpr ⟨oo_Re_isWord_at_s5003_1, List.forall_mem_nil _⟩⟩) (by decide +kernel) ⟨List.forall_mem_cons.mpr ⟨gf_Re_9, List.forall_mem_cons.mpr ⟨gf_Re_35, List.forall_mem_cons.mpr ⟨gf_Re_38, List.forall_mem_cons.mpr ⟨gf_Re_41, List.forall_mem_nil _⟩⟩⟩⟩, List.forall_mem_nil _, List.forall_mem_cons.mpr ⟨cl_string (y := y_jStr_length) (i := 3) rfl rfl (by decide +kernel) rfl c_jStr_length_v180 wm_674 wm_11 wm_671 wm_672 wm_673 ⟨by decide, by decide, by decide +kernel⟩ (by decide), List.forall_mem_cons.mpr ⟨cl_string (y := y_jStr_length) (i := 3) rfl rfl (by decide +kernel) rfl c_jStr_length_v180 wm_674 wm_11 wm_671 wm_672 wm_673 ⟨by decide, by decide, by decide +kernel⟩ (by decide), List.forall_mem_cons.mpr ⟨cl_string (y := y_jStr_charAt) (i := 3) rfl rfl (by decide +kernel) rfl c_jStr_charAt_v181 wm_684 wm_11 wm_681 wm_682 wm_683 ⟨by decide, by decide, by decide +kernel⟩ (by decide), List.forall_mem_nil _⟩⟩⟩, List.forall_mem_nil _, List.forall_mem_nil _, GG_pl⟩ (by decide +kernel)
def n_Sy_advance_an : List an_T := [(0, [(0, (2, 0, 0, [11]))], [], (0, 0), [(0, 0, 100000), (1, 1, 2000), (0, 0, 100000)], [], [((0, 5), (0, 0, 2000, [])), ((0, 3), (2, 0, 0, [109]))], [], 0, [], []), (39, [(0, (2, 0, 0, [11]))], [], (0, 0), [(0, 0, 100000), (1, 2, 2000), (0, 0, 99961)], [(1, 2, -1000000000000, 2000), (2, 1, -1000000000000, -1)], [((0, 4), (0, 1, 2000, [])), ((0, 5), (0, 0, 1999, [])), ((0, 3), (2, 0, 0, [109]))], [], 0, [], []), (52, [(0, (2, 0, 0, [11]))], [], (0, 0), [(0, 0, 99948), (0, 0, 0), (0, 0, 0)], [(1, 2, -1000000000000, 2000), (2, 1, -1000000000000, 2000)], [((0, 4), (0, 0, 2000, [])), ((0, 5), (0, 0, 2000, [])), ((0, 3), (2, 0, 0, [109]))], [], 0, [], []), (94, [(0, (2, 0, 0, [11])), (1, (0, -128, 127, []))], [], (0, 0), [(0, 0, 99906), (1, 2, 2000), (0, 0, 100000)], [(1, 2, -1000000000000, 127), (2, 1, -1000000000000, 2128)], [((0, 5), (0, 0, 2000, [])), ((0, 3), (2, 0, 0, [109]))], [], 0, [], []), (133, [(0, (2, 0, 0, [11])), (1, (0, -128, 127, []))], [], (0, 0), [(0, 0, 99867), (0, 0, 0), (0, 0, 0)], [(1, 2, -1000000000000, 127), (1, 3, -1000000000000, 127), (2, 1, -1000000000000, 2128), (2, 3, -1000000000000, 2000), (3, 1, -1000000000000, 2128), (3, 2, -1000000000000, 2000)], [((0, 4), (0, 0, 2000, [])), ((0, 5), (0, 0, 2000, [])), ((0, 3), (2, 0, 0, [109]))], [], 0, [], []), (153, [(0, (2, 0, 0, [11])), (1, (0, -128, 127, []))], [(0, 1, 2, []), (2, 0, 0, [11])], (0, 0), [(0, 0, 99847), (0, 0, 0), (0, 0, 0)], [(1, 2, -1000000000000, 126), (1, 4, -1000000000000, 127), (1, 5, -1000000000000, 127), (1, 6, -1000000000000, 127), (2, 1, -1000000000000, 130), (2, 4, -1000000000000, 2), (2, 5, -1000000000000, 2), (2, 6, -1000000000000, 2), (4, 1, -1000000000000, 2128), (4, 2, -1000000000000, 1999), (4, 5, -1000000000000, 2000), (4, 6, -1000000000000, 2000), (5, 1, -1000000000000, 2128), (5, 2, -1000000000000, 1999), (5, 4, -1000000000000, 2000), (5, 6, -1000000000000, 2000), (6, 1, -1000000000000, 2128), (6, 2, -1000000000000, 1999), (6, 4, -1000000000000, 2000), (6, 5, -1000000000000, 2000)], [((0, 7), (0, 0, 2000, [])), ((0, 4), (0, 0, 2000, [])), ((0, 5), (0, 0, 2000, [])), ((0, 3), (2, 0, 0, [109]))], [], 0, [], []), (171, [(0, (2, 0, 0, [11])), (1, (0, -128, 127, []))], [], (0, 0), [(0, 0, 99829), (1, 3, 2000), (0, 0, 100000)], [(1, 3, -1000000000000, 127), (3, 1, -1000000000000, 2128)], [((0, 8), (0, -2147483648, 1000000, [])), ((0, 5), (0, 0, 2000, [])), ((0, 3), (2, 0, 0, [109]))], [], 0, [], []), (239, [(0, (2, 0, 0, [11])), (1, (0, -128, 127, []))], [], (0, 0), [(0, 0, 99761), (0, 0, 0), (0, 0, 0)], [(1, 2, -1000000000000, 127), (1, 4, -1000000000000, 127), (2, 1, -1000000000000, 2128), (2, 4, -1000000000000, 2000), (4, 1, -1000000000000, 2128), (4, 2, -1000000000000, 2000)], [((0, 4), (0, 0, 2000, [])), ((0, 8), (0, -2147483648, 1000000, [])), ((0, 5), (0, 0, 2000, [])), ((0, 3), (2, 0, 0, [109]))], [], 0, [], []), (258, [(0, (2, 0, 0, [11])), (1, (0, -128, 127, []))], [(0, 1, 3, []), (2, 0, 0, [11])], (0, 0), [(0, 0, 99742), (0, 0, 0), (0, 0, 0)], [(1, 2, -1000000000000, 126), (1, 4, -1000000000000, 127), (1, 5, -1000000000000, 127), (1, 7, -1000000000000, 127), (2, 1, -1000000000000, 131), (2, 4, -1000000000000, 3), (2, 5, -1000000000000, 3), (2, 7, -1000000000000, 3), (4, 1, -1000000000000, 2128), (4, 2, -1000000000000, 1999), (4, 5, -1000000000000, 2000), (4, 7, -1000000000000, 2000), (5, 1, -1000000000000, 2128), (5, 2, -1000000000000, 1999), (5, 4, -1000000000000, 2000), (5, 7, -1000000000000, 2000), (7, 1, -1000000000000, 2128), (7, 2, -1000000000000, 1999), (7, 4, -1000000000000, 2000), (7, 5, -1000000000000, 2000)], [((0, 7), (0, 0, 2000, [])), ((0, 4), (0, 0, 2000, [])), ((0, 8), (0, -2147483648, 1000000, [])), ((0, 5), (0, 0, 2000, [])), ((0, 3), (2, 0, 0, [109]))], [], 0, [], []), (293, [(0, (2, 0, 0, [11])), (1, (0, -128, 127, []))], [(2, 0, 0, [11])], (0, 0), [(0, 0, 99707), (0, 0, 0), (0, 0, 0)], [(1, 3, -1000000000000, 126), (1, 4, -1000000000000, 127), (1, 5, -1000000000000, 126), (3, 1, -1000000000000, 2128), (3, 4, -1000000000000, 1), (3, 5, -1000000000000, 0), (4, 1, -1000000000000, 2127), (4, 3, -1000000000000, -1), (4, 5, -1000000000000, -1), (5, 1, -1000000000000, 2128), (5, 3, -1000000000000, 1999), (5, 4, -1000000000000, 2000)], [((0, 5), (0, 1, 2000, [])), ((0, 7), (0, 0, 1999, [])), ((0, 4), (0, 1, 2000, [])), ((0, 3), (2, 0, 0, [109]))], [], 0, [], []), (294, [(0, (2, 0, 0, [11])), (1, (0, -128, 127, []))], [(0, 1, 127, []), (2, 0, 0, [11])], (0, 0), [(0, 0, 99706), (0, 0, 0), (0, 0, 0)], [(1, 2, -1000000000000, 126), (1, 4, -1000000000000, 126), (1, 5, -1000000000000, 127), (1, 6, -1000000000000, 126), (2, 1, -1000000000000, 129), (2, 4, -1000000000000, 126), (2, 5, -1000000000000, 127), (2, 6, -1000000000000, 126), (4, 1, -1000000000000, 2128), (4, 2, -1000000000000, 1999), (4, 5, -1000000000000, 1), (4, 6, -1000000000000, 0), (5, 1, -1000000000000, 2127), (5, 2, -1000000000000, 1998), (5, 4, -1000000000000, -1), (5, 6, -1000000000000, -1), (6, 1, -1000000000000, 2128), (6, 2, -1000000000000, 1999), (6, 4, -1000000000000, 1999), (6, 5, -1000000000000, 2000)], [((0, 5), (0, 1, 2000, [])), ((0, 7), (0, 0, 1999, [])), ((0, 4), (0, 1, 2000, [])), ((0, 3), (2, 0, 0, [109]))], [], 0, [], []), (297, [(0, (2, 0, 0, [11])), (1, (0, -128, 127, []))], [], (0, 0), [(0, 0, 99703), (0, 0, 0), (0, 0, 0)], [(1, 2, -1000000000000, 127), (1, 3, -1000000000000, 127), (1, 4, -1000000000000, 127), (2, 1, -1000000000000, 2128), (2, 3, -1000000000000, 2000), (2, 4, -1000000000000, 2000), (3, 1, -1000000000000, 2128), (3, 2, -1000000000000, 2000), (3, 4, -1000000000000, 2000), (4, 1, -1000000000000, 2128), (4, 2, -1000000000000, 2000), (4, 3, -1000000000000, 2000)], [((0, 5), (0, 0, 2000, [])), ((0, 7), (0, 0, 2000, [])), ((0, 4), (0, 0, 2000, [])), ((0, 3), (2, 0, 0, [109]))], [], 0, [], [])]
def t_Sy_advance_ct : ct_L := [(267, 76, e_Sy_isSmall_np), (345, 76, e_Sy_isSmall_np), (483, 80, e_Re_isDigit_np), (576, 80, e_Re_isDigit_np), (663, 86, e_jMath_min1_v59), (663, 86, e_jMath_min1_v60), (663, 86, e_jMath_min1_v61), (663, 86, e_jMath_min1_v62), (663, 86, e_jMath_min1_v63), (853, 94, e_jStr_indexOf1_v218), (1000000, 92, en_ro [] (2, 0, 0, [5005]))]
set_option maxRecDepth 100000 in
theorem c_Sy_advance {l : Launch} {D : va_G} {kA : Nat → ClassId} (h_Re_isDigit : ct_ok l D kA GG y_Re_isDigit z_Re_isDigit e_Re_isDigit) (h_Sy_isSmall : ct_ok l D kA GG y_Sy_isSmall z_Sy_isSmall e_Sy_isSmall) : ct_ok l D kA GG y_Sy_advance z_Sy_advance e_Sy_advance := chk_all_ok (FT := [(21, 11, 3), (25, 11, 4), (28, 11, 5), (34, 11, 7), (37, 11, 8)]) (PT := [(28, 11, 5, .int), (31, 11, 6, .int), (34, 11, 7, .int), (37, 11, 8, .int)]) (CT := t_Sy_advance_ct) (KT := [(0, 85, .int (1000000), (0, 1000000, 1000000, []))]) (NT := []) (AN := n_Sy_advance_an) (OT := []) 3 612 (List.forall_mem_nil _) (by decide +kernel) ⟨List.forall_mem_cons.mpr ⟨gf_Sy_21, List.forall_mem_cons.mpr ⟨gf_Sy_25, List.forall_mem_cons.mpr ⟨gf_Sy_28, List.forall_mem_cons.mpr ⟨gf_Sy_34, List.forall_mem_cons.mpr ⟨gf_Sy_37, List.forall_mem_nil _⟩⟩⟩⟩⟩, List.forall_mem_cons.mpr ⟨pf_Sy_28, List.forall_mem_cons.mpr ⟨pf_Sy_31, List.forall_mem_cons.mpr ⟨pf_Sy_34, List.forall_mem_cons.mpr ⟨pf_Sy_37, List.forall_mem_nil _⟩⟩⟩⟩, List.forall_mem_cons.mpr ⟨cl_nopa (cl_static (y := y_Sy_isSmall) h_Sy_isSmall wm_2161 wm_23 wm_2159 wm_2160 ⟨by decide, by decide, by decide +kernel⟩ (by decide)), List.forall_mem_cons.mpr ⟨cl_nopa (cl_static (y := y_Sy_isSmall) h_Sy_isSmall wm_2161 wm_23 wm_2159 wm_2160 ⟨by decide, by decide, by decide +kernel⟩ (by decide)), List.forall_mem_cons.mpr ⟨cl_nopa (cl_staticN (y := y_Re_isDigit) h_Re_isDigit wm_654 wm_2 wn_2162 wm_653 ⟨by decide, by decide, by decide +kernel⟩ (by decide)), List.forall_mem_cons.mpr ⟨cl_nopa (cl_staticN (y := y_Re_isDigit) h_Re_isDigit wm_654 wm_2 wn_2162 wm_653 ⟨by decide, by decide, by decide +kernel⟩ (by decide)), List.forall_mem_cons.mpr ⟨cl_static (y := y_jMath_min1) c_jMath_min1_v59 wm_658 wm_10 wm_2164 wm_657 ⟨by decide, by decide, by decide +kernel⟩ (by decide), List.forall_mem_cons.mpr ⟨cl_static (y := y_jMath_min1) c_jMath_min1_v60 wm_658 wm_10 wm_2164 wm_657 ⟨by decide, by decide, by decide +kernel⟩ (by decide), List.forall_mem_cons.mpr ⟨cl_static (y := y_jMath_min1) c_jMath_min1_v61 wm_658 wm_10 wm_2164 wm_657 ⟨by decide, by decide, by decide +kernel⟩ (by decide), List.forall_mem_cons.mpr ⟨cl_static (y := y_jMath_min1) c_jMath_min1_v62 wm_658 wm_10 wm_2164 wm_657 ⟨by decide, by decide, by decide +kernel⟩ (by decide), List.forall_mem_cons.mpr ⟨cl_static (y := y_jMath_min1) c_jMath_min1_v63 wm_658 wm_10 wm_2164 wm_657 ⟨by decide, by decide, by decide +kernel⟩ (by decide), List.forall_mem_cons.mpr ⟨cl_string (y := y_jStr_indexOf1) (i := 5) rfl rfl (by decide +kernel) rfl c_jStr_indexOf1_v218 wm_2169 wm_11 wm_2166 wm_2167 wm_2168 ⟨by decide, by decide, by decide +kernel⟩ (by decide), List.forall_mem_cons.mpr ⟨cl_ldc (own := "DrawingHouse$Styler") (idx := 92) (i := 5) (tx := ":=,;{}<>+-*/()") (by decide +kernel) (by decide +kernel) (by decide +kernel), List.forall_mem_nil _⟩⟩⟩⟩⟩⟩⟩⟩⟩⟩⟩, List.forall_mem_cons.mpr ⟨kx_Sy_0_85, List.forall_mem_nil _⟩, List.forall_mem_nil _, GG_pl⟩ (by decide +kernel)
def o_Re_readValue_at_s5002_0 : or_T := (1, 3, [(0, (2, 0, 0, [8]))], [], [], [(0, -2147483648, 1000000, [])], [(20, [0, 3], [30, 0, 1, 1, 9, -1, 0, 0]), (20, [0, 3], [30, 0, -1, 1, 9, 1, 0, 0])], [], [])
theorem oo_Re_readValue_at_s5002_0 {kA : Nat → ClassId} : or_ok kA GG o_Re_readValue_at_s5002_0 := by
  intro A ta ws vs hD hth hl hk hds hf
  have hl : vs.length = 3 := hl
  have hk : ∀ q ∈ ([(0, (2, 0, 0, [8]))] : List (Nat × tv_T)), tv_ok ta q.2 (n_v vs q.1) := hk
  obtain ⟨t0, hk⟩ := List.forall_mem_cons.mp hk
  have t0 : tv_ok ta (2, 0, 0, [8]) (n_v vs 0) := t0
  have r0 : ta (v_ad (n_v vs 0)) = some 8 := tv_rg t0
  have kz_0_9 : (-2147483648) ≤ w_fi ws (n_v vs 0) 9 ∧ w_fi ws (n_v vs 0) 9 ≤ 1000000 := tv_rng (th_fd hD hth r0 (g := GG_8) rfl (k := 9) (t := (0, -2147483648, 1000000, [])) rfl rfl)
  have kv : (-2147483648) ≤ w_fi ws (n_v vs 0) 9 ∧ w_fi ws (n_v vs 0) 9 ≤ 1000000 := tv_rng (th_fd hD hth r0 (g := GG_8) rfl (k := 9) (t := (0, -2147483648, 1000000, [])) rfl rfl)
  obtain ⟨x, ex, hx⟩ := iv_ex (ta := ta) (lo := (-2147483648)) (hi := 1000000) (z := w_fi ws (n_v vs 0) 9) (by omega) (by omega) (by decide) (by decide)
  have ex2 : v_iv (Value.int x) = w_fi ws (n_v vs 0) 9 := ex
  have ex3 : (-2147483648) ≤ v_iv (Value.int x) ∧ v_iv (Value.int x) ≤ 1000000 := tv_rng hx
  have e_0 : n_v (vs ++ [Value.int x]) 0 = n_v vs 0 := n_v_old (by rw [hl]; decide)
  have e_3 : n_v (vs ++ [Value.int x]) 3 = Value.int x := n_v_new hl
  have nf0 : fc_1 (20, [0, 3], [30, 0, 1, 1, 9, -1, 0, 0]) ws (vs ++ [Value.int x]) := by
    refine ⟨fun n hn => ?_, ?_⟩
    · have hn : n ∈ [0, 3] := hn
      rw [List.length_append, hl]
      simp only [List.mem_cons, List.not_mem_nil, or_false] at hn
      show n < 3 + 1; omega
    · show 1 * w_fi ws (n_v (vs ++ [Value.int x]) 0) 9 + ((-1) * v_iv (n_v (vs ++ [Value.int x]) 3) + 0) ≤ 0
      rw [e_0]
      rw [e_3]
      omega
  have nf1 : fc_1 (20, [0, 3], [30, 0, -1, 1, 9, 1, 0, 0]) ws (vs ++ [Value.int x]) := by
    refine ⟨fun n hn => ?_, ?_⟩
    · have hn : n ∈ [0, 3] := hn
      rw [List.length_append, hl]
      simp only [List.mem_cons, List.not_mem_nil, or_false] at hn
      show n < 3 + 1; omega
    · show (-1) * w_fi ws (n_v (vs ++ [Value.int x]) 0) 9 + (1 * v_iv (n_v (vs ++ [Value.int x]) 3) + 0) ≤ 0
      rw [e_0]
      rw [e_3]
      omega
  exact ⟨fun q hq => (by cases hq), [Value.int x], ag_one hx, List.forall_mem_cons.mpr ⟨⟨by decide, nf0⟩, List.forall_mem_cons.mpr ⟨⟨by decide, nf1⟩, (fun _ h => (by cases h))⟩⟩, (fun _ h => (by cases h))⟩
def o_Re_readValue_at_s5002_1 : or_T := (33, 7, [(0, (2, 0, 0, [8])), (3, (0, -2147483648, 1000000, []))], [(20, [0, 0, 3], [31, 1, 3, 1, 1, 7, 0, 1, 1, 9, -1, 0, 0]), (20, [0, 0, 3], [31, 1, 3, 1, 1, 7, 0, -1, 1, 9, 1, 0, 0])], [], [(0, -2147483648, 1000000, [])], [(20, [0, 7], [30, 0, 1, 1, 9, -1, 0, 0]), (20, [0, 7], [30, 0, -1, 1, 9, 1, 0, 0])], [], [])
theorem oo_Re_readValue_at_s5002_1 {kA : Nat → ClassId} : or_ok kA GG o_Re_readValue_at_s5002_1 := by
  intro A ta ws vs hD hth hl hk hds hf
  have hl : vs.length = 7 := hl
  have hk : ∀ q ∈ ([(0, (2, 0, 0, [8])), (3, (0, -2147483648, 1000000, []))] : List (Nat × tv_T)), tv_ok ta q.2 (n_v vs q.1) := hk
  obtain ⟨t0, hk⟩ := List.forall_mem_cons.mp hk
  have t0 : tv_ok ta (2, 0, 0, [8]) (n_v vs 0) := t0
  have r0 : ta (v_ad (n_v vs 0)) = some 8 := tv_rg t0
  obtain ⟨t3, hk⟩ := List.forall_mem_cons.mp hk
  have t3 : tv_ok ta (0, -2147483648, 1000000, []) (n_v vs 3) := t3
  have k3 : (-2147483648) ≤ v_iv (n_v vs 3) ∧ v_iv (n_v vs 3) ≤ 1000000 := tv_rng t3
  have hf : fc_ok [(20, [0, 0, 3], [31, 1, 3, 1, 1, 7, 0, 1, 1, 9, -1, 0, 0]), (20, [0, 0, 3], [31, 1, 3, 1, 1, 7, 0, -1, 1, 9, 1, 0, 0])] ta ws vs := hf
  obtain ⟨f0, hf⟩ := fc_un (by decide) hf
  have f0 : (1 * w_fi ws (n_v vs 0) 7 + 0 ≤ 3) ∨ (1 * w_fi ws (n_v vs 0) 9 + ((-1) * v_iv (n_v vs 3) + 0) ≤ 0) := f0
  obtain ⟨f1, hf⟩ := fc_un (by decide) hf
  have f1 : (1 * w_fi ws (n_v vs 0) 7 + 0 ≤ 3) ∨ ((-1) * w_fi ws (n_v vs 0) 9 + (1 * v_iv (n_v vs 3) + 0) ≤ 0) := f1
  have kz_0_7 : (-128) ≤ w_fi ws (n_v vs 0) 7 ∧ w_fi ws (n_v vs 0) 7 ≤ 127 := tv_rng (th_fd hD hth r0 (g := GG_8) rfl (k := 7) (t := (0, -128, 127, [])) rfl rfl)
  have kz_0_9 : (-2147483648) ≤ w_fi ws (n_v vs 0) 9 ∧ w_fi ws (n_v vs 0) 9 ≤ 1000000 := tv_rng (th_fd hD hth r0 (g := GG_8) rfl (k := 9) (t := (0, -2147483648, 1000000, [])) rfl rfl)
  have kv : (-2147483648) ≤ w_fi ws (n_v vs 0) 9 ∧ w_fi ws (n_v vs 0) 9 ≤ 1000000 := tv_rng (th_fd hD hth r0 (g := GG_8) rfl (k := 9) (t := (0, -2147483648, 1000000, [])) rfl rfl)
  obtain ⟨x, ex, hx⟩ := iv_ex (ta := ta) (lo := (-2147483648)) (hi := 1000000) (z := w_fi ws (n_v vs 0) 9) (by omega) (by omega) (by decide) (by decide)
  have ex2 : v_iv (Value.int x) = w_fi ws (n_v vs 0) 9 := ex
  have ex3 : (-2147483648) ≤ v_iv (Value.int x) ∧ v_iv (Value.int x) ≤ 1000000 := tv_rng hx
  have e_0 : n_v (vs ++ [Value.int x]) 0 = n_v vs 0 := n_v_old (by rw [hl]; decide)
  have e_7 : n_v (vs ++ [Value.int x]) 7 = Value.int x := n_v_new hl
  have nf0 : fc_1 (20, [0, 7], [30, 0, 1, 1, 9, -1, 0, 0]) ws (vs ++ [Value.int x]) := by
    refine ⟨fun n hn => ?_, ?_⟩
    · have hn : n ∈ [0, 7] := hn
      rw [List.length_append, hl]
      simp only [List.mem_cons, List.not_mem_nil, or_false] at hn
      show n < 7 + 1; omega
    · show 1 * w_fi ws (n_v (vs ++ [Value.int x]) 0) 9 + ((-1) * v_iv (n_v (vs ++ [Value.int x]) 7) + 0) ≤ 0
      rw [e_0]
      rw [e_7]
      omega
  have nf1 : fc_1 (20, [0, 7], [30, 0, -1, 1, 9, 1, 0, 0]) ws (vs ++ [Value.int x]) := by
    refine ⟨fun n hn => ?_, ?_⟩
    · have hn : n ∈ [0, 7] := hn
      rw [List.length_append, hl]
      simp only [List.mem_cons, List.not_mem_nil, or_false] at hn
      show n < 7 + 1; omega
    · show (-1) * w_fi ws (n_v (vs ++ [Value.int x]) 0) 9 + (1 * v_iv (n_v (vs ++ [Value.int x]) 7) + 0) ≤ 0
      rw [e_0]
      rw [e_7]
      omega
  exact ⟨fun q hq => (by cases hq), [Value.int x], ag_one hx, List.forall_mem_cons.mpr ⟨⟨by decide, nf0⟩, List.forall_mem_cons.mpr ⟨⟨by decide, nf1⟩, (fun _ h => (by cases h))⟩⟩, (fun _ h => (by cases h))⟩
def o_Re_readValue_at_s5002_2 : or_T := (52, 10, [(0, (2, 0, 0, [8])), (7, (0, -2147483648, 1000000, [])), (8, (0, 61, 61, [])), (9, (0, 61, 61, []))], [(7, [8, 9], [0]), (9, [8, 0], [7]), (20, [0, 0, 7], [31, 1, 3, 1, 1, 7, 0, 1, 1, 9, -1, 0, 0]), (20, [0, 0, 7], [31, 1, 3, 1, 1, 7, 0, -1, 1, 9, 1, 0, 0])], [], [(0, -2147483648, 1000000, [])], [(20, [0, 10], [30, 0, 1, 1, 9, -1, 0, 0]), (20, [0, 10], [30, 0, -1, 1, 9, 1, 0, 0])], [], [])
theorem oo_Re_readValue_at_s5002_2 {kA : Nat → ClassId} : or_ok kA GG o_Re_readValue_at_s5002_2 := by
  intro A ta ws vs hD hth hl hk hds hf
  have hl : vs.length = 10 := hl
  have hk : ∀ q ∈ ([(0, (2, 0, 0, [8])), (7, (0, -2147483648, 1000000, [])), (8, (0, 61, 61, [])), (9, (0, 61, 61, []))] : List (Nat × tv_T)), tv_ok ta q.2 (n_v vs q.1) := hk
  obtain ⟨t0, hk⟩ := List.forall_mem_cons.mp hk
  have t0 : tv_ok ta (2, 0, 0, [8]) (n_v vs 0) := t0
  have r0 : ta (v_ad (n_v vs 0)) = some 8 := tv_rg t0
  obtain ⟨t7, hk⟩ := List.forall_mem_cons.mp hk
  have t7 : tv_ok ta (0, -2147483648, 1000000, []) (n_v vs 7) := t7
  have k7 : (-2147483648) ≤ v_iv (n_v vs 7) ∧ v_iv (n_v vs 7) ≤ 1000000 := tv_rng t7
  obtain ⟨t8, hk⟩ := List.forall_mem_cons.mp hk
  have t8 : tv_ok ta (0, 61, 61, []) (n_v vs 8) := t8
  have k8 : 61 ≤ v_iv (n_v vs 8) ∧ v_iv (n_v vs 8) ≤ 61 := tv_rng t8
  obtain ⟨t9, hk⟩ := List.forall_mem_cons.mp hk
  have t9 : tv_ok ta (0, 61, 61, []) (n_v vs 9) := t9
  have k9 : 61 ≤ v_iv (n_v vs 9) ∧ v_iv (n_v vs 9) ≤ 61 := tv_rng t9
  have hf : fc_ok [(7, [8, 9], [0]), (9, [8, 0], [7]), (20, [0, 0, 7], [31, 1, 3, 1, 1, 7, 0, 1, 1, 9, -1, 0, 0]), (20, [0, 0, 7], [31, 1, 3, 1, 1, 7, 0, -1, 1, 9, 1, 0, 0])] ta ws vs := hf
  obtain ⟨f0, hf⟩ := fc_un (by decide) hf
  have f0 : v_iv (n_v vs 8) = v_iv (n_v vs 9) := f0
  obtain ⟨f1, hf⟩ := fc_un (by decide) hf
  have f1 : n_v vs 8 = w_fd ws (v_ad (n_v vs 0)) 7 := f1
  obtain ⟨f2, hf⟩ := fc_un (by decide) hf
  have f2 : (1 * w_fi ws (n_v vs 0) 7 + 0 ≤ 3) ∨ (1 * w_fi ws (n_v vs 0) 9 + ((-1) * v_iv (n_v vs 7) + 0) ≤ 0) := f2
  obtain ⟨f3, hf⟩ := fc_un (by decide) hf
  have f3 : (1 * w_fi ws (n_v vs 0) 7 + 0 ≤ 3) ∨ ((-1) * w_fi ws (n_v vs 0) 9 + (1 * v_iv (n_v vs 7) + 0) ≤ 0) := f3
  have g1 : v_iv (n_v vs 8) = w_fi ws (n_v vs 0) 7 := congrArg v_iv f1
  have kz_0_7 : (-128) ≤ w_fi ws (n_v vs 0) 7 ∧ w_fi ws (n_v vs 0) 7 ≤ 127 := tv_rng (th_fd hD hth r0 (g := GG_8) rfl (k := 7) (t := (0, -128, 127, [])) rfl rfl)
  have kz_0_9 : (-2147483648) ≤ w_fi ws (n_v vs 0) 9 ∧ w_fi ws (n_v vs 0) 9 ≤ 1000000 := tv_rng (th_fd hD hth r0 (g := GG_8) rfl (k := 9) (t := (0, -2147483648, 1000000, [])) rfl rfl)
  have kv : (-2147483648) ≤ w_fi ws (n_v vs 0) 9 ∧ w_fi ws (n_v vs 0) 9 ≤ 1000000 := tv_rng (th_fd hD hth r0 (g := GG_8) rfl (k := 9) (t := (0, -2147483648, 1000000, [])) rfl rfl)
  obtain ⟨x, ex, hx⟩ := iv_ex (ta := ta) (lo := (-2147483648)) (hi := 1000000) (z := w_fi ws (n_v vs 0) 9) (by omega) (by omega) (by decide) (by decide)
  have ex2 : v_iv (Value.int x) = w_fi ws (n_v vs 0) 9 := ex
  have ex3 : (-2147483648) ≤ v_iv (Value.int x) ∧ v_iv (Value.int x) ≤ 1000000 := tv_rng hx
  have e_0 : n_v (vs ++ [Value.int x]) 0 = n_v vs 0 := n_v_old (by rw [hl]; decide)
  have e_10 : n_v (vs ++ [Value.int x]) 10 = Value.int x := n_v_new hl
  have nf0 : fc_1 (20, [0, 10], [30, 0, 1, 1, 9, -1, 0, 0]) ws (vs ++ [Value.int x]) := by
    refine ⟨fun n hn => ?_, ?_⟩
    · have hn : n ∈ [0, 10] := hn
      rw [List.length_append, hl]
      simp only [List.mem_cons, List.not_mem_nil, or_false] at hn
      show n < 10 + 1; omega
    · show 1 * w_fi ws (n_v (vs ++ [Value.int x]) 0) 9 + ((-1) * v_iv (n_v (vs ++ [Value.int x]) 10) + 0) ≤ 0
      rw [e_0]
      rw [e_10]
      omega
  have nf1 : fc_1 (20, [0, 10], [30, 0, -1, 1, 9, 1, 0, 0]) ws (vs ++ [Value.int x]) := by
    refine ⟨fun n hn => ?_, ?_⟩
    · have hn : n ∈ [0, 10] := hn
      rw [List.length_append, hl]
      simp only [List.mem_cons, List.not_mem_nil, or_false] at hn
      show n < 10 + 1; omega
    · show (-1) * w_fi ws (n_v (vs ++ [Value.int x]) 0) 9 + (1 * v_iv (n_v (vs ++ [Value.int x]) 10) + 0) ≤ 0
      rw [e_0]
      rw [e_10]
      omega
  exact ⟨fun q hq => (by cases hq), [Value.int x], ag_one hx, List.forall_mem_cons.mpr ⟨⟨by decide, nf0⟩, List.forall_mem_cons.mpr ⟨⟨by decide, nf1⟩, (fun _ h => (by cases h))⟩⟩, (fun _ h => (by cases h))⟩
def o_Re_readValue_at_s5002_3 : or_T := (90, 17, [(0, (2, 0, 0, [8])), (2, (0, 99, 99, [])), (10, (0, -2147483648, 1000000, [])), (16, (0, 0, 0, []))], [(20, [0, 0, 10], [31, 1, 3, 1, 1, 7, 0, 1, 1, 9, -1, 0, 0]), (20, [0, 0, 10], [31, 1, 3, 1, 1, 7, 0, -1, 1, 9, 1, 0, 0])], [], [], [(20, [16, 0, 2], [31, 1, 0, 1, 0, 0, 0, 1, 1, 9, -1, 0, 0]), (20, [16, 0], [31, 1, 0, 1, 0, 0, -1, -1, 1, 9])], [], [])
theorem oo_Re_readValue_at_s5002_3 {kA : Nat → ClassId} : or_ok kA GG o_Re_readValue_at_s5002_3 := by
  intro A ta ws vs hD hth hl hk hds hf
  have hl : vs.length = 17 := hl
  have hk : ∀ q ∈ ([(0, (2, 0, 0, [8])), (2, (0, 99, 99, [])), (10, (0, -2147483648, 1000000, [])), (16, (0, 0, 0, []))] : List (Nat × tv_T)), tv_ok ta q.2 (n_v vs q.1) := hk
  obtain ⟨t0, hk⟩ := List.forall_mem_cons.mp hk
  have t0 : tv_ok ta (2, 0, 0, [8]) (n_v vs 0) := t0
  have r0 : ta (v_ad (n_v vs 0)) = some 8 := tv_rg t0
  obtain ⟨t2, hk⟩ := List.forall_mem_cons.mp hk
  have t2 : tv_ok ta (0, 99, 99, []) (n_v vs 2) := t2
  have k2 : 99 ≤ v_iv (n_v vs 2) ∧ v_iv (n_v vs 2) ≤ 99 := tv_rng t2
  obtain ⟨t10, hk⟩ := List.forall_mem_cons.mp hk
  have t10 : tv_ok ta (0, -2147483648, 1000000, []) (n_v vs 10) := t10
  have k10 : (-2147483648) ≤ v_iv (n_v vs 10) ∧ v_iv (n_v vs 10) ≤ 1000000 := tv_rng t10
  obtain ⟨t16, hk⟩ := List.forall_mem_cons.mp hk
  have t16 : tv_ok ta (0, 0, 0, []) (n_v vs 16) := t16
  have k16 : 0 ≤ v_iv (n_v vs 16) ∧ v_iv (n_v vs 16) ≤ 0 := tv_rng t16
  have hf : fc_ok [(20, [0, 0, 10], [31, 1, 3, 1, 1, 7, 0, 1, 1, 9, -1, 0, 0]), (20, [0, 0, 10], [31, 1, 3, 1, 1, 7, 0, -1, 1, 9, 1, 0, 0])] ta ws vs := hf
  obtain ⟨f0, hf⟩ := fc_un (by decide) hf
  have f0 : (1 * w_fi ws (n_v vs 0) 7 + 0 ≤ 3) ∨ (1 * w_fi ws (n_v vs 0) 9 + ((-1) * v_iv (n_v vs 10) + 0) ≤ 0) := f0
  obtain ⟨f1, hf⟩ := fc_un (by decide) hf
  have f1 : (1 * w_fi ws (n_v vs 0) 7 + 0 ≤ 3) ∨ ((-1) * w_fi ws (n_v vs 0) 9 + (1 * v_iv (n_v vs 10) + 0) ≤ 0) := f1
  have kz_0_7 : (-128) ≤ w_fi ws (n_v vs 0) 7 ∧ w_fi ws (n_v vs 0) 7 ≤ 127 := tv_rng (th_fd hD hth r0 (g := GG_8) rfl (k := 7) (t := (0, -128, 127, [])) rfl rfl)
  have kz_0_9 : (-2147483648) ≤ w_fi ws (n_v vs 0) 9 ∧ w_fi ws (n_v vs 0) 9 ≤ 1000000 := tv_rng (th_fd hD hth r0 (g := GG_8) rfl (k := 9) (t := (0, -2147483648, 1000000, [])) rfl rfl)
  have nf0 : fc_1 (20, [16, 0, 2], [31, 1, 0, 1, 0, 0, 0, 1, 1, 9, -1, 0, 0]) ws (vs) := by
    refine ⟨fun n hn => ?_, ?_⟩
    · have hn : n ∈ [16, 0, 2] := hn
      rw [hl]
      simp only [List.mem_cons, List.not_mem_nil, or_false] at hn
      show n < 17; omega
    · show (1 * v_iv (n_v vs 16) + 0 ≤ 0) ∨ (1 * w_fi ws (n_v vs 0) 9 + ((-1) * v_iv (n_v vs 2) + 0) ≤ 0)
      omega
  have nf1 : fc_1 (20, [16, 0], [31, 1, 0, 1, 0, 0, -1, -1, 1, 9]) ws (vs) := by
    refine ⟨fun n hn => ?_, ?_⟩
    · have hn : n ∈ [16, 0] := hn
      rw [hl]
      simp only [List.mem_cons, List.not_mem_nil, or_false] at hn
      show n < 17; omega
    · show (1 * v_iv (n_v vs 16) + 0 ≤ 0) ∨ ((-1) * w_fi ws (n_v vs 0) 9 + 0 ≤ (-1))
      omega
  refine ⟨(fun _ h => (by cases h)), [], trivial, ?_, (fun _ h => (by cases h))⟩
  rw [List.append_nil]
  exact List.forall_mem_cons.mpr ⟨⟨by decide, nf0⟩, List.forall_mem_cons.mpr ⟨⟨by decide, nf1⟩, (fun _ h => (by cases h))⟩⟩
def o_Re_readValue_at_s5002_4 : or_T := (92, 15, [(0, (2, 0, 0, [8])), (2, (0, 99, 99, [])), (10, (0, -2147483648, 1000000, [])), (11, (0, 3, 3, [])), (12, (0, 3, 3, [])), (13, (0, 1, 99, [])), (14, (0, 1, 1, []))], [(7, [13, 2], [5]), (9, [13, 0], [9]), (7, [13, 14], [3]), (7, [11, 12], [0]), (9, [11, 0], [7]), (20, [0, 0, 10], [31, 1, 3, 1, 1, 7, 0, 1, 1, 9, -1, 0, 0]), (20, [0, 0, 10], [31, 1, 3, 1, 1, 7, 0, -1, 1, 9, 1, 0, 0])], [], [(0, -2147483648, 1000000, [])], [(20, [0, 15], [30, 0, 1, 1, 9, -1, 0, 0]), (20, [0, 15], [30, 0, -1, 1, 9, 1, 0, 0]), (23, [15, 13], [0, 1, -1]), (23, [15, 13], [0, -1, 1])], [], [])
theorem oo_Re_readValue_at_s5002_4 {kA : Nat → ClassId} : or_ok kA GG o_Re_readValue_at_s5002_4 := by
  intro A ta ws vs hD hth hl hk hds hf
  have hl : vs.length = 15 := hl
  have hk : ∀ q ∈ ([(0, (2, 0, 0, [8])), (2, (0, 99, 99, [])), (10, (0, -2147483648, 1000000, [])), (11, (0, 3, 3, [])), (12, (0, 3, 3, [])), (13, (0, 1, 99, [])), (14, (0, 1, 1, []))] : List (Nat × tv_T)), tv_ok ta q.2 (n_v vs q.1) := hk
  obtain ⟨t0, hk⟩ := List.forall_mem_cons.mp hk
  have t0 : tv_ok ta (2, 0, 0, [8]) (n_v vs 0) := t0
  have r0 : ta (v_ad (n_v vs 0)) = some 8 := tv_rg t0
  obtain ⟨t2, hk⟩ := List.forall_mem_cons.mp hk
  have t2 : tv_ok ta (0, 99, 99, []) (n_v vs 2) := t2
  have k2 : 99 ≤ v_iv (n_v vs 2) ∧ v_iv (n_v vs 2) ≤ 99 := tv_rng t2
  obtain ⟨t10, hk⟩ := List.forall_mem_cons.mp hk
  have t10 : tv_ok ta (0, -2147483648, 1000000, []) (n_v vs 10) := t10
  have k10 : (-2147483648) ≤ v_iv (n_v vs 10) ∧ v_iv (n_v vs 10) ≤ 1000000 := tv_rng t10
  obtain ⟨t11, hk⟩ := List.forall_mem_cons.mp hk
  have t11 : tv_ok ta (0, 3, 3, []) (n_v vs 11) := t11
  have k11 : 3 ≤ v_iv (n_v vs 11) ∧ v_iv (n_v vs 11) ≤ 3 := tv_rng t11
  obtain ⟨t12, hk⟩ := List.forall_mem_cons.mp hk
  have t12 : tv_ok ta (0, 3, 3, []) (n_v vs 12) := t12
  have k12 : 3 ≤ v_iv (n_v vs 12) ∧ v_iv (n_v vs 12) ≤ 3 := tv_rng t12
  obtain ⟨t13, hk⟩ := List.forall_mem_cons.mp hk
  have t13 : tv_ok ta (0, 1, 99, []) (n_v vs 13) := t13
  have k13 : 1 ≤ v_iv (n_v vs 13) ∧ v_iv (n_v vs 13) ≤ 99 := tv_rng t13
  obtain ⟨t14, hk⟩ := List.forall_mem_cons.mp hk
  have t14 : tv_ok ta (0, 1, 1, []) (n_v vs 14) := t14
  have k14 : 1 ≤ v_iv (n_v vs 14) ∧ v_iv (n_v vs 14) ≤ 1 := tv_rng t14
  have hf : fc_ok [(7, [13, 2], [5]), (9, [13, 0], [9]), (7, [13, 14], [3]), (7, [11, 12], [0]), (9, [11, 0], [7]), (20, [0, 0, 10], [31, 1, 3, 1, 1, 7, 0, 1, 1, 9, -1, 0, 0]), (20, [0, 0, 10], [31, 1, 3, 1, 1, 7, 0, -1, 1, 9, 1, 0, 0])] ta ws vs := hf
  obtain ⟨f0, hf⟩ := fc_un (by decide) hf
  have f0 : v_iv (n_v vs 13) ≤ v_iv (n_v vs 2) := f0
  obtain ⟨f1, hf⟩ := fc_un (by decide) hf
  have f1 : n_v vs 13 = w_fd ws (v_ad (n_v vs 0)) 9 := f1
  obtain ⟨f2, hf⟩ := fc_un (by decide) hf
  have f2 : v_iv (n_v vs 14) ≤ v_iv (n_v vs 13) := f2
  obtain ⟨f3, hf⟩ := fc_un (by decide) hf
  have f3 : v_iv (n_v vs 11) = v_iv (n_v vs 12) := f3
  obtain ⟨f4, hf⟩ := fc_un (by decide) hf
  have f4 : n_v vs 11 = w_fd ws (v_ad (n_v vs 0)) 7 := f4
  obtain ⟨f5, hf⟩ := fc_un (by decide) hf
  have f5 : (1 * w_fi ws (n_v vs 0) 7 + 0 ≤ 3) ∨ (1 * w_fi ws (n_v vs 0) 9 + ((-1) * v_iv (n_v vs 10) + 0) ≤ 0) := f5
  obtain ⟨f6, hf⟩ := fc_un (by decide) hf
  have f6 : (1 * w_fi ws (n_v vs 0) 7 + 0 ≤ 3) ∨ ((-1) * w_fi ws (n_v vs 0) 9 + (1 * v_iv (n_v vs 10) + 0) ≤ 0) := f6
  have g1 : v_iv (n_v vs 13) = w_fi ws (n_v vs 0) 9 := congrArg v_iv f1
  have g4 : v_iv (n_v vs 11) = w_fi ws (n_v vs 0) 7 := congrArg v_iv f4
  have kz_0_7 : (-128) ≤ w_fi ws (n_v vs 0) 7 ∧ w_fi ws (n_v vs 0) 7 ≤ 127 := tv_rng (th_fd hD hth r0 (g := GG_8) rfl (k := 7) (t := (0, -128, 127, [])) rfl rfl)
  have kz_0_9 : (-2147483648) ≤ w_fi ws (n_v vs 0) 9 ∧ w_fi ws (n_v vs 0) 9 ≤ 1000000 := tv_rng (th_fd hD hth r0 (g := GG_8) rfl (k := 9) (t := (0, -2147483648, 1000000, [])) rfl rfl)
  have kv : (-2147483648) ≤ w_fi ws (n_v vs 0) 9 ∧ w_fi ws (n_v vs 0) 9 ≤ 1000000 := tv_rng (th_fd hD hth r0 (g := GG_8) rfl (k := 9) (t := (0, -2147483648, 1000000, [])) rfl rfl)
  obtain ⟨x, ex, hx⟩ := iv_ex (ta := ta) (lo := (-2147483648)) (hi := 1000000) (z := w_fi ws (n_v vs 0) 9) (by omega) (by omega) (by decide) (by decide)
  have ex2 : v_iv (Value.int x) = w_fi ws (n_v vs 0) 9 := ex
  have ex3 : (-2147483648) ≤ v_iv (Value.int x) ∧ v_iv (Value.int x) ≤ 1000000 := tv_rng hx
  have e_0 : n_v (vs ++ [Value.int x]) 0 = n_v vs 0 := n_v_old (by rw [hl]; decide)
  have e_13 : n_v (vs ++ [Value.int x]) 13 = n_v vs 13 := n_v_old (by rw [hl]; decide)
  have e_15 : n_v (vs ++ [Value.int x]) 15 = Value.int x := n_v_new hl
  have nf0 : fc_1 (20, [0, 15], [30, 0, 1, 1, 9, -1, 0, 0]) ws (vs ++ [Value.int x]) := by
    refine ⟨fun n hn => ?_, ?_⟩
    · have hn : n ∈ [0, 15] := hn
      rw [List.length_append, hl]
      simp only [List.mem_cons, List.not_mem_nil, or_false] at hn
      show n < 15 + 1; omega
    · show 1 * w_fi ws (n_v (vs ++ [Value.int x]) 0) 9 + ((-1) * v_iv (n_v (vs ++ [Value.int x]) 15) + 0) ≤ 0
      rw [e_0]
      rw [e_15]
      omega
  have nf1 : fc_1 (20, [0, 15], [30, 0, -1, 1, 9, 1, 0, 0]) ws (vs ++ [Value.int x]) := by
    refine ⟨fun n hn => ?_, ?_⟩
    · have hn : n ∈ [0, 15] := hn
      rw [List.length_append, hl]
      simp only [List.mem_cons, List.not_mem_nil, or_false] at hn
      show n < 15 + 1; omega
    · show (-1) * w_fi ws (n_v (vs ++ [Value.int x]) 0) 9 + (1 * v_iv (n_v (vs ++ [Value.int x]) 15) + 0) ≤ 0
      rw [e_0]
      rw [e_15]
      omega
  have nf2 : fc_1 (23, [15, 13], [0, 1, -1]) ws (vs ++ [Value.int x]) := by
    refine ⟨fun n hn => ?_, ?_⟩
    · have hn : n ∈ [15, 13] := hn
      rw [List.length_append, hl]
      simp only [List.mem_cons, List.not_mem_nil, or_false] at hn
      show n < 15 + 1; omega
    · show 1 * v_iv (n_v (vs ++ [Value.int x]) 15) + ((-1) * v_iv (n_v (vs ++ [Value.int x]) 13) + 0) ≤ 0
      rw [e_13]
      rw [e_15]
      omega
  have nf3 : fc_1 (23, [15, 13], [0, -1, 1]) ws (vs ++ [Value.int x]) := by
    refine ⟨fun n hn => ?_, ?_⟩
    · have hn : n ∈ [15, 13] := hn
      rw [List.length_append, hl]
      simp only [List.mem_cons, List.not_mem_nil, or_false] at hn
      show n < 15 + 1; omega
    · show (-1) * v_iv (n_v (vs ++ [Value.int x]) 15) + (1 * v_iv (n_v (vs ++ [Value.int x]) 13) + 0) ≤ 0
      rw [e_13]
      rw [e_15]
      omega
  exact ⟨fun q hq => (by cases hq), [Value.int x], ag_one hx, List.forall_mem_cons.mpr ⟨⟨by decide, nf0⟩, List.forall_mem_cons.mpr ⟨⟨by decide, nf1⟩, List.forall_mem_cons.mpr ⟨⟨by decide, nf2⟩, List.forall_mem_cons.mpr ⟨⟨by decide, nf3⟩, (fun _ h => (by cases h))⟩⟩⟩⟩, (fun _ h => (by cases h))⟩
def o_Re_readValue_at_s5002_5 : or_T := (131, 20, [(0, (2, 0, 0, [8])), (2, (0, 99, 99, [])), (13, (0, 1, 99, [])), (14, (0, 1, 1, [])), (15, (0, -2147483648, 1000000, [])), (16, (0, 93, 93, [])), (17, (0, 2, 2, [])), (18, (0, 93, 93, [])), (19, (0, 1, 1, []))], [(7, [16, 18], [0]), (9, [16, 0], [7]), (7, [16, 17], [1]), (23, [15, 13], [0, 1, -1]), (23, [15, 13], [0, -1, 1]), (20, [0, 0, 15], [31, 1, 3, 1, 1, 7, 0, 1, 1, 9, -1, 0, 0]), (20, [0, 0, 15], [31, 1, 3, 1, 1, 7, 0, -1, 1, 9, 1, 0, 0]), (102, [15], [0, 8006, 8007, 8008, 8009]), (23, [15, 13], [0, 1, -1]), (23, [15, 13], [0, -1, 1]), (7, [13, 2], [5]), (7, [13, 14], [3])], [], [], [(20, [19, 0, 2], [31, 1, 0, 1, 0, 0, 0, 1, 1, 9, -1, 0, 0]), (20, [19, 0], [31, 1, 0, 1, 0, 0, -1, -1, 1, 9])], [], [])
theorem oo_Re_readValue_at_s5002_5 {kA : Nat → ClassId} : or_ok kA GG o_Re_readValue_at_s5002_5 := by
  intro A ta ws vs hD hth hl hk hds hf
  have hl : vs.length = 20 := hl
  have hk : ∀ q ∈ ([(0, (2, 0, 0, [8])), (2, (0, 99, 99, [])), (13, (0, 1, 99, [])), (14, (0, 1, 1, [])), (15, (0, -2147483648, 1000000, [])), (16, (0, 93, 93, [])), (17, (0, 2, 2, [])), (18, (0, 93, 93, [])), (19, (0, 1, 1, []))] : List (Nat × tv_T)), tv_ok ta q.2 (n_v vs q.1) := hk
  obtain ⟨t0, hk⟩ := List.forall_mem_cons.mp hk
  have t0 : tv_ok ta (2, 0, 0, [8]) (n_v vs 0) := t0
  have r0 : ta (v_ad (n_v vs 0)) = some 8 := tv_rg t0
  obtain ⟨t2, hk⟩ := List.forall_mem_cons.mp hk
  have t2 : tv_ok ta (0, 99, 99, []) (n_v vs 2) := t2
  have k2 : 99 ≤ v_iv (n_v vs 2) ∧ v_iv (n_v vs 2) ≤ 99 := tv_rng t2
  obtain ⟨t13, hk⟩ := List.forall_mem_cons.mp hk
  have t13 : tv_ok ta (0, 1, 99, []) (n_v vs 13) := t13
  have k13 : 1 ≤ v_iv (n_v vs 13) ∧ v_iv (n_v vs 13) ≤ 99 := tv_rng t13
  obtain ⟨t14, hk⟩ := List.forall_mem_cons.mp hk
  have t14 : tv_ok ta (0, 1, 1, []) (n_v vs 14) := t14
  have k14 : 1 ≤ v_iv (n_v vs 14) ∧ v_iv (n_v vs 14) ≤ 1 := tv_rng t14
  obtain ⟨t15, hk⟩ := List.forall_mem_cons.mp hk
  have t15 : tv_ok ta (0, -2147483648, 1000000, []) (n_v vs 15) := t15
  have k15 : (-2147483648) ≤ v_iv (n_v vs 15) ∧ v_iv (n_v vs 15) ≤ 1000000 := tv_rng t15
  obtain ⟨t16, hk⟩ := List.forall_mem_cons.mp hk
  have t16 : tv_ok ta (0, 93, 93, []) (n_v vs 16) := t16
  have k16 : 93 ≤ v_iv (n_v vs 16) ∧ v_iv (n_v vs 16) ≤ 93 := tv_rng t16
  obtain ⟨t17, hk⟩ := List.forall_mem_cons.mp hk
  have t17 : tv_ok ta (0, 2, 2, []) (n_v vs 17) := t17
  have k17 : 2 ≤ v_iv (n_v vs 17) ∧ v_iv (n_v vs 17) ≤ 2 := tv_rng t17
  obtain ⟨t18, hk⟩ := List.forall_mem_cons.mp hk
  have t18 : tv_ok ta (0, 93, 93, []) (n_v vs 18) := t18
  have k18 : 93 ≤ v_iv (n_v vs 18) ∧ v_iv (n_v vs 18) ≤ 93 := tv_rng t18
  obtain ⟨t19, hk⟩ := List.forall_mem_cons.mp hk
  have t19 : tv_ok ta (0, 1, 1, []) (n_v vs 19) := t19
  have k19 : 1 ≤ v_iv (n_v vs 19) ∧ v_iv (n_v vs 19) ≤ 1 := tv_rng t19
  have hf : fc_ok [(7, [16, 18], [0]), (9, [16, 0], [7]), (7, [16, 17], [1]), (23, [15, 13], [0, 1, -1]), (23, [15, 13], [0, -1, 1]), (20, [0, 0, 15], [31, 1, 3, 1, 1, 7, 0, 1, 1, 9, -1, 0, 0]), (20, [0, 0, 15], [31, 1, 3, 1, 1, 7, 0, -1, 1, 9, 1, 0, 0]), (102, [15], [0, 8006, 8007, 8008, 8009]), (23, [15, 13], [0, 1, -1]), (23, [15, 13], [0, -1, 1]), (7, [13, 2], [5]), (7, [13, 14], [3])] ta ws vs := hf
  obtain ⟨f0, hf⟩ := fc_un (by decide) hf
  have f0 : v_iv (n_v vs 16) = v_iv (n_v vs 18) := f0
  obtain ⟨f1, hf⟩ := fc_un (by decide) hf
  have f1 : n_v vs 16 = w_fd ws (v_ad (n_v vs 0)) 7 := f1
  obtain ⟨f2, hf⟩ := fc_un (by decide) hf
  have f2 : v_iv (n_v vs 16) ≠ v_iv (n_v vs 17) := f2
  obtain ⟨f3, hf⟩ := fc_un (by decide) hf
  have f3 : 1 * v_iv (n_v vs 15) + ((-1) * v_iv (n_v vs 13) + 0) ≤ 0 := f3
  obtain ⟨f4, hf⟩ := fc_un (by decide) hf
  have f4 : (-1) * v_iv (n_v vs 15) + (1 * v_iv (n_v vs 13) + 0) ≤ 0 := f4
  obtain ⟨f5, hf⟩ := fc_un (by decide) hf
  have f5 : (1 * w_fi ws (n_v vs 0) 7 + 0 ≤ 3) ∨ (1 * w_fi ws (n_v vs 0) 9 + ((-1) * v_iv (n_v vs 15) + 0) ≤ 0) := f5
  obtain ⟨f6, hf⟩ := fc_un (by decide) hf
  have f6 : (1 * w_fi ws (n_v vs 0) 7 + 0 ≤ 3) ∨ ((-1) * w_fi ws (n_v vs 0) 9 + (1 * v_iv (n_v vs 15) + 0) ≤ 0) := f6
  obtain ⟨ta1, w1, le1, ⟨_, s1⟩, hf⟩ := fc_us (by decide) hf
  obtain ⟨f8, hf⟩ := fc_un (by decide) hf
  have f8 : 1 * v_iv (n_v vs 15) + ((-1) * v_iv (n_v vs 13) + 0) ≤ 0 := f8
  obtain ⟨f9, hf⟩ := fc_un (by decide) hf
  have f9 : (-1) * v_iv (n_v vs 15) + (1 * v_iv (n_v vs 13) + 0) ≤ 0 := f9
  obtain ⟨f10, hf⟩ := fc_un (by decide) hf
  have f10 : v_iv (n_v vs 13) ≤ v_iv (n_v vs 2) := f10
  obtain ⟨f11, hf⟩ := fc_un (by decide) hf
  have f11 : v_iv (n_v vs 14) ≤ v_iv (n_v vs 13) := f11
  have g1 : v_iv (n_v vs 16) = w_fi ws (n_v vs 0) 7 := congrArg v_iv f1
  have kz_0_7 : (-128) ≤ w_fi ws (n_v vs 0) 7 ∧ w_fi ws (n_v vs 0) 7 ≤ 127 := tv_rng (th_fd hD hth r0 (g := GG_8) rfl (k := 7) (t := (0, -128, 127, [])) rfl rfl)
  have kz_0_9 : (-2147483648) ≤ w_fi ws (n_v vs 0) 9 ∧ w_fi ws (n_v vs 0) 9 ≤ 1000000 := tv_rng (th_fd hD hth r0 (g := GG_8) rfl (k := 9) (t := (0, -2147483648, 1000000, [])) rfl rfl)
  have nf0 : fc_1 (20, [19, 0, 2], [31, 1, 0, 1, 0, 0, 0, 1, 1, 9, -1, 0, 0]) ws (vs) := by
    refine ⟨fun n hn => ?_, ?_⟩
    · have hn : n ∈ [19, 0, 2] := hn
      rw [hl]
      simp only [List.mem_cons, List.not_mem_nil, or_false] at hn
      show n < 20; omega
    · show (1 * v_iv (n_v vs 19) + 0 ≤ 0) ∨ (1 * w_fi ws (n_v vs 0) 9 + ((-1) * v_iv (n_v vs 2) + 0) ≤ 0)
      omega
  have nf1 : fc_1 (20, [19, 0], [31, 1, 0, 1, 0, 0, -1, -1, 1, 9]) ws (vs) := by
    refine ⟨fun n hn => ?_, ?_⟩
    · have hn : n ∈ [19, 0] := hn
      rw [hl]
      simp only [List.mem_cons, List.not_mem_nil, or_false] at hn
      show n < 20; omega
    · show (1 * v_iv (n_v vs 19) + 0 ≤ 0) ∨ ((-1) * w_fi ws (n_v vs 0) 9 + 0 ≤ (-1))
      omega
  refine ⟨(fun _ h => (by cases h)), [], trivial, ?_, (fun _ h => (by cases h))⟩
  rw [List.append_nil]
  exact List.forall_mem_cons.mpr ⟨⟨by decide, nf0⟩, List.forall_mem_cons.mpr ⟨⟨by decide, nf1⟩, (fun _ h => (by cases h))⟩⟩
def o_Re_readValue_at_s5002_6 : or_T := (131, 22, [(0, (2, 0, 0, [8])), (2, (0, 99, 99, [])), (13, (0, 1, 99, [])), (14, (0, 1, 1, [])), (15, (0, -2147483648, 1000000, [])), (21, (0, 0, 0, []))], [(23, [15, 13], [0, 1, -1]), (23, [15, 13], [0, -1, 1]), (20, [0, 0, 15], [31, 1, 3, 1, 1, 7, 0, 1, 1, 9, -1, 0, 0]), (20, [0, 0, 15], [31, 1, 3, 1, 1, 7, 0, -1, 1, 9, 1, 0, 0]), (102, [19], [0, 8002, 8003]), (23, [15, 13], [0, 1, -1]), (23, [15, 13], [0, -1, 1]), (102, [15], [0, 8006, 8007, 8008, 8009]), (23, [15, 13], [0, 1, -1]), (23, [15, 13], [0, -1, 1]), (7, [13, 2], [5]), (7, [13, 14], [3])], [], [], [(20, [21, 0, 2], [31, 1, 0, 1, 0, 0, 0, 1, 1, 9, -1, 0, 0]), (20, [21, 0], [31, 1, 0, 1, 0, 0, -1, -1, 1, 9])], [], [])
theorem oo_Re_readValue_at_s5002_6 {kA : Nat → ClassId} : or_ok kA GG o_Re_readValue_at_s5002_6 := by
  intro A ta ws vs hD hth hl hk hds hf
  have hl : vs.length = 22 := hl
  have hk : ∀ q ∈ ([(0, (2, 0, 0, [8])), (2, (0, 99, 99, [])), (13, (0, 1, 99, [])), (14, (0, 1, 1, [])), (15, (0, -2147483648, 1000000, [])), (21, (0, 0, 0, []))] : List (Nat × tv_T)), tv_ok ta q.2 (n_v vs q.1) := hk
  obtain ⟨t0, hk⟩ := List.forall_mem_cons.mp hk
  have t0 : tv_ok ta (2, 0, 0, [8]) (n_v vs 0) := t0
  have r0 : ta (v_ad (n_v vs 0)) = some 8 := tv_rg t0
  obtain ⟨t2, hk⟩ := List.forall_mem_cons.mp hk
  have t2 : tv_ok ta (0, 99, 99, []) (n_v vs 2) := t2
  have k2 : 99 ≤ v_iv (n_v vs 2) ∧ v_iv (n_v vs 2) ≤ 99 := tv_rng t2
  obtain ⟨t13, hk⟩ := List.forall_mem_cons.mp hk
  have t13 : tv_ok ta (0, 1, 99, []) (n_v vs 13) := t13
  have k13 : 1 ≤ v_iv (n_v vs 13) ∧ v_iv (n_v vs 13) ≤ 99 := tv_rng t13
  obtain ⟨t14, hk⟩ := List.forall_mem_cons.mp hk
  have t14 : tv_ok ta (0, 1, 1, []) (n_v vs 14) := t14
  have k14 : 1 ≤ v_iv (n_v vs 14) ∧ v_iv (n_v vs 14) ≤ 1 := tv_rng t14
  obtain ⟨t15, hk⟩ := List.forall_mem_cons.mp hk
  have t15 : tv_ok ta (0, -2147483648, 1000000, []) (n_v vs 15) := t15
  have k15 : (-2147483648) ≤ v_iv (n_v vs 15) ∧ v_iv (n_v vs 15) ≤ 1000000 := tv_rng t15
  obtain ⟨t21, hk⟩ := List.forall_mem_cons.mp hk
  have t21 : tv_ok ta (0, 0, 0, []) (n_v vs 21) := t21
  have k21 : 0 ≤ v_iv (n_v vs 21) ∧ v_iv (n_v vs 21) ≤ 0 := tv_rng t21
  have hf : fc_ok [(23, [15, 13], [0, 1, -1]), (23, [15, 13], [0, -1, 1]), (20, [0, 0, 15], [31, 1, 3, 1, 1, 7, 0, 1, 1, 9, -1, 0, 0]), (20, [0, 0, 15], [31, 1, 3, 1, 1, 7, 0, -1, 1, 9, 1, 0, 0]), (102, [19], [0, 8002, 8003]), (23, [15, 13], [0, 1, -1]), (23, [15, 13], [0, -1, 1]), (102, [15], [0, 8006, 8007, 8008, 8009]), (23, [15, 13], [0, 1, -1]), (23, [15, 13], [0, -1, 1]), (7, [13, 2], [5]), (7, [13, 14], [3])] ta ws vs := hf
  obtain ⟨f0, hf⟩ := fc_un (by decide) hf
  have f0 : 1 * v_iv (n_v vs 15) + ((-1) * v_iv (n_v vs 13) + 0) ≤ 0 := f0
  obtain ⟨f1, hf⟩ := fc_un (by decide) hf
  have f1 : (-1) * v_iv (n_v vs 15) + (1 * v_iv (n_v vs 13) + 0) ≤ 0 := f1
  obtain ⟨f2, hf⟩ := fc_un (by decide) hf
  have f2 : (1 * w_fi ws (n_v vs 0) 7 + 0 ≤ 3) ∨ (1 * w_fi ws (n_v vs 0) 9 + ((-1) * v_iv (n_v vs 15) + 0) ≤ 0) := f2
  obtain ⟨f3, hf⟩ := fc_un (by decide) hf
  have f3 : (1 * w_fi ws (n_v vs 0) 7 + 0 ≤ 3) ∨ ((-1) * w_fi ws (n_v vs 0) 9 + (1 * v_iv (n_v vs 15) + 0) ≤ 0) := f3
  obtain ⟨ta1, w1, le1, ⟨_, s1⟩, hf⟩ := fc_us (by decide) hf
  obtain ⟨f5, hf⟩ := fc_un (by decide) hf
  have f5 : 1 * v_iv (n_v vs 15) + ((-1) * v_iv (n_v vs 13) + 0) ≤ 0 := f5
  obtain ⟨f6, hf⟩ := fc_un (by decide) hf
  have f6 : (-1) * v_iv (n_v vs 15) + (1 * v_iv (n_v vs 13) + 0) ≤ 0 := f6
  obtain ⟨ta2, w2, le2, ⟨_, s2⟩, hf⟩ := fc_us (by decide) hf
  obtain ⟨f8, hf⟩ := fc_un (by decide) hf
  have f8 : 1 * v_iv (n_v vs 15) + ((-1) * v_iv (n_v vs 13) + 0) ≤ 0 := f8
  obtain ⟨f9, hf⟩ := fc_un (by decide) hf
  have f9 : (-1) * v_iv (n_v vs 15) + (1 * v_iv (n_v vs 13) + 0) ≤ 0 := f9
  obtain ⟨f10, hf⟩ := fc_un (by decide) hf
  have f10 : v_iv (n_v vs 13) ≤ v_iv (n_v vs 2) := f10
  obtain ⟨f11, hf⟩ := fc_un (by decide) hf
  have f11 : v_iv (n_v vs 14) ≤ v_iv (n_v vs 13) := f11
  have kz_0_7 : (-128) ≤ w_fi ws (n_v vs 0) 7 ∧ w_fi ws (n_v vs 0) 7 ≤ 127 := tv_rng (th_fd hD hth r0 (g := GG_8) rfl (k := 7) (t := (0, -128, 127, [])) rfl rfl)
  have kz_0_9 : (-2147483648) ≤ w_fi ws (n_v vs 0) 9 ∧ w_fi ws (n_v vs 0) 9 ≤ 1000000 := tv_rng (th_fd hD hth r0 (g := GG_8) rfl (k := 9) (t := (0, -2147483648, 1000000, [])) rfl rfl)
  have nf0 : fc_1 (20, [21, 0, 2], [31, 1, 0, 1, 0, 0, 0, 1, 1, 9, -1, 0, 0]) ws (vs) := by
    refine ⟨fun n hn => ?_, ?_⟩
    · have hn : n ∈ [21, 0, 2] := hn
      rw [hl]
      simp only [List.mem_cons, List.not_mem_nil, or_false] at hn
      show n < 22; omega
    · show (1 * v_iv (n_v vs 21) + 0 ≤ 0) ∨ (1 * w_fi ws (n_v vs 0) 9 + ((-1) * v_iv (n_v vs 2) + 0) ≤ 0)
      omega
  have nf1 : fc_1 (20, [21, 0], [31, 1, 0, 1, 0, 0, -1, -1, 1, 9]) ws (vs) := by
    refine ⟨fun n hn => ?_, ?_⟩
    · have hn : n ∈ [21, 0] := hn
      rw [hl]
      simp only [List.mem_cons, List.not_mem_nil, or_false] at hn
      show n < 22; omega
    · show (1 * v_iv (n_v vs 21) + 0 ≤ 0) ∨ ((-1) * w_fi ws (n_v vs 0) 9 + 0 ≤ (-1))
      omega
  refine ⟨(fun _ h => (by cases h)), [], trivial, ?_, (fun _ h => (by cases h))⟩
  rw [List.append_nil]
  exact List.forall_mem_cons.mpr ⟨⟨by decide, nf0⟩, List.forall_mem_cons.mpr ⟨⟨by decide, nf1⟩, (fun _ h => (by cases h))⟩⟩
def o_Re_readValue_at_s5002_7 : or_T := (108, 20, [(0, (2, 0, 0, [8])), (2, (0, 99, 99, [])), (13, (0, 1, 99, [])), (14, (0, 1, 1, [])), (15, (0, -2147483648, 1000000, [])), (19, (0, 0, 0, []))], [(23, [15, 13], [0, 1, -1]), (23, [15, 13], [0, -1, 1]), (20, [0, 0, 15], [31, 1, 3, 1, 1, 7, 0, 1, 1, 9, -1, 0, 0]), (20, [0, 0, 15], [31, 1, 3, 1, 1, 7, 0, -1, 1, 9, 1, 0, 0]), (102, [18], [0, 8002, 8003]), (23, [15, 13], [0, 1, -1]), (23, [15, 13], [0, -1, 1]), (102, [15], [0, 8006, 8007, 8008, 8009]), (23, [15, 13], [0, 1, -1]), (23, [15, 13], [0, -1, 1]), (7, [13, 2], [5]), (7, [13, 14], [3])], [], [], [(20, [19, 0, 2], [31, 1, 0, 1, 0, 0, 0, 1, 1, 9, -1, 0, 0]), (20, [19, 0], [31, 1, 0, 1, 0, 0, -1, -1, 1, 9])], [], [])
theorem oo_Re_readValue_at_s5002_7 {kA : Nat → ClassId} : or_ok kA GG o_Re_readValue_at_s5002_7 := by
  intro A ta ws vs hD hth hl hk hds hf
  have hl : vs.length = 20 := hl
  have hk : ∀ q ∈ ([(0, (2, 0, 0, [8])), (2, (0, 99, 99, [])), (13, (0, 1, 99, [])), (14, (0, 1, 1, [])), (15, (0, -2147483648, 1000000, [])), (19, (0, 0, 0, []))] : List (Nat × tv_T)), tv_ok ta q.2 (n_v vs q.1) := hk
  obtain ⟨t0, hk⟩ := List.forall_mem_cons.mp hk
  have t0 : tv_ok ta (2, 0, 0, [8]) (n_v vs 0) := t0
  have r0 : ta (v_ad (n_v vs 0)) = some 8 := tv_rg t0
  obtain ⟨t2, hk⟩ := List.forall_mem_cons.mp hk
  have t2 : tv_ok ta (0, 99, 99, []) (n_v vs 2) := t2
  have k2 : 99 ≤ v_iv (n_v vs 2) ∧ v_iv (n_v vs 2) ≤ 99 := tv_rng t2
  obtain ⟨t13, hk⟩ := List.forall_mem_cons.mp hk
  have t13 : tv_ok ta (0, 1, 99, []) (n_v vs 13) := t13
  have k13 : 1 ≤ v_iv (n_v vs 13) ∧ v_iv (n_v vs 13) ≤ 99 := tv_rng t13
  obtain ⟨t14, hk⟩ := List.forall_mem_cons.mp hk
  have t14 : tv_ok ta (0, 1, 1, []) (n_v vs 14) := t14
  have k14 : 1 ≤ v_iv (n_v vs 14) ∧ v_iv (n_v vs 14) ≤ 1 := tv_rng t14
  obtain ⟨t15, hk⟩ := List.forall_mem_cons.mp hk
  have t15 : tv_ok ta (0, -2147483648, 1000000, []) (n_v vs 15) := t15
  have k15 : (-2147483648) ≤ v_iv (n_v vs 15) ∧ v_iv (n_v vs 15) ≤ 1000000 := tv_rng t15
  obtain ⟨t19, hk⟩ := List.forall_mem_cons.mp hk
  have t19 : tv_ok ta (0, 0, 0, []) (n_v vs 19) := t19
  have k19 : 0 ≤ v_iv (n_v vs 19) ∧ v_iv (n_v vs 19) ≤ 0 := tv_rng t19
  have hf : fc_ok [(23, [15, 13], [0, 1, -1]), (23, [15, 13], [0, -1, 1]), (20, [0, 0, 15], [31, 1, 3, 1, 1, 7, 0, 1, 1, 9, -1, 0, 0]), (20, [0, 0, 15], [31, 1, 3, 1, 1, 7, 0, -1, 1, 9, 1, 0, 0]), (102, [18], [0, 8002, 8003]), (23, [15, 13], [0, 1, -1]), (23, [15, 13], [0, -1, 1]), (102, [15], [0, 8006, 8007, 8008, 8009]), (23, [15, 13], [0, 1, -1]), (23, [15, 13], [0, -1, 1]), (7, [13, 2], [5]), (7, [13, 14], [3])] ta ws vs := hf
  obtain ⟨f0, hf⟩ := fc_un (by decide) hf
  have f0 : 1 * v_iv (n_v vs 15) + ((-1) * v_iv (n_v vs 13) + 0) ≤ 0 := f0
  obtain ⟨f1, hf⟩ := fc_un (by decide) hf
  have f1 : (-1) * v_iv (n_v vs 15) + (1 * v_iv (n_v vs 13) + 0) ≤ 0 := f1
  obtain ⟨f2, hf⟩ := fc_un (by decide) hf
  have f2 : (1 * w_fi ws (n_v vs 0) 7 + 0 ≤ 3) ∨ (1 * w_fi ws (n_v vs 0) 9 + ((-1) * v_iv (n_v vs 15) + 0) ≤ 0) := f2
  obtain ⟨f3, hf⟩ := fc_un (by decide) hf
  have f3 : (1 * w_fi ws (n_v vs 0) 7 + 0 ≤ 3) ∨ ((-1) * w_fi ws (n_v vs 0) 9 + (1 * v_iv (n_v vs 15) + 0) ≤ 0) := f3
  obtain ⟨ta1, w1, le1, ⟨_, s1⟩, hf⟩ := fc_us (by decide) hf
  obtain ⟨f5, hf⟩ := fc_un (by decide) hf
  have f5 : 1 * v_iv (n_v vs 15) + ((-1) * v_iv (n_v vs 13) + 0) ≤ 0 := f5
  obtain ⟨f6, hf⟩ := fc_un (by decide) hf
  have f6 : (-1) * v_iv (n_v vs 15) + (1 * v_iv (n_v vs 13) + 0) ≤ 0 := f6
  obtain ⟨ta2, w2, le2, ⟨_, s2⟩, hf⟩ := fc_us (by decide) hf
  obtain ⟨f8, hf⟩ := fc_un (by decide) hf
  have f8 : 1 * v_iv (n_v vs 15) + ((-1) * v_iv (n_v vs 13) + 0) ≤ 0 := f8
  obtain ⟨f9, hf⟩ := fc_un (by decide) hf
  have f9 : (-1) * v_iv (n_v vs 15) + (1 * v_iv (n_v vs 13) + 0) ≤ 0 := f9
  obtain ⟨f10, hf⟩ := fc_un (by decide) hf
  have f10 : v_iv (n_v vs 13) ≤ v_iv (n_v vs 2) := f10
  obtain ⟨f11, hf⟩ := fc_un (by decide) hf
  have f11 : v_iv (n_v vs 14) ≤ v_iv (n_v vs 13) := f11
  have kz_0_7 : (-128) ≤ w_fi ws (n_v vs 0) 7 ∧ w_fi ws (n_v vs 0) 7 ≤ 127 := tv_rng (th_fd hD hth r0 (g := GG_8) rfl (k := 7) (t := (0, -128, 127, [])) rfl rfl)
  have kz_0_9 : (-2147483648) ≤ w_fi ws (n_v vs 0) 9 ∧ w_fi ws (n_v vs 0) 9 ≤ 1000000 := tv_rng (th_fd hD hth r0 (g := GG_8) rfl (k := 9) (t := (0, -2147483648, 1000000, [])) rfl rfl)
  have nf0 : fc_1 (20, [19, 0, 2], [31, 1, 0, 1, 0, 0, 0, 1, 1, 9, -1, 0, 0]) ws (vs) := by
    refine ⟨fun n hn => ?_, ?_⟩
    · have hn : n ∈ [19, 0, 2] := hn
      rw [hl]
      simp only [List.mem_cons, List.not_mem_nil, or_false] at hn
      show n < 20; omega
    · show (1 * v_iv (n_v vs 19) + 0 ≤ 0) ∨ (1 * w_fi ws (n_v vs 0) 9 + ((-1) * v_iv (n_v vs 2) + 0) ≤ 0)
      omega
  have nf1 : fc_1 (20, [19, 0], [31, 1, 0, 1, 0, 0, -1, -1, 1, 9]) ws (vs) := by
    refine ⟨fun n hn => ?_, ?_⟩
    · have hn : n ∈ [19, 0] := hn
      rw [hl]
      simp only [List.mem_cons, List.not_mem_nil, or_false] at hn
      show n < 20; omega
    · show (1 * v_iv (n_v vs 19) + 0 ≤ 0) ∨ ((-1) * w_fi ws (n_v vs 0) 9 + 0 ≤ (-1))
      omega
  refine ⟨(fun _ h => (by cases h)), [], trivial, ?_, (fun _ h => (by cases h))⟩
  rw [List.append_nil]
  exact List.forall_mem_cons.mpr ⟨⟨by decide, nf0⟩, List.forall_mem_cons.mpr ⟨⟨by decide, nf1⟩, (fun _ h => (by cases h))⟩⟩
def o_Re_readValue_at_s5002_8 : or_T := (90, 17, [(0, (2, 0, 0, [8])), (2, (0, 99, 99, [])), (10, (0, -2147483648, 1000000, [])), (13, (0, 100, 1000000, [])), (14, (0, 1, 1, [])), (16, (0, 0, 0, []))], [(20, [0, 0, 10], [31, 1, 3, 1, 1, 7, 0, 1, 1, 9, -1, 0, 0]), (20, [0, 0, 10], [31, 1, 3, 1, 1, 7, 0, -1, 1, 9, 1, 0, 0]), (102, [15], [0, 8002, 8003]), (7, [13, 2], [4]), (7, [13, 14], [3])], [], [], [(20, [16, 0, 2], [31, 1, 0, 1, 0, 0, 0, 1, 1, 9, -1, 0, 0]), (20, [16, 0], [31, 1, 0, 1, 0, 0, -1, -1, 1, 9])], [], [])
theorem oo_Re_readValue_at_s5002_8 {kA : Nat → ClassId} : or_ok kA GG o_Re_readValue_at_s5002_8 := by
  intro A ta ws vs hD hth hl hk hds hf
  have hl : vs.length = 17 := hl
  have hk : ∀ q ∈ ([(0, (2, 0, 0, [8])), (2, (0, 99, 99, [])), (10, (0, -2147483648, 1000000, [])), (13, (0, 100, 1000000, [])), (14, (0, 1, 1, [])), (16, (0, 0, 0, []))] : List (Nat × tv_T)), tv_ok ta q.2 (n_v vs q.1) := hk
  obtain ⟨t0, hk⟩ := List.forall_mem_cons.mp hk
  have t0 : tv_ok ta (2, 0, 0, [8]) (n_v vs 0) := t0
  have r0 : ta (v_ad (n_v vs 0)) = some 8 := tv_rg t0
  obtain ⟨t2, hk⟩ := List.forall_mem_cons.mp hk
  have t2 : tv_ok ta (0, 99, 99, []) (n_v vs 2) := t2
  have k2 : 99 ≤ v_iv (n_v vs 2) ∧ v_iv (n_v vs 2) ≤ 99 := tv_rng t2
  obtain ⟨t10, hk⟩ := List.forall_mem_cons.mp hk
  have t10 : tv_ok ta (0, -2147483648, 1000000, []) (n_v vs 10) := t10
  have k10 : (-2147483648) ≤ v_iv (n_v vs 10) ∧ v_iv (n_v vs 10) ≤ 1000000 := tv_rng t10
  obtain ⟨t13, hk⟩ := List.forall_mem_cons.mp hk
  have t13 : tv_ok ta (0, 100, 1000000, []) (n_v vs 13) := t13
  have k13 : 100 ≤ v_iv (n_v vs 13) ∧ v_iv (n_v vs 13) ≤ 1000000 := tv_rng t13
  obtain ⟨t14, hk⟩ := List.forall_mem_cons.mp hk
  have t14 : tv_ok ta (0, 1, 1, []) (n_v vs 14) := t14
  have k14 : 1 ≤ v_iv (n_v vs 14) ∧ v_iv (n_v vs 14) ≤ 1 := tv_rng t14
  obtain ⟨t16, hk⟩ := List.forall_mem_cons.mp hk
  have t16 : tv_ok ta (0, 0, 0, []) (n_v vs 16) := t16
  have k16 : 0 ≤ v_iv (n_v vs 16) ∧ v_iv (n_v vs 16) ≤ 0 := tv_rng t16
  have hf : fc_ok [(20, [0, 0, 10], [31, 1, 3, 1, 1, 7, 0, 1, 1, 9, -1, 0, 0]), (20, [0, 0, 10], [31, 1, 3, 1, 1, 7, 0, -1, 1, 9, 1, 0, 0]), (102, [15], [0, 8002, 8003]), (7, [13, 2], [4]), (7, [13, 14], [3])] ta ws vs := hf
  obtain ⟨f0, hf⟩ := fc_un (by decide) hf
  have f0 : (1 * w_fi ws (n_v vs 0) 7 + 0 ≤ 3) ∨ (1 * w_fi ws (n_v vs 0) 9 + ((-1) * v_iv (n_v vs 10) + 0) ≤ 0) := f0
  obtain ⟨f1, hf⟩ := fc_un (by decide) hf
  have f1 : (1 * w_fi ws (n_v vs 0) 7 + 0 ≤ 3) ∨ ((-1) * w_fi ws (n_v vs 0) 9 + (1 * v_iv (n_v vs 10) + 0) ≤ 0) := f1
  obtain ⟨ta1, w1, le1, ⟨_, s1⟩, hf⟩ := fc_us (by decide) hf
  obtain ⟨f3, hf⟩ := fc_un (by decide) hf
  have f3 : v_iv (n_v vs 2) < v_iv (n_v vs 13) := f3
  obtain ⟨f4, hf⟩ := fc_un (by decide) hf
  have f4 : v_iv (n_v vs 14) ≤ v_iv (n_v vs 13) := f4
  have kz_0_7 : (-128) ≤ w_fi ws (n_v vs 0) 7 ∧ w_fi ws (n_v vs 0) 7 ≤ 127 := tv_rng (th_fd hD hth r0 (g := GG_8) rfl (k := 7) (t := (0, -128, 127, [])) rfl rfl)
  have kz_0_9 : (-2147483648) ≤ w_fi ws (n_v vs 0) 9 ∧ w_fi ws (n_v vs 0) 9 ≤ 1000000 := tv_rng (th_fd hD hth r0 (g := GG_8) rfl (k := 9) (t := (0, -2147483648, 1000000, [])) rfl rfl)
  have nf0 : fc_1 (20, [16, 0, 2], [31, 1, 0, 1, 0, 0, 0, 1, 1, 9, -1, 0, 0]) ws (vs) := by
    refine ⟨fun n hn => ?_, ?_⟩
    · have hn : n ∈ [16, 0, 2] := hn
      rw [hl]
      simp only [List.mem_cons, List.not_mem_nil, or_false] at hn
      show n < 17; omega
    · show (1 * v_iv (n_v vs 16) + 0 ≤ 0) ∨ (1 * w_fi ws (n_v vs 0) 9 + ((-1) * v_iv (n_v vs 2) + 0) ≤ 0)
      omega
  have nf1 : fc_1 (20, [16, 0], [31, 1, 0, 1, 0, 0, -1, -1, 1, 9]) ws (vs) := by
    refine ⟨fun n hn => ?_, ?_⟩
    · have hn : n ∈ [16, 0] := hn
      rw [hl]
      simp only [List.mem_cons, List.not_mem_nil, or_false] at hn
      show n < 17; omega
    · show (1 * v_iv (n_v vs 16) + 0 ≤ 0) ∨ ((-1) * w_fi ws (n_v vs 0) 9 + 0 ≤ (-1))
      omega
  refine ⟨(fun _ h => (by cases h)), [], trivial, ?_, (fun _ h => (by cases h))⟩
  rw [List.append_nil]
  exact List.forall_mem_cons.mpr ⟨⟨by decide, nf0⟩, List.forall_mem_cons.mpr ⟨⟨by decide, nf1⟩, (fun _ h => (by cases h))⟩⟩
def o_Re_readValue_at_s5002_9 : or_T := (68, 15, [(0, (2, 0, 0, [8])), (2, (0, 99, 99, [])), (10, (0, -2147483648, 1000000, [])), (14, (0, 0, 0, []))], [(20, [0, 0, 10], [31, 1, 3, 1, 1, 7, 0, 1, 1, 9, -1, 0, 0]), (20, [0, 0, 10], [31, 1, 3, 1, 1, 7, 0, -1, 1, 9, 1, 0, 0])], [], [], [(20, [14, 0, 2], [31, 1, 0, 1, 0, 0, 0, 1, 1, 9, -1, 0, 0]), (20, [14, 0], [31, 1, 0, 1, 0, 0, -1, -1, 1, 9])], [], [])
theorem oo_Re_readValue_at_s5002_9 {kA : Nat → ClassId} : or_ok kA GG o_Re_readValue_at_s5002_9 := by
  intro A ta ws vs hD hth hl hk hds hf
  have hl : vs.length = 15 := hl
  have hk : ∀ q ∈ ([(0, (2, 0, 0, [8])), (2, (0, 99, 99, [])), (10, (0, -2147483648, 1000000, [])), (14, (0, 0, 0, []))] : List (Nat × tv_T)), tv_ok ta q.2 (n_v vs q.1) := hk
  obtain ⟨t0, hk⟩ := List.forall_mem_cons.mp hk
  have t0 : tv_ok ta (2, 0, 0, [8]) (n_v vs 0) := t0
  have r0 : ta (v_ad (n_v vs 0)) = some 8 := tv_rg t0
  obtain ⟨t2, hk⟩ := List.forall_mem_cons.mp hk
  have t2 : tv_ok ta (0, 99, 99, []) (n_v vs 2) := t2
  have k2 : 99 ≤ v_iv (n_v vs 2) ∧ v_iv (n_v vs 2) ≤ 99 := tv_rng t2
  obtain ⟨t10, hk⟩ := List.forall_mem_cons.mp hk
  have t10 : tv_ok ta (0, -2147483648, 1000000, []) (n_v vs 10) := t10
  have k10 : (-2147483648) ≤ v_iv (n_v vs 10) ∧ v_iv (n_v vs 10) ≤ 1000000 := tv_rng t10
  obtain ⟨t14, hk⟩ := List.forall_mem_cons.mp hk
  have t14 : tv_ok ta (0, 0, 0, []) (n_v vs 14) := t14
  have k14 : 0 ≤ v_iv (n_v vs 14) ∧ v_iv (n_v vs 14) ≤ 0 := tv_rng t14
  have hf : fc_ok [(20, [0, 0, 10], [31, 1, 3, 1, 1, 7, 0, 1, 1, 9, -1, 0, 0]), (20, [0, 0, 10], [31, 1, 3, 1, 1, 7, 0, -1, 1, 9, 1, 0, 0])] ta ws vs := hf
  obtain ⟨f0, hf⟩ := fc_un (by decide) hf
  have f0 : (1 * w_fi ws (n_v vs 0) 7 + 0 ≤ 3) ∨ (1 * w_fi ws (n_v vs 0) 9 + ((-1) * v_iv (n_v vs 10) + 0) ≤ 0) := f0
  obtain ⟨f1, hf⟩ := fc_un (by decide) hf
  have f1 : (1 * w_fi ws (n_v vs 0) 7 + 0 ≤ 3) ∨ ((-1) * w_fi ws (n_v vs 0) 9 + (1 * v_iv (n_v vs 10) + 0) ≤ 0) := f1
  have kz_0_7 : (-128) ≤ w_fi ws (n_v vs 0) 7 ∧ w_fi ws (n_v vs 0) 7 ≤ 127 := tv_rng (th_fd hD hth r0 (g := GG_8) rfl (k := 7) (t := (0, -128, 127, [])) rfl rfl)
  have kz_0_9 : (-2147483648) ≤ w_fi ws (n_v vs 0) 9 ∧ w_fi ws (n_v vs 0) 9 ≤ 1000000 := tv_rng (th_fd hD hth r0 (g := GG_8) rfl (k := 9) (t := (0, -2147483648, 1000000, [])) rfl rfl)
  have nf0 : fc_1 (20, [14, 0, 2], [31, 1, 0, 1, 0, 0, 0, 1, 1, 9, -1, 0, 0]) ws (vs) := by
    refine ⟨fun n hn => ?_, ?_⟩
    · have hn : n ∈ [14, 0, 2] := hn
      rw [hl]
      simp only [List.mem_cons, List.not_mem_nil, or_false] at hn
      show n < 15; omega
    · show (1 * v_iv (n_v vs 14) + 0 ≤ 0) ∨ (1 * w_fi ws (n_v vs 0) 9 + ((-1) * v_iv (n_v vs 2) + 0) ≤ 0)
      omega
  have nf1 : fc_1 (20, [14, 0], [31, 1, 0, 1, 0, 0, -1, -1, 1, 9]) ws (vs) := by
    refine ⟨fun n hn => ?_, ?_⟩
    · have hn : n ∈ [14, 0] := hn
      rw [hl]
      simp only [List.mem_cons, List.not_mem_nil, or_false] at hn
      show n < 15; omega
    · show (1 * v_iv (n_v vs 14) + 0 ≤ 0) ∨ ((-1) * w_fi ws (n_v vs 0) 9 + 0 ≤ (-1))
      omega
  refine ⟨(fun _ h => (by cases h)), [], trivial, ?_, (fun _ h => (by cases h))⟩
  rw [List.append_nil]
  exact List.forall_mem_cons.mpr ⟨⟨by decide, nf0⟩, List.forall_mem_cons.mpr ⟨⟨by decide, nf1⟩, (fun _ h => (by cases h))⟩⟩
def o_Re_readValue_at_s5002_10 : or_T := (50, 12, [(0, (2, 0, 0, [8])), (2, (0, 99, 99, [])), (7, (0, -2147483648, 1000000, [])), (11, (0, 0, 0, []))], [(20, [0, 0, 7], [31, 1, 3, 1, 1, 7, 0, 1, 1, 9, -1, 0, 0]), (20, [0, 0, 7], [31, 1, 3, 1, 1, 7, 0, -1, 1, 9, 1, 0, 0])], [], [], [(20, [11, 0, 2], [31, 1, 0, 1, 0, 0, 0, 1, 1, 9, -1, 0, 0]), (20, [11, 0], [31, 1, 0, 1, 0, 0, -1, -1, 1, 9])], [], [])
theorem oo_Re_readValue_at_s5002_10 {kA : Nat → ClassId} : or_ok kA GG o_Re_readValue_at_s5002_10 := by
  intro A ta ws vs hD hth hl hk hds hf
  have hl : vs.length = 12 := hl
  have hk : ∀ q ∈ ([(0, (2, 0, 0, [8])), (2, (0, 99, 99, [])), (7, (0, -2147483648, 1000000, [])), (11, (0, 0, 0, []))] : List (Nat × tv_T)), tv_ok ta q.2 (n_v vs q.1) := hk
  obtain ⟨t0, hk⟩ := List.forall_mem_cons.mp hk
  have t0 : tv_ok ta (2, 0, 0, [8]) (n_v vs 0) := t0
  have r0 : ta (v_ad (n_v vs 0)) = some 8 := tv_rg t0
  obtain ⟨t2, hk⟩ := List.forall_mem_cons.mp hk
  have t2 : tv_ok ta (0, 99, 99, []) (n_v vs 2) := t2
  have k2 : 99 ≤ v_iv (n_v vs 2) ∧ v_iv (n_v vs 2) ≤ 99 := tv_rng t2
  obtain ⟨t7, hk⟩ := List.forall_mem_cons.mp hk
  have t7 : tv_ok ta (0, -2147483648, 1000000, []) (n_v vs 7) := t7
  have k7 : (-2147483648) ≤ v_iv (n_v vs 7) ∧ v_iv (n_v vs 7) ≤ 1000000 := tv_rng t7
  obtain ⟨t11, hk⟩ := List.forall_mem_cons.mp hk
  have t11 : tv_ok ta (0, 0, 0, []) (n_v vs 11) := t11
  have k11 : 0 ≤ v_iv (n_v vs 11) ∧ v_iv (n_v vs 11) ≤ 0 := tv_rng t11
  have hf : fc_ok [(20, [0, 0, 7], [31, 1, 3, 1, 1, 7, 0, 1, 1, 9, -1, 0, 0]), (20, [0, 0, 7], [31, 1, 3, 1, 1, 7, 0, -1, 1, 9, 1, 0, 0])] ta ws vs := hf
  obtain ⟨f0, hf⟩ := fc_un (by decide) hf
  have f0 : (1 * w_fi ws (n_v vs 0) 7 + 0 ≤ 3) ∨ (1 * w_fi ws (n_v vs 0) 9 + ((-1) * v_iv (n_v vs 7) + 0) ≤ 0) := f0
  obtain ⟨f1, hf⟩ := fc_un (by decide) hf
  have f1 : (1 * w_fi ws (n_v vs 0) 7 + 0 ≤ 3) ∨ ((-1) * w_fi ws (n_v vs 0) 9 + (1 * v_iv (n_v vs 7) + 0) ≤ 0) := f1
  have kz_0_7 : (-128) ≤ w_fi ws (n_v vs 0) 7 ∧ w_fi ws (n_v vs 0) 7 ≤ 127 := tv_rng (th_fd hD hth r0 (g := GG_8) rfl (k := 7) (t := (0, -128, 127, [])) rfl rfl)
  have kz_0_9 : (-2147483648) ≤ w_fi ws (n_v vs 0) 9 ∧ w_fi ws (n_v vs 0) 9 ≤ 1000000 := tv_rng (th_fd hD hth r0 (g := GG_8) rfl (k := 9) (t := (0, -2147483648, 1000000, [])) rfl rfl)
  have nf0 : fc_1 (20, [11, 0, 2], [31, 1, 0, 1, 0, 0, 0, 1, 1, 9, -1, 0, 0]) ws (vs) := by
    refine ⟨fun n hn => ?_, ?_⟩
    · have hn : n ∈ [11, 0, 2] := hn
      rw [hl]
      simp only [List.mem_cons, List.not_mem_nil, or_false] at hn
      show n < 12; omega
    · show (1 * v_iv (n_v vs 11) + 0 ≤ 0) ∨ (1 * w_fi ws (n_v vs 0) 9 + ((-1) * v_iv (n_v vs 2) + 0) ≤ 0)
      omega
  have nf1 : fc_1 (20, [11, 0], [31, 1, 0, 1, 0, 0, -1, -1, 1, 9]) ws (vs) := by
    refine ⟨fun n hn => ?_, ?_⟩
    · have hn : n ∈ [11, 0] := hn
      rw [hl]
      simp only [List.mem_cons, List.not_mem_nil, or_false] at hn
      show n < 12; omega
    · show (1 * v_iv (n_v vs 11) + 0 ≤ 0) ∨ ((-1) * w_fi ws (n_v vs 0) 9 + 0 ≤ (-1))
      omega
  refine ⟨(fun _ h => (by cases h)), [], trivial, ?_, (fun _ h => (by cases h))⟩
  rw [List.append_nil]
  exact List.forall_mem_cons.mpr ⟨⟨by decide, nf0⟩, List.forall_mem_cons.mpr ⟨⟨by decide, nf1⟩, (fun _ h => (by cases h))⟩⟩
def o_Re_readValue_at_s5002_11 : or_T := (31, 9, [(0, (2, 0, 0, [8])), (2, (0, 99, 99, [])), (3, (0, -2147483648, 1000000, [])), (8, (0, 0, 0, []))], [(20, [0, 0, 3], [31, 1, 3, 1, 1, 7, 0, 1, 1, 9, -1, 0, 0]), (20, [0, 0, 3], [31, 1, 3, 1, 1, 7, 0, -1, 1, 9, 1, 0, 0])], [], [], [(20, [8, 0, 2], [31, 1, 0, 1, 0, 0, 0, 1, 1, 9, -1, 0, 0]), (20, [8, 0], [31, 1, 0, 1, 0, 0, -1, -1, 1, 9])], [], [])
theorem oo_Re_readValue_at_s5002_11 {kA : Nat → ClassId} : or_ok kA GG o_Re_readValue_at_s5002_11 := by
  intro A ta ws vs hD hth hl hk hds hf
  have hl : vs.length = 9 := hl
  have hk : ∀ q ∈ ([(0, (2, 0, 0, [8])), (2, (0, 99, 99, [])), (3, (0, -2147483648, 1000000, [])), (8, (0, 0, 0, []))] : List (Nat × tv_T)), tv_ok ta q.2 (n_v vs q.1) := hk
  obtain ⟨t0, hk⟩ := List.forall_mem_cons.mp hk
  have t0 : tv_ok ta (2, 0, 0, [8]) (n_v vs 0) := t0
  have r0 : ta (v_ad (n_v vs 0)) = some 8 := tv_rg t0
  obtain ⟨t2, hk⟩ := List.forall_mem_cons.mp hk
  have t2 : tv_ok ta (0, 99, 99, []) (n_v vs 2) := t2
  have k2 : 99 ≤ v_iv (n_v vs 2) ∧ v_iv (n_v vs 2) ≤ 99 := tv_rng t2
  obtain ⟨t3, hk⟩ := List.forall_mem_cons.mp hk
  have t3 : tv_ok ta (0, -2147483648, 1000000, []) (n_v vs 3) := t3
  have k3 : (-2147483648) ≤ v_iv (n_v vs 3) ∧ v_iv (n_v vs 3) ≤ 1000000 := tv_rng t3
  obtain ⟨t8, hk⟩ := List.forall_mem_cons.mp hk
  have t8 : tv_ok ta (0, 0, 0, []) (n_v vs 8) := t8
  have k8 : 0 ≤ v_iv (n_v vs 8) ∧ v_iv (n_v vs 8) ≤ 0 := tv_rng t8
  have hf : fc_ok [(20, [0, 0, 3], [31, 1, 3, 1, 1, 7, 0, 1, 1, 9, -1, 0, 0]), (20, [0, 0, 3], [31, 1, 3, 1, 1, 7, 0, -1, 1, 9, 1, 0, 0])] ta ws vs := hf
  obtain ⟨f0, hf⟩ := fc_un (by decide) hf
  have f0 : (1 * w_fi ws (n_v vs 0) 7 + 0 ≤ 3) ∨ (1 * w_fi ws (n_v vs 0) 9 + ((-1) * v_iv (n_v vs 3) + 0) ≤ 0) := f0
  obtain ⟨f1, hf⟩ := fc_un (by decide) hf
  have f1 : (1 * w_fi ws (n_v vs 0) 7 + 0 ≤ 3) ∨ ((-1) * w_fi ws (n_v vs 0) 9 + (1 * v_iv (n_v vs 3) + 0) ≤ 0) := f1
  have kz_0_7 : (-128) ≤ w_fi ws (n_v vs 0) 7 ∧ w_fi ws (n_v vs 0) 7 ≤ 127 := tv_rng (th_fd hD hth r0 (g := GG_8) rfl (k := 7) (t := (0, -128, 127, [])) rfl rfl)
  have kz_0_9 : (-2147483648) ≤ w_fi ws (n_v vs 0) 9 ∧ w_fi ws (n_v vs 0) 9 ≤ 1000000 := tv_rng (th_fd hD hth r0 (g := GG_8) rfl (k := 9) (t := (0, -2147483648, 1000000, [])) rfl rfl)
  have nf0 : fc_1 (20, [8, 0, 2], [31, 1, 0, 1, 0, 0, 0, 1, 1, 9, -1, 0, 0]) ws (vs) := by
    refine ⟨fun n hn => ?_, ?_⟩
    · have hn : n ∈ [8, 0, 2] := hn
      rw [hl]
      simp only [List.mem_cons, List.not_mem_nil, or_false] at hn
      show n < 9; omega
    · show (1 * v_iv (n_v vs 8) + 0 ≤ 0) ∨ (1 * w_fi ws (n_v vs 0) 9 + ((-1) * v_iv (n_v vs 2) + 0) ≤ 0)
      omega
  have nf1 : fc_1 (20, [8, 0], [31, 1, 0, 1, 0, 0, -1, -1, 1, 9]) ws (vs) := by
    refine ⟨fun n hn => ?_, ?_⟩
    · have hn : n ∈ [8, 0] := hn
      rw [hl]
      simp only [List.mem_cons, List.not_mem_nil, or_false] at hn
      show n < 9; omega
    · show (1 * v_iv (n_v vs 8) + 0 ≤ 0) ∨ ((-1) * w_fi ws (n_v vs 0) 9 + 0 ≤ (-1))
      omega
  refine ⟨(fun _ h => (by cases h)), [], trivial, ?_, (fun _ h => (by cases h))⟩
  rw [List.append_nil]
  exact List.forall_mem_cons.mpr ⟨⟨by decide, nf0⟩, List.forall_mem_cons.mpr ⟨⟨by decide, nf1⟩, (fun _ h => (by cases h))⟩⟩
def o_Re_readValue_at_s5002_12 : or_T := (17, 8, [(0, (2, 0, 0, [8])), (2, (0, 99, 99, [])), (3, (0, -2147483648, 1000000, [])), (7, (0, 0, 0, []))], [(20, [0, 0, 3], [31, 1, 3, 1, 1, 7, 0, 1, 1, 9, -1, 0, 0]), (20, [0, 0, 3], [31, 1, 3, 1, 1, 7, 0, -1, 1, 9, 1, 0, 0])], [], [], [(20, [7, 0, 2], [31, 1, 0, 1, 0, 0, 0, 1, 1, 9, -1, 0, 0]), (20, [7, 0], [31, 1, 0, 1, 0, 0, -1, -1, 1, 9])], [], [])
theorem oo_Re_readValue_at_s5002_12 {kA : Nat → ClassId} : or_ok kA GG o_Re_readValue_at_s5002_12 := by
  intro A ta ws vs hD hth hl hk hds hf
  have hl : vs.length = 8 := hl
  have hk : ∀ q ∈ ([(0, (2, 0, 0, [8])), (2, (0, 99, 99, [])), (3, (0, -2147483648, 1000000, [])), (7, (0, 0, 0, []))] : List (Nat × tv_T)), tv_ok ta q.2 (n_v vs q.1) := hk
  obtain ⟨t0, hk⟩ := List.forall_mem_cons.mp hk
  have t0 : tv_ok ta (2, 0, 0, [8]) (n_v vs 0) := t0
  have r0 : ta (v_ad (n_v vs 0)) = some 8 := tv_rg t0
  obtain ⟨t2, hk⟩ := List.forall_mem_cons.mp hk
  have t2 : tv_ok ta (0, 99, 99, []) (n_v vs 2) := t2
  have k2 : 99 ≤ v_iv (n_v vs 2) ∧ v_iv (n_v vs 2) ≤ 99 := tv_rng t2
  obtain ⟨t3, hk⟩ := List.forall_mem_cons.mp hk
  have t3 : tv_ok ta (0, -2147483648, 1000000, []) (n_v vs 3) := t3
  have k3 : (-2147483648) ≤ v_iv (n_v vs 3) ∧ v_iv (n_v vs 3) ≤ 1000000 := tv_rng t3
  obtain ⟨t7, hk⟩ := List.forall_mem_cons.mp hk
  have t7 : tv_ok ta (0, 0, 0, []) (n_v vs 7) := t7
  have k7 : 0 ≤ v_iv (n_v vs 7) ∧ v_iv (n_v vs 7) ≤ 0 := tv_rng t7
  have hf : fc_ok [(20, [0, 0, 3], [31, 1, 3, 1, 1, 7, 0, 1, 1, 9, -1, 0, 0]), (20, [0, 0, 3], [31, 1, 3, 1, 1, 7, 0, -1, 1, 9, 1, 0, 0])] ta ws vs := hf
  obtain ⟨f0, hf⟩ := fc_un (by decide) hf
  have f0 : (1 * w_fi ws (n_v vs 0) 7 + 0 ≤ 3) ∨ (1 * w_fi ws (n_v vs 0) 9 + ((-1) * v_iv (n_v vs 3) + 0) ≤ 0) := f0
  obtain ⟨f1, hf⟩ := fc_un (by decide) hf
  have f1 : (1 * w_fi ws (n_v vs 0) 7 + 0 ≤ 3) ∨ ((-1) * w_fi ws (n_v vs 0) 9 + (1 * v_iv (n_v vs 3) + 0) ≤ 0) := f1
  have kz_0_7 : (-128) ≤ w_fi ws (n_v vs 0) 7 ∧ w_fi ws (n_v vs 0) 7 ≤ 127 := tv_rng (th_fd hD hth r0 (g := GG_8) rfl (k := 7) (t := (0, -128, 127, [])) rfl rfl)
  have kz_0_9 : (-2147483648) ≤ w_fi ws (n_v vs 0) 9 ∧ w_fi ws (n_v vs 0) 9 ≤ 1000000 := tv_rng (th_fd hD hth r0 (g := GG_8) rfl (k := 9) (t := (0, -2147483648, 1000000, [])) rfl rfl)
  have nf0 : fc_1 (20, [7, 0, 2], [31, 1, 0, 1, 0, 0, 0, 1, 1, 9, -1, 0, 0]) ws (vs) := by
    refine ⟨fun n hn => ?_, ?_⟩
    · have hn : n ∈ [7, 0, 2] := hn
      rw [hl]
      simp only [List.mem_cons, List.not_mem_nil, or_false] at hn
      show n < 8; omega
    · show (1 * v_iv (n_v vs 7) + 0 ≤ 0) ∨ (1 * w_fi ws (n_v vs 0) 9 + ((-1) * v_iv (n_v vs 2) + 0) ≤ 0)
      omega
  have nf1 : fc_1 (20, [7, 0], [31, 1, 0, 1, 0, 0, -1, -1, 1, 9]) ws (vs) := by
    refine ⟨fun n hn => ?_, ?_⟩
    · have hn : n ∈ [7, 0] := hn
      rw [hl]
      simp only [List.mem_cons, List.not_mem_nil, or_false] at hn
      show n < 8; omega
    · show (1 * v_iv (n_v vs 7) + 0 ≤ 0) ∨ ((-1) * w_fi ws (n_v vs 0) 9 + 0 ≤ (-1))
      omega
  refine ⟨(fun _ h => (by cases h)), [], trivial, ?_, (fun _ h => (by cases h))⟩
  rw [List.append_nil]
  exact List.forall_mem_cons.mpr ⟨⟨by decide, nf0⟩, List.forall_mem_cons.mpr ⟨⟨by decide, nf1⟩, (fun _ h => (by cases h))⟩⟩
def n_Re_readValue_at_s5002_an : List an_T := []
def t_Re_readValue_at_s5002_ct : ct_L := [(1, 57, e_Re_advance), (1, 113, e_Re_fail), (64, 95, e_Re_isWord_at_s5002)]
set_option maxRecDepth 100000 in
theorem c_Re_readValue_at_s5002 {l : Launch} {D : va_G} {kA : Nat → ClassId} (h_Re_advance : ct_ok l D kA GG y_Re_advance z_Re_advance e_Re_advance) (h_Re_fail : ct_ok l D kA GG y_Re_fail z_Re_fail e_Re_fail) (h_Re_isWord_at_s5002 : ct_ok l D kA GG y_Re_isWord_at_s5002 z_Re_isWord_at_s5002 e_Re_isWord_at_s5002) : ct_ok l D kA GG y_Re_readValue_at_s5002 z_Re_readValue_at_s5002 e_Re_readValue_at_s5002 := chk_all_ok (FT := [(38, 8, 7), (44, 8, 9)]) (PT := []) (CT := t_Re_readValue_at_s5002_ct) (KT := []) (NT := []) (AN := n_Re_readValue_at_s5002_an) (OT := [o_Re_readValue_at_s5002_0, o_Re_readValue_at_s5002_1, o_Re_readValue_at_s5002_2, o_Re_readValue_at_s5002_3, o_Re_readValue_at_s5002_4, o_Re_readValue_at_s5002_5, o_Re_readValue_at_s5002_6, o_Re_readValue_at_s5002_7, o_Re_readValue_at_s5002_8, o_Re_readValue_at_s5002_9, o_Re_readValue_at_s5002_10, o_Re_readValue_at_s5002_11, o_Re_readValue_at_s5002_12]) 0 308 (List.forall_mem_cons.mpr ⟨oo_Re_readValue_at_s5002_0, List.forall_mem_cons.mpr ⟨oo_Re_readValue_at_s5002_1, List.forall_mem_cons.mpr ⟨oo_Re_readValue_at_s5002_2, List.forall_mem_cons.mpr ⟨oo_Re_readValue_at_s5002_3, List.forall_mem_cons.mpr ⟨oo_Re_readValue_at_s5002_4, List.forall_mem_cons.mpr ⟨oo_Re_readValue_at_s5002_5, List.forall_mem_cons.mpr ⟨oo_Re_readValue_at_s5002_6, List.forall_mem_cons.mpr ⟨oo_Re_readValue_at_s5002_7, List.forall_mem_cons.mpr ⟨oo_Re_readValue_at_s5002_8, List.forall_mem_cons.mpr ⟨oo_Re_readValue_at_s5002_9, List.forall_mem_cons.mpr ⟨oo_Re_readValue_at_s5002_10, List.forall_mem_cons.mpr ⟨oo_Re_readValue_at_s5002_11, List.forall_mem_cons.mpr ⟨oo_Re_readValue_at_s5002_12, List.forall_mem_nil _⟩⟩⟩⟩⟩⟩⟩⟩⟩⟩⟩⟩⟩) (by decide +kernel) ⟨List.forall_mem_cons.mpr ⟨gf_Re_38, List.forall_mem_cons.mpr ⟨gf_Re_44, List.forall_mem_nil _⟩⟩, List.forall_mem_nil _, List.forall_mem_cons.mpr ⟨cl_virtual (y := y_Re_advance) (ci := 8) rfl rfl ⟨_, _, rfl⟩ (by decide +kernel) h_Re_advance wm_645 wm_2 wm_642 wm_644 wv_1_0 ⟨by decide, by decide, by decide +kernel⟩ (by decide), List.forall_mem_cons.mpr ⟨cl_virtual (y := y_Re_fail) (ci := 8) rfl rfl ⟨_, _, rfl⟩ (by decide +kernel) h_Re_fail wm_731 wm_2 wm_728 wm_730 wv_1_5 ⟨by decide, by decide, by decide +kernel⟩ (by decide), List.forall_mem_cons.mpr ⟨cl_virtual (y := y_Re_isWord_at_s5002) (ci := 8) rfl rfl ⟨_, _, rfl⟩ (by decide +kernel) h_Re_isWord_at_s5002 wm_670 wm_2 wm_667 wm_669 wv_1_2 ⟨by decide, by decide, by decide +kernel⟩ (by decide), List.forall_mem_nil _⟩⟩⟩, List.forall_mem_nil _, List.forall_mem_nil _, GG_pl⟩ (by decide +kernel)
def o_Re_readValue_at_s5003_0 : or_T := (1, 3, [(0, (2, 0, 0, [8]))], [], [], [(0, -2147483648, 1000000, [])], [(20, [0, 3], [30, 0, 1, 1, 9, -1, 0, 0]), (20, [0, 3], [30, 0, -1, 1, 9, 1, 0, 0])], [], [])
theorem oo_Re_readValue_at_s5003_0 {kA : Nat → ClassId} : or_ok kA GG o_Re_readValue_at_s5003_0 := by
  intro A ta ws vs hD hth hl hk hds hf
  have hl : vs.length = 3 := hl
  have hk : ∀ q ∈ ([(0, (2, 0, 0, [8]))] : List (Nat × tv_T)), tv_ok ta q.2 (n_v vs q.1) := hk
  obtain ⟨t0, hk⟩ := List.forall_mem_cons.mp hk
  have t0 : tv_ok ta (2, 0, 0, [8]) (n_v vs 0) := t0
  have r0 : ta (v_ad (n_v vs 0)) = some 8 := tv_rg t0
  have kz_0_9 : (-2147483648) ≤ w_fi ws (n_v vs 0) 9 ∧ w_fi ws (n_v vs 0) 9 ≤ 1000000 := tv_rng (th_fd hD hth r0 (g := GG_8) rfl (k := 9) (t := (0, -2147483648, 1000000, [])) rfl rfl)
  have kv : (-2147483648) ≤ w_fi ws (n_v vs 0) 9 ∧ w_fi ws (n_v vs 0) 9 ≤ 1000000 := tv_rng (th_fd hD hth r0 (g := GG_8) rfl (k := 9) (t := (0, -2147483648, 1000000, [])) rfl rfl)
  obtain ⟨x, ex, hx⟩ := iv_ex (ta := ta) (lo := (-2147483648)) (hi := 1000000) (z := w_fi ws (n_v vs 0) 9) (by omega) (by omega) (by decide) (by decide)
  have ex2 : v_iv (Value.int x) = w_fi ws (n_v vs 0) 9 := ex
  have ex3 : (-2147483648) ≤ v_iv (Value.int x) ∧ v_iv (Value.int x) ≤ 1000000 := tv_rng hx
  have e_0 : n_v (vs ++ [Value.int x]) 0 = n_v vs 0 := n_v_old (by rw [hl]; decide)
  have e_3 : n_v (vs ++ [Value.int x]) 3 = Value.int x := n_v_new hl
  have nf0 : fc_1 (20, [0, 3], [30, 0, 1, 1, 9, -1, 0, 0]) ws (vs ++ [Value.int x]) := by
    refine ⟨fun n hn => ?_, ?_⟩
    · have hn : n ∈ [0, 3] := hn
      rw [List.length_append, hl]
      simp only [List.mem_cons, List.not_mem_nil, or_false] at hn
      show n < 3 + 1; omega
    · show 1 * w_fi ws (n_v (vs ++ [Value.int x]) 0) 9 + ((-1) * v_iv (n_v (vs ++ [Value.int x]) 3) + 0) ≤ 0
      rw [e_0]
      rw [e_3]
      omega
  have nf1 : fc_1 (20, [0, 3], [30, 0, -1, 1, 9, 1, 0, 0]) ws (vs ++ [Value.int x]) := by
    refine ⟨fun n hn => ?_, ?_⟩
    · have hn : n ∈ [0, 3] := hn
      rw [List.length_append, hl]
      simp only [List.mem_cons, List.not_mem_nil, or_false] at hn
      show n < 3 + 1; omega
    · show (-1) * w_fi ws (n_v (vs ++ [Value.int x]) 0) 9 + (1 * v_iv (n_v (vs ++ [Value.int x]) 3) + 0) ≤ 0
      rw [e_0]
      rw [e_3]
      omega
  exact ⟨fun q hq => (by cases hq), [Value.int x], ag_one hx, List.forall_mem_cons.mpr ⟨⟨by decide, nf0⟩, List.forall_mem_cons.mpr ⟨⟨by decide, nf1⟩, (fun _ h => (by cases h))⟩⟩, (fun _ h => (by cases h))⟩
def o_Re_readValue_at_s5003_1 : or_T := (33, 7, [(0, (2, 0, 0, [8])), (3, (0, -2147483648, 1000000, []))], [(20, [0, 0, 3], [31, 1, 3, 1, 1, 7, 0, 1, 1, 9, -1, 0, 0]), (20, [0, 0, 3], [31, 1, 3, 1, 1, 7, 0, -1, 1, 9, 1, 0, 0])], [], [(0, -2147483648, 1000000, [])], [(20, [0, 7], [30, 0, 1, 1, 9, -1, 0, 0]), (20, [0, 7], [30, 0, -1, 1, 9, 1, 0, 0])], [], [])
theorem oo_Re_readValue_at_s5003_1 {kA : Nat → ClassId} : or_ok kA GG o_Re_readValue_at_s5003_1 := by
  intro A ta ws vs hD hth hl hk hds hf
  have hl : vs.length = 7 := hl
  have hk : ∀ q ∈ ([(0, (2, 0, 0, [8])), (3, (0, -2147483648, 1000000, []))] : List (Nat × tv_T)), tv_ok ta q.2 (n_v vs q.1) := hk
  obtain ⟨t0, hk⟩ := List.forall_mem_cons.mp hk
  have t0 : tv_ok ta (2, 0, 0, [8]) (n_v vs 0) := t0
  have r0 : ta (v_ad (n_v vs 0)) = some 8 := tv_rg t0
  obtain ⟨t3, hk⟩ := List.forall_mem_cons.mp hk
  have t3 : tv_ok ta (0, -2147483648, 1000000, []) (n_v vs 3) := t3
  have k3 : (-2147483648) ≤ v_iv (n_v vs 3) ∧ v_iv (n_v vs 3) ≤ 1000000 := tv_rng t3
  have hf : fc_ok [(20, [0, 0, 3], [31, 1, 3, 1, 1, 7, 0, 1, 1, 9, -1, 0, 0]), (20, [0, 0, 3], [31, 1, 3, 1, 1, 7, 0, -1, 1, 9, 1, 0, 0])] ta ws vs := hf
  obtain ⟨f0, hf⟩ := fc_un (by decide) hf
  have f0 : (1 * w_fi ws (n_v vs 0) 7 + 0 ≤ 3) ∨ (1 * w_fi ws (n_v vs 0) 9 + ((-1) * v_iv (n_v vs 3) + 0) ≤ 0) := f0
  obtain ⟨f1, hf⟩ := fc_un (by decide) hf
  have f1 : (1 * w_fi ws (n_v vs 0) 7 + 0 ≤ 3) ∨ ((-1) * w_fi ws (n_v vs 0) 9 + (1 * v_iv (n_v vs 3) + 0) ≤ 0) := f1
  have kz_0_7 : (-128) ≤ w_fi ws (n_v vs 0) 7 ∧ w_fi ws (n_v vs 0) 7 ≤ 127 := tv_rng (th_fd hD hth r0 (g := GG_8) rfl (k := 7) (t := (0, -128, 127, [])) rfl rfl)
  have kz_0_9 : (-2147483648) ≤ w_fi ws (n_v vs 0) 9 ∧ w_fi ws (n_v vs 0) 9 ≤ 1000000 := tv_rng (th_fd hD hth r0 (g := GG_8) rfl (k := 9) (t := (0, -2147483648, 1000000, [])) rfl rfl)
  have kv : (-2147483648) ≤ w_fi ws (n_v vs 0) 9 ∧ w_fi ws (n_v vs 0) 9 ≤ 1000000 := tv_rng (th_fd hD hth r0 (g := GG_8) rfl (k := 9) (t := (0, -2147483648, 1000000, [])) rfl rfl)
  obtain ⟨x, ex, hx⟩ := iv_ex (ta := ta) (lo := (-2147483648)) (hi := 1000000) (z := w_fi ws (n_v vs 0) 9) (by omega) (by omega) (by decide) (by decide)
  have ex2 : v_iv (Value.int x) = w_fi ws (n_v vs 0) 9 := ex
  have ex3 : (-2147483648) ≤ v_iv (Value.int x) ∧ v_iv (Value.int x) ≤ 1000000 := tv_rng hx
  have e_0 : n_v (vs ++ [Value.int x]) 0 = n_v vs 0 := n_v_old (by rw [hl]; decide)
  have e_7 : n_v (vs ++ [Value.int x]) 7 = Value.int x := n_v_new hl
  have nf0 : fc_1 (20, [0, 7], [30, 0, 1, 1, 9, -1, 0, 0]) ws (vs ++ [Value.int x]) := by
    refine ⟨fun n hn => ?_, ?_⟩
    · have hn : n ∈ [0, 7] := hn
      rw [List.length_append, hl]
      simp only [List.mem_cons, List.not_mem_nil, or_false] at hn
      show n < 7 + 1; omega
    · show 1 * w_fi ws (n_v (vs ++ [Value.int x]) 0) 9 + ((-1) * v_iv (n_v (vs ++ [Value.int x]) 7) + 0) ≤ 0
      rw [e_0]
      rw [e_7]
      omega
  have nf1 : fc_1 (20, [0, 7], [30, 0, -1, 1, 9, 1, 0, 0]) ws (vs ++ [Value.int x]) := by
    refine ⟨fun n hn => ?_, ?_⟩
    · have hn : n ∈ [0, 7] := hn
      rw [List.length_append, hl]
      simp only [List.mem_cons, List.not_mem_nil, or_false] at hn
      show n < 7 + 1; omega
    · show (-1) * w_fi ws (n_v (vs ++ [Value.int x]) 0) 9 + (1 * v_iv (n_v (vs ++ [Value.int x]) 7) + 0) ≤ 0
      rw [e_0]
      rw [e_7]
      omega
  exact ⟨fun q hq => (by cases hq), [Value.int x], ag_one hx, List.forall_mem_cons.mpr ⟨⟨by decide, nf0⟩, List.forall_mem_cons.mpr ⟨⟨by decide, nf1⟩, (fun _ h => (by cases h))⟩⟩, (fun _ h => (by cases h))⟩
def o_Re_readValue_at_s5003_2 : or_T := (52, 10, [(0, (2, 0, 0, [8])), (7, (0, -2147483648, 1000000, [])), (8, (0, 61, 61, [])), (9, (0, 61, 61, []))], [(7, [8, 9], [0]), (9, [8, 0], [7]), (20, [0, 0, 7], [31, 1, 3, 1, 1, 7, 0, 1, 1, 9, -1, 0, 0]), (20, [0, 0, 7], [31, 1, 3, 1, 1, 7, 0, -1, 1, 9, 1, 0, 0])], [], [(0, -2147483648, 1000000, [])], [(20, [0, 10], [30, 0, 1, 1, 9, -1, 0, 0]), (20, [0, 10], [30, 0, -1, 1, 9, 1, 0, 0])], [], [])
theorem oo_Re_readValue_at_s5003_2 {kA : Nat → ClassId} : or_ok kA GG o_Re_readValue_at_s5003_2 := by
  intro A ta ws vs hD hth hl hk hds hf
  have hl : vs.length = 10 := hl
  have hk : ∀ q ∈ ([(0, (2, 0, 0, [8])), (7, (0, -2147483648, 1000000, [])), (8, (0, 61, 61, [])), (9, (0, 61, 61, []))] : List (Nat × tv_T)), tv_ok ta q.2 (n_v vs q.1) := hk
  obtain ⟨t0, hk⟩ := List.forall_mem_cons.mp hk
  have t0 : tv_ok ta (2, 0, 0, [8]) (n_v vs 0) := t0
  have r0 : ta (v_ad (n_v vs 0)) = some 8 := tv_rg t0
  obtain ⟨t7, hk⟩ := List.forall_mem_cons.mp hk
  have t7 : tv_ok ta (0, -2147483648, 1000000, []) (n_v vs 7) := t7
  have k7 : (-2147483648) ≤ v_iv (n_v vs 7) ∧ v_iv (n_v vs 7) ≤ 1000000 := tv_rng t7
  obtain ⟨t8, hk⟩ := List.forall_mem_cons.mp hk
  have t8 : tv_ok ta (0, 61, 61, []) (n_v vs 8) := t8
  have k8 : 61 ≤ v_iv (n_v vs 8) ∧ v_iv (n_v vs 8) ≤ 61 := tv_rng t8
  obtain ⟨t9, hk⟩ := List.forall_mem_cons.mp hk
  have t9 : tv_ok ta (0, 61, 61, []) (n_v vs 9) := t9
  have k9 : 61 ≤ v_iv (n_v vs 9) ∧ v_iv (n_v vs 9) ≤ 61 := tv_rng t9
  have hf : fc_ok [(7, [8, 9], [0]), (9, [8, 0], [7]), (20, [0, 0, 7], [31, 1, 3, 1, 1, 7, 0, 1, 1, 9, -1, 0, 0]), (20, [0, 0, 7], [31, 1, 3, 1, 1, 7, 0, -1, 1, 9, 1, 0, 0])] ta ws vs := hf
  obtain ⟨f0, hf⟩ := fc_un (by decide) hf
  have f0 : v_iv (n_v vs 8) = v_iv (n_v vs 9) := f0
  obtain ⟨f1, hf⟩ := fc_un (by decide) hf
  have f1 : n_v vs 8 = w_fd ws (v_ad (n_v vs 0)) 7 := f1
  obtain ⟨f2, hf⟩ := fc_un (by decide) hf
  have f2 : (1 * w_fi ws (n_v vs 0) 7 + 0 ≤ 3) ∨ (1 * w_fi ws (n_v vs 0) 9 + ((-1) * v_iv (n_v vs 7) + 0) ≤ 0) := f2
  obtain ⟨f3, hf⟩ := fc_un (by decide) hf
  have f3 : (1 * w_fi ws (n_v vs 0) 7 + 0 ≤ 3) ∨ ((-1) * w_fi ws (n_v vs 0) 9 + (1 * v_iv (n_v vs 7) + 0) ≤ 0) := f3
  have g1 : v_iv (n_v vs 8) = w_fi ws (n_v vs 0) 7 := congrArg v_iv f1
  have kz_0_7 : (-128) ≤ w_fi ws (n_v vs 0) 7 ∧ w_fi ws (n_v vs 0) 7 ≤ 127 := tv_rng (th_fd hD hth r0 (g := GG_8) rfl (k := 7) (t := (0, -128, 127, [])) rfl rfl)
  have kz_0_9 : (-2147483648) ≤ w_fi ws (n_v vs 0) 9 ∧ w_fi ws (n_v vs 0) 9 ≤ 1000000 := tv_rng (th_fd hD hth r0 (g := GG_8) rfl (k := 9) (t := (0, -2147483648, 1000000, [])) rfl rfl)
  have kv : (-2147483648) ≤ w_fi ws (n_v vs 0) 9 ∧ w_fi ws (n_v vs 0) 9 ≤ 1000000 := tv_rng (th_fd hD hth r0 (g := GG_8) rfl (k := 9) (t := (0, -2147483648, 1000000, [])) rfl rfl)
  obtain ⟨x, ex, hx⟩ := iv_ex (ta := ta) (lo := (-2147483648)) (hi := 1000000) (z := w_fi ws (n_v vs 0) 9) (by omega) (by omega) (by decide) (by decide)
  have ex2 : v_iv (Value.int x) = w_fi ws (n_v vs 0) 9 := ex
  have ex3 : (-2147483648) ≤ v_iv (Value.int x) ∧ v_iv (Value.int x) ≤ 1000000 := tv_rng hx
  have e_0 : n_v (vs ++ [Value.int x]) 0 = n_v vs 0 := n_v_old (by rw [hl]; decide)
  have e_10 : n_v (vs ++ [Value.int x]) 10 = Value.int x := n_v_new hl
  have nf0 : fc_1 (20, [0, 10], [30, 0, 1, 1, 9, -1, 0, 0]) ws (vs ++ [Value.int x]) := by
    refine ⟨fun n hn => ?_, ?_⟩
    · have hn : n ∈ [0, 10] := hn
      rw [List.length_append, hl]
      simp only [List.mem_cons, List.not_mem_nil, or_false] at hn
      show n < 10 + 1; omega
    · show 1 * w_fi ws (n_v (vs ++ [Value.int x]) 0) 9 + ((-1) * v_iv (n_v (vs ++ [Value.int x]) 10) + 0) ≤ 0
      rw [e_0]
      rw [e_10]
      omega
  have nf1 : fc_1 (20, [0, 10], [30, 0, -1, 1, 9, 1, 0, 0]) ws (vs ++ [Value.int x]) := by
    refine ⟨fun n hn => ?_, ?_⟩
    · have hn : n ∈ [0, 10] := hn
      rw [List.length_append, hl]
      simp only [List.mem_cons, List.not_mem_nil, or_false] at hn
      show n < 10 + 1; omega
    · show (-1) * w_fi ws (n_v (vs ++ [Value.int x]) 0) 9 + (1 * v_iv (n_v (vs ++ [Value.int x]) 10) + 0) ≤ 0
      rw [e_0]
      rw [e_10]
      omega
  exact ⟨fun q hq => (by cases hq), [Value.int x], ag_one hx, List.forall_mem_cons.mpr ⟨⟨by decide, nf0⟩, List.forall_mem_cons.mpr ⟨⟨by decide, nf1⟩, (fun _ h => (by cases h))⟩⟩, (fun _ h => (by cases h))⟩
def o_Re_readValue_at_s5003_3 : or_T := (90, 17, [(0, (2, 0, 0, [8])), (2, (0, 9, 9, [])), (10, (0, -2147483648, 1000000, [])), (16, (0, 0, 0, []))], [(20, [0, 0, 10], [31, 1, 3, 1, 1, 7, 0, 1, 1, 9, -1, 0, 0]), (20, [0, 0, 10], [31, 1, 3, 1, 1, 7, 0, -1, 1, 9, 1, 0, 0])], [], [], [(20, [16, 0, 2], [31, 1, 0, 1, 0, 0, 0, 1, 1, 9, -1, 0, 0]), (20, [16, 0], [31, 1, 0, 1, 0, 0, -1, -1, 1, 9])], [], [])
theorem oo_Re_readValue_at_s5003_3 {kA : Nat → ClassId} : or_ok kA GG o_Re_readValue_at_s5003_3 := by
  intro A ta ws vs hD hth hl hk hds hf
  have hl : vs.length = 17 := hl
  have hk : ∀ q ∈ ([(0, (2, 0, 0, [8])), (2, (0, 9, 9, [])), (10, (0, -2147483648, 1000000, [])), (16, (0, 0, 0, []))] : List (Nat × tv_T)), tv_ok ta q.2 (n_v vs q.1) := hk
  obtain ⟨t0, hk⟩ := List.forall_mem_cons.mp hk
  have t0 : tv_ok ta (2, 0, 0, [8]) (n_v vs 0) := t0
  have r0 : ta (v_ad (n_v vs 0)) = some 8 := tv_rg t0
  obtain ⟨t2, hk⟩ := List.forall_mem_cons.mp hk
  have t2 : tv_ok ta (0, 9, 9, []) (n_v vs 2) := t2
  have k2 : 9 ≤ v_iv (n_v vs 2) ∧ v_iv (n_v vs 2) ≤ 9 := tv_rng t2
  obtain ⟨t10, hk⟩ := List.forall_mem_cons.mp hk
  have t10 : tv_ok ta (0, -2147483648, 1000000, []) (n_v vs 10) := t10
  have k10 : (-2147483648) ≤ v_iv (n_v vs 10) ∧ v_iv (n_v vs 10) ≤ 1000000 := tv_rng t10
  obtain ⟨t16, hk⟩ := List.forall_mem_cons.mp hk
  have t16 : tv_ok ta (0, 0, 0, []) (n_v vs 16) := t16
  have k16 : 0 ≤ v_iv (n_v vs 16) ∧ v_iv (n_v vs 16) ≤ 0 := tv_rng t16
  have hf : fc_ok [(20, [0, 0, 10], [31, 1, 3, 1, 1, 7, 0, 1, 1, 9, -1, 0, 0]), (20, [0, 0, 10], [31, 1, 3, 1, 1, 7, 0, -1, 1, 9, 1, 0, 0])] ta ws vs := hf
  obtain ⟨f0, hf⟩ := fc_un (by decide) hf
  have f0 : (1 * w_fi ws (n_v vs 0) 7 + 0 ≤ 3) ∨ (1 * w_fi ws (n_v vs 0) 9 + ((-1) * v_iv (n_v vs 10) + 0) ≤ 0) := f0
  obtain ⟨f1, hf⟩ := fc_un (by decide) hf
  have f1 : (1 * w_fi ws (n_v vs 0) 7 + 0 ≤ 3) ∨ ((-1) * w_fi ws (n_v vs 0) 9 + (1 * v_iv (n_v vs 10) + 0) ≤ 0) := f1
  have kz_0_7 : (-128) ≤ w_fi ws (n_v vs 0) 7 ∧ w_fi ws (n_v vs 0) 7 ≤ 127 := tv_rng (th_fd hD hth r0 (g := GG_8) rfl (k := 7) (t := (0, -128, 127, [])) rfl rfl)
  have kz_0_9 : (-2147483648) ≤ w_fi ws (n_v vs 0) 9 ∧ w_fi ws (n_v vs 0) 9 ≤ 1000000 := tv_rng (th_fd hD hth r0 (g := GG_8) rfl (k := 9) (t := (0, -2147483648, 1000000, [])) rfl rfl)
  have nf0 : fc_1 (20, [16, 0, 2], [31, 1, 0, 1, 0, 0, 0, 1, 1, 9, -1, 0, 0]) ws (vs) := by
    refine ⟨fun n hn => ?_, ?_⟩
    · have hn : n ∈ [16, 0, 2] := hn
      rw [hl]
      simp only [List.mem_cons, List.not_mem_nil, or_false] at hn
      show n < 17; omega
    · show (1 * v_iv (n_v vs 16) + 0 ≤ 0) ∨ (1 * w_fi ws (n_v vs 0) 9 + ((-1) * v_iv (n_v vs 2) + 0) ≤ 0)
      omega
  have nf1 : fc_1 (20, [16, 0], [31, 1, 0, 1, 0, 0, -1, -1, 1, 9]) ws (vs) := by
    refine ⟨fun n hn => ?_, ?_⟩
    · have hn : n ∈ [16, 0] := hn
      rw [hl]
      simp only [List.mem_cons, List.not_mem_nil, or_false] at hn
      show n < 17; omega
    · show (1 * v_iv (n_v vs 16) + 0 ≤ 0) ∨ ((-1) * w_fi ws (n_v vs 0) 9 + 0 ≤ (-1))
      omega
  refine ⟨(fun _ h => (by cases h)), [], trivial, ?_, (fun _ h => (by cases h))⟩
  rw [List.append_nil]
  exact List.forall_mem_cons.mpr ⟨⟨by decide, nf0⟩, List.forall_mem_cons.mpr ⟨⟨by decide, nf1⟩, (fun _ h => (by cases h))⟩⟩
def o_Re_readValue_at_s5003_4 : or_T := (92, 15, [(0, (2, 0, 0, [8])), (2, (0, 9, 9, [])), (10, (0, -2147483648, 1000000, [])), (11, (0, 3, 3, [])), (12, (0, 3, 3, [])), (13, (0, 1, 9, [])), (14, (0, 1, 1, []))], [(7, [13, 2], [5]), (9, [13, 0], [9]), (7, [13, 14], [3]), (7, [11, 12], [0]), (9, [11, 0], [7]), (20, [0, 0, 10], [31, 1, 3, 1, 1, 7, 0, 1, 1, 9, -1, 0, 0]), (20, [0, 0, 10], [31, 1, 3, 1, 1, 7, 0, -1, 1, 9, 1, 0, 0])], [], [(0, -2147483648, 1000000, [])], [(20, [0, 15], [30, 0, 1, 1, 9, -1, 0, 0]), (20, [0, 15], [30, 0, -1, 1, 9, 1, 0, 0]), (23, [15, 13], [0, 1, -1]), (23, [15, 13], [0, -1, 1])], [], [])
theorem oo_Re_readValue_at_s5003_4 {kA : Nat → ClassId} : or_ok kA GG o_Re_readValue_at_s5003_4 := by
  intro A ta ws vs hD hth hl hk hds hf
  have hl : vs.length = 15 := hl
  have hk : ∀ q ∈ ([(0, (2, 0, 0, [8])), (2, (0, 9, 9, [])), (10, (0, -2147483648, 1000000, [])), (11, (0, 3, 3, [])), (12, (0, 3, 3, [])), (13, (0, 1, 9, [])), (14, (0, 1, 1, []))] : List (Nat × tv_T)), tv_ok ta q.2 (n_v vs q.1) := hk
  obtain ⟨t0, hk⟩ := List.forall_mem_cons.mp hk
  have t0 : tv_ok ta (2, 0, 0, [8]) (n_v vs 0) := t0
  have r0 : ta (v_ad (n_v vs 0)) = some 8 := tv_rg t0
  obtain ⟨t2, hk⟩ := List.forall_mem_cons.mp hk
  have t2 : tv_ok ta (0, 9, 9, []) (n_v vs 2) := t2
  have k2 : 9 ≤ v_iv (n_v vs 2) ∧ v_iv (n_v vs 2) ≤ 9 := tv_rng t2
  obtain ⟨t10, hk⟩ := List.forall_mem_cons.mp hk
  have t10 : tv_ok ta (0, -2147483648, 1000000, []) (n_v vs 10) := t10
  have k10 : (-2147483648) ≤ v_iv (n_v vs 10) ∧ v_iv (n_v vs 10) ≤ 1000000 := tv_rng t10
  obtain ⟨t11, hk⟩ := List.forall_mem_cons.mp hk
  have t11 : tv_ok ta (0, 3, 3, []) (n_v vs 11) := t11
  have k11 : 3 ≤ v_iv (n_v vs 11) ∧ v_iv (n_v vs 11) ≤ 3 := tv_rng t11
  obtain ⟨t12, hk⟩ := List.forall_mem_cons.mp hk
  have t12 : tv_ok ta (0, 3, 3, []) (n_v vs 12) := t12
  have k12 : 3 ≤ v_iv (n_v vs 12) ∧ v_iv (n_v vs 12) ≤ 3 := tv_rng t12
  obtain ⟨t13, hk⟩ := List.forall_mem_cons.mp hk
  have t13 : tv_ok ta (0, 1, 9, []) (n_v vs 13) := t13
  have k13 : 1 ≤ v_iv (n_v vs 13) ∧ v_iv (n_v vs 13) ≤ 9 := tv_rng t13
  obtain ⟨t14, hk⟩ := List.forall_mem_cons.mp hk
  have t14 : tv_ok ta (0, 1, 1, []) (n_v vs 14) := t14
  have k14 : 1 ≤ v_iv (n_v vs 14) ∧ v_iv (n_v vs 14) ≤ 1 := tv_rng t14
  have hf : fc_ok [(7, [13, 2], [5]), (9, [13, 0], [9]), (7, [13, 14], [3]), (7, [11, 12], [0]), (9, [11, 0], [7]), (20, [0, 0, 10], [31, 1, 3, 1, 1, 7, 0, 1, 1, 9, -1, 0, 0]), (20, [0, 0, 10], [31, 1, 3, 1, 1, 7, 0, -1, 1, 9, 1, 0, 0])] ta ws vs := hf
  obtain ⟨f0, hf⟩ := fc_un (by decide) hf
  have f0 : v_iv (n_v vs 13) ≤ v_iv (n_v vs 2) := f0
  obtain ⟨f1, hf⟩ := fc_un (by decide) hf
  have f1 : n_v vs 13 = w_fd ws (v_ad (n_v vs 0)) 9 := f1
  obtain ⟨f2, hf⟩ := fc_un (by decide) hf
  have f2 : v_iv (n_v vs 14) ≤ v_iv (n_v vs 13) := f2
  obtain ⟨f3, hf⟩ := fc_un (by decide) hf
  have f3 : v_iv (n_v vs 11) = v_iv (n_v vs 12) := f3
  obtain ⟨f4, hf⟩ := fc_un (by decide) hf
  have f4 : n_v vs 11 = w_fd ws (v_ad (n_v vs 0)) 7 := f4
  obtain ⟨f5, hf⟩ := fc_un (by decide) hf
  have f5 : (1 * w_fi ws (n_v vs 0) 7 + 0 ≤ 3) ∨ (1 * w_fi ws (n_v vs 0) 9 + ((-1) * v_iv (n_v vs 10) + 0) ≤ 0) := f5
  obtain ⟨f6, hf⟩ := fc_un (by decide) hf
  have f6 : (1 * w_fi ws (n_v vs 0) 7 + 0 ≤ 3) ∨ ((-1) * w_fi ws (n_v vs 0) 9 + (1 * v_iv (n_v vs 10) + 0) ≤ 0) := f6
  have g1 : v_iv (n_v vs 13) = w_fi ws (n_v vs 0) 9 := congrArg v_iv f1
  have g4 : v_iv (n_v vs 11) = w_fi ws (n_v vs 0) 7 := congrArg v_iv f4
  have kz_0_7 : (-128) ≤ w_fi ws (n_v vs 0) 7 ∧ w_fi ws (n_v vs 0) 7 ≤ 127 := tv_rng (th_fd hD hth r0 (g := GG_8) rfl (k := 7) (t := (0, -128, 127, [])) rfl rfl)
  have kz_0_9 : (-2147483648) ≤ w_fi ws (n_v vs 0) 9 ∧ w_fi ws (n_v vs 0) 9 ≤ 1000000 := tv_rng (th_fd hD hth r0 (g := GG_8) rfl (k := 9) (t := (0, -2147483648, 1000000, [])) rfl rfl)
  have kv : (-2147483648) ≤ w_fi ws (n_v vs 0) 9 ∧ w_fi ws (n_v vs 0) 9 ≤ 1000000 := tv_rng (th_fd hD hth r0 (g := GG_8) rfl (k := 9) (t := (0, -2147483648, 1000000, [])) rfl rfl)
  obtain ⟨x, ex, hx⟩ := iv_ex (ta := ta) (lo := (-2147483648)) (hi := 1000000) (z := w_fi ws (n_v vs 0) 9) (by omega) (by omega) (by decide) (by decide)
  have ex2 : v_iv (Value.int x) = w_fi ws (n_v vs 0) 9 := ex
  have ex3 : (-2147483648) ≤ v_iv (Value.int x) ∧ v_iv (Value.int x) ≤ 1000000 := tv_rng hx
  have e_0 : n_v (vs ++ [Value.int x]) 0 = n_v vs 0 := n_v_old (by rw [hl]; decide)
  have e_13 : n_v (vs ++ [Value.int x]) 13 = n_v vs 13 := n_v_old (by rw [hl]; decide)
  have e_15 : n_v (vs ++ [Value.int x]) 15 = Value.int x := n_v_new hl
  have nf0 : fc_1 (20, [0, 15], [30, 0, 1, 1, 9, -1, 0, 0]) ws (vs ++ [Value.int x]) := by
    refine ⟨fun n hn => ?_, ?_⟩
    · have hn : n ∈ [0, 15] := hn
      rw [List.length_append, hl]
      simp only [List.mem_cons, List.not_mem_nil, or_false] at hn
      show n < 15 + 1; omega
    · show 1 * w_fi ws (n_v (vs ++ [Value.int x]) 0) 9 + ((-1) * v_iv (n_v (vs ++ [Value.int x]) 15) + 0) ≤ 0
      rw [e_0]
      rw [e_15]
      omega
  have nf1 : fc_1 (20, [0, 15], [30, 0, -1, 1, 9, 1, 0, 0]) ws (vs ++ [Value.int x]) := by
    refine ⟨fun n hn => ?_, ?_⟩
    · have hn : n ∈ [0, 15] := hn
      rw [List.length_append, hl]
      simp only [List.mem_cons, List.not_mem_nil, or_false] at hn
      show n < 15 + 1; omega
    · show (-1) * w_fi ws (n_v (vs ++ [Value.int x]) 0) 9 + (1 * v_iv (n_v (vs ++ [Value.int x]) 15) + 0) ≤ 0
      rw [e_0]
      rw [e_15]
      omega
  have nf2 : fc_1 (23, [15, 13], [0, 1, -1]) ws (vs ++ [Value.int x]) := by
    refine ⟨fun n hn => ?_, ?_⟩
    · have hn : n ∈ [15, 13] := hn
      rw [List.length_append, hl]
      simp only [List.mem_cons, List.not_mem_nil, or_false] at hn
      show n < 15 + 1; omega
    · show 1 * v_iv (n_v (vs ++ [Value.int x]) 15) + ((-1) * v_iv (n_v (vs ++ [Value.int x]) 13) + 0) ≤ 0
      rw [e_13]
      rw [e_15]
      omega
  have nf3 : fc_1 (23, [15, 13], [0, -1, 1]) ws (vs ++ [Value.int x]) := by
    refine ⟨fun n hn => ?_, ?_⟩
    · have hn : n ∈ [15, 13] := hn
      rw [List.length_append, hl]
      simp only [List.mem_cons, List.not_mem_nil, or_false] at hn
      show n < 15 + 1; omega
    · show (-1) * v_iv (n_v (vs ++ [Value.int x]) 15) + (1 * v_iv (n_v (vs ++ [Value.int x]) 13) + 0) ≤ 0
      rw [e_13]
      rw [e_15]
      omega
  exact ⟨fun q hq => (by cases hq), [Value.int x], ag_one hx, List.forall_mem_cons.mpr ⟨⟨by decide, nf0⟩, List.forall_mem_cons.mpr ⟨⟨by decide, nf1⟩, List.forall_mem_cons.mpr ⟨⟨by decide, nf2⟩, List.forall_mem_cons.mpr ⟨⟨by decide, nf3⟩, (fun _ h => (by cases h))⟩⟩⟩⟩, (fun _ h => (by cases h))⟩
def o_Re_readValue_at_s5003_5 : or_T := (131, 20, [(0, (2, 0, 0, [8])), (2, (0, 9, 9, [])), (13, (0, 1, 9, [])), (14, (0, 1, 1, [])), (15, (0, -2147483648, 1000000, [])), (16, (0, 93, 93, [])), (17, (0, 2, 2, [])), (18, (0, 93, 93, [])), (19, (0, 1, 1, []))], [(7, [16, 18], [0]), (9, [16, 0], [7]), (7, [16, 17], [1]), (23, [15, 13], [0, 1, -1]), (23, [15, 13], [0, -1, 1]), (20, [0, 0, 15], [31, 1, 3, 1, 1, 7, 0, 1, 1, 9, -1, 0, 0]), (20, [0, 0, 15], [31, 1, 3, 1, 1, 7, 0, -1, 1, 9, 1, 0, 0]), (102, [15], [0, 8006, 8007, 8008, 8009]), (23, [15, 13], [0, 1, -1]), (23, [15, 13], [0, -1, 1]), (7, [13, 2], [5]), (7, [13, 14], [3])], [], [], [(20, [19, 0, 2], [31, 1, 0, 1, 0, 0, 0, 1, 1, 9, -1, 0, 0]), (20, [19, 0], [31, 1, 0, 1, 0, 0, -1, -1, 1, 9])], [], [])
theorem oo_Re_readValue_at_s5003_5 {kA : Nat → ClassId} : or_ok kA GG o_Re_readValue_at_s5003_5 := by
  intro A ta ws vs hD hth hl hk hds hf
  have hl : vs.length = 20 := hl
  have hk : ∀ q ∈ ([(0, (2, 0, 0, [8])), (2, (0, 9, 9, [])), (13, (0, 1, 9, [])), (14, (0, 1, 1, [])), (15, (0, -2147483648, 1000000, [])), (16, (0, 93, 93, [])), (17, (0, 2, 2, [])), (18, (0, 93, 93, [])), (19, (0, 1, 1, []))] : List (Nat × tv_T)), tv_ok ta q.2 (n_v vs q.1) := hk
  obtain ⟨t0, hk⟩ := List.forall_mem_cons.mp hk
  have t0 : tv_ok ta (2, 0, 0, [8]) (n_v vs 0) := t0
  have r0 : ta (v_ad (n_v vs 0)) = some 8 := tv_rg t0
  obtain ⟨t2, hk⟩ := List.forall_mem_cons.mp hk
  have t2 : tv_ok ta (0, 9, 9, []) (n_v vs 2) := t2
  have k2 : 9 ≤ v_iv (n_v vs 2) ∧ v_iv (n_v vs 2) ≤ 9 := tv_rng t2
  obtain ⟨t13, hk⟩ := List.forall_mem_cons.mp hk
  have t13 : tv_ok ta (0, 1, 9, []) (n_v vs 13) := t13
  have k13 : 1 ≤ v_iv (n_v vs 13) ∧ v_iv (n_v vs 13) ≤ 9 := tv_rng t13
  obtain ⟨t14, hk⟩ := List.forall_mem_cons.mp hk
  have t14 : tv_ok ta (0, 1, 1, []) (n_v vs 14) := t14
  have k14 : 1 ≤ v_iv (n_v vs 14) ∧ v_iv (n_v vs 14) ≤ 1 := tv_rng t14
  obtain ⟨t15, hk⟩ := List.forall_mem_cons.mp hk
  have t15 : tv_ok ta (0, -2147483648, 1000000, []) (n_v vs 15) := t15
  have k15 : (-2147483648) ≤ v_iv (n_v vs 15) ∧ v_iv (n_v vs 15) ≤ 1000000 := tv_rng t15
  obtain ⟨t16, hk⟩ := List.forall_mem_cons.mp hk
  have t16 : tv_ok ta (0, 93, 93, []) (n_v vs 16) := t16
  have k16 : 93 ≤ v_iv (n_v vs 16) ∧ v_iv (n_v vs 16) ≤ 93 := tv_rng t16
  obtain ⟨t17, hk⟩ := List.forall_mem_cons.mp hk
  have t17 : tv_ok ta (0, 2, 2, []) (n_v vs 17) := t17
  have k17 : 2 ≤ v_iv (n_v vs 17) ∧ v_iv (n_v vs 17) ≤ 2 := tv_rng t17
  obtain ⟨t18, hk⟩ := List.forall_mem_cons.mp hk
  have t18 : tv_ok ta (0, 93, 93, []) (n_v vs 18) := t18
  have k18 : 93 ≤ v_iv (n_v vs 18) ∧ v_iv (n_v vs 18) ≤ 93 := tv_rng t18
  obtain ⟨t19, hk⟩ := List.forall_mem_cons.mp hk
  have t19 : tv_ok ta (0, 1, 1, []) (n_v vs 19) := t19
  have k19 : 1 ≤ v_iv (n_v vs 19) ∧ v_iv (n_v vs 19) ≤ 1 := tv_rng t19
  have hf : fc_ok [(7, [16, 18], [0]), (9, [16, 0], [7]), (7, [16, 17], [1]), (23, [15, 13], [0, 1, -1]), (23, [15, 13], [0, -1, 1]), (20, [0, 0, 15], [31, 1, 3, 1, 1, 7, 0, 1, 1, 9, -1, 0, 0]), (20, [0, 0, 15], [31, 1, 3, 1, 1, 7, 0, -1, 1, 9, 1, 0, 0]), (102, [15], [0, 8006, 8007, 8008, 8009]), (23, [15, 13], [0, 1, -1]), (23, [15, 13], [0, -1, 1]), (7, [13, 2], [5]), (7, [13, 14], [3])] ta ws vs := hf
  obtain ⟨f0, hf⟩ := fc_un (by decide) hf
  have f0 : v_iv (n_v vs 16) = v_iv (n_v vs 18) := f0
  obtain ⟨f1, hf⟩ := fc_un (by decide) hf
  have f1 : n_v vs 16 = w_fd ws (v_ad (n_v vs 0)) 7 := f1
  obtain ⟨f2, hf⟩ := fc_un (by decide) hf
  have f2 : v_iv (n_v vs 16) ≠ v_iv (n_v vs 17) := f2
  obtain ⟨f3, hf⟩ := fc_un (by decide) hf
  have f3 : 1 * v_iv (n_v vs 15) + ((-1) * v_iv (n_v vs 13) + 0) ≤ 0 := f3
  obtain ⟨f4, hf⟩ := fc_un (by decide) hf
  have f4 : (-1) * v_iv (n_v vs 15) + (1 * v_iv (n_v vs 13) + 0) ≤ 0 := f4
  obtain ⟨f5, hf⟩ := fc_un (by decide) hf
  have f5 : (1 * w_fi ws (n_v vs 0) 7 + 0 ≤ 3) ∨ (1 * w_fi ws (n_v vs 0) 9 + ((-1) * v_iv (n_v vs 15) + 0) ≤ 0) := f5
  obtain ⟨f6, hf⟩ := fc_un (by decide) hf
  have f6 : (1 * w_fi ws (n_v vs 0) 7 + 0 ≤ 3) ∨ ((-1) * w_fi ws (n_v vs 0) 9 + (1 * v_iv (n_v vs 15) + 0) ≤ 0) := f6
  obtain ⟨ta1, w1, le1, ⟨_, s1⟩, hf⟩ := fc_us (by decide) hf
  obtain ⟨f8, hf⟩ := fc_un (by decide) hf
  have f8 : 1 * v_iv (n_v vs 15) + ((-1) * v_iv (n_v vs 13) + 0) ≤ 0 := f8
  obtain ⟨f9, hf⟩ := fc_un (by decide) hf
  have f9 : (-1) * v_iv (n_v vs 15) + (1 * v_iv (n_v vs 13) + 0) ≤ 0 := f9
  obtain ⟨f10, hf⟩ := fc_un (by decide) hf
  have f10 : v_iv (n_v vs 13) ≤ v_iv (n_v vs 2) := f10
  obtain ⟨f11, hf⟩ := fc_un (by decide) hf
  have f11 : v_iv (n_v vs 14) ≤ v_iv (n_v vs 13) := f11
  have g1 : v_iv (n_v vs 16) = w_fi ws (n_v vs 0) 7 := congrArg v_iv f1
  have kz_0_7 : (-128) ≤ w_fi ws (n_v vs 0) 7 ∧ w_fi ws (n_v vs 0) 7 ≤ 127 := tv_rng (th_fd hD hth r0 (g := GG_8) rfl (k := 7) (t := (0, -128, 127, [])) rfl rfl)
  have kz_0_9 : (-2147483648) ≤ w_fi ws (n_v vs 0) 9 ∧ w_fi ws (n_v vs 0) 9 ≤ 1000000 := tv_rng (th_fd hD hth r0 (g := GG_8) rfl (k := 9) (t := (0, -2147483648, 1000000, [])) rfl rfl)
  have nf0 : fc_1 (20, [19, 0, 2], [31, 1, 0, 1, 0, 0, 0, 1, 1, 9, -1, 0, 0]) ws (vs) := by
    refine ⟨fun n hn => ?_, ?_⟩
    · have hn : n ∈ [19, 0, 2] := hn
      rw [hl]
      simp only [List.mem_cons, List.not_mem_nil, or_false] at hn
      show n < 20; omega
    · show (1 * v_iv (n_v vs 19) + 0 ≤ 0) ∨ (1 * w_fi ws (n_v vs 0) 9 + ((-1) * v_iv (n_v vs 2) + 0) ≤ 0)
      omega
  have nf1 : fc_1 (20, [19, 0], [31, 1, 0, 1, 0, 0, -1, -1, 1, 9]) ws (vs) := by
    refine ⟨fun n hn => ?_, ?_⟩
    · have hn : n ∈ [19, 0] := hn
      rw [hl]
      simp only [List.mem_cons, List.not_mem_nil, or_false] at hn
      show n < 20; omega
    · show (1 * v_iv (n_v vs 19) + 0 ≤ 0) ∨ ((-1) * w_fi ws (n_v vs 0) 9 + 0 ≤ (-1))
      omega
  refine ⟨(fun _ h => (by cases h)), [], trivial, ?_, (fun _ h => (by cases h))⟩
  rw [List.append_nil]
  exact List.forall_mem_cons.mpr ⟨⟨by decide, nf0⟩, List.forall_mem_cons.mpr ⟨⟨by decide, nf1⟩, (fun _ h => (by cases h))⟩⟩
def o_Re_readValue_at_s5003_6 : or_T := (131, 22, [(0, (2, 0, 0, [8])), (2, (0, 9, 9, [])), (13, (0, 1, 9, [])), (14, (0, 1, 1, [])), (15, (0, -2147483648, 1000000, [])), (21, (0, 0, 0, []))], [(23, [15, 13], [0, 1, -1]), (23, [15, 13], [0, -1, 1]), (20, [0, 0, 15], [31, 1, 3, 1, 1, 7, 0, 1, 1, 9, -1, 0, 0]), (20, [0, 0, 15], [31, 1, 3, 1, 1, 7, 0, -1, 1, 9, 1, 0, 0]), (102, [19], [0, 8002, 8003]), (23, [15, 13], [0, 1, -1]), (23, [15, 13], [0, -1, 1]), (102, [15], [0, 8006, 8007, 8008, 8009]), (23, [15, 13], [0, 1, -1]), (23, [15, 13], [0, -1, 1]), (7, [13, 2], [5]), (7, [13, 14], [3])], [], [], [(20, [21, 0, 2], [31, 1, 0, 1, 0, 0, 0, 1, 1, 9, -1, 0, 0]), (20, [21, 0], [31, 1, 0, 1, 0, 0, -1, -1, 1, 9])], [], [])
theorem oo_Re_readValue_at_s5003_6 {kA : Nat → ClassId} : or_ok kA GG o_Re_readValue_at_s5003_6 := by
  intro A ta ws vs hD hth hl hk hds hf
  have hl : vs.length = 22 := hl
  have hk : ∀ q ∈ ([(0, (2, 0, 0, [8])), (2, (0, 9, 9, [])), (13, (0, 1, 9, [])), (14, (0, 1, 1, [])), (15, (0, -2147483648, 1000000, [])), (21, (0, 0, 0, []))] : List (Nat × tv_T)), tv_ok ta q.2 (n_v vs q.1) := hk
  obtain ⟨t0, hk⟩ := List.forall_mem_cons.mp hk
  have t0 : tv_ok ta (2, 0, 0, [8]) (n_v vs 0) := t0
  have r0 : ta (v_ad (n_v vs 0)) = some 8 := tv_rg t0
  obtain ⟨t2, hk⟩ := List.forall_mem_cons.mp hk
  have t2 : tv_ok ta (0, 9, 9, []) (n_v vs 2) := t2
  have k2 : 9 ≤ v_iv (n_v vs 2) ∧ v_iv (n_v vs 2) ≤ 9 := tv_rng t2
  obtain ⟨t13, hk⟩ := List.forall_mem_cons.mp hk
  have t13 : tv_ok ta (0, 1, 9, []) (n_v vs 13) := t13
  have k13 : 1 ≤ v_iv (n_v vs 13) ∧ v_iv (n_v vs 13) ≤ 9 := tv_rng t13
  obtain ⟨t14, hk⟩ := List.forall_mem_cons.mp hk
  have t14 : tv_ok ta (0, 1, 1, []) (n_v vs 14) := t14
  have k14 : 1 ≤ v_iv (n_v vs 14) ∧ v_iv (n_v vs 14) ≤ 1 := tv_rng t14
  obtain ⟨t15, hk⟩ := List.forall_mem_cons.mp hk
  have t15 : tv_ok ta (0, -2147483648, 1000000, []) (n_v vs 15) := t15
  have k15 : (-2147483648) ≤ v_iv (n_v vs 15) ∧ v_iv (n_v vs 15) ≤ 1000000 := tv_rng t15
  obtain ⟨t21, hk⟩ := List.forall_mem_cons.mp hk
  have t21 : tv_ok ta (0, 0, 0, []) (n_v vs 21) := t21
  have k21 : 0 ≤ v_iv (n_v vs 21) ∧ v_iv (n_v vs 21) ≤ 0 := tv_rng t21
  have hf : fc_ok [(23, [15, 13], [0, 1, -1]), (23, [15, 13], [0, -1, 1]), (20, [0, 0, 15], [31, 1, 3, 1, 1, 7, 0, 1, 1, 9, -1, 0, 0]), (20, [0, 0, 15], [31, 1, 3, 1, 1, 7, 0, -1, 1, 9, 1, 0, 0]), (102, [19], [0, 8002, 8003]), (23, [15, 13], [0, 1, -1]), (23, [15, 13], [0, -1, 1]), (102, [15], [0, 8006, 8007, 8008, 8009]), (23, [15, 13], [0, 1, -1]), (23, [15, 13], [0, -1, 1]), (7, [13, 2], [5]), (7, [13, 14], [3])] ta ws vs := hf
  obtain ⟨f0, hf⟩ := fc_un (by decide) hf
  have f0 : 1 * v_iv (n_v vs 15) + ((-1) * v_iv (n_v vs 13) + 0) ≤ 0 := f0
  obtain ⟨f1, hf⟩ := fc_un (by decide) hf
  have f1 : (-1) * v_iv (n_v vs 15) + (1 * v_iv (n_v vs 13) + 0) ≤ 0 := f1
  obtain ⟨f2, hf⟩ := fc_un (by decide) hf
  have f2 : (1 * w_fi ws (n_v vs 0) 7 + 0 ≤ 3) ∨ (1 * w_fi ws (n_v vs 0) 9 + ((-1) * v_iv (n_v vs 15) + 0) ≤ 0) := f2
  obtain ⟨f3, hf⟩ := fc_un (by decide) hf
  have f3 : (1 * w_fi ws (n_v vs 0) 7 + 0 ≤ 3) ∨ ((-1) * w_fi ws (n_v vs 0) 9 + (1 * v_iv (n_v vs 15) + 0) ≤ 0) := f3
  obtain ⟨ta1, w1, le1, ⟨_, s1⟩, hf⟩ := fc_us (by decide) hf
  obtain ⟨f5, hf⟩ := fc_un (by decide) hf
  have f5 : 1 * v_iv (n_v vs 15) + ((-1) * v_iv (n_v vs 13) + 0) ≤ 0 := f5
  obtain ⟨f6, hf⟩ := fc_un (by decide) hf
  have f6 : (-1) * v_iv (n_v vs 15) + (1 * v_iv (n_v vs 13) + 0) ≤ 0 := f6
  obtain ⟨ta2, w2, le2, ⟨_, s2⟩, hf⟩ := fc_us (by decide) hf
  obtain ⟨f8, hf⟩ := fc_un (by decide) hf
  have f8 : 1 * v_iv (n_v vs 15) + ((-1) * v_iv (n_v vs 13) + 0) ≤ 0 := f8
  obtain ⟨f9, hf⟩ := fc_un (by decide) hf
  have f9 : (-1) * v_iv (n_v vs 15) + (1 * v_iv (n_v vs 13) + 0) ≤ 0 := f9
  obtain ⟨f10, hf⟩ := fc_un (by decide) hf
  have f10 : v_iv (n_v vs 13) ≤ v_iv (n_v vs 2) := f10
  obtain ⟨f11, hf⟩ := fc_un (by decide) hf
  have f11 : v_iv (n_v vs 14) ≤ v_iv (n_v vs 13) := f11
  have kz_0_7 : (-128) ≤ w_fi ws (n_v vs 0) 7 ∧ w_fi ws (n_v vs 0) 7 ≤ 127 := tv_rng (th_fd hD hth r0 (g := GG_8) rfl (k := 7) (t := (0, -128, 127, [])) rfl rfl)
  have kz_0_9 : (-2147483648) ≤ w_fi ws (n_v vs 0) 9 ∧ w_fi ws (n_v vs 0) 9 ≤ 1000000 := tv_rng (th_fd hD hth r0 (g := GG_8) rfl (k := 9) (t := (0, -2147483648, 1000000, [])) rfl rfl)
  have nf0 : fc_1 (20, [21, 0, 2], [31, 1, 0, 1, 0, 0, 0, 1, 1, 9, -1, 0, 0]) ws (vs) := by
    refine ⟨fun n hn => ?_, ?_⟩
    · have hn : n ∈ [21, 0, 2] := hn
      rw [hl]
      simp only [List.mem_cons, List.not_mem_nil, or_false] at hn
      show n < 22; omega
    · show (1 * v_iv (n_v vs 21) + 0 ≤ 0) ∨ (1 * w_fi ws (n_v vs 0) 9 + ((-1) * v_iv (n_v vs 2) + 0) ≤ 0)
      omega
  have nf1 : fc_1 (20, [21, 0], [31, 1, 0, 1, 0, 0, -1, -1, 1, 9]) ws (vs) := by
    refine ⟨fun n hn => ?_, ?_⟩
    · have hn : n ∈ [21, 0] := hn
      rw [hl]
      simp only [List.mem_cons, List.not_mem_nil, or_false] at hn
      show n < 22; omega
    · show (1 * v_iv (n_v vs 21) + 0 ≤ 0) ∨ ((-1) * w_fi ws (n_v vs 0) 9 + 0 ≤ (-1))
      omega
  refine ⟨(fun _ h => (by cases h)), [], trivial, ?_, (fun _ h => (by cases h))⟩
  rw [List.append_nil]
  exact List.forall_mem_cons.mpr ⟨⟨by decide, nf0⟩, List.forall_mem_cons.mpr ⟨⟨by decide, nf1⟩, (fun _ h => (by cases h))⟩⟩
def o_Re_readValue_at_s5003_7 : or_T := (108, 20, [(0, (2, 0, 0, [8])), (2, (0, 9, 9, [])), (13, (0, 1, 9, [])), (14, (0, 1, 1, [])), (15, (0, -2147483648, 1000000, [])), (19, (0, 0, 0, []))], [(23, [15, 13], [0, 1, -1]), (23, [15, 13], [0, -1, 1]), (20, [0, 0, 15], [31, 1, 3, 1, 1, 7, 0, 1, 1, 9, -1, 0, 0]), (20, [0, 0, 15], [31, 1, 3, 1, 1, 7, 0, -1, 1, 9, 1, 0, 0]), (102, [18], [0, 8002, 8003]), (23, [15, 13], [0, 1, -1]), (23, [15, 13], [0, -1, 1]), (102, [15], [0, 8006, 8007, 8008, 8009]), (23, [15, 13], [0, 1, -1]), (23, [15, 13], [0, -1, 1]), (7, [13, 2], [5]), (7, [13, 14], [3])], [], [], [(20, [19, 0, 2], [31, 1, 0, 1, 0, 0, 0, 1, 1, 9, -1, 0, 0]), (20, [19, 0], [31, 1, 0, 1, 0, 0, -1, -1, 1, 9])], [], [])
theorem oo_Re_readValue_at_s5003_7 {kA : Nat → ClassId} : or_ok kA GG o_Re_readValue_at_s5003_7 := by
  intro A ta ws vs hD hth hl hk hds hf
  have hl : vs.length = 20 := hl
  have hk : ∀ q ∈ ([(0, (2, 0, 0, [8])), (2, (0, 9, 9, [])), (13, (0, 1, 9, [])), (14, (0, 1, 1, [])), (15, (0, -2147483648, 1000000, [])), (19, (0, 0, 0, []))] : List (Nat × tv_T)), tv_ok ta q.2 (n_v vs q.1) := hk
  obtain ⟨t0, hk⟩ := List.forall_mem_cons.mp hk
  have t0 : tv_ok ta (2, 0, 0, [8]) (n_v vs 0) := t0
  have r0 : ta (v_ad (n_v vs 0)) = some 8 := tv_rg t0
  obtain ⟨t2, hk⟩ := List.forall_mem_cons.mp hk
  have t2 : tv_ok ta (0, 9, 9, []) (n_v vs 2) := t2
  have k2 : 9 ≤ v_iv (n_v vs 2) ∧ v_iv (n_v vs 2) ≤ 9 := tv_rng t2
  obtain ⟨t13, hk⟩ := List.forall_mem_cons.mp hk
  have t13 : tv_ok ta (0, 1, 9, []) (n_v vs 13) := t13
  have k13 : 1 ≤ v_iv (n_v vs 13) ∧ v_iv (n_v vs 13) ≤ 9 := tv_rng t13
  obtain ⟨t14, hk⟩ := List.forall_mem_cons.mp hk
  have t14 : tv_ok ta (0, 1, 1, []) (n_v vs 14) := t14
  have k14 : 1 ≤ v_iv (n_v vs 14) ∧ v_iv (n_v vs 14) ≤ 1 := tv_rng t14
  obtain ⟨t15, hk⟩ := List.forall_mem_cons.mp hk
  have t15 : tv_ok ta (0, -2147483648, 1000000, []) (n_v vs 15) := t15
  have k15 : (-2147483648) ≤ v_iv (n_v vs 15) ∧ v_iv (n_v vs 15) ≤ 1000000 := tv_rng t15
  obtain ⟨t19, hk⟩ := List.forall_mem_cons.mp hk
  have t19 : tv_ok ta (0, 0, 0, []) (n_v vs 19) := t19
  have k19 : 0 ≤ v_iv (n_v vs 19) ∧ v_iv (n_v vs 19) ≤ 0 := tv_rng t19
  have hf : fc_ok [(23, [15, 13], [0, 1, -1]), (23, [15, 13], [0, -1, 1]), (20, [0, 0, 15], [31, 1, 3, 1, 1, 7, 0, 1, 1, 9, -1, 0, 0]), (20, [0, 0, 15], [31, 1, 3, 1, 1, 7, 0, -1, 1, 9, 1, 0, 0]), (102, [18], [0, 8002, 8003]), (23, [15, 13], [0, 1, -1]), (23, [15, 13], [0, -1, 1]), (102, [15], [0, 8006, 8007, 8008, 8009]), (23, [15, 13], [0, 1, -1]), (23, [15, 13], [0, -1, 1]), (7, [13, 2], [5]), (7, [13, 14], [3])] ta ws vs := hf
  obtain ⟨f0, hf⟩ := fc_un (by decide) hf
  have f0 : 1 * v_iv (n_v vs 15) + ((-1) * v_iv (n_v vs 13) + 0) ≤ 0 := f0
  obtain ⟨f1, hf⟩ := fc_un (by decide) hf
  have f1 : (-1) * v_iv (n_v vs 15) + (1 * v_iv (n_v vs 13) + 0) ≤ 0 := f1
  obtain ⟨f2, hf⟩ := fc_un (by decide) hf
  have f2 : (1 * w_fi ws (n_v vs 0) 7 + 0 ≤ 3) ∨ (1 * w_fi ws (n_v vs 0) 9 + ((-1) * v_iv (n_v vs 15) + 0) ≤ 0) := f2
  obtain ⟨f3, hf⟩ := fc_un (by decide) hf
  have f3 : (1 * w_fi ws (n_v vs 0) 7 + 0 ≤ 3) ∨ ((-1) * w_fi ws (n_v vs 0) 9 + (1 * v_iv (n_v vs 15) + 0) ≤ 0) := f3
  obtain ⟨ta1, w1, le1, ⟨_, s1⟩, hf⟩ := fc_us (by decide) hf
  obtain ⟨f5, hf⟩ := fc_un (by decide) hf
  have f5 : 1 * v_iv (n_v vs 15) + ((-1) * v_iv (n_v vs 13) + 0) ≤ 0 := f5
  obtain ⟨f6, hf⟩ := fc_un (by decide) hf
  have f6 : (-1) * v_iv (n_v vs 15) + (1 * v_iv (n_v vs 13) + 0) ≤ 0 := f6
  obtain ⟨ta2, w2, le2, ⟨_, s2⟩, hf⟩ := fc_us (by decide) hf
  obtain ⟨f8, hf⟩ := fc_un (by decide) hf
  have f8 : 1 * v_iv (n_v vs 15) + ((-1) * v_iv (n_v vs 13) + 0) ≤ 0 := f8
  obtain ⟨f9, hf⟩ := fc_un (by decide) hf
  have f9 : (-1) * v_iv (n_v vs 15) + (1 * v_iv (n_v vs 13) + 0) ≤ 0 := f9
  obtain ⟨f10, hf⟩ := fc_un (by decide) hf
  have f10 : v_iv (n_v vs 13) ≤ v_iv (n_v vs 2) := f10
  obtain ⟨f11, hf⟩ := fc_un (by decide) hf
  have f11 : v_iv (n_v vs 14) ≤ v_iv (n_v vs 13) := f11
  have kz_0_7 : (-128) ≤ w_fi ws (n_v vs 0) 7 ∧ w_fi ws (n_v vs 0) 7 ≤ 127 := tv_rng (th_fd hD hth r0 (g := GG_8) rfl (k := 7) (t := (0, -128, 127, [])) rfl rfl)
  have kz_0_9 : (-2147483648) ≤ w_fi ws (n_v vs 0) 9 ∧ w_fi ws (n_v vs 0) 9 ≤ 1000000 := tv_rng (th_fd hD hth r0 (g := GG_8) rfl (k := 9) (t := (0, -2147483648, 1000000, [])) rfl rfl)
  have nf0 : fc_1 (20, [19, 0, 2], [31, 1, 0, 1, 0, 0, 0, 1, 1, 9, -1, 0, 0]) ws (vs) := by
    refine ⟨fun n hn => ?_, ?_⟩
    · have hn : n ∈ [19, 0, 2] := hn
      rw [hl]
      simp only [List.mem_cons, List.not_mem_nil, or_false] at hn
      show n < 20; omega
    · show (1 * v_iv (n_v vs 19) + 0 ≤ 0) ∨ (1 * w_fi ws (n_v vs 0) 9 + ((-1) * v_iv (n_v vs 2) + 0) ≤ 0)
      omega
  have nf1 : fc_1 (20, [19, 0], [31, 1, 0, 1, 0, 0, -1, -1, 1, 9]) ws (vs) := by
    refine ⟨fun n hn => ?_, ?_⟩
    · have hn : n ∈ [19, 0] := hn
      rw [hl]
      simp only [List.mem_cons, List.not_mem_nil, or_false] at hn
      show n < 20; omega
    · show (1 * v_iv (n_v vs 19) + 0 ≤ 0) ∨ ((-1) * w_fi ws (n_v vs 0) 9 + 0 ≤ (-1))
      omega
  refine ⟨(fun _ h => (by cases h)), [], trivial, ?_, (fun _ h => (by cases h))⟩
  rw [List.append_nil]
  exact List.forall_mem_cons.mpr ⟨⟨by decide, nf0⟩, List.forall_mem_cons.mpr ⟨⟨by decide, nf1⟩, (fun _ h => (by cases h))⟩⟩
def o_Re_readValue_at_s5003_8 : or_T := (90, 17, [(0, (2, 0, 0, [8])), (2, (0, 9, 9, [])), (10, (0, -2147483648, 1000000, [])), (13, (0, 10, 1000000, [])), (14, (0, 1, 1, [])), (16, (0, 0, 0, []))], [(20, [0, 0, 10], [31, 1, 3, 1, 1, 7, 0, 1, 1, 9, -1, 0, 0]), (20, [0, 0, 10], [31, 1, 3, 1, 1, 7, 0, -1, 1, 9, 1, 0, 0]), (102, [15], [0, 8002, 8003]), (7, [13, 2], [4]), (7, [13, 14], [3])], [], [], [(20, [16, 0, 2], [31, 1, 0, 1, 0, 0, 0, 1, 1, 9, -1, 0, 0]), (20, [16, 0], [31, 1, 0, 1, 0, 0, -1, -1, 1, 9])], [], [])
theorem oo_Re_readValue_at_s5003_8 {kA : Nat → ClassId} : or_ok kA GG o_Re_readValue_at_s5003_8 := by
  intro A ta ws vs hD hth hl hk hds hf
  have hl : vs.length = 17 := hl
  have hk : ∀ q ∈ ([(0, (2, 0, 0, [8])), (2, (0, 9, 9, [])), (10, (0, -2147483648, 1000000, [])), (13, (0, 10, 1000000, [])), (14, (0, 1, 1, [])), (16, (0, 0, 0, []))] : List (Nat × tv_T)), tv_ok ta q.2 (n_v vs q.1) := hk
  obtain ⟨t0, hk⟩ := List.forall_mem_cons.mp hk
  have t0 : tv_ok ta (2, 0, 0, [8]) (n_v vs 0) := t0
  have r0 : ta (v_ad (n_v vs 0)) = some 8 := tv_rg t0
  obtain ⟨t2, hk⟩ := List.forall_mem_cons.mp hk
  have t2 : tv_ok ta (0, 9, 9, []) (n_v vs 2) := t2
  have k2 : 9 ≤ v_iv (n_v vs 2) ∧ v_iv (n_v vs 2) ≤ 9 := tv_rng t2
  obtain ⟨t10, hk⟩ := List.forall_mem_cons.mp hk
  have t10 : tv_ok ta (0, -2147483648, 1000000, []) (n_v vs 10) := t10
  have k10 : (-2147483648) ≤ v_iv (n_v vs 10) ∧ v_iv (n_v vs 10) ≤ 1000000 := tv_rng t10
  obtain ⟨t13, hk⟩ := List.forall_mem_cons.mp hk
  have t13 : tv_ok ta (0, 10, 1000000, []) (n_v vs 13) := t13
  have k13 : 10 ≤ v_iv (n_v vs 13) ∧ v_iv (n_v vs 13) ≤ 1000000 := tv_rng t13
  obtain ⟨t14, hk⟩ := List.forall_mem_cons.mp hk
  have t14 : tv_ok ta (0, 1, 1, []) (n_v vs 14) := t14
  have k14 : 1 ≤ v_iv (n_v vs 14) ∧ v_iv (n_v vs 14) ≤ 1 := tv_rng t14
  obtain ⟨t16, hk⟩ := List.forall_mem_cons.mp hk
  have t16 : tv_ok ta (0, 0, 0, []) (n_v vs 16) := t16
  have k16 : 0 ≤ v_iv (n_v vs 16) ∧ v_iv (n_v vs 16) ≤ 0 := tv_rng t16
  have hf : fc_ok [(20, [0, 0, 10], [31, 1, 3, 1, 1, 7, 0, 1, 1, 9, -1, 0, 0]), (20, [0, 0, 10], [31, 1, 3, 1, 1, 7, 0, -1, 1, 9, 1, 0, 0]), (102, [15], [0, 8002, 8003]), (7, [13, 2], [4]), (7, [13, 14], [3])] ta ws vs := hf
  obtain ⟨f0, hf⟩ := fc_un (by decide) hf
  have f0 : (1 * w_fi ws (n_v vs 0) 7 + 0 ≤ 3) ∨ (1 * w_fi ws (n_v vs 0) 9 + ((-1) * v_iv (n_v vs 10) + 0) ≤ 0) := f0
  obtain ⟨f1, hf⟩ := fc_un (by decide) hf
  have f1 : (1 * w_fi ws (n_v vs 0) 7 + 0 ≤ 3) ∨ ((-1) * w_fi ws (n_v vs 0) 9 + (1 * v_iv (n_v vs 10) + 0) ≤ 0) := f1
  obtain ⟨ta1, w1, le1, ⟨_, s1⟩, hf⟩ := fc_us (by decide) hf
  obtain ⟨f3, hf⟩ := fc_un (by decide) hf
  have f3 : v_iv (n_v vs 2) < v_iv (n_v vs 13) := f3
  obtain ⟨f4, hf⟩ := fc_un (by decide) hf
  have f4 : v_iv (n_v vs 14) ≤ v_iv (n_v vs 13) := f4
  have kz_0_7 : (-128) ≤ w_fi ws (n_v vs 0) 7 ∧ w_fi ws (n_v vs 0) 7 ≤ 127 := tv_rng (th_fd hD hth r0 (g := GG_8) rfl (k := 7) (t := (0, -128, 127, [])) rfl rfl)
  have kz_0_9 : (-2147483648) ≤ w_fi ws (n_v vs 0) 9 ∧ w_fi ws (n_v vs 0) 9 ≤ 1000000 := tv_rng (th_fd hD hth r0 (g := GG_8) rfl (k := 9) (t := (0, -2147483648, 1000000, [])) rfl rfl)
  have nf0 : fc_1 (20, [16, 0, 2], [31, 1, 0, 1, 0, 0, 0, 1, 1, 9, -1, 0, 0]) ws (vs) := by
    refine ⟨fun n hn => ?_, ?_⟩
    · have hn : n ∈ [16, 0, 2] := hn
      rw [hl]
      simp only [List.mem_cons, List.not_mem_nil, or_false] at hn
      show n < 17; omega
    · show (1 * v_iv (n_v vs 16) + 0 ≤ 0) ∨ (1 * w_fi ws (n_v vs 0) 9 + ((-1) * v_iv (n_v vs 2) + 0) ≤ 0)
      omega
  have nf1 : fc_1 (20, [16, 0], [31, 1, 0, 1, 0, 0, -1, -1, 1, 9]) ws (vs) := by
    refine ⟨fun n hn => ?_, ?_⟩
    · have hn : n ∈ [16, 0] := hn
      rw [hl]
      simp only [List.mem_cons, List.not_mem_nil, or_false] at hn
      show n < 17; omega
    · show (1 * v_iv (n_v vs 16) + 0 ≤ 0) ∨ ((-1) * w_fi ws (n_v vs 0) 9 + 0 ≤ (-1))
      omega
  refine ⟨(fun _ h => (by cases h)), [], trivial, ?_, (fun _ h => (by cases h))⟩
  rw [List.append_nil]
  exact List.forall_mem_cons.mpr ⟨⟨by decide, nf0⟩, List.forall_mem_cons.mpr ⟨⟨by decide, nf1⟩, (fun _ h => (by cases h))⟩⟩
def o_Re_readValue_at_s5003_9 : or_T := (68, 15, [(0, (2, 0, 0, [8])), (2, (0, 9, 9, [])), (10, (0, -2147483648, 1000000, [])), (14, (0, 0, 0, []))], [(20, [0, 0, 10], [31, 1, 3, 1, 1, 7, 0, 1, 1, 9, -1, 0, 0]), (20, [0, 0, 10], [31, 1, 3, 1, 1, 7, 0, -1, 1, 9, 1, 0, 0])], [], [], [(20, [14, 0, 2], [31, 1, 0, 1, 0, 0, 0, 1, 1, 9, -1, 0, 0]), (20, [14, 0], [31, 1, 0, 1, 0, 0, -1, -1, 1, 9])], [], [])
theorem oo_Re_readValue_at_s5003_9 {kA : Nat → ClassId} : or_ok kA GG o_Re_readValue_at_s5003_9 := by
  intro A ta ws vs hD hth hl hk hds hf
  have hl : vs.length = 15 := hl
  have hk : ∀ q ∈ ([(0, (2, 0, 0, [8])), (2, (0, 9, 9, [])), (10, (0, -2147483648, 1000000, [])), (14, (0, 0, 0, []))] : List (Nat × tv_T)), tv_ok ta q.2 (n_v vs q.1) := hk
  obtain ⟨t0, hk⟩ := List.forall_mem_cons.mp hk
  have t0 : tv_ok ta (2, 0, 0, [8]) (n_v vs 0) := t0
  have r0 : ta (v_ad (n_v vs 0)) = some 8 := tv_rg t0
  obtain ⟨t2, hk⟩ := List.forall_mem_cons.mp hk
  have t2 : tv_ok ta (0, 9, 9, []) (n_v vs 2) := t2
  have k2 : 9 ≤ v_iv (n_v vs 2) ∧ v_iv (n_v vs 2) ≤ 9 := tv_rng t2
  obtain ⟨t10, hk⟩ := List.forall_mem_cons.mp hk
  have t10 : tv_ok ta (0, -2147483648, 1000000, []) (n_v vs 10) := t10
  have k10 : (-2147483648) ≤ v_iv (n_v vs 10) ∧ v_iv (n_v vs 10) ≤ 1000000 := tv_rng t10
  obtain ⟨t14, hk⟩ := List.forall_mem_cons.mp hk
  have t14 : tv_ok ta (0, 0, 0, []) (n_v vs 14) := t14
  have k14 : 0 ≤ v_iv (n_v vs 14) ∧ v_iv (n_v vs 14) ≤ 0 := tv_rng t14
  have hf : fc_ok [(20, [0, 0, 10], [31, 1, 3, 1, 1, 7, 0, 1, 1, 9, -1, 0, 0]), (20, [0, 0, 10], [31, 1, 3, 1, 1, 7, 0, -1, 1, 9, 1, 0, 0])] ta ws vs := hf
  obtain ⟨f0, hf⟩ := fc_un (by decide) hf
  have f0 : (1 * w_fi ws (n_v vs 0) 7 + 0 ≤ 3) ∨ (1 * w_fi ws (n_v vs 0) 9 + ((-1) * v_iv (n_v vs 10) + 0) ≤ 0) := f0
  obtain ⟨f1, hf⟩ := fc_un (by decide) hf
  have f1 : (1 * w_fi ws (n_v vs 0) 7 + 0 ≤ 3) ∨ ((-1) * w_fi ws (n_v vs 0) 9 + (1 * v_iv (n_v vs 10) + 0) ≤ 0) := f1
  have kz_0_7 : (-128) ≤ w_fi ws (n_v vs 0) 7 ∧ w_fi ws (n_v vs 0) 7 ≤ 127 := tv_rng (th_fd hD hth r0 (g := GG_8) rfl (k := 7) (t := (0, -128, 127, [])) rfl rfl)
  have kz_0_9 : (-2147483648) ≤ w_fi ws (n_v vs 0) 9 ∧ w_fi ws (n_v vs 0) 9 ≤ 1000000 := tv_rng (th_fd hD hth r0 (g := GG_8) rfl (k := 9) (t := (0, -2147483648, 1000000, [])) rfl rfl)
  have nf0 : fc_1 (20, [14, 0, 2], [31, 1, 0, 1, 0, 0, 0, 1, 1, 9, -1, 0, 0]) ws (vs) := by
    refine ⟨fun n hn => ?_, ?_⟩
    · have hn : n ∈ [14, 0, 2] := hn
      rw [hl]
      simp only [List.mem_cons, List.not_mem_nil, or_false] at hn
      show n < 15; omega
    · show (1 * v_iv (n_v vs 14) + 0 ≤ 0) ∨ (1 * w_fi ws (n_v vs 0) 9 + ((-1) * v_iv (n_v vs 2) + 0) ≤ 0)
      omega
  have nf1 : fc_1 (20, [14, 0], [31, 1, 0, 1, 0, 0, -1, -1, 1, 9]) ws (vs) := by
    refine ⟨fun n hn => ?_, ?_⟩
    · have hn : n ∈ [14, 0] := hn
      rw [hl]
      simp only [List.mem_cons, List.not_mem_nil, or_false] at hn
      show n < 15; omega
    · show (1 * v_iv (n_v vs 14) + 0 ≤ 0) ∨ ((-1) * w_fi ws (n_v vs 0) 9 + 0 ≤ (-1))
      omega
  refine ⟨(fun _ h => (by cases h)), [], trivial, ?_, (fun _ h => (by cases h))⟩
  rw [List.append_nil]
  exact List.forall_mem_cons.mpr ⟨⟨by decide, nf0⟩, List.forall_mem_cons.mpr ⟨⟨by decide, nf1⟩, (fun _ h => (by cases h))⟩⟩
def o_Re_readValue_at_s5003_10 : or_T := (50, 12, [(0, (2, 0, 0, [8])), (2, (0, 9, 9, [])), (7, (0, -2147483648, 1000000, [])), (11, (0, 0, 0, []))], [(20, [0, 0, 7], [31, 1, 3, 1, 1, 7, 0, 1, 1, 9, -1, 0, 0]), (20, [0, 0, 7], [31, 1, 3, 1, 1, 7, 0, -1, 1, 9, 1, 0, 0])], [], [], [(20, [11, 0, 2], [31, 1, 0, 1, 0, 0, 0, 1, 1, 9, -1, 0, 0]), (20, [11, 0], [31, 1, 0, 1, 0, 0, -1, -1, 1, 9])], [], [])
theorem oo_Re_readValue_at_s5003_10 {kA : Nat → ClassId} : or_ok kA GG o_Re_readValue_at_s5003_10 := by
  intro A ta ws vs hD hth hl hk hds hf
  have hl : vs.length = 12 := hl
  have hk : ∀ q ∈ ([(0, (2, 0, 0, [8])), (2, (0, 9, 9, [])), (7, (0, -2147483648, 1000000, [])), (11, (0, 0, 0, []))] : List (Nat × tv_T)), tv_ok ta q.2 (n_v vs q.1) := hk
  obtain ⟨t0, hk⟩ := List.forall_mem_cons.mp hk
  have t0 : tv_ok ta (2, 0, 0, [8]) (n_v vs 0) := t0
  have r0 : ta (v_ad (n_v vs 0)) = some 8 := tv_rg t0
  obtain ⟨t2, hk⟩ := List.forall_mem_cons.mp hk
  have t2 : tv_ok ta (0, 9, 9, []) (n_v vs 2) := t2
  have k2 : 9 ≤ v_iv (n_v vs 2) ∧ v_iv (n_v vs 2) ≤ 9 := tv_rng t2
  obtain ⟨t7, hk⟩ := List.forall_mem_cons.mp hk
  have t7 : tv_ok ta (0, -2147483648, 1000000, []) (n_v vs 7) := t7
  have k7 : (-2147483648) ≤ v_iv (n_v vs 7) ∧ v_iv (n_v vs 7) ≤ 1000000 := tv_rng t7
  obtain ⟨t11, hk⟩ := List.forall_mem_cons.mp hk
  have t11 : tv_ok ta (0, 0, 0, []) (n_v vs 11) := t11
  have k11 : 0 ≤ v_iv (n_v vs 11) ∧ v_iv (n_v vs 11) ≤ 0 := tv_rng t11
  have hf : fc_ok [(20, [0, 0, 7], [31, 1, 3, 1, 1, 7, 0, 1, 1, 9, -1, 0, 0]), (20, [0, 0, 7], [31, 1, 3, 1, 1, 7, 0, -1, 1, 9, 1, 0, 0])] ta ws vs := hf
  obtain ⟨f0, hf⟩ := fc_un (by decide) hf
  have f0 : (1 * w_fi ws (n_v vs 0) 7 + 0 ≤ 3) ∨ (1 * w_fi ws (n_v vs 0) 9 + ((-1) * v_iv (n_v vs 7) + 0) ≤ 0) := f0
  obtain ⟨f1, hf⟩ := fc_un (by decide) hf
  have f1 : (1 * w_fi ws (n_v vs 0) 7 + 0 ≤ 3) ∨ ((-1) * w_fi ws (n_v vs 0) 9 + (1 * v_iv (n_v vs 7) + 0) ≤ 0) := f1
  have kz_0_7 : (-128) ≤ w_fi ws (n_v vs 0) 7 ∧ w_fi ws (n_v vs 0) 7 ≤ 127 := tv_rng (th_fd hD hth r0 (g := GG_8) rfl (k := 7) (t := (0, -128, 127, [])) rfl rfl)
  have kz_0_9 : (-2147483648) ≤ w_fi ws (n_v vs 0) 9 ∧ w_fi ws (n_v vs 0) 9 ≤ 1000000 := tv_rng (th_fd hD hth r0 (g := GG_8) rfl (k := 9) (t := (0, -2147483648, 1000000, [])) rfl rfl)
  have nf0 : fc_1 (20, [11, 0, 2], [31, 1, 0, 1, 0, 0, 0, 1, 1, 9, -1, 0, 0]) ws (vs) := by
    refine ⟨fun n hn => ?_, ?_⟩
    · have hn : n ∈ [11, 0, 2] := hn
      rw [hl]
      simp only [List.mem_cons, List.not_mem_nil, or_false] at hn
      show n < 12; omega
    · show (1 * v_iv (n_v vs 11) + 0 ≤ 0) ∨ (1 * w_fi ws (n_v vs 0) 9 + ((-1) * v_iv (n_v vs 2) + 0) ≤ 0)
      omega
  have nf1 : fc_1 (20, [11, 0], [31, 1, 0, 1, 0, 0, -1, -1, 1, 9]) ws (vs) := by
    refine ⟨fun n hn => ?_, ?_⟩
    · have hn : n ∈ [11, 0] := hn
      rw [hl]
      simp only [List.mem_cons, List.not_mem_nil, or_false] at hn
      show n < 12; omega
    · show (1 * v_iv (n_v vs 11) + 0 ≤ 0) ∨ ((-1) * w_fi ws (n_v vs 0) 9 + 0 ≤ (-1))
      omega
  refine ⟨(fun _ h => (by cases h)), [], trivial, ?_, (fun _ h => (by cases h))⟩
  rw [List.append_nil]
  exact List.forall_mem_cons.mpr ⟨⟨by decide, nf0⟩, List.forall_mem_cons.mpr ⟨⟨by decide, nf1⟩, (fun _ h => (by cases h))⟩⟩
def o_Re_readValue_at_s5003_11 : or_T := (31, 9, [(0, (2, 0, 0, [8])), (2, (0, 9, 9, [])), (3, (0, -2147483648, 1000000, [])), (8, (0, 0, 0, []))], [(20, [0, 0, 3], [31, 1, 3, 1, 1, 7, 0, 1, 1, 9, -1, 0, 0]), (20, [0, 0, 3], [31, 1, 3, 1, 1, 7, 0, -1, 1, 9, 1, 0, 0])], [], [], [(20, [8, 0, 2], [31, 1, 0, 1, 0, 0, 0, 1, 1, 9, -1, 0, 0]), (20, [8, 0], [31, 1, 0, 1, 0, 0, -1, -1, 1, 9])], [], [])
theorem oo_Re_readValue_at_s5003_11 {kA : Nat → ClassId} : or_ok kA GG o_Re_readValue_at_s5003_11 := by
  intro A ta ws vs hD hth hl hk hds hf
  have hl : vs.length = 9 := hl
  have hk : ∀ q ∈ ([(0, (2, 0, 0, [8])), (2, (0, 9, 9, [])), (3, (0, -2147483648, 1000000, [])), (8, (0, 0, 0, []))] : List (Nat × tv_T)), tv_ok ta q.2 (n_v vs q.1) := hk
  obtain ⟨t0, hk⟩ := List.forall_mem_cons.mp hk
  have t0 : tv_ok ta (2, 0, 0, [8]) (n_v vs 0) := t0
  have r0 : ta (v_ad (n_v vs 0)) = some 8 := tv_rg t0
  obtain ⟨t2, hk⟩ := List.forall_mem_cons.mp hk
  have t2 : tv_ok ta (0, 9, 9, []) (n_v vs 2) := t2
  have k2 : 9 ≤ v_iv (n_v vs 2) ∧ v_iv (n_v vs 2) ≤ 9 := tv_rng t2
  obtain ⟨t3, hk⟩ := List.forall_mem_cons.mp hk
  have t3 : tv_ok ta (0, -2147483648, 1000000, []) (n_v vs 3) := t3
  have k3 : (-2147483648) ≤ v_iv (n_v vs 3) ∧ v_iv (n_v vs 3) ≤ 1000000 := tv_rng t3
  obtain ⟨t8, hk⟩ := List.forall_mem_cons.mp hk
  have t8 : tv_ok ta (0, 0, 0, []) (n_v vs 8) := t8
  have k8 : 0 ≤ v_iv (n_v vs 8) ∧ v_iv (n_v vs 8) ≤ 0 := tv_rng t8
  have hf : fc_ok [(20, [0, 0, 3], [31, 1, 3, 1, 1, 7, 0, 1, 1, 9, -1, 0, 0]), (20, [0, 0, 3], [31, 1, 3, 1, 1, 7, 0, -1, 1, 9, 1, 0, 0])] ta ws vs := hf
  obtain ⟨f0, hf⟩ := fc_un (by decide) hf
  have f0 : (1 * w_fi ws (n_v vs 0) 7 + 0 ≤ 3) ∨ (1 * w_fi ws (n_v vs 0) 9 + ((-1) * v_iv (n_v vs 3) + 0) ≤ 0) := f0
  obtain ⟨f1, hf⟩ := fc_un (by decide) hf
  have f1 : (1 * w_fi ws (n_v vs 0) 7 + 0 ≤ 3) ∨ ((-1) * w_fi ws (n_v vs 0) 9 + (1 * v_iv (n_v vs 3) + 0) ≤ 0) := f1
  have kz_0_7 : (-128) ≤ w_fi ws (n_v vs 0) 7 ∧ w_fi ws (n_v vs 0) 7 ≤ 127 := tv_rng (th_fd hD hth r0 (g := GG_8) rfl (k := 7) (t := (0, -128, 127, [])) rfl rfl)
  have kz_0_9 : (-2147483648) ≤ w_fi ws (n_v vs 0) 9 ∧ w_fi ws (n_v vs 0) 9 ≤ 1000000 := tv_rng (th_fd hD hth r0 (g := GG_8) rfl (k := 9) (t := (0, -2147483648, 1000000, [])) rfl rfl)
  have nf0 : fc_1 (20, [8, 0, 2], [31, 1, 0, 1, 0, 0, 0, 1, 1, 9, -1, 0, 0]) ws (vs) := by
    refine ⟨fun n hn => ?_, ?_⟩
    · have hn : n ∈ [8, 0, 2] := hn
      rw [hl]
      simp only [List.mem_cons, List.not_mem_nil, or_false] at hn
      show n < 9; omega
    · show (1 * v_iv (n_v vs 8) + 0 ≤ 0) ∨ (1 * w_fi ws (n_v vs 0) 9 + ((-1) * v_iv (n_v vs 2) + 0) ≤ 0)
      omega
  have nf1 : fc_1 (20, [8, 0], [31, 1, 0, 1, 0, 0, -1, -1, 1, 9]) ws (vs) := by
    refine ⟨fun n hn => ?_, ?_⟩
    · have hn : n ∈ [8, 0] := hn
      rw [hl]
      simp only [List.mem_cons, List.not_mem_nil, or_false] at hn
      show n < 9; omega
    · show (1 * v_iv (n_v vs 8) + 0 ≤ 0) ∨ ((-1) * w_fi ws (n_v vs 0) 9 + 0 ≤ (-1))
      omega
  refine ⟨(fun _ h => (by cases h)), [], trivial, ?_, (fun _ h => (by cases h))⟩
  rw [List.append_nil]
  exact List.forall_mem_cons.mpr ⟨⟨by decide, nf0⟩, List.forall_mem_cons.mpr ⟨⟨by decide, nf1⟩, (fun _ h => (by cases h))⟩⟩
def o_Re_readValue_at_s5003_12 : or_T := (17, 8, [(0, (2, 0, 0, [8])), (2, (0, 9, 9, [])), (3, (0, -2147483648, 1000000, [])), (7, (0, 0, 0, []))], [(20, [0, 0, 3], [31, 1, 3, 1, 1, 7, 0, 1, 1, 9, -1, 0, 0]), (20, [0, 0, 3], [31, 1, 3, 1, 1, 7, 0, -1, 1, 9, 1, 0, 0])], [], [], [(20, [7, 0, 2], [31, 1, 0, 1, 0, 0, 0, 1, 1, 9, -1, 0, 0]), (20, [7, 0], [31, 1, 0, 1, 0, 0, -1, -1, 1, 9])], [], [])
theorem oo_Re_readValue_at_s5003_12 {kA : Nat → ClassId} : or_ok kA GG o_Re_readValue_at_s5003_12 := by
  intro A ta ws vs hD hth hl hk hds hf
  have hl : vs.length = 8 := hl
  have hk : ∀ q ∈ ([(0, (2, 0, 0, [8])), (2, (0, 9, 9, [])), (3, (0, -2147483648, 1000000, [])), (7, (0, 0, 0, []))] : List (Nat × tv_T)), tv_ok ta q.2 (n_v vs q.1) := hk
  obtain ⟨t0, hk⟩ := List.forall_mem_cons.mp hk
  have t0 : tv_ok ta (2, 0, 0, [8]) (n_v vs 0) := t0
  have r0 : ta (v_ad (n_v vs 0)) = some 8 := tv_rg t0
  obtain ⟨t2, hk⟩ := List.forall_mem_cons.mp hk
  have t2 : tv_ok ta (0, 9, 9, []) (n_v vs 2) := t2
  have k2 : 9 ≤ v_iv (n_v vs 2) ∧ v_iv (n_v vs 2) ≤ 9 := tv_rng t2
  obtain ⟨t3, hk⟩ := List.forall_mem_cons.mp hk
  have t3 : tv_ok ta (0, -2147483648, 1000000, []) (n_v vs 3) := t3
  have k3 : (-2147483648) ≤ v_iv (n_v vs 3) ∧ v_iv (n_v vs 3) ≤ 1000000 := tv_rng t3
  obtain ⟨t7, hk⟩ := List.forall_mem_cons.mp hk
  have t7 : tv_ok ta (0, 0, 0, []) (n_v vs 7) := t7
  have k7 : 0 ≤ v_iv (n_v vs 7) ∧ v_iv (n_v vs 7) ≤ 0 := tv_rng t7
  have hf : fc_ok [(20, [0, 0, 3], [31, 1, 3, 1, 1, 7, 0, 1, 1, 9, -1, 0, 0]), (20, [0, 0, 3], [31, 1, 3, 1, 1, 7, 0, -1, 1, 9, 1, 0, 0])] ta ws vs := hf
  obtain ⟨f0, hf⟩ := fc_un (by decide) hf
  have f0 : (1 * w_fi ws (n_v vs 0) 7 + 0 ≤ 3) ∨ (1 * w_fi ws (n_v vs 0) 9 + ((-1) * v_iv (n_v vs 3) + 0) ≤ 0) := f0
  obtain ⟨f1, hf⟩ := fc_un (by decide) hf
  have f1 : (1 * w_fi ws (n_v vs 0) 7 + 0 ≤ 3) ∨ ((-1) * w_fi ws (n_v vs 0) 9 + (1 * v_iv (n_v vs 3) + 0) ≤ 0) := f1
  have kz_0_7 : (-128) ≤ w_fi ws (n_v vs 0) 7 ∧ w_fi ws (n_v vs 0) 7 ≤ 127 := tv_rng (th_fd hD hth r0 (g := GG_8) rfl (k := 7) (t := (0, -128, 127, [])) rfl rfl)
  have kz_0_9 : (-2147483648) ≤ w_fi ws (n_v vs 0) 9 ∧ w_fi ws (n_v vs 0) 9 ≤ 1000000 := tv_rng (th_fd hD hth r0 (g := GG_8) rfl (k := 9) (t := (0, -2147483648, 1000000, [])) rfl rfl)
  have nf0 : fc_1 (20, [7, 0, 2], [31, 1, 0, 1, 0, 0, 0, 1, 1, 9, -1, 0, 0]) ws (vs) := by
    refine ⟨fun n hn => ?_, ?_⟩
    · have hn : n ∈ [7, 0, 2] := hn
      rw [hl]
      simp only [List.mem_cons, List.not_mem_nil, or_false] at hn
      show n < 8; omega
    · show (1 * v_iv (n_v vs 7) + 0 ≤ 0) ∨ (1 * w_fi ws (n_v vs 0) 9 + ((-1) * v_iv (n_v vs 2) + 0) ≤ 0)
      omega
  have nf1 : fc_1 (20, [7, 0], [31, 1, 0, 1, 0, 0, -1, -1, 1, 9]) ws (vs) := by
    refine ⟨fun n hn => ?_, ?_⟩
    · have hn : n ∈ [7, 0] := hn
      rw [hl]
      simp only [List.mem_cons, List.not_mem_nil, or_false] at hn
      show n < 8; omega
    · show (1 * v_iv (n_v vs 7) + 0 ≤ 0) ∨ ((-1) * w_fi ws (n_v vs 0) 9 + 0 ≤ (-1))
      omega
  refine ⟨(fun _ h => (by cases h)), [], trivial, ?_, (fun _ h => (by cases h))⟩
  rw [List.append_nil]
  exact List.forall_mem_cons.mpr ⟨⟨by decide, nf0⟩, List.forall_mem_cons.mpr ⟨⟨by decide, nf1⟩, (fun _ h => (by cases h))⟩⟩
def n_Re_readValue_at_s5003_an : List an_T := []
def t_Re_readValue_at_s5003_ct : ct_L := [(1, 57, e_Re_advance), (1, 113, e_Re_fail), (64, 95, e_Re_isWord_at_s5003)]
set_option maxRecDepth 100000 in
theorem c_Re_readValue_at_s5003 {l : Launch} {D : va_G} {kA : Nat → ClassId} (h_Re_advance : ct_ok l D kA GG y_Re_advance z_Re_advance e_Re_advance) (h_Re_fail : ct_ok l D kA GG y_Re_fail z_Re_fail e_Re_fail) (h_Re_isWord_at_s5003 : ct_ok l D kA GG y_Re_isWord_at_s5003 z_Re_isWord_at_s5003 e_Re_isWord_at_s5003) : ct_ok l D kA GG y_Re_readValue_at_s5003 z_Re_readValue_at_s5003 e_Re_readValue_at_s5003 := chk_all_ok (FT := [(38, 8, 7), (44, 8, 9)]) (PT := []) (CT := t_Re_readValue_at_s5003_ct) (KT := []) (NT := []) (AN := n_Re_readValue_at_s5003_an) (OT := [o_Re_readValue_at_s5003_0, o_Re_readValue_at_s5003_1, o_Re_readValue_at_s5003_2, o_Re_readValue_at_s5003_3, o_Re_readValue_at_s5003_4, o_Re_readValue_at_s5003_5, o_Re_readValue_at_s5003_6, o_Re_readValue_at_s5003_7, o_Re_readValue_at_s5003_8, o_Re_readValue_at_s5003_9, o_Re_readValue_at_s5003_10, o_Re_readValue_at_s5003_11, o_Re_readValue_at_s5003_12]) 0 308 (List.forall_mem_cons.mpr ⟨oo_Re_readValue_at_s5003_0, List.forall_mem_cons.mpr ⟨oo_Re_readValue_at_s5003_1, List.forall_mem_cons.mpr ⟨oo_Re_readValue_at_s5003_2, List.forall_mem_cons.mpr ⟨oo_Re_readValue_at_s5003_3, List.forall_mem_cons.mpr ⟨oo_Re_readValue_at_s5003_4, List.forall_mem_cons.mpr ⟨oo_Re_readValue_at_s5003_5, List.forall_mem_cons.mpr ⟨oo_Re_readValue_at_s5003_6, List.forall_mem_cons.mpr ⟨oo_Re_readValue_at_s5003_7, List.forall_mem_cons.mpr ⟨oo_Re_readValue_at_s5003_8, List.forall_mem_cons.mpr ⟨oo_Re_readValue_at_s5003_9, List.forall_mem_cons.mpr ⟨oo_Re_readValue_at_s5003_10, List.forall_mem_cons.mpr ⟨oo_Re_readValue_at_s5003_11, List.forall_mem_cons.mpr ⟨oo_Re_readValue_at_s5003_12, List.forall_mem_nil _⟩⟩⟩⟩⟩⟩⟩⟩⟩⟩⟩⟩⟩) (by decide +kernel) ⟨List.forall_mem_cons.mpr ⟨gf_Re_38, List.forall_mem_cons.mpr ⟨gf_Re_44, List.forall_mem_nil _⟩⟩, List.forall_mem_nil _, List.forall_mem_cons.mpr ⟨cl_virtual (y := y_Re_advance) (ci := 8) rfl rfl ⟨_, _, rfl⟩ (by decide +kernel) h_Re_advance wm_645 wm_2 wm_642 wm_644 wv_1_0 ⟨by decide, by decide, by decide +kernel⟩ (by decide), List.forall_mem_cons.mpr ⟨cl_virtual (y := y_Re_fail) (ci := 8) rfl rfl ⟨_, _, rfl⟩ (by decide +kernel) h_Re_fail wm_731 wm_2 wm_728 wm_730 wv_1_5 ⟨by decide, by decide, by decide +kernel⟩ (by decide), List.forall_mem_cons.mpr ⟨cl_virtual (y := y_Re_isWord_at_s5003) (ci := 8) rfl rfl ⟨_, _, rfl⟩ (by decide +kernel) h_Re_isWord_at_s5003 wm_670 wm_2 wm_667 wm_669 wv_1_2 ⟨by decide, by decide, by decide +kernel⟩ (by decide), List.forall_mem_nil _⟩⟩⟩, List.forall_mem_nil _, List.forall_mem_nil _, GG_pl⟩ (by decide +kernel)
def o_Re_readGroup_0 : or_T := (27, 6, [(0, (2, 0, 0, [8]))], [], [], [(0, -2147483648, 1000000, [])], [(20, [0, 6], [30, 0, 1, 1, 9, -1, 0, 0]), (20, [0, 6], [30, 0, -1, 1, 9, 1, 0, 0])], [], [])
theorem oo_Re_readGroup_0 {kA : Nat → ClassId} : or_ok kA GG o_Re_readGroup_0 := by
  intro A ta ws vs hD hth hl hk hds hf
  have hl : vs.length = 6 := hl
  have hk : ∀ q ∈ ([(0, (2, 0, 0, [8]))] : List (Nat × tv_T)), tv_ok ta q.2 (n_v vs q.1) := hk
  obtain ⟨t0, hk⟩ := List.forall_mem_cons.mp hk
  have t0 : tv_ok ta (2, 0, 0, [8]) (n_v vs 0) := t0
  have r0 : ta (v_ad (n_v vs 0)) = some 8 := tv_rg t0
  have kz_0_9 : (-2147483648) ≤ w_fi ws (n_v vs 0) 9 ∧ w_fi ws (n_v vs 0) 9 ≤ 1000000 := tv_rng (th_fd hD hth r0 (g := GG_8) rfl (k := 9) (t := (0, -2147483648, 1000000, [])) rfl rfl)
  have kv : (-2147483648) ≤ w_fi ws (n_v vs 0) 9 ∧ w_fi ws (n_v vs 0) 9 ≤ 1000000 := tv_rng (th_fd hD hth r0 (g := GG_8) rfl (k := 9) (t := (0, -2147483648, 1000000, [])) rfl rfl)
  obtain ⟨x, ex, hx⟩ := iv_ex (ta := ta) (lo := (-2147483648)) (hi := 1000000) (z := w_fi ws (n_v vs 0) 9) (by omega) (by omega) (by decide) (by decide)
  have ex2 : v_iv (Value.int x) = w_fi ws (n_v vs 0) 9 := ex
  have ex3 : (-2147483648) ≤ v_iv (Value.int x) ∧ v_iv (Value.int x) ≤ 1000000 := tv_rng hx
  have e_0 : n_v (vs ++ [Value.int x]) 0 = n_v vs 0 := n_v_old (by rw [hl]; decide)
  have e_6 : n_v (vs ++ [Value.int x]) 6 = Value.int x := n_v_new hl
  have nf0 : fc_1 (20, [0, 6], [30, 0, 1, 1, 9, -1, 0, 0]) ws (vs ++ [Value.int x]) := by
    refine ⟨fun n hn => ?_, ?_⟩
    · have hn : n ∈ [0, 6] := hn
      rw [List.length_append, hl]
      simp only [List.mem_cons, List.not_mem_nil, or_false] at hn
      show n < 6 + 1; omega
    · show 1 * w_fi ws (n_v (vs ++ [Value.int x]) 0) 9 + ((-1) * v_iv (n_v (vs ++ [Value.int x]) 6) + 0) ≤ 0
      rw [e_0]
      rw [e_6]
      omega
  have nf1 : fc_1 (20, [0, 6], [30, 0, -1, 1, 9, 1, 0, 0]) ws (vs ++ [Value.int x]) := by
    refine ⟨fun n hn => ?_, ?_⟩
    · have hn : n ∈ [0, 6] := hn
      rw [List.length_append, hl]
      simp only [List.mem_cons, List.not_mem_nil, or_false] at hn
      show n < 6 + 1; omega
    · show (-1) * w_fi ws (n_v (vs ++ [Value.int x]) 0) 9 + (1 * v_iv (n_v (vs ++ [Value.int x]) 6) + 0) ≤ 0
      rw [e_0]
      rw [e_6]
      omega
  exact ⟨fun q hq => (by cases hq), [Value.int x], ag_one hx, List.forall_mem_cons.mpr ⟨⟨by decide, nf0⟩, List.forall_mem_cons.mpr ⟨⟨by decide, nf1⟩, (fun _ h => (by cases h))⟩⟩, (fun _ h => (by cases h))⟩
def o_Re_readGroup_1 : or_T := (86, 15, [(0, (2, 0, 0, [8])), (1, (2, 0, 0, [3])), (6, (0, -2147483648, 1000000, [])), (7, (0, 1, 1, [])), (8, (2, 0, 0, [56])), (12, (0, 0, 2000, [])), (13, (0, 0, 2000, [])), (14, (0, -2000, 2000, []))], [(2, [14, 12, 13], []), (9, [13, 0], [8]), (9, [12, 0], [6]), (20, [0, 0, 6], [31, 1, 3, 1, 1, 7, 0, 1, 1, 9, -1, 0, 0]), (20, [0, 0, 6], [31, 1, 3, 1, 1, 7, 0, -1, 1, 9, 1, 0, 0]), (20, [0, 0, 7], [30, 2008, 1, 1, 6, -1, 1, 8, 2000, 0, 0]), (20, [0, 0, 7], [30, 2000, 1, 1, 8, -1, 1, 6, 2001, 0, 0]), (100, [8, 2, 10], []), (9, [8, 1], [11]), (8, [7], [1]), (20, [0, 0, 6], [31, 1, 3, 1, 1, 7, 0, 1, 1, 9, -1, 0, 0]), (20, [0, 0, 6], [31, 1, 3, 1, 1, 7, 0, -1, 1, 9, 1, 0, 0]), (20, [0, 0, 7], [30, 2008, 1, 1, 6, -1, 1, 8, 2000, 0, 0]), (20, [0, 0, 7], [30, 2000, 1, 1, 8, -1, 1, 6, 2001, 0, 0])], [(14, (0, 0, 8, []))], [], [], [], [(14, 12, -2000, 0)])
theorem oo_Re_readGroup_1 {kA : Nat → ClassId} : or_ok kA GG o_Re_readGroup_1 := by
  intro A ta ws vs hD hth hl hk hds hf
  have hl : vs.length = 15 := hl
  have hk : ∀ q ∈ ([(0, (2, 0, 0, [8])), (1, (2, 0, 0, [3])), (6, (0, -2147483648, 1000000, [])), (7, (0, 1, 1, [])), (8, (2, 0, 0, [56])), (12, (0, 0, 2000, [])), (13, (0, 0, 2000, [])), (14, (0, -2000, 2000, []))] : List (Nat × tv_T)), tv_ok ta q.2 (n_v vs q.1) := hk
  obtain ⟨t0, hk⟩ := List.forall_mem_cons.mp hk
  have t0 : tv_ok ta (2, 0, 0, [8]) (n_v vs 0) := t0
  have r0 : ta (v_ad (n_v vs 0)) = some 8 := tv_rg t0
  obtain ⟨t1, hk⟩ := List.forall_mem_cons.mp hk
  have t1 : tv_ok ta (2, 0, 0, [3]) (n_v vs 1) := t1
  have r1 : ta (v_ad (n_v vs 1)) = some 3 := tv_rg t1
  obtain ⟨t6, hk⟩ := List.forall_mem_cons.mp hk
  have t6 : tv_ok ta (0, -2147483648, 1000000, []) (n_v vs 6) := t6
  have k6 : (-2147483648) ≤ v_iv (n_v vs 6) ∧ v_iv (n_v vs 6) ≤ 1000000 := tv_rng t6
  obtain ⟨t7, hk⟩ := List.forall_mem_cons.mp hk
  have t7 : tv_ok ta (0, 1, 1, []) (n_v vs 7) := t7
  have k7 : 1 ≤ v_iv (n_v vs 7) ∧ v_iv (n_v vs 7) ≤ 1 := tv_rng t7
  obtain ⟨t8, hk⟩ := List.forall_mem_cons.mp hk
  have t8 : tv_ok ta (2, 0, 0, [56]) (n_v vs 8) := t8
  have r8 : ta (v_ad (n_v vs 8)) = some 56 := tv_rg t8
  obtain ⟨t12, hk⟩ := List.forall_mem_cons.mp hk
  have t12 : tv_ok ta (0, 0, 2000, []) (n_v vs 12) := t12
  have k12 : 0 ≤ v_iv (n_v vs 12) ∧ v_iv (n_v vs 12) ≤ 2000 := tv_rng t12
  obtain ⟨t13, hk⟩ := List.forall_mem_cons.mp hk
  have t13 : tv_ok ta (0, 0, 2000, []) (n_v vs 13) := t13
  have k13 : 0 ≤ v_iv (n_v vs 13) ∧ v_iv (n_v vs 13) ≤ 2000 := tv_rng t13
  obtain ⟨t14, hk⟩ := List.forall_mem_cons.mp hk
  have t14 : tv_ok ta (0, -2000, 2000, []) (n_v vs 14) := t14
  have k14 : (-2000) ≤ v_iv (n_v vs 14) ∧ v_iv (n_v vs 14) ≤ 2000 := tv_rng t14
  have hds : ∀ q ∈ ([(14, 12, -2000, 0)] : List of_T), n_iv vs q.2.1 + q.2.2.1 ≤ n_iv vs q.1 ∧ n_iv vs q.1 ≤ n_iv vs q.2.1 + q.2.2.2 := hds
  obtain ⟨d0, hds⟩ := List.forall_mem_cons.mp hds
  have d0 : v_iv (n_v vs 12) + (-2000) ≤ v_iv (n_v vs 14) ∧ v_iv (n_v vs 14) ≤ v_iv (n_v vs 12) + 0 := d0
  have hf : fc_ok [(2, [14, 12, 13], []), (9, [13, 0], [8]), (9, [12, 0], [6]), (20, [0, 0, 6], [31, 1, 3, 1, 1, 7, 0, 1, 1, 9, -1, 0, 0]), (20, [0, 0, 6], [31, 1, 3, 1, 1, 7, 0, -1, 1, 9, 1, 0, 0]), (20, [0, 0, 7], [30, 2008, 1, 1, 6, -1, 1, 8, 2000, 0, 0]), (20, [0, 0, 7], [30, 2000, 1, 1, 8, -1, 1, 6, 2001, 0, 0]), (100, [8, 2, 10], []), (9, [8, 1], [11]), (8, [7], [1]), (20, [0, 0, 6], [31, 1, 3, 1, 1, 7, 0, 1, 1, 9, -1, 0, 0]), (20, [0, 0, 6], [31, 1, 3, 1, 1, 7, 0, -1, 1, 9, 1, 0, 0]), (20, [0, 0, 7], [30, 2008, 1, 1, 6, -1, 1, 8, 2000, 0, 0]), (20, [0, 0, 7], [30, 2000, 1, 1, 8, -1, 1, 6, 2001, 0, 0])] ta ws vs := hf
  obtain ⟨f0, hf⟩ := fc_un (by decide) hf
  have f0 : v_iv (n_v vs 14) = v_iv (n_v vs 12) - v_iv (n_v vs 13) := f0
  obtain ⟨f1, hf⟩ := fc_un (by decide) hf
  have f1 : n_v vs 13 = w_fd ws (v_ad (n_v vs 0)) 8 := f1
  obtain ⟨f2, hf⟩ := fc_un (by decide) hf
  have f2 : n_v vs 12 = w_fd ws (v_ad (n_v vs 0)) 6 := f2
  obtain ⟨f3, hf⟩ := fc_un (by decide) hf
  have f3 : (1 * w_fi ws (n_v vs 0) 7 + 0 ≤ 3) ∨ (1 * w_fi ws (n_v vs 0) 9 + ((-1) * v_iv (n_v vs 6) + 0) ≤ 0) := f3
  obtain ⟨f4, hf⟩ := fc_un (by decide) hf
  have f4 : (1 * w_fi ws (n_v vs 0) 7 + 0 ≤ 3) ∨ ((-1) * w_fi ws (n_v vs 0) 9 + (1 * v_iv (n_v vs 6) + 0) ≤ 0) := f4
  obtain ⟨f5, hf⟩ := fc_un (by decide) hf
  have f5 : 1 * w_fi ws (n_v vs 0) 6 + ((-1) * w_fi ws (n_v vs 0) 8 + (2000 * v_iv (n_v vs 7) + 0)) ≤ 2008 := f5
  obtain ⟨f6, hf⟩ := fc_un (by decide) hf
  have f6 : 1 * w_fi ws (n_v vs 0) 8 + ((-1) * w_fi ws (n_v vs 0) 6 + (2001 * v_iv (n_v vs 7) + 0)) ≤ 2000 := f6
  obtain ⟨ta1, w1, le1, ⟨_, s1⟩, hf⟩ := fc_us (by decide) hf
  have s1 : (∀ b j, w_el ws b j = if b = v_ad (n_v vs 8) ∧ j = (v_iv (n_v vs 2)).toNat then v_iv (n_v vs 10) else w_el w1 b j) ∧ ∀ b k, w_fd ws b k = w_fd w1 b k := s1
  obtain ⟨f8, hf⟩ := fc_un (by decide) hf
  have f8 : n_v vs 8 = w_fd w1 (v_ad (n_v vs 1)) 11 := f8
  obtain ⟨f9, hf⟩ := fc_un (by decide) hf
  have f9 : v_iv (n_v vs 7) ≠ 0 := f9
  obtain ⟨f10, hf⟩ := fc_un (by decide) hf
  have f10 : (1 * w_fi w1 (n_v vs 0) 7 + 0 ≤ 3) ∨ (1 * w_fi w1 (n_v vs 0) 9 + ((-1) * v_iv (n_v vs 6) + 0) ≤ 0) := f10
  obtain ⟨f11, hf⟩ := fc_un (by decide) hf
  have f11 : (1 * w_fi w1 (n_v vs 0) 7 + 0 ≤ 3) ∨ ((-1) * w_fi w1 (n_v vs 0) 9 + (1 * v_iv (n_v vs 6) + 0) ≤ 0) := f11
  obtain ⟨f12, hf⟩ := fc_un (by decide) hf
  have f12 : 1 * w_fi w1 (n_v vs 0) 6 + ((-1) * w_fi w1 (n_v vs 0) 8 + (2000 * v_iv (n_v vs 7) + 0)) ≤ 2008 := f12
  obtain ⟨f13, hf⟩ := fc_un (by decide) hf
  have f13 : 1 * w_fi w1 (n_v vs 0) 8 + ((-1) * w_fi w1 (n_v vs 0) 6 + (2001 * v_iv (n_v vs 7) + 0)) ≤ 2000 := f13
  have ar_1_11_1 : w_ar w1 (n_v vs 1) 11 = w_ar ws (n_v vs 1) 11 := by show v_ad (w_fd w1 _ _) = v_ad (w_fd ws _ _); rw [s1.2]
  have cr_1_11 : ta (w_ar ws (n_v vs 1) 11) = some 56 := tv_rg (th_fd hD hth r1 (g := GG_3) rfl (k := 11) (t := (2, 0, 0, [56])) rfl rfl)
  have ad_8 : v_ad (n_v vs 8) = w_ar ws (n_v vs 1) 11 := (congrArg v_ad f8).trans ar_1_11_1
  have g1 : v_iv (n_v vs 13) = w_fi ws (n_v vs 0) 8 := congrArg v_iv f1
  have g2 : v_iv (n_v vs 12) = w_fi ws (n_v vs 0) 6 := congrArg v_iv f2
  have fe_0_6_1 : w_fi ws (n_v vs 0) 6 = w_fi w1 (n_v vs 0) 6 := congrArg v_iv (s1.2 _ _)
  have fe_0_7_1 : w_fi ws (n_v vs 0) 7 = w_fi w1 (n_v vs 0) 7 := congrArg v_iv (s1.2 _ _)
  have fe_0_8_1 : w_fi ws (n_v vs 0) 8 = w_fi w1 (n_v vs 0) 8 := congrArg v_iv (s1.2 _ _)
  have fe_0_9_1 : w_fi ws (n_v vs 0) 9 = w_fi w1 (n_v vs 0) 9 := congrArg v_iv (s1.2 _ _)
  have kz_0_6 : 0 ≤ w_fi ws (n_v vs 0) 6 ∧ w_fi ws (n_v vs 0) 6 ≤ 2000 := tv_rng (th_fd hD hth r0 (g := GG_8) rfl (k := 6) (t := (0, 0, 2000, [])) rfl rfl)
  have kz_0_7 : (-128) ≤ w_fi ws (n_v vs 0) 7 ∧ w_fi ws (n_v vs 0) 7 ≤ 127 := tv_rng (th_fd hD hth r0 (g := GG_8) rfl (k := 7) (t := (0, -128, 127, [])) rfl rfl)
  have kz_0_8 : 0 ≤ w_fi ws (n_v vs 0) 8 ∧ w_fi ws (n_v vs 0) 8 ≤ 2000 := tv_rng (th_fd hD hth r0 (g := GG_8) rfl (k := 8) (t := (0, 0, 2000, [])) rfl rfl)
  have kz_0_9 : (-2147483648) ≤ w_fi ws (n_v vs 0) 9 ∧ w_fi ws (n_v vs 0) 9 ≤ 1000000 := tv_rng (th_fd hD hth r0 (g := GG_8) rfl (k := 9) (t := (0, -2147483648, 1000000, [])) rfl rfl)
  have rf14 : tv_ok ta (0, 0, 8, []) (n_v vs 14) := tv_in t14 (by omega) (by omega)
  refine ⟨List.forall_mem_cons.mpr ⟨rf14, (fun _ h => (by cases h))⟩, [], trivial, ?_, (fun _ h => (by cases h))⟩
  rw [List.append_nil]
  exact (fun _ h => (by cases h))
def o_Re_readGroup_2 : or_T := (115, 20, [(0, (2, 0, 0, [8])), (1, (2, 0, 0, [3])), (2, (0, 0, 7, [])), (3, (0, 8, 8, [])), (6, (0, -2147483648, 1000000, [])), (7, (0, 1, 1, [])), (8, (2, 0, 0, [56])), (11, (2, 0, 0, [58])), (12, (0, 0, 2000, [])), (13, (0, 0, 2000, [])), (14, (0, 0, 8, [])), (17, (0, 8, 8, [])), (18, (0, 0, 56, [])), (19, (0, -2000, 2000, []))], [(2, [19, 12, 13], []), (9, [13, 0], [8]), (9, [12, 0], [6]), (3, [18, 2, 17], []), (20, [0, 0, 6], [31, 1, 3, 1, 1, 7, 0, 1, 1, 9, -1, 0, 0]), (20, [0, 0, 6], [31, 1, 3, 1, 1, 7, 0, -1, 1, 9, 1, 0, 0]), (20, [0, 0, 7], [30, 2008, 1, 1, 6, -1, 1, 8, 2000, 0, 0]), (20, [0, 0, 7], [30, 2000, 1, 1, 8, -1, 1, 6, 2001, 0, 0]), (100, [11, 2, 14], []), (2, [14, 12, 13], []), (9, [11, 1], [13]), (20, [0, 0, 6], [31, 1, 3, 1, 1, 7, 0, 1, 1, 9, -1, 0, 0]), (20, [0, 0, 6], [31, 1, 3, 1, 1, 7, 0, -1, 1, 9, 1, 0, 0]), (20, [0, 0, 7], [30, 2008, 1, 1, 6, -1, 1, 8, 2000, 0, 0]), (20, [0, 0, 7], [30, 2000, 1, 1, 8, -1, 1, 6, 2001, 0, 0]), (100, [8, 2, 10], []), (9, [8, 1], [11]), (9, [2, 1], [2]), (8, [7], [1]), (20, [0, 0, 6], [31, 1, 3, 1, 1, 7, 0, 1, 1, 9, -1, 0, 0]), (20, [0, 0, 6], [31, 1, 3, 1, 1, 7, 0, -1, 1, 9, 1, 0, 0]), (20, [0, 0, 7], [30, 2008, 1, 1, 6, -1, 1, 8, 2000, 0, 0]), (20, [0, 0, 7], [30, 2000, 1, 1, 8, -1, 1, 6, 2001, 0, 0]), (102, [6], [0]), (102, [6], [0, 8006, 8007, 8008, 8009]), (7, [2, 3], [2])], [(19, (0, 0, 64, []))], [], [(21, [13, 19], [2000]), (21, [18, 19], [64])], [], [(19, 12, -2000, 0), (14, 12, -2000, 0)])
theorem oo_Re_readGroup_2 {kA : Nat → ClassId} : or_ok kA GG o_Re_readGroup_2 := by
  intro A ta ws vs hD hth hl hk hds hf
  have hl : vs.length = 20 := hl
  have hk : ∀ q ∈ ([(0, (2, 0, 0, [8])), (1, (2, 0, 0, [3])), (2, (0, 0, 7, [])), (3, (0, 8, 8, [])), (6, (0, -2147483648, 1000000, [])), (7, (0, 1, 1, [])), (8, (2, 0, 0, [56])), (11, (2, 0, 0, [58])), (12, (0, 0, 2000, [])), (13, (0, 0, 2000, [])), (14, (0, 0, 8, [])), (17, (0, 8, 8, [])), (18, (0, 0, 56, [])), (19, (0, -2000, 2000, []))] : List (Nat × tv_T)), tv_ok ta q.2 (n_v vs q.1) := hk
  obtain ⟨t0, hk⟩ := List.forall_mem_cons.mp hk
  have t0 : tv_ok ta (2, 0, 0, [8]) (n_v vs 0) := t0
  have r0 : ta (v_ad (n_v vs 0)) = some 8 := tv_rg t0
  obtain ⟨t1, hk⟩ := List.forall_mem_cons.mp hk
  have t1 : tv_ok ta (2, 0, 0, [3]) (n_v vs 1) := t1
  have r1 : ta (v_ad (n_v vs 1)) = some 3 := tv_rg t1
  obtain ⟨t2, hk⟩ := List.forall_mem_cons.mp hk
  have t2 : tv_ok ta (0, 0, 7, []) (n_v vs 2) := t2
  have k2 : 0 ≤ v_iv (n_v vs 2) ∧ v_iv (n_v vs 2) ≤ 7 := tv_rng t2
  obtain ⟨t3, hk⟩ := List.forall_mem_cons.mp hk
  have t3 : tv_ok ta (0, 8, 8, []) (n_v vs 3) := t3
  have k3 : 8 ≤ v_iv (n_v vs 3) ∧ v_iv (n_v vs 3) ≤ 8 := tv_rng t3
  obtain ⟨t6, hk⟩ := List.forall_mem_cons.mp hk
  have t6 : tv_ok ta (0, -2147483648, 1000000, []) (n_v vs 6) := t6
  have k6 : (-2147483648) ≤ v_iv (n_v vs 6) ∧ v_iv (n_v vs 6) ≤ 1000000 := tv_rng t6
  obtain ⟨t7, hk⟩ := List.forall_mem_cons.mp hk
  have t7 : tv_ok ta (0, 1, 1, []) (n_v vs 7) := t7
  have k7 : 1 ≤ v_iv (n_v vs 7) ∧ v_iv (n_v vs 7) ≤ 1 := tv_rng t7
  obtain ⟨t8, hk⟩ := List.forall_mem_cons.mp hk
  have t8 : tv_ok ta (2, 0, 0, [56]) (n_v vs 8) := t8
  have r8 : ta (v_ad (n_v vs 8)) = some 56 := tv_rg t8
  obtain ⟨t11, hk⟩ := List.forall_mem_cons.mp hk
  have t11 : tv_ok ta (2, 0, 0, [58]) (n_v vs 11) := t11
  have r11 : ta (v_ad (n_v vs 11)) = some 58 := tv_rg t11
  obtain ⟨t12, hk⟩ := List.forall_mem_cons.mp hk
  have t12 : tv_ok ta (0, 0, 2000, []) (n_v vs 12) := t12
  have k12 : 0 ≤ v_iv (n_v vs 12) ∧ v_iv (n_v vs 12) ≤ 2000 := tv_rng t12
  obtain ⟨t13, hk⟩ := List.forall_mem_cons.mp hk
  have t13 : tv_ok ta (0, 0, 2000, []) (n_v vs 13) := t13
  have k13 : 0 ≤ v_iv (n_v vs 13) ∧ v_iv (n_v vs 13) ≤ 2000 := tv_rng t13
  obtain ⟨t14, hk⟩ := List.forall_mem_cons.mp hk
  have t14 : tv_ok ta (0, 0, 8, []) (n_v vs 14) := t14
  have k14 : 0 ≤ v_iv (n_v vs 14) ∧ v_iv (n_v vs 14) ≤ 8 := tv_rng t14
  obtain ⟨t17, hk⟩ := List.forall_mem_cons.mp hk
  have t17 : tv_ok ta (0, 8, 8, []) (n_v vs 17) := t17
  have k17 : 8 ≤ v_iv (n_v vs 17) ∧ v_iv (n_v vs 17) ≤ 8 := tv_rng t17
  obtain ⟨t18, hk⟩ := List.forall_mem_cons.mp hk
  have t18 : tv_ok ta (0, 0, 56, []) (n_v vs 18) := t18
  have k18 : 0 ≤ v_iv (n_v vs 18) ∧ v_iv (n_v vs 18) ≤ 56 := tv_rng t18
  obtain ⟨t19, hk⟩ := List.forall_mem_cons.mp hk
  have t19 : tv_ok ta (0, -2000, 2000, []) (n_v vs 19) := t19
  have k19 : (-2000) ≤ v_iv (n_v vs 19) ∧ v_iv (n_v vs 19) ≤ 2000 := tv_rng t19
  have hds : ∀ q ∈ ([(19, 12, -2000, 0), (14, 12, -2000, 0)] : List of_T), n_iv vs q.2.1 + q.2.2.1 ≤ n_iv vs q.1 ∧ n_iv vs q.1 ≤ n_iv vs q.2.1 + q.2.2.2 := hds
  obtain ⟨d0, hds⟩ := List.forall_mem_cons.mp hds
  have d0 : v_iv (n_v vs 12) + (-2000) ≤ v_iv (n_v vs 19) ∧ v_iv (n_v vs 19) ≤ v_iv (n_v vs 12) + 0 := d0
  obtain ⟨d1, hds⟩ := List.forall_mem_cons.mp hds
  have d1 : v_iv (n_v vs 12) + (-2000) ≤ v_iv (n_v vs 14) ∧ v_iv (n_v vs 14) ≤ v_iv (n_v vs 12) + 0 := d1
  have hf : fc_ok [(2, [19, 12, 13], []), (9, [13, 0], [8]), (9, [12, 0], [6]), (3, [18, 2, 17], []), (20, [0, 0, 6], [31, 1, 3, 1, 1, 7, 0, 1, 1, 9, -1, 0, 0]), (20, [0, 0, 6], [31, 1, 3, 1, 1, 7, 0, -1, 1, 9, 1, 0, 0]), (20, [0, 0, 7], [30, 2008, 1, 1, 6, -1, 1, 8, 2000, 0, 0]), (20, [0, 0, 7], [30, 2000, 1, 1, 8, -1, 1, 6, 2001, 0, 0]), (100, [11, 2, 14], []), (2, [14, 12, 13], []), (9, [11, 1], [13]), (20, [0, 0, 6], [31, 1, 3, 1, 1, 7, 0, 1, 1, 9, -1, 0, 0]), (20, [0, 0, 6], [31, 1, 3, 1, 1, 7, 0, -1, 1, 9, 1, 0, 0]), (20, [0, 0, 7], [30, 2008, 1, 1, 6, -1, 1, 8, 2000, 0, 0]), (20, [0, 0, 7], [30, 2000, 1, 1, 8, -1, 1, 6, 2001, 0, 0]), (100, [8, 2, 10], []), (9, [8, 1], [11]), (9, [2, 1], [2]), (8, [7], [1]), (20, [0, 0, 6], [31, 1, 3, 1, 1, 7, 0, 1, 1, 9, -1, 0, 0]), (20, [0, 0, 6], [31, 1, 3, 1, 1, 7, 0, -1, 1, 9, 1, 0, 0]), (20, [0, 0, 7], [30, 2008, 1, 1, 6, -1, 1, 8, 2000, 0, 0]), (20, [0, 0, 7], [30, 2000, 1, 1, 8, -1, 1, 6, 2001, 0, 0]), (102, [6], [0]), (102, [6], [0, 8006, 8007, 8008, 8009]), (7, [2, 3], [2])] ta ws vs := hf
  obtain ⟨f0, hf⟩ := fc_un (by decide) hf
  have f0 : v_iv (n_v vs 19) = v_iv (n_v vs 12) - v_iv (n_v vs 13) := f0
  obtain ⟨f1, hf⟩ := fc_un (by decide) hf
  have f1 : n_v vs 13 = w_fd ws (v_ad (n_v vs 0)) 8 := f1
  obtain ⟨f2, hf⟩ := fc_un (by decide) hf
  have f2 : n_v vs 12 = w_fd ws (v_ad (n_v vs 0)) 6 := f2
  obtain ⟨f3, hf⟩ := fc_un (by decide) hf
  have f3 : v_iv (n_v vs 18) = v_iv (n_v vs 2) * v_iv (n_v vs 17) := f3
  rw [show v_iv (n_v vs 17) = 8 from by omega] at f3
  obtain ⟨f4, hf⟩ := fc_un (by decide) hf
  have f4 : (1 * w_fi ws (n_v vs 0) 7 + 0 ≤ 3) ∨ (1 * w_fi ws (n_v vs 0) 9 + ((-1) * v_iv (n_v vs 6) + 0) ≤ 0) := f4
  obtain ⟨f5, hf⟩ := fc_un (by decide) hf
  have f5 : (1 * w_fi ws (n_v vs 0) 7 + 0 ≤ 3) ∨ ((-1) * w_fi ws (n_v vs 0) 9 + (1 * v_iv (n_v vs 6) + 0) ≤ 0) := f5
  obtain ⟨f6, hf⟩ := fc_un (by decide) hf
  have f6 : 1 * w_fi ws (n_v vs 0) 6 + ((-1) * w_fi ws (n_v vs 0) 8 + (2000 * v_iv (n_v vs 7) + 0)) ≤ 2008 := f6
  obtain ⟨f7, hf⟩ := fc_un (by decide) hf
  have f7 : 1 * w_fi ws (n_v vs 0) 8 + ((-1) * w_fi ws (n_v vs 0) 6 + (2001 * v_iv (n_v vs 7) + 0)) ≤ 2000 := f7
  obtain ⟨ta1, w1, le1, ⟨_, s1⟩, hf⟩ := fc_us (by decide) hf
  have s1 : (∀ b j, w_el ws b j = if b = v_ad (n_v vs 11) ∧ j = (v_iv (n_v vs 2)).toNat then v_iv (n_v vs 14) else w_el w1 b j) ∧ ∀ b k, w_fd ws b k = w_fd w1 b k := s1
  obtain ⟨f9, hf⟩ := fc_un (by decide) hf
  have f9 : v_iv (n_v vs 14) = v_iv (n_v vs 12) - v_iv (n_v vs 13) := f9
  obtain ⟨f10, hf⟩ := fc_un (by decide) hf
  have f10 : n_v vs 11 = w_fd w1 (v_ad (n_v vs 1)) 13 := f10
  obtain ⟨f11, hf⟩ := fc_un (by decide) hf
  have f11 : (1 * w_fi w1 (n_v vs 0) 7 + 0 ≤ 3) ∨ (1 * w_fi w1 (n_v vs 0) 9 + ((-1) * v_iv (n_v vs 6) + 0) ≤ 0) := f11
  obtain ⟨f12, hf⟩ := fc_un (by decide) hf
  have f12 : (1 * w_fi w1 (n_v vs 0) 7 + 0 ≤ 3) ∨ ((-1) * w_fi w1 (n_v vs 0) 9 + (1 * v_iv (n_v vs 6) + 0) ≤ 0) := f12
  obtain ⟨f13, hf⟩ := fc_un (by decide) hf
  have f13 : 1 * w_fi w1 (n_v vs 0) 6 + ((-1) * w_fi w1 (n_v vs 0) 8 + (2000 * v_iv (n_v vs 7) + 0)) ≤ 2008 := f13
  obtain ⟨f14, hf⟩ := fc_un (by decide) hf
  have f14 : 1 * w_fi w1 (n_v vs 0) 8 + ((-1) * w_fi w1 (n_v vs 0) 6 + (2001 * v_iv (n_v vs 7) + 0)) ≤ 2000 := f14
  obtain ⟨ta2, w2, le2, ⟨_, s2⟩, hf⟩ := fc_us (by decide) hf
  have s2 : (∀ b j, w_el w1 b j = if b = v_ad (n_v vs 8) ∧ j = (v_iv (n_v vs 2)).toNat then v_iv (n_v vs 10) else w_el w2 b j) ∧ ∀ b k, w_fd w1 b k = w_fd w2 b k := s2
  obtain ⟨f16, hf⟩ := fc_un (by decide) hf
  have f16 : n_v vs 8 = w_fd w2 (v_ad (n_v vs 1)) 11 := f16
  obtain ⟨f17, hf⟩ := fc_un (by decide) hf
  have f17 : n_v vs 2 = w_fd w2 (v_ad (n_v vs 1)) 2 := f17
  obtain ⟨f18, hf⟩ := fc_un (by decide) hf
  have f18 : v_iv (n_v vs 7) ≠ 0 := f18
  obtain ⟨f19, hf⟩ := fc_un (by decide) hf
  have f19 : (1 * w_fi w2 (n_v vs 0) 7 + 0 ≤ 3) ∨ (1 * w_fi w2 (n_v vs 0) 9 + ((-1) * v_iv (n_v vs 6) + 0) ≤ 0) := f19
  obtain ⟨f20, hf⟩ := fc_un (by decide) hf
  have f20 : (1 * w_fi w2 (n_v vs 0) 7 + 0 ≤ 3) ∨ ((-1) * w_fi w2 (n_v vs 0) 9 + (1 * v_iv (n_v vs 6) + 0) ≤ 0) := f20
  obtain ⟨f21, hf⟩ := fc_un (by decide) hf
  have f21 : 1 * w_fi w2 (n_v vs 0) 6 + ((-1) * w_fi w2 (n_v vs 0) 8 + (2000 * v_iv (n_v vs 7) + 0)) ≤ 2008 := f21
  obtain ⟨f22, hf⟩ := fc_un (by decide) hf
  have f22 : 1 * w_fi w2 (n_v vs 0) 8 + ((-1) * w_fi w2 (n_v vs 0) 6 + (2001 * v_iv (n_v vs 7) + 0)) ≤ 2000 := f22
  obtain ⟨ta3, w3, le3, ⟨_, s3⟩, hf⟩ := fc_us (by decide) hf
  obtain ⟨ta4, w4, le4, ⟨_, s4⟩, hf⟩ := fc_us (by decide) hf
  obtain ⟨f25, hf⟩ := fc_un (by decide) hf
  have f25 : v_iv (n_v vs 2) < v_iv (n_v vs 3) := f25
  have ar_1_11_1 : w_ar w1 (n_v vs 1) 11 = w_ar ws (n_v vs 1) 11 := by show v_ad (w_fd w1 _ _) = v_ad (w_fd ws _ _); rw [s1.2]
  have ar_1_11_2 : w_ar w2 (n_v vs 1) 11 = w_ar ws (n_v vs 1) 11 := by rw [← ar_1_11_1]; show v_ad (w_fd w2 _ _) = v_ad (w_fd w1 _ _); rw [s2.2]
  have cr_1_11 : ta (w_ar ws (n_v vs 1) 11) = some 56 := tv_rg (th_fd hD hth r1 (g := GG_3) rfl (k := 11) (t := (2, 0, 0, [56])) rfl rfl)
  have ar_1_13_1 : w_ar w1 (n_v vs 1) 13 = w_ar ws (n_v vs 1) 13 := by show v_ad (w_fd w1 _ _) = v_ad (w_fd ws _ _); rw [s1.2]
  have ar_1_13_2 : w_ar w2 (n_v vs 1) 13 = w_ar ws (n_v vs 1) 13 := by rw [← ar_1_13_1]; show v_ad (w_fd w2 _ _) = v_ad (w_fd w1 _ _); rw [s2.2]
  have cr_1_13 : ta (w_ar ws (n_v vs 1) 13) = some 58 := tv_rg (th_fd hD hth r1 (g := GG_3) rfl (k := 13) (t := (2, 0, 0, [58])) rfl rfl)
  have ad_11 : v_ad (n_v vs 11) = w_ar ws (n_v vs 1) 13 := (congrArg v_ad f10).trans ar_1_13_1
  have ad_8 : v_ad (n_v vs 8) = w_ar ws (n_v vs 1) 11 := (congrArg v_ad f16).trans ar_1_11_2
  have g1 : v_iv (n_v vs 13) = w_fi ws (n_v vs 0) 8 := congrArg v_iv f1
  have g2 : v_iv (n_v vs 12) = w_fi ws (n_v vs 0) 6 := congrArg v_iv f2
  have g17 : v_iv (n_v vs 2) = w_fi w2 (n_v vs 1) 2 := congrArg v_iv f17
  have fe_0_6_1 : w_fi ws (n_v vs 0) 6 = w_fi w1 (n_v vs 0) 6 := congrArg v_iv (s1.2 _ _)
  have fe_0_7_1 : w_fi ws (n_v vs 0) 7 = w_fi w1 (n_v vs 0) 7 := congrArg v_iv (s1.2 _ _)
  have fe_0_8_1 : w_fi ws (n_v vs 0) 8 = w_fi w1 (n_v vs 0) 8 := congrArg v_iv (s1.2 _ _)
  have fe_0_9_1 : w_fi ws (n_v vs 0) 9 = w_fi w1 (n_v vs 0) 9 := congrArg v_iv (s1.2 _ _)
  have fe_1_2_1 : w_fi ws (n_v vs 1) 2 = w_fi w1 (n_v vs 1) 2 := congrArg v_iv (s1.2 _ _)
  have fe_0_6_2 : w_fi w1 (n_v vs 0) 6 = w_fi w2 (n_v vs 0) 6 := congrArg v_iv (s2.2 _ _)
  have fe_0_7_2 : w_fi w1 (n_v vs 0) 7 = w_fi w2 (n_v vs 0) 7 := congrArg v_iv (s2.2 _ _)
  have fe_0_8_2 : w_fi w1 (n_v vs 0) 8 = w_fi w2 (n_v vs 0) 8 := congrArg v_iv (s2.2 _ _)
  have fe_0_9_2 : w_fi w1 (n_v vs 0) 9 = w_fi w2 (n_v vs 0) 9 := congrArg v_iv (s2.2 _ _)
  have fe_1_2_2 : w_fi w1 (n_v vs 1) 2 = w_fi w2 (n_v vs 1) 2 := congrArg v_iv (s2.2 _ _)
  have kz_0_6 : 0 ≤ w_fi ws (n_v vs 0) 6 ∧ w_fi ws (n_v vs 0) 6 ≤ 2000 := tv_rng (th_fd hD hth r0 (g := GG_8) rfl (k := 6) (t := (0, 0, 2000, [])) rfl rfl)
  have kz_0_7 : (-128) ≤ w_fi ws (n_v vs 0) 7 ∧ w_fi ws (n_v vs 0) 7 ≤ 127 := tv_rng (th_fd hD hth r0 (g := GG_8) rfl (k := 7) (t := (0, -128, 127, [])) rfl rfl)
  have kz_0_8 : 0 ≤ w_fi ws (n_v vs 0) 8 ∧ w_fi ws (n_v vs 0) 8 ≤ 2000 := tv_rng (th_fd hD hth r0 (g := GG_8) rfl (k := 8) (t := (0, 0, 2000, [])) rfl rfl)
  have kz_0_9 : (-2147483648) ≤ w_fi ws (n_v vs 0) 9 ∧ w_fi ws (n_v vs 0) 9 ≤ 1000000 := tv_rng (th_fd hD hth r0 (g := GG_8) rfl (k := 9) (t := (0, -2147483648, 1000000, [])) rfl rfl)
  have kz_1_2 : 0 ≤ w_fi ws (n_v vs 1) 2 ∧ w_fi ws (n_v vs 1) 2 ≤ 8 := tv_rng (th_fd hD hth r1 (g := GG_3) rfl (k := 2) (t := (0, 0, 8, [])) rfl rfl)
  have nf0 : fc_1 (21, [13, 19], [2000]) ws (vs) := by
    refine ⟨fun n hn => ?_, ?_⟩
    · have hn : n ∈ [13, 19] := hn
      rw [hl]
      simp only [List.mem_cons, List.not_mem_nil, or_false] at hn
      show n < 20; omega
    · show v_iv (n_v vs 13) + v_iv (n_v vs 19) ≤ 2000
      omega
  have nf1 : fc_1 (21, [18, 19], [64]) ws (vs) := by
    refine ⟨fun n hn => ?_, ?_⟩
    · have hn : n ∈ [18, 19] := hn
      rw [hl]
      simp only [List.mem_cons, List.not_mem_nil, or_false] at hn
      show n < 20; omega
    · show v_iv (n_v vs 18) + v_iv (n_v vs 19) ≤ 64
      omega
  have rf19 : tv_ok ta (0, 0, 64, []) (n_v vs 19) := tv_in t19 (by omega) (by omega)
  refine ⟨List.forall_mem_cons.mpr ⟨rf19, (fun _ h => (by cases h))⟩, [], trivial, ?_, (fun _ h => (by cases h))⟩
  rw [List.append_nil]
  exact List.forall_mem_cons.mpr ⟨⟨by decide, nf0⟩, List.forall_mem_cons.mpr ⟨⟨by decide, nf1⟩, (fun _ h => (by cases h))⟩⟩
def o_Re_readGroup_3 : or_T := (152, 24, [(0, (2, 0, 0, [8])), (6, (0, -2147483648, 1000000, [])), (7, (0, 1, 1, [])), (8, (2, 0, 0, [56])), (9, (2, 0, 0, [110])), (11, (2, 0, 0, [58]))], [(20, [0, 0, 6], [31, 1, 3, 1, 1, 7, 0, 1, 1, 9, -1, 0, 0]), (20, [0, 0, 6], [31, 1, 3, 1, 1, 7, 0, -1, 1, 9, 1, 0, 0]), (20, [0, 0, 7], [30, 2008, 1, 1, 6, -1, 1, 8, 2000, 0, 0]), (20, [0, 0, 7], [30, 2000, 1, 1, 8, -1, 1, 6, 2001, 0, 0]), (100, [9, 23, 2], []), (9, [9, 0], [10]), (20, [0, 0, 6], [31, 1, 3, 1, 1, 7, 0, 1, 1, 9, -1, 0, 0]), (20, [0, 0, 6], [31, 1, 3, 1, 1, 7, 0, -1, 1, 9, 1, 0, 0]), (20, [0, 0, 7], [30, 2008, 1, 1, 6, -1, 1, 8, 2000, 0, 0]), (20, [0, 0, 7], [30, 2000, 1, 1, 8, -1, 1, 6, 2001, 0, 0]), (101, [0, 23], [11]), (20, [0, 0, 6], [31, 1, 3, 1, 1, 7, 0, 1, 1, 9, -1, 0, 0]), (20, [0, 0, 6], [31, 1, 3, 1, 1, 7, 0, -1, 1, 9, 1, 0, 0]), (20, [0, 0, 7], [30, 2008, 1, 1, 6, -1, 1, 8, 2000, 0, 0]), (20, [0, 0, 7], [30, 2000, 1, 1, 8, -1, 1, 6, 2001, 0, 0]), (101, [1, 21], [2]), (20, [0, 0, 6], [31, 1, 3, 1, 1, 7, 0, 1, 1, 9, -1, 0, 0]), (20, [0, 0, 6], [31, 1, 3, 1, 1, 7, 0, -1, 1, 9, 1, 0, 0]), (20, [0, 0, 7], [30, 2008, 1, 1, 6, -1, 1, 8, 2000, 0, 0]), (20, [0, 0, 7], [30, 2000, 1, 1, 8, -1, 1, 6, 2001, 0, 0]), (102, [19], [144115188075855872]), (100, [11, 2, 14], []), (100, [8, 2, 10], []), (8, [7], [1])], [], [(0, -2147483648, 1000000, [])], [(20, [0, 24], [30, 0, 1, 1, 9, -1, 0, 0]), (20, [0, 24], [30, 0, -1, 1, 9, 1, 0, 0])], [], [])
theorem oo_Re_readGroup_3 {kA : Nat → ClassId} : or_ok kA GG o_Re_readGroup_3 := by
  intro A ta ws vs hD hth hl hk hds hf
  have hl : vs.length = 24 := hl
  have hk : ∀ q ∈ ([(0, (2, 0, 0, [8])), (6, (0, -2147483648, 1000000, [])), (7, (0, 1, 1, [])), (8, (2, 0, 0, [56])), (9, (2, 0, 0, [110])), (11, (2, 0, 0, [58]))] : List (Nat × tv_T)), tv_ok ta q.2 (n_v vs q.1) := hk
  obtain ⟨t0, hk⟩ := List.forall_mem_cons.mp hk
  have t0 : tv_ok ta (2, 0, 0, [8]) (n_v vs 0) := t0
  have r0 : ta (v_ad (n_v vs 0)) = some 8 := tv_rg t0
  obtain ⟨t6, hk⟩ := List.forall_mem_cons.mp hk
  have t6 : tv_ok ta (0, -2147483648, 1000000, []) (n_v vs 6) := t6
  have k6 : (-2147483648) ≤ v_iv (n_v vs 6) ∧ v_iv (n_v vs 6) ≤ 1000000 := tv_rng t6
  obtain ⟨t7, hk⟩ := List.forall_mem_cons.mp hk
  have t7 : tv_ok ta (0, 1, 1, []) (n_v vs 7) := t7
  have k7 : 1 ≤ v_iv (n_v vs 7) ∧ v_iv (n_v vs 7) ≤ 1 := tv_rng t7
  obtain ⟨t8, hk⟩ := List.forall_mem_cons.mp hk
  have t8 : tv_ok ta (2, 0, 0, [56]) (n_v vs 8) := t8
  have r8 : ta (v_ad (n_v vs 8)) = some 56 := tv_rg t8
  obtain ⟨t9, hk⟩ := List.forall_mem_cons.mp hk
  have t9 : tv_ok ta (2, 0, 0, [110]) (n_v vs 9) := t9
  have r9 : ta (v_ad (n_v vs 9)) = some 110 := tv_rg t9
  obtain ⟨t11, hk⟩ := List.forall_mem_cons.mp hk
  have t11 : tv_ok ta (2, 0, 0, [58]) (n_v vs 11) := t11
  have r11 : ta (v_ad (n_v vs 11)) = some 58 := tv_rg t11
  have hf : fc_ok [(20, [0, 0, 6], [31, 1, 3, 1, 1, 7, 0, 1, 1, 9, -1, 0, 0]), (20, [0, 0, 6], [31, 1, 3, 1, 1, 7, 0, -1, 1, 9, 1, 0, 0]), (20, [0, 0, 7], [30, 2008, 1, 1, 6, -1, 1, 8, 2000, 0, 0]), (20, [0, 0, 7], [30, 2000, 1, 1, 8, -1, 1, 6, 2001, 0, 0]), (100, [9, 23, 2], []), (9, [9, 0], [10]), (20, [0, 0, 6], [31, 1, 3, 1, 1, 7, 0, 1, 1, 9, -1, 0, 0]), (20, [0, 0, 6], [31, 1, 3, 1, 1, 7, 0, -1, 1, 9, 1, 0, 0]), (20, [0, 0, 7], [30, 2008, 1, 1, 6, -1, 1, 8, 2000, 0, 0]), (20, [0, 0, 7], [30, 2000, 1, 1, 8, -1, 1, 6, 2001, 0, 0]), (101, [0, 23], [11]), (20, [0, 0, 6], [31, 1, 3, 1, 1, 7, 0, 1, 1, 9, -1, 0, 0]), (20, [0, 0, 6], [31, 1, 3, 1, 1, 7, 0, -1, 1, 9, 1, 0, 0]), (20, [0, 0, 7], [30, 2008, 1, 1, 6, -1, 1, 8, 2000, 0, 0]), (20, [0, 0, 7], [30, 2000, 1, 1, 8, -1, 1, 6, 2001, 0, 0]), (101, [1, 21], [2]), (20, [0, 0, 6], [31, 1, 3, 1, 1, 7, 0, 1, 1, 9, -1, 0, 0]), (20, [0, 0, 6], [31, 1, 3, 1, 1, 7, 0, -1, 1, 9, 1, 0, 0]), (20, [0, 0, 7], [30, 2008, 1, 1, 6, -1, 1, 8, 2000, 0, 0]), (20, [0, 0, 7], [30, 2000, 1, 1, 8, -1, 1, 6, 2001, 0, 0]), (102, [19], [144115188075855872]), (100, [11, 2, 14], []), (100, [8, 2, 10], []), (8, [7], [1])] ta ws vs := hf
  obtain ⟨f0, hf⟩ := fc_un (by decide) hf
  have f0 : (1 * w_fi ws (n_v vs 0) 7 + 0 ≤ 3) ∨ (1 * w_fi ws (n_v vs 0) 9 + ((-1) * v_iv (n_v vs 6) + 0) ≤ 0) := f0
  obtain ⟨f1, hf⟩ := fc_un (by decide) hf
  have f1 : (1 * w_fi ws (n_v vs 0) 7 + 0 ≤ 3) ∨ ((-1) * w_fi ws (n_v vs 0) 9 + (1 * v_iv (n_v vs 6) + 0) ≤ 0) := f1
  obtain ⟨f2, hf⟩ := fc_un (by decide) hf
  have f2 : 1 * w_fi ws (n_v vs 0) 6 + ((-1) * w_fi ws (n_v vs 0) 8 + (2000 * v_iv (n_v vs 7) + 0)) ≤ 2008 := f2
  obtain ⟨f3, hf⟩ := fc_un (by decide) hf
  have f3 : 1 * w_fi ws (n_v vs 0) 8 + ((-1) * w_fi ws (n_v vs 0) 6 + (2001 * v_iv (n_v vs 7) + 0)) ≤ 2000 := f3
  obtain ⟨ta1, w1, le1, ⟨_, s1⟩, hf⟩ := fc_us (by decide) hf
  have s1 : (∀ b j, w_el ws b j = if b = v_ad (n_v vs 9) ∧ j = (v_iv (n_v vs 23)).toNat then v_iv (n_v vs 2) else w_el w1 b j) ∧ ∀ b k, w_fd ws b k = w_fd w1 b k := s1
  obtain ⟨f5, hf⟩ := fc_un (by decide) hf
  have f5 : n_v vs 9 = w_fd w1 (v_ad (n_v vs 0)) 10 := f5
  obtain ⟨f6, hf⟩ := fc_un (by decide) hf
  have f6 : (1 * w_fi w1 (n_v vs 0) 7 + 0 ≤ 3) ∨ (1 * w_fi w1 (n_v vs 0) 9 + ((-1) * v_iv (n_v vs 6) + 0) ≤ 0) := f6
  obtain ⟨f7, hf⟩ := fc_un (by decide) hf
  have f7 : (1 * w_fi w1 (n_v vs 0) 7 + 0 ≤ 3) ∨ ((-1) * w_fi w1 (n_v vs 0) 9 + (1 * v_iv (n_v vs 6) + 0) ≤ 0) := f7
  obtain ⟨f8, hf⟩ := fc_un (by decide) hf
  have f8 : 1 * w_fi w1 (n_v vs 0) 6 + ((-1) * w_fi w1 (n_v vs 0) 8 + (2000 * v_iv (n_v vs 7) + 0)) ≤ 2008 := f8
  obtain ⟨f9, hf⟩ := fc_un (by decide) hf
  have f9 : 1 * w_fi w1 (n_v vs 0) 8 + ((-1) * w_fi w1 (n_v vs 0) 6 + (2001 * v_iv (n_v vs 7) + 0)) ≤ 2000 := f9
  obtain ⟨ta2, w2, le2, ⟨_, s2⟩, hf⟩ := fc_us (by decide) hf
  have s2 : (∀ b j, w_el w1 b j = w_el w2 b j) ∧ ∀ b j, w_fd w1 b j = if b = v_ad (n_v vs 0) ∧ j = 11 then n_v vs 23 else w_fd w2 b j := s2
  obtain ⟨f11, hf⟩ := fc_un (by decide) hf
  have f11 : (1 * w_fi w2 (n_v vs 0) 7 + 0 ≤ 3) ∨ (1 * w_fi w2 (n_v vs 0) 9 + ((-1) * v_iv (n_v vs 6) + 0) ≤ 0) := f11
  obtain ⟨f12, hf⟩ := fc_un (by decide) hf
  have f12 : (1 * w_fi w2 (n_v vs 0) 7 + 0 ≤ 3) ∨ ((-1) * w_fi w2 (n_v vs 0) 9 + (1 * v_iv (n_v vs 6) + 0) ≤ 0) := f12
  obtain ⟨f13, hf⟩ := fc_un (by decide) hf
  have f13 : 1 * w_fi w2 (n_v vs 0) 6 + ((-1) * w_fi w2 (n_v vs 0) 8 + (2000 * v_iv (n_v vs 7) + 0)) ≤ 2008 := f13
  obtain ⟨f14, hf⟩ := fc_un (by decide) hf
  have f14 : 1 * w_fi w2 (n_v vs 0) 8 + ((-1) * w_fi w2 (n_v vs 0) 6 + (2001 * v_iv (n_v vs 7) + 0)) ≤ 2000 := f14
  obtain ⟨ta3, w3, le3, ⟨_, s3⟩, hf⟩ := fc_us (by decide) hf
  have s3 : (∀ b j, w_el w2 b j = w_el w3 b j) ∧ ∀ b j, w_fd w2 b j = if b = v_ad (n_v vs 1) ∧ j = 2 then n_v vs 21 else w_fd w3 b j := s3
  obtain ⟨f16, hf⟩ := fc_un (by decide) hf
  have f16 : (1 * w_fi w3 (n_v vs 0) 7 + 0 ≤ 3) ∨ (1 * w_fi w3 (n_v vs 0) 9 + ((-1) * v_iv (n_v vs 6) + 0) ≤ 0) := f16
  obtain ⟨f17, hf⟩ := fc_un (by decide) hf
  have f17 : (1 * w_fi w3 (n_v vs 0) 7 + 0 ≤ 3) ∨ ((-1) * w_fi w3 (n_v vs 0) 9 + (1 * v_iv (n_v vs 6) + 0) ≤ 0) := f17
  obtain ⟨f18, hf⟩ := fc_un (by decide) hf
  have f18 : 1 * w_fi w3 (n_v vs 0) 6 + ((-1) * w_fi w3 (n_v vs 0) 8 + (2000 * v_iv (n_v vs 7) + 0)) ≤ 2008 := f18
  obtain ⟨f19, hf⟩ := fc_un (by decide) hf
  have f19 : 1 * w_fi w3 (n_v vs 0) 8 + ((-1) * w_fi w3 (n_v vs 0) 6 + (2001 * v_iv (n_v vs 7) + 0)) ≤ 2000 := f19
  obtain ⟨ta4, w4, le4, ⟨_, s4⟩, hf⟩ := fc_us (by decide) hf
  obtain ⟨ta5, w5, le5, ⟨_, s5⟩, hf⟩ := fc_us (by decide) hf
  have s5 : (∀ b j, w_el w4 b j = if b = v_ad (n_v vs 11) ∧ j = (v_iv (n_v vs 2)).toNat then v_iv (n_v vs 14) else w_el w5 b j) ∧ ∀ b k, w_fd w4 b k = w_fd w5 b k := s5
  obtain ⟨ta6, w6, le6, ⟨_, s6⟩, hf⟩ := fc_us (by decide) hf
  have s6 : (∀ b j, w_el w5 b j = if b = v_ad (n_v vs 8) ∧ j = (v_iv (n_v vs 2)).toNat then v_iv (n_v vs 10) else w_el w6 b j) ∧ ∀ b k, w_fd w5 b k = w_fd w6 b k := s6
  obtain ⟨f23, hf⟩ := fc_un (by decide) hf
  have f23 : v_iv (n_v vs 7) ≠ 0 := f23
  have ar_0_10_1 : w_ar w1 (n_v vs 0) 10 = w_ar ws (n_v vs 0) 10 := by show v_ad (w_fd w1 _ _) = v_ad (w_fd ws _ _); rw [s1.2]
  have ar_0_10_2 : w_ar w2 (n_v vs 0) 10 = w_ar ws (n_v vs 0) 10 := by rw [← ar_0_10_1]; show v_ad (w_fd w2 _ _) = v_ad (w_fd w1 _ _); rw [s2.2, if_neg (fun e => absurd e.2 (by decide))]
  have ar_0_10_3 : w_ar w3 (n_v vs 0) 10 = w_ar ws (n_v vs 0) 10 := by rw [← ar_0_10_2]; show v_ad (w_fd w3 _ _) = v_ad (w_fd w2 _ _); rw [s3.2, if_neg (fun e => absurd e.2 (by decide))]
  have cr_0_10 : ta (w_ar ws (n_v vs 0) 10) = some 110 := tv_rg (th_fd hD hth r0 (g := GG_8) rfl (k := 10) (t := (2, 0, 0, [110])) rfl rfl)
  have ad_9 : v_ad (n_v vs 9) = w_ar ws (n_v vs 0) 10 := (congrArg v_ad f5).trans ar_0_10_1
  have fe_0_6_1 : w_fi ws (n_v vs 0) 6 = w_fi w1 (n_v vs 0) 6 := congrArg v_iv (s1.2 _ _)
  have fe_0_7_1 : w_fi ws (n_v vs 0) 7 = w_fi w1 (n_v vs 0) 7 := congrArg v_iv (s1.2 _ _)
  have fe_0_8_1 : w_fi ws (n_v vs 0) 8 = w_fi w1 (n_v vs 0) 8 := congrArg v_iv (s1.2 _ _)
  have fe_0_9_1 : w_fi ws (n_v vs 0) 9 = w_fi w1 (n_v vs 0) 9 := congrArg v_iv (s1.2 _ _)
  have fe_0_6_2 : w_fi w1 (n_v vs 0) 6 = w_fi w2 (n_v vs 0) 6 := by show v_iv (w_fd _ _ _) = v_iv (w_fd _ _ _); rw [s2.2, if_neg (fun e => absurd e.2 (by decide))]
  have fe_0_7_2 : w_fi w1 (n_v vs 0) 7 = w_fi w2 (n_v vs 0) 7 := by show v_iv (w_fd _ _ _) = v_iv (w_fd _ _ _); rw [s2.2, if_neg (fun e => absurd e.2 (by decide))]
  have fe_0_8_2 : w_fi w1 (n_v vs 0) 8 = w_fi w2 (n_v vs 0) 8 := by show v_iv (w_fd _ _ _) = v_iv (w_fd _ _ _); rw [s2.2, if_neg (fun e => absurd e.2 (by decide))]
  have fe_0_9_2 : w_fi w1 (n_v vs 0) 9 = w_fi w2 (n_v vs 0) 9 := by show v_iv (w_fd _ _ _) = v_iv (w_fd _ _ _); rw [s2.2, if_neg (fun e => absurd e.2 (by decide))]
  have fe_0_6_3 : w_fi w2 (n_v vs 0) 6 = w_fi w3 (n_v vs 0) 6 := by show v_iv (w_fd _ _ _) = v_iv (w_fd _ _ _); rw [s3.2, if_neg (fun e => absurd e.2 (by decide))]
  have fe_0_7_3 : w_fi w2 (n_v vs 0) 7 = w_fi w3 (n_v vs 0) 7 := by show v_iv (w_fd _ _ _) = v_iv (w_fd _ _ _); rw [s3.2, if_neg (fun e => absurd e.2 (by decide))]
  have fe_0_8_3 : w_fi w2 (n_v vs 0) 8 = w_fi w3 (n_v vs 0) 8 := by show v_iv (w_fd _ _ _) = v_iv (w_fd _ _ _); rw [s3.2, if_neg (fun e => absurd e.2 (by decide))]
  have fe_0_9_3 : w_fi w2 (n_v vs 0) 9 = w_fi w3 (n_v vs 0) 9 := by show v_iv (w_fd _ _ _) = v_iv (w_fd _ _ _); rw [s3.2, if_neg (fun e => absurd e.2 (by decide))]
  have kz_0_6 : 0 ≤ w_fi ws (n_v vs 0) 6 ∧ w_fi ws (n_v vs 0) 6 ≤ 2000 := tv_rng (th_fd hD hth r0 (g := GG_8) rfl (k := 6) (t := (0, 0, 2000, [])) rfl rfl)
  have kz_0_7 : (-128) ≤ w_fi ws (n_v vs 0) 7 ∧ w_fi ws (n_v vs 0) 7 ≤ 127 := tv_rng (th_fd hD hth r0 (g := GG_8) rfl (k := 7) (t := (0, -128, 127, [])) rfl rfl)
  have kz_0_8 : 0 ≤ w_fi ws (n_v vs 0) 8 ∧ w_fi ws (n_v vs 0) 8 ≤ 2000 := tv_rng (th_fd hD hth r0 (g := GG_8) rfl (k := 8) (t := (0, 0, 2000, [])) rfl rfl)
  have kz_0_9 : (-2147483648) ≤ w_fi ws (n_v vs 0) 9 ∧ w_fi ws (n_v vs 0) 9 ≤ 1000000 := tv_rng (th_fd hD hth r0 (g := GG_8) rfl (k := 9) (t := (0, -2147483648, 1000000, [])) rfl rfl)
  have kv : (-2147483648) ≤ w_fi ws (n_v vs 0) 9 ∧ w_fi ws (n_v vs 0) 9 ≤ 1000000 := tv_rng (th_fd hD hth r0 (g := GG_8) rfl (k := 9) (t := (0, -2147483648, 1000000, [])) rfl rfl)
  obtain ⟨x, ex, hx⟩ := iv_ex (ta := ta) (lo := (-2147483648)) (hi := 1000000) (z := w_fi ws (n_v vs 0) 9) (by omega) (by omega) (by decide) (by decide)
  have ex2 : v_iv (Value.int x) = w_fi ws (n_v vs 0) 9 := ex
  have ex3 : (-2147483648) ≤ v_iv (Value.int x) ∧ v_iv (Value.int x) ≤ 1000000 := tv_rng hx
  have e_0 : n_v (vs ++ [Value.int x]) 0 = n_v vs 0 := n_v_old (by rw [hl]; decide)
  have e_24 : n_v (vs ++ [Value.int x]) 24 = Value.int x := n_v_new hl
  have nf0 : fc_1 (20, [0, 24], [30, 0, 1, 1, 9, -1, 0, 0]) ws (vs ++ [Value.int x]) := by
    refine ⟨fun n hn => ?_, ?_⟩
    · have hn : n ∈ [0, 24] := hn
      rw [List.length_append, hl]
      simp only [List.mem_cons, List.not_mem_nil, or_false] at hn
      show n < 24 + 1; omega
    · show 1 * w_fi ws (n_v (vs ++ [Value.int x]) 0) 9 + ((-1) * v_iv (n_v (vs ++ [Value.int x]) 24) + 0) ≤ 0
      rw [e_0]
      rw [e_24]
      omega
  have nf1 : fc_1 (20, [0, 24], [30, 0, -1, 1, 9, 1, 0, 0]) ws (vs ++ [Value.int x]) := by
    refine ⟨fun n hn => ?_, ?_⟩
    · have hn : n ∈ [0, 24] := hn
      rw [List.length_append, hl]
      simp only [List.mem_cons, List.not_mem_nil, or_false] at hn
      show n < 24 + 1; omega
    · show (-1) * w_fi ws (n_v (vs ++ [Value.int x]) 0) 9 + (1 * v_iv (n_v (vs ++ [Value.int x]) 24) + 0) ≤ 0
      rw [e_0]
      rw [e_24]
      omega
  exact ⟨fun q hq => (by cases hq), [Value.int x], ag_one hx, List.forall_mem_cons.mpr ⟨⟨by decide, nf0⟩, List.forall_mem_cons.mpr ⟨⟨by decide, nf1⟩, (fun _ h => (by cases h))⟩⟩, (fun _ h => (by cases h))⟩
def n_Re_readGroup_an : List an_T := []
def t_Re_readGroup_ct : ct_L := [(1, 57, e_Re_advance), (1, 107, e_Re_isName), (1, 113, e_Re_fail), (348, 150, e_acp_89)]
set_option maxRecDepth 100000 in
theorem c_Re_readGroup {l : Launch} {D : va_G} {kA : Nat → ClassId} (h_Re_advance : ct_ok l D kA GG y_Re_advance z_Re_advance e_Re_advance) (h_Re_fail : ct_ok l D kA GG y_Re_fail z_Re_fail e_Re_fail) (h_Re_isName : ct_ok l D kA GG y_Re_isName z_Re_isName e_Re_isName) : ct_ok l D kA GG y_Re_readGroup z_Re_readGroup e_Re_readGroup := chk_all_ok (FT := [(9, 8, 0), (28, 8, 4), (35, 8, 6), (38, 8, 7), (41, 8, 8), (47, 8, 10), (51, 8, 11), (138, 3, 2), (141, 3, 11), (144, 3, 13), (147, 3, 12)]) (PT := [(51, 8, 11, .int), (138, 3, 2, .int)]) (CT := t_Re_readGroup_ct) (KT := []) (NT := []) (AN := n_Re_readGroup_an) (OT := [o_Re_readGroup_0, o_Re_readGroup_1, o_Re_readGroup_2, o_Re_readGroup_3]) 0 400 (List.forall_mem_cons.mpr ⟨oo_Re_readGroup_0, List.forall_mem_cons.mpr ⟨oo_Re_readGroup_1, List.forall_mem_cons.mpr ⟨oo_Re_readGroup_2, List.forall_mem_cons.mpr ⟨oo_Re_readGroup_3, List.forall_mem_nil _⟩⟩⟩⟩) (by decide +kernel) ⟨List.forall_mem_cons.mpr ⟨gf_Re_9, List.forall_mem_cons.mpr ⟨gf_Re_28, List.forall_mem_cons.mpr ⟨gf_Re_35, List.forall_mem_cons.mpr ⟨gf_Re_38, List.forall_mem_cons.mpr ⟨gf_Re_41, List.forall_mem_cons.mpr ⟨gf_Re_47, List.forall_mem_cons.mpr ⟨gf_Re_51, List.forall_mem_cons.mpr ⟨gf_Re_138, List.forall_mem_cons.mpr ⟨gf_Re_141, List.forall_mem_cons.mpr ⟨gf_Re_144, List.forall_mem_cons.mpr ⟨gf_Re_147, List.forall_mem_nil _⟩⟩⟩⟩⟩⟩⟩⟩⟩⟩⟩, List.forall_mem_cons.mpr ⟨pf_Re_51, List.forall_mem_cons.mpr ⟨pf_Re_138, List.forall_mem_nil _⟩⟩, List.forall_mem_cons.mpr ⟨cl_virtual (y := y_Re_advance) (ci := 8) rfl rfl ⟨_, _, rfl⟩ (by decide +kernel) h_Re_advance wm_645 wm_2 wm_642 wm_644 wv_1_0 ⟨by decide, by decide, by decide +kernel⟩ (by decide), List.forall_mem_cons.mpr ⟨cl_virtual (y := y_Re_isName) (ci := 8) rfl rfl ⟨_, _, rfl⟩ (by decide +kernel) h_Re_isName wm_726 wm_2 wm_723 wm_725 wv_1_4 ⟨by decide, by decide, by decide +kernel⟩ (by decide), List.forall_mem_cons.mpr ⟨cl_virtual (y := y_Re_fail) (ci := 8) rfl rfl ⟨_, _, rfl⟩ (by decide +kernel) h_Re_fail wm_731 wm_2 wm_728 wm_730 wv_1_5 ⟨by decide, by decide, by decide +kernel⟩ (by decide), List.forall_mem_cons.mpr ⟨cl_copy rfl rfl (by decide) (by decide) (by decide) wm_760 wm_750 wm_749 wm_15, List.forall_mem_nil _⟩⟩⟩⟩, List.forall_mem_nil _, List.forall_mem_nil _, GG_pl⟩ (by decide +kernel)
def o_Re_readNode_0 : or_T := (1, 1, [(0, (2, 0, 0, [8]))], [], [], [(0, -2147483648, 1000000, [])], [(20, [0, 1], [30, 0, 1, 1, 9, -1, 0, 0]), (20, [0, 1], [30, 0, -1, 1, 9, 1, 0, 0])], [], [])
theorem oo_Re_readNode_0 {kA : Nat → ClassId} : or_ok kA GG o_Re_readNode_0 := by
  intro A ta ws vs hD hth hl hk hds hf
  have hl : vs.length = 1 := hl
  have hk : ∀ q ∈ ([(0, (2, 0, 0, [8]))] : List (Nat × tv_T)), tv_ok ta q.2 (n_v vs q.1) := hk
  obtain ⟨t0, hk⟩ := List.forall_mem_cons.mp hk
  have t0 : tv_ok ta (2, 0, 0, [8]) (n_v vs 0) := t0
  have r0 : ta (v_ad (n_v vs 0)) = some 8 := tv_rg t0
  have kz_0_9 : (-2147483648) ≤ w_fi ws (n_v vs 0) 9 ∧ w_fi ws (n_v vs 0) 9 ≤ 1000000 := tv_rng (th_fd hD hth r0 (g := GG_8) rfl (k := 9) (t := (0, -2147483648, 1000000, [])) rfl rfl)
  have kv : (-2147483648) ≤ w_fi ws (n_v vs 0) 9 ∧ w_fi ws (n_v vs 0) 9 ≤ 1000000 := tv_rng (th_fd hD hth r0 (g := GG_8) rfl (k := 9) (t := (0, -2147483648, 1000000, [])) rfl rfl)
  obtain ⟨x, ex, hx⟩ := iv_ex (ta := ta) (lo := (-2147483648)) (hi := 1000000) (z := w_fi ws (n_v vs 0) 9) (by omega) (by omega) (by decide) (by decide)
  have ex2 : v_iv (Value.int x) = w_fi ws (n_v vs 0) 9 := ex
  have ex3 : (-2147483648) ≤ v_iv (Value.int x) ∧ v_iv (Value.int x) ≤ 1000000 := tv_rng hx
  have e_0 : n_v (vs ++ [Value.int x]) 0 = n_v vs 0 := n_v_old (by rw [hl]; decide)
  have e_1 : n_v (vs ++ [Value.int x]) 1 = Value.int x := n_v_new hl
  have nf0 : fc_1 (20, [0, 1], [30, 0, 1, 1, 9, -1, 0, 0]) ws (vs ++ [Value.int x]) := by
    refine ⟨fun n hn => ?_, ?_⟩
    · have hn : n ∈ [0, 1] := hn
      rw [List.length_append, hl]
      simp only [List.mem_cons, List.not_mem_nil, or_false] at hn
      show n < 1 + 1; omega
    · show 1 * w_fi ws (n_v (vs ++ [Value.int x]) 0) 9 + ((-1) * v_iv (n_v (vs ++ [Value.int x]) 1) + 0) ≤ 0
      rw [e_0]
      rw [e_1]
      omega
  have nf1 : fc_1 (20, [0, 1], [30, 0, -1, 1, 9, 1, 0, 0]) ws (vs ++ [Value.int x]) := by
    refine ⟨fun n hn => ?_, ?_⟩
    · have hn : n ∈ [0, 1] := hn
      rw [List.length_append, hl]
      simp only [List.mem_cons, List.not_mem_nil, or_false] at hn
      show n < 1 + 1; omega
    · show (-1) * w_fi ws (n_v (vs ++ [Value.int x]) 0) 9 + (1 * v_iv (n_v (vs ++ [Value.int x]) 1) + 0) ≤ 0
      rw [e_0]
      rw [e_1]
      omega
  exact ⟨fun q hq => (by cases hq), [Value.int x], ag_one hx, List.forall_mem_cons.mpr ⟨⟨by decide, nf0⟩, List.forall_mem_cons.mpr ⟨⟨by decide, nf1⟩, (fun _ h => (by cases h))⟩⟩, (fun _ h => (by cases h))⟩
def o_Re_readNode_1 : or_T := (18, 3, [(0, (2, 0, 0, [8])), (1, (0, -2147483648, 1000000, [])), (2, (0, 1, 1, []))], [(8, [2], [1]), (20, [0, 0, 1], [31, 1, 3, 1, 1, 7, 0, 1, 1, 9, -1, 0, 0]), (20, [0, 0, 1], [31, 1, 3, 1, 1, 7, 0, -1, 1, 9, 1, 0, 0]), (20, [0, 0, 2], [30, 2008, 1, 1, 6, -1, 1, 8, 2000, 0, 0]), (20, [0, 0, 2], [30, 2000, 1, 1, 8, -1, 1, 6, 2001, 0, 0])], [], [], [(20, [0, 0], [30, 8, 1, 1, 6, -1, 1, 8]), (20, [0, 0], [30, 0, -1, 1, 6, 1, 1, 8])], [], [])
theorem oo_Re_readNode_1 {kA : Nat → ClassId} : or_ok kA GG o_Re_readNode_1 := by
  intro A ta ws vs hD hth hl hk hds hf
  have hl : vs.length = 3 := hl
  have hk : ∀ q ∈ ([(0, (2, 0, 0, [8])), (1, (0, -2147483648, 1000000, [])), (2, (0, 1, 1, []))] : List (Nat × tv_T)), tv_ok ta q.2 (n_v vs q.1) := hk
  obtain ⟨t0, hk⟩ := List.forall_mem_cons.mp hk
  have t0 : tv_ok ta (2, 0, 0, [8]) (n_v vs 0) := t0
  have r0 : ta (v_ad (n_v vs 0)) = some 8 := tv_rg t0
  obtain ⟨t1, hk⟩ := List.forall_mem_cons.mp hk
  have t1 : tv_ok ta (0, -2147483648, 1000000, []) (n_v vs 1) := t1
  have k1 : (-2147483648) ≤ v_iv (n_v vs 1) ∧ v_iv (n_v vs 1) ≤ 1000000 := tv_rng t1
  obtain ⟨t2, hk⟩ := List.forall_mem_cons.mp hk
  have t2 : tv_ok ta (0, 1, 1, []) (n_v vs 2) := t2
  have k2 : 1 ≤ v_iv (n_v vs 2) ∧ v_iv (n_v vs 2) ≤ 1 := tv_rng t2
  have hf : fc_ok [(8, [2], [1]), (20, [0, 0, 1], [31, 1, 3, 1, 1, 7, 0, 1, 1, 9, -1, 0, 0]), (20, [0, 0, 1], [31, 1, 3, 1, 1, 7, 0, -1, 1, 9, 1, 0, 0]), (20, [0, 0, 2], [30, 2008, 1, 1, 6, -1, 1, 8, 2000, 0, 0]), (20, [0, 0, 2], [30, 2000, 1, 1, 8, -1, 1, 6, 2001, 0, 0])] ta ws vs := hf
  obtain ⟨f0, hf⟩ := fc_un (by decide) hf
  have f0 : v_iv (n_v vs 2) ≠ 0 := f0
  obtain ⟨f1, hf⟩ := fc_un (by decide) hf
  have f1 : (1 * w_fi ws (n_v vs 0) 7 + 0 ≤ 3) ∨ (1 * w_fi ws (n_v vs 0) 9 + ((-1) * v_iv (n_v vs 1) + 0) ≤ 0) := f1
  obtain ⟨f2, hf⟩ := fc_un (by decide) hf
  have f2 : (1 * w_fi ws (n_v vs 0) 7 + 0 ≤ 3) ∨ ((-1) * w_fi ws (n_v vs 0) 9 + (1 * v_iv (n_v vs 1) + 0) ≤ 0) := f2
  obtain ⟨f3, hf⟩ := fc_un (by decide) hf
  have f3 : 1 * w_fi ws (n_v vs 0) 6 + ((-1) * w_fi ws (n_v vs 0) 8 + (2000 * v_iv (n_v vs 2) + 0)) ≤ 2008 := f3
  obtain ⟨f4, hf⟩ := fc_un (by decide) hf
  have f4 : 1 * w_fi ws (n_v vs 0) 8 + ((-1) * w_fi ws (n_v vs 0) 6 + (2001 * v_iv (n_v vs 2) + 0)) ≤ 2000 := f4
  have kz_0_6 : 0 ≤ w_fi ws (n_v vs 0) 6 ∧ w_fi ws (n_v vs 0) 6 ≤ 2000 := tv_rng (th_fd hD hth r0 (g := GG_8) rfl (k := 6) (t := (0, 0, 2000, [])) rfl rfl)
  have kz_0_7 : (-128) ≤ w_fi ws (n_v vs 0) 7 ∧ w_fi ws (n_v vs 0) 7 ≤ 127 := tv_rng (th_fd hD hth r0 (g := GG_8) rfl (k := 7) (t := (0, -128, 127, [])) rfl rfl)
  have kz_0_8 : 0 ≤ w_fi ws (n_v vs 0) 8 ∧ w_fi ws (n_v vs 0) 8 ≤ 2000 := tv_rng (th_fd hD hth r0 (g := GG_8) rfl (k := 8) (t := (0, 0, 2000, [])) rfl rfl)
  have kz_0_9 : (-2147483648) ≤ w_fi ws (n_v vs 0) 9 ∧ w_fi ws (n_v vs 0) 9 ≤ 1000000 := tv_rng (th_fd hD hth r0 (g := GG_8) rfl (k := 9) (t := (0, -2147483648, 1000000, [])) rfl rfl)
  have nf0 : fc_1 (20, [0, 0], [30, 8, 1, 1, 6, -1, 1, 8]) ws (vs) := by
    refine ⟨fun n hn => ?_, ?_⟩
    · have hn : n ∈ [0, 0] := hn
      rw [hl]
      simp only [List.mem_cons, List.not_mem_nil, or_false] at hn
      show n < 3; omega
    · show 1 * w_fi ws (n_v vs 0) 6 + ((-1) * w_fi ws (n_v vs 0) 8 + 0) ≤ 8
      omega
  have nf1 : fc_1 (20, [0, 0], [30, 0, -1, 1, 6, 1, 1, 8]) ws (vs) := by
    refine ⟨fun n hn => ?_, ?_⟩
    · have hn : n ∈ [0, 0] := hn
      rw [hl]
      simp only [List.mem_cons, List.not_mem_nil, or_false] at hn
      show n < 3; omega
    · show (-1) * w_fi ws (n_v vs 0) 6 + (1 * w_fi ws (n_v vs 0) 8 + 0) ≤ 0
      omega
  refine ⟨(fun _ h => (by cases h)), [], trivial, ?_, (fun _ h => (by cases h))⟩
  rw [List.append_nil]
  exact List.forall_mem_cons.mpr ⟨⟨by decide, nf0⟩, List.forall_mem_cons.mpr ⟨⟨by decide, nf1⟩, (fun _ h => (by cases h))⟩⟩
def o_Re_readNode_2 : or_T := (34, 5, [(0, (2, 0, 0, [8])), (1, (0, -2147483648, 1000000, [])), (2, (0, 1, 1, []))], [(20, [0, 0], [30, 8, 1, 1, 6, -1, 1, 8]), (20, [0, 0], [30, 0, -1, 1, 6, 1, 1, 8]), (20, [0, 0, 1], [31, 1, 3, 1, 1, 7, 0, 1, 1, 9, -1, 0, 0]), (20, [0, 0, 1], [31, 1, 3, 1, 1, 7, 0, -1, 1, 9, 1, 0, 0]), (20, [0, 0, 2], [30, 2008, 1, 1, 6, -1, 1, 8, 2000, 0, 0]), (20, [0, 0, 2], [30, 2000, 1, 1, 8, -1, 1, 6, 2001, 0, 0]), (102, [2], [580682876954083328, 3000]), (8, [2], [1])], [], [(0, -2147483648, 1000000, [])], [(20, [0, 5], [30, 0, 1, 1, 9, -1, 0, 0]), (20, [0, 5], [30, 0, -1, 1, 9, 1, 0, 0])], [], [])
theorem oo_Re_readNode_2 {kA : Nat → ClassId} : or_ok kA GG o_Re_readNode_2 := by
  intro A ta ws vs hD hth hl hk hds hf
  have hl : vs.length = 5 := hl
  have hk : ∀ q ∈ ([(0, (2, 0, 0, [8])), (1, (0, -2147483648, 1000000, [])), (2, (0, 1, 1, []))] : List (Nat × tv_T)), tv_ok ta q.2 (n_v vs q.1) := hk
  obtain ⟨t0, hk⟩ := List.forall_mem_cons.mp hk
  have t0 : tv_ok ta (2, 0, 0, [8]) (n_v vs 0) := t0
  have r0 : ta (v_ad (n_v vs 0)) = some 8 := tv_rg t0
  obtain ⟨t1, hk⟩ := List.forall_mem_cons.mp hk
  have t1 : tv_ok ta (0, -2147483648, 1000000, []) (n_v vs 1) := t1
  have k1 : (-2147483648) ≤ v_iv (n_v vs 1) ∧ v_iv (n_v vs 1) ≤ 1000000 := tv_rng t1
  obtain ⟨t2, hk⟩ := List.forall_mem_cons.mp hk
  have t2 : tv_ok ta (0, 1, 1, []) (n_v vs 2) := t2
  have k2 : 1 ≤ v_iv (n_v vs 2) ∧ v_iv (n_v vs 2) ≤ 1 := tv_rng t2
  have hf : fc_ok [(20, [0, 0], [30, 8, 1, 1, 6, -1, 1, 8]), (20, [0, 0], [30, 0, -1, 1, 6, 1, 1, 8]), (20, [0, 0, 1], [31, 1, 3, 1, 1, 7, 0, 1, 1, 9, -1, 0, 0]), (20, [0, 0, 1], [31, 1, 3, 1, 1, 7, 0, -1, 1, 9, 1, 0, 0]), (20, [0, 0, 2], [30, 2008, 1, 1, 6, -1, 1, 8, 2000, 0, 0]), (20, [0, 0, 2], [30, 2000, 1, 1, 8, -1, 1, 6, 2001, 0, 0]), (102, [2], [580682876954083328, 3000]), (8, [2], [1])] ta ws vs := hf
  obtain ⟨f0, hf⟩ := fc_un (by decide) hf
  have f0 : 1 * w_fi ws (n_v vs 0) 6 + ((-1) * w_fi ws (n_v vs 0) 8 + 0) ≤ 8 := f0
  obtain ⟨f1, hf⟩ := fc_un (by decide) hf
  have f1 : (-1) * w_fi ws (n_v vs 0) 6 + (1 * w_fi ws (n_v vs 0) 8 + 0) ≤ 0 := f1
  obtain ⟨f2, hf⟩ := fc_un (by decide) hf
  have f2 : (1 * w_fi ws (n_v vs 0) 7 + 0 ≤ 3) ∨ (1 * w_fi ws (n_v vs 0) 9 + ((-1) * v_iv (n_v vs 1) + 0) ≤ 0) := f2
  obtain ⟨f3, hf⟩ := fc_un (by decide) hf
  have f3 : (1 * w_fi ws (n_v vs 0) 7 + 0 ≤ 3) ∨ ((-1) * w_fi ws (n_v vs 0) 9 + (1 * v_iv (n_v vs 1) + 0) ≤ 0) := f3
  obtain ⟨f4, hf⟩ := fc_un (by decide) hf
  have f4 : 1 * w_fi ws (n_v vs 0) 6 + ((-1) * w_fi ws (n_v vs 0) 8 + (2000 * v_iv (n_v vs 2) + 0)) ≤ 2008 := f4
  obtain ⟨f5, hf⟩ := fc_un (by decide) hf
  have f5 : 1 * w_fi ws (n_v vs 0) 8 + ((-1) * w_fi ws (n_v vs 0) 6 + (2001 * v_iv (n_v vs 2) + 0)) ≤ 2000 := f5
  obtain ⟨ta1, w1, le1, ⟨_, s1⟩, hf⟩ := fc_us (by decide) hf
  obtain ⟨f7, hf⟩ := fc_un (by decide) hf
  have f7 : v_iv (n_v vs 2) ≠ 0 := f7
  have kz_0_6 : 0 ≤ w_fi ws (n_v vs 0) 6 ∧ w_fi ws (n_v vs 0) 6 ≤ 2000 := tv_rng (th_fd hD hth r0 (g := GG_8) rfl (k := 6) (t := (0, 0, 2000, [])) rfl rfl)
  have kz_0_7 : (-128) ≤ w_fi ws (n_v vs 0) 7 ∧ w_fi ws (n_v vs 0) 7 ≤ 127 := tv_rng (th_fd hD hth r0 (g := GG_8) rfl (k := 7) (t := (0, -128, 127, [])) rfl rfl)
  have kz_0_8 : 0 ≤ w_fi ws (n_v vs 0) 8 ∧ w_fi ws (n_v vs 0) 8 ≤ 2000 := tv_rng (th_fd hD hth r0 (g := GG_8) rfl (k := 8) (t := (0, 0, 2000, [])) rfl rfl)
  have kz_0_9 : (-2147483648) ≤ w_fi ws (n_v vs 0) 9 ∧ w_fi ws (n_v vs 0) 9 ≤ 1000000 := tv_rng (th_fd hD hth r0 (g := GG_8) rfl (k := 9) (t := (0, -2147483648, 1000000, [])) rfl rfl)
  have kv : (-2147483648) ≤ w_fi ws (n_v vs 0) 9 ∧ w_fi ws (n_v vs 0) 9 ≤ 1000000 := tv_rng (th_fd hD hth r0 (g := GG_8) rfl (k := 9) (t := (0, -2147483648, 1000000, [])) rfl rfl)
  obtain ⟨x, ex, hx⟩ := iv_ex (ta := ta) (lo := (-2147483648)) (hi := 1000000) (z := w_fi ws (n_v vs 0) 9) (by omega) (by omega) (by decide) (by decide)
  have ex2 : v_iv (Value.int x) = w_fi ws (n_v vs 0) 9 := ex
  have ex3 : (-2147483648) ≤ v_iv (Value.int x) ∧ v_iv (Value.int x) ≤ 1000000 := tv_rng hx
  have e_0 : n_v (vs ++ [Value.int x]) 0 = n_v vs 0 := n_v_old (by rw [hl]; decide)
  have e_5 : n_v (vs ++ [Value.int x]) 5 = Value.int x := n_v_new hl
  have nf0 : fc_1 (20, [0, 5], [30, 0, 1, 1, 9, -1, 0, 0]) ws (vs ++ [Value.int x]) := by
    refine ⟨fun n hn => ?_, ?_⟩
    · have hn : n ∈ [0, 5] := hn
      rw [List.length_append, hl]
      simp only [List.mem_cons, List.not_mem_nil, or_false] at hn
      show n < 5 + 1; omega
    · show 1 * w_fi ws (n_v (vs ++ [Value.int x]) 0) 9 + ((-1) * v_iv (n_v (vs ++ [Value.int x]) 5) + 0) ≤ 0
      rw [e_0]
      rw [e_5]
      omega
  have nf1 : fc_1 (20, [0, 5], [30, 0, -1, 1, 9, 1, 0, 0]) ws (vs ++ [Value.int x]) := by
    refine ⟨fun n hn => ?_, ?_⟩
    · have hn : n ∈ [0, 5] := hn
      rw [List.length_append, hl]
      simp only [List.mem_cons, List.not_mem_nil, or_false] at hn
      show n < 5 + 1; omega
    · show (-1) * w_fi ws (n_v (vs ++ [Value.int x]) 0) 9 + (1 * v_iv (n_v (vs ++ [Value.int x]) 5) + 0) ≤ 0
      rw [e_0]
      rw [e_5]
      omega
  exact ⟨fun q hq => (by cases hq), [Value.int x], ag_one hx, List.forall_mem_cons.mpr ⟨⟨by decide, nf0⟩, List.forall_mem_cons.mpr ⟨⟨by decide, nf1⟩, (fun _ h => (by cases h))⟩⟩, (fun _ h => (by cases h))⟩
def o_Re_readNode_3 : or_T := (71, 14, [(0, (2, 0, 0, [8])), (9, (0, 99, 99, [])), (10, (0, 1, 1, [])), (13, (0, -2147483648, 1000000, []))], [(9, [13, 0], [9]), (8, [10], [1]), (20, [10, 0, 9], [31, 1, 0, 1, 0, 0, 0, 1, 1, 9, -1, 0, 0]), (20, [10, 0], [31, 1, 0, 1, 0, 0, -1, -1, 1, 9])], [(13, (0, 0, 99, []))], [], [], [], [])
theorem oo_Re_readNode_3 {kA : Nat → ClassId} : or_ok kA GG o_Re_readNode_3 := by
  intro A ta ws vs hD hth hl hk hds hf
  have hl : vs.length = 14 := hl
  have hk : ∀ q ∈ ([(0, (2, 0, 0, [8])), (9, (0, 99, 99, [])), (10, (0, 1, 1, [])), (13, (0, -2147483648, 1000000, []))] : List (Nat × tv_T)), tv_ok ta q.2 (n_v vs q.1) := hk
  obtain ⟨t0, hk⟩ := List.forall_mem_cons.mp hk
  have t0 : tv_ok ta (2, 0, 0, [8]) (n_v vs 0) := t0
  have r0 : ta (v_ad (n_v vs 0)) = some 8 := tv_rg t0
  obtain ⟨t9, hk⟩ := List.forall_mem_cons.mp hk
  have t9 : tv_ok ta (0, 99, 99, []) (n_v vs 9) := t9
  have k9 : 99 ≤ v_iv (n_v vs 9) ∧ v_iv (n_v vs 9) ≤ 99 := tv_rng t9
  obtain ⟨t10, hk⟩ := List.forall_mem_cons.mp hk
  have t10 : tv_ok ta (0, 1, 1, []) (n_v vs 10) := t10
  have k10 : 1 ≤ v_iv (n_v vs 10) ∧ v_iv (n_v vs 10) ≤ 1 := tv_rng t10
  obtain ⟨t13, hk⟩ := List.forall_mem_cons.mp hk
  have t13 : tv_ok ta (0, -2147483648, 1000000, []) (n_v vs 13) := t13
  have k13 : (-2147483648) ≤ v_iv (n_v vs 13) ∧ v_iv (n_v vs 13) ≤ 1000000 := tv_rng t13
  have hf : fc_ok [(9, [13, 0], [9]), (8, [10], [1]), (20, [10, 0, 9], [31, 1, 0, 1, 0, 0, 0, 1, 1, 9, -1, 0, 0]), (20, [10, 0], [31, 1, 0, 1, 0, 0, -1, -1, 1, 9])] ta ws vs := hf
  obtain ⟨f0, hf⟩ := fc_un (by decide) hf
  have f0 : n_v vs 13 = w_fd ws (v_ad (n_v vs 0)) 9 := f0
  obtain ⟨f1, hf⟩ := fc_un (by decide) hf
  have f1 : v_iv (n_v vs 10) ≠ 0 := f1
  obtain ⟨f2, hf⟩ := fc_un (by decide) hf
  have f2 : (1 * v_iv (n_v vs 10) + 0 ≤ 0) ∨ (1 * w_fi ws (n_v vs 0) 9 + ((-1) * v_iv (n_v vs 9) + 0) ≤ 0) := f2
  obtain ⟨f3, hf⟩ := fc_un (by decide) hf
  have f3 : (1 * v_iv (n_v vs 10) + 0 ≤ 0) ∨ ((-1) * w_fi ws (n_v vs 0) 9 + 0 ≤ (-1)) := f3
  have g0 : v_iv (n_v vs 13) = w_fi ws (n_v vs 0) 9 := congrArg v_iv f0
  have kz_0_9 : (-2147483648) ≤ w_fi ws (n_v vs 0) 9 ∧ w_fi ws (n_v vs 0) 9 ≤ 1000000 := tv_rng (th_fd hD hth r0 (g := GG_8) rfl (k := 9) (t := (0, -2147483648, 1000000, [])) rfl rfl)
  have rf13 : tv_ok ta (0, 0, 99, []) (n_v vs 13) := tv_in t13 (by omega) (by omega)
  refine ⟨List.forall_mem_cons.mpr ⟨rf13, (fun _ h => (by cases h))⟩, [], trivial, ?_, (fun _ h => (by cases h))⟩
  rw [List.append_nil]
  exact (fun _ h => (by cases h))
def o_Re_readNode_4 : or_T := (73, 14, [(0, (2, 0, 0, [8])), (9, (0, 99, 99, [])), (10, (0, 1, 1, [])), (11, (2, 0, 0, [3])), (12, (2, 0, 0, [50])), (13, (0, 0, 99, []))], [(20, [10, 0, 9], [31, 1, 0, 1, 0, 0, 0, 1, 1, 9, -1, 0, 0]), (20, [10, 0], [31, 1, 0, 1, 0, 0, -1, -1, 1, 9]), (100, [12, 3, 13], []), (9, [13, 0], [9]), (9, [12, 11], [5]), (8, [10], [1]), (20, [10, 0, 9], [31, 1, 0, 1, 0, 0, 0, 1, 1, 9, -1, 0, 0]), (20, [10, 0], [31, 1, 0, 1, 0, 0, -1, -1, 1, 9])], [], [(0, -2147483648, 1000000, [])], [(20, [0, 14], [30, 0, 1, 1, 9, -1, 0, 0]), (20, [0, 14], [30, 0, -1, 1, 9, 1, 0, 0])], [], [])
theorem oo_Re_readNode_4 {kA : Nat → ClassId} : or_ok kA GG o_Re_readNode_4 := by
  intro A ta ws vs hD hth hl hk hds hf
  have hl : vs.length = 14 := hl
  have hk : ∀ q ∈ ([(0, (2, 0, 0, [8])), (9, (0, 99, 99, [])), (10, (0, 1, 1, [])), (11, (2, 0, 0, [3])), (12, (2, 0, 0, [50])), (13, (0, 0, 99, []))] : List (Nat × tv_T)), tv_ok ta q.2 (n_v vs q.1) := hk
  obtain ⟨t0, hk⟩ := List.forall_mem_cons.mp hk
  have t0 : tv_ok ta (2, 0, 0, [8]) (n_v vs 0) := t0
  have r0 : ta (v_ad (n_v vs 0)) = some 8 := tv_rg t0
  obtain ⟨t9, hk⟩ := List.forall_mem_cons.mp hk
  have t9 : tv_ok ta (0, 99, 99, []) (n_v vs 9) := t9
  have k9 : 99 ≤ v_iv (n_v vs 9) ∧ v_iv (n_v vs 9) ≤ 99 := tv_rng t9
  obtain ⟨t10, hk⟩ := List.forall_mem_cons.mp hk
  have t10 : tv_ok ta (0, 1, 1, []) (n_v vs 10) := t10
  have k10 : 1 ≤ v_iv (n_v vs 10) ∧ v_iv (n_v vs 10) ≤ 1 := tv_rng t10
  obtain ⟨t11, hk⟩ := List.forall_mem_cons.mp hk
  have t11 : tv_ok ta (2, 0, 0, [3]) (n_v vs 11) := t11
  have r11 : ta (v_ad (n_v vs 11)) = some 3 := tv_rg t11
  obtain ⟨t12, hk⟩ := List.forall_mem_cons.mp hk
  have t12 : tv_ok ta (2, 0, 0, [50]) (n_v vs 12) := t12
  have r12 : ta (v_ad (n_v vs 12)) = some 50 := tv_rg t12
  obtain ⟨t13, hk⟩ := List.forall_mem_cons.mp hk
  have t13 : tv_ok ta (0, 0, 99, []) (n_v vs 13) := t13
  have k13 : 0 ≤ v_iv (n_v vs 13) ∧ v_iv (n_v vs 13) ≤ 99 := tv_rng t13
  have hf : fc_ok [(20, [10, 0, 9], [31, 1, 0, 1, 0, 0, 0, 1, 1, 9, -1, 0, 0]), (20, [10, 0], [31, 1, 0, 1, 0, 0, -1, -1, 1, 9]), (100, [12, 3, 13], []), (9, [13, 0], [9]), (9, [12, 11], [5]), (8, [10], [1]), (20, [10, 0, 9], [31, 1, 0, 1, 0, 0, 0, 1, 1, 9, -1, 0, 0]), (20, [10, 0], [31, 1, 0, 1, 0, 0, -1, -1, 1, 9])] ta ws vs := hf
  obtain ⟨f0, hf⟩ := fc_un (by decide) hf
  have f0 : (1 * v_iv (n_v vs 10) + 0 ≤ 0) ∨ (1 * w_fi ws (n_v vs 0) 9 + ((-1) * v_iv (n_v vs 9) + 0) ≤ 0) := f0
  obtain ⟨f1, hf⟩ := fc_un (by decide) hf
  have f1 : (1 * v_iv (n_v vs 10) + 0 ≤ 0) ∨ ((-1) * w_fi ws (n_v vs 0) 9 + 0 ≤ (-1)) := f1
  obtain ⟨ta1, w1, le1, ⟨_, s1⟩, hf⟩ := fc_us (by decide) hf
  have s1 : (∀ b j, w_el ws b j = if b = v_ad (n_v vs 12) ∧ j = (v_iv (n_v vs 3)).toNat then v_iv (n_v vs 13) else w_el w1 b j) ∧ ∀ b k, w_fd ws b k = w_fd w1 b k := s1
  obtain ⟨f3, hf⟩ := fc_un (by decide) hf
  have f3 : n_v vs 13 = w_fd w1 (v_ad (n_v vs 0)) 9 := f3
  obtain ⟨f4, hf⟩ := fc_un (by decide) hf
  have f4 : n_v vs 12 = w_fd w1 (v_ad (n_v vs 11)) 5 := f4
  obtain ⟨f5, hf⟩ := fc_un (by decide) hf
  have f5 : v_iv (n_v vs 10) ≠ 0 := f5
  obtain ⟨f6, hf⟩ := fc_un (by decide) hf
  have f6 : (1 * v_iv (n_v vs 10) + 0 ≤ 0) ∨ (1 * w_fi w1 (n_v vs 0) 9 + ((-1) * v_iv (n_v vs 9) + 0) ≤ 0) := f6
  obtain ⟨f7, hf⟩ := fc_un (by decide) hf
  have f7 : (1 * v_iv (n_v vs 10) + 0 ≤ 0) ∨ ((-1) * w_fi w1 (n_v vs 0) 9 + 0 ≤ (-1)) := f7
  have ar_11_5_1 : w_ar w1 (n_v vs 11) 5 = w_ar ws (n_v vs 11) 5 := by show v_ad (w_fd w1 _ _) = v_ad (w_fd ws _ _); rw [s1.2]
  have cr_11_5 : ta (w_ar ws (n_v vs 11) 5) = some 50 := tv_rg (th_fd hD hth r11 (g := GG_3) rfl (k := 5) (t := (2, 0, 0, [50])) rfl rfl)
  have ad_12 : v_ad (n_v vs 12) = w_ar ws (n_v vs 11) 5 := (congrArg v_ad f4).trans ar_11_5_1
  have g3 : v_iv (n_v vs 13) = w_fi w1 (n_v vs 0) 9 := congrArg v_iv f3
  have fe_0_9_1 : w_fi ws (n_v vs 0) 9 = w_fi w1 (n_v vs 0) 9 := congrArg v_iv (s1.2 _ _)
  have kz_0_9 : (-2147483648) ≤ w_fi ws (n_v vs 0) 9 ∧ w_fi ws (n_v vs 0) 9 ≤ 1000000 := tv_rng (th_fd hD hth r0 (g := GG_8) rfl (k := 9) (t := (0, -2147483648, 1000000, [])) rfl rfl)
  have kv : (-2147483648) ≤ w_fi ws (n_v vs 0) 9 ∧ w_fi ws (n_v vs 0) 9 ≤ 1000000 := tv_rng (th_fd hD hth r0 (g := GG_8) rfl (k := 9) (t := (0, -2147483648, 1000000, [])) rfl rfl)
  obtain ⟨x, ex, hx⟩ := iv_ex (ta := ta) (lo := (-2147483648)) (hi := 1000000) (z := w_fi ws (n_v vs 0) 9) (by omega) (by omega) (by decide) (by decide)
  have ex2 : v_iv (Value.int x) = w_fi ws (n_v vs 0) 9 := ex
  have ex3 : (-2147483648) ≤ v_iv (Value.int x) ∧ v_iv (Value.int x) ≤ 1000000 := tv_rng hx
  have e_0 : n_v (vs ++ [Value.int x]) 0 = n_v vs 0 := n_v_old (by rw [hl]; decide)
  have e_14 : n_v (vs ++ [Value.int x]) 14 = Value.int x := n_v_new hl
  have nf0 : fc_1 (20, [0, 14], [30, 0, 1, 1, 9, -1, 0, 0]) ws (vs ++ [Value.int x]) := by
    refine ⟨fun n hn => ?_, ?_⟩
    · have hn : n ∈ [0, 14] := hn
      rw [List.length_append, hl]
      simp only [List.mem_cons, List.not_mem_nil, or_false] at hn
      show n < 14 + 1; omega
    · show 1 * w_fi ws (n_v (vs ++ [Value.int x]) 0) 9 + ((-1) * v_iv (n_v (vs ++ [Value.int x]) 14) + 0) ≤ 0
      rw [e_0]
      rw [e_14]
      omega
  have nf1 : fc_1 (20, [0, 14], [30, 0, -1, 1, 9, 1, 0, 0]) ws (vs ++ [Value.int x]) := by
    refine ⟨fun n hn => ?_, ?_⟩
    · have hn : n ∈ [0, 14] := hn
      rw [List.length_append, hl]
      simp only [List.mem_cons, List.not_mem_nil, or_false] at hn
      show n < 14 + 1; omega
    · show (-1) * w_fi ws (n_v (vs ++ [Value.int x]) 0) 9 + (1 * v_iv (n_v (vs ++ [Value.int x]) 14) + 0) ≤ 0
      rw [e_0]
      rw [e_14]
      omega
  exact ⟨fun q hq => (by cases hq), [Value.int x], ag_one hx, List.forall_mem_cons.mpr ⟨⟨by decide, nf0⟩, List.forall_mem_cons.mpr ⟨⟨by decide, nf1⟩, (fun _ h => (by cases h))⟩⟩, (fun _ h => (by cases h))⟩
def n_Re_readNode_an : List an_T := []
def t_Re_readNode_ct : ct_L := [(1, 57, e_Re_advance), (1, 107, e_Re_isName), (1, 113, e_Re_fail), (1, 127, e_Re_meetNode), (157, 132, e_Re_readValue_at_s5002), (1000000, 130, en_ro [] (2, 0, 0, [5002]))]
set_option maxRecDepth 100000 in
theorem c_Re_readNode {l : Launch} {D : va_G} {kA : Nat → ClassId} (h_Re_advance : ct_ok l D kA GG y_Re_advance z_Re_advance e_Re_advance) (h_Re_fail : ct_ok l D kA GG y_Re_fail z_Re_fail e_Re_fail) (h_Re_isName : ct_ok l D kA GG y_Re_isName z_Re_isName e_Re_isName) (h_Re_meetNode : ct_ok l D kA GG y_Re_meetNode z_Re_meetNode e_Re_meetNode) (h_Re_readValue_at_s5002 : ct_ok l D kA GG y_Re_readValue_at_s5002 z_Re_readValue_at_s5002 e_Re_readValue_at_s5002) : ct_ok l D kA GG y_Re_readNode z_Re_readNode e_Re_readNode := chk_all_ok (FT := [(28, 8, 4), (38, 8, 7), (44, 8, 9), (136, 3, 5)]) (PT := []) (CT := t_Re_readNode_ct) (KT := []) (NT := []) (AN := n_Re_readNode_an) (OT := [o_Re_readNode_0, o_Re_readNode_1, o_Re_readNode_2, o_Re_readNode_3, o_Re_readNode_4]) 0 268 (List.forall_mem_cons.mpr ⟨oo_Re_readNode_0, List.forall_mem_cons.mpr ⟨oo_Re_readNode_1, List.forall_mem_cons.mpr ⟨oo_Re_readNode_2, List.forall_mem_cons.mpr ⟨oo_Re_readNode_3, List.forall_mem_cons.mpr ⟨oo_Re_readNode_4, List.forall_mem_nil _⟩⟩⟩⟩⟩) (by decide +kernel) ⟨List.forall_mem_cons.mpr ⟨gf_Re_28, List.forall_mem_cons.mpr ⟨gf_Re_38, List.forall_mem_cons.mpr ⟨gf_Re_44, List.forall_mem_cons.mpr ⟨gf_Re_136, List.forall_mem_nil _⟩⟩⟩⟩, List.forall_mem_nil _, List.forall_mem_cons.mpr ⟨cl_virtual (y := y_Re_advance) (ci := 8) rfl rfl ⟨_, _, rfl⟩ (by decide +kernel) h_Re_advance wm_645 wm_2 wm_642 wm_644 wv_1_0 ⟨by decide, by decide, by decide +kernel⟩ (by decide), List.forall_mem_cons.mpr ⟨cl_virtual (y := y_Re_isName) (ci := 8) rfl rfl ⟨_, _, rfl⟩ (by decide +kernel) h_Re_isName wm_726 wm_2 wm_723 wm_725 wv_1_4 ⟨by decide, by decide, by decide +kernel⟩ (by decide), List.forall_mem_cons.mpr ⟨cl_virtual (y := y_Re_fail) (ci := 8) rfl rfl ⟨_, _, rfl⟩ (by decide +kernel) h_Re_fail wm_731 wm_2 wm_728 wm_730 wv_1_5 ⟨by decide, by decide, by decide +kernel⟩ (by decide), List.forall_mem_cons.mpr ⟨cl_virtual (y := y_Re_meetNode) (ci := 8) rfl rfl ⟨_, _, rfl⟩ (by decide +kernel) h_Re_meetNode wm_735 wm_2 wm_732 wm_734 wv_1_6 ⟨by decide, by decide, by decide +kernel⟩ (by decide), List.forall_mem_cons.mpr ⟨cl_virtual (y := y_Re_readValue_at_s5002) (ci := 8) rfl rfl ⟨_, _, rfl⟩ (by decide +kernel) h_Re_readValue_at_s5002 wm_755 wm_2 wm_752 wm_754 wv_1_8 ⟨by decide, by decide, by decide +kernel⟩ (by decide), List.forall_mem_cons.mpr ⟨cl_ldc (own := "DrawingHouse$Reader") (idx := 130) (i := 2) (tx := "size") (by decide +kernel) (by decide +kernel) (by decide +kernel), List.forall_mem_nil _⟩⟩⟩⟩⟩⟩, List.forall_mem_nil _, List.forall_mem_nil _, GG_pl⟩ (by decide +kernel)
def o_Re_readEdges_0 : or_T := (25, 5, [(0, (2, 0, 0, [8]))], [(20, [0, 0], [30, 8, 1, 1, 6, -1, 1, 8]), (20, [0, 0], [30, 0, -1, 1, 6, 1, 1, 8])], [], [(0, -2147483648, 1000000, [])], [(20, [0, 5], [30, 0, 1, 1, 9, -1, 0, 0]), (20, [0, 5], [30, 0, -1, 1, 9, 1, 0, 0])], [], [])
theorem oo_Re_readEdges_0 {kA : Nat → ClassId} : or_ok kA GG o_Re_readEdges_0 := by
  intro A ta ws vs hD hth hl hk hds hf
  have hl : vs.length = 5 := hl
  have hk : ∀ q ∈ ([(0, (2, 0, 0, [8]))] : List (Nat × tv_T)), tv_ok ta q.2 (n_v vs q.1) := hk
  obtain ⟨t0, hk⟩ := List.forall_mem_cons.mp hk
  have t0 : tv_ok ta (2, 0, 0, [8]) (n_v vs 0) := t0
  have r0 : ta (v_ad (n_v vs 0)) = some 8 := tv_rg t0
  have hf : fc_ok [(20, [0, 0], [30, 8, 1, 1, 6, -1, 1, 8]), (20, [0, 0], [30, 0, -1, 1, 6, 1, 1, 8])] ta ws vs := hf
  obtain ⟨f0, hf⟩ := fc_un (by decide) hf
  have f0 : 1 * w_fi ws (n_v vs 0) 6 + ((-1) * w_fi ws (n_v vs 0) 8 + 0) ≤ 8 := f0
  obtain ⟨f1, hf⟩ := fc_un (by decide) hf
  have f1 : (-1) * w_fi ws (n_v vs 0) 6 + (1 * w_fi ws (n_v vs 0) 8 + 0) ≤ 0 := f1
  have kz_0_6 : 0 ≤ w_fi ws (n_v vs 0) 6 ∧ w_fi ws (n_v vs 0) 6 ≤ 2000 := tv_rng (th_fd hD hth r0 (g := GG_8) rfl (k := 6) (t := (0, 0, 2000, [])) rfl rfl)
  have kz_0_8 : 0 ≤ w_fi ws (n_v vs 0) 8 ∧ w_fi ws (n_v vs 0) 8 ≤ 2000 := tv_rng (th_fd hD hth r0 (g := GG_8) rfl (k := 8) (t := (0, 0, 2000, [])) rfl rfl)
  have kz_0_9 : (-2147483648) ≤ w_fi ws (n_v vs 0) 9 ∧ w_fi ws (n_v vs 0) 9 ≤ 1000000 := tv_rng (th_fd hD hth r0 (g := GG_8) rfl (k := 9) (t := (0, -2147483648, 1000000, [])) rfl rfl)
  have kv : (-2147483648) ≤ w_fi ws (n_v vs 0) 9 ∧ w_fi ws (n_v vs 0) 9 ≤ 1000000 := tv_rng (th_fd hD hth r0 (g := GG_8) rfl (k := 9) (t := (0, -2147483648, 1000000, [])) rfl rfl)
  obtain ⟨x, ex, hx⟩ := iv_ex (ta := ta) (lo := (-2147483648)) (hi := 1000000) (z := w_fi ws (n_v vs 0) 9) (by omega) (by omega) (by decide) (by decide)
  have ex2 : v_iv (Value.int x) = w_fi ws (n_v vs 0) 9 := ex
  have ex3 : (-2147483648) ≤ v_iv (Value.int x) ∧ v_iv (Value.int x) ≤ 1000000 := tv_rng hx
  have e_0 : n_v (vs ++ [Value.int x]) 0 = n_v vs 0 := n_v_old (by rw [hl]; decide)
  have e_5 : n_v (vs ++ [Value.int x]) 5 = Value.int x := n_v_new hl
  have nf0 : fc_1 (20, [0, 5], [30, 0, 1, 1, 9, -1, 0, 0]) ws (vs ++ [Value.int x]) := by
    refine ⟨fun n hn => ?_, ?_⟩
    · have hn : n ∈ [0, 5] := hn
      rw [List.length_append, hl]
      simp only [List.mem_cons, List.not_mem_nil, or_false] at hn
      show n < 5 + 1; omega
    · show 1 * w_fi ws (n_v (vs ++ [Value.int x]) 0) 9 + ((-1) * v_iv (n_v (vs ++ [Value.int x]) 5) + 0) ≤ 0
      rw [e_0]
      rw [e_5]
      omega
  have nf1 : fc_1 (20, [0, 5], [30, 0, -1, 1, 9, 1, 0, 0]) ws (vs ++ [Value.int x]) := by
    refine ⟨fun n hn => ?_, ?_⟩
    · have hn : n ∈ [0, 5] := hn
      rw [List.length_append, hl]
      simp only [List.mem_cons, List.not_mem_nil, or_false] at hn
      show n < 5 + 1; omega
    · show (-1) * w_fi ws (n_v (vs ++ [Value.int x]) 0) 9 + (1 * v_iv (n_v (vs ++ [Value.int x]) 5) + 0) ≤ 0
      rw [e_0]
      rw [e_5]
      omega
  exact ⟨fun q hq => (by cases hq), [Value.int x], ag_one hx, List.forall_mem_cons.mpr ⟨⟨by decide, nf0⟩, List.forall_mem_cons.mpr ⟨⟨by decide, nf1⟩, (fun _ h => (by cases h))⟩⟩, (fun _ h => (by cases h))⟩
def o_Re_readEdges_1 : or_T := (223, 10, [(0, (2, 0, 0, [8])), (8, (0, 9, 9, [])), (9, (0, 1, 1, []))], [(8, [9], [1]), (20, [9, 0, 8], [31, 1, 0, 1, 0, 0, 0, 1, 1, 9, -1, 0, 0]), (20, [9, 0], [31, 1, 0, 1, 0, 0, -1, -1, 1, 9])], [], [], [(20, [0], [30, 9, 1, 1, 9]), (20, [0], [30, -1, -1, 1, 9])], [], [])
theorem oo_Re_readEdges_1 {kA : Nat → ClassId} : or_ok kA GG o_Re_readEdges_1 := by
  intro A ta ws vs hD hth hl hk hds hf
  have hl : vs.length = 10 := hl
  have hk : ∀ q ∈ ([(0, (2, 0, 0, [8])), (8, (0, 9, 9, [])), (9, (0, 1, 1, []))] : List (Nat × tv_T)), tv_ok ta q.2 (n_v vs q.1) := hk
  obtain ⟨t0, hk⟩ := List.forall_mem_cons.mp hk
  have t0 : tv_ok ta (2, 0, 0, [8]) (n_v vs 0) := t0
  have r0 : ta (v_ad (n_v vs 0)) = some 8 := tv_rg t0
  obtain ⟨t8, hk⟩ := List.forall_mem_cons.mp hk
  have t8 : tv_ok ta (0, 9, 9, []) (n_v vs 8) := t8
  have k8 : 9 ≤ v_iv (n_v vs 8) ∧ v_iv (n_v vs 8) ≤ 9 := tv_rng t8
  obtain ⟨t9, hk⟩ := List.forall_mem_cons.mp hk
  have t9 : tv_ok ta (0, 1, 1, []) (n_v vs 9) := t9
  have k9 : 1 ≤ v_iv (n_v vs 9) ∧ v_iv (n_v vs 9) ≤ 1 := tv_rng t9
  have hf : fc_ok [(8, [9], [1]), (20, [9, 0, 8], [31, 1, 0, 1, 0, 0, 0, 1, 1, 9, -1, 0, 0]), (20, [9, 0], [31, 1, 0, 1, 0, 0, -1, -1, 1, 9])] ta ws vs := hf
  obtain ⟨f0, hf⟩ := fc_un (by decide) hf
  have f0 : v_iv (n_v vs 9) ≠ 0 := f0
  obtain ⟨f1, hf⟩ := fc_un (by decide) hf
  have f1 : (1 * v_iv (n_v vs 9) + 0 ≤ 0) ∨ (1 * w_fi ws (n_v vs 0) 9 + ((-1) * v_iv (n_v vs 8) + 0) ≤ 0) := f1
  obtain ⟨f2, hf⟩ := fc_un (by decide) hf
  have f2 : (1 * v_iv (n_v vs 9) + 0 ≤ 0) ∨ ((-1) * w_fi ws (n_v vs 0) 9 + 0 ≤ (-1)) := f2
  have kz_0_9 : (-2147483648) ≤ w_fi ws (n_v vs 0) 9 ∧ w_fi ws (n_v vs 0) 9 ≤ 1000000 := tv_rng (th_fd hD hth r0 (g := GG_8) rfl (k := 9) (t := (0, -2147483648, 1000000, [])) rfl rfl)
  have nf0 : fc_1 (20, [0], [30, 9, 1, 1, 9]) ws (vs) := by
    refine ⟨fun n hn => ?_, ?_⟩
    · have hn : n ∈ [0] := hn
      rw [hl]
      simp only [List.mem_cons, List.not_mem_nil, or_false] at hn
      show n < 10; omega
    · show 1 * w_fi ws (n_v vs 0) 9 + 0 ≤ 9
      omega
  have nf1 : fc_1 (20, [0], [30, -1, -1, 1, 9]) ws (vs) := by
    refine ⟨fun n hn => ?_, ?_⟩
    · have hn : n ∈ [0] := hn
      rw [hl]
      simp only [List.mem_cons, List.not_mem_nil, or_false] at hn
      show n < 10; omega
    · show (-1) * w_fi ws (n_v vs 0) 9 + 0 ≤ (-1)
      omega
  refine ⟨(fun _ h => (by cases h)), [], trivial, ?_, (fun _ h => (by cases h))⟩
  rw [List.append_nil]
  exact List.forall_mem_cons.mpr ⟨⟨by decide, nf0⟩, List.forall_mem_cons.mpr ⟨⟨by decide, nf1⟩, (fun _ h => (by cases h))⟩⟩
def o_Re_readEdges_2 : or_T := (95, 9, [(0, (2, 0, 0, [8]))], [], [], [(0, -2147483648, 1000000, [])], [(20, [0, 9], [30, 0, 1, 1, 9, -1, 0, 0]), (20, [0, 9], [30, 0, -1, 1, 9, 1, 0, 0])], [], [])
theorem oo_Re_readEdges_2 {kA : Nat → ClassId} : or_ok kA GG o_Re_readEdges_2 := by
  intro A ta ws vs hD hth hl hk hds hf
  have hl : vs.length = 9 := hl
  have hk : ∀ q ∈ ([(0, (2, 0, 0, [8]))] : List (Nat × tv_T)), tv_ok ta q.2 (n_v vs q.1) := hk
  obtain ⟨t0, hk⟩ := List.forall_mem_cons.mp hk
  have t0 : tv_ok ta (2, 0, 0, [8]) (n_v vs 0) := t0
  have r0 : ta (v_ad (n_v vs 0)) = some 8 := tv_rg t0
  have kz_0_9 : (-2147483648) ≤ w_fi ws (n_v vs 0) 9 ∧ w_fi ws (n_v vs 0) 9 ≤ 1000000 := tv_rng (th_fd hD hth r0 (g := GG_8) rfl (k := 9) (t := (0, -2147483648, 1000000, [])) rfl rfl)
  have kv : (-2147483648) ≤ w_fi ws (n_v vs 0) 9 ∧ w_fi ws (n_v vs 0) 9 ≤ 1000000 := tv_rng (th_fd hD hth r0 (g := GG_8) rfl (k := 9) (t := (0, -2147483648, 1000000, [])) rfl rfl)
  obtain ⟨x, ex, hx⟩ := iv_ex (ta := ta) (lo := (-2147483648)) (hi := 1000000) (z := w_fi ws (n_v vs 0) 9) (by omega) (by omega) (by decide) (by decide)
  have ex2 : v_iv (Value.int x) = w_fi ws (n_v vs 0) 9 := ex
  have ex3 : (-2147483648) ≤ v_iv (Value.int x) ∧ v_iv (Value.int x) ≤ 1000000 := tv_rng hx
  have e_0 : n_v (vs ++ [Value.int x]) 0 = n_v vs 0 := n_v_old (by rw [hl]; decide)
  have e_9 : n_v (vs ++ [Value.int x]) 9 = Value.int x := n_v_new hl
  have nf0 : fc_1 (20, [0, 9], [30, 0, 1, 1, 9, -1, 0, 0]) ws (vs ++ [Value.int x]) := by
    refine ⟨fun n hn => ?_, ?_⟩
    · have hn : n ∈ [0, 9] := hn
      rw [List.length_append, hl]
      simp only [List.mem_cons, List.not_mem_nil, or_false] at hn
      show n < 9 + 1; omega
    · show 1 * w_fi ws (n_v (vs ++ [Value.int x]) 0) 9 + ((-1) * v_iv (n_v (vs ++ [Value.int x]) 9) + 0) ≤ 0
      rw [e_0]
      rw [e_9]
      omega
  have nf1 : fc_1 (20, [0, 9], [30, 0, -1, 1, 9, 1, 0, 0]) ws (vs ++ [Value.int x]) := by
    refine ⟨fun n hn => ?_, ?_⟩
    · have hn : n ∈ [0, 9] := hn
      rw [List.length_append, hl]
      simp only [List.mem_cons, List.not_mem_nil, or_false] at hn
      show n < 9 + 1; omega
    · show (-1) * w_fi ws (n_v (vs ++ [Value.int x]) 0) 9 + (1 * v_iv (n_v (vs ++ [Value.int x]) 9) + 0) ≤ 0
      rw [e_0]
      rw [e_9]
      omega
  exact ⟨fun q hq => (by cases hq), [Value.int x], ag_one hx, List.forall_mem_cons.mpr ⟨⟨by decide, nf0⟩, List.forall_mem_cons.mpr ⟨⟨by decide, nf1⟩, (fun _ h => (by cases h))⟩⟩, (fun _ h => (by cases h))⟩
def o_Re_readEdges_3 : or_T := (112, 11, [(0, (2, 0, 0, [8])), (9, (0, -2147483648, 1000000, [])), (10, (0, 1, 1, []))], [(8, [10], [1]), (20, [0, 0, 9], [31, 1, 3, 1, 1, 7, 0, 1, 1, 9, -1, 0, 0]), (20, [0, 0, 9], [31, 1, 3, 1, 1, 7, 0, -1, 1, 9, 1, 0, 0]), (20, [0, 0, 10], [30, 2008, 1, 1, 6, -1, 1, 8, 2000, 0, 0]), (20, [0, 0, 10], [30, 2000, 1, 1, 8, -1, 1, 6, 2001, 0, 0])], [], [], [(20, [0, 0], [30, 8, 1, 1, 6, -1, 1, 8]), (20, [0, 0], [30, 0, -1, 1, 6, 1, 1, 8])], [], [])
theorem oo_Re_readEdges_3 {kA : Nat → ClassId} : or_ok kA GG o_Re_readEdges_3 := by
  intro A ta ws vs hD hth hl hk hds hf
  have hl : vs.length = 11 := hl
  have hk : ∀ q ∈ ([(0, (2, 0, 0, [8])), (9, (0, -2147483648, 1000000, [])), (10, (0, 1, 1, []))] : List (Nat × tv_T)), tv_ok ta q.2 (n_v vs q.1) := hk
  obtain ⟨t0, hk⟩ := List.forall_mem_cons.mp hk
  have t0 : tv_ok ta (2, 0, 0, [8]) (n_v vs 0) := t0
  have r0 : ta (v_ad (n_v vs 0)) = some 8 := tv_rg t0
  obtain ⟨t9, hk⟩ := List.forall_mem_cons.mp hk
  have t9 : tv_ok ta (0, -2147483648, 1000000, []) (n_v vs 9) := t9
  have k9 : (-2147483648) ≤ v_iv (n_v vs 9) ∧ v_iv (n_v vs 9) ≤ 1000000 := tv_rng t9
  obtain ⟨t10, hk⟩ := List.forall_mem_cons.mp hk
  have t10 : tv_ok ta (0, 1, 1, []) (n_v vs 10) := t10
  have k10 : 1 ≤ v_iv (n_v vs 10) ∧ v_iv (n_v vs 10) ≤ 1 := tv_rng t10
  have hf : fc_ok [(8, [10], [1]), (20, [0, 0, 9], [31, 1, 3, 1, 1, 7, 0, 1, 1, 9, -1, 0, 0]), (20, [0, 0, 9], [31, 1, 3, 1, 1, 7, 0, -1, 1, 9, 1, 0, 0]), (20, [0, 0, 10], [30, 2008, 1, 1, 6, -1, 1, 8, 2000, 0, 0]), (20, [0, 0, 10], [30, 2000, 1, 1, 8, -1, 1, 6, 2001, 0, 0])] ta ws vs := hf
  obtain ⟨f0, hf⟩ := fc_un (by decide) hf
  have f0 : v_iv (n_v vs 10) ≠ 0 := f0
  obtain ⟨f1, hf⟩ := fc_un (by decide) hf
  have f1 : (1 * w_fi ws (n_v vs 0) 7 + 0 ≤ 3) ∨ (1 * w_fi ws (n_v vs 0) 9 + ((-1) * v_iv (n_v vs 9) + 0) ≤ 0) := f1
  obtain ⟨f2, hf⟩ := fc_un (by decide) hf
  have f2 : (1 * w_fi ws (n_v vs 0) 7 + 0 ≤ 3) ∨ ((-1) * w_fi ws (n_v vs 0) 9 + (1 * v_iv (n_v vs 9) + 0) ≤ 0) := f2
  obtain ⟨f3, hf⟩ := fc_un (by decide) hf
  have f3 : 1 * w_fi ws (n_v vs 0) 6 + ((-1) * w_fi ws (n_v vs 0) 8 + (2000 * v_iv (n_v vs 10) + 0)) ≤ 2008 := f3
  obtain ⟨f4, hf⟩ := fc_un (by decide) hf
  have f4 : 1 * w_fi ws (n_v vs 0) 8 + ((-1) * w_fi ws (n_v vs 0) 6 + (2001 * v_iv (n_v vs 10) + 0)) ≤ 2000 := f4
  have kz_0_6 : 0 ≤ w_fi ws (n_v vs 0) 6 ∧ w_fi ws (n_v vs 0) 6 ≤ 2000 := tv_rng (th_fd hD hth r0 (g := GG_8) rfl (k := 6) (t := (0, 0, 2000, [])) rfl rfl)
  have kz_0_7 : (-128) ≤ w_fi ws (n_v vs 0) 7 ∧ w_fi ws (n_v vs 0) 7 ≤ 127 := tv_rng (th_fd hD hth r0 (g := GG_8) rfl (k := 7) (t := (0, -128, 127, [])) rfl rfl)
  have kz_0_8 : 0 ≤ w_fi ws (n_v vs 0) 8 ∧ w_fi ws (n_v vs 0) 8 ≤ 2000 := tv_rng (th_fd hD hth r0 (g := GG_8) rfl (k := 8) (t := (0, 0, 2000, [])) rfl rfl)
  have kz_0_9 : (-2147483648) ≤ w_fi ws (n_v vs 0) 9 ∧ w_fi ws (n_v vs 0) 9 ≤ 1000000 := tv_rng (th_fd hD hth r0 (g := GG_8) rfl (k := 9) (t := (0, -2147483648, 1000000, [])) rfl rfl)
  have nf0 : fc_1 (20, [0, 0], [30, 8, 1, 1, 6, -1, 1, 8]) ws (vs) := by
    refine ⟨fun n hn => ?_, ?_⟩
    · have hn : n ∈ [0, 0] := hn
      rw [hl]
      simp only [List.mem_cons, List.not_mem_nil, or_false] at hn
      show n < 11; omega
    · show 1 * w_fi ws (n_v vs 0) 6 + ((-1) * w_fi ws (n_v vs 0) 8 + 0) ≤ 8
      omega
  have nf1 : fc_1 (20, [0, 0], [30, 0, -1, 1, 6, 1, 1, 8]) ws (vs) := by
    refine ⟨fun n hn => ?_, ?_⟩
    · have hn : n ∈ [0, 0] := hn
      rw [hl]
      simp only [List.mem_cons, List.not_mem_nil, or_false] at hn
      show n < 11; omega
    · show (-1) * w_fi ws (n_v vs 0) 6 + (1 * w_fi ws (n_v vs 0) 8 + 0) ≤ 0
      omega
  refine ⟨(fun _ h => (by cases h)), [], trivial, ?_, (fun _ h => (by cases h))⟩
  rw [List.append_nil]
  exact List.forall_mem_cons.mpr ⟨⟨by decide, nf0⟩, List.forall_mem_cons.mpr ⟨⟨by decide, nf1⟩, (fun _ h => (by cases h))⟩⟩
def o_Re_readEdges_4 : or_T := (190, 20, [(0, (2, 0, 0, [8])), (9, (0, -2147483648, 1000000, [])), (10, (0, 1, 1, []))], [(20, [0, 0], [30, 8, 1, 1, 6, -1, 1, 8]), (20, [0, 0], [30, 0, -1, 1, 6, 1, 1, 8]), (20, [0, 0, 9], [31, 1, 3, 1, 1, 7, 0, 1, 1, 9, -1, 0, 0]), (20, [0, 0, 9], [31, 1, 3, 1, 1, 7, 0, -1, 1, 9, 1, 0, 0]), (20, [0, 0, 10], [30, 2008, 1, 1, 6, -1, 1, 8, 2000, 0, 0]), (20, [0, 0, 10], [30, 2000, 1, 1, 8, -1, 1, 6, 2001, 0, 0]), (102, [18], [1796936251320827904, 3001]), (102, [10], [580682876954083328, 3000]), (8, [10], [1])], [], [(0, -2147483648, 1000000, [])], [(20, [0, 20], [30, 0, 1, 1, 9, -1, 0, 0]), (20, [0, 20], [30, 0, -1, 1, 9, 1, 0, 0])], [], [])
theorem oo_Re_readEdges_4 {kA : Nat → ClassId} : or_ok kA GG o_Re_readEdges_4 := by
  intro A ta ws vs hD hth hl hk hds hf
  have hl : vs.length = 20 := hl
  have hk : ∀ q ∈ ([(0, (2, 0, 0, [8])), (9, (0, -2147483648, 1000000, [])), (10, (0, 1, 1, []))] : List (Nat × tv_T)), tv_ok ta q.2 (n_v vs q.1) := hk
  obtain ⟨t0, hk⟩ := List.forall_mem_cons.mp hk
  have t0 : tv_ok ta (2, 0, 0, [8]) (n_v vs 0) := t0
  have r0 : ta (v_ad (n_v vs 0)) = some 8 := tv_rg t0
  obtain ⟨t9, hk⟩ := List.forall_mem_cons.mp hk
  have t9 : tv_ok ta (0, -2147483648, 1000000, []) (n_v vs 9) := t9
  have k9 : (-2147483648) ≤ v_iv (n_v vs 9) ∧ v_iv (n_v vs 9) ≤ 1000000 := tv_rng t9
  obtain ⟨t10, hk⟩ := List.forall_mem_cons.mp hk
  have t10 : tv_ok ta (0, 1, 1, []) (n_v vs 10) := t10
  have k10 : 1 ≤ v_iv (n_v vs 10) ∧ v_iv (n_v vs 10) ≤ 1 := tv_rng t10
  have hf : fc_ok [(20, [0, 0], [30, 8, 1, 1, 6, -1, 1, 8]), (20, [0, 0], [30, 0, -1, 1, 6, 1, 1, 8]), (20, [0, 0, 9], [31, 1, 3, 1, 1, 7, 0, 1, 1, 9, -1, 0, 0]), (20, [0, 0, 9], [31, 1, 3, 1, 1, 7, 0, -1, 1, 9, 1, 0, 0]), (20, [0, 0, 10], [30, 2008, 1, 1, 6, -1, 1, 8, 2000, 0, 0]), (20, [0, 0, 10], [30, 2000, 1, 1, 8, -1, 1, 6, 2001, 0, 0]), (102, [18], [1796936251320827904, 3001]), (102, [10], [580682876954083328, 3000]), (8, [10], [1])] ta ws vs := hf
  obtain ⟨f0, hf⟩ := fc_un (by decide) hf
  have f0 : 1 * w_fi ws (n_v vs 0) 6 + ((-1) * w_fi ws (n_v vs 0) 8 + 0) ≤ 8 := f0
  obtain ⟨f1, hf⟩ := fc_un (by decide) hf
  have f1 : (-1) * w_fi ws (n_v vs 0) 6 + (1 * w_fi ws (n_v vs 0) 8 + 0) ≤ 0 := f1
  obtain ⟨f2, hf⟩ := fc_un (by decide) hf
  have f2 : (1 * w_fi ws (n_v vs 0) 7 + 0 ≤ 3) ∨ (1 * w_fi ws (n_v vs 0) 9 + ((-1) * v_iv (n_v vs 9) + 0) ≤ 0) := f2
  obtain ⟨f3, hf⟩ := fc_un (by decide) hf
  have f3 : (1 * w_fi ws (n_v vs 0) 7 + 0 ≤ 3) ∨ ((-1) * w_fi ws (n_v vs 0) 9 + (1 * v_iv (n_v vs 9) + 0) ≤ 0) := f3
  obtain ⟨f4, hf⟩ := fc_un (by decide) hf
  have f4 : 1 * w_fi ws (n_v vs 0) 6 + ((-1) * w_fi ws (n_v vs 0) 8 + (2000 * v_iv (n_v vs 10) + 0)) ≤ 2008 := f4
  obtain ⟨f5, hf⟩ := fc_un (by decide) hf
  have f5 : 1 * w_fi ws (n_v vs 0) 8 + ((-1) * w_fi ws (n_v vs 0) 6 + (2001 * v_iv (n_v vs 10) + 0)) ≤ 2000 := f5
  obtain ⟨ta1, w1, le1, ⟨_, s1⟩, hf⟩ := fc_us (by decide) hf
  obtain ⟨ta2, w2, le2, ⟨_, s2⟩, hf⟩ := fc_us (by decide) hf
  obtain ⟨f8, hf⟩ := fc_un (by decide) hf
  have f8 : v_iv (n_v vs 10) ≠ 0 := f8
  have kz_0_6 : 0 ≤ w_fi ws (n_v vs 0) 6 ∧ w_fi ws (n_v vs 0) 6 ≤ 2000 := tv_rng (th_fd hD hth r0 (g := GG_8) rfl (k := 6) (t := (0, 0, 2000, [])) rfl rfl)
  have kz_0_7 : (-128) ≤ w_fi ws (n_v vs 0) 7 ∧ w_fi ws (n_v vs 0) 7 ≤ 127 := tv_rng (th_fd hD hth r0 (g := GG_8) rfl (k := 7) (t := (0, -128, 127, [])) rfl rfl)
  have kz_0_8 : 0 ≤ w_fi ws (n_v vs 0) 8 ∧ w_fi ws (n_v vs 0) 8 ≤ 2000 := tv_rng (th_fd hD hth r0 (g := GG_8) rfl (k := 8) (t := (0, 0, 2000, [])) rfl rfl)
  have kz_0_9 : (-2147483648) ≤ w_fi ws (n_v vs 0) 9 ∧ w_fi ws (n_v vs 0) 9 ≤ 1000000 := tv_rng (th_fd hD hth r0 (g := GG_8) rfl (k := 9) (t := (0, -2147483648, 1000000, [])) rfl rfl)
  have kv : (-2147483648) ≤ w_fi ws (n_v vs 0) 9 ∧ w_fi ws (n_v vs 0) 9 ≤ 1000000 := tv_rng (th_fd hD hth r0 (g := GG_8) rfl (k := 9) (t := (0, -2147483648, 1000000, [])) rfl rfl)
  obtain ⟨x, ex, hx⟩ := iv_ex (ta := ta) (lo := (-2147483648)) (hi := 1000000) (z := w_fi ws (n_v vs 0) 9) (by omega) (by omega) (by decide) (by decide)
  have ex2 : v_iv (Value.int x) = w_fi ws (n_v vs 0) 9 := ex
  have ex3 : (-2147483648) ≤ v_iv (Value.int x) ∧ v_iv (Value.int x) ≤ 1000000 := tv_rng hx
  have e_0 : n_v (vs ++ [Value.int x]) 0 = n_v vs 0 := n_v_old (by rw [hl]; decide)
  have e_20 : n_v (vs ++ [Value.int x]) 20 = Value.int x := n_v_new hl
  have nf0 : fc_1 (20, [0, 20], [30, 0, 1, 1, 9, -1, 0, 0]) ws (vs ++ [Value.int x]) := by
    refine ⟨fun n hn => ?_, ?_⟩
    · have hn : n ∈ [0, 20] := hn
      rw [List.length_append, hl]
      simp only [List.mem_cons, List.not_mem_nil, or_false] at hn
      show n < 20 + 1; omega
    · show 1 * w_fi ws (n_v (vs ++ [Value.int x]) 0) 9 + ((-1) * v_iv (n_v (vs ++ [Value.int x]) 20) + 0) ≤ 0
      rw [e_0]
      rw [e_20]
      omega
  have nf1 : fc_1 (20, [0, 20], [30, 0, -1, 1, 9, 1, 0, 0]) ws (vs ++ [Value.int x]) := by
    refine ⟨fun n hn => ?_, ?_⟩
    · have hn : n ∈ [0, 20] := hn
      rw [List.length_append, hl]
      simp only [List.mem_cons, List.not_mem_nil, or_false] at hn
      show n < 20 + 1; omega
    · show (-1) * w_fi ws (n_v (vs ++ [Value.int x]) 0) 9 + (1 * v_iv (n_v (vs ++ [Value.int x]) 20) + 0) ≤ 0
      rw [e_0]
      rw [e_20]
      omega
  exact ⟨fun q hq => (by cases hq), [Value.int x], ag_one hx, List.forall_mem_cons.mpr ⟨⟨by decide, nf0⟩, List.forall_mem_cons.mpr ⟨⟨by decide, nf1⟩, (fun _ h => (by cases h))⟩⟩, (fun _ h => (by cases h))⟩
def o_Re_readEdges_5 : or_T := (223, 12, [(0, (2, 0, 0, [8])), (10, (0, 9, 9, [])), (11, (0, 1, 1, []))], [(8, [11], [1]), (20, [11, 0, 10], [31, 1, 0, 1, 0, 0, 0, 1, 1, 9, -1, 0, 0]), (20, [11, 0], [31, 1, 0, 1, 0, 0, -1, -1, 1, 9])], [], [], [(20, [0], [30, 9, 1, 1, 9]), (20, [0], [30, -1, -1, 1, 9])], [], [])
theorem oo_Re_readEdges_5 {kA : Nat → ClassId} : or_ok kA GG o_Re_readEdges_5 := by
  intro A ta ws vs hD hth hl hk hds hf
  have hl : vs.length = 12 := hl
  have hk : ∀ q ∈ ([(0, (2, 0, 0, [8])), (10, (0, 9, 9, [])), (11, (0, 1, 1, []))] : List (Nat × tv_T)), tv_ok ta q.2 (n_v vs q.1) := hk
  obtain ⟨t0, hk⟩ := List.forall_mem_cons.mp hk
  have t0 : tv_ok ta (2, 0, 0, [8]) (n_v vs 0) := t0
  have r0 : ta (v_ad (n_v vs 0)) = some 8 := tv_rg t0
  obtain ⟨t10, hk⟩ := List.forall_mem_cons.mp hk
  have t10 : tv_ok ta (0, 9, 9, []) (n_v vs 10) := t10
  have k10 : 9 ≤ v_iv (n_v vs 10) ∧ v_iv (n_v vs 10) ≤ 9 := tv_rng t10
  obtain ⟨t11, hk⟩ := List.forall_mem_cons.mp hk
  have t11 : tv_ok ta (0, 1, 1, []) (n_v vs 11) := t11
  have k11 : 1 ≤ v_iv (n_v vs 11) ∧ v_iv (n_v vs 11) ≤ 1 := tv_rng t11
  have hf : fc_ok [(8, [11], [1]), (20, [11, 0, 10], [31, 1, 0, 1, 0, 0, 0, 1, 1, 9, -1, 0, 0]), (20, [11, 0], [31, 1, 0, 1, 0, 0, -1, -1, 1, 9])] ta ws vs := hf
  obtain ⟨f0, hf⟩ := fc_un (by decide) hf
  have f0 : v_iv (n_v vs 11) ≠ 0 := f0
  obtain ⟨f1, hf⟩ := fc_un (by decide) hf
  have f1 : (1 * v_iv (n_v vs 11) + 0 ≤ 0) ∨ (1 * w_fi ws (n_v vs 0) 9 + ((-1) * v_iv (n_v vs 10) + 0) ≤ 0) := f1
  obtain ⟨f2, hf⟩ := fc_un (by decide) hf
  have f2 : (1 * v_iv (n_v vs 11) + 0 ≤ 0) ∨ ((-1) * w_fi ws (n_v vs 0) 9 + 0 ≤ (-1)) := f2
  have kz_0_9 : (-2147483648) ≤ w_fi ws (n_v vs 0) 9 ∧ w_fi ws (n_v vs 0) 9 ≤ 1000000 := tv_rng (th_fd hD hth r0 (g := GG_8) rfl (k := 9) (t := (0, -2147483648, 1000000, [])) rfl rfl)
  have nf0 : fc_1 (20, [0], [30, 9, 1, 1, 9]) ws (vs) := by
    refine ⟨fun n hn => ?_, ?_⟩
    · have hn : n ∈ [0] := hn
      rw [hl]
      simp only [List.mem_cons, List.not_mem_nil, or_false] at hn
      show n < 12; omega
    · show 1 * w_fi ws (n_v vs 0) 9 + 0 ≤ 9
      omega
  have nf1 : fc_1 (20, [0], [30, -1, -1, 1, 9]) ws (vs) := by
    refine ⟨fun n hn => ?_, ?_⟩
    · have hn : n ∈ [0] := hn
      rw [hl]
      simp only [List.mem_cons, List.not_mem_nil, or_false] at hn
      show n < 12; omega
    · show (-1) * w_fi ws (n_v vs 0) 9 + 0 ≤ (-1)
      omega
  refine ⟨(fun _ h => (by cases h)), [], trivial, ?_, (fun _ h => (by cases h))⟩
  rw [List.append_nil]
  exact List.forall_mem_cons.mpr ⟨⟨by decide, nf0⟩, List.forall_mem_cons.mpr ⟨⟨by decide, nf1⟩, (fun _ h => (by cases h))⟩⟩
def o_Re_readEdges_6 : or_T := (95, 10, [(0, (2, 0, 0, [8]))], [], [], [(0, -2147483648, 1000000, [])], [(20, [0, 10], [30, 0, 1, 1, 9, -1, 0, 0]), (20, [0, 10], [30, 0, -1, 1, 9, 1, 0, 0])], [], [])
theorem oo_Re_readEdges_6 {kA : Nat → ClassId} : or_ok kA GG o_Re_readEdges_6 := by
  intro A ta ws vs hD hth hl hk hds hf
  have hl : vs.length = 10 := hl
  have hk : ∀ q ∈ ([(0, (2, 0, 0, [8]))] : List (Nat × tv_T)), tv_ok ta q.2 (n_v vs q.1) := hk
  obtain ⟨t0, hk⟩ := List.forall_mem_cons.mp hk
  have t0 : tv_ok ta (2, 0, 0, [8]) (n_v vs 0) := t0
  have r0 : ta (v_ad (n_v vs 0)) = some 8 := tv_rg t0
  have kz_0_9 : (-2147483648) ≤ w_fi ws (n_v vs 0) 9 ∧ w_fi ws (n_v vs 0) 9 ≤ 1000000 := tv_rng (th_fd hD hth r0 (g := GG_8) rfl (k := 9) (t := (0, -2147483648, 1000000, [])) rfl rfl)
  have kv : (-2147483648) ≤ w_fi ws (n_v vs 0) 9 ∧ w_fi ws (n_v vs 0) 9 ≤ 1000000 := tv_rng (th_fd hD hth r0 (g := GG_8) rfl (k := 9) (t := (0, -2147483648, 1000000, [])) rfl rfl)
  obtain ⟨x, ex, hx⟩ := iv_ex (ta := ta) (lo := (-2147483648)) (hi := 1000000) (z := w_fi ws (n_v vs 0) 9) (by omega) (by omega) (by decide) (by decide)
  have ex2 : v_iv (Value.int x) = w_fi ws (n_v vs 0) 9 := ex
  have ex3 : (-2147483648) ≤ v_iv (Value.int x) ∧ v_iv (Value.int x) ≤ 1000000 := tv_rng hx
  have e_0 : n_v (vs ++ [Value.int x]) 0 = n_v vs 0 := n_v_old (by rw [hl]; decide)
  have e_10 : n_v (vs ++ [Value.int x]) 10 = Value.int x := n_v_new hl
  have nf0 : fc_1 (20, [0, 10], [30, 0, 1, 1, 9, -1, 0, 0]) ws (vs ++ [Value.int x]) := by
    refine ⟨fun n hn => ?_, ?_⟩
    · have hn : n ∈ [0, 10] := hn
      rw [List.length_append, hl]
      simp only [List.mem_cons, List.not_mem_nil, or_false] at hn
      show n < 10 + 1; omega
    · show 1 * w_fi ws (n_v (vs ++ [Value.int x]) 0) 9 + ((-1) * v_iv (n_v (vs ++ [Value.int x]) 10) + 0) ≤ 0
      rw [e_0]
      rw [e_10]
      omega
  have nf1 : fc_1 (20, [0, 10], [30, 0, -1, 1, 9, 1, 0, 0]) ws (vs ++ [Value.int x]) := by
    refine ⟨fun n hn => ?_, ?_⟩
    · have hn : n ∈ [0, 10] := hn
      rw [List.length_append, hl]
      simp only [List.mem_cons, List.not_mem_nil, or_false] at hn
      show n < 10 + 1; omega
    · show (-1) * w_fi ws (n_v (vs ++ [Value.int x]) 0) 9 + (1 * v_iv (n_v (vs ++ [Value.int x]) 10) + 0) ≤ 0
      rw [e_0]
      rw [e_10]
      omega
  exact ⟨fun q hq => (by cases hq), [Value.int x], ag_one hx, List.forall_mem_cons.mpr ⟨⟨by decide, nf0⟩, List.forall_mem_cons.mpr ⟨⟨by decide, nf1⟩, (fun _ h => (by cases h))⟩⟩, (fun _ h => (by cases h))⟩
def o_Re_readEdges_7 : or_T := (112, 12, [(0, (2, 0, 0, [8])), (10, (0, -2147483648, 1000000, [])), (11, (0, 1, 1, []))], [(8, [11], [1]), (20, [0, 0, 10], [31, 1, 3, 1, 1, 7, 0, 1, 1, 9, -1, 0, 0]), (20, [0, 0, 10], [31, 1, 3, 1, 1, 7, 0, -1, 1, 9, 1, 0, 0]), (20, [0, 0, 11], [30, 2008, 1, 1, 6, -1, 1, 8, 2000, 0, 0]), (20, [0, 0, 11], [30, 2000, 1, 1, 8, -1, 1, 6, 2001, 0, 0])], [], [], [(20, [0, 0], [30, 8, 1, 1, 6, -1, 1, 8]), (20, [0, 0], [30, 0, -1, 1, 6, 1, 1, 8])], [], [])
theorem oo_Re_readEdges_7 {kA : Nat → ClassId} : or_ok kA GG o_Re_readEdges_7 := by
  intro A ta ws vs hD hth hl hk hds hf
  have hl : vs.length = 12 := hl
  have hk : ∀ q ∈ ([(0, (2, 0, 0, [8])), (10, (0, -2147483648, 1000000, [])), (11, (0, 1, 1, []))] : List (Nat × tv_T)), tv_ok ta q.2 (n_v vs q.1) := hk
  obtain ⟨t0, hk⟩ := List.forall_mem_cons.mp hk
  have t0 : tv_ok ta (2, 0, 0, [8]) (n_v vs 0) := t0
  have r0 : ta (v_ad (n_v vs 0)) = some 8 := tv_rg t0
  obtain ⟨t10, hk⟩ := List.forall_mem_cons.mp hk
  have t10 : tv_ok ta (0, -2147483648, 1000000, []) (n_v vs 10) := t10
  have k10 : (-2147483648) ≤ v_iv (n_v vs 10) ∧ v_iv (n_v vs 10) ≤ 1000000 := tv_rng t10
  obtain ⟨t11, hk⟩ := List.forall_mem_cons.mp hk
  have t11 : tv_ok ta (0, 1, 1, []) (n_v vs 11) := t11
  have k11 : 1 ≤ v_iv (n_v vs 11) ∧ v_iv (n_v vs 11) ≤ 1 := tv_rng t11
  have hf : fc_ok [(8, [11], [1]), (20, [0, 0, 10], [31, 1, 3, 1, 1, 7, 0, 1, 1, 9, -1, 0, 0]), (20, [0, 0, 10], [31, 1, 3, 1, 1, 7, 0, -1, 1, 9, 1, 0, 0]), (20, [0, 0, 11], [30, 2008, 1, 1, 6, -1, 1, 8, 2000, 0, 0]), (20, [0, 0, 11], [30, 2000, 1, 1, 8, -1, 1, 6, 2001, 0, 0])] ta ws vs := hf
  obtain ⟨f0, hf⟩ := fc_un (by decide) hf
  have f0 : v_iv (n_v vs 11) ≠ 0 := f0
  obtain ⟨f1, hf⟩ := fc_un (by decide) hf
  have f1 : (1 * w_fi ws (n_v vs 0) 7 + 0 ≤ 3) ∨ (1 * w_fi ws (n_v vs 0) 9 + ((-1) * v_iv (n_v vs 10) + 0) ≤ 0) := f1
  obtain ⟨f2, hf⟩ := fc_un (by decide) hf
  have f2 : (1 * w_fi ws (n_v vs 0) 7 + 0 ≤ 3) ∨ ((-1) * w_fi ws (n_v vs 0) 9 + (1 * v_iv (n_v vs 10) + 0) ≤ 0) := f2
  obtain ⟨f3, hf⟩ := fc_un (by decide) hf
  have f3 : 1 * w_fi ws (n_v vs 0) 6 + ((-1) * w_fi ws (n_v vs 0) 8 + (2000 * v_iv (n_v vs 11) + 0)) ≤ 2008 := f3
  obtain ⟨f4, hf⟩ := fc_un (by decide) hf
  have f4 : 1 * w_fi ws (n_v vs 0) 8 + ((-1) * w_fi ws (n_v vs 0) 6 + (2001 * v_iv (n_v vs 11) + 0)) ≤ 2000 := f4
  have kz_0_6 : 0 ≤ w_fi ws (n_v vs 0) 6 ∧ w_fi ws (n_v vs 0) 6 ≤ 2000 := tv_rng (th_fd hD hth r0 (g := GG_8) rfl (k := 6) (t := (0, 0, 2000, [])) rfl rfl)
  have kz_0_7 : (-128) ≤ w_fi ws (n_v vs 0) 7 ∧ w_fi ws (n_v vs 0) 7 ≤ 127 := tv_rng (th_fd hD hth r0 (g := GG_8) rfl (k := 7) (t := (0, -128, 127, [])) rfl rfl)
  have kz_0_8 : 0 ≤ w_fi ws (n_v vs 0) 8 ∧ w_fi ws (n_v vs 0) 8 ≤ 2000 := tv_rng (th_fd hD hth r0 (g := GG_8) rfl (k := 8) (t := (0, 0, 2000, [])) rfl rfl)
  have kz_0_9 : (-2147483648) ≤ w_fi ws (n_v vs 0) 9 ∧ w_fi ws (n_v vs 0) 9 ≤ 1000000 := tv_rng (th_fd hD hth r0 (g := GG_8) rfl (k := 9) (t := (0, -2147483648, 1000000, [])) rfl rfl)
  have nf0 : fc_1 (20, [0, 0], [30, 8, 1, 1, 6, -1, 1, 8]) ws (vs) := by
    refine ⟨fun n hn => ?_, ?_⟩
    · have hn : n ∈ [0, 0] := hn
      rw [hl]
      simp only [List.mem_cons, List.not_mem_nil, or_false] at hn
      show n < 12; omega
    · show 1 * w_fi ws (n_v vs 0) 6 + ((-1) * w_fi ws (n_v vs 0) 8 + 0) ≤ 8
      omega
  have nf1 : fc_1 (20, [0, 0], [30, 0, -1, 1, 6, 1, 1, 8]) ws (vs) := by
    refine ⟨fun n hn => ?_, ?_⟩
    · have hn : n ∈ [0, 0] := hn
      rw [hl]
      simp only [List.mem_cons, List.not_mem_nil, or_false] at hn
      show n < 12; omega
    · show (-1) * w_fi ws (n_v vs 0) 6 + (1 * w_fi ws (n_v vs 0) 8 + 0) ≤ 0
      omega
  refine ⟨(fun _ h => (by cases h)), [], trivial, ?_, (fun _ h => (by cases h))⟩
  rw [List.append_nil]
  exact List.forall_mem_cons.mpr ⟨⟨by decide, nf0⟩, List.forall_mem_cons.mpr ⟨⟨by decide, nf1⟩, (fun _ h => (by cases h))⟩⟩
def o_Re_readEdges_8 : or_T := (190, 21, [(0, (2, 0, 0, [8])), (10, (0, -2147483648, 1000000, [])), (11, (0, 1, 1, []))], [(20, [0, 0], [30, 8, 1, 1, 6, -1, 1, 8]), (20, [0, 0], [30, 0, -1, 1, 6, 1, 1, 8]), (20, [0, 0, 10], [31, 1, 3, 1, 1, 7, 0, 1, 1, 9, -1, 0, 0]), (20, [0, 0, 10], [31, 1, 3, 1, 1, 7, 0, -1, 1, 9, 1, 0, 0]), (20, [0, 0, 11], [30, 2008, 1, 1, 6, -1, 1, 8, 2000, 0, 0]), (20, [0, 0, 11], [30, 2000, 1, 1, 8, -1, 1, 6, 2001, 0, 0]), (102, [19], [1796936251320827904, 3001]), (102, [11], [580682876954083328, 3000]), (8, [11], [1])], [], [(0, -2147483648, 1000000, [])], [(20, [0, 21], [30, 0, 1, 1, 9, -1, 0, 0]), (20, [0, 21], [30, 0, -1, 1, 9, 1, 0, 0])], [], [])
theorem oo_Re_readEdges_8 {kA : Nat → ClassId} : or_ok kA GG o_Re_readEdges_8 := by
  intro A ta ws vs hD hth hl hk hds hf
  have hl : vs.length = 21 := hl
  have hk : ∀ q ∈ ([(0, (2, 0, 0, [8])), (10, (0, -2147483648, 1000000, [])), (11, (0, 1, 1, []))] : List (Nat × tv_T)), tv_ok ta q.2 (n_v vs q.1) := hk
  obtain ⟨t0, hk⟩ := List.forall_mem_cons.mp hk
  have t0 : tv_ok ta (2, 0, 0, [8]) (n_v vs 0) := t0
  have r0 : ta (v_ad (n_v vs 0)) = some 8 := tv_rg t0
  obtain ⟨t10, hk⟩ := List.forall_mem_cons.mp hk
  have t10 : tv_ok ta (0, -2147483648, 1000000, []) (n_v vs 10) := t10
  have k10 : (-2147483648) ≤ v_iv (n_v vs 10) ∧ v_iv (n_v vs 10) ≤ 1000000 := tv_rng t10
  obtain ⟨t11, hk⟩ := List.forall_mem_cons.mp hk
  have t11 : tv_ok ta (0, 1, 1, []) (n_v vs 11) := t11
  have k11 : 1 ≤ v_iv (n_v vs 11) ∧ v_iv (n_v vs 11) ≤ 1 := tv_rng t11
  have hf : fc_ok [(20, [0, 0], [30, 8, 1, 1, 6, -1, 1, 8]), (20, [0, 0], [30, 0, -1, 1, 6, 1, 1, 8]), (20, [0, 0, 10], [31, 1, 3, 1, 1, 7, 0, 1, 1, 9, -1, 0, 0]), (20, [0, 0, 10], [31, 1, 3, 1, 1, 7, 0, -1, 1, 9, 1, 0, 0]), (20, [0, 0, 11], [30, 2008, 1, 1, 6, -1, 1, 8, 2000, 0, 0]), (20, [0, 0, 11], [30, 2000, 1, 1, 8, -1, 1, 6, 2001, 0, 0]), (102, [19], [1796936251320827904, 3001]), (102, [11], [580682876954083328, 3000]), (8, [11], [1])] ta ws vs := hf
  obtain ⟨f0, hf⟩ := fc_un (by decide) hf
  have f0 : 1 * w_fi ws (n_v vs 0) 6 + ((-1) * w_fi ws (n_v vs 0) 8 + 0) ≤ 8 := f0
  obtain ⟨f1, hf⟩ := fc_un (by decide) hf
  have f1 : (-1) * w_fi ws (n_v vs 0) 6 + (1 * w_fi ws (n_v vs 0) 8 + 0) ≤ 0 := f1
  obtain ⟨f2, hf⟩ := fc_un (by decide) hf
  have f2 : (1 * w_fi ws (n_v vs 0) 7 + 0 ≤ 3) ∨ (1 * w_fi ws (n_v vs 0) 9 + ((-1) * v_iv (n_v vs 10) + 0) ≤ 0) := f2
  obtain ⟨f3, hf⟩ := fc_un (by decide) hf
  have f3 : (1 * w_fi ws (n_v vs 0) 7 + 0 ≤ 3) ∨ ((-1) * w_fi ws (n_v vs 0) 9 + (1 * v_iv (n_v vs 10) + 0) ≤ 0) := f3
  obtain ⟨f4, hf⟩ := fc_un (by decide) hf
  have f4 : 1 * w_fi ws (n_v vs 0) 6 + ((-1) * w_fi ws (n_v vs 0) 8 + (2000 * v_iv (n_v vs 11) + 0)) ≤ 2008 := f4
  obtain ⟨f5, hf⟩ := fc_un (by decide) hf
  have f5 : 1 * w_fi ws (n_v vs 0) 8 + ((-1) * w_fi ws (n_v vs 0) 6 + (2001 * v_iv (n_v vs 11) + 0)) ≤ 2000 := f5
  obtain ⟨ta1, w1, le1, ⟨_, s1⟩, hf⟩ := fc_us (by decide) hf
  obtain ⟨ta2, w2, le2, ⟨_, s2⟩, hf⟩ := fc_us (by decide) hf
  obtain ⟨f8, hf⟩ := fc_un (by decide) hf
  have f8 : v_iv (n_v vs 11) ≠ 0 := f8
  have kz_0_6 : 0 ≤ w_fi ws (n_v vs 0) 6 ∧ w_fi ws (n_v vs 0) 6 ≤ 2000 := tv_rng (th_fd hD hth r0 (g := GG_8) rfl (k := 6) (t := (0, 0, 2000, [])) rfl rfl)
  have kz_0_7 : (-128) ≤ w_fi ws (n_v vs 0) 7 ∧ w_fi ws (n_v vs 0) 7 ≤ 127 := tv_rng (th_fd hD hth r0 (g := GG_8) rfl (k := 7) (t := (0, -128, 127, [])) rfl rfl)
  have kz_0_8 : 0 ≤ w_fi ws (n_v vs 0) 8 ∧ w_fi ws (n_v vs 0) 8 ≤ 2000 := tv_rng (th_fd hD hth r0 (g := GG_8) rfl (k := 8) (t := (0, 0, 2000, [])) rfl rfl)
  have kz_0_9 : (-2147483648) ≤ w_fi ws (n_v vs 0) 9 ∧ w_fi ws (n_v vs 0) 9 ≤ 1000000 := tv_rng (th_fd hD hth r0 (g := GG_8) rfl (k := 9) (t := (0, -2147483648, 1000000, [])) rfl rfl)
  have kv : (-2147483648) ≤ w_fi ws (n_v vs 0) 9 ∧ w_fi ws (n_v vs 0) 9 ≤ 1000000 := tv_rng (th_fd hD hth r0 (g := GG_8) rfl (k := 9) (t := (0, -2147483648, 1000000, [])) rfl rfl)
  obtain ⟨x, ex, hx⟩ := iv_ex (ta := ta) (lo := (-2147483648)) (hi := 1000000) (z := w_fi ws (n_v vs 0) 9) (by omega) (by omega) (by decide) (by decide)
  have ex2 : v_iv (Value.int x) = w_fi ws (n_v vs 0) 9 := ex
  have ex3 : (-2147483648) ≤ v_iv (Value.int x) ∧ v_iv (Value.int x) ≤ 1000000 := tv_rng hx
  have e_0 : n_v (vs ++ [Value.int x]) 0 = n_v vs 0 := n_v_old (by rw [hl]; decide)
  have e_21 : n_v (vs ++ [Value.int x]) 21 = Value.int x := n_v_new hl
  have nf0 : fc_1 (20, [0, 21], [30, 0, 1, 1, 9, -1, 0, 0]) ws (vs ++ [Value.int x]) := by
    refine ⟨fun n hn => ?_, ?_⟩
    · have hn : n ∈ [0, 21] := hn
      rw [List.length_append, hl]
      simp only [List.mem_cons, List.not_mem_nil, or_false] at hn
      show n < 21 + 1; omega
    · show 1 * w_fi ws (n_v (vs ++ [Value.int x]) 0) 9 + ((-1) * v_iv (n_v (vs ++ [Value.int x]) 21) + 0) ≤ 0
      rw [e_0]
      rw [e_21]
      omega
  have nf1 : fc_1 (20, [0, 21], [30, 0, -1, 1, 9, 1, 0, 0]) ws (vs ++ [Value.int x]) := by
    refine ⟨fun n hn => ?_, ?_⟩
    · have hn : n ∈ [0, 21] := hn
      rw [List.length_append, hl]
      simp only [List.mem_cons, List.not_mem_nil, or_false] at hn
      show n < 21 + 1; omega
    · show (-1) * w_fi ws (n_v (vs ++ [Value.int x]) 0) 9 + (1 * v_iv (n_v (vs ++ [Value.int x]) 21) + 0) ≤ 0
      rw [e_0]
      rw [e_21]
      omega
  exact ⟨fun q hq => (by cases hq), [Value.int x], ag_one hx, List.forall_mem_cons.mpr ⟨⟨by decide, nf0⟩, List.forall_mem_cons.mpr ⟨⟨by decide, nf1⟩, (fun _ h => (by cases h))⟩⟩, (fun _ h => (by cases h))⟩
def o_Re_readEdges_9 : or_T := (254, 6, [(0, (2, 0, 0, [8]))], [(20, [0], [30, 9, 1, 1, 9]), (20, [0], [30, -1, -1, 1, 9])], [], [(0, -2147483648, 1000000, [])], [(20, [0, 6], [30, 0, 1, 1, 9, -1, 0, 0]), (20, [0, 6], [30, 0, -1, 1, 9, 1, 0, 0])], [], [])
theorem oo_Re_readEdges_9 {kA : Nat → ClassId} : or_ok kA GG o_Re_readEdges_9 := by
  intro A ta ws vs hD hth hl hk hds hf
  have hl : vs.length = 6 := hl
  have hk : ∀ q ∈ ([(0, (2, 0, 0, [8]))] : List (Nat × tv_T)), tv_ok ta q.2 (n_v vs q.1) := hk
  obtain ⟨t0, hk⟩ := List.forall_mem_cons.mp hk
  have t0 : tv_ok ta (2, 0, 0, [8]) (n_v vs 0) := t0
  have r0 : ta (v_ad (n_v vs 0)) = some 8 := tv_rg t0
  have hf : fc_ok [(20, [0], [30, 9, 1, 1, 9]), (20, [0], [30, -1, -1, 1, 9])] ta ws vs := hf
  obtain ⟨f0, hf⟩ := fc_un (by decide) hf
  have f0 : 1 * w_fi ws (n_v vs 0) 9 + 0 ≤ 9 := f0
  obtain ⟨f1, hf⟩ := fc_un (by decide) hf
  have f1 : (-1) * w_fi ws (n_v vs 0) 9 + 0 ≤ (-1) := f1
  have kz_0_9 : (-2147483648) ≤ w_fi ws (n_v vs 0) 9 ∧ w_fi ws (n_v vs 0) 9 ≤ 1000000 := tv_rng (th_fd hD hth r0 (g := GG_8) rfl (k := 9) (t := (0, -2147483648, 1000000, [])) rfl rfl)
  have kv : (-2147483648) ≤ w_fi ws (n_v vs 0) 9 ∧ w_fi ws (n_v vs 0) 9 ≤ 1000000 := tv_rng (th_fd hD hth r0 (g := GG_8) rfl (k := 9) (t := (0, -2147483648, 1000000, [])) rfl rfl)
  obtain ⟨x, ex, hx⟩ := iv_ex (ta := ta) (lo := (-2147483648)) (hi := 1000000) (z := w_fi ws (n_v vs 0) 9) (by omega) (by omega) (by decide) (by decide)
  have ex2 : v_iv (Value.int x) = w_fi ws (n_v vs 0) 9 := ex
  have ex3 : (-2147483648) ≤ v_iv (Value.int x) ∧ v_iv (Value.int x) ≤ 1000000 := tv_rng hx
  have e_0 : n_v (vs ++ [Value.int x]) 0 = n_v vs 0 := n_v_old (by rw [hl]; decide)
  have e_6 : n_v (vs ++ [Value.int x]) 6 = Value.int x := n_v_new hl
  have nf0 : fc_1 (20, [0, 6], [30, 0, 1, 1, 9, -1, 0, 0]) ws (vs ++ [Value.int x]) := by
    refine ⟨fun n hn => ?_, ?_⟩
    · have hn : n ∈ [0, 6] := hn
      rw [List.length_append, hl]
      simp only [List.mem_cons, List.not_mem_nil, or_false] at hn
      show n < 6 + 1; omega
    · show 1 * w_fi ws (n_v (vs ++ [Value.int x]) 0) 9 + ((-1) * v_iv (n_v (vs ++ [Value.int x]) 6) + 0) ≤ 0
      rw [e_0]
      rw [e_6]
      omega
  have nf1 : fc_1 (20, [0, 6], [30, 0, -1, 1, 9, 1, 0, 0]) ws (vs ++ [Value.int x]) := by
    refine ⟨fun n hn => ?_, ?_⟩
    · have hn : n ∈ [0, 6] := hn
      rw [List.length_append, hl]
      simp only [List.mem_cons, List.not_mem_nil, or_false] at hn
      show n < 6 + 1; omega
    · show (-1) * w_fi ws (n_v (vs ++ [Value.int x]) 0) 9 + (1 * v_iv (n_v (vs ++ [Value.int x]) 6) + 0) ≤ 0
      rw [e_0]
      rw [e_6]
      omega
  exact ⟨fun q hq => (by cases hq), [Value.int x], ag_one hx, List.forall_mem_cons.mpr ⟨⟨by decide, nf0⟩, List.forall_mem_cons.mpr ⟨⟨by decide, nf1⟩, (fun _ h => (by cases h))⟩⟩, (fun _ h => (by cases h))⟩
def o_Re_readEdges_10 : or_T := (246, 8, [(0, (2, 0, 0, [8])), (7, (0, -2147483648, 1000000, []))], [(9, [7, 0], [9]), (20, [0], [30, 9, 1, 1, 9]), (20, [0], [30, -1, -1, 1, 9])], [(7, (0, 0, 9, []))], [], [], [], [])
theorem oo_Re_readEdges_10 {kA : Nat → ClassId} : or_ok kA GG o_Re_readEdges_10 := by
  intro A ta ws vs hD hth hl hk hds hf
  have hl : vs.length = 8 := hl
  have hk : ∀ q ∈ ([(0, (2, 0, 0, [8])), (7, (0, -2147483648, 1000000, []))] : List (Nat × tv_T)), tv_ok ta q.2 (n_v vs q.1) := hk
  obtain ⟨t0, hk⟩ := List.forall_mem_cons.mp hk
  have t0 : tv_ok ta (2, 0, 0, [8]) (n_v vs 0) := t0
  have r0 : ta (v_ad (n_v vs 0)) = some 8 := tv_rg t0
  obtain ⟨t7, hk⟩ := List.forall_mem_cons.mp hk
  have t7 : tv_ok ta (0, -2147483648, 1000000, []) (n_v vs 7) := t7
  have k7 : (-2147483648) ≤ v_iv (n_v vs 7) ∧ v_iv (n_v vs 7) ≤ 1000000 := tv_rng t7
  have hf : fc_ok [(9, [7, 0], [9]), (20, [0], [30, 9, 1, 1, 9]), (20, [0], [30, -1, -1, 1, 9])] ta ws vs := hf
  obtain ⟨f0, hf⟩ := fc_un (by decide) hf
  have f0 : n_v vs 7 = w_fd ws (v_ad (n_v vs 0)) 9 := f0
  obtain ⟨f1, hf⟩ := fc_un (by decide) hf
  have f1 : 1 * w_fi ws (n_v vs 0) 9 + 0 ≤ 9 := f1
  obtain ⟨f2, hf⟩ := fc_un (by decide) hf
  have f2 : (-1) * w_fi ws (n_v vs 0) 9 + 0 ≤ (-1) := f2
  have g0 : v_iv (n_v vs 7) = w_fi ws (n_v vs 0) 9 := congrArg v_iv f0
  have kz_0_9 : (-2147483648) ≤ w_fi ws (n_v vs 0) 9 ∧ w_fi ws (n_v vs 0) 9 ≤ 1000000 := tv_rng (th_fd hD hth r0 (g := GG_8) rfl (k := 9) (t := (0, -2147483648, 1000000, [])) rfl rfl)
  have rf7 : tv_ok ta (0, 0, 9, []) (n_v vs 7) := tv_in t7 (by omega) (by omega)
  refine ⟨List.forall_mem_cons.mpr ⟨rf7, (fun _ h => (by cases h))⟩, [], trivial, ?_, (fun _ h => (by cases h))⟩
  rw [List.append_nil]
  exact (fun _ h => (by cases h))
def n_Re_readEdges_an : List an_T := [(54, [(0, (2, 0, 0, [8])), (1, (0, 0, 23, [])), (2, (0, 0, 48, [])), (3, (0, 0, 49, []))], [], (0, 0), [(0, 0, 99946), (1, 3, 49), (0, 0, 100000)], [(1, 2, -1000000000000, 23), (1, 3, -1000000000000, 23), (2, 1, -1000000000000, 48), (2, 3, -1000000000000, 48)], [], [], 0, [], []), (223, [(0, (2, 0, 0, [8])), (1, (0, 0, 23, [])), (2, (0, 0, 48, [])), (3, (0, 0, 48, []))], [], (0, 0), [(0, 0, 99777), (1, 3, 48), (0, 0, 100000)], [(1, 2, -1000000000000, 23), (1, 3, -1000000000000, 23), (2, 1, -1000000000000, 48), (2, 3, -1000000000000, 0), (3, 1, -1000000000000, 48)], [], [], 0, [], [(20, [0], [30, 9, 1, 1, 9]), (20, [0], [30, -1, -1, 1, 9])])]
def t_Re_readEdges_ct : ct_L := [(1, 57, e_Re_advance), (1, 107, e_Re_isName), (1, 113, e_Re_fail), (1, 127, e_Re_meetNode), (1, 159, e_Gr_edgeBetween), (1, 162, e_Gr_addEdge), (643, 132, e_Re_readValue_at_s5003), (1000000, 166, en_ro [] (2, 0, 0, [5003]))]
set_option maxRecDepth 100000 in
theorem c_Re_readEdges {l : Launch} {D : va_G} {kA : Nat → ClassId} (h_Gr_addEdge : ct_ok l D kA GG y_Gr_addEdge z_Gr_addEdge e_Gr_addEdge) (h_Gr_edgeBetween : ct_ok l D kA GG y_Gr_edgeBetween z_Gr_edgeBetween e_Gr_edgeBetween) (h_Re_advance : ct_ok l D kA GG y_Re_advance z_Re_advance e_Re_advance) (h_Re_fail : ct_ok l D kA GG y_Re_fail z_Re_fail e_Re_fail) (h_Re_isName : ct_ok l D kA GG y_Re_isName z_Re_isName e_Re_isName) (h_Re_meetNode : ct_ok l D kA GG y_Re_meetNode z_Re_meetNode e_Re_meetNode) (h_Re_readValue_at_s5003 : ct_ok l D kA GG y_Re_readValue_at_s5003 z_Re_readValue_at_s5003 e_Re_readValue_at_s5003) : ct_ok l D kA GG y_Re_readEdges z_Re_readEdges e_Re_readEdges := chk_all_ok (FT := [(28, 8, 4), (38, 8, 7), (44, 8, 9), (156, 3, 1), (168, 3, 9)]) (PT := []) (CT := t_Re_readEdges_ct) (KT := []) (NT := []) (AN := n_Re_readEdges_an) (OT := [o_Re_readEdges_0, o_Re_readEdges_1, o_Re_readEdges_2, o_Re_readEdges_3, o_Re_readEdges_4, o_Re_readEdges_5, o_Re_readEdges_6, o_Re_readEdges_7, o_Re_readEdges_8, o_Re_readEdges_9, o_Re_readEdges_10]) 3 1068 (List.forall_mem_cons.mpr ⟨oo_Re_readEdges_0, List.forall_mem_cons.mpr ⟨oo_Re_readEdges_1, List.forall_mem_cons.mpr ⟨oo_Re_readEdges_2, List.forall_mem_cons.mpr ⟨oo_Re_readEdges_3, List.forall_mem_cons.mpr ⟨oo_Re_readEdges_4, List.forall_mem_cons.mpr ⟨oo_Re_readEdges_5, List.forall_mem_cons.mpr ⟨oo_Re_readEdges_6, List.forall_mem_cons.mpr ⟨oo_Re_readEdges_7, List.forall_mem_cons.mpr ⟨oo_Re_readEdges_8, List.forall_mem_cons.mpr ⟨oo_Re_readEdges_9, List.forall_mem_cons.mpr ⟨oo_Re_readEdges_10, List.forall_mem_nil _⟩⟩⟩⟩⟩⟩⟩⟩⟩⟩⟩) (by decide +kernel) ⟨List.forall_mem_cons.mpr ⟨gf_Re_28, List.forall_mem_cons.mpr ⟨gf_Re_38, List.forall_mem_cons.mpr ⟨gf_Re_44, List.forall_mem_cons.mpr ⟨gf_Re_156, List.forall_mem_cons.mpr ⟨gf_Re_168, List.forall_mem_nil _⟩⟩⟩⟩⟩, List.forall_mem_nil _, List.forall_mem_cons.mpr ⟨cl_virtual (y := y_Re_advance) (ci := 8) rfl rfl ⟨_, _, rfl⟩ (by decide +kernel) h_Re_advance wm_645 wm_2 wm_642 wm_644 wv_1_0 ⟨by decide, by decide, by decide +kernel⟩ (by decide), List.forall_mem_cons.mpr ⟨cl_virtual (y := y_Re_isName) (ci := 8) rfl rfl ⟨_, _, rfl⟩ (by decide +kernel) h_Re_isName wm_726 wm_2 wm_723 wm_725 wv_1_4 ⟨by decide, by decide, by decide +kernel⟩ (by decide), List.forall_mem_cons.mpr ⟨cl_virtual (y := y_Re_fail) (ci := 8) rfl rfl ⟨_, _, rfl⟩ (by decide +kernel) h_Re_fail wm_731 wm_2 wm_728 wm_730 wv_1_5 ⟨by decide, by decide, by decide +kernel⟩ (by decide), List.forall_mem_cons.mpr ⟨cl_virtual (y := y_Re_meetNode) (ci := 8) rfl rfl ⟨_, _, rfl⟩ (by decide +kernel) h_Re_meetNode wm_735 wm_2 wm_732 wm_734 wv_1_6 ⟨by decide, by decide, by decide +kernel⟩ (by decide), List.forall_mem_cons.mpr ⟨cl_virtual (y := y_Gr_edgeBetween) (ci := 3) rfl rfl ⟨_, _, rfl⟩ (by decide +kernel) h_Gr_edgeBetween wm_768 wm_3 wm_765 wm_766 wm_767 ⟨by decide, by decide, by decide +kernel⟩ (by decide), List.forall_mem_cons.mpr ⟨cl_virtual (y := y_Gr_addEdge) (ci := 3) rfl rfl ⟨_, _, rfl⟩ (by decide +kernel) h_Gr_addEdge wm_772 wm_3 wm_769 wm_770 wm_771 ⟨by decide, by decide, by decide +kernel⟩ (by decide), List.forall_mem_cons.mpr ⟨cl_virtual (y := y_Re_readValue_at_s5003) (ci := 8) rfl rfl ⟨_, _, rfl⟩ (by decide +kernel) h_Re_readValue_at_s5003 wm_755 wm_2 wm_752 wm_754 wv_1_8 ⟨by decide, by decide, by decide +kernel⟩ (by decide), List.forall_mem_cons.mpr ⟨cl_ldc (own := "DrawingHouse$Reader") (idx := 166) (i := 3) (tx := "weight") (by decide +kernel) (by decide +kernel) (by decide +kernel), List.forall_mem_nil _⟩⟩⟩⟩⟩⟩⟩⟩, List.forall_mem_nil _, List.forall_mem_nil _, GG_pl⟩ (by decide +kernel)
def n_Sy_compileProduct_at_k0_an : List an_T := [(12, [(0, (2, 0, 0, [11])), (1, (0, 0, 0, [])), (2, (0, 0, 2000, []))], [], (0, 0), [(0, 0, 99988), (1, 2, 2000), (0, 0, 100000)], [], [((0, 3), (2, 0, 0, [109]))], [], 0, [], [])]
def t_Sy_compileProduct_at_k0_ct : ct_L := [(1, 69, e_Sy_advance), (1, 128, e_Sy_emit), (10, 158, e_Sy_compileValue_at_k0), (178, 158, e_Sy_compileValue_at_k0)]
set_option maxRecDepth 100000 in
theorem c_Sy_compileProduct_at_k0 {l : Launch} {D : va_G} {kA : Nat → ClassId} (h_Sy_advance : ct_ok l D kA GG y_Sy_advance z_Sy_advance e_Sy_advance) (h_Sy_compileValue_at_k0 : ct_ok l D kA GG y_Sy_compileValue_at_k0 z_Sy_compileValue_at_k0 e_Sy_compileValue_at_k0) (h_Sy_emit : ct_ok l D kA GG y_Sy_emit z_Sy_emit e_Sy_emit) : ct_ok l D kA GG y_Sy_compileProduct_at_k0 z_Sy_compileProduct_at_k0 e_Sy_compileProduct_at_k0 := chk_all_ok (FT := [(31, 11, 6)]) (PT := []) (CT := t_Sy_compileProduct_at_k0_ct) (KT := []) (NT := []) (AN := n_Sy_compileProduct_at_k0_an) (OT := []) 3 268 (List.forall_mem_nil _) (by decide +kernel) ⟨List.forall_mem_cons.mpr ⟨gf_Sy_31, List.forall_mem_nil _⟩, List.forall_mem_nil _, List.forall_mem_cons.mpr ⟨cl_virtual (y := y_Sy_advance) (ci := 11) rfl rfl ⟨_, _, rfl⟩ (by decide +kernel) h_Sy_advance wm_2158 wm_23 wm_2155 wm_2157 wv_10_10 ⟨by decide, by decide, by decide +kernel⟩ (by decide), List.forall_mem_cons.mpr ⟨cl_virtual (y := y_Sy_emit) (ci := 11) rfl rfl ⟨_, _, rfl⟩ (by decide +kernel) h_Sy_emit wm_2258 wm_23 wm_2255 wm_2257 wv_11_2 ⟨by decide, by decide, by decide +kernel⟩ (by decide), List.forall_mem_cons.mpr ⟨cl_virtual (y := y_Sy_compileValue_at_k0) (ci := 11) rfl rfl ⟨_, _, rfl⟩ (by decide +kernel) h_Sy_compileValue_at_k0 wm_2274 wm_23 wm_2271 wm_2273 wv_11_6 ⟨by decide, by decide, by decide +kernel⟩ (by decide), List.forall_mem_cons.mpr ⟨cl_virtual (y := y_Sy_compileValue_at_k0) (ci := 11) rfl rfl ⟨_, _, rfl⟩ (by decide +kernel) h_Sy_compileValue_at_k0 wm_2274 wm_23 wm_2271 wm_2273 wv_11_6 ⟨by decide, by decide, by decide +kernel⟩ (by decide), List.forall_mem_nil _⟩⟩⟩⟩, List.forall_mem_nil _, List.forall_mem_nil _, GG_pl⟩ (by decide +kernel)
def n_Sy_compileProduct_at_k1_an : List an_T := [(12, [(0, (2, 0, 0, [11])), (1, (0, 1, 1, [])), (2, (0, 0, 2000, []))], [], (0, 0), [(0, 0, 99988), (1, 2, 2000), (0, 0, 100000)], [], [((0, 3), (2, 0, 0, [109]))], [], 0, [], [])]
def t_Sy_compileProduct_at_k1_ct : ct_L := [(1, 69, e_Sy_advance), (1, 128, e_Sy_emit), (10, 158, e_Sy_compileValue_at_k1), (178, 158, e_Sy_compileValue_at_k1)]
set_option maxRecDepth 100000 in
theorem c_Sy_compileProduct_at_k1 {l : Launch} {D : va_G} {kA : Nat → ClassId} (h_Sy_advance : ct_ok l D kA GG y_Sy_advance z_Sy_advance e_Sy_advance) (h_Sy_compileValue_at_k1 : ct_ok l D kA GG y_Sy_compileValue_at_k1 z_Sy_compileValue_at_k1 e_Sy_compileValue_at_k1) (h_Sy_emit : ct_ok l D kA GG y_Sy_emit z_Sy_emit e_Sy_emit) : ct_ok l D kA GG y_Sy_compileProduct_at_k1 z_Sy_compileProduct_at_k1 e_Sy_compileProduct_at_k1 := chk_all_ok (FT := [(31, 11, 6)]) (PT := []) (CT := t_Sy_compileProduct_at_k1_ct) (KT := []) (NT := []) (AN := n_Sy_compileProduct_at_k1_an) (OT := []) 3 268 (List.forall_mem_nil _) (by decide +kernel) ⟨List.forall_mem_cons.mpr ⟨gf_Sy_31, List.forall_mem_nil _⟩, List.forall_mem_nil _, List.forall_mem_cons.mpr ⟨cl_virtual (y := y_Sy_advance) (ci := 11) rfl rfl ⟨_, _, rfl⟩ (by decide +kernel) h_Sy_advance wm_2158 wm_23 wm_2155 wm_2157 wv_10_10 ⟨by decide, by decide, by decide +kernel⟩ (by decide), List.forall_mem_cons.mpr ⟨cl_virtual (y := y_Sy_emit) (ci := 11) rfl rfl ⟨_, _, rfl⟩ (by decide +kernel) h_Sy_emit wm_2258 wm_23 wm_2255 wm_2257 wv_11_2 ⟨by decide, by decide, by decide +kernel⟩ (by decide), List.forall_mem_cons.mpr ⟨cl_virtual (y := y_Sy_compileValue_at_k1) (ci := 11) rfl rfl ⟨_, _, rfl⟩ (by decide +kernel) h_Sy_compileValue_at_k1 wm_2274 wm_23 wm_2271 wm_2273 wv_11_6 ⟨by decide, by decide, by decide +kernel⟩ (by decide), List.forall_mem_cons.mpr ⟨cl_virtual (y := y_Sy_compileValue_at_k1) (ci := 11) rfl rfl ⟨_, _, rfl⟩ (by decide +kernel) h_Sy_compileValue_at_k1 wm_2274 wm_23 wm_2271 wm_2273 wv_11_6 ⟨by decide, by decide, by decide +kernel⟩ (by decide), List.forall_mem_nil _⟩⟩⟩⟩, List.forall_mem_nil _, List.forall_mem_nil _, GG_pl⟩ (by decide +kernel)
def n_Sy_compileProduct_at_k10_an : List an_T := [(12, [(0, (2, 0, 0, [11])), (1, (0, 10, 10, [])), (2, (0, 0, 2000, []))], [], (0, 0), [(0, 0, 99988), (1, 2, 2000), (0, 0, 100000)], [], [((0, 3), (2, 0, 0, [109]))], [], 0, [], [])]
def t_Sy_compileProduct_at_k10_ct : ct_L := [(1, 69, e_Sy_advance), (1, 128, e_Sy_emit), (10, 158, e_Sy_compileValue_at_k10), (178, 158, e_Sy_compileValue_at_k10)]
set_option maxRecDepth 100000 in
theorem c_Sy_compileProduct_at_k10 {l : Launch} {D : va_G} {kA : Nat → ClassId} (h_Sy_advance : ct_ok l D kA GG y_Sy_advance z_Sy_advance e_Sy_advance) (h_Sy_compileValue_at_k10 : ct_ok l D kA GG y_Sy_compileValue_at_k10 z_Sy_compileValue_at_k10 e_Sy_compileValue_at_k10) (h_Sy_emit : ct_ok l D kA GG y_Sy_emit z_Sy_emit e_Sy_emit) : ct_ok l D kA GG y_Sy_compileProduct_at_k10 z_Sy_compileProduct_at_k10 e_Sy_compileProduct_at_k10 := chk_all_ok (FT := [(31, 11, 6)]) (PT := []) (CT := t_Sy_compileProduct_at_k10_ct) (KT := []) (NT := []) (AN := n_Sy_compileProduct_at_k10_an) (OT := []) 3 268 (List.forall_mem_nil _) (by decide +kernel) ⟨List.forall_mem_cons.mpr ⟨gf_Sy_31, List.forall_mem_nil _⟩, List.forall_mem_nil _, List.forall_mem_cons.mpr ⟨cl_virtual (y := y_Sy_advance) (ci := 11) rfl rfl ⟨_, _, rfl⟩ (by decide +kernel) h_Sy_advance wm_2158 wm_23 wm_2155 wm_2157 wv_10_10 ⟨by decide, by decide, by decide +kernel⟩ (by decide), List.forall_mem_cons.mpr ⟨cl_virtual (y := y_Sy_emit) (ci := 11) rfl rfl ⟨_, _, rfl⟩ (by decide +kernel) h_Sy_emit wm_2258 wm_23 wm_2255 wm_2257 wv_11_2 ⟨by decide, by decide, by decide +kernel⟩ (by decide), List.forall_mem_cons.mpr ⟨cl_virtual (y := y_Sy_compileValue_at_k10) (ci := 11) rfl rfl ⟨_, _, rfl⟩ (by decide +kernel) h_Sy_compileValue_at_k10 wm_2274 wm_23 wm_2271 wm_2273 wv_11_6 ⟨by decide, by decide, by decide +kernel⟩ (by decide), List.forall_mem_cons.mpr ⟨cl_virtual (y := y_Sy_compileValue_at_k10) (ci := 11) rfl rfl ⟨_, _, rfl⟩ (by decide +kernel) h_Sy_compileValue_at_k10 wm_2274 wm_23 wm_2271 wm_2273 wv_11_6 ⟨by decide, by decide, by decide +kernel⟩ (by decide), List.forall_mem_nil _⟩⟩⟩⟩, List.forall_mem_nil _, List.forall_mem_nil _, GG_pl⟩ (by decide +kernel)
def n_Sy_compileProduct_at_k11_an : List an_T := [(12, [(0, (2, 0, 0, [11])), (1, (0, 11, 11, [])), (2, (0, 0, 2000, []))], [], (0, 0), [(0, 0, 99988), (1, 2, 2000), (0, 0, 100000)], [], [((0, 3), (2, 0, 0, [109]))], [], 0, [], [])]
def t_Sy_compileProduct_at_k11_ct : ct_L := [(1, 69, e_Sy_advance), (1, 128, e_Sy_emit), (10, 158, e_Sy_compileValue_at_k11), (178, 158, e_Sy_compileValue_at_k11)]
set_option maxRecDepth 100000 in
theorem c_Sy_compileProduct_at_k11 {l : Launch} {D : va_G} {kA : Nat → ClassId} (h_Sy_advance : ct_ok l D kA GG y_Sy_advance z_Sy_advance e_Sy_advance) (h_Sy_compileValue_at_k11 : ct_ok l D kA GG y_Sy_compileValue_at_k11 z_Sy_compileValue_at_k11 e_Sy_compileValue_at_k11) (h_Sy_emit : ct_ok l D kA GG y_Sy_emit z_Sy_emit e_Sy_emit) : ct_ok l D kA GG y_Sy_compileProduct_at_k11 z_Sy_compileProduct_at_k11 e_Sy_compileProduct_at_k11 := chk_all_ok (FT := [(31, 11, 6)]) (PT := []) (CT := t_Sy_compileProduct_at_k11_ct) (KT := []) (NT := []) (AN := n_Sy_compileProduct_at_k11_an) (OT := []) 3 268 (List.forall_mem_nil _) (by decide +kernel) ⟨List.forall_mem_cons.mpr ⟨gf_Sy_31, List.forall_mem_nil _⟩, List.forall_mem_nil _, List.forall_mem_cons.mpr ⟨cl_virtual (y := y_Sy_advance) (ci := 11) rfl rfl ⟨_, _, rfl⟩ (by decide +kernel) h_Sy_advance wm_2158 wm_23 wm_2155 wm_2157 wv_10_10 ⟨by decide, by decide, by decide +kernel⟩ (by decide), List.forall_mem_cons.mpr ⟨cl_virtual (y := y_Sy_emit) (ci := 11) rfl rfl ⟨_, _, rfl⟩ (by decide +kernel) h_Sy_emit wm_2258 wm_23 wm_2255 wm_2257 wv_11_2 ⟨by decide, by decide, by decide +kernel⟩ (by decide), List.forall_mem_cons.mpr ⟨cl_virtual (y := y_Sy_compileValue_at_k11) (ci := 11) rfl rfl ⟨_, _, rfl⟩ (by decide +kernel) h_Sy_compileValue_at_k11 wm_2274 wm_23 wm_2271 wm_2273 wv_11_6 ⟨by decide, by decide, by decide +kernel⟩ (by decide), List.forall_mem_cons.mpr ⟨cl_virtual (y := y_Sy_compileValue_at_k11) (ci := 11) rfl rfl ⟨_, _, rfl⟩ (by decide +kernel) h_Sy_compileValue_at_k11 wm_2274 wm_23 wm_2271 wm_2273 wv_11_6 ⟨by decide, by decide, by decide +kernel⟩ (by decide), List.forall_mem_nil _⟩⟩⟩⟩, List.forall_mem_nil _, List.forall_mem_nil _, GG_pl⟩ (by decide +kernel)
