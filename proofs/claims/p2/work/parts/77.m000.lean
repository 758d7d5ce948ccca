def o_Mo_dx_0 : or_T := (18, 3, [(0, (0, 1, 3, [])), (1, (0, 2, 2, [])), (2, (0, 0, 0, []))], [(7, [0, 1], [1]), (8, [0], [1])], [], [], [(20, [0, 2], [50, 0, 0, 3, 14, 2, 6, 1, 2, 1, 0, 0, 0, 1, 2, 1, 1, 0, 1, 3, 14, 2, 6, 1, 2, 1, 0, 0, 2, 1, 2, 1, 1, 0, -1, 2, 6, 7, 2, 1, 0, 0, 0, 2, 6, 7, 2, 1, 0, 0, 2, 1, 2, 1, 1, 0, 0])], [], [])
theorem oo_Mo_dx_0 {kA : Nat → ClassId} : or_ok PRD kA GG o_Mo_dx_0 := by
  intro A ta ws vs hD hth hl hk hds hf
  have hl : vs.length = 3 := hl
  have hk : ∀ q ∈ ([(0, (0, 1, 3, [])), (1, (0, 2, 2, [])), (2, (0, 0, 0, []))] : List (Nat × tv_T)), tv_ok ta q.2 (n_v vs q.1) := hk
  obtain ⟨t0, hk⟩ := List.forall_mem_cons.mp hk
  have t0 : tv_ok ta (0, 1, 3, []) (n_v vs 0) := t0
  have k0 : 1 ≤ v_iv (n_v vs 0) ∧ v_iv (n_v vs 0) ≤ 3 := tv_rng t0
  obtain ⟨t1, hk⟩ := List.forall_mem_cons.mp hk
  have t1 : tv_ok ta (0, 2, 2, []) (n_v vs 1) := t1
  have k1 : 2 ≤ v_iv (n_v vs 1) ∧ v_iv (n_v vs 1) ≤ 2 := tv_rng t1
  obtain ⟨t2, hk⟩ := List.forall_mem_cons.mp hk
  have t2 : tv_ok ta (0, 0, 0, []) (n_v vs 2) := t2
  have k2 : 0 ≤ v_iv (n_v vs 2) ∧ v_iv (n_v vs 2) ≤ 0 := tv_rng t2
  have hf : fc_ok PRD [(7, [0, 1], [1]), (8, [0], [1])] ta ws vs := hf
  obtain ⟨f0, hf⟩ := fc_un (show (7 : Nat) < 100 from by decide) hf
  have f0 : v_iv (n_v vs 0) ≠ v_iv (n_v vs 1) := f0
  obtain ⟨f1, hf⟩ := fc_un (show (8 : Nat) < 100 from by decide) hf
  have f1 : v_iv (n_v vs 0) ≠ 0 := f1
  have nf0 : fc_1 PRD (20, [0, 2], [50, 0, 0, 3, 14, 2, 6, 1, 2, 1, 0, 0, 0, 1, 2, 1, 1, 0, 1, 3, 14, 2, 6, 1, 2, 1, 0, 0, 2, 1, 2, 1, 1, 0, -1, 2, 6, 7, 2, 1, 0, 0, 0, 2, 6, 7, 2, 1, 0, 0, 2, 1, 2, 1, 1, 0, 0]) ws (vs) := by
    refine ⟨fun n hn => ?_, ?_⟩
    · have hn : n ∈ [0, 2] := hn
      rw [hl]
      simp only [List.mem_cons, List.not_mem_nil, or_false] at hn
      show n < 3; omega
    · show ((v_iv (n_v vs 0) = 0) ∧ (v_iv (n_v vs 2) = 1)) ∨ (((v_iv (n_v vs 0) = 2) ∧ (v_iv (n_v vs 2) = (-1))) ∨ ((v_iv (n_v vs 0) ≠ 0) ∧ ((v_iv (n_v vs 0) ≠ 2) ∧ (v_iv (n_v vs 2) = 0))))
      first | omega | grind
  refine ⟨(fun _ h => (by cases h)), [], trivial, ?_, (fun _ h => (by cases h))⟩
  rw [List.append_nil]
  exact List.forall_mem_cons.mpr ⟨⟨show (20 : Nat) < 100 from by decide, nf0⟩, (fun _ h => (by cases h))⟩
def o_Mo_dx_1 : or_T := (18, 3, [(0, (0, 2, 2, [])), (1, (0, 2, 2, [])), (2, (0, -1, -1, []))], [(7, [0, 1], [0]), (8, [0], [1])], [], [], [(20, [0, 2], [50, 0, 0, 3, 14, 2, 6, 1, 2, 1, 0, 0, 0, 1, 2, 1, 1, 0, 1, 3, 14, 2, 6, 1, 2, 1, 0, 0, 2, 1, 2, 1, 1, 0, -1, 2, 6, 7, 2, 1, 0, 0, 0, 2, 6, 7, 2, 1, 0, 0, 2, 1, 2, 1, 1, 0, 0])], [], [])
theorem oo_Mo_dx_1 {kA : Nat → ClassId} : or_ok PRD kA GG o_Mo_dx_1 := by
  intro A ta ws vs hD hth hl hk hds hf
  have hl : vs.length = 3 := hl
  have hk : ∀ q ∈ ([(0, (0, 2, 2, [])), (1, (0, 2, 2, [])), (2, (0, -1, -1, []))] : List (Nat × tv_T)), tv_ok ta q.2 (n_v vs q.1) := hk
  obtain ⟨t0, hk⟩ := List.forall_mem_cons.mp hk
  have t0 : tv_ok ta (0, 2, 2, []) (n_v vs 0) := t0
  have k0 : 2 ≤ v_iv (n_v vs 0) ∧ v_iv (n_v vs 0) ≤ 2 := tv_rng t0
  obtain ⟨t1, hk⟩ := List.forall_mem_cons.mp hk
  have t1 : tv_ok ta (0, 2, 2, []) (n_v vs 1) := t1
  have k1 : 2 ≤ v_iv (n_v vs 1) ∧ v_iv (n_v vs 1) ≤ 2 := tv_rng t1
  obtain ⟨t2, hk⟩ := List.forall_mem_cons.mp hk
  have t2 : tv_ok ta (0, -1, -1, []) (n_v vs 2) := t2
  have k2 : (-1) ≤ v_iv (n_v vs 2) ∧ v_iv (n_v vs 2) ≤ (-1) := tv_rng t2
  have hf : fc_ok PRD [(7, [0, 1], [0]), (8, [0], [1])] ta ws vs := hf
  obtain ⟨f0, hf⟩ := fc_un (show (7 : Nat) < 100 from by decide) hf
  have f0 : v_iv (n_v vs 0) = v_iv (n_v vs 1) := f0
  obtain ⟨f1, hf⟩ := fc_un (show (8 : Nat) < 100 from by decide) hf
  have f1 : v_iv (n_v vs 0) ≠ 0 := f1
  have nf0 : fc_1 PRD (20, [0, 2], [50, 0, 0, 3, 14, 2, 6, 1, 2, 1, 0, 0, 0, 1, 2, 1, 1, 0, 1, 3, 14, 2, 6, 1, 2, 1, 0, 0, 2, 1, 2, 1, 1, 0, -1, 2, 6, 7, 2, 1, 0, 0, 0, 2, 6, 7, 2, 1, 0, 0, 2, 1, 2, 1, 1, 0, 0]) ws (vs) := by
    refine ⟨fun n hn => ?_, ?_⟩
    · have hn : n ∈ [0, 2] := hn
      rw [hl]
      simp only [List.mem_cons, List.not_mem_nil, or_false] at hn
      show n < 3; omega
    · show ((v_iv (n_v vs 0) = 0) ∧ (v_iv (n_v vs 2) = 1)) ∨ (((v_iv (n_v vs 0) = 2) ∧ (v_iv (n_v vs 2) = (-1))) ∨ ((v_iv (n_v vs 0) ≠ 0) ∧ ((v_iv (n_v vs 0) ≠ 2) ∧ (v_iv (n_v vs 2) = 0))))
      first | omega | grind
  refine ⟨(fun _ h => (by cases h)), [], trivial, ?_, (fun _ h => (by cases h))⟩
  rw [List.append_nil]
  exact List.forall_mem_cons.mpr ⟨⟨show (20 : Nat) < 100 from by decide, nf0⟩, (fun _ h => (by cases h))⟩
def o_Mo_dx_2 : or_T := (18, 2, [(0, (0, 0, 0, [])), (1, (0, 1, 1, []))], [(8, [0], [0])], [], [], [(20, [0, 1], [50, 0, 0, 3, 14, 2, 6, 1, 2, 1, 0, 0, 0, 1, 2, 1, 1, 0, 1, 3, 14, 2, 6, 1, 2, 1, 0, 0, 2, 1, 2, 1, 1, 0, -1, 2, 6, 7, 2, 1, 0, 0, 0, 2, 6, 7, 2, 1, 0, 0, 2, 1, 2, 1, 1, 0, 0])], [], [])
theorem oo_Mo_dx_2 {kA : Nat → ClassId} : or_ok PRD kA GG o_Mo_dx_2 := by
  intro A ta ws vs hD hth hl hk hds hf
  have hl : vs.length = 2 := hl
  have hk : ∀ q ∈ ([(0, (0, 0, 0, [])), (1, (0, 1, 1, []))] : List (Nat × tv_T)), tv_ok ta q.2 (n_v vs q.1) := hk
  obtain ⟨t0, hk⟩ := List.forall_mem_cons.mp hk
  have t0 : tv_ok ta (0, 0, 0, []) (n_v vs 0) := t0
  have k0 : 0 ≤ v_iv (n_v vs 0) ∧ v_iv (n_v vs 0) ≤ 0 := tv_rng t0
  obtain ⟨t1, hk⟩ := List.forall_mem_cons.mp hk
  have t1 : tv_ok ta (0, 1, 1, []) (n_v vs 1) := t1
  have k1 : 1 ≤ v_iv (n_v vs 1) ∧ v_iv (n_v vs 1) ≤ 1 := tv_rng t1
  have hf : fc_ok PRD [(8, [0], [0])] ta ws vs := hf
  obtain ⟨f0, hf⟩ := fc_un (show (8 : Nat) < 100 from by decide) hf
  have f0 : v_iv (n_v vs 0) = 0 := f0
  have nf0 : fc_1 PRD (20, [0, 1], [50, 0, 0, 3, 14, 2, 6, 1, 2, 1, 0, 0, 0, 1, 2, 1, 1, 0, 1, 3, 14, 2, 6, 1, 2, 1, 0, 0, 2, 1, 2, 1, 1, 0, -1, 2, 6, 7, 2, 1, 0, 0, 0, 2, 6, 7, 2, 1, 0, 0, 2, 1, 2, 1, 1, 0, 0]) ws (vs) := by
    refine ⟨fun n hn => ?_, ?_⟩
    · have hn : n ∈ [0, 1] := hn
      rw [hl]
      simp only [List.mem_cons, List.not_mem_nil, or_false] at hn
      show n < 2; omega
    · show ((v_iv (n_v vs 0) = 0) ∧ (v_iv (n_v vs 1) = 1)) ∨ (((v_iv (n_v vs 0) = 2) ∧ (v_iv (n_v vs 1) = (-1))) ∨ ((v_iv (n_v vs 0) ≠ 0) ∧ ((v_iv (n_v vs 0) ≠ 2) ∧ (v_iv (n_v vs 1) = 0))))
      first | omega | grind
  refine ⟨(fun _ h => (by cases h)), [], trivial, ?_, (fun _ h => (by cases h))⟩
  rw [List.append_nil]
  exact List.forall_mem_cons.mpr ⟨⟨show (20 : Nat) < 100 from by decide, nf0⟩, (fun _ h => (by cases h))⟩
def n_Mo_dx_an : List an_T := []
def t_Mo_dx_ct : ct_L := []
set_option maxRecDepth 100000 in
theorem c_Mo_dx {l : Launch} {D : va_G} {kA : Nat → ClassId} : ct_ok PRD l D kA GG y_Mo_dx z_Mo_dx e_Mo_dx := chk_all_ok (FT := []) (PT := []) (CT := t_Mo_dx_ct) (KT := []) (NT := []) (AN := n_Mo_dx_an) (OT := [o_Mo_dx_0, o_Mo_dx_1, o_Mo_dx_2]) 0 200 (List.forall_mem_cons.mpr ⟨oo_Mo_dx_0, List.forall_mem_cons.mpr ⟨oo_Mo_dx_1, List.forall_mem_cons.mpr ⟨oo_Mo_dx_2, List.forall_mem_nil _⟩⟩⟩) (by decide +kernel) ⟨List.forall_mem_nil _, List.forall_mem_nil _, List.forall_mem_nil _, List.forall_mem_nil _, List.forall_mem_nil _, GG_pl⟩ (by decide +kernel)
def o_Mo_dy_0 : or_T := (19, 4, [(0, (0, 0, 2, [])), (1, (0, 1, 1, [])), (2, (0, 3, 3, [])), (3, (0, 0, 0, []))], [(7, [0, 2], [1]), (7, [0, 1], [1])], [], [], [(20, [0, 3], [50, 0, 0, 3, 14, 2, 6, 1, 2, 1, 0, 0, 1, 1, 2, 1, 1, 0, 1, 3, 14, 2, 6, 1, 2, 1, 0, 0, 3, 1, 2, 1, 1, 0, -1, 2, 6, 7, 2, 1, 0, 0, 1, 2, 6, 7, 2, 1, 0, 0, 3, 1, 2, 1, 1, 0, 0])], [], [])
theorem oo_Mo_dy_0 {kA : Nat → ClassId} : or_ok PRD kA GG o_Mo_dy_0 := by
  intro A ta ws vs hD hth hl hk hds hf
  have hl : vs.length = 4 := hl
  have hk : ∀ q ∈ ([(0, (0, 0, 2, [])), (1, (0, 1, 1, [])), (2, (0, 3, 3, [])), (3, (0, 0, 0, []))] : List (Nat × tv_T)), tv_ok ta q.2 (n_v vs q.1) := hk
  obtain ⟨t0, hk⟩ := List.forall_mem_cons.mp hk
  have t0 : tv_ok ta (0, 0, 2, []) (n_v vs 0) := t0
  have k0 : 0 ≤ v_iv (n_v vs 0) ∧ v_iv (n_v vs 0) ≤ 2 := tv_rng t0
  obtain ⟨t1, hk⟩ := List.forall_mem_cons.mp hk
  have t1 : tv_ok ta (0, 1, 1, []) (n_v vs 1) := t1
  have k1 : 1 ≤ v_iv (n_v vs 1) ∧ v_iv (n_v vs 1) ≤ 1 := tv_rng t1
  obtain ⟨t2, hk⟩ := List.forall_mem_cons.mp hk
  have t2 : tv_ok ta (0, 3, 3, []) (n_v vs 2) := t2
  have k2 : 3 ≤ v_iv (n_v vs 2) ∧ v_iv (n_v vs 2) ≤ 3 := tv_rng t2
  obtain ⟨t3, hk⟩ := List.forall_mem_cons.mp hk
  have t3 : tv_ok ta (0, 0, 0, []) (n_v vs 3) := t3
  have k3 : 0 ≤ v_iv (n_v vs 3) ∧ v_iv (n_v vs 3) ≤ 0 := tv_rng t3
  have hf : fc_ok PRD [(7, [0, 2], [1]), (7, [0, 1], [1])] ta ws vs := hf
  obtain ⟨f0, hf⟩ := fc_un (show (7 : Nat) < 100 from by decide) hf
  have f0 : v_iv (n_v vs 0) ≠ v_iv (n_v vs 2) := f0
  obtain ⟨f1, hf⟩ := fc_un (show (7 : Nat) < 100 from by decide) hf
  have f1 : v_iv (n_v vs 0) ≠ v_iv (n_v vs 1) := f1
  have nf0 : fc_1 PRD (20, [0, 3], [50, 0, 0, 3, 14, 2, 6, 1, 2, 1, 0, 0, 1, 1, 2, 1, 1, 0, 1, 3, 14, 2, 6, 1, 2, 1, 0, 0, 3, 1, 2, 1, 1, 0, -1, 2, 6, 7, 2, 1, 0, 0, 1, 2, 6, 7, 2, 1, 0, 0, 3, 1, 2, 1, 1, 0, 0]) ws (vs) := by
    refine ⟨fun n hn => ?_, ?_⟩
    · have hn : n ∈ [0, 3] := hn
      rw [hl]
      simp only [List.mem_cons, List.not_mem_nil, or_false] at hn
      show n < 4; omega
    · show ((v_iv (n_v vs 0) = 1) ∧ (v_iv (n_v vs 3) = 1)) ∨ (((v_iv (n_v vs 0) = 3) ∧ (v_iv (n_v vs 3) = (-1))) ∨ ((v_iv (n_v vs 0) ≠ 1) ∧ ((v_iv (n_v vs 0) ≠ 3) ∧ (v_iv (n_v vs 3) = 0))))
      first | omega | grind
  refine ⟨(fun _ h => (by cases h)), [], trivial, ?_, (fun _ h => (by cases h))⟩
  rw [List.append_nil]
  exact List.forall_mem_cons.mpr ⟨⟨show (20 : Nat) < 100 from by decide, nf0⟩, (fun _ h => (by cases h))⟩
def o_Mo_dy_1 : or_T := (19, 4, [(0, (0, 3, 3, [])), (1, (0, 1, 1, [])), (2, (0, 3, 3, [])), (3, (0, -1, -1, []))], [(7, [0, 2], [0]), (7, [0, 1], [1])], [], [], [(20, [0, 3], [50, 0, 0, 3, 14, 2, 6, 1, 2, 1, 0, 0, 1, 1, 2, 1, 1, 0, 1, 3, 14, 2, 6, 1, 2, 1, 0, 0, 3, 1, 2, 1, 1, 0, -1, 2, 6, 7, 2, 1, 0, 0, 1, 2, 6, 7, 2, 1, 0, 0, 3, 1, 2, 1, 1, 0, 0])], [], [])
theorem oo_Mo_dy_1 {kA : Nat → ClassId} : or_ok PRD kA GG o_Mo_dy_1 := by
  intro A ta ws vs hD hth hl hk hds hf
  have hl : vs.length = 4 := hl
  have hk : ∀ q ∈ ([(0, (0, 3, 3, [])), (1, (0, 1, 1, [])), (2, (0, 3, 3, [])), (3, (0, -1, -1, []))] : List (Nat × tv_T)), tv_ok ta q.2 (n_v vs q.1) := hk
  obtain ⟨t0, hk⟩ := List.forall_mem_cons.mp hk
  have t0 : tv_ok ta (0, 3, 3, []) (n_v vs 0) := t0
  have k0 : 3 ≤ v_iv (n_v vs 0) ∧ v_iv (n_v vs 0) ≤ 3 := tv_rng t0
  obtain ⟨t1, hk⟩ := List.forall_mem_cons.mp hk
  have t1 : tv_ok ta (0, 1, 1, []) (n_v vs 1) := t1
  have k1 : 1 ≤ v_iv (n_v vs 1) ∧ v_iv (n_v vs 1) ≤ 1 := tv_rng t1
  obtain ⟨t2, hk⟩ := List.forall_mem_cons.mp hk
  have t2 : tv_ok ta (0, 3, 3, []) (n_v vs 2) := t2
  have k2 : 3 ≤ v_iv (n_v vs 2) ∧ v_iv (n_v vs 2) ≤ 3 := tv_rng t2
  obtain ⟨t3, hk⟩ := List.forall_mem_cons.mp hk
  have t3 : tv_ok ta (0, -1, -1, []) (n_v vs 3) := t3
  have k3 : (-1) ≤ v_iv (n_v vs 3) ∧ v_iv (n_v vs 3) ≤ (-1) := tv_rng t3
  have hf : fc_ok PRD [(7, [0, 2], [0]), (7, [0, 1], [1])] ta ws vs := hf
  obtain ⟨f0, hf⟩ := fc_un (show (7 : Nat) < 100 from by decide) hf
  have f0 : v_iv (n_v vs 0) = v_iv (n_v vs 2) := f0
  obtain ⟨f1, hf⟩ := fc_un (show (7 : Nat) < 100 from by decide) hf
  have f1 : v_iv (n_v vs 0) ≠ v_iv (n_v vs 1) := f1
  have nf0 : fc_1 PRD (20, [0, 3], [50, 0, 0, 3, 14, 2, 6, 1, 2, 1, 0, 0, 1, 1, 2, 1, 1, 0, 1, 3, 14, 2, 6, 1, 2, 1, 0, 0, 3, 1, 2, 1, 1, 0, -1, 2, 6, 7, 2, 1, 0, 0, 1, 2, 6, 7, 2, 1, 0, 0, 3, 1, 2, 1, 1, 0, 0]) ws (vs) := by
    refine ⟨fun n hn => ?_, ?_⟩
    · have hn : n ∈ [0, 3] := hn
      rw [hl]
      simp only [List.mem_cons, List.not_mem_nil, or_false] at hn
      show n < 4; omega
    · show ((v_iv (n_v vs 0) = 1) ∧ (v_iv (n_v vs 3) = 1)) ∨ (((v_iv (n_v vs 0) = 3) ∧ (v_iv (n_v vs 3) = (-1))) ∨ ((v_iv (n_v vs 0) ≠ 1) ∧ ((v_iv (n_v vs 0) ≠ 3) ∧ (v_iv (n_v vs 3) = 0))))
      first | omega | grind
  refine ⟨(fun _ h => (by cases h)), [], trivial, ?_, (fun _ h => (by cases h))⟩
  rw [List.append_nil]
  exact List.forall_mem_cons.mpr ⟨⟨show (20 : Nat) < 100 from by decide, nf0⟩, (fun _ h => (by cases h))⟩
def o_Mo_dy_2 : or_T := (19, 3, [(0, (0, 1, 1, [])), (1, (0, 1, 1, [])), (2, (0, 1, 1, []))], [(7, [0, 1], [0])], [], [], [(20, [0, 2], [50, 0, 0, 3, 14, 2, 6, 1, 2, 1, 0, 0, 1, 1, 2, 1, 1, 0, 1, 3, 14, 2, 6, 1, 2, 1, 0, 0, 3, 1, 2, 1, 1, 0, -1, 2, 6, 7, 2, 1, 0, 0, 1, 2, 6, 7, 2, 1, 0, 0, 3, 1, 2, 1, 1, 0, 0])], [], [])
theorem oo_Mo_dy_2 {kA : Nat → ClassId} : or_ok PRD kA GG o_Mo_dy_2 := by
  intro A ta ws vs hD hth hl hk hds hf
  have hl : vs.length = 3 := hl
  have hk : ∀ q ∈ ([(0, (0, 1, 1, [])), (1, (0, 1, 1, [])), (2, (0, 1, 1, []))] : List (Nat × tv_T)), tv_ok ta q.2 (n_v vs q.1) := hk
  obtain ⟨t0, hk⟩ := List.forall_mem_cons.mp hk
  have t0 : tv_ok ta (0, 1, 1, []) (n_v vs 0) := t0
  have k0 : 1 ≤ v_iv (n_v vs 0) ∧ v_iv (n_v vs 0) ≤ 1 := tv_rng t0
  obtain ⟨t1, hk⟩ := List.forall_mem_cons.mp hk
  have t1 : tv_ok ta (0, 1, 1, []) (n_v vs 1) := t1
  have k1 : 1 ≤ v_iv (n_v vs 1) ∧ v_iv (n_v vs 1) ≤ 1 := tv_rng t1
  obtain ⟨t2, hk⟩ := List.forall_mem_cons.mp hk
  have t2 : tv_ok ta (0, 1, 1, []) (n_v vs 2) := t2
  have k2 : 1 ≤ v_iv (n_v vs 2) ∧ v_iv (n_v vs 2) ≤ 1 := tv_rng t2
  have hf : fc_ok PRD [(7, [0, 1], [0])] ta ws vs := hf
  obtain ⟨f0, hf⟩ := fc_un (show (7 : Nat) < 100 from by decide) hf
  have f0 : v_iv (n_v vs 0) = v_iv (n_v vs 1) := f0
  have nf0 : fc_1 PRD (20, [0, 2], [50, 0, 0, 3, 14, 2, 6, 1, 2, 1, 0, 0, 1, 1, 2, 1, 1, 0, 1, 3, 14, 2, 6, 1, 2, 1, 0, 0, 3, 1, 2, 1, 1, 0, -1, 2, 6, 7, 2, 1, 0, 0, 1, 2, 6, 7, 2, 1, 0, 0, 3, 1, 2, 1, 1, 0, 0]) ws (vs) := by
    refine ⟨fun n hn => ?_, ?_⟩
    · have hn : n ∈ [0, 2] := hn
      rw [hl]
      simp only [List.mem_cons, List.not_mem_nil, or_false] at hn
      show n < 3; omega
    · show ((v_iv (n_v vs 0) = 1) ∧ (v_iv (n_v vs 2) = 1)) ∨ (((v_iv (n_v vs 0) = 3) ∧ (v_iv (n_v vs 2) = (-1))) ∨ ((v_iv (n_v vs 0) ≠ 1) ∧ ((v_iv (n_v vs 0) ≠ 3) ∧ (v_iv (n_v vs 2) = 0))))
      first | omega | grind
  refine ⟨(fun _ h => (by cases h)), [], trivial, ?_, (fun _ h => (by cases h))⟩
  rw [List.append_nil]
  exact List.forall_mem_cons.mpr ⟨⟨show (20 : Nat) < 100 from by decide, nf0⟩, (fun _ h => (by cases h))⟩
def n_Mo_dy_an : List an_T := []
def t_Mo_dy_ct : ct_L := []
set_option maxRecDepth 100000 in
theorem c_Mo_dy {l : Launch} {D : va_G} {kA : Nat → ClassId} : ct_ok PRD l D kA GG y_Mo_dy z_Mo_dy e_Mo_dy := chk_all_ok (FT := []) (PT := []) (CT := t_Mo_dy_ct) (KT := []) (NT := []) (AN := n_Mo_dy_an) (OT := [o_Mo_dy_0, o_Mo_dy_1, o_Mo_dy_2]) 0 200 (List.forall_mem_cons.mpr ⟨oo_Mo_dy_0, List.forall_mem_cons.mpr ⟨oo_Mo_dy_1, List.forall_mem_cons.mpr ⟨oo_Mo_dy_2, List.forall_mem_nil _⟩⟩⟩) (by decide +kernel) ⟨List.forall_mem_nil _, List.forall_mem_nil _, List.forall_mem_nil _, List.forall_mem_nil _, List.forall_mem_nil _, GG_pl⟩ (by decide +kernel)
set_option maxHeartbeats 4000000 in
theorem vc_Mo_reached_at_gb_0_r0 (x1 : Int) (x2 : Int) (x3 : Int) (x4 : Int) (x5 : Int) (x7 : Int) (x8 : Int) (x9 : Int) (x11 : Int) (x12 : Int) (x14 : Int) (x15 : Int) (x16 : Int) (x17 : Int) (x18 : Int) (bucketMany_0 : Int → Int) (bucketMany_1 : Int → Int) (costOf_2 : Int → Int) (barredPoint_2 : Int → Int) (bucket_2 : Int → Int) (bucketMany_2 : Int → Int) (wide_2 : Int) (tall_2 : Int) (wide_0 : Int) (wide_1 : Int) (tall_0 : Int) (tall_1 : Int) (costOf_0 : Int → Int) (costOf_1 : Int → Int) (bucket_0 : Int → Int) (bucket_1 : Int → Int) (barredPoint_0 : Int → Int) (barredPoint_1 : Int → Int) (k1 : 0 ≤ x1 ∧ x1 ≤ 23999) (k2 : 1 ≤ x2 ∧ x2 ≤ 999999) (k3 : 0 ≤ x3 ∧ x3 ≤ 5999) (k4 : 0 ≤ x4 ∧ x4 ≤ 1000008) (k5 : 0 ≤ x5 ∧ x5 ≤ 23999) (k7 : 2 ≤ x7 ∧ x7 ≤ 1000000) (k8 : 3 ≤ x8 ∧ x8 ≤ 3) (k9 : 0 ≤ x9 ∧ x9 ≤ 3) (k11 : 24010 ≤ x11 ∧ x11 ≤ 24010) (k12 : 0 ≤ x12 ∧ x12 ≤ 72030) (k14 : 0 ≤ x14 ∧ x14 ≤ 24009) (k15 : 0 ≤ x15 ∧ x15 ≤ 96039) (k16 : 0 ≤ x16 ∧ x16 ≤ 24009) (k17 : 1 ≤ x17 ∧ x17 ≤ 1) (k18 : 1 ≤ x18 ∧ x18 ≤ 24010) (d0 : x16 + 1 ≤ x18 ∧ x18 ≤ x16 + 1) (d1 : x14 + 0 ≤ x15 ∧ x15 ≤ x14 + 72030) (d2 : x12 + 0 ≤ x15 ∧ x15 ≤ x12 + 24009) (d3 : x2 + 1 ≤ x7 ∧ x7 ≤ x2 + 4294967296) (f0 : x18 = x16 + x17) (h1 : x16 = bucketMany_0 (x9)) (f4 : x15 = x12 + x14) (h5 : x14 = bucketMany_1 (x9)) (f6 : x12 = 24010 * x9) (f8 : x9 = x2 % 4) (f9 : bvp (x9) = bvp (x2) &&& bvp (x8)) (f12 : x2 < x7) (h13 : x7 = costOf_2 (x1)) (f14 : RTQ (wide_2) (tall_2) (barredPoint_2) (costOf_2) (bucket_2) (bucketMany_2) (x3) (x4)) (f15 : RJB (wide_2) (tall_2) (barredPoint_2) (costOf_2) (x3) (x4) (x1) (x2)) (f16 : PIV (costOf_2) (x5) (x4)) (fe_0_146_1 : wide_0 = wide_1) (fe_0_147_1 : tall_0 = tall_1) (fe_0_146_2 : wide_1 = wide_2) (fe_0_147_2 : tall_1 = tall_2) (hE_0_140_1 : ∀ j : Int, costOf_0 j = costOf_1 j) (hE_0_140_2 : ∀ j : Int, 0 ≤ j → (j = x1 → costOf_1 j = x2) ∧ (j ≠ x1 → costOf_1 j = costOf_2 j)) (hK_0_140 : ∀ j : Int, 0 ≤ j → j < 24000 → 0 ≤ costOf_0 j ∧ costOf_0 j ≤ 1000000) (hE_0_141_1 : ∀ j : Int, 0 ≤ j → (j = x15 → bucket_0 j = x1) ∧ (j ≠ x15 → bucket_0 j = bucket_1 j)) (hE_0_141_2 : ∀ j : Int, bucket_1 j = bucket_2 j) (hK_0_141 : ∀ j : Int, 0 ≤ j → j < 96040 → 0 ≤ bucket_0 j ∧ bucket_0 j ≤ 23999) (hE_0_142_1 : ∀ j : Int, bucketMany_0 j = bucketMany_1 j) (hE_0_142_2 : ∀ j : Int, bucketMany_1 j = bucketMany_2 j) (hK_0_142 : ∀ j : Int, 0 ≤ j → j < 4 → 0 ≤ bucketMany_0 j ∧ bucketMany_0 j ≤ 24009) (hE_0_143_1 : ∀ j : Int, barredPoint_0 j = barredPoint_1 j) (hE_0_143_2 : ∀ j : Int, barredPoint_1 j = barredPoint_2 j) (hK_0_143 : ∀ j : Int, 0 ≤ j → j < 6000 → 0 ≤ barredPoint_0 j ∧ barredPoint_0 j ≤ 1) (kz_0_146 : (-2147483648) ≤ wide_0 ∧ wide_0 ≤ 2147483647) (kz_0_147 : (-2147483648) ≤ tall_0 ∧ tall_0 ≤ 2147483647) : 1 ≤ x18 ∧ x18 ≤ 24001 := by
  subst fe_0_146_1
  subst fe_0_147_1
  subst fe_0_146_2
  subst fe_0_147_2
  have e_hE_0_140_1 := funext hE_0_140_1; subst e_hE_0_140_1
  have e_hE_0_141_2 := funext hE_0_141_2; subst e_hE_0_141_2
  have e_hE_0_142_1 := funext hE_0_142_1; subst e_hE_0_142_1
  have e_hE_0_142_2 := funext hE_0_142_2; subst e_hE_0_142_2
  have e_hE_0_143_1 := funext hE_0_143_1; subst e_hE_0_143_1
  have e_hE_0_143_2 := funext hE_0_143_2; subst e_hE_0_143_2
  first
    | (have h := reach_room (b := x7) (m := x14) (s := x1) (v := x2) (c := 0) ‹RT0 _ _ _ _ _ _ _› ‹RJ0 _ _ _ _ _ _ _› (by omega) (by omega) (by assumption); omega)
    | (have h := reach_room (b := x9) (m := x16) (s := x1) (v := x2) ‹RTQ _ _ _ _ _ _ _ _› ‹RJB _ _ _ _ _ _ _ _› (by omega) (by omega) (by assumption); omega)
def o_Mo_reached_at_gb_0 : or_T := (49, 19, [(0, (2, 0, 0, [150])), (1, (0, 0, 23999, [])), (2, (0, 1, 999999, [])), (3, (0, 0, 5999, [])), (4, (0, 0, 1000008, [])), (5, (0, 0, 23999, [])), (6, (2, 0, 0, [251])), (7, (0, 2, 1000000, [])), (8, (0, 3, 3, [])), (9, (0, 0, 3, [])), (10, (2, 0, 0, [252])), (11, (0, 24010, 24010, [])), (12, (0, 0, 72030, [])), (13, (2, 0, 0, [253])), (14, (0, 0, 24009, [])), (15, (0, 0, 96039, [])), (16, (0, 0, 24009, [])), (17, (0, 1, 1, [])), (18, (0, 1, 24010, []))], [(1, [18, 16, 17], []), (10, [16, 13, 9], []), (9, [13, 0], [142]), (100, [10, 15, 1], []), (1, [15, 12, 14], []), (10, [14, 13, 9], []), (3, [12, 11, 9], []), (9, [10, 0], [141]), (12, [9, 2], [4]), (16, [9, 2, 8], [0]), (100, [6, 1, 2], []), (9, [6, 0], [140]), (7, [7, 2], [4]), (10, [7, 6, 1], []), (20, [0, 3, 4], [60, 2, 4, 419, 146, 147, 143, 140, 141, 142]), (20, [0, 3, 4, 1, 2], [60, 2, 2, 422, 146, 147, 143, 140]), (20, [0, 5, 4], [60, 0, 1, 421, 140])], [(18, (0, 1, 24001, []))], [], [], [], [(18, 16, 1, 1), (15, 14, 0, 72030), (15, 12, 0, 24009), (7, 2, 1, 4294967296)])
theorem oo_Mo_reached_at_gb_0 {kA : Nat → ClassId} : or_ok PRD kA GG o_Mo_reached_at_gb_0 := by
  intro A ta ws vs hD hth hl hk hds hf
  have hl : vs.length = 19 := hl
  have hk : ∀ q ∈ ([(0, (2, 0, 0, [150])), (1, (0, 0, 23999, [])), (2, (0, 1, 999999, [])), (3, (0, 0, 5999, [])), (4, (0, 0, 1000008, [])), (5, (0, 0, 23999, [])), (6, (2, 0, 0, [251])), (7, (0, 2, 1000000, [])), (8, (0, 3, 3, [])), (9, (0, 0, 3, [])), (10, (2, 0, 0, [252])), (11, (0, 24010, 24010, [])), (12, (0, 0, 72030, [])), (13, (2, 0, 0, [253])), (14, (0, 0, 24009, [])), (15, (0, 0, 96039, [])), (16, (0, 0, 24009, [])), (17, (0, 1, 1, [])), (18, (0, 1, 24010, []))] : List (Nat × tv_T)), tv_ok ta q.2 (n_v vs q.1) := hk
  obtain ⟨t0, hk⟩ := List.forall_mem_cons.mp hk
  have t0 : tv_ok ta (2, 0, 0, [150]) (n_v vs 0) := t0
  have r0 : ta (v_ad (n_v vs 0)) = some 150 := tv_rg t0
  obtain ⟨t1, hk⟩ := List.forall_mem_cons.mp hk
  have t1 : tv_ok ta (0, 0, 23999, []) (n_v vs 1) := t1
  have k1 : 0 ≤ v_iv (n_v vs 1) ∧ v_iv (n_v vs 1) ≤ 23999 := tv_rng t1
  obtain ⟨t2, hk⟩ := List.forall_mem_cons.mp hk
  have t2 : tv_ok ta (0, 1, 999999, []) (n_v vs 2) := t2
  have k2 : 1 ≤ v_iv (n_v vs 2) ∧ v_iv (n_v vs 2) ≤ 999999 := tv_rng t2
  obtain ⟨t3, hk⟩ := List.forall_mem_cons.mp hk
  have t3 : tv_ok ta (0, 0, 5999, []) (n_v vs 3) := t3
  have k3 : 0 ≤ v_iv (n_v vs 3) ∧ v_iv (n_v vs 3) ≤ 5999 := tv_rng t3
  obtain ⟨t4, hk⟩ := List.forall_mem_cons.mp hk
  have t4 : tv_ok ta (0, 0, 1000008, []) (n_v vs 4) := t4
  have k4 : 0 ≤ v_iv (n_v vs 4) ∧ v_iv (n_v vs 4) ≤ 1000008 := tv_rng t4
  obtain ⟨t5, hk⟩ := List.forall_mem_cons.mp hk
  have t5 : tv_ok ta (0, 0, 23999, []) (n_v vs 5) := t5
  have k5 : 0 ≤ v_iv (n_v vs 5) ∧ v_iv (n_v vs 5) ≤ 23999 := tv_rng t5
  obtain ⟨t6, hk⟩ := List.forall_mem_cons.mp hk
  have t6 : tv_ok ta (2, 0, 0, [251]) (n_v vs 6) := t6
  have r6 : ta (v_ad (n_v vs 6)) = some 251 := tv_rg t6
  obtain ⟨t7, hk⟩ := List.forall_mem_cons.mp hk
  have t7 : tv_ok ta (0, 2, 1000000, []) (n_v vs 7) := t7
  have k7 : 2 ≤ v_iv (n_v vs 7) ∧ v_iv (n_v vs 7) ≤ 1000000 := tv_rng t7
  obtain ⟨t8, hk⟩ := List.forall_mem_cons.mp hk
  have t8 : tv_ok ta (0, 3, 3, []) (n_v vs 8) := t8
  have k8 : 3 ≤ v_iv (n_v vs 8) ∧ v_iv (n_v vs 8) ≤ 3 := tv_rng t8
  obtain ⟨t9, hk⟩ := List.forall_mem_cons.mp hk
  have t9 : tv_ok ta (0, 0, 3, []) (n_v vs 9) := t9
  have k9 : 0 ≤ v_iv (n_v vs 9) ∧ v_iv (n_v vs 9) ≤ 3 := tv_rng t9
  obtain ⟨t10, hk⟩ := List.forall_mem_cons.mp hk
  have t10 : tv_ok ta (2, 0, 0, [252]) (n_v vs 10) := t10
  have r10 : ta (v_ad (n_v vs 10)) = some 252 := tv_rg t10
  obtain ⟨t11, hk⟩ := List.forall_mem_cons.mp hk
  have t11 : tv_ok ta (0, 24010, 24010, []) (n_v vs 11) := t11
  have k11 : 24010 ≤ v_iv (n_v vs 11) ∧ v_iv (n_v vs 11) ≤ 24010 := tv_rng t11
  obtain ⟨t12, hk⟩ := List.forall_mem_cons.mp hk
  have t12 : tv_ok ta (0, 0, 72030, []) (n_v vs 12) := t12
  have k12 : 0 ≤ v_iv (n_v vs 12) ∧ v_iv (n_v vs 12) ≤ 72030 := tv_rng t12
  obtain ⟨t13, hk⟩ := List.forall_mem_cons.mp hk
  have t13 : tv_ok ta (2, 0, 0, [253]) (n_v vs 13) := t13
  have r13 : ta (v_ad (n_v vs 13)) = some 253 := tv_rg t13
  obtain ⟨t14, hk⟩ := List.forall_mem_cons.mp hk
  have t14 : tv_ok ta (0, 0, 24009, []) (n_v vs 14) := t14
  have k14 : 0 ≤ v_iv (n_v vs 14) ∧ v_iv (n_v vs 14) ≤ 24009 := tv_rng t14
  obtain ⟨t15, hk⟩ := List.forall_mem_cons.mp hk
  have t15 : tv_ok ta (0, 0, 96039, []) (n_v vs 15) := t15
  have k15 : 0 ≤ v_iv (n_v vs 15) ∧ v_iv (n_v vs 15) ≤ 96039 := tv_rng t15
  obtain ⟨t16, hk⟩ := List.forall_mem_cons.mp hk
  have t16 : tv_ok ta (0, 0, 24009, []) (n_v vs 16) := t16
  have k16 : 0 ≤ v_iv (n_v vs 16) ∧ v_iv (n_v vs 16) ≤ 24009 := tv_rng t16
  obtain ⟨t17, hk⟩ := List.forall_mem_cons.mp hk
  have t17 : tv_ok ta (0, 1, 1, []) (n_v vs 17) := t17
  have k17 : 1 ≤ v_iv (n_v vs 17) ∧ v_iv (n_v vs 17) ≤ 1 := tv_rng t17
  obtain ⟨t18, hk⟩ := List.forall_mem_cons.mp hk
  have t18 : tv_ok ta (0, 1, 24010, []) (n_v vs 18) := t18
  have k18 : 1 ≤ v_iv (n_v vs 18) ∧ v_iv (n_v vs 18) ≤ 24010 := tv_rng t18
  have hds : ∀ q ∈ ([(18, 16, 1, 1), (15, 14, 0, 72030), (15, 12, 0, 24009), (7, 2, 1, 4294967296)] : List of_T), n_iv vs q.2.1 + q.2.2.1 ≤ n_iv vs q.1 ∧ n_iv vs q.1 ≤ n_iv vs q.2.1 + q.2.2.2 := hds
  obtain ⟨d0, hds⟩ := List.forall_mem_cons.mp hds
  have d0 : v_iv (n_v vs 16) + 1 ≤ v_iv (n_v vs 18) ∧ v_iv (n_v vs 18) ≤ v_iv (n_v vs 16) + 1 := d0
  obtain ⟨d1, hds⟩ := List.forall_mem_cons.mp hds
  have d1 : v_iv (n_v vs 14) + 0 ≤ v_iv (n_v vs 15) ∧ v_iv (n_v vs 15) ≤ v_iv (n_v vs 14) + 72030 := d1
  obtain ⟨d2, hds⟩ := List.forall_mem_cons.mp hds
  have d2 : v_iv (n_v vs 12) + 0 ≤ v_iv (n_v vs 15) ∧ v_iv (n_v vs 15) ≤ v_iv (n_v vs 12) + 24009 := d2
  obtain ⟨d3, hds⟩ := List.forall_mem_cons.mp hds
  have d3 : v_iv (n_v vs 2) + 1 ≤ v_iv (n_v vs 7) ∧ v_iv (n_v vs 7) ≤ v_iv (n_v vs 2) + 4294967296 := d3
  have hf : fc_ok PRD [(1, [18, 16, 17], []), (10, [16, 13, 9], []), (9, [13, 0], [142]), (100, [10, 15, 1], []), (1, [15, 12, 14], []), (10, [14, 13, 9], []), (3, [12, 11, 9], []), (9, [10, 0], [141]), (12, [9, 2], [4]), (16, [9, 2, 8], [0]), (100, [6, 1, 2], []), (9, [6, 0], [140]), (7, [7, 2], [4]), (10, [7, 6, 1], []), (20, [0, 3, 4], [60, 2, 4, 419, 146, 147, 143, 140, 141, 142]), (20, [0, 3, 4, 1, 2], [60, 2, 2, 422, 146, 147, 143, 140]), (20, [0, 5, 4], [60, 0, 1, 421, 140])] ta ws vs := hf
  obtain ⟨f0, hf⟩ := fc_un (show (1 : Nat) < 100 from by decide) hf
  have f0 : v_iv (n_v vs 18) = v_iv (n_v vs 16) + v_iv (n_v vs 17) := f0
  obtain ⟨f1, hf⟩ := fc_un (show (10 : Nat) < 100 from by decide) hf
  have f1 : v_iv (n_v vs 16) = w_el ws (v_ad (n_v vs 13)) (v_iv (n_v vs 9)).toNat := f1
  obtain ⟨f2, hf⟩ := fc_un (show (9 : Nat) < 100 from by decide) hf
  have f2 : n_v vs 13 = w_fd ws (v_ad (n_v vs 0)) 142 := f2
  obtain ⟨ta1, w1, le1, ⟨_, s1⟩, hf⟩ := fc_us (show ¬ (100 : Nat) < 100 from by decide) hf
  have s1 : (∀ b j, w_el ws b j = if b = v_ad (n_v vs 10) ∧ j = (v_iv (n_v vs 15)).toNat then v_iv (n_v vs 1) else w_el w1 b j) ∧ ∀ b k, w_fd ws b k = w_fd w1 b k := s1
  obtain ⟨f4, hf⟩ := fc_un (show (1 : Nat) < 100 from by decide) hf
  have f4 : v_iv (n_v vs 15) = v_iv (n_v vs 12) + v_iv (n_v vs 14) := f4
  obtain ⟨f5, hf⟩ := fc_un (show (10 : Nat) < 100 from by decide) hf
  have f5 : v_iv (n_v vs 14) = w_el w1 (v_ad (n_v vs 13)) (v_iv (n_v vs 9)).toNat := f5
  obtain ⟨f6, hf⟩ := fc_un (show (3 : Nat) < 100 from by decide) hf
  have f6 : v_iv (n_v vs 12) = v_iv (n_v vs 11) * v_iv (n_v vs 9) := f6
  rw [show v_iv (n_v vs 11) = 24010 from by omega] at f6
  obtain ⟨f7, hf⟩ := fc_un (show (9 : Nat) < 100 from by decide) hf
  have f7 : n_v vs 10 = w_fd w1 (v_ad (n_v vs 0)) 141 := f7
  obtain ⟨f8, hf⟩ := fc_un (show (12 : Nat) < 100 from by decide) hf
  have f8 : v_iv (n_v vs 9) = v_iv (n_v vs 2) % 4 := f8
  obtain ⟨f9, hf⟩ := fc_un (show (16 : Nat) < 100 from by decide) hf
  have f9 : bv (v_iv (n_v vs 9)) = bv (v_iv (n_v vs 2)) &&& bv (v_iv (n_v vs 8)) := f9
  obtain ⟨ta2, w2, le2, ⟨_, s2⟩, hf⟩ := fc_us (show ¬ (100 : Nat) < 100 from by decide) hf
  have s2 : (∀ b j, w_el w1 b j = if b = v_ad (n_v vs 6) ∧ j = (v_iv (n_v vs 1)).toNat then v_iv (n_v vs 2) else w_el w2 b j) ∧ ∀ b k, w_fd w1 b k = w_fd w2 b k := s2
  obtain ⟨f11, hf⟩ := fc_un (show (9 : Nat) < 100 from by decide) hf
  have f11 : n_v vs 6 = w_fd w2 (v_ad (n_v vs 0)) 140 := f11
  obtain ⟨f12, hf⟩ := fc_un (show (7 : Nat) < 100 from by decide) hf
  have f12 : v_iv (n_v vs 2) < v_iv (n_v vs 7) := f12
  obtain ⟨f13, hf⟩ := fc_un (show (10 : Nat) < 100 from by decide) hf
  have f13 : v_iv (n_v vs 7) = w_el w2 (v_ad (n_v vs 6)) (v_iv (n_v vs 1)).toNat := f13
  obtain ⟨f14, hf⟩ := fc_un (show (20 : Nat) < 100 from by decide) hf
  have f14 : RTQ (w_fi w2 (n_v vs 0) 146) (w_fi w2 (n_v vs 0) 147) (w_ei w2 (w_ar w2 (n_v vs 0) 143)) (w_ei w2 (w_ar w2 (n_v vs 0) 140)) (w_ei w2 (w_ar w2 (n_v vs 0) 141)) (w_ei w2 (w_ar w2 (n_v vs 0) 142)) (v_iv (n_v vs 3)) (v_iv (n_v vs 4)) := f14
  obtain ⟨f15, hf⟩ := fc_un (show (20 : Nat) < 100 from by decide) hf
  have f15 : RJB (w_fi w2 (n_v vs 0) 146) (w_fi w2 (n_v vs 0) 147) (w_ei w2 (w_ar w2 (n_v vs 0) 143)) (w_ei w2 (w_ar w2 (n_v vs 0) 140)) (v_iv (n_v vs 3)) (v_iv (n_v vs 4)) (v_iv (n_v vs 1)) (v_iv (n_v vs 2)) := f15
  obtain ⟨f16, hf⟩ := fc_un (show (20 : Nat) < 100 from by decide) hf
  have f16 : PIV (w_ei w2 (w_ar w2 (n_v vs 0) 140)) (v_iv (n_v vs 5)) (v_iv (n_v vs 4)) := f16
  have ar_0_140_1 : w_ar w1 (n_v vs 0) 140 = w_ar ws (n_v vs 0) 140 := by show v_ad (w_fd w1 _ _) = v_ad (w_fd ws _ _); rw [s1.2]
  have ar_0_140_2 : w_ar w2 (n_v vs 0) 140 = w_ar ws (n_v vs 0) 140 := by rw [← ar_0_140_1]; show v_ad (w_fd w2 _ _) = v_ad (w_fd w1 _ _); rw [s2.2]
  have cr_0_140 : ta (w_ar ws (n_v vs 0) 140) = some 251 := tv_rg (th_fd hD hth r0 (g := GG_150) rfl (k := 140) (t := (2, 0, 0, [251])) rfl rfl)
  have ar_0_141_1 : w_ar w1 (n_v vs 0) 141 = w_ar ws (n_v vs 0) 141 := by show v_ad (w_fd w1 _ _) = v_ad (w_fd ws _ _); rw [s1.2]
  have ar_0_141_2 : w_ar w2 (n_v vs 0) 141 = w_ar ws (n_v vs 0) 141 := by rw [← ar_0_141_1]; show v_ad (w_fd w2 _ _) = v_ad (w_fd w1 _ _); rw [s2.2]
  have cr_0_141 : ta (w_ar ws (n_v vs 0) 141) = some 252 := tv_rg (th_fd hD hth r0 (g := GG_150) rfl (k := 141) (t := (2, 0, 0, [252])) rfl rfl)
  have ar_0_142_1 : w_ar w1 (n_v vs 0) 142 = w_ar ws (n_v vs 0) 142 := by show v_ad (w_fd w1 _ _) = v_ad (w_fd ws _ _); rw [s1.2]
  have ar_0_142_2 : w_ar w2 (n_v vs 0) 142 = w_ar ws (n_v vs 0) 142 := by rw [← ar_0_142_1]; show v_ad (w_fd w2 _ _) = v_ad (w_fd w1 _ _); rw [s2.2]
  have cr_0_142 : ta (w_ar ws (n_v vs 0) 142) = some 253 := tv_rg (th_fd hD hth r0 (g := GG_150) rfl (k := 142) (t := (2, 0, 0, [253])) rfl rfl)
  have ar_0_143_1 : w_ar w1 (n_v vs 0) 143 = w_ar ws (n_v vs 0) 143 := by show v_ad (w_fd w1 _ _) = v_ad (w_fd ws _ _); rw [s1.2]
  have ar_0_143_2 : w_ar w2 (n_v vs 0) 143 = w_ar ws (n_v vs 0) 143 := by rw [← ar_0_143_1]; show v_ad (w_fd w2 _ _) = v_ad (w_fd w1 _ _); rw [s2.2]
  have cr_0_143 : ta (w_ar ws (n_v vs 0) 143) = some 254 := tv_rg (th_fd hD hth r0 (g := GG_150) rfl (k := 143) (t := (2, 0, 0, [254])) rfl rfl)
  have ad_13 : v_ad (n_v vs 13) = w_ar ws (n_v vs 0) 142 := congrArg v_ad f2
  have ad_10 : v_ad (n_v vs 10) = w_ar ws (n_v vs 0) 141 := (congrArg v_ad f7).trans ar_0_141_1
  have ad_6 : v_ad (n_v vs 6) = w_ar ws (n_v vs 0) 140 := (congrArg v_ad f11).trans ar_0_140_2
  rw [ad_13] at f1
  have h1 : v_iv (n_v vs 16) = w_ei ws (w_ar ws (n_v vs 0) 142) (v_iv (n_v vs 9)) := f1
  rw [ad_13] at f5
  have h5 : v_iv (n_v vs 14) = w_ei w1 (w_ar ws (n_v vs 0) 142) (v_iv (n_v vs 9)) := f5
  rw [ad_6] at f13
  have h13 : v_iv (n_v vs 7) = w_ei w2 (w_ar ws (n_v vs 0) 140) (v_iv (n_v vs 1)) := f13
  rw [ar_0_140_2] at f14
  rw [ar_0_141_2] at f14
  rw [ar_0_142_2] at f14
  rw [ar_0_143_2] at f14
  rw [ar_0_140_2] at f15
  rw [ar_0_143_2] at f15
  rw [ar_0_140_2] at f16
  have fe_0_146_1 : w_fi ws (n_v vs 0) 146 = w_fi w1 (n_v vs 0) 146 := congrArg v_iv (s1.2 _ _)
  have fe_0_147_1 : w_fi ws (n_v vs 0) 147 = w_fi w1 (n_v vs 0) 147 := congrArg v_iv (s1.2 _ _)
  have fe_0_146_2 : w_fi w1 (n_v vs 0) 146 = w_fi w2 (n_v vs 0) 146 := congrArg v_iv (s2.2 _ _)
  have fe_0_147_2 : w_fi w1 (n_v vs 0) 147 = w_fi w2 (n_v vs 0) 147 := congrArg v_iv (s2.2 _ _)
  have hE_0_140_1 : ∀ j : Int, w_ei ws (w_ar ws (n_v vs 0) 140) j = w_ei w1 (w_ar ws (n_v vs 0) 140) j := fun j => by unfold w_ei; rw [s1.1, if_neg (fun e => by have e1 := e.1; rw [← e1] at r10; rw [cr_0_140] at r10; exact absurd (Option.some.inj r10) (by decide))]
  have hE_0_140_2 : ∀ j : Int, 0 ≤ j → (j = v_iv (n_v vs 1) → w_ei w1 (w_ar ws (n_v vs 0) 140) j = v_iv (n_v vs 2)) ∧ (j ≠ v_iv (n_v vs 1) → w_ei w1 (w_ar ws (n_v vs 0) 140) j = w_ei w2 (w_ar ws (n_v vs 0) 140) j) := fun j hj => ⟨fun h => by unfold w_ei; rw [s2.1, if_pos ⟨ad_6.symm, by rw [h]⟩], fun h => by unfold w_ei; rw [s2.1, if_neg (fun e => h (by have := e.2; omega))]⟩
  have hK_0_140 : ∀ j : Int, 0 ≤ j → j < 24000 → 0 ≤ w_ei ws (w_ar ws (n_v vs 0) 140) j ∧ w_ei ws (w_ar ws (n_v vs 0) 140) j ≤ 1000000 := fun j h0 h1 => th_el hD hth cr_0_140 (kd := 0) (n := 24000) (m := 24000) (lo := 0) (hi := 1000000) (rs := []) (L := []) rfl (by decide) (j := j.toNat) (by omega)
  have hE_0_141_1 : ∀ j : Int, 0 ≤ j → (j = v_iv (n_v vs 15) → w_ei ws (w_ar ws (n_v vs 0) 141) j = v_iv (n_v vs 1)) ∧ (j ≠ v_iv (n_v vs 15) → w_ei ws (w_ar ws (n_v vs 0) 141) j = w_ei w1 (w_ar ws (n_v vs 0) 141) j) := fun j hj => ⟨fun h => by unfold w_ei; rw [s1.1, if_pos ⟨ad_10.symm, by rw [h]⟩], fun h => by unfold w_ei; rw [s1.1, if_neg (fun e => h (by have := e.2; omega))]⟩
  have hE_0_141_2 : ∀ j : Int, w_ei w1 (w_ar ws (n_v vs 0) 141) j = w_ei w2 (w_ar ws (n_v vs 0) 141) j := fun j => by unfold w_ei; rw [s2.1, if_neg (fun e => by have e1 := e.1; rw [← e1] at r6; rw [cr_0_141] at r6; exact absurd (Option.some.inj r6) (by decide))]
  have hK_0_141 : ∀ j : Int, 0 ≤ j → j < 96040 → 0 ≤ w_ei ws (w_ar ws (n_v vs 0) 141) j ∧ w_ei ws (w_ar ws (n_v vs 0) 141) j ≤ 23999 := fun j h0 h1 => th_el hD hth cr_0_141 (kd := 0) (n := 96040) (m := 96040) (lo := 0) (hi := 23999) (rs := []) (L := []) rfl (by decide) (j := j.toNat) (by omega)
  have hE_0_142_1 : ∀ j : Int, w_ei ws (w_ar ws (n_v vs 0) 142) j = w_ei w1 (w_ar ws (n_v vs 0) 142) j := fun j => by unfold w_ei; rw [s1.1, if_neg (fun e => by have e1 := e.1; rw [← e1] at r10; rw [cr_0_142] at r10; exact absurd (Option.some.inj r10) (by decide))]
  have hE_0_142_2 : ∀ j : Int, w_ei w1 (w_ar ws (n_v vs 0) 142) j = w_ei w2 (w_ar ws (n_v vs 0) 142) j := fun j => by unfold w_ei; rw [s2.1, if_neg (fun e => by have e1 := e.1; rw [← e1] at r6; rw [cr_0_142] at r6; exact absurd (Option.some.inj r6) (by decide))]
  have hK_0_142 : ∀ j : Int, 0 ≤ j → j < 4 → 0 ≤ w_ei ws (w_ar ws (n_v vs 0) 142) j ∧ w_ei ws (w_ar ws (n_v vs 0) 142) j ≤ 24009 := fun j h0 h1 => th_el hD hth cr_0_142 (kd := 0) (n := 4) (m := 4) (lo := 0) (hi := 24009) (rs := []) (L := []) rfl (by decide) (j := j.toNat) (by omega)
  have hE_0_143_1 : ∀ j : Int, w_ei ws (w_ar ws (n_v vs 0) 143) j = w_ei w1 (w_ar ws (n_v vs 0) 143) j := fun j => by unfold w_ei; rw [s1.1, if_neg (fun e => by have e1 := e.1; rw [← e1] at r10; rw [cr_0_143] at r10; exact absurd (Option.some.inj r10) (by decide))]
  have hE_0_143_2 : ∀ j : Int, w_ei w1 (w_ar ws (n_v vs 0) 143) j = w_ei w2 (w_ar ws (n_v vs 0) 143) j := fun j => by unfold w_ei; rw [s2.1, if_neg (fun e => by have e1 := e.1; rw [← e1] at r6; rw [cr_0_143] at r6; exact absurd (Option.some.inj r6) (by decide))]
  have hK_0_143 : ∀ j : Int, 0 ≤ j → j < 6000 → 0 ≤ w_ei ws (w_ar ws (n_v vs 0) 143) j ∧ w_ei ws (w_ar ws (n_v vs 0) 143) j ≤ 1 := fun j h0 h1 => th_el hD hth cr_0_143 (kd := 2) (n := 6000) (m := 6000) (lo := 0) (hi := 1) (rs := []) (L := []) rfl (by decide) (j := j.toNat) (by omega)
  have kz_0_146 : (-2147483648) ≤ w_fi ws (n_v vs 0) 146 ∧ w_fi ws (n_v vs 0) 146 ≤ 2147483647 := tv_rng (th_fd hD hth r0 (g := GG_150) rfl (k := 146) (t := (0, -2147483648, 2147483647, [])) rfl rfl)
  have kz_0_147 : (-2147483648) ≤ w_fi ws (n_v vs 0) 147 ∧ w_fi ws (n_v vs 0) 147 ≤ 2147483647 := tv_rng (th_fd hD hth r0 (g := GG_150) rfl (k := 147) (t := (0, -2147483648, 2147483647, [])) rfl rfl)
  have hrf0 : 1 ≤ v_iv (n_v vs 18) ∧ v_iv (n_v vs 18) ≤ 24001 := vc_Mo_reached_at_gb_0_r0 (v_iv (n_v vs 1)) (v_iv (n_v vs 2)) (v_iv (n_v vs 3)) (v_iv (n_v vs 4)) (v_iv (n_v vs 5)) (v_iv (n_v vs 7)) (v_iv (n_v vs 8)) (v_iv (n_v vs 9)) (v_iv (n_v vs 11)) (v_iv (n_v vs 12)) (v_iv (n_v vs 14)) (v_iv (n_v vs 15)) (v_iv (n_v vs 16)) (v_iv (n_v vs 17)) (v_iv (n_v vs 18)) (w_ei ws (w_ar ws (n_v vs 0) 142)) (w_ei w1 (w_ar ws (n_v vs 0) 142)) (w_ei w2 (w_ar ws (n_v vs 0) 140)) (w_ei w2 (w_ar ws (n_v vs 0) 143)) (w_ei w2 (w_ar ws (n_v vs 0) 141)) (w_ei w2 (w_ar ws (n_v vs 0) 142)) (w_fi w2 (n_v vs 0) 146) (w_fi w2 (n_v vs 0) 147) (w_fi ws (n_v vs 0) 146) (w_fi w1 (n_v vs 0) 146) (w_fi ws (n_v vs 0) 147) (w_fi w1 (n_v vs 0) 147) (w_ei ws (w_ar ws (n_v vs 0) 140)) (w_ei w1 (w_ar ws (n_v vs 0) 140)) (w_ei ws (w_ar ws (n_v vs 0) 141)) (w_ei w1 (w_ar ws (n_v vs 0) 141)) (w_ei ws (w_ar ws (n_v vs 0) 143)) (w_ei w1 (w_ar ws (n_v vs 0) 143)) k1 k2 k3 k4 k5 k7 k8 k9 k11 k12 k14 k15 k16 k17 k18 d0 d1 d2 d3 f0 h1 f4 h5 f6 f8 f9 f12 h13 f14 f15 f16 fe_0_146_1 fe_0_147_1 fe_0_146_2 fe_0_147_2 hE_0_140_1 hE_0_140_2 hK_0_140 hE_0_141_1 hE_0_141_2 hK_0_141 hE_0_142_1 hE_0_142_2 hK_0_142 hE_0_143_1 hE_0_143_2 hK_0_143 kz_0_146 kz_0_147
  have rf18 : tv_ok ta (0, 1, 24001, []) (n_v vs 18) := tv_in t18 (by first | omega | grind) (by first | omega | grind)
  refine ⟨List.forall_mem_cons.mpr ⟨rf18, (fun _ h => (by cases h))⟩, [], trivial, ?_, (fun _ h => (by cases h))⟩
  rw [List.append_nil]
  exact (fun _ h => (by cases h))
set_option maxHeartbeats 4000000 in
theorem vc_Mo_reached_at_gb_1_0 (x1 : Int) (x2 : Int) (x3 : Int) (x4 : Int) (x5 : Int) (x7 : Int) (x8 : Int) (x9 : Int) (x11 : Int) (x12 : Int) (x14 : Int) (x15 : Int) (x16 : Int) (x17 : Int) (x18 : Int) (bucketMany_1 : Int → Int) (bucketMany_2 : Int → Int) (costOf_3 : Int → Int) (barredPoint_3 : Int → Int) (bucket_3 : Int → Int) (bucketMany_3 : Int → Int) (wide_3 : Int) (tall_3 : Int) (wide_0 : Int) (wide_1 : Int) (tall_0 : Int) (tall_1 : Int) (wide_2 : Int) (tall_2 : Int) (costOf_0 : Int → Int) (costOf_1 : Int → Int) (costOf_2 : Int → Int) (bucket_0 : Int → Int) (bucket_1 : Int → Int) (bucket_2 : Int → Int) (bucketMany_0 : Int → Int) (barredPoint_0 : Int → Int) (barredPoint_1 : Int → Int) (barredPoint_2 : Int → Int) (k1 : 0 ≤ x1 ∧ x1 ≤ 23999) (k2 : 1 ≤ x2 ∧ x2 ≤ 999999) (k3 : 0 ≤ x3 ∧ x3 ≤ 5999) (k4 : 0 ≤ x4 ∧ x4 ≤ 1000008) (k5 : 0 ≤ x5 ∧ x5 ≤ 23999) (k7 : 2 ≤ x7 ∧ x7 ≤ 1000000) (k8 : 3 ≤ x8 ∧ x8 ≤ 3) (k9 : 0 ≤ x9 ∧ x9 ≤ 3) (k11 : 24010 ≤ x11 ∧ x11 ≤ 24010) (k12 : 0 ≤ x12 ∧ x12 ≤ 72030) (k14 : 0 ≤ x14 ∧ x14 ≤ 24009) (k15 : 0 ≤ x15 ∧ x15 ≤ 96039) (k16 : 0 ≤ x16 ∧ x16 ≤ 24009) (k17 : 1 ≤ x17 ∧ x17 ≤ 1) (k18 : 1 ≤ x18 ∧ x18 ≤ 24001) (d0 : x16 + 1 ≤ x18 ∧ x18 ≤ x16 + 1) (d1 : x14 + 0 ≤ x15 ∧ x15 ≤ x14 + 72030) (d2 : x12 + 0 ≤ x15 ∧ x15 ≤ x12 + 24009) (d3 : x2 + 1 ≤ x7 ∧ x7 ≤ x2 + 4294967296) (f1 : x18 = x16 + x17) (h2 : x16 = bucketMany_1 (x9)) (f5 : x15 = x12 + x14) (h6 : x14 = bucketMany_2 (x9)) (f7 : x12 = 24010 * x9) (f9 : x9 = x2 % 4) (f10 : bvp (x9) = bvp (x2) &&& bvp (x8)) (f13 : x2 < x7) (h14 : x7 = costOf_3 (x1)) (f15 : RTQ (wide_3) (tall_3) (barredPoint_3) (costOf_3) (bucket_3) (bucketMany_3) (x3) (x4)) (f16 : RJB (wide_3) (tall_3) (barredPoint_3) (costOf_3) (x3) (x4) (x1) (x2)) (f17 : PIV (costOf_3) (x5) (x4)) (fe_0_146_1 : wide_0 = wide_1) (fe_0_147_1 : tall_0 = tall_1) (fe_0_146_2 : wide_1 = wide_2) (fe_0_147_2 : tall_1 = tall_2) (fe_0_146_3 : wide_2 = wide_3) (fe_0_147_3 : tall_2 = tall_3) (hE_0_140_1 : ∀ j : Int, costOf_0 j = costOf_1 j) (hE_0_140_2 : ∀ j : Int, costOf_1 j = costOf_2 j) (hE_0_140_3 : ∀ j : Int, 0 ≤ j → (j = x1 → costOf_2 j = x2) ∧ (j ≠ x1 → costOf_2 j = costOf_3 j)) (hK_0_140 : ∀ j : Int, 0 ≤ j → j < 24000 → 0 ≤ costOf_0 j ∧ costOf_0 j ≤ 1000000) (hE_0_141_1 : ∀ j : Int, bucket_0 j = bucket_1 j) (hE_0_141_2 : ∀ j : Int, 0 ≤ j → (j = x15 → bucket_1 j = x1) ∧ (j ≠ x15 → bucket_1 j = bucket_2 j)) (hE_0_141_3 : ∀ j : Int, bucket_2 j = bucket_3 j) (hK_0_141 : ∀ j : Int, 0 ≤ j → j < 96040 → 0 ≤ bucket_0 j ∧ bucket_0 j ≤ 23999) (hE_0_142_1 : ∀ j : Int, 0 ≤ j → (j = x9 → bucketMany_0 j = x18) ∧ (j ≠ x9 → bucketMany_0 j = bucketMany_1 j)) (hE_0_142_2 : ∀ j : Int, bucketMany_1 j = bucketMany_2 j) (hE_0_142_3 : ∀ j : Int, bucketMany_2 j = bucketMany_3 j) (hK_0_142 : ∀ j : Int, 0 ≤ j → j < 4 → 0 ≤ bucketMany_0 j ∧ bucketMany_0 j ≤ 24009) (hE_0_143_1 : ∀ j : Int, barredPoint_0 j = barredPoint_1 j) (hE_0_143_2 : ∀ j : Int, barredPoint_1 j = barredPoint_2 j) (hE_0_143_3 : ∀ j : Int, barredPoint_2 j = barredPoint_3 j) (hK_0_143 : ∀ j : Int, 0 ≤ j → j < 6000 → 0 ≤ barredPoint_0 j ∧ barredPoint_0 j ≤ 1) (kz_0_146 : (-2147483648) ≤ wide_0 ∧ wide_0 ≤ 2147483647) (kz_0_147 : (-2147483648) ≤ tall_0 ∧ tall_0 ≤ 2147483647) : RTQ (wide_0) (tall_0) (barredPoint_0) (costOf_0) (bucket_0) (bucketMany_0) (x3) (x4) := by
  subst fe_0_146_1
  subst fe_0_147_1
  subst fe_0_146_2
  subst fe_0_147_2
  subst fe_0_146_3
  subst fe_0_147_3
  have e_hE_0_140_1 := funext hE_0_140_1; subst e_hE_0_140_1
  have e_hE_0_140_2 := funext hE_0_140_2; subst e_hE_0_140_2
  have e_hE_0_141_1 := funext hE_0_141_1; subst e_hE_0_141_1
  have e_hE_0_141_3 := funext hE_0_141_3; subst e_hE_0_141_3
  have e_hE_0_142_2 := funext hE_0_142_2; subst e_hE_0_142_2
  have e_hE_0_142_3 := funext hE_0_142_3; subst e_hE_0_142_3
  have e_hE_0_143_1 := funext hE_0_143_1; subst e_hE_0_143_1
  have e_hE_0_143_2 := funext hE_0_143_2; subst e_hE_0_143_2
  have e_hE_0_143_3 := funext hE_0_143_3; subst e_hE_0_143_3
  first
    | assumption
    | exact reach_b (b := x9) (m := x14) (p := x15) (q := x16) (o := x18) (s := x1) (v := x2) ‹RTQ _ _ _ _ _ _ _ _› ‹RJB _ _ _ _ _ _ _ _› (by omega) (by assumption) (by omega) (by assumption) (by omega) (by assumption) (by assumption) (by omega) (by assumption)
set_option maxHeartbeats 4000000 in
theorem vc_Mo_reached_at_gb_1_1 (x1 : Int) (x2 : Int) (x3 : Int) (x4 : Int) (x5 : Int) (x7 : Int) (x8 : Int) (x9 : Int) (x11 : Int) (x12 : Int) (x14 : Int) (x15 : Int) (x16 : Int) (x17 : Int) (x18 : Int) (bucketMany_1 : Int → Int) (bucketMany_2 : Int → Int) (costOf_3 : Int → Int) (barredPoint_3 : Int → Int) (bucket_3 : Int → Int) (bucketMany_3 : Int → Int) (wide_3 : Int) (tall_3 : Int) (wide_0 : Int) (wide_1 : Int) (tall_0 : Int) (tall_1 : Int) (wide_2 : Int) (tall_2 : Int) (costOf_0 : Int → Int) (costOf_1 : Int → Int) (costOf_2 : Int → Int) (bucket_0 : Int → Int) (bucket_1 : Int → Int) (bucket_2 : Int → Int) (bucketMany_0 : Int → Int) (barredPoint_0 : Int → Int) (barredPoint_1 : Int → Int) (barredPoint_2 : Int → Int) (k1 : 0 ≤ x1 ∧ x1 ≤ 23999) (k2 : 1 ≤ x2 ∧ x2 ≤ 999999) (k3 : 0 ≤ x3 ∧ x3 ≤ 5999) (k4 : 0 ≤ x4 ∧ x4 ≤ 1000008) (k5 : 0 ≤ x5 ∧ x5 ≤ 23999) (k7 : 2 ≤ x7 ∧ x7 ≤ 1000000) (k8 : 3 ≤ x8 ∧ x8 ≤ 3) (k9 : 0 ≤ x9 ∧ x9 ≤ 3) (k11 : 24010 ≤ x11 ∧ x11 ≤ 24010) (k12 : 0 ≤ x12 ∧ x12 ≤ 72030) (k14 : 0 ≤ x14 ∧ x14 ≤ 24009) (k15 : 0 ≤ x15 ∧ x15 ≤ 96039) (k16 : 0 ≤ x16 ∧ x16 ≤ 24009) (k17 : 1 ≤ x17 ∧ x17 ≤ 1) (k18 : 1 ≤ x18 ∧ x18 ≤ 24001) (d0 : x16 + 1 ≤ x18 ∧ x18 ≤ x16 + 1) (d1 : x14 + 0 ≤ x15 ∧ x15 ≤ x14 + 72030) (d2 : x12 + 0 ≤ x15 ∧ x15 ≤ x12 + 24009) (d3 : x2 + 1 ≤ x7 ∧ x7 ≤ x2 + 4294967296) (f1 : x18 = x16 + x17) (h2 : x16 = bucketMany_1 (x9)) (f5 : x15 = x12 + x14) (h6 : x14 = bucketMany_2 (x9)) (f7 : x12 = 24010 * x9) (f9 : x9 = x2 % 4) (f10 : bvp (x9) = bvp (x2) &&& bvp (x8)) (f13 : x2 < x7) (h14 : x7 = costOf_3 (x1)) (f15 : RTQ (wide_3) (tall_3) (barredPoint_3) (costOf_3) (bucket_3) (bucketMany_3) (x3) (x4)) (f16 : RJB (wide_3) (tall_3) (barredPoint_3) (costOf_3) (x3) (x4) (x1) (x2)) (f17 : PIV (costOf_3) (x5) (x4)) (fe_0_146_1 : wide_0 = wide_1) (fe_0_147_1 : tall_0 = tall_1) (fe_0_146_2 : wide_1 = wide_2) (fe_0_147_2 : tall_1 = tall_2) (fe_0_146_3 : wide_2 = wide_3) (fe_0_147_3 : tall_2 = tall_3) (hE_0_140_1 : ∀ j : Int, costOf_0 j = costOf_1 j) (hE_0_140_2 : ∀ j : Int, costOf_1 j = costOf_2 j) (hE_0_140_3 : ∀ j : Int, 0 ≤ j → (j = x1 → costOf_2 j = x2) ∧ (j ≠ x1 → costOf_2 j = costOf_3 j)) (hK_0_140 : ∀ j : Int, 0 ≤ j → j < 24000 → 0 ≤ costOf_0 j ∧ costOf_0 j ≤ 1000000) (hE_0_141_1 : ∀ j : Int, bucket_0 j = bucket_1 j) (hE_0_141_2 : ∀ j : Int, 0 ≤ j → (j = x15 → bucket_1 j = x1) ∧ (j ≠ x15 → bucket_1 j = bucket_2 j)) (hE_0_141_3 : ∀ j : Int, bucket_2 j = bucket_3 j) (hK_0_141 : ∀ j : Int, 0 ≤ j → j < 96040 → 0 ≤ bucket_0 j ∧ bucket_0 j ≤ 23999) (hE_0_142_1 : ∀ j : Int, 0 ≤ j → (j = x9 → bucketMany_0 j = x18) ∧ (j ≠ x9 → bucketMany_0 j = bucketMany_1 j)) (hE_0_142_2 : ∀ j : Int, bucketMany_1 j = bucketMany_2 j) (hE_0_142_3 : ∀ j : Int, bucketMany_2 j = bucketMany_3 j) (hK_0_142 : ∀ j : Int, 0 ≤ j → j < 4 → 0 ≤ bucketMany_0 j ∧ bucketMany_0 j ≤ 24009) (hE_0_143_1 : ∀ j : Int, barredPoint_0 j = barredPoint_1 j) (hE_0_143_2 : ∀ j : Int, barredPoint_1 j = barredPoint_2 j) (hE_0_143_3 : ∀ j : Int, barredPoint_2 j = barredPoint_3 j) (hK_0_143 : ∀ j : Int, 0 ≤ j → j < 6000 → 0 ≤ barredPoint_0 j ∧ barredPoint_0 j ≤ 1) (kz_0_146 : (-2147483648) ≤ wide_0 ∧ wide_0 ≤ 2147483647) (kz_0_147 : (-2147483648) ≤ tall_0 ∧ tall_0 ≤ 2147483647) : PIV (costOf_0) (x5) (x4) := by
  subst fe_0_146_1
  subst fe_0_147_1
  subst fe_0_146_2
  subst fe_0_147_2
  subst fe_0_146_3
  subst fe_0_147_3
  have e_hE_0_140_1 := funext hE_0_140_1; subst e_hE_0_140_1
  have e_hE_0_140_2 := funext hE_0_140_2; subst e_hE_0_140_2
  have e_hE_0_141_1 := funext hE_0_141_1; subst e_hE_0_141_1
  have e_hE_0_141_3 := funext hE_0_141_3; subst e_hE_0_141_3
  have e_hE_0_142_2 := funext hE_0_142_2; subst e_hE_0_142_2
  have e_hE_0_142_3 := funext hE_0_142_3; subst e_hE_0_142_3
  have e_hE_0_143_1 := funext hE_0_143_1; subst e_hE_0_143_1
  have e_hE_0_143_2 := funext hE_0_143_2; subst e_hE_0_143_2
  have e_hE_0_143_3 := funext hE_0_143_3; subst e_hE_0_143_3
  first
    | assumption
    | exact piv_keep (s := x1) (v := x2) ‹PIV _ _ _› ‹RJB _ _ _ _ _ _ _ _›.2.2.2.1 (by omega) (by assumption)
def o_Mo_reached_at_gb_1 : or_T := (50, 19, [(0, (2, 0, 0, [150])), (1, (0, 0, 23999, [])), (2, (0, 1, 999999, [])), (3, (0, 0, 5999, [])), (4, (0, 0, 1000008, [])), (5, (0, 0, 23999, [])), (6, (2, 0, 0, [251])), (7, (0, 2, 1000000, [])), (8, (0, 3, 3, [])), (9, (0, 0, 3, [])), (10, (2, 0, 0, [252])), (11, (0, 24010, 24010, [])), (12, (0, 0, 72030, [])), (13, (2, 0, 0, [253])), (14, (0, 0, 24009, [])), (15, (0, 0, 96039, [])), (16, (0, 0, 24009, [])), (17, (0, 1, 1, [])), (18, (0, 1, 24001, []))], [(100, [13, 9, 18], []), (1, [18, 16, 17], []), (10, [16, 13, 9], []), (9, [13, 0], [142]), (100, [10, 15, 1], []), (1, [15, 12, 14], []), (10, [14, 13, 9], []), (3, [12, 11, 9], []), (9, [10, 0], [141]), (12, [9, 2], [4]), (16, [9, 2, 8], [0]), (100, [6, 1, 2], []), (9, [6, 0], [140]), (7, [7, 2], [4]), (10, [7, 6, 1], []), (20, [0, 3, 4], [60, 2, 4, 419, 146, 147, 143, 140, 141, 142]), (20, [0, 3, 4, 1, 2], [60, 2, 2, 422, 146, 147, 143, 140]), (20, [0, 5, 4], [60, 0, 1, 421, 140])], [], [], [(20, [0, 3, 4], [60, 2, 4, 419, 146, 147, 143, 140, 141, 142]), (20, [0, 5, 4], [60, 0, 1, 421, 140])], [], [(18, 16, 1, 1), (15, 14, 0, 72030), (15, 12, 0, 24009), (7, 2, 1, 4294967296)])
theorem oo_Mo_reached_at_gb_1 {kA : Nat → ClassId} : or_ok PRD kA GG o_Mo_reached_at_gb_1 := by
  intro A ta ws vs hD hth hl hk hds hf
  have hl : vs.length = 19 := hl
  have hk : ∀ q ∈ ([(0, (2, 0, 0, [150])), (1, (0, 0, 23999, [])), (2, (0, 1, 999999, [])), (3, (0, 0, 5999, [])), (4, (0, 0, 1000008, [])), (5, (0, 0, 23999, [])), (6, (2, 0, 0, [251])), (7, (0, 2, 1000000, [])), (8, (0, 3, 3, [])), (9, (0, 0, 3, [])), (10, (2, 0, 0, [252])), (11, (0, 24010, 24010, [])), (12, (0, 0, 72030, [])), (13, (2, 0, 0, [253])), (14, (0, 0, 24009, [])), (15, (0, 0, 96039, [])), (16, (0, 0, 24009, [])), (17, (0, 1, 1, [])), (18, (0, 1, 24001, []))] : List (Nat × tv_T)), tv_ok ta q.2 (n_v vs q.1) := hk
  obtain ⟨t0, hk⟩ := List.forall_mem_cons.mp hk
  have t0 : tv_ok ta (2, 0, 0, [150]) (n_v vs 0) := t0
  have r0 : ta (v_ad (n_v vs 0)) = some 150 := tv_rg t0
  obtain ⟨t1, hk⟩ := List.forall_mem_cons.mp hk
  have t1 : tv_ok ta (0, 0, 23999, []) (n_v vs 1) := t1
  have k1 : 0 ≤ v_iv (n_v vs 1) ∧ v_iv (n_v vs 1) ≤ 23999 := tv_rng t1
  obtain ⟨t2, hk⟩ := List.forall_mem_cons.mp hk
  have t2 : tv_ok ta (0, 1, 999999, []) (n_v vs 2) := t2
  have k2 : 1 ≤ v_iv (n_v vs 2) ∧ v_iv (n_v vs 2) ≤ 999999 := tv_rng t2
  obtain ⟨t3, hk⟩ := List.forall_mem_cons.mp hk
  have t3 : tv_ok ta (0, 0, 5999, []) (n_v vs 3) := t3
  have k3 : 0 ≤ v_iv (n_v vs 3) ∧ v_iv (n_v vs 3) ≤ 5999 := tv_rng t3
  obtain ⟨t4, hk⟩ := List.forall_mem_cons.mp hk
  have t4 : tv_ok ta (0, 0, 1000008, []) (n_v vs 4) := t4
  have k4 : 0 ≤ v_iv (n_v vs 4) ∧ v_iv (n_v vs 4) ≤ 1000008 := tv_rng t4
  obtain ⟨t5, hk⟩ := List.forall_mem_cons.mp hk
  have t5 : tv_ok ta (0, 0, 23999, []) (n_v vs 5) := t5
  have k5 : 0 ≤ v_iv (n_v vs 5) ∧ v_iv (n_v vs 5) ≤ 23999 := tv_rng t5
  obtain ⟨t6, hk⟩ := List.forall_mem_cons.mp hk
  have t6 : tv_ok ta (2, 0, 0, [251]) (n_v vs 6) := t6
  have r6 : ta (v_ad (n_v vs 6)) = some 251 := tv_rg t6
  obtain ⟨t7, hk⟩ := List.forall_mem_cons.mp hk
  have t7 : tv_ok ta (0, 2, 1000000, []) (n_v vs 7) := t7
  have k7 : 2 ≤ v_iv (n_v vs 7) ∧ v_iv (n_v vs 7) ≤ 1000000 := tv_rng t7
  obtain ⟨t8, hk⟩ := List.forall_mem_cons.mp hk
  have t8 : tv_ok ta (0, 3, 3, []) (n_v vs 8) := t8
  have k8 : 3 ≤ v_iv (n_v vs 8) ∧ v_iv (n_v vs 8) ≤ 3 := tv_rng t8
  obtain ⟨t9, hk⟩ := List.forall_mem_cons.mp hk
  have t9 : tv_ok ta (0, 0, 3, []) (n_v vs 9) := t9
  have k9 : 0 ≤ v_iv (n_v vs 9) ∧ v_iv (n_v vs 9) ≤ 3 := tv_rng t9
  obtain ⟨t10, hk⟩ := List.forall_mem_cons.mp hk
  have t10 : tv_ok ta (2, 0, 0, [252]) (n_v vs 10) := t10
  have r10 : ta (v_ad (n_v vs 10)) = some 252 := tv_rg t10
  obtain ⟨t11, hk⟩ := List.forall_mem_cons.mp hk
  have t11 : tv_ok ta (0, 24010, 24010, []) (n_v vs 11) := t11
  have k11 : 24010 ≤ v_iv (n_v vs 11) ∧ v_iv (n_v vs 11) ≤ 24010 := tv_rng t11
  obtain ⟨t12, hk⟩ := List.forall_mem_cons.mp hk
  have t12 : tv_ok ta (0, 0, 72030, []) (n_v vs 12) := t12
  have k12 : 0 ≤ v_iv (n_v vs 12) ∧ v_iv (n_v vs 12) ≤ 72030 := tv_rng t12
  obtain ⟨t13, hk⟩ := List.forall_mem_cons.mp hk
  have t13 : tv_ok ta (2, 0, 0, [253]) (n_v vs 13) := t13
  have r13 : ta (v_ad (n_v vs 13)) = some 253 := tv_rg t13
  obtain ⟨t14, hk⟩ := List.forall_mem_cons.mp hk
  have t14 : tv_ok ta (0, 0, 24009, []) (n_v vs 14) := t14
  have k14 : 0 ≤ v_iv (n_v vs 14) ∧ v_iv (n_v vs 14) ≤ 24009 := tv_rng t14
  obtain ⟨t15, hk⟩ := List.forall_mem_cons.mp hk
  have t15 : tv_ok ta (0, 0, 96039, []) (n_v vs 15) := t15
  have k15 : 0 ≤ v_iv (n_v vs 15) ∧ v_iv (n_v vs 15) ≤ 96039 := tv_rng t15
  obtain ⟨t16, hk⟩ := List.forall_mem_cons.mp hk
  have t16 : tv_ok ta (0, 0, 24009, []) (n_v vs 16) := t16
  have k16 : 0 ≤ v_iv (n_v vs 16) ∧ v_iv (n_v vs 16) ≤ 24009 := tv_rng t16
  obtain ⟨t17, hk⟩ := List.forall_mem_cons.mp hk
  have t17 : tv_ok ta (0, 1, 1, []) (n_v vs 17) := t17
  have k17 : 1 ≤ v_iv (n_v vs 17) ∧ v_iv (n_v vs 17) ≤ 1 := tv_rng t17
  obtain ⟨t18, hk⟩ := List.forall_mem_cons.mp hk
  have t18 : tv_ok ta (0, 1, 24001, []) (n_v vs 18) := t18
  have k18 : 1 ≤ v_iv (n_v vs 18) ∧ v_iv (n_v vs 18) ≤ 24001 := tv_rng t18
  have hds : ∀ q ∈ ([(18, 16, 1, 1), (15, 14, 0, 72030), (15, 12, 0, 24009), (7, 2, 1, 4294967296)] : List of_T), n_iv vs q.2.1 + q.2.2.1 ≤ n_iv vs q.1 ∧ n_iv vs q.1 ≤ n_iv vs q.2.1 + q.2.2.2 := hds
  obtain ⟨d0, hds⟩ := List.forall_mem_cons.mp hds
  have d0 : v_iv (n_v vs 16) + 1 ≤ v_iv (n_v vs 18) ∧ v_iv (n_v vs 18) ≤ v_iv (n_v vs 16) + 1 := d0
  obtain ⟨d1, hds⟩ := List.forall_mem_cons.mp hds
  have d1 : v_iv (n_v vs 14) + 0 ≤ v_iv (n_v vs 15) ∧ v_iv (n_v vs 15) ≤ v_iv (n_v vs 14) + 72030 := d1
  obtain ⟨d2, hds⟩ := List.forall_mem_cons.mp hds
  have d2 : v_iv (n_v vs 12) + 0 ≤ v_iv (n_v vs 15) ∧ v_iv (n_v vs 15) ≤ v_iv (n_v vs 12) + 24009 := d2
  obtain ⟨d3, hds⟩ := List.forall_mem_cons.mp hds
  have d3 : v_iv (n_v vs 2) + 1 ≤ v_iv (n_v vs 7) ∧ v_iv (n_v vs 7) ≤ v_iv (n_v vs 2) + 4294967296 := d3
  have hf : fc_ok PRD [(100, [13, 9, 18], []), (1, [18, 16, 17], []), (10, [16, 13, 9], []), (9, [13, 0], [142]), (100, [10, 15, 1], []), (1, [15, 12, 14], []), (10, [14, 13, 9], []), (3, [12, 11, 9], []), (9, [10, 0], [141]), (12, [9, 2], [4]), (16, [9, 2, 8], [0]), (100, [6, 1, 2], []), (9, [6, 0], [140]), (7, [7, 2], [4]), (10, [7, 6, 1], []), (20, [0, 3, 4], [60, 2, 4, 419, 146, 147, 143, 140, 141, 142]), (20, [0, 3, 4, 1, 2], [60, 2, 2, 422, 146, 147, 143, 140]), (20, [0, 5, 4], [60, 0, 1, 421, 140])] ta ws vs := hf
  obtain ⟨ta1, w1, le1, ⟨_, s1⟩, hf⟩ := fc_us (show ¬ (100 : Nat) < 100 from by decide) hf
  have s1 : (∀ b j, w_el ws b j = if b = v_ad (n_v vs 13) ∧ j = (v_iv (n_v vs 9)).toNat then v_iv (n_v vs 18) else w_el w1 b j) ∧ ∀ b k, w_fd ws b k = w_fd w1 b k := s1
  obtain ⟨f1, hf⟩ := fc_un (show (1 : Nat) < 100 from by decide) hf
  have f1 : v_iv (n_v vs 18) = v_iv (n_v vs 16) + v_iv (n_v vs 17) := f1
  obtain ⟨f2, hf⟩ := fc_un (show (10 : Nat) < 100 from by decide) hf
  have f2 : v_iv (n_v vs 16) = w_el w1 (v_ad (n_v vs 13)) (v_iv (n_v vs 9)).toNat := f2
  obtain ⟨f3, hf⟩ := fc_un (show (9 : Nat) < 100 from by decide) hf
  have f3 : n_v vs 13 = w_fd w1 (v_ad (n_v vs 0)) 142 := f3
  obtain ⟨ta2, w2, le2, ⟨_, s2⟩, hf⟩ := fc_us (show ¬ (100 : Nat) < 100 from by decide) hf
  have s2 : (∀ b j, w_el w1 b j = if b = v_ad (n_v vs 10) ∧ j = (v_iv (n_v vs 15)).toNat then v_iv (n_v vs 1) else w_el w2 b j) ∧ ∀ b k, w_fd w1 b k = w_fd w2 b k := s2
  obtain ⟨f5, hf⟩ := fc_un (show (1 : Nat) < 100 from by decide) hf
  have f5 : v_iv (n_v vs 15) = v_iv (n_v vs 12) + v_iv (n_v vs 14) := f5
  obtain ⟨f6, hf⟩ := fc_un (show (10 : Nat) < 100 from by decide) hf
  have f6 : v_iv (n_v vs 14) = w_el w2 (v_ad (n_v vs 13)) (v_iv (n_v vs 9)).toNat := f6
  obtain ⟨f7, hf⟩ := fc_un (show (3 : Nat) < 100 from by decide) hf
  have f7 : v_iv (n_v vs 12) = v_iv (n_v vs 11) * v_iv (n_v vs 9) := f7
  rw [show v_iv (n_v vs 11) = 24010 from by omega] at f7
  obtain ⟨f8, hf⟩ := fc_un (show (9 : Nat) < 100 from by decide) hf
  have f8 : n_v vs 10 = w_fd w2 (v_ad (n_v vs 0)) 141 := f8
  obtain ⟨f9, hf⟩ := fc_un (show (12 : Nat) < 100 from by decide) hf
  have f9 : v_iv (n_v vs 9) = v_iv (n_v vs 2) % 4 := f9
  obtain ⟨f10, hf⟩ := fc_un (show (16 : Nat) < 100 from by decide) hf
  have f10 : bv (v_iv (n_v vs 9)) = bv (v_iv (n_v vs 2)) &&& bv (v_iv (n_v vs 8)) := f10
  obtain ⟨ta3, w3, le3, ⟨_, s3⟩, hf⟩ := fc_us (show ¬ (100 : Nat) < 100 from by decide) hf
  have s3 : (∀ b j, w_el w2 b j = if b = v_ad (n_v vs 6) ∧ j = (v_iv (n_v vs 1)).toNat then v_iv (n_v vs 2) else w_el w3 b j) ∧ ∀ b k, w_fd w2 b k = w_fd w3 b k := s3
  obtain ⟨f12, hf⟩ := fc_un (show (9 : Nat) < 100 from by decide) hf
  have f12 : n_v vs 6 = w_fd w3 (v_ad (n_v vs 0)) 140 := f12
  obtain ⟨f13, hf⟩ := fc_un (show (7 : Nat) < 100 from by decide) hf
  have f13 : v_iv (n_v vs 2) < v_iv (n_v vs 7) := f13
  obtain ⟨f14, hf⟩ := fc_un (show (10 : Nat) < 100 from by decide) hf
  have f14 : v_iv (n_v vs 7) = w_el w3 (v_ad (n_v vs 6)) (v_iv (n_v vs 1)).toNat := f14
  obtain ⟨f15, hf⟩ := fc_un (show (20 : Nat) < 100 from by decide) hf
  have f15 : RTQ (w_fi w3 (n_v vs 0) 146) (w_fi w3 (n_v vs 0) 147) (w_ei w3 (w_ar w3 (n_v vs 0) 143)) (w_ei w3 (w_ar w3 (n_v vs 0) 140)) (w_ei w3 (w_ar w3 (n_v vs 0) 141)) (w_ei w3 (w_ar w3 (n_v vs 0) 142)) (v_iv (n_v vs 3)) (v_iv (n_v vs 4)) := f15
  obtain ⟨f16, hf⟩ := fc_un (show (20 : Nat) < 100 from by decide) hf
  have f16 : RJB (w_fi w3 (n_v vs 0) 146) (w_fi w3 (n_v vs 0) 147) (w_ei w3 (w_ar w3 (n_v vs 0) 143)) (w_ei w3 (w_ar w3 (n_v vs 0) 140)) (v_iv (n_v vs 3)) (v_iv (n_v vs 4)) (v_iv (n_v vs 1)) (v_iv (n_v vs 2)) := f16
  obtain ⟨f17, hf⟩ := fc_un (show (20 : Nat) < 100 from by decide) hf
  have f17 : PIV (w_ei w3 (w_ar w3 (n_v vs 0) 140)) (v_iv (n_v vs 5)) (v_iv (n_v vs 4)) := f17
  have ar_0_140_1 : w_ar w1 (n_v vs 0) 140 = w_ar ws (n_v vs 0) 140 := by show v_ad (w_fd w1 _ _) = v_ad (w_fd ws _ _); rw [s1.2]
  have ar_0_140_2 : w_ar w2 (n_v vs 0) 140 = w_ar ws (n_v vs 0) 140 := by rw [← ar_0_140_1]; show v_ad (w_fd w2 _ _) = v_ad (w_fd w1 _ _); rw [s2.2]
  have ar_0_140_3 : w_ar w3 (n_v vs 0) 140 = w_ar ws (n_v vs 0) 140 := by rw [← ar_0_140_2]; show v_ad (w_fd w3 _ _) = v_ad (w_fd w2 _ _); rw [s3.2]
  have cr_0_140 : ta (w_ar ws (n_v vs 0) 140) = some 251 := tv_rg (th_fd hD hth r0 (g := GG_150) rfl (k := 140) (t := (2, 0, 0, [251])) rfl rfl)
  have ar_0_141_1 : w_ar w1 (n_v vs 0) 141 = w_ar ws (n_v vs 0) 141 := by show v_ad (w_fd w1 _ _) = v_ad (w_fd ws _ _); rw [s1.2]
  have ar_0_141_2 : w_ar w2 (n_v vs 0) 141 = w_ar ws (n_v vs 0) 141 := by rw [← ar_0_141_1]; show v_ad (w_fd w2 _ _) = v_ad (w_fd w1 _ _); rw [s2.2]
  have ar_0_141_3 : w_ar w3 (n_v vs 0) 141 = w_ar ws (n_v vs 0) 141 := by rw [← ar_0_141_2]; show v_ad (w_fd w3 _ _) = v_ad (w_fd w2 _ _); rw [s3.2]
  have cr_0_141 : ta (w_ar ws (n_v vs 0) 141) = some 252 := tv_rg (th_fd hD hth r0 (g := GG_150) rfl (k := 141) (t := (2, 0, 0, [252])) rfl rfl)
  have ar_0_142_1 : w_ar w1 (n_v vs 0) 142 = w_ar ws (n_v vs 0) 142 := by show v_ad (w_fd w1 _ _) = v_ad (w_fd ws _ _); rw [s1.2]
  have ar_0_142_2 : w_ar w2 (n_v vs 0) 142 = w_ar ws (n_v vs 0) 142 := by rw [← ar_0_142_1]; show v_ad (w_fd w2 _ _) = v_ad (w_fd w1 _ _); rw [s2.2]
  have ar_0_142_3 : w_ar w3 (n_v vs 0) 142 = w_ar ws (n_v vs 0) 142 := by rw [← ar_0_142_2]; show v_ad (w_fd w3 _ _) = v_ad (w_fd w2 _ _); rw [s3.2]
  have cr_0_142 : ta (w_ar ws (n_v vs 0) 142) = some 253 := tv_rg (th_fd hD hth r0 (g := GG_150) rfl (k := 142) (t := (2, 0, 0, [253])) rfl rfl)
  have ar_0_143_1 : w_ar w1 (n_v vs 0) 143 = w_ar ws (n_v vs 0) 143 := by show v_ad (w_fd w1 _ _) = v_ad (w_fd ws _ _); rw [s1.2]
  have ar_0_143_2 : w_ar w2 (n_v vs 0) 143 = w_ar ws (n_v vs 0) 143 := by rw [← ar_0_143_1]; show v_ad (w_fd w2 _ _) = v_ad (w_fd w1 _ _); rw [s2.2]
  have ar_0_143_3 : w_ar w3 (n_v vs 0) 143 = w_ar ws (n_v vs 0) 143 := by rw [← ar_0_143_2]; show v_ad (w_fd w3 _ _) = v_ad (w_fd w2 _ _); rw [s3.2]
  have cr_0_143 : ta (w_ar ws (n_v vs 0) 143) = some 254 := tv_rg (th_fd hD hth r0 (g := GG_150) rfl (k := 143) (t := (2, 0, 0, [254])) rfl rfl)
  have ad_13 : v_ad (n_v vs 13) = w_ar ws (n_v vs 0) 142 := (congrArg v_ad f3).trans ar_0_142_1
  have ad_10 : v_ad (n_v vs 10) = w_ar ws (n_v vs 0) 141 := (congrArg v_ad f8).trans ar_0_141_2
  have ad_6 : v_ad (n_v vs 6) = w_ar ws (n_v vs 0) 140 := (congrArg v_ad f12).trans ar_0_140_3
  rw [ad_13] at f2
  have h2 : v_iv (n_v vs 16) = w_ei w1 (w_ar ws (n_v vs 0) 142) (v_iv (n_v vs 9)) := f2
  rw [ad_13] at f6
  have h6 : v_iv (n_v vs 14) = w_ei w2 (w_ar ws (n_v vs 0) 142) (v_iv (n_v vs 9)) := f6
  rw [ad_6] at f14
  have h14 : v_iv (n_v vs 7) = w_ei w3 (w_ar ws (n_v vs 0) 140) (v_iv (n_v vs 1)) := f14
  rw [ar_0_140_3] at f15
  rw [ar_0_141_3] at f15
  rw [ar_0_142_3] at f15
  rw [ar_0_143_3] at f15
  rw [ar_0_140_3] at f16
  rw [ar_0_143_3] at f16
  rw [ar_0_140_3] at f17
  have fe_0_146_1 : w_fi ws (n_v vs 0) 146 = w_fi w1 (n_v vs 0) 146 := congrArg v_iv (s1.2 _ _)
  have fe_0_147_1 : w_fi ws (n_v vs 0) 147 = w_fi w1 (n_v vs 0) 147 := congrArg v_iv (s1.2 _ _)
  have fe_0_146_2 : w_fi w1 (n_v vs 0) 146 = w_fi w2 (n_v vs 0) 146 := congrArg v_iv (s2.2 _ _)
  have fe_0_147_2 : w_fi w1 (n_v vs 0) 147 = w_fi w2 (n_v vs 0) 147 := congrArg v_iv (s2.2 _ _)
  have fe_0_146_3 : w_fi w2 (n_v vs 0) 146 = w_fi w3 (n_v vs 0) 146 := congrArg v_iv (s3.2 _ _)
  have fe_0_147_3 : w_fi w2 (n_v vs 0) 147 = w_fi w3 (n_v vs 0) 147 := congrArg v_iv (s3.2 _ _)
  have hE_0_140_1 : ∀ j : Int, w_ei ws (w_ar ws (n_v vs 0) 140) j = w_ei w1 (w_ar ws (n_v vs 0) 140) j := fun j => by unfold w_ei; rw [s1.1, if_neg (fun e => by have e1 := e.1; rw [← e1] at r13; rw [cr_0_140] at r13; exact absurd (Option.some.inj r13) (by decide))]
  have hE_0_140_2 : ∀ j : Int, w_ei w1 (w_ar ws (n_v vs 0) 140) j = w_ei w2 (w_ar ws (n_v vs 0) 140) j := fun j => by unfold w_ei; rw [s2.1, if_neg (fun e => by have e1 := e.1; rw [← e1] at r10; rw [cr_0_140] at r10; exact absurd (Option.some.inj r10) (by decide))]
  have hE_0_140_3 : ∀ j : Int, 0 ≤ j → (j = v_iv (n_v vs 1) → w_ei w2 (w_ar ws (n_v vs 0) 140) j = v_iv (n_v vs 2)) ∧ (j ≠ v_iv (n_v vs 1) → w_ei w2 (w_ar ws (n_v vs 0) 140) j = w_ei w3 (w_ar ws (n_v vs 0) 140) j) := fun j hj => ⟨fun h => by unfold w_ei; rw [s3.1, if_pos ⟨ad_6.symm, by rw [h]⟩], fun h => by unfold w_ei; rw [s3.1, if_neg (fun e => h (by have := e.2; omega))]⟩
  have hK_0_140 : ∀ j : Int, 0 ≤ j → j < 24000 → 0 ≤ w_ei ws (w_ar ws (n_v vs 0) 140) j ∧ w_ei ws (w_ar ws (n_v vs 0) 140) j ≤ 1000000 := fun j h0 h1 => th_el hD hth cr_0_140 (kd := 0) (n := 24000) (m := 24000) (lo := 0) (hi := 1000000) (rs := []) (L := []) rfl (by decide) (j := j.toNat) (by omega)
  have hE_0_141_1 : ∀ j : Int, w_ei ws (w_ar ws (n_v vs 0) 141) j = w_ei w1 (w_ar ws (n_v vs 0) 141) j := fun j => by unfold w_ei; rw [s1.1, if_neg (fun e => by have e1 := e.1; rw [← e1] at r13; rw [cr_0_141] at r13; exact absurd (Option.some.inj r13) (by decide))]
  have hE_0_141_2 : ∀ j : Int, 0 ≤ j → (j = v_iv (n_v vs 15) → w_ei w1 (w_ar ws (n_v vs 0) 141) j = v_iv (n_v vs 1)) ∧ (j ≠ v_iv (n_v vs 15) → w_ei w1 (w_ar ws (n_v vs 0) 141) j = w_ei w2 (w_ar ws (n_v vs 0) 141) j) := fun j hj => ⟨fun h => by unfold w_ei; rw [s2.1, if_pos ⟨ad_10.symm, by rw [h]⟩], fun h => by unfold w_ei; rw [s2.1, if_neg (fun e => h (by have := e.2; omega))]⟩
  have hE_0_141_3 : ∀ j : Int, w_ei w2 (w_ar ws (n_v vs 0) 141) j = w_ei w3 (w_ar ws (n_v vs 0) 141) j := fun j => by unfold w_ei; rw [s3.1, if_neg (fun e => by have e1 := e.1; rw [← e1] at r6; rw [cr_0_141] at r6; exact absurd (Option.some.inj r6) (by decide))]
  have hK_0_141 : ∀ j : Int, 0 ≤ j → j < 96040 → 0 ≤ w_ei ws (w_ar ws (n_v vs 0) 141) j ∧ w_ei ws (w_ar ws (n_v vs 0) 141) j ≤ 23999 := fun j h0 h1 => th_el hD hth cr_0_141 (kd := 0) (n := 96040) (m := 96040) (lo := 0) (hi := 23999) (rs := []) (L := []) rfl (by decide) (j := j.toNat) (by omega)
  have hE_0_142_1 : ∀ j : Int, 0 ≤ j → (j = v_iv (n_v vs 9) → w_ei ws (w_ar ws (n_v vs 0) 142) j = v_iv (n_v vs 18)) ∧ (j ≠ v_iv (n_v vs 9) → w_ei ws (w_ar ws (n_v vs 0) 142) j = w_ei w1 (w_ar ws (n_v vs 0) 142) j) := fun j hj => ⟨fun h => by unfold w_ei; rw [s1.1, if_pos ⟨ad_13.symm, by rw [h]⟩], fun h => by unfold w_ei; rw [s1.1, if_neg (fun e => h (by have := e.2; omega))]⟩
  have hE_0_142_2 : ∀ j : Int, w_ei w1 (w_ar ws (n_v vs 0) 142) j = w_ei w2 (w_ar ws (n_v vs 0) 142) j := fun j => by unfold w_ei; rw [s2.1, if_neg (fun e => by have e1 := e.1; rw [← e1] at r10; rw [cr_0_142] at r10; exact absurd (Option.some.inj r10) (by decide))]
  have hE_0_142_3 : ∀ j : Int, w_ei w2 (w_ar ws (n_v vs 0) 142) j = w_ei w3 (w_ar ws (n_v vs 0) 142) j := fun j => by unfold w_ei; rw [s3.1, if_neg (fun e => by have e1 := e.1; rw [← e1] at r6; rw [cr_0_142] at r6; exact absurd (Option.some.inj r6) (by decide))]
  have hK_0_142 : ∀ j : Int, 0 ≤ j → j < 4 → 0 ≤ w_ei ws (w_ar ws (n_v vs 0) 142) j ∧ w_ei ws (w_ar ws (n_v vs 0) 142) j ≤ 24009 := fun j h0 h1 => th_el hD hth cr_0_142 (kd := 0) (n := 4) (m := 4) (lo := 0) (hi := 24009) (rs := []) (L := []) rfl (by decide) (j := j.toNat) (by omega)
  have hE_0_143_1 : ∀ j : Int, w_ei ws (w_ar ws (n_v vs 0) 143) j = w_ei w1 (w_ar ws (n_v vs 0) 143) j := fun j => by unfold w_ei; rw [s1.1, if_neg (fun e => by have e1 := e.1; rw [← e1] at r13; rw [cr_0_143] at r13; exact absurd (Option.some.inj r13) (by decide))]
  have hE_0_143_2 : ∀ j : Int, w_ei w1 (w_ar ws (n_v vs 0) 143) j = w_ei w2 (w_ar ws (n_v vs 0) 143) j := fun j => by unfold w_ei; rw [s2.1, if_neg (fun e => by have e1 := e.1; rw [← e1] at r10; rw [cr_0_143] at r10; exact absurd (Option.some.inj r10) (by decide))]
  have hE_0_143_3 : ∀ j : Int, w_ei w2 (w_ar ws (n_v vs 0) 143) j = w_ei w3 (w_ar ws (n_v vs 0) 143) j := fun j => by unfold w_ei; rw [s3.1, if_neg (fun e => by have e1 := e.1; rw [← e1] at r6; rw [cr_0_143] at r6; exact absurd (Option.some.inj r6) (by decide))]
  have hK_0_143 : ∀ j : Int, 0 ≤ j → j < 6000 → 0 ≤ w_ei ws (w_ar ws (n_v vs 0) 143) j ∧ w_ei ws (w_ar ws (n_v vs 0) 143) j ≤ 1 := fun j h0 h1 => th_el hD hth cr_0_143 (kd := 2) (n := 6000) (m := 6000) (lo := 0) (hi := 1) (rs := []) (L := []) rfl (by decide) (j := j.toNat) (by omega)
  have kz_0_146 : (-2147483648) ≤ w_fi ws (n_v vs 0) 146 ∧ w_fi ws (n_v vs 0) 146 ≤ 2147483647 := tv_rng (th_fd hD hth r0 (g := GG_150) rfl (k := 146) (t := (0, -2147483648, 2147483647, [])) rfl rfl)
  have kz_0_147 : (-2147483648) ≤ w_fi ws (n_v vs 0) 147 ∧ w_fi ws (n_v vs 0) 147 ≤ 2147483647 := tv_rng (th_fd hD hth r0 (g := GG_150) rfl (k := 147) (t := (0, -2147483648, 2147483647, [])) rfl rfl)
  have nf0 : fc_1 PRD (20, [0, 3, 4], [60, 2, 4, 419, 146, 147, 143, 140, 141, 142]) ws (vs) := by
    refine ⟨fun n hn => ?_, ?_⟩
    · have hn : n ∈ [0, 3, 4] := hn
      rw [hl]
      simp only [List.mem_cons, List.not_mem_nil, or_false] at hn
      show n < 19; omega
    · show RTQ (w_fi ws (n_v vs 0) 146) (w_fi ws (n_v vs 0) 147) (w_ei ws (w_ar ws (n_v vs 0) 143)) (w_ei ws (w_ar ws (n_v vs 0) 140)) (w_ei ws (w_ar ws (n_v vs 0) 141)) (w_ei ws (w_ar ws (n_v vs 0) 142)) (v_iv (n_v vs 3)) (v_iv (n_v vs 4))
      exact vc_Mo_reached_at_gb_1_0 (v_iv (n_v vs 1)) (v_iv (n_v vs 2)) (v_iv (n_v vs 3)) (v_iv (n_v vs 4)) (v_iv (n_v vs 5)) (v_iv (n_v vs 7)) (v_iv (n_v vs 8)) (v_iv (n_v vs 9)) (v_iv (n_v vs 11)) (v_iv (n_v vs 12)) (v_iv (n_v vs 14)) (v_iv (n_v vs 15)) (v_iv (n_v vs 16)) (v_iv (n_v vs 17)) (v_iv (n_v vs 18)) (w_ei w1 (w_ar ws (n_v vs 0) 142)) (w_ei w2 (w_ar ws (n_v vs 0) 142)) (w_ei w3 (w_ar ws (n_v vs 0) 140)) (w_ei w3 (w_ar ws (n_v vs 0) 143)) (w_ei w3 (w_ar ws (n_v vs 0) 141)) (w_ei w3 (w_ar ws (n_v vs 0) 142)) (w_fi w3 (n_v vs 0) 146) (w_fi w3 (n_v vs 0) 147) (w_fi ws (n_v vs 0) 146) (w_fi w1 (n_v vs 0) 146) (w_fi ws (n_v vs 0) 147) (w_fi w1 (n_v vs 0) 147) (w_fi w2 (n_v vs 0) 146) (w_fi w2 (n_v vs 0) 147) (w_ei ws (w_ar ws (n_v vs 0) 140)) (w_ei w1 (w_ar ws (n_v vs 0) 140)) (w_ei w2 (w_ar ws (n_v vs 0) 140)) (w_ei ws (w_ar ws (n_v vs 0) 141)) (w_ei w1 (w_ar ws (n_v vs 0) 141)) (w_ei w2 (w_ar ws (n_v vs 0) 141)) (w_ei ws (w_ar ws (n_v vs 0) 142)) (w_ei ws (w_ar ws (n_v vs 0) 143)) (w_ei w1 (w_ar ws (n_v vs 0) 143)) (w_ei w2 (w_ar ws (n_v vs 0) 143)) k1 k2 k3 k4 k5 k7 k8 k9 k11 k12 k14 k15 k16 k17 k18 d0 d1 d2 d3 f1 h2 f5 h6 f7 f9 f10 f13 h14 f15 f16 f17 fe_0_146_1 fe_0_147_1 fe_0_146_2 fe_0_147_2 fe_0_146_3 fe_0_147_3 hE_0_140_1 hE_0_140_2 hE_0_140_3 hK_0_140 hE_0_141_1 hE_0_141_2 hE_0_141_3 hK_0_141 hE_0_142_1 hE_0_142_2 hE_0_142_3 hK_0_142 hE_0_143_1 hE_0_143_2 hE_0_143_3 hK_0_143 kz_0_146 kz_0_147
  have nf1 : fc_1 PRD (20, [0, 5, 4], [60, 0, 1, 421, 140]) ws (vs) := by
    refine ⟨fun n hn => ?_, ?_⟩
    · have hn : n ∈ [0, 5, 4] := hn
      rw [hl]
      simp only [List.mem_cons, List.not_mem_nil, or_false] at hn
      show n < 19; omega
    · show PIV (w_ei ws (w_ar ws (n_v vs 0) 140)) (v_iv (n_v vs 5)) (v_iv (n_v vs 4))
      exact vc_Mo_reached_at_gb_1_1 (v_iv (n_v vs 1)) (v_iv (n_v vs 2)) (v_iv (n_v vs 3)) (v_iv (n_v vs 4)) (v_iv (n_v vs 5)) (v_iv (n_v vs 7)) (v_iv (n_v vs 8)) (v_iv (n_v vs 9)) (v_iv (n_v vs 11)) (v_iv (n_v vs 12)) (v_iv (n_v vs 14)) (v_iv (n_v vs 15)) (v_iv (n_v vs 16)) (v_iv (n_v vs 17)) (v_iv (n_v vs 18)) (w_ei w1 (w_ar ws (n_v vs 0) 142)) (w_ei w2 (w_ar ws (n_v vs 0) 142)) (w_ei w3 (w_ar ws (n_v vs 0) 140)) (w_ei w3 (w_ar ws (n_v vs 0) 143)) (w_ei w3 (w_ar ws (n_v vs 0) 141)) (w_ei w3 (w_ar ws (n_v vs 0) 142)) (w_fi w3 (n_v vs 0) 146) (w_fi w3 (n_v vs 0) 147) (w_fi ws (n_v vs 0) 146) (w_fi w1 (n_v vs 0) 146) (w_fi ws (n_v vs 0) 147) (w_fi w1 (n_v vs 0) 147) (w_fi w2 (n_v vs 0) 146) (w_fi w2 (n_v vs 0) 147) (w_ei ws (w_ar ws (n_v vs 0) 140)) (w_ei w1 (w_ar ws (n_v vs 0) 140)) (w_ei w2 (w_ar ws (n_v vs 0) 140)) (w_ei ws (w_ar ws (n_v vs 0) 141)) (w_ei w1 (w_ar ws (n_v vs 0) 141)) (w_ei w2 (w_ar ws (n_v vs 0) 141)) (w_ei ws (w_ar ws (n_v vs 0) 142)) (w_ei ws (w_ar ws (n_v vs 0) 143)) (w_ei w1 (w_ar ws (n_v vs 0) 143)) (w_ei w2 (w_ar ws (n_v vs 0) 143)) k1 k2 k3 k4 k5 k7 k8 k9 k11 k12 k14 k15 k16 k17 k18 d0 d1 d2 d3 f1 h2 f5 h6 f7 f9 f10 f13 h14 f15 f16 f17 fe_0_146_1 fe_0_147_1 fe_0_146_2 fe_0_147_2 fe_0_146_3 fe_0_147_3 hE_0_140_1 hE_0_140_2 hE_0_140_3 hK_0_140 hE_0_141_1 hE_0_141_2 hE_0_141_3 hK_0_141 hE_0_142_1 hE_0_142_2 hE_0_142_3 hK_0_142 hE_0_143_1 hE_0_143_2 hE_0_143_3 hK_0_143 kz_0_146 kz_0_147
  refine ⟨(fun _ h => (by cases h)), [], trivial, ?_, (fun _ h => (by cases h))⟩
  rw [List.append_nil]
  exact List.forall_mem_cons.mpr ⟨⟨show (20 : Nat) < 100 from by decide, nf0⟩, List.forall_mem_cons.mpr ⟨⟨show (20 : Nat) < 100 from by decide, nf1⟩, (fun _ h => (by cases h))⟩⟩
def n_Mo_reached_at_gb_an : List an_T := []
def t_Mo_reached_at_gb_ct : ct_L := []
set_option maxRecDepth 100000 in
theorem c_Mo_reached_at_gb {l : Launch} {D : va_G} {kA : Nat → ClassId} : ct_ok PRD l D kA GG y_Mo_reached_at_gb z_Mo_reached_at_gb e_Mo_reached_at_gb := chk_all_ok (FT := [(317, 13, 140), (321, 13, 141), (324, 13, 142)]) (PT := []) (CT := t_Mo_reached_at_gb_ct) (KT := []) (NT := []) (AN := n_Mo_reached_at_gb_an) (OT := [o_Mo_reached_at_gb_0, o_Mo_reached_at_gb_1]) 0 200 (List.forall_mem_cons.mpr ⟨oo_Mo_reached_at_gb_0, List.forall_mem_cons.mpr ⟨oo_Mo_reached_at_gb_1, List.forall_mem_nil _⟩⟩) (by decide +kernel) ⟨List.forall_mem_cons.mpr ⟨gf_Mo_317, List.forall_mem_cons.mpr ⟨gf_Mo_321, List.forall_mem_cons.mpr ⟨gf_Mo_324, List.forall_mem_nil _⟩⟩⟩, List.forall_mem_nil _, List.forall_mem_nil _, List.forall_mem_nil _, List.forall_mem_nil _, GG_pl⟩ (by decide +kernel)
set_option maxHeartbeats 4000000 in
theorem vc_Mo_reached_at_gi_0_r0 (x1 : Int) (x2 : Int) (x3 : Int) (x5 : Int) (x6 : Int) (x7 : Int) (x9 : Int) (x10 : Int) (x12 : Int) (x13 : Int) (x14 : Int) (x15 : Int) (x16 : Int) (bucketMany_0 : Int → Int) (bucketMany_1 : Int → Int) (costOf_2 : Int → Int) (barredPoint_2 : Int → Int) (bucket_2 : Int → Int) (bucketMany_2 : Int → Int) (wide_2 : Int) (tall_2 : Int) (wide_0 : Int) (wide_1 : Int) (tall_0 : Int) (tall_1 : Int) (costOf_0 : Int → Int) (costOf_1 : Int → Int) (bucket_0 : Int → Int) (bucket_1 : Int → Int) (barredPoint_0 : Int → Int) (barredPoint_1 : Int → Int) (k1 : 0 ≤ x1 ∧ x1 ≤ 23999) (k2 : 0 ≤ x2 ∧ x2 ≤ 0) (k3 : 0 ≤ x3 ∧ x3 ≤ 5999) (k5 : 1 ≤ x5 ∧ x5 ≤ 1000000) (k6 : 3 ≤ x6 ∧ x6 ≤ 3) (k7 : 0 ≤ x7 ∧ x7 ≤ 0) (k9 : 24010 ≤ x9 ∧ x9 ≤ 24010) (k10 : 0 ≤ x10 ∧ x10 ≤ 0) (k12 : 0 ≤ x12 ∧ x12 ≤ 24009) (k13 : 0 ≤ x13 ∧ x13 ≤ 24009) (k14 : 0 ≤ x14 ∧ x14 ≤ 24009) (k15 : 1 ≤ x15 ∧ x15 ≤ 1) (k16 : 1 ≤ x16 ∧ x16 ≤ 24010) (d0 : x14 + 1 ≤ x16 ∧ x16 ≤ x14 + 1) (d1 : x12 + 0 ≤ x13 ∧ x13 ≤ x12 + 0) (f0 : x16 = x14 + x15) (h1 : x14 = bucketMany_0 (x7)) (f4 : x13 = x10 + x12) (h5 : x12 = bucketMany_1 (x7)) (f6 : x10 = 24010 * x7) (f8 : x7 = x2 % 4) (f9 : bvp (x7) = bvp (x2) &&& bvp (x6)) (f12 : x2 < x5) (h13 : x5 = costOf_2 (x1)) (f14 : RT0 (wide_2) (tall_2) (barredPoint_2) (costOf_2) (bucket_2) (bucketMany_2) (x3)) (f15 : RJ0 (wide_2) (tall_2) (barredPoint_2) (costOf_2) (x3) (x1) (x2)) (fe_0_146_1 : wide_0 = wide_1) (fe_0_147_1 : tall_0 = tall_1) (fe_0_146_2 : wide_1 = wide_2) (fe_0_147_2 : tall_1 = tall_2) (hE_0_140_1 : ∀ j : Int, costOf_0 j = costOf_1 j) (hE_0_140_2 : ∀ j : Int, 0 ≤ j → (j = x1 → costOf_1 j = x2) ∧ (j ≠ x1 → costOf_1 j = costOf_2 j)) (hK_0_140 : ∀ j : Int, 0 ≤ j → j < 24000 → 0 ≤ costOf_0 j ∧ costOf_0 j ≤ 1000000) (hE_0_141_1 : ∀ j : Int, 0 ≤ j → (j = x13 → bucket_0 j = x1) ∧ (j ≠ x13 → bucket_0 j = bucket_1 j)) (hE_0_141_2 : ∀ j : Int, bucket_1 j = bucket_2 j) (hK_0_141 : ∀ j : Int, 0 ≤ j → j < 96040 → 0 ≤ bucket_0 j ∧ bucket_0 j ≤ 23999) (hE_0_142_1 : ∀ j : Int, bucketMany_0 j = bucketMany_1 j) (hE_0_142_2 : ∀ j : Int, bucketMany_1 j = bucketMany_2 j) (hK_0_142 : ∀ j : Int, 0 ≤ j → j < 4 → 0 ≤ bucketMany_0 j ∧ bucketMany_0 j ≤ 24009) (hE_0_143_1 : ∀ j : Int, barredPoint_0 j = barredPoint_1 j) (hE_0_143_2 : ∀ j : Int, barredPoint_1 j = barredPoint_2 j) (hK_0_143 : ∀ j : Int, 0 ≤ j → j < 6000 → 0 ≤ barredPoint_0 j ∧ barredPoint_0 j ≤ 1) (kz_0_146 : (-2147483648) ≤ wide_0 ∧ wide_0 ≤ 2147483647) (kz_0_147 : (-2147483648) ≤ tall_0 ∧ tall_0 ≤ 2147483647) : 1 ≤ x16 ∧ x16 ≤ 24001 := by
  subst fe_0_146_1
  subst fe_0_147_1
  subst fe_0_146_2
  subst fe_0_147_2
  have e_hE_0_140_1 := funext hE_0_140_1; subst e_hE_0_140_1
  have e_hE_0_141_2 := funext hE_0_141_2; subst e_hE_0_141_2
  have e_hE_0_142_1 := funext hE_0_142_1; subst e_hE_0_142_1
  have e_hE_0_142_2 := funext hE_0_142_2; subst e_hE_0_142_2
  have e_hE_0_143_1 := funext hE_0_143_1; subst e_hE_0_143_1
  have e_hE_0_143_2 := funext hE_0_143_2; subst e_hE_0_143_2
  first
    | (have h := reach_room (b := x7) (m := x14) (s := x1) (v := x2) (c := 0) ‹RT0 _ _ _ _ _ _ _› ‹RJ0 _ _ _ _ _ _ _› (by omega) (by omega) (by assumption); omega)
    | (have h := reach_room (b := x9) (m := x16) (s := x1) (v := x2) ‹RTQ _ _ _ _ _ _ _ _› ‹RJB _ _ _ _ _ _ _ _› (by omega) (by omega) (by assumption); omega)
def o_Mo_reached_at_gi_0 : or_T := (49, 17, [(0, (2, 0, 0, [150])), (1, (0, 0, 23999, [])), (2, (0, 0, 0, [])), (3, (0, 0, 5999, [])), (4, (2, 0, 0, [251])), (5, (0, 1, 1000000, [])), (6, (0, 3, 3, [])), (7, (0, 0, 0, [])), (8, (2, 0, 0, [252])), (9, (0, 24010, 24010, [])), (10, (0, 0, 0, [])), (11, (2, 0, 0, [253])), (12, (0, 0, 24009, [])), (13, (0, 0, 24009, [])), (14, (0, 0, 24009, [])), (15, (0, 1, 1, [])), (16, (0, 1, 24010, []))], [(1, [16, 14, 15], []), (10, [14, 11, 7], []), (9, [11, 0], [142]), (100, [8, 13, 1], []), (1, [13, 10, 12], []), (10, [12, 11, 7], []), (3, [10, 9, 7], []), (9, [8, 0], [141]), (12, [7, 2], [4]), (16, [7, 2, 6], [0]), (100, [4, 1, 2], []), (9, [4, 0], [140]), (7, [5, 2], [4]), (10, [5, 4, 1], []), (20, [0, 3], [60, 2, 4, 420, 146, 147, 143, 140, 141, 142]), (20, [0, 3, 1, 2], [60, 2, 2, 423, 146, 147, 143, 140])], [(16, (0, 1, 24001, []))], [], [], [], [(16, 14, 1, 1), (13, 12, 0, 0)])
theorem oo_Mo_reached_at_gi_0 {kA : Nat → ClassId} : or_ok PRD kA GG o_Mo_reached_at_gi_0 := by
  intro A ta ws vs hD hth hl hk hds hf
  have hl : vs.length = 17 := hl
  have hk : ∀ q ∈ ([(0, (2, 0, 0, [150])), (1, (0, 0, 23999, [])), (2, (0, 0, 0, [])), (3, (0, 0, 5999, [])), (4, (2, 0, 0, [251])), (5, (0, 1, 1000000, [])), (6, (0, 3, 3, [])), (7, (0, 0, 0, [])), (8, (2, 0, 0, [252])), (9, (0, 24010, 24010, [])), (10, (0, 0, 0, [])), (11, (2, 0, 0, [253])), (12, (0, 0, 24009, [])), (13, (0, 0, 24009, [])), (14, (0, 0, 24009, [])), (15, (0, 1, 1, [])), (16, (0, 1, 24010, []))] : List (Nat × tv_T)), tv_ok ta q.2 (n_v vs q.1) := hk
  obtain ⟨t0, hk⟩ := List.forall_mem_cons.mp hk
  have t0 : tv_ok ta (2, 0, 0, [150]) (n_v vs 0) := t0
  have r0 : ta (v_ad (n_v vs 0)) = some 150 := tv_rg t0
  obtain ⟨t1, hk⟩ := List.forall_mem_cons.mp hk
  have t1 : tv_ok ta (0, 0, 23999, []) (n_v vs 1) := t1
  have k1 : 0 ≤ v_iv (n_v vs 1) ∧ v_iv (n_v vs 1) ≤ 23999 := tv_rng t1
  obtain ⟨t2, hk⟩ := List.forall_mem_cons.mp hk
  have t2 : tv_ok ta (0, 0, 0, []) (n_v vs 2) := t2
  have k2 : 0 ≤ v_iv (n_v vs 2) ∧ v_iv (n_v vs 2) ≤ 0 := tv_rng t2
  obtain ⟨t3, hk⟩ := List.forall_mem_cons.mp hk
  have t3 : tv_ok ta (0, 0, 5999, []) (n_v vs 3) := t3
  have k3 : 0 ≤ v_iv (n_v vs 3) ∧ v_iv (n_v vs 3) ≤ 5999 := tv_rng t3
  obtain ⟨t4, hk⟩ := List.forall_mem_cons.mp hk
  have t4 : tv_ok ta (2, 0, 0, [251]) (n_v vs 4) := t4
  have r4 : ta (v_ad (n_v vs 4)) = some 251 := tv_rg t4
  obtain ⟨t5, hk⟩ := List.forall_mem_cons.mp hk
  have t5 : tv_ok ta (0, 1, 1000000, []) (n_v vs 5) := t5
  have k5 : 1 ≤ v_iv (n_v vs 5) ∧ v_iv (n_v vs 5) ≤ 1000000 := tv_rng t5
  obtain ⟨t6, hk⟩ := List.forall_mem_cons.mp hk
  have t6 : tv_ok ta (0, 3, 3, []) (n_v vs 6) := t6
  have k6 : 3 ≤ v_iv (n_v vs 6) ∧ v_iv (n_v vs 6) ≤ 3 := tv_rng t6
  obtain ⟨t7, hk⟩ := List.forall_mem_cons.mp hk
  have t7 : tv_ok ta (0, 0, 0, []) (n_v vs 7) := t7
  have k7 : 0 ≤ v_iv (n_v vs 7) ∧ v_iv (n_v vs 7) ≤ 0 := tv_rng t7
  obtain ⟨t8, hk⟩ := List.forall_mem_cons.mp hk
  have t8 : tv_ok ta (2, 0, 0, [252]) (n_v vs 8) := t8
  have r8 : ta (v_ad (n_v vs 8)) = some 252 := tv_rg t8
  obtain ⟨t9, hk⟩ := List.forall_mem_cons.mp hk
  have t9 : tv_ok ta (0, 24010, 24010, []) (n_v vs 9) := t9
  have k9 : 24010 ≤ v_iv (n_v vs 9) ∧ v_iv (n_v vs 9) ≤ 24010 := tv_rng t9
  obtain ⟨t10, hk⟩ := List.forall_mem_cons.mp hk
  have t10 : tv_ok ta (0, 0, 0, []) (n_v vs 10) := t10
  have k10 : 0 ≤ v_iv (n_v vs 10) ∧ v_iv (n_v vs 10) ≤ 0 := tv_rng t10
  obtain ⟨t11, hk⟩ := List.forall_mem_cons.mp hk
  have t11 : tv_ok ta (2, 0, 0, [253]) (n_v vs 11) := t11
  have r11 : ta (v_ad (n_v vs 11)) = some 253 := tv_rg t11
  obtain ⟨t12, hk⟩ := List.forall_mem_cons.mp hk
  have t12 : tv_ok ta (0, 0, 24009, []) (n_v vs 12) := t12
  have k12 : 0 ≤ v_iv (n_v vs 12) ∧ v_iv (n_v vs 12) ≤ 24009 := tv_rng t12
  obtain ⟨t13, hk⟩ := List.forall_mem_cons.mp hk
  have t13 : tv_ok ta (0, 0, 24009, []) (n_v vs 13) := t13
  have k13 : 0 ≤ v_iv (n_v vs 13) ∧ v_iv (n_v vs 13) ≤ 24009 := tv_rng t13
  obtain ⟨t14, hk⟩ := List.forall_mem_cons.mp hk
  have t14 : tv_ok ta (0, 0, 24009, []) (n_v vs 14) := t14
  have k14 : 0 ≤ v_iv (n_v vs 14) ∧ v_iv (n_v vs 14) ≤ 24009 := tv_rng t14
  obtain ⟨t15, hk⟩ := List.forall_mem_cons.mp hk
  have t15 : tv_ok ta (0, 1, 1, []) (n_v vs 15) := t15
  have k15 : 1 ≤ v_iv (n_v vs 15) ∧ v_iv (n_v vs 15) ≤ 1 := tv_rng t15
  obtain ⟨t16, hk⟩ := List.forall_mem_cons.mp hk
  have t16 : tv_ok ta (0, 1, 24010, []) (n_v vs 16) := t16
  have k16 : 1 ≤ v_iv (n_v vs 16) ∧ v_iv (n_v vs 16) ≤ 24010 := tv_rng t16
  have hds : ∀ q ∈ ([(16, 14, 1, 1), (13, 12, 0, 0)] : List of_T), n_iv vs q.2.1 + q.2.2.1 ≤ n_iv vs q.1 ∧ n_iv vs q.1 ≤ n_iv vs q.2.1 + q.2.2.2 := hds
  obtain ⟨d0, hds⟩ := List.forall_mem_cons.mp hds
  have d0 : v_iv (n_v vs 14) + 1 ≤ v_iv (n_v vs 16) ∧ v_iv (n_v vs 16) ≤ v_iv (n_v vs 14) + 1 := d0
  obtain ⟨d1, hds⟩ := List.forall_mem_cons.mp hds
  have d1 : v_iv (n_v vs 12) + 0 ≤ v_iv (n_v vs 13) ∧ v_iv (n_v vs 13) ≤ v_iv (n_v vs 12) + 0 := d1
  have hf : fc_ok PRD [(1, [16, 14, 15], []), (10, [14, 11, 7], []), (9, [11, 0], [142]), (100, [8, 13, 1], []), (1, [13, 10, 12], []), (10, [12, 11, 7], []), (3, [10, 9, 7], []), (9, [8, 0], [141]), (12, [7, 2], [4]), (16, [7, 2, 6], [0]), (100, [4, 1, 2], []), (9, [4, 0], [140]), (7, [5, 2], [4]), (10, [5, 4, 1], []), (20, [0, 3], [60, 2, 4, 420, 146, 147, 143, 140, 141, 142]), (20, [0, 3, 1, 2], [60, 2, 2, 423, 146, 147, 143, 140])] ta ws vs := hf
  obtain ⟨f0, hf⟩ := fc_un (show (1 : Nat) < 100 from by decide) hf
  have f0 : v_iv (n_v vs 16) = v_iv (n_v vs 14) + v_iv (n_v vs 15) := f0
  obtain ⟨f1, hf⟩ := fc_un (show (10 : Nat) < 100 from by decide) hf
  have f1 : v_iv (n_v vs 14) = w_el ws (v_ad (n_v vs 11)) (v_iv (n_v vs 7)).toNat := f1
  obtain ⟨f2, hf⟩ := fc_un (show (9 : Nat) < 100 from by decide) hf
  have f2 : n_v vs 11 = w_fd ws (v_ad (n_v vs 0)) 142 := f2
  obtain ⟨ta1, w1, le1, ⟨_, s1⟩, hf⟩ := fc_us (show ¬ (100 : Nat) < 100 from by decide) hf
  have s1 : (∀ b j, w_el ws b j = if b = v_ad (n_v vs 8) ∧ j = (v_iv (n_v vs 13)).toNat then v_iv (n_v vs 1) else w_el w1 b j) ∧ ∀ b k, w_fd ws b k = w_fd w1 b k := s1
  obtain ⟨f4, hf⟩ := fc_un (show (1 : Nat) < 100 from by decide) hf
  have f4 : v_iv (n_v vs 13) = v_iv (n_v vs 10) + v_iv (n_v vs 12) := f4
  obtain ⟨f5, hf⟩ := fc_un (show (10 : Nat) < 100 from by decide) hf
  have f5 : v_iv (n_v vs 12) = w_el w1 (v_ad (n_v vs 11)) (v_iv (n_v vs 7)).toNat := f5
  obtain ⟨f6, hf⟩ := fc_un (show (3 : Nat) < 100 from by decide) hf
  have f6 : v_iv (n_v vs 10) = v_iv (n_v vs 9) * v_iv (n_v vs 7) := f6
  rw [show v_iv (n_v vs 9) = 24010 from by omega] at f6
  obtain ⟨f7, hf⟩ := fc_un (show (9 : Nat) < 100 from by decide) hf
  have f7 : n_v vs 8 = w_fd w1 (v_ad (n_v vs 0)) 141 := f7
  obtain ⟨f8, hf⟩ := fc_un (show (12 : Nat) < 100 from by decide) hf
  have f8 : v_iv (n_v vs 7) = v_iv (n_v vs 2) % 4 := f8
  obtain ⟨f9, hf⟩ := fc_un (show (16 : Nat) < 100 from by decide) hf
  have f9 : bv (v_iv (n_v vs 7)) = bv (v_iv (n_v vs 2)) &&& bv (v_iv (n_v vs 6)) := f9
  obtain ⟨ta2, w2, le2, ⟨_, s2⟩, hf⟩ := fc_us (show ¬ (100 : Nat) < 100 from by decide) hf
  have s2 : (∀ b j, w_el w1 b j = if b = v_ad (n_v vs 4) ∧ j = (v_iv (n_v vs 1)).toNat then v_iv (n_v vs 2) else w_el w2 b j) ∧ ∀ b k, w_fd w1 b k = w_fd w2 b k := s2
  obtain ⟨f11, hf⟩ := fc_un (show (9 : Nat) < 100 from by decide) hf
  have f11 : n_v vs 4 = w_fd w2 (v_ad (n_v vs 0)) 140 := f11
  obtain ⟨f12, hf⟩ := fc_un (show (7 : Nat) < 100 from by decide) hf
  have f12 : v_iv (n_v vs 2) < v_iv (n_v vs 5) := f12
  obtain ⟨f13, hf⟩ := fc_un (show (10 : Nat) < 100 from by decide) hf
  have f13 : v_iv (n_v vs 5) = w_el w2 (v_ad (n_v vs 4)) (v_iv (n_v vs 1)).toNat := f13
  obtain ⟨f14, hf⟩ := fc_un (show (20 : Nat) < 100 from by decide) hf
  have f14 : RT0 (w_fi w2 (n_v vs 0) 146) (w_fi w2 (n_v vs 0) 147) (w_ei w2 (w_ar w2 (n_v vs 0) 143)) (w_ei w2 (w_ar w2 (n_v vs 0) 140)) (w_ei w2 (w_ar w2 (n_v vs 0) 141)) (w_ei w2 (w_ar w2 (n_v vs 0) 142)) (v_iv (n_v vs 3)) := f14
  obtain ⟨f15, hf⟩ := fc_un (show (20 : Nat) < 100 from by decide) hf
  have f15 : RJ0 (w_fi w2 (n_v vs 0) 146) (w_fi w2 (n_v vs 0) 147) (w_ei w2 (w_ar w2 (n_v vs 0) 143)) (w_ei w2 (w_ar w2 (n_v vs 0) 140)) (v_iv (n_v vs 3)) (v_iv (n_v vs 1)) (v_iv (n_v vs 2)) := f15
  have ar_0_140_1 : w_ar w1 (n_v vs 0) 140 = w_ar ws (n_v vs 0) 140 := by show v_ad (w_fd w1 _ _) = v_ad (w_fd ws _ _); rw [s1.2]
  have ar_0_140_2 : w_ar w2 (n_v vs 0) 140 = w_ar ws (n_v vs 0) 140 := by rw [← ar_0_140_1]; show v_ad (w_fd w2 _ _) = v_ad (w_fd w1 _ _); rw [s2.2]
  have cr_0_140 : ta (w_ar ws (n_v vs 0) 140) = some 251 := tv_rg (th_fd hD hth r0 (g := GG_150) rfl (k := 140) (t := (2, 0, 0, [251])) rfl rfl)
  have ar_0_141_1 : w_ar w1 (n_v vs 0) 141 = w_ar ws (n_v vs 0) 141 := by show v_ad (w_fd w1 _ _) = v_ad (w_fd ws _ _); rw [s1.2]
  have ar_0_141_2 : w_ar w2 (n_v vs 0) 141 = w_ar ws (n_v vs 0) 141 := by rw [← ar_0_141_1]; show v_ad (w_fd w2 _ _) = v_ad (w_fd w1 _ _); rw [s2.2]
  have cr_0_141 : ta (w_ar ws (n_v vs 0) 141) = some 252 := tv_rg (th_fd hD hth r0 (g := GG_150) rfl (k := 141) (t := (2, 0, 0, [252])) rfl rfl)
  have ar_0_142_1 : w_ar w1 (n_v vs 0) 142 = w_ar ws (n_v vs 0) 142 := by show v_ad (w_fd w1 _ _) = v_ad (w_fd ws _ _); rw [s1.2]
  have ar_0_142_2 : w_ar w2 (n_v vs 0) 142 = w_ar ws (n_v vs 0) 142 := by rw [← ar_0_142_1]; show v_ad (w_fd w2 _ _) = v_ad (w_fd w1 _ _); rw [s2.2]
  have cr_0_142 : ta (w_ar ws (n_v vs 0) 142) = some 253 := tv_rg (th_fd hD hth r0 (g := GG_150) rfl (k := 142) (t := (2, 0, 0, [253])) rfl rfl)
  have ar_0_143_1 : w_ar w1 (n_v vs 0) 143 = w_ar ws (n_v vs 0) 143 := by show v_ad (w_fd w1 _ _) = v_ad (w_fd ws _ _); rw [s1.2]
  have ar_0_143_2 : w_ar w2 (n_v vs 0) 143 = w_ar ws (n_v vs 0) 143 := by rw [← ar_0_143_1]; show v_ad (w_fd w2 _ _) = v_ad (w_fd w1 _ _); rw [s2.2]
  have cr_0_143 : ta (w_ar ws (n_v vs 0) 143) = some 254 := tv_rg (th_fd hD hth r0 (g := GG_150) rfl (k := 143) (t := (2, 0, 0, [254])) rfl rfl)
  have ad_11 : v_ad (n_v vs 11) = w_ar ws (n_v vs 0) 142 := congrArg v_ad f2
  have ad_8 : v_ad (n_v vs 8) = w_ar ws (n_v vs 0) 141 := (congrArg v_ad f7).trans ar_0_141_1
  have ad_4 : v_ad (n_v vs 4) = w_ar ws (n_v vs 0) 140 := (congrArg v_ad f11).trans ar_0_140_2
  rw [ad_11] at f1
  have h1 : v_iv (n_v vs 14) = w_ei ws (w_ar ws (n_v vs 0) 142) (v_iv (n_v vs 7)) := f1
  rw [ad_11] at f5
  have h5 : v_iv (n_v vs 12) = w_ei w1 (w_ar ws (n_v vs 0) 142) (v_iv (n_v vs 7)) := f5
  rw [ad_4] at f13
  have h13 : v_iv (n_v vs 5) = w_ei w2 (w_ar ws (n_v vs 0) 140) (v_iv (n_v vs 1)) := f13
  rw [ar_0_140_2] at f14
  rw [ar_0_141_2] at f14
  rw [ar_0_142_2] at f14
  rw [ar_0_143_2] at f14
  rw [ar_0_140_2] at f15
  rw [ar_0_143_2] at f15
  have fe_0_146_1 : w_fi ws (n_v vs 0) 146 = w_fi w1 (n_v vs 0) 146 := congrArg v_iv (s1.2 _ _)
  have fe_0_147_1 : w_fi ws (n_v vs 0) 147 = w_fi w1 (n_v vs 0) 147 := congrArg v_iv (s1.2 _ _)
  have fe_0_146_2 : w_fi w1 (n_v vs 0) 146 = w_fi w2 (n_v vs 0) 146 := congrArg v_iv (s2.2 _ _)
  have fe_0_147_2 : w_fi w1 (n_v vs 0) 147 = w_fi w2 (n_v vs 0) 147 := congrArg v_iv (s2.2 _ _)
  have hE_0_140_1 : ∀ j : Int, w_ei ws (w_ar ws (n_v vs 0) 140) j = w_ei w1 (w_ar ws (n_v vs 0) 140) j := fun j => by unfold w_ei; rw [s1.1, if_neg (fun e => by have e1 := e.1; rw [← e1] at r8; rw [cr_0_140] at r8; exact absurd (Option.some.inj r8) (by decide))]
  have hE_0_140_2 : ∀ j : Int, 0 ≤ j → (j = v_iv (n_v vs 1) → w_ei w1 (w_ar ws (n_v vs 0) 140) j = v_iv (n_v vs 2)) ∧ (j ≠ v_iv (n_v vs 1) → w_ei w1 (w_ar ws (n_v vs 0) 140) j = w_ei w2 (w_ar ws (n_v vs 0) 140) j) := fun j hj => ⟨fun h => by unfold w_ei; rw [s2.1, if_pos ⟨ad_4.symm, by rw [h]⟩], fun h => by unfold w_ei; rw [s2.1, if_neg (fun e => h (by have := e.2; omega))]⟩
  have hK_0_140 : ∀ j : Int, 0 ≤ j → j < 24000 → 0 ≤ w_ei ws (w_ar ws (n_v vs 0) 140) j ∧ w_ei ws (w_ar ws (n_v vs 0) 140) j ≤ 1000000 := fun j h0 h1 => th_el hD hth cr_0_140 (kd := 0) (n := 24000) (m := 24000) (lo := 0) (hi := 1000000) (rs := []) (L := []) rfl (by decide) (j := j.toNat) (by omega)
  have hE_0_141_1 : ∀ j : Int, 0 ≤ j → (j = v_iv (n_v vs 13) → w_ei ws (w_ar ws (n_v vs 0) 141) j = v_iv (n_v vs 1)) ∧ (j ≠ v_iv (n_v vs 13) → w_ei ws (w_ar ws (n_v vs 0) 141) j = w_ei w1 (w_ar ws (n_v vs 0) 141) j) := fun j hj => ⟨fun h => by unfold w_ei; rw [s1.1, if_pos ⟨ad_8.symm, by rw [h]⟩], fun h => by unfold w_ei; rw [s1.1, if_neg (fun e => h (by have := e.2; omega))]⟩
  have hE_0_141_2 : ∀ j : Int, w_ei w1 (w_ar ws (n_v vs 0) 141) j = w_ei w2 (w_ar ws (n_v vs 0) 141) j := fun j => by unfold w_ei; rw [s2.1, if_neg (fun e => by have e1 := e.1; rw [← e1] at r4; rw [cr_0_141] at r4; exact absurd (Option.some.inj r4) (by decide))]
  have hK_0_141 : ∀ j : Int, 0 ≤ j → j < 96040 → 0 ≤ w_ei ws (w_ar ws (n_v vs 0) 141) j ∧ w_ei ws (w_ar ws (n_v vs 0) 141) j ≤ 23999 := fun j h0 h1 => th_el hD hth cr_0_141 (kd := 0) (n := 96040) (m := 96040) (lo := 0) (hi := 23999) (rs := []) (L := []) rfl (by decide) (j := j.toNat) (by omega)
  have hE_0_142_1 : ∀ j : Int, w_ei ws (w_ar ws (n_v vs 0) 142) j = w_ei w1 (w_ar ws (n_v vs 0) 142) j := fun j => by unfold w_ei; rw [s1.1, if_neg (fun e => by have e1 := e.1; rw [← e1] at r8; rw [cr_0_142] at r8; exact absurd (Option.some.inj r8) (by decide))]
  have hE_0_142_2 : ∀ j : Int, w_ei w1 (w_ar ws (n_v vs 0) 142) j = w_ei w2 (w_ar ws (n_v vs 0) 142) j := fun j => by unfold w_ei; rw [s2.1, if_neg (fun e => by have e1 := e.1; rw [← e1] at r4; rw [cr_0_142] at r4; exact absurd (Option.some.inj r4) (by decide))]
  have hK_0_142 : ∀ j : Int, 0 ≤ j → j < 4 → 0 ≤ w_ei ws (w_ar ws (n_v vs 0) 142) j ∧ w_ei ws (w_ar ws (n_v vs 0) 142) j ≤ 24009 := fun j h0 h1 => th_el hD hth cr_0_142 (kd := 0) (n := 4) (m := 4) (lo := 0) (hi := 24009) (rs := []) (L := []) rfl (by decide) (j := j.toNat) (by omega)
  have hE_0_143_1 : ∀ j : Int, w_ei ws (w_ar ws (n_v vs 0) 143) j = w_ei w1 (w_ar ws (n_v vs 0) 143) j := fun j => by unfold w_ei; rw [s1.1, if_neg (fun e => by have e1 := e.1; rw [← e1] at r8; rw [cr_0_143] at r8; exact absurd (Option.some.inj r8) (by decide))]
  have hE_0_143_2 : ∀ j : Int, w_ei w1 (w_ar ws (n_v vs 0) 143) j = w_ei w2 (w_ar ws (n_v vs 0) 143) j := fun j => by unfold w_ei; rw [s2.1, if_neg (fun e => by have e1 := e.1; rw [← e1] at r4; rw [cr_0_143] at r4; exact absurd (Option.some.inj r4) (by decide))]
  have hK_0_143 : ∀ j : Int, 0 ≤ j → j < 6000 → 0 ≤ w_ei ws (w_ar ws (n_v vs 0) 143) j ∧ w_ei ws (w_ar ws (n_v vs 0) 143) j ≤ 1 := fun j h0 h1 => th_el hD hth cr_0_143 (kd := 2) (n := 6000) (m := 6000) (lo := 0) (hi := 1) (rs := []) (L := []) rfl (by decide) (j := j.toNat) (by omega)
  have kz_0_146 : (-2147483648) ≤ w_fi ws (n_v vs 0) 146 ∧ w_fi ws (n_v vs 0) 146 ≤ 2147483647 := tv_rng (th_fd hD hth r0 (g := GG_150) rfl (k := 146) (t := (0, -2147483648, 2147483647, [])) rfl rfl)
  have kz_0_147 : (-2147483648) ≤ w_fi ws (n_v vs 0) 147 ∧ w_fi ws (n_v vs 0) 147 ≤ 2147483647 := tv_rng (th_fd hD hth r0 (g := GG_150) rfl (k := 147) (t := (0, -2147483648, 2147483647, [])) rfl rfl)
  have hrf0 : 1 ≤ v_iv (n_v vs 16) ∧ v_iv (n_v vs 16) ≤ 24001 := vc_Mo_reached_at_gi_0_r0 (v_iv (n_v vs 1)) (v_iv (n_v vs 2)) (v_iv (n_v vs 3)) (v_iv (n_v vs 5)) (v_iv (n_v vs 6)) (v_iv (n_v vs 7)) (v_iv (n_v vs 9)) (v_iv (n_v vs 10)) (v_iv (n_v vs 12)) (v_iv (n_v vs 13)) (v_iv (n_v vs 14)) (v_iv (n_v vs 15)) (v_iv (n_v vs 16)) (w_ei ws (w_ar ws (n_v vs 0) 142)) (w_ei w1 (w_ar ws (n_v vs 0) 142)) (w_ei w2 (w_ar ws (n_v vs 0) 140)) (w_ei w2 (w_ar ws (n_v vs 0) 143)) (w_ei w2 (w_ar ws (n_v vs 0) 141)) (w_ei w2 (w_ar ws (n_v vs 0) 142)) (w_fi w2 (n_v vs 0) 146) (w_fi w2 (n_v vs 0) 147) (w_fi ws (n_v vs 0) 146) (w_fi w1 (n_v vs 0) 146) (w_fi ws (n_v vs 0) 147) (w_fi w1 (n_v vs 0) 147) (w_ei ws (w_ar ws (n_v vs 0) 140)) (w_ei w1 (w_ar ws (n_v vs 0) 140)) (w_ei ws (w_ar ws (n_v vs 0) 141)) (w_ei w1 (w_ar ws (n_v vs 0) 141)) (w_ei ws (w_ar ws (n_v vs 0) 143)) (w_ei w1 (w_ar ws (n_v vs 0) 143)) k1 k2 k3 k5 k6 k7 k9 k10 k12 k13 k14 k15 k16 d0 d1 f0 h1 f4 h5 f6 f8 f9 f12 h13 f14 f15 fe_0_146_1 fe_0_147_1 fe_0_146_2 fe_0_147_2 hE_0_140_1 hE_0_140_2 hK_0_140 hE_0_141_1 hE_0_141_2 hK_0_141 hE_0_142_1 hE_0_142_2 hK_0_142 hE_0_143_1 hE_0_143_2 hK_0_143 kz_0_146 kz_0_147
  have rf16 : tv_ok ta (0, 1, 24001, []) (n_v vs 16) := tv_in t16 (by first | omega | grind) (by first | omega | grind)
  refine ⟨List.forall_mem_cons.mpr ⟨rf16, (fun _ h => (by cases h))⟩, [], trivial, ?_, (fun _ h => (by cases h))⟩
  rw [List.append_nil]
  exact (fun _ h => (by cases h))
set_option maxHeartbeats 4000000 in
theorem vc_Mo_reached_at_gi_1_0 (x1 : Int) (x2 : Int) (x3 : Int) (x5 : Int) (x6 : Int) (x7 : Int) (x9 : Int) (x10 : Int) (x12 : Int) (x13 : Int) (x14 : Int) (x15 : Int) (x16 : Int) (bucketMany_1 : Int → Int) (bucketMany_2 : Int → Int) (costOf_3 : Int → Int) (barredPoint_3 : Int → Int) (bucket_3 : Int → Int) (bucketMany_3 : Int → Int) (wide_3 : Int) (tall_3 : Int) (wide_0 : Int) (wide_1 : Int) (tall_0 : Int) (tall_1 : Int) (wide_2 : Int) (tall_2 : Int) (costOf_0 : Int → Int) (costOf_1 : Int → Int) (costOf_2 : Int → Int) (bucket_0 : Int → Int) (bucket_1 : Int → Int) (bucket_2 : Int → Int) (bucketMany_0 : Int → Int) (barredPoint_0 : Int → Int) (barredPoint_1 : Int → Int) (barredPoint_2 : Int → Int) (k1 : 0 ≤ x1 ∧ x1 ≤ 23999) (k2 : 0 ≤ x2 ∧ x2 ≤ 0) (k3 : 0 ≤ x3 ∧ x3 ≤ 5999) (k5 : 1 ≤ x5 ∧ x5 ≤ 1000000) (k6 : 3 ≤ x6 ∧ x6 ≤ 3) (k7 : 0 ≤ x7 ∧ x7 ≤ 0) (k9 : 24010 ≤ x9 ∧ x9 ≤ 24010) (k10 : 0 ≤ x10 ∧ x10 ≤ 0) (k12 : 0 ≤ x12 ∧ x12 ≤ 24009) (k13 : 0 ≤ x13 ∧ x13 ≤ 24009) (k14 : 0 ≤ x14 ∧ x14 ≤ 24009) (k15 : 1 ≤ x15 ∧ x15 ≤ 1) (k16 : 1 ≤ x16 ∧ x16 ≤ 24001) (d0 : x14 + 1 ≤ x16 ∧ x16 ≤ x14 + 1) (d1 : x12 + 0 ≤ x13 ∧ x13 ≤ x12 + 0) (f1 : x16 = x14 + x15) (h2 : x14 = bucketMany_1 (x7)) (f5 : x13 = x10 + x12) (h6 : x12 = bucketMany_2 (x7)) (f7 : x10 = 24010 * x7) (f9 : x7 = x2 % 4) (f10 : bvp (x7) = bvp (x2) &&& bvp (x6)) (f13 : x2 < x5) (h14 : x5 = costOf_3 (x1)) (f15 : RT0 (wide_3) (tall_3) (barredPoint_3) (costOf_3) (bucket_3) (bucketMany_3) (x3)) (f16 : RJ0 (wide_3) (tall_3) (barredPoint_3) (costOf_3) (x3) (x1) (x2)) (fe_0_146_1 : wide_0 = wide_1) (fe_0_147_1 : tall_0 = tall_1) (fe_0_146_2 : wide_1 = wide_2) (fe_0_147_2 : tall_1 = tall_2) (fe_0_146_3 : wide_2 = wide_3) (fe_0_147_3 : tall_2 = tall_3) (hE_0_140_1 : ∀ j : Int, costOf_0 j = costOf_1 j) (hE_0_140_2 : ∀ j : Int, costOf_1 j = costOf_2 j) (hE_0_140_3 : ∀ j : Int, 0 ≤ j → (j = x1 → costOf_2 j = x2) ∧ (j ≠ x1 → costOf_2 j = costOf_3 j)) (hK_0_140 : ∀ j : Int, 0 ≤ j → j < 24000 → 0 ≤ costOf_0 j ∧ costOf_0 j ≤ 1000000) (hE_0_141_1 : ∀ j : Int, bucket_0 j = bucket_1 j) (hE_0_141_2 : ∀ j : Int, 0 ≤ j → (j = x13 → bucket_1 j = x1) ∧ (j ≠ x13 → bucket_1 j = bucket_2 j)) (hE_0_141_3 : ∀ j : Int, bucket_2 j = bucket_3 j) (hK_0_141 : ∀ j : Int, 0 ≤ j → j < 96040 → 0 ≤ bucket_0 j ∧ bucket_0 j ≤ 23999) (hE_0_142_1 : ∀ j : Int, 0 ≤ j → (j = x7 → bucketMany_0 j = x16) ∧ (j ≠ x7 → bucketMany_0 j = bucketMany_1 j)) (hE_0_142_2 : ∀ j : Int, bucketMany_1 j = bucketMany_2 j) (hE_0_142_3 : ∀ j : Int, bucketMany_2 j = bucketMany_3 j) (hK_0_142 : ∀ j : Int, 0 ≤ j → j < 4 → 0 ≤ bucketMany_0 j ∧ bucketMany_0 j ≤ 24009) (hE_0_143_1 : ∀ j : Int, barredPoint_0 j = barredPoint_1 j) (hE_0_143_2 : ∀ j : Int, barredPoint_1 j = barredPoint_2 j) (hE_0_143_3 : ∀ j : Int, barredPoint_2 j = barredPoint_3 j) (hK_0_143 : ∀ j : Int, 0 ≤ j → j < 6000 → 0 ≤ barredPoint_0 j ∧ barredPoint_0 j ≤ 1) (kz_0_146 : (-2147483648) ≤ wide_0 ∧ wide_0 ≤ 2147483647) (kz_0_147 : (-2147483648) ≤ tall_0 ∧ tall_0 ≤ 2147483647) : RT0 (wide_0) (tall_0) (barredPoint_0) (costOf_0) (bucket_0) (bucketMany_0) (x3) := by
  subst fe_0_146_1
  subst fe_0_147_1
  subst fe_0_146_2
  subst fe_0_147_2
  subst fe_0_146_3
  subst fe_0_147_3
  have e_hE_0_140_1 := funext hE_0_140_1; subst e_hE_0_140_1
  have e_hE_0_140_2 := funext hE_0_140_2; subst e_hE_0_140_2
  have e_hE_0_141_1 := funext hE_0_141_1; subst e_hE_0_141_1
  have e_hE_0_141_3 := funext hE_0_141_3; subst e_hE_0_141_3
  have e_hE_0_142_2 := funext hE_0_142_2; subst e_hE_0_142_2
  have e_hE_0_142_3 := funext hE_0_142_3; subst e_hE_0_142_3
  have e_hE_0_143_1 := funext hE_0_143_1; subst e_hE_0_143_1
  have e_hE_0_143_2 := funext hE_0_143_2; subst e_hE_0_143_2
  have e_hE_0_143_3 := funext hE_0_143_3; subst e_hE_0_143_3
  first
    | assumption
    | exact reach_b (b := x7) (m := x12) (p := x13) (q := x14) (o := x16) (s := x1) (v := x2) (c := 0) ‹RT0 _ _ _ _ _ _ _› ‹RJ0 _ _ _ _ _ _ _› (by omega) (by assumption) (by omega) (by assumption) (by omega) (by assumption) (by assumption) (by omega) (by assumption)
def o_Mo_reached_at_gi_1 : or_T := (50, 17, [(0, (2, 0, 0, [150])), (1, (0, 0, 23999, [])), (2, (0, 0, 0, [])), (3, (0, 0, 5999, [])), (4, (2, 0, 0, [251])), (5, (0, 1, 1000000, [])), (6, (0, 3, 3, [])), (7, (0, 0, 0, [])), (8, (2, 0, 0, [252])), (9, (0, 24010, 24010, [])), (10, (0, 0, 0, [])), (11, (2, 0, 0, [253])), (12, (0, 0, 24009, [])), (13, (0, 0, 24009, [])), (14, (0, 0, 24009, [])), (15, (0, 1, 1, [])), (16, (0, 1, 24001, []))], [(100, [11, 7, 16], []), (1, [16, 14, 15], []), (10, [14, 11, 7], []), (9, [11, 0], [142]), (100, [8, 13, 1], []), (1, [13, 10, 12], []), (10, [12, 11, 7], []), (3, [10, 9, 7], []), (9, [8, 0], [141]), (12, [7, 2], [4]), (16, [7, 2, 6], [0]), (100, [4, 1, 2], []), (9, [4, 0], [140]), (7, [5, 2], [4]), (10, [5, 4, 1], []), (20, [0, 3], [60, 2, 4, 420, 146, 147, 143, 140, 141, 142]), (20, [0, 3, 1, 2], [60, 2, 2, 423, 146, 147, 143, 140])], [], [], [(20, [0, 3], [60, 2, 4, 420, 146, 147, 143, 140, 141, 142])], [], [(16, 14, 1, 1), (13, 12, 0, 0)])
theorem oo_Mo_reached_at_gi_1 {kA : Nat → ClassId} : or_ok PRD kA GG o_Mo_reached_at_gi_1 := by
  intro A ta ws vs hD hth hl hk hds hf
  have hl : vs.length = 17 := hl
  have hk : ∀ q ∈ ([(0, (2, 0, 0, [150])), (1, (0, 0, 23999, [])), (2, (0, 0, 0, [])), (3, (0, 0, 5999, [])), (4, (2, 0, 0, [251])), (5, (0, 1, 1000000, [])), (6, (0, 3, 3, [])), (7, (0, 0, 0, [])), (8, (2, 0, 0, [252])), (9, (0, 24010, 24010, [])), (10, (0, 0, 0, [])), (11, (2, 0, 0, [253])), (12, (0, 0, 24009, [])), (13, (0, 0, 24009, [])), (14, (0, 0, 24009, [])), (15, (0, 1, 1, [])), (16, (0, 1, 24001, []))] : List (Nat × tv_T)), tv_ok ta q.2 (n_v vs q.1) := hk
  obtain ⟨t0, hk⟩ := List.forall_mem_cons.mp hk
  have t0 : tv_ok ta (2, 0, 0, [150]) (n_v vs 0) := t0
  have r0 : ta (v_ad (n_v vs 0)) = some 150 := tv_rg t0
  obtain ⟨t1, hk⟩ := List.forall_mem_cons.mp hk
  have t1 : tv_ok ta (0, 0, 23999, []) (n_v vs 1) := t1
  have k1 : 0 ≤ v_iv (n_v vs 1) ∧ v_iv (n_v vs 1) ≤ 23999 := tv_rng t1
  obtain ⟨t2, hk⟩ := List.forall_mem_cons.mp hk
  have t2 : tv_ok ta (0, 0, 0, []) (n_v vs 2) := t2
  have k2 : 0 ≤ v_iv (n_v vs 2) ∧ v_iv (n_v vs 2) ≤ 0 := tv_rng t2
  obtain ⟨t3, hk⟩ := List.forall_mem_cons.mp hk
  have t3 : tv_ok ta (0, 0, 5999, []) (n_v vs 3) := t3
  have k3 : 0 ≤ v_iv (n_v vs 3) ∧ v_iv (n_v vs 3) ≤ 5999 := tv_rng t3
  obtain ⟨t4, hk⟩ := List.forall_mem_cons.mp hk
  have t4 : tv_ok ta (2, 0, 0, [251]) (n_v vs 4) := t4
  have r4 : ta (v_ad (n_v vs 4)) = some 251 := tv_rg t4
  obtain ⟨t5, hk⟩ := List.forall_mem_cons.mp hk
  have t5 : tv_ok ta (0, 1, 1000000, []) (n_v vs 5) := t5
  have k5 : 1 ≤ v_iv (n_v vs 5) ∧ v_iv (n_v vs 5) ≤ 1000000 := tv_rng t5
  obtain ⟨t6, hk⟩ := List.forall_mem_cons.mp hk
  have t6 : tv_ok ta (0, 3, 3, []) (n_v vs 6) := t6
  have k6 : 3 ≤ v_iv (n_v vs 6) ∧ v_iv (n_v vs 6) ≤ 3 := tv_rng t6
  obtain ⟨t7, hk⟩ := List.forall_mem_cons.mp hk
  have t7 : tv_ok ta (0, 0, 0, []) (n_v vs 7) := t7
  have k7 : 0 ≤ v_iv (n_v vs 7) ∧ v_iv (n_v vs 7) ≤ 0 := tv_rng t7
  obtain ⟨t8, hk⟩ := List.forall_mem_cons.mp hk
  have t8 : tv_ok ta (2, 0, 0, [252]) (n_v vs 8) := t8
  have r8 : ta (v_ad (n_v vs 8)) = some 252 := tv_rg t8
  obtain ⟨t9, hk⟩ := List.forall_mem_cons.mp hk
  have t9 : tv_ok ta (0, 24010, 24010, []) (n_v vs 9) := t9
  have k9 : 24010 ≤ v_iv (n_v vs 9) ∧ v_iv (n_v vs 9) ≤ 24010 := tv_rng t9
  obtain ⟨t10, hk⟩ := List.forall_mem_cons.mp hk
  have t10 : tv_ok ta (0, 0, 0, []) (n_v vs 10) := t10
  have k10 : 0 ≤ v_iv (n_v vs 10) ∧ v_iv (n_v vs 10) ≤ 0 := tv_rng t10
  obtain ⟨t11, hk⟩ := List.forall_mem_cons.mp hk
  have t11 : tv_ok ta (2, 0, 0, [253]) (n_v vs 11) := t11
  have r11 : ta (v_ad (n_v vs 11)) = some 253 := tv_rg t11
  obtain ⟨t12, hk⟩ := List.forall_mem_cons.mp hk
  have t12 : tv_ok ta (0, 0, 24009, []) (n_v vs 12) := t12
  have k12 : 0 ≤ v_iv (n_v vs 12) ∧ v_iv (n_v vs 12) ≤ 24009 := tv_rng t12
  obtain ⟨t13, hk⟩ := List.forall_mem_cons.mp hk
  have t13 : tv_ok ta (0, 0, 24009, []) (n_v vs 13) := t13
  have k13 : 0 ≤ v_iv (n_v vs 13) ∧ v_iv (n_v vs 13) ≤ 24009 := tv_rng t13
  obtain ⟨t14, hk⟩ := List.forall_mem_cons.mp hk
  have t14 : tv_ok ta (0, 0, 24009, []) (n_v vs 14) := t14
  have k14 : 0 ≤ v_iv (n_v vs 14) ∧ v_iv (n_v vs 14) ≤ 24009 := tv_rng t14
  obtain ⟨t15, hk⟩ := List.forall_mem_cons.mp hk
  have t15 : tv_ok ta (0, 1, 1, []) (n_v vs 15) := t15
  have k15 : 1 ≤ v_iv (n_v vs 15) ∧ v_iv (n_v vs 15) ≤ 1 := tv_rng t15
  obtain ⟨t16, hk⟩ := List.forall_mem_cons.mp hk
  have t16 : tv_ok ta (0, 1, 24001, []) (n_v vs 16) := t16
  have k16 : 1 ≤ v_iv (n_v vs 16) ∧ v_iv (n_v vs 16) ≤ 24001 := tv_rng t16
  have hds : ∀ q ∈ ([(16, 14, 1, 1), (13, 12, 0, 0)] : List of_T), n_iv vs q.2.1 + q.2.2.1 ≤ n_iv vs q.1 ∧ n_iv vs q.1 ≤ n_iv vs q.2.1 + q.2.2.2 := hds
  obtain ⟨d0, hds⟩ := List.forall_mem_cons.mp hds
  have d0 : v_iv (n_v vs 14) + 1 ≤ v_iv (n_v vs 16) ∧ v_iv (n_v vs 16) ≤ v_iv (n_v vs 14) + 1 := d0
  obtain ⟨d1, hds⟩ := List.forall_mem_cons.mp hds
  have d1 : v_iv (n_v vs 12) + 0 ≤ v_iv (n_v vs 13) ∧ v_iv (n_v vs 13) ≤ v_iv (n_v vs 12) + 0 := d1
  have hf : fc_ok PRD [(100, [11, 7, 16], []), (1, [16, 14, 15], []), (10, [14, 11, 7], []), (9, [11, 0], [142]), (100, [8, 13, 1], []), (1, [13, 10, 12], []), (10, [12, 11, 7], []), (3, [10, 9, 7], []), (9, [8, 0], [141]), (12, [7, 2], [4]), (16, [7, 2, 6], [0]), (100, [4, 1, 2], []), (9, [4, 0], [140]), (7, [5, 2], [4]), (10, [5, 4, 1], []), (20, [0, 3], [60, 2, 4, 420, 146, 147, 143, 140, 141, 142]), (20, [0, 3, 1, 2], [60, 2, 2, 423, 146, 147, 143, 140])] ta ws vs := hf
  obtain ⟨ta1, w1, le1, ⟨_, s1⟩, hf⟩ := fc_us (show ¬ (100 : Nat) < 100 from by decide) hf
  have s1 : (∀ b j, w_el ws b j = if b = v_ad (n_v vs 11) ∧ j = (v_iv (n_v vs 7)).toNat then v_iv (n_v vs 16) else w_el w1 b j) ∧ ∀ b k, w_fd ws b k = w_fd w1 b k := s1
  obtain ⟨f1, hf⟩ := fc_un (show (1 : Nat) < 100 from by decide) hf
  have f1 : v_iv (n_v vs 16) = v_iv (n_v vs 14) + v_iv (n_v vs 15) := f1
  obtain ⟨f2, hf⟩ := fc_un (show (10 : Nat) < 100 from by decide) hf
  have f2 : v_iv (n_v vs 14) = w_el w1 (v_ad (n_v vs 11)) (v_iv (n_v vs 7)).toNat := f2
  obtain ⟨f3, hf⟩ := fc_un (show (9 : Nat) < 100 from by decide) hf
  have f3 : n_v vs 11 = w_fd w1 (v_ad (n_v vs 0)) 142 := f3
  obtain ⟨ta2, w2, le2, ⟨_, s2⟩, hf⟩ := fc_us (show ¬ (100 : Nat) < 100 from by decide) hf
  have s2 : (∀ b j, w_el w1 b j = if b = v_ad (n_v vs 8) ∧ j = (v_iv (n_v vs 13)).toNat then v_iv (n_v vs 1) else w_el w2 b j) ∧ ∀ b k, w_fd w1 b k = w_fd w2 b k := s2
  obtain ⟨f5, hf⟩ := fc_un (show (1 : Nat) < 100 from by decide) hf
  have f5 : v_iv (n_v vs 13) = v_iv (n_v vs 10) + v_iv (n_v vs 12) := f5
  obtain ⟨f6, hf⟩ := fc_un (show (10 : Nat) < 100 from by decide) hf
  have f6 : v_iv (n_v vs 12) = w_el w2 (v_ad (n_v vs 11)) (v_iv (n_v vs 7)).toNat := f6
  obtain ⟨f7, hf⟩ := fc_un (show (3 : Nat) < 100 from by decide) hf
  have f7 : v_iv (n_v vs 10) = v_iv (n_v vs 9) * v_iv (n_v vs 7) := f7
  rw [show v_iv (n_v vs 9) = 24010 from by omega] at f7
  obtain ⟨f8, hf⟩ := fc_un (show (9 : Nat) < 100 from by decide) hf
  have f8 : n_v vs 8 = w_fd w2 (v_ad (n_v vs 0)) 141 := f8
  obtain ⟨f9, hf⟩ := fc_un (show (12 : Nat) < 100 from by decide) hf
  have f9 : v_iv (n_v vs 7) = v_iv (n_v vs 2) % 4 := f9
  obtain ⟨f10, hf⟩ := fc_un (show (16 : Nat) < 100 from by decide) hf
  have f10 : bv (v_iv (n_v vs 7)) = bv (v_iv (n_v vs 2)) &&& bv (v_iv (n_v vs 6)) := f10
  obtain ⟨ta3, w3, le3, ⟨_, s3⟩, hf⟩ := fc_us (show ¬ (100 : Nat) < 100 from by decide) hf
  have s3 : (∀ b j, w_el w2 b j = if b = v_ad (n_v vs 4) ∧ j = (v_iv (n_v vs 1)).toNat then v_iv (n_v vs 2) else w_el w3 b j) ∧ ∀ b k, w_fd w2 b k = w_fd w3 b k := s3
  obtain ⟨f12, hf⟩ := fc_un (show (9 : Nat) < 100 from by decide) hf
  have f12 : n_v vs 4 = w_fd w3 (v_ad (n_v vs 0)) 140 := f12
  obtain ⟨f13, hf⟩ := fc_un (show (7 : Nat) < 100 from by decide) hf
  have f13 : v_iv (n_v vs 2) < v_iv (n_v vs 5) := f13
  obtain ⟨f14, hf⟩ := fc_un (show (10 : Nat) < 100 from by decide) hf
  have f14 : v_iv (n_v vs 5) = w_el w3 (v_ad (n_v vs 4)) (v_iv (n_v vs 1)).toNat := f14
  obtain ⟨f15, hf⟩ := fc_un (show (20 : Nat) < 100 from by decide) hf
  have f15 : RT0 (w_fi w3 (n_v vs 0) 146) (w_fi w3 (n_v vs 0) 147) (w_ei w3 (w_ar w3 (n_v vs 0) 143)) (w_ei w3 (w_ar w3 (n_v vs 0) 140)) (w_ei w3 (w_ar w3 (n_v vs 0) 141)) (w_ei w3 (w_ar w3 (n_v vs 0) 142)) (v_iv (n_v vs 3)) := f15
  obtain ⟨f16, hf⟩ := fc_un (show (20 : Nat) < 100 from by decide) hf
  have f16 : RJ0 (w_fi w3 (n_v vs 0) 146) (w_fi w3 (n_v vs 0) 147) (w_ei w3 (w_ar w3 (n_v vs 0) 143)) (w_ei w3 (w_ar w3 (n_v vs 0) 140)) (v_iv (n_v vs 3)) (v_iv (n_v vs 1)) (v_iv (n_v vs 2)) := f16
  have ar_0_140_1 : w_ar w1 (n_v vs 0) 140 = w_ar ws (n_v vs 0) 140 := by show v_ad (w_fd w1 _ _) = v_ad (w_fd ws _ _); rw [s1.2]
  have ar_0_140_2 : w_ar w2 (n_v vs 0) 140 = w_ar ws (n_v vs 0) 140 := by rw [← ar_0_140_1]; show v_ad (w_fd w2 _ _) = v_ad (w_fd w1 _ _); rw [s2.2]
  have ar_0_140_3 : w_ar w3 (n_v vs 0) 140 = w_ar ws (n_v vs 0) 140 := by rw [← ar_0_140_2]; show v_ad (w_fd w3 _ _) = v_ad (w_fd w2 _ _); rw [s3.2]
  have cr_0_140 : ta (w_ar ws (n_v vs 0) 140) = some 251 := tv_rg (th_fd hD hth r0 (g := GG_150) rfl (k := 140) (t := (2, 0, 0, [251])) rfl rfl)
  have ar_0_141_1 : w_ar w1 (n_v vs 0) 141 = w_ar ws (n_v vs 0) 141 := by show v_ad (w_fd w1 _ _) = v_ad (w_fd ws _ _); rw [s1.2]
  have ar_0_141_2 : w_ar w2 (n_v vs 0) 141 = w_ar ws (n_v vs 0) 141 := by rw [← ar_0_141_1]; show v_ad (w_fd w2 _ _) = v_ad (w_fd w1 _ _); rw [s2.2]
  have ar_0_141_3 : w_ar w3 (n_v vs 0) 141 = w_ar ws (n_v vs 0) 141 := by rw [← ar_0_141_2]; show v_ad (w_fd w3 _ _) = v_ad (w_fd w2 _ _); rw [s3.2]
  have cr_0_141 : ta (w_ar ws (n_v vs 0) 141) = some 252 := tv_rg (th_fd hD hth r0 (g := GG_150) rfl (k := 141) (t := (2, 0, 0, [252])) rfl rfl)
  have ar_0_142_1 : w_ar w1 (n_v vs 0) 142 = w_ar ws (n_v vs 0) 142 := by show v_ad (w_fd w1 _ _) = v_ad (w_fd ws _ _); rw [s1.2]
  have ar_0_142_2 : w_ar w2 (n_v vs 0) 142 = w_ar ws (n_v vs 0) 142 := by rw [← ar_0_142_1]; show v_ad (w_fd w2 _ _) = v_ad (w_fd w1 _ _); rw [s2.2]
  have ar_0_142_3 : w_ar w3 (n_v vs 0) 142 = w_ar ws (n_v vs 0) 142 := by rw [← ar_0_142_2]; show v_ad (w_fd w3 _ _) = v_ad (w_fd w2 _ _); rw [s3.2]
  have cr_0_142 : ta (w_ar ws (n_v vs 0) 142) = some 253 := tv_rg (th_fd hD hth r0 (g := GG_150) rfl (k := 142) (t := (2, 0, 0, [253])) rfl rfl)
  have ar_0_143_1 : w_ar w1 (n_v vs 0) 143 = w_ar ws (n_v vs 0) 143 := by show v_ad (w_fd w1 _ _) = v_ad (w_fd ws _ _); rw [s1.2]
  have ar_0_143_2 : w_ar w2 (n_v vs 0) 143 = w_ar ws (n_v vs 0) 143 := by rw [← ar_0_143_1]; show v_ad (w_fd w2 _ _) = v_ad (w_fd w1 _ _); rw [s2.2]
  have ar_0_143_3 : w_ar w3 (n_v vs 0) 143 = w_ar ws (n_v vs 0) 143 := by rw [← ar_0_143_2]; show v_ad (w_fd w3 _ _) = v_ad (w_fd w2 _ _); rw [s3.2]
  have cr_0_143 : ta (w_ar ws (n_v vs 0) 143) = some 254 := tv_rg (th_fd hD hth r0 (g := GG_150) rfl (k := 143) (t := (2, 0, 0, [254])) rfl rfl)
  have ad_11 : v_ad (n_v vs 11) = w_ar ws (n_v vs 0) 142 := (congrArg v_ad f3).trans ar_0_142_1
  have ad_8 : v_ad (n_v vs 8) = w_ar ws (n_v vs 0) 141 := (congrArg v_ad f8).trans ar_0_141_2
  have ad_4 : v_ad (n_v vs 4) = w_ar ws (n_v vs 0) 140 := (congrArg v_ad f12).trans ar_0_140_3
  rw [ad_11] at f2
  have h2 : v_iv (n_v vs 14) = w_ei w1 (w_ar ws (n_v vs 0) 142) (v_iv (n_v vs 7)) := f2
  rw [ad_11] at f6
  have h6 : v_iv (n_v vs 12) = w_ei w2 (w_ar ws (n_v vs 0) 142) (v_iv (n_v vs 7)) := f6
  rw [ad_4] at f14
  have h14 : v_iv (n_v vs 5) = w_ei w3 (w_ar ws (n_v vs 0) 140) (v_iv (n_v vs 1)) := f14
  rw [ar_0_140_3] at f15
  rw [ar_0_141_3] at f15
  rw [ar_0_142_3] at f15
  rw [ar_0_143_3] at f15
  rw [ar_0_140_3] at f16
  rw [ar_0_143_3] at f16
  have fe_0_146_1 : w_fi ws (n_v vs 0) 146 = w_fi w1 (n_v vs 0) 146 := congrArg v_iv (s1.2 _ _)
  have fe_0_147_1 : w_fi ws (n_v vs 0) 147 = w_fi w1 (n_v vs 0) 147 := congrArg v_iv (s1.2 _ _)
  have fe_0_146_2 : w_fi w1 (n_v vs 0) 146 = w_fi w2 (n_v vs 0) 146 := congrArg v_iv (s2.2 _ _)
  have fe_0_147_2 : w_fi w1 (n_v vs 0) 147 = w_fi w2 (n_v vs 0) 147 := congrArg v_iv (s2.2 _ _)
  have fe_0_146_3 : w_fi w2 (n_v vs 0) 146 = w_fi w3 (n_v vs 0) 146 := congrArg v_iv (s3.2 _ _)
  have fe_0_147_3 : w_fi w2 (n_v vs 0) 147 = w_fi w3 (n_v vs 0) 147 := congrArg v_iv (s3.2 _ _)
  have hE_0_140_1 : ∀ j : Int, w_ei ws (w_ar ws (n_v vs 0) 140) j = w_ei w1 (w_ar ws (n_v vs 0) 140) j := fun j => by unfold w_ei; rw [s1.1, if_neg (fun e => by have e1 := e.1; rw [← e1] at r11; rw [cr_0_140] at r11; exact absurd (Option.some.inj r11) (by decide))]
  have hE_0_140_2 : ∀ j : Int, w_ei w1 (w_ar ws (n_v vs 0) 140) j = w_ei w2 (w_ar ws (n_v vs 0) 140) j := fun j => by unfold w_ei; rw [s2.1, if_neg (fun e => by have e1 := e.1; rw [← e1] at r8; rw [cr_0_140] at r8; exact absurd (Option.some.inj r8) (by decide))]
  have hE_0_140_3 : ∀ j : Int, 0 ≤ j → (j = v_iv (n_v vs 1) → w_ei w2 (w_ar ws (n_v vs 0) 140) j = v_iv (n_v vs 2)) ∧ (j ≠ v_iv (n_v vs 1) → w_ei w2 (w_ar ws (n_v vs 0) 140) j = w_ei w3 (w_ar ws (n_v vs 0) 140) j) := fun j hj => ⟨fun h => by unfold w_ei; rw [s3.1, if_pos ⟨ad_4.symm, by rw [h]⟩], fun h => by unfold w_ei; rw [s3.1, if_neg (fun e => h (by have := e.2; omega))]⟩
  have hK_0_140 : ∀ j : Int, 0 ≤ j → j < 24000 → 0 ≤ w_ei ws (w_ar ws (n_v vs 0) 140) j ∧ w_ei ws (w_ar ws (n_v vs 0) 140) j ≤ 1000000 := fun j h0 h1 => th_el hD hth cr_0_140 (kd := 0) (n := 24000) (m := 24000) (lo := 0) (hi := 1000000) (rs := []) (L := []) rfl (by decide) (j := j.toNat) (by omega)
  have hE_0_141_1 : ∀ j : Int, w_ei ws (w_ar ws (n_v vs 0) 141) j = w_ei w1 (w_ar ws (n_v vs 0) 141) j := fun j => by unfold w_ei; rw [s1.1, if_neg (fun e => by have e1 := e.1; rw [← e1] at r11; rw [cr_0_141] at r11; exact absurd (Option.some.inj r11) (by decide))]
  have hE_0_141_2 : ∀ j : Int, 0 ≤ j → (j = v_iv (n_v vs 13) → w_ei w1 (w_ar ws (n_v vs 0) 141) j = v_iv (n_v vs 1)) ∧ (j ≠ v_iv (n_v vs 13) → w_ei w1 (w_ar ws (n_v vs 0) 141) j = w_ei w2 (w_ar ws (n_v vs 0) 141) j) := fun j hj => ⟨fun h => by unfold w_ei; rw [s2.1, if_pos ⟨ad_8.symm, by rw [h]⟩], fun h => by unfold w_ei; rw [s2.1, if_neg (fun e => h (by have := e.2; omega))]⟩
  have hE_0_141_3 : ∀ j : Int, w_ei w2 (w_ar ws (n_v vs 0) 141) j = w_ei w3 (w_ar ws (n_v vs 0) 141) j := fun j => by unfold w_ei; rw [s3.1, if_neg (fun e => by have e1 := e.1; rw [← e1] at r4; rw [cr_0_141] at r4; exact absurd (Option.some.inj r4) (by decide))]
  have hK_0_141 : ∀ j : Int, 0 ≤ j → j < 96040 → 0 ≤ w_ei ws (w_ar ws (n_v vs 0) 141) j ∧ w_ei ws (w_ar ws (n_v vs 0) 141) j ≤ 23999 := fun j h0 h1 => th_el hD hth cr_0_141 (kd := 0) (n := 96040) (m := 96040) (lo := 0) (hi := 23999) (rs := []) (L := []) rfl (by decide) (j := j.toNat) (by omega)
  have hE_0_142_1 : ∀ j : Int, 0 ≤ j → (j = v_iv (n_v vs 7) → w_ei ws (w_ar ws (n_v vs 0) 142) j = v_iv (n_v vs 16)) ∧ (j ≠ v_iv (n_v vs 7) → w_ei ws (w_ar ws (n_v vs 0) 142) j = w_ei w1 (w_ar ws (n_v vs 0) 142) j) := fun j hj => ⟨fun h => by unfold w_ei; rw [s1.1, if_pos ⟨ad_11.symm, by rw [h]⟩], fun h => by unfold w_ei; rw [s1.1, if_neg (fun e => h (by have := e.2; omega))]⟩
  have hE_0_142_2 : ∀ j : Int, w_ei w1 (w_ar ws (n_v vs 0) 142) j = w_ei w2 (w_ar ws (n_v vs 0) 142) j := fun j => by unfold w_ei; rw [s2.1, if_neg (fun e => by have e1 := e.1; rw [← e1] at r8; rw [cr_0_142] at r8; exact absurd (Option.some.inj r8) (by decide))]
  have hE_0_142_3 : ∀ j : Int, w_ei w2 (w_ar ws (n_v vs 0) 142) j = w_ei w3 (w_ar ws (n_v vs 0) 142) j := fun j => by unfold w_ei; rw [s3.1, if_neg (fun e => by have e1 := e.1; rw [← e1] at r4; rw [cr_0_142] at r4; exact absurd (Option.some.inj r4) (by decide))]
  have hK_0_142 : ∀ j : Int, 0 ≤ j → j < 4 → 0 ≤ w_ei ws (w_ar ws (n_v vs 0) 142) j ∧ w_ei ws (w_ar ws (n_v vs 0) 142) j ≤ 24009 := fun j h0 h1 => th_el hD hth cr_0_142 (kd := 0) (n := 4) (m := 4) (lo := 0) (hi := 24009) (rs := []) (L := []) rfl (by decide) (j := j.toNat) (by omega)
  have hE_0_143_1 : ∀ j : Int, w_ei ws (w_ar ws (n_v vs 0) 143) j = w_ei w1 (w_ar ws (n_v vs 0) 143) j := fun j => by unfold w_ei; rw [s1.1, if_neg (fun e => by have e1 := e.1; rw [← e1] at r11; rw [cr_0_143] at r11; exact absurd (Option.some.inj r11) (by decide))]
  have hE_0_143_2 : ∀ j : Int, w_ei w1 (w_ar ws (n_v vs 0) 143) j = w_ei w2 (w_ar ws (n_v vs 0) 143) j := fun j => by unfold w_ei; rw [s2.1, if_neg (fun e => by have e1 := e.1; rw [← e1] at r8; rw [cr_0_143] at r8; exact absurd (Option.some.inj r8) (by decide))]
  have hE_0_143_3 : ∀ j : Int, w_ei w2 (w_ar ws (n_v vs 0) 143) j = w_ei w3 (w_ar ws (n_v vs 0) 143) j := fun j => by unfold w_ei; rw [s3.1, if_neg (fun e => by have e1 := e.1; rw [← e1] at r4; rw [cr_0_143] at r4; exact absurd (Option.some.inj r4) (by decide))]
  have hK_0_143 : ∀ j : Int, 0 ≤ j → j < 6000 → 0 ≤ w_ei ws (w_ar ws (n_v vs 0) 143) j ∧ w_ei ws (w_ar ws (n_v vs 0) 143) j ≤ 1 := fun j h0 h1 => th_el hD hth cr_0_143 (kd := 2) (n := 6000) (m := 6000) (lo := 0) (hi := 1) (rs := []) (L := []) rfl (by decide) (j := j.toNat) (by omega)
  have kz_0_146 : (-2147483648) ≤ w_fi ws (n_v vs 0) 146 ∧ w_fi ws (n_v vs 0) 146 ≤ 2147483647 := tv_rng (th_fd hD hth r0 (g := GG_150) rfl (k := 146) (t := (0, -2147483648, 2147483647, [])) rfl rfl)
  have kz_0_147 : (-2147483648) ≤ w_fi ws (n_v vs 0) 147 ∧ w_fi ws (n_v vs 0) 147 ≤ 2147483647 := tv_rng (th_fd hD hth r0 (g := GG_150) rfl (k := 147) (t := (0, -2147483648, 2147483647, [])) rfl rfl)
  have nf0 : fc_1 PRD (20, [0, 3], [60, 2, 4, 420, 146, 147, 143, 140, 141, 142]) ws (vs) := by
    refine ⟨fun n hn => ?_, ?_⟩
    · have hn : n ∈ [0, 3] := hn
      rw [hl]
      simp only [List.mem_cons, List.not_mem_nil, or_false] at hn
      show n < 17; omega
    · show RT0 (w_fi ws (n_v vs 0) 146) (w_fi ws (n_v vs 0) 147) (w_ei ws (w_ar ws (n_v vs 0) 143)) (w_ei ws (w_ar ws (n_v vs 0) 140)) (w_ei ws (w_ar ws (n_v vs 0) 141)) (w_ei ws (w_ar ws (n_v vs 0) 142)) (v_iv (n_v vs 3))
      exact vc_Mo_reached_at_gi_1_0 (v_iv (n_v vs 1)) (v_iv (n_v vs 2)) (v_iv (n_v vs 3)) (v_iv (n_v vs 5)) (v_iv (n_v vs 6)) (v_iv (n_v vs 7)) (v_iv (n_v vs 9)) (v_iv (n_v vs 10)) (v_iv (n_v vs 12)) (v_iv (n_v vs 13)) (v_iv (n_v vs 14)) (v_iv (n_v vs 15)) (v_iv (n_v vs 16)) (w_ei w1 (w_ar ws (n_v vs 0) 142)) (w_ei w2 (w_ar ws (n_v vs 0) 142)) (w_ei w3 (w_ar ws (n_v vs 0) 140)) (w_ei w3 (w_ar ws (n_v vs 0) 143)) (w_ei w3 (w_ar ws (n_v vs 0) 141)) (w_ei w3 (w_ar ws (n_v vs 0) 142)) (w_fi w3 (n_v vs 0) 146) (w_fi w3 (n_v vs 0) 147) (w_fi ws (n_v vs 0) 146) (w_fi w1 (n_v vs 0) 146) (w_fi ws (n_v vs 0) 147) (w_fi w1 (n_v vs 0) 147) (w_fi w2 (n_v vs 0) 146) (w_fi w2 (n_v vs 0) 147) (w_ei ws (w_ar ws (n_v vs 0) 140)) (w_ei w1 (w_ar ws (n_v vs 0) 140)) (w_ei w2 (w_ar ws (n_v vs 0) 140)) (w_ei ws (w_ar ws (n_v vs 0) 141)) (w_ei w1 (w_ar ws (n_v vs 0) 141)) (w_ei w2 (w_ar ws (n_v vs 0) 141)) (w_ei ws (w_ar ws (n_v vs 0) 142)) (w_ei ws (w_ar ws (n_v vs 0) 143)) (w_ei w1 (w_ar ws (n_v vs 0) 143)) (w_ei w2 (w_ar ws (n_v vs 0) 143)) k1 k2 k3 k5 k6 k7 k9 k10 k12 k13 k14 k15 k16 d0 d1 f1 h2 f5 h6 f7 f9 f10 f13 h14 f15 f16 fe_0_146_1 fe_0_147_1 fe_0_146_2 fe_0_147_2 fe_0_146_3 fe_0_147_3 hE_0_140_1 hE_0_140_2 hE_0_140_3 hK_0_140 hE_0_141_1 hE_0_141_2 hE_0_141_3 hK_0_141 hE_0_142_1 hE_0_142_2 hE_0_142_3 hK_0_142 hE_0_143_1 hE_0_143_2 hE_0_143_3 hK_0_143 kz_0_146 kz_0_147
  refine ⟨(fun _ h => (by cases h)), [], trivial, ?_, (fun _ h => (by cases h))⟩
  rw [List.append_nil]
  exact List.forall_mem_cons.mpr ⟨⟨show (20 : Nat) < 100 from by decide, nf0⟩, (fun _ h => (by cases h))⟩
def n_Mo_reached_at_gi_an : List an_T := []
def t_Mo_reached_at_gi_ct : ct_L := []
set_option maxRecDepth 100000 in
theorem c_Mo_reached_at_gi {l : Launch} {D : va_G} {kA : Nat → ClassId} : ct_ok PRD l D kA GG y_Mo_reached_at_gi z_Mo_reached_at_gi e_Mo_reached_at_gi := chk_all_ok (FT := [(317, 13, 140), (321, 13, 141), (324, 13, 142)]) (PT := []) (CT := t_Mo_reached_at_gi_ct) (KT := []) (NT := []) (AN := n_Mo_reached_at_gi_an) (OT := [o_Mo_reached_at_gi_0, o_Mo_reached_at_gi_1]) 0 200 (List.forall_mem_cons.mpr ⟨oo_Mo_reached_at_gi_0, List.forall_mem_cons.mpr ⟨oo_Mo_reached_at_gi_1, List.forall_mem_nil _⟩⟩) (by decide +kernel) ⟨List.forall_mem_cons.mpr ⟨gf_Mo_317, List.forall_mem_cons.mpr ⟨gf_Mo_321, List.forall_mem_cons.mpr ⟨gf_Mo_324, List.forall_mem_nil _⟩⟩⟩, List.forall_mem_nil _, List.forall_mem_nil _, List.forall_mem_nil _, List.forall_mem_nil _, GG_pl⟩ (by decide +kernel)
