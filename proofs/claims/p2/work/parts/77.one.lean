def o_Mo_min_0 : or_T := (10, 2, [(0, (0, -2147483648, 2147483647, [])), (1, (0, -2147483648, 2147483647, []))], [(7, [0, 1], [3])], [], [], [(7, [1, 0], [5]), (7, [1, 1], [5])], [])
theorem oo_Mo_min_0 {kA : Nat → ClassId} : or_ok kA GG o_Mo_min_0 := by
  intro A ta ws vs hD hth hl hk hf
  have hl : vs.length = 2 := hl
  have hk : ∀ q ∈ ([(0, (0, -2147483648, 2147483647, [])), (1, (0, -2147483648, 2147483647, []))] : List (Nat × tv_T)), tv_ok ta q.2 (n_v vs q.1) := hk
  obtain ⟨t0, hk⟩ := List.forall_mem_cons.mp hk
  have t0 : tv_ok ta (0, -2147483648, 2147483647, []) (n_v vs 0) := t0
  have k0 : (-2147483648) ≤ v_iv (n_v vs 0) ∧ v_iv (n_v vs 0) ≤ 2147483647 := tv_rng t0
  obtain ⟨t1, hk⟩ := List.forall_mem_cons.mp hk
  have t1 : tv_ok ta (0, -2147483648, 2147483647, []) (n_v vs 1) := t1
  have k1 : (-2147483648) ≤ v_iv (n_v vs 1) ∧ v_iv (n_v vs 1) ≤ 2147483647 := tv_rng t1
  have hf : fc_ok [(7, [0, 1], [3])] ta ws vs := hf
  obtain ⟨f0, hf⟩ := fc_un (by decide) hf
  have f0 : v_iv (n_v vs 1) ≤ v_iv (n_v vs 0) := f0
  have nf0 : fc_1 (7, [1, 0], [5]) ws (vs) := by
    refine ⟨fun n hn => ?_, ?_⟩
    · have hn : n ∈ [1, 0] := hn
      rw [hl]
      simp only [List.mem_cons, List.not_mem_nil, or_false] at hn
      show n < 2; omega
    · show v_iv (n_v vs 1) ≤ v_iv (n_v vs 0)
      omega
  have nf1 : fc_1 (7, [1, 1], [5]) ws (vs) := by
    refine ⟨fun n hn => ?_, ?_⟩
    · have hn : n ∈ [1, 1] := hn
      rw [hl]
      simp only [List.mem_cons, List.not_mem_nil, or_false] at hn
      show n < 2; omega
    · show v_iv (n_v vs 1) ≤ v_iv (n_v vs 1)
      omega
  refine ⟨fun q hq => (by cases hq), [], trivial, ?_, fun _ h => by cases h⟩
  rw [List.append_nil]
  exact List.forall_mem_cons.mpr ⟨⟨by decide, nf0⟩, List.forall_mem_cons.mpr ⟨⟨by decide, nf1⟩, fun _ h => by cases h⟩⟩
def o_Mo_min_1 : or_T := (10, 2, [(0, (0, -2147483648, 2147483646, [])), (1, (0, -2147483647, 2147483647, []))], [(7, [0, 1], [2])], [], [], [(7, [0, 0], [5]), (7, [0, 1], [5])], [])
theorem oo_Mo_min_1 {kA : Nat → ClassId} : or_ok kA GG o_Mo_min_1 := by
  intro A ta ws vs hD hth hl hk hf
  have hl : vs.length = 2 := hl
  have hk : ∀ q ∈ ([(0, (0, -2147483648, 2147483646, [])), (1, (0, -2147483647, 2147483647, []))] : List (Nat × tv_T)), tv_ok ta q.2 (n_v vs q.1) := hk
  obtain ⟨t0, hk⟩ := List.forall_mem_cons.mp hk
  have t0 : tv_ok ta (0, -2147483648, 2147483646, []) (n_v vs 0) := t0
  have k0 : (-2147483648) ≤ v_iv (n_v vs 0) ∧ v_iv (n_v vs 0) ≤ 2147483646 := tv_rng t0
  obtain ⟨t1, hk⟩ := List.forall_mem_cons.mp hk
  have t1 : tv_ok ta (0, -2147483647, 2147483647, []) (n_v vs 1) := t1
  have k1 : (-2147483647) ≤ v_iv (n_v vs 1) ∧ v_iv (n_v vs 1) ≤ 2147483647 := tv_rng t1
  have hf : fc_ok [(7, [0, 1], [2])] ta ws vs := hf
  obtain ⟨f0, hf⟩ := fc_un (by decide) hf
  have f0 : v_iv (n_v vs 0) < v_iv (n_v vs 1) := f0
  have nf0 : fc_1 (7, [0, 0], [5]) ws (vs) := by
    refine ⟨fun n hn => ?_, ?_⟩
    · have hn : n ∈ [0, 0] := hn
      rw [hl]
      simp only [List.mem_cons, List.not_mem_nil, or_false] at hn
      show n < 2; omega
    · show v_iv (n_v vs 0) ≤ v_iv (n_v vs 0)
      omega
  have nf1 : fc_1 (7, [0, 1], [5]) ws (vs) := by
    refine ⟨fun n hn => ?_, ?_⟩
    · have hn : n ∈ [0, 1] := hn
      rw [hl]
      simp only [List.mem_cons, List.not_mem_nil, or_false] at hn
      show n < 2; omega
    · show v_iv (n_v vs 0) ≤ v_iv (n_v vs 1)
      omega
  refine ⟨fun q hq => (by cases hq), [], trivial, ?_, fun _ h => by cases h⟩
  rw [List.append_nil]
  exact List.forall_mem_cons.mpr ⟨⟨by decide, nf0⟩, List.forall_mem_cons.mpr ⟨⟨by decide, nf1⟩, fun _ h => by cases h⟩⟩
def n_Mo_min_an : List an_T := []
def t_Mo_min_ct : ct_L := []
set_option maxRecDepth 100000 in
theorem c_Mo_min {l : Launch} {D : va_G} {kA : Nat → ClassId} : ct_ok l D kA GG y_Mo_min z_Mo_min e_Mo_min := chk_all_ok (FT := []) (PT := []) (CT := t_Mo_min_ct) (KT := []) (NT := []) (AN := n_Mo_min_an) (OT := [o_Mo_min_0, o_Mo_min_1]) 0 200 (List.forall_mem_cons.mpr ⟨oo_Mo_min_0, List.forall_mem_cons.mpr ⟨oo_Mo_min_1, List.forall_mem_nil _⟩⟩) (by decide +kernel) ⟨List.forall_mem_nil _, List.forall_mem_nil _, List.forall_mem_nil _, List.forall_mem_nil _, List.forall_mem_nil _⟩ (by decide +kernel)
def o_Mo_max_0 : or_T := (10, 2, [(0, (0, -2147483648, 2147483647, [])), (1, (0, -2147483648, 2147483647, []))], [(7, [0, 1], [5])], [], [], [(7, [1, 1], [5])], [])
theorem oo_Mo_max_0 {kA : Nat → ClassId} : or_ok kA GG o_Mo_max_0 := by
  intro A ta ws vs hD hth hl hk hf
  have hl : vs.length = 2 := hl
  have hk : ∀ q ∈ ([(0, (0, -2147483648, 2147483647, [])), (1, (0, -2147483648, 2147483647, []))] : List (Nat × tv_T)), tv_ok ta q.2 (n_v vs q.1) := hk
  obtain ⟨t0, hk⟩ := List.forall_mem_cons.mp hk
  have t0 : tv_ok ta (0, -2147483648, 2147483647, []) (n_v vs 0) := t0
  have k0 : (-2147483648) ≤ v_iv (n_v vs 0) ∧ v_iv (n_v vs 0) ≤ 2147483647 := tv_rng t0
  obtain ⟨t1, hk⟩ := List.forall_mem_cons.mp hk
  have t1 : tv_ok ta (0, -2147483648, 2147483647, []) (n_v vs 1) := t1
  have k1 : (-2147483648) ≤ v_iv (n_v vs 1) ∧ v_iv (n_v vs 1) ≤ 2147483647 := tv_rng t1
  have hf : fc_ok [(7, [0, 1], [5])] ta ws vs := hf
  obtain ⟨f0, hf⟩ := fc_un (by decide) hf
  have f0 : v_iv (n_v vs 0) ≤ v_iv (n_v vs 1) := f0
  have nf0 : fc_1 (7, [1, 1], [5]) ws (vs) := by
    refine ⟨fun n hn => ?_, ?_⟩
    · have hn : n ∈ [1, 1] := hn
      rw [hl]
      simp only [List.mem_cons, List.not_mem_nil, or_false] at hn
      show n < 2; omega
    · show v_iv (n_v vs 1) ≤ v_iv (n_v vs 1)
      omega
  refine ⟨fun q hq => (by cases hq), [], trivial, ?_, fun _ h => by cases h⟩
  rw [List.append_nil]
  exact List.forall_mem_cons.mpr ⟨⟨by decide, nf0⟩, fun _ h => by cases h⟩
def o_Mo_max_1 : or_T := (10, 2, [(0, (0, -2147483647, 2147483647, [])), (1, (0, -2147483648, 2147483646, []))], [(7, [0, 1], [4])], [], [], [(7, [0, 0], [5]), (7, [1, 0], [5])], [])
theorem oo_Mo_max_1 {kA : Nat → ClassId} : or_ok kA GG o_Mo_max_1 := by
  intro A ta ws vs hD hth hl hk hf
  have hl : vs.length = 2 := hl
  have hk : ∀ q ∈ ([(0, (0, -2147483647, 2147483647, [])), (1, (0, -2147483648, 2147483646, []))] : List (Nat × tv_T)), tv_ok ta q.2 (n_v vs q.1) := hk
  obtain ⟨t0, hk⟩ := List.forall_mem_cons.mp hk
  have t0 : tv_ok ta (0, -2147483647, 2147483647, []) (n_v vs 0) := t0
  have k0 : (-2147483647) ≤ v_iv (n_v vs 0) ∧ v_iv (n_v vs 0) ≤ 2147483647 := tv_rng t0
  obtain ⟨t1, hk⟩ := List.forall_mem_cons.mp hk
  have t1 : tv_ok ta (0, -2147483648, 2147483646, []) (n_v vs 1) := t1
  have k1 : (-2147483648) ≤ v_iv (n_v vs 1) ∧ v_iv (n_v vs 1) ≤ 2147483646 := tv_rng t1
  have hf : fc_ok [(7, [0, 1], [4])] ta ws vs := hf
  obtain ⟨f0, hf⟩ := fc_un (by decide) hf
  have f0 : v_iv (n_v vs 1) < v_iv (n_v vs 0) := f0
  have nf0 : fc_1 (7, [0, 0], [5]) ws (vs) := by
    refine ⟨fun n hn => ?_, ?_⟩
    · have hn : n ∈ [0, 0] := hn
      rw [hl]
      simp only [List.mem_cons, List.not_mem_nil, or_false] at hn
      show n < 2; omega
    · show v_iv (n_v vs 0) ≤ v_iv (n_v vs 0)
      omega
  have nf1 : fc_1 (7, [1, 0], [5]) ws (vs) := by
    refine ⟨fun n hn => ?_, ?_⟩
    · have hn : n ∈ [1, 0] := hn
      rw [hl]
      simp only [List.mem_cons, List.not_mem_nil, or_false] at hn
      show n < 2; omega
    · show v_iv (n_v vs 1) ≤ v_iv (n_v vs 0)
      omega
  refine ⟨fun q hq => (by cases hq), [], trivial, ?_, fun _ h => by cases h⟩
  rw [List.append_nil]
  exact List.forall_mem_cons.mpr ⟨⟨by decide, nf0⟩, List.forall_mem_cons.mpr ⟨⟨by decide, nf1⟩, fun _ h => by cases h⟩⟩
def n_Mo_max_an : List an_T := []
def t_Mo_max_ct : ct_L := []
set_option maxRecDepth 100000 in
theorem c_Mo_max {l : Launch} {D : va_G} {kA : Nat → ClassId} : ct_ok l D kA GG y_Mo_max z_Mo_max e_Mo_max := chk_all_ok (FT := []) (PT := []) (CT := t_Mo_max_ct) (KT := []) (NT := []) (AN := n_Mo_max_an) (OT := [o_Mo_max_0, o_Mo_max_1]) 0 200 (List.forall_mem_cons.mpr ⟨oo_Mo_max_0, List.forall_mem_cons.mpr ⟨oo_Mo_max_1, List.forall_mem_nil _⟩⟩) (by decide +kernel) ⟨List.forall_mem_nil _, List.forall_mem_nil _, List.forall_mem_nil _, List.forall_mem_nil _, List.forall_mem_nil _⟩ (by decide +kernel)
def o_Mo_pieces_0 : or_T := (38, 4, [(0, (2, 0, 0, [139])), (3, (0, 1, 1, []))], [], [], [(0, 0, 12801, [])], [(20, [4, 0, 3], [1, 44, 80, 160, 2])], [])
theorem oo_Mo_pieces_0 {kA : Nat → ClassId} : or_ok kA GG o_Mo_pieces_0 := by
  intro A ta ws vs hD hth hl hk hf
  have hl : vs.length = 4 := hl
  have hk : ∀ q ∈ ([(0, (2, 0, 0, [139])), (3, (0, 1, 1, []))] : List (Nat × tv_T)), tv_ok ta q.2 (n_v vs q.1) := hk
  obtain ⟨t0, hk⟩ := List.forall_mem_cons.mp hk
  have t0 : tv_ok ta (2, 0, 0, [139]) (n_v vs 0) := t0
  have r0 : ta (v_ad (n_v vs 0)) = some 139 := tv_rg t0
  obtain ⟨t3, hk⟩ := List.forall_mem_cons.mp hk
  have t3 : tv_ok ta (0, 1, 1, []) (n_v vs 3) := t3
  have k3 : 1 ≤ v_iv (n_v vs 3) ∧ v_iv (n_v vs 3) ≤ 1 := tv_rng t3
  have ra : ta (w_ar ws (n_v vs 0) 44) = some 164 := tv_rg (th_fd hD hth r0 (g := GG_139) rfl (k := 44) (t := (2, 0, 0, [164])) rfl rfl)
  have bs := sum_bd (ws := ws) (a := w_ar ws (n_v vs 0) 44) (lo := (-1)) (hi := 79) (n := 80) (fun j hj => th_el hD hth ra (kd := 0) (n := 80) (m := 80) (rs := []) (L := []) rfl (by decide) (by omega))
  obtain ⟨x, ex, hx⟩ := iv_ex (ta := ta) (lo := 0) (hi := 12801) (z := 160 + 2 * w_sum ws (w_ar ws (n_v vs 0) 44) 80 + v_iv (n_v vs 3)) (by omega) (by omega) (by decide) (by decide)
  have ex2 : v_iv (Value.int x) = 160 + 2 * w_sum ws (w_ar ws (n_v vs 0) 44) 80 + v_iv (n_v vs 3) := ex
  have e_0 : n_v (vs ++ [Value.int x]) 0 = n_v vs 0 := n_v_old (by rw [hl]; decide)
  have e_3 : n_v (vs ++ [Value.int x]) 3 = n_v vs 3 := n_v_old (by rw [hl]; decide)
  have e_4 : n_v (vs ++ [Value.int x]) 4 = Value.int x := n_v_new hl
  have nf0 : fc_1 (20, [4, 0, 3], [1, 44, 80, 160, 2]) ws (vs ++ [Value.int x]) := by
    refine ⟨fun n hn => ?_, ?_⟩
    · have hn : n ∈ [4, 0, 3] := hn
      rw [List.length_append, hl]
      simp only [List.mem_cons, List.not_mem_nil, or_false] at hn
      show n < 4 + 1; omega
    · show v_iv (n_v (vs ++ [Value.int x]) 4) = 160 + 2 * w_sum ws (w_ar ws (n_v (vs ++ [Value.int x]) 0) 44) 80 + v_iv (n_v (vs ++ [Value.int x]) 3)
      rw [e_0]
      rw [e_3]
      rw [e_4]
      omega
  exact ⟨fun q hq => (by cases hq), [Value.int x], ag_one hx, List.forall_mem_cons.mpr ⟨⟨by decide, nf0⟩, fun _ h => by cases h⟩, fun _ h => by cases h⟩
def o_Mo_pieces_1 : or_T := (46, 5, [(0, (2, 0, 0, [139])), (1, (0, 1, 1, [])), (2, (0, 0, 12801, [])), (3, (0, 0, 0, []))], [(20, [2, 0, 1], [1, 44, 80, 160, 2])], [], [(0, 0, 12801, [])], [(20, [5, 0, 3], [2, 44, 80, 160, 2])], [(5, 2, 0, 0)])
theorem oo_Mo_pieces_1 {kA : Nat → ClassId} : or_ok kA GG o_Mo_pieces_1 := by
  intro A ta ws vs hD hth hl hk hf
  have hl : vs.length = 5 := hl
  have hk : ∀ q ∈ ([(0, (2, 0, 0, [139])), (1, (0, 1, 1, [])), (2, (0, 0, 12801, [])), (3, (0, 0, 0, []))] : List (Nat × tv_T)), tv_ok ta q.2 (n_v vs q.1) := hk
  obtain ⟨t0, hk⟩ := List.forall_mem_cons.mp hk
  have t0 : tv_ok ta (2, 0, 0, [139]) (n_v vs 0) := t0
  have r0 : ta (v_ad (n_v vs 0)) = some 139 := tv_rg t0
  obtain ⟨t1, hk⟩ := List.forall_mem_cons.mp hk
  have t1 : tv_ok ta (0, 1, 1, []) (n_v vs 1) := t1
  have k1 : 1 ≤ v_iv (n_v vs 1) ∧ v_iv (n_v vs 1) ≤ 1 := tv_rng t1
  obtain ⟨t2, hk⟩ := List.forall_mem_cons.mp hk
  have t2 : tv_ok ta (0, 0, 12801, []) (n_v vs 2) := t2
  have k2 : 0 ≤ v_iv (n_v vs 2) ∧ v_iv (n_v vs 2) ≤ 12801 := tv_rng t2
  obtain ⟨t3, hk⟩ := List.forall_mem_cons.mp hk
  have t3 : tv_ok ta (0, 0, 0, []) (n_v vs 3) := t3
  have k3 : 0 ≤ v_iv (n_v vs 3) ∧ v_iv (n_v vs 3) ≤ 0 := tv_rng t3
  have hf : fc_ok [(20, [2, 0, 1], [1, 44, 80, 160, 2])] ta ws vs := hf
  obtain ⟨f0, hf⟩ := fc_un (by decide) hf
  have f0 : v_iv (n_v vs 2) = 160 + 2 * w_sum ws (w_ar ws (n_v vs 0) 44) 80 + v_iv (n_v vs 1) := f0
  have key : 160 + 2 * w_sum ws (w_ar ws (n_v vs 0) 44) 80 + v_iv (n_v vs 3) + 1 ≤ v_iv (n_v vs 2) := by omega
  obtain ⟨x, ex, hx⟩ := iv_ex (ta := ta) (lo := 0) (hi := 12801) (z := v_iv (n_v vs 2)) (by omega) (by omega) (by decide) (by decide)
  have ex2 : v_iv (Value.int x) = v_iv (n_v vs 2) := ex
  have e_0 : n_v (vs ++ [Value.int x]) 0 = n_v vs 0 := n_v_old (by rw [hl]; decide)
  have e_3 : n_v (vs ++ [Value.int x]) 3 = n_v vs 3 := n_v_old (by rw [hl]; decide)
  have e_5 : n_v (vs ++ [Value.int x]) 5 = Value.int x := n_v_new hl
  have nf0 : fc_1 (20, [5, 0, 3], [2, 44, 80, 160, 2]) ws (vs ++ [Value.int x]) := by
    refine ⟨fun n hn => ?_, ?_⟩
    · have hn : n ∈ [5, 0, 3] := hn
      rw [List.length_append, hl]
      simp only [List.mem_cons, List.not_mem_nil, or_false] at hn
      show n < 5 + 1; omega
    · show 160 + 2 * w_sum ws (w_ar ws (n_v (vs ++ [Value.int x]) 0) 44) 80 + v_iv (n_v (vs ++ [Value.int x]) 3) + 1 ≤ v_iv (n_v (vs ++ [Value.int x]) 5)
      rw [e_0]
      rw [e_3]
      rw [e_5]
      omega
  obtain ⟨x0, e0, _, _⟩ := tv_int t2 rfl
  have e1 : v_iv (n_v vs 2) = x0.toInt := by rw [e0]; rfl
  have ho : sy_ofs (vs ++ [Value.int x]) (5, 2, 0, 0) := by
    refine ⟨x, x0, by rw [List.getElem?_append_right (by rw [hl]; decide), hl]; rfl, ?_, ?_, ?_⟩
    · rw [List.getElem?_append_left (by rw [hl]; decide)]; exact n_v_some (by rw [hl]; decide) e0
    · show x0.toInt + 0 ≤ x.toInt; omega
    · show x.toInt ≤ x0.toInt + 0; omega
  exact ⟨fun q hq => (by cases hq), [Value.int x], ag_one hx, List.forall_mem_cons.mpr ⟨⟨by decide, nf0⟩, fun _ h => by cases h⟩, List.forall_mem_cons.mpr ⟨ho, fun _ h => by cases h⟩⟩
def o_Mo_pieces_2 : or_T := (38, 5, [(0, (2, 0, 0, [139])), (1, (0, 0, 1, [])), (3, (0, 0, 12801, []))], [(20, [3, 0, 1], [2, 44, 80, 160, 2])], [], [(0, 0, 12801, [])], [(20, [5, 0, 1], [1, 44, 80, 160, 2])], [(5, 3, -1000000000000, -1)])
theorem oo_Mo_pieces_2 {kA : Nat → ClassId} : or_ok kA GG o_Mo_pieces_2 := by
  intro A ta ws vs hD hth hl hk hf
  have hl : vs.length = 5 := hl
  have hk : ∀ q ∈ ([(0, (2, 0, 0, [139])), (1, (0, 0, 1, [])), (3, (0, 0, 12801, []))] : List (Nat × tv_T)), tv_ok ta q.2 (n_v vs q.1) := hk
  obtain ⟨t0, hk⟩ := List.forall_mem_cons.mp hk
  have t0 : tv_ok ta (2, 0, 0, [139]) (n_v vs 0) := t0
  have r0 : ta (v_ad (n_v vs 0)) = some 139 := tv_rg t0
  obtain ⟨t1, hk⟩ := List.forall_mem_cons.mp hk
  have t1 : tv_ok ta (0, 0, 1, []) (n_v vs 1) := t1
  have k1 : 0 ≤ v_iv (n_v vs 1) ∧ v_iv (n_v vs 1) ≤ 1 := tv_rng t1
  obtain ⟨t3, hk⟩ := List.forall_mem_cons.mp hk
  have t3 : tv_ok ta (0, 0, 12801, []) (n_v vs 3) := t3
  have k3 : 0 ≤ v_iv (n_v vs 3) ∧ v_iv (n_v vs 3) ≤ 12801 := tv_rng t3
  have hf : fc_ok [(20, [3, 0, 1], [2, 44, 80, 160, 2])] ta ws vs := hf
  obtain ⟨f0, hf⟩ := fc_un (by decide) hf
  have f0 : 160 + 2 * w_sum ws (w_ar ws (n_v vs 0) 44) 80 + v_iv (n_v vs 1) + 1 ≤ v_iv (n_v vs 3) := f0
  have ra : ta (w_ar ws (n_v vs 0) 44) = some 164 := tv_rg (th_fd hD hth r0 (g := GG_139) rfl (k := 44) (t := (2, 0, 0, [164])) rfl rfl)
  have bs := sum_bd (ws := ws) (a := w_ar ws (n_v vs 0) 44) (lo := (-1)) (hi := 79) (n := 80) (fun j hj => th_el hD hth ra (kd := 0) (n := 80) (m := 80) (rs := []) (L := []) rfl (by decide) (by omega))
  obtain ⟨x, ex, hx⟩ := iv_ex (ta := ta) (lo := 0) (hi := 12801) (z := 160 + 2 * w_sum ws (w_ar ws (n_v vs 0) 44) 80 + v_iv (n_v vs 1)) (by omega) (by omega) (by decide) (by decide)
  have ex2 : v_iv (Value.int x) = 160 + 2 * w_sum ws (w_ar ws (n_v vs 0) 44) 80 + v_iv (n_v vs 1) := ex
  have e_0 : n_v (vs ++ [Value.int x]) 0 = n_v vs 0 := n_v_old (by rw [hl]; decide)
  have e_1 : n_v (vs ++ [Value.int x]) 1 = n_v vs 1 := n_v_old (by rw [hl]; decide)
  have e_5 : n_v (vs ++ [Value.int x]) 5 = Value.int x := n_v_new hl
  have nf0 : fc_1 (20, [5, 0, 1], [1, 44, 80, 160, 2]) ws (vs ++ [Value.int x]) := by
    refine ⟨fun n hn => ?_, ?_⟩
    · have hn : n ∈ [5, 0, 1] := hn
      rw [List.length_append, hl]
      simp only [List.mem_cons, List.not_mem_nil, or_false] at hn
      show n < 5 + 1; omega
    · show v_iv (n_v (vs ++ [Value.int x]) 5) = 160 + 2 * w_sum ws (w_ar ws (n_v (vs ++ [Value.int x]) 0) 44) 80 + v_iv (n_v (vs ++ [Value.int x]) 1)
      rw [e_0]
      rw [e_1]
      rw [e_5]
      omega
  obtain ⟨x0, e0, _, _⟩ := tv_int t3 rfl
  have e1 : v_iv (n_v vs 3) = x0.toInt := by rw [e0]; rfl
  have ho : sy_ofs (vs ++ [Value.int x]) (5, 3, -1000000000000, -1) := by
    refine ⟨x, x0, by rw [List.getElem?_append_right (by rw [hl]; decide), hl]; rfl, ?_, ?_, ?_⟩
    · rw [List.getElem?_append_left (by rw [hl]; decide)]; exact n_v_some (by rw [hl]; decide) e0
    · show x0.toInt + (-1000000000000) ≤ x.toInt; omega
    · show x.toInt ≤ x0.toInt + (-1); omega
  exact ⟨fun q hq => (by cases hq), [Value.int x], ag_one hx, List.forall_mem_cons.mpr ⟨⟨by decide, nf0⟩, fun _ h => by cases h⟩, List.forall_mem_cons.mpr ⟨ho, fun _ h => by cases h⟩⟩
def o_Mo_pieces_3 : or_T := (56, 6, [(0, (2, 0, 0, [139])), (1, (0, 0, 1, [])), (3, (0, 0, 12801, []))], [(20, [3, 0, 1], [2, 44, 80, 160, 2])], [], [(0, 0, 12801, [])], [(20, [6, 0, 1], [2, 44, 80, 160, 2])], [(6, 3, 0, 0)])
theorem oo_Mo_pieces_3 {kA : Nat → ClassId} : or_ok kA GG o_Mo_pieces_3 := by
  intro A ta ws vs hD hth hl hk hf
  have hl : vs.length = 6 := hl
  have hk : ∀ q ∈ ([(0, (2, 0, 0, [139])), (1, (0, 0, 1, [])), (3, (0, 0, 12801, []))] : List (Nat × tv_T)), tv_ok ta q.2 (n_v vs q.1) := hk
  obtain ⟨t0, hk⟩ := List.forall_mem_cons.mp hk
  have t0 : tv_ok ta (2, 0, 0, [139]) (n_v vs 0) := t0
  have r0 : ta (v_ad (n_v vs 0)) = some 139 := tv_rg t0
  obtain ⟨t1, hk⟩ := List.forall_mem_cons.mp hk
  have t1 : tv_ok ta (0, 0, 1, []) (n_v vs 1) := t1
  have k1 : 0 ≤ v_iv (n_v vs 1) ∧ v_iv (n_v vs 1) ≤ 1 := tv_rng t1
  obtain ⟨t3, hk⟩ := List.forall_mem_cons.mp hk
  have t3 : tv_ok ta (0, 0, 12801, []) (n_v vs 3) := t3
  have k3 : 0 ≤ v_iv (n_v vs 3) ∧ v_iv (n_v vs 3) ≤ 12801 := tv_rng t3
  have hf : fc_ok [(20, [3, 0, 1], [2, 44, 80, 160, 2])] ta ws vs := hf
  obtain ⟨f0, hf⟩ := fc_un (by decide) hf
  have f0 : 160 + 2 * w_sum ws (w_ar ws (n_v vs 0) 44) 80 + v_iv (n_v vs 1) + 1 ≤ v_iv (n_v vs 3) := f0
  have key : 160 + 2 * w_sum ws (w_ar ws (n_v vs 0) 44) 80 + v_iv (n_v vs 1) + 1 ≤ v_iv (n_v vs 3) := by omega
  obtain ⟨x, ex, hx⟩ := iv_ex (ta := ta) (lo := 0) (hi := 12801) (z := v_iv (n_v vs 3)) (by omega) (by omega) (by decide) (by decide)
  have ex2 : v_iv (Value.int x) = v_iv (n_v vs 3) := ex
  have e_0 : n_v (vs ++ [Value.int x]) 0 = n_v vs 0 := n_v_old (by rw [hl]; decide)
  have e_1 : n_v (vs ++ [Value.int x]) 1 = n_v vs 1 := n_v_old (by rw [hl]; decide)
  have e_6 : n_v (vs ++ [Value.int x]) 6 = Value.int x := n_v_new hl
  have nf0 : fc_1 (20, [6, 0, 1], [2, 44, 80, 160, 2]) ws (vs ++ [Value.int x]) := by
    refine ⟨fun n hn => ?_, ?_⟩
    · have hn : n ∈ [6, 0, 1] := hn
      rw [List.length_append, hl]
      simp only [List.mem_cons, List.not_mem_nil, or_false] at hn
      show n < 6 + 1; omega
    · show 160 + 2 * w_sum ws (w_ar ws (n_v (vs ++ [Value.int x]) 0) 44) 80 + v_iv (n_v (vs ++ [Value.int x]) 1) + 1 ≤ v_iv (n_v (vs ++ [Value.int x]) 6)
      rw [e_0]
      rw [e_1]
      rw [e_6]
      omega
  obtain ⟨x0, e0, _, _⟩ := tv_int t3 rfl
  have e1 : v_iv (n_v vs 3) = x0.toInt := by rw [e0]; rfl
  have ho : sy_ofs (vs ++ [Value.int x]) (6, 3, 0, 0) := by
    refine ⟨x, x0, by rw [List.getElem?_append_right (by rw [hl]; decide), hl]; rfl, ?_, ?_, ?_⟩
    · rw [List.getElem?_append_left (by rw [hl]; decide)]; exact n_v_some (by rw [hl]; decide) e0
    · show x0.toInt + 0 ≤ x.toInt; omega
    · show x.toInt ≤ x0.toInt + 0; omega
  exact ⟨fun q hq => (by cases hq), [Value.int x], ag_one hx, List.forall_mem_cons.mpr ⟨⟨by decide, nf0⟩, fun _ h => by cases h⟩, List.forall_mem_cons.mpr ⟨ho, fun _ h => by cases h⟩⟩
def o_Mo_pieces_4 : or_T := (46, 6, [(0, (2, 0, 0, [139])), (1, (0, 0, 1, [])), (4, (0, 0, 12801, []))], [(20, [4, 0, 1], [2, 44, 80, 160, 2])], [], [(0, 0, 12801, [])], [(20, [6, 0, 1], [2, 44, 80, 160, 2])], [(6, 4, 0, 0)])
theorem oo_Mo_pieces_4 {kA : Nat → ClassId} : or_ok kA GG o_Mo_pieces_4 := by
  intro A ta ws vs hD hth hl hk hf
  have hl : vs.length = 6 := hl
  have hk : ∀ q ∈ ([(0, (2, 0, 0, [139])), (1, (0, 0, 1, [])), (4, (0, 0, 12801, []))] : List (Nat × tv_T)), tv_ok ta q.2 (n_v vs q.1) := hk
  obtain ⟨t0, hk⟩ := List.forall_mem_cons.mp hk
  have t0 : tv_ok ta (2, 0, 0, [139]) (n_v vs 0) := t0
  have r0 : ta (v_ad (n_v vs 0)) = some 139 := tv_rg t0
  obtain ⟨t1, hk⟩ := List.forall_mem_cons.mp hk
  have t1 : tv_ok ta (0, 0, 1, []) (n_v vs 1) := t1
  have k1 : 0 ≤ v_iv (n_v vs 1) ∧ v_iv (n_v vs 1) ≤ 1 := tv_rng t1
  obtain ⟨t4, hk⟩ := List.forall_mem_cons.mp hk
  have t4 : tv_ok ta (0, 0, 12801, []) (n_v vs 4) := t4
  have k4 : 0 ≤ v_iv (n_v vs 4) ∧ v_iv (n_v vs 4) ≤ 12801 := tv_rng t4
  have hf : fc_ok [(20, [4, 0, 1], [2, 44, 80, 160, 2])] ta ws vs := hf
  obtain ⟨f0, hf⟩ := fc_un (by decide) hf
  have f0 : 160 + 2 * w_sum ws (w_ar ws (n_v vs 0) 44) 80 + v_iv (n_v vs 1) + 1 ≤ v_iv (n_v vs 4) := f0
  have key : 160 + 2 * w_sum ws (w_ar ws (n_v vs 0) 44) 80 + v_iv (n_v vs 1) + 1 ≤ v_iv (n_v vs 4) := by omega
  obtain ⟨x, ex, hx⟩ := iv_ex (ta := ta) (lo := 0) (hi := 12801) (z := v_iv (n_v vs 4)) (by omega) (by omega) (by decide) (by decide)
  have ex2 : v_iv (Value.int x) = v_iv (n_v vs 4) := ex
  have e_0 : n_v (vs ++ [Value.int x]) 0 = n_v vs 0 := n_v_old (by rw [hl]; decide)
  have e_1 : n_v (vs ++ [Value.int x]) 1 = n_v vs 1 := n_v_old (by rw [hl]; decide)
  have e_6 : n_v (vs ++ [Value.int x]) 6 = Value.int x := n_v_new hl
  have nf0 : fc_1 (20, [6, 0, 1], [2, 44, 80, 160, 2]) ws (vs ++ [Value.int x]) := by
    refine ⟨fun n hn => ?_, ?_⟩
    · have hn : n ∈ [6, 0, 1] := hn
      rw [List.length_append, hl]
      simp only [List.mem_cons, List.not_mem_nil, or_false] at hn
      show n < 6 + 1; omega
    · show 160 + 2 * w_sum ws (w_ar ws (n_v (vs ++ [Value.int x]) 0) 44) 80 + v_iv (n_v (vs ++ [Value.int x]) 1) + 1 ≤ v_iv (n_v (vs ++ [Value.int x]) 6)
      rw [e_0]
      rw [e_1]
      rw [e_6]
      omega
  obtain ⟨x0, e0, _, _⟩ := tv_int t4 rfl
  have e1 : v_iv (n_v vs 4) = x0.toInt := by rw [e0]; rfl
  have ho : sy_ofs (vs ++ [Value.int x]) (6, 4, 0, 0) := by
    refine ⟨x, x0, by rw [List.getElem?_append_right (by rw [hl]; decide), hl]; rfl, ?_, ?_, ?_⟩
    · rw [List.getElem?_append_left (by rw [hl]; decide)]; exact n_v_some (by rw [hl]; decide) e0
    · show x0.toInt + 0 ≤ x.toInt; omega
    · show x.toInt ≤ x0.toInt + 0; omega
  exact ⟨fun q hq => (by cases hq), [Value.int x], ag_one hx, List.forall_mem_cons.mpr ⟨⟨by decide, nf0⟩, fun _ h => by cases h⟩, List.forall_mem_cons.mpr ⟨ho, fun _ h => by cases h⟩⟩
def o_Mo_pieces_5 : or_T := (56, 16, [(0, (2, 0, 0, [139])), (1, (0, 0, 1, [])), (2, (0, 1, 79, [])), (3, (0, 0, 78, [])), (4, (0, 0, 12801, [])), (8, (2, 0, 0, [164])), (9, (0, -1, 79, [])), (10, (0, -1, 79, [])), (12, (0, -1, 79, [])), (13, (0, -1, 79, [])), (14, (0, 1, 1, []))], [(100, [8, 3, 13], []), (9, [8, 0], [44]), (100, [8, 2, 13], []), (9, [8, 0], [44]), (7, [13, 12], [5]), (7, [13, 13], [5]), (10, [13, 8, 3], []), (9, [8, 0], [44]), (10, [12, 8, 2], []), (9, [8, 0], [44]), (7, [9, 10], [1]), (10, [10, 8, 3], []), (9, [8, 0], [44]), (10, [9, 8, 2], []), (9, [8, 0], [44]), (20, [4, 0, 1], [2, 44, 80, 160, 2])], [], [], [(20, [4, 0, 14], [2, 44, 80, 160, 2])], [])
theorem oo_Mo_pieces_5 {kA : Nat → ClassId} : or_ok kA GG o_Mo_pieces_5 := by
  intro A ta ws vs hD hth hl hk hf
  have hl : vs.length = 16 := hl
  have hk : ∀ q ∈ ([(0, (2, 0, 0, [139])), (1, (0, 0, 1, [])), (2, (0, 1, 79, [])), (3, (0, 0, 78, [])), (4, (0, 0, 12801, [])), (8, (2, 0, 0, [164])), (9, (0, -1, 79, [])), (10, (0, -1, 79, [])), (12, (0, -1, 79, [])), (13, (0, -1, 79, [])), (14, (0, 1, 1, []))] : List (Nat × tv_T)), tv_ok ta q.2 (n_v vs q.1) := hk
  obtain ⟨t0, hk⟩ := List.forall_mem_cons.mp hk
  have t0 : tv_ok ta (2, 0, 0, [139]) (n_v vs 0) := t0
  have r0 : ta (v_ad (n_v vs 0)) = some 139 := tv_rg t0
  obtain ⟨t1, hk⟩ := List.forall_mem_cons.mp hk
  have t1 : tv_ok ta (0, 0, 1, []) (n_v vs 1) := t1
  have k1 : 0 ≤ v_iv (n_v vs 1) ∧ v_iv (n_v vs 1) ≤ 1 := tv_rng t1
  obtain ⟨t2, hk⟩ := List.forall_mem_cons.mp hk
  have t2 : tv_ok ta (0, 1, 79, []) (n_v vs 2) := t2
  have k2 : 1 ≤ v_iv (n_v vs 2) ∧ v_iv (n_v vs 2) ≤ 79 := tv_rng t2
  obtain ⟨t3, hk⟩ := List.forall_mem_cons.mp hk
  have t3 : tv_ok ta (0, 0, 78, []) (n_v vs 3) := t3
  have k3 : 0 ≤ v_iv (n_v vs 3) ∧ v_iv (n_v vs 3) ≤ 78 := tv_rng t3
  obtain ⟨t4, hk⟩ := List.forall_mem_cons.mp hk
  have t4 : tv_ok ta (0, 0, 12801, []) (n_v vs 4) := t4
  have k4 : 0 ≤ v_iv (n_v vs 4) ∧ v_iv (n_v vs 4) ≤ 12801 := tv_rng t4
  obtain ⟨t8, hk⟩ := List.forall_mem_cons.mp hk
  have t8 : tv_ok ta (2, 0, 0, [164]) (n_v vs 8) := t8
  have r8 : ta (v_ad (n_v vs 8)) = some 164 := tv_rg t8
  obtain ⟨t9, hk⟩ := List.forall_mem_cons.mp hk
  have t9 : tv_ok ta (0, -1, 79, []) (n_v vs 9) := t9
  have k9 : (-1) ≤ v_iv (n_v vs 9) ∧ v_iv (n_v vs 9) ≤ 79 := tv_rng t9
  obtain ⟨t10, hk⟩ := List.forall_mem_cons.mp hk
  have t10 : tv_ok ta (0, -1, 79, []) (n_v vs 10) := t10
  have k10 : (-1) ≤ v_iv (n_v vs 10) ∧ v_iv (n_v vs 10) ≤ 79 := tv_rng t10
  obtain ⟨t12, hk⟩ := List.forall_mem_cons.mp hk
  have t12 : tv_ok ta (0, -1, 79, []) (n_v vs 12) := t12
  have k12 : (-1) ≤ v_iv (n_v vs 12) ∧ v_iv (n_v vs 12) ≤ 79 := tv_rng t12
  obtain ⟨t13, hk⟩ := List.forall_mem_cons.mp hk
  have t13 : tv_ok ta (0, -1, 79, []) (n_v vs 13) := t13
  have k13 : (-1) ≤ v_iv (n_v vs 13) ∧ v_iv (n_v vs 13) ≤ 79 := tv_rng t13
  obtain ⟨t14, hk⟩ := List.forall_mem_cons.mp hk
  have t14 : tv_ok ta (0, 1, 1, []) (n_v vs 14) := t14
  have k14 : 1 ≤ v_iv (n_v vs 14) ∧ v_iv (n_v vs 14) ≤ 1 := tv_rng t14
  have hf : fc_ok [(100, [8, 3, 13], []), (9, [8, 0], [44]), (100, [8, 2, 13], []), (9, [8, 0], [44]), (7, [13, 12], [5]), (7, [13, 13], [5]), (10, [13, 8, 3], []), (9, [8, 0], [44]), (10, [12, 8, 2], []), (9, [8, 0], [44]), (7, [9, 10], [1]), (10, [10, 8, 3], []), (9, [8, 0], [44]), (10, [9, 8, 2], []), (9, [8, 0], [44]), (20, [4, 0, 1], [2, 44, 80, 160, 2])] ta ws vs := hf
  obtain ⟨ta1, w1, le1, ⟨_, s1⟩, hf⟩ := fc_us (by decide) hf
  have s1 : (∀ b j, w_el ws b j = if b = v_ad (n_v vs 8) ∧ j = (v_iv (n_v vs 3)).toNat then v_iv (n_v vs 13) else w_el w1 b j) ∧ ∀ b k, w_fd ws b k = w_fd w1 b k := s1
  obtain ⟨f1, hf⟩ := fc_un (by decide) hf
  have f1 : n_v vs 8 = w_fd w1 (v_ad (n_v vs 0)) 44 := f1
  obtain ⟨ta2, w2, le2, ⟨_, s2⟩, hf⟩ := fc_us (by decide) hf
  have s2 : (∀ b j, w_el w1 b j = if b = v_ad (n_v vs 8) ∧ j = (v_iv (n_v vs 2)).toNat then v_iv (n_v vs 13) else w_el w2 b j) ∧ ∀ b k, w_fd w1 b k = w_fd w2 b k := s2
  obtain ⟨f3, hf⟩ := fc_un (by decide) hf
  have f3 : n_v vs 8 = w_fd w2 (v_ad (n_v vs 0)) 44 := f3
  obtain ⟨f4, hf⟩ := fc_un (by decide) hf
  have f4 : v_iv (n_v vs 13) ≤ v_iv (n_v vs 12) := f4
  obtain ⟨f5, hf⟩ := fc_un (by decide) hf
  have f5 : v_iv (n_v vs 13) ≤ v_iv (n_v vs 13) := f5
  obtain ⟨f6, hf⟩ := fc_un (by decide) hf
  have f6 : v_iv (n_v vs 13) = w_el w2 (v_ad (n_v vs 8)) (v_iv (n_v vs 3)).toNat := f6
  obtain ⟨f7, hf⟩ := fc_un (by decide) hf
  have f7 : n_v vs 8 = w_fd w2 (v_ad (n_v vs 0)) 44 := f7
  obtain ⟨f8, hf⟩ := fc_un (by decide) hf
  have f8 : v_iv (n_v vs 12) = w_el w2 (v_ad (n_v vs 8)) (v_iv (n_v vs 2)).toNat := f8
  obtain ⟨f9, hf⟩ := fc_un (by decide) hf
  have f9 : n_v vs 8 = w_fd w2 (v_ad (n_v vs 0)) 44 := f9
  obtain ⟨f10, hf⟩ := fc_un (by decide) hf
  have f10 : v_iv (n_v vs 9) ≠ v_iv (n_v vs 10) := f10
  obtain ⟨f11, hf⟩ := fc_un (by decide) hf
  have f11 : v_iv (n_v vs 10) = w_el w2 (v_ad (n_v vs 8)) (v_iv (n_v vs 3)).toNat := f11
  obtain ⟨f12, hf⟩ := fc_un (by decide) hf
  have f12 : n_v vs 8 = w_fd w2 (v_ad (n_v vs 0)) 44 := f12
  obtain ⟨f13, hf⟩ := fc_un (by decide) hf
  have f13 : v_iv (n_v vs 9) = w_el w2 (v_ad (n_v vs 8)) (v_iv (n_v vs 2)).toNat := f13
  obtain ⟨f14, hf⟩ := fc_un (by decide) hf
  have f14 : n_v vs 8 = w_fd w2 (v_ad (n_v vs 0)) 44 := f14
  obtain ⟨f15, hf⟩ := fc_un (by decide) hf
  have f15 : 160 + 2 * w_sum w2 (w_ar w2 (n_v vs 0) 44) 80 + v_iv (n_v vs 1) + 1 ≤ v_iv (n_v vs 4) := f15
  have a8 : v_ad (n_v vs 8) = w_ar ws (n_v vs 0) 44 := by rw [f1]; show _ = v_ad (w_fd ws _ _); rw [s1.2]
  rw [a8] at s1
  rw [a8] at s2
  rw [a8] at f6
  rw [a8] at f8
  rw [a8] at f11
  rw [a8] at f13
  have c44 := r8; rw [a8] at c44
  have e1 : v_iv (n_v vs 12) = v_iv (n_v vs 9) := by rw [f8, f13]
  have e2 : v_iv (n_v vs 13) = v_iv (n_v vs 10) := by rw [f6, f11]
  have hne : (v_iv (n_v vs 2)).toNat ≠ (v_iv (n_v vs 3)).toNat := fun e => f10 (by rw [f13, f11, e])
  have g1 := sum_set s1.1 (n := 80) (by omega)
  have g2 := sum_set s2.1 (n := 80) (by omega)
  rw [el_ne s2.1 (Or.inr (fun e => hne e.symm)), ← f11] at g1
  rw [← f13] at g2
  have t2 : w_ar w2 (n_v vs 0) 44 = w_ar ws (n_v vs 0) 44 := by show v_ad (w_fd w2 _ _) = v_ad (w_fd ws _ _); rw [s1.2, s2.2]
  rw [t2] at f15
  have key : 160 + 2 * w_sum ws (w_ar ws (n_v vs 0) 44) 80 + v_iv (n_v vs 14) + 1 ≤ v_iv (n_v vs 4) := by omega
  have nf0 : fc_1 (20, [4, 0, 14], [2, 44, 80, 160, 2]) ws (vs) := by
    refine ⟨fun n hn => ?_, ?_⟩
    · have hn : n ∈ [4, 0, 14] := hn
      rw [hl]
      simp only [List.mem_cons, List.not_mem_nil, or_false] at hn
      show n < 16; omega
    · show 160 + 2 * w_sum ws (w_ar ws (n_v vs 0) 44) 80 + v_iv (n_v vs 14) + 1 ≤ v_iv (n_v vs 4)
      exact key
  refine ⟨fun q hq => (by cases hq), [], trivial, ?_, fun _ h => by cases h⟩
  rw [List.append_nil]
  exact List.forall_mem_cons.mpr ⟨⟨by decide, nf0⟩, fun _ h => by cases h⟩
def o_Mo_pieces_6 : or_T := (56, 16, [(0, (2, 0, 0, [139])), (1, (0, 0, 1, [])), (2, (0, 1, 79, [])), (3, (0, 0, 78, [])), (4, (0, 0, 12801, [])), (8, (2, 0, 0, [164])), (9, (0, -1, 79, [])), (10, (0, -1, 79, [])), (12, (0, -1, 78, [])), (13, (0, 0, 79, [])), (14, (0, 1, 1, []))], [(100, [8, 3, 12], []), (9, [8, 0], [44]), (100, [8, 2, 12], []), (9, [8, 0], [44]), (7, [12, 12], [5]), (7, [12, 13], [5]), (10, [13, 8, 3], []), (9, [8, 0], [44]), (10, [12, 8, 2], []), (9, [8, 0], [44]), (7, [9, 10], [1]), (10, [10, 8, 3], []), (9, [8, 0], [44]), (10, [9, 8, 2], []), (9, [8, 0], [44]), (20, [4, 0, 1], [2, 44, 80, 160, 2])], [], [], [(20, [4, 0, 14], [2, 44, 80, 160, 2])], [])
theorem oo_Mo_pieces_6 {kA : Nat → ClassId} : or_ok kA GG o_Mo_pieces_6 := by
  intro A ta ws vs hD hth hl hk hf
  have hl : vs.length = 16 := hl
  have hk : ∀ q ∈ ([(0, (2, 0, 0, [139])), (1, (0, 0, 1, [])), (2, (0, 1, 79, [])), (3, (0, 0, 78, [])), (4, (0, 0, 12801, [])), (8, (2, 0, 0, [164])), (9, (0, -1, 79, [])), (10, (0, -1, 79, [])), (12, (0, -1, 78, [])), (13, (0, 0, 79, [])), (14, (0, 1, 1, []))] : List (Nat × tv_T)), tv_ok ta q.2 (n_v vs q.1) := hk
  obtain ⟨t0, hk⟩ := List.forall_mem_cons.mp hk
  have t0 : tv_ok ta (2, 0, 0, [139]) (n_v vs 0) := t0
  have r0 : ta (v_ad (n_v vs 0)) = some 139 := tv_rg t0
  obtain ⟨t1, hk⟩ := List.forall_mem_cons.mp hk
  have t1 : tv_ok ta (0, 0, 1, []) (n_v vs 1) := t1
  have k1 : 0 ≤ v_iv (n_v vs 1) ∧ v_iv (n_v vs 1) ≤ 1 := tv_rng t1
  obtain ⟨t2, hk⟩ := List.forall_mem_cons.mp hk
  have t2 : tv_ok ta (0, 1, 79, []) (n_v vs 2) := t2
  have k2 : 1 ≤ v_iv (n_v vs 2) ∧ v_iv (n_v vs 2) ≤ 79 := tv_rng t2
  obtain ⟨t3, hk⟩ := List.forall_mem_cons.mp hk
  have t3 : tv_ok ta (0, 0, 78, []) (n_v vs 3) := t3
  have k3 : 0 ≤ v_iv (n_v vs 3) ∧ v_iv (n_v vs 3) ≤ 78 := tv_rng t3
  obtain ⟨t4, hk⟩ := List.forall_mem_cons.mp hk
  have t4 : tv_ok ta (0, 0, 12801, []) (n_v vs 4) := t4
  have k4 : 0 ≤ v_iv (n_v vs 4) ∧ v_iv (n_v vs 4) ≤ 12801 := tv_rng t4
  obtain ⟨t8, hk⟩ := List.forall_mem_cons.mp hk
  have t8 : tv_ok ta (2, 0, 0, [164]) (n_v vs 8) := t8
  have r8 : ta (v_ad (n_v vs 8)) = some 164 := tv_rg t8
  obtain ⟨t9, hk⟩ := List.forall_mem_cons.mp hk
  have t9 : tv_ok ta (0, -1, 79, []) (n_v vs 9) := t9
  have k9 : (-1) ≤ v_iv (n_v vs 9) ∧ v_iv (n_v vs 9) ≤ 79 := tv_rng t9
  obtain ⟨t10, hk⟩ := List.forall_mem_cons.mp hk
  have t10 : tv_ok ta (0, -1, 79, []) (n_v vs 10) := t10
  have k10 : (-1) ≤ v_iv (n_v vs 10) ∧ v_iv (n_v vs 10) ≤ 79 := tv_rng t10
  obtain ⟨t12, hk⟩ := List.forall_mem_cons.mp hk
  have t12 : tv_ok ta (0, -1, 78, []) (n_v vs 12) := t12
  have k12 : (-1) ≤ v_iv (n_v vs 12) ∧ v_iv (n_v vs 12) ≤ 78 := tv_rng t12
  obtain ⟨t13, hk⟩ := List.forall_mem_cons.mp hk
  have t13 : tv_ok ta (0, 0, 79, []) (n_v vs 13) := t13
  have k13 : 0 ≤ v_iv (n_v vs 13) ∧ v_iv (n_v vs 13) ≤ 79 := tv_rng t13
  obtain ⟨t14, hk⟩ := List.forall_mem_cons.mp hk
  have t14 : tv_ok ta (0, 1, 1, []) (n_v vs 14) := t14
  have k14 : 1 ≤ v_iv (n_v vs 14) ∧ v_iv (n_v vs 14) ≤ 1 := tv_rng t14
  have hf : fc_ok [(100, [8, 3, 12], []), (9, [8, 0], [44]), (100, [8, 2, 12], []), (9, [8, 0], [44]), (7, [12, 12], [5]), (7, [12, 13], [5]), (10, [13, 8, 3], []), (9, [8, 0], [44]), (10, [12, 8, 2], []), (9, [8, 0], [44]), (7, [9, 10], [1]), (10, [10, 8, 3], []), (9, [8, 0], [44]), (10, [9, 8, 2], []), (9, [8, 0], [44]), (20, [4, 0, 1], [2, 44, 80, 160, 2])] ta ws vs := hf
  obtain ⟨ta1, w1, le1, ⟨_, s1⟩, hf⟩ := fc_us (by decide) hf
  have s1 : (∀ b j, w_el ws b j = if b = v_ad (n_v vs 8) ∧ j = (v_iv (n_v vs 3)).toNat then v_iv (n_v vs 12) else w_el w1 b j) ∧ ∀ b k, w_fd ws b k = w_fd w1 b k := s1
  obtain ⟨f1, hf⟩ := fc_un (by decide) hf
  have f1 : n_v vs 8 = w_fd w1 (v_ad (n_v vs 0)) 44 := f1
  obtain ⟨ta2, w2, le2, ⟨_, s2⟩, hf⟩ := fc_us (by decide) hf
  have s2 : (∀ b j, w_el w1 b j = if b = v_ad (n_v vs 8) ∧ j = (v_iv (n_v vs 2)).toNat then v_iv (n_v vs 12) else w_el w2 b j) ∧ ∀ b k, w_fd w1 b k = w_fd w2 b k := s2
  obtain ⟨f3, hf⟩ := fc_un (by decide) hf
  have f3 : n_v vs 8 = w_fd w2 (v_ad (n_v vs 0)) 44 := f3
  obtain ⟨f4, hf⟩ := fc_un (by decide) hf
  have f4 : v_iv (n_v vs 12) ≤ v_iv (n_v vs 12) := f4
  obtain ⟨f5, hf⟩ := fc_un (by decide) hf
  have f5 : v_iv (n_v vs 12) ≤ v_iv (n_v vs 13) := f5
  obtain ⟨f6, hf⟩ := fc_un (by decide) hf
  have f6 : v_iv (n_v vs 13) = w_el w2 (v_ad (n_v vs 8)) (v_iv (n_v vs 3)).toNat := f6
  obtain ⟨f7, hf⟩ := fc_un (by decide) hf
  have f7 : n_v vs 8 = w_fd w2 (v_ad (n_v vs 0)) 44 := f7
  obtain ⟨f8, hf⟩ := fc_un (by decide) hf
  have f8 : v_iv (n_v vs 12) = w_el w2 (v_ad (n_v vs 8)) (v_iv (n_v vs 2)).toNat := f8
  obtain ⟨f9, hf⟩ := fc_un (by decide) hf
  have f9 : n_v vs 8 = w_fd w2 (v_ad (n_v vs 0)) 44 := f9
  obtain ⟨f10, hf⟩ := fc_un (by decide) hf
  have f10 : v_iv (n_v vs 9) ≠ v_iv (n_v vs 10) := f10
  obtain ⟨f11, hf⟩ := fc_un (by decide) hf
  have f11 : v_iv (n_v vs 10) = w_el w2 (v_ad (n_v vs 8)) (v_iv (n_v vs 3)).toNat := f11
  obtain ⟨f12, hf⟩ := fc_un (by decide) hf
  have f12 : n_v vs 8 = w_fd w2 (v_ad (n_v vs 0)) 44 := f12
  obtain ⟨f13, hf⟩ := fc_un (by decide) hf
  have f13 : v_iv (n_v vs 9) = w_el w2 (v_ad (n_v vs 8)) (v_iv (n_v vs 2)).toNat := f13
  obtain ⟨f14, hf⟩ := fc_un (by decide) hf
  have f14 : n_v vs 8 = w_fd w2 (v_ad (n_v vs 0)) 44 := f14
  obtain ⟨f15, hf⟩ := fc_un (by decide) hf
  have f15 : 160 + 2 * w_sum w2 (w_ar w2 (n_v vs 0) 44) 80 + v_iv (n_v vs 1) + 1 ≤ v_iv (n_v vs 4) := f15
  have a8 : v_ad (n_v vs 8) = w_ar ws (n_v vs 0) 44 := by rw [f1]; show _ = v_ad (w_fd ws _ _); rw [s1.2]
  rw [a8] at s1
  rw [a8] at s2
  rw [a8] at f6
  rw [a8] at f8
  rw [a8] at f11
  rw [a8] at f13
  have c44 := r8; rw [a8] at c44
  have e1 : v_iv (n_v vs 12) = v_iv (n_v vs 9) := by rw [f8, f13]
  have e2 : v_iv (n_v vs 13) = v_iv (n_v vs 10) := by rw [f6, f11]
  have hne : (v_iv (n_v vs 2)).toNat ≠ (v_iv (n_v vs 3)).toNat := fun e => f10 (by rw [f13, f11, e])
  have g1 := sum_set s1.1 (n := 80) (by omega)
  have g2 := sum_set s2.1 (n := 80) (by omega)
  rw [el_ne s2.1 (Or.inr (fun e => hne e.symm)), ← f11] at g1
  rw [← f13] at g2
  have t2 : w_ar w2 (n_v vs 0) 44 = w_ar ws (n_v vs 0) 44 := by show v_ad (w_fd w2 _ _) = v_ad (w_fd ws _ _); rw [s1.2, s2.2]
  rw [t2] at f15
  have key : 160 + 2 * w_sum ws (w_ar ws (n_v vs 0) 44) 80 + v_iv (n_v vs 14) + 1 ≤ v_iv (n_v vs 4) := by omega
  have nf0 : fc_1 (20, [4, 0, 14], [2, 44, 80, 160, 2]) ws (vs) := by
    refine ⟨fun n hn => ?_, ?_⟩
    · have hn : n ∈ [4, 0, 14] := hn
      rw [hl]
      simp only [List.mem_cons, List.not_mem_nil, or_false] at hn
      show n < 16; omega
    · show 160 + 2 * w_sum ws (w_ar ws (n_v vs 0) 44) 80 + v_iv (n_v vs 14) + 1 ≤ v_iv (n_v vs 4)
      exact key
  refine ⟨fun q hq => (by cases hq), [], trivial, ?_, fun _ h => by cases h⟩
  rw [List.append_nil]
  exact List.forall_mem_cons.mpr ⟨⟨by decide, nf0⟩, fun _ h => by cases h⟩
def n_Mo_pieces_an : List an_T := [(2, [(0, (2, 0, 0, [139])), (1, (0, 0, 80, []))], [], (0, 0), [(0, 0, 99998), (1, 1, 80), (0, 0, 100000), (0, 0, 0), (0, 0, 0), (0, 0, 0), (0, 0, 0)], [], [], [], 0, [], []), (38, [(0, (2, 0, 0, [139])), (1, (0, 0, 1, []))], [], (0, 0), [(0, 0, 99962), (2, 2, 0), (0, 0, 100000), (0, 0, 0), (0, 0, 0), (0, 0, 0), (0, 0, 0)], [], [], [], 0, [(0, 0, 12801, [])], [(20, [2, 0, 1], [1, 44, 80, 160, 2])]), (46, [(0, (2, 0, 0, [139])), (1, (0, 0, 1, [])), (2, (0, 0, 80, []))], [], (0, 0), [(0, 0, 99962), (2, 3, 0), (0, 0, 99954), (1, 2, 80), (0, 0, 100000), (0, 0, 0), (0, 0, 0)], [(1, 2, -1000000000000, 0)], [], [], 0, [(0, 0, 12801, [])], [(20, [3, 0, 1], [2, 44, 80, 160, 2])]), (56, [(0, (2, 0, 0, [139])), (1, (0, 0, 1, [])), (2, (0, 0, 79, [])), (3, (0, 0, 79, []))], [], (0, 0), [(0, 0, 99962), (2, 4, 0), (0, 0, 99954), (1, 2, 80), (0, 0, 99944), (1, 3, 79), (0, 0, 100000)], [(1, 2, -1000000000000, 0), (1, 3, -1000000000000, 1), (3, 2, -1000000000000, 0)], [], [], 0, [(0, 0, 12801, [])], [(20, [4, 0, 1], [2, 44, 80, 160, 2])])]
def t_Mo_pieces_ct : ct_L := [(0, 547, e_Mo_min), (1, 659, e_Mo_shareNew)]
set_option maxRecDepth 100000 in
theorem c_Mo_pieces {l : Launch} {D : va_G} {kA : Nat → ClassId} (h_Mo_min : ct_ok l D kA GG y_Mo_min z_Mo_min e_Mo_min) (h_Mo_shareNew : ct_ok l D kA GG y_Mo_shareNew z_Mo_shareNew e_Mo_shareNew) : ct_ok l D kA GG y_Mo_pieces z_Mo_pieces e_Mo_pieces := chk_all_ok (FT := [(84, 13, 43), (87, 13, 44), (597, 13, 32)]) (PT := []) (CT := t_Mo_pieces_ct) (KT := []) (NT := []) (AN := n_Mo_pieces_an) (OT := [o_Mo_pieces_0, o_Mo_pieces_1, o_Mo_pieces_2, o_Mo_pieces_3, o_Mo_pieces_4, o_Mo_pieces_5, o_Mo_pieces_6]) 7 464 (List.forall_mem_cons.mpr ⟨oo_Mo_pieces_0, List.forall_mem_cons.mpr ⟨oo_Mo_pieces_1, List.forall_mem_cons.mpr ⟨oo_Mo_pieces_2, List.forall_mem_cons.mpr ⟨oo_Mo_pieces_3, List.forall_mem_cons.mpr ⟨oo_Mo_pieces_4, List.forall_mem_cons.mpr ⟨oo_Mo_pieces_5, List.forall_mem_cons.mpr ⟨oo_Mo_pieces_6, List.forall_mem_nil _⟩⟩⟩⟩⟩⟩⟩) (by decide +kernel) ⟨List.forall_mem_cons.mpr ⟨gf_Mo_84, List.forall_mem_cons.mpr ⟨gf_Mo_87, List.forall_mem_cons.mpr ⟨gf_Mo_597, List.forall_mem_nil _⟩⟩⟩, List.forall_mem_nil _, List.forall_mem_cons.mpr ⟨cl_static (y := y_Mo_min) h_Mo_min wm_3174 wm_9 wm_3172 wm_3173 ⟨by decide, by decide, by decide +kernel⟩ (by decide), List.forall_mem_cons.mpr ⟨cl_virtual (y := y_Mo_shareNew) (ci := 13) rfl rfl ⟨_, _, rfl⟩ (by decide +kernel) h_Mo_shareNew wm_3211 wm_9 wm_3208 wm_3210 wv_15_11 ⟨by decide, by decide, by decide +kernel⟩ (by decide), List.forall_mem_nil _⟩⟩, List.forall_mem_nil _, List.forall_mem_nil _⟩ (by decide +kernel)
