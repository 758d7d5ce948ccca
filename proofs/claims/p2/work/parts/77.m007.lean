set_option maxHeartbeats 4000000 in
theorem vc_Mo_turnEdges_0_0 (x2 : Int) (x3 : Int) (all_0 : Int → Int) (r_0 : Int) (strongOf_0 : Int → Int) (turned_0 : Int → Int) (k2 : 0 ≤ x2 ∧ x2 ≤ 24) (k3 : 0 ≤ x3 ∧ x3 ≤ 0) (f0 : SGR (r_0) (all_0)) (f1 : STG (r_0) (all_0) (strongOf_0) (x2)) (hK_0_18 : ∀ j : Int, 0 ≤ j → j < 24 → (-1) ≤ strongOf_0 j ∧ strongOf_0 j ≤ 23) (hK_0_95 : ∀ j : Int, 0 ≤ j → j < 48 → 0 ≤ turned_0 j ∧ turned_0 j ≤ 1) : TZ (turned_0) (x3) := by
  first
    | (intro i a b; exfalso; omega)
    | exact tz_step ‹TZ _ _› (by omega) (by assumption) (by omega) (by omega)
def o_Mo_turnEdges_0 : or_T := (8, 4, [(0, (2, 0, 0, [150])), (2, (0, 0, 24, [])), (3, (0, 0, 0, []))], [(20, [0], [60, 1, 1, 122, 5, 2]), (20, [0, 2], [60, 1, 2, 282, 5, 2, 18])], [], [], [(20, [0, 3], [60, 0, 1, 285, 95]), (24, [0, 0], [])], [], [])
theorem oo_Mo_turnEdges_0 {kA : Nat → ClassId} : or_ok PRD kA GG o_Mo_turnEdges_0 := by
  intro A ta ws vs hD hth hl hk hds hf
  have hl : vs.length = 4 := hl
  have hk : ∀ q ∈ ([(0, (2, 0, 0, [150])), (2, (0, 0, 24, [])), (3, (0, 0, 0, []))] : List (Nat × tv_T)), tv_ok ta q.2 (n_v vs q.1) := hk
  obtain ⟨t0, hk⟩ := List.forall_mem_cons.mp hk
  have t0 : tv_ok ta (2, 0, 0, [150]) (n_v vs 0) := t0
  have r0 : ta (v_ad (n_v vs 0)) = some 150 := tv_rg t0
  obtain ⟨t2, hk⟩ := List.forall_mem_cons.mp hk
  have t2 : tv_ok ta (0, 0, 24, []) (n_v vs 2) := t2
  have k2 : 0 ≤ v_iv (n_v vs 2) ∧ v_iv (n_v vs 2) ≤ 24 := tv_rng t2
  obtain ⟨t3, hk⟩ := List.forall_mem_cons.mp hk
  have t3 : tv_ok ta (0, 0, 0, []) (n_v vs 3) := t3
  have k3 : 0 ≤ v_iv (n_v vs 3) ∧ v_iv (n_v vs 3) ≤ 0 := tv_rng t3
  have hf : fc_ok PRD [(20, [0], [60, 1, 1, 122, 5, 2]), (20, [0, 2], [60, 1, 2, 282, 5, 2, 18])] ta ws vs := hf
  obtain ⟨f0, hf⟩ := fc_un (show (20 : Nat) < 100 from by decide) hf
  have f0 : SGR (w_fi ws (n_v vs 0) 5) (w_ei ws (w_ar ws (n_v vs 0) 2)) := f0
  obtain ⟨f1, hf⟩ := fc_un (show (20 : Nat) < 100 from by decide) hf
  have f1 : STG (w_fi ws (n_v vs 0) 5) (w_ei ws (w_ar ws (n_v vs 0) 2)) (w_ei ws (w_ar ws (n_v vs 0) 18)) (v_iv (n_v vs 2)) := f1
  have cr_0_2 : ta (w_ar ws (n_v vs 0) 2) = some 152 := tv_rg (th_fd hD hth r0 (g := GG_150) rfl (k := 2) (t := (2, 0, 0, [152])) rfl rfl)
  have cr_0_18 : ta (w_ar ws (n_v vs 0) 18) = some 158 := tv_rg (th_fd hD hth r0 (g := GG_150) rfl (k := 18) (t := (2, 0, 0, [158])) rfl rfl)
  have cr_0_95 : ta (w_ar ws (n_v vs 0) 95) = some 216 := tv_rg (th_fd hD hth r0 (g := GG_150) rfl (k := 95) (t := (2, 0, 0, [216])) rfl rfl)
  have hK_0_18 : ∀ j : Int, 0 ≤ j → j < 24 → (-1) ≤ w_ei ws (w_ar ws (n_v vs 0) 18) j ∧ w_ei ws (w_ar ws (n_v vs 0) 18) j ≤ 23 := fun j h0 h1 => th_el hD hth cr_0_18 (kd := 0) (n := 24) (m := 24) (lo := (-1)) (hi := 23) (rs := []) (L := []) rfl (by decide) (j := j.toNat) (by omega)
  have hK_0_95 : ∀ j : Int, 0 ≤ j → j < 48 → 0 ≤ w_ei ws (w_ar ws (n_v vs 0) 95) j ∧ w_ei ws (w_ar ws (n_v vs 0) 95) j ≤ 1 := fun j h0 h1 => th_el hD hth cr_0_95 (kd := 2) (n := 48) (m := 48) (lo := 0) (hi := 1) (rs := []) (L := []) rfl (by decide) (j := j.toNat) (by omega)
  have nf0 : fc_1 PRD (20, [0, 3], [60, 0, 1, 285, 95]) ws (vs) := by
    refine ⟨fun n hn => ?_, ?_⟩
    · have hn : n ∈ [0, 3] := hn
      rw [hl]
      simp only [List.mem_cons, List.not_mem_nil, or_false] at hn
      show n < 4; omega
    · show TZ (w_ei ws (w_ar ws (n_v vs 0) 95)) (v_iv (n_v vs 3))
      exact vc_Mo_turnEdges_0_0 (v_iv (n_v vs 2)) (v_iv (n_v vs 3)) (w_ei ws (w_ar ws (n_v vs 0) 2)) (w_fi ws (n_v vs 0) 5) (w_ei ws (w_ar ws (n_v vs 0) 18)) (w_ei ws (w_ar ws (n_v vs 0) 95)) k2 k3 f0 f1 hK_0_18 hK_0_95
  have nf1 : fc_1 PRD (24, [0, 0], []) ws (vs) := by
    refine ⟨fun n hn => ?_, ?_⟩
    · have hn : n ∈ [0, 0] := hn
      rw [hl]
      simp only [List.mem_cons, List.not_mem_nil, or_false] at hn
      show n < 4; omega
    · show n_v vs 0 = n_v vs 0
      first | rfl | simp only [true_and]
  refine ⟨(fun _ h => (by cases h)), [], trivial, ?_, (fun _ h => (by cases h))⟩
  rw [List.append_nil]
  exact List.forall_mem_cons.mpr ⟨⟨show (20 : Nat) < 100 from by decide, nf0⟩, List.forall_mem_cons.mpr ⟨⟨show (24 : Nat) < 100 from by decide, nf1⟩, (fun _ h => (by cases h))⟩⟩
set_option maxHeartbeats 4000000 in
theorem vc_Mo_turnEdges_1_0 (x2 : Int) (x3 : Int) (x4 : Int) (x5 : Int) (all_0 : Int → Int) (r_0 : Int) (strongOf_0 : Int → Int) (turned_0 : Int → Int) (k2 : 0 ≤ x2 ∧ x2 ≤ 24) (k3 : 0 ≤ x3 ∧ x3 ≤ 48) (k4 : 0 ≤ x4 ∧ x4 ≤ 48) (k5 : 0 ≤ x5 ∧ x5 ≤ 0) (d0 : x4 + 0 ≤ x3 ∧ x3 ≤ x4 + 4294967296) (f0 : x4 ≤ x3) (f1 : 1 * x4 + ((-1) * all_0 (r_0 + 1) + 0) ≤ 0) (f2 : (-1) * x4 + (1 * all_0 (r_0 + 1) + 0) ≤ 0) (f3 : SGR (r_0) (all_0)) (f4 : STG (r_0) (all_0) (strongOf_0) (x2)) (f5 : TZ (turned_0) (x3)) (hK_0_18 : ∀ j : Int, 0 ≤ j → j < 24 → (-1) ≤ strongOf_0 j ∧ strongOf_0 j ≤ 23) (hK_0_95 : ∀ j : Int, 0 ≤ j → j < 48 → 0 ≤ turned_0 j ∧ turned_0 j ≤ 1) : TEI (r_0) (all_0) (strongOf_0) (turned_0) (x5) := by
  first
    | exact tei_start ‹STG _ _ _ _› ‹TZ _ _› (by omega) (by omega)
    | (try simp only [Int.add_zero] at *
       exact tei_none ‹STG _ _ _ _› ‹TEI _ _ _ _ _› (fun a a0 a1 a2 => ‹MBC _ _ _ _ _› a a0 (by omega) a2) (show members_0 < 2 by omega) (by omega))
    | exact tej_end ‹STG _ _ _ _› ‹TEJ _ _ _ _ _ _ _ _› (by omega) ‹MBF _ _ _ _ _ _› ‹BST _ _ _› (by omega) (by omega) (by omega)
def o_Mo_turnEdges_1 : or_T := (31, 6, [(0, (2, 0, 0, [150])), (1, (2, 0, 0, [150])), (2, (0, 0, 24, [])), (3, (0, 0, 48, [])), (4, (0, 0, 48, [])), (5, (0, 0, 0, []))], [(7, [3, 4], [3]), (20, [4, 1], [30, 0, 1, 0, 0, -1, 3, 2005001]), (20, [4, 1], [30, 0, -1, 0, 0, 1, 3, 2005001]), (20, [1], [60, 1, 1, 122, 5, 2]), (20, [1, 2], [60, 1, 2, 282, 5, 2, 18]), (20, [1, 3], [60, 0, 1, 285, 95]), (24, [0, 1], [])], [], [], [(20, [1, 5], [60, 1, 3, 286, 5, 2, 18, 95])], [], [(3, 4, 0, 4294967296)])
theorem oo_Mo_turnEdges_1 {kA : Nat → ClassId} : or_ok PRD kA GG o_Mo_turnEdges_1 := by
  intro A ta ws vs hD hth hl hk hds hf
  have hl : vs.length = 6 := hl
  have hk : ∀ q ∈ ([(0, (2, 0, 0, [150])), (1, (2, 0, 0, [150])), (2, (0, 0, 24, [])), (3, (0, 0, 48, [])), (4, (0, 0, 48, [])), (5, (0, 0, 0, []))] : List (Nat × tv_T)), tv_ok ta q.2 (n_v vs q.1) := hk
  obtain ⟨t0, hk⟩ := List.forall_mem_cons.mp hk
  have t0 : tv_ok ta (2, 0, 0, [150]) (n_v vs 0) := t0
  have r0 : ta (v_ad (n_v vs 0)) = some 150 := tv_rg t0
  obtain ⟨t1, hk⟩ := List.forall_mem_cons.mp hk
  have t1 : tv_ok ta (2, 0, 0, [150]) (n_v vs 1) := t1
  have r1 : ta (v_ad (n_v vs 1)) = some 150 := tv_rg t1
  obtain ⟨t2, hk⟩ := List.forall_mem_cons.mp hk
  have t2 : tv_ok ta (0, 0, 24, []) (n_v vs 2) := t2
  have k2 : 0 ≤ v_iv (n_v vs 2) ∧ v_iv (n_v vs 2) ≤ 24 := tv_rng t2
  obtain ⟨t3, hk⟩ := List.forall_mem_cons.mp hk
  have t3 : tv_ok ta (0, 0, 48, []) (n_v vs 3) := t3
  have k3 : 0 ≤ v_iv (n_v vs 3) ∧ v_iv (n_v vs 3) ≤ 48 := tv_rng t3
  obtain ⟨t4, hk⟩ := List.forall_mem_cons.mp hk
  have t4 : tv_ok ta (0, 0, 48, []) (n_v vs 4) := t4
  have k4 : 0 ≤ v_iv (n_v vs 4) ∧ v_iv (n_v vs 4) ≤ 48 := tv_rng t4
  obtain ⟨t5, hk⟩ := List.forall_mem_cons.mp hk
  have t5 : tv_ok ta (0, 0, 0, []) (n_v vs 5) := t5
  have k5 : 0 ≤ v_iv (n_v vs 5) ∧ v_iv (n_v vs 5) ≤ 0 := tv_rng t5
  have hds : ∀ q ∈ ([(3, 4, 0, 4294967296)] : List of_T), n_iv vs q.2.1 + q.2.2.1 ≤ n_iv vs q.1 ∧ n_iv vs q.1 ≤ n_iv vs q.2.1 + q.2.2.2 := hds
  obtain ⟨d0, hds⟩ := List.forall_mem_cons.mp hds
  have d0 : v_iv (n_v vs 4) + 0 ≤ v_iv (n_v vs 3) ∧ v_iv (n_v vs 3) ≤ v_iv (n_v vs 4) + 4294967296 := d0
  have hf : fc_ok PRD [(7, [3, 4], [3]), (20, [4, 1], [30, 0, 1, 0, 0, -1, 3, 2005001]), (20, [4, 1], [30, 0, -1, 0, 0, 1, 3, 2005001]), (20, [1], [60, 1, 1, 122, 5, 2]), (20, [1, 2], [60, 1, 2, 282, 5, 2, 18]), (20, [1, 3], [60, 0, 1, 285, 95]), (24, [0, 1], [])] ta ws vs := hf
  obtain ⟨f0, hf⟩ := fc_un (show (7 : Nat) < 100 from by decide) hf
  have f0 : v_iv (n_v vs 4) ≤ v_iv (n_v vs 3) := f0
  obtain ⟨f1, hf⟩ := fc_un (show (20 : Nat) < 100 from by decide) hf
  have f1 : 1 * v_iv (n_v vs 4) + ((-1) * w_el ws (w_ar ws (n_v vs 1) 2) (w_fi ws (n_v vs 1) 5 + 1).toNat + 0) ≤ 0 := f1
  obtain ⟨f2, hf⟩ := fc_un (show (20 : Nat) < 100 from by decide) hf
  have f2 : (-1) * v_iv (n_v vs 4) + (1 * w_el ws (w_ar ws (n_v vs 1) 2) (w_fi ws (n_v vs 1) 5 + 1).toNat + 0) ≤ 0 := f2
  obtain ⟨f3, hf⟩ := fc_un (show (20 : Nat) < 100 from by decide) hf
  have f3 : SGR (w_fi ws (n_v vs 1) 5) (w_ei ws (w_ar ws (n_v vs 1) 2)) := f3
  obtain ⟨f4, hf⟩ := fc_un (show (20 : Nat) < 100 from by decide) hf
  have f4 : STG (w_fi ws (n_v vs 1) 5) (w_ei ws (w_ar ws (n_v vs 1) 2)) (w_ei ws (w_ar ws (n_v vs 1) 18)) (v_iv (n_v vs 2)) := f4
  obtain ⟨f5, hf⟩ := fc_un (show (20 : Nat) < 100 from by decide) hf
  have f5 : TZ (w_ei ws (w_ar ws (n_v vs 1) 95)) (v_iv (n_v vs 3)) := f5
  obtain ⟨f6, hf⟩ := fc_un (show (24 : Nat) < 100 from by decide) hf
  have f6 : n_v vs 0 = n_v vs 1 := f6
  have q1 : n_v vs 1 = n_v vs 0 := f6.symm
  rw [q1] at f1
  rw [q1] at f2
  rw [q1] at f3
  rw [q1] at f4
  rw [q1] at f5
  have cr_0_2 : ta (w_ar ws (n_v vs 0) 2) = some 152 := tv_rg (th_fd hD hth r0 (g := GG_150) rfl (k := 2) (t := (2, 0, 0, [152])) rfl rfl)
  have cr_0_18 : ta (w_ar ws (n_v vs 0) 18) = some 158 := tv_rg (th_fd hD hth r0 (g := GG_150) rfl (k := 18) (t := (2, 0, 0, [158])) rfl rfl)
  have cr_0_95 : ta (w_ar ws (n_v vs 0) 95) = some 216 := tv_rg (th_fd hD hth r0 (g := GG_150) rfl (k := 95) (t := (2, 0, 0, [216])) rfl rfl)
  have hK_0_18 : ∀ j : Int, 0 ≤ j → j < 24 → (-1) ≤ w_ei ws (w_ar ws (n_v vs 0) 18) j ∧ w_ei ws (w_ar ws (n_v vs 0) 18) j ≤ 23 := fun j h0 h1 => th_el hD hth cr_0_18 (kd := 0) (n := 24) (m := 24) (lo := (-1)) (hi := 23) (rs := []) (L := []) rfl (by decide) (j := j.toNat) (by omega)
  have hK_0_95 : ∀ j : Int, 0 ≤ j → j < 48 → 0 ≤ w_ei ws (w_ar ws (n_v vs 0) 95) j ∧ w_ei ws (w_ar ws (n_v vs 0) 95) j ≤ 1 := fun j h0 h1 => th_el hD hth cr_0_95 (kd := 2) (n := 48) (m := 48) (lo := 0) (hi := 1) (rs := []) (L := []) rfl (by decide) (j := j.toNat) (by omega)
  have nf0 : fc_1 PRD (20, [1, 5], [60, 1, 3, 286, 5, 2, 18, 95]) ws (vs) := by
    refine ⟨fun n hn => ?_, ?_⟩
    · have hn : n ∈ [1, 5] := hn
      rw [hl]
      simp only [List.mem_cons, List.not_mem_nil, or_false] at hn
      show n < 6; omega
    · show TEI (w_fi ws (n_v vs 1) 5) (w_ei ws (w_ar ws (n_v vs 1) 2)) (w_ei ws (w_ar ws (n_v vs 1) 18)) (w_ei ws (w_ar ws (n_v vs 1) 95)) (v_iv (n_v vs 5))
      rw [q1]
      exact vc_Mo_turnEdges_1_0 (v_iv (n_v vs 2)) (v_iv (n_v vs 3)) (v_iv (n_v vs 4)) (v_iv (n_v vs 5)) (w_ei ws (w_ar ws (n_v vs 0) 2)) (w_fi ws (n_v vs 0) 5) (w_ei ws (w_ar ws (n_v vs 0) 18)) (w_ei ws (w_ar ws (n_v vs 0) 95)) k2 k3 k4 k5 d0 f0 f1 f2 f3 f4 f5 hK_0_18 hK_0_95
  refine ⟨(fun _ h => (by cases h)), [], trivial, ?_, (fun _ h => (by cases h))⟩
  rw [List.append_nil]
  exact List.forall_mem_cons.mpr ⟨⟨show (20 : Nat) < 100 from by decide, nf0⟩, (fun _ h => (by cases h))⟩
set_option maxHeartbeats 4000000 in
theorem vc_Mo_turnEdges_2_0 (x2 : Int) (x3 : Int) (x4 : Int) (x6 : Int) (x7 : Int) (all_0 : Int → Int) (r_0 : Int) (strongOf_0 : Int → Int) (all_1 : Int → Int) (r_1 : Int) (strongOf_1 : Int → Int) (turned_1 : Int → Int) (turned_0 : Int → Int) (k2 : 0 ≤ x2 ∧ x2 ≤ 24) (k3 : 0 ≤ x3 ∧ x3 ≤ 47) (k4 : 1 ≤ x4 ∧ x4 ≤ 48) (k6 : 0 ≤ x6 ∧ x6 ≤ 0) (k7 : 1 ≤ x7 ∧ x7 ≤ 48) (d0 : x3 + 1 ≤ x7 ∧ x7 ≤ x3 + 1) (d1 : x4 + (-4294967296) ≤ x7 ∧ x7 ≤ x4 + 0) (d2 : x4 + (-4294967296) ≤ x3 ∧ x3 ≤ x4 + (-1)) (f0 : x7 = x3 + 1) (f1 : 1 * x4 + ((-1) * all_0 (r_0 + 1) + 0) ≤ 0) (f2 : (-1) * x4 + (1 * all_0 (r_0 + 1) + 0) ≤ 0) (f3 : SGR (r_0) (all_0)) (f4 : STG (r_0) (all_0) (strongOf_0) (x2)) (f8 : x3 < x4) (f9 : 1 * x4 + ((-1) * all_1 (r_0 + 1) + 0) ≤ 0) (f10 : (-1) * x4 + (1 * all_1 (r_0 + 1) + 0) ≤ 0) (f11 : SGR (r_1) (all_1)) (f12 : STG (r_1) (all_1) (strongOf_1) (x2)) (f13 : TZ (turned_1) (x3)) (fe_0_5_1 : r_0 = r_1) (hE_0_2_1 : ∀ j : Int, all_0 j = all_1 j) (hE_0_18_1 : ∀ j : Int, strongOf_0 j = strongOf_1 j) (hK_0_18 : ∀ j : Int, 0 ≤ j → j < 24 → (-1) ≤ strongOf_0 j ∧ strongOf_0 j ≤ 23) (hE_0_95_1 : ∀ j : Int, 0 ≤ j → (j = x3 → turned_0 j = x6) ∧ (j ≠ x3 → turned_0 j = turned_1 j)) (hK_0_95 : ∀ j : Int, 0 ≤ j → j < 48 → 0 ≤ turned_0 j ∧ turned_0 j ≤ 1) : TZ (turned_0) (x7) := by
  subst fe_0_5_1
  have e_hE_0_2_1 := funext hE_0_2_1; subst e_hE_0_2_1
  have e_hE_0_18_1 := funext hE_0_18_1; subst e_hE_0_18_1
  first
    | (intro i a b; exfalso; omega)
    | exact tz_step ‹TZ _ _› (by omega) (by assumption) (by omega) (by omega)
def o_Mo_turnEdges_2 : or_T := (8, 8, [(0, (2, 0, 0, [150])), (1, (2, 0, 0, [150])), (2, (0, 0, 24, [])), (3, (0, 0, 47, [])), (4, (0, 1, 48, [])), (5, (2, 0, 0, [216])), (6, (0, 0, 0, [])), (7, (0, 1, 48, []))], [(6, [7, 3], [1]), (20, [4, 1], [30, 0, 1, 0, 0, -1, 3, 2005001]), (20, [4, 1], [30, 0, -1, 0, 0, 1, 3, 2005001]), (20, [1], [60, 1, 1, 122, 5, 2]), (20, [1, 2], [60, 1, 2, 282, 5, 2, 18]), (24, [0, 1], []), (100, [5, 3, 6], []), (9, [5, 1], [95]), (7, [3, 4], [2]), (20, [4, 1], [30, 0, 1, 0, 0, -1, 3, 2005001]), (20, [4, 1], [30, 0, -1, 0, 0, 1, 3, 2005001]), (20, [1], [60, 1, 1, 122, 5, 2]), (20, [1, 2], [60, 1, 2, 282, 5, 2, 18]), (20, [1, 3], [60, 0, 1, 285, 95])], [], [], [(20, [1, 7], [60, 0, 1, 285, 95])], [], [(7, 3, 1, 1), (7, 4, -4294967296, 0), (3, 4, -4294967296, -1)])
theorem oo_Mo_turnEdges_2 {kA : Nat → ClassId} : or_ok PRD kA GG o_Mo_turnEdges_2 := by
  intro A ta ws vs hD hth hl hk hds hf
  have hl : vs.length = 8 := hl
  have hk : ∀ q ∈ ([(0, (2, 0, 0, [150])), (1, (2, 0, 0, [150])), (2, (0, 0, 24, [])), (3, (0, 0, 47, [])), (4, (0, 1, 48, [])), (5, (2, 0, 0, [216])), (6, (0, 0, 0, [])), (7, (0, 1, 48, []))] : List (Nat × tv_T)), tv_ok ta q.2 (n_v vs q.1) := hk
  obtain ⟨t0, hk⟩ := List.forall_mem_cons.mp hk
  have t0 : tv_ok ta (2, 0, 0, [150]) (n_v vs 0) := t0
  have r0 : ta (v_ad (n_v vs 0)) = some 150 := tv_rg t0
  obtain ⟨t1, hk⟩ := List.forall_mem_cons.mp hk
  have t1 : tv_ok ta (2, 0, 0, [150]) (n_v vs 1) := t1
  have r1 : ta (v_ad (n_v vs 1)) = some 150 := tv_rg t1
  obtain ⟨t2, hk⟩ := List.forall_mem_cons.mp hk
  have t2 : tv_ok ta (0, 0, 24, []) (n_v vs 2) := t2
  have k2 : 0 ≤ v_iv (n_v vs 2) ∧ v_iv (n_v vs 2) ≤ 24 := tv_rng t2
  obtain ⟨t3, hk⟩ := List.forall_mem_cons.mp hk
  have t3 : tv_ok ta (0, 0, 47, []) (n_v vs 3) := t3
  have k3 : 0 ≤ v_iv (n_v vs 3) ∧ v_iv (n_v vs 3) ≤ 47 := tv_rng t3
  obtain ⟨t4, hk⟩ := List.forall_mem_cons.mp hk
  have t4 : tv_ok ta (0, 1, 48, []) (n_v vs 4) := t4
  have k4 : 1 ≤ v_iv (n_v vs 4) ∧ v_iv (n_v vs 4) ≤ 48 := tv_rng t4
  obtain ⟨t5, hk⟩ := List.forall_mem_cons.mp hk
  have t5 : tv_ok ta (2, 0, 0, [216]) (n_v vs 5) := t5
  have r5 : ta (v_ad (n_v vs 5)) = some 216 := tv_rg t5
  obtain ⟨t6, hk⟩ := List.forall_mem_cons.mp hk
  have t6 : tv_ok ta (0, 0, 0, []) (n_v vs 6) := t6
  have k6 : 0 ≤ v_iv (n_v vs 6) ∧ v_iv (n_v vs 6) ≤ 0 := tv_rng t6
  obtain ⟨t7, hk⟩ := List.forall_mem_cons.mp hk
  have t7 : tv_ok ta (0, 1, 48, []) (n_v vs 7) := t7
  have k7 : 1 ≤ v_iv (n_v vs 7) ∧ v_iv (n_v vs 7) ≤ 48 := tv_rng t7
  have hds : ∀ q ∈ ([(7, 3, 1, 1), (7, 4, -4294967296, 0), (3, 4, -4294967296, -1)] : List of_T), n_iv vs q.2.1 + q.2.2.1 ≤ n_iv vs q.1 ∧ n_iv vs q.1 ≤ n_iv vs q.2.1 + q.2.2.2 := hds
  obtain ⟨d0, hds⟩ := List.forall_mem_cons.mp hds
  have d0 : v_iv (n_v vs 3) + 1 ≤ v_iv (n_v vs 7) ∧ v_iv (n_v vs 7) ≤ v_iv (n_v vs 3) + 1 := d0
  obtain ⟨d1, hds⟩ := List.forall_mem_cons.mp hds
  have d1 : v_iv (n_v vs 4) + (-4294967296) ≤ v_iv (n_v vs 7) ∧ v_iv (n_v vs 7) ≤ v_iv (n_v vs 4) + 0 := d1
  obtain ⟨d2, hds⟩ := List.forall_mem_cons.mp hds
  have d2 : v_iv (n_v vs 4) + (-4294967296) ≤ v_iv (n_v vs 3) ∧ v_iv (n_v vs 3) ≤ v_iv (n_v vs 4) + (-1) := d2
  have hf : fc_ok PRD [(6, [7, 3], [1]), (20, [4, 1], [30, 0, 1, 0, 0, -1, 3, 2005001]), (20, [4, 1], [30, 0, -1, 0, 0, 1, 3, 2005001]), (20, [1], [60, 1, 1, 122, 5, 2]), (20, [1, 2], [60, 1, 2, 282, 5, 2, 18]), (24, [0, 1], []), (100, [5, 3, 6], []), (9, [5, 1], [95]), (7, [3, 4], [2]), (20, [4, 1], [30, 0, 1, 0, 0, -1, 3, 2005001]), (20, [4, 1], [30, 0, -1, 0, 0, 1, 3, 2005001]), (20, [1], [60, 1, 1, 122, 5, 2]), (20, [1, 2], [60, 1, 2, 282, 5, 2, 18]), (20, [1, 3], [60, 0, 1, 285, 95])] ta ws vs := hf
  obtain ⟨f0, hf⟩ := fc_un (show (6 : Nat) < 100 from by decide) hf
  have f0 : v_iv (n_v vs 7) = v_iv (n_v vs 3) + 1 := f0
  obtain ⟨f1, hf⟩ := fc_un (show (20 : Nat) < 100 from by decide) hf
  have f1 : 1 * v_iv (n_v vs 4) + ((-1) * w_el ws (w_ar ws (n_v vs 1) 2) (w_fi ws (n_v vs 1) 5 + 1).toNat + 0) ≤ 0 := f1
  obtain ⟨f2, hf⟩ := fc_un (show (20 : Nat) < 100 from by decide) hf
  have f2 : (-1) * v_iv (n_v vs 4) + (1 * w_el ws (w_ar ws (n_v vs 1) 2) (w_fi ws (n_v vs 1) 5 + 1).toNat + 0) ≤ 0 := f2
  obtain ⟨f3, hf⟩ := fc_un (show (20 : Nat) < 100 from by decide) hf
  have f3 : SGR (w_fi ws (n_v vs 1) 5) (w_ei ws (w_ar ws (n_v vs 1) 2)) := f3
  obtain ⟨f4, hf⟩ := fc_un (show (20 : Nat) < 100 from by decide) hf
  have f4 : STG (w_fi ws (n_v vs 1) 5) (w_ei ws (w_ar ws (n_v vs 1) 2)) (w_ei ws (w_ar ws (n_v vs 1) 18)) (v_iv (n_v vs 2)) := f4
  obtain ⟨f5, hf⟩ := fc_un (show (24 : Nat) < 100 from by decide) hf
  have f5 : n_v vs 0 = n_v vs 1 := f5
  obtain ⟨ta1, w1, le1, ⟨_, s1⟩, hf⟩ := fc_us (show ¬ (100 : Nat) < 100 from by decide) hf
  have s1 : (∀ b j, w_el ws b j = if b = v_ad (n_v vs 5) ∧ j = (v_iv (n_v vs 3)).toNat then v_iv (n_v vs 6) else w_el w1 b j) ∧ ∀ b k, w_fd ws b k = w_fd w1 b k := s1
  obtain ⟨f7, hf⟩ := fc_un (show (9 : Nat) < 100 from by decide) hf
  have f7 : n_v vs 5 = w_fd w1 (v_ad (n_v vs 1)) 95 := f7
  obtain ⟨f8, hf⟩ := fc_un (show (7 : Nat) < 100 from by decide) hf
  have f8 : v_iv (n_v vs 3) < v_iv (n_v vs 4) := f8
  obtain ⟨f9, hf⟩ := fc_un (show (20 : Nat) < 100 from by decide) hf
  have f9 : 1 * v_iv (n_v vs 4) + ((-1) * w_el w1 (w_ar w1 (n_v vs 1) 2) (w_fi w1 (n_v vs 1) 5 + 1).toNat + 0) ≤ 0 := f9
  obtain ⟨f10, hf⟩ := fc_un (show (20 : Nat) < 100 from by decide) hf
  have f10 : (-1) * v_iv (n_v vs 4) + (1 * w_el w1 (w_ar w1 (n_v vs 1) 2) (w_fi w1 (n_v vs 1) 5 + 1).toNat + 0) ≤ 0 := f10
  obtain ⟨f11, hf⟩ := fc_un (show (20 : Nat) < 100 from by decide) hf
  have f11 : SGR (w_fi w1 (n_v vs 1) 5) (w_ei w1 (w_ar w1 (n_v vs 1) 2)) := f11
  obtain ⟨f12, hf⟩ := fc_un (show (20 : Nat) < 100 from by decide) hf
  have f12 : STG (w_fi w1 (n_v vs 1) 5) (w_ei w1 (w_ar w1 (n_v vs 1) 2)) (w_ei w1 (w_ar w1 (n_v vs 1) 18)) (v_iv (n_v vs 2)) := f12
  obtain ⟨f13, hf⟩ := fc_un (show (20 : Nat) < 100 from by decide) hf
  have f13 : TZ (w_ei w1 (w_ar w1 (n_v vs 1) 95)) (v_iv (n_v vs 3)) := f13
  have q1 : n_v vs 1 = n_v vs 0 := f5.symm
  rw [q1] at f1
  rw [q1] at f2
  rw [q1] at f3
  rw [q1] at f4
  rw [q1] at f7
  rw [q1] at f9
  rw [q1] at f10
  rw [q1] at f11
  rw [q1] at f12
  rw [q1] at f13
  have ar_0_2_1 : w_ar w1 (n_v vs 0) 2 = w_ar ws (n_v vs 0) 2 := by show v_ad (w_fd w1 _ _) = v_ad (w_fd ws _ _); rw [s1.2]
  have cr_0_2 : ta (w_ar ws (n_v vs 0) 2) = some 152 := tv_rg (th_fd hD hth r0 (g := GG_150) rfl (k := 2) (t := (2, 0, 0, [152])) rfl rfl)
  have ar_0_18_1 : w_ar w1 (n_v vs 0) 18 = w_ar ws (n_v vs 0) 18 := by show v_ad (w_fd w1 _ _) = v_ad (w_fd ws _ _); rw [s1.2]
  have cr_0_18 : ta (w_ar ws (n_v vs 0) 18) = some 158 := tv_rg (th_fd hD hth r0 (g := GG_150) rfl (k := 18) (t := (2, 0, 0, [158])) rfl rfl)
  have ar_0_95_1 : w_ar w1 (n_v vs 0) 95 = w_ar ws (n_v vs 0) 95 := by show v_ad (w_fd w1 _ _) = v_ad (w_fd ws _ _); rw [s1.2]
  have cr_0_95 : ta (w_ar ws (n_v vs 0) 95) = some 216 := tv_rg (th_fd hD hth r0 (g := GG_150) rfl (k := 95) (t := (2, 0, 0, [216])) rfl rfl)
  have fi_0_5_1 : w_fi w1 (n_v vs 0) 5 = w_fi ws (n_v vs 0) 5 := by show v_iv (w_fd w1 _ _) = v_iv (w_fd ws _ _); rw [s1.2]
  have ad_5 : v_ad (n_v vs 5) = w_ar ws (n_v vs 0) 95 := (congrArg v_ad f7).trans ar_0_95_1
  rw [ar_0_2_1] at f9
  rw [fi_0_5_1] at f9
  rw [ar_0_2_1] at f10
  rw [fi_0_5_1] at f10
  rw [ar_0_2_1] at f11
  rw [ar_0_2_1] at f12
  rw [ar_0_18_1] at f12
  rw [ar_0_95_1] at f13
  have fe_0_5_1 : w_fi ws (n_v vs 0) 5 = w_fi w1 (n_v vs 0) 5 := congrArg v_iv (s1.2 _ _)
  have hE_0_2_1 : ∀ j : Int, w_ei ws (w_ar ws (n_v vs 0) 2) j = w_ei w1 (w_ar ws (n_v vs 0) 2) j := fun j => by unfold w_ei; rw [s1.1, if_neg (fun e => by have e1 := e.1; rw [← e1] at r5; rw [cr_0_2] at r5; exact absurd (Option.some.inj r5) (by decide))]
  have hE_0_18_1 : ∀ j : Int, w_ei ws (w_ar ws (n_v vs 0) 18) j = w_ei w1 (w_ar ws (n_v vs 0) 18) j := fun j => by unfold w_ei; rw [s1.1, if_neg (fun e => by have e1 := e.1; rw [← e1] at r5; rw [cr_0_18] at r5; exact absurd (Option.some.inj r5) (by decide))]
  have hK_0_18 : ∀ j : Int, 0 ≤ j → j < 24 → (-1) ≤ w_ei ws (w_ar ws (n_v vs 0) 18) j ∧ w_ei ws (w_ar ws (n_v vs 0) 18) j ≤ 23 := fun j h0 h1 => th_el hD hth cr_0_18 (kd := 0) (n := 24) (m := 24) (lo := (-1)) (hi := 23) (rs := []) (L := []) rfl (by decide) (j := j.toNat) (by omega)
  have hE_0_95_1 : ∀ j : Int, 0 ≤ j → (j = v_iv (n_v vs 3) → w_ei ws (w_ar ws (n_v vs 0) 95) j = v_iv (n_v vs 6)) ∧ (j ≠ v_iv (n_v vs 3) → w_ei ws (w_ar ws (n_v vs 0) 95) j = w_ei w1 (w_ar ws (n_v vs 0) 95) j) := fun j hj => ⟨fun h => by unfold w_ei; rw [s1.1, if_pos ⟨ad_5.symm, by rw [h]⟩], fun h => by unfold w_ei; rw [s1.1, if_neg (fun e => h (by have := e.2; omega))]⟩
  have hK_0_95 : ∀ j : Int, 0 ≤ j → j < 48 → 0 ≤ w_ei ws (w_ar ws (n_v vs 0) 95) j ∧ w_ei ws (w_ar ws (n_v vs 0) 95) j ≤ 1 := fun j h0 h1 => th_el hD hth cr_0_95 (kd := 2) (n := 48) (m := 48) (lo := 0) (hi := 1) (rs := []) (L := []) rfl (by decide) (j := j.toNat) (by omega)
  have nf0 : fc_1 PRD (20, [1, 7], [60, 0, 1, 285, 95]) ws (vs) := by
    refine ⟨fun n hn => ?_, ?_⟩
    · have hn : n ∈ [1, 7] := hn
      rw [hl]
      simp only [List.mem_cons, List.not_mem_nil, or_false] at hn
      show n < 8; omega
    · show TZ (w_ei ws (w_ar ws (n_v vs 1) 95)) (v_iv (n_v vs 7))
      rw [q1]
      exact vc_Mo_turnEdges_2_0 (v_iv (n_v vs 2)) (v_iv (n_v vs 3)) (v_iv (n_v vs 4)) (v_iv (n_v vs 6)) (v_iv (n_v vs 7)) (w_ei ws (w_ar ws (n_v vs 0) 2)) (w_fi ws (n_v vs 0) 5) (w_ei ws (w_ar ws (n_v vs 0) 18)) (w_ei w1 (w_ar ws (n_v vs 0) 2)) (w_fi w1 (n_v vs 0) 5) (w_ei w1 (w_ar ws (n_v vs 0) 18)) (w_ei w1 (w_ar ws (n_v vs 0) 95)) (w_ei ws (w_ar ws (n_v vs 0) 95)) k2 k3 k4 k6 k7 d0 d1 d2 f0 f1 f2 f3 f4 f8 f9 f10 f11 f12 f13 fe_0_5_1 hE_0_2_1 hE_0_18_1 hK_0_18 hE_0_95_1 hK_0_95
  refine ⟨(fun _ h => (by cases h)), [], trivial, ?_, (fun _ h => (by cases h))⟩
  rw [List.append_nil]
  exact List.forall_mem_cons.mpr ⟨⟨show (20 : Nat) < 100 from by decide, nf0⟩, (fun _ h => (by cases h))⟩
set_option maxHeartbeats 4000000 in
theorem vc_Mo_turnEdges_3_0 (x2 : Int) (x3 : Int) (all_0 : Int → Int) (r_0 : Int) (strongOf_0 : Int → Int) (turned_0 : Int → Int) (k2 : 0 ≤ x2 ∧ x2 ≤ 24) (k3 : 0 ≤ x3 ∧ x3 ≤ 24) (d0 : x2 + 0 ≤ x3 ∧ x3 ≤ x2 + 4294967296) (d1 : x2 + (-4294967296) ≤ x3 ∧ x3 ≤ x2 + 0) (f0 : x2 ≤ x3) (f1 : SGR (r_0) (all_0)) (f2 : STG (r_0) (all_0) (strongOf_0) (x2)) (f3 : TEI (r_0) (all_0) (strongOf_0) (turned_0) (x3)) (hK_0_18 : ∀ j : Int, 0 ≤ j → j < 24 → (-1) ≤ strongOf_0 j ∧ strongOf_0 j ≤ 23) (hK_0_95 : ∀ j : Int, 0 ≤ j → j < 48 → 0 ≤ turned_0 j ∧ turned_0 j ≤ 1) : TRK (r_0) (all_0) (turned_0) := by
  exact trk_of ‹STG _ _ _ _› ‹TEI _ _ _ _ _› (by omega)
def o_Mo_turnEdges_3 : or_T := (203, 5, [(0, (2, 0, 0, [150])), (1, (2, 0, 0, [150])), (2, (0, 0, 24, [])), (3, (0, 0, 24, []))], [(7, [3, 2], [3]), (20, [1], [60, 1, 1, 122, 5, 2]), (20, [1, 2], [60, 1, 2, 282, 5, 2, 18]), (20, [1, 3], [60, 1, 3, 286, 5, 2, 18, 95]), (24, [0, 1], [])], [], [], [(20, [0], [60, 1, 2, 290, 5, 2, 95])], [], [(3, 2, 0, 4294967296), (3, 2, -4294967296, 0)])
theorem oo_Mo_turnEdges_3 {kA : Nat → ClassId} : or_ok PRD kA GG o_Mo_turnEdges_3 := by
  intro A ta ws vs hD hth hl hk hds hf
  have hl : vs.length = 5 := hl
  have hk : ∀ q ∈ ([(0, (2, 0, 0, [150])), (1, (2, 0, 0, [150])), (2, (0, 0, 24, [])), (3, (0, 0, 24, []))] : List (Nat × tv_T)), tv_ok ta q.2 (n_v vs q.1) := hk
  obtain ⟨t0, hk⟩ := List.forall_mem_cons.mp hk
  have t0 : tv_ok ta (2, 0, 0, [150]) (n_v vs 0) := t0
  have r0 : ta (v_ad (n_v vs 0)) = some 150 := tv_rg t0
  obtain ⟨t1, hk⟩ := List.forall_mem_cons.mp hk
  have t1 : tv_ok ta (2, 0, 0, [150]) (n_v vs 1) := t1
  have r1 : ta (v_ad (n_v vs 1)) = some 150 := tv_rg t1
  obtain ⟨t2, hk⟩ := List.forall_mem_cons.mp hk
  have t2 : tv_ok ta (0, 0, 24, []) (n_v vs 2) := t2
  have k2 : 0 ≤ v_iv (n_v vs 2) ∧ v_iv (n_v vs 2) ≤ 24 := tv_rng t2
  obtain ⟨t3, hk⟩ := List.forall_mem_cons.mp hk
  have t3 : tv_ok ta (0, 0, 24, []) (n_v vs 3) := t3
  have k3 : 0 ≤ v_iv (n_v vs 3) ∧ v_iv (n_v vs 3) ≤ 24 := tv_rng t3
  have hds : ∀ q ∈ ([(3, 2, 0, 4294967296), (3, 2, -4294967296, 0)] : List of_T), n_iv vs q.2.1 + q.2.2.1 ≤ n_iv vs q.1 ∧ n_iv vs q.1 ≤ n_iv vs q.2.1 + q.2.2.2 := hds
  obtain ⟨d0, hds⟩ := List.forall_mem_cons.mp hds
  have d0 : v_iv (n_v vs 2) + 0 ≤ v_iv (n_v vs 3) ∧ v_iv (n_v vs 3) ≤ v_iv (n_v vs 2) + 4294967296 := d0
  obtain ⟨d1, hds⟩ := List.forall_mem_cons.mp hds
  have d1 : v_iv (n_v vs 2) + (-4294967296) ≤ v_iv (n_v vs 3) ∧ v_iv (n_v vs 3) ≤ v_iv (n_v vs 2) + 0 := d1
  have hf : fc_ok PRD [(7, [3, 2], [3]), (20, [1], [60, 1, 1, 122, 5, 2]), (20, [1, 2], [60, 1, 2, 282, 5, 2, 18]), (20, [1, 3], [60, 1, 3, 286, 5, 2, 18, 95]), (24, [0, 1], [])] ta ws vs := hf
  obtain ⟨f0, hf⟩ := fc_un (show (7 : Nat) < 100 from by decide) hf
  have f0 : v_iv (n_v vs 2) ≤ v_iv (n_v vs 3) := f0
  obtain ⟨f1, hf⟩ := fc_un (show (20 : Nat) < 100 from by decide) hf
  have f1 : SGR (w_fi ws (n_v vs 1) 5) (w_ei ws (w_ar ws (n_v vs 1) 2)) := f1
  obtain ⟨f2, hf⟩ := fc_un (show (20 : Nat) < 100 from by decide) hf
  have f2 : STG (w_fi ws (n_v vs 1) 5) (w_ei ws (w_ar ws (n_v vs 1) 2)) (w_ei ws (w_ar ws (n_v vs 1) 18)) (v_iv (n_v vs 2)) := f2
  obtain ⟨f3, hf⟩ := fc_un (show (20 : Nat) < 100 from by decide) hf
  have f3 : TEI (w_fi ws (n_v vs 1) 5) (w_ei ws (w_ar ws (n_v vs 1) 2)) (w_ei ws (w_ar ws (n_v vs 1) 18)) (w_ei ws (w_ar ws (n_v vs 1) 95)) (v_iv (n_v vs 3)) := f3
  obtain ⟨f4, hf⟩ := fc_un (show (24 : Nat) < 100 from by decide) hf
  have f4 : n_v vs 0 = n_v vs 1 := f4
  have q1 : n_v vs 1 = n_v vs 0 := f4.symm
  rw [q1] at f1
  rw [q1] at f2
  rw [q1] at f3
  have cr_0_2 : ta (w_ar ws (n_v vs 0) 2) = some 152 := tv_rg (th_fd hD hth r0 (g := GG_150) rfl (k := 2) (t := (2, 0, 0, [152])) rfl rfl)
  have cr_0_18 : ta (w_ar ws (n_v vs 0) 18) = some 158 := tv_rg (th_fd hD hth r0 (g := GG_150) rfl (k := 18) (t := (2, 0, 0, [158])) rfl rfl)
  have cr_0_95 : ta (w_ar ws (n_v vs 0) 95) = some 216 := tv_rg (th_fd hD hth r0 (g := GG_150) rfl (k := 95) (t := (2, 0, 0, [216])) rfl rfl)
  have hK_0_18 : ∀ j : Int, 0 ≤ j → j < 24 → (-1) ≤ w_ei ws (w_ar ws (n_v vs 0) 18) j ∧ w_ei ws (w_ar ws (n_v vs 0) 18) j ≤ 23 := fun j h0 h1 => th_el hD hth cr_0_18 (kd := 0) (n := 24) (m := 24) (lo := (-1)) (hi := 23) (rs := []) (L := []) rfl (by decide) (j := j.toNat) (by omega)
  have hK_0_95 : ∀ j : Int, 0 ≤ j → j < 48 → 0 ≤ w_ei ws (w_ar ws (n_v vs 0) 95) j ∧ w_ei ws (w_ar ws (n_v vs 0) 95) j ≤ 1 := fun j h0 h1 => th_el hD hth cr_0_95 (kd := 2) (n := 48) (m := 48) (lo := 0) (hi := 1) (rs := []) (L := []) rfl (by decide) (j := j.toNat) (by omega)
  have nf0 : fc_1 PRD (20, [0], [60, 1, 2, 290, 5, 2, 95]) ws (vs) := by
    refine ⟨fun n hn => ?_, ?_⟩
    · have hn : n ∈ [0] := hn
      rw [hl]
      simp only [List.mem_cons, List.not_mem_nil, or_false] at hn
      show n < 5; omega
    · show TRK (w_fi ws (n_v vs 0) 5) (w_ei ws (w_ar ws (n_v vs 0) 2)) (w_ei ws (w_ar ws (n_v vs 0) 95))
      exact vc_Mo_turnEdges_3_0 (v_iv (n_v vs 2)) (v_iv (n_v vs 3)) (w_ei ws (w_ar ws (n_v vs 0) 2)) (w_fi ws (n_v vs 0) 5) (w_ei ws (w_ar ws (n_v vs 0) 18)) (w_ei ws (w_ar ws (n_v vs 0) 95)) k2 k3 d0 d1 f0 f1 f2 f3 hK_0_18 hK_0_95
  refine ⟨(fun _ h => (by cases h)), [], trivial, ?_, (fun _ h => (by cases h))⟩
  rw [List.append_nil]
  exact List.forall_mem_cons.mpr ⟨⟨show (20 : Nat) < 100 from by decide, nf0⟩, (fun _ h => (by cases h))⟩
set_option maxHeartbeats 4000000 in
theorem vc_Mo_turnEdges_4_0 (x2 : Int) (x3 : Int) (x5 : Int) (x6 : Int) (all_0 : Int → Int) (r_0 : Int) (strongOf_0 : Int → Int) (turned_0 : Int → Int) (all_1 : Int → Int) (r_1 : Int) (strongOf_1 : Int → Int) (turned_1 : Int → Int) (members_0 : Int) (member_0 : Int → Int) (member_1 : Int → Int) (k2 : 1 ≤ x2 ∧ x2 ≤ 24) (k3 : 0 ≤ x3 ∧ x3 ≤ 23) (k5 : 0 ≤ x5 ∧ x5 ≤ 0) (k6 : 0 ≤ x6 ∧ x6 ≤ 0) (d0 : x2 + (-4294967296) ≤ x3 ∧ x3 ≤ x2 + (-1)) (d1 : x2 + (-4294967296) ≤ x3 ∧ x3 ≤ x2 + 0) (f0 : SGR (r_0) (all_0)) (f1 : STG (r_0) (all_0) (strongOf_0) (x2)) (f2 : TEI (r_0) (all_0) (strongOf_0) (turned_0) (x3)) (f5 : x3 < x2) (f6 : SGR (r_1) (all_1)) (f7 : STG (r_1) (all_1) (strongOf_1) (x2)) (f8 : TEI (r_1) (all_1) (strongOf_1) (turned_1) (x3)) (fe_0_5_1 : r_0 = r_1) (fe_0_99_1 : members_0 = x5) (hE_0_2_1 : ∀ j : Int, all_0 j = all_1 j) (hE_0_18_1 : ∀ j : Int, strongOf_0 j = strongOf_1 j) (hK_0_18 : ∀ j : Int, 0 ≤ j → j < 24 → (-1) ≤ strongOf_0 j ∧ strongOf_0 j ≤ 23) (hE_0_95_1 : ∀ j : Int, turned_0 j = turned_1 j) (hK_0_95 : ∀ j : Int, 0 ≤ j → j < 48 → 0 ≤ turned_0 j ∧ turned_0 j ≤ 1) (hE_0_98_1 : ∀ j : Int, member_0 j = member_1 j) (hK_0_98 : ∀ j : Int, 0 ≤ j → j < 26 → 0 ≤ member_0 j ∧ member_0 j ≤ 25) (kz_0_99 : 0 ≤ members_0 ∧ members_0 ≤ 26) : MBI (members_0) (member_0) (x6) := by
  subst fe_0_5_1
  have e_hE_0_2_1 := funext hE_0_2_1; subst e_hE_0_2_1
  have e_hE_0_18_1 := funext hE_0_18_1; subst e_hE_0_18_1
  have e_hE_0_95_1 := funext hE_0_95_1; subst e_hE_0_95_1
  have e_hE_0_98_1 := funext hE_0_98_1; subst e_hE_0_98_1
  first
    | exact ⟨fun s t a b c => by exfalso; omega, fun s a b => by exfalso; omega⟩
    | exact mbi_take ‹MBI _ _ _› (by omega) (by assumption) (by omega) (by omega) (by omega) (by omega)
    | exact mbi_skip ‹MBI _ _ _› (by omega)
set_option maxHeartbeats 4000000 in
theorem vc_Mo_turnEdges_4_1 (x2 : Int) (x3 : Int) (x5 : Int) (x6 : Int) (all_0 : Int → Int) (r_0 : Int) (strongOf_0 : Int → Int) (turned_0 : Int → Int) (all_1 : Int → Int) (r_1 : Int) (strongOf_1 : Int → Int) (turned_1 : Int → Int) (members_0 : Int) (member_0 : Int → Int) (member_1 : Int → Int) (k2 : 1 ≤ x2 ∧ x2 ≤ 24) (k3 : 0 ≤ x3 ∧ x3 ≤ 23) (k5 : 0 ≤ x5 ∧ x5 ≤ 0) (k6 : 0 ≤ x6 ∧ x6 ≤ 0) (d0 : x2 + (-4294967296) ≤ x3 ∧ x3 ≤ x2 + (-1)) (d1 : x2 + (-4294967296) ≤ x3 ∧ x3 ≤ x2 + 0) (f0 : SGR (r_0) (all_0)) (f1 : STG (r_0) (all_0) (strongOf_0) (x2)) (f2 : TEI (r_0) (all_0) (strongOf_0) (turned_0) (x3)) (f5 : x3 < x2) (f6 : SGR (r_1) (all_1)) (f7 : STG (r_1) (all_1) (strongOf_1) (x2)) (f8 : TEI (r_1) (all_1) (strongOf_1) (turned_1) (x3)) (fe_0_5_1 : r_0 = r_1) (fe_0_99_1 : members_0 = x5) (hE_0_2_1 : ∀ j : Int, all_0 j = all_1 j) (hE_0_18_1 : ∀ j : Int, strongOf_0 j = strongOf_1 j) (hK_0_18 : ∀ j : Int, 0 ≤ j → j < 24 → (-1) ≤ strongOf_0 j ∧ strongOf_0 j ≤ 23) (hE_0_95_1 : ∀ j : Int, turned_0 j = turned_1 j) (hK_0_95 : ∀ j : Int, 0 ≤ j → j < 48 → 0 ≤ turned_0 j ∧ turned_0 j ≤ 1) (hE_0_98_1 : ∀ j : Int, member_0 j = member_1 j) (hK_0_98 : ∀ j : Int, 0 ≤ j → j < 26 → 0 ≤ member_0 j ∧ member_0 j ≤ 25) (kz_0_99 : 0 ≤ members_0 ∧ members_0 ≤ 26) : MBN (members_0) (r_0) (member_0) (all_0) := by
  subst fe_0_5_1
  have e_hE_0_2_1 := funext hE_0_2_1; subst e_hE_0_2_1
  have e_hE_0_18_1 := funext hE_0_18_1; subst e_hE_0_18_1
  have e_hE_0_95_1 := funext hE_0_95_1; subst e_hE_0_95_1
  have e_hE_0_98_1 := funext hE_0_98_1; subst e_hE_0_98_1
  first
    | assumption
    | exact ⟨fun s t a b c => by exfalso; omega, fun s a b => by exfalso; omega⟩
    | (simp only [Int.add_zero] at *
       exact mbn_take ‹MBN _ _ _ _› ‹MBI _ _ _› (by omega) (by assumption) (by omega) (by omega) (by omega) (by omega) (by omega))
set_option maxHeartbeats 4000000 in
theorem vc_Mo_turnEdges_4_2 (x2 : Int) (x3 : Int) (x5 : Int) (x6 : Int) (all_0 : Int → Int) (r_0 : Int) (strongOf_0 : Int → Int) (turned_0 : Int → Int) (all_1 : Int → Int) (r_1 : Int) (strongOf_1 : Int → Int) (turned_1 : Int → Int) (members_0 : Int) (member_0 : Int → Int) (member_1 : Int → Int) (k2 : 1 ≤ x2 ∧ x2 ≤ 24) (k3 : 0 ≤ x3 ∧ x3 ≤ 23) (k5 : 0 ≤ x5 ∧ x5 ≤ 0) (k6 : 0 ≤ x6 ∧ x6 ≤ 0) (d0 : x2 + (-4294967296) ≤ x3 ∧ x3 ≤ x2 + (-1)) (d1 : x2 + (-4294967296) ≤ x3 ∧ x3 ≤ x2 + 0) (f0 : SGR (r_0) (all_0)) (f1 : STG (r_0) (all_0) (strongOf_0) (x2)) (f2 : TEI (r_0) (all_0) (strongOf_0) (turned_0) (x3)) (f5 : x3 < x2) (f6 : SGR (r_1) (all_1)) (f7 : STG (r_1) (all_1) (strongOf_1) (x2)) (f8 : TEI (r_1) (all_1) (strongOf_1) (turned_1) (x3)) (fe_0_5_1 : r_0 = r_1) (fe_0_99_1 : members_0 = x5) (hE_0_2_1 : ∀ j : Int, all_0 j = all_1 j) (hE_0_18_1 : ∀ j : Int, strongOf_0 j = strongOf_1 j) (hK_0_18 : ∀ j : Int, 0 ≤ j → j < 24 → (-1) ≤ strongOf_0 j ∧ strongOf_0 j ≤ 23) (hE_0_95_1 : ∀ j : Int, turned_0 j = turned_1 j) (hK_0_95 : ∀ j : Int, 0 ≤ j → j < 48 → 0 ≤ turned_0 j ∧ turned_0 j ≤ 1) (hE_0_98_1 : ∀ j : Int, member_0 j = member_1 j) (hK_0_98 : ∀ j : Int, 0 ≤ j → j < 26 → 0 ≤ member_0 j ∧ member_0 j ≤ 25) (kz_0_99 : 0 ≤ members_0 ∧ members_0 ≤ 26) : MBC (members_0) (member_0) (strongOf_0) (x3) (x6) := by
  subst fe_0_5_1
  have e_hE_0_2_1 := funext hE_0_2_1; subst e_hE_0_2_1
  have e_hE_0_18_1 := funext hE_0_18_1; subst e_hE_0_18_1
  have e_hE_0_95_1 := funext hE_0_95_1; subst e_hE_0_95_1
  have e_hE_0_98_1 := funext hE_0_98_1; subst e_hE_0_98_1
  first
    | (intro i a b; exfalso; omega)
    | exact mbc_take ‹MBC _ _ _ _ _› (by omega) (by assumption) (by omega) (by omega) (by omega) (by omega)
    | exact mbc_skip ‹MBC _ _ _ _ _› (by omega) (by assumption) (by omega)
set_option maxHeartbeats 4000000 in
theorem vc_Mo_turnEdges_4_3 (x2 : Int) (x3 : Int) (x5 : Int) (x6 : Int) (all_0 : Int → Int) (r_0 : Int) (strongOf_0 : Int → Int) (turned_0 : Int → Int) (all_1 : Int → Int) (r_1 : Int) (strongOf_1 : Int → Int) (turned_1 : Int → Int) (members_0 : Int) (member_0 : Int → Int) (member_1 : Int → Int) (k2 : 1 ≤ x2 ∧ x2 ≤ 24) (k3 : 0 ≤ x3 ∧ x3 ≤ 23) (k5 : 0 ≤ x5 ∧ x5 ≤ 0) (k6 : 0 ≤ x6 ∧ x6 ≤ 0) (d0 : x2 + (-4294967296) ≤ x3 ∧ x3 ≤ x2 + (-1)) (d1 : x2 + (-4294967296) ≤ x3 ∧ x3 ≤ x2 + 0) (f0 : SGR (r_0) (all_0)) (f1 : STG (r_0) (all_0) (strongOf_0) (x2)) (f2 : TEI (r_0) (all_0) (strongOf_0) (turned_0) (x3)) (f5 : x3 < x2) (f6 : SGR (r_1) (all_1)) (f7 : STG (r_1) (all_1) (strongOf_1) (x2)) (f8 : TEI (r_1) (all_1) (strongOf_1) (turned_1) (x3)) (fe_0_5_1 : r_0 = r_1) (fe_0_99_1 : members_0 = x5) (hE_0_2_1 : ∀ j : Int, all_0 j = all_1 j) (hE_0_18_1 : ∀ j : Int, strongOf_0 j = strongOf_1 j) (hK_0_18 : ∀ j : Int, 0 ≤ j → j < 24 → (-1) ≤ strongOf_0 j ∧ strongOf_0 j ≤ 23) (hE_0_95_1 : ∀ j : Int, turned_0 j = turned_1 j) (hK_0_95 : ∀ j : Int, 0 ≤ j → j < 48 → 0 ≤ turned_0 j ∧ turned_0 j ≤ 1) (hE_0_98_1 : ∀ j : Int, member_0 j = member_1 j) (hK_0_98 : ∀ j : Int, 0 ≤ j → j < 26 → 0 ≤ member_0 j ∧ member_0 j ≤ 25) (kz_0_99 : 0 ≤ members_0 ∧ members_0 ≤ 26) : 1 * members_0 + ((-1) * x6 + 0) ≤ 0 := by
  subst fe_0_5_1
  have e_hE_0_2_1 := funext hE_0_2_1; subst e_hE_0_2_1
  have e_hE_0_18_1 := funext hE_0_18_1; subst e_hE_0_18_1
  have e_hE_0_95_1 := funext hE_0_95_1; subst e_hE_0_95_1
  have e_hE_0_98_1 := funext hE_0_98_1; subst e_hE_0_98_1
  try simp only [Int.add_zero] at *
  omega
def o_Mo_turnEdges_4 : or_T := (43, 7, [(0, (2, 0, 0, [150])), (1, (2, 0, 0, [150])), (2, (0, 1, 24, [])), (3, (0, 0, 23, [])), (5, (0, 0, 0, [])), (6, (0, 0, 0, []))], [(20, [1], [60, 1, 1, 122, 5, 2]), (20, [1, 2], [60, 1, 2, 282, 5, 2, 18]), (20, [1, 3], [60, 1, 3, 286, 5, 2, 18, 95]), (24, [0, 1], []), (101, [1, 5], [99]), (7, [3, 2], [2]), (20, [1], [60, 1, 1, 122, 5, 2]), (20, [1, 2], [60, 1, 2, 282, 5, 2, 18]), (20, [1, 3], [60, 1, 3, 286, 5, 2, 18, 95])], [], [], [(20, [1, 6], [60, 1, 1, 259, 99, 98]), (20, [1], [60, 2, 2, 272, 99, 5, 98, 2]), (20, [1, 3, 6], [60, 1, 2, 287, 99, 98, 18]), (20, [1, 6], [30, 0, 1, 1, 99, -1, 0, 0])], [], [(3, 2, -4294967296, -1), (3, 2, -4294967296, 0)])
theorem oo_Mo_turnEdges_4 {kA : Nat → ClassId} : or_ok PRD kA GG o_Mo_turnEdges_4 := by
  intro A ta ws vs hD hth hl hk hds hf
  have hl : vs.length = 7 := hl
  have hk : ∀ q ∈ ([(0, (2, 0, 0, [150])), (1, (2, 0, 0, [150])), (2, (0, 1, 24, [])), (3, (0, 0, 23, [])), (5, (0, 0, 0, [])), (6, (0, 0, 0, []))] : List (Nat × tv_T)), tv_ok ta q.2 (n_v vs q.1) := hk
  obtain ⟨t0, hk⟩ := List.forall_mem_cons.mp hk
  have t0 : tv_ok ta (2, 0, 0, [150]) (n_v vs 0) := t0
  have r0 : ta (v_ad (n_v vs 0)) = some 150 := tv_rg t0
  obtain ⟨t1, hk⟩ := List.forall_mem_cons.mp hk
  have t1 : tv_ok ta (2, 0, 0, [150]) (n_v vs 1) := t1
  have r1 : ta (v_ad (n_v vs 1)) = some 150 := tv_rg t1
  obtain ⟨t2, hk⟩ := List.forall_mem_cons.mp hk
  have t2 : tv_ok ta (0, 1, 24, []) (n_v vs 2) := t2
  have k2 : 1 ≤ v_iv (n_v vs 2) ∧ v_iv (n_v vs 2) ≤ 24 := tv_rng t2
  obtain ⟨t3, hk⟩ := List.forall_mem_cons.mp hk
  have t3 : tv_ok ta (0, 0, 23, []) (n_v vs 3) := t3
  have k3 : 0 ≤ v_iv (n_v vs 3) ∧ v_iv (n_v vs 3) ≤ 23 := tv_rng t3
  obtain ⟨t5, hk⟩ := List.forall_mem_cons.mp hk
  have t5 : tv_ok ta (0, 0, 0, []) (n_v vs 5) := t5
  have k5 : 0 ≤ v_iv (n_v vs 5) ∧ v_iv (n_v vs 5) ≤ 0 := tv_rng t5
  obtain ⟨t6, hk⟩ := List.forall_mem_cons.mp hk
  have t6 : tv_ok ta (0, 0, 0, []) (n_v vs 6) := t6
  have k6 : 0 ≤ v_iv (n_v vs 6) ∧ v_iv (n_v vs 6) ≤ 0 := tv_rng t6
  have hds : ∀ q ∈ ([(3, 2, -4294967296, -1), (3, 2, -4294967296, 0)] : List of_T), n_iv vs q.2.1 + q.2.2.1 ≤ n_iv vs q.1 ∧ n_iv vs q.1 ≤ n_iv vs q.2.1 + q.2.2.2 := hds
  obtain ⟨d0, hds⟩ := List.forall_mem_cons.mp hds
  have d0 : v_iv (n_v vs 2) + (-4294967296) ≤ v_iv (n_v vs 3) ∧ v_iv (n_v vs 3) ≤ v_iv (n_v vs 2) + (-1) := d0
  obtain ⟨d1, hds⟩ := List.forall_mem_cons.mp hds
  have d1 : v_iv (n_v vs 2) + (-4294967296) ≤ v_iv (n_v vs 3) ∧ v_iv (n_v vs 3) ≤ v_iv (n_v vs 2) + 0 := d1
  have hf : fc_ok PRD [(20, [1], [60, 1, 1, 122, 5, 2]), (20, [1, 2], [60, 1, 2, 282, 5, 2, 18]), (20, [1, 3], [60, 1, 3, 286, 5, 2, 18, 95]), (24, [0, 1], []), (101, [1, 5], [99]), (7, [3, 2], [2]), (20, [1], [60, 1, 1, 122, 5, 2]), (20, [1, 2], [60, 1, 2, 282, 5, 2, 18]), (20, [1, 3], [60, 1, 3, 286, 5, 2, 18, 95])] ta ws vs := hf
  obtain ⟨f0, hf⟩ := fc_un (show (20 : Nat) < 100 from by decide) hf
  have f0 : SGR (w_fi ws (n_v vs 1) 5) (w_ei ws (w_ar ws (n_v vs 1) 2)) := f0
  obtain ⟨f1, hf⟩ := fc_un (show (20 : Nat) < 100 from by decide) hf
  have f1 : STG (w_fi ws (n_v vs 1) 5) (w_ei ws (w_ar ws (n_v vs 1) 2)) (w_ei ws (w_ar ws (n_v vs 1) 18)) (v_iv (n_v vs 2)) := f1
  obtain ⟨f2, hf⟩ := fc_un (show (20 : Nat) < 100 from by decide) hf
  have f2 : TEI (w_fi ws (n_v vs 1) 5) (w_ei ws (w_ar ws (n_v vs 1) 2)) (w_ei ws (w_ar ws (n_v vs 1) 18)) (w_ei ws (w_ar ws (n_v vs 1) 95)) (v_iv (n_v vs 3)) := f2
  obtain ⟨f3, hf⟩ := fc_un (show (24 : Nat) < 100 from by decide) hf
  have f3 : n_v vs 0 = n_v vs 1 := f3
  obtain ⟨ta1, w1, le1, ⟨_, s1⟩, hf⟩ := fc_us (show ¬ (101 : Nat) < 100 from by decide) hf
  have s1 : (∀ b j, w_el ws b j = w_el w1 b j) ∧ ∀ b j, w_fd ws b j = if b = v_ad (n_v vs 1) ∧ j = 99 then n_v vs 5 else w_fd w1 b j := s1
  obtain ⟨f5, hf⟩ := fc_un (show (7 : Nat) < 100 from by decide) hf
  have f5 : v_iv (n_v vs 3) < v_iv (n_v vs 2) := f5
  obtain ⟨f6, hf⟩ := fc_un (show (20 : Nat) < 100 from by decide) hf
  have f6 : SGR (w_fi w1 (n_v vs 1) 5) (w_ei w1 (w_ar w1 (n_v vs 1) 2)) := f6
  obtain ⟨f7, hf⟩ := fc_un (show (20 : Nat) < 100 from by decide) hf
  have f7 : STG (w_fi w1 (n_v vs 1) 5) (w_ei w1 (w_ar w1 (n_v vs 1) 2)) (w_ei w1 (w_ar w1 (n_v vs 1) 18)) (v_iv (n_v vs 2)) := f7
  obtain ⟨f8, hf⟩ := fc_un (show (20 : Nat) < 100 from by decide) hf
  have f8 : TEI (w_fi w1 (n_v vs 1) 5) (w_ei w1 (w_ar w1 (n_v vs 1) 2)) (w_ei w1 (w_ar w1 (n_v vs 1) 18)) (w_ei w1 (w_ar w1 (n_v vs 1) 95)) (v_iv (n_v vs 3)) := f8
  have q1 : n_v vs 1 = n_v vs 0 := f3.symm
  rw [q1] at f0
  rw [q1] at f1
  rw [q1] at f2
  rw [q1] at s1
  rw [q1] at f6
  rw [q1] at f7
  rw [q1] at f8
  have ar_0_2_1 : w_ar w1 (n_v vs 0) 2 = w_ar ws (n_v vs 0) 2 := by show v_ad (w_fd w1 _ _) = v_ad (w_fd ws _ _); rw [s1.2, if_neg (fun e => absurd e.2 (by decide))]
  have cr_0_2 : ta (w_ar ws (n_v vs 0) 2) = some 152 := tv_rg (th_fd hD hth r0 (g := GG_150) rfl (k := 2) (t := (2, 0, 0, [152])) rfl rfl)
  have ar_0_18_1 : w_ar w1 (n_v vs 0) 18 = w_ar ws (n_v vs 0) 18 := by show v_ad (w_fd w1 _ _) = v_ad (w_fd ws _ _); rw [s1.2, if_neg (fun e => absurd e.2 (by decide))]
  have cr_0_18 : ta (w_ar ws (n_v vs 0) 18) = some 158 := tv_rg (th_fd hD hth r0 (g := GG_150) rfl (k := 18) (t := (2, 0, 0, [158])) rfl rfl)
  have ar_0_95_1 : w_ar w1 (n_v vs 0) 95 = w_ar ws (n_v vs 0) 95 := by show v_ad (w_fd w1 _ _) = v_ad (w_fd ws _ _); rw [s1.2, if_neg (fun e => absurd e.2 (by decide))]
  have cr_0_95 : ta (w_ar ws (n_v vs 0) 95) = some 216 := tv_rg (th_fd hD hth r0 (g := GG_150) rfl (k := 95) (t := (2, 0, 0, [216])) rfl rfl)
  have ar_0_98_1 : w_ar w1 (n_v vs 0) 98 = w_ar ws (n_v vs 0) 98 := by show v_ad (w_fd w1 _ _) = v_ad (w_fd ws _ _); rw [s1.2, if_neg (fun e => absurd e.2 (by decide))]
  have cr_0_98 : ta (w_ar ws (n_v vs 0) 98) = some 219 := tv_rg (th_fd hD hth r0 (g := GG_150) rfl (k := 98) (t := (2, 0, 0, [219])) rfl rfl)
  rw [ar_0_2_1] at f6
  rw [ar_0_2_1] at f7
  rw [ar_0_18_1] at f7
  rw [ar_0_2_1] at f8
  rw [ar_0_18_1] at f8
  rw [ar_0_95_1] at f8
  have fe_0_5_1 : w_fi ws (n_v vs 0) 5 = w_fi w1 (n_v vs 0) 5 := by show v_iv (w_fd _ _ _) = v_iv (w_fd _ _ _); rw [s1.2, if_neg (fun e => absurd e.2 (by decide))]
  have fe_0_99_1 : w_fi ws (n_v vs 0) 99 = v_iv (n_v vs 5) := by show v_iv (w_fd _ _ _) = _; rw [s1.2, if_pos ⟨rfl, rfl⟩]
  have hE_0_2_1 : ∀ j : Int, w_ei ws (w_ar ws (n_v vs 0) 2) j = w_ei w1 (w_ar ws (n_v vs 0) 2) j := fun j => s1.1 _ _
  have hE_0_18_1 : ∀ j : Int, w_ei ws (w_ar ws (n_v vs 0) 18) j = w_ei w1 (w_ar ws (n_v vs 0) 18) j := fun j => s1.1 _ _
  have hK_0_18 : ∀ j : Int, 0 ≤ j → j < 24 → (-1) ≤ w_ei ws (w_ar ws (n_v vs 0) 18) j ∧ w_ei ws (w_ar ws (n_v vs 0) 18) j ≤ 23 := fun j h0 h1 => th_el hD hth cr_0_18 (kd := 0) (n := 24) (m := 24) (lo := (-1)) (hi := 23) (rs := []) (L := []) rfl (by decide) (j := j.toNat) (by omega)
  have hE_0_95_1 : ∀ j : Int, w_ei ws (w_ar ws (n_v vs 0) 95) j = w_ei w1 (w_ar ws (n_v vs 0) 95) j := fun j => s1.1 _ _
  have hK_0_95 : ∀ j : Int, 0 ≤ j → j < 48 → 0 ≤ w_ei ws (w_ar ws (n_v vs 0) 95) j ∧ w_ei ws (w_ar ws (n_v vs 0) 95) j ≤ 1 := fun j h0 h1 => th_el hD hth cr_0_95 (kd := 2) (n := 48) (m := 48) (lo := 0) (hi := 1) (rs := []) (L := []) rfl (by decide) (j := j.toNat) (by omega)
  have hE_0_98_1 : ∀ j : Int, w_ei ws (w_ar ws (n_v vs 0) 98) j = w_ei w1 (w_ar ws (n_v vs 0) 98) j := fun j => s1.1 _ _
  have hK_0_98 : ∀ j : Int, 0 ≤ j → j < 26 → 0 ≤ w_ei ws (w_ar ws (n_v vs 0) 98) j ∧ w_ei ws (w_ar ws (n_v vs 0) 98) j ≤ 25 := fun j h0 h1 => th_el hD hth cr_0_98 (kd := 0) (n := 26) (m := 26) (lo := 0) (hi := 25) (rs := []) (L := []) rfl (by decide) (j := j.toNat) (by omega)
  have kz_0_99 : 0 ≤ w_fi ws (n_v vs 0) 99 ∧ w_fi ws (n_v vs 0) 99 ≤ 26 := tv_rng (th_fd hD hth r0 (g := GG_150) rfl (k := 99) (t := (0, 0, 26, [])) rfl rfl)
  have nf0 : fc_1 PRD (20, [1, 6], [60, 1, 1, 259, 99, 98]) ws (vs) := by
    refine ⟨fun n hn => ?_, ?_⟩
    · have hn : n ∈ [1, 6] := hn
      rw [hl]
      simp only [List.mem_cons, List.not_mem_nil, or_false] at hn
      show n < 7; omega
    · show MBI (w_fi ws (n_v vs 1) 99) (w_ei ws (w_ar ws (n_v vs 1) 98)) (v_iv (n_v vs 6))
      rw [q1]
      exact vc_Mo_turnEdges_4_0 (v_iv (n_v vs 2)) (v_iv (n_v vs 3)) (v_iv (n_v vs 5)) (v_iv (n_v vs 6)) (w_ei ws (w_ar ws (n_v vs 0) 2)) (w_fi ws (n_v vs 0) 5) (w_ei ws (w_ar ws (n_v vs 0) 18)) (w_ei ws (w_ar ws (n_v vs 0) 95)) (w_ei w1 (w_ar ws (n_v vs 0) 2)) (w_fi w1 (n_v vs 0) 5) (w_ei w1 (w_ar ws (n_v vs 0) 18)) (w_ei w1 (w_ar ws (n_v vs 0) 95)) (w_fi ws (n_v vs 0) 99) (w_ei ws (w_ar ws (n_v vs 0) 98)) (w_ei w1 (w_ar ws (n_v vs 0) 98)) k2 k3 k5 k6 d0 d1 f0 f1 f2 f5 f6 f7 f8 fe_0_5_1 fe_0_99_1 hE_0_2_1 hE_0_18_1 hK_0_18 hE_0_95_1 hK_0_95 hE_0_98_1 hK_0_98 kz_0_99
  have nf1 : fc_1 PRD (20, [1], [60, 2, 2, 272, 99, 5, 98, 2]) ws (vs) := by
    refine ⟨fun n hn => ?_, ?_⟩
    · have hn : n ∈ [1] := hn
      rw [hl]
      simp only [List.mem_cons, List.not_mem_nil, or_false] at hn
      show n < 7; omega
    · show MBN (w_fi ws (n_v vs 1) 99) (w_fi ws (n_v vs 1) 5) (w_ei ws (w_ar ws (n_v vs 1) 98)) (w_ei ws (w_ar ws (n_v vs 1) 2))
      rw [q1]
      exact vc_Mo_turnEdges_4_1 (v_iv (n_v vs 2)) (v_iv (n_v vs 3)) (v_iv (n_v vs 5)) (v_iv (n_v vs 6)) (w_ei ws (w_ar ws (n_v vs 0) 2)) (w_fi ws (n_v vs 0) 5) (w_ei ws (w_ar ws (n_v vs 0) 18)) (w_ei ws (w_ar ws (n_v vs 0) 95)) (w_ei w1 (w_ar ws (n_v vs 0) 2)) (w_fi w1 (n_v vs 0) 5) (w_ei w1 (w_ar ws (n_v vs 0) 18)) (w_ei w1 (w_ar ws (n_v vs 0) 95)) (w_fi ws (n_v vs 0) 99) (w_ei ws (w_ar ws (n_v vs 0) 98)) (w_ei w1 (w_ar ws (n_v vs 0) 98)) k2 k3 k5 k6 d0 d1 f0 f1 f2 f5 f6 f7 f8 fe_0_5_1 fe_0_99_1 hE_0_2_1 hE_0_18_1 hK_0_18 hE_0_95_1 hK_0_95 hE_0_98_1 hK_0_98 kz_0_99
  have nf2 : fc_1 PRD (20, [1, 3, 6], [60, 1, 2, 287, 99, 98, 18]) ws (vs) := by
    refine ⟨fun n hn => ?_, ?_⟩
    · have hn : n ∈ [1, 3, 6] := hn
      rw [hl]
      simp only [List.mem_cons, List.not_mem_nil, or_false] at hn
      show n < 7; omega
    · show MBC (w_fi ws (n_v vs 1) 99) (w_ei ws (w_ar ws (n_v vs 1) 98)) (w_ei ws (w_ar ws (n_v vs 1) 18)) (v_iv (n_v vs 3)) (v_iv (n_v vs 6))
      rw [q1]
      exact vc_Mo_turnEdges_4_2 (v_iv (n_v vs 2)) (v_iv (n_v vs 3)) (v_iv (n_v vs 5)) (v_iv (n_v vs 6)) (w_ei ws (w_ar ws (n_v vs 0) 2)) (w_fi ws (n_v vs 0) 5) (w_ei ws (w_ar ws (n_v vs 0) 18)) (w_ei ws (w_ar ws (n_v vs 0) 95)) (w_ei w1 (w_ar ws (n_v vs 0) 2)) (w_fi w1 (n_v vs 0) 5) (w_ei w1 (w_ar ws (n_v vs 0) 18)) (w_ei w1 (w_ar ws (n_v vs 0) 95)) (w_fi ws (n_v vs 0) 99) (w_ei ws (w_ar ws (n_v vs 0) 98)) (w_ei w1 (w_ar ws (n_v vs 0) 98)) k2 k3 k5 k6 d0 d1 f0 f1 f2 f5 f6 f7 f8 fe_0_5_1 fe_0_99_1 hE_0_2_1 hE_0_18_1 hK_0_18 hE_0_95_1 hK_0_95 hE_0_98_1 hK_0_98 kz_0_99
  have nf3 : fc_1 PRD (20, [1, 6], [30, 0, 1, 1, 99, -1, 0, 0]) ws (vs) := by
    refine ⟨fun n hn => ?_, ?_⟩
    · have hn : n ∈ [1, 6] := hn
      rw [hl]
      simp only [List.mem_cons, List.not_mem_nil, or_false] at hn
      show n < 7; omega
    · show 1 * w_fi ws (n_v vs 1) 99 + ((-1) * v_iv (n_v vs 6) + 0) ≤ 0
      rw [q1]
      exact vc_Mo_turnEdges_4_3 (v_iv (n_v vs 2)) (v_iv (n_v vs 3)) (v_iv (n_v vs 5)) (v_iv (n_v vs 6)) (w_ei ws (w_ar ws (n_v vs 0) 2)) (w_fi ws (n_v vs 0) 5) (w_ei ws (w_ar ws (n_v vs 0) 18)) (w_ei ws (w_ar ws (n_v vs 0) 95)) (w_ei w1 (w_ar ws (n_v vs 0) 2)) (w_fi w1 (n_v vs 0) 5) (w_ei w1 (w_ar ws (n_v vs 0) 18)) (w_ei w1 (w_ar ws (n_v vs 0) 95)) (w_fi ws (n_v vs 0) 99) (w_ei ws (w_ar ws (n_v vs 0) 98)) (w_ei w1 (w_ar ws (n_v vs 0) 98)) k2 k3 k5 k6 d0 d1 f0 f1 f2 f5 f6 f7 f8 fe_0_5_1 fe_0_99_1 hE_0_2_1 hE_0_18_1 hK_0_18 hE_0_95_1 hK_0_95 hE_0_98_1 hK_0_98 kz_0_99
  refine ⟨(fun _ h => (by cases h)), [], trivial, ?_, (fun _ h => (by cases h))⟩
  rw [List.append_nil]
  exact List.forall_mem_cons.mpr ⟨⟨show (20 : Nat) < 100 from by decide, nf0⟩, List.forall_mem_cons.mpr ⟨⟨show (20 : Nat) < 100 from by decide, nf1⟩, List.forall_mem_cons.mpr ⟨⟨show (20 : Nat) < 100 from by decide, nf2⟩, List.forall_mem_cons.mpr ⟨⟨show (20 : Nat) < 100 from by decide, nf3⟩, (fun _ h => (by cases h))⟩⟩⟩⟩
set_option maxHeartbeats 4000000 in
theorem vc_Mo_turnEdges_5_0 (x2 : Int) (x3 : Int) (x4 : Int) (x5 : Int) (x6 : Int) (x7 : Int) (x8 : Int) (members_0 : Int) (all_0 : Int → Int) (r_0 : Int) (strongOf_0 : Int → Int) (turned_0 : Int → Int) (member_0 : Int → Int) (k2 : 1 ≤ x2 ∧ x2 ≤ 24) (k3 : 0 ≤ x3 ∧ x3 ≤ 23) (k4 : 8 ≤ x4 ∧ x4 ≤ 24) (k5 : 8 ≤ x5 ∧ x5 ≤ 24) (k6 : 0 ≤ x6 ∧ x6 ≤ 24) (k7 : 2 ≤ x7 ∧ x7 ≤ 2) (k8 : 7 ≤ x8 ∧ x8 ≤ 7) (d0 : x6 + 0 ≤ x4 ∧ x4 ≤ x6 + 4294967296) (d1 : x2 + (-4294967296) ≤ x3 ∧ x3 ≤ x2 + (-1)) (d2 : x4 + (-4294967296) ≤ x5 ∧ x5 ≤ x4 + 0) (f0 : x8 < x5) (g1 : x5 = members_0) (f2 : x7 ≤ x5) (f3 : x6 ≤ x4) (f4 : 1 * x6 + ((-1) * all_0 (r_0 + 0) + 0) ≤ 0) (f5 : (-1) * x6 + (1 * all_0 (r_0 + 0) + 0) ≤ 0) (f6 : SGR (r_0) (all_0)) (f7 : STG (r_0) (all_0) (strongOf_0) (x2)) (f8 : TEI (r_0) (all_0) (strongOf_0) (turned_0) (x3)) (f9 : MBI (members_0) (member_0) (x4)) (f10 : MBN (members_0) (r_0) (member_0) (all_0)) (f11 : MBC (members_0) (member_0) (strongOf_0) (x3) (x4)) (f12 : 1 * members_0 + ((-1) * x4 + 0) ≤ 0) (hK_0_18 : ∀ j : Int, 0 ≤ j → j < 24 → (-1) ≤ strongOf_0 j ∧ strongOf_0 j ≤ 23) (hK_0_95 : ∀ j : Int, 0 ≤ j → j < 48 → 0 ≤ turned_0 j ∧ turned_0 j ≤ 1) (hK_0_98 : ∀ j : Int, 0 ≤ j → j < 26 → 0 ≤ member_0 j ∧ member_0 j ≤ 25) (kz_0_99 : 0 ≤ members_0 ∧ members_0 ≤ 26) : MBF (r_0) (members_0) (all_0) (member_0) (strongOf_0) (x3) := by
  try simp only [Int.add_zero] at *
  first
    | assumption
    | (have h := ‹MBC _ _ _ _ _›; intro a a0 a1 a2; exact h a a0 (by omega) a2)
def o_Mo_turnEdges_5 : or_T := (118, 9, [(0, (2, 0, 0, [150])), (1, (2, 0, 0, [150])), (2, (0, 1, 24, [])), (3, (0, 0, 23, [])), (4, (0, 8, 24, [])), (5, (0, 8, 24, [])), (6, (0, 0, 24, [])), (7, (0, 2, 2, [])), (8, (0, 7, 7, []))], [(7, [5, 8], [4]), (9, [5, 1], [99]), (7, [5, 7], [3]), (7, [4, 6], [3]), (20, [6, 1], [30, 0, 1, 0, 0, -1, 3, 2005000]), (20, [6, 1], [30, 0, -1, 0, 0, 1, 3, 2005000]), (20, [1], [60, 1, 1, 122, 5, 2]), (20, [1, 2], [60, 1, 2, 282, 5, 2, 18]), (20, [1, 3], [60, 1, 3, 286, 5, 2, 18, 95]), (20, [1, 4], [60, 1, 1, 259, 99, 98]), (20, [1], [60, 2, 2, 272, 99, 5, 98, 2]), (20, [1, 3, 4], [60, 1, 2, 287, 99, 98, 18]), (20, [1, 4], [30, 0, 1, 1, 99, -1, 0, 0]), (24, [0, 1], [])], [], [], [(20, [1, 3], [60, 2, 3, 288, 5, 99, 2, 98, 18])], [], [(4, 6, 0, 4294967296), (3, 2, -4294967296, -1), (5, 4, -4294967296, 0)])
theorem oo_Mo_turnEdges_5 {kA : Nat → ClassId} : or_ok PRD kA GG o_Mo_turnEdges_5 := by
  intro A ta ws vs hD hth hl hk hds hf
  have hl : vs.length = 9 := hl
  have hk : ∀ q ∈ ([(0, (2, 0, 0, [150])), (1, (2, 0, 0, [150])), (2, (0, 1, 24, [])), (3, (0, 0, 23, [])), (4, (0, 8, 24, [])), (5, (0, 8, 24, [])), (6, (0, 0, 24, [])), (7, (0, 2, 2, [])), (8, (0, 7, 7, []))] : List (Nat × tv_T)), tv_ok ta q.2 (n_v vs q.1) := hk
  obtain ⟨t0, hk⟩ := List.forall_mem_cons.mp hk
  have t0 : tv_ok ta (2, 0, 0, [150]) (n_v vs 0) := t0
  have r0 : ta (v_ad (n_v vs 0)) = some 150 := tv_rg t0
  obtain ⟨t1, hk⟩ := List.forall_mem_cons.mp hk
  have t1 : tv_ok ta (2, 0, 0, [150]) (n_v vs 1) := t1
  have r1 : ta (v_ad (n_v vs 1)) = some 150 := tv_rg t1
  obtain ⟨t2, hk⟩ := List.forall_mem_cons.mp hk
  have t2 : tv_ok ta (0, 1, 24, []) (n_v vs 2) := t2
  have k2 : 1 ≤ v_iv (n_v vs 2) ∧ v_iv (n_v vs 2) ≤ 24 := tv_rng t2
  obtain ⟨t3, hk⟩ := List.forall_mem_cons.mp hk
  have t3 : tv_ok ta (0, 0, 23, []) (n_v vs 3) := t3
  have k3 : 0 ≤ v_iv (n_v vs 3) ∧ v_iv (n_v vs 3) ≤ 23 := tv_rng t3
  obtain ⟨t4, hk⟩ := List.forall_mem_cons.mp hk
  have t4 : tv_ok ta (0, 8, 24, []) (n_v vs 4) := t4
  have k4 : 8 ≤ v_iv (n_v vs 4) ∧ v_iv (n_v vs 4) ≤ 24 := tv_rng t4
  obtain ⟨t5, hk⟩ := List.forall_mem_cons.mp hk
  have t5 : tv_ok ta (0, 8, 24, []) (n_v vs 5) := t5
  have k5 : 8 ≤ v_iv (n_v vs 5) ∧ v_iv (n_v vs 5) ≤ 24 := tv_rng t5
  obtain ⟨t6, hk⟩ := List.forall_mem_cons.mp hk
  have t6 : tv_ok ta (0, 0, 24, []) (n_v vs 6) := t6
  have k6 : 0 ≤ v_iv (n_v vs 6) ∧ v_iv (n_v vs 6) ≤ 24 := tv_rng t6
  obtain ⟨t7, hk⟩ := List.forall_mem_cons.mp hk
  have t7 : tv_ok ta (0, 2, 2, []) (n_v vs 7) := t7
  have k7 : 2 ≤ v_iv (n_v vs 7) ∧ v_iv (n_v vs 7) ≤ 2 := tv_rng t7
  obtain ⟨t8, hk⟩ := List.forall_mem_cons.mp hk
  have t8 : tv_ok ta (0, 7, 7, []) (n_v vs 8) := t8
  have k8 : 7 ≤ v_iv (n_v vs 8) ∧ v_iv (n_v vs 8) ≤ 7 := tv_rng t8
  have hds : ∀ q ∈ ([(4, 6, 0, 4294967296), (3, 2, -4294967296, -1), (5, 4, -4294967296, 0)] : List of_T), n_iv vs q.2.1 + q.2.2.1 ≤ n_iv vs q.1 ∧ n_iv vs q.1 ≤ n_iv vs q.2.1 + q.2.2.2 := hds
  obtain ⟨d0, hds⟩ := List.forall_mem_cons.mp hds
  have d0 : v_iv (n_v vs 6) + 0 ≤ v_iv (n_v vs 4) ∧ v_iv (n_v vs 4) ≤ v_iv (n_v vs 6) + 4294967296 := d0
  obtain ⟨d1, hds⟩ := List.forall_mem_cons.mp hds
  have d1 : v_iv (n_v vs 2) + (-4294967296) ≤ v_iv (n_v vs 3) ∧ v_iv (n_v vs 3) ≤ v_iv (n_v vs 2) + (-1) := d1
  obtain ⟨d2, hds⟩ := List.forall_mem_cons.mp hds
  have d2 : v_iv (n_v vs 4) + (-4294967296) ≤ v_iv (n_v vs 5) ∧ v_iv (n_v vs 5) ≤ v_iv (n_v vs 4) + 0 := d2
  have hf : fc_ok PRD [(7, [5, 8], [4]), (9, [5, 1], [99]), (7, [5, 7], [3]), (7, [4, 6], [3]), (20, [6, 1], [30, 0, 1, 0, 0, -1, 3, 2005000]), (20, [6, 1], [30, 0, -1, 0, 0, 1, 3, 2005000]), (20, [1], [60, 1, 1, 122, 5, 2]), (20, [1, 2], [60, 1, 2, 282, 5, 2, 18]), (20, [1, 3], [60, 1, 3, 286, 5, 2, 18, 95]), (20, [1, 4], [60, 1, 1, 259, 99, 98]), (20, [1], [60, 2, 2, 272, 99, 5, 98, 2]), (20, [1, 3, 4], [60, 1, 2, 287, 99, 98, 18]), (20, [1, 4], [30, 0, 1, 1, 99, -1, 0, 0]), (24, [0, 1], [])] ta ws vs := hf
  obtain ⟨f0, hf⟩ := fc_un (show (7 : Nat) < 100 from by decide) hf
  have f0 : v_iv (n_v vs 8) < v_iv (n_v vs 5) := f0
  obtain ⟨f1, hf⟩ := fc_un (show (9 : Nat) < 100 from by decide) hf
  have f1 : n_v vs 5 = w_fd ws (v_ad (n_v vs 1)) 99 := f1
  obtain ⟨f2, hf⟩ := fc_un (show (7 : Nat) < 100 from by decide) hf
  have f2 : v_iv (n_v vs 7) ≤ v_iv (n_v vs 5) := f2
  obtain ⟨f3, hf⟩ := fc_un (show (7 : Nat) < 100 from by decide) hf
  have f3 : v_iv (n_v vs 6) ≤ v_iv (n_v vs 4) := f3
  obtain ⟨f4, hf⟩ := fc_un (show (20 : Nat) < 100 from by decide) hf
  have f4 : 1 * v_iv (n_v vs 6) + ((-1) * w_el ws (w_ar ws (n_v vs 1) 2) (w_fi ws (n_v vs 1) 5 + 0).toNat + 0) ≤ 0 := f4
  obtain ⟨f5, hf⟩ := fc_un (show (20 : Nat) < 100 from by decide) hf
  have f5 : (-1) * v_iv (n_v vs 6) + (1 * w_el ws (w_ar ws (n_v vs 1) 2) (w_fi ws (n_v vs 1) 5 + 0).toNat + 0) ≤ 0 := f5
  obtain ⟨f6, hf⟩ := fc_un (show (20 : Nat) < 100 from by decide) hf
  have f6 : SGR (w_fi ws (n_v vs 1) 5) (w_ei ws (w_ar ws (n_v vs 1) 2)) := f6
  obtain ⟨f7, hf⟩ := fc_un (show (20 : Nat) < 100 from by decide) hf
  have f7 : STG (w_fi ws (n_v vs 1) 5) (w_ei ws (w_ar ws (n_v vs 1) 2)) (w_ei ws (w_ar ws (n_v vs 1) 18)) (v_iv (n_v vs 2)) := f7
  obtain ⟨f8, hf⟩ := fc_un (show (20 : Nat) < 100 from by decide) hf
  have f8 : TEI (w_fi ws (n_v vs 1) 5) (w_ei ws (w_ar ws (n_v vs 1) 2)) (w_ei ws (w_ar ws (n_v vs 1) 18)) (w_ei ws (w_ar ws (n_v vs 1) 95)) (v_iv (n_v vs 3)) := f8
  obtain ⟨f9, hf⟩ := fc_un (show (20 : Nat) < 100 from by decide) hf
  have f9 : MBI (w_fi ws (n_v vs 1) 99) (w_ei ws (w_ar ws (n_v vs 1) 98)) (v_iv (n_v vs 4)) := f9
  obtain ⟨f10, hf⟩ := fc_un (show (20 : Nat) < 100 from by decide) hf
  have f10 : MBN (w_fi ws (n_v vs 1) 99) (w_fi ws (n_v vs 1) 5) (w_ei ws (w_ar ws (n_v vs 1) 98)) (w_ei ws (w_ar ws (n_v vs 1) 2)) := f10
  obtain ⟨f11, hf⟩ := fc_un (show (20 : Nat) < 100 from by decide) hf
  have f11 : MBC (w_fi ws (n_v vs 1) 99) (w_ei ws (w_ar ws (n_v vs 1) 98)) (w_ei ws (w_ar ws (n_v vs 1) 18)) (v_iv (n_v vs 3)) (v_iv (n_v vs 4)) := f11
  obtain ⟨f12, hf⟩ := fc_un (show (20 : Nat) < 100 from by decide) hf
  have f12 : 1 * w_fi ws (n_v vs 1) 99 + ((-1) * v_iv (n_v vs 4) + 0) ≤ 0 := f12
  obtain ⟨f13, hf⟩ := fc_un (show (24 : Nat) < 100 from by decide) hf
  have f13 : n_v vs 0 = n_v vs 1 := f13
  have q1 : n_v vs 1 = n_v vs 0 := f13.symm
  rw [q1] at f1
  rw [q1] at f4
  rw [q1] at f5
  rw [q1] at f6
  rw [q1] at f7
  rw [q1] at f8
  rw [q1] at f9
  rw [q1] at f10
  rw [q1] at f11
  rw [q1] at f12
  have cr_0_2 : ta (w_ar ws (n_v vs 0) 2) = some 152 := tv_rg (th_fd hD hth r0 (g := GG_150) rfl (k := 2) (t := (2, 0, 0, [152])) rfl rfl)
  have cr_0_18 : ta (w_ar ws (n_v vs 0) 18) = some 158 := tv_rg (th_fd hD hth r0 (g := GG_150) rfl (k := 18) (t := (2, 0, 0, [158])) rfl rfl)
  have cr_0_95 : ta (w_ar ws (n_v vs 0) 95) = some 216 := tv_rg (th_fd hD hth r0 (g := GG_150) rfl (k := 95) (t := (2, 0, 0, [216])) rfl rfl)
  have cr_0_98 : ta (w_ar ws (n_v vs 0) 98) = some 219 := tv_rg (th_fd hD hth r0 (g := GG_150) rfl (k := 98) (t := (2, 0, 0, [219])) rfl rfl)
  have g1 : v_iv (n_v vs 5) = w_fi ws (n_v vs 0) 99 := congrArg v_iv f1
  have hK_0_18 : ∀ j : Int, 0 ≤ j → j < 24 → (-1) ≤ w_ei ws (w_ar ws (n_v vs 0) 18) j ∧ w_ei ws (w_ar ws (n_v vs 0) 18) j ≤ 23 := fun j h0 h1 => th_el hD hth cr_0_18 (kd := 0) (n := 24) (m := 24) (lo := (-1)) (hi := 23) (rs := []) (L := []) rfl (by decide) (j := j.toNat) (by omega)
  have hK_0_95 : ∀ j : Int, 0 ≤ j → j < 48 → 0 ≤ w_ei ws (w_ar ws (n_v vs 0) 95) j ∧ w_ei ws (w_ar ws (n_v vs 0) 95) j ≤ 1 := fun j h0 h1 => th_el hD hth cr_0_95 (kd := 2) (n := 48) (m := 48) (lo := 0) (hi := 1) (rs := []) (L := []) rfl (by decide) (j := j.toNat) (by omega)
  have hK_0_98 : ∀ j : Int, 0 ≤ j → j < 26 → 0 ≤ w_ei ws (w_ar ws (n_v vs 0) 98) j ∧ w_ei ws (w_ar ws (n_v vs 0) 98) j ≤ 25 := fun j h0 h1 => th_el hD hth cr_0_98 (kd := 0) (n := 26) (m := 26) (lo := 0) (hi := 25) (rs := []) (L := []) rfl (by decide) (j := j.toNat) (by omega)
  have kz_0_99 : 0 ≤ w_fi ws (n_v vs 0) 99 ∧ w_fi ws (n_v vs 0) 99 ≤ 26 := tv_rng (th_fd hD hth r0 (g := GG_150) rfl (k := 99) (t := (0, 0, 26, [])) rfl rfl)
  have nf0 : fc_1 PRD (20, [1, 3], [60, 2, 3, 288, 5, 99, 2, 98, 18]) ws (vs) := by
    refine ⟨fun n hn => ?_, ?_⟩
    · have hn : n ∈ [1, 3] := hn
      rw [hl]
      simp only [List.mem_cons, List.not_mem_nil, or_false] at hn
      show n < 9; omega
    · show MBF (w_fi ws (n_v vs 1) 5) (w_fi ws (n_v vs 1) 99) (w_ei ws (w_ar ws (n_v vs 1) 2)) (w_ei ws (w_ar ws (n_v vs 1) 98)) (w_ei ws (w_ar ws (n_v vs 1) 18)) (v_iv (n_v vs 3))
      rw [q1]
      exact vc_Mo_turnEdges_5_0 (v_iv (n_v vs 2)) (v_iv (n_v vs 3)) (v_iv (n_v vs 4)) (v_iv (n_v vs 5)) (v_iv (n_v vs 6)) (v_iv (n_v vs 7)) (v_iv (n_v vs 8)) (w_fi ws (n_v vs 0) 99) (w_ei ws (w_ar ws (n_v vs 0) 2)) (w_fi ws (n_v vs 0) 5) (w_ei ws (w_ar ws (n_v vs 0) 18)) (w_ei ws (w_ar ws (n_v vs 0) 95)) (w_ei ws (w_ar ws (n_v vs 0) 98)) k2 k3 k4 k5 k6 k7 k8 d0 d1 d2 f0 g1 f2 f3 f4 f5 f6 f7 f8 f9 f10 f11 f12 hK_0_18 hK_0_95 hK_0_98 kz_0_99
  refine ⟨(fun _ h => (by cases h)), [], trivial, ?_, (fun _ h => (by cases h))⟩
  rw [List.append_nil]
  exact List.forall_mem_cons.mpr ⟨⟨show (20 : Nat) < 100 from by decide, nf0⟩, (fun _ h => (by cases h))⟩
set_option maxHeartbeats 4000000 in
theorem vc_Mo_turnEdges_6_0 (x2 : Int) (x3 : Int) (x4 : Int) (x6 : Int) (x9 : Int) (all_0 : Int → Int) (member_0 : Int → Int) (strongOf_0 : Int → Int) (r_0 : Int) (members_0 : Int) (turned_0 : Int → Int) (best_0 : Int → Int) (k2 : 1 ≤ x2 ∧ x2 ≤ 24) (k3 : 0 ≤ x3 ∧ x3 ≤ 23) (k4 : 8 ≤ x4 ∧ x4 ≤ 24) (k6 : 0 ≤ x6 ∧ x6 ≤ 24) (k9 : 0 ≤ x9 ∧ x9 ≤ 0) (d0 : x6 + 0 ≤ x4 ∧ x4 ≤ x6 + 4294967296) (d1 : x2 + (-4294967296) ≤ x3 ∧ x3 ≤ x2 + (-1)) (f0 : MBF (r_0) (members_0) (all_0) (member_0) (strongOf_0) (x3)) (f1 : 1 * x6 + ((-1) * all_0 (r_0 + 0) + 0) ≤ 0) (f2 : (-1) * x6 + (1 * all_0 (r_0 + 0) + 0) ≤ 0) (f3 : SGR (r_0) (all_0)) (f4 : STG (r_0) (all_0) (strongOf_0) (x2)) (f5 : TEI (r_0) (all_0) (strongOf_0) (turned_0) (x3)) (f6 : MBI (members_0) (member_0) (x4)) (f7 : MBN (members_0) (r_0) (member_0) (all_0)) (f8 : MBC (members_0) (member_0) (strongOf_0) (x3) (x4)) (f9 : 1 * members_0 + ((-1) * x4 + 0) ≤ 0) (f11 : BST (members_0) (best_0) (member_0)) (f13 : x6 ≤ x4) (hK_0_18 : ∀ j : Int, 0 ≤ j → j < 24 → (-1) ≤ strongOf_0 j ∧ strongOf_0 j ≤ 23) (hK_0_95 : ∀ j : Int, 0 ≤ j → j < 48 → 0 ≤ turned_0 j ∧ turned_0 j ≤ 1) (hK_0_97 : ∀ j : Int, 0 ≤ j → j < 26 → 0 ≤ best_0 j ∧ best_0 j ≤ 25) (hK_0_98 : ∀ j : Int, 0 ≤ j → j < 26 → 0 ≤ member_0 j ∧ member_0 j ≤ 25) (kz_0_99 : 0 ≤ members_0 ∧ members_0 ≤ 26) : TEJ (r_0) (members_0) (all_0) (strongOf_0) (turned_0) (best_0) (x3) (x9) := by
  first
    | exact tej_start ‹TEI _ _ _ _ _› (by omega)
    | exact tej_skip ‹TEJ _ _ _ _ _ _ _ _› (by omega) (Or.inl (by rw [show all_0 (r_0 + 267 + x4) = x7 by omega]; omega))
    | exact tej_skip ‹TEJ _ _ _ _ _ _ _ _› (by omega) (Or.inr (by rw [show all_0 (r_0 + 315 + x4) = x9 by omega]; omega))
    | exact tej_step (t := x7) (d := x9) (x := x13) (y := x15) ‹TEJ _ _ _ _ _ _ _ _› (by omega) (by omega) (by omega) (by omega) (by omega) (by omega) (by rw [show x7 = x12 by omega]; assumption) (by rw [show x9 = x14 by omega]; assumption) (by assumption) rfl (by omega)
def o_Mo_turnEdges_6 : or_T := (123, 10, [(0, (2, 0, 0, [150])), (1, (2, 0, 0, [150])), (2, (0, 1, 24, [])), (3, (0, 0, 23, [])), (4, (0, 8, 24, [])), (6, (0, 0, 24, [])), (9, (0, 0, 0, []))], [(20, [1, 3], [60, 2, 3, 288, 5, 99, 2, 98, 18]), (20, [6, 1], [30, 0, 1, 0, 0, -1, 3, 2005000]), (20, [6, 1], [30, 0, -1, 0, 0, 1, 3, 2005000]), (20, [1], [60, 1, 1, 122, 5, 2]), (20, [1, 2], [60, 1, 2, 282, 5, 2, 18]), (20, [1, 3], [60, 1, 3, 286, 5, 2, 18, 95]), (20, [1, 4], [60, 1, 1, 259, 99, 98]), (20, [1], [60, 2, 2, 272, 99, 5, 98, 2]), (20, [1, 3, 4], [60, 1, 2, 287, 99, 98, 18]), (20, [1, 4], [30, 0, 1, 1, 99, -1, 0, 0]), (24, [0, 1], []), (20, [1], [60, 1, 2, 269, 99, 97, 98]), (102, [8], [421249166674228752637678660058293402090319712467328523640974082048]), (7, [4, 6], [3])], [], [], [(20, [1, 3, 9], [60, 2, 4, 289, 5, 99, 2, 18, 95, 97])], [], [(4, 6, 0, 4294967296), (3, 2, -4294967296, -1)])
theorem oo_Mo_turnEdges_6 {kA : Nat → ClassId} : or_ok PRD kA GG o_Mo_turnEdges_6 := by
  intro A ta ws vs hD hth hl hk hds hf
  have hl : vs.length = 10 := hl
  have hk : ∀ q ∈ ([(0, (2, 0, 0, [150])), (1, (2, 0, 0, [150])), (2, (0, 1, 24, [])), (3, (0, 0, 23, [])), (4, (0, 8, 24, [])), (6, (0, 0, 24, [])), (9, (0, 0, 0, []))] : List (Nat × tv_T)), tv_ok ta q.2 (n_v vs q.1) := hk
  obtain ⟨t0, hk⟩ := List.forall_mem_cons.mp hk
  have t0 : tv_ok ta (2, 0, 0, [150]) (n_v vs 0) := t0
  have r0 : ta (v_ad (n_v vs 0)) = some 150 := tv_rg t0
  obtain ⟨t1, hk⟩ := List.forall_mem_cons.mp hk
  have t1 : tv_ok ta (2, 0, 0, [150]) (n_v vs 1) := t1
  have r1 : ta (v_ad (n_v vs 1)) = some 150 := tv_rg t1
  obtain ⟨t2, hk⟩ := List.forall_mem_cons.mp hk
  have t2 : tv_ok ta (0, 1, 24, []) (n_v vs 2) := t2
  have k2 : 1 ≤ v_iv (n_v vs 2) ∧ v_iv (n_v vs 2) ≤ 24 := tv_rng t2
  obtain ⟨t3, hk⟩ := List.forall_mem_cons.mp hk
  have t3 : tv_ok ta (0, 0, 23, []) (n_v vs 3) := t3
  have k3 : 0 ≤ v_iv (n_v vs 3) ∧ v_iv (n_v vs 3) ≤ 23 := tv_rng t3
  obtain ⟨t4, hk⟩ := List.forall_mem_cons.mp hk
  have t4 : tv_ok ta (0, 8, 24, []) (n_v vs 4) := t4
  have k4 : 8 ≤ v_iv (n_v vs 4) ∧ v_iv (n_v vs 4) ≤ 24 := tv_rng t4
  obtain ⟨t6, hk⟩ := List.forall_mem_cons.mp hk
  have t6 : tv_ok ta (0, 0, 24, []) (n_v vs 6) := t6
  have k6 : 0 ≤ v_iv (n_v vs 6) ∧ v_iv (n_v vs 6) ≤ 24 := tv_rng t6
  obtain ⟨t9, hk⟩ := List.forall_mem_cons.mp hk
  have t9 : tv_ok ta (0, 0, 0, []) (n_v vs 9) := t9
  have k9 : 0 ≤ v_iv (n_v vs 9) ∧ v_iv (n_v vs 9) ≤ 0 := tv_rng t9
  have hds : ∀ q ∈ ([(4, 6, 0, 4294967296), (3, 2, -4294967296, -1)] : List of_T), n_iv vs q.2.1 + q.2.2.1 ≤ n_iv vs q.1 ∧ n_iv vs q.1 ≤ n_iv vs q.2.1 + q.2.2.2 := hds
  obtain ⟨d0, hds⟩ := List.forall_mem_cons.mp hds
  have d0 : v_iv (n_v vs 6) + 0 ≤ v_iv (n_v vs 4) ∧ v_iv (n_v vs 4) ≤ v_iv (n_v vs 6) + 4294967296 := d0
  obtain ⟨d1, hds⟩ := List.forall_mem_cons.mp hds
  have d1 : v_iv (n_v vs 2) + (-4294967296) ≤ v_iv (n_v vs 3) ∧ v_iv (n_v vs 3) ≤ v_iv (n_v vs 2) + (-1) := d1
  have hf : fc_ok PRD [(20, [1, 3], [60, 2, 3, 288, 5, 99, 2, 98, 18]), (20, [6, 1], [30, 0, 1, 0, 0, -1, 3, 2005000]), (20, [6, 1], [30, 0, -1, 0, 0, 1, 3, 2005000]), (20, [1], [60, 1, 1, 122, 5, 2]), (20, [1, 2], [60, 1, 2, 282, 5, 2, 18]), (20, [1, 3], [60, 1, 3, 286, 5, 2, 18, 95]), (20, [1, 4], [60, 1, 1, 259, 99, 98]), (20, [1], [60, 2, 2, 272, 99, 5, 98, 2]), (20, [1, 3, 4], [60, 1, 2, 287, 99, 98, 18]), (20, [1, 4], [30, 0, 1, 1, 99, -1, 0, 0]), (24, [0, 1], []), (20, [1], [60, 1, 2, 269, 99, 97, 98]), (102, [8], [421249166674228752637678660058293402090319712467328523640974082048]), (7, [4, 6], [3])] ta ws vs := hf
  obtain ⟨f0, hf⟩ := fc_un (show (20 : Nat) < 100 from by decide) hf
  have f0 : MBF (w_fi ws (n_v vs 1) 5) (w_fi ws (n_v vs 1) 99) (w_ei ws (w_ar ws (n_v vs 1) 2)) (w_ei ws (w_ar ws (n_v vs 1) 98)) (w_ei ws (w_ar ws (n_v vs 1) 18)) (v_iv (n_v vs 3)) := f0
  obtain ⟨f1, hf⟩ := fc_un (show (20 : Nat) < 100 from by decide) hf
  have f1 : 1 * v_iv (n_v vs 6) + ((-1) * w_el ws (w_ar ws (n_v vs 1) 2) (w_fi ws (n_v vs 1) 5 + 0).toNat + 0) ≤ 0 := f1
  obtain ⟨f2, hf⟩ := fc_un (show (20 : Nat) < 100 from by decide) hf
  have f2 : (-1) * v_iv (n_v vs 6) + (1 * w_el ws (w_ar ws (n_v vs 1) 2) (w_fi ws (n_v vs 1) 5 + 0).toNat + 0) ≤ 0 := f2
  obtain ⟨f3, hf⟩ := fc_un (show (20 : Nat) < 100 from by decide) hf
  have f3 : SGR (w_fi ws (n_v vs 1) 5) (w_ei ws (w_ar ws (n_v vs 1) 2)) := f3
  obtain ⟨f4, hf⟩ := fc_un (show (20 : Nat) < 100 from by decide) hf
  have f4 : STG (w_fi ws (n_v vs 1) 5) (w_ei ws (w_ar ws (n_v vs 1) 2)) (w_ei ws (w_ar ws (n_v vs 1) 18)) (v_iv (n_v vs 2)) := f4
  obtain ⟨f5, hf⟩ := fc_un (show (20 : Nat) < 100 from by decide) hf
  have f5 : TEI (w_fi ws (n_v vs 1) 5) (w_ei ws (w_ar ws (n_v vs 1) 2)) (w_ei ws (w_ar ws (n_v vs 1) 18)) (w_ei ws (w_ar ws (n_v vs 1) 95)) (v_iv (n_v vs 3)) := f5
  obtain ⟨f6, hf⟩ := fc_un (show (20 : Nat) < 100 from by decide) hf
  have f6 : MBI (w_fi ws (n_v vs 1) 99) (w_ei ws (w_ar ws (n_v vs 1) 98)) (v_iv (n_v vs 4)) := f6
  obtain ⟨f7, hf⟩ := fc_un (show (20 : Nat) < 100 from by decide) hf
  have f7 : MBN (w_fi ws (n_v vs 1) 99) (w_fi ws (n_v vs 1) 5) (w_ei ws (w_ar ws (n_v vs 1) 98)) (w_ei ws (w_ar ws (n_v vs 1) 2)) := f7
  obtain ⟨f8, hf⟩ := fc_un (show (20 : Nat) < 100 from by decide) hf
  have f8 : MBC (w_fi ws (n_v vs 1) 99) (w_ei ws (w_ar ws (n_v vs 1) 98)) (w_ei ws (w_ar ws (n_v vs 1) 18)) (v_iv (n_v vs 3)) (v_iv (n_v vs 4)) := f8
  obtain ⟨f9, hf⟩ := fc_un (show (20 : Nat) < 100 from by decide) hf
  have f9 : 1 * w_fi ws (n_v vs 1) 99 + ((-1) * v_iv (n_v vs 4) + 0) ≤ 0 := f9
  obtain ⟨f10, hf⟩ := fc_un (show (24 : Nat) < 100 from by decide) hf
  have f10 : n_v vs 0 = n_v vs 1 := f10
  obtain ⟨f11, hf⟩ := fc_un (show (20 : Nat) < 100 from by decide) hf
  have f11 : BST (w_fi ws (n_v vs 1) 99) (w_ei ws (w_ar ws (n_v vs 1) 97)) (w_ei ws (w_ar ws (n_v vs 1) 98)) := f11
  obtain ⟨ta1, w1, le1, ⟨_, s1⟩, hf⟩ := fc_us (show ¬ (102 : Nat) < 100 from by decide) hf
  obtain ⟨f13, hf⟩ := fc_un (show (7 : Nat) < 100 from by decide) hf
  have f13 : v_iv (n_v vs 6) ≤ v_iv (n_v vs 4) := f13
  have q1 : n_v vs 1 = n_v vs 0 := f10.symm
  rw [q1] at f0
  rw [q1] at f1
  rw [q1] at f2
  rw [q1] at f3
  rw [q1] at f4
  rw [q1] at f5
  rw [q1] at f6
  rw [q1] at f7
  rw [q1] at f8
  rw [q1] at f9
  rw [q1] at f11
  have cr_0_2 : ta (w_ar ws (n_v vs 0) 2) = some 152 := tv_rg (th_fd hD hth r0 (g := GG_150) rfl (k := 2) (t := (2, 0, 0, [152])) rfl rfl)
  have cr_0_18 : ta (w_ar ws (n_v vs 0) 18) = some 158 := tv_rg (th_fd hD hth r0 (g := GG_150) rfl (k := 18) (t := (2, 0, 0, [158])) rfl rfl)
  have cr_0_95 : ta (w_ar ws (n_v vs 0) 95) = some 216 := tv_rg (th_fd hD hth r0 (g := GG_150) rfl (k := 95) (t := (2, 0, 0, [216])) rfl rfl)
  have cr_0_97 : ta (w_ar ws (n_v vs 0) 97) = some 218 := tv_rg (th_fd hD hth r0 (g := GG_150) rfl (k := 97) (t := (2, 0, 0, [218])) rfl rfl)
  have cr_0_98 : ta (w_ar ws (n_v vs 0) 98) = some 219 := tv_rg (th_fd hD hth r0 (g := GG_150) rfl (k := 98) (t := (2, 0, 0, [219])) rfl rfl)
  have hK_0_18 : ∀ j : Int, 0 ≤ j → j < 24 → (-1) ≤ w_ei ws (w_ar ws (n_v vs 0) 18) j ∧ w_ei ws (w_ar ws (n_v vs 0) 18) j ≤ 23 := fun j h0 h1 => th_el hD hth cr_0_18 (kd := 0) (n := 24) (m := 24) (lo := (-1)) (hi := 23) (rs := []) (L := []) rfl (by decide) (j := j.toNat) (by omega)
  have hK_0_95 : ∀ j : Int, 0 ≤ j → j < 48 → 0 ≤ w_ei ws (w_ar ws (n_v vs 0) 95) j ∧ w_ei ws (w_ar ws (n_v vs 0) 95) j ≤ 1 := fun j h0 h1 => th_el hD hth cr_0_95 (kd := 2) (n := 48) (m := 48) (lo := 0) (hi := 1) (rs := []) (L := []) rfl (by decide) (j := j.toNat) (by omega)
  have hK_0_97 : ∀ j : Int, 0 ≤ j → j < 26 → 0 ≤ w_ei ws (w_ar ws (n_v vs 0) 97) j ∧ w_ei ws (w_ar ws (n_v vs 0) 97) j ≤ 25 := fun j h0 h1 => th_el hD hth cr_0_97 (kd := 0) (n := 26) (m := 26) (lo := 0) (hi := 25) (rs := []) (L := []) rfl (by decide) (j := j.toNat) (by omega)
  have hK_0_98 : ∀ j : Int, 0 ≤ j → j < 26 → 0 ≤ w_ei ws (w_ar ws (n_v vs 0) 98) j ∧ w_ei ws (w_ar ws (n_v vs 0) 98) j ≤ 25 := fun j h0 h1 => th_el hD hth cr_0_98 (kd := 0) (n := 26) (m := 26) (lo := 0) (hi := 25) (rs := []) (L := []) rfl (by decide) (j := j.toNat) (by omega)
  have kz_0_99 : 0 ≤ w_fi ws (n_v vs 0) 99 ∧ w_fi ws (n_v vs 0) 99 ≤ 26 := tv_rng (th_fd hD hth r0 (g := GG_150) rfl (k := 99) (t := (0, 0, 26, [])) rfl rfl)
  have nf0 : fc_1 PRD (20, [1, 3, 9], [60, 2, 4, 289, 5, 99, 2, 18, 95, 97]) ws (vs) := by
    refine ⟨fun n hn => ?_, ?_⟩
    · have hn : n ∈ [1, 3, 9] := hn
      rw [hl]
      simp only [List.mem_cons, List.not_mem_nil, or_false] at hn
      show n < 10; omega
    · show TEJ (w_fi ws (n_v vs 1) 5) (w_fi ws (n_v vs 1) 99) (w_ei ws (w_ar ws (n_v vs 1) 2)) (w_ei ws (w_ar ws (n_v vs 1) 18)) (w_ei ws (w_ar ws (n_v vs 1) 95)) (w_ei ws (w_ar ws (n_v vs 1) 97)) (v_iv (n_v vs 3)) (v_iv (n_v vs 9))
      rw [q1]
      exact vc_Mo_turnEdges_6_0 (v_iv (n_v vs 2)) (v_iv (n_v vs 3)) (v_iv (n_v vs 4)) (v_iv (n_v vs 6)) (v_iv (n_v vs 9)) (w_ei ws (w_ar ws (n_v vs 0) 2)) (w_ei ws (w_ar ws (n_v vs 0) 98)) (w_ei ws (w_ar ws (n_v vs 0) 18)) (w_fi ws (n_v vs 0) 5) (w_fi ws (n_v vs 0) 99) (w_ei ws (w_ar ws (n_v vs 0) 95)) (w_ei ws (w_ar ws (n_v vs 0) 97)) k2 k3 k4 k6 k9 d0 d1 f0 f1 f2 f3 f4 f5 f6 f7 f8 f9 f11 f13 hK_0_18 hK_0_95 hK_0_97 hK_0_98 kz_0_99
  refine ⟨(fun _ h => (by cases h)), [], trivial, ?_, (fun _ h => (by cases h))⟩
  rw [List.append_nil]
  exact List.forall_mem_cons.mpr ⟨⟨show (20 : Nat) < 100 from by decide, nf0⟩, (fun _ h => (by cases h))⟩
set_option maxHeartbeats 4000000 in
theorem vc_Mo_turnEdges_7_0 (x2 : Int) (x3 : Int) (x4 : Int) (x5 : Int) (x6 : Int) (x7 : Int) (x8 : Int) (members_0 : Int) (all_0 : Int → Int) (r_0 : Int) (strongOf_0 : Int → Int) (turned_0 : Int → Int) (member_0 : Int → Int) (k2 : 1 ≤ x2 ∧ x2 ≤ 24) (k3 : 0 ≤ x3 ∧ x3 ≤ 23) (k4 : 2 ≤ x4 ∧ x4 ≤ 24) (k5 : 2 ≤ x5 ∧ x5 ≤ 7) (k6 : 0 ≤ x6 ∧ x6 ≤ 24) (k7 : 2 ≤ x7 ∧ x7 ≤ 2) (k8 : 7 ≤ x8 ∧ x8 ≤ 7) (d0 : x6 + 0 ≤ x4 ∧ x4 ≤ x6 + 4294967296) (d1 : x2 + (-4294967296) ≤ x3 ∧ x3 ≤ x2 + (-1)) (d2 : x4 + (-4294967296) ≤ x5 ∧ x5 ≤ x4 + 0) (f0 : x5 ≤ x8) (g1 : x5 = members_0) (f2 : x7 ≤ x5) (f3 : x6 ≤ x4) (f4 : 1 * x6 + ((-1) * all_0 (r_0 + 0) + 0) ≤ 0) (f5 : (-1) * x6 + (1 * all_0 (r_0 + 0) + 0) ≤ 0) (f6 : SGR (r_0) (all_0)) (f7 : STG (r_0) (all_0) (strongOf_0) (x2)) (f8 : TEI (r_0) (all_0) (strongOf_0) (turned_0) (x3)) (f9 : MBI (members_0) (member_0) (x4)) (f10 : MBN (members_0) (r_0) (member_0) (all_0)) (f11 : MBC (members_0) (member_0) (strongOf_0) (x3) (x4)) (f12 : 1 * members_0 + ((-1) * x4 + 0) ≤ 0) (hK_0_18 : ∀ j : Int, 0 ≤ j → j < 24 → (-1) ≤ strongOf_0 j ∧ strongOf_0 j ≤ 23) (hK_0_95 : ∀ j : Int, 0 ≤ j → j < 48 → 0 ≤ turned_0 j ∧ turned_0 j ≤ 1) (hK_0_98 : ∀ j : Int, 0 ≤ j → j < 26 → 0 ≤ member_0 j ∧ member_0 j ≤ 25) (kz_0_99 : 0 ≤ members_0 ∧ members_0 ≤ 26) : MBF (r_0) (members_0) (all_0) (member_0) (strongOf_0) (x3) := by
  try simp only [Int.add_zero] at *
  first
    | assumption
    | (have h := ‹MBC _ _ _ _ _›; intro a a0 a1 a2; exact h a a0 (by omega) a2)
set_option maxHeartbeats 4000000 in
theorem vc_Mo_turnEdges_7_1 (x2 : Int) (x3 : Int) (x4 : Int) (x5 : Int) (x6 : Int) (x7 : Int) (x8 : Int) (members_0 : Int) (all_0 : Int → Int) (r_0 : Int) (strongOf_0 : Int → Int) (turned_0 : Int → Int) (member_0 : Int → Int) (k2 : 1 ≤ x2 ∧ x2 ≤ 24) (k3 : 0 ≤ x3 ∧ x3 ≤ 23) (k4 : 2 ≤ x4 ∧ x4 ≤ 24) (k5 : 2 ≤ x5 ∧ x5 ≤ 7) (k6 : 0 ≤ x6 ∧ x6 ≤ 24) (k7 : 2 ≤ x7 ∧ x7 ≤ 2) (k8 : 7 ≤ x8 ∧ x8 ≤ 7) (d0 : x6 + 0 ≤ x4 ∧ x4 ≤ x6 + 4294967296) (d1 : x2 + (-4294967296) ≤ x3 ∧ x3 ≤ x2 + (-1)) (d2 : x4 + (-4294967296) ≤ x5 ∧ x5 ≤ x4 + 0) (f0 : x5 ≤ x8) (g1 : x5 = members_0) (f2 : x7 ≤ x5) (f3 : x6 ≤ x4) (f4 : 1 * x6 + ((-1) * all_0 (r_0 + 0) + 0) ≤ 0) (f5 : (-1) * x6 + (1 * all_0 (r_0 + 0) + 0) ≤ 0) (f6 : SGR (r_0) (all_0)) (f7 : STG (r_0) (all_0) (strongOf_0) (x2)) (f8 : TEI (r_0) (all_0) (strongOf_0) (turned_0) (x3)) (f9 : MBI (members_0) (member_0) (x4)) (f10 : MBN (members_0) (r_0) (member_0) (all_0)) (f11 : MBC (members_0) (member_0) (strongOf_0) (x3) (x4)) (f12 : 1 * members_0 + ((-1) * x4 + 0) ≤ 0) (hK_0_18 : ∀ j : Int, 0 ≤ j → j < 24 → (-1) ≤ strongOf_0 j ∧ strongOf_0 j ≤ 23) (hK_0_95 : ∀ j : Int, 0 ≤ j → j < 48 → 0 ≤ turned_0 j ∧ turned_0 j ≤ 1) (hK_0_98 : ∀ j : Int, 0 ≤ j → j < 26 → 0 ≤ member_0 j ∧ member_0 j ≤ 25) (kz_0_99 : 0 ≤ members_0 ∧ members_0 ≤ 26) : members_0 ≤ 7 := by
  try simp only [Int.add_zero] at *
  omega
set_option maxHeartbeats 4000000 in
theorem vc_Mo_turnEdges_7_2 (x2 : Int) (x3 : Int) (x4 : Int) (x5 : Int) (x6 : Int) (x7 : Int) (x8 : Int) (members_0 : Int) (all_0 : Int → Int) (r_0 : Int) (strongOf_0 : Int → Int) (turned_0 : Int → Int) (member_0 : Int → Int) (k2 : 1 ≤ x2 ∧ x2 ≤ 24) (k3 : 0 ≤ x3 ∧ x3 ≤ 23) (k4 : 2 ≤ x4 ∧ x4 ≤ 24) (k5 : 2 ≤ x5 ∧ x5 ≤ 7) (k6 : 0 ≤ x6 ∧ x6 ≤ 24) (k7 : 2 ≤ x7 ∧ x7 ≤ 2) (k8 : 7 ≤ x8 ∧ x8 ≤ 7) (d0 : x6 + 0 ≤ x4 ∧ x4 ≤ x6 + 4294967296) (d1 : x2 + (-4294967296) ≤ x3 ∧ x3 ≤ x2 + (-1)) (d2 : x4 + (-4294967296) ≤ x5 ∧ x5 ≤ x4 + 0) (f0 : x5 ≤ x8) (g1 : x5 = members_0) (f2 : x7 ≤ x5) (f3 : x6 ≤ x4) (f4 : 1 * x6 + ((-1) * all_0 (r_0 + 0) + 0) ≤ 0) (f5 : (-1) * x6 + (1 * all_0 (r_0 + 0) + 0) ≤ 0) (f6 : SGR (r_0) (all_0)) (f7 : STG (r_0) (all_0) (strongOf_0) (x2)) (f8 : TEI (r_0) (all_0) (strongOf_0) (turned_0) (x3)) (f9 : MBI (members_0) (member_0) (x4)) (f10 : MBN (members_0) (r_0) (member_0) (all_0)) (f11 : MBC (members_0) (member_0) (strongOf_0) (x3) (x4)) (f12 : 1 * members_0 + ((-1) * x4 + 0) ≤ 0) (hK_0_18 : ∀ j : Int, 0 ≤ j → j < 24 → (-1) ≤ strongOf_0 j ∧ strongOf_0 j ≤ 23) (hK_0_95 : ∀ j : Int, 0 ≤ j → j < 48 → 0 ≤ turned_0 j ∧ turned_0 j ≤ 1) (hK_0_98 : ∀ j : Int, 0 ≤ j → j < 26 → 0 ≤ member_0 j ∧ member_0 j ≤ 25) (kz_0_99 : 0 ≤ members_0 ∧ members_0 ≤ 26) : MBD (members_0) (member_0) := by
  exact ‹MBI _ _ _›.1
def o_Mo_turnEdges_7 : or_T := (111, 9, [(0, (2, 0, 0, [150])), (1, (2, 0, 0, [150])), (2, (0, 1, 24, [])), (3, (0, 0, 23, [])), (4, (0, 2, 24, [])), (5, (0, 2, 7, [])), (6, (0, 0, 24, [])), (7, (0, 2, 2, [])), (8, (0, 7, 7, []))], [(7, [5, 8], [5]), (9, [5, 1], [99]), (7, [5, 7], [3]), (7, [4, 6], [3]), (20, [6, 1], [30, 0, 1, 0, 0, -1, 3, 2005000]), (20, [6, 1], [30, 0, -1, 0, 0, 1, 3, 2005000]), (20, [1], [60, 1, 1, 122, 5, 2]), (20, [1, 2], [60, 1, 2, 282, 5, 2, 18]), (20, [1, 3], [60, 1, 3, 286, 5, 2, 18, 95]), (20, [1, 4], [60, 1, 1, 259, 99, 98]), (20, [1], [60, 2, 2, 272, 99, 5, 98, 2]), (20, [1, 3, 4], [60, 1, 2, 287, 99, 98, 18]), (20, [1, 4], [30, 0, 1, 1, 99, -1, 0, 0]), (24, [0, 1], [])], [], [], [(20, [1, 3], [60, 2, 3, 288, 5, 99, 2, 98, 18]), (20, [1], [50, 1, 0, 99, 0, 3, 2, 0, 99, 0, 7]), (20, [1], [60, 1, 1, 258, 99, 98])], [], [(4, 6, 0, 4294967296), (3, 2, -4294967296, -1), (5, 4, -4294967296, 0)])
theorem oo_Mo_turnEdges_7 {kA : Nat → ClassId} : or_ok PRD kA GG o_Mo_turnEdges_7 := by
  intro A ta ws vs hD hth hl hk hds hf
  have hl : vs.length = 9 := hl
  have hk : ∀ q ∈ ([(0, (2, 0, 0, [150])), (1, (2, 0, 0, [150])), (2, (0, 1, 24, [])), (3, (0, 0, 23, [])), (4, (0, 2, 24, [])), (5, (0, 2, 7, [])), (6, (0, 0, 24, [])), (7, (0, 2, 2, [])), (8, (0, 7, 7, []))] : List (Nat × tv_T)), tv_ok ta q.2 (n_v vs q.1) := hk
  obtain ⟨t0, hk⟩ := List.forall_mem_cons.mp hk
  have t0 : tv_ok ta (2, 0, 0, [150]) (n_v vs 0) := t0
  have r0 : ta (v_ad (n_v vs 0)) = some 150 := tv_rg t0
  obtain ⟨t1, hk⟩ := List.forall_mem_cons.mp hk
  have t1 : tv_ok ta (2, 0, 0, [150]) (n_v vs 1) := t1
  have r1 : ta (v_ad (n_v vs 1)) = some 150 := tv_rg t1
  obtain ⟨t2, hk⟩ := List.forall_mem_cons.mp hk
  have t2 : tv_ok ta (0, 1, 24, []) (n_v vs 2) := t2
  have k2 : 1 ≤ v_iv (n_v vs 2) ∧ v_iv (n_v vs 2) ≤ 24 := tv_rng t2
  obtain ⟨t3, hk⟩ := List.forall_mem_cons.mp hk
  have t3 : tv_ok ta (0, 0, 23, []) (n_v vs 3) := t3
  have k3 : 0 ≤ v_iv (n_v vs 3) ∧ v_iv (n_v vs 3) ≤ 23 := tv_rng t3
  obtain ⟨t4, hk⟩ := List.forall_mem_cons.mp hk
  have t4 : tv_ok ta (0, 2, 24, []) (n_v vs 4) := t4
  have k4 : 2 ≤ v_iv (n_v vs 4) ∧ v_iv (n_v vs 4) ≤ 24 := tv_rng t4
  obtain ⟨t5, hk⟩ := List.forall_mem_cons.mp hk
  have t5 : tv_ok ta (0, 2, 7, []) (n_v vs 5) := t5
  have k5 : 2 ≤ v_iv (n_v vs 5) ∧ v_iv (n_v vs 5) ≤ 7 := tv_rng t5
  obtain ⟨t6, hk⟩ := List.forall_mem_cons.mp hk
  have t6 : tv_ok ta (0, 0, 24, []) (n_v vs 6) := t6
  have k6 : 0 ≤ v_iv (n_v vs 6) ∧ v_iv (n_v vs 6) ≤ 24 := tv_rng t6
  obtain ⟨t7, hk⟩ := List.forall_mem_cons.mp hk
  have t7 : tv_ok ta (0, 2, 2, []) (n_v vs 7) := t7
  have k7 : 2 ≤ v_iv (n_v vs 7) ∧ v_iv (n_v vs 7) ≤ 2 := tv_rng t7
  obtain ⟨t8, hk⟩ := List.forall_mem_cons.mp hk
  have t8 : tv_ok ta (0, 7, 7, []) (n_v vs 8) := t8
  have k8 : 7 ≤ v_iv (n_v vs 8) ∧ v_iv (n_v vs 8) ≤ 7 := tv_rng t8
  have hds : ∀ q ∈ ([(4, 6, 0, 4294967296), (3, 2, -4294967296, -1), (5, 4, -4294967296, 0)] : List of_T), n_iv vs q.2.1 + q.2.2.1 ≤ n_iv vs q.1 ∧ n_iv vs q.1 ≤ n_iv vs q.2.1 + q.2.2.2 := hds
  obtain ⟨d0, hds⟩ := List.forall_mem_cons.mp hds
  have d0 : v_iv (n_v vs 6) + 0 ≤ v_iv (n_v vs 4) ∧ v_iv (n_v vs 4) ≤ v_iv (n_v vs 6) + 4294967296 := d0
  obtain ⟨d1, hds⟩ := List.forall_mem_cons.mp hds
  have d1 : v_iv (n_v vs 2) + (-4294967296) ≤ v_iv (n_v vs 3) ∧ v_iv (n_v vs 3) ≤ v_iv (n_v vs 2) + (-1) := d1
  obtain ⟨d2, hds⟩ := List.forall_mem_cons.mp hds
  have d2 : v_iv (n_v vs 4) + (-4294967296) ≤ v_iv (n_v vs 5) ∧ v_iv (n_v vs 5) ≤ v_iv (n_v vs 4) + 0 := d2
  have hf : fc_ok PRD [(7, [5, 8], [5]), (9, [5, 1], [99]), (7, [5, 7], [3]), (7, [4, 6], [3]), (20, [6, 1], [30, 0, 1, 0, 0, -1, 3, 2005000]), (20, [6, 1], [30, 0, -1, 0, 0, 1, 3, 2005000]), (20, [1], [60, 1, 1, 122, 5, 2]), (20, [1, 2], [60, 1, 2, 282, 5, 2, 18]), (20, [1, 3], [60, 1, 3, 286, 5, 2, 18, 95]), (20, [1, 4], [60, 1, 1, 259, 99, 98]), (20, [1], [60, 2, 2, 272, 99, 5, 98, 2]), (20, [1, 3, 4], [60, 1, 2, 287, 99, 98, 18]), (20, [1, 4], [30, 0, 1, 1, 99, -1, 0, 0]), (24, [0, 1], [])] ta ws vs := hf
  obtain ⟨f0, hf⟩ := fc_un (show (7 : Nat) < 100 from by decide) hf
  have f0 : v_iv (n_v vs 5) ≤ v_iv (n_v vs 8) := f0
  obtain ⟨f1, hf⟩ := fc_un (show (9 : Nat) < 100 from by decide) hf
  have f1 : n_v vs 5 = w_fd ws (v_ad (n_v vs 1)) 99 := f1
  obtain ⟨f2, hf⟩ := fc_un (show (7 : Nat) < 100 from by decide) hf
  have f2 : v_iv (n_v vs 7) ≤ v_iv (n_v vs 5) := f2
  obtain ⟨f3, hf⟩ := fc_un (show (7 : Nat) < 100 from by decide) hf
  have f3 : v_iv (n_v vs 6) ≤ v_iv (n_v vs 4) := f3
  obtain ⟨f4, hf⟩ := fc_un (show (20 : Nat) < 100 from by decide) hf
  have f4 : 1 * v_iv (n_v vs 6) + ((-1) * w_el ws (w_ar ws (n_v vs 1) 2) (w_fi ws (n_v vs 1) 5 + 0).toNat + 0) ≤ 0 := f4
  obtain ⟨f5, hf⟩ := fc_un (show (20 : Nat) < 100 from by decide) hf
  have f5 : (-1) * v_iv (n_v vs 6) + (1 * w_el ws (w_ar ws (n_v vs 1) 2) (w_fi ws (n_v vs 1) 5 + 0).toNat + 0) ≤ 0 := f5
  obtain ⟨f6, hf⟩ := fc_un (show (20 : Nat) < 100 from by decide) hf
  have f6 : SGR (w_fi ws (n_v vs 1) 5) (w_ei ws (w_ar ws (n_v vs 1) 2)) := f6
  obtain ⟨f7, hf⟩ := fc_un (show (20 : Nat) < 100 from by decide) hf
  have f7 : STG (w_fi ws (n_v vs 1) 5) (w_ei ws (w_ar ws (n_v vs 1) 2)) (w_ei ws (w_ar ws (n_v vs 1) 18)) (v_iv (n_v vs 2)) := f7
  obtain ⟨f8, hf⟩ := fc_un (show (20 : Nat) < 100 from by decide) hf
  have f8 : TEI (w_fi ws (n_v vs 1) 5) (w_ei ws (w_ar ws (n_v vs 1) 2)) (w_ei ws (w_ar ws (n_v vs 1) 18)) (w_ei ws (w_ar ws (n_v vs 1) 95)) (v_iv (n_v vs 3)) := f8
  obtain ⟨f9, hf⟩ := fc_un (show (20 : Nat) < 100 from by decide) hf
  have f9 : MBI (w_fi ws (n_v vs 1) 99) (w_ei ws (w_ar ws (n_v vs 1) 98)) (v_iv (n_v vs 4)) := f9
  obtain ⟨f10, hf⟩ := fc_un (show (20 : Nat) < 100 from by decide) hf
  have f10 : MBN (w_fi ws (n_v vs 1) 99) (w_fi ws (n_v vs 1) 5) (w_ei ws (w_ar ws (n_v vs 1) 98)) (w_ei ws (w_ar ws (n_v vs 1) 2)) := f10
  obtain ⟨f11, hf⟩ := fc_un (show (20 : Nat) < 100 from by decide) hf
  have f11 : MBC (w_fi ws (n_v vs 1) 99) (w_ei ws (w_ar ws (n_v vs 1) 98)) (w_ei ws (w_ar ws (n_v vs 1) 18)) (v_iv (n_v vs 3)) (v_iv (n_v vs 4)) := f11
  obtain ⟨f12, hf⟩ := fc_un (show (20 : Nat) < 100 from by decide) hf
  have f12 : 1 * w_fi ws (n_v vs 1) 99 + ((-1) * v_iv (n_v vs 4) + 0) ≤ 0 := f12
  obtain ⟨f13, hf⟩ := fc_un (show (24 : Nat) < 100 from by decide) hf
  have f13 : n_v vs 0 = n_v vs 1 := f13
  have q1 : n_v vs 1 = n_v vs 0 := f13.symm
  rw [q1] at f1
  rw [q1] at f4
  rw [q1] at f5
  rw [q1] at f6
  rw [q1] at f7
  rw [q1] at f8
  rw [q1] at f9
  rw [q1] at f10
  rw [q1] at f11
  rw [q1] at f12
  have cr_0_2 : ta (w_ar ws (n_v vs 0) 2) = some 152 := tv_rg (th_fd hD hth r0 (g := GG_150) rfl (k := 2) (t := (2, 0, 0, [152])) rfl rfl)
  have cr_0_18 : ta (w_ar ws (n_v vs 0) 18) = some 158 := tv_rg (th_fd hD hth r0 (g := GG_150) rfl (k := 18) (t := (2, 0, 0, [158])) rfl rfl)
  have cr_0_95 : ta (w_ar ws (n_v vs 0) 95) = some 216 := tv_rg (th_fd hD hth r0 (g := GG_150) rfl (k := 95) (t := (2, 0, 0, [216])) rfl rfl)
  have cr_0_98 : ta (w_ar ws (n_v vs 0) 98) = some 219 := tv_rg (th_fd hD hth r0 (g := GG_150) rfl (k := 98) (t := (2, 0, 0, [219])) rfl rfl)
  have g1 : v_iv (n_v vs 5) = w_fi ws (n_v vs 0) 99 := congrArg v_iv f1
  have hK_0_18 : ∀ j : Int, 0 ≤ j → j < 24 → (-1) ≤ w_ei ws (w_ar ws (n_v vs 0) 18) j ∧ w_ei ws (w_ar ws (n_v vs 0) 18) j ≤ 23 := fun j h0 h1 => th_el hD hth cr_0_18 (kd := 0) (n := 24) (m := 24) (lo := (-1)) (hi := 23) (rs := []) (L := []) rfl (by decide) (j := j.toNat) (by omega)
  have hK_0_95 : ∀ j : Int, 0 ≤ j → j < 48 → 0 ≤ w_ei ws (w_ar ws (n_v vs 0) 95) j ∧ w_ei ws (w_ar ws (n_v vs 0) 95) j ≤ 1 := fun j h0 h1 => th_el hD hth cr_0_95 (kd := 2) (n := 48) (m := 48) (lo := 0) (hi := 1) (rs := []) (L := []) rfl (by decide) (j := j.toNat) (by omega)
  have hK_0_98 : ∀ j : Int, 0 ≤ j → j < 26 → 0 ≤ w_ei ws (w_ar ws (n_v vs 0) 98) j ∧ w_ei ws (w_ar ws (n_v vs 0) 98) j ≤ 25 := fun j h0 h1 => th_el hD hth cr_0_98 (kd := 0) (n := 26) (m := 26) (lo := 0) (hi := 25) (rs := []) (L := []) rfl (by decide) (j := j.toNat) (by omega)
  have kz_0_99 : 0 ≤ w_fi ws (n_v vs 0) 99 ∧ w_fi ws (n_v vs 0) 99 ≤ 26 := tv_rng (th_fd hD hth r0 (g := GG_150) rfl (k := 99) (t := (0, 0, 26, [])) rfl rfl)
  have nf0 : fc_1 PRD (20, [1, 3], [60, 2, 3, 288, 5, 99, 2, 98, 18]) ws (vs) := by
    refine ⟨fun n hn => ?_, ?_⟩
    · have hn : n ∈ [1, 3] := hn
      rw [hl]
      simp only [List.mem_cons, List.not_mem_nil, or_false] at hn
      show n < 9; omega
    · show MBF (w_fi ws (n_v vs 1) 5) (w_fi ws (n_v vs 1) 99) (w_ei ws (w_ar ws (n_v vs 1) 2)) (w_ei ws (w_ar ws (n_v vs 1) 98)) (w_ei ws (w_ar ws (n_v vs 1) 18)) (v_iv (n_v vs 3))
      rw [q1]
      exact vc_Mo_turnEdges_7_0 (v_iv (n_v vs 2)) (v_iv (n_v vs 3)) (v_iv (n_v vs 4)) (v_iv (n_v vs 5)) (v_iv (n_v vs 6)) (v_iv (n_v vs 7)) (v_iv (n_v vs 8)) (w_fi ws (n_v vs 0) 99) (w_ei ws (w_ar ws (n_v vs 0) 2)) (w_fi ws (n_v vs 0) 5) (w_ei ws (w_ar ws (n_v vs 0) 18)) (w_ei ws (w_ar ws (n_v vs 0) 95)) (w_ei ws (w_ar ws (n_v vs 0) 98)) k2 k3 k4 k5 k6 k7 k8 d0 d1 d2 f0 g1 f2 f3 f4 f5 f6 f7 f8 f9 f10 f11 f12 hK_0_18 hK_0_95 hK_0_98 kz_0_99
  have nf1 : fc_1 PRD (20, [1], [50, 1, 0, 99, 0, 3, 2, 0, 99, 0, 7]) ws (vs) := by
    refine ⟨fun n hn => ?_, ?_⟩
    · have hn : n ∈ [1] := hn
      rw [hl]
      simp only [List.mem_cons, List.not_mem_nil, or_false] at hn
      show n < 9; omega
    · show w_fi ws (n_v vs 1) 99 ≤ 7
      rw [q1]
      exact vc_Mo_turnEdges_7_1 (v_iv (n_v vs 2)) (v_iv (n_v vs 3)) (v_iv (n_v vs 4)) (v_iv (n_v vs 5)) (v_iv (n_v vs 6)) (v_iv (n_v vs 7)) (v_iv (n_v vs 8)) (w_fi ws (n_v vs 0) 99) (w_ei ws (w_ar ws (n_v vs 0) 2)) (w_fi ws (n_v vs 0) 5) (w_ei ws (w_ar ws (n_v vs 0) 18)) (w_ei ws (w_ar ws (n_v vs 0) 95)) (w_ei ws (w_ar ws (n_v vs 0) 98)) k2 k3 k4 k5 k6 k7 k8 d0 d1 d2 f0 g1 f2 f3 f4 f5 f6 f7 f8 f9 f10 f11 f12 hK_0_18 hK_0_95 hK_0_98 kz_0_99
  have nf2 : fc_1 PRD (20, [1], [60, 1, 1, 258, 99, 98]) ws (vs) := by
    refine ⟨fun n hn => ?_, ?_⟩
    · have hn : n ∈ [1] := hn
      rw [hl]
      simp only [List.mem_cons, List.not_mem_nil, or_false] at hn
      show n < 9; omega
    · show MBD (w_fi ws (n_v vs 1) 99) (w_ei ws (w_ar ws (n_v vs 1) 98))
      rw [q1]
      exact vc_Mo_turnEdges_7_2 (v_iv (n_v vs 2)) (v_iv (n_v vs 3)) (v_iv (n_v vs 4)) (v_iv (n_v vs 5)) (v_iv (n_v vs 6)) (v_iv (n_v vs 7)) (v_iv (n_v vs 8)) (w_fi ws (n_v vs 0) 99) (w_ei ws (w_ar ws (n_v vs 0) 2)) (w_fi ws (n_v vs 0) 5) (w_ei ws (w_ar ws (n_v vs 0) 18)) (w_ei ws (w_ar ws (n_v vs 0) 95)) (w_ei ws (w_ar ws (n_v vs 0) 98)) k2 k3 k4 k5 k6 k7 k8 d0 d1 d2 f0 g1 f2 f3 f4 f5 f6 f7 f8 f9 f10 f11 f12 hK_0_18 hK_0_95 hK_0_98 kz_0_99
  refine ⟨(fun _ h => (by cases h)), [], trivial, ?_, (fun _ h => (by cases h))⟩
  rw [List.append_nil]
  exact List.forall_mem_cons.mpr ⟨⟨show (20 : Nat) < 100 from by decide, nf0⟩, List.forall_mem_cons.mpr ⟨⟨show (20 : Nat) < 100 from by decide, nf1⟩, List.forall_mem_cons.mpr ⟨⟨show (20 : Nat) < 100 from by decide, nf2⟩, (fun _ h => (by cases h))⟩⟩⟩
set_option maxHeartbeats 4000000 in
theorem vc_Mo_turnEdges_8_0 (x2 : Int) (x3 : Int) (x4 : Int) (x6 : Int) (x9 : Int) (all_0 : Int → Int) (member_0 : Int → Int) (strongOf_0 : Int → Int) (r_0 : Int) (members_0 : Int) (turned_0 : Int → Int) (best_0 : Int → Int) (k2 : 1 ≤ x2 ∧ x2 ≤ 24) (k3 : 0 ≤ x3 ∧ x3 ≤ 23) (k4 : 2 ≤ x4 ∧ x4 ≤ 24) (k6 : 0 ≤ x6 ∧ x6 ≤ 24) (k9 : 0 ≤ x9 ∧ x9 ≤ 0) (d0 : x6 + 0 ≤ x4 ∧ x4 ≤ x6 + 4294967296) (d1 : x2 + (-4294967296) ≤ x3 ∧ x3 ≤ x2 + (-1)) (f0 : MBF (r_0) (members_0) (all_0) (member_0) (strongOf_0) (x3)) (f1 : members_0 ≤ 7) (f2 : MBD (members_0) (member_0)) (f3 : 1 * x6 + ((-1) * all_0 (r_0 + 0) + 0) ≤ 0) (f4 : (-1) * x6 + (1 * all_0 (r_0 + 0) + 0) ≤ 0) (f5 : SGR (r_0) (all_0)) (f6 : STG (r_0) (all_0) (strongOf_0) (x2)) (f7 : TEI (r_0) (all_0) (strongOf_0) (turned_0) (x3)) (f8 : MBI (members_0) (member_0) (x4)) (f9 : MBN (members_0) (r_0) (member_0) (all_0)) (f10 : MBC (members_0) (member_0) (strongOf_0) (x3) (x4)) (f11 : 1 * members_0 + ((-1) * x4 + 0) ≤ 0) (f13 : BST (members_0) (best_0) (member_0)) (f15 : x6 ≤ x4) (hK_0_18 : ∀ j : Int, 0 ≤ j → j < 24 → (-1) ≤ strongOf_0 j ∧ strongOf_0 j ≤ 23) (hK_0_95 : ∀ j : Int, 0 ≤ j → j < 48 → 0 ≤ turned_0 j ∧ turned_0 j ≤ 1) (hK_0_97 : ∀ j : Int, 0 ≤ j → j < 26 → 0 ≤ best_0 j ∧ best_0 j ≤ 25) (hK_0_98 : ∀ j : Int, 0 ≤ j → j < 26 → 0 ≤ member_0 j ∧ member_0 j ≤ 25) (kz_0_99 : 0 ≤ members_0 ∧ members_0 ≤ 26) : TEJ (r_0) (members_0) (all_0) (strongOf_0) (turned_0) (best_0) (x3) (x9) := by
  first
    | exact tej_start ‹TEI _ _ _ _ _› (by omega)
    | exact tej_skip ‹TEJ _ _ _ _ _ _ _ _› (by omega) (Or.inl (by rw [show all_0 (r_0 + 267 + x4) = x7 by omega]; omega))
    | exact tej_skip ‹TEJ _ _ _ _ _ _ _ _› (by omega) (Or.inr (by rw [show all_0 (r_0 + 315 + x4) = x9 by omega]; omega))
    | exact tej_step (t := x7) (d := x9) (x := x13) (y := x15) ‹TEJ _ _ _ _ _ _ _ _› (by omega) (by omega) (by omega) (by omega) (by omega) (by omega) (by rw [show x7 = x12 by omega]; assumption) (by rw [show x9 = x14 by omega]; assumption) (by assumption) rfl (by omega)
def o_Mo_turnEdges_8 : or_T := (123, 10, [(0, (2, 0, 0, [150])), (1, (2, 0, 0, [150])), (2, (0, 1, 24, [])), (3, (0, 0, 23, [])), (4, (0, 2, 24, [])), (6, (0, 0, 24, [])), (9, (0, 0, 0, []))], [(20, [1, 3], [60, 2, 3, 288, 5, 99, 2, 98, 18]), (20, [1], [50, 1, 0, 99, 0, 3, 2, 0, 99, 0, 7]), (20, [1], [60, 1, 1, 258, 99, 98]), (20, [6, 1], [30, 0, 1, 0, 0, -1, 3, 2005000]), (20, [6, 1], [30, 0, -1, 0, 0, 1, 3, 2005000]), (20, [1], [60, 1, 1, 122, 5, 2]), (20, [1, 2], [60, 1, 2, 282, 5, 2, 18]), (20, [1, 3], [60, 1, 3, 286, 5, 2, 18, 95]), (20, [1, 4], [60, 1, 1, 259, 99, 98]), (20, [1], [60, 2, 2, 272, 99, 5, 98, 2]), (20, [1, 3, 4], [60, 1, 2, 287, 99, 98, 18]), (20, [1, 4], [30, 0, 1, 1, 99, -1, 0, 0]), (24, [0, 1], []), (20, [1], [60, 1, 2, 269, 99, 97, 98]), (102, [8], [631873750011343120187508166102022593913370572403294667525865865216]), (7, [4, 6], [3])], [], [], [(20, [1, 3, 9], [60, 2, 4, 289, 5, 99, 2, 18, 95, 97])], [], [(4, 6, 0, 4294967296), (3, 2, -4294967296, -1)])
theorem oo_Mo_turnEdges_8 {kA : Nat → ClassId} : or_ok PRD kA GG o_Mo_turnEdges_8 := by
  intro A ta ws vs hD hth hl hk hds hf
  have hl : vs.length = 10 := hl
  have hk : ∀ q ∈ ([(0, (2, 0, 0, [150])), (1, (2, 0, 0, [150])), (2, (0, 1, 24, [])), (3, (0, 0, 23, [])), (4, (0, 2, 24, [])), (6, (0, 0, 24, [])), (9, (0, 0, 0, []))] : List (Nat × tv_T)), tv_ok ta q.2 (n_v vs q.1) := hk
  obtain ⟨t0, hk⟩ := List.forall_mem_cons.mp hk
  have t0 : tv_ok ta (2, 0, 0, [150]) (n_v vs 0) := t0
  have r0 : ta (v_ad (n_v vs 0)) = some 150 := tv_rg t0
  obtain ⟨t1, hk⟩ := List.forall_mem_cons.mp hk
  have t1 : tv_ok ta (2, 0, 0, [150]) (n_v vs 1) := t1
  have r1 : ta (v_ad (n_v vs 1)) = some 150 := tv_rg t1
  obtain ⟨t2, hk⟩ := List.forall_mem_cons.mp hk
  have t2 : tv_ok ta (0, 1, 24, []) (n_v vs 2) := t2
  have k2 : 1 ≤ v_iv (n_v vs 2) ∧ v_iv (n_v vs 2) ≤ 24 := tv_rng t2
  obtain ⟨t3, hk⟩ := List.forall_mem_cons.mp hk
  have t3 : tv_ok ta (0, 0, 23, []) (n_v vs 3) := t3
  have k3 : 0 ≤ v_iv (n_v vs 3) ∧ v_iv (n_v vs 3) ≤ 23 := tv_rng t3
  obtain ⟨t4, hk⟩ := List.forall_mem_cons.mp hk
  have t4 : tv_ok ta (0, 2, 24, []) (n_v vs 4) := t4
  have k4 : 2 ≤ v_iv (n_v vs 4) ∧ v_iv (n_v vs 4) ≤ 24 := tv_rng t4
  obtain ⟨t6, hk⟩ := List.forall_mem_cons.mp hk
  have t6 : tv_ok ta (0, 0, 24, []) (n_v vs 6) := t6
  have k6 : 0 ≤ v_iv (n_v vs 6) ∧ v_iv (n_v vs 6) ≤ 24 := tv_rng t6
  obtain ⟨t9, hk⟩ := List.forall_mem_cons.mp hk
  have t9 : tv_ok ta (0, 0, 0, []) (n_v vs 9) := t9
  have k9 : 0 ≤ v_iv (n_v vs 9) ∧ v_iv (n_v vs 9) ≤ 0 := tv_rng t9
  have hds : ∀ q ∈ ([(4, 6, 0, 4294967296), (3, 2, -4294967296, -1)] : List of_T), n_iv vs q.2.1 + q.2.2.1 ≤ n_iv vs q.1 ∧ n_iv vs q.1 ≤ n_iv vs q.2.1 + q.2.2.2 := hds
  obtain ⟨d0, hds⟩ := List.forall_mem_cons.mp hds
  have d0 : v_iv (n_v vs 6) + 0 ≤ v_iv (n_v vs 4) ∧ v_iv (n_v vs 4) ≤ v_iv (n_v vs 6) + 4294967296 := d0
  obtain ⟨d1, hds⟩ := List.forall_mem_cons.mp hds
  have d1 : v_iv (n_v vs 2) + (-4294967296) ≤ v_iv (n_v vs 3) ∧ v_iv (n_v vs 3) ≤ v_iv (n_v vs 2) + (-1) := d1
  have hf : fc_ok PRD [(20, [1, 3], [60, 2, 3, 288, 5, 99, 2, 98, 18]), (20, [1], [50, 1, 0, 99, 0, 3, 2, 0, 99, 0, 7]), (20, [1], [60, 1, 1, 258, 99, 98]), (20, [6, 1], [30, 0, 1, 0, 0, -1, 3, 2005000]), (20, [6, 1], [30, 0, -1, 0, 0, 1, 3, 2005000]), (20, [1], [60, 1, 1, 122, 5, 2]), (20, [1, 2], [60, 1, 2, 282, 5, 2, 18]), (20, [1, 3], [60, 1, 3, 286, 5, 2, 18, 95]), (20, [1, 4], [60, 1, 1, 259, 99, 98]), (20, [1], [60, 2, 2, 272, 99, 5, 98, 2]), (20, [1, 3, 4], [60, 1, 2, 287, 99, 98, 18]), (20, [1, 4], [30, 0, 1, 1, 99, -1, 0, 0]), (24, [0, 1], []), (20, [1], [60, 1, 2, 269, 99, 97, 98]), (102, [8], [631873750011343120187508166102022593913370572403294667525865865216]), (7, [4, 6], [3])] ta ws vs := hf
  obtain ⟨f0, hf⟩ := fc_un (show (20 : Nat) < 100 from by decide) hf
  have f0 : MBF (w_fi ws (n_v vs 1) 5) (w_fi ws (n_v vs 1) 99) (w_ei ws (w_ar ws (n_v vs 1) 2)) (w_ei ws (w_ar ws (n_v vs 1) 98)) (w_ei ws (w_ar ws (n_v vs 1) 18)) (v_iv (n_v vs 3)) := f0
  obtain ⟨f1, hf⟩ := fc_un (show (20 : Nat) < 100 from by decide) hf
  have f1 : w_fi ws (n_v vs 1) 99 ≤ 7 := f1
  obtain ⟨f2, hf⟩ := fc_un (show (20 : Nat) < 100 from by decide) hf
  have f2 : MBD (w_fi ws (n_v vs 1) 99) (w_ei ws (w_ar ws (n_v vs 1) 98)) := f2
  obtain ⟨f3, hf⟩ := fc_un (show (20 : Nat) < 100 from by decide) hf
  have f3 : 1 * v_iv (n_v vs 6) + ((-1) * w_el ws (w_ar ws (n_v vs 1) 2) (w_fi ws (n_v vs 1) 5 + 0).toNat + 0) ≤ 0 := f3
  obtain ⟨f4, hf⟩ := fc_un (show (20 : Nat) < 100 from by decide) hf
  have f4 : (-1) * v_iv (n_v vs 6) + (1 * w_el ws (w_ar ws (n_v vs 1) 2) (w_fi ws (n_v vs 1) 5 + 0).toNat + 0) ≤ 0 := f4
  obtain ⟨f5, hf⟩ := fc_un (show (20 : Nat) < 100 from by decide) hf
  have f5 : SGR (w_fi ws (n_v vs 1) 5) (w_ei ws (w_ar ws (n_v vs 1) 2)) := f5
  obtain ⟨f6, hf⟩ := fc_un (show (20 : Nat) < 100 from by decide) hf
  have f6 : STG (w_fi ws (n_v vs 1) 5) (w_ei ws (w_ar ws (n_v vs 1) 2)) (w_ei ws (w_ar ws (n_v vs 1) 18)) (v_iv (n_v vs 2)) := f6
  obtain ⟨f7, hf⟩ := fc_un (show (20 : Nat) < 100 from by decide) hf
  have f7 : TEI (w_fi ws (n_v vs 1) 5) (w_ei ws (w_ar ws (n_v vs 1) 2)) (w_ei ws (w_ar ws (n_v vs 1) 18)) (w_ei ws (w_ar ws (n_v vs 1) 95)) (v_iv (n_v vs 3)) := f7
  obtain ⟨f8, hf⟩ := fc_un (show (20 : Nat) < 100 from by decide) hf
  have f8 : MBI (w_fi ws (n_v vs 1) 99) (w_ei ws (w_ar ws (n_v vs 1) 98)) (v_iv (n_v vs 4)) := f8
  obtain ⟨f9, hf⟩ := fc_un (show (20 : Nat) < 100 from by decide) hf
  have f9 : MBN (w_fi ws (n_v vs 1) 99) (w_fi ws (n_v vs 1) 5) (w_ei ws (w_ar ws (n_v vs 1) 98)) (w_ei ws (w_ar ws (n_v vs 1) 2)) := f9
  obtain ⟨f10, hf⟩ := fc_un (show (20 : Nat) < 100 from by decide) hf
  have f10 : MBC (w_fi ws (n_v vs 1) 99) (w_ei ws (w_ar ws (n_v vs 1) 98)) (w_ei ws (w_ar ws (n_v vs 1) 18)) (v_iv (n_v vs 3)) (v_iv (n_v vs 4)) := f10
  obtain ⟨f11, hf⟩ := fc_un (show (20 : Nat) < 100 from by decide) hf
  have f11 : 1 * w_fi ws (n_v vs 1) 99 + ((-1) * v_iv (n_v vs 4) + 0) ≤ 0 := f11
  obtain ⟨f12, hf⟩ := fc_un (show (24 : Nat) < 100 from by decide) hf
  have f12 : n_v vs 0 = n_v vs 1 := f12
  obtain ⟨f13, hf⟩ := fc_un (show (20 : Nat) < 100 from by decide) hf
  have f13 : BST (w_fi ws (n_v vs 1) 99) (w_ei ws (w_ar ws (n_v vs 1) 97)) (w_ei ws (w_ar ws (n_v vs 1) 98)) := f13
  obtain ⟨ta1, w1, le1, ⟨_, s1⟩, hf⟩ := fc_us (show ¬ (102 : Nat) < 100 from by decide) hf
  obtain ⟨f15, hf⟩ := fc_un (show (7 : Nat) < 100 from by decide) hf
  have f15 : v_iv (n_v vs 6) ≤ v_iv (n_v vs 4) := f15
  have q1 : n_v vs 1 = n_v vs 0 := f12.symm
  rw [q1] at f0
  rw [q1] at f1
  rw [q1] at f2
  rw [q1] at f3
  rw [q1] at f4
  rw [q1] at f5
  rw [q1] at f6
  rw [q1] at f7
  rw [q1] at f8
  rw [q1] at f9
  rw [q1] at f10
  rw [q1] at f11
  rw [q1] at f13
  have cr_0_2 : ta (w_ar ws (n_v vs 0) 2) = some 152 := tv_rg (th_fd hD hth r0 (g := GG_150) rfl (k := 2) (t := (2, 0, 0, [152])) rfl rfl)
  have cr_0_18 : ta (w_ar ws (n_v vs 0) 18) = some 158 := tv_rg (th_fd hD hth r0 (g := GG_150) rfl (k := 18) (t := (2, 0, 0, [158])) rfl rfl)
  have cr_0_95 : ta (w_ar ws (n_v vs 0) 95) = some 216 := tv_rg (th_fd hD hth r0 (g := GG_150) rfl (k := 95) (t := (2, 0, 0, [216])) rfl rfl)
  have cr_0_97 : ta (w_ar ws (n_v vs 0) 97) = some 218 := tv_rg (th_fd hD hth r0 (g := GG_150) rfl (k := 97) (t := (2, 0, 0, [218])) rfl rfl)
  have cr_0_98 : ta (w_ar ws (n_v vs 0) 98) = some 219 := tv_rg (th_fd hD hth r0 (g := GG_150) rfl (k := 98) (t := (2, 0, 0, [219])) rfl rfl)
  have hK_0_18 : ∀ j : Int, 0 ≤ j → j < 24 → (-1) ≤ w_ei ws (w_ar ws (n_v vs 0) 18) j ∧ w_ei ws (w_ar ws (n_v vs 0) 18) j ≤ 23 := fun j h0 h1 => th_el hD hth cr_0_18 (kd := 0) (n := 24) (m := 24) (lo := (-1)) (hi := 23) (rs := []) (L := []) rfl (by decide) (j := j.toNat) (by omega)
  have hK_0_95 : ∀ j : Int, 0 ≤ j → j < 48 → 0 ≤ w_ei ws (w_ar ws (n_v vs 0) 95) j ∧ w_ei ws (w_ar ws (n_v vs 0) 95) j ≤ 1 := fun j h0 h1 => th_el hD hth cr_0_95 (kd := 2) (n := 48) (m := 48) (lo := 0) (hi := 1) (rs := []) (L := []) rfl (by decide) (j := j.toNat) (by omega)
  have hK_0_97 : ∀ j : Int, 0 ≤ j → j < 26 → 0 ≤ w_ei ws (w_ar ws (n_v vs 0) 97) j ∧ w_ei ws (w_ar ws (n_v vs 0) 97) j ≤ 25 := fun j h0 h1 => th_el hD hth cr_0_97 (kd := 0) (n := 26) (m := 26) (lo := 0) (hi := 25) (rs := []) (L := []) rfl (by decide) (j := j.toNat) (by omega)
  have hK_0_98 : ∀ j : Int, 0 ≤ j → j < 26 → 0 ≤ w_ei ws (w_ar ws (n_v vs 0) 98) j ∧ w_ei ws (w_ar ws (n_v vs 0) 98) j ≤ 25 := fun j h0 h1 => th_el hD hth cr_0_98 (kd := 0) (n := 26) (m := 26) (lo := 0) (hi := 25) (rs := []) (L := []) rfl (by decide) (j := j.toNat) (by omega)
  have kz_0_99 : 0 ≤ w_fi ws (n_v vs 0) 99 ∧ w_fi ws (n_v vs 0) 99 ≤ 26 := tv_rng (th_fd hD hth r0 (g := GG_150) rfl (k := 99) (t := (0, 0, 26, [])) rfl rfl)
  have nf0 : fc_1 PRD (20, [1, 3, 9], [60, 2, 4, 289, 5, 99, 2, 18, 95, 97]) ws (vs) := by
    refine ⟨fun n hn => ?_, ?_⟩
    · have hn : n ∈ [1, 3, 9] := hn
      rw [hl]
      simp only [List.mem_cons, List.not_mem_nil, or_false] at hn
      show n < 10; omega
    · show TEJ (w_fi ws (n_v vs 1) 5) (w_fi ws (n_v vs 1) 99) (w_ei ws (w_ar ws (n_v vs 1) 2)) (w_ei ws (w_ar ws (n_v vs 1) 18)) (w_ei ws (w_ar ws (n_v vs 1) 95)) (w_ei ws (w_ar ws (n_v vs 1) 97)) (v_iv (n_v vs 3)) (v_iv (n_v vs 9))
      rw [q1]
      exact vc_Mo_turnEdges_8_0 (v_iv (n_v vs 2)) (v_iv (n_v vs 3)) (v_iv (n_v vs 4)) (v_iv (n_v vs 6)) (v_iv (n_v vs 9)) (w_ei ws (w_ar ws (n_v vs 0) 2)) (w_ei ws (w_ar ws (n_v vs 0) 98)) (w_ei ws (w_ar ws (n_v vs 0) 18)) (w_fi ws (n_v vs 0) 5) (w_fi ws (n_v vs 0) 99) (w_ei ws (w_ar ws (n_v vs 0) 95)) (w_ei ws (w_ar ws (n_v vs 0) 97)) k2 k3 k4 k6 k9 d0 d1 f0 f1 f2 f3 f4 f5 f6 f7 f8 f9 f10 f11 f13 f15 hK_0_18 hK_0_95 hK_0_97 hK_0_98 kz_0_99
  refine ⟨(fun _ h => (by cases h)), [], trivial, ?_, (fun _ h => (by cases h))⟩
  rw [List.append_nil]
  exact List.forall_mem_cons.mpr ⟨⟨show (20 : Nat) < 100 from by decide, nf0⟩, (fun _ h => (by cases h))⟩
set_option maxHeartbeats 4000000 in
theorem vc_Mo_turnEdges_9_0 (x2 : Int) (x3 : Int) (x4 : Int) (x5 : Int) (x6 : Int) (x7 : Int) (x8 : Int) (members_0 : Int) (all_0 : Int → Int) (r_0 : Int) (strongOf_0 : Int → Int) (turned_0 : Int → Int) (member_0 : Int → Int) (k2 : 1 ≤ x2 ∧ x2 ≤ 24) (k3 : 0 ≤ x3 ∧ x3 ≤ 23) (k4 : 0 ≤ x4 ∧ x4 ≤ 24) (k5 : 0 ≤ x5 ∧ x5 ≤ 1) (k6 : 0 ≤ x6 ∧ x6 ≤ 24) (k7 : 2 ≤ x7 ∧ x7 ≤ 2) (k8 : 1 ≤ x8 ∧ x8 ≤ 24) (d0 : x3 + 1 ≤ x8 ∧ x8 ≤ x3 + 1) (d1 : x2 + (-4294967296) ≤ x8 ∧ x8 ≤ x2 + 0) (d2 : x6 + 0 ≤ x4 ∧ x4 ≤ x6 + 4294967296) (d3 : x2 + (-4294967296) ≤ x3 ∧ x3 ≤ x2 + (-1)) (d4 : x4 + (-4294967296) ≤ x5 ∧ x5 ≤ x4 + 0) (f0 : x8 = x3 + 1) (f1 : x5 < x7) (g2 : x5 = members_0) (f3 : x6 ≤ x4) (f4 : 1 * x6 + ((-1) * all_0 (r_0 + 0) + 0) ≤ 0) (f5 : (-1) * x6 + (1 * all_0 (r_0 + 0) + 0) ≤ 0) (f6 : SGR (r_0) (all_0)) (f7 : STG (r_0) (all_0) (strongOf_0) (x2)) (f8 : TEI (r_0) (all_0) (strongOf_0) (turned_0) (x3)) (f9 : MBI (members_0) (member_0) (x4)) (f10 : MBN (members_0) (r_0) (member_0) (all_0)) (f11 : MBC (members_0) (member_0) (strongOf_0) (x3) (x4)) (f12 : 1 * members_0 + ((-1) * x4 + 0) ≤ 0) (hK_0_18 : ∀ j : Int, 0 ≤ j → j < 24 → (-1) ≤ strongOf_0 j ∧ strongOf_0 j ≤ 23) (hK_0_95 : ∀ j : Int, 0 ≤ j → j < 48 → 0 ≤ turned_0 j ∧ turned_0 j ≤ 1) (hK_0_98 : ∀ j : Int, 0 ≤ j → j < 26 → 0 ≤ member_0 j ∧ member_0 j ≤ 25) (kz_0_99 : 0 ≤ members_0 ∧ members_0 ≤ 26) : TEI (r_0) (all_0) (strongOf_0) (turned_0) (x8) := by
  first
    | exact tei_start ‹STG _ _ _ _› ‹TZ _ _› (by omega) (by omega)
    | (try simp only [Int.add_zero] at *
       exact tei_none ‹STG _ _ _ _› ‹TEI _ _ _ _ _› (fun a a0 a1 a2 => ‹MBC _ _ _ _ _› a a0 (by omega) a2) (show members_0 < 2 by omega) (by omega))
    | exact tej_end ‹STG _ _ _ _› ‹TEJ _ _ _ _ _ _ _ _› (by omega) ‹MBF _ _ _ _ _ _› ‹BST _ _ _› (by omega) (by omega) (by omega)
def o_Mo_turnEdges_9 : or_T := (31, 9, [(0, (2, 0, 0, [150])), (1, (2, 0, 0, [150])), (2, (0, 1, 24, [])), (3, (0, 0, 23, [])), (4, (0, 0, 24, [])), (5, (0, 0, 1, [])), (6, (0, 0, 24, [])), (7, (0, 2, 2, [])), (8, (0, 1, 24, []))], [(6, [8, 3], [1]), (7, [5, 7], [2]), (9, [5, 1], [99]), (7, [4, 6], [3]), (20, [6, 1], [30, 0, 1, 0, 0, -1, 3, 2005000]), (20, [6, 1], [30, 0, -1, 0, 0, 1, 3, 2005000]), (20, [1], [60, 1, 1, 122, 5, 2]), (20, [1, 2], [60, 1, 2, 282, 5, 2, 18]), (20, [1, 3], [60, 1, 3, 286, 5, 2, 18, 95]), (20, [1, 4], [60, 1, 1, 259, 99, 98]), (20, [1], [60, 2, 2, 272, 99, 5, 98, 2]), (20, [1, 3, 4], [60, 1, 2, 287, 99, 98, 18]), (20, [1, 4], [30, 0, 1, 1, 99, -1, 0, 0]), (24, [0, 1], [])], [], [], [(20, [1, 8], [60, 1, 3, 286, 5, 2, 18, 95])], [], [(8, 3, 1, 1), (8, 2, -4294967296, 0), (4, 6, 0, 4294967296), (3, 2, -4294967296, -1), (5, 4, -4294967296, 0)])
theorem oo_Mo_turnEdges_9 {kA : Nat → ClassId} : or_ok PRD kA GG o_Mo_turnEdges_9 := by
  intro A ta ws vs hD hth hl hk hds hf
  have hl : vs.length = 9 := hl
  have hk : ∀ q ∈ ([(0, (2, 0, 0, [150])), (1, (2, 0, 0, [150])), (2, (0, 1, 24, [])), (3, (0, 0, 23, [])), (4, (0, 0, 24, [])), (5, (0, 0, 1, [])), (6, (0, 0, 24, [])), (7, (0, 2, 2, [])), (8, (0, 1, 24, []))] : List (Nat × tv_T)), tv_ok ta q.2 (n_v vs q.1) := hk
  obtain ⟨t0, hk⟩ := List.forall_mem_cons.mp hk
  have t0 : tv_ok ta (2, 0, 0, [150]) (n_v vs 0) := t0
  have r0 : ta (v_ad (n_v vs 0)) = some 150 := tv_rg t0
  obtain ⟨t1, hk⟩ := List.forall_mem_cons.mp hk
  have t1 : tv_ok ta (2, 0, 0, [150]) (n_v vs 1) := t1
  have r1 : ta (v_ad (n_v vs 1)) = some 150 := tv_rg t1
  obtain ⟨t2, hk⟩ := List.forall_mem_cons.mp hk
  have t2 : tv_ok ta (0, 1, 24, []) (n_v vs 2) := t2
  have k2 : 1 ≤ v_iv (n_v vs 2) ∧ v_iv (n_v vs 2) ≤ 24 := tv_rng t2
  obtain ⟨t3, hk⟩ := List.forall_mem_cons.mp hk
  have t3 : tv_ok ta (0, 0, 23, []) (n_v vs 3) := t3
  have k3 : 0 ≤ v_iv (n_v vs 3) ∧ v_iv (n_v vs 3) ≤ 23 := tv_rng t3
  obtain ⟨t4, hk⟩ := List.forall_mem_cons.mp hk
  have t4 : tv_ok ta (0, 0, 24, []) (n_v vs 4) := t4
  have k4 : 0 ≤ v_iv (n_v vs 4) ∧ v_iv (n_v vs 4) ≤ 24 := tv_rng t4
  obtain ⟨t5, hk⟩ := List.forall_mem_cons.mp hk
  have t5 : tv_ok ta (0, 0, 1, []) (n_v vs 5) := t5
  have k5 : 0 ≤ v_iv (n_v vs 5) ∧ v_iv (n_v vs 5) ≤ 1 := tv_rng t5
  obtain ⟨t6, hk⟩ := List.forall_mem_cons.mp hk
  have t6 : tv_ok ta (0, 0, 24, []) (n_v vs 6) := t6
  have k6 : 0 ≤ v_iv (n_v vs 6) ∧ v_iv (n_v vs 6) ≤ 24 := tv_rng t6
  obtain ⟨t7, hk⟩ := List.forall_mem_cons.mp hk
  have t7 : tv_ok ta (0, 2, 2, []) (n_v vs 7) := t7
  have k7 : 2 ≤ v_iv (n_v vs 7) ∧ v_iv (n_v vs 7) ≤ 2 := tv_rng t7
  obtain ⟨t8, hk⟩ := List.forall_mem_cons.mp hk
  have t8 : tv_ok ta (0, 1, 24, []) (n_v vs 8) := t8
  have k8 : 1 ≤ v_iv (n_v vs 8) ∧ v_iv (n_v vs 8) ≤ 24 := tv_rng t8
  have hds : ∀ q ∈ ([(8, 3, 1, 1), (8, 2, -4294967296, 0), (4, 6, 0, 4294967296), (3, 2, -4294967296, -1), (5, 4, -4294967296, 0)] : List of_T), n_iv vs q.2.1 + q.2.2.1 ≤ n_iv vs q.1 ∧ n_iv vs q.1 ≤ n_iv vs q.2.1 + q.2.2.2 := hds
  obtain ⟨d0, hds⟩ := List.forall_mem_cons.mp hds
  have d0 : v_iv (n_v vs 3) + 1 ≤ v_iv (n_v vs 8) ∧ v_iv (n_v vs 8) ≤ v_iv (n_v vs 3) + 1 := d0
  obtain ⟨d1, hds⟩ := List.forall_mem_cons.mp hds
  have d1 : v_iv (n_v vs 2) + (-4294967296) ≤ v_iv (n_v vs 8) ∧ v_iv (n_v vs 8) ≤ v_iv (n_v vs 2) + 0 := d1
  obtain ⟨d2, hds⟩ := List.forall_mem_cons.mp hds
  have d2 : v_iv (n_v vs 6) + 0 ≤ v_iv (n_v vs 4) ∧ v_iv (n_v vs 4) ≤ v_iv (n_v vs 6) + 4294967296 := d2
  obtain ⟨d3, hds⟩ := List.forall_mem_cons.mp hds
  have d3 : v_iv (n_v vs 2) + (-4294967296) ≤ v_iv (n_v vs 3) ∧ v_iv (n_v vs 3) ≤ v_iv (n_v vs 2) + (-1) := d3
  obtain ⟨d4, hds⟩ := List.forall_mem_cons.mp hds
  have d4 : v_iv (n_v vs 4) + (-4294967296) ≤ v_iv (n_v vs 5) ∧ v_iv (n_v vs 5) ≤ v_iv (n_v vs 4) + 0 := d4
  have hf : fc_ok PRD [(6, [8, 3], [1]), (7, [5, 7], [2]), (9, [5, 1], [99]), (7, [4, 6], [3]), (20, [6, 1], [30, 0, 1, 0, 0, -1, 3, 2005000]), (20, [6, 1], [30, 0, -1, 0, 0, 1, 3, 2005000]), (20, [1], [60, 1, 1, 122, 5, 2]), (20, [1, 2], [60, 1, 2, 282, 5, 2, 18]), (20, [1, 3], [60, 1, 3, 286, 5, 2, 18, 95]), (20, [1, 4], [60, 1, 1, 259, 99, 98]), (20, [1], [60, 2, 2, 272, 99, 5, 98, 2]), (20, [1, 3, 4], [60, 1, 2, 287, 99, 98, 18]), (20, [1, 4], [30, 0, 1, 1, 99, -1, 0, 0]), (24, [0, 1], [])] ta ws vs := hf
  obtain ⟨f0, hf⟩ := fc_un (show (6 : Nat) < 100 from by decide) hf
  have f0 : v_iv (n_v vs 8) = v_iv (n_v vs 3) + 1 := f0
  obtain ⟨f1, hf⟩ := fc_un (show (7 : Nat) < 100 from by decide) hf
  have f1 : v_iv (n_v vs 5) < v_iv (n_v vs 7) := f1
  obtain ⟨f2, hf⟩ := fc_un (show (9 : Nat) < 100 from by decide) hf
  have f2 : n_v vs 5 = w_fd ws (v_ad (n_v vs 1)) 99 := f2
  obtain ⟨f3, hf⟩ := fc_un (show (7 : Nat) < 100 from by decide) hf
  have f3 : v_iv (n_v vs 6) ≤ v_iv (n_v vs 4) := f3
  obtain ⟨f4, hf⟩ := fc_un (show (20 : Nat) < 100 from by decide) hf
  have f4 : 1 * v_iv (n_v vs 6) + ((-1) * w_el ws (w_ar ws (n_v vs 1) 2) (w_fi ws (n_v vs 1) 5 + 0).toNat + 0) ≤ 0 := f4
  obtain ⟨f5, hf⟩ := fc_un (show (20 : Nat) < 100 from by decide) hf
  have f5 : (-1) * v_iv (n_v vs 6) + (1 * w_el ws (w_ar ws (n_v vs 1) 2) (w_fi ws (n_v vs 1) 5 + 0).toNat + 0) ≤ 0 := f5
  obtain ⟨f6, hf⟩ := fc_un (show (20 : Nat) < 100 from by decide) hf
  have f6 : SGR (w_fi ws (n_v vs 1) 5) (w_ei ws (w_ar ws (n_v vs 1) 2)) := f6
  obtain ⟨f7, hf⟩ := fc_un (show (20 : Nat) < 100 from by decide) hf
  have f7 : STG (w_fi ws (n_v vs 1) 5) (w_ei ws (w_ar ws (n_v vs 1) 2)) (w_ei ws (w_ar ws (n_v vs 1) 18)) (v_iv (n_v vs 2)) := f7
  obtain ⟨f8, hf⟩ := fc_un (show (20 : Nat) < 100 from by decide) hf
  have f8 : TEI (w_fi ws (n_v vs 1) 5) (w_ei ws (w_ar ws (n_v vs 1) 2)) (w_ei ws (w_ar ws (n_v vs 1) 18)) (w_ei ws (w_ar ws (n_v vs 1) 95)) (v_iv (n_v vs 3)) := f8
  obtain ⟨f9, hf⟩ := fc_un (show (20 : Nat) < 100 from by decide) hf
  have f9 : MBI (w_fi ws (n_v vs 1) 99) (w_ei ws (w_ar ws (n_v vs 1) 98)) (v_iv (n_v vs 4)) := f9
  obtain ⟨f10, hf⟩ := fc_un (show (20 : Nat) < 100 from by decide) hf
  have f10 : MBN (w_fi ws (n_v vs 1) 99) (w_fi ws (n_v vs 1) 5) (w_ei ws (w_ar ws (n_v vs 1) 98)) (w_ei ws (w_ar ws (n_v vs 1) 2)) := f10
  obtain ⟨f11, hf⟩ := fc_un (show (20 : Nat) < 100 from by decide) hf
  have f11 : MBC (w_fi ws (n_v vs 1) 99) (w_ei ws (w_ar ws (n_v vs 1) 98)) (w_ei ws (w_ar ws (n_v vs 1) 18)) (v_iv (n_v vs 3)) (v_iv (n_v vs 4)) := f11
  obtain ⟨f12, hf⟩ := fc_un (show (20 : Nat) < 100 from by decide) hf
  have f12 : 1 * w_fi ws (n_v vs 1) 99 + ((-1) * v_iv (n_v vs 4) + 0) ≤ 0 := f12
  obtain ⟨f13, hf⟩ := fc_un (show (24 : Nat) < 100 from by decide) hf
  have f13 : n_v vs 0 = n_v vs 1 := f13
  have q1 : n_v vs 1 = n_v vs 0 := f13.symm
  rw [q1] at f2
  rw [q1] at f4
  rw [q1] at f5
  rw [q1] at f6
  rw [q1] at f7
  rw [q1] at f8
  rw [q1] at f9
  rw [q1] at f10
  rw [q1] at f11
  rw [q1] at f12
  have cr_0_2 : ta (w_ar ws (n_v vs 0) 2) = some 152 := tv_rg (th_fd hD hth r0 (g := GG_150) rfl (k := 2) (t := (2, 0, 0, [152])) rfl rfl)
  have cr_0_18 : ta (w_ar ws (n_v vs 0) 18) = some 158 := tv_rg (th_fd hD hth r0 (g := GG_150) rfl (k := 18) (t := (2, 0, 0, [158])) rfl rfl)
  have cr_0_95 : ta (w_ar ws (n_v vs 0) 95) = some 216 := tv_rg (th_fd hD hth r0 (g := GG_150) rfl (k := 95) (t := (2, 0, 0, [216])) rfl rfl)
  have cr_0_98 : ta (w_ar ws (n_v vs 0) 98) = some 219 := tv_rg (th_fd hD hth r0 (g := GG_150) rfl (k := 98) (t := (2, 0, 0, [219])) rfl rfl)
  have g2 : v_iv (n_v vs 5) = w_fi ws (n_v vs 0) 99 := congrArg v_iv f2
  have hK_0_18 : ∀ j : Int, 0 ≤ j → j < 24 → (-1) ≤ w_ei ws (w_ar ws (n_v vs 0) 18) j ∧ w_ei ws (w_ar ws (n_v vs 0) 18) j ≤ 23 := fun j h0 h1 => th_el hD hth cr_0_18 (kd := 0) (n := 24) (m := 24) (lo := (-1)) (hi := 23) (rs := []) (L := []) rfl (by decide) (j := j.toNat) (by omega)
  have hK_0_95 : ∀ j : Int, 0 ≤ j → j < 48 → 0 ≤ w_ei ws (w_ar ws (n_v vs 0) 95) j ∧ w_ei ws (w_ar ws (n_v vs 0) 95) j ≤ 1 := fun j h0 h1 => th_el hD hth cr_0_95 (kd := 2) (n := 48) (m := 48) (lo := 0) (hi := 1) (rs := []) (L := []) rfl (by decide) (j := j.toNat) (by omega)
  have hK_0_98 : ∀ j : Int, 0 ≤ j → j < 26 → 0 ≤ w_ei ws (w_ar ws (n_v vs 0) 98) j ∧ w_ei ws (w_ar ws (n_v vs 0) 98) j ≤ 25 := fun j h0 h1 => th_el hD hth cr_0_98 (kd := 0) (n := 26) (m := 26) (lo := 0) (hi := 25) (rs := []) (L := []) rfl (by decide) (j := j.toNat) (by omega)
  have kz_0_99 : 0 ≤ w_fi ws (n_v vs 0) 99 ∧ w_fi ws (n_v vs 0) 99 ≤ 26 := tv_rng (th_fd hD hth r0 (g := GG_150) rfl (k := 99) (t := (0, 0, 26, [])) rfl rfl)
  have nf0 : fc_1 PRD (20, [1, 8], [60, 1, 3, 286, 5, 2, 18, 95]) ws (vs) := by
    refine ⟨fun n hn => ?_, ?_⟩
    · have hn : n ∈ [1, 8] := hn
      rw [hl]
      simp only [List.mem_cons, List.not_mem_nil, or_false] at hn
      show n < 9; omega
    · show TEI (w_fi ws (n_v vs 1) 5) (w_ei ws (w_ar ws (n_v vs 1) 2)) (w_ei ws (w_ar ws (n_v vs 1) 18)) (w_ei ws (w_ar ws (n_v vs 1) 95)) (v_iv (n_v vs 8))
      rw [q1]
      exact vc_Mo_turnEdges_9_0 (v_iv (n_v vs 2)) (v_iv (n_v vs 3)) (v_iv (n_v vs 4)) (v_iv (n_v vs 5)) (v_iv (n_v vs 6)) (v_iv (n_v vs 7)) (v_iv (n_v vs 8)) (w_fi ws (n_v vs 0) 99) (w_ei ws (w_ar ws (n_v vs 0) 2)) (w_fi ws (n_v vs 0) 5) (w_ei ws (w_ar ws (n_v vs 0) 18)) (w_ei ws (w_ar ws (n_v vs 0) 95)) (w_ei ws (w_ar ws (n_v vs 0) 98)) k2 k3 k4 k5 k6 k7 k8 d0 d1 d2 d3 d4 f0 f1 g2 f3 f4 f5 f6 f7 f8 f9 f10 f11 f12 hK_0_18 hK_0_95 hK_0_98 kz_0_99
  refine ⟨(fun _ h => (by cases h)), [], trivial, ?_, (fun _ h => (by cases h))⟩
  rw [List.append_nil]
  exact List.forall_mem_cons.mpr ⟨⟨show (20 : Nat) < 100 from by decide, nf0⟩, (fun _ h => (by cases h))⟩
set_option maxHeartbeats 4000000 in
theorem vc_Mo_turnEdges_10_0 (x2 : Int) (x3 : Int) (x4 : Int) (x5 : Int) (x6 : Int) (x8 : Int) (x10 : Int) (x11 : Int) (x12 : Int) (all_0 : Int → Int) (r_0 : Int) (strongOf_0 : Int → Int) (turned_0 : Int → Int) (members_1 : Int) (all_1 : Int → Int) (r_1 : Int) (strongOf_1 : Int → Int) (turned_1 : Int → Int) (strongOf_2 : Int → Int) (all_2 : Int → Int) (r_2 : Int) (turned_2 : Int → Int) (member_2 : Int → Int) (members_2 : Int) (members_0 : Int) (member_0 : Int → Int) (member_1 : Int → Int) (k2 : 1 ≤ x2 ∧ x2 ≤ 24) (k3 : 0 ≤ x3 ∧ x3 ≤ 23) (k4 : 0 ≤ x4 ∧ x4 ≤ 23) (k5 : 0 ≤ x5 ∧ x5 ≤ 23) (k6 : 1 ≤ x6 ∧ x6 ≤ 24) (k8 : 0 ≤ x8 ∧ x8 ≤ 23) (k10 : 1 ≤ x10 ∧ x10 ≤ 1) (k11 : 1 ≤ x11 ∧ x11 ≤ 24) (k12 : 1 ≤ x12 ∧ x12 ≤ 24) (d0 : x4 + 1 ≤ x12 ∧ x12 ≤ x4 + 1) (d1 : x6 + (-4294967296) ≤ x12 ∧ x12 ≤ x6 + 0) (d2 : x5 + 1 ≤ x11 ∧ x11 ≤ x5 + 1) (d3 : x4 + (-4294967296) ≤ x11 ∧ x11 ≤ x4 + 1) (d4 : x3 + 0 ≤ x8 ∧ x8 ≤ x3 + 0) (d5 : x6 + (-4294967296) ≤ x4 ∧ x4 ≤ x6 + (-1)) (d6 : x2 + (-4294967296) ≤ x3 ∧ x3 ≤ x2 + (-1)) (d7 : x4 + (-4294967296) ≤ x5 ∧ x5 ≤ x4 + 0) (f0 : x12 = x4 + 1) (f1 : 1 * x6 + ((-1) * all_0 (r_0 + 0) + 0) ≤ 0) (f2 : (-1) * x6 + (1 * all_0 (r_0 + 0) + 0) ≤ 0) (f3 : SGR (r_0) (all_0)) (f4 : STG (r_0) (all_0) (strongOf_0) (x2)) (f5 : TEI (r_0) (all_0) (strongOf_0) (turned_0) (x3)) (f8 : x11 = x5 + x10) (g9 : x5 = members_1) (f10 : 1 * x6 + ((-1) * all_1 (r_0 + 0) + 0) ≤ 0) (f11 : (-1) * x6 + (1 * all_1 (r_0 + 0) + 0) ≤ 0) (f12 : SGR (r_1) (all_1)) (f13 : STG (r_1) (all_1) (strongOf_1) (x2)) (f14 : TEI (r_1) (all_1) (strongOf_1) (turned_1) (x3)) (f15 : 1 * members_1 + ((-1) * x4 + 0) ≤ 0) (f18 : x8 = x3) (h19 : x8 = strongOf_2 (x4)) (f21 : x4 < x6) (f22 : 1 * x6 + ((-1) * all_2 (r_0 + 0) + 0) ≤ 0) (f23 : (-1) * x6 + (1 * all_2 (r_0 + 0) + 0) ≤ 0) (f24 : SGR (r_2) (all_2)) (f25 : STG (r_2) (all_2) (strongOf_2) (x2)) (f26 : TEI (r_2) (all_2) (strongOf_2) (turned_2) (x3)) (f27 : MBI (members_2) (member_2) (x4)) (f28 : MBN (members_2) (r_2) (member_2) (all_2)) (f29 : MBC (members_2) (member_2) (strongOf_2) (x3) (x4)) (f30 : 1 * members_2 + ((-1) * x4 + 0) ≤ 0) (fe_0_5_1 : r_0 = r_1) (fe_0_99_1 : members_0 = x11) (fe_0_5_2 : r_1 = r_2) (fe_0_99_2 : members_1 = members_2) (hE_0_2_1 : ∀ j : Int, all_0 j = all_1 j) (hE_0_2_2 : ∀ j : Int, all_1 j = all_2 j) (hE_0_18_1 : ∀ j : Int, strongOf_0 j = strongOf_1 j) (hE_0_18_2 : ∀ j : Int, strongOf_1 j = strongOf_2 j) (hK_0_18 : ∀ j : Int, 0 ≤ j → j < 24 → (-1) ≤ strongOf_0 j ∧ strongOf_0 j ≤ 23) (hE_0_95_1 : ∀ j : Int, turned_0 j = turned_1 j) (hE_0_95_2 : ∀ j : Int, turned_1 j = turned_2 j) (hK_0_95 : ∀ j : Int, 0 ≤ j → j < 48 → 0 ≤ turned_0 j ∧ turned_0 j ≤ 1) (hE_0_98_1 : ∀ j : Int, member_0 j = member_1 j) (hE_0_98_2 : ∀ j : Int, 0 ≤ j → (j = x5 → member_1 j = x4) ∧ (j ≠ x5 → member_1 j = member_2 j)) (hK_0_98 : ∀ j : Int, 0 ≤ j → j < 26 → 0 ≤ member_0 j ∧ member_0 j ≤ 25) (kz_0_99 : 0 ≤ members_0 ∧ members_0 ≤ 26) : MBI (members_0) (member_0) (x12) := by
  subst fe_0_5_1
  subst fe_0_5_2
  subst fe_0_99_2
  have e_hE_0_2_1 := funext hE_0_2_1; subst e_hE_0_2_1
  have e_hE_0_2_2 := funext hE_0_2_2; subst e_hE_0_2_2
  have e_hE_0_18_1 := funext hE_0_18_1; subst e_hE_0_18_1
  have e_hE_0_18_2 := funext hE_0_18_2; subst e_hE_0_18_2
  have e_hE_0_95_1 := funext hE_0_95_1; subst e_hE_0_95_1
  have e_hE_0_95_2 := funext hE_0_95_2; subst e_hE_0_95_2
  have e_hE_0_98_1 := funext hE_0_98_1; subst e_hE_0_98_1
  first
    | exact ⟨fun s t a b c => by exfalso; omega, fun s a b => by exfalso; omega⟩
    | exact mbi_take ‹MBI _ _ _› (by omega) (by assumption) (by omega) (by omega) (by omega) (by omega)
    | exact mbi_skip ‹MBI _ _ _› (by omega)
set_option maxHeartbeats 4000000 in
theorem vc_Mo_turnEdges_10_1 (x2 : Int) (x3 : Int) (x4 : Int) (x5 : Int) (x6 : Int) (x8 : Int) (x10 : Int) (x11 : Int) (x12 : Int) (all_0 : Int → Int) (r_0 : Int) (strongOf_0 : Int → Int) (turned_0 : Int → Int) (members_1 : Int) (all_1 : Int → Int) (r_1 : Int) (strongOf_1 : Int → Int) (turned_1 : Int → Int) (strongOf_2 : Int → Int) (all_2 : Int → Int) (r_2 : Int) (turned_2 : Int → Int) (member_2 : Int → Int) (members_2 : Int) (members_0 : Int) (member_0 : Int → Int) (member_1 : Int → Int) (k2 : 1 ≤ x2 ∧ x2 ≤ 24) (k3 : 0 ≤ x3 ∧ x3 ≤ 23) (k4 : 0 ≤ x4 ∧ x4 ≤ 23) (k5 : 0 ≤ x5 ∧ x5 ≤ 23) (k6 : 1 ≤ x6 ∧ x6 ≤ 24) (k8 : 0 ≤ x8 ∧ x8 ≤ 23) (k10 : 1 ≤ x10 ∧ x10 ≤ 1) (k11 : 1 ≤ x11 ∧ x11 ≤ 24) (k12 : 1 ≤ x12 ∧ x12 ≤ 24) (d0 : x4 + 1 ≤ x12 ∧ x12 ≤ x4 + 1) (d1 : x6 + (-4294967296) ≤ x12 ∧ x12 ≤ x6 + 0) (d2 : x5 + 1 ≤ x11 ∧ x11 ≤ x5 + 1) (d3 : x4 + (-4294967296) ≤ x11 ∧ x11 ≤ x4 + 1) (d4 : x3 + 0 ≤ x8 ∧ x8 ≤ x3 + 0) (d5 : x6 + (-4294967296) ≤ x4 ∧ x4 ≤ x6 + (-1)) (d6 : x2 + (-4294967296) ≤ x3 ∧ x3 ≤ x2 + (-1)) (d7 : x4 + (-4294967296) ≤ x5 ∧ x5 ≤ x4 + 0) (f0 : x12 = x4 + 1) (f1 : 1 * x6 + ((-1) * all_0 (r_0 + 0) + 0) ≤ 0) (f2 : (-1) * x6 + (1 * all_0 (r_0 + 0) + 0) ≤ 0) (f3 : SGR (r_0) (all_0)) (f4 : STG (r_0) (all_0) (strongOf_0) (x2)) (f5 : TEI (r_0) (all_0) (strongOf_0) (turned_0) (x3)) (f8 : x11 = x5 + x10) (g9 : x5 = members_1) (f10 : 1 * x6 + ((-1) * all_1 (r_0 + 0) + 0) ≤ 0) (f11 : (-1) * x6 + (1 * all_1 (r_0 + 0) + 0) ≤ 0) (f12 : SGR (r_1) (all_1)) (f13 : STG (r_1) (all_1) (strongOf_1) (x2)) (f14 : TEI (r_1) (all_1) (strongOf_1) (turned_1) (x3)) (f15 : 1 * members_1 + ((-1) * x4 + 0) ≤ 0) (f18 : x8 = x3) (h19 : x8 = strongOf_2 (x4)) (f21 : x4 < x6) (f22 : 1 * x6 + ((-1) * all_2 (r_0 + 0) + 0) ≤ 0) (f23 : (-1) * x6 + (1 * all_2 (r_0 + 0) + 0) ≤ 0) (f24 : SGR (r_2) (all_2)) (f25 : STG (r_2) (all_2) (strongOf_2) (x2)) (f26 : TEI (r_2) (all_2) (strongOf_2) (turned_2) (x3)) (f27 : MBI (members_2) (member_2) (x4)) (f28 : MBN (members_2) (r_2) (member_2) (all_2)) (f29 : MBC (members_2) (member_2) (strongOf_2) (x3) (x4)) (f30 : 1 * members_2 + ((-1) * x4 + 0) ≤ 0) (fe_0_5_1 : r_0 = r_1) (fe_0_99_1 : members_0 = x11) (fe_0_5_2 : r_1 = r_2) (fe_0_99_2 : members_1 = members_2) (hE_0_2_1 : ∀ j : Int, all_0 j = all_1 j) (hE_0_2_2 : ∀ j : Int, all_1 j = all_2 j) (hE_0_18_1 : ∀ j : Int, strongOf_0 j = strongOf_1 j) (hE_0_18_2 : ∀ j : Int, strongOf_1 j = strongOf_2 j) (hK_0_18 : ∀ j : Int, 0 ≤ j → j < 24 → (-1) ≤ strongOf_0 j ∧ strongOf_0 j ≤ 23) (hE_0_95_1 : ∀ j : Int, turned_0 j = turned_1 j) (hE_0_95_2 : ∀ j : Int, turned_1 j = turned_2 j) (hK_0_95 : ∀ j : Int, 0 ≤ j → j < 48 → 0 ≤ turned_0 j ∧ turned_0 j ≤ 1) (hE_0_98_1 : ∀ j : Int, member_0 j = member_1 j) (hE_0_98_2 : ∀ j : Int, 0 ≤ j → (j = x5 → member_1 j = x4) ∧ (j ≠ x5 → member_1 j = member_2 j)) (hK_0_98 : ∀ j : Int, 0 ≤ j → j < 26 → 0 ≤ member_0 j ∧ member_0 j ≤ 25) (kz_0_99 : 0 ≤ members_0 ∧ members_0 ≤ 26) : MBN (members_0) (r_0) (member_0) (all_0) := by
  subst fe_0_5_1
  subst fe_0_5_2
  subst fe_0_99_2
  have e_hE_0_2_1 := funext hE_0_2_1; subst e_hE_0_2_1
  have e_hE_0_2_2 := funext hE_0_2_2; subst e_hE_0_2_2
  have e_hE_0_18_1 := funext hE_0_18_1; subst e_hE_0_18_1
  have e_hE_0_18_2 := funext hE_0_18_2; subst e_hE_0_18_2
  have e_hE_0_95_1 := funext hE_0_95_1; subst e_hE_0_95_1
  have e_hE_0_95_2 := funext hE_0_95_2; subst e_hE_0_95_2
  have e_hE_0_98_1 := funext hE_0_98_1; subst e_hE_0_98_1
  first
    | assumption
    | exact ⟨fun s t a b c => by exfalso; omega, fun s a b => by exfalso; omega⟩
    | (simp only [Int.add_zero] at *
       exact mbn_take ‹MBN _ _ _ _› ‹MBI _ _ _› (by omega) (by assumption) (by omega) (by omega) (by omega) (by omega) (by omega))
set_option maxHeartbeats 4000000 in
theorem vc_Mo_turnEdges_10_2 (x2 : Int) (x3 : Int) (x4 : Int) (x5 : Int) (x6 : Int) (x8 : Int) (x10 : Int) (x11 : Int) (x12 : Int) (all_0 : Int → Int) (r_0 : Int) (strongOf_0 : Int → Int) (turned_0 : Int → Int) (members_1 : Int) (all_1 : Int → Int) (r_1 : Int) (strongOf_1 : Int → Int) (turned_1 : Int → Int) (strongOf_2 : Int → Int) (all_2 : Int → Int) (r_2 : Int) (turned_2 : Int → Int) (member_2 : Int → Int) (members_2 : Int) (members_0 : Int) (member_0 : Int → Int) (member_1 : Int → Int) (k2 : 1 ≤ x2 ∧ x2 ≤ 24) (k3 : 0 ≤ x3 ∧ x3 ≤ 23) (k4 : 0 ≤ x4 ∧ x4 ≤ 23) (k5 : 0 ≤ x5 ∧ x5 ≤ 23) (k6 : 1 ≤ x6 ∧ x6 ≤ 24) (k8 : 0 ≤ x8 ∧ x8 ≤ 23) (k10 : 1 ≤ x10 ∧ x10 ≤ 1) (k11 : 1 ≤ x11 ∧ x11 ≤ 24) (k12 : 1 ≤ x12 ∧ x12 ≤ 24) (d0 : x4 + 1 ≤ x12 ∧ x12 ≤ x4 + 1) (d1 : x6 + (-4294967296) ≤ x12 ∧ x12 ≤ x6 + 0) (d2 : x5 + 1 ≤ x11 ∧ x11 ≤ x5 + 1) (d3 : x4 + (-4294967296) ≤ x11 ∧ x11 ≤ x4 + 1) (d4 : x3 + 0 ≤ x8 ∧ x8 ≤ x3 + 0) (d5 : x6 + (-4294967296) ≤ x4 ∧ x4 ≤ x6 + (-1)) (d6 : x2 + (-4294967296) ≤ x3 ∧ x3 ≤ x2 + (-1)) (d7 : x4 + (-4294967296) ≤ x5 ∧ x5 ≤ x4 + 0) (f0 : x12 = x4 + 1) (f1 : 1 * x6 + ((-1) * all_0 (r_0 + 0) + 0) ≤ 0) (f2 : (-1) * x6 + (1 * all_0 (r_0 + 0) + 0) ≤ 0) (f3 : SGR (r_0) (all_0)) (f4 : STG (r_0) (all_0) (strongOf_0) (x2)) (f5 : TEI (r_0) (all_0) (strongOf_0) (turned_0) (x3)) (f8 : x11 = x5 + x10) (g9 : x5 = members_1) (f10 : 1 * x6 + ((-1) * all_1 (r_0 + 0) + 0) ≤ 0) (f11 : (-1) * x6 + (1 * all_1 (r_0 + 0) + 0) ≤ 0) (f12 : SGR (r_1) (all_1)) (f13 : STG (r_1) (all_1) (strongOf_1) (x2)) (f14 : TEI (r_1) (all_1) (strongOf_1) (turned_1) (x3)) (f15 : 1 * members_1 + ((-1) * x4 + 0) ≤ 0) (f18 : x8 = x3) (h19 : x8 = strongOf_2 (x4)) (f21 : x4 < x6) (f22 : 1 * x6 + ((-1) * all_2 (r_0 + 0) + 0) ≤ 0) (f23 : (-1) * x6 + (1 * all_2 (r_0 + 0) + 0) ≤ 0) (f24 : SGR (r_2) (all_2)) (f25 : STG (r_2) (all_2) (strongOf_2) (x2)) (f26 : TEI (r_2) (all_2) (strongOf_2) (turned_2) (x3)) (f27 : MBI (members_2) (member_2) (x4)) (f28 : MBN (members_2) (r_2) (member_2) (all_2)) (f29 : MBC (members_2) (member_2) (strongOf_2) (x3) (x4)) (f30 : 1 * members_2 + ((-1) * x4 + 0) ≤ 0) (fe_0_5_1 : r_0 = r_1) (fe_0_99_1 : members_0 = x11) (fe_0_5_2 : r_1 = r_2) (fe_0_99_2 : members_1 = members_2) (hE_0_2_1 : ∀ j : Int, all_0 j = all_1 j) (hE_0_2_2 : ∀ j : Int, all_1 j = all_2 j) (hE_0_18_1 : ∀ j : Int, strongOf_0 j = strongOf_1 j) (hE_0_18_2 : ∀ j : Int, strongOf_1 j = strongOf_2 j) (hK_0_18 : ∀ j : Int, 0 ≤ j → j < 24 → (-1) ≤ strongOf_0 j ∧ strongOf_0 j ≤ 23) (hE_0_95_1 : ∀ j : Int, turned_0 j = turned_1 j) (hE_0_95_2 : ∀ j : Int, turned_1 j = turned_2 j) (hK_0_95 : ∀ j : Int, 0 ≤ j → j < 48 → 0 ≤ turned_0 j ∧ turned_0 j ≤ 1) (hE_0_98_1 : ∀ j : Int, member_0 j = member_1 j) (hE_0_98_2 : ∀ j : Int, 0 ≤ j → (j = x5 → member_1 j = x4) ∧ (j ≠ x5 → member_1 j = member_2 j)) (hK_0_98 : ∀ j : Int, 0 ≤ j → j < 26 → 0 ≤ member_0 j ∧ member_0 j ≤ 25) (kz_0_99 : 0 ≤ members_0 ∧ members_0 ≤ 26) : MBC (members_0) (member_0) (strongOf_0) (x3) (x12) := by
  subst fe_0_5_1
  subst fe_0_5_2
  subst fe_0_99_2
  have e_hE_0_2_1 := funext hE_0_2_1; subst e_hE_0_2_1
  have e_hE_0_2_2 := funext hE_0_2_2; subst e_hE_0_2_2
  have e_hE_0_18_1 := funext hE_0_18_1; subst e_hE_0_18_1
  have e_hE_0_18_2 := funext hE_0_18_2; subst e_hE_0_18_2
  have e_hE_0_95_1 := funext hE_0_95_1; subst e_hE_0_95_1
  have e_hE_0_95_2 := funext hE_0_95_2; subst e_hE_0_95_2
  have e_hE_0_98_1 := funext hE_0_98_1; subst e_hE_0_98_1
  first
    | (intro i a b; exfalso; omega)
    | exact mbc_take ‹MBC _ _ _ _ _› (by omega) (by assumption) (by omega) (by omega) (by omega) (by omega)
    | exact mbc_skip ‹MBC _ _ _ _ _› (by omega) (by assumption) (by omega)
set_option maxHeartbeats 4000000 in
theorem vc_Mo_turnEdges_10_3 (x2 : Int) (x3 : Int) (x4 : Int) (x5 : Int) (x6 : Int) (x8 : Int) (x10 : Int) (x11 : Int) (x12 : Int) (all_0 : Int → Int) (r_0 : Int) (strongOf_0 : Int → Int) (turned_0 : Int → Int) (members_1 : Int) (all_1 : Int → Int) (r_1 : Int) (strongOf_1 : Int → Int) (turned_1 : Int → Int) (strongOf_2 : Int → Int) (all_2 : Int → Int) (r_2 : Int) (turned_2 : Int → Int) (member_2 : Int → Int) (members_2 : Int) (members_0 : Int) (member_0 : Int → Int) (member_1 : Int → Int) (k2 : 1 ≤ x2 ∧ x2 ≤ 24) (k3 : 0 ≤ x3 ∧ x3 ≤ 23) (k4 : 0 ≤ x4 ∧ x4 ≤ 23) (k5 : 0 ≤ x5 ∧ x5 ≤ 23) (k6 : 1 ≤ x6 ∧ x6 ≤ 24) (k8 : 0 ≤ x8 ∧ x8 ≤ 23) (k10 : 1 ≤ x10 ∧ x10 ≤ 1) (k11 : 1 ≤ x11 ∧ x11 ≤ 24) (k12 : 1 ≤ x12 ∧ x12 ≤ 24) (d0 : x4 + 1 ≤ x12 ∧ x12 ≤ x4 + 1) (d1 : x6 + (-4294967296) ≤ x12 ∧ x12 ≤ x6 + 0) (d2 : x5 + 1 ≤ x11 ∧ x11 ≤ x5 + 1) (d3 : x4 + (-4294967296) ≤ x11 ∧ x11 ≤ x4 + 1) (d4 : x3 + 0 ≤ x8 ∧ x8 ≤ x3 + 0) (d5 : x6 + (-4294967296) ≤ x4 ∧ x4 ≤ x6 + (-1)) (d6 : x2 + (-4294967296) ≤ x3 ∧ x3 ≤ x2 + (-1)) (d7 : x4 + (-4294967296) ≤ x5 ∧ x5 ≤ x4 + 0) (f0 : x12 = x4 + 1) (f1 : 1 * x6 + ((-1) * all_0 (r_0 + 0) + 0) ≤ 0) (f2 : (-1) * x6 + (1 * all_0 (r_0 + 0) + 0) ≤ 0) (f3 : SGR (r_0) (all_0)) (f4 : STG (r_0) (all_0) (strongOf_0) (x2)) (f5 : TEI (r_0) (all_0) (strongOf_0) (turned_0) (x3)) (f8 : x11 = x5 + x10) (g9 : x5 = members_1) (f10 : 1 * x6 + ((-1) * all_1 (r_0 + 0) + 0) ≤ 0) (f11 : (-1) * x6 + (1 * all_1 (r_0 + 0) + 0) ≤ 0) (f12 : SGR (r_1) (all_1)) (f13 : STG (r_1) (all_1) (strongOf_1) (x2)) (f14 : TEI (r_1) (all_1) (strongOf_1) (turned_1) (x3)) (f15 : 1 * members_1 + ((-1) * x4 + 0) ≤ 0) (f18 : x8 = x3) (h19 : x8 = strongOf_2 (x4)) (f21 : x4 < x6) (f22 : 1 * x6 + ((-1) * all_2 (r_0 + 0) + 0) ≤ 0) (f23 : (-1) * x6 + (1 * all_2 (r_0 + 0) + 0) ≤ 0) (f24 : SGR (r_2) (all_2)) (f25 : STG (r_2) (all_2) (strongOf_2) (x2)) (f26 : TEI (r_2) (all_2) (strongOf_2) (turned_2) (x3)) (f27 : MBI (members_2) (member_2) (x4)) (f28 : MBN (members_2) (r_2) (member_2) (all_2)) (f29 : MBC (members_2) (member_2) (strongOf_2) (x3) (x4)) (f30 : 1 * members_2 + ((-1) * x4 + 0) ≤ 0) (fe_0_5_1 : r_0 = r_1) (fe_0_99_1 : members_0 = x11) (fe_0_5_2 : r_1 = r_2) (fe_0_99_2 : members_1 = members_2) (hE_0_2_1 : ∀ j : Int, all_0 j = all_1 j) (hE_0_2_2 : ∀ j : Int, all_1 j = all_2 j) (hE_0_18_1 : ∀ j : Int, strongOf_0 j = strongOf_1 j) (hE_0_18_2 : ∀ j : Int, strongOf_1 j = strongOf_2 j) (hK_0_18 : ∀ j : Int, 0 ≤ j → j < 24 → (-1) ≤ strongOf_0 j ∧ strongOf_0 j ≤ 23) (hE_0_95_1 : ∀ j : Int, turned_0 j = turned_1 j) (hE_0_95_2 : ∀ j : Int, turned_1 j = turned_2 j) (hK_0_95 : ∀ j : Int, 0 ≤ j → j < 48 → 0 ≤ turned_0 j ∧ turned_0 j ≤ 1) (hE_0_98_1 : ∀ j : Int, member_0 j = member_1 j) (hE_0_98_2 : ∀ j : Int, 0 ≤ j → (j = x5 → member_1 j = x4) ∧ (j ≠ x5 → member_1 j = member_2 j)) (hK_0_98 : ∀ j : Int, 0 ≤ j → j < 26 → 0 ≤ member_0 j ∧ member_0 j ≤ 25) (kz_0_99 : 0 ≤ members_0 ∧ members_0 ≤ 26) : 1 * members_0 + ((-1) * x12 + 0) ≤ 0 := by
  subst fe_0_5_1
  subst fe_0_5_2
  subst fe_0_99_2
  have e_hE_0_2_1 := funext hE_0_2_1; subst e_hE_0_2_1
  have e_hE_0_2_2 := funext hE_0_2_2; subst e_hE_0_2_2
  have e_hE_0_18_1 := funext hE_0_18_1; subst e_hE_0_18_1
  have e_hE_0_18_2 := funext hE_0_18_2; subst e_hE_0_18_2
  have e_hE_0_95_1 := funext hE_0_95_1; subst e_hE_0_95_1
  have e_hE_0_95_2 := funext hE_0_95_2; subst e_hE_0_95_2
  have e_hE_0_98_1 := funext hE_0_98_1; subst e_hE_0_98_1
  try simp only [Int.add_zero] at *
  omega
def o_Mo_turnEdges_10 : or_T := (43, 13, [(0, (2, 0, 0, [150])), (1, (2, 0, 0, [150])), (2, (0, 1, 24, [])), (3, (0, 0, 23, [])), (4, (0, 0, 23, [])), (5, (0, 0, 23, [])), (6, (0, 1, 24, [])), (7, (2, 0, 0, [158])), (8, (0, 0, 23, [])), (9, (2, 0, 0, [219])), (10, (0, 1, 1, [])), (11, (0, 1, 24, [])), (12, (0, 1, 24, []))], [(6, [12, 4], [1]), (20, [6, 1], [30, 0, 1, 0, 0, -1, 3, 2005000]), (20, [6, 1], [30, 0, -1, 0, 0, 1, 3, 2005000]), (20, [1], [60, 1, 1, 122, 5, 2]), (20, [1, 2], [60, 1, 2, 282, 5, 2, 18]), (20, [1, 3], [60, 1, 3, 286, 5, 2, 18, 95]), (24, [0, 1], []), (101, [1, 11], [99]), (1, [11, 5, 10], []), (9, [5, 1], [99]), (20, [6, 1], [30, 0, 1, 0, 0, -1, 3, 2005000]), (20, [6, 1], [30, 0, -1, 0, 0, 1, 3, 2005000]), (20, [1], [60, 1, 1, 122, 5, 2]), (20, [1, 2], [60, 1, 2, 282, 5, 2, 18]), (20, [1, 3], [60, 1, 3, 286, 5, 2, 18, 95]), (20, [1, 4], [30, 0, 1, 1, 99, -1, 0, 0]), (100, [9, 5, 4], []), (9, [9, 1], [98]), (7, [8, 3], [0]), (10, [8, 7, 4], []), (9, [7, 1], [18]), (7, [4, 6], [2]), (20, [6, 1], [30, 0, 1, 0, 0, -1, 3, 2005000]), (20, [6, 1], [30, 0, -1, 0, 0, 1, 3, 2005000]), (20, [1], [60, 1, 1, 122, 5, 2]), (20, [1, 2], [60, 1, 2, 282, 5, 2, 18]), (20, [1, 3], [60, 1, 3, 286, 5, 2, 18, 95]), (20, [1, 4], [60, 1, 1, 259, 99, 98]), (20, [1], [60, 2, 2, 272, 99, 5, 98, 2]), (20, [1, 3, 4], [60, 1, 2, 287, 99, 98, 18]), (20, [1, 4], [30, 0, 1, 1, 99, -1, 0, 0])], [], [], [(20, [1, 12], [60, 1, 1, 259, 99, 98]), (20, [1], [60, 2, 2, 272, 99, 5, 98, 2]), (20, [1, 3, 12], [60, 1, 2, 287, 99, 98, 18]), (20, [1, 12], [30, 0, 1, 1, 99, -1, 0, 0])], [], [(12, 4, 1, 1), (12, 6, -4294967296, 0), (11, 5, 1, 1), (11, 4, -4294967296, 1), (8, 3, 0, 0), (4, 6, -4294967296, -1), (3, 2, -4294967296, -1), (5, 4, -4294967296, 0)])
theorem oo_Mo_turnEdges_10 {kA : Nat → ClassId} : or_ok PRD kA GG o_Mo_turnEdges_10 := by
  intro A ta ws vs hD hth hl hk hds hf
  have hl : vs.length = 13 := hl
  have hk : ∀ q ∈ ([(0, (2, 0, 0, [150])), (1, (2, 0, 0, [150])), (2, (0, 1, 24, [])), (3, (0, 0, 23, [])), (4, (0, 0, 23, [])), (5, (0, 0, 23, [])), (6, (0, 1, 24, [])), (7, (2, 0, 0, [158])), (8, (0, 0, 23, [])), (9, (2, 0, 0, [219])), (10, (0, 1, 1, [])), (11, (0, 1, 24, [])), (12, (0, 1, 24, []))] : List (Nat × tv_T)), tv_ok ta q.2 (n_v vs q.1) := hk
  obtain ⟨t0, hk⟩ := List.forall_mem_cons.mp hk
  have t0 : tv_ok ta (2, 0, 0, [150]) (n_v vs 0) := t0
  have r0 : ta (v_ad (n_v vs 0)) = some 150 := tv_rg t0
  obtain ⟨t1, hk⟩ := List.forall_mem_cons.mp hk
  have t1 : tv_ok ta (2, 0, 0, [150]) (n_v vs 1) := t1
  have r1 : ta (v_ad (n_v vs 1)) = some 150 := tv_rg t1
  obtain ⟨t2, hk⟩ := List.forall_mem_cons.mp hk
  have t2 : tv_ok ta (0, 1, 24, []) (n_v vs 2) := t2
  have k2 : 1 ≤ v_iv (n_v vs 2) ∧ v_iv (n_v vs 2) ≤ 24 := tv_rng t2
  obtain ⟨t3, hk⟩ := List.forall_mem_cons.mp hk
  have t3 : tv_ok ta (0, 0, 23, []) (n_v vs 3) := t3
  have k3 : 0 ≤ v_iv (n_v vs 3) ∧ v_iv (n_v vs 3) ≤ 23 := tv_rng t3
  obtain ⟨t4, hk⟩ := List.forall_mem_cons.mp hk
  have t4 : tv_ok ta (0, 0, 23, []) (n_v vs 4) := t4
  have k4 : 0 ≤ v_iv (n_v vs 4) ∧ v_iv (n_v vs 4) ≤ 23 := tv_rng t4
  obtain ⟨t5, hk⟩ := List.forall_mem_cons.mp hk
  have t5 : tv_ok ta (0, 0, 23, []) (n_v vs 5) := t5
  have k5 : 0 ≤ v_iv (n_v vs 5) ∧ v_iv (n_v vs 5) ≤ 23 := tv_rng t5
  obtain ⟨t6, hk⟩ := List.forall_mem_cons.mp hk
  have t6 : tv_ok ta (0, 1, 24, []) (n_v vs 6) := t6
  have k6 : 1 ≤ v_iv (n_v vs 6) ∧ v_iv (n_v vs 6) ≤ 24 := tv_rng t6
  obtain ⟨t7, hk⟩ := List.forall_mem_cons.mp hk
  have t7 : tv_ok ta (2, 0, 0, [158]) (n_v vs 7) := t7
  have r7 : ta (v_ad (n_v vs 7)) = some 158 := tv_rg t7
  obtain ⟨t8, hk⟩ := List.forall_mem_cons.mp hk
  have t8 : tv_ok ta (0, 0, 23, []) (n_v vs 8) := t8
  have k8 : 0 ≤ v_iv (n_v vs 8) ∧ v_iv (n_v vs 8) ≤ 23 := tv_rng t8
  obtain ⟨t9, hk⟩ := List.forall_mem_cons.mp hk
  have t9 : tv_ok ta (2, 0, 0, [219]) (n_v vs 9) := t9
  have r9 : ta (v_ad (n_v vs 9)) = some 219 := tv_rg t9
  obtain ⟨t10, hk⟩ := List.forall_mem_cons.mp hk
  have t10 : tv_ok ta (0, 1, 1, []) (n_v vs 10) := t10
  have k10 : 1 ≤ v_iv (n_v vs 10) ∧ v_iv (n_v vs 10) ≤ 1 := tv_rng t10
  obtain ⟨t11, hk⟩ := List.forall_mem_cons.mp hk
  have t11 : tv_ok ta (0, 1, 24, []) (n_v vs 11) := t11
  have k11 : 1 ≤ v_iv (n_v vs 11) ∧ v_iv (n_v vs 11) ≤ 24 := tv_rng t11
  obtain ⟨t12, hk⟩ := List.forall_mem_cons.mp hk
  have t12 : tv_ok ta (0, 1, 24, []) (n_v vs 12) := t12
  have k12 : 1 ≤ v_iv (n_v vs 12) ∧ v_iv (n_v vs 12) ≤ 24 := tv_rng t12
  have hds : ∀ q ∈ ([(12, 4, 1, 1), (12, 6, -4294967296, 0), (11, 5, 1, 1), (11, 4, -4294967296, 1), (8, 3, 0, 0), (4, 6, -4294967296, -1), (3, 2, -4294967296, -1), (5, 4, -4294967296, 0)] : List of_T), n_iv vs q.2.1 + q.2.2.1 ≤ n_iv vs q.1 ∧ n_iv vs q.1 ≤ n_iv vs q.2.1 + q.2.2.2 := hds
  obtain ⟨d0, hds⟩ := List.forall_mem_cons.mp hds
  have d0 : v_iv (n_v vs 4) + 1 ≤ v_iv (n_v vs 12) ∧ v_iv (n_v vs 12) ≤ v_iv (n_v vs 4) + 1 := d0
  obtain ⟨d1, hds⟩ := List.forall_mem_cons.mp hds
  have d1 : v_iv (n_v vs 6) + (-4294967296) ≤ v_iv (n_v vs 12) ∧ v_iv (n_v vs 12) ≤ v_iv (n_v vs 6) + 0 := d1
  obtain ⟨d2, hds⟩ := List.forall_mem_cons.mp hds
  have d2 : v_iv (n_v vs 5) + 1 ≤ v_iv (n_v vs 11) ∧ v_iv (n_v vs 11) ≤ v_iv (n_v vs 5) + 1 := d2
  obtain ⟨d3, hds⟩ := List.forall_mem_cons.mp hds
  have d3 : v_iv (n_v vs 4) + (-4294967296) ≤ v_iv (n_v vs 11) ∧ v_iv (n_v vs 11) ≤ v_iv (n_v vs 4) + 1 := d3
  obtain ⟨d4, hds⟩ := List.forall_mem_cons.mp hds
  have d4 : v_iv (n_v vs 3) + 0 ≤ v_iv (n_v vs 8) ∧ v_iv (n_v vs 8) ≤ v_iv (n_v vs 3) + 0 := d4
  obtain ⟨d5, hds⟩ := List.forall_mem_cons.mp hds
  have d5 : v_iv (n_v vs 6) + (-4294967296) ≤ v_iv (n_v vs 4) ∧ v_iv (n_v vs 4) ≤ v_iv (n_v vs 6) + (-1) := d5
  obtain ⟨d6, hds⟩ := List.forall_mem_cons.mp hds
  have d6 : v_iv (n_v vs 2) + (-4294967296) ≤ v_iv (n_v vs 3) ∧ v_iv (n_v vs 3) ≤ v_iv (n_v vs 2) + (-1) := d6
  obtain ⟨d7, hds⟩ := List.forall_mem_cons.mp hds
  have d7 : v_iv (n_v vs 4) + (-4294967296) ≤ v_iv (n_v vs 5) ∧ v_iv (n_v vs 5) ≤ v_iv (n_v vs 4) + 0 := d7
  have hf : fc_ok PRD [(6, [12, 4], [1]), (20, [6, 1], [30, 0, 1, 0, 0, -1, 3, 2005000]), (20, [6, 1], [30, 0, -1, 0, 0, 1, 3, 2005000]), (20, [1], [60, 1, 1, 122, 5, 2]), (20, [1, 2], [60, 1, 2, 282, 5, 2, 18]), (20, [1, 3], [60, 1, 3, 286, 5, 2, 18, 95]), (24, [0, 1], []), (101, [1, 11], [99]), (1, [11, 5, 10], []), (9, [5, 1], [99]), (20, [6, 1], [30, 0, 1, 0, 0, -1, 3, 2005000]), (20, [6, 1], [30, 0, -1, 0, 0, 1, 3, 2005000]), (20, [1], [60, 1, 1, 122, 5, 2]), (20, [1, 2], [60, 1, 2, 282, 5, 2, 18]), (20, [1, 3], [60, 1, 3, 286, 5, 2, 18, 95]), (20, [1, 4], [30, 0, 1, 1, 99, -1, 0, 0]), (100, [9, 5, 4], []), (9, [9, 1], [98]), (7, [8, 3], [0]), (10, [8, 7, 4], []), (9, [7, 1], [18]), (7, [4, 6], [2]), (20, [6, 1], [30, 0, 1, 0, 0, -1, 3, 2005000]), (20, [6, 1], [30, 0, -1, 0, 0, 1, 3, 2005000]), (20, [1], [60, 1, 1, 122, 5, 2]), (20, [1, 2], [60, 1, 2, 282, 5, 2, 18]), (20, [1, 3], [60, 1, 3, 286, 5, 2, 18, 95]), (20, [1, 4], [60, 1, 1, 259, 99, 98]), (20, [1], [60, 2, 2, 272, 99, 5, 98, 2]), (20, [1, 3, 4], [60, 1, 2, 287, 99, 98, 18]), (20, [1, 4], [30, 0, 1, 1, 99, -1, 0, 0])] ta ws vs := hf
  obtain ⟨f0, hf⟩ := fc_un (show (6 : Nat) < 100 from by decide) hf
  have f0 : v_iv (n_v vs 12) = v_iv (n_v vs 4) + 1 := f0
  obtain ⟨f1, hf⟩ := fc_un (show (20 : Nat) < 100 from by decide) hf
  have f1 : 1 * v_iv (n_v vs 6) + ((-1) * w_el ws (w_ar ws (n_v vs 1) 2) (w_fi ws (n_v vs 1) 5 + 0).toNat + 0) ≤ 0 := f1
  obtain ⟨f2, hf⟩ := fc_un (show (20 : Nat) < 100 from by decide) hf
  have f2 : (-1) * v_iv (n_v vs 6) + (1 * w_el ws (w_ar ws (n_v vs 1) 2) (w_fi ws (n_v vs 1) 5 + 0).toNat + 0) ≤ 0 := f2
  obtain ⟨f3, hf⟩ := fc_un (show (20 : Nat) < 100 from by decide) hf
  have f3 : SGR (w_fi ws (n_v vs 1) 5) (w_ei ws (w_ar ws (n_v vs 1) 2)) := f3
  obtain ⟨f4, hf⟩ := fc_un (show (20 : Nat) < 100 from by decide) hf
  have f4 : STG (w_fi ws (n_v vs 1) 5) (w_ei ws (w_ar ws (n_v vs 1) 2)) (w_ei ws (w_ar ws (n_v vs 1) 18)) (v_iv (n_v vs 2)) := f4
  obtain ⟨f5, hf⟩ := fc_un (show (20 : Nat) < 100 from by decide) hf
  have f5 : TEI (w_fi ws (n_v vs 1) 5) (w_ei ws (w_ar ws (n_v vs 1) 2)) (w_ei ws (w_ar ws (n_v vs 1) 18)) (w_ei ws (w_ar ws (n_v vs 1) 95)) (v_iv (n_v vs 3)) := f5
  obtain ⟨f6, hf⟩ := fc_un (show (24 : Nat) < 100 from by decide) hf
  have f6 : n_v vs 0 = n_v vs 1 := f6
  obtain ⟨ta1, w1, le1, ⟨_, s1⟩, hf⟩ := fc_us (show ¬ (101 : Nat) < 100 from by decide) hf
  have s1 : (∀ b j, w_el ws b j = w_el w1 b j) ∧ ∀ b j, w_fd ws b j = if b = v_ad (n_v vs 1) ∧ j = 99 then n_v vs 11 else w_fd w1 b j := s1
  obtain ⟨f8, hf⟩ := fc_un (show (1 : Nat) < 100 from by decide) hf
  have f8 : v_iv (n_v vs 11) = v_iv (n_v vs 5) + v_iv (n_v vs 10) := f8
  obtain ⟨f9, hf⟩ := fc_un (show (9 : Nat) < 100 from by decide) hf
  have f9 : n_v vs 5 = w_fd w1 (v_ad (n_v vs 1)) 99 := f9
  obtain ⟨f10, hf⟩ := fc_un (show (20 : Nat) < 100 from by decide) hf
  have f10 : 1 * v_iv (n_v vs 6) + ((-1) * w_el w1 (w_ar w1 (n_v vs 1) 2) (w_fi w1 (n_v vs 1) 5 + 0).toNat + 0) ≤ 0 := f10
  obtain ⟨f11, hf⟩ := fc_un (show (20 : Nat) < 100 from by decide) hf
  have f11 : (-1) * v_iv (n_v vs 6) + (1 * w_el w1 (w_ar w1 (n_v vs 1) 2) (w_fi w1 (n_v vs 1) 5 + 0).toNat + 0) ≤ 0 := f11
  obtain ⟨f12, hf⟩ := fc_un (show (20 : Nat) < 100 from by decide) hf
  have f12 : SGR (w_fi w1 (n_v vs 1) 5) (w_ei w1 (w_ar w1 (n_v vs 1) 2)) := f12
  obtain ⟨f13, hf⟩ := fc_un (show (20 : Nat) < 100 from by decide) hf
  have f13 : STG (w_fi w1 (n_v vs 1) 5) (w_ei w1 (w_ar w1 (n_v vs 1) 2)) (w_ei w1 (w_ar w1 (n_v vs 1) 18)) (v_iv (n_v vs 2)) := f13
  obtain ⟨f14, hf⟩ := fc_un (show (20 : Nat) < 100 from by decide) hf
  have f14 : TEI (w_fi w1 (n_v vs 1) 5) (w_ei w1 (w_ar w1 (n_v vs 1) 2)) (w_ei w1 (w_ar w1 (n_v vs 1) 18)) (w_ei w1 (w_ar w1 (n_v vs 1) 95)) (v_iv (n_v vs 3)) := f14
  obtain ⟨f15, hf⟩ := fc_un (show (20 : Nat) < 100 from by decide) hf
  have f15 : 1 * w_fi w1 (n_v vs 1) 99 + ((-1) * v_iv (n_v vs 4) + 0) ≤ 0 := f15
  obtain ⟨ta2, w2, le2, ⟨_, s2⟩, hf⟩ := fc_us (show ¬ (100 : Nat) < 100 from by decide) hf
  have s2 : (∀ b j, w_el w1 b j = if b = v_ad (n_v vs 9) ∧ j = (v_iv (n_v vs 5)).toNat then v_iv (n_v vs 4) else w_el w2 b j) ∧ ∀ b k, w_fd w1 b k = w_fd w2 b k := s2
  obtain ⟨f17, hf⟩ := fc_un (show (9 : Nat) < 100 from by decide) hf
  have f17 : n_v vs 9 = w_fd w2 (v_ad (n_v vs 1)) 98 := f17
  obtain ⟨f18, hf⟩ := fc_un (show (7 : Nat) < 100 from by decide) hf
  have f18 : v_iv (n_v vs 8) = v_iv (n_v vs 3) := f18
  obtain ⟨f19, hf⟩ := fc_un (show (10 : Nat) < 100 from by decide) hf
  have f19 : v_iv (n_v vs 8) = w_el w2 (v_ad (n_v vs 7)) (v_iv (n_v vs 4)).toNat := f19
  obtain ⟨f20, hf⟩ := fc_un (show (9 : Nat) < 100 from by decide) hf
  have f20 : n_v vs 7 = w_fd w2 (v_ad (n_v vs 1)) 18 := f20
  obtain ⟨f21, hf⟩ := fc_un (show (7 : Nat) < 100 from by decide) hf
  have f21 : v_iv (n_v vs 4) < v_iv (n_v vs 6) := f21
  obtain ⟨f22, hf⟩ := fc_un (show (20 : Nat) < 100 from by decide) hf
  have f22 : 1 * v_iv (n_v vs 6) + ((-1) * w_el w2 (w_ar w2 (n_v vs 1) 2) (w_fi w2 (n_v vs 1) 5 + 0).toNat + 0) ≤ 0 := f22
  obtain ⟨f23, hf⟩ := fc_un (show (20 : Nat) < 100 from by decide) hf
  have f23 : (-1) * v_iv (n_v vs 6) + (1 * w_el w2 (w_ar w2 (n_v vs 1) 2) (w_fi w2 (n_v vs 1) 5 + 0).toNat + 0) ≤ 0 := f23
  obtain ⟨f24, hf⟩ := fc_un (show (20 : Nat) < 100 from by decide) hf
  have f24 : SGR (w_fi w2 (n_v vs 1) 5) (w_ei w2 (w_ar w2 (n_v vs 1) 2)) := f24
  obtain ⟨f25, hf⟩ := fc_un (show (20 : Nat) < 100 from by decide) hf
  have f25 : STG (w_fi w2 (n_v vs 1) 5) (w_ei w2 (w_ar w2 (n_v vs 1) 2)) (w_ei w2 (w_ar w2 (n_v vs 1) 18)) (v_iv (n_v vs 2)) := f25
  obtain ⟨f26, hf⟩ := fc_un (show (20 : Nat) < 100 from by decide) hf
  have f26 : TEI (w_fi w2 (n_v vs 1) 5) (w_ei w2 (w_ar w2 (n_v vs 1) 2)) (w_ei w2 (w_ar w2 (n_v vs 1) 18)) (w_ei w2 (w_ar w2 (n_v vs 1) 95)) (v_iv (n_v vs 3)) := f26
  obtain ⟨f27, hf⟩ := fc_un (show (20 : Nat) < 100 from by decide) hf
  have f27 : MBI (w_fi w2 (n_v vs 1) 99) (w_ei w2 (w_ar w2 (n_v vs 1) 98)) (v_iv (n_v vs 4)) := f27
  obtain ⟨f28, hf⟩ := fc_un (show (20 : Nat) < 100 from by decide) hf
  have f28 : MBN (w_fi w2 (n_v vs 1) 99) (w_fi w2 (n_v vs 1) 5) (w_ei w2 (w_ar w2 (n_v vs 1) 98)) (w_ei w2 (w_ar w2 (n_v vs 1) 2)) := f28
  obtain ⟨f29, hf⟩ := fc_un (show (20 : Nat) < 100 from by decide) hf
  have f29 : MBC (w_fi w2 (n_v vs 1) 99) (w_ei w2 (w_ar w2 (n_v vs 1) 98)) (w_ei w2 (w_ar w2 (n_v vs 1) 18)) (v_iv (n_v vs 3)) (v_iv (n_v vs 4)) := f29
  obtain ⟨f30, hf⟩ := fc_un (show (20 : Nat) < 100 from by decide) hf
  have f30 : 1 * w_fi w2 (n_v vs 1) 99 + ((-1) * v_iv (n_v vs 4) + 0) ≤ 0 := f30
  have q1 : n_v vs 1 = n_v vs 0 := f6.symm
  rw [q1] at f1
  rw [q1] at f2
  rw [q1] at f3
  rw [q1] at f4
  rw [q1] at f5
  rw [q1] at s1
  rw [q1] at f9
  rw [q1] at f10
  rw [q1] at f11
  rw [q1] at f12
  rw [q1] at f13
  rw [q1] at f14
  rw [q1] at f15
  rw [q1] at f17
  rw [q1] at f20
  rw [q1] at f22
  rw [q1] at f23
  rw [q1] at f24
  rw [q1] at f25
  rw [q1] at f26
  rw [q1] at f27
  rw [q1] at f28
  rw [q1] at f29
  rw [q1] at f30
  have ar_0_2_1 : w_ar w1 (n_v vs 0) 2 = w_ar ws (n_v vs 0) 2 := by show v_ad (w_fd w1 _ _) = v_ad (w_fd ws _ _); rw [s1.2, if_neg (fun e => absurd e.2 (by decide))]
  have ar_0_2_2 : w_ar w2 (n_v vs 0) 2 = w_ar ws (n_v vs 0) 2 := by rw [← ar_0_2_1]; show v_ad (w_fd w2 _ _) = v_ad (w_fd w1 _ _); rw [s2.2]
  have cr_0_2 : ta (w_ar ws (n_v vs 0) 2) = some 152 := tv_rg (th_fd hD hth r0 (g := GG_150) rfl (k := 2) (t := (2, 0, 0, [152])) rfl rfl)
  have ar_0_18_1 : w_ar w1 (n_v vs 0) 18 = w_ar ws (n_v vs 0) 18 := by show v_ad (w_fd w1 _ _) = v_ad (w_fd ws _ _); rw [s1.2, if_neg (fun e => absurd e.2 (by decide))]
  have ar_0_18_2 : w_ar w2 (n_v vs 0) 18 = w_ar ws (n_v vs 0) 18 := by rw [← ar_0_18_1]; show v_ad (w_fd w2 _ _) = v_ad (w_fd w1 _ _); rw [s2.2]
  have cr_0_18 : ta (w_ar ws (n_v vs 0) 18) = some 158 := tv_rg (th_fd hD hth r0 (g := GG_150) rfl (k := 18) (t := (2, 0, 0, [158])) rfl rfl)
  have ar_0_95_1 : w_ar w1 (n_v vs 0) 95 = w_ar ws (n_v vs 0) 95 := by show v_ad (w_fd w1 _ _) = v_ad (w_fd ws _ _); rw [s1.2, if_neg (fun e => absurd e.2 (by decide))]
  have ar_0_95_2 : w_ar w2 (n_v vs 0) 95 = w_ar ws (n_v vs 0) 95 := by rw [← ar_0_95_1]; show v_ad (w_fd w2 _ _) = v_ad (w_fd w1 _ _); rw [s2.2]
  have cr_0_95 : ta (w_ar ws (n_v vs 0) 95) = some 216 := tv_rg (th_fd hD hth r0 (g := GG_150) rfl (k := 95) (t := (2, 0, 0, [216])) rfl rfl)
  have ar_0_98_1 : w_ar w1 (n_v vs 0) 98 = w_ar ws (n_v vs 0) 98 := by show v_ad (w_fd w1 _ _) = v_ad (w_fd ws _ _); rw [s1.2, if_neg (fun e => absurd e.2 (by decide))]
  have ar_0_98_2 : w_ar w2 (n_v vs 0) 98 = w_ar ws (n_v vs 0) 98 := by rw [← ar_0_98_1]; show v_ad (w_fd w2 _ _) = v_ad (w_fd w1 _ _); rw [s2.2]
  have cr_0_98 : ta (w_ar ws (n_v vs 0) 98) = some 219 := tv_rg (th_fd hD hth r0 (g := GG_150) rfl (k := 98) (t := (2, 0, 0, [219])) rfl rfl)
  have fi_0_5_1 : w_fi w1 (n_v vs 0) 5 = w_fi ws (n_v vs 0) 5 := by show v_iv (w_fd w1 _ _) = v_iv (w_fd ws _ _); rw [s1.2, if_neg (fun e => absurd e.2 (by decide))]
  have fi_0_5_2 : w_fi w2 (n_v vs 0) 5 = w_fi ws (n_v vs 0) 5 := by rw [← fi_0_5_1]; show v_iv (w_fd w2 _ _) = v_iv (w_fd w1 _ _); rw [s2.2]
  have ad_9 : v_ad (n_v vs 9) = w_ar ws (n_v vs 0) 98 := (congrArg v_ad f17).trans ar_0_98_2
  have ad_7 : v_ad (n_v vs 7) = w_ar ws (n_v vs 0) 18 := (congrArg v_ad f20).trans ar_0_18_2
  have g9 : v_iv (n_v vs 5) = w_fi w1 (n_v vs 0) 99 := congrArg v_iv f9
  rw [ar_0_2_1] at f10
  rw [fi_0_5_1] at f10
  rw [ar_0_2_1] at f11
  rw [fi_0_5_1] at f11
  rw [ar_0_2_1] at f12
  rw [ar_0_2_1] at f13
  rw [ar_0_18_1] at f13
  rw [ar_0_2_1] at f14
  rw [ar_0_18_1] at f14
  rw [ar_0_95_1] at f14
  rw [ad_7] at f19
  have h19 : v_iv (n_v vs 8) = w_ei w2 (w_ar ws (n_v vs 0) 18) (v_iv (n_v vs 4)) := f19
  rw [ar_0_2_2] at f22
  rw [fi_0_5_2] at f22
  rw [ar_0_2_2] at f23
  rw [fi_0_5_2] at f23
  rw [ar_0_2_2] at f24
  rw [ar_0_2_2] at f25
  rw [ar_0_18_2] at f25
  rw [ar_0_2_2] at f26
  rw [ar_0_18_2] at f26
  rw [ar_0_95_2] at f26
  rw [ar_0_98_2] at f27
  rw [ar_0_2_2] at f28
  rw [ar_0_98_2] at f28
  rw [ar_0_18_2] at f29
  rw [ar_0_98_2] at f29
  have fe_0_5_1 : w_fi ws (n_v vs 0) 5 = w_fi w1 (n_v vs 0) 5 := by show v_iv (w_fd _ _ _) = v_iv (w_fd _ _ _); rw [s1.2, if_neg (fun e => absurd e.2 (by decide))]
  have fe_0_99_1 : w_fi ws (n_v vs 0) 99 = v_iv (n_v vs 11) := by show v_iv (w_fd _ _ _) = _; rw [s1.2, if_pos ⟨rfl, rfl⟩]
  have fe_0_5_2 : w_fi w1 (n_v vs 0) 5 = w_fi w2 (n_v vs 0) 5 := congrArg v_iv (s2.2 _ _)
  have fe_0_99_2 : w_fi w1 (n_v vs 0) 99 = w_fi w2 (n_v vs 0) 99 := congrArg v_iv (s2.2 _ _)
  have hE_0_2_1 : ∀ j : Int, w_ei ws (w_ar ws (n_v vs 0) 2) j = w_ei w1 (w_ar ws (n_v vs 0) 2) j := fun j => s1.1 _ _
  have hE_0_2_2 : ∀ j : Int, w_ei w1 (w_ar ws (n_v vs 0) 2) j = w_ei w2 (w_ar ws (n_v vs 0) 2) j := fun j => by unfold w_ei; rw [s2.1, if_neg (fun e => by have e1 := e.1; rw [← e1] at r9; rw [cr_0_2] at r9; exact absurd (Option.some.inj r9) (by decide))]
  have hE_0_18_1 : ∀ j : Int, w_ei ws (w_ar ws (n_v vs 0) 18) j = w_ei w1 (w_ar ws (n_v vs 0) 18) j := fun j => s1.1 _ _
  have hE_0_18_2 : ∀ j : Int, w_ei w1 (w_ar ws (n_v vs 0) 18) j = w_ei w2 (w_ar ws (n_v vs 0) 18) j := fun j => by unfold w_ei; rw [s2.1, if_neg (fun e => by have e1 := e.1; rw [← e1] at r9; rw [cr_0_18] at r9; exact absurd (Option.some.inj r9) (by decide))]
  have hK_0_18 : ∀ j : Int, 0 ≤ j → j < 24 → (-1) ≤ w_ei ws (w_ar ws (n_v vs 0) 18) j ∧ w_ei ws (w_ar ws (n_v vs 0) 18) j ≤ 23 := fun j h0 h1 => th_el hD hth cr_0_18 (kd := 0) (n := 24) (m := 24) (lo := (-1)) (hi := 23) (rs := []) (L := []) rfl (by decide) (j := j.toNat) (by omega)
  have hE_0_95_1 : ∀ j : Int, w_ei ws (w_ar ws (n_v vs 0) 95) j = w_ei w1 (w_ar ws (n_v vs 0) 95) j := fun j => s1.1 _ _
  have hE_0_95_2 : ∀ j : Int, w_ei w1 (w_ar ws (n_v vs 0) 95) j = w_ei w2 (w_ar ws (n_v vs 0) 95) j := fun j => by unfold w_ei; rw [s2.1, if_neg (fun e => by have e1 := e.1; rw [← e1] at r9; rw [cr_0_95] at r9; exact absurd (Option.some.inj r9) (by decide))]
  have hK_0_95 : ∀ j : Int, 0 ≤ j → j < 48 → 0 ≤ w_ei ws (w_ar ws (n_v vs 0) 95) j ∧ w_ei ws (w_ar ws (n_v vs 0) 95) j ≤ 1 := fun j h0 h1 => th_el hD hth cr_0_95 (kd := 2) (n := 48) (m := 48) (lo := 0) (hi := 1) (rs := []) (L := []) rfl (by decide) (j := j.toNat) (by omega)
  have hE_0_98_1 : ∀ j : Int, w_ei ws (w_ar ws (n_v vs 0) 98) j = w_ei w1 (w_ar ws (n_v vs 0) 98) j := fun j => s1.1 _ _
  have hE_0_98_2 : ∀ j : Int, 0 ≤ j → (j = v_iv (n_v vs 5) → w_ei w1 (w_ar ws (n_v vs 0) 98) j = v_iv (n_v vs 4)) ∧ (j ≠ v_iv (n_v vs 5) → w_ei w1 (w_ar ws (n_v vs 0) 98) j = w_ei w2 (w_ar ws (n_v vs 0) 98) j) := fun j hj => ⟨fun h => by unfold w_ei; rw [s2.1, if_pos ⟨ad_9.symm, by rw [h]⟩], fun h => by unfold w_ei; rw [s2.1, if_neg (fun e => h (by have := e.2; omega))]⟩
  have hK_0_98 : ∀ j : Int, 0 ≤ j → j < 26 → 0 ≤ w_ei ws (w_ar ws (n_v vs 0) 98) j ∧ w_ei ws (w_ar ws (n_v vs 0) 98) j ≤ 25 := fun j h0 h1 => th_el hD hth cr_0_98 (kd := 0) (n := 26) (m := 26) (lo := 0) (hi := 25) (rs := []) (L := []) rfl (by decide) (j := j.toNat) (by omega)
  have kz_0_99 : 0 ≤ w_fi ws (n_v vs 0) 99 ∧ w_fi ws (n_v vs 0) 99 ≤ 26 := tv_rng (th_fd hD hth r0 (g := GG_150) rfl (k := 99) (t := (0, 0, 26, [])) rfl rfl)
  have nf0 : fc_1 PRD (20, [1, 12], [60, 1, 1, 259, 99, 98]) ws (vs) := by
    refine ⟨fun n hn => ?_, ?_⟩
    · have hn : n ∈ [1, 12] := hn
      rw [hl]
      simp only [List.mem_cons, List.not_mem_nil, or_false] at hn
      show n < 13; omega
    · show MBI (w_fi ws (n_v vs 1) 99) (w_ei ws (w_ar ws (n_v vs 1) 98)) (v_iv (n_v vs 12))
      rw [q1]
      exact vc_Mo_turnEdges_10_0 (v_iv (n_v vs 2)) (v_iv (n_v vs 3)) (v_iv (n_v vs 4)) (v_iv (n_v vs 5)) (v_iv (n_v vs 6)) (v_iv (n_v vs 8)) (v_iv (n_v vs 10)) (v_iv (n_v vs 11)) (v_iv (n_v vs 12)) (w_ei ws (w_ar ws (n_v vs 0) 2)) (w_fi ws (n_v vs 0) 5) (w_ei ws (w_ar ws (n_v vs 0) 18)) (w_ei ws (w_ar ws (n_v vs 0) 95)) (w_fi w1 (n_v vs 0) 99) (w_ei w1 (w_ar ws (n_v vs 0) 2)) (w_fi w1 (n_v vs 0) 5) (w_ei w1 (w_ar ws (n_v vs 0) 18)) (w_ei w1 (w_ar ws (n_v vs 0) 95)) (w_ei w2 (w_ar ws (n_v vs 0) 18)) (w_ei w2 (w_ar ws (n_v vs 0) 2)) (w_fi w2 (n_v vs 0) 5) (w_ei w2 (w_ar ws (n_v vs 0) 95)) (w_ei w2 (w_ar ws (n_v vs 0) 98)) (w_fi w2 (n_v vs 0) 99) (w_fi ws (n_v vs 0) 99) (w_ei ws (w_ar ws (n_v vs 0) 98)) (w_ei w1 (w_ar ws (n_v vs 0) 98)) k2 k3 k4 k5 k6 k8 k10 k11 k12 d0 d1 d2 d3 d4 d5 d6 d7 f0 f1 f2 f3 f4 f5 f8 g9 f10 f11 f12 f13 f14 f15 f18 h19 f21 f22 f23 f24 f25 f26 f27 f28 f29 f30 fe_0_5_1 fe_0_99_1 fe_0_5_2 fe_0_99_2 hE_0_2_1 hE_0_2_2 hE_0_18_1 hE_0_18_2 hK_0_18 hE_0_95_1 hE_0_95_2 hK_0_95 hE_0_98_1 hE_0_98_2 hK_0_98 kz_0_99
  have nf1 : fc_1 PRD (20, [1], [60, 2, 2, 272, 99, 5, 98, 2]) ws (vs) := by
    refine ⟨fun n hn => ?_, ?_⟩
    · have hn : n ∈ [1] := hn
      rw [hl]
      simp only [List.mem_cons, List.not_mem_nil, or_false] at hn
      show n < 13; omega
    · show MBN (w_fi ws (n_v vs 1) 99) (w_fi ws (n_v vs 1) 5) (w_ei ws (w_ar ws (n_v vs 1) 98)) (w_ei ws (w_ar ws (n_v vs 1) 2))
      rw [q1]
      exact vc_Mo_turnEdges_10_1 (v_iv (n_v vs 2)) (v_iv (n_v vs 3)) (v_iv (n_v vs 4)) (v_iv (n_v vs 5)) (v_iv (n_v vs 6)) (v_iv (n_v vs 8)) (v_iv (n_v vs 10)) (v_iv (n_v vs 11)) (v_iv (n_v vs 12)) (w_ei ws (w_ar ws (n_v vs 0) 2)) (w_fi ws (n_v vs 0) 5) (w_ei ws (w_ar ws (n_v vs 0) 18)) (w_ei ws (w_ar ws (n_v vs 0) 95)) (w_fi w1 (n_v vs 0) 99) (w_ei w1 (w_ar ws (n_v vs 0) 2)) (w_fi w1 (n_v vs 0) 5) (w_ei w1 (w_ar ws (n_v vs 0) 18)) (w_ei w1 (w_ar ws (n_v vs 0) 95)) (w_ei w2 (w_ar ws (n_v vs 0) 18)) (w_ei w2 (w_ar ws (n_v vs 0) 2)) (w_fi w2 (n_v vs 0) 5) (w_ei w2 (w_ar ws (n_v vs 0) 95)) (w_ei w2 (w_ar ws (n_v vs 0) 98)) (w_fi w2 (n_v vs 0) 99) (w_fi ws (n_v vs 0) 99) (w_ei ws (w_ar ws (n_v vs 0) 98)) (w_ei w1 (w_ar ws (n_v vs 0) 98)) k2 k3 k4 k5 k6 k8 k10 k11 k12 d0 d1 d2 d3 d4 d5 d6 d7 f0 f1 f2 f3 f4 f5 f8 g9 f10 f11 f12 f13 f14 f15 f18 h19 f21 f22 f23 f24 f25 f26 f27 f28 f29 f30 fe_0_5_1 fe_0_99_1 fe_0_5_2 fe_0_99_2 hE_0_2_1 hE_0_2_2 hE_0_18_1 hE_0_18_2 hK_0_18 hE_0_95_1 hE_0_95_2 hK_0_95 hE_0_98_1 hE_0_98_2 hK_0_98 kz_0_99
  have nf2 : fc_1 PRD (20, [1, 3, 12], [60, 1, 2, 287, 99, 98, 18]) ws (vs) := by
    refine ⟨fun n hn => ?_, ?_⟩
    · have hn : n ∈ [1, 3, 12] := hn
      rw [hl]
      simp only [List.mem_cons, List.not_mem_nil, or_false] at hn
      show n < 13; omega
    · show MBC (w_fi ws (n_v vs 1) 99) (w_ei ws (w_ar ws (n_v vs 1) 98)) (w_ei ws (w_ar ws (n_v vs 1) 18)) (v_iv (n_v vs 3)) (v_iv (n_v vs 12))
      rw [q1]
      exact vc_Mo_turnEdges_10_2 (v_iv (n_v vs 2)) (v_iv (n_v vs 3)) (v_iv (n_v vs 4)) (v_iv (n_v vs 5)) (v_iv (n_v vs 6)) (v_iv (n_v vs 8)) (v_iv (n_v vs 10)) (v_iv (n_v vs 11)) (v_iv (n_v vs 12)) (w_ei ws (w_ar ws (n_v vs 0) 2)) (w_fi ws (n_v vs 0) 5) (w_ei ws (w_ar ws (n_v vs 0) 18)) (w_ei ws (w_ar ws (n_v vs 0) 95)) (w_fi w1 (n_v vs 0) 99) (w_ei w1 (w_ar ws (n_v vs 0) 2)) (w_fi w1 (n_v vs 0) 5) (w_ei w1 (w_ar ws (n_v vs 0) 18)) (w_ei w1 (w_ar ws (n_v vs 0) 95)) (w_ei w2 (w_ar ws (n_v vs 0) 18)) (w_ei w2 (w_ar ws (n_v vs 0) 2)) (w_fi w2 (n_v vs 0) 5) (w_ei w2 (w_ar ws (n_v vs 0) 95)) (w_ei w2 (w_ar ws (n_v vs 0) 98)) (w_fi w2 (n_v vs 0) 99) (w_fi ws (n_v vs 0) 99) (w_ei ws (w_ar ws (n_v vs 0) 98)) (w_ei w1 (w_ar ws (n_v vs 0) 98)) k2 k3 k4 k5 k6 k8 k10 k11 k12 d0 d1 d2 d3 d4 d5 d6 d7 f0 f1 f2 f3 f4 f5 f8 g9 f10 f11 f12 f13 f14 f15 f18 h19 f21 f22 f23 f24 f25 f26 f27 f28 f29 f30 fe_0_5_1 fe_0_99_1 fe_0_5_2 fe_0_99_2 hE_0_2_1 hE_0_2_2 hE_0_18_1 hE_0_18_2 hK_0_18 hE_0_95_1 hE_0_95_2 hK_0_95 hE_0_98_1 hE_0_98_2 hK_0_98 kz_0_99
  have nf3 : fc_1 PRD (20, [1, 12], [30, 0, 1, 1, 99, -1, 0, 0]) ws (vs) := by
    refine ⟨fun n hn => ?_, ?_⟩
    · have hn : n ∈ [1, 12] := hn
      rw [hl]
      simp only [List.mem_cons, List.not_mem_nil, or_false] at hn
      show n < 13; omega
    · show 1 * w_fi ws (n_v vs 1) 99 + ((-1) * v_iv (n_v vs 12) + 0) ≤ 0
      rw [q1]
      exact vc_Mo_turnEdges_10_3 (v_iv (n_v vs 2)) (v_iv (n_v vs 3)) (v_iv (n_v vs 4)) (v_iv (n_v vs 5)) (v_iv (n_v vs 6)) (v_iv (n_v vs 8)) (v_iv (n_v vs 10)) (v_iv (n_v vs 11)) (v_iv (n_v vs 12)) (w_ei ws (w_ar ws (n_v vs 0) 2)) (w_fi ws (n_v vs 0) 5) (w_ei ws (w_ar ws (n_v vs 0) 18)) (w_ei ws (w_ar ws (n_v vs 0) 95)) (w_fi w1 (n_v vs 0) 99) (w_ei w1 (w_ar ws (n_v vs 0) 2)) (w_fi w1 (n_v vs 0) 5) (w_ei w1 (w_ar ws (n_v vs 0) 18)) (w_ei w1 (w_ar ws (n_v vs 0) 95)) (w_ei w2 (w_ar ws (n_v vs 0) 18)) (w_ei w2 (w_ar ws (n_v vs 0) 2)) (w_fi w2 (n_v vs 0) 5) (w_ei w2 (w_ar ws (n_v vs 0) 95)) (w_ei w2 (w_ar ws (n_v vs 0) 98)) (w_fi w2 (n_v vs 0) 99) (w_fi ws (n_v vs 0) 99) (w_ei ws (w_ar ws (n_v vs 0) 98)) (w_ei w1 (w_ar ws (n_v vs 0) 98)) k2 k3 k4 k5 k6 k8 k10 k11 k12 d0 d1 d2 d3 d4 d5 d6 d7 f0 f1 f2 f3 f4 f5 f8 g9 f10 f11 f12 f13 f14 f15 f18 h19 f21 f22 f23 f24 f25 f26 f27 f28 f29 f30 fe_0_5_1 fe_0_99_1 fe_0_5_2 fe_0_99_2 hE_0_2_1 hE_0_2_2 hE_0_18_1 hE_0_18_2 hK_0_18 hE_0_95_1 hE_0_95_2 hK_0_95 hE_0_98_1 hE_0_98_2 hK_0_98 kz_0_99
  refine ⟨(fun _ h => (by cases h)), [], trivial, ?_, (fun _ h => (by cases h))⟩
  rw [List.append_nil]
  exact List.forall_mem_cons.mpr ⟨⟨show (20 : Nat) < 100 from by decide, nf0⟩, List.forall_mem_cons.mpr ⟨⟨show (20 : Nat) < 100 from by decide, nf1⟩, List.forall_mem_cons.mpr ⟨⟨show (20 : Nat) < 100 from by decide, nf2⟩, List.forall_mem_cons.mpr ⟨⟨show (20 : Nat) < 100 from by decide, nf3⟩, (fun _ h => (by cases h))⟩⟩⟩⟩
set_option maxHeartbeats 4000000 in
theorem vc_Mo_turnEdges_11_0 (x2 : Int) (x3 : Int) (x4 : Int) (x6 : Int) (x8 : Int) (x9 : Int) (strongOf_0 : Int → Int) (all_0 : Int → Int) (r_0 : Int) (turned_0 : Int → Int) (member_0 : Int → Int) (members_0 : Int) (k2 : 1 ≤ x2 ∧ x2 ≤ 24) (k3 : 0 ≤ x3 ∧ x3 ≤ 23) (k4 : 0 ≤ x4 ∧ x4 ≤ 23) (k6 : 1 ≤ x6 ∧ x6 ≤ 24) (k8 : (-1) ≤ x8 ∧ x8 ≤ 23) (k9 : 1 ≤ x9 ∧ x9 ≤ 24) (d0 : x4 + 1 ≤ x9 ∧ x9 ≤ x4 + 1) (d1 : x6 + (-4294967296) ≤ x9 ∧ x9 ≤ x6 + 0) (d2 : x6 + (-4294967296) ≤ x4 ∧ x4 ≤ x6 + (-1)) (d3 : x2 + (-4294967296) ≤ x3 ∧ x3 ≤ x2 + (-1)) (f0 : x9 = x4 + 1) (f1 : x8 ≠ x3) (h2 : x8 = strongOf_0 (x4)) (f4 : x4 < x6) (f5 : 1 * x6 + ((-1) * all_0 (r_0 + 0) + 0) ≤ 0) (f6 : (-1) * x6 + (1 * all_0 (r_0 + 0) + 0) ≤ 0) (f7 : SGR (r_0) (all_0)) (f8 : STG (r_0) (all_0) (strongOf_0) (x2)) (f9 : TEI (r_0) (all_0) (strongOf_0) (turned_0) (x3)) (f10 : MBI (members_0) (member_0) (x4)) (f11 : MBN (members_0) (r_0) (member_0) (all_0)) (f12 : MBC (members_0) (member_0) (strongOf_0) (x3) (x4)) (f13 : 1 * members_0 + ((-1) * x4 + 0) ≤ 0) (hK_0_18 : ∀ j : Int, 0 ≤ j → j < 24 → (-1) ≤ strongOf_0 j ∧ strongOf_0 j ≤ 23) (hK_0_95 : ∀ j : Int, 0 ≤ j → j < 48 → 0 ≤ turned_0 j ∧ turned_0 j ≤ 1) (hK_0_98 : ∀ j : Int, 0 ≤ j → j < 26 → 0 ≤ member_0 j ∧ member_0 j ≤ 25) (kz_0_99 : 0 ≤ members_0 ∧ members_0 ≤ 26) : MBI (members_0) (member_0) (x9) := by
  first
    | exact ⟨fun s t a b c => by exfalso; omega, fun s a b => by exfalso; omega⟩
    | exact mbi_take ‹MBI _ _ _› (by omega) (by assumption) (by omega) (by omega) (by omega) (by omega)
    | exact mbi_skip ‹MBI _ _ _› (by omega)
set_option maxHeartbeats 4000000 in
theorem vc_Mo_turnEdges_11_1 (x2 : Int) (x3 : Int) (x4 : Int) (x6 : Int) (x8 : Int) (x9 : Int) (strongOf_0 : Int → Int) (all_0 : Int → Int) (r_0 : Int) (turned_0 : Int → Int) (member_0 : Int → Int) (members_0 : Int) (k2 : 1 ≤ x2 ∧ x2 ≤ 24) (k3 : 0 ≤ x3 ∧ x3 ≤ 23) (k4 : 0 ≤ x4 ∧ x4 ≤ 23) (k6 : 1 ≤ x6 ∧ x6 ≤ 24) (k8 : (-1) ≤ x8 ∧ x8 ≤ 23) (k9 : 1 ≤ x9 ∧ x9 ≤ 24) (d0 : x4 + 1 ≤ x9 ∧ x9 ≤ x4 + 1) (d1 : x6 + (-4294967296) ≤ x9 ∧ x9 ≤ x6 + 0) (d2 : x6 + (-4294967296) ≤ x4 ∧ x4 ≤ x6 + (-1)) (d3 : x2 + (-4294967296) ≤ x3 ∧ x3 ≤ x2 + (-1)) (f0 : x9 = x4 + 1) (f1 : x8 ≠ x3) (h2 : x8 = strongOf_0 (x4)) (f4 : x4 < x6) (f5 : 1 * x6 + ((-1) * all_0 (r_0 + 0) + 0) ≤ 0) (f6 : (-1) * x6 + (1 * all_0 (r_0 + 0) + 0) ≤ 0) (f7 : SGR (r_0) (all_0)) (f8 : STG (r_0) (all_0) (strongOf_0) (x2)) (f9 : TEI (r_0) (all_0) (strongOf_0) (turned_0) (x3)) (f10 : MBI (members_0) (member_0) (x4)) (f11 : MBN (members_0) (r_0) (member_0) (all_0)) (f12 : MBC (members_0) (member_0) (strongOf_0) (x3) (x4)) (f13 : 1 * members_0 + ((-1) * x4 + 0) ≤ 0) (hK_0_18 : ∀ j : Int, 0 ≤ j → j < 24 → (-1) ≤ strongOf_0 j ∧ strongOf_0 j ≤ 23) (hK_0_95 : ∀ j : Int, 0 ≤ j → j < 48 → 0 ≤ turned_0 j ∧ turned_0 j ≤ 1) (hK_0_98 : ∀ j : Int, 0 ≤ j → j < 26 → 0 ≤ member_0 j ∧ member_0 j ≤ 25) (kz_0_99 : 0 ≤ members_0 ∧ members_0 ≤ 26) : MBC (members_0) (member_0) (strongOf_0) (x3) (x9) := by
  first
    | (intro i a b; exfalso; omega)
    | exact mbc_take ‹MBC _ _ _ _ _› (by omega) (by assumption) (by omega) (by omega) (by omega) (by omega)
    | exact mbc_skip ‹MBC _ _ _ _ _› (by omega) (by assumption) (by omega)
set_option maxHeartbeats 4000000 in
theorem vc_Mo_turnEdges_11_2 (x2 : Int) (x3 : Int) (x4 : Int) (x6 : Int) (x8 : Int) (x9 : Int) (strongOf_0 : Int → Int) (all_0 : Int → Int) (r_0 : Int) (turned_0 : Int → Int) (member_0 : Int → Int) (members_0 : Int) (k2 : 1 ≤ x2 ∧ x2 ≤ 24) (k3 : 0 ≤ x3 ∧ x3 ≤ 23) (k4 : 0 ≤ x4 ∧ x4 ≤ 23) (k6 : 1 ≤ x6 ∧ x6 ≤ 24) (k8 : (-1) ≤ x8 ∧ x8 ≤ 23) (k9 : 1 ≤ x9 ∧ x9 ≤ 24) (d0 : x4 + 1 ≤ x9 ∧ x9 ≤ x4 + 1) (d1 : x6 + (-4294967296) ≤ x9 ∧ x9 ≤ x6 + 0) (d2 : x6 + (-4294967296) ≤ x4 ∧ x4 ≤ x6 + (-1)) (d3 : x2 + (-4294967296) ≤ x3 ∧ x3 ≤ x2 + (-1)) (f0 : x9 = x4 + 1) (f1 : x8 ≠ x3) (h2 : x8 = strongOf_0 (x4)) (f4 : x4 < x6) (f5 : 1 * x6 + ((-1) * all_0 (r_0 + 0) + 0) ≤ 0) (f6 : (-1) * x6 + (1 * all_0 (r_0 + 0) + 0) ≤ 0) (f7 : SGR (r_0) (all_0)) (f8 : STG (r_0) (all_0) (strongOf_0) (x2)) (f9 : TEI (r_0) (all_0) (strongOf_0) (turned_0) (x3)) (f10 : MBI (members_0) (member_0) (x4)) (f11 : MBN (members_0) (r_0) (member_0) (all_0)) (f12 : MBC (members_0) (member_0) (strongOf_0) (x3) (x4)) (f13 : 1 * members_0 + ((-1) * x4 + 0) ≤ 0) (hK_0_18 : ∀ j : Int, 0 ≤ j → j < 24 → (-1) ≤ strongOf_0 j ∧ strongOf_0 j ≤ 23) (hK_0_95 : ∀ j : Int, 0 ≤ j → j < 48 → 0 ≤ turned_0 j ∧ turned_0 j ≤ 1) (hK_0_98 : ∀ j : Int, 0 ≤ j → j < 26 → 0 ≤ member_0 j ∧ member_0 j ≤ 25) (kz_0_99 : 0 ≤ members_0 ∧ members_0 ≤ 26) : 1 * members_0 + ((-1) * x9 + 0) ≤ 0 := by
  try simp only [Int.add_zero] at *
  omega
def o_Mo_turnEdges_11 : or_T := (43, 10, [(0, (2, 0, 0, [150])), (1, (2, 0, 0, [150])), (2, (0, 1, 24, [])), (3, (0, 0, 23, [])), (4, (0, 0, 23, [])), (6, (0, 1, 24, [])), (7, (2, 0, 0, [158])), (8, (0, -1, 23, [])), (9, (0, 1, 24, []))], [(6, [9, 4], [1]), (7, [8, 3], [1]), (10, [8, 7, 4], []), (9, [7, 1], [18]), (7, [4, 6], [2]), (20, [6, 1], [30, 0, 1, 0, 0, -1, 3, 2005000]), (20, [6, 1], [30, 0, -1, 0, 0, 1, 3, 2005000]), (20, [1], [60, 1, 1, 122, 5, 2]), (20, [1, 2], [60, 1, 2, 282, 5, 2, 18]), (20, [1, 3], [60, 1, 3, 286, 5, 2, 18, 95]), (20, [1, 4], [60, 1, 1, 259, 99, 98]), (20, [1], [60, 2, 2, 272, 99, 5, 98, 2]), (20, [1, 3, 4], [60, 1, 2, 287, 99, 98, 18]), (20, [1, 4], [30, 0, 1, 1, 99, -1, 0, 0]), (24, [0, 1], [])], [], [], [(20, [1, 9], [60, 1, 1, 259, 99, 98]), (20, [1, 3, 9], [60, 1, 2, 287, 99, 98, 18]), (20, [1, 9], [30, 0, 1, 1, 99, -1, 0, 0])], [], [(9, 4, 1, 1), (9, 6, -4294967296, 0), (4, 6, -4294967296, -1), (3, 2, -4294967296, -1)])
theorem oo_Mo_turnEdges_11 {kA : Nat → ClassId} : or_ok PRD kA GG o_Mo_turnEdges_11 := by
  intro A ta ws vs hD hth hl hk hds hf
  have hl : vs.length = 10 := hl
  have hk : ∀ q ∈ ([(0, (2, 0, 0, [150])), (1, (2, 0, 0, [150])), (2, (0, 1, 24, [])), (3, (0, 0, 23, [])), (4, (0, 0, 23, [])), (6, (0, 1, 24, [])), (7, (2, 0, 0, [158])), (8, (0, -1, 23, [])), (9, (0, 1, 24, []))] : List (Nat × tv_T)), tv_ok ta q.2 (n_v vs q.1) := hk
  obtain ⟨t0, hk⟩ := List.forall_mem_cons.mp hk
  have t0 : tv_ok ta (2, 0, 0, [150]) (n_v vs 0) := t0
  have r0 : ta (v_ad (n_v vs 0)) = some 150 := tv_rg t0
  obtain ⟨t1, hk⟩ := List.forall_mem_cons.mp hk
  have t1 : tv_ok ta (2, 0, 0, [150]) (n_v vs 1) := t1
  have r1 : ta (v_ad (n_v vs 1)) = some 150 := tv_rg t1
  obtain ⟨t2, hk⟩ := List.forall_mem_cons.mp hk
  have t2 : tv_ok ta (0, 1, 24, []) (n_v vs 2) := t2
  have k2 : 1 ≤ v_iv (n_v vs 2) ∧ v_iv (n_v vs 2) ≤ 24 := tv_rng t2
  obtain ⟨t3, hk⟩ := List.forall_mem_cons.mp hk
  have t3 : tv_ok ta (0, 0, 23, []) (n_v vs 3) := t3
  have k3 : 0 ≤ v_iv (n_v vs 3) ∧ v_iv (n_v vs 3) ≤ 23 := tv_rng t3
  obtain ⟨t4, hk⟩ := List.forall_mem_cons.mp hk
  have t4 : tv_ok ta (0, 0, 23, []) (n_v vs 4) := t4
  have k4 : 0 ≤ v_iv (n_v vs 4) ∧ v_iv (n_v vs 4) ≤ 23 := tv_rng t4
  obtain ⟨t6, hk⟩ := List.forall_mem_cons.mp hk
  have t6 : tv_ok ta (0, 1, 24, []) (n_v vs 6) := t6
  have k6 : 1 ≤ v_iv (n_v vs 6) ∧ v_iv (n_v vs 6) ≤ 24 := tv_rng t6
  obtain ⟨t7, hk⟩ := List.forall_mem_cons.mp hk
  have t7 : tv_ok ta (2, 0, 0, [158]) (n_v vs 7) := t7
  have r7 : ta (v_ad (n_v vs 7)) = some 158 := tv_rg t7
  obtain ⟨t8, hk⟩ := List.forall_mem_cons.mp hk
  have t8 : tv_ok ta (0, -1, 23, []) (n_v vs 8) := t8
  have k8 : (-1) ≤ v_iv (n_v vs 8) ∧ v_iv (n_v vs 8) ≤ 23 := tv_rng t8
  obtain ⟨t9, hk⟩ := List.forall_mem_cons.mp hk
  have t9 : tv_ok ta (0, 1, 24, []) (n_v vs 9) := t9
  have k9 : 1 ≤ v_iv (n_v vs 9) ∧ v_iv (n_v vs 9) ≤ 24 := tv_rng t9
  have hds : ∀ q ∈ ([(9, 4, 1, 1), (9, 6, -4294967296, 0), (4, 6, -4294967296, -1), (3, 2, -4294967296, -1)] : List of_T), n_iv vs q.2.1 + q.2.2.1 ≤ n_iv vs q.1 ∧ n_iv vs q.1 ≤ n_iv vs q.2.1 + q.2.2.2 := hds
  obtain ⟨d0, hds⟩ := List.forall_mem_cons.mp hds
  have d0 : v_iv (n_v vs 4) + 1 ≤ v_iv (n_v vs 9) ∧ v_iv (n_v vs 9) ≤ v_iv (n_v vs 4) + 1 := d0
  obtain ⟨d1, hds⟩ := List.forall_mem_cons.mp hds
  have d1 : v_iv (n_v vs 6) + (-4294967296) ≤ v_iv (n_v vs 9) ∧ v_iv (n_v vs 9) ≤ v_iv (n_v vs 6) + 0 := d1
  obtain ⟨d2, hds⟩ := List.forall_mem_cons.mp hds
  have d2 : v_iv (n_v vs 6) + (-4294967296) ≤ v_iv (n_v vs 4) ∧ v_iv (n_v vs 4) ≤ v_iv (n_v vs 6) + (-1) := d2
  obtain ⟨d3, hds⟩ := List.forall_mem_cons.mp hds
  have d3 : v_iv (n_v vs 2) + (-4294967296) ≤ v_iv (n_v vs 3) ∧ v_iv (n_v vs 3) ≤ v_iv (n_v vs 2) + (-1) := d3
  have hf : fc_ok PRD [(6, [9, 4], [1]), (7, [8, 3], [1]), (10, [8, 7, 4], []), (9, [7, 1], [18]), (7, [4, 6], [2]), (20, [6, 1], [30, 0, 1, 0, 0, -1, 3, 2005000]), (20, [6, 1], [30, 0, -1, 0, 0, 1, 3, 2005000]), (20, [1], [60, 1, 1, 122, 5, 2]), (20, [1, 2], [60, 1, 2, 282, 5, 2, 18]), (20, [1, 3], [60, 1, 3, 286, 5, 2, 18, 95]), (20, [1, 4], [60, 1, 1, 259, 99, 98]), (20, [1], [60, 2, 2, 272, 99, 5, 98, 2]), (20, [1, 3, 4], [60, 1, 2, 287, 99, 98, 18]), (20, [1, 4], [30, 0, 1, 1, 99, -1, 0, 0]), (24, [0, 1], [])] ta ws vs := hf
  obtain ⟨f0, hf⟩ := fc_un (show (6 : Nat) < 100 from by decide) hf
  have f0 : v_iv (n_v vs 9) = v_iv (n_v vs 4) + 1 := f0
  obtain ⟨f1, hf⟩ := fc_un (show (7 : Nat) < 100 from by decide) hf
  have f1 : v_iv (n_v vs 8) ≠ v_iv (n_v vs 3) := f1
  obtain ⟨f2, hf⟩ := fc_un (show (10 : Nat) < 100 from by decide) hf
  have f2 : v_iv (n_v vs 8) = w_el ws (v_ad (n_v vs 7)) (v_iv (n_v vs 4)).toNat := f2
  obtain ⟨f3, hf⟩ := fc_un (show (9 : Nat) < 100 from by decide) hf
  have f3 : n_v vs 7 = w_fd ws (v_ad (n_v vs 1)) 18 := f3
  obtain ⟨f4, hf⟩ := fc_un (show (7 : Nat) < 100 from by decide) hf
  have f4 : v_iv (n_v vs 4) < v_iv (n_v vs 6) := f4
  obtain ⟨f5, hf⟩ := fc_un (show (20 : Nat) < 100 from by decide) hf
  have f5 : 1 * v_iv (n_v vs 6) + ((-1) * w_el ws (w_ar ws (n_v vs 1) 2) (w_fi ws (n_v vs 1) 5 + 0).toNat + 0) ≤ 0 := f5
  obtain ⟨f6, hf⟩ := fc_un (show (20 : Nat) < 100 from by decide) hf
  have f6 : (-1) * v_iv (n_v vs 6) + (1 * w_el ws (w_ar ws (n_v vs 1) 2) (w_fi ws (n_v vs 1) 5 + 0).toNat + 0) ≤ 0 := f6
  obtain ⟨f7, hf⟩ := fc_un (show (20 : Nat) < 100 from by decide) hf
  have f7 : SGR (w_fi ws (n_v vs 1) 5) (w_ei ws (w_ar ws (n_v vs 1) 2)) := f7
  obtain ⟨f8, hf⟩ := fc_un (show (20 : Nat) < 100 from by decide) hf
  have f8 : STG (w_fi ws (n_v vs 1) 5) (w_ei ws (w_ar ws (n_v vs 1) 2)) (w_ei ws (w_ar ws (n_v vs 1) 18)) (v_iv (n_v vs 2)) := f8
  obtain ⟨f9, hf⟩ := fc_un (show (20 : Nat) < 100 from by decide) hf
  have f9 : TEI (w_fi ws (n_v vs 1) 5) (w_ei ws (w_ar ws (n_v vs 1) 2)) (w_ei ws (w_ar ws (n_v vs 1) 18)) (w_ei ws (w_ar ws (n_v vs 1) 95)) (v_iv (n_v vs 3)) := f9
  obtain ⟨f10, hf⟩ := fc_un (show (20 : Nat) < 100 from by decide) hf
  have f10 : MBI (w_fi ws (n_v vs 1) 99) (w_ei ws (w_ar ws (n_v vs 1) 98)) (v_iv (n_v vs 4)) := f10
  obtain ⟨f11, hf⟩ := fc_un (show (20 : Nat) < 100 from by decide) hf
  have f11 : MBN (w_fi ws (n_v vs 1) 99) (w_fi ws (n_v vs 1) 5) (w_ei ws (w_ar ws (n_v vs 1) 98)) (w_ei ws (w_ar ws (n_v vs 1) 2)) := f11
  obtain ⟨f12, hf⟩ := fc_un (show (20 : Nat) < 100 from by decide) hf
  have f12 : MBC (w_fi ws (n_v vs 1) 99) (w_ei ws (w_ar ws (n_v vs 1) 98)) (w_ei ws (w_ar ws (n_v vs 1) 18)) (v_iv (n_v vs 3)) (v_iv (n_v vs 4)) := f12
  obtain ⟨f13, hf⟩ := fc_un (show (20 : Nat) < 100 from by decide) hf
  have f13 : 1 * w_fi ws (n_v vs 1) 99 + ((-1) * v_iv (n_v vs 4) + 0) ≤ 0 := f13
  obtain ⟨f14, hf⟩ := fc_un (show (24 : Nat) < 100 from by decide) hf
  have f14 : n_v vs 0 = n_v vs 1 := f14
  have q1 : n_v vs 1 = n_v vs 0 := f14.symm
  rw [q1] at f3
  rw [q1] at f5
  rw [q1] at f6
  rw [q1] at f7
  rw [q1] at f8
  rw [q1] at f9
  rw [q1] at f10
  rw [q1] at f11
  rw [q1] at f12
  rw [q1] at f13
  have cr_0_2 : ta (w_ar ws (n_v vs 0) 2) = some 152 := tv_rg (th_fd hD hth r0 (g := GG_150) rfl (k := 2) (t := (2, 0, 0, [152])) rfl rfl)
  have cr_0_18 : ta (w_ar ws (n_v vs 0) 18) = some 158 := tv_rg (th_fd hD hth r0 (g := GG_150) rfl (k := 18) (t := (2, 0, 0, [158])) rfl rfl)
  have cr_0_95 : ta (w_ar ws (n_v vs 0) 95) = some 216 := tv_rg (th_fd hD hth r0 (g := GG_150) rfl (k := 95) (t := (2, 0, 0, [216])) rfl rfl)
  have cr_0_98 : ta (w_ar ws (n_v vs 0) 98) = some 219 := tv_rg (th_fd hD hth r0 (g := GG_150) rfl (k := 98) (t := (2, 0, 0, [219])) rfl rfl)
  have ad_7 : v_ad (n_v vs 7) = w_ar ws (n_v vs 0) 18 := congrArg v_ad f3
  rw [ad_7] at f2
  have h2 : v_iv (n_v vs 8) = w_ei ws (w_ar ws (n_v vs 0) 18) (v_iv (n_v vs 4)) := f2
  have hK_0_18 : ∀ j : Int, 0 ≤ j → j < 24 → (-1) ≤ w_ei ws (w_ar ws (n_v vs 0) 18) j ∧ w_ei ws (w_ar ws (n_v vs 0) 18) j ≤ 23 := fun j h0 h1 => th_el hD hth cr_0_18 (kd := 0) (n := 24) (m := 24) (lo := (-1)) (hi := 23) (rs := []) (L := []) rfl (by decide) (j := j.toNat) (by omega)
  have hK_0_95 : ∀ j : Int, 0 ≤ j → j < 48 → 0 ≤ w_ei ws (w_ar ws (n_v vs 0) 95) j ∧ w_ei ws (w_ar ws (n_v vs 0) 95) j ≤ 1 := fun j h0 h1 => th_el hD hth cr_0_95 (kd := 2) (n := 48) (m := 48) (lo := 0) (hi := 1) (rs := []) (L := []) rfl (by decide) (j := j.toNat) (by omega)
  have hK_0_98 : ∀ j : Int, 0 ≤ j → j < 26 → 0 ≤ w_ei ws (w_ar ws (n_v vs 0) 98) j ∧ w_ei ws (w_ar ws (n_v vs 0) 98) j ≤ 25 := fun j h0 h1 => th_el hD hth cr_0_98 (kd := 0) (n := 26) (m := 26) (lo := 0) (hi := 25) (rs := []) (L := []) rfl (by decide) (j := j.toNat) (by omega)
  have kz_0_99 : 0 ≤ w_fi ws (n_v vs 0) 99 ∧ w_fi ws (n_v vs 0) 99 ≤ 26 := tv_rng (th_fd hD hth r0 (g := GG_150) rfl (k := 99) (t := (0, 0, 26, [])) rfl rfl)
  have nf0 : fc_1 PRD (20, [1, 9], [60, 1, 1, 259, 99, 98]) ws (vs) := by
    refine ⟨fun n hn => ?_, ?_⟩
    · have hn : n ∈ [1, 9] := hn
      rw [hl]
      simp only [List.mem_cons, List.not_mem_nil, or_false] at hn
      show n < 10; omega
    · show MBI (w_fi ws (n_v vs 1) 99) (w_ei ws (w_ar ws (n_v vs 1) 98)) (v_iv (n_v vs 9))
      rw [q1]
      exact vc_Mo_turnEdges_11_0 (v_iv (n_v vs 2)) (v_iv (n_v vs 3)) (v_iv (n_v vs 4)) (v_iv (n_v vs 6)) (v_iv (n_v vs 8)) (v_iv (n_v vs 9)) (w_ei ws (w_ar ws (n_v vs 0) 18)) (w_ei ws (w_ar ws (n_v vs 0) 2)) (w_fi ws (n_v vs 0) 5) (w_ei ws (w_ar ws (n_v vs 0) 95)) (w_ei ws (w_ar ws (n_v vs 0) 98)) (w_fi ws (n_v vs 0) 99) k2 k3 k4 k6 k8 k9 d0 d1 d2 d3 f0 f1 h2 f4 f5 f6 f7 f8 f9 f10 f11 f12 f13 hK_0_18 hK_0_95 hK_0_98 kz_0_99
  have nf1 : fc_1 PRD (20, [1, 3, 9], [60, 1, 2, 287, 99, 98, 18]) ws (vs) := by
    refine ⟨fun n hn => ?_, ?_⟩
    · have hn : n ∈ [1, 3, 9] := hn
      rw [hl]
      simp only [List.mem_cons, List.not_mem_nil, or_false] at hn
      show n < 10; omega
    · show MBC (w_fi ws (n_v vs 1) 99) (w_ei ws (w_ar ws (n_v vs 1) 98)) (w_ei ws (w_ar ws (n_v vs 1) 18)) (v_iv (n_v vs 3)) (v_iv (n_v vs 9))
      rw [q1]
      exact vc_Mo_turnEdges_11_1 (v_iv (n_v vs 2)) (v_iv (n_v vs 3)) (v_iv (n_v vs 4)) (v_iv (n_v vs 6)) (v_iv (n_v vs 8)) (v_iv (n_v vs 9)) (w_ei ws (w_ar ws (n_v vs 0) 18)) (w_ei ws (w_ar ws (n_v vs 0) 2)) (w_fi ws (n_v vs 0) 5) (w_ei ws (w_ar ws (n_v vs 0) 95)) (w_ei ws (w_ar ws (n_v vs 0) 98)) (w_fi ws (n_v vs 0) 99) k2 k3 k4 k6 k8 k9 d0 d1 d2 d3 f0 f1 h2 f4 f5 f6 f7 f8 f9 f10 f11 f12 f13 hK_0_18 hK_0_95 hK_0_98 kz_0_99
  have nf2 : fc_1 PRD (20, [1, 9], [30, 0, 1, 1, 99, -1, 0, 0]) ws (vs) := by
    refine ⟨fun n hn => ?_, ?_⟩
    · have hn : n ∈ [1, 9] := hn
      rw [hl]
      simp only [List.mem_cons, List.not_mem_nil, or_false] at hn
      show n < 10; omega
    · show 1 * w_fi ws (n_v vs 1) 99 + ((-1) * v_iv (n_v vs 9) + 0) ≤ 0
      rw [q1]
      exact vc_Mo_turnEdges_11_2 (v_iv (n_v vs 2)) (v_iv (n_v vs 3)) (v_iv (n_v vs 4)) (v_iv (n_v vs 6)) (v_iv (n_v vs 8)) (v_iv (n_v vs 9)) (w_ei ws (w_ar ws (n_v vs 0) 18)) (w_ei ws (w_ar ws (n_v vs 0) 2)) (w_fi ws (n_v vs 0) 5) (w_ei ws (w_ar ws (n_v vs 0) 95)) (w_ei ws (w_ar ws (n_v vs 0) 98)) (w_fi ws (n_v vs 0) 99) k2 k3 k4 k6 k8 k9 d0 d1 d2 d3 f0 f1 h2 f4 f5 f6 f7 f8 f9 f10 f11 f12 f13 hK_0_18 hK_0_95 hK_0_98 kz_0_99
  refine ⟨(fun _ h => (by cases h)), [], trivial, ?_, (fun _ h => (by cases h))⟩
  rw [List.append_nil]
  exact List.forall_mem_cons.mpr ⟨⟨show (20 : Nat) < 100 from by decide, nf0⟩, List.forall_mem_cons.mpr ⟨⟨show (20 : Nat) < 100 from by decide, nf1⟩, List.forall_mem_cons.mpr ⟨⟨show (20 : Nat) < 100 from by decide, nf2⟩, (fun _ h => (by cases h))⟩⟩⟩
set_option maxHeartbeats 4000000 in
theorem vc_Mo_turnEdges_12_0 (x2 : Int) (x3 : Int) (x4 : Int) (x5 : Int) (x6 : Int) (all_0 : Int → Int) (r_0 : Int) (strongOf_0 : Int → Int) (member_0 : Int → Int) (members_0 : Int) (turned_0 : Int → Int) (best_0 : Int → Int) (k2 : 1 ≤ x2 ∧ x2 ≤ 24) (k3 : 0 ≤ x3 ∧ x3 ≤ 23) (k4 : 0 ≤ x4 ∧ x4 ≤ 48) (k5 : 0 ≤ x5 ∧ x5 ≤ 48) (k6 : 1 ≤ x6 ∧ x6 ≤ 24) (d0 : x3 + 1 ≤ x6 ∧ x6 ≤ x3 + 1) (d1 : x2 + (-4294967296) ≤ x6 ∧ x6 ≤ x2 + 0) (d2 : x5 + 0 ≤ x4 ∧ x4 ≤ x5 + 4294967296) (d3 : x2 + (-4294967296) ≤ x3 ∧ x3 ≤ x2 + (-1)) (f0 : x6 = x3 + 1) (f1 : x5 ≤ x4) (f2 : 1 * x5 + ((-1) * all_0 (r_0 + 1) + 0) ≤ 0) (f3 : (-1) * x5 + (1 * all_0 (r_0 + 1) + 0) ≤ 0) (f4 : SGR (r_0) (all_0)) (f5 : STG (r_0) (all_0) (strongOf_0) (x2)) (f6 : MBF (r_0) (members_0) (all_0) (member_0) (strongOf_0) (x3)) (f7 : TEJ (r_0) (members_0) (all_0) (strongOf_0) (turned_0) (best_0) (x3) (x4)) (f8 : BST (members_0) (best_0) (member_0)) (hK_0_18 : ∀ j : Int, 0 ≤ j → j < 24 → (-1) ≤ strongOf_0 j ∧ strongOf_0 j ≤ 23) (hK_0_95 : ∀ j : Int, 0 ≤ j → j < 48 → 0 ≤ turned_0 j ∧ turned_0 j ≤ 1) (hK_0_97 : ∀ j : Int, 0 ≤ j → j < 26 → 0 ≤ best_0 j ∧ best_0 j ≤ 25) (hK_0_98 : ∀ j : Int, 0 ≤ j → j < 26 → 0 ≤ member_0 j ∧ member_0 j ≤ 25) (kz_0_99 : 0 ≤ members_0 ∧ members_0 ≤ 26) : TEI (r_0) (all_0) (strongOf_0) (turned_0) (x6) := by
  first
    | exact tei_start ‹STG _ _ _ _› ‹TZ _ _› (by omega) (by omega)
    | (try simp only [Int.add_zero] at *
       exact tei_none ‹STG _ _ _ _› ‹TEI _ _ _ _ _› (fun a a0 a1 a2 => ‹MBC _ _ _ _ _› a a0 (by omega) a2) (show members_0 < 2 by omega) (by omega))
    | exact tej_end ‹STG _ _ _ _› ‹TEJ _ _ _ _ _ _ _ _› (by omega) ‹MBF _ _ _ _ _ _› ‹BST _ _ _› (by omega) (by omega) (by omega)
def o_Mo_turnEdges_12 : or_T := (31, 7, [(0, (2, 0, 0, [150])), (1, (2, 0, 0, [150])), (2, (0, 1, 24, [])), (3, (0, 0, 23, [])), (4, (0, 0, 48, [])), (5, (0, 0, 48, [])), (6, (0, 1, 24, []))], [(6, [6, 3], [1]), (7, [4, 5], [3]), (20, [5, 1], [30, 0, 1, 0, 0, -1, 3, 2005001]), (20, [5, 1], [30, 0, -1, 0, 0, 1, 3, 2005001]), (20, [1], [60, 1, 1, 122, 5, 2]), (20, [1, 2], [60, 1, 2, 282, 5, 2, 18]), (20, [1, 3], [60, 2, 3, 288, 5, 99, 2, 98, 18]), (20, [1, 3, 4], [60, 2, 4, 289, 5, 99, 2, 18, 95, 97]), (20, [1], [60, 1, 2, 269, 99, 97, 98]), (24, [0, 1], [])], [], [], [(20, [1, 6], [60, 1, 3, 286, 5, 2, 18, 95])], [], [(6, 3, 1, 1), (6, 2, -4294967296, 0), (4, 5, 0, 4294967296), (3, 2, -4294967296, -1)])
theorem oo_Mo_turnEdges_12 {kA : Nat → ClassId} : or_ok PRD kA GG o_Mo_turnEdges_12 := by
  intro A ta ws vs hD hth hl hk hds hf
  have hl : vs.length = 7 := hl
  have hk : ∀ q ∈ ([(0, (2, 0, 0, [150])), (1, (2, 0, 0, [150])), (2, (0, 1, 24, [])), (3, (0, 0, 23, [])), (4, (0, 0, 48, [])), (5, (0, 0, 48, [])), (6, (0, 1, 24, []))] : List (Nat × tv_T)), tv_ok ta q.2 (n_v vs q.1) := hk
  obtain ⟨t0, hk⟩ := List.forall_mem_cons.mp hk
  have t0 : tv_ok ta (2, 0, 0, [150]) (n_v vs 0) := t0
  have r0 : ta (v_ad (n_v vs 0)) = some 150 := tv_rg t0
  obtain ⟨t1, hk⟩ := List.forall_mem_cons.mp hk
  have t1 : tv_ok ta (2, 0, 0, [150]) (n_v vs 1) := t1
  have r1 : ta (v_ad (n_v vs 1)) = some 150 := tv_rg t1
  obtain ⟨t2, hk⟩ := List.forall_mem_cons.mp hk
  have t2 : tv_ok ta (0, 1, 24, []) (n_v vs 2) := t2
  have k2 : 1 ≤ v_iv (n_v vs 2) ∧ v_iv (n_v vs 2) ≤ 24 := tv_rng t2
  obtain ⟨t3, hk⟩ := List.forall_mem_cons.mp hk
  have t3 : tv_ok ta (0, 0, 23, []) (n_v vs 3) := t3
  have k3 : 0 ≤ v_iv (n_v vs 3) ∧ v_iv (n_v vs 3) ≤ 23 := tv_rng t3
  obtain ⟨t4, hk⟩ := List.forall_mem_cons.mp hk
  have t4 : tv_ok ta (0, 0, 48, []) (n_v vs 4) := t4
  have k4 : 0 ≤ v_iv (n_v vs 4) ∧ v_iv (n_v vs 4) ≤ 48 := tv_rng t4
  obtain ⟨t5, hk⟩ := List.forall_mem_cons.mp hk
  have t5 : tv_ok ta (0, 0, 48, []) (n_v vs 5) := t5
  have k5 : 0 ≤ v_iv (n_v vs 5) ∧ v_iv (n_v vs 5) ≤ 48 := tv_rng t5
  obtain ⟨t6, hk⟩ := List.forall_mem_cons.mp hk
  have t6 : tv_ok ta (0, 1, 24, []) (n_v vs 6) := t6
  have k6 : 1 ≤ v_iv (n_v vs 6) ∧ v_iv (n_v vs 6) ≤ 24 := tv_rng t6
  have hds : ∀ q ∈ ([(6, 3, 1, 1), (6, 2, -4294967296, 0), (4, 5, 0, 4294967296), (3, 2, -4294967296, -1)] : List of_T), n_iv vs q.2.1 + q.2.2.1 ≤ n_iv vs q.1 ∧ n_iv vs q.1 ≤ n_iv vs q.2.1 + q.2.2.2 := hds
  obtain ⟨d0, hds⟩ := List.forall_mem_cons.mp hds
  have d0 : v_iv (n_v vs 3) + 1 ≤ v_iv (n_v vs 6) ∧ v_iv (n_v vs 6) ≤ v_iv (n_v vs 3) + 1 := d0
  obtain ⟨d1, hds⟩ := List.forall_mem_cons.mp hds
  have d1 : v_iv (n_v vs 2) + (-4294967296) ≤ v_iv (n_v vs 6) ∧ v_iv (n_v vs 6) ≤ v_iv (n_v vs 2) + 0 := d1
  obtain ⟨d2, hds⟩ := List.forall_mem_cons.mp hds
  have d2 : v_iv (n_v vs 5) + 0 ≤ v_iv (n_v vs 4) ∧ v_iv (n_v vs 4) ≤ v_iv (n_v vs 5) + 4294967296 := d2
  obtain ⟨d3, hds⟩ := List.forall_mem_cons.mp hds
  have d3 : v_iv (n_v vs 2) + (-4294967296) ≤ v_iv (n_v vs 3) ∧ v_iv (n_v vs 3) ≤ v_iv (n_v vs 2) + (-1) := d3
  have hf : fc_ok PRD [(6, [6, 3], [1]), (7, [4, 5], [3]), (20, [5, 1], [30, 0, 1, 0, 0, -1, 3, 2005001]), (20, [5, 1], [30, 0, -1, 0, 0, 1, 3, 2005001]), (20, [1], [60, 1, 1, 122, 5, 2]), (20, [1, 2], [60, 1, 2, 282, 5, 2, 18]), (20, [1, 3], [60, 2, 3, 288, 5, 99, 2, 98, 18]), (20, [1, 3, 4], [60, 2, 4, 289, 5, 99, 2, 18, 95, 97]), (20, [1], [60, 1, 2, 269, 99, 97, 98]), (24, [0, 1], [])] ta ws vs := hf
  obtain ⟨f0, hf⟩ := fc_un (show (6 : Nat) < 100 from by decide) hf
  have f0 : v_iv (n_v vs 6) = v_iv (n_v vs 3) + 1 := f0
  obtain ⟨f1, hf⟩ := fc_un (show (7 : Nat) < 100 from by decide) hf
  have f1 : v_iv (n_v vs 5) ≤ v_iv (n_v vs 4) := f1
  obtain ⟨f2, hf⟩ := fc_un (show (20 : Nat) < 100 from by decide) hf
  have f2 : 1 * v_iv (n_v vs 5) + ((-1) * w_el ws (w_ar ws (n_v vs 1) 2) (w_fi ws (n_v vs 1) 5 + 1).toNat + 0) ≤ 0 := f2
  obtain ⟨f3, hf⟩ := fc_un (show (20 : Nat) < 100 from by decide) hf
  have f3 : (-1) * v_iv (n_v vs 5) + (1 * w_el ws (w_ar ws (n_v vs 1) 2) (w_fi ws (n_v vs 1) 5 + 1).toNat + 0) ≤ 0 := f3
  obtain ⟨f4, hf⟩ := fc_un (show (20 : Nat) < 100 from by decide) hf
  have f4 : SGR (w_fi ws (n_v vs 1) 5) (w_ei ws (w_ar ws (n_v vs 1) 2)) := f4
  obtain ⟨f5, hf⟩ := fc_un (show (20 : Nat) < 100 from by decide) hf
  have f5 : STG (w_fi ws (n_v vs 1) 5) (w_ei ws (w_ar ws (n_v vs 1) 2)) (w_ei ws (w_ar ws (n_v vs 1) 18)) (v_iv (n_v vs 2)) := f5
  obtain ⟨f6, hf⟩ := fc_un (show (20 : Nat) < 100 from by decide) hf
  have f6 : MBF (w_fi ws (n_v vs 1) 5) (w_fi ws (n_v vs 1) 99) (w_ei ws (w_ar ws (n_v vs 1) 2)) (w_ei ws (w_ar ws (n_v vs 1) 98)) (w_ei ws (w_ar ws (n_v vs 1) 18)) (v_iv (n_v vs 3)) := f6
  obtain ⟨f7, hf⟩ := fc_un (show (20 : Nat) < 100 from by decide) hf
  have f7 : TEJ (w_fi ws (n_v vs 1) 5) (w_fi ws (n_v vs 1) 99) (w_ei ws (w_ar ws (n_v vs 1) 2)) (w_ei ws (w_ar ws (n_v vs 1) 18)) (w_ei ws (w_ar ws (n_v vs 1) 95)) (w_ei ws (w_ar ws (n_v vs 1) 97)) (v_iv (n_v vs 3)) (v_iv (n_v vs 4)) := f7
  obtain ⟨f8, hf⟩ := fc_un (show (20 : Nat) < 100 from by decide) hf
  have f8 : BST (w_fi ws (n_v vs 1) 99) (w_ei ws (w_ar ws (n_v vs 1) 97)) (w_ei ws (w_ar ws (n_v vs 1) 98)) := f8
  obtain ⟨f9, hf⟩ := fc_un (show (24 : Nat) < 100 from by decide) hf
  have f9 : n_v vs 0 = n_v vs 1 := f9
  have q1 : n_v vs 1 = n_v vs 0 := f9.symm
  rw [q1] at f2
  rw [q1] at f3
  rw [q1] at f4
  rw [q1] at f5
  rw [q1] at f6
  rw [q1] at f7
  rw [q1] at f8
  have cr_0_2 : ta (w_ar ws (n_v vs 0) 2) = some 152 := tv_rg (th_fd hD hth r0 (g := GG_150) rfl (k := 2) (t := (2, 0, 0, [152])) rfl rfl)
  have cr_0_18 : ta (w_ar ws (n_v vs 0) 18) = some 158 := tv_rg (th_fd hD hth r0 (g := GG_150) rfl (k := 18) (t := (2, 0, 0, [158])) rfl rfl)
  have cr_0_95 : ta (w_ar ws (n_v vs 0) 95) = some 216 := tv_rg (th_fd hD hth r0 (g := GG_150) rfl (k := 95) (t := (2, 0, 0, [216])) rfl rfl)
  have cr_0_97 : ta (w_ar ws (n_v vs 0) 97) = some 218 := tv_rg (th_fd hD hth r0 (g := GG_150) rfl (k := 97) (t := (2, 0, 0, [218])) rfl rfl)
  have cr_0_98 : ta (w_ar ws (n_v vs 0) 98) = some 219 := tv_rg (th_fd hD hth r0 (g := GG_150) rfl (k := 98) (t := (2, 0, 0, [219])) rfl rfl)
  have hK_0_18 : ∀ j : Int, 0 ≤ j → j < 24 → (-1) ≤ w_ei ws (w_ar ws (n_v vs 0) 18) j ∧ w_ei ws (w_ar ws (n_v vs 0) 18) j ≤ 23 := fun j h0 h1 => th_el hD hth cr_0_18 (kd := 0) (n := 24) (m := 24) (lo := (-1)) (hi := 23) (rs := []) (L := []) rfl (by decide) (j := j.toNat) (by omega)
  have hK_0_95 : ∀ j : Int, 0 ≤ j → j < 48 → 0 ≤ w_ei ws (w_ar ws (n_v vs 0) 95) j ∧ w_ei ws (w_ar ws (n_v vs 0) 95) j ≤ 1 := fun j h0 h1 => th_el hD hth cr_0_95 (kd := 2) (n := 48) (m := 48) (lo := 0) (hi := 1) (rs := []) (L := []) rfl (by decide) (j := j.toNat) (by omega)
  have hK_0_97 : ∀ j : Int, 0 ≤ j → j < 26 → 0 ≤ w_ei ws (w_ar ws (n_v vs 0) 97) j ∧ w_ei ws (w_ar ws (n_v vs 0) 97) j ≤ 25 := fun j h0 h1 => th_el hD hth cr_0_97 (kd := 0) (n := 26) (m := 26) (lo := 0) (hi := 25) (rs := []) (L := []) rfl (by decide) (j := j.toNat) (by omega)
  have hK_0_98 : ∀ j : Int, 0 ≤ j → j < 26 → 0 ≤ w_ei ws (w_ar ws (n_v vs 0) 98) j ∧ w_ei ws (w_ar ws (n_v vs 0) 98) j ≤ 25 := fun j h0 h1 => th_el hD hth cr_0_98 (kd := 0) (n := 26) (m := 26) (lo := 0) (hi := 25) (rs := []) (L := []) rfl (by decide) (j := j.toNat) (by omega)
  have kz_0_99 : 0 ≤ w_fi ws (n_v vs 0) 99 ∧ w_fi ws (n_v vs 0) 99 ≤ 26 := tv_rng (th_fd hD hth r0 (g := GG_150) rfl (k := 99) (t := (0, 0, 26, [])) rfl rfl)
  have nf0 : fc_1 PRD (20, [1, 6], [60, 1, 3, 286, 5, 2, 18, 95]) ws (vs) := by
    refine ⟨fun n hn => ?_, ?_⟩
    · have hn : n ∈ [1, 6] := hn
      rw [hl]
      simp only [List.mem_cons, List.not_mem_nil, or_false] at hn
      show n < 7; omega
    · show TEI (w_fi ws (n_v vs 1) 5) (w_ei ws (w_ar ws (n_v vs 1) 2)) (w_ei ws (w_ar ws (n_v vs 1) 18)) (w_ei ws (w_ar ws (n_v vs 1) 95)) (v_iv (n_v vs 6))
      rw [q1]
      exact vc_Mo_turnEdges_12_0 (v_iv (n_v vs 2)) (v_iv (n_v vs 3)) (v_iv (n_v vs 4)) (v_iv (n_v vs 5)) (v_iv (n_v vs 6)) (w_ei ws (w_ar ws (n_v vs 0) 2)) (w_fi ws (n_v vs 0) 5) (w_ei ws (w_ar ws (n_v vs 0) 18)) (w_ei ws (w_ar ws (n_v vs 0) 98)) (w_fi ws (n_v vs 0) 99) (w_ei ws (w_ar ws (n_v vs 0) 95)) (w_ei ws (w_ar ws (n_v vs 0) 97)) k2 k3 k4 k5 k6 d0 d1 d2 d3 f0 f1 f2 f3 f4 f5 f6 f7 f8 hK_0_18 hK_0_95 hK_0_97 hK_0_98 kz_0_99
  refine ⟨(fun _ h => (by cases h)), [], trivial, ?_, (fun _ h => (by cases h))⟩
  rw [List.append_nil]
  exact List.forall_mem_cons.mpr ⟨⟨show (20 : Nat) < 100 from by decide, nf0⟩, (fun _ h => (by cases h))⟩
set_option maxHeartbeats 4000000 in
theorem vc_Mo_turnEdges_13_0 (x2 : Int) (x3 : Int) (x4 : Int) (x5 : Int) (x7 : Int) (x8 : Int) (x9 : Int) (strongOf_0 : Int → Int) (all_0 : Int → Int) (r_0 : Int) (member_0 : Int → Int) (members_0 : Int) (turned_0 : Int → Int) (best_0 : Int → Int) (k2 : 1 ≤ x2 ∧ x2 ≤ 24) (k3 : 0 ≤ x3 ∧ x3 ≤ 23) (k4 : 0 ≤ x4 ∧ x4 ≤ 47) (k5 : 1 ≤ x5 ∧ x5 ≤ 48) (k7 : 0 ≤ x7 ∧ x7 ≤ 23) (k8 : (-1) ≤ x8 ∧ x8 ≤ 23) (k9 : 1 ≤ x9 ∧ x9 ≤ 48) (d0 : x4 + 1 ≤ x9 ∧ x9 ≤ x4 + 1) (d1 : x5 + (-4294967296) ≤ x9 ∧ x9 ≤ x5 + 0) (d2 : x5 + (-4294967296) ≤ x4 ∧ x4 ≤ x5 + (-1)) (d3 : x2 + (-4294967296) ≤ x3 ∧ x3 ≤ x2 + (-1)) (f0 : x9 = x4 + 1) (f1 : x8 ≠ x3) (h2 : x8 = strongOf_0 (x7)) (f3 : x7 = all_0 (((r_0 + 267) + x4))) (f5 : x4 < x5) (f6 : 1 * x5 + ((-1) * all_0 (r_0 + 1) + 0) ≤ 0) (f7 : (-1) * x5 + (1 * all_0 (r_0 + 1) + 0) ≤ 0) (f8 : SGR (r_0) (all_0)) (f9 : STG (r_0) (all_0) (strongOf_0) (x2)) (f10 : MBF (r_0) (members_0) (all_0) (member_0) (strongOf_0) (x3)) (f11 : TEJ (r_0) (members_0) (all_0) (strongOf_0) (turned_0) (best_0) (x3) (x4)) (f12 : BST (members_0) (best_0) (member_0)) (hK_0_18 : ∀ j : Int, 0 ≤ j → j < 24 → (-1) ≤ strongOf_0 j ∧ strongOf_0 j ≤ 23) (hK_0_95 : ∀ j : Int, 0 ≤ j → j < 48 → 0 ≤ turned_0 j ∧ turned_0 j ≤ 1) (hK_0_97 : ∀ j : Int, 0 ≤ j → j < 26 → 0 ≤ best_0 j ∧ best_0 j ≤ 25) (hK_0_98 : ∀ j : Int, 0 ≤ j → j < 26 → 0 ≤ member_0 j ∧ member_0 j ≤ 25) (kz_0_99 : 0 ≤ members_0 ∧ members_0 ≤ 26) : TEJ (r_0) (members_0) (all_0) (strongOf_0) (turned_0) (best_0) (x3) (x9) := by
  first
    | exact tej_start ‹TEI _ _ _ _ _› (by omega)
    | exact tej_skip ‹TEJ _ _ _ _ _ _ _ _› (by omega) (Or.inl (by rw [show all_0 (r_0 + 267 + x4) = x7 by omega]; omega))
    | exact tej_skip ‹TEJ _ _ _ _ _ _ _ _› (by omega) (Or.inr (by rw [show all_0 (r_0 + 315 + x4) = x9 by omega]; omega))
    | exact tej_step (t := x7) (d := x9) (x := x13) (y := x15) ‹TEJ _ _ _ _ _ _ _ _› (by omega) (by omega) (by omega) (by omega) (by omega) (by omega) (by rw [show x7 = x12 by omega]; assumption) (by rw [show x9 = x14 by omega]; assumption) (by assumption) rfl (by omega)
def o_Mo_turnEdges_13 : or_T := (123, 10, [(0, (2, 0, 0, [150])), (1, (2, 0, 0, [150])), (2, (0, 1, 24, [])), (3, (0, 0, 23, [])), (4, (0, 0, 47, [])), (5, (0, 1, 48, [])), (6, (2, 0, 0, [158])), (7, (0, 0, 23, [])), (8, (0, -1, 23, [])), (9, (0, 1, 48, []))], [(6, [9, 4], [1]), (7, [8, 3], [1]), (10, [8, 6, 7], []), (20, [7, 1, 4], [50, 1, 1, 1005, 1002, 1, 2, 1, 0, 3, 1, 2, 4, 7, 4, 3, 2, 1, 5, 0, 267, 1, 2]), (9, [6, 1], [18]), (7, [4, 5], [2]), (20, [5, 1], [30, 0, 1, 0, 0, -1, 3, 2005001]), (20, [5, 1], [30, 0, -1, 0, 0, 1, 3, 2005001]), (20, [1], [60, 1, 1, 122, 5, 2]), (20, [1, 2], [60, 1, 2, 282, 5, 2, 18]), (20, [1, 3], [60, 2, 3, 288, 5, 99, 2, 98, 18]), (20, [1, 3, 4], [60, 2, 4, 289, 5, 99, 2, 18, 95, 97]), (20, [1], [60, 1, 2, 269, 99, 97, 98]), (24, [0, 1], [])], [], [], [(20, [1, 3, 9], [60, 2, 4, 289, 5, 99, 2, 18, 95, 97])], [], [(9, 4, 1, 1), (9, 5, -4294967296, 0), (4, 5, -4294967296, -1), (3, 2, -4294967296, -1)])
theorem oo_Mo_turnEdges_13 {kA : Nat → ClassId} : or_ok PRD kA GG o_Mo_turnEdges_13 := by
  intro A ta ws vs hD hth hl hk hds hf
  have hl : vs.length = 10 := hl
  have hk : ∀ q ∈ ([(0, (2, 0, 0, [150])), (1, (2, 0, 0, [150])), (2, (0, 1, 24, [])), (3, (0, 0, 23, [])), (4, (0, 0, 47, [])), (5, (0, 1, 48, [])), (6, (2, 0, 0, [158])), (7, (0, 0, 23, [])), (8, (0, -1, 23, [])), (9, (0, 1, 48, []))] : List (Nat × tv_T)), tv_ok ta q.2 (n_v vs q.1) := hk
  obtain ⟨t0, hk⟩ := List.forall_mem_cons.mp hk
  have t0 : tv_ok ta (2, 0, 0, [150]) (n_v vs 0) := t0
  have r0 : ta (v_ad (n_v vs 0)) = some 150 := tv_rg t0
  obtain ⟨t1, hk⟩ := List.forall_mem_cons.mp hk
  have t1 : tv_ok ta (2, 0, 0, [150]) (n_v vs 1) := t1
  have r1 : ta (v_ad (n_v vs 1)) = some 150 := tv_rg t1
  obtain ⟨t2, hk⟩ := List.forall_mem_cons.mp hk
  have t2 : tv_ok ta (0, 1, 24, []) (n_v vs 2) := t2
  have k2 : 1 ≤ v_iv (n_v vs 2) ∧ v_iv (n_v vs 2) ≤ 24 := tv_rng t2
  obtain ⟨t3, hk⟩ := List.forall_mem_cons.mp hk
  have t3 : tv_ok ta (0, 0, 23, []) (n_v vs 3) := t3
  have k3 : 0 ≤ v_iv (n_v vs 3) ∧ v_iv (n_v vs 3) ≤ 23 := tv_rng t3
  obtain ⟨t4, hk⟩ := List.forall_mem_cons.mp hk
  have t4 : tv_ok ta (0, 0, 47, []) (n_v vs 4) := t4
  have k4 : 0 ≤ v_iv (n_v vs 4) ∧ v_iv (n_v vs 4) ≤ 47 := tv_rng t4
  obtain ⟨t5, hk⟩ := List.forall_mem_cons.mp hk
  have t5 : tv_ok ta (0, 1, 48, []) (n_v vs 5) := t5
  have k5 : 1 ≤ v_iv (n_v vs 5) ∧ v_iv (n_v vs 5) ≤ 48 := tv_rng t5
  obtain ⟨t6, hk⟩ := List.forall_mem_cons.mp hk
  have t6 : tv_ok ta (2, 0, 0, [158]) (n_v vs 6) := t6
  have r6 : ta (v_ad (n_v vs 6)) = some 158 := tv_rg t6
  obtain ⟨t7, hk⟩ := List.forall_mem_cons.mp hk
  have t7 : tv_ok ta (0, 0, 23, []) (n_v vs 7) := t7
  have k7 : 0 ≤ v_iv (n_v vs 7) ∧ v_iv (n_v vs 7) ≤ 23 := tv_rng t7
  obtain ⟨t8, hk⟩ := List.forall_mem_cons.mp hk
  have t8 : tv_ok ta (0, -1, 23, []) (n_v vs 8) := t8
  have k8 : (-1) ≤ v_iv (n_v vs 8) ∧ v_iv (n_v vs 8) ≤ 23 := tv_rng t8
  obtain ⟨t9, hk⟩ := List.forall_mem_cons.mp hk
  have t9 : tv_ok ta (0, 1, 48, []) (n_v vs 9) := t9
  have k9 : 1 ≤ v_iv (n_v vs 9) ∧ v_iv (n_v vs 9) ≤ 48 := tv_rng t9
  have hds : ∀ q ∈ ([(9, 4, 1, 1), (9, 5, -4294967296, 0), (4, 5, -4294967296, -1), (3, 2, -4294967296, -1)] : List of_T), n_iv vs q.2.1 + q.2.2.1 ≤ n_iv vs q.1 ∧ n_iv vs q.1 ≤ n_iv vs q.2.1 + q.2.2.2 := hds
  obtain ⟨d0, hds⟩ := List.forall_mem_cons.mp hds
  have d0 : v_iv (n_v vs 4) + 1 ≤ v_iv (n_v vs 9) ∧ v_iv (n_v vs 9) ≤ v_iv (n_v vs 4) + 1 := d0
  obtain ⟨d1, hds⟩ := List.forall_mem_cons.mp hds
  have d1 : v_iv (n_v vs 5) + (-4294967296) ≤ v_iv (n_v vs 9) ∧ v_iv (n_v vs 9) ≤ v_iv (n_v vs 5) + 0 := d1
  obtain ⟨d2, hds⟩ := List.forall_mem_cons.mp hds
  have d2 : v_iv (n_v vs 5) + (-4294967296) ≤ v_iv (n_v vs 4) ∧ v_iv (n_v vs 4) ≤ v_iv (n_v vs 5) + (-1) := d2
  obtain ⟨d3, hds⟩ := List.forall_mem_cons.mp hds
  have d3 : v_iv (n_v vs 2) + (-4294967296) ≤ v_iv (n_v vs 3) ∧ v_iv (n_v vs 3) ≤ v_iv (n_v vs 2) + (-1) := d3
  have hf : fc_ok PRD [(6, [9, 4], [1]), (7, [8, 3], [1]), (10, [8, 6, 7], []), (20, [7, 1, 4], [50, 1, 1, 1005, 1002, 1, 2, 1, 0, 3, 1, 2, 4, 7, 4, 3, 2, 1, 5, 0, 267, 1, 2]), (9, [6, 1], [18]), (7, [4, 5], [2]), (20, [5, 1], [30, 0, 1, 0, 0, -1, 3, 2005001]), (20, [5, 1], [30, 0, -1, 0, 0, 1, 3, 2005001]), (20, [1], [60, 1, 1, 122, 5, 2]), (20, [1, 2], [60, 1, 2, 282, 5, 2, 18]), (20, [1, 3], [60, 2, 3, 288, 5, 99, 2, 98, 18]), (20, [1, 3, 4], [60, 2, 4, 289, 5, 99, 2, 18, 95, 97]), (20, [1], [60, 1, 2, 269, 99, 97, 98]), (24, [0, 1], [])] ta ws vs := hf
  obtain ⟨f0, hf⟩ := fc_un (show (6 : Nat) < 100 from by decide) hf
  have f0 : v_iv (n_v vs 9) = v_iv (n_v vs 4) + 1 := f0
  obtain ⟨f1, hf⟩ := fc_un (show (7 : Nat) < 100 from by decide) hf
  have f1 : v_iv (n_v vs 8) ≠ v_iv (n_v vs 3) := f1
  obtain ⟨f2, hf⟩ := fc_un (show (10 : Nat) < 100 from by decide) hf
  have f2 : v_iv (n_v vs 8) = w_el ws (v_ad (n_v vs 6)) (v_iv (n_v vs 7)).toNat := f2
  obtain ⟨f3, hf⟩ := fc_un (show (20 : Nat) < 100 from by decide) hf
  have f3 : v_iv (n_v vs 7) = w_ei ws (w_ar ws (n_v vs 1) 2) (((w_fi ws (n_v vs 1) 5 + 267) + v_iv (n_v vs 4))) := f3
  obtain ⟨f4, hf⟩ := fc_un (show (9 : Nat) < 100 from by decide) hf
  have f4 : n_v vs 6 = w_fd ws (v_ad (n_v vs 1)) 18 := f4
  obtain ⟨f5, hf⟩ := fc_un (show (7 : Nat) < 100 from by decide) hf
  have f5 : v_iv (n_v vs 4) < v_iv (n_v vs 5) := f5
  obtain ⟨f6, hf⟩ := fc_un (show (20 : Nat) < 100 from by decide) hf
  have f6 : 1 * v_iv (n_v vs 5) + ((-1) * w_el ws (w_ar ws (n_v vs 1) 2) (w_fi ws (n_v vs 1) 5 + 1).toNat + 0) ≤ 0 := f6
  obtain ⟨f7, hf⟩ := fc_un (show (20 : Nat) < 100 from by decide) hf
  have f7 : (-1) * v_iv (n_v vs 5) + (1 * w_el ws (w_ar ws (n_v vs 1) 2) (w_fi ws (n_v vs 1) 5 + 1).toNat + 0) ≤ 0 := f7
  obtain ⟨f8, hf⟩ := fc_un (show (20 : Nat) < 100 from by decide) hf
  have f8 : SGR (w_fi ws (n_v vs 1) 5) (w_ei ws (w_ar ws (n_v vs 1) 2)) := f8
  obtain ⟨f9, hf⟩ := fc_un (show (20 : Nat) < 100 from by decide) hf
  have f9 : STG (w_fi ws (n_v vs 1) 5) (w_ei ws (w_ar ws (n_v vs 1) 2)) (w_ei ws (w_ar ws (n_v vs 1) 18)) (v_iv (n_v vs 2)) := f9
  obtain ⟨f10, hf⟩ := fc_un (show (20 : Nat) < 100 from by decide) hf
  have f10 : MBF (w_fi ws (n_v vs 1) 5) (w_fi ws (n_v vs 1) 99) (w_ei ws (w_ar ws (n_v vs 1) 2)) (w_ei ws (w_ar ws (n_v vs 1) 98)) (w_ei ws (w_ar ws (n_v vs 1) 18)) (v_iv (n_v vs 3)) := f10
  obtain ⟨f11, hf⟩ := fc_un (show (20 : Nat) < 100 from by decide) hf
  have f11 : TEJ (w_fi ws (n_v vs 1) 5) (w_fi ws (n_v vs 1) 99) (w_ei ws (w_ar ws (n_v vs 1) 2)) (w_ei ws (w_ar ws (n_v vs 1) 18)) (w_ei ws (w_ar ws (n_v vs 1) 95)) (w_ei ws (w_ar ws (n_v vs 1) 97)) (v_iv (n_v vs 3)) (v_iv (n_v vs 4)) := f11
  obtain ⟨f12, hf⟩ := fc_un (show (20 : Nat) < 100 from by decide) hf
  have f12 : BST (w_fi ws (n_v vs 1) 99) (w_ei ws (w_ar ws (n_v vs 1) 97)) (w_ei ws (w_ar ws (n_v vs 1) 98)) := f12
  obtain ⟨f13, hf⟩ := fc_un (show (24 : Nat) < 100 from by decide) hf
  have f13 : n_v vs 0 = n_v vs 1 := f13
  have q1 : n_v vs 1 = n_v vs 0 := f13.symm
  rw [q1] at f3
  rw [q1] at f4
  rw [q1] at f6
  rw [q1] at f7
  rw [q1] at f8
  rw [q1] at f9
  rw [q1] at f10
  rw [q1] at f11
  rw [q1] at f12
  have cr_0_2 : ta (w_ar ws (n_v vs 0) 2) = some 152 := tv_rg (th_fd hD hth r0 (g := GG_150) rfl (k := 2) (t := (2, 0, 0, [152])) rfl rfl)
  have cr_0_18 : ta (w_ar ws (n_v vs 0) 18) = some 158 := tv_rg (th_fd hD hth r0 (g := GG_150) rfl (k := 18) (t := (2, 0, 0, [158])) rfl rfl)
  have cr_0_95 : ta (w_ar ws (n_v vs 0) 95) = some 216 := tv_rg (th_fd hD hth r0 (g := GG_150) rfl (k := 95) (t := (2, 0, 0, [216])) rfl rfl)
  have cr_0_97 : ta (w_ar ws (n_v vs 0) 97) = some 218 := tv_rg (th_fd hD hth r0 (g := GG_150) rfl (k := 97) (t := (2, 0, 0, [218])) rfl rfl)
  have cr_0_98 : ta (w_ar ws (n_v vs 0) 98) = some 219 := tv_rg (th_fd hD hth r0 (g := GG_150) rfl (k := 98) (t := (2, 0, 0, [219])) rfl rfl)
  have ad_6 : v_ad (n_v vs 6) = w_ar ws (n_v vs 0) 18 := congrArg v_ad f4
  rw [ad_6] at f2
  have h2 : v_iv (n_v vs 8) = w_ei ws (w_ar ws (n_v vs 0) 18) (v_iv (n_v vs 7)) := f2
  have hK_0_18 : ∀ j : Int, 0 ≤ j → j < 24 → (-1) ≤ w_ei ws (w_ar ws (n_v vs 0) 18) j ∧ w_ei ws (w_ar ws (n_v vs 0) 18) j ≤ 23 := fun j h0 h1 => th_el hD hth cr_0_18 (kd := 0) (n := 24) (m := 24) (lo := (-1)) (hi := 23) (rs := []) (L := []) rfl (by decide) (j := j.toNat) (by omega)
  have hK_0_95 : ∀ j : Int, 0 ≤ j → j < 48 → 0 ≤ w_ei ws (w_ar ws (n_v vs 0) 95) j ∧ w_ei ws (w_ar ws (n_v vs 0) 95) j ≤ 1 := fun j h0 h1 => th_el hD hth cr_0_95 (kd := 2) (n := 48) (m := 48) (lo := 0) (hi := 1) (rs := []) (L := []) rfl (by decide) (j := j.toNat) (by omega)
  have hK_0_97 : ∀ j : Int, 0 ≤ j → j < 26 → 0 ≤ w_ei ws (w_ar ws (n_v vs 0) 97) j ∧ w_ei ws (w_ar ws (n_v vs 0) 97) j ≤ 25 := fun j h0 h1 => th_el hD hth cr_0_97 (kd := 0) (n := 26) (m := 26) (lo := 0) (hi := 25) (rs := []) (L := []) rfl (by decide) (j := j.toNat) (by omega)
  have hK_0_98 : ∀ j : Int, 0 ≤ j → j < 26 → 0 ≤ w_ei ws (w_ar ws (n_v vs 0) 98) j ∧ w_ei ws (w_ar ws (n_v vs 0) 98) j ≤ 25 := fun j h0 h1 => th_el hD hth cr_0_98 (kd := 0) (n := 26) (m := 26) (lo := 0) (hi := 25) (rs := []) (L := []) rfl (by decide) (j := j.toNat) (by omega)
  have kz_0_99 : 0 ≤ w_fi ws (n_v vs 0) 99 ∧ w_fi ws (n_v vs 0) 99 ≤ 26 := tv_rng (th_fd hD hth r0 (g := GG_150) rfl (k := 99) (t := (0, 0, 26, [])) rfl rfl)
  have nf0 : fc_1 PRD (20, [1, 3, 9], [60, 2, 4, 289, 5, 99, 2, 18, 95, 97]) ws (vs) := by
    refine ⟨fun n hn => ?_, ?_⟩
    · have hn : n ∈ [1, 3, 9] := hn
      rw [hl]
      simp only [List.mem_cons, List.not_mem_nil, or_false] at hn
      show n < 10; omega
    · show TEJ (w_fi ws (n_v vs 1) 5) (w_fi ws (n_v vs 1) 99) (w_ei ws (w_ar ws (n_v vs 1) 2)) (w_ei ws (w_ar ws (n_v vs 1) 18)) (w_ei ws (w_ar ws (n_v vs 1) 95)) (w_ei ws (w_ar ws (n_v vs 1) 97)) (v_iv (n_v vs 3)) (v_iv (n_v vs 9))
      rw [q1]
      exact vc_Mo_turnEdges_13_0 (v_iv (n_v vs 2)) (v_iv (n_v vs 3)) (v_iv (n_v vs 4)) (v_iv (n_v vs 5)) (v_iv (n_v vs 7)) (v_iv (n_v vs 8)) (v_iv (n_v vs 9)) (w_ei ws (w_ar ws (n_v vs 0) 18)) (w_ei ws (w_ar ws (n_v vs 0) 2)) (w_fi ws (n_v vs 0) 5) (w_ei ws (w_ar ws (n_v vs 0) 98)) (w_fi ws (n_v vs 0) 99) (w_ei ws (w_ar ws (n_v vs 0) 95)) (w_ei ws (w_ar ws (n_v vs 0) 97)) k2 k3 k4 k5 k7 k8 k9 d0 d1 d2 d3 f0 f1 h2 f3 f5 f6 f7 f8 f9 f10 f11 f12 hK_0_18 hK_0_95 hK_0_97 hK_0_98 kz_0_99
  refine ⟨(fun _ h => (by cases h)), [], trivial, ?_, (fun _ h => (by cases h))⟩
  rw [List.append_nil]
  exact List.forall_mem_cons.mpr ⟨⟨show (20 : Nat) < 100 from by decide, nf0⟩, (fun _ h => (by cases h))⟩
set_option maxHeartbeats 4000000 in
theorem vc_Mo_turnEdges_14_0 (x2 : Int) (x3 : Int) (x4 : Int) (x5 : Int) (x7 : Int) (x8 : Int) (x9 : Int) (x10 : Int) (x11 : Int) (strongOf_0 : Int → Int) (all_0 : Int → Int) (r_0 : Int) (member_0 : Int → Int) (members_0 : Int) (turned_0 : Int → Int) (best_0 : Int → Int) (k2 : 1 ≤ x2 ∧ x2 ≤ 24) (k3 : 0 ≤ x3 ∧ x3 ≤ 23) (k4 : 0 ≤ x4 ∧ x4 ≤ 47) (k5 : 1 ≤ x5 ∧ x5 ≤ 48) (k7 : 0 ≤ x7 ∧ x7 ≤ 23) (k8 : 0 ≤ x8 ∧ x8 ≤ 23) (k9 : 0 ≤ x9 ∧ x9 ≤ 23) (k10 : (-1) ≤ x10 ∧ x10 ≤ 23) (k11 : 1 ≤ x11 ∧ x11 ≤ 48) (d0 : x4 + 1 ≤ x11 ∧ x11 ≤ x4 + 1) (d1 : x5 + (-4294967296) ≤ x11 ∧ x11 ≤ x5 + 0) (d2 : x3 + 0 ≤ x8 ∧ x8 ≤ x3 + 0) (d3 : x5 + (-4294967296) ≤ x4 ∧ x4 ≤ x5 + (-1)) (d4 : x2 + (-4294967296) ≤ x3 ∧ x3 ≤ x2 + (-1)) (f0 : x11 = x4 + 1) (f1 : x10 ≠ x3) (h2 : x10 = strongOf_0 (x9)) (f3 : x9 = all_0 (((r_0 + 315) + x4))) (f5 : x8 = x3) (h6 : x8 = strongOf_0 (x7)) (f7 : x7 = all_0 (((r_0 + 267) + x4))) (f8 : x4 < x5) (f9 : 1 * x5 + ((-1) * all_0 (r_0 + 1) + 0) ≤ 0) (f10 : (-1) * x5 + (1 * all_0 (r_0 + 1) + 0) ≤ 0) (f11 : SGR (r_0) (all_0)) (f12 : STG (r_0) (all_0) (strongOf_0) (x2)) (f13 : MBF (r_0) (members_0) (all_0) (member_0) (strongOf_0) (x3)) (f14 : TEJ (r_0) (members_0) (all_0) (strongOf_0) (turned_0) (best_0) (x3) (x4)) (f15 : BST (members_0) (best_0) (member_0)) (hK_0_18 : ∀ j : Int, 0 ≤ j → j < 24 → (-1) ≤ strongOf_0 j ∧ strongOf_0 j ≤ 23) (hK_0_95 : ∀ j : Int, 0 ≤ j → j < 48 → 0 ≤ turned_0 j ∧ turned_0 j ≤ 1) (hK_0_97 : ∀ j : Int, 0 ≤ j → j < 26 → 0 ≤ best_0 j ∧ best_0 j ≤ 25) (hK_0_98 : ∀ j : Int, 0 ≤ j → j < 26 → 0 ≤ member_0 j ∧ member_0 j ≤ 25) (kz_0_99 : 0 ≤ members_0 ∧ members_0 ≤ 26) : TEJ (r_0) (members_0) (all_0) (strongOf_0) (turned_0) (best_0) (x3) (x11) := by
  first
    | exact tej_start ‹TEI _ _ _ _ _› (by omega)
    | exact tej_skip ‹TEJ _ _ _ _ _ _ _ _› (by omega) (Or.inl (by rw [show all_0 (r_0 + 267 + x4) = x7 by omega]; omega))
    | exact tej_skip ‹TEJ _ _ _ _ _ _ _ _› (by omega) (Or.inr (by rw [show all_0 (r_0 + 315 + x4) = x9 by omega]; omega))
    | exact tej_step (t := x7) (d := x9) (x := x13) (y := x15) ‹TEJ _ _ _ _ _ _ _ _› (by omega) (by omega) (by omega) (by omega) (by omega) (by omega) (by rw [show x7 = x12 by omega]; assumption) (by rw [show x9 = x14 by omega]; assumption) (by assumption) rfl (by omega)
def o_Mo_turnEdges_14 : or_T := (123, 12, [(0, (2, 0, 0, [150])), (1, (2, 0, 0, [150])), (2, (0, 1, 24, [])), (3, (0, 0, 23, [])), (4, (0, 0, 47, [])), (5, (0, 1, 48, [])), (6, (2, 0, 0, [158])), (7, (0, 0, 23, [])), (8, (0, 0, 23, [])), (9, (0, 0, 23, [])), (10, (0, -1, 23, [])), (11, (0, 1, 48, []))], [(6, [11, 4], [1]), (7, [10, 3], [1]), (10, [10, 6, 9], []), (20, [9, 1, 4], [50, 1, 1, 1005, 1002, 1, 2, 1, 0, 3, 1, 2, 4, 7, 4, 3, 2, 1, 5, 0, 315, 1, 2]), (9, [6, 1], [18]), (7, [8, 3], [0]), (10, [8, 6, 7], []), (20, [7, 1, 4], [50, 1, 1, 1005, 1002, 1, 2, 1, 0, 3, 1, 2, 4, 7, 4, 3, 2, 1, 5, 0, 267, 1, 2]), (7, [4, 5], [2]), (20, [5, 1], [30, 0, 1, 0, 0, -1, 3, 2005001]), (20, [5, 1], [30, 0, -1, 0, 0, 1, 3, 2005001]), (20, [1], [60, 1, 1, 122, 5, 2]), (20, [1, 2], [60, 1, 2, 282, 5, 2, 18]), (20, [1, 3], [60, 2, 3, 288, 5, 99, 2, 98, 18]), (20, [1, 3, 4], [60, 2, 4, 289, 5, 99, 2, 18, 95, 97]), (20, [1], [60, 1, 2, 269, 99, 97, 98]), (24, [0, 1], [])], [], [], [(20, [1, 3, 11], [60, 2, 4, 289, 5, 99, 2, 18, 95, 97])], [], [(11, 4, 1, 1), (11, 5, -4294967296, 0), (8, 3, 0, 0), (4, 5, -4294967296, -1), (3, 2, -4294967296, -1)])
theorem oo_Mo_turnEdges_14 {kA : Nat → ClassId} : or_ok PRD kA GG o_Mo_turnEdges_14 := by
  intro A ta ws vs hD hth hl hk hds hf
  have hl : vs.length = 12 := hl
  have hk : ∀ q ∈ ([(0, (2, 0, 0, [150])), (1, (2, 0, 0, [150])), (2, (0, 1, 24, [])), (3, (0, 0, 23, [])), (4, (0, 0, 47, [])), (5, (0, 1, 48, [])), (6, (2, 0, 0, [158])), (7, (0, 0, 23, [])), (8, (0, 0, 23, [])), (9, (0, 0, 23, [])), (10, (0, -1, 23, [])), (11, (0, 1, 48, []))] : List (Nat × tv_T)), tv_ok ta q.2 (n_v vs q.1) := hk
  obtain ⟨t0, hk⟩ := List.forall_mem_cons.mp hk
  have t0 : tv_ok ta (2, 0, 0, [150]) (n_v vs 0) := t0
  have r0 : ta (v_ad (n_v vs 0)) = some 150 := tv_rg t0
  obtain ⟨t1, hk⟩ := List.forall_mem_cons.mp hk
  have t1 : tv_ok ta (2, 0, 0, [150]) (n_v vs 1) := t1
  have r1 : ta (v_ad (n_v vs 1)) = some 150 := tv_rg t1
  obtain ⟨t2, hk⟩ := List.forall_mem_cons.mp hk
  have t2 : tv_ok ta (0, 1, 24, []) (n_v vs 2) := t2
  have k2 : 1 ≤ v_iv (n_v vs 2) ∧ v_iv (n_v vs 2) ≤ 24 := tv_rng t2
  obtain ⟨t3, hk⟩ := List.forall_mem_cons.mp hk
  have t3 : tv_ok ta (0, 0, 23, []) (n_v vs 3) := t3
  have k3 : 0 ≤ v_iv (n_v vs 3) ∧ v_iv (n_v vs 3) ≤ 23 := tv_rng t3
  obtain ⟨t4, hk⟩ := List.forall_mem_cons.mp hk
  have t4 : tv_ok ta (0, 0, 47, []) (n_v vs 4) := t4
  have k4 : 0 ≤ v_iv (n_v vs 4) ∧ v_iv (n_v vs 4) ≤ 47 := tv_rng t4
  obtain ⟨t5, hk⟩ := List.forall_mem_cons.mp hk
  have t5 : tv_ok ta (0, 1, 48, []) (n_v vs 5) := t5
  have k5 : 1 ≤ v_iv (n_v vs 5) ∧ v_iv (n_v vs 5) ≤ 48 := tv_rng t5
  obtain ⟨t6, hk⟩ := List.forall_mem_cons.mp hk
  have t6 : tv_ok ta (2, 0, 0, [158]) (n_v vs 6) := t6
  have r6 : ta (v_ad (n_v vs 6)) = some 158 := tv_rg t6
  obtain ⟨t7, hk⟩ := List.forall_mem_cons.mp hk
  have t7 : tv_ok ta (0, 0, 23, []) (n_v vs 7) := t7
  have k7 : 0 ≤ v_iv (n_v vs 7) ∧ v_iv (n_v vs 7) ≤ 23 := tv_rng t7
  obtain ⟨t8, hk⟩ := List.forall_mem_cons.mp hk
  have t8 : tv_ok ta (0, 0, 23, []) (n_v vs 8) := t8
  have k8 : 0 ≤ v_iv (n_v vs 8) ∧ v_iv (n_v vs 8) ≤ 23 := tv_rng t8
  obtain ⟨t9, hk⟩ := List.forall_mem_cons.mp hk
  have t9 : tv_ok ta (0, 0, 23, []) (n_v vs 9) := t9
  have k9 : 0 ≤ v_iv (n_v vs 9) ∧ v_iv (n_v vs 9) ≤ 23 := tv_rng t9
  obtain ⟨t10, hk⟩ := List.forall_mem_cons.mp hk
  have t10 : tv_ok ta (0, -1, 23, []) (n_v vs 10) := t10
  have k10 : (-1) ≤ v_iv (n_v vs 10) ∧ v_iv (n_v vs 10) ≤ 23 := tv_rng t10
  obtain ⟨t11, hk⟩ := List.forall_mem_cons.mp hk
  have t11 : tv_ok ta (0, 1, 48, []) (n_v vs 11) := t11
  have k11 : 1 ≤ v_iv (n_v vs 11) ∧ v_iv (n_v vs 11) ≤ 48 := tv_rng t11
  have hds : ∀ q ∈ ([(11, 4, 1, 1), (11, 5, -4294967296, 0), (8, 3, 0, 0), (4, 5, -4294967296, -1), (3, 2, -4294967296, -1)] : List of_T), n_iv vs q.2.1 + q.2.2.1 ≤ n_iv vs q.1 ∧ n_iv vs q.1 ≤ n_iv vs q.2.1 + q.2.2.2 := hds
  obtain ⟨d0, hds⟩ := List.forall_mem_cons.mp hds
  have d0 : v_iv (n_v vs 4) + 1 ≤ v_iv (n_v vs 11) ∧ v_iv (n_v vs 11) ≤ v_iv (n_v vs 4) + 1 := d0
  obtain ⟨d1, hds⟩ := List.forall_mem_cons.mp hds
  have d1 : v_iv (n_v vs 5) + (-4294967296) ≤ v_iv (n_v vs 11) ∧ v_iv (n_v vs 11) ≤ v_iv (n_v vs 5) + 0 := d1
  obtain ⟨d2, hds⟩ := List.forall_mem_cons.mp hds
  have d2 : v_iv (n_v vs 3) + 0 ≤ v_iv (n_v vs 8) ∧ v_iv (n_v vs 8) ≤ v_iv (n_v vs 3) + 0 := d2
  obtain ⟨d3, hds⟩ := List.forall_mem_cons.mp hds
  have d3 : v_iv (n_v vs 5) + (-4294967296) ≤ v_iv (n_v vs 4) ∧ v_iv (n_v vs 4) ≤ v_iv (n_v vs 5) + (-1) := d3
  obtain ⟨d4, hds⟩ := List.forall_mem_cons.mp hds
  have d4 : v_iv (n_v vs 2) + (-4294967296) ≤ v_iv (n_v vs 3) ∧ v_iv (n_v vs 3) ≤ v_iv (n_v vs 2) + (-1) := d4
  have hf : fc_ok PRD [(6, [11, 4], [1]), (7, [10, 3], [1]), (10, [10, 6, 9], []), (20, [9, 1, 4], [50, 1, 1, 1005, 1002, 1, 2, 1, 0, 3, 1, 2, 4, 7, 4, 3, 2, 1, 5, 0, 315, 1, 2]), (9, [6, 1], [18]), (7, [8, 3], [0]), (10, [8, 6, 7], []), (20, [7, 1, 4], [50, 1, 1, 1005, 1002, 1, 2, 1, 0, 3, 1, 2, 4, 7, 4, 3, 2, 1, 5, 0, 267, 1, 2]), (7, [4, 5], [2]), (20, [5, 1], [30, 0, 1, 0, 0, -1, 3, 2005001]), (20, [5, 1], [30, 0, -1, 0, 0, 1, 3, 2005001]), (20, [1], [60, 1, 1, 122, 5, 2]), (20, [1, 2], [60, 1, 2, 282, 5, 2, 18]), (20, [1, 3], [60, 2, 3, 288, 5, 99, 2, 98, 18]), (20, [1, 3, 4], [60, 2, 4, 289, 5, 99, 2, 18, 95, 97]), (20, [1], [60, 1, 2, 269, 99, 97, 98]), (24, [0, 1], [])] ta ws vs := hf
  obtain ⟨f0, hf⟩ := fc_un (show (6 : Nat) < 100 from by decide) hf
  have f0 : v_iv (n_v vs 11) = v_iv (n_v vs 4) + 1 := f0
  obtain ⟨f1, hf⟩ := fc_un (show (7 : Nat) < 100 from by decide) hf
  have f1 : v_iv (n_v vs 10) ≠ v_iv (n_v vs 3) := f1
  obtain ⟨f2, hf⟩ := fc_un (show (10 : Nat) < 100 from by decide) hf
  have f2 : v_iv (n_v vs 10) = w_el ws (v_ad (n_v vs 6)) (v_iv (n_v vs 9)).toNat := f2
  obtain ⟨f3, hf⟩ := fc_un (show (20 : Nat) < 100 from by decide) hf
  have f3 : v_iv (n_v vs 9) = w_ei ws (w_ar ws (n_v vs 1) 2) (((w_fi ws (n_v vs 1) 5 + 315) + v_iv (n_v vs 4))) := f3
  obtain ⟨f4, hf⟩ := fc_un (show (9 : Nat) < 100 from by decide) hf
  have f4 : n_v vs 6 = w_fd ws (v_ad (n_v vs 1)) 18 := f4
  obtain ⟨f5, hf⟩ := fc_un (show (7 : Nat) < 100 from by decide) hf
  have f5 : v_iv (n_v vs 8) = v_iv (n_v vs 3) := f5
  obtain ⟨f6, hf⟩ := fc_un (show (10 : Nat) < 100 from by decide) hf
  have f6 : v_iv (n_v vs 8) = w_el ws (v_ad (n_v vs 6)) (v_iv (n_v vs 7)).toNat := f6
  obtain ⟨f7, hf⟩ := fc_un (show (20 : Nat) < 100 from by decide) hf
  have f7 : v_iv (n_v vs 7) = w_ei ws (w_ar ws (n_v vs 1) 2) (((w_fi ws (n_v vs 1) 5 + 267) + v_iv (n_v vs 4))) := f7
  obtain ⟨f8, hf⟩ := fc_un (show (7 : Nat) < 100 from by decide) hf
  have f8 : v_iv (n_v vs 4) < v_iv (n_v vs 5) := f8
  obtain ⟨f9, hf⟩ := fc_un (show (20 : Nat) < 100 from by decide) hf
  have f9 : 1 * v_iv (n_v vs 5) + ((-1) * w_el ws (w_ar ws (n_v vs 1) 2) (w_fi ws (n_v vs 1) 5 + 1).toNat + 0) ≤ 0 := f9
  obtain ⟨f10, hf⟩ := fc_un (show (20 : Nat) < 100 from by decide) hf
  have f10 : (-1) * v_iv (n_v vs 5) + (1 * w_el ws (w_ar ws (n_v vs 1) 2) (w_fi ws (n_v vs 1) 5 + 1).toNat + 0) ≤ 0 := f10
  obtain ⟨f11, hf⟩ := fc_un (show (20 : Nat) < 100 from by decide) hf
  have f11 : SGR (w_fi ws (n_v vs 1) 5) (w_ei ws (w_ar ws (n_v vs 1) 2)) := f11
  obtain ⟨f12, hf⟩ := fc_un (show (20 : Nat) < 100 from by decide) hf
  have f12 : STG (w_fi ws (n_v vs 1) 5) (w_ei ws (w_ar ws (n_v vs 1) 2)) (w_ei ws (w_ar ws (n_v vs 1) 18)) (v_iv (n_v vs 2)) := f12
  obtain ⟨f13, hf⟩ := fc_un (show (20 : Nat) < 100 from by decide) hf
  have f13 : MBF (w_fi ws (n_v vs 1) 5) (w_fi ws (n_v vs 1) 99) (w_ei ws (w_ar ws (n_v vs 1) 2)) (w_ei ws (w_ar ws (n_v vs 1) 98)) (w_ei ws (w_ar ws (n_v vs 1) 18)) (v_iv (n_v vs 3)) := f13
  obtain ⟨f14, hf⟩ := fc_un (show (20 : Nat) < 100 from by decide) hf
  have f14 : TEJ (w_fi ws (n_v vs 1) 5) (w_fi ws (n_v vs 1) 99) (w_ei ws (w_ar ws (n_v vs 1) 2)) (w_ei ws (w_ar ws (n_v vs 1) 18)) (w_ei ws (w_ar ws (n_v vs 1) 95)) (w_ei ws (w_ar ws (n_v vs 1) 97)) (v_iv (n_v vs 3)) (v_iv (n_v vs 4)) := f14
  obtain ⟨f15, hf⟩ := fc_un (show (20 : Nat) < 100 from by decide) hf
  have f15 : BST (w_fi ws (n_v vs 1) 99) (w_ei ws (w_ar ws (n_v vs 1) 97)) (w_ei ws (w_ar ws (n_v vs 1) 98)) := f15
  obtain ⟨f16, hf⟩ := fc_un (show (24 : Nat) < 100 from by decide) hf
  have f16 : n_v vs 0 = n_v vs 1 := f16
  have q1 : n_v vs 1 = n_v vs 0 := f16.symm
  rw [q1] at f3
  rw [q1] at f4
  rw [q1] at f7
  rw [q1] at f9
  rw [q1] at f10
  rw [q1] at f11
  rw [q1] at f12
  rw [q1] at f13
  rw [q1] at f14
  rw [q1] at f15
  have cr_0_2 : ta (w_ar ws (n_v vs 0) 2) = some 152 := tv_rg (th_fd hD hth r0 (g := GG_150) rfl (k := 2) (t := (2, 0, 0, [152])) rfl rfl)
  have cr_0_18 : ta (w_ar ws (n_v vs 0) 18) = some 158 := tv_rg (th_fd hD hth r0 (g := GG_150) rfl (k := 18) (t := (2, 0, 0, [158])) rfl rfl)
  have cr_0_95 : ta (w_ar ws (n_v vs 0) 95) = some 216 := tv_rg (th_fd hD hth r0 (g := GG_150) rfl (k := 95) (t := (2, 0, 0, [216])) rfl rfl)
  have cr_0_97 : ta (w_ar ws (n_v vs 0) 97) = some 218 := tv_rg (th_fd hD hth r0 (g := GG_150) rfl (k := 97) (t := (2, 0, 0, [218])) rfl rfl)
  have cr_0_98 : ta (w_ar ws (n_v vs 0) 98) = some 219 := tv_rg (th_fd hD hth r0 (g := GG_150) rfl (k := 98) (t := (2, 0, 0, [219])) rfl rfl)
  have ad_6 : v_ad (n_v vs 6) = w_ar ws (n_v vs 0) 18 := congrArg v_ad f4
  rw [ad_6] at f2
  have h2 : v_iv (n_v vs 10) = w_ei ws (w_ar ws (n_v vs 0) 18) (v_iv (n_v vs 9)) := f2
  rw [ad_6] at f6
  have h6 : v_iv (n_v vs 8) = w_ei ws (w_ar ws (n_v vs 0) 18) (v_iv (n_v vs 7)) := f6
  have hK_0_18 : ∀ j : Int, 0 ≤ j → j < 24 → (-1) ≤ w_ei ws (w_ar ws (n_v vs 0) 18) j ∧ w_ei ws (w_ar ws (n_v vs 0) 18) j ≤ 23 := fun j h0 h1 => th_el hD hth cr_0_18 (kd := 0) (n := 24) (m := 24) (lo := (-1)) (hi := 23) (rs := []) (L := []) rfl (by decide) (j := j.toNat) (by omega)
  have hK_0_95 : ∀ j : Int, 0 ≤ j → j < 48 → 0 ≤ w_ei ws (w_ar ws (n_v vs 0) 95) j ∧ w_ei ws (w_ar ws (n_v vs 0) 95) j ≤ 1 := fun j h0 h1 => th_el hD hth cr_0_95 (kd := 2) (n := 48) (m := 48) (lo := 0) (hi := 1) (rs := []) (L := []) rfl (by decide) (j := j.toNat) (by omega)
  have hK_0_97 : ∀ j : Int, 0 ≤ j → j < 26 → 0 ≤ w_ei ws (w_ar ws (n_v vs 0) 97) j ∧ w_ei ws (w_ar ws (n_v vs 0) 97) j ≤ 25 := fun j h0 h1 => th_el hD hth cr_0_97 (kd := 0) (n := 26) (m := 26) (lo := 0) (hi := 25) (rs := []) (L := []) rfl (by decide) (j := j.toNat) (by omega)
  have hK_0_98 : ∀ j : Int, 0 ≤ j → j < 26 → 0 ≤ w_ei ws (w_ar ws (n_v vs 0) 98) j ∧ w_ei ws (w_ar ws (n_v vs 0) 98) j ≤ 25 := fun j h0 h1 => th_el hD hth cr_0_98 (kd := 0) (n := 26) (m := 26) (lo := 0) (hi := 25) (rs := []) (L := []) rfl (by decide) (j := j.toNat) (by omega)
  have kz_0_99 : 0 ≤ w_fi ws (n_v vs 0) 99 ∧ w_fi ws (n_v vs 0) 99 ≤ 26 := tv_rng (th_fd hD hth r0 (g := GG_150) rfl (k := 99) (t := (0, 0, 26, [])) rfl rfl)
  have nf0 : fc_1 PRD (20, [1, 3, 11], [60, 2, 4, 289, 5, 99, 2, 18, 95, 97]) ws (vs) := by
    refine ⟨fun n hn => ?_, ?_⟩
    · have hn : n ∈ [1, 3, 11] := hn
      rw [hl]
      simp only [List.mem_cons, List.not_mem_nil, or_false] at hn
      show n < 12; omega
    · show TEJ (w_fi ws (n_v vs 1) 5) (w_fi ws (n_v vs 1) 99) (w_ei ws (w_ar ws (n_v vs 1) 2)) (w_ei ws (w_ar ws (n_v vs 1) 18)) (w_ei ws (w_ar ws (n_v vs 1) 95)) (w_ei ws (w_ar ws (n_v vs 1) 97)) (v_iv (n_v vs 3)) (v_iv (n_v vs 11))
      rw [q1]
      exact vc_Mo_turnEdges_14_0 (v_iv (n_v vs 2)) (v_iv (n_v vs 3)) (v_iv (n_v vs 4)) (v_iv (n_v vs 5)) (v_iv (n_v vs 7)) (v_iv (n_v vs 8)) (v_iv (n_v vs 9)) (v_iv (n_v vs 10)) (v_iv (n_v vs 11)) (w_ei ws (w_ar ws (n_v vs 0) 18)) (w_ei ws (w_ar ws (n_v vs 0) 2)) (w_fi ws (n_v vs 0) 5) (w_ei ws (w_ar ws (n_v vs 0) 98)) (w_fi ws (n_v vs 0) 99) (w_ei ws (w_ar ws (n_v vs 0) 95)) (w_ei ws (w_ar ws (n_v vs 0) 97)) k2 k3 k4 k5 k7 k8 k9 k10 k11 d0 d1 d2 d3 d4 f0 f1 h2 f3 f5 h6 f7 f8 f9 f10 f11 f12 f13 f14 f15 hK_0_18 hK_0_95 hK_0_97 hK_0_98 kz_0_99
  refine ⟨(fun _ h => (by cases h)), [], trivial, ?_, (fun _ h => (by cases h))⟩
  rw [List.append_nil]
  exact List.forall_mem_cons.mpr ⟨⟨show (20 : Nat) < 100 from by decide, nf0⟩, (fun _ h => (by cases h))⟩
set_option maxHeartbeats 4000000 in
theorem vc_Mo_turnEdges_15_0 (x2 : Int) (x3 : Int) (x4 : Int) (x5 : Int) (x7 : Int) (x8 : Int) (x9 : Int) (x10 : Int) (x12 : Int) (x13 : Int) (x14 : Int) (x15 : Int) (x16 : Int) (x17 : Int) (best_0 : Int → Int) (members_0 : Int) (all_0 : Int → Int) (r_0 : Int) (strongOf_0 : Int → Int) (member_0 : Int → Int) (best_1 : Int → Int) (members_1 : Int) (all_1 : Int → Int) (r_1 : Int) (strongOf_1 : Int → Int) (member_1 : Int → Int) (turned_1 : Int → Int) (turned_0 : Int → Int) (k2 : 1 ≤ x2 ∧ x2 ≤ 24) (k3 : 0 ≤ x3 ∧ x3 ≤ 23) (k4 : 0 ≤ x4 ∧ x4 ≤ 47) (k5 : 1 ≤ x5 ∧ x5 ≤ 48) (k7 : 0 ≤ x7 ∧ x7 ≤ 23) (k8 : 0 ≤ x8 ∧ x8 ≤ 23) (k9 : 0 ≤ x9 ∧ x9 ≤ 23) (k10 : 0 ≤ x10 ∧ x10 ≤ 23) (k12 : 0 ≤ x12 ∧ x12 ≤ 23) (k13 : 0 ≤ x13 ∧ x13 ≤ 26) (k14 : 0 ≤ x14 ∧ x14 ≤ 23) (k15 : 0 ≤ x15 ∧ x15 ≤ 26) (k16 : 0 ≤ x16 ∧ x16 ≤ 0) (k17 : 1 ≤ x17 ∧ x17 ≤ 48) (d0 : x4 + 1 ≤ x17 ∧ x17 ≤ x4 + 1) (d1 : x5 + (-4294967296) ≤ x17 ∧ x17 ≤ x5 + 0) (d2 : x15 + (-4294967296) ≤ x13 ∧ x13 ≤ x15 + 0) (d3 : x3 + 0 ≤ x10 ∧ x10 ≤ x3 + 0) (d4 : x3 + 0 ≤ x8 ∧ x8 ≤ x3 + 0) (d5 : x5 + (-4294967296) ≤ x4 ∧ x4 ≤ x5 + (-1)) (d6 : x2 + (-4294967296) ≤ x3 ∧ x3 ≤ x2 + (-1)) (f0 : x17 = x4 + 1) (f1 : PIN (members_0) (best_0) (x14) (x15)) (f2 : x14 = all_0 (((r_0 + 315) + x4))) (f3 : PIN (members_0) (best_0) (x12) (x13)) (f4 : x12 = all_0 (((r_0 + 267) + x4))) (f5 : x9 = all_0 (((r_0 + 315) + x4))) (f6 : x7 = all_0 (((r_0 + 267) + x4))) (f7 : 1 * x5 + ((-1) * all_0 (r_0 + 1) + 0) ≤ 0) (f8 : (-1) * x5 + (1 * all_0 (r_0 + 1) + 0) ≤ 0) (f9 : SGR (r_0) (all_0)) (f10 : STG (r_0) (all_0) (strongOf_0) (x2)) (f11 : MBF (r_0) (members_0) (all_0) (member_0) (strongOf_0) (x3)) (f12 : BST (members_0) (best_0) (member_0)) (f15 : x13 ≤ x15) (f16 : PIN (members_1) (best_1) (x14) (x15)) (f17 : x14 = all_1 (((r_1 + 315) + x4))) (f18 : PIN (members_1) (best_1) (x12) (x13)) (f19 : x12 = all_1 (((r_1 + 267) + x4))) (f21 : x10 = x3) (h22 : x10 = strongOf_1 (x9)) (f23 : x9 = all_1 (((r_1 + 315) + x4))) (f25 : x8 = x3) (h26 : x8 = strongOf_1 (x7)) (f27 : x7 = all_1 (((r_1 + 267) + x4))) (f28 : x4 < x5) (f29 : 1 * x5 + ((-1) * all_1 (r_0 + 1) + 0) ≤ 0) (f30 : (-1) * x5 + (1 * all_1 (r_0 + 1) + 0) ≤ 0) (f31 : SGR (r_1) (all_1)) (f32 : STG (r_1) (all_1) (strongOf_1) (x2)) (f33 : MBF (r_1) (members_1) (all_1) (member_1) (strongOf_1) (x3)) (f34 : TEJ (r_1) (members_1) (all_1) (strongOf_1) (turned_1) (best_1) (x3) (x4)) (f35 : BST (members_1) (best_1) (member_1)) (fe_0_5_1 : r_0 = r_1) (fe_0_99_1 : members_0 = members_1) (hE_0_2_1 : ∀ j : Int, all_0 j = all_1 j) (hE_0_18_1 : ∀ j : Int, strongOf_0 j = strongOf_1 j) (hK_0_18 : ∀ j : Int, 0 ≤ j → j < 24 → (-1) ≤ strongOf_0 j ∧ strongOf_0 j ≤ 23) (hE_0_95_1 : ∀ j : Int, 0 ≤ j → (j = x4 → turned_0 j = x16) ∧ (j ≠ x4 → turned_0 j = turned_1 j)) (hK_0_95 : ∀ j : Int, 0 ≤ j → j < 48 → 0 ≤ turned_0 j ∧ turned_0 j ≤ 1) (hE_0_97_1 : ∀ j : Int, best_0 j = best_1 j) (hK_0_97 : ∀ j : Int, 0 ≤ j → j < 26 → 0 ≤ best_0 j ∧ best_0 j ≤ 25) (hE_0_98_1 : ∀ j : Int, member_0 j = member_1 j) (hK_0_98 : ∀ j : Int, 0 ≤ j → j < 26 → 0 ≤ member_0 j ∧ member_0 j ≤ 25) (kz_0_99 : 0 ≤ members_0 ∧ members_0 ≤ 26) : TEJ (r_0) (members_0) (all_0) (strongOf_0) (turned_0) (best_0) (x3) (x17) := by
  subst fe_0_5_1
  subst fe_0_99_1
  have e_hE_0_2_1 := funext hE_0_2_1; subst e_hE_0_2_1
  have e_hE_0_18_1 := funext hE_0_18_1; subst e_hE_0_18_1
  have e_hE_0_97_1 := funext hE_0_97_1; subst e_hE_0_97_1
  have e_hE_0_98_1 := funext hE_0_98_1; subst e_hE_0_98_1
  first
    | exact tej_start ‹TEI _ _ _ _ _› (by omega)
    | exact tej_skip ‹TEJ _ _ _ _ _ _ _ _› (by omega) (Or.inl (by rw [show all_0 (r_0 + 267 + x4) = x7 by omega]; omega))
    | exact tej_skip ‹TEJ _ _ _ _ _ _ _ _› (by omega) (Or.inr (by rw [show all_0 (r_0 + 315 + x4) = x9 by omega]; omega))
    | exact tej_step (t := x7) (d := x9) (x := x13) (y := x15) ‹TEJ _ _ _ _ _ _ _ _› (by omega) (by omega) (by omega) (by omega) (by omega) (by omega) (by rw [show x7 = x12 by omega]; assumption) (by rw [show x9 = x14 by omega]; assumption) (by assumption) rfl (by omega)
def o_Mo_turnEdges_15 : or_T := (123, 18, [(0, (2, 0, 0, [150])), (1, (2, 0, 0, [150])), (2, (0, 1, 24, [])), (3, (0, 0, 23, [])), (4, (0, 0, 47, [])), (5, (0, 1, 48, [])), (6, (2, 0, 0, [158])), (7, (0, 0, 23, [])), (8, (0, 0, 23, [])), (9, (0, 0, 23, [])), (10, (0, 0, 23, [])), (11, (2, 0, 0, [216])), (12, (0, 0, 23, [])), (13, (0, 0, 26, [])), (14, (0, 0, 23, [])), (15, (0, 0, 26, [])), (16, (0, 0, 0, [])), (17, (0, 1, 48, []))], [(6, [17, 4], [1]), (20, [1, 14, 15], [60, 1, 1, 283, 99, 97]), (20, [14, 1, 4], [50, 1, 1, 1005, 1002, 1, 2, 1, 0, 3, 1, 2, 4, 7, 4, 3, 2, 1, 5, 0, 315, 1, 2]), (20, [1, 12, 13], [60, 1, 1, 283, 99, 97]), (20, [12, 1, 4], [50, 1, 1, 1005, 1002, 1, 2, 1, 0, 3, 1, 2, 4, 7, 4, 3, 2, 1, 5, 0, 267, 1, 2]), (20, [9, 1, 4], [50, 1, 1, 1005, 1002, 1, 2, 1, 0, 3, 1, 2, 4, 7, 4, 3, 2, 1, 5, 0, 315, 1, 2]), (20, [7, 1, 4], [50, 1, 1, 1005, 1002, 1, 2, 1, 0, 3, 1, 2, 4, 7, 4, 3, 2, 1, 5, 0, 267, 1, 2]), (20, [5, 1], [30, 0, 1, 0, 0, -1, 3, 2005001]), (20, [5, 1], [30, 0, -1, 0, 0, 1, 3, 2005001]), (20, [1], [60, 1, 1, 122, 5, 2]), (20, [1, 2], [60, 1, 2, 282, 5, 2, 18]), (20, [1, 3], [60, 2, 3, 288, 5, 99, 2, 98, 18]), (20, [1], [60, 1, 2, 269, 99, 97, 98]), (24, [0, 1], []), (100, [11, 4, 16], []), (7, [13, 15], [5]), (20, [1, 14, 15], [60, 1, 1, 283, 99, 97]), (20, [14, 1, 4], [50, 1, 1, 1005, 1002, 1, 2, 1, 0, 3, 1, 2, 4, 7, 4, 3, 2, 1, 5, 0, 315, 1, 2]), (20, [1, 12, 13], [60, 1, 1, 283, 99, 97]), (20, [12, 1, 4], [50, 1, 1, 1005, 1002, 1, 2, 1, 0, 3, 1, 2, 4, 7, 4, 3, 2, 1, 5, 0, 267, 1, 2]), (9, [11, 1], [95]), (7, [10, 3], [0]), (10, [10, 6, 9], []), (20, [9, 1, 4], [50, 1, 1, 1005, 1002, 1, 2, 1, 0, 3, 1, 2, 4, 7, 4, 3, 2, 1, 5, 0, 315, 1, 2]), (9, [6, 1], [18]), (7, [8, 3], [0]), (10, [8, 6, 7], []), (20, [7, 1, 4], [50, 1, 1, 1005, 1002, 1, 2, 1, 0, 3, 1, 2, 4, 7, 4, 3, 2, 1, 5, 0, 267, 1, 2]), (7, [4, 5], [2]), (20, [5, 1], [30, 0, 1, 0, 0, -1, 3, 2005001]), (20, [5, 1], [30, 0, -1, 0, 0, 1, 3, 2005001]), (20, [1], [60, 1, 1, 122, 5, 2]), (20, [1, 2], [60, 1, 2, 282, 5, 2, 18]), (20, [1, 3], [60, 2, 3, 288, 5, 99, 2, 98, 18]), (20, [1, 3, 4], [60, 2, 4, 289, 5, 99, 2, 18, 95, 97]), (20, [1], [60, 1, 2, 269, 99, 97, 98])], [], [], [(20, [1, 3, 17], [60, 2, 4, 289, 5, 99, 2, 18, 95, 97])], [], [(17, 4, 1, 1), (17, 5, -4294967296, 0), (13, 15, -4294967296, 0), (10, 3, 0, 0), (8, 3, 0, 0), (4, 5, -4294967296, -1), (3, 2, -4294967296, -1)])
theorem oo_Mo_turnEdges_15 {kA : Nat → ClassId} : or_ok PRD kA GG o_Mo_turnEdges_15 := by
  intro A ta ws vs hD hth hl hk hds hf
  have hl : vs.length = 18 := hl
  have hk : ∀ q ∈ ([(0, (2, 0, 0, [150])), (1, (2, 0, 0, [150])), (2, (0, 1, 24, [])), (3, (0, 0, 23, [])), (4, (0, 0, 47, [])), (5, (0, 1, 48, [])), (6, (2, 0, 0, [158])), (7, (0, 0, 23, [])), (8, (0, 0, 23, [])), (9, (0, 0, 23, [])), (10, (0, 0, 23, [])), (11, (2, 0, 0, [216])), (12, (0, 0, 23, [])), (13, (0, 0, 26, [])), (14, (0, 0, 23, [])), (15, (0, 0, 26, [])), (16, (0, 0, 0, [])), (17, (0, 1, 48, []))] : List (Nat × tv_T)), tv_ok ta q.2 (n_v vs q.1) := hk
  obtain ⟨t0, hk⟩ := List.forall_mem_cons.mp hk
  have t0 : tv_ok ta (2, 0, 0, [150]) (n_v vs 0) := t0
  have r0 : ta (v_ad (n_v vs 0)) = some 150 := tv_rg t0
  obtain ⟨t1, hk⟩ := List.forall_mem_cons.mp hk
  have t1 : tv_ok ta (2, 0, 0, [150]) (n_v vs 1) := t1
  have r1 : ta (v_ad (n_v vs 1)) = some 150 := tv_rg t1
  obtain ⟨t2, hk⟩ := List.forall_mem_cons.mp hk
  have t2 : tv_ok ta (0, 1, 24, []) (n_v vs 2) := t2
  have k2 : 1 ≤ v_iv (n_v vs 2) ∧ v_iv (n_v vs 2) ≤ 24 := tv_rng t2
  obtain ⟨t3, hk⟩ := List.forall_mem_cons.mp hk
  have t3 : tv_ok ta (0, 0, 23, []) (n_v vs 3) := t3
  have k3 : 0 ≤ v_iv (n_v vs 3) ∧ v_iv (n_v vs 3) ≤ 23 := tv_rng t3
  obtain ⟨t4, hk⟩ := List.forall_mem_cons.mp hk
  have t4 : tv_ok ta (0, 0, 47, []) (n_v vs 4) := t4
  have k4 : 0 ≤ v_iv (n_v vs 4) ∧ v_iv (n_v vs 4) ≤ 47 := tv_rng t4
  obtain ⟨t5, hk⟩ := List.forall_mem_cons.mp hk
  have t5 : tv_ok ta (0, 1, 48, []) (n_v vs 5) := t5
  have k5 : 1 ≤ v_iv (n_v vs 5) ∧ v_iv (n_v vs 5) ≤ 48 := tv_rng t5
  obtain ⟨t6, hk⟩ := List.forall_mem_cons.mp hk
  have t6 : tv_ok ta (2, 0, 0, [158]) (n_v vs 6) := t6
  have r6 : ta (v_ad (n_v vs 6)) = some 158 := tv_rg t6
  obtain ⟨t7, hk⟩ := List.forall_mem_cons.mp hk
  have t7 : tv_ok ta (0, 0, 23, []) (n_v vs 7) := t7
  have k7 : 0 ≤ v_iv (n_v vs 7) ∧ v_iv (n_v vs 7) ≤ 23 := tv_rng t7
  obtain ⟨t8, hk⟩ := List.forall_mem_cons.mp hk
  have t8 : tv_ok ta (0, 0, 23, []) (n_v vs 8) := t8
  have k8 : 0 ≤ v_iv (n_v vs 8) ∧ v_iv (n_v vs 8) ≤ 23 := tv_rng t8
  obtain ⟨t9, hk⟩ := List.forall_mem_cons.mp hk
  have t9 : tv_ok ta (0, 0, 23, []) (n_v vs 9) := t9
  have k9 : 0 ≤ v_iv (n_v vs 9) ∧ v_iv (n_v vs 9) ≤ 23 := tv_rng t9
  obtain ⟨t10, hk⟩ := List.forall_mem_cons.mp hk
  have t10 : tv_ok ta (0, 0, 23, []) (n_v vs 10) := t10
  have k10 : 0 ≤ v_iv (n_v vs 10) ∧ v_iv (n_v vs 10) ≤ 23 := tv_rng t10
  obtain ⟨t11, hk⟩ := List.forall_mem_cons.mp hk
  have t11 : tv_ok ta (2, 0, 0, [216]) (n_v vs 11) := t11
  have r11 : ta (v_ad (n_v vs 11)) = some 216 := tv_rg t11
  obtain ⟨t12, hk⟩ := List.forall_mem_cons.mp hk
  have t12 : tv_ok ta (0, 0, 23, []) (n_v vs 12) := t12
  have k12 : 0 ≤ v_iv (n_v vs 12) ∧ v_iv (n_v vs 12) ≤ 23 := tv_rng t12
  obtain ⟨t13, hk⟩ := List.forall_mem_cons.mp hk
  have t13 : tv_ok ta (0, 0, 26, []) (n_v vs 13) := t13
  have k13 : 0 ≤ v_iv (n_v vs 13) ∧ v_iv (n_v vs 13) ≤ 26 := tv_rng t13
  obtain ⟨t14, hk⟩ := List.forall_mem_cons.mp hk
  have t14 : tv_ok ta (0, 0, 23, []) (n_v vs 14) := t14
  have k14 : 0 ≤ v_iv (n_v vs 14) ∧ v_iv (n_v vs 14) ≤ 23 := tv_rng t14
  obtain ⟨t15, hk⟩ := List.forall_mem_cons.mp hk
  have t15 : tv_ok ta (0, 0, 26, []) (n_v vs 15) := t15
  have k15 : 0 ≤ v_iv (n_v vs 15) ∧ v_iv (n_v vs 15) ≤ 26 := tv_rng t15
  obtain ⟨t16, hk⟩ := List.forall_mem_cons.mp hk
  have t16 : tv_ok ta (0, 0, 0, []) (n_v vs 16) := t16
  have k16 : 0 ≤ v_iv (n_v vs 16) ∧ v_iv (n_v vs 16) ≤ 0 := tv_rng t16
  obtain ⟨t17, hk⟩ := List.forall_mem_cons.mp hk
  have t17 : tv_ok ta (0, 1, 48, []) (n_v vs 17) := t17
  have k17 : 1 ≤ v_iv (n_v vs 17) ∧ v_iv (n_v vs 17) ≤ 48 := tv_rng t17
  have hds : ∀ q ∈ ([(17, 4, 1, 1), (17, 5, -4294967296, 0), (13, 15, -4294967296, 0), (10, 3, 0, 0), (8, 3, 0, 0), (4, 5, -4294967296, -1), (3, 2, -4294967296, -1)] : List of_T), n_iv vs q.2.1 + q.2.2.1 ≤ n_iv vs q.1 ∧ n_iv vs q.1 ≤ n_iv vs q.2.1 + q.2.2.2 := hds
  obtain ⟨d0, hds⟩ := List.forall_mem_cons.mp hds
  have d0 : v_iv (n_v vs 4) + 1 ≤ v_iv (n_v vs 17) ∧ v_iv (n_v vs 17) ≤ v_iv (n_v vs 4) + 1 := d0
  obtain ⟨d1, hds⟩ := List.forall_mem_cons.mp hds
  have d1 : v_iv (n_v vs 5) + (-4294967296) ≤ v_iv (n_v vs 17) ∧ v_iv (n_v vs 17) ≤ v_iv (n_v vs 5) + 0 := d1
  obtain ⟨d2, hds⟩ := List.forall_mem_cons.mp hds
  have d2 : v_iv (n_v vs 15) + (-4294967296) ≤ v_iv (n_v vs 13) ∧ v_iv (n_v vs 13) ≤ v_iv (n_v vs 15) + 0 := d2
  obtain ⟨d3, hds⟩ := List.forall_mem_cons.mp hds
  have d3 : v_iv (n_v vs 3) + 0 ≤ v_iv (n_v vs 10) ∧ v_iv (n_v vs 10) ≤ v_iv (n_v vs 3) + 0 := d3
  obtain ⟨d4, hds⟩ := List.forall_mem_cons.mp hds
  have d4 : v_iv (n_v vs 3) + 0 ≤ v_iv (n_v vs 8) ∧ v_iv (n_v vs 8) ≤ v_iv (n_v vs 3) + 0 := d4
  obtain ⟨d5, hds⟩ := List.forall_mem_cons.mp hds
  have d5 : v_iv (n_v vs 5) + (-4294967296) ≤ v_iv (n_v vs 4) ∧ v_iv (n_v vs 4) ≤ v_iv (n_v vs 5) + (-1) := d5
  obtain ⟨d6, hds⟩ := List.forall_mem_cons.mp hds
  have d6 : v_iv (n_v vs 2) + (-4294967296) ≤ v_iv (n_v vs 3) ∧ v_iv (n_v vs 3) ≤ v_iv (n_v vs 2) + (-1) := d6
  have hf : fc_ok PRD [(6, [17, 4], [1]), (20, [1, 14, 15], [60, 1, 1, 283, 99, 97]), (20, [14, 1, 4], [50, 1, 1, 1005, 1002, 1, 2, 1, 0, 3, 1, 2, 4, 7, 4, 3, 2, 1, 5, 0, 315, 1, 2]), (20, [1, 12, 13], [60, 1, 1, 283, 99, 97]), (20, [12, 1, 4], [50, 1, 1, 1005, 1002, 1, 2, 1, 0, 3, 1, 2, 4, 7, 4, 3, 2, 1, 5, 0, 267, 1, 2]), (20, [9, 1, 4], [50, 1, 1, 1005, 1002, 1, 2, 1, 0, 3, 1, 2, 4, 7, 4, 3, 2, 1, 5, 0, 315, 1, 2]), (20, [7, 1, 4], [50, 1, 1, 1005, 1002, 1, 2, 1, 0, 3, 1, 2, 4, 7, 4, 3, 2, 1, 5, 0, 267, 1, 2]), (20, [5, 1], [30, 0, 1, 0, 0, -1, 3, 2005001]), (20, [5, 1], [30, 0, -1, 0, 0, 1, 3, 2005001]), (20, [1], [60, 1, 1, 122, 5, 2]), (20, [1, 2], [60, 1, 2, 282, 5, 2, 18]), (20, [1, 3], [60, 2, 3, 288, 5, 99, 2, 98, 18]), (20, [1], [60, 1, 2, 269, 99, 97, 98]), (24, [0, 1], []), (100, [11, 4, 16], []), (7, [13, 15], [5]), (20, [1, 14, 15], [60, 1, 1, 283, 99, 97]), (20, [14, 1, 4], [50, 1, 1, 1005, 1002, 1, 2, 1, 0, 3, 1, 2, 4, 7, 4, 3, 2, 1, 5, 0, 315, 1, 2]), (20, [1, 12, 13], [60, 1, 1, 283, 99, 97]), (20, [12, 1, 4], [50, 1, 1, 1005, 1002, 1, 2, 1, 0, 3, 1, 2, 4, 7, 4, 3, 2, 1, 5, 0, 267, 1, 2]), (9, [11, 1], [95]), (7, [10, 3], [0]), (10, [10, 6, 9], []), (20, [9, 1, 4], [50, 1, 1, 1005, 1002, 1, 2, 1, 0, 3, 1, 2, 4, 7, 4, 3, 2, 1, 5, 0, 315, 1, 2]), (9, [6, 1], [18]), (7, [8, 3], [0]), (10, [8, 6, 7], []), (20, [7, 1, 4], [50, 1, 1, 1005, 1002, 1, 2, 1, 0, 3, 1, 2, 4, 7, 4, 3, 2, 1, 5, 0, 267, 1, 2]), (7, [4, 5], [2]), (20, [5, 1], [30, 0, 1, 0, 0, -1, 3, 2005001]), (20, [5, 1], [30, 0, -1, 0, 0, 1, 3, 2005001]), (20, [1], [60, 1, 1, 122, 5, 2]), (20, [1, 2], [60, 1, 2, 282, 5, 2, 18]), (20, [1, 3], [60, 2, 3, 288, 5, 99, 2, 98, 18]), (20, [1, 3, 4], [60, 2, 4, 289, 5, 99, 2, 18, 95, 97]), (20, [1], [60, 1, 2, 269, 99, 97, 98])] ta ws vs := hf
  obtain ⟨f0, hf⟩ := fc_un (show (6 : Nat) < 100 from by decide) hf
  have f0 : v_iv (n_v vs 17) = v_iv (n_v vs 4) + 1 := f0
  obtain ⟨f1, hf⟩ := fc_un (show (20 : Nat) < 100 from by decide) hf
  have f1 : PIN (w_fi ws (n_v vs 1) 99) (w_ei ws (w_ar ws (n_v vs 1) 97)) (v_iv (n_v vs 14)) (v_iv (n_v vs 15)) := f1
  obtain ⟨f2, hf⟩ := fc_un (show (20 : Nat) < 100 from by decide) hf
  have f2 : v_iv (n_v vs 14) = w_ei ws (w_ar ws (n_v vs 1) 2) (((w_fi ws (n_v vs 1) 5 + 315) + v_iv (n_v vs 4))) := f2
  obtain ⟨f3, hf⟩ := fc_un (show (20 : Nat) < 100 from by decide) hf
  have f3 : PIN (w_fi ws (n_v vs 1) 99) (w_ei ws (w_ar ws (n_v vs 1) 97)) (v_iv (n_v vs 12)) (v_iv (n_v vs 13)) := f3
  obtain ⟨f4, hf⟩ := fc_un (show (20 : Nat) < 100 from by decide) hf
  have f4 : v_iv (n_v vs 12) = w_ei ws (w_ar ws (n_v vs 1) 2) (((w_fi ws (n_v vs 1) 5 + 267) + v_iv (n_v vs 4))) := f4
  obtain ⟨f5, hf⟩ := fc_un (show (20 : Nat) < 100 from by decide) hf
  have f5 : v_iv (n_v vs 9) = w_ei ws (w_ar ws (n_v vs 1) 2) (((w_fi ws (n_v vs 1) 5 + 315) + v_iv (n_v vs 4))) := f5
  obtain ⟨f6, hf⟩ := fc_un (show (20 : Nat) < 100 from by decide) hf
  have f6 : v_iv (n_v vs 7) = w_ei ws (w_ar ws (n_v vs 1) 2) (((w_fi ws (n_v vs 1) 5 + 267) + v_iv (n_v vs 4))) := f6
  obtain ⟨f7, hf⟩ := fc_un (show (20 : Nat) < 100 from by decide) hf
  have f7 : 1 * v_iv (n_v vs 5) + ((-1) * w_el ws (w_ar ws (n_v vs 1) 2) (w_fi ws (n_v vs 1) 5 + 1).toNat + 0) ≤ 0 := f7
  obtain ⟨f8, hf⟩ := fc_un (show (20 : Nat) < 100 from by decide) hf
  have f8 : (-1) * v_iv (n_v vs 5) + (1 * w_el ws (w_ar ws (n_v vs 1) 2) (w_fi ws (n_v vs 1) 5 + 1).toNat + 0) ≤ 0 := f8
  obtain ⟨f9, hf⟩ := fc_un (show (20 : Nat) < 100 from by decide) hf
  have f9 : SGR (w_fi ws (n_v vs 1) 5) (w_ei ws (w_ar ws (n_v vs 1) 2)) := f9
  obtain ⟨f10, hf⟩ := fc_un (show (20 : Nat) < 100 from by decide) hf
  have f10 : STG (w_fi ws (n_v vs 1) 5) (w_ei ws (w_ar ws (n_v vs 1) 2)) (w_ei ws (w_ar ws (n_v vs 1) 18)) (v_iv (n_v vs 2)) := f10
  obtain ⟨f11, hf⟩ := fc_un (show (20 : Nat) < 100 from by decide) hf
  have f11 : MBF (w_fi ws (n_v vs 1) 5) (w_fi ws (n_v vs 1) 99) (w_ei ws (w_ar ws (n_v vs 1) 2)) (w_ei ws (w_ar ws (n_v vs 1) 98)) (w_ei ws (w_ar ws (n_v vs 1) 18)) (v_iv (n_v vs 3)) := f11
  obtain ⟨f12, hf⟩ := fc_un (show (20 : Nat) < 100 from by decide) hf
  have f12 : BST (w_fi ws (n_v vs 1) 99) (w_ei ws (w_ar ws (n_v vs 1) 97)) (w_ei ws (w_ar ws (n_v vs 1) 98)) := f12
  obtain ⟨f13, hf⟩ := fc_un (show (24 : Nat) < 100 from by decide) hf
  have f13 : n_v vs 0 = n_v vs 1 := f13
  obtain ⟨ta1, w1, le1, ⟨_, s1⟩, hf⟩ := fc_us (show ¬ (100 : Nat) < 100 from by decide) hf
  have s1 : (∀ b j, w_el ws b j = if b = v_ad (n_v vs 11) ∧ j = (v_iv (n_v vs 4)).toNat then v_iv (n_v vs 16) else w_el w1 b j) ∧ ∀ b k, w_fd ws b k = w_fd w1 b k := s1
  obtain ⟨f15, hf⟩ := fc_un (show (7 : Nat) < 100 from by decide) hf
  have f15 : v_iv (n_v vs 13) ≤ v_iv (n_v vs 15) := f15
  obtain ⟨f16, hf⟩ := fc_un (show (20 : Nat) < 100 from by decide) hf
  have f16 : PIN (w_fi w1 (n_v vs 1) 99) (w_ei w1 (w_ar w1 (n_v vs 1) 97)) (v_iv (n_v vs 14)) (v_iv (n_v vs 15)) := f16
  obtain ⟨f17, hf⟩ := fc_un (show (20 : Nat) < 100 from by decide) hf
  have f17 : v_iv (n_v vs 14) = w_ei w1 (w_ar w1 (n_v vs 1) 2) (((w_fi w1 (n_v vs 1) 5 + 315) + v_iv (n_v vs 4))) := f17
  obtain ⟨f18, hf⟩ := fc_un (show (20 : Nat) < 100 from by decide) hf
  have f18 : PIN (w_fi w1 (n_v vs 1) 99) (w_ei w1 (w_ar w1 (n_v vs 1) 97)) (v_iv (n_v vs 12)) (v_iv (n_v vs 13)) := f18
  obtain ⟨f19, hf⟩ := fc_un (show (20 : Nat) < 100 from by decide) hf
  have f19 : v_iv (n_v vs 12) = w_ei w1 (w_ar w1 (n_v vs 1) 2) (((w_fi w1 (n_v vs 1) 5 + 267) + v_iv (n_v vs 4))) := f19
  obtain ⟨f20, hf⟩ := fc_un (show (9 : Nat) < 100 from by decide) hf
  have f20 : n_v vs 11 = w_fd w1 (v_ad (n_v vs 1)) 95 := f20
  obtain ⟨f21, hf⟩ := fc_un (show (7 : Nat) < 100 from by decide) hf
  have f21 : v_iv (n_v vs 10) = v_iv (n_v vs 3) := f21
  obtain ⟨f22, hf⟩ := fc_un (show (10 : Nat) < 100 from by decide) hf
  have f22 : v_iv (n_v vs 10) = w_el w1 (v_ad (n_v vs 6)) (v_iv (n_v vs 9)).toNat := f22
  obtain ⟨f23, hf⟩ := fc_un (show (20 : Nat) < 100 from by decide) hf
  have f23 : v_iv (n_v vs 9) = w_ei w1 (w_ar w1 (n_v vs 1) 2) (((w_fi w1 (n_v vs 1) 5 + 315) + v_iv (n_v vs 4))) := f23
  obtain ⟨f24, hf⟩ := fc_un (show (9 : Nat) < 100 from by decide) hf
  have f24 : n_v vs 6 = w_fd w1 (v_ad (n_v vs 1)) 18 := f24
  obtain ⟨f25, hf⟩ := fc_un (show (7 : Nat) < 100 from by decide) hf
  have f25 : v_iv (n_v vs 8) = v_iv (n_v vs 3) := f25
  obtain ⟨f26, hf⟩ := fc_un (show (10 : Nat) < 100 from by decide) hf
  have f26 : v_iv (n_v vs 8) = w_el w1 (v_ad (n_v vs 6)) (v_iv (n_v vs 7)).toNat := f26
  obtain ⟨f27, hf⟩ := fc_un (show (20 : Nat) < 100 from by decide) hf
  have f27 : v_iv (n_v vs 7) = w_ei w1 (w_ar w1 (n_v vs 1) 2) (((w_fi w1 (n_v vs 1) 5 + 267) + v_iv (n_v vs 4))) := f27
  obtain ⟨f28, hf⟩ := fc_un (show (7 : Nat) < 100 from by decide) hf
  have f28 : v_iv (n_v vs 4) < v_iv (n_v vs 5) := f28
  obtain ⟨f29, hf⟩ := fc_un (show (20 : Nat) < 100 from by decide) hf
  have f29 : 1 * v_iv (n_v vs 5) + ((-1) * w_el w1 (w_ar w1 (n_v vs 1) 2) (w_fi w1 (n_v vs 1) 5 + 1).toNat + 0) ≤ 0 := f29
  obtain ⟨f30, hf⟩ := fc_un (show (20 : Nat) < 100 from by decide) hf
  have f30 : (-1) * v_iv (n_v vs 5) + (1 * w_el w1 (w_ar w1 (n_v vs 1) 2) (w_fi w1 (n_v vs 1) 5 + 1).toNat + 0) ≤ 0 := f30
  obtain ⟨f31, hf⟩ := fc_un (show (20 : Nat) < 100 from by decide) hf
  have f31 : SGR (w_fi w1 (n_v vs 1) 5) (w_ei w1 (w_ar w1 (n_v vs 1) 2)) := f31
  obtain ⟨f32, hf⟩ := fc_un (show (20 : Nat) < 100 from by decide) hf
  have f32 : STG (w_fi w1 (n_v vs 1) 5) (w_ei w1 (w_ar w1 (n_v vs 1) 2)) (w_ei w1 (w_ar w1 (n_v vs 1) 18)) (v_iv (n_v vs 2)) := f32
  obtain ⟨f33, hf⟩ := fc_un (show (20 : Nat) < 100 from by decide) hf
  have f33 : MBF (w_fi w1 (n_v vs 1) 5) (w_fi w1 (n_v vs 1) 99) (w_ei w1 (w_ar w1 (n_v vs 1) 2)) (w_ei w1 (w_ar w1 (n_v vs 1) 98)) (w_ei w1 (w_ar w1 (n_v vs 1) 18)) (v_iv (n_v vs 3)) := f33
  obtain ⟨f34, hf⟩ := fc_un (show (20 : Nat) < 100 from by decide) hf
  have f34 : TEJ (w_fi w1 (n_v vs 1) 5) (w_fi w1 (n_v vs 1) 99) (w_ei w1 (w_ar w1 (n_v vs 1) 2)) (w_ei w1 (w_ar w1 (n_v vs 1) 18)) (w_ei w1 (w_ar w1 (n_v vs 1) 95)) (w_ei w1 (w_ar w1 (n_v vs 1) 97)) (v_iv (n_v vs 3)) (v_iv (n_v vs 4)) := f34
  obtain ⟨f35, hf⟩ := fc_un (show (20 : Nat) < 100 from by decide) hf
  have f35 : BST (w_fi w1 (n_v vs 1) 99) (w_ei w1 (w_ar w1 (n_v vs 1) 97)) (w_ei w1 (w_ar w1 (n_v vs 1) 98)) := f35
  have q1 : n_v vs 1 = n_v vs 0 := f13.symm
  rw [q1] at f1
  rw [q1] at f2
  rw [q1] at f3
  rw [q1] at f4
  rw [q1] at f5
  rw [q1] at f6
  rw [q1] at f7
  rw [q1] at f8
  rw [q1] at f9
  rw [q1] at f10
  rw [q1] at f11
  rw [q1] at f12
  rw [q1] at f16
  rw [q1] at f17
  rw [q1] at f18
  rw [q1] at f19
  rw [q1] at f20
  rw [q1] at f23
  rw [q1] at f24
  rw [q1] at f27
  rw [q1] at f29
  rw [q1] at f30
  rw [q1] at f31
  rw [q1] at f32
  rw [q1] at f33
  rw [q1] at f34
  rw [q1] at f35
  have ar_0_2_1 : w_ar w1 (n_v vs 0) 2 = w_ar ws (n_v vs 0) 2 := by show v_ad (w_fd w1 _ _) = v_ad (w_fd ws _ _); rw [s1.2]
  have cr_0_2 : ta (w_ar ws (n_v vs 0) 2) = some 152 := tv_rg (th_fd hD hth r0 (g := GG_150) rfl (k := 2) (t := (2, 0, 0, [152])) rfl rfl)
  have ar_0_18_1 : w_ar w1 (n_v vs 0) 18 = w_ar ws (n_v vs 0) 18 := by show v_ad (w_fd w1 _ _) = v_ad (w_fd ws _ _); rw [s1.2]
  have cr_0_18 : ta (w_ar ws (n_v vs 0) 18) = some 158 := tv_rg (th_fd hD hth r0 (g := GG_150) rfl (k := 18) (t := (2, 0, 0, [158])) rfl rfl)
  have ar_0_95_1 : w_ar w1 (n_v vs 0) 95 = w_ar ws (n_v vs 0) 95 := by show v_ad (w_fd w1 _ _) = v_ad (w_fd ws _ _); rw [s1.2]
  have cr_0_95 : ta (w_ar ws (n_v vs 0) 95) = some 216 := tv_rg (th_fd hD hth r0 (g := GG_150) rfl (k := 95) (t := (2, 0, 0, [216])) rfl rfl)
  have ar_0_97_1 : w_ar w1 (n_v vs 0) 97 = w_ar ws (n_v vs 0) 97 := by show v_ad (w_fd w1 _ _) = v_ad (w_fd ws _ _); rw [s1.2]
  have cr_0_97 : ta (w_ar ws (n_v vs 0) 97) = some 218 := tv_rg (th_fd hD hth r0 (g := GG_150) rfl (k := 97) (t := (2, 0, 0, [218])) rfl rfl)
  have ar_0_98_1 : w_ar w1 (n_v vs 0) 98 = w_ar ws (n_v vs 0) 98 := by show v_ad (w_fd w1 _ _) = v_ad (w_fd ws _ _); rw [s1.2]
  have cr_0_98 : ta (w_ar ws (n_v vs 0) 98) = some 219 := tv_rg (th_fd hD hth r0 (g := GG_150) rfl (k := 98) (t := (2, 0, 0, [219])) rfl rfl)
  have fi_0_5_1 : w_fi w1 (n_v vs 0) 5 = w_fi ws (n_v vs 0) 5 := by show v_iv (w_fd w1 _ _) = v_iv (w_fd ws _ _); rw [s1.2]
  have ad_11 : v_ad (n_v vs 11) = w_ar ws (n_v vs 0) 95 := (congrArg v_ad f20).trans ar_0_95_1
  have ad_6 : v_ad (n_v vs 6) = w_ar ws (n_v vs 0) 18 := (congrArg v_ad f24).trans ar_0_18_1
  rw [ar_0_97_1] at f16
  rw [ar_0_2_1] at f17
  rw [ar_0_97_1] at f18
  rw [ar_0_2_1] at f19
  rw [ad_6] at f22
  have h22 : v_iv (n_v vs 10) = w_ei w1 (w_ar ws (n_v vs 0) 18) (v_iv (n_v vs 9)) := f22
  rw [ar_0_2_1] at f23
  rw [ad_6] at f26
  have h26 : v_iv (n_v vs 8) = w_ei w1 (w_ar ws (n_v vs 0) 18) (v_iv (n_v vs 7)) := f26
  rw [ar_0_2_1] at f27
  rw [ar_0_2_1] at f29
  rw [fi_0_5_1] at f29
  rw [ar_0_2_1] at f30
  rw [fi_0_5_1] at f30
  rw [ar_0_2_1] at f31
  rw [ar_0_2_1] at f32
  rw [ar_0_18_1] at f32
  rw [ar_0_2_1] at f33
  rw [ar_0_18_1] at f33
  rw [ar_0_98_1] at f33
  rw [ar_0_2_1] at f34
  rw [ar_0_18_1] at f34
  rw [ar_0_95_1] at f34
  rw [ar_0_97_1] at f34
  rw [ar_0_97_1] at f35
  rw [ar_0_98_1] at f35
  have fe_0_5_1 : w_fi ws (n_v vs 0) 5 = w_fi w1 (n_v vs 0) 5 := congrArg v_iv (s1.2 _ _)
  have fe_0_99_1 : w_fi ws (n_v vs 0) 99 = w_fi w1 (n_v vs 0) 99 := congrArg v_iv (s1.2 _ _)
  have hE_0_2_1 : ∀ j : Int, w_ei ws (w_ar ws (n_v vs 0) 2) j = w_ei w1 (w_ar ws (n_v vs 0) 2) j := fun j => by unfold w_ei; rw [s1.1, if_neg (fun e => by have e1 := e.1; rw [← e1] at r11; rw [cr_0_2] at r11; exact absurd (Option.some.inj r11) (by decide))]
  have hE_0_18_1 : ∀ j : Int, w_ei ws (w_ar ws (n_v vs 0) 18) j = w_ei w1 (w_ar ws (n_v vs 0) 18) j := fun j => by unfold w_ei; rw [s1.1, if_neg (fun e => by have e1 := e.1; rw [← e1] at r11; rw [cr_0_18] at r11; exact absurd (Option.some.inj r11) (by decide))]
  have hK_0_18 : ∀ j : Int, 0 ≤ j → j < 24 → (-1) ≤ w_ei ws (w_ar ws (n_v vs 0) 18) j ∧ w_ei ws (w_ar ws (n_v vs 0) 18) j ≤ 23 := fun j h0 h1 => th_el hD hth cr_0_18 (kd := 0) (n := 24) (m := 24) (lo := (-1)) (hi := 23) (rs := []) (L := []) rfl (by decide) (j := j.toNat) (by omega)
  have hE_0_95_1 : ∀ j : Int, 0 ≤ j → (j = v_iv (n_v vs 4) → w_ei ws (w_ar ws (n_v vs 0) 95) j = v_iv (n_v vs 16)) ∧ (j ≠ v_iv (n_v vs 4) → w_ei ws (w_ar ws (n_v vs 0) 95) j = w_ei w1 (w_ar ws (n_v vs 0) 95) j) := fun j hj => ⟨fun h => by unfold w_ei; rw [s1.1, if_pos ⟨ad_11.symm, by rw [h]⟩], fun h => by unfold w_ei; rw [s1.1, if_neg (fun e => h (by have := e.2; omega))]⟩
  have hK_0_95 : ∀ j : Int, 0 ≤ j → j < 48 → 0 ≤ w_ei ws (w_ar ws (n_v vs 0) 95) j ∧ w_ei ws (w_ar ws (n_v vs 0) 95) j ≤ 1 := fun j h0 h1 => th_el hD hth cr_0_95 (kd := 2) (n := 48) (m := 48) (lo := 0) (hi := 1) (rs := []) (L := []) rfl (by decide) (j := j.toNat) (by omega)
  have hE_0_97_1 : ∀ j : Int, w_ei ws (w_ar ws (n_v vs 0) 97) j = w_ei w1 (w_ar ws (n_v vs 0) 97) j := fun j => by unfold w_ei; rw [s1.1, if_neg (fun e => by have e1 := e.1; rw [← e1] at r11; rw [cr_0_97] at r11; exact absurd (Option.some.inj r11) (by decide))]
  have hK_0_97 : ∀ j : Int, 0 ≤ j → j < 26 → 0 ≤ w_ei ws (w_ar ws (n_v vs 0) 97) j ∧ w_ei ws (w_ar ws (n_v vs 0) 97) j ≤ 25 := fun j h0 h1 => th_el hD hth cr_0_97 (kd := 0) (n := 26) (m := 26) (lo := 0) (hi := 25) (rs := []) (L := []) rfl (by decide) (j := j.toNat) (by omega)
  have hE_0_98_1 : ∀ j : Int, w_ei ws (w_ar ws (n_v vs 0) 98) j = w_ei w1 (w_ar ws (n_v vs 0) 98) j := fun j => by unfold w_ei; rw [s1.1, if_neg (fun e => by have e1 := e.1; rw [← e1] at r11; rw [cr_0_98] at r11; exact absurd (Option.some.inj r11) (by decide))]
  have hK_0_98 : ∀ j : Int, 0 ≤ j → j < 26 → 0 ≤ w_ei ws (w_ar ws (n_v vs 0) 98) j ∧ w_ei ws (w_ar ws (n_v vs 0) 98) j ≤ 25 := fun j h0 h1 => th_el hD hth cr_0_98 (kd := 0) (n := 26) (m := 26) (lo := 0) (hi := 25) (rs := []) (L := []) rfl (by decide) (j := j.toNat) (by omega)
  have kz_0_99 : 0 ≤ w_fi ws (n_v vs 0) 99 ∧ w_fi ws (n_v vs 0) 99 ≤ 26 := tv_rng (th_fd hD hth r0 (g := GG_150) rfl (k := 99) (t := (0, 0, 26, [])) rfl rfl)
  have nf0 : fc_1 PRD (20, [1, 3, 17], [60, 2, 4, 289, 5, 99, 2, 18, 95, 97]) ws (vs) := by
    refine ⟨fun n hn => ?_, ?_⟩
    · have hn : n ∈ [1, 3, 17] := hn
      rw [hl]
      simp only [List.mem_cons, List.not_mem_nil, or_false] at hn
      show n < 18; omega
    · show TEJ (w_fi ws (n_v vs 1) 5) (w_fi ws (n_v vs 1) 99) (w_ei ws (w_ar ws (n_v vs 1) 2)) (w_ei ws (w_ar ws (n_v vs 1) 18)) (w_ei ws (w_ar ws (n_v vs 1) 95)) (w_ei ws (w_ar ws (n_v vs 1) 97)) (v_iv (n_v vs 3)) (v_iv (n_v vs 17))
      rw [q1]
      exact vc_Mo_turnEdges_15_0 (v_iv (n_v vs 2)) (v_iv (n_v vs 3)) (v_iv (n_v vs 4)) (v_iv (n_v vs 5)) (v_iv (n_v vs 7)) (v_iv (n_v vs 8)) (v_iv (n_v vs 9)) (v_iv (n_v vs 10)) (v_iv (n_v vs 12)) (v_iv (n_v vs 13)) (v_iv (n_v vs 14)) (v_iv (n_v vs 15)) (v_iv (n_v vs 16)) (v_iv (n_v vs 17)) (w_ei ws (w_ar ws (n_v vs 0) 97)) (w_fi ws (n_v vs 0) 99) (w_ei ws (w_ar ws (n_v vs 0) 2)) (w_fi ws (n_v vs 0) 5) (w_ei ws (w_ar ws (n_v vs 0) 18)) (w_ei ws (w_ar ws (n_v vs 0) 98)) (w_ei w1 (w_ar ws (n_v vs 0) 97)) (w_fi w1 (n_v vs 0) 99) (w_ei w1 (w_ar ws (n_v vs 0) 2)) (w_fi w1 (n_v vs 0) 5) (w_ei w1 (w_ar ws (n_v vs 0) 18)) (w_ei w1 (w_ar ws (n_v vs 0) 98)) (w_ei w1 (w_ar ws (n_v vs 0) 95)) (w_ei ws (w_ar ws (n_v vs 0) 95)) k2 k3 k4 k5 k7 k8 k9 k10 k12 k13 k14 k15 k16 k17 d0 d1 d2 d3 d4 d5 d6 f0 f1 f2 f3 f4 f5 f6 f7 f8 f9 f10 f11 f12 f15 f16 f17 f18 f19 f21 h22 f23 f25 h26 f27 f28 f29 f30 f31 f32 f33 f34 f35 fe_0_5_1 fe_0_99_1 hE_0_2_1 hE_0_18_1 hK_0_18 hE_0_95_1 hK_0_95 hE_0_97_1 hK_0_97 hE_0_98_1 hK_0_98 kz_0_99
  refine ⟨(fun _ h => (by cases h)), [], trivial, ?_, (fun _ h => (by cases h))⟩
  rw [List.append_nil]
  exact List.forall_mem_cons.mpr ⟨⟨show (20 : Nat) < 100 from by decide, nf0⟩, (fun _ h => (by cases h))⟩
set_option maxHeartbeats 4000000 in
theorem vc_Mo_turnEdges_16_0 (x2 : Int) (x3 : Int) (x4 : Int) (x5 : Int) (x7 : Int) (x8 : Int) (x9 : Int) (x10 : Int) (x12 : Int) (x13 : Int) (x14 : Int) (x15 : Int) (x16 : Int) (x17 : Int) (best_0 : Int → Int) (members_0 : Int) (all_0 : Int → Int) (r_0 : Int) (strongOf_0 : Int → Int) (member_0 : Int → Int) (best_1 : Int → Int) (members_1 : Int) (all_1 : Int → Int) (r_1 : Int) (strongOf_1 : Int → Int) (member_1 : Int → Int) (turned_1 : Int → Int) (turned_0 : Int → Int) (k2 : 1 ≤ x2 ∧ x2 ≤ 24) (k3 : 0 ≤ x3 ∧ x3 ≤ 23) (k4 : 0 ≤ x4 ∧ x4 ≤ 47) (k5 : 1 ≤ x5 ∧ x5 ≤ 48) (k7 : 0 ≤ x7 ∧ x7 ≤ 23) (k8 : 0 ≤ x8 ∧ x8 ≤ 23) (k9 : 0 ≤ x9 ∧ x9 ≤ 23) (k10 : 0 ≤ x10 ∧ x10 ≤ 23) (k12 : 0 ≤ x12 ∧ x12 ≤ 23) (k13 : 1 ≤ x13 ∧ x13 ≤ 26) (k14 : 0 ≤ x14 ∧ x14 ≤ 23) (k15 : 0 ≤ x15 ∧ x15 ≤ 25) (k16 : 1 ≤ x16 ∧ x16 ≤ 1) (k17 : 1 ≤ x17 ∧ x17 ≤ 48) (d0 : x4 + 1 ≤ x17 ∧ x17 ≤ x4 + 1) (d1 : x5 + (-4294967296) ≤ x17 ∧ x17 ≤ x5 + 0) (d2 : x15 + 1 ≤ x13 ∧ x13 ≤ x15 + 4294967296) (d3 : x3 + 0 ≤ x10 ∧ x10 ≤ x3 + 0) (d4 : x3 + 0 ≤ x8 ∧ x8 ≤ x3 + 0) (d5 : x5 + (-4294967296) ≤ x4 ∧ x4 ≤ x5 + (-1)) (d6 : x2 + (-4294967296) ≤ x3 ∧ x3 ≤ x2 + (-1)) (f0 : x17 = x4 + 1) (f1 : PIN (members_0) (best_0) (x14) (x15)) (f2 : x14 = all_0 (((r_0 + 315) + x4))) (f3 : PIN (members_0) (best_0) (x12) (x13)) (f4 : x12 = all_0 (((r_0 + 267) + x4))) (f5 : x9 = all_0 (((r_0 + 315) + x4))) (f6 : x7 = all_0 (((r_0 + 267) + x4))) (f7 : 1 * x5 + ((-1) * all_0 (r_0 + 1) + 0) ≤ 0) (f8 : (-1) * x5 + (1 * all_0 (r_0 + 1) + 0) ≤ 0) (f9 : SGR (r_0) (all_0)) (f10 : STG (r_0) (all_0) (strongOf_0) (x2)) (f11 : MBF (r_0) (members_0) (all_0) (member_0) (strongOf_0) (x3)) (f12 : BST (members_0) (best_0) (member_0)) (f15 : x15 < x13) (f16 : PIN (members_1) (best_1) (x14) (x15)) (f17 : x14 = all_1 (((r_1 + 315) + x4))) (f18 : PIN (members_1) (best_1) (x12) (x13)) (f19 : x12 = all_1 (((r_1 + 267) + x4))) (f21 : x10 = x3) (h22 : x10 = strongOf_1 (x9)) (f23 : x9 = all_1 (((r_1 + 315) + x4))) (f25 : x8 = x3) (h26 : x8 = strongOf_1 (x7)) (f27 : x7 = all_1 (((r_1 + 267) + x4))) (f28 : x4 < x5) (f29 : 1 * x5 + ((-1) * all_1 (r_0 + 1) + 0) ≤ 0) (f30 : (-1) * x5 + (1 * all_1 (r_0 + 1) + 0) ≤ 0) (f31 : SGR (r_1) (all_1)) (f32 : STG (r_1) (all_1) (strongOf_1) (x2)) (f33 : MBF (r_1) (members_1) (all_1) (member_1) (strongOf_1) (x3)) (f34 : TEJ (r_1) (members_1) (all_1) (strongOf_1) (turned_1) (best_1) (x3) (x4)) (f35 : BST (members_1) (best_1) (member_1)) (fe_0_5_1 : r_0 = r_1) (fe_0_99_1 : members_0 = members_1) (hE_0_2_1 : ∀ j : Int, all_0 j = all_1 j) (hE_0_18_1 : ∀ j : Int, strongOf_0 j = strongOf_1 j) (hK_0_18 : ∀ j : Int, 0 ≤ j → j < 24 → (-1) ≤ strongOf_0 j ∧ strongOf_0 j ≤ 23) (hE_0_95_1 : ∀ j : Int, 0 ≤ j → (j = x4 → turned_0 j = x16) ∧ (j ≠ x4 → turned_0 j = turned_1 j)) (hK_0_95 : ∀ j : Int, 0 ≤ j → j < 48 → 0 ≤ turned_0 j ∧ turned_0 j ≤ 1) (hE_0_97_1 : ∀ j : Int, best_0 j = best_1 j) (hK_0_97 : ∀ j : Int, 0 ≤ j → j < 26 → 0 ≤ best_0 j ∧ best_0 j ≤ 25) (hE_0_98_1 : ∀ j : Int, member_0 j = member_1 j) (hK_0_98 : ∀ j : Int, 0 ≤ j → j < 26 → 0 ≤ member_0 j ∧ member_0 j ≤ 25) (kz_0_99 : 0 ≤ members_0 ∧ members_0 ≤ 26) : TEJ (r_0) (members_0) (all_0) (strongOf_0) (turned_0) (best_0) (x3) (x17) := by
  subst fe_0_5_1
  subst fe_0_99_1
  have e_hE_0_2_1 := funext hE_0_2_1; subst e_hE_0_2_1
  have e_hE_0_18_1 := funext hE_0_18_1; subst e_hE_0_18_1
  have e_hE_0_97_1 := funext hE_0_97_1; subst e_hE_0_97_1
  have e_hE_0_98_1 := funext hE_0_98_1; subst e_hE_0_98_1
  first
    | exact tej_start ‹TEI _ _ _ _ _› (by omega)
    | exact tej_skip ‹TEJ _ _ _ _ _ _ _ _› (by omega) (Or.inl (by rw [show all_0 (r_0 + 267 + x4) = x7 by omega]; omega))
    | exact tej_skip ‹TEJ _ _ _ _ _ _ _ _› (by omega) (Or.inr (by rw [show all_0 (r_0 + 315 + x4) = x9 by omega]; omega))
    | exact tej_step (t := x7) (d := x9) (x := x13) (y := x15) ‹TEJ _ _ _ _ _ _ _ _› (by omega) (by omega) (by omega) (by omega) (by omega) (by omega) (by rw [show x7 = x12 by omega]; assumption) (by rw [show x9 = x14 by omega]; assumption) (by assumption) rfl (by omega)
def o_Mo_turnEdges_16 : or_T := (123, 18, [(0, (2, 0, 0, [150])), (1, (2, 0, 0, [150])), (2, (0, 1, 24, [])), (3, (0, 0, 23, [])), (4, (0, 0, 47, [])), (5, (0, 1, 48, [])), (6, (2, 0, 0, [158])), (7, (0, 0, 23, [])), (8, (0, 0, 23, [])), (9, (0, 0, 23, [])), (10, (0, 0, 23, [])), (11, (2, 0, 0, [216])), (12, (0, 0, 23, [])), (13, (0, 1, 26, [])), (14, (0, 0, 23, [])), (15, (0, 0, 25, [])), (16, (0, 1, 1, [])), (17, (0, 1, 48, []))], [(6, [17, 4], [1]), (20, [1, 14, 15], [60, 1, 1, 283, 99, 97]), (20, [14, 1, 4], [50, 1, 1, 1005, 1002, 1, 2, 1, 0, 3, 1, 2, 4, 7, 4, 3, 2, 1, 5, 0, 315, 1, 2]), (20, [1, 12, 13], [60, 1, 1, 283, 99, 97]), (20, [12, 1, 4], [50, 1, 1, 1005, 1002, 1, 2, 1, 0, 3, 1, 2, 4, 7, 4, 3, 2, 1, 5, 0, 267, 1, 2]), (20, [9, 1, 4], [50, 1, 1, 1005, 1002, 1, 2, 1, 0, 3, 1, 2, 4, 7, 4, 3, 2, 1, 5, 0, 315, 1, 2]), (20, [7, 1, 4], [50, 1, 1, 1005, 1002, 1, 2, 1, 0, 3, 1, 2, 4, 7, 4, 3, 2, 1, 5, 0, 267, 1, 2]), (20, [5, 1], [30, 0, 1, 0, 0, -1, 3, 2005001]), (20, [5, 1], [30, 0, -1, 0, 0, 1, 3, 2005001]), (20, [1], [60, 1, 1, 122, 5, 2]), (20, [1, 2], [60, 1, 2, 282, 5, 2, 18]), (20, [1, 3], [60, 2, 3, 288, 5, 99, 2, 98, 18]), (20, [1], [60, 1, 2, 269, 99, 97, 98]), (24, [0, 1], []), (100, [11, 4, 16], []), (7, [13, 15], [4]), (20, [1, 14, 15], [60, 1, 1, 283, 99, 97]), (20, [14, 1, 4], [50, 1, 1, 1005, 1002, 1, 2, 1, 0, 3, 1, 2, 4, 7, 4, 3, 2, 1, 5, 0, 315, 1, 2]), (20, [1, 12, 13], [60, 1, 1, 283, 99, 97]), (20, [12, 1, 4], [50, 1, 1, 1005, 1002, 1, 2, 1, 0, 3, 1, 2, 4, 7, 4, 3, 2, 1, 5, 0, 267, 1, 2]), (9, [11, 1], [95]), (7, [10, 3], [0]), (10, [10, 6, 9], []), (20, [9, 1, 4], [50, 1, 1, 1005, 1002, 1, 2, 1, 0, 3, 1, 2, 4, 7, 4, 3, 2, 1, 5, 0, 315, 1, 2]), (9, [6, 1], [18]), (7, [8, 3], [0]), (10, [8, 6, 7], []), (20, [7, 1, 4], [50, 1, 1, 1005, 1002, 1, 2, 1, 0, 3, 1, 2, 4, 7, 4, 3, 2, 1, 5, 0, 267, 1, 2]), (7, [4, 5], [2]), (20, [5, 1], [30, 0, 1, 0, 0, -1, 3, 2005001]), (20, [5, 1], [30, 0, -1, 0, 0, 1, 3, 2005001]), (20, [1], [60, 1, 1, 122, 5, 2]), (20, [1, 2], [60, 1, 2, 282, 5, 2, 18]), (20, [1, 3], [60, 2, 3, 288, 5, 99, 2, 98, 18]), (20, [1, 3, 4], [60, 2, 4, 289, 5, 99, 2, 18, 95, 97]), (20, [1], [60, 1, 2, 269, 99, 97, 98])], [], [], [(20, [1, 3, 17], [60, 2, 4, 289, 5, 99, 2, 18, 95, 97])], [], [(17, 4, 1, 1), (17, 5, -4294967296, 0), (13, 15, 1, 4294967296), (10, 3, 0, 0), (8, 3, 0, 0), (4, 5, -4294967296, -1), (3, 2, -4294967296, -1)])
theorem oo_Mo_turnEdges_16 {kA : Nat → ClassId} : or_ok PRD kA GG o_Mo_turnEdges_16 := by
  intro A ta ws vs hD hth hl hk hds hf
  have hl : vs.length = 18 := hl
  have hk : ∀ q ∈ ([(0, (2, 0, 0, [150])), (1, (2, 0, 0, [150])), (2, (0, 1, 24, [])), (3, (0, 0, 23, [])), (4, (0, 0, 47, [])), (5, (0, 1, 48, [])), (6, (2, 0, 0, [158])), (7, (0, 0, 23, [])), (8, (0, 0, 23, [])), (9, (0, 0, 23, [])), (10, (0, 0, 23, [])), (11, (2, 0, 0, [216])), (12, (0, 0, 23, [])), (13, (0, 1, 26, [])), (14, (0, 0, 23, [])), (15, (0, 0, 25, [])), (16, (0, 1, 1, [])), (17, (0, 1, 48, []))] : List (Nat × tv_T)), tv_ok ta q.2 (n_v vs q.1) := hk
  obtain ⟨t0, hk⟩ := List.forall_mem_cons.mp hk
  have t0 : tv_ok ta (2, 0, 0, [150]) (n_v vs 0) := t0
  have r0 : ta (v_ad (n_v vs 0)) = some 150 := tv_rg t0
  obtain ⟨t1, hk⟩ := List.forall_mem_cons.mp hk
  have t1 : tv_ok ta (2, 0, 0, [150]) (n_v vs 1) := t1
  have r1 : ta (v_ad (n_v vs 1)) = some 150 := tv_rg t1
  obtain ⟨t2, hk⟩ := List.forall_mem_cons.mp hk
  have t2 : tv_ok ta (0, 1, 24, []) (n_v vs 2) := t2
  have k2 : 1 ≤ v_iv (n_v vs 2) ∧ v_iv (n_v vs 2) ≤ 24 := tv_rng t2
  obtain ⟨t3, hk⟩ := List.forall_mem_cons.mp hk
  have t3 : tv_ok ta (0, 0, 23, []) (n_v vs 3) := t3
  have k3 : 0 ≤ v_iv (n_v vs 3) ∧ v_iv (n_v vs 3) ≤ 23 := tv_rng t3
  obtain ⟨t4, hk⟩ := List.forall_mem_cons.mp hk
  have t4 : tv_ok ta (0, 0, 47, []) (n_v vs 4) := t4
  have k4 : 0 ≤ v_iv (n_v vs 4) ∧ v_iv (n_v vs 4) ≤ 47 := tv_rng t4
  obtain ⟨t5, hk⟩ := List.forall_mem_cons.mp hk
  have t5 : tv_ok ta (0, 1, 48, []) (n_v vs 5) := t5
  have k5 : 1 ≤ v_iv (n_v vs 5) ∧ v_iv (n_v vs 5) ≤ 48 := tv_rng t5
  obtain ⟨t6, hk⟩ := List.forall_mem_cons.mp hk
  have t6 : tv_ok ta (2, 0, 0, [158]) (n_v vs 6) := t6
  have r6 : ta (v_ad (n_v vs 6)) = some 158 := tv_rg t6
  obtain ⟨t7, hk⟩ := List.forall_mem_cons.mp hk
  have t7 : tv_ok ta (0, 0, 23, []) (n_v vs 7) := t7
  have k7 : 0 ≤ v_iv (n_v vs 7) ∧ v_iv (n_v vs 7) ≤ 23 := tv_rng t7
  obtain ⟨t8, hk⟩ := List.forall_mem_cons.mp hk
  have t8 : tv_ok ta (0, 0, 23, []) (n_v vs 8) := t8
  have k8 : 0 ≤ v_iv (n_v vs 8) ∧ v_iv (n_v vs 8) ≤ 23 := tv_rng t8
  obtain ⟨t9, hk⟩ := List.forall_mem_cons.mp hk
  have t9 : tv_ok ta (0, 0, 23, []) (n_v vs 9) := t9
  have k9 : 0 ≤ v_iv (n_v vs 9) ∧ v_iv (n_v vs 9) ≤ 23 := tv_rng t9
  obtain ⟨t10, hk⟩ := List.forall_mem_cons.mp hk
  have t10 : tv_ok ta (0, 0, 23, []) (n_v vs 10) := t10
  have k10 : 0 ≤ v_iv (n_v vs 10) ∧ v_iv (n_v vs 10) ≤ 23 := tv_rng t10
  obtain ⟨t11, hk⟩ := List.forall_mem_cons.mp hk
  have t11 : tv_ok ta (2, 0, 0, [216]) (n_v vs 11) := t11
  have r11 : ta (v_ad (n_v vs 11)) = some 216 := tv_rg t11
  obtain ⟨t12, hk⟩ := List.forall_mem_cons.mp hk
  have t12 : tv_ok ta (0, 0, 23, []) (n_v vs 12) := t12
  have k12 : 0 ≤ v_iv (n_v vs 12) ∧ v_iv (n_v vs 12) ≤ 23 := tv_rng t12
  obtain ⟨t13, hk⟩ := List.forall_mem_cons.mp hk
  have t13 : tv_ok ta (0, 1, 26, []) (n_v vs 13) := t13
  have k13 : 1 ≤ v_iv (n_v vs 13) ∧ v_iv (n_v vs 13) ≤ 26 := tv_rng t13
  obtain ⟨t14, hk⟩ := List.forall_mem_cons.mp hk
  have t14 : tv_ok ta (0, 0, 23, []) (n_v vs 14) := t14
  have k14 : 0 ≤ v_iv (n_v vs 14) ∧ v_iv (n_v vs 14) ≤ 23 := tv_rng t14
  obtain ⟨t15, hk⟩ := List.forall_mem_cons.mp hk
  have t15 : tv_ok ta (0, 0, 25, []) (n_v vs 15) := t15
  have k15 : 0 ≤ v_iv (n_v vs 15) ∧ v_iv (n_v vs 15) ≤ 25 := tv_rng t15
  obtain ⟨t16, hk⟩ := List.forall_mem_cons.mp hk
  have t16 : tv_ok ta (0, 1, 1, []) (n_v vs 16) := t16
  have k16 : 1 ≤ v_iv (n_v vs 16) ∧ v_iv (n_v vs 16) ≤ 1 := tv_rng t16
  obtain ⟨t17, hk⟩ := List.forall_mem_cons.mp hk
  have t17 : tv_ok ta (0, 1, 48, []) (n_v vs 17) := t17
  have k17 : 1 ≤ v_iv (n_v vs 17) ∧ v_iv (n_v vs 17) ≤ 48 := tv_rng t17
  have hds : ∀ q ∈ ([(17, 4, 1, 1), (17, 5, -4294967296, 0), (13, 15, 1, 4294967296), (10, 3, 0, 0), (8, 3, 0, 0), (4, 5, -4294967296, -1), (3, 2, -4294967296, -1)] : List of_T), n_iv vs q.2.1 + q.2.2.1 ≤ n_iv vs q.1 ∧ n_iv vs q.1 ≤ n_iv vs q.2.1 + q.2.2.2 := hds
  obtain ⟨d0, hds⟩ := List.forall_mem_cons.mp hds
  have d0 : v_iv (n_v vs 4) + 1 ≤ v_iv (n_v vs 17) ∧ v_iv (n_v vs 17) ≤ v_iv (n_v vs 4) + 1 := d0
  obtain ⟨d1, hds⟩ := List.forall_mem_cons.mp hds
  have d1 : v_iv (n_v vs 5) + (-4294967296) ≤ v_iv (n_v vs 17) ∧ v_iv (n_v vs 17) ≤ v_iv (n_v vs 5) + 0 := d1
  obtain ⟨d2, hds⟩ := List.forall_mem_cons.mp hds
  have d2 : v_iv (n_v vs 15) + 1 ≤ v_iv (n_v vs 13) ∧ v_iv (n_v vs 13) ≤ v_iv (n_v vs 15) + 4294967296 := d2
  obtain ⟨d3, hds⟩ := List.forall_mem_cons.mp hds
  have d3 : v_iv (n_v vs 3) + 0 ≤ v_iv (n_v vs 10) ∧ v_iv (n_v vs 10) ≤ v_iv (n_v vs 3) + 0 := d3
  obtain ⟨d4, hds⟩ := List.forall_mem_cons.mp hds
  have d4 : v_iv (n_v vs 3) + 0 ≤ v_iv (n_v vs 8) ∧ v_iv (n_v vs 8) ≤ v_iv (n_v vs 3) + 0 := d4
  obtain ⟨d5, hds⟩ := List.forall_mem_cons.mp hds
  have d5 : v_iv (n_v vs 5) + (-4294967296) ≤ v_iv (n_v vs 4) ∧ v_iv (n_v vs 4) ≤ v_iv (n_v vs 5) + (-1) := d5
  obtain ⟨d6, hds⟩ := List.forall_mem_cons.mp hds
  have d6 : v_iv (n_v vs 2) + (-4294967296) ≤ v_iv (n_v vs 3) ∧ v_iv (n_v vs 3) ≤ v_iv (n_v vs 2) + (-1) := d6
  have hf : fc_ok PRD [(6, [17, 4], [1]), (20, [1, 14, 15], [60, 1, 1, 283, 99, 97]), (20, [14, 1, 4], [50, 1, 1, 1005, 1002, 1, 2, 1, 0, 3, 1, 2, 4, 7, 4, 3, 2, 1, 5, 0, 315, 1, 2]), (20, [1, 12, 13], [60, 1, 1, 283, 99, 97]), (20, [12, 1, 4], [50, 1, 1, 1005, 1002, 1, 2, 1, 0, 3, 1, 2, 4, 7, 4, 3, 2, 1, 5, 0, 267, 1, 2]), (20, [9, 1, 4], [50, 1, 1, 1005, 1002, 1, 2, 1, 0, 3, 1, 2, 4, 7, 4, 3, 2, 1, 5, 0, 315, 1, 2]), (20, [7, 1, 4], [50, 1, 1, 1005, 1002, 1, 2, 1, 0, 3, 1, 2, 4, 7, 4, 3, 2, 1, 5, 0, 267, 1, 2]), (20, [5, 1], [30, 0, 1, 0, 0, -1, 3, 2005001]), (20, [5, 1], [30, 0, -1, 0, 0, 1, 3, 2005001]), (20, [1], [60, 1, 1, 122, 5, 2]), (20, [1, 2], [60, 1, 2, 282, 5, 2, 18]), (20, [1, 3], [60, 2, 3, 288, 5, 99, 2, 98, 18]), (20, [1], [60, 1, 2, 269, 99, 97, 98]), (24, [0, 1], []), (100, [11, 4, 16], []), (7, [13, 15], [4]), (20, [1, 14, 15], [60, 1, 1, 283, 99, 97]), (20, [14, 1, 4], [50, 1, 1, 1005, 1002, 1, 2, 1, 0, 3, 1, 2, 4, 7, 4, 3, 2, 1, 5, 0, 315, 1, 2]), (20, [1, 12, 13], [60, 1, 1, 283, 99, 97]), (20, [12, 1, 4], [50, 1, 1, 1005, 1002, 1, 2, 1, 0, 3, 1, 2, 4, 7, 4, 3, 2, 1, 5, 0, 267, 1, 2]), (9, [11, 1], [95]), (7, [10, 3], [0]), (10, [10, 6, 9], []), (20, [9, 1, 4], [50, 1, 1, 1005, 1002, 1, 2, 1, 0, 3, 1, 2, 4, 7, 4, 3, 2, 1, 5, 0, 315, 1, 2]), (9, [6, 1], [18]), (7, [8, 3], [0]), (10, [8, 6, 7], []), (20, [7, 1, 4], [50, 1, 1, 1005, 1002, 1, 2, 1, 0, 3, 1, 2, 4, 7, 4, 3, 2, 1, 5, 0, 267, 1, 2]), (7, [4, 5], [2]), (20, [5, 1], [30, 0, 1, 0, 0, -1, 3, 2005001]), (20, [5, 1], [30, 0, -1, 0, 0, 1, 3, 2005001]), (20, [1], [60, 1, 1, 122, 5, 2]), (20, [1, 2], [60, 1, 2, 282, 5, 2, 18]), (20, [1, 3], [60, 2, 3, 288, 5, 99, 2, 98, 18]), (20, [1, 3, 4], [60, 2, 4, 289, 5, 99, 2, 18, 95, 97]), (20, [1], [60, 1, 2, 269, 99, 97, 98])] ta ws vs := hf
  obtain ⟨f0, hf⟩ := fc_un (show (6 : Nat) < 100 from by decide) hf
  have f0 : v_iv (n_v vs 17) = v_iv (n_v vs 4) + 1 := f0
  obtain ⟨f1, hf⟩ := fc_un (show (20 : Nat) < 100 from by decide) hf
  have f1 : PIN (w_fi ws (n_v vs 1) 99) (w_ei ws (w_ar ws (n_v vs 1) 97)) (v_iv (n_v vs 14)) (v_iv (n_v vs 15)) := f1
  obtain ⟨f2, hf⟩ := fc_un (show (20 : Nat) < 100 from by decide) hf
  have f2 : v_iv (n_v vs 14) = w_ei ws (w_ar ws (n_v vs 1) 2) (((w_fi ws (n_v vs 1) 5 + 315) + v_iv (n_v vs 4))) := f2
  obtain ⟨f3, hf⟩ := fc_un (show (20 : Nat) < 100 from by decide) hf
  have f3 : PIN (w_fi ws (n_v vs 1) 99) (w_ei ws (w_ar ws (n_v vs 1) 97)) (v_iv (n_v vs 12)) (v_iv (n_v vs 13)) := f3
  obtain ⟨f4, hf⟩ := fc_un (show (20 : Nat) < 100 from by decide) hf
  have f4 : v_iv (n_v vs 12) = w_ei ws (w_ar ws (n_v vs 1) 2) (((w_fi ws (n_v vs 1) 5 + 267) + v_iv (n_v vs 4))) := f4
  obtain ⟨f5, hf⟩ := fc_un (show (20 : Nat) < 100 from by decide) hf
  have f5 : v_iv (n_v vs 9) = w_ei ws (w_ar ws (n_v vs 1) 2) (((w_fi ws (n_v vs 1) 5 + 315) + v_iv (n_v vs 4))) := f5
  obtain ⟨f6, hf⟩ := fc_un (show (20 : Nat) < 100 from by decide) hf
  have f6 : v_iv (n_v vs 7) = w_ei ws (w_ar ws (n_v vs 1) 2) (((w_fi ws (n_v vs 1) 5 + 267) + v_iv (n_v vs 4))) := f6
  obtain ⟨f7, hf⟩ := fc_un (show (20 : Nat) < 100 from by decide) hf
  have f7 : 1 * v_iv (n_v vs 5) + ((-1) * w_el ws (w_ar ws (n_v vs 1) 2) (w_fi ws (n_v vs 1) 5 + 1).toNat + 0) ≤ 0 := f7
  obtain ⟨f8, hf⟩ := fc_un (show (20 : Nat) < 100 from by decide) hf
  have f8 : (-1) * v_iv (n_v vs 5) + (1 * w_el ws (w_ar ws (n_v vs 1) 2) (w_fi ws (n_v vs 1) 5 + 1).toNat + 0) ≤ 0 := f8
  obtain ⟨f9, hf⟩ := fc_un (show (20 : Nat) < 100 from by decide) hf
  have f9 : SGR (w_fi ws (n_v vs 1) 5) (w_ei ws (w_ar ws (n_v vs 1) 2)) := f9
  obtain ⟨f10, hf⟩ := fc_un (show (20 : Nat) < 100 from by decide) hf
  have f10 : STG (w_fi ws (n_v vs 1) 5) (w_ei ws (w_ar ws (n_v vs 1) 2)) (w_ei ws (w_ar ws (n_v vs 1) 18)) (v_iv (n_v vs 2)) := f10
  obtain ⟨f11, hf⟩ := fc_un (show (20 : Nat) < 100 from by decide) hf
  have f11 : MBF (w_fi ws (n_v vs 1) 5) (w_fi ws (n_v vs 1) 99) (w_ei ws (w_ar ws (n_v vs 1) 2)) (w_ei ws (w_ar ws (n_v vs 1) 98)) (w_ei ws (w_ar ws (n_v vs 1) 18)) (v_iv (n_v vs 3)) := f11
  obtain ⟨f12, hf⟩ := fc_un (show (20 : Nat) < 100 from by decide) hf
  have f12 : BST (w_fi ws (n_v vs 1) 99) (w_ei ws (w_ar ws (n_v vs 1) 97)) (w_ei ws (w_ar ws (n_v vs 1) 98)) := f12
  obtain ⟨f13, hf⟩ := fc_un (show (24 : Nat) < 100 from by decide) hf
  have f13 : n_v vs 0 = n_v vs 1 := f13
  obtain ⟨ta1, w1, le1, ⟨_, s1⟩, hf⟩ := fc_us (show ¬ (100 : Nat) < 100 from by decide) hf
  have s1 : (∀ b j, w_el ws b j = if b = v_ad (n_v vs 11) ∧ j = (v_iv (n_v vs 4)).toNat then v_iv (n_v vs 16) else w_el w1 b j) ∧ ∀ b k, w_fd ws b k = w_fd w1 b k := s1
  obtain ⟨f15, hf⟩ := fc_un (show (7 : Nat) < 100 from by decide) hf
  have f15 : v_iv (n_v vs 15) < v_iv (n_v vs 13) := f15
  obtain ⟨f16, hf⟩ := fc_un (show (20 : Nat) < 100 from by decide) hf
  have f16 : PIN (w_fi w1 (n_v vs 1) 99) (w_ei w1 (w_ar w1 (n_v vs 1) 97)) (v_iv (n_v vs 14)) (v_iv (n_v vs 15)) := f16
  obtain ⟨f17, hf⟩ := fc_un (show (20 : Nat) < 100 from by decide) hf
  have f17 : v_iv (n_v vs 14) = w_ei w1 (w_ar w1 (n_v vs 1) 2) (((w_fi w1 (n_v vs 1) 5 + 315) + v_iv (n_v vs 4))) := f17
  obtain ⟨f18, hf⟩ := fc_un (show (20 : Nat) < 100 from by decide) hf
  have f18 : PIN (w_fi w1 (n_v vs 1) 99) (w_ei w1 (w_ar w1 (n_v vs 1) 97)) (v_iv (n_v vs 12)) (v_iv (n_v vs 13)) := f18
  obtain ⟨f19, hf⟩ := fc_un (show (20 : Nat) < 100 from by decide) hf
  have f19 : v_iv (n_v vs 12) = w_ei w1 (w_ar w1 (n_v vs 1) 2) (((w_fi w1 (n_v vs 1) 5 + 267) + v_iv (n_v vs 4))) := f19
  obtain ⟨f20, hf⟩ := fc_un (show (9 : Nat) < 100 from by decide) hf
  have f20 : n_v vs 11 = w_fd w1 (v_ad (n_v vs 1)) 95 := f20
  obtain ⟨f21, hf⟩ := fc_un (show (7 : Nat) < 100 from by decide) hf
  have f21 : v_iv (n_v vs 10) = v_iv (n_v vs 3) := f21
  obtain ⟨f22, hf⟩ := fc_un (show (10 : Nat) < 100 from by decide) hf
  have f22 : v_iv (n_v vs 10) = w_el w1 (v_ad (n_v vs 6)) (v_iv (n_v vs 9)).toNat := f22
  obtain ⟨f23, hf⟩ := fc_un (show (20 : Nat) < 100 from by decide) hf
  have f23 : v_iv (n_v vs 9) = w_ei w1 (w_ar w1 (n_v vs 1) 2) (((w_fi w1 (n_v vs 1) 5 + 315) + v_iv (n_v vs 4))) := f23
  obtain ⟨f24, hf⟩ := fc_un (show (9 : Nat) < 100 from by decide) hf
  have f24 : n_v vs 6 = w_fd w1 (v_ad (n_v vs 1)) 18 := f24
  obtain ⟨f25, hf⟩ := fc_un (show (7 : Nat) < 100 from by decide) hf
  have f25 : v_iv (n_v vs 8) = v_iv (n_v vs 3) := f25
  obtain ⟨f26, hf⟩ := fc_un (show (10 : Nat) < 100 from by decide) hf
  have f26 : v_iv (n_v vs 8) = w_el w1 (v_ad (n_v vs 6)) (v_iv (n_v vs 7)).toNat := f26
  obtain ⟨f27, hf⟩ := fc_un (show (20 : Nat) < 100 from by decide) hf
  have f27 : v_iv (n_v vs 7) = w_ei w1 (w_ar w1 (n_v vs 1) 2) (((w_fi w1 (n_v vs 1) 5 + 267) + v_iv (n_v vs 4))) := f27
  obtain ⟨f28, hf⟩ := fc_un (show (7 : Nat) < 100 from by decide) hf
  have f28 : v_iv (n_v vs 4) < v_iv (n_v vs 5) := f28
  obtain ⟨f29, hf⟩ := fc_un (show (20 : Nat) < 100 from by decide) hf
  have f29 : 1 * v_iv (n_v vs 5) + ((-1) * w_el w1 (w_ar w1 (n_v vs 1) 2) (w_fi w1 (n_v vs 1) 5 + 1).toNat + 0) ≤ 0 := f29
  obtain ⟨f30, hf⟩ := fc_un (show (20 : Nat) < 100 from by decide) hf
  have f30 : (-1) * v_iv (n_v vs 5) + (1 * w_el w1 (w_ar w1 (n_v vs 1) 2) (w_fi w1 (n_v vs 1) 5 + 1).toNat + 0) ≤ 0 := f30
  obtain ⟨f31, hf⟩ := fc_un (show (20 : Nat) < 100 from by decide) hf
  have f31 : SGR (w_fi w1 (n_v vs 1) 5) (w_ei w1 (w_ar w1 (n_v vs 1) 2)) := f31
  obtain ⟨f32, hf⟩ := fc_un (show (20 : Nat) < 100 from by decide) hf
  have f32 : STG (w_fi w1 (n_v vs 1) 5) (w_ei w1 (w_ar w1 (n_v vs 1) 2)) (w_ei w1 (w_ar w1 (n_v vs 1) 18)) (v_iv (n_v vs 2)) := f32
  obtain ⟨f33, hf⟩ := fc_un (show (20 : Nat) < 100 from by decide) hf
  have f33 : MBF (w_fi w1 (n_v vs 1) 5) (w_fi w1 (n_v vs 1) 99) (w_ei w1 (w_ar w1 (n_v vs 1) 2)) (w_ei w1 (w_ar w1 (n_v vs 1) 98)) (w_ei w1 (w_ar w1 (n_v vs 1) 18)) (v_iv (n_v vs 3)) := f33
  obtain ⟨f34, hf⟩ := fc_un (show (20 : Nat) < 100 from by decide) hf
  have f34 : TEJ (w_fi w1 (n_v vs 1) 5) (w_fi w1 (n_v vs 1) 99) (w_ei w1 (w_ar w1 (n_v vs 1) 2)) (w_ei w1 (w_ar w1 (n_v vs 1) 18)) (w_ei w1 (w_ar w1 (n_v vs 1) 95)) (w_ei w1 (w_ar w1 (n_v vs 1) 97)) (v_iv (n_v vs 3)) (v_iv (n_v vs 4)) := f34
  obtain ⟨f35, hf⟩ := fc_un (show (20 : Nat) < 100 from by decide) hf
  have f35 : BST (w_fi w1 (n_v vs 1) 99) (w_ei w1 (w_ar w1 (n_v vs 1) 97)) (w_ei w1 (w_ar w1 (n_v vs 1) 98)) := f35
  have q1 : n_v vs 1 = n_v vs 0 := f13.symm
  rw [q1] at f1
  rw [q1] at f2
  rw [q1] at f3
  rw [q1] at f4
  rw [q1] at f5
  rw [q1] at f6
  rw [q1] at f7
  rw [q1] at f8
  rw [q1] at f9
  rw [q1] at f10
  rw [q1] at f11
  rw [q1] at f12
  rw [q1] at f16
  rw [q1] at f17
  rw [q1] at f18
  rw [q1] at f19
  rw [q1] at f20
  rw [q1] at f23
  rw [q1] at f24
  rw [q1] at f27
  rw [q1] at f29
  rw [q1] at f30
  rw [q1] at f31
  rw [q1] at f32
  rw [q1] at f33
  rw [q1] at f34
  rw [q1] at f35
  have ar_0_2_1 : w_ar w1 (n_v vs 0) 2 = w_ar ws (n_v vs 0) 2 := by show v_ad (w_fd w1 _ _) = v_ad (w_fd ws _ _); rw [s1.2]
  have cr_0_2 : ta (w_ar ws (n_v vs 0) 2) = some 152 := tv_rg (th_fd hD hth r0 (g := GG_150) rfl (k := 2) (t := (2, 0, 0, [152])) rfl rfl)
  have ar_0_18_1 : w_ar w1 (n_v vs 0) 18 = w_ar ws (n_v vs 0) 18 := by show v_ad (w_fd w1 _ _) = v_ad (w_fd ws _ _); rw [s1.2]
  have cr_0_18 : ta (w_ar ws (n_v vs 0) 18) = some 158 := tv_rg (th_fd hD hth r0 (g := GG_150) rfl (k := 18) (t := (2, 0, 0, [158])) rfl rfl)
  have ar_0_95_1 : w_ar w1 (n_v vs 0) 95 = w_ar ws (n_v vs 0) 95 := by show v_ad (w_fd w1 _ _) = v_ad (w_fd ws _ _); rw [s1.2]
  have cr_0_95 : ta (w_ar ws (n_v vs 0) 95) = some 216 := tv_rg (th_fd hD hth r0 (g := GG_150) rfl (k := 95) (t := (2, 0, 0, [216])) rfl rfl)
  have ar_0_97_1 : w_ar w1 (n_v vs 0) 97 = w_ar ws (n_v vs 0) 97 := by show v_ad (w_fd w1 _ _) = v_ad (w_fd ws _ _); rw [s1.2]
  have cr_0_97 : ta (w_ar ws (n_v vs 0) 97) = some 218 := tv_rg (th_fd hD hth r0 (g := GG_150) rfl (k := 97) (t := (2, 0, 0, [218])) rfl rfl)
  have ar_0_98_1 : w_ar w1 (n_v vs 0) 98 = w_ar ws (n_v vs 0) 98 := by show v_ad (w_fd w1 _ _) = v_ad (w_fd ws _ _); rw [s1.2]
  have cr_0_98 : ta (w_ar ws (n_v vs 0) 98) = some 219 := tv_rg (th_fd hD hth r0 (g := GG_150) rfl (k := 98) (t := (2, 0, 0, [219])) rfl rfl)
  have fi_0_5_1 : w_fi w1 (n_v vs 0) 5 = w_fi ws (n_v vs 0) 5 := by show v_iv (w_fd w1 _ _) = v_iv (w_fd ws _ _); rw [s1.2]
  have ad_11 : v_ad (n_v vs 11) = w_ar ws (n_v vs 0) 95 := (congrArg v_ad f20).trans ar_0_95_1
  have ad_6 : v_ad (n_v vs 6) = w_ar ws (n_v vs 0) 18 := (congrArg v_ad f24).trans ar_0_18_1
  rw [ar_0_97_1] at f16
  rw [ar_0_2_1] at f17
  rw [ar_0_97_1] at f18
  rw [ar_0_2_1] at f19
  rw [ad_6] at f22
  have h22 : v_iv (n_v vs 10) = w_ei w1 (w_ar ws (n_v vs 0) 18) (v_iv (n_v vs 9)) := f22
  rw [ar_0_2_1] at f23
  rw [ad_6] at f26
  have h26 : v_iv (n_v vs 8) = w_ei w1 (w_ar ws (n_v vs 0) 18) (v_iv (n_v vs 7)) := f26
  rw [ar_0_2_1] at f27
  rw [ar_0_2_1] at f29
  rw [fi_0_5_1] at f29
  rw [ar_0_2_1] at f30
  rw [fi_0_5_1] at f30
  rw [ar_0_2_1] at f31
  rw [ar_0_2_1] at f32
  rw [ar_0_18_1] at f32
  rw [ar_0_2_1] at f33
  rw [ar_0_18_1] at f33
  rw [ar_0_98_1] at f33
  rw [ar_0_2_1] at f34
  rw [ar_0_18_1] at f34
  rw [ar_0_95_1] at f34
  rw [ar_0_97_1] at f34
  rw [ar_0_97_1] at f35
  rw [ar_0_98_1] at f35
  have fe_0_5_1 : w_fi ws (n_v vs 0) 5 = w_fi w1 (n_v vs 0) 5 := congrArg v_iv (s1.2 _ _)
  have fe_0_99_1 : w_fi ws (n_v vs 0) 99 = w_fi w1 (n_v vs 0) 99 := congrArg v_iv (s1.2 _ _)
  have hE_0_2_1 : ∀ j : Int, w_ei ws (w_ar ws (n_v vs 0) 2) j = w_ei w1 (w_ar ws (n_v vs 0) 2) j := fun j => by unfold w_ei; rw [s1.1, if_neg (fun e => by have e1 := e.1; rw [← e1] at r11; rw [cr_0_2] at r11; exact absurd (Option.some.inj r11) (by decide))]
  have hE_0_18_1 : ∀ j : Int, w_ei ws (w_ar ws (n_v vs 0) 18) j = w_ei w1 (w_ar ws (n_v vs 0) 18) j := fun j => by unfold w_ei; rw [s1.1, if_neg (fun e => by have e1 := e.1; rw [← e1] at r11; rw [cr_0_18] at r11; exact absurd (Option.some.inj r11) (by decide))]
  have hK_0_18 : ∀ j : Int, 0 ≤ j → j < 24 → (-1) ≤ w_ei ws (w_ar ws (n_v vs 0) 18) j ∧ w_ei ws (w_ar ws (n_v vs 0) 18) j ≤ 23 := fun j h0 h1 => th_el hD hth cr_0_18 (kd := 0) (n := 24) (m := 24) (lo := (-1)) (hi := 23) (rs := []) (L := []) rfl (by decide) (j := j.toNat) (by omega)
  have hE_0_95_1 : ∀ j : Int, 0 ≤ j → (j = v_iv (n_v vs 4) → w_ei ws (w_ar ws (n_v vs 0) 95) j = v_iv (n_v vs 16)) ∧ (j ≠ v_iv (n_v vs 4) → w_ei ws (w_ar ws (n_v vs 0) 95) j = w_ei w1 (w_ar ws (n_v vs 0) 95) j) := fun j hj => ⟨fun h => by unfold w_ei; rw [s1.1, if_pos ⟨ad_11.symm, by rw [h]⟩], fun h => by unfold w_ei; rw [s1.1, if_neg (fun e => h (by have := e.2; omega))]⟩
  have hK_0_95 : ∀ j : Int, 0 ≤ j → j < 48 → 0 ≤ w_ei ws (w_ar ws (n_v vs 0) 95) j ∧ w_ei ws (w_ar ws (n_v vs 0) 95) j ≤ 1 := fun j h0 h1 => th_el hD hth cr_0_95 (kd := 2) (n := 48) (m := 48) (lo := 0) (hi := 1) (rs := []) (L := []) rfl (by decide) (j := j.toNat) (by omega)
  have hE_0_97_1 : ∀ j : Int, w_ei ws (w_ar ws (n_v vs 0) 97) j = w_ei w1 (w_ar ws (n_v vs 0) 97) j := fun j => by unfold w_ei; rw [s1.1, if_neg (fun e => by have e1 := e.1; rw [← e1] at r11; rw [cr_0_97] at r11; exact absurd (Option.some.inj r11) (by decide))]
  have hK_0_97 : ∀ j : Int, 0 ≤ j → j < 26 → 0 ≤ w_ei ws (w_ar ws (n_v vs 0) 97) j ∧ w_ei ws (w_ar ws (n_v vs 0) 97) j ≤ 25 := fun j h0 h1 => th_el hD hth cr_0_97 (kd := 0) (n := 26) (m := 26) (lo := 0) (hi := 25) (rs := []) (L := []) rfl (by decide) (j := j.toNat) (by omega)
  have hE_0_98_1 : ∀ j : Int, w_ei ws (w_ar ws (n_v vs 0) 98) j = w_ei w1 (w_ar ws (n_v vs 0) 98) j := fun j => by unfold w_ei; rw [s1.1, if_neg (fun e => by have e1 := e.1; rw [← e1] at r11; rw [cr_0_98] at r11; exact absurd (Option.some.inj r11) (by decide))]
  have hK_0_98 : ∀ j : Int, 0 ≤ j → j < 26 → 0 ≤ w_ei ws (w_ar ws (n_v vs 0) 98) j ∧ w_ei ws (w_ar ws (n_v vs 0) 98) j ≤ 25 := fun j h0 h1 => th_el hD hth cr_0_98 (kd := 0) (n := 26) (m := 26) (lo := 0) (hi := 25) (rs := []) (L := []) rfl (by decide) (j := j.toNat) (by omega)
  have kz_0_99 : 0 ≤ w_fi ws (n_v vs 0) 99 ∧ w_fi ws (n_v vs 0) 99 ≤ 26 := tv_rng (th_fd hD hth r0 (g := GG_150) rfl (k := 99) (t := (0, 0, 26, [])) rfl rfl)
  have nf0 : fc_1 PRD (20, [1, 3, 17], [60, 2, 4, 289, 5, 99, 2, 18, 95, 97]) ws (vs) := by
    refine ⟨fun n hn => ?_, ?_⟩
    · have hn : n ∈ [1, 3, 17] := hn
      rw [hl]
      simp only [List.mem_cons, List.not_mem_nil, or_false] at hn
      show n < 18; omega
    · show TEJ (w_fi ws (n_v vs 1) 5) (w_fi ws (n_v vs 1) 99) (w_ei ws (w_ar ws (n_v vs 1) 2)) (w_ei ws (w_ar ws (n_v vs 1) 18)) (w_ei ws (w_ar ws (n_v vs 1) 95)) (w_ei ws (w_ar ws (n_v vs 1) 97)) (v_iv (n_v vs 3)) (v_iv (n_v vs 17))
      rw [q1]
      exact vc_Mo_turnEdges_16_0 (v_iv (n_v vs 2)) (v_iv (n_v vs 3)) (v_iv (n_v vs 4)) (v_iv (n_v vs 5)) (v_iv (n_v vs 7)) (v_iv (n_v vs 8)) (v_iv (n_v vs 9)) (v_iv (n_v vs 10)) (v_iv (n_v vs 12)) (v_iv (n_v vs 13)) (v_iv (n_v vs 14)) (v_iv (n_v vs 15)) (v_iv (n_v vs 16)) (v_iv (n_v vs 17)) (w_ei ws (w_ar ws (n_v vs 0) 97)) (w_fi ws (n_v vs 0) 99) (w_ei ws (w_ar ws (n_v vs 0) 2)) (w_fi ws (n_v vs 0) 5) (w_ei ws (w_ar ws (n_v vs 0) 18)) (w_ei ws (w_ar ws (n_v vs 0) 98)) (w_ei w1 (w_ar ws (n_v vs 0) 97)) (w_fi w1 (n_v vs 0) 99) (w_ei w1 (w_ar ws (n_v vs 0) 2)) (w_fi w1 (n_v vs 0) 5) (w_ei w1 (w_ar ws (n_v vs 0) 18)) (w_ei w1 (w_ar ws (n_v vs 0) 98)) (w_ei w1 (w_ar ws (n_v vs 0) 95)) (w_ei ws (w_ar ws (n_v vs 0) 95)) k2 k3 k4 k5 k7 k8 k9 k10 k12 k13 k14 k15 k16 k17 d0 d1 d2 d3 d4 d5 d6 f0 f1 f2 f3 f4 f5 f6 f7 f8 f9 f10 f11 f12 f15 f16 f17 f18 f19 f21 h22 f23 f25 h26 f27 f28 f29 f30 f31 f32 f33 f34 f35 fe_0_5_1 fe_0_99_1 hE_0_2_1 hE_0_18_1 hK_0_18 hE_0_95_1 hK_0_95 hE_0_97_1 hK_0_97 hE_0_98_1 hK_0_98 kz_0_99
  refine ⟨(fun _ h => (by cases h)), [], trivial, ?_, (fun _ h => (by cases h))⟩
  rw [List.append_nil]
  exact List.forall_mem_cons.mpr ⟨⟨show (20 : Nat) < 100 from by decide, nf0⟩, (fun _ h => (by cases h))⟩
def n_Mo_turnEdges_an : List an_T := [(8, [(0, (2, 0, 0, [150])), (1, (0, 0, 24, [])), (2, (0, 0, 48, []))], [], (0, 0), [(0, 0, 99992), (1, 3, 48), (0, 0, 100000), (0, 0, 0), (0, 0, 0)], [(2, 3, -1000000000000, 24)], [], [(2, 0, 0, [150])], 0, [], [(20, [1], [60, 1, 1, 122, 5, 2]), (20, [1, 2], [60, 1, 2, 282, 5, 2, 18]), (20, [1, 3], [60, 0, 1, 285, 95]), (24, [0, 1], [])]), (31, [(0, (2, 0, 0, [150])), (1, (0, 0, 24, [])), (2, (0, 0, 24, []))], [], (0, 0), [(0, 0, 99969), (1, 3, 24), (0, 0, 100000), (0, 0, 0), (0, 0, 0)], [(2, 3, -1000000000000, 24), (2, 4, -1000000000000, 24), (3, 2, -1000000000000, 0), (4, 2, -1000000000000, 26), (4, 3, -1000000000000, 26)], [((0, 99), (0, 0, 26, []))], [(2, 0, 0, [150])], 0, [], [(20, [1], [60, 1, 1, 122, 5, 2]), (20, [1, 2], [60, 1, 2, 282, 5, 2, 18]), (20, [1, 3], [60, 1, 3, 286, 5, 2, 18, 95]), (24, [0, 1], [])]), (43, [(0, (2, 0, 0, [150])), (1, (0, 1, 24, [])), (2, (0, 0, 23, [])), (3, (0, 0, 24, []))], [], (0, 0), [(0, 0, 99969), (1, 3, 24), (0, 0, 99957), (1, 4, 24), (0, 0, 100000)], [(2, 3, -1000000000000, 24), (2, 4, -1000000000000, 24), (2, 5, -1000000000000, 24), (3, 2, -1000000000000, -1), (5, 4, -1000000000000, 0)], [((0, 99), (0, 0, 24, []))], [(2, 0, 0, [150])], 0, [], [(20, [1], [60, 1, 1, 122, 5, 2]), (20, [1, 2], [60, 1, 2, 282, 5, 2, 18]), (20, [1, 3], [60, 1, 3, 286, 5, 2, 18, 95]), (20, [1, 4], [60, 1, 1, 259, 99, 98]), (20, [1], [60, 2, 2, 272, 99, 5, 98, 2]), (20, [1, 3, 4], [60, 1, 2, 287, 99, 98, 18]), (20, [1, 4], [30, 0, 1, 1, 99, -1, 0, 0]), (24, [0, 1], [])]), (123, [(0, (2, 0, 0, [150])), (1, (0, 1, 24, [])), (2, (0, 0, 23, [])), (3, (0, 0, 48, []))], [], (0, 0), [(0, 0, 99969), (1, 3, 24), (0, 0, 99877), (1, 4, 48), (0, 0, 100000)], [(2, 3, -1000000000000, 24), (2, 4, -1000000000000, 24), (3, 2, -1000000000000, -1)], [], [(2, 0, 0, [150])], 0, [], [(20, [1], [60, 1, 1, 122, 5, 2]), (20, [1, 2], [60, 1, 2, 282, 5, 2, 18]), (20, [1, 3], [60, 2, 3, 288, 5, 99, 2, 98, 18]), (20, [1, 3, 4], [60, 2, 4, 289, 5, 99, 2, 18, 95, 97]), (20, [1], [60, 1, 2, 269, 99, 97, 98]), (24, [0, 1], [])])]
def t_Mo_turnEdges_ct : ct_L := [(1, 394, e_Mo_tail), (1, 398, e_Mo_head), (1, 401, e_Mo_edges), (1, 475, e_Mo_nodes), (1, 719, e_Mo_strong), (1, 798, e_Mo_bestOrder), (1, 801, e_Mo_greedyOrder), (1, 804, e_Mo_placeIn)]
set_option maxRecDepth 100000 in
theorem c_Mo_turnEdges {l : Launch} {D : va_G} {kA : Nat → ClassId} (h_Mo_bestOrder : ct_ok PRD l D kA GG y_Mo_bestOrder z_Mo_bestOrder e_Mo_bestOrder) (h_Mo_edges : ct_ok PRD l D kA GG y_Mo_edges z_Mo_edges e_Mo_edges) (h_Mo_greedyOrder : ct_ok PRD l D kA GG y_Mo_greedyOrder z_Mo_greedyOrder e_Mo_greedyOrder) (h_Mo_head : ct_ok PRD l D kA GG y_Mo_head z_Mo_head e_Mo_head) (h_Mo_nodes : ct_ok PRD l D kA GG y_Mo_nodes z_Mo_nodes e_Mo_nodes) (h_Mo_placeIn : ct_ok PRD l D kA GG y_Mo_placeIn z_Mo_placeIn e_Mo_placeIn) (h_Mo_strong : ct_ok PRD l D kA GG y_Mo_strong z_Mo_strong e_Mo_strong) (h_Mo_tail : ct_ok PRD l D kA GG y_Mo_tail z_Mo_tail e_Mo_tail) : ct_ok PRD l D kA GG y_Mo_turnEdges z_Mo_turnEdges e_Mo_turnEdges := chk_all_ok (FT := [(35, 13, 18), (210, 13, 95), (219, 13, 98), (795, 13, 99)]) (PT := [(795, 13, 99, .int)]) (CT := t_Mo_turnEdges_ct) (KT := []) (NT := []) (AN := n_Mo_turnEdges_an) (OT := [o_Mo_turnEdges_0, o_Mo_turnEdges_1, o_Mo_turnEdges_2, o_Mo_turnEdges_3, o_Mo_turnEdges_4, o_Mo_turnEdges_5, o_Mo_turnEdges_6, o_Mo_turnEdges_7, o_Mo_turnEdges_8, o_Mo_turnEdges_9, o_Mo_turnEdges_10, o_Mo_turnEdges_11, o_Mo_turnEdges_12, o_Mo_turnEdges_13, o_Mo_turnEdges_14, o_Mo_turnEdges_15, o_Mo_turnEdges_16]) 5 496 (List.forall_mem_cons.mpr ⟨oo_Mo_turnEdges_0, List.forall_mem_cons.mpr ⟨oo_Mo_turnEdges_1, List.forall_mem_cons.mpr ⟨oo_Mo_turnEdges_2, List.forall_mem_cons.mpr ⟨oo_Mo_turnEdges_3, List.forall_mem_cons.mpr ⟨oo_Mo_turnEdges_4, List.forall_mem_cons.mpr ⟨oo_Mo_turnEdges_5, List.forall_mem_cons.mpr ⟨oo_Mo_turnEdges_6, List.forall_mem_cons.mpr ⟨oo_Mo_turnEdges_7, List.forall_mem_cons.mpr ⟨oo_Mo_turnEdges_8, List.forall_mem_cons.mpr ⟨oo_Mo_turnEdges_9, List.forall_mem_cons.mpr ⟨oo_Mo_turnEdges_10, List.forall_mem_cons.mpr ⟨oo_Mo_turnEdges_11, List.forall_mem_cons.mpr ⟨oo_Mo_turnEdges_12, List.forall_mem_cons.mpr ⟨oo_Mo_turnEdges_13, List.forall_mem_cons.mpr ⟨oo_Mo_turnEdges_14, List.forall_mem_cons.mpr ⟨oo_Mo_turnEdges_15, List.forall_mem_cons.mpr ⟨oo_Mo_turnEdges_16, List.forall_mem_nil _⟩⟩⟩⟩⟩⟩⟩⟩⟩⟩⟩⟩⟩⟩⟩⟩⟩) (by decide +kernel) ⟨List.forall_mem_cons.mpr ⟨gf_Mo_35, List.forall_mem_cons.mpr ⟨gf_Mo_210, List.forall_mem_cons.mpr ⟨gf_Mo_219, List.forall_mem_cons.mpr ⟨gf_Mo_795, List.forall_mem_nil _⟩⟩⟩⟩, List.forall_mem_cons.mpr ⟨pf_Mo_795, List.forall_mem_nil _⟩, List.forall_mem_cons.mpr ⟨cl_virtual (y := y_Mo_tail) (ci := 13) rfl rfl ⟨_, _, rfl⟩ (by decide +kernel) h_Mo_tail wm_3045 wm_9 wm_3042 wm_3044 wv_13_8 ⟨by decide, by decide, by decide +kernel⟩ (by decide), List.forall_mem_cons.mpr ⟨cl_virtual (y := y_Mo_head) (ci := 13) rfl rfl ⟨_, _, rfl⟩ (by decide +kernel) h_Mo_head wm_3049 wm_9 wm_3046 wm_3048 wv_13_9 ⟨by decide, by decide, by decide +kernel⟩ (by decide), List.forall_mem_cons.mpr ⟨cl_virtual (y := y_Mo_edges) (ci := 13) rfl rfl ⟨_, _, rfl⟩ (by decide +kernel) h_Mo_edges wm_3037 wm_9 wm_3034 wm_3036 wv_13_6 ⟨by decide, by decide, by decide +kernel⟩ (by decide), List.forall_mem_cons.mpr ⟨cl_virtual (y := y_Mo_nodes) (ci := 13) rfl rfl ⟨_, _, rfl⟩ (by decide +kernel) h_Mo_nodes wm_3025 wm_9 wm_3022 wm_3024 wv_13_3 ⟨by decide, by decide, by decide +kernel⟩ (by decide), List.forall_mem_cons.mpr ⟨cl_virtual (y := y_Mo_strong) (ci := 13) rfl rfl ⟨_, _, rfl⟩ (by decide +kernel) h_Mo_strong wm_3291 wm_9 wm_3288 wm_3290 wv_16_13 ⟨by decide, by decide, by decide +kernel⟩ (by decide), List.forall_mem_cons.mpr ⟨cl_virtual (y := y_Mo_bestOrder) (ci := 13) rfl rfl ⟨_, _, rfl⟩ (by decide +kernel) h_Mo_bestOrder wm_3379 wm_9 wm_3376 wm_3378 wv_17_13 ⟨by decide, by decide, by decide +kernel⟩ (by decide), List.forall_mem_cons.mpr ⟨cl_virtual (y := y_Mo_greedyOrder) (ci := 13) rfl rfl ⟨_, _, rfl⟩ (by decide +kernel) h_Mo_greedyOrder wm_3387 wm_9 wm_3384 wm_3386 wv_17_15 ⟨by decide, by decide, by decide +kernel⟩ (by decide), List.forall_mem_cons.mpr ⟨cl_virtual (y := y_Mo_placeIn) (ci := 13) rfl rfl ⟨_, _, rfl⟩ (by decide +kernel) h_Mo_placeIn wm_3391 wm_9 wm_3388 wm_3390 wv_18_0 ⟨by decide, by decide, by decide +kernel⟩ (by decide), List.forall_mem_nil _⟩⟩⟩⟩⟩⟩⟩⟩, List.forall_mem_nil _, List.forall_mem_nil _, GG_pl⟩ (by decide +kernel)
