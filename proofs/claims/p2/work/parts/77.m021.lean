def o_Mo_byteAt_0 : or_T := (22, 4, [(0, (2, 0, 0, [150])), (1, (0, 0, 2147483647, [])), (2, (0, 0, 2000, [])), (3, (0, -1, -1, []))], [(7, [1, 2], [3]), (9, [2, 0], [10])], [], [], [(20, [1, 0, 3], [50, 1, 1, 1010, 1001, 4, 11, 0, 6, 4, 2, 1, 0, 0, 1, 2, 1, 10, 1, 2, 1, 2, 9, 5, 3, 1, 1, 1, 0, 0, 256]), (20, [0, 1, 3], [50, 1, 0, 10, 4, 7, 0, 3, 2, 0, 10, 1, 1, 1, 2, 1, 2, 0, -1])], [], [(1, 2, 0, 4294967296)])
theorem oo_Mo_byteAt_0 {kA : Nat → ClassId} : or_ok kA GG o_Mo_byteAt_0 := by
  intro A ta ws vs hD hth hl hk hds hf
  have hl : vs.length = 4 := hl
  have hk : ∀ q ∈ ([(0, (2, 0, 0, [150])), (1, (0, 0, 2147483647, [])), (2, (0, 0, 2000, [])), (3, (0, -1, -1, []))] : List (Nat × tv_T)), tv_ok ta q.2 (n_v vs q.1) := hk
  obtain ⟨t0, hk⟩ := List.forall_mem_cons.mp hk
  have t0 : tv_ok ta (2, 0, 0, [150]) (n_v vs 0) := t0
  have r0 : ta (v_ad (n_v vs 0)) = some 150 := tv_rg t0
  obtain ⟨t1, hk⟩ := List.forall_mem_cons.mp hk
  have t1 : tv_ok ta (0, 0, 2147483647, []) (n_v vs 1) := t1
  have k1 : 0 ≤ v_iv (n_v vs 1) ∧ v_iv (n_v vs 1) ≤ 2147483647 := tv_rng t1
  obtain ⟨t2, hk⟩ := List.forall_mem_cons.mp hk
  have t2 : tv_ok ta (0, 0, 2000, []) (n_v vs 2) := t2
  have k2 : 0 ≤ v_iv (n_v vs 2) ∧ v_iv (n_v vs 2) ≤ 2000 := tv_rng t2
  obtain ⟨t3, hk⟩ := List.forall_mem_cons.mp hk
  have t3 : tv_ok ta (0, -1, -1, []) (n_v vs 3) := t3
  have k3 : (-1) ≤ v_iv (n_v vs 3) ∧ v_iv (n_v vs 3) ≤ (-1) := tv_rng t3
  have hds : ∀ q ∈ ([(1, 2, 0, 4294967296)] : List of_T), n_iv vs q.2.1 + q.2.2.1 ≤ n_iv vs q.1 ∧ n_iv vs q.1 ≤ n_iv vs q.2.1 + q.2.2.2 := hds
  obtain ⟨d0, hds⟩ := List.forall_mem_cons.mp hds
  have d0 : v_iv (n_v vs 2) + 0 ≤ v_iv (n_v vs 1) ∧ v_iv (n_v vs 1) ≤ v_iv (n_v vs 2) + 4294967296 := d0
  have hf : fc_ok [(7, [1, 2], [3]), (9, [2, 0], [10])] ta ws vs := hf
  obtain ⟨f0, hf⟩ := fc_un (show (7 : Nat) < 100 from by decide) hf
  have f0 : v_iv (n_v vs 2) ≤ v_iv (n_v vs 1) := f0
  obtain ⟨f1, hf⟩ := fc_un (show (9 : Nat) < 100 from by decide) hf
  have f1 : n_v vs 2 = w_fd ws (v_ad (n_v vs 0)) 10 := f1
  have cr_0_1 : ta (w_ar ws (n_v vs 0) 1) = some 151 := tv_rg (th_fd hD hth r0 (g := GG_150) rfl (k := 1) (t := (2, 0, 0, [151])) rfl rfl)
  have g1 : v_iv (n_v vs 2) = w_fi ws (n_v vs 0) 10 := congrArg v_iv f1
  have hK_0_1 : ∀ j : Int, 0 ≤ j → j < 2000 → (-128) ≤ w_ei ws (w_ar ws (n_v vs 0) 1) j ∧ w_ei ws (w_ar ws (n_v vs 0) 1) j ≤ 127 := fun j h0 h1 => th_el hD hth cr_0_1 (kd := 1) (n := 2000) (m := 2000) (lo := (-128)) (hi := 127) (rs := []) (L := []) rfl (by decide) (j := j.toNat) (by omega)
  have kz_0_10 : 0 ≤ w_fi ws (n_v vs 0) 10 ∧ w_fi ws (n_v vs 0) 10 ≤ 2000 := tv_rng (th_fd hD hth r0 (g := GG_150) rfl (k := 10) (t := (0, 0, 2000, [])) rfl rfl)
  have nf0 : fc_1 (20, [1, 0, 3], [50, 1, 1, 1010, 1001, 4, 11, 0, 6, 4, 2, 1, 0, 0, 1, 2, 1, 10, 1, 2, 1, 2, 9, 5, 3, 1, 1, 1, 0, 0, 256]) ws (vs) := by
    refine ⟨fun n hn => ?_, ?_⟩
    · have hn : n ∈ [1, 0, 3] := hn
      rw [hl]
      simp only [List.mem_cons, List.not_mem_nil, or_false] at hn
      show n < 4; omega
    · show ((v_iv (n_v vs 1) + 1) ≤ w_fi ws (n_v vs 0) 10) → (v_iv (n_v vs 3) = (w_ei ws (w_ar ws (n_v vs 0) 1) (v_iv (n_v vs 1)) % 256))
      first | omega | grind
  have nf1 : fc_1 (20, [0, 1, 3], [50, 1, 0, 10, 4, 7, 0, 3, 2, 0, 10, 1, 1, 1, 2, 1, 2, 0, -1]) ws (vs) := by
    refine ⟨fun n hn => ?_, ?_⟩
    · have hn : n ∈ [0, 1, 3] := hn
      rw [hl]
      simp only [List.mem_cons, List.not_mem_nil, or_false] at hn
      show n < 4; omega
    · show (w_fi ws (n_v vs 0) 10 ≤ v_iv (n_v vs 1)) → (v_iv (n_v vs 3) = (-1))
      first | omega | grind
  refine ⟨(fun _ h => (by cases h)), [], trivial, ?_, (fun _ h => (by cases h))⟩
  rw [List.append_nil]
  exact List.forall_mem_cons.mpr ⟨⟨show (20 : Nat) < 100 from by decide, nf0⟩, List.forall_mem_cons.mpr ⟨⟨show (20 : Nat) < 100 from by decide, nf1⟩, (fun _ h => (by cases h))⟩⟩
def o_Mo_byteAt_1 : or_T := (22, 7, [(0, (2, 0, 0, [150])), (1, (0, 0, 1999, [])), (2, (0, 1, 2000, [])), (3, (2, 0, 0, [151])), (4, (0, -128, 127, [])), (5, (0, 255, 255, [])), (6, (0, 0, 255, []))], [(16, [6, 4, 5], [0]), (10, [4, 3, 1], []), (9, [3, 0], [1]), (7, [1, 2], [2]), (9, [2, 0], [10])], [], [], [(20, [1, 0, 6], [50, 1, 1, 1010, 1001, 4, 11, 0, 6, 4, 2, 1, 0, 0, 1, 2, 1, 10, 1, 2, 1, 2, 9, 5, 3, 1, 1, 1, 0, 0, 256]), (20, [0, 1, 6], [50, 1, 0, 10, 4, 7, 0, 3, 2, 0, 10, 1, 1, 1, 2, 1, 2, 0, -1])], [], [(1, 2, -4294967296, -1)])
theorem oo_Mo_byteAt_1 {kA : Nat → ClassId} : or_ok kA GG o_Mo_byteAt_1 := by
  intro A ta ws vs hD hth hl hk hds hf
  have hl : vs.length = 7 := hl
  have hk : ∀ q ∈ ([(0, (2, 0, 0, [150])), (1, (0, 0, 1999, [])), (2, (0, 1, 2000, [])), (3, (2, 0, 0, [151])), (4, (0, -128, 127, [])), (5, (0, 255, 255, [])), (6, (0, 0, 255, []))] : List (Nat × tv_T)), tv_ok ta q.2 (n_v vs q.1) := hk
  obtain ⟨t0, hk⟩ := List.forall_mem_cons.mp hk
  have t0 : tv_ok ta (2, 0, 0, [150]) (n_v vs 0) := t0
  have r0 : ta (v_ad (n_v vs 0)) = some 150 := tv_rg t0
  obtain ⟨t1, hk⟩ := List.forall_mem_cons.mp hk
  have t1 : tv_ok ta (0, 0, 1999, []) (n_v vs 1) := t1
  have k1 : 0 ≤ v_iv (n_v vs 1) ∧ v_iv (n_v vs 1) ≤ 1999 := tv_rng t1
  obtain ⟨t2, hk⟩ := List.forall_mem_cons.mp hk
  have t2 : tv_ok ta (0, 1, 2000, []) (n_v vs 2) := t2
  have k2 : 1 ≤ v_iv (n_v vs 2) ∧ v_iv (n_v vs 2) ≤ 2000 := tv_rng t2
  obtain ⟨t3, hk⟩ := List.forall_mem_cons.mp hk
  have t3 : tv_ok ta (2, 0, 0, [151]) (n_v vs 3) := t3
  have r3 : ta (v_ad (n_v vs 3)) = some 151 := tv_rg t3
  obtain ⟨t4, hk⟩ := List.forall_mem_cons.mp hk
  have t4 : tv_ok ta (0, -128, 127, []) (n_v vs 4) := t4
  have k4 : (-128) ≤ v_iv (n_v vs 4) ∧ v_iv (n_v vs 4) ≤ 127 := tv_rng t4
  obtain ⟨t5, hk⟩ := List.forall_mem_cons.mp hk
  have t5 : tv_ok ta (0, 255, 255, []) (n_v vs 5) := t5
  have k5 : 255 ≤ v_iv (n_v vs 5) ∧ v_iv (n_v vs 5) ≤ 255 := tv_rng t5
  obtain ⟨t6, hk⟩ := List.forall_mem_cons.mp hk
  have t6 : tv_ok ta (0, 0, 255, []) (n_v vs 6) := t6
  have k6 : 0 ≤ v_iv (n_v vs 6) ∧ v_iv (n_v vs 6) ≤ 255 := tv_rng t6
  have hds : ∀ q ∈ ([(1, 2, -4294967296, -1)] : List of_T), n_iv vs q.2.1 + q.2.2.1 ≤ n_iv vs q.1 ∧ n_iv vs q.1 ≤ n_iv vs q.2.1 + q.2.2.2 := hds
  obtain ⟨d0, hds⟩ := List.forall_mem_cons.mp hds
  have d0 : v_iv (n_v vs 2) + (-4294967296) ≤ v_iv (n_v vs 1) ∧ v_iv (n_v vs 1) ≤ v_iv (n_v vs 2) + (-1) := d0
  have hf : fc_ok [(16, [6, 4, 5], [0]), (10, [4, 3, 1], []), (9, [3, 0], [1]), (7, [1, 2], [2]), (9, [2, 0], [10])] ta ws vs := hf
  obtain ⟨f0, hf⟩ := fc_un (show (16 : Nat) < 100 from by decide) hf
  have f0 : bv (v_iv (n_v vs 6)) = bv (v_iv (n_v vs 4)) &&& bv (v_iv (n_v vs 5)) := f0
  have fb0 : v_iv (n_v vs 6) = v_iv (n_v vs 4) % 256 := and255 f0 (by omega) (by omega) (by omega)
  obtain ⟨f1, hf⟩ := fc_un (show (10 : Nat) < 100 from by decide) hf
  have f1 : v_iv (n_v vs 4) = w_el ws (v_ad (n_v vs 3)) (v_iv (n_v vs 1)).toNat := f1
  obtain ⟨f2, hf⟩ := fc_un (show (9 : Nat) < 100 from by decide) hf
  have f2 : n_v vs 3 = w_fd ws (v_ad (n_v vs 0)) 1 := f2
  obtain ⟨f3, hf⟩ := fc_un (show (7 : Nat) < 100 from by decide) hf
  have f3 : v_iv (n_v vs 1) < v_iv (n_v vs 2) := f3
  obtain ⟨f4, hf⟩ := fc_un (show (9 : Nat) < 100 from by decide) hf
  have f4 : n_v vs 2 = w_fd ws (v_ad (n_v vs 0)) 10 := f4
  have cr_0_1 : ta (w_ar ws (n_v vs 0) 1) = some 151 := tv_rg (th_fd hD hth r0 (g := GG_150) rfl (k := 1) (t := (2, 0, 0, [151])) rfl rfl)
  have ad_3 : v_ad (n_v vs 3) = w_ar ws (n_v vs 0) 1 := congrArg v_ad f2
  rw [ad_3] at f1
  have h1 : v_iv (n_v vs 4) = w_ei ws (w_ar ws (n_v vs 0) 1) (v_iv (n_v vs 1)) := f1
  have g4 : v_iv (n_v vs 2) = w_fi ws (n_v vs 0) 10 := congrArg v_iv f4
  have br_0_1_1_0 : w_ei ws (w_ar ws (n_v vs 0) 1) (v_iv (n_v vs 1)) = w_el ws (w_ar ws (n_v vs 0) 1) (v_iv (n_v vs 1)).toNat := rfl
  have hK_0_1 : ∀ j : Int, 0 ≤ j → j < 2000 → (-128) ≤ w_ei ws (w_ar ws (n_v vs 0) 1) j ∧ w_ei ws (w_ar ws (n_v vs 0) 1) j ≤ 127 := fun j h0 h1 => th_el hD hth cr_0_1 (kd := 1) (n := 2000) (m := 2000) (lo := (-128)) (hi := 127) (rs := []) (L := []) rfl (by decide) (j := j.toNat) (by omega)
  have kz_0_10 : 0 ≤ w_fi ws (n_v vs 0) 10 ∧ w_fi ws (n_v vs 0) 10 ≤ 2000 := tv_rng (th_fd hD hth r0 (g := GG_150) rfl (k := 10) (t := (0, 0, 2000, [])) rfl rfl)
  have nf0 : fc_1 (20, [1, 0, 6], [50, 1, 1, 1010, 1001, 4, 11, 0, 6, 4, 2, 1, 0, 0, 1, 2, 1, 10, 1, 2, 1, 2, 9, 5, 3, 1, 1, 1, 0, 0, 256]) ws (vs) := by
    refine ⟨fun n hn => ?_, ?_⟩
    · have hn : n ∈ [1, 0, 6] := hn
      rw [hl]
      simp only [List.mem_cons, List.not_mem_nil, or_false] at hn
      show n < 7; omega
    · show ((v_iv (n_v vs 1) + 1) ≤ w_fi ws (n_v vs 0) 10) → (v_iv (n_v vs 6) = (w_ei ws (w_ar ws (n_v vs 0) 1) (v_iv (n_v vs 1)) % 256))
      first | omega | grind
  have nf1 : fc_1 (20, [0, 1, 6], [50, 1, 0, 10, 4, 7, 0, 3, 2, 0, 10, 1, 1, 1, 2, 1, 2, 0, -1]) ws (vs) := by
    refine ⟨fun n hn => ?_, ?_⟩
    · have hn : n ∈ [0, 1, 6] := hn
      rw [hl]
      simp only [List.mem_cons, List.not_mem_nil, or_false] at hn
      show n < 7; omega
    · show (w_fi ws (n_v vs 0) 10 ≤ v_iv (n_v vs 1)) → (v_iv (n_v vs 6) = (-1))
      first | omega | grind
  refine ⟨(fun _ h => (by cases h)), [], trivial, ?_, (fun _ h => (by cases h))⟩
  rw [List.append_nil]
  exact List.forall_mem_cons.mpr ⟨⟨show (20 : Nat) < 100 from by decide, nf0⟩, List.forall_mem_cons.mpr ⟨⟨show (20 : Nat) < 100 from by decide, nf1⟩, (fun _ h => (by cases h))⟩⟩
def n_Mo_byteAt_an : List an_T := []
def t_Mo_byteAt_ct : ct_L := []
set_option maxRecDepth 100000 in
theorem c_Mo_byteAt {l : Launch} {D : va_G} {kA : Nat → ClassId} : ct_ok l D kA GG y_Mo_byteAt z_Mo_byteAt e_Mo_byteAt := chk_all_ok (FT := [(9, 13, 1), (419, 13, 10)]) (PT := []) (CT := t_Mo_byteAt_ct) (KT := []) (NT := []) (AN := n_Mo_byteAt_an) (OT := [o_Mo_byteAt_0, o_Mo_byteAt_1]) 0 200 (List.forall_mem_cons.mpr ⟨oo_Mo_byteAt_0, List.forall_mem_cons.mpr ⟨oo_Mo_byteAt_1, List.forall_mem_nil _⟩⟩) (by decide +kernel) ⟨List.forall_mem_cons.mpr ⟨gf_Mo_9, List.forall_mem_cons.mpr ⟨gf_Mo_419, List.forall_mem_nil _⟩⟩, List.forall_mem_nil _, List.forall_mem_nil _, List.forall_mem_nil _, List.forall_mem_nil _, GG_pl⟩ (by decide +kernel)
def o_Mo_head_0 : or_T := (15, 8, [(0, (2, 0, 0, [150])), (1, (0, 0, 47, [])), (2, (2, 0, 0, [152])), (3, (0, 0, 66297, [])), (4, (0, 315, 315, [])), (5, (0, 315, 66612, [])), (6, (0, 315, 66659, [])), (7, (0, 0, 23, []))], [(10, [7, 2, 6], []), (1, [6, 5, 1], []), (1, [5, 3, 4], []), (9, [3, 0], [5]), (9, [2, 0], [2])], [], [], [(20, [7, 0, 1], [50, 1, 1, 1005, 1002, 1, 2, 1, 0, 3, 1, 2, 4, 7, 4, 3, 2, 1, 5, 0, 315, 1, 2])], [], [(6, 1, 315, 66612), (6, 5, 0, 47), (6, 3, 315, 362), (5, 3, 315, 315)])
theorem oo_Mo_head_0 {kA : Nat → ClassId} : or_ok kA GG o_Mo_head_0 := by
  intro A ta ws vs hD hth hl hk hds hf
  have hl : vs.length = 8 := hl
  have hk : ∀ q ∈ ([(0, (2, 0, 0, [150])), (1, (0, 0, 47, [])), (2, (2, 0, 0, [152])), (3, (0, 0, 66297, [])), (4, (0, 315, 315, [])), (5, (0, 315, 66612, [])), (6, (0, 315, 66659, [])), (7, (0, 0, 23, []))] : List (Nat × tv_T)), tv_ok ta q.2 (n_v vs q.1) := hk
  obtain ⟨t0, hk⟩ := List.forall_mem_cons.mp hk
  have t0 : tv_ok ta (2, 0, 0, [150]) (n_v vs 0) := t0
  have r0 : ta (v_ad (n_v vs 0)) = some 150 := tv_rg t0
  obtain ⟨t1, hk⟩ := List.forall_mem_cons.mp hk
  have t1 : tv_ok ta (0, 0, 47, []) (n_v vs 1) := t1
  have k1 : 0 ≤ v_iv (n_v vs 1) ∧ v_iv (n_v vs 1) ≤ 47 := tv_rng t1
  obtain ⟨t2, hk⟩ := List.forall_mem_cons.mp hk
  have t2 : tv_ok ta (2, 0, 0, [152]) (n_v vs 2) := t2
  have r2 : ta (v_ad (n_v vs 2)) = some 152 := tv_rg t2
  obtain ⟨t3, hk⟩ := List.forall_mem_cons.mp hk
  have t3 : tv_ok ta (0, 0, 66297, []) (n_v vs 3) := t3
  have k3 : 0 ≤ v_iv (n_v vs 3) ∧ v_iv (n_v vs 3) ≤ 66297 := tv_rng t3
  obtain ⟨t4, hk⟩ := List.forall_mem_cons.mp hk
  have t4 : tv_ok ta (0, 315, 315, []) (n_v vs 4) := t4
  have k4 : 315 ≤ v_iv (n_v vs 4) ∧ v_iv (n_v vs 4) ≤ 315 := tv_rng t4
  obtain ⟨t5, hk⟩ := List.forall_mem_cons.mp hk
  have t5 : tv_ok ta (0, 315, 66612, []) (n_v vs 5) := t5
  have k5 : 315 ≤ v_iv (n_v vs 5) ∧ v_iv (n_v vs 5) ≤ 66612 := tv_rng t5
  obtain ⟨t6, hk⟩ := List.forall_mem_cons.mp hk
  have t6 : tv_ok ta (0, 315, 66659, []) (n_v vs 6) := t6
  have k6 : 315 ≤ v_iv (n_v vs 6) ∧ v_iv (n_v vs 6) ≤ 66659 := tv_rng t6
  obtain ⟨t7, hk⟩ := List.forall_mem_cons.mp hk
  have t7 : tv_ok ta (0, 0, 23, []) (n_v vs 7) := t7
  have k7 : 0 ≤ v_iv (n_v vs 7) ∧ v_iv (n_v vs 7) ≤ 23 := tv_rng t7
  have hds : ∀ q ∈ ([(6, 1, 315, 66612), (6, 5, 0, 47), (6, 3, 315, 362), (5, 3, 315, 315)] : List of_T), n_iv vs q.2.1 + q.2.2.1 ≤ n_iv vs q.1 ∧ n_iv vs q.1 ≤ n_iv vs q.2.1 + q.2.2.2 := hds
  obtain ⟨d0, hds⟩ := List.forall_mem_cons.mp hds
  have d0 : v_iv (n_v vs 1) + 315 ≤ v_iv (n_v vs 6) ∧ v_iv (n_v vs 6) ≤ v_iv (n_v vs 1) + 66612 := d0
  obtain ⟨d1, hds⟩ := List.forall_mem_cons.mp hds
  have d1 : v_iv (n_v vs 5) + 0 ≤ v_iv (n_v vs 6) ∧ v_iv (n_v vs 6) ≤ v_iv (n_v vs 5) + 47 := d1
  obtain ⟨d2, hds⟩ := List.forall_mem_cons.mp hds
  have d2 : v_iv (n_v vs 3) + 315 ≤ v_iv (n_v vs 6) ∧ v_iv (n_v vs 6) ≤ v_iv (n_v vs 3) + 362 := d2
  obtain ⟨d3, hds⟩ := List.forall_mem_cons.mp hds
  have d3 : v_iv (n_v vs 3) + 315 ≤ v_iv (n_v vs 5) ∧ v_iv (n_v vs 5) ≤ v_iv (n_v vs 3) + 315 := d3
  have hf : fc_ok [(10, [7, 2, 6], []), (1, [6, 5, 1], []), (1, [5, 3, 4], []), (9, [3, 0], [5]), (9, [2, 0], [2])] ta ws vs := hf
  obtain ⟨f0, hf⟩ := fc_un (show (10 : Nat) < 100 from by decide) hf
  have f0 : v_iv (n_v vs 7) = w_el ws (v_ad (n_v vs 2)) (v_iv (n_v vs 6)).toNat := f0
  obtain ⟨f1, hf⟩ := fc_un (show (1 : Nat) < 100 from by decide) hf
  have f1 : v_iv (n_v vs 6) = v_iv (n_v vs 5) + v_iv (n_v vs 1) := f1
  obtain ⟨f2, hf⟩ := fc_un (show (1 : Nat) < 100 from by decide) hf
  have f2 : v_iv (n_v vs 5) = v_iv (n_v vs 3) + v_iv (n_v vs 4) := f2
  obtain ⟨f3, hf⟩ := fc_un (show (9 : Nat) < 100 from by decide) hf
  have f3 : n_v vs 3 = w_fd ws (v_ad (n_v vs 0)) 5 := f3
  obtain ⟨f4, hf⟩ := fc_un (show (9 : Nat) < 100 from by decide) hf
  have f4 : n_v vs 2 = w_fd ws (v_ad (n_v vs 0)) 2 := f4
  have cr_0_2 : ta (w_ar ws (n_v vs 0) 2) = some 152 := tv_rg (th_fd hD hth r0 (g := GG_150) rfl (k := 2) (t := (2, 0, 0, [152])) rfl rfl)
  have ad_2 : v_ad (n_v vs 2) = w_ar ws (n_v vs 0) 2 := congrArg v_ad f4
  rw [ad_2] at f0
  have h0 : v_iv (n_v vs 7) = w_ei ws (w_ar ws (n_v vs 0) 2) (v_iv (n_v vs 6)) := f0
  have g3 : v_iv (n_v vs 3) = w_fi ws (n_v vs 0) 5 := congrArg v_iv f3
  have br_0_2_6_0 : w_ei ws (w_ar ws (n_v vs 0) 2) (v_iv (n_v vs 6)) = w_el ws (w_ar ws (n_v vs 0) 2) (v_iv (n_v vs 6)).toNat := rfl
  have nf0 : fc_1 (20, [7, 0, 1], [50, 1, 1, 1005, 1002, 1, 2, 1, 0, 3, 1, 2, 4, 7, 4, 3, 2, 1, 5, 0, 315, 1, 2]) ws (vs) := by
    refine ⟨fun n hn => ?_, ?_⟩
    · have hn : n ∈ [7, 0, 1] := hn
      rw [hl]
      simp only [List.mem_cons, List.not_mem_nil, or_false] at hn
      show n < 8; omega
    · show v_iv (n_v vs 7) = w_ei ws (w_ar ws (n_v vs 0) 2) (((w_fi ws (n_v vs 0) 5 + 315) + v_iv (n_v vs 1)))
      first | omega | grind
  refine ⟨(fun _ h => (by cases h)), [], trivial, ?_, (fun _ h => (by cases h))⟩
  rw [List.append_nil]
  exact List.forall_mem_cons.mpr ⟨⟨show (20 : Nat) < 100 from by decide, nf0⟩, (fun _ h => (by cases h))⟩
def n_Mo_head_an : List an_T := []
def t_Mo_head_ct : ct_L := []
set_option maxRecDepth 100000 in
theorem c_Mo_head {l : Launch} {D : va_G} {kA : Nat → ClassId} : ct_ok l D kA GG y_Mo_head z_Mo_head e_Mo_head := chk_all_ok (FT := [(16, 13, 2), (391, 13, 5)]) (PT := []) (CT := t_Mo_head_ct) (KT := []) (NT := []) (AN := n_Mo_head_an) (OT := [o_Mo_head_0]) 0 200 (List.forall_mem_cons.mpr ⟨oo_Mo_head_0, List.forall_mem_nil _⟩) (by decide +kernel) ⟨List.forall_mem_cons.mpr ⟨gf_Mo_16, List.forall_mem_cons.mpr ⟨gf_Mo_391, List.forall_mem_nil _⟩⟩, List.forall_mem_nil _, List.forall_mem_nil _, List.forall_mem_nil _, List.forall_mem_nil _, GG_pl⟩ (by decide +kernel)
def o_Mo_styleSign_0 : or_T := (40, 4, [(0, (2, 0, 0, [150])), (3, (0, 0, 0, []))], [], [], [], [(20, [3, 0], [50, 1, 1, 1158, 1160, 4, 6, 1, 2, 1, 0, 0, 1, 1, 6, 3, 1, 160, 2, 1, 158, 0, 3])], [], [])
theorem oo_Mo_styleSign_0 {kA : Nat → ClassId} : or_ok kA GG o_Mo_styleSign_0 := by
  intro A ta ws vs hD hth hl hk hds hf
  have hl : vs.length = 4 := hl
  have hk : ∀ q ∈ ([(0, (2, 0, 0, [150])), (3, (0, 0, 0, []))] : List (Nat × tv_T)), tv_ok ta q.2 (n_v vs q.1) := hk
  obtain ⟨t0, hk⟩ := List.forall_mem_cons.mp hk
  have t0 : tv_ok ta (2, 0, 0, [150]) (n_v vs 0) := t0
  have r0 : ta (v_ad (n_v vs 0)) = some 150 := tv_rg t0
  obtain ⟨t3, hk⟩ := List.forall_mem_cons.mp hk
  have t3 : tv_ok ta (0, 0, 0, []) (n_v vs 3) := t3
  have k3 : 0 ≤ v_iv (n_v vs 3) ∧ v_iv (n_v vs 3) ≤ 0 := tv_rng t3
  have cr_0_160 : ta (w_ar ws (n_v vs 0) 160) = some 259 := tv_rg (th_fd hD hth r0 (g := GG_150) rfl (k := 160) (t := (2, 0, 0, [259])) rfl rfl)
  have hK_0_160 : ∀ j : Int, 0 ≤ j → j < 2010 → 0 ≤ w_ei ws (w_ar ws (n_v vs 0) 160) j ∧ w_ei ws (w_ar ws (n_v vs 0) 160) j ≤ 4 := fun j h0 h1 => th_el hD hth cr_0_160 (kd := 0) (n := 2010) (m := 2010) (lo := 0) (hi := 4) (rs := []) (L := []) rfl (by decide) (j := j.toNat) (by omega)
  have kz_0_158 : 0 ≤ w_fi ws (n_v vs 0) 158 ∧ w_fi ws (n_v vs 0) 158 ≤ 2009 := tv_rng (th_fd hD hth r0 (g := GG_150) rfl (k := 158) (t := (0, 0, 2009, [])) rfl rfl)
  have nf0 : fc_1 (20, [3, 0], [50, 1, 1, 1158, 1160, 4, 6, 1, 2, 1, 0, 0, 1, 1, 6, 3, 1, 160, 2, 1, 158, 0, 3]) ws (vs) := by
    refine ⟨fun n hn => ?_, ?_⟩
    · have hn : n ∈ [3, 0] := hn
      rw [hl]
      simp only [List.mem_cons, List.not_mem_nil, or_false] at hn
      show n < 4; omega
    · show (v_iv (n_v vs 3) = 1) → (w_ei ws (w_ar ws (n_v vs 0) 160) (w_fi ws (n_v vs 0) 158) = 3)
      first | omega | grind
  refine ⟨(fun _ h => (by cases h)), [], trivial, ?_, (fun _ h => (by cases h))⟩
  rw [List.append_nil]
  exact List.forall_mem_cons.mpr ⟨⟨show (20 : Nat) < 100 from by decide, nf0⟩, (fun _ h => (by cases h))⟩
def o_Mo_styleSign_1 : or_T := (40, 8, [(0, (2, 0, 0, [150])), (3, (2, 0, 0, [259])), (4, (0, 0, 2009, [])), (5, (0, 0, 4, [])), (6, (0, 3, 3, [])), (7, (0, 0, 0, []))], [(7, [5, 6], [1]), (10, [5, 3, 4], []), (9, [4, 0], [158]), (9, [3, 0], [160])], [], [], [(20, [7, 0], [50, 1, 1, 1158, 1160, 4, 6, 1, 2, 1, 0, 0, 1, 1, 6, 3, 1, 160, 2, 1, 158, 0, 3])], [], [])
theorem oo_Mo_styleSign_1 {kA : Nat → ClassId} : or_ok kA GG o_Mo_styleSign_1 := by
  intro A ta ws vs hD hth hl hk hds hf
  have hl : vs.length = 8 := hl
  have hk : ∀ q ∈ ([(0, (2, 0, 0, [150])), (3, (2, 0, 0, [259])), (4, (0, 0, 2009, [])), (5, (0, 0, 4, [])), (6, (0, 3, 3, [])), (7, (0, 0, 0, []))] : List (Nat × tv_T)), tv_ok ta q.2 (n_v vs q.1) := hk
  obtain ⟨t0, hk⟩ := List.forall_mem_cons.mp hk
  have t0 : tv_ok ta (2, 0, 0, [150]) (n_v vs 0) := t0
  have r0 : ta (v_ad (n_v vs 0)) = some 150 := tv_rg t0
  obtain ⟨t3, hk⟩ := List.forall_mem_cons.mp hk
  have t3 : tv_ok ta (2, 0, 0, [259]) (n_v vs 3) := t3
  have r3 : ta (v_ad (n_v vs 3)) = some 259 := tv_rg t3
  obtain ⟨t4, hk⟩ := List.forall_mem_cons.mp hk
  have t4 : tv_ok ta (0, 0, 2009, []) (n_v vs 4) := t4
  have k4 : 0 ≤ v_iv (n_v vs 4) ∧ v_iv (n_v vs 4) ≤ 2009 := tv_rng t4
  obtain ⟨t5, hk⟩ := List.forall_mem_cons.mp hk
  have t5 : tv_ok ta (0, 0, 4, []) (n_v vs 5) := t5
  have k5 : 0 ≤ v_iv (n_v vs 5) ∧ v_iv (n_v vs 5) ≤ 4 := tv_rng t5
  obtain ⟨t6, hk⟩ := List.forall_mem_cons.mp hk
  have t6 : tv_ok ta (0, 3, 3, []) (n_v vs 6) := t6
  have k6 : 3 ≤ v_iv (n_v vs 6) ∧ v_iv (n_v vs 6) ≤ 3 := tv_rng t6
  obtain ⟨t7, hk⟩ := List.forall_mem_cons.mp hk
  have t7 : tv_ok ta (0, 0, 0, []) (n_v vs 7) := t7
  have k7 : 0 ≤ v_iv (n_v vs 7) ∧ v_iv (n_v vs 7) ≤ 0 := tv_rng t7
  have hf : fc_ok [(7, [5, 6], [1]), (10, [5, 3, 4], []), (9, [4, 0], [158]), (9, [3, 0], [160])] ta ws vs := hf
  obtain ⟨f0, hf⟩ := fc_un (show (7 : Nat) < 100 from by decide) hf
  have f0 : v_iv (n_v vs 5) ≠ v_iv (n_v vs 6) := f0
  obtain ⟨f1, hf⟩ := fc_un (show (10 : Nat) < 100 from by decide) hf
  have f1 : v_iv (n_v vs 5) = w_el ws (v_ad (n_v vs 3)) (v_iv (n_v vs 4)).toNat := f1
  obtain ⟨f2, hf⟩ := fc_un (show (9 : Nat) < 100 from by decide) hf
  have f2 : n_v vs 4 = w_fd ws (v_ad (n_v vs 0)) 158 := f2
  obtain ⟨f3, hf⟩ := fc_un (show (9 : Nat) < 100 from by decide) hf
  have f3 : n_v vs 3 = w_fd ws (v_ad (n_v vs 0)) 160 := f3
  have cr_0_160 : ta (w_ar ws (n_v vs 0) 160) = some 259 := tv_rg (th_fd hD hth r0 (g := GG_150) rfl (k := 160) (t := (2, 0, 0, [259])) rfl rfl)
  have ad_3 : v_ad (n_v vs 3) = w_ar ws (n_v vs 0) 160 := congrArg v_ad f3
  rw [ad_3] at f1
  have h1 : v_iv (n_v vs 5) = w_ei ws (w_ar ws (n_v vs 0) 160) (v_iv (n_v vs 4)) := f1
  have g2 : v_iv (n_v vs 4) = w_fi ws (n_v vs 0) 158 := congrArg v_iv f2
  have br_0_160_4_0 : w_ei ws (w_ar ws (n_v vs 0) 160) (v_iv (n_v vs 4)) = w_el ws (w_ar ws (n_v vs 0) 160) (v_iv (n_v vs 4)).toNat := rfl
  have hK_0_160 : ∀ j : Int, 0 ≤ j → j < 2010 → 0 ≤ w_ei ws (w_ar ws (n_v vs 0) 160) j ∧ w_ei ws (w_ar ws (n_v vs 0) 160) j ≤ 4 := fun j h0 h1 => th_el hD hth cr_0_160 (kd := 0) (n := 2010) (m := 2010) (lo := 0) (hi := 4) (rs := []) (L := []) rfl (by decide) (j := j.toNat) (by omega)
  have kz_0_158 : 0 ≤ w_fi ws (n_v vs 0) 158 ∧ w_fi ws (n_v vs 0) 158 ≤ 2009 := tv_rng (th_fd hD hth r0 (g := GG_150) rfl (k := 158) (t := (0, 0, 2009, [])) rfl rfl)
  have nf0 : fc_1 (20, [7, 0], [50, 1, 1, 1158, 1160, 4, 6, 1, 2, 1, 0, 0, 1, 1, 6, 3, 1, 160, 2, 1, 158, 0, 3]) ws (vs) := by
    refine ⟨fun n hn => ?_, ?_⟩
    · have hn : n ∈ [7, 0] := hn
      rw [hl]
      simp only [List.mem_cons, List.not_mem_nil, or_false] at hn
      show n < 8; omega
    · show (v_iv (n_v vs 7) = 1) → (w_ei ws (w_ar ws (n_v vs 0) 160) (w_fi ws (n_v vs 0) 158) = 3)
      first | omega | grind
  refine ⟨(fun _ h => (by cases h)), [], trivial, ?_, (fun _ h => (by cases h))⟩
  rw [List.append_nil]
  exact List.forall_mem_cons.mpr ⟨⟨show (20 : Nat) < 100 from by decide, nf0⟩, (fun _ h => (by cases h))⟩
def o_Mo_styleSign_2 : or_T := (40, 11, [(0, (2, 0, 0, [150])), (3, (2, 0, 0, [259])), (4, (0, 0, 2009, [])), (5, (0, 3, 3, [])), (6, (0, 3, 3, [])), (10, (0, 0, 0, []))], [(9, [4, 0], [158]), (7, [5, 6], [0]), (10, [5, 3, 4], []), (9, [3, 0], [160])], [], [], [(20, [10, 0], [50, 1, 1, 1158, 1160, 4, 6, 1, 2, 1, 0, 0, 1, 1, 6, 3, 1, 160, 2, 1, 158, 0, 3])], [], [])
theorem oo_Mo_styleSign_2 {kA : Nat → ClassId} : or_ok kA GG o_Mo_styleSign_2 := by
  intro A ta ws vs hD hth hl hk hds hf
  have hl : vs.length = 11 := hl
  have hk : ∀ q ∈ ([(0, (2, 0, 0, [150])), (3, (2, 0, 0, [259])), (4, (0, 0, 2009, [])), (5, (0, 3, 3, [])), (6, (0, 3, 3, [])), (10, (0, 0, 0, []))] : List (Nat × tv_T)), tv_ok ta q.2 (n_v vs q.1) := hk
  obtain ⟨t0, hk⟩ := List.forall_mem_cons.mp hk
  have t0 : tv_ok ta (2, 0, 0, [150]) (n_v vs 0) := t0
  have r0 : ta (v_ad (n_v vs 0)) = some 150 := tv_rg t0
  obtain ⟨t3, hk⟩ := List.forall_mem_cons.mp hk
  have t3 : tv_ok ta (2, 0, 0, [259]) (n_v vs 3) := t3
  have r3 : ta (v_ad (n_v vs 3)) = some 259 := tv_rg t3
  obtain ⟨t4, hk⟩ := List.forall_mem_cons.mp hk
  have t4 : tv_ok ta (0, 0, 2009, []) (n_v vs 4) := t4
  have k4 : 0 ≤ v_iv (n_v vs 4) ∧ v_iv (n_v vs 4) ≤ 2009 := tv_rng t4
  obtain ⟨t5, hk⟩ := List.forall_mem_cons.mp hk
  have t5 : tv_ok ta (0, 3, 3, []) (n_v vs 5) := t5
  have k5 : 3 ≤ v_iv (n_v vs 5) ∧ v_iv (n_v vs 5) ≤ 3 := tv_rng t5
  obtain ⟨t6, hk⟩ := List.forall_mem_cons.mp hk
  have t6 : tv_ok ta (0, 3, 3, []) (n_v vs 6) := t6
  have k6 : 3 ≤ v_iv (n_v vs 6) ∧ v_iv (n_v vs 6) ≤ 3 := tv_rng t6
  obtain ⟨t10, hk⟩ := List.forall_mem_cons.mp hk
  have t10 : tv_ok ta (0, 0, 0, []) (n_v vs 10) := t10
  have k10 : 0 ≤ v_iv (n_v vs 10) ∧ v_iv (n_v vs 10) ≤ 0 := tv_rng t10
  have hf : fc_ok [(9, [4, 0], [158]), (7, [5, 6], [0]), (10, [5, 3, 4], []), (9, [3, 0], [160])] ta ws vs := hf
  obtain ⟨f0, hf⟩ := fc_un (show (9 : Nat) < 100 from by decide) hf
  have f0 : n_v vs 4 = w_fd ws (v_ad (n_v vs 0)) 158 := f0
  obtain ⟨f1, hf⟩ := fc_un (show (7 : Nat) < 100 from by decide) hf
  have f1 : v_iv (n_v vs 5) = v_iv (n_v vs 6) := f1
  obtain ⟨f2, hf⟩ := fc_un (show (10 : Nat) < 100 from by decide) hf
  have f2 : v_iv (n_v vs 5) = w_el ws (v_ad (n_v vs 3)) (v_iv (n_v vs 4)).toNat := f2
  obtain ⟨f3, hf⟩ := fc_un (show (9 : Nat) < 100 from by decide) hf
  have f3 : n_v vs 3 = w_fd ws (v_ad (n_v vs 0)) 160 := f3
  have cr_0_160 : ta (w_ar ws (n_v vs 0) 160) = some 259 := tv_rg (th_fd hD hth r0 (g := GG_150) rfl (k := 160) (t := (2, 0, 0, [259])) rfl rfl)
  have ad_3 : v_ad (n_v vs 3) = w_ar ws (n_v vs 0) 160 := congrArg v_ad f3
  have g0 : v_iv (n_v vs 4) = w_fi ws (n_v vs 0) 158 := congrArg v_iv f0
  rw [ad_3] at f2
  have h2 : v_iv (n_v vs 5) = w_ei ws (w_ar ws (n_v vs 0) 160) (v_iv (n_v vs 4)) := f2
  have br_0_160_4_0 : w_ei ws (w_ar ws (n_v vs 0) 160) (v_iv (n_v vs 4)) = w_el ws (w_ar ws (n_v vs 0) 160) (v_iv (n_v vs 4)).toNat := rfl
  have hK_0_160 : ∀ j : Int, 0 ≤ j → j < 2010 → 0 ≤ w_ei ws (w_ar ws (n_v vs 0) 160) j ∧ w_ei ws (w_ar ws (n_v vs 0) 160) j ≤ 4 := fun j h0 h1 => th_el hD hth cr_0_160 (kd := 0) (n := 2010) (m := 2010) (lo := 0) (hi := 4) (rs := []) (L := []) rfl (by decide) (j := j.toNat) (by omega)
  have kz_0_158 : 0 ≤ w_fi ws (n_v vs 0) 158 ∧ w_fi ws (n_v vs 0) 158 ≤ 2009 := tv_rng (th_fd hD hth r0 (g := GG_150) rfl (k := 158) (t := (0, 0, 2009, [])) rfl rfl)
  have nf0 : fc_1 (20, [10, 0], [50, 1, 1, 1158, 1160, 4, 6, 1, 2, 1, 0, 0, 1, 1, 6, 3, 1, 160, 2, 1, 158, 0, 3]) ws (vs) := by
    refine ⟨fun n hn => ?_, ?_⟩
    · have hn : n ∈ [10, 0] := hn
      rw [hl]
      simp only [List.mem_cons, List.not_mem_nil, or_false] at hn
      show n < 11; omega
    · show (v_iv (n_v vs 10) = 1) → (w_ei ws (w_ar ws (n_v vs 0) 160) (w_fi ws (n_v vs 0) 158) = 3)
      first | omega | grind
  refine ⟨(fun _ h => (by cases h)), [], trivial, ?_, (fun _ h => (by cases h))⟩
  rw [List.append_nil]
  exact List.forall_mem_cons.mpr ⟨⟨show (20 : Nat) < 100 from by decide, nf0⟩, (fun _ h => (by cases h))⟩
def o_Mo_styleSign_3 : or_T := (40, 11, [(0, (2, 0, 0, [150])), (3, (2, 0, 0, [259])), (4, (0, 0, 2009, [])), (5, (0, 3, 3, [])), (6, (0, 3, 3, [])), (10, (0, 1, 1, []))], [(9, [4, 0], [158]), (7, [5, 6], [0]), (10, [5, 3, 4], []), (9, [3, 0], [160])], [], [], [(20, [10, 0], [50, 1, 1, 1158, 1160, 4, 6, 1, 2, 1, 0, 0, 1, 1, 6, 3, 1, 160, 2, 1, 158, 0, 3])], [], [])
theorem oo_Mo_styleSign_3 {kA : Nat → ClassId} : or_ok kA GG o_Mo_styleSign_3 := by
  intro A ta ws vs hD hth hl hk hds hf
  have hl : vs.length = 11 := hl
  have hk : ∀ q ∈ ([(0, (2, 0, 0, [150])), (3, (2, 0, 0, [259])), (4, (0, 0, 2009, [])), (5, (0, 3, 3, [])), (6, (0, 3, 3, [])), (10, (0, 1, 1, []))] : List (Nat × tv_T)), tv_ok ta q.2 (n_v vs q.1) := hk
  obtain ⟨t0, hk⟩ := List.forall_mem_cons.mp hk
  have t0 : tv_ok ta (2, 0, 0, [150]) (n_v vs 0) := t0
  have r0 : ta (v_ad (n_v vs 0)) = some 150 := tv_rg t0
  obtain ⟨t3, hk⟩ := List.forall_mem_cons.mp hk
  have t3 : tv_ok ta (2, 0, 0, [259]) (n_v vs 3) := t3
  have r3 : ta (v_ad (n_v vs 3)) = some 259 := tv_rg t3
  obtain ⟨t4, hk⟩ := List.forall_mem_cons.mp hk
  have t4 : tv_ok ta (0, 0, 2009, []) (n_v vs 4) := t4
  have k4 : 0 ≤ v_iv (n_v vs 4) ∧ v_iv (n_v vs 4) ≤ 2009 := tv_rng t4
  obtain ⟨t5, hk⟩ := List.forall_mem_cons.mp hk
  have t5 : tv_ok ta (0, 3, 3, []) (n_v vs 5) := t5
  have k5 : 3 ≤ v_iv (n_v vs 5) ∧ v_iv (n_v vs 5) ≤ 3 := tv_rng t5
  obtain ⟨t6, hk⟩ := List.forall_mem_cons.mp hk
  have t6 : tv_ok ta (0, 3, 3, []) (n_v vs 6) := t6
  have k6 : 3 ≤ v_iv (n_v vs 6) ∧ v_iv (n_v vs 6) ≤ 3 := tv_rng t6
  obtain ⟨t10, hk⟩ := List.forall_mem_cons.mp hk
  have t10 : tv_ok ta (0, 1, 1, []) (n_v vs 10) := t10
  have k10 : 1 ≤ v_iv (n_v vs 10) ∧ v_iv (n_v vs 10) ≤ 1 := tv_rng t10
  have hf : fc_ok [(9, [4, 0], [158]), (7, [5, 6], [0]), (10, [5, 3, 4], []), (9, [3, 0], [160])] ta ws vs := hf
  obtain ⟨f0, hf⟩ := fc_un (show (9 : Nat) < 100 from by decide) hf
  have f0 : n_v vs 4 = w_fd ws (v_ad (n_v vs 0)) 158 := f0
  obtain ⟨f1, hf⟩ := fc_un (show (7 : Nat) < 100 from by decide) hf
  have f1 : v_iv (n_v vs 5) = v_iv (n_v vs 6) := f1
  obtain ⟨f2, hf⟩ := fc_un (show (10 : Nat) < 100 from by decide) hf
  have f2 : v_iv (n_v vs 5) = w_el ws (v_ad (n_v vs 3)) (v_iv (n_v vs 4)).toNat := f2
  obtain ⟨f3, hf⟩ := fc_un (show (9 : Nat) < 100 from by decide) hf
  have f3 : n_v vs 3 = w_fd ws (v_ad (n_v vs 0)) 160 := f3
  have cr_0_160 : ta (w_ar ws (n_v vs 0) 160) = some 259 := tv_rg (th_fd hD hth r0 (g := GG_150) rfl (k := 160) (t := (2, 0, 0, [259])) rfl rfl)
  have ad_3 : v_ad (n_v vs 3) = w_ar ws (n_v vs 0) 160 := congrArg v_ad f3
  have g0 : v_iv (n_v vs 4) = w_fi ws (n_v vs 0) 158 := congrArg v_iv f0
  rw [ad_3] at f2
  have h2 : v_iv (n_v vs 5) = w_ei ws (w_ar ws (n_v vs 0) 160) (v_iv (n_v vs 4)) := f2
  have br_0_160_4_0 : w_ei ws (w_ar ws (n_v vs 0) 160) (v_iv (n_v vs 4)) = w_el ws (w_ar ws (n_v vs 0) 160) (v_iv (n_v vs 4)).toNat := rfl
  have hK_0_160 : ∀ j : Int, 0 ≤ j → j < 2010 → 0 ≤ w_ei ws (w_ar ws (n_v vs 0) 160) j ∧ w_ei ws (w_ar ws (n_v vs 0) 160) j ≤ 4 := fun j h0 h1 => th_el hD hth cr_0_160 (kd := 0) (n := 2010) (m := 2010) (lo := 0) (hi := 4) (rs := []) (L := []) rfl (by decide) (j := j.toNat) (by omega)
  have kz_0_158 : 0 ≤ w_fi ws (n_v vs 0) 158 ∧ w_fi ws (n_v vs 0) 158 ≤ 2009 := tv_rng (th_fd hD hth r0 (g := GG_150) rfl (k := 158) (t := (0, 0, 2009, [])) rfl rfl)
  have nf0 : fc_1 (20, [10, 0], [50, 1, 1, 1158, 1160, 4, 6, 1, 2, 1, 0, 0, 1, 1, 6, 3, 1, 160, 2, 1, 158, 0, 3]) ws (vs) := by
    refine ⟨fun n hn => ?_, ?_⟩
    · have hn : n ∈ [10, 0] := hn
      rw [hl]
      simp only [List.mem_cons, List.not_mem_nil, or_false] at hn
      show n < 11; omega
    · show (v_iv (n_v vs 10) = 1) → (w_ei ws (w_ar ws (n_v vs 0) 160) (w_fi ws (n_v vs 0) 158) = 3)
      first | omega | grind
  refine ⟨(fun _ h => (by cases h)), [], trivial, ?_, (fun _ h => (by cases h))⟩
  rw [List.append_nil]
  exact List.forall_mem_cons.mpr ⟨⟨show (20 : Nat) < 100 from by decide, nf0⟩, (fun _ h => (by cases h))⟩
def n_Mo_styleSign_an : List an_T := []
def t_Mo_styleSign_ct : ct_L := []
set_option maxRecDepth 100000 in
theorem c_Mo_styleSign {l : Launch} {D : va_G} {kA : Nat → ClassId} : ct_ok l D kA GG y_Mo_styleSign z_Mo_styleSign e_Mo_styleSign := chk_all_ok (FT := [(342, 13, 160), (345, 13, 161), (413, 13, 8), (1169, 13, 158)]) (PT := []) (CT := t_Mo_styleSign_ct) (KT := []) (NT := []) (AN := n_Mo_styleSign_an) (OT := [o_Mo_styleSign_0, o_Mo_styleSign_1, o_Mo_styleSign_2, o_Mo_styleSign_3]) 0 200 (List.forall_mem_cons.mpr ⟨oo_Mo_styleSign_0, List.forall_mem_cons.mpr ⟨oo_Mo_styleSign_1, List.forall_mem_cons.mpr ⟨oo_Mo_styleSign_2, List.forall_mem_cons.mpr ⟨oo_Mo_styleSign_3, List.forall_mem_nil _⟩⟩⟩⟩) (by decide +kernel) ⟨List.forall_mem_cons.mpr ⟨gf_Mo_342, List.forall_mem_cons.mpr ⟨gf_Mo_345, List.forall_mem_cons.mpr ⟨gf_Mo_413, List.forall_mem_cons.mpr ⟨gf_Mo_1169, List.forall_mem_nil _⟩⟩⟩⟩, List.forall_mem_nil _, List.forall_mem_nil _, List.forall_mem_nil _, List.forall_mem_nil _, GG_pl⟩ (by decide +kernel)
def o_Mo_tail_0 : or_T := (15, 8, [(0, (2, 0, 0, [150])), (1, (0, 0, 47, [])), (2, (2, 0, 0, [152])), (3, (0, 0, 66297, [])), (4, (0, 267, 267, [])), (5, (0, 267, 66564, [])), (6, (0, 267, 66611, [])), (7, (0, 0, 23, []))], [(10, [7, 2, 6], []), (1, [6, 5, 1], []), (1, [5, 3, 4], []), (9, [3, 0], [5]), (9, [2, 0], [2])], [], [], [(20, [7, 0, 1], [50, 1, 1, 1005, 1002, 1, 2, 1, 0, 3, 1, 2, 4, 7, 4, 3, 2, 1, 5, 0, 267, 1, 2])], [], [(6, 1, 267, 66564), (6, 5, 0, 47), (6, 3, 267, 314), (5, 3, 267, 267)])
theorem oo_Mo_tail_0 {kA : Nat → ClassId} : or_ok kA GG o_Mo_tail_0 := by
  intro A ta ws vs hD hth hl hk hds hf
  have hl : vs.length = 8 := hl
  have hk : ∀ q ∈ ([(0, (2, 0, 0, [150])), (1, (0, 0, 47, [])), (2, (2, 0, 0, [152])), (3, (0, 0, 66297, [])), (4, (0, 267, 267, [])), (5, (0, 267, 66564, [])), (6, (0, 267, 66611, [])), (7, (0, 0, 23, []))] : List (Nat × tv_T)), tv_ok ta q.2 (n_v vs q.1) := hk
  obtain ⟨t0, hk⟩ := List.forall_mem_cons.mp hk
  have t0 : tv_ok ta (2, 0, 0, [150]) (n_v vs 0) := t0
  have r0 : ta (v_ad (n_v vs 0)) = some 150 := tv_rg t0
  obtain ⟨t1, hk⟩ := List.forall_mem_cons.mp hk
  have t1 : tv_ok ta (0, 0, 47, []) (n_v vs 1) := t1
  have k1 : 0 ≤ v_iv (n_v vs 1) ∧ v_iv (n_v vs 1) ≤ 47 := tv_rng t1
  obtain ⟨t2, hk⟩ := List.forall_mem_cons.mp hk
  have t2 : tv_ok ta (2, 0, 0, [152]) (n_v vs 2) := t2
  have r2 : ta (v_ad (n_v vs 2)) = some 152 := tv_rg t2
  obtain ⟨t3, hk⟩ := List.forall_mem_cons.mp hk
  have t3 : tv_ok ta (0, 0, 66297, []) (n_v vs 3) := t3
  have k3 : 0 ≤ v_iv (n_v vs 3) ∧ v_iv (n_v vs 3) ≤ 66297 := tv_rng t3
  obtain ⟨t4, hk⟩ := List.forall_mem_cons.mp hk
  have t4 : tv_ok ta (0, 267, 267, []) (n_v vs 4) := t4
  have k4 : 267 ≤ v_iv (n_v vs 4) ∧ v_iv (n_v vs 4) ≤ 267 := tv_rng t4
  obtain ⟨t5, hk⟩ := List.forall_mem_cons.mp hk
  have t5 : tv_ok ta (0, 267, 66564, []) (n_v vs 5) := t5
  have k5 : 267 ≤ v_iv (n_v vs 5) ∧ v_iv (n_v vs 5) ≤ 66564 := tv_rng t5
  obtain ⟨t6, hk⟩ := List.forall_mem_cons.mp hk
  have t6 : tv_ok ta (0, 267, 66611, []) (n_v vs 6) := t6
  have k6 : 267 ≤ v_iv (n_v vs 6) ∧ v_iv (n_v vs 6) ≤ 66611 := tv_rng t6
  obtain ⟨t7, hk⟩ := List.forall_mem_cons.mp hk
  have t7 : tv_ok ta (0, 0, 23, []) (n_v vs 7) := t7
  have k7 : 0 ≤ v_iv (n_v vs 7) ∧ v_iv (n_v vs 7) ≤ 23 := tv_rng t7
  have hds : ∀ q ∈ ([(6, 1, 267, 66564), (6, 5, 0, 47), (6, 3, 267, 314), (5, 3, 267, 267)] : List of_T), n_iv vs q.2.1 + q.2.2.1 ≤ n_iv vs q.1 ∧ n_iv vs q.1 ≤ n_iv vs q.2.1 + q.2.2.2 := hds
  obtain ⟨d0, hds⟩ := List.forall_mem_cons.mp hds
  have d0 : v_iv (n_v vs 1) + 267 ≤ v_iv (n_v vs 6) ∧ v_iv (n_v vs 6) ≤ v_iv (n_v vs 1) + 66564 := d0
  obtain ⟨d1, hds⟩ := List.forall_mem_cons.mp hds
  have d1 : v_iv (n_v vs 5) + 0 ≤ v_iv (n_v vs 6) ∧ v_iv (n_v vs 6) ≤ v_iv (n_v vs 5) + 47 := d1
  obtain ⟨d2, hds⟩ := List.forall_mem_cons.mp hds
  have d2 : v_iv (n_v vs 3) + 267 ≤ v_iv (n_v vs 6) ∧ v_iv (n_v vs 6) ≤ v_iv (n_v vs 3) + 314 := d2
  obtain ⟨d3, hds⟩ := List.forall_mem_cons.mp hds
  have d3 : v_iv (n_v vs 3) + 267 ≤ v_iv (n_v vs 5) ∧ v_iv (n_v vs 5) ≤ v_iv (n_v vs 3) + 267 := d3
  have hf : fc_ok [(10, [7, 2, 6], []), (1, [6, 5, 1], []), (1, [5, 3, 4], []), (9, [3, 0], [5]), (9, [2, 0], [2])] ta ws vs := hf
  obtain ⟨f0, hf⟩ := fc_un (show (10 : Nat) < 100 from by decide) hf
  have f0 : v_iv (n_v vs 7) = w_el ws (v_ad (n_v vs 2)) (v_iv (n_v vs 6)).toNat := f0
  obtain ⟨f1, hf⟩ := fc_un (show (1 : Nat) < 100 from by decide) hf
  have f1 : v_iv (n_v vs 6) = v_iv (n_v vs 5) + v_iv (n_v vs 1) := f1
  obtain ⟨f2, hf⟩ := fc_un (show (1 : Nat) < 100 from by decide) hf
  have f2 : v_iv (n_v vs 5) = v_iv (n_v vs 3) + v_iv (n_v vs 4) := f2
  obtain ⟨f3, hf⟩ := fc_un (show (9 : Nat) < 100 from by decide) hf
  have f3 : n_v vs 3 = w_fd ws (v_ad (n_v vs 0)) 5 := f3
  obtain ⟨f4, hf⟩ := fc_un (show (9 : Nat) < 100 from by decide) hf
  have f4 : n_v vs 2 = w_fd ws (v_ad (n_v vs 0)) 2 := f4
  have cr_0_2 : ta (w_ar ws (n_v vs 0) 2) = some 152 := tv_rg (th_fd hD hth r0 (g := GG_150) rfl (k := 2) (t := (2, 0, 0, [152])) rfl rfl)
  have ad_2 : v_ad (n_v vs 2) = w_ar ws (n_v vs 0) 2 := congrArg v_ad f4
  rw [ad_2] at f0
  have h0 : v_iv (n_v vs 7) = w_ei ws (w_ar ws (n_v vs 0) 2) (v_iv (n_v vs 6)) := f0
  have g3 : v_iv (n_v vs 3) = w_fi ws (n_v vs 0) 5 := congrArg v_iv f3
  have br_0_2_6_0 : w_ei ws (w_ar ws (n_v vs 0) 2) (v_iv (n_v vs 6)) = w_el ws (w_ar ws (n_v vs 0) 2) (v_iv (n_v vs 6)).toNat := rfl
  have nf0 : fc_1 (20, [7, 0, 1], [50, 1, 1, 1005, 1002, 1, 2, 1, 0, 3, 1, 2, 4, 7, 4, 3, 2, 1, 5, 0, 267, 1, 2]) ws (vs) := by
    refine ⟨fun n hn => ?_, ?_⟩
    · have hn : n ∈ [7, 0, 1] := hn
      rw [hl]
      simp only [List.mem_cons, List.not_mem_nil, or_false] at hn
      show n < 8; omega
    · show v_iv (n_v vs 7) = w_ei ws (w_ar ws (n_v vs 0) 2) (((w_fi ws (n_v vs 0) 5 + 267) + v_iv (n_v vs 1)))
      first | omega | grind
  refine ⟨(fun _ h => (by cases h)), [], trivial, ?_, (fun _ h => (by cases h))⟩
  rw [List.append_nil]
  exact List.forall_mem_cons.mpr ⟨⟨show (20 : Nat) < 100 from by decide, nf0⟩, (fun _ h => (by cases h))⟩
def n_Mo_tail_an : List an_T := []
def t_Mo_tail_ct : ct_L := []
set_option maxRecDepth 100000 in
theorem c_Mo_tail {l : Launch} {D : va_G} {kA : Nat → ClassId} : ct_ok l D kA GG y_Mo_tail z_Mo_tail e_Mo_tail := chk_all_ok (FT := [(16, 13, 2), (391, 13, 5)]) (PT := []) (CT := t_Mo_tail_ct) (KT := []) (NT := []) (AN := n_Mo_tail_an) (OT := [o_Mo_tail_0]) 0 200 (List.forall_mem_cons.mpr ⟨oo_Mo_tail_0, List.forall_mem_nil _⟩) (by decide +kernel) ⟨List.forall_mem_cons.mpr ⟨gf_Mo_16, List.forall_mem_cons.mpr ⟨gf_Mo_391, List.forall_mem_nil _⟩⟩, List.forall_mem_nil _, List.forall_mem_nil _, List.forall_mem_nil _, List.forall_mem_nil _, GG_pl⟩ (by decide +kernel)
def o_Mo_comma_0 : or_T := (10, 5, [(0, (2, 0, 0, [150])), (1, (0, 0, 2009, [])), (3, (0, 0, 0, [])), (4, (0, 0, 0, []))], [(8, [3], [0]), (20, [3, 0], [50, 1, 1, 1158, 1160, 4, 6, 1, 2, 1, 0, 0, 1, 1, 6, 3, 1, 160, 2, 1, 158, 0, 3]), (20, [0], [50, 2, 1, 158, 157, 160, 2, 12, 0, 7, 4, 3, 2, 0, 158, 0, 1, 2, 0, 157, 2, 7, 0, 3, 2, 0, 157, 0, 2010, 3, 14, 1, 10, 3, 0, 160, 5, 3, 2, 0, 157, 0, 1, 0, 0, 1, 10, 3, 0, 160, 5, 3, 2, 0, 157, 0, 1, 0, 4]), (20, [0, 1], [30, 0, 1, 1, 158, -1, 0, 0]), (20, [0, 1], [30, 0, -1, 1, 158, 1, 0, 0])], [], [], [(20, [1, 4, 0], [30, 0, 1, 0, 0, 1, 0, 0, -1, 1, 158])], [], [])
theorem oo_Mo_comma_0 {kA : Nat → ClassId} : or_ok kA GG o_Mo_comma_0 := by
  intro A ta ws vs hD hth hl hk hds hf
  have hl : vs.length = 5 := hl
  have hk : ∀ q ∈ ([(0, (2, 0, 0, [150])), (1, (0, 0, 2009, [])), (3, (0, 0, 0, [])), (4, (0, 0, 0, []))] : List (Nat × tv_T)), tv_ok ta q.2 (n_v vs q.1) := hk
  obtain ⟨t0, hk⟩ := List.forall_mem_cons.mp hk
  have t0 : tv_ok ta (2, 0, 0, [150]) (n_v vs 0) := t0
  have r0 : ta (v_ad (n_v vs 0)) = some 150 := tv_rg t0
  obtain ⟨t1, hk⟩ := List.forall_mem_cons.mp hk
  have t1 : tv_ok ta (0, 0, 2009, []) (n_v vs 1) := t1
  have k1 : 0 ≤ v_iv (n_v vs 1) ∧ v_iv (n_v vs 1) ≤ 2009 := tv_rng t1
  obtain ⟨t3, hk⟩ := List.forall_mem_cons.mp hk
  have t3 : tv_ok ta (0, 0, 0, []) (n_v vs 3) := t3
  have k3 : 0 ≤ v_iv (n_v vs 3) ∧ v_iv (n_v vs 3) ≤ 0 := tv_rng t3
  obtain ⟨t4, hk⟩ := List.forall_mem_cons.mp hk
  have t4 : tv_ok ta (0, 0, 0, []) (n_v vs 4) := t4
  have k4 : 0 ≤ v_iv (n_v vs 4) ∧ v_iv (n_v vs 4) ≤ 0 := tv_rng t4
  have hf : fc_ok [(8, [3], [0]), (20, [3, 0], [50, 1, 1, 1158, 1160, 4, 6, 1, 2, 1, 0, 0, 1, 1, 6, 3, 1, 160, 2, 1, 158, 0, 3]), (20, [0], [50, 2, 1, 158, 157, 160, 2, 12, 0, 7, 4, 3, 2, 0, 158, 0, 1, 2, 0, 157, 2, 7, 0, 3, 2, 0, 157, 0, 2010, 3, 14, 1, 10, 3, 0, 160, 5, 3, 2, 0, 157, 0, 1, 0, 0, 1, 10, 3, 0, 160, 5, 3, 2, 0, 157, 0, 1, 0, 4]), (20, [0, 1], [30, 0, 1, 1, 158, -1, 0, 0]), (20, [0, 1], [30, 0, -1, 1, 158, 1, 0, 0])] ta ws vs := hf
  obtain ⟨f0, hf⟩ := fc_un (show (8 : Nat) < 100 from by decide) hf
  have f0 : v_iv (n_v vs 3) = 0 := f0
  obtain ⟨f1, hf⟩ := fc_un (show (20 : Nat) < 100 from by decide) hf
  have f1 : (v_iv (n_v vs 3) = 1) → (w_ei ws (w_ar ws (n_v vs 0) 160) (w_fi ws (n_v vs 0) 158) = 3) := f1
  obtain ⟨f2, hf⟩ := fc_un (show (20 : Nat) < 100 from by decide) hf
  have f2 : ((w_fi ws (n_v vs 0) 158 + 1) ≤ w_fi ws (n_v vs 0) 157) ∧ ((w_fi ws (n_v vs 0) 157 ≤ 2010) ∧ ((w_ei ws (w_ar ws (n_v vs 0) 160) ((w_fi ws (n_v vs 0) 157 - 1)) = 0) ∨ (w_ei ws (w_ar ws (n_v vs 0) 160) ((w_fi ws (n_v vs 0) 157 - 1)) = 4))) := f2
  obtain ⟨f3, hf⟩ := fc_un (show (20 : Nat) < 100 from by decide) hf
  have f3 : 1 * w_fi ws (n_v vs 0) 158 + ((-1) * v_iv (n_v vs 1) + 0) ≤ 0 := f3
  obtain ⟨f4, hf⟩ := fc_un (show (20 : Nat) < 100 from by decide) hf
  have f4 : (-1) * w_fi ws (n_v vs 0) 158 + (1 * v_iv (n_v vs 1) + 0) ≤ 0 := f4
  have cr_0_160 : ta (w_ar ws (n_v vs 0) 160) = some 259 := tv_rg (th_fd hD hth r0 (g := GG_150) rfl (k := 160) (t := (2, 0, 0, [259])) rfl rfl)
  have hK_0_160 : ∀ j : Int, 0 ≤ j → j < 2010 → 0 ≤ w_ei ws (w_ar ws (n_v vs 0) 160) j ∧ w_ei ws (w_ar ws (n_v vs 0) 160) j ≤ 4 := fun j h0 h1 => th_el hD hth cr_0_160 (kd := 0) (n := 2010) (m := 2010) (lo := 0) (hi := 4) (rs := []) (L := []) rfl (by decide) (j := j.toNat) (by omega)
  have kz_0_157 : 0 ≤ w_fi ws (n_v vs 0) 157 ∧ w_fi ws (n_v vs 0) 157 ≤ 2010 := tv_rng (th_fd hD hth r0 (g := GG_150) rfl (k := 157) (t := (0, 0, 2010, [])) rfl rfl)
  have kz_0_158 : 0 ≤ w_fi ws (n_v vs 0) 158 ∧ w_fi ws (n_v vs 0) 158 ≤ 2009 := tv_rng (th_fd hD hth r0 (g := GG_150) rfl (k := 158) (t := (0, 0, 2009, [])) rfl rfl)
  have nf0 : fc_1 (20, [1, 4, 0], [30, 0, 1, 0, 0, 1, 0, 0, -1, 1, 158]) ws (vs) := by
    refine ⟨fun n hn => ?_, ?_⟩
    · have hn : n ∈ [1, 4, 0] := hn
      rw [hl]
      simp only [List.mem_cons, List.not_mem_nil, or_false] at hn
      show n < 5; omega
    · show 1 * v_iv (n_v vs 1) + (1 * v_iv (n_v vs 4) + ((-1) * w_fi ws (n_v vs 0) 158 + 0)) ≤ 0
      omega
  refine ⟨(fun _ h => (by cases h)), [], trivial, ?_, (fun _ h => (by cases h))⟩
  rw [List.append_nil]
  exact List.forall_mem_cons.mpr ⟨⟨show (20 : Nat) < 100 from by decide, nf0⟩, (fun _ h => (by cases h))⟩
def o_Mo_comma_1 : or_T := (18, 7, [(0, (2, 0, 0, [150])), (1, (0, 0, 2009, [])), (3, (0, 1, 1, [])), (4, (0, 0, 2009, [])), (5, (0, 1, 1, [])), (6, (0, 1, 2010, []))], [(1, [6, 4, 5], []), (9, [4, 0], [158]), (8, [3], [1]), (20, [3, 0], [50, 1, 1, 1158, 1160, 4, 6, 1, 2, 1, 0, 0, 1, 1, 6, 3, 1, 160, 2, 1, 158, 0, 3]), (20, [0], [50, 2, 1, 158, 157, 160, 2, 12, 0, 7, 4, 3, 2, 0, 158, 0, 1, 2, 0, 157, 2, 7, 0, 3, 2, 0, 157, 0, 2010, 3, 14, 1, 10, 3, 0, 160, 5, 3, 2, 0, 157, 0, 1, 0, 0, 1, 10, 3, 0, 160, 5, 3, 2, 0, 157, 0, 1, 0, 4]), (20, [0, 1], [30, 0, 1, 1, 158, -1, 0, 0]), (20, [0, 1], [30, 0, -1, 1, 158, 1, 0, 0])], [(6, (0, 1, 2009, []))], [], [], [], [(6, 4, 1, 1)])
theorem oo_Mo_comma_1 {kA : Nat → ClassId} : or_ok kA GG o_Mo_comma_1 := by
  intro A ta ws vs hD hth hl hk hds hf
  have hl : vs.length = 7 := hl
  have hk : ∀ q ∈ ([(0, (2, 0, 0, [150])), (1, (0, 0, 2009, [])), (3, (0, 1, 1, [])), (4, (0, 0, 2009, [])), (5, (0, 1, 1, [])), (6, (0, 1, 2010, []))] : List (Nat × tv_T)), tv_ok ta q.2 (n_v vs q.1) := hk
  obtain ⟨t0, hk⟩ := List.forall_mem_cons.mp hk
  have t0 : tv_ok ta (2, 0, 0, [150]) (n_v vs 0) := t0
  have r0 : ta (v_ad (n_v vs 0)) = some 150 := tv_rg t0
  obtain ⟨t1, hk⟩ := List.forall_mem_cons.mp hk
  have t1 : tv_ok ta (0, 0, 2009, []) (n_v vs 1) := t1
  have k1 : 0 ≤ v_iv (n_v vs 1) ∧ v_iv (n_v vs 1) ≤ 2009 := tv_rng t1
  obtain ⟨t3, hk⟩ := List.forall_mem_cons.mp hk
  have t3 : tv_ok ta (0, 1, 1, []) (n_v vs 3) := t3
  have k3 : 1 ≤ v_iv (n_v vs 3) ∧ v_iv (n_v vs 3) ≤ 1 := tv_rng t3
  obtain ⟨t4, hk⟩ := List.forall_mem_cons.mp hk
  have t4 : tv_ok ta (0, 0, 2009, []) (n_v vs 4) := t4
  have k4 : 0 ≤ v_iv (n_v vs 4) ∧ v_iv (n_v vs 4) ≤ 2009 := tv_rng t4
  obtain ⟨t5, hk⟩ := List.forall_mem_cons.mp hk
  have t5 : tv_ok ta (0, 1, 1, []) (n_v vs 5) := t5
  have k5 : 1 ≤ v_iv (n_v vs 5) ∧ v_iv (n_v vs 5) ≤ 1 := tv_rng t5
  obtain ⟨t6, hk⟩ := List.forall_mem_cons.mp hk
  have t6 : tv_ok ta (0, 1, 2010, []) (n_v vs 6) := t6
  have k6 : 1 ≤ v_iv (n_v vs 6) ∧ v_iv (n_v vs 6) ≤ 2010 := tv_rng t6
  have hds : ∀ q ∈ ([(6, 4, 1, 1)] : List of_T), n_iv vs q.2.1 + q.2.2.1 ≤ n_iv vs q.1 ∧ n_iv vs q.1 ≤ n_iv vs q.2.1 + q.2.2.2 := hds
  obtain ⟨d0, hds⟩ := List.forall_mem_cons.mp hds
  have d0 : v_iv (n_v vs 4) + 1 ≤ v_iv (n_v vs 6) ∧ v_iv (n_v vs 6) ≤ v_iv (n_v vs 4) + 1 := d0
  have hf : fc_ok [(1, [6, 4, 5], []), (9, [4, 0], [158]), (8, [3], [1]), (20, [3, 0], [50, 1, 1, 1158, 1160, 4, 6, 1, 2, 1, 0, 0, 1, 1, 6, 3, 1, 160, 2, 1, 158, 0, 3]), (20, [0], [50, 2, 1, 158, 157, 160, 2, 12, 0, 7, 4, 3, 2, 0, 158, 0, 1, 2, 0, 157, 2, 7, 0, 3, 2, 0, 157, 0, 2010, 3, 14, 1, 10, 3, 0, 160, 5, 3, 2, 0, 157, 0, 1, 0, 0, 1, 10, 3, 0, 160, 5, 3, 2, 0, 157, 0, 1, 0, 4]), (20, [0, 1], [30, 0, 1, 1, 158, -1, 0, 0]), (20, [0, 1], [30, 0, -1, 1, 158, 1, 0, 0])] ta ws vs := hf
  obtain ⟨f0, hf⟩ := fc_un (show (1 : Nat) < 100 from by decide) hf
  have f0 : v_iv (n_v vs 6) = v_iv (n_v vs 4) + v_iv (n_v vs 5) := f0
  obtain ⟨f1, hf⟩ := fc_un (show (9 : Nat) < 100 from by decide) hf
  have f1 : n_v vs 4 = w_fd ws (v_ad (n_v vs 0)) 158 := f1
  obtain ⟨f2, hf⟩ := fc_un (show (8 : Nat) < 100 from by decide) hf
  have f2 : v_iv (n_v vs 3) ≠ 0 := f2
  obtain ⟨f3, hf⟩ := fc_un (show (20 : Nat) < 100 from by decide) hf
  have f3 : (v_iv (n_v vs 3) = 1) → (w_ei ws (w_ar ws (n_v vs 0) 160) (w_fi ws (n_v vs 0) 158) = 3) := f3
  obtain ⟨f4, hf⟩ := fc_un (show (20 : Nat) < 100 from by decide) hf
  have f4 : ((w_fi ws (n_v vs 0) 158 + 1) ≤ w_fi ws (n_v vs 0) 157) ∧ ((w_fi ws (n_v vs 0) 157 ≤ 2010) ∧ ((w_ei ws (w_ar ws (n_v vs 0) 160) ((w_fi ws (n_v vs 0) 157 - 1)) = 0) ∨ (w_ei ws (w_ar ws (n_v vs 0) 160) ((w_fi ws (n_v vs 0) 157 - 1)) = 4))) := f4
  obtain ⟨f5, hf⟩ := fc_un (show (20 : Nat) < 100 from by decide) hf
  have f5 : 1 * w_fi ws (n_v vs 0) 158 + ((-1) * v_iv (n_v vs 1) + 0) ≤ 0 := f5
  obtain ⟨f6, hf⟩ := fc_un (show (20 : Nat) < 100 from by decide) hf
  have f6 : (-1) * w_fi ws (n_v vs 0) 158 + (1 * v_iv (n_v vs 1) + 0) ≤ 0 := f6
  have cr_0_160 : ta (w_ar ws (n_v vs 0) 160) = some 259 := tv_rg (th_fd hD hth r0 (g := GG_150) rfl (k := 160) (t := (2, 0, 0, [259])) rfl rfl)
  have g1 : v_iv (n_v vs 4) = w_fi ws (n_v vs 0) 158 := congrArg v_iv f1
  have hK_0_160 : ∀ j : Int, 0 ≤ j → j < 2010 → 0 ≤ w_ei ws (w_ar ws (n_v vs 0) 160) j ∧ w_ei ws (w_ar ws (n_v vs 0) 160) j ≤ 4 := fun j h0 h1 => th_el hD hth cr_0_160 (kd := 0) (n := 2010) (m := 2010) (lo := 0) (hi := 4) (rs := []) (L := []) rfl (by decide) (j := j.toNat) (by omega)
  have kz_0_157 : 0 ≤ w_fi ws (n_v vs 0) 157 ∧ w_fi ws (n_v vs 0) 157 ≤ 2010 := tv_rng (th_fd hD hth r0 (g := GG_150) rfl (k := 157) (t := (0, 0, 2010, [])) rfl rfl)
  have kz_0_158 : 0 ≤ w_fi ws (n_v vs 0) 158 ∧ w_fi ws (n_v vs 0) 158 ≤ 2009 := tv_rng (th_fd hD hth r0 (g := GG_150) rfl (k := 158) (t := (0, 0, 2009, [])) rfl rfl)
  have rf6 : tv_ok ta (0, 1, 2009, []) (n_v vs 6) := tv_in t6 (by first | omega | grind) (by first | omega | grind)
  refine ⟨List.forall_mem_cons.mpr ⟨rf6, (fun _ h => (by cases h))⟩, [], trivial, ?_, (fun _ h => (by cases h))⟩
  rw [List.append_nil]
  exact (fun _ h => (by cases h))
def o_Mo_comma_2 : or_T := (22, 8, [(0, (2, 0, 0, [150])), (1, (0, 0, 2009, [])), (3, (0, 1, 1, [])), (4, (0, 0, 2009, [])), (5, (0, 1, 1, [])), (6, (0, 1, 2009, [])), (7, (0, 1, 1, []))], [(101, [0, 6], [158]), (1, [6, 4, 5], []), (9, [4, 0], [158]), (8, [3], [1]), (20, [3, 0], [50, 1, 1, 1158, 1160, 4, 6, 1, 2, 1, 0, 0, 1, 1, 6, 3, 1, 160, 2, 1, 158, 0, 3]), (20, [0], [50, 2, 1, 158, 157, 160, 2, 12, 0, 7, 4, 3, 2, 0, 158, 0, 1, 2, 0, 157, 2, 7, 0, 3, 2, 0, 157, 0, 2010, 3, 14, 1, 10, 3, 0, 160, 5, 3, 2, 0, 157, 0, 1, 0, 0, 1, 10, 3, 0, 160, 5, 3, 2, 0, 157, 0, 1, 0, 4]), (20, [0, 1], [30, 0, 1, 1, 158, -1, 0, 0]), (20, [0, 1], [30, 0, -1, 1, 158, 1, 0, 0])], [], [], [(20, [0], [50, 2, 1, 158, 157, 160, 2, 12, 0, 7, 4, 3, 2, 0, 158, 0, 1, 2, 0, 157, 2, 7, 0, 3, 2, 0, 157, 0, 2010, 3, 14, 1, 10, 3, 0, 160, 5, 3, 2, 0, 157, 0, 1, 0, 0, 1, 10, 3, 0, 160, 5, 3, 2, 0, 157, 0, 1, 0, 4]), (20, [1, 7, 0], [30, 0, 1, 0, 0, 1, 0, 0, -1, 1, 158])], [], [(6, 4, 1, 1)])
theorem oo_Mo_comma_2 {kA : Nat → ClassId} : or_ok kA GG o_Mo_comma_2 := by
  intro A ta ws vs hD hth hl hk hds hf
  have hl : vs.length = 8 := hl
  have hk : ∀ q ∈ ([(0, (2, 0, 0, [150])), (1, (0, 0, 2009, [])), (3, (0, 1, 1, [])), (4, (0, 0, 2009, [])), (5, (0, 1, 1, [])), (6, (0, 1, 2009, [])), (7, (0, 1, 1, []))] : List (Nat × tv_T)), tv_ok ta q.2 (n_v vs q.1) := hk
  obtain ⟨t0, hk⟩ := List.forall_mem_cons.mp hk
  have t0 : tv_ok ta (2, 0, 0, [150]) (n_v vs 0) := t0
  have r0 : ta (v_ad (n_v vs 0)) = some 150 := tv_rg t0
  obtain ⟨t1, hk⟩ := List.forall_mem_cons.mp hk
  have t1 : tv_ok ta (0, 0, 2009, []) (n_v vs 1) := t1
  have k1 : 0 ≤ v_iv (n_v vs 1) ∧ v_iv (n_v vs 1) ≤ 2009 := tv_rng t1
  obtain ⟨t3, hk⟩ := List.forall_mem_cons.mp hk
  have t3 : tv_ok ta (0, 1, 1, []) (n_v vs 3) := t3
  have k3 : 1 ≤ v_iv (n_v vs 3) ∧ v_iv (n_v vs 3) ≤ 1 := tv_rng t3
  obtain ⟨t4, hk⟩ := List.forall_mem_cons.mp hk
  have t4 : tv_ok ta (0, 0, 2009, []) (n_v vs 4) := t4
  have k4 : 0 ≤ v_iv (n_v vs 4) ∧ v_iv (n_v vs 4) ≤ 2009 := tv_rng t4
  obtain ⟨t5, hk⟩ := List.forall_mem_cons.mp hk
  have t5 : tv_ok ta (0, 1, 1, []) (n_v vs 5) := t5
  have k5 : 1 ≤ v_iv (n_v vs 5) ∧ v_iv (n_v vs 5) ≤ 1 := tv_rng t5
  obtain ⟨t6, hk⟩ := List.forall_mem_cons.mp hk
  have t6 : tv_ok ta (0, 1, 2009, []) (n_v vs 6) := t6
  have k6 : 1 ≤ v_iv (n_v vs 6) ∧ v_iv (n_v vs 6) ≤ 2009 := tv_rng t6
  obtain ⟨t7, hk⟩ := List.forall_mem_cons.mp hk
  have t7 : tv_ok ta (0, 1, 1, []) (n_v vs 7) := t7
  have k7 : 1 ≤ v_iv (n_v vs 7) ∧ v_iv (n_v vs 7) ≤ 1 := tv_rng t7
  have hds : ∀ q ∈ ([(6, 4, 1, 1)] : List of_T), n_iv vs q.2.1 + q.2.2.1 ≤ n_iv vs q.1 ∧ n_iv vs q.1 ≤ n_iv vs q.2.1 + q.2.2.2 := hds
  obtain ⟨d0, hds⟩ := List.forall_mem_cons.mp hds
  have d0 : v_iv (n_v vs 4) + 1 ≤ v_iv (n_v vs 6) ∧ v_iv (n_v vs 6) ≤ v_iv (n_v vs 4) + 1 := d0
  have hf : fc_ok [(101, [0, 6], [158]), (1, [6, 4, 5], []), (9, [4, 0], [158]), (8, [3], [1]), (20, [3, 0], [50, 1, 1, 1158, 1160, 4, 6, 1, 2, 1, 0, 0, 1, 1, 6, 3, 1, 160, 2, 1, 158, 0, 3]), (20, [0], [50, 2, 1, 158, 157, 160, 2, 12, 0, 7, 4, 3, 2, 0, 158, 0, 1, 2, 0, 157, 2, 7, 0, 3, 2, 0, 157, 0, 2010, 3, 14, 1, 10, 3, 0, 160, 5, 3, 2, 0, 157, 0, 1, 0, 0, 1, 10, 3, 0, 160, 5, 3, 2, 0, 157, 0, 1, 0, 4]), (20, [0, 1], [30, 0, 1, 1, 158, -1, 0, 0]), (20, [0, 1], [30, 0, -1, 1, 158, 1, 0, 0])] ta ws vs := hf
  obtain ⟨ta1, w1, le1, ⟨_, s1⟩, hf⟩ := fc_us (show ¬ (101 : Nat) < 100 from by decide) hf
  have s1 : (∀ b j, w_el ws b j = w_el w1 b j) ∧ ∀ b j, w_fd ws b j = if b = v_ad (n_v vs 0) ∧ j = 158 then n_v vs 6 else w_fd w1 b j := s1
  obtain ⟨f1, hf⟩ := fc_un (show (1 : Nat) < 100 from by decide) hf
  have f1 : v_iv (n_v vs 6) = v_iv (n_v vs 4) + v_iv (n_v vs 5) := f1
  obtain ⟨f2, hf⟩ := fc_un (show (9 : Nat) < 100 from by decide) hf
  have f2 : n_v vs 4 = w_fd w1 (v_ad (n_v vs 0)) 158 := f2
  obtain ⟨f3, hf⟩ := fc_un (show (8 : Nat) < 100 from by decide) hf
  have f3 : v_iv (n_v vs 3) ≠ 0 := f3
  obtain ⟨f4, hf⟩ := fc_un (show (20 : Nat) < 100 from by decide) hf
  have f4 : (v_iv (n_v vs 3) = 1) → (w_ei w1 (w_ar w1 (n_v vs 0) 160) (w_fi w1 (n_v vs 0) 158) = 3) := f4
  obtain ⟨f5, hf⟩ := fc_un (show (20 : Nat) < 100 from by decide) hf
  have f5 : ((w_fi w1 (n_v vs 0) 158 + 1) ≤ w_fi w1 (n_v vs 0) 157) ∧ ((w_fi w1 (n_v vs 0) 157 ≤ 2010) ∧ ((w_ei w1 (w_ar w1 (n_v vs 0) 160) ((w_fi w1 (n_v vs 0) 157 - 1)) = 0) ∨ (w_ei w1 (w_ar w1 (n_v vs 0) 160) ((w_fi w1 (n_v vs 0) 157 - 1)) = 4))) := f5
  obtain ⟨f6, hf⟩ := fc_un (show (20 : Nat) < 100 from by decide) hf
  have f6 : 1 * w_fi w1 (n_v vs 0) 158 + ((-1) * v_iv (n_v vs 1) + 0) ≤ 0 := f6
  obtain ⟨f7, hf⟩ := fc_un (show (20 : Nat) < 100 from by decide) hf
  have f7 : (-1) * w_fi w1 (n_v vs 0) 158 + (1 * v_iv (n_v vs 1) + 0) ≤ 0 := f7
  have ar_0_160_1 : w_ar w1 (n_v vs 0) 160 = w_ar ws (n_v vs 0) 160 := by show v_ad (w_fd w1 _ _) = v_ad (w_fd ws _ _); rw [s1.2, if_neg (fun e => absurd e.2 (by decide))]
  have cr_0_160 : ta (w_ar ws (n_v vs 0) 160) = some 259 := tv_rg (th_fd hD hth r0 (g := GG_150) rfl (k := 160) (t := (2, 0, 0, [259])) rfl rfl)
  have g2 : v_iv (n_v vs 4) = w_fi w1 (n_v vs 0) 158 := congrArg v_iv f2
  rw [ar_0_160_1] at f4
  rw [ar_0_160_1] at f5
  have fe_0_157_1 : w_fi ws (n_v vs 0) 157 = w_fi w1 (n_v vs 0) 157 := by show v_iv (w_fd _ _ _) = v_iv (w_fd _ _ _); rw [s1.2, if_neg (fun e => absurd e.2 (by decide))]
  have fe_0_158_1 : w_fi ws (n_v vs 0) 158 = v_iv (n_v vs 6) := by show v_iv (w_fd _ _ _) = _; rw [s1.2, if_pos ⟨rfl, rfl⟩]
  have hE_0_160_1 : ∀ j : Int, w_ei ws (w_ar ws (n_v vs 0) 160) j = w_ei w1 (w_ar ws (n_v vs 0) 160) j := fun j => s1.1 _ _
  have hK_0_160 : ∀ j : Int, 0 ≤ j → j < 2010 → 0 ≤ w_ei ws (w_ar ws (n_v vs 0) 160) j ∧ w_ei ws (w_ar ws (n_v vs 0) 160) j ≤ 4 := fun j h0 h1 => th_el hD hth cr_0_160 (kd := 0) (n := 2010) (m := 2010) (lo := 0) (hi := 4) (rs := []) (L := []) rfl (by decide) (j := j.toNat) (by omega)
  have kz_0_157 : 0 ≤ w_fi ws (n_v vs 0) 157 ∧ w_fi ws (n_v vs 0) 157 ≤ 2010 := tv_rng (th_fd hD hth r0 (g := GG_150) rfl (k := 157) (t := (0, 0, 2010, [])) rfl rfl)
  have kz_0_158 : 0 ≤ w_fi ws (n_v vs 0) 158 ∧ w_fi ws (n_v vs 0) 158 ≤ 2009 := tv_rng (th_fd hD hth r0 (g := GG_150) rfl (k := 158) (t := (0, 0, 2009, [])) rfl rfl)
  have nf0 : fc_1 (20, [0], [50, 2, 1, 158, 157, 160, 2, 12, 0, 7, 4, 3, 2, 0, 158, 0, 1, 2, 0, 157, 2, 7, 0, 3, 2, 0, 157, 0, 2010, 3, 14, 1, 10, 3, 0, 160, 5, 3, 2, 0, 157, 0, 1, 0, 0, 1, 10, 3, 0, 160, 5, 3, 2, 0, 157, 0, 1, 0, 4]) ws (vs) := by
    refine ⟨fun n hn => ?_, ?_⟩
    · have hn : n ∈ [0] := hn
      rw [hl]
      simp only [List.mem_cons, List.not_mem_nil, or_false] at hn
      show n < 8; omega
    · show ((w_fi ws (n_v vs 0) 158 + 1) ≤ w_fi ws (n_v vs 0) 157) ∧ ((w_fi ws (n_v vs 0) 157 ≤ 2010) ∧ ((w_ei ws (w_ar ws (n_v vs 0) 160) ((w_fi ws (n_v vs 0) 157 - 1)) = 0) ∨ (w_ei ws (w_ar ws (n_v vs 0) 160) ((w_fi ws (n_v vs 0) 157 - 1)) = 4)))
      first | omega | grind
  have nf1 : fc_1 (20, [1, 7, 0], [30, 0, 1, 0, 0, 1, 0, 0, -1, 1, 158]) ws (vs) := by
    refine ⟨fun n hn => ?_, ?_⟩
    · have hn : n ∈ [1, 7, 0] := hn
      rw [hl]
      simp only [List.mem_cons, List.not_mem_nil, or_false] at hn
      show n < 8; omega
    · show 1 * v_iv (n_v vs 1) + (1 * v_iv (n_v vs 7) + ((-1) * w_fi ws (n_v vs 0) 158 + 0)) ≤ 0
      omega
  refine ⟨(fun _ h => (by cases h)), [], trivial, ?_, (fun _ h => (by cases h))⟩
  rw [List.append_nil]
  exact List.forall_mem_cons.mpr ⟨⟨show (20 : Nat) < 100 from by decide, nf0⟩, List.forall_mem_cons.mpr ⟨⟨show (20 : Nat) < 100 from by decide, nf1⟩, (fun _ h => (by cases h))⟩⟩
def n_Mo_comma_an : List an_T := []
def t_Mo_comma_ct : ct_L := [(1, 1172, e_Mo_styleSign)]
set_option maxRecDepth 100000 in
theorem c_Mo_comma {l : Launch} {D : va_G} {kA : Nat → ClassId} (h_Mo_styleSign : ct_ok l D kA GG y_Mo_styleSign z_Mo_styleSign e_Mo_styleSign) : ct_ok l D kA GG y_Mo_comma z_Mo_comma e_Mo_comma := chk_all_ok (FT := [(1169, 13, 158)]) (PT := [(1169, 13, 158, .int)]) (CT := t_Mo_comma_ct) (KT := []) (NT := []) (AN := n_Mo_comma_an) (OT := [o_Mo_comma_0, o_Mo_comma_1, o_Mo_comma_2]) 0 200 (List.forall_mem_cons.mpr ⟨oo_Mo_comma_0, List.forall_mem_cons.mpr ⟨oo_Mo_comma_1, List.forall_mem_cons.mpr ⟨oo_Mo_comma_2, List.forall_mem_nil _⟩⟩⟩) (by decide +kernel) ⟨List.forall_mem_cons.mpr ⟨gf_Mo_1169, List.forall_mem_nil _⟩, List.forall_mem_cons.mpr ⟨pf_Mo_1169, List.forall_mem_nil _⟩, List.forall_mem_cons.mpr ⟨cl_virtual (y := y_Mo_styleSign) (ci := 13) rfl rfl ⟨_, _, rfl⟩ (by decide +kernel) h_Mo_styleSign wm_3832 wm_9 wm_3829 wm_3831 wv_23_11 ⟨by decide, by decide, by decide +kernel⟩ (by decide), List.forall_mem_nil _⟩, List.forall_mem_nil _, List.forall_mem_nil _, GG_pl⟩ (by decide +kernel)
def o_Mo_styleOpen_at_f0_0 : or_T := (6, 4, [(0, (2, 0, 0, [150])), (1, (0, 0, 13, []))], [(9, [1, 0], [159]), (20, [0], [30, 0, 1, 1, 159]), (20, [0], [30, 0, -1, 1, 159])], [(1, (0, 0, 0, []))], [], [], [], [])
theorem oo_Mo_styleOpen_at_f0_0 {kA : Nat → ClassId} : or_ok kA GG o_Mo_styleOpen_at_f0_0 := by
  intro A ta ws vs hD hth hl hk hds hf
  have hl : vs.length = 4 := hl
  have hk : ∀ q ∈ ([(0, (2, 0, 0, [150])), (1, (0, 0, 13, []))] : List (Nat × tv_T)), tv_ok ta q.2 (n_v vs q.1) := hk
  obtain ⟨t0, hk⟩ := List.forall_mem_cons.mp hk
  have t0 : tv_ok ta (2, 0, 0, [150]) (n_v vs 0) := t0
  have r0 : ta (v_ad (n_v vs 0)) = some 150 := tv_rg t0
  obtain ⟨t1, hk⟩ := List.forall_mem_cons.mp hk
  have t1 : tv_ok ta (0, 0, 13, []) (n_v vs 1) := t1
  have k1 : 0 ≤ v_iv (n_v vs 1) ∧ v_iv (n_v vs 1) ≤ 13 := tv_rng t1
  have hf : fc_ok [(9, [1, 0], [159]), (20, [0], [30, 0, 1, 1, 159]), (20, [0], [30, 0, -1, 1, 159])] ta ws vs := hf
  obtain ⟨f0, hf⟩ := fc_un (show (9 : Nat) < 100 from by decide) hf
  have f0 : n_v vs 1 = w_fd ws (v_ad (n_v vs 0)) 159 := f0
  obtain ⟨f1, hf⟩ := fc_un (show (20 : Nat) < 100 from by decide) hf
  have f1 : 1 * w_fi ws (n_v vs 0) 159 + 0 ≤ 0 := f1
  obtain ⟨f2, hf⟩ := fc_un (show (20 : Nat) < 100 from by decide) hf
  have f2 : (-1) * w_fi ws (n_v vs 0) 159 + 0 ≤ 0 := f2
  have g0 : v_iv (n_v vs 1) = w_fi ws (n_v vs 0) 159 := congrArg v_iv f0
  have kz_0_159 : 0 ≤ w_fi ws (n_v vs 0) 159 ∧ w_fi ws (n_v vs 0) 159 ≤ 13 := tv_rng (th_fd hD hth r0 (g := GG_150) rfl (k := 159) (t := (0, 0, 13, [])) rfl rfl)
  have rf1 : tv_ok ta (0, 0, 0, []) (n_v vs 1) := tv_in t1 (by omega) (by omega)
  refine ⟨List.forall_mem_cons.mpr ⟨rf1, (fun _ h => (by cases h))⟩, [], trivial, ?_, (fun _ h => (by cases h))⟩
  rw [List.append_nil]
  exact (fun _ h => (by cases h))
def o_Mo_styleOpen_at_f0_2 : or_T := (43, 9, [(0, (2, 0, 0, [150])), (1, (0, 0, 0, [])), (2, (0, 0, 2009, [])), (3, (0, 12, 12, [])), (4, (0, 1, 1, [])), (5, (0, 1, 1, [])), (6, (0, 0, 2009, [])), (7, (0, 1, 1, [])), (8, (0, 1, 2009, []))], [(101, [0, 8], [158]), (1, [8, 6, 7], []), (9, [6, 0], [158]), (20, [0], [50, 2, 1, 158, 157, 160, 2, 12, 0, 7, 4, 3, 2, 0, 158, 0, 1, 2, 0, 157, 2, 7, 0, 3, 2, 0, 157, 0, 2010, 3, 14, 1, 10, 3, 0, 160, 5, 3, 2, 0, 157, 0, 1, 0, 0, 1, 10, 3, 0, 160, 5, 3, 2, 0, 157, 0, 1, 0, 4]), (20, [0, 2], [30, 0, 1, 1, 158, -1, 0, 0]), (20, [0, 2], [30, 0, -1, 1, 158, 1, 0, 0]), (20, [0], [50, 1, 1, 158, 160, 7, 6, 3, 0, 160, 2, 0, 158, 0, 0]), (20, [0], [50, 1, 1, 158, 160, 7, 6, 3, 0, 160, 2, 0, 158, 0, 4]), (101, [0, 5], [159]), (1, [5, 1, 4], []), (9, [1, 0], [159]), (7, [1, 3], [1]), (20, [0], [50, 2, 1, 158, 157, 160, 2, 12, 0, 7, 4, 3, 2, 0, 158, 0, 1, 2, 0, 157, 2, 7, 0, 3, 2, 0, 157, 0, 2010, 3, 14, 1, 10, 3, 0, 160, 5, 3, 2, 0, 157, 0, 1, 0, 0, 1, 10, 3, 0, 160, 5, 3, 2, 0, 157, 0, 1, 0, 4]), (20, [0, 2], [30, 0, 1, 1, 158, -1, 0, 0]), (20, [0, 2], [30, 0, -1, 1, 158, 1, 0, 0]), (20, [0], [50, 1, 1, 158, 160, 7, 6, 3, 0, 160, 2, 0, 158, 0, 0]), (20, [0], [50, 1, 1, 158, 160, 7, 6, 3, 0, 160, 2, 0, 158, 0, 4]), (20, [0], [30, 0, 1, 1, 159]), (20, [0], [30, 0, -1, 1, 159])], [], [], [(20, [0], [50, 2, 1, 158, 157, 160, 2, 12, 0, 7, 4, 3, 2, 0, 158, 0, 1, 2, 0, 157, 2, 7, 0, 3, 2, 0, 157, 0, 2010, 3, 14, 1, 10, 3, 0, 160, 5, 3, 2, 0, 157, 0, 1, 0, 0, 1, 10, 3, 0, 160, 5, 3, 2, 0, 157, 0, 1, 0, 4]), (20, [2, 0], [30, -1, 1, 0, 0, -1, 1, 158]), (20, [0], [30, 1, 1, 1, 159]), (20, [0], [30, -1, -1, 1, 159])], [], [(8, 6, 1, 1)])
theorem oo_Mo_styleOpen_at_f0_2 {kA : Nat → ClassId} : or_ok kA GG o_Mo_styleOpen_at_f0_2 := by
  intro A ta ws vs hD hth hl hk hds hf
  have hl : vs.length = 9 := hl
  have hk : ∀ q ∈ ([(0, (2, 0, 0, [150])), (1, (0, 0, 0, [])), (2, (0, 0, 2009, [])), (3, (0, 12, 12, [])), (4, (0, 1, 1, [])), (5, (0, 1, 1, [])), (6, (0, 0, 2009, [])), (7, (0, 1, 1, [])), (8, (0, 1, 2009, []))] : List (Nat × tv_T)), tv_ok ta q.2 (n_v vs q.1) := hk
  obtain ⟨t0, hk⟩ := List.forall_mem_cons.mp hk
  have t0 : tv_ok ta (2, 0, 0, [150]) (n_v vs 0) := t0
  have r0 : ta (v_ad (n_v vs 0)) = some 150 := tv_rg t0
  obtain ⟨t1, hk⟩ := List.forall_mem_cons.mp hk
  have t1 : tv_ok ta (0, 0, 0, []) (n_v vs 1) := t1
  have k1 : 0 ≤ v_iv (n_v vs 1) ∧ v_iv (n_v vs 1) ≤ 0 := tv_rng t1
  obtain ⟨t2, hk⟩ := List.forall_mem_cons.mp hk
  have t2 : tv_ok ta (0, 0, 2009, []) (n_v vs 2) := t2
  have k2 : 0 ≤ v_iv (n_v vs 2) ∧ v_iv (n_v vs 2) ≤ 2009 := tv_rng t2
  obtain ⟨t3, hk⟩ := List.forall_mem_cons.mp hk
  have t3 : tv_ok ta (0, 12, 12, []) (n_v vs 3) := t3
  have k3 : 12 ≤ v_iv (n_v vs 3) ∧ v_iv (n_v vs 3) ≤ 12 := tv_rng t3
  obtain ⟨t4, hk⟩ := List.forall_mem_cons.mp hk
  have t4 : tv_ok ta (0, 1, 1, []) (n_v vs 4) := t4
  have k4 : 1 ≤ v_iv (n_v vs 4) ∧ v_iv (n_v vs 4) ≤ 1 := tv_rng t4
  obtain ⟨t5, hk⟩ := List.forall_mem_cons.mp hk
  have t5 : tv_ok ta (0, 1, 1, []) (n_v vs 5) := t5
  have k5 : 1 ≤ v_iv (n_v vs 5) ∧ v_iv (n_v vs 5) ≤ 1 := tv_rng t5
  obtain ⟨t6, hk⟩ := List.forall_mem_cons.mp hk
  have t6 : tv_ok ta (0, 0, 2009, []) (n_v vs 6) := t6
  have k6 : 0 ≤ v_iv (n_v vs 6) ∧ v_iv (n_v vs 6) ≤ 2009 := tv_rng t6
  obtain ⟨t7, hk⟩ := List.forall_mem_cons.mp hk
  have t7 : tv_ok ta (0, 1, 1, []) (n_v vs 7) := t7
  have k7 : 1 ≤ v_iv (n_v vs 7) ∧ v_iv (n_v vs 7) ≤ 1 := tv_rng t7
  obtain ⟨t8, hk⟩ := List.forall_mem_cons.mp hk
  have t8 : tv_ok ta (0, 1, 2009, []) (n_v vs 8) := t8
  have k8 : 1 ≤ v_iv (n_v vs 8) ∧ v_iv (n_v vs 8) ≤ 2009 := tv_rng t8
  have hds : ∀ q ∈ ([(8, 6, 1, 1)] : List of_T), n_iv vs q.2.1 + q.2.2.1 ≤ n_iv vs q.1 ∧ n_iv vs q.1 ≤ n_iv vs q.2.1 + q.2.2.2 := hds
  obtain ⟨d0, hds⟩ := List.forall_mem_cons.mp hds
  have d0 : v_iv (n_v vs 6) + 1 ≤ v_iv (n_v vs 8) ∧ v_iv (n_v vs 8) ≤ v_iv (n_v vs 6) + 1 := d0
  have hf : fc_ok [(101, [0, 8], [158]), (1, [8, 6, 7], []), (9, [6, 0], [158]), (20, [0], [50, 2, 1, 158, 157, 160, 2, 12, 0, 7, 4, 3, 2, 0, 158, 0, 1, 2, 0, 157, 2, 7, 0, 3, 2, 0, 157, 0, 2010, 3, 14, 1, 10, 3, 0, 160, 5, 3, 2, 0, 157, 0, 1, 0, 0, 1, 10, 3, 0, 160, 5, 3, 2, 0, 157, 0, 1, 0, 4]), (20, [0, 2], [30, 0, 1, 1, 158, -1, 0, 0]), (20, [0, 2], [30, 0, -1, 1, 158, 1, 0, 0]), (20, [0], [50, 1, 1, 158, 160, 7, 6, 3, 0, 160, 2, 0, 158, 0, 0]), (20, [0], [50, 1, 1, 158, 160, 7, 6, 3, 0, 160, 2, 0, 158, 0, 4]), (101, [0, 5], [159]), (1, [5, 1, 4], []), (9, [1, 0], [159]), (7, [1, 3], [1]), (20, [0], [50, 2, 1, 158, 157, 160, 2, 12, 0, 7, 4, 3, 2, 0, 158, 0, 1, 2, 0, 157, 2, 7, 0, 3, 2, 0, 157, 0, 2010, 3, 14, 1, 10, 3, 0, 160, 5, 3, 2, 0, 157, 0, 1, 0, 0, 1, 10, 3, 0, 160, 5, 3, 2, 0, 157, 0, 1, 0, 4]), (20, [0, 2], [30, 0, 1, 1, 158, -1, 0, 0]), (20, [0, 2], [30, 0, -1, 1, 158, 1, 0, 0]), (20, [0], [50, 1, 1, 158, 160, 7, 6, 3, 0, 160, 2, 0, 158, 0, 0]), (20, [0], [50, 1, 1, 158, 160, 7, 6, 3, 0, 160, 2, 0, 158, 0, 4]), (20, [0], [30, 0, 1, 1, 159]), (20, [0], [30, 0, -1, 1, 159])] ta ws vs := hf
  obtain ⟨ta1, w1, le1, ⟨_, s1⟩, hf⟩ := fc_us (show ¬ (101 : Nat) < 100 from by decide) hf
  have s1 : (∀ b j, w_el ws b j = w_el w1 b j) ∧ ∀ b j, w_fd ws b j = if b = v_ad (n_v vs 0) ∧ j = 158 then n_v vs 8 else w_fd w1 b j := s1
  obtain ⟨f1, hf⟩ := fc_un (show (1 : Nat) < 100 from by decide) hf
  have f1 : v_iv (n_v vs 8) = v_iv (n_v vs 6) + v_iv (n_v vs 7) := f1
  obtain ⟨f2, hf⟩ := fc_un (show (9 : Nat) < 100 from by decide) hf
  have f2 : n_v vs 6 = w_fd w1 (v_ad (n_v vs 0)) 158 := f2
  obtain ⟨f3, hf⟩ := fc_un (show (20 : Nat) < 100 from by decide) hf
  have f3 : ((w_fi w1 (n_v vs 0) 158 + 1) ≤ w_fi w1 (n_v vs 0) 157) ∧ ((w_fi w1 (n_v vs 0) 157 ≤ 2010) ∧ ((w_ei w1 (w_ar w1 (n_v vs 0) 160) ((w_fi w1 (n_v vs 0) 157 - 1)) = 0) ∨ (w_ei w1 (w_ar w1 (n_v vs 0) 160) ((w_fi w1 (n_v vs 0) 157 - 1)) = 4))) := f3
  obtain ⟨f4, hf⟩ := fc_un (show (20 : Nat) < 100 from by decide) hf
  have f4 : 1 * w_fi w1 (n_v vs 0) 158 + ((-1) * v_iv (n_v vs 2) + 0) ≤ 0 := f4
  obtain ⟨f5, hf⟩ := fc_un (show (20 : Nat) < 100 from by decide) hf
  have f5 : (-1) * w_fi w1 (n_v vs 0) 158 + (1 * v_iv (n_v vs 2) + 0) ≤ 0 := f5
  obtain ⟨f6, hf⟩ := fc_un (show (20 : Nat) < 100 from by decide) hf
  have f6 : w_ei w1 (w_ar w1 (n_v vs 0) 160) (w_fi w1 (n_v vs 0) 158) ≠ 0 := f6
  obtain ⟨f7, hf⟩ := fc_un (show (20 : Nat) < 100 from by decide) hf
  have f7 : w_ei w1 (w_ar w1 (n_v vs 0) 160) (w_fi w1 (n_v vs 0) 158) ≠ 4 := f7
  obtain ⟨ta2, w2, le2, ⟨_, s2⟩, hf⟩ := fc_us (show ¬ (101 : Nat) < 100 from by decide) hf
  have s2 : (∀ b j, w_el w1 b j = w_el w2 b j) ∧ ∀ b j, w_fd w1 b j = if b = v_ad (n_v vs 0) ∧ j = 159 then n_v vs 5 else w_fd w2 b j := s2
  obtain ⟨f9, hf⟩ := fc_un (show (1 : Nat) < 100 from by decide) hf
  have f9 : v_iv (n_v vs 5) = v_iv (n_v vs 1) + v_iv (n_v vs 4) := f9
  obtain ⟨f10, hf⟩ := fc_un (show (9 : Nat) < 100 from by decide) hf
  have f10 : n_v vs 1 = w_fd w2 (v_ad (n_v vs 0)) 159 := f10
  obtain ⟨f11, hf⟩ := fc_un (show (7 : Nat) < 100 from by decide) hf
  have f11 : v_iv (n_v vs 1) ≠ v_iv (n_v vs 3) := f11
  obtain ⟨f12, hf⟩ := fc_un (show (20 : Nat) < 100 from by decide) hf
  have f12 : ((w_fi w2 (n_v vs 0) 158 + 1) ≤ w_fi w2 (n_v vs 0) 157) ∧ ((w_fi w2 (n_v vs 0) 157 ≤ 2010) ∧ ((w_ei w2 (w_ar w2 (n_v vs 0) 160) ((w_fi w2 (n_v vs 0) 157 - 1)) = 0) ∨ (w_ei w2 (w_ar w2 (n_v vs 0) 160) ((w_fi w2 (n_v vs 0) 157 - 1)) = 4))) := f12
  obtain ⟨f13, hf⟩ := fc_un (show (20 : Nat) < 100 from by decide) hf
  have f13 : 1 * w_fi w2 (n_v vs 0) 158 + ((-1) * v_iv (n_v vs 2) + 0) ≤ 0 := f13
  obtain ⟨f14, hf⟩ := fc_un (show (20 : Nat) < 100 from by decide) hf
  have f14 : (-1) * w_fi w2 (n_v vs 0) 158 + (1 * v_iv (n_v vs 2) + 0) ≤ 0 := f14
  obtain ⟨f15, hf⟩ := fc_un (show (20 : Nat) < 100 from by decide) hf
  have f15 : w_ei w2 (w_ar w2 (n_v vs 0) 160) (w_fi w2 (n_v vs 0) 158) ≠ 0 := f15
  obtain ⟨f16, hf⟩ := fc_un (show (20 : Nat) < 100 from by decide) hf
  have f16 : w_ei w2 (w_ar w2 (n_v vs 0) 160) (w_fi w2 (n_v vs 0) 158) ≠ 4 := f16
  obtain ⟨f17, hf⟩ := fc_un (show (20 : Nat) < 100 from by decide) hf
  have f17 : 1 * w_fi w2 (n_v vs 0) 159 + 0 ≤ 0 := f17
  obtain ⟨f18, hf⟩ := fc_un (show (20 : Nat) < 100 from by decide) hf
  have f18 : (-1) * w_fi w2 (n_v vs 0) 159 + 0 ≤ 0 := f18
  have ar_0_160_1 : w_ar w1 (n_v vs 0) 160 = w_ar ws (n_v vs 0) 160 := by show v_ad (w_fd w1 _ _) = v_ad (w_fd ws _ _); rw [s1.2, if_neg (fun e => absurd e.2 (by decide))]
  have ar_0_160_2 : w_ar w2 (n_v vs 0) 160 = w_ar ws (n_v vs 0) 160 := by rw [← ar_0_160_1]; show v_ad (w_fd w2 _ _) = v_ad (w_fd w1 _ _); rw [s2.2, if_neg (fun e => absurd e.2 (by decide))]
  have cr_0_160 : ta (w_ar ws (n_v vs 0) 160) = some 259 := tv_rg (th_fd hD hth r0 (g := GG_150) rfl (k := 160) (t := (2, 0, 0, [259])) rfl rfl)
  have g2 : v_iv (n_v vs 6) = w_fi w1 (n_v vs 0) 158 := congrArg v_iv f2
  rw [ar_0_160_1] at f3
  rw [ar_0_160_1] at f6
  rw [ar_0_160_1] at f7
  have g10 : v_iv (n_v vs 1) = w_fi w2 (n_v vs 0) 159 := congrArg v_iv f10
  rw [ar_0_160_2] at f12
  rw [ar_0_160_2] at f15
  rw [ar_0_160_2] at f16
  have fe_0_157_1 : w_fi ws (n_v vs 0) 157 = w_fi w1 (n_v vs 0) 157 := by show v_iv (w_fd _ _ _) = v_iv (w_fd _ _ _); rw [s1.2, if_neg (fun e => absurd e.2 (by decide))]
  have fe_0_158_1 : w_fi ws (n_v vs 0) 158 = v_iv (n_v vs 8) := by show v_iv (w_fd _ _ _) = _; rw [s1.2, if_pos ⟨rfl, rfl⟩]
  have fe_0_159_1 : w_fi ws (n_v vs 0) 159 = w_fi w1 (n_v vs 0) 159 := by show v_iv (w_fd _ _ _) = v_iv (w_fd _ _ _); rw [s1.2, if_neg (fun e => absurd e.2 (by decide))]
  have fe_0_157_2 : w_fi w1 (n_v vs 0) 157 = w_fi w2 (n_v vs 0) 157 := by show v_iv (w_fd _ _ _) = v_iv (w_fd _ _ _); rw [s2.2, if_neg (fun e => absurd e.2 (by decide))]
  have fe_0_158_2 : w_fi w1 (n_v vs 0) 158 = w_fi w2 (n_v vs 0) 158 := by show v_iv (w_fd _ _ _) = v_iv (w_fd _ _ _); rw [s2.2, if_neg (fun e => absurd e.2 (by decide))]
  have fe_0_159_2 : w_fi w1 (n_v vs 0) 159 = v_iv (n_v vs 5) := by show v_iv (w_fd _ _ _) = _; rw [s2.2, if_pos ⟨rfl, rfl⟩]
  have hE_0_160_1 : ∀ j : Int, w_ei ws (w_ar ws (n_v vs 0) 160) j = w_ei w1 (w_ar ws (n_v vs 0) 160) j := fun j => s1.1 _ _
  have hE_0_160_2 : ∀ j : Int, w_ei w1 (w_ar ws (n_v vs 0) 160) j = w_ei w2 (w_ar ws (n_v vs 0) 160) j := fun j => s2.1 _ _
  have hK_0_160 : ∀ j : Int, 0 ≤ j → j < 2010 → 0 ≤ w_ei ws (w_ar ws (n_v vs 0) 160) j ∧ w_ei ws (w_ar ws (n_v vs 0) 160) j ≤ 4 := fun j h0 h1 => th_el hD hth cr_0_160 (kd := 0) (n := 2010) (m := 2010) (lo := 0) (hi := 4) (rs := []) (L := []) rfl (by decide) (j := j.toNat) (by omega)
  have kz_0_157 : 0 ≤ w_fi ws (n_v vs 0) 157 ∧ w_fi ws (n_v vs 0) 157 ≤ 2010 := tv_rng (th_fd hD hth r0 (g := GG_150) rfl (k := 157) (t := (0, 0, 2010, [])) rfl rfl)
  have kz_0_158 : 0 ≤ w_fi ws (n_v vs 0) 158 ∧ w_fi ws (n_v vs 0) 158 ≤ 2009 := tv_rng (th_fd hD hth r0 (g := GG_150) rfl (k := 158) (t := (0, 0, 2009, [])) rfl rfl)
  have kz_0_159 : 0 ≤ w_fi ws (n_v vs 0) 159 ∧ w_fi ws (n_v vs 0) 159 ≤ 13 := tv_rng (th_fd hD hth r0 (g := GG_150) rfl (k := 159) (t := (0, 0, 13, [])) rfl rfl)
  have nf0 : fc_1 (20, [0], [50, 2, 1, 158, 157, 160, 2, 12, 0, 7, 4, 3, 2, 0, 158, 0, 1, 2, 0, 157, 2, 7, 0, 3, 2, 0, 157, 0, 2010, 3, 14, 1, 10, 3, 0, 160, 5, 3, 2, 0, 157, 0, 1, 0, 0, 1, 10, 3, 0, 160, 5, 3, 2, 0, 157, 0, 1, 0, 4]) ws (vs) := by
    refine ⟨fun n hn => ?_, ?_⟩
    · have hn : n ∈ [0] := hn
      rw [hl]
      simp only [List.mem_cons, List.not_mem_nil, or_false] at hn
      show n < 9; omega
    · show ((w_fi ws (n_v vs 0) 158 + 1) ≤ w_fi ws (n_v vs 0) 157) ∧ ((w_fi ws (n_v vs 0) 157 ≤ 2010) ∧ ((w_ei ws (w_ar ws (n_v vs 0) 160) ((w_fi ws (n_v vs 0) 157 - 1)) = 0) ∨ (w_ei ws (w_ar ws (n_v vs 0) 160) ((w_fi ws (n_v vs 0) 157 - 1)) = 4)))
      first | omega | grind
  have nf1 : fc_1 (20, [2, 0], [30, -1, 1, 0, 0, -1, 1, 158]) ws (vs) := by
    refine ⟨fun n hn => ?_, ?_⟩
    · have hn : n ∈ [2, 0] := hn
      rw [hl]
      simp only [List.mem_cons, List.not_mem_nil, or_false] at hn
      show n < 9; omega
    · show 1 * v_iv (n_v vs 2) + ((-1) * w_fi ws (n_v vs 0) 158 + 0) ≤ (-1)
      omega
  have nf2 : fc_1 (20, [0], [30, 1, 1, 1, 159]) ws (vs) := by
    refine ⟨fun n hn => ?_, ?_⟩
    · have hn : n ∈ [0] := hn
      rw [hl]
      simp only [List.mem_cons, List.not_mem_nil, or_false] at hn
      show n < 9; omega
    · show 1 * w_fi ws (n_v vs 0) 159 + 0 ≤ 1
      omega
  have nf3 : fc_1 (20, [0], [30, -1, -1, 1, 159]) ws (vs) := by
    refine ⟨fun n hn => ?_, ?_⟩
    · have hn : n ∈ [0] := hn
      rw [hl]
      simp only [List.mem_cons, List.not_mem_nil, or_false] at hn
      show n < 9; omega
    · show (-1) * w_fi ws (n_v vs 0) 159 + 0 ≤ (-1)
      omega
  refine ⟨(fun _ h => (by cases h)), [], trivial, ?_, (fun _ h => (by cases h))⟩
  rw [List.append_nil]
  exact List.forall_mem_cons.mpr ⟨⟨show (20 : Nat) < 100 from by decide, nf0⟩, List.forall_mem_cons.mpr ⟨⟨show (20 : Nat) < 100 from by decide, nf1⟩, List.forall_mem_cons.mpr ⟨⟨show (20 : Nat) < 100 from by decide, nf2⟩, List.forall_mem_cons.mpr ⟨⟨show (20 : Nat) < 100 from by decide, nf3⟩, (fun _ h => (by cases h))⟩⟩⟩⟩
def n_Mo_styleOpen_at_f0_an : List an_T := []
def t_Mo_styleOpen_at_f0_ct : ct_L := []
set_option maxRecDepth 100000 in
theorem c_Mo_styleOpen_at_f0 {l : Launch} {D : va_G} {kA : Nat → ClassId} : ct_ok l D kA GG y_Mo_styleOpen_at_f0 z_Mo_styleOpen_at_f0 e_Mo_styleOpen_at_f0 := chk_all_ok (FT := [(348, 13, 162), (1169, 13, 158), (1175, 13, 159)]) (PT := [(1169, 13, 158, .int), (1175, 13, 159, .int)]) (CT := t_Mo_styleOpen_at_f0_ct) (KT := []) (NT := []) (AN := n_Mo_styleOpen_at_f0_an) (OT := [o_Mo_styleOpen_at_f0_0, (o_Mo_styleOpen_f_1 0), o_Mo_styleOpen_at_f0_2]) 0 200 (List.forall_mem_cons.mpr ⟨oo_Mo_styleOpen_at_f0_0, List.forall_mem_cons.mpr ⟨(oo_Mo_styleOpen_f_1 0 (by decide) (by decide)), List.forall_mem_cons.mpr ⟨oo_Mo_styleOpen_at_f0_2, List.forall_mem_nil _⟩⟩⟩) (by decide +kernel) ⟨List.forall_mem_cons.mpr ⟨gf_Mo_348, List.forall_mem_cons.mpr ⟨gf_Mo_1169, List.forall_mem_cons.mpr ⟨gf_Mo_1175, List.forall_mem_nil _⟩⟩⟩, List.forall_mem_cons.mpr ⟨pf_Mo_1169, List.forall_mem_cons.mpr ⟨pf_Mo_1175, List.forall_mem_nil _⟩⟩, List.forall_mem_nil _, List.forall_mem_nil _, List.forall_mem_nil _, GG_pl⟩ (by decide +kernel)
def n_Mo_styleOpen_at_f1_an : List an_T := []
def t_Mo_styleOpen_at_f1_ct : ct_L := []
set_option maxRecDepth 100000 in
theorem c_Mo_styleOpen_at_f1 {l : Launch} {D : va_G} {kA : Nat → ClassId} : ct_ok l D kA GG y_Mo_styleOpen_at_f1 z_Mo_styleOpen_at_f1 e_Mo_styleOpen_at_f1 := chk_all_ok (FT := [(348, 13, 162), (1169, 13, 158), (1175, 13, 159)]) (PT := [(1169, 13, 158, .int), (1175, 13, 159, .int)]) (CT := t_Mo_styleOpen_at_f1_ct) (KT := []) (NT := []) (AN := n_Mo_styleOpen_at_f1_an) (OT := [(o_Mo_styleOpen_f_0 1), (o_Mo_styleOpen_f_1 1), (o_Mo_styleOpen_f_2 1)]) 0 200 (List.forall_mem_cons.mpr ⟨(oo_Mo_styleOpen_f_0 1 (by decide) (by decide)), List.forall_mem_cons.mpr ⟨(oo_Mo_styleOpen_f_1 1 (by decide) (by decide)), List.forall_mem_cons.mpr ⟨(oo_Mo_styleOpen_f_2 1 (by decide) (by decide)), List.forall_mem_nil _⟩⟩⟩) (by decide +kernel) ⟨List.forall_mem_cons.mpr ⟨gf_Mo_348, List.forall_mem_cons.mpr ⟨gf_Mo_1169, List.forall_mem_cons.mpr ⟨gf_Mo_1175, List.forall_mem_nil _⟩⟩⟩, List.forall_mem_cons.mpr ⟨pf_Mo_1169, List.forall_mem_cons.mpr ⟨pf_Mo_1175, List.forall_mem_nil _⟩⟩, List.forall_mem_nil _, List.forall_mem_nil _, List.forall_mem_nil _, GG_pl⟩ (by decide +kernel)
def n_Mo_styleOpen_at_f10_an : List an_T := []
def t_Mo_styleOpen_at_f10_ct : ct_L := []
set_option maxRecDepth 100000 in
theorem c_Mo_styleOpen_at_f10 {l : Launch} {D : va_G} {kA : Nat → ClassId} : ct_ok l D kA GG y_Mo_styleOpen_at_f10 z_Mo_styleOpen_at_f10 e_Mo_styleOpen_at_f10 := chk_all_ok (FT := [(348, 13, 162), (1169, 13, 158), (1175, 13, 159)]) (PT := [(1169, 13, 158, .int), (1175, 13, 159, .int)]) (CT := t_Mo_styleOpen_at_f10_ct) (KT := []) (NT := []) (AN := n_Mo_styleOpen_at_f10_an) (OT := [(o_Mo_styleOpen_f_0 10), (o_Mo_styleOpen_f_1 10), (o_Mo_styleOpen_f_2 10)]) 0 200 (List.forall_mem_cons.mpr ⟨(oo_Mo_styleOpen_f_0 10 (by decide) (by decide)), List.forall_mem_cons.mpr ⟨(oo_Mo_styleOpen_f_1 10 (by decide) (by decide)), List.forall_mem_cons.mpr ⟨(oo_Mo_styleOpen_f_2 10 (by decide) (by decide)), List.forall_mem_nil _⟩⟩⟩) (by decide +kernel) ⟨List.forall_mem_cons.mpr ⟨gf_Mo_348, List.forall_mem_cons.mpr ⟨gf_Mo_1169, List.forall_mem_cons.mpr ⟨gf_Mo_1175, List.forall_mem_nil _⟩⟩⟩, List.forall_mem_cons.mpr ⟨pf_Mo_1169, List.forall_mem_cons.mpr ⟨pf_Mo_1175, List.forall_mem_nil _⟩⟩, List.forall_mem_nil _, List.forall_mem_nil _, List.forall_mem_nil _, GG_pl⟩ (by decide +kernel)
def n_Mo_styleOpen_at_f11_an : List an_T := []
def t_Mo_styleOpen_at_f11_ct : ct_L := []
set_option maxRecDepth 100000 in
theorem c_Mo_styleOpen_at_f11 {l : Launch} {D : va_G} {kA : Nat → ClassId} : ct_ok l D kA GG y_Mo_styleOpen_at_f11 z_Mo_styleOpen_at_f11 e_Mo_styleOpen_at_f11 := chk_all_ok (FT := [(348, 13, 162), (1169, 13, 158), (1175, 13, 159)]) (PT := [(1169, 13, 158, .int), (1175, 13, 159, .int)]) (CT := t_Mo_styleOpen_at_f11_ct) (KT := []) (NT := []) (AN := n_Mo_styleOpen_at_f11_an) (OT := [(o_Mo_styleOpen_f_0 11), (o_Mo_styleOpen_f_1 11), (o_Mo_styleOpen_f_2 11)]) 0 200 (List.forall_mem_cons.mpr ⟨(oo_Mo_styleOpen_f_0 11 (by decide) (by decide)), List.forall_mem_cons.mpr ⟨(oo_Mo_styleOpen_f_1 11 (by decide) (by decide)), List.forall_mem_cons.mpr ⟨(oo_Mo_styleOpen_f_2 11 (by decide) (by decide)), List.forall_mem_nil _⟩⟩⟩) (by decide +kernel) ⟨List.forall_mem_cons.mpr ⟨gf_Mo_348, List.forall_mem_cons.mpr ⟨gf_Mo_1169, List.forall_mem_cons.mpr ⟨gf_Mo_1175, List.forall_mem_nil _⟩⟩⟩, List.forall_mem_cons.mpr ⟨pf_Mo_1169, List.forall_mem_cons.mpr ⟨pf_Mo_1175, List.forall_mem_nil _⟩⟩, List.forall_mem_nil _, List.forall_mem_nil _, List.forall_mem_nil _, GG_pl⟩ (by decide +kernel)
def o_Mo_styleOpen_at_f12_1 : or_T := (40, 12, [(0, (2, 0, 0, [150])), (2, (0, 0, 2009, [])), (6, (0, 0, 2009, [])), (10, (0, 1, 1, [])), (11, (0, 1, 2010, []))], [(1, [11, 6, 10], []), (9, [6, 0], [158]), (20, [0], [50, 2, 1, 158, 157, 160, 2, 12, 0, 7, 4, 3, 2, 0, 158, 0, 1, 2, 0, 157, 2, 7, 0, 3, 2, 0, 157, 0, 2010, 3, 14, 1, 10, 3, 0, 160, 5, 3, 2, 0, 157, 0, 1, 0, 0, 1, 10, 3, 0, 160, 5, 3, 2, 0, 157, 0, 1, 0, 4]), (20, [0, 2], [30, 0, 1, 1, 158, -1, 0, 0]), (20, [0, 2], [30, 0, -1, 1, 158, 1, 0, 0]), (20, [0], [50, 1, 1, 158, 160, 7, 6, 3, 0, 160, 2, 0, 158, 0, 0]), (20, [0], [50, 1, 1, 158, 160, 7, 6, 3, 0, 160, 2, 0, 158, 0, 4]), (101, [0, 9], [159]), (20, [0], [50, 2, 1, 158, 157, 160, 2, 12, 0, 7, 4, 3, 2, 0, 158, 0, 1, 2, 0, 157, 2, 7, 0, 3, 2, 0, 157, 0, 2010, 3, 14, 1, 10, 3, 0, 160, 5, 3, 2, 0, 157, 0, 1, 0, 0, 1, 10, 3, 0, 160, 5, 3, 2, 0, 157, 0, 1, 0, 4]), (20, [0, 2], [30, 0, 1, 1, 158, -1, 0, 0]), (20, [0, 2], [30, 0, -1, 1, 158, 1, 0, 0]), (20, [0], [50, 1, 1, 158, 160, 7, 6, 3, 0, 160, 2, 0, 158, 0, 0]), (20, [0], [50, 1, 1, 158, 160, 7, 6, 3, 0, 160, 2, 0, 158, 0, 4])], [(11, (0, 1, 2009, []))], [], [], [], [(11, 6, 1, 1)])
theorem oo_Mo_styleOpen_at_f12_1 {kA : Nat → ClassId} : or_ok kA GG o_Mo_styleOpen_at_f12_1 := by
  intro A ta ws vs hD hth hl hk hds hf
  have hl : vs.length = 12 := hl
  have hk : ∀ q ∈ ([(0, (2, 0, 0, [150])), (2, (0, 0, 2009, [])), (6, (0, 0, 2009, [])), (10, (0, 1, 1, [])), (11, (0, 1, 2010, []))] : List (Nat × tv_T)), tv_ok ta q.2 (n_v vs q.1) := hk
  obtain ⟨t0, hk⟩ := List.forall_mem_cons.mp hk
  have t0 : tv_ok ta (2, 0, 0, [150]) (n_v vs 0) := t0
  have r0 : ta (v_ad (n_v vs 0)) = some 150 := tv_rg t0
  obtain ⟨t2, hk⟩ := List.forall_mem_cons.mp hk
  have t2 : tv_ok ta (0, 0, 2009, []) (n_v vs 2) := t2
  have k2 : 0 ≤ v_iv (n_v vs 2) ∧ v_iv (n_v vs 2) ≤ 2009 := tv_rng t2
  obtain ⟨t6, hk⟩ := List.forall_mem_cons.mp hk
  have t6 : tv_ok ta (0, 0, 2009, []) (n_v vs 6) := t6
  have k6 : 0 ≤ v_iv (n_v vs 6) ∧ v_iv (n_v vs 6) ≤ 2009 := tv_rng t6
  obtain ⟨t10, hk⟩ := List.forall_mem_cons.mp hk
  have t10 : tv_ok ta (0, 1, 1, []) (n_v vs 10) := t10
  have k10 : 1 ≤ v_iv (n_v vs 10) ∧ v_iv (n_v vs 10) ≤ 1 := tv_rng t10
  obtain ⟨t11, hk⟩ := List.forall_mem_cons.mp hk
  have t11 : tv_ok ta (0, 1, 2010, []) (n_v vs 11) := t11
  have k11 : 1 ≤ v_iv (n_v vs 11) ∧ v_iv (n_v vs 11) ≤ 2010 := tv_rng t11
  have hds : ∀ q ∈ ([(11, 6, 1, 1)] : List of_T), n_iv vs q.2.1 + q.2.2.1 ≤ n_iv vs q.1 ∧ n_iv vs q.1 ≤ n_iv vs q.2.1 + q.2.2.2 := hds
  obtain ⟨d0, hds⟩ := List.forall_mem_cons.mp hds
  have d0 : v_iv (n_v vs 6) + 1 ≤ v_iv (n_v vs 11) ∧ v_iv (n_v vs 11) ≤ v_iv (n_v vs 6) + 1 := d0
  have hf : fc_ok [(1, [11, 6, 10], []), (9, [6, 0], [158]), (20, [0], [50, 2, 1, 158, 157, 160, 2, 12, 0, 7, 4, 3, 2, 0, 158, 0, 1, 2, 0, 157, 2, 7, 0, 3, 2, 0, 157, 0, 2010, 3, 14, 1, 10, 3, 0, 160, 5, 3, 2, 0, 157, 0, 1, 0, 0, 1, 10, 3, 0, 160, 5, 3, 2, 0, 157, 0, 1, 0, 4]), (20, [0, 2], [30, 0, 1, 1, 158, -1, 0, 0]), (20, [0, 2], [30, 0, -1, 1, 158, 1, 0, 0]), (20, [0], [50, 1, 1, 158, 160, 7, 6, 3, 0, 160, 2, 0, 158, 0, 0]), (20, [0], [50, 1, 1, 158, 160, 7, 6, 3, 0, 160, 2, 0, 158, 0, 4]), (101, [0, 9], [159]), (20, [0], [50, 2, 1, 158, 157, 160, 2, 12, 0, 7, 4, 3, 2, 0, 158, 0, 1, 2, 0, 157, 2, 7, 0, 3, 2, 0, 157, 0, 2010, 3, 14, 1, 10, 3, 0, 160, 5, 3, 2, 0, 157, 0, 1, 0, 0, 1, 10, 3, 0, 160, 5, 3, 2, 0, 157, 0, 1, 0, 4]), (20, [0, 2], [30, 0, 1, 1, 158, -1, 0, 0]), (20, [0, 2], [30, 0, -1, 1, 158, 1, 0, 0]), (20, [0], [50, 1, 1, 158, 160, 7, 6, 3, 0, 160, 2, 0, 158, 0, 0]), (20, [0], [50, 1, 1, 158, 160, 7, 6, 3, 0, 160, 2, 0, 158, 0, 4])] ta ws vs := hf
  obtain ⟨f0, hf⟩ := fc_un (show (1 : Nat) < 100 from by decide) hf
  have f0 : v_iv (n_v vs 11) = v_iv (n_v vs 6) + v_iv (n_v vs 10) := f0
  obtain ⟨f1, hf⟩ := fc_un (show (9 : Nat) < 100 from by decide) hf
  have f1 : n_v vs 6 = w_fd ws (v_ad (n_v vs 0)) 158 := f1
  obtain ⟨f2, hf⟩ := fc_un (show (20 : Nat) < 100 from by decide) hf
  have f2 : ((w_fi ws (n_v vs 0) 158 + 1) ≤ w_fi ws (n_v vs 0) 157) ∧ ((w_fi ws (n_v vs 0) 157 ≤ 2010) ∧ ((w_ei ws (w_ar ws (n_v vs 0) 160) ((w_fi ws (n_v vs 0) 157 - 1)) = 0) ∨ (w_ei ws (w_ar ws (n_v vs 0) 160) ((w_fi ws (n_v vs 0) 157 - 1)) = 4))) := f2
  obtain ⟨f3, hf⟩ := fc_un (show (20 : Nat) < 100 from by decide) hf
  have f3 : 1 * w_fi ws (n_v vs 0) 158 + ((-1) * v_iv (n_v vs 2) + 0) ≤ 0 := f3
  obtain ⟨f4, hf⟩ := fc_un (show (20 : Nat) < 100 from by decide) hf
  have f4 : (-1) * w_fi ws (n_v vs 0) 158 + (1 * v_iv (n_v vs 2) + 0) ≤ 0 := f4
  obtain ⟨f5, hf⟩ := fc_un (show (20 : Nat) < 100 from by decide) hf
  have f5 : w_ei ws (w_ar ws (n_v vs 0) 160) (w_fi ws (n_v vs 0) 158) ≠ 0 := f5
  obtain ⟨f6, hf⟩ := fc_un (show (20 : Nat) < 100 from by decide) hf
  have f6 : w_ei ws (w_ar ws (n_v vs 0) 160) (w_fi ws (n_v vs 0) 158) ≠ 4 := f6
  obtain ⟨ta1, w1, le1, ⟨_, s1⟩, hf⟩ := fc_us (show ¬ (101 : Nat) < 100 from by decide) hf
  have s1 : (∀ b j, w_el ws b j = w_el w1 b j) ∧ ∀ b j, w_fd ws b j = if b = v_ad (n_v vs 0) ∧ j = 159 then n_v vs 9 else w_fd w1 b j := s1
  obtain ⟨f8, hf⟩ := fc_un (show (20 : Nat) < 100 from by decide) hf
  have f8 : ((w_fi w1 (n_v vs 0) 158 + 1) ≤ w_fi w1 (n_v vs 0) 157) ∧ ((w_fi w1 (n_v vs 0) 157 ≤ 2010) ∧ ((w_ei w1 (w_ar w1 (n_v vs 0) 160) ((w_fi w1 (n_v vs 0) 157 - 1)) = 0) ∨ (w_ei w1 (w_ar w1 (n_v vs 0) 160) ((w_fi w1 (n_v vs 0) 157 - 1)) = 4))) := f8
  obtain ⟨f9, hf⟩ := fc_un (show (20 : Nat) < 100 from by decide) hf
  have f9 : 1 * w_fi w1 (n_v vs 0) 158 + ((-1) * v_iv (n_v vs 2) + 0) ≤ 0 := f9
  obtain ⟨f10, hf⟩ := fc_un (show (20 : Nat) < 100 from by decide) hf
  have f10 : (-1) * w_fi w1 (n_v vs 0) 158 + (1 * v_iv (n_v vs 2) + 0) ≤ 0 := f10
  obtain ⟨f11, hf⟩ := fc_un (show (20 : Nat) < 100 from by decide) hf
  have f11 : w_ei w1 (w_ar w1 (n_v vs 0) 160) (w_fi w1 (n_v vs 0) 158) ≠ 0 := f11
  obtain ⟨f12, hf⟩ := fc_un (show (20 : Nat) < 100 from by decide) hf
  have f12 : w_ei w1 (w_ar w1 (n_v vs 0) 160) (w_fi w1 (n_v vs 0) 158) ≠ 4 := f12
  have ar_0_160_1 : w_ar w1 (n_v vs 0) 160 = w_ar ws (n_v vs 0) 160 := by show v_ad (w_fd w1 _ _) = v_ad (w_fd ws _ _); rw [s1.2, if_neg (fun e => absurd e.2 (by decide))]
  have cr_0_160 : ta (w_ar ws (n_v vs 0) 160) = some 259 := tv_rg (th_fd hD hth r0 (g := GG_150) rfl (k := 160) (t := (2, 0, 0, [259])) rfl rfl)
  have g1 : v_iv (n_v vs 6) = w_fi ws (n_v vs 0) 158 := congrArg v_iv f1
  rw [ar_0_160_1] at f8
  rw [ar_0_160_1] at f11
  rw [ar_0_160_1] at f12
  have fe_0_157_1 : w_fi ws (n_v vs 0) 157 = w_fi w1 (n_v vs 0) 157 := by show v_iv (w_fd _ _ _) = v_iv (w_fd _ _ _); rw [s1.2, if_neg (fun e => absurd e.2 (by decide))]
  have fe_0_158_1 : w_fi ws (n_v vs 0) 158 = w_fi w1 (n_v vs 0) 158 := by show v_iv (w_fd _ _ _) = v_iv (w_fd _ _ _); rw [s1.2, if_neg (fun e => absurd e.2 (by decide))]
  have hE_0_160_1 : ∀ j : Int, w_ei ws (w_ar ws (n_v vs 0) 160) j = w_ei w1 (w_ar ws (n_v vs 0) 160) j := fun j => s1.1 _ _
  have hK_0_160 : ∀ j : Int, 0 ≤ j → j < 2010 → 0 ≤ w_ei ws (w_ar ws (n_v vs 0) 160) j ∧ w_ei ws (w_ar ws (n_v vs 0) 160) j ≤ 4 := fun j h0 h1 => th_el hD hth cr_0_160 (kd := 0) (n := 2010) (m := 2010) (lo := 0) (hi := 4) (rs := []) (L := []) rfl (by decide) (j := j.toNat) (by omega)
  have kz_0_157 : 0 ≤ w_fi ws (n_v vs 0) 157 ∧ w_fi ws (n_v vs 0) 157 ≤ 2010 := tv_rng (th_fd hD hth r0 (g := GG_150) rfl (k := 157) (t := (0, 0, 2010, [])) rfl rfl)
  have kz_0_158 : 0 ≤ w_fi ws (n_v vs 0) 158 ∧ w_fi ws (n_v vs 0) 158 ≤ 2009 := tv_rng (th_fd hD hth r0 (g := GG_150) rfl (k := 158) (t := (0, 0, 2009, [])) rfl rfl)
  have rf11 : tv_ok ta (0, 1, 2009, []) (n_v vs 11) := tv_in t11 (by first | omega | grind) (by first | omega | grind)
  refine ⟨List.forall_mem_cons.mpr ⟨rf11, (fun _ h => (by cases h))⟩, [], trivial, ?_, (fun _ h => (by cases h))⟩
  rw [List.append_nil]
  exact (fun _ h => (by cases h))
def o_Mo_styleOpen_at_f12_2 : or_T := (43, 12, [(0, (2, 0, 0, [150])), (1, (0, 12, 12, [])), (2, (0, 0, 2009, [])), (3, (0, 12, 12, [])), (6, (0, 0, 2009, [])), (8, (0, 1, 1, [])), (9, (0, 13, 13, [])), (10, (0, 1, 1, [])), (11, (0, 1, 2009, []))], [(101, [0, 11], [158]), (1, [11, 6, 10], []), (9, [6, 0], [158]), (20, [0], [50, 2, 1, 158, 157, 160, 2, 12, 0, 7, 4, 3, 2, 0, 158, 0, 1, 2, 0, 157, 2, 7, 0, 3, 2, 0, 157, 0, 2010, 3, 14, 1, 10, 3, 0, 160, 5, 3, 2, 0, 157, 0, 1, 0, 0, 1, 10, 3, 0, 160, 5, 3, 2, 0, 157, 0, 1, 0, 4]), (20, [0, 2], [30, 0, 1, 1, 158, -1, 0, 0]), (20, [0, 2], [30, 0, -1, 1, 158, 1, 0, 0]), (20, [0], [50, 1, 1, 158, 160, 7, 6, 3, 0, 160, 2, 0, 158, 0, 0]), (20, [0], [50, 1, 1, 158, 160, 7, 6, 3, 0, 160, 2, 0, 158, 0, 4]), (101, [0, 9], [159]), (1, [9, 1, 8], []), (9, [1, 0], [159]), (20, [0], [50, 2, 1, 158, 157, 160, 2, 12, 0, 7, 4, 3, 2, 0, 158, 0, 1, 2, 0, 157, 2, 7, 0, 3, 2, 0, 157, 0, 2010, 3, 14, 1, 10, 3, 0, 160, 5, 3, 2, 0, 157, 0, 1, 0, 0, 1, 10, 3, 0, 160, 5, 3, 2, 0, 157, 0, 1, 0, 4]), (20, [0, 2], [30, 0, 1, 1, 158, -1, 0, 0]), (20, [0, 2], [30, 0, -1, 1, 158, 1, 0, 0]), (20, [0], [50, 1, 1, 158, 160, 7, 6, 3, 0, 160, 2, 0, 158, 0, 0]), (20, [0], [50, 1, 1, 158, 160, 7, 6, 3, 0, 160, 2, 0, 158, 0, 4]), (20, [0], [30, 12, 1, 1, 159]), (20, [0], [30, -12, -1, 1, 159]), (102, [7], [0, 13008, 13009]), (7, [1, 3], [0])], [], [], [(20, [0], [50, 2, 1, 158, 157, 160, 2, 12, 0, 7, 4, 3, 2, 0, 158, 0, 1, 2, 0, 157, 2, 7, 0, 3, 2, 0, 157, 0, 2010, 3, 14, 1, 10, 3, 0, 160, 5, 3, 2, 0, 157, 0, 1, 0, 0, 1, 10, 3, 0, 160, 5, 3, 2, 0, 157, 0, 1, 0, 4]), (20, [2, 0], [30, -1, 1, 0, 0, -1, 1, 158]), (20, [0], [30, 13, 1, 1, 159]), (20, [0], [30, -13, -1, 1, 159])], [], [(11, 6, 1, 1)])
theorem oo_Mo_styleOpen_at_f12_2 {kA : Nat → ClassId} : or_ok kA GG o_Mo_styleOpen_at_f12_2 := by
  intro A ta ws vs hD hth hl hk hds hf
  have hl : vs.length = 12 := hl
  have hk : ∀ q ∈ ([(0, (2, 0, 0, [150])), (1, (0, 12, 12, [])), (2, (0, 0, 2009, [])), (3, (0, 12, 12, [])), (6, (0, 0, 2009, [])), (8, (0, 1, 1, [])), (9, (0, 13, 13, [])), (10, (0, 1, 1, [])), (11, (0, 1, 2009, []))] : List (Nat × tv_T)), tv_ok ta q.2 (n_v vs q.1) := hk
  obtain ⟨t0, hk⟩ := List.forall_mem_cons.mp hk
  have t0 : tv_ok ta (2, 0, 0, [150]) (n_v vs 0) := t0
  have r0 : ta (v_ad (n_v vs 0)) = some 150 := tv_rg t0
  obtain ⟨t1, hk⟩ := List.forall_mem_cons.mp hk
  have t1 : tv_ok ta (0, 12, 12, []) (n_v vs 1) := t1
  have k1 : 12 ≤ v_iv (n_v vs 1) ∧ v_iv (n_v vs 1) ≤ 12 := tv_rng t1
  obtain ⟨t2, hk⟩ := List.forall_mem_cons.mp hk
  have t2 : tv_ok ta (0, 0, 2009, []) (n_v vs 2) := t2
  have k2 : 0 ≤ v_iv (n_v vs 2) ∧ v_iv (n_v vs 2) ≤ 2009 := tv_rng t2
  obtain ⟨t3, hk⟩ := List.forall_mem_cons.mp hk
  have t3 : tv_ok ta (0, 12, 12, []) (n_v vs 3) := t3
  have k3 : 12 ≤ v_iv (n_v vs 3) ∧ v_iv (n_v vs 3) ≤ 12 := tv_rng t3
  obtain ⟨t6, hk⟩ := List.forall_mem_cons.mp hk
  have t6 : tv_ok ta (0, 0, 2009, []) (n_v vs 6) := t6
  have k6 : 0 ≤ v_iv (n_v vs 6) ∧ v_iv (n_v vs 6) ≤ 2009 := tv_rng t6
  obtain ⟨t8, hk⟩ := List.forall_mem_cons.mp hk
  have t8 : tv_ok ta (0, 1, 1, []) (n_v vs 8) := t8
  have k8 : 1 ≤ v_iv (n_v vs 8) ∧ v_iv (n_v vs 8) ≤ 1 := tv_rng t8
  obtain ⟨t9, hk⟩ := List.forall_mem_cons.mp hk
  have t9 : tv_ok ta (0, 13, 13, []) (n_v vs 9) := t9
  have k9 : 13 ≤ v_iv (n_v vs 9) ∧ v_iv (n_v vs 9) ≤ 13 := tv_rng t9
  obtain ⟨t10, hk⟩ := List.forall_mem_cons.mp hk
  have t10 : tv_ok ta (0, 1, 1, []) (n_v vs 10) := t10
  have k10 : 1 ≤ v_iv (n_v vs 10) ∧ v_iv (n_v vs 10) ≤ 1 := tv_rng t10
  obtain ⟨t11, hk⟩ := List.forall_mem_cons.mp hk
  have t11 : tv_ok ta (0, 1, 2009, []) (n_v vs 11) := t11
  have k11 : 1 ≤ v_iv (n_v vs 11) ∧ v_iv (n_v vs 11) ≤ 2009 := tv_rng t11
  have hds : ∀ q ∈ ([(11, 6, 1, 1)] : List of_T), n_iv vs q.2.1 + q.2.2.1 ≤ n_iv vs q.1 ∧ n_iv vs q.1 ≤ n_iv vs q.2.1 + q.2.2.2 := hds
  obtain ⟨d0, hds⟩ := List.forall_mem_cons.mp hds
  have d0 : v_iv (n_v vs 6) + 1 ≤ v_iv (n_v vs 11) ∧ v_iv (n_v vs 11) ≤ v_iv (n_v vs 6) + 1 := d0
  have hf : fc_ok [(101, [0, 11], [158]), (1, [11, 6, 10], []), (9, [6, 0], [158]), (20, [0], [50, 2, 1, 158, 157, 160, 2, 12, 0, 7, 4, 3, 2, 0, 158, 0, 1, 2, 0, 157, 2, 7, 0, 3, 2, 0, 157, 0, 2010, 3, 14, 1, 10, 3, 0, 160, 5, 3, 2, 0, 157, 0, 1, 0, 0, 1, 10, 3, 0, 160, 5, 3, 2, 0, 157, 0, 1, 0, 4]), (20, [0, 2], [30, 0, 1, 1, 158, -1, 0, 0]), (20, [0, 2], [30, 0, -1, 1, 158, 1, 0, 0]), (20, [0], [50, 1, 1, 158, 160, 7, 6, 3, 0, 160, 2, 0, 158, 0, 0]), (20, [0], [50, 1, 1, 158, 160, 7, 6, 3, 0, 160, 2, 0, 158, 0, 4]), (101, [0, 9], [159]), (1, [9, 1, 8], []), (9, [1, 0], [159]), (20, [0], [50, 2, 1, 158, 157, 160, 2, 12, 0, 7, 4, 3, 2, 0, 158, 0, 1, 2, 0, 157, 2, 7, 0, 3, 2, 0, 157, 0, 2010, 3, 14, 1, 10, 3, 0, 160, 5, 3, 2, 0, 157, 0, 1, 0, 0, 1, 10, 3, 0, 160, 5, 3, 2, 0, 157, 0, 1, 0, 4]), (20, [0, 2], [30, 0, 1, 1, 158, -1, 0, 0]), (20, [0, 2], [30, 0, -1, 1, 158, 1, 0, 0]), (20, [0], [50, 1, 1, 158, 160, 7, 6, 3, 0, 160, 2, 0, 158, 0, 0]), (20, [0], [50, 1, 1, 158, 160, 7, 6, 3, 0, 160, 2, 0, 158, 0, 4]), (20, [0], [30, 12, 1, 1, 159]), (20, [0], [30, -12, -1, 1, 159]), (102, [7], [0, 13008, 13009]), (7, [1, 3], [0])] ta ws vs := hf
  obtain ⟨ta1, w1, le1, ⟨_, s1⟩, hf⟩ := fc_us (show ¬ (101 : Nat) < 100 from by decide) hf
  have s1 : (∀ b j, w_el ws b j = w_el w1 b j) ∧ ∀ b j, w_fd ws b j = if b = v_ad (n_v vs 0) ∧ j = 158 then n_v vs 11 else w_fd w1 b j := s1
  obtain ⟨f1, hf⟩ := fc_un (show (1 : Nat) < 100 from by decide) hf
  have f1 : v_iv (n_v vs 11) = v_iv (n_v vs 6) + v_iv (n_v vs 10) := f1
  obtain ⟨f2, hf⟩ := fc_un (show (9 : Nat) < 100 from by decide) hf
  have f2 : n_v vs 6 = w_fd w1 (v_ad (n_v vs 0)) 158 := f2
  obtain ⟨f3, hf⟩ := fc_un (show (20 : Nat) < 100 from by decide) hf
  have f3 : ((w_fi w1 (n_v vs 0) 158 + 1) ≤ w_fi w1 (n_v vs 0) 157) ∧ ((w_fi w1 (n_v vs 0) 157 ≤ 2010) ∧ ((w_ei w1 (w_ar w1 (n_v vs 0) 160) ((w_fi w1 (n_v vs 0) 157 - 1)) = 0) ∨ (w_ei w1 (w_ar w1 (n_v vs 0) 160) ((w_fi w1 (n_v vs 0) 157 - 1)) = 4))) := f3
  obtain ⟨f4, hf⟩ := fc_un (show (20 : Nat) < 100 from by decide) hf
  have f4 : 1 * w_fi w1 (n_v vs 0) 158 + ((-1) * v_iv (n_v vs 2) + 0) ≤ 0 := f4
  obtain ⟨f5, hf⟩ := fc_un (show (20 : Nat) < 100 from by decide) hf
  have f5 : (-1) * w_fi w1 (n_v vs 0) 158 + (1 * v_iv (n_v vs 2) + 0) ≤ 0 := f5
  obtain ⟨f6, hf⟩ := fc_un (show (20 : Nat) < 100 from by decide) hf
  have f6 : w_ei w1 (w_ar w1 (n_v vs 0) 160) (w_fi w1 (n_v vs 0) 158) ≠ 0 := f6
  obtain ⟨f7, hf⟩ := fc_un (show (20 : Nat) < 100 from by decide) hf
  have f7 : w_ei w1 (w_ar w1 (n_v vs 0) 160) (w_fi w1 (n_v vs 0) 158) ≠ 4 := f7
  obtain ⟨ta2, w2, le2, ⟨_, s2⟩, hf⟩ := fc_us (show ¬ (101 : Nat) < 100 from by decide) hf
  have s2 : (∀ b j, w_el w1 b j = w_el w2 b j) ∧ ∀ b j, w_fd w1 b j = if b = v_ad (n_v vs 0) ∧ j = 159 then n_v vs 9 else w_fd w2 b j := s2
  obtain ⟨f9, hf⟩ := fc_un (show (1 : Nat) < 100 from by decide) hf
  have f9 : v_iv (n_v vs 9) = v_iv (n_v vs 1) + v_iv (n_v vs 8) := f9
  obtain ⟨f10, hf⟩ := fc_un (show (9 : Nat) < 100 from by decide) hf
  have f10 : n_v vs 1 = w_fd w2 (v_ad (n_v vs 0)) 159 := f10
  obtain ⟨f11, hf⟩ := fc_un (show (20 : Nat) < 100 from by decide) hf
  have f11 : ((w_fi w2 (n_v vs 0) 158 + 1) ≤ w_fi w2 (n_v vs 0) 157) ∧ ((w_fi w2 (n_v vs 0) 157 ≤ 2010) ∧ ((w_ei w2 (w_ar w2 (n_v vs 0) 160) ((w_fi w2 (n_v vs 0) 157 - 1)) = 0) ∨ (w_ei w2 (w_ar w2 (n_v vs 0) 160) ((w_fi w2 (n_v vs 0) 157 - 1)) = 4))) := f11
  obtain ⟨f12, hf⟩ := fc_un (show (20 : Nat) < 100 from by decide) hf
  have f12 : 1 * w_fi w2 (n_v vs 0) 158 + ((-1) * v_iv (n_v vs 2) + 0) ≤ 0 := f12
  obtain ⟨f13, hf⟩ := fc_un (show (20 : Nat) < 100 from by decide) hf
  have f13 : (-1) * w_fi w2 (n_v vs 0) 158 + (1 * v_iv (n_v vs 2) + 0) ≤ 0 := f13
  obtain ⟨f14, hf⟩ := fc_un (show (20 : Nat) < 100 from by decide) hf
  have f14 : w_ei w2 (w_ar w2 (n_v vs 0) 160) (w_fi w2 (n_v vs 0) 158) ≠ 0 := f14
  obtain ⟨f15, hf⟩ := fc_un (show (20 : Nat) < 100 from by decide) hf
  have f15 : w_ei w2 (w_ar w2 (n_v vs 0) 160) (w_fi w2 (n_v vs 0) 158) ≠ 4 := f15
  obtain ⟨f16, hf⟩ := fc_un (show (20 : Nat) < 100 from by decide) hf
  have f16 : 1 * w_fi w2 (n_v vs 0) 159 + 0 ≤ 12 := f16
  obtain ⟨f17, hf⟩ := fc_un (show (20 : Nat) < 100 from by decide) hf
  have f17 : (-1) * w_fi w2 (n_v vs 0) 159 + 0 ≤ (-12) := f17
  obtain ⟨ta3, w3, le3, ⟨_, s3⟩, hf⟩ := fc_us (show ¬ (102 : Nat) < 100 from by decide) hf
  obtain ⟨f19, hf⟩ := fc_un (show (7 : Nat) < 100 from by decide) hf
  have f19 : v_iv (n_v vs 1) = v_iv (n_v vs 3) := f19
  have ar_0_160_1 : w_ar w1 (n_v vs 0) 160 = w_ar ws (n_v vs 0) 160 := by show v_ad (w_fd w1 _ _) = v_ad (w_fd ws _ _); rw [s1.2, if_neg (fun e => absurd e.2 (by decide))]
  have ar_0_160_2 : w_ar w2 (n_v vs 0) 160 = w_ar ws (n_v vs 0) 160 := by rw [← ar_0_160_1]; show v_ad (w_fd w2 _ _) = v_ad (w_fd w1 _ _); rw [s2.2, if_neg (fun e => absurd e.2 (by decide))]
  have cr_0_160 : ta (w_ar ws (n_v vs 0) 160) = some 259 := tv_rg (th_fd hD hth r0 (g := GG_150) rfl (k := 160) (t := (2, 0, 0, [259])) rfl rfl)
  have g2 : v_iv (n_v vs 6) = w_fi w1 (n_v vs 0) 158 := congrArg v_iv f2
  rw [ar_0_160_1] at f3
  rw [ar_0_160_1] at f6
  rw [ar_0_160_1] at f7
  have g10 : v_iv (n_v vs 1) = w_fi w2 (n_v vs 0) 159 := congrArg v_iv f10
  rw [ar_0_160_2] at f11
  rw [ar_0_160_2] at f14
  rw [ar_0_160_2] at f15
  have fe_0_157_1 : w_fi ws (n_v vs 0) 157 = w_fi w1 (n_v vs 0) 157 := by show v_iv (w_fd _ _ _) = v_iv (w_fd _ _ _); rw [s1.2, if_neg (fun e => absurd e.2 (by decide))]
  have fe_0_158_1 : w_fi ws (n_v vs 0) 158 = v_iv (n_v vs 11) := by show v_iv (w_fd _ _ _) = _; rw [s1.2, if_pos ⟨rfl, rfl⟩]
  have fe_0_159_1 : w_fi ws (n_v vs 0) 159 = w_fi w1 (n_v vs 0) 159 := by show v_iv (w_fd _ _ _) = v_iv (w_fd _ _ _); rw [s1.2, if_neg (fun e => absurd e.2 (by decide))]
  have fe_0_157_2 : w_fi w1 (n_v vs 0) 157 = w_fi w2 (n_v vs 0) 157 := by show v_iv (w_fd _ _ _) = v_iv (w_fd _ _ _); rw [s2.2, if_neg (fun e => absurd e.2 (by decide))]
  have fe_0_158_2 : w_fi w1 (n_v vs 0) 158 = w_fi w2 (n_v vs 0) 158 := by show v_iv (w_fd _ _ _) = v_iv (w_fd _ _ _); rw [s2.2, if_neg (fun e => absurd e.2 (by decide))]
  have fe_0_159_2 : w_fi w1 (n_v vs 0) 159 = v_iv (n_v vs 9) := by show v_iv (w_fd _ _ _) = _; rw [s2.2, if_pos ⟨rfl, rfl⟩]
  have hE_0_160_1 : ∀ j : Int, w_ei ws (w_ar ws (n_v vs 0) 160) j = w_ei w1 (w_ar ws (n_v vs 0) 160) j := fun j => s1.1 _ _
  have hE_0_160_2 : ∀ j : Int, w_ei w1 (w_ar ws (n_v vs 0) 160) j = w_ei w2 (w_ar ws (n_v vs 0) 160) j := fun j => s2.1 _ _
  have hK_0_160 : ∀ j : Int, 0 ≤ j → j < 2010 → 0 ≤ w_ei ws (w_ar ws (n_v vs 0) 160) j ∧ w_ei ws (w_ar ws (n_v vs 0) 160) j ≤ 4 := fun j h0 h1 => th_el hD hth cr_0_160 (kd := 0) (n := 2010) (m := 2010) (lo := 0) (hi := 4) (rs := []) (L := []) rfl (by decide) (j := j.toNat) (by omega)
  have kz_0_157 : 0 ≤ w_fi ws (n_v vs 0) 157 ∧ w_fi ws (n_v vs 0) 157 ≤ 2010 := tv_rng (th_fd hD hth r0 (g := GG_150) rfl (k := 157) (t := (0, 0, 2010, [])) rfl rfl)
  have kz_0_158 : 0 ≤ w_fi ws (n_v vs 0) 158 ∧ w_fi ws (n_v vs 0) 158 ≤ 2009 := tv_rng (th_fd hD hth r0 (g := GG_150) rfl (k := 158) (t := (0, 0, 2009, [])) rfl rfl)
  have kz_0_159 : 0 ≤ w_fi ws (n_v vs 0) 159 ∧ w_fi ws (n_v vs 0) 159 ≤ 13 := tv_rng (th_fd hD hth r0 (g := GG_150) rfl (k := 159) (t := (0, 0, 13, [])) rfl rfl)
  have nf0 : fc_1 (20, [0], [50, 2, 1, 158, 157, 160, 2, 12, 0, 7, 4, 3, 2, 0, 158, 0, 1, 2, 0, 157, 2, 7, 0, 3, 2, 0, 157, 0, 2010, 3, 14, 1, 10, 3, 0, 160, 5, 3, 2, 0, 157, 0, 1, 0, 0, 1, 10, 3, 0, 160, 5, 3, 2, 0, 157, 0, 1, 0, 4]) ws (vs) := by
    refine ⟨fun n hn => ?_, ?_⟩
    · have hn : n ∈ [0] := hn
      rw [hl]
      simp only [List.mem_cons, List.not_mem_nil, or_false] at hn
      show n < 12; omega
    · show ((w_fi ws (n_v vs 0) 158 + 1) ≤ w_fi ws (n_v vs 0) 157) ∧ ((w_fi ws (n_v vs 0) 157 ≤ 2010) ∧ ((w_ei ws (w_ar ws (n_v vs 0) 160) ((w_fi ws (n_v vs 0) 157 - 1)) = 0) ∨ (w_ei ws (w_ar ws (n_v vs 0) 160) ((w_fi ws (n_v vs 0) 157 - 1)) = 4)))
      first | omega | grind
  have nf1 : fc_1 (20, [2, 0], [30, -1, 1, 0, 0, -1, 1, 158]) ws (vs) := by
    refine ⟨fun n hn => ?_, ?_⟩
    · have hn : n ∈ [2, 0] := hn
      rw [hl]
      simp only [List.mem_cons, List.not_mem_nil, or_false] at hn
      show n < 12; omega
    · show 1 * v_iv (n_v vs 2) + ((-1) * w_fi ws (n_v vs 0) 158 + 0) ≤ (-1)
      omega
  have nf2 : fc_1 (20, [0], [30, 13, 1, 1, 159]) ws (vs) := by
    refine ⟨fun n hn => ?_, ?_⟩
    · have hn : n ∈ [0] := hn
      rw [hl]
      simp only [List.mem_cons, List.not_mem_nil, or_false] at hn
      show n < 12; omega
    · show 1 * w_fi ws (n_v vs 0) 159 + 0 ≤ 13
      omega
  have nf3 : fc_1 (20, [0], [30, -13, -1, 1, 159]) ws (vs) := by
    refine ⟨fun n hn => ?_, ?_⟩
    · have hn : n ∈ [0] := hn
      rw [hl]
      simp only [List.mem_cons, List.not_mem_nil, or_false] at hn
      show n < 12; omega
    · show (-1) * w_fi ws (n_v vs 0) 159 + 0 ≤ (-13)
      omega
  refine ⟨(fun _ h => (by cases h)), [], trivial, ?_, (fun _ h => (by cases h))⟩
  rw [List.append_nil]
  exact List.forall_mem_cons.mpr ⟨⟨show (20 : Nat) < 100 from by decide, nf0⟩, List.forall_mem_cons.mpr ⟨⟨show (20 : Nat) < 100 from by decide, nf1⟩, List.forall_mem_cons.mpr ⟨⟨show (20 : Nat) < 100 from by decide, nf2⟩, List.forall_mem_cons.mpr ⟨⟨show (20 : Nat) < 100 from by decide, nf3⟩, (fun _ h => (by cases h))⟩⟩⟩⟩
def n_Mo_styleOpen_at_f12_an : List an_T := []
def t_Mo_styleOpen_at_f12_ct : ct_L := [(1, 463, e_Mo_wrong)]
set_option maxRecDepth 100000 in
theorem c_Mo_styleOpen_at_f12 {l : Launch} {D : va_G} {kA : Nat → ClassId} (h_Mo_wrong : ct_ok l D kA GG y_Mo_wrong z_Mo_wrong e_Mo_wrong) : ct_ok l D kA GG y_Mo_styleOpen_at_f12 z_Mo_styleOpen_at_f12 e_Mo_styleOpen_at_f12 := chk_all_ok (FT := [(348, 13, 162), (1169, 13, 158), (1175, 13, 159)]) (PT := [(1169, 13, 158, .int), (1175, 13, 159, .int)]) (CT := t_Mo_styleOpen_at_f12_ct) (KT := []) (NT := []) (AN := n_Mo_styleOpen_at_f12_an) (OT := [(o_Mo_styleOpen_f_0 12), o_Mo_styleOpen_at_f12_1, o_Mo_styleOpen_at_f12_2]) 0 200 (List.forall_mem_cons.mpr ⟨(oo_Mo_styleOpen_f_0 12 (by decide) (by decide)), List.forall_mem_cons.mpr ⟨oo_Mo_styleOpen_at_f12_1, List.forall_mem_cons.mpr ⟨oo_Mo_styleOpen_at_f12_2, List.forall_mem_nil _⟩⟩⟩) (by decide +kernel) ⟨List.forall_mem_cons.mpr ⟨gf_Mo_348, List.forall_mem_cons.mpr ⟨gf_Mo_1169, List.forall_mem_cons.mpr ⟨gf_Mo_1175, List.forall_mem_nil _⟩⟩⟩, List.forall_mem_cons.mpr ⟨pf_Mo_1169, List.forall_mem_cons.mpr ⟨pf_Mo_1175, List.forall_mem_nil _⟩⟩, List.forall_mem_cons.mpr ⟨cl_virtual (y := y_Mo_wrong) (ci := 13) rfl rfl ⟨_, _, rfl⟩ (by decide +kernel) h_Mo_wrong wm_3017 wm_9 wm_3014 wm_3016 wv_13_1 ⟨by decide, by decide, by decide +kernel⟩ (by decide), List.forall_mem_nil _⟩, List.forall_mem_nil _, List.forall_mem_nil _, GG_pl⟩ (by decide +kernel)
def n_Mo_styleOpen_at_f2_an : List an_T := []
def t_Mo_styleOpen_at_f2_ct : ct_L := []
set_option maxRecDepth 100000 in
theorem c_Mo_styleOpen_at_f2 {l : Launch} {D : va_G} {kA : Nat → ClassId} : ct_ok l D kA GG y_Mo_styleOpen_at_f2 z_Mo_styleOpen_at_f2 e_Mo_styleOpen_at_f2 := chk_all_ok (FT := [(348, 13, 162), (1169, 13, 158), (1175, 13, 159)]) (PT := [(1169, 13, 158, .int), (1175, 13, 159, .int)]) (CT := t_Mo_styleOpen_at_f2_ct) (KT := []) (NT := []) (AN := n_Mo_styleOpen_at_f2_an) (OT := [(o_Mo_styleOpen_f_0 2), (o_Mo_styleOpen_f_1 2), (o_Mo_styleOpen_f_2 2)]) 0 200 (List.forall_mem_cons.mpr ⟨(oo_Mo_styleOpen_f_0 2 (by decide) (by decide)), List.forall_mem_cons.mpr ⟨(oo_Mo_styleOpen_f_1 2 (by decide) (by decide)), List.forall_mem_cons.mpr ⟨(oo_Mo_styleOpen_f_2 2 (by decide) (by decide)), List.forall_mem_nil _⟩⟩⟩) (by decide +kernel) ⟨List.forall_mem_cons.mpr ⟨gf_Mo_348, List.forall_mem_cons.mpr ⟨gf_Mo_1169, List.forall_mem_cons.mpr ⟨gf_Mo_1175, List.forall_mem_nil _⟩⟩⟩, List.forall_mem_cons.mpr ⟨pf_Mo_1169, List.forall_mem_cons.mpr ⟨pf_Mo_1175, List.forall_mem_nil _⟩⟩, List.forall_mem_nil _, List.forall_mem_nil _, List.forall_mem_nil _, GG_pl⟩ (by decide +kernel)
def n_Mo_styleOpen_at_f3_an : List an_T := []
def t_Mo_styleOpen_at_f3_ct : ct_L := []
set_option maxRecDepth 100000 in
theorem c_Mo_styleOpen_at_f3 {l : Launch} {D : va_G} {kA : Nat → ClassId} : ct_ok l D kA GG y_Mo_styleOpen_at_f3 z_Mo_styleOpen_at_f3 e_Mo_styleOpen_at_f3 := chk_all_ok (FT := [(348, 13, 162), (1169, 13, 158), (1175, 13, 159)]) (PT := [(1169, 13, 158, .int), (1175, 13, 159, .int)]) (CT := t_Mo_styleOpen_at_f3_ct) (KT := []) (NT := []) (AN := n_Mo_styleOpen_at_f3_an) (OT := [(o_Mo_styleOpen_f_0 3), (o_Mo_styleOpen_f_1 3), (o_Mo_styleOpen_f_2 3)]) 0 200 (List.forall_mem_cons.mpr ⟨(oo_Mo_styleOpen_f_0 3 (by decide) (by decide)), List.forall_mem_cons.mpr ⟨(oo_Mo_styleOpen_f_1 3 (by decide) (by decide)), List.forall_mem_cons.mpr ⟨(oo_Mo_styleOpen_f_2 3 (by decide) (by decide)), List.forall_mem_nil _⟩⟩⟩) (by decide +kernel) ⟨List.forall_mem_cons.mpr ⟨gf_Mo_348, List.forall_mem_cons.mpr ⟨gf_Mo_1169, List.forall_mem_cons.mpr ⟨gf_Mo_1175, List.forall_mem_nil _⟩⟩⟩, List.forall_mem_cons.mpr ⟨pf_Mo_1169, List.forall_mem_cons.mpr ⟨pf_Mo_1175, List.forall_mem_nil _⟩⟩, List.forall_mem_nil _, List.forall_mem_nil _, List.forall_mem_nil _, GG_pl⟩ (by decide +kernel)
def n_Mo_styleOpen_at_f4_an : List an_T := []
def t_Mo_styleOpen_at_f4_ct : ct_L := []
set_option maxRecDepth 100000 in
theorem c_Mo_styleOpen_at_f4 {l : Launch} {D : va_G} {kA : Nat → ClassId} : ct_ok l D kA GG y_Mo_styleOpen_at_f4 z_Mo_styleOpen_at_f4 e_Mo_styleOpen_at_f4 := chk_all_ok (FT := [(348, 13, 162), (1169, 13, 158), (1175, 13, 159)]) (PT := [(1169, 13, 158, .int), (1175, 13, 159, .int)]) (CT := t_Mo_styleOpen_at_f4_ct) (KT := []) (NT := []) (AN := n_Mo_styleOpen_at_f4_an) (OT := [(o_Mo_styleOpen_f_0 4), (o_Mo_styleOpen_f_1 4), (o_Mo_styleOpen_f_2 4)]) 0 200 (List.forall_mem_cons.mpr ⟨(oo_Mo_styleOpen_f_0 4 (by decide) (by decide)), List.forall_mem_cons.mpr ⟨(oo_Mo_styleOpen_f_1 4 (by decide) (by decide)), List.forall_mem_cons.mpr ⟨(oo_Mo_styleOpen_f_2 4 (by decide) (by decide)), List.forall_mem_nil _⟩⟩⟩) (by decide +kernel) ⟨List.forall_mem_cons.mpr ⟨gf_Mo_348, List.forall_mem_cons.mpr ⟨gf_Mo_1169, List.forall_mem_cons.mpr ⟨gf_Mo_1175, List.forall_mem_nil _⟩⟩⟩, List.forall_mem_cons.mpr ⟨pf_Mo_1169, List.forall_mem_cons.mpr ⟨pf_Mo_1175, List.forall_mem_nil _⟩⟩, List.forall_mem_nil _, List.forall_mem_nil _, List.forall_mem_nil _, GG_pl⟩ (by decide +kernel)
def n_Mo_styleOpen_at_f5_an : List an_T := []
def t_Mo_styleOpen_at_f5_ct : ct_L := []
set_option maxRecDepth 100000 in
theorem c_Mo_styleOpen_at_f5 {l : Launch} {D : va_G} {kA : Nat → ClassId} : ct_ok l D kA GG y_Mo_styleOpen_at_f5 z_Mo_styleOpen_at_f5 e_Mo_styleOpen_at_f5 := chk_all_ok (FT := [(348, 13, 162), (1169, 13, 158), (1175, 13, 159)]) (PT := [(1169, 13, 158, .int), (1175, 13, 159, .int)]) (CT := t_Mo_styleOpen_at_f5_ct) (KT := []) (NT := []) (AN := n_Mo_styleOpen_at_f5_an) (OT := [(o_Mo_styleOpen_f_0 5), (o_Mo_styleOpen_f_1 5), (o_Mo_styleOpen_f_2 5)]) 0 200 (List.forall_mem_cons.mpr ⟨(oo_Mo_styleOpen_f_0 5 (by decide) (by decide)), List.forall_mem_cons.mpr ⟨(oo_Mo_styleOpen_f_1 5 (by decide) (by decide)), List.forall_mem_cons.mpr ⟨(oo_Mo_styleOpen_f_2 5 (by decide) (by decide)), List.forall_mem_nil _⟩⟩⟩) (by decide +kernel) ⟨List.forall_mem_cons.mpr ⟨gf_Mo_348, List.forall_mem_cons.mpr ⟨gf_Mo_1169, List.forall_mem_cons.mpr ⟨gf_Mo_1175, List.forall_mem_nil _⟩⟩⟩, List.forall_mem_cons.mpr ⟨pf_Mo_1169, List.forall_mem_cons.mpr ⟨pf_Mo_1175, List.forall_mem_nil _⟩⟩, List.forall_mem_nil _, List.forall_mem_nil _, List.forall_mem_nil _, GG_pl⟩ (by decide +kernel)
def n_Mo_styleOpen_at_f6_an : List an_T := []
def t_Mo_styleOpen_at_f6_ct : ct_L := []
set_option maxRecDepth 100000 in
theorem c_Mo_styleOpen_at_f6 {l : Launch} {D : va_G} {kA : Nat → ClassId} : ct_ok l D kA GG y_Mo_styleOpen_at_f6 z_Mo_styleOpen_at_f6 e_Mo_styleOpen_at_f6 := chk_all_ok (FT := [(348, 13, 162), (1169, 13, 158), (1175, 13, 159)]) (PT := [(1169, 13, 158, .int), (1175, 13, 159, .int)]) (CT := t_Mo_styleOpen_at_f6_ct) (KT := []) (NT := []) (AN := n_Mo_styleOpen_at_f6_an) (OT := [(o_Mo_styleOpen_f_0 6), (o_Mo_styleOpen_f_1 6), (o_Mo_styleOpen_f_2 6)]) 0 200 (List.forall_mem_cons.mpr ⟨(oo_Mo_styleOpen_f_0 6 (by decide) (by decide)), List.forall_mem_cons.mpr ⟨(oo_Mo_styleOpen_f_1 6 (by decide) (by decide)), List.forall_mem_cons.mpr ⟨(oo_Mo_styleOpen_f_2 6 (by decide) (by decide)), List.forall_mem_nil _⟩⟩⟩) (by decide +kernel) ⟨List.forall_mem_cons.mpr ⟨gf_Mo_348, List.forall_mem_cons.mpr ⟨gf_Mo_1169, List.forall_mem_cons.mpr ⟨gf_Mo_1175, List.forall_mem_nil _⟩⟩⟩, List.forall_mem_cons.mpr ⟨pf_Mo_1169, List.forall_mem_cons.mpr ⟨pf_Mo_1175, List.forall_mem_nil _⟩⟩, List.forall_mem_nil _, List.forall_mem_nil _, List.forall_mem_nil _, GG_pl⟩ (by decide +kernel)
def n_Mo_styleOpen_at_f7_an : List an_T := []
def t_Mo_styleOpen_at_f7_ct : ct_L := []
set_option maxRecDepth 100000 in
theorem c_Mo_styleOpen_at_f7 {l : Launch} {D : va_G} {kA : Nat → ClassId} : ct_ok l D kA GG y_Mo_styleOpen_at_f7 z_Mo_styleOpen_at_f7 e_Mo_styleOpen_at_f7 := chk_all_ok (FT := [(348, 13, 162), (1169, 13, 158), (1175, 13, 159)]) (PT := [(1169, 13, 158, .int), (1175, 13, 159, .int)]) (CT := t_Mo_styleOpen_at_f7_ct) (KT := []) (NT := []) (AN := n_Mo_styleOpen_at_f7_an) (OT := [(o_Mo_styleOpen_f_0 7), (o_Mo_styleOpen_f_1 7), (o_Mo_styleOpen_f_2 7)]) 0 200 (List.forall_mem_cons.mpr ⟨(oo_Mo_styleOpen_f_0 7 (by decide) (by decide)), List.forall_mem_cons.mpr ⟨(oo_Mo_styleOpen_f_1 7 (by decide) (by decide)), List.forall_mem_cons.mpr ⟨(oo_Mo_styleOpen_f_2 7 (by decide) (by decide)), List.forall_mem_nil _⟩⟩⟩) (by decide +kernel) ⟨List.forall_mem_cons.mpr ⟨gf_Mo_348, List.forall_mem_cons.mpr ⟨gf_Mo_1169, List.forall_mem_cons.mpr ⟨gf_Mo_1175, List.forall_mem_nil _⟩⟩⟩, List.forall_mem_cons.mpr ⟨pf_Mo_1169, List.forall_mem_cons.mpr ⟨pf_Mo_1175, List.forall_mem_nil _⟩⟩, List.forall_mem_nil _, List.forall_mem_nil _, List.forall_mem_nil _, GG_pl⟩ (by decide +kernel)
def n_Mo_styleOpen_at_f8_an : List an_T := []
def t_Mo_styleOpen_at_f8_ct : ct_L := []
set_option maxRecDepth 100000 in
theorem c_Mo_styleOpen_at_f8 {l : Launch} {D : va_G} {kA : Nat → ClassId} : ct_ok l D kA GG y_Mo_styleOpen_at_f8 z_Mo_styleOpen_at_f8 e_Mo_styleOpen_at_f8 := chk_all_ok (FT := [(348, 13, 162), (1169, 13, 158), (1175, 13, 159)]) (PT := [(1169, 13, 158, .int), (1175, 13, 159, .int)]) (CT := t_Mo_styleOpen_at_f8_ct) (KT := []) (NT := []) (AN := n_Mo_styleOpen_at_f8_an) (OT := [(o_Mo_styleOpen_f_0 8), (o_Mo_styleOpen_f_1 8), (o_Mo_styleOpen_f_2 8)]) 0 200 (List.forall_mem_cons.mpr ⟨(oo_Mo_styleOpen_f_0 8 (by decide) (by decide)), List.forall_mem_cons.mpr ⟨(oo_Mo_styleOpen_f_1 8 (by decide) (by decide)), List.forall_mem_cons.mpr ⟨(oo_Mo_styleOpen_f_2 8 (by decide) (by decide)), List.forall_mem_nil _⟩⟩⟩) (by decide +kernel) ⟨List.forall_mem_cons.mpr ⟨gf_Mo_348, List.forall_mem_cons.mpr ⟨gf_Mo_1169, List.forall_mem_cons.mpr ⟨gf_Mo_1175, List.forall_mem_nil _⟩⟩⟩, List.forall_mem_cons.mpr ⟨pf_Mo_1169, List.forall_mem_cons.mpr ⟨pf_Mo_1175, List.forall_mem_nil _⟩⟩, List.forall_mem_nil _, List.forall_mem_nil _, List.forall_mem_nil _, GG_pl⟩ (by decide +kernel)
def n_Mo_styleOpen_at_f9_an : List an_T := []
def t_Mo_styleOpen_at_f9_ct : ct_L := []
set_option maxRecDepth 100000 in
theorem c_Mo_styleOpen_at_f9 {l : Launch} {D : va_G} {kA : Nat → ClassId} : ct_ok l D kA GG y_Mo_styleOpen_at_f9 z_Mo_styleOpen_at_f9 e_Mo_styleOpen_at_f9 := chk_all_ok (FT := [(348, 13, 162), (1169, 13, 158), (1175, 13, 159)]) (PT := [(1169, 13, 158, .int), (1175, 13, 159, .int)]) (CT := t_Mo_styleOpen_at_f9_ct) (KT := []) (NT := []) (AN := n_Mo_styleOpen_at_f9_an) (OT := [(o_Mo_styleOpen_f_0 9), (o_Mo_styleOpen_f_1 9), (o_Mo_styleOpen_f_2 9)]) 0 200 (List.forall_mem_cons.mpr ⟨(oo_Mo_styleOpen_f_0 9 (by decide) (by decide)), List.forall_mem_cons.mpr ⟨(oo_Mo_styleOpen_f_1 9 (by decide) (by decide)), List.forall_mem_cons.mpr ⟨(oo_Mo_styleOpen_f_2 9 (by decide) (by decide)), List.forall_mem_nil _⟩⟩⟩) (by decide +kernel) ⟨List.forall_mem_cons.mpr ⟨gf_Mo_348, List.forall_mem_cons.mpr ⟨gf_Mo_1169, List.forall_mem_cons.mpr ⟨gf_Mo_1175, List.forall_mem_nil _⟩⟩⟩, List.forall_mem_cons.mpr ⟨pf_Mo_1169, List.forall_mem_cons.mpr ⟨pf_Mo_1175, List.forall_mem_nil _⟩⟩, List.forall_mem_nil _, List.forall_mem_nil _, List.forall_mem_nil _, GG_pl⟩ (by decide +kernel)
def o_Mo_take_0 : or_T := (14, 5, [(0, (2, 0, 0, [150])), (1, (0, 0, 3, [])), (2, (2, 0, 0, [153])), (3, (0, 0, 30, [])), (4, (0, 0, 66297, []))], [(23, [4, 1, 3], [0, 1, -16709, -539]), (23, [4, 1, 3], [0, -1, 16709, 539]), (101, [0, 4], [5]), (23, [4, 1, 3], [0, 1, -16709, -539]), (23, [4, 1, 3], [0, -1, 16709, 539]), (10, [3, 2, 1], []), (9, [2, 0], [3])], [], [], [(20, [0, 1], [50, 1, 1, 5, 3, 1, 3, 2, 0, 5, 4, 6, 6, 2, 0, 16709, 1, 1, 6, 2, 0, 539, 3, 0, 3, 1, 1])], [], [])
theorem oo_Mo_take_0 {kA : Nat → ClassId} : or_ok kA GG o_Mo_take_0 := by
  intro A ta ws vs hD hth hl hk hds hf
  have hl : vs.length = 5 := hl
  have hk : ∀ q ∈ ([(0, (2, 0, 0, [150])), (1, (0, 0, 3, [])), (2, (2, 0, 0, [153])), (3, (0, 0, 30, [])), (4, (0, 0, 66297, []))] : List (Nat × tv_T)), tv_ok ta q.2 (n_v vs q.1) := hk
  obtain ⟨t0, hk⟩ := List.forall_mem_cons.mp hk
  have t0 : tv_ok ta (2, 0, 0, [150]) (n_v vs 0) := t0
  have r0 : ta (v_ad (n_v vs 0)) = some 150 := tv_rg t0
  obtain ⟨t1, hk⟩ := List.forall_mem_cons.mp hk
  have t1 : tv_ok ta (0, 0, 3, []) (n_v vs 1) := t1
  have k1 : 0 ≤ v_iv (n_v vs 1) ∧ v_iv (n_v vs 1) ≤ 3 := tv_rng t1
  obtain ⟨t2, hk⟩ := List.forall_mem_cons.mp hk
  have t2 : tv_ok ta (2, 0, 0, [153]) (n_v vs 2) := t2
  have r2 : ta (v_ad (n_v vs 2)) = some 153 := tv_rg t2
  obtain ⟨t3, hk⟩ := List.forall_mem_cons.mp hk
  have t3 : tv_ok ta (0, 0, 30, []) (n_v vs 3) := t3
  have k3 : 0 ≤ v_iv (n_v vs 3) ∧ v_iv (n_v vs 3) ≤ 30 := tv_rng t3
  obtain ⟨t4, hk⟩ := List.forall_mem_cons.mp hk
  have t4 : tv_ok ta (0, 0, 66297, []) (n_v vs 4) := t4
  have k4 : 0 ≤ v_iv (n_v vs 4) ∧ v_iv (n_v vs 4) ≤ 66297 := tv_rng t4
  have hf : fc_ok [(23, [4, 1, 3], [0, 1, -16709, -539]), (23, [4, 1, 3], [0, -1, 16709, 539]), (101, [0, 4], [5]), (23, [4, 1, 3], [0, 1, -16709, -539]), (23, [4, 1, 3], [0, -1, 16709, 539]), (10, [3, 2, 1], []), (9, [2, 0], [3])] ta ws vs := hf
  obtain ⟨f0, hf⟩ := fc_un (show (23 : Nat) < 100 from by decide) hf
  have f0 : 1 * v_iv (n_v vs 4) + ((-16709) * v_iv (n_v vs 1) + ((-539) * v_iv (n_v vs 3) + 0)) ≤ 0 := f0
  obtain ⟨f1, hf⟩ := fc_un (show (23 : Nat) < 100 from by decide) hf
  have f1 : (-1) * v_iv (n_v vs 4) + (16709 * v_iv (n_v vs 1) + (539 * v_iv (n_v vs 3) + 0)) ≤ 0 := f1
  obtain ⟨ta1, w1, le1, ⟨_, s1⟩, hf⟩ := fc_us (show ¬ (101 : Nat) < 100 from by decide) hf
  have s1 : (∀ b j, w_el ws b j = w_el w1 b j) ∧ ∀ b j, w_fd ws b j = if b = v_ad (n_v vs 0) ∧ j = 5 then n_v vs 4 else w_fd w1 b j := s1
  obtain ⟨f3, hf⟩ := fc_un (show (23 : Nat) < 100 from by decide) hf
  have f3 : 1 * v_iv (n_v vs 4) + ((-16709) * v_iv (n_v vs 1) + ((-539) * v_iv (n_v vs 3) + 0)) ≤ 0 := f3
  obtain ⟨f4, hf⟩ := fc_un (show (23 : Nat) < 100 from by decide) hf
  have f4 : (-1) * v_iv (n_v vs 4) + (16709 * v_iv (n_v vs 1) + (539 * v_iv (n_v vs 3) + 0)) ≤ 0 := f4
  obtain ⟨f5, hf⟩ := fc_un (show (10 : Nat) < 100 from by decide) hf
  have f5 : v_iv (n_v vs 3) = w_el w1 (v_ad (n_v vs 2)) (v_iv (n_v vs 1)).toNat := f5
  obtain ⟨f6, hf⟩ := fc_un (show (9 : Nat) < 100 from by decide) hf
  have f6 : n_v vs 2 = w_fd w1 (v_ad (n_v vs 0)) 3 := f6
  have ar_0_3_1 : w_ar w1 (n_v vs 0) 3 = w_ar ws (n_v vs 0) 3 := by show v_ad (w_fd w1 _ _) = v_ad (w_fd ws _ _); rw [s1.2, if_neg (fun e => absurd e.2 (by decide))]
  have cr_0_3 : ta (w_ar ws (n_v vs 0) 3) = some 153 := tv_rg (th_fd hD hth r0 (g := GG_150) rfl (k := 3) (t := (2, 0, 0, [153])) rfl rfl)
  have ad_2 : v_ad (n_v vs 2) = w_ar ws (n_v vs 0) 3 := (congrArg v_ad f6).trans ar_0_3_1
  rw [ad_2] at f5
  have h5 : v_iv (n_v vs 3) = w_ei w1 (w_ar ws (n_v vs 0) 3) (v_iv (n_v vs 1)) := f5
  have fe_0_5_1 : w_fi ws (n_v vs 0) 5 = v_iv (n_v vs 4) := by show v_iv (w_fd _ _ _) = _; rw [s1.2, if_pos ⟨rfl, rfl⟩]
  have ee_0_3_1_1 : w_el ws (w_ar ws (n_v vs 0) 3) (v_iv (n_v vs 1)).toNat = w_el w1 (w_ar ws (n_v vs 0) 3) (v_iv (n_v vs 1)).toNat := s1.1 _ _
  have br_0_3_1_0 : w_ei ws (w_ar ws (n_v vs 0) 3) (v_iv (n_v vs 1)) = w_el ws (w_ar ws (n_v vs 0) 3) (v_iv (n_v vs 1)).toNat := rfl
  have br_0_3_1_1 : w_ei w1 (w_ar ws (n_v vs 0) 3) (v_iv (n_v vs 1)) = w_el w1 (w_ar ws (n_v vs 0) 3) (v_iv (n_v vs 1)).toNat := rfl
  have hE_0_3_1 : ∀ j : Int, w_ei ws (w_ar ws (n_v vs 0) 3) j = w_ei w1 (w_ar ws (n_v vs 0) 3) j := fun j => s1.1 _ _
  have hK_0_3 : ∀ j : Int, 0 ≤ j → j < 4 → 0 ≤ w_ei ws (w_ar ws (n_v vs 0) 3) j ∧ w_ei ws (w_ar ws (n_v vs 0) 3) j ≤ 30 := fun j h0 h1 => th_el hD hth cr_0_3 (kd := 0) (n := 4) (m := 4) (lo := 0) (hi := 30) (rs := []) (L := []) rfl (by decide) (j := j.toNat) (by omega)
  have nf0 : fc_1 (20, [0, 1], [50, 1, 1, 5, 3, 1, 3, 2, 0, 5, 4, 6, 6, 2, 0, 16709, 1, 1, 6, 2, 0, 539, 3, 0, 3, 1, 1]) ws (vs) := by
    refine ⟨fun n hn => ?_, ?_⟩
    · have hn : n ∈ [0, 1] := hn
      rw [hl]
      simp only [List.mem_cons, List.not_mem_nil, or_false] at hn
      show n < 5; omega
    · show w_fi ws (n_v vs 0) 5 = ((16709 * v_iv (n_v vs 1)) + (539 * w_ei ws (w_ar ws (n_v vs 0) 3) (v_iv (n_v vs 1))))
      first | omega | grind
  refine ⟨(fun _ h => (by cases h)), [], trivial, ?_, (fun _ h => (by cases h))⟩
  rw [List.append_nil]
  exact List.forall_mem_cons.mpr ⟨⟨show (20 : Nat) < 100 from by decide, nf0⟩, (fun _ h => (by cases h))⟩
def n_Mo_take_an : List an_T := []
def t_Mo_take_ct : ct_L := [(0, 372, e_Mo_rowOf)]
set_option maxRecDepth 100000 in
theorem c_Mo_take {l : Launch} {D : va_G} {kA : Nat → ClassId} (h_Mo_rowOf : ct_ok l D kA GG y_Mo_rowOf z_Mo_rowOf e_Mo_rowOf) : ct_ok l D kA GG y_Mo_take z_Mo_take e_Mo_take := chk_all_ok (FT := [(20, 13, 3)]) (PT := [(391, 13, 5, .int)]) (CT := t_Mo_take_ct) (KT := []) (NT := []) (AN := n_Mo_take_an) (OT := [o_Mo_take_0]) 0 200 (List.forall_mem_cons.mpr ⟨oo_Mo_take_0, List.forall_mem_nil _⟩) (by decide +kernel) ⟨List.forall_mem_cons.mpr ⟨gf_Mo_20, List.forall_mem_nil _⟩, List.forall_mem_cons.mpr ⟨pf_Mo_391, List.forall_mem_nil _⟩, List.forall_mem_cons.mpr ⟨cl_static (y := y_Mo_rowOf) h_Mo_rowOf wm_2420 wm_9 wm_2418 wm_2419 ⟨by decide, by decide, by decide +kernel⟩ (by decide), List.forall_mem_nil _⟩, List.forall_mem_nil _, List.forall_mem_nil _, GG_pl⟩ (by decide +kernel)
def o_Mo_styleNeed_0 : or_T := (43, 9, [(0, (2, 0, 0, [150])), (2, (0, 0, 2009, [])), (4, (0, 0, 0, []))], [(20, [4, 0], [50, 1, 1, 1158, 1160, 4, 6, 1, 2, 1, 0, 0, 1, 1, 6, 3, 1, 160, 2, 1, 158, 0, 3]), (20, [0], [50, 2, 1, 158, 157, 160, 2, 12, 0, 7, 4, 3, 2, 0, 158, 0, 1, 2, 0, 157, 2, 7, 0, 3, 2, 0, 157, 0, 2010, 3, 14, 1, 10, 3, 0, 160, 5, 3, 2, 0, 157, 0, 1, 0, 0, 1, 10, 3, 0, 160, 5, 3, 2, 0, 157, 0, 1, 0, 4]), (20, [0, 2], [30, 0, 1, 1, 158, -1, 0, 0]), (20, [0, 2], [30, 0, -1, 1, 158, 1, 0, 0]), (20, [0], [30, -1, -1, 1, 8]), (102, [8], [0, 13008, 13009]), (8, [4], [0])], [], [], [(20, [2, 0], [30, 0, 1, 0, 0, -1, 1, 158])], [], [])
theorem oo_Mo_styleNeed_0 {kA : Nat → ClassId} : or_ok kA GG o_Mo_styleNeed_0 := by
  intro A ta ws vs hD hth hl hk hds hf
  have hl : vs.length = 9 := hl
  have hk : ∀ q ∈ ([(0, (2, 0, 0, [150])), (2, (0, 0, 2009, [])), (4, (0, 0, 0, []))] : List (Nat × tv_T)), tv_ok ta q.2 (n_v vs q.1) := hk
  obtain ⟨t0, hk⟩ := List.forall_mem_cons.mp hk
  have t0 : tv_ok ta (2, 0, 0, [150]) (n_v vs 0) := t0
  have r0 : ta (v_ad (n_v vs 0)) = some 150 := tv_rg t0
  obtain ⟨t2, hk⟩ := List.forall_mem_cons.mp hk
  have t2 : tv_ok ta (0, 0, 2009, []) (n_v vs 2) := t2
  have k2 : 0 ≤ v_iv (n_v vs 2) ∧ v_iv (n_v vs 2) ≤ 2009 := tv_rng t2
  obtain ⟨t4, hk⟩ := List.forall_mem_cons.mp hk
  have t4 : tv_ok ta (0, 0, 0, []) (n_v vs 4) := t4
  have k4 : 0 ≤ v_iv (n_v vs 4) ∧ v_iv (n_v vs 4) ≤ 0 := tv_rng t4
  have hf : fc_ok [(20, [4, 0], [50, 1, 1, 1158, 1160, 4, 6, 1, 2, 1, 0, 0, 1, 1, 6, 3, 1, 160, 2, 1, 158, 0, 3]), (20, [0], [50, 2, 1, 158, 157, 160, 2, 12, 0, 7, 4, 3, 2, 0, 158, 0, 1, 2, 0, 157, 2, 7, 0, 3, 2, 0, 157, 0, 2010, 3, 14, 1, 10, 3, 0, 160, 5, 3, 2, 0, 157, 0, 1, 0, 0, 1, 10, 3, 0, 160, 5, 3, 2, 0, 157, 0, 1, 0, 4]), (20, [0, 2], [30, 0, 1, 1, 158, -1, 0, 0]), (20, [0, 2], [30, 0, -1, 1, 158, 1, 0, 0]), (20, [0], [30, -1, -1, 1, 8]), (102, [8], [0, 13008, 13009]), (8, [4], [0])] ta ws vs := hf
  obtain ⟨f0, hf⟩ := fc_un (show (20 : Nat) < 100 from by decide) hf
  have f0 : (v_iv (n_v vs 4) = 1) → (w_ei ws (w_ar ws (n_v vs 0) 160) (w_fi ws (n_v vs 0) 158) = 3) := f0
  obtain ⟨f1, hf⟩ := fc_un (show (20 : Nat) < 100 from by decide) hf
  have f1 : ((w_fi ws (n_v vs 0) 158 + 1) ≤ w_fi ws (n_v vs 0) 157) ∧ ((w_fi ws (n_v vs 0) 157 ≤ 2010) ∧ ((w_ei ws (w_ar ws (n_v vs 0) 160) ((w_fi ws (n_v vs 0) 157 - 1)) = 0) ∨ (w_ei ws (w_ar ws (n_v vs 0) 160) ((w_fi ws (n_v vs 0) 157 - 1)) = 4))) := f1
  obtain ⟨f2, hf⟩ := fc_un (show (20 : Nat) < 100 from by decide) hf
  have f2 : 1 * w_fi ws (n_v vs 0) 158 + ((-1) * v_iv (n_v vs 2) + 0) ≤ 0 := f2
  obtain ⟨f3, hf⟩ := fc_un (show (20 : Nat) < 100 from by decide) hf
  have f3 : (-1) * w_fi ws (n_v vs 0) 158 + (1 * v_iv (n_v vs 2) + 0) ≤ 0 := f3
  obtain ⟨f4, hf⟩ := fc_un (show (20 : Nat) < 100 from by decide) hf
  have f4 : (-1) * w_fi ws (n_v vs 0) 8 + 0 ≤ (-1) := f4
  obtain ⟨ta1, w1, le1, ⟨_, s1⟩, hf⟩ := fc_us (show ¬ (102 : Nat) < 100 from by decide) hf
  obtain ⟨f6, hf⟩ := fc_un (show (8 : Nat) < 100 from by decide) hf
  have f6 : v_iv (n_v vs 4) = 0 := f6
  have cr_0_160 : ta (w_ar ws (n_v vs 0) 160) = some 259 := tv_rg (th_fd hD hth r0 (g := GG_150) rfl (k := 160) (t := (2, 0, 0, [259])) rfl rfl)
  have hK_0_160 : ∀ j : Int, 0 ≤ j → j < 2010 → 0 ≤ w_ei ws (w_ar ws (n_v vs 0) 160) j ∧ w_ei ws (w_ar ws (n_v vs 0) 160) j ≤ 4 := fun j h0 h1 => th_el hD hth cr_0_160 (kd := 0) (n := 2010) (m := 2010) (lo := 0) (hi := 4) (rs := []) (L := []) rfl (by decide) (j := j.toNat) (by omega)
  have kz_0_8 : 0 ≤ w_fi ws (n_v vs 0) 8 ∧ w_fi ws (n_v vs 0) 8 ≤ 5 := tv_rng (th_fd hD hth r0 (g := GG_150) rfl (k := 8) (t := (0, 0, 5, [])) rfl rfl)
  have kz_0_157 : 0 ≤ w_fi ws (n_v vs 0) 157 ∧ w_fi ws (n_v vs 0) 157 ≤ 2010 := tv_rng (th_fd hD hth r0 (g := GG_150) rfl (k := 157) (t := (0, 0, 2010, [])) rfl rfl)
  have kz_0_158 : 0 ≤ w_fi ws (n_v vs 0) 158 ∧ w_fi ws (n_v vs 0) 158 ≤ 2009 := tv_rng (th_fd hD hth r0 (g := GG_150) rfl (k := 158) (t := (0, 0, 2009, [])) rfl rfl)
  have nf0 : fc_1 (20, [2, 0], [30, 0, 1, 0, 0, -1, 1, 158]) ws (vs) := by
    refine ⟨fun n hn => ?_, ?_⟩
    · have hn : n ∈ [2, 0] := hn
      rw [hl]
      simp only [List.mem_cons, List.not_mem_nil, or_false] at hn
      show n < 9; omega
    · show 1 * v_iv (n_v vs 2) + ((-1) * w_fi ws (n_v vs 0) 158 + 0) ≤ 0
      omega
  refine ⟨(fun _ h => (by cases h)), [], trivial, ?_, (fun _ h => (by cases h))⟩
  rw [List.append_nil]
  exact List.forall_mem_cons.mpr ⟨⟨show (20 : Nat) < 100 from by decide, nf0⟩, (fun _ h => (by cases h))⟩
def o_Mo_styleNeed_1 : or_T := (23, 8, [(0, (2, 0, 0, [150])), (2, (0, 0, 2009, [])), (4, (0, 1, 1, [])), (5, (0, 0, 2009, [])), (6, (0, 1, 1, [])), (7, (0, 1, 2010, []))], [(1, [7, 5, 6], []), (9, [5, 0], [158]), (8, [4], [1]), (20, [4, 0], [50, 1, 1, 1158, 1160, 4, 6, 1, 2, 1, 0, 0, 1, 1, 6, 3, 1, 160, 2, 1, 158, 0, 3]), (20, [0], [50, 2, 1, 158, 157, 160, 2, 12, 0, 7, 4, 3, 2, 0, 158, 0, 1, 2, 0, 157, 2, 7, 0, 3, 2, 0, 157, 0, 2010, 3, 14, 1, 10, 3, 0, 160, 5, 3, 2, 0, 157, 0, 1, 0, 0, 1, 10, 3, 0, 160, 5, 3, 2, 0, 157, 0, 1, 0, 4]), (20, [0, 2], [30, 0, 1, 1, 158, -1, 0, 0]), (20, [0, 2], [30, 0, -1, 1, 158, 1, 0, 0])], [(7, (0, 1, 2009, []))], [], [], [], [(7, 5, 1, 1)])
theorem oo_Mo_styleNeed_1 {kA : Nat → ClassId} : or_ok kA GG o_Mo_styleNeed_1 := by
  intro A ta ws vs hD hth hl hk hds hf
  have hl : vs.length = 8 := hl
  have hk : ∀ q ∈ ([(0, (2, 0, 0, [150])), (2, (0, 0, 2009, [])), (4, (0, 1, 1, [])), (5, (0, 0, 2009, [])), (6, (0, 1, 1, [])), (7, (0, 1, 2010, []))] : List (Nat × tv_T)), tv_ok ta q.2 (n_v vs q.1) := hk
  obtain ⟨t0, hk⟩ := List.forall_mem_cons.mp hk
  have t0 : tv_ok ta (2, 0, 0, [150]) (n_v vs 0) := t0
  have r0 : ta (v_ad (n_v vs 0)) = some 150 := tv_rg t0
  obtain ⟨t2, hk⟩ := List.forall_mem_cons.mp hk
  have t2 : tv_ok ta (0, 0, 2009, []) (n_v vs 2) := t2
  have k2 : 0 ≤ v_iv (n_v vs 2) ∧ v_iv (n_v vs 2) ≤ 2009 := tv_rng t2
  obtain ⟨t4, hk⟩ := List.forall_mem_cons.mp hk
  have t4 : tv_ok ta (0, 1, 1, []) (n_v vs 4) := t4
  have k4 : 1 ≤ v_iv (n_v vs 4) ∧ v_iv (n_v vs 4) ≤ 1 := tv_rng t4
  obtain ⟨t5, hk⟩ := List.forall_mem_cons.mp hk
  have t5 : tv_ok ta (0, 0, 2009, []) (n_v vs 5) := t5
  have k5 : 0 ≤ v_iv (n_v vs 5) ∧ v_iv (n_v vs 5) ≤ 2009 := tv_rng t5
  obtain ⟨t6, hk⟩ := List.forall_mem_cons.mp hk
  have t6 : tv_ok ta (0, 1, 1, []) (n_v vs 6) := t6
  have k6 : 1 ≤ v_iv (n_v vs 6) ∧ v_iv (n_v vs 6) ≤ 1 := tv_rng t6
  obtain ⟨t7, hk⟩ := List.forall_mem_cons.mp hk
  have t7 : tv_ok ta (0, 1, 2010, []) (n_v vs 7) := t7
  have k7 : 1 ≤ v_iv (n_v vs 7) ∧ v_iv (n_v vs 7) ≤ 2010 := tv_rng t7
  have hds : ∀ q ∈ ([(7, 5, 1, 1)] : List of_T), n_iv vs q.2.1 + q.2.2.1 ≤ n_iv vs q.1 ∧ n_iv vs q.1 ≤ n_iv vs q.2.1 + q.2.2.2 := hds
  obtain ⟨d0, hds⟩ := List.forall_mem_cons.mp hds
  have d0 : v_iv (n_v vs 5) + 1 ≤ v_iv (n_v vs 7) ∧ v_iv (n_v vs 7) ≤ v_iv (n_v vs 5) + 1 := d0
  have hf : fc_ok [(1, [7, 5, 6], []), (9, [5, 0], [158]), (8, [4], [1]), (20, [4, 0], [50, 1, 1, 1158, 1160, 4, 6, 1, 2, 1, 0, 0, 1, 1, 6, 3, 1, 160, 2, 1, 158, 0, 3]), (20, [0], [50, 2, 1, 158, 157, 160, 2, 12, 0, 7, 4, 3, 2, 0, 158, 0, 1, 2, 0, 157, 2, 7, 0, 3, 2, 0, 157, 0, 2010, 3, 14, 1, 10, 3, 0, 160, 5, 3, 2, 0, 157, 0, 1, 0, 0, 1, 10, 3, 0, 160, 5, 3, 2, 0, 157, 0, 1, 0, 4]), (20, [0, 2], [30, 0, 1, 1, 158, -1, 0, 0]), (20, [0, 2], [30, 0, -1, 1, 158, 1, 0, 0])] ta ws vs := hf
  obtain ⟨f0, hf⟩ := fc_un (show (1 : Nat) < 100 from by decide) hf
  have f0 : v_iv (n_v vs 7) = v_iv (n_v vs 5) + v_iv (n_v vs 6) := f0
  obtain ⟨f1, hf⟩ := fc_un (show (9 : Nat) < 100 from by decide) hf
  have f1 : n_v vs 5 = w_fd ws (v_ad (n_v vs 0)) 158 := f1
  obtain ⟨f2, hf⟩ := fc_un (show (8 : Nat) < 100 from by decide) hf
  have f2 : v_iv (n_v vs 4) ≠ 0 := f2
  obtain ⟨f3, hf⟩ := fc_un (show (20 : Nat) < 100 from by decide) hf
  have f3 : (v_iv (n_v vs 4) = 1) → (w_ei ws (w_ar ws (n_v vs 0) 160) (w_fi ws (n_v vs 0) 158) = 3) := f3
  obtain ⟨f4, hf⟩ := fc_un (show (20 : Nat) < 100 from by decide) hf
  have f4 : ((w_fi ws (n_v vs 0) 158 + 1) ≤ w_fi ws (n_v vs 0) 157) ∧ ((w_fi ws (n_v vs 0) 157 ≤ 2010) ∧ ((w_ei ws (w_ar ws (n_v vs 0) 160) ((w_fi ws (n_v vs 0) 157 - 1)) = 0) ∨ (w_ei ws (w_ar ws (n_v vs 0) 160) ((w_fi ws (n_v vs 0) 157 - 1)) = 4))) := f4
  obtain ⟨f5, hf⟩ := fc_un (show (20 : Nat) < 100 from by decide) hf
  have f5 : 1 * w_fi ws (n_v vs 0) 158 + ((-1) * v_iv (n_v vs 2) + 0) ≤ 0 := f5
  obtain ⟨f6, hf⟩ := fc_un (show (20 : Nat) < 100 from by decide) hf
  have f6 : (-1) * w_fi ws (n_v vs 0) 158 + (1 * v_iv (n_v vs 2) + 0) ≤ 0 := f6
  have cr_0_160 : ta (w_ar ws (n_v vs 0) 160) = some 259 := tv_rg (th_fd hD hth r0 (g := GG_150) rfl (k := 160) (t := (2, 0, 0, [259])) rfl rfl)
  have g1 : v_iv (n_v vs 5) = w_fi ws (n_v vs 0) 158 := congrArg v_iv f1
  have hK_0_160 : ∀ j : Int, 0 ≤ j → j < 2010 → 0 ≤ w_ei ws (w_ar ws (n_v vs 0) 160) j ∧ w_ei ws (w_ar ws (n_v vs 0) 160) j ≤ 4 := fun j h0 h1 => th_el hD hth cr_0_160 (kd := 0) (n := 2010) (m := 2010) (lo := 0) (hi := 4) (rs := []) (L := []) rfl (by decide) (j := j.toNat) (by omega)
  have kz_0_157 : 0 ≤ w_fi ws (n_v vs 0) 157 ∧ w_fi ws (n_v vs 0) 157 ≤ 2010 := tv_rng (th_fd hD hth r0 (g := GG_150) rfl (k := 157) (t := (0, 0, 2010, [])) rfl rfl)
  have kz_0_158 : 0 ≤ w_fi ws (n_v vs 0) 158 ∧ w_fi ws (n_v vs 0) 158 ≤ 2009 := tv_rng (th_fd hD hth r0 (g := GG_150) rfl (k := 158) (t := (0, 0, 2009, [])) rfl rfl)
  have rf7 : tv_ok ta (0, 1, 2009, []) (n_v vs 7) := tv_in t7 (by first | omega | grind) (by first | omega | grind)
  refine ⟨List.forall_mem_cons.mpr ⟨rf7, (fun _ h => (by cases h))⟩, [], trivial, ?_, (fun _ h => (by cases h))⟩
  rw [List.append_nil]
  exact (fun _ h => (by cases h))
def o_Mo_styleNeed_2 : or_T := (43, 8, [(0, (2, 0, 0, [150])), (2, (0, 0, 2009, [])), (4, (0, 1, 1, [])), (5, (0, 0, 2009, [])), (6, (0, 1, 1, [])), (7, (0, 1, 2009, []))], [(101, [0, 7], [158]), (1, [7, 5, 6], []), (9, [5, 0], [158]), (8, [4], [1]), (20, [4, 0], [50, 1, 1, 1158, 1160, 4, 6, 1, 2, 1, 0, 0, 1, 1, 6, 3, 1, 160, 2, 1, 158, 0, 3]), (20, [0], [50, 2, 1, 158, 157, 160, 2, 12, 0, 7, 4, 3, 2, 0, 158, 0, 1, 2, 0, 157, 2, 7, 0, 3, 2, 0, 157, 0, 2010, 3, 14, 1, 10, 3, 0, 160, 5, 3, 2, 0, 157, 0, 1, 0, 0, 1, 10, 3, 0, 160, 5, 3, 2, 0, 157, 0, 1, 0, 4]), (20, [0, 2], [30, 0, 1, 1, 158, -1, 0, 0]), (20, [0, 2], [30, 0, -1, 1, 158, 1, 0, 0])], [], [], [(20, [0], [50, 2, 1, 158, 157, 160, 2, 12, 0, 7, 4, 3, 2, 0, 158, 0, 1, 2, 0, 157, 2, 7, 0, 3, 2, 0, 157, 0, 2010, 3, 14, 1, 10, 3, 0, 160, 5, 3, 2, 0, 157, 0, 1, 0, 0, 1, 10, 3, 0, 160, 5, 3, 2, 0, 157, 0, 1, 0, 4]), (20, [2, 0], [30, 0, 1, 0, 0, -1, 1, 158])], [], [(7, 5, 1, 1)])
theorem oo_Mo_styleNeed_2 {kA : Nat → ClassId} : or_ok kA GG o_Mo_styleNeed_2 := by
  intro A ta ws vs hD hth hl hk hds hf
  have hl : vs.length = 8 := hl
  have hk : ∀ q ∈ ([(0, (2, 0, 0, [150])), (2, (0, 0, 2009, [])), (4, (0, 1, 1, [])), (5, (0, 0, 2009, [])), (6, (0, 1, 1, [])), (7, (0, 1, 2009, []))] : List (Nat × tv_T)), tv_ok ta q.2 (n_v vs q.1) := hk
  obtain ⟨t0, hk⟩ := List.forall_mem_cons.mp hk
  have t0 : tv_ok ta (2, 0, 0, [150]) (n_v vs 0) := t0
  have r0 : ta (v_ad (n_v vs 0)) = some 150 := tv_rg t0
  obtain ⟨t2, hk⟩ := List.forall_mem_cons.mp hk
  have t2 : tv_ok ta (0, 0, 2009, []) (n_v vs 2) := t2
  have k2 : 0 ≤ v_iv (n_v vs 2) ∧ v_iv (n_v vs 2) ≤ 2009 := tv_rng t2
  obtain ⟨t4, hk⟩ := List.forall_mem_cons.mp hk
  have t4 : tv_ok ta (0, 1, 1, []) (n_v vs 4) := t4
  have k4 : 1 ≤ v_iv (n_v vs 4) ∧ v_iv (n_v vs 4) ≤ 1 := tv_rng t4
  obtain ⟨t5, hk⟩ := List.forall_mem_cons.mp hk
  have t5 : tv_ok ta (0, 0, 2009, []) (n_v vs 5) := t5
  have k5 : 0 ≤ v_iv (n_v vs 5) ∧ v_iv (n_v vs 5) ≤ 2009 := tv_rng t5
  obtain ⟨t6, hk⟩ := List.forall_mem_cons.mp hk
  have t6 : tv_ok ta (0, 1, 1, []) (n_v vs 6) := t6
  have k6 : 1 ≤ v_iv (n_v vs 6) ∧ v_iv (n_v vs 6) ≤ 1 := tv_rng t6
  obtain ⟨t7, hk⟩ := List.forall_mem_cons.mp hk
  have t7 : tv_ok ta (0, 1, 2009, []) (n_v vs 7) := t7
  have k7 : 1 ≤ v_iv (n_v vs 7) ∧ v_iv (n_v vs 7) ≤ 2009 := tv_rng t7
  have hds : ∀ q ∈ ([(7, 5, 1, 1)] : List of_T), n_iv vs q.2.1 + q.2.2.1 ≤ n_iv vs q.1 ∧ n_iv vs q.1 ≤ n_iv vs q.2.1 + q.2.2.2 := hds
  obtain ⟨d0, hds⟩ := List.forall_mem_cons.mp hds
  have d0 : v_iv (n_v vs 5) + 1 ≤ v_iv (n_v vs 7) ∧ v_iv (n_v vs 7) ≤ v_iv (n_v vs 5) + 1 := d0
  have hf : fc_ok [(101, [0, 7], [158]), (1, [7, 5, 6], []), (9, [5, 0], [158]), (8, [4], [1]), (20, [4, 0], [50, 1, 1, 1158, 1160, 4, 6, 1, 2, 1, 0, 0, 1, 1, 6, 3, 1, 160, 2, 1, 158, 0, 3]), (20, [0], [50, 2, 1, 158, 157, 160, 2, 12, 0, 7, 4, 3, 2, 0, 158, 0, 1, 2, 0, 157, 2, 7, 0, 3, 2, 0, 157, 0, 2010, 3, 14, 1, 10, 3, 0, 160, 5, 3, 2, 0, 157, 0, 1, 0, 0, 1, 10, 3, 0, 160, 5, 3, 2, 0, 157, 0, 1, 0, 4]), (20, [0, 2], [30, 0, 1, 1, 158, -1, 0, 0]), (20, [0, 2], [30, 0, -1, 1, 158, 1, 0, 0])] ta ws vs := hf
  obtain ⟨ta1, w1, le1, ⟨_, s1⟩, hf⟩ := fc_us (show ¬ (101 : Nat) < 100 from by decide) hf
  have s1 : (∀ b j, w_el ws b j = w_el w1 b j) ∧ ∀ b j, w_fd ws b j = if b = v_ad (n_v vs 0) ∧ j = 158 then n_v vs 7 else w_fd w1 b j := s1
  obtain ⟨f1, hf⟩ := fc_un (show (1 : Nat) < 100 from by decide) hf
  have f1 : v_iv (n_v vs 7) = v_iv (n_v vs 5) + v_iv (n_v vs 6) := f1
  obtain ⟨f2, hf⟩ := fc_un (show (9 : Nat) < 100 from by decide) hf
  have f2 : n_v vs 5 = w_fd w1 (v_ad (n_v vs 0)) 158 := f2
  obtain ⟨f3, hf⟩ := fc_un (show (8 : Nat) < 100 from by decide) hf
  have f3 : v_iv (n_v vs 4) ≠ 0 := f3
  obtain ⟨f4, hf⟩ := fc_un (show (20 : Nat) < 100 from by decide) hf
  have f4 : (v_iv (n_v vs 4) = 1) → (w_ei w1 (w_ar w1 (n_v vs 0) 160) (w_fi w1 (n_v vs 0) 158) = 3) := f4
  obtain ⟨f5, hf⟩ := fc_un (show (20 : Nat) < 100 from by decide) hf
  have f5 : ((w_fi w1 (n_v vs 0) 158 + 1) ≤ w_fi w1 (n_v vs 0) 157) ∧ ((w_fi w1 (n_v vs 0) 157 ≤ 2010) ∧ ((w_ei w1 (w_ar w1 (n_v vs 0) 160) ((w_fi w1 (n_v vs 0) 157 - 1)) = 0) ∨ (w_ei w1 (w_ar w1 (n_v vs 0) 160) ((w_fi w1 (n_v vs 0) 157 - 1)) = 4))) := f5
  obtain ⟨f6, hf⟩ := fc_un (show (20 : Nat) < 100 from by decide) hf
  have f6 : 1 * w_fi w1 (n_v vs 0) 158 + ((-1) * v_iv (n_v vs 2) + 0) ≤ 0 := f6
  obtain ⟨f7, hf⟩ := fc_un (show (20 : Nat) < 100 from by decide) hf
  have f7 : (-1) * w_fi w1 (n_v vs 0) 158 + (1 * v_iv (n_v vs 2) + 0) ≤ 0 := f7
  have ar_0_160_1 : w_ar w1 (n_v vs 0) 160 = w_ar ws (n_v vs 0) 160 := by show v_ad (w_fd w1 _ _) = v_ad (w_fd ws _ _); rw [s1.2, if_neg (fun e => absurd e.2 (by decide))]
  have cr_0_160 : ta (w_ar ws (n_v vs 0) 160) = some 259 := tv_rg (th_fd hD hth r0 (g := GG_150) rfl (k := 160) (t := (2, 0, 0, [259])) rfl rfl)
  have g2 : v_iv (n_v vs 5) = w_fi w1 (n_v vs 0) 158 := congrArg v_iv f2
  rw [ar_0_160_1] at f4
  rw [ar_0_160_1] at f5
  have fe_0_157_1 : w_fi ws (n_v vs 0) 157 = w_fi w1 (n_v vs 0) 157 := by show v_iv (w_fd _ _ _) = v_iv (w_fd _ _ _); rw [s1.2, if_neg (fun e => absurd e.2 (by decide))]
  have fe_0_158_1 : w_fi ws (n_v vs 0) 158 = v_iv (n_v vs 7) := by show v_iv (w_fd _ _ _) = _; rw [s1.2, if_pos ⟨rfl, rfl⟩]
  have hE_0_160_1 : ∀ j : Int, w_ei ws (w_ar ws (n_v vs 0) 160) j = w_ei w1 (w_ar ws (n_v vs 0) 160) j := fun j => s1.1 _ _
  have hK_0_160 : ∀ j : Int, 0 ≤ j → j < 2010 → 0 ≤ w_ei ws (w_ar ws (n_v vs 0) 160) j ∧ w_ei ws (w_ar ws (n_v vs 0) 160) j ≤ 4 := fun j h0 h1 => th_el hD hth cr_0_160 (kd := 0) (n := 2010) (m := 2010) (lo := 0) (hi := 4) (rs := []) (L := []) rfl (by decide) (j := j.toNat) (by omega)
  have kz_0_157 : 0 ≤ w_fi ws (n_v vs 0) 157 ∧ w_fi ws (n_v vs 0) 157 ≤ 2010 := tv_rng (th_fd hD hth r0 (g := GG_150) rfl (k := 157) (t := (0, 0, 2010, [])) rfl rfl)
  have kz_0_158 : 0 ≤ w_fi ws (n_v vs 0) 158 ∧ w_fi ws (n_v vs 0) 158 ≤ 2009 := tv_rng (th_fd hD hth r0 (g := GG_150) rfl (k := 158) (t := (0, 0, 2009, [])) rfl rfl)
  have nf0 : fc_1 (20, [0], [50, 2, 1, 158, 157, 160, 2, 12, 0, 7, 4, 3, 2, 0, 158, 0, 1, 2, 0, 157, 2, 7, 0, 3, 2, 0, 157, 0, 2010, 3, 14, 1, 10, 3, 0, 160, 5, 3, 2, 0, 157, 0, 1, 0, 0, 1, 10, 3, 0, 160, 5, 3, 2, 0, 157, 0, 1, 0, 4]) ws (vs) := by
    refine ⟨fun n hn => ?_, ?_⟩
    · have hn : n ∈ [0] := hn
      rw [hl]
      simp only [List.mem_cons, List.not_mem_nil, or_false] at hn
      show n < 8; omega
    · show ((w_fi ws (n_v vs 0) 158 + 1) ≤ w_fi ws (n_v vs 0) 157) ∧ ((w_fi ws (n_v vs 0) 157 ≤ 2010) ∧ ((w_ei ws (w_ar ws (n_v vs 0) 160) ((w_fi ws (n_v vs 0) 157 - 1)) = 0) ∨ (w_ei ws (w_ar ws (n_v vs 0) 160) ((w_fi ws (n_v vs 0) 157 - 1)) = 4)))
      first | omega | grind
  have nf1 : fc_1 (20, [2, 0], [30, 0, 1, 0, 0, -1, 1, 158]) ws (vs) := by
    refine ⟨fun n hn => ?_, ?_⟩
    · have hn : n ∈ [2, 0] := hn
      rw [hl]
      simp only [List.mem_cons, List.not_mem_nil, or_false] at hn
      show n < 8; omega
    · show 1 * v_iv (n_v vs 2) + ((-1) * w_fi ws (n_v vs 0) 158 + 0) ≤ 0
      omega
  refine ⟨(fun _ h => (by cases h)), [], trivial, ?_, (fun _ h => (by cases h))⟩
  rw [List.append_nil]
  exact List.forall_mem_cons.mpr ⟨⟨show (20 : Nat) < 100 from by decide, nf0⟩, List.forall_mem_cons.mpr ⟨⟨show (20 : Nat) < 100 from by decide, nf1⟩, (fun _ h => (by cases h))⟩⟩
def o_Mo_styleNeed_3 : or_T := (7, 4, [(0, (2, 0, 0, [150])), (2, (0, 0, 2009, []))], [(20, [0], [50, 2, 1, 158, 157, 160, 2, 12, 0, 7, 4, 3, 2, 0, 158, 0, 1, 2, 0, 157, 2, 7, 0, 3, 2, 0, 157, 0, 2010, 3, 14, 1, 10, 3, 0, 160, 5, 3, 2, 0, 157, 0, 1, 0, 0, 1, 10, 3, 0, 160, 5, 3, 2, 0, 157, 0, 1, 0, 4]), (20, [0, 2], [30, 0, 1, 1, 158, -1, 0, 0]), (20, [0, 2], [30, 0, -1, 1, 158, 1, 0, 0])], [], [], [(20, [2, 0], [30, 0, 1, 0, 0, -1, 1, 158])], [], [])
theorem oo_Mo_styleNeed_3 {kA : Nat → ClassId} : or_ok kA GG o_Mo_styleNeed_3 := by
  intro A ta ws vs hD hth hl hk hds hf
  have hl : vs.length = 4 := hl
  have hk : ∀ q ∈ ([(0, (2, 0, 0, [150])), (2, (0, 0, 2009, []))] : List (Nat × tv_T)), tv_ok ta q.2 (n_v vs q.1) := hk
  obtain ⟨t0, hk⟩ := List.forall_mem_cons.mp hk
  have t0 : tv_ok ta (2, 0, 0, [150]) (n_v vs 0) := t0
  have r0 : ta (v_ad (n_v vs 0)) = some 150 := tv_rg t0
  obtain ⟨t2, hk⟩ := List.forall_mem_cons.mp hk
  have t2 : tv_ok ta (0, 0, 2009, []) (n_v vs 2) := t2
  have k2 : 0 ≤ v_iv (n_v vs 2) ∧ v_iv (n_v vs 2) ≤ 2009 := tv_rng t2
  have hf : fc_ok [(20, [0], [50, 2, 1, 158, 157, 160, 2, 12, 0, 7, 4, 3, 2, 0, 158, 0, 1, 2, 0, 157, 2, 7, 0, 3, 2, 0, 157, 0, 2010, 3, 14, 1, 10, 3, 0, 160, 5, 3, 2, 0, 157, 0, 1, 0, 0, 1, 10, 3, 0, 160, 5, 3, 2, 0, 157, 0, 1, 0, 4]), (20, [0, 2], [30, 0, 1, 1, 158, -1, 0, 0]), (20, [0, 2], [30, 0, -1, 1, 158, 1, 0, 0])] ta ws vs := hf
  obtain ⟨f0, hf⟩ := fc_un (show (20 : Nat) < 100 from by decide) hf
  have f0 : ((w_fi ws (n_v vs 0) 158 + 1) ≤ w_fi ws (n_v vs 0) 157) ∧ ((w_fi ws (n_v vs 0) 157 ≤ 2010) ∧ ((w_ei ws (w_ar ws (n_v vs 0) 160) ((w_fi ws (n_v vs 0) 157 - 1)) = 0) ∨ (w_ei ws (w_ar ws (n_v vs 0) 160) ((w_fi ws (n_v vs 0) 157 - 1)) = 4))) := f0
  obtain ⟨f1, hf⟩ := fc_un (show (20 : Nat) < 100 from by decide) hf
  have f1 : 1 * w_fi ws (n_v vs 0) 158 + ((-1) * v_iv (n_v vs 2) + 0) ≤ 0 := f1
  obtain ⟨f2, hf⟩ := fc_un (show (20 : Nat) < 100 from by decide) hf
  have f2 : (-1) * w_fi ws (n_v vs 0) 158 + (1 * v_iv (n_v vs 2) + 0) ≤ 0 := f2
  have cr_0_160 : ta (w_ar ws (n_v vs 0) 160) = some 259 := tv_rg (th_fd hD hth r0 (g := GG_150) rfl (k := 160) (t := (2, 0, 0, [259])) rfl rfl)
  have hK_0_160 : ∀ j : Int, 0 ≤ j → j < 2010 → 0 ≤ w_ei ws (w_ar ws (n_v vs 0) 160) j ∧ w_ei ws (w_ar ws (n_v vs 0) 160) j ≤ 4 := fun j h0 h1 => th_el hD hth cr_0_160 (kd := 0) (n := 2010) (m := 2010) (lo := 0) (hi := 4) (rs := []) (L := []) rfl (by decide) (j := j.toNat) (by omega)
  have kz_0_157 : 0 ≤ w_fi ws (n_v vs 0) 157 ∧ w_fi ws (n_v vs 0) 157 ≤ 2010 := tv_rng (th_fd hD hth r0 (g := GG_150) rfl (k := 157) (t := (0, 0, 2010, [])) rfl rfl)
  have kz_0_158 : 0 ≤ w_fi ws (n_v vs 0) 158 ∧ w_fi ws (n_v vs 0) 158 ≤ 2009 := tv_rng (th_fd hD hth r0 (g := GG_150) rfl (k := 158) (t := (0, 0, 2009, [])) rfl rfl)
  have nf0 : fc_1 (20, [2, 0], [30, 0, 1, 0, 0, -1, 1, 158]) ws (vs) := by
    refine ⟨fun n hn => ?_, ?_⟩
    · have hn : n ∈ [2, 0] := hn
      rw [hl]
      simp only [List.mem_cons, List.not_mem_nil, or_false] at hn
      show n < 4; omega
    · show 1 * v_iv (n_v vs 2) + ((-1) * w_fi ws (n_v vs 0) 158 + 0) ≤ 0
      omega
  refine ⟨(fun _ h => (by cases h)), [], trivial, ?_, (fun _ h => (by cases h))⟩
  rw [List.append_nil]
  exact List.forall_mem_cons.mpr ⟨⟨show (20 : Nat) < 100 from by decide, nf0⟩, (fun _ h => (by cases h))⟩
def n_Mo_styleNeed_an : List an_T := []
def t_Mo_styleNeed_ct : ct_L := [(1, 463, e_Mo_wrong), (1, 1172, e_Mo_styleSign)]
set_option maxRecDepth 100000 in
theorem c_Mo_styleNeed {l : Launch} {D : va_G} {kA : Nat → ClassId} (h_Mo_styleSign : ct_ok l D kA GG y_Mo_styleSign z_Mo_styleSign e_Mo_styleSign) (h_Mo_wrong : ct_ok l D kA GG y_Mo_wrong z_Mo_wrong e_Mo_wrong) : ct_ok l D kA GG y_Mo_styleNeed z_Mo_styleNeed e_Mo_styleNeed := chk_all_ok (FT := [(348, 13, 162), (413, 13, 8), (1169, 13, 158)]) (PT := [(1169, 13, 158, .int)]) (CT := t_Mo_styleNeed_ct) (KT := []) (NT := []) (AN := n_Mo_styleNeed_an) (OT := [o_Mo_styleNeed_0, o_Mo_styleNeed_1, o_Mo_styleNeed_2, o_Mo_styleNeed_3]) 0 200 (List.forall_mem_cons.mpr ⟨oo_Mo_styleNeed_0, List.forall_mem_cons.mpr ⟨oo_Mo_styleNeed_1, List.forall_mem_cons.mpr ⟨oo_Mo_styleNeed_2, List.forall_mem_cons.mpr ⟨oo_Mo_styleNeed_3, List.forall_mem_nil _⟩⟩⟩⟩) (by decide +kernel) ⟨List.forall_mem_cons.mpr ⟨gf_Mo_348, List.forall_mem_cons.mpr ⟨gf_Mo_413, List.forall_mem_cons.mpr ⟨gf_Mo_1169, List.forall_mem_nil _⟩⟩⟩, List.forall_mem_cons.mpr ⟨pf_Mo_1169, List.forall_mem_nil _⟩, List.forall_mem_cons.mpr ⟨cl_virtual (y := y_Mo_wrong) (ci := 13) rfl rfl ⟨_, _, rfl⟩ (by decide +kernel) h_Mo_wrong wm_3017 wm_9 wm_3014 wm_3016 wv_13_1 ⟨by decide, by decide, by decide +kernel⟩ (by decide), List.forall_mem_cons.mpr ⟨cl_virtual (y := y_Mo_styleSign) (ci := 13) rfl rfl ⟨_, _, rfl⟩ (by decide +kernel) h_Mo_styleSign wm_3832 wm_9 wm_3829 wm_3831 wv_23_11 ⟨by decide, by decide, by decide +kernel⟩ (by decide), List.forall_mem_nil _⟩⟩, List.forall_mem_nil _, List.forall_mem_nil _, GG_pl⟩ (by decide +kernel)
def o_Mo_back_0 : or_T := (66, 14, [(0, (2, 0, 0, [150])), (1, (0, 0, 3, [])), (7, (2, 0, 0, [153])), (8, (0, 0, 30, [])), (9, (2, 0, 0, [154])), (10, (0, 0, 30, [])), (11, (0, 0, 30, [])), (12, (0, 1, 1, [])), (13, (0, 1, 31, []))], [(1, [13, 11, 12], []), (10, [11, 7, 1], []), (9, [7, 0], [3]), (7, [8, 10], [1]), (10, [10, 9, 1], []), (9, [9, 0], [4]), (10, [8, 7, 1], []), (20, [0], [50, 0, 2, 3, 4, 5, 2, 0, 4, 0, 5, 3, 0, 3, 7, 0, 3, 0, 4, 7, 0])], [(13, (0, 1, 30, []))], [], [], [], [(13, 11, 1, 1)])
theorem oo_Mo_back_0 {kA : Nat → ClassId} : or_ok kA GG o_Mo_back_0 := by
  intro A ta ws vs hD hth hl hk hds hf
  have hl : vs.length = 14 := hl
  have hk : ∀ q ∈ ([(0, (2, 0, 0, [150])), (1, (0, 0, 3, [])), (7, (2, 0, 0, [153])), (8, (0, 0, 30, [])), (9, (2, 0, 0, [154])), (10, (0, 0, 30, [])), (11, (0, 0, 30, [])), (12, (0, 1, 1, [])), (13, (0, 1, 31, []))] : List (Nat × tv_T)), tv_ok ta q.2 (n_v vs q.1) := hk
  obtain ⟨t0, hk⟩ := List.forall_mem_cons.mp hk
  have t0 : tv_ok ta (2, 0, 0, [150]) (n_v vs 0) := t0
  have r0 : ta (v_ad (n_v vs 0)) = some 150 := tv_rg t0
  obtain ⟨t1, hk⟩ := List.forall_mem_cons.mp hk
  have t1 : tv_ok ta (0, 0, 3, []) (n_v vs 1) := t1
  have k1 : 0 ≤ v_iv (n_v vs 1) ∧ v_iv (n_v vs 1) ≤ 3 := tv_rng t1
  obtain ⟨t7, hk⟩ := List.forall_mem_cons.mp hk
  have t7 : tv_ok ta (2, 0, 0, [153]) (n_v vs 7) := t7
  have r7 : ta (v_ad (n_v vs 7)) = some 153 := tv_rg t7
  obtain ⟨t8, hk⟩ := List.forall_mem_cons.mp hk
  have t8 : tv_ok ta (0, 0, 30, []) (n_v vs 8) := t8
  have k8 : 0 ≤ v_iv (n_v vs 8) ∧ v_iv (n_v vs 8) ≤ 30 := tv_rng t8
  obtain ⟨t9, hk⟩ := List.forall_mem_cons.mp hk
  have t9 : tv_ok ta (2, 0, 0, [154]) (n_v vs 9) := t9
  have r9 : ta (v_ad (n_v vs 9)) = some 154 := tv_rg t9
  obtain ⟨t10, hk⟩ := List.forall_mem_cons.mp hk
  have t10 : tv_ok ta (0, 0, 30, []) (n_v vs 10) := t10
  have k10 : 0 ≤ v_iv (n_v vs 10) ∧ v_iv (n_v vs 10) ≤ 30 := tv_rng t10
  obtain ⟨t11, hk⟩ := List.forall_mem_cons.mp hk
  have t11 : tv_ok ta (0, 0, 30, []) (n_v vs 11) := t11
  have k11 : 0 ≤ v_iv (n_v vs 11) ∧ v_iv (n_v vs 11) ≤ 30 := tv_rng t11
  obtain ⟨t12, hk⟩ := List.forall_mem_cons.mp hk
  have t12 : tv_ok ta (0, 1, 1, []) (n_v vs 12) := t12
  have k12 : 1 ≤ v_iv (n_v vs 12) ∧ v_iv (n_v vs 12) ≤ 1 := tv_rng t12
  obtain ⟨t13, hk⟩ := List.forall_mem_cons.mp hk
  have t13 : tv_ok ta (0, 1, 31, []) (n_v vs 13) := t13
  have k13 : 1 ≤ v_iv (n_v vs 13) ∧ v_iv (n_v vs 13) ≤ 31 := tv_rng t13
  have hds : ∀ q ∈ ([(13, 11, 1, 1)] : List of_T), n_iv vs q.2.1 + q.2.2.1 ≤ n_iv vs q.1 ∧ n_iv vs q.1 ≤ n_iv vs q.2.1 + q.2.2.2 := hds
  obtain ⟨d0, hds⟩ := List.forall_mem_cons.mp hds
  have d0 : v_iv (n_v vs 11) + 1 ≤ v_iv (n_v vs 13) ∧ v_iv (n_v vs 13) ≤ v_iv (n_v vs 11) + 1 := d0
  have hf : fc_ok [(1, [13, 11, 12], []), (10, [11, 7, 1], []), (9, [7, 0], [3]), (7, [8, 10], [1]), (10, [10, 9, 1], []), (9, [9, 0], [4]), (10, [8, 7, 1], []), (20, [0], [50, 0, 2, 3, 4, 5, 2, 0, 4, 0, 5, 3, 0, 3, 7, 0, 3, 0, 4, 7, 0])] ta ws vs := hf
  obtain ⟨f0, hf⟩ := fc_un (show (1 : Nat) < 100 from by decide) hf
  have f0 : v_iv (n_v vs 13) = v_iv (n_v vs 11) + v_iv (n_v vs 12) := f0
  obtain ⟨f1, hf⟩ := fc_un (show (10 : Nat) < 100 from by decide) hf
  have f1 : v_iv (n_v vs 11) = w_el ws (v_ad (n_v vs 7)) (v_iv (n_v vs 1)).toNat := f1
  obtain ⟨f2, hf⟩ := fc_un (show (9 : Nat) < 100 from by decide) hf
  have f2 : n_v vs 7 = w_fd ws (v_ad (n_v vs 0)) 3 := f2
  obtain ⟨f3, hf⟩ := fc_un (show (7 : Nat) < 100 from by decide) hf
  have f3 : v_iv (n_v vs 8) ≠ v_iv (n_v vs 10) := f3
  obtain ⟨f4, hf⟩ := fc_un (show (10 : Nat) < 100 from by decide) hf
  have f4 : v_iv (n_v vs 10) = w_el ws (v_ad (n_v vs 9)) (v_iv (n_v vs 1)).toNat := f4
  obtain ⟨f5, hf⟩ := fc_un (show (9 : Nat) < 100 from by decide) hf
  have f5 : n_v vs 9 = w_fd ws (v_ad (n_v vs 0)) 4 := f5
  obtain ⟨f6, hf⟩ := fc_un (show (10 : Nat) < 100 from by decide) hf
  have f6 : v_iv (n_v vs 8) = w_el ws (v_ad (n_v vs 7)) (v_iv (n_v vs 1)).toNat := f6
  obtain ⟨f7, hf⟩ := fc_un (show (20 : Nat) < 100 from by decide) hf
  have f7 : ∀ j0 : Int, 0 ≤ j0 → j0 < 4 → (w_ei ws (w_ar ws (n_v vs 0) 3) (j0) ≤ w_ei ws (w_ar ws (n_v vs 0) 4) (j0)) := f7
  have cr_0_3 : ta (w_ar ws (n_v vs 0) 3) = some 153 := tv_rg (th_fd hD hth r0 (g := GG_150) rfl (k := 3) (t := (2, 0, 0, [153])) rfl rfl)
  have cr_0_4 : ta (w_ar ws (n_v vs 0) 4) = some 154 := tv_rg (th_fd hD hth r0 (g := GG_150) rfl (k := 4) (t := (2, 0, 0, [154])) rfl rfl)
  have ad_7 : v_ad (n_v vs 7) = w_ar ws (n_v vs 0) 3 := congrArg v_ad f2
  have ad_9 : v_ad (n_v vs 9) = w_ar ws (n_v vs 0) 4 := congrArg v_ad f5
  rw [ad_7] at f1
  have h1 : v_iv (n_v vs 11) = w_ei ws (w_ar ws (n_v vs 0) 3) (v_iv (n_v vs 1)) := f1
  rw [ad_9] at f4
  have h4 : v_iv (n_v vs 10) = w_ei ws (w_ar ws (n_v vs 0) 4) (v_iv (n_v vs 1)) := f4
  rw [ad_7] at f6
  have h6 : v_iv (n_v vs 8) = w_ei ws (w_ar ws (n_v vs 0) 3) (v_iv (n_v vs 1)) := f6
  have br_0_3_1_0 : w_ei ws (w_ar ws (n_v vs 0) 3) (v_iv (n_v vs 1)) = w_el ws (w_ar ws (n_v vs 0) 3) (v_iv (n_v vs 1)).toNat := rfl
  have br_0_4_1_0 : w_ei ws (w_ar ws (n_v vs 0) 4) (v_iv (n_v vs 1)) = w_el ws (w_ar ws (n_v vs 0) 4) (v_iv (n_v vs 1)).toNat := rfl
  have hK_0_3 : ∀ j : Int, 0 ≤ j → j < 4 → 0 ≤ w_ei ws (w_ar ws (n_v vs 0) 3) j ∧ w_ei ws (w_ar ws (n_v vs 0) 3) j ≤ 30 := fun j h0 h1 => th_el hD hth cr_0_3 (kd := 0) (n := 4) (m := 4) (lo := 0) (hi := 30) (rs := []) (L := []) rfl (by decide) (j := j.toNat) (by omega)
  have hK_0_4 : ∀ j : Int, 0 ≤ j → j < 4 → 0 ≤ w_ei ws (w_ar ws (n_v vs 0) 4) j ∧ w_ei ws (w_ar ws (n_v vs 0) 4) j ≤ 30 := fun j h0 h1 => th_el hD hth cr_0_4 (kd := 0) (n := 4) (m := 4) (lo := 0) (hi := 30) (rs := []) (L := []) rfl (by decide) (j := j.toNat) (by omega)
  have rf13 : tv_ok ta (0, 1, 30, []) (n_v vs 13) := tv_in t13 (by first | omega | grind) (by first | omega | grind)
  refine ⟨List.forall_mem_cons.mpr ⟨rf13, (fun _ h => (by cases h))⟩, [], trivial, ?_, (fun _ h => (by cases h))⟩
  rw [List.append_nil]
  exact (fun _ h => (by cases h))
def o_Mo_back_1 : or_T := (69, 14, [(0, (2, 0, 0, [150])), (1, (0, 0, 3, [])), (7, (2, 0, 0, [153])), (8, (0, 0, 30, [])), (9, (2, 0, 0, [154])), (10, (0, 0, 30, [])), (11, (0, 0, 30, [])), (12, (0, 1, 1, [])), (13, (0, 1, 30, []))], [(100, [7, 1, 13], []), (1, [13, 11, 12], []), (10, [11, 7, 1], []), (9, [7, 0], [3]), (7, [8, 10], [1]), (10, [10, 9, 1], []), (9, [9, 0], [4]), (10, [8, 7, 1], []), (20, [0], [50, 0, 2, 3, 4, 5, 2, 0, 4, 0, 5, 3, 0, 3, 7, 0, 3, 0, 4, 7, 0])], [], [], [(20, [0], [50, 0, 2, 3, 4, 5, 2, 0, 4, 0, 5, 3, 0, 3, 7, 0, 3, 0, 4, 7, 0])], [], [(13, 11, 1, 1)])
theorem oo_Mo_back_1 {kA : Nat → ClassId} : or_ok kA GG o_Mo_back_1 := by
  intro A ta ws vs hD hth hl hk hds hf
  have hl : vs.length = 14 := hl
  have hk : ∀ q ∈ ([(0, (2, 0, 0, [150])), (1, (0, 0, 3, [])), (7, (2, 0, 0, [153])), (8, (0, 0, 30, [])), (9, (2, 0, 0, [154])), (10, (0, 0, 30, [])), (11, (0, 0, 30, [])), (12, (0, 1, 1, [])), (13, (0, 1, 30, []))] : List (Nat × tv_T)), tv_ok ta q.2 (n_v vs q.1) := hk
  obtain ⟨t0, hk⟩ := List.forall_mem_cons.mp hk
  have t0 : tv_ok ta (2, 0, 0, [150]) (n_v vs 0) := t0
  have r0 : ta (v_ad (n_v vs 0)) = some 150 := tv_rg t0
  obtain ⟨t1, hk⟩ := List.forall_mem_cons.mp hk
  have t1 : tv_ok ta (0, 0, 3, []) (n_v vs 1) := t1
  have k1 : 0 ≤ v_iv (n_v vs 1) ∧ v_iv (n_v vs 1) ≤ 3 := tv_rng t1
  obtain ⟨t7, hk⟩ := List.forall_mem_cons.mp hk
  have t7 : tv_ok ta (2, 0, 0, [153]) (n_v vs 7) := t7
  have r7 : ta (v_ad (n_v vs 7)) = some 153 := tv_rg t7
  obtain ⟨t8, hk⟩ := List.forall_mem_cons.mp hk
  have t8 : tv_ok ta (0, 0, 30, []) (n_v vs 8) := t8
  have k8 : 0 ≤ v_iv (n_v vs 8) ∧ v_iv (n_v vs 8) ≤ 30 := tv_rng t8
  obtain ⟨t9, hk⟩ := List.forall_mem_cons.mp hk
  have t9 : tv_ok ta (2, 0, 0, [154]) (n_v vs 9) := t9
  have r9 : ta (v_ad (n_v vs 9)) = some 154 := tv_rg t9
  obtain ⟨t10, hk⟩ := List.forall_mem_cons.mp hk
  have t10 : tv_ok ta (0, 0, 30, []) (n_v vs 10) := t10
  have k10 : 0 ≤ v_iv (n_v vs 10) ∧ v_iv (n_v vs 10) ≤ 30 := tv_rng t10
  obtain ⟨t11, hk⟩ := List.forall_mem_cons.mp hk
  have t11 : tv_ok ta (0, 0, 30, []) (n_v vs 11) := t11
  have k11 : 0 ≤ v_iv (n_v vs 11) ∧ v_iv (n_v vs 11) ≤ 30 := tv_rng t11
  obtain ⟨t12, hk⟩ := List.forall_mem_cons.mp hk
  have t12 : tv_ok ta (0, 1, 1, []) (n_v vs 12) := t12
  have k12 : 1 ≤ v_iv (n_v vs 12) ∧ v_iv (n_v vs 12) ≤ 1 := tv_rng t12
  obtain ⟨t13, hk⟩ := List.forall_mem_cons.mp hk
  have t13 : tv_ok ta (0, 1, 30, []) (n_v vs 13) := t13
  have k13 : 1 ≤ v_iv (n_v vs 13) ∧ v_iv (n_v vs 13) ≤ 30 := tv_rng t13
  have hds : ∀ q ∈ ([(13, 11, 1, 1)] : List of_T), n_iv vs q.2.1 + q.2.2.1 ≤ n_iv vs q.1 ∧ n_iv vs q.1 ≤ n_iv vs q.2.1 + q.2.2.2 := hds
  obtain ⟨d0, hds⟩ := List.forall_mem_cons.mp hds
  have d0 : v_iv (n_v vs 11) + 1 ≤ v_iv (n_v vs 13) ∧ v_iv (n_v vs 13) ≤ v_iv (n_v vs 11) + 1 := d0
  have hf : fc_ok [(100, [7, 1, 13], []), (1, [13, 11, 12], []), (10, [11, 7, 1], []), (9, [7, 0], [3]), (7, [8, 10], [1]), (10, [10, 9, 1], []), (9, [9, 0], [4]), (10, [8, 7, 1], []), (20, [0], [50, 0, 2, 3, 4, 5, 2, 0, 4, 0, 5, 3, 0, 3, 7, 0, 3, 0, 4, 7, 0])] ta ws vs := hf
  obtain ⟨ta1, w1, le1, ⟨_, s1⟩, hf⟩ := fc_us (show ¬ (100 : Nat) < 100 from by decide) hf
  have s1 : (∀ b j, w_el ws b j = if b = v_ad (n_v vs 7) ∧ j = (v_iv (n_v vs 1)).toNat then v_iv (n_v vs 13) else w_el w1 b j) ∧ ∀ b k, w_fd ws b k = w_fd w1 b k := s1
  obtain ⟨f1, hf⟩ := fc_un (show (1 : Nat) < 100 from by decide) hf
  have f1 : v_iv (n_v vs 13) = v_iv (n_v vs 11) + v_iv (n_v vs 12) := f1
  obtain ⟨f2, hf⟩ := fc_un (show (10 : Nat) < 100 from by decide) hf
  have f2 : v_iv (n_v vs 11) = w_el w1 (v_ad (n_v vs 7)) (v_iv (n_v vs 1)).toNat := f2
  obtain ⟨f3, hf⟩ := fc_un (show (9 : Nat) < 100 from by decide) hf
  have f3 : n_v vs 7 = w_fd w1 (v_ad (n_v vs 0)) 3 := f3
  obtain ⟨f4, hf⟩ := fc_un (show (7 : Nat) < 100 from by decide) hf
  have f4 : v_iv (n_v vs 8) ≠ v_iv (n_v vs 10) := f4
  obtain ⟨f5, hf⟩ := fc_un (show (10 : Nat) < 100 from by decide) hf
  have f5 : v_iv (n_v vs 10) = w_el w1 (v_ad (n_v vs 9)) (v_iv (n_v vs 1)).toNat := f5
  obtain ⟨f6, hf⟩ := fc_un (show (9 : Nat) < 100 from by decide) hf
  have f6 : n_v vs 9 = w_fd w1 (v_ad (n_v vs 0)) 4 := f6
  obtain ⟨f7, hf⟩ := fc_un (show (10 : Nat) < 100 from by decide) hf
  have f7 : v_iv (n_v vs 8) = w_el w1 (v_ad (n_v vs 7)) (v_iv (n_v vs 1)).toNat := f7
  obtain ⟨f8, hf⟩ := fc_un (show (20 : Nat) < 100 from by decide) hf
  have f8 : ∀ j0 : Int, 0 ≤ j0 → j0 < 4 → (w_ei w1 (w_ar w1 (n_v vs 0) 3) (j0) ≤ w_ei w1 (w_ar w1 (n_v vs 0) 4) (j0)) := f8
  have ar_0_3_1 : w_ar w1 (n_v vs 0) 3 = w_ar ws (n_v vs 0) 3 := by show v_ad (w_fd w1 _ _) = v_ad (w_fd ws _ _); rw [s1.2]
  have cr_0_3 : ta (w_ar ws (n_v vs 0) 3) = some 153 := tv_rg (th_fd hD hth r0 (g := GG_150) rfl (k := 3) (t := (2, 0, 0, [153])) rfl rfl)
  have ar_0_4_1 : w_ar w1 (n_v vs 0) 4 = w_ar ws (n_v vs 0) 4 := by show v_ad (w_fd w1 _ _) = v_ad (w_fd ws _ _); rw [s1.2]
  have cr_0_4 : ta (w_ar ws (n_v vs 0) 4) = some 154 := tv_rg (th_fd hD hth r0 (g := GG_150) rfl (k := 4) (t := (2, 0, 0, [154])) rfl rfl)
  have ad_7 : v_ad (n_v vs 7) = w_ar ws (n_v vs 0) 3 := (congrArg v_ad f3).trans ar_0_3_1
  have ad_9 : v_ad (n_v vs 9) = w_ar ws (n_v vs 0) 4 := (congrArg v_ad f6).trans ar_0_4_1
  rw [ad_7] at f2
  have h2 : v_iv (n_v vs 11) = w_ei w1 (w_ar ws (n_v vs 0) 3) (v_iv (n_v vs 1)) := f2
  rw [ad_9] at f5
  have h5 : v_iv (n_v vs 10) = w_ei w1 (w_ar ws (n_v vs 0) 4) (v_iv (n_v vs 1)) := f5
  rw [ad_7] at f7
  have h7 : v_iv (n_v vs 8) = w_ei w1 (w_ar ws (n_v vs 0) 3) (v_iv (n_v vs 1)) := f7
  rw [ar_0_3_1] at f8
  rw [ar_0_4_1] at f8
  have ee_0_3_1_1 : w_el ws (w_ar ws (n_v vs 0) 3) (v_iv (n_v vs 1)).toNat = v_iv (n_v vs 13) := by rw [s1.1, if_pos ⟨ad_7.symm, rfl⟩]
  have ee_0_4_1_1 : w_el ws (w_ar ws (n_v vs 0) 4) (v_iv (n_v vs 1)).toNat = w_el w1 (w_ar ws (n_v vs 0) 4) (v_iv (n_v vs 1)).toNat := by rw [s1.1, if_neg (fun e => by have e1 := e.1; rw [← e1] at r7; rw [cr_0_4] at r7; exact absurd (Option.some.inj r7) (by decide))]
  have br_0_3_1_0 : w_ei ws (w_ar ws (n_v vs 0) 3) (v_iv (n_v vs 1)) = w_el ws (w_ar ws (n_v vs 0) 3) (v_iv (n_v vs 1)).toNat := rfl
  have br_0_3_1_1 : w_ei w1 (w_ar ws (n_v vs 0) 3) (v_iv (n_v vs 1)) = w_el w1 (w_ar ws (n_v vs 0) 3) (v_iv (n_v vs 1)).toNat := rfl
  have br_0_4_1_0 : w_ei ws (w_ar ws (n_v vs 0) 4) (v_iv (n_v vs 1)) = w_el ws (w_ar ws (n_v vs 0) 4) (v_iv (n_v vs 1)).toNat := rfl
  have br_0_4_1_1 : w_ei w1 (w_ar ws (n_v vs 0) 4) (v_iv (n_v vs 1)) = w_el w1 (w_ar ws (n_v vs 0) 4) (v_iv (n_v vs 1)).toNat := rfl
  have hE_0_3_1 : ∀ j : Int, 0 ≤ j → (j = v_iv (n_v vs 1) → w_ei ws (w_ar ws (n_v vs 0) 3) j = v_iv (n_v vs 13)) ∧ (j ≠ v_iv (n_v vs 1) → w_ei ws (w_ar ws (n_v vs 0) 3) j = w_ei w1 (w_ar ws (n_v vs 0) 3) j) := fun j hj => ⟨fun h => by unfold w_ei; rw [s1.1, if_pos ⟨ad_7.symm, by rw [h]⟩], fun h => by unfold w_ei; rw [s1.1, if_neg (fun e => h (by have := e.2; omega))]⟩
  have hK_0_3 : ∀ j : Int, 0 ≤ j → j < 4 → 0 ≤ w_ei ws (w_ar ws (n_v vs 0) 3) j ∧ w_ei ws (w_ar ws (n_v vs 0) 3) j ≤ 30 := fun j h0 h1 => th_el hD hth cr_0_3 (kd := 0) (n := 4) (m := 4) (lo := 0) (hi := 30) (rs := []) (L := []) rfl (by decide) (j := j.toNat) (by omega)
  have hE_0_4_1 : ∀ j : Int, w_ei ws (w_ar ws (n_v vs 0) 4) j = w_ei w1 (w_ar ws (n_v vs 0) 4) j := fun j => by unfold w_ei; rw [s1.1, if_neg (fun e => by have e1 := e.1; rw [← e1] at r7; rw [cr_0_4] at r7; exact absurd (Option.some.inj r7) (by decide))]
  have hK_0_4 : ∀ j : Int, 0 ≤ j → j < 4 → 0 ≤ w_ei ws (w_ar ws (n_v vs 0) 4) j ∧ w_ei ws (w_ar ws (n_v vs 0) 4) j ≤ 30 := fun j h0 h1 => th_el hD hth cr_0_4 (kd := 0) (n := 4) (m := 4) (lo := 0) (hi := 30) (rs := []) (L := []) rfl (by decide) (j := j.toNat) (by omega)
  have nf0 : fc_1 (20, [0], [50, 0, 2, 3, 4, 5, 2, 0, 4, 0, 5, 3, 0, 3, 7, 0, 3, 0, 4, 7, 0]) ws (vs) := by
    refine ⟨fun n hn => ?_, ?_⟩
    · have hn : n ∈ [0] := hn
      rw [hl]
      simp only [List.mem_cons, List.not_mem_nil, or_false] at hn
      show n < 14; omega
    · show ∀ j0 : Int, 0 ≤ j0 → j0 < 4 → (w_ei ws (w_ar ws (n_v vs 0) 3) (j0) ≤ w_ei ws (w_ar ws (n_v vs 0) 4) (j0))
      first | omega | grind
  refine ⟨(fun _ h => (by cases h)), [], trivial, ?_, (fun _ h => (by cases h))⟩
  rw [List.append_nil]
  exact List.forall_mem_cons.mpr ⟨⟨show (20 : Nat) < 100 from by decide, nf0⟩, (fun _ h => (by cases h))⟩
def o_Mo_back_2 : or_T := (66, 12, [(0, (2, 0, 0, [150])), (1, (0, 0, 3, [])), (7, (2, 0, 0, [153])), (8, (0, 1, 30, [])), (9, (0, 0, 30, [])), (10, (0, -1, -1, [])), (11, (0, -1, 29, []))], [(1, [11, 9, 10], []), (10, [9, 7, 1], []), (9, [7, 0], [3]), (8, [8], [1]), (10, [8, 7, 1], []), (20, [0], [50, 0, 2, 3, 4, 5, 2, 0, 4, 0, 5, 3, 0, 3, 7, 0, 3, 0, 4, 7, 0])], [(11, (0, 0, 29, []))], [], [], [], [(11, 9, -1, -1)])
theorem oo_Mo_back_2 {kA : Nat → ClassId} : or_ok kA GG o_Mo_back_2 := by
  intro A ta ws vs hD hth hl hk hds hf
  have hl : vs.length = 12 := hl
  have hk : ∀ q ∈ ([(0, (2, 0, 0, [150])), (1, (0, 0, 3, [])), (7, (2, 0, 0, [153])), (8, (0, 1, 30, [])), (9, (0, 0, 30, [])), (10, (0, -1, -1, [])), (11, (0, -1, 29, []))] : List (Nat × tv_T)), tv_ok ta q.2 (n_v vs q.1) := hk
  obtain ⟨t0, hk⟩ := List.forall_mem_cons.mp hk
  have t0 : tv_ok ta (2, 0, 0, [150]) (n_v vs 0) := t0
  have r0 : ta (v_ad (n_v vs 0)) = some 150 := tv_rg t0
  obtain ⟨t1, hk⟩ := List.forall_mem_cons.mp hk
  have t1 : tv_ok ta (0, 0, 3, []) (n_v vs 1) := t1
  have k1 : 0 ≤ v_iv (n_v vs 1) ∧ v_iv (n_v vs 1) ≤ 3 := tv_rng t1
  obtain ⟨t7, hk⟩ := List.forall_mem_cons.mp hk
  have t7 : tv_ok ta (2, 0, 0, [153]) (n_v vs 7) := t7
  have r7 : ta (v_ad (n_v vs 7)) = some 153 := tv_rg t7
  obtain ⟨t8, hk⟩ := List.forall_mem_cons.mp hk
  have t8 : tv_ok ta (0, 1, 30, []) (n_v vs 8) := t8
  have k8 : 1 ≤ v_iv (n_v vs 8) ∧ v_iv (n_v vs 8) ≤ 30 := tv_rng t8
  obtain ⟨t9, hk⟩ := List.forall_mem_cons.mp hk
  have t9 : tv_ok ta (0, 0, 30, []) (n_v vs 9) := t9
  have k9 : 0 ≤ v_iv (n_v vs 9) ∧ v_iv (n_v vs 9) ≤ 30 := tv_rng t9
  obtain ⟨t10, hk⟩ := List.forall_mem_cons.mp hk
  have t10 : tv_ok ta (0, -1, -1, []) (n_v vs 10) := t10
  have k10 : (-1) ≤ v_iv (n_v vs 10) ∧ v_iv (n_v vs 10) ≤ (-1) := tv_rng t10
  obtain ⟨t11, hk⟩ := List.forall_mem_cons.mp hk
  have t11 : tv_ok ta (0, -1, 29, []) (n_v vs 11) := t11
  have k11 : (-1) ≤ v_iv (n_v vs 11) ∧ v_iv (n_v vs 11) ≤ 29 := tv_rng t11
  have hds : ∀ q ∈ ([(11, 9, -1, -1)] : List of_T), n_iv vs q.2.1 + q.2.2.1 ≤ n_iv vs q.1 ∧ n_iv vs q.1 ≤ n_iv vs q.2.1 + q.2.2.2 := hds
  obtain ⟨d0, hds⟩ := List.forall_mem_cons.mp hds
  have d0 : v_iv (n_v vs 9) + (-1) ≤ v_iv (n_v vs 11) ∧ v_iv (n_v vs 11) ≤ v_iv (n_v vs 9) + (-1) := d0
  have hf : fc_ok [(1, [11, 9, 10], []), (10, [9, 7, 1], []), (9, [7, 0], [3]), (8, [8], [1]), (10, [8, 7, 1], []), (20, [0], [50, 0, 2, 3, 4, 5, 2, 0, 4, 0, 5, 3, 0, 3, 7, 0, 3, 0, 4, 7, 0])] ta ws vs := hf
  obtain ⟨f0, hf⟩ := fc_un (show (1 : Nat) < 100 from by decide) hf
  have f0 : v_iv (n_v vs 11) = v_iv (n_v vs 9) + v_iv (n_v vs 10) := f0
  obtain ⟨f1, hf⟩ := fc_un (show (10 : Nat) < 100 from by decide) hf
  have f1 : v_iv (n_v vs 9) = w_el ws (v_ad (n_v vs 7)) (v_iv (n_v vs 1)).toNat := f1
  obtain ⟨f2, hf⟩ := fc_un (show (9 : Nat) < 100 from by decide) hf
  have f2 : n_v vs 7 = w_fd ws (v_ad (n_v vs 0)) 3 := f2
  obtain ⟨f3, hf⟩ := fc_un (show (8 : Nat) < 100 from by decide) hf
  have f3 : v_iv (n_v vs 8) ≠ 0 := f3
  obtain ⟨f4, hf⟩ := fc_un (show (10 : Nat) < 100 from by decide) hf
  have f4 : v_iv (n_v vs 8) = w_el ws (v_ad (n_v vs 7)) (v_iv (n_v vs 1)).toNat := f4
  obtain ⟨f5, hf⟩ := fc_un (show (20 : Nat) < 100 from by decide) hf
  have f5 : ∀ j0 : Int, 0 ≤ j0 → j0 < 4 → (w_ei ws (w_ar ws (n_v vs 0) 3) (j0) ≤ w_ei ws (w_ar ws (n_v vs 0) 4) (j0)) := f5
  have cr_0_3 : ta (w_ar ws (n_v vs 0) 3) = some 153 := tv_rg (th_fd hD hth r0 (g := GG_150) rfl (k := 3) (t := (2, 0, 0, [153])) rfl rfl)
  have cr_0_4 : ta (w_ar ws (n_v vs 0) 4) = some 154 := tv_rg (th_fd hD hth r0 (g := GG_150) rfl (k := 4) (t := (2, 0, 0, [154])) rfl rfl)
  have ad_7 : v_ad (n_v vs 7) = w_ar ws (n_v vs 0) 3 := congrArg v_ad f2
  rw [ad_7] at f1
  have h1 : v_iv (n_v vs 9) = w_ei ws (w_ar ws (n_v vs 0) 3) (v_iv (n_v vs 1)) := f1
  rw [ad_7] at f4
  have h4 : v_iv (n_v vs 8) = w_ei ws (w_ar ws (n_v vs 0) 3) (v_iv (n_v vs 1)) := f4
  have br_0_3_1_0 : w_ei ws (w_ar ws (n_v vs 0) 3) (v_iv (n_v vs 1)) = w_el ws (w_ar ws (n_v vs 0) 3) (v_iv (n_v vs 1)).toNat := rfl
  have hK_0_3 : ∀ j : Int, 0 ≤ j → j < 4 → 0 ≤ w_ei ws (w_ar ws (n_v vs 0) 3) j ∧ w_ei ws (w_ar ws (n_v vs 0) 3) j ≤ 30 := fun j h0 h1 => th_el hD hth cr_0_3 (kd := 0) (n := 4) (m := 4) (lo := 0) (hi := 30) (rs := []) (L := []) rfl (by decide) (j := j.toNat) (by omega)
  have hK_0_4 : ∀ j : Int, 0 ≤ j → j < 4 → 0 ≤ w_ei ws (w_ar ws (n_v vs 0) 4) j ∧ w_ei ws (w_ar ws (n_v vs 0) 4) j ≤ 30 := fun j h0 h1 => th_el hD hth cr_0_4 (kd := 0) (n := 4) (m := 4) (lo := 0) (hi := 30) (rs := []) (L := []) rfl (by decide) (j := j.toNat) (by omega)
  have rf11 : tv_ok ta (0, 0, 29, []) (n_v vs 11) := tv_in t11 (by first | omega | grind) (by first | omega | grind)
  refine ⟨List.forall_mem_cons.mpr ⟨rf11, (fun _ h => (by cases h))⟩, [], trivial, ?_, (fun _ h => (by cases h))⟩
  rw [List.append_nil]
  exact (fun _ h => (by cases h))
def o_Mo_back_3 : or_T := (69, 12, [(0, (2, 0, 0, [150])), (1, (0, 0, 3, [])), (7, (2, 0, 0, [153])), (8, (0, 1, 30, [])), (9, (0, 0, 30, [])), (10, (0, -1, -1, [])), (11, (0, 0, 29, []))], [(100, [7, 1, 11], []), (1, [11, 9, 10], []), (10, [9, 7, 1], []), (9, [7, 0], [3]), (8, [8], [1]), (10, [8, 7, 1], []), (20, [0], [50, 0, 2, 3, 4, 5, 2, 0, 4, 0, 5, 3, 0, 3, 7, 0, 3, 0, 4, 7, 0])], [], [], [(20, [0], [50, 0, 2, 3, 4, 5, 2, 0, 4, 0, 5, 3, 0, 3, 7, 0, 3, 0, 4, 7, 0])], [], [(11, 9, -1, -1)])
theorem oo_Mo_back_3 {kA : Nat → ClassId} : or_ok kA GG o_Mo_back_3 := by
  intro A ta ws vs hD hth hl hk hds hf
  have hl : vs.length = 12 := hl
  have hk : ∀ q ∈ ([(0, (2, 0, 0, [150])), (1, (0, 0, 3, [])), (7, (2, 0, 0, [153])), (8, (0, 1, 30, [])), (9, (0, 0, 30, [])), (10, (0, -1, -1, [])), (11, (0, 0, 29, []))] : List (Nat × tv_T)), tv_ok ta q.2 (n_v vs q.1) := hk
  obtain ⟨t0, hk⟩ := List.forall_mem_cons.mp hk
  have t0 : tv_ok ta (2, 0, 0, [150]) (n_v vs 0) := t0
  have r0 : ta (v_ad (n_v vs 0)) = some 150 := tv_rg t0
  obtain ⟨t1, hk⟩ := List.forall_mem_cons.mp hk
  have t1 : tv_ok ta (0, 0, 3, []) (n_v vs 1) := t1
  have k1 : 0 ≤ v_iv (n_v vs 1) ∧ v_iv (n_v vs 1) ≤ 3 := tv_rng t1
  obtain ⟨t7, hk⟩ := List.forall_mem_cons.mp hk
  have t7 : tv_ok ta (2, 0, 0, [153]) (n_v vs 7) := t7
  have r7 : ta (v_ad (n_v vs 7)) = some 153 := tv_rg t7
  obtain ⟨t8, hk⟩ := List.forall_mem_cons.mp hk
  have t8 : tv_ok ta (0, 1, 30, []) (n_v vs 8) := t8
  have k8 : 1 ≤ v_iv (n_v vs 8) ∧ v_iv (n_v vs 8) ≤ 30 := tv_rng t8
  obtain ⟨t9, hk⟩ := List.forall_mem_cons.mp hk
  have t9 : tv_ok ta (0, 0, 30, []) (n_v vs 9) := t9
  have k9 : 0 ≤ v_iv (n_v vs 9) ∧ v_iv (n_v vs 9) ≤ 30 := tv_rng t9
  obtain ⟨t10, hk⟩ := List.forall_mem_cons.mp hk
  have t10 : tv_ok ta (0, -1, -1, []) (n_v vs 10) := t10
  have k10 : (-1) ≤ v_iv (n_v vs 10) ∧ v_iv (n_v vs 10) ≤ (-1) := tv_rng t10
  obtain ⟨t11, hk⟩ := List.forall_mem_cons.mp hk
  have t11 : tv_ok ta (0, 0, 29, []) (n_v vs 11) := t11
  have k11 : 0 ≤ v_iv (n_v vs 11) ∧ v_iv (n_v vs 11) ≤ 29 := tv_rng t11
  have hds : ∀ q ∈ ([(11, 9, -1, -1)] : List of_T), n_iv vs q.2.1 + q.2.2.1 ≤ n_iv vs q.1 ∧ n_iv vs q.1 ≤ n_iv vs q.2.1 + q.2.2.2 := hds
  obtain ⟨d0, hds⟩ := List.forall_mem_cons.mp hds
  have d0 : v_iv (n_v vs 9) + (-1) ≤ v_iv (n_v vs 11) ∧ v_iv (n_v vs 11) ≤ v_iv (n_v vs 9) + (-1) := d0
  have hf : fc_ok [(100, [7, 1, 11], []), (1, [11, 9, 10], []), (10, [9, 7, 1], []), (9, [7, 0], [3]), (8, [8], [1]), (10, [8, 7, 1], []), (20, [0], [50, 0, 2, 3, 4, 5, 2, 0, 4, 0, 5, 3, 0, 3, 7, 0, 3, 0, 4, 7, 0])] ta ws vs := hf
  obtain ⟨ta1, w1, le1, ⟨_, s1⟩, hf⟩ := fc_us (show ¬ (100 : Nat) < 100 from by decide) hf
  have s1 : (∀ b j, w_el ws b j = if b = v_ad (n_v vs 7) ∧ j = (v_iv (n_v vs 1)).toNat then v_iv (n_v vs 11) else w_el w1 b j) ∧ ∀ b k, w_fd ws b k = w_fd w1 b k := s1
  obtain ⟨f1, hf⟩ := fc_un (show (1 : Nat) < 100 from by decide) hf
  have f1 : v_iv (n_v vs 11) = v_iv (n_v vs 9) + v_iv (n_v vs 10) := f1
  obtain ⟨f2, hf⟩ := fc_un (show (10 : Nat) < 100 from by decide) hf
  have f2 : v_iv (n_v vs 9) = w_el w1 (v_ad (n_v vs 7)) (v_iv (n_v vs 1)).toNat := f2
  obtain ⟨f3, hf⟩ := fc_un (show (9 : Nat) < 100 from by decide) hf
  have f3 : n_v vs 7 = w_fd w1 (v_ad (n_v vs 0)) 3 := f3
  obtain ⟨f4, hf⟩ := fc_un (show (8 : Nat) < 100 from by decide) hf
  have f4 : v_iv (n_v vs 8) ≠ 0 := f4
  obtain ⟨f5, hf⟩ := fc_un (show (10 : Nat) < 100 from by decide) hf
  have f5 : v_iv (n_v vs 8) = w_el w1 (v_ad (n_v vs 7)) (v_iv (n_v vs 1)).toNat := f5
  obtain ⟨f6, hf⟩ := fc_un (show (20 : Nat) < 100 from by decide) hf
  have f6 : ∀ j0 : Int, 0 ≤ j0 → j0 < 4 → (w_ei w1 (w_ar w1 (n_v vs 0) 3) (j0) ≤ w_ei w1 (w_ar w1 (n_v vs 0) 4) (j0)) := f6
  have ar_0_3_1 : w_ar w1 (n_v vs 0) 3 = w_ar ws (n_v vs 0) 3 := by show v_ad (w_fd w1 _ _) = v_ad (w_fd ws _ _); rw [s1.2]
  have cr_0_3 : ta (w_ar ws (n_v vs 0) 3) = some 153 := tv_rg (th_fd hD hth r0 (g := GG_150) rfl (k := 3) (t := (2, 0, 0, [153])) rfl rfl)
  have ar_0_4_1 : w_ar w1 (n_v vs 0) 4 = w_ar ws (n_v vs 0) 4 := by show v_ad (w_fd w1 _ _) = v_ad (w_fd ws _ _); rw [s1.2]
  have cr_0_4 : ta (w_ar ws (n_v vs 0) 4) = some 154 := tv_rg (th_fd hD hth r0 (g := GG_150) rfl (k := 4) (t := (2, 0, 0, [154])) rfl rfl)
  have ad_7 : v_ad (n_v vs 7) = w_ar ws (n_v vs 0) 3 := (congrArg v_ad f3).trans ar_0_3_1
  rw [ad_7] at f2
  have h2 : v_iv (n_v vs 9) = w_ei w1 (w_ar ws (n_v vs 0) 3) (v_iv (n_v vs 1)) := f2
  rw [ad_7] at f5
  have h5 : v_iv (n_v vs 8) = w_ei w1 (w_ar ws (n_v vs 0) 3) (v_iv (n_v vs 1)) := f5
  rw [ar_0_3_1] at f6
  rw [ar_0_4_1] at f6
  have ee_0_3_1_1 : w_el ws (w_ar ws (n_v vs 0) 3) (v_iv (n_v vs 1)).toNat = v_iv (n_v vs 11) := by rw [s1.1, if_pos ⟨ad_7.symm, rfl⟩]
  have br_0_3_1_0 : w_ei ws (w_ar ws (n_v vs 0) 3) (v_iv (n_v vs 1)) = w_el ws (w_ar ws (n_v vs 0) 3) (v_iv (n_v vs 1)).toNat := rfl
  have br_0_3_1_1 : w_ei w1 (w_ar ws (n_v vs 0) 3) (v_iv (n_v vs 1)) = w_el w1 (w_ar ws (n_v vs 0) 3) (v_iv (n_v vs 1)).toNat := rfl
  have hE_0_3_1 : ∀ j : Int, 0 ≤ j → (j = v_iv (n_v vs 1) → w_ei ws (w_ar ws (n_v vs 0) 3) j = v_iv (n_v vs 11)) ∧ (j ≠ v_iv (n_v vs 1) → w_ei ws (w_ar ws (n_v vs 0) 3) j = w_ei w1 (w_ar ws (n_v vs 0) 3) j) := fun j hj => ⟨fun h => by unfold w_ei; rw [s1.1, if_pos ⟨ad_7.symm, by rw [h]⟩], fun h => by unfold w_ei; rw [s1.1, if_neg (fun e => h (by have := e.2; omega))]⟩
  have hK_0_3 : ∀ j : Int, 0 ≤ j → j < 4 → 0 ≤ w_ei ws (w_ar ws (n_v vs 0) 3) j ∧ w_ei ws (w_ar ws (n_v vs 0) 3) j ≤ 30 := fun j h0 h1 => th_el hD hth cr_0_3 (kd := 0) (n := 4) (m := 4) (lo := 0) (hi := 30) (rs := []) (L := []) rfl (by decide) (j := j.toNat) (by omega)
  have hE_0_4_1 : ∀ j : Int, w_ei ws (w_ar ws (n_v vs 0) 4) j = w_ei w1 (w_ar ws (n_v vs 0) 4) j := fun j => by unfold w_ei; rw [s1.1, if_neg (fun e => by have e1 := e.1; rw [← e1] at r7; rw [cr_0_4] at r7; exact absurd (Option.some.inj r7) (by decide))]
  have hK_0_4 : ∀ j : Int, 0 ≤ j → j < 4 → 0 ≤ w_ei ws (w_ar ws (n_v vs 0) 4) j ∧ w_ei ws (w_ar ws (n_v vs 0) 4) j ≤ 30 := fun j h0 h1 => th_el hD hth cr_0_4 (kd := 0) (n := 4) (m := 4) (lo := 0) (hi := 30) (rs := []) (L := []) rfl (by decide) (j := j.toNat) (by omega)
  have nf0 : fc_1 (20, [0], [50, 0, 2, 3, 4, 5, 2, 0, 4, 0, 5, 3, 0, 3, 7, 0, 3, 0, 4, 7, 0]) ws (vs) := by
    refine ⟨fun n hn => ?_, ?_⟩
    · have hn : n ∈ [0] := hn
      rw [hl]
      simp only [List.mem_cons, List.not_mem_nil, or_false] at hn
      show n < 12; omega
    · show ∀ j0 : Int, 0 ≤ j0 → j0 < 4 → (w_ei ws (w_ar ws (n_v vs 0) 3) (j0) ≤ w_ei ws (w_ar ws (n_v vs 0) 4) (j0))
      first | omega | grind
  refine ⟨(fun _ h => (by cases h)), [], trivial, ?_, (fun _ h => (by cases h))⟩
  rw [List.append_nil]
  exact List.forall_mem_cons.mpr ⟨⟨show (20 : Nat) < 100 from by decide, nf0⟩, (fun _ h => (by cases h))⟩
def n_Mo_back_an : List an_T := []
def t_Mo_back_ct : ct_L := [(0, 387, e_Mo_in), (0, 521, e_Mo_isPlace), (1, 524, e_Mo_changed)]
set_option maxRecDepth 100000 in
theorem c_Mo_back {l : Launch} {D : va_G} {kA : Nat → ClassId} (h_Mo_changed : ct_ok l D kA GG y_Mo_changed z_Mo_changed e_Mo_changed) (h_Mo_in : ct_ok l D kA GG y_Mo_in z_Mo_in e_Mo_in) (h_Mo_isPlace : ct_ok l D kA GG y_Mo_isPlace z_Mo_isPlace e_Mo_isPlace) : ct_ok l D kA GG y_Mo_back z_Mo_back e_Mo_back := chk_all_ok (FT := [(20, 13, 3), (23, 13, 4)]) (PT := []) (CT := t_Mo_back_ct) (KT := []) (NT := []) (AN := n_Mo_back_an) (OT := [o_Mo_back_0, o_Mo_back_1, o_Mo_back_2, o_Mo_back_3]) 0 288 (List.forall_mem_cons.mpr ⟨oo_Mo_back_0, List.forall_mem_cons.mpr ⟨oo_Mo_back_1, List.forall_mem_cons.mpr ⟨oo_Mo_back_2, List.forall_mem_cons.mpr ⟨oo_Mo_back_3, List.forall_mem_nil _⟩⟩⟩⟩) (by decide +kernel) ⟨List.forall_mem_cons.mpr ⟨gf_Mo_20, List.forall_mem_cons.mpr ⟨gf_Mo_23, List.forall_mem_nil _⟩⟩, List.forall_mem_nil _, List.forall_mem_cons.mpr ⟨cl_static (y := y_Mo_in) h_Mo_in wm_2971 wm_9 wm_2969 wm_2970 ⟨by decide, by decide, by decide +kernel⟩ (by decide), List.forall_mem_cons.mpr ⟨cl_static (y := y_Mo_isPlace) h_Mo_isPlace wm_2978 wm_9 wm_2976 wm_2977 ⟨by decide, by decide, by decide +kernel⟩ (by decide), List.forall_mem_cons.mpr ⟨cl_virtual (y := y_Mo_changed) (ci := 13) rfl rfl ⟨_, _, rfl⟩ (by decide +kernel) h_Mo_changed wm_3083 wm_9 wm_3080 wm_3082 wv_14_1 ⟨by decide, by decide, by decide +kernel⟩ (by decide), List.forall_mem_nil _⟩⟩⟩, List.forall_mem_nil _, List.forall_mem_nil _, GG_pl⟩ (by decide +kernel)
def o_Mo_known_0 : or_T := (35, 9, [(0, (2, 0, 0, [150])), (1, (0, 0, 23, [])), (2, (0, 1, 24, [])), (3, (0, 0, 8, [])), (4, (0, 0, 2000, [])), (5, (0, 0, 2000, [])), (6, (0, -2000, 2000, [])), (7, (0, 0, 0, []))], [(7, [3, 6], [1]), (2, [6, 4, 5], []), (9, [5, 0], [15]), (9, [4, 0], [11]), (7, [1, 2], [2]), (20, [2, 0], [30, 0, 1, 0, 0, -1, 3, 2005000]), (20, [2, 0], [30, 0, -1, 0, 0, 1, 3, 2005000])], [], [], [(20, [0, 0, 7], [30, 2008, 1, 1, 11, -1, 1, 15, 2000, 0, 0])], [], [(6, 4, -2000, 0), (1, 2, -4294967296, -1)])
theorem oo_Mo_known_0 {kA : Nat → ClassId} : or_ok kA GG o_Mo_known_0 := by
  intro A ta ws vs hD hth hl hk hds hf
  have hl : vs.length = 9 := hl
  have hk : ∀ q ∈ ([(0, (2, 0, 0, [150])), (1, (0, 0, 23, [])), (2, (0, 1, 24, [])), (3, (0, 0, 8, [])), (4, (0, 0, 2000, [])), (5, (0, 0, 2000, [])), (6, (0, -2000, 2000, [])), (7, (0, 0, 0, []))] : List (Nat × tv_T)), tv_ok ta q.2 (n_v vs q.1) := hk
  obtain ⟨t0, hk⟩ := List.forall_mem_cons.mp hk
  have t0 : tv_ok ta (2, 0, 0, [150]) (n_v vs 0) := t0
  have r0 : ta (v_ad (n_v vs 0)) = some 150 := tv_rg t0
  obtain ⟨t1, hk⟩ := List.forall_mem_cons.mp hk
  have t1 : tv_ok ta (0, 0, 23, []) (n_v vs 1) := t1
  have k1 : 0 ≤ v_iv (n_v vs 1) ∧ v_iv (n_v vs 1) ≤ 23 := tv_rng t1
  obtain ⟨t2, hk⟩ := List.forall_mem_cons.mp hk
  have t2 : tv_ok ta (0, 1, 24, []) (n_v vs 2) := t2
  have k2 : 1 ≤ v_iv (n_v vs 2) ∧ v_iv (n_v vs 2) ≤ 24 := tv_rng t2
  obtain ⟨t3, hk⟩ := List.forall_mem_cons.mp hk
  have t3 : tv_ok ta (0, 0, 8, []) (n_v vs 3) := t3
  have k3 : 0 ≤ v_iv (n_v vs 3) ∧ v_iv (n_v vs 3) ≤ 8 := tv_rng t3
  obtain ⟨t4, hk⟩ := List.forall_mem_cons.mp hk
  have t4 : tv_ok ta (0, 0, 2000, []) (n_v vs 4) := t4
  have k4 : 0 ≤ v_iv (n_v vs 4) ∧ v_iv (n_v vs 4) ≤ 2000 := tv_rng t4
  obtain ⟨t5, hk⟩ := List.forall_mem_cons.mp hk
  have t5 : tv_ok ta (0, 0, 2000, []) (n_v vs 5) := t5
  have k5 : 0 ≤ v_iv (n_v vs 5) ∧ v_iv (n_v vs 5) ≤ 2000 := tv_rng t5
  obtain ⟨t6, hk⟩ := List.forall_mem_cons.mp hk
  have t6 : tv_ok ta (0, -2000, 2000, []) (n_v vs 6) := t6
  have k6 : (-2000) ≤ v_iv (n_v vs 6) ∧ v_iv (n_v vs 6) ≤ 2000 := tv_rng t6
  obtain ⟨t7, hk⟩ := List.forall_mem_cons.mp hk
  have t7 : tv_ok ta (0, 0, 0, []) (n_v vs 7) := t7
  have k7 : 0 ≤ v_iv (n_v vs 7) ∧ v_iv (n_v vs 7) ≤ 0 := tv_rng t7
  have hds : ∀ q ∈ ([(6, 4, -2000, 0), (1, 2, -4294967296, -1)] : List of_T), n_iv vs q.2.1 + q.2.2.1 ≤ n_iv vs q.1 ∧ n_iv vs q.1 ≤ n_iv vs q.2.1 + q.2.2.2 := hds
  obtain ⟨d0, hds⟩ := List.forall_mem_cons.mp hds
  have d0 : v_iv (n_v vs 4) + (-2000) ≤ v_iv (n_v vs 6) ∧ v_iv (n_v vs 6) ≤ v_iv (n_v vs 4) + 0 := d0
  obtain ⟨d1, hds⟩ := List.forall_mem_cons.mp hds
  have d1 : v_iv (n_v vs 2) + (-4294967296) ≤ v_iv (n_v vs 1) ∧ v_iv (n_v vs 1) ≤ v_iv (n_v vs 2) + (-1) := d1
  have hf : fc_ok [(7, [3, 6], [1]), (2, [6, 4, 5], []), (9, [5, 0], [15]), (9, [4, 0], [11]), (7, [1, 2], [2]), (20, [2, 0], [30, 0, 1, 0, 0, -1, 3, 2005000]), (20, [2, 0], [30, 0, -1, 0, 0, 1, 3, 2005000])] ta ws vs := hf
  obtain ⟨f0, hf⟩ := fc_un (show (7 : Nat) < 100 from by decide) hf
  have f0 : v_iv (n_v vs 3) ≠ v_iv (n_v vs 6) := f0
  obtain ⟨f1, hf⟩ := fc_un (show (2 : Nat) < 100 from by decide) hf
  have f1 : v_iv (n_v vs 6) = v_iv (n_v vs 4) - v_iv (n_v vs 5) := f1
  obtain ⟨f2, hf⟩ := fc_un (show (9 : Nat) < 100 from by decide) hf
  have f2 : n_v vs 5 = w_fd ws (v_ad (n_v vs 0)) 15 := f2
  obtain ⟨f3, hf⟩ := fc_un (show (9 : Nat) < 100 from by decide) hf
  have f3 : n_v vs 4 = w_fd ws (v_ad (n_v vs 0)) 11 := f3
  obtain ⟨f4, hf⟩ := fc_un (show (7 : Nat) < 100 from by decide) hf
  have f4 : v_iv (n_v vs 1) < v_iv (n_v vs 2) := f4
  obtain ⟨f5, hf⟩ := fc_un (show (20 : Nat) < 100 from by decide) hf
  have f5 : 1 * v_iv (n_v vs 2) + ((-1) * w_el ws (w_ar ws (n_v vs 0) 2) (w_fi ws (n_v vs 0) 5 + 0).toNat + 0) ≤ 0 := f5
  obtain ⟨f6, hf⟩ := fc_un (show (20 : Nat) < 100 from by decide) hf
  have f6 : (-1) * v_iv (n_v vs 2) + (1 * w_el ws (w_ar ws (n_v vs 0) 2) (w_fi ws (n_v vs 0) 5 + 0).toNat + 0) ≤ 0 := f6
  have cr_0_2 : ta (w_ar ws (n_v vs 0) 2) = some 152 := tv_rg (th_fd hD hth r0 (g := GG_150) rfl (k := 2) (t := (2, 0, 0, [152])) rfl rfl)
  have g2 : v_iv (n_v vs 5) = w_fi ws (n_v vs 0) 15 := congrArg v_iv f2
  have g3 : v_iv (n_v vs 4) = w_fi ws (n_v vs 0) 11 := congrArg v_iv f3
  have kz_0_11 : 0 ≤ w_fi ws (n_v vs 0) 11 ∧ w_fi ws (n_v vs 0) 11 ≤ 2000 := tv_rng (th_fd hD hth r0 (g := GG_150) rfl (k := 11) (t := (0, 0, 2000, [])) rfl rfl)
  have kz_0_15 : 0 ≤ w_fi ws (n_v vs 0) 15 ∧ w_fi ws (n_v vs 0) 15 ≤ 2000 := tv_rng (th_fd hD hth r0 (g := GG_150) rfl (k := 15) (t := (0, 0, 2000, [])) rfl rfl)
  have nf0 : fc_1 (20, [0, 0, 7], [30, 2008, 1, 1, 11, -1, 1, 15, 2000, 0, 0]) ws (vs) := by
    refine ⟨fun n hn => ?_, ?_⟩
    · have hn : n ∈ [0, 0, 7] := hn
      rw [hl]
      simp only [List.mem_cons, List.not_mem_nil, or_false] at hn
      show n < 9; omega
    · show 1 * w_fi ws (n_v vs 0) 11 + ((-1) * w_fi ws (n_v vs 0) 15 + (2000 * v_iv (n_v vs 7) + 0)) ≤ 2008
      omega
  refine ⟨(fun _ h => (by cases h)), [], trivial, ?_, (fun _ h => (by cases h))⟩
  rw [List.append_nil]
  exact List.forall_mem_cons.mpr ⟨⟨show (20 : Nat) < 100 from by decide, nf0⟩, (fun _ h => (by cases h))⟩
def o_Mo_known_1 : or_T := (35, 9, [(0, (2, 0, 0, [150])), (1, (0, 0, 23, [])), (2, (0, 1, 24, [])), (3, (0, 0, 8, [])), (4, (0, 0, 2000, [])), (5, (0, 0, 2000, [])), (6, (0, 0, 8, [])), (7, (0, 1, 1, []))], [(7, [3, 6], [0]), (2, [6, 4, 5], []), (9, [5, 0], [15]), (9, [4, 0], [11]), (7, [1, 2], [2]), (20, [2, 0], [30, 0, 1, 0, 0, -1, 3, 2005000]), (20, [2, 0], [30, 0, -1, 0, 0, 1, 3, 2005000])], [], [], [(20, [0, 0, 7], [30, 2008, 1, 1, 11, -1, 1, 15, 2000, 0, 0])], [], [(3, 6, 0, 0), (6, 4, -2000, 0), (1, 2, -4294967296, -1)])
theorem oo_Mo_known_1 {kA : Nat → ClassId} : or_ok kA GG o_Mo_known_1 := by
  intro A ta ws vs hD hth hl hk hds hf
  have hl : vs.length = 9 := hl
  have hk : ∀ q ∈ ([(0, (2, 0, 0, [150])), (1, (0, 0, 23, [])), (2, (0, 1, 24, [])), (3, (0, 0, 8, [])), (4, (0, 0, 2000, [])), (5, (0, 0, 2000, [])), (6, (0, 0, 8, [])), (7, (0, 1, 1, []))] : List (Nat × tv_T)), tv_ok ta q.2 (n_v vs q.1) := hk
  obtain ⟨t0, hk⟩ := List.forall_mem_cons.mp hk
  have t0 : tv_ok ta (2, 0, 0, [150]) (n_v vs 0) := t0
  have r0 : ta (v_ad (n_v vs 0)) = some 150 := tv_rg t0
  obtain ⟨t1, hk⟩ := List.forall_mem_cons.mp hk
  have t1 : tv_ok ta (0, 0, 23, []) (n_v vs 1) := t1
  have k1 : 0 ≤ v_iv (n_v vs 1) ∧ v_iv (n_v vs 1) ≤ 23 := tv_rng t1
  obtain ⟨t2, hk⟩ := List.forall_mem_cons.mp hk
  have t2 : tv_ok ta (0, 1, 24, []) (n_v vs 2) := t2
  have k2 : 1 ≤ v_iv (n_v vs 2) ∧ v_iv (n_v vs 2) ≤ 24 := tv_rng t2
  obtain ⟨t3, hk⟩ := List.forall_mem_cons.mp hk
  have t3 : tv_ok ta (0, 0, 8, []) (n_v vs 3) := t3
  have k3 : 0 ≤ v_iv (n_v vs 3) ∧ v_iv (n_v vs 3) ≤ 8 := tv_rng t3
  obtain ⟨t4, hk⟩ := List.forall_mem_cons.mp hk
  have t4 : tv_ok ta (0, 0, 2000, []) (n_v vs 4) := t4
  have k4 : 0 ≤ v_iv (n_v vs 4) ∧ v_iv (n_v vs 4) ≤ 2000 := tv_rng t4
  obtain ⟨t5, hk⟩ := List.forall_mem_cons.mp hk
  have t5 : tv_ok ta (0, 0, 2000, []) (n_v vs 5) := t5
  have k5 : 0 ≤ v_iv (n_v vs 5) ∧ v_iv (n_v vs 5) ≤ 2000 := tv_rng t5
  obtain ⟨t6, hk⟩ := List.forall_mem_cons.mp hk
  have t6 : tv_ok ta (0, 0, 8, []) (n_v vs 6) := t6
  have k6 : 0 ≤ v_iv (n_v vs 6) ∧ v_iv (n_v vs 6) ≤ 8 := tv_rng t6
  obtain ⟨t7, hk⟩ := List.forall_mem_cons.mp hk
  have t7 : tv_ok ta (0, 1, 1, []) (n_v vs 7) := t7
  have k7 : 1 ≤ v_iv (n_v vs 7) ∧ v_iv (n_v vs 7) ≤ 1 := tv_rng t7
  have hds : ∀ q ∈ ([(3, 6, 0, 0), (6, 4, -2000, 0), (1, 2, -4294967296, -1)] : List of_T), n_iv vs q.2.1 + q.2.2.1 ≤ n_iv vs q.1 ∧ n_iv vs q.1 ≤ n_iv vs q.2.1 + q.2.2.2 := hds
  obtain ⟨d0, hds⟩ := List.forall_mem_cons.mp hds
  have d0 : v_iv (n_v vs 6) + 0 ≤ v_iv (n_v vs 3) ∧ v_iv (n_v vs 3) ≤ v_iv (n_v vs 6) + 0 := d0
  obtain ⟨d1, hds⟩ := List.forall_mem_cons.mp hds
  have d1 : v_iv (n_v vs 4) + (-2000) ≤ v_iv (n_v vs 6) ∧ v_iv (n_v vs 6) ≤ v_iv (n_v vs 4) + 0 := d1
  obtain ⟨d2, hds⟩ := List.forall_mem_cons.mp hds
  have d2 : v_iv (n_v vs 2) + (-4294967296) ≤ v_iv (n_v vs 1) ∧ v_iv (n_v vs 1) ≤ v_iv (n_v vs 2) + (-1) := d2
  have hf : fc_ok [(7, [3, 6], [0]), (2, [6, 4, 5], []), (9, [5, 0], [15]), (9, [4, 0], [11]), (7, [1, 2], [2]), (20, [2, 0], [30, 0, 1, 0, 0, -1, 3, 2005000]), (20, [2, 0], [30, 0, -1, 0, 0, 1, 3, 2005000])] ta ws vs := hf
  obtain ⟨f0, hf⟩ := fc_un (show (7 : Nat) < 100 from by decide) hf
  have f0 : v_iv (n_v vs 3) = v_iv (n_v vs 6) := f0
  obtain ⟨f1, hf⟩ := fc_un (show (2 : Nat) < 100 from by decide) hf
  have f1 : v_iv (n_v vs 6) = v_iv (n_v vs 4) - v_iv (n_v vs 5) := f1
  obtain ⟨f2, hf⟩ := fc_un (show (9 : Nat) < 100 from by decide) hf
  have f2 : n_v vs 5 = w_fd ws (v_ad (n_v vs 0)) 15 := f2
  obtain ⟨f3, hf⟩ := fc_un (show (9 : Nat) < 100 from by decide) hf
  have f3 : n_v vs 4 = w_fd ws (v_ad (n_v vs 0)) 11 := f3
  obtain ⟨f4, hf⟩ := fc_un (show (7 : Nat) < 100 from by decide) hf
  have f4 : v_iv (n_v vs 1) < v_iv (n_v vs 2) := f4
  obtain ⟨f5, hf⟩ := fc_un (show (20 : Nat) < 100 from by decide) hf
  have f5 : 1 * v_iv (n_v vs 2) + ((-1) * w_el ws (w_ar ws (n_v vs 0) 2) (w_fi ws (n_v vs 0) 5 + 0).toNat + 0) ≤ 0 := f5
  obtain ⟨f6, hf⟩ := fc_un (show (20 : Nat) < 100 from by decide) hf
  have f6 : (-1) * v_iv (n_v vs 2) + (1 * w_el ws (w_ar ws (n_v vs 0) 2) (w_fi ws (n_v vs 0) 5 + 0).toNat + 0) ≤ 0 := f6
  have cr_0_2 : ta (w_ar ws (n_v vs 0) 2) = some 152 := tv_rg (th_fd hD hth r0 (g := GG_150) rfl (k := 2) (t := (2, 0, 0, [152])) rfl rfl)
  have g2 : v_iv (n_v vs 5) = w_fi ws (n_v vs 0) 15 := congrArg v_iv f2
  have g3 : v_iv (n_v vs 4) = w_fi ws (n_v vs 0) 11 := congrArg v_iv f3
  have kz_0_11 : 0 ≤ w_fi ws (n_v vs 0) 11 ∧ w_fi ws (n_v vs 0) 11 ≤ 2000 := tv_rng (th_fd hD hth r0 (g := GG_150) rfl (k := 11) (t := (0, 0, 2000, [])) rfl rfl)
  have kz_0_15 : 0 ≤ w_fi ws (n_v vs 0) 15 ∧ w_fi ws (n_v vs 0) 15 ≤ 2000 := tv_rng (th_fd hD hth r0 (g := GG_150) rfl (k := 15) (t := (0, 0, 2000, [])) rfl rfl)
  have nf0 : fc_1 (20, [0, 0, 7], [30, 2008, 1, 1, 11, -1, 1, 15, 2000, 0, 0]) ws (vs) := by
    refine ⟨fun n hn => ?_, ?_⟩
    · have hn : n ∈ [0, 0, 7] := hn
      rw [hl]
      simp only [List.mem_cons, List.not_mem_nil, or_false] at hn
      show n < 9; omega
    · show 1 * w_fi ws (n_v vs 0) 11 + ((-1) * w_fi ws (n_v vs 0) 15 + (2000 * v_iv (n_v vs 7) + 0)) ≤ 2008
      omega
  refine ⟨(fun _ h => (by cases h)), [], trivial, ?_, (fun _ h => (by cases h))⟩
  rw [List.append_nil]
  exact List.forall_mem_cons.mpr ⟨⟨show (20 : Nat) < 100 from by decide, nf0⟩, (fun _ h => (by cases h))⟩
def o_Mo_known_2 : or_T := (68, 14, [(0, (2, 0, 0, [150])), (2, (0, 1, 1, [])), (3, (0, 0, 8, [])), (4, (0, 1, 2000, [])), (5, (0, 0, 2000, [])), (6, (0, 1, 2000, []))], [(8, [2], [1]), (7, [3, 6], [2]), (2, [6, 4, 5], []), (9, [5, 0], [15]), (9, [4, 0], [11]), (20, [0, 0, 2], [30, 2008, 1, 1, 11, -1, 1, 15, 2000, 0, 0])], [(3, (0, 0, 7, []))], [], [], [], [(3, 6, -4294967296, -1), (6, 4, -2000, 0), (2, 3, -4294967296, 1)])
theorem oo_Mo_known_2 {kA : Nat → ClassId} : or_ok kA GG o_Mo_known_2 := by
  intro A ta ws vs hD hth hl hk hds hf
  have hl : vs.length = 14 := hl
  have hk : ∀ q ∈ ([(0, (2, 0, 0, [150])), (2, (0, 1, 1, [])), (3, (0, 0, 8, [])), (4, (0, 1, 2000, [])), (5, (0, 0, 2000, [])), (6, (0, 1, 2000, []))] : List (Nat × tv_T)), tv_ok ta q.2 (n_v vs q.1) := hk
  obtain ⟨t0, hk⟩ := List.forall_mem_cons.mp hk
  have t0 : tv_ok ta (2, 0, 0, [150]) (n_v vs 0) := t0
  have r0 : ta (v_ad (n_v vs 0)) = some 150 := tv_rg t0
  obtain ⟨t2, hk⟩ := List.forall_mem_cons.mp hk
  have t2 : tv_ok ta (0, 1, 1, []) (n_v vs 2) := t2
  have k2 : 1 ≤ v_iv (n_v vs 2) ∧ v_iv (n_v vs 2) ≤ 1 := tv_rng t2
  obtain ⟨t3, hk⟩ := List.forall_mem_cons.mp hk
  have t3 : tv_ok ta (0, 0, 8, []) (n_v vs 3) := t3
  have k3 : 0 ≤ v_iv (n_v vs 3) ∧ v_iv (n_v vs 3) ≤ 8 := tv_rng t3
  obtain ⟨t4, hk⟩ := List.forall_mem_cons.mp hk
  have t4 : tv_ok ta (0, 1, 2000, []) (n_v vs 4) := t4
  have k4 : 1 ≤ v_iv (n_v vs 4) ∧ v_iv (n_v vs 4) ≤ 2000 := tv_rng t4
  obtain ⟨t5, hk⟩ := List.forall_mem_cons.mp hk
  have t5 : tv_ok ta (0, 0, 2000, []) (n_v vs 5) := t5
  have k5 : 0 ≤ v_iv (n_v vs 5) ∧ v_iv (n_v vs 5) ≤ 2000 := tv_rng t5
  obtain ⟨t6, hk⟩ := List.forall_mem_cons.mp hk
  have t6 : tv_ok ta (0, 1, 2000, []) (n_v vs 6) := t6
  have k6 : 1 ≤ v_iv (n_v vs 6) ∧ v_iv (n_v vs 6) ≤ 2000 := tv_rng t6
  have hds : ∀ q ∈ ([(3, 6, -4294967296, -1), (6, 4, -2000, 0), (2, 3, -4294967296, 1)] : List of_T), n_iv vs q.2.1 + q.2.2.1 ≤ n_iv vs q.1 ∧ n_iv vs q.1 ≤ n_iv vs q.2.1 + q.2.2.2 := hds
  obtain ⟨d0, hds⟩ := List.forall_mem_cons.mp hds
  have d0 : v_iv (n_v vs 6) + (-4294967296) ≤ v_iv (n_v vs 3) ∧ v_iv (n_v vs 3) ≤ v_iv (n_v vs 6) + (-1) := d0
  obtain ⟨d1, hds⟩ := List.forall_mem_cons.mp hds
  have d1 : v_iv (n_v vs 4) + (-2000) ≤ v_iv (n_v vs 6) ∧ v_iv (n_v vs 6) ≤ v_iv (n_v vs 4) + 0 := d1
  obtain ⟨d2, hds⟩ := List.forall_mem_cons.mp hds
  have d2 : v_iv (n_v vs 3) + (-4294967296) ≤ v_iv (n_v vs 2) ∧ v_iv (n_v vs 2) ≤ v_iv (n_v vs 3) + 1 := d2
  have hf : fc_ok [(8, [2], [1]), (7, [3, 6], [2]), (2, [6, 4, 5], []), (9, [5, 0], [15]), (9, [4, 0], [11]), (20, [0, 0, 2], [30, 2008, 1, 1, 11, -1, 1, 15, 2000, 0, 0])] ta ws vs := hf
  obtain ⟨f0, hf⟩ := fc_un (show (8 : Nat) < 100 from by decide) hf
  have f0 : v_iv (n_v vs 2) ≠ 0 := f0
  obtain ⟨f1, hf⟩ := fc_un (show (7 : Nat) < 100 from by decide) hf
  have f1 : v_iv (n_v vs 3) < v_iv (n_v vs 6) := f1
  obtain ⟨f2, hf⟩ := fc_un (show (2 : Nat) < 100 from by decide) hf
  have f2 : v_iv (n_v vs 6) = v_iv (n_v vs 4) - v_iv (n_v vs 5) := f2
  obtain ⟨f3, hf⟩ := fc_un (show (9 : Nat) < 100 from by decide) hf
  have f3 : n_v vs 5 = w_fd ws (v_ad (n_v vs 0)) 15 := f3
  obtain ⟨f4, hf⟩ := fc_un (show (9 : Nat) < 100 from by decide) hf
  have f4 : n_v vs 4 = w_fd ws (v_ad (n_v vs 0)) 11 := f4
  obtain ⟨f5, hf⟩ := fc_un (show (20 : Nat) < 100 from by decide) hf
  have f5 : 1 * w_fi ws (n_v vs 0) 11 + ((-1) * w_fi ws (n_v vs 0) 15 + (2000 * v_iv (n_v vs 2) + 0)) ≤ 2008 := f5
  have g3 : v_iv (n_v vs 5) = w_fi ws (n_v vs 0) 15 := congrArg v_iv f3
  have g4 : v_iv (n_v vs 4) = w_fi ws (n_v vs 0) 11 := congrArg v_iv f4
  have kz_0_11 : 0 ≤ w_fi ws (n_v vs 0) 11 ∧ w_fi ws (n_v vs 0) 11 ≤ 2000 := tv_rng (th_fd hD hth r0 (g := GG_150) rfl (k := 11) (t := (0, 0, 2000, [])) rfl rfl)
  have kz_0_15 : 0 ≤ w_fi ws (n_v vs 0) 15 ∧ w_fi ws (n_v vs 0) 15 ≤ 2000 := tv_rng (th_fd hD hth r0 (g := GG_150) rfl (k := 15) (t := (0, 0, 2000, [])) rfl rfl)
  have rf3 : tv_ok ta (0, 0, 7, []) (n_v vs 3) := tv_in t3 (by omega) (by omega)
  refine ⟨List.forall_mem_cons.mpr ⟨rf3, (fun _ h => (by cases h))⟩, [], trivial, ?_, (fun _ h => (by cases h))⟩
  rw [List.append_nil]
  exact (fun _ h => (by cases h))
def o_Mo_known_3 : or_T := (35, 20, [(0, (2, 0, 0, [150])), (1, (0, 0, 23, [])), (2, (0, 1, 1, [])), (3, (0, 0, 7, [])), (4, (0, 1, 2000, [])), (5, (0, 0, 2000, [])), (6, (0, 1, 2000, [])), (7, (2, 0, 0, [152])), (8, (0, 0, 66297, [])), (9, (0, 3, 3, [])), (10, (0, 3, 66300, [])), (11, (0, 8, 8, [])), (12, (0, 0, 184, [])), (13, (0, 3, 66484, [])), (14, (0, 3, 66491, [])), (15, (0, 0, 255, [])), (16, (0, 0, 2007, [])), (17, (0, -1, -1, [])), (18, (0, 0, 0, [])), (19, (0, 1, 8, []))], [(6, [19, 3], [1]), (7, [15, 17], [1]), (20, [16, 0, 17], [50, 1, 1, 1010, 1001, 4, 11, 0, 6, 4, 2, 1, 0, 0, 1, 2, 1, 10, 1, 2, 1, 2, 9, 5, 3, 1, 1, 1, 0, 0, 256]), (20, [0, 16, 17], [50, 1, 0, 10, 4, 7, 0, 3, 2, 0, 10, 1, 1, 1, 2, 1, 2, 0, -1]), (1, [16, 5, 3], []), (9, [5, 0], [15]), (10, [15, 7, 14], []), (1, [14, 13, 3], []), (1, [13, 10, 12], []), (3, [12, 11, 1], []), (1, [10, 8, 9], []), (9, [8, 0], [5]), (9, [7, 0], [2]), (8, [2], [1]), (7, [3, 6], [2]), (2, [6, 4, 5], []), (9, [4, 0], [11]), (20, [0, 0, 2], [30, 2008, 1, 1, 11, -1, 1, 15, 2000, 0, 0])], [], [], [(20, [0, 0, 18], [30, 2008, 1, 1, 11, -1, 1, 15, 2000, 0, 0])], [], [(19, 3, 1, 1), (19, 6, -4294967296, 0), (16, 3, 0, 2000), (16, 6, -4294967296, 1999), (16, 5, 0, 7), (14, 3, 3, 66484), (14, 6, -4294967296, 66483), (14, 13, 0, 7), (14, 12, 3, 66307), (14, 10, 0, 191), (14, 8, 3, 194), (13, 12, 3, 66300), (13, 10, 0, 184), (13, 8, 3, 187), (10, 8, 3, 3), (3, 6, -4294967296, -1), (6, 4, -2000, 0), (2, 1, -4294967296, 1), (2, 3, -4294967296, 1)])
theorem oo_Mo_known_3 {kA : Nat → ClassId} : or_ok kA GG o_Mo_known_3 := by
  intro A ta ws vs hD hth hl hk hds hf
  have hl : vs.length = 20 := hl
  have hk : ∀ q ∈ ([(0, (2, 0, 0, [150])), (1, (0, 0, 23, [])), (2, (0, 1, 1, [])), (3, (0, 0, 7, [])), (4, (0, 1, 2000, [])), (5, (0, 0, 2000, [])), (6, (0, 1, 2000, [])), (7, (2, 0, 0, [152])), (8, (0, 0, 66297, [])), (9, (0, 3, 3, [])), (10, (0, 3, 66300, [])), (11, (0, 8, 8, [])), (12, (0, 0, 184, [])), (13, (0, 3, 66484, [])), (14, (0, 3, 66491, [])), (15, (0, 0, 255, [])), (16, (0, 0, 2007, [])), (17, (0, -1, -1, [])), (18, (0, 0, 0, [])), (19, (0, 1, 8, []))] : List (Nat × tv_T)), tv_ok ta q.2 (n_v vs q.1) := hk
  obtain ⟨t0, hk⟩ := List.forall_mem_cons.mp hk
  have t0 : tv_ok ta (2, 0, 0, [150]) (n_v vs 0) := t0
  have r0 : ta (v_ad (n_v vs 0)) = some 150 := tv_rg t0
  obtain ⟨t1, hk⟩ := List.forall_mem_cons.mp hk
  have t1 : tv_ok ta (0, 0, 23, []) (n_v vs 1) := t1
  have k1 : 0 ≤ v_iv (n_v vs 1) ∧ v_iv (n_v vs 1) ≤ 23 := tv_rng t1
  obtain ⟨t2, hk⟩ := List.forall_mem_cons.mp hk
  have t2 : tv_ok ta (0, 1, 1, []) (n_v vs 2) := t2
  have k2 : 1 ≤ v_iv (n_v vs 2) ∧ v_iv (n_v vs 2) ≤ 1 := tv_rng t2
  obtain ⟨t3, hk⟩ := List.forall_mem_cons.mp hk
  have t3 : tv_ok ta (0, 0, 7, []) (n_v vs 3) := t3
  have k3 : 0 ≤ v_iv (n_v vs 3) ∧ v_iv (n_v vs 3) ≤ 7 := tv_rng t3
  obtain ⟨t4, hk⟩ := List.forall_mem_cons.mp hk
  have t4 : tv_ok ta (0, 1, 2000, []) (n_v vs 4) := t4
  have k4 : 1 ≤ v_iv (n_v vs 4) ∧ v_iv (n_v vs 4) ≤ 2000 := tv_rng t4
  obtain ⟨t5, hk⟩ := List.forall_mem_cons.mp hk
  have t5 : tv_ok ta (0, 0, 2000, []) (n_v vs 5) := t5
  have k5 : 0 ≤ v_iv (n_v vs 5) ∧ v_iv (n_v vs 5) ≤ 2000 := tv_rng t5
  obtain ⟨t6, hk⟩ := List.forall_mem_cons.mp hk
  have t6 : tv_ok ta (0, 1, 2000, []) (n_v vs 6) := t6
  have k6 : 1 ≤ v_iv (n_v vs 6) ∧ v_iv (n_v vs 6) ≤ 2000 := tv_rng t6
  obtain ⟨t7, hk⟩ := List.forall_mem_cons.mp hk
  have t7 : tv_ok ta (2, 0, 0, [152]) (n_v vs 7) := t7
  have r7 : ta (v_ad (n_v vs 7)) = some 152 := tv_rg t7
  obtain ⟨t8, hk⟩ := List.forall_mem_cons.mp hk
  have t8 : tv_ok ta (0, 0, 66297, []) (n_v vs 8) := t8
  have k8 : 0 ≤ v_iv (n_v vs 8) ∧ v_iv (n_v vs 8) ≤ 66297 := tv_rng t8
  obtain ⟨t9, hk⟩ := List.forall_mem_cons.mp hk
  have t9 : tv_ok ta (0, 3, 3, []) (n_v vs 9) := t9
  have k9 : 3 ≤ v_iv (n_v vs 9) ∧ v_iv (n_v vs 9) ≤ 3 := tv_rng t9
  obtain ⟨t10, hk⟩ := List.forall_mem_cons.mp hk
  have t10 : tv_ok ta (0, 3, 66300, []) (n_v vs 10) := t10
  have k10 : 3 ≤ v_iv (n_v vs 10) ∧ v_iv (n_v vs 10) ≤ 66300 := tv_rng t10
  obtain ⟨t11, hk⟩ := List.forall_mem_cons.mp hk
  have t11 : tv_ok ta (0, 8, 8, []) (n_v vs 11) := t11
  have k11 : 8 ≤ v_iv (n_v vs 11) ∧ v_iv (n_v vs 11) ≤ 8 := tv_rng t11
  obtain ⟨t12, hk⟩ := List.forall_mem_cons.mp hk
  have t12 : tv_ok ta (0, 0, 184, []) (n_v vs 12) := t12
  have k12 : 0 ≤ v_iv (n_v vs 12) ∧ v_iv (n_v vs 12) ≤ 184 := tv_rng t12
  obtain ⟨t13, hk⟩ := List.forall_mem_cons.mp hk
  have t13 : tv_ok ta (0, 3, 66484, []) (n_v vs 13) := t13
  have k13 : 3 ≤ v_iv (n_v vs 13) ∧ v_iv (n_v vs 13) ≤ 66484 := tv_rng t13
  obtain ⟨t14, hk⟩ := List.forall_mem_cons.mp hk
  have t14 : tv_ok ta (0, 3, 66491, []) (n_v vs 14) := t14
  have k14 : 3 ≤ v_iv (n_v vs 14) ∧ v_iv (n_v vs 14) ≤ 66491 := tv_rng t14
  obtain ⟨t15, hk⟩ := List.forall_mem_cons.mp hk
  have t15 : tv_ok ta (0, 0, 255, []) (n_v vs 15) := t15
  have k15 : 0 ≤ v_iv (n_v vs 15) ∧ v_iv (n_v vs 15) ≤ 255 := tv_rng t15
  obtain ⟨t16, hk⟩ := List.forall_mem_cons.mp hk
  have t16 : tv_ok ta (0, 0, 2007, []) (n_v vs 16) := t16
  have k16 : 0 ≤ v_iv (n_v vs 16) ∧ v_iv (n_v vs 16) ≤ 2007 := tv_rng t16
  obtain ⟨t17, hk⟩ := List.forall_mem_cons.mp hk
  have t17 : tv_ok ta (0, -1, -1, []) (n_v vs 17) := t17
  have k17 : (-1) ≤ v_iv (n_v vs 17) ∧ v_iv (n_v vs 17) ≤ (-1) := tv_rng t17
  obtain ⟨t18, hk⟩ := List.forall_mem_cons.mp hk
  have t18 : tv_ok ta (0, 0, 0, []) (n_v vs 18) := t18
  have k18 : 0 ≤ v_iv (n_v vs 18) ∧ v_iv (n_v vs 18) ≤ 0 := tv_rng t18
  obtain ⟨t19, hk⟩ := List.forall_mem_cons.mp hk
  have t19 : tv_ok ta (0, 1, 8, []) (n_v vs 19) := t19
  have k19 : 1 ≤ v_iv (n_v vs 19) ∧ v_iv (n_v vs 19) ≤ 8 := tv_rng t19
  have hds : ∀ q ∈ ([(19, 3, 1, 1), (19, 6, -4294967296, 0), (16, 3, 0, 2000), (16, 6, -4294967296, 1999), (16, 5, 0, 7), (14, 3, 3, 66484), (14, 6, -4294967296, 66483), (14, 13, 0, 7), (14, 12, 3, 66307), (14, 10, 0, 191), (14, 8, 3, 194), (13, 12, 3, 66300), (13, 10, 0, 184), (13, 8, 3, 187), (10, 8, 3, 3), (3, 6, -4294967296, -1), (6, 4, -2000, 0), (2, 1, -4294967296, 1), (2, 3, -4294967296, 1)] : List of_T), n_iv vs q.2.1 + q.2.2.1 ≤ n_iv vs q.1 ∧ n_iv vs q.1 ≤ n_iv vs q.2.1 + q.2.2.2 := hds
  obtain ⟨d0, hds⟩ := List.forall_mem_cons.mp hds
  have d0 : v_iv (n_v vs 3) + 1 ≤ v_iv (n_v vs 19) ∧ v_iv (n_v vs 19) ≤ v_iv (n_v vs 3) + 1 := d0
  obtain ⟨d1, hds⟩ := List.forall_mem_cons.mp hds
  have d1 : v_iv (n_v vs 6) + (-4294967296) ≤ v_iv (n_v vs 19) ∧ v_iv (n_v vs 19) ≤ v_iv (n_v vs 6) + 0 := d1
  obtain ⟨d2, hds⟩ := List.forall_mem_cons.mp hds
  have d2 : v_iv (n_v vs 3) + 0 ≤ v_iv (n_v vs 16) ∧ v_iv (n_v vs 16) ≤ v_iv (n_v vs 3) + 2000 := d2
  obtain ⟨d3, hds⟩ := List.forall_mem_cons.mp hds
  have d3 : v_iv (n_v vs 6) + (-4294967296) ≤ v_iv (n_v vs 16) ∧ v_iv (n_v vs 16) ≤ v_iv (n_v vs 6) + 1999 := d3
  obtain ⟨d4, hds⟩ := List.forall_mem_cons.mp hds
  have d4 : v_iv (n_v vs 5) + 0 ≤ v_iv (n_v vs 16) ∧ v_iv (n_v vs 16) ≤ v_iv (n_v vs 5) + 7 := d4
  obtain ⟨d5, hds⟩ := List.forall_mem_cons.mp hds
  have d5 : v_iv (n_v vs 3) + 3 ≤ v_iv (n_v vs 14) ∧ v_iv (n_v vs 14) ≤ v_iv (n_v vs 3) + 66484 := d5
  obtain ⟨d6, hds⟩ := List.forall_mem_cons.mp hds
  have d6 : v_iv (n_v vs 6) + (-4294967296) ≤ v_iv (n_v vs 14) ∧ v_iv (n_v vs 14) ≤ v_iv (n_v vs 6) + 66483 := d6
  obtain ⟨d7, hds⟩ := List.forall_mem_cons.mp hds
  have d7 : v_iv (n_v vs 13) + 0 ≤ v_iv (n_v vs 14) ∧ v_iv (n_v vs 14) ≤ v_iv (n_v vs 13) + 7 := d7
  obtain ⟨d8, hds⟩ := List.forall_mem_cons.mp hds
  have d8 : v_iv (n_v vs 12) + 3 ≤ v_iv (n_v vs 14) ∧ v_iv (n_v vs 14) ≤ v_iv (n_v vs 12) + 66307 := d8
  obtain ⟨d9, hds⟩ := List.forall_mem_cons.mp hds
  have d9 : v_iv (n_v vs 10) + 0 ≤ v_iv (n_v vs 14) ∧ v_iv (n_v vs 14) ≤ v_iv (n_v vs 10) + 191 := d9
  obtain ⟨d10, hds⟩ := List.forall_mem_cons.mp hds
  have d10 : v_iv (n_v vs 8) + 3 ≤ v_iv (n_v vs 14) ∧ v_iv (n_v vs 14) ≤ v_iv (n_v vs 8) + 194 := d10
  obtain ⟨d11, hds⟩ := List.forall_mem_cons.mp hds
  have d11 : v_iv (n_v vs 12) + 3 ≤ v_iv (n_v vs 13) ∧ v_iv (n_v vs 13) ≤ v_iv (n_v vs 12) + 66300 := d11
  obtain ⟨d12, hds⟩ := List.forall_mem_cons.mp hds
  have d12 : v_iv (n_v vs 10) + 0 ≤ v_iv (n_v vs 13) ∧ v_iv (n_v vs 13) ≤ v_iv (n_v vs 10) + 184 := d12
  obtain ⟨d13, hds⟩ := List.forall_mem_cons.mp hds
  have d13 : v_iv (n_v vs 8) + 3 ≤ v_iv (n_v vs 13) ∧ v_iv (n_v vs 13) ≤ v_iv (n_v vs 8) + 187 := d13
  obtain ⟨d14, hds⟩ := List.forall_mem_cons.mp hds
  have d14 : v_iv (n_v vs 8) + 3 ≤ v_iv (n_v vs 10) ∧ v_iv (n_v vs 10) ≤ v_iv (n_v vs 8) + 3 := d14
  obtain ⟨d15, hds⟩ := List.forall_mem_cons.mp hds
  have d15 : v_iv (n_v vs 6) + (-4294967296) ≤ v_iv (n_v vs 3) ∧ v_iv (n_v vs 3) ≤ v_iv (n_v vs 6) + (-1) := d15
  obtain ⟨d16, hds⟩ := List.forall_mem_cons.mp hds
  have d16 : v_iv (n_v vs 4) + (-2000) ≤ v_iv (n_v vs 6) ∧ v_iv (n_v vs 6) ≤ v_iv (n_v vs 4) + 0 := d16
  obtain ⟨d17, hds⟩ := List.forall_mem_cons.mp hds
  have d17 : v_iv (n_v vs 1) + (-4294967296) ≤ v_iv (n_v vs 2) ∧ v_iv (n_v vs 2) ≤ v_iv (n_v vs 1) + 1 := d17
  obtain ⟨d18, hds⟩ := List.forall_mem_cons.mp hds
  have d18 : v_iv (n_v vs 3) + (-4294967296) ≤ v_iv (n_v vs 2) ∧ v_iv (n_v vs 2) ≤ v_iv (n_v vs 3) + 1 := d18
  have hf : fc_ok [(6, [19, 3], [1]), (7, [15, 17], [1]), (20, [16, 0, 17], [50, 1, 1, 1010, 1001, 4, 11, 0, 6, 4, 2, 1, 0, 0, 1, 2, 1, 10, 1, 2, 1, 2, 9, 5, 3, 1, 1, 1, 0, 0, 256]), (20, [0, 16, 17], [50, 1, 0, 10, 4, 7, 0, 3, 2, 0, 10, 1, 1, 1, 2, 1, 2, 0, -1]), (1, [16, 5, 3], []), (9, [5, 0], [15]), (10, [15, 7, 14], []), (1, [14, 13, 3], []), (1, [13, 10, 12], []), (3, [12, 11, 1], []), (1, [10, 8, 9], []), (9, [8, 0], [5]), (9, [7, 0], [2]), (8, [2], [1]), (7, [3, 6], [2]), (2, [6, 4, 5], []), (9, [4, 0], [11]), (20, [0, 0, 2], [30, 2008, 1, 1, 11, -1, 1, 15, 2000, 0, 0])] ta ws vs := hf
  obtain ⟨f0, hf⟩ := fc_un (show (6 : Nat) < 100 from by decide) hf
  have f0 : v_iv (n_v vs 19) = v_iv (n_v vs 3) + 1 := f0
  obtain ⟨f1, hf⟩ := fc_un (show (7 : Nat) < 100 from by decide) hf
  have f1 : v_iv (n_v vs 15) ≠ v_iv (n_v vs 17) := f1
  obtain ⟨f2, hf⟩ := fc_un (show (20 : Nat) < 100 from by decide) hf
  have f2 : ((v_iv (n_v vs 16) + 1) ≤ w_fi ws (n_v vs 0) 10) → (v_iv (n_v vs 17) = (w_ei ws (w_ar ws (n_v vs 0) 1) (v_iv (n_v vs 16)) % 256)) := f2
  obtain ⟨f3, hf⟩ := fc_un (show (20 : Nat) < 100 from by decide) hf
  have f3 : (w_fi ws (n_v vs 0) 10 ≤ v_iv (n_v vs 16)) → (v_iv (n_v vs 17) = (-1)) := f3
  obtain ⟨f4, hf⟩ := fc_un (show (1 : Nat) < 100 from by decide) hf
  have f4 : v_iv (n_v vs 16) = v_iv (n_v vs 5) + v_iv (n_v vs 3) := f4
  obtain ⟨f5, hf⟩ := fc_un (show (9 : Nat) < 100 from by decide) hf
  have f5 : n_v vs 5 = w_fd ws (v_ad (n_v vs 0)) 15 := f5
  obtain ⟨f6, hf⟩ := fc_un (show (10 : Nat) < 100 from by decide) hf
  have f6 : v_iv (n_v vs 15) = w_el ws (v_ad (n_v vs 7)) (v_iv (n_v vs 14)).toNat := f6
  obtain ⟨f7, hf⟩ := fc_un (show (1 : Nat) < 100 from by decide) hf
  have f7 : v_iv (n_v vs 14) = v_iv (n_v vs 13) + v_iv (n_v vs 3) := f7
  obtain ⟨f8, hf⟩ := fc_un (show (1 : Nat) < 100 from by decide) hf
  have f8 : v_iv (n_v vs 13) = v_iv (n_v vs 10) + v_iv (n_v vs 12) := f8
  obtain ⟨f9, hf⟩ := fc_un (show (3 : Nat) < 100 from by decide) hf
  have f9 : v_iv (n_v vs 12) = v_iv (n_v vs 11) * v_iv (n_v vs 1) := f9
  rw [show v_iv (n_v vs 11) = 8 from by omega] at f9
  obtain ⟨f10, hf⟩ := fc_un (show (1 : Nat) < 100 from by decide) hf
  have f10 : v_iv (n_v vs 10) = v_iv (n_v vs 8) + v_iv (n_v vs 9) := f10
  obtain ⟨f11, hf⟩ := fc_un (show (9 : Nat) < 100 from by decide) hf
  have f11 : n_v vs 8 = w_fd ws (v_ad (n_v vs 0)) 5 := f11
  obtain ⟨f12, hf⟩ := fc_un (show (9 : Nat) < 100 from by decide) hf
  have f12 : n_v vs 7 = w_fd ws (v_ad (n_v vs 0)) 2 := f12
  obtain ⟨f13, hf⟩ := fc_un (show (8 : Nat) < 100 from by decide) hf
  have f13 : v_iv (n_v vs 2) ≠ 0 := f13
  obtain ⟨f14, hf⟩ := fc_un (show (7 : Nat) < 100 from by decide) hf
  have f14 : v_iv (n_v vs 3) < v_iv (n_v vs 6) := f14
  obtain ⟨f15, hf⟩ := fc_un (show (2 : Nat) < 100 from by decide) hf
  have f15 : v_iv (n_v vs 6) = v_iv (n_v vs 4) - v_iv (n_v vs 5) := f15
  obtain ⟨f16, hf⟩ := fc_un (show (9 : Nat) < 100 from by decide) hf
  have f16 : n_v vs 4 = w_fd ws (v_ad (n_v vs 0)) 11 := f16
  obtain ⟨f17, hf⟩ := fc_un (show (20 : Nat) < 100 from by decide) hf
  have f17 : 1 * w_fi ws (n_v vs 0) 11 + ((-1) * w_fi ws (n_v vs 0) 15 + (2000 * v_iv (n_v vs 2) + 0)) ≤ 2008 := f17
  have cr_0_1 : ta (w_ar ws (n_v vs 0) 1) = some 151 := tv_rg (th_fd hD hth r0 (g := GG_150) rfl (k := 1) (t := (2, 0, 0, [151])) rfl rfl)
  have cr_0_2 : ta (w_ar ws (n_v vs 0) 2) = some 152 := tv_rg (th_fd hD hth r0 (g := GG_150) rfl (k := 2) (t := (2, 0, 0, [152])) rfl rfl)
  have ad_7 : v_ad (n_v vs 7) = w_ar ws (n_v vs 0) 2 := congrArg v_ad f12
  have g5 : v_iv (n_v vs 5) = w_fi ws (n_v vs 0) 15 := congrArg v_iv f5
  rw [ad_7] at f6
  have g11 : v_iv (n_v vs 8) = w_fi ws (n_v vs 0) 5 := congrArg v_iv f11
  have g16 : v_iv (n_v vs 4) = w_fi ws (n_v vs 0) 11 := congrArg v_iv f16
  have hK_0_1 : ∀ j : Int, 0 ≤ j → j < 2000 → (-128) ≤ w_ei ws (w_ar ws (n_v vs 0) 1) j ∧ w_ei ws (w_ar ws (n_v vs 0) 1) j ≤ 127 := fun j h0 h1 => th_el hD hth cr_0_1 (kd := 1) (n := 2000) (m := 2000) (lo := (-128)) (hi := 127) (rs := []) (L := []) rfl (by decide) (j := j.toNat) (by omega)
  have kz_0_10 : 0 ≤ w_fi ws (n_v vs 0) 10 ∧ w_fi ws (n_v vs 0) 10 ≤ 2000 := tv_rng (th_fd hD hth r0 (g := GG_150) rfl (k := 10) (t := (0, 0, 2000, [])) rfl rfl)
  have kz_0_11 : 0 ≤ w_fi ws (n_v vs 0) 11 ∧ w_fi ws (n_v vs 0) 11 ≤ 2000 := tv_rng (th_fd hD hth r0 (g := GG_150) rfl (k := 11) (t := (0, 0, 2000, [])) rfl rfl)
  have kz_0_15 : 0 ≤ w_fi ws (n_v vs 0) 15 ∧ w_fi ws (n_v vs 0) 15 ≤ 2000 := tv_rng (th_fd hD hth r0 (g := GG_150) rfl (k := 15) (t := (0, 0, 2000, [])) rfl rfl)
  have nf0 : fc_1 (20, [0, 0, 18], [30, 2008, 1, 1, 11, -1, 1, 15, 2000, 0, 0]) ws (vs) := by
    refine ⟨fun n hn => ?_, ?_⟩
    · have hn : n ∈ [0, 0, 18] := hn
      rw [hl]
      simp only [List.mem_cons, List.not_mem_nil, or_false] at hn
      show n < 20; omega
    · show 1 * w_fi ws (n_v vs 0) 11 + ((-1) * w_fi ws (n_v vs 0) 15 + (2000 * v_iv (n_v vs 18) + 0)) ≤ 2008
      omega
  refine ⟨(fun _ h => (by cases h)), [], trivial, ?_, (fun _ h => (by cases h))⟩
  rw [List.append_nil]
  exact List.forall_mem_cons.mpr ⟨⟨show (20 : Nat) < 100 from by decide, nf0⟩, (fun _ h => (by cases h))⟩
def o_Mo_known_4 : or_T := (35, 20, [(0, (2, 0, 0, [150])), (1, (0, 0, 23, [])), (2, (0, 1, 1, [])), (3, (0, 0, 7, [])), (4, (0, 1, 2000, [])), (5, (0, 0, 2000, [])), (6, (0, 1, 2000, [])), (7, (2, 0, 0, [152])), (8, (0, 0, 66297, [])), (9, (0, 3, 3, [])), (10, (0, 3, 66300, [])), (11, (0, 8, 8, [])), (12, (0, 0, 184, [])), (13, (0, 3, 66484, [])), (14, (0, 3, 66491, [])), (15, (0, -1, -1, [])), (16, (0, 0, 2007, [])), (17, (0, -1, -1, [])), (18, (0, 1, 1, [])), (19, (0, 1, 8, []))], [(6, [19, 3], [1]), (7, [15, 17], [0]), (20, [16, 0, 17], [50, 1, 1, 1010, 1001, 4, 11, 0, 6, 4, 2, 1, 0, 0, 1, 2, 1, 10, 1, 2, 1, 2, 9, 5, 3, 1, 1, 1, 0, 0, 256]), (20, [0, 16, 17], [50, 1, 0, 10, 4, 7, 0, 3, 2, 0, 10, 1, 1, 1, 2, 1, 2, 0, -1]), (1, [16, 5, 3], []), (9, [5, 0], [15]), (10, [15, 7, 14], []), (1, [14, 13, 3], []), (1, [13, 10, 12], []), (3, [12, 11, 1], []), (1, [10, 8, 9], []), (9, [8, 0], [5]), (9, [7, 0], [2]), (8, [2], [1]), (7, [3, 6], [2]), (2, [6, 4, 5], []), (9, [4, 0], [11]), (20, [0, 0, 2], [30, 2008, 1, 1, 11, -1, 1, 15, 2000, 0, 0])], [], [], [(20, [0, 0, 18], [30, 2008, 1, 1, 11, -1, 1, 15, 2000, 0, 0])], [], [(19, 3, 1, 1), (19, 6, -4294967296, 0), (16, 3, 0, 2000), (16, 6, -4294967296, 1999), (16, 5, 0, 7), (14, 3, 3, 66484), (14, 6, -4294967296, 66483), (14, 13, 0, 7), (14, 12, 3, 66307), (14, 10, 0, 191), (14, 8, 3, 194), (13, 12, 3, 66300), (13, 10, 0, 184), (13, 8, 3, 187), (10, 8, 3, 3), (3, 6, -4294967296, -1), (6, 4, -2000, 0), (2, 1, -4294967296, 1), (2, 3, -4294967296, 1)])
theorem oo_Mo_known_4 {kA : Nat → ClassId} : or_ok kA GG o_Mo_known_4 := by
  intro A ta ws vs hD hth hl hk hds hf
  have hl : vs.length = 20 := hl
  have hk : ∀ q ∈ ([(0, (2, 0, 0, [150])), (1, (0, 0, 23, [])), (2, (0, 1, 1, [])), (3, (0, 0, 7, [])), (4, (0, 1, 2000, [])), (5, (0, 0, 2000, [])), (6, (0, 1, 2000, [])), (7, (2, 0, 0, [152])), (8, (0, 0, 66297, [])), (9, (0, 3, 3, [])), (10, (0, 3, 66300, [])), (11, (0, 8, 8, [])), (12, (0, 0, 184, [])), (13, (0, 3, 66484, [])), (14, (0, 3, 66491, [])), (15, (0, -1, -1, [])), (16, (0, 0, 2007, [])), (17, (0, -1, -1, [])), (18, (0, 1, 1, [])), (19, (0, 1, 8, []))] : List (Nat × tv_T)), tv_ok ta q.2 (n_v vs q.1) := hk
  obtain ⟨t0, hk⟩ := List.forall_mem_cons.mp hk
  have t0 : tv_ok ta (2, 0, 0, [150]) (n_v vs 0) := t0
  have r0 : ta (v_ad (n_v vs 0)) = some 150 := tv_rg t0
  obtain ⟨t1, hk⟩ := List.forall_mem_cons.mp hk
  have t1 : tv_ok ta (0, 0, 23, []) (n_v vs 1) := t1
  have k1 : 0 ≤ v_iv (n_v vs 1) ∧ v_iv (n_v vs 1) ≤ 23 := tv_rng t1
  obtain ⟨t2, hk⟩ := List.forall_mem_cons.mp hk
  have t2 : tv_ok ta (0, 1, 1, []) (n_v vs 2) := t2
  have k2 : 1 ≤ v_iv (n_v vs 2) ∧ v_iv (n_v vs 2) ≤ 1 := tv_rng t2
  obtain ⟨t3, hk⟩ := List.forall_mem_cons.mp hk
  have t3 : tv_ok ta (0, 0, 7, []) (n_v vs 3) := t3
  have k3 : 0 ≤ v_iv (n_v vs 3) ∧ v_iv (n_v vs 3) ≤ 7 := tv_rng t3
  obtain ⟨t4, hk⟩ := List.forall_mem_cons.mp hk
  have t4 : tv_ok ta (0, 1, 2000, []) (n_v vs 4) := t4
  have k4 : 1 ≤ v_iv (n_v vs 4) ∧ v_iv (n_v vs 4) ≤ 2000 := tv_rng t4
  obtain ⟨t5, hk⟩ := List.forall_mem_cons.mp hk
  have t5 : tv_ok ta (0, 0, 2000, []) (n_v vs 5) := t5
  have k5 : 0 ≤ v_iv (n_v vs 5) ∧ v_iv (n_v vs 5) ≤ 2000 := tv_rng t5
  obtain ⟨t6, hk⟩ := List.forall_mem_cons.mp hk
  have t6 : tv_ok ta (0, 1, 2000, []) (n_v vs 6) := t6
  have k6 : 1 ≤ v_iv (n_v vs 6) ∧ v_iv (n_v vs 6) ≤ 2000 := tv_rng t6
  obtain ⟨t7, hk⟩ := List.forall_mem_cons.mp hk
  have t7 : tv_ok ta (2, 0, 0, [152]) (n_v vs 7) := t7
  have r7 : ta (v_ad (n_v vs 7)) = some 152 := tv_rg t7
  obtain ⟨t8, hk⟩ := List.forall_mem_cons.mp hk
  have t8 : tv_ok ta (0, 0, 66297, []) (n_v vs 8) := t8
  have k8 : 0 ≤ v_iv (n_v vs 8) ∧ v_iv (n_v vs 8) ≤ 66297 := tv_rng t8
  obtain ⟨t9, hk⟩ := List.forall_mem_cons.mp hk
  have t9 : tv_ok ta (0, 3, 3, []) (n_v vs 9) := t9
  have k9 : 3 ≤ v_iv (n_v vs 9) ∧ v_iv (n_v vs 9) ≤ 3 := tv_rng t9
  obtain ⟨t10, hk⟩ := List.forall_mem_cons.mp hk
  have t10 : tv_ok ta (0, 3, 66300, []) (n_v vs 10) := t10
  have k10 : 3 ≤ v_iv (n_v vs 10) ∧ v_iv (n_v vs 10) ≤ 66300 := tv_rng t10
  obtain ⟨t11, hk⟩ := List.forall_mem_cons.mp hk
  have t11 : tv_ok ta (0, 8, 8, []) (n_v vs 11) := t11
  have k11 : 8 ≤ v_iv (n_v vs 11) ∧ v_iv (n_v vs 11) ≤ 8 := tv_rng t11
  obtain ⟨t12, hk⟩ := List.forall_mem_cons.mp hk
  have t12 : tv_ok ta (0, 0, 184, []) (n_v vs 12) := t12
  have k12 : 0 ≤ v_iv (n_v vs 12) ∧ v_iv (n_v vs 12) ≤ 184 := tv_rng t12
  obtain ⟨t13, hk⟩ := List.forall_mem_cons.mp hk
  have t13 : tv_ok ta (0, 3, 66484, []) (n_v vs 13) := t13
  have k13 : 3 ≤ v_iv (n_v vs 13) ∧ v_iv (n_v vs 13) ≤ 66484 := tv_rng t13
  obtain ⟨t14, hk⟩ := List.forall_mem_cons.mp hk
  have t14 : tv_ok ta (0, 3, 66491, []) (n_v vs 14) := t14
  have k14 : 3 ≤ v_iv (n_v vs 14) ∧ v_iv (n_v vs 14) ≤ 66491 := tv_rng t14
  obtain ⟨t15, hk⟩ := List.forall_mem_cons.mp hk
  have t15 : tv_ok ta (0, -1, -1, []) (n_v vs 15) := t15
  have k15 : (-1) ≤ v_iv (n_v vs 15) ∧ v_iv (n_v vs 15) ≤ (-1) := tv_rng t15
  obtain ⟨t16, hk⟩ := List.forall_mem_cons.mp hk
  have t16 : tv_ok ta (0, 0, 2007, []) (n_v vs 16) := t16
  have k16 : 0 ≤ v_iv (n_v vs 16) ∧ v_iv (n_v vs 16) ≤ 2007 := tv_rng t16
  obtain ⟨t17, hk⟩ := List.forall_mem_cons.mp hk
  have t17 : tv_ok ta (0, -1, -1, []) (n_v vs 17) := t17
  have k17 : (-1) ≤ v_iv (n_v vs 17) ∧ v_iv (n_v vs 17) ≤ (-1) := tv_rng t17
  obtain ⟨t18, hk⟩ := List.forall_mem_cons.mp hk
  have t18 : tv_ok ta (0, 1, 1, []) (n_v vs 18) := t18
  have k18 : 1 ≤ v_iv (n_v vs 18) ∧ v_iv (n_v vs 18) ≤ 1 := tv_rng t18
  obtain ⟨t19, hk⟩ := List.forall_mem_cons.mp hk
  have t19 : tv_ok ta (0, 1, 8, []) (n_v vs 19) := t19
  have k19 : 1 ≤ v_iv (n_v vs 19) ∧ v_iv (n_v vs 19) ≤ 8 := tv_rng t19
  have hds : ∀ q ∈ ([(19, 3, 1, 1), (19, 6, -4294967296, 0), (16, 3, 0, 2000), (16, 6, -4294967296, 1999), (16, 5, 0, 7), (14, 3, 3, 66484), (14, 6, -4294967296, 66483), (14, 13, 0, 7), (14, 12, 3, 66307), (14, 10, 0, 191), (14, 8, 3, 194), (13, 12, 3, 66300), (13, 10, 0, 184), (13, 8, 3, 187), (10, 8, 3, 3), (3, 6, -4294967296, -1), (6, 4, -2000, 0), (2, 1, -4294967296, 1), (2, 3, -4294967296, 1)] : List of_T), n_iv vs q.2.1 + q.2.2.1 ≤ n_iv vs q.1 ∧ n_iv vs q.1 ≤ n_iv vs q.2.1 + q.2.2.2 := hds
  obtain ⟨d0, hds⟩ := List.forall_mem_cons.mp hds
  have d0 : v_iv (n_v vs 3) + 1 ≤ v_iv (n_v vs 19) ∧ v_iv (n_v vs 19) ≤ v_iv (n_v vs 3) + 1 := d0
  obtain ⟨d1, hds⟩ := List.forall_mem_cons.mp hds
  have d1 : v_iv (n_v vs 6) + (-4294967296) ≤ v_iv (n_v vs 19) ∧ v_iv (n_v vs 19) ≤ v_iv (n_v vs 6) + 0 := d1
  obtain ⟨d2, hds⟩ := List.forall_mem_cons.mp hds
  have d2 : v_iv (n_v vs 3) + 0 ≤ v_iv (n_v vs 16) ∧ v_iv (n_v vs 16) ≤ v_iv (n_v vs 3) + 2000 := d2
  obtain ⟨d3, hds⟩ := List.forall_mem_cons.mp hds
  have d3 : v_iv (n_v vs 6) + (-4294967296) ≤ v_iv (n_v vs 16) ∧ v_iv (n_v vs 16) ≤ v_iv (n_v vs 6) + 1999 := d3
  obtain ⟨d4, hds⟩ := List.forall_mem_cons.mp hds
  have d4 : v_iv (n_v vs 5) + 0 ≤ v_iv (n_v vs 16) ∧ v_iv (n_v vs 16) ≤ v_iv (n_v vs 5) + 7 := d4
  obtain ⟨d5, hds⟩ := List.forall_mem_cons.mp hds
  have d5 : v_iv (n_v vs 3) + 3 ≤ v_iv (n_v vs 14) ∧ v_iv (n_v vs 14) ≤ v_iv (n_v vs 3) + 66484 := d5
  obtain ⟨d6, hds⟩ := List.forall_mem_cons.mp hds
  have d6 : v_iv (n_v vs 6) + (-4294967296) ≤ v_iv (n_v vs 14) ∧ v_iv (n_v vs 14) ≤ v_iv (n_v vs 6) + 66483 := d6
  obtain ⟨d7, hds⟩ := List.forall_mem_cons.mp hds
  have d7 : v_iv (n_v vs 13) + 0 ≤ v_iv (n_v vs 14) ∧ v_iv (n_v vs 14) ≤ v_iv (n_v vs 13) + 7 := d7
  obtain ⟨d8, hds⟩ := List.forall_mem_cons.mp hds
  have d8 : v_iv (n_v vs 12) + 3 ≤ v_iv (n_v vs 14) ∧ v_iv (n_v vs 14) ≤ v_iv (n_v vs 12) + 66307 := d8
  obtain ⟨d9, hds⟩ := List.forall_mem_cons.mp hds
  have d9 : v_iv (n_v vs 10) + 0 ≤ v_iv (n_v vs 14) ∧ v_iv (n_v vs 14) ≤ v_iv (n_v vs 10) + 191 := d9
  obtain ⟨d10, hds⟩ := List.forall_mem_cons.mp hds
  have d10 : v_iv (n_v vs 8) + 3 ≤ v_iv (n_v vs 14) ∧ v_iv (n_v vs 14) ≤ v_iv (n_v vs 8) + 194 := d10
  obtain ⟨d11, hds⟩ := List.forall_mem_cons.mp hds
  have d11 : v_iv (n_v vs 12) + 3 ≤ v_iv (n_v vs 13) ∧ v_iv (n_v vs 13) ≤ v_iv (n_v vs 12) + 66300 := d11
  obtain ⟨d12, hds⟩ := List.forall_mem_cons.mp hds
  have d12 : v_iv (n_v vs 10) + 0 ≤ v_iv (n_v vs 13) ∧ v_iv (n_v vs 13) ≤ v_iv (n_v vs 10) + 184 := d12
  obtain ⟨d13, hds⟩ := List.forall_mem_cons.mp hds
  have d13 : v_iv (n_v vs 8) + 3 ≤ v_iv (n_v vs 13) ∧ v_iv (n_v vs 13) ≤ v_iv (n_v vs 8) + 187 := d13
  obtain ⟨d14, hds⟩ := List.forall_mem_cons.mp hds
  have d14 : v_iv (n_v vs 8) + 3 ≤ v_iv (n_v vs 10) ∧ v_iv (n_v vs 10) ≤ v_iv (n_v vs 8) + 3 := d14
  obtain ⟨d15, hds⟩ := List.forall_mem_cons.mp hds
  have d15 : v_iv (n_v vs 6) + (-4294967296) ≤ v_iv (n_v vs 3) ∧ v_iv (n_v vs 3) ≤ v_iv (n_v vs 6) + (-1) := d15
  obtain ⟨d16, hds⟩ := List.forall_mem_cons.mp hds
  have d16 : v_iv (n_v vs 4) + (-2000) ≤ v_iv (n_v vs 6) ∧ v_iv (n_v vs 6) ≤ v_iv (n_v vs 4) + 0 := d16
  obtain ⟨d17, hds⟩ := List.forall_mem_cons.mp hds
  have d17 : v_iv (n_v vs 1) + (-4294967296) ≤ v_iv (n_v vs 2) ∧ v_iv (n_v vs 2) ≤ v_iv (n_v vs 1) + 1 := d17
  obtain ⟨d18, hds⟩ := List.forall_mem_cons.mp hds
  have d18 : v_iv (n_v vs 3) + (-4294967296) ≤ v_iv (n_v vs 2) ∧ v_iv (n_v vs 2) ≤ v_iv (n_v vs 3) + 1 := d18
  have hf : fc_ok [(6, [19, 3], [1]), (7, [15, 17], [0]), (20, [16, 0, 17], [50, 1, 1, 1010, 1001, 4, 11, 0, 6, 4, 2, 1, 0, 0, 1, 2, 1, 10, 1, 2, 1, 2, 9, 5, 3, 1, 1, 1, 0, 0, 256]), (20, [0, 16, 17], [50, 1, 0, 10, 4, 7, 0, 3, 2, 0, 10, 1, 1, 1, 2, 1, 2, 0, -1]), (1, [16, 5, 3], []), (9, [5, 0], [15]), (10, [15, 7, 14], []), (1, [14, 13, 3], []), (1, [13, 10, 12], []), (3, [12, 11, 1], []), (1, [10, 8, 9], []), (9, [8, 0], [5]), (9, [7, 0], [2]), (8, [2], [1]), (7, [3, 6], [2]), (2, [6, 4, 5], []), (9, [4, 0], [11]), (20, [0, 0, 2], [30, 2008, 1, 1, 11, -1, 1, 15, 2000, 0, 0])] ta ws vs := hf
  obtain ⟨f0, hf⟩ := fc_un (show (6 : Nat) < 100 from by decide) hf
  have f0 : v_iv (n_v vs 19) = v_iv (n_v vs 3) + 1 := f0
  obtain ⟨f1, hf⟩ := fc_un (show (7 : Nat) < 100 from by decide) hf
  have f1 : v_iv (n_v vs 15) = v_iv (n_v vs 17) := f1
  obtain ⟨f2, hf⟩ := fc_un (show (20 : Nat) < 100 from by decide) hf
  have f2 : ((v_iv (n_v vs 16) + 1) ≤ w_fi ws (n_v vs 0) 10) → (v_iv (n_v vs 17) = (w_ei ws (w_ar ws (n_v vs 0) 1) (v_iv (n_v vs 16)) % 256)) := f2
  obtain ⟨f3, hf⟩ := fc_un (show (20 : Nat) < 100 from by decide) hf
  have f3 : (w_fi ws (n_v vs 0) 10 ≤ v_iv (n_v vs 16)) → (v_iv (n_v vs 17) = (-1)) := f3
  obtain ⟨f4, hf⟩ := fc_un (show (1 : Nat) < 100 from by decide) hf
  have f4 : v_iv (n_v vs 16) = v_iv (n_v vs 5) + v_iv (n_v vs 3) := f4
  obtain ⟨f5, hf⟩ := fc_un (show (9 : Nat) < 100 from by decide) hf
  have f5 : n_v vs 5 = w_fd ws (v_ad (n_v vs 0)) 15 := f5
  obtain ⟨f6, hf⟩ := fc_un (show (10 : Nat) < 100 from by decide) hf
  have f6 : v_iv (n_v vs 15) = w_el ws (v_ad (n_v vs 7)) (v_iv (n_v vs 14)).toNat := f6
  obtain ⟨f7, hf⟩ := fc_un (show (1 : Nat) < 100 from by decide) hf
  have f7 : v_iv (n_v vs 14) = v_iv (n_v vs 13) + v_iv (n_v vs 3) := f7
  obtain ⟨f8, hf⟩ := fc_un (show (1 : Nat) < 100 from by decide) hf
  have f8 : v_iv (n_v vs 13) = v_iv (n_v vs 10) + v_iv (n_v vs 12) := f8
  obtain ⟨f9, hf⟩ := fc_un (show (3 : Nat) < 100 from by decide) hf
  have f9 : v_iv (n_v vs 12) = v_iv (n_v vs 11) * v_iv (n_v vs 1) := f9
  rw [show v_iv (n_v vs 11) = 8 from by omega] at f9
  obtain ⟨f10, hf⟩ := fc_un (show (1 : Nat) < 100 from by decide) hf
  have f10 : v_iv (n_v vs 10) = v_iv (n_v vs 8) + v_iv (n_v vs 9) := f10
  obtain ⟨f11, hf⟩ := fc_un (show (9 : Nat) < 100 from by decide) hf
  have f11 : n_v vs 8 = w_fd ws (v_ad (n_v vs 0)) 5 := f11
  obtain ⟨f12, hf⟩ := fc_un (show (9 : Nat) < 100 from by decide) hf
  have f12 : n_v vs 7 = w_fd ws (v_ad (n_v vs 0)) 2 := f12
  obtain ⟨f13, hf⟩ := fc_un (show (8 : Nat) < 100 from by decide) hf
  have f13 : v_iv (n_v vs 2) ≠ 0 := f13
  obtain ⟨f14, hf⟩ := fc_un (show (7 : Nat) < 100 from by decide) hf
  have f14 : v_iv (n_v vs 3) < v_iv (n_v vs 6) := f14
  obtain ⟨f15, hf⟩ := fc_un (show (2 : Nat) < 100 from by decide) hf
  have f15 : v_iv (n_v vs 6) = v_iv (n_v vs 4) - v_iv (n_v vs 5) := f15
  obtain ⟨f16, hf⟩ := fc_un (show (9 : Nat) < 100 from by decide) hf
  have f16 : n_v vs 4 = w_fd ws (v_ad (n_v vs 0)) 11 := f16
  obtain ⟨f17, hf⟩ := fc_un (show (20 : Nat) < 100 from by decide) hf
  have f17 : 1 * w_fi ws (n_v vs 0) 11 + ((-1) * w_fi ws (n_v vs 0) 15 + (2000 * v_iv (n_v vs 2) + 0)) ≤ 2008 := f17
  have cr_0_1 : ta (w_ar ws (n_v vs 0) 1) = some 151 := tv_rg (th_fd hD hth r0 (g := GG_150) rfl (k := 1) (t := (2, 0, 0, [151])) rfl rfl)
  have cr_0_2 : ta (w_ar ws (n_v vs 0) 2) = some 152 := tv_rg (th_fd hD hth r0 (g := GG_150) rfl (k := 2) (t := (2, 0, 0, [152])) rfl rfl)
  have ad_7 : v_ad (n_v vs 7) = w_ar ws (n_v vs 0) 2 := congrArg v_ad f12
  have g5 : v_iv (n_v vs 5) = w_fi ws (n_v vs 0) 15 := congrArg v_iv f5
  rw [ad_7] at f6
  have g11 : v_iv (n_v vs 8) = w_fi ws (n_v vs 0) 5 := congrArg v_iv f11
  have g16 : v_iv (n_v vs 4) = w_fi ws (n_v vs 0) 11 := congrArg v_iv f16
  have hK_0_1 : ∀ j : Int, 0 ≤ j → j < 2000 → (-128) ≤ w_ei ws (w_ar ws (n_v vs 0) 1) j ∧ w_ei ws (w_ar ws (n_v vs 0) 1) j ≤ 127 := fun j h0 h1 => th_el hD hth cr_0_1 (kd := 1) (n := 2000) (m := 2000) (lo := (-128)) (hi := 127) (rs := []) (L := []) rfl (by decide) (j := j.toNat) (by omega)
  have kz_0_10 : 0 ≤ w_fi ws (n_v vs 0) 10 ∧ w_fi ws (n_v vs 0) 10 ≤ 2000 := tv_rng (th_fd hD hth r0 (g := GG_150) rfl (k := 10) (t := (0, 0, 2000, [])) rfl rfl)
  have kz_0_11 : 0 ≤ w_fi ws (n_v vs 0) 11 ∧ w_fi ws (n_v vs 0) 11 ≤ 2000 := tv_rng (th_fd hD hth r0 (g := GG_150) rfl (k := 11) (t := (0, 0, 2000, [])) rfl rfl)
  have kz_0_15 : 0 ≤ w_fi ws (n_v vs 0) 15 ∧ w_fi ws (n_v vs 0) 15 ≤ 2000 := tv_rng (th_fd hD hth r0 (g := GG_150) rfl (k := 15) (t := (0, 0, 2000, [])) rfl rfl)
  have nf0 : fc_1 (20, [0, 0, 18], [30, 2008, 1, 1, 11, -1, 1, 15, 2000, 0, 0]) ws (vs) := by
    refine ⟨fun n hn => ?_, ?_⟩
    · have hn : n ∈ [0, 0, 18] := hn
      rw [hl]
      simp only [List.mem_cons, List.not_mem_nil, or_false] at hn
      show n < 20; omega
    · show 1 * w_fi ws (n_v vs 0) 11 + ((-1) * w_fi ws (n_v vs 0) 15 + (2000 * v_iv (n_v vs 18) + 0)) ≤ 2008
      omega
  refine ⟨(fun _ h => (by cases h)), [], trivial, ?_, (fun _ h => (by cases h))⟩
  rw [List.append_nil]
  exact List.forall_mem_cons.mpr ⟨⟨show (20 : Nat) < 100 from by decide, nf0⟩, (fun _ h => (by cases h))⟩
def o_Mo_known_5 : or_T := (35, 20, [(0, (2, 0, 0, [150])), (1, (0, 0, 23, [])), (2, (0, 1, 1, [])), (3, (0, 0, 7, [])), (4, (0, 1, 2000, [])), (5, (0, 0, 1999, [])), (6, (0, 1, 2000, [])), (7, (2, 0, 0, [152])), (8, (0, 0, 66297, [])), (9, (0, 3, 3, [])), (10, (0, 3, 66300, [])), (11, (0, 8, 8, [])), (12, (0, 0, 184, [])), (13, (0, 3, 66484, [])), (14, (0, 3, 66491, [])), (15, (0, -1, 255, [])), (16, (0, 0, 1999, [])), (17, (0, 0, 255, [])), (18, (0, 0, 0, [])), (19, (0, 1, 8, []))], [(6, [19, 3], [1]), (7, [15, 17], [1]), (20, [16, 0, 17], [50, 1, 1, 1010, 1001, 4, 11, 0, 6, 4, 2, 1, 0, 0, 1, 2, 1, 10, 1, 2, 1, 2, 9, 5, 3, 1, 1, 1, 0, 0, 256]), (20, [0, 16, 17], [50, 1, 0, 10, 4, 7, 0, 3, 2, 0, 10, 1, 1, 1, 2, 1, 2, 0, -1]), (1, [16, 5, 3], []), (9, [5, 0], [15]), (10, [15, 7, 14], []), (1, [14, 13, 3], []), (1, [13, 10, 12], []), (3, [12, 11, 1], []), (1, [10, 8, 9], []), (9, [8, 0], [5]), (9, [7, 0], [2]), (8, [2], [1]), (7, [3, 6], [2]), (2, [6, 4, 5], []), (9, [4, 0], [11]), (20, [0, 0, 2], [30, 2008, 1, 1, 11, -1, 1, 15, 2000, 0, 0])], [], [], [(20, [0, 0, 18], [30, 2008, 1, 1, 11, -1, 1, 15, 2000, 0, 0])], [], [(19, 3, 1, 1), (19, 6, -4294967296, 0), (16, 3, 0, 2000), (16, 6, -4294967296, 1999), (16, 5, 0, 7), (14, 3, 3, 66484), (14, 6, -4294967296, 66483), (14, 13, 0, 7), (14, 12, 3, 66307), (14, 10, 0, 191), (14, 8, 3, 194), (13, 12, 3, 66300), (13, 10, 0, 184), (13, 8, 3, 187), (10, 8, 3, 3), (3, 6, -4294967296, -1), (6, 4, -2000, 0), (2, 1, -4294967296, 1), (2, 3, -4294967296, 1)])
theorem oo_Mo_known_5 {kA : Nat → ClassId} : or_ok kA GG o_Mo_known_5 := by
  intro A ta ws vs hD hth hl hk hds hf
  have hl : vs.length = 20 := hl
  have hk : ∀ q ∈ ([(0, (2, 0, 0, [150])), (1, (0, 0, 23, [])), (2, (0, 1, 1, [])), (3, (0, 0, 7, [])), (4, (0, 1, 2000, [])), (5, (0, 0, 1999, [])), (6, (0, 1, 2000, [])), (7, (2, 0, 0, [152])), (8, (0, 0, 66297, [])), (9, (0, 3, 3, [])), (10, (0, 3, 66300, [])), (11, (0, 8, 8, [])), (12, (0, 0, 184, [])), (13, (0, 3, 66484, [])), (14, (0, 3, 66491, [])), (15, (0, -1, 255, [])), (16, (0, 0, 1999, [])), (17, (0, 0, 255, [])), (18, (0, 0, 0, [])), (19, (0, 1, 8, []))] : List (Nat × tv_T)), tv_ok ta q.2 (n_v vs q.1) := hk
  obtain ⟨t0, hk⟩ := List.forall_mem_cons.mp hk
  have t0 : tv_ok ta (2, 0, 0, [150]) (n_v vs 0) := t0
  have r0 : ta (v_ad (n_v vs 0)) = some 150 := tv_rg t0
  obtain ⟨t1, hk⟩ := List.forall_mem_cons.mp hk
  have t1 : tv_ok ta (0, 0, 23, []) (n_v vs 1) := t1
  have k1 : 0 ≤ v_iv (n_v vs 1) ∧ v_iv (n_v vs 1) ≤ 23 := tv_rng t1
  obtain ⟨t2, hk⟩ := List.forall_mem_cons.mp hk
  have t2 : tv_ok ta (0, 1, 1, []) (n_v vs 2) := t2
  have k2 : 1 ≤ v_iv (n_v vs 2) ∧ v_iv (n_v vs 2) ≤ 1 := tv_rng t2
  obtain ⟨t3, hk⟩ := List.forall_mem_cons.mp hk
  have t3 : tv_ok ta (0, 0, 7, []) (n_v vs 3) := t3
  have k3 : 0 ≤ v_iv (n_v vs 3) ∧ v_iv (n_v vs 3) ≤ 7 := tv_rng t3
  obtain ⟨t4, hk⟩ := List.forall_mem_cons.mp hk
  have t4 : tv_ok ta (0, 1, 2000, []) (n_v vs 4) := t4
  have k4 : 1 ≤ v_iv (n_v vs 4) ∧ v_iv (n_v vs 4) ≤ 2000 := tv_rng t4
  obtain ⟨t5, hk⟩ := List.forall_mem_cons.mp hk
  have t5 : tv_ok ta (0, 0, 1999, []) (n_v vs 5) := t5
  have k5 : 0 ≤ v_iv (n_v vs 5) ∧ v_iv (n_v vs 5) ≤ 1999 := tv_rng t5
  obtain ⟨t6, hk⟩ := List.forall_mem_cons.mp hk
  have t6 : tv_ok ta (0, 1, 2000, []) (n_v vs 6) := t6
  have k6 : 1 ≤ v_iv (n_v vs 6) ∧ v_iv (n_v vs 6) ≤ 2000 := tv_rng t6
  obtain ⟨t7, hk⟩ := List.forall_mem_cons.mp hk
  have t7 : tv_ok ta (2, 0, 0, [152]) (n_v vs 7) := t7
  have r7 : ta (v_ad (n_v vs 7)) = some 152 := tv_rg t7
  obtain ⟨t8, hk⟩ := List.forall_mem_cons.mp hk
  have t8 : tv_ok ta (0, 0, 66297, []) (n_v vs 8) := t8
  have k8 : 0 ≤ v_iv (n_v vs 8) ∧ v_iv (n_v vs 8) ≤ 66297 := tv_rng t8
  obtain ⟨t9, hk⟩ := List.forall_mem_cons.mp hk
  have t9 : tv_ok ta (0, 3, 3, []) (n_v vs 9) := t9
  have k9 : 3 ≤ v_iv (n_v vs 9) ∧ v_iv (n_v vs 9) ≤ 3 := tv_rng t9
  obtain ⟨t10, hk⟩ := List.forall_mem_cons.mp hk
  have t10 : tv_ok ta (0, 3, 66300, []) (n_v vs 10) := t10
  have k10 : 3 ≤ v_iv (n_v vs 10) ∧ v_iv (n_v vs 10) ≤ 66300 := tv_rng t10
  obtain ⟨t11, hk⟩ := List.forall_mem_cons.mp hk
  have t11 : tv_ok ta (0, 8, 8, []) (n_v vs 11) := t11
  have k11 : 8 ≤ v_iv (n_v vs 11) ∧ v_iv (n_v vs 11) ≤ 8 := tv_rng t11
  obtain ⟨t12, hk⟩ := List.forall_mem_cons.mp hk
  have t12 : tv_ok ta (0, 0, 184, []) (n_v vs 12) := t12
  have k12 : 0 ≤ v_iv (n_v vs 12) ∧ v_iv (n_v vs 12) ≤ 184 := tv_rng t12
  obtain ⟨t13, hk⟩ := List.forall_mem_cons.mp hk
  have t13 : tv_ok ta (0, 3, 66484, []) (n_v vs 13) := t13
  have k13 : 3 ≤ v_iv (n_v vs 13) ∧ v_iv (n_v vs 13) ≤ 66484 := tv_rng t13
  obtain ⟨t14, hk⟩ := List.forall_mem_cons.mp hk
  have t14 : tv_ok ta (0, 3, 66491, []) (n_v vs 14) := t14
  have k14 : 3 ≤ v_iv (n_v vs 14) ∧ v_iv (n_v vs 14) ≤ 66491 := tv_rng t14
  obtain ⟨t15, hk⟩ := List.forall_mem_cons.mp hk
  have t15 : tv_ok ta (0, -1, 255, []) (n_v vs 15) := t15
  have k15 : (-1) ≤ v_iv (n_v vs 15) ∧ v_iv (n_v vs 15) ≤ 255 := tv_rng t15
  obtain ⟨t16, hk⟩ := List.forall_mem_cons.mp hk
  have t16 : tv_ok ta (0, 0, 1999, []) (n_v vs 16) := t16
  have k16 : 0 ≤ v_iv (n_v vs 16) ∧ v_iv (n_v vs 16) ≤ 1999 := tv_rng t16
  obtain ⟨t17, hk⟩ := List.forall_mem_cons.mp hk
  have t17 : tv_ok ta (0, 0, 255, []) (n_v vs 17) := t17
  have k17 : 0 ≤ v_iv (n_v vs 17) ∧ v_iv (n_v vs 17) ≤ 255 := tv_rng t17
  obtain ⟨t18, hk⟩ := List.forall_mem_cons.mp hk
  have t18 : tv_ok ta (0, 0, 0, []) (n_v vs 18) := t18
  have k18 : 0 ≤ v_iv (n_v vs 18) ∧ v_iv (n_v vs 18) ≤ 0 := tv_rng t18
  obtain ⟨t19, hk⟩ := List.forall_mem_cons.mp hk
  have t19 : tv_ok ta (0, 1, 8, []) (n_v vs 19) := t19
  have k19 : 1 ≤ v_iv (n_v vs 19) ∧ v_iv (n_v vs 19) ≤ 8 := tv_rng t19
  have hds : ∀ q ∈ ([(19, 3, 1, 1), (19, 6, -4294967296, 0), (16, 3, 0, 2000), (16, 6, -4294967296, 1999), (16, 5, 0, 7), (14, 3, 3, 66484), (14, 6, -4294967296, 66483), (14, 13, 0, 7), (14, 12, 3, 66307), (14, 10, 0, 191), (14, 8, 3, 194), (13, 12, 3, 66300), (13, 10, 0, 184), (13, 8, 3, 187), (10, 8, 3, 3), (3, 6, -4294967296, -1), (6, 4, -2000, 0), (2, 1, -4294967296, 1), (2, 3, -4294967296, 1)] : List of_T), n_iv vs q.2.1 + q.2.2.1 ≤ n_iv vs q.1 ∧ n_iv vs q.1 ≤ n_iv vs q.2.1 + q.2.2.2 := hds
  obtain ⟨d0, hds⟩ := List.forall_mem_cons.mp hds
  have d0 : v_iv (n_v vs 3) + 1 ≤ v_iv (n_v vs 19) ∧ v_iv (n_v vs 19) ≤ v_iv (n_v vs 3) + 1 := d0
  obtain ⟨d1, hds⟩ := List.forall_mem_cons.mp hds
  have d1 : v_iv (n_v vs 6) + (-4294967296) ≤ v_iv (n_v vs 19) ∧ v_iv (n_v vs 19) ≤ v_iv (n_v vs 6) + 0 := d1
  obtain ⟨d2, hds⟩ := List.forall_mem_cons.mp hds
  have d2 : v_iv (n_v vs 3) + 0 ≤ v_iv (n_v vs 16) ∧ v_iv (n_v vs 16) ≤ v_iv (n_v vs 3) + 2000 := d2
  obtain ⟨d3, hds⟩ := List.forall_mem_cons.mp hds
  have d3 : v_iv (n_v vs 6) + (-4294967296) ≤ v_iv (n_v vs 16) ∧ v_iv (n_v vs 16) ≤ v_iv (n_v vs 6) + 1999 := d3
  obtain ⟨d4, hds⟩ := List.forall_mem_cons.mp hds
  have d4 : v_iv (n_v vs 5) + 0 ≤ v_iv (n_v vs 16) ∧ v_iv (n_v vs 16) ≤ v_iv (n_v vs 5) + 7 := d4
  obtain ⟨d5, hds⟩ := List.forall_mem_cons.mp hds
  have d5 : v_iv (n_v vs 3) + 3 ≤ v_iv (n_v vs 14) ∧ v_iv (n_v vs 14) ≤ v_iv (n_v vs 3) + 66484 := d5
  obtain ⟨d6, hds⟩ := List.forall_mem_cons.mp hds
  have d6 : v_iv (n_v vs 6) + (-4294967296) ≤ v_iv (n_v vs 14) ∧ v_iv (n_v vs 14) ≤ v_iv (n_v vs 6) + 66483 := d6
  obtain ⟨d7, hds⟩ := List.forall_mem_cons.mp hds
  have d7 : v_iv (n_v vs 13) + 0 ≤ v_iv (n_v vs 14) ∧ v_iv (n_v vs 14) ≤ v_iv (n_v vs 13) + 7 := d7
  obtain ⟨d8, hds⟩ := List.forall_mem_cons.mp hds
  have d8 : v_iv (n_v vs 12) + 3 ≤ v_iv (n_v vs 14) ∧ v_iv (n_v vs 14) ≤ v_iv (n_v vs 12) + 66307 := d8
  obtain ⟨d9, hds⟩ := List.forall_mem_cons.mp hds
  have d9 : v_iv (n_v vs 10) + 0 ≤ v_iv (n_v vs 14) ∧ v_iv (n_v vs 14) ≤ v_iv (n_v vs 10) + 191 := d9
  obtain ⟨d10, hds⟩ := List.forall_mem_cons.mp hds
  have d10 : v_iv (n_v vs 8) + 3 ≤ v_iv (n_v vs 14) ∧ v_iv (n_v vs 14) ≤ v_iv (n_v vs 8) + 194 := d10
  obtain ⟨d11, hds⟩ := List.forall_mem_cons.mp hds
  have d11 : v_iv (n_v vs 12) + 3 ≤ v_iv (n_v vs 13) ∧ v_iv (n_v vs 13) ≤ v_iv (n_v vs 12) + 66300 := d11
  obtain ⟨d12, hds⟩ := List.forall_mem_cons.mp hds
  have d12 : v_iv (n_v vs 10) + 0 ≤ v_iv (n_v vs 13) ∧ v_iv (n_v vs 13) ≤ v_iv (n_v vs 10) + 184 := d12
  obtain ⟨d13, hds⟩ := List.forall_mem_cons.mp hds
  have d13 : v_iv (n_v vs 8) + 3 ≤ v_iv (n_v vs 13) ∧ v_iv (n_v vs 13) ≤ v_iv (n_v vs 8) + 187 := d13
  obtain ⟨d14, hds⟩ := List.forall_mem_cons.mp hds
  have d14 : v_iv (n_v vs 8) + 3 ≤ v_iv (n_v vs 10) ∧ v_iv (n_v vs 10) ≤ v_iv (n_v vs 8) + 3 := d14
  obtain ⟨d15, hds⟩ := List.forall_mem_cons.mp hds
  have d15 : v_iv (n_v vs 6) + (-4294967296) ≤ v_iv (n_v vs 3) ∧ v_iv (n_v vs 3) ≤ v_iv (n_v vs 6) + (-1) := d15
  obtain ⟨d16, hds⟩ := List.forall_mem_cons.mp hds
  have d16 : v_iv (n_v vs 4) + (-2000) ≤ v_iv (n_v vs 6) ∧ v_iv (n_v vs 6) ≤ v_iv (n_v vs 4) + 0 := d16
  obtain ⟨d17, hds⟩ := List.forall_mem_cons.mp hds
  have d17 : v_iv (n_v vs 1) + (-4294967296) ≤ v_iv (n_v vs 2) ∧ v_iv (n_v vs 2) ≤ v_iv (n_v vs 1) + 1 := d17
  obtain ⟨d18, hds⟩ := List.forall_mem_cons.mp hds
  have d18 : v_iv (n_v vs 3) + (-4294967296) ≤ v_iv (n_v vs 2) ∧ v_iv (n_v vs 2) ≤ v_iv (n_v vs 3) + 1 := d18
  have hf : fc_ok [(6, [19, 3], [1]), (7, [15, 17], [1]), (20, [16, 0, 17], [50, 1, 1, 1010, 1001, 4, 11, 0, 6, 4, 2, 1, 0, 0, 1, 2, 1, 10, 1, 2, 1, 2, 9, 5, 3, 1, 1, 1, 0, 0, 256]), (20, [0, 16, 17], [50, 1, 0, 10, 4, 7, 0, 3, 2, 0, 10, 1, 1, 1, 2, 1, 2, 0, -1]), (1, [16, 5, 3], []), (9, [5, 0], [15]), (10, [15, 7, 14], []), (1, [14, 13, 3], []), (1, [13, 10, 12], []), (3, [12, 11, 1], []), (1, [10, 8, 9], []), (9, [8, 0], [5]), (9, [7, 0], [2]), (8, [2], [1]), (7, [3, 6], [2]), (2, [6, 4, 5], []), (9, [4, 0], [11]), (20, [0, 0, 2], [30, 2008, 1, 1, 11, -1, 1, 15, 2000, 0, 0])] ta ws vs := hf
  obtain ⟨f0, hf⟩ := fc_un (show (6 : Nat) < 100 from by decide) hf
  have f0 : v_iv (n_v vs 19) = v_iv (n_v vs 3) + 1 := f0
  obtain ⟨f1, hf⟩ := fc_un (show (7 : Nat) < 100 from by decide) hf
  have f1 : v_iv (n_v vs 15) ≠ v_iv (n_v vs 17) := f1
  obtain ⟨f2, hf⟩ := fc_un (show (20 : Nat) < 100 from by decide) hf
  have f2 : ((v_iv (n_v vs 16) + 1) ≤ w_fi ws (n_v vs 0) 10) → (v_iv (n_v vs 17) = (w_ei ws (w_ar ws (n_v vs 0) 1) (v_iv (n_v vs 16)) % 256)) := f2
  obtain ⟨f3, hf⟩ := fc_un (show (20 : Nat) < 100 from by decide) hf
  have f3 : (w_fi ws (n_v vs 0) 10 ≤ v_iv (n_v vs 16)) → (v_iv (n_v vs 17) = (-1)) := f3
  obtain ⟨f4, hf⟩ := fc_un (show (1 : Nat) < 100 from by decide) hf
  have f4 : v_iv (n_v vs 16) = v_iv (n_v vs 5) + v_iv (n_v vs 3) := f4
  obtain ⟨f5, hf⟩ := fc_un (show (9 : Nat) < 100 from by decide) hf
  have f5 : n_v vs 5 = w_fd ws (v_ad (n_v vs 0)) 15 := f5
  obtain ⟨f6, hf⟩ := fc_un (show (10 : Nat) < 100 from by decide) hf
  have f6 : v_iv (n_v vs 15) = w_el ws (v_ad (n_v vs 7)) (v_iv (n_v vs 14)).toNat := f6
  obtain ⟨f7, hf⟩ := fc_un (show (1 : Nat) < 100 from by decide) hf
  have f7 : v_iv (n_v vs 14) = v_iv (n_v vs 13) + v_iv (n_v vs 3) := f7
  obtain ⟨f8, hf⟩ := fc_un (show (1 : Nat) < 100 from by decide) hf
  have f8 : v_iv (n_v vs 13) = v_iv (n_v vs 10) + v_iv (n_v vs 12) := f8
  obtain ⟨f9, hf⟩ := fc_un (show (3 : Nat) < 100 from by decide) hf
  have f9 : v_iv (n_v vs 12) = v_iv (n_v vs 11) * v_iv (n_v vs 1) := f9
  rw [show v_iv (n_v vs 11) = 8 from by omega] at f9
  obtain ⟨f10, hf⟩ := fc_un (show (1 : Nat) < 100 from by decide) hf
  have f10 : v_iv (n_v vs 10) = v_iv (n_v vs 8) + v_iv (n_v vs 9) := f10
  obtain ⟨f11, hf⟩ := fc_un (show (9 : Nat) < 100 from by decide) hf
  have f11 : n_v vs 8 = w_fd ws (v_ad (n_v vs 0)) 5 := f11
  obtain ⟨f12, hf⟩ := fc_un (show (9 : Nat) < 100 from by decide) hf
  have f12 : n_v vs 7 = w_fd ws (v_ad (n_v vs 0)) 2 := f12
  obtain ⟨f13, hf⟩ := fc_un (show (8 : Nat) < 100 from by decide) hf
  have f13 : v_iv (n_v vs 2) ≠ 0 := f13
  obtain ⟨f14, hf⟩ := fc_un (show (7 : Nat) < 100 from by decide) hf
  have f14 : v_iv (n_v vs 3) < v_iv (n_v vs 6) := f14
  obtain ⟨f15, hf⟩ := fc_un (show (2 : Nat) < 100 from by decide) hf
  have f15 : v_iv (n_v vs 6) = v_iv (n_v vs 4) - v_iv (n_v vs 5) := f15
  obtain ⟨f16, hf⟩ := fc_un (show (9 : Nat) < 100 from by decide) hf
  have f16 : n_v vs 4 = w_fd ws (v_ad (n_v vs 0)) 11 := f16
  obtain ⟨f17, hf⟩ := fc_un (show (20 : Nat) < 100 from by decide) hf
  have f17 : 1 * w_fi ws (n_v vs 0) 11 + ((-1) * w_fi ws (n_v vs 0) 15 + (2000 * v_iv (n_v vs 2) + 0)) ≤ 2008 := f17
  have cr_0_1 : ta (w_ar ws (n_v vs 0) 1) = some 151 := tv_rg (th_fd hD hth r0 (g := GG_150) rfl (k := 1) (t := (2, 0, 0, [151])) rfl rfl)
  have cr_0_2 : ta (w_ar ws (n_v vs 0) 2) = some 152 := tv_rg (th_fd hD hth r0 (g := GG_150) rfl (k := 2) (t := (2, 0, 0, [152])) rfl rfl)
  have ad_7 : v_ad (n_v vs 7) = w_ar ws (n_v vs 0) 2 := congrArg v_ad f12
  have g5 : v_iv (n_v vs 5) = w_fi ws (n_v vs 0) 15 := congrArg v_iv f5
  rw [ad_7] at f6
  have g11 : v_iv (n_v vs 8) = w_fi ws (n_v vs 0) 5 := congrArg v_iv f11
  have g16 : v_iv (n_v vs 4) = w_fi ws (n_v vs 0) 11 := congrArg v_iv f16
  have hK_0_1 : ∀ j : Int, 0 ≤ j → j < 2000 → (-128) ≤ w_ei ws (w_ar ws (n_v vs 0) 1) j ∧ w_ei ws (w_ar ws (n_v vs 0) 1) j ≤ 127 := fun j h0 h1 => th_el hD hth cr_0_1 (kd := 1) (n := 2000) (m := 2000) (lo := (-128)) (hi := 127) (rs := []) (L := []) rfl (by decide) (j := j.toNat) (by omega)
  have kz_0_10 : 0 ≤ w_fi ws (n_v vs 0) 10 ∧ w_fi ws (n_v vs 0) 10 ≤ 2000 := tv_rng (th_fd hD hth r0 (g := GG_150) rfl (k := 10) (t := (0, 0, 2000, [])) rfl rfl)
  have kz_0_11 : 0 ≤ w_fi ws (n_v vs 0) 11 ∧ w_fi ws (n_v vs 0) 11 ≤ 2000 := tv_rng (th_fd hD hth r0 (g := GG_150) rfl (k := 11) (t := (0, 0, 2000, [])) rfl rfl)
  have kz_0_15 : 0 ≤ w_fi ws (n_v vs 0) 15 ∧ w_fi ws (n_v vs 0) 15 ≤ 2000 := tv_rng (th_fd hD hth r0 (g := GG_150) rfl (k := 15) (t := (0, 0, 2000, [])) rfl rfl)
  have nf0 : fc_1 (20, [0, 0, 18], [30, 2008, 1, 1, 11, -1, 1, 15, 2000, 0, 0]) ws (vs) := by
    refine ⟨fun n hn => ?_, ?_⟩
    · have hn : n ∈ [0, 0, 18] := hn
      rw [hl]
      simp only [List.mem_cons, List.not_mem_nil, or_false] at hn
      show n < 20; omega
    · show 1 * w_fi ws (n_v vs 0) 11 + ((-1) * w_fi ws (n_v vs 0) 15 + (2000 * v_iv (n_v vs 18) + 0)) ≤ 2008
      omega
  refine ⟨(fun _ h => (by cases h)), [], trivial, ?_, (fun _ h => (by cases h))⟩
  rw [List.append_nil]
  exact List.forall_mem_cons.mpr ⟨⟨show (20 : Nat) < 100 from by decide, nf0⟩, (fun _ h => (by cases h))⟩
def o_Mo_known_6 : or_T := (35, 20, [(0, (2, 0, 0, [150])), (1, (0, 0, 23, [])), (2, (0, 1, 1, [])), (3, (0, 0, 7, [])), (4, (0, 1, 2000, [])), (5, (0, 0, 1999, [])), (6, (0, 1, 2000, [])), (7, (2, 0, 0, [152])), (8, (0, 0, 66297, [])), (9, (0, 3, 3, [])), (10, (0, 3, 66300, [])), (11, (0, 8, 8, [])), (12, (0, 0, 184, [])), (13, (0, 3, 66484, [])), (14, (0, 3, 66491, [])), (15, (0, 0, 255, [])), (16, (0, 0, 1999, [])), (17, (0, 0, 255, [])), (18, (0, 1, 1, [])), (19, (0, 1, 8, []))], [(6, [19, 3], [1]), (7, [15, 17], [0]), (20, [16, 0, 17], [50, 1, 1, 1010, 1001, 4, 11, 0, 6, 4, 2, 1, 0, 0, 1, 2, 1, 10, 1, 2, 1, 2, 9, 5, 3, 1, 1, 1, 0, 0, 256]), (20, [0, 16, 17], [50, 1, 0, 10, 4, 7, 0, 3, 2, 0, 10, 1, 1, 1, 2, 1, 2, 0, -1]), (1, [16, 5, 3], []), (9, [5, 0], [15]), (10, [15, 7, 14], []), (1, [14, 13, 3], []), (1, [13, 10, 12], []), (3, [12, 11, 1], []), (1, [10, 8, 9], []), (9, [8, 0], [5]), (9, [7, 0], [2]), (8, [2], [1]), (7, [3, 6], [2]), (2, [6, 4, 5], []), (9, [4, 0], [11]), (20, [0, 0, 2], [30, 2008, 1, 1, 11, -1, 1, 15, 2000, 0, 0])], [], [], [(20, [0, 0, 18], [30, 2008, 1, 1, 11, -1, 1, 15, 2000, 0, 0])], [], [(19, 3, 1, 1), (19, 6, -4294967296, 0), (15, 17, 0, 0), (16, 3, 0, 2000), (16, 6, -4294967296, 1999), (16, 5, 0, 7), (14, 3, 3, 66484), (14, 6, -4294967296, 66483), (14, 13, 0, 7), (14, 12, 3, 66307), (14, 10, 0, 191), (14, 8, 3, 194), (13, 12, 3, 66300), (13, 10, 0, 184), (13, 8, 3, 187), (10, 8, 3, 3), (3, 6, -4294967296, -1), (6, 4, -2000, 0), (2, 1, -4294967296, 1), (2, 3, -4294967296, 1)])
theorem oo_Mo_known_6 {kA : Nat → ClassId} : or_ok kA GG o_Mo_known_6 := by
  intro A ta ws vs hD hth hl hk hds hf
  have hl : vs.length = 20 := hl
  have hk : ∀ q ∈ ([(0, (2, 0, 0, [150])), (1, (0, 0, 23, [])), (2, (0, 1, 1, [])), (3, (0, 0, 7, [])), (4, (0, 1, 2000, [])), (5, (0, 0, 1999, [])), (6, (0, 1, 2000, [])), (7, (2, 0, 0, [152])), (8, (0, 0, 66297, [])), (9, (0, 3, 3, [])), (10, (0, 3, 66300, [])), (11, (0, 8, 8, [])), (12, (0, 0, 184, [])), (13, (0, 3, 66484, [])), (14, (0, 3, 66491, [])), (15, (0, 0, 255, [])), (16, (0, 0, 1999, [])), (17, (0, 0, 255, [])), (18, (0, 1, 1, [])), (19, (0, 1, 8, []))] : List (Nat × tv_T)), tv_ok ta q.2 (n_v vs q.1) := hk
  obtain ⟨t0, hk⟩ := List.forall_mem_cons.mp hk
  have t0 : tv_ok ta (2, 0, 0, [150]) (n_v vs 0) := t0
  have r0 : ta (v_ad (n_v vs 0)) = some 150 := tv_rg t0
  obtain ⟨t1, hk⟩ := List.forall_mem_cons.mp hk
  have t1 : tv_ok ta (0, 0, 23, []) (n_v vs 1) := t1
  have k1 : 0 ≤ v_iv (n_v vs 1) ∧ v_iv (n_v vs 1) ≤ 23 := tv_rng t1
  obtain ⟨t2, hk⟩ := List.forall_mem_cons.mp hk
  have t2 : tv_ok ta (0, 1, 1, []) (n_v vs 2) := t2
  have k2 : 1 ≤ v_iv (n_v vs 2) ∧ v_iv (n_v vs 2) ≤ 1 := tv_rng t2
  obtain ⟨t3, hk⟩ := List.forall_mem_cons.mp hk
  have t3 : tv_ok ta (0, 0, 7, []) (n_v vs 3) := t3
  have k3 : 0 ≤ v_iv (n_v vs 3) ∧ v_iv (n_v vs 3) ≤ 7 := tv_rng t3
  obtain ⟨t4, hk⟩ := List.forall_mem_cons.mp hk
  have t4 : tv_ok ta (0, 1, 2000, []) (n_v vs 4) := t4
  have k4 : 1 ≤ v_iv (n_v vs 4) ∧ v_iv (n_v vs 4) ≤ 2000 := tv_rng t4
  obtain ⟨t5, hk⟩ := List.forall_mem_cons.mp hk
  have t5 : tv_ok ta (0, 0, 1999, []) (n_v vs 5) := t5
  have k5 : 0 ≤ v_iv (n_v vs 5) ∧ v_iv (n_v vs 5) ≤ 1999 := tv_rng t5
  obtain ⟨t6, hk⟩ := List.forall_mem_cons.mp hk
  have t6 : tv_ok ta (0, 1, 2000, []) (n_v vs 6) := t6
  have k6 : 1 ≤ v_iv (n_v vs 6) ∧ v_iv (n_v vs 6) ≤ 2000 := tv_rng t6
  obtain ⟨t7, hk⟩ := List.forall_mem_cons.mp hk
  have t7 : tv_ok ta (2, 0, 0, [152]) (n_v vs 7) := t7
  have r7 : ta (v_ad (n_v vs 7)) = some 152 := tv_rg t7
  obtain ⟨t8, hk⟩ := List.forall_mem_cons.mp hk
  have t8 : tv_ok ta (0, 0, 66297, []) (n_v vs 8) := t8
  have k8 : 0 ≤ v_iv (n_v vs 8) ∧ v_iv (n_v vs 8) ≤ 66297 := tv_rng t8
  obtain ⟨t9, hk⟩ := List.forall_mem_cons.mp hk
  have t9 : tv_ok ta (0, 3, 3, []) (n_v vs 9) := t9
  have k9 : 3 ≤ v_iv (n_v vs 9) ∧ v_iv (n_v vs 9) ≤ 3 := tv_rng t9
  obtain ⟨t10, hk⟩ := List.forall_mem_cons.mp hk
  have t10 : tv_ok ta (0, 3, 66300, []) (n_v vs 10) := t10
  have k10 : 3 ≤ v_iv (n_v vs 10) ∧ v_iv (n_v vs 10) ≤ 66300 := tv_rng t10
  obtain ⟨t11, hk⟩ := List.forall_mem_cons.mp hk
  have t11 : tv_ok ta (0, 8, 8, []) (n_v vs 11) := t11
  have k11 : 8 ≤ v_iv (n_v vs 11) ∧ v_iv (n_v vs 11) ≤ 8 := tv_rng t11
  obtain ⟨t12, hk⟩ := List.forall_mem_cons.mp hk
  have t12 : tv_ok ta (0, 0, 184, []) (n_v vs 12) := t12
  have k12 : 0 ≤ v_iv (n_v vs 12) ∧ v_iv (n_v vs 12) ≤ 184 := tv_rng t12
  obtain ⟨t13, hk⟩ := List.forall_mem_cons.mp hk
  have t13 : tv_ok ta (0, 3, 66484, []) (n_v vs 13) := t13
  have k13 : 3 ≤ v_iv (n_v vs 13) ∧ v_iv (n_v vs 13) ≤ 66484 := tv_rng t13
  obtain ⟨t14, hk⟩ := List.forall_mem_cons.mp hk
  have t14 : tv_ok ta (0, 3, 66491, []) (n_v vs 14) := t14
  have k14 : 3 ≤ v_iv (n_v vs 14) ∧ v_iv (n_v vs 14) ≤ 66491 := tv_rng t14
  obtain ⟨t15, hk⟩ := List.forall_mem_cons.mp hk
  have t15 : tv_ok ta (0, 0, 255, []) (n_v vs 15) := t15
  have k15 : 0 ≤ v_iv (n_v vs 15) ∧ v_iv (n_v vs 15) ≤ 255 := tv_rng t15
  obtain ⟨t16, hk⟩ := List.forall_mem_cons.mp hk
  have t16 : tv_ok ta (0, 0, 1999, []) (n_v vs 16) := t16
  have k16 : 0 ≤ v_iv (n_v vs 16) ∧ v_iv (n_v vs 16) ≤ 1999 := tv_rng t16
  obtain ⟨t17, hk⟩ := List.forall_mem_cons.mp hk
  have t17 : tv_ok ta (0, 0, 255, []) (n_v vs 17) := t17
  have k17 : 0 ≤ v_iv (n_v vs 17) ∧ v_iv (n_v vs 17) ≤ 255 := tv_rng t17
  obtain ⟨t18, hk⟩ := List.forall_mem_cons.mp hk
  have t18 : tv_ok ta (0, 1, 1, []) (n_v vs 18) := t18
  have k18 : 1 ≤ v_iv (n_v vs 18) ∧ v_iv (n_v vs 18) ≤ 1 := tv_rng t18
  obtain ⟨t19, hk⟩ := List.forall_mem_cons.mp hk
  have t19 : tv_ok ta (0, 1, 8, []) (n_v vs 19) := t19
  have k19 : 1 ≤ v_iv (n_v vs 19) ∧ v_iv (n_v vs 19) ≤ 8 := tv_rng t19
  have hds : ∀ q ∈ ([(19, 3, 1, 1), (19, 6, -4294967296, 0), (15, 17, 0, 0), (16, 3, 0, 2000), (16, 6, -4294967296, 1999), (16, 5, 0, 7), (14, 3, 3, 66484), (14, 6, -4294967296, 66483), (14, 13, 0, 7), (14, 12, 3, 66307), (14, 10, 0, 191), (14, 8, 3, 194), (13, 12, 3, 66300), (13, 10, 0, 184), (13, 8, 3, 187), (10, 8, 3, 3), (3, 6, -4294967296, -1), (6, 4, -2000, 0), (2, 1, -4294967296, 1), (2, 3, -4294967296, 1)] : List of_T), n_iv vs q.2.1 + q.2.2.1 ≤ n_iv vs q.1 ∧ n_iv vs q.1 ≤ n_iv vs q.2.1 + q.2.2.2 := hds
  obtain ⟨d0, hds⟩ := List.forall_mem_cons.mp hds
  have d0 : v_iv (n_v vs 3) + 1 ≤ v_iv (n_v vs 19) ∧ v_iv (n_v vs 19) ≤ v_iv (n_v vs 3) + 1 := d0
  obtain ⟨d1, hds⟩ := List.forall_mem_cons.mp hds
  have d1 : v_iv (n_v vs 6) + (-4294967296) ≤ v_iv (n_v vs 19) ∧ v_iv (n_v vs 19) ≤ v_iv (n_v vs 6) + 0 := d1
  obtain ⟨d2, hds⟩ := List.forall_mem_cons.mp hds
  have d2 : v_iv (n_v vs 17) + 0 ≤ v_iv (n_v vs 15) ∧ v_iv (n_v vs 15) ≤ v_iv (n_v vs 17) + 0 := d2
  obtain ⟨d3, hds⟩ := List.forall_mem_cons.mp hds
  have d3 : v_iv (n_v vs 3) + 0 ≤ v_iv (n_v vs 16) ∧ v_iv (n_v vs 16) ≤ v_iv (n_v vs 3) + 2000 := d3
  obtain ⟨d4, hds⟩ := List.forall_mem_cons.mp hds
  have d4 : v_iv (n_v vs 6) + (-4294967296) ≤ v_iv (n_v vs 16) ∧ v_iv (n_v vs 16) ≤ v_iv (n_v vs 6) + 1999 := d4
  obtain ⟨d5, hds⟩ := List.forall_mem_cons.mp hds
  have d5 : v_iv (n_v vs 5) + 0 ≤ v_iv (n_v vs 16) ∧ v_iv (n_v vs 16) ≤ v_iv (n_v vs 5) + 7 := d5
  obtain ⟨d6, hds⟩ := List.forall_mem_cons.mp hds
  have d6 : v_iv (n_v vs 3) + 3 ≤ v_iv (n_v vs 14) ∧ v_iv (n_v vs 14) ≤ v_iv (n_v vs 3) + 66484 := d6
  obtain ⟨d7, hds⟩ := List.forall_mem_cons.mp hds
  have d7 : v_iv (n_v vs 6) + (-4294967296) ≤ v_iv (n_v vs 14) ∧ v_iv (n_v vs 14) ≤ v_iv (n_v vs 6) + 66483 := d7
  obtain ⟨d8, hds⟩ := List.forall_mem_cons.mp hds
  have d8 : v_iv (n_v vs 13) + 0 ≤ v_iv (n_v vs 14) ∧ v_iv (n_v vs 14) ≤ v_iv (n_v vs 13) + 7 := d8
  obtain ⟨d9, hds⟩ := List.forall_mem_cons.mp hds
  have d9 : v_iv (n_v vs 12) + 3 ≤ v_iv (n_v vs 14) ∧ v_iv (n_v vs 14) ≤ v_iv (n_v vs 12) + 66307 := d9
  obtain ⟨d10, hds⟩ := List.forall_mem_cons.mp hds
  have d10 : v_iv (n_v vs 10) + 0 ≤ v_iv (n_v vs 14) ∧ v_iv (n_v vs 14) ≤ v_iv (n_v vs 10) + 191 := d10
  obtain ⟨d11, hds⟩ := List.forall_mem_cons.mp hds
  have d11 : v_iv (n_v vs 8) + 3 ≤ v_iv (n_v vs 14) ∧ v_iv (n_v vs 14) ≤ v_iv (n_v vs 8) + 194 := d11
  obtain ⟨d12, hds⟩ := List.forall_mem_cons.mp hds
  have d12 : v_iv (n_v vs 12) + 3 ≤ v_iv (n_v vs 13) ∧ v_iv (n_v vs 13) ≤ v_iv (n_v vs 12) + 66300 := d12
  obtain ⟨d13, hds⟩ := List.forall_mem_cons.mp hds
  have d13 : v_iv (n_v vs 10) + 0 ≤ v_iv (n_v vs 13) ∧ v_iv (n_v vs 13) ≤ v_iv (n_v vs 10) + 184 := d13
  obtain ⟨d14, hds⟩ := List.forall_mem_cons.mp hds
  have d14 : v_iv (n_v vs 8) + 3 ≤ v_iv (n_v vs 13) ∧ v_iv (n_v vs 13) ≤ v_iv (n_v vs 8) + 187 := d14
  obtain ⟨d15, hds⟩ := List.forall_mem_cons.mp hds
  have d15 : v_iv (n_v vs 8) + 3 ≤ v_iv (n_v vs 10) ∧ v_iv (n_v vs 10) ≤ v_iv (n_v vs 8) + 3 := d15
  obtain ⟨d16, hds⟩ := List.forall_mem_cons.mp hds
  have d16 : v_iv (n_v vs 6) + (-4294967296) ≤ v_iv (n_v vs 3) ∧ v_iv (n_v vs 3) ≤ v_iv (n_v vs 6) + (-1) := d16
  obtain ⟨d17, hds⟩ := List.forall_mem_cons.mp hds
  have d17 : v_iv (n_v vs 4) + (-2000) ≤ v_iv (n_v vs 6) ∧ v_iv (n_v vs 6) ≤ v_iv (n_v vs 4) + 0 := d17
  obtain ⟨d18, hds⟩ := List.forall_mem_cons.mp hds
  have d18 : v_iv (n_v vs 1) + (-4294967296) ≤ v_iv (n_v vs 2) ∧ v_iv (n_v vs 2) ≤ v_iv (n_v vs 1) + 1 := d18
  obtain ⟨d19, hds⟩ := List.forall_mem_cons.mp hds
  have d19 : v_iv (n_v vs 3) + (-4294967296) ≤ v_iv (n_v vs 2) ∧ v_iv (n_v vs 2) ≤ v_iv (n_v vs 3) + 1 := d19
  have hf : fc_ok [(6, [19, 3], [1]), (7, [15, 17], [0]), (20, [16, 0, 17], [50, 1, 1, 1010, 1001, 4, 11, 0, 6, 4, 2, 1, 0, 0, 1, 2, 1, 10, 1, 2, 1, 2, 9, 5, 3, 1, 1, 1, 0, 0, 256]), (20, [0, 16, 17], [50, 1, 0, 10, 4, 7, 0, 3, 2, 0, 10, 1, 1, 1, 2, 1, 2, 0, -1]), (1, [16, 5, 3], []), (9, [5, 0], [15]), (10, [15, 7, 14], []), (1, [14, 13, 3], []), (1, [13, 10, 12], []), (3, [12, 11, 1], []), (1, [10, 8, 9], []), (9, [8, 0], [5]), (9, [7, 0], [2]), (8, [2], [1]), (7, [3, 6], [2]), (2, [6, 4, 5], []), (9, [4, 0], [11]), (20, [0, 0, 2], [30, 2008, 1, 1, 11, -1, 1, 15, 2000, 0, 0])] ta ws vs := hf
  obtain ⟨f0, hf⟩ := fc_un (show (6 : Nat) < 100 from by decide) hf
  have f0 : v_iv (n_v vs 19) = v_iv (n_v vs 3) + 1 := f0
  obtain ⟨f1, hf⟩ := fc_un (show (7 : Nat) < 100 from by decide) hf
  have f1 : v_iv (n_v vs 15) = v_iv (n_v vs 17) := f1
  obtain ⟨f2, hf⟩ := fc_un (show (20 : Nat) < 100 from by decide) hf
  have f2 : ((v_iv (n_v vs 16) + 1) ≤ w_fi ws (n_v vs 0) 10) → (v_iv (n_v vs 17) = (w_ei ws (w_ar ws (n_v vs 0) 1) (v_iv (n_v vs 16)) % 256)) := f2
  obtain ⟨f3, hf⟩ := fc_un (show (20 : Nat) < 100 from by decide) hf
  have f3 : (w_fi ws (n_v vs 0) 10 ≤ v_iv (n_v vs 16)) → (v_iv (n_v vs 17) = (-1)) := f3
  obtain ⟨f4, hf⟩ := fc_un (show (1 : Nat) < 100 from by decide) hf
  have f4 : v_iv (n_v vs 16) = v_iv (n_v vs 5) + v_iv (n_v vs 3) := f4
  obtain ⟨f5, hf⟩ := fc_un (show (9 : Nat) < 100 from by decide) hf
  have f5 : n_v vs 5 = w_fd ws (v_ad (n_v vs 0)) 15 := f5
  obtain ⟨f6, hf⟩ := fc_un (show (10 : Nat) < 100 from by decide) hf
  have f6 : v_iv (n_v vs 15) = w_el ws (v_ad (n_v vs 7)) (v_iv (n_v vs 14)).toNat := f6
  obtain ⟨f7, hf⟩ := fc_un (show (1 : Nat) < 100 from by decide) hf
  have f7 : v_iv (n_v vs 14) = v_iv (n_v vs 13) + v_iv (n_v vs 3) := f7
  obtain ⟨f8, hf⟩ := fc_un (show (1 : Nat) < 100 from by decide) hf
  have f8 : v_iv (n_v vs 13) = v_iv (n_v vs 10) + v_iv (n_v vs 12) := f8
  obtain ⟨f9, hf⟩ := fc_un (show (3 : Nat) < 100 from by decide) hf
  have f9 : v_iv (n_v vs 12) = v_iv (n_v vs 11) * v_iv (n_v vs 1) := f9
  rw [show v_iv (n_v vs 11) = 8 from by omega] at f9
  obtain ⟨f10, hf⟩ := fc_un (show (1 : Nat) < 100 from by decide) hf
  have f10 : v_iv (n_v vs 10) = v_iv (n_v vs 8) + v_iv (n_v vs 9) := f10
  obtain ⟨f11, hf⟩ := fc_un (show (9 : Nat) < 100 from by decide) hf
  have f11 : n_v vs 8 = w_fd ws (v_ad (n_v vs 0)) 5 := f11
  obtain ⟨f12, hf⟩ := fc_un (show (9 : Nat) < 100 from by decide) hf
  have f12 : n_v vs 7 = w_fd ws (v_ad (n_v vs 0)) 2 := f12
  obtain ⟨f13, hf⟩ := fc_un (show (8 : Nat) < 100 from by decide) hf
  have f13 : v_iv (n_v vs 2) ≠ 0 := f13
  obtain ⟨f14, hf⟩ := fc_un (show (7 : Nat) < 100 from by decide) hf
  have f14 : v_iv (n_v vs 3) < v_iv (n_v vs 6) := f14
  obtain ⟨f15, hf⟩ := fc_un (show (2 : Nat) < 100 from by decide) hf
  have f15 : v_iv (n_v vs 6) = v_iv (n_v vs 4) - v_iv (n_v vs 5) := f15
  obtain ⟨f16, hf⟩ := fc_un (show (9 : Nat) < 100 from by decide) hf
  have f16 : n_v vs 4 = w_fd ws (v_ad (n_v vs 0)) 11 := f16
  obtain ⟨f17, hf⟩ := fc_un (show (20 : Nat) < 100 from by decide) hf
  have f17 : 1 * w_fi ws (n_v vs 0) 11 + ((-1) * w_fi ws (n_v vs 0) 15 + (2000 * v_iv (n_v vs 2) + 0)) ≤ 2008 := f17
  have cr_0_1 : ta (w_ar ws (n_v vs 0) 1) = some 151 := tv_rg (th_fd hD hth r0 (g := GG_150) rfl (k := 1) (t := (2, 0, 0, [151])) rfl rfl)
  have cr_0_2 : ta (w_ar ws (n_v vs 0) 2) = some 152 := tv_rg (th_fd hD hth r0 (g := GG_150) rfl (k := 2) (t := (2, 0, 0, [152])) rfl rfl)
  have ad_7 : v_ad (n_v vs 7) = w_ar ws (n_v vs 0) 2 := congrArg v_ad f12
  have g5 : v_iv (n_v vs 5) = w_fi ws (n_v vs 0) 15 := congrArg v_iv f5
  rw [ad_7] at f6
  have g11 : v_iv (n_v vs 8) = w_fi ws (n_v vs 0) 5 := congrArg v_iv f11
  have g16 : v_iv (n_v vs 4) = w_fi ws (n_v vs 0) 11 := congrArg v_iv f16
  have hK_0_1 : ∀ j : Int, 0 ≤ j → j < 2000 → (-128) ≤ w_ei ws (w_ar ws (n_v vs 0) 1) j ∧ w_ei ws (w_ar ws (n_v vs 0) 1) j ≤ 127 := fun j h0 h1 => th_el hD hth cr_0_1 (kd := 1) (n := 2000) (m := 2000) (lo := (-128)) (hi := 127) (rs := []) (L := []) rfl (by decide) (j := j.toNat) (by omega)
  have kz_0_10 : 0 ≤ w_fi ws (n_v vs 0) 10 ∧ w_fi ws (n_v vs 0) 10 ≤ 2000 := tv_rng (th_fd hD hth r0 (g := GG_150) rfl (k := 10) (t := (0, 0, 2000, [])) rfl rfl)
  have kz_0_11 : 0 ≤ w_fi ws (n_v vs 0) 11 ∧ w_fi ws (n_v vs 0) 11 ≤ 2000 := tv_rng (th_fd hD hth r0 (g := GG_150) rfl (k := 11) (t := (0, 0, 2000, [])) rfl rfl)
  have kz_0_15 : 0 ≤ w_fi ws (n_v vs 0) 15 ∧ w_fi ws (n_v vs 0) 15 ≤ 2000 := tv_rng (th_fd hD hth r0 (g := GG_150) rfl (k := 15) (t := (0, 0, 2000, [])) rfl rfl)
  have nf0 : fc_1 (20, [0, 0, 18], [30, 2008, 1, 1, 11, -1, 1, 15, 2000, 0, 0]) ws (vs) := by
    refine ⟨fun n hn => ?_, ?_⟩
    · have hn : n ∈ [0, 0, 18] := hn
      rw [hl]
      simp only [List.mem_cons, List.not_mem_nil, or_false] at hn
      show n < 20; omega
    · show 1 * w_fi ws (n_v vs 0) 11 + ((-1) * w_fi ws (n_v vs 0) 15 + (2000 * v_iv (n_v vs 18) + 0)) ≤ 2008
      omega
  refine ⟨(fun _ h => (by cases h)), [], trivial, ?_, (fun _ h => (by cases h))⟩
  rw [List.append_nil]
  exact List.forall_mem_cons.mpr ⟨⟨show (20 : Nat) < 100 from by decide, nf0⟩, (fun _ h => (by cases h))⟩
def n_Mo_known_an : List an_T := [(2, [(0, (2, 0, 0, [150])), (1, (0, 0, 24, []))], [], (0, 0), [(0, 0, 99998), (1, 1, 24), (0, 0, 100000), (0, 0, 0), (0, 0, 0)], [], [], [], 0, [], []), (35, [(0, (2, 0, 0, [150])), (1, (0, 0, 23, [])), (2, (0, 0, 1, [])), (3, (0, 0, 8, []))], [], (0, 0), [(0, 0, 99998), (1, 1, 24), (0, 0, 99965), (1, 3, 8), (0, 0, 100000)], [(2, 1, -1000000000000, 1), (2, 3, -1000000000000, 1)], [], [], 0, [], [(20, [0, 0, 2], [30, 2008, 1, 1, 11, -1, 1, 15, 2000, 0, 0])])]
def t_Mo_known_ct : ct_L := [(1, 425, e_Mo_byteAt), (1, 475, e_Mo_nodes), (1, 478, e_Mo_longOf)]
set_option maxRecDepth 100000 in
theorem c_Mo_known {l : Launch} {D : va_G} {kA : Nat → ClassId} (h_Mo_byteAt : ct_ok l D kA GG y_Mo_byteAt z_Mo_byteAt e_Mo_byteAt) (h_Mo_longOf : ct_ok l D kA GG y_Mo_longOf z_Mo_longOf e_Mo_longOf) (h_Mo_nodes : ct_ok l D kA GG y_Mo_nodes z_Mo_nodes e_Mo_nodes) : ct_ok l D kA GG y_Mo_known z_Mo_known e_Mo_known := chk_all_ok (FT := [(16, 13, 2), (391, 13, 5), (422, 13, 11), (431, 13, 15)]) (PT := []) (CT := t_Mo_known_ct) (KT := []) (NT := []) (AN := n_Mo_known_an) (OT := [o_Mo_known_0, o_Mo_known_1, o_Mo_known_2, o_Mo_known_3, o_Mo_known_4, o_Mo_known_5, o_Mo_known_6]) 5 336 (List.forall_mem_cons.mpr ⟨oo_Mo_known_0, List.forall_mem_cons.mpr ⟨oo_Mo_known_1, List.forall_mem_cons.mpr ⟨oo_Mo_known_2, List.forall_mem_cons.mpr ⟨oo_Mo_known_3, List.forall_mem_cons.mpr ⟨oo_Mo_known_4, List.forall_mem_cons.mpr ⟨oo_Mo_known_5, List.forall_mem_cons.mpr ⟨oo_Mo_known_6, List.forall_mem_nil _⟩⟩⟩⟩⟩⟩⟩) (by decide +kernel) ⟨List.forall_mem_cons.mpr ⟨gf_Mo_16, List.forall_mem_cons.mpr ⟨gf_Mo_391, List.forall_mem_cons.mpr ⟨gf_Mo_422, List.forall_mem_cons.mpr ⟨gf_Mo_431, List.forall_mem_nil _⟩⟩⟩⟩, List.forall_mem_nil _, List.forall_mem_cons.mpr ⟨cl_virtual (y := y_Mo_byteAt) (ci := 13) rfl rfl ⟨_, _, rfl⟩ (by decide +kernel) h_Mo_byteAt wm_2986 wm_9 wm_2983 wm_2985 wv_12_12 ⟨by decide, by decide, by decide +kernel⟩ (by decide), List.forall_mem_cons.mpr ⟨cl_virtual (y := y_Mo_nodes) (ci := 13) rfl rfl ⟨_, _, rfl⟩ (by decide +kernel) h_Mo_nodes wm_3025 wm_9 wm_3022 wm_3024 wv_13_3 ⟨by decide, by decide, by decide +kernel⟩ (by decide), List.forall_mem_cons.mpr ⟨cl_virtual (y := y_Mo_longOf) (ci := 13) rfl rfl ⟨_, _, rfl⟩ (by decide +kernel) h_Mo_longOf wm_3029 wm_9 wm_3026 wm_3028 wv_13_4 ⟨by decide, by decide, by decide +kernel⟩ (by decide), List.forall_mem_nil _⟩⟩⟩, List.forall_mem_nil _, List.forall_mem_nil _, GG_pl⟩ (by decide +kernel)
