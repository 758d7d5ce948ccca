def t_jMath_min1_v50_ct : ct_L := []
set_option maxRecDepth 100000 in
theorem c_jMath_min1_v50 {l : Launch} {D : va_G} {kA : Nat → ClassId} : ct_ok PRD l D kA GG y_jMath_min1 z_jMath_min1 e_jMath_min1_v50 := chk_all_ok (FT := []) (PT := []) (CT := t_jMath_min1_v50_ct) (KT := []) (NT := []) (AN := n_jMath_min1_v50_an) (OT := [o_jMath_min1_v50_0, o_jMath_min1_v50_1]) 0 200 (List.forall_mem_cons.mpr ⟨oo_jMath_min1_v50_0, List.forall_mem_cons.mpr ⟨oo_jMath_min1_v50_1, List.forall_mem_nil _⟩⟩) (pl_Math rfl (by decide)) ⟨List.forall_mem_nil _, List.forall_mem_nil _, List.forall_mem_nil _, List.forall_mem_nil _, List.forall_mem_nil _, GG_pl⟩ (by decide +kernel)
def e_jMath_floorDiv2_v51 : en_T := ([(1, -9223372036854775808, 9223372036854775807, []), (1, -9223372036854775808, 9223372036854775807, [])], some (1, -9223372036854775808, 9223372036854775807, []), true, 1, 0, 0, [], [], (0, [], [(8, [1], [1])], [], []))
def o_jMath_floorDiv2_v51_0 : or_T := (1000000, 0, [], [], [], [], [], [], [])
theorem oo_jMath_floorDiv2_v51_0 {kA : Nat → ClassId} : or_ok PRD kA GG o_jMath_floorDiv2_v51_0 := fun _ _ _ _ _ _ _ _ _ _ => ⟨fun q h => (by cases h), [], trivial, fun f h => (by cases h), fun q h => (by cases h)⟩
def n_jMath_floorDiv2_v51_an : List an_T := []
def t_jMath_floorDiv2_v51_ct : ct_L := []
set_option maxRecDepth 100000 in
theorem c_jMath_floorDiv2_v51 {l : Launch} {D : va_G} {kA : Nat → ClassId} : ct_ok PRD l D kA GG y_jMath_floorDiv2 z_jMath_floorDiv2 e_jMath_floorDiv2_v51 := chk_all_ok (FT := []) (PT := []) (CT := t_jMath_floorDiv2_v51_ct) (KT := []) (NT := []) (AN := n_jMath_floorDiv2_v51_an) (OT := [o_jMath_floorDiv2_v51_0]) 0 200 (List.forall_mem_cons.mpr ⟨oo_jMath_floorDiv2_v51_0, List.forall_mem_nil _⟩) (pl_Math rfl (by decide)) ⟨List.forall_mem_nil _, List.forall_mem_nil _, List.forall_mem_nil _, List.forall_mem_nil _, List.forall_mem_nil _, GG_pl⟩ (by decide +kernel)
def e_jMath_max2_v52 : en_T := ([(1, 1, 1, []), (1, -1200000000, 4294967295, [])], some (1, 1, 4294967295, []), true, 1, 0, 0, [], [], (0, [], [], [(23, [0, 2], [0, 1, -1]), (23, [1, 2], [0, 1, -1])], []))
def o_jMath_max2_v52_0 : or_T := (11, 2, [(0, (1, 1, 1, [])), (1, (1, 2, 4294967295, []))], [(7, [0, 1], [2])], [], [], [(23, [0, 1], [0, 1, -1]), (23, [1, 1], [0, 1, -1])], [], [])
theorem oo_jMath_max2_v52_0 {kA : Nat → ClassId} : or_ok PRD kA GG o_jMath_max2_v52_0 := by
  refine or_mk fun A ta ws vs hD hth hl => ?_
  intro t0 k0 t1 k1 f0
  replace f0 := shm_6 f0
  have nf0 : fc_1 PRD (23, [0, 1], [0, 1, -1]) ws (vs) := by
    refine ⟨nf_in hl rfl, sgq_7 ?_⟩
    · show 1 * v_iv (n_v vs 0) + ((-1) * v_iv (n_v vs 1) + 0) ≤ 0
      omega
  have nf1 : fc_1 PRD (23, [1, 1], [0, 1, -1]) ws (vs) := by
    refine ⟨nf_in hl rfl, sgq_8 ?_⟩
    · show 1 * v_iv (n_v vs 1) + ((-1) * v_iv (n_v vs 1) + 0) ≤ 0
      omega
  refine ⟨(fun _ h => (by cases h)), [], trivial, ?_, (fun _ h => (by cases h))⟩
  rw [List.append_nil]
  exact List.forall_mem_cons.mpr ⟨⟨show (23 : Nat) < 100 from by decide, nf0⟩, List.forall_mem_cons.mpr ⟨⟨show (23 : Nat) < 100 from by decide, nf1⟩, (fun _ h => (by cases h))⟩⟩
def o_jMath_max2_v52_1 : or_T := (11, 2, [(0, (1, 1, 1, [])), (1, (1, -1200000000, 1, []))], [(7, [0, 1], [3])], [], [], [(23, [0, 0], [0, 1, -1]), (23, [1, 0], [0, 1, -1])], [], [])
theorem oo_jMath_max2_v52_1 {kA : Nat → ClassId} : or_ok PRD kA GG o_jMath_max2_v52_1 := by
  refine or_mk fun A ta ws vs hD hth hl => ?_
  intro t0 k0 t1 k1 f0
  replace f0 := shm_2 f0
  have nf0 : fc_1 PRD (23, [0, 0], [0, 1, -1]) ws (vs) := by
    refine ⟨nf_in hl rfl, sgq_8 ?_⟩
    · show 1 * v_iv (n_v vs 0) + ((-1) * v_iv (n_v vs 0) + 0) ≤ 0
      omega
  have nf1 : fc_1 PRD (23, [1, 0], [0, 1, -1]) ws (vs) := by
    refine ⟨nf_in hl rfl, sgq_7 ?_⟩
    · show 1 * v_iv (n_v vs 1) + ((-1) * v_iv (n_v vs 0) + 0) ≤ 0
      omega
  refine ⟨(fun _ h => (by cases h)), [], trivial, ?_, (fun _ h => (by cases h))⟩
  rw [List.append_nil]
  exact List.forall_mem_cons.mpr ⟨⟨show (23 : Nat) < 100 from by decide, nf0⟩, List.forall_mem_cons.mpr ⟨⟨show (23 : Nat) < 100 from by decide, nf1⟩, (fun _ h => (by cases h))⟩⟩
def n_jMath_max2_v52_an : List an_T := []
def t_jMath_max2_v52_ct : ct_L := []
set_option maxRecDepth 100000 in
theorem c_jMath_max2_v52 {l : Launch} {D : va_G} {kA : Nat → ClassId} : ct_ok PRD l D kA GG y_jMath_max2 z_jMath_max2 e_jMath_max2_v52 := chk_all_ok (FT := []) (PT := []) (CT := t_jMath_max2_v52_ct) (KT := []) (NT := []) (AN := n_jMath_max2_v52_an) (OT := [o_jMath_max2_v52_0, o_jMath_max2_v52_1]) 0 200 (List.forall_mem_cons.mpr ⟨oo_jMath_max2_v52_0, List.forall_mem_cons.mpr ⟨oo_jMath_max2_v52_1, List.forall_mem_nil _⟩⟩) (pl_Math rfl (by decide)) ⟨List.forall_mem_nil _, List.forall_mem_nil _, List.forall_mem_nil _, List.forall_mem_nil _, List.forall_mem_nil _, GG_pl⟩ (by decide +kernel)
def e_jMath_abs1_v53 : en_T := ([(0, -730000000, 730000000, [])], some (0, 0, 730000000, []), true, 1, 0, 0, [], [], (0, [], [], [], []))
def n_jMath_abs1_v53_an : List an_T := []
def t_jMath_abs1_v53_ct : ct_L := []
set_option maxRecDepth 100000 in
theorem c_jMath_abs1_v53 {l : Launch} {D : va_G} {kA : Nat → ClassId} : ct_ok PRD l D kA GG y_jMath_abs1 z_jMath_abs1 e_jMath_abs1_v53 := chk_all_ok (FT := []) (PT := []) (CT := t_jMath_abs1_v53_ct) (KT := []) (NT := []) (AN := n_jMath_abs1_v53_an) (OT := []) 0 200 (List.forall_mem_nil _) (pl_Math rfl (by decide)) ⟨List.forall_mem_nil _, List.forall_mem_nil _, List.forall_mem_nil _, List.forall_mem_nil _, List.forall_mem_nil _, GG_pl⟩ (by decide +kernel)
def e_jMath_abs1_v54 : en_T := ([(0, -772000001, 2042000000, [])], some (0, 0, 2042000000, []), true, 1, 0, 0, [], [], (0, [], [], [], []))
def n_jMath_abs1_v54_an : List an_T := []
def t_jMath_abs1_v54_ct : ct_L := []
set_option maxRecDepth 100000 in
theorem c_jMath_abs1_v54 {l : Launch} {D : va_G} {kA : Nat → ClassId} : ct_ok PRD l D kA GG y_jMath_abs1 z_jMath_abs1 e_jMath_abs1_v54 := chk_all_ok (FT := []) (PT := []) (CT := t_jMath_abs1_v54_ct) (KT := []) (NT := []) (AN := n_jMath_abs1_v54_an) (OT := []) 0 200 (List.forall_mem_nil _) (pl_Math rfl (by decide)) ⟨List.forall_mem_nil _, List.forall_mem_nil _, List.forall_mem_nil _, List.forall_mem_nil _, List.forall_mem_nil _, GG_pl⟩ (by decide +kernel)
def e_jMath_abs2_v55 : en_T := ([(1, -1065800000000000000, 1065800000000000000, [])], some (1, 0, 1065800000000000000, []), true, 1, 0, 0, [], [], (0, [], [], [], []))
def n_jMath_abs2_v55_an : List an_T := []
def t_jMath_abs2_v55_ct : ct_L := []
set_option maxRecDepth 100000 in
theorem c_jMath_abs2_v55 {l : Launch} {D : va_G} {kA : Nat → ClassId} : ct_ok PRD l D kA GG y_jMath_abs2 z_jMath_abs2 e_jMath_abs2_v55 := chk_all_ok (FT := []) (PT := []) (CT := t_jMath_abs2_v55_ct) (KT := []) (NT := []) (AN := n_jMath_abs2_v55_an) (OT := []) 0 200 (List.forall_mem_nil _) (pl_Math rfl (by decide)) ⟨List.forall_mem_nil _, List.forall_mem_nil _, List.forall_mem_nil _, List.forall_mem_nil _, List.forall_mem_nil _, GG_pl⟩ (by decide +kernel)
def e_jMath_min2_v56 : en_T := ([(1, 0, 1065800000000000000, []), (1, 0, 1065800000000000000, [])], some (1, 0, 1065800000000000000, []), true, 1, 0, 0, [], [], (0, [], [], [(23, [0, 2], [0, -1, 1]), (23, [1, 2], [0, -1, 1])], []))
def o_jMath_min2_v56_0 : or_T := (11, 2, [(0, (1, 1, 1065800000000000000, [])), (1, (1, 0, 1065799999999999999, []))], [(7, [0, 1], [4])], [], [], [(23, [0, 1], [0, -1, 1]), (23, [1, 1], [0, -1, 1])], [], [])
theorem oo_jMath_min2_v56_0 {kA : Nat → ClassId} : or_ok PRD kA GG o_jMath_min2_v56_0 := by
  refine or_mk fun A ta ws vs hD hth hl => ?_
  intro t0 k0 t1 k1 f0
  replace f0 := shm_21 f0
  have nf0 : fc_1 PRD (23, [0, 1], [0, -1, 1]) ws (vs) := by
    refine ⟨nf_in hl rfl, sgq_22 ?_⟩
    · show (-1) * v_iv (n_v vs 0) + (1 * v_iv (n_v vs 1) + 0) ≤ 0
      omega
  have nf1 : fc_1 PRD (23, [1, 1], [0, -1, 1]) ws (vs) := by
    refine ⟨nf_in hl rfl, sgq_23 ?_⟩
    · show (-1) * v_iv (n_v vs 1) + (1 * v_iv (n_v vs 1) + 0) ≤ 0
      omega
  refine ⟨(fun _ h => (by cases h)), [], trivial, ?_, (fun _ h => (by cases h))⟩
  rw [List.append_nil]
  exact List.forall_mem_cons.mpr ⟨⟨show (23 : Nat) < 100 from by decide, nf0⟩, List.forall_mem_cons.mpr ⟨⟨show (23 : Nat) < 100 from by decide, nf1⟩, (fun _ h => (by cases h))⟩⟩
def o_jMath_min2_v56_1 : or_T := (11, 2, [(0, (1, 0, 1065800000000000000, [])), (1, (1, 0, 1065800000000000000, []))], [(7, [0, 1], [5])], [], [], [(23, [0, 0], [0, -1, 1]), (23, [1, 0], [0, -1, 1])], [], [])
theorem oo_jMath_min2_v56_1 {kA : Nat → ClassId} : or_ok PRD kA GG o_jMath_min2_v56_1 := by
  refine or_mk fun A ta ws vs hD hth hl => ?_
  intro t0 k0 t1 k1 f0
  replace f0 := shm_24 f0
  have nf0 : fc_1 PRD (23, [0, 0], [0, -1, 1]) ws (vs) := by
    refine ⟨nf_in hl rfl, sgq_23 ?_⟩
    · show (-1) * v_iv (n_v vs 0) + (1 * v_iv (n_v vs 0) + 0) ≤ 0
      omega
  have nf1 : fc_1 PRD (23, [1, 0], [0, -1, 1]) ws (vs) := by
    refine ⟨nf_in hl rfl, sgq_22 ?_⟩
    · show (-1) * v_iv (n_v vs 1) + (1 * v_iv (n_v vs 0) + 0) ≤ 0
      omega
  refine ⟨(fun _ h => (by cases h)), [], trivial, ?_, (fun _ h => (by cases h))⟩
  rw [List.append_nil]
  exact List.forall_mem_cons.mpr ⟨⟨show (23 : Nat) < 100 from by decide, nf0⟩, List.forall_mem_cons.mpr ⟨⟨show (23 : Nat) < 100 from by decide, nf1⟩, (fun _ h => (by cases h))⟩⟩
def n_jMath_min2_v56_an : List an_T := []
def t_jMath_min2_v56_ct : ct_L := []
set_option maxRecDepth 100000 in
theorem c_jMath_min2_v56 {l : Launch} {D : va_G} {kA : Nat → ClassId} : ct_ok PRD l D kA GG y_jMath_min2 z_jMath_min2 e_jMath_min2_v56 := chk_all_ok (FT := []) (PT := []) (CT := t_jMath_min2_v56_ct) (KT := []) (NT := []) (AN := n_jMath_min2_v56_an) (OT := [o_jMath_min2_v56_0, o_jMath_min2_v56_1]) 0 200 (List.forall_mem_cons.mpr ⟨oo_jMath_min2_v56_0, List.forall_mem_cons.mpr ⟨oo_jMath_min2_v56_1, List.forall_mem_nil _⟩⟩) (pl_Math rfl (by decide)) ⟨List.forall_mem_nil _, List.forall_mem_nil _, List.forall_mem_nil _, List.forall_mem_nil _, List.forall_mem_nil _, GG_pl⟩ (by decide +kernel)
def e_jMath_max1_v57 : en_T := ([(0, -41000000, 1001000000, []), (0, -41000000, 1001000000, [])], some (0, -41000000, 1001000000, []), true, 1, 0, 0, [], [], (0, [], [], [(23, [0, 2], [0, 1, -1]), (23, [1, 2], [0, 1, -1])], []))
def o_jMath_max1_v57_0 : or_T := (10, 2, [(0, (0, -41000000, 1000999999, [])), (1, (0, -40999999, 1001000000, []))], [(7, [0, 1], [2])], [], [], [(23, [0, 1], [0, 1, -1]), (23, [1, 1], [0, 1, -1])], [], [(0, 1, -4294967296, -1)])
theorem oo_jMath_max1_v57_0 {kA : Nat → ClassId} : or_ok PRD kA GG o_jMath_max1_v57_0 := by
  refine or_mk fun A ta ws vs hD hth hl => ?_
  intro t0 k0 t1 k1 d0 f0
  replace f0 := shm_6 f0
  have nf0 : fc_1 PRD (23, [0, 1], [0, 1, -1]) ws (vs) := by
    refine ⟨nf_in hl rfl, sgq_7 ?_⟩
    · show 1 * v_iv (n_v vs 0) + ((-1) * v_iv (n_v vs 1) + 0) ≤ 0
      omega
  have nf1 : fc_1 PRD (23, [1, 1], [0, 1, -1]) ws (vs) := by
    refine ⟨nf_in hl rfl, sgq_8 ?_⟩
    · show 1 * v_iv (n_v vs 1) + ((-1) * v_iv (n_v vs 1) + 0) ≤ 0
      omega
  refine ⟨(fun _ h => (by cases h)), [], trivial, ?_, (fun _ h => (by cases h))⟩
  rw [List.append_nil]
  exact List.forall_mem_cons.mpr ⟨⟨show (23 : Nat) < 100 from by decide, nf0⟩, List.forall_mem_cons.mpr ⟨⟨show (23 : Nat) < 100 from by decide, nf1⟩, (fun _ h => (by cases h))⟩⟩
def o_jMath_max1_v57_1 : or_T := (10, 2, [(0, (0, -41000000, 1001000000, [])), (1, (0, -41000000, 1001000000, []))], [(7, [0, 1], [3])], [], [], [(23, [0, 0], [0, 1, -1]), (23, [1, 0], [0, 1, -1])], [], [(0, 1, 0, 4294967296)])
theorem oo_jMath_max1_v57_1 {kA : Nat → ClassId} : or_ok PRD kA GG o_jMath_max1_v57_1 := by
  refine or_mk fun A ta ws vs hD hth hl => ?_
  intro t0 k0 t1 k1 d0 f0
  replace f0 := shm_2 f0
  have nf0 : fc_1 PRD (23, [0, 0], [0, 1, -1]) ws (vs) := by
    refine ⟨nf_in hl rfl, sgq_8 ?_⟩
    · show 1 * v_iv (n_v vs 0) + ((-1) * v_iv (n_v vs 0) + 0) ≤ 0
      omega
  have nf1 : fc_1 PRD (23, [1, 0], [0, 1, -1]) ws (vs) := by
    refine ⟨nf_in hl rfl, sgq_7 ?_⟩
    · show 1 * v_iv (n_v vs 1) + ((-1) * v_iv (n_v vs 0) + 0) ≤ 0
      omega
  refine ⟨(fun _ h => (by cases h)), [], trivial, ?_, (fun _ h => (by cases h))⟩
  rw [List.append_nil]
  exact List.forall_mem_cons.mpr ⟨⟨show (23 : Nat) < 100 from by decide, nf0⟩, List.forall_mem_cons.mpr ⟨⟨show (23 : Nat) < 100 from by decide, nf1⟩, (fun _ h => (by cases h))⟩⟩
def n_jMath_max1_v57_an : List an_T := []
def t_jMath_max1_v57_ct : ct_L := []
set_option maxRecDepth 100000 in
theorem c_jMath_max1_v57 {l : Launch} {D : va_G} {kA : Nat → ClassId} : ct_ok PRD l D kA GG y_jMath_max1 z_jMath_max1 e_jMath_max1_v57 := chk_all_ok (FT := []) (PT := []) (CT := t_jMath_max1_v57_ct) (KT := []) (NT := []) (AN := n_jMath_max1_v57_an) (OT := [o_jMath_max1_v57_0, o_jMath_max1_v57_1]) 0 200 (List.forall_mem_cons.mpr ⟨oo_jMath_max1_v57_0, List.forall_mem_cons.mpr ⟨oo_jMath_max1_v57_1, List.forall_mem_nil _⟩⟩) (pl_Math rfl (by decide)) ⟨List.forall_mem_nil _, List.forall_mem_nil _, List.forall_mem_nil _, List.forall_mem_nil _, List.forall_mem_nil _, GG_pl⟩ (by decide +kernel)
def e_jMath_min1_v58 : en_T := ([(0, -41000000, 1001000000, []), (0, -41000000, 1001000000, [])], some (0, -41000000, 1001000000, []), true, 1, 0, 0, [], [], (0, [], [], [(23, [0, 2], [0, -1, 1]), (23, [1, 2], [0, -1, 1])], []))
def o_jMath_min1_v58_0 : or_T := (10, 2, [(0, (0, -40999999, 1001000000, [])), (1, (0, -41000000, 1000999999, []))], [(7, [0, 1], [4])], [], [], [(23, [0, 1], [0, -1, 1]), (23, [1, 1], [0, -1, 1])], [], [(0, 1, 1, 4294967296)])
theorem oo_jMath_min1_v58_0 {kA : Nat → ClassId} : or_ok PRD kA GG o_jMath_min1_v58_0 := by
  refine or_mk fun A ta ws vs hD hth hl => ?_
  intro t0 k0 t1 k1 d0 f0
  replace f0 := shm_21 f0
  have nf0 : fc_1 PRD (23, [0, 1], [0, -1, 1]) ws (vs) := by
    refine ⟨nf_in hl rfl, sgq_22 ?_⟩
    · show (-1) * v_iv (n_v vs 0) + (1 * v_iv (n_v vs 1) + 0) ≤ 0
      omega
  have nf1 : fc_1 PRD (23, [1, 1], [0, -1, 1]) ws (vs) := by
    refine ⟨nf_in hl rfl, sgq_23 ?_⟩
    · show (-1) * v_iv (n_v vs 1) + (1 * v_iv (n_v vs 1) + 0) ≤ 0
      omega
  refine ⟨(fun _ h => (by cases h)), [], trivial, ?_, (fun _ h => (by cases h))⟩
  rw [List.append_nil]
  exact List.forall_mem_cons.mpr ⟨⟨show (23 : Nat) < 100 from by decide, nf0⟩, List.forall_mem_cons.mpr ⟨⟨show (23 : Nat) < 100 from by decide, nf1⟩, (fun _ h => (by cases h))⟩⟩
def o_jMath_min1_v58_1 : or_T := (10, 2, [(0, (0, -41000000, 1001000000, [])), (1, (0, -41000000, 1001000000, []))], [(7, [0, 1], [5])], [], [], [(23, [0, 0], [0, -1, 1]), (23, [1, 0], [0, -1, 1])], [], [(0, 1, -4294967296, 0)])
theorem oo_jMath_min1_v58_1 {kA : Nat → ClassId} : or_ok PRD kA GG o_jMath_min1_v58_1 := by
  refine or_mk fun A ta ws vs hD hth hl => ?_
  intro t0 k0 t1 k1 d0 f0
  replace f0 := shm_24 f0
  have nf0 : fc_1 PRD (23, [0, 0], [0, -1, 1]) ws (vs) := by
    refine ⟨nf_in hl rfl, sgq_23 ?_⟩
    · show (-1) * v_iv (n_v vs 0) + (1 * v_iv (n_v vs 0) + 0) ≤ 0
      omega
  have nf1 : fc_1 PRD (23, [1, 0], [0, -1, 1]) ws (vs) := by
    refine ⟨nf_in hl rfl, sgq_22 ?_⟩
    · show (-1) * v_iv (n_v vs 1) + (1 * v_iv (n_v vs 0) + 0) ≤ 0
      omega
  refine ⟨(fun _ h => (by cases h)), [], trivial, ?_, (fun _ h => (by cases h))⟩
  rw [List.append_nil]
  exact List.forall_mem_cons.mpr ⟨⟨show (23 : Nat) < 100 from by decide, nf0⟩, List.forall_mem_cons.mpr ⟨⟨show (23 : Nat) < 100 from by decide, nf1⟩, (fun _ h => (by cases h))⟩⟩
def n_jMath_min1_v58_an : List an_T := []
def t_jMath_min1_v58_ct : ct_L := []
set_option maxRecDepth 100000 in
theorem c_jMath_min1_v58 {l : Launch} {D : va_G} {kA : Nat → ClassId} : ct_ok PRD l D kA GG y_jMath_min1 z_jMath_min1 e_jMath_min1_v58 := chk_all_ok (FT := []) (PT := []) (CT := t_jMath_min1_v58_ct) (KT := []) (NT := []) (AN := n_jMath_min1_v58_an) (OT := [o_jMath_min1_v58_0, o_jMath_min1_v58_1]) 0 200 (List.forall_mem_cons.mpr ⟨oo_jMath_min1_v58_0, List.forall_mem_cons.mpr ⟨oo_jMath_min1_v58_1, List.forall_mem_nil _⟩⟩) (pl_Math rfl (by decide)) ⟨List.forall_mem_nil _, List.forall_mem_nil _, List.forall_mem_nil _, List.forall_mem_nil _, List.forall_mem_nil _, GG_pl⟩ (by decide +kernel)
def e_jMath_min1_v59 : en_T := ([(0, -41000000, 690000000, []), (0, -41000000, 1001000000, [])], some (0, -41000000, 690000000, []), true, 1, 0, 0, [], [], (0, [], [], [(23, [0, 2], [0, -1, 1]), (23, [1, 2], [0, -1, 1])], []))
def o_jMath_min1_v59_0 : or_T := (10, 2, [(0, (0, -40999999, 690000000, [])), (1, (0, -41000000, 689999999, []))], [(7, [0, 1], [4])], [], [], [(23, [0, 1], [0, -1, 1]), (23, [1, 1], [0, -1, 1])], [], [(0, 1, 1, 4294967296)])
theorem oo_jMath_min1_v59_0 {kA : Nat → ClassId} : or_ok PRD kA GG o_jMath_min1_v59_0 := by
  refine or_mk fun A ta ws vs hD hth hl => ?_
  intro t0 k0 t1 k1 d0 f0
  replace f0 := shm_21 f0
  have nf0 : fc_1 PRD (23, [0, 1], [0, -1, 1]) ws (vs) := by
    refine ⟨nf_in hl rfl, sgq_22 ?_⟩
    · show (-1) * v_iv (n_v vs 0) + (1 * v_iv (n_v vs 1) + 0) ≤ 0
      omega
  have nf1 : fc_1 PRD (23, [1, 1], [0, -1, 1]) ws (vs) := by
    refine ⟨nf_in hl rfl, sgq_23 ?_⟩
    · show (-1) * v_iv (n_v vs 1) + (1 * v_iv (n_v vs 1) + 0) ≤ 0
      omega
  refine ⟨(fun _ h => (by cases h)), [], trivial, ?_, (fun _ h => (by cases h))⟩
  rw [List.append_nil]
  exact List.forall_mem_cons.mpr ⟨⟨show (23 : Nat) < 100 from by decide, nf0⟩, List.forall_mem_cons.mpr ⟨⟨show (23 : Nat) < 100 from by decide, nf1⟩, (fun _ h => (by cases h))⟩⟩
def o_jMath_min1_v59_1 : or_T := (10, 2, [(0, (0, -41000000, 690000000, [])), (1, (0, -41000000, 1001000000, []))], [(7, [0, 1], [5])], [], [], [(23, [0, 0], [0, -1, 1]), (23, [1, 0], [0, -1, 1])], [], [(0, 1, -4294967296, 0)])
theorem oo_jMath_min1_v59_1 {kA : Nat → ClassId} : or_ok PRD kA GG o_jMath_min1_v59_1 := by
  refine or_mk fun A ta ws vs hD hth hl => ?_
  intro t0 k0 t1 k1 d0 f0
  replace f0 := shm_24 f0
  have nf0 : fc_1 PRD (23, [0, 0], [0, -1, 1]) ws (vs) := by
    refine ⟨nf_in hl rfl, sgq_23 ?_⟩
    · show (-1) * v_iv (n_v vs 0) + (1 * v_iv (n_v vs 0) + 0) ≤ 0
      omega
  have nf1 : fc_1 PRD (23, [1, 0], [0, -1, 1]) ws (vs) := by
    refine ⟨nf_in hl rfl, sgq_22 ?_⟩
    · show (-1) * v_iv (n_v vs 1) + (1 * v_iv (n_v vs 0) + 0) ≤ 0
      omega
  refine ⟨(fun _ h => (by cases h)), [], trivial, ?_, (fun _ h => (by cases h))⟩
  rw [List.append_nil]
  exact List.forall_mem_cons.mpr ⟨⟨show (23 : Nat) < 100 from by decide, nf0⟩, List.forall_mem_cons.mpr ⟨⟨show (23 : Nat) < 100 from by decide, nf1⟩, (fun _ h => (by cases h))⟩⟩
def n_jMath_min1_v59_an : List an_T := []
def t_jMath_min1_v59_ct : ct_L := []
set_option maxRecDepth 100000 in
theorem c_jMath_min1_v59 {l : Launch} {D : va_G} {kA : Nat → ClassId} : ct_ok PRD l D kA GG y_jMath_min1 z_jMath_min1 e_jMath_min1_v59 := chk_all_ok (FT := []) (PT := []) (CT := t_jMath_min1_v59_ct) (KT := []) (NT := []) (AN := n_jMath_min1_v59_an) (OT := [o_jMath_min1_v59_0, o_jMath_min1_v59_1]) 0 200 (List.forall_mem_cons.mpr ⟨oo_jMath_min1_v59_0, List.forall_mem_cons.mpr ⟨oo_jMath_min1_v59_1, List.forall_mem_nil _⟩⟩) (pl_Math rfl (by decide)) ⟨List.forall_mem_nil _, List.forall_mem_nil _, List.forall_mem_nil _, List.forall_mem_nil _, List.forall_mem_nil _, GG_pl⟩ (by decide +kernel)
def e_jMath_max1_v60 : en_T := ([(0, -40000000, 1001000000, []), (0, -41000000, 1001000000, [])], some (0, -40000000, 1001000000, []), true, 1, 0, 0, [], [], (0, [], [], [(23, [0, 2], [0, 1, -1]), (23, [1, 2], [0, 1, -1])], []))
def o_jMath_max1_v60_0 : or_T := (10, 2, [(0, (0, -40000000, 1000999999, [])), (1, (0, -39999999, 1001000000, []))], [(7, [0, 1], [2])], [], [], [(23, [0, 1], [0, 1, -1]), (23, [1, 1], [0, 1, -1])], [], [(0, 1, -4294967296, -1)])
theorem oo_jMath_max1_v60_0 {kA : Nat → ClassId} : or_ok PRD kA GG o_jMath_max1_v60_0 := by
  refine or_mk fun A ta ws vs hD hth hl => ?_
  intro t0 k0 t1 k1 d0 f0
  replace f0 := shm_6 f0
  have nf0 : fc_1 PRD (23, [0, 1], [0, 1, -1]) ws (vs) := by
    refine ⟨nf_in hl rfl, sgq_7 ?_⟩
    · show 1 * v_iv (n_v vs 0) + ((-1) * v_iv (n_v vs 1) + 0) ≤ 0
      omega
  have nf1 : fc_1 PRD (23, [1, 1], [0, 1, -1]) ws (vs) := by
    refine ⟨nf_in hl rfl, sgq_8 ?_⟩
    · show 1 * v_iv (n_v vs 1) + ((-1) * v_iv (n_v vs 1) + 0) ≤ 0
      omega
  refine ⟨(fun _ h => (by cases h)), [], trivial, ?_, (fun _ h => (by cases h))⟩
  rw [List.append_nil]
  exact List.forall_mem_cons.mpr ⟨⟨show (23 : Nat) < 100 from by decide, nf0⟩, List.forall_mem_cons.mpr ⟨⟨show (23 : Nat) < 100 from by decide, nf1⟩, (fun _ h => (by cases h))⟩⟩
def o_jMath_max1_v60_1 : or_T := (10, 2, [(0, (0, -40000000, 1001000000, [])), (1, (0, -41000000, 1001000000, []))], [(7, [0, 1], [3])], [], [], [(23, [0, 0], [0, 1, -1]), (23, [1, 0], [0, 1, -1])], [], [(0, 1, 0, 4294967296)])
theorem oo_jMath_max1_v60_1 {kA : Nat → ClassId} : or_ok PRD kA GG o_jMath_max1_v60_1 := by
  refine or_mk fun A ta ws vs hD hth hl => ?_
  intro t0 k0 t1 k1 d0 f0
  replace f0 := shm_2 f0
  have nf0 : fc_1 PRD (23, [0, 0], [0, 1, -1]) ws (vs) := by
    refine ⟨nf_in hl rfl, sgq_8 ?_⟩
    · show 1 * v_iv (n_v vs 0) + ((-1) * v_iv (n_v vs 0) + 0) ≤ 0
      omega
  have nf1 : fc_1 PRD (23, [1, 0], [0, 1, -1]) ws (vs) := by
    refine ⟨nf_in hl rfl, sgq_7 ?_⟩
    · show 1 * v_iv (n_v vs 1) + ((-1) * v_iv (n_v vs 0) + 0) ≤ 0
      omega
  refine ⟨(fun _ h => (by cases h)), [], trivial, ?_, (fun _ h => (by cases h))⟩
  rw [List.append_nil]
  exact List.forall_mem_cons.mpr ⟨⟨show (23 : Nat) < 100 from by decide, nf0⟩, List.forall_mem_cons.mpr ⟨⟨show (23 : Nat) < 100 from by decide, nf1⟩, (fun _ h => (by cases h))⟩⟩
def n_jMath_max1_v60_an : List an_T := []
def t_jMath_max1_v60_ct : ct_L := []
set_option maxRecDepth 100000 in
theorem c_jMath_max1_v60 {l : Launch} {D : va_G} {kA : Nat → ClassId} : ct_ok PRD l D kA GG y_jMath_max1 z_jMath_max1 e_jMath_max1_v60 := chk_all_ok (FT := []) (PT := []) (CT := t_jMath_max1_v60_ct) (KT := []) (NT := []) (AN := n_jMath_max1_v60_an) (OT := [o_jMath_max1_v60_0, o_jMath_max1_v60_1]) 0 200 (List.forall_mem_cons.mpr ⟨oo_jMath_max1_v60_0, List.forall_mem_cons.mpr ⟨oo_jMath_max1_v60_1, List.forall_mem_nil _⟩⟩) (pl_Math rfl (by decide)) ⟨List.forall_mem_nil _, List.forall_mem_nil _, List.forall_mem_nil _, List.forall_mem_nil _, List.forall_mem_nil _, GG_pl⟩ (by decide +kernel)
def e_jArr_fill1_v61 : en_T := ([(2, 0, 0, [43]), (0, 0, 0, [])], none, false, 1, 0, 0, [], [], (8796093022208, [], [], [(20, [0, 1], [8, 0, 0, 24])], []))
def o_jArr_fill1_v61_0 : or_T := (5, 4, [(2, (0, 0, 0, []))], [], [], [], [(20, [0, 2], [8, 0, 0, 0])], [], [])
theorem oo_jArr_fill1_v61_0 {kA : Nat → ClassId} : or_ok PRD kA GG o_jArr_fill1_v61_0 := by
  refine or_mk fun A ta ws vs hD hth hl => ?_
  intro t2 k2
  have nf0 : fc_1 PRD (20, [0, 2], [8, 0, 0, 0]) ws (vs) := by
    refine ⟨nf_in hl rfl, sgq_0 ?_⟩
    · show ∀ j : Nat, (j : Int) < v_iv (n_v vs 2) + 0 → 0 ≤ w_el ws (v_ad (n_v vs 0)) j ∧ w_el ws (v_ad (n_v vs 0)) j ≤ 0
      intro j hj
      exfalso; omega
  refine ⟨(fun _ h => (by cases h)), [], trivial, ?_, (fun _ h => (by cases h))⟩
  rw [List.append_nil]
  exact List.forall_mem_cons.mpr ⟨⟨show (20 : Nat) < 100 from by decide, nf0⟩, (fun _ h => (by cases h))⟩
def o_jArr_fill1_v61_1 : or_T := (5, 4, [], [], [], [], [(24, [0, 0], [])], [], [])
theorem oo_jArr_fill1_v61_1 {kA : Nat → ClassId} : or_ok PRD kA GG o_jArr_fill1_v61_1 := by
  refine or_mk fun A ta ws vs hD hth hl => ?_
  have nf0 : fc_1 PRD (24, [0, 0], []) ws (vs) := by
    refine ⟨nf_in hl rfl, sgq_1 ?_⟩
    · show n_v vs 0 = n_v vs 0
      first | rfl | simp only [true_and]
  refine ⟨(fun _ h => (by cases h)), [], trivial, ?_, (fun _ h => (by cases h))⟩
  rw [List.append_nil]
  exact List.forall_mem_cons.mpr ⟨⟨show (24 : Nat) < 100 from by decide, nf0⟩, (fun _ h => (by cases h))⟩
def o_jArr_fill1_v61_2 : or_T := (20, 6, [(1, (0, 0, 0, [])), (4, (0, 24, 24, [])), (5, (0, 24, 24, []))], [(7, [4, 5], [3]), (20, [0, 4], [8, 0, 0, 0])], [], [], [(20, [0, 1], [8, 0, 0, 24])], [], [])
theorem oo_jArr_fill1_v61_2 {kA : Nat → ClassId} : or_ok PRD kA GG o_jArr_fill1_v61_2 := by
  refine or_mk fun A ta ws vs hD hth hl => ?_
  intro t1 k1 t4 k4 t5 k5 f0 f1
  replace f0 := shm_2 f0
  replace f1 := shm_0 f1
  have nf0 : fc_1 PRD (20, [0, 1], [8, 0, 0, 24]) ws (vs) := by
    refine ⟨nf_in hl rfl, sgq_18 ?_⟩
    · show ∀ j : Nat, (j : Int) < v_iv (n_v vs 1) + 24 → 0 ≤ w_el ws (v_ad (n_v vs 0)) j ∧ w_el ws (v_ad (n_v vs 0)) j ≤ 0
      intro j hj
      exact f1 j (by omega)
  refine ⟨(fun _ h => (by cases h)), [], trivial, ?_, (fun _ h => (by cases h))⟩
  rw [List.append_nil]
  exact List.forall_mem_cons.mpr ⟨⟨show (20 : Nat) < 100 from by decide, nf0⟩, (fun _ h => (by cases h))⟩
def o_jArr_fill1_v61_3 : or_T := (5, 7, [(3, (0, 0, 0, [])), (4, (0, 0, 23, [])), (5, (0, 24, 24, [])), (6, (0, 1, 24, []))], [(6, [6, 4], [1]), (24, [0, 2], []), (100, [2, 4, 3], []), (7, [4, 5], [2]), (20, [0, 4], [8, 0, 0, 0])], [], [], [(20, [0, 6], [8, 0, 0, 0])], [], [(6, 4, 1, 1)])
theorem oo_jArr_fill1_v61_3 {kA : Nat → ClassId} : or_ok PRD kA GG o_jArr_fill1_v61_3 := by
  refine or_mk fun A ta ws vs hD hth hl => ?_
  intro t3 k3 t4 k4 t5 k5 t6 k6 d0 f0 f1 ta1 w1 le1 s1 f3 f4
  replace f0 := shm_4 f0
  replace f1 := shm_5 f1
  have s1 : (∀ b j, w_el ws b j = if b = v_ad (n_v vs 2) ∧ j = (v_iv (n_v vs 4)).toNat then v_iv (n_v vs 3) else w_el w1 b j) ∧ ∀ b k, w_fd ws b k = w_fd w1 b k := s1.2
  replace f3 := shm_6 f3
  replace f4 := shm_0 f4
  rw [← f1] at s1
  have nf0 : fc_1 PRD (20, [0, 6], [8, 0, 0, 0]) ws (vs) := by
    refine ⟨nf_in hl rfl, sgq_0 ?_⟩
    · show ∀ j : Nat, (j : Int) < v_iv (n_v vs 6) + 0 → 0 ≤ w_el ws (v_ad (n_v vs 0)) j ∧ w_el ws (v_ad (n_v vs 0)) j ≤ 0
      intro j hj
      by_cases hji : j = (v_iv (n_v vs 4)).toNat
      · rw [s1.1, if_pos ⟨rfl, hji⟩]; first | (constructor <;> omega) | (exfalso; omega)
      · rw [s1.1, if_neg (fun e => hji e.2)]; exact f4 j (by omega)
  refine ⟨(fun _ h => (by cases h)), [], trivial, ?_, (fun _ h => (by cases h))⟩
  rw [List.append_nil]
  exact List.forall_mem_cons.mpr ⟨⟨show (20 : Nat) < 100 from by decide, nf0⟩, (fun _ h => (by cases h))⟩
def n_jArr_fill1_v61_an : List an_T := [(5, [(0, (2, 0, 0, [43])), (1, (0, 0, 0, [])), (2, (0, 0, 24, [])), (3, (0, 24, 24, []))], [], (0, 0), [(0, 0, 99995), (1, 4, 24), (0, 0, 100000)], [], [], [(2, 0, 0, [43]), (0, 0, 0, [])], 0, [], [(20, [0, 4], [8, 0, 0, 0]), (24, [0, 2], [])])]
def t_jArr_fill1_v61_ct : ct_L := []
set_option maxRecDepth 100000 in
theorem c_jArr_fill1_v61 {l : Launch} {D : va_G} {kA : Nat → ClassId} : ct_ok PRD l D kA GG y_jArr_fill1 z_jArr_fill1 e_jArr_fill1_v61 := chk_all_ok (FT := []) (PT := []) (CT := t_jArr_fill1_v61_ct) (KT := []) (NT := []) (AN := n_jArr_fill1_v61_an) (OT := [o_jArr_fill1_v61_0, o_jArr_fill1_v61_1, o_jArr_fill1_v61_2, o_jArr_fill1_v61_3]) 3 200 (List.forall_mem_cons.mpr ⟨oo_jArr_fill1_v61_0, List.forall_mem_cons.mpr ⟨oo_jArr_fill1_v61_1, List.forall_mem_cons.mpr ⟨oo_jArr_fill1_v61_2, List.forall_mem_cons.mpr ⟨oo_jArr_fill1_v61_3, List.forall_mem_nil _⟩⟩⟩⟩) (by decide +kernel) ⟨List.forall_mem_nil _, List.forall_mem_nil _, List.forall_mem_nil _, List.forall_mem_nil _, List.forall_mem_nil _, GG_pl⟩ (by decide +kernel)
def e_jArr_fill1_v62 : en_T := ([(2, 0, 0, [59]), (0, 0, 0, [])], none, false, 1, 0, 0, [], [], (576460752303423488, [], [], [(20, [0, 1], [8, 0, 0, 24])], []))
def o_jArr_fill1_v62_0 : or_T := (5, 4, [(2, (0, 0, 0, []))], [], [], [], [(20, [0, 2], [8, 0, 0, 0])], [], [])
theorem oo_jArr_fill1_v62_0 {kA : Nat → ClassId} : or_ok PRD kA GG o_jArr_fill1_v62_0 := by
  refine or_mk fun A ta ws vs hD hth hl => ?_
  intro t2 k2
  have nf0 : fc_1 PRD (20, [0, 2], [8, 0, 0, 0]) ws (vs) := by
    refine ⟨nf_in hl rfl, sgq_0 ?_⟩
    · show ∀ j : Nat, (j : Int) < v_iv (n_v vs 2) + 0 → 0 ≤ w_el ws (v_ad (n_v vs 0)) j ∧ w_el ws (v_ad (n_v vs 0)) j ≤ 0
      intro j hj
      exfalso; omega
  refine ⟨(fun _ h => (by cases h)), [], trivial, ?_, (fun _ h => (by cases h))⟩
  rw [List.append_nil]
  exact List.forall_mem_cons.mpr ⟨⟨show (20 : Nat) < 100 from by decide, nf0⟩, (fun _ h => (by cases h))⟩
def o_jArr_fill1_v62_1 : or_T := (5, 4, [], [], [], [], [(24, [0, 0], [])], [], [])
theorem oo_jArr_fill1_v62_1 {kA : Nat → ClassId} : or_ok PRD kA GG o_jArr_fill1_v62_1 := by
  refine or_mk fun A ta ws vs hD hth hl => ?_
  have nf0 : fc_1 PRD (24, [0, 0], []) ws (vs) := by
    refine ⟨nf_in hl rfl, sgq_1 ?_⟩
    · show n_v vs 0 = n_v vs 0
      first | rfl | simp only [true_and]
  refine ⟨(fun _ h => (by cases h)), [], trivial, ?_, (fun _ h => (by cases h))⟩
  rw [List.append_nil]
  exact List.forall_mem_cons.mpr ⟨⟨show (24 : Nat) < 100 from by decide, nf0⟩, (fun _ h => (by cases h))⟩
def o_jArr_fill1_v62_2 : or_T := (20, 6, [(1, (0, 0, 0, [])), (4, (0, 24, 24, [])), (5, (0, 24, 24, []))], [(7, [4, 5], [3]), (20, [0, 4], [8, 0, 0, 0])], [], [], [(20, [0, 1], [8, 0, 0, 24])], [], [])
theorem oo_jArr_fill1_v62_2 {kA : Nat → ClassId} : or_ok PRD kA GG o_jArr_fill1_v62_2 := by
  refine or_mk fun A ta ws vs hD hth hl => ?_
  intro t1 k1 t4 k4 t5 k5 f0 f1
  replace f0 := shm_2 f0
  replace f1 := shm_0 f1
  have nf0 : fc_1 PRD (20, [0, 1], [8, 0, 0, 24]) ws (vs) := by
    refine ⟨nf_in hl rfl, sgq_18 ?_⟩
    · show ∀ j : Nat, (j : Int) < v_iv (n_v vs 1) + 24 → 0 ≤ w_el ws (v_ad (n_v vs 0)) j ∧ w_el ws (v_ad (n_v vs 0)) j ≤ 0
      intro j hj
      exact f1 j (by omega)
  refine ⟨(fun _ h => (by cases h)), [], trivial, ?_, (fun _ h => (by cases h))⟩
  rw [List.append_nil]
  exact List.forall_mem_cons.mpr ⟨⟨show (20 : Nat) < 100 from by decide, nf0⟩, (fun _ h => (by cases h))⟩
def o_jArr_fill1_v62_3 : or_T := (5, 7, [(3, (0, 0, 0, [])), (4, (0, 0, 23, [])), (5, (0, 24, 24, [])), (6, (0, 1, 24, []))], [(6, [6, 4], [1]), (24, [0, 2], []), (100, [2, 4, 3], []), (7, [4, 5], [2]), (20, [0, 4], [8, 0, 0, 0])], [], [], [(20, [0, 6], [8, 0, 0, 0])], [], [(6, 4, 1, 1)])
theorem oo_jArr_fill1_v62_3 {kA : Nat → ClassId} : or_ok PRD kA GG o_jArr_fill1_v62_3 := by
  refine or_mk fun A ta ws vs hD hth hl => ?_
  intro t3 k3 t4 k4 t5 k5 t6 k6 d0 f0 f1 ta1 w1 le1 s1 f3 f4
  replace f0 := shm_4 f0
  replace f1 := shm_5 f1
  have s1 : (∀ b j, w_el ws b j = if b = v_ad (n_v vs 2) ∧ j = (v_iv (n_v vs 4)).toNat then v_iv (n_v vs 3) else w_el w1 b j) ∧ ∀ b k, w_fd ws b k = w_fd w1 b k := s1.2
  replace f3 := shm_6 f3
  replace f4 := shm_0 f4
  rw [← f1] at s1
  have nf0 : fc_1 PRD (20, [0, 6], [8, 0, 0, 0]) ws (vs) := by
    refine ⟨nf_in hl rfl, sgq_0 ?_⟩
    · show ∀ j : Nat, (j : Int) < v_iv (n_v vs 6) + 0 → 0 ≤ w_el ws (v_ad (n_v vs 0)) j ∧ w_el ws (v_ad (n_v vs 0)) j ≤ 0
      intro j hj
      by_cases hji : j = (v_iv (n_v vs 4)).toNat
      · rw [s1.1, if_pos ⟨rfl, hji⟩]; first | (constructor <;> omega) | (exfalso; omega)
      · rw [s1.1, if_neg (fun e => hji e.2)]; exact f4 j (by omega)
  refine ⟨(fun _ h => (by cases h)), [], trivial, ?_, (fun _ h => (by cases h))⟩
  rw [List.append_nil]
  exact List.forall_mem_cons.mpr ⟨⟨show (20 : Nat) < 100 from by decide, nf0⟩, (fun _ h => (by cases h))⟩
def n_jArr_fill1_v62_an : List an_T := [(5, [(0, (2, 0, 0, [59])), (1, (0, 0, 0, [])), (2, (0, 0, 24, [])), (3, (0, 24, 24, []))], [], (0, 0), [(0, 0, 99995), (1, 4, 24), (0, 0, 100000)], [], [], [(2, 0, 0, [59]), (0, 0, 0, [])], 0, [], [(20, [0, 4], [8, 0, 0, 0]), (24, [0, 2], [])])]
def t_jArr_fill1_v62_ct : ct_L := []
set_option maxRecDepth 100000 in
theorem c_jArr_fill1_v62 {l : Launch} {D : va_G} {kA : Nat → ClassId} : ct_ok PRD l D kA GG y_jArr_fill1 z_jArr_fill1 e_jArr_fill1_v62 := chk_all_ok (FT := []) (PT := []) (CT := t_jArr_fill1_v62_ct) (KT := []) (NT := []) (AN := n_jArr_fill1_v62_an) (OT := [o_jArr_fill1_v62_0, o_jArr_fill1_v62_1, o_jArr_fill1_v62_2, o_jArr_fill1_v62_3]) 3 200 (List.forall_mem_cons.mpr ⟨oo_jArr_fill1_v62_0, List.forall_mem_cons.mpr ⟨oo_jArr_fill1_v62_1, List.forall_mem_cons.mpr ⟨oo_jArr_fill1_v62_2, List.forall_mem_cons.mpr ⟨oo_jArr_fill1_v62_3, List.forall_mem_nil _⟩⟩⟩⟩) (by decide +kernel) ⟨List.forall_mem_nil _, List.forall_mem_nil _, List.forall_mem_nil _, List.forall_mem_nil _, List.forall_mem_nil _, GG_pl⟩ (by decide +kernel)
def e_jArr_fill1_v63 : en_T := ([(2, 0, 0, [60]), (0, -1, -1, [])], none, false, 1, 0, 0, [], [], (1152921504606846976, [], [], [(20, [0, 1], [8, -1, -1, 577])], []))
def o_jArr_fill1_v63_0 : or_T := (5, 4, [(2, (0, 0, 0, []))], [], [], [], [(20, [0, 2], [8, -1, -1, 0])], [], [])
theorem oo_jArr_fill1_v63_0 {kA : Nat → ClassId} : or_ok PRD kA GG o_jArr_fill1_v63_0 := by
  refine or_mk fun A ta ws vs hD hth hl => ?_
  intro t2 k2
  have nf0 : fc_1 PRD (20, [0, 2], [8, -1, -1, 0]) ws (vs) := by
    refine ⟨nf_in hl rfl, sgq_16 ?_⟩
    · show ∀ j : Nat, (j : Int) < v_iv (n_v vs 2) + 0 → (-1) ≤ w_el ws (v_ad (n_v vs 0)) j ∧ w_el ws (v_ad (n_v vs 0)) j ≤ (-1)
      intro j hj
      exfalso; omega
  refine ⟨(fun _ h => (by cases h)), [], trivial, ?_, (fun _ h => (by cases h))⟩
  rw [List.append_nil]
  exact List.forall_mem_cons.mpr ⟨⟨show (20 : Nat) < 100 from by decide, nf0⟩, (fun _ h => (by cases h))⟩
def o_jArr_fill1_v63_1 : or_T := (5, 4, [], [], [], [], [(24, [0, 0], [])], [], [])
theorem oo_jArr_fill1_v63_1 {kA : Nat → ClassId} : or_ok PRD kA GG o_jArr_fill1_v63_1 := by
  refine or_mk fun A ta ws vs hD hth hl => ?_
  have nf0 : fc_1 PRD (24, [0, 0], []) ws (vs) := by
    refine ⟨nf_in hl rfl, sgq_1 ?_⟩
    · show n_v vs 0 = n_v vs 0
      first | rfl | simp only [true_and]
  refine ⟨(fun _ h => (by cases h)), [], trivial, ?_, (fun _ h => (by cases h))⟩
  rw [List.append_nil]
  exact List.forall_mem_cons.mpr ⟨⟨show (24 : Nat) < 100 from by decide, nf0⟩, (fun _ h => (by cases h))⟩
def o_jArr_fill1_v63_2 : or_T := (20, 6, [(1, (0, -1, -1, [])), (4, (0, 576, 576, [])), (5, (0, 576, 576, []))], [(7, [4, 5], [3]), (20, [0, 4], [8, -1, -1, 0])], [], [], [(20, [0, 1], [8, -1, -1, 577])], [], [])
theorem oo_jArr_fill1_v63_2 {kA : Nat → ClassId} : or_ok PRD kA GG o_jArr_fill1_v63_2 := by
  refine or_mk fun A ta ws vs hD hth hl => ?_
  intro t1 k1 t4 k4 t5 k5 f0 f1
  replace f0 := shm_2 f0
  replace f1 := shm_16 f1
  have nf0 : fc_1 PRD (20, [0, 1], [8, -1, -1, 577]) ws (vs) := by
    refine ⟨nf_in hl rfl, sgq_19 ?_⟩
    · show ∀ j : Nat, (j : Int) < v_iv (n_v vs 1) + 577 → (-1) ≤ w_el ws (v_ad (n_v vs 0)) j ∧ w_el ws (v_ad (n_v vs 0)) j ≤ (-1)
      intro j hj
      exact f1 j (by omega)
  refine ⟨(fun _ h => (by cases h)), [], trivial, ?_, (fun _ h => (by cases h))⟩
  rw [List.append_nil]
  exact List.forall_mem_cons.mpr ⟨⟨show (20 : Nat) < 100 from by decide, nf0⟩, (fun _ h => (by cases h))⟩
def o_jArr_fill1_v63_3 : or_T := (5, 7, [(3, (0, -1, -1, [])), (4, (0, 0, 575, [])), (5, (0, 576, 576, [])), (6, (0, 1, 576, []))], [(6, [6, 4], [1]), (24, [0, 2], []), (100, [2, 4, 3], []), (7, [4, 5], [2]), (20, [0, 4], [8, -1, -1, 0])], [], [], [(20, [0, 6], [8, -1, -1, 0])], [], [(6, 4, 1, 1)])
theorem oo_jArr_fill1_v63_3 {kA : Nat → ClassId} : or_ok PRD kA GG o_jArr_fill1_v63_3 := by
  refine or_mk fun A ta ws vs hD hth hl => ?_
  intro t3 k3 t4 k4 t5 k5 t6 k6 d0 f0 f1 ta1 w1 le1 s1 f3 f4
  replace f0 := shm_4 f0
  replace f1 := shm_5 f1
  have s1 : (∀ b j, w_el ws b j = if b = v_ad (n_v vs 2) ∧ j = (v_iv (n_v vs 4)).toNat then v_iv (n_v vs 3) else w_el w1 b j) ∧ ∀ b k, w_fd ws b k = w_fd w1 b k := s1.2
  replace f3 := shm_6 f3
  replace f4 := shm_16 f4
  rw [← f1] at s1
  have nf0 : fc_1 PRD (20, [0, 6], [8, -1, -1, 0]) ws (vs) := by
    refine ⟨nf_in hl rfl, sgq_16 ?_⟩
    · show ∀ j : Nat, (j : Int) < v_iv (n_v vs 6) + 0 → (-1) ≤ w_el ws (v_ad (n_v vs 0)) j ∧ w_el ws (v_ad (n_v vs 0)) j ≤ (-1)
      intro j hj
      by_cases hji : j = (v_iv (n_v vs 4)).toNat
      · rw [s1.1, if_pos ⟨rfl, hji⟩]; first | (constructor <;> omega) | (exfalso; omega)
      · rw [s1.1, if_neg (fun e => hji e.2)]; exact f4 j (by omega)
  refine ⟨(fun _ h => (by cases h)), [], trivial, ?_, (fun _ h => (by cases h))⟩
  rw [List.append_nil]
  exact List.forall_mem_cons.mpr ⟨⟨show (20 : Nat) < 100 from by decide, nf0⟩, (fun _ h => (by cases h))⟩
def n_jArr_fill1_v63_an : List an_T := [(5, [(0, (2, 0, 0, [60])), (1, (0, -1, -1, [])), (2, (0, 0, 576, [])), (3, (0, 576, 576, []))], [], (0, 0), [(0, 0, 99995), (1, 4, 576), (0, 0, 100000)], [], [], [(2, 0, 0, [60]), (0, -1, -1, [])], 0, [], [(20, [0, 4], [8, -1, -1, 0]), (24, [0, 2], [])])]
def t_jArr_fill1_v63_ct : ct_L := []
set_option maxRecDepth 100000 in
theorem c_jArr_fill1_v63 {l : Launch} {D : va_G} {kA : Nat → ClassId} : ct_ok PRD l D kA GG y_jArr_fill1 z_jArr_fill1 e_jArr_fill1_v63 := chk_all_ok (FT := []) (PT := []) (CT := t_jArr_fill1_v63_ct) (KT := []) (NT := []) (AN := n_jArr_fill1_v63_an) (OT := [o_jArr_fill1_v63_0, o_jArr_fill1_v63_1, o_jArr_fill1_v63_2, o_jArr_fill1_v63_3]) 3 200 (List.forall_mem_cons.mpr ⟨oo_jArr_fill1_v63_0, List.forall_mem_cons.mpr ⟨oo_jArr_fill1_v63_1, List.forall_mem_cons.mpr ⟨oo_jArr_fill1_v63_2, List.forall_mem_cons.mpr ⟨oo_jArr_fill1_v63_3, List.forall_mem_nil _⟩⟩⟩⟩) (by decide +kernel) ⟨List.forall_mem_nil _, List.forall_mem_nil _, List.forall_mem_nil _, List.forall_mem_nil _, List.forall_mem_nil _, GG_pl⟩ (by decide +kernel)
def e_jArr_fill1_v64 : en_T := ([(2, 0, 0, [88]), (0, -1, -1, [])], none, false, 1, 0, 0, [], [], (309485009821345068724781056, [], [], [(20, [0, 1], [8, -1, -1, 145])], []))
def o_jArr_fill1_v64_0 : or_T := (5, 4, [(2, (0, 0, 0, []))], [], [], [], [(20, [0, 2], [8, -1, -1, 0])], [], [])
theorem oo_jArr_fill1_v64_0 {kA : Nat → ClassId} : or_ok PRD kA GG o_jArr_fill1_v64_0 := by
  refine or_mk fun A ta ws vs hD hth hl => ?_
  intro t2 k2
  have nf0 : fc_1 PRD (20, [0, 2], [8, -1, -1, 0]) ws (vs) := by
    refine ⟨nf_in hl rfl, sgq_16 ?_⟩
    · show ∀ j : Nat, (j : Int) < v_iv (n_v vs 2) + 0 → (-1) ≤ w_el ws (v_ad (n_v vs 0)) j ∧ w_el ws (v_ad (n_v vs 0)) j ≤ (-1)
      intro j hj
      exfalso; omega
  refine ⟨(fun _ h => (by cases h)), [], trivial, ?_, (fun _ h => (by cases h))⟩
  rw [List.append_nil]
  exact List.forall_mem_cons.mpr ⟨⟨show (20 : Nat) < 100 from by decide, nf0⟩, (fun _ h => (by cases h))⟩
def o_jArr_fill1_v64_1 : or_T := (5, 4, [], [], [], [], [(24, [0, 0], [])], [], [])
theorem oo_jArr_fill1_v64_1 {kA : Nat → ClassId} : or_ok PRD kA GG o_jArr_fill1_v64_1 := by
  refine or_mk fun A ta ws vs hD hth hl => ?_
  have nf0 : fc_1 PRD (24, [0, 0], []) ws (vs) := by
    refine ⟨nf_in hl rfl, sgq_1 ?_⟩
    · show n_v vs 0 = n_v vs 0
      first | rfl | simp only [true_and]
  refine ⟨(fun _ h => (by cases h)), [], trivial, ?_, (fun _ h => (by cases h))⟩
  rw [List.append_nil]
  exact List.forall_mem_cons.mpr ⟨⟨show (24 : Nat) < 100 from by decide, nf0⟩, (fun _ h => (by cases h))⟩
def o_jArr_fill1_v64_2 : or_T := (20, 6, [(1, (0, -1, -1, [])), (4, (0, 144, 144, [])), (5, (0, 144, 144, []))], [(7, [4, 5], [3]), (20, [0, 4], [8, -1, -1, 0])], [], [], [(20, [0, 1], [8, -1, -1, 145])], [], [])
theorem oo_jArr_fill1_v64_2 {kA : Nat → ClassId} : or_ok PRD kA GG o_jArr_fill1_v64_2 := by
  refine or_mk fun A ta ws vs hD hth hl => ?_
  intro t1 k1 t4 k4 t5 k5 f0 f1
  replace f0 := shm_2 f0
  replace f1 := shm_16 f1
  have nf0 : fc_1 PRD (20, [0, 1], [8, -1, -1, 145]) ws (vs) := by
    refine ⟨nf_in hl rfl, sgq_31 ?_⟩
    · show ∀ j : Nat, (j : Int) < v_iv (n_v vs 1) + 145 → (-1) ≤ w_el ws (v_ad (n_v vs 0)) j ∧ w_el ws (v_ad (n_v vs 0)) j ≤ (-1)
      intro j hj
      exact f1 j (by omega)
  refine ⟨(fun _ h => (by cases h)), [], trivial, ?_, (fun _ h => (by cases h))⟩
  rw [List.append_nil]
  exact List.forall_mem_cons.mpr ⟨⟨show (20 : Nat) < 100 from by decide, nf0⟩, (fun _ h => (by cases h))⟩
def o_jArr_fill1_v64_3 : or_T := (5, 7, [(3, (0, -1, -1, [])), (4, (0, 0, 143, [])), (5, (0, 144, 144, [])), (6, (0, 1, 144, []))], [(6, [6, 4], [1]), (24, [0, 2], []), (100, [2, 4, 3], []), (7, [4, 5], [2]), (20, [0, 4], [8, -1, -1, 0])], [], [], [(20, [0, 6], [8, -1, -1, 0])], [], [(6, 4, 1, 1)])
theorem oo_jArr_fill1_v64_3 {kA : Nat → ClassId} : or_ok PRD kA GG o_jArr_fill1_v64_3 := by
  refine or_mk fun A ta ws vs hD hth hl => ?_
  intro t3 k3 t4 k4 t5 k5 t6 k6 d0 f0 f1 ta1 w1 le1 s1 f3 f4
  replace f0 := shm_4 f0
  replace f1 := shm_5 f1
  have s1 : (∀ b j, w_el ws b j = if b = v_ad (n_v vs 2) ∧ j = (v_iv (n_v vs 4)).toNat then v_iv (n_v vs 3) else w_el w1 b j) ∧ ∀ b k, w_fd ws b k = w_fd w1 b k := s1.2
  replace f3 := shm_6 f3
  replace f4 := shm_16 f4
  rw [← f1] at s1
  have nf0 : fc_1 PRD (20, [0, 6], [8, -1, -1, 0]) ws (vs) := by
    refine ⟨nf_in hl rfl, sgq_16 ?_⟩
    · show ∀ j : Nat, (j : Int) < v_iv (n_v vs 6) + 0 → (-1) ≤ w_el ws (v_ad (n_v vs 0)) j ∧ w_el ws (v_ad (n_v vs 0)) j ≤ (-1)
      intro j hj
      by_cases hji : j = (v_iv (n_v vs 4)).toNat
      · rw [s1.1, if_pos ⟨rfl, hji⟩]; first | (constructor <;> omega) | (exfalso; omega)
      · rw [s1.1, if_neg (fun e => hji e.2)]; exact f4 j (by omega)
  refine ⟨(fun _ h => (by cases h)), [], trivial, ?_, (fun _ h => (by cases h))⟩
  rw [List.append_nil]
  exact List.forall_mem_cons.mpr ⟨⟨show (20 : Nat) < 100 from by decide, nf0⟩, (fun _ h => (by cases h))⟩
def n_jArr_fill1_v64_an : List an_T := [(5, [(0, (2, 0, 0, [88])), (1, (0, -1, -1, [])), (2, (0, 0, 144, [])), (3, (0, 144, 144, []))], [], (0, 0), [(0, 0, 99995), (1, 4, 144), (0, 0, 100000)], [], [], [(2, 0, 0, [88]), (0, -1, -1, [])], 0, [], [(20, [0, 4], [8, -1, -1, 0]), (24, [0, 2], [])])]
def t_jArr_fill1_v64_ct : ct_L := []
set_option maxRecDepth 100000 in
theorem c_jArr_fill1_v64 {l : Launch} {D : va_G} {kA : Nat → ClassId} : ct_ok PRD l D kA GG y_jArr_fill1 z_jArr_fill1 e_jArr_fill1_v64 := chk_all_ok (FT := []) (PT := []) (CT := t_jArr_fill1_v64_ct) (KT := []) (NT := []) (AN := n_jArr_fill1_v64_an) (OT := [o_jArr_fill1_v64_0, o_jArr_fill1_v64_1, o_jArr_fill1_v64_2, o_jArr_fill1_v64_3]) 3 200 (List.forall_mem_cons.mpr ⟨oo_jArr_fill1_v64_0, List.forall_mem_cons.mpr ⟨oo_jArr_fill1_v64_1, List.forall_mem_cons.mpr ⟨oo_jArr_fill1_v64_2, List.forall_mem_cons.mpr ⟨oo_jArr_fill1_v64_3, List.forall_mem_nil _⟩⟩⟩⟩) (by decide +kernel) ⟨List.forall_mem_nil _, List.forall_mem_nil _, List.forall_mem_nil _, List.forall_mem_nil _, List.forall_mem_nil _, GG_pl⟩ (by decide +kernel)
def e_jArr_fill1_v65 : en_T := ([(2, 0, 0, [148]), (0, -1, -1, [])], none, false, 1, 0, 0, [], [], (356811923176489970264571492362373784095686656, [], [], [(20, [0, 1], [8, -1, -1, 145])], []))
def o_jArr_fill1_v65_0 : or_T := (5, 4, [(2, (0, 0, 0, []))], [], [], [], [(20, [0, 2], [8, -1, -1, 0])], [], [])
theorem oo_jArr_fill1_v65_0 {kA : Nat → ClassId} : or_ok PRD kA GG o_jArr_fill1_v65_0 := by
  refine or_mk fun A ta ws vs hD hth hl => ?_
  intro t2 k2
  have nf0 : fc_1 PRD (20, [0, 2], [8, -1, -1, 0]) ws (vs) := by
    refine ⟨nf_in hl rfl, sgq_16 ?_⟩
    · show ∀ j : Nat, (j : Int) < v_iv (n_v vs 2) + 0 → (-1) ≤ w_el ws (v_ad (n_v vs 0)) j ∧ w_el ws (v_ad (n_v vs 0)) j ≤ (-1)
      intro j hj
      exfalso; omega
  refine ⟨(fun _ h => (by cases h)), [], trivial, ?_, (fun _ h => (by cases h))⟩
  rw [List.append_nil]
  exact List.forall_mem_cons.mpr ⟨⟨show (20 : Nat) < 100 from by decide, nf0⟩, (fun _ h => (by cases h))⟩
def o_jArr_fill1_v65_1 : or_T := (5, 4, [], [], [], [], [(24, [0, 0], [])], [], [])
theorem oo_jArr_fill1_v65_1 {kA : Nat → ClassId} : or_ok PRD kA GG o_jArr_fill1_v65_1 := by
  refine or_mk fun A ta ws vs hD hth hl => ?_
  have nf0 : fc_1 PRD (24, [0, 0], []) ws (vs) := by
    refine ⟨nf_in hl rfl, sgq_1 ?_⟩
    · show n_v vs 0 = n_v vs 0
      first | rfl | simp only [true_and]
  refine ⟨(fun _ h => (by cases h)), [], trivial, ?_, (fun _ h => (by cases h))⟩
  rw [List.append_nil]
  exact List.forall_mem_cons.mpr ⟨⟨show (24 : Nat) < 100 from by decide, nf0⟩, (fun _ h => (by cases h))⟩
def o_jArr_fill1_v65_2 : or_T := (20, 6, [(1, (0, -1, -1, [])), (4, (0, 144, 144, [])), (5, (0, 144, 144, []))], [(7, [4, 5], [3]), (20, [0, 4], [8, -1, -1, 0])], [], [], [(20, [0, 1], [8, -1, -1, 145])], [], [])
theorem oo_jArr_fill1_v65_2 {kA : Nat → ClassId} : or_ok PRD kA GG o_jArr_fill1_v65_2 := by
  refine or_mk fun A ta ws vs hD hth hl => ?_
  intro t1 k1 t4 k4 t5 k5 f0 f1
  replace f0 := shm_2 f0
  replace f1 := shm_16 f1
  have nf0 : fc_1 PRD (20, [0, 1], [8, -1, -1, 145]) ws (vs) := by
    refine ⟨nf_in hl rfl, sgq_31 ?_⟩
    · show ∀ j : Nat, (j : Int) < v_iv (n_v vs 1) + 145 → (-1) ≤ w_el ws (v_ad (n_v vs 0)) j ∧ w_el ws (v_ad (n_v vs 0)) j ≤ (-1)
      intro j hj
      exact f1 j (by omega)
  refine ⟨(fun _ h => (by cases h)), [], trivial, ?_, (fun _ h => (by cases h))⟩
  rw [List.append_nil]
  exact List.forall_mem_cons.mpr ⟨⟨show (20 : Nat) < 100 from by decide, nf0⟩, (fun _ h => (by cases h))⟩
def o_jArr_fill1_v65_3 : or_T := (5, 7, [(3, (0, -1, -1, [])), (4, (0, 0, 143, [])), (5, (0, 144, 144, [])), (6, (0, 1, 144, []))], [(6, [6, 4], [1]), (24, [0, 2], []), (100, [2, 4, 3], []), (7, [4, 5], [2]), (20, [0, 4], [8, -1, -1, 0])], [], [], [(20, [0, 6], [8, -1, -1, 0])], [], [(6, 4, 1, 1)])
theorem oo_jArr_fill1_v65_3 {kA : Nat → ClassId} : or_ok PRD kA GG o_jArr_fill1_v65_3 := by
  refine or_mk fun A ta ws vs hD hth hl => ?_
  intro t3 k3 t4 k4 t5 k5 t6 k6 d0 f0 f1 ta1 w1 le1 s1 f3 f4
  replace f0 := shm_4 f0
  replace f1 := shm_5 f1
  have s1 : (∀ b j, w_el ws b j = if b = v_ad (n_v vs 2) ∧ j = (v_iv (n_v vs 4)).toNat then v_iv (n_v vs 3) else w_el w1 b j) ∧ ∀ b k, w_fd ws b k = w_fd w1 b k := s1.2
  replace f3 := shm_6 f3
  replace f4 := shm_16 f4
  rw [← f1] at s1
  have nf0 : fc_1 PRD (20, [0, 6], [8, -1, -1, 0]) ws (vs) := by
    refine ⟨nf_in hl rfl, sgq_16 ?_⟩
    · show ∀ j : Nat, (j : Int) < v_iv (n_v vs 6) + 0 → (-1) ≤ w_el ws (v_ad (n_v vs 0)) j ∧ w_el ws (v_ad (n_v vs 0)) j ≤ (-1)
      intro j hj
      by_cases hji : j = (v_iv (n_v vs 4)).toNat
      · rw [s1.1, if_pos ⟨rfl, hji⟩]; first | (constructor <;> omega) | (exfalso; omega)
      · rw [s1.1, if_neg (fun e => hji e.2)]; exact f4 j (by omega)
  refine ⟨(fun _ h => (by cases h)), [], trivial, ?_, (fun _ h => (by cases h))⟩
  rw [List.append_nil]
  exact List.forall_mem_cons.mpr ⟨⟨show (20 : Nat) < 100 from by decide, nf0⟩, (fun _ h => (by cases h))⟩
def n_jArr_fill1_v65_an : List an_T := [(5, [(0, (2, 0, 0, [148])), (1, (0, -1, -1, [])), (2, (0, 0, 144, [])), (3, (0, 144, 144, []))], [], (0, 0), [(0, 0, 99995), (1, 4, 144), (0, 0, 100000)], [], [], [(2, 0, 0, [148]), (0, -1, -1, [])], 0, [], [(20, [0, 4], [8, -1, -1, 0]), (24, [0, 2], [])])]
def t_jArr_fill1_v65_ct : ct_L := []
set_option maxRecDepth 100000 in
theorem c_jArr_fill1_v65 {l : Launch} {D : va_G} {kA : Nat → ClassId} : ct_ok PRD l D kA GG y_jArr_fill1 z_jArr_fill1 e_jArr_fill1_v65 := chk_all_ok (FT := []) (PT := []) (CT := t_jArr_fill1_v65_ct) (KT := []) (NT := []) (AN := n_jArr_fill1_v65_an) (OT := [o_jArr_fill1_v65_0, o_jArr_fill1_v65_1, o_jArr_fill1_v65_2, o_jArr_fill1_v65_3]) 3 200 (List.forall_mem_cons.mpr ⟨oo_jArr_fill1_v65_0, List.forall_mem_cons.mpr ⟨oo_jArr_fill1_v65_1, List.forall_mem_cons.mpr ⟨oo_jArr_fill1_v65_2, List.forall_mem_cons.mpr ⟨oo_jArr_fill1_v65_3, List.forall_mem_nil _⟩⟩⟩⟩) (by decide +kernel) ⟨List.forall_mem_nil _, List.forall_mem_nil _, List.forall_mem_nil _, List.forall_mem_nil _, List.forall_mem_nil _, GG_pl⟩ (by decide +kernel)
def e_jArr_fill1_v66 : en_T := ([(2, 0, 0, [293]), (0, -1, -1, [])], none, false, 1, 0, 0, [], [], (15914343565113172548972231940698266883214596825515126958094847260581103904401068017057792, [], [], [(20, [0, 1], [8, -1, -1, 145])], []))
def o_jArr_fill1_v66_0 : or_T := (5, 4, [(2, (0, 0, 0, []))], [], [], [], [(20, [0, 2], [8, -1, -1, 0])], [], [])
theorem oo_jArr_fill1_v66_0 {kA : Nat → ClassId} : or_ok PRD kA GG o_jArr_fill1_v66_0 := by
  refine or_mk fun A ta ws vs hD hth hl => ?_
  intro t2 k2
  have nf0 : fc_1 PRD (20, [0, 2], [8, -1, -1, 0]) ws (vs) := by
    refine ⟨nf_in hl rfl, sgq_16 ?_⟩
    · show ∀ j : Nat, (j : Int) < v_iv (n_v vs 2) + 0 → (-1) ≤ w_el ws (v_ad (n_v vs 0)) j ∧ w_el ws (v_ad (n_v vs 0)) j ≤ (-1)
      intro j hj
      exfalso; omega
  refine ⟨(fun _ h => (by cases h)), [], trivial, ?_, (fun _ h => (by cases h))⟩
  rw [List.append_nil]
  exact List.forall_mem_cons.mpr ⟨⟨show (20 : Nat) < 100 from by decide, nf0⟩, (fun _ h => (by cases h))⟩
def o_jArr_fill1_v66_1 : or_T := (5, 4, [], [], [], [], [(24, [0, 0], [])], [], [])
theorem oo_jArr_fill1_v66_1 {kA : Nat → ClassId} : or_ok PRD kA GG o_jArr_fill1_v66_1 := by
  refine or_mk fun A ta ws vs hD hth hl => ?_
  have nf0 : fc_1 PRD (24, [0, 0], []) ws (vs) := by
    refine ⟨nf_in hl rfl, sgq_1 ?_⟩
    · show n_v vs 0 = n_v vs 0
      first | rfl | simp only [true_and]
  refine ⟨(fun _ h => (by cases h)), [], trivial, ?_, (fun _ h => (by cases h))⟩
  rw [List.append_nil]
  exact List.forall_mem_cons.mpr ⟨⟨show (24 : Nat) < 100 from by decide, nf0⟩, (fun _ h => (by cases h))⟩
def o_jArr_fill1_v66_2 : or_T := (20, 6, [(1, (0, -1, -1, [])), (4, (0, 144, 144, [])), (5, (0, 144, 144, []))], [(7, [4, 5], [3]), (20, [0, 4], [8, -1, -1, 0])], [], [], [(20, [0, 1], [8, -1, -1, 145])], [], [])
theorem oo_jArr_fill1_v66_2 {kA : Nat → ClassId} : or_ok PRD kA GG o_jArr_fill1_v66_2 := by
  refine or_mk fun A ta ws vs hD hth hl => ?_
  intro t1 k1 t4 k4 t5 k5 f0 f1
  replace f0 := shm_2 f0
  replace f1 := shm_16 f1
  have nf0 : fc_1 PRD (20, [0, 1], [8, -1, -1, 145]) ws (vs) := by
    refine ⟨nf_in hl rfl, sgq_31 ?_⟩
    · show ∀ j : Nat, (j : Int) < v_iv (n_v vs 1) + 145 → (-1) ≤ w_el ws (v_ad (n_v vs 0)) j ∧ w_el ws (v_ad (n_v vs 0)) j ≤ (-1)
      intro j hj
      exact f1 j (by omega)
  refine ⟨(fun _ h => (by cases h)), [], trivial, ?_, (fun _ h => (by cases h))⟩
  rw [List.append_nil]
  exact List.forall_mem_cons.mpr ⟨⟨show (20 : Nat) < 100 from by decide, nf0⟩, (fun _ h => (by cases h))⟩
def o_jArr_fill1_v66_3 : or_T := (5, 7, [(3, (0, -1, -1, [])), (4, (0, 0, 143, [])), (5, (0, 144, 144, [])), (6, (0, 1, 144, []))], [(6, [6, 4], [1]), (24, [0, 2], []), (100, [2, 4, 3], []), (7, [4, 5], [2]), (20, [0, 4], [8, -1, -1, 0])], [], [], [(20, [0, 6], [8, -1, -1, 0])], [], [(6, 4, 1, 1)])
theorem oo_jArr_fill1_v66_3 {kA : Nat → ClassId} : or_ok PRD kA GG o_jArr_fill1_v66_3 := by
  refine or_mk fun A ta ws vs hD hth hl => ?_
  intro t3 k3 t4 k4 t5 k5 t6 k6 d0 f0 f1 ta1 w1 le1 s1 f3 f4
  replace f0 := shm_4 f0
  replace f1 := shm_5 f1
  have s1 : (∀ b j, w_el ws b j = if b = v_ad (n_v vs 2) ∧ j = (v_iv (n_v vs 4)).toNat then v_iv (n_v vs 3) else w_el w1 b j) ∧ ∀ b k, w_fd ws b k = w_fd w1 b k := s1.2
  replace f3 := shm_6 f3
  replace f4 := shm_16 f4
  rw [← f1] at s1
  have nf0 : fc_1 PRD (20, [0, 6], [8, -1, -1, 0]) ws (vs) := by
    refine ⟨nf_in hl rfl, sgq_16 ?_⟩
    · show ∀ j : Nat, (j : Int) < v_iv (n_v vs 6) + 0 → (-1) ≤ w_el ws (v_ad (n_v vs 0)) j ∧ w_el ws (v_ad (n_v vs 0)) j ≤ (-1)
      intro j hj
      by_cases hji : j = (v_iv (n_v vs 4)).toNat
      · rw [s1.1, if_pos ⟨rfl, hji⟩]; first | (constructor <;> omega) | (exfalso; omega)
      · rw [s1.1, if_neg (fun e => hji e.2)]; exact f4 j (by omega)
  refine ⟨(fun _ h => (by cases h)), [], trivial, ?_, (fun _ h => (by cases h))⟩
  rw [List.append_nil]
  exact List.forall_mem_cons.mpr ⟨⟨show (20 : Nat) < 100 from by decide, nf0⟩, (fun _ h => (by cases h))⟩
def n_jArr_fill1_v66_an : List an_T := [(5, [(0, (2, 0, 0, [293])), (1, (0, -1, -1, [])), (2, (0, 0, 144, [])), (3, (0, 144, 144, []))], [], (0, 0), [(0, 0, 99995), (1, 4, 144), (0, 0, 100000)], [], [], [(2, 0, 0, [293]), (0, -1, -1, [])], 0, [], [(20, [0, 4], [8, -1, -1, 0]), (24, [0, 2], [])])]
def t_jArr_fill1_v66_ct : ct_L := []
set_option maxRecDepth 100000 in
theorem c_jArr_fill1_v66 {l : Launch} {D : va_G} {kA : Nat → ClassId} : ct_ok PRD l D kA GG y_jArr_fill1 z_jArr_fill1 e_jArr_fill1_v66 := chk_all_ok (FT := []) (PT := []) (CT := t_jArr_fill1_v66_ct) (KT := []) (NT := []) (AN := n_jArr_fill1_v66_an) (OT := [o_jArr_fill1_v66_0, o_jArr_fill1_v66_1, o_jArr_fill1_v66_2, o_jArr_fill1_v66_3]) 3 200 (List.forall_mem_cons.mpr ⟨oo_jArr_fill1_v66_0, List.forall_mem_cons.mpr ⟨oo_jArr_fill1_v66_1, List.forall_mem_cons.mpr ⟨oo_jArr_fill1_v66_2, List.forall_mem_cons.mpr ⟨oo_jArr_fill1_v66_3, List.forall_mem_nil _⟩⟩⟩⟩) (by decide +kernel) ⟨List.forall_mem_nil _, List.forall_mem_nil _, List.forall_mem_nil _, List.forall_mem_nil _, List.forall_mem_nil _, GG_pl⟩ (by decide +kernel)
def e_jMath_max1_v67 : en_T := ([(0, -1000000, -1000000, []), (0, -67108860, 67108868, [])], some (0, -1000000, 67108868, []), true, 1, 0, 0, [], [], (0, [], [], [(23, [0, 2], [0, 1, -1]), (23, [1, 2], [0, 1, -1]), (20, [2, 0, 1], [50, 0, 0, 3, 6, 1, 2, 1, 0, 1, 1, 1, 2, 1, 0, 1, 2])], []))
set_option maxHeartbeats 4000000 in
theorem vc_jMath_max1_v67_0_0 (x0 : Int) (x1 : Int) (k0 : (-1000000) ≤ x0 ∧ x0 ≤ (-1000000)) (k1 : (-999999) ≤ x1 ∧ x1 ≤ 67108868) (f0 : x0 < x1) : 1 * x0 + ((-1) * x1 + 0) ≤ 0 := by
  first | assumption | omega | grind
set_option maxHeartbeats 4000000 in
theorem vc_jMath_max1_v67_0_1 (x0 : Int) (x1 : Int) (k0 : (-1000000) ≤ x0 ∧ x0 ≤ (-1000000)) (k1 : (-999999) ≤ x1 ∧ x1 ≤ 67108868) (f0 : x0 < x1) : 1 * x1 + ((-1) * x1 + 0) ≤ 0 := by
  first | assumption | omega | grind
set_option maxHeartbeats 4000000 in
theorem vc_jMath_max1_v67_0_2 (x0 : Int) (x1 : Int) (k0 : (-1000000) ≤ x0 ∧ x0 ≤ (-1000000)) (k1 : (-999999) ≤ x1 ∧ x1 ≤ 67108868) (f0 : x0 < x1) : (x1 = x0) ∨ (x1 = x1) := by
  first | assumption | omega | grind
def o_jMath_max1_v67_0 : or_T := (10, 2, [(0, (0, -1000000, -1000000, [])), (1, (0, -999999, 67108868, []))], [(7, [0, 1], [2])], [], [], [(23, [0, 1], [0, 1, -1]), (23, [1, 1], [0, 1, -1]), (20, [1, 0, 1], [50, 0, 0, 3, 6, 1, 2, 1, 0, 1, 1, 1, 2, 1, 0, 1, 2])], [], [])
theorem oo_jMath_max1_v67_0 {kA : Nat → ClassId} : or_ok PRD kA GG o_jMath_max1_v67_0 := by
  refine or_mk fun A ta ws vs hD hth hl => ?_
  intro t0 k0 t1 k1 f0
  have nf0 : fc_1 PRD (23, [0, 1], [0, 1, -1]) ws (vs) := ⟨nf_in hl rfl, sgq_7 (vc_jMath_max1_v67_0_0 (v_iv (n_v vs 0)) (v_iv (n_v vs 1)) k0 k1 (shm_6 f0))⟩
  have nf1 : fc_1 PRD (23, [1, 1], [0, 1, -1]) ws (vs) := ⟨nf_in hl rfl, sgq_8 (vc_jMath_max1_v67_0_1 (v_iv (n_v vs 0)) (v_iv (n_v vs 1)) k0 k1 (shm_6 f0))⟩
  have nf2 : fc_1 PRD (20, [1, 0, 1], [50, 0, 0, 3, 6, 1, 2, 1, 0, 1, 1, 1, 2, 1, 0, 1, 2]) ws (vs) := ⟨nf_in hl rfl, sgq_28 (vc_jMath_max1_v67_0_2 (v_iv (n_v vs 0)) (v_iv (n_v vs 1)) k0 k1 (shm_6 f0))⟩
  refine ⟨(fun _ h => (by cases h)), [], trivial, ?_, (fun _ h => (by cases h))⟩
  rw [List.append_nil]
  exact List.forall_mem_cons.mpr ⟨⟨show (23 : Nat) < 100 from by decide, nf0⟩, List.forall_mem_cons.mpr ⟨⟨show (23 : Nat) < 100 from by decide, nf1⟩, List.forall_mem_cons.mpr ⟨⟨show (20 : Nat) < 100 from by decide, nf2⟩, (fun _ h => (by cases h))⟩⟩⟩
set_option maxHeartbeats 4000000 in
theorem vc_jMath_max1_v67_1_0 (x0 : Int) (x1 : Int) (k0 : (-1000000) ≤ x0 ∧ x0 ≤ (-1000000)) (k1 : (-67108860) ≤ x1 ∧ x1 ≤ (-1000000)) (f0 : x1 ≤ x0) : 1 * x0 + ((-1) * x0 + 0) ≤ 0 := by
  first | assumption | omega | grind
set_option maxHeartbeats 4000000 in
theorem vc_jMath_max1_v67_1_1 (x0 : Int) (x1 : Int) (k0 : (-1000000) ≤ x0 ∧ x0 ≤ (-1000000)) (k1 : (-67108860) ≤ x1 ∧ x1 ≤ (-1000000)) (f0 : x1 ≤ x0) : 1 * x1 + ((-1) * x0 + 0) ≤ 0 := by
  first | assumption | omega | grind
set_option maxHeartbeats 4000000 in
theorem vc_jMath_max1_v67_1_2 (x0 : Int) (x1 : Int) (k0 : (-1000000) ≤ x0 ∧ x0 ≤ (-1000000)) (k1 : (-67108860) ≤ x1 ∧ x1 ≤ (-1000000)) (f0 : x1 ≤ x0) : (x0 = x0) ∨ (x0 = x1) := by
  first | assumption | omega | grind
def o_jMath_max1_v67_1 : or_T := (10, 2, [(0, (0, -1000000, -1000000, [])), (1, (0, -67108860, -1000000, []))], [(7, [0, 1], [3])], [], [], [(23, [0, 0], [0, 1, -1]), (23, [1, 0], [0, 1, -1]), (20, [0, 0, 1], [50, 0, 0, 3, 6, 1, 2, 1, 0, 1, 1, 1, 2, 1, 0, 1, 2])], [], [])
theorem oo_jMath_max1_v67_1 {kA : Nat → ClassId} : or_ok PRD kA GG o_jMath_max1_v67_1 := by
  refine or_mk fun A ta ws vs hD hth hl => ?_
  intro t0 k0 t1 k1 f0
  have nf0 : fc_1 PRD (23, [0, 0], [0, 1, -1]) ws (vs) := ⟨nf_in hl rfl, sgq_8 (vc_jMath_max1_v67_1_0 (v_iv (n_v vs 0)) (v_iv (n_v vs 1)) k0 k1 (shm_2 f0))⟩
  have nf1 : fc_1 PRD (23, [1, 0], [0, 1, -1]) ws (vs) := ⟨nf_in hl rfl, sgq_7 (vc_jMath_max1_v67_1_1 (v_iv (n_v vs 0)) (v_iv (n_v vs 1)) k0 k1 (shm_2 f0))⟩
  have nf2 : fc_1 PRD (20, [0, 0, 1], [50, 0, 0, 3, 6, 1, 2, 1, 0, 1, 1, 1, 2, 1, 0, 1, 2]) ws (vs) := ⟨nf_in hl rfl, sgq_29 (vc_jMath_max1_v67_1_2 (v_iv (n_v vs 0)) (v_iv (n_v vs 1)) k0 k1 (shm_2 f0))⟩
  refine ⟨(fun _ h => (by cases h)), [], trivial, ?_, (fun _ h => (by cases h))⟩
  rw [List.append_nil]
  exact List.forall_mem_cons.mpr ⟨⟨show (23 : Nat) < 100 from by decide, nf0⟩, List.forall_mem_cons.mpr ⟨⟨show (23 : Nat) < 100 from by decide, nf1⟩, List.forall_mem_cons.mpr ⟨⟨show (20 : Nat) < 100 from by decide, nf2⟩, (fun _ h => (by cases h))⟩⟩⟩
def n_jMath_max1_v67_an : List an_T := []
def t_jMath_max1_v67_ct : ct_L := []
set_option maxRecDepth 100000 in
theorem c_jMath_max1_v67 {l : Launch} {D : va_G} {kA : Nat → ClassId} : ct_ok PRD l D kA GG y_jMath_max1 z_jMath_max1 e_jMath_max1_v67 := chk_all_ok (FT := []) (PT := []) (CT := t_jMath_max1_v67_ct) (KT := []) (NT := []) (AN := n_jMath_max1_v67_an) (OT := [o_jMath_max1_v67_0, o_jMath_max1_v67_1]) 0 200 (List.forall_mem_cons.mpr ⟨oo_jMath_max1_v67_0, List.forall_mem_cons.mpr ⟨oo_jMath_max1_v67_1, List.forall_mem_nil _⟩⟩) (pl_Math rfl (by decide)) ⟨List.forall_mem_nil _, List.forall_mem_nil _, List.forall_mem_nil _, List.forall_mem_nil _, List.forall_mem_nil _, GG_pl⟩ (by decide +kernel)
def e_jMath_max1_v68 : en_T := ([(0, -1000000, 67108868, []), (0, -67108860, 67108868, [])], some (0, -1000000, 67108868, []), true, 1, 0, 0, [], [], (0, [], [], [(23, [0, 2], [0, 1, -1]), (23, [1, 2], [0, 1, -1]), (20, [2, 0, 1], [50, 0, 0, 3, 6, 1, 2, 1, 0, 1, 1, 1, 2, 1, 0, 1, 2])], []))
set_option maxHeartbeats 4000000 in
theorem vc_jMath_max1_v68_0_0 (x0 : Int) (x1 : Int) (k0 : (-1000000) ≤ x0 ∧ x0 ≤ 67108867) (k1 : (-999999) ≤ x1 ∧ x1 ≤ 67108868) (d0 : x1 + (-4294967296) ≤ x0 ∧ x0 ≤ x1 + (-1)) (f0 : x0 < x1) : 1 * x0 + ((-1) * x1 + 0) ≤ 0 := by
  first | assumption | omega | grind
set_option maxHeartbeats 4000000 in
theorem vc_jMath_max1_v68_0_1 (x0 : Int) (x1 : Int) (k0 : (-1000000) ≤ x0 ∧ x0 ≤ 67108867) (k1 : (-999999) ≤ x1 ∧ x1 ≤ 67108868) (d0 : x1 + (-4294967296) ≤ x0 ∧ x0 ≤ x1 + (-1)) (f0 : x0 < x1) : 1 * x1 + ((-1) * x1 + 0) ≤ 0 := by
  first | assumption | omega | grind
set_option maxHeartbeats 4000000 in
theorem vc_jMath_max1_v68_0_2 (x0 : Int) (x1 : Int) (k0 : (-1000000) ≤ x0 ∧ x0 ≤ 67108867) (k1 : (-999999) ≤ x1 ∧ x1 ≤ 67108868) (d0 : x1 + (-4294967296) ≤ x0 ∧ x0 ≤ x1 + (-1)) (f0 : x0 < x1) : (x1 = x0) ∨ (x1 = x1) := by
  first | assumption | omega | grind
def o_jMath_max1_v68_0 : or_T := (10, 2, [(0, (0, -1000000, 67108867, [])), (1, (0, -999999, 67108868, []))], [(7, [0, 1], [2])], [], [], [(23, [0, 1], [0, 1, -1]), (23, [1, 1], [0, 1, -1]), (20, [1, 0, 1], [50, 0, 0, 3, 6, 1, 2, 1, 0, 1, 1, 1, 2, 1, 0, 1, 2])], [], [(0, 1, -4294967296, -1)])
theorem oo_jMath_max1_v68_0 {kA : Nat → ClassId} : or_ok PRD kA GG o_jMath_max1_v68_0 := by
  refine or_mk fun A ta ws vs hD hth hl => ?_
  intro t0 k0 t1 k1 d0 f0
  have nf0 : fc_1 PRD (23, [0, 1], [0, 1, -1]) ws (vs) := ⟨nf_in hl rfl, sgq_7 (vc_jMath_max1_v68_0_0 (v_iv (n_v vs 0)) (v_iv (n_v vs 1)) k0 k1 d0 (shm_6 f0))⟩
  have nf1 : fc_1 PRD (23, [1, 1], [0, 1, -1]) ws (vs) := ⟨nf_in hl rfl, sgq_8 (vc_jMath_max1_v68_0_1 (v_iv (n_v vs 0)) (v_iv (n_v vs 1)) k0 k1 d0 (shm_6 f0))⟩
  have nf2 : fc_1 PRD (20, [1, 0, 1], [50, 0, 0, 3, 6, 1, 2, 1, 0, 1, 1, 1, 2, 1, 0, 1, 2]) ws (vs) := ⟨nf_in hl rfl, sgq_28 (vc_jMath_max1_v68_0_2 (v_iv (n_v vs 0)) (v_iv (n_v vs 1)) k0 k1 d0 (shm_6 f0))⟩
  refine ⟨(fun _ h => (by cases h)), [], trivial, ?_, (fun _ h => (by cases h))⟩
  rw [List.append_nil]
  exact List.forall_mem_cons.mpr ⟨⟨show (23 : Nat) < 100 from by decide, nf0⟩, List.forall_mem_cons.mpr ⟨⟨show (23 : Nat) < 100 from by decide, nf1⟩, List.forall_mem_cons.mpr ⟨⟨show (20 : Nat) < 100 from by decide, nf2⟩, (fun _ h => (by cases h))⟩⟩⟩
set_option maxHeartbeats 4000000 in
theorem vc_jMath_max1_v68_1_0 (x0 : Int) (x1 : Int) (k0 : (-1000000) ≤ x0 ∧ x0 ≤ 67108868) (k1 : (-67108860) ≤ x1 ∧ x1 ≤ 67108868) (d0 : x1 + 0 ≤ x0 ∧ x0 ≤ x1 + 4294967296) (f0 : x1 ≤ x0) : 1 * x0 + ((-1) * x0 + 0) ≤ 0 := by
  first | assumption | omega | grind
set_option maxHeartbeats 4000000 in
theorem vc_jMath_max1_v68_1_1 (x0 : Int) (x1 : Int) (k0 : (-1000000) ≤ x0 ∧ x0 ≤ 67108868) (k1 : (-67108860) ≤ x1 ∧ x1 ≤ 67108868) (d0 : x1 + 0 ≤ x0 ∧ x0 ≤ x1 + 4294967296) (f0 : x1 ≤ x0) : 1 * x1 + ((-1) * x0 + 0) ≤ 0 := by
  first | assumption | omega | grind
set_option maxHeartbeats 4000000 in
theorem vc_jMath_max1_v68_1_2 (x0 : Int) (x1 : Int) (k0 : (-1000000) ≤ x0 ∧ x0 ≤ 67108868) (k1 : (-67108860) ≤ x1 ∧ x1 ≤ 67108868) (d0 : x1 + 0 ≤ x0 ∧ x0 ≤ x1 + 4294967296) (f0 : x1 ≤ x0) : (x0 = x0) ∨ (x0 = x1) := by
  first | assumption | omega | grind
def o_jMath_max1_v68_1 : or_T := (10, 2, [(0, (0, -1000000, 67108868, [])), (1, (0, -67108860, 67108868, []))], [(7, [0, 1], [3])], [], [], [(23, [0, 0], [0, 1, -1]), (23, [1, 0], [0, 1, -1]), (20, [0, 0, 1], [50, 0, 0, 3, 6, 1, 2, 1, 0, 1, 1, 1, 2, 1, 0, 1, 2])], [], [(0, 1, 0, 4294967296)])
theorem oo_jMath_max1_v68_1 {kA : Nat → ClassId} : or_ok PRD kA GG o_jMath_max1_v68_1 := by
  refine or_mk fun A ta ws vs hD hth hl => ?_
  intro t0 k0 t1 k1 d0 f0
  have nf0 : fc_1 PRD (23, [0, 0], [0, 1, -1]) ws (vs) := ⟨nf_in hl rfl, sgq_8 (vc_jMath_max1_v68_1_0 (v_iv (n_v vs 0)) (v_iv (n_v vs 1)) k0 k1 d0 (shm_2 f0))⟩
  have nf1 : fc_1 PRD (23, [1, 0], [0, 1, -1]) ws (vs) := ⟨nf_in hl rfl, sgq_7 (vc_jMath_max1_v68_1_1 (v_iv (n_v vs 0)) (v_iv (n_v vs 1)) k0 k1 d0 (shm_2 f0))⟩
  have nf2 : fc_1 PRD (20, [0, 0, 1], [50, 0, 0, 3, 6, 1, 2, 1, 0, 1, 1, 1, 2, 1, 0, 1, 2]) ws (vs) := ⟨nf_in hl rfl, sgq_29 (vc_jMath_max1_v68_1_2 (v_iv (n_v vs 0)) (v_iv (n_v vs 1)) k0 k1 d0 (shm_2 f0))⟩
  refine ⟨(fun _ h => (by cases h)), [], trivial, ?_, (fun _ h => (by cases h))⟩
  rw [List.append_nil]
  exact List.forall_mem_cons.mpr ⟨⟨show (23 : Nat) < 100 from by decide, nf0⟩, List.forall_mem_cons.mpr ⟨⟨show (23 : Nat) < 100 from by decide, nf1⟩, List.forall_mem_cons.mpr ⟨⟨show (20 : Nat) < 100 from by decide, nf2⟩, (fun _ h => (by cases h))⟩⟩⟩
def n_jMath_max1_v68_an : List an_T := []
def t_jMath_max1_v68_ct : ct_L := []
set_option maxRecDepth 100000 in
theorem c_jMath_max1_v68 {l : Launch} {D : va_G} {kA : Nat → ClassId} : ct_ok PRD l D kA GG y_jMath_max1 z_jMath_max1 e_jMath_max1_v68 := chk_all_ok (FT := []) (PT := []) (CT := t_jMath_max1_v68_ct) (KT := []) (NT := []) (AN := n_jMath_max1_v68_an) (OT := [o_jMath_max1_v68_0, o_jMath_max1_v68_1]) 0 200 (List.forall_mem_cons.mpr ⟨oo_jMath_max1_v68_0, List.forall_mem_cons.mpr ⟨oo_jMath_max1_v68_1, List.forall_mem_nil _⟩⟩) (pl_Math rfl (by decide)) ⟨List.forall_mem_nil _, List.forall_mem_nil _, List.forall_mem_nil _, List.forall_mem_nil _, List.forall_mem_nil _, GG_pl⟩ (by decide +kernel)
def e_jMath_floorDiv1_v69 : en_T := ([(0, 1, 63, []), (0, 2, 126, [])], some (0, 0, 31, []), true, 1, 0, 0, [], [], (0, [], [], [(20, [1, 2, 0], [50, 0, 0, 0, 6, 6, 2, 1, 0, 1, 1, 1, 2]), (20, [0, 1, 2], [50, 0, 0, 0, 6, 4, 2, 1, 0, 0, 1, 4, 6, 6, 2, 1, 1, 1, 2, 1, 1])], []))
def o_jMath_floorDiv1_v69_0 : or_T := (22, 4, [(0, (0, 1, 63, [])), (1, (0, 2, 126, [])), (2, (0, 0, 31, [])), (3, (0, 0, 127, []))], [(8, [3], [3]), (16, [3, 0, 1], [2]), (4, [2, 0, 1], [])], [], [], [(20, [1, 2, 0], [50, 0, 0, 0, 6, 6, 2, 1, 0, 1, 1, 1, 2]), (20, [0, 1, 2], [50, 0, 0, 0, 6, 4, 2, 1, 0, 0, 1, 4, 6, 6, 2, 1, 1, 1, 2, 1, 1])], [], [])
theorem oo_jMath_floorDiv1_v69_0 {kA : Nat → ClassId} : or_ok PRD kA GG o_jMath_floorDiv1_v69_0 := by
  refine or_mk fun A ta ws vs hD hth hl => ?_
  intro t0 k0 t1 k1 t2 k2 t3 k3 f0 f1 f2
  replace f0 := shm_32 f0
  replace f1 := shm_33 f1
  replace f2 := shm_34 f2
  have fq2 : 10 ≤ v_iv (n_v vs 2) → 10 * v_iv (n_v vs 1) ≤ v_iv (n_v vs 0) := dv_ten f2 (by omega) (by omega)
  have g5 := fdv (x := v_iv (n_v vs 0)) (y := v_iv (n_v vs 1)) (q := v_iv (n_v vs 2)) (by assumption) (by omega)
  have g8 : v_iv (n_v vs 2) * v_iv (n_v vs 1) = v_iv (n_v vs 1) * v_iv (n_v vs 2) := Int.mul_comm _ _
  have g7 := xor_sg (n := v_iv (n_v vs 3)) (a := v_iv (n_v vs 0)) (b := v_iv (n_v vs 1)) (by assumption) (by omega) (by omega) (by omega)
  have nf0 : fc_1 PRD (20, [1, 2, 0], [50, 0, 0, 0, 6, 6, 2, 1, 0, 1, 1, 1, 2]) ws (vs) := by
    refine ⟨nf_in hl rfl, sgq_35 ?_⟩
    · show (v_iv (n_v vs 1) * v_iv (n_v vs 2)) ≤ v_iv (n_v vs 0)
      first | omega | grind
  have nf1 : fc_1 PRD (20, [0, 1, 2], [50, 0, 0, 0, 6, 4, 2, 1, 0, 0, 1, 4, 6, 6, 2, 1, 1, 1, 2, 1, 1]) ws (vs) := by
    refine ⟨nf_in hl rfl, sgq_36 ?_⟩
    · show (v_iv (n_v vs 0) + 1) ≤ ((v_iv (n_v vs 1) * v_iv (n_v vs 2)) + v_iv (n_v vs 1))
      first | omega | grind
  refine ⟨(fun _ h => (by cases h)), [], trivial, ?_, (fun _ h => (by cases h))⟩
  rw [List.append_nil]
  exact List.forall_mem_cons.mpr ⟨⟨show (20 : Nat) < 100 from by decide, nf0⟩, List.forall_mem_cons.mpr ⟨⟨show (20 : Nat) < 100 from by decide, nf1⟩, (fun _ h => (by cases h))⟩⟩
def n_jMath_floorDiv1_v69_an : List an_T := []
def t_jMath_floorDiv1_v69_ct : ct_L := []
set_option maxRecDepth 100000 in
theorem c_jMath_floorDiv1_v69 {l : Launch} {D : va_G} {kA : Nat → ClassId} : ct_ok PRD l D kA GG y_jMath_floorDiv1 z_jMath_floorDiv1 e_jMath_floorDiv1_v69 := chk_all_ok (FT := []) (PT := []) (CT := t_jMath_floorDiv1_v69_ct) (KT := []) (NT := []) (AN := n_jMath_floorDiv1_v69_an) (OT := [o_jMath_floorDiv1_v69_0]) 0 200 (List.forall_mem_cons.mpr ⟨oo_jMath_floorDiv1_v69_0, List.forall_mem_nil _⟩) (pl_Math rfl (by decide)) ⟨List.forall_mem_nil _, List.forall_mem_nil _, List.forall_mem_nil _, List.forall_mem_nil _, List.forall_mem_nil _, GG_pl⟩ (by decide +kernel)
def e_jMath_floorDiv1_v70 : en_T := ([(0, -125, 189, []), (0, 2, 126, [])], some (0, -126, 189, []), true, 1, 0, 0, [], [], (0, [], [], [(20, [1, 2, 0], [50, 0, 0, 0, 6, 6, 2, 1, 0, 1, 1, 1, 2]), (20, [0, 1, 2], [50, 0, 0, 0, 6, 4, 2, 1, 0, 0, 1, 4, 6, 6, 2, 1, 1, 1, 2, 1, 1])], []))
def o_jMath_floorDiv1_v70_0 : or_T := (22, 4, [(0, (0, -125, 189, [])), (1, (0, 2, 126, [])), (2, (0, -125, 189, [])), (3, (0, 0, 2147483647, []))], [(8, [3], [3]), (16, [3, 0, 1], [2]), (4, [2, 0, 1], [])], [], [], [(20, [1, 2, 0], [50, 0, 0, 0, 6, 6, 2, 1, 0, 1, 1, 1, 2]), (20, [0, 1, 2], [50, 0, 0, 0, 6, 4, 2, 1, 0, 0, 1, 4, 6, 6, 2, 1, 1, 1, 2, 1, 1])], [], [])
theorem oo_jMath_floorDiv1_v70_0 {kA : Nat → ClassId} : or_ok PRD kA GG o_jMath_floorDiv1_v70_0 := by
  refine or_mk fun A ta ws vs hD hth hl => ?_
  intro t0 k0 t1 k1 t2 k2 t3 k3 f0 f1 f2
  replace f0 := shm_32 f0
  replace f1 := shm_33 f1
  replace f2 := shm_34 f2
  have g5 := fdv (x := v_iv (n_v vs 0)) (y := v_iv (n_v vs 1)) (q := v_iv (n_v vs 2)) (by assumption) (by omega)
  have g8 : v_iv (n_v vs 2) * v_iv (n_v vs 1) = v_iv (n_v vs 1) * v_iv (n_v vs 2) := Int.mul_comm _ _
  have g7 := xor_sg (n := v_iv (n_v vs 3)) (a := v_iv (n_v vs 0)) (b := v_iv (n_v vs 1)) (by assumption) (by omega) (by omega) (by omega)
  have nf0 : fc_1 PRD (20, [1, 2, 0], [50, 0, 0, 0, 6, 6, 2, 1, 0, 1, 1, 1, 2]) ws (vs) := by
    refine ⟨nf_in hl rfl, sgq_35 ?_⟩
    · show (v_iv (n_v vs 1) * v_iv (n_v vs 2)) ≤ v_iv (n_v vs 0)
      first | omega | grind
  have nf1 : fc_1 PRD (20, [0, 1, 2], [50, 0, 0, 0, 6, 4, 2, 1, 0, 0, 1, 4, 6, 6, 2, 1, 1, 1, 2, 1, 1]) ws (vs) := by
    refine ⟨nf_in hl rfl, sgq_36 ?_⟩
    · show (v_iv (n_v vs 0) + 1) ≤ ((v_iv (n_v vs 1) * v_iv (n_v vs 2)) + v_iv (n_v vs 1))
      first | omega | grind
  refine ⟨(fun _ h => (by cases h)), [], trivial, ?_, (fun _ h => (by cases h))⟩
  rw [List.append_nil]
  exact List.forall_mem_cons.mpr ⟨⟨show (20 : Nat) < 100 from by decide, nf0⟩, List.forall_mem_cons.mpr ⟨⟨show (20 : Nat) < 100 from by decide, nf1⟩, (fun _ h => (by cases h))⟩⟩
def o_jMath_floorDiv1_v70_1 : or_T := (22, 5, [(0, (0, -125, 189, [])), (1, (0, 2, 126, [])), (2, (0, -125, 189, [])), (3, (0, -2147483648, -1, [])), (4, (0, -125, 189, []))], [(7, [4, 0], [0]), (3, [4, 2, 1], []), (8, [3], [2]), (16, [3, 0, 1], [2]), (4, [2, 0, 1], [])], [], [], [(20, [1, 2, 0], [50, 0, 0, 0, 6, 6, 2, 1, 0, 1, 1, 1, 2]), (20, [0, 1, 2], [50, 0, 0, 0, 6, 4, 2, 1, 0, 0, 1, 4, 6, 6, 2, 1, 1, 1, 2, 1, 1])], [], [(4, 0, 0, 0)])
theorem oo_jMath_floorDiv1_v70_1 {kA : Nat → ClassId} : or_ok PRD kA GG o_jMath_floorDiv1_v70_1 := by
  refine or_mk fun A ta ws vs hD hth hl => ?_
  intro t0 k0 t1 k1 t2 k2 t3 k3 t4 k4 d0 f0 f1 f2 f3 f4
  replace f0 := shm_37 f0
  replace f1 := shm_38 f1
  replace f2 := shm_39 f2
  replace f3 := shm_33 f3
  replace f4 := shm_34 f4
  have g5 := fdv (x := v_iv (n_v vs 0)) (y := v_iv (n_v vs 1)) (q := v_iv (n_v vs 2)) (by assumption) (by omega)
  have g8 : v_iv (n_v vs 2) * v_iv (n_v vs 1) = v_iv (n_v vs 1) * v_iv (n_v vs 2) := Int.mul_comm _ _
  have g7 := xor_sg (n := v_iv (n_v vs 3)) (a := v_iv (n_v vs 0)) (b := v_iv (n_v vs 1)) (by assumption) (by omega) (by omega) (by omega)
  have nf0 : fc_1 PRD (20, [1, 2, 0], [50, 0, 0, 0, 6, 6, 2, 1, 0, 1, 1, 1, 2]) ws (vs) := by
    refine ⟨nf_in hl rfl, sgq_35 ?_⟩
    · show (v_iv (n_v vs 1) * v_iv (n_v vs 2)) ≤ v_iv (n_v vs 0)
      first | omega | grind
  have nf1 : fc_1 PRD (20, [0, 1, 2], [50, 0, 0, 0, 6, 4, 2, 1, 0, 0, 1, 4, 6, 6, 2, 1, 1, 1, 2, 1, 1]) ws (vs) := by
    refine ⟨nf_in hl rfl, sgq_36 ?_⟩
    · show (v_iv (n_v vs 0) + 1) ≤ ((v_iv (n_v vs 1) * v_iv (n_v vs 2)) + v_iv (n_v vs 1))
      first | omega | grind
  refine ⟨(fun _ h => (by cases h)), [], trivial, ?_, (fun _ h => (by cases h))⟩
  rw [List.append_nil]
  exact List.forall_mem_cons.mpr ⟨⟨show (20 : Nat) < 100 from by decide, nf0⟩, List.forall_mem_cons.mpr ⟨⟨show (20 : Nat) < 100 from by decide, nf1⟩, (fun _ h => (by cases h))⟩⟩
def o_jMath_floorDiv1_v70_2 : or_T := (20, 7, [(0, (0, -125, 189, [])), (1, (0, 2, 126, [])), (2, (0, -125, 189, [])), (3, (0, -2147483648, -1, [])), (4, (0, -15750, 23814, [])), (5, (0, 1, 1, [])), (6, (0, -126, 188, []))], [(2, [6, 2, 5], []), (7, [4, 0], [1]), (3, [4, 2, 1], []), (8, [3], [2]), (16, [3, 0, 1], [2]), (4, [2, 0, 1], [])], [], [], [(20, [1, 6, 0], [50, 0, 0, 0, 6, 6, 2, 1, 0, 1, 1, 1, 2]), (20, [0, 1, 6], [50, 0, 0, 0, 6, 4, 2, 1, 0, 0, 1, 4, 6, 6, 2, 1, 1, 1, 2, 1, 1])], [], [(6, 2, -1, -1)])
theorem oo_jMath_floorDiv1_v70_2 {kA : Nat → ClassId} : or_ok PRD kA GG o_jMath_floorDiv1_v70_2 := by
  refine or_mk fun A ta ws vs hD hth hl => ?_
  intro t0 k0 t1 k1 t2 k2 t3 k3 t4 k4 t5 k5 t6 k6 d0 f0 f1 f2 f3 f4 f5
  replace f0 := shm_14 f0
  replace f1 := shm_40 f1
  replace f2 := shm_38 f2
  replace f3 := shm_39 f3
  replace f4 := shm_33 f4
  replace f5 := shm_34 f5
  have g5 := fdv (x := v_iv (n_v vs 0)) (y := v_iv (n_v vs 1)) (q := v_iv (n_v vs 2)) (by assumption) (by omega)
  have g8 : v_iv (n_v vs 2) * v_iv (n_v vs 1) = v_iv (n_v vs 1) * v_iv (n_v vs 2) := Int.mul_comm _ _
  have g6 := fd_1 (y := v_iv (n_v vs 1)) (q := v_iv (n_v vs 2)) (n := v_iv (n_v vs 6)) (by omega)
  have g7 := xor_sg (n := v_iv (n_v vs 3)) (a := v_iv (n_v vs 0)) (b := v_iv (n_v vs 1)) (by assumption) (by omega) (by omega) (by omega)
  have nf0 : fc_1 PRD (20, [1, 6, 0], [50, 0, 0, 0, 6, 6, 2, 1, 0, 1, 1, 1, 2]) ws (vs) := by
    refine ⟨nf_in hl rfl, sgq_35 ?_⟩
    · show (v_iv (n_v vs 1) * v_iv (n_v vs 6)) ≤ v_iv (n_v vs 0)
      first | omega | grind
  have nf1 : fc_1 PRD (20, [0, 1, 6], [50, 0, 0, 0, 6, 4, 2, 1, 0, 0, 1, 4, 6, 6, 2, 1, 1, 1, 2, 1, 1]) ws (vs) := by
    refine ⟨nf_in hl rfl, sgq_36 ?_⟩
    · show (v_iv (n_v vs 0) + 1) ≤ ((v_iv (n_v vs 1) * v_iv (n_v vs 6)) + v_iv (n_v vs 1))
      first | omega | grind
  refine ⟨(fun _ h => (by cases h)), [], trivial, ?_, (fun _ h => (by cases h))⟩
  rw [List.append_nil]
  exact List.forall_mem_cons.mpr ⟨⟨show (20 : Nat) < 100 from by decide, nf0⟩, List.forall_mem_cons.mpr ⟨⟨show (20 : Nat) < 100 from by decide, nf1⟩, (fun _ h => (by cases h))⟩⟩
def n_jMath_floorDiv1_v70_an : List an_T := []
def t_jMath_floorDiv1_v70_ct : ct_L := []
set_option maxRecDepth 100000 in
theorem c_jMath_floorDiv1_v70 {l : Launch} {D : va_G} {kA : Nat → ClassId} : ct_ok PRD l D kA GG y_jMath_floorDiv1 z_jMath_floorDiv1 e_jMath_floorDiv1_v70 := chk_all_ok (FT := []) (PT := []) (CT := t_jMath_floorDiv1_v70_ct) (KT := []) (NT := []) (AN := n_jMath_floorDiv1_v70_an) (OT := [o_jMath_floorDiv1_v70_0, o_jMath_floorDiv1_v70_1, o_jMath_floorDiv1_v70_2]) 0 200 (List.forall_mem_cons.mpr ⟨oo_jMath_floorDiv1_v70_0, List.forall_mem_cons.mpr ⟨oo_jMath_floorDiv1_v70_1, List.forall_mem_cons.mpr ⟨oo_jMath_floorDiv1_v70_2, List.forall_mem_nil _⟩⟩⟩) (pl_Math rfl (by decide)) ⟨List.forall_mem_nil _, List.forall_mem_nil _, List.forall_mem_nil _, List.forall_mem_nil _, List.forall_mem_nil _, GG_pl⟩ (by decide +kernel)
def e_jMath_floorDiv1_v71 : en_T := ([(0, -251, 315, []), (0, 2, 126, [])], some (0, -252, 315, []), true, 1, 0, 0, [], [], (0, [], [], [(20, [1, 2, 0], [50, 0, 0, 0, 6, 6, 2, 1, 0, 1, 1, 1, 2]), (20, [0, 1, 2], [50, 0, 0, 0, 6, 4, 2, 1, 0, 0, 1, 4, 6, 6, 2, 1, 1, 1, 2, 1, 1])], []))
def o_jMath_floorDiv1_v71_0 : or_T := (22, 4, [(0, (0, -251, 315, [])), (1, (0, 2, 126, [])), (2, (0, -251, 315, [])), (3, (0, 0, 2147483647, []))], [(8, [3], [3]), (16, [3, 0, 1], [2]), (4, [2, 0, 1], [])], [], [], [(20, [1, 2, 0], [50, 0, 0, 0, 6, 6, 2, 1, 0, 1, 1, 1, 2]), (20, [0, 1, 2], [50, 0, 0, 0, 6, 4, 2, 1, 0, 0, 1, 4, 6, 6, 2, 1, 1, 1, 2, 1, 1])], [], [])
theorem oo_jMath_floorDiv1_v71_0 {kA : Nat → ClassId} : or_ok PRD kA GG o_jMath_floorDiv1_v71_0 := by
  refine or_mk fun A ta ws vs hD hth hl => ?_
  intro t0 k0 t1 k1 t2 k2 t3 k3 f0 f1 f2
  replace f0 := shm_32 f0
  replace f1 := shm_33 f1
  replace f2 := shm_34 f2
  have g5 := fdv (x := v_iv (n_v vs 0)) (y := v_iv (n_v vs 1)) (q := v_iv (n_v vs 2)) (by assumption) (by omega)
  have g8 : v_iv (n_v vs 2) * v_iv (n_v vs 1) = v_iv (n_v vs 1) * v_iv (n_v vs 2) := Int.mul_comm _ _
  have g7 := xor_sg (n := v_iv (n_v vs 3)) (a := v_iv (n_v vs 0)) (b := v_iv (n_v vs 1)) (by assumption) (by omega) (by omega) (by omega)
  have nf0 : fc_1 PRD (20, [1, 2, 0], [50, 0, 0, 0, 6, 6, 2, 1, 0, 1, 1, 1, 2]) ws (vs) := by
    refine ⟨nf_in hl rfl, sgq_35 ?_⟩
    · show (v_iv (n_v vs 1) * v_iv (n_v vs 2)) ≤ v_iv (n_v vs 0)
      first | omega | grind
  have nf1 : fc_1 PRD (20, [0, 1, 2], [50, 0, 0, 0, 6, 4, 2, 1, 0, 0, 1, 4, 6, 6, 2, 1, 1, 1, 2, 1, 1]) ws (vs) := by
    refine ⟨nf_in hl rfl, sgq_36 ?_⟩
    · show (v_iv (n_v vs 0) + 1) ≤ ((v_iv (n_v vs 1) * v_iv (n_v vs 2)) + v_iv (n_v vs 1))
      first | omega | grind
  refine ⟨(fun _ h => (by cases h)), [], trivial, ?_, (fun _ h => (by cases h))⟩
  rw [List.append_nil]
  exact List.forall_mem_cons.mpr ⟨⟨show (20 : Nat) < 100 from by decide, nf0⟩, List.forall_mem_cons.mpr ⟨⟨show (20 : Nat) < 100 from by decide, nf1⟩, (fun _ h => (by cases h))⟩⟩
def o_jMath_floorDiv1_v71_1 : or_T := (22, 5, [(0, (0, -251, 315, [])), (1, (0, 2, 126, [])), (2, (0, -251, 315, [])), (3, (0, -2147483648, -1, [])), (4, (0, -251, 315, []))], [(7, [4, 0], [0]), (3, [4, 2, 1], []), (8, [3], [2]), (16, [3, 0, 1], [2]), (4, [2, 0, 1], [])], [], [], [(20, [1, 2, 0], [50, 0, 0, 0, 6, 6, 2, 1, 0, 1, 1, 1, 2]), (20, [0, 1, 2], [50, 0, 0, 0, 6, 4, 2, 1, 0, 0, 1, 4, 6, 6, 2, 1, 1, 1, 2, 1, 1])], [], [(4, 0, 0, 0)])
theorem oo_jMath_floorDiv1_v71_1 {kA : Nat → ClassId} : or_ok PRD kA GG o_jMath_floorDiv1_v71_1 := by
  refine or_mk fun A ta ws vs hD hth hl => ?_
  intro t0 k0 t1 k1 t2 k2 t3 k3 t4 k4 d0 f0 f1 f2 f3 f4
  replace f0 := shm_37 f0
  replace f1 := shm_38 f1
  replace f2 := shm_39 f2
  replace f3 := shm_33 f3
  replace f4 := shm_34 f4
  have g5 := fdv (x := v_iv (n_v vs 0)) (y := v_iv (n_v vs 1)) (q := v_iv (n_v vs 2)) (by assumption) (by omega)
  have g8 : v_iv (n_v vs 2) * v_iv (n_v vs 1) = v_iv (n_v vs 1) * v_iv (n_v vs 2) := Int.mul_comm _ _
  have g7 := xor_sg (n := v_iv (n_v vs 3)) (a := v_iv (n_v vs 0)) (b := v_iv (n_v vs 1)) (by assumption) (by omega) (by omega) (by omega)
  have nf0 : fc_1 PRD (20, [1, 2, 0], [50, 0, 0, 0, 6, 6, 2, 1, 0, 1, 1, 1, 2]) ws (vs) := by
    refine ⟨nf_in hl rfl, sgq_35 ?_⟩
    · show (v_iv (n_v vs 1) * v_iv (n_v vs 2)) ≤ v_iv (n_v vs 0)
      first | omega | grind
  have nf1 : fc_1 PRD (20, [0, 1, 2], [50, 0, 0, 0, 6, 4, 2, 1, 0, 0, 1, 4, 6, 6, 2, 1, 1, 1, 2, 1, 1]) ws (vs) := by
    refine ⟨nf_in hl rfl, sgq_36 ?_⟩
    · show (v_iv (n_v vs 0) + 1) ≤ ((v_iv (n_v vs 1) * v_iv (n_v vs 2)) + v_iv (n_v vs 1))
      first | omega | grind
  refine ⟨(fun _ h => (by cases h)), [], trivial, ?_, (fun _ h => (by cases h))⟩
  rw [List.append_nil]
  exact List.forall_mem_cons.mpr ⟨⟨show (20 : Nat) < 100 from by decide, nf0⟩, List.forall_mem_cons.mpr ⟨⟨show (20 : Nat) < 100 from by decide, nf1⟩, (fun _ h => (by cases h))⟩⟩
def o_jMath_floorDiv1_v71_2 : or_T := (20, 7, [(0, (0, -251, 315, [])), (1, (0, 2, 126, [])), (2, (0, -251, 315, [])), (3, (0, -2147483648, -1, [])), (4, (0, -31626, 39690, [])), (5, (0, 1, 1, [])), (6, (0, -252, 314, []))], [(2, [6, 2, 5], []), (7, [4, 0], [1]), (3, [4, 2, 1], []), (8, [3], [2]), (16, [3, 0, 1], [2]), (4, [2, 0, 1], [])], [], [], [(20, [1, 6, 0], [50, 0, 0, 0, 6, 6, 2, 1, 0, 1, 1, 1, 2]), (20, [0, 1, 6], [50, 0, 0, 0, 6, 4, 2, 1, 0, 0, 1, 4, 6, 6, 2, 1, 1, 1, 2, 1, 1])], [], [(6, 2, -1, -1)])
theorem oo_jMath_floorDiv1_v71_2 {kA : Nat → ClassId} : or_ok PRD kA GG o_jMath_floorDiv1_v71_2 := by
  refine or_mk fun A ta ws vs hD hth hl => ?_
  intro t0 k0 t1 k1 t2 k2 t3 k3 t4 k4 t5 k5 t6 k6 d0 f0 f1 f2 f3 f4 f5
  replace f0 := shm_14 f0
  replace f1 := shm_40 f1
  replace f2 := shm_38 f2
  replace f3 := shm_39 f3
  replace f4 := shm_33 f4
  replace f5 := shm_34 f5
  have g5 := fdv (x := v_iv (n_v vs 0)) (y := v_iv (n_v vs 1)) (q := v_iv (n_v vs 2)) (by assumption) (by omega)
  have g8 : v_iv (n_v vs 2) * v_iv (n_v vs 1) = v_iv (n_v vs 1) * v_iv (n_v vs 2) := Int.mul_comm _ _
  have g6 := fd_1 (y := v_iv (n_v vs 1)) (q := v_iv (n_v vs 2)) (n := v_iv (n_v vs 6)) (by omega)
  have g7 := xor_sg (n := v_iv (n_v vs 3)) (a := v_iv (n_v vs 0)) (b := v_iv (n_v vs 1)) (by assumption) (by omega) (by omega) (by omega)
  have nf0 : fc_1 PRD (20, [1, 6, 0], [50, 0, 0, 0, 6, 6, 2, 1, 0, 1, 1, 1, 2]) ws (vs) := by
    refine ⟨nf_in hl rfl, sgq_35 ?_⟩
    · show (v_iv (n_v vs 1) * v_iv (n_v vs 6)) ≤ v_iv (n_v vs 0)
      first | omega | grind
  have nf1 : fc_1 PRD (20, [0, 1, 6], [50, 0, 0, 0, 6, 4, 2, 1, 0, 0, 1, 4, 6, 6, 2, 1, 1, 1, 2, 1, 1]) ws (vs) := by
    refine ⟨nf_in hl rfl, sgq_36 ?_⟩
    · show (v_iv (n_v vs 0) + 1) ≤ ((v_iv (n_v vs 1) * v_iv (n_v vs 6)) + v_iv (n_v vs 1))
      first | omega | grind
  refine ⟨(fun _ h => (by cases h)), [], trivial, ?_, (fun _ h => (by cases h))⟩
  rw [List.append_nil]
  exact List.forall_mem_cons.mpr ⟨⟨show (20 : Nat) < 100 from by decide, nf0⟩, List.forall_mem_cons.mpr ⟨⟨show (20 : Nat) < 100 from by decide, nf1⟩, (fun _ h => (by cases h))⟩⟩
def n_jMath_floorDiv1_v71_an : List an_T := []
def t_jMath_floorDiv1_v71_ct : ct_L := []
set_option maxRecDepth 100000 in
theorem c_jMath_floorDiv1_v71 {l : Launch} {D : va_G} {kA : Nat → ClassId} : ct_ok PRD l D kA GG y_jMath_floorDiv1 z_jMath_floorDiv1 e_jMath_floorDiv1_v71 := chk_all_ok (FT := []) (PT := []) (CT := t_jMath_floorDiv1_v71_ct) (KT := []) (NT := []) (AN := n_jMath_floorDiv1_v71_an) (OT := [o_jMath_floorDiv1_v71_0, o_jMath_floorDiv1_v71_1, o_jMath_floorDiv1_v71_2]) 0 200 (List.forall_mem_cons.mpr ⟨oo_jMath_floorDiv1_v71_0, List.forall_mem_cons.mpr ⟨oo_jMath_floorDiv1_v71_1, List.forall_mem_cons.mpr ⟨oo_jMath_floorDiv1_v71_2, List.forall_mem_nil _⟩⟩⟩) (pl_Math rfl (by decide)) ⟨List.forall_mem_nil _, List.forall_mem_nil _, List.forall_mem_nil _, List.forall_mem_nil _, List.forall_mem_nil _, GG_pl⟩ (by decide +kernel)
def e_jMath_floorDiv1_v72 : en_T := ([(0, -377, 441, []), (0, 2, 126, [])], some (0, -378, 441, []), true, 1, 0, 0, [], [], (0, [], [], [(20, [1, 2, 0], [50, 0, 0, 0, 6, 6, 2, 1, 0, 1, 1, 1, 2]), (20, [0, 1, 2], [50, 0, 0, 0, 6, 4, 2, 1, 0, 0, 1, 4, 6, 6, 2, 1, 1, 1, 2, 1, 1])], []))
def o_jMath_floorDiv1_v72_0 : or_T := (22, 4, [(0, (0, -377, 441, [])), (1, (0, 2, 126, [])), (2, (0, -377, 441, [])), (3, (0, 0, 2147483647, []))], [(8, [3], [3]), (16, [3, 0, 1], [2]), (4, [2, 0, 1], [])], [], [], [(20, [1, 2, 0], [50, 0, 0, 0, 6, 6, 2, 1, 0, 1, 1, 1, 2]), (20, [0, 1, 2], [50, 0, 0, 0, 6, 4, 2, 1, 0, 0, 1, 4, 6, 6, 2, 1, 1, 1, 2, 1, 1])], [], [])
theorem oo_jMath_floorDiv1_v72_0 {kA : Nat → ClassId} : or_ok PRD kA GG o_jMath_floorDiv1_v72_0 := by
  refine or_mk fun A ta ws vs hD hth hl => ?_
  intro t0 k0 t1 k1 t2 k2 t3 k3 f0 f1 f2
  replace f0 := shm_32 f0
  replace f1 := shm_33 f1
  replace f2 := shm_34 f2
  have g5 := fdv (x := v_iv (n_v vs 0)) (y := v_iv (n_v vs 1)) (q := v_iv (n_v vs 2)) (by assumption) (by omega)
  have g8 : v_iv (n_v vs 2) * v_iv (n_v vs 1) = v_iv (n_v vs 1) * v_iv (n_v vs 2) := Int.mul_comm _ _
  have g7 := xor_sg (n := v_iv (n_v vs 3)) (a := v_iv (n_v vs 0)) (b := v_iv (n_v vs 1)) (by assumption) (by omega) (by omega) (by omega)
  have nf0 : fc_1 PRD (20, [1, 2, 0], [50, 0, 0, 0, 6, 6, 2, 1, 0, 1, 1, 1, 2]) ws (vs) := by
    refine ⟨nf_in hl rfl, sgq_35 ?_⟩
    · show (v_iv (n_v vs 1) * v_iv (n_v vs 2)) ≤ v_iv (n_v vs 0)
      first | omega | grind
  have nf1 : fc_1 PRD (20, [0, 1, 2], [50, 0, 0, 0, 6, 4, 2, 1, 0, 0, 1, 4, 6, 6, 2, 1, 1, 1, 2, 1, 1]) ws (vs) := by
    refine ⟨nf_in hl rfl, sgq_36 ?_⟩
    · show (v_iv (n_v vs 0) + 1) ≤ ((v_iv (n_v vs 1) * v_iv (n_v vs 2)) + v_iv (n_v vs 1))
      first | omega | grind
  refine ⟨(fun _ h => (by cases h)), [], trivial, ?_, (fun _ h => (by cases h))⟩
  rw [List.append_nil]
  exact List.forall_mem_cons.mpr ⟨⟨show (20 : Nat) < 100 from by decide, nf0⟩, List.forall_mem_cons.mpr ⟨⟨show (20 : Nat) < 100 from by decide, nf1⟩, (fun _ h => (by cases h))⟩⟩
def o_jMath_floorDiv1_v72_1 : or_T := (22, 5, [(0, (0, -377, 441, [])), (1, (0, 2, 126, [])), (2, (0, -377, 441, [])), (3, (0, -2147483648, -1, [])), (4, (0, -377, 441, []))], [(7, [4, 0], [0]), (3, [4, 2, 1], []), (8, [3], [2]), (16, [3, 0, 1], [2]), (4, [2, 0, 1], [])], [], [], [(20, [1, 2, 0], [50, 0, 0, 0, 6, 6, 2, 1, 0, 1, 1, 1, 2]), (20, [0, 1, 2], [50, 0, 0, 0, 6, 4, 2, 1, 0, 0, 1, 4, 6, 6, 2, 1, 1, 1, 2, 1, 1])], [], [(4, 0, 0, 0)])
theorem oo_jMath_floorDiv1_v72_1 {kA : Nat → ClassId} : or_ok PRD kA GG o_jMath_floorDiv1_v72_1 := by
  refine or_mk fun A ta ws vs hD hth hl => ?_
  intro t0 k0 t1 k1 t2 k2 t3 k3 t4 k4 d0 f0 f1 f2 f3 f4
  replace f0 := shm_37 f0
  replace f1 := shm_38 f1
  replace f2 := shm_39 f2
  replace f3 := shm_33 f3
  replace f4 := shm_34 f4
  have g5 := fdv (x := v_iv (n_v vs 0)) (y := v_iv (n_v vs 1)) (q := v_iv (n_v vs 2)) (by assumption) (by omega)
  have g8 : v_iv (n_v vs 2) * v_iv (n_v vs 1) = v_iv (n_v vs 1) * v_iv (n_v vs 2) := Int.mul_comm _ _
  have g7 := xor_sg (n := v_iv (n_v vs 3)) (a := v_iv (n_v vs 0)) (b := v_iv (n_v vs 1)) (by assumption) (by omega) (by omega) (by omega)
  have nf0 : fc_1 PRD (20, [1, 2, 0], [50, 0, 0, 0, 6, 6, 2, 1, 0, 1, 1, 1, 2]) ws (vs) := by
    refine ⟨nf_in hl rfl, sgq_35 ?_⟩
    · show (v_iv (n_v vs 1) * v_iv (n_v vs 2)) ≤ v_iv (n_v vs 0)
      first | omega | grind
  have nf1 : fc_1 PRD (20, [0, 1, 2], [50, 0, 0, 0, 6, 4, 2, 1, 0, 0, 1, 4, 6, 6, 2, 1, 1, 1, 2, 1, 1]) ws (vs) := by
    refine ⟨nf_in hl rfl, sgq_36 ?_⟩
    · show (v_iv (n_v vs 0) + 1) ≤ ((v_iv (n_v vs 1) * v_iv (n_v vs 2)) + v_iv (n_v vs 1))
      first | omega | grind
  refine ⟨(fun _ h => (by cases h)), [], trivial, ?_, (fun _ h => (by cases h))⟩
  rw [List.append_nil]
  exact List.forall_mem_cons.mpr ⟨⟨show (20 : Nat) < 100 from by decide, nf0⟩, List.forall_mem_cons.mpr ⟨⟨show (20 : Nat) < 100 from by decide, nf1⟩, (fun _ h => (by cases h))⟩⟩
def o_jMath_floorDiv1_v72_2 : or_T := (20, 7, [(0, (0, -377, 441, [])), (1, (0, 2, 126, [])), (2, (0, -377, 441, [])), (3, (0, -2147483648, -1, [])), (4, (0, -47502, 55566, [])), (5, (0, 1, 1, [])), (6, (0, -378, 440, []))], [(2, [6, 2, 5], []), (7, [4, 0], [1]), (3, [4, 2, 1], []), (8, [3], [2]), (16, [3, 0, 1], [2]), (4, [2, 0, 1], [])], [], [], [(20, [1, 6, 0], [50, 0, 0, 0, 6, 6, 2, 1, 0, 1, 1, 1, 2]), (20, [0, 1, 6], [50, 0, 0, 0, 6, 4, 2, 1, 0, 0, 1, 4, 6, 6, 2, 1, 1, 1, 2, 1, 1])], [], [(6, 2, -1, -1)])
theorem oo_jMath_floorDiv1_v72_2 {kA : Nat → ClassId} : or_ok PRD kA GG o_jMath_floorDiv1_v72_2 := by
  refine or_mk fun A ta ws vs hD hth hl => ?_
  intro t0 k0 t1 k1 t2 k2 t3 k3 t4 k4 t5 k5 t6 k6 d0 f0 f1 f2 f3 f4 f5
  replace f0 := shm_14 f0
  replace f1 := shm_40 f1
  replace f2 := shm_38 f2
  replace f3 := shm_39 f3
  replace f4 := shm_33 f4
  replace f5 := shm_34 f5
  have g5 := fdv (x := v_iv (n_v vs 0)) (y := v_iv (n_v vs 1)) (q := v_iv (n_v vs 2)) (by assumption) (by omega)
  have g8 : v_iv (n_v vs 2) * v_iv (n_v vs 1) = v_iv (n_v vs 1) * v_iv (n_v vs 2) := Int.mul_comm _ _
  have g6 := fd_1 (y := v_iv (n_v vs 1)) (q := v_iv (n_v vs 2)) (n := v_iv (n_v vs 6)) (by omega)
  have g7 := xor_sg (n := v_iv (n_v vs 3)) (a := v_iv (n_v vs 0)) (b := v_iv (n_v vs 1)) (by assumption) (by omega) (by omega) (by omega)
  have nf0 : fc_1 PRD (20, [1, 6, 0], [50, 0, 0, 0, 6, 6, 2, 1, 0, 1, 1, 1, 2]) ws (vs) := by
    refine ⟨nf_in hl rfl, sgq_35 ?_⟩
    · show (v_iv (n_v vs 1) * v_iv (n_v vs 6)) ≤ v_iv (n_v vs 0)
      first | omega | grind
  have nf1 : fc_1 PRD (20, [0, 1, 6], [50, 0, 0, 0, 6, 4, 2, 1, 0, 0, 1, 4, 6, 6, 2, 1, 1, 1, 2, 1, 1]) ws (vs) := by
    refine ⟨nf_in hl rfl, sgq_36 ?_⟩
    · show (v_iv (n_v vs 0) + 1) ≤ ((v_iv (n_v vs 1) * v_iv (n_v vs 6)) + v_iv (n_v vs 1))
      first | omega | grind
  refine ⟨(fun _ h => (by cases h)), [], trivial, ?_, (fun _ h => (by cases h))⟩
  rw [List.append_nil]
  exact List.forall_mem_cons.mpr ⟨⟨show (20 : Nat) < 100 from by decide, nf0⟩, List.forall_mem_cons.mpr ⟨⟨show (20 : Nat) < 100 from by decide, nf1⟩, (fun _ h => (by cases h))⟩⟩
def n_jMath_floorDiv1_v72_an : List an_T := []
def t_jMath_floorDiv1_v72_ct : ct_L := []
set_option maxRecDepth 100000 in
theorem c_jMath_floorDiv1_v72 {l : Launch} {D : va_G} {kA : Nat → ClassId} : ct_ok PRD l D kA GG y_jMath_floorDiv1 z_jMath_floorDiv1 e_jMath_floorDiv1_v72 := chk_all_ok (FT := []) (PT := []) (CT := t_jMath_floorDiv1_v72_ct) (KT := []) (NT := []) (AN := n_jMath_floorDiv1_v72_an) (OT := [o_jMath_floorDiv1_v72_0, o_jMath_floorDiv1_v72_1, o_jMath_floorDiv1_v72_2]) 0 200 (List.forall_mem_cons.mpr ⟨oo_jMath_floorDiv1_v72_0, List.forall_mem_cons.mpr ⟨oo_jMath_floorDiv1_v72_1, List.forall_mem_cons.mpr ⟨oo_jMath_floorDiv1_v72_2, List.forall_mem_nil _⟩⟩⟩) (pl_Math rfl (by decide)) ⟨List.forall_mem_nil _, List.forall_mem_nil _, List.forall_mem_nil _, List.forall_mem_nil _, List.forall_mem_nil _, GG_pl⟩ (by decide +kernel)
def e_jMath_floorDiv1_v73 : en_T := ([(0, -503, 567, []), (0, 2, 126, [])], some (0, -504, 567, []), true, 1, 0, 0, [], [], (0, [], [], [(20, [1, 2, 0], [50, 0, 0, 0, 6, 6, 2, 1, 0, 1, 1, 1, 2]), (20, [0, 1, 2], [50, 0, 0, 0, 6, 4, 2, 1, 0, 0, 1, 4, 6, 6, 2, 1, 1, 1, 2, 1, 1])], []))
def o_jMath_floorDiv1_v73_0 : or_T := (22, 4, [(0, (0, -503, 567, [])), (1, (0, 2, 126, [])), (2, (0, -503, 567, [])), (3, (0, 0, 2147483647, []))], [(8, [3], [3]), (16, [3, 0, 1], [2]), (4, [2, 0, 1], [])], [], [], [(20, [1, 2, 0], [50, 0, 0, 0, 6, 6, 2, 1, 0, 1, 1, 1, 2]), (20, [0, 1, 2], [50, 0, 0, 0, 6, 4, 2, 1, 0, 0, 1, 4, 6, 6, 2, 1, 1, 1, 2, 1, 1])], [], [])
theorem oo_jMath_floorDiv1_v73_0 {kA : Nat → ClassId} : or_ok PRD kA GG o_jMath_floorDiv1_v73_0 := by
  refine or_mk fun A ta ws vs hD hth hl => ?_
  intro t0 k0 t1 k1 t2 k2 t3 k3 f0 f1 f2
  replace f0 := shm_32 f0
  replace f1 := shm_33 f1
  replace f2 := shm_34 f2
  have g5 := fdv (x := v_iv (n_v vs 0)) (y := v_iv (n_v vs 1)) (q := v_iv (n_v vs 2)) (by assumption) (by omega)
  have g8 : v_iv (n_v vs 2) * v_iv (n_v vs 1) = v_iv (n_v vs 1) * v_iv (n_v vs 2) := Int.mul_comm _ _
  have g7 := xor_sg (n := v_iv (n_v vs 3)) (a := v_iv (n_v vs 0)) (b := v_iv (n_v vs 1)) (by assumption) (by omega) (by omega) (by omega)
  have nf0 : fc_1 PRD (20, [1, 2, 0], [50, 0, 0, 0, 6, 6, 2, 1, 0, 1, 1, 1, 2]) ws (vs) := by
    refine ⟨nf_in hl rfl, sgq_35 ?_⟩
    · show (v_iv (n_v vs 1) * v_iv (n_v vs 2)) ≤ v_iv (n_v vs 0)
      first | omega | grind
  have nf1 : fc_1 PRD (20, [0, 1, 2], [50, 0, 0, 0, 6, 4, 2, 1, 0, 0, 1, 4, 6, 6, 2, 1, 1, 1, 2, 1, 1]) ws (vs) := by
    refine ⟨nf_in hl rfl, sgq_36 ?_⟩
    · show (v_iv (n_v vs 0) + 1) ≤ ((v_iv (n_v vs 1) * v_iv (n_v vs 2)) + v_iv (n_v vs 1))
      first | omega | grind
  refine ⟨(fun _ h => (by cases h)), [], trivial, ?_, (fun _ h => (by cases h))⟩
  rw [List.append_nil]
  exact List.forall_mem_cons.mpr ⟨⟨show (20 : Nat) < 100 from by decide, nf0⟩, List.forall_mem_cons.mpr ⟨⟨show (20 : Nat) < 100 from by decide, nf1⟩, (fun _ h => (by cases h))⟩⟩
def o_jMath_floorDiv1_v73_1 : or_T := (22, 5, [(0, (0, -503, 567, [])), (1, (0, 2, 126, [])), (2, (0, -503, 567, [])), (3, (0, -2147483648, -1, [])), (4, (0, -503, 567, []))], [(7, [4, 0], [0]), (3, [4, 2, 1], []), (8, [3], [2]), (16, [3, 0, 1], [2]), (4, [2, 0, 1], [])], [], [], [(20, [1, 2, 0], [50, 0, 0, 0, 6, 6, 2, 1, 0, 1, 1, 1, 2]), (20, [0, 1, 2], [50, 0, 0, 0, 6, 4, 2, 1, 0, 0, 1, 4, 6, 6, 2, 1, 1, 1, 2, 1, 1])], [], [(4, 0, 0, 0)])
theorem oo_jMath_floorDiv1_v73_1 {kA : Nat → ClassId} : or_ok PRD kA GG o_jMath_floorDiv1_v73_1 := by
  refine or_mk fun A ta ws vs hD hth hl => ?_
  intro t0 k0 t1 k1 t2 k2 t3 k3 t4 k4 d0 f0 f1 f2 f3 f4
  replace f0 := shm_37 f0
  replace f1 := shm_38 f1
  replace f2 := shm_39 f2
  replace f3 := shm_33 f3
  replace f4 := shm_34 f4
  have g5 := fdv (x := v_iv (n_v vs 0)) (y := v_iv (n_v vs 1)) (q := v_iv (n_v vs 2)) (by assumption) (by omega)
  have g8 : v_iv (n_v vs 2) * v_iv (n_v vs 1) = v_iv (n_v vs 1) * v_iv (n_v vs 2) := Int.mul_comm _ _
  have g7 := xor_sg (n := v_iv (n_v vs 3)) (a := v_iv (n_v vs 0)) (b := v_iv (n_v vs 1)) (by assumption) (by omega) (by omega) (by omega)
  have nf0 : fc_1 PRD (20, [1, 2, 0], [50, 0, 0, 0, 6, 6, 2, 1, 0, 1, 1, 1, 2]) ws (vs) := by
    refine ⟨nf_in hl rfl, sgq_35 ?_⟩
    · show (v_iv (n_v vs 1) * v_iv (n_v vs 2)) ≤ v_iv (n_v vs 0)
      first | omega | grind
  have nf1 : fc_1 PRD (20, [0, 1, 2], [50, 0, 0, 0, 6, 4, 2, 1, 0, 0, 1, 4, 6, 6, 2, 1, 1, 1, 2, 1, 1]) ws (vs) := by
    refine ⟨nf_in hl rfl, sgq_36 ?_⟩
    · show (v_iv (n_v vs 0) + 1) ≤ ((v_iv (n_v vs 1) * v_iv (n_v vs 2)) + v_iv (n_v vs 1))
      first | omega | grind
  refine ⟨(fun _ h => (by cases h)), [], trivial, ?_, (fun _ h => (by cases h))⟩
  rw [List.append_nil]
  exact List.forall_mem_cons.mpr ⟨⟨show (20 : Nat) < 100 from by decide, nf0⟩, List.forall_mem_cons.mpr ⟨⟨show (20 : Nat) < 100 from by decide, nf1⟩, (fun _ h => (by cases h))⟩⟩
def o_jMath_floorDiv1_v73_2 : or_T := (20, 7, [(0, (0, -503, 567, [])), (1, (0, 2, 126, [])), (2, (0, -503, 567, [])), (3, (0, -2147483648, -1, [])), (4, (0, -63378, 71442, [])), (5, (0, 1, 1, [])), (6, (0, -504, 566, []))], [(2, [6, 2, 5], []), (7, [4, 0], [1]), (3, [4, 2, 1], []), (8, [3], [2]), (16, [3, 0, 1], [2]), (4, [2, 0, 1], [])], [], [], [(20, [1, 6, 0], [50, 0, 0, 0, 6, 6, 2, 1, 0, 1, 1, 1, 2]), (20, [0, 1, 6], [50, 0, 0, 0, 6, 4, 2, 1, 0, 0, 1, 4, 6, 6, 2, 1, 1, 1, 2, 1, 1])], [], [(6, 2, -1, -1)])
theorem oo_jMath_floorDiv1_v73_2 {kA : Nat → ClassId} : or_ok PRD kA GG o_jMath_floorDiv1_v73_2 := by
  refine or_mk fun A ta ws vs hD hth hl => ?_
  intro t0 k0 t1 k1 t2 k2 t3 k3 t4 k4 t5 k5 t6 k6 d0 f0 f1 f2 f3 f4 f5
  replace f0 := shm_14 f0
  replace f1 := shm_40 f1
  replace f2 := shm_38 f2
  replace f3 := shm_39 f3
  replace f4 := shm_33 f4
  replace f5 := shm_34 f5
  have g5 := fdv (x := v_iv (n_v vs 0)) (y := v_iv (n_v vs 1)) (q := v_iv (n_v vs 2)) (by assumption) (by omega)
  have g8 : v_iv (n_v vs 2) * v_iv (n_v vs 1) = v_iv (n_v vs 1) * v_iv (n_v vs 2) := Int.mul_comm _ _
  have g6 := fd_1 (y := v_iv (n_v vs 1)) (q := v_iv (n_v vs 2)) (n := v_iv (n_v vs 6)) (by omega)
  have g7 := xor_sg (n := v_iv (n_v vs 3)) (a := v_iv (n_v vs 0)) (b := v_iv (n_v vs 1)) (by assumption) (by omega) (by omega) (by omega)
  have nf0 : fc_1 PRD (20, [1, 6, 0], [50, 0, 0, 0, 6, 6, 2, 1, 0, 1, 1, 1, 2]) ws (vs) := by
    refine ⟨nf_in hl rfl, sgq_35 ?_⟩
    · show (v_iv (n_v vs 1) * v_iv (n_v vs 6)) ≤ v_iv (n_v vs 0)
      first | omega | grind
  have nf1 : fc_1 PRD (20, [0, 1, 6], [50, 0, 0, 0, 6, 4, 2, 1, 0, 0, 1, 4, 6, 6, 2, 1, 1, 1, 2, 1, 1]) ws (vs) := by
    refine ⟨nf_in hl rfl, sgq_36 ?_⟩
    · show (v_iv (n_v vs 0) + 1) ≤ ((v_iv (n_v vs 1) * v_iv (n_v vs 6)) + v_iv (n_v vs 1))
      first | omega | grind
  refine ⟨(fun _ h => (by cases h)), [], trivial, ?_, (fun _ h => (by cases h))⟩
  rw [List.append_nil]
  exact List.forall_mem_cons.mpr ⟨⟨show (20 : Nat) < 100 from by decide, nf0⟩, List.forall_mem_cons.mpr ⟨⟨show (20 : Nat) < 100 from by decide, nf1⟩, (fun _ h => (by cases h))⟩⟩
def n_jMath_floorDiv1_v73_an : List an_T := []
def t_jMath_floorDiv1_v73_ct : ct_L := []
set_option maxRecDepth 100000 in
theorem c_jMath_floorDiv1_v73 {l : Launch} {D : va_G} {kA : Nat → ClassId} : ct_ok PRD l D kA GG y_jMath_floorDiv1 z_jMath_floorDiv1 e_jMath_floorDiv1_v73 := chk_all_ok (FT := []) (PT := []) (CT := t_jMath_floorDiv1_v73_ct) (KT := []) (NT := []) (AN := n_jMath_floorDiv1_v73_an) (OT := [o_jMath_floorDiv1_v73_0, o_jMath_floorDiv1_v73_1, o_jMath_floorDiv1_v73_2]) 0 200 (List.forall_mem_cons.mpr ⟨oo_jMath_floorDiv1_v73_0, List.forall_mem_cons.mpr ⟨oo_jMath_floorDiv1_v73_1, List.forall_mem_cons.mpr ⟨oo_jMath_floorDiv1_v73_2, List.forall_mem_nil _⟩⟩⟩) (pl_Math rfl (by decide)) ⟨List.forall_mem_nil _, List.forall_mem_nil _, List.forall_mem_nil _, List.forall_mem_nil _, List.forall_mem_nil _, GG_pl⟩ (by decide +kernel)
def e_jMath_floorDiv1_v74 : en_T := ([(0, -881, 945, []), (0, 2, 126, [])], some (0, -882, 945, []), true, 1, 0, 0, [], [], (0, [], [], [(20, [1, 2, 0], [50, 0, 0, 0, 6, 6, 2, 1, 0, 1, 1, 1, 2]), (20, [0, 1, 2], [50, 0, 0, 0, 6, 4, 2, 1, 0, 0, 1, 4, 6, 6, 2, 1, 1, 1, 2, 1, 1])], []))
def o_jMath_floorDiv1_v74_0 : or_T := (22, 4, [(0, (0, -881, 945, [])), (1, (0, 2, 126, [])), (2, (0, -881, 945, [])), (3, (0, 0, 2147483647, []))], [(8, [3], [3]), (16, [3, 0, 1], [2]), (4, [2, 0, 1], [])], [], [], [(20, [1, 2, 0], [50, 0, 0, 0, 6, 6, 2, 1, 0, 1, 1, 1, 2]), (20, [0, 1, 2], [50, 0, 0, 0, 6, 4, 2, 1, 0, 0, 1, 4, 6, 6, 2, 1, 1, 1, 2, 1, 1])], [], [])
theorem oo_jMath_floorDiv1_v74_0 {kA : Nat → ClassId} : or_ok PRD kA GG o_jMath_floorDiv1_v74_0 := by
  refine or_mk fun A ta ws vs hD hth hl => ?_
  intro t0 k0 t1 k1 t2 k2 t3 k3 f0 f1 f2
  replace f0 := shm_32 f0
  replace f1 := shm_33 f1
  replace f2 := shm_34 f2
  have g5 := fdv (x := v_iv (n_v vs 0)) (y := v_iv (n_v vs 1)) (q := v_iv (n_v vs 2)) (by assumption) (by omega)
  have g8 : v_iv (n_v vs 2) * v_iv (n_v vs 1) = v_iv (n_v vs 1) * v_iv (n_v vs 2) := Int.mul_comm _ _
  have g7 := xor_sg (n := v_iv (n_v vs 3)) (a := v_iv (n_v vs 0)) (b := v_iv (n_v vs 1)) (by assumption) (by omega) (by omega) (by omega)
  have nf0 : fc_1 PRD (20, [1, 2, 0], [50, 0, 0, 0, 6, 6, 2, 1, 0, 1, 1, 1, 2]) ws (vs) := by
    refine ⟨nf_in hl rfl, sgq_35 ?_⟩
    · show (v_iv (n_v vs 1) * v_iv (n_v vs 2)) ≤ v_iv (n_v vs 0)
      first | omega | grind
  have nf1 : fc_1 PRD (20, [0, 1, 2], [50, 0, 0, 0, 6, 4, 2, 1, 0, 0, 1, 4, 6, 6, 2, 1, 1, 1, 2, 1, 1]) ws (vs) := by
    refine ⟨nf_in hl rfl, sgq_36 ?_⟩
    · show (v_iv (n_v vs 0) + 1) ≤ ((v_iv (n_v vs 1) * v_iv (n_v vs 2)) + v_iv (n_v vs 1))
      first | omega | grind
  refine ⟨(fun _ h => (by cases h)), [], trivial, ?_, (fun _ h => (by cases h))⟩
  rw [List.append_nil]
  exact List.forall_mem_cons.mpr ⟨⟨show (20 : Nat) < 100 from by decide, nf0⟩, List.forall_mem_cons.mpr ⟨⟨show (20 : Nat) < 100 from by decide, nf1⟩, (fun _ h => (by cases h))⟩⟩
def o_jMath_floorDiv1_v74_1 : or_T := (22, 5, [(0, (0, -881, 945, [])), (1, (0, 2, 126, [])), (2, (0, -881, 945, [])), (3, (0, -2147483648, -1, [])), (4, (0, -881, 945, []))], [(7, [4, 0], [0]), (3, [4, 2, 1], []), (8, [3], [2]), (16, [3, 0, 1], [2]), (4, [2, 0, 1], [])], [], [], [(20, [1, 2, 0], [50, 0, 0, 0, 6, 6, 2, 1, 0, 1, 1, 1, 2]), (20, [0, 1, 2], [50, 0, 0, 0, 6, 4, 2, 1, 0, 0, 1, 4, 6, 6, 2, 1, 1, 1, 2, 1, 1])], [], [(4, 0, 0, 0)])
theorem oo_jMath_floorDiv1_v74_1 {kA : Nat → ClassId} : or_ok PRD kA GG o_jMath_floorDiv1_v74_1 := by
  refine or_mk fun A ta ws vs hD hth hl => ?_
  intro t0 k0 t1 k1 t2 k2 t3 k3 t4 k4 d0 f0 f1 f2 f3 f4
  replace f0 := shm_37 f0
  replace f1 := shm_38 f1
  replace f2 := shm_39 f2
  replace f3 := shm_33 f3
  replace f4 := shm_34 f4
  have g5 := fdv (x := v_iv (n_v vs 0)) (y := v_iv (n_v vs 1)) (q := v_iv (n_v vs 2)) (by assumption) (by omega)
  have g8 : v_iv (n_v vs 2) * v_iv (n_v vs 1) = v_iv (n_v vs 1) * v_iv (n_v vs 2) := Int.mul_comm _ _
  have g7 := xor_sg (n := v_iv (n_v vs 3)) (a := v_iv (n_v vs 0)) (b := v_iv (n_v vs 1)) (by assumption) (by omega) (by omega) (by omega)
  have nf0 : fc_1 PRD (20, [1, 2, 0], [50, 0, 0, 0, 6, 6, 2, 1, 0, 1, 1, 1, 2]) ws (vs) := by
    refine ⟨nf_in hl rfl, sgq_35 ?_⟩
    · show (v_iv (n_v vs 1) * v_iv (n_v vs 2)) ≤ v_iv (n_v vs 0)
      first | omega | grind
  have nf1 : fc_1 PRD (20, [0, 1, 2], [50, 0, 0, 0, 6, 4, 2, 1, 0, 0, 1, 4, 6, 6, 2, 1, 1, 1, 2, 1, 1]) ws (vs) := by
    refine ⟨nf_in hl rfl, sgq_36 ?_⟩
    · show (v_iv (n_v vs 0) + 1) ≤ ((v_iv (n_v vs 1) * v_iv (n_v vs 2)) + v_iv (n_v vs 1))
      first | omega | grind
  refine ⟨(fun _ h => (by cases h)), [], trivial, ?_, (fun _ h => (by cases h))⟩
  rw [List.append_nil]
  exact List.forall_mem_cons.mpr ⟨⟨show (20 : Nat) < 100 from by decide, nf0⟩, List.forall_mem_cons.mpr ⟨⟨show (20 : Nat) < 100 from by decide, nf1⟩, (fun _ h => (by cases h))⟩⟩
def o_jMath_floorDiv1_v74_2 : or_T := (20, 7, [(0, (0, -881, 945, [])), (1, (0, 2, 126, [])), (2, (0, -881, 945, [])), (3, (0, -2147483648, -1, [])), (4, (0, -111006, 119070, [])), (5, (0, 1, 1, [])), (6, (0, -882, 944, []))], [(2, [6, 2, 5], []), (7, [4, 0], [1]), (3, [4, 2, 1], []), (8, [3], [2]), (16, [3, 0, 1], [2]), (4, [2, 0, 1], [])], [], [], [(20, [1, 6, 0], [50, 0, 0, 0, 6, 6, 2, 1, 0, 1, 1, 1, 2]), (20, [0, 1, 6], [50, 0, 0, 0, 6, 4, 2, 1, 0, 0, 1, 4, 6, 6, 2, 1, 1, 1, 2, 1, 1])], [], [(6, 2, -1, -1)])
theorem oo_jMath_floorDiv1_v74_2 {kA : Nat → ClassId} : or_ok PRD kA GG o_jMath_floorDiv1_v74_2 := by
  refine or_mk fun A ta ws vs hD hth hl => ?_
  intro t0 k0 t1 k1 t2 k2 t3 k3 t4 k4 t5 k5 t6 k6 d0 f0 f1 f2 f3 f4 f5
  replace f0 := shm_14 f0
  replace f1 := shm_40 f1
  replace f2 := shm_38 f2
  replace f3 := shm_39 f3
  replace f4 := shm_33 f4
  replace f5 := shm_34 f5
  have g5 := fdv (x := v_iv (n_v vs 0)) (y := v_iv (n_v vs 1)) (q := v_iv (n_v vs 2)) (by assumption) (by omega)
  have g8 : v_iv (n_v vs 2) * v_iv (n_v vs 1) = v_iv (n_v vs 1) * v_iv (n_v vs 2) := Int.mul_comm _ _
  have g6 := fd_1 (y := v_iv (n_v vs 1)) (q := v_iv (n_v vs 2)) (n := v_iv (n_v vs 6)) (by omega)
  have g7 := xor_sg (n := v_iv (n_v vs 3)) (a := v_iv (n_v vs 0)) (b := v_iv (n_v vs 1)) (by assumption) (by omega) (by omega) (by omega)
  have nf0 : fc_1 PRD (20, [1, 6, 0], [50, 0, 0, 0, 6, 6, 2, 1, 0, 1, 1, 1, 2]) ws (vs) := by
    refine ⟨nf_in hl rfl, sgq_35 ?_⟩
    · show (v_iv (n_v vs 1) * v_iv (n_v vs 6)) ≤ v_iv (n_v vs 0)
      first | omega | grind
  have nf1 : fc_1 PRD (20, [0, 1, 6], [50, 0, 0, 0, 6, 4, 2, 1, 0, 0, 1, 4, 6, 6, 2, 1, 1, 1, 2, 1, 1]) ws (vs) := by
    refine ⟨nf_in hl rfl, sgq_36 ?_⟩
    · show (v_iv (n_v vs 0) + 1) ≤ ((v_iv (n_v vs 1) * v_iv (n_v vs 6)) + v_iv (n_v vs 1))
      first | omega | grind
  refine ⟨(fun _ h => (by cases h)), [], trivial, ?_, (fun _ h => (by cases h))⟩
  rw [List.append_nil]
  exact List.forall_mem_cons.mpr ⟨⟨show (20 : Nat) < 100 from by decide, nf0⟩, List.forall_mem_cons.mpr ⟨⟨show (20 : Nat) < 100 from by decide, nf1⟩, (fun _ h => (by cases h))⟩⟩
def n_jMath_floorDiv1_v74_an : List an_T := []
def t_jMath_floorDiv1_v74_ct : ct_L := []
set_option maxRecDepth 100000 in
theorem c_jMath_floorDiv1_v74 {l : Launch} {D : va_G} {kA : Nat → ClassId} : ct_ok PRD l D kA GG y_jMath_floorDiv1 z_jMath_floorDiv1 e_jMath_floorDiv1_v74 := chk_all_ok (FT := []) (PT := []) (CT := t_jMath_floorDiv1_v74_ct) (KT := []) (NT := []) (AN := n_jMath_floorDiv1_v74_an) (OT := [o_jMath_floorDiv1_v74_0, o_jMath_floorDiv1_v74_1, o_jMath_floorDiv1_v74_2]) 0 200 (List.forall_mem_cons.mpr ⟨oo_jMath_floorDiv1_v74_0, List.forall_mem_cons.mpr ⟨oo_jMath_floorDiv1_v74_1, List.forall_mem_cons.mpr ⟨oo_jMath_floorDiv1_v74_2, List.forall_mem_nil _⟩⟩⟩) (pl_Math rfl (by decide)) ⟨List.forall_mem_nil _, List.forall_mem_nil _, List.forall_mem_nil _, List.forall_mem_nil _, List.forall_mem_nil _, GG_pl⟩ (by decide +kernel)
def e_jMath_floorDiv1_v75 : en_T := ([(0, -1007, 1071, []), (0, 2, 126, [])], some (0, -1008, 1071, []), true, 1, 0, 0, [], [], (0, [], [], [(20, [1, 2, 0], [50, 0, 0, 0, 6, 6, 2, 1, 0, 1, 1, 1, 2]), (20, [0, 1, 2], [50, 0, 0, 0, 6, 4, 2, 1, 0, 0, 1, 4, 6, 6, 2, 1, 1, 1, 2, 1, 1])], []))
def o_jMath_floorDiv1_v75_0 : or_T := (22, 4, [(0, (0, -1007, 1071, [])), (1, (0, 2, 126, [])), (2, (0, -1007, 1071, [])), (3, (0, 0, 2147483647, []))], [(8, [3], [3]), (16, [3, 0, 1], [2]), (4, [2, 0, 1], [])], [], [], [(20, [1, 2, 0], [50, 0, 0, 0, 6, 6, 2, 1, 0, 1, 1, 1, 2]), (20, [0, 1, 2], [50, 0, 0, 0, 6, 4, 2, 1, 0, 0, 1, 4, 6, 6, 2, 1, 1, 1, 2, 1, 1])], [], [])
theorem oo_jMath_floorDiv1_v75_0 {kA : Nat → ClassId} : or_ok PRD kA GG o_jMath_floorDiv1_v75_0 := by
  refine or_mk fun A ta ws vs hD hth hl => ?_
  intro t0 k0 t1 k1 t2 k2 t3 k3 f0 f1 f2
  replace f0 := shm_32 f0
  replace f1 := shm_33 f1
  replace f2 := shm_34 f2
  have g5 := fdv (x := v_iv (n_v vs 0)) (y := v_iv (n_v vs 1)) (q := v_iv (n_v vs 2)) (by assumption) (by omega)
  have g8 : v_iv (n_v vs 2) * v_iv (n_v vs 1) = v_iv (n_v vs 1) * v_iv (n_v vs 2) := Int.mul_comm _ _
  have g7 := xor_sg (n := v_iv (n_v vs 3)) (a := v_iv (n_v vs 0)) (b := v_iv (n_v vs 1)) (by assumption) (by omega) (by omega) (by omega)
  have nf0 : fc_1 PRD (20, [1, 2, 0], [50, 0, 0, 0, 6, 6, 2, 1, 0, 1, 1, 1, 2]) ws (vs) := by
    refine ⟨nf_in hl rfl, sgq_35 ?_⟩
    · show (v_iv (n_v vs 1) * v_iv (n_v vs 2)) ≤ v_iv (n_v vs 0)
      first | omega | grind
  have nf1 : fc_1 PRD (20, [0, 1, 2], [50, 0, 0, 0, 6, 4, 2, 1, 0, 0, 1, 4, 6, 6, 2, 1, 1, 1, 2, 1, 1]) ws (vs) := by
    refine ⟨nf_in hl rfl, sgq_36 ?_⟩
    · show (v_iv (n_v vs 0) + 1) ≤ ((v_iv (n_v vs 1) * v_iv (n_v vs 2)) + v_iv (n_v vs 1))
      first | omega | grind
  refine ⟨(fun _ h => (by cases h)), [], trivial, ?_, (fun _ h => (by cases h))⟩
  rw [List.append_nil]
  exact List.forall_mem_cons.mpr ⟨⟨show (20 : Nat) < 100 from by decide, nf0⟩, List.forall_mem_cons.mpr ⟨⟨show (20 : Nat) < 100 from by decide, nf1⟩, (fun _ h => (by cases h))⟩⟩
def o_jMath_floorDiv1_v75_1 : or_T := (22, 5, [(0, (0, -1007, 1071, [])), (1, (0, 2, 126, [])), (2, (0, -1007, 1071, [])), (3, (0, -2147483648, -1, [])), (4, (0, -1007, 1071, []))], [(7, [4, 0], [0]), (3, [4, 2, 1], []), (8, [3], [2]), (16, [3, 0, 1], [2]), (4, [2, 0, 1], [])], [], [], [(20, [1, 2, 0], [50, 0, 0, 0, 6, 6, 2, 1, 0, 1, 1, 1, 2]), (20, [0, 1, 2], [50, 0, 0, 0, 6, 4, 2, 1, 0, 0, 1, 4, 6, 6, 2, 1, 1, 1, 2, 1, 1])], [], [(4, 0, 0, 0)])
theorem oo_jMath_floorDiv1_v75_1 {kA : Nat → ClassId} : or_ok PRD kA GG o_jMath_floorDiv1_v75_1 := by
  refine or_mk fun A ta ws vs hD hth hl => ?_
  intro t0 k0 t1 k1 t2 k2 t3 k3 t4 k4 d0 f0 f1 f2 f3 f4
  replace f0 := shm_37 f0
  replace f1 := shm_38 f1
  replace f2 := shm_39 f2
  replace f3 := shm_33 f3
  replace f4 := shm_34 f4
  have g5 := fdv (x := v_iv (n_v vs 0)) (y := v_iv (n_v vs 1)) (q := v_iv (n_v vs 2)) (by assumption) (by omega)
  have g8 : v_iv (n_v vs 2) * v_iv (n_v vs 1) = v_iv (n_v vs 1) * v_iv (n_v vs 2) := Int.mul_comm _ _
  have g7 := xor_sg (n := v_iv (n_v vs 3)) (a := v_iv (n_v vs 0)) (b := v_iv (n_v vs 1)) (by assumption) (by omega) (by omega) (by omega)
  have nf0 : fc_1 PRD (20, [1, 2, 0], [50, 0, 0, 0, 6, 6, 2, 1, 0, 1, 1, 1, 2]) ws (vs) := by
    refine ⟨nf_in hl rfl, sgq_35 ?_⟩
    · show (v_iv (n_v vs 1) * v_iv (n_v vs 2)) ≤ v_iv (n_v vs 0)
      first | omega | grind
  have nf1 : fc_1 PRD (20, [0, 1, 2], [50, 0, 0, 0, 6, 4, 2, 1, 0, 0, 1, 4, 6, 6, 2, 1, 1, 1, 2, 1, 1]) ws (vs) := by
    refine ⟨nf_in hl rfl, sgq_36 ?_⟩
    · show (v_iv (n_v vs 0) + 1) ≤ ((v_iv (n_v vs 1) * v_iv (n_v vs 2)) + v_iv (n_v vs 1))
      first | omega | grind
  refine ⟨(fun _ h => (by cases h)), [], trivial, ?_, (fun _ h => (by cases h))⟩
  rw [List.append_nil]
  exact List.forall_mem_cons.mpr ⟨⟨show (20 : Nat) < 100 from by decide, nf0⟩, List.forall_mem_cons.mpr ⟨⟨show (20 : Nat) < 100 from by decide, nf1⟩, (fun _ h => (by cases h))⟩⟩
def o_jMath_floorDiv1_v75_2 : or_T := (20, 7, [(0, (0, -1007, 1071, [])), (1, (0, 2, 126, [])), (2, (0, -1007, 1071, [])), (3, (0, -2147483648, -1, [])), (4, (0, -126882, 134946, [])), (5, (0, 1, 1, [])), (6, (0, -1008, 1070, []))], [(2, [6, 2, 5], []), (7, [4, 0], [1]), (3, [4, 2, 1], []), (8, [3], [2]), (16, [3, 0, 1], [2]), (4, [2, 0, 1], [])], [], [], [(20, [1, 6, 0], [50, 0, 0, 0, 6, 6, 2, 1, 0, 1, 1, 1, 2]), (20, [0, 1, 6], [50, 0, 0, 0, 6, 4, 2, 1, 0, 0, 1, 4, 6, 6, 2, 1, 1, 1, 2, 1, 1])], [], [(6, 2, -1, -1)])
theorem oo_jMath_floorDiv1_v75_2 {kA : Nat → ClassId} : or_ok PRD kA GG o_jMath_floorDiv1_v75_2 := by
  refine or_mk fun A ta ws vs hD hth hl => ?_
  intro t0 k0 t1 k1 t2 k2 t3 k3 t4 k4 t5 k5 t6 k6 d0 f0 f1 f2 f3 f4 f5
  replace f0 := shm_14 f0
  replace f1 := shm_40 f1
  replace f2 := shm_38 f2
  replace f3 := shm_39 f3
  replace f4 := shm_33 f4
  replace f5 := shm_34 f5
  have g5 := fdv (x := v_iv (n_v vs 0)) (y := v_iv (n_v vs 1)) (q := v_iv (n_v vs 2)) (by assumption) (by omega)
  have g8 : v_iv (n_v vs 2) * v_iv (n_v vs 1) = v_iv (n_v vs 1) * v_iv (n_v vs 2) := Int.mul_comm _ _
  have g6 := fd_1 (y := v_iv (n_v vs 1)) (q := v_iv (n_v vs 2)) (n := v_iv (n_v vs 6)) (by omega)
  have g7 := xor_sg (n := v_iv (n_v vs 3)) (a := v_iv (n_v vs 0)) (b := v_iv (n_v vs 1)) (by assumption) (by omega) (by omega) (by omega)
  have nf0 : fc_1 PRD (20, [1, 6, 0], [50, 0, 0, 0, 6, 6, 2, 1, 0, 1, 1, 1, 2]) ws (vs) := by
    refine ⟨nf_in hl rfl, sgq_35 ?_⟩
    · show (v_iv (n_v vs 1) * v_iv (n_v vs 6)) ≤ v_iv (n_v vs 0)
      first | omega | grind
  have nf1 : fc_1 PRD (20, [0, 1, 6], [50, 0, 0, 0, 6, 4, 2, 1, 0, 0, 1, 4, 6, 6, 2, 1, 1, 1, 2, 1, 1]) ws (vs) := by
    refine ⟨nf_in hl rfl, sgq_36 ?_⟩
    · show (v_iv (n_v vs 0) + 1) ≤ ((v_iv (n_v vs 1) * v_iv (n_v vs 6)) + v_iv (n_v vs 1))
      first | omega | grind
  refine ⟨(fun _ h => (by cases h)), [], trivial, ?_, (fun _ h => (by cases h))⟩
  rw [List.append_nil]
  exact List.forall_mem_cons.mpr ⟨⟨show (20 : Nat) < 100 from by decide, nf0⟩, List.forall_mem_cons.mpr ⟨⟨show (20 : Nat) < 100 from by decide, nf1⟩, (fun _ h => (by cases h))⟩⟩
def n_jMath_floorDiv1_v75_an : List an_T := []
def t_jMath_floorDiv1_v75_ct : ct_L := []
set_option maxRecDepth 100000 in
theorem c_jMath_floorDiv1_v75 {l : Launch} {D : va_G} {kA : Nat → ClassId} : ct_ok PRD l D kA GG y_jMath_floorDiv1 z_jMath_floorDiv1 e_jMath_floorDiv1_v75 := chk_all_ok (FT := []) (PT := []) (CT := t_jMath_floorDiv1_v75_ct) (KT := []) (NT := []) (AN := n_jMath_floorDiv1_v75_an) (OT := [o_jMath_floorDiv1_v75_0, o_jMath_floorDiv1_v75_1, o_jMath_floorDiv1_v75_2]) 0 200 (List.forall_mem_cons.mpr ⟨oo_jMath_floorDiv1_v75_0, List.forall_mem_cons.mpr ⟨oo_jMath_floorDiv1_v75_1, List.forall_mem_cons.mpr ⟨oo_jMath_floorDiv1_v75_2, List.forall_mem_nil _⟩⟩⟩) (pl_Math rfl (by decide)) ⟨List.forall_mem_nil _, List.forall_mem_nil _, List.forall_mem_nil _, List.forall_mem_nil _, List.forall_mem_nil _, GG_pl⟩ (by decide +kernel)
def e_jMath_floorDiv1_v76 : en_T := ([(0, -1889, 1953, []), (0, 2, 126, [])], some (0, -1890, 1953, []), true, 1, 0, 0, [], [], (0, [], [], [(20, [1, 2, 0], [50, 0, 0, 0, 6, 6, 2, 1, 0, 1, 1, 1, 2]), (20, [0, 1, 2], [50, 0, 0, 0, 6, 4, 2, 1, 0, 0, 1, 4, 6, 6, 2, 1, 1, 1, 2, 1, 1])], []))
def o_jMath_floorDiv1_v76_0 : or_T := (22, 4, [(0, (0, -1889, 1953, [])), (1, (0, 2, 126, [])), (2, (0, -1889, 1953, [])), (3, (0, 0, 2147483647, []))], [(8, [3], [3]), (16, [3, 0, 1], [2]), (4, [2, 0, 1], [])], [], [], [(20, [1, 2, 0], [50, 0, 0, 0, 6, 6, 2, 1, 0, 1, 1, 1, 2]), (20, [0, 1, 2], [50, 0, 0, 0, 6, 4, 2, 1, 0, 0, 1, 4, 6, 6, 2, 1, 1, 1, 2, 1, 1])], [], [])
theorem oo_jMath_floorDiv1_v76_0 {kA : Nat → ClassId} : or_ok PRD kA GG o_jMath_floorDiv1_v76_0 := by
  refine or_mk fun A ta ws vs hD hth hl => ?_
  intro t0 k0 t1 k1 t2 k2 t3 k3 f0 f1 f2
  replace f0 := shm_32 f0
  replace f1 := shm_33 f1
  replace f2 := shm_34 f2
  have g5 := fdv (x := v_iv (n_v vs 0)) (y := v_iv (n_v vs 1)) (q := v_iv (n_v vs 2)) (by assumption) (by omega)
  have g8 : v_iv (n_v vs 2) * v_iv (n_v vs 1) = v_iv (n_v vs 1) * v_iv (n_v vs 2) := Int.mul_comm _ _
  have g7 := xor_sg (n := v_iv (n_v vs 3)) (a := v_iv (n_v vs 0)) (b := v_iv (n_v vs 1)) (by assumption) (by omega) (by omega) (by omega)
  have nf0 : fc_1 PRD (20, [1, 2, 0], [50, 0, 0, 0, 6, 6, 2, 1, 0, 1, 1, 1, 2]) ws (vs) := by
    refine ⟨nf_in hl rfl, sgq_35 ?_⟩
    · show (v_iv (n_v vs 1) * v_iv (n_v vs 2)) ≤ v_iv (n_v vs 0)
      first | omega | grind
  have nf1 : fc_1 PRD (20, [0, 1, 2], [50, 0, 0, 0, 6, 4, 2, 1, 0, 0, 1, 4, 6, 6, 2, 1, 1, 1, 2, 1, 1]) ws (vs) := by
    refine ⟨nf_in hl rfl, sgq_36 ?_⟩
    · show (v_iv (n_v vs 0) + 1) ≤ ((v_iv (n_v vs 1) * v_iv (n_v vs 2)) + v_iv (n_v vs 1))
      first | omega | grind
  refine ⟨(fun _ h => (by cases h)), [], trivial, ?_, (fun _ h => (by cases h))⟩
  rw [List.append_nil]
  exact List.forall_mem_cons.mpr ⟨⟨show (20 : Nat) < 100 from by decide, nf0⟩, List.forall_mem_cons.mpr ⟨⟨show (20 : Nat) < 100 from by decide, nf1⟩, (fun _ h => (by cases h))⟩⟩
def o_jMath_floorDiv1_v76_1 : or_T := (22, 5, [(0, (0, -1889, 1953, [])), (1, (0, 2, 126, [])), (2, (0, -1889, 1953, [])), (3, (0, -2147483648, -1, [])), (4, (0, -1889, 1953, []))], [(7, [4, 0], [0]), (3, [4, 2, 1], []), (8, [3], [2]), (16, [3, 0, 1], [2]), (4, [2, 0, 1], [])], [], [], [(20, [1, 2, 0], [50, 0, 0, 0, 6, 6, 2, 1, 0, 1, 1, 1, 2]), (20, [0, 1, 2], [50, 0, 0, 0, 6, 4, 2, 1, 0, 0, 1, 4, 6, 6, 2, 1, 1, 1, 2, 1, 1])], [], [(4, 0, 0, 0)])
theorem oo_jMath_floorDiv1_v76_1 {kA : Nat → ClassId} : or_ok PRD kA GG o_jMath_floorDiv1_v76_1 := by
  refine or_mk fun A ta ws vs hD hth hl => ?_
  intro t0 k0 t1 k1 t2 k2 t3 k3 t4 k4 d0 f0 f1 f2 f3 f4
  replace f0 := shm_37 f0
  replace f1 := shm_38 f1
  replace f2 := shm_39 f2
  replace f3 := shm_33 f3
  replace f4 := shm_34 f4
  have g5 := fdv (x := v_iv (n_v vs 0)) (y := v_iv (n_v vs 1)) (q := v_iv (n_v vs 2)) (by assumption) (by omega)
  have g8 : v_iv (n_v vs 2) * v_iv (n_v vs 1) = v_iv (n_v vs 1) * v_iv (n_v vs 2) := Int.mul_comm _ _
  have g7 := xor_sg (n := v_iv (n_v vs 3)) (a := v_iv (n_v vs 0)) (b := v_iv (n_v vs 1)) (by assumption) (by omega) (by omega) (by omega)
  have nf0 : fc_1 PRD (20, [1, 2, 0], [50, 0, 0, 0, 6, 6, 2, 1, 0, 1, 1, 1, 2]) ws (vs) := by
    refine ⟨nf_in hl rfl, sgq_35 ?_⟩
    · show (v_iv (n_v vs 1) * v_iv (n_v vs 2)) ≤ v_iv (n_v vs 0)
      first | omega | grind
  have nf1 : fc_1 PRD (20, [0, 1, 2], [50, 0, 0, 0, 6, 4, 2, 1, 0, 0, 1, 4, 6, 6, 2, 1, 1, 1, 2, 1, 1]) ws (vs) := by
    refine ⟨nf_in hl rfl, sgq_36 ?_⟩
    · show (v_iv (n_v vs 0) + 1) ≤ ((v_iv (n_v vs 1) * v_iv (n_v vs 2)) + v_iv (n_v vs 1))
      first | omega | grind
  refine ⟨(fun _ h => (by cases h)), [], trivial, ?_, (fun _ h => (by cases h))⟩
  rw [List.append_nil]
  exact List.forall_mem_cons.mpr ⟨⟨show (20 : Nat) < 100 from by decide, nf0⟩, List.forall_mem_cons.mpr ⟨⟨show (20 : Nat) < 100 from by decide, nf1⟩, (fun _ h => (by cases h))⟩⟩
def o_jMath_floorDiv1_v76_2 : or_T := (20, 7, [(0, (0, -1889, 1953, [])), (1, (0, 2, 126, [])), (2, (0, -1889, 1953, [])), (3, (0, -2147483648, -1, [])), (4, (0, -238014, 246078, [])), (5, (0, 1, 1, [])), (6, (0, -1890, 1952, []))], [(2, [6, 2, 5], []), (7, [4, 0], [1]), (3, [4, 2, 1], []), (8, [3], [2]), (16, [3, 0, 1], [2]), (4, [2, 0, 1], [])], [], [], [(20, [1, 6, 0], [50, 0, 0, 0, 6, 6, 2, 1, 0, 1, 1, 1, 2]), (20, [0, 1, 6], [50, 0, 0, 0, 6, 4, 2, 1, 0, 0, 1, 4, 6, 6, 2, 1, 1, 1, 2, 1, 1])], [], [(6, 2, -1, -1)])
theorem oo_jMath_floorDiv1_v76_2 {kA : Nat → ClassId} : or_ok PRD kA GG o_jMath_floorDiv1_v76_2 := by
  refine or_mk fun A ta ws vs hD hth hl => ?_
  intro t0 k0 t1 k1 t2 k2 t3 k3 t4 k4 t5 k5 t6 k6 d0 f0 f1 f2 f3 f4 f5
  replace f0 := shm_14 f0
  replace f1 := shm_40 f1
  replace f2 := shm_38 f2
  replace f3 := shm_39 f3
  replace f4 := shm_33 f4
  replace f5 := shm_34 f5
  have g5 := fdv (x := v_iv (n_v vs 0)) (y := v_iv (n_v vs 1)) (q := v_iv (n_v vs 2)) (by assumption) (by omega)
  have g8 : v_iv (n_v vs 2) * v_iv (n_v vs 1) = v_iv (n_v vs 1) * v_iv (n_v vs 2) := Int.mul_comm _ _
  have g6 := fd_1 (y := v_iv (n_v vs 1)) (q := v_iv (n_v vs 2)) (n := v_iv (n_v vs 6)) (by omega)
  have g7 := xor_sg (n := v_iv (n_v vs 3)) (a := v_iv (n_v vs 0)) (b := v_iv (n_v vs 1)) (by assumption) (by omega) (by omega) (by omega)
  have nf0 : fc_1 PRD (20, [1, 6, 0], [50, 0, 0, 0, 6, 6, 2, 1, 0, 1, 1, 1, 2]) ws (vs) := by
    refine ⟨nf_in hl rfl, sgq_35 ?_⟩
    · show (v_iv (n_v vs 1) * v_iv (n_v vs 6)) ≤ v_iv (n_v vs 0)
      first | omega | grind
  have nf1 : fc_1 PRD (20, [0, 1, 6], [50, 0, 0, 0, 6, 4, 2, 1, 0, 0, 1, 4, 6, 6, 2, 1, 1, 1, 2, 1, 1]) ws (vs) := by
    refine ⟨nf_in hl rfl, sgq_36 ?_⟩
    · show (v_iv (n_v vs 0) + 1) ≤ ((v_iv (n_v vs 1) * v_iv (n_v vs 6)) + v_iv (n_v vs 1))
      first | omega | grind
  refine ⟨(fun _ h => (by cases h)), [], trivial, ?_, (fun _ h => (by cases h))⟩
  rw [List.append_nil]
  exact List.forall_mem_cons.mpr ⟨⟨show (20 : Nat) < 100 from by decide, nf0⟩, List.forall_mem_cons.mpr ⟨⟨show (20 : Nat) < 100 from by decide, nf1⟩, (fun _ h => (by cases h))⟩⟩
def n_jMath_floorDiv1_v76_an : List an_T := []
def t_jMath_floorDiv1_v76_ct : ct_L := []
set_option maxRecDepth 100000 in
theorem c_jMath_floorDiv1_v76 {l : Launch} {D : va_G} {kA : Nat → ClassId} : ct_ok PRD l D kA GG y_jMath_floorDiv1 z_jMath_floorDiv1 e_jMath_floorDiv1_v76 := chk_all_ok (FT := []) (PT := []) (CT := t_jMath_floorDiv1_v76_ct) (KT := []) (NT := []) (AN := n_jMath_floorDiv1_v76_an) (OT := [o_jMath_floorDiv1_v76_0, o_jMath_floorDiv1_v76_1, o_jMath_floorDiv1_v76_2]) 0 200 (List.forall_mem_cons.mpr ⟨oo_jMath_floorDiv1_v76_0, List.forall_mem_cons.mpr ⟨oo_jMath_floorDiv1_v76_1, List.forall_mem_cons.mpr ⟨oo_jMath_floorDiv1_v76_2, List.forall_mem_nil _⟩⟩⟩) (pl_Math rfl (by decide)) ⟨List.forall_mem_nil _, List.forall_mem_nil _, List.forall_mem_nil _, List.forall_mem_nil _, List.forall_mem_nil _, GG_pl⟩ (by decide +kernel)
def e_jMath_floorDiv1_v77 : en_T := ([(0, -2015, 2079, []), (0, 2, 126, [])], some (0, -2016, 2079, []), true, 1, 0, 0, [], [], (0, [], [], [(20, [1, 2, 0], [50, 0, 0, 0, 6, 6, 2, 1, 0, 1, 1, 1, 2]), (20, [0, 1, 2], [50, 0, 0, 0, 6, 4, 2, 1, 0, 0, 1, 4, 6, 6, 2, 1, 1, 1, 2, 1, 1])], []))
def o_jMath_floorDiv1_v77_0 : or_T := (22, 4, [(0, (0, -2015, 2079, [])), (1, (0, 2, 126, [])), (2, (0, -2015, 2079, [])), (3, (0, 0, 2147483647, []))], [(8, [3], [3]), (16, [3, 0, 1], [2]), (4, [2, 0, 1], [])], [], [], [(20, [1, 2, 0], [50, 0, 0, 0, 6, 6, 2, 1, 0, 1, 1, 1, 2]), (20, [0, 1, 2], [50, 0, 0, 0, 6, 4, 2, 1, 0, 0, 1, 4, 6, 6, 2, 1, 1, 1, 2, 1, 1])], [], [])
theorem oo_jMath_floorDiv1_v77_0 {kA : Nat → ClassId} : or_ok PRD kA GG o_jMath_floorDiv1_v77_0 := by
  refine or_mk fun A ta ws vs hD hth hl => ?_
  intro t0 k0 t1 k1 t2 k2 t3 k3 f0 f1 f2
  replace f0 := shm_32 f0
  replace f1 := shm_33 f1
  replace f2 := shm_34 f2
  have g5 := fdv (x := v_iv (n_v vs 0)) (y := v_iv (n_v vs 1)) (q := v_iv (n_v vs 2)) (by assumption) (by omega)
  have g8 : v_iv (n_v vs 2) * v_iv (n_v vs 1) = v_iv (n_v vs 1) * v_iv (n_v vs 2) := Int.mul_comm _ _
  have g7 := xor_sg (n := v_iv (n_v vs 3)) (a := v_iv (n_v vs 0)) (b := v_iv (n_v vs 1)) (by assumption) (by omega) (by omega) (by omega)
  have nf0 : fc_1 PRD (20, [1, 2, 0], [50, 0, 0, 0, 6, 6, 2, 1, 0, 1, 1, 1, 2]) ws (vs) := by
    refine ⟨nf_in hl rfl, sgq_35 ?_⟩
    · show (v_iv (n_v vs 1) * v_iv (n_v vs 2)) ≤ v_iv (n_v vs 0)
      first | omega | grind
  have nf1 : fc_1 PRD (20, [0, 1, 2], [50, 0, 0, 0, 6, 4, 2, 1, 0, 0, 1, 4, 6, 6, 2, 1, 1, 1, 2, 1, 1]) ws (vs) := by
    refine ⟨nf_in hl rfl, sgq_36 ?_⟩
    · show (v_iv (n_v vs 0) + 1) ≤ ((v_iv (n_v vs 1) * v_iv (n_v vs 2)) + v_iv (n_v vs 1))
      first | omega | grind
  refine ⟨(fun _ h => (by cases h)), [], trivial, ?_, (fun _ h => (by cases h))⟩
  rw [List.append_nil]
  exact List.forall_mem_cons.mpr ⟨⟨show (20 : Nat) < 100 from by decide, nf0⟩, List.forall_mem_cons.mpr ⟨⟨show (20 : Nat) < 100 from by decide, nf1⟩, (fun _ h => (by cases h))⟩⟩
def o_jMath_floorDiv1_v77_1 : or_T := (22, 5, [(0, (0, -2015, 2079, [])), (1, (0, 2, 126, [])), (2, (0, -2015, 2079, [])), (3, (0, -2147483648, -1, [])), (4, (0, -2015, 2079, []))], [(7, [4, 0], [0]), (3, [4, 2, 1], []), (8, [3], [2]), (16, [3, 0, 1], [2]), (4, [2, 0, 1], [])], [], [], [(20, [1, 2, 0], [50, 0, 0, 0, 6, 6, 2, 1, 0, 1, 1, 1, 2]), (20, [0, 1, 2], [50, 0, 0, 0, 6, 4, 2, 1, 0, 0, 1, 4, 6, 6, 2, 1, 1, 1, 2, 1, 1])], [], [(4, 0, 0, 0)])
theorem oo_jMath_floorDiv1_v77_1 {kA : Nat → ClassId} : or_ok PRD kA GG o_jMath_floorDiv1_v77_1 := by
  refine or_mk fun A ta ws vs hD hth hl => ?_
  intro t0 k0 t1 k1 t2 k2 t3 k3 t4 k4 d0 f0 f1 f2 f3 f4
  replace f0 := shm_37 f0
  replace f1 := shm_38 f1
  replace f2 := shm_39 f2
  replace f3 := shm_33 f3
  replace f4 := shm_34 f4
  have g5 := fdv (x := v_iv (n_v vs 0)) (y := v_iv (n_v vs 1)) (q := v_iv (n_v vs 2)) (by assumption) (by omega)
  have g8 : v_iv (n_v vs 2) * v_iv (n_v vs 1) = v_iv (n_v vs 1) * v_iv (n_v vs 2) := Int.mul_comm _ _
  have g7 := xor_sg (n := v_iv (n_v vs 3)) (a := v_iv (n_v vs 0)) (b := v_iv (n_v vs 1)) (by assumption) (by omega) (by omega) (by omega)
  have nf0 : fc_1 PRD (20, [1, 2, 0], [50, 0, 0, 0, 6, 6, 2, 1, 0, 1, 1, 1, 2]) ws (vs) := by
    refine ⟨nf_in hl rfl, sgq_35 ?_⟩
    · show (v_iv (n_v vs 1) * v_iv (n_v vs 2)) ≤ v_iv (n_v vs 0)
      first | omega | grind
  have nf1 : fc_1 PRD (20, [0, 1, 2], [50, 0, 0, 0, 6, 4, 2, 1, 0, 0, 1, 4, 6, 6, 2, 1, 1, 1, 2, 1, 1]) ws (vs) := by
    refine ⟨nf_in hl rfl, sgq_36 ?_⟩
    · show (v_iv (n_v vs 0) + 1) ≤ ((v_iv (n_v vs 1) * v_iv (n_v vs 2)) + v_iv (n_v vs 1))
      first | omega | grind
  refine ⟨(fun _ h => (by cases h)), [], trivial, ?_, (fun _ h => (by cases h))⟩
  rw [List.append_nil]
  exact List.forall_mem_cons.mpr ⟨⟨show (20 : Nat) < 100 from by decide, nf0⟩, List.forall_mem_cons.mpr ⟨⟨show (20 : Nat) < 100 from by decide, nf1⟩, (fun _ h => (by cases h))⟩⟩
def o_jMath_floorDiv1_v77_2 : or_T := (20, 7, [(0, (0, -2015, 2079, [])), (1, (0, 2, 126, [])), (2, (0, -2015, 2079, [])), (3, (0, -2147483648, -1, [])), (4, (0, -253890, 261954, [])), (5, (0, 1, 1, [])), (6, (0, -2016, 2078, []))], [(2, [6, 2, 5], []), (7, [4, 0], [1]), (3, [4, 2, 1], []), (8, [3], [2]), (16, [3, 0, 1], [2]), (4, [2, 0, 1], [])], [], [], [(20, [1, 6, 0], [50, 0, 0, 0, 6, 6, 2, 1, 0, 1, 1, 1, 2]), (20, [0, 1, 6], [50, 0, 0, 0, 6, 4, 2, 1, 0, 0, 1, 4, 6, 6, 2, 1, 1, 1, 2, 1, 1])], [], [(6, 2, -1, -1)])
theorem oo_jMath_floorDiv1_v77_2 {kA : Nat → ClassId} : or_ok PRD kA GG o_jMath_floorDiv1_v77_2 := by
  refine or_mk fun A ta ws vs hD hth hl => ?_
  intro t0 k0 t1 k1 t2 k2 t3 k3 t4 k4 t5 k5 t6 k6 d0 f0 f1 f2 f3 f4 f5
  replace f0 := shm_14 f0
  replace f1 := shm_40 f1
  replace f2 := shm_38 f2
  replace f3 := shm_39 f3
  replace f4 := shm_33 f4
  replace f5 := shm_34 f5
  have g5 := fdv (x := v_iv (n_v vs 0)) (y := v_iv (n_v vs 1)) (q := v_iv (n_v vs 2)) (by assumption) (by omega)
  have g8 : v_iv (n_v vs 2) * v_iv (n_v vs 1) = v_iv (n_v vs 1) * v_iv (n_v vs 2) := Int.mul_comm _ _
  have g6 := fd_1 (y := v_iv (n_v vs 1)) (q := v_iv (n_v vs 2)) (n := v_iv (n_v vs 6)) (by omega)
  have g7 := xor_sg (n := v_iv (n_v vs 3)) (a := v_iv (n_v vs 0)) (b := v_iv (n_v vs 1)) (by assumption) (by omega) (by omega) (by omega)
  have nf0 : fc_1 PRD (20, [1, 6, 0], [50, 0, 0, 0, 6, 6, 2, 1, 0, 1, 1, 1, 2]) ws (vs) := by
    refine ⟨nf_in hl rfl, sgq_35 ?_⟩
    · show (v_iv (n_v vs 1) * v_iv (n_v vs 6)) ≤ v_iv (n_v vs 0)
      first | omega | grind
  have nf1 : fc_1 PRD (20, [0, 1, 6], [50, 0, 0, 0, 6, 4, 2, 1, 0, 0, 1, 4, 6, 6, 2, 1, 1, 1, 2, 1, 1]) ws (vs) := by
    refine ⟨nf_in hl rfl, sgq_36 ?_⟩
    · show (v_iv (n_v vs 0) + 1) ≤ ((v_iv (n_v vs 1) * v_iv (n_v vs 6)) + v_iv (n_v vs 1))
      first | omega | grind
  refine ⟨(fun _ h => (by cases h)), [], trivial, ?_, (fun _ h => (by cases h))⟩
  rw [List.append_nil]
  exact List.forall_mem_cons.mpr ⟨⟨show (20 : Nat) < 100 from by decide, nf0⟩, List.forall_mem_cons.mpr ⟨⟨show (20 : Nat) < 100 from by decide, nf1⟩, (fun _ h => (by cases h))⟩⟩
def n_jMath_floorDiv1_v77_an : List an_T := []
def t_jMath_floorDiv1_v77_ct : ct_L := []
set_option maxRecDepth 100000 in
theorem c_jMath_floorDiv1_v77 {l : Launch} {D : va_G} {kA : Nat → ClassId} : ct_ok PRD l D kA GG y_jMath_floorDiv1 z_jMath_floorDiv1 e_jMath_floorDiv1_v77 := chk_all_ok (FT := []) (PT := []) (CT := t_jMath_floorDiv1_v77_ct) (KT := []) (NT := []) (AN := n_jMath_floorDiv1_v77_an) (OT := [o_jMath_floorDiv1_v77_0, o_jMath_floorDiv1_v77_1, o_jMath_floorDiv1_v77_2]) 0 200 (List.forall_mem_cons.mpr ⟨oo_jMath_floorDiv1_v77_0, List.forall_mem_cons.mpr ⟨oo_jMath_floorDiv1_v77_1, List.forall_mem_cons.mpr ⟨oo_jMath_floorDiv1_v77_2, List.forall_mem_nil _⟩⟩⟩) (pl_Math rfl (by decide)) ⟨List.forall_mem_nil _, List.forall_mem_nil _, List.forall_mem_nil _, List.forall_mem_nil _, List.forall_mem_nil _, GG_pl⟩ (by decide +kernel)
def e_jMath_floorDiv1_v78 : en_T := ([(0, -2897, 2961, []), (0, 2, 126, [])], some (0, -2898, 2961, []), true, 1, 0, 0, [], [], (0, [], [], [(20, [1, 2, 0], [50, 0, 0, 0, 6, 6, 2, 1, 0, 1, 1, 1, 2]), (20, [0, 1, 2], [50, 0, 0, 0, 6, 4, 2, 1, 0, 0, 1, 4, 6, 6, 2, 1, 1, 1, 2, 1, 1])], []))
def o_jMath_floorDiv1_v78_0 : or_T := (22, 4, [(0, (0, -2897, 2961, [])), (1, (0, 2, 126, [])), (2, (0, -2897, 2961, [])), (3, (0, 0, 2147483647, []))], [(8, [3], [3]), (16, [3, 0, 1], [2]), (4, [2, 0, 1], [])], [], [], [(20, [1, 2, 0], [50, 0, 0, 0, 6, 6, 2, 1, 0, 1, 1, 1, 2]), (20, [0, 1, 2], [50, 0, 0, 0, 6, 4, 2, 1, 0, 0, 1, 4, 6, 6, 2, 1, 1, 1, 2, 1, 1])], [], [])
theorem oo_jMath_floorDiv1_v78_0 {kA : Nat → ClassId} : or_ok PRD kA GG o_jMath_floorDiv1_v78_0 := by
  refine or_mk fun A ta ws vs hD hth hl => ?_
  intro t0 k0 t1 k1 t2 k2 t3 k3 f0 f1 f2
  replace f0 := shm_32 f0
  replace f1 := shm_33 f1
  replace f2 := shm_34 f2
  have g5 := fdv (x := v_iv (n_v vs 0)) (y := v_iv (n_v vs 1)) (q := v_iv (n_v vs 2)) (by assumption) (by omega)
  have g8 : v_iv (n_v vs 2) * v_iv (n_v vs 1) = v_iv (n_v vs 1) * v_iv (n_v vs 2) := Int.mul_comm _ _
  have g7 := xor_sg (n := v_iv (n_v vs 3)) (a := v_iv (n_v vs 0)) (b := v_iv (n_v vs 1)) (by assumption) (by omega) (by omega) (by omega)
  have nf0 : fc_1 PRD (20, [1, 2, 0], [50, 0, 0, 0, 6, 6, 2, 1, 0, 1, 1, 1, 2]) ws (vs) := by
    refine ⟨nf_in hl rfl, sgq_35 ?_⟩
    · show (v_iv (n_v vs 1) * v_iv (n_v vs 2)) ≤ v_iv (n_v vs 0)
      first | omega | grind
  have nf1 : fc_1 PRD (20, [0, 1, 2], [50, 0, 0, 0, 6, 4, 2, 1, 0, 0, 1, 4, 6, 6, 2, 1, 1, 1, 2, 1, 1]) ws (vs) := by
    refine ⟨nf_in hl rfl, sgq_36 ?_⟩
    · show (v_iv (n_v vs 0) + 1) ≤ ((v_iv (n_v vs 1) * v_iv (n_v vs 2)) + v_iv (n_v vs 1))
      first | omega | grind
  refine ⟨(fun _ h => (by cases h)), [], trivial, ?_, (fun _ h => (by cases h))⟩
  rw [List.append_nil]
  exact List.forall_mem_cons.mpr ⟨⟨show (20 : Nat) < 100 from by decide, nf0⟩, List.forall_mem_cons.mpr ⟨⟨show (20 : Nat) < 100 from by decide, nf1⟩, (fun _ h => (by cases h))⟩⟩
def o_jMath_floorDiv1_v78_1 : or_T := (22, 5, [(0, (0, -2897, 2961, [])), (1, (0, 2, 126, [])), (2, (0, -2897, 2961, [])), (3, (0, -2147483648, -1, [])), (4, (0, -2897, 2961, []))], [(7, [4, 0], [0]), (3, [4, 2, 1], []), (8, [3], [2]), (16, [3, 0, 1], [2]), (4, [2, 0, 1], [])], [], [], [(20, [1, 2, 0], [50, 0, 0, 0, 6, 6, 2, 1, 0, 1, 1, 1, 2]), (20, [0, 1, 2], [50, 0, 0, 0, 6, 4, 2, 1, 0, 0, 1, 4, 6, 6, 2, 1, 1, 1, 2, 1, 1])], [], [(4, 0, 0, 0)])
theorem oo_jMath_floorDiv1_v78_1 {kA : Nat → ClassId} : or_ok PRD kA GG o_jMath_floorDiv1_v78_1 := by
  refine or_mk fun A ta ws vs hD hth hl => ?_
  intro t0 k0 t1 k1 t2 k2 t3 k3 t4 k4 d0 f0 f1 f2 f3 f4
  replace f0 := shm_37 f0
  replace f1 := shm_38 f1
  replace f2 := shm_39 f2
  replace f3 := shm_33 f3
  replace f4 := shm_34 f4
  have g5 := fdv (x := v_iv (n_v vs 0)) (y := v_iv (n_v vs 1)) (q := v_iv (n_v vs 2)) (by assumption) (by omega)
  have g8 : v_iv (n_v vs 2) * v_iv (n_v vs 1) = v_iv (n_v vs 1) * v_iv (n_v vs 2) := Int.mul_comm _ _
  have g7 := xor_sg (n := v_iv (n_v vs 3)) (a := v_iv (n_v vs 0)) (b := v_iv (n_v vs 1)) (by assumption) (by omega) (by omega) (by omega)
  have nf0 : fc_1 PRD (20, [1, 2, 0], [50, 0, 0, 0, 6, 6, 2, 1, 0, 1, 1, 1, 2]) ws (vs) := by
    refine ⟨nf_in hl rfl, sgq_35 ?_⟩
    · show (v_iv (n_v vs 1) * v_iv (n_v vs 2)) ≤ v_iv (n_v vs 0)
      first | omega | grind
  have nf1 : fc_1 PRD (20, [0, 1, 2], [50, 0, 0, 0, 6, 4, 2, 1, 0, 0, 1, 4, 6, 6, 2, 1, 1, 1, 2, 1, 1]) ws (vs) := by
    refine ⟨nf_in hl rfl, sgq_36 ?_⟩
    · show (v_iv (n_v vs 0) + 1) ≤ ((v_iv (n_v vs 1) * v_iv (n_v vs 2)) + v_iv (n_v vs 1))
      first | omega | grind
  refine ⟨(fun _ h => (by cases h)), [], trivial, ?_, (fun _ h => (by cases h))⟩
  rw [List.append_nil]
  exact List.forall_mem_cons.mpr ⟨⟨show (20 : Nat) < 100 from by decide, nf0⟩, List.forall_mem_cons.mpr ⟨⟨show (20 : Nat) < 100 from by decide, nf1⟩, (fun _ h => (by cases h))⟩⟩
def o_jMath_floorDiv1_v78_2 : or_T := (20, 7, [(0, (0, -2897, 2961, [])), (1, (0, 2, 126, [])), (2, (0, -2897, 2961, [])), (3, (0, -2147483648, -1, [])), (4, (0, -365022, 373086, [])), (5, (0, 1, 1, [])), (6, (0, -2898, 2960, []))], [(2, [6, 2, 5], []), (7, [4, 0], [1]), (3, [4, 2, 1], []), (8, [3], [2]), (16, [3, 0, 1], [2]), (4, [2, 0, 1], [])], [], [], [(20, [1, 6, 0], [50, 0, 0, 0, 6, 6, 2, 1, 0, 1, 1, 1, 2]), (20, [0, 1, 6], [50, 0, 0, 0, 6, 4, 2, 1, 0, 0, 1, 4, 6, 6, 2, 1, 1, 1, 2, 1, 1])], [], [(6, 2, -1, -1)])
theorem oo_jMath_floorDiv1_v78_2 {kA : Nat → ClassId} : or_ok PRD kA GG o_jMath_floorDiv1_v78_2 := by
  refine or_mk fun A ta ws vs hD hth hl => ?_
  intro t0 k0 t1 k1 t2 k2 t3 k3 t4 k4 t5 k5 t6 k6 d0 f0 f1 f2 f3 f4 f5
  replace f0 := shm_14 f0
  replace f1 := shm_40 f1
  replace f2 := shm_38 f2
  replace f3 := shm_39 f3
  replace f4 := shm_33 f4
  replace f5 := shm_34 f5
  have g5 := fdv (x := v_iv (n_v vs 0)) (y := v_iv (n_v vs 1)) (q := v_iv (n_v vs 2)) (by assumption) (by omega)
  have g8 : v_iv (n_v vs 2) * v_iv (n_v vs 1) = v_iv (n_v vs 1) * v_iv (n_v vs 2) := Int.mul_comm _ _
  have g6 := fd_1 (y := v_iv (n_v vs 1)) (q := v_iv (n_v vs 2)) (n := v_iv (n_v vs 6)) (by omega)
  have g7 := xor_sg (n := v_iv (n_v vs 3)) (a := v_iv (n_v vs 0)) (b := v_iv (n_v vs 1)) (by assumption) (by omega) (by omega) (by omega)
  have nf0 : fc_1 PRD (20, [1, 6, 0], [50, 0, 0, 0, 6, 6, 2, 1, 0, 1, 1, 1, 2]) ws (vs) := by
    refine ⟨nf_in hl rfl, sgq_35 ?_⟩
    · show (v_iv (n_v vs 1) * v_iv (n_v vs 6)) ≤ v_iv (n_v vs 0)
      first | omega | grind
  have nf1 : fc_1 PRD (20, [0, 1, 6], [50, 0, 0, 0, 6, 4, 2, 1, 0, 0, 1, 4, 6, 6, 2, 1, 1, 1, 2, 1, 1]) ws (vs) := by
    refine ⟨nf_in hl rfl, sgq_36 ?_⟩
    · show (v_iv (n_v vs 0) + 1) ≤ ((v_iv (n_v vs 1) * v_iv (n_v vs 6)) + v_iv (n_v vs 1))
      first | omega | grind
  refine ⟨(fun _ h => (by cases h)), [], trivial, ?_, (fun _ h => (by cases h))⟩
  rw [List.append_nil]
  exact List.forall_mem_cons.mpr ⟨⟨show (20 : Nat) < 100 from by decide, nf0⟩, List.forall_mem_cons.mpr ⟨⟨show (20 : Nat) < 100 from by decide, nf1⟩, (fun _ h => (by cases h))⟩⟩
def n_jMath_floorDiv1_v78_an : List an_T := []
def t_jMath_floorDiv1_v78_ct : ct_L := []
set_option maxRecDepth 100000 in
theorem c_jMath_floorDiv1_v78 {l : Launch} {D : va_G} {kA : Nat → ClassId} : ct_ok PRD l D kA GG y_jMath_floorDiv1 z_jMath_floorDiv1 e_jMath_floorDiv1_v78 := chk_all_ok (FT := []) (PT := []) (CT := t_jMath_floorDiv1_v78_ct) (KT := []) (NT := []) (AN := n_jMath_floorDiv1_v78_an) (OT := [o_jMath_floorDiv1_v78_0, o_jMath_floorDiv1_v78_1, o_jMath_floorDiv1_v78_2]) 0 200 (List.forall_mem_cons.mpr ⟨oo_jMath_floorDiv1_v78_0, List.forall_mem_cons.mpr ⟨oo_jMath_floorDiv1_v78_1, List.forall_mem_cons.mpr ⟨oo_jMath_floorDiv1_v78_2, List.forall_mem_nil _⟩⟩⟩) (pl_Math rfl (by decide)) ⟨List.forall_mem_nil _, List.forall_mem_nil _, List.forall_mem_nil _, List.forall_mem_nil _, List.forall_mem_nil _, GG_pl⟩ (by decide +kernel)
def e_jMath_floorDiv1_v79 : en_T := ([(0, -3023, 3087, []), (0, 2, 126, [])], some (0, -3024, 3087, []), true, 1, 0, 0, [], [], (0, [], [], [(20, [1, 2, 0], [50, 0, 0, 0, 6, 6, 2, 1, 0, 1, 1, 1, 2]), (20, [0, 1, 2], [50, 0, 0, 0, 6, 4, 2, 1, 0, 0, 1, 4, 6, 6, 2, 1, 1, 1, 2, 1, 1])], []))
def o_jMath_floorDiv1_v79_0 : or_T := (22, 4, [(0, (0, -3023, 3087, [])), (1, (0, 2, 126, [])), (2, (0, -3023, 3087, [])), (3, (0, 0, 2147483647, []))], [(8, [3], [3]), (16, [3, 0, 1], [2]), (4, [2, 0, 1], [])], [], [], [(20, [1, 2, 0], [50, 0, 0, 0, 6, 6, 2, 1, 0, 1, 1, 1, 2]), (20, [0, 1, 2], [50, 0, 0, 0, 6, 4, 2, 1, 0, 0, 1, 4, 6, 6, 2, 1, 1, 1, 2, 1, 1])], [], [])
theorem oo_jMath_floorDiv1_v79_0 {kA : Nat → ClassId} : or_ok PRD kA GG o_jMath_floorDiv1_v79_0 := by
  refine or_mk fun A ta ws vs hD hth hl => ?_
  intro t0 k0 t1 k1 t2 k2 t3 k3 f0 f1 f2
  replace f0 := shm_32 f0
  replace f1 := shm_33 f1
  replace f2 := shm_34 f2
  have g5 := fdv (x := v_iv (n_v vs 0)) (y := v_iv (n_v vs 1)) (q := v_iv (n_v vs 2)) (by assumption) (by omega)
  have g8 : v_iv (n_v vs 2) * v_iv (n_v vs 1) = v_iv (n_v vs 1) * v_iv (n_v vs 2) := Int.mul_comm _ _
  have g7 := xor_sg (n := v_iv (n_v vs 3)) (a := v_iv (n_v vs 0)) (b := v_iv (n_v vs 1)) (by assumption) (by omega) (by omega) (by omega)
  have nf0 : fc_1 PRD (20, [1, 2, 0], [50, 0, 0, 0, 6, 6, 2, 1, 0, 1, 1, 1, 2]) ws (vs) := by
    refine ⟨nf_in hl rfl, sgq_35 ?_⟩
    · show (v_iv (n_v vs 1) * v_iv (n_v vs 2)) ≤ v_iv (n_v vs 0)
      first | omega | grind
  have nf1 : fc_1 PRD (20, [0, 1, 2], [50, 0, 0, 0, 6, 4, 2, 1, 0, 0, 1, 4, 6, 6, 2, 1, 1, 1, 2, 1, 1]) ws (vs) := by
    refine ⟨nf_in hl rfl, sgq_36 ?_⟩
    · show (v_iv (n_v vs 0) + 1) ≤ ((v_iv (n_v vs 1) * v_iv (n_v vs 2)) + v_iv (n_v vs 1))
      first | omega | grind
  refine ⟨(fun _ h => (by cases h)), [], trivial, ?_, (fun _ h => (by cases h))⟩
  rw [List.append_nil]
  exact List.forall_mem_cons.mpr ⟨⟨show (20 : Nat) < 100 from by decide, nf0⟩, List.forall_mem_cons.mpr ⟨⟨show (20 : Nat) < 100 from by decide, nf1⟩, (fun _ h => (by cases h))⟩⟩
def o_jMath_floorDiv1_v79_1 : or_T := (22, 5, [(0, (0, -3023, 3087, [])), (1, (0, 2, 126, [])), (2, (0, -3023, 3087, [])), (3, (0, -2147483648, -1, [])), (4, (0, -3023, 3087, []))], [(7, [4, 0], [0]), (3, [4, 2, 1], []), (8, [3], [2]), (16, [3, 0, 1], [2]), (4, [2, 0, 1], [])], [], [], [(20, [1, 2, 0], [50, 0, 0, 0, 6, 6, 2, 1, 0, 1, 1, 1, 2]), (20, [0, 1, 2], [50, 0, 0, 0, 6, 4, 2, 1, 0, 0, 1, 4, 6, 6, 2, 1, 1, 1, 2, 1, 1])], [], [(4, 0, 0, 0)])
theorem oo_jMath_floorDiv1_v79_1 {kA : Nat → ClassId} : or_ok PRD kA GG o_jMath_floorDiv1_v79_1 := by
  refine or_mk fun A ta ws vs hD hth hl => ?_
  intro t0 k0 t1 k1 t2 k2 t3 k3 t4 k4 d0 f0 f1 f2 f3 f4
  replace f0 := shm_37 f0
  replace f1 := shm_38 f1
  replace f2 := shm_39 f2
  replace f3 := shm_33 f3
  replace f4 := shm_34 f4
  have g5 := fdv (x := v_iv (n_v vs 0)) (y := v_iv (n_v vs 1)) (q := v_iv (n_v vs 2)) (by assumption) (by omega)
  have g8 : v_iv (n_v vs 2) * v_iv (n_v vs 1) = v_iv (n_v vs 1) * v_iv (n_v vs 2) := Int.mul_comm _ _
  have g7 := xor_sg (n := v_iv (n_v vs 3)) (a := v_iv (n_v vs 0)) (b := v_iv (n_v vs 1)) (by assumption) (by omega) (by omega) (by omega)
  have nf0 : fc_1 PRD (20, [1, 2, 0], [50, 0, 0, 0, 6, 6, 2, 1, 0, 1, 1, 1, 2]) ws (vs) := by
    refine ⟨nf_in hl rfl, sgq_35 ?_⟩
    · show (v_iv (n_v vs 1) * v_iv (n_v vs 2)) ≤ v_iv (n_v vs 0)
      first | omega | grind
  have nf1 : fc_1 PRD (20, [0, 1, 2], [50, 0, 0, 0, 6, 4, 2, 1, 0, 0, 1, 4, 6, 6, 2, 1, 1, 1, 2, 1, 1]) ws (vs) := by
    refine ⟨nf_in hl rfl, sgq_36 ?_⟩
    · show (v_iv (n_v vs 0) + 1) ≤ ((v_iv (n_v vs 1) * v_iv (n_v vs 2)) + v_iv (n_v vs 1))
      first | omega | grind
  refine ⟨(fun _ h => (by cases h)), [], trivial, ?_, (fun _ h => (by cases h))⟩
  rw [List.append_nil]
  exact List.forall_mem_cons.mpr ⟨⟨show (20 : Nat) < 100 from by decide, nf0⟩, List.forall_mem_cons.mpr ⟨⟨show (20 : Nat) < 100 from by decide, nf1⟩, (fun _ h => (by cases h))⟩⟩
def o_jMath_floorDiv1_v79_2 : or_T := (20, 7, [(0, (0, -3023, 3087, [])), (1, (0, 2, 126, [])), (2, (0, -3023, 3087, [])), (3, (0, -2147483648, -1, [])), (4, (0, -380898, 388962, [])), (5, (0, 1, 1, [])), (6, (0, -3024, 3086, []))], [(2, [6, 2, 5], []), (7, [4, 0], [1]), (3, [4, 2, 1], []), (8, [3], [2]), (16, [3, 0, 1], [2]), (4, [2, 0, 1], [])], [], [], [(20, [1, 6, 0], [50, 0, 0, 0, 6, 6, 2, 1, 0, 1, 1, 1, 2]), (20, [0, 1, 6], [50, 0, 0, 0, 6, 4, 2, 1, 0, 0, 1, 4, 6, 6, 2, 1, 1, 1, 2, 1, 1])], [], [(6, 2, -1, -1)])
theorem oo_jMath_floorDiv1_v79_2 {kA : Nat → ClassId} : or_ok PRD kA GG o_jMath_floorDiv1_v79_2 := by
  refine or_mk fun A ta ws vs hD hth hl => ?_
  intro t0 k0 t1 k1 t2 k2 t3 k3 t4 k4 t5 k5 t6 k6 d0 f0 f1 f2 f3 f4 f5
  replace f0 := shm_14 f0
  replace f1 := shm_40 f1
  replace f2 := shm_38 f2
  replace f3 := shm_39 f3
  replace f4 := shm_33 f4
  replace f5 := shm_34 f5
  have g5 := fdv (x := v_iv (n_v vs 0)) (y := v_iv (n_v vs 1)) (q := v_iv (n_v vs 2)) (by assumption) (by omega)
  have g8 : v_iv (n_v vs 2) * v_iv (n_v vs 1) = v_iv (n_v vs 1) * v_iv (n_v vs 2) := Int.mul_comm _ _
  have g6 := fd_1 (y := v_iv (n_v vs 1)) (q := v_iv (n_v vs 2)) (n := v_iv (n_v vs 6)) (by omega)
  have g7 := xor_sg (n := v_iv (n_v vs 3)) (a := v_iv (n_v vs 0)) (b := v_iv (n_v vs 1)) (by assumption) (by omega) (by omega) (by omega)
  have nf0 : fc_1 PRD (20, [1, 6, 0], [50, 0, 0, 0, 6, 6, 2, 1, 0, 1, 1, 1, 2]) ws (vs) := by
    refine ⟨nf_in hl rfl, sgq_35 ?_⟩
    · show (v_iv (n_v vs 1) * v_iv (n_v vs 6)) ≤ v_iv (n_v vs 0)
      first | omega | grind
  have nf1 : fc_1 PRD (20, [0, 1, 6], [50, 0, 0, 0, 6, 4, 2, 1, 0, 0, 1, 4, 6, 6, 2, 1, 1, 1, 2, 1, 1]) ws (vs) := by
    refine ⟨nf_in hl rfl, sgq_36 ?_⟩
    · show (v_iv (n_v vs 0) + 1) ≤ ((v_iv (n_v vs 1) * v_iv (n_v vs 6)) + v_iv (n_v vs 1))
      first | omega | grind
  refine ⟨(fun _ h => (by cases h)), [], trivial, ?_, (fun _ h => (by cases h))⟩
  rw [List.append_nil]
  exact List.forall_mem_cons.mpr ⟨⟨show (20 : Nat) < 100 from by decide, nf0⟩, List.forall_mem_cons.mpr ⟨⟨show (20 : Nat) < 100 from by decide, nf1⟩, (fun _ h => (by cases h))⟩⟩
def n_jMath_floorDiv1_v79_an : List an_T := []
def t_jMath_floorDiv1_v79_ct : ct_L := []
set_option maxRecDepth 100000 in
theorem c_jMath_floorDiv1_v79 {l : Launch} {D : va_G} {kA : Nat → ClassId} : ct_ok PRD l D kA GG y_jMath_floorDiv1 z_jMath_floorDiv1 e_jMath_floorDiv1_v79 := chk_all_ok (FT := []) (PT := []) (CT := t_jMath_floorDiv1_v79_ct) (KT := []) (NT := []) (AN := n_jMath_floorDiv1_v79_an) (OT := [o_jMath_floorDiv1_v79_0, o_jMath_floorDiv1_v79_1, o_jMath_floorDiv1_v79_2]) 0 200 (List.forall_mem_cons.mpr ⟨oo_jMath_floorDiv1_v79_0, List.forall_mem_cons.mpr ⟨oo_jMath_floorDiv1_v79_1, List.forall_mem_cons.mpr ⟨oo_jMath_floorDiv1_v79_2, List.forall_mem_nil _⟩⟩⟩) (pl_Math rfl (by decide)) ⟨List.forall_mem_nil _, List.forall_mem_nil _, List.forall_mem_nil _, List.forall_mem_nil _, List.forall_mem_nil _, GG_pl⟩ (by decide +kernel)
def e_jMath_floorDiv1_v80 : en_T := ([(0, -3149, 3213, []), (0, 2, 126, [])], some (0, -3150, 3213, []), true, 1, 0, 0, [], [], (0, [], [], [(20, [1, 2, 0], [50, 0, 0, 0, 6, 6, 2, 1, 0, 1, 1, 1, 2]), (20, [0, 1, 2], [50, 0, 0, 0, 6, 4, 2, 1, 0, 0, 1, 4, 6, 6, 2, 1, 1, 1, 2, 1, 1])], []))
def o_jMath_floorDiv1_v80_0 : or_T := (22, 4, [(0, (0, -3149, 3213, [])), (1, (0, 2, 126, [])), (2, (0, -3149, 3213, [])), (3, (0, 0, 2147483647, []))], [(8, [3], [3]), (16, [3, 0, 1], [2]), (4, [2, 0, 1], [])], [], [], [(20, [1, 2, 0], [50, 0, 0, 0, 6, 6, 2, 1, 0, 1, 1, 1, 2]), (20, [0, 1, 2], [50, 0, 0, 0, 6, 4, 2, 1, 0, 0, 1, 4, 6, 6, 2, 1, 1, 1, 2, 1, 1])], [], [])
theorem oo_jMath_floorDiv1_v80_0 {kA : Nat → ClassId} : or_ok PRD kA GG o_jMath_floorDiv1_v80_0 := by
  refine or_mk fun A ta ws vs hD hth hl => ?_
  intro t0 k0 t1 k1 t2 k2 t3 k3 f0 f1 f2
  replace f0 := shm_32 f0
  replace f1 := shm_33 f1
  replace f2 := shm_34 f2
  have g5 := fdv (x := v_iv (n_v vs 0)) (y := v_iv (n_v vs 1)) (q := v_iv (n_v vs 2)) (by assumption) (by omega)
  have g8 : v_iv (n_v vs 2) * v_iv (n_v vs 1) = v_iv (n_v vs 1) * v_iv (n_v vs 2) := Int.mul_comm _ _
  have g7 := xor_sg (n := v_iv (n_v vs 3)) (a := v_iv (n_v vs 0)) (b := v_iv (n_v vs 1)) (by assumption) (by omega) (by omega) (by omega)
  have nf0 : fc_1 PRD (20, [1, 2, 0], [50, 0, 0, 0, 6, 6, 2, 1, 0, 1, 1, 1, 2]) ws (vs) := by
    refine ⟨nf_in hl rfl, sgq_35 ?_⟩
    · show (v_iv (n_v vs 1) * v_iv (n_v vs 2)) ≤ v_iv (n_v vs 0)
      first | omega | grind
  have nf1 : fc_1 PRD (20, [0, 1, 2], [50, 0, 0, 0, 6, 4, 2, 1, 0, 0, 1, 4, 6, 6, 2, 1, 1, 1, 2, 1, 1]) ws (vs) := by
    refine ⟨nf_in hl rfl, sgq_36 ?_⟩
    · show (v_iv (n_v vs 0) + 1) ≤ ((v_iv (n_v vs 1) * v_iv (n_v vs 2)) + v_iv (n_v vs 1))
      first | omega | grind
  refine ⟨(fun _ h => (by cases h)), [], trivial, ?_, (fun _ h => (by cases h))⟩
  rw [List.append_nil]
  exact List.forall_mem_cons.mpr ⟨⟨show (20 : Nat) < 100 from by decide, nf0⟩, List.forall_mem_cons.mpr ⟨⟨show (20 : Nat) < 100 from by decide, nf1⟩, (fun _ h => (by cases h))⟩⟩
def o_jMath_floorDiv1_v80_1 : or_T := (22, 5, [(0, (0, -3149, 3213, [])), (1, (0, 2, 126, [])), (2, (0, -3149, 3213, [])), (3, (0, -2147483648, -1, [])), (4, (0, -3149, 3213, []))], [(7, [4, 0], [0]), (3, [4, 2, 1], []), (8, [3], [2]), (16, [3, 0, 1], [2]), (4, [2, 0, 1], [])], [], [], [(20, [1, 2, 0], [50, 0, 0, 0, 6, 6, 2, 1, 0, 1, 1, 1, 2]), (20, [0, 1, 2], [50, 0, 0, 0, 6, 4, 2, 1, 0, 0, 1, 4, 6, 6, 2, 1, 1, 1, 2, 1, 1])], [], [(4, 0, 0, 0)])
theorem oo_jMath_floorDiv1_v80_1 {kA : Nat → ClassId} : or_ok PRD kA GG o_jMath_floorDiv1_v80_1 := by
  refine or_mk fun A ta ws vs hD hth hl => ?_
  intro t0 k0 t1 k1 t2 k2 t3 k3 t4 k4 d0 f0 f1 f2 f3 f4
  replace f0 := shm_37 f0
  replace f1 := shm_38 f1
  replace f2 := shm_39 f2
  replace f3 := shm_33 f3
  replace f4 := shm_34 f4
  have g5 := fdv (x := v_iv (n_v vs 0)) (y := v_iv (n_v vs 1)) (q := v_iv (n_v vs 2)) (by assumption) (by omega)
  have g8 : v_iv (n_v vs 2) * v_iv (n_v vs 1) = v_iv (n_v vs 1) * v_iv (n_v vs 2) := Int.mul_comm _ _
  have g7 := xor_sg (n := v_iv (n_v vs 3)) (a := v_iv (n_v vs 0)) (b := v_iv (n_v vs 1)) (by assumption) (by omega) (by omega) (by omega)
  have nf0 : fc_1 PRD (20, [1, 2, 0], [50, 0, 0, 0, 6, 6, 2, 1, 0, 1, 1, 1, 2]) ws (vs) := by
    refine ⟨nf_in hl rfl, sgq_35 ?_⟩
    · show (v_iv (n_v vs 1) * v_iv (n_v vs 2)) ≤ v_iv (n_v vs 0)
      first | omega | grind
  have nf1 : fc_1 PRD (20, [0, 1, 2], [50, 0, 0, 0, 6, 4, 2, 1, 0, 0, 1, 4, 6, 6, 2, 1, 1, 1, 2, 1, 1]) ws (vs) := by
    refine ⟨nf_in hl rfl, sgq_36 ?_⟩
    · show (v_iv (n_v vs 0) + 1) ≤ ((v_iv (n_v vs 1) * v_iv (n_v vs 2)) + v_iv (n_v vs 1))
      first | omega | grind
  refine ⟨(fun _ h => (by cases h)), [], trivial, ?_, (fun _ h => (by cases h))⟩
  rw [List.append_nil]
  exact List.forall_mem_cons.mpr ⟨⟨show (20 : Nat) < 100 from by decide, nf0⟩, List.forall_mem_cons.mpr ⟨⟨show (20 : Nat) < 100 from by decide, nf1⟩, (fun _ h => (by cases h))⟩⟩
def o_jMath_floorDiv1_v80_2 : or_T := (20, 7, [(0, (0, -3149, 3213, [])), (1, (0, 2, 126, [])), (2, (0, -3149, 3213, [])), (3, (0, -2147483648, -1, [])), (4, (0, -396774, 404838, [])), (5, (0, 1, 1, [])), (6, (0, -3150, 3212, []))], [(2, [6, 2, 5], []), (7, [4, 0], [1]), (3, [4, 2, 1], []), (8, [3], [2]), (16, [3, 0, 1], [2]), (4, [2, 0, 1], [])], [], [], [(20, [1, 6, 0], [50, 0, 0, 0, 6, 6, 2, 1, 0, 1, 1, 1, 2]), (20, [0, 1, 6], [50, 0, 0, 0, 6, 4, 2, 1, 0, 0, 1, 4, 6, 6, 2, 1, 1, 1, 2, 1, 1])], [], [(6, 2, -1, -1)])
theorem oo_jMath_floorDiv1_v80_2 {kA : Nat → ClassId} : or_ok PRD kA GG o_jMath_floorDiv1_v80_2 := by
  refine or_mk fun A ta ws vs hD hth hl => ?_
  intro t0 k0 t1 k1 t2 k2 t3 k3 t4 k4 t5 k5 t6 k6 d0 f0 f1 f2 f3 f4 f5
  replace f0 := shm_14 f0
  replace f1 := shm_40 f1
  replace f2 := shm_38 f2
  replace f3 := shm_39 f3
  replace f4 := shm_33 f4
  replace f5 := shm_34 f5
  have g5 := fdv (x := v_iv (n_v vs 0)) (y := v_iv (n_v vs 1)) (q := v_iv (n_v vs 2)) (by assumption) (by omega)
  have g8 : v_iv (n_v vs 2) * v_iv (n_v vs 1) = v_iv (n_v vs 1) * v_iv (n_v vs 2) := Int.mul_comm _ _
  have g6 := fd_1 (y := v_iv (n_v vs 1)) (q := v_iv (n_v vs 2)) (n := v_iv (n_v vs 6)) (by omega)
  have g7 := xor_sg (n := v_iv (n_v vs 3)) (a := v_iv (n_v vs 0)) (b := v_iv (n_v vs 1)) (by assumption) (by omega) (by omega) (by omega)
  have nf0 : fc_1 PRD (20, [1, 6, 0], [50, 0, 0, 0, 6, 6, 2, 1, 0, 1, 1, 1, 2]) ws (vs) := by
    refine ⟨nf_in hl rfl, sgq_35 ?_⟩
    · show (v_iv (n_v vs 1) * v_iv (n_v vs 6)) ≤ v_iv (n_v vs 0)
      first | omega | grind
  have nf1 : fc_1 PRD (20, [0, 1, 6], [50, 0, 0, 0, 6, 4, 2, 1, 0, 0, 1, 4, 6, 6, 2, 1, 1, 1, 2, 1, 1]) ws (vs) := by
    refine ⟨nf_in hl rfl, sgq_36 ?_⟩
    · show (v_iv (n_v vs 0) + 1) ≤ ((v_iv (n_v vs 1) * v_iv (n_v vs 6)) + v_iv (n_v vs 1))
      first | omega | grind
  refine ⟨(fun _ h => (by cases h)), [], trivial, ?_, (fun _ h => (by cases h))⟩
  rw [List.append_nil]
  exact List.forall_mem_cons.mpr ⟨⟨show (20 : Nat) < 100 from by decide, nf0⟩, List.forall_mem_cons.mpr ⟨⟨show (20 : Nat) < 100 from by decide, nf1⟩, (fun _ h => (by cases h))⟩⟩
def n_jMath_floorDiv1_v80_an : List an_T := []
def t_jMath_floorDiv1_v80_ct : ct_L := []
set_option maxRecDepth 100000 in
theorem c_jMath_floorDiv1_v80 {l : Launch} {D : va_G} {kA : Nat → ClassId} : ct_ok PRD l D kA GG y_jMath_floorDiv1 z_jMath_floorDiv1 e_jMath_floorDiv1_v80 := chk_all_ok (FT := []) (PT := []) (CT := t_jMath_floorDiv1_v80_ct) (KT := []) (NT := []) (AN := n_jMath_floorDiv1_v80_an) (OT := [o_jMath_floorDiv1_v80_0, o_jMath_floorDiv1_v80_1, o_jMath_floorDiv1_v80_2]) 0 200 (List.forall_mem_cons.mpr ⟨oo_jMath_floorDiv1_v80_0, List.forall_mem_cons.mpr ⟨oo_jMath_floorDiv1_v80_1, List.forall_mem_cons.mpr ⟨oo_jMath_floorDiv1_v80_2, List.forall_mem_nil _⟩⟩⟩) (pl_Math rfl (by decide)) ⟨List.forall_mem_nil _, List.forall_mem_nil _, List.forall_mem_nil _, List.forall_mem_nil _, List.forall_mem_nil _, GG_pl⟩ (by decide +kernel)
def e_jMath_floorDiv1_v81 : en_T := ([(0, -3275, 3339, []), (0, 2, 126, [])], some (0, -3276, 3339, []), true, 1, 0, 0, [], [], (0, [], [], [(20, [1, 2, 0], [50, 0, 0, 0, 6, 6, 2, 1, 0, 1, 1, 1, 2]), (20, [0, 1, 2], [50, 0, 0, 0, 6, 4, 2, 1, 0, 0, 1, 4, 6, 6, 2, 1, 1, 1, 2, 1, 1])], []))
def o_jMath_floorDiv1_v81_0 : or_T := (22, 4, [(0, (0, -3275, 3339, [])), (1, (0, 2, 126, [])), (2, (0, -3275, 3339, [])), (3, (0, 0, 2147483647, []))], [(8, [3], [3]), (16, [3, 0, 1], [2]), (4, [2, 0, 1], [])], [], [], [(20, [1, 2, 0], [50, 0, 0, 0, 6, 6, 2, 1, 0, 1, 1, 1, 2]), (20, [0, 1, 2], [50, 0, 0, 0, 6, 4, 2, 1, 0, 0, 1, 4, 6, 6, 2, 1, 1, 1, 2, 1, 1])], [], [])
theorem oo_jMath_floorDiv1_v81_0 {kA : Nat → ClassId} : or_ok PRD kA GG o_jMath_floorDiv1_v81_0 := by
  refine or_mk fun A ta ws vs hD hth hl => ?_
  intro t0 k0 t1 k1 t2 k2 t3 k3 f0 f1 f2
  replace f0 := shm_32 f0
  replace f1 := shm_33 f1
  replace f2 := shm_34 f2
  have g5 := fdv (x := v_iv (n_v vs 0)) (y := v_iv (n_v vs 1)) (q := v_iv (n_v vs 2)) (by assumption) (by omega)
  have g8 : v_iv (n_v vs 2) * v_iv (n_v vs 1) = v_iv (n_v vs 1) * v_iv (n_v vs 2) := Int.mul_comm _ _
  have g7 := xor_sg (n := v_iv (n_v vs 3)) (a := v_iv (n_v vs 0)) (b := v_iv (n_v vs 1)) (by assumption) (by omega) (by omega) (by omega)
  have nf0 : fc_1 PRD (20, [1, 2, 0], [50, 0, 0, 0, 6, 6, 2, 1, 0, 1, 1, 1, 2]) ws (vs) := by
    refine ⟨nf_in hl rfl, sgq_35 ?_⟩
    · show (v_iv (n_v vs 1) * v_iv (n_v vs 2)) ≤ v_iv (n_v vs 0)
      first | omega | grind
  have nf1 : fc_1 PRD (20, [0, 1, 2], [50, 0, 0, 0, 6, 4, 2, 1, 0, 0, 1, 4, 6, 6, 2, 1, 1, 1, 2, 1, 1]) ws (vs) := by
    refine ⟨nf_in hl rfl, sgq_36 ?_⟩
    · show (v_iv (n_v vs 0) + 1) ≤ ((v_iv (n_v vs 1) * v_iv (n_v vs 2)) + v_iv (n_v vs 1))
      first | omega | grind
  refine ⟨(fun _ h => (by cases h)), [], trivial, ?_, (fun _ h => (by cases h))⟩
  rw [List.append_nil]
  exact List.forall_mem_cons.mpr ⟨⟨show (20 : Nat) < 100 from by decide, nf0⟩, List.forall_mem_cons.mpr ⟨⟨show (20 : Nat) < 100 from by decide, nf1⟩, (fun _ h => (by cases h))⟩⟩
def o_jMath_floorDiv1_v81_1 : or_T := (22, 5, [(0, (0, -3275, 3339, [])), (1, (0, 2, 126, [])), (2, (0, -3275, 3339, [])), (3, (0, -2147483648, -1, [])), (4, (0, -3275, 3339, []))], [(7, [4, 0], [0]), (3, [4, 2, 1], []), (8, [3], [2]), (16, [3, 0, 1], [2]), (4, [2, 0, 1], [])], [], [], [(20, [1, 2, 0], [50, 0, 0, 0, 6, 6, 2, 1, 0, 1, 1, 1, 2]), (20, [0, 1, 2], [50, 0, 0, 0, 6, 4, 2, 1, 0, 0, 1, 4, 6, 6, 2, 1, 1, 1, 2, 1, 1])], [], [(4, 0, 0, 0)])
theorem oo_jMath_floorDiv1_v81_1 {kA : Nat → ClassId} : or_ok PRD kA GG o_jMath_floorDiv1_v81_1 := by
  refine or_mk fun A ta ws vs hD hth hl => ?_
  intro t0 k0 t1 k1 t2 k2 t3 k3 t4 k4 d0 f0 f1 f2 f3 f4
  replace f0 := shm_37 f0
  replace f1 := shm_38 f1
  replace f2 := shm_39 f2
  replace f3 := shm_33 f3
  replace f4 := shm_34 f4
  have g5 := fdv (x := v_iv (n_v vs 0)) (y := v_iv (n_v vs 1)) (q := v_iv (n_v vs 2)) (by assumption) (by omega)
  have g8 : v_iv (n_v vs 2) * v_iv (n_v vs 1) = v_iv (n_v vs 1) * v_iv (n_v vs 2) := Int.mul_comm _ _
  have g7 := xor_sg (n := v_iv (n_v vs 3)) (a := v_iv (n_v vs 0)) (b := v_iv (n_v vs 1)) (by assumption) (by omega) (by omega) (by omega)
  have nf0 : fc_1 PRD (20, [1, 2, 0], [50, 0, 0, 0, 6, 6, 2, 1, 0, 1, 1, 1, 2]) ws (vs) := by
    refine ⟨nf_in hl rfl, sgq_35 ?_⟩
    · show (v_iv (n_v vs 1) * v_iv (n_v vs 2)) ≤ v_iv (n_v vs 0)
      first | omega | grind
  have nf1 : fc_1 PRD (20, [0, 1, 2], [50, 0, 0, 0, 6, 4, 2, 1, 0, 0, 1, 4, 6, 6, 2, 1, 1, 1, 2, 1, 1]) ws (vs) := by
    refine ⟨nf_in hl rfl, sgq_36 ?_⟩
    · show (v_iv (n_v vs 0) + 1) ≤ ((v_iv (n_v vs 1) * v_iv (n_v vs 2)) + v_iv (n_v vs 1))
      first | omega | grind
  refine ⟨(fun _ h => (by cases h)), [], trivial, ?_, (fun _ h => (by cases h))⟩
  rw [List.append_nil]
  exact List.forall_mem_cons.mpr ⟨⟨show (20 : Nat) < 100 from by decide, nf0⟩, List.forall_mem_cons.mpr ⟨⟨show (20 : Nat) < 100 from by decide, nf1⟩, (fun _ h => (by cases h))⟩⟩
def o_jMath_floorDiv1_v81_2 : or_T := (20, 7, [(0, (0, -3275, 3339, [])), (1, (0, 2, 126, [])), (2, (0, -3275, 3339, [])), (3, (0, -2147483648, -1, [])), (4, (0, -412650, 420714, [])), (5, (0, 1, 1, [])), (6, (0, -3276, 3338, []))], [(2, [6, 2, 5], []), (7, [4, 0], [1]), (3, [4, 2, 1], []), (8, [3], [2]), (16, [3, 0, 1], [2]), (4, [2, 0, 1], [])], [], [], [(20, [1, 6, 0], [50, 0, 0, 0, 6, 6, 2, 1, 0, 1, 1, 1, 2]), (20, [0, 1, 6], [50, 0, 0, 0, 6, 4, 2, 1, 0, 0, 1, 4, 6, 6, 2, 1, 1, 1, 2, 1, 1])], [], [(6, 2, -1, -1)])
theorem oo_jMath_floorDiv1_v81_2 {kA : Nat → ClassId} : or_ok PRD kA GG o_jMath_floorDiv1_v81_2 := by
  refine or_mk fun A ta ws vs hD hth hl => ?_
  intro t0 k0 t1 k1 t2 k2 t3 k3 t4 k4 t5 k5 t6 k6 d0 f0 f1 f2 f3 f4 f5
  replace f0 := shm_14 f0
  replace f1 := shm_40 f1
  replace f2 := shm_38 f2
  replace f3 := shm_39 f3
  replace f4 := shm_33 f4
  replace f5 := shm_34 f5
  have g5 := fdv (x := v_iv (n_v vs 0)) (y := v_iv (n_v vs 1)) (q := v_iv (n_v vs 2)) (by assumption) (by omega)
  have g8 : v_iv (n_v vs 2) * v_iv (n_v vs 1) = v_iv (n_v vs 1) * v_iv (n_v vs 2) := Int.mul_comm _ _
  have g6 := fd_1 (y := v_iv (n_v vs 1)) (q := v_iv (n_v vs 2)) (n := v_iv (n_v vs 6)) (by omega)
  have g7 := xor_sg (n := v_iv (n_v vs 3)) (a := v_iv (n_v vs 0)) (b := v_iv (n_v vs 1)) (by assumption) (by omega) (by omega) (by omega)
  have nf0 : fc_1 PRD (20, [1, 6, 0], [50, 0, 0, 0, 6, 6, 2, 1, 0, 1, 1, 1, 2]) ws (vs) := by
    refine ⟨nf_in hl rfl, sgq_35 ?_⟩
    · show (v_iv (n_v vs 1) * v_iv (n_v vs 6)) ≤ v_iv (n_v vs 0)
      first | omega | grind
  have nf1 : fc_1 PRD (20, [0, 1, 6], [50, 0, 0, 0, 6, 4, 2, 1, 0, 0, 1, 4, 6, 6, 2, 1, 1, 1, 2, 1, 1]) ws (vs) := by
    refine ⟨nf_in hl rfl, sgq_36 ?_⟩
    · show (v_iv (n_v vs 0) + 1) ≤ ((v_iv (n_v vs 1) * v_iv (n_v vs 6)) + v_iv (n_v vs 1))
      first | omega | grind
  refine ⟨(fun _ h => (by cases h)), [], trivial, ?_, (fun _ h => (by cases h))⟩
  rw [List.append_nil]
  exact List.forall_mem_cons.mpr ⟨⟨show (20 : Nat) < 100 from by decide, nf0⟩, List.forall_mem_cons.mpr ⟨⟨show (20 : Nat) < 100 from by decide, nf1⟩, (fun _ h => (by cases h))⟩⟩
def n_jMath_floorDiv1_v81_an : List an_T := []
def t_jMath_floorDiv1_v81_ct : ct_L := []
set_option maxRecDepth 100000 in
theorem c_jMath_floorDiv1_v81 {l : Launch} {D : va_G} {kA : Nat → ClassId} : ct_ok PRD l D kA GG y_jMath_floorDiv1 z_jMath_floorDiv1 e_jMath_floorDiv1_v81 := chk_all_ok (FT := []) (PT := []) (CT := t_jMath_floorDiv1_v81_ct) (KT := []) (NT := []) (AN := n_jMath_floorDiv1_v81_an) (OT := [o_jMath_floorDiv1_v81_0, o_jMath_floorDiv1_v81_1, o_jMath_floorDiv1_v81_2]) 0 200 (List.forall_mem_cons.mpr ⟨oo_jMath_floorDiv1_v81_0, List.forall_mem_cons.mpr ⟨oo_jMath_floorDiv1_v81_1, List.forall_mem_cons.mpr ⟨oo_jMath_floorDiv1_v81_2, List.forall_mem_nil _⟩⟩⟩) (pl_Math rfl (by decide)) ⟨List.forall_mem_nil _, List.forall_mem_nil _, List.forall_mem_nil _, List.forall_mem_nil _, List.forall_mem_nil _, GG_pl⟩ (by decide +kernel)
def e_jMath_floorDiv1_v82 : en_T := ([(0, -3905, 3969, []), (0, 2, 126, [])], some (0, -3906, 3969, []), true, 1, 0, 0, [], [], (0, [], [], [(20, [1, 2, 0], [50, 0, 0, 0, 6, 6, 2, 1, 0, 1, 1, 1, 2]), (20, [0, 1, 2], [50, 0, 0, 0, 6, 4, 2, 1, 0, 0, 1, 4, 6, 6, 2, 1, 1, 1, 2, 1, 1])], []))
def o_jMath_floorDiv1_v82_0 : or_T := (22, 4, [(0, (0, -3905, 3969, [])), (1, (0, 2, 126, [])), (2, (0, -3905, 3969, [])), (3, (0, 0, 2147483647, []))], [(8, [3], [3]), (16, [3, 0, 1], [2]), (4, [2, 0, 1], [])], [], [], [(20, [1, 2, 0], [50, 0, 0, 0, 6, 6, 2, 1, 0, 1, 1, 1, 2]), (20, [0, 1, 2], [50, 0, 0, 0, 6, 4, 2, 1, 0, 0, 1, 4, 6, 6, 2, 1, 1, 1, 2, 1, 1])], [], [])
theorem oo_jMath_floorDiv1_v82_0 {kA : Nat → ClassId} : or_ok PRD kA GG o_jMath_floorDiv1_v82_0 := by
  refine or_mk fun A ta ws vs hD hth hl => ?_
  intro t0 k0 t1 k1 t2 k2 t3 k3 f0 f1 f2
  replace f0 := shm_32 f0
  replace f1 := shm_33 f1
  replace f2 := shm_34 f2
  have g5 := fdv (x := v_iv (n_v vs 0)) (y := v_iv (n_v vs 1)) (q := v_iv (n_v vs 2)) (by assumption) (by omega)
  have g8 : v_iv (n_v vs 2) * v_iv (n_v vs 1) = v_iv (n_v vs 1) * v_iv (n_v vs 2) := Int.mul_comm _ _
  have g7 := xor_sg (n := v_iv (n_v vs 3)) (a := v_iv (n_v vs 0)) (b := v_iv (n_v vs 1)) (by assumption) (by omega) (by omega) (by omega)
  have nf0 : fc_1 PRD (20, [1, 2, 0], [50, 0, 0, 0, 6, 6, 2, 1, 0, 1, 1, 1, 2]) ws (vs) := by
    refine ⟨nf_in hl rfl, sgq_35 ?_⟩
    · show (v_iv (n_v vs 1) * v_iv (n_v vs 2)) ≤ v_iv (n_v vs 0)
      first | omega | grind
  have nf1 : fc_1 PRD (20, [0, 1, 2], [50, 0, 0, 0, 6, 4, 2, 1, 0, 0, 1, 4, 6, 6, 2, 1, 1, 1, 2, 1, 1]) ws (vs) := by
    refine ⟨nf_in hl rfl, sgq_36 ?_⟩
    · show (v_iv (n_v vs 0) + 1) ≤ ((v_iv (n_v vs 1) * v_iv (n_v vs 2)) + v_iv (n_v vs 1))
      first | omega | grind
  refine ⟨(fun _ h => (by cases h)), [], trivial, ?_, (fun _ h => (by cases h))⟩
  rw [List.append_nil]
  exact List.forall_mem_cons.mpr ⟨⟨show (20 : Nat) < 100 from by decide, nf0⟩, List.forall_mem_cons.mpr ⟨⟨show (20 : Nat) < 100 from by decide, nf1⟩, (fun _ h => (by cases h))⟩⟩
def o_jMath_floorDiv1_v82_1 : or_T := (22, 5, [(0, (0, -3905, 3969, [])), (1, (0, 2, 126, [])), (2, (0, -3905, 3969, [])), (3, (0, -2147483648, -1, [])), (4, (0, -3905, 3969, []))], [(7, [4, 0], [0]), (3, [4, 2, 1], []), (8, [3], [2]), (16, [3, 0, 1], [2]), (4, [2, 0, 1], [])], [], [], [(20, [1, 2, 0], [50, 0, 0, 0, 6, 6, 2, 1, 0, 1, 1, 1, 2]), (20, [0, 1, 2], [50, 0, 0, 0, 6, 4, 2, 1, 0, 0, 1, 4, 6, 6, 2, 1, 1, 1, 2, 1, 1])], [], [(4, 0, 0, 0)])
theorem oo_jMath_floorDiv1_v82_1 {kA : Nat → ClassId} : or_ok PRD kA GG o_jMath_floorDiv1_v82_1 := by
  refine or_mk fun A ta ws vs hD hth hl => ?_
  intro t0 k0 t1 k1 t2 k2 t3 k3 t4 k4 d0 f0 f1 f2 f3 f4
  replace f0 := shm_37 f0
  replace f1 := shm_38 f1
  replace f2 := shm_39 f2
  replace f3 := shm_33 f3
  replace f4 := shm_34 f4
  have g5 := fdv (x := v_iv (n_v vs 0)) (y := v_iv (n_v vs 1)) (q := v_iv (n_v vs 2)) (by assumption) (by omega)
  have g8 : v_iv (n_v vs 2) * v_iv (n_v vs 1) = v_iv (n_v vs 1) * v_iv (n_v vs 2) := Int.mul_comm _ _
  have g7 := xor_sg (n := v_iv (n_v vs 3)) (a := v_iv (n_v vs 0)) (b := v_iv (n_v vs 1)) (by assumption) (by omega) (by omega) (by omega)
  have nf0 : fc_1 PRD (20, [1, 2, 0], [50, 0, 0, 0, 6, 6, 2, 1, 0, 1, 1, 1, 2]) ws (vs) := by
    refine ⟨nf_in hl rfl, sgq_35 ?_⟩
    · show (v_iv (n_v vs 1) * v_iv (n_v vs 2)) ≤ v_iv (n_v vs 0)
      first | omega | grind
  have nf1 : fc_1 PRD (20, [0, 1, 2], [50, 0, 0, 0, 6, 4, 2, 1, 0, 0, 1, 4, 6, 6, 2, 1, 1, 1, 2, 1, 1]) ws (vs) := by
    refine ⟨nf_in hl rfl, sgq_36 ?_⟩
    · show (v_iv (n_v vs 0) + 1) ≤ ((v_iv (n_v vs 1) * v_iv (n_v vs 2)) + v_iv (n_v vs 1))
      first | omega | grind
  refine ⟨(fun _ h => (by cases h)), [], trivial, ?_, (fun _ h => (by cases h))⟩
  rw [List.append_nil]
  exact List.forall_mem_cons.mpr ⟨⟨show (20 : Nat) < 100 from by decide, nf0⟩, List.forall_mem_cons.mpr ⟨⟨show (20 : Nat) < 100 from by decide, nf1⟩, (fun _ h => (by cases h))⟩⟩
def o_jMath_floorDiv1_v82_2 : or_T := (20, 7, [(0, (0, -3905, 3969, [])), (1, (0, 2, 126, [])), (2, (0, -3905, 3969, [])), (3, (0, -2147483648, -1, [])), (4, (0, -492030, 500094, [])), (5, (0, 1, 1, [])), (6, (0, -3906, 3968, []))], [(2, [6, 2, 5], []), (7, [4, 0], [1]), (3, [4, 2, 1], []), (8, [3], [2]), (16, [3, 0, 1], [2]), (4, [2, 0, 1], [])], [], [], [(20, [1, 6, 0], [50, 0, 0, 0, 6, 6, 2, 1, 0, 1, 1, 1, 2]), (20, [0, 1, 6], [50, 0, 0, 0, 6, 4, 2, 1, 0, 0, 1, 4, 6, 6, 2, 1, 1, 1, 2, 1, 1])], [], [(6, 2, -1, -1)])
theorem oo_jMath_floorDiv1_v82_2 {kA : Nat → ClassId} : or_ok PRD kA GG o_jMath_floorDiv1_v82_2 := by
  refine or_mk fun A ta ws vs hD hth hl => ?_
  intro t0 k0 t1 k1 t2 k2 t3 k3 t4 k4 t5 k5 t6 k6 d0 f0 f1 f2 f3 f4 f5
  replace f0 := shm_14 f0
  replace f1 := shm_40 f1
  replace f2 := shm_38 f2
  replace f3 := shm_39 f3
  replace f4 := shm_33 f4
  replace f5 := shm_34 f5
  have g5 := fdv (x := v_iv (n_v vs 0)) (y := v_iv (n_v vs 1)) (q := v_iv (n_v vs 2)) (by assumption) (by omega)
  have g8 : v_iv (n_v vs 2) * v_iv (n_v vs 1) = v_iv (n_v vs 1) * v_iv (n_v vs 2) := Int.mul_comm _ _
  have g6 := fd_1 (y := v_iv (n_v vs 1)) (q := v_iv (n_v vs 2)) (n := v_iv (n_v vs 6)) (by omega)
  have g7 := xor_sg (n := v_iv (n_v vs 3)) (a := v_iv (n_v vs 0)) (b := v_iv (n_v vs 1)) (by assumption) (by omega) (by omega) (by omega)
  have nf0 : fc_1 PRD (20, [1, 6, 0], [50, 0, 0, 0, 6, 6, 2, 1, 0, 1, 1, 1, 2]) ws (vs) := by
    refine ⟨nf_in hl rfl, sgq_35 ?_⟩
    · show (v_iv (n_v vs 1) * v_iv (n_v vs 6)) ≤ v_iv (n_v vs 0)
      first | omega | grind
  have nf1 : fc_1 PRD (20, [0, 1, 6], [50, 0, 0, 0, 6, 4, 2, 1, 0, 0, 1, 4, 6, 6, 2, 1, 1, 1, 2, 1, 1]) ws (vs) := by
    refine ⟨nf_in hl rfl, sgq_36 ?_⟩
    · show (v_iv (n_v vs 0) + 1) ≤ ((v_iv (n_v vs 1) * v_iv (n_v vs 6)) + v_iv (n_v vs 1))
      first | omega | grind
  refine ⟨(fun _ h => (by cases h)), [], trivial, ?_, (fun _ h => (by cases h))⟩
  rw [List.append_nil]
  exact List.forall_mem_cons.mpr ⟨⟨show (20 : Nat) < 100 from by decide, nf0⟩, List.forall_mem_cons.mpr ⟨⟨show (20 : Nat) < 100 from by decide, nf1⟩, (fun _ h => (by cases h))⟩⟩
def n_jMath_floorDiv1_v82_an : List an_T := []
def t_jMath_floorDiv1_v82_ct : ct_L := []
set_option maxRecDepth 100000 in
theorem c_jMath_floorDiv1_v82 {l : Launch} {D : va_G} {kA : Nat → ClassId} : ct_ok PRD l D kA GG y_jMath_floorDiv1 z_jMath_floorDiv1 e_jMath_floorDiv1_v82 := chk_all_ok (FT := []) (PT := []) (CT := t_jMath_floorDiv1_v82_ct) (KT := []) (NT := []) (AN := n_jMath_floorDiv1_v82_an) (OT := [o_jMath_floorDiv1_v82_0, o_jMath_floorDiv1_v82_1, o_jMath_floorDiv1_v82_2]) 0 200 (List.forall_mem_cons.mpr ⟨oo_jMath_floorDiv1_v82_0, List.forall_mem_cons.mpr ⟨oo_jMath_floorDiv1_v82_1, List.forall_mem_cons.mpr ⟨oo_jMath_floorDiv1_v82_2, List.forall_mem_nil _⟩⟩⟩) (pl_Math rfl (by decide)) ⟨List.forall_mem_nil _, List.forall_mem_nil _, List.forall_mem_nil _, List.forall_mem_nil _, List.forall_mem_nil _, GG_pl⟩ (by decide +kernel)
def e_jMath_floorDiv1_v83 : en_T := ([(0, -4031, 4095, []), (0, 2, 126, [])], some (0, -4032, 4095, []), true, 1, 0, 0, [], [], (0, [], [], [(20, [1, 2, 0], [50, 0, 0, 0, 6, 6, 2, 1, 0, 1, 1, 1, 2]), (20, [0, 1, 2], [50, 0, 0, 0, 6, 4, 2, 1, 0, 0, 1, 4, 6, 6, 2, 1, 1, 1, 2, 1, 1])], []))
def o_jMath_floorDiv1_v83_0 : or_T := (22, 4, [(0, (0, -4031, 4095, [])), (1, (0, 2, 126, [])), (2, (0, -4031, 4095, [])), (3, (0, 0, 2147483647, []))], [(8, [3], [3]), (16, [3, 0, 1], [2]), (4, [2, 0, 1], [])], [], [], [(20, [1, 2, 0], [50, 0, 0, 0, 6, 6, 2, 1, 0, 1, 1, 1, 2]), (20, [0, 1, 2], [50, 0, 0, 0, 6, 4, 2, 1, 0, 0, 1, 4, 6, 6, 2, 1, 1, 1, 2, 1, 1])], [], [])
theorem oo_jMath_floorDiv1_v83_0 {kA : Nat → ClassId} : or_ok PRD kA GG o_jMath_floorDiv1_v83_0 := by
  refine or_mk fun A ta ws vs hD hth hl => ?_
  intro t0 k0 t1 k1 t2 k2 t3 k3 f0 f1 f2
  replace f0 := shm_32 f0
  replace f1 := shm_33 f1
  replace f2 := shm_34 f2
  have g5 := fdv (x := v_iv (n_v vs 0)) (y := v_iv (n_v vs 1)) (q := v_iv (n_v vs 2)) (by assumption) (by omega)
  have g8 : v_iv (n_v vs 2) * v_iv (n_v vs 1) = v_iv (n_v vs 1) * v_iv (n_v vs 2) := Int.mul_comm _ _
  have g7 := xor_sg (n := v_iv (n_v vs 3)) (a := v_iv (n_v vs 0)) (b := v_iv (n_v vs 1)) (by assumption) (by omega) (by omega) (by omega)
  have nf0 : fc_1 PRD (20, [1, 2, 0], [50, 0, 0, 0, 6, 6, 2, 1, 0, 1, 1, 1, 2]) ws (vs) := by
    refine ⟨nf_in hl rfl, sgq_35 ?_⟩
    · show (v_iv (n_v vs 1) * v_iv (n_v vs 2)) ≤ v_iv (n_v vs 0)
      first | omega | grind
  have nf1 : fc_1 PRD (20, [0, 1, 2], [50, 0, 0, 0, 6, 4, 2, 1, 0, 0, 1, 4, 6, 6, 2, 1, 1, 1, 2, 1, 1]) ws (vs) := by
    refine ⟨nf_in hl rfl, sgq_36 ?_⟩
    · show (v_iv (n_v vs 0) + 1) ≤ ((v_iv (n_v vs 1) * v_iv (n_v vs 2)) + v_iv (n_v vs 1))
      first | omega | grind
  refine ⟨(fun _ h => (by cases h)), [], trivial, ?_, (fun _ h => (by cases h))⟩
  rw [List.append_nil]
  exact List.forall_mem_cons.mpr ⟨⟨show (20 : Nat) < 100 from by decide, nf0⟩, List.forall_mem_cons.mpr ⟨⟨show (20 : Nat) < 100 from by decide, nf1⟩, (fun _ h => (by cases h))⟩⟩
def o_jMath_floorDiv1_v83_1 : or_T := (22, 5, [(0, (0, -4031, 4095, [])), (1, (0, 2, 126, [])), (2, (0, -4031, 4095, [])), (3, (0, -2147483648, -1, [])), (4, (0, -4031, 4095, []))], [(7, [4, 0], [0]), (3, [4, 2, 1], []), (8, [3], [2]), (16, [3, 0, 1], [2]), (4, [2, 0, 1], [])], [], [], [(20, [1, 2, 0], [50, 0, 0, 0, 6, 6, 2, 1, 0, 1, 1, 1, 2]), (20, [0, 1, 2], [50, 0, 0, 0, 6, 4, 2, 1, 0, 0, 1, 4, 6, 6, 2, 1, 1, 1, 2, 1, 1])], [], [(4, 0, 0, 0)])
theorem oo_jMath_floorDiv1_v83_1 {kA : Nat → ClassId} : or_ok PRD kA GG o_jMath_floorDiv1_v83_1 := by
  refine or_mk fun A ta ws vs hD hth hl => ?_
  intro t0 k0 t1 k1 t2 k2 t3 k3 t4 k4 d0 f0 f1 f2 f3 f4
  replace f0 := shm_37 f0
  replace f1 := shm_38 f1
  replace f2 := shm_39 f2
  replace f3 := shm_33 f3
  replace f4 := shm_34 f4
  have g5 := fdv (x := v_iv (n_v vs 0)) (y := v_iv (n_v vs 1)) (q := v_iv (n_v vs 2)) (by assumption) (by omega)
  have g8 : v_iv (n_v vs 2) * v_iv (n_v vs 1) = v_iv (n_v vs 1) * v_iv (n_v vs 2) := Int.mul_comm _ _
  have g7 := xor_sg (n := v_iv (n_v vs 3)) (a := v_iv (n_v vs 0)) (b := v_iv (n_v vs 1)) (by assumption) (by omega) (by omega) (by omega)
  have nf0 : fc_1 PRD (20, [1, 2, 0], [50, 0, 0, 0, 6, 6, 2, 1, 0, 1, 1, 1, 2]) ws (vs) := by
    refine ⟨nf_in hl rfl, sgq_35 ?_⟩
    · show (v_iv (n_v vs 1) * v_iv (n_v vs 2)) ≤ v_iv (n_v vs 0)
      first | omega | grind
  have nf1 : fc_1 PRD (20, [0, 1, 2], [50, 0, 0, 0, 6, 4, 2, 1, 0, 0, 1, 4, 6, 6, 2, 1, 1, 1, 2, 1, 1]) ws (vs) := by
    refine ⟨nf_in hl rfl, sgq_36 ?_⟩
    · show (v_iv (n_v vs 0) + 1) ≤ ((v_iv (n_v vs 1) * v_iv (n_v vs 2)) + v_iv (n_v vs 1))
      first | omega | grind
  refine ⟨(fun _ h => (by cases h)), [], trivial, ?_, (fun _ h => (by cases h))⟩
  rw [List.append_nil]
  exact List.forall_mem_cons.mpr ⟨⟨show (20 : Nat) < 100 from by decide, nf0⟩, List.forall_mem_cons.mpr ⟨⟨show (20 : Nat) < 100 from by decide, nf1⟩, (fun _ h => (by cases h))⟩⟩
def o_jMath_floorDiv1_v83_2 : or_T := (20, 7, [(0, (0, -4031, 4095, [])), (1, (0, 2, 126, [])), (2, (0, -4031, 4095, [])), (3, (0, -2147483648, -1, [])), (4, (0, -507906, 515970, [])), (5, (0, 1, 1, [])), (6, (0, -4032, 4094, []))], [(2, [6, 2, 5], []), (7, [4, 0], [1]), (3, [4, 2, 1], []), (8, [3], [2]), (16, [3, 0, 1], [2]), (4, [2, 0, 1], [])], [], [], [(20, [1, 6, 0], [50, 0, 0, 0, 6, 6, 2, 1, 0, 1, 1, 1, 2]), (20, [0, 1, 6], [50, 0, 0, 0, 6, 4, 2, 1, 0, 0, 1, 4, 6, 6, 2, 1, 1, 1, 2, 1, 1])], [], [(6, 2, -1, -1)])
theorem oo_jMath_floorDiv1_v83_2 {kA : Nat → ClassId} : or_ok PRD kA GG o_jMath_floorDiv1_v83_2 := by
  refine or_mk fun A ta ws vs hD hth hl => ?_
  intro t0 k0 t1 k1 t2 k2 t3 k3 t4 k4 t5 k5 t6 k6 d0 f0 f1 f2 f3 f4 f5
  replace f0 := shm_14 f0
  replace f1 := shm_40 f1
  replace f2 := shm_38 f2
  replace f3 := shm_39 f3
  replace f4 := shm_33 f4
  replace f5 := shm_34 f5
  have g5 := fdv (x := v_iv (n_v vs 0)) (y := v_iv (n_v vs 1)) (q := v_iv (n_v vs 2)) (by assumption) (by omega)
  have g8 : v_iv (n_v vs 2) * v_iv (n_v vs 1) = v_iv (n_v vs 1) * v_iv (n_v vs 2) := Int.mul_comm _ _
  have g6 := fd_1 (y := v_iv (n_v vs 1)) (q := v_iv (n_v vs 2)) (n := v_iv (n_v vs 6)) (by omega)
  have g7 := xor_sg (n := v_iv (n_v vs 3)) (a := v_iv (n_v vs 0)) (b := v_iv (n_v vs 1)) (by assumption) (by omega) (by omega) (by omega)
  have nf0 : fc_1 PRD (20, [1, 6, 0], [50, 0, 0, 0, 6, 6, 2, 1, 0, 1, 1, 1, 2]) ws (vs) := by
    refine ⟨nf_in hl rfl, sgq_35 ?_⟩
    · show (v_iv (n_v vs 1) * v_iv (n_v vs 6)) ≤ v_iv (n_v vs 0)
      first | omega | grind
  have nf1 : fc_1 PRD (20, [0, 1, 6], [50, 0, 0, 0, 6, 4, 2, 1, 0, 0, 1, 4, 6, 6, 2, 1, 1, 1, 2, 1, 1]) ws (vs) := by
    refine ⟨nf_in hl rfl, sgq_36 ?_⟩
    · show (v_iv (n_v vs 0) + 1) ≤ ((v_iv (n_v vs 1) * v_iv (n_v vs 6)) + v_iv (n_v vs 1))
      first | omega | grind
  refine ⟨(fun _ h => (by cases h)), [], trivial, ?_, (fun _ h => (by cases h))⟩
  rw [List.append_nil]
  exact List.forall_mem_cons.mpr ⟨⟨show (20 : Nat) < 100 from by decide, nf0⟩, List.forall_mem_cons.mpr ⟨⟨show (20 : Nat) < 100 from by decide, nf1⟩, (fun _ h => (by cases h))⟩⟩
def n_jMath_floorDiv1_v83_an : List an_T := []
def t_jMath_floorDiv1_v83_ct : ct_L := []
set_option maxRecDepth 100000 in
theorem c_jMath_floorDiv1_v83 {l : Launch} {D : va_G} {kA : Nat → ClassId} : ct_ok PRD l D kA GG y_jMath_floorDiv1 z_jMath_floorDiv1 e_jMath_floorDiv1_v83 := chk_all_ok (FT := []) (PT := []) (CT := t_jMath_floorDiv1_v83_ct) (KT := []) (NT := []) (AN := n_jMath_floorDiv1_v83_an) (OT := [o_jMath_floorDiv1_v83_0, o_jMath_floorDiv1_v83_1, o_jMath_floorDiv1_v83_2]) 0 200 (List.forall_mem_cons.mpr ⟨oo_jMath_floorDiv1_v83_0, List.forall_mem_cons.mpr ⟨oo_jMath_floorDiv1_v83_1, List.forall_mem_cons.mpr ⟨oo_jMath_floorDiv1_v83_2, List.forall_mem_nil _⟩⟩⟩) (pl_Math rfl (by decide)) ⟨List.forall_mem_nil _, List.forall_mem_nil _, List.forall_mem_nil _, List.forall_mem_nil _, List.forall_mem_nil _, GG_pl⟩ (by decide +kernel)
def e_jMath_floorDiv1_v84 : en_T := ([(0, -5921, 5985, []), (0, 2, 126, [])], some (0, -5922, 5985, []), true, 1, 0, 0, [], [], (0, [], [], [(20, [1, 2, 0], [50, 0, 0, 0, 6, 6, 2, 1, 0, 1, 1, 1, 2]), (20, [0, 1, 2], [50, 0, 0, 0, 6, 4, 2, 1, 0, 0, 1, 4, 6, 6, 2, 1, 1, 1, 2, 1, 1])], []))
def o_jMath_floorDiv1_v84_0 : or_T := (22, 4, [(0, (0, -5921, 5985, [])), (1, (0, 2, 126, [])), (2, (0, -5921, 5985, [])), (3, (0, 0, 2147483647, []))], [(8, [3], [3]), (16, [3, 0, 1], [2]), (4, [2, 0, 1], [])], [], [], [(20, [1, 2, 0], [50, 0, 0, 0, 6, 6, 2, 1, 0, 1, 1, 1, 2]), (20, [0, 1, 2], [50, 0, 0, 0, 6, 4, 2, 1, 0, 0, 1, 4, 6, 6, 2, 1, 1, 1, 2, 1, 1])], [], [])
theorem oo_jMath_floorDiv1_v84_0 {kA : Nat → ClassId} : or_ok PRD kA GG o_jMath_floorDiv1_v84_0 := by
  refine or_mk fun A ta ws vs hD hth hl => ?_
  intro t0 k0 t1 k1 t2 k2 t3 k3 f0 f1 f2
  replace f0 := shm_32 f0
  replace f1 := shm_33 f1
  replace f2 := shm_34 f2
  have g5 := fdv (x := v_iv (n_v vs 0)) (y := v_iv (n_v vs 1)) (q := v_iv (n_v vs 2)) (by assumption) (by omega)
  have g8 : v_iv (n_v vs 2) * v_iv (n_v vs 1) = v_iv (n_v vs 1) * v_iv (n_v vs 2) := Int.mul_comm _ _
  have g7 := xor_sg (n := v_iv (n_v vs 3)) (a := v_iv (n_v vs 0)) (b := v_iv (n_v vs 1)) (by assumption) (by omega) (by omega) (by omega)
  have nf0 : fc_1 PRD (20, [1, 2, 0], [50, 0, 0, 0, 6, 6, 2, 1, 0, 1, 1, 1, 2]) ws (vs) := by
    refine ⟨nf_in hl rfl, sgq_35 ?_⟩
    · show (v_iv (n_v vs 1) * v_iv (n_v vs 2)) ≤ v_iv (n_v vs 0)
      first | omega | grind
  have nf1 : fc_1 PRD (20, [0, 1, 2], [50, 0, 0, 0, 6, 4, 2, 1, 0, 0, 1, 4, 6, 6, 2, 1, 1, 1, 2, 1, 1]) ws (vs) := by
    refine ⟨nf_in hl rfl, sgq_36 ?_⟩
    · show (v_iv (n_v vs 0) + 1) ≤ ((v_iv (n_v vs 1) * v_iv (n_v vs 2)) + v_iv (n_v vs 1))
      first | omega | grind
  refine ⟨(fun _ h => (by cases h)), [], trivial, ?_, (fun _ h => (by cases h))⟩
  rw [List.append_nil]
  exact List.forall_mem_cons.mpr ⟨⟨show (20 : Nat) < 100 from by decide, nf0⟩, List.forall_mem_cons.mpr ⟨⟨show (20 : Nat) < 100 from by decide, nf1⟩, (fun _ h => (by cases h))⟩⟩
def o_jMath_floorDiv1_v84_1 : or_T := (22, 5, [(0, (0, -5921, 5985, [])), (1, (0, 2, 126, [])), (2, (0, -5921, 5985, [])), (3, (0, -2147483648, -1, [])), (4, (0, -5921, 5985, []))], [(7, [4, 0], [0]), (3, [4, 2, 1], []), (8, [3], [2]), (16, [3, 0, 1], [2]), (4, [2, 0, 1], [])], [], [], [(20, [1, 2, 0], [50, 0, 0, 0, 6, 6, 2, 1, 0, 1, 1, 1, 2]), (20, [0, 1, 2], [50, 0, 0, 0, 6, 4, 2, 1, 0, 0, 1, 4, 6, 6, 2, 1, 1, 1, 2, 1, 1])], [], [(4, 0, 0, 0)])
theorem oo_jMath_floorDiv1_v84_1 {kA : Nat → ClassId} : or_ok PRD kA GG o_jMath_floorDiv1_v84_1 := by
  refine or_mk fun A ta ws vs hD hth hl => ?_
  intro t0 k0 t1 k1 t2 k2 t3 k3 t4 k4 d0 f0 f1 f2 f3 f4
  replace f0 := shm_37 f0
  replace f1 := shm_38 f1
  replace f2 := shm_39 f2
  replace f3 := shm_33 f3
  replace f4 := shm_34 f4
  have g5 := fdv (x := v_iv (n_v vs 0)) (y := v_iv (n_v vs 1)) (q := v_iv (n_v vs 2)) (by assumption) (by omega)
  have g8 : v_iv (n_v vs 2) * v_iv (n_v vs 1) = v_iv (n_v vs 1) * v_iv (n_v vs 2) := Int.mul_comm _ _
  have g7 := xor_sg (n := v_iv (n_v vs 3)) (a := v_iv (n_v vs 0)) (b := v_iv (n_v vs 1)) (by assumption) (by omega) (by omega) (by omega)
  have nf0 : fc_1 PRD (20, [1, 2, 0], [50, 0, 0, 0, 6, 6, 2, 1, 0, 1, 1, 1, 2]) ws (vs) := by
    refine ⟨nf_in hl rfl, sgq_35 ?_⟩
    · show (v_iv (n_v vs 1) * v_iv (n_v vs 2)) ≤ v_iv (n_v vs 0)
      first | omega | grind
  have nf1 : fc_1 PRD (20, [0, 1, 2], [50, 0, 0, 0, 6, 4, 2, 1, 0, 0, 1, 4, 6, 6, 2, 1, 1, 1, 2, 1, 1]) ws (vs) := by
    refine ⟨nf_in hl rfl, sgq_36 ?_⟩
    · show (v_iv (n_v vs 0) + 1) ≤ ((v_iv (n_v vs 1) * v_iv (n_v vs 2)) + v_iv (n_v vs 1))
      first | omega | grind
  refine ⟨(fun _ h => (by cases h)), [], trivial, ?_, (fun _ h => (by cases h))⟩
  rw [List.append_nil]
  exact List.forall_mem_cons.mpr ⟨⟨show (20 : Nat) < 100 from by decide, nf0⟩, List.forall_mem_cons.mpr ⟨⟨show (20 : Nat) < 100 from by decide, nf1⟩, (fun _ h => (by cases h))⟩⟩
def o_jMath_floorDiv1_v84_2 : or_T := (20, 7, [(0, (0, -5921, 5985, [])), (1, (0, 2, 126, [])), (2, (0, -5921, 5985, [])), (3, (0, -2147483648, -1, [])), (4, (0, -746046, 754110, [])), (5, (0, 1, 1, [])), (6, (0, -5922, 5984, []))], [(2, [6, 2, 5], []), (7, [4, 0], [1]), (3, [4, 2, 1], []), (8, [3], [2]), (16, [3, 0, 1], [2]), (4, [2, 0, 1], [])], [], [], [(20, [1, 6, 0], [50, 0, 0, 0, 6, 6, 2, 1, 0, 1, 1, 1, 2]), (20, [0, 1, 6], [50, 0, 0, 0, 6, 4, 2, 1, 0, 0, 1, 4, 6, 6, 2, 1, 1, 1, 2, 1, 1])], [], [(6, 2, -1, -1)])
theorem oo_jMath_floorDiv1_v84_2 {kA : Nat → ClassId} : or_ok PRD kA GG o_jMath_floorDiv1_v84_2 := by
  refine or_mk fun A ta ws vs hD hth hl => ?_
  intro t0 k0 t1 k1 t2 k2 t3 k3 t4 k4 t5 k5 t6 k6 d0 f0 f1 f2 f3 f4 f5
  replace f0 := shm_14 f0
  replace f1 := shm_40 f1
  replace f2 := shm_38 f2
  replace f3 := shm_39 f3
  replace f4 := shm_33 f4
  replace f5 := shm_34 f5
  have g5 := fdv (x := v_iv (n_v vs 0)) (y := v_iv (n_v vs 1)) (q := v_iv (n_v vs 2)) (by assumption) (by omega)
  have g8 : v_iv (n_v vs 2) * v_iv (n_v vs 1) = v_iv (n_v vs 1) * v_iv (n_v vs 2) := Int.mul_comm _ _
  have g6 := fd_1 (y := v_iv (n_v vs 1)) (q := v_iv (n_v vs 2)) (n := v_iv (n_v vs 6)) (by omega)
  have g7 := xor_sg (n := v_iv (n_v vs 3)) (a := v_iv (n_v vs 0)) (b := v_iv (n_v vs 1)) (by assumption) (by omega) (by omega) (by omega)
  have nf0 : fc_1 PRD (20, [1, 6, 0], [50, 0, 0, 0, 6, 6, 2, 1, 0, 1, 1, 1, 2]) ws (vs) := by
    refine ⟨nf_in hl rfl, sgq_35 ?_⟩
    · show (v_iv (n_v vs 1) * v_iv (n_v vs 6)) ≤ v_iv (n_v vs 0)
      first | omega | grind
  have nf1 : fc_1 PRD (20, [0, 1, 6], [50, 0, 0, 0, 6, 4, 2, 1, 0, 0, 1, 4, 6, 6, 2, 1, 1, 1, 2, 1, 1]) ws (vs) := by
    refine ⟨nf_in hl rfl, sgq_36 ?_⟩
    · show (v_iv (n_v vs 0) + 1) ≤ ((v_iv (n_v vs 1) * v_iv (n_v vs 6)) + v_iv (n_v vs 1))
      first | omega | grind
  refine ⟨(fun _ h => (by cases h)), [], trivial, ?_, (fun _ h => (by cases h))⟩
  rw [List.append_nil]
  exact List.forall_mem_cons.mpr ⟨⟨show (20 : Nat) < 100 from by decide, nf0⟩, List.forall_mem_cons.mpr ⟨⟨show (20 : Nat) < 100 from by decide, nf1⟩, (fun _ h => (by cases h))⟩⟩
def n_jMath_floorDiv1_v84_an : List an_T := []
def t_jMath_floorDiv1_v84_ct : ct_L := []
set_option maxRecDepth 100000 in
theorem c_jMath_floorDiv1_v84 {l : Launch} {D : va_G} {kA : Nat → ClassId} : ct_ok PRD l D kA GG y_jMath_floorDiv1 z_jMath_floorDiv1 e_jMath_floorDiv1_v84 := chk_all_ok (FT := []) (PT := []) (CT := t_jMath_floorDiv1_v84_ct) (KT := []) (NT := []) (AN := n_jMath_floorDiv1_v84_an) (OT := [o_jMath_floorDiv1_v84_0, o_jMath_floorDiv1_v84_1, o_jMath_floorDiv1_v84_2]) 0 200 (List.forall_mem_cons.mpr ⟨oo_jMath_floorDiv1_v84_0, List.forall_mem_cons.mpr ⟨oo_jMath_floorDiv1_v84_1, List.forall_mem_cons.mpr ⟨oo_jMath_floorDiv1_v84_2, List.forall_mem_nil _⟩⟩⟩) (pl_Math rfl (by decide)) ⟨List.forall_mem_nil _, List.forall_mem_nil _, List.forall_mem_nil _, List.forall_mem_nil _, List.forall_mem_nil _, GG_pl⟩ (by decide +kernel)
def e_jMath_floorDiv1_v85 : en_T := ([(0, -6047, 6111, []), (0, 2, 126, [])], some (0, -6048, 6111, []), true, 1, 0, 0, [], [], (0, [], [], [(20, [1, 2, 0], [50, 0, 0, 0, 6, 6, 2, 1, 0, 1, 1, 1, 2]), (20, [0, 1, 2], [50, 0, 0, 0, 6, 4, 2, 1, 0, 0, 1, 4, 6, 6, 2, 1, 1, 1, 2, 1, 1])], []))
def o_jMath_floorDiv1_v85_0 : or_T := (22, 4, [(0, (0, -6047, 6111, [])), (1, (0, 2, 126, [])), (2, (0, -6047, 6111, [])), (3, (0, 0, 2147483647, []))], [(8, [3], [3]), (16, [3, 0, 1], [2]), (4, [2, 0, 1], [])], [], [], [(20, [1, 2, 0], [50, 0, 0, 0, 6, 6, 2, 1, 0, 1, 1, 1, 2]), (20, [0, 1, 2], [50, 0, 0, 0, 6, 4, 2, 1, 0, 0, 1, 4, 6, 6, 2, 1, 1, 1, 2, 1, 1])], [], [])
theorem oo_jMath_floorDiv1_v85_0 {kA : Nat → ClassId} : or_ok PRD kA GG o_jMath_floorDiv1_v85_0 := by
  refine or_mk fun A ta ws vs hD hth hl => ?_
  intro t0 k0 t1 k1 t2 k2 t3 k3 f0 f1 f2
  replace f0 := shm_32 f0
  replace f1 := shm_33 f1
  replace f2 := shm_34 f2
  have g5 := fdv (x := v_iv (n_v vs 0)) (y := v_iv (n_v vs 1)) (q := v_iv (n_v vs 2)) (by assumption) (by omega)
  have g8 : v_iv (n_v vs 2) * v_iv (n_v vs 1) = v_iv (n_v vs 1) * v_iv (n_v vs 2) := Int.mul_comm _ _
  have g7 := xor_sg (n := v_iv (n_v vs 3)) (a := v_iv (n_v vs 0)) (b := v_iv (n_v vs 1)) (by assumption) (by omega) (by omega) (by omega)
  have nf0 : fc_1 PRD (20, [1, 2, 0], [50, 0, 0, 0, 6, 6, 2, 1, 0, 1, 1, 1, 2]) ws (vs) := by
    refine ⟨nf_in hl rfl, sgq_35 ?_⟩
    · show (v_iv (n_v vs 1) * v_iv (n_v vs 2)) ≤ v_iv (n_v vs 0)
      first | omega | grind
  have nf1 : fc_1 PRD (20, [0, 1, 2], [50, 0, 0, 0, 6, 4, 2, 1, 0, 0, 1, 4, 6, 6, 2, 1, 1, 1, 2, 1, 1]) ws (vs) := by
    refine ⟨nf_in hl rfl, sgq_36 ?_⟩
    · show (v_iv (n_v vs 0) + 1) ≤ ((v_iv (n_v vs 1) * v_iv (n_v vs 2)) + v_iv (n_v vs 1))
      first | omega | grind
  refine ⟨(fun _ h => (by cases h)), [], trivial, ?_, (fun _ h => (by cases h))⟩
  rw [List.append_nil]
  exact List.forall_mem_cons.mpr ⟨⟨show (20 : Nat) < 100 from by decide, nf0⟩, List.forall_mem_cons.mpr ⟨⟨show (20 : Nat) < 100 from by decide, nf1⟩, (fun _ h => (by cases h))⟩⟩
def o_jMath_floorDiv1_v85_1 : or_T := (22, 5, [(0, (0, -6047, 6111, [])), (1, (0, 2, 126, [])), (2, (0, -6047, 6111, [])), (3, (0, -2147483648, -1, [])), (4, (0, -6047, 6111, []))], [(7, [4, 0], [0]), (3, [4, 2, 1], []), (8, [3], [2]), (16, [3, 0, 1], [2]), (4, [2, 0, 1], [])], [], [], [(20, [1, 2, 0], [50, 0, 0, 0, 6, 6, 2, 1, 0, 1, 1, 1, 2]), (20, [0, 1, 2], [50, 0, 0, 0, 6, 4, 2, 1, 0, 0, 1, 4, 6, 6, 2, 1, 1, 1, 2, 1, 1])], [], [(4, 0, 0, 0)])
theorem oo_jMath_floorDiv1_v85_1 {kA : Nat → ClassId} : or_ok PRD kA GG o_jMath_floorDiv1_v85_1 := by
  refine or_mk fun A ta ws vs hD hth hl => ?_
  intro t0 k0 t1 k1 t2 k2 t3 k3 t4 k4 d0 f0 f1 f2 f3 f4
  replace f0 := shm_37 f0
  replace f1 := shm_38 f1
  replace f2 := shm_39 f2
  replace f3 := shm_33 f3
  replace f4 := shm_34 f4
  have g5 := fdv (x := v_iv (n_v vs 0)) (y := v_iv (n_v vs 1)) (q := v_iv (n_v vs 2)) (by assumption) (by omega)
  have g8 : v_iv (n_v vs 2) * v_iv (n_v vs 1) = v_iv (n_v vs 1) * v_iv (n_v vs 2) := Int.mul_comm _ _
  have g7 := xor_sg (n := v_iv (n_v vs 3)) (a := v_iv (n_v vs 0)) (b := v_iv (n_v vs 1)) (by assumption) (by omega) (by omega) (by omega)
  have nf0 : fc_1 PRD (20, [1, 2, 0], [50, 0, 0, 0, 6, 6, 2, 1, 0, 1, 1, 1, 2]) ws (vs) := by
    refine ⟨nf_in hl rfl, sgq_35 ?_⟩
    · show (v_iv (n_v vs 1) * v_iv (n_v vs 2)) ≤ v_iv (n_v vs 0)
      first | omega | grind
  have nf1 : fc_1 PRD (20, [0, 1, 2], [50, 0, 0, 0, 6, 4, 2, 1, 0, 0, 1, 4, 6, 6, 2, 1, 1, 1, 2, 1, 1]) ws (vs) := by
    refine ⟨nf_in hl rfl, sgq_36 ?_⟩
    · show (v_iv (n_v vs 0) + 1) ≤ ((v_iv (n_v vs 1) * v_iv (n_v vs 2)) + v_iv (n_v vs 1))
      first | omega | grind
  refine ⟨(fun _ h => (by cases h)), [], trivial, ?_, (fun _ h => (by cases h))⟩
  rw [List.append_nil]
  exact List.forall_mem_cons.mpr ⟨⟨show (20 : Nat) < 100 from by decide, nf0⟩, List.forall_mem_cons.mpr ⟨⟨show (20 : Nat) < 100 from by decide, nf1⟩, (fun _ h => (by cases h))⟩⟩
def o_jMath_floorDiv1_v85_2 : or_T := (20, 7, [(0, (0, -6047, 6111, [])), (1, (0, 2, 126, [])), (2, (0, -6047, 6111, [])), (3, (0, -2147483648, -1, [])), (4, (0, -761922, 769986, [])), (5, (0, 1, 1, [])), (6, (0, -6048, 6110, []))], [(2, [6, 2, 5], []), (7, [4, 0], [1]), (3, [4, 2, 1], []), (8, [3], [2]), (16, [3, 0, 1], [2]), (4, [2, 0, 1], [])], [], [], [(20, [1, 6, 0], [50, 0, 0, 0, 6, 6, 2, 1, 0, 1, 1, 1, 2]), (20, [0, 1, 6], [50, 0, 0, 0, 6, 4, 2, 1, 0, 0, 1, 4, 6, 6, 2, 1, 1, 1, 2, 1, 1])], [], [(6, 2, -1, -1)])
theorem oo_jMath_floorDiv1_v85_2 {kA : Nat → ClassId} : or_ok PRD kA GG o_jMath_floorDiv1_v85_2 := by
  refine or_mk fun A ta ws vs hD hth hl => ?_
  intro t0 k0 t1 k1 t2 k2 t3 k3 t4 k4 t5 k5 t6 k6 d0 f0 f1 f2 f3 f4 f5
  replace f0 := shm_14 f0
  replace f1 := shm_40 f1
  replace f2 := shm_38 f2
  replace f3 := shm_39 f3
  replace f4 := shm_33 f4
  replace f5 := shm_34 f5
  have g5 := fdv (x := v_iv (n_v vs 0)) (y := v_iv (n_v vs 1)) (q := v_iv (n_v vs 2)) (by assumption) (by omega)
  have g8 : v_iv (n_v vs 2) * v_iv (n_v vs 1) = v_iv (n_v vs 1) * v_iv (n_v vs 2) := Int.mul_comm _ _
  have g6 := fd_1 (y := v_iv (n_v vs 1)) (q := v_iv (n_v vs 2)) (n := v_iv (n_v vs 6)) (by omega)
  have g7 := xor_sg (n := v_iv (n_v vs 3)) (a := v_iv (n_v vs 0)) (b := v_iv (n_v vs 1)) (by assumption) (by omega) (by omega) (by omega)
  have nf0 : fc_1 PRD (20, [1, 6, 0], [50, 0, 0, 0, 6, 6, 2, 1, 0, 1, 1, 1, 2]) ws (vs) := by
    refine ⟨nf_in hl rfl, sgq_35 ?_⟩
    · show (v_iv (n_v vs 1) * v_iv (n_v vs 6)) ≤ v_iv (n_v vs 0)
      first | omega | grind
  have nf1 : fc_1 PRD (20, [0, 1, 6], [50, 0, 0, 0, 6, 4, 2, 1, 0, 0, 1, 4, 6, 6, 2, 1, 1, 1, 2, 1, 1]) ws (vs) := by
    refine ⟨nf_in hl rfl, sgq_36 ?_⟩
    · show (v_iv (n_v vs 0) + 1) ≤ ((v_iv (n_v vs 1) * v_iv (n_v vs 6)) + v_iv (n_v vs 1))
      first | omega | grind
  refine ⟨(fun _ h => (by cases h)), [], trivial, ?_, (fun _ h => (by cases h))⟩
  rw [List.append_nil]
  exact List.forall_mem_cons.mpr ⟨⟨show (20 : Nat) < 100 from by decide, nf0⟩, List.forall_mem_cons.mpr ⟨⟨show (20 : Nat) < 100 from by decide, nf1⟩, (fun _ h => (by cases h))⟩⟩
def n_jMath_floorDiv1_v85_an : List an_T := []
def t_jMath_floorDiv1_v85_ct : ct_L := []
set_option maxRecDepth 100000 in
theorem c_jMath_floorDiv1_v85 {l : Launch} {D : va_G} {kA : Nat → ClassId} : ct_ok PRD l D kA GG y_jMath_floorDiv1 z_jMath_floorDiv1 e_jMath_floorDiv1_v85 := chk_all_ok (FT := []) (PT := []) (CT := t_jMath_floorDiv1_v85_ct) (KT := []) (NT := []) (AN := n_jMath_floorDiv1_v85_an) (OT := [o_jMath_floorDiv1_v85_0, o_jMath_floorDiv1_v85_1, o_jMath_floorDiv1_v85_2]) 0 200 (List.forall_mem_cons.mpr ⟨oo_jMath_floorDiv1_v85_0, List.forall_mem_cons.mpr ⟨oo_jMath_floorDiv1_v85_1, List.forall_mem_cons.mpr ⟨oo_jMath_floorDiv1_v85_2, List.forall_mem_nil _⟩⟩⟩) (pl_Math rfl (by decide)) ⟨List.forall_mem_nil _, List.forall_mem_nil _, List.forall_mem_nil _, List.forall_mem_nil _, List.forall_mem_nil _, GG_pl⟩ (by decide +kernel)
def e_jMath_floorDiv1_v86 : en_T := ([(0, -7937, 8001, []), (0, 2, 126, [])], some (0, -7938, 8001, []), true, 1, 0, 0, [], [], (0, [], [], [(20, [1, 2, 0], [50, 0, 0, 0, 6, 6, 2, 1, 0, 1, 1, 1, 2]), (20, [0, 1, 2], [50, 0, 0, 0, 6, 4, 2, 1, 0, 0, 1, 4, 6, 6, 2, 1, 1, 1, 2, 1, 1])], []))
def o_jMath_floorDiv1_v86_0 : or_T := (22, 4, [(0, (0, -7937, 8001, [])), (1, (0, 2, 126, [])), (2, (0, -7937, 8001, [])), (3, (0, 0, 2147483647, []))], [(8, [3], [3]), (16, [3, 0, 1], [2]), (4, [2, 0, 1], [])], [], [], [(20, [1, 2, 0], [50, 0, 0, 0, 6, 6, 2, 1, 0, 1, 1, 1, 2]), (20, [0, 1, 2], [50, 0, 0, 0, 6, 4, 2, 1, 0, 0, 1, 4, 6, 6, 2, 1, 1, 1, 2, 1, 1])], [], [])
theorem oo_jMath_floorDiv1_v86_0 {kA : Nat → ClassId} : or_ok PRD kA GG o_jMath_floorDiv1_v86_0 := by
  refine or_mk fun A ta ws vs hD hth hl => ?_
  intro t0 k0 t1 k1 t2 k2 t3 k3 f0 f1 f2
  replace f0 := shm_32 f0
  replace f1 := shm_33 f1
  replace f2 := shm_34 f2
  have g5 := fdv (x := v_iv (n_v vs 0)) (y := v_iv (n_v vs 1)) (q := v_iv (n_v vs 2)) (by assumption) (by omega)
  have g8 : v_iv (n_v vs 2) * v_iv (n_v vs 1) = v_iv (n_v vs 1) * v_iv (n_v vs 2) := Int.mul_comm _ _
  have g7 := xor_sg (n := v_iv (n_v vs 3)) (a := v_iv (n_v vs 0)) (b := v_iv (n_v vs 1)) (by assumption) (by omega) (by omega) (by omega)
  have nf0 : fc_1 PRD (20, [1, 2, 0], [50, 0, 0, 0, 6, 6, 2, 1, 0, 1, 1, 1, 2]) ws (vs) := by
    refine ⟨nf_in hl rfl, sgq_35 ?_⟩
    · show (v_iv (n_v vs 1) * v_iv (n_v vs 2)) ≤ v_iv (n_v vs 0)
      first | omega | grind
  have nf1 : fc_1 PRD (20, [0, 1, 2], [50, 0, 0, 0, 6, 4, 2, 1, 0, 0, 1, 4, 6, 6, 2, 1, 1, 1, 2, 1, 1]) ws (vs) := by
    refine ⟨nf_in hl rfl, sgq_36 ?_⟩
    · show (v_iv (n_v vs 0) + 1) ≤ ((v_iv (n_v vs 1) * v_iv (n_v vs 2)) + v_iv (n_v vs 1))
      first | omega | grind
  refine ⟨(fun _ h => (by cases h)), [], trivial, ?_, (fun _ h => (by cases h))⟩
  rw [List.append_nil]
  exact List.forall_mem_cons.mpr ⟨⟨show (20 : Nat) < 100 from by decide, nf0⟩, List.forall_mem_cons.mpr ⟨⟨show (20 : Nat) < 100 from by decide, nf1⟩, (fun _ h => (by cases h))⟩⟩
def o_jMath_floorDiv1_v86_1 : or_T := (22, 5, [(0, (0, -7937, 8001, [])), (1, (0, 2, 126, [])), (2, (0, -7937, 8001, [])), (3, (0, -2147483648, -1, [])), (4, (0, -7937, 8001, []))], [(7, [4, 0], [0]), (3, [4, 2, 1], []), (8, [3], [2]), (16, [3, 0, 1], [2]), (4, [2, 0, 1], [])], [], [], [(20, [1, 2, 0], [50, 0, 0, 0, 6, 6, 2, 1, 0, 1, 1, 1, 2]), (20, [0, 1, 2], [50, 0, 0, 0, 6, 4, 2, 1, 0, 0, 1, 4, 6, 6, 2, 1, 1, 1, 2, 1, 1])], [], [(4, 0, 0, 0)])
theorem oo_jMath_floorDiv1_v86_1 {kA : Nat → ClassId} : or_ok PRD kA GG o_jMath_floorDiv1_v86_1 := by
  refine or_mk fun A ta ws vs hD hth hl => ?_
  intro t0 k0 t1 k1 t2 k2 t3 k3 t4 k4 d0 f0 f1 f2 f3 f4
  replace f0 := shm_37 f0
  replace f1 := shm_38 f1
  replace f2 := shm_39 f2
  replace f3 := shm_33 f3
  replace f4 := shm_34 f4
  have g5 := fdv (x := v_iv (n_v vs 0)) (y := v_iv (n_v vs 1)) (q := v_iv (n_v vs 2)) (by assumption) (by omega)
  have g8 : v_iv (n_v vs 2) * v_iv (n_v vs 1) = v_iv (n_v vs 1) * v_iv (n_v vs 2) := Int.mul_comm _ _
  have g7 := xor_sg (n := v_iv (n_v vs 3)) (a := v_iv (n_v vs 0)) (b := v_iv (n_v vs 1)) (by assumption) (by omega) (by omega) (by omega)
  have nf0 : fc_1 PRD (20, [1, 2, 0], [50, 0, 0, 0, 6, 6, 2, 1, 0, 1, 1, 1, 2]) ws (vs) := by
    refine ⟨nf_in hl rfl, sgq_35 ?_⟩
    · show (v_iv (n_v vs 1) * v_iv (n_v vs 2)) ≤ v_iv (n_v vs 0)
      first | omega | grind
  have nf1 : fc_1 PRD (20, [0, 1, 2], [50, 0, 0, 0, 6, 4, 2, 1, 0, 0, 1, 4, 6, 6, 2, 1, 1, 1, 2, 1, 1]) ws (vs) := by
    refine ⟨nf_in hl rfl, sgq_36 ?_⟩
    · show (v_iv (n_v vs 0) + 1) ≤ ((v_iv (n_v vs 1) * v_iv (n_v vs 2)) + v_iv (n_v vs 1))
      first | omega | grind
  refine ⟨(fun _ h => (by cases h)), [], trivial, ?_, (fun _ h => (by cases h))⟩
  rw [List.append_nil]
  exact List.forall_mem_cons.mpr ⟨⟨show (20 : Nat) < 100 from by decide, nf0⟩, List.forall_mem_cons.mpr ⟨⟨show (20 : Nat) < 100 from by decide, nf1⟩, (fun _ h => (by cases h))⟩⟩
def o_jMath_floorDiv1_v86_2 : or_T := (20, 7, [(0, (0, -7937, 8001, [])), (1, (0, 2, 126, [])), (2, (0, -7937, 8001, [])), (3, (0, -2147483648, -1, [])), (4, (0, -1000062, 1008126, [])), (5, (0, 1, 1, [])), (6, (0, -7938, 8000, []))], [(2, [6, 2, 5], []), (7, [4, 0], [1]), (3, [4, 2, 1], []), (8, [3], [2]), (16, [3, 0, 1], [2]), (4, [2, 0, 1], [])], [], [], [(20, [1, 6, 0], [50, 0, 0, 0, 6, 6, 2, 1, 0, 1, 1, 1, 2]), (20, [0, 1, 6], [50, 0, 0, 0, 6, 4, 2, 1, 0, 0, 1, 4, 6, 6, 2, 1, 1, 1, 2, 1, 1])], [], [(6, 2, -1, -1)])
theorem oo_jMath_floorDiv1_v86_2 {kA : Nat → ClassId} : or_ok PRD kA GG o_jMath_floorDiv1_v86_2 := by
  refine or_mk fun A ta ws vs hD hth hl => ?_
  intro t0 k0 t1 k1 t2 k2 t3 k3 t4 k4 t5 k5 t6 k6 d0 f0 f1 f2 f3 f4 f5
  replace f0 := shm_14 f0
  replace f1 := shm_40 f1
  replace f2 := shm_38 f2
  replace f3 := shm_39 f3
  replace f4 := shm_33 f4
  replace f5 := shm_34 f5
  have g5 := fdv (x := v_iv (n_v vs 0)) (y := v_iv (n_v vs 1)) (q := v_iv (n_v vs 2)) (by assumption) (by omega)
  have g8 : v_iv (n_v vs 2) * v_iv (n_v vs 1) = v_iv (n_v vs 1) * v_iv (n_v vs 2) := Int.mul_comm _ _
  have g6 := fd_1 (y := v_iv (n_v vs 1)) (q := v_iv (n_v vs 2)) (n := v_iv (n_v vs 6)) (by omega)
  have g7 := xor_sg (n := v_iv (n_v vs 3)) (a := v_iv (n_v vs 0)) (b := v_iv (n_v vs 1)) (by assumption) (by omega) (by omega) (by omega)
  have nf0 : fc_1 PRD (20, [1, 6, 0], [50, 0, 0, 0, 6, 6, 2, 1, 0, 1, 1, 1, 2]) ws (vs) := by
    refine ⟨nf_in hl rfl, sgq_35 ?_⟩
    · show (v_iv (n_v vs 1) * v_iv (n_v vs 6)) ≤ v_iv (n_v vs 0)
      first | omega | grind
  have nf1 : fc_1 PRD (20, [0, 1, 6], [50, 0, 0, 0, 6, 4, 2, 1, 0, 0, 1, 4, 6, 6, 2, 1, 1, 1, 2, 1, 1]) ws (vs) := by
    refine ⟨nf_in hl rfl, sgq_36 ?_⟩
    · show (v_iv (n_v vs 0) + 1) ≤ ((v_iv (n_v vs 1) * v_iv (n_v vs 6)) + v_iv (n_v vs 1))
      first | omega | grind
  refine ⟨(fun _ h => (by cases h)), [], trivial, ?_, (fun _ h => (by cases h))⟩
  rw [List.append_nil]
  exact List.forall_mem_cons.mpr ⟨⟨show (20 : Nat) < 100 from by decide, nf0⟩, List.forall_mem_cons.mpr ⟨⟨show (20 : Nat) < 100 from by decide, nf1⟩, (fun _ h => (by cases h))⟩⟩
def n_jMath_floorDiv1_v86_an : List an_T := []
def t_jMath_floorDiv1_v86_ct : ct_L := []
set_option maxRecDepth 100000 in
theorem c_jMath_floorDiv1_v86 {l : Launch} {D : va_G} {kA : Nat → ClassId} : ct_ok PRD l D kA GG y_jMath_floorDiv1 z_jMath_floorDiv1 e_jMath_floorDiv1_v86 := chk_all_ok (FT := []) (PT := []) (CT := t_jMath_floorDiv1_v86_ct) (KT := []) (NT := []) (AN := n_jMath_floorDiv1_v86_an) (OT := [o_jMath_floorDiv1_v86_0, o_jMath_floorDiv1_v86_1, o_jMath_floorDiv1_v86_2]) 0 200 (List.forall_mem_cons.mpr ⟨oo_jMath_floorDiv1_v86_0, List.forall_mem_cons.mpr ⟨oo_jMath_floorDiv1_v86_1, List.forall_mem_cons.mpr ⟨oo_jMath_floorDiv1_v86_2, List.forall_mem_nil _⟩⟩⟩) (pl_Math rfl (by decide)) ⟨List.forall_mem_nil _, List.forall_mem_nil _, List.forall_mem_nil _, List.forall_mem_nil _, List.forall_mem_nil _, GG_pl⟩ (by decide +kernel)
def e_jMath_abs1_v87 : en_T := ([(0, 0, 1001000000, [])], some (0, 0, 1001000000, []), true, 1, 0, 0, [], [], (0, [], [], [], []))
def n_jMath_abs1_v87_an : List an_T := []
def t_jMath_abs1_v87_ct : ct_L := []
set_option maxRecDepth 100000 in
theorem c_jMath_abs1_v87 {l : Launch} {D : va_G} {kA : Nat → ClassId} : ct_ok PRD l D kA GG y_jMath_abs1 z_jMath_abs1 e_jMath_abs1_v87 := chk_all_ok (FT := []) (PT := []) (CT := t_jMath_abs1_v87_ct) (KT := []) (NT := []) (AN := n_jMath_abs1_v87_an) (OT := []) 0 200 (List.forall_mem_nil _) (pl_Math rfl (by decide)) ⟨List.forall_mem_nil _, List.forall_mem_nil _, List.forall_mem_nil _, List.forall_mem_nil _, List.forall_mem_nil _, GG_pl⟩ (by decide +kernel)
def e_jMath_abs1_v88 : en_T := ([(0, -41000000, -1, [])], some (0, 1, 41000000, []), true, 1, 0, 0, [], [], (0, [], [], [], []))
def n_jMath_abs1_v88_an : List an_T := []
def t_jMath_abs1_v88_ct : ct_L := []
set_option maxRecDepth 100000 in
theorem c_jMath_abs1_v88 {l : Launch} {D : va_G} {kA : Nat → ClassId} : ct_ok PRD l D kA GG y_jMath_abs1 z_jMath_abs1 e_jMath_abs1_v88 := chk_all_ok (FT := []) (PT := []) (CT := t_jMath_abs1_v88_ct) (KT := []) (NT := []) (AN := n_jMath_abs1_v88_an) (OT := []) 0 200 (List.forall_mem_nil _) (pl_Math rfl (by decide)) ⟨List.forall_mem_nil _, List.forall_mem_nil _, List.forall_mem_nil _, List.forall_mem_nil _, List.forall_mem_nil _, GG_pl⟩ (by decide +kernel)
def e_jMath_max1_v89 : en_T := ([(0, 0, 100000, []), (0, 1, 1, [])], some (0, 1, 100000, []), true, 1, 0, 0, [], [], (0, [], [], [(23, [0, 2], [0, 1, -1]), (23, [1, 2], [0, 1, -1])], []))
def o_jMath_max1_v89_0 : or_T := (10, 2, [(0, (0, 0, 0, [])), (1, (0, 1, 1, []))], [(7, [0, 1], [2])], [], [], [(23, [0, 1], [0, 1, -1]), (23, [1, 1], [0, 1, -1])], [], [])
theorem oo_jMath_max1_v89_0 {kA : Nat → ClassId} : or_ok PRD kA GG o_jMath_max1_v89_0 := by
  refine or_mk fun A ta ws vs hD hth hl => ?_
  intro t0 k0 t1 k1 f0
  replace f0 := shm_6 f0
  have nf0 : fc_1 PRD (23, [0, 1], [0, 1, -1]) ws (vs) := by
    refine ⟨nf_in hl rfl, sgq_7 ?_⟩
    · show 1 * v_iv (n_v vs 0) + ((-1) * v_iv (n_v vs 1) + 0) ≤ 0
      omega
  have nf1 : fc_1 PRD (23, [1, 1], [0, 1, -1]) ws (vs) := by
    refine ⟨nf_in hl rfl, sgq_8 ?_⟩
    · show 1 * v_iv (n_v vs 1) + ((-1) * v_iv (n_v vs 1) + 0) ≤ 0
      omega
  refine ⟨(fun _ h => (by cases h)), [], trivial, ?_, (fun _ h => (by cases h))⟩
  rw [List.append_nil]
  exact List.forall_mem_cons.mpr ⟨⟨show (23 : Nat) < 100 from by decide, nf0⟩, List.forall_mem_cons.mpr ⟨⟨show (23 : Nat) < 100 from by decide, nf1⟩, (fun _ h => (by cases h))⟩⟩
def o_jMath_max1_v89_1 : or_T := (10, 2, [(0, (0, 1, 100000, [])), (1, (0, 1, 1, []))], [(7, [0, 1], [3])], [], [], [(23, [0, 0], [0, 1, -1]), (23, [1, 0], [0, 1, -1])], [], [])
theorem oo_jMath_max1_v89_1 {kA : Nat → ClassId} : or_ok PRD kA GG o_jMath_max1_v89_1 := by
  refine or_mk fun A ta ws vs hD hth hl => ?_
  intro t0 k0 t1 k1 f0
  replace f0 := shm_2 f0
  have nf0 : fc_1 PRD (23, [0, 0], [0, 1, -1]) ws (vs) := by
    refine ⟨nf_in hl rfl, sgq_8 ?_⟩
    · show 1 * v_iv (n_v vs 0) + ((-1) * v_iv (n_v vs 0) + 0) ≤ 0
      omega
  have nf1 : fc_1 PRD (23, [1, 0], [0, 1, -1]) ws (vs) := by
    refine ⟨nf_in hl rfl, sgq_7 ?_⟩
    · show 1 * v_iv (n_v vs 1) + ((-1) * v_iv (n_v vs 0) + 0) ≤ 0
      omega
  refine ⟨(fun _ h => (by cases h)), [], trivial, ?_, (fun _ h => (by cases h))⟩
  rw [List.append_nil]
  exact List.forall_mem_cons.mpr ⟨⟨show (23 : Nat) < 100 from by decide, nf0⟩, List.forall_mem_cons.mpr ⟨⟨show (23 : Nat) < 100 from by decide, nf1⟩, (fun _ h => (by cases h))⟩⟩
def n_jMath_max1_v89_an : List an_T := []
def t_jMath_max1_v89_ct : ct_L := []
set_option maxRecDepth 100000 in
theorem c_jMath_max1_v89 {l : Launch} {D : va_G} {kA : Nat → ClassId} : ct_ok PRD l D kA GG y_jMath_max1 z_jMath_max1 e_jMath_max1_v89 := chk_all_ok (FT := []) (PT := []) (CT := t_jMath_max1_v89_ct) (KT := []) (NT := []) (AN := n_jMath_max1_v89_an) (OT := [o_jMath_max1_v89_0, o_jMath_max1_v89_1]) 0 200 (List.forall_mem_cons.mpr ⟨oo_jMath_max1_v89_0, List.forall_mem_cons.mpr ⟨oo_jMath_max1_v89_1, List.forall_mem_nil _⟩⟩) (pl_Math rfl (by decide)) ⟨List.forall_mem_nil _, List.forall_mem_nil _, List.forall_mem_nil _, List.forall_mem_nil _, List.forall_mem_nil _, GG_pl⟩ (by decide +kernel)
def e_jMath_abs1_v90 : en_T := ([(0, -1042000000, 1042000000, [])], some (0, 0, 1042000000, []), true, 1, 0, 0, [], [], (0, [], [], [], []))
def n_jMath_abs1_v90_an : List an_T := []
def t_jMath_abs1_v90_ct : ct_L := []
set_option maxRecDepth 100000 in
theorem c_jMath_abs1_v90 {l : Launch} {D : va_G} {kA : Nat → ClassId} : ct_ok PRD l D kA GG y_jMath_abs1 z_jMath_abs1 e_jMath_abs1_v90 := chk_all_ok (FT := []) (PT := []) (CT := t_jMath_abs1_v90_ct) (KT := []) (NT := []) (AN := n_jMath_abs1_v90_an) (OT := []) 0 200 (List.forall_mem_nil _) (pl_Math rfl (by decide)) ⟨List.forall_mem_nil _, List.forall_mem_nil _, List.forall_mem_nil _, List.forall_mem_nil _, List.forall_mem_nil _, GG_pl⟩ (by decide +kernel)
def e_jMath_max1_v91 : en_T := ([(0, 0, 47, []), (0, 0, 47, [])], some (0, 0, 47, []), true, 1, 0, 0, [], [], (0, [], [], [(23, [0, 2], [0, 1, -1]), (23, [1, 2], [0, 1, -1]), (20, [2, 0, 1], [50, 0, 0, 3, 6, 1, 2, 1, 0, 1, 1, 1, 2, 1, 0, 1, 2])], []))
set_option maxHeartbeats 4000000 in
theorem vc_jMath_max1_v91_0_0 (x0 : Int) (x1 : Int) (k0 : 0 ≤ x0 ∧ x0 ≤ 46) (k1 : 1 ≤ x1 ∧ x1 ≤ 47) (d0 : x1 + (-4294967296) ≤ x0 ∧ x0 ≤ x1 + (-1)) (f0 : x0 < x1) : 1 * x0 + ((-1) * x1 + 0) ≤ 0 := by
  first | assumption | omega | grind
set_option maxHeartbeats 4000000 in
theorem vc_jMath_max1_v91_0_1 (x0 : Int) (x1 : Int) (k0 : 0 ≤ x0 ∧ x0 ≤ 46) (k1 : 1 ≤ x1 ∧ x1 ≤ 47) (d0 : x1 + (-4294967296) ≤ x0 ∧ x0 ≤ x1 + (-1)) (f0 : x0 < x1) : 1 * x1 + ((-1) * x1 + 0) ≤ 0 := by
  first | assumption | omega | grind
set_option maxHeartbeats 4000000 in
theorem vc_jMath_max1_v91_0_2 (x0 : Int) (x1 : Int) (k0 : 0 ≤ x0 ∧ x0 ≤ 46) (k1 : 1 ≤ x1 ∧ x1 ≤ 47) (d0 : x1 + (-4294967296) ≤ x0 ∧ x0 ≤ x1 + (-1)) (f0 : x0 < x1) : (x1 = x0) ∨ (x1 = x1) := by
  first | assumption | omega | grind
def o_jMath_max1_v91_0 : or_T := (10, 2, [(0, (0, 0, 46, [])), (1, (0, 1, 47, []))], [(7, [0, 1], [2])], [], [], [(23, [0, 1], [0, 1, -1]), (23, [1, 1], [0, 1, -1]), (20, [1, 0, 1], [50, 0, 0, 3, 6, 1, 2, 1, 0, 1, 1, 1, 2, 1, 0, 1, 2])], [], [(0, 1, -4294967296, -1)])
theorem oo_jMath_max1_v91_0 {kA : Nat → ClassId} : or_ok PRD kA GG o_jMath_max1_v91_0 := by
  refine or_mk fun A ta ws vs hD hth hl => ?_
  intro t0 k0 t1 k1 d0 f0
  have nf0 : fc_1 PRD (23, [0, 1], [0, 1, -1]) ws (vs) := ⟨nf_in hl rfl, sgq_7 (vc_jMath_max1_v91_0_0 (v_iv (n_v vs 0)) (v_iv (n_v vs 1)) k0 k1 d0 (shm_6 f0))⟩
  have nf1 : fc_1 PRD (23, [1, 1], [0, 1, -1]) ws (vs) := ⟨nf_in hl rfl, sgq_8 (vc_jMath_max1_v91_0_1 (v_iv (n_v vs 0)) (v_iv (n_v vs 1)) k0 k1 d0 (shm_6 f0))⟩
  have nf2 : fc_1 PRD (20, [1, 0, 1], [50, 0, 0, 3, 6, 1, 2, 1, 0, 1, 1, 1, 2, 1, 0, 1, 2]) ws (vs) := ⟨nf_in hl rfl, sgq_28 (vc_jMath_max1_v91_0_2 (v_iv (n_v vs 0)) (v_iv (n_v vs 1)) k0 k1 d0 (shm_6 f0))⟩
  refine ⟨(fun _ h => (by cases h)), [], trivial, ?_, (fun _ h => (by cases h))⟩
  rw [List.append_nil]
  exact List.forall_mem_cons.mpr ⟨⟨show (23 : Nat) < 100 from by decide, nf0⟩, List.forall_mem_cons.mpr ⟨⟨show (23 : Nat) < 100 from by decide, nf1⟩, List.forall_mem_cons.mpr ⟨⟨show (20 : Nat) < 100 from by decide, nf2⟩, (fun _ h => (by cases h))⟩⟩⟩
set_option maxHeartbeats 4000000 in
theorem vc_jMath_max1_v91_1_0 (x0 : Int) (x1 : Int) (k0 : 0 ≤ x0 ∧ x0 ≤ 47) (k1 : 0 ≤ x1 ∧ x1 ≤ 47) (d0 : x1 + 0 ≤ x0 ∧ x0 ≤ x1 + 4294967296) (f0 : x1 ≤ x0) : 1 * x0 + ((-1) * x0 + 0) ≤ 0 := by
  first | assumption | omega | grind
set_option maxHeartbeats 4000000 in
theorem vc_jMath_max1_v91_1_1 (x0 : Int) (x1 : Int) (k0 : 0 ≤ x0 ∧ x0 ≤ 47) (k1 : 0 ≤ x1 ∧ x1 ≤ 47) (d0 : x1 + 0 ≤ x0 ∧ x0 ≤ x1 + 4294967296) (f0 : x1 ≤ x0) : 1 * x1 + ((-1) * x0 + 0) ≤ 0 := by
  first | assumption | omega | grind
set_option maxHeartbeats 4000000 in
theorem vc_jMath_max1_v91_1_2 (x0 : Int) (x1 : Int) (k0 : 0 ≤ x0 ∧ x0 ≤ 47) (k1 : 0 ≤ x1 ∧ x1 ≤ 47) (d0 : x1 + 0 ≤ x0 ∧ x0 ≤ x1 + 4294967296) (f0 : x1 ≤ x0) : (x0 = x0) ∨ (x0 = x1) := by
  first | assumption | omega | grind
def o_jMath_max1_v91_1 : or_T := (10, 2, [(0, (0, 0, 47, [])), (1, (0, 0, 47, []))], [(7, [0, 1], [3])], [], [], [(23, [0, 0], [0, 1, -1]), (23, [1, 0], [0, 1, -1]), (20, [0, 0, 1], [50, 0, 0, 3, 6, 1, 2, 1, 0, 1, 1, 1, 2, 1, 0, 1, 2])], [], [(0, 1, 0, 4294967296)])
theorem oo_jMath_max1_v91_1 {kA : Nat → ClassId} : or_ok PRD kA GG o_jMath_max1_v91_1 := by
  refine or_mk fun A ta ws vs hD hth hl => ?_
  intro t0 k0 t1 k1 d0 f0
  have nf0 : fc_1 PRD (23, [0, 0], [0, 1, -1]) ws (vs) := ⟨nf_in hl rfl, sgq_8 (vc_jMath_max1_v91_1_0 (v_iv (n_v vs 0)) (v_iv (n_v vs 1)) k0 k1 d0 (shm_2 f0))⟩
  have nf1 : fc_1 PRD (23, [1, 0], [0, 1, -1]) ws (vs) := ⟨nf_in hl rfl, sgq_7 (vc_jMath_max1_v91_1_1 (v_iv (n_v vs 0)) (v_iv (n_v vs 1)) k0 k1 d0 (shm_2 f0))⟩
  have nf2 : fc_1 PRD (20, [0, 0, 1], [50, 0, 0, 3, 6, 1, 2, 1, 0, 1, 1, 1, 2, 1, 0, 1, 2]) ws (vs) := ⟨nf_in hl rfl, sgq_29 (vc_jMath_max1_v91_1_2 (v_iv (n_v vs 0)) (v_iv (n_v vs 1)) k0 k1 d0 (shm_2 f0))⟩
  refine ⟨(fun _ h => (by cases h)), [], trivial, ?_, (fun _ h => (by cases h))⟩
  rw [List.append_nil]
  exact List.forall_mem_cons.mpr ⟨⟨show (23 : Nat) < 100 from by decide, nf0⟩, List.forall_mem_cons.mpr ⟨⟨show (23 : Nat) < 100 from by decide, nf1⟩, List.forall_mem_cons.mpr ⟨⟨show (20 : Nat) < 100 from by decide, nf2⟩, (fun _ h => (by cases h))⟩⟩⟩
def n_jMath_max1_v91_an : List an_T := []
def t_jMath_max1_v91_ct : ct_L := []
set_option maxRecDepth 100000 in
theorem c_jMath_max1_v91 {l : Launch} {D : va_G} {kA : Nat → ClassId} : ct_ok PRD l D kA GG y_jMath_max1 z_jMath_max1 e_jMath_max1_v91 := chk_all_ok (FT := []) (PT := []) (CT := t_jMath_max1_v91_ct) (KT := []) (NT := []) (AN := n_jMath_max1_v91_an) (OT := [o_jMath_max1_v91_0, o_jMath_max1_v91_1]) 0 200 (List.forall_mem_cons.mpr ⟨oo_jMath_max1_v91_0, List.forall_mem_cons.mpr ⟨oo_jMath_max1_v91_1, List.forall_mem_nil _⟩⟩) (pl_Math rfl (by decide)) ⟨List.forall_mem_nil _, List.forall_mem_nil _, List.forall_mem_nil _, List.forall_mem_nil _, List.forall_mem_nil _, GG_pl⟩ (by decide +kernel)
def e_jMath_min1_v92 : en_T := ([(0, 0, 47, []), (0, 0, 47, [])], some (0, 0, 47, []), true, 1, 0, 0, [], [], (0, [], [], [(23, [0, 2], [0, -1, 1]), (23, [1, 2], [0, -1, 1]), (20, [2, 0, 1], [50, 0, 0, 3, 6, 1, 2, 1, 0, 1, 1, 1, 2, 1, 0, 1, 2])], []))
set_option maxHeartbeats 4000000 in
theorem vc_jMath_min1_v92_0_0 (x0 : Int) (x1 : Int) (k0 : 1 ≤ x0 ∧ x0 ≤ 47) (k1 : 0 ≤ x1 ∧ x1 ≤ 46) (d0 : x1 + 1 ≤ x0 ∧ x0 ≤ x1 + 4294967296) (f0 : x1 < x0) : (-1) * x0 + (1 * x1 + 0) ≤ 0 := by
  first | assumption | omega | grind
set_option maxHeartbeats 4000000 in
theorem vc_jMath_min1_v92_0_1 (x0 : Int) (x1 : Int) (k0 : 1 ≤ x0 ∧ x0 ≤ 47) (k1 : 0 ≤ x1 ∧ x1 ≤ 46) (d0 : x1 + 1 ≤ x0 ∧ x0 ≤ x1 + 4294967296) (f0 : x1 < x0) : (-1) * x1 + (1 * x1 + 0) ≤ 0 := by
  first | assumption | omega | grind
set_option maxHeartbeats 4000000 in
theorem vc_jMath_min1_v92_0_2 (x0 : Int) (x1 : Int) (k0 : 1 ≤ x0 ∧ x0 ≤ 47) (k1 : 0 ≤ x1 ∧ x1 ≤ 46) (d0 : x1 + 1 ≤ x0 ∧ x0 ≤ x1 + 4294967296) (f0 : x1 < x0) : (x1 = x0) ∨ (x1 = x1) := by
  first | assumption | omega | grind
def o_jMath_min1_v92_0 : or_T := (10, 2, [(0, (0, 1, 47, [])), (1, (0, 0, 46, []))], [(7, [0, 1], [4])], [], [], [(23, [0, 1], [0, -1, 1]), (23, [1, 1], [0, -1, 1]), (20, [1, 0, 1], [50, 0, 0, 3, 6, 1, 2, 1, 0, 1, 1, 1, 2, 1, 0, 1, 2])], [], [(0, 1, 1, 4294967296)])
theorem oo_jMath_min1_v92_0 {kA : Nat → ClassId} : or_ok PRD kA GG o_jMath_min1_v92_0 := by
  refine or_mk fun A ta ws vs hD hth hl => ?_
  intro t0 k0 t1 k1 d0 f0
  have nf0 : fc_1 PRD (23, [0, 1], [0, -1, 1]) ws (vs) := ⟨nf_in hl rfl, sgq_22 (vc_jMath_min1_v92_0_0 (v_iv (n_v vs 0)) (v_iv (n_v vs 1)) k0 k1 d0 (shm_21 f0))⟩
  have nf1 : fc_1 PRD (23, [1, 1], [0, -1, 1]) ws (vs) := ⟨nf_in hl rfl, sgq_23 (vc_jMath_min1_v92_0_1 (v_iv (n_v vs 0)) (v_iv (n_v vs 1)) k0 k1 d0 (shm_21 f0))⟩
  have nf2 : fc_1 PRD (20, [1, 0, 1], [50, 0, 0, 3, 6, 1, 2, 1, 0, 1, 1, 1, 2, 1, 0, 1, 2]) ws (vs) := ⟨nf_in hl rfl, sgq_28 (vc_jMath_min1_v92_0_2 (v_iv (n_v vs 0)) (v_iv (n_v vs 1)) k0 k1 d0 (shm_21 f0))⟩
  refine ⟨(fun _ h => (by cases h)), [], trivial, ?_, (fun _ h => (by cases h))⟩
  rw [List.append_nil]
  exact List.forall_mem_cons.mpr ⟨⟨show (23 : Nat) < 100 from by decide, nf0⟩, List.forall_mem_cons.mpr ⟨⟨show (23 : Nat) < 100 from by decide, nf1⟩, List.forall_mem_cons.mpr ⟨⟨show (20 : Nat) < 100 from by decide, nf2⟩, (fun _ h => (by cases h))⟩⟩⟩
set_option maxHeartbeats 4000000 in
theorem vc_jMath_min1_v92_1_0 (x0 : Int) (x1 : Int) (k0 : 0 ≤ x0 ∧ x0 ≤ 47) (k1 : 0 ≤ x1 ∧ x1 ≤ 47) (d0 : x1 + (-4294967296) ≤ x0 ∧ x0 ≤ x1 + 0) (f0 : x0 ≤ x1) : (-1) * x0 + (1 * x0 + 0) ≤ 0 := by
  first | assumption | omega | grind
set_option maxHeartbeats 4000000 in
theorem vc_jMath_min1_v92_1_1 (x0 : Int) (x1 : Int) (k0 : 0 ≤ x0 ∧ x0 ≤ 47) (k1 : 0 ≤ x1 ∧ x1 ≤ 47) (d0 : x1 + (-4294967296) ≤ x0 ∧ x0 ≤ x1 + 0) (f0 : x0 ≤ x1) : (-1) * x1 + (1 * x0 + 0) ≤ 0 := by
  first | assumption | omega | grind
set_option maxHeartbeats 4000000 in
theorem vc_jMath_min1_v92_1_2 (x0 : Int) (x1 : Int) (k0 : 0 ≤ x0 ∧ x0 ≤ 47) (k1 : 0 ≤ x1 ∧ x1 ≤ 47) (d0 : x1 + (-4294967296) ≤ x0 ∧ x0 ≤ x1 + 0) (f0 : x0 ≤ x1) : (x0 = x0) ∨ (x0 = x1) := by
  first | assumption | omega | grind
def o_jMath_min1_v92_1 : or_T := (10, 2, [(0, (0, 0, 47, [])), (1, (0, 0, 47, []))], [(7, [0, 1], [5])], [], [], [(23, [0, 0], [0, -1, 1]), (23, [1, 0], [0, -1, 1]), (20, [0, 0, 1], [50, 0, 0, 3, 6, 1, 2, 1, 0, 1, 1, 1, 2, 1, 0, 1, 2])], [], [(0, 1, -4294967296, 0)])
theorem oo_jMath_min1_v92_1 {kA : Nat → ClassId} : or_ok PRD kA GG o_jMath_min1_v92_1 := by
  refine or_mk fun A ta ws vs hD hth hl => ?_
  intro t0 k0 t1 k1 d0 f0
  have nf0 : fc_1 PRD (23, [0, 0], [0, -1, 1]) ws (vs) := ⟨nf_in hl rfl, sgq_23 (vc_jMath_min1_v92_1_0 (v_iv (n_v vs 0)) (v_iv (n_v vs 1)) k0 k1 d0 (shm_24 f0))⟩
  have nf1 : fc_1 PRD (23, [1, 0], [0, -1, 1]) ws (vs) := ⟨nf_in hl rfl, sgq_22 (vc_jMath_min1_v92_1_1 (v_iv (n_v vs 0)) (v_iv (n_v vs 1)) k0 k1 d0 (shm_24 f0))⟩
  have nf2 : fc_1 PRD (20, [0, 0, 1], [50, 0, 0, 3, 6, 1, 2, 1, 0, 1, 1, 1, 2, 1, 0, 1, 2]) ws (vs) := ⟨nf_in hl rfl, sgq_29 (vc_jMath_min1_v92_1_2 (v_iv (n_v vs 0)) (v_iv (n_v vs 1)) k0 k1 d0 (shm_24 f0))⟩
  refine ⟨(fun _ h => (by cases h)), [], trivial, ?_, (fun _ h => (by cases h))⟩
  rw [List.append_nil]
  exact List.forall_mem_cons.mpr ⟨⟨show (23 : Nat) < 100 from by decide, nf0⟩, List.forall_mem_cons.mpr ⟨⟨show (23 : Nat) < 100 from by decide, nf1⟩, List.forall_mem_cons.mpr ⟨⟨show (20 : Nat) < 100 from by decide, nf2⟩, (fun _ h => (by cases h))⟩⟩⟩
def n_jMath_min1_v92_an : List an_T := []
def t_jMath_min1_v92_ct : ct_L := []
set_option maxRecDepth 100000 in
theorem c_jMath_min1_v92 {l : Launch} {D : va_G} {kA : Nat → ClassId} : ct_ok PRD l D kA GG y_jMath_min1 z_jMath_min1 e_jMath_min1_v92 := chk_all_ok (FT := []) (PT := []) (CT := t_jMath_min1_v92_ct) (KT := []) (NT := []) (AN := n_jMath_min1_v92_an) (OT := [o_jMath_min1_v92_0, o_jMath_min1_v92_1]) 0 200 (List.forall_mem_cons.mpr ⟨oo_jMath_min1_v92_0, List.forall_mem_cons.mpr ⟨oo_jMath_min1_v92_1, List.forall_mem_nil _⟩⟩) (pl_Math rfl (by decide)) ⟨List.forall_mem_nil _, List.forall_mem_nil _, List.forall_mem_nil _, List.forall_mem_nil _, List.forall_mem_nil _, GG_pl⟩ (by decide +kernel)
def e_jMath_max1_v93 : en_T := ([(0, 0, 71, []), (0, 0, 71, [])], some (0, 0, 71, []), true, 1, 0, 0, [], [], (0, [], [], [(23, [0, 2], [0, 1, -1]), (23, [1, 2], [0, 1, -1]), (20, [2, 0, 1], [50, 0, 0, 3, 6, 1, 2, 1, 0, 1, 1, 1, 2, 1, 0, 1, 2])], []))
set_option maxHeartbeats 4000000 in
theorem vc_jMath_max1_v93_0_0 (x0 : Int) (x1 : Int) (k0 : 0 ≤ x0 ∧ x0 ≤ 70) (k1 : 1 ≤ x1 ∧ x1 ≤ 71) (d0 : x1 + (-4294967296) ≤ x0 ∧ x0 ≤ x1 + (-1)) (f0 : x0 < x1) : 1 * x0 + ((-1) * x1 + 0) ≤ 0 := by
  first | assumption | omega | grind
set_option maxHeartbeats 4000000 in
theorem vc_jMath_max1_v93_0_1 (x0 : Int) (x1 : Int) (k0 : 0 ≤ x0 ∧ x0 ≤ 70) (k1 : 1 ≤ x1 ∧ x1 ≤ 71) (d0 : x1 + (-4294967296) ≤ x0 ∧ x0 ≤ x1 + (-1)) (f0 : x0 < x1) : 1 * x1 + ((-1) * x1 + 0) ≤ 0 := by
  first | assumption | omega | grind
set_option maxHeartbeats 4000000 in
theorem vc_jMath_max1_v93_0_2 (x0 : Int) (x1 : Int) (k0 : 0 ≤ x0 ∧ x0 ≤ 70) (k1 : 1 ≤ x1 ∧ x1 ≤ 71) (d0 : x1 + (-4294967296) ≤ x0 ∧ x0 ≤ x1 + (-1)) (f0 : x0 < x1) : (x1 = x0) ∨ (x1 = x1) := by
  first | assumption | omega | grind
def o_jMath_max1_v93_0 : or_T := (10, 2, [(0, (0, 0, 70, [])), (1, (0, 1, 71, []))], [(7, [0, 1], [2])], [], [], [(23, [0, 1], [0, 1, -1]), (23, [1, 1], [0, 1, -1]), (20, [1, 0, 1], [50, 0, 0, 3, 6, 1, 2, 1, 0, 1, 1, 1, 2, 1, 0, 1, 2])], [], [(0, 1, -4294967296, -1)])
theorem oo_jMath_max1_v93_0 {kA : Nat → ClassId} : or_ok PRD kA GG o_jMath_max1_v93_0 := by
  refine or_mk fun A ta ws vs hD hth hl => ?_
  intro t0 k0 t1 k1 d0 f0
  have nf0 : fc_1 PRD (23, [0, 1], [0, 1, -1]) ws (vs) := ⟨nf_in hl rfl, sgq_7 (vc_jMath_max1_v93_0_0 (v_iv (n_v vs 0)) (v_iv (n_v vs 1)) k0 k1 d0 (shm_6 f0))⟩
  have nf1 : fc_1 PRD (23, [1, 1], [0, 1, -1]) ws (vs) := ⟨nf_in hl rfl, sgq_8 (vc_jMath_max1_v93_0_1 (v_iv (n_v vs 0)) (v_iv (n_v vs 1)) k0 k1 d0 (shm_6 f0))⟩
  have nf2 : fc_1 PRD (20, [1, 0, 1], [50, 0, 0, 3, 6, 1, 2, 1, 0, 1, 1, 1, 2, 1, 0, 1, 2]) ws (vs) := ⟨nf_in hl rfl, sgq_28 (vc_jMath_max1_v93_0_2 (v_iv (n_v vs 0)) (v_iv (n_v vs 1)) k0 k1 d0 (shm_6 f0))⟩
  refine ⟨(fun _ h => (by cases h)), [], trivial, ?_, (fun _ h => (by cases h))⟩
  rw [List.append_nil]
  exact List.forall_mem_cons.mpr ⟨⟨show (23 : Nat) < 100 from by decide, nf0⟩, List.forall_mem_cons.mpr ⟨⟨show (23 : Nat) < 100 from by decide, nf1⟩, List.forall_mem_cons.mpr ⟨⟨show (20 : Nat) < 100 from by decide, nf2⟩, (fun _ h => (by cases h))⟩⟩⟩
set_option maxHeartbeats 4000000 in
theorem vc_jMath_max1_v93_1_0 (x0 : Int) (x1 : Int) (k0 : 0 ≤ x0 ∧ x0 ≤ 71) (k1 : 0 ≤ x1 ∧ x1 ≤ 71) (d0 : x1 + 0 ≤ x0 ∧ x0 ≤ x1 + 4294967296) (f0 : x1 ≤ x0) : 1 * x0 + ((-1) * x0 + 0) ≤ 0 := by
  first | assumption | omega | grind
set_option maxHeartbeats 4000000 in
theorem vc_jMath_max1_v93_1_1 (x0 : Int) (x1 : Int) (k0 : 0 ≤ x0 ∧ x0 ≤ 71) (k1 : 0 ≤ x1 ∧ x1 ≤ 71) (d0 : x1 + 0 ≤ x0 ∧ x0 ≤ x1 + 4294967296) (f0 : x1 ≤ x0) : 1 * x1 + ((-1) * x0 + 0) ≤ 0 := by
  first | assumption | omega | grind
set_option maxHeartbeats 4000000 in
theorem vc_jMath_max1_v93_1_2 (x0 : Int) (x1 : Int) (k0 : 0 ≤ x0 ∧ x0 ≤ 71) (k1 : 0 ≤ x1 ∧ x1 ≤ 71) (d0 : x1 + 0 ≤ x0 ∧ x0 ≤ x1 + 4294967296) (f0 : x1 ≤ x0) : (x0 = x0) ∨ (x0 = x1) := by
  first | assumption | omega | grind
def o_jMath_max1_v93_1 : or_T := (10, 2, [(0, (0, 0, 71, [])), (1, (0, 0, 71, []))], [(7, [0, 1], [3])], [], [], [(23, [0, 0], [0, 1, -1]), (23, [1, 0], [0, 1, -1]), (20, [0, 0, 1], [50, 0, 0, 3, 6, 1, 2, 1, 0, 1, 1, 1, 2, 1, 0, 1, 2])], [], [(0, 1, 0, 4294967296)])
theorem oo_jMath_max1_v93_1 {kA : Nat → ClassId} : or_ok PRD kA GG o_jMath_max1_v93_1 := by
  refine or_mk fun A ta ws vs hD hth hl => ?_
  intro t0 k0 t1 k1 d0 f0
  have nf0 : fc_1 PRD (23, [0, 0], [0, 1, -1]) ws (vs) := ⟨nf_in hl rfl, sgq_8 (vc_jMath_max1_v93_1_0 (v_iv (n_v vs 0)) (v_iv (n_v vs 1)) k0 k1 d0 (shm_2 f0))⟩
  have nf1 : fc_1 PRD (23, [1, 0], [0, 1, -1]) ws (vs) := ⟨nf_in hl rfl, sgq_7 (vc_jMath_max1_v93_1_1 (v_iv (n_v vs 0)) (v_iv (n_v vs 1)) k0 k1 d0 (shm_2 f0))⟩
  have nf2 : fc_1 PRD (20, [0, 0, 1], [50, 0, 0, 3, 6, 1, 2, 1, 0, 1, 1, 1, 2, 1, 0, 1, 2]) ws (vs) := ⟨nf_in hl rfl, sgq_29 (vc_jMath_max1_v93_1_2 (v_iv (n_v vs 0)) (v_iv (n_v vs 1)) k0 k1 d0 (shm_2 f0))⟩
  refine ⟨(fun _ h => (by cases h)), [], trivial, ?_, (fun _ h => (by cases h))⟩
  rw [List.append_nil]
  exact List.forall_mem_cons.mpr ⟨⟨show (23 : Nat) < 100 from by decide, nf0⟩, List.forall_mem_cons.mpr ⟨⟨show (23 : Nat) < 100 from by decide, nf1⟩, List.forall_mem_cons.mpr ⟨⟨show (20 : Nat) < 100 from by decide, nf2⟩, (fun _ h => (by cases h))⟩⟩⟩
def n_jMath_max1_v93_an : List an_T := []
def t_jMath_max1_v93_ct : ct_L := []
set_option maxRecDepth 100000 in
theorem c_jMath_max1_v93 {l : Launch} {D : va_G} {kA : Nat → ClassId} : ct_ok PRD l D kA GG y_jMath_max1 z_jMath_max1 e_jMath_max1_v93 := chk_all_ok (FT := []) (PT := []) (CT := t_jMath_max1_v93_ct) (KT := []) (NT := []) (AN := n_jMath_max1_v93_an) (OT := [o_jMath_max1_v93_0, o_jMath_max1_v93_1]) 0 200 (List.forall_mem_cons.mpr ⟨oo_jMath_max1_v93_0, List.forall_mem_cons.mpr ⟨oo_jMath_max1_v93_1, List.forall_mem_nil _⟩⟩) (pl_Math rfl (by decide)) ⟨List.forall_mem_nil _, List.forall_mem_nil _, List.forall_mem_nil _, List.forall_mem_nil _, List.forall_mem_nil _, GG_pl⟩ (by decide +kernel)
def e_jMath_min1_v94 : en_T := ([(0, 0, 71, []), (0, 0, 71, [])], some (0, 0, 71, []), true, 1, 0, 0, [], [], (0, [], [], [(23, [0, 2], [0, -1, 1]), (23, [1, 2], [0, -1, 1]), (20, [2, 0, 1], [50, 0, 0, 3, 6, 1, 2, 1, 0, 1, 1, 1, 2, 1, 0, 1, 2])], []))
set_option maxHeartbeats 4000000 in
theorem vc_jMath_min1_v94_0_0 (x0 : Int) (x1 : Int) (k0 : 1 ≤ x0 ∧ x0 ≤ 71) (k1 : 0 ≤ x1 ∧ x1 ≤ 70) (d0 : x1 + 1 ≤ x0 ∧ x0 ≤ x1 + 4294967296) (f0 : x1 < x0) : (-1) * x0 + (1 * x1 + 0) ≤ 0 := by
  first | assumption | omega | grind
set_option maxHeartbeats 4000000 in
theorem vc_jMath_min1_v94_0_1 (x0 : Int) (x1 : Int) (k0 : 1 ≤ x0 ∧ x0 ≤ 71) (k1 : 0 ≤ x1 ∧ x1 ≤ 70) (d0 : x1 + 1 ≤ x0 ∧ x0 ≤ x1 + 4294967296) (f0 : x1 < x0) : (-1) * x1 + (1 * x1 + 0) ≤ 0 := by
  first | assumption | omega | grind
set_option maxHeartbeats 4000000 in
theorem vc_jMath_min1_v94_0_2 (x0 : Int) (x1 : Int) (k0 : 1 ≤ x0 ∧ x0 ≤ 71) (k1 : 0 ≤ x1 ∧ x1 ≤ 70) (d0 : x1 + 1 ≤ x0 ∧ x0 ≤ x1 + 4294967296) (f0 : x1 < x0) : (x1 = x0) ∨ (x1 = x1) := by
  first | assumption | omega | grind
def o_jMath_min1_v94_0 : or_T := (10, 2, [(0, (0, 1, 71, [])), (1, (0, 0, 70, []))], [(7, [0, 1], [4])], [], [], [(23, [0, 1], [0, -1, 1]), (23, [1, 1], [0, -1, 1]), (20, [1, 0, 1], [50, 0, 0, 3, 6, 1, 2, 1, 0, 1, 1, 1, 2, 1, 0, 1, 2])], [], [(0, 1, 1, 4294967296)])
theorem oo_jMath_min1_v94_0 {kA : Nat → ClassId} : or_ok PRD kA GG o_jMath_min1_v94_0 := by
  refine or_mk fun A ta ws vs hD hth hl => ?_
  intro t0 k0 t1 k1 d0 f0
  have nf0 : fc_1 PRD (23, [0, 1], [0, -1, 1]) ws (vs) := ⟨nf_in hl rfl, sgq_22 (vc_jMath_min1_v94_0_0 (v_iv (n_v vs 0)) (v_iv (n_v vs 1)) k0 k1 d0 (shm_21 f0))⟩
  have nf1 : fc_1 PRD (23, [1, 1], [0, -1, 1]) ws (vs) := ⟨nf_in hl rfl, sgq_23 (vc_jMath_min1_v94_0_1 (v_iv (n_v vs 0)) (v_iv (n_v vs 1)) k0 k1 d0 (shm_21 f0))⟩
  have nf2 : fc_1 PRD (20, [1, 0, 1], [50, 0, 0, 3, 6, 1, 2, 1, 0, 1, 1, 1, 2, 1, 0, 1, 2]) ws (vs) := ⟨nf_in hl rfl, sgq_28 (vc_jMath_min1_v94_0_2 (v_iv (n_v vs 0)) (v_iv (n_v vs 1)) k0 k1 d0 (shm_21 f0))⟩
  refine ⟨(fun _ h => (by cases h)), [], trivial, ?_, (fun _ h => (by cases h))⟩
  rw [List.append_nil]
  exact List.forall_mem_cons.mpr ⟨⟨show (23 : Nat) < 100 from by decide, nf0⟩, List.forall_mem_cons.mpr ⟨⟨show (23 : Nat) < 100 from by decide, nf1⟩, List.forall_mem_cons.mpr ⟨⟨show (20 : Nat) < 100 from by decide, nf2⟩, (fun _ h => (by cases h))⟩⟩⟩
set_option maxHeartbeats 4000000 in
theorem vc_jMath_min1_v94_1_0 (x0 : Int) (x1 : Int) (k0 : 0 ≤ x0 ∧ x0 ≤ 71) (k1 : 0 ≤ x1 ∧ x1 ≤ 71) (d0 : x1 + (-4294967296) ≤ x0 ∧ x0 ≤ x1 + 0) (f0 : x0 ≤ x1) : (-1) * x0 + (1 * x0 + 0) ≤ 0 := by
  first | assumption | omega | grind
set_option maxHeartbeats 4000000 in
theorem vc_jMath_min1_v94_1_1 (x0 : Int) (x1 : Int) (k0 : 0 ≤ x0 ∧ x0 ≤ 71) (k1 : 0 ≤ x1 ∧ x1 ≤ 71) (d0 : x1 + (-4294967296) ≤ x0 ∧ x0 ≤ x1 + 0) (f0 : x0 ≤ x1) : (-1) * x1 + (1 * x0 + 0) ≤ 0 := by
  first | assumption | omega | grind
set_option maxHeartbeats 4000000 in
theorem vc_jMath_min1_v94_1_2 (x0 : Int) (x1 : Int) (k0 : 0 ≤ x0 ∧ x0 ≤ 71) (k1 : 0 ≤ x1 ∧ x1 ≤ 71) (d0 : x1 + (-4294967296) ≤ x0 ∧ x0 ≤ x1 + 0) (f0 : x0 ≤ x1) : (x0 = x0) ∨ (x0 = x1) := by
  first | assumption | omega | grind
def o_jMath_min1_v94_1 : or_T := (10, 2, [(0, (0, 0, 71, [])), (1, (0, 0, 71, []))], [(7, [0, 1], [5])], [], [], [(23, [0, 0], [0, -1, 1]), (23, [1, 0], [0, -1, 1]), (20, [0, 0, 1], [50, 0, 0, 3, 6, 1, 2, 1, 0, 1, 1, 1, 2, 1, 0, 1, 2])], [], [(0, 1, -4294967296, 0)])
theorem oo_jMath_min1_v94_1 {kA : Nat → ClassId} : or_ok PRD kA GG o_jMath_min1_v94_1 := by
  refine or_mk fun A ta ws vs hD hth hl => ?_
  intro t0 k0 t1 k1 d0 f0
  have nf0 : fc_1 PRD (23, [0, 0], [0, -1, 1]) ws (vs) := ⟨nf_in hl rfl, sgq_23 (vc_jMath_min1_v94_1_0 (v_iv (n_v vs 0)) (v_iv (n_v vs 1)) k0 k1 d0 (shm_24 f0))⟩
  have nf1 : fc_1 PRD (23, [1, 0], [0, -1, 1]) ws (vs) := ⟨nf_in hl rfl, sgq_22 (vc_jMath_min1_v94_1_1 (v_iv (n_v vs 0)) (v_iv (n_v vs 1)) k0 k1 d0 (shm_24 f0))⟩
  have nf2 : fc_1 PRD (20, [0, 0, 1], [50, 0, 0, 3, 6, 1, 2, 1, 0, 1, 1, 1, 2, 1, 0, 1, 2]) ws (vs) := ⟨nf_in hl rfl, sgq_29 (vc_jMath_min1_v94_1_2 (v_iv (n_v vs 0)) (v_iv (n_v vs 1)) k0 k1 d0 (shm_24 f0))⟩
  refine ⟨(fun _ h => (by cases h)), [], trivial, ?_, (fun _ h => (by cases h))⟩
  rw [List.append_nil]
  exact List.forall_mem_cons.mpr ⟨⟨show (23 : Nat) < 100 from by decide, nf0⟩, List.forall_mem_cons.mpr ⟨⟨show (23 : Nat) < 100 from by decide, nf1⟩, List.forall_mem_cons.mpr ⟨⟨show (20 : Nat) < 100 from by decide, nf2⟩, (fun _ h => (by cases h))⟩⟩⟩
def n_jMath_min1_v94_an : List an_T := []
def t_jMath_min1_v94_ct : ct_L := []
set_option maxRecDepth 100000 in
theorem c_jMath_min1_v94 {l : Launch} {D : va_G} {kA : Nat → ClassId} : ct_ok PRD l D kA GG y_jMath_min1 z_jMath_min1 e_jMath_min1_v94 := chk_all_ok (FT := []) (PT := []) (CT := t_jMath_min1_v94_ct) (KT := []) (NT := []) (AN := n_jMath_min1_v94_an) (OT := [o_jMath_min1_v94_0, o_jMath_min1_v94_1]) 0 200 (List.forall_mem_cons.mpr ⟨oo_jMath_min1_v94_0, List.forall_mem_cons.mpr ⟨oo_jMath_min1_v94_1, List.forall_mem_nil _⟩⟩) (pl_Math rfl (by decide)) ⟨List.forall_mem_nil _, List.forall_mem_nil _, List.forall_mem_nil _, List.forall_mem_nil _, List.forall_mem_nil _, GG_pl⟩ (by decide +kernel)
def e_jMath_min1_v95 : en_T := ([(0, 1000000, 1000000, []), (0, -2147483648, 1000000, [])], some (0, -2147483648, 1000000, []), true, 1, 0, 0, [], [], (0, [], [], [(23, [0, 2], [0, -1, 1]), (23, [1, 2], [0, -1, 1])], []))
def o_jMath_min1_v95_0 : or_T := (10, 2, [(0, (0, 1000000, 1000000, [])), (1, (0, -2147483648, 999999, []))], [(7, [0, 1], [4])], [], [], [(23, [0, 1], [0, -1, 1]), (23, [1, 1], [0, -1, 1])], [], [])
theorem oo_jMath_min1_v95_0 {kA : Nat → ClassId} : or_ok PRD kA GG o_jMath_min1_v95_0 := by
  refine or_mk fun A ta ws vs hD hth hl => ?_
  intro t0 k0 t1 k1 f0
  replace f0 := shm_21 f0
  have nf0 : fc_1 PRD (23, [0, 1], [0, -1, 1]) ws (vs) := by
    refine ⟨nf_in hl rfl, sgq_22 ?_⟩
    · show (-1) * v_iv (n_v vs 0) + (1 * v_iv (n_v vs 1) + 0) ≤ 0
      omega
  have nf1 : fc_1 PRD (23, [1, 1], [0, -1, 1]) ws (vs) := by
    refine ⟨nf_in hl rfl, sgq_23 ?_⟩
    · show (-1) * v_iv (n_v vs 1) + (1 * v_iv (n_v vs 1) + 0) ≤ 0
      omega
  refine ⟨(fun _ h => (by cases h)), [], trivial, ?_, (fun _ h => (by cases h))⟩
  rw [List.append_nil]
  exact List.forall_mem_cons.mpr ⟨⟨show (23 : Nat) < 100 from by decide, nf0⟩, List.forall_mem_cons.mpr ⟨⟨show (23 : Nat) < 100 from by decide, nf1⟩, (fun _ h => (by cases h))⟩⟩
def o_jMath_min1_v95_1 : or_T := (10, 2, [(0, (0, 1000000, 1000000, [])), (1, (0, 1000000, 1000000, []))], [(7, [0, 1], [5])], [], [], [(23, [0, 0], [0, -1, 1]), (23, [1, 0], [0, -1, 1])], [], [])
theorem oo_jMath_min1_v95_1 {kA : Nat → ClassId} : or_ok PRD kA GG o_jMath_min1_v95_1 := by
  refine or_mk fun A ta ws vs hD hth hl => ?_
  intro t0 k0 t1 k1 f0
  replace f0 := shm_24 f0
  have nf0 : fc_1 PRD (23, [0, 0], [0, -1, 1]) ws (vs) := by
    refine ⟨nf_in hl rfl, sgq_23 ?_⟩
    · show (-1) * v_iv (n_v vs 0) + (1 * v_iv (n_v vs 0) + 0) ≤ 0
      omega
  have nf1 : fc_1 PRD (23, [1, 0], [0, -1, 1]) ws (vs) := by
    refine ⟨nf_in hl rfl, sgq_22 ?_⟩
    · show (-1) * v_iv (n_v vs 1) + (1 * v_iv (n_v vs 0) + 0) ≤ 0
      omega
  refine ⟨(fun _ h => (by cases h)), [], trivial, ?_, (fun _ h => (by cases h))⟩
  rw [List.append_nil]
  exact List.forall_mem_cons.mpr ⟨⟨show (23 : Nat) < 100 from by decide, nf0⟩, List.forall_mem_cons.mpr ⟨⟨show (23 : Nat) < 100 from by decide, nf1⟩, (fun _ h => (by cases h))⟩⟩
def n_jMath_min1_v95_an : List an_T := []
def t_jMath_min1_v95_ct : ct_L := []
set_option maxRecDepth 100000 in
theorem c_jMath_min1_v95 {l : Launch} {D : va_G} {kA : Nat → ClassId} : ct_ok PRD l D kA GG y_jMath_min1 z_jMath_min1 e_jMath_min1_v95 := chk_all_ok (FT := []) (PT := []) (CT := t_jMath_min1_v95_ct) (KT := []) (NT := []) (AN := n_jMath_min1_v95_an) (OT := [o_jMath_min1_v95_0, o_jMath_min1_v95_1]) 0 200 (List.forall_mem_cons.mpr ⟨oo_jMath_min1_v95_0, List.forall_mem_cons.mpr ⟨oo_jMath_min1_v95_1, List.forall_mem_nil _⟩⟩) (pl_Math rfl (by decide)) ⟨List.forall_mem_nil _, List.forall_mem_nil _, List.forall_mem_nil _, List.forall_mem_nil _, List.forall_mem_nil _, GG_pl⟩ (by decide +kernel)
def e_jMath_min1_v96 : en_T := ([(0, -2147483648, 1000000, []), (0, -2147483648, 1000000, [])], some (0, -2147483648, 1000000, []), true, 1, 0, 0, [], [], (0, [], [], [(23, [0, 2], [0, -1, 1]), (23, [1, 2], [0, -1, 1])], []))
def o_jMath_min1_v96_0 : or_T := (10, 2, [(0, (0, -2147483647, 1000000, [])), (1, (0, -2147483648, 999999, []))], [(7, [0, 1], [4])], [], [], [(23, [0, 1], [0, -1, 1]), (23, [1, 1], [0, -1, 1])], [], [(0, 1, 1, 4294967296)])
theorem oo_jMath_min1_v96_0 {kA : Nat → ClassId} : or_ok PRD kA GG o_jMath_min1_v96_0 := by
  refine or_mk fun A ta ws vs hD hth hl => ?_
  intro t0 k0 t1 k1 d0 f0
  replace f0 := shm_21 f0
  have nf0 : fc_1 PRD (23, [0, 1], [0, -1, 1]) ws (vs) := by
    refine ⟨nf_in hl rfl, sgq_22 ?_⟩
    · show (-1) * v_iv (n_v vs 0) + (1 * v_iv (n_v vs 1) + 0) ≤ 0
      omega
  have nf1 : fc_1 PRD (23, [1, 1], [0, -1, 1]) ws (vs) := by
    refine ⟨nf_in hl rfl, sgq_23 ?_⟩
    · show (-1) * v_iv (n_v vs 1) + (1 * v_iv (n_v vs 1) + 0) ≤ 0
      omega
  refine ⟨(fun _ h => (by cases h)), [], trivial, ?_, (fun _ h => (by cases h))⟩
  rw [List.append_nil]
  exact List.forall_mem_cons.mpr ⟨⟨show (23 : Nat) < 100 from by decide, nf0⟩, List.forall_mem_cons.mpr ⟨⟨show (23 : Nat) < 100 from by decide, nf1⟩, (fun _ h => (by cases h))⟩⟩
def o_jMath_min1_v96_1 : or_T := (10, 2, [(0, (0, -2147483648, 1000000, [])), (1, (0, -2147483648, 1000000, []))], [(7, [0, 1], [5])], [], [], [(23, [0, 0], [0, -1, 1]), (23, [1, 0], [0, -1, 1])], [], [(0, 1, -4294967296, 0)])
theorem oo_jMath_min1_v96_1 {kA : Nat → ClassId} : or_ok PRD kA GG o_jMath_min1_v96_1 := by
  refine or_mk fun A ta ws vs hD hth hl => ?_
  intro t0 k0 t1 k1 d0 f0
  replace f0 := shm_24 f0
  have nf0 : fc_1 PRD (23, [0, 0], [0, -1, 1]) ws (vs) := by
    refine ⟨nf_in hl rfl, sgq_23 ?_⟩
    · show (-1) * v_iv (n_v vs 0) + (1 * v_iv (n_v vs 0) + 0) ≤ 0
      omega
  have nf1 : fc_1 PRD (23, [1, 0], [0, -1, 1]) ws (vs) := by
    refine ⟨nf_in hl rfl, sgq_22 ?_⟩
    · show (-1) * v_iv (n_v vs 1) + (1 * v_iv (n_v vs 0) + 0) ≤ 0
      omega
  refine ⟨(fun _ h => (by cases h)), [], trivial, ?_, (fun _ h => (by cases h))⟩
  rw [List.append_nil]
  exact List.forall_mem_cons.mpr ⟨⟨show (23 : Nat) < 100 from by decide, nf0⟩, List.forall_mem_cons.mpr ⟨⟨show (23 : Nat) < 100 from by decide, nf1⟩, (fun _ h => (by cases h))⟩⟩
def n_jMath_min1_v96_an : List an_T := []
def t_jMath_min1_v96_ct : ct_L := []
set_option maxRecDepth 100000 in
theorem c_jMath_min1_v96 {l : Launch} {D : va_G} {kA : Nat → ClassId} : ct_ok PRD l D kA GG y_jMath_min1 z_jMath_min1 e_jMath_min1_v96 := chk_all_ok (FT := []) (PT := []) (CT := t_jMath_min1_v96_ct) (KT := []) (NT := []) (AN := n_jMath_min1_v96_an) (OT := [o_jMath_min1_v96_0, o_jMath_min1_v96_1]) 0 200 (List.forall_mem_cons.mpr ⟨oo_jMath_min1_v96_0, List.forall_mem_cons.mpr ⟨oo_jMath_min1_v96_1, List.forall_mem_nil _⟩⟩) (pl_Math rfl (by decide)) ⟨List.forall_mem_nil _, List.forall_mem_nil _, List.forall_mem_nil _, List.forall_mem_nil _, List.forall_mem_nil _, GG_pl⟩ (by decide +kernel)
def e_jArr_fill2_v97 : en_T := ([(2, 0, 0, [100]), (1, 0, 0, [])], none, false, 1, 0, 0, [], [], (1267650600228229401496703205376, [], [], [], []))
def n_jArr_fill2_v97_an : List an_T := [(6, [(0, (2, 0, 0, [100])), (1, (1, 0, 0, [])), (3, (0, 0, 24, [])), (4, (0, 24, 24, []))], [], (0, 0), [(0, 0, 99994), (1, 2, 24), (0, 0, 100000)], [], [], [], 0, [], [])]
def t_jArr_fill2_v97_ct : ct_L := []
set_option maxRecDepth 100000 in
theorem c_jArr_fill2_v97 {l : Launch} {D : va_G} {kA : Nat → ClassId} : ct_ok PRD l D kA GG y_jArr_fill2 z_jArr_fill2 e_jArr_fill2_v97 := chk_all_ok (FT := []) (PT := []) (CT := t_jArr_fill2_v97_ct) (KT := []) (NT := []) (AN := n_jArr_fill2_v97_an) (OT := []) 3 200 (List.forall_mem_nil _) (by decide +kernel) ⟨List.forall_mem_nil _, List.forall_mem_nil _, List.forall_mem_nil _, List.forall_mem_nil _, List.forall_mem_nil _, GG_pl⟩ (by decide +kernel)
def e_jArr_fill2_v98 : en_T := ([(2, 0, 0, [101]), (1, 0, 0, [])], none, false, 1, 0, 0, [], [], (2535301200456458802993406410752, [], [], [], []))
def n_jArr_fill2_v98_an : List an_T := [(6, [(0, (2, 0, 0, [101])), (1, (1, 0, 0, [])), (3, (0, 0, 24, [])), (4, (0, 24, 24, []))], [], (0, 0), [(0, 0, 99994), (1, 2, 24), (0, 0, 100000)], [], [], [], 0, [], [])]
def t_jArr_fill2_v98_ct : ct_L := []
set_option maxRecDepth 100000 in
theorem c_jArr_fill2_v98 {l : Launch} {D : va_G} {kA : Nat → ClassId} : ct_ok PRD l D kA GG y_jArr_fill2 z_jArr_fill2 e_jArr_fill2_v98 := chk_all_ok (FT := []) (PT := []) (CT := t_jArr_fill2_v98_ct) (KT := []) (NT := []) (AN := n_jArr_fill2_v98_an) (OT := []) 3 200 (List.forall_mem_nil _) (by decide +kernel) ⟨List.forall_mem_nil _, List.forall_mem_nil _, List.forall_mem_nil _, List.forall_mem_nil _, List.forall_mem_nil _, GG_pl⟩ (by decide +kernel)
def e_jMath_max1_v99 : en_T := ([(0, 1, 23, []), (0, 0, 0, [])], some (0, 1, 23, []), true, 1, 0, 0, [], [], (0, [], [], [(23, [0, 2], [0, 1, -1]), (23, [1, 2], [0, 1, -1]), (20, [2, 0, 1], [50, 0, 0, 3, 6, 1, 2, 1, 0, 1, 1, 1, 2, 1, 0, 1, 2])], []))
set_option maxHeartbeats 4000000 in
theorem vc_jMath_max1_v99_0_0 (x0 : Int) (x1 : Int) (k0 : 1 ≤ x0 ∧ x0 ≤ 23) (k1 : 0 ≤ x1 ∧ x1 ≤ 0) (f0 : x1 ≤ x0) : 1 * x0 + ((-1) * x0 + 0) ≤ 0 := by
  first | assumption | omega | grind
set_option maxHeartbeats 4000000 in
theorem vc_jMath_max1_v99_0_1 (x0 : Int) (x1 : Int) (k0 : 1 ≤ x0 ∧ x0 ≤ 23) (k1 : 0 ≤ x1 ∧ x1 ≤ 0) (f0 : x1 ≤ x0) : 1 * x1 + ((-1) * x0 + 0) ≤ 0 := by
  first | assumption | omega | grind
set_option maxHeartbeats 4000000 in
theorem vc_jMath_max1_v99_0_2 (x0 : Int) (x1 : Int) (k0 : 1 ≤ x0 ∧ x0 ≤ 23) (k1 : 0 ≤ x1 ∧ x1 ≤ 0) (f0 : x1 ≤ x0) : (x0 = x0) ∨ (x0 = x1) := by
  first | assumption | omega | grind
def o_jMath_max1_v99_0 : or_T := (10, 2, [(0, (0, 1, 23, [])), (1, (0, 0, 0, []))], [(7, [0, 1], [3])], [], [], [(23, [0, 0], [0, 1, -1]), (23, [1, 0], [0, 1, -1]), (20, [0, 0, 1], [50, 0, 0, 3, 6, 1, 2, 1, 0, 1, 1, 1, 2, 1, 0, 1, 2])], [], [])
theorem oo_jMath_max1_v99_0 {kA : Nat → ClassId} : or_ok PRD kA GG o_jMath_max1_v99_0 := by
  refine or_mk fun A ta ws vs hD hth hl => ?_
  intro t0 k0 t1 k1 f0
  have nf0 : fc_1 PRD (23, [0, 0], [0, 1, -1]) ws (vs) := ⟨nf_in hl rfl, sgq_8 (vc_jMath_max1_v99_0_0 (v_iv (n_v vs 0)) (v_iv (n_v vs 1)) k0 k1 (shm_2 f0))⟩
  have nf1 : fc_1 PRD (23, [1, 0], [0, 1, -1]) ws (vs) := ⟨nf_in hl rfl, sgq_7 (vc_jMath_max1_v99_0_1 (v_iv (n_v vs 0)) (v_iv (n_v vs 1)) k0 k1 (shm_2 f0))⟩
  have nf2 : fc_1 PRD (20, [0, 0, 1], [50, 0, 0, 3, 6, 1, 2, 1, 0, 1, 1, 1, 2, 1, 0, 1, 2]) ws (vs) := ⟨nf_in hl rfl, sgq_29 (vc_jMath_max1_v99_0_2 (v_iv (n_v vs 0)) (v_iv (n_v vs 1)) k0 k1 (shm_2 f0))⟩
  refine ⟨(fun _ h => (by cases h)), [], trivial, ?_, (fun _ h => (by cases h))⟩
  rw [List.append_nil]
  exact List.forall_mem_cons.mpr ⟨⟨show (23 : Nat) < 100 from by decide, nf0⟩, List.forall_mem_cons.mpr ⟨⟨show (23 : Nat) < 100 from by decide, nf1⟩, List.forall_mem_cons.mpr ⟨⟨show (20 : Nat) < 100 from by decide, nf2⟩, (fun _ h => (by cases h))⟩⟩⟩
def n_jMath_max1_v99_an : List an_T := []
def t_jMath_max1_v99_ct : ct_L := []
set_option maxRecDepth 100000 in
theorem c_jMath_max1_v99 {l : Launch} {D : va_G} {kA : Nat → ClassId} : ct_ok PRD l D kA GG y_jMath_max1 z_jMath_max1 e_jMath_max1_v99 := chk_all_ok (FT := []) (PT := []) (CT := t_jMath_max1_v99_ct) (KT := []) (NT := []) (AN := n_jMath_max1_v99_an) (OT := [o_jMath_max1_v99_0]) 0 200 (List.forall_mem_cons.mpr ⟨oo_jMath_max1_v99_0, List.forall_mem_nil _⟩) (pl_Math rfl (by decide)) ⟨List.forall_mem_nil _, List.forall_mem_nil _, List.forall_mem_nil _, List.forall_mem_nil _, List.forall_mem_nil _, GG_pl⟩ (by decide +kernel)
def e_jMath_max1_v100 : en_T := ([(0, -2, -2, []), (0, 0, 0, [])], some (0, 0, 0, []), true, 1, 0, 0, [], [], (0, [], [], [(23, [0, 2], [0, 1, -1]), (23, [1, 2], [0, 1, -1])], []))
def o_jMath_max1_v100_0 : or_T := (10, 2, [(0, (0, -2, -2, [])), (1, (0, 0, 0, []))], [(7, [0, 1], [2])], [], [], [(23, [0, 1], [0, 1, -1]), (23, [1, 1], [0, 1, -1])], [], [])
theorem oo_jMath_max1_v100_0 {kA : Nat → ClassId} : or_ok PRD kA GG o_jMath_max1_v100_0 := by
  refine or_mk fun A ta ws vs hD hth hl => ?_
  intro t0 k0 t1 k1 f0
  replace f0 := shm_6 f0
  have nf0 : fc_1 PRD (23, [0, 1], [0, 1, -1]) ws (vs) := by
    refine ⟨nf_in hl rfl, sgq_7 ?_⟩
    · show 1 * v_iv (n_v vs 0) + ((-1) * v_iv (n_v vs 1) + 0) ≤ 0
      omega
  have nf1 : fc_1 PRD (23, [1, 1], [0, 1, -1]) ws (vs) := by
    refine ⟨nf_in hl rfl, sgq_8 ?_⟩
    · show 1 * v_iv (n_v vs 1) + ((-1) * v_iv (n_v vs 1) + 0) ≤ 0
      omega
  refine ⟨(fun _ h => (by cases h)), [], trivial, ?_, (fun _ h => (by cases h))⟩
  rw [List.append_nil]
  exact List.forall_mem_cons.mpr ⟨⟨show (23 : Nat) < 100 from by decide, nf0⟩, List.forall_mem_cons.mpr ⟨⟨show (23 : Nat) < 100 from by decide, nf1⟩, (fun _ h => (by cases h))⟩⟩
def n_jMath_max1_v100_an : List an_T := []
def t_jMath_max1_v100_ct : ct_L := []
set_option maxRecDepth 100000 in
theorem c_jMath_max1_v100 {l : Launch} {D : va_G} {kA : Nat → ClassId} : ct_ok PRD l D kA GG y_jMath_max1 z_jMath_max1 e_jMath_max1_v100 := chk_all_ok (FT := []) (PT := []) (CT := t_jMath_max1_v100_ct) (KT := []) (NT := []) (AN := n_jMath_max1_v100_an) (OT := [o_jMath_max1_v100_0]) 0 200 (List.forall_mem_cons.mpr ⟨oo_jMath_max1_v100_0, List.forall_mem_nil _⟩) (pl_Math rfl (by decide)) ⟨List.forall_mem_nil _, List.forall_mem_nil _, List.forall_mem_nil _, List.forall_mem_nil _, List.forall_mem_nil _, GG_pl⟩ (by decide +kernel)
def e_jMath_floorDiv1_v101 : en_T := ([(0, 0, 0, []), (0, 2, 2, [])], some (0, 0, 0, []), true, 1, 0, 0, [], [], (0, [], [], [], []))
def n_jMath_floorDiv1_v101_an : List an_T := []
def t_jMath_floorDiv1_v101_ct : ct_L := []
set_option maxRecDepth 100000 in
theorem c_jMath_floorDiv1_v101 {l : Launch} {D : va_G} {kA : Nat → ClassId} : ct_ok PRD l D kA GG y_jMath_floorDiv1 z_jMath_floorDiv1 e_jMath_floorDiv1_v101 := chk_all_ok (FT := []) (PT := []) (CT := t_jMath_floorDiv1_v101_ct) (KT := []) (NT := []) (AN := n_jMath_floorDiv1_v101_an) (OT := []) 0 200 (List.forall_mem_nil _) (pl_Math rfl (by decide)) ⟨List.forall_mem_nil _, List.forall_mem_nil _, List.forall_mem_nil _, List.forall_mem_nil _, List.forall_mem_nil _, GG_pl⟩ (by decide +kernel)
def e_jMath_min1_v102 : en_T := ([(0, 1000000, 1000000, []), (0, -1, 8000, [])], some (0, -1, 8000, []), true, 1, 0, 0, [], [], (0, [], [], [(23, [0, 2], [0, -1, 1]), (23, [1, 2], [0, -1, 1])], []))
def o_jMath_min1_v102_0 : or_T := (10, 2, [(0, (0, 1000000, 1000000, [])), (1, (0, -1, 8000, []))], [(7, [0, 1], [4])], [], [], [(23, [0, 1], [0, -1, 1]), (23, [1, 1], [0, -1, 1])], [], [])
theorem oo_jMath_min1_v102_0 {kA : Nat → ClassId} : or_ok PRD kA GG o_jMath_min1_v102_0 := by
  refine or_mk fun A ta ws vs hD hth hl => ?_
  intro t0 k0 t1 k1 f0
  replace f0 := shm_21 f0
  have nf0 : fc_1 PRD (23, [0, 1], [0, -1, 1]) ws (vs) := by
    refine ⟨nf_in hl rfl, sgq_22 ?_⟩
    · show (-1) * v_iv (n_v vs 0) + (1 * v_iv (n_v vs 1) + 0) ≤ 0
      omega
  have nf1 : fc_1 PRD (23, [1, 1], [0, -1, 1]) ws (vs) := by
    refine ⟨nf_in hl rfl, sgq_23 ?_⟩
    · show (-1) * v_iv (n_v vs 1) + (1 * v_iv (n_v vs 1) + 0) ≤ 0
      omega
  refine ⟨(fun _ h => (by cases h)), [], trivial, ?_, (fun _ h => (by cases h))⟩
  rw [List.append_nil]
  exact List.forall_mem_cons.mpr ⟨⟨show (23 : Nat) < 100 from by decide, nf0⟩, List.forall_mem_cons.mpr ⟨⟨show (23 : Nat) < 100 from by decide, nf1⟩, (fun _ h => (by cases h))⟩⟩
def n_jMath_min1_v102_an : List an_T := []
def t_jMath_min1_v102_ct : ct_L := []
set_option maxRecDepth 100000 in
theorem c_jMath_min1_v102 {l : Launch} {D : va_G} {kA : Nat → ClassId} : ct_ok PRD l D kA GG y_jMath_min1 z_jMath_min1 e_jMath_min1_v102 := chk_all_ok (FT := []) (PT := []) (CT := t_jMath_min1_v102_ct) (KT := []) (NT := []) (AN := n_jMath_min1_v102_an) (OT := [o_jMath_min1_v102_0]) 0 200 (List.forall_mem_cons.mpr ⟨oo_jMath_min1_v102_0, List.forall_mem_nil _⟩) (pl_Math rfl (by decide)) ⟨List.forall_mem_nil _, List.forall_mem_nil _, List.forall_mem_nil _, List.forall_mem_nil _, List.forall_mem_nil _, GG_pl⟩ (by decide +kernel)
def e_jMath_max1_v103 : en_T := ([(0, -1000000, -1000000, []), (0, -1, 8000, [])], some (0, -1, 8000, []), true, 1, 0, 0, [], [], (0, [], [], [(23, [0, 2], [0, 1, -1]), (23, [1, 2], [0, 1, -1])], []))
def o_jMath_max1_v103_0 : or_T := (10, 2, [(0, (0, -1000000, -1000000, [])), (1, (0, -1, 8000, []))], [(7, [0, 1], [2])], [], [], [(23, [0, 1], [0, 1, -1]), (23, [1, 1], [0, 1, -1])], [], [])
theorem oo_jMath_max1_v103_0 {kA : Nat → ClassId} : or_ok PRD kA GG o_jMath_max1_v103_0 := by
  refine or_mk fun A ta ws vs hD hth hl => ?_
  intro t0 k0 t1 k1 f0
  replace f0 := shm_6 f0
  have nf0 : fc_1 PRD (23, [0, 1], [0, 1, -1]) ws (vs) := by
    refine ⟨nf_in hl rfl, sgq_7 ?_⟩
    · show 1 * v_iv (n_v vs 0) + ((-1) * v_iv (n_v vs 1) + 0) ≤ 0
      omega
  have nf1 : fc_1 PRD (23, [1, 1], [0, 1, -1]) ws (vs) := by
    refine ⟨nf_in hl rfl, sgq_8 ?_⟩
    · show 1 * v_iv (n_v vs 1) + ((-1) * v_iv (n_v vs 1) + 0) ≤ 0
      omega
  refine ⟨(fun _ h => (by cases h)), [], trivial, ?_, (fun _ h => (by cases h))⟩
  rw [List.append_nil]
  exact List.forall_mem_cons.mpr ⟨⟨show (23 : Nat) < 100 from by decide, nf0⟩, List.forall_mem_cons.mpr ⟨⟨show (23 : Nat) < 100 from by decide, nf1⟩, (fun _ h => (by cases h))⟩⟩
def n_jMath_max1_v103_an : List an_T := []
def t_jMath_max1_v103_ct : ct_L := []
set_option maxRecDepth 100000 in
theorem c_jMath_max1_v103 {l : Launch} {D : va_G} {kA : Nat → ClassId} : ct_ok PRD l D kA GG y_jMath_max1 z_jMath_max1 e_jMath_max1_v103 := chk_all_ok (FT := []) (PT := []) (CT := t_jMath_max1_v103_ct) (KT := []) (NT := []) (AN := n_jMath_max1_v103_an) (OT := [o_jMath_max1_v103_0]) 0 200 (List.forall_mem_cons.mpr ⟨oo_jMath_max1_v103_0, List.forall_mem_nil _⟩) (pl_Math rfl (by decide)) ⟨List.forall_mem_nil _, List.forall_mem_nil _, List.forall_mem_nil _, List.forall_mem_nil _, List.forall_mem_nil _, GG_pl⟩ (by decide +kernel)
def e_jMath_floorDiv1_v104 : en_T := ([(0, -1000001, 1008000, []), (0, 2, 2, [])], some (0, -1000002, 1008000, []), true, 1, 0, 0, [], [], (0, [], [], [], []))
def n_jMath_floorDiv1_v104_an : List an_T := []
def t_jMath_floorDiv1_v104_ct : ct_L := []
set_option maxRecDepth 100000 in
theorem c_jMath_floorDiv1_v104 {l : Launch} {D : va_G} {kA : Nat → ClassId} : ct_ok PRD l D kA GG y_jMath_floorDiv1 z_jMath_floorDiv1 e_jMath_floorDiv1_v104 := chk_all_ok (FT := []) (PT := []) (CT := t_jMath_floorDiv1_v104_ct) (KT := []) (NT := []) (AN := n_jMath_floorDiv1_v104_an) (OT := []) 0 200 (List.forall_mem_nil _) (pl_Math rfl (by decide)) ⟨List.forall_mem_nil _, List.forall_mem_nil _, List.forall_mem_nil _, List.forall_mem_nil _, List.forall_mem_nil _, GG_pl⟩ (by decide +kernel)
def e_jMath_min1_v105 : en_T := ([(0, -1, 1000000, []), (0, -1, 8000, [])], some (0, -1, 8000, []), true, 1, 0, 0, [], [], (0, [], [], [(23, [0, 2], [0, -1, 1]), (23, [1, 2], [0, -1, 1])], []))
def o_jMath_min1_v105_0 : or_T := (10, 2, [(0, (0, 0, 1000000, [])), (1, (0, -1, 8000, []))], [(7, [0, 1], [4])], [], [], [(23, [0, 1], [0, -1, 1]), (23, [1, 1], [0, -1, 1])], [], [(0, 1, 1, 4294967296)])
theorem oo_jMath_min1_v105_0 {kA : Nat → ClassId} : or_ok PRD kA GG o_jMath_min1_v105_0 := by
  refine or_mk fun A ta ws vs hD hth hl => ?_
  intro t0 k0 t1 k1 d0 f0
  replace f0 := shm_21 f0
  have nf0 : fc_1 PRD (23, [0, 1], [0, -1, 1]) ws (vs) := by
    refine ⟨nf_in hl rfl, sgq_22 ?_⟩
    · show (-1) * v_iv (n_v vs 0) + (1 * v_iv (n_v vs 1) + 0) ≤ 0
      omega
  have nf1 : fc_1 PRD (23, [1, 1], [0, -1, 1]) ws (vs) := by
    refine ⟨nf_in hl rfl, sgq_23 ?_⟩
    · show (-1) * v_iv (n_v vs 1) + (1 * v_iv (n_v vs 1) + 0) ≤ 0
      omega
  refine ⟨(fun _ h => (by cases h)), [], trivial, ?_, (fun _ h => (by cases h))⟩
  rw [List.append_nil]
  exact List.forall_mem_cons.mpr ⟨⟨show (23 : Nat) < 100 from by decide, nf0⟩, List.forall_mem_cons.mpr ⟨⟨show (23 : Nat) < 100 from by decide, nf1⟩, (fun _ h => (by cases h))⟩⟩
def o_jMath_min1_v105_1 : or_T := (10, 2, [(0, (0, -1, 8000, [])), (1, (0, -1, 8000, []))], [(7, [0, 1], [5])], [], [], [(23, [0, 0], [0, -1, 1]), (23, [1, 0], [0, -1, 1])], [], [(0, 1, -4294967296, 0)])
theorem oo_jMath_min1_v105_1 {kA : Nat → ClassId} : or_ok PRD kA GG o_jMath_min1_v105_1 := by
  refine or_mk fun A ta ws vs hD hth hl => ?_
  intro t0 k0 t1 k1 d0 f0
  replace f0 := shm_24 f0
  have nf0 : fc_1 PRD (23, [0, 0], [0, -1, 1]) ws (vs) := by
    refine ⟨nf_in hl rfl, sgq_23 ?_⟩
    · show (-1) * v_iv (n_v vs 0) + (1 * v_iv (n_v vs 0) + 0) ≤ 0
      omega
  have nf1 : fc_1 PRD (23, [1, 0], [0, -1, 1]) ws (vs) := by
    refine ⟨nf_in hl rfl, sgq_22 ?_⟩
    · show (-1) * v_iv (n_v vs 1) + (1 * v_iv (n_v vs 0) + 0) ≤ 0
      omega
  refine ⟨(fun _ h => (by cases h)), [], trivial, ?_, (fun _ h => (by cases h))⟩
  rw [List.append_nil]
  exact List.forall_mem_cons.mpr ⟨⟨show (23 : Nat) < 100 from by decide, nf0⟩, List.forall_mem_cons.mpr ⟨⟨show (23 : Nat) < 100 from by decide, nf1⟩, (fun _ h => (by cases h))⟩⟩
def n_jMath_min1_v105_an : List an_T := []
def t_jMath_min1_v105_ct : ct_L := []
set_option maxRecDepth 100000 in
theorem c_jMath_min1_v105 {l : Launch} {D : va_G} {kA : Nat → ClassId} : ct_ok PRD l D kA GG y_jMath_min1 z_jMath_min1 e_jMath_min1_v105 := chk_all_ok (FT := []) (PT := []) (CT := t_jMath_min1_v105_ct) (KT := []) (NT := []) (AN := n_jMath_min1_v105_an) (OT := [o_jMath_min1_v105_0, o_jMath_min1_v105_1]) 0 200 (List.forall_mem_cons.mpr ⟨oo_jMath_min1_v105_0, List.forall_mem_cons.mpr ⟨oo_jMath_min1_v105_1, List.forall_mem_nil _⟩⟩) (pl_Math rfl (by decide)) ⟨List.forall_mem_nil _, List.forall_mem_nil _, List.forall_mem_nil _, List.forall_mem_nil _, List.forall_mem_nil _, GG_pl⟩ (by decide +kernel)
def e_jMath_max1_v106 : en_T := ([(0, -1000000, 8000, []), (0, -1, 8000, [])], some (0, -1, 8000, []), true, 1, 0, 0, [], [], (0, [], [], [(23, [0, 2], [0, 1, -1]), (23, [1, 2], [0, 1, -1])], []))
def o_jMath_max1_v106_0 : or_T := (10, 2, [(0, (0, -1000000, 7999, [])), (1, (0, -1, 8000, []))], [(7, [0, 1], [2])], [], [], [(23, [0, 1], [0, 1, -1]), (23, [1, 1], [0, 1, -1])], [], [(0, 1, -4294967296, -1)])
theorem oo_jMath_max1_v106_0 {kA : Nat → ClassId} : or_ok PRD kA GG o_jMath_max1_v106_0 := by
  refine or_mk fun A ta ws vs hD hth hl => ?_
  intro t0 k0 t1 k1 d0 f0
  replace f0 := shm_6 f0
  have nf0 : fc_1 PRD (23, [0, 1], [0, 1, -1]) ws (vs) := by
    refine ⟨nf_in hl rfl, sgq_7 ?_⟩
    · show 1 * v_iv (n_v vs 0) + ((-1) * v_iv (n_v vs 1) + 0) ≤ 0
      omega
  have nf1 : fc_1 PRD (23, [1, 1], [0, 1, -1]) ws (vs) := by
    refine ⟨nf_in hl rfl, sgq_8 ?_⟩
    · show 1 * v_iv (n_v vs 1) + ((-1) * v_iv (n_v vs 1) + 0) ≤ 0
      omega
  refine ⟨(fun _ h => (by cases h)), [], trivial, ?_, (fun _ h => (by cases h))⟩
  rw [List.append_nil]
  exact List.forall_mem_cons.mpr ⟨⟨show (23 : Nat) < 100 from by decide, nf0⟩, List.forall_mem_cons.mpr ⟨⟨show (23 : Nat) < 100 from by decide, nf1⟩, (fun _ h => (by cases h))⟩⟩
def o_jMath_max1_v106_1 : or_T := (10, 2, [(0, (0, -1, 8000, [])), (1, (0, -1, 8000, []))], [(7, [0, 1], [3])], [], [], [(23, [0, 0], [0, 1, -1]), (23, [1, 0], [0, 1, -1])], [], [(0, 1, 0, 4294967296)])
theorem oo_jMath_max1_v106_1 {kA : Nat → ClassId} : or_ok PRD kA GG o_jMath_max1_v106_1 := by
  refine or_mk fun A ta ws vs hD hth hl => ?_
  intro t0 k0 t1 k1 d0 f0
  replace f0 := shm_2 f0
  have nf0 : fc_1 PRD (23, [0, 0], [0, 1, -1]) ws (vs) := by
    refine ⟨nf_in hl rfl, sgq_8 ?_⟩
    · show 1 * v_iv (n_v vs 0) + ((-1) * v_iv (n_v vs 0) + 0) ≤ 0
      omega
  have nf1 : fc_1 PRD (23, [1, 0], [0, 1, -1]) ws (vs) := by
    refine ⟨nf_in hl rfl, sgq_7 ?_⟩
    · show 1 * v_iv (n_v vs 1) + ((-1) * v_iv (n_v vs 0) + 0) ≤ 0
      omega
  refine ⟨(fun _ h => (by cases h)), [], trivial, ?_, (fun _ h => (by cases h))⟩
  rw [List.append_nil]
  exact List.forall_mem_cons.mpr ⟨⟨show (23 : Nat) < 100 from by decide, nf0⟩, List.forall_mem_cons.mpr ⟨⟨show (23 : Nat) < 100 from by decide, nf1⟩, (fun _ h => (by cases h))⟩⟩
def n_jMath_max1_v106_an : List an_T := []
def t_jMath_max1_v106_ct : ct_L := []
set_option maxRecDepth 100000 in
theorem c_jMath_max1_v106 {l : Launch} {D : va_G} {kA : Nat → ClassId} : ct_ok PRD l D kA GG y_jMath_max1 z_jMath_max1 e_jMath_max1_v106 := chk_all_ok (FT := []) (PT := []) (CT := t_jMath_max1_v106_ct) (KT := []) (NT := []) (AN := n_jMath_max1_v106_an) (OT := [o_jMath_max1_v106_0, o_jMath_max1_v106_1]) 0 200 (List.forall_mem_cons.mpr ⟨oo_jMath_max1_v106_0, List.forall_mem_cons.mpr ⟨oo_jMath_max1_v106_1, List.forall_mem_nil _⟩⟩) (pl_Math rfl (by decide)) ⟨List.forall_mem_nil _, List.forall_mem_nil _, List.forall_mem_nil _, List.forall_mem_nil _, List.forall_mem_nil _, GG_pl⟩ (by decide +kernel)
def e_jArr_fill1_v107 : en_T := ([(2, 0, 0, [107]), (0, -1, -1, [])], none, false, 1, 0, 0, [], [], (162259276829213363391578010288128, [], [], [(20, [0, 1], [8, -1, -1, 145])], []))
def o_jArr_fill1_v107_0 : or_T := (5, 4, [(2, (0, 0, 0, []))], [], [], [], [(20, [0, 2], [8, -1, -1, 0])], [], [])
theorem oo_jArr_fill1_v107_0 {kA : Nat → ClassId} : or_ok PRD kA GG o_jArr_fill1_v107_0 := by
  refine or_mk fun A ta ws vs hD hth hl => ?_
  intro t2 k2
  have nf0 : fc_1 PRD (20, [0, 2], [8, -1, -1, 0]) ws (vs) := by
    refine ⟨nf_in hl rfl, sgq_16 ?_⟩
    · show ∀ j : Nat, (j : Int) < v_iv (n_v vs 2) + 0 → (-1) ≤ w_el ws (v_ad (n_v vs 0)) j ∧ w_el ws (v_ad (n_v vs 0)) j ≤ (-1)
      intro j hj
      exfalso; omega
  refine ⟨(fun _ h => (by cases h)), [], trivial, ?_, (fun _ h => (by cases h))⟩
  rw [List.append_nil]
  exact List.forall_mem_cons.mpr ⟨⟨show (20 : Nat) < 100 from by decide, nf0⟩, (fun _ h => (by cases h))⟩
def o_jArr_fill1_v107_1 : or_T := (5, 4, [], [], [], [], [(24, [0, 0], [])], [], [])
theorem oo_jArr_fill1_v107_1 {kA : Nat → ClassId} : or_ok PRD kA GG o_jArr_fill1_v107_1 := by
  refine or_mk fun A ta ws vs hD hth hl => ?_
  have nf0 : fc_1 PRD (24, [0, 0], []) ws (vs) := by
    refine ⟨nf_in hl rfl, sgq_1 ?_⟩
    · show n_v vs 0 = n_v vs 0
      first | rfl | simp only [true_and]
  refine ⟨(fun _ h => (by cases h)), [], trivial, ?_, (fun _ h => (by cases h))⟩
  rw [List.append_nil]
  exact List.forall_mem_cons.mpr ⟨⟨show (24 : Nat) < 100 from by decide, nf0⟩, (fun _ h => (by cases h))⟩
def o_jArr_fill1_v107_2 : or_T := (20, 6, [(1, (0, -1, -1, [])), (4, (0, 144, 144, [])), (5, (0, 144, 144, []))], [(7, [4, 5], [3]), (20, [0, 4], [8, -1, -1, 0])], [], [], [(20, [0, 1], [8, -1, -1, 145])], [], [])
theorem oo_jArr_fill1_v107_2 {kA : Nat → ClassId} : or_ok PRD kA GG o_jArr_fill1_v107_2 := by
  refine or_mk fun A ta ws vs hD hth hl => ?_
  intro t1 k1 t4 k4 t5 k5 f0 f1
  replace f0 := shm_2 f0
  replace f1 := shm_16 f1
  have nf0 : fc_1 PRD (20, [0, 1], [8, -1, -1, 145]) ws (vs) := by
    refine ⟨nf_in hl rfl, sgq_31 ?_⟩
    · show ∀ j : Nat, (j : Int) < v_iv (n_v vs 1) + 145 → (-1) ≤ w_el ws (v_ad (n_v vs 0)) j ∧ w_el ws (v_ad (n_v vs 0)) j ≤ (-1)
      intro j hj
      exact f1 j (by omega)
  refine ⟨(fun _ h => (by cases h)), [], trivial, ?_, (fun _ h => (by cases h))⟩
  rw [List.append_nil]
  exact List.forall_mem_cons.mpr ⟨⟨show (20 : Nat) < 100 from by decide, nf0⟩, (fun _ h => (by cases h))⟩
def o_jArr_fill1_v107_3 : or_T := (5, 7, [(3, (0, -1, -1, [])), (4, (0, 0, 143, [])), (5, (0, 144, 144, [])), (6, (0, 1, 144, []))], [(6, [6, 4], [1]), (24, [0, 2], []), (100, [2, 4, 3], []), (7, [4, 5], [2]), (20, [0, 4], [8, -1, -1, 0])], [], [], [(20, [0, 6], [8, -1, -1, 0])], [], [(6, 4, 1, 1)])
theorem oo_jArr_fill1_v107_3 {kA : Nat → ClassId} : or_ok PRD kA GG o_jArr_fill1_v107_3 := by
  refine or_mk fun A ta ws vs hD hth hl => ?_
  intro t3 k3 t4 k4 t5 k5 t6 k6 d0 f0 f1 ta1 w1 le1 s1 f3 f4
  replace f0 := shm_4 f0
  replace f1 := shm_5 f1
  have s1 : (∀ b j, w_el ws b j = if b = v_ad (n_v vs 2) ∧ j = (v_iv (n_v vs 4)).toNat then v_iv (n_v vs 3) else w_el w1 b j) ∧ ∀ b k, w_fd ws b k = w_fd w1 b k := s1.2
  replace f3 := shm_6 f3
  replace f4 := shm_16 f4
  rw [← f1] at s1
  have nf0 : fc_1 PRD (20, [0, 6], [8, -1, -1, 0]) ws (vs) := by
    refine ⟨nf_in hl rfl, sgq_16 ?_⟩
    · show ∀ j : Nat, (j : Int) < v_iv (n_v vs 6) + 0 → (-1) ≤ w_el ws (v_ad (n_v vs 0)) j ∧ w_el ws (v_ad (n_v vs 0)) j ≤ (-1)
      intro j hj
      by_cases hji : j = (v_iv (n_v vs 4)).toNat
      · rw [s1.1, if_pos ⟨rfl, hji⟩]; first | (constructor <;> omega) | (exfalso; omega)
      · rw [s1.1, if_neg (fun e => hji e.2)]; exact f4 j (by omega)
  refine ⟨(fun _ h => (by cases h)), [], trivial, ?_, (fun _ h => (by cases h))⟩
  rw [List.append_nil]
  exact List.forall_mem_cons.mpr ⟨⟨show (20 : Nat) < 100 from by decide, nf0⟩, (fun _ h => (by cases h))⟩
def n_jArr_fill1_v107_an : List an_T := [(5, [(0, (2, 0, 0, [107])), (1, (0, -1, -1, [])), (2, (0, 0, 144, [])), (3, (0, 144, 144, []))], [], (0, 0), [(0, 0, 99995), (1, 4, 144), (0, 0, 100000)], [], [], [(2, 0, 0, [107]), (0, -1, -1, [])], 0, [], [(20, [0, 4], [8, -1, -1, 0]), (24, [0, 2], [])])]
def t_jArr_fill1_v107_ct : ct_L := []
set_option maxRecDepth 100000 in
theorem c_jArr_fill1_v107 {l : Launch} {D : va_G} {kA : Nat → ClassId} : ct_ok PRD l D kA GG y_jArr_fill1 z_jArr_fill1 e_jArr_fill1_v107 := chk_all_ok (FT := []) (PT := []) (CT := t_jArr_fill1_v107_ct) (KT := []) (NT := []) (AN := n_jArr_fill1_v107_an) (OT := [o_jArr_fill1_v107_0, o_jArr_fill1_v107_1, o_jArr_fill1_v107_2, o_jArr_fill1_v107_3]) 3 200 (List.forall_mem_cons.mpr ⟨oo_jArr_fill1_v107_0, List.forall_mem_cons.mpr ⟨oo_jArr_fill1_v107_1, List.forall_mem_cons.mpr ⟨oo_jArr_fill1_v107_2, List.forall_mem_cons.mpr ⟨oo_jArr_fill1_v107_3, List.forall_mem_nil _⟩⟩⟩⟩) (by decide +kernel) ⟨List.forall_mem_nil _, List.forall_mem_nil _, List.forall_mem_nil _, List.forall_mem_nil _, List.forall_mem_nil _, GG_pl⟩ (by decide +kernel)
def e_jMath_min1_v108 : en_T := ([(0, 1000000000, 1000000000, []), (0, -40000011, 689999997, [])], some (0, -40000011, 689999997, []), true, 1, 0, 0, [], [], (0, [], [], [(23, [0, 2], [0, -1, 1]), (23, [1, 2], [0, -1, 1])], []))
def o_jMath_min1_v108_0 : or_T := (10, 2, [(0, (0, 1000000000, 1000000000, [])), (1, (0, -40000011, 689999997, []))], [(7, [0, 1], [4])], [], [], [(23, [0, 1], [0, -1, 1]), (23, [1, 1], [0, -1, 1])], [], [])
theorem oo_jMath_min1_v108_0 {kA : Nat → ClassId} : or_ok PRD kA GG o_jMath_min1_v108_0 := by
  refine or_mk fun A ta ws vs hD hth hl => ?_
  intro t0 k0 t1 k1 f0
  replace f0 := shm_21 f0
  have nf0 : fc_1 PRD (23, [0, 1], [0, -1, 1]) ws (vs) := by
    refine ⟨nf_in hl rfl, sgq_22 ?_⟩
    · show (-1) * v_iv (n_v vs 0) + (1 * v_iv (n_v vs 1) + 0) ≤ 0
      omega
  have nf1 : fc_1 PRD (23, [1, 1], [0, -1, 1]) ws (vs) := by
    refine ⟨nf_in hl rfl, sgq_23 ?_⟩
    · show (-1) * v_iv (n_v vs 1) + (1 * v_iv (n_v vs 1) + 0) ≤ 0
      omega
  refine ⟨(fun _ h => (by cases h)), [], trivial, ?_, (fun _ h => (by cases h))⟩
  rw [List.append_nil]
  exact List.forall_mem_cons.mpr ⟨⟨show (23 : Nat) < 100 from by decide, nf0⟩, List.forall_mem_cons.mpr ⟨⟨show (23 : Nat) < 100 from by decide, nf1⟩, (fun _ h => (by cases h))⟩⟩
def n_jMath_min1_v108_an : List an_T := []
def t_jMath_min1_v108_ct : ct_L := []
set_option maxRecDepth 100000 in
theorem c_jMath_min1_v108 {l : Launch} {D : va_G} {kA : Nat → ClassId} : ct_ok PRD l D kA GG y_jMath_min1 z_jMath_min1 e_jMath_min1_v108 := chk_all_ok (FT := []) (PT := []) (CT := t_jMath_min1_v108_ct) (KT := []) (NT := []) (AN := n_jMath_min1_v108_an) (OT := [o_jMath_min1_v108_0]) 0 200 (List.forall_mem_cons.mpr ⟨oo_jMath_min1_v108_0, List.forall_mem_nil _⟩) (pl_Math rfl (by decide)) ⟨List.forall_mem_nil _, List.forall_mem_nil _, List.forall_mem_nil _, List.forall_mem_nil _, List.forall_mem_nil _, GG_pl⟩ (by decide +kernel)
def e_jMath_max1_v109 : en_T := ([(0, -1000000000, -1000000000, []), (0, -39999997, 690000011, [])], some (0, -39999997, 690000011, []), true, 1, 0, 0, [], [], (0, [], [], [(23, [0, 2], [0, 1, -1]), (23, [1, 2], [0, 1, -1])], []))
def o_jMath_max1_v109_0 : or_T := (10, 2, [(0, (0, -1000000000, -1000000000, [])), (1, (0, -39999997, 690000011, []))], [(7, [0, 1], [2])], [], [], [(23, [0, 1], [0, 1, -1]), (23, [1, 1], [0, 1, -1])], [], [])
theorem oo_jMath_max1_v109_0 {kA : Nat → ClassId} : or_ok PRD kA GG o_jMath_max1_v109_0 := by
  refine or_mk fun A ta ws vs hD hth hl => ?_
  intro t0 k0 t1 k1 f0
  replace f0 := shm_6 f0
  have nf0 : fc_1 PRD (23, [0, 1], [0, 1, -1]) ws (vs) := by
    refine ⟨nf_in hl rfl, sgq_7 ?_⟩
    · show 1 * v_iv (n_v vs 0) + ((-1) * v_iv (n_v vs 1) + 0) ≤ 0
      omega
  have nf1 : fc_1 PRD (23, [1, 1], [0, 1, -1]) ws (vs) := by
    refine ⟨nf_in hl rfl, sgq_8 ?_⟩
    · show 1 * v_iv (n_v vs 1) + ((-1) * v_iv (n_v vs 1) + 0) ≤ 0
      omega
  refine ⟨(fun _ h => (by cases h)), [], trivial, ?_, (fun _ h => (by cases h))⟩
  rw [List.append_nil]
  exact List.forall_mem_cons.mpr ⟨⟨show (23 : Nat) < 100 from by decide, nf0⟩, List.forall_mem_cons.mpr ⟨⟨show (23 : Nat) < 100 from by decide, nf1⟩, (fun _ h => (by cases h))⟩⟩
def n_jMath_max1_v109_an : List an_T := []
def t_jMath_max1_v109_ct : ct_L := []
set_option maxRecDepth 100000 in
theorem c_jMath_max1_v109 {l : Launch} {D : va_G} {kA : Nat → ClassId} : ct_ok PRD l D kA GG y_jMath_max1 z_jMath_max1 e_jMath_max1_v109 := chk_all_ok (FT := []) (PT := []) (CT := t_jMath_max1_v109_ct) (KT := []) (NT := []) (AN := n_jMath_max1_v109_an) (OT := [o_jMath_max1_v109_0]) 0 200 (List.forall_mem_cons.mpr ⟨oo_jMath_max1_v109_0, List.forall_mem_nil _⟩) (pl_Math rfl (by decide)) ⟨List.forall_mem_nil _, List.forall_mem_nil _, List.forall_mem_nil _, List.forall_mem_nil _, List.forall_mem_nil _, GG_pl⟩ (by decide +kernel)
def e_jMath_min1_v110 : en_T := ([(0, 1000000000, 1000000000, []), (0, -40000003, 689999997, [])], some (0, -40000003, 689999997, []), true, 1, 0, 0, [], [], (0, [], [], [(23, [0, 2], [0, -1, 1]), (23, [1, 2], [0, -1, 1])], []))
def o_jMath_min1_v110_0 : or_T := (10, 2, [(0, (0, 1000000000, 1000000000, [])), (1, (0, -40000003, 689999997, []))], [(7, [0, 1], [4])], [], [], [(23, [0, 1], [0, -1, 1]), (23, [1, 1], [0, -1, 1])], [], [])
theorem oo_jMath_min1_v110_0 {kA : Nat → ClassId} : or_ok PRD kA GG o_jMath_min1_v110_0 := by
  refine or_mk fun A ta ws vs hD hth hl => ?_
  intro t0 k0 t1 k1 f0
  replace f0 := shm_21 f0
  have nf0 : fc_1 PRD (23, [0, 1], [0, -1, 1]) ws (vs) := by
    refine ⟨nf_in hl rfl, sgq_22 ?_⟩
    · show (-1) * v_iv (n_v vs 0) + (1 * v_iv (n_v vs 1) + 0) ≤ 0
      omega
  have nf1 : fc_1 PRD (23, [1, 1], [0, -1, 1]) ws (vs) := by
    refine ⟨nf_in hl rfl, sgq_23 ?_⟩
    · show (-1) * v_iv (n_v vs 1) + (1 * v_iv (n_v vs 1) + 0) ≤ 0
      omega
  refine ⟨(fun _ h => (by cases h)), [], trivial, ?_, (fun _ h => (by cases h))⟩
  rw [List.append_nil]
  exact List.forall_mem_cons.mpr ⟨⟨show (23 : Nat) < 100 from by decide, nf0⟩, List.forall_mem_cons.mpr ⟨⟨show (23 : Nat) < 100 from by decide, nf1⟩, (fun _ h => (by cases h))⟩⟩
def n_jMath_min1_v110_an : List an_T := []
def t_jMath_min1_v110_ct : ct_L := []
set_option maxRecDepth 100000 in
theorem c_jMath_min1_v110 {l : Launch} {D : va_G} {kA : Nat → ClassId} : ct_ok PRD l D kA GG y_jMath_min1 z_jMath_min1 e_jMath_min1_v110 := chk_all_ok (FT := []) (PT := []) (CT := t_jMath_min1_v110_ct) (KT := []) (NT := []) (AN := n_jMath_min1_v110_an) (OT := [o_jMath_min1_v110_0]) 0 200 (List.forall_mem_cons.mpr ⟨oo_jMath_min1_v110_0, List.forall_mem_nil _⟩) (pl_Math rfl (by decide)) ⟨List.forall_mem_nil _, List.forall_mem_nil _, List.forall_mem_nil _, List.forall_mem_nil _, List.forall_mem_nil _, GG_pl⟩ (by decide +kernel)
def e_jMath_max1_v111 : en_T := ([(0, -1000000000, -1000000000, []), (0, -39999997, 690000003, [])], some (0, -39999997, 690000003, []), true, 1, 0, 0, [], [], (0, [], [], [(23, [0, 2], [0, 1, -1]), (23, [1, 2], [0, 1, -1])], []))
def o_jMath_max1_v111_0 : or_T := (10, 2, [(0, (0, -1000000000, -1000000000, [])), (1, (0, -39999997, 690000003, []))], [(7, [0, 1], [2])], [], [], [(23, [0, 1], [0, 1, -1]), (23, [1, 1], [0, 1, -1])], [], [])
theorem oo_jMath_max1_v111_0 {kA : Nat → ClassId} : or_ok PRD kA GG o_jMath_max1_v111_0 := by
  refine or_mk fun A ta ws vs hD hth hl => ?_
  intro t0 k0 t1 k1 f0
  replace f0 := shm_6 f0
  have nf0 : fc_1 PRD (23, [0, 1], [0, 1, -1]) ws (vs) := by
    refine ⟨nf_in hl rfl, sgq_7 ?_⟩
    · show 1 * v_iv (n_v vs 0) + ((-1) * v_iv (n_v vs 1) + 0) ≤ 0
      omega
  have nf1 : fc_1 PRD (23, [1, 1], [0, 1, -1]) ws (vs) := by
    refine ⟨nf_in hl rfl, sgq_8 ?_⟩
    · show 1 * v_iv (n_v vs 1) + ((-1) * v_iv (n_v vs 1) + 0) ≤ 0
      omega
  refine ⟨(fun _ h => (by cases h)), [], trivial, ?_, (fun _ h => (by cases h))⟩
  rw [List.append_nil]
  exact List.forall_mem_cons.mpr ⟨⟨show (23 : Nat) < 100 from by decide, nf0⟩, List.forall_mem_cons.mpr ⟨⟨show (23 : Nat) < 100 from by decide, nf1⟩, (fun _ h => (by cases h))⟩⟩
def n_jMath_max1_v111_an : List an_T := []
def t_jMath_max1_v111_ct : ct_L := []
set_option maxRecDepth 100000 in
theorem c_jMath_max1_v111 {l : Launch} {D : va_G} {kA : Nat → ClassId} : ct_ok PRD l D kA GG y_jMath_max1 z_jMath_max1 e_jMath_max1_v111 := chk_all_ok (FT := []) (PT := []) (CT := t_jMath_max1_v111_ct) (KT := []) (NT := []) (AN := n_jMath_max1_v111_an) (OT := [o_jMath_max1_v111_0]) 0 200 (List.forall_mem_cons.mpr ⟨oo_jMath_max1_v111_0, List.forall_mem_nil _⟩) (pl_Math rfl (by decide)) ⟨List.forall_mem_nil _, List.forall_mem_nil _, List.forall_mem_nil _, List.forall_mem_nil _, List.forall_mem_nil _, GG_pl⟩ (by decide +kernel)
def e_jMath_min1_v112 : en_T := ([(0, -40000011, 1000000000, []), (0, -40000011, 689999997, [])], some (0, -40000011, 689999997, []), true, 1, 0, 0, [], [], (0, [], [], [(23, [0, 2], [0, -1, 1]), (23, [1, 2], [0, -1, 1])], []))
def o_jMath_min1_v112_0 : or_T := (10, 2, [(0, (0, -40000010, 1000000000, [])), (1, (0, -40000011, 689999997, []))], [(7, [0, 1], [4])], [], [], [(23, [0, 1], [0, -1, 1]), (23, [1, 1], [0, -1, 1])], [], [(0, 1, 1, 4294967296)])
theorem oo_jMath_min1_v112_0 {kA : Nat → ClassId} : or_ok PRD kA GG o_jMath_min1_v112_0 := by
  refine or_mk fun A ta ws vs hD hth hl => ?_
  intro t0 k0 t1 k1 d0 f0
  replace f0 := shm_21 f0
  have nf0 : fc_1 PRD (23, [0, 1], [0, -1, 1]) ws (vs) := by
    refine ⟨nf_in hl rfl, sgq_22 ?_⟩
    · show (-1) * v_iv (n_v vs 0) + (1 * v_iv (n_v vs 1) + 0) ≤ 0
      omega
  have nf1 : fc_1 PRD (23, [1, 1], [0, -1, 1]) ws (vs) := by
    refine ⟨nf_in hl rfl, sgq_23 ?_⟩
    · show (-1) * v_iv (n_v vs 1) + (1 * v_iv (n_v vs 1) + 0) ≤ 0
      omega
  refine ⟨(fun _ h => (by cases h)), [], trivial, ?_, (fun _ h => (by cases h))⟩
  rw [List.append_nil]
  exact List.forall_mem_cons.mpr ⟨⟨show (23 : Nat) < 100 from by decide, nf0⟩, List.forall_mem_cons.mpr ⟨⟨show (23 : Nat) < 100 from by decide, nf1⟩, (fun _ h => (by cases h))⟩⟩
def o_jMath_min1_v112_1 : or_T := (10, 2, [(0, (0, -40000011, 689999997, [])), (1, (0, -40000011, 689999997, []))], [(7, [0, 1], [5])], [], [], [(23, [0, 0], [0, -1, 1]), (23, [1, 0], [0, -1, 1])], [], [(0, 1, -4294967296, 0)])
theorem oo_jMath_min1_v112_1 {kA : Nat → ClassId} : or_ok PRD kA GG o_jMath_min1_v112_1 := by
  refine or_mk fun A ta ws vs hD hth hl => ?_
  intro t0 k0 t1 k1 d0 f0
  replace f0 := shm_24 f0
  have nf0 : fc_1 PRD (23, [0, 0], [0, -1, 1]) ws (vs) := by
    refine ⟨nf_in hl rfl, sgq_23 ?_⟩
    · show (-1) * v_iv (n_v vs 0) + (1 * v_iv (n_v vs 0) + 0) ≤ 0
      omega
  have nf1 : fc_1 PRD (23, [1, 0], [0, -1, 1]) ws (vs) := by
    refine ⟨nf_in hl rfl, sgq_22 ?_⟩
    · show (-1) * v_iv (n_v vs 1) + (1 * v_iv (n_v vs 0) + 0) ≤ 0
      omega
  refine ⟨(fun _ h => (by cases h)), [], trivial, ?_, (fun _ h => (by cases h))⟩
  rw [List.append_nil]
  exact List.forall_mem_cons.mpr ⟨⟨show (23 : Nat) < 100 from by decide, nf0⟩, List.forall_mem_cons.mpr ⟨⟨show (23 : Nat) < 100 from by decide, nf1⟩, (fun _ h => (by cases h))⟩⟩
def n_jMath_min1_v112_an : List an_T := []
def t_jMath_min1_v112_ct : ct_L := []
set_option maxRecDepth 100000 in
theorem c_jMath_min1_v112 {l : Launch} {D : va_G} {kA : Nat → ClassId} : ct_ok PRD l D kA GG y_jMath_min1 z_jMath_min1 e_jMath_min1_v112 := chk_all_ok (FT := []) (PT := []) (CT := t_jMath_min1_v112_ct) (KT := []) (NT := []) (AN := n_jMath_min1_v112_an) (OT := [o_jMath_min1_v112_0, o_jMath_min1_v112_1]) 0 200 (List.forall_mem_cons.mpr ⟨oo_jMath_min1_v112_0, List.forall_mem_cons.mpr ⟨oo_jMath_min1_v112_1, List.forall_mem_nil _⟩⟩) (pl_Math rfl (by decide)) ⟨List.forall_mem_nil _, List.forall_mem_nil _, List.forall_mem_nil _, List.forall_mem_nil _, List.forall_mem_nil _, GG_pl⟩ (by decide +kernel)
def e_jMath_max1_v113 : en_T := ([(0, -1000000000, 690000011, []), (0, -39999997, 690000011, [])], some (0, -39999997, 690000011, []), true, 1, 0, 0, [], [], (0, [], [], [(23, [0, 2], [0, 1, -1]), (23, [1, 2], [0, 1, -1]), (20, [2, 0, 1], [50, 0, 0, 3, 6, 1, 2, 1, 0, 1, 1, 1, 2, 1, 0, 1, 2])], []))
set_option maxHeartbeats 4000000 in
theorem vc_jMath_max1_v113_0_0 (x0 : Int) (x1 : Int) (k0 : (-1000000000) ≤ x0 ∧ x0 ≤ 690000010) (k1 : (-39999997) ≤ x1 ∧ x1 ≤ 690000011) (d0 : x1 + (-4294967296) ≤ x0 ∧ x0 ≤ x1 + (-1)) (f0 : x0 < x1) : 1 * x0 + ((-1) * x1 + 0) ≤ 0 := by
  first | assumption | omega | grind
set_option maxHeartbeats 4000000 in
theorem vc_jMath_max1_v113_0_1 (x0 : Int) (x1 : Int) (k0 : (-1000000000) ≤ x0 ∧ x0 ≤ 690000010) (k1 : (-39999997) ≤ x1 ∧ x1 ≤ 690000011) (d0 : x1 + (-4294967296) ≤ x0 ∧ x0 ≤ x1 + (-1)) (f0 : x0 < x1) : 1 * x1 + ((-1) * x1 + 0) ≤ 0 := by
  first | assumption | omega | grind
set_option maxHeartbeats 4000000 in
theorem vc_jMath_max1_v113_0_2 (x0 : Int) (x1 : Int) (k0 : (-1000000000) ≤ x0 ∧ x0 ≤ 690000010) (k1 : (-39999997) ≤ x1 ∧ x1 ≤ 690000011) (d0 : x1 + (-4294967296) ≤ x0 ∧ x0 ≤ x1 + (-1)) (f0 : x0 < x1) : (x1 = x0) ∨ (x1 = x1) := by
  first | assumption | omega | grind
def o_jMath_max1_v113_0 : or_T := (10, 2, [(0, (0, -1000000000, 690000010, [])), (1, (0, -39999997, 690000011, []))], [(7, [0, 1], [2])], [], [], [(23, [0, 1], [0, 1, -1]), (23, [1, 1], [0, 1, -1]), (20, [1, 0, 1], [50, 0, 0, 3, 6, 1, 2, 1, 0, 1, 1, 1, 2, 1, 0, 1, 2])], [], [(0, 1, -4294967296, -1)])
theorem oo_jMath_max1_v113_0 {kA : Nat → ClassId} : or_ok PRD kA GG o_jMath_max1_v113_0 := by
  refine or_mk fun A ta ws vs hD hth hl => ?_
  intro t0 k0 t1 k1 d0 f0
  have nf0 : fc_1 PRD (23, [0, 1], [0, 1, -1]) ws (vs) := ⟨nf_in hl rfl, sgq_7 (vc_jMath_max1_v113_0_0 (v_iv (n_v vs 0)) (v_iv (n_v vs 1)) k0 k1 d0 (shm_6 f0))⟩
  have nf1 : fc_1 PRD (23, [1, 1], [0, 1, -1]) ws (vs) := ⟨nf_in hl rfl, sgq_8 (vc_jMath_max1_v113_0_1 (v_iv (n_v vs 0)) (v_iv (n_v vs 1)) k0 k1 d0 (shm_6 f0))⟩
  have nf2 : fc_1 PRD (20, [1, 0, 1], [50, 0, 0, 3, 6, 1, 2, 1, 0, 1, 1, 1, 2, 1, 0, 1, 2]) ws (vs) := ⟨nf_in hl rfl, sgq_28 (vc_jMath_max1_v113_0_2 (v_iv (n_v vs 0)) (v_iv (n_v vs 1)) k0 k1 d0 (shm_6 f0))⟩
  refine ⟨(fun _ h => (by cases h)), [], trivial, ?_, (fun _ h => (by cases h))⟩
  rw [List.append_nil]
  exact List.forall_mem_cons.mpr ⟨⟨show (23 : Nat) < 100 from by decide, nf0⟩, List.forall_mem_cons.mpr ⟨⟨show (23 : Nat) < 100 from by decide, nf1⟩, List.forall_mem_cons.mpr ⟨⟨show (20 : Nat) < 100 from by decide, nf2⟩, (fun _ h => (by cases h))⟩⟩⟩
set_option maxHeartbeats 4000000 in
theorem vc_jMath_max1_v113_1_0 (x0 : Int) (x1 : Int) (k0 : (-39999997) ≤ x0 ∧ x0 ≤ 690000011) (k1 : (-39999997) ≤ x1 ∧ x1 ≤ 690000011) (d0 : x1 + 0 ≤ x0 ∧ x0 ≤ x1 + 4294967296) (f0 : x1 ≤ x0) : 1 * x0 + ((-1) * x0 + 0) ≤ 0 := by
  first | assumption | omega | grind
set_option maxHeartbeats 4000000 in
theorem vc_jMath_max1_v113_1_1 (x0 : Int) (x1 : Int) (k0 : (-39999997) ≤ x0 ∧ x0 ≤ 690000011) (k1 : (-39999997) ≤ x1 ∧ x1 ≤ 690000011) (d0 : x1 + 0 ≤ x0 ∧ x0 ≤ x1 + 4294967296) (f0 : x1 ≤ x0) : 1 * x1 + ((-1) * x0 + 0) ≤ 0 := by
  first | assumption | omega | grind
set_option maxHeartbeats 4000000 in
theorem vc_jMath_max1_v113_1_2 (x0 : Int) (x1 : Int) (k0 : (-39999997) ≤ x0 ∧ x0 ≤ 690000011) (k1 : (-39999997) ≤ x1 ∧ x1 ≤ 690000011) (d0 : x1 + 0 ≤ x0 ∧ x0 ≤ x1 + 4294967296) (f0 : x1 ≤ x0) : (x0 = x0) ∨ (x0 = x1) := by
  first | assumption | omega | grind
def o_jMath_max1_v113_1 : or_T := (10, 2, [(0, (0, -39999997, 690000011, [])), (1, (0, -39999997, 690000011, []))], [(7, [0, 1], [3])], [], [], [(23, [0, 0], [0, 1, -1]), (23, [1, 0], [0, 1, -1]), (20, [0, 0, 1], [50, 0, 0, 3, 6, 1, 2, 1, 0, 1, 1, 1, 2, 1, 0, 1, 2])], [], [(0, 1, 0, 4294967296)])
theorem oo_jMath_max1_v113_1 {kA : Nat → ClassId} : or_ok PRD kA GG o_jMath_max1_v113_1 := by
  refine or_mk fun A ta ws vs hD hth hl => ?_
  intro t0 k0 t1 k1 d0 f0
  have nf0 : fc_1 PRD (23, [0, 0], [0, 1, -1]) ws (vs) := ⟨nf_in hl rfl, sgq_8 (vc_jMath_max1_v113_1_0 (v_iv (n_v vs 0)) (v_iv (n_v vs 1)) k0 k1 d0 (shm_2 f0))⟩
  have nf1 : fc_1 PRD (23, [1, 0], [0, 1, -1]) ws (vs) := ⟨nf_in hl rfl, sgq_7 (vc_jMath_max1_v113_1_1 (v_iv (n_v vs 0)) (v_iv (n_v vs 1)) k0 k1 d0 (shm_2 f0))⟩
  have nf2 : fc_1 PRD (20, [0, 0, 1], [50, 0, 0, 3, 6, 1, 2, 1, 0, 1, 1, 1, 2, 1, 0, 1, 2]) ws (vs) := ⟨nf_in hl rfl, sgq_29 (vc_jMath_max1_v113_1_2 (v_iv (n_v vs 0)) (v_iv (n_v vs 1)) k0 k1 d0 (shm_2 f0))⟩
  refine ⟨(fun _ h => (by cases h)), [], trivial, ?_, (fun _ h => (by cases h))⟩
  rw [List.append_nil]
  exact List.forall_mem_cons.mpr ⟨⟨show (23 : Nat) < 100 from by decide, nf0⟩, List.forall_mem_cons.mpr ⟨⟨show (23 : Nat) < 100 from by decide, nf1⟩, List.forall_mem_cons.mpr ⟨⟨show (20 : Nat) < 100 from by decide, nf2⟩, (fun _ h => (by cases h))⟩⟩⟩
def n_jMath_max1_v113_an : List an_T := []
def t_jMath_max1_v113_ct : ct_L := []
set_option maxRecDepth 100000 in
theorem c_jMath_max1_v113 {l : Launch} {D : va_G} {kA : Nat → ClassId} : ct_ok PRD l D kA GG y_jMath_max1 z_jMath_max1 e_jMath_max1_v113 := chk_all_ok (FT := []) (PT := []) (CT := t_jMath_max1_v113_ct) (KT := []) (NT := []) (AN := n_jMath_max1_v113_an) (OT := [o_jMath_max1_v113_0, o_jMath_max1_v113_1]) 0 200 (List.forall_mem_cons.mpr ⟨oo_jMath_max1_v113_0, List.forall_mem_cons.mpr ⟨oo_jMath_max1_v113_1, List.forall_mem_nil _⟩⟩) (pl_Math rfl (by decide)) ⟨List.forall_mem_nil _, List.forall_mem_nil _, List.forall_mem_nil _, List.forall_mem_nil _, List.forall_mem_nil _, GG_pl⟩ (by decide +kernel)
def e_jMath_min1_v114 : en_T := ([(0, -40000003, 1000000000, []), (0, -40000003, 689999997, [])], some (0, -40000003, 689999997, []), true, 1, 0, 0, [], [], (0, [], [], [(23, [0, 2], [0, -1, 1]), (23, [1, 2], [0, -1, 1])], []))
def o_jMath_min1_v114_0 : or_T := (10, 2, [(0, (0, -40000002, 1000000000, [])), (1, (0, -40000003, 689999997, []))], [(7, [0, 1], [4])], [], [], [(23, [0, 1], [0, -1, 1]), (23, [1, 1], [0, -1, 1])], [], [(0, 1, 1, 4294967296)])
theorem oo_jMath_min1_v114_0 {kA : Nat → ClassId} : or_ok PRD kA GG o_jMath_min1_v114_0 := by
  refine or_mk fun A ta ws vs hD hth hl => ?_
  intro t0 k0 t1 k1 d0 f0
  replace f0 := shm_21 f0
  have nf0 : fc_1 PRD (23, [0, 1], [0, -1, 1]) ws (vs) := by
    refine ⟨nf_in hl rfl, sgq_22 ?_⟩
    · show (-1) * v_iv (n_v vs 0) + (1 * v_iv (n_v vs 1) + 0) ≤ 0
      omega
  have nf1 : fc_1 PRD (23, [1, 1], [0, -1, 1]) ws (vs) := by
    refine ⟨nf_in hl rfl, sgq_23 ?_⟩
    · show (-1) * v_iv (n_v vs 1) + (1 * v_iv (n_v vs 1) + 0) ≤ 0
      omega
  refine ⟨(fun _ h => (by cases h)), [], trivial, ?_, (fun _ h => (by cases h))⟩
  rw [List.append_nil]
  exact List.forall_mem_cons.mpr ⟨⟨show (23 : Nat) < 100 from by decide, nf0⟩, List.forall_mem_cons.mpr ⟨⟨show (23 : Nat) < 100 from by decide, nf1⟩, (fun _ h => (by cases h))⟩⟩
def o_jMath_min1_v114_1 : or_T := (10, 2, [(0, (0, -40000003, 689999997, [])), (1, (0, -40000003, 689999997, []))], [(7, [0, 1], [5])], [], [], [(23, [0, 0], [0, -1, 1]), (23, [1, 0], [0, -1, 1])], [], [(0, 1, -4294967296, 0)])
theorem oo_jMath_min1_v114_1 {kA : Nat → ClassId} : or_ok PRD kA GG o_jMath_min1_v114_1 := by
  refine or_mk fun A ta ws vs hD hth hl => ?_
  intro t0 k0 t1 k1 d0 f0
  replace f0 := shm_24 f0
  have nf0 : fc_1 PRD (23, [0, 0], [0, -1, 1]) ws (vs) := by
    refine ⟨nf_in hl rfl, sgq_23 ?_⟩
    · show (-1) * v_iv (n_v vs 0) + (1 * v_iv (n_v vs 0) + 0) ≤ 0
      omega
  have nf1 : fc_1 PRD (23, [1, 0], [0, -1, 1]) ws (vs) := by
    refine ⟨nf_in hl rfl, sgq_22 ?_⟩
    · show (-1) * v_iv (n_v vs 1) + (1 * v_iv (n_v vs 0) + 0) ≤ 0
      omega
  refine ⟨(fun _ h => (by cases h)), [], trivial, ?_, (fun _ h => (by cases h))⟩
  rw [List.append_nil]
  exact List.forall_mem_cons.mpr ⟨⟨show (23 : Nat) < 100 from by decide, nf0⟩, List.forall_mem_cons.mpr ⟨⟨show (23 : Nat) < 100 from by decide, nf1⟩, (fun _ h => (by cases h))⟩⟩
def n_jMath_min1_v114_an : List an_T := []
def t_jMath_min1_v114_ct : ct_L := []
set_option maxRecDepth 100000 in
theorem c_jMath_min1_v114 {l : Launch} {D : va_G} {kA : Nat → ClassId} : ct_ok PRD l D kA GG y_jMath_min1 z_jMath_min1 e_jMath_min1_v114 := chk_all_ok (FT := []) (PT := []) (CT := t_jMath_min1_v114_ct) (KT := []) (NT := []) (AN := n_jMath_min1_v114_an) (OT := [o_jMath_min1_v114_0, o_jMath_min1_v114_1]) 0 200 (List.forall_mem_cons.mpr ⟨oo_jMath_min1_v114_0, List.forall_mem_cons.mpr ⟨oo_jMath_min1_v114_1, List.forall_mem_nil _⟩⟩) (pl_Math rfl (by decide)) ⟨List.forall_mem_nil _, List.forall_mem_nil _, List.forall_mem_nil _, List.forall_mem_nil _, List.forall_mem_nil _, GG_pl⟩ (by decide +kernel)
def e_jMath_max1_v115 : en_T := ([(0, -1000000000, 690000003, []), (0, -39999997, 690000003, [])], some (0, -39999997, 690000003, []), true, 1, 0, 0, [], [], (0, [], [], [(23, [0, 2], [0, 1, -1]), (23, [1, 2], [0, 1, -1]), (20, [2, 0, 1], [50, 0, 0, 3, 6, 1, 2, 1, 0, 1, 1, 1, 2, 1, 0, 1, 2])], []))
set_option maxHeartbeats 4000000 in
theorem vc_jMath_max1_v115_0_0 (x0 : Int) (x1 : Int) (k0 : (-1000000000) ≤ x0 ∧ x0 ≤ 690000002) (k1 : (-39999997) ≤ x1 ∧ x1 ≤ 690000003) (d0 : x1 + (-4294967296) ≤ x0 ∧ x0 ≤ x1 + (-1)) (f0 : x0 < x1) : 1 * x0 + ((-1) * x1 + 0) ≤ 0 := by
  first | assumption | omega | grind
set_option maxHeartbeats 4000000 in
theorem vc_jMath_max1_v115_0_1 (x0 : Int) (x1 : Int) (k0 : (-1000000000) ≤ x0 ∧ x0 ≤ 690000002) (k1 : (-39999997) ≤ x1 ∧ x1 ≤ 690000003) (d0 : x1 + (-4294967296) ≤ x0 ∧ x0 ≤ x1 + (-1)) (f0 : x0 < x1) : 1 * x1 + ((-1) * x1 + 0) ≤ 0 := by
  first | assumption | omega | grind
set_option maxHeartbeats 4000000 in
theorem vc_jMath_max1_v115_0_2 (x0 : Int) (x1 : Int) (k0 : (-1000000000) ≤ x0 ∧ x0 ≤ 690000002) (k1 : (-39999997) ≤ x1 ∧ x1 ≤ 690000003) (d0 : x1 + (-4294967296) ≤ x0 ∧ x0 ≤ x1 + (-1)) (f0 : x0 < x1) : (x1 = x0) ∨ (x1 = x1) := by
  first | assumption | omega | grind
def o_jMath_max1_v115_0 : or_T := (10, 2, [(0, (0, -1000000000, 690000002, [])), (1, (0, -39999997, 690000003, []))], [(7, [0, 1], [2])], [], [], [(23, [0, 1], [0, 1, -1]), (23, [1, 1], [0, 1, -1]), (20, [1, 0, 1], [50, 0, 0, 3, 6, 1, 2, 1, 0, 1, 1, 1, 2, 1, 0, 1, 2])], [], [(0, 1, -4294967296, -1)])
theorem oo_jMath_max1_v115_0 {kA : Nat → ClassId} : or_ok PRD kA GG o_jMath_max1_v115_0 := by
  refine or_mk fun A ta ws vs hD hth hl => ?_
  intro t0 k0 t1 k1 d0 f0
  have nf0 : fc_1 PRD (23, [0, 1], [0, 1, -1]) ws (vs) := ⟨nf_in hl rfl, sgq_7 (vc_jMath_max1_v115_0_0 (v_iv (n_v vs 0)) (v_iv (n_v vs 1)) k0 k1 d0 (shm_6 f0))⟩
  have nf1 : fc_1 PRD (23, [1, 1], [0, 1, -1]) ws (vs) := ⟨nf_in hl rfl, sgq_8 (vc_jMath_max1_v115_0_1 (v_iv (n_v vs 0)) (v_iv (n_v vs 1)) k0 k1 d0 (shm_6 f0))⟩
  have nf2 : fc_1 PRD (20, [1, 0, 1], [50, 0, 0, 3, 6, 1, 2, 1, 0, 1, 1, 1, 2, 1, 0, 1, 2]) ws (vs) := ⟨nf_in hl rfl, sgq_28 (vc_jMath_max1_v115_0_2 (v_iv (n_v vs 0)) (v_iv (n_v vs 1)) k0 k1 d0 (shm_6 f0))⟩
  refine ⟨(fun _ h => (by cases h)), [], trivial, ?_, (fun _ h => (by cases h))⟩
  rw [List.append_nil]
  exact List.forall_mem_cons.mpr ⟨⟨show (23 : Nat) < 100 from by decide, nf0⟩, List.forall_mem_cons.mpr ⟨⟨show (23 : Nat) < 100 from by decide, nf1⟩, List.forall_mem_cons.mpr ⟨⟨show (20 : Nat) < 100 from by decide, nf2⟩, (fun _ h => (by cases h))⟩⟩⟩
set_option maxHeartbeats 4000000 in
theorem vc_jMath_max1_v115_1_0 (x0 : Int) (x1 : Int) (k0 : (-39999997) ≤ x0 ∧ x0 ≤ 690000003) (k1 : (-39999997) ≤ x1 ∧ x1 ≤ 690000003) (d0 : x1 + 0 ≤ x0 ∧ x0 ≤ x1 + 4294967296) (f0 : x1 ≤ x0) : 1 * x0 + ((-1) * x0 + 0) ≤ 0 := by
  first | assumption | omega | grind
set_option maxHeartbeats 4000000 in
theorem vc_jMath_max1_v115_1_1 (x0 : Int) (x1 : Int) (k0 : (-39999997) ≤ x0 ∧ x0 ≤ 690000003) (k1 : (-39999997) ≤ x1 ∧ x1 ≤ 690000003) (d0 : x1 + 0 ≤ x0 ∧ x0 ≤ x1 + 4294967296) (f0 : x1 ≤ x0) : 1 * x1 + ((-1) * x0 + 0) ≤ 0 := by
  first | assumption | omega | grind
set_option maxHeartbeats 4000000 in
theorem vc_jMath_max1_v115_1_2 (x0 : Int) (x1 : Int) (k0 : (-39999997) ≤ x0 ∧ x0 ≤ 690000003) (k1 : (-39999997) ≤ x1 ∧ x1 ≤ 690000003) (d0 : x1 + 0 ≤ x0 ∧ x0 ≤ x1 + 4294967296) (f0 : x1 ≤ x0) : (x0 = x0) ∨ (x0 = x1) := by
  first | assumption | omega | grind
def o_jMath_max1_v115_1 : or_T := (10, 2, [(0, (0, -39999997, 690000003, [])), (1, (0, -39999997, 690000003, []))], [(7, [0, 1], [3])], [], [], [(23, [0, 0], [0, 1, -1]), (23, [1, 0], [0, 1, -1]), (20, [0, 0, 1], [50, 0, 0, 3, 6, 1, 2, 1, 0, 1, 1, 1, 2, 1, 0, 1, 2])], [], [(0, 1, 0, 4294967296)])
theorem oo_jMath_max1_v115_1 {kA : Nat → ClassId} : or_ok PRD kA GG o_jMath_max1_v115_1 := by
  refine or_mk fun A ta ws vs hD hth hl => ?_
  intro t0 k0 t1 k1 d0 f0
  have nf0 : fc_1 PRD (23, [0, 0], [0, 1, -1]) ws (vs) := ⟨nf_in hl rfl, sgq_8 (vc_jMath_max1_v115_1_0 (v_iv (n_v vs 0)) (v_iv (n_v vs 1)) k0 k1 d0 (shm_2 f0))⟩
  have nf1 : fc_1 PRD (23, [1, 0], [0, 1, -1]) ws (vs) := ⟨nf_in hl rfl, sgq_7 (vc_jMath_max1_v115_1_1 (v_iv (n_v vs 0)) (v_iv (n_v vs 1)) k0 k1 d0 (shm_2 f0))⟩
  have nf2 : fc_1 PRD (20, [0, 0, 1], [50, 0, 0, 3, 6, 1, 2, 1, 0, 1, 1, 1, 2, 1, 0, 1, 2]) ws (vs) := ⟨nf_in hl rfl, sgq_29 (vc_jMath_max1_v115_1_2 (v_iv (n_v vs 0)) (v_iv (n_v vs 1)) k0 k1 d0 (shm_2 f0))⟩
  refine ⟨(fun _ h => (by cases h)), [], trivial, ?_, (fun _ h => (by cases h))⟩
  rw [List.append_nil]
  exact List.forall_mem_cons.mpr ⟨⟨show (23 : Nat) < 100 from by decide, nf0⟩, List.forall_mem_cons.mpr ⟨⟨show (23 : Nat) < 100 from by decide, nf1⟩, List.forall_mem_cons.mpr ⟨⟨show (20 : Nat) < 100 from by decide, nf2⟩, (fun _ h => (by cases h))⟩⟩⟩
def n_jMath_max1_v115_an : List an_T := []
def t_jMath_max1_v115_ct : ct_L := []
set_option maxRecDepth 100000 in
theorem c_jMath_max1_v115 {l : Launch} {D : va_G} {kA : Nat → ClassId} : ct_ok PRD l D kA GG y_jMath_max1 z_jMath_max1 e_jMath_max1_v115 := chk_all_ok (FT := []) (PT := []) (CT := t_jMath_max1_v115_ct) (KT := []) (NT := []) (AN := n_jMath_max1_v115_an) (OT := [o_jMath_max1_v115_0, o_jMath_max1_v115_1]) 0 200 (List.forall_mem_cons.mpr ⟨oo_jMath_max1_v115_0, List.forall_mem_cons.mpr ⟨oo_jMath_max1_v115_1, List.forall_mem_nil _⟩⟩) (pl_Math rfl (by decide)) ⟨List.forall_mem_nil _, List.forall_mem_nil _, List.forall_mem_nil _, List.forall_mem_nil _, List.forall_mem_nil _, GG_pl⟩ (by decide +kernel)
def e_jMath_min1_v116 : en_T := ([(0, -2147483648, 1000000000, []), (0, -2147483646, 1000000001, [])], some (0, -2147483648, 1000000000, []), true, 1, 0, 0, [], [], (0, [], [], [(23, [0, 2], [0, -1, 1]), (23, [1, 2], [0, -1, 1])], []))
def o_jMath_min1_v116_0 : or_T := (10, 2, [(0, (0, -2147483645, 1000000000, [])), (1, (0, -2147483646, 999999999, []))], [(7, [0, 1], [4])], [], [], [(23, [0, 1], [0, -1, 1]), (23, [1, 1], [0, -1, 1])], [], [(0, 1, 1, 4294967296)])
theorem oo_jMath_min1_v116_0 {kA : Nat → ClassId} : or_ok PRD kA GG o_jMath_min1_v116_0 := by
  refine or_mk fun A ta ws vs hD hth hl => ?_
  intro t0 k0 t1 k1 d0 f0
  replace f0 := shm_21 f0
  have nf0 : fc_1 PRD (23, [0, 1], [0, -1, 1]) ws (vs) := by
    refine ⟨nf_in hl rfl, sgq_22 ?_⟩
    · show (-1) * v_iv (n_v vs 0) + (1 * v_iv (n_v vs 1) + 0) ≤ 0
      omega
  have nf1 : fc_1 PRD (23, [1, 1], [0, -1, 1]) ws (vs) := by
    refine ⟨nf_in hl rfl, sgq_23 ?_⟩
    · show (-1) * v_iv (n_v vs 1) + (1 * v_iv (n_v vs 1) + 0) ≤ 0
      omega
  refine ⟨(fun _ h => (by cases h)), [], trivial, ?_, (fun _ h => (by cases h))⟩
  rw [List.append_nil]
  exact List.forall_mem_cons.mpr ⟨⟨show (23 : Nat) < 100 from by decide, nf0⟩, List.forall_mem_cons.mpr ⟨⟨show (23 : Nat) < 100 from by decide, nf1⟩, (fun _ h => (by cases h))⟩⟩
def o_jMath_min1_v116_1 : or_T := (10, 2, [(0, (0, -2147483648, 1000000000, [])), (1, (0, -2147483646, 1000000001, []))], [(7, [0, 1], [5])], [], [], [(23, [0, 0], [0, -1, 1]), (23, [1, 0], [0, -1, 1])], [], [(0, 1, -4294967296, 0)])
theorem oo_jMath_min1_v116_1 {kA : Nat → ClassId} : or_ok PRD kA GG o_jMath_min1_v116_1 := by
  refine or_mk fun A ta ws vs hD hth hl => ?_
  intro t0 k0 t1 k1 d0 f0
  replace f0 := shm_24 f0
  have nf0 : fc_1 PRD (23, [0, 0], [0, -1, 1]) ws (vs) := by
    refine ⟨nf_in hl rfl, sgq_23 ?_⟩
    · show (-1) * v_iv (n_v vs 0) + (1 * v_iv (n_v vs 0) + 0) ≤ 0
      omega
  have nf1 : fc_1 PRD (23, [1, 0], [0, -1, 1]) ws (vs) := by
    refine ⟨nf_in hl rfl, sgq_22 ?_⟩
    · show (-1) * v_iv (n_v vs 1) + (1 * v_iv (n_v vs 0) + 0) ≤ 0
      omega
  refine ⟨(fun _ h => (by cases h)), [], trivial, ?_, (fun _ h => (by cases h))⟩
  rw [List.append_nil]
  exact List.forall_mem_cons.mpr ⟨⟨show (23 : Nat) < 100 from by decide, nf0⟩, List.forall_mem_cons.mpr ⟨⟨show (23 : Nat) < 100 from by decide, nf1⟩, (fun _ h => (by cases h))⟩⟩
def n_jMath_min1_v116_an : List an_T := []
def t_jMath_min1_v116_ct : ct_L := []
set_option maxRecDepth 100000 in
theorem c_jMath_min1_v116 {l : Launch} {D : va_G} {kA : Nat → ClassId} : ct_ok PRD l D kA GG y_jMath_min1 z_jMath_min1 e_jMath_min1_v116 := chk_all_ok (FT := []) (PT := []) (CT := t_jMath_min1_v116_ct) (KT := []) (NT := []) (AN := n_jMath_min1_v116_an) (OT := [o_jMath_min1_v116_0, o_jMath_min1_v116_1]) 0 200 (List.forall_mem_cons.mpr ⟨oo_jMath_min1_v116_0, List.forall_mem_cons.mpr ⟨oo_jMath_min1_v116_1, List.forall_mem_nil _⟩⟩) (pl_Math rfl (by decide)) ⟨List.forall_mem_nil _, List.forall_mem_nil _, List.forall_mem_nil _, List.forall_mem_nil _, List.forall_mem_nil _, GG_pl⟩ (by decide +kernel)
def e_jArr_fill1_v117 : en_T := ([(2, 0, 0, [123]), (0, -1, -1, [])], none, false, 1, 0, 0, [], [], (10633823966279326983230456482242756608, [], [], [(20, [0, 1], [8, -1, -1, 73])], []))
def o_jArr_fill1_v117_0 : or_T := (5, 4, [(2, (0, 0, 0, []))], [], [], [], [(20, [0, 2], [8, -1, -1, 0])], [], [])
theorem oo_jArr_fill1_v117_0 {kA : Nat → ClassId} : or_ok PRD kA GG o_jArr_fill1_v117_0 := by
  refine or_mk fun A ta ws vs hD hth hl => ?_
  intro t2 k2
  have nf0 : fc_1 PRD (20, [0, 2], [8, -1, -1, 0]) ws (vs) := by
    refine ⟨nf_in hl rfl, sgq_16 ?_⟩
    · show ∀ j : Nat, (j : Int) < v_iv (n_v vs 2) + 0 → (-1) ≤ w_el ws (v_ad (n_v vs 0)) j ∧ w_el ws (v_ad (n_v vs 0)) j ≤ (-1)
      intro j hj
      exfalso; omega
  refine ⟨(fun _ h => (by cases h)), [], trivial, ?_, (fun _ h => (by cases h))⟩
  rw [List.append_nil]
  exact List.forall_mem_cons.mpr ⟨⟨show (20 : Nat) < 100 from by decide, nf0⟩, (fun _ h => (by cases h))⟩
def o_jArr_fill1_v117_1 : or_T := (5, 4, [], [], [], [], [(24, [0, 0], [])], [], [])
theorem oo_jArr_fill1_v117_1 {kA : Nat → ClassId} : or_ok PRD kA GG o_jArr_fill1_v117_1 := by
  refine or_mk fun A ta ws vs hD hth hl => ?_
  have nf0 : fc_1 PRD (24, [0, 0], []) ws (vs) := by
    refine ⟨nf_in hl rfl, sgq_1 ?_⟩
    · show n_v vs 0 = n_v vs 0
      first | rfl | simp only [true_and]
  refine ⟨(fun _ h => (by cases h)), [], trivial, ?_, (fun _ h => (by cases h))⟩
  rw [List.append_nil]
  exact List.forall_mem_cons.mpr ⟨⟨show (24 : Nat) < 100 from by decide, nf0⟩, (fun _ h => (by cases h))⟩
def o_jArr_fill1_v117_2 : or_T := (20, 6, [(1, (0, -1, -1, [])), (4, (0, 72, 72, [])), (5, (0, 72, 72, []))], [(7, [4, 5], [3]), (20, [0, 4], [8, -1, -1, 0])], [], [], [(20, [0, 1], [8, -1, -1, 73])], [], [])
theorem oo_jArr_fill1_v117_2 {kA : Nat → ClassId} : or_ok PRD kA GG o_jArr_fill1_v117_2 := by
  refine or_mk fun A ta ws vs hD hth hl => ?_
  intro t1 k1 t4 k4 t5 k5 f0 f1
  replace f0 := shm_2 f0
  replace f1 := shm_16 f1
  have nf0 : fc_1 PRD (20, [0, 1], [8, -1, -1, 73]) ws (vs) := by
    refine ⟨nf_in hl rfl, sgq_30 ?_⟩
    · show ∀ j : Nat, (j : Int) < v_iv (n_v vs 1) + 73 → (-1) ≤ w_el ws (v_ad (n_v vs 0)) j ∧ w_el ws (v_ad (n_v vs 0)) j ≤ (-1)
      intro j hj
      exact f1 j (by omega)
  refine ⟨(fun _ h => (by cases h)), [], trivial, ?_, (fun _ h => (by cases h))⟩
  rw [List.append_nil]
  exact List.forall_mem_cons.mpr ⟨⟨show (20 : Nat) < 100 from by decide, nf0⟩, (fun _ h => (by cases h))⟩
def o_jArr_fill1_v117_3 : or_T := (5, 7, [(3, (0, -1, -1, [])), (4, (0, 0, 71, [])), (5, (0, 72, 72, [])), (6, (0, 1, 72, []))], [(6, [6, 4], [1]), (24, [0, 2], []), (100, [2, 4, 3], []), (7, [4, 5], [2]), (20, [0, 4], [8, -1, -1, 0])], [], [], [(20, [0, 6], [8, -1, -1, 0])], [], [(6, 4, 1, 1)])
theorem oo_jArr_fill1_v117_3 {kA : Nat → ClassId} : or_ok PRD kA GG o_jArr_fill1_v117_3 := by
  refine or_mk fun A ta ws vs hD hth hl => ?_
  intro t3 k3 t4 k4 t5 k5 t6 k6 d0 f0 f1 ta1 w1 le1 s1 f3 f4
  replace f0 := shm_4 f0
  replace f1 := shm_5 f1
  have s1 : (∀ b j, w_el ws b j = if b = v_ad (n_v vs 2) ∧ j = (v_iv (n_v vs 4)).toNat then v_iv (n_v vs 3) else w_el w1 b j) ∧ ∀ b k, w_fd ws b k = w_fd w1 b k := s1.2
  replace f3 := shm_6 f3
  replace f4 := shm_16 f4
  rw [← f1] at s1
  have nf0 : fc_1 PRD (20, [0, 6], [8, -1, -1, 0]) ws (vs) := by
    refine ⟨nf_in hl rfl, sgq_16 ?_⟩
    · show ∀ j : Nat, (j : Int) < v_iv (n_v vs 6) + 0 → (-1) ≤ w_el ws (v_ad (n_v vs 0)) j ∧ w_el ws (v_ad (n_v vs 0)) j ≤ (-1)
      intro j hj
      by_cases hji : j = (v_iv (n_v vs 4)).toNat
      · rw [s1.1, if_pos ⟨rfl, hji⟩]; first | (constructor <;> omega) | (exfalso; omega)
      · rw [s1.1, if_neg (fun e => hji e.2)]; exact f4 j (by omega)
  refine ⟨(fun _ h => (by cases h)), [], trivial, ?_, (fun _ h => (by cases h))⟩
  rw [List.append_nil]
  exact List.forall_mem_cons.mpr ⟨⟨show (20 : Nat) < 100 from by decide, nf0⟩, (fun _ h => (by cases h))⟩
def n_jArr_fill1_v117_an : List an_T := [(5, [(0, (2, 0, 0, [123])), (1, (0, -1, -1, [])), (2, (0, 0, 72, [])), (3, (0, 72, 72, []))], [], (0, 0), [(0, 0, 99995), (1, 4, 72), (0, 0, 100000)], [], [], [(2, 0, 0, [123]), (0, -1, -1, [])], 0, [], [(20, [0, 4], [8, -1, -1, 0]), (24, [0, 2], [])])]
def t_jArr_fill1_v117_ct : ct_L := []
set_option maxRecDepth 100000 in
theorem c_jArr_fill1_v117 {l : Launch} {D : va_G} {kA : Nat → ClassId} : ct_ok PRD l D kA GG y_jArr_fill1 z_jArr_fill1 e_jArr_fill1_v117 := chk_all_ok (FT := []) (PT := []) (CT := t_jArr_fill1_v117_ct) (KT := []) (NT := []) (AN := n_jArr_fill1_v117_an) (OT := [o_jArr_fill1_v117_0, o_jArr_fill1_v117_1, o_jArr_fill1_v117_2, o_jArr_fill1_v117_3]) 3 200 (List.forall_mem_cons.mpr ⟨oo_jArr_fill1_v117_0, List.forall_mem_cons.mpr ⟨oo_jArr_fill1_v117_1, List.forall_mem_cons.mpr ⟨oo_jArr_fill1_v117_2, List.forall_mem_cons.mpr ⟨oo_jArr_fill1_v117_3, List.forall_mem_nil _⟩⟩⟩⟩) (by decide +kernel) ⟨List.forall_mem_nil _, List.forall_mem_nil _, List.forall_mem_nil _, List.forall_mem_nil _, List.forall_mem_nil _, GG_pl⟩ (by decide +kernel)
def e_jMath_max2_v118 : en_T := ([(1, -300000011, 300000000, []), (1, -300000011, 300000000, [])], some (1, -300000011, 300000000, []), true, 1, 0, 0, [], [], (0, [], [], [(23, [0, 2], [0, 1, -1]), (23, [1, 2], [0, 1, -1])], []))
def o_jMath_max2_v118_0 : or_T := (11, 2, [(0, (1, -300000011, 299999999, [])), (1, (1, -300000010, 300000000, []))], [(7, [0, 1], [2])], [], [], [(23, [0, 1], [0, 1, -1]), (23, [1, 1], [0, 1, -1])], [], [])
theorem oo_jMath_max2_v118_0 {kA : Nat → ClassId} : or_ok PRD kA GG o_jMath_max2_v118_0 := by
  refine or_mk fun A ta ws vs hD hth hl => ?_
  intro t0 k0 t1 k1 f0
  replace f0 := shm_6 f0
  have nf0 : fc_1 PRD (23, [0, 1], [0, 1, -1]) ws (vs) := by
    refine ⟨nf_in hl rfl, sgq_7 ?_⟩
    · show 1 * v_iv (n_v vs 0) + ((-1) * v_iv (n_v vs 1) + 0) ≤ 0
      omega
  have nf1 : fc_1 PRD (23, [1, 1], [0, 1, -1]) ws (vs) := by
    refine ⟨nf_in hl rfl, sgq_8 ?_⟩
    · show 1 * v_iv (n_v vs 1) + ((-1) * v_iv (n_v vs 1) + 0) ≤ 0
      omega
  refine ⟨(fun _ h => (by cases h)), [], trivial, ?_, (fun _ h => (by cases h))⟩
  rw [List.append_nil]
  exact List.forall_mem_cons.mpr ⟨⟨show (23 : Nat) < 100 from by decide, nf0⟩, List.forall_mem_cons.mpr ⟨⟨show (23 : Nat) < 100 from by decide, nf1⟩, (fun _ h => (by cases h))⟩⟩
def o_jMath_max2_v118_1 : or_T := (11, 2, [(0, (1, -300000011, 300000000, [])), (1, (1, -300000011, 300000000, []))], [(7, [0, 1], [3])], [], [], [(23, [0, 0], [0, 1, -1]), (23, [1, 0], [0, 1, -1])], [], [])
theorem oo_jMath_max2_v118_1 {kA : Nat → ClassId} : or_ok PRD kA GG o_jMath_max2_v118_1 := by
  refine or_mk fun A ta ws vs hD hth hl => ?_
  intro t0 k0 t1 k1 f0
  replace f0 := shm_2 f0
  have nf0 : fc_1 PRD (23, [0, 0], [0, 1, -1]) ws (vs) := by
    refine ⟨nf_in hl rfl, sgq_8 ?_⟩
    · show 1 * v_iv (n_v vs 0) + ((-1) * v_iv (n_v vs 0) + 0) ≤ 0
      omega
  have nf1 : fc_1 PRD (23, [1, 0], [0, 1, -1]) ws (vs) := by
    refine ⟨nf_in hl rfl, sgq_7 ?_⟩
    · show 1 * v_iv (n_v vs 1) + ((-1) * v_iv (n_v vs 0) + 0) ≤ 0
      omega
  refine ⟨(fun _ h => (by cases h)), [], trivial, ?_, (fun _ h => (by cases h))⟩
  rw [List.append_nil]
  exact List.forall_mem_cons.mpr ⟨⟨show (23 : Nat) < 100 from by decide, nf0⟩, List.forall_mem_cons.mpr ⟨⟨show (23 : Nat) < 100 from by decide, nf1⟩, (fun _ h => (by cases h))⟩⟩
def n_jMath_max2_v118_an : List an_T := []
def t_jMath_max2_v118_ct : ct_L := []
set_option maxRecDepth 100000 in
theorem c_jMath_max2_v118 {l : Launch} {D : va_G} {kA : Nat → ClassId} : ct_ok PRD l D kA GG y_jMath_max2 z_jMath_max2 e_jMath_max2_v118 := chk_all_ok (FT := []) (PT := []) (CT := t_jMath_max2_v118_ct) (KT := []) (NT := []) (AN := n_jMath_max2_v118_an) (OT := [o_jMath_max2_v118_0, o_jMath_max2_v118_1]) 0 200 (List.forall_mem_cons.mpr ⟨oo_jMath_max2_v118_0, List.forall_mem_cons.mpr ⟨oo_jMath_max2_v118_1, List.forall_mem_nil _⟩⟩) (pl_Math rfl (by decide)) ⟨List.forall_mem_nil _, List.forall_mem_nil _, List.forall_mem_nil _, List.forall_mem_nil _, List.forall_mem_nil _, GG_pl⟩ (by decide +kernel)
def e_jMath_min2_v119 : en_T := ([(1, -300000011, 300000000, []), (1, -300000011, 300000000, [])], some (1, -300000011, 300000000, []), true, 1, 0, 0, [], [], (0, [], [], [(23, [0, 2], [0, -1, 1]), (23, [1, 2], [0, -1, 1])], []))
def o_jMath_min2_v119_0 : or_T := (11, 2, [(0, (1, -300000010, 300000000, [])), (1, (1, -300000011, 299999999, []))], [(7, [0, 1], [4])], [], [], [(23, [0, 1], [0, -1, 1]), (23, [1, 1], [0, -1, 1])], [], [])
theorem oo_jMath_min2_v119_0 {kA : Nat → ClassId} : or_ok PRD kA GG o_jMath_min2_v119_0 := by
  refine or_mk fun A ta ws vs hD hth hl => ?_
  intro t0 k0 t1 k1 f0
  replace f0 := shm_21 f0
  have nf0 : fc_1 PRD (23, [0, 1], [0, -1, 1]) ws (vs) := by
    refine ⟨nf_in hl rfl, sgq_22 ?_⟩
    · show (-1) * v_iv (n_v vs 0) + (1 * v_iv (n_v vs 1) + 0) ≤ 0
      omega
  have nf1 : fc_1 PRD (23, [1, 1], [0, -1, 1]) ws (vs) := by
    refine ⟨nf_in hl rfl, sgq_23 ?_⟩
    · show (-1) * v_iv (n_v vs 1) + (1 * v_iv (n_v vs 1) + 0) ≤ 0
      omega
  refine ⟨(fun _ h => (by cases h)), [], trivial, ?_, (fun _ h => (by cases h))⟩
  rw [List.append_nil]
  exact List.forall_mem_cons.mpr ⟨⟨show (23 : Nat) < 100 from by decide, nf0⟩, List.forall_mem_cons.mpr ⟨⟨show (23 : Nat) < 100 from by decide, nf1⟩, (fun _ h => (by cases h))⟩⟩
def o_jMath_min2_v119_1 : or_T := (11, 2, [(0, (1, -300000011, 300000000, [])), (1, (1, -300000011, 300000000, []))], [(7, [0, 1], [5])], [], [], [(23, [0, 0], [0, -1, 1]), (23, [1, 0], [0, -1, 1])], [], [])
theorem oo_jMath_min2_v119_1 {kA : Nat → ClassId} : or_ok PRD kA GG o_jMath_min2_v119_1 := by
  refine or_mk fun A ta ws vs hD hth hl => ?_
  intro t0 k0 t1 k1 f0
  replace f0 := shm_24 f0
  have nf0 : fc_1 PRD (23, [0, 0], [0, -1, 1]) ws (vs) := by
    refine ⟨nf_in hl rfl, sgq_23 ?_⟩
    · show (-1) * v_iv (n_v vs 0) + (1 * v_iv (n_v vs 0) + 0) ≤ 0
      omega
  have nf1 : fc_1 PRD (23, [1, 0], [0, -1, 1]) ws (vs) := by
    refine ⟨nf_in hl rfl, sgq_22 ?_⟩
    · show (-1) * v_iv (n_v vs 1) + (1 * v_iv (n_v vs 0) + 0) ≤ 0
      omega
  refine ⟨(fun _ h => (by cases h)), [], trivial, ?_, (fun _ h => (by cases h))⟩
  rw [List.append_nil]
  exact List.forall_mem_cons.mpr ⟨⟨show (23 : Nat) < 100 from by decide, nf0⟩, List.forall_mem_cons.mpr ⟨⟨show (23 : Nat) < 100 from by decide, nf1⟩, (fun _ h => (by cases h))⟩⟩
def n_jMath_min2_v119_an : List an_T := []
def t_jMath_min2_v119_ct : ct_L := []
set_option maxRecDepth 100000 in
theorem c_jMath_min2_v119 {l : Launch} {D : va_G} {kA : Nat → ClassId} : ct_ok PRD l D kA GG y_jMath_min2 z_jMath_min2 e_jMath_min2_v119 := chk_all_ok (FT := []) (PT := []) (CT := t_jMath_min2_v119_ct) (KT := []) (NT := []) (AN := n_jMath_min2_v119_an) (OT := [o_jMath_min2_v119_0, o_jMath_min2_v119_1]) 0 200 (List.forall_mem_cons.mpr ⟨oo_jMath_min2_v119_0, List.forall_mem_cons.mpr ⟨oo_jMath_min2_v119_1, List.forall_mem_nil _⟩⟩) (pl_Math rfl (by decide)) ⟨List.forall_mem_nil _, List.forall_mem_nil _, List.forall_mem_nil _, List.forall_mem_nil _, List.forall_mem_nil _, GG_pl⟩ (by decide +kernel)
def e_jMath_max2_v120 : en_T := ([(1, -900000000, 900000000, []), (1, -900000000, 900000000, [])], some (1, -900000000, 900000000, []), true, 1, 0, 0, [], [], (0, [], [], [(23, [0, 2], [0, 1, -1]), (23, [1, 2], [0, 1, -1])], []))
def o_jMath_max2_v120_0 : or_T := (11, 2, [(0, (1, -900000000, 899999999, [])), (1, (1, -899999999, 900000000, []))], [(7, [0, 1], [2])], [], [], [(23, [0, 1], [0, 1, -1]), (23, [1, 1], [0, 1, -1])], [], [])
theorem oo_jMath_max2_v120_0 {kA : Nat → ClassId} : or_ok PRD kA GG o_jMath_max2_v120_0 := by
  refine or_mk fun A ta ws vs hD hth hl => ?_
  intro t0 k0 t1 k1 f0
  replace f0 := shm_6 f0
  have nf0 : fc_1 PRD (23, [0, 1], [0, 1, -1]) ws (vs) := by
    refine ⟨nf_in hl rfl, sgq_7 ?_⟩
    · show 1 * v_iv (n_v vs 0) + ((-1) * v_iv (n_v vs 1) + 0) ≤ 0
      omega
  have nf1 : fc_1 PRD (23, [1, 1], [0, 1, -1]) ws (vs) := by
    refine ⟨nf_in hl rfl, sgq_8 ?_⟩
    · show 1 * v_iv (n_v vs 1) + ((-1) * v_iv (n_v vs 1) + 0) ≤ 0
      omega
  refine ⟨(fun _ h => (by cases h)), [], trivial, ?_, (fun _ h => (by cases h))⟩
  rw [List.append_nil]
  exact List.forall_mem_cons.mpr ⟨⟨show (23 : Nat) < 100 from by decide, nf0⟩, List.forall_mem_cons.mpr ⟨⟨show (23 : Nat) < 100 from by decide, nf1⟩, (fun _ h => (by cases h))⟩⟩
def o_jMath_max2_v120_1 : or_T := (11, 2, [(0, (1, -900000000, 900000000, [])), (1, (1, -900000000, 900000000, []))], [(7, [0, 1], [3])], [], [], [(23, [0, 0], [0, 1, -1]), (23, [1, 0], [0, 1, -1])], [], [])
theorem oo_jMath_max2_v120_1 {kA : Nat → ClassId} : or_ok PRD kA GG o_jMath_max2_v120_1 := by
  refine or_mk fun A ta ws vs hD hth hl => ?_
  intro t0 k0 t1 k1 f0
  replace f0 := shm_2 f0
  have nf0 : fc_1 PRD (23, [0, 0], [0, 1, -1]) ws (vs) := by
    refine ⟨nf_in hl rfl, sgq_8 ?_⟩
    · show 1 * v_iv (n_v vs 0) + ((-1) * v_iv (n_v vs 0) + 0) ≤ 0
      omega
  have nf1 : fc_1 PRD (23, [1, 0], [0, 1, -1]) ws (vs) := by
    refine ⟨nf_in hl rfl, sgq_7 ?_⟩
    · show 1 * v_iv (n_v vs 1) + ((-1) * v_iv (n_v vs 0) + 0) ≤ 0
      omega
  refine ⟨(fun _ h => (by cases h)), [], trivial, ?_, (fun _ h => (by cases h))⟩
  rw [List.append_nil]
  exact List.forall_mem_cons.mpr ⟨⟨show (23 : Nat) < 100 from by decide, nf0⟩, List.forall_mem_cons.mpr ⟨⟨show (23 : Nat) < 100 from by decide, nf1⟩, (fun _ h => (by cases h))⟩⟩
def n_jMath_max2_v120_an : List an_T := []
def t_jMath_max2_v120_ct : ct_L := []
set_option maxRecDepth 100000 in
theorem c_jMath_max2_v120 {l : Launch} {D : va_G} {kA : Nat → ClassId} : ct_ok PRD l D kA GG y_jMath_max2 z_jMath_max2 e_jMath_max2_v120 := chk_all_ok (FT := []) (PT := []) (CT := t_jMath_max2_v120_ct) (KT := []) (NT := []) (AN := n_jMath_max2_v120_an) (OT := [o_jMath_max2_v120_0, o_jMath_max2_v120_1]) 0 200 (List.forall_mem_cons.mpr ⟨oo_jMath_max2_v120_0, List.forall_mem_cons.mpr ⟨oo_jMath_max2_v120_1, List.forall_mem_nil _⟩⟩) (pl_Math rfl (by decide)) ⟨List.forall_mem_nil _, List.forall_mem_nil _, List.forall_mem_nil _, List.forall_mem_nil _, List.forall_mem_nil _, GG_pl⟩ (by decide +kernel)
def e_jMath_min2_v121 : en_T := ([(1, -900000000, 900000000, []), (1, -900000000, 900000000, [])], some (1, -900000000, 900000000, []), true, 1, 0, 0, [], [], (0, [], [], [(23, [0, 2], [0, -1, 1]), (23, [1, 2], [0, -1, 1])], []))
def o_jMath_min2_v121_0 : or_T := (11, 2, [(0, (1, -899999999, 900000000, [])), (1, (1, -900000000, 899999999, []))], [(7, [0, 1], [4])], [], [], [(23, [0, 1], [0, -1, 1]), (23, [1, 1], [0, -1, 1])], [], [])
theorem oo_jMath_min2_v121_0 {kA : Nat → ClassId} : or_ok PRD kA GG o_jMath_min2_v121_0 := by
  refine or_mk fun A ta ws vs hD hth hl => ?_
  intro t0 k0 t1 k1 f0
  replace f0 := shm_21 f0
  have nf0 : fc_1 PRD (23, [0, 1], [0, -1, 1]) ws (vs) := by
    refine ⟨nf_in hl rfl, sgq_22 ?_⟩
    · show (-1) * v_iv (n_v vs 0) + (1 * v_iv (n_v vs 1) + 0) ≤ 0
      omega
  have nf1 : fc_1 PRD (23, [1, 1], [0, -1, 1]) ws (vs) := by
    refine ⟨nf_in hl rfl, sgq_23 ?_⟩
    · show (-1) * v_iv (n_v vs 1) + (1 * v_iv (n_v vs 1) + 0) ≤ 0
      omega
  refine ⟨(fun _ h => (by cases h)), [], trivial, ?_, (fun _ h => (by cases h))⟩
  rw [List.append_nil]
  exact List.forall_mem_cons.mpr ⟨⟨show (23 : Nat) < 100 from by decide, nf0⟩, List.forall_mem_cons.mpr ⟨⟨show (23 : Nat) < 100 from by decide, nf1⟩, (fun _ h => (by cases h))⟩⟩
def o_jMath_min2_v121_1 : or_T := (11, 2, [(0, (1, -900000000, 900000000, [])), (1, (1, -900000000, 900000000, []))], [(7, [0, 1], [5])], [], [], [(23, [0, 0], [0, -1, 1]), (23, [1, 0], [0, -1, 1])], [], [])
theorem oo_jMath_min2_v121_1 {kA : Nat → ClassId} : or_ok PRD kA GG o_jMath_min2_v121_1 := by
  refine or_mk fun A ta ws vs hD hth hl => ?_
  intro t0 k0 t1 k1 f0
  replace f0 := shm_24 f0
  have nf0 : fc_1 PRD (23, [0, 0], [0, -1, 1]) ws (vs) := by
    refine ⟨nf_in hl rfl, sgq_23 ?_⟩
    · show (-1) * v_iv (n_v vs 0) + (1 * v_iv (n_v vs 0) + 0) ≤ 0
      omega
  have nf1 : fc_1 PRD (23, [1, 0], [0, -1, 1]) ws (vs) := by
    refine ⟨nf_in hl rfl, sgq_22 ?_⟩
    · show (-1) * v_iv (n_v vs 1) + (1 * v_iv (n_v vs 0) + 0) ≤ 0
      omega
  refine ⟨(fun _ h => (by cases h)), [], trivial, ?_, (fun _ h => (by cases h))⟩
  rw [List.append_nil]
  exact List.forall_mem_cons.mpr ⟨⟨show (23 : Nat) < 100 from by decide, nf0⟩, List.forall_mem_cons.mpr ⟨⟨show (23 : Nat) < 100 from by decide, nf1⟩, (fun _ h => (by cases h))⟩⟩
def n_jMath_min2_v121_an : List an_T := []
def t_jMath_min2_v121_ct : ct_L := []
set_option maxRecDepth 100000 in
theorem c_jMath_min2_v121 {l : Launch} {D : va_G} {kA : Nat → ClassId} : ct_ok PRD l D kA GG y_jMath_min2 z_jMath_min2 e_jMath_min2_v121 := chk_all_ok (FT := []) (PT := []) (CT := t_jMath_min2_v121_ct) (KT := []) (NT := []) (AN := n_jMath_min2_v121_an) (OT := [o_jMath_min2_v121_0, o_jMath_min2_v121_1]) 0 200 (List.forall_mem_cons.mpr ⟨oo_jMath_min2_v121_0, List.forall_mem_cons.mpr ⟨oo_jMath_min2_v121_1, List.forall_mem_nil _⟩⟩) (pl_Math rfl (by decide)) ⟨List.forall_mem_nil _, List.forall_mem_nil _, List.forall_mem_nil _, List.forall_mem_nil _, List.forall_mem_nil _, GG_pl⟩ (by decide +kernel)
def e_jMath_min1_v122 : en_T := ([(0, 0, 1000000, []), (0, 0, 1048575, [])], some (0, 0, 1000000, []), true, 1, 0, 0, [], [], (0, [], [], [(23, [0, 2], [0, -1, 1]), (23, [1, 2], [0, -1, 1]), (20, [2, 0, 1], [50, 0, 0, 3, 6, 1, 2, 1, 0, 1, 1, 1, 2, 1, 0, 1, 2])], []))
set_option maxHeartbeats 4000000 in
theorem vc_jMath_min1_v122_0_0 (x0 : Int) (x1 : Int) (k0 : 1 ≤ x0 ∧ x0 ≤ 1000000) (k1 : 0 ≤ x1 ∧ x1 ≤ 999999) (d0 : x1 + 1 ≤ x0 ∧ x0 ≤ x1 + 4294967296) (f0 : x1 < x0) : (-1) * x0 + (1 * x1 + 0) ≤ 0 := by
  first | assumption | omega | grind
set_option maxHeartbeats 4000000 in
theorem vc_jMath_min1_v122_0_1 (x0 : Int) (x1 : Int) (k0 : 1 ≤ x0 ∧ x0 ≤ 1000000) (k1 : 0 ≤ x1 ∧ x1 ≤ 999999) (d0 : x1 + 1 ≤ x0 ∧ x0 ≤ x1 + 4294967296) (f0 : x1 < x0) : (-1) * x1 + (1 * x1 + 0) ≤ 0 := by
  first | assumption | omega | grind
set_option maxHeartbeats 4000000 in
theorem vc_jMath_min1_v122_0_2 (x0 : Int) (x1 : Int) (k0 : 1 ≤ x0 ∧ x0 ≤ 1000000) (k1 : 0 ≤ x1 ∧ x1 ≤ 999999) (d0 : x1 + 1 ≤ x0 ∧ x0 ≤ x1 + 4294967296) (f0 : x1 < x0) : (x1 = x0) ∨ (x1 = x1) := by
  first | assumption | omega | grind
def o_jMath_min1_v122_0 : or_T := (10, 2, [(0, (0, 1, 1000000, [])), (1, (0, 0, 999999, []))], [(7, [0, 1], [4])], [], [], [(23, [0, 1], [0, -1, 1]), (23, [1, 1], [0, -1, 1]), (20, [1, 0, 1], [50, 0, 0, 3, 6, 1, 2, 1, 0, 1, 1, 1, 2, 1, 0, 1, 2])], [], [(0, 1, 1, 4294967296)])
theorem oo_jMath_min1_v122_0 {kA : Nat → ClassId} : or_ok PRD kA GG o_jMath_min1_v122_0 := by
  refine or_mk fun A ta ws vs hD hth hl => ?_
  intro t0 k0 t1 k1 d0 f0
  have nf0 : fc_1 PRD (23, [0, 1], [0, -1, 1]) ws (vs) := ⟨nf_in hl rfl, sgq_22 (vc_jMath_min1_v122_0_0 (v_iv (n_v vs 0)) (v_iv (n_v vs 1)) k0 k1 d0 (shm_21 f0))⟩
  have nf1 : fc_1 PRD (23, [1, 1], [0, -1, 1]) ws (vs) := ⟨nf_in hl rfl, sgq_23 (vc_jMath_min1_v122_0_1 (v_iv (n_v vs 0)) (v_iv (n_v vs 1)) k0 k1 d0 (shm_21 f0))⟩
  have nf2 : fc_1 PRD (20, [1, 0, 1], [50, 0, 0, 3, 6, 1, 2, 1, 0, 1, 1, 1, 2, 1, 0, 1, 2]) ws (vs) := ⟨nf_in hl rfl, sgq_28 (vc_jMath_min1_v122_0_2 (v_iv (n_v vs 0)) (v_iv (n_v vs 1)) k0 k1 d0 (shm_21 f0))⟩
  refine ⟨(fun _ h => (by cases h)), [], trivial, ?_, (fun _ h => (by cases h))⟩
  rw [List.append_nil]
  exact List.forall_mem_cons.mpr ⟨⟨show (23 : Nat) < 100 from by decide, nf0⟩, List.forall_mem_cons.mpr ⟨⟨show (23 : Nat) < 100 from by decide, nf1⟩, List.forall_mem_cons.mpr ⟨⟨show (20 : Nat) < 100 from by decide, nf2⟩, (fun _ h => (by cases h))⟩⟩⟩
set_option maxHeartbeats 4000000 in
theorem vc_jMath_min1_v122_1_0 (x0 : Int) (x1 : Int) (k0 : 0 ≤ x0 ∧ x0 ≤ 1000000) (k1 : 0 ≤ x1 ∧ x1 ≤ 1048575) (d0 : x1 + (-4294967296) ≤ x0 ∧ x0 ≤ x1 + 0) (f0 : x0 ≤ x1) : (-1) * x0 + (1 * x0 + 0) ≤ 0 := by
  first | assumption | omega | grind
set_option maxHeartbeats 4000000 in
theorem vc_jMath_min1_v122_1_1 (x0 : Int) (x1 : Int) (k0 : 0 ≤ x0 ∧ x0 ≤ 1000000) (k1 : 0 ≤ x1 ∧ x1 ≤ 1048575) (d0 : x1 + (-4294967296) ≤ x0 ∧ x0 ≤ x1 + 0) (f0 : x0 ≤ x1) : (-1) * x1 + (1 * x0 + 0) ≤ 0 := by
  first | assumption | omega | grind
set_option maxHeartbeats 4000000 in
theorem vc_jMath_min1_v122_1_2 (x0 : Int) (x1 : Int) (k0 : 0 ≤ x0 ∧ x0 ≤ 1000000) (k1 : 0 ≤ x1 ∧ x1 ≤ 1048575) (d0 : x1 + (-4294967296) ≤ x0 ∧ x0 ≤ x1 + 0) (f0 : x0 ≤ x1) : (x0 = x0) ∨ (x0 = x1) := by
  first | assumption | omega | grind
def o_jMath_min1_v122_1 : or_T := (10, 2, [(0, (0, 0, 1000000, [])), (1, (0, 0, 1048575, []))], [(7, [0, 1], [5])], [], [], [(23, [0, 0], [0, -1, 1]), (23, [1, 0], [0, -1, 1]), (20, [0, 0, 1], [50, 0, 0, 3, 6, 1, 2, 1, 0, 1, 1, 1, 2, 1, 0, 1, 2])], [], [(0, 1, -4294967296, 0)])
theorem oo_jMath_min1_v122_1 {kA : Nat → ClassId} : or_ok PRD kA GG o_jMath_min1_v122_1 := by
  refine or_mk fun A ta ws vs hD hth hl => ?_
  intro t0 k0 t1 k1 d0 f0
  have nf0 : fc_1 PRD (23, [0, 0], [0, -1, 1]) ws (vs) := ⟨nf_in hl rfl, sgq_23 (vc_jMath_min1_v122_1_0 (v_iv (n_v vs 0)) (v_iv (n_v vs 1)) k0 k1 d0 (shm_24 f0))⟩
  have nf1 : fc_1 PRD (23, [1, 0], [0, -1, 1]) ws (vs) := ⟨nf_in hl rfl, sgq_22 (vc_jMath_min1_v122_1_1 (v_iv (n_v vs 0)) (v_iv (n_v vs 1)) k0 k1 d0 (shm_24 f0))⟩
  have nf2 : fc_1 PRD (20, [0, 0, 1], [50, 0, 0, 3, 6, 1, 2, 1, 0, 1, 1, 1, 2, 1, 0, 1, 2]) ws (vs) := ⟨nf_in hl rfl, sgq_29 (vc_jMath_min1_v122_1_2 (v_iv (n_v vs 0)) (v_iv (n_v vs 1)) k0 k1 d0 (shm_24 f0))⟩
  refine ⟨(fun _ h => (by cases h)), [], trivial, ?_, (fun _ h => (by cases h))⟩
  rw [List.append_nil]
  exact List.forall_mem_cons.mpr ⟨⟨show (23 : Nat) < 100 from by decide, nf0⟩, List.forall_mem_cons.mpr ⟨⟨show (23 : Nat) < 100 from by decide, nf1⟩, List.forall_mem_cons.mpr ⟨⟨show (20 : Nat) < 100 from by decide, nf2⟩, (fun _ h => (by cases h))⟩⟩⟩
def n_jMath_min1_v122_an : List an_T := []
def t_jMath_min1_v122_ct : ct_L := []
set_option maxRecDepth 100000 in
theorem c_jMath_min1_v122 {l : Launch} {D : va_G} {kA : Nat → ClassId} : ct_ok PRD l D kA GG y_jMath_min1 z_jMath_min1 e_jMath_min1_v122 := chk_all_ok (FT := []) (PT := []) (CT := t_jMath_min1_v122_ct) (KT := []) (NT := []) (AN := n_jMath_min1_v122_an) (OT := [o_jMath_min1_v122_0, o_jMath_min1_v122_1]) 0 200 (List.forall_mem_cons.mpr ⟨oo_jMath_min1_v122_0, List.forall_mem_cons.mpr ⟨oo_jMath_min1_v122_1, List.forall_mem_nil _⟩⟩) (pl_Math rfl (by decide)) ⟨List.forall_mem_nil _, List.forall_mem_nil _, List.forall_mem_nil _, List.forall_mem_nil _, List.forall_mem_nil _, GG_pl⟩ (by decide +kernel)
def e_jInt_bitCount_v123 : en_T := ([(0, 0, 63, [])], some (0, 0, 63, []), true, 1, 0, 0, [], [], (0, [], [], [(20, [0, 1], [61, 0, 554])], []))
def o_jInt_bitCount_v123_0 : or_T := (52, 26, [(0, (0, 0, 63, [])), (1, (0, 1, 1, [])), (2, (0, 0, 31, [])), (3, (0, 1431655765, 1431655765, [])), (4, (0, 0, 31, [])), (5, (0, -31, 63, [])), (6, (0, 858993459, 858993459, [])), (7, (0, 0, 858993459, [])), (8, (0, 2, 2, [])), (9, (0, -2147483648, 2147483647, [])), (10, (0, 858993459, 858993459, [])), (11, (0, 0, 858993459, [])), (12, (0, 0, 1717986918, [])), (13, (0, 4, 4, [])), (14, (0, 0, 107374182, [])), (15, (0, 0, 1825361100, [])), (16, (0, 252645135, 252645135, [])), (17, (0, 0, 252645135, [])), (18, (0, 8, 8, [])), (19, (0, 0, 986895, [])), (20, (0, 0, 253632030, [])), (21, (0, 16, 16, [])), (22, (0, 0, 3870, [])), (23, (0, 0, 253635900, [])), (24, (0, 63, 63, [])), (25, (0, 0, 63, []))], [(12, [25, 23], [64]), (16, [25, 23, 24], [0]), (1, [23, 20, 22], []), (16, [22, 20, 21], [4]), (1, [20, 17, 19], []), (16, [19, 17, 18], [4]), (16, [17, 15, 16], [0]), (1, [15, 12, 14], []), (16, [14, 12, 13], [4]), (1, [12, 7, 11], []), (16, [11, 9, 10], [0]), (16, [9, 5, 8], [4]), (16, [7, 5, 6], [0]), (2, [5, 0, 4], []), (16, [4, 2, 3], [0]), (16, [2, 0, 1], [4])], [], [], [(20, [0, 25], [61, 0, 554])], [], [(23, 22, 0, 253632030), (23, 20, 0, 3870), (23, 19, 0, 252649005), (23, 17, 0, 990765), (20, 19, 0, 252645135), (20, 17, 0, 986895), (15, 14, 0, 1717986918), (15, 12, 0, 107374182), (15, 11, 0, 966367641), (15, 7, 0, 966367641), (12, 11, 0, 858993459), (12, 7, 0, 858993459), (5, 0, -31, 0)])
theorem oo_jInt_bitCount_v123_0 {kA : Nat → ClassId} : or_ok PRD kA GG o_jInt_bitCount_v123_0 := by
  refine or_mk fun A ta ws vs hD hth hl => ?_
  intro t0 k0 t1 k1 t2 k2 t3 k3 t4 k4 t5 k5 t6 k6 t7 k7 t8 k8 t9 k9 t10 k10 t11 k11 t12 k12 t13 k13 t14 k14 t15 k15 t16 k16 t17 k17 t18 k18 t19 k19 t20 k20 t21 k21 t22 k22 t23 k23 t24 k24 t25 k25 d0 d1 d2 d3 d4 d5 d6 d7 d8 d9 d10 d11 d12 f0 f1 f2 f3 f4 f5 f6 f7 f8 f9 f10 f11 f12 f13 f14 f15
  replace f0 := shm_10 f0
  replace f1 := shm_11 f1
  replace f2 := shm_12 f2
  replace f3 := shm_13 f3
  replace f4 := shm_12 f4
  replace f5 := shm_13 f5
  replace f6 := shm_11 f6
  replace f7 := shm_12 f7
  replace f8 := shm_13 f8
  replace f9 := shm_12 f9
  replace f10 := shm_11 f10
  replace f11 := shm_13 f11
  replace f12 := shm_11 f12
  replace f13 := shm_14 f13
  replace f14 := shm_11 f14
  replace f15 := shm_13 f15
  have nf0 : fc_1 PRD (20, [0, 25], [61, 0, 554]) ws (vs) := by
    refine ⟨nf_in hl rfl, sgq_15 ?_⟩
    · show BCT (v_iv (n_v vs 0)) (v_iv (n_v vs 25))
      exact bct_of (by assumption) (by assumption) (by assumption) (by assumption) (by assumption) (by assumption) (by assumption) (by assumption) (by assumption) (by assumption) (by assumption) (by assumption) (by assumption) (by assumption) (by assumption) (by omega) (by omega) (by omega) (by omega) (by omega) (by omega) (by omega) (by omega) (by omega) (by omega) (by omega) (by omega)
  refine ⟨(fun _ h => (by cases h)), [], trivial, ?_, (fun _ h => (by cases h))⟩
  rw [List.append_nil]
  exact List.forall_mem_cons.mpr ⟨⟨show (20 : Nat) < 100 from by decide, nf0⟩, (fun _ h => (by cases h))⟩
def n_jInt_bitCount_v123_an : List an_T := []
def t_jInt_bitCount_v123_ct : ct_L := []
set_option maxRecDepth 100000 in
theorem c_jInt_bitCount_v123 {l : Launch} {D : va_G} {kA : Nat → ClassId} : ct_ok PRD l D kA GG y_jInt_bitCount z_jInt_bitCount e_jInt_bitCount_v123 := chk_all_ok (FT := []) (PT := []) (CT := t_jInt_bitCount_v123_ct) (KT := [(1, 265, .int (1431655765), (0, 1431655765, 1431655765, [])), (1, 266, .int (858993459), (0, 858993459, 858993459, [])), (1, 267, .int (252645135), (0, 252645135, 252645135, []))]) (NT := []) (AN := n_jInt_bitCount_v123_an) (OT := [o_jInt_bitCount_v123_0]) 0 200 (List.forall_mem_cons.mpr ⟨oo_jInt_bitCount_v123_0, List.forall_mem_nil _⟩) (by decide +kernel) ⟨List.forall_mem_nil _, List.forall_mem_nil _, List.forall_mem_nil _, List.forall_mem_cons.mpr ⟨kx_jInt_1_265, List.forall_mem_cons.mpr ⟨kx_jInt_1_266, List.forall_mem_cons.mpr ⟨kx_jInt_1_267, List.forall_mem_nil _⟩⟩⟩, List.forall_mem_nil _, GG_pl⟩ (by decide +kernel)
def e_jMath_min1_v124 : en_T := ([(0, -2147483647, 1000000, []), (0, -2147483648, 2147483647, [])], some (0, -2147483648, 1000000, []), true, 1, 0, 0, [], [], (0, [], [], [(23, [0, 2], [0, -1, 1]), (23, [1, 2], [0, -1, 1])], []))
def o_jMath_min1_v124_0 : or_T := (10, 2, [(0, (0, -2147483647, 1000000, [])), (1, (0, -2147483648, 999999, []))], [(7, [0, 1], [4])], [], [], [(23, [0, 1], [0, -1, 1]), (23, [1, 1], [0, -1, 1])], [], [(0, 1, 1, 4294967296)])
theorem oo_jMath_min1_v124_0 {kA : Nat → ClassId} : or_ok PRD kA GG o_jMath_min1_v124_0 := by
  refine or_mk fun A ta ws vs hD hth hl => ?_
  intro t0 k0 t1 k1 d0 f0
  replace f0 := shm_21 f0
  have nf0 : fc_1 PRD (23, [0, 1], [0, -1, 1]) ws (vs) := by
    refine ⟨nf_in hl rfl, sgq_22 ?_⟩
    · show (-1) * v_iv (n_v vs 0) + (1 * v_iv (n_v vs 1) + 0) ≤ 0
      omega
  have nf1 : fc_1 PRD (23, [1, 1], [0, -1, 1]) ws (vs) := by
    refine ⟨nf_in hl rfl, sgq_23 ?_⟩
    · show (-1) * v_iv (n_v vs 1) + (1 * v_iv (n_v vs 1) + 0) ≤ 0
      omega
  refine ⟨(fun _ h => (by cases h)), [], trivial, ?_, (fun _ h => (by cases h))⟩
  rw [List.append_nil]
  exact List.forall_mem_cons.mpr ⟨⟨show (23 : Nat) < 100 from by decide, nf0⟩, List.forall_mem_cons.mpr ⟨⟨show (23 : Nat) < 100 from by decide, nf1⟩, (fun _ h => (by cases h))⟩⟩
def o_jMath_min1_v124_1 : or_T := (10, 2, [(0, (0, -2147483647, 1000000, [])), (1, (0, -2147483647, 2147483647, []))], [(7, [0, 1], [5])], [], [], [(23, [0, 0], [0, -1, 1]), (23, [1, 0], [0, -1, 1])], [], [(0, 1, -4294967296, 0)])
theorem oo_jMath_min1_v124_1 {kA : Nat → ClassId} : or_ok PRD kA GG o_jMath_min1_v124_1 := by
  refine or_mk fun A ta ws vs hD hth hl => ?_
  intro t0 k0 t1 k1 d0 f0
  replace f0 := shm_24 f0
  have nf0 : fc_1 PRD (23, [0, 0], [0, -1, 1]) ws (vs) := by
    refine ⟨nf_in hl rfl, sgq_23 ?_⟩
    · show (-1) * v_iv (n_v vs 0) + (1 * v_iv (n_v vs 0) + 0) ≤ 0
      omega
  have nf1 : fc_1 PRD (23, [1, 0], [0, -1, 1]) ws (vs) := by
    refine ⟨nf_in hl rfl, sgq_22 ?_⟩
    · show (-1) * v_iv (n_v vs 1) + (1 * v_iv (n_v vs 0) + 0) ≤ 0
      omega
  refine ⟨(fun _ h => (by cases h)), [], trivial, ?_, (fun _ h => (by cases h))⟩
  rw [List.append_nil]
  exact List.forall_mem_cons.mpr ⟨⟨show (23 : Nat) < 100 from by decide, nf0⟩, List.forall_mem_cons.mpr ⟨⟨show (23 : Nat) < 100 from by decide, nf1⟩, (fun _ h => (by cases h))⟩⟩
def n_jMath_min1_v124_an : List an_T := []
def t_jMath_min1_v124_ct : ct_L := []
set_option maxRecDepth 100000 in
theorem c_jMath_min1_v124 {l : Launch} {D : va_G} {kA : Nat → ClassId} : ct_ok PRD l D kA GG y_jMath_min1 z_jMath_min1 e_jMath_min1_v124 := chk_all_ok (FT := []) (PT := []) (CT := t_jMath_min1_v124_ct) (KT := []) (NT := []) (AN := n_jMath_min1_v124_an) (OT := [o_jMath_min1_v124_0, o_jMath_min1_v124_1]) 0 200 (List.forall_mem_cons.mpr ⟨oo_jMath_min1_v124_0, List.forall_mem_cons.mpr ⟨oo_jMath_min1_v124_1, List.forall_mem_nil _⟩⟩) (pl_Math rfl (by decide)) ⟨List.forall_mem_nil _, List.forall_mem_nil _, List.forall_mem_nil _, List.forall_mem_nil _, List.forall_mem_nil _, GG_pl⟩ (by decide +kernel)
def e_jMath_min1_v125 : en_T := ([(0, 1000000, 1000000, []), (0, -2147483648, 2147483647, [])], some (0, -2147483648, 1000000, []), true, 1, 0, 0, [], [], (0, [], [], [(23, [0, 2], [0, -1, 1]), (23, [1, 2], [0, -1, 1])], []))
def o_jMath_min1_v125_0 : or_T := (10, 2, [(0, (0, 1000000, 1000000, [])), (1, (0, -2147483648, 999999, []))], [(7, [0, 1], [4])], [], [], [(23, [0, 1], [0, -1, 1]), (23, [1, 1], [0, -1, 1])], [], [])
theorem oo_jMath_min1_v125_0 {kA : Nat → ClassId} : or_ok PRD kA GG o_jMath_min1_v125_0 := by
  refine or_mk fun A ta ws vs hD hth hl => ?_
  intro t0 k0 t1 k1 f0
  replace f0 := shm_21 f0
  have nf0 : fc_1 PRD (23, [0, 1], [0, -1, 1]) ws (vs) := by
    refine ⟨nf_in hl rfl, sgq_22 ?_⟩
    · show (-1) * v_iv (n_v vs 0) + (1 * v_iv (n_v vs 1) + 0) ≤ 0
      omega
  have nf1 : fc_1 PRD (23, [1, 1], [0, -1, 1]) ws (vs) := by
    refine ⟨nf_in hl rfl, sgq_23 ?_⟩
    · show (-1) * v_iv (n_v vs 1) + (1 * v_iv (n_v vs 1) + 0) ≤ 0
      omega
  refine ⟨(fun _ h => (by cases h)), [], trivial, ?_, (fun _ h => (by cases h))⟩
  rw [List.append_nil]
  exact List.forall_mem_cons.mpr ⟨⟨show (23 : Nat) < 100 from by decide, nf0⟩, List.forall_mem_cons.mpr ⟨⟨show (23 : Nat) < 100 from by decide, nf1⟩, (fun _ h => (by cases h))⟩⟩
def o_jMath_min1_v125_1 : or_T := (10, 2, [(0, (0, 1000000, 1000000, [])), (1, (0, 1000000, 2147483647, []))], [(7, [0, 1], [5])], [], [], [(23, [0, 0], [0, -1, 1]), (23, [1, 0], [0, -1, 1])], [], [])
theorem oo_jMath_min1_v125_1 {kA : Nat → ClassId} : or_ok PRD kA GG o_jMath_min1_v125_1 := by
  refine or_mk fun A ta ws vs hD hth hl => ?_
  intro t0 k0 t1 k1 f0
  replace f0 := shm_24 f0
  have nf0 : fc_1 PRD (23, [0, 0], [0, -1, 1]) ws (vs) := by
    refine ⟨nf_in hl rfl, sgq_23 ?_⟩
    · show (-1) * v_iv (n_v vs 0) + (1 * v_iv (n_v vs 0) + 0) ≤ 0
      omega
  have nf1 : fc_1 PRD (23, [1, 0], [0, -1, 1]) ws (vs) := by
    refine ⟨nf_in hl rfl, sgq_22 ?_⟩
    · show (-1) * v_iv (n_v vs 1) + (1 * v_iv (n_v vs 0) + 0) ≤ 0
      omega
  refine ⟨(fun _ h => (by cases h)), [], trivial, ?_, (fun _ h => (by cases h))⟩
  rw [List.append_nil]
  exact List.forall_mem_cons.mpr ⟨⟨show (23 : Nat) < 100 from by decide, nf0⟩, List.forall_mem_cons.mpr ⟨⟨show (23 : Nat) < 100 from by decide, nf1⟩, (fun _ h => (by cases h))⟩⟩
def n_jMath_min1_v125_an : List an_T := []
def t_jMath_min1_v125_ct : ct_L := []
set_option maxRecDepth 100000 in
theorem c_jMath_min1_v125 {l : Launch} {D : va_G} {kA : Nat → ClassId} : ct_ok PRD l D kA GG y_jMath_min1 z_jMath_min1 e_jMath_min1_v125 := chk_all_ok (FT := []) (PT := []) (CT := t_jMath_min1_v125_ct) (KT := []) (NT := []) (AN := n_jMath_min1_v125_an) (OT := [o_jMath_min1_v125_0, o_jMath_min1_v125_1]) 0 200 (List.forall_mem_cons.mpr ⟨oo_jMath_min1_v125_0, List.forall_mem_cons.mpr ⟨oo_jMath_min1_v125_1, List.forall_mem_nil _⟩⟩) (pl_Math rfl (by decide)) ⟨List.forall_mem_nil _, List.forall_mem_nil _, List.forall_mem_nil _, List.forall_mem_nil _, List.forall_mem_nil _, GG_pl⟩ (by decide +kernel)
def e_jMath_min1_v126 : en_T := ([(0, -512, 512, []), (0, -512, 512, [])], some (0, -512, 512, []), true, 1, 0, 0, [], [], (0, [], [], [(23, [0, 2], [0, -1, 1]), (23, [1, 2], [0, -1, 1])], []))
def o_jMath_min1_v126_0 : or_T := (10, 2, [(0, (0, -511, 512, [])), (1, (0, -512, 511, []))], [(7, [0, 1], [4])], [], [], [(23, [0, 1], [0, -1, 1]), (23, [1, 1], [0, -1, 1])], [], [(0, 1, 1, 4294967296)])
theorem oo_jMath_min1_v126_0 {kA : Nat → ClassId} : or_ok PRD kA GG o_jMath_min1_v126_0 := by
  refine or_mk fun A ta ws vs hD hth hl => ?_
  intro t0 k0 t1 k1 d0 f0
  replace f0 := shm_21 f0
  have nf0 : fc_1 PRD (23, [0, 1], [0, -1, 1]) ws (vs) := by
    refine ⟨nf_in hl rfl, sgq_22 ?_⟩
    · show (-1) * v_iv (n_v vs 0) + (1 * v_iv (n_v vs 1) + 0) ≤ 0
      omega
  have nf1 : fc_1 PRD (23, [1, 1], [0, -1, 1]) ws (vs) := by
    refine ⟨nf_in hl rfl, sgq_23 ?_⟩
    · show (-1) * v_iv (n_v vs 1) + (1 * v_iv (n_v vs 1) + 0) ≤ 0
      omega
  refine ⟨(fun _ h => (by cases h)), [], trivial, ?_, (fun _ h => (by cases h))⟩
  rw [List.append_nil]
  exact List.forall_mem_cons.mpr ⟨⟨show (23 : Nat) < 100 from by decide, nf0⟩, List.forall_mem_cons.mpr ⟨⟨show (23 : Nat) < 100 from by decide, nf1⟩, (fun _ h => (by cases h))⟩⟩
def o_jMath_min1_v126_1 : or_T := (10, 2, [(0, (0, -512, 512, [])), (1, (0, -512, 512, []))], [(7, [0, 1], [5])], [], [], [(23, [0, 0], [0, -1, 1]), (23, [1, 0], [0, -1, 1])], [], [(0, 1, -4294967296, 0)])
theorem oo_jMath_min1_v126_1 {kA : Nat → ClassId} : or_ok PRD kA GG o_jMath_min1_v126_1 := by
  refine or_mk fun A ta ws vs hD hth hl => ?_
  intro t0 k0 t1 k1 d0 f0
  replace f0 := shm_24 f0
  have nf0 : fc_1 PRD (23, [0, 0], [0, -1, 1]) ws (vs) := by
    refine ⟨nf_in hl rfl, sgq_23 ?_⟩
    · show (-1) * v_iv (n_v vs 0) + (1 * v_iv (n_v vs 0) + 0) ≤ 0
      omega
  have nf1 : fc_1 PRD (23, [1, 0], [0, -1, 1]) ws (vs) := by
    refine ⟨nf_in hl rfl, sgq_22 ?_⟩
    · show (-1) * v_iv (n_v vs 1) + (1 * v_iv (n_v vs 0) + 0) ≤ 0
      omega
  refine ⟨(fun _ h => (by cases h)), [], trivial, ?_, (fun _ h => (by cases h))⟩
  rw [List.append_nil]
  exact List.forall_mem_cons.mpr ⟨⟨show (23 : Nat) < 100 from by decide, nf0⟩, List.forall_mem_cons.mpr ⟨⟨show (23 : Nat) < 100 from by decide, nf1⟩, (fun _ h => (by cases h))⟩⟩
def n_jMath_min1_v126_an : List an_T := []
def t_jMath_min1_v126_ct : ct_L := []
set_option maxRecDepth 100000 in
theorem c_jMath_min1_v126 {l : Launch} {D : va_G} {kA : Nat → ClassId} : ct_ok PRD l D kA GG y_jMath_min1 z_jMath_min1 e_jMath_min1_v126 := chk_all_ok (FT := []) (PT := []) (CT := t_jMath_min1_v126_ct) (KT := []) (NT := []) (AN := n_jMath_min1_v126_an) (OT := [o_jMath_min1_v126_0, o_jMath_min1_v126_1]) 0 200 (List.forall_mem_cons.mpr ⟨oo_jMath_min1_v126_0, List.forall_mem_cons.mpr ⟨oo_jMath_min1_v126_1, List.forall_mem_nil _⟩⟩) (pl_Math rfl (by decide)) ⟨List.forall_mem_nil _, List.forall_mem_nil _, List.forall_mem_nil _, List.forall_mem_nil _, List.forall_mem_nil _, GG_pl⟩ (by decide +kernel)
def e_jMath_max1_v127 : en_T := ([(0, 1, 1, []), (0, -512, 512, [])], some (0, 1, 512, []), true, 1, 0, 0, [], [], (0, [], [], [(23, [0, 2], [0, 1, -1]), (23, [1, 2], [0, 1, -1])], []))
def o_jMath_max1_v127_0 : or_T := (10, 2, [(0, (0, 1, 1, [])), (1, (0, 2, 512, []))], [(7, [0, 1], [2])], [], [], [(23, [0, 1], [0, 1, -1]), (23, [1, 1], [0, 1, -1])], [], [])
theorem oo_jMath_max1_v127_0 {kA : Nat → ClassId} : or_ok PRD kA GG o_jMath_max1_v127_0 := by
  refine or_mk fun A ta ws vs hD hth hl => ?_
  intro t0 k0 t1 k1 f0
  replace f0 := shm_6 f0
  have nf0 : fc_1 PRD (23, [0, 1], [0, 1, -1]) ws (vs) := by
    refine ⟨nf_in hl rfl, sgq_7 ?_⟩
    · show 1 * v_iv (n_v vs 0) + ((-1) * v_iv (n_v vs 1) + 0) ≤ 0
      omega
  have nf1 : fc_1 PRD (23, [1, 1], [0, 1, -1]) ws (vs) := by
    refine ⟨nf_in hl rfl, sgq_8 ?_⟩
    · show 1 * v_iv (n_v vs 1) + ((-1) * v_iv (n_v vs 1) + 0) ≤ 0
      omega
  refine ⟨(fun _ h => (by cases h)), [], trivial, ?_, (fun _ h => (by cases h))⟩
  rw [List.append_nil]
  exact List.forall_mem_cons.mpr ⟨⟨show (23 : Nat) < 100 from by decide, nf0⟩, List.forall_mem_cons.mpr ⟨⟨show (23 : Nat) < 100 from by decide, nf1⟩, (fun _ h => (by cases h))⟩⟩
def o_jMath_max1_v127_1 : or_T := (10, 2, [(0, (0, 1, 1, [])), (1, (0, -512, 1, []))], [(7, [0, 1], [3])], [], [], [(23, [0, 0], [0, 1, -1]), (23, [1, 0], [0, 1, -1])], [], [])
theorem oo_jMath_max1_v127_1 {kA : Nat → ClassId} : or_ok PRD kA GG o_jMath_max1_v127_1 := by
  refine or_mk fun A ta ws vs hD hth hl => ?_
  intro t0 k0 t1 k1 f0
  replace f0 := shm_2 f0
  have nf0 : fc_1 PRD (23, [0, 0], [0, 1, -1]) ws (vs) := by
    refine ⟨nf_in hl rfl, sgq_8 ?_⟩
    · show 1 * v_iv (n_v vs 0) + ((-1) * v_iv (n_v vs 0) + 0) ≤ 0
      omega
  have nf1 : fc_1 PRD (23, [1, 0], [0, 1, -1]) ws (vs) := by
    refine ⟨nf_in hl rfl, sgq_7 ?_⟩
    · show 1 * v_iv (n_v vs 1) + ((-1) * v_iv (n_v vs 0) + 0) ≤ 0
      omega
  refine ⟨(fun _ h => (by cases h)), [], trivial, ?_, (fun _ h => (by cases h))⟩
  rw [List.append_nil]
  exact List.forall_mem_cons.mpr ⟨⟨show (23 : Nat) < 100 from by decide, nf0⟩, List.forall_mem_cons.mpr ⟨⟨show (23 : Nat) < 100 from by decide, nf1⟩, (fun _ h => (by cases h))⟩⟩
def n_jMath_max1_v127_an : List an_T := []
def t_jMath_max1_v127_ct : ct_L := []
set_option maxRecDepth 100000 in
theorem c_jMath_max1_v127 {l : Launch} {D : va_G} {kA : Nat → ClassId} : ct_ok PRD l D kA GG y_jMath_max1 z_jMath_max1 e_jMath_max1_v127 := chk_all_ok (FT := []) (PT := []) (CT := t_jMath_max1_v127_ct) (KT := []) (NT := []) (AN := n_jMath_max1_v127_an) (OT := [o_jMath_max1_v127_0, o_jMath_max1_v127_1]) 0 200 (List.forall_mem_cons.mpr ⟨oo_jMath_max1_v127_0, List.forall_mem_cons.mpr ⟨oo_jMath_max1_v127_1, List.forall_mem_nil _⟩⟩) (pl_Math rfl (by decide)) ⟨List.forall_mem_nil _, List.forall_mem_nil _, List.forall_mem_nil _, List.forall_mem_nil _, List.forall_mem_nil _, GG_pl⟩ (by decide +kernel)
def e_jMath_max1_v128 : en_T := ([(0, -512, 512, []), (0, -512, 512, [])], some (0, -512, 512, []), true, 1, 0, 0, [], [], (0, [], [], [(23, [0, 2], [0, 1, -1]), (23, [1, 2], [0, 1, -1])], []))
def o_jMath_max1_v128_0 : or_T := (10, 2, [(0, (0, -512, 511, [])), (1, (0, -511, 512, []))], [(7, [0, 1], [2])], [], [], [(23, [0, 1], [0, 1, -1]), (23, [1, 1], [0, 1, -1])], [], [(0, 1, -4294967296, -1)])
theorem oo_jMath_max1_v128_0 {kA : Nat → ClassId} : or_ok PRD kA GG o_jMath_max1_v128_0 := by
  refine or_mk fun A ta ws vs hD hth hl => ?_
  intro t0 k0 t1 k1 d0 f0
  replace f0 := shm_6 f0
  have nf0 : fc_1 PRD (23, [0, 1], [0, 1, -1]) ws (vs) := by
    refine ⟨nf_in hl rfl, sgq_7 ?_⟩
    · show 1 * v_iv (n_v vs 0) + ((-1) * v_iv (n_v vs 1) + 0) ≤ 0
      omega
  have nf1 : fc_1 PRD (23, [1, 1], [0, 1, -1]) ws (vs) := by
    refine ⟨nf_in hl rfl, sgq_8 ?_⟩
    · show 1 * v_iv (n_v vs 1) + ((-1) * v_iv (n_v vs 1) + 0) ≤ 0
      omega
  refine ⟨(fun _ h => (by cases h)), [], trivial, ?_, (fun _ h => (by cases h))⟩
  rw [List.append_nil]
  exact List.forall_mem_cons.mpr ⟨⟨show (23 : Nat) < 100 from by decide, nf0⟩, List.forall_mem_cons.mpr ⟨⟨show (23 : Nat) < 100 from by decide, nf1⟩, (fun _ h => (by cases h))⟩⟩
def o_jMath_max1_v128_1 : or_T := (10, 2, [(0, (0, -512, 512, [])), (1, (0, -512, 512, []))], [(7, [0, 1], [3])], [], [], [(23, [0, 0], [0, 1, -1]), (23, [1, 0], [0, 1, -1])], [], [(0, 1, 0, 4294967296)])
theorem oo_jMath_max1_v128_1 {kA : Nat → ClassId} : or_ok PRD kA GG o_jMath_max1_v128_1 := by
  refine or_mk fun A ta ws vs hD hth hl => ?_
  intro t0 k0 t1 k1 d0 f0
  replace f0 := shm_2 f0
  have nf0 : fc_1 PRD (23, [0, 0], [0, 1, -1]) ws (vs) := by
    refine ⟨nf_in hl rfl, sgq_8 ?_⟩
    · show 1 * v_iv (n_v vs 0) + ((-1) * v_iv (n_v vs 0) + 0) ≤ 0
      omega
  have nf1 : fc_1 PRD (23, [1, 0], [0, 1, -1]) ws (vs) := by
    refine ⟨nf_in hl rfl, sgq_7 ?_⟩
    · show 1 * v_iv (n_v vs 1) + ((-1) * v_iv (n_v vs 0) + 0) ≤ 0
      omega
  refine ⟨(fun _ h => (by cases h)), [], trivial, ?_, (fun _ h => (by cases h))⟩
  rw [List.append_nil]
  exact List.forall_mem_cons.mpr ⟨⟨show (23 : Nat) < 100 from by decide, nf0⟩, List.forall_mem_cons.mpr ⟨⟨show (23 : Nat) < 100 from by decide, nf1⟩, (fun _ h => (by cases h))⟩⟩
def n_jMath_max1_v128_an : List an_T := []
def t_jMath_max1_v128_ct : ct_L := []
set_option maxRecDepth 100000 in
theorem c_jMath_max1_v128 {l : Launch} {D : va_G} {kA : Nat → ClassId} : ct_ok PRD l D kA GG y_jMath_max1 z_jMath_max1 e_jMath_max1_v128 := chk_all_ok (FT := []) (PT := []) (CT := t_jMath_max1_v128_ct) (KT := []) (NT := []) (AN := n_jMath_max1_v128_an) (OT := [o_jMath_max1_v128_0, o_jMath_max1_v128_1]) 0 200 (List.forall_mem_cons.mpr ⟨oo_jMath_max1_v128_0, List.forall_mem_cons.mpr ⟨oo_jMath_max1_v128_1, List.forall_mem_nil _⟩⟩) (pl_Math rfl (by decide)) ⟨List.forall_mem_nil _, List.forall_mem_nil _, List.forall_mem_nil _, List.forall_mem_nil _, List.forall_mem_nil _, GG_pl⟩ (by decide +kernel)
def e_jMath_max2_v129 : en_T := ([(1, -2638827906662400, 161060044800, []), (1, -9223372036854775808, 9223372036854775807, [])], some (1, -2638827906662400, 9223372036854775807, []), true, 1, 0, 0, [], [], (0, [], [], [(23, [0, 2], [0, 1, -1]), (23, [1, 2], [0, 1, -1])], []))
def o_jMath_max2_v129_0 : or_T := (11, 2, [(0, (1, -2638827906662400, 161060044800, [])), (1, (1, -2638827906662399, 9223372036854775807, []))], [(7, [0, 1], [2])], [], [], [(23, [0, 1], [0, 1, -1]), (23, [1, 1], [0, 1, -1])], [], [])
theorem oo_jMath_max2_v129_0 {kA : Nat → ClassId} : or_ok PRD kA GG o_jMath_max2_v129_0 := by
  refine or_mk fun A ta ws vs hD hth hl => ?_
  intro t0 k0 t1 k1 f0
  replace f0 := shm_6 f0
  have nf0 : fc_1 PRD (23, [0, 1], [0, 1, -1]) ws (vs) := by
    refine ⟨nf_in hl rfl, sgq_7 ?_⟩
    · show 1 * v_iv (n_v vs 0) + ((-1) * v_iv (n_v vs 1) + 0) ≤ 0
      omega
  have nf1 : fc_1 PRD (23, [1, 1], [0, 1, -1]) ws (vs) := by
    refine ⟨nf_in hl rfl, sgq_8 ?_⟩
    · show 1 * v_iv (n_v vs 1) + ((-1) * v_iv (n_v vs 1) + 0) ≤ 0
      omega
  refine ⟨(fun _ h => (by cases h)), [], trivial, ?_, (fun _ h => (by cases h))⟩
  rw [List.append_nil]
  exact List.forall_mem_cons.mpr ⟨⟨show (23 : Nat) < 100 from by decide, nf0⟩, List.forall_mem_cons.mpr ⟨⟨show (23 : Nat) < 100 from by decide, nf1⟩, (fun _ h => (by cases h))⟩⟩
def o_jMath_max2_v129_1 : or_T := (11, 2, [(0, (1, -2638827906662400, 161060044800, [])), (1, (1, -9223372036854775808, 161060044800, []))], [(7, [0, 1], [3])], [], [], [(23, [0, 0], [0, 1, -1]), (23, [1, 0], [0, 1, -1])], [], [])
theorem oo_jMath_max2_v129_1 {kA : Nat → ClassId} : or_ok PRD kA GG o_jMath_max2_v129_1 := by
  refine or_mk fun A ta ws vs hD hth hl => ?_
  intro t0 k0 t1 k1 f0
  replace f0 := shm_2 f0
  have nf0 : fc_1 PRD (23, [0, 0], [0, 1, -1]) ws (vs) := by
    refine ⟨nf_in hl rfl, sgq_8 ?_⟩
    · show 1 * v_iv (n_v vs 0) + ((-1) * v_iv (n_v vs 0) + 0) ≤ 0
      omega
  have nf1 : fc_1 PRD (23, [1, 0], [0, 1, -1]) ws (vs) := by
    refine ⟨nf_in hl rfl, sgq_7 ?_⟩
    · show 1 * v_iv (n_v vs 1) + ((-1) * v_iv (n_v vs 0) + 0) ≤ 0
      omega
  refine ⟨(fun _ h => (by cases h)), [], trivial, ?_, (fun _ h => (by cases h))⟩
  rw [List.append_nil]
  exact List.forall_mem_cons.mpr ⟨⟨show (23 : Nat) < 100 from by decide, nf0⟩, List.forall_mem_cons.mpr ⟨⟨show (23 : Nat) < 100 from by decide, nf1⟩, (fun _ h => (by cases h))⟩⟩
def n_jMath_max2_v129_an : List an_T := []
def t_jMath_max2_v129_ct : ct_L := []
set_option maxRecDepth 100000 in
theorem c_jMath_max2_v129 {l : Launch} {D : va_G} {kA : Nat → ClassId} : ct_ok PRD l D kA GG y_jMath_max2 z_jMath_max2 e_jMath_max2_v129 := chk_all_ok (FT := []) (PT := []) (CT := t_jMath_max2_v129_ct) (KT := []) (NT := []) (AN := n_jMath_max2_v129_an) (OT := [o_jMath_max2_v129_0, o_jMath_max2_v129_1]) 0 200 (List.forall_mem_cons.mpr ⟨oo_jMath_max2_v129_0, List.forall_mem_cons.mpr ⟨oo_jMath_max2_v129_1, List.forall_mem_nil _⟩⟩) (pl_Math rfl (by decide)) ⟨List.forall_mem_nil _, List.forall_mem_nil _, List.forall_mem_nil _, List.forall_mem_nil _, List.forall_mem_nil _, GG_pl⟩ (by decide +kernel)
def e_jMath_min2_v130 : en_T := ([(1, -2638827906662400, 161060044800, []), (1, -9223372036854775808, 9223372036854775807, [])], some (1, -9223372036854775808, 161060044800, []), true, 1, 0, 0, [], [], (0, [], [], [(23, [0, 2], [0, -1, 1]), (23, [1, 2], [0, -1, 1])], []))
def o_jMath_min2_v130_0 : or_T := (11, 2, [(0, (1, -2638827906662400, 161060044800, [])), (1, (1, -9223372036854775808, 161060044799, []))], [(7, [0, 1], [4])], [], [], [(23, [0, 1], [0, -1, 1]), (23, [1, 1], [0, -1, 1])], [], [])
theorem oo_jMath_min2_v130_0 {kA : Nat → ClassId} : or_ok PRD kA GG o_jMath_min2_v130_0 := by
  refine or_mk fun A ta ws vs hD hth hl => ?_
  intro t0 k0 t1 k1 f0
  replace f0 := shm_21 f0
  have nf0 : fc_1 PRD (23, [0, 1], [0, -1, 1]) ws (vs) := by
    refine ⟨nf_in hl rfl, sgq_22 ?_⟩
    · show (-1) * v_iv (n_v vs 0) + (1 * v_iv (n_v vs 1) + 0) ≤ 0
      omega
  have nf1 : fc_1 PRD (23, [1, 1], [0, -1, 1]) ws (vs) := by
    refine ⟨nf_in hl rfl, sgq_23 ?_⟩
    · show (-1) * v_iv (n_v vs 1) + (1 * v_iv (n_v vs 1) + 0) ≤ 0
      omega
  refine ⟨(fun _ h => (by cases h)), [], trivial, ?_, (fun _ h => (by cases h))⟩
  rw [List.append_nil]
  exact List.forall_mem_cons.mpr ⟨⟨show (23 : Nat) < 100 from by decide, nf0⟩, List.forall_mem_cons.mpr ⟨⟨show (23 : Nat) < 100 from by decide, nf1⟩, (fun _ h => (by cases h))⟩⟩
def o_jMath_min2_v130_1 : or_T := (11, 2, [(0, (1, -2638827906662400, 161060044800, [])), (1, (1, -2638827906662400, 9223372036854775807, []))], [(7, [0, 1], [5])], [], [], [(23, [0, 0], [0, -1, 1]), (23, [1, 0], [0, -1, 1])], [], [])
theorem oo_jMath_min2_v130_1 {kA : Nat → ClassId} : or_ok PRD kA GG o_jMath_min2_v130_1 := by
  refine or_mk fun A ta ws vs hD hth hl => ?_
  intro t0 k0 t1 k1 f0
  replace f0 := shm_24 f0
  have nf0 : fc_1 PRD (23, [0, 0], [0, -1, 1]) ws (vs) := by
    refine ⟨nf_in hl rfl, sgq_23 ?_⟩
    · show (-1) * v_iv (n_v vs 0) + (1 * v_iv (n_v vs 0) + 0) ≤ 0
      omega
  have nf1 : fc_1 PRD (23, [1, 0], [0, -1, 1]) ws (vs) := by
    refine ⟨nf_in hl rfl, sgq_22 ?_⟩
    · show (-1) * v_iv (n_v vs 1) + (1 * v_iv (n_v vs 0) + 0) ≤ 0
      omega
  refine ⟨(fun _ h => (by cases h)), [], trivial, ?_, (fun _ h => (by cases h))⟩
  rw [List.append_nil]
  exact List.forall_mem_cons.mpr ⟨⟨show (23 : Nat) < 100 from by decide, nf0⟩, List.forall_mem_cons.mpr ⟨⟨show (23 : Nat) < 100 from by decide, nf1⟩, (fun _ h => (by cases h))⟩⟩
def n_jMath_min2_v130_an : List an_T := []
def t_jMath_min2_v130_ct : ct_L := []
set_option maxRecDepth 100000 in
theorem c_jMath_min2_v130 {l : Launch} {D : va_G} {kA : Nat → ClassId} : ct_ok PRD l D kA GG y_jMath_min2 z_jMath_min2 e_jMath_min2_v130 := chk_all_ok (FT := []) (PT := []) (CT := t_jMath_min2_v130_ct) (KT := []) (NT := []) (AN := n_jMath_min2_v130_an) (OT := [o_jMath_min2_v130_0, o_jMath_min2_v130_1]) 0 200 (List.forall_mem_cons.mpr ⟨oo_jMath_min2_v130_0, List.forall_mem_cons.mpr ⟨oo_jMath_min2_v130_1, List.forall_mem_nil _⟩⟩) (pl_Math rfl (by decide)) ⟨List.forall_mem_nil _, List.forall_mem_nil _, List.forall_mem_nil _, List.forall_mem_nil _, List.forall_mem_nil _, GG_pl⟩ (by decide +kernel)
def e_jMath_max1_v131 : en_T := ([(0, 0, 182500000, []), (0, 0, 182500000, [])], some (0, 0, 182500000, []), true, 1, 0, 0, [], [], (0, [], [], [(23, [0, 2], [0, 1, -1]), (23, [1, 2], [0, 1, -1])], []))
def o_jMath_max1_v131_0 : or_T := (10, 2, [(0, (0, 0, 182499999, [])), (1, (0, 1, 182500000, []))], [(7, [0, 1], [2])], [], [], [(23, [0, 1], [0, 1, -1]), (23, [1, 1], [0, 1, -1])], [], [(0, 1, -4294967296, -1)])
theorem oo_jMath_max1_v131_0 {kA : Nat → ClassId} : or_ok PRD kA GG o_jMath_max1_v131_0 := by
  refine or_mk fun A ta ws vs hD hth hl => ?_
  intro t0 k0 t1 k1 d0 f0
  replace f0 := shm_6 f0
  have nf0 : fc_1 PRD (23, [0, 1], [0, 1, -1]) ws (vs) := by
    refine ⟨nf_in hl rfl, sgq_7 ?_⟩
    · show 1 * v_iv (n_v vs 0) + ((-1) * v_iv (n_v vs 1) + 0) ≤ 0
      omega
  have nf1 : fc_1 PRD (23, [1, 1], [0, 1, -1]) ws (vs) := by
    refine ⟨nf_in hl rfl, sgq_8 ?_⟩
    · show 1 * v_iv (n_v vs 1) + ((-1) * v_iv (n_v vs 1) + 0) ≤ 0
      omega
  refine ⟨(fun _ h => (by cases h)), [], trivial, ?_, (fun _ h => (by cases h))⟩
  rw [List.append_nil]
  exact List.forall_mem_cons.mpr ⟨⟨show (23 : Nat) < 100 from by decide, nf0⟩, List.forall_mem_cons.mpr ⟨⟨show (23 : Nat) < 100 from by decide, nf1⟩, (fun _ h => (by cases h))⟩⟩
def o_jMath_max1_v131_1 : or_T := (10, 2, [(0, (0, 0, 182500000, [])), (1, (0, 0, 182500000, []))], [(7, [0, 1], [3])], [], [], [(23, [0, 0], [0, 1, -1]), (23, [1, 0], [0, 1, -1])], [], [(0, 1, 0, 4294967296)])
theorem oo_jMath_max1_v131_1 {kA : Nat → ClassId} : or_ok PRD kA GG o_jMath_max1_v131_1 := by
  refine or_mk fun A ta ws vs hD hth hl => ?_
  intro t0 k0 t1 k1 d0 f0
  replace f0 := shm_2 f0
  have nf0 : fc_1 PRD (23, [0, 0], [0, 1, -1]) ws (vs) := by
    refine ⟨nf_in hl rfl, sgq_8 ?_⟩
    · show 1 * v_iv (n_v vs 0) + ((-1) * v_iv (n_v vs 0) + 0) ≤ 0
      omega
  have nf1 : fc_1 PRD (23, [1, 0], [0, 1, -1]) ws (vs) := by
    refine ⟨nf_in hl rfl, sgq_7 ?_⟩
    · show 1 * v_iv (n_v vs 1) + ((-1) * v_iv (n_v vs 0) + 0) ≤ 0
      omega
  refine ⟨(fun _ h => (by cases h)), [], trivial, ?_, (fun _ h => (by cases h))⟩
  rw [List.append_nil]
  exact List.forall_mem_cons.mpr ⟨⟨show (23 : Nat) < 100 from by decide, nf0⟩, List.forall_mem_cons.mpr ⟨⟨show (23 : Nat) < 100 from by decide, nf1⟩, (fun _ h => (by cases h))⟩⟩
def n_jMath_max1_v131_an : List an_T := []
def t_jMath_max1_v131_ct : ct_L := []
set_option maxRecDepth 100000 in
theorem c_jMath_max1_v131 {l : Launch} {D : va_G} {kA : Nat → ClassId} : ct_ok PRD l D kA GG y_jMath_max1 z_jMath_max1 e_jMath_max1_v131 := chk_all_ok (FT := []) (PT := []) (CT := t_jMath_max1_v131_ct) (KT := []) (NT := []) (AN := n_jMath_max1_v131_an) (OT := [o_jMath_max1_v131_0, o_jMath_max1_v131_1]) 0 200 (List.forall_mem_cons.mpr ⟨oo_jMath_max1_v131_0, List.forall_mem_cons.mpr ⟨oo_jMath_max1_v131_1, List.forall_mem_nil _⟩⟩) (pl_Math rfl (by decide)) ⟨List.forall_mem_nil _, List.forall_mem_nil _, List.forall_mem_nil _, List.forall_mem_nil _, List.forall_mem_nil _, GG_pl⟩ (by decide +kernel)
def e_jMath_floorDiv1_v132 : en_T := ([(0, -67108864, 67108864, []), (0, 2, 2, [])], some (0, -67108865, 67108864, []), true, 1, 0, 0, [], [], (0, [], [], [(20, [2, 0], [50, 0, 0, 0, 6, 6, 2, 0, 2, 1, 0, 1, 1]), (20, [0, 2], [50, 0, 0, 0, 2, 1, 0, 4, 6, 6, 2, 0, 2, 1, 1, 0, 1])], []))
def o_jMath_floorDiv1_v132_0 : or_T := (22, 4, [(0, (0, -67108864, 67108864, [])), (1, (0, 2, 2, [])), (2, (0, -67108864, 67108864, [])), (3, (0, 0, 2147483647, []))], [(8, [3], [3]), (16, [3, 0, 1], [2]), (4, [2, 0, 1], [])], [], [], [(20, [2, 0], [50, 0, 0, 0, 6, 6, 2, 0, 2, 1, 0, 1, 1]), (20, [0, 2], [50, 0, 0, 0, 2, 1, 0, 4, 6, 6, 2, 0, 2, 1, 1, 0, 1])], [], [])
theorem oo_jMath_floorDiv1_v132_0 {kA : Nat → ClassId} : or_ok PRD kA GG o_jMath_floorDiv1_v132_0 := by
  refine or_mk fun A ta ws vs hD hth hl => ?_
  intro t0 k0 t1 k1 t2 k2 t3 k3 f0 f1 f2
  replace f0 := shm_32 f0
  replace f1 := shm_33 f1
  replace f2 := shm_34 f2
  have g5 := fdv (x := v_iv (n_v vs 0)) (y := v_iv (n_v vs 1)) (q := v_iv (n_v vs 2)) (by assumption) (by omega)
  have g8 : v_iv (n_v vs 2) * v_iv (n_v vs 1) = v_iv (n_v vs 1) * v_iv (n_v vs 2) := Int.mul_comm _ _
  have g7 := xor_sg (n := v_iv (n_v vs 3)) (a := v_iv (n_v vs 0)) (b := v_iv (n_v vs 1)) (by assumption) (by omega) (by omega) (by omega)
  have nf0 : fc_1 PRD (20, [2, 0], [50, 0, 0, 0, 6, 6, 2, 0, 2, 1, 0, 1, 1]) ws (vs) := by
    refine ⟨nf_in hl rfl, sgq_41 ?_⟩
    · show (2 * v_iv (n_v vs 2)) ≤ v_iv (n_v vs 0)
      first | omega | grind
  have nf1 : fc_1 PRD (20, [0, 2], [50, 0, 0, 0, 2, 1, 0, 4, 6, 6, 2, 0, 2, 1, 1, 0, 1]) ws (vs) := by
    refine ⟨nf_in hl rfl, sgq_42 ?_⟩
    · show v_iv (n_v vs 0) ≤ ((2 * v_iv (n_v vs 2)) + 1)
      first | omega | grind
  refine ⟨(fun _ h => (by cases h)), [], trivial, ?_, (fun _ h => (by cases h))⟩
  rw [List.append_nil]
  exact List.forall_mem_cons.mpr ⟨⟨show (20 : Nat) < 100 from by decide, nf0⟩, List.forall_mem_cons.mpr ⟨⟨show (20 : Nat) < 100 from by decide, nf1⟩, (fun _ h => (by cases h))⟩⟩
def o_jMath_floorDiv1_v132_1 : or_T := (22, 5, [(0, (0, -67108864, 67108864, [])), (1, (0, 2, 2, [])), (2, (0, -67108864, 67108864, [])), (3, (0, -2147483648, -1, [])), (4, (0, -67108864, 67108864, []))], [(7, [4, 0], [0]), (3, [4, 2, 1], []), (8, [3], [2]), (16, [3, 0, 1], [2]), (4, [2, 0, 1], [])], [], [], [(20, [2, 0], [50, 0, 0, 0, 6, 6, 2, 0, 2, 1, 0, 1, 1]), (20, [0, 2], [50, 0, 0, 0, 2, 1, 0, 4, 6, 6, 2, 0, 2, 1, 1, 0, 1])], [], [(4, 0, 0, 0)])
theorem oo_jMath_floorDiv1_v132_1 {kA : Nat → ClassId} : or_ok PRD kA GG o_jMath_floorDiv1_v132_1 := by
  refine or_mk fun A ta ws vs hD hth hl => ?_
  intro t0 k0 t1 k1 t2 k2 t3 k3 t4 k4 d0 f0 f1 f2 f3 f4
  replace f0 := shm_37 f0
  replace f1 := shm_38 f1
  rw [show v_iv (n_v vs 1) = 2 from by omega] at f1
  replace f2 := shm_39 f2
  replace f3 := shm_33 f3
  replace f4 := shm_34 f4
  have g5 := fdv (x := v_iv (n_v vs 0)) (y := v_iv (n_v vs 1)) (q := v_iv (n_v vs 2)) (by assumption) (by omega)
  have g8 : v_iv (n_v vs 2) * v_iv (n_v vs 1) = v_iv (n_v vs 1) * v_iv (n_v vs 2) := Int.mul_comm _ _
  have g7 := xor_sg (n := v_iv (n_v vs 3)) (a := v_iv (n_v vs 0)) (b := v_iv (n_v vs 1)) (by assumption) (by omega) (by omega) (by omega)
  have nf0 : fc_1 PRD (20, [2, 0], [50, 0, 0, 0, 6, 6, 2, 0, 2, 1, 0, 1, 1]) ws (vs) := by
    refine ⟨nf_in hl rfl, sgq_41 ?_⟩
    · show (2 * v_iv (n_v vs 2)) ≤ v_iv (n_v vs 0)
      first | omega | grind
  have nf1 : fc_1 PRD (20, [0, 2], [50, 0, 0, 0, 2, 1, 0, 4, 6, 6, 2, 0, 2, 1, 1, 0, 1]) ws (vs) := by
    refine ⟨nf_in hl rfl, sgq_42 ?_⟩
    · show v_iv (n_v vs 0) ≤ ((2 * v_iv (n_v vs 2)) + 1)
      first | omega | grind
  refine ⟨(fun _ h => (by cases h)), [], trivial, ?_, (fun _ h => (by cases h))⟩
  rw [List.append_nil]
  exact List.forall_mem_cons.mpr ⟨⟨show (20 : Nat) < 100 from by decide, nf0⟩, List.forall_mem_cons.mpr ⟨⟨show (20 : Nat) < 100 from by decide, nf1⟩, (fun _ h => (by cases h))⟩⟩
def o_jMath_floorDiv1_v132_2 : or_T := (20, 7, [(0, (0, -67108864, 67108864, [])), (1, (0, 2, 2, [])), (2, (0, -67108864, 67108864, [])), (3, (0, -2147483648, -1, [])), (4, (0, -134217728, 134217728, [])), (5, (0, 1, 1, [])), (6, (0, -67108865, 67108863, []))], [(2, [6, 2, 5], []), (7, [4, 0], [1]), (3, [4, 2, 1], []), (8, [3], [2]), (16, [3, 0, 1], [2]), (4, [2, 0, 1], [])], [], [], [(20, [6, 0], [50, 0, 0, 0, 6, 6, 2, 0, 2, 1, 0, 1, 1]), (20, [0, 6], [50, 0, 0, 0, 2, 1, 0, 4, 6, 6, 2, 0, 2, 1, 1, 0, 1])], [], [(6, 2, -1, -1)])
theorem oo_jMath_floorDiv1_v132_2 {kA : Nat → ClassId} : or_ok PRD kA GG o_jMath_floorDiv1_v132_2 := by
  refine or_mk fun A ta ws vs hD hth hl => ?_
  intro t0 k0 t1 k1 t2 k2 t3 k3 t4 k4 t5 k5 t6 k6 d0 f0 f1 f2 f3 f4 f5
  replace f0 := shm_14 f0
  replace f1 := shm_40 f1
  replace f2 := shm_38 f2
  rw [show v_iv (n_v vs 1) = 2 from by omega] at f2
  replace f3 := shm_39 f3
  replace f4 := shm_33 f4
  replace f5 := shm_34 f5
  have g5 := fdv (x := v_iv (n_v vs 0)) (y := v_iv (n_v vs 1)) (q := v_iv (n_v vs 2)) (by assumption) (by omega)
  have g8 : v_iv (n_v vs 2) * v_iv (n_v vs 1) = v_iv (n_v vs 1) * v_iv (n_v vs 2) := Int.mul_comm _ _
  have g6 := fd_1 (y := v_iv (n_v vs 1)) (q := v_iv (n_v vs 2)) (n := v_iv (n_v vs 6)) (by omega)
  have g7 := xor_sg (n := v_iv (n_v vs 3)) (a := v_iv (n_v vs 0)) (b := v_iv (n_v vs 1)) (by assumption) (by omega) (by omega) (by omega)
  have nf0 : fc_1 PRD (20, [6, 0], [50, 0, 0, 0, 6, 6, 2, 0, 2, 1, 0, 1, 1]) ws (vs) := by
    refine ⟨nf_in hl rfl, sgq_41 ?_⟩
    · show (2 * v_iv (n_v vs 6)) ≤ v_iv (n_v vs 0)
      first | omega | grind
  have nf1 : fc_1 PRD (20, [0, 6], [50, 0, 0, 0, 2, 1, 0, 4, 6, 6, 2, 0, 2, 1, 1, 0, 1]) ws (vs) := by
    refine ⟨nf_in hl rfl, sgq_42 ?_⟩
    · show v_iv (n_v vs 0) ≤ ((2 * v_iv (n_v vs 6)) + 1)
      first | omega | grind
  refine ⟨(fun _ h => (by cases h)), [], trivial, ?_, (fun _ h => (by cases h))⟩
  rw [List.append_nil]
  exact List.forall_mem_cons.mpr ⟨⟨show (20 : Nat) < 100 from by decide, nf0⟩, List.forall_mem_cons.mpr ⟨⟨show (20 : Nat) < 100 from by decide, nf1⟩, (fun _ h => (by cases h))⟩⟩
def n_jMath_floorDiv1_v132_an : List an_T := []
def t_jMath_floorDiv1_v132_ct : ct_L := []
set_option maxRecDepth 100000 in
theorem c_jMath_floorDiv1_v132 {l : Launch} {D : va_G} {kA : Nat → ClassId} : ct_ok PRD l D kA GG y_jMath_floorDiv1 z_jMath_floorDiv1 e_jMath_floorDiv1_v132 := chk_all_ok (FT := []) (PT := []) (CT := t_jMath_floorDiv1_v132_ct) (KT := []) (NT := []) (AN := n_jMath_floorDiv1_v132_an) (OT := [o_jMath_floorDiv1_v132_0, o_jMath_floorDiv1_v132_1, o_jMath_floorDiv1_v132_2]) 0 200 (List.forall_mem_cons.mpr ⟨oo_jMath_floorDiv1_v132_0, List.forall_mem_cons.mpr ⟨oo_jMath_floorDiv1_v132_1, List.forall_mem_cons.mpr ⟨oo_jMath_floorDiv1_v132_2, List.forall_mem_nil _⟩⟩⟩) (pl_Math rfl (by decide)) ⟨List.forall_mem_nil _, List.forall_mem_nil _, List.forall_mem_nil _, List.forall_mem_nil _, List.forall_mem_nil _, GG_pl⟩ (by decide +kernel)
def e_jMath_max1_v133 : en_T := ([(0, -1, -1, []), (0, 0, 0, [])], some (0, 0, 0, []), true, 1, 0, 0, [], [], (0, [], [], [(23, [0, 2], [0, 1, -1]), (23, [1, 2], [0, 1, -1])], []))
def o_jMath_max1_v133_0 : or_T := (10, 2, [(0, (0, -1, -1, [])), (1, (0, 0, 0, []))], [(7, [0, 1], [2])], [], [], [(23, [0, 1], [0, 1, -1]), (23, [1, 1], [0, 1, -1])], [], [])
theorem oo_jMath_max1_v133_0 {kA : Nat → ClassId} : or_ok PRD kA GG o_jMath_max1_v133_0 := by
  refine or_mk fun A ta ws vs hD hth hl => ?_
  intro t0 k0 t1 k1 f0
  replace f0 := shm_6 f0
  have nf0 : fc_1 PRD (23, [0, 1], [0, 1, -1]) ws (vs) := by
    refine ⟨nf_in hl rfl, sgq_7 ?_⟩
    · show 1 * v_iv (n_v vs 0) + ((-1) * v_iv (n_v vs 1) + 0) ≤ 0
      omega
  have nf1 : fc_1 PRD (23, [1, 1], [0, 1, -1]) ws (vs) := by
    refine ⟨nf_in hl rfl, sgq_8 ?_⟩
    · show 1 * v_iv (n_v vs 1) + ((-1) * v_iv (n_v vs 1) + 0) ≤ 0
      omega
  refine ⟨(fun _ h => (by cases h)), [], trivial, ?_, (fun _ h => (by cases h))⟩
  rw [List.append_nil]
  exact List.forall_mem_cons.mpr ⟨⟨show (23 : Nat) < 100 from by decide, nf0⟩, List.forall_mem_cons.mpr ⟨⟨show (23 : Nat) < 100 from by decide, nf1⟩, (fun _ h => (by cases h))⟩⟩
def n_jMath_max1_v133_an : List an_T := []
def t_jMath_max1_v133_ct : ct_L := []
set_option maxRecDepth 100000 in
theorem c_jMath_max1_v133 {l : Launch} {D : va_G} {kA : Nat → ClassId} : ct_ok PRD l D kA GG y_jMath_max1 z_jMath_max1 e_jMath_max1_v133 := chk_all_ok (FT := []) (PT := []) (CT := t_jMath_max1_v133_ct) (KT := []) (NT := []) (AN := n_jMath_max1_v133_an) (OT := [o_jMath_max1_v133_0]) 0 200 (List.forall_mem_cons.mpr ⟨oo_jMath_max1_v133_0, List.forall_mem_nil _⟩) (pl_Math rfl (by decide)) ⟨List.forall_mem_nil _, List.forall_mem_nil _, List.forall_mem_nil _, List.forall_mem_nil _, List.forall_mem_nil _, GG_pl⟩ (by decide +kernel)
def e_jMath_max1_v134 : en_T := ([(0, -1, 0, []), (0, 0, 0, [])], some (0, 0, 0, []), true, 1, 0, 0, [], [], (0, [], [], [(23, [0, 2], [0, 1, -1]), (23, [1, 2], [0, 1, -1])], []))
def o_jMath_max1_v134_0 : or_T := (10, 2, [(0, (0, -1, -1, [])), (1, (0, 0, 0, []))], [(7, [0, 1], [2])], [], [], [(23, [0, 1], [0, 1, -1]), (23, [1, 1], [0, 1, -1])], [], [])
theorem oo_jMath_max1_v134_0 {kA : Nat → ClassId} : or_ok PRD kA GG o_jMath_max1_v134_0 := by
  refine or_mk fun A ta ws vs hD hth hl => ?_
  intro t0 k0 t1 k1 f0
  replace f0 := shm_6 f0
  have nf0 : fc_1 PRD (23, [0, 1], [0, 1, -1]) ws (vs) := by
    refine ⟨nf_in hl rfl, sgq_7 ?_⟩
    · show 1 * v_iv (n_v vs 0) + ((-1) * v_iv (n_v vs 1) + 0) ≤ 0
      omega
  have nf1 : fc_1 PRD (23, [1, 1], [0, 1, -1]) ws (vs) := by
    refine ⟨nf_in hl rfl, sgq_8 ?_⟩
    · show 1 * v_iv (n_v vs 1) + ((-1) * v_iv (n_v vs 1) + 0) ≤ 0
      omega
  refine ⟨(fun _ h => (by cases h)), [], trivial, ?_, (fun _ h => (by cases h))⟩
  rw [List.append_nil]
  exact List.forall_mem_cons.mpr ⟨⟨show (23 : Nat) < 100 from by decide, nf0⟩, List.forall_mem_cons.mpr ⟨⟨show (23 : Nat) < 100 from by decide, nf1⟩, (fun _ h => (by cases h))⟩⟩
def o_jMath_max1_v134_1 : or_T := (10, 2, [(0, (0, 0, 0, [])), (1, (0, 0, 0, []))], [(7, [0, 1], [3])], [], [], [(23, [0, 0], [0, 1, -1]), (23, [1, 0], [0, 1, -1])], [], [])
theorem oo_jMath_max1_v134_1 {kA : Nat → ClassId} : or_ok PRD kA GG o_jMath_max1_v134_1 := by
  refine or_mk fun A ta ws vs hD hth hl => ?_
  intro t0 k0 t1 k1 f0
  replace f0 := shm_2 f0
  have nf0 : fc_1 PRD (23, [0, 0], [0, 1, -1]) ws (vs) := by
    refine ⟨nf_in hl rfl, sgq_8 ?_⟩
    · show 1 * v_iv (n_v vs 0) + ((-1) * v_iv (n_v vs 0) + 0) ≤ 0
      omega
  have nf1 : fc_1 PRD (23, [1, 0], [0, 1, -1]) ws (vs) := by
    refine ⟨nf_in hl rfl, sgq_7 ?_⟩
    · show 1 * v_iv (n_v vs 1) + ((-1) * v_iv (n_v vs 0) + 0) ≤ 0
      omega
  refine ⟨(fun _ h => (by cases h)), [], trivial, ?_, (fun _ h => (by cases h))⟩
  rw [List.append_nil]
  exact List.forall_mem_cons.mpr ⟨⟨show (23 : Nat) < 100 from by decide, nf0⟩, List.forall_mem_cons.mpr ⟨⟨show (23 : Nat) < 100 from by decide, nf1⟩, (fun _ h => (by cases h))⟩⟩
def n_jMath_max1_v134_an : List an_T := []
def t_jMath_max1_v134_ct : ct_L := []
set_option maxRecDepth 100000 in
theorem c_jMath_max1_v134 {l : Launch} {D : va_G} {kA : Nat → ClassId} : ct_ok PRD l D kA GG y_jMath_max1 z_jMath_max1 e_jMath_max1_v134 := chk_all_ok (FT := []) (PT := []) (CT := t_jMath_max1_v134_ct) (KT := []) (NT := []) (AN := n_jMath_max1_v134_an) (OT := [o_jMath_max1_v134_0, o_jMath_max1_v134_1]) 0 200 (List.forall_mem_cons.mpr ⟨oo_jMath_max1_v134_0, List.forall_mem_cons.mpr ⟨oo_jMath_max1_v134_1, List.forall_mem_nil _⟩⟩) (pl_Math rfl (by decide)) ⟨List.forall_mem_nil _, List.forall_mem_nil _, List.forall_mem_nil _, List.forall_mem_nil _, List.forall_mem_nil _, GG_pl⟩ (by decide +kernel)
def e_jMath_max1_v135 : en_T := ([(0, -1, 1, []), (0, 0, 0, [])], some (0, 0, 1, []), true, 1, 0, 0, [], [], (0, [], [], [(23, [0, 2], [0, 1, -1]), (23, [1, 2], [0, 1, -1])], []))
def o_jMath_max1_v135_0 : or_T := (10, 2, [(0, (0, -1, -1, [])), (1, (0, 0, 0, []))], [(7, [0, 1], [2])], [], [], [(23, [0, 1], [0, 1, -1]), (23, [1, 1], [0, 1, -1])], [], [])
theorem oo_jMath_max1_v135_0 {kA : Nat → ClassId} : or_ok PRD kA GG o_jMath_max1_v135_0 := by
  refine or_mk fun A ta ws vs hD hth hl => ?_
  intro t0 k0 t1 k1 f0
  replace f0 := shm_6 f0
  have nf0 : fc_1 PRD (23, [0, 1], [0, 1, -1]) ws (vs) := by
    refine ⟨nf_in hl rfl, sgq_7 ?_⟩
    · show 1 * v_iv (n_v vs 0) + ((-1) * v_iv (n_v vs 1) + 0) ≤ 0
      omega
  have nf1 : fc_1 PRD (23, [1, 1], [0, 1, -1]) ws (vs) := by
    refine ⟨nf_in hl rfl, sgq_8 ?_⟩
    · show 1 * v_iv (n_v vs 1) + ((-1) * v_iv (n_v vs 1) + 0) ≤ 0
      omega
  refine ⟨(fun _ h => (by cases h)), [], trivial, ?_, (fun _ h => (by cases h))⟩
  rw [List.append_nil]
  exact List.forall_mem_cons.mpr ⟨⟨show (23 : Nat) < 100 from by decide, nf0⟩, List.forall_mem_cons.mpr ⟨⟨show (23 : Nat) < 100 from by decide, nf1⟩, (fun _ h => (by cases h))⟩⟩
def o_jMath_max1_v135_1 : or_T := (10, 2, [(0, (0, 0, 1, [])), (1, (0, 0, 0, []))], [(7, [0, 1], [3])], [], [], [(23, [0, 0], [0, 1, -1]), (23, [1, 0], [0, 1, -1])], [], [])
theorem oo_jMath_max1_v135_1 {kA : Nat → ClassId} : or_ok PRD kA GG o_jMath_max1_v135_1 := by
  refine or_mk fun A ta ws vs hD hth hl => ?_
  intro t0 k0 t1 k1 f0
  replace f0 := shm_2 f0
  have nf0 : fc_1 PRD (23, [0, 0], [0, 1, -1]) ws (vs) := by
    refine ⟨nf_in hl rfl, sgq_8 ?_⟩
    · show 1 * v_iv (n_v vs 0) + ((-1) * v_iv (n_v vs 0) + 0) ≤ 0
      omega
  have nf1 : fc_1 PRD (23, [1, 0], [0, 1, -1]) ws (vs) := by
    refine ⟨nf_in hl rfl, sgq_7 ?_⟩
    · show 1 * v_iv (n_v vs 1) + ((-1) * v_iv (n_v vs 0) + 0) ≤ 0
      omega
  refine ⟨(fun _ h => (by cases h)), [], trivial, ?_, (fun _ h => (by cases h))⟩
  rw [List.append_nil]
  exact List.forall_mem_cons.mpr ⟨⟨show (23 : Nat) < 100 from by decide, nf0⟩, List.forall_mem_cons.mpr ⟨⟨show (23 : Nat) < 100 from by decide, nf1⟩, (fun _ h => (by cases h))⟩⟩
def n_jMath_max1_v135_an : List an_T := []
def t_jMath_max1_v135_ct : ct_L := []
set_option maxRecDepth 100000 in
theorem c_jMath_max1_v135 {l : Launch} {D : va_G} {kA : Nat → ClassId} : ct_ok PRD l D kA GG y_jMath_max1 z_jMath_max1 e_jMath_max1_v135 := chk_all_ok (FT := []) (PT := []) (CT := t_jMath_max1_v135_ct) (KT := []) (NT := []) (AN := n_jMath_max1_v135_an) (OT := [o_jMath_max1_v135_0, o_jMath_max1_v135_1]) 0 200 (List.forall_mem_cons.mpr ⟨oo_jMath_max1_v135_0, List.forall_mem_cons.mpr ⟨oo_jMath_max1_v135_1, List.forall_mem_nil _⟩⟩) (pl_Math rfl (by decide)) ⟨List.forall_mem_nil _, List.forall_mem_nil _, List.forall_mem_nil _, List.forall_mem_nil _, List.forall_mem_nil _, GG_pl⟩ (by decide +kernel)
def e_jMath_max1_v136 : en_T := ([(0, -1, 2, []), (0, 0, 0, [])], some (0, 0, 2, []), true, 1, 0, 0, [], [], (0, [], [], [(23, [0, 2], [0, 1, -1]), (23, [1, 2], [0, 1, -1])], []))
def o_jMath_max1_v136_0 : or_T := (10, 2, [(0, (0, -1, -1, [])), (1, (0, 0, 0, []))], [(7, [0, 1], [2])], [], [], [(23, [0, 1], [0, 1, -1]), (23, [1, 1], [0, 1, -1])], [], [])
theorem oo_jMath_max1_v136_0 {kA : Nat → ClassId} : or_ok PRD kA GG o_jMath_max1_v136_0 := by
  refine or_mk fun A ta ws vs hD hth hl => ?_
  intro t0 k0 t1 k1 f0
  replace f0 := shm_6 f0
  have nf0 : fc_1 PRD (23, [0, 1], [0, 1, -1]) ws (vs) := by
    refine ⟨nf_in hl rfl, sgq_7 ?_⟩
    · show 1 * v_iv (n_v vs 0) + ((-1) * v_iv (n_v vs 1) + 0) ≤ 0
      omega
  have nf1 : fc_1 PRD (23, [1, 1], [0, 1, -1]) ws (vs) := by
    refine ⟨nf_in hl rfl, sgq_8 ?_⟩
    · show 1 * v_iv (n_v vs 1) + ((-1) * v_iv (n_v vs 1) + 0) ≤ 0
      omega
  refine ⟨(fun _ h => (by cases h)), [], trivial, ?_, (fun _ h => (by cases h))⟩
  rw [List.append_nil]
  exact List.forall_mem_cons.mpr ⟨⟨show (23 : Nat) < 100 from by decide, nf0⟩, List.forall_mem_cons.mpr ⟨⟨show (23 : Nat) < 100 from by decide, nf1⟩, (fun _ h => (by cases h))⟩⟩
def o_jMath_max1_v136_1 : or_T := (10, 2, [(0, (0, 0, 2, [])), (1, (0, 0, 0, []))], [(7, [0, 1], [3])], [], [], [(23, [0, 0], [0, 1, -1]), (23, [1, 0], [0, 1, -1])], [], [])
theorem oo_jMath_max1_v136_1 {kA : Nat → ClassId} : or_ok PRD kA GG o_jMath_max1_v136_1 := by
  refine or_mk fun A ta ws vs hD hth hl => ?_
  intro t0 k0 t1 k1 f0
  replace f0 := shm_2 f0
  have nf0 : fc_1 PRD (23, [0, 0], [0, 1, -1]) ws (vs) := by
    refine ⟨nf_in hl rfl, sgq_8 ?_⟩
    · show 1 * v_iv (n_v vs 0) + ((-1) * v_iv (n_v vs 0) + 0) ≤ 0
      omega
  have nf1 : fc_1 PRD (23, [1, 0], [0, 1, -1]) ws (vs) := by
    refine ⟨nf_in hl rfl, sgq_7 ?_⟩
    · show 1 * v_iv (n_v vs 1) + ((-1) * v_iv (n_v vs 0) + 0) ≤ 0
      omega
  refine ⟨(fun _ h => (by cases h)), [], trivial, ?_, (fun _ h => (by cases h))⟩
  rw [List.append_nil]
  exact List.forall_mem_cons.mpr ⟨⟨show (23 : Nat) < 100 from by decide, nf0⟩, List.forall_mem_cons.mpr ⟨⟨show (23 : Nat) < 100 from by decide, nf1⟩, (fun _ h => (by cases h))⟩⟩
def n_jMath_max1_v136_an : List an_T := []
def t_jMath_max1_v136_ct : ct_L := []
set_option maxRecDepth 100000 in
theorem c_jMath_max1_v136 {l : Launch} {D : va_G} {kA : Nat → ClassId} : ct_ok PRD l D kA GG y_jMath_max1 z_jMath_max1 e_jMath_max1_v136 := chk_all_ok (FT := []) (PT := []) (CT := t_jMath_max1_v136_ct) (KT := []) (NT := []) (AN := n_jMath_max1_v136_an) (OT := [o_jMath_max1_v136_0, o_jMath_max1_v136_1]) 0 200 (List.forall_mem_cons.mpr ⟨oo_jMath_max1_v136_0, List.forall_mem_cons.mpr ⟨oo_jMath_max1_v136_1, List.forall_mem_nil _⟩⟩) (pl_Math rfl (by decide)) ⟨List.forall_mem_nil _, List.forall_mem_nil _, List.forall_mem_nil _, List.forall_mem_nil _, List.forall_mem_nil _, GG_pl⟩ (by decide +kernel)
def e_jMath_max1_v137 : en_T := ([(0, -1, 3, []), (0, 0, 0, [])], some (0, 0, 3, []), true, 1, 0, 0, [], [], (0, [], [], [(23, [0, 2], [0, 1, -1]), (23, [1, 2], [0, 1, -1])], []))
def o_jMath_max1_v137_0 : or_T := (10, 2, [(0, (0, -1, -1, [])), (1, (0, 0, 0, []))], [(7, [0, 1], [2])], [], [], [(23, [0, 1], [0, 1, -1]), (23, [1, 1], [0, 1, -1])], [], [])
theorem oo_jMath_max1_v137_0 {kA : Nat → ClassId} : or_ok PRD kA GG o_jMath_max1_v137_0 := by
  refine or_mk fun A ta ws vs hD hth hl => ?_
  intro t0 k0 t1 k1 f0
  replace f0 := shm_6 f0
  have nf0 : fc_1 PRD (23, [0, 1], [0, 1, -1]) ws (vs) := by
    refine ⟨nf_in hl rfl, sgq_7 ?_⟩
    · show 1 * v_iv (n_v vs 0) + ((-1) * v_iv (n_v vs 1) + 0) ≤ 0
      omega
  have nf1 : fc_1 PRD (23, [1, 1], [0, 1, -1]) ws (vs) := by
    refine ⟨nf_in hl rfl, sgq_8 ?_⟩
    · show 1 * v_iv (n_v vs 1) + ((-1) * v_iv (n_v vs 1) + 0) ≤ 0
      omega
  refine ⟨(fun _ h => (by cases h)), [], trivial, ?_, (fun _ h => (by cases h))⟩
  rw [List.append_nil]
  exact List.forall_mem_cons.mpr ⟨⟨show (23 : Nat) < 100 from by decide, nf0⟩, List.forall_mem_cons.mpr ⟨⟨show (23 : Nat) < 100 from by decide, nf1⟩, (fun _ h => (by cases h))⟩⟩
def o_jMath_max1_v137_1 : or_T := (10, 2, [(0, (0, 0, 3, [])), (1, (0, 0, 0, []))], [(7, [0, 1], [3])], [], [], [(23, [0, 0], [0, 1, -1]), (23, [1, 0], [0, 1, -1])], [], [])
theorem oo_jMath_max1_v137_1 {kA : Nat → ClassId} : or_ok PRD kA GG o_jMath_max1_v137_1 := by
  refine or_mk fun A ta ws vs hD hth hl => ?_
  intro t0 k0 t1 k1 f0
  replace f0 := shm_2 f0
  have nf0 : fc_1 PRD (23, [0, 0], [0, 1, -1]) ws (vs) := by
    refine ⟨nf_in hl rfl, sgq_8 ?_⟩
    · show 1 * v_iv (n_v vs 0) + ((-1) * v_iv (n_v vs 0) + 0) ≤ 0
      omega
  have nf1 : fc_1 PRD (23, [1, 0], [0, 1, -1]) ws (vs) := by
    refine ⟨nf_in hl rfl, sgq_7 ?_⟩
    · show 1 * v_iv (n_v vs 1) + ((-1) * v_iv (n_v vs 0) + 0) ≤ 0
      omega
  refine ⟨(fun _ h => (by cases h)), [], trivial, ?_, (fun _ h => (by cases h))⟩
  rw [List.append_nil]
  exact List.forall_mem_cons.mpr ⟨⟨show (23 : Nat) < 100 from by decide, nf0⟩, List.forall_mem_cons.mpr ⟨⟨show (23 : Nat) < 100 from by decide, nf1⟩, (fun _ h => (by cases h))⟩⟩
def n_jMath_max1_v137_an : List an_T := []
def t_jMath_max1_v137_ct : ct_L := []
set_option maxRecDepth 100000 in
theorem c_jMath_max1_v137 {l : Launch} {D : va_G} {kA : Nat → ClassId} : ct_ok PRD l D kA GG y_jMath_max1 z_jMath_max1 e_jMath_max1_v137 := chk_all_ok (FT := []) (PT := []) (CT := t_jMath_max1_v137_ct) (KT := []) (NT := []) (AN := n_jMath_max1_v137_an) (OT := [o_jMath_max1_v137_0, o_jMath_max1_v137_1]) 0 200 (List.forall_mem_cons.mpr ⟨oo_jMath_max1_v137_0, List.forall_mem_cons.mpr ⟨oo_jMath_max1_v137_1, List.forall_mem_nil _⟩⟩) (pl_Math rfl (by decide)) ⟨List.forall_mem_nil _, List.forall_mem_nil _, List.forall_mem_nil _, List.forall_mem_nil _, List.forall_mem_nil _, GG_pl⟩ (by decide +kernel)
def e_jMath_max1_v138 : en_T := ([(0, -1, 4, []), (0, 0, 0, [])], some (0, 0, 4, []), true, 1, 0, 0, [], [], (0, [], [], [(23, [0, 2], [0, 1, -1]), (23, [1, 2], [0, 1, -1])], []))
def o_jMath_max1_v138_0 : or_T := (10, 2, [(0, (0, -1, -1, [])), (1, (0, 0, 0, []))], [(7, [0, 1], [2])], [], [], [(23, [0, 1], [0, 1, -1]), (23, [1, 1], [0, 1, -1])], [], [])
theorem oo_jMath_max1_v138_0 {kA : Nat → ClassId} : or_ok PRD kA GG o_jMath_max1_v138_0 := by
  refine or_mk fun A ta ws vs hD hth hl => ?_
  intro t0 k0 t1 k1 f0
  replace f0 := shm_6 f0
  have nf0 : fc_1 PRD (23, [0, 1], [0, 1, -1]) ws (vs) := by
    refine ⟨nf_in hl rfl, sgq_7 ?_⟩
    · show 1 * v_iv (n_v vs 0) + ((-1) * v_iv (n_v vs 1) + 0) ≤ 0
      omega
  have nf1 : fc_1 PRD (23, [1, 1], [0, 1, -1]) ws (vs) := by
    refine ⟨nf_in hl rfl, sgq_8 ?_⟩
    · show 1 * v_iv (n_v vs 1) + ((-1) * v_iv (n_v vs 1) + 0) ≤ 0
      omega
  refine ⟨(fun _ h => (by cases h)), [], trivial, ?_, (fun _ h => (by cases h))⟩
  rw [List.append_nil]
  exact List.forall_mem_cons.mpr ⟨⟨show (23 : Nat) < 100 from by decide, nf0⟩, List.forall_mem_cons.mpr ⟨⟨show (23 : Nat) < 100 from by decide, nf1⟩, (fun _ h => (by cases h))⟩⟩
def o_jMath_max1_v138_1 : or_T := (10, 2, [(0, (0, 0, 4, [])), (1, (0, 0, 0, []))], [(7, [0, 1], [3])], [], [], [(23, [0, 0], [0, 1, -1]), (23, [1, 0], [0, 1, -1])], [], [])
theorem oo_jMath_max1_v138_1 {kA : Nat → ClassId} : or_ok PRD kA GG o_jMath_max1_v138_1 := by
  refine or_mk fun A ta ws vs hD hth hl => ?_
  intro t0 k0 t1 k1 f0
  replace f0 := shm_2 f0
  have nf0 : fc_1 PRD (23, [0, 0], [0, 1, -1]) ws (vs) := by
    refine ⟨nf_in hl rfl, sgq_8 ?_⟩
    · show 1 * v_iv (n_v vs 0) + ((-1) * v_iv (n_v vs 0) + 0) ≤ 0
      omega
  have nf1 : fc_1 PRD (23, [1, 0], [0, 1, -1]) ws (vs) := by
    refine ⟨nf_in hl rfl, sgq_7 ?_⟩
    · show 1 * v_iv (n_v vs 1) + ((-1) * v_iv (n_v vs 0) + 0) ≤ 0
      omega
  refine ⟨(fun _ h => (by cases h)), [], trivial, ?_, (fun _ h => (by cases h))⟩
  rw [List.append_nil]
  exact List.forall_mem_cons.mpr ⟨⟨show (23 : Nat) < 100 from by decide, nf0⟩, List.forall_mem_cons.mpr ⟨⟨show (23 : Nat) < 100 from by decide, nf1⟩, (fun _ h => (by cases h))⟩⟩
def n_jMath_max1_v138_an : List an_T := []
def t_jMath_max1_v138_ct : ct_L := []
set_option maxRecDepth 100000 in
theorem c_jMath_max1_v138 {l : Launch} {D : va_G} {kA : Nat → ClassId} : ct_ok PRD l D kA GG y_jMath_max1 z_jMath_max1 e_jMath_max1_v138 := chk_all_ok (FT := []) (PT := []) (CT := t_jMath_max1_v138_ct) (KT := []) (NT := []) (AN := n_jMath_max1_v138_an) (OT := [o_jMath_max1_v138_0, o_jMath_max1_v138_1]) 0 200 (List.forall_mem_cons.mpr ⟨oo_jMath_max1_v138_0, List.forall_mem_cons.mpr ⟨oo_jMath_max1_v138_1, List.forall_mem_nil _⟩⟩) (pl_Math rfl (by decide)) ⟨List.forall_mem_nil _, List.forall_mem_nil _, List.forall_mem_nil _, List.forall_mem_nil _, List.forall_mem_nil _, GG_pl⟩ (by decide +kernel)
def e_jMath_max1_v139 : en_T := ([(0, -1, 7, []), (0, 0, 0, [])], some (0, 0, 7, []), true, 1, 0, 0, [], [], (0, [], [], [(23, [0, 2], [0, 1, -1]), (23, [1, 2], [0, 1, -1])], []))
def o_jMath_max1_v139_0 : or_T := (10, 2, [(0, (0, -1, -1, [])), (1, (0, 0, 0, []))], [(7, [0, 1], [2])], [], [], [(23, [0, 1], [0, 1, -1]), (23, [1, 1], [0, 1, -1])], [], [])
theorem oo_jMath_max1_v139_0 {kA : Nat → ClassId} : or_ok PRD kA GG o_jMath_max1_v139_0 := by
  refine or_mk fun A ta ws vs hD hth hl => ?_
  intro t0 k0 t1 k1 f0
  replace f0 := shm_6 f0
  have nf0 : fc_1 PRD (23, [0, 1], [0, 1, -1]) ws (vs) := by
    refine ⟨nf_in hl rfl, sgq_7 ?_⟩
    · show 1 * v_iv (n_v vs 0) + ((-1) * v_iv (n_v vs 1) + 0) ≤ 0
      omega
  have nf1 : fc_1 PRD (23, [1, 1], [0, 1, -1]) ws (vs) := by
    refine ⟨nf_in hl rfl, sgq_8 ?_⟩
    · show 1 * v_iv (n_v vs 1) + ((-1) * v_iv (n_v vs 1) + 0) ≤ 0
      omega
  refine ⟨(fun _ h => (by cases h)), [], trivial, ?_, (fun _ h => (by cases h))⟩
  rw [List.append_nil]
  exact List.forall_mem_cons.mpr ⟨⟨show (23 : Nat) < 100 from by decide, nf0⟩, List.forall_mem_cons.mpr ⟨⟨show (23 : Nat) < 100 from by decide, nf1⟩, (fun _ h => (by cases h))⟩⟩
def o_jMath_max1_v139_1 : or_T := (10, 2, [(0, (0, 0, 7, [])), (1, (0, 0, 0, []))], [(7, [0, 1], [3])], [], [], [(23, [0, 0], [0, 1, -1]), (23, [1, 0], [0, 1, -1])], [], [])
theorem oo_jMath_max1_v139_1 {kA : Nat → ClassId} : or_ok PRD kA GG o_jMath_max1_v139_1 := by
  refine or_mk fun A ta ws vs hD hth hl => ?_
  intro t0 k0 t1 k1 f0
  replace f0 := shm_2 f0
  have nf0 : fc_1 PRD (23, [0, 0], [0, 1, -1]) ws (vs) := by
    refine ⟨nf_in hl rfl, sgq_8 ?_⟩
    · show 1 * v_iv (n_v vs 0) + ((-1) * v_iv (n_v vs 0) + 0) ≤ 0
      omega
  have nf1 : fc_1 PRD (23, [1, 0], [0, 1, -1]) ws (vs) := by
    refine ⟨nf_in hl rfl, sgq_7 ?_⟩
    · show 1 * v_iv (n_v vs 1) + ((-1) * v_iv (n_v vs 0) + 0) ≤ 0
      omega
  refine ⟨(fun _ h => (by cases h)), [], trivial, ?_, (fun _ h => (by cases h))⟩
  rw [List.append_nil]
  exact List.forall_mem_cons.mpr ⟨⟨show (23 : Nat) < 100 from by decide, nf0⟩, List.forall_mem_cons.mpr ⟨⟨show (23 : Nat) < 100 from by decide, nf1⟩, (fun _ h => (by cases h))⟩⟩
def n_jMath_max1_v139_an : List an_T := []
def t_jMath_max1_v139_ct : ct_L := []
set_option maxRecDepth 100000 in
theorem c_jMath_max1_v139 {l : Launch} {D : va_G} {kA : Nat → ClassId} : ct_ok PRD l D kA GG y_jMath_max1 z_jMath_max1 e_jMath_max1_v139 := chk_all_ok (FT := []) (PT := []) (CT := t_jMath_max1_v139_ct) (KT := []) (NT := []) (AN := n_jMath_max1_v139_an) (OT := [o_jMath_max1_v139_0, o_jMath_max1_v139_1]) 0 200 (List.forall_mem_cons.mpr ⟨oo_jMath_max1_v139_0, List.forall_mem_cons.mpr ⟨oo_jMath_max1_v139_1, List.forall_mem_nil _⟩⟩) (pl_Math rfl (by decide)) ⟨List.forall_mem_nil _, List.forall_mem_nil _, List.forall_mem_nil _, List.forall_mem_nil _, List.forall_mem_nil _, GG_pl⟩ (by decide +kernel)
def e_jMath_max1_v140 : en_T := ([(0, -1, 8, []), (0, 0, 0, [])], some (0, 0, 8, []), true, 1, 0, 0, [], [], (0, [], [], [(23, [0, 2], [0, 1, -1]), (23, [1, 2], [0, 1, -1])], []))
def o_jMath_max1_v140_0 : or_T := (10, 2, [(0, (0, -1, -1, [])), (1, (0, 0, 0, []))], [(7, [0, 1], [2])], [], [], [(23, [0, 1], [0, 1, -1]), (23, [1, 1], [0, 1, -1])], [], [])
theorem oo_jMath_max1_v140_0 {kA : Nat → ClassId} : or_ok PRD kA GG o_jMath_max1_v140_0 := by
  refine or_mk fun A ta ws vs hD hth hl => ?_
  intro t0 k0 t1 k1 f0
  replace f0 := shm_6 f0
  have nf0 : fc_1 PRD (23, [0, 1], [0, 1, -1]) ws (vs) := by
    refine ⟨nf_in hl rfl, sgq_7 ?_⟩
    · show 1 * v_iv (n_v vs 0) + ((-1) * v_iv (n_v vs 1) + 0) ≤ 0
      omega
  have nf1 : fc_1 PRD (23, [1, 1], [0, 1, -1]) ws (vs) := by
    refine ⟨nf_in hl rfl, sgq_8 ?_⟩
    · show 1 * v_iv (n_v vs 1) + ((-1) * v_iv (n_v vs 1) + 0) ≤ 0
      omega
  refine ⟨(fun _ h => (by cases h)), [], trivial, ?_, (fun _ h => (by cases h))⟩
  rw [List.append_nil]
  exact List.forall_mem_cons.mpr ⟨⟨show (23 : Nat) < 100 from by decide, nf0⟩, List.forall_mem_cons.mpr ⟨⟨show (23 : Nat) < 100 from by decide, nf1⟩, (fun _ h => (by cases h))⟩⟩
def o_jMath_max1_v140_1 : or_T := (10, 2, [(0, (0, 0, 8, [])), (1, (0, 0, 0, []))], [(7, [0, 1], [3])], [], [], [(23, [0, 0], [0, 1, -1]), (23, [1, 0], [0, 1, -1])], [], [])
theorem oo_jMath_max1_v140_1 {kA : Nat → ClassId} : or_ok PRD kA GG o_jMath_max1_v140_1 := by
  refine or_mk fun A ta ws vs hD hth hl => ?_
  intro t0 k0 t1 k1 f0
  replace f0 := shm_2 f0
  have nf0 : fc_1 PRD (23, [0, 0], [0, 1, -1]) ws (vs) := by
    refine ⟨nf_in hl rfl, sgq_8 ?_⟩
    · show 1 * v_iv (n_v vs 0) + ((-1) * v_iv (n_v vs 0) + 0) ≤ 0
      omega
  have nf1 : fc_1 PRD (23, [1, 0], [0, 1, -1]) ws (vs) := by
    refine ⟨nf_in hl rfl, sgq_7 ?_⟩
    · show 1 * v_iv (n_v vs 1) + ((-1) * v_iv (n_v vs 0) + 0) ≤ 0
      omega
  refine ⟨(fun _ h => (by cases h)), [], trivial, ?_, (fun _ h => (by cases h))⟩
  rw [List.append_nil]
  exact List.forall_mem_cons.mpr ⟨⟨show (23 : Nat) < 100 from by decide, nf0⟩, List.forall_mem_cons.mpr ⟨⟨show (23 : Nat) < 100 from by decide, nf1⟩, (fun _ h => (by cases h))⟩⟩
def n_jMath_max1_v140_an : List an_T := []
def t_jMath_max1_v140_ct : ct_L := []
set_option maxRecDepth 100000 in
theorem c_jMath_max1_v140 {l : Launch} {D : va_G} {kA : Nat → ClassId} : ct_ok PRD l D kA GG y_jMath_max1 z_jMath_max1 e_jMath_max1_v140 := chk_all_ok (FT := []) (PT := []) (CT := t_jMath_max1_v140_ct) (KT := []) (NT := []) (AN := n_jMath_max1_v140_an) (OT := [o_jMath_max1_v140_0, o_jMath_max1_v140_1]) 0 200 (List.forall_mem_cons.mpr ⟨oo_jMath_max1_v140_0, List.forall_mem_cons.mpr ⟨oo_jMath_max1_v140_1, List.forall_mem_nil _⟩⟩) (pl_Math rfl (by decide)) ⟨List.forall_mem_nil _, List.forall_mem_nil _, List.forall_mem_nil _, List.forall_mem_nil _, List.forall_mem_nil _, GG_pl⟩ (by decide +kernel)
def e_jMath_max1_v141 : en_T := ([(0, -1, 15, []), (0, 0, 0, [])], some (0, 0, 15, []), true, 1, 0, 0, [], [], (0, [], [], [(23, [0, 2], [0, 1, -1]), (23, [1, 2], [0, 1, -1])], []))
def o_jMath_max1_v141_0 : or_T := (10, 2, [(0, (0, -1, -1, [])), (1, (0, 0, 0, []))], [(7, [0, 1], [2])], [], [], [(23, [0, 1], [0, 1, -1]), (23, [1, 1], [0, 1, -1])], [], [])
theorem oo_jMath_max1_v141_0 {kA : Nat → ClassId} : or_ok PRD kA GG o_jMath_max1_v141_0 := by
  refine or_mk fun A ta ws vs hD hth hl => ?_
  intro t0 k0 t1 k1 f0
  replace f0 := shm_6 f0
  have nf0 : fc_1 PRD (23, [0, 1], [0, 1, -1]) ws (vs) := by
    refine ⟨nf_in hl rfl, sgq_7 ?_⟩
    · show 1 * v_iv (n_v vs 0) + ((-1) * v_iv (n_v vs 1) + 0) ≤ 0
      omega
  have nf1 : fc_1 PRD (23, [1, 1], [0, 1, -1]) ws (vs) := by
    refine ⟨nf_in hl rfl, sgq_8 ?_⟩
    · show 1 * v_iv (n_v vs 1) + ((-1) * v_iv (n_v vs 1) + 0) ≤ 0
      omega
  refine ⟨(fun _ h => (by cases h)), [], trivial, ?_, (fun _ h => (by cases h))⟩
  rw [List.append_nil]
  exact List.forall_mem_cons.mpr ⟨⟨show (23 : Nat) < 100 from by decide, nf0⟩, List.forall_mem_cons.mpr ⟨⟨show (23 : Nat) < 100 from by decide, nf1⟩, (fun _ h => (by cases h))⟩⟩
def o_jMath_max1_v141_1 : or_T := (10, 2, [(0, (0, 0, 15, [])), (1, (0, 0, 0, []))], [(7, [0, 1], [3])], [], [], [(23, [0, 0], [0, 1, -1]), (23, [1, 0], [0, 1, -1])], [], [])
theorem oo_jMath_max1_v141_1 {kA : Nat → ClassId} : or_ok PRD kA GG o_jMath_max1_v141_1 := by
  refine or_mk fun A ta ws vs hD hth hl => ?_
  intro t0 k0 t1 k1 f0
  replace f0 := shm_2 f0
  have nf0 : fc_1 PRD (23, [0, 0], [0, 1, -1]) ws (vs) := by
    refine ⟨nf_in hl rfl, sgq_8 ?_⟩
    · show 1 * v_iv (n_v vs 0) + ((-1) * v_iv (n_v vs 0) + 0) ≤ 0
      omega
  have nf1 : fc_1 PRD (23, [1, 0], [0, 1, -1]) ws (vs) := by
    refine ⟨nf_in hl rfl, sgq_7 ?_⟩
    · show 1 * v_iv (n_v vs 1) + ((-1) * v_iv (n_v vs 0) + 0) ≤ 0
      omega
  refine ⟨(fun _ h => (by cases h)), [], trivial, ?_, (fun _ h => (by cases h))⟩
  rw [List.append_nil]
  exact List.forall_mem_cons.mpr ⟨⟨show (23 : Nat) < 100 from by decide, nf0⟩, List.forall_mem_cons.mpr ⟨⟨show (23 : Nat) < 100 from by decide, nf1⟩, (fun _ h => (by cases h))⟩⟩
def n_jMath_max1_v141_an : List an_T := []
def t_jMath_max1_v141_ct : ct_L := []
set_option maxRecDepth 100000 in
theorem c_jMath_max1_v141 {l : Launch} {D : va_G} {kA : Nat → ClassId} : ct_ok PRD l D kA GG y_jMath_max1 z_jMath_max1 e_jMath_max1_v141 := chk_all_ok (FT := []) (PT := []) (CT := t_jMath_max1_v141_ct) (KT := []) (NT := []) (AN := n_jMath_max1_v141_an) (OT := [o_jMath_max1_v141_0, o_jMath_max1_v141_1]) 0 200 (List.forall_mem_cons.mpr ⟨oo_jMath_max1_v141_0, List.forall_mem_cons.mpr ⟨oo_jMath_max1_v141_1, List.forall_mem_nil _⟩⟩) (pl_Math rfl (by decide)) ⟨List.forall_mem_nil _, List.forall_mem_nil _, List.forall_mem_nil _, List.forall_mem_nil _, List.forall_mem_nil _, GG_pl⟩ (by decide +kernel)
def e_jMath_max1_v142 : en_T := ([(0, -1, 16, []), (0, 0, 0, [])], some (0, 0, 16, []), true, 1, 0, 0, [], [], (0, [], [], [(23, [0, 2], [0, 1, -1]), (23, [1, 2], [0, 1, -1])], []))
def o_jMath_max1_v142_0 : or_T := (10, 2, [(0, (0, -1, -1, [])), (1, (0, 0, 0, []))], [(7, [0, 1], [2])], [], [], [(23, [0, 1], [0, 1, -1]), (23, [1, 1], [0, 1, -1])], [], [])
theorem oo_jMath_max1_v142_0 {kA : Nat → ClassId} : or_ok PRD kA GG o_jMath_max1_v142_0 := by
  refine or_mk fun A ta ws vs hD hth hl => ?_
  intro t0 k0 t1 k1 f0
  replace f0 := shm_6 f0
  have nf0 : fc_1 PRD (23, [0, 1], [0, 1, -1]) ws (vs) := by
    refine ⟨nf_in hl rfl, sgq_7 ?_⟩
    · show 1 * v_iv (n_v vs 0) + ((-1) * v_iv (n_v vs 1) + 0) ≤ 0
      omega
  have nf1 : fc_1 PRD (23, [1, 1], [0, 1, -1]) ws (vs) := by
    refine ⟨nf_in hl rfl, sgq_8 ?_⟩
    · show 1 * v_iv (n_v vs 1) + ((-1) * v_iv (n_v vs 1) + 0) ≤ 0
      omega
  refine ⟨(fun _ h => (by cases h)), [], trivial, ?_, (fun _ h => (by cases h))⟩
  rw [List.append_nil]
  exact List.forall_mem_cons.mpr ⟨⟨show (23 : Nat) < 100 from by decide, nf0⟩, List.forall_mem_cons.mpr ⟨⟨show (23 : Nat) < 100 from by decide, nf1⟩, (fun _ h => (by cases h))⟩⟩
def o_jMath_max1_v142_1 : or_T := (10, 2, [(0, (0, 0, 16, [])), (1, (0, 0, 0, []))], [(7, [0, 1], [3])], [], [], [(23, [0, 0], [0, 1, -1]), (23, [1, 0], [0, 1, -1])], [], [])
theorem oo_jMath_max1_v142_1 {kA : Nat → ClassId} : or_ok PRD kA GG o_jMath_max1_v142_1 := by
  refine or_mk fun A ta ws vs hD hth hl => ?_
  intro t0 k0 t1 k1 f0
  replace f0 := shm_2 f0
  have nf0 : fc_1 PRD (23, [0, 0], [0, 1, -1]) ws (vs) := by
    refine ⟨nf_in hl rfl, sgq_8 ?_⟩
    · show 1 * v_iv (n_v vs 0) + ((-1) * v_iv (n_v vs 0) + 0) ≤ 0
      omega
  have nf1 : fc_1 PRD (23, [1, 0], [0, 1, -1]) ws (vs) := by
    refine ⟨nf_in hl rfl, sgq_7 ?_⟩
    · show 1 * v_iv (n_v vs 1) + ((-1) * v_iv (n_v vs 0) + 0) ≤ 0
      omega
  refine ⟨(fun _ h => (by cases h)), [], trivial, ?_, (fun _ h => (by cases h))⟩
  rw [List.append_nil]
  exact List.forall_mem_cons.mpr ⟨⟨show (23 : Nat) < 100 from by decide, nf0⟩, List.forall_mem_cons.mpr ⟨⟨show (23 : Nat) < 100 from by decide, nf1⟩, (fun _ h => (by cases h))⟩⟩
def n_jMath_max1_v142_an : List an_T := []
def t_jMath_max1_v142_ct : ct_L := []
set_option maxRecDepth 100000 in
theorem c_jMath_max1_v142 {l : Launch} {D : va_G} {kA : Nat → ClassId} : ct_ok PRD l D kA GG y_jMath_max1 z_jMath_max1 e_jMath_max1_v142 := chk_all_ok (FT := []) (PT := []) (CT := t_jMath_max1_v142_ct) (KT := []) (NT := []) (AN := n_jMath_max1_v142_an) (OT := [o_jMath_max1_v142_0, o_jMath_max1_v142_1]) 0 200 (List.forall_mem_cons.mpr ⟨oo_jMath_max1_v142_0, List.forall_mem_cons.mpr ⟨oo_jMath_max1_v142_1, List.forall_mem_nil _⟩⟩) (pl_Math rfl (by decide)) ⟨List.forall_mem_nil _, List.forall_mem_nil _, List.forall_mem_nil _, List.forall_mem_nil _, List.forall_mem_nil _, GG_pl⟩ (by decide +kernel)
def e_jMath_max1_v143 : en_T := ([(0, -1, 23, []), (0, 0, 0, [])], some (0, 0, 23, []), true, 1, 0, 0, [], [], (0, [], [], [(23, [0, 2], [0, 1, -1]), (23, [1, 2], [0, 1, -1]), (20, [2, 0, 1], [50, 0, 0, 3, 6, 1, 2, 1, 0, 1, 1, 1, 2, 1, 0, 1, 2])], []))
set_option maxHeartbeats 4000000 in
theorem vc_jMath_max1_v143_0_0 (x0 : Int) (x1 : Int) (k0 : (-1) ≤ x0 ∧ x0 ≤ (-1)) (k1 : 0 ≤ x1 ∧ x1 ≤ 0) (f0 : x0 < x1) : 1 * x0 + ((-1) * x1 + 0) ≤ 0 := by
  first | assumption | omega | grind
set_option maxHeartbeats 4000000 in
theorem vc_jMath_max1_v143_0_1 (x0 : Int) (x1 : Int) (k0 : (-1) ≤ x0 ∧ x0 ≤ (-1)) (k1 : 0 ≤ x1 ∧ x1 ≤ 0) (f0 : x0 < x1) : 1 * x1 + ((-1) * x1 + 0) ≤ 0 := by
  first | assumption | omega | grind
set_option maxHeartbeats 4000000 in
theorem vc_jMath_max1_v143_0_2 (x0 : Int) (x1 : Int) (k0 : (-1) ≤ x0 ∧ x0 ≤ (-1)) (k1 : 0 ≤ x1 ∧ x1 ≤ 0) (f0 : x0 < x1) : (x1 = x0) ∨ (x1 = x1) := by
  first | assumption | omega | grind
def o_jMath_max1_v143_0 : or_T := (10, 2, [(0, (0, -1, -1, [])), (1, (0, 0, 0, []))], [(7, [0, 1], [2])], [], [], [(23, [0, 1], [0, 1, -1]), (23, [1, 1], [0, 1, -1]), (20, [1, 0, 1], [50, 0, 0, 3, 6, 1, 2, 1, 0, 1, 1, 1, 2, 1, 0, 1, 2])], [], [])
theorem oo_jMath_max1_v143_0 {kA : Nat → ClassId} : or_ok PRD kA GG o_jMath_max1_v143_0 := by
  refine or_mk fun A ta ws vs hD hth hl => ?_
  intro t0 k0 t1 k1 f0
  have nf0 : fc_1 PRD (23, [0, 1], [0, 1, -1]) ws (vs) := ⟨nf_in hl rfl, sgq_7 (vc_jMath_max1_v143_0_0 (v_iv (n_v vs 0)) (v_iv (n_v vs 1)) k0 k1 (shm_6 f0))⟩
  have nf1 : fc_1 PRD (23, [1, 1], [0, 1, -1]) ws (vs) := ⟨nf_in hl rfl, sgq_8 (vc_jMath_max1_v143_0_1 (v_iv (n_v vs 0)) (v_iv (n_v vs 1)) k0 k1 (shm_6 f0))⟩
  have nf2 : fc_1 PRD (20, [1, 0, 1], [50, 0, 0, 3, 6, 1, 2, 1, 0, 1, 1, 1, 2, 1, 0, 1, 2]) ws (vs) := ⟨nf_in hl rfl, sgq_28 (vc_jMath_max1_v143_0_2 (v_iv (n_v vs 0)) (v_iv (n_v vs 1)) k0 k1 (shm_6 f0))⟩
  refine ⟨(fun _ h => (by cases h)), [], trivial, ?_, (fun _ h => (by cases h))⟩
  rw [List.append_nil]
  exact List.forall_mem_cons.mpr ⟨⟨show (23 : Nat) < 100 from by decide, nf0⟩, List.forall_mem_cons.mpr ⟨⟨show (23 : Nat) < 100 from by decide, nf1⟩, List.forall_mem_cons.mpr ⟨⟨show (20 : Nat) < 100 from by decide, nf2⟩, (fun _ h => (by cases h))⟩⟩⟩
set_option maxHeartbeats 4000000 in
theorem vc_jMath_max1_v143_1_0 (x0 : Int) (x1 : Int) (k0 : 0 ≤ x0 ∧ x0 ≤ 23) (k1 : 0 ≤ x1 ∧ x1 ≤ 0) (f0 : x1 ≤ x0) : 1 * x0 + ((-1) * x0 + 0) ≤ 0 := by
  first | assumption | omega | grind
set_option maxHeartbeats 4000000 in
theorem vc_jMath_max1_v143_1_1 (x0 : Int) (x1 : Int) (k0 : 0 ≤ x0 ∧ x0 ≤ 23) (k1 : 0 ≤ x1 ∧ x1 ≤ 0) (f0 : x1 ≤ x0) : 1 * x1 + ((-1) * x0 + 0) ≤ 0 := by
  first | assumption | omega | grind
set_option maxHeartbeats 4000000 in
theorem vc_jMath_max1_v143_1_2 (x0 : Int) (x1 : Int) (k0 : 0 ≤ x0 ∧ x0 ≤ 23) (k1 : 0 ≤ x1 ∧ x1 ≤ 0) (f0 : x1 ≤ x0) : (x0 = x0) ∨ (x0 = x1) := by
  first | assumption | omega | grind
def o_jMath_max1_v143_1 : or_T := (10, 2, [(0, (0, 0, 23, [])), (1, (0, 0, 0, []))], [(7, [0, 1], [3])], [], [], [(23, [0, 0], [0, 1, -1]), (23, [1, 0], [0, 1, -1]), (20, [0, 0, 1], [50, 0, 0, 3, 6, 1, 2, 1, 0, 1, 1, 1, 2, 1, 0, 1, 2])], [], [])
theorem oo_jMath_max1_v143_1 {kA : Nat → ClassId} : or_ok PRD kA GG o_jMath_max1_v143_1 := by
  refine or_mk fun A ta ws vs hD hth hl => ?_
  intro t0 k0 t1 k1 f0
  have nf0 : fc_1 PRD (23, [0, 0], [0, 1, -1]) ws (vs) := ⟨nf_in hl rfl, sgq_8 (vc_jMath_max1_v143_1_0 (v_iv (n_v vs 0)) (v_iv (n_v vs 1)) k0 k1 (shm_2 f0))⟩
  have nf1 : fc_1 PRD (23, [1, 0], [0, 1, -1]) ws (vs) := ⟨nf_in hl rfl, sgq_7 (vc_jMath_max1_v143_1_1 (v_iv (n_v vs 0)) (v_iv (n_v vs 1)) k0 k1 (shm_2 f0))⟩
  have nf2 : fc_1 PRD (20, [0, 0, 1], [50, 0, 0, 3, 6, 1, 2, 1, 0, 1, 1, 1, 2, 1, 0, 1, 2]) ws (vs) := ⟨nf_in hl rfl, sgq_29 (vc_jMath_max1_v143_1_2 (v_iv (n_v vs 0)) (v_iv (n_v vs 1)) k0 k1 (shm_2 f0))⟩
  refine ⟨(fun _ h => (by cases h)), [], trivial, ?_, (fun _ h => (by cases h))⟩
  rw [List.append_nil]
  exact List.forall_mem_cons.mpr ⟨⟨show (23 : Nat) < 100 from by decide, nf0⟩, List.forall_mem_cons.mpr ⟨⟨show (23 : Nat) < 100 from by decide, nf1⟩, List.forall_mem_cons.mpr ⟨⟨show (20 : Nat) < 100 from by decide, nf2⟩, (fun _ h => (by cases h))⟩⟩⟩
def n_jMath_max1_v143_an : List an_T := []
def t_jMath_max1_v143_ct : ct_L := []
set_option maxRecDepth 100000 in
theorem c_jMath_max1_v143 {l : Launch} {D : va_G} {kA : Nat → ClassId} : ct_ok PRD l D kA GG y_jMath_max1 z_jMath_max1 e_jMath_max1_v143 := chk_all_ok (FT := []) (PT := []) (CT := t_jMath_max1_v143_ct) (KT := []) (NT := []) (AN := n_jMath_max1_v143_an) (OT := [o_jMath_max1_v143_0, o_jMath_max1_v143_1]) 0 200 (List.forall_mem_cons.mpr ⟨oo_jMath_max1_v143_0, List.forall_mem_cons.mpr ⟨oo_jMath_max1_v143_1, List.forall_mem_nil _⟩⟩) (pl_Math rfl (by decide)) ⟨List.forall_mem_nil _, List.forall_mem_nil _, List.forall_mem_nil _, List.forall_mem_nil _, List.forall_mem_nil _, GG_pl⟩ (by decide +kernel)
def e_jMath_abs2_v144 : en_T := ([(1, -600000000, 600000000, [])], some (1, 0, 600000000, []), true, 1, 0, 0, [], [], (0, [], [], [], []))
def n_jMath_abs2_v144_an : List an_T := []
def t_jMath_abs2_v144_ct : ct_L := []
set_option maxRecDepth 100000 in
theorem c_jMath_abs2_v144 {l : Launch} {D : va_G} {kA : Nat → ClassId} : ct_ok PRD l D kA GG y_jMath_abs2 z_jMath_abs2 e_jMath_abs2_v144 := chk_all_ok (FT := []) (PT := []) (CT := t_jMath_abs2_v144_ct) (KT := []) (NT := []) (AN := n_jMath_abs2_v144_an) (OT := []) 0 200 (List.forall_mem_nil _) (pl_Math rfl (by decide)) ⟨List.forall_mem_nil _, List.forall_mem_nil _, List.forall_mem_nil _, List.forall_mem_nil _, List.forall_mem_nil _, GG_pl⟩ (by decide +kernel)
def e_jArr_fill1_v145 : en_T := ([(2, 0, 0, [295]), (0, -1, -1, [])], none, false, 1, 0, 0, [], [], (63657374260452690195888927762793067532858387302060507832379389042324415617604272068231168, [], [], [(20, [0, 1], [8, -1, -1, 25])], []))
def o_jArr_fill1_v145_0 : or_T := (5, 4, [(2, (0, 0, 0, []))], [], [], [], [(20, [0, 2], [8, -1, -1, 0])], [], [])
theorem oo_jArr_fill1_v145_0 {kA : Nat → ClassId} : or_ok PRD kA GG o_jArr_fill1_v145_0 := by
  refine or_mk fun A ta ws vs hD hth hl => ?_
  intro t2 k2
  have nf0 : fc_1 PRD (20, [0, 2], [8, -1, -1, 0]) ws (vs) := by
    refine ⟨nf_in hl rfl, sgq_16 ?_⟩
    · show ∀ j : Nat, (j : Int) < v_iv (n_v vs 2) + 0 → (-1) ≤ w_el ws (v_ad (n_v vs 0)) j ∧ w_el ws (v_ad (n_v vs 0)) j ≤ (-1)
      intro j hj
      exfalso; omega
  refine ⟨(fun _ h => (by cases h)), [], trivial, ?_, (fun _ h => (by cases h))⟩
  rw [List.append_nil]
  exact List.forall_mem_cons.mpr ⟨⟨show (20 : Nat) < 100 from by decide, nf0⟩, (fun _ h => (by cases h))⟩
def o_jArr_fill1_v145_1 : or_T := (5, 4, [], [], [], [], [(24, [0, 0], [])], [], [])
theorem oo_jArr_fill1_v145_1 {kA : Nat → ClassId} : or_ok PRD kA GG o_jArr_fill1_v145_1 := by
  refine or_mk fun A ta ws vs hD hth hl => ?_
  have nf0 : fc_1 PRD (24, [0, 0], []) ws (vs) := by
    refine ⟨nf_in hl rfl, sgq_1 ?_⟩
    · show n_v vs 0 = n_v vs 0
      first | rfl | simp only [true_and]
  refine ⟨(fun _ h => (by cases h)), [], trivial, ?_, (fun _ h => (by cases h))⟩
  rw [List.append_nil]
  exact List.forall_mem_cons.mpr ⟨⟨show (24 : Nat) < 100 from by decide, nf0⟩, (fun _ h => (by cases h))⟩
def o_jArr_fill1_v145_2 : or_T := (20, 6, [(1, (0, -1, -1, [])), (4, (0, 24, 24, [])), (5, (0, 24, 24, []))], [(7, [4, 5], [3]), (20, [0, 4], [8, -1, -1, 0])], [], [], [(20, [0, 1], [8, -1, -1, 25])], [], [])
theorem oo_jArr_fill1_v145_2 {kA : Nat → ClassId} : or_ok PRD kA GG o_jArr_fill1_v145_2 := by
  refine or_mk fun A ta ws vs hD hth hl => ?_
  intro t1 k1 t4 k4 t5 k5 f0 f1
  replace f0 := shm_2 f0
  replace f1 := shm_16 f1
  have nf0 : fc_1 PRD (20, [0, 1], [8, -1, -1, 25]) ws (vs) := by
    refine ⟨nf_in hl rfl, sgq_17 ?_⟩
    · show ∀ j : Nat, (j : Int) < v_iv (n_v vs 1) + 25 → (-1) ≤ w_el ws (v_ad (n_v vs 0)) j ∧ w_el ws (v_ad (n_v vs 0)) j ≤ (-1)
      intro j hj
      exact f1 j (by omega)
  refine ⟨(fun _ h => (by cases h)), [], trivial, ?_, (fun _ h => (by cases h))⟩
  rw [List.append_nil]
  exact List.forall_mem_cons.mpr ⟨⟨show (20 : Nat) < 100 from by decide, nf0⟩, (fun _ h => (by cases h))⟩
def o_jArr_fill1_v145_3 : or_T := (5, 7, [(3, (0, -1, -1, [])), (4, (0, 0, 23, [])), (5, (0, 24, 24, [])), (6, (0, 1, 24, []))], [(6, [6, 4], [1]), (24, [0, 2], []), (100, [2, 4, 3], []), (7, [4, 5], [2]), (20, [0, 4], [8, -1, -1, 0])], [], [], [(20, [0, 6], [8, -1, -1, 0])], [], [(6, 4, 1, 1)])
theorem oo_jArr_fill1_v145_3 {kA : Nat → ClassId} : or_ok PRD kA GG o_jArr_fill1_v145_3 := by
  refine or_mk fun A ta ws vs hD hth hl => ?_
  intro t3 k3 t4 k4 t5 k5 t6 k6 d0 f0 f1 ta1 w1 le1 s1 f3 f4
  replace f0 := shm_4 f0
  replace f1 := shm_5 f1
  have s1 : (∀ b j, w_el ws b j = if b = v_ad (n_v vs 2) ∧ j = (v_iv (n_v vs 4)).toNat then v_iv (n_v vs 3) else w_el w1 b j) ∧ ∀ b k, w_fd ws b k = w_fd w1 b k := s1.2
  replace f3 := shm_6 f3
  replace f4 := shm_16 f4
  rw [← f1] at s1
  have nf0 : fc_1 PRD (20, [0, 6], [8, -1, -1, 0]) ws (vs) := by
    refine ⟨nf_in hl rfl, sgq_16 ?_⟩
    · show ∀ j : Nat, (j : Int) < v_iv (n_v vs 6) + 0 → (-1) ≤ w_el ws (v_ad (n_v vs 0)) j ∧ w_el ws (v_ad (n_v vs 0)) j ≤ (-1)
      intro j hj
      by_cases hji : j = (v_iv (n_v vs 4)).toNat
      · rw [s1.1, if_pos ⟨rfl, hji⟩]; first | (constructor <;> omega) | (exfalso; omega)
      · rw [s1.1, if_neg (fun e => hji e.2)]; exact f4 j (by omega)
  refine ⟨(fun _ h => (by cases h)), [], trivial, ?_, (fun _ h => (by cases h))⟩
  rw [List.append_nil]
  exact List.forall_mem_cons.mpr ⟨⟨show (20 : Nat) < 100 from by decide, nf0⟩, (fun _ h => (by cases h))⟩
def n_jArr_fill1_v145_an : List an_T := [(5, [(0, (2, 0, 0, [295])), (1, (0, -1, -1, [])), (2, (0, 0, 24, [])), (3, (0, 24, 24, []))], [], (0, 0), [(0, 0, 99995), (1, 4, 24), (0, 0, 100000)], [], [], [(2, 0, 0, [295]), (0, -1, -1, [])], 0, [], [(20, [0, 4], [8, -1, -1, 0]), (24, [0, 2], [])])]
def t_jArr_fill1_v145_ct : ct_L := []
set_option maxRecDepth 100000 in
theorem c_jArr_fill1_v145 {l : Launch} {D : va_G} {kA : Nat → ClassId} : ct_ok PRD l D kA GG y_jArr_fill1 z_jArr_fill1 e_jArr_fill1_v145 := chk_all_ok (FT := []) (PT := []) (CT := t_jArr_fill1_v145_ct) (KT := []) (NT := []) (AN := n_jArr_fill1_v145_an) (OT := [o_jArr_fill1_v145_0, o_jArr_fill1_v145_1, o_jArr_fill1_v145_2, o_jArr_fill1_v145_3]) 3 200 (List.forall_mem_cons.mpr ⟨oo_jArr_fill1_v145_0, List.forall_mem_cons.mpr ⟨oo_jArr_fill1_v145_1, List.forall_mem_cons.mpr ⟨oo_jArr_fill1_v145_2, List.forall_mem_cons.mpr ⟨oo_jArr_fill1_v145_3, List.forall_mem_nil _⟩⟩⟩⟩) (by decide +kernel) ⟨List.forall_mem_nil _, List.forall_mem_nil _, List.forall_mem_nil _, List.forall_mem_nil _, List.forall_mem_nil _, GG_pl⟩ (by decide +kernel)
def e_jMath_min1_v146 : en_T := ([(0, -176, 79, []), (0, 1000000, 1000000, [])], some (0, -176, 79, []), true, 1, 0, 0, [], [], (0, [], [], [(23, [0, 2], [0, -1, 1]), (23, [1, 2], [0, -1, 1]), (20, [2, 0, 1], [50, 0, 0, 3, 6, 1, 2, 1, 0, 1, 1, 1, 2, 1, 0, 1, 2])], []))
set_option maxHeartbeats 4000000 in
theorem vc_jMath_min1_v146_0_0 (x0 : Int) (x1 : Int) (k0 : (-176) ≤ x0 ∧ x0 ≤ 79) (k1 : 1000000 ≤ x1 ∧ x1 ≤ 1000000) (f0 : x0 ≤ x1) : (-1) * x0 + (1 * x0 + 0) ≤ 0 := by
  first | assumption | omega | grind
set_option maxHeartbeats 4000000 in
theorem vc_jMath_min1_v146_0_1 (x0 : Int) (x1 : Int) (k0 : (-176) ≤ x0 ∧ x0 ≤ 79) (k1 : 1000000 ≤ x1 ∧ x1 ≤ 1000000) (f0 : x0 ≤ x1) : (-1) * x1 + (1 * x0 + 0) ≤ 0 := by
  first | assumption | omega | grind
set_option maxHeartbeats 4000000 in
theorem vc_jMath_min1_v146_0_2 (x0 : Int) (x1 : Int) (k0 : (-176) ≤ x0 ∧ x0 ≤ 79) (k1 : 1000000 ≤ x1 ∧ x1 ≤ 1000000) (f0 : x0 ≤ x1) : (x0 = x0) ∨ (x0 = x1) := by
  first | assumption | omega | grind
def o_jMath_min1_v146_0 : or_T := (10, 2, [(0, (0, -176, 79, [])), (1, (0, 1000000, 1000000, []))], [(7, [0, 1], [5])], [], [], [(23, [0, 0], [0, -1, 1]), (23, [1, 0], [0, -1, 1]), (20, [0, 0, 1], [50, 0, 0, 3, 6, 1, 2, 1, 0, 1, 1, 1, 2, 1, 0, 1, 2])], [], [])
theorem oo_jMath_min1_v146_0 {kA : Nat → ClassId} : or_ok PRD kA GG o_jMath_min1_v146_0 := by
  refine or_mk fun A ta ws vs hD hth hl => ?_
  intro t0 k0 t1 k1 f0
  have nf0 : fc_1 PRD (23, [0, 0], [0, -1, 1]) ws (vs) := ⟨nf_in hl rfl, sgq_23 (vc_jMath_min1_v146_0_0 (v_iv (n_v vs 0)) (v_iv (n_v vs 1)) k0 k1 (shm_24 f0))⟩
  have nf1 : fc_1 PRD (23, [1, 0], [0, -1, 1]) ws (vs) := ⟨nf_in hl rfl, sgq_22 (vc_jMath_min1_v146_0_1 (v_iv (n_v vs 0)) (v_iv (n_v vs 1)) k0 k1 (shm_24 f0))⟩
  have nf2 : fc_1 PRD (20, [0, 0, 1], [50, 0, 0, 3, 6, 1, 2, 1, 0, 1, 1, 1, 2, 1, 0, 1, 2]) ws (vs) := ⟨nf_in hl rfl, sgq_29 (vc_jMath_min1_v146_0_2 (v_iv (n_v vs 0)) (v_iv (n_v vs 1)) k0 k1 (shm_24 f0))⟩
  refine ⟨(fun _ h => (by cases h)), [], trivial, ?_, (fun _ h => (by cases h))⟩
  rw [List.append_nil]
  exact List.forall_mem_cons.mpr ⟨⟨show (23 : Nat) < 100 from by decide, nf0⟩, List.forall_mem_cons.mpr ⟨⟨show (23 : Nat) < 100 from by decide, nf1⟩, List.forall_mem_cons.mpr ⟨⟨show (20 : Nat) < 100 from by decide, nf2⟩, (fun _ h => (by cases h))⟩⟩⟩
def n_jMath_min1_v146_an : List an_T := []
def t_jMath_min1_v146_ct : ct_L := []
set_option maxRecDepth 100000 in
theorem c_jMath_min1_v146 {l : Launch} {D : va_G} {kA : Nat → ClassId} : ct_ok PRD l D kA GG y_jMath_min1 z_jMath_min1 e_jMath_min1_v146 := chk_all_ok (FT := []) (PT := []) (CT := t_jMath_min1_v146_ct) (KT := []) (NT := []) (AN := n_jMath_min1_v146_an) (OT := [o_jMath_min1_v146_0]) 0 200 (List.forall_mem_cons.mpr ⟨oo_jMath_min1_v146_0, List.forall_mem_nil _⟩) (pl_Math rfl (by decide)) ⟨List.forall_mem_nil _, List.forall_mem_nil _, List.forall_mem_nil _, List.forall_mem_nil _, List.forall_mem_nil _, GG_pl⟩ (by decide +kernel)
def e_jMath_min1_v147 : en_T := ([(0, -176, 869, []), (0, 1000000, 1000000, [])], some (0, -176, 869, []), true, 1, 0, 0, [], [], (0, [], [], [(23, [0, 2], [0, -1, 1]), (23, [1, 2], [0, -1, 1]), (20, [2, 0, 1], [50, 0, 0, 3, 6, 1, 2, 1, 0, 1, 1, 1, 2, 1, 0, 1, 2])], []))
set_option maxHeartbeats 4000000 in
theorem vc_jMath_min1_v147_0_0 (x0 : Int) (x1 : Int) (k0 : (-176) ≤ x0 ∧ x0 ≤ 869) (k1 : 1000000 ≤ x1 ∧ x1 ≤ 1000000) (f0 : x0 ≤ x1) : (-1) * x0 + (1 * x0 + 0) ≤ 0 := by
  first | assumption | omega | grind
set_option maxHeartbeats 4000000 in
theorem vc_jMath_min1_v147_0_1 (x0 : Int) (x1 : Int) (k0 : (-176) ≤ x0 ∧ x0 ≤ 869) (k1 : 1000000 ≤ x1 ∧ x1 ≤ 1000000) (f0 : x0 ≤ x1) : (-1) * x1 + (1 * x0 + 0) ≤ 0 := by
  first | assumption | omega | grind
set_option maxHeartbeats 4000000 in
theorem vc_jMath_min1_v147_0_2 (x0 : Int) (x1 : Int) (k0 : (-176) ≤ x0 ∧ x0 ≤ 869) (k1 : 1000000 ≤ x1 ∧ x1 ≤ 1000000) (f0 : x0 ≤ x1) : (x0 = x0) ∨ (x0 = x1) := by
  first | assumption | omega | grind
def o_jMath_min1_v147_0 : or_T := (10, 2, [(0, (0, -176, 869, [])), (1, (0, 1000000, 1000000, []))], [(7, [0, 1], [5])], [], [], [(23, [0, 0], [0, -1, 1]), (23, [1, 0], [0, -1, 1]), (20, [0, 0, 1], [50, 0, 0, 3, 6, 1, 2, 1, 0, 1, 1, 1, 2, 1, 0, 1, 2])], [], [])
theorem oo_jMath_min1_v147_0 {kA : Nat → ClassId} : or_ok PRD kA GG o_jMath_min1_v147_0 := by
  refine or_mk fun A ta ws vs hD hth hl => ?_
  intro t0 k0 t1 k1 f0
  have nf0 : fc_1 PRD (23, [0, 0], [0, -1, 1]) ws (vs) := ⟨nf_in hl rfl, sgq_23 (vc_jMath_min1_v147_0_0 (v_iv (n_v vs 0)) (v_iv (n_v vs 1)) k0 k1 (shm_24 f0))⟩
  have nf1 : fc_1 PRD (23, [1, 0], [0, -1, 1]) ws (vs) := ⟨nf_in hl rfl, sgq_22 (vc_jMath_min1_v147_0_1 (v_iv (n_v vs 0)) (v_iv (n_v vs 1)) k0 k1 (shm_24 f0))⟩
  have nf2 : fc_1 PRD (20, [0, 0, 1], [50, 0, 0, 3, 6, 1, 2, 1, 0, 1, 1, 1, 2, 1, 0, 1, 2]) ws (vs) := ⟨nf_in hl rfl, sgq_29 (vc_jMath_min1_v147_0_2 (v_iv (n_v vs 0)) (v_iv (n_v vs 1)) k0 k1 (shm_24 f0))⟩
  refine ⟨(fun _ h => (by cases h)), [], trivial, ?_, (fun _ h => (by cases h))⟩
  rw [List.append_nil]
  exact List.forall_mem_cons.mpr ⟨⟨show (23 : Nat) < 100 from by decide, nf0⟩, List.forall_mem_cons.mpr ⟨⟨show (23 : Nat) < 100 from by decide, nf1⟩, List.forall_mem_cons.mpr ⟨⟨show (20 : Nat) < 100 from by decide, nf2⟩, (fun _ h => (by cases h))⟩⟩⟩
def n_jMath_min1_v147_an : List an_T := []
def t_jMath_min1_v147_ct : ct_L := []
set_option maxRecDepth 100000 in
theorem c_jMath_min1_v147 {l : Launch} {D : va_G} {kA : Nat → ClassId} : ct_ok PRD l D kA GG y_jMath_min1 z_jMath_min1 e_jMath_min1_v147 := chk_all_ok (FT := []) (PT := []) (CT := t_jMath_min1_v147_ct) (KT := []) (NT := []) (AN := n_jMath_min1_v147_an) (OT := [o_jMath_min1_v147_0]) 0 200 (List.forall_mem_cons.mpr ⟨oo_jMath_min1_v147_0, List.forall_mem_nil _⟩) (pl_Math rfl (by decide)) ⟨List.forall_mem_nil _, List.forall_mem_nil _, List.forall_mem_nil _, List.forall_mem_nil _, List.forall_mem_nil _, GG_pl⟩ (by decide +kernel)
def e_jMath_min1_v148 : en_T := ([(0, -176, 8769, []), (0, 1000000, 1000000, [])], some (0, -176, 8769, []), true, 1, 0, 0, [], [], (0, [], [], [(23, [0, 2], [0, -1, 1]), (23, [1, 2], [0, -1, 1]), (20, [2, 0, 1], [50, 0, 0, 3, 6, 1, 2, 1, 0, 1, 1, 1, 2, 1, 0, 1, 2])], []))
set_option maxHeartbeats 4000000 in
theorem vc_jMath_min1_v148_0_0 (x0 : Int) (x1 : Int) (k0 : (-176) ≤ x0 ∧ x0 ≤ 8769) (k1 : 1000000 ≤ x1 ∧ x1 ≤ 1000000) (f0 : x0 ≤ x1) : (-1) * x0 + (1 * x0 + 0) ≤ 0 := by
  first | assumption | omega | grind
set_option maxHeartbeats 4000000 in
theorem vc_jMath_min1_v148_0_1 (x0 : Int) (x1 : Int) (k0 : (-176) ≤ x0 ∧ x0 ≤ 8769) (k1 : 1000000 ≤ x1 ∧ x1 ≤ 1000000) (f0 : x0 ≤ x1) : (-1) * x1 + (1 * x0 + 0) ≤ 0 := by
  first | assumption | omega | grind
set_option maxHeartbeats 4000000 in
theorem vc_jMath_min1_v148_0_2 (x0 : Int) (x1 : Int) (k0 : (-176) ≤ x0 ∧ x0 ≤ 8769) (k1 : 1000000 ≤ x1 ∧ x1 ≤ 1000000) (f0 : x0 ≤ x1) : (x0 = x0) ∨ (x0 = x1) := by
  first | assumption | omega | grind
def o_jMath_min1_v148_0 : or_T := (10, 2, [(0, (0, -176, 8769, [])), (1, (0, 1000000, 1000000, []))], [(7, [0, 1], [5])], [], [], [(23, [0, 0], [0, -1, 1]), (23, [1, 0], [0, -1, 1]), (20, [0, 0, 1], [50, 0, 0, 3, 6, 1, 2, 1, 0, 1, 1, 1, 2, 1, 0, 1, 2])], [], [])
theorem oo_jMath_min1_v148_0 {kA : Nat → ClassId} : or_ok PRD kA GG o_jMath_min1_v148_0 := by
  refine or_mk fun A ta ws vs hD hth hl => ?_
  intro t0 k0 t1 k1 f0
  have nf0 : fc_1 PRD (23, [0, 0], [0, -1, 1]) ws (vs) := ⟨nf_in hl rfl, sgq_23 (vc_jMath_min1_v148_0_0 (v_iv (n_v vs 0)) (v_iv (n_v vs 1)) k0 k1 (shm_24 f0))⟩
  have nf1 : fc_1 PRD (23, [1, 0], [0, -1, 1]) ws (vs) := ⟨nf_in hl rfl, sgq_22 (vc_jMath_min1_v148_0_1 (v_iv (n_v vs 0)) (v_iv (n_v vs 1)) k0 k1 (shm_24 f0))⟩
  have nf2 : fc_1 PRD (20, [0, 0, 1], [50, 0, 0, 3, 6, 1, 2, 1, 0, 1, 1, 1, 2, 1, 0, 1, 2]) ws (vs) := ⟨nf_in hl rfl, sgq_29 (vc_jMath_min1_v148_0_2 (v_iv (n_v vs 0)) (v_iv (n_v vs 1)) k0 k1 (shm_24 f0))⟩
  refine ⟨(fun _ h => (by cases h)), [], trivial, ?_, (fun _ h => (by cases h))⟩
  rw [List.append_nil]
  exact List.forall_mem_cons.mpr ⟨⟨show (23 : Nat) < 100 from by decide, nf0⟩, List.forall_mem_cons.mpr ⟨⟨show (23 : Nat) < 100 from by decide, nf1⟩, List.forall_mem_cons.mpr ⟨⟨show (20 : Nat) < 100 from by decide, nf2⟩, (fun _ h => (by cases h))⟩⟩⟩
def n_jMath_min1_v148_an : List an_T := []
def t_jMath_min1_v148_ct : ct_L := []
set_option maxRecDepth 100000 in
theorem c_jMath_min1_v148 {l : Launch} {D : va_G} {kA : Nat → ClassId} : ct_ok PRD l D kA GG y_jMath_min1 z_jMath_min1 e_jMath_min1_v148 := chk_all_ok (FT := []) (PT := []) (CT := t_jMath_min1_v148_ct) (KT := []) (NT := []) (AN := n_jMath_min1_v148_an) (OT := [o_jMath_min1_v148_0]) 0 200 (List.forall_mem_cons.mpr ⟨oo_jMath_min1_v148_0, List.forall_mem_nil _⟩) (pl_Math rfl (by decide)) ⟨List.forall_mem_nil _, List.forall_mem_nil _, List.forall_mem_nil _, List.forall_mem_nil _, List.forall_mem_nil _, GG_pl⟩ (by decide +kernel)
def e_jMath_min1_v149 : en_T := ([(0, -176, 87769, []), (0, 1000000, 1000000, [])], some (0, -176, 87769, []), true, 1, 0, 0, [], [], (0, [], [], [(23, [0, 2], [0, -1, 1]), (23, [1, 2], [0, -1, 1]), (20, [2, 0, 1], [50, 0, 0, 3, 6, 1, 2, 1, 0, 1, 1, 1, 2, 1, 0, 1, 2])], []))
set_option maxHeartbeats 4000000 in
theorem vc_jMath_min1_v149_0_0 (x0 : Int) (x1 : Int) (k0 : (-176) ≤ x0 ∧ x0 ≤ 87769) (k1 : 1000000 ≤ x1 ∧ x1 ≤ 1000000) (f0 : x0 ≤ x1) : (-1) * x0 + (1 * x0 + 0) ≤ 0 := by
  first | assumption | omega | grind
set_option maxHeartbeats 4000000 in
theorem vc_jMath_min1_v149_0_1 (x0 : Int) (x1 : Int) (k0 : (-176) ≤ x0 ∧ x0 ≤ 87769) (k1 : 1000000 ≤ x1 ∧ x1 ≤ 1000000) (f0 : x0 ≤ x1) : (-1) * x1 + (1 * x0 + 0) ≤ 0 := by
  first | assumption | omega | grind
set_option maxHeartbeats 4000000 in
theorem vc_jMath_min1_v149_0_2 (x0 : Int) (x1 : Int) (k0 : (-176) ≤ x0 ∧ x0 ≤ 87769) (k1 : 1000000 ≤ x1 ∧ x1 ≤ 1000000) (f0 : x0 ≤ x1) : (x0 = x0) ∨ (x0 = x1) := by
  first | assumption | omega | grind
def o_jMath_min1_v149_0 : or_T := (10, 2, [(0, (0, -176, 87769, [])), (1, (0, 1000000, 1000000, []))], [(7, [0, 1], [5])], [], [], [(23, [0, 0], [0, -1, 1]), (23, [1, 0], [0, -1, 1]), (20, [0, 0, 1], [50, 0, 0, 3, 6, 1, 2, 1, 0, 1, 1, 1, 2, 1, 0, 1, 2])], [], [])
theorem oo_jMath_min1_v149_0 {kA : Nat → ClassId} : or_ok PRD kA GG o_jMath_min1_v149_0 := by
  refine or_mk fun A ta ws vs hD hth hl => ?_
  intro t0 k0 t1 k1 f0
  have nf0 : fc_1 PRD (23, [0, 0], [0, -1, 1]) ws (vs) := ⟨nf_in hl rfl, sgq_23 (vc_jMath_min1_v149_0_0 (v_iv (n_v vs 0)) (v_iv (n_v vs 1)) k0 k1 (shm_24 f0))⟩
  have nf1 : fc_1 PRD (23, [1, 0], [0, -1, 1]) ws (vs) := ⟨nf_in hl rfl, sgq_22 (vc_jMath_min1_v149_0_1 (v_iv (n_v vs 0)) (v_iv (n_v vs 1)) k0 k1 (shm_24 f0))⟩
  have nf2 : fc_1 PRD (20, [0, 0, 1], [50, 0, 0, 3, 6, 1, 2, 1, 0, 1, 1, 1, 2, 1, 0, 1, 2]) ws (vs) := ⟨nf_in hl rfl, sgq_29 (vc_jMath_min1_v149_0_2 (v_iv (n_v vs 0)) (v_iv (n_v vs 1)) k0 k1 (shm_24 f0))⟩
  refine ⟨(fun _ h => (by cases h)), [], trivial, ?_, (fun _ h => (by cases h))⟩
  rw [List.append_nil]
  exact List.forall_mem_cons.mpr ⟨⟨show (23 : Nat) < 100 from by decide, nf0⟩, List.forall_mem_cons.mpr ⟨⟨show (23 : Nat) < 100 from by decide, nf1⟩, List.forall_mem_cons.mpr ⟨⟨show (20 : Nat) < 100 from by decide, nf2⟩, (fun _ h => (by cases h))⟩⟩⟩
def n_jMath_min1_v149_an : List an_T := []
def t_jMath_min1_v149_ct : ct_L := []
set_option maxRecDepth 100000 in
theorem c_jMath_min1_v149 {l : Launch} {D : va_G} {kA : Nat → ClassId} : ct_ok PRD l D kA GG y_jMath_min1 z_jMath_min1 e_jMath_min1_v149 := chk_all_ok (FT := []) (PT := []) (CT := t_jMath_min1_v149_ct) (KT := []) (NT := []) (AN := n_jMath_min1_v149_an) (OT := [o_jMath_min1_v149_0]) 0 200 (List.forall_mem_cons.mpr ⟨oo_jMath_min1_v149_0, List.forall_mem_nil _⟩) (pl_Math rfl (by decide)) ⟨List.forall_mem_nil _, List.forall_mem_nil _, List.forall_mem_nil _, List.forall_mem_nil _, List.forall_mem_nil _, GG_pl⟩ (by decide +kernel)
def e_jMath_min1_v150 : en_T := ([(0, -176, 1310789, []), (0, 1000000, 1000000, [])], some (0, -176, 1000000, []), true, 1, 0, 0, [], [], (0, [], [], [(23, [0, 2], [0, -1, 1]), (23, [1, 2], [0, -1, 1]), (20, [2, 0, 1], [50, 0, 0, 3, 6, 1, 2, 1, 0, 1, 1, 1, 2, 1, 0, 1, 2])], []))
set_option maxHeartbeats 4000000 in
theorem vc_jMath_min1_v150_0_0 (x0 : Int) (x1 : Int) (k0 : 1000001 ≤ x0 ∧ x0 ≤ 1310789) (k1 : 1000000 ≤ x1 ∧ x1 ≤ 1000000) (f0 : x1 < x0) : (-1) * x0 + (1 * x1 + 0) ≤ 0 := by
  first | assumption | omega | grind
set_option maxHeartbeats 4000000 in
theorem vc_jMath_min1_v150_0_1 (x0 : Int) (x1 : Int) (k0 : 1000001 ≤ x0 ∧ x0 ≤ 1310789) (k1 : 1000000 ≤ x1 ∧ x1 ≤ 1000000) (f0 : x1 < x0) : (-1) * x1 + (1 * x1 + 0) ≤ 0 := by
  first | assumption | omega | grind
set_option maxHeartbeats 4000000 in
theorem vc_jMath_min1_v150_0_2 (x0 : Int) (x1 : Int) (k0 : 1000001 ≤ x0 ∧ x0 ≤ 1310789) (k1 : 1000000 ≤ x1 ∧ x1 ≤ 1000000) (f0 : x1 < x0) : (x1 = x0) ∨ (x1 = x1) := by
  first | assumption | omega | grind
def o_jMath_min1_v150_0 : or_T := (10, 2, [(0, (0, 1000001, 1310789, [])), (1, (0, 1000000, 1000000, []))], [(7, [0, 1], [4])], [], [], [(23, [0, 1], [0, -1, 1]), (23, [1, 1], [0, -1, 1]), (20, [1, 0, 1], [50, 0, 0, 3, 6, 1, 2, 1, 0, 1, 1, 1, 2, 1, 0, 1, 2])], [], [])
theorem oo_jMath_min1_v150_0 {kA : Nat → ClassId} : or_ok PRD kA GG o_jMath_min1_v150_0 := by
  refine or_mk fun A ta ws vs hD hth hl => ?_
  intro t0 k0 t1 k1 f0
  have nf0 : fc_1 PRD (23, [0, 1], [0, -1, 1]) ws (vs) := ⟨nf_in hl rfl, sgq_22 (vc_jMath_min1_v150_0_0 (v_iv (n_v vs 0)) (v_iv (n_v vs 1)) k0 k1 (shm_21 f0))⟩
  have nf1 : fc_1 PRD (23, [1, 1], [0, -1, 1]) ws (vs) := ⟨nf_in hl rfl, sgq_23 (vc_jMath_min1_v150_0_1 (v_iv (n_v vs 0)) (v_iv (n_v vs 1)) k0 k1 (shm_21 f0))⟩
  have nf2 : fc_1 PRD (20, [1, 0, 1], [50, 0, 0, 3, 6, 1, 2, 1, 0, 1, 1, 1, 2, 1, 0, 1, 2]) ws (vs) := ⟨nf_in hl rfl, sgq_28 (vc_jMath_min1_v150_0_2 (v_iv (n_v vs 0)) (v_iv (n_v vs 1)) k0 k1 (shm_21 f0))⟩
  refine ⟨(fun _ h => (by cases h)), [], trivial, ?_, (fun _ h => (by cases h))⟩
  rw [List.append_nil]
  exact List.forall_mem_cons.mpr ⟨⟨show (23 : Nat) < 100 from by decide, nf0⟩, List.forall_mem_cons.mpr ⟨⟨show (23 : Nat) < 100 from by decide, nf1⟩, List.forall_mem_cons.mpr ⟨⟨show (20 : Nat) < 100 from by decide, nf2⟩, (fun _ h => (by cases h))⟩⟩⟩
set_option maxHeartbeats 4000000 in
theorem vc_jMath_min1_v150_1_0 (x0 : Int) (x1 : Int) (k0 : (-176) ≤ x0 ∧ x0 ≤ 1000000) (k1 : 1000000 ≤ x1 ∧ x1 ≤ 1000000) (f0 : x0 ≤ x1) : (-1) * x0 + (1 * x0 + 0) ≤ 0 := by
  first | assumption | omega | grind
set_option maxHeartbeats 4000000 in
theorem vc_jMath_min1_v150_1_1 (x0 : Int) (x1 : Int) (k0 : (-176) ≤ x0 ∧ x0 ≤ 1000000) (k1 : 1000000 ≤ x1 ∧ x1 ≤ 1000000) (f0 : x0 ≤ x1) : (-1) * x1 + (1 * x0 + 0) ≤ 0 := by
  first | assumption | omega | grind
set_option maxHeartbeats 4000000 in
theorem vc_jMath_min1_v150_1_2 (x0 : Int) (x1 : Int) (k0 : (-176) ≤ x0 ∧ x0 ≤ 1000000) (k1 : 1000000 ≤ x1 ∧ x1 ≤ 1000000) (f0 : x0 ≤ x1) : (x0 = x0) ∨ (x0 = x1) := by
  first | assumption | omega | grind
def o_jMath_min1_v150_1 : or_T := (10, 2, [(0, (0, -176, 1000000, [])), (1, (0, 1000000, 1000000, []))], [(7, [0, 1], [5])], [], [], [(23, [0, 0], [0, -1, 1]), (23, [1, 0], [0, -1, 1]), (20, [0, 0, 1], [50, 0, 0, 3, 6, 1, 2, 1, 0, 1, 1, 1, 2, 1, 0, 1, 2])], [], [])
theorem oo_jMath_min1_v150_1 {kA : Nat → ClassId} : or_ok PRD kA GG o_jMath_min1_v150_1 := by
  refine or_mk fun A ta ws vs hD hth hl => ?_
  intro t0 k0 t1 k1 f0
  have nf0 : fc_1 PRD (23, [0, 0], [0, -1, 1]) ws (vs) := ⟨nf_in hl rfl, sgq_23 (vc_jMath_min1_v150_1_0 (v_iv (n_v vs 0)) (v_iv (n_v vs 1)) k0 k1 (shm_24 f0))⟩
  have nf1 : fc_1 PRD (23, [1, 0], [0, -1, 1]) ws (vs) := ⟨nf_in hl rfl, sgq_22 (vc_jMath_min1_v150_1_1 (v_iv (n_v vs 0)) (v_iv (n_v vs 1)) k0 k1 (shm_24 f0))⟩
  have nf2 : fc_1 PRD (20, [0, 0, 1], [50, 0, 0, 3, 6, 1, 2, 1, 0, 1, 1, 1, 2, 1, 0, 1, 2]) ws (vs) := ⟨nf_in hl rfl, sgq_29 (vc_jMath_min1_v150_1_2 (v_iv (n_v vs 0)) (v_iv (n_v vs 1)) k0 k1 (shm_24 f0))⟩
  refine ⟨(fun _ h => (by cases h)), [], trivial, ?_, (fun _ h => (by cases h))⟩
  rw [List.append_nil]
  exact List.forall_mem_cons.mpr ⟨⟨show (23 : Nat) < 100 from by decide, nf0⟩, List.forall_mem_cons.mpr ⟨⟨show (23 : Nat) < 100 from by decide, nf1⟩, List.forall_mem_cons.mpr ⟨⟨show (20 : Nat) < 100 from by decide, nf2⟩, (fun _ h => (by cases h))⟩⟩⟩
def n_jMath_min1_v150_an : List an_T := []
def t_jMath_min1_v150_ct : ct_L := []
set_option maxRecDepth 100000 in
theorem c_jMath_min1_v150 {l : Launch} {D : va_G} {kA : Nat → ClassId} : ct_ok PRD l D kA GG y_jMath_min1 z_jMath_min1 e_jMath_min1_v150 := chk_all_ok (FT := []) (PT := []) (CT := t_jMath_min1_v150_ct) (KT := []) (NT := []) (AN := n_jMath_min1_v150_an) (OT := [o_jMath_min1_v150_0, o_jMath_min1_v150_1]) 0 200 (List.forall_mem_cons.mpr ⟨oo_jMath_min1_v150_0, List.forall_mem_cons.mpr ⟨oo_jMath_min1_v150_1, List.forall_mem_nil _⟩⟩) (pl_Math rfl (by decide)) ⟨List.forall_mem_nil _, List.forall_mem_nil _, List.forall_mem_nil _, List.forall_mem_nil _, List.forall_mem_nil _, GG_pl⟩ (by decide +kernel)
def e_jMath_min1_v151 : en_T := ([(0, -176, 10000079, []), (0, 1000000, 1000000, [])], some (0, -176, 1000000, []), true, 1, 0, 0, [], [], (0, [], [], [(23, [0, 2], [0, -1, 1]), (23, [1, 2], [0, -1, 1]), (20, [2, 0, 1], [50, 0, 0, 3, 6, 1, 2, 1, 0, 1, 1, 1, 2, 1, 0, 1, 2])], []))
set_option maxHeartbeats 4000000 in
theorem vc_jMath_min1_v151_0_0 (x0 : Int) (x1 : Int) (k0 : 1000001 ≤ x0 ∧ x0 ≤ 10000079) (k1 : 1000000 ≤ x1 ∧ x1 ≤ 1000000) (f0 : x1 < x0) : (-1) * x0 + (1 * x1 + 0) ≤ 0 := by
  first | assumption | omega | grind
set_option maxHeartbeats 4000000 in
theorem vc_jMath_min1_v151_0_1 (x0 : Int) (x1 : Int) (k0 : 1000001 ≤ x0 ∧ x0 ≤ 10000079) (k1 : 1000000 ≤ x1 ∧ x1 ≤ 1000000) (f0 : x1 < x0) : (-1) * x1 + (1 * x1 + 0) ≤ 0 := by
  first | assumption | omega | grind
set_option maxHeartbeats 4000000 in
theorem vc_jMath_min1_v151_0_2 (x0 : Int) (x1 : Int) (k0 : 1000001 ≤ x0 ∧ x0 ≤ 10000079) (k1 : 1000000 ≤ x1 ∧ x1 ≤ 1000000) (f0 : x1 < x0) : (x1 = x0) ∨ (x1 = x1) := by
  first | assumption | omega | grind
def o_jMath_min1_v151_0 : or_T := (10, 2, [(0, (0, 1000001, 10000079, [])), (1, (0, 1000000, 1000000, []))], [(7, [0, 1], [4])], [], [], [(23, [0, 1], [0, -1, 1]), (23, [1, 1], [0, -1, 1]), (20, [1, 0, 1], [50, 0, 0, 3, 6, 1, 2, 1, 0, 1, 1, 1, 2, 1, 0, 1, 2])], [], [])
theorem oo_jMath_min1_v151_0 {kA : Nat → ClassId} : or_ok PRD kA GG o_jMath_min1_v151_0 := by
  refine or_mk fun A ta ws vs hD hth hl => ?_
  intro t0 k0 t1 k1 f0
  have nf0 : fc_1 PRD (23, [0, 1], [0, -1, 1]) ws (vs) := ⟨nf_in hl rfl, sgq_22 (vc_jMath_min1_v151_0_0 (v_iv (n_v vs 0)) (v_iv (n_v vs 1)) k0 k1 (shm_21 f0))⟩
  have nf1 : fc_1 PRD (23, [1, 1], [0, -1, 1]) ws (vs) := ⟨nf_in hl rfl, sgq_23 (vc_jMath_min1_v151_0_1 (v_iv (n_v vs 0)) (v_iv (n_v vs 1)) k0 k1 (shm_21 f0))⟩
  have nf2 : fc_1 PRD (20, [1, 0, 1], [50, 0, 0, 3, 6, 1, 2, 1, 0, 1, 1, 1, 2, 1, 0, 1, 2]) ws (vs) := ⟨nf_in hl rfl, sgq_28 (vc_jMath_min1_v151_0_2 (v_iv (n_v vs 0)) (v_iv (n_v vs 1)) k0 k1 (shm_21 f0))⟩
  refine ⟨(fun _ h => (by cases h)), [], trivial, ?_, (fun _ h => (by cases h))⟩
  rw [List.append_nil]
  exact List.forall_mem_cons.mpr ⟨⟨show (23 : Nat) < 100 from by decide, nf0⟩, List.forall_mem_cons.mpr ⟨⟨show (23 : Nat) < 100 from by decide, nf1⟩, List.forall_mem_cons.mpr ⟨⟨show (20 : Nat) < 100 from by decide, nf2⟩, (fun _ h => (by cases h))⟩⟩⟩
set_option maxHeartbeats 4000000 in
theorem vc_jMath_min1_v151_1_0 (x0 : Int) (x1 : Int) (k0 : (-176) ≤ x0 ∧ x0 ≤ 1000000) (k1 : 1000000 ≤ x1 ∧ x1 ≤ 1000000) (f0 : x0 ≤ x1) : (-1) * x0 + (1 * x0 + 0) ≤ 0 := by
  first | assumption | omega | grind
set_option maxHeartbeats 4000000 in
theorem vc_jMath_min1_v151_1_1 (x0 : Int) (x1 : Int) (k0 : (-176) ≤ x0 ∧ x0 ≤ 1000000) (k1 : 1000000 ≤ x1 ∧ x1 ≤ 1000000) (f0 : x0 ≤ x1) : (-1) * x1 + (1 * x0 + 0) ≤ 0 := by
  first | assumption | omega | grind
set_option maxHeartbeats 4000000 in
theorem vc_jMath_min1_v151_1_2 (x0 : Int) (x1 : Int) (k0 : (-176) ≤ x0 ∧ x0 ≤ 1000000) (k1 : 1000000 ≤ x1 ∧ x1 ≤ 1000000) (f0 : x0 ≤ x1) : (x0 = x0) ∨ (x0 = x1) := by
  first | assumption | omega | grind
def o_jMath_min1_v151_1 : or_T := (10, 2, [(0, (0, -176, 1000000, [])), (1, (0, 1000000, 1000000, []))], [(7, [0, 1], [5])], [], [], [(23, [0, 0], [0, -1, 1]), (23, [1, 0], [0, -1, 1]), (20, [0, 0, 1], [50, 0, 0, 3, 6, 1, 2, 1, 0, 1, 1, 1, 2, 1, 0, 1, 2])], [], [])
theorem oo_jMath_min1_v151_1 {kA : Nat → ClassId} : or_ok PRD kA GG o_jMath_min1_v151_1 := by
  refine or_mk fun A ta ws vs hD hth hl => ?_
  intro t0 k0 t1 k1 f0
  have nf0 : fc_1 PRD (23, [0, 0], [0, -1, 1]) ws (vs) := ⟨nf_in hl rfl, sgq_23 (vc_jMath_min1_v151_1_0 (v_iv (n_v vs 0)) (v_iv (n_v vs 1)) k0 k1 (shm_24 f0))⟩
  have nf1 : fc_1 PRD (23, [1, 0], [0, -1, 1]) ws (vs) := ⟨nf_in hl rfl, sgq_22 (vc_jMath_min1_v151_1_1 (v_iv (n_v vs 0)) (v_iv (n_v vs 1)) k0 k1 (shm_24 f0))⟩
  have nf2 : fc_1 PRD (20, [0, 0, 1], [50, 0, 0, 3, 6, 1, 2, 1, 0, 1, 1, 1, 2, 1, 0, 1, 2]) ws (vs) := ⟨nf_in hl rfl, sgq_29 (vc_jMath_min1_v151_1_2 (v_iv (n_v vs 0)) (v_iv (n_v vs 1)) k0 k1 (shm_24 f0))⟩
  refine ⟨(fun _ h => (by cases h)), [], trivial, ?_, (fun _ h => (by cases h))⟩
  rw [List.append_nil]
  exact List.forall_mem_cons.mpr ⟨⟨show (23 : Nat) < 100 from by decide, nf0⟩, List.forall_mem_cons.mpr ⟨⟨show (23 : Nat) < 100 from by decide, nf1⟩, List.forall_mem_cons.mpr ⟨⟨show (20 : Nat) < 100 from by decide, nf2⟩, (fun _ h => (by cases h))⟩⟩⟩
def n_jMath_min1_v151_an : List an_T := []
def t_jMath_min1_v151_ct : ct_L := []
set_option maxRecDepth 100000 in
theorem c_jMath_min1_v151 {l : Launch} {D : va_G} {kA : Nat → ClassId} : ct_ok PRD l D kA GG y_jMath_min1 z_jMath_min1 e_jMath_min1_v151 := chk_all_ok (FT := []) (PT := []) (CT := t_jMath_min1_v151_ct) (KT := []) (NT := []) (AN := n_jMath_min1_v151_an) (OT := [o_jMath_min1_v151_0, o_jMath_min1_v151_1]) 0 200 (List.forall_mem_cons.mpr ⟨oo_jMath_min1_v151_0, List.forall_mem_cons.mpr ⟨oo_jMath_min1_v151_1, List.forall_mem_nil _⟩⟩) (pl_Math rfl (by decide)) ⟨List.forall_mem_nil _, List.forall_mem_nil _, List.forall_mem_nil _, List.forall_mem_nil _, List.forall_mem_nil _, GG_pl⟩ (by decide +kernel)
def e_jArr_fill1_v152 : en_T := ([(2, 0, 0, [112]), (0, 1000000000, 1000000000, [])], none, false, 1, 0, 0, [], [], (5192296858534827628530496329220096, [], [], [(20, [0, 1], [8, 1000000000, 1000000000, -999976000])], []))
def o_jArr_fill1_v152_0 : or_T := (5, 4, [(2, (0, 0, 0, []))], [], [], [], [(20, [0, 2], [8, 1000000000, 1000000000, 0])], [], [])
theorem oo_jArr_fill1_v152_0 {kA : Nat → ClassId} : or_ok PRD kA GG o_jArr_fill1_v152_0 := by
  refine or_mk fun A ta ws vs hD hth hl => ?_
  intro t2 k2
  have nf0 : fc_1 PRD (20, [0, 2], [8, 1000000000, 1000000000, 0]) ws (vs) := by
    refine ⟨nf_in hl rfl, sgq_43 ?_⟩
    · show ∀ j : Nat, (j : Int) < v_iv (n_v vs 2) + 0 → 1000000000 ≤ w_el ws (v_ad (n_v vs 0)) j ∧ w_el ws (v_ad (n_v vs 0)) j ≤ 1000000000
      intro j hj
      exfalso; omega
  refine ⟨(fun _ h => (by cases h)), [], trivial, ?_, (fun _ h => (by cases h))⟩
  rw [List.append_nil]
  exact List.forall_mem_cons.mpr ⟨⟨show (20 : Nat) < 100 from by decide, nf0⟩, (fun _ h => (by cases h))⟩
def o_jArr_fill1_v152_1 : or_T := (5, 4, [], [], [], [], [(24, [0, 0], [])], [], [])
theorem oo_jArr_fill1_v152_1 {kA : Nat → ClassId} : or_ok PRD kA GG o_jArr_fill1_v152_1 := by
  refine or_mk fun A ta ws vs hD hth hl => ?_
  have nf0 : fc_1 PRD (24, [0, 0], []) ws (vs) := by
    refine ⟨nf_in hl rfl, sgq_1 ?_⟩
    · show n_v vs 0 = n_v vs 0
      first | rfl | simp only [true_and]
  refine ⟨(fun _ h => (by cases h)), [], trivial, ?_, (fun _ h => (by cases h))⟩
  rw [List.append_nil]
  exact List.forall_mem_cons.mpr ⟨⟨show (24 : Nat) < 100 from by decide, nf0⟩, (fun _ h => (by cases h))⟩
def o_jArr_fill1_v152_2 : or_T := (20, 6, [(1, (0, 1000000000, 1000000000, [])), (4, (0, 24000, 24000, [])), (5, (0, 24000, 24000, []))], [(7, [4, 5], [3]), (20, [0, 4], [8, 1000000000, 1000000000, 0])], [], [], [(20, [0, 1], [8, 1000000000, 1000000000, -999976000])], [], [])
theorem oo_jArr_fill1_v152_2 {kA : Nat → ClassId} : or_ok PRD kA GG o_jArr_fill1_v152_2 := by
  refine or_mk fun A ta ws vs hD hth hl => ?_
  intro t1 k1 t4 k4 t5 k5 f0 f1
  replace f0 := shm_2 f0
  replace f1 := shm_43 f1
  have nf0 : fc_1 PRD (20, [0, 1], [8, 1000000000, 1000000000, -999976000]) ws (vs) := by
    refine ⟨nf_in hl rfl, sgq_44 ?_⟩
    · show ∀ j : Nat, (j : Int) < v_iv (n_v vs 1) + (-999976000) → 1000000000 ≤ w_el ws (v_ad (n_v vs 0)) j ∧ w_el ws (v_ad (n_v vs 0)) j ≤ 1000000000
      intro j hj
      exact f1 j (by omega)
  refine ⟨(fun _ h => (by cases h)), [], trivial, ?_, (fun _ h => (by cases h))⟩
  rw [List.append_nil]
  exact List.forall_mem_cons.mpr ⟨⟨show (20 : Nat) < 100 from by decide, nf0⟩, (fun _ h => (by cases h))⟩
def o_jArr_fill1_v152_3 : or_T := (5, 7, [(3, (0, 1000000000, 1000000000, [])), (4, (0, 0, 23999, [])), (5, (0, 24000, 24000, [])), (6, (0, 1, 24000, []))], [(6, [6, 4], [1]), (24, [0, 2], []), (100, [2, 4, 3], []), (7, [4, 5], [2]), (20, [0, 4], [8, 1000000000, 1000000000, 0])], [], [], [(20, [0, 6], [8, 1000000000, 1000000000, 0])], [], [(6, 4, 1, 1)])
theorem oo_jArr_fill1_v152_3 {kA : Nat → ClassId} : or_ok PRD kA GG o_jArr_fill1_v152_3 := by
  refine or_mk fun A ta ws vs hD hth hl => ?_
  intro t3 k3 t4 k4 t5 k5 t6 k6 d0 f0 f1 ta1 w1 le1 s1 f3 f4
  replace f0 := shm_4 f0
  replace f1 := shm_5 f1
  have s1 : (∀ b j, w_el ws b j = if b = v_ad (n_v vs 2) ∧ j = (v_iv (n_v vs 4)).toNat then v_iv (n_v vs 3) else w_el w1 b j) ∧ ∀ b k, w_fd ws b k = w_fd w1 b k := s1.2
  replace f3 := shm_6 f3
  replace f4 := shm_43 f4
  rw [← f1] at s1
  have nf0 : fc_1 PRD (20, [0, 6], [8, 1000000000, 1000000000, 0]) ws (vs) := by
    refine ⟨nf_in hl rfl, sgq_43 ?_⟩
    · show ∀ j : Nat, (j : Int) < v_iv (n_v vs 6) + 0 → 1000000000 ≤ w_el ws (v_ad (n_v vs 0)) j ∧ w_el ws (v_ad (n_v vs 0)) j ≤ 1000000000
      intro j hj
      by_cases hji : j = (v_iv (n_v vs 4)).toNat
      · rw [s1.1, if_pos ⟨rfl, hji⟩]; first | (constructor <;> omega) | (exfalso; omega)
      · rw [s1.1, if_neg (fun e => hji e.2)]; exact f4 j (by omega)
  refine ⟨(fun _ h => (by cases h)), [], trivial, ?_, (fun _ h => (by cases h))⟩
  rw [List.append_nil]
  exact List.forall_mem_cons.mpr ⟨⟨show (20 : Nat) < 100 from by decide, nf0⟩, (fun _ h => (by cases h))⟩
def n_jArr_fill1_v152_an : List an_T := [(5, [(0, (2, 0, 0, [112])), (1, (0, 1000000000, 1000000000, [])), (2, (0, 0, 24000, [])), (3, (0, 24000, 24000, []))], [], (0, 0), [(0, 0, 99995), (1, 4, 24000), (0, 0, 100000)], [], [], [(2, 0, 0, [112]), (0, 1000000000, 1000000000, [])], 0, [], [(20, [0, 4], [8, 1000000000, 1000000000, 0]), (24, [0, 2], [])])]
def t_jArr_fill1_v152_ct : ct_L := []
set_option maxRecDepth 100000 in
theorem c_jArr_fill1_v152 {l : Launch} {D : va_G} {kA : Nat → ClassId} : ct_ok PRD l D kA GG y_jArr_fill1 z_jArr_fill1 e_jArr_fill1_v152 := chk_all_ok (FT := []) (PT := []) (CT := t_jArr_fill1_v152_ct) (KT := []) (NT := []) (AN := n_jArr_fill1_v152_an) (OT := [o_jArr_fill1_v152_0, o_jArr_fill1_v152_1, o_jArr_fill1_v152_2, o_jArr_fill1_v152_3]) 3 200 (List.forall_mem_cons.mpr ⟨oo_jArr_fill1_v152_0, List.forall_mem_cons.mpr ⟨oo_jArr_fill1_v152_1, List.forall_mem_cons.mpr ⟨oo_jArr_fill1_v152_2, List.forall_mem_cons.mpr ⟨oo_jArr_fill1_v152_3, List.forall_mem_nil _⟩⟩⟩⟩) (by decide +kernel) ⟨List.forall_mem_nil _, List.forall_mem_nil _, List.forall_mem_nil _, List.forall_mem_nil _, List.forall_mem_nil _, GG_pl⟩ (by decide +kernel)
def e_jArr_fill1_v153 : en_T := ([(2, 0, 0, [113]), (0, -1, -1, [])], none, false, 1, 0, 0, [], [], (10384593717069655257060992658440192, [], [], [(20, [0, 1], [8, -1, -1, 5])], []))
def o_jArr_fill1_v153_0 : or_T := (5, 4, [(2, (0, 0, 0, []))], [], [], [], [(20, [0, 2], [8, -1, -1, 0])], [], [])
theorem oo_jArr_fill1_v153_0 {kA : Nat → ClassId} : or_ok PRD kA GG o_jArr_fill1_v153_0 := by
  refine or_mk fun A ta ws vs hD hth hl => ?_
  intro t2 k2
  have nf0 : fc_1 PRD (20, [0, 2], [8, -1, -1, 0]) ws (vs) := by
    refine ⟨nf_in hl rfl, sgq_16 ?_⟩
    · show ∀ j : Nat, (j : Int) < v_iv (n_v vs 2) + 0 → (-1) ≤ w_el ws (v_ad (n_v vs 0)) j ∧ w_el ws (v_ad (n_v vs 0)) j ≤ (-1)
      intro j hj
      exfalso; omega
  refine ⟨(fun _ h => (by cases h)), [], trivial, ?_, (fun _ h => (by cases h))⟩
  rw [List.append_nil]
  exact List.forall_mem_cons.mpr ⟨⟨show (20 : Nat) < 100 from by decide, nf0⟩, (fun _ h => (by cases h))⟩
def o_jArr_fill1_v153_1 : or_T := (5, 4, [], [], [], [], [(24, [0, 0], [])], [], [])
theorem oo_jArr_fill1_v153_1 {kA : Nat → ClassId} : or_ok PRD kA GG o_jArr_fill1_v153_1 := by
  refine or_mk fun A ta ws vs hD hth hl => ?_
  have nf0 : fc_1 PRD (24, [0, 0], []) ws (vs) := by
    refine ⟨nf_in hl rfl, sgq_1 ?_⟩
    · show n_v vs 0 = n_v vs 0
      first | rfl | simp only [true_and]
  refine ⟨(fun _ h => (by cases h)), [], trivial, ?_, (fun _ h => (by cases h))⟩
  rw [List.append_nil]
  exact List.forall_mem_cons.mpr ⟨⟨show (24 : Nat) < 100 from by decide, nf0⟩, (fun _ h => (by cases h))⟩
def o_jArr_fill1_v153_2 : or_T := (20, 6, [(1, (0, -1, -1, [])), (4, (0, 4, 4, [])), (5, (0, 4, 4, []))], [(7, [4, 5], [3]), (20, [0, 4], [8, -1, -1, 0])], [], [], [(20, [0, 1], [8, -1, -1, 5])], [], [])
theorem oo_jArr_fill1_v153_2 {kA : Nat → ClassId} : or_ok PRD kA GG o_jArr_fill1_v153_2 := by
  refine or_mk fun A ta ws vs hD hth hl => ?_
  intro t1 k1 t4 k4 t5 k5 f0 f1
  replace f0 := shm_2 f0
  replace f1 := shm_16 f1
  have nf0 : fc_1 PRD (20, [0, 1], [8, -1, -1, 5]) ws (vs) := by
    refine ⟨nf_in hl rfl, sgq_45 ?_⟩
    · show ∀ j : Nat, (j : Int) < v_iv (n_v vs 1) + 5 → (-1) ≤ w_el ws (v_ad (n_v vs 0)) j ∧ w_el ws (v_ad (n_v vs 0)) j ≤ (-1)
      intro j hj
      exact f1 j (by omega)
  refine ⟨(fun _ h => (by cases h)), [], trivial, ?_, (fun _ h => (by cases h))⟩
  rw [List.append_nil]
  exact List.forall_mem_cons.mpr ⟨⟨show (20 : Nat) < 100 from by decide, nf0⟩, (fun _ h => (by cases h))⟩
def o_jArr_fill1_v153_3 : or_T := (5, 7, [(3, (0, -1, -1, [])), (4, (0, 0, 3, [])), (5, (0, 4, 4, [])), (6, (0, 1, 4, []))], [(6, [6, 4], [1]), (24, [0, 2], []), (100, [2, 4, 3], []), (7, [4, 5], [2]), (20, [0, 4], [8, -1, -1, 0])], [], [], [(20, [0, 6], [8, -1, -1, 0])], [], [(6, 4, 1, 1)])
theorem oo_jArr_fill1_v153_3 {kA : Nat → ClassId} : or_ok PRD kA GG o_jArr_fill1_v153_3 := by
  refine or_mk fun A ta ws vs hD hth hl => ?_
  intro t3 k3 t4 k4 t5 k5 t6 k6 d0 f0 f1 ta1 w1 le1 s1 f3 f4
  replace f0 := shm_4 f0
  replace f1 := shm_5 f1
  have s1 : (∀ b j, w_el ws b j = if b = v_ad (n_v vs 2) ∧ j = (v_iv (n_v vs 4)).toNat then v_iv (n_v vs 3) else w_el w1 b j) ∧ ∀ b k, w_fd ws b k = w_fd w1 b k := s1.2
  replace f3 := shm_6 f3
  replace f4 := shm_16 f4
  rw [← f1] at s1
  have nf0 : fc_1 PRD (20, [0, 6], [8, -1, -1, 0]) ws (vs) := by
    refine ⟨nf_in hl rfl, sgq_16 ?_⟩
    · show ∀ j : Nat, (j : Int) < v_iv (n_v vs 6) + 0 → (-1) ≤ w_el ws (v_ad (n_v vs 0)) j ∧ w_el ws (v_ad (n_v vs 0)) j ≤ (-1)
      intro j hj
      by_cases hji : j = (v_iv (n_v vs 4)).toNat
      · rw [s1.1, if_pos ⟨rfl, hji⟩]; first | (constructor <;> omega) | (exfalso; omega)
      · rw [s1.1, if_neg (fun e => hji e.2)]; exact f4 j (by omega)
  refine ⟨(fun _ h => (by cases h)), [], trivial, ?_, (fun _ h => (by cases h))⟩
  rw [List.append_nil]
  exact List.forall_mem_cons.mpr ⟨⟨show (20 : Nat) < 100 from by decide, nf0⟩, (fun _ h => (by cases h))⟩
def n_jArr_fill1_v153_an : List an_T := [(5, [(0, (2, 0, 0, [113])), (1, (0, -1, -1, [])), (2, (0, 0, 4, [])), (3, (0, 4, 4, []))], [], (0, 0), [(0, 0, 99995), (1, 4, 4), (0, 0, 100000)], [], [], [(2, 0, 0, [113]), (0, -1, -1, [])], 0, [], [(20, [0, 4], [8, -1, -1, 0]), (24, [0, 2], [])])]
def t_jArr_fill1_v153_ct : ct_L := []
set_option maxRecDepth 100000 in
theorem c_jArr_fill1_v153 {l : Launch} {D : va_G} {kA : Nat → ClassId} : ct_ok PRD l D kA GG y_jArr_fill1 z_jArr_fill1 e_jArr_fill1_v153 := chk_all_ok (FT := []) (PT := []) (CT := t_jArr_fill1_v153_ct) (KT := []) (NT := []) (AN := n_jArr_fill1_v153_an) (OT := [o_jArr_fill1_v153_0, o_jArr_fill1_v153_1, o_jArr_fill1_v153_2, o_jArr_fill1_v153_3]) 3 200 (List.forall_mem_cons.mpr ⟨oo_jArr_fill1_v153_0, List.forall_mem_cons.mpr ⟨oo_jArr_fill1_v153_1, List.forall_mem_cons.mpr ⟨oo_jArr_fill1_v153_2, List.forall_mem_cons.mpr ⟨oo_jArr_fill1_v153_3, List.forall_mem_nil _⟩⟩⟩⟩) (by decide +kernel) ⟨List.forall_mem_nil _, List.forall_mem_nil _, List.forall_mem_nil _, List.forall_mem_nil _, List.forall_mem_nil _, GG_pl⟩ (by decide +kernel)
def e_jArr_fill1_v154 : en_T := ([(2, 0, 0, [122]), (0, 0, 0, [])], none, false, 1, 0, 0, [], [], (5316911983139663491615228241121378304, [], [], [(20, [0, 1], [8, 0, 0, 72])], []))
def o_jArr_fill1_v154_0 : or_T := (5, 4, [(2, (0, 0, 0, []))], [], [], [], [(20, [0, 2], [8, 0, 0, 0])], [], [])
theorem oo_jArr_fill1_v154_0 {kA : Nat → ClassId} : or_ok PRD kA GG o_jArr_fill1_v154_0 := by
  refine or_mk fun A ta ws vs hD hth hl => ?_
  intro t2 k2
  have nf0 : fc_1 PRD (20, [0, 2], [8, 0, 0, 0]) ws (vs) := by
    refine ⟨nf_in hl rfl, sgq_0 ?_⟩
    · show ∀ j : Nat, (j : Int) < v_iv (n_v vs 2) + 0 → 0 ≤ w_el ws (v_ad (n_v vs 0)) j ∧ w_el ws (v_ad (n_v vs 0)) j ≤ 0
      intro j hj
      exfalso; omega
  refine ⟨(fun _ h => (by cases h)), [], trivial, ?_, (fun _ h => (by cases h))⟩
  rw [List.append_nil]
  exact List.forall_mem_cons.mpr ⟨⟨show (20 : Nat) < 100 from by decide, nf0⟩, (fun _ h => (by cases h))⟩
def o_jArr_fill1_v154_1 : or_T := (5, 4, [], [], [], [], [(24, [0, 0], [])], [], [])
theorem oo_jArr_fill1_v154_1 {kA : Nat → ClassId} : or_ok PRD kA GG o_jArr_fill1_v154_1 := by
  refine or_mk fun A ta ws vs hD hth hl => ?_
  have nf0 : fc_1 PRD (24, [0, 0], []) ws (vs) := by
    refine ⟨nf_in hl rfl, sgq_1 ?_⟩
    · show n_v vs 0 = n_v vs 0
      first | rfl | simp only [true_and]
  refine ⟨(fun _ h => (by cases h)), [], trivial, ?_, (fun _ h => (by cases h))⟩
  rw [List.append_nil]
  exact List.forall_mem_cons.mpr ⟨⟨show (24 : Nat) < 100 from by decide, nf0⟩, (fun _ h => (by cases h))⟩
def o_jArr_fill1_v154_2 : or_T := (20, 6, [(1, (0, 0, 0, [])), (4, (0, 72, 72, [])), (5, (0, 72, 72, []))], [(7, [4, 5], [3]), (20, [0, 4], [8, 0, 0, 0])], [], [], [(20, [0, 1], [8, 0, 0, 72])], [], [])
theorem oo_jArr_fill1_v154_2 {kA : Nat → ClassId} : or_ok PRD kA GG o_jArr_fill1_v154_2 := by
  refine or_mk fun A ta ws vs hD hth hl => ?_
  intro t1 k1 t4 k4 t5 k5 f0 f1
  replace f0 := shm_2 f0
  replace f1 := shm_0 f1
  have nf0 : fc_1 PRD (20, [0, 1], [8, 0, 0, 72]) ws (vs) := by
    refine ⟨nf_in hl rfl, sgq_46 ?_⟩
    · show ∀ j : Nat, (j : Int) < v_iv (n_v vs 1) + 72 → 0 ≤ w_el ws (v_ad (n_v vs 0)) j ∧ w_el ws (v_ad (n_v vs 0)) j ≤ 0
      intro j hj
      exact f1 j (by omega)
  refine ⟨(fun _ h => (by cases h)), [], trivial, ?_, (fun _ h => (by cases h))⟩
  rw [List.append_nil]
  exact List.forall_mem_cons.mpr ⟨⟨show (20 : Nat) < 100 from by decide, nf0⟩, (fun _ h => (by cases h))⟩
def o_jArr_fill1_v154_3 : or_T := (5, 7, [(3, (0, 0, 0, [])), (4, (0, 0, 71, [])), (5, (0, 72, 72, [])), (6, (0, 1, 72, []))], [(6, [6, 4], [1]), (24, [0, 2], []), (100, [2, 4, 3], []), (7, [4, 5], [2]), (20, [0, 4], [8, 0, 0, 0])], [], [], [(20, [0, 6], [8, 0, 0, 0])], [], [(6, 4, 1, 1)])
theorem oo_jArr_fill1_v154_3 {kA : Nat → ClassId} : or_ok PRD kA GG o_jArr_fill1_v154_3 := by
  refine or_mk fun A ta ws vs hD hth hl => ?_
  intro t3 k3 t4 k4 t5 k5 t6 k6 d0 f0 f1 ta1 w1 le1 s1 f3 f4
  replace f0 := shm_4 f0
  replace f1 := shm_5 f1
  have s1 : (∀ b j, w_el ws b j = if b = v_ad (n_v vs 2) ∧ j = (v_iv (n_v vs 4)).toNat then v_iv (n_v vs 3) else w_el w1 b j) ∧ ∀ b k, w_fd ws b k = w_fd w1 b k := s1.2
  replace f3 := shm_6 f3
  replace f4 := shm_0 f4
  rw [← f1] at s1
  have nf0 : fc_1 PRD (20, [0, 6], [8, 0, 0, 0]) ws (vs) := by
    refine ⟨nf_in hl rfl, sgq_0 ?_⟩
    · show ∀ j : Nat, (j : Int) < v_iv (n_v vs 6) + 0 → 0 ≤ w_el ws (v_ad (n_v vs 0)) j ∧ w_el ws (v_ad (n_v vs 0)) j ≤ 0
      intro j hj
      by_cases hji : j = (v_iv (n_v vs 4)).toNat
      · rw [s1.1, if_pos ⟨rfl, hji⟩]; first | (constructor <;> omega) | (exfalso; omega)
      · rw [s1.1, if_neg (fun e => hji e.2)]; exact f4 j (by omega)
  refine ⟨(fun _ h => (by cases h)), [], trivial, ?_, (fun _ h => (by cases h))⟩
  rw [List.append_nil]
  exact List.forall_mem_cons.mpr ⟨⟨show (20 : Nat) < 100 from by decide, nf0⟩, (fun _ h => (by cases h))⟩
def n_jArr_fill1_v154_an : List an_T := [(5, [(0, (2, 0, 0, [122])), (1, (0, 0, 0, [])), (2, (0, 0, 72, [])), (3, (0, 72, 72, []))], [], (0, 0), [(0, 0, 99995), (1, 4, 72), (0, 0, 100000)], [], [], [(2, 0, 0, [122]), (0, 0, 0, [])], 0, [], [(20, [0, 4], [8, 0, 0, 0]), (24, [0, 2], [])])]
def t_jArr_fill1_v154_ct : ct_L := []
set_option maxRecDepth 100000 in
theorem c_jArr_fill1_v154 {l : Launch} {D : va_G} {kA : Nat → ClassId} : ct_ok PRD l D kA GG y_jArr_fill1 z_jArr_fill1 e_jArr_fill1_v154 := chk_all_ok (FT := []) (PT := []) (CT := t_jArr_fill1_v154_ct) (KT := []) (NT := []) (AN := n_jArr_fill1_v154_an) (OT := [o_jArr_fill1_v154_0, o_jArr_fill1_v154_1, o_jArr_fill1_v154_2, o_jArr_fill1_v154_3]) 3 200 (List.forall_mem_cons.mpr ⟨oo_jArr_fill1_v154_0, List.forall_mem_cons.mpr ⟨oo_jArr_fill1_v154_1, List.forall_mem_cons.mpr ⟨oo_jArr_fill1_v154_2, List.forall_mem_cons.mpr ⟨oo_jArr_fill1_v154_3, List.forall_mem_nil _⟩⟩⟩⟩) (by decide +kernel) ⟨List.forall_mem_nil _, List.forall_mem_nil _, List.forall_mem_nil _, List.forall_mem_nil _, List.forall_mem_nil _, GG_pl⟩ (by decide +kernel)
def e_jMath_floorDiv1_v155 : en_T := ([(0, -82000000, 2002000000, []), (0, 2, 2, [])], some (0, -82000001, 2002000000, []), true, 1, 0, 0, [], [], (0, [], [], [], []))
def n_jMath_floorDiv1_v155_an : List an_T := []
def t_jMath_floorDiv1_v155_ct : ct_L := []
set_option maxRecDepth 100000 in
theorem c_jMath_floorDiv1_v155 {l : Launch} {D : va_G} {kA : Nat → ClassId} : ct_ok PRD l D kA GG y_jMath_floorDiv1 z_jMath_floorDiv1 e_jMath_floorDiv1_v155 := chk_all_ok (FT := []) (PT := []) (CT := t_jMath_floorDiv1_v155_ct) (KT := []) (NT := []) (AN := n_jMath_floorDiv1_v155_an) (OT := []) 0 200 (List.forall_mem_nil _) (pl_Math rfl (by decide)) ⟨List.forall_mem_nil _, List.forall_mem_nil _, List.forall_mem_nil _, List.forall_mem_nil _, List.forall_mem_nil _, GG_pl⟩ (by decide +kernel)
def e_jMath_floorDiv2_v156 : en_T := ([(1, -60000, 60000, []), (1, 16, 16, [])], some (1, -60001, 60000, []), true, 1, 0, 0, [], [], (0, [], [], [], []))
def n_jMath_floorDiv2_v156_an : List an_T := []
def t_jMath_floorDiv2_v156_ct : ct_L := []
set_option maxRecDepth 100000 in
theorem c_jMath_floorDiv2_v156 {l : Launch} {D : va_G} {kA : Nat → ClassId} : ct_ok PRD l D kA GG y_jMath_floorDiv2 z_jMath_floorDiv2 e_jMath_floorDiv2_v156 := chk_all_ok (FT := []) (PT := []) (CT := t_jMath_floorDiv2_v156_ct) (KT := []) (NT := []) (AN := n_jMath_floorDiv2_v156_an) (OT := []) 0 200 (List.forall_mem_nil _) (pl_Math rfl (by decide)) ⟨List.forall_mem_nil _, List.forall_mem_nil _, List.forall_mem_nil _, List.forall_mem_nil _, List.forall_mem_nil _, GG_pl⟩ (by decide +kernel)
def e_jMath_min2_v157 : en_T := ([(1, 0, 256, []), (1, -9223372036854775808, 9223372036854775807, [])], some (1, -9223372036854775808, 256, []), true, 1, 0, 0, [], [], (0, [], [], [(23, [0, 2], [0, -1, 1]), (23, [1, 2], [0, -1, 1])], []))
def o_jMath_min2_v157_0 : or_T := (11, 2, [(0, (1, 0, 256, [])), (1, (1, -9223372036854775808, 255, []))], [(7, [0, 1], [4])], [], [], [(23, [0, 1], [0, -1, 1]), (23, [1, 1], [0, -1, 1])], [], [])
theorem oo_jMath_min2_v157_0 {kA : Nat → ClassId} : or_ok PRD kA GG o_jMath_min2_v157_0 := by
  refine or_mk fun A ta ws vs hD hth hl => ?_
  intro t0 k0 t1 k1 f0
  replace f0 := shm_21 f0
  have nf0 : fc_1 PRD (23, [0, 1], [0, -1, 1]) ws (vs) := by
    refine ⟨nf_in hl rfl, sgq_22 ?_⟩
    · show (-1) * v_iv (n_v vs 0) + (1 * v_iv (n_v vs 1) + 0) ≤ 0
      omega
  have nf1 : fc_1 PRD (23, [1, 1], [0, -1, 1]) ws (vs) := by
    refine ⟨nf_in hl rfl, sgq_23 ?_⟩
    · show (-1) * v_iv (n_v vs 1) + (1 * v_iv (n_v vs 1) + 0) ≤ 0
      omega
  refine ⟨(fun _ h => (by cases h)), [], trivial, ?_, (fun _ h => (by cases h))⟩
  rw [List.append_nil]
  exact List.forall_mem_cons.mpr ⟨⟨show (23 : Nat) < 100 from by decide, nf0⟩, List.forall_mem_cons.mpr ⟨⟨show (23 : Nat) < 100 from by decide, nf1⟩, (fun _ h => (by cases h))⟩⟩
def o_jMath_min2_v157_1 : or_T := (11, 2, [(0, (1, 0, 256, [])), (1, (1, 0, 9223372036854775807, []))], [(7, [0, 1], [5])], [], [], [(23, [0, 0], [0, -1, 1]), (23, [1, 0], [0, -1, 1])], [], [])
theorem oo_jMath_min2_v157_1 {kA : Nat → ClassId} : or_ok PRD kA GG o_jMath_min2_v157_1 := by
  refine or_mk fun A ta ws vs hD hth hl => ?_
  intro t0 k0 t1 k1 f0
  replace f0 := shm_24 f0
  have nf0 : fc_1 PRD (23, [0, 0], [0, -1, 1]) ws (vs) := by
    refine ⟨nf_in hl rfl, sgq_23 ?_⟩
    · show (-1) * v_iv (n_v vs 0) + (1 * v_iv (n_v vs 0) + 0) ≤ 0
      omega
  have nf1 : fc_1 PRD (23, [1, 0], [0, -1, 1]) ws (vs) := by
    refine ⟨nf_in hl rfl, sgq_22 ?_⟩
    · show (-1) * v_iv (n_v vs 1) + (1 * v_iv (n_v vs 0) + 0) ≤ 0
      omega
  refine ⟨(fun _ h => (by cases h)), [], trivial, ?_, (fun _ h => (by cases h))⟩
  rw [List.append_nil]
  exact List.forall_mem_cons.mpr ⟨⟨show (23 : Nat) < 100 from by decide, nf0⟩, List.forall_mem_cons.mpr ⟨⟨show (23 : Nat) < 100 from by decide, nf1⟩, (fun _ h => (by cases h))⟩⟩
def n_jMath_min2_v157_an : List an_T := []
def t_jMath_min2_v157_ct : ct_L := []
set_option maxRecDepth 100000 in
theorem c_jMath_min2_v157 {l : Launch} {D : va_G} {kA : Nat → ClassId} : ct_ok PRD l D kA GG y_jMath_min2 z_jMath_min2 e_jMath_min2_v157 := chk_all_ok (FT := []) (PT := []) (CT := t_jMath_min2_v157_ct) (KT := []) (NT := []) (AN := n_jMath_min2_v157_an) (OT := [o_jMath_min2_v157_0, o_jMath_min2_v157_1]) 0 200 (List.forall_mem_cons.mpr ⟨oo_jMath_min2_v157_0, List.forall_mem_cons.mpr ⟨oo_jMath_min2_v157_1, List.forall_mem_nil _⟩⟩) (pl_Math rfl (by decide)) ⟨List.forall_mem_nil _, List.forall_mem_nil _, List.forall_mem_nil _, List.forall_mem_nil _, List.forall_mem_nil _, GG_pl⟩ (by decide +kernel)
def e_jMath_max2_v158 : en_T := ([(1, -256, 0, []), (1, -9223372036854775808, 256, [])], some (1, -256, 256, []), true, 1, 0, 0, [], [], (0, [], [], [(23, [0, 2], [0, 1, -1]), (23, [1, 2], [0, 1, -1])], []))
def o_jMath_max2_v158_0 : or_T := (11, 2, [(0, (1, -256, 0, [])), (1, (1, -255, 256, []))], [(7, [0, 1], [2])], [], [], [(23, [0, 1], [0, 1, -1]), (23, [1, 1], [0, 1, -1])], [], [])
theorem oo_jMath_max2_v158_0 {kA : Nat → ClassId} : or_ok PRD kA GG o_jMath_max2_v158_0 := by
  refine or_mk fun A ta ws vs hD hth hl => ?_
  intro t0 k0 t1 k1 f0
  replace f0 := shm_6 f0
  have nf0 : fc_1 PRD (23, [0, 1], [0, 1, -1]) ws (vs) := by
    refine ⟨nf_in hl rfl, sgq_7 ?_⟩
    · show 1 * v_iv (n_v vs 0) + ((-1) * v_iv (n_v vs 1) + 0) ≤ 0
      omega
  have nf1 : fc_1 PRD (23, [1, 1], [0, 1, -1]) ws (vs) := by
    refine ⟨nf_in hl rfl, sgq_8 ?_⟩
    · show 1 * v_iv (n_v vs 1) + ((-1) * v_iv (n_v vs 1) + 0) ≤ 0
      omega
  refine ⟨(fun _ h => (by cases h)), [], trivial, ?_, (fun _ h => (by cases h))⟩
  rw [List.append_nil]
  exact List.forall_mem_cons.mpr ⟨⟨show (23 : Nat) < 100 from by decide, nf0⟩, List.forall_mem_cons.mpr ⟨⟨show (23 : Nat) < 100 from by decide, nf1⟩, (fun _ h => (by cases h))⟩⟩
def o_jMath_max2_v158_1 : or_T := (11, 2, [(0, (1, -256, 0, [])), (1, (1, -9223372036854775808, 0, []))], [(7, [0, 1], [3])], [], [], [(23, [0, 0], [0, 1, -1]), (23, [1, 0], [0, 1, -1])], [], [])
theorem oo_jMath_max2_v158_1 {kA : Nat → ClassId} : or_ok PRD kA GG o_jMath_max2_v158_1 := by
  refine or_mk fun A ta ws vs hD hth hl => ?_
  intro t0 k0 t1 k1 f0
  replace f0 := shm_2 f0
  have nf0 : fc_1 PRD (23, [0, 0], [0, 1, -1]) ws (vs) := by
    refine ⟨nf_in hl rfl, sgq_8 ?_⟩
    · show 1 * v_iv (n_v vs 0) + ((-1) * v_iv (n_v vs 0) + 0) ≤ 0
      omega
  have nf1 : fc_1 PRD (23, [1, 0], [0, 1, -1]) ws (vs) := by
    refine ⟨nf_in hl rfl, sgq_7 ?_⟩
    · show 1 * v_iv (n_v vs 1) + ((-1) * v_iv (n_v vs 0) + 0) ≤ 0
      omega
  refine ⟨(fun _ h => (by cases h)), [], trivial, ?_, (fun _ h => (by cases h))⟩
  rw [List.append_nil]
  exact List.forall_mem_cons.mpr ⟨⟨show (23 : Nat) < 100 from by decide, nf0⟩, List.forall_mem_cons.mpr ⟨⟨show (23 : Nat) < 100 from by decide, nf1⟩, (fun _ h => (by cases h))⟩⟩
def n_jMath_max2_v158_an : List an_T := []
def t_jMath_max2_v158_ct : ct_L := []
set_option maxRecDepth 100000 in
theorem c_jMath_max2_v158 {l : Launch} {D : va_G} {kA : Nat → ClassId} : ct_ok PRD l D kA GG y_jMath_max2 z_jMath_max2 e_jMath_max2_v158 := chk_all_ok (FT := []) (PT := []) (CT := t_jMath_max2_v158_ct) (KT := []) (NT := []) (AN := n_jMath_max2_v158_an) (OT := [o_jMath_max2_v158_0, o_jMath_max2_v158_1]) 0 200 (List.forall_mem_cons.mpr ⟨oo_jMath_max2_v158_0, List.forall_mem_cons.mpr ⟨oo_jMath_max2_v158_1, List.forall_mem_nil _⟩⟩) (pl_Math rfl (by decide)) ⟨List.forall_mem_nil _, List.forall_mem_nil _, List.forall_mem_nil _, List.forall_mem_nil _, List.forall_mem_nil _, GG_pl⟩ (by decide +kernel)
def e_jMath_min2_v159 : en_T := ([(1, 255, 255, []), (1, -9223372036854775808, 9223372036854775807, [])], some (1, -9223372036854775808, 255, []), true, 1, 0, 0, [], [], (0, [], [], [(23, [0, 2], [0, -1, 1]), (23, [1, 2], [0, -1, 1])], []))
def o_jMath_min2_v159_0 : or_T := (11, 2, [(0, (1, 255, 255, [])), (1, (1, -9223372036854775808, 254, []))], [(7, [0, 1], [4])], [], [], [(23, [0, 1], [0, -1, 1]), (23, [1, 1], [0, -1, 1])], [], [])
theorem oo_jMath_min2_v159_0 {kA : Nat → ClassId} : or_ok PRD kA GG o_jMath_min2_v159_0 := by
  refine or_mk fun A ta ws vs hD hth hl => ?_
  intro t0 k0 t1 k1 f0
  replace f0 := shm_21 f0
  have nf0 : fc_1 PRD (23, [0, 1], [0, -1, 1]) ws (vs) := by
    refine ⟨nf_in hl rfl, sgq_22 ?_⟩
    · show (-1) * v_iv (n_v vs 0) + (1 * v_iv (n_v vs 1) + 0) ≤ 0
      omega
  have nf1 : fc_1 PRD (23, [1, 1], [0, -1, 1]) ws (vs) := by
    refine ⟨nf_in hl rfl, sgq_23 ?_⟩
    · show (-1) * v_iv (n_v vs 1) + (1 * v_iv (n_v vs 1) + 0) ≤ 0
      omega
  refine ⟨(fun _ h => (by cases h)), [], trivial, ?_, (fun _ h => (by cases h))⟩
  rw [List.append_nil]
  exact List.forall_mem_cons.mpr ⟨⟨show (23 : Nat) < 100 from by decide, nf0⟩, List.forall_mem_cons.mpr ⟨⟨show (23 : Nat) < 100 from by decide, nf1⟩, (fun _ h => (by cases h))⟩⟩
def o_jMath_min2_v159_1 : or_T := (11, 2, [(0, (1, 255, 255, [])), (1, (1, 255, 9223372036854775807, []))], [(7, [0, 1], [5])], [], [], [(23, [0, 0], [0, -1, 1]), (23, [1, 0], [0, -1, 1])], [], [])
theorem oo_jMath_min2_v159_1 {kA : Nat → ClassId} : or_ok PRD kA GG o_jMath_min2_v159_1 := by
  refine or_mk fun A ta ws vs hD hth hl => ?_
  intro t0 k0 t1 k1 f0
  replace f0 := shm_24 f0
  have nf0 : fc_1 PRD (23, [0, 0], [0, -1, 1]) ws (vs) := by
    refine ⟨nf_in hl rfl, sgq_23 ?_⟩
    · show (-1) * v_iv (n_v vs 0) + (1 * v_iv (n_v vs 0) + 0) ≤ 0
      omega
  have nf1 : fc_1 PRD (23, [1, 0], [0, -1, 1]) ws (vs) := by
    refine ⟨nf_in hl rfl, sgq_22 ?_⟩
    · show (-1) * v_iv (n_v vs 1) + (1 * v_iv (n_v vs 0) + 0) ≤ 0
      omega
  refine ⟨(fun _ h => (by cases h)), [], trivial, ?_, (fun _ h => (by cases h))⟩
  rw [List.append_nil]
  exact List.forall_mem_cons.mpr ⟨⟨show (23 : Nat) < 100 from by decide, nf0⟩, List.forall_mem_cons.mpr ⟨⟨show (23 : Nat) < 100 from by decide, nf1⟩, (fun _ h => (by cases h))⟩⟩
def n_jMath_min2_v159_an : List an_T := []
def t_jMath_min2_v159_ct : ct_L := []
set_option maxRecDepth 100000 in
theorem c_jMath_min2_v159 {l : Launch} {D : va_G} {kA : Nat → ClassId} : ct_ok PRD l D kA GG y_jMath_min2 z_jMath_min2 e_jMath_min2_v159 := chk_all_ok (FT := []) (PT := []) (CT := t_jMath_min2_v159_ct) (KT := []) (NT := []) (AN := n_jMath_min2_v159_an) (OT := [o_jMath_min2_v159_0, o_jMath_min2_v159_1]) 0 200 (List.forall_mem_cons.mpr ⟨oo_jMath_min2_v159_0, List.forall_mem_cons.mpr ⟨oo_jMath_min2_v159_1, List.forall_mem_nil _⟩⟩) (pl_Math rfl (by decide)) ⟨List.forall_mem_nil _, List.forall_mem_nil _, List.forall_mem_nil _, List.forall_mem_nil _, List.forall_mem_nil _, GG_pl⟩ (by decide +kernel)
def e_jMath_max2_v160 : en_T := ([(1, 0, 0, []), (1, -9223372036854775808, 255, [])], some (1, 0, 255, []), true, 1, 0, 0, [], [], (0, [], [], [(23, [0, 2], [0, 1, -1]), (23, [1, 2], [0, 1, -1])], []))
def o_jMath_max2_v160_0 : or_T := (11, 2, [(0, (1, 0, 0, [])), (1, (1, 1, 255, []))], [(7, [0, 1], [2])], [], [], [(23, [0, 1], [0, 1, -1]), (23, [1, 1], [0, 1, -1])], [], [])
theorem oo_jMath_max2_v160_0 {kA : Nat → ClassId} : or_ok PRD kA GG o_jMath_max2_v160_0 := by
  refine or_mk fun A ta ws vs hD hth hl => ?_
  intro t0 k0 t1 k1 f0
  replace f0 := shm_6 f0
  have nf0 : fc_1 PRD (23, [0, 1], [0, 1, -1]) ws (vs) := by
    refine ⟨nf_in hl rfl, sgq_7 ?_⟩
    · show 1 * v_iv (n_v vs 0) + ((-1) * v_iv (n_v vs 1) + 0) ≤ 0
      omega
  have nf1 : fc_1 PRD (23, [1, 1], [0, 1, -1]) ws (vs) := by
    refine ⟨nf_in hl rfl, sgq_8 ?_⟩
    · show 1 * v_iv (n_v vs 1) + ((-1) * v_iv (n_v vs 1) + 0) ≤ 0
      omega
  refine ⟨(fun _ h => (by cases h)), [], trivial, ?_, (fun _ h => (by cases h))⟩
  rw [List.append_nil]
  exact List.forall_mem_cons.mpr ⟨⟨show (23 : Nat) < 100 from by decide, nf0⟩, List.forall_mem_cons.mpr ⟨⟨show (23 : Nat) < 100 from by decide, nf1⟩, (fun _ h => (by cases h))⟩⟩
def o_jMath_max2_v160_1 : or_T := (11, 2, [(0, (1, 0, 0, [])), (1, (1, -9223372036854775808, 0, []))], [(7, [0, 1], [3])], [], [], [(23, [0, 0], [0, 1, -1]), (23, [1, 0], [0, 1, -1])], [], [])
theorem oo_jMath_max2_v160_1 {kA : Nat → ClassId} : or_ok PRD kA GG o_jMath_max2_v160_1 := by
  refine or_mk fun A ta ws vs hD hth hl => ?_
  intro t0 k0 t1 k1 f0
  replace f0 := shm_2 f0
  have nf0 : fc_1 PRD (23, [0, 0], [0, 1, -1]) ws (vs) := by
    refine ⟨nf_in hl rfl, sgq_8 ?_⟩
    · show 1 * v_iv (n_v vs 0) + ((-1) * v_iv (n_v vs 0) + 0) ≤ 0
      omega
  have nf1 : fc_1 PRD (23, [1, 0], [0, 1, -1]) ws (vs) := by
    refine ⟨nf_in hl rfl, sgq_7 ?_⟩
    · show 1 * v_iv (n_v vs 1) + ((-1) * v_iv (n_v vs 0) + 0) ≤ 0
      omega
  refine ⟨(fun _ h => (by cases h)), [], trivial, ?_, (fun _ h => (by cases h))⟩
  rw [List.append_nil]
  exact List.forall_mem_cons.mpr ⟨⟨show (23 : Nat) < 100 from by decide, nf0⟩, List.forall_mem_cons.mpr ⟨⟨show (23 : Nat) < 100 from by decide, nf1⟩, (fun _ h => (by cases h))⟩⟩
def n_jMath_max2_v160_an : List an_T := []
def t_jMath_max2_v160_ct : ct_L := []
set_option maxRecDepth 100000 in
theorem c_jMath_max2_v160 {l : Launch} {D : va_G} {kA : Nat → ClassId} : ct_ok PRD l D kA GG y_jMath_max2 z_jMath_max2 e_jMath_max2_v160 := chk_all_ok (FT := []) (PT := []) (CT := t_jMath_max2_v160_ct) (KT := []) (NT := []) (AN := n_jMath_max2_v160_an) (OT := [o_jMath_max2_v160_0, o_jMath_max2_v160_1]) 0 200 (List.forall_mem_cons.mpr ⟨oo_jMath_max2_v160_0, List.forall_mem_cons.mpr ⟨oo_jMath_max2_v160_1, List.forall_mem_nil _⟩⟩) (pl_Math rfl (by decide)) ⟨List.forall_mem_nil _, List.forall_mem_nil _, List.forall_mem_nil _, List.forall_mem_nil _, List.forall_mem_nil _, GG_pl⟩ (by decide +kernel)
def e_jMath_floorDiv1_v161 : en_T := ([(0, -600000000, 600000000, []), (0, 2, 2, [])], some (0, -600000001, 600000000, []), true, 1, 0, 0, [], [], (0, [], [], [(20, [2, 0], [50, 0, 0, 0, 6, 6, 2, 0, 2, 1, 0, 1, 1]), (20, [0, 2], [50, 0, 0, 0, 2, 1, 0, 4, 6, 6, 2, 0, 2, 1, 1, 0, 1])], []))
def o_jMath_floorDiv1_v161_0 : or_T := (22, 4, [(0, (0, -600000000, 600000000, [])), (1, (0, 2, 2, [])), (2, (0, -600000000, 600000000, [])), (3, (0, 0, 2147483647, []))], [(8, [3], [3]), (16, [3, 0, 1], [2]), (4, [2, 0, 1], [])], [], [], [(20, [2, 0], [50, 0, 0, 0, 6, 6, 2, 0, 2, 1, 0, 1, 1]), (20, [0, 2], [50, 0, 0, 0, 2, 1, 0, 4, 6, 6, 2, 0, 2, 1, 1, 0, 1])], [], [])
theorem oo_jMath_floorDiv1_v161_0 {kA : Nat → ClassId} : or_ok PRD kA GG o_jMath_floorDiv1_v161_0 := by
  refine or_mk fun A ta ws vs hD hth hl => ?_
  intro t0 k0 t1 k1 t2 k2 t3 k3 f0 f1 f2
  replace f0 := shm_32 f0
  replace f1 := shm_33 f1
  replace f2 := shm_34 f2
  have g5 := fdv (x := v_iv (n_v vs 0)) (y := v_iv (n_v vs 1)) (q := v_iv (n_v vs 2)) (by assumption) (by omega)
  have g8 : v_iv (n_v vs 2) * v_iv (n_v vs 1) = v_iv (n_v vs 1) * v_iv (n_v vs 2) := Int.mul_comm _ _
  have g7 := xor_sg (n := v_iv (n_v vs 3)) (a := v_iv (n_v vs 0)) (b := v_iv (n_v vs 1)) (by assumption) (by omega) (by omega) (by omega)
  have nf0 : fc_1 PRD (20, [2, 0], [50, 0, 0, 0, 6, 6, 2, 0, 2, 1, 0, 1, 1]) ws (vs) := by
    refine ⟨nf_in hl rfl, sgq_41 ?_⟩
    · show (2 * v_iv (n_v vs 2)) ≤ v_iv (n_v vs 0)
      first | omega | grind
  have nf1 : fc_1 PRD (20, [0, 2], [50, 0, 0, 0, 2, 1, 0, 4, 6, 6, 2, 0, 2, 1, 1, 0, 1]) ws (vs) := by
    refine ⟨nf_in hl rfl, sgq_42 ?_⟩
    · show v_iv (n_v vs 0) ≤ ((2 * v_iv (n_v vs 2)) + 1)
      first | omega | grind
  refine ⟨(fun _ h => (by cases h)), [], trivial, ?_, (fun _ h => (by cases h))⟩
  rw [List.append_nil]
  exact List.forall_mem_cons.mpr ⟨⟨show (20 : Nat) < 100 from by decide, nf0⟩, List.forall_mem_cons.mpr ⟨⟨show (20 : Nat) < 100 from by decide, nf1⟩, (fun _ h => (by cases h))⟩⟩
def o_jMath_floorDiv1_v161_1 : or_T := (22, 5, [(0, (0, -600000000, 600000000, [])), (1, (0, 2, 2, [])), (2, (0, -600000000, 600000000, [])), (3, (0, -2147483648, -1, [])), (4, (0, -600000000, 600000000, []))], [(7, [4, 0], [0]), (3, [4, 2, 1], []), (8, [3], [2]), (16, [3, 0, 1], [2]), (4, [2, 0, 1], [])], [], [], [(20, [2, 0], [50, 0, 0, 0, 6, 6, 2, 0, 2, 1, 0, 1, 1]), (20, [0, 2], [50, 0, 0, 0, 2, 1, 0, 4, 6, 6, 2, 0, 2, 1, 1, 0, 1])], [], [(4, 0, 0, 0)])
theorem oo_jMath_floorDiv1_v161_1 {kA : Nat → ClassId} : or_ok PRD kA GG o_jMath_floorDiv1_v161_1 := by
  refine or_mk fun A ta ws vs hD hth hl => ?_
  intro t0 k0 t1 k1 t2 k2 t3 k3 t4 k4 d0 f0 f1 f2 f3 f4
  replace f0 := shm_37 f0
  replace f1 := shm_38 f1
  rw [show v_iv (n_v vs 1) = 2 from by omega] at f1
  replace f2 := shm_39 f2
  replace f3 := shm_33 f3
  replace f4 := shm_34 f4
  have g5 := fdv (x := v_iv (n_v vs 0)) (y := v_iv (n_v vs 1)) (q := v_iv (n_v vs 2)) (by assumption) (by omega)
  have g8 : v_iv (n_v vs 2) * v_iv (n_v vs 1) = v_iv (n_v vs 1) * v_iv (n_v vs 2) := Int.mul_comm _ _
  have g7 := xor_sg (n := v_iv (n_v vs 3)) (a := v_iv (n_v vs 0)) (b := v_iv (n_v vs 1)) (by assumption) (by omega) (by omega) (by omega)
  have nf0 : fc_1 PRD (20, [2, 0], [50, 0, 0, 0, 6, 6, 2, 0, 2, 1, 0, 1, 1]) ws (vs) := by
    refine ⟨nf_in hl rfl, sgq_41 ?_⟩
    · show (2 * v_iv (n_v vs 2)) ≤ v_iv (n_v vs 0)
      first | omega | grind
  have nf1 : fc_1 PRD (20, [0, 2], [50, 0, 0, 0, 2, 1, 0, 4, 6, 6, 2, 0, 2, 1, 1, 0, 1]) ws (vs) := by
    refine ⟨nf_in hl rfl, sgq_42 ?_⟩
    · show v_iv (n_v vs 0) ≤ ((2 * v_iv (n_v vs 2)) + 1)
      first | omega | grind
  refine ⟨(fun _ h => (by cases h)), [], trivial, ?_, (fun _ h => (by cases h))⟩
  rw [List.append_nil]
  exact List.forall_mem_cons.mpr ⟨⟨show (20 : Nat) < 100 from by decide, nf0⟩, List.forall_mem_cons.mpr ⟨⟨show (20 : Nat) < 100 from by decide, nf1⟩, (fun _ h => (by cases h))⟩⟩
def o_jMath_floorDiv1_v161_2 : or_T := (20, 7, [(0, (0, -600000000, 600000000, [])), (1, (0, 2, 2, [])), (2, (0, -600000000, 600000000, [])), (3, (0, -2147483648, -1, [])), (4, (0, -1200000000, 1200000000, [])), (5, (0, 1, 1, [])), (6, (0, -600000001, 599999999, []))], [(2, [6, 2, 5], []), (7, [4, 0], [1]), (3, [4, 2, 1], []), (8, [3], [2]), (16, [3, 0, 1], [2]), (4, [2, 0, 1], [])], [], [], [(20, [6, 0], [50, 0, 0, 0, 6, 6, 2, 0, 2, 1, 0, 1, 1]), (20, [0, 6], [50, 0, 0, 0, 2, 1, 0, 4, 6, 6, 2, 0, 2, 1, 1, 0, 1])], [], [(6, 2, -1, -1)])
theorem oo_jMath_floorDiv1_v161_2 {kA : Nat → ClassId} : or_ok PRD kA GG o_jMath_floorDiv1_v161_2 := by
  refine or_mk fun A ta ws vs hD hth hl => ?_
  intro t0 k0 t1 k1 t2 k2 t3 k3 t4 k4 t5 k5 t6 k6 d0 f0 f1 f2 f3 f4 f5
  replace f0 := shm_14 f0
  replace f1 := shm_40 f1
  replace f2 := shm_38 f2
  rw [show v_iv (n_v vs 1) = 2 from by omega] at f2
  replace f3 := shm_39 f3
  replace f4 := shm_33 f4
  replace f5 := shm_34 f5
  have g5 := fdv (x := v_iv (n_v vs 0)) (y := v_iv (n_v vs 1)) (q := v_iv (n_v vs 2)) (by assumption) (by omega)
  have g8 : v_iv (n_v vs 2) * v_iv (n_v vs 1) = v_iv (n_v vs 1) * v_iv (n_v vs 2) := Int.mul_comm _ _
  have g6 := fd_1 (y := v_iv (n_v vs 1)) (q := v_iv (n_v vs 2)) (n := v_iv (n_v vs 6)) (by omega)
  have g7 := xor_sg (n := v_iv (n_v vs 3)) (a := v_iv (n_v vs 0)) (b := v_iv (n_v vs 1)) (by assumption) (by omega) (by omega) (by omega)
  have nf0 : fc_1 PRD (20, [6, 0], [50, 0, 0, 0, 6, 6, 2, 0, 2, 1, 0, 1, 1]) ws (vs) := by
    refine ⟨nf_in hl rfl, sgq_41 ?_⟩
    · show (2 * v_iv (n_v vs 6)) ≤ v_iv (n_v vs 0)
      first | omega | grind
  have nf1 : fc_1 PRD (20, [0, 6], [50, 0, 0, 0, 2, 1, 0, 4, 6, 6, 2, 0, 2, 1, 1, 0, 1]) ws (vs) := by
    refine ⟨nf_in hl rfl, sgq_42 ?_⟩
    · show v_iv (n_v vs 0) ≤ ((2 * v_iv (n_v vs 6)) + 1)
      first | omega | grind
  refine ⟨(fun _ h => (by cases h)), [], trivial, ?_, (fun _ h => (by cases h))⟩
  rw [List.append_nil]
  exact List.forall_mem_cons.mpr ⟨⟨show (20 : Nat) < 100 from by decide, nf0⟩, List.forall_mem_cons.mpr ⟨⟨show (20 : Nat) < 100 from by decide, nf1⟩, (fun _ h => (by cases h))⟩⟩
def n_jMath_floorDiv1_v161_an : List an_T := []
def t_jMath_floorDiv1_v161_ct : ct_L := []
set_option maxRecDepth 100000 in
theorem c_jMath_floorDiv1_v161 {l : Launch} {D : va_G} {kA : Nat → ClassId} : ct_ok PRD l D kA GG y_jMath_floorDiv1 z_jMath_floorDiv1 e_jMath_floorDiv1_v161 := chk_all_ok (FT := []) (PT := []) (CT := t_jMath_floorDiv1_v161_ct) (KT := []) (NT := []) (AN := n_jMath_floorDiv1_v161_an) (OT := [o_jMath_floorDiv1_v161_0, o_jMath_floorDiv1_v161_1, o_jMath_floorDiv1_v161_2]) 0 200 (List.forall_mem_cons.mpr ⟨oo_jMath_floorDiv1_v161_0, List.forall_mem_cons.mpr ⟨oo_jMath_floorDiv1_v161_1, List.forall_mem_cons.mpr ⟨oo_jMath_floorDiv1_v161_2, List.forall_mem_nil _⟩⟩⟩) (pl_Math rfl (by decide)) ⟨List.forall_mem_nil _, List.forall_mem_nil _, List.forall_mem_nil _, List.forall_mem_nil _, List.forall_mem_nil _, GG_pl⟩ (by decide +kernel)
def e_jMath_floorDiv1_v162 : en_T := ([(0, -1000001, 999999, []), (0, 2, 2, [])], some (0, -1000002, 999999, []), true, 1, 0, 0, [], [], (0, [], [], [], []))
def n_jMath_floorDiv1_v162_an : List an_T := []
def t_jMath_floorDiv1_v162_ct : ct_L := []
set_option maxRecDepth 100000 in
theorem c_jMath_floorDiv1_v162 {l : Launch} {D : va_G} {kA : Nat → ClassId} : ct_ok PRD l D kA GG y_jMath_floorDiv1 z_jMath_floorDiv1 e_jMath_floorDiv1_v162 := chk_all_ok (FT := []) (PT := []) (CT := t_jMath_floorDiv1_v162_ct) (KT := []) (NT := []) (AN := n_jMath_floorDiv1_v162_an) (OT := []) 0 200 (List.forall_mem_nil _) (pl_Math rfl (by decide)) ⟨List.forall_mem_nil _, List.forall_mem_nil _, List.forall_mem_nil _, List.forall_mem_nil _, List.forall_mem_nil _, GG_pl⟩ (by decide +kernel)
def e_jMath_floorDiv1_v163 : en_T := ([(0, -2000000, 2000000, []), (0, 2, 2, [])], some (0, -2000001, 2000000, []), true, 1, 0, 0, [], [], (0, [], [], [], []))
def n_jMath_floorDiv1_v163_an : List an_T := []
def t_jMath_floorDiv1_v163_ct : ct_L := []
set_option maxRecDepth 100000 in
theorem c_jMath_floorDiv1_v163 {l : Launch} {D : va_G} {kA : Nat → ClassId} : ct_ok PRD l D kA GG y_jMath_floorDiv1 z_jMath_floorDiv1 e_jMath_floorDiv1_v163 := chk_all_ok (FT := []) (PT := []) (CT := t_jMath_floorDiv1_v163_ct) (KT := []) (NT := []) (AN := n_jMath_floorDiv1_v163_an) (OT := []) 0 200 (List.forall_mem_nil _) (pl_Math rfl (by decide)) ⟨List.forall_mem_nil _, List.forall_mem_nil _, List.forall_mem_nil _, List.forall_mem_nil _, List.forall_mem_nil _, GG_pl⟩ (by decide +kernel)
def e_jMath_abs1_v164 : en_T := ([(0, -126, 126, [])], some (0, 0, 126, []), true, 1, 0, 0, [], [], (0, [], [], [], []))
def n_jMath_abs1_v164_an : List an_T := []
def t_jMath_abs1_v164_ct : ct_L := []
set_option maxRecDepth 100000 in
theorem c_jMath_abs1_v164 {l : Launch} {D : va_G} {kA : Nat → ClassId} : ct_ok PRD l D kA GG y_jMath_abs1 z_jMath_abs1 e_jMath_abs1_v164 := chk_all_ok (FT := []) (PT := []) (CT := t_jMath_abs1_v164_ct) (KT := []) (NT := []) (AN := n_jMath_abs1_v164_an) (OT := []) 0 200 (List.forall_mem_nil _) (pl_Math rfl (by decide)) ⟨List.forall_mem_nil _, List.forall_mem_nil _, List.forall_mem_nil _, List.forall_mem_nil _, List.forall_mem_nil _, GG_pl⟩ (by decide +kernel)
def e_jMath_max1_v165 : en_T := ([(0, 0, 126, []), (0, 0, 126, [])], some (0, 0, 126, []), true, 1, 0, 0, [], [], (0, [], [], [(23, [0, 2], [0, 1, -1]), (23, [1, 2], [0, 1, -1])], []))
def o_jMath_max1_v165_0 : or_T := (10, 2, [(0, (0, 0, 125, [])), (1, (0, 1, 126, []))], [(7, [0, 1], [2])], [], [], [(23, [0, 1], [0, 1, -1]), (23, [1, 1], [0, 1, -1])], [], [(0, 1, -4294967296, -1)])
theorem oo_jMath_max1_v165_0 {kA : Nat → ClassId} : or_ok PRD kA GG o_jMath_max1_v165_0 := by
  refine or_mk fun A ta ws vs hD hth hl => ?_
  intro t0 k0 t1 k1 d0 f0
  replace f0 := shm_6 f0
  have nf0 : fc_1 PRD (23, [0, 1], [0, 1, -1]) ws (vs) := by
    refine ⟨nf_in hl rfl, sgq_7 ?_⟩
    · show 1 * v_iv (n_v vs 0) + ((-1) * v_iv (n_v vs 1) + 0) ≤ 0
      omega
  have nf1 : fc_1 PRD (23, [1, 1], [0, 1, -1]) ws (vs) := by
    refine ⟨nf_in hl rfl, sgq_8 ?_⟩
    · show 1 * v_iv (n_v vs 1) + ((-1) * v_iv (n_v vs 1) + 0) ≤ 0
      omega
  refine ⟨(fun _ h => (by cases h)), [], trivial, ?_, (fun _ h => (by cases h))⟩
  rw [List.append_nil]
  exact List.forall_mem_cons.mpr ⟨⟨show (23 : Nat) < 100 from by decide, nf0⟩, List.forall_mem_cons.mpr ⟨⟨show (23 : Nat) < 100 from by decide, nf1⟩, (fun _ h => (by cases h))⟩⟩
def o_jMath_max1_v165_1 : or_T := (10, 2, [(0, (0, 0, 126, [])), (1, (0, 0, 126, []))], [(7, [0, 1], [3])], [], [], [(23, [0, 0], [0, 1, -1]), (23, [1, 0], [0, 1, -1])], [], [(0, 1, 0, 4294967296)])
theorem oo_jMath_max1_v165_1 {kA : Nat → ClassId} : or_ok PRD kA GG o_jMath_max1_v165_1 := by
  refine or_mk fun A ta ws vs hD hth hl => ?_
  intro t0 k0 t1 k1 d0 f0
  replace f0 := shm_2 f0
  have nf0 : fc_1 PRD (23, [0, 0], [0, 1, -1]) ws (vs) := by
    refine ⟨nf_in hl rfl, sgq_8 ?_⟩
    · show 1 * v_iv (n_v vs 0) + ((-1) * v_iv (n_v vs 0) + 0) ≤ 0
      omega
  have nf1 : fc_1 PRD (23, [1, 0], [0, 1, -1]) ws (vs) := by
    refine ⟨nf_in hl rfl, sgq_7 ?_⟩
    · show 1 * v_iv (n_v vs 1) + ((-1) * v_iv (n_v vs 0) + 0) ≤ 0
      omega
  refine ⟨(fun _ h => (by cases h)), [], trivial, ?_, (fun _ h => (by cases h))⟩
  rw [List.append_nil]
  exact List.forall_mem_cons.mpr ⟨⟨show (23 : Nat) < 100 from by decide, nf0⟩, List.forall_mem_cons.mpr ⟨⟨show (23 : Nat) < 100 from by decide, nf1⟩, (fun _ h => (by cases h))⟩⟩
def n_jMath_max1_v165_an : List an_T := []
def t_jMath_max1_v165_ct : ct_L := []
set_option maxRecDepth 100000 in
theorem c_jMath_max1_v165 {l : Launch} {D : va_G} {kA : Nat → ClassId} : ct_ok PRD l D kA GG y_jMath_max1 z_jMath_max1 e_jMath_max1_v165 := chk_all_ok (FT := []) (PT := []) (CT := t_jMath_max1_v165_ct) (KT := []) (NT := []) (AN := n_jMath_max1_v165_an) (OT := [o_jMath_max1_v165_0, o_jMath_max1_v165_1]) 0 200 (List.forall_mem_cons.mpr ⟨oo_jMath_max1_v165_0, List.forall_mem_cons.mpr ⟨oo_jMath_max1_v165_1, List.forall_mem_nil _⟩⟩) (pl_Math rfl (by decide)) ⟨List.forall_mem_nil _, List.forall_mem_nil _, List.forall_mem_nil _, List.forall_mem_nil _, List.forall_mem_nil _, GG_pl⟩ (by decide +kernel)
def e_jMath_floorDiv1_v166 : en_T := ([(0, 1, 126, []), (0, 2, 252, [])], some (0, 0, 63, []), true, 1, 0, 0, [], [], (0, [], [], [], []))
def n_jMath_floorDiv1_v166_an : List an_T := []
def t_jMath_floorDiv1_v166_ct : ct_L := []
set_option maxRecDepth 100000 in
theorem c_jMath_floorDiv1_v166 {l : Launch} {D : va_G} {kA : Nat → ClassId} : ct_ok PRD l D kA GG y_jMath_floorDiv1 z_jMath_floorDiv1 e_jMath_floorDiv1_v166 := chk_all_ok (FT := []) (PT := []) (CT := t_jMath_floorDiv1_v166_ct) (KT := []) (NT := []) (AN := n_jMath_floorDiv1_v166_an) (OT := []) 0 200 (List.forall_mem_nil _) (pl_Math rfl (by decide)) ⟨List.forall_mem_nil _, List.forall_mem_nil _, List.forall_mem_nil _, List.forall_mem_nil _, List.forall_mem_nil _, GG_pl⟩ (by decide +kernel)
def e_jMath_floorDiv1_v167 : en_T := ([(0, -251, 378, []), (0, 2, 252, [])], some (0, -252, 378, []), true, 1, 0, 0, [], [], (0, [], [], [], []))
def n_jMath_floorDiv1_v167_an : List an_T := []
def t_jMath_floorDiv1_v167_ct : ct_L := []
set_option maxRecDepth 100000 in
theorem c_jMath_floorDiv1_v167 {l : Launch} {D : va_G} {kA : Nat → ClassId} : ct_ok PRD l D kA GG y_jMath_floorDiv1 z_jMath_floorDiv1 e_jMath_floorDiv1_v167 := chk_all_ok (FT := []) (PT := []) (CT := t_jMath_floorDiv1_v167_ct) (KT := []) (NT := []) (AN := n_jMath_floorDiv1_v167_an) (OT := []) 0 200 (List.forall_mem_nil _) (pl_Math rfl (by decide)) ⟨List.forall_mem_nil _, List.forall_mem_nil _, List.forall_mem_nil _, List.forall_mem_nil _, List.forall_mem_nil _, GG_pl⟩ (by decide +kernel)
def e_jMath_floorDiv1_v168 : en_T := ([(0, -503, 630, []), (0, 2, 252, [])], some (0, -504, 630, []), true, 1, 0, 0, [], [], (0, [], [], [], []))
def n_jMath_floorDiv1_v168_an : List an_T := []
def t_jMath_floorDiv1_v168_ct : ct_L := []
set_option maxRecDepth 100000 in
theorem c_jMath_floorDiv1_v168 {l : Launch} {D : va_G} {kA : Nat → ClassId} : ct_ok PRD l D kA GG y_jMath_floorDiv1 z_jMath_floorDiv1 e_jMath_floorDiv1_v168 := chk_all_ok (FT := []) (PT := []) (CT := t_jMath_floorDiv1_v168_ct) (KT := []) (NT := []) (AN := n_jMath_floorDiv1_v168_an) (OT := []) 0 200 (List.forall_mem_nil _) (pl_Math rfl (by decide)) ⟨List.forall_mem_nil _, List.forall_mem_nil _, List.forall_mem_nil _, List.forall_mem_nil _, List.forall_mem_nil _, GG_pl⟩ (by decide +kernel)
def e_jMath_floorDiv1_v169 : en_T := ([(0, -755, 882, []), (0, 2, 252, [])], some (0, -756, 882, []), true, 1, 0, 0, [], [], (0, [], [], [], []))
def n_jMath_floorDiv1_v169_an : List an_T := []
def t_jMath_floorDiv1_v169_ct : ct_L := []
set_option maxRecDepth 100000 in
theorem c_jMath_floorDiv1_v169 {l : Launch} {D : va_G} {kA : Nat → ClassId} : ct_ok PRD l D kA GG y_jMath_floorDiv1 z_jMath_floorDiv1 e_jMath_floorDiv1_v169 := chk_all_ok (FT := []) (PT := []) (CT := t_jMath_floorDiv1_v169_ct) (KT := []) (NT := []) (AN := n_jMath_floorDiv1_v169_an) (OT := []) 0 200 (List.forall_mem_nil _) (pl_Math rfl (by decide)) ⟨List.forall_mem_nil _, List.forall_mem_nil _, List.forall_mem_nil _, List.forall_mem_nil _, List.forall_mem_nil _, GG_pl⟩ (by decide +kernel)
def e_jMath_floorDiv1_v170 : en_T := ([(0, -1007, 1134, []), (0, 2, 252, [])], some (0, -1008, 1134, []), true, 1, 0, 0, [], [], (0, [], [], [], []))
def n_jMath_floorDiv1_v170_an : List an_T := []
def t_jMath_floorDiv1_v170_ct : ct_L := []
set_option maxRecDepth 100000 in
theorem c_jMath_floorDiv1_v170 {l : Launch} {D : va_G} {kA : Nat → ClassId} : ct_ok PRD l D kA GG y_jMath_floorDiv1 z_jMath_floorDiv1 e_jMath_floorDiv1_v170 := chk_all_ok (FT := []) (PT := []) (CT := t_jMath_floorDiv1_v170_ct) (KT := []) (NT := []) (AN := n_jMath_floorDiv1_v170_an) (OT := []) 0 200 (List.forall_mem_nil _) (pl_Math rfl (by decide)) ⟨List.forall_mem_nil _, List.forall_mem_nil _, List.forall_mem_nil _, List.forall_mem_nil _, List.forall_mem_nil _, GG_pl⟩ (by decide +kernel)
def e_jMath_floorDiv1_v171 : en_T := ([(0, -1763, 1890, []), (0, 2, 252, [])], some (0, -1764, 1890, []), true, 1, 0, 0, [], [], (0, [], [], [], []))
def n_jMath_floorDiv1_v171_an : List an_T := []
def t_jMath_floorDiv1_v171_ct : ct_L := []
set_option maxRecDepth 100000 in
theorem c_jMath_floorDiv1_v171 {l : Launch} {D : va_G} {kA : Nat → ClassId} : ct_ok PRD l D kA GG y_jMath_floorDiv1 z_jMath_floorDiv1 e_jMath_floorDiv1_v171 := chk_all_ok (FT := []) (PT := []) (CT := t_jMath_floorDiv1_v171_ct) (KT := []) (NT := []) (AN := n_jMath_floorDiv1_v171_an) (OT := []) 0 200 (List.forall_mem_nil _) (pl_Math rfl (by decide)) ⟨List.forall_mem_nil _, List.forall_mem_nil _, List.forall_mem_nil _, List.forall_mem_nil _, List.forall_mem_nil _, GG_pl⟩ (by decide +kernel)
def e_jMath_floorDiv1_v172 : en_T := ([(0, -2015, 2142, []), (0, 2, 252, [])], some (0, -2016, 2142, []), true, 1, 0, 0, [], [], (0, [], [], [], []))
def n_jMath_floorDiv1_v172_an : List an_T := []
def t_jMath_floorDiv1_v172_ct : ct_L := []
set_option maxRecDepth 100000 in
theorem c_jMath_floorDiv1_v172 {l : Launch} {D : va_G} {kA : Nat → ClassId} : ct_ok PRD l D kA GG y_jMath_floorDiv1 z_jMath_floorDiv1 e_jMath_floorDiv1_v172 := chk_all_ok (FT := []) (PT := []) (CT := t_jMath_floorDiv1_v172_ct) (KT := []) (NT := []) (AN := n_jMath_floorDiv1_v172_an) (OT := []) 0 200 (List.forall_mem_nil _) (pl_Math rfl (by decide)) ⟨List.forall_mem_nil _, List.forall_mem_nil _, List.forall_mem_nil _, List.forall_mem_nil _, List.forall_mem_nil _, GG_pl⟩ (by decide +kernel)
def e_jMath_floorDiv1_v173 : en_T := ([(0, -3779, 3906, []), (0, 2, 252, [])], some (0, -3780, 3906, []), true, 1, 0, 0, [], [], (0, [], [], [], []))
def n_jMath_floorDiv1_v173_an : List an_T := []
def t_jMath_floorDiv1_v173_ct : ct_L := []
set_option maxRecDepth 100000 in
theorem c_jMath_floorDiv1_v173 {l : Launch} {D : va_G} {kA : Nat → ClassId} : ct_ok PRD l D kA GG y_jMath_floorDiv1 z_jMath_floorDiv1 e_jMath_floorDiv1_v173 := chk_all_ok (FT := []) (PT := []) (CT := t_jMath_floorDiv1_v173_ct) (KT := []) (NT := []) (AN := n_jMath_floorDiv1_v173_an) (OT := []) 0 200 (List.forall_mem_nil _) (pl_Math rfl (by decide)) ⟨List.forall_mem_nil _, List.forall_mem_nil _, List.forall_mem_nil _, List.forall_mem_nil _, List.forall_mem_nil _, GG_pl⟩ (by decide +kernel)
def e_jMath_floorDiv1_v174 : en_T := ([(0, -4031, 4158, []), (0, 2, 252, [])], some (0, -4032, 4158, []), true, 1, 0, 0, [], [], (0, [], [], [], []))
def n_jMath_floorDiv1_v174_an : List an_T := []
def t_jMath_floorDiv1_v174_ct : ct_L := []
set_option maxRecDepth 100000 in
theorem c_jMath_floorDiv1_v174 {l : Launch} {D : va_G} {kA : Nat → ClassId} : ct_ok PRD l D kA GG y_jMath_floorDiv1 z_jMath_floorDiv1 e_jMath_floorDiv1_v174 := chk_all_ok (FT := []) (PT := []) (CT := t_jMath_floorDiv1_v174_ct) (KT := []) (NT := []) (AN := n_jMath_floorDiv1_v174_an) (OT := []) 0 200 (List.forall_mem_nil _) (pl_Math rfl (by decide)) ⟨List.forall_mem_nil _, List.forall_mem_nil _, List.forall_mem_nil _, List.forall_mem_nil _, List.forall_mem_nil _, GG_pl⟩ (by decide +kernel)
def e_jMath_floorDiv1_v175 : en_T := ([(0, -5795, 5922, []), (0, 2, 252, [])], some (0, -5796, 5922, []), true, 1, 0, 0, [], [], (0, [], [], [], []))
def n_jMath_floorDiv1_v175_an : List an_T := []
def t_jMath_floorDiv1_v175_ct : ct_L := []
set_option maxRecDepth 100000 in
theorem c_jMath_floorDiv1_v175 {l : Launch} {D : va_G} {kA : Nat → ClassId} : ct_ok PRD l D kA GG y_jMath_floorDiv1 z_jMath_floorDiv1 e_jMath_floorDiv1_v175 := chk_all_ok (FT := []) (PT := []) (CT := t_jMath_floorDiv1_v175_ct) (KT := []) (NT := []) (AN := n_jMath_floorDiv1_v175_an) (OT := []) 0 200 (List.forall_mem_nil _) (pl_Math rfl (by decide)) ⟨List.forall_mem_nil _, List.forall_mem_nil _, List.forall_mem_nil _, List.forall_mem_nil _, List.forall_mem_nil _, GG_pl⟩ (by decide +kernel)
def e_jMath_floorDiv1_v176 : en_T := ([(0, -6047, 6174, []), (0, 2, 252, [])], some (0, -6048, 6174, []), true, 1, 0, 0, [], [], (0, [], [], [], []))
def n_jMath_floorDiv1_v176_an : List an_T := []
def t_jMath_floorDiv1_v176_ct : ct_L := []
set_option maxRecDepth 100000 in
theorem c_jMath_floorDiv1_v176 {l : Launch} {D : va_G} {kA : Nat → ClassId} : ct_ok PRD l D kA GG y_jMath_floorDiv1 z_jMath_floorDiv1 e_jMath_floorDiv1_v176 := chk_all_ok (FT := []) (PT := []) (CT := t_jMath_floorDiv1_v176_ct) (KT := []) (NT := []) (AN := n_jMath_floorDiv1_v176_an) (OT := []) 0 200 (List.forall_mem_nil _) (pl_Math rfl (by decide)) ⟨List.forall_mem_nil _, List.forall_mem_nil _, List.forall_mem_nil _, List.forall_mem_nil _, List.forall_mem_nil _, GG_pl⟩ (by decide +kernel)
def e_jMath_floorDiv1_v177 : en_T := ([(0, -6299, 6426, []), (0, 2, 252, [])], some (0, -6300, 6426, []), true, 1, 0, 0, [], [], (0, [], [], [], []))
def n_jMath_floorDiv1_v177_an : List an_T := []
def t_jMath_floorDiv1_v177_ct : ct_L := []
set_option maxRecDepth 100000 in
theorem c_jMath_floorDiv1_v177 {l : Launch} {D : va_G} {kA : Nat → ClassId} : ct_ok PRD l D kA GG y_jMath_floorDiv1 z_jMath_floorDiv1 e_jMath_floorDiv1_v177 := chk_all_ok (FT := []) (PT := []) (CT := t_jMath_floorDiv1_v177_ct) (KT := []) (NT := []) (AN := n_jMath_floorDiv1_v177_an) (OT := []) 0 200 (List.forall_mem_nil _) (pl_Math rfl (by decide)) ⟨List.forall_mem_nil _, List.forall_mem_nil _, List.forall_mem_nil _, List.forall_mem_nil _, List.forall_mem_nil _, GG_pl⟩ (by decide +kernel)
def e_jMath_floorDiv1_v178 : en_T := ([(0, -6551, 6678, []), (0, 2, 252, [])], some (0, -6552, 6678, []), true, 1, 0, 0, [], [], (0, [], [], [], []))
def n_jMath_floorDiv1_v178_an : List an_T := []
def t_jMath_floorDiv1_v178_ct : ct_L := []
set_option maxRecDepth 100000 in
theorem c_jMath_floorDiv1_v178 {l : Launch} {D : va_G} {kA : Nat → ClassId} : ct_ok PRD l D kA GG y_jMath_floorDiv1 z_jMath_floorDiv1 e_jMath_floorDiv1_v178 := chk_all_ok (FT := []) (PT := []) (CT := t_jMath_floorDiv1_v178_ct) (KT := []) (NT := []) (AN := n_jMath_floorDiv1_v178_an) (OT := []) 0 200 (List.forall_mem_nil _) (pl_Math rfl (by decide)) ⟨List.forall_mem_nil _, List.forall_mem_nil _, List.forall_mem_nil _, List.forall_mem_nil _, List.forall_mem_nil _, GG_pl⟩ (by decide +kernel)
def e_jMath_floorDiv1_v179 : en_T := ([(0, -7811, 7938, []), (0, 2, 252, [])], some (0, -7812, 7938, []), true, 1, 0, 0, [], [], (0, [], [], [], []))
def n_jMath_floorDiv1_v179_an : List an_T := []
def t_jMath_floorDiv1_v179_ct : ct_L := []
set_option maxRecDepth 100000 in
theorem c_jMath_floorDiv1_v179 {l : Launch} {D : va_G} {kA : Nat → ClassId} : ct_ok PRD l D kA GG y_jMath_floorDiv1 z_jMath_floorDiv1 e_jMath_floorDiv1_v179 := chk_all_ok (FT := []) (PT := []) (CT := t_jMath_floorDiv1_v179_ct) (KT := []) (NT := []) (AN := n_jMath_floorDiv1_v179_an) (OT := []) 0 200 (List.forall_mem_nil _) (pl_Math rfl (by decide)) ⟨List.forall_mem_nil _, List.forall_mem_nil _, List.forall_mem_nil _, List.forall_mem_nil _, List.forall_mem_nil _, GG_pl⟩ (by decide +kernel)
def e_jMath_floorDiv1_v180 : en_T := ([(0, -8063, 8190, []), (0, 2, 252, [])], some (0, -8064, 8190, []), true, 1, 0, 0, [], [], (0, [], [], [], []))
def n_jMath_floorDiv1_v180_an : List an_T := []
def t_jMath_floorDiv1_v180_ct : ct_L := []
set_option maxRecDepth 100000 in
theorem c_jMath_floorDiv1_v180 {l : Launch} {D : va_G} {kA : Nat → ClassId} : ct_ok PRD l D kA GG y_jMath_floorDiv1 z_jMath_floorDiv1 e_jMath_floorDiv1_v180 := chk_all_ok (FT := []) (PT := []) (CT := t_jMath_floorDiv1_v180_ct) (KT := []) (NT := []) (AN := n_jMath_floorDiv1_v180_an) (OT := []) 0 200 (List.forall_mem_nil _) (pl_Math rfl (by decide)) ⟨List.forall_mem_nil _, List.forall_mem_nil _, List.forall_mem_nil _, List.forall_mem_nil _, List.forall_mem_nil _, GG_pl⟩ (by decide +kernel)
def e_jMath_floorDiv1_v181 : en_T := ([(0, -11843, 11970, []), (0, 2, 252, [])], some (0, -11844, 11970, []), true, 1, 0, 0, [], [], (0, [], [], [], []))
def n_jMath_floorDiv1_v181_an : List an_T := []
def t_jMath_floorDiv1_v181_ct : ct_L := []
set_option maxRecDepth 100000 in
theorem c_jMath_floorDiv1_v181 {l : Launch} {D : va_G} {kA : Nat → ClassId} : ct_ok PRD l D kA GG y_jMath_floorDiv1 z_jMath_floorDiv1 e_jMath_floorDiv1_v181 := chk_all_ok (FT := []) (PT := []) (CT := t_jMath_floorDiv1_v181_ct) (KT := []) (NT := []) (AN := n_jMath_floorDiv1_v181_an) (OT := []) 0 200 (List.forall_mem_nil _) (pl_Math rfl (by decide)) ⟨List.forall_mem_nil _, List.forall_mem_nil _, List.forall_mem_nil _, List.forall_mem_nil _, List.forall_mem_nil _, GG_pl⟩ (by decide +kernel)
def e_jMath_floorDiv1_v182 : en_T := ([(0, -12095, 12222, []), (0, 2, 252, [])], some (0, -12096, 12222, []), true, 1, 0, 0, [], [], (0, [], [], [], []))
def n_jMath_floorDiv1_v182_an : List an_T := []
def t_jMath_floorDiv1_v182_ct : ct_L := []
set_option maxRecDepth 100000 in
theorem c_jMath_floorDiv1_v182 {l : Launch} {D : va_G} {kA : Nat → ClassId} : ct_ok PRD l D kA GG y_jMath_floorDiv1 z_jMath_floorDiv1 e_jMath_floorDiv1_v182 := chk_all_ok (FT := []) (PT := []) (CT := t_jMath_floorDiv1_v182_ct) (KT := []) (NT := []) (AN := n_jMath_floorDiv1_v182_an) (OT := []) 0 200 (List.forall_mem_nil _) (pl_Math rfl (by decide)) ⟨List.forall_mem_nil _, List.forall_mem_nil _, List.forall_mem_nil _, List.forall_mem_nil _, List.forall_mem_nil _, GG_pl⟩ (by decide +kernel)
def e_jMath_floorDiv1_v183 : en_T := ([(0, -15875, 16002, []), (0, 2, 252, [])], some (0, -15876, 16002, []), true, 1, 0, 0, [], [], (0, [], [], [], []))
def n_jMath_floorDiv1_v183_an : List an_T := []
def t_jMath_floorDiv1_v183_ct : ct_L := []
set_option maxRecDepth 100000 in
theorem c_jMath_floorDiv1_v183 {l : Launch} {D : va_G} {kA : Nat → ClassId} : ct_ok PRD l D kA GG y_jMath_floorDiv1 z_jMath_floorDiv1 e_jMath_floorDiv1_v183 := chk_all_ok (FT := []) (PT := []) (CT := t_jMath_floorDiv1_v183_ct) (KT := []) (NT := []) (AN := n_jMath_floorDiv1_v183_an) (OT := []) 0 200 (List.forall_mem_nil _) (pl_Math rfl (by decide)) ⟨List.forall_mem_nil _, List.forall_mem_nil _, List.forall_mem_nil _, List.forall_mem_nil _, List.forall_mem_nil _, GG_pl⟩ (by decide +kernel)
def e_jMath_floorDiv1_v184 : en_T := ([(0, -16127, 16254, []), (0, 2, 252, [])], some (0, -16128, 16254, []), true, 1, 0, 0, [], [], (0, [], [], [], []))
def n_jMath_floorDiv1_v184_an : List an_T := []
def t_jMath_floorDiv1_v184_ct : ct_L := []
set_option maxRecDepth 100000 in
theorem c_jMath_floorDiv1_v184 {l : Launch} {D : va_G} {kA : Nat → ClassId} : ct_ok PRD l D kA GG y_jMath_floorDiv1 z_jMath_floorDiv1 e_jMath_floorDiv1_v184 := chk_all_ok (FT := []) (PT := []) (CT := t_jMath_floorDiv1_v184_ct) (KT := []) (NT := []) (AN := n_jMath_floorDiv1_v184_an) (OT := []) 0 200 (List.forall_mem_nil _) (pl_Math rfl (by decide)) ⟨List.forall_mem_nil _, List.forall_mem_nil _, List.forall_mem_nil _, List.forall_mem_nil _, List.forall_mem_nil _, GG_pl⟩ (by decide +kernel)
def e_jMath_floorDiv1_v185 : en_T := ([(0, -17891, 18018, []), (0, 2, 252, [])], some (0, -17892, 18018, []), true, 1, 0, 0, [], [], (0, [], [], [], []))
def n_jMath_floorDiv1_v185_an : List an_T := []
def t_jMath_floorDiv1_v185_ct : ct_L := []
set_option maxRecDepth 100000 in
theorem c_jMath_floorDiv1_v185 {l : Launch} {D : va_G} {kA : Nat → ClassId} : ct_ok PRD l D kA GG y_jMath_floorDiv1 z_jMath_floorDiv1 e_jMath_floorDiv1_v185 := chk_all_ok (FT := []) (PT := []) (CT := t_jMath_floorDiv1_v185_ct) (KT := []) (NT := []) (AN := n_jMath_floorDiv1_v185_an) (OT := []) 0 200 (List.forall_mem_nil _) (pl_Math rfl (by decide)) ⟨List.forall_mem_nil _, List.forall_mem_nil _, List.forall_mem_nil _, List.forall_mem_nil _, List.forall_mem_nil _, GG_pl⟩ (by decide +kernel)
def e_jMath_floorDiv1_v186 : en_T := ([(0, -18143, 18270, []), (0, 2, 252, [])], some (0, -18144, 18270, []), true, 1, 0, 0, [], [], (0, [], [], [], []))
def n_jMath_floorDiv1_v186_an : List an_T := []
def t_jMath_floorDiv1_v186_ct : ct_L := []
set_option maxRecDepth 100000 in
theorem c_jMath_floorDiv1_v186 {l : Launch} {D : va_G} {kA : Nat → ClassId} : ct_ok PRD l D kA GG y_jMath_floorDiv1 z_jMath_floorDiv1 e_jMath_floorDiv1_v186 := chk_all_ok (FT := []) (PT := []) (CT := t_jMath_floorDiv1_v186_ct) (KT := []) (NT := []) (AN := n_jMath_floorDiv1_v186_an) (OT := []) 0 200 (List.forall_mem_nil _) (pl_Math rfl (by decide)) ⟨List.forall_mem_nil _, List.forall_mem_nil _, List.forall_mem_nil _, List.forall_mem_nil _, List.forall_mem_nil _, GG_pl⟩ (by decide +kernel)
def e_jMath_floorDiv1_v187 : en_T := ([(0, -19907, 20034, []), (0, 2, 252, [])], some (0, -19908, 20034, []), true, 1, 0, 0, [], [], (0, [], [], [], []))
def n_jMath_floorDiv1_v187_an : List an_T := []
def t_jMath_floorDiv1_v187_ct : ct_L := []
set_option maxRecDepth 100000 in
theorem c_jMath_floorDiv1_v187 {l : Launch} {D : va_G} {kA : Nat → ClassId} : ct_ok PRD l D kA GG y_jMath_floorDiv1 z_jMath_floorDiv1 e_jMath_floorDiv1_v187 := chk_all_ok (FT := []) (PT := []) (CT := t_jMath_floorDiv1_v187_ct) (KT := []) (NT := []) (AN := n_jMath_floorDiv1_v187_an) (OT := []) 0 200 (List.forall_mem_nil _) (pl_Math rfl (by decide)) ⟨List.forall_mem_nil _, List.forall_mem_nil _, List.forall_mem_nil _, List.forall_mem_nil _, List.forall_mem_nil _, GG_pl⟩ (by decide +kernel)
def e_jMath_floorDiv1_v188 : en_T := ([(0, -20159, 20286, []), (0, 2, 252, [])], some (0, -20160, 20286, []), true, 1, 0, 0, [], [], (0, [], [], [], []))
def n_jMath_floorDiv1_v188_an : List an_T := []
def t_jMath_floorDiv1_v188_ct : ct_L := []
set_option maxRecDepth 100000 in
theorem c_jMath_floorDiv1_v188 {l : Launch} {D : va_G} {kA : Nat → ClassId} : ct_ok PRD l D kA GG y_jMath_floorDiv1 z_jMath_floorDiv1 e_jMath_floorDiv1_v188 := chk_all_ok (FT := []) (PT := []) (CT := t_jMath_floorDiv1_v188_ct) (KT := []) (NT := []) (AN := n_jMath_floorDiv1_v188_an) (OT := []) 0 200 (List.forall_mem_nil _) (pl_Math rfl (by decide)) ⟨List.forall_mem_nil _, List.forall_mem_nil _, List.forall_mem_nil _, List.forall_mem_nil _, List.forall_mem_nil _, GG_pl⟩ (by decide +kernel)
def e_jMath_floorDiv1_v189 : en_T := ([(0, -31751, 31878, []), (0, 2, 252, [])], some (0, -31752, 31878, []), true, 1, 0, 0, [], [], (0, [], [], [], []))
def n_jMath_floorDiv1_v189_an : List an_T := []
def t_jMath_floorDiv1_v189_ct : ct_L := []
set_option maxRecDepth 100000 in
theorem c_jMath_floorDiv1_v189 {l : Launch} {D : va_G} {kA : Nat → ClassId} : ct_ok PRD l D kA GG y_jMath_floorDiv1 z_jMath_floorDiv1 e_jMath_floorDiv1_v189 := chk_all_ok (FT := []) (PT := []) (CT := t_jMath_floorDiv1_v189_ct) (KT := []) (NT := []) (AN := n_jMath_floorDiv1_v189_an) (OT := []) 0 200 (List.forall_mem_nil _) (pl_Math rfl (by decide)) ⟨List.forall_mem_nil _, List.forall_mem_nil _, List.forall_mem_nil _, List.forall_mem_nil _, List.forall_mem_nil _, GG_pl⟩ (by decide +kernel)
def e_jMath_min1_v190 : en_T := ([(0, 0, 0, []), (0, 0, 0, [])], some (0, 0, 0, []), true, 1, 0, 0, [], [], (0, [], [], [(23, [0, 2], [0, -1, 1]), (23, [1, 2], [0, -1, 1])], []))
def o_jMath_min1_v190_0 : or_T := (10, 2, [(0, (0, 0, 0, [])), (1, (0, 0, 0, []))], [(7, [0, 1], [5])], [], [], [(23, [0, 0], [0, -1, 1]), (23, [1, 0], [0, -1, 1])], [], [])
theorem oo_jMath_min1_v190_0 {kA : Nat → ClassId} : or_ok PRD kA GG o_jMath_min1_v190_0 := by
  refine or_mk fun A ta ws vs hD hth hl => ?_
  intro t0 k0 t1 k1 f0
  replace f0 := shm_24 f0
  have nf0 : fc_1 PRD (23, [0, 0], [0, -1, 1]) ws (vs) := by
    refine ⟨nf_in hl rfl, sgq_23 ?_⟩
    · show (-1) * v_iv (n_v vs 0) + (1 * v_iv (n_v vs 0) + 0) ≤ 0
      omega
  have nf1 : fc_1 PRD (23, [1, 0], [0, -1, 1]) ws (vs) := by
    refine ⟨nf_in hl rfl, sgq_22 ?_⟩
    · show (-1) * v_iv (n_v vs 1) + (1 * v_iv (n_v vs 0) + 0) ≤ 0
      omega
  refine ⟨(fun _ h => (by cases h)), [], trivial, ?_, (fun _ h => (by cases h))⟩
  rw [List.append_nil]
  exact List.forall_mem_cons.mpr ⟨⟨show (23 : Nat) < 100 from by decide, nf0⟩, List.forall_mem_cons.mpr ⟨⟨show (23 : Nat) < 100 from by decide, nf1⟩, (fun _ h => (by cases h))⟩⟩
def n_jMath_min1_v190_an : List an_T := []
def t_jMath_min1_v190_ct : ct_L := []
set_option maxRecDepth 100000 in
theorem c_jMath_min1_v190 {l : Launch} {D : va_G} {kA : Nat → ClassId} : ct_ok PRD l D kA GG y_jMath_min1 z_jMath_min1 e_jMath_min1_v190 := chk_all_ok (FT := []) (PT := []) (CT := t_jMath_min1_v190_ct) (KT := []) (NT := []) (AN := n_jMath_min1_v190_an) (OT := [o_jMath_min1_v190_0]) 0 200 (List.forall_mem_cons.mpr ⟨oo_jMath_min1_v190_0, List.forall_mem_nil _⟩) (pl_Math rfl (by decide)) ⟨List.forall_mem_nil _, List.forall_mem_nil _, List.forall_mem_nil _, List.forall_mem_nil _, List.forall_mem_nil _, GG_pl⟩ (by decide +kernel)
def e_jMath_max1_v191 : en_T := ([(0, 0, 0, []), (0, 0, 0, [])], some (0, 0, 0, []), true, 1, 0, 0, [], [], (0, [], [], [(23, [0, 2], [0, 1, -1]), (23, [1, 2], [0, 1, -1])], []))
def o_jMath_max1_v191_0 : or_T := (10, 2, [(0, (0, 0, 0, [])), (1, (0, 0, 0, []))], [(7, [0, 1], [3])], [], [], [(23, [0, 0], [0, 1, -1]), (23, [1, 0], [0, 1, -1])], [], [])
theorem oo_jMath_max1_v191_0 {kA : Nat → ClassId} : or_ok PRD kA GG o_jMath_max1_v191_0 := by
  refine or_mk fun A ta ws vs hD hth hl => ?_
  intro t0 k0 t1 k1 f0
  replace f0 := shm_2 f0
  have nf0 : fc_1 PRD (23, [0, 0], [0, 1, -1]) ws (vs) := by
    refine ⟨nf_in hl rfl, sgq_8 ?_⟩
    · show 1 * v_iv (n_v vs 0) + ((-1) * v_iv (n_v vs 0) + 0) ≤ 0
      omega
  have nf1 : fc_1 PRD (23, [1, 0], [0, 1, -1]) ws (vs) := by
    refine ⟨nf_in hl rfl, sgq_7 ?_⟩
    · show 1 * v_iv (n_v vs 1) + ((-1) * v_iv (n_v vs 0) + 0) ≤ 0
      omega
  refine ⟨(fun _ h => (by cases h)), [], trivial, ?_, (fun _ h => (by cases h))⟩
  rw [List.append_nil]
  exact List.forall_mem_cons.mpr ⟨⟨show (23 : Nat) < 100 from by decide, nf0⟩, List.forall_mem_cons.mpr ⟨⟨show (23 : Nat) < 100 from by decide, nf1⟩, (fun _ h => (by cases h))⟩⟩
def n_jMath_max1_v191_an : List an_T := []
def t_jMath_max1_v191_ct : ct_L := []
set_option maxRecDepth 100000 in
theorem c_jMath_max1_v191 {l : Launch} {D : va_G} {kA : Nat → ClassId} : ct_ok PRD l D kA GG y_jMath_max1 z_jMath_max1 e_jMath_max1_v191 := chk_all_ok (FT := []) (PT := []) (CT := t_jMath_max1_v191_ct) (KT := []) (NT := []) (AN := n_jMath_max1_v191_an) (OT := [o_jMath_max1_v191_0]) 0 200 (List.forall_mem_cons.mpr ⟨oo_jMath_max1_v191_0, List.forall_mem_nil _⟩) (pl_Math rfl (by decide)) ⟨List.forall_mem_nil _, List.forall_mem_nil _, List.forall_mem_nil _, List.forall_mem_nil _, List.forall_mem_nil _, GG_pl⟩ (by decide +kernel)
def e_jMath_min1_v192 : en_T := ([(0, 0, 32, []), (0, 0, 8, [])], some (0, 0, 8, []), true, 1, 0, 0, [], [], (0, [], [], [(23, [0, 2], [0, -1, 1]), (23, [1, 2], [0, -1, 1])], []))
def o_jMath_min1_v192_0 : or_T := (10, 2, [(0, (0, 1, 32, [])), (1, (0, 0, 8, []))], [(7, [0, 1], [4])], [], [], [(23, [0, 1], [0, -1, 1]), (23, [1, 1], [0, -1, 1])], [], [(0, 1, 1, 4294967296)])
theorem oo_jMath_min1_v192_0 {kA : Nat → ClassId} : or_ok PRD kA GG o_jMath_min1_v192_0 := by
  refine or_mk fun A ta ws vs hD hth hl => ?_
  intro t0 k0 t1 k1 d0 f0
  replace f0 := shm_21 f0
  have nf0 : fc_1 PRD (23, [0, 1], [0, -1, 1]) ws (vs) := by
    refine ⟨nf_in hl rfl, sgq_22 ?_⟩
    · show (-1) * v_iv (n_v vs 0) + (1 * v_iv (n_v vs 1) + 0) ≤ 0
      omega
  have nf1 : fc_1 PRD (23, [1, 1], [0, -1, 1]) ws (vs) := by
    refine ⟨nf_in hl rfl, sgq_23 ?_⟩
    · show (-1) * v_iv (n_v vs 1) + (1 * v_iv (n_v vs 1) + 0) ≤ 0
      omega
  refine ⟨(fun _ h => (by cases h)), [], trivial, ?_, (fun _ h => (by cases h))⟩
  rw [List.append_nil]
  exact List.forall_mem_cons.mpr ⟨⟨show (23 : Nat) < 100 from by decide, nf0⟩, List.forall_mem_cons.mpr ⟨⟨show (23 : Nat) < 100 from by decide, nf1⟩, (fun _ h => (by cases h))⟩⟩
def o_jMath_min1_v192_1 : or_T := (10, 2, [(0, (0, 0, 8, [])), (1, (0, 0, 8, []))], [(7, [0, 1], [5])], [], [], [(23, [0, 0], [0, -1, 1]), (23, [1, 0], [0, -1, 1])], [], [(0, 1, -4294967296, 0)])
theorem oo_jMath_min1_v192_1 {kA : Nat → ClassId} : or_ok PRD kA GG o_jMath_min1_v192_1 := by
  refine or_mk fun A ta ws vs hD hth hl => ?_
  intro t0 k0 t1 k1 d0 f0
  replace f0 := shm_24 f0
  have nf0 : fc_1 PRD (23, [0, 0], [0, -1, 1]) ws (vs) := by
    refine ⟨nf_in hl rfl, sgq_23 ?_⟩
    · show (-1) * v_iv (n_v vs 0) + (1 * v_iv (n_v vs 0) + 0) ≤ 0
      omega
  have nf1 : fc_1 PRD (23, [1, 0], [0, -1, 1]) ws (vs) := by
    refine ⟨nf_in hl rfl, sgq_22 ?_⟩
    · show (-1) * v_iv (n_v vs 1) + (1 * v_iv (n_v vs 0) + 0) ≤ 0
      omega
  refine ⟨(fun _ h => (by cases h)), [], trivial, ?_, (fun _ h => (by cases h))⟩
  rw [List.append_nil]
  exact List.forall_mem_cons.mpr ⟨⟨show (23 : Nat) < 100 from by decide, nf0⟩, List.forall_mem_cons.mpr ⟨⟨show (23 : Nat) < 100 from by decide, nf1⟩, (fun _ h => (by cases h))⟩⟩
def n_jMath_min1_v192_an : List an_T := []
def t_jMath_min1_v192_ct : ct_L := []
set_option maxRecDepth 100000 in
theorem c_jMath_min1_v192 {l : Launch} {D : va_G} {kA : Nat → ClassId} : ct_ok PRD l D kA GG y_jMath_min1 z_jMath_min1 e_jMath_min1_v192 := chk_all_ok (FT := []) (PT := []) (CT := t_jMath_min1_v192_ct) (KT := []) (NT := []) (AN := n_jMath_min1_v192_an) (OT := [o_jMath_min1_v192_0, o_jMath_min1_v192_1]) 0 200 (List.forall_mem_cons.mpr ⟨oo_jMath_min1_v192_0, List.forall_mem_cons.mpr ⟨oo_jMath_min1_v192_1, List.forall_mem_nil _⟩⟩) (pl_Math rfl (by decide)) ⟨List.forall_mem_nil _, List.forall_mem_nil _, List.forall_mem_nil _, List.forall_mem_nil _, List.forall_mem_nil _, GG_pl⟩ (by decide +kernel)
def e_jMath_min1_v193 : en_T := ([(0, 0, 8, []), (0, -32, 24, [])], some (0, -32, 8, []), true, 1, 0, 0, [], [], (0, [], [], [(23, [0, 2], [0, -1, 1]), (23, [1, 2], [0, -1, 1])], []))
def o_jMath_min1_v193_0 : or_T := (10, 2, [(0, (0, 0, 8, [])), (1, (0, -32, 7, []))], [(7, [0, 1], [4])], [], [], [(23, [0, 1], [0, -1, 1]), (23, [1, 1], [0, -1, 1])], [], [(0, 1, 1, 4294967296)])
theorem oo_jMath_min1_v193_0 {kA : Nat → ClassId} : or_ok PRD kA GG o_jMath_min1_v193_0 := by
  refine or_mk fun A ta ws vs hD hth hl => ?_
  intro t0 k0 t1 k1 d0 f0
  replace f0 := shm_21 f0
  have nf0 : fc_1 PRD (23, [0, 1], [0, -1, 1]) ws (vs) := by
    refine ⟨nf_in hl rfl, sgq_22 ?_⟩
    · show (-1) * v_iv (n_v vs 0) + (1 * v_iv (n_v vs 1) + 0) ≤ 0
      omega
  have nf1 : fc_1 PRD (23, [1, 1], [0, -1, 1]) ws (vs) := by
    refine ⟨nf_in hl rfl, sgq_23 ?_⟩
    · show (-1) * v_iv (n_v vs 1) + (1 * v_iv (n_v vs 1) + 0) ≤ 0
      omega
  refine ⟨(fun _ h => (by cases h)), [], trivial, ?_, (fun _ h => (by cases h))⟩
  rw [List.append_nil]
  exact List.forall_mem_cons.mpr ⟨⟨show (23 : Nat) < 100 from by decide, nf0⟩, List.forall_mem_cons.mpr ⟨⟨show (23 : Nat) < 100 from by decide, nf1⟩, (fun _ h => (by cases h))⟩⟩
def o_jMath_min1_v193_1 : or_T := (10, 2, [(0, (0, 0, 8, [])), (1, (0, 0, 24, []))], [(7, [0, 1], [5])], [], [], [(23, [0, 0], [0, -1, 1]), (23, [1, 0], [0, -1, 1])], [], [(0, 1, -4294967296, 0)])
theorem oo_jMath_min1_v193_1 {kA : Nat → ClassId} : or_ok PRD kA GG o_jMath_min1_v193_1 := by
  refine or_mk fun A ta ws vs hD hth hl => ?_
  intro t0 k0 t1 k1 d0 f0
  replace f0 := shm_24 f0
  have nf0 : fc_1 PRD (23, [0, 0], [0, -1, 1]) ws (vs) := by
    refine ⟨nf_in hl rfl, sgq_23 ?_⟩
    · show (-1) * v_iv (n_v vs 0) + (1 * v_iv (n_v vs 0) + 0) ≤ 0
      omega
  have nf1 : fc_1 PRD (23, [1, 0], [0, -1, 1]) ws (vs) := by
    refine ⟨nf_in hl rfl, sgq_22 ?_⟩
    · show (-1) * v_iv (n_v vs 1) + (1 * v_iv (n_v vs 0) + 0) ≤ 0
      omega
  refine ⟨(fun _ h => (by cases h)), [], trivial, ?_, (fun _ h => (by cases h))⟩
  rw [List.append_nil]
  exact List.forall_mem_cons.mpr ⟨⟨show (23 : Nat) < 100 from by decide, nf0⟩, List.forall_mem_cons.mpr ⟨⟨show (23 : Nat) < 100 from by decide, nf1⟩, (fun _ h => (by cases h))⟩⟩
def n_jMath_min1_v193_an : List an_T := []
def t_jMath_min1_v193_ct : ct_L := []
set_option maxRecDepth 100000 in
theorem c_jMath_min1_v193 {l : Launch} {D : va_G} {kA : Nat → ClassId} : ct_ok PRD l D kA GG y_jMath_min1 z_jMath_min1 e_jMath_min1_v193 := chk_all_ok (FT := []) (PT := []) (CT := t_jMath_min1_v193_ct) (KT := []) (NT := []) (AN := n_jMath_min1_v193_an) (OT := [o_jMath_min1_v193_0, o_jMath_min1_v193_1]) 0 200 (List.forall_mem_cons.mpr ⟨oo_jMath_min1_v193_0, List.forall_mem_cons.mpr ⟨oo_jMath_min1_v193_1, List.forall_mem_nil _⟩⟩) (pl_Math rfl (by decide)) ⟨List.forall_mem_nil _, List.forall_mem_nil _, List.forall_mem_nil _, List.forall_mem_nil _, List.forall_mem_nil _, GG_pl⟩ (by decide +kernel)
def e_jMath_max1_v194 : en_T := ([(0, 0, 0, []), (0, -32, 8, [])], some (0, 0, 8, []), true, 1, 0, 0, [], [], (0, [], [], [(23, [0, 2], [0, 1, -1]), (23, [1, 2], [0, 1, -1])], []))
def o_jMath_max1_v194_0 : or_T := (10, 2, [(0, (0, 0, 0, [])), (1, (0, 1, 8, []))], [(7, [0, 1], [2])], [], [], [(23, [0, 1], [0, 1, -1]), (23, [1, 1], [0, 1, -1])], [], [])
theorem oo_jMath_max1_v194_0 {kA : Nat → ClassId} : or_ok PRD kA GG o_jMath_max1_v194_0 := by
  refine or_mk fun A ta ws vs hD hth hl => ?_
  intro t0 k0 t1 k1 f0
  replace f0 := shm_6 f0
  have nf0 : fc_1 PRD (23, [0, 1], [0, 1, -1]) ws (vs) := by
    refine ⟨nf_in hl rfl, sgq_7 ?_⟩
    · show 1 * v_iv (n_v vs 0) + ((-1) * v_iv (n_v vs 1) + 0) ≤ 0
      omega
  have nf1 : fc_1 PRD (23, [1, 1], [0, 1, -1]) ws (vs) := by
    refine ⟨nf_in hl rfl, sgq_8 ?_⟩
    · show 1 * v_iv (n_v vs 1) + ((-1) * v_iv (n_v vs 1) + 0) ≤ 0
      omega
  refine ⟨(fun _ h => (by cases h)), [], trivial, ?_, (fun _ h => (by cases h))⟩
  rw [List.append_nil]
  exact List.forall_mem_cons.mpr ⟨⟨show (23 : Nat) < 100 from by decide, nf0⟩, List.forall_mem_cons.mpr ⟨⟨show (23 : Nat) < 100 from by decide, nf1⟩, (fun _ h => (by cases h))⟩⟩
def o_jMath_max1_v194_1 : or_T := (10, 2, [(0, (0, 0, 0, [])), (1, (0, -32, 0, []))], [(7, [0, 1], [3])], [], [], [(23, [0, 0], [0, 1, -1]), (23, [1, 0], [0, 1, -1])], [], [])
theorem oo_jMath_max1_v194_1 {kA : Nat → ClassId} : or_ok PRD kA GG o_jMath_max1_v194_1 := by
  refine or_mk fun A ta ws vs hD hth hl => ?_
  intro t0 k0 t1 k1 f0
  replace f0 := shm_2 f0
  have nf0 : fc_1 PRD (23, [0, 0], [0, 1, -1]) ws (vs) := by
    refine ⟨nf_in hl rfl, sgq_8 ?_⟩
    · show 1 * v_iv (n_v vs 0) + ((-1) * v_iv (n_v vs 0) + 0) ≤ 0
      omega
  have nf1 : fc_1 PRD (23, [1, 0], [0, 1, -1]) ws (vs) := by
    refine ⟨nf_in hl rfl, sgq_7 ?_⟩
    · show 1 * v_iv (n_v vs 1) + ((-1) * v_iv (n_v vs 0) + 0) ≤ 0
      omega
  refine ⟨(fun _ h => (by cases h)), [], trivial, ?_, (fun _ h => (by cases h))⟩
  rw [List.append_nil]
  exact List.forall_mem_cons.mpr ⟨⟨show (23 : Nat) < 100 from by decide, nf0⟩, List.forall_mem_cons.mpr ⟨⟨show (23 : Nat) < 100 from by decide, nf1⟩, (fun _ h => (by cases h))⟩⟩
def n_jMath_max1_v194_an : List an_T := []
def t_jMath_max1_v194_ct : ct_L := []
set_option maxRecDepth 100000 in
theorem c_jMath_max1_v194 {l : Launch} {D : va_G} {kA : Nat → ClassId} : ct_ok PRD l D kA GG y_jMath_max1 z_jMath_max1 e_jMath_max1_v194 := chk_all_ok (FT := []) (PT := []) (CT := t_jMath_max1_v194_ct) (KT := []) (NT := []) (AN := n_jMath_max1_v194_an) (OT := [o_jMath_max1_v194_0, o_jMath_max1_v194_1]) 0 200 (List.forall_mem_cons.mpr ⟨oo_jMath_max1_v194_0, List.forall_mem_cons.mpr ⟨oo_jMath_max1_v194_1, List.forall_mem_nil _⟩⟩) (pl_Math rfl (by decide)) ⟨List.forall_mem_nil _, List.forall_mem_nil _, List.forall_mem_nil _, List.forall_mem_nil _, List.forall_mem_nil _, GG_pl⟩ (by decide +kernel)
def e_jMath_min1_v195 : en_T := ([(0, -8, 32, []), (0, 0, 8, [])], some (0, -8, 8, []), true, 1, 0, 0, [], [], (0, [], [], [(23, [0, 2], [0, -1, 1]), (23, [1, 2], [0, -1, 1])], []))
def o_jMath_min1_v195_0 : or_T := (10, 2, [(0, (0, 1, 32, [])), (1, (0, 0, 8, []))], [(7, [0, 1], [4])], [], [], [(23, [0, 1], [0, -1, 1]), (23, [1, 1], [0, -1, 1])], [], [(0, 1, 1, 4294967296)])
theorem oo_jMath_min1_v195_0 {kA : Nat → ClassId} : or_ok PRD kA GG o_jMath_min1_v195_0 := by
  refine or_mk fun A ta ws vs hD hth hl => ?_
  intro t0 k0 t1 k1 d0 f0
  replace f0 := shm_21 f0
  have nf0 : fc_1 PRD (23, [0, 1], [0, -1, 1]) ws (vs) := by
    refine ⟨nf_in hl rfl, sgq_22 ?_⟩
    · show (-1) * v_iv (n_v vs 0) + (1 * v_iv (n_v vs 1) + 0) ≤ 0
      omega
  have nf1 : fc_1 PRD (23, [1, 1], [0, -1, 1]) ws (vs) := by
    refine ⟨nf_in hl rfl, sgq_23 ?_⟩
    · show (-1) * v_iv (n_v vs 1) + (1 * v_iv (n_v vs 1) + 0) ≤ 0
      omega
  refine ⟨(fun _ h => (by cases h)), [], trivial, ?_, (fun _ h => (by cases h))⟩
  rw [List.append_nil]
  exact List.forall_mem_cons.mpr ⟨⟨show (23 : Nat) < 100 from by decide, nf0⟩, List.forall_mem_cons.mpr ⟨⟨show (23 : Nat) < 100 from by decide, nf1⟩, (fun _ h => (by cases h))⟩⟩
def o_jMath_min1_v195_1 : or_T := (10, 2, [(0, (0, -8, 8, [])), (1, (0, 0, 8, []))], [(7, [0, 1], [5])], [], [], [(23, [0, 0], [0, -1, 1]), (23, [1, 0], [0, -1, 1])], [], [(0, 1, -4294967296, 0)])
theorem oo_jMath_min1_v195_1 {kA : Nat → ClassId} : or_ok PRD kA GG o_jMath_min1_v195_1 := by
  refine or_mk fun A ta ws vs hD hth hl => ?_
  intro t0 k0 t1 k1 d0 f0
  replace f0 := shm_24 f0
  have nf0 : fc_1 PRD (23, [0, 0], [0, -1, 1]) ws (vs) := by
    refine ⟨nf_in hl rfl, sgq_23 ?_⟩
    · show (-1) * v_iv (n_v vs 0) + (1 * v_iv (n_v vs 0) + 0) ≤ 0
      omega
  have nf1 : fc_1 PRD (23, [1, 0], [0, -1, 1]) ws (vs) := by
    refine ⟨nf_in hl rfl, sgq_22 ?_⟩
    · show (-1) * v_iv (n_v vs 1) + (1 * v_iv (n_v vs 0) + 0) ≤ 0
      omega
  refine ⟨(fun _ h => (by cases h)), [], trivial, ?_, (fun _ h => (by cases h))⟩
  rw [List.append_nil]
  exact List.forall_mem_cons.mpr ⟨⟨show (23 : Nat) < 100 from by decide, nf0⟩, List.forall_mem_cons.mpr ⟨⟨show (23 : Nat) < 100 from by decide, nf1⟩, (fun _ h => (by cases h))⟩⟩
def n_jMath_min1_v195_an : List an_T := []
def t_jMath_min1_v195_ct : ct_L := []
set_option maxRecDepth 100000 in
theorem c_jMath_min1_v195 {l : Launch} {D : va_G} {kA : Nat → ClassId} : ct_ok PRD l D kA GG y_jMath_min1 z_jMath_min1 e_jMath_min1_v195 := chk_all_ok (FT := []) (PT := []) (CT := t_jMath_min1_v195_ct) (KT := []) (NT := []) (AN := n_jMath_min1_v195_an) (OT := [o_jMath_min1_v195_0, o_jMath_min1_v195_1]) 0 200 (List.forall_mem_cons.mpr ⟨oo_jMath_min1_v195_0, List.forall_mem_cons.mpr ⟨oo_jMath_min1_v195_1, List.forall_mem_nil _⟩⟩) (pl_Math rfl (by decide)) ⟨List.forall_mem_nil _, List.forall_mem_nil _, List.forall_mem_nil _, List.forall_mem_nil _, List.forall_mem_nil _, GG_pl⟩ (by decide +kernel)
def e_jMath_min1_v196 : en_T := ([(0, -8, 8, []), (0, -32, 32, [])], some (0, -32, 8, []), true, 1, 0, 0, [], [], (0, [], [], [(23, [0, 2], [0, -1, 1]), (23, [1, 2], [0, -1, 1])], []))
def o_jMath_min1_v196_0 : or_T := (10, 2, [(0, (0, -8, 8, [])), (1, (0, -32, 7, []))], [(7, [0, 1], [4])], [], [], [(23, [0, 1], [0, -1, 1]), (23, [1, 1], [0, -1, 1])], [], [(0, 1, 1, 4294967296)])
theorem oo_jMath_min1_v196_0 {kA : Nat → ClassId} : or_ok PRD kA GG o_jMath_min1_v196_0 := by
  refine or_mk fun A ta ws vs hD hth hl => ?_
  intro t0 k0 t1 k1 d0 f0
  replace f0 := shm_21 f0
  have nf0 : fc_1 PRD (23, [0, 1], [0, -1, 1]) ws (vs) := by
    refine ⟨nf_in hl rfl, sgq_22 ?_⟩
    · show (-1) * v_iv (n_v vs 0) + (1 * v_iv (n_v vs 1) + 0) ≤ 0
      omega
  have nf1 : fc_1 PRD (23, [1, 1], [0, -1, 1]) ws (vs) := by
    refine ⟨nf_in hl rfl, sgq_23 ?_⟩
    · show (-1) * v_iv (n_v vs 1) + (1 * v_iv (n_v vs 1) + 0) ≤ 0
      omega
  refine ⟨(fun _ h => (by cases h)), [], trivial, ?_, (fun _ h => (by cases h))⟩
  rw [List.append_nil]
  exact List.forall_mem_cons.mpr ⟨⟨show (23 : Nat) < 100 from by decide, nf0⟩, List.forall_mem_cons.mpr ⟨⟨show (23 : Nat) < 100 from by decide, nf1⟩, (fun _ h => (by cases h))⟩⟩
def o_jMath_min1_v196_1 : or_T := (10, 2, [(0, (0, -8, 8, [])), (1, (0, -8, 32, []))], [(7, [0, 1], [5])], [], [], [(23, [0, 0], [0, -1, 1]), (23, [1, 0], [0, -1, 1])], [], [(0, 1, -4294967296, 0)])
theorem oo_jMath_min1_v196_1 {kA : Nat → ClassId} : or_ok PRD kA GG o_jMath_min1_v196_1 := by
  refine or_mk fun A ta ws vs hD hth hl => ?_
  intro t0 k0 t1 k1 d0 f0
  replace f0 := shm_24 f0
  have nf0 : fc_1 PRD (23, [0, 0], [0, -1, 1]) ws (vs) := by
    refine ⟨nf_in hl rfl, sgq_23 ?_⟩
    · show (-1) * v_iv (n_v vs 0) + (1 * v_iv (n_v vs 0) + 0) ≤ 0
      omega
  have nf1 : fc_1 PRD (23, [1, 0], [0, -1, 1]) ws (vs) := by
    refine ⟨nf_in hl rfl, sgq_22 ?_⟩
    · show (-1) * v_iv (n_v vs 1) + (1 * v_iv (n_v vs 0) + 0) ≤ 0
      omega
  refine ⟨(fun _ h => (by cases h)), [], trivial, ?_, (fun _ h => (by cases h))⟩
  rw [List.append_nil]
  exact List.forall_mem_cons.mpr ⟨⟨show (23 : Nat) < 100 from by decide, nf0⟩, List.forall_mem_cons.mpr ⟨⟨show (23 : Nat) < 100 from by decide, nf1⟩, (fun _ h => (by cases h))⟩⟩
def n_jMath_min1_v196_an : List an_T := []
def t_jMath_min1_v196_ct : ct_L := []
set_option maxRecDepth 100000 in
theorem c_jMath_min1_v196 {l : Launch} {D : va_G} {kA : Nat → ClassId} : ct_ok PRD l D kA GG y_jMath_min1 z_jMath_min1 e_jMath_min1_v196 := chk_all_ok (FT := []) (PT := []) (CT := t_jMath_min1_v196_ct) (KT := []) (NT := []) (AN := n_jMath_min1_v196_an) (OT := [o_jMath_min1_v196_0, o_jMath_min1_v196_1]) 0 200 (List.forall_mem_cons.mpr ⟨oo_jMath_min1_v196_0, List.forall_mem_cons.mpr ⟨oo_jMath_min1_v196_1, List.forall_mem_nil _⟩⟩) (pl_Math rfl (by decide)) ⟨List.forall_mem_nil _, List.forall_mem_nil _, List.forall_mem_nil _, List.forall_mem_nil _, List.forall_mem_nil _, GG_pl⟩ (by decide +kernel)
def e_jMath_min1_v197 : en_T := ([(0, 0, 64, []), (0, 0, 16, [])], some (0, 0, 16, []), true, 1, 0, 0, [], [], (0, [], [], [(23, [0, 2], [0, -1, 1]), (23, [1, 2], [0, -1, 1])], []))
def o_jMath_min1_v197_0 : or_T := (10, 2, [(0, (0, 1, 64, [])), (1, (0, 0, 16, []))], [(7, [0, 1], [4])], [], [], [(23, [0, 1], [0, -1, 1]), (23, [1, 1], [0, -1, 1])], [], [(0, 1, 1, 4294967296)])
theorem oo_jMath_min1_v197_0 {kA : Nat → ClassId} : or_ok PRD kA GG o_jMath_min1_v197_0 := by
  refine or_mk fun A ta ws vs hD hth hl => ?_
  intro t0 k0 t1 k1 d0 f0
  replace f0 := shm_21 f0
  have nf0 : fc_1 PRD (23, [0, 1], [0, -1, 1]) ws (vs) := by
    refine ⟨nf_in hl rfl, sgq_22 ?_⟩
    · show (-1) * v_iv (n_v vs 0) + (1 * v_iv (n_v vs 1) + 0) ≤ 0
      omega
  have nf1 : fc_1 PRD (23, [1, 1], [0, -1, 1]) ws (vs) := by
    refine ⟨nf_in hl rfl, sgq_23 ?_⟩
    · show (-1) * v_iv (n_v vs 1) + (1 * v_iv (n_v vs 1) + 0) ≤ 0
      omega
  refine ⟨(fun _ h => (by cases h)), [], trivial, ?_, (fun _ h => (by cases h))⟩
  rw [List.append_nil]
  exact List.forall_mem_cons.mpr ⟨⟨show (23 : Nat) < 100 from by decide, nf0⟩, List.forall_mem_cons.mpr ⟨⟨show (23 : Nat) < 100 from by decide, nf1⟩, (fun _ h => (by cases h))⟩⟩
def o_jMath_min1_v197_1 : or_T := (10, 2, [(0, (0, 0, 16, [])), (1, (0, 0, 16, []))], [(7, [0, 1], [5])], [], [], [(23, [0, 0], [0, -1, 1]), (23, [1, 0], [0, -1, 1])], [], [(0, 1, -4294967296, 0)])
theorem oo_jMath_min1_v197_1 {kA : Nat → ClassId} : or_ok PRD kA GG o_jMath_min1_v197_1 := by
  refine or_mk fun A ta ws vs hD hth hl => ?_
  intro t0 k0 t1 k1 d0 f0
  replace f0 := shm_24 f0
  have nf0 : fc_1 PRD (23, [0, 0], [0, -1, 1]) ws (vs) := by
    refine ⟨nf_in hl rfl, sgq_23 ?_⟩
    · show (-1) * v_iv (n_v vs 0) + (1 * v_iv (n_v vs 0) + 0) ≤ 0
      omega
  have nf1 : fc_1 PRD (23, [1, 0], [0, -1, 1]) ws (vs) := by
    refine ⟨nf_in hl rfl, sgq_22 ?_⟩
    · show (-1) * v_iv (n_v vs 1) + (1 * v_iv (n_v vs 0) + 0) ≤ 0
      omega
  refine ⟨(fun _ h => (by cases h)), [], trivial, ?_, (fun _ h => (by cases h))⟩
  rw [List.append_nil]
  exact List.forall_mem_cons.mpr ⟨⟨show (23 : Nat) < 100 from by decide, nf0⟩, List.forall_mem_cons.mpr ⟨⟨show (23 : Nat) < 100 from by decide, nf1⟩, (fun _ h => (by cases h))⟩⟩
def n_jMath_min1_v197_an : List an_T := []
def t_jMath_min1_v197_ct : ct_L := []
set_option maxRecDepth 100000 in
theorem c_jMath_min1_v197 {l : Launch} {D : va_G} {kA : Nat → ClassId} : ct_ok PRD l D kA GG y_jMath_min1 z_jMath_min1 e_jMath_min1_v197 := chk_all_ok (FT := []) (PT := []) (CT := t_jMath_min1_v197_ct) (KT := []) (NT := []) (AN := n_jMath_min1_v197_an) (OT := [o_jMath_min1_v197_0, o_jMath_min1_v197_1]) 0 200 (List.forall_mem_cons.mpr ⟨oo_jMath_min1_v197_0, List.forall_mem_cons.mpr ⟨oo_jMath_min1_v197_1, List.forall_mem_nil _⟩⟩) (pl_Math rfl (by decide)) ⟨List.forall_mem_nil _, List.forall_mem_nil _, List.forall_mem_nil _, List.forall_mem_nil _, List.forall_mem_nil _, GG_pl⟩ (by decide +kernel)
def e_jMath_min1_v198 : en_T := ([(0, 0, 16, []), (0, -64, 48, [])], some (0, -64, 16, []), true, 1, 0, 0, [], [], (0, [], [], [(23, [0, 2], [0, -1, 1]), (23, [1, 2], [0, -1, 1])], []))
def o_jMath_min1_v198_0 : or_T := (10, 2, [(0, (0, 0, 16, [])), (1, (0, -64, 15, []))], [(7, [0, 1], [4])], [], [], [(23, [0, 1], [0, -1, 1]), (23, [1, 1], [0, -1, 1])], [], [(0, 1, 1, 4294967296)])
theorem oo_jMath_min1_v198_0 {kA : Nat → ClassId} : or_ok PRD kA GG o_jMath_min1_v198_0 := by
  refine or_mk fun A ta ws vs hD hth hl => ?_
  intro t0 k0 t1 k1 d0 f0
  replace f0 := shm_21 f0
  have nf0 : fc_1 PRD (23, [0, 1], [0, -1, 1]) ws (vs) := by
    refine ⟨nf_in hl rfl, sgq_22 ?_⟩
    · show (-1) * v_iv (n_v vs 0) + (1 * v_iv (n_v vs 1) + 0) ≤ 0
      omega
  have nf1 : fc_1 PRD (23, [1, 1], [0, -1, 1]) ws (vs) := by
    refine ⟨nf_in hl rfl, sgq_23 ?_⟩
    · show (-1) * v_iv (n_v vs 1) + (1 * v_iv (n_v vs 1) + 0) ≤ 0
      omega
  refine ⟨(fun _ h => (by cases h)), [], trivial, ?_, (fun _ h => (by cases h))⟩
  rw [List.append_nil]
  exact List.forall_mem_cons.mpr ⟨⟨show (23 : Nat) < 100 from by decide, nf0⟩, List.forall_mem_cons.mpr ⟨⟨show (23 : Nat) < 100 from by decide, nf1⟩, (fun _ h => (by cases h))⟩⟩
def o_jMath_min1_v198_1 : or_T := (10, 2, [(0, (0, 0, 16, [])), (1, (0, 0, 48, []))], [(7, [0, 1], [5])], [], [], [(23, [0, 0], [0, -1, 1]), (23, [1, 0], [0, -1, 1])], [], [(0, 1, -4294967296, 0)])
theorem oo_jMath_min1_v198_1 {kA : Nat → ClassId} : or_ok PRD kA GG o_jMath_min1_v198_1 := by
  refine or_mk fun A ta ws vs hD hth hl => ?_
  intro t0 k0 t1 k1 d0 f0
  replace f0 := shm_24 f0
  have nf0 : fc_1 PRD (23, [0, 0], [0, -1, 1]) ws (vs) := by
    refine ⟨nf_in hl rfl, sgq_23 ?_⟩
    · show (-1) * v_iv (n_v vs 0) + (1 * v_iv (n_v vs 0) + 0) ≤ 0
      omega
  have nf1 : fc_1 PRD (23, [1, 0], [0, -1, 1]) ws (vs) := by
    refine ⟨nf_in hl rfl, sgq_22 ?_⟩
    · show (-1) * v_iv (n_v vs 1) + (1 * v_iv (n_v vs 0) + 0) ≤ 0
      omega
  refine ⟨(fun _ h => (by cases h)), [], trivial, ?_, (fun _ h => (by cases h))⟩
  rw [List.append_nil]
  exact List.forall_mem_cons.mpr ⟨⟨show (23 : Nat) < 100 from by decide, nf0⟩, List.forall_mem_cons.mpr ⟨⟨show (23 : Nat) < 100 from by decide, nf1⟩, (fun _ h => (by cases h))⟩⟩
def n_jMath_min1_v198_an : List an_T := []
def t_jMath_min1_v198_ct : ct_L := []
set_option maxRecDepth 100000 in
theorem c_jMath_min1_v198 {l : Launch} {D : va_G} {kA : Nat → ClassId} : ct_ok PRD l D kA GG y_jMath_min1 z_jMath_min1 e_jMath_min1_v198 := chk_all_ok (FT := []) (PT := []) (CT := t_jMath_min1_v198_ct) (KT := []) (NT := []) (AN := n_jMath_min1_v198_an) (OT := [o_jMath_min1_v198_0, o_jMath_min1_v198_1]) 0 200 (List.forall_mem_cons.mpr ⟨oo_jMath_min1_v198_0, List.forall_mem_cons.mpr ⟨oo_jMath_min1_v198_1, List.forall_mem_nil _⟩⟩) (pl_Math rfl (by decide)) ⟨List.forall_mem_nil _, List.forall_mem_nil _, List.forall_mem_nil _, List.forall_mem_nil _, List.forall_mem_nil _, GG_pl⟩ (by decide +kernel)
def e_jMath_max1_v199 : en_T := ([(0, 0, 0, []), (0, -64, 16, [])], some (0, 0, 16, []), true, 1, 0, 0, [], [], (0, [], [], [(23, [0, 2], [0, 1, -1]), (23, [1, 2], [0, 1, -1])], []))
def o_jMath_max1_v199_0 : or_T := (10, 2, [(0, (0, 0, 0, [])), (1, (0, 1, 16, []))], [(7, [0, 1], [2])], [], [], [(23, [0, 1], [0, 1, -1]), (23, [1, 1], [0, 1, -1])], [], [])
theorem oo_jMath_max1_v199_0 {kA : Nat → ClassId} : or_ok PRD kA GG o_jMath_max1_v199_0 := by
  refine or_mk fun A ta ws vs hD hth hl => ?_
  intro t0 k0 t1 k1 f0
  replace f0 := shm_6 f0
  have nf0 : fc_1 PRD (23, [0, 1], [0, 1, -1]) ws (vs) := by
    refine ⟨nf_in hl rfl, sgq_7 ?_⟩
    · show 1 * v_iv (n_v vs 0) + ((-1) * v_iv (n_v vs 1) + 0) ≤ 0
      omega
  have nf1 : fc_1 PRD (23, [1, 1], [0, 1, -1]) ws (vs) := by
    refine ⟨nf_in hl rfl, sgq_8 ?_⟩
    · show 1 * v_iv (n_v vs 1) + ((-1) * v_iv (n_v vs 1) + 0) ≤ 0
      omega
  refine ⟨(fun _ h => (by cases h)), [], trivial, ?_, (fun _ h => (by cases h))⟩
  rw [List.append_nil]
  exact List.forall_mem_cons.mpr ⟨⟨show (23 : Nat) < 100 from by decide, nf0⟩, List.forall_mem_cons.mpr ⟨⟨show (23 : Nat) < 100 from by decide, nf1⟩, (fun _ h => (by cases h))⟩⟩
def o_jMath_max1_v199_1 : or_T := (10, 2, [(0, (0, 0, 0, [])), (1, (0, -64, 0, []))], [(7, [0, 1], [3])], [], [], [(23, [0, 0], [0, 1, -1]), (23, [1, 0], [0, 1, -1])], [], [])
theorem oo_jMath_max1_v199_1 {kA : Nat → ClassId} : or_ok PRD kA GG o_jMath_max1_v199_1 := by
  refine or_mk fun A ta ws vs hD hth hl => ?_
  intro t0 k0 t1 k1 f0
  replace f0 := shm_2 f0
  have nf0 : fc_1 PRD (23, [0, 0], [0, 1, -1]) ws (vs) := by
    refine ⟨nf_in hl rfl, sgq_8 ?_⟩
    · show 1 * v_iv (n_v vs 0) + ((-1) * v_iv (n_v vs 0) + 0) ≤ 0
      omega
  have nf1 : fc_1 PRD (23, [1, 0], [0, 1, -1]) ws (vs) := by
    refine ⟨nf_in hl rfl, sgq_7 ?_⟩
    · show 1 * v_iv (n_v vs 1) + ((-1) * v_iv (n_v vs 0) + 0) ≤ 0
      omega
  refine ⟨(fun _ h => (by cases h)), [], trivial, ?_, (fun _ h => (by cases h))⟩
  rw [List.append_nil]
  exact List.forall_mem_cons.mpr ⟨⟨show (23 : Nat) < 100 from by decide, nf0⟩, List.forall_mem_cons.mpr ⟨⟨show (23 : Nat) < 100 from by decide, nf1⟩, (fun _ h => (by cases h))⟩⟩
def n_jMath_max1_v199_an : List an_T := []
def t_jMath_max1_v199_ct : ct_L := []
set_option maxRecDepth 100000 in
theorem c_jMath_max1_v199 {l : Launch} {D : va_G} {kA : Nat → ClassId} : ct_ok PRD l D kA GG y_jMath_max1 z_jMath_max1 e_jMath_max1_v199 := chk_all_ok (FT := []) (PT := []) (CT := t_jMath_max1_v199_ct) (KT := []) (NT := []) (AN := n_jMath_max1_v199_an) (OT := [o_jMath_max1_v199_0, o_jMath_max1_v199_1]) 0 200 (List.forall_mem_cons.mpr ⟨oo_jMath_max1_v199_0, List.forall_mem_cons.mpr ⟨oo_jMath_max1_v199_1, List.forall_mem_nil _⟩⟩) (pl_Math rfl (by decide)) ⟨List.forall_mem_nil _, List.forall_mem_nil _, List.forall_mem_nil _, List.forall_mem_nil _, List.forall_mem_nil _, GG_pl⟩ (by decide +kernel)
def e_jMath_min1_v200 : en_T := ([(0, -16, 64, []), (0, 0, 16, [])], some (0, -16, 16, []), true, 1, 0, 0, [], [], (0, [], [], [(23, [0, 2], [0, -1, 1]), (23, [1, 2], [0, -1, 1])], []))
def o_jMath_min1_v200_0 : or_T := (10, 2, [(0, (0, 1, 64, [])), (1, (0, 0, 16, []))], [(7, [0, 1], [4])], [], [], [(23, [0, 1], [0, -1, 1]), (23, [1, 1], [0, -1, 1])], [], [(0, 1, 1, 4294967296)])
theorem oo_jMath_min1_v200_0 {kA : Nat → ClassId} : or_ok PRD kA GG o_jMath_min1_v200_0 := by
  refine or_mk fun A ta ws vs hD hth hl => ?_
  intro t0 k0 t1 k1 d0 f0
  replace f0 := shm_21 f0
  have nf0 : fc_1 PRD (23, [0, 1], [0, -1, 1]) ws (vs) := by
    refine ⟨nf_in hl rfl, sgq_22 ?_⟩
    · show (-1) * v_iv (n_v vs 0) + (1 * v_iv (n_v vs 1) + 0) ≤ 0
      omega
  have nf1 : fc_1 PRD (23, [1, 1], [0, -1, 1]) ws (vs) := by
    refine ⟨nf_in hl rfl, sgq_23 ?_⟩
    · show (-1) * v_iv (n_v vs 1) + (1 * v_iv (n_v vs 1) + 0) ≤ 0
      omega
  refine ⟨(fun _ h => (by cases h)), [], trivial, ?_, (fun _ h => (by cases h))⟩
  rw [List.append_nil]
  exact List.forall_mem_cons.mpr ⟨⟨show (23 : Nat) < 100 from by decide, nf0⟩, List.forall_mem_cons.mpr ⟨⟨show (23 : Nat) < 100 from by decide, nf1⟩, (fun _ h => (by cases h))⟩⟩
def o_jMath_min1_v200_1 : or_T := (10, 2, [(0, (0, -16, 16, [])), (1, (0, 0, 16, []))], [(7, [0, 1], [5])], [], [], [(23, [0, 0], [0, -1, 1]), (23, [1, 0], [0, -1, 1])], [], [(0, 1, -4294967296, 0)])
theorem oo_jMath_min1_v200_1 {kA : Nat → ClassId} : or_ok PRD kA GG o_jMath_min1_v200_1 := by
  refine or_mk fun A ta ws vs hD hth hl => ?_
  intro t0 k0 t1 k1 d0 f0
  replace f0 := shm_24 f0
  have nf0 : fc_1 PRD (23, [0, 0], [0, -1, 1]) ws (vs) := by
    refine ⟨nf_in hl rfl, sgq_23 ?_⟩
    · show (-1) * v_iv (n_v vs 0) + (1 * v_iv (n_v vs 0) + 0) ≤ 0
      omega
  have nf1 : fc_1 PRD (23, [1, 0], [0, -1, 1]) ws (vs) := by
    refine ⟨nf_in hl rfl, sgq_22 ?_⟩
    · show (-1) * v_iv (n_v vs 1) + (1 * v_iv (n_v vs 0) + 0) ≤ 0
      omega
  refine ⟨(fun _ h => (by cases h)), [], trivial, ?_, (fun _ h => (by cases h))⟩
  rw [List.append_nil]
  exact List.forall_mem_cons.mpr ⟨⟨show (23 : Nat) < 100 from by decide, nf0⟩, List.forall_mem_cons.mpr ⟨⟨show (23 : Nat) < 100 from by decide, nf1⟩, (fun _ h => (by cases h))⟩⟩
def n_jMath_min1_v200_an : List an_T := []
def t_jMath_min1_v200_ct : ct_L := []
set_option maxRecDepth 100000 in
theorem c_jMath_min1_v200 {l : Launch} {D : va_G} {kA : Nat → ClassId} : ct_ok PRD l D kA GG y_jMath_min1 z_jMath_min1 e_jMath_min1_v200 := chk_all_ok (FT := []) (PT := []) (CT := t_jMath_min1_v200_ct) (KT := []) (NT := []) (AN := n_jMath_min1_v200_an) (OT := [o_jMath_min1_v200_0, o_jMath_min1_v200_1]) 0 200 (List.forall_mem_cons.mpr ⟨oo_jMath_min1_v200_0, List.forall_mem_cons.mpr ⟨oo_jMath_min1_v200_1, List.forall_mem_nil _⟩⟩) (pl_Math rfl (by decide)) ⟨List.forall_mem_nil _, List.forall_mem_nil _, List.forall_mem_nil _, List.forall_mem_nil _, List.forall_mem_nil _, GG_pl⟩ (by decide +kernel)
def e_jMath_min1_v201 : en_T := ([(0, -16, 16, []), (0, -64, 64, [])], some (0, -64, 16, []), true, 1, 0, 0, [], [], (0, [], [], [(23, [0, 2], [0, -1, 1]), (23, [1, 2], [0, -1, 1])], []))
def o_jMath_min1_v201_0 : or_T := (10, 2, [(0, (0, -16, 16, [])), (1, (0, -64, 15, []))], [(7, [0, 1], [4])], [], [], [(23, [0, 1], [0, -1, 1]), (23, [1, 1], [0, -1, 1])], [], [(0, 1, 1, 4294967296)])
theorem oo_jMath_min1_v201_0 {kA : Nat → ClassId} : or_ok PRD kA GG o_jMath_min1_v201_0 := by
  refine or_mk fun A ta ws vs hD hth hl => ?_
  intro t0 k0 t1 k1 d0 f0
  replace f0 := shm_21 f0
  have nf0 : fc_1 PRD (23, [0, 1], [0, -1, 1]) ws (vs) := by
    refine ⟨nf_in hl rfl, sgq_22 ?_⟩
    · show (-1) * v_iv (n_v vs 0) + (1 * v_iv (n_v vs 1) + 0) ≤ 0
      omega
  have nf1 : fc_1 PRD (23, [1, 1], [0, -1, 1]) ws (vs) := by
    refine ⟨nf_in hl rfl, sgq_23 ?_⟩
    · show (-1) * v_iv (n_v vs 1) + (1 * v_iv (n_v vs 1) + 0) ≤ 0
      omega
  refine ⟨(fun _ h => (by cases h)), [], trivial, ?_, (fun _ h => (by cases h))⟩
  rw [List.append_nil]
  exact List.forall_mem_cons.mpr ⟨⟨show (23 : Nat) < 100 from by decide, nf0⟩, List.forall_mem_cons.mpr ⟨⟨show (23 : Nat) < 100 from by decide, nf1⟩, (fun _ h => (by cases h))⟩⟩
def o_jMath_min1_v201_1 : or_T := (10, 2, [(0, (0, -16, 16, [])), (1, (0, -16, 64, []))], [(7, [0, 1], [5])], [], [], [(23, [0, 0], [0, -1, 1]), (23, [1, 0], [0, -1, 1])], [], [(0, 1, -4294967296, 0)])
theorem oo_jMath_min1_v201_1 {kA : Nat → ClassId} : or_ok PRD kA GG o_jMath_min1_v201_1 := by
  refine or_mk fun A ta ws vs hD hth hl => ?_
  intro t0 k0 t1 k1 d0 f0
  replace f0 := shm_24 f0
  have nf0 : fc_1 PRD (23, [0, 0], [0, -1, 1]) ws (vs) := by
    refine ⟨nf_in hl rfl, sgq_23 ?_⟩
    · show (-1) * v_iv (n_v vs 0) + (1 * v_iv (n_v vs 0) + 0) ≤ 0
      omega
  have nf1 : fc_1 PRD (23, [1, 0], [0, -1, 1]) ws (vs) := by
    refine ⟨nf_in hl rfl, sgq_22 ?_⟩
    · show (-1) * v_iv (n_v vs 1) + (1 * v_iv (n_v vs 0) + 0) ≤ 0
      omega
  refine ⟨(fun _ h => (by cases h)), [], trivial, ?_, (fun _ h => (by cases h))⟩
  rw [List.append_nil]
  exact List.forall_mem_cons.mpr ⟨⟨show (23 : Nat) < 100 from by decide, nf0⟩, List.forall_mem_cons.mpr ⟨⟨show (23 : Nat) < 100 from by decide, nf1⟩, (fun _ h => (by cases h))⟩⟩
def n_jMath_min1_v201_an : List an_T := []
def t_jMath_min1_v201_ct : ct_L := []
set_option maxRecDepth 100000 in
theorem c_jMath_min1_v201 {l : Launch} {D : va_G} {kA : Nat → ClassId} : ct_ok PRD l D kA GG y_jMath_min1 z_jMath_min1 e_jMath_min1_v201 := chk_all_ok (FT := []) (PT := []) (CT := t_jMath_min1_v201_ct) (KT := []) (NT := []) (AN := n_jMath_min1_v201_an) (OT := [o_jMath_min1_v201_0, o_jMath_min1_v201_1]) 0 200 (List.forall_mem_cons.mpr ⟨oo_jMath_min1_v201_0, List.forall_mem_cons.mpr ⟨oo_jMath_min1_v201_1, List.forall_mem_nil _⟩⟩) (pl_Math rfl (by decide)) ⟨List.forall_mem_nil _, List.forall_mem_nil _, List.forall_mem_nil _, List.forall_mem_nil _, List.forall_mem_nil _, GG_pl⟩ (by decide +kernel)
def e_jMath_min1_v202 : en_T := ([(0, 0, 96, []), (0, 0, 24, [])], some (0, 0, 24, []), true, 1, 0, 0, [], [], (0, [], [], [(23, [0, 2], [0, -1, 1]), (23, [1, 2], [0, -1, 1])], []))
def o_jMath_min1_v202_0 : or_T := (10, 2, [(0, (0, 1, 96, [])), (1, (0, 0, 24, []))], [(7, [0, 1], [4])], [], [], [(23, [0, 1], [0, -1, 1]), (23, [1, 1], [0, -1, 1])], [], [(0, 1, 1, 4294967296)])
theorem oo_jMath_min1_v202_0 {kA : Nat → ClassId} : or_ok PRD kA GG o_jMath_min1_v202_0 := by
  refine or_mk fun A ta ws vs hD hth hl => ?_
  intro t0 k0 t1 k1 d0 f0
  replace f0 := shm_21 f0
  have nf0 : fc_1 PRD (23, [0, 1], [0, -1, 1]) ws (vs) := by
    refine ⟨nf_in hl rfl, sgq_22 ?_⟩
    · show (-1) * v_iv (n_v vs 0) + (1 * v_iv (n_v vs 1) + 0) ≤ 0
      omega
  have nf1 : fc_1 PRD (23, [1, 1], [0, -1, 1]) ws (vs) := by
    refine ⟨nf_in hl rfl, sgq_23 ?_⟩
    · show (-1) * v_iv (n_v vs 1) + (1 * v_iv (n_v vs 1) + 0) ≤ 0
      omega
  refine ⟨(fun _ h => (by cases h)), [], trivial, ?_, (fun _ h => (by cases h))⟩
  rw [List.append_nil]
  exact List.forall_mem_cons.mpr ⟨⟨show (23 : Nat) < 100 from by decide, nf0⟩, List.forall_mem_cons.mpr ⟨⟨show (23 : Nat) < 100 from by decide, nf1⟩, (fun _ h => (by cases h))⟩⟩
def o_jMath_min1_v202_1 : or_T := (10, 2, [(0, (0, 0, 24, [])), (1, (0, 0, 24, []))], [(7, [0, 1], [5])], [], [], [(23, [0, 0], [0, -1, 1]), (23, [1, 0], [0, -1, 1])], [], [(0, 1, -4294967296, 0)])
theorem oo_jMath_min1_v202_1 {kA : Nat → ClassId} : or_ok PRD kA GG o_jMath_min1_v202_1 := by
  refine or_mk fun A ta ws vs hD hth hl => ?_
  intro t0 k0 t1 k1 d0 f0
  replace f0 := shm_24 f0
  have nf0 : fc_1 PRD (23, [0, 0], [0, -1, 1]) ws (vs) := by
    refine ⟨nf_in hl rfl, sgq_23 ?_⟩
    · show (-1) * v_iv (n_v vs 0) + (1 * v_iv (n_v vs 0) + 0) ≤ 0
      omega
  have nf1 : fc_1 PRD (23, [1, 0], [0, -1, 1]) ws (vs) := by
    refine ⟨nf_in hl rfl, sgq_22 ?_⟩
    · show (-1) * v_iv (n_v vs 1) + (1 * v_iv (n_v vs 0) + 0) ≤ 0
      omega
  refine ⟨(fun _ h => (by cases h)), [], trivial, ?_, (fun _ h => (by cases h))⟩
  rw [List.append_nil]
  exact List.forall_mem_cons.mpr ⟨⟨show (23 : Nat) < 100 from by decide, nf0⟩, List.forall_mem_cons.mpr ⟨⟨show (23 : Nat) < 100 from by decide, nf1⟩, (fun _ h => (by cases h))⟩⟩
def n_jMath_min1_v202_an : List an_T := []
def t_jMath_min1_v202_ct : ct_L := []
set_option maxRecDepth 100000 in
theorem c_jMath_min1_v202 {l : Launch} {D : va_G} {kA : Nat → ClassId} : ct_ok PRD l D kA GG y_jMath_min1 z_jMath_min1 e_jMath_min1_v202 := chk_all_ok (FT := []) (PT := []) (CT := t_jMath_min1_v202_ct) (KT := []) (NT := []) (AN := n_jMath_min1_v202_an) (OT := [o_jMath_min1_v202_0, o_jMath_min1_v202_1]) 0 200 (List.forall_mem_cons.mpr ⟨oo_jMath_min1_v202_0, List.forall_mem_cons.mpr ⟨oo_jMath_min1_v202_1, List.forall_mem_nil _⟩⟩) (pl_Math rfl (by decide)) ⟨List.forall_mem_nil _, List.forall_mem_nil _, List.forall_mem_nil _, List.forall_mem_nil _, List.forall_mem_nil _, GG_pl⟩ (by decide +kernel)
def e_jMath_min1_v203 : en_T := ([(0, 0, 24, []), (0, -96, 72, [])], some (0, -96, 24, []), true, 1, 0, 0, [], [], (0, [], [], [(23, [0, 2], [0, -1, 1]), (23, [1, 2], [0, -1, 1])], []))
def o_jMath_min1_v203_0 : or_T := (10, 2, [(0, (0, 0, 24, [])), (1, (0, -96, 23, []))], [(7, [0, 1], [4])], [], [], [(23, [0, 1], [0, -1, 1]), (23, [1, 1], [0, -1, 1])], [], [(0, 1, 1, 4294967296)])
theorem oo_jMath_min1_v203_0 {kA : Nat → ClassId} : or_ok PRD kA GG o_jMath_min1_v203_0 := by
  refine or_mk fun A ta ws vs hD hth hl => ?_
  intro t0 k0 t1 k1 d0 f0
  replace f0 := shm_21 f0
  have nf0 : fc_1 PRD (23, [0, 1], [0, -1, 1]) ws (vs) := by
    refine ⟨nf_in hl rfl, sgq_22 ?_⟩
    · show (-1) * v_iv (n_v vs 0) + (1 * v_iv (n_v vs 1) + 0) ≤ 0
      omega
  have nf1 : fc_1 PRD (23, [1, 1], [0, -1, 1]) ws (vs) := by
    refine ⟨nf_in hl rfl, sgq_23 ?_⟩
    · show (-1) * v_iv (n_v vs 1) + (1 * v_iv (n_v vs 1) + 0) ≤ 0
      omega
  refine ⟨(fun _ h => (by cases h)), [], trivial, ?_, (fun _ h => (by cases h))⟩
  rw [List.append_nil]
  exact List.forall_mem_cons.mpr ⟨⟨show (23 : Nat) < 100 from by decide, nf0⟩, List.forall_mem_cons.mpr ⟨⟨show (23 : Nat) < 100 from by decide, nf1⟩, (fun _ h => (by cases h))⟩⟩
def o_jMath_min1_v203_1 : or_T := (10, 2, [(0, (0, 0, 24, [])), (1, (0, 0, 72, []))], [(7, [0, 1], [5])], [], [], [(23, [0, 0], [0, -1, 1]), (23, [1, 0], [0, -1, 1])], [], [(0, 1, -4294967296, 0)])
theorem oo_jMath_min1_v203_1 {kA : Nat → ClassId} : or_ok PRD kA GG o_jMath_min1_v203_1 := by
  refine or_mk fun A ta ws vs hD hth hl => ?_
  intro t0 k0 t1 k1 d0 f0
  replace f0 := shm_24 f0
  have nf0 : fc_1 PRD (23, [0, 0], [0, -1, 1]) ws (vs) := by
    refine ⟨nf_in hl rfl, sgq_23 ?_⟩
    · show (-1) * v_iv (n_v vs 0) + (1 * v_iv (n_v vs 0) + 0) ≤ 0
      omega
  have nf1 : fc_1 PRD (23, [1, 0], [0, -1, 1]) ws (vs) := by
    refine ⟨nf_in hl rfl, sgq_22 ?_⟩
    · show (-1) * v_iv (n_v vs 1) + (1 * v_iv (n_v vs 0) + 0) ≤ 0
      omega
  refine ⟨(fun _ h => (by cases h)), [], trivial, ?_, (fun _ h => (by cases h))⟩
  rw [List.append_nil]
  exact List.forall_mem_cons.mpr ⟨⟨show (23 : Nat) < 100 from by decide, nf0⟩, List.forall_mem_cons.mpr ⟨⟨show (23 : Nat) < 100 from by decide, nf1⟩, (fun _ h => (by cases h))⟩⟩
def n_jMath_min1_v203_an : List an_T := []
def t_jMath_min1_v203_ct : ct_L := []
set_option maxRecDepth 100000 in
theorem c_jMath_min1_v203 {l : Launch} {D : va_G} {kA : Nat → ClassId} : ct_ok PRD l D kA GG y_jMath_min1 z_jMath_min1 e_jMath_min1_v203 := chk_all_ok (FT := []) (PT := []) (CT := t_jMath_min1_v203_ct) (KT := []) (NT := []) (AN := n_jMath_min1_v203_an) (OT := [o_jMath_min1_v203_0, o_jMath_min1_v203_1]) 0 200 (List.forall_mem_cons.mpr ⟨oo_jMath_min1_v203_0, List.forall_mem_cons.mpr ⟨oo_jMath_min1_v203_1, List.forall_mem_nil _⟩⟩) (pl_Math rfl (by decide)) ⟨List.forall_mem_nil _, List.forall_mem_nil _, List.forall_mem_nil _, List.forall_mem_nil _, List.forall_mem_nil _, GG_pl⟩ (by decide +kernel)
def e_jMath_max1_v204 : en_T := ([(0, 0, 0, []), (0, -96, 24, [])], some (0, 0, 24, []), true, 1, 0, 0, [], [], (0, [], [], [(23, [0, 2], [0, 1, -1]), (23, [1, 2], [0, 1, -1])], []))
def o_jMath_max1_v204_0 : or_T := (10, 2, [(0, (0, 0, 0, [])), (1, (0, 1, 24, []))], [(7, [0, 1], [2])], [], [], [(23, [0, 1], [0, 1, -1]), (23, [1, 1], [0, 1, -1])], [], [])
theorem oo_jMath_max1_v204_0 {kA : Nat → ClassId} : or_ok PRD kA GG o_jMath_max1_v204_0 := by
  refine or_mk fun A ta ws vs hD hth hl => ?_
  intro t0 k0 t1 k1 f0
  replace f0 := shm_6 f0
  have nf0 : fc_1 PRD (23, [0, 1], [0, 1, -1]) ws (vs) := by
    refine ⟨nf_in hl rfl, sgq_7 ?_⟩
    · show 1 * v_iv (n_v vs 0) + ((-1) * v_iv (n_v vs 1) + 0) ≤ 0
      omega
  have nf1 : fc_1 PRD (23, [1, 1], [0, 1, -1]) ws (vs) := by
    refine ⟨nf_in hl rfl, sgq_8 ?_⟩
    · show 1 * v_iv (n_v vs 1) + ((-1) * v_iv (n_v vs 1) + 0) ≤ 0
      omega
  refine ⟨(fun _ h => (by cases h)), [], trivial, ?_, (fun _ h => (by cases h))⟩
  rw [List.append_nil]
  exact List.forall_mem_cons.mpr ⟨⟨show (23 : Nat) < 100 from by decide, nf0⟩, List.forall_mem_cons.mpr ⟨⟨show (23 : Nat) < 100 from by decide, nf1⟩, (fun _ h => (by cases h))⟩⟩
def o_jMath_max1_v204_1 : or_T := (10, 2, [(0, (0, 0, 0, [])), (1, (0, -96, 0, []))], [(7, [0, 1], [3])], [], [], [(23, [0, 0], [0, 1, -1]), (23, [1, 0], [0, 1, -1])], [], [])
theorem oo_jMath_max1_v204_1 {kA : Nat → ClassId} : or_ok PRD kA GG o_jMath_max1_v204_1 := by
  refine or_mk fun A ta ws vs hD hth hl => ?_
  intro t0 k0 t1 k1 f0
  replace f0 := shm_2 f0
  have nf0 : fc_1 PRD (23, [0, 0], [0, 1, -1]) ws (vs) := by
    refine ⟨nf_in hl rfl, sgq_8 ?_⟩
    · show 1 * v_iv (n_v vs 0) + ((-1) * v_iv (n_v vs 0) + 0) ≤ 0
      omega
  have nf1 : fc_1 PRD (23, [1, 0], [0, 1, -1]) ws (vs) := by
    refine ⟨nf_in hl rfl, sgq_7 ?_⟩
    · show 1 * v_iv (n_v vs 1) + ((-1) * v_iv (n_v vs 0) + 0) ≤ 0
      omega
  refine ⟨(fun _ h => (by cases h)), [], trivial, ?_, (fun _ h => (by cases h))⟩
  rw [List.append_nil]
  exact List.forall_mem_cons.mpr ⟨⟨show (23 : Nat) < 100 from by decide, nf0⟩, List.forall_mem_cons.mpr ⟨⟨show (23 : Nat) < 100 from by decide, nf1⟩, (fun _ h => (by cases h))⟩⟩
def n_jMath_max1_v204_an : List an_T := []
def t_jMath_max1_v204_ct : ct_L := []
set_option maxRecDepth 100000 in
theorem c_jMath_max1_v204 {l : Launch} {D : va_G} {kA : Nat → ClassId} : ct_ok PRD l D kA GG y_jMath_max1 z_jMath_max1 e_jMath_max1_v204 := chk_all_ok (FT := []) (PT := []) (CT := t_jMath_max1_v204_ct) (KT := []) (NT := []) (AN := n_jMath_max1_v204_an) (OT := [o_jMath_max1_v204_0, o_jMath_max1_v204_1]) 0 200 (List.forall_mem_cons.mpr ⟨oo_jMath_max1_v204_0, List.forall_mem_cons.mpr ⟨oo_jMath_max1_v204_1, List.forall_mem_nil _⟩⟩) (pl_Math rfl (by decide)) ⟨List.forall_mem_nil _, List.forall_mem_nil _, List.forall_mem_nil _, List.forall_mem_nil _, List.forall_mem_nil _, GG_pl⟩ (by decide +kernel)
def e_jMath_min1_v205 : en_T := ([(0, -24, 96, []), (0, 0, 24, [])], some (0, -24, 24, []), true, 1, 0, 0, [], [], (0, [], [], [(23, [0, 2], [0, -1, 1]), (23, [1, 2], [0, -1, 1])], []))
def o_jMath_min1_v205_0 : or_T := (10, 2, [(0, (0, 1, 96, [])), (1, (0, 0, 24, []))], [(7, [0, 1], [4])], [], [], [(23, [0, 1], [0, -1, 1]), (23, [1, 1], [0, -1, 1])], [], [(0, 1, 1, 4294967296)])
theorem oo_jMath_min1_v205_0 {kA : Nat → ClassId} : or_ok PRD kA GG o_jMath_min1_v205_0 := by
  refine or_mk fun A ta ws vs hD hth hl => ?_
  intro t0 k0 t1 k1 d0 f0
  replace f0 := shm_21 f0
  have nf0 : fc_1 PRD (23, [0, 1], [0, -1, 1]) ws (vs) := by
    refine ⟨nf_in hl rfl, sgq_22 ?_⟩
    · show (-1) * v_iv (n_v vs 0) + (1 * v_iv (n_v vs 1) + 0) ≤ 0
      omega
  have nf1 : fc_1 PRD (23, [1, 1], [0, -1, 1]) ws (vs) := by
    refine ⟨nf_in hl rfl, sgq_23 ?_⟩
    · show (-1) * v_iv (n_v vs 1) + (1 * v_iv (n_v vs 1) + 0) ≤ 0
      omega
  refine ⟨(fun _ h => (by cases h)), [], trivial, ?_, (fun _ h => (by cases h))⟩
  rw [List.append_nil]
  exact List.forall_mem_cons.mpr ⟨⟨show (23 : Nat) < 100 from by decide, nf0⟩, List.forall_mem_cons.mpr ⟨⟨show (23 : Nat) < 100 from by decide, nf1⟩, (fun _ h => (by cases h))⟩⟩
def o_jMath_min1_v205_1 : or_T := (10, 2, [(0, (0, -24, 24, [])), (1, (0, 0, 24, []))], [(7, [0, 1], [5])], [], [], [(23, [0, 0], [0, -1, 1]), (23, [1, 0], [0, -1, 1])], [], [(0, 1, -4294967296, 0)])
theorem oo_jMath_min1_v205_1 {kA : Nat → ClassId} : or_ok PRD kA GG o_jMath_min1_v205_1 := by
  refine or_mk fun A ta ws vs hD hth hl => ?_
  intro t0 k0 t1 k1 d0 f0
  replace f0 := shm_24 f0
  have nf0 : fc_1 PRD (23, [0, 0], [0, -1, 1]) ws (vs) := by
    refine ⟨nf_in hl rfl, sgq_23 ?_⟩
    · show (-1) * v_iv (n_v vs 0) + (1 * v_iv (n_v vs 0) + 0) ≤ 0
      omega
  have nf1 : fc_1 PRD (23, [1, 0], [0, -1, 1]) ws (vs) := by
    refine ⟨nf_in hl rfl, sgq_22 ?_⟩
    · show (-1) * v_iv (n_v vs 1) + (1 * v_iv (n_v vs 0) + 0) ≤ 0
      omega
  refine ⟨(fun _ h => (by cases h)), [], trivial, ?_, (fun _ h => (by cases h))⟩
  rw [List.append_nil]
  exact List.forall_mem_cons.mpr ⟨⟨show (23 : Nat) < 100 from by decide, nf0⟩, List.forall_mem_cons.mpr ⟨⟨show (23 : Nat) < 100 from by decide, nf1⟩, (fun _ h => (by cases h))⟩⟩
def n_jMath_min1_v205_an : List an_T := []
def t_jMath_min1_v205_ct : ct_L := []
set_option maxRecDepth 100000 in
theorem c_jMath_min1_v205 {l : Launch} {D : va_G} {kA : Nat → ClassId} : ct_ok PRD l D kA GG y_jMath_min1 z_jMath_min1 e_jMath_min1_v205 := chk_all_ok (FT := []) (PT := []) (CT := t_jMath_min1_v205_ct) (KT := []) (NT := []) (AN := n_jMath_min1_v205_an) (OT := [o_jMath_min1_v205_0, o_jMath_min1_v205_1]) 0 200 (List.forall_mem_cons.mpr ⟨oo_jMath_min1_v205_0, List.forall_mem_cons.mpr ⟨oo_jMath_min1_v205_1, List.forall_mem_nil _⟩⟩) (pl_Math rfl (by decide)) ⟨List.forall_mem_nil _, List.forall_mem_nil _, List.forall_mem_nil _, List.forall_mem_nil _, List.forall_mem_nil _, GG_pl⟩ (by decide +kernel)
def e_jMath_min1_v206 : en_T := ([(0, -24, 24, []), (0, -96, 96, [])], some (0, -96, 24, []), true, 1, 0, 0, [], [], (0, [], [], [(23, [0, 2], [0, -1, 1]), (23, [1, 2], [0, -1, 1])], []))
def o_jMath_min1_v206_0 : or_T := (10, 2, [(0, (0, -24, 24, [])), (1, (0, -96, 23, []))], [(7, [0, 1], [4])], [], [], [(23, [0, 1], [0, -1, 1]), (23, [1, 1], [0, -1, 1])], [], [(0, 1, 1, 4294967296)])
theorem oo_jMath_min1_v206_0 {kA : Nat → ClassId} : or_ok PRD kA GG o_jMath_min1_v206_0 := by
  refine or_mk fun A ta ws vs hD hth hl => ?_
  intro t0 k0 t1 k1 d0 f0
  replace f0 := shm_21 f0
  have nf0 : fc_1 PRD (23, [0, 1], [0, -1, 1]) ws (vs) := by
    refine ⟨nf_in hl rfl, sgq_22 ?_⟩
    · show (-1) * v_iv (n_v vs 0) + (1 * v_iv (n_v vs 1) + 0) ≤ 0
      omega
  have nf1 : fc_1 PRD (23, [1, 1], [0, -1, 1]) ws (vs) := by
    refine ⟨nf_in hl rfl, sgq_23 ?_⟩
    · show (-1) * v_iv (n_v vs 1) + (1 * v_iv (n_v vs 1) + 0) ≤ 0
      omega
  refine ⟨(fun _ h => (by cases h)), [], trivial, ?_, (fun _ h => (by cases h))⟩
  rw [List.append_nil]
  exact List.forall_mem_cons.mpr ⟨⟨show (23 : Nat) < 100 from by decide, nf0⟩, List.forall_mem_cons.mpr ⟨⟨show (23 : Nat) < 100 from by decide, nf1⟩, (fun _ h => (by cases h))⟩⟩
def o_jMath_min1_v206_1 : or_T := (10, 2, [(0, (0, -24, 24, [])), (1, (0, -24, 96, []))], [(7, [0, 1], [5])], [], [], [(23, [0, 0], [0, -1, 1]), (23, [1, 0], [0, -1, 1])], [], [(0, 1, -4294967296, 0)])
theorem oo_jMath_min1_v206_1 {kA : Nat → ClassId} : or_ok PRD kA GG o_jMath_min1_v206_1 := by
  refine or_mk fun A ta ws vs hD hth hl => ?_
  intro t0 k0 t1 k1 d0 f0
  replace f0 := shm_24 f0
  have nf0 : fc_1 PRD (23, [0, 0], [0, -1, 1]) ws (vs) := by
    refine ⟨nf_in hl rfl, sgq_23 ?_⟩
    · show (-1) * v_iv (n_v vs 0) + (1 * v_iv (n_v vs 0) + 0) ≤ 0
      omega
  have nf1 : fc_1 PRD (23, [1, 0], [0, -1, 1]) ws (vs) := by
    refine ⟨nf_in hl rfl, sgq_22 ?_⟩
    · show (-1) * v_iv (n_v vs 1) + (1 * v_iv (n_v vs 0) + 0) ≤ 0
      omega
  refine ⟨(fun _ h => (by cases h)), [], trivial, ?_, (fun _ h => (by cases h))⟩
  rw [List.append_nil]
  exact List.forall_mem_cons.mpr ⟨⟨show (23 : Nat) < 100 from by decide, nf0⟩, List.forall_mem_cons.mpr ⟨⟨show (23 : Nat) < 100 from by decide, nf1⟩, (fun _ h => (by cases h))⟩⟩
def n_jMath_min1_v206_an : List an_T := []
def t_jMath_min1_v206_ct : ct_L := []
set_option maxRecDepth 100000 in
theorem c_jMath_min1_v206 {l : Launch} {D : va_G} {kA : Nat → ClassId} : ct_ok PRD l D kA GG y_jMath_min1 z_jMath_min1 e_jMath_min1_v206 := chk_all_ok (FT := []) (PT := []) (CT := t_jMath_min1_v206_ct) (KT := []) (NT := []) (AN := n_jMath_min1_v206_an) (OT := [o_jMath_min1_v206_0, o_jMath_min1_v206_1]) 0 200 (List.forall_mem_cons.mpr ⟨oo_jMath_min1_v206_0, List.forall_mem_cons.mpr ⟨oo_jMath_min1_v206_1, List.forall_mem_nil _⟩⟩) (pl_Math rfl (by decide)) ⟨List.forall_mem_nil _, List.forall_mem_nil _, List.forall_mem_nil _, List.forall_mem_nil _, List.forall_mem_nil _, GG_pl⟩ (by decide +kernel)
def e_jMath_min1_v207 : en_T := ([(0, 0, 128, []), (0, 0, 32, [])], some (0, 0, 32, []), true, 1, 0, 0, [], [], (0, [], [], [(23, [0, 2], [0, -1, 1]), (23, [1, 2], [0, -1, 1])], []))
def o_jMath_min1_v207_0 : or_T := (10, 2, [(0, (0, 1, 128, [])), (1, (0, 0, 32, []))], [(7, [0, 1], [4])], [], [], [(23, [0, 1], [0, -1, 1]), (23, [1, 1], [0, -1, 1])], [], [(0, 1, 1, 4294967296)])
theorem oo_jMath_min1_v207_0 {kA : Nat → ClassId} : or_ok PRD kA GG o_jMath_min1_v207_0 := by
  refine or_mk fun A ta ws vs hD hth hl => ?_
  intro t0 k0 t1 k1 d0 f0
  replace f0 := shm_21 f0
  have nf0 : fc_1 PRD (23, [0, 1], [0, -1, 1]) ws (vs) := by
    refine ⟨nf_in hl rfl, sgq_22 ?_⟩
    · show (-1) * v_iv (n_v vs 0) + (1 * v_iv (n_v vs 1) + 0) ≤ 0
      omega
  have nf1 : fc_1 PRD (23, [1, 1], [0, -1, 1]) ws (vs) := by
    refine ⟨nf_in hl rfl, sgq_23 ?_⟩
    · show (-1) * v_iv (n_v vs 1) + (1 * v_iv (n_v vs 1) + 0) ≤ 0
      omega
  refine ⟨(fun _ h => (by cases h)), [], trivial, ?_, (fun _ h => (by cases h))⟩
  rw [List.append_nil]
  exact List.forall_mem_cons.mpr ⟨⟨show (23 : Nat) < 100 from by decide, nf0⟩, List.forall_mem_cons.mpr ⟨⟨show (23 : Nat) < 100 from by decide, nf1⟩, (fun _ h => (by cases h))⟩⟩
def o_jMath_min1_v207_1 : or_T := (10, 2, [(0, (0, 0, 32, [])), (1, (0, 0, 32, []))], [(7, [0, 1], [5])], [], [], [(23, [0, 0], [0, -1, 1]), (23, [1, 0], [0, -1, 1])], [], [(0, 1, -4294967296, 0)])
theorem oo_jMath_min1_v207_1 {kA : Nat → ClassId} : or_ok PRD kA GG o_jMath_min1_v207_1 := by
  refine or_mk fun A ta ws vs hD hth hl => ?_
  intro t0 k0 t1 k1 d0 f0
  replace f0 := shm_24 f0
  have nf0 : fc_1 PRD (23, [0, 0], [0, -1, 1]) ws (vs) := by
    refine ⟨nf_in hl rfl, sgq_23 ?_⟩
    · show (-1) * v_iv (n_v vs 0) + (1 * v_iv (n_v vs 0) + 0) ≤ 0
      omega
  have nf1 : fc_1 PRD (23, [1, 0], [0, -1, 1]) ws (vs) := by
    refine ⟨nf_in hl rfl, sgq_22 ?_⟩
    · show (-1) * v_iv (n_v vs 1) + (1 * v_iv (n_v vs 0) + 0) ≤ 0
      omega
  refine ⟨(fun _ h => (by cases h)), [], trivial, ?_, (fun _ h => (by cases h))⟩
  rw [List.append_nil]
  exact List.forall_mem_cons.mpr ⟨⟨show (23 : Nat) < 100 from by decide, nf0⟩, List.forall_mem_cons.mpr ⟨⟨show (23 : Nat) < 100 from by decide, nf1⟩, (fun _ h => (by cases h))⟩⟩
def n_jMath_min1_v207_an : List an_T := []
def t_jMath_min1_v207_ct : ct_L := []
set_option maxRecDepth 100000 in
theorem c_jMath_min1_v207 {l : Launch} {D : va_G} {kA : Nat → ClassId} : ct_ok PRD l D kA GG y_jMath_min1 z_jMath_min1 e_jMath_min1_v207 := chk_all_ok (FT := []) (PT := []) (CT := t_jMath_min1_v207_ct) (KT := []) (NT := []) (AN := n_jMath_min1_v207_an) (OT := [o_jMath_min1_v207_0, o_jMath_min1_v207_1]) 0 200 (List.forall_mem_cons.mpr ⟨oo_jMath_min1_v207_0, List.forall_mem_cons.mpr ⟨oo_jMath_min1_v207_1, List.forall_mem_nil _⟩⟩) (pl_Math rfl (by decide)) ⟨List.forall_mem_nil _, List.forall_mem_nil _, List.forall_mem_nil _, List.forall_mem_nil _, List.forall_mem_nil _, GG_pl⟩ (by decide +kernel)
def e_jMath_min1_v208 : en_T := ([(0, 0, 32, []), (0, -128, 96, [])], some (0, -128, 32, []), true, 1, 0, 0, [], [], (0, [], [], [(23, [0, 2], [0, -1, 1]), (23, [1, 2], [0, -1, 1])], []))
def o_jMath_min1_v208_0 : or_T := (10, 2, [(0, (0, 0, 32, [])), (1, (0, -128, 31, []))], [(7, [0, 1], [4])], [], [], [(23, [0, 1], [0, -1, 1]), (23, [1, 1], [0, -1, 1])], [], [(0, 1, 1, 4294967296)])
theorem oo_jMath_min1_v208_0 {kA : Nat → ClassId} : or_ok PRD kA GG o_jMath_min1_v208_0 := by
  refine or_mk fun A ta ws vs hD hth hl => ?_
  intro t0 k0 t1 k1 d0 f0
  replace f0 := shm_21 f0
  have nf0 : fc_1 PRD (23, [0, 1], [0, -1, 1]) ws (vs) := by
    refine ⟨nf_in hl rfl, sgq_22 ?_⟩
    · show (-1) * v_iv (n_v vs 0) + (1 * v_iv (n_v vs 1) + 0) ≤ 0
      omega
  have nf1 : fc_1 PRD (23, [1, 1], [0, -1, 1]) ws (vs) := by
    refine ⟨nf_in hl rfl, sgq_23 ?_⟩
    · show (-1) * v_iv (n_v vs 1) + (1 * v_iv (n_v vs 1) + 0) ≤ 0
      omega
  refine ⟨(fun _ h => (by cases h)), [], trivial, ?_, (fun _ h => (by cases h))⟩
  rw [List.append_nil]
  exact List.forall_mem_cons.mpr ⟨⟨show (23 : Nat) < 100 from by decide, nf0⟩, List.forall_mem_cons.mpr ⟨⟨show (23 : Nat) < 100 from by decide, nf1⟩, (fun _ h => (by cases h))⟩⟩
def o_jMath_min1_v208_1 : or_T := (10, 2, [(0, (0, 0, 32, [])), (1, (0, 0, 96, []))], [(7, [0, 1], [5])], [], [], [(23, [0, 0], [0, -1, 1]), (23, [1, 0], [0, -1, 1])], [], [(0, 1, -4294967296, 0)])
theorem oo_jMath_min1_v208_1 {kA : Nat → ClassId} : or_ok PRD kA GG o_jMath_min1_v208_1 := by
  refine or_mk fun A ta ws vs hD hth hl => ?_
  intro t0 k0 t1 k1 d0 f0
  replace f0 := shm_24 f0
  have nf0 : fc_1 PRD (23, [0, 0], [0, -1, 1]) ws (vs) := by
    refine ⟨nf_in hl rfl, sgq_23 ?_⟩
    · show (-1) * v_iv (n_v vs 0) + (1 * v_iv (n_v vs 0) + 0) ≤ 0
      omega
  have nf1 : fc_1 PRD (23, [1, 0], [0, -1, 1]) ws (vs) := by
    refine ⟨nf_in hl rfl, sgq_22 ?_⟩
    · show (-1) * v_iv (n_v vs 1) + (1 * v_iv (n_v vs 0) + 0) ≤ 0
      omega
  refine ⟨(fun _ h => (by cases h)), [], trivial, ?_, (fun _ h => (by cases h))⟩
  rw [List.append_nil]
  exact List.forall_mem_cons.mpr ⟨⟨show (23 : Nat) < 100 from by decide, nf0⟩, List.forall_mem_cons.mpr ⟨⟨show (23 : Nat) < 100 from by decide, nf1⟩, (fun _ h => (by cases h))⟩⟩
def n_jMath_min1_v208_an : List an_T := []
def t_jMath_min1_v208_ct : ct_L := []
set_option maxRecDepth 100000 in
theorem c_jMath_min1_v208 {l : Launch} {D : va_G} {kA : Nat → ClassId} : ct_ok PRD l D kA GG y_jMath_min1 z_jMath_min1 e_jMath_min1_v208 := chk_all_ok (FT := []) (PT := []) (CT := t_jMath_min1_v208_ct) (KT := []) (NT := []) (AN := n_jMath_min1_v208_an) (OT := [o_jMath_min1_v208_0, o_jMath_min1_v208_1]) 0 200 (List.forall_mem_cons.mpr ⟨oo_jMath_min1_v208_0, List.forall_mem_cons.mpr ⟨oo_jMath_min1_v208_1, List.forall_mem_nil _⟩⟩) (pl_Math rfl (by decide)) ⟨List.forall_mem_nil _, List.forall_mem_nil _, List.forall_mem_nil _, List.forall_mem_nil _, List.forall_mem_nil _, GG_pl⟩ (by decide +kernel)
def e_jMath_max1_v209 : en_T := ([(0, 0, 0, []), (0, -128, 32, [])], some (0, 0, 32, []), true, 1, 0, 0, [], [], (0, [], [], [(23, [0, 2], [0, 1, -1]), (23, [1, 2], [0, 1, -1])], []))
def o_jMath_max1_v209_0 : or_T := (10, 2, [(0, (0, 0, 0, [])), (1, (0, 1, 32, []))], [(7, [0, 1], [2])], [], [], [(23, [0, 1], [0, 1, -1]), (23, [1, 1], [0, 1, -1])], [], [])
theorem oo_jMath_max1_v209_0 {kA : Nat → ClassId} : or_ok PRD kA GG o_jMath_max1_v209_0 := by
  refine or_mk fun A ta ws vs hD hth hl => ?_
  intro t0 k0 t1 k1 f0
  replace f0 := shm_6 f0
  have nf0 : fc_1 PRD (23, [0, 1], [0, 1, -1]) ws (vs) := by
    refine ⟨nf_in hl rfl, sgq_7 ?_⟩
    · show 1 * v_iv (n_v vs 0) + ((-1) * v_iv (n_v vs 1) + 0) ≤ 0
      omega
  have nf1 : fc_1 PRD (23, [1, 1], [0, 1, -1]) ws (vs) := by
    refine ⟨nf_in hl rfl, sgq_8 ?_⟩
    · show 1 * v_iv (n_v vs 1) + ((-1) * v_iv (n_v vs 1) + 0) ≤ 0
      omega
  refine ⟨(fun _ h => (by cases h)), [], trivial, ?_, (fun _ h => (by cases h))⟩
  rw [List.append_nil]
  exact List.forall_mem_cons.mpr ⟨⟨show (23 : Nat) < 100 from by decide, nf0⟩, List.forall_mem_cons.mpr ⟨⟨show (23 : Nat) < 100 from by decide, nf1⟩, (fun _ h => (by cases h))⟩⟩
def o_jMath_max1_v209_1 : or_T := (10, 2, [(0, (0, 0, 0, [])), (1, (0, -128, 0, []))], [(7, [0, 1], [3])], [], [], [(23, [0, 0], [0, 1, -1]), (23, [1, 0], [0, 1, -1])], [], [])
theorem oo_jMath_max1_v209_1 {kA : Nat → ClassId} : or_ok PRD kA GG o_jMath_max1_v209_1 := by
  refine or_mk fun A ta ws vs hD hth hl => ?_
  intro t0 k0 t1 k1 f0
  replace f0 := shm_2 f0
  have nf0 : fc_1 PRD (23, [0, 0], [0, 1, -1]) ws (vs) := by
    refine ⟨nf_in hl rfl, sgq_8 ?_⟩
    · show 1 * v_iv (n_v vs 0) + ((-1) * v_iv (n_v vs 0) + 0) ≤ 0
      omega
  have nf1 : fc_1 PRD (23, [1, 0], [0, 1, -1]) ws (vs) := by
    refine ⟨nf_in hl rfl, sgq_7 ?_⟩
    · show 1 * v_iv (n_v vs 1) + ((-1) * v_iv (n_v vs 0) + 0) ≤ 0
      omega
  refine ⟨(fun _ h => (by cases h)), [], trivial, ?_, (fun _ h => (by cases h))⟩
  rw [List.append_nil]
  exact List.forall_mem_cons.mpr ⟨⟨show (23 : Nat) < 100 from by decide, nf0⟩, List.forall_mem_cons.mpr ⟨⟨show (23 : Nat) < 100 from by decide, nf1⟩, (fun _ h => (by cases h))⟩⟩
def n_jMath_max1_v209_an : List an_T := []
def t_jMath_max1_v209_ct : ct_L := []
set_option maxRecDepth 100000 in
theorem c_jMath_max1_v209 {l : Launch} {D : va_G} {kA : Nat → ClassId} : ct_ok PRD l D kA GG y_jMath_max1 z_jMath_max1 e_jMath_max1_v209 := chk_all_ok (FT := []) (PT := []) (CT := t_jMath_max1_v209_ct) (KT := []) (NT := []) (AN := n_jMath_max1_v209_an) (OT := [o_jMath_max1_v209_0, o_jMath_max1_v209_1]) 0 200 (List.forall_mem_cons.mpr ⟨oo_jMath_max1_v209_0, List.forall_mem_cons.mpr ⟨oo_jMath_max1_v209_1, List.forall_mem_nil _⟩⟩) (pl_Math rfl (by decide)) ⟨List.forall_mem_nil _, List.forall_mem_nil _, List.forall_mem_nil _, List.forall_mem_nil _, List.forall_mem_nil _, GG_pl⟩ (by decide +kernel)
def e_jMath_min1_v210 : en_T := ([(0, -32, 128, []), (0, 0, 32, [])], some (0, -32, 32, []), true, 1, 0, 0, [], [], (0, [], [], [(23, [0, 2], [0, -1, 1]), (23, [1, 2], [0, -1, 1])], []))
def o_jMath_min1_v210_0 : or_T := (10, 2, [(0, (0, 1, 128, [])), (1, (0, 0, 32, []))], [(7, [0, 1], [4])], [], [], [(23, [0, 1], [0, -1, 1]), (23, [1, 1], [0, -1, 1])], [], [(0, 1, 1, 4294967296)])
theorem oo_jMath_min1_v210_0 {kA : Nat → ClassId} : or_ok PRD kA GG o_jMath_min1_v210_0 := by
  refine or_mk fun A ta ws vs hD hth hl => ?_
  intro t0 k0 t1 k1 d0 f0
  replace f0 := shm_21 f0
  have nf0 : fc_1 PRD (23, [0, 1], [0, -1, 1]) ws (vs) := by
    refine ⟨nf_in hl rfl, sgq_22 ?_⟩
    · show (-1) * v_iv (n_v vs 0) + (1 * v_iv (n_v vs 1) + 0) ≤ 0
      omega
  have nf1 : fc_1 PRD (23, [1, 1], [0, -1, 1]) ws (vs) := by
    refine ⟨nf_in hl rfl, sgq_23 ?_⟩
    · show (-1) * v_iv (n_v vs 1) + (1 * v_iv (n_v vs 1) + 0) ≤ 0
      omega
  refine ⟨(fun _ h => (by cases h)), [], trivial, ?_, (fun _ h => (by cases h))⟩
  rw [List.append_nil]
  exact List.forall_mem_cons.mpr ⟨⟨show (23 : Nat) < 100 from by decide, nf0⟩, List.forall_mem_cons.mpr ⟨⟨show (23 : Nat) < 100 from by decide, nf1⟩, (fun _ h => (by cases h))⟩⟩
def o_jMath_min1_v210_1 : or_T := (10, 2, [(0, (0, -32, 32, [])), (1, (0, 0, 32, []))], [(7, [0, 1], [5])], [], [], [(23, [0, 0], [0, -1, 1]), (23, [1, 0], [0, -1, 1])], [], [(0, 1, -4294967296, 0)])
theorem oo_jMath_min1_v210_1 {kA : Nat → ClassId} : or_ok PRD kA GG o_jMath_min1_v210_1 := by
  refine or_mk fun A ta ws vs hD hth hl => ?_
  intro t0 k0 t1 k1 d0 f0
  replace f0 := shm_24 f0
  have nf0 : fc_1 PRD (23, [0, 0], [0, -1, 1]) ws (vs) := by
    refine ⟨nf_in hl rfl, sgq_23 ?_⟩
    · show (-1) * v_iv (n_v vs 0) + (1 * v_iv (n_v vs 0) + 0) ≤ 0
      omega
  have nf1 : fc_1 PRD (23, [1, 0], [0, -1, 1]) ws (vs) := by
    refine ⟨nf_in hl rfl, sgq_22 ?_⟩
    · show (-1) * v_iv (n_v vs 1) + (1 * v_iv (n_v vs 0) + 0) ≤ 0
      omega
  refine ⟨(fun _ h => (by cases h)), [], trivial, ?_, (fun _ h => (by cases h))⟩
  rw [List.append_nil]
  exact List.forall_mem_cons.mpr ⟨⟨show (23 : Nat) < 100 from by decide, nf0⟩, List.forall_mem_cons.mpr ⟨⟨show (23 : Nat) < 100 from by decide, nf1⟩, (fun _ h => (by cases h))⟩⟩
def n_jMath_min1_v210_an : List an_T := []
def t_jMath_min1_v210_ct : ct_L := []
set_option maxRecDepth 100000 in
theorem c_jMath_min1_v210 {l : Launch} {D : va_G} {kA : Nat → ClassId} : ct_ok PRD l D kA GG y_jMath_min1 z_jMath_min1 e_jMath_min1_v210 := chk_all_ok (FT := []) (PT := []) (CT := t_jMath_min1_v210_ct) (KT := []) (NT := []) (AN := n_jMath_min1_v210_an) (OT := [o_jMath_min1_v210_0, o_jMath_min1_v210_1]) 0 200 (List.forall_mem_cons.mpr ⟨oo_jMath_min1_v210_0, List.forall_mem_cons.mpr ⟨oo_jMath_min1_v210_1, List.forall_mem_nil _⟩⟩) (pl_Math rfl (by decide)) ⟨List.forall_mem_nil _, List.forall_mem_nil _, List.forall_mem_nil _, List.forall_mem_nil _, List.forall_mem_nil _, GG_pl⟩ (by decide +kernel)
def e_jMath_min1_v211 : en_T := ([(0, -32, 32, []), (0, -128, 128, [])], some (0, -128, 32, []), true, 1, 0, 0, [], [], (0, [], [], [(23, [0, 2], [0, -1, 1]), (23, [1, 2], [0, -1, 1])], []))
def o_jMath_min1_v211_0 : or_T := (10, 2, [(0, (0, -32, 32, [])), (1, (0, -128, 31, []))], [(7, [0, 1], [4])], [], [], [(23, [0, 1], [0, -1, 1]), (23, [1, 1], [0, -1, 1])], [], [(0, 1, 1, 4294967296)])
theorem oo_jMath_min1_v211_0 {kA : Nat → ClassId} : or_ok PRD kA GG o_jMath_min1_v211_0 := by
  refine or_mk fun A ta ws vs hD hth hl => ?_
  intro t0 k0 t1 k1 d0 f0
  replace f0 := shm_21 f0
  have nf0 : fc_1 PRD (23, [0, 1], [0, -1, 1]) ws (vs) := by
    refine ⟨nf_in hl rfl, sgq_22 ?_⟩
    · show (-1) * v_iv (n_v vs 0) + (1 * v_iv (n_v vs 1) + 0) ≤ 0
      omega
  have nf1 : fc_1 PRD (23, [1, 1], [0, -1, 1]) ws (vs) := by
    refine ⟨nf_in hl rfl, sgq_23 ?_⟩
    · show (-1) * v_iv (n_v vs 1) + (1 * v_iv (n_v vs 1) + 0) ≤ 0
      omega
  refine ⟨(fun _ h => (by cases h)), [], trivial, ?_, (fun _ h => (by cases h))⟩
  rw [List.append_nil]
  exact List.forall_mem_cons.mpr ⟨⟨show (23 : Nat) < 100 from by decide, nf0⟩, List.forall_mem_cons.mpr ⟨⟨show (23 : Nat) < 100 from by decide, nf1⟩, (fun _ h => (by cases h))⟩⟩
def o_jMath_min1_v211_1 : or_T := (10, 2, [(0, (0, -32, 32, [])), (1, (0, -32, 128, []))], [(7, [0, 1], [5])], [], [], [(23, [0, 0], [0, -1, 1]), (23, [1, 0], [0, -1, 1])], [], [(0, 1, -4294967296, 0)])
theorem oo_jMath_min1_v211_1 {kA : Nat → ClassId} : or_ok PRD kA GG o_jMath_min1_v211_1 := by
  refine or_mk fun A ta ws vs hD hth hl => ?_
  intro t0 k0 t1 k1 d0 f0
  replace f0 := shm_24 f0
  have nf0 : fc_1 PRD (23, [0, 0], [0, -1, 1]) ws (vs) := by
    refine ⟨nf_in hl rfl, sgq_23 ?_⟩
    · show (-1) * v_iv (n_v vs 0) + (1 * v_iv (n_v vs 0) + 0) ≤ 0
      omega
  have nf1 : fc_1 PRD (23, [1, 0], [0, -1, 1]) ws (vs) := by
    refine ⟨nf_in hl rfl, sgq_22 ?_⟩
    · show (-1) * v_iv (n_v vs 1) + (1 * v_iv (n_v vs 0) + 0) ≤ 0
      omega
  refine ⟨(fun _ h => (by cases h)), [], trivial, ?_, (fun _ h => (by cases h))⟩
  rw [List.append_nil]
  exact List.forall_mem_cons.mpr ⟨⟨show (23 : Nat) < 100 from by decide, nf0⟩, List.forall_mem_cons.mpr ⟨⟨show (23 : Nat) < 100 from by decide, nf1⟩, (fun _ h => (by cases h))⟩⟩
def n_jMath_min1_v211_an : List an_T := []
def t_jMath_min1_v211_ct : ct_L := []
set_option maxRecDepth 100000 in
theorem c_jMath_min1_v211 {l : Launch} {D : va_G} {kA : Nat → ClassId} : ct_ok PRD l D kA GG y_jMath_min1 z_jMath_min1 e_jMath_min1_v211 := chk_all_ok (FT := []) (PT := []) (CT := t_jMath_min1_v211_ct) (KT := []) (NT := []) (AN := n_jMath_min1_v211_an) (OT := [o_jMath_min1_v211_0, o_jMath_min1_v211_1]) 0 200 (List.forall_mem_cons.mpr ⟨oo_jMath_min1_v211_0, List.forall_mem_cons.mpr ⟨oo_jMath_min1_v211_1, List.forall_mem_nil _⟩⟩) (pl_Math rfl (by decide)) ⟨List.forall_mem_nil _, List.forall_mem_nil _, List.forall_mem_nil _, List.forall_mem_nil _, List.forall_mem_nil _, GG_pl⟩ (by decide +kernel)
def e_jMath_min1_v212 : en_T := ([(0, 0, 224, []), (0, 0, 63, [])], some (0, 0, 63, []), true, 1, 0, 0, [], [], (0, [], [], [(23, [0, 2], [0, -1, 1]), (23, [1, 2], [0, -1, 1])], []))
def o_jMath_min1_v212_0 : or_T := (10, 2, [(0, (0, 1, 224, [])), (1, (0, 0, 63, []))], [(7, [0, 1], [4])], [], [], [(23, [0, 1], [0, -1, 1]), (23, [1, 1], [0, -1, 1])], [], [(0, 1, 1, 4294967296)])
theorem oo_jMath_min1_v212_0 {kA : Nat → ClassId} : or_ok PRD kA GG o_jMath_min1_v212_0 := by
  refine or_mk fun A ta ws vs hD hth hl => ?_
  intro t0 k0 t1 k1 d0 f0
  replace f0 := shm_21 f0
  have nf0 : fc_1 PRD (23, [0, 1], [0, -1, 1]) ws (vs) := by
    refine ⟨nf_in hl rfl, sgq_22 ?_⟩
    · show (-1) * v_iv (n_v vs 0) + (1 * v_iv (n_v vs 1) + 0) ≤ 0
      omega
  have nf1 : fc_1 PRD (23, [1, 1], [0, -1, 1]) ws (vs) := by
    refine ⟨nf_in hl rfl, sgq_23 ?_⟩
    · show (-1) * v_iv (n_v vs 1) + (1 * v_iv (n_v vs 1) + 0) ≤ 0
      omega
  refine ⟨(fun _ h => (by cases h)), [], trivial, ?_, (fun _ h => (by cases h))⟩
  rw [List.append_nil]
  exact List.forall_mem_cons.mpr ⟨⟨show (23 : Nat) < 100 from by decide, nf0⟩, List.forall_mem_cons.mpr ⟨⟨show (23 : Nat) < 100 from by decide, nf1⟩, (fun _ h => (by cases h))⟩⟩
def o_jMath_min1_v212_1 : or_T := (10, 2, [(0, (0, 0, 63, [])), (1, (0, 0, 63, []))], [(7, [0, 1], [5])], [], [], [(23, [0, 0], [0, -1, 1]), (23, [1, 0], [0, -1, 1])], [], [(0, 1, -4294967296, 0)])
theorem oo_jMath_min1_v212_1 {kA : Nat → ClassId} : or_ok PRD kA GG o_jMath_min1_v212_1 := by
  refine or_mk fun A ta ws vs hD hth hl => ?_
  intro t0 k0 t1 k1 d0 f0
  replace f0 := shm_24 f0
  have nf0 : fc_1 PRD (23, [0, 0], [0, -1, 1]) ws (vs) := by
    refine ⟨nf_in hl rfl, sgq_23 ?_⟩
    · show (-1) * v_iv (n_v vs 0) + (1 * v_iv (n_v vs 0) + 0) ≤ 0
      omega
  have nf1 : fc_1 PRD (23, [1, 0], [0, -1, 1]) ws (vs) := by
    refine ⟨nf_in hl rfl, sgq_22 ?_⟩
    · show (-1) * v_iv (n_v vs 1) + (1 * v_iv (n_v vs 0) + 0) ≤ 0
      omega
  refine ⟨(fun _ h => (by cases h)), [], trivial, ?_, (fun _ h => (by cases h))⟩
  rw [List.append_nil]
  exact List.forall_mem_cons.mpr ⟨⟨show (23 : Nat) < 100 from by decide, nf0⟩, List.forall_mem_cons.mpr ⟨⟨show (23 : Nat) < 100 from by decide, nf1⟩, (fun _ h => (by cases h))⟩⟩
def n_jMath_min1_v212_an : List an_T := []
def t_jMath_min1_v212_ct : ct_L := []
set_option maxRecDepth 100000 in
theorem c_jMath_min1_v212 {l : Launch} {D : va_G} {kA : Nat → ClassId} : ct_ok PRD l D kA GG y_jMath_min1 z_jMath_min1 e_jMath_min1_v212 := chk_all_ok (FT := []) (PT := []) (CT := t_jMath_min1_v212_ct) (KT := []) (NT := []) (AN := n_jMath_min1_v212_an) (OT := [o_jMath_min1_v212_0, o_jMath_min1_v212_1]) 0 200 (List.forall_mem_cons.mpr ⟨oo_jMath_min1_v212_0, List.forall_mem_cons.mpr ⟨oo_jMath_min1_v212_1, List.forall_mem_nil _⟩⟩) (pl_Math rfl (by decide)) ⟨List.forall_mem_nil _, List.forall_mem_nil _, List.forall_mem_nil _, List.forall_mem_nil _, List.forall_mem_nil _, GG_pl⟩ (by decide +kernel)
def e_jMath_min1_v213 : en_T := ([(0, 0, 63, []), (0, -224, 189, [])], some (0, -224, 63, []), true, 1, 0, 0, [], [], (0, [], [], [(23, [0, 2], [0, -1, 1]), (23, [1, 2], [0, -1, 1])], []))
def o_jMath_min1_v213_0 : or_T := (10, 2, [(0, (0, 0, 63, [])), (1, (0, -224, 62, []))], [(7, [0, 1], [4])], [], [], [(23, [0, 1], [0, -1, 1]), (23, [1, 1], [0, -1, 1])], [], [(0, 1, 1, 4294967296)])
theorem oo_jMath_min1_v213_0 {kA : Nat → ClassId} : or_ok PRD kA GG o_jMath_min1_v213_0 := by
  refine or_mk fun A ta ws vs hD hth hl => ?_
  intro t0 k0 t1 k1 d0 f0
  replace f0 := shm_21 f0
  have nf0 : fc_1 PRD (23, [0, 1], [0, -1, 1]) ws (vs) := by
    refine ⟨nf_in hl rfl, sgq_22 ?_⟩
    · show (-1) * v_iv (n_v vs 0) + (1 * v_iv (n_v vs 1) + 0) ≤ 0
      omega
  have nf1 : fc_1 PRD (23, [1, 1], [0, -1, 1]) ws (vs) := by
    refine ⟨nf_in hl rfl, sgq_23 ?_⟩
    · show (-1) * v_iv (n_v vs 1) + (1 * v_iv (n_v vs 1) + 0) ≤ 0
      omega
  refine ⟨(fun _ h => (by cases h)), [], trivial, ?_, (fun _ h => (by cases h))⟩
  rw [List.append_nil]
  exact List.forall_mem_cons.mpr ⟨⟨show (23 : Nat) < 100 from by decide, nf0⟩, List.forall_mem_cons.mpr ⟨⟨show (23 : Nat) < 100 from by decide, nf1⟩, (fun _ h => (by cases h))⟩⟩
def o_jMath_min1_v213_1 : or_T := (10, 2, [(0, (0, 0, 63, [])), (1, (0, 0, 189, []))], [(7, [0, 1], [5])], [], [], [(23, [0, 0], [0, -1, 1]), (23, [1, 0], [0, -1, 1])], [], [(0, 1, -4294967296, 0)])
theorem oo_jMath_min1_v213_1 {kA : Nat → ClassId} : or_ok PRD kA GG o_jMath_min1_v213_1 := by
  refine or_mk fun A ta ws vs hD hth hl => ?_
  intro t0 k0 t1 k1 d0 f0
  replace f0 := shm_24 f0
  have nf0 : fc_1 PRD (23, [0, 0], [0, -1, 1]) ws (vs) := by
    refine ⟨nf_in hl rfl, sgq_23 ?_⟩
    · show (-1) * v_iv (n_v vs 0) + (1 * v_iv (n_v vs 0) + 0) ≤ 0
      omega
  have nf1 : fc_1 PRD (23, [1, 0], [0, -1, 1]) ws (vs) := by
    refine ⟨nf_in hl rfl, sgq_22 ?_⟩
    · show (-1) * v_iv (n_v vs 1) + (1 * v_iv (n_v vs 0) + 0) ≤ 0
      omega
  refine ⟨(fun _ h => (by cases h)), [], trivial, ?_, (fun _ h => (by cases h))⟩
  rw [List.append_nil]
  exact List.forall_mem_cons.mpr ⟨⟨show (23 : Nat) < 100 from by decide, nf0⟩, List.forall_mem_cons.mpr ⟨⟨show (23 : Nat) < 100 from by decide, nf1⟩, (fun _ h => (by cases h))⟩⟩
def n_jMath_min1_v213_an : List an_T := []
def t_jMath_min1_v213_ct : ct_L := []
set_option maxRecDepth 100000 in
theorem c_jMath_min1_v213 {l : Launch} {D : va_G} {kA : Nat → ClassId} : ct_ok PRD l D kA GG y_jMath_min1 z_jMath_min1 e_jMath_min1_v213 := chk_all_ok (FT := []) (PT := []) (CT := t_jMath_min1_v213_ct) (KT := []) (NT := []) (AN := n_jMath_min1_v213_an) (OT := [o_jMath_min1_v213_0, o_jMath_min1_v213_1]) 0 200 (List.forall_mem_cons.mpr ⟨oo_jMath_min1_v213_0, List.forall_mem_cons.mpr ⟨oo_jMath_min1_v213_1, List.forall_mem_nil _⟩⟩) (pl_Math rfl (by decide)) ⟨List.forall_mem_nil _, List.forall_mem_nil _, List.forall_mem_nil _, List.forall_mem_nil _, List.forall_mem_nil _, GG_pl⟩ (by decide +kernel)
def e_jMath_max1_v214 : en_T := ([(0, 0, 0, []), (0, -224, 63, [])], some (0, 0, 63, []), true, 1, 0, 0, [], [], (0, [], [], [(23, [0, 2], [0, 1, -1]), (23, [1, 2], [0, 1, -1])], []))
def o_jMath_max1_v214_0 : or_T := (10, 2, [(0, (0, 0, 0, [])), (1, (0, 1, 63, []))], [(7, [0, 1], [2])], [], [], [(23, [0, 1], [0, 1, -1]), (23, [1, 1], [0, 1, -1])], [], [])
theorem oo_jMath_max1_v214_0 {kA : Nat → ClassId} : or_ok PRD kA GG o_jMath_max1_v214_0 := by
  refine or_mk fun A ta ws vs hD hth hl => ?_
  intro t0 k0 t1 k1 f0
  replace f0 := shm_6 f0
  have nf0 : fc_1 PRD (23, [0, 1], [0, 1, -1]) ws (vs) := by
    refine ⟨nf_in hl rfl, sgq_7 ?_⟩
    · show 1 * v_iv (n_v vs 0) + ((-1) * v_iv (n_v vs 1) + 0) ≤ 0
      omega
  have nf1 : fc_1 PRD (23, [1, 1], [0, 1, -1]) ws (vs) := by
    refine ⟨nf_in hl rfl, sgq_8 ?_⟩
    · show 1 * v_iv (n_v vs 1) + ((-1) * v_iv (n_v vs 1) + 0) ≤ 0
      omega
  refine ⟨(fun _ h => (by cases h)), [], trivial, ?_, (fun _ h => (by cases h))⟩
  rw [List.append_nil]
  exact List.forall_mem_cons.mpr ⟨⟨show (23 : Nat) < 100 from by decide, nf0⟩, List.forall_mem_cons.mpr ⟨⟨show (23 : Nat) < 100 from by decide, nf1⟩, (fun _ h => (by cases h))⟩⟩
def o_jMath_max1_v214_1 : or_T := (10, 2, [(0, (0, 0, 0, [])), (1, (0, -224, 0, []))], [(7, [0, 1], [3])], [], [], [(23, [0, 0], [0, 1, -1]), (23, [1, 0], [0, 1, -1])], [], [])
theorem oo_jMath_max1_v214_1 {kA : Nat → ClassId} : or_ok PRD kA GG o_jMath_max1_v214_1 := by
  refine or_mk fun A ta ws vs hD hth hl => ?_
  intro t0 k0 t1 k1 f0
  replace f0 := shm_2 f0
  have nf0 : fc_1 PRD (23, [0, 0], [0, 1, -1]) ws (vs) := by
    refine ⟨nf_in hl rfl, sgq_8 ?_⟩
    · show 1 * v_iv (n_v vs 0) + ((-1) * v_iv (n_v vs 0) + 0) ≤ 0
      omega
  have nf1 : fc_1 PRD (23, [1, 0], [0, 1, -1]) ws (vs) := by
    refine ⟨nf_in hl rfl, sgq_7 ?_⟩
    · show 1 * v_iv (n_v vs 1) + ((-1) * v_iv (n_v vs 0) + 0) ≤ 0
      omega
  refine ⟨(fun _ h => (by cases h)), [], trivial, ?_, (fun _ h => (by cases h))⟩
  rw [List.append_nil]
  exact List.forall_mem_cons.mpr ⟨⟨show (23 : Nat) < 100 from by decide, nf0⟩, List.forall_mem_cons.mpr ⟨⟨show (23 : Nat) < 100 from by decide, nf1⟩, (fun _ h => (by cases h))⟩⟩
def n_jMath_max1_v214_an : List an_T := []
def t_jMath_max1_v214_ct : ct_L := []
set_option maxRecDepth 100000 in
theorem c_jMath_max1_v214 {l : Launch} {D : va_G} {kA : Nat → ClassId} : ct_ok PRD l D kA GG y_jMath_max1 z_jMath_max1 e_jMath_max1_v214 := chk_all_ok (FT := []) (PT := []) (CT := t_jMath_max1_v214_ct) (KT := []) (NT := []) (AN := n_jMath_max1_v214_an) (OT := [o_jMath_max1_v214_0, o_jMath_max1_v214_1]) 0 200 (List.forall_mem_cons.mpr ⟨oo_jMath_max1_v214_0, List.forall_mem_cons.mpr ⟨oo_jMath_max1_v214_1, List.forall_mem_nil _⟩⟩) (pl_Math rfl (by decide)) ⟨List.forall_mem_nil _, List.forall_mem_nil _, List.forall_mem_nil _, List.forall_mem_nil _, List.forall_mem_nil _, GG_pl⟩ (by decide +kernel)
def e_jMath_min1_v215 : en_T := ([(0, -63, 224, []), (0, 0, 63, [])], some (0, -63, 63, []), true, 1, 0, 0, [], [], (0, [], [], [(23, [0, 2], [0, -1, 1]), (23, [1, 2], [0, -1, 1])], []))
def o_jMath_min1_v215_0 : or_T := (10, 2, [(0, (0, 1, 224, [])), (1, (0, 0, 63, []))], [(7, [0, 1], [4])], [], [], [(23, [0, 1], [0, -1, 1]), (23, [1, 1], [0, -1, 1])], [], [(0, 1, 1, 4294967296)])
theorem oo_jMath_min1_v215_0 {kA : Nat → ClassId} : or_ok PRD kA GG o_jMath_min1_v215_0 := by
  refine or_mk fun A ta ws vs hD hth hl => ?_
  intro t0 k0 t1 k1 d0 f0
  replace f0 := shm_21 f0
  have nf0 : fc_1 PRD (23, [0, 1], [0, -1, 1]) ws (vs) := by
    refine ⟨nf_in hl rfl, sgq_22 ?_⟩
    · show (-1) * v_iv (n_v vs 0) + (1 * v_iv (n_v vs 1) + 0) ≤ 0
      omega
  have nf1 : fc_1 PRD (23, [1, 1], [0, -1, 1]) ws (vs) := by
    refine ⟨nf_in hl rfl, sgq_23 ?_⟩
    · show (-1) * v_iv (n_v vs 1) + (1 * v_iv (n_v vs 1) + 0) ≤ 0
      omega
  refine ⟨(fun _ h => (by cases h)), [], trivial, ?_, (fun _ h => (by cases h))⟩
  rw [List.append_nil]
  exact List.forall_mem_cons.mpr ⟨⟨show (23 : Nat) < 100 from by decide, nf0⟩, List.forall_mem_cons.mpr ⟨⟨show (23 : Nat) < 100 from by decide, nf1⟩, (fun _ h => (by cases h))⟩⟩
def o_jMath_min1_v215_1 : or_T := (10, 2, [(0, (0, -63, 63, [])), (1, (0, 0, 63, []))], [(7, [0, 1], [5])], [], [], [(23, [0, 0], [0, -1, 1]), (23, [1, 0], [0, -1, 1])], [], [(0, 1, -4294967296, 0)])
theorem oo_jMath_min1_v215_1 {kA : Nat → ClassId} : or_ok PRD kA GG o_jMath_min1_v215_1 := by
  refine or_mk fun A ta ws vs hD hth hl => ?_
  intro t0 k0 t1 k1 d0 f0
  replace f0 := shm_24 f0
  have nf0 : fc_1 PRD (23, [0, 0], [0, -1, 1]) ws (vs) := by
    refine ⟨nf_in hl rfl, sgq_23 ?_⟩
    · show (-1) * v_iv (n_v vs 0) + (1 * v_iv (n_v vs 0) + 0) ≤ 0
      omega
  have nf1 : fc_1 PRD (23, [1, 0], [0, -1, 1]) ws (vs) := by
    refine ⟨nf_in hl rfl, sgq_22 ?_⟩
    · show (-1) * v_iv (n_v vs 1) + (1 * v_iv (n_v vs 0) + 0) ≤ 0
      omega
  refine ⟨(fun _ h => (by cases h)), [], trivial, ?_, (fun _ h => (by cases h))⟩
  rw [List.append_nil]
  exact List.forall_mem_cons.mpr ⟨⟨show (23 : Nat) < 100 from by decide, nf0⟩, List.forall_mem_cons.mpr ⟨⟨show (23 : Nat) < 100 from by decide, nf1⟩, (fun _ h => (by cases h))⟩⟩
def n_jMath_min1_v215_an : List an_T := []
def t_jMath_min1_v215_ct : ct_L := []
set_option maxRecDepth 100000 in
theorem c_jMath_min1_v215 {l : Launch} {D : va_G} {kA : Nat → ClassId} : ct_ok PRD l D kA GG y_jMath_min1 z_jMath_min1 e_jMath_min1_v215 := chk_all_ok (FT := []) (PT := []) (CT := t_jMath_min1_v215_ct) (KT := []) (NT := []) (AN := n_jMath_min1_v215_an) (OT := [o_jMath_min1_v215_0, o_jMath_min1_v215_1]) 0 200 (List.forall_mem_cons.mpr ⟨oo_jMath_min1_v215_0, List.forall_mem_cons.mpr ⟨oo_jMath_min1_v215_1, List.forall_mem_nil _⟩⟩) (pl_Math rfl (by decide)) ⟨List.forall_mem_nil _, List.forall_mem_nil _, List.forall_mem_nil _, List.forall_mem_nil _, List.forall_mem_nil _, GG_pl⟩ (by decide +kernel)
def e_jMath_min1_v216 : en_T := ([(0, -63, 63, []), (0, -224, 252, [])], some (0, -224, 63, []), true, 1, 0, 0, [], [], (0, [], [], [(23, [0, 2], [0, -1, 1]), (23, [1, 2], [0, -1, 1])], []))
def o_jMath_min1_v216_0 : or_T := (10, 2, [(0, (0, -63, 63, [])), (1, (0, -224, 62, []))], [(7, [0, 1], [4])], [], [], [(23, [0, 1], [0, -1, 1]), (23, [1, 1], [0, -1, 1])], [], [(0, 1, 1, 4294967296)])
theorem oo_jMath_min1_v216_0 {kA : Nat → ClassId} : or_ok PRD kA GG o_jMath_min1_v216_0 := by
  refine or_mk fun A ta ws vs hD hth hl => ?_
  intro t0 k0 t1 k1 d0 f0
  replace f0 := shm_21 f0
  have nf0 : fc_1 PRD (23, [0, 1], [0, -1, 1]) ws (vs) := by
    refine ⟨nf_in hl rfl, sgq_22 ?_⟩
    · show (-1) * v_iv (n_v vs 0) + (1 * v_iv (n_v vs 1) + 0) ≤ 0
      omega
  have nf1 : fc_1 PRD (23, [1, 1], [0, -1, 1]) ws (vs) := by
    refine ⟨nf_in hl rfl, sgq_23 ?_⟩
    · show (-1) * v_iv (n_v vs 1) + (1 * v_iv (n_v vs 1) + 0) ≤ 0
      omega
  refine ⟨(fun _ h => (by cases h)), [], trivial, ?_, (fun _ h => (by cases h))⟩
  rw [List.append_nil]
  exact List.forall_mem_cons.mpr ⟨⟨show (23 : Nat) < 100 from by decide, nf0⟩, List.forall_mem_cons.mpr ⟨⟨show (23 : Nat) < 100 from by decide, nf1⟩, (fun _ h => (by cases h))⟩⟩
def o_jMath_min1_v216_1 : or_T := (10, 2, [(0, (0, -63, 63, [])), (1, (0, -63, 252, []))], [(7, [0, 1], [5])], [], [], [(23, [0, 0], [0, -1, 1]), (23, [1, 0], [0, -1, 1])], [], [(0, 1, -4294967296, 0)])
theorem oo_jMath_min1_v216_1 {kA : Nat → ClassId} : or_ok PRD kA GG o_jMath_min1_v216_1 := by
  refine or_mk fun A ta ws vs hD hth hl => ?_
  intro t0 k0 t1 k1 d0 f0
  replace f0 := shm_24 f0
  have nf0 : fc_1 PRD (23, [0, 0], [0, -1, 1]) ws (vs) := by
    refine ⟨nf_in hl rfl, sgq_23 ?_⟩
    · show (-1) * v_iv (n_v vs 0) + (1 * v_iv (n_v vs 0) + 0) ≤ 0
      omega
  have nf1 : fc_1 PRD (23, [1, 0], [0, -1, 1]) ws (vs) := by
    refine ⟨nf_in hl rfl, sgq_22 ?_⟩
    · show (-1) * v_iv (n_v vs 1) + (1 * v_iv (n_v vs 0) + 0) ≤ 0
      omega
  refine ⟨(fun _ h => (by cases h)), [], trivial, ?_, (fun _ h => (by cases h))⟩
  rw [List.append_nil]
  exact List.forall_mem_cons.mpr ⟨⟨show (23 : Nat) < 100 from by decide, nf0⟩, List.forall_mem_cons.mpr ⟨⟨show (23 : Nat) < 100 from by decide, nf1⟩, (fun _ h => (by cases h))⟩⟩
def n_jMath_min1_v216_an : List an_T := []
def t_jMath_min1_v216_ct : ct_L := []
set_option maxRecDepth 100000 in
theorem c_jMath_min1_v216 {l : Launch} {D : va_G} {kA : Nat → ClassId} : ct_ok PRD l D kA GG y_jMath_min1 z_jMath_min1 e_jMath_min1_v216 := chk_all_ok (FT := []) (PT := []) (CT := t_jMath_min1_v216_ct) (KT := []) (NT := []) (AN := n_jMath_min1_v216_an) (OT := [o_jMath_min1_v216_0, o_jMath_min1_v216_1]) 0 200 (List.forall_mem_cons.mpr ⟨oo_jMath_min1_v216_0, List.forall_mem_cons.mpr ⟨oo_jMath_min1_v216_1, List.forall_mem_nil _⟩⟩) (pl_Math rfl (by decide)) ⟨List.forall_mem_nil _, List.forall_mem_nil _, List.forall_mem_nil _, List.forall_mem_nil _, List.forall_mem_nil _, GG_pl⟩ (by decide +kernel)
def e_jMath_min1_v217 : en_T := ([(0, 0, 256, []), (0, 0, 64, [])], some (0, 0, 64, []), true, 1, 0, 0, [], [], (0, [], [], [(23, [0, 2], [0, -1, 1]), (23, [1, 2], [0, -1, 1])], []))
def o_jMath_min1_v217_0 : or_T := (10, 2, [(0, (0, 1, 256, [])), (1, (0, 0, 64, []))], [(7, [0, 1], [4])], [], [], [(23, [0, 1], [0, -1, 1]), (23, [1, 1], [0, -1, 1])], [], [(0, 1, 1, 4294967296)])
theorem oo_jMath_min1_v217_0 {kA : Nat → ClassId} : or_ok PRD kA GG o_jMath_min1_v217_0 := by
  refine or_mk fun A ta ws vs hD hth hl => ?_
  intro t0 k0 t1 k1 d0 f0
  replace f0 := shm_21 f0
  have nf0 : fc_1 PRD (23, [0, 1], [0, -1, 1]) ws (vs) := by
    refine ⟨nf_in hl rfl, sgq_22 ?_⟩
    · show (-1) * v_iv (n_v vs 0) + (1 * v_iv (n_v vs 1) + 0) ≤ 0
      omega
  have nf1 : fc_1 PRD (23, [1, 1], [0, -1, 1]) ws (vs) := by
    refine ⟨nf_in hl rfl, sgq_23 ?_⟩
    · show (-1) * v_iv (n_v vs 1) + (1 * v_iv (n_v vs 1) + 0) ≤ 0
      omega
  refine ⟨(fun _ h => (by cases h)), [], trivial, ?_, (fun _ h => (by cases h))⟩
  rw [List.append_nil]
  exact List.forall_mem_cons.mpr ⟨⟨show (23 : Nat) < 100 from by decide, nf0⟩, List.forall_mem_cons.mpr ⟨⟨show (23 : Nat) < 100 from by decide, nf1⟩, (fun _ h => (by cases h))⟩⟩
def o_jMath_min1_v217_1 : or_T := (10, 2, [(0, (0, 0, 64, [])), (1, (0, 0, 64, []))], [(7, [0, 1], [5])], [], [], [(23, [0, 0], [0, -1, 1]), (23, [1, 0], [0, -1, 1])], [], [(0, 1, -4294967296, 0)])
theorem oo_jMath_min1_v217_1 {kA : Nat → ClassId} : or_ok PRD kA GG o_jMath_min1_v217_1 := by
  refine or_mk fun A ta ws vs hD hth hl => ?_
  intro t0 k0 t1 k1 d0 f0
  replace f0 := shm_24 f0
  have nf0 : fc_1 PRD (23, [0, 0], [0, -1, 1]) ws (vs) := by
    refine ⟨nf_in hl rfl, sgq_23 ?_⟩
    · show (-1) * v_iv (n_v vs 0) + (1 * v_iv (n_v vs 0) + 0) ≤ 0
      omega
  have nf1 : fc_1 PRD (23, [1, 0], [0, -1, 1]) ws (vs) := by
    refine ⟨nf_in hl rfl, sgq_22 ?_⟩
    · show (-1) * v_iv (n_v vs 1) + (1 * v_iv (n_v vs 0) + 0) ≤ 0
      omega
  refine ⟨(fun _ h => (by cases h)), [], trivial, ?_, (fun _ h => (by cases h))⟩
  rw [List.append_nil]
  exact List.forall_mem_cons.mpr ⟨⟨show (23 : Nat) < 100 from by decide, nf0⟩, List.forall_mem_cons.mpr ⟨⟨show (23 : Nat) < 100 from by decide, nf1⟩, (fun _ h => (by cases h))⟩⟩
def n_jMath_min1_v217_an : List an_T := []
def t_jMath_min1_v217_ct : ct_L := []
set_option maxRecDepth 100000 in
theorem c_jMath_min1_v217 {l : Launch} {D : va_G} {kA : Nat → ClassId} : ct_ok PRD l D kA GG y_jMath_min1 z_jMath_min1 e_jMath_min1_v217 := chk_all_ok (FT := []) (PT := []) (CT := t_jMath_min1_v217_ct) (KT := []) (NT := []) (AN := n_jMath_min1_v217_an) (OT := [o_jMath_min1_v217_0, o_jMath_min1_v217_1]) 0 200 (List.forall_mem_cons.mpr ⟨oo_jMath_min1_v217_0, List.forall_mem_cons.mpr ⟨oo_jMath_min1_v217_1, List.forall_mem_nil _⟩⟩) (pl_Math rfl (by decide)) ⟨List.forall_mem_nil _, List.forall_mem_nil _, List.forall_mem_nil _, List.forall_mem_nil _, List.forall_mem_nil _, GG_pl⟩ (by decide +kernel)
def e_jMath_min1_v218 : en_T := ([(0, 0, 64, []), (0, -256, 192, [])], some (0, -256, 64, []), true, 1, 0, 0, [], [], (0, [], [], [(23, [0, 2], [0, -1, 1]), (23, [1, 2], [0, -1, 1])], []))
def o_jMath_min1_v218_0 : or_T := (10, 2, [(0, (0, 0, 64, [])), (1, (0, -256, 63, []))], [(7, [0, 1], [4])], [], [], [(23, [0, 1], [0, -1, 1]), (23, [1, 1], [0, -1, 1])], [], [(0, 1, 1, 4294967296)])
theorem oo_jMath_min1_v218_0 {kA : Nat → ClassId} : or_ok PRD kA GG o_jMath_min1_v218_0 := by
  refine or_mk fun A ta ws vs hD hth hl => ?_
  intro t0 k0 t1 k1 d0 f0
  replace f0 := shm_21 f0
  have nf0 : fc_1 PRD (23, [0, 1], [0, -1, 1]) ws (vs) := by
    refine ⟨nf_in hl rfl, sgq_22 ?_⟩
    · show (-1) * v_iv (n_v vs 0) + (1 * v_iv (n_v vs 1) + 0) ≤ 0
      omega
  have nf1 : fc_1 PRD (23, [1, 1], [0, -1, 1]) ws (vs) := by
    refine ⟨nf_in hl rfl, sgq_23 ?_⟩
    · show (-1) * v_iv (n_v vs 1) + (1 * v_iv (n_v vs 1) + 0) ≤ 0
      omega
  refine ⟨(fun _ h => (by cases h)), [], trivial, ?_, (fun _ h => (by cases h))⟩
  rw [List.append_nil]
  exact List.forall_mem_cons.mpr ⟨⟨show (23 : Nat) < 100 from by decide, nf0⟩, List.forall_mem_cons.mpr ⟨⟨show (23 : Nat) < 100 from by decide, nf1⟩, (fun _ h => (by cases h))⟩⟩
def o_jMath_min1_v218_1 : or_T := (10, 2, [(0, (0, 0, 64, [])), (1, (0, 0, 192, []))], [(7, [0, 1], [5])], [], [], [(23, [0, 0], [0, -1, 1]), (23, [1, 0], [0, -1, 1])], [], [(0, 1, -4294967296, 0)])
theorem oo_jMath_min1_v218_1 {kA : Nat → ClassId} : or_ok PRD kA GG o_jMath_min1_v218_1 := by
  refine or_mk fun A ta ws vs hD hth hl => ?_
  intro t0 k0 t1 k1 d0 f0
  replace f0 := shm_24 f0
  have nf0 : fc_1 PRD (23, [0, 0], [0, -1, 1]) ws (vs) := by
    refine ⟨nf_in hl rfl, sgq_23 ?_⟩
    · show (-1) * v_iv (n_v vs 0) + (1 * v_iv (n_v vs 0) + 0) ≤ 0
      omega
  have nf1 : fc_1 PRD (23, [1, 0], [0, -1, 1]) ws (vs) := by
    refine ⟨nf_in hl rfl, sgq_22 ?_⟩
    · show (-1) * v_iv (n_v vs 1) + (1 * v_iv (n_v vs 0) + 0) ≤ 0
      omega
  refine ⟨(fun _ h => (by cases h)), [], trivial, ?_, (fun _ h => (by cases h))⟩
  rw [List.append_nil]
  exact List.forall_mem_cons.mpr ⟨⟨show (23 : Nat) < 100 from by decide, nf0⟩, List.forall_mem_cons.mpr ⟨⟨show (23 : Nat) < 100 from by decide, nf1⟩, (fun _ h => (by cases h))⟩⟩
def n_jMath_min1_v218_an : List an_T := []
def t_jMath_min1_v218_ct : ct_L := []
set_option maxRecDepth 100000 in
theorem c_jMath_min1_v218 {l : Launch} {D : va_G} {kA : Nat → ClassId} : ct_ok PRD l D kA GG y_jMath_min1 z_jMath_min1 e_jMath_min1_v218 := chk_all_ok (FT := []) (PT := []) (CT := t_jMath_min1_v218_ct) (KT := []) (NT := []) (AN := n_jMath_min1_v218_an) (OT := [o_jMath_min1_v218_0, o_jMath_min1_v218_1]) 0 200 (List.forall_mem_cons.mpr ⟨oo_jMath_min1_v218_0, List.forall_mem_cons.mpr ⟨oo_jMath_min1_v218_1, List.forall_mem_nil _⟩⟩) (pl_Math rfl (by decide)) ⟨List.forall_mem_nil _, List.forall_mem_nil _, List.forall_mem_nil _, List.forall_mem_nil _, List.forall_mem_nil _, GG_pl⟩ (by decide +kernel)
def e_jMath_max1_v219 : en_T := ([(0, 0, 0, []), (0, -256, 64, [])], some (0, 0, 64, []), true, 1, 0, 0, [], [], (0, [], [], [(23, [0, 2], [0, 1, -1]), (23, [1, 2], [0, 1, -1])], []))
def o_jMath_max1_v219_0 : or_T := (10, 2, [(0, (0, 0, 0, [])), (1, (0, 1, 64, []))], [(7, [0, 1], [2])], [], [], [(23, [0, 1], [0, 1, -1]), (23, [1, 1], [0, 1, -1])], [], [])
theorem oo_jMath_max1_v219_0 {kA : Nat → ClassId} : or_ok PRD kA GG o_jMath_max1_v219_0 := by
  refine or_mk fun A ta ws vs hD hth hl => ?_
  intro t0 k0 t1 k1 f0
  replace f0 := shm_6 f0
  have nf0 : fc_1 PRD (23, [0, 1], [0, 1, -1]) ws (vs) := by
    refine ⟨nf_in hl rfl, sgq_7 ?_⟩
    · show 1 * v_iv (n_v vs 0) + ((-1) * v_iv (n_v vs 1) + 0) ≤ 0
      omega
  have nf1 : fc_1 PRD (23, [1, 1], [0, 1, -1]) ws (vs) := by
    refine ⟨nf_in hl rfl, sgq_8 ?_⟩
    · show 1 * v_iv (n_v vs 1) + ((-1) * v_iv (n_v vs 1) + 0) ≤ 0
      omega
  refine ⟨(fun _ h => (by cases h)), [], trivial, ?_, (fun _ h => (by cases h))⟩
  rw [List.append_nil]
  exact List.forall_mem_cons.mpr ⟨⟨show (23 : Nat) < 100 from by decide, nf0⟩, List.forall_mem_cons.mpr ⟨⟨show (23 : Nat) < 100 from by decide, nf1⟩, (fun _ h => (by cases h))⟩⟩
def o_jMath_max1_v219_1 : or_T := (10, 2, [(0, (0, 0, 0, [])), (1, (0, -256, 0, []))], [(7, [0, 1], [3])], [], [], [(23, [0, 0], [0, 1, -1]), (23, [1, 0], [0, 1, -1])], [], [])
theorem oo_jMath_max1_v219_1 {kA : Nat → ClassId} : or_ok PRD kA GG o_jMath_max1_v219_1 := by
  refine or_mk fun A ta ws vs hD hth hl => ?_
  intro t0 k0 t1 k1 f0
  replace f0 := shm_2 f0
  have nf0 : fc_1 PRD (23, [0, 0], [0, 1, -1]) ws (vs) := by
    refine ⟨nf_in hl rfl, sgq_8 ?_⟩
    · show 1 * v_iv (n_v vs 0) + ((-1) * v_iv (n_v vs 0) + 0) ≤ 0
      omega
  have nf1 : fc_1 PRD (23, [1, 0], [0, 1, -1]) ws (vs) := by
    refine ⟨nf_in hl rfl, sgq_7 ?_⟩
    · show 1 * v_iv (n_v vs 1) + ((-1) * v_iv (n_v vs 0) + 0) ≤ 0
      omega
  refine ⟨(fun _ h => (by cases h)), [], trivial, ?_, (fun _ h => (by cases h))⟩
  rw [List.append_nil]
  exact List.forall_mem_cons.mpr ⟨⟨show (23 : Nat) < 100 from by decide, nf0⟩, List.forall_mem_cons.mpr ⟨⟨show (23 : Nat) < 100 from by decide, nf1⟩, (fun _ h => (by cases h))⟩⟩
def n_jMath_max1_v219_an : List an_T := []
def t_jMath_max1_v219_ct : ct_L := []
set_option maxRecDepth 100000 in
theorem c_jMath_max1_v219 {l : Launch} {D : va_G} {kA : Nat → ClassId} : ct_ok PRD l D kA GG y_jMath_max1 z_jMath_max1 e_jMath_max1_v219 := chk_all_ok (FT := []) (PT := []) (CT := t_jMath_max1_v219_ct) (KT := []) (NT := []) (AN := n_jMath_max1_v219_an) (OT := [o_jMath_max1_v219_0, o_jMath_max1_v219_1]) 0 200 (List.forall_mem_cons.mpr ⟨oo_jMath_max1_v219_0, List.forall_mem_cons.mpr ⟨oo_jMath_max1_v219_1, List.forall_mem_nil _⟩⟩) (pl_Math rfl (by decide)) ⟨List.forall_mem_nil _, List.forall_mem_nil _, List.forall_mem_nil _, List.forall_mem_nil _, List.forall_mem_nil _, GG_pl⟩ (by decide +kernel)
def e_jMath_min1_v220 : en_T := ([(0, -64, 256, []), (0, 0, 64, [])], some (0, -64, 64, []), true, 1, 0, 0, [], [], (0, [], [], [(23, [0, 2], [0, -1, 1]), (23, [1, 2], [0, -1, 1])], []))
def o_jMath_min1_v220_0 : or_T := (10, 2, [(0, (0, 1, 256, [])), (1, (0, 0, 64, []))], [(7, [0, 1], [4])], [], [], [(23, [0, 1], [0, -1, 1]), (23, [1, 1], [0, -1, 1])], [], [(0, 1, 1, 4294967296)])
theorem oo_jMath_min1_v220_0 {kA : Nat → ClassId} : or_ok PRD kA GG o_jMath_min1_v220_0 := by
  refine or_mk fun A ta ws vs hD hth hl => ?_
  intro t0 k0 t1 k1 d0 f0
  replace f0 := shm_21 f0
  have nf0 : fc_1 PRD (23, [0, 1], [0, -1, 1]) ws (vs) := by
    refine ⟨nf_in hl rfl, sgq_22 ?_⟩
    · show (-1) * v_iv (n_v vs 0) + (1 * v_iv (n_v vs 1) + 0) ≤ 0
      omega
  have nf1 : fc_1 PRD (23, [1, 1], [0, -1, 1]) ws (vs) := by
    refine ⟨nf_in hl rfl, sgq_23 ?_⟩
    · show (-1) * v_iv (n_v vs 1) + (1 * v_iv (n_v vs 1) + 0) ≤ 0
      omega
  refine ⟨(fun _ h => (by cases h)), [], trivial, ?_, (fun _ h => (by cases h))⟩
  rw [List.append_nil]
  exact List.forall_mem_cons.mpr ⟨⟨show (23 : Nat) < 100 from by decide, nf0⟩, List.forall_mem_cons.mpr ⟨⟨show (23 : Nat) < 100 from by decide, nf1⟩, (fun _ h => (by cases h))⟩⟩
def o_jMath_min1_v220_1 : or_T := (10, 2, [(0, (0, -64, 64, [])), (1, (0, 0, 64, []))], [(7, [0, 1], [5])], [], [], [(23, [0, 0], [0, -1, 1]), (23, [1, 0], [0, -1, 1])], [], [(0, 1, -4294967296, 0)])
theorem oo_jMath_min1_v220_1 {kA : Nat → ClassId} : or_ok PRD kA GG o_jMath_min1_v220_1 := by
  refine or_mk fun A ta ws vs hD hth hl => ?_
  intro t0 k0 t1 k1 d0 f0
  replace f0 := shm_24 f0
  have nf0 : fc_1 PRD (23, [0, 0], [0, -1, 1]) ws (vs) := by
    refine ⟨nf_in hl rfl, sgq_23 ?_⟩
    · show (-1) * v_iv (n_v vs 0) + (1 * v_iv (n_v vs 0) + 0) ≤ 0
      omega
  have nf1 : fc_1 PRD (23, [1, 0], [0, -1, 1]) ws (vs) := by
    refine ⟨nf_in hl rfl, sgq_22 ?_⟩
    · show (-1) * v_iv (n_v vs 1) + (1 * v_iv (n_v vs 0) + 0) ≤ 0
      omega
  refine ⟨(fun _ h => (by cases h)), [], trivial, ?_, (fun _ h => (by cases h))⟩
  rw [List.append_nil]
  exact List.forall_mem_cons.mpr ⟨⟨show (23 : Nat) < 100 from by decide, nf0⟩, List.forall_mem_cons.mpr ⟨⟨show (23 : Nat) < 100 from by decide, nf1⟩, (fun _ h => (by cases h))⟩⟩
def n_jMath_min1_v220_an : List an_T := []
def t_jMath_min1_v220_ct : ct_L := []
set_option maxRecDepth 100000 in
theorem c_jMath_min1_v220 {l : Launch} {D : va_G} {kA : Nat → ClassId} : ct_ok PRD l D kA GG y_jMath_min1 z_jMath_min1 e_jMath_min1_v220 := chk_all_ok (FT := []) (PT := []) (CT := t_jMath_min1_v220_ct) (KT := []) (NT := []) (AN := n_jMath_min1_v220_an) (OT := [o_jMath_min1_v220_0, o_jMath_min1_v220_1]) 0 200 (List.forall_mem_cons.mpr ⟨oo_jMath_min1_v220_0, List.forall_mem_cons.mpr ⟨oo_jMath_min1_v220_1, List.forall_mem_nil _⟩⟩) (pl_Math rfl (by decide)) ⟨List.forall_mem_nil _, List.forall_mem_nil _, List.forall_mem_nil _, List.forall_mem_nil _, List.forall_mem_nil _, GG_pl⟩ (by decide +kernel)
def e_jMath_min1_v221 : en_T := ([(0, -64, 64, []), (0, -256, 256, [])], some (0, -256, 64, []), true, 1, 0, 0, [], [], (0, [], [], [(23, [0, 2], [0, -1, 1]), (23, [1, 2], [0, -1, 1])], []))
def o_jMath_min1_v221_0 : or_T := (10, 2, [(0, (0, -64, 64, [])), (1, (0, -256, 63, []))], [(7, [0, 1], [4])], [], [], [(23, [0, 1], [0, -1, 1]), (23, [1, 1], [0, -1, 1])], [], [(0, 1, 1, 4294967296)])
theorem oo_jMath_min1_v221_0 {kA : Nat → ClassId} : or_ok PRD kA GG o_jMath_min1_v221_0 := by
  refine or_mk fun A ta ws vs hD hth hl => ?_
  intro t0 k0 t1 k1 d0 f0
  replace f0 := shm_21 f0
  have nf0 : fc_1 PRD (23, [0, 1], [0, -1, 1]) ws (vs) := by
    refine ⟨nf_in hl rfl, sgq_22 ?_⟩
    · show (-1) * v_iv (n_v vs 0) + (1 * v_iv (n_v vs 1) + 0) ≤ 0
      omega
  have nf1 : fc_1 PRD (23, [1, 1], [0, -1, 1]) ws (vs) := by
    refine ⟨nf_in hl rfl, sgq_23 ?_⟩
    · show (-1) * v_iv (n_v vs 1) + (1 * v_iv (n_v vs 1) + 0) ≤ 0
      omega
  refine ⟨(fun _ h => (by cases h)), [], trivial, ?_, (fun _ h => (by cases h))⟩
  rw [List.append_nil]
  exact List.forall_mem_cons.mpr ⟨⟨show (23 : Nat) < 100 from by decide, nf0⟩, List.forall_mem_cons.mpr ⟨⟨show (23 : Nat) < 100 from by decide, nf1⟩, (fun _ h => (by cases h))⟩⟩
def o_jMath_min1_v221_1 : or_T := (10, 2, [(0, (0, -64, 64, [])), (1, (0, -64, 256, []))], [(7, [0, 1], [5])], [], [], [(23, [0, 0], [0, -1, 1]), (23, [1, 0], [0, -1, 1])], [], [(0, 1, -4294967296, 0)])
theorem oo_jMath_min1_v221_1 {kA : Nat → ClassId} : or_ok PRD kA GG o_jMath_min1_v221_1 := by
  refine or_mk fun A ta ws vs hD hth hl => ?_
  intro t0 k0 t1 k1 d0 f0
  replace f0 := shm_24 f0
  have nf0 : fc_1 PRD (23, [0, 0], [0, -1, 1]) ws (vs) := by
    refine ⟨nf_in hl rfl, sgq_23 ?_⟩
    · show (-1) * v_iv (n_v vs 0) + (1 * v_iv (n_v vs 0) + 0) ≤ 0
      omega
  have nf1 : fc_1 PRD (23, [1, 0], [0, -1, 1]) ws (vs) := by
    refine ⟨nf_in hl rfl, sgq_22 ?_⟩
    · show (-1) * v_iv (n_v vs 1) + (1 * v_iv (n_v vs 0) + 0) ≤ 0
      omega
  refine ⟨(fun _ h => (by cases h)), [], trivial, ?_, (fun _ h => (by cases h))⟩
  rw [List.append_nil]
  exact List.forall_mem_cons.mpr ⟨⟨show (23 : Nat) < 100 from by decide, nf0⟩, List.forall_mem_cons.mpr ⟨⟨show (23 : Nat) < 100 from by decide, nf1⟩, (fun _ h => (by cases h))⟩⟩
def n_jMath_min1_v221_an : List an_T := []
def t_jMath_min1_v221_ct : ct_L := []
set_option maxRecDepth 100000 in
theorem c_jMath_min1_v221 {l : Launch} {D : va_G} {kA : Nat → ClassId} : ct_ok PRD l D kA GG y_jMath_min1 z_jMath_min1 e_jMath_min1_v221 := chk_all_ok (FT := []) (PT := []) (CT := t_jMath_min1_v221_ct) (KT := []) (NT := []) (AN := n_jMath_min1_v221_an) (OT := [o_jMath_min1_v221_0, o_jMath_min1_v221_1]) 0 200 (List.forall_mem_cons.mpr ⟨oo_jMath_min1_v221_0, List.forall_mem_cons.mpr ⟨oo_jMath_min1_v221_1, List.forall_mem_nil _⟩⟩) (pl_Math rfl (by decide)) ⟨List.forall_mem_nil _, List.forall_mem_nil _, List.forall_mem_nil _, List.forall_mem_nil _, List.forall_mem_nil _, GG_pl⟩ (by decide +kernel)
def e_jMath_min1_v222 : en_T := ([(0, 0, 480, []), (0, 0, 64, [])], some (0, 0, 64, []), true, 1, 0, 0, [], [], (0, [], [], [(23, [0, 2], [0, -1, 1]), (23, [1, 2], [0, -1, 1])], []))
def o_jMath_min1_v222_0 : or_T := (10, 2, [(0, (0, 1, 480, [])), (1, (0, 0, 64, []))], [(7, [0, 1], [4])], [], [], [(23, [0, 1], [0, -1, 1]), (23, [1, 1], [0, -1, 1])], [], [(0, 1, 1, 4294967296)])
theorem oo_jMath_min1_v222_0 {kA : Nat → ClassId} : or_ok PRD kA GG o_jMath_min1_v222_0 := by
  refine or_mk fun A ta ws vs hD hth hl => ?_
  intro t0 k0 t1 k1 d0 f0
  replace f0 := shm_21 f0
  have nf0 : fc_1 PRD (23, [0, 1], [0, -1, 1]) ws (vs) := by
    refine ⟨nf_in hl rfl, sgq_22 ?_⟩
    · show (-1) * v_iv (n_v vs 0) + (1 * v_iv (n_v vs 1) + 0) ≤ 0
      omega
  have nf1 : fc_1 PRD (23, [1, 1], [0, -1, 1]) ws (vs) := by
    refine ⟨nf_in hl rfl, sgq_23 ?_⟩
    · show (-1) * v_iv (n_v vs 1) + (1 * v_iv (n_v vs 1) + 0) ≤ 0
      omega
  refine ⟨(fun _ h => (by cases h)), [], trivial, ?_, (fun _ h => (by cases h))⟩
  rw [List.append_nil]
  exact List.forall_mem_cons.mpr ⟨⟨show (23 : Nat) < 100 from by decide, nf0⟩, List.forall_mem_cons.mpr ⟨⟨show (23 : Nat) < 100 from by decide, nf1⟩, (fun _ h => (by cases h))⟩⟩
def o_jMath_min1_v222_1 : or_T := (10, 2, [(0, (0, 0, 64, [])), (1, (0, 0, 64, []))], [(7, [0, 1], [5])], [], [], [(23, [0, 0], [0, -1, 1]), (23, [1, 0], [0, -1, 1])], [], [(0, 1, -4294967296, 0)])
theorem oo_jMath_min1_v222_1 {kA : Nat → ClassId} : or_ok PRD kA GG o_jMath_min1_v222_1 := by
  refine or_mk fun A ta ws vs hD hth hl => ?_
  intro t0 k0 t1 k1 d0 f0
  replace f0 := shm_24 f0
  have nf0 : fc_1 PRD (23, [0, 0], [0, -1, 1]) ws (vs) := by
    refine ⟨nf_in hl rfl, sgq_23 ?_⟩
    · show (-1) * v_iv (n_v vs 0) + (1 * v_iv (n_v vs 0) + 0) ≤ 0
      omega
  have nf1 : fc_1 PRD (23, [1, 0], [0, -1, 1]) ws (vs) := by
    refine ⟨nf_in hl rfl, sgq_22 ?_⟩
    · show (-1) * v_iv (n_v vs 1) + (1 * v_iv (n_v vs 0) + 0) ≤ 0
      omega
  refine ⟨(fun _ h => (by cases h)), [], trivial, ?_, (fun _ h => (by cases h))⟩
  rw [List.append_nil]
  exact List.forall_mem_cons.mpr ⟨⟨show (23 : Nat) < 100 from by decide, nf0⟩, List.forall_mem_cons.mpr ⟨⟨show (23 : Nat) < 100 from by decide, nf1⟩, (fun _ h => (by cases h))⟩⟩
def n_jMath_min1_v222_an : List an_T := []
def t_jMath_min1_v222_ct : ct_L := []
set_option maxRecDepth 100000 in
theorem c_jMath_min1_v222 {l : Launch} {D : va_G} {kA : Nat → ClassId} : ct_ok PRD l D kA GG y_jMath_min1 z_jMath_min1 e_jMath_min1_v222 := chk_all_ok (FT := []) (PT := []) (CT := t_jMath_min1_v222_ct) (KT := []) (NT := []) (AN := n_jMath_min1_v222_an) (OT := [o_jMath_min1_v222_0, o_jMath_min1_v222_1]) 0 200 (List.forall_mem_cons.mpr ⟨oo_jMath_min1_v222_0, List.forall_mem_cons.mpr ⟨oo_jMath_min1_v222_1, List.forall_mem_nil _⟩⟩) (pl_Math rfl (by decide)) ⟨List.forall_mem_nil _, List.forall_mem_nil _, List.forall_mem_nil _, List.forall_mem_nil _, List.forall_mem_nil _, GG_pl⟩ (by decide +kernel)
def e_jMath_min1_v223 : en_T := ([(0, 0, 64, []), (0, -480, 192, [])], some (0, -480, 64, []), true, 1, 0, 0, [], [], (0, [], [], [(23, [0, 2], [0, -1, 1]), (23, [1, 2], [0, -1, 1])], []))
def o_jMath_min1_v223_0 : or_T := (10, 2, [(0, (0, 0, 64, [])), (1, (0, -480, 63, []))], [(7, [0, 1], [4])], [], [], [(23, [0, 1], [0, -1, 1]), (23, [1, 1], [0, -1, 1])], [], [(0, 1, 1, 4294967296)])
theorem oo_jMath_min1_v223_0 {kA : Nat → ClassId} : or_ok PRD kA GG o_jMath_min1_v223_0 := by
  refine or_mk fun A ta ws vs hD hth hl => ?_
  intro t0 k0 t1 k1 d0 f0
  replace f0 := shm_21 f0
  have nf0 : fc_1 PRD (23, [0, 1], [0, -1, 1]) ws (vs) := by
    refine ⟨nf_in hl rfl, sgq_22 ?_⟩
    · show (-1) * v_iv (n_v vs 0) + (1 * v_iv (n_v vs 1) + 0) ≤ 0
      omega
  have nf1 : fc_1 PRD (23, [1, 1], [0, -1, 1]) ws (vs) := by
    refine ⟨nf_in hl rfl, sgq_23 ?_⟩
    · show (-1) * v_iv (n_v vs 1) + (1 * v_iv (n_v vs 1) + 0) ≤ 0
      omega
  refine ⟨(fun _ h => (by cases h)), [], trivial, ?_, (fun _ h => (by cases h))⟩
  rw [List.append_nil]
  exact List.forall_mem_cons.mpr ⟨⟨show (23 : Nat) < 100 from by decide, nf0⟩, List.forall_mem_cons.mpr ⟨⟨show (23 : Nat) < 100 from by decide, nf1⟩, (fun _ h => (by cases h))⟩⟩
def o_jMath_min1_v223_1 : or_T := (10, 2, [(0, (0, 0, 64, [])), (1, (0, 0, 192, []))], [(7, [0, 1], [5])], [], [], [(23, [0, 0], [0, -1, 1]), (23, [1, 0], [0, -1, 1])], [], [(0, 1, -4294967296, 0)])
theorem oo_jMath_min1_v223_1 {kA : Nat → ClassId} : or_ok PRD kA GG o_jMath_min1_v223_1 := by
  refine or_mk fun A ta ws vs hD hth hl => ?_
  intro t0 k0 t1 k1 d0 f0
  replace f0 := shm_24 f0
  have nf0 : fc_1 PRD (23, [0, 0], [0, -1, 1]) ws (vs) := by
    refine ⟨nf_in hl rfl, sgq_23 ?_⟩
    · show (-1) * v_iv (n_v vs 0) + (1 * v_iv (n_v vs 0) + 0) ≤ 0
      omega
  have nf1 : fc_1 PRD (23, [1, 0], [0, -1, 1]) ws (vs) := by
    refine ⟨nf_in hl rfl, sgq_22 ?_⟩
    · show (-1) * v_iv (n_v vs 1) + (1 * v_iv (n_v vs 0) + 0) ≤ 0
      omega
  refine ⟨(fun _ h => (by cases h)), [], trivial, ?_, (fun _ h => (by cases h))⟩
  rw [List.append_nil]
  exact List.forall_mem_cons.mpr ⟨⟨show (23 : Nat) < 100 from by decide, nf0⟩, List.forall_mem_cons.mpr ⟨⟨show (23 : Nat) < 100 from by decide, nf1⟩, (fun _ h => (by cases h))⟩⟩
def n_jMath_min1_v223_an : List an_T := []
def t_jMath_min1_v223_ct : ct_L := []
set_option maxRecDepth 100000 in
theorem c_jMath_min1_v223 {l : Launch} {D : va_G} {kA : Nat → ClassId} : ct_ok PRD l D kA GG y_jMath_min1 z_jMath_min1 e_jMath_min1_v223 := chk_all_ok (FT := []) (PT := []) (CT := t_jMath_min1_v223_ct) (KT := []) (NT := []) (AN := n_jMath_min1_v223_an) (OT := [o_jMath_min1_v223_0, o_jMath_min1_v223_1]) 0 200 (List.forall_mem_cons.mpr ⟨oo_jMath_min1_v223_0, List.forall_mem_cons.mpr ⟨oo_jMath_min1_v223_1, List.forall_mem_nil _⟩⟩) (pl_Math rfl (by decide)) ⟨List.forall_mem_nil _, List.forall_mem_nil _, List.forall_mem_nil _, List.forall_mem_nil _, List.forall_mem_nil _, GG_pl⟩ (by decide +kernel)
def e_jMath_max1_v224 : en_T := ([(0, 0, 0, []), (0, -480, 64, [])], some (0, 0, 64, []), true, 1, 0, 0, [], [], (0, [], [], [(23, [0, 2], [0, 1, -1]), (23, [1, 2], [0, 1, -1])], []))
def o_jMath_max1_v224_0 : or_T := (10, 2, [(0, (0, 0, 0, [])), (1, (0, 1, 64, []))], [(7, [0, 1], [2])], [], [], [(23, [0, 1], [0, 1, -1]), (23, [1, 1], [0, 1, -1])], [], [])
theorem oo_jMath_max1_v224_0 {kA : Nat → ClassId} : or_ok PRD kA GG o_jMath_max1_v224_0 := by
  refine or_mk fun A ta ws vs hD hth hl => ?_
  intro t0 k0 t1 k1 f0
  replace f0 := shm_6 f0
  have nf0 : fc_1 PRD (23, [0, 1], [0, 1, -1]) ws (vs) := by
    refine ⟨nf_in hl rfl, sgq_7 ?_⟩
    · show 1 * v_iv (n_v vs 0) + ((-1) * v_iv (n_v vs 1) + 0) ≤ 0
      omega
  have nf1 : fc_1 PRD (23, [1, 1], [0, 1, -1]) ws (vs) := by
    refine ⟨nf_in hl rfl, sgq_8 ?_⟩
    · show 1 * v_iv (n_v vs 1) + ((-1) * v_iv (n_v vs 1) + 0) ≤ 0
      omega
  refine ⟨(fun _ h => (by cases h)), [], trivial, ?_, (fun _ h => (by cases h))⟩
  rw [List.append_nil]
  exact List.forall_mem_cons.mpr ⟨⟨show (23 : Nat) < 100 from by decide, nf0⟩, List.forall_mem_cons.mpr ⟨⟨show (23 : Nat) < 100 from by decide, nf1⟩, (fun _ h => (by cases h))⟩⟩
def o_jMath_max1_v224_1 : or_T := (10, 2, [(0, (0, 0, 0, [])), (1, (0, -480, 0, []))], [(7, [0, 1], [3])], [], [], [(23, [0, 0], [0, 1, -1]), (23, [1, 0], [0, 1, -1])], [], [])
theorem oo_jMath_max1_v224_1 {kA : Nat → ClassId} : or_ok PRD kA GG o_jMath_max1_v224_1 := by
  refine or_mk fun A ta ws vs hD hth hl => ?_
  intro t0 k0 t1 k1 f0
  replace f0 := shm_2 f0
  have nf0 : fc_1 PRD (23, [0, 0], [0, 1, -1]) ws (vs) := by
    refine ⟨nf_in hl rfl, sgq_8 ?_⟩
    · show 1 * v_iv (n_v vs 0) + ((-1) * v_iv (n_v vs 0) + 0) ≤ 0
      omega
  have nf1 : fc_1 PRD (23, [1, 0], [0, 1, -1]) ws (vs) := by
    refine ⟨nf_in hl rfl, sgq_7 ?_⟩
    · show 1 * v_iv (n_v vs 1) + ((-1) * v_iv (n_v vs 0) + 0) ≤ 0
      omega
  refine ⟨(fun _ h => (by cases h)), [], trivial, ?_, (fun _ h => (by cases h))⟩
  rw [List.append_nil]
  exact List.forall_mem_cons.mpr ⟨⟨show (23 : Nat) < 100 from by decide, nf0⟩, List.forall_mem_cons.mpr ⟨⟨show (23 : Nat) < 100 from by decide, nf1⟩, (fun _ h => (by cases h))⟩⟩
def n_jMath_max1_v224_an : List an_T := []
def t_jMath_max1_v224_ct : ct_L := []
set_option maxRecDepth 100000 in
theorem c_jMath_max1_v224 {l : Launch} {D : va_G} {kA : Nat → ClassId} : ct_ok PRD l D kA GG y_jMath_max1 z_jMath_max1 e_jMath_max1_v224 := chk_all_ok (FT := []) (PT := []) (CT := t_jMath_max1_v224_ct) (KT := []) (NT := []) (AN := n_jMath_max1_v224_an) (OT := [o_jMath_max1_v224_0, o_jMath_max1_v224_1]) 0 200 (List.forall_mem_cons.mpr ⟨oo_jMath_max1_v224_0, List.forall_mem_cons.mpr ⟨oo_jMath_max1_v224_1, List.forall_mem_nil _⟩⟩) (pl_Math rfl (by decide)) ⟨List.forall_mem_nil _, List.forall_mem_nil _, List.forall_mem_nil _, List.forall_mem_nil _, List.forall_mem_nil _, GG_pl⟩ (by decide +kernel)
def e_jMath_min1_v225 : en_T := ([(0, -64, 480, []), (0, 0, 64, [])], some (0, -64, 64, []), true, 1, 0, 0, [], [], (0, [], [], [(23, [0, 2], [0, -1, 1]), (23, [1, 2], [0, -1, 1])], []))
def o_jMath_min1_v225_0 : or_T := (10, 2, [(0, (0, 1, 480, [])), (1, (0, 0, 64, []))], [(7, [0, 1], [4])], [], [], [(23, [0, 1], [0, -1, 1]), (23, [1, 1], [0, -1, 1])], [], [(0, 1, 1, 4294967296)])
theorem oo_jMath_min1_v225_0 {kA : Nat → ClassId} : or_ok PRD kA GG o_jMath_min1_v225_0 := by
  refine or_mk fun A ta ws vs hD hth hl => ?_
  intro t0 k0 t1 k1 d0 f0
  replace f0 := shm_21 f0
  have nf0 : fc_1 PRD (23, [0, 1], [0, -1, 1]) ws (vs) := by
    refine ⟨nf_in hl rfl, sgq_22 ?_⟩
    · show (-1) * v_iv (n_v vs 0) + (1 * v_iv (n_v vs 1) + 0) ≤ 0
      omega
  have nf1 : fc_1 PRD (23, [1, 1], [0, -1, 1]) ws (vs) := by
    refine ⟨nf_in hl rfl, sgq_23 ?_⟩
    · show (-1) * v_iv (n_v vs 1) + (1 * v_iv (n_v vs 1) + 0) ≤ 0
      omega
  refine ⟨(fun _ h => (by cases h)), [], trivial, ?_, (fun _ h => (by cases h))⟩
  rw [List.append_nil]
  exact List.forall_mem_cons.mpr ⟨⟨show (23 : Nat) < 100 from by decide, nf0⟩, List.forall_mem_cons.mpr ⟨⟨show (23 : Nat) < 100 from by decide, nf1⟩, (fun _ h => (by cases h))⟩⟩
def o_jMath_min1_v225_1 : or_T := (10, 2, [(0, (0, -64, 64, [])), (1, (0, 0, 64, []))], [(7, [0, 1], [5])], [], [], [(23, [0, 0], [0, -1, 1]), (23, [1, 0], [0, -1, 1])], [], [(0, 1, -4294967296, 0)])
theorem oo_jMath_min1_v225_1 {kA : Nat → ClassId} : or_ok PRD kA GG o_jMath_min1_v225_1 := by
  refine or_mk fun A ta ws vs hD hth hl => ?_
  intro t0 k0 t1 k1 d0 f0
  replace f0 := shm_24 f0
  have nf0 : fc_1 PRD (23, [0, 0], [0, -1, 1]) ws (vs) := by
    refine ⟨nf_in hl rfl, sgq_23 ?_⟩
    · show (-1) * v_iv (n_v vs 0) + (1 * v_iv (n_v vs 0) + 0) ≤ 0
      omega
  have nf1 : fc_1 PRD (23, [1, 0], [0, -1, 1]) ws (vs) := by
    refine ⟨nf_in hl rfl, sgq_22 ?_⟩
    · show (-1) * v_iv (n_v vs 1) + (1 * v_iv (n_v vs 0) + 0) ≤ 0
      omega
  refine ⟨(fun _ h => (by cases h)), [], trivial, ?_, (fun _ h => (by cases h))⟩
  rw [List.append_nil]
  exact List.forall_mem_cons.mpr ⟨⟨show (23 : Nat) < 100 from by decide, nf0⟩, List.forall_mem_cons.mpr ⟨⟨show (23 : Nat) < 100 from by decide, nf1⟩, (fun _ h => (by cases h))⟩⟩
def n_jMath_min1_v225_an : List an_T := []
def t_jMath_min1_v225_ct : ct_L := []
set_option maxRecDepth 100000 in
theorem c_jMath_min1_v225 {l : Launch} {D : va_G} {kA : Nat → ClassId} : ct_ok PRD l D kA GG y_jMath_min1 z_jMath_min1 e_jMath_min1_v225 := chk_all_ok (FT := []) (PT := []) (CT := t_jMath_min1_v225_ct) (KT := []) (NT := []) (AN := n_jMath_min1_v225_an) (OT := [o_jMath_min1_v225_0, o_jMath_min1_v225_1]) 0 200 (List.forall_mem_cons.mpr ⟨oo_jMath_min1_v225_0, List.forall_mem_cons.mpr ⟨oo_jMath_min1_v225_1, List.forall_mem_nil _⟩⟩) (pl_Math rfl (by decide)) ⟨List.forall_mem_nil _, List.forall_mem_nil _, List.forall_mem_nil _, List.forall_mem_nil _, List.forall_mem_nil _, GG_pl⟩ (by decide +kernel)
def e_jMath_min1_v226 : en_T := ([(0, -64, 64, []), (0, -480, 256, [])], some (0, -480, 64, []), true, 1, 0, 0, [], [], (0, [], [], [(23, [0, 2], [0, -1, 1]), (23, [1, 2], [0, -1, 1])], []))
def o_jMath_min1_v226_0 : or_T := (10, 2, [(0, (0, -64, 64, [])), (1, (0, -480, 63, []))], [(7, [0, 1], [4])], [], [], [(23, [0, 1], [0, -1, 1]), (23, [1, 1], [0, -1, 1])], [], [(0, 1, 1, 4294967296)])
