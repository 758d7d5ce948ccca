theorem oo_jMath_min1_v226_0 {kA : Nat → ClassId} : or_ok PRD kA GG o_jMath_min1_v226_0 := by
  refine or_mk fun A ta ws vs hD hth hl => ?_
  intro t0 k0 t1 k1 d0 f0
  replace f0 := shm_21 f0
  have nf0 : fc_1 PRD (23, [0, 1], [0, -1, 1]) ws (vs) := by
    refine ⟨nf_in hl rfl, sgq_22 ?_⟩
    · show (-1) * v_iv (n_v vs 0) + (1 * v_iv (n_v vs 1) + 0) ≤ 0
      omega
  have nf1 : fc_1 PRD (23, [1, 1], [0, -1, 1]) ws (vs) := by
    refine ⟨nf_in hl rfl, sgq_23 ?_⟩
    · show (-1) * v_iv (n_v vs 1) + (1 * v_iv (n_v vs 1) + 0) ≤ 0
      omega
  refine ⟨(fun _ h => (by cases h)), [], trivial, ?_, (fun _ h => (by cases h))⟩
  rw [List.append_nil]
  exact List.forall_mem_cons.mpr ⟨⟨show (23 : Nat) < 100 from by decide, nf0⟩, List.forall_mem_cons.mpr ⟨⟨show (23 : Nat) < 100 from by decide, nf1⟩, (fun _ h => (by cases h))⟩⟩
def o_jMath_min1_v226_1 : or_T := (10, 2, [(0, (0, -64, 64, [])), (1, (0, -64, 256, []))], [(7, [0, 1], [5])], [], [], [(23, [0, 0], [0, -1, 1]), (23, [1, 0], [0, -1, 1])], [], [(0, 1, -4294967296, 0)])
theorem oo_jMath_min1_v226_1 {kA : Nat → ClassId} : or_ok PRD kA GG o_jMath_min1_v226_1 := by
  refine or_mk fun A ta ws vs hD hth hl => ?_
  intro t0 k0 t1 k1 d0 f0
  replace f0 := shm_24 f0
  have nf0 : fc_1 PRD (23, [0, 0], [0, -1, 1]) ws (vs) := by
    refine ⟨nf_in hl rfl, sgq_23 ?_⟩
    · show (-1) * v_iv (n_v vs 0) + (1 * v_iv (n_v vs 0) + 0) ≤ 0
      omega
  have nf1 : fc_1 PRD (23, [1, 0], [0, -1, 1]) ws (vs) := by
    refine ⟨nf_in hl rfl, sgq_22 ?_⟩
    · show (-1) * v_iv (n_v vs 1) + (1 * v_iv (n_v vs 0) + 0) ≤ 0
      omega
  refine ⟨(fun _ h => (by cases h)), [], trivial, ?_, (fun _ h => (by cases h))⟩
  rw [List.append_nil]
  exact List.forall_mem_cons.mpr ⟨⟨show (23 : Nat) < 100 from by decide, nf0⟩, List.forall_mem_cons.mpr ⟨⟨show (23 : Nat) < 100 from by decide, nf1⟩, (fun _ h => (by cases h))⟩⟩
def n_jMath_min1_v226_an : List an_T := []
def t_jMath_min1_v226_ct : ct_L := []
set_option maxRecDepth 100000 in
theorem c_jMath_min1_v226 {l : Launch} {D : va_G} {kA : Nat → ClassId} : ct_ok PRD l D kA GG y_jMath_min1 z_jMath_min1 e_jMath_min1_v226 := chk_all_ok (FT := []) (PT := []) (CT := t_jMath_min1_v226_ct) (KT := []) (NT := []) (AN := n_jMath_min1_v226_an) (OT := [o_jMath_min1_v226_0, o_jMath_min1_v226_1]) 0 200 (List.forall_mem_cons.mpr ⟨oo_jMath_min1_v226_0, List.forall_mem_cons.mpr ⟨oo_jMath_min1_v226_1, List.forall_mem_nil _⟩⟩) (pl_Math rfl (by decide)) ⟨List.forall_mem_nil _, List.forall_mem_nil _, List.forall_mem_nil _, List.forall_mem_nil _, List.forall_mem_nil _, GG_pl⟩ (by decide +kernel)
def e_jMath_min1_v227 : en_T := ([(0, 0, 512, []), (0, 0, 64, [])], some (0, 0, 64, []), true, 1, 0, 0, [], [], (0, [], [], [(23, [0, 2], [0, -1, 1]), (23, [1, 2], [0, -1, 1])], []))
def o_jMath_min1_v227_0 : or_T := (10, 2, [(0, (0, 1, 512, [])), (1, (0, 0, 64, []))], [(7, [0, 1], [4])], [], [], [(23, [0, 1], [0, -1, 1]), (23, [1, 1], [0, -1, 1])], [], [(0, 1, 1, 4294967296)])
theorem oo_jMath_min1_v227_0 {kA : Nat → ClassId} : or_ok PRD kA GG o_jMath_min1_v227_0 := by
  refine or_mk fun A ta ws vs hD hth hl => ?_
  intro t0 k0 t1 k1 d0 f0
  replace f0 := shm_21 f0
  have nf0 : fc_1 PRD (23, [0, 1], [0, -1, 1]) ws (vs) := by
    refine ⟨nf_in hl rfl, sgq_22 ?_⟩
    · show (-1) * v_iv (n_v vs 0) + (1 * v_iv (n_v vs 1) + 0) ≤ 0
      omega
  have nf1 : fc_1 PRD (23, [1, 1], [0, -1, 1]) ws (vs) := by
    refine ⟨nf_in hl rfl, sgq_23 ?_⟩
    · show (-1) * v_iv (n_v vs 1) + (1 * v_iv (n_v vs 1) + 0) ≤ 0
      omega
  refine ⟨(fun _ h => (by cases h)), [], trivial, ?_, (fun _ h => (by cases h))⟩
  rw [List.append_nil]
  exact List.forall_mem_cons.mpr ⟨⟨show (23 : Nat) < 100 from by decide, nf0⟩, List.forall_mem_cons.mpr ⟨⟨show (23 : Nat) < 100 from by decide, nf1⟩, (fun _ h => (by cases h))⟩⟩
def o_jMath_min1_v227_1 : or_T := (10, 2, [(0, (0, 0, 64, [])), (1, (0, 0, 64, []))], [(7, [0, 1], [5])], [], [], [(23, [0, 0], [0, -1, 1]), (23, [1, 0], [0, -1, 1])], [], [(0, 1, -4294967296, 0)])
theorem oo_jMath_min1_v227_1 {kA : Nat → ClassId} : or_ok PRD kA GG o_jMath_min1_v227_1 := by
  refine or_mk fun A ta ws vs hD hth hl => ?_
  intro t0 k0 t1 k1 d0 f0
  replace f0 := shm_24 f0
  have nf0 : fc_1 PRD (23, [0, 0], [0, -1, 1]) ws (vs) := by
    refine ⟨nf_in hl rfl, sgq_23 ?_⟩
    · show (-1) * v_iv (n_v vs 0) + (1 * v_iv (n_v vs 0) + 0) ≤ 0
      omega
  have nf1 : fc_1 PRD (23, [1, 0], [0, -1, 1]) ws (vs) := by
    refine ⟨nf_in hl rfl, sgq_22 ?_⟩
    · show (-1) * v_iv (n_v vs 1) + (1 * v_iv (n_v vs 0) + 0) ≤ 0
      omega
  refine ⟨(fun _ h => (by cases h)), [], trivial, ?_, (fun _ h => (by cases h))⟩
  rw [List.append_nil]
  exact List.forall_mem_cons.mpr ⟨⟨show (23 : Nat) < 100 from by decide, nf0⟩, List.forall_mem_cons.mpr ⟨⟨show (23 : Nat) < 100 from by decide, nf1⟩, (fun _ h => (by cases h))⟩⟩
def n_jMath_min1_v227_an : List an_T := []
def t_jMath_min1_v227_ct : ct_L := []
set_option maxRecDepth 100000 in
theorem c_jMath_min1_v227 {l : Launch} {D : va_G} {kA : Nat → ClassId} : ct_ok PRD l D kA GG y_jMath_min1 z_jMath_min1 e_jMath_min1_v227 := chk_all_ok (FT := []) (PT := []) (CT := t_jMath_min1_v227_ct) (KT := []) (NT := []) (AN := n_jMath_min1_v227_an) (OT := [o_jMath_min1_v227_0, o_jMath_min1_v227_1]) 0 200 (List.forall_mem_cons.mpr ⟨oo_jMath_min1_v227_0, List.forall_mem_cons.mpr ⟨oo_jMath_min1_v227_1, List.forall_mem_nil _⟩⟩) (pl_Math rfl (by decide)) ⟨List.forall_mem_nil _, List.forall_mem_nil _, List.forall_mem_nil _, List.forall_mem_nil _, List.forall_mem_nil _, GG_pl⟩ (by decide +kernel)
def e_jMath_min1_v228 : en_T := ([(0, 0, 64, []), (0, -512, 192, [])], some (0, -512, 64, []), true, 1, 0, 0, [], [], (0, [], [], [(23, [0, 2], [0, -1, 1]), (23, [1, 2], [0, -1, 1])], []))
def o_jMath_min1_v228_0 : or_T := (10, 2, [(0, (0, 0, 64, [])), (1, (0, -512, 63, []))], [(7, [0, 1], [4])], [], [], [(23, [0, 1], [0, -1, 1]), (23, [1, 1], [0, -1, 1])], [], [(0, 1, 1, 4294967296)])
theorem oo_jMath_min1_v228_0 {kA : Nat → ClassId} : or_ok PRD kA GG o_jMath_min1_v228_0 := by
  refine or_mk fun A ta ws vs hD hth hl => ?_
  intro t0 k0 t1 k1 d0 f0
  replace f0 := shm_21 f0
  have nf0 : fc_1 PRD (23, [0, 1], [0, -1, 1]) ws (vs) := by
    refine ⟨nf_in hl rfl, sgq_22 ?_⟩
    · show (-1) * v_iv (n_v vs 0) + (1 * v_iv (n_v vs 1) + 0) ≤ 0
      omega
  have nf1 : fc_1 PRD (23, [1, 1], [0, -1, 1]) ws (vs) := by
    refine ⟨nf_in hl rfl, sgq_23 ?_⟩
    · show (-1) * v_iv (n_v vs 1) + (1 * v_iv (n_v vs 1) + 0) ≤ 0
      omega
  refine ⟨(fun _ h => (by cases h)), [], trivial, ?_, (fun _ h => (by cases h))⟩
  rw [List.append_nil]
  exact List.forall_mem_cons.mpr ⟨⟨show (23 : Nat) < 100 from by decide, nf0⟩, List.forall_mem_cons.mpr ⟨⟨show (23 : Nat) < 100 from by decide, nf1⟩, (fun _ h => (by cases h))⟩⟩
def o_jMath_min1_v228_1 : or_T := (10, 2, [(0, (0, 0, 64, [])), (1, (0, 0, 192, []))], [(7, [0, 1], [5])], [], [], [(23, [0, 0], [0, -1, 1]), (23, [1, 0], [0, -1, 1])], [], [(0, 1, -4294967296, 0)])
theorem oo_jMath_min1_v228_1 {kA : Nat → ClassId} : or_ok PRD kA GG o_jMath_min1_v228_1 := by
  refine or_mk fun A ta ws vs hD hth hl => ?_
  intro t0 k0 t1 k1 d0 f0
  replace f0 := shm_24 f0
  have nf0 : fc_1 PRD (23, [0, 0], [0, -1, 1]) ws (vs) := by
    refine ⟨nf_in hl rfl, sgq_23 ?_⟩
    · show (-1) * v_iv (n_v vs 0) + (1 * v_iv (n_v vs 0) + 0) ≤ 0
      omega
  have nf1 : fc_1 PRD (23, [1, 0], [0, -1, 1]) ws (vs) := by
    refine ⟨nf_in hl rfl, sgq_22 ?_⟩
    · show (-1) * v_iv (n_v vs 1) + (1 * v_iv (n_v vs 0) + 0) ≤ 0
      omega
  refine ⟨(fun _ h => (by cases h)), [], trivial, ?_, (fun _ h => (by cases h))⟩
  rw [List.append_nil]
  exact List.forall_mem_cons.mpr ⟨⟨show (23 : Nat) < 100 from by decide, nf0⟩, List.forall_mem_cons.mpr ⟨⟨show (23 : Nat) < 100 from by decide, nf1⟩, (fun _ h => (by cases h))⟩⟩
def n_jMath_min1_v228_an : List an_T := []
def t_jMath_min1_v228_ct : ct_L := []
set_option maxRecDepth 100000 in
theorem c_jMath_min1_v228 {l : Launch} {D : va_G} {kA : Nat → ClassId} : ct_ok PRD l D kA GG y_jMath_min1 z_jMath_min1 e_jMath_min1_v228 := chk_all_ok (FT := []) (PT := []) (CT := t_jMath_min1_v228_ct) (KT := []) (NT := []) (AN := n_jMath_min1_v228_an) (OT := [o_jMath_min1_v228_0, o_jMath_min1_v228_1]) 0 200 (List.forall_mem_cons.mpr ⟨oo_jMath_min1_v228_0, List.forall_mem_cons.mpr ⟨oo_jMath_min1_v228_1, List.forall_mem_nil _⟩⟩) (pl_Math rfl (by decide)) ⟨List.forall_mem_nil _, List.forall_mem_nil _, List.forall_mem_nil _, List.forall_mem_nil _, List.forall_mem_nil _, GG_pl⟩ (by decide +kernel)
def e_jMath_max1_v229 : en_T := ([(0, 0, 0, []), (0, -512, 64, [])], some (0, 0, 64, []), true, 1, 0, 0, [], [], (0, [], [], [(23, [0, 2], [0, 1, -1]), (23, [1, 2], [0, 1, -1])], []))
def o_jMath_max1_v229_0 : or_T := (10, 2, [(0, (0, 0, 0, [])), (1, (0, 1, 64, []))], [(7, [0, 1], [2])], [], [], [(23, [0, 1], [0, 1, -1]), (23, [1, 1], [0, 1, -1])], [], [])
theorem oo_jMath_max1_v229_0 {kA : Nat → ClassId} : or_ok PRD kA GG o_jMath_max1_v229_0 := by
  refine or_mk fun A ta ws vs hD hth hl => ?_
  intro t0 k0 t1 k1 f0
  replace f0 := shm_6 f0
  have nf0 : fc_1 PRD (23, [0, 1], [0, 1, -1]) ws (vs) := by
    refine ⟨nf_in hl rfl, sgq_7 ?_⟩
    · show 1 * v_iv (n_v vs 0) + ((-1) * v_iv (n_v vs 1) + 0) ≤ 0
      omega
  have nf1 : fc_1 PRD (23, [1, 1], [0, 1, -1]) ws (vs) := by
    refine ⟨nf_in hl rfl, sgq_8 ?_⟩
    · show 1 * v_iv (n_v vs 1) + ((-1) * v_iv (n_v vs 1) + 0) ≤ 0
      omega
  refine ⟨(fun _ h => (by cases h)), [], trivial, ?_, (fun _ h => (by cases h))⟩
  rw [List.append_nil]
  exact List.forall_mem_cons.mpr ⟨⟨show (23 : Nat) < 100 from by decide, nf0⟩, List.forall_mem_cons.mpr ⟨⟨show (23 : Nat) < 100 from by decide, nf1⟩, (fun _ h => (by cases h))⟩⟩
def o_jMath_max1_v229_1 : or_T := (10, 2, [(0, (0, 0, 0, [])), (1, (0, -512, 0, []))], [(7, [0, 1], [3])], [], [], [(23, [0, 0], [0, 1, -1]), (23, [1, 0], [0, 1, -1])], [], [])
theorem oo_jMath_max1_v229_1 {kA : Nat → ClassId} : or_ok PRD kA GG o_jMath_max1_v229_1 := by
  refine or_mk fun A ta ws vs hD hth hl => ?_
  intro t0 k0 t1 k1 f0
  replace f0 := shm_2 f0
  have nf0 : fc_1 PRD (23, [0, 0], [0, 1, -1]) ws (vs) := by
    refine ⟨nf_in hl rfl, sgq_8 ?_⟩
    · show 1 * v_iv (n_v vs 0) + ((-1) * v_iv (n_v vs 0) + 0) ≤ 0
      omega
  have nf1 : fc_1 PRD (23, [1, 0], [0, 1, -1]) ws (vs) := by
    refine ⟨nf_in hl rfl, sgq_7 ?_⟩
    · show 1 * v_iv (n_v vs 1) + ((-1) * v_iv (n_v vs 0) + 0) ≤ 0
      omega
  refine ⟨(fun _ h => (by cases h)), [], trivial, ?_, (fun _ h => (by cases h))⟩
  rw [List.append_nil]
  exact List.forall_mem_cons.mpr ⟨⟨show (23 : Nat) < 100 from by decide, nf0⟩, List.forall_mem_cons.mpr ⟨⟨show (23 : Nat) < 100 from by decide, nf1⟩, (fun _ h => (by cases h))⟩⟩
def n_jMath_max1_v229_an : List an_T := []
def t_jMath_max1_v229_ct : ct_L := []
set_option maxRecDepth 100000 in
theorem c_jMath_max1_v229 {l : Launch} {D : va_G} {kA : Nat → ClassId} : ct_ok PRD l D kA GG y_jMath_max1 z_jMath_max1 e_jMath_max1_v229 := chk_all_ok (FT := []) (PT := []) (CT := t_jMath_max1_v229_ct) (KT := []) (NT := []) (AN := n_jMath_max1_v229_an) (OT := [o_jMath_max1_v229_0, o_jMath_max1_v229_1]) 0 200 (List.forall_mem_cons.mpr ⟨oo_jMath_max1_v229_0, List.forall_mem_cons.mpr ⟨oo_jMath_max1_v229_1, List.forall_mem_nil _⟩⟩) (pl_Math rfl (by decide)) ⟨List.forall_mem_nil _, List.forall_mem_nil _, List.forall_mem_nil _, List.forall_mem_nil _, List.forall_mem_nil _, GG_pl⟩ (by decide +kernel)
def e_jMath_min1_v230 : en_T := ([(0, -64, 512, []), (0, 0, 64, [])], some (0, -64, 64, []), true, 1, 0, 0, [], [], (0, [], [], [(23, [0, 2], [0, -1, 1]), (23, [1, 2], [0, -1, 1])], []))
def o_jMath_min1_v230_0 : or_T := (10, 2, [(0, (0, 1, 512, [])), (1, (0, 0, 64, []))], [(7, [0, 1], [4])], [], [], [(23, [0, 1], [0, -1, 1]), (23, [1, 1], [0, -1, 1])], [], [(0, 1, 1, 4294967296)])
theorem oo_jMath_min1_v230_0 {kA : Nat → ClassId} : or_ok PRD kA GG o_jMath_min1_v230_0 := by
  refine or_mk fun A ta ws vs hD hth hl => ?_
  intro t0 k0 t1 k1 d0 f0
  replace f0 := shm_21 f0
  have nf0 : fc_1 PRD (23, [0, 1], [0, -1, 1]) ws (vs) := by
    refine ⟨nf_in hl rfl, sgq_22 ?_⟩
    · show (-1) * v_iv (n_v vs 0) + (1 * v_iv (n_v vs 1) + 0) ≤ 0
      omega
  have nf1 : fc_1 PRD (23, [1, 1], [0, -1, 1]) ws (vs) := by
    refine ⟨nf_in hl rfl, sgq_23 ?_⟩
    · show (-1) * v_iv (n_v vs 1) + (1 * v_iv (n_v vs 1) + 0) ≤ 0
      omega
  refine ⟨(fun _ h => (by cases h)), [], trivial, ?_, (fun _ h => (by cases h))⟩
  rw [List.append_nil]
  exact List.forall_mem_cons.mpr ⟨⟨show (23 : Nat) < 100 from by decide, nf0⟩, List.forall_mem_cons.mpr ⟨⟨show (23 : Nat) < 100 from by decide, nf1⟩, (fun _ h => (by cases h))⟩⟩
def o_jMath_min1_v230_1 : or_T := (10, 2, [(0, (0, -64, 64, [])), (1, (0, 0, 64, []))], [(7, [0, 1], [5])], [], [], [(23, [0, 0], [0, -1, 1]), (23, [1, 0], [0, -1, 1])], [], [(0, 1, -4294967296, 0)])
theorem oo_jMath_min1_v230_1 {kA : Nat → ClassId} : or_ok PRD kA GG o_jMath_min1_v230_1 := by
  refine or_mk fun A ta ws vs hD hth hl => ?_
  intro t0 k0 t1 k1 d0 f0
  replace f0 := shm_24 f0
  have nf0 : fc_1 PRD (23, [0, 0], [0, -1, 1]) ws (vs) := by
    refine ⟨nf_in hl rfl, sgq_23 ?_⟩
    · show (-1) * v_iv (n_v vs 0) + (1 * v_iv (n_v vs 0) + 0) ≤ 0
      omega
  have nf1 : fc_1 PRD (23, [1, 0], [0, -1, 1]) ws (vs) := by
    refine ⟨nf_in hl rfl, sgq_22 ?_⟩
    · show (-1) * v_iv (n_v vs 1) + (1 * v_iv (n_v vs 0) + 0) ≤ 0
      omega
  refine ⟨(fun _ h => (by cases h)), [], trivial, ?_, (fun _ h => (by cases h))⟩
  rw [List.append_nil]
  exact List.forall_mem_cons.mpr ⟨⟨show (23 : Nat) < 100 from by decide, nf0⟩, List.forall_mem_cons.mpr ⟨⟨show (23 : Nat) < 100 from by decide, nf1⟩, (fun _ h => (by cases h))⟩⟩
def n_jMath_min1_v230_an : List an_T := []
def t_jMath_min1_v230_ct : ct_L := []
set_option maxRecDepth 100000 in
theorem c_jMath_min1_v230 {l : Launch} {D : va_G} {kA : Nat → ClassId} : ct_ok PRD l D kA GG y_jMath_min1 z_jMath_min1 e_jMath_min1_v230 := chk_all_ok (FT := []) (PT := []) (CT := t_jMath_min1_v230_ct) (KT := []) (NT := []) (AN := n_jMath_min1_v230_an) (OT := [o_jMath_min1_v230_0, o_jMath_min1_v230_1]) 0 200 (List.forall_mem_cons.mpr ⟨oo_jMath_min1_v230_0, List.forall_mem_cons.mpr ⟨oo_jMath_min1_v230_1, List.forall_mem_nil _⟩⟩) (pl_Math rfl (by decide)) ⟨List.forall_mem_nil _, List.forall_mem_nil _, List.forall_mem_nil _, List.forall_mem_nil _, List.forall_mem_nil _, GG_pl⟩ (by decide +kernel)
def e_jMath_min1_v231 : en_T := ([(0, -64, 64, []), (0, -512, 256, [])], some (0, -512, 64, []), true, 1, 0, 0, [], [], (0, [], [], [(23, [0, 2], [0, -1, 1]), (23, [1, 2], [0, -1, 1])], []))
def o_jMath_min1_v231_0 : or_T := (10, 2, [(0, (0, -64, 64, [])), (1, (0, -512, 63, []))], [(7, [0, 1], [4])], [], [], [(23, [0, 1], [0, -1, 1]), (23, [1, 1], [0, -1, 1])], [], [(0, 1, 1, 4294967296)])
theorem oo_jMath_min1_v231_0 {kA : Nat → ClassId} : or_ok PRD kA GG o_jMath_min1_v231_0 := by
  refine or_mk fun A ta ws vs hD hth hl => ?_
  intro t0 k0 t1 k1 d0 f0
  replace f0 := shm_21 f0
  have nf0 : fc_1 PRD (23, [0, 1], [0, -1, 1]) ws (vs) := by
    refine ⟨nf_in hl rfl, sgq_22 ?_⟩
    · show (-1) * v_iv (n_v vs 0) + (1 * v_iv (n_v vs 1) + 0) ≤ 0
      omega
  have nf1 : fc_1 PRD (23, [1, 1], [0, -1, 1]) ws (vs) := by
    refine ⟨nf_in hl rfl, sgq_23 ?_⟩
    · show (-1) * v_iv (n_v vs 1) + (1 * v_iv (n_v vs 1) + 0) ≤ 0
      omega
  refine ⟨(fun _ h => (by cases h)), [], trivial, ?_, (fun _ h => (by cases h))⟩
  rw [List.append_nil]
  exact List.forall_mem_cons.mpr ⟨⟨show (23 : Nat) < 100 from by decide, nf0⟩, List.forall_mem_cons.mpr ⟨⟨show (23 : Nat) < 100 from by decide, nf1⟩, (fun _ h => (by cases h))⟩⟩
def o_jMath_min1_v231_1 : or_T := (10, 2, [(0, (0, -64, 64, [])), (1, (0, -64, 256, []))], [(7, [0, 1], [5])], [], [], [(23, [0, 0], [0, -1, 1]), (23, [1, 0], [0, -1, 1])], [], [(0, 1, -4294967296, 0)])
theorem oo_jMath_min1_v231_1 {kA : Nat → ClassId} : or_ok PRD kA GG o_jMath_min1_v231_1 := by
  refine or_mk fun A ta ws vs hD hth hl => ?_
  intro t0 k0 t1 k1 d0 f0
  replace f0 := shm_24 f0
  have nf0 : fc_1 PRD (23, [0, 0], [0, -1, 1]) ws (vs) := by
    refine ⟨nf_in hl rfl, sgq_23 ?_⟩
    · show (-1) * v_iv (n_v vs 0) + (1 * v_iv (n_v vs 0) + 0) ≤ 0
      omega
  have nf1 : fc_1 PRD (23, [1, 0], [0, -1, 1]) ws (vs) := by
    refine ⟨nf_in hl rfl, sgq_22 ?_⟩
    · show (-1) * v_iv (n_v vs 1) + (1 * v_iv (n_v vs 0) + 0) ≤ 0
      omega
  refine ⟨(fun _ h => (by cases h)), [], trivial, ?_, (fun _ h => (by cases h))⟩
  rw [List.append_nil]
  exact List.forall_mem_cons.mpr ⟨⟨show (23 : Nat) < 100 from by decide, nf0⟩, List.forall_mem_cons.mpr ⟨⟨show (23 : Nat) < 100 from by decide, nf1⟩, (fun _ h => (by cases h))⟩⟩
def n_jMath_min1_v231_an : List an_T := []
def t_jMath_min1_v231_ct : ct_L := []
set_option maxRecDepth 100000 in
theorem c_jMath_min1_v231 {l : Launch} {D : va_G} {kA : Nat → ClassId} : ct_ok PRD l D kA GG y_jMath_min1 z_jMath_min1 e_jMath_min1_v231 := chk_all_ok (FT := []) (PT := []) (CT := t_jMath_min1_v231_ct) (KT := []) (NT := []) (AN := n_jMath_min1_v231_an) (OT := [o_jMath_min1_v231_0, o_jMath_min1_v231_1]) 0 200 (List.forall_mem_cons.mpr ⟨oo_jMath_min1_v231_0, List.forall_mem_cons.mpr ⟨oo_jMath_min1_v231_1, List.forall_mem_nil _⟩⟩) (pl_Math rfl (by decide)) ⟨List.forall_mem_nil _, List.forall_mem_nil _, List.forall_mem_nil _, List.forall_mem_nil _, List.forall_mem_nil _, GG_pl⟩ (by decide +kernel)
def e_jMath_min1_v232 : en_T := ([(0, 0, 736, []), (0, 0, 64, [])], some (0, 0, 64, []), true, 1, 0, 0, [], [], (0, [], [], [(23, [0, 2], [0, -1, 1]), (23, [1, 2], [0, -1, 1])], []))
def o_jMath_min1_v232_0 : or_T := (10, 2, [(0, (0, 1, 736, [])), (1, (0, 0, 64, []))], [(7, [0, 1], [4])], [], [], [(23, [0, 1], [0, -1, 1]), (23, [1, 1], [0, -1, 1])], [], [(0, 1, 1, 4294967296)])
theorem oo_jMath_min1_v232_0 {kA : Nat → ClassId} : or_ok PRD kA GG o_jMath_min1_v232_0 := by
  refine or_mk fun A ta ws vs hD hth hl => ?_
  intro t0 k0 t1 k1 d0 f0
  replace f0 := shm_21 f0
  have nf0 : fc_1 PRD (23, [0, 1], [0, -1, 1]) ws (vs) := by
    refine ⟨nf_in hl rfl, sgq_22 ?_⟩
    · show (-1) * v_iv (n_v vs 0) + (1 * v_iv (n_v vs 1) + 0) ≤ 0
      omega
  have nf1 : fc_1 PRD (23, [1, 1], [0, -1, 1]) ws (vs) := by
    refine ⟨nf_in hl rfl, sgq_23 ?_⟩
    · show (-1) * v_iv (n_v vs 1) + (1 * v_iv (n_v vs 1) + 0) ≤ 0
      omega
  refine ⟨(fun _ h => (by cases h)), [], trivial, ?_, (fun _ h => (by cases h))⟩
  rw [List.append_nil]
  exact List.forall_mem_cons.mpr ⟨⟨show (23 : Nat) < 100 from by decide, nf0⟩, List.forall_mem_cons.mpr ⟨⟨show (23 : Nat) < 100 from by decide, nf1⟩, (fun _ h => (by cases h))⟩⟩
def o_jMath_min1_v232_1 : or_T := (10, 2, [(0, (0, 0, 64, [])), (1, (0, 0, 64, []))], [(7, [0, 1], [5])], [], [], [(23, [0, 0], [0, -1, 1]), (23, [1, 0], [0, -1, 1])], [], [(0, 1, -4294967296, 0)])
theorem oo_jMath_min1_v232_1 {kA : Nat → ClassId} : or_ok PRD kA GG o_jMath_min1_v232_1 := by
  refine or_mk fun A ta ws vs hD hth hl => ?_
  intro t0 k0 t1 k1 d0 f0
  replace f0 := shm_24 f0
  have nf0 : fc_1 PRD (23, [0, 0], [0, -1, 1]) ws (vs) := by
    refine ⟨nf_in hl rfl, sgq_23 ?_⟩
    · show (-1) * v_iv (n_v vs 0) + (1 * v_iv (n_v vs 0) + 0) ≤ 0
      omega
  have nf1 : fc_1 PRD (23, [1, 0], [0, -1, 1]) ws (vs) := by
    refine ⟨nf_in hl rfl, sgq_22 ?_⟩
    · show (-1) * v_iv (n_v vs 1) + (1 * v_iv (n_v vs 0) + 0) ≤ 0
      omega
  refine ⟨(fun _ h => (by cases h)), [], trivial, ?_, (fun _ h => (by cases h))⟩
  rw [List.append_nil]
  exact List.forall_mem_cons.mpr ⟨⟨show (23 : Nat) < 100 from by decide, nf0⟩, List.forall_mem_cons.mpr ⟨⟨show (23 : Nat) < 100 from by decide, nf1⟩, (fun _ h => (by cases h))⟩⟩
def n_jMath_min1_v232_an : List an_T := []
def t_jMath_min1_v232_ct : ct_L := []
set_option maxRecDepth 100000 in
theorem c_jMath_min1_v232 {l : Launch} {D : va_G} {kA : Nat → ClassId} : ct_ok PRD l D kA GG y_jMath_min1 z_jMath_min1 e_jMath_min1_v232 := chk_all_ok (FT := []) (PT := []) (CT := t_jMath_min1_v232_ct) (KT := []) (NT := []) (AN := n_jMath_min1_v232_an) (OT := [o_jMath_min1_v232_0, o_jMath_min1_v232_1]) 0 200 (List.forall_mem_cons.mpr ⟨oo_jMath_min1_v232_0, List.forall_mem_cons.mpr ⟨oo_jMath_min1_v232_1, List.forall_mem_nil _⟩⟩) (pl_Math rfl (by decide)) ⟨List.forall_mem_nil _, List.forall_mem_nil _, List.forall_mem_nil _, List.forall_mem_nil _, List.forall_mem_nil _, GG_pl⟩ (by decide +kernel)
def e_jMath_min1_v233 : en_T := ([(0, 0, 64, []), (0, -736, 192, [])], some (0, -736, 64, []), true, 1, 0, 0, [], [], (0, [], [], [(23, [0, 2], [0, -1, 1]), (23, [1, 2], [0, -1, 1])], []))
def o_jMath_min1_v233_0 : or_T := (10, 2, [(0, (0, 0, 64, [])), (1, (0, -736, 63, []))], [(7, [0, 1], [4])], [], [], [(23, [0, 1], [0, -1, 1]), (23, [1, 1], [0, -1, 1])], [], [(0, 1, 1, 4294967296)])
theorem oo_jMath_min1_v233_0 {kA : Nat → ClassId} : or_ok PRD kA GG o_jMath_min1_v233_0 := by
  refine or_mk fun A ta ws vs hD hth hl => ?_
  intro t0 k0 t1 k1 d0 f0
  replace f0 := shm_21 f0
  have nf0 : fc_1 PRD (23, [0, 1], [0, -1, 1]) ws (vs) := by
    refine ⟨nf_in hl rfl, sgq_22 ?_⟩
    · show (-1) * v_iv (n_v vs 0) + (1 * v_iv (n_v vs 1) + 0) ≤ 0
      omega
  have nf1 : fc_1 PRD (23, [1, 1], [0, -1, 1]) ws (vs) := by
    refine ⟨nf_in hl rfl, sgq_23 ?_⟩
    · show (-1) * v_iv (n_v vs 1) + (1 * v_iv (n_v vs 1) + 0) ≤ 0
      omega
  refine ⟨(fun _ h => (by cases h)), [], trivial, ?_, (fun _ h => (by cases h))⟩
  rw [List.append_nil]
  exact List.forall_mem_cons.mpr ⟨⟨show (23 : Nat) < 100 from by decide, nf0⟩, List.forall_mem_cons.mpr ⟨⟨show (23 : Nat) < 100 from by decide, nf1⟩, (fun _ h => (by cases h))⟩⟩
def o_jMath_min1_v233_1 : or_T := (10, 2, [(0, (0, 0, 64, [])), (1, (0, 0, 192, []))], [(7, [0, 1], [5])], [], [], [(23, [0, 0], [0, -1, 1]), (23, [1, 0], [0, -1, 1])], [], [(0, 1, -4294967296, 0)])
theorem oo_jMath_min1_v233_1 {kA : Nat → ClassId} : or_ok PRD kA GG o_jMath_min1_v233_1 := by
  refine or_mk fun A ta ws vs hD hth hl => ?_
  intro t0 k0 t1 k1 d0 f0
  replace f0 := shm_24 f0
  have nf0 : fc_1 PRD (23, [0, 0], [0, -1, 1]) ws (vs) := by
    refine ⟨nf_in hl rfl, sgq_23 ?_⟩
    · show (-1) * v_iv (n_v vs 0) + (1 * v_iv (n_v vs 0) + 0) ≤ 0
      omega
  have nf1 : fc_1 PRD (23, [1, 0], [0, -1, 1]) ws (vs) := by
    refine ⟨nf_in hl rfl, sgq_22 ?_⟩
    · show (-1) * v_iv (n_v vs 1) + (1 * v_iv (n_v vs 0) + 0) ≤ 0
      omega
  refine ⟨(fun _ h => (by cases h)), [], trivial, ?_, (fun _ h => (by cases h))⟩
  rw [List.append_nil]
  exact List.forall_mem_cons.mpr ⟨⟨show (23 : Nat) < 100 from by decide, nf0⟩, List.forall_mem_cons.mpr ⟨⟨show (23 : Nat) < 100 from by decide, nf1⟩, (fun _ h => (by cases h))⟩⟩
def n_jMath_min1_v233_an : List an_T := []
def t_jMath_min1_v233_ct : ct_L := []
set_option maxRecDepth 100000 in
theorem c_jMath_min1_v233 {l : Launch} {D : va_G} {kA : Nat → ClassId} : ct_ok PRD l D kA GG y_jMath_min1 z_jMath_min1 e_jMath_min1_v233 := chk_all_ok (FT := []) (PT := []) (CT := t_jMath_min1_v233_ct) (KT := []) (NT := []) (AN := n_jMath_min1_v233_an) (OT := [o_jMath_min1_v233_0, o_jMath_min1_v233_1]) 0 200 (List.forall_mem_cons.mpr ⟨oo_jMath_min1_v233_0, List.forall_mem_cons.mpr ⟨oo_jMath_min1_v233_1, List.forall_mem_nil _⟩⟩) (pl_Math rfl (by decide)) ⟨List.forall_mem_nil _, List.forall_mem_nil _, List.forall_mem_nil _, List.forall_mem_nil _, List.forall_mem_nil _, GG_pl⟩ (by decide +kernel)
def e_jMath_max1_v234 : en_T := ([(0, 0, 0, []), (0, -736, 64, [])], some (0, 0, 64, []), true, 1, 0, 0, [], [], (0, [], [], [(23, [0, 2], [0, 1, -1]), (23, [1, 2], [0, 1, -1])], []))
def o_jMath_max1_v234_0 : or_T := (10, 2, [(0, (0, 0, 0, [])), (1, (0, 1, 64, []))], [(7, [0, 1], [2])], [], [], [(23, [0, 1], [0, 1, -1]), (23, [1, 1], [0, 1, -1])], [], [])
theorem oo_jMath_max1_v234_0 {kA : Nat → ClassId} : or_ok PRD kA GG o_jMath_max1_v234_0 := by
  refine or_mk fun A ta ws vs hD hth hl => ?_
  intro t0 k0 t1 k1 f0
  replace f0 := shm_6 f0
  have nf0 : fc_1 PRD (23, [0, 1], [0, 1, -1]) ws (vs) := by
    refine ⟨nf_in hl rfl, sgq_7 ?_⟩
    · show 1 * v_iv (n_v vs 0) + ((-1) * v_iv (n_v vs 1) + 0) ≤ 0
      omega
  have nf1 : fc_1 PRD (23, [1, 1], [0, 1, -1]) ws (vs) := by
    refine ⟨nf_in hl rfl, sgq_8 ?_⟩
    · show 1 * v_iv (n_v vs 1) + ((-1) * v_iv (n_v vs 1) + 0) ≤ 0
      omega
  refine ⟨(fun _ h => (by cases h)), [], trivial, ?_, (fun _ h => (by cases h))⟩
  rw [List.append_nil]
  exact List.forall_mem_cons.mpr ⟨⟨show (23 : Nat) < 100 from by decide, nf0⟩, List.forall_mem_cons.mpr ⟨⟨show (23 : Nat) < 100 from by decide, nf1⟩, (fun _ h => (by cases h))⟩⟩
def o_jMath_max1_v234_1 : or_T := (10, 2, [(0, (0, 0, 0, [])), (1, (0, -736, 0, []))], [(7, [0, 1], [3])], [], [], [(23, [0, 0], [0, 1, -1]), (23, [1, 0], [0, 1, -1])], [], [])
theorem oo_jMath_max1_v234_1 {kA : Nat → ClassId} : or_ok PRD kA GG o_jMath_max1_v234_1 := by
  refine or_mk fun A ta ws vs hD hth hl => ?_
  intro t0 k0 t1 k1 f0
  replace f0 := shm_2 f0
  have nf0 : fc_1 PRD (23, [0, 0], [0, 1, -1]) ws (vs) := by
    refine ⟨nf_in hl rfl, sgq_8 ?_⟩
    · show 1 * v_iv (n_v vs 0) + ((-1) * v_iv (n_v vs 0) + 0) ≤ 0
      omega
  have nf1 : fc_1 PRD (23, [1, 0], [0, 1, -1]) ws (vs) := by
    refine ⟨nf_in hl rfl, sgq_7 ?_⟩
    · show 1 * v_iv (n_v vs 1) + ((-1) * v_iv (n_v vs 0) + 0) ≤ 0
      omega
  refine ⟨(fun _ h => (by cases h)), [], trivial, ?_, (fun _ h => (by cases h))⟩
  rw [List.append_nil]
  exact List.forall_mem_cons.mpr ⟨⟨show (23 : Nat) < 100 from by decide, nf0⟩, List.forall_mem_cons.mpr ⟨⟨show (23 : Nat) < 100 from by decide, nf1⟩, (fun _ h => (by cases h))⟩⟩
def n_jMath_max1_v234_an : List an_T := []
def t_jMath_max1_v234_ct : ct_L := []
set_option maxRecDepth 100000 in
theorem c_jMath_max1_v234 {l : Launch} {D : va_G} {kA : Nat → ClassId} : ct_ok PRD l D kA GG y_jMath_max1 z_jMath_max1 e_jMath_max1_v234 := chk_all_ok (FT := []) (PT := []) (CT := t_jMath_max1_v234_ct) (KT := []) (NT := []) (AN := n_jMath_max1_v234_an) (OT := [o_jMath_max1_v234_0, o_jMath_max1_v234_1]) 0 200 (List.forall_mem_cons.mpr ⟨oo_jMath_max1_v234_0, List.forall_mem_cons.mpr ⟨oo_jMath_max1_v234_1, List.forall_mem_nil _⟩⟩) (pl_Math rfl (by decide)) ⟨List.forall_mem_nil _, List.forall_mem_nil _, List.forall_mem_nil _, List.forall_mem_nil _, List.forall_mem_nil _, GG_pl⟩ (by decide +kernel)
def e_jMath_min1_v235 : en_T := ([(0, -64, 736, []), (0, 0, 64, [])], some (0, -64, 64, []), true, 1, 0, 0, [], [], (0, [], [], [(23, [0, 2], [0, -1, 1]), (23, [1, 2], [0, -1, 1])], []))
def o_jMath_min1_v235_0 : or_T := (10, 2, [(0, (0, 1, 736, [])), (1, (0, 0, 64, []))], [(7, [0, 1], [4])], [], [], [(23, [0, 1], [0, -1, 1]), (23, [1, 1], [0, -1, 1])], [], [(0, 1, 1, 4294967296)])
theorem oo_jMath_min1_v235_0 {kA : Nat → ClassId} : or_ok PRD kA GG o_jMath_min1_v235_0 := by
  refine or_mk fun A ta ws vs hD hth hl => ?_
  intro t0 k0 t1 k1 d0 f0
  replace f0 := shm_21 f0
  have nf0 : fc_1 PRD (23, [0, 1], [0, -1, 1]) ws (vs) := by
    refine ⟨nf_in hl rfl, sgq_22 ?_⟩
    · show (-1) * v_iv (n_v vs 0) + (1 * v_iv (n_v vs 1) + 0) ≤ 0
      omega
  have nf1 : fc_1 PRD (23, [1, 1], [0, -1, 1]) ws (vs) := by
    refine ⟨nf_in hl rfl, sgq_23 ?_⟩
    · show (-1) * v_iv (n_v vs 1) + (1 * v_iv (n_v vs 1) + 0) ≤ 0
      omega
  refine ⟨(fun _ h => (by cases h)), [], trivial, ?_, (fun _ h => (by cases h))⟩
  rw [List.append_nil]
  exact List.forall_mem_cons.mpr ⟨⟨show (23 : Nat) < 100 from by decide, nf0⟩, List.forall_mem_cons.mpr ⟨⟨show (23 : Nat) < 100 from by decide, nf1⟩, (fun _ h => (by cases h))⟩⟩
def o_jMath_min1_v235_1 : or_T := (10, 2, [(0, (0, -64, 64, [])), (1, (0, 0, 64, []))], [(7, [0, 1], [5])], [], [], [(23, [0, 0], [0, -1, 1]), (23, [1, 0], [0, -1, 1])], [], [(0, 1, -4294967296, 0)])
theorem oo_jMath_min1_v235_1 {kA : Nat → ClassId} : or_ok PRD kA GG o_jMath_min1_v235_1 := by
  refine or_mk fun A ta ws vs hD hth hl => ?_
  intro t0 k0 t1 k1 d0 f0
  replace f0 := shm_24 f0
  have nf0 : fc_1 PRD (23, [0, 0], [0, -1, 1]) ws (vs) := by
    refine ⟨nf_in hl rfl, sgq_23 ?_⟩
    · show (-1) * v_iv (n_v vs 0) + (1 * v_iv (n_v vs 0) + 0) ≤ 0
      omega
  have nf1 : fc_1 PRD (23, [1, 0], [0, -1, 1]) ws (vs) := by
    refine ⟨nf_in hl rfl, sgq_22 ?_⟩
    · show (-1) * v_iv (n_v vs 1) + (1 * v_iv (n_v vs 0) + 0) ≤ 0
      omega
  refine ⟨(fun _ h => (by cases h)), [], trivial, ?_, (fun _ h => (by cases h))⟩
  rw [List.append_nil]
  exact List.forall_mem_cons.mpr ⟨⟨show (23 : Nat) < 100 from by decide, nf0⟩, List.forall_mem_cons.mpr ⟨⟨show (23 : Nat) < 100 from by decide, nf1⟩, (fun _ h => (by cases h))⟩⟩
def n_jMath_min1_v235_an : List an_T := []
def t_jMath_min1_v235_ct : ct_L := []
set_option maxRecDepth 100000 in
theorem c_jMath_min1_v235 {l : Launch} {D : va_G} {kA : Nat → ClassId} : ct_ok PRD l D kA GG y_jMath_min1 z_jMath_min1 e_jMath_min1_v235 := chk_all_ok (FT := []) (PT := []) (CT := t_jMath_min1_v235_ct) (KT := []) (NT := []) (AN := n_jMath_min1_v235_an) (OT := [o_jMath_min1_v235_0, o_jMath_min1_v235_1]) 0 200 (List.forall_mem_cons.mpr ⟨oo_jMath_min1_v235_0, List.forall_mem_cons.mpr ⟨oo_jMath_min1_v235_1, List.forall_mem_nil _⟩⟩) (pl_Math rfl (by decide)) ⟨List.forall_mem_nil _, List.forall_mem_nil _, List.forall_mem_nil _, List.forall_mem_nil _, List.forall_mem_nil _, GG_pl⟩ (by decide +kernel)
def e_jMath_min1_v236 : en_T := ([(0, -64, 64, []), (0, -736, 256, [])], some (0, -736, 64, []), true, 1, 0, 0, [], [], (0, [], [], [(23, [0, 2], [0, -1, 1]), (23, [1, 2], [0, -1, 1])], []))
def o_jMath_min1_v236_0 : or_T := (10, 2, [(0, (0, -64, 64, [])), (1, (0, -736, 63, []))], [(7, [0, 1], [4])], [], [], [(23, [0, 1], [0, -1, 1]), (23, [1, 1], [0, -1, 1])], [], [(0, 1, 1, 4294967296)])
theorem oo_jMath_min1_v236_0 {kA : Nat → ClassId} : or_ok PRD kA GG o_jMath_min1_v236_0 := by
  refine or_mk fun A ta ws vs hD hth hl => ?_
  intro t0 k0 t1 k1 d0 f0
  replace f0 := shm_21 f0
  have nf0 : fc_1 PRD (23, [0, 1], [0, -1, 1]) ws (vs) := by
    refine ⟨nf_in hl rfl, sgq_22 ?_⟩
    · show (-1) * v_iv (n_v vs 0) + (1 * v_iv (n_v vs 1) + 0) ≤ 0
      omega
  have nf1 : fc_1 PRD (23, [1, 1], [0, -1, 1]) ws (vs) := by
    refine ⟨nf_in hl rfl, sgq_23 ?_⟩
    · show (-1) * v_iv (n_v vs 1) + (1 * v_iv (n_v vs 1) + 0) ≤ 0
      omega
  refine ⟨(fun _ h => (by cases h)), [], trivial, ?_, (fun _ h => (by cases h))⟩
  rw [List.append_nil]
  exact List.forall_mem_cons.mpr ⟨⟨show (23 : Nat) < 100 from by decide, nf0⟩, List.forall_mem_cons.mpr ⟨⟨show (23 : Nat) < 100 from by decide, nf1⟩, (fun _ h => (by cases h))⟩⟩
def o_jMath_min1_v236_1 : or_T := (10, 2, [(0, (0, -64, 64, [])), (1, (0, -64, 256, []))], [(7, [0, 1], [5])], [], [], [(23, [0, 0], [0, -1, 1]), (23, [1, 0], [0, -1, 1])], [], [(0, 1, -4294967296, 0)])
theorem oo_jMath_min1_v236_1 {kA : Nat → ClassId} : or_ok PRD kA GG o_jMath_min1_v236_1 := by
  refine or_mk fun A ta ws vs hD hth hl => ?_
  intro t0 k0 t1 k1 d0 f0
  replace f0 := shm_24 f0
  have nf0 : fc_1 PRD (23, [0, 0], [0, -1, 1]) ws (vs) := by
    refine ⟨nf_in hl rfl, sgq_23 ?_⟩
    · show (-1) * v_iv (n_v vs 0) + (1 * v_iv (n_v vs 0) + 0) ≤ 0
      omega
  have nf1 : fc_1 PRD (23, [1, 0], [0, -1, 1]) ws (vs) := by
    refine ⟨nf_in hl rfl, sgq_22 ?_⟩
    · show (-1) * v_iv (n_v vs 1) + (1 * v_iv (n_v vs 0) + 0) ≤ 0
      omega
  refine ⟨(fun _ h => (by cases h)), [], trivial, ?_, (fun _ h => (by cases h))⟩
  rw [List.append_nil]
  exact List.forall_mem_cons.mpr ⟨⟨show (23 : Nat) < 100 from by decide, nf0⟩, List.forall_mem_cons.mpr ⟨⟨show (23 : Nat) < 100 from by decide, nf1⟩, (fun _ h => (by cases h))⟩⟩
def n_jMath_min1_v236_an : List an_T := []
def t_jMath_min1_v236_ct : ct_L := []
set_option maxRecDepth 100000 in
theorem c_jMath_min1_v236 {l : Launch} {D : va_G} {kA : Nat → ClassId} : ct_ok PRD l D kA GG y_jMath_min1 z_jMath_min1 e_jMath_min1_v236 := chk_all_ok (FT := []) (PT := []) (CT := t_jMath_min1_v236_ct) (KT := []) (NT := []) (AN := n_jMath_min1_v236_an) (OT := [o_jMath_min1_v236_0, o_jMath_min1_v236_1]) 0 200 (List.forall_mem_cons.mpr ⟨oo_jMath_min1_v236_0, List.forall_mem_cons.mpr ⟨oo_jMath_min1_v236_1, List.forall_mem_nil _⟩⟩) (pl_Math rfl (by decide)) ⟨List.forall_mem_nil _, List.forall_mem_nil _, List.forall_mem_nil _, List.forall_mem_nil _, List.forall_mem_nil _, GG_pl⟩ (by decide +kernel)
def e_jMath_min1_v237 : en_T := ([(0, 0, 736, []), (0, 0, 127, [])], some (0, 0, 127, []), true, 1, 0, 0, [], [], (0, [], [], [(23, [0, 2], [0, -1, 1]), (23, [1, 2], [0, -1, 1])], []))
def o_jMath_min1_v237_0 : or_T := (10, 2, [(0, (0, 1, 736, [])), (1, (0, 0, 127, []))], [(7, [0, 1], [4])], [], [], [(23, [0, 1], [0, -1, 1]), (23, [1, 1], [0, -1, 1])], [], [(0, 1, 1, 4294967296)])
theorem oo_jMath_min1_v237_0 {kA : Nat → ClassId} : or_ok PRD kA GG o_jMath_min1_v237_0 := by
  refine or_mk fun A ta ws vs hD hth hl => ?_
  intro t0 k0 t1 k1 d0 f0
  replace f0 := shm_21 f0
  have nf0 : fc_1 PRD (23, [0, 1], [0, -1, 1]) ws (vs) := by
    refine ⟨nf_in hl rfl, sgq_22 ?_⟩
    · show (-1) * v_iv (n_v vs 0) + (1 * v_iv (n_v vs 1) + 0) ≤ 0
      omega
  have nf1 : fc_1 PRD (23, [1, 1], [0, -1, 1]) ws (vs) := by
    refine ⟨nf_in hl rfl, sgq_23 ?_⟩
    · show (-1) * v_iv (n_v vs 1) + (1 * v_iv (n_v vs 1) + 0) ≤ 0
      omega
  refine ⟨(fun _ h => (by cases h)), [], trivial, ?_, (fun _ h => (by cases h))⟩
  rw [List.append_nil]
  exact List.forall_mem_cons.mpr ⟨⟨show (23 : Nat) < 100 from by decide, nf0⟩, List.forall_mem_cons.mpr ⟨⟨show (23 : Nat) < 100 from by decide, nf1⟩, (fun _ h => (by cases h))⟩⟩
def o_jMath_min1_v237_1 : or_T := (10, 2, [(0, (0, 0, 127, [])), (1, (0, 0, 127, []))], [(7, [0, 1], [5])], [], [], [(23, [0, 0], [0, -1, 1]), (23, [1, 0], [0, -1, 1])], [], [(0, 1, -4294967296, 0)])
theorem oo_jMath_min1_v237_1 {kA : Nat → ClassId} : or_ok PRD kA GG o_jMath_min1_v237_1 := by
  refine or_mk fun A ta ws vs hD hth hl => ?_
  intro t0 k0 t1 k1 d0 f0
  replace f0 := shm_24 f0
  have nf0 : fc_1 PRD (23, [0, 0], [0, -1, 1]) ws (vs) := by
    refine ⟨nf_in hl rfl, sgq_23 ?_⟩
    · show (-1) * v_iv (n_v vs 0) + (1 * v_iv (n_v vs 0) + 0) ≤ 0
      omega
  have nf1 : fc_1 PRD (23, [1, 0], [0, -1, 1]) ws (vs) := by
    refine ⟨nf_in hl rfl, sgq_22 ?_⟩
    · show (-1) * v_iv (n_v vs 1) + (1 * v_iv (n_v vs 0) + 0) ≤ 0
      omega
  refine ⟨(fun _ h => (by cases h)), [], trivial, ?_, (fun _ h => (by cases h))⟩
  rw [List.append_nil]
  exact List.forall_mem_cons.mpr ⟨⟨show (23 : Nat) < 100 from by decide, nf0⟩, List.forall_mem_cons.mpr ⟨⟨show (23 : Nat) < 100 from by decide, nf1⟩, (fun _ h => (by cases h))⟩⟩
def n_jMath_min1_v237_an : List an_T := []
def t_jMath_min1_v237_ct : ct_L := []
set_option maxRecDepth 100000 in
theorem c_jMath_min1_v237 {l : Launch} {D : va_G} {kA : Nat → ClassId} : ct_ok PRD l D kA GG y_jMath_min1 z_jMath_min1 e_jMath_min1_v237 := chk_all_ok (FT := []) (PT := []) (CT := t_jMath_min1_v237_ct) (KT := []) (NT := []) (AN := n_jMath_min1_v237_an) (OT := [o_jMath_min1_v237_0, o_jMath_min1_v237_1]) 0 200 (List.forall_mem_cons.mpr ⟨oo_jMath_min1_v237_0, List.forall_mem_cons.mpr ⟨oo_jMath_min1_v237_1, List.forall_mem_nil _⟩⟩) (pl_Math rfl (by decide)) ⟨List.forall_mem_nil _, List.forall_mem_nil _, List.forall_mem_nil _, List.forall_mem_nil _, List.forall_mem_nil _, GG_pl⟩ (by decide +kernel)
def e_jMath_min1_v238 : en_T := ([(0, 0, 127, []), (0, -736, 381, [])], some (0, -736, 127, []), true, 1, 0, 0, [], [], (0, [], [], [(23, [0, 2], [0, -1, 1]), (23, [1, 2], [0, -1, 1])], []))
def o_jMath_min1_v238_0 : or_T := (10, 2, [(0, (0, 0, 127, [])), (1, (0, -736, 126, []))], [(7, [0, 1], [4])], [], [], [(23, [0, 1], [0, -1, 1]), (23, [1, 1], [0, -1, 1])], [], [(0, 1, 1, 4294967296)])
theorem oo_jMath_min1_v238_0 {kA : Nat → ClassId} : or_ok PRD kA GG o_jMath_min1_v238_0 := by
  refine or_mk fun A ta ws vs hD hth hl => ?_
  intro t0 k0 t1 k1 d0 f0
  replace f0 := shm_21 f0
  have nf0 : fc_1 PRD (23, [0, 1], [0, -1, 1]) ws (vs) := by
    refine ⟨nf_in hl rfl, sgq_22 ?_⟩
    · show (-1) * v_iv (n_v vs 0) + (1 * v_iv (n_v vs 1) + 0) ≤ 0
      omega
  have nf1 : fc_1 PRD (23, [1, 1], [0, -1, 1]) ws (vs) := by
    refine ⟨nf_in hl rfl, sgq_23 ?_⟩
    · show (-1) * v_iv (n_v vs 1) + (1 * v_iv (n_v vs 1) + 0) ≤ 0
      omega
  refine ⟨(fun _ h => (by cases h)), [], trivial, ?_, (fun _ h => (by cases h))⟩
  rw [List.append_nil]
  exact List.forall_mem_cons.mpr ⟨⟨show (23 : Nat) < 100 from by decide, nf0⟩, List.forall_mem_cons.mpr ⟨⟨show (23 : Nat) < 100 from by decide, nf1⟩, (fun _ h => (by cases h))⟩⟩
def o_jMath_min1_v238_1 : or_T := (10, 2, [(0, (0, 0, 127, [])), (1, (0, 0, 381, []))], [(7, [0, 1], [5])], [], [], [(23, [0, 0], [0, -1, 1]), (23, [1, 0], [0, -1, 1])], [], [(0, 1, -4294967296, 0)])
theorem oo_jMath_min1_v238_1 {kA : Nat → ClassId} : or_ok PRD kA GG o_jMath_min1_v238_1 := by
  refine or_mk fun A ta ws vs hD hth hl => ?_
  intro t0 k0 t1 k1 d0 f0
  replace f0 := shm_24 f0
  have nf0 : fc_1 PRD (23, [0, 0], [0, -1, 1]) ws (vs) := by
    refine ⟨nf_in hl rfl, sgq_23 ?_⟩
    · show (-1) * v_iv (n_v vs 0) + (1 * v_iv (n_v vs 0) + 0) ≤ 0
      omega
  have nf1 : fc_1 PRD (23, [1, 0], [0, -1, 1]) ws (vs) := by
    refine ⟨nf_in hl rfl, sgq_22 ?_⟩
    · show (-1) * v_iv (n_v vs 1) + (1 * v_iv (n_v vs 0) + 0) ≤ 0
      omega
  refine ⟨(fun _ h => (by cases h)), [], trivial, ?_, (fun _ h => (by cases h))⟩
  rw [List.append_nil]
  exact List.forall_mem_cons.mpr ⟨⟨show (23 : Nat) < 100 from by decide, nf0⟩, List.forall_mem_cons.mpr ⟨⟨show (23 : Nat) < 100 from by decide, nf1⟩, (fun _ h => (by cases h))⟩⟩
def n_jMath_min1_v238_an : List an_T := []
def t_jMath_min1_v238_ct : ct_L := []
set_option maxRecDepth 100000 in
theorem c_jMath_min1_v238 {l : Launch} {D : va_G} {kA : Nat → ClassId} : ct_ok PRD l D kA GG y_jMath_min1 z_jMath_min1 e_jMath_min1_v238 := chk_all_ok (FT := []) (PT := []) (CT := t_jMath_min1_v238_ct) (KT := []) (NT := []) (AN := n_jMath_min1_v238_an) (OT := [o_jMath_min1_v238_0, o_jMath_min1_v238_1]) 0 200 (List.forall_mem_cons.mpr ⟨oo_jMath_min1_v238_0, List.forall_mem_cons.mpr ⟨oo_jMath_min1_v238_1, List.forall_mem_nil _⟩⟩) (pl_Math rfl (by decide)) ⟨List.forall_mem_nil _, List.forall_mem_nil _, List.forall_mem_nil _, List.forall_mem_nil _, List.forall_mem_nil _, GG_pl⟩ (by decide +kernel)
def e_jMath_max1_v239 : en_T := ([(0, 0, 0, []), (0, -736, 127, [])], some (0, 0, 127, []), true, 1, 0, 0, [], [], (0, [], [], [(23, [0, 2], [0, 1, -1]), (23, [1, 2], [0, 1, -1])], []))
def o_jMath_max1_v239_0 : or_T := (10, 2, [(0, (0, 0, 0, [])), (1, (0, 1, 127, []))], [(7, [0, 1], [2])], [], [], [(23, [0, 1], [0, 1, -1]), (23, [1, 1], [0, 1, -1])], [], [])
theorem oo_jMath_max1_v239_0 {kA : Nat → ClassId} : or_ok PRD kA GG o_jMath_max1_v239_0 := by
  refine or_mk fun A ta ws vs hD hth hl => ?_
  intro t0 k0 t1 k1 f0
  replace f0 := shm_6 f0
  have nf0 : fc_1 PRD (23, [0, 1], [0, 1, -1]) ws (vs) := by
    refine ⟨nf_in hl rfl, sgq_7 ?_⟩
    · show 1 * v_iv (n_v vs 0) + ((-1) * v_iv (n_v vs 1) + 0) ≤ 0
      omega
  have nf1 : fc_1 PRD (23, [1, 1], [0, 1, -1]) ws (vs) := by
    refine ⟨nf_in hl rfl, sgq_8 ?_⟩
    · show 1 * v_iv (n_v vs 1) + ((-1) * v_iv (n_v vs 1) + 0) ≤ 0
      omega
  refine ⟨(fun _ h => (by cases h)), [], trivial, ?_, (fun _ h => (by cases h))⟩
  rw [List.append_nil]
  exact List.forall_mem_cons.mpr ⟨⟨show (23 : Nat) < 100 from by decide, nf0⟩, List.forall_mem_cons.mpr ⟨⟨show (23 : Nat) < 100 from by decide, nf1⟩, (fun _ h => (by cases h))⟩⟩
def o_jMath_max1_v239_1 : or_T := (10, 2, [(0, (0, 0, 0, [])), (1, (0, -736, 0, []))], [(7, [0, 1], [3])], [], [], [(23, [0, 0], [0, 1, -1]), (23, [1, 0], [0, 1, -1])], [], [])
theorem oo_jMath_max1_v239_1 {kA : Nat → ClassId} : or_ok PRD kA GG o_jMath_max1_v239_1 := by
  refine or_mk fun A ta ws vs hD hth hl => ?_
  intro t0 k0 t1 k1 f0
  replace f0 := shm_2 f0
  have nf0 : fc_1 PRD (23, [0, 0], [0, 1, -1]) ws (vs) := by
    refine ⟨nf_in hl rfl, sgq_8 ?_⟩
    · show 1 * v_iv (n_v vs 0) + ((-1) * v_iv (n_v vs 0) + 0) ≤ 0
      omega
  have nf1 : fc_1 PRD (23, [1, 0], [0, 1, -1]) ws (vs) := by
    refine ⟨nf_in hl rfl, sgq_7 ?_⟩
    · show 1 * v_iv (n_v vs 1) + ((-1) * v_iv (n_v vs 0) + 0) ≤ 0
      omega
  refine ⟨(fun _ h => (by cases h)), [], trivial, ?_, (fun _ h => (by cases h))⟩
  rw [List.append_nil]
  exact List.forall_mem_cons.mpr ⟨⟨show (23 : Nat) < 100 from by decide, nf0⟩, List.forall_mem_cons.mpr ⟨⟨show (23 : Nat) < 100 from by decide, nf1⟩, (fun _ h => (by cases h))⟩⟩
def n_jMath_max1_v239_an : List an_T := []
def t_jMath_max1_v239_ct : ct_L := []
set_option maxRecDepth 100000 in
theorem c_jMath_max1_v239 {l : Launch} {D : va_G} {kA : Nat → ClassId} : ct_ok PRD l D kA GG y_jMath_max1 z_jMath_max1 e_jMath_max1_v239 := chk_all_ok (FT := []) (PT := []) (CT := t_jMath_max1_v239_ct) (KT := []) (NT := []) (AN := n_jMath_max1_v239_an) (OT := [o_jMath_max1_v239_0, o_jMath_max1_v239_1]) 0 200 (List.forall_mem_cons.mpr ⟨oo_jMath_max1_v239_0, List.forall_mem_cons.mpr ⟨oo_jMath_max1_v239_1, List.forall_mem_nil _⟩⟩) (pl_Math rfl (by decide)) ⟨List.forall_mem_nil _, List.forall_mem_nil _, List.forall_mem_nil _, List.forall_mem_nil _, List.forall_mem_nil _, GG_pl⟩ (by decide +kernel)
def e_jMath_min1_v240 : en_T := ([(0, -127, 736, []), (0, 0, 127, [])], some (0, -127, 127, []), true, 1, 0, 0, [], [], (0, [], [], [(23, [0, 2], [0, -1, 1]), (23, [1, 2], [0, -1, 1])], []))
def o_jMath_min1_v240_0 : or_T := (10, 2, [(0, (0, 1, 736, [])), (1, (0, 0, 127, []))], [(7, [0, 1], [4])], [], [], [(23, [0, 1], [0, -1, 1]), (23, [1, 1], [0, -1, 1])], [], [(0, 1, 1, 4294967296)])
theorem oo_jMath_min1_v240_0 {kA : Nat → ClassId} : or_ok PRD kA GG o_jMath_min1_v240_0 := by
  refine or_mk fun A ta ws vs hD hth hl => ?_
  intro t0 k0 t1 k1 d0 f0
  replace f0 := shm_21 f0
  have nf0 : fc_1 PRD (23, [0, 1], [0, -1, 1]) ws (vs) := by
    refine ⟨nf_in hl rfl, sgq_22 ?_⟩
    · show (-1) * v_iv (n_v vs 0) + (1 * v_iv (n_v vs 1) + 0) ≤ 0
      omega
  have nf1 : fc_1 PRD (23, [1, 1], [0, -1, 1]) ws (vs) := by
    refine ⟨nf_in hl rfl, sgq_23 ?_⟩
    · show (-1) * v_iv (n_v vs 1) + (1 * v_iv (n_v vs 1) + 0) ≤ 0
      omega
  refine ⟨(fun _ h => (by cases h)), [], trivial, ?_, (fun _ h => (by cases h))⟩
  rw [List.append_nil]
  exact List.forall_mem_cons.mpr ⟨⟨show (23 : Nat) < 100 from by decide, nf0⟩, List.forall_mem_cons.mpr ⟨⟨show (23 : Nat) < 100 from by decide, nf1⟩, (fun _ h => (by cases h))⟩⟩
def o_jMath_min1_v240_1 : or_T := (10, 2, [(0, (0, -127, 127, [])), (1, (0, 0, 127, []))], [(7, [0, 1], [5])], [], [], [(23, [0, 0], [0, -1, 1]), (23, [1, 0], [0, -1, 1])], [], [(0, 1, -4294967296, 0)])
theorem oo_jMath_min1_v240_1 {kA : Nat → ClassId} : or_ok PRD kA GG o_jMath_min1_v240_1 := by
  refine or_mk fun A ta ws vs hD hth hl => ?_
  intro t0 k0 t1 k1 d0 f0
  replace f0 := shm_24 f0
  have nf0 : fc_1 PRD (23, [0, 0], [0, -1, 1]) ws (vs) := by
    refine ⟨nf_in hl rfl, sgq_23 ?_⟩
    · show (-1) * v_iv (n_v vs 0) + (1 * v_iv (n_v vs 0) + 0) ≤ 0
      omega
  have nf1 : fc_1 PRD (23, [1, 0], [0, -1, 1]) ws (vs) := by
    refine ⟨nf_in hl rfl, sgq_22 ?_⟩
    · show (-1) * v_iv (n_v vs 1) + (1 * v_iv (n_v vs 0) + 0) ≤ 0
      omega
  refine ⟨(fun _ h => (by cases h)), [], trivial, ?_, (fun _ h => (by cases h))⟩
  rw [List.append_nil]
  exact List.forall_mem_cons.mpr ⟨⟨show (23 : Nat) < 100 from by decide, nf0⟩, List.forall_mem_cons.mpr ⟨⟨show (23 : Nat) < 100 from by decide, nf1⟩, (fun _ h => (by cases h))⟩⟩
def n_jMath_min1_v240_an : List an_T := []
def t_jMath_min1_v240_ct : ct_L := []
set_option maxRecDepth 100000 in
theorem c_jMath_min1_v240 {l : Launch} {D : va_G} {kA : Nat → ClassId} : ct_ok PRD l D kA GG y_jMath_min1 z_jMath_min1 e_jMath_min1_v240 := chk_all_ok (FT := []) (PT := []) (CT := t_jMath_min1_v240_ct) (KT := []) (NT := []) (AN := n_jMath_min1_v240_an) (OT := [o_jMath_min1_v240_0, o_jMath_min1_v240_1]) 0 200 (List.forall_mem_cons.mpr ⟨oo_jMath_min1_v240_0, List.forall_mem_cons.mpr ⟨oo_jMath_min1_v240_1, List.forall_mem_nil _⟩⟩) (pl_Math rfl (by decide)) ⟨List.forall_mem_nil _, List.forall_mem_nil _, List.forall_mem_nil _, List.forall_mem_nil _, List.forall_mem_nil _, GG_pl⟩ (by decide +kernel)
def e_jMath_min1_v241 : en_T := ([(0, -127, 127, []), (0, -736, 508, [])], some (0, -736, 127, []), true, 1, 0, 0, [], [], (0, [], [], [(23, [0, 2], [0, -1, 1]), (23, [1, 2], [0, -1, 1])], []))
def o_jMath_min1_v241_0 : or_T := (10, 2, [(0, (0, -127, 127, [])), (1, (0, -736, 126, []))], [(7, [0, 1], [4])], [], [], [(23, [0, 1], [0, -1, 1]), (23, [1, 1], [0, -1, 1])], [], [(0, 1, 1, 4294967296)])
theorem oo_jMath_min1_v241_0 {kA : Nat → ClassId} : or_ok PRD kA GG o_jMath_min1_v241_0 := by
  refine or_mk fun A ta ws vs hD hth hl => ?_
  intro t0 k0 t1 k1 d0 f0
  replace f0 := shm_21 f0
  have nf0 : fc_1 PRD (23, [0, 1], [0, -1, 1]) ws (vs) := by
    refine ⟨nf_in hl rfl, sgq_22 ?_⟩
    · show (-1) * v_iv (n_v vs 0) + (1 * v_iv (n_v vs 1) + 0) ≤ 0
      omega
  have nf1 : fc_1 PRD (23, [1, 1], [0, -1, 1]) ws (vs) := by
    refine ⟨nf_in hl rfl, sgq_23 ?_⟩
    · show (-1) * v_iv (n_v vs 1) + (1 * v_iv (n_v vs 1) + 0) ≤ 0
      omega
  refine ⟨(fun _ h => (by cases h)), [], trivial, ?_, (fun _ h => (by cases h))⟩
  rw [List.append_nil]
  exact List.forall_mem_cons.mpr ⟨⟨show (23 : Nat) < 100 from by decide, nf0⟩, List.forall_mem_cons.mpr ⟨⟨show (23 : Nat) < 100 from by decide, nf1⟩, (fun _ h => (by cases h))⟩⟩
def o_jMath_min1_v241_1 : or_T := (10, 2, [(0, (0, -127, 127, [])), (1, (0, -127, 508, []))], [(7, [0, 1], [5])], [], [], [(23, [0, 0], [0, -1, 1]), (23, [1, 0], [0, -1, 1])], [], [(0, 1, -4294967296, 0)])
theorem oo_jMath_min1_v241_1 {kA : Nat → ClassId} : or_ok PRD kA GG o_jMath_min1_v241_1 := by
  refine or_mk fun A ta ws vs hD hth hl => ?_
  intro t0 k0 t1 k1 d0 f0
  replace f0 := shm_24 f0
  have nf0 : fc_1 PRD (23, [0, 0], [0, -1, 1]) ws (vs) := by
    refine ⟨nf_in hl rfl, sgq_23 ?_⟩
    · show (-1) * v_iv (n_v vs 0) + (1 * v_iv (n_v vs 0) + 0) ≤ 0
      omega
  have nf1 : fc_1 PRD (23, [1, 0], [0, -1, 1]) ws (vs) := by
    refine ⟨nf_in hl rfl, sgq_22 ?_⟩
    · show (-1) * v_iv (n_v vs 1) + (1 * v_iv (n_v vs 0) + 0) ≤ 0
      omega
  refine ⟨(fun _ h => (by cases h)), [], trivial, ?_, (fun _ h => (by cases h))⟩
  rw [List.append_nil]
  exact List.forall_mem_cons.mpr ⟨⟨show (23 : Nat) < 100 from by decide, nf0⟩, List.forall_mem_cons.mpr ⟨⟨show (23 : Nat) < 100 from by decide, nf1⟩, (fun _ h => (by cases h))⟩⟩
def n_jMath_min1_v241_an : List an_T := []
def t_jMath_min1_v241_ct : ct_L := []
set_option maxRecDepth 100000 in
theorem c_jMath_min1_v241 {l : Launch} {D : va_G} {kA : Nat → ClassId} : ct_ok PRD l D kA GG y_jMath_min1 z_jMath_min1 e_jMath_min1_v241 := chk_all_ok (FT := []) (PT := []) (CT := t_jMath_min1_v241_ct) (KT := []) (NT := []) (AN := n_jMath_min1_v241_an) (OT := [o_jMath_min1_v241_0, o_jMath_min1_v241_1]) 0 200 (List.forall_mem_cons.mpr ⟨oo_jMath_min1_v241_0, List.forall_mem_cons.mpr ⟨oo_jMath_min1_v241_1, List.forall_mem_nil _⟩⟩) (pl_Math rfl (by decide)) ⟨List.forall_mem_nil _, List.forall_mem_nil _, List.forall_mem_nil _, List.forall_mem_nil _, List.forall_mem_nil _, GG_pl⟩ (by decide +kernel)
def e_jMath_min1_v242 : en_T := ([(0, 0, 736, []), (0, 0, 128, [])], some (0, 0, 128, []), true, 1, 0, 0, [], [], (0, [], [], [(23, [0, 2], [0, -1, 1]), (23, [1, 2], [0, -1, 1])], []))
def o_jMath_min1_v242_0 : or_T := (10, 2, [(0, (0, 1, 736, [])), (1, (0, 0, 128, []))], [(7, [0, 1], [4])], [], [], [(23, [0, 1], [0, -1, 1]), (23, [1, 1], [0, -1, 1])], [], [(0, 1, 1, 4294967296)])
theorem oo_jMath_min1_v242_0 {kA : Nat → ClassId} : or_ok PRD kA GG o_jMath_min1_v242_0 := by
  refine or_mk fun A ta ws vs hD hth hl => ?_
  intro t0 k0 t1 k1 d0 f0
  replace f0 := shm_21 f0
  have nf0 : fc_1 PRD (23, [0, 1], [0, -1, 1]) ws (vs) := by
    refine ⟨nf_in hl rfl, sgq_22 ?_⟩
    · show (-1) * v_iv (n_v vs 0) + (1 * v_iv (n_v vs 1) + 0) ≤ 0
      omega
  have nf1 : fc_1 PRD (23, [1, 1], [0, -1, 1]) ws (vs) := by
    refine ⟨nf_in hl rfl, sgq_23 ?_⟩
    · show (-1) * v_iv (n_v vs 1) + (1 * v_iv (n_v vs 1) + 0) ≤ 0
      omega
  refine ⟨(fun _ h => (by cases h)), [], trivial, ?_, (fun _ h => (by cases h))⟩
  rw [List.append_nil]
  exact List.forall_mem_cons.mpr ⟨⟨show (23 : Nat) < 100 from by decide, nf0⟩, List.forall_mem_cons.mpr ⟨⟨show (23 : Nat) < 100 from by decide, nf1⟩, (fun _ h => (by cases h))⟩⟩
def o_jMath_min1_v242_1 : or_T := (10, 2, [(0, (0, 0, 128, [])), (1, (0, 0, 128, []))], [(7, [0, 1], [5])], [], [], [(23, [0, 0], [0, -1, 1]), (23, [1, 0], [0, -1, 1])], [], [(0, 1, -4294967296, 0)])
theorem oo_jMath_min1_v242_1 {kA : Nat → ClassId} : or_ok PRD kA GG o_jMath_min1_v242_1 := by
  refine or_mk fun A ta ws vs hD hth hl => ?_
  intro t0 k0 t1 k1 d0 f0
  replace f0 := shm_24 f0
  have nf0 : fc_1 PRD (23, [0, 0], [0, -1, 1]) ws (vs) := by
    refine ⟨nf_in hl rfl, sgq_23 ?_⟩
    · show (-1) * v_iv (n_v vs 0) + (1 * v_iv (n_v vs 0) + 0) ≤ 0
      omega
  have nf1 : fc_1 PRD (23, [1, 0], [0, -1, 1]) ws (vs) := by
    refine ⟨nf_in hl rfl, sgq_22 ?_⟩
    · show (-1) * v_iv (n_v vs 1) + (1 * v_iv (n_v vs 0) + 0) ≤ 0
      omega
  refine ⟨(fun _ h => (by cases h)), [], trivial, ?_, (fun _ h => (by cases h))⟩
  rw [List.append_nil]
  exact List.forall_mem_cons.mpr ⟨⟨show (23 : Nat) < 100 from by decide, nf0⟩, List.forall_mem_cons.mpr ⟨⟨show (23 : Nat) < 100 from by decide, nf1⟩, (fun _ h => (by cases h))⟩⟩
def n_jMath_min1_v242_an : List an_T := []
def t_jMath_min1_v242_ct : ct_L := []
set_option maxRecDepth 100000 in
theorem c_jMath_min1_v242 {l : Launch} {D : va_G} {kA : Nat → ClassId} : ct_ok PRD l D kA GG y_jMath_min1 z_jMath_min1 e_jMath_min1_v242 := chk_all_ok (FT := []) (PT := []) (CT := t_jMath_min1_v242_ct) (KT := []) (NT := []) (AN := n_jMath_min1_v242_an) (OT := [o_jMath_min1_v242_0, o_jMath_min1_v242_1]) 0 200 (List.forall_mem_cons.mpr ⟨oo_jMath_min1_v242_0, List.forall_mem_cons.mpr ⟨oo_jMath_min1_v242_1, List.forall_mem_nil _⟩⟩) (pl_Math rfl (by decide)) ⟨List.forall_mem_nil _, List.forall_mem_nil _, List.forall_mem_nil _, List.forall_mem_nil _, List.forall_mem_nil _, GG_pl⟩ (by decide +kernel)
def e_jMath_min1_v243 : en_T := ([(0, 0, 128, []), (0, -736, 384, [])], some (0, -736, 128, []), true, 1, 0, 0, [], [], (0, [], [], [(23, [0, 2], [0, -1, 1]), (23, [1, 2], [0, -1, 1])], []))
def o_jMath_min1_v243_0 : or_T := (10, 2, [(0, (0, 0, 128, [])), (1, (0, -736, 127, []))], [(7, [0, 1], [4])], [], [], [(23, [0, 1], [0, -1, 1]), (23, [1, 1], [0, -1, 1])], [], [(0, 1, 1, 4294967296)])
theorem oo_jMath_min1_v243_0 {kA : Nat → ClassId} : or_ok PRD kA GG o_jMath_min1_v243_0 := by
  refine or_mk fun A ta ws vs hD hth hl => ?_
  intro t0 k0 t1 k1 d0 f0
  replace f0 := shm_21 f0
  have nf0 : fc_1 PRD (23, [0, 1], [0, -1, 1]) ws (vs) := by
    refine ⟨nf_in hl rfl, sgq_22 ?_⟩
    · show (-1) * v_iv (n_v vs 0) + (1 * v_iv (n_v vs 1) + 0) ≤ 0
      omega
  have nf1 : fc_1 PRD (23, [1, 1], [0, -1, 1]) ws (vs) := by
    refine ⟨nf_in hl rfl, sgq_23 ?_⟩
    · show (-1) * v_iv (n_v vs 1) + (1 * v_iv (n_v vs 1) + 0) ≤ 0
      omega
  refine ⟨(fun _ h => (by cases h)), [], trivial, ?_, (fun _ h => (by cases h))⟩
  rw [List.append_nil]
  exact List.forall_mem_cons.mpr ⟨⟨show (23 : Nat) < 100 from by decide, nf0⟩, List.forall_mem_cons.mpr ⟨⟨show (23 : Nat) < 100 from by decide, nf1⟩, (fun _ h => (by cases h))⟩⟩
def o_jMath_min1_v243_1 : or_T := (10, 2, [(0, (0, 0, 128, [])), (1, (0, 0, 384, []))], [(7, [0, 1], [5])], [], [], [(23, [0, 0], [0, -1, 1]), (23, [1, 0], [0, -1, 1])], [], [(0, 1, -4294967296, 0)])
theorem oo_jMath_min1_v243_1 {kA : Nat → ClassId} : or_ok PRD kA GG o_jMath_min1_v243_1 := by
  refine or_mk fun A ta ws vs hD hth hl => ?_
  intro t0 k0 t1 k1 d0 f0
  replace f0 := shm_24 f0
  have nf0 : fc_1 PRD (23, [0, 0], [0, -1, 1]) ws (vs) := by
    refine ⟨nf_in hl rfl, sgq_23 ?_⟩
    · show (-1) * v_iv (n_v vs 0) + (1 * v_iv (n_v vs 0) + 0) ≤ 0
      omega
  have nf1 : fc_1 PRD (23, [1, 0], [0, -1, 1]) ws (vs) := by
    refine ⟨nf_in hl rfl, sgq_22 ?_⟩
    · show (-1) * v_iv (n_v vs 1) + (1 * v_iv (n_v vs 0) + 0) ≤ 0
      omega
  refine ⟨(fun _ h => (by cases h)), [], trivial, ?_, (fun _ h => (by cases h))⟩
  rw [List.append_nil]
  exact List.forall_mem_cons.mpr ⟨⟨show (23 : Nat) < 100 from by decide, nf0⟩, List.forall_mem_cons.mpr ⟨⟨show (23 : Nat) < 100 from by decide, nf1⟩, (fun _ h => (by cases h))⟩⟩
def n_jMath_min1_v243_an : List an_T := []
def t_jMath_min1_v243_ct : ct_L := []
set_option maxRecDepth 100000 in
theorem c_jMath_min1_v243 {l : Launch} {D : va_G} {kA : Nat → ClassId} : ct_ok PRD l D kA GG y_jMath_min1 z_jMath_min1 e_jMath_min1_v243 := chk_all_ok (FT := []) (PT := []) (CT := t_jMath_min1_v243_ct) (KT := []) (NT := []) (AN := n_jMath_min1_v243_an) (OT := [o_jMath_min1_v243_0, o_jMath_min1_v243_1]) 0 200 (List.forall_mem_cons.mpr ⟨oo_jMath_min1_v243_0, List.forall_mem_cons.mpr ⟨oo_jMath_min1_v243_1, List.forall_mem_nil _⟩⟩) (pl_Math rfl (by decide)) ⟨List.forall_mem_nil _, List.forall_mem_nil _, List.forall_mem_nil _, List.forall_mem_nil _, List.forall_mem_nil _, GG_pl⟩ (by decide +kernel)
def e_jMath_max1_v244 : en_T := ([(0, 0, 0, []), (0, -736, 128, [])], some (0, 0, 128, []), true, 1, 0, 0, [], [], (0, [], [], [(23, [0, 2], [0, 1, -1]), (23, [1, 2], [0, 1, -1])], []))
def o_jMath_max1_v244_0 : or_T := (10, 2, [(0, (0, 0, 0, [])), (1, (0, 1, 128, []))], [(7, [0, 1], [2])], [], [], [(23, [0, 1], [0, 1, -1]), (23, [1, 1], [0, 1, -1])], [], [])
theorem oo_jMath_max1_v244_0 {kA : Nat → ClassId} : or_ok PRD kA GG o_jMath_max1_v244_0 := by
  refine or_mk fun A ta ws vs hD hth hl => ?_
  intro t0 k0 t1 k1 f0
  replace f0 := shm_6 f0
  have nf0 : fc_1 PRD (23, [0, 1], [0, 1, -1]) ws (vs) := by
    refine ⟨nf_in hl rfl, sgq_7 ?_⟩
    · show 1 * v_iv (n_v vs 0) + ((-1) * v_iv (n_v vs 1) + 0) ≤ 0
      omega
  have nf1 : fc_1 PRD (23, [1, 1], [0, 1, -1]) ws (vs) := by
    refine ⟨nf_in hl rfl, sgq_8 ?_⟩
    · show 1 * v_iv (n_v vs 1) + ((-1) * v_iv (n_v vs 1) + 0) ≤ 0
      omega
  refine ⟨(fun _ h => (by cases h)), [], trivial, ?_, (fun _ h => (by cases h))⟩
  rw [List.append_nil]
  exact List.forall_mem_cons.mpr ⟨⟨show (23 : Nat) < 100 from by decide, nf0⟩, List.forall_mem_cons.mpr ⟨⟨show (23 : Nat) < 100 from by decide, nf1⟩, (fun _ h => (by cases h))⟩⟩
def o_jMath_max1_v244_1 : or_T := (10, 2, [(0, (0, 0, 0, [])), (1, (0, -736, 0, []))], [(7, [0, 1], [3])], [], [], [(23, [0, 0], [0, 1, -1]), (23, [1, 0], [0, 1, -1])], [], [])
theorem oo_jMath_max1_v244_1 {kA : Nat → ClassId} : or_ok PRD kA GG o_jMath_max1_v244_1 := by
  refine or_mk fun A ta ws vs hD hth hl => ?_
  intro t0 k0 t1 k1 f0
  replace f0 := shm_2 f0
  have nf0 : fc_1 PRD (23, [0, 0], [0, 1, -1]) ws (vs) := by
    refine ⟨nf_in hl rfl, sgq_8 ?_⟩
    · show 1 * v_iv (n_v vs 0) + ((-1) * v_iv (n_v vs 0) + 0) ≤ 0
      omega
  have nf1 : fc_1 PRD (23, [1, 0], [0, 1, -1]) ws (vs) := by
    refine ⟨nf_in hl rfl, sgq_7 ?_⟩
    · show 1 * v_iv (n_v vs 1) + ((-1) * v_iv (n_v vs 0) + 0) ≤ 0
      omega
  refine ⟨(fun _ h => (by cases h)), [], trivial, ?_, (fun _ h => (by cases h))⟩
  rw [List.append_nil]
  exact List.forall_mem_cons.mpr ⟨⟨show (23 : Nat) < 100 from by decide, nf0⟩, List.forall_mem_cons.mpr ⟨⟨show (23 : Nat) < 100 from by decide, nf1⟩, (fun _ h => (by cases h))⟩⟩
def n_jMath_max1_v244_an : List an_T := []
def t_jMath_max1_v244_ct : ct_L := []
set_option maxRecDepth 100000 in
theorem c_jMath_max1_v244 {l : Launch} {D : va_G} {kA : Nat → ClassId} : ct_ok PRD l D kA GG y_jMath_max1 z_jMath_max1 e_jMath_max1_v244 := chk_all_ok (FT := []) (PT := []) (CT := t_jMath_max1_v244_ct) (KT := []) (NT := []) (AN := n_jMath_max1_v244_an) (OT := [o_jMath_max1_v244_0, o_jMath_max1_v244_1]) 0 200 (List.forall_mem_cons.mpr ⟨oo_jMath_max1_v244_0, List.forall_mem_cons.mpr ⟨oo_jMath_max1_v244_1, List.forall_mem_nil _⟩⟩) (pl_Math rfl (by decide)) ⟨List.forall_mem_nil _, List.forall_mem_nil _, List.forall_mem_nil _, List.forall_mem_nil _, List.forall_mem_nil _, GG_pl⟩ (by decide +kernel)
def e_jMath_min1_v245 : en_T := ([(0, -128, 736, []), (0, 0, 128, [])], some (0, -128, 128, []), true, 1, 0, 0, [], [], (0, [], [], [(23, [0, 2], [0, -1, 1]), (23, [1, 2], [0, -1, 1])], []))
def o_jMath_min1_v245_0 : or_T := (10, 2, [(0, (0, 1, 736, [])), (1, (0, 0, 128, []))], [(7, [0, 1], [4])], [], [], [(23, [0, 1], [0, -1, 1]), (23, [1, 1], [0, -1, 1])], [], [(0, 1, 1, 4294967296)])
theorem oo_jMath_min1_v245_0 {kA : Nat → ClassId} : or_ok PRD kA GG o_jMath_min1_v245_0 := by
  refine or_mk fun A ta ws vs hD hth hl => ?_
  intro t0 k0 t1 k1 d0 f0
  replace f0 := shm_21 f0
  have nf0 : fc_1 PRD (23, [0, 1], [0, -1, 1]) ws (vs) := by
    refine ⟨nf_in hl rfl, sgq_22 ?_⟩
    · show (-1) * v_iv (n_v vs 0) + (1 * v_iv (n_v vs 1) + 0) ≤ 0
      omega
  have nf1 : fc_1 PRD (23, [1, 1], [0, -1, 1]) ws (vs) := by
    refine ⟨nf_in hl rfl, sgq_23 ?_⟩
    · show (-1) * v_iv (n_v vs 1) + (1 * v_iv (n_v vs 1) + 0) ≤ 0
      omega
  refine ⟨(fun _ h => (by cases h)), [], trivial, ?_, (fun _ h => (by cases h))⟩
  rw [List.append_nil]
  exact List.forall_mem_cons.mpr ⟨⟨show (23 : Nat) < 100 from by decide, nf0⟩, List.forall_mem_cons.mpr ⟨⟨show (23 : Nat) < 100 from by decide, nf1⟩, (fun _ h => (by cases h))⟩⟩
def o_jMath_min1_v245_1 : or_T := (10, 2, [(0, (0, -128, 128, [])), (1, (0, 0, 128, []))], [(7, [0, 1], [5])], [], [], [(23, [0, 0], [0, -1, 1]), (23, [1, 0], [0, -1, 1])], [], [(0, 1, -4294967296, 0)])
theorem oo_jMath_min1_v245_1 {kA : Nat → ClassId} : or_ok PRD kA GG o_jMath_min1_v245_1 := by
  refine or_mk fun A ta ws vs hD hth hl => ?_
  intro t0 k0 t1 k1 d0 f0
  replace f0 := shm_24 f0
  have nf0 : fc_1 PRD (23, [0, 0], [0, -1, 1]) ws (vs) := by
    refine ⟨nf_in hl rfl, sgq_23 ?_⟩
    · show (-1) * v_iv (n_v vs 0) + (1 * v_iv (n_v vs 0) + 0) ≤ 0
      omega
  have nf1 : fc_1 PRD (23, [1, 0], [0, -1, 1]) ws (vs) := by
    refine ⟨nf_in hl rfl, sgq_22 ?_⟩
    · show (-1) * v_iv (n_v vs 1) + (1 * v_iv (n_v vs 0) + 0) ≤ 0
      omega
  refine ⟨(fun _ h => (by cases h)), [], trivial, ?_, (fun _ h => (by cases h))⟩
  rw [List.append_nil]
  exact List.forall_mem_cons.mpr ⟨⟨show (23 : Nat) < 100 from by decide, nf0⟩, List.forall_mem_cons.mpr ⟨⟨show (23 : Nat) < 100 from by decide, nf1⟩, (fun _ h => (by cases h))⟩⟩
def n_jMath_min1_v245_an : List an_T := []
def t_jMath_min1_v245_ct : ct_L := []
set_option maxRecDepth 100000 in
theorem c_jMath_min1_v245 {l : Launch} {D : va_G} {kA : Nat → ClassId} : ct_ok PRD l D kA GG y_jMath_min1 z_jMath_min1 e_jMath_min1_v245 := chk_all_ok (FT := []) (PT := []) (CT := t_jMath_min1_v245_ct) (KT := []) (NT := []) (AN := n_jMath_min1_v245_an) (OT := [o_jMath_min1_v245_0, o_jMath_min1_v245_1]) 0 200 (List.forall_mem_cons.mpr ⟨oo_jMath_min1_v245_0, List.forall_mem_cons.mpr ⟨oo_jMath_min1_v245_1, List.forall_mem_nil _⟩⟩) (pl_Math rfl (by decide)) ⟨List.forall_mem_nil _, List.forall_mem_nil _, List.forall_mem_nil _, List.forall_mem_nil _, List.forall_mem_nil _, GG_pl⟩ (by decide +kernel)
def e_jMath_min1_v246 : en_T := ([(0, -128, 128, []), (0, -736, 512, [])], some (0, -736, 128, []), true, 1, 0, 0, [], [], (0, [], [], [(23, [0, 2], [0, -1, 1]), (23, [1, 2], [0, -1, 1])], []))
def o_jMath_min1_v246_0 : or_T := (10, 2, [(0, (0, -128, 128, [])), (1, (0, -736, 127, []))], [(7, [0, 1], [4])], [], [], [(23, [0, 1], [0, -1, 1]), (23, [1, 1], [0, -1, 1])], [], [(0, 1, 1, 4294967296)])
theorem oo_jMath_min1_v246_0 {kA : Nat → ClassId} : or_ok PRD kA GG o_jMath_min1_v246_0 := by
  refine or_mk fun A ta ws vs hD hth hl => ?_
  intro t0 k0 t1 k1 d0 f0
  replace f0 := shm_21 f0
  have nf0 : fc_1 PRD (23, [0, 1], [0, -1, 1]) ws (vs) := by
    refine ⟨nf_in hl rfl, sgq_22 ?_⟩
    · show (-1) * v_iv (n_v vs 0) + (1 * v_iv (n_v vs 1) + 0) ≤ 0
      omega
  have nf1 : fc_1 PRD (23, [1, 1], [0, -1, 1]) ws (vs) := by
    refine ⟨nf_in hl rfl, sgq_23 ?_⟩
    · show (-1) * v_iv (n_v vs 1) + (1 * v_iv (n_v vs 1) + 0) ≤ 0
      omega
  refine ⟨(fun _ h => (by cases h)), [], trivial, ?_, (fun _ h => (by cases h))⟩
  rw [List.append_nil]
  exact List.forall_mem_cons.mpr ⟨⟨show (23 : Nat) < 100 from by decide, nf0⟩, List.forall_mem_cons.mpr ⟨⟨show (23 : Nat) < 100 from by decide, nf1⟩, (fun _ h => (by cases h))⟩⟩
def o_jMath_min1_v246_1 : or_T := (10, 2, [(0, (0, -128, 128, [])), (1, (0, -128, 512, []))], [(7, [0, 1], [5])], [], [], [(23, [0, 0], [0, -1, 1]), (23, [1, 0], [0, -1, 1])], [], [(0, 1, -4294967296, 0)])
theorem oo_jMath_min1_v246_1 {kA : Nat → ClassId} : or_ok PRD kA GG o_jMath_min1_v246_1 := by
  refine or_mk fun A ta ws vs hD hth hl => ?_
  intro t0 k0 t1 k1 d0 f0
  replace f0 := shm_24 f0
  have nf0 : fc_1 PRD (23, [0, 0], [0, -1, 1]) ws (vs) := by
    refine ⟨nf_in hl rfl, sgq_23 ?_⟩
    · show (-1) * v_iv (n_v vs 0) + (1 * v_iv (n_v vs 0) + 0) ≤ 0
      omega
  have nf1 : fc_1 PRD (23, [1, 0], [0, -1, 1]) ws (vs) := by
    refine ⟨nf_in hl rfl, sgq_22 ?_⟩
    · show (-1) * v_iv (n_v vs 1) + (1 * v_iv (n_v vs 0) + 0) ≤ 0
      omega
  refine ⟨(fun _ h => (by cases h)), [], trivial, ?_, (fun _ h => (by cases h))⟩
  rw [List.append_nil]
  exact List.forall_mem_cons.mpr ⟨⟨show (23 : Nat) < 100 from by decide, nf0⟩, List.forall_mem_cons.mpr ⟨⟨show (23 : Nat) < 100 from by decide, nf1⟩, (fun _ h => (by cases h))⟩⟩
def n_jMath_min1_v246_an : List an_T := []
def t_jMath_min1_v246_ct : ct_L := []
set_option maxRecDepth 100000 in
theorem c_jMath_min1_v246 {l : Launch} {D : va_G} {kA : Nat → ClassId} : ct_ok PRD l D kA GG y_jMath_min1 z_jMath_min1 e_jMath_min1_v246 := chk_all_ok (FT := []) (PT := []) (CT := t_jMath_min1_v246_ct) (KT := []) (NT := []) (AN := n_jMath_min1_v246_an) (OT := [o_jMath_min1_v246_0, o_jMath_min1_v246_1]) 0 200 (List.forall_mem_cons.mpr ⟨oo_jMath_min1_v246_0, List.forall_mem_cons.mpr ⟨oo_jMath_min1_v246_1, List.forall_mem_nil _⟩⟩) (pl_Math rfl (by decide)) ⟨List.forall_mem_nil _, List.forall_mem_nil _, List.forall_mem_nil _, List.forall_mem_nil _, List.forall_mem_nil _, GG_pl⟩ (by decide +kernel)
def e_jMath_min1_v247 : en_T := ([(0, 0, 736, []), (0, 0, 255, [])], some (0, 0, 255, []), true, 1, 0, 0, [], [], (0, [], [], [(23, [0, 2], [0, -1, 1]), (23, [1, 2], [0, -1, 1])], []))
def o_jMath_min1_v247_0 : or_T := (10, 2, [(0, (0, 1, 736, [])), (1, (0, 0, 255, []))], [(7, [0, 1], [4])], [], [], [(23, [0, 1], [0, -1, 1]), (23, [1, 1], [0, -1, 1])], [], [(0, 1, 1, 4294967296)])
theorem oo_jMath_min1_v247_0 {kA : Nat → ClassId} : or_ok PRD kA GG o_jMath_min1_v247_0 := by
  refine or_mk fun A ta ws vs hD hth hl => ?_
  intro t0 k0 t1 k1 d0 f0
  replace f0 := shm_21 f0
  have nf0 : fc_1 PRD (23, [0, 1], [0, -1, 1]) ws (vs) := by
    refine ⟨nf_in hl rfl, sgq_22 ?_⟩
    · show (-1) * v_iv (n_v vs 0) + (1 * v_iv (n_v vs 1) + 0) ≤ 0
      omega
  have nf1 : fc_1 PRD (23, [1, 1], [0, -1, 1]) ws (vs) := by
    refine ⟨nf_in hl rfl, sgq_23 ?_⟩
    · show (-1) * v_iv (n_v vs 1) + (1 * v_iv (n_v vs 1) + 0) ≤ 0
      omega
  refine ⟨(fun _ h => (by cases h)), [], trivial, ?_, (fun _ h => (by cases h))⟩
  rw [List.append_nil]
  exact List.forall_mem_cons.mpr ⟨⟨show (23 : Nat) < 100 from by decide, nf0⟩, List.forall_mem_cons.mpr ⟨⟨show (23 : Nat) < 100 from by decide, nf1⟩, (fun _ h => (by cases h))⟩⟩
def o_jMath_min1_v247_1 : or_T := (10, 2, [(0, (0, 0, 255, [])), (1, (0, 0, 255, []))], [(7, [0, 1], [5])], [], [], [(23, [0, 0], [0, -1, 1]), (23, [1, 0], [0, -1, 1])], [], [(0, 1, -4294967296, 0)])
theorem oo_jMath_min1_v247_1 {kA : Nat → ClassId} : or_ok PRD kA GG o_jMath_min1_v247_1 := by
  refine or_mk fun A ta ws vs hD hth hl => ?_
  intro t0 k0 t1 k1 d0 f0
  replace f0 := shm_24 f0
  have nf0 : fc_1 PRD (23, [0, 0], [0, -1, 1]) ws (vs) := by
    refine ⟨nf_in hl rfl, sgq_23 ?_⟩
    · show (-1) * v_iv (n_v vs 0) + (1 * v_iv (n_v vs 0) + 0) ≤ 0
      omega
  have nf1 : fc_1 PRD (23, [1, 0], [0, -1, 1]) ws (vs) := by
    refine ⟨nf_in hl rfl, sgq_22 ?_⟩
    · show (-1) * v_iv (n_v vs 1) + (1 * v_iv (n_v vs 0) + 0) ≤ 0
      omega
  refine ⟨(fun _ h => (by cases h)), [], trivial, ?_, (fun _ h => (by cases h))⟩
  rw [List.append_nil]
  exact List.forall_mem_cons.mpr ⟨⟨show (23 : Nat) < 100 from by decide, nf0⟩, List.forall_mem_cons.mpr ⟨⟨show (23 : Nat) < 100 from by decide, nf1⟩, (fun _ h => (by cases h))⟩⟩
def n_jMath_min1_v247_an : List an_T := []
def t_jMath_min1_v247_ct : ct_L := []
set_option maxRecDepth 100000 in
theorem c_jMath_min1_v247 {l : Launch} {D : va_G} {kA : Nat → ClassId} : ct_ok PRD l D kA GG y_jMath_min1 z_jMath_min1 e_jMath_min1_v247 := chk_all_ok (FT := []) (PT := []) (CT := t_jMath_min1_v247_ct) (KT := []) (NT := []) (AN := n_jMath_min1_v247_an) (OT := [o_jMath_min1_v247_0, o_jMath_min1_v247_1]) 0 200 (List.forall_mem_cons.mpr ⟨oo_jMath_min1_v247_0, List.forall_mem_cons.mpr ⟨oo_jMath_min1_v247_1, List.forall_mem_nil _⟩⟩) (pl_Math rfl (by decide)) ⟨List.forall_mem_nil _, List.forall_mem_nil _, List.forall_mem_nil _, List.forall_mem_nil _, List.forall_mem_nil _, GG_pl⟩ (by decide +kernel)
def e_jMath_min1_v248 : en_T := ([(0, 0, 255, []), (0, -736, 765, [])], some (0, -736, 255, []), true, 1, 0, 0, [], [], (0, [], [], [(23, [0, 2], [0, -1, 1]), (23, [1, 2], [0, -1, 1])], []))
def o_jMath_min1_v248_0 : or_T := (10, 2, [(0, (0, 0, 255, [])), (1, (0, -736, 254, []))], [(7, [0, 1], [4])], [], [], [(23, [0, 1], [0, -1, 1]), (23, [1, 1], [0, -1, 1])], [], [(0, 1, 1, 4294967296)])
theorem oo_jMath_min1_v248_0 {kA : Nat → ClassId} : or_ok PRD kA GG o_jMath_min1_v248_0 := by
  refine or_mk fun A ta ws vs hD hth hl => ?_
  intro t0 k0 t1 k1 d0 f0
  replace f0 := shm_21 f0
  have nf0 : fc_1 PRD (23, [0, 1], [0, -1, 1]) ws (vs) := by
    refine ⟨nf_in hl rfl, sgq_22 ?_⟩
    · show (-1) * v_iv (n_v vs 0) + (1 * v_iv (n_v vs 1) + 0) ≤ 0
      omega
  have nf1 : fc_1 PRD (23, [1, 1], [0, -1, 1]) ws (vs) := by
    refine ⟨nf_in hl rfl, sgq_23 ?_⟩
    · show (-1) * v_iv (n_v vs 1) + (1 * v_iv (n_v vs 1) + 0) ≤ 0
      omega
  refine ⟨(fun _ h => (by cases h)), [], trivial, ?_, (fun _ h => (by cases h))⟩
  rw [List.append_nil]
  exact List.forall_mem_cons.mpr ⟨⟨show (23 : Nat) < 100 from by decide, nf0⟩, List.forall_mem_cons.mpr ⟨⟨show (23 : Nat) < 100 from by decide, nf1⟩, (fun _ h => (by cases h))⟩⟩
def o_jMath_min1_v248_1 : or_T := (10, 2, [(0, (0, 0, 255, [])), (1, (0, 0, 765, []))], [(7, [0, 1], [5])], [], [], [(23, [0, 0], [0, -1, 1]), (23, [1, 0], [0, -1, 1])], [], [(0, 1, -4294967296, 0)])
theorem oo_jMath_min1_v248_1 {kA : Nat → ClassId} : or_ok PRD kA GG o_jMath_min1_v248_1 := by
  refine or_mk fun A ta ws vs hD hth hl => ?_
  intro t0 k0 t1 k1 d0 f0
  replace f0 := shm_24 f0
  have nf0 : fc_1 PRD (23, [0, 0], [0, -1, 1]) ws (vs) := by
    refine ⟨nf_in hl rfl, sgq_23 ?_⟩
    · show (-1) * v_iv (n_v vs 0) + (1 * v_iv (n_v vs 0) + 0) ≤ 0
      omega
  have nf1 : fc_1 PRD (23, [1, 0], [0, -1, 1]) ws (vs) := by
    refine ⟨nf_in hl rfl, sgq_22 ?_⟩
    · show (-1) * v_iv (n_v vs 1) + (1 * v_iv (n_v vs 0) + 0) ≤ 0
      omega
  refine ⟨(fun _ h => (by cases h)), [], trivial, ?_, (fun _ h => (by cases h))⟩
  rw [List.append_nil]
  exact List.forall_mem_cons.mpr ⟨⟨show (23 : Nat) < 100 from by decide, nf0⟩, List.forall_mem_cons.mpr ⟨⟨show (23 : Nat) < 100 from by decide, nf1⟩, (fun _ h => (by cases h))⟩⟩
def n_jMath_min1_v248_an : List an_T := []
def t_jMath_min1_v248_ct : ct_L := []
set_option maxRecDepth 100000 in
theorem c_jMath_min1_v248 {l : Launch} {D : va_G} {kA : Nat → ClassId} : ct_ok PRD l D kA GG y_jMath_min1 z_jMath_min1 e_jMath_min1_v248 := chk_all_ok (FT := []) (PT := []) (CT := t_jMath_min1_v248_ct) (KT := []) (NT := []) (AN := n_jMath_min1_v248_an) (OT := [o_jMath_min1_v248_0, o_jMath_min1_v248_1]) 0 200 (List.forall_mem_cons.mpr ⟨oo_jMath_min1_v248_0, List.forall_mem_cons.mpr ⟨oo_jMath_min1_v248_1, List.forall_mem_nil _⟩⟩) (pl_Math rfl (by decide)) ⟨List.forall_mem_nil _, List.forall_mem_nil _, List.forall_mem_nil _, List.forall_mem_nil _, List.forall_mem_nil _, GG_pl⟩ (by decide +kernel)
def e_jMath_max1_v249 : en_T := ([(0, 0, 0, []), (0, -736, 255, [])], some (0, 0, 255, []), true, 1, 0, 0, [], [], (0, [], [], [(23, [0, 2], [0, 1, -1]), (23, [1, 2], [0, 1, -1])], []))
def o_jMath_max1_v249_0 : or_T := (10, 2, [(0, (0, 0, 0, [])), (1, (0, 1, 255, []))], [(7, [0, 1], [2])], [], [], [(23, [0, 1], [0, 1, -1]), (23, [1, 1], [0, 1, -1])], [], [])
theorem oo_jMath_max1_v249_0 {kA : Nat → ClassId} : or_ok PRD kA GG o_jMath_max1_v249_0 := by
  refine or_mk fun A ta ws vs hD hth hl => ?_
  intro t0 k0 t1 k1 f0
  replace f0 := shm_6 f0
  have nf0 : fc_1 PRD (23, [0, 1], [0, 1, -1]) ws (vs) := by
    refine ⟨nf_in hl rfl, sgq_7 ?_⟩
    · show 1 * v_iv (n_v vs 0) + ((-1) * v_iv (n_v vs 1) + 0) ≤ 0
      omega
  have nf1 : fc_1 PRD (23, [1, 1], [0, 1, -1]) ws (vs) := by
    refine ⟨nf_in hl rfl, sgq_8 ?_⟩
    · show 1 * v_iv (n_v vs 1) + ((-1) * v_iv (n_v vs 1) + 0) ≤ 0
      omega
  refine ⟨(fun _ h => (by cases h)), [], trivial, ?_, (fun _ h => (by cases h))⟩
  rw [List.append_nil]
  exact List.forall_mem_cons.mpr ⟨⟨show (23 : Nat) < 100 from by decide, nf0⟩, List.forall_mem_cons.mpr ⟨⟨show (23 : Nat) < 100 from by decide, nf1⟩, (fun _ h => (by cases h))⟩⟩
def o_jMath_max1_v249_1 : or_T := (10, 2, [(0, (0, 0, 0, [])), (1, (0, -736, 0, []))], [(7, [0, 1], [3])], [], [], [(23, [0, 0], [0, 1, -1]), (23, [1, 0], [0, 1, -1])], [], [])
theorem oo_jMath_max1_v249_1 {kA : Nat → ClassId} : or_ok PRD kA GG o_jMath_max1_v249_1 := by
  refine or_mk fun A ta ws vs hD hth hl => ?_
  intro t0 k0 t1 k1 f0
  replace f0 := shm_2 f0
  have nf0 : fc_1 PRD (23, [0, 0], [0, 1, -1]) ws (vs) := by
    refine ⟨nf_in hl rfl, sgq_8 ?_⟩
    · show 1 * v_iv (n_v vs 0) + ((-1) * v_iv (n_v vs 0) + 0) ≤ 0
      omega
  have nf1 : fc_1 PRD (23, [1, 0], [0, 1, -1]) ws (vs) := by
    refine ⟨nf_in hl rfl, sgq_7 ?_⟩
    · show 1 * v_iv (n_v vs 1) + ((-1) * v_iv (n_v vs 0) + 0) ≤ 0
      omega
  refine ⟨(fun _ h => (by cases h)), [], trivial, ?_, (fun _ h => (by cases h))⟩
  rw [List.append_nil]
  exact List.forall_mem_cons.mpr ⟨⟨show (23 : Nat) < 100 from by decide, nf0⟩, List.forall_mem_cons.mpr ⟨⟨show (23 : Nat) < 100 from by decide, nf1⟩, (fun _ h => (by cases h))⟩⟩
def n_jMath_max1_v249_an : List an_T := []
def t_jMath_max1_v249_ct : ct_L := []
set_option maxRecDepth 100000 in
theorem c_jMath_max1_v249 {l : Launch} {D : va_G} {kA : Nat → ClassId} : ct_ok PRD l D kA GG y_jMath_max1 z_jMath_max1 e_jMath_max1_v249 := chk_all_ok (FT := []) (PT := []) (CT := t_jMath_max1_v249_ct) (KT := []) (NT := []) (AN := n_jMath_max1_v249_an) (OT := [o_jMath_max1_v249_0, o_jMath_max1_v249_1]) 0 200 (List.forall_mem_cons.mpr ⟨oo_jMath_max1_v249_0, List.forall_mem_cons.mpr ⟨oo_jMath_max1_v249_1, List.forall_mem_nil _⟩⟩) (pl_Math rfl (by decide)) ⟨List.forall_mem_nil _, List.forall_mem_nil _, List.forall_mem_nil _, List.forall_mem_nil _, List.forall_mem_nil _, GG_pl⟩ (by decide +kernel)
def e_jMath_min1_v250 : en_T := ([(0, -255, 736, []), (0, 0, 255, [])], some (0, -255, 255, []), true, 1, 0, 0, [], [], (0, [], [], [(23, [0, 2], [0, -1, 1]), (23, [1, 2], [0, -1, 1])], []))
def o_jMath_min1_v250_0 : or_T := (10, 2, [(0, (0, 1, 736, [])), (1, (0, 0, 255, []))], [(7, [0, 1], [4])], [], [], [(23, [0, 1], [0, -1, 1]), (23, [1, 1], [0, -1, 1])], [], [(0, 1, 1, 4294967296)])
theorem oo_jMath_min1_v250_0 {kA : Nat → ClassId} : or_ok PRD kA GG o_jMath_min1_v250_0 := by
  refine or_mk fun A ta ws vs hD hth hl => ?_
  intro t0 k0 t1 k1 d0 f0
  replace f0 := shm_21 f0
  have nf0 : fc_1 PRD (23, [0, 1], [0, -1, 1]) ws (vs) := by
    refine ⟨nf_in hl rfl, sgq_22 ?_⟩
    · show (-1) * v_iv (n_v vs 0) + (1 * v_iv (n_v vs 1) + 0) ≤ 0
      omega
  have nf1 : fc_1 PRD (23, [1, 1], [0, -1, 1]) ws (vs) := by
    refine ⟨nf_in hl rfl, sgq_23 ?_⟩
    · show (-1) * v_iv (n_v vs 1) + (1 * v_iv (n_v vs 1) + 0) ≤ 0
      omega
  refine ⟨(fun _ h => (by cases h)), [], trivial, ?_, (fun _ h => (by cases h))⟩
  rw [List.append_nil]
  exact List.forall_mem_cons.mpr ⟨⟨show (23 : Nat) < 100 from by decide, nf0⟩, List.forall_mem_cons.mpr ⟨⟨show (23 : Nat) < 100 from by decide, nf1⟩, (fun _ h => (by cases h))⟩⟩
def o_jMath_min1_v250_1 : or_T := (10, 2, [(0, (0, -255, 255, [])), (1, (0, 0, 255, []))], [(7, [0, 1], [5])], [], [], [(23, [0, 0], [0, -1, 1]), (23, [1, 0], [0, -1, 1])], [], [(0, 1, -4294967296, 0)])
theorem oo_jMath_min1_v250_1 {kA : Nat → ClassId} : or_ok PRD kA GG o_jMath_min1_v250_1 := by
  refine or_mk fun A ta ws vs hD hth hl => ?_
  intro t0 k0 t1 k1 d0 f0
  replace f0 := shm_24 f0
  have nf0 : fc_1 PRD (23, [0, 0], [0, -1, 1]) ws (vs) := by
    refine ⟨nf_in hl rfl, sgq_23 ?_⟩
    · show (-1) * v_iv (n_v vs 0) + (1 * v_iv (n_v vs 0) + 0) ≤ 0
      omega
  have nf1 : fc_1 PRD (23, [1, 0], [0, -1, 1]) ws (vs) := by
    refine ⟨nf_in hl rfl, sgq_22 ?_⟩
    · show (-1) * v_iv (n_v vs 1) + (1 * v_iv (n_v vs 0) + 0) ≤ 0
      omega
  refine ⟨(fun _ h => (by cases h)), [], trivial, ?_, (fun _ h => (by cases h))⟩
  rw [List.append_nil]
  exact List.forall_mem_cons.mpr ⟨⟨show (23 : Nat) < 100 from by decide, nf0⟩, List.forall_mem_cons.mpr ⟨⟨show (23 : Nat) < 100 from by decide, nf1⟩, (fun _ h => (by cases h))⟩⟩
def n_jMath_min1_v250_an : List an_T := []
def t_jMath_min1_v250_ct : ct_L := []
set_option maxRecDepth 100000 in
theorem c_jMath_min1_v250 {l : Launch} {D : va_G} {kA : Nat → ClassId} : ct_ok PRD l D kA GG y_jMath_min1 z_jMath_min1 e_jMath_min1_v250 := chk_all_ok (FT := []) (PT := []) (CT := t_jMath_min1_v250_ct) (KT := []) (NT := []) (AN := n_jMath_min1_v250_an) (OT := [o_jMath_min1_v250_0, o_jMath_min1_v250_1]) 0 200 (List.forall_mem_cons.mpr ⟨oo_jMath_min1_v250_0, List.forall_mem_cons.mpr ⟨oo_jMath_min1_v250_1, List.forall_mem_nil _⟩⟩) (pl_Math rfl (by decide)) ⟨List.forall_mem_nil _, List.forall_mem_nil _, List.forall_mem_nil _, List.forall_mem_nil _, List.forall_mem_nil _, GG_pl⟩ (by decide +kernel)
def e_jMath_min1_v251 : en_T := ([(0, -255, 255, []), (0, -736, 1020, [])], some (0, -736, 255, []), true, 1, 0, 0, [], [], (0, [], [], [(23, [0, 2], [0, -1, 1]), (23, [1, 2], [0, -1, 1])], []))
def o_jMath_min1_v251_0 : or_T := (10, 2, [(0, (0, -255, 255, [])), (1, (0, -736, 254, []))], [(7, [0, 1], [4])], [], [], [(23, [0, 1], [0, -1, 1]), (23, [1, 1], [0, -1, 1])], [], [(0, 1, 1, 4294967296)])
theorem oo_jMath_min1_v251_0 {kA : Nat → ClassId} : or_ok PRD kA GG o_jMath_min1_v251_0 := by
  refine or_mk fun A ta ws vs hD hth hl => ?_
  intro t0 k0 t1 k1 d0 f0
  replace f0 := shm_21 f0
  have nf0 : fc_1 PRD (23, [0, 1], [0, -1, 1]) ws (vs) := by
    refine ⟨nf_in hl rfl, sgq_22 ?_⟩
    · show (-1) * v_iv (n_v vs 0) + (1 * v_iv (n_v vs 1) + 0) ≤ 0
      omega
  have nf1 : fc_1 PRD (23, [1, 1], [0, -1, 1]) ws (vs) := by
    refine ⟨nf_in hl rfl, sgq_23 ?_⟩
    · show (-1) * v_iv (n_v vs 1) + (1 * v_iv (n_v vs 1) + 0) ≤ 0
      omega
  refine ⟨(fun _ h => (by cases h)), [], trivial, ?_, (fun _ h => (by cases h))⟩
  rw [List.append_nil]
  exact List.forall_mem_cons.mpr ⟨⟨show (23 : Nat) < 100 from by decide, nf0⟩, List.forall_mem_cons.mpr ⟨⟨show (23 : Nat) < 100 from by decide, nf1⟩, (fun _ h => (by cases h))⟩⟩
def o_jMath_min1_v251_1 : or_T := (10, 2, [(0, (0, -255, 255, [])), (1, (0, -255, 1020, []))], [(7, [0, 1], [5])], [], [], [(23, [0, 0], [0, -1, 1]), (23, [1, 0], [0, -1, 1])], [], [(0, 1, -4294967296, 0)])
theorem oo_jMath_min1_v251_1 {kA : Nat → ClassId} : or_ok PRD kA GG o_jMath_min1_v251_1 := by
  refine or_mk fun A ta ws vs hD hth hl => ?_
  intro t0 k0 t1 k1 d0 f0
  replace f0 := shm_24 f0
  have nf0 : fc_1 PRD (23, [0, 0], [0, -1, 1]) ws (vs) := by
    refine ⟨nf_in hl rfl, sgq_23 ?_⟩
    · show (-1) * v_iv (n_v vs 0) + (1 * v_iv (n_v vs 0) + 0) ≤ 0
      omega
  have nf1 : fc_1 PRD (23, [1, 0], [0, -1, 1]) ws (vs) := by
    refine ⟨nf_in hl rfl, sgq_22 ?_⟩
    · show (-1) * v_iv (n_v vs 1) + (1 * v_iv (n_v vs 0) + 0) ≤ 0
      omega
  refine ⟨(fun _ h => (by cases h)), [], trivial, ?_, (fun _ h => (by cases h))⟩
  rw [List.append_nil]
  exact List.forall_mem_cons.mpr ⟨⟨show (23 : Nat) < 100 from by decide, nf0⟩, List.forall_mem_cons.mpr ⟨⟨show (23 : Nat) < 100 from by decide, nf1⟩, (fun _ h => (by cases h))⟩⟩
def n_jMath_min1_v251_an : List an_T := []
def t_jMath_min1_v251_ct : ct_L := []
set_option maxRecDepth 100000 in
theorem c_jMath_min1_v251 {l : Launch} {D : va_G} {kA : Nat → ClassId} : ct_ok PRD l D kA GG y_jMath_min1 z_jMath_min1 e_jMath_min1_v251 := chk_all_ok (FT := []) (PT := []) (CT := t_jMath_min1_v251_ct) (KT := []) (NT := []) (AN := n_jMath_min1_v251_an) (OT := [o_jMath_min1_v251_0, o_jMath_min1_v251_1]) 0 200 (List.forall_mem_cons.mpr ⟨oo_jMath_min1_v251_0, List.forall_mem_cons.mpr ⟨oo_jMath_min1_v251_1, List.forall_mem_nil _⟩⟩) (pl_Math rfl (by decide)) ⟨List.forall_mem_nil _, List.forall_mem_nil _, List.forall_mem_nil _, List.forall_mem_nil _, List.forall_mem_nil _, GG_pl⟩ (by decide +kernel)
def e_jMath_min1_v252 : en_T := ([(0, 0, 736, []), (0, 0, 192, [])], some (0, 0, 192, []), true, 1, 0, 0, [], [], (0, [], [], [(23, [0, 2], [0, -1, 1]), (23, [1, 2], [0, -1, 1])], []))
def o_jMath_min1_v252_0 : or_T := (10, 2, [(0, (0, 1, 736, [])), (1, (0, 0, 192, []))], [(7, [0, 1], [4])], [], [], [(23, [0, 1], [0, -1, 1]), (23, [1, 1], [0, -1, 1])], [], [(0, 1, 1, 4294967296)])
theorem oo_jMath_min1_v252_0 {kA : Nat → ClassId} : or_ok PRD kA GG o_jMath_min1_v252_0 := by
  refine or_mk fun A ta ws vs hD hth hl => ?_
  intro t0 k0 t1 k1 d0 f0
  replace f0 := shm_21 f0
  have nf0 : fc_1 PRD (23, [0, 1], [0, -1, 1]) ws (vs) := by
    refine ⟨nf_in hl rfl, sgq_22 ?_⟩
    · show (-1) * v_iv (n_v vs 0) + (1 * v_iv (n_v vs 1) + 0) ≤ 0
      omega
  have nf1 : fc_1 PRD (23, [1, 1], [0, -1, 1]) ws (vs) := by
    refine ⟨nf_in hl rfl, sgq_23 ?_⟩
    · show (-1) * v_iv (n_v vs 1) + (1 * v_iv (n_v vs 1) + 0) ≤ 0
      omega
  refine ⟨(fun _ h => (by cases h)), [], trivial, ?_, (fun _ h => (by cases h))⟩
  rw [List.append_nil]
  exact List.forall_mem_cons.mpr ⟨⟨show (23 : Nat) < 100 from by decide, nf0⟩, List.forall_mem_cons.mpr ⟨⟨show (23 : Nat) < 100 from by decide, nf1⟩, (fun _ h => (by cases h))⟩⟩
def o_jMath_min1_v252_1 : or_T := (10, 2, [(0, (0, 0, 192, [])), (1, (0, 0, 192, []))], [(7, [0, 1], [5])], [], [], [(23, [0, 0], [0, -1, 1]), (23, [1, 0], [0, -1, 1])], [], [(0, 1, -4294967296, 0)])
theorem oo_jMath_min1_v252_1 {kA : Nat → ClassId} : or_ok PRD kA GG o_jMath_min1_v252_1 := by
  refine or_mk fun A ta ws vs hD hth hl => ?_
  intro t0 k0 t1 k1 d0 f0
  replace f0 := shm_24 f0
  have nf0 : fc_1 PRD (23, [0, 0], [0, -1, 1]) ws (vs) := by
    refine ⟨nf_in hl rfl, sgq_23 ?_⟩
    · show (-1) * v_iv (n_v vs 0) + (1 * v_iv (n_v vs 0) + 0) ≤ 0
      omega
  have nf1 : fc_1 PRD (23, [1, 0], [0, -1, 1]) ws (vs) := by
    refine ⟨nf_in hl rfl, sgq_22 ?_⟩
    · show (-1) * v_iv (n_v vs 1) + (1 * v_iv (n_v vs 0) + 0) ≤ 0
      omega
  refine ⟨(fun _ h => (by cases h)), [], trivial, ?_, (fun _ h => (by cases h))⟩
  rw [List.append_nil]
  exact List.forall_mem_cons.mpr ⟨⟨show (23 : Nat) < 100 from by decide, nf0⟩, List.forall_mem_cons.mpr ⟨⟨show (23 : Nat) < 100 from by decide, nf1⟩, (fun _ h => (by cases h))⟩⟩
def n_jMath_min1_v252_an : List an_T := []
def t_jMath_min1_v252_ct : ct_L := []
set_option maxRecDepth 100000 in
theorem c_jMath_min1_v252 {l : Launch} {D : va_G} {kA : Nat → ClassId} : ct_ok PRD l D kA GG y_jMath_min1 z_jMath_min1 e_jMath_min1_v252 := chk_all_ok (FT := []) (PT := []) (CT := t_jMath_min1_v252_ct) (KT := []) (NT := []) (AN := n_jMath_min1_v252_an) (OT := [o_jMath_min1_v252_0, o_jMath_min1_v252_1]) 0 200 (List.forall_mem_cons.mpr ⟨oo_jMath_min1_v252_0, List.forall_mem_cons.mpr ⟨oo_jMath_min1_v252_1, List.forall_mem_nil _⟩⟩) (pl_Math rfl (by decide)) ⟨List.forall_mem_nil _, List.forall_mem_nil _, List.forall_mem_nil _, List.forall_mem_nil _, List.forall_mem_nil _, GG_pl⟩ (by decide +kernel)
def e_jMath_min1_v253 : en_T := ([(0, 0, 192, []), (0, -736, 576, [])], some (0, -736, 192, []), true, 1, 0, 0, [], [], (0, [], [], [(23, [0, 2], [0, -1, 1]), (23, [1, 2], [0, -1, 1])], []))
def o_jMath_min1_v253_0 : or_T := (10, 2, [(0, (0, 0, 192, [])), (1, (0, -736, 191, []))], [(7, [0, 1], [4])], [], [], [(23, [0, 1], [0, -1, 1]), (23, [1, 1], [0, -1, 1])], [], [(0, 1, 1, 4294967296)])
theorem oo_jMath_min1_v253_0 {kA : Nat → ClassId} : or_ok PRD kA GG o_jMath_min1_v253_0 := by
  refine or_mk fun A ta ws vs hD hth hl => ?_
  intro t0 k0 t1 k1 d0 f0
  replace f0 := shm_21 f0
  have nf0 : fc_1 PRD (23, [0, 1], [0, -1, 1]) ws (vs) := by
    refine ⟨nf_in hl rfl, sgq_22 ?_⟩
    · show (-1) * v_iv (n_v vs 0) + (1 * v_iv (n_v vs 1) + 0) ≤ 0
      omega
  have nf1 : fc_1 PRD (23, [1, 1], [0, -1, 1]) ws (vs) := by
    refine ⟨nf_in hl rfl, sgq_23 ?_⟩
    · show (-1) * v_iv (n_v vs 1) + (1 * v_iv (n_v vs 1) + 0) ≤ 0
      omega
  refine ⟨(fun _ h => (by cases h)), [], trivial, ?_, (fun _ h => (by cases h))⟩
  rw [List.append_nil]
  exact List.forall_mem_cons.mpr ⟨⟨show (23 : Nat) < 100 from by decide, nf0⟩, List.forall_mem_cons.mpr ⟨⟨show (23 : Nat) < 100 from by decide, nf1⟩, (fun _ h => (by cases h))⟩⟩
def o_jMath_min1_v253_1 : or_T := (10, 2, [(0, (0, 0, 192, [])), (1, (0, 0, 576, []))], [(7, [0, 1], [5])], [], [], [(23, [0, 0], [0, -1, 1]), (23, [1, 0], [0, -1, 1])], [], [(0, 1, -4294967296, 0)])
theorem oo_jMath_min1_v253_1 {kA : Nat → ClassId} : or_ok PRD kA GG o_jMath_min1_v253_1 := by
  refine or_mk fun A ta ws vs hD hth hl => ?_
  intro t0 k0 t1 k1 d0 f0
  replace f0 := shm_24 f0
  have nf0 : fc_1 PRD (23, [0, 0], [0, -1, 1]) ws (vs) := by
    refine ⟨nf_in hl rfl, sgq_23 ?_⟩
    · show (-1) * v_iv (n_v vs 0) + (1 * v_iv (n_v vs 0) + 0) ≤ 0
      omega
  have nf1 : fc_1 PRD (23, [1, 0], [0, -1, 1]) ws (vs) := by
    refine ⟨nf_in hl rfl, sgq_22 ?_⟩
    · show (-1) * v_iv (n_v vs 1) + (1 * v_iv (n_v vs 0) + 0) ≤ 0
      omega
  refine ⟨(fun _ h => (by cases h)), [], trivial, ?_, (fun _ h => (by cases h))⟩
  rw [List.append_nil]
  exact List.forall_mem_cons.mpr ⟨⟨show (23 : Nat) < 100 from by decide, nf0⟩, List.forall_mem_cons.mpr ⟨⟨show (23 : Nat) < 100 from by decide, nf1⟩, (fun _ h => (by cases h))⟩⟩
def n_jMath_min1_v253_an : List an_T := []
def t_jMath_min1_v253_ct : ct_L := []
set_option maxRecDepth 100000 in
theorem c_jMath_min1_v253 {l : Launch} {D : va_G} {kA : Nat → ClassId} : ct_ok PRD l D kA GG y_jMath_min1 z_jMath_min1 e_jMath_min1_v253 := chk_all_ok (FT := []) (PT := []) (CT := t_jMath_min1_v253_ct) (KT := []) (NT := []) (AN := n_jMath_min1_v253_an) (OT := [o_jMath_min1_v253_0, o_jMath_min1_v253_1]) 0 200 (List.forall_mem_cons.mpr ⟨oo_jMath_min1_v253_0, List.forall_mem_cons.mpr ⟨oo_jMath_min1_v253_1, List.forall_mem_nil _⟩⟩) (pl_Math rfl (by decide)) ⟨List.forall_mem_nil _, List.forall_mem_nil _, List.forall_mem_nil _, List.forall_mem_nil _, List.forall_mem_nil _, GG_pl⟩ (by decide +kernel)
def e_jMath_max1_v254 : en_T := ([(0, 0, 0, []), (0, -736, 192, [])], some (0, 0, 192, []), true, 1, 0, 0, [], [], (0, [], [], [(23, [0, 2], [0, 1, -1]), (23, [1, 2], [0, 1, -1])], []))
def o_jMath_max1_v254_0 : or_T := (10, 2, [(0, (0, 0, 0, [])), (1, (0, 1, 192, []))], [(7, [0, 1], [2])], [], [], [(23, [0, 1], [0, 1, -1]), (23, [1, 1], [0, 1, -1])], [], [])
theorem oo_jMath_max1_v254_0 {kA : Nat → ClassId} : or_ok PRD kA GG o_jMath_max1_v254_0 := by
  refine or_mk fun A ta ws vs hD hth hl => ?_
  intro t0 k0 t1 k1 f0
  replace f0 := shm_6 f0
  have nf0 : fc_1 PRD (23, [0, 1], [0, 1, -1]) ws (vs) := by
    refine ⟨nf_in hl rfl, sgq_7 ?_⟩
    · show 1 * v_iv (n_v vs 0) + ((-1) * v_iv (n_v vs 1) + 0) ≤ 0
      omega
  have nf1 : fc_1 PRD (23, [1, 1], [0, 1, -1]) ws (vs) := by
    refine ⟨nf_in hl rfl, sgq_8 ?_⟩
    · show 1 * v_iv (n_v vs 1) + ((-1) * v_iv (n_v vs 1) + 0) ≤ 0
      omega
  refine ⟨(fun _ h => (by cases h)), [], trivial, ?_, (fun _ h => (by cases h))⟩
  rw [List.append_nil]
  exact List.forall_mem_cons.mpr ⟨⟨show (23 : Nat) < 100 from by decide, nf0⟩, List.forall_mem_cons.mpr ⟨⟨show (23 : Nat) < 100 from by decide, nf1⟩, (fun _ h => (by cases h))⟩⟩
def o_jMath_max1_v254_1 : or_T := (10, 2, [(0, (0, 0, 0, [])), (1, (0, -736, 0, []))], [(7, [0, 1], [3])], [], [], [(23, [0, 0], [0, 1, -1]), (23, [1, 0], [0, 1, -1])], [], [])
theorem oo_jMath_max1_v254_1 {kA : Nat → ClassId} : or_ok PRD kA GG o_jMath_max1_v254_1 := by
  refine or_mk fun A ta ws vs hD hth hl => ?_
  intro t0 k0 t1 k1 f0
  replace f0 := shm_2 f0
  have nf0 : fc_1 PRD (23, [0, 0], [0, 1, -1]) ws (vs) := by
    refine ⟨nf_in hl rfl, sgq_8 ?_⟩
    · show 1 * v_iv (n_v vs 0) + ((-1) * v_iv (n_v vs 0) + 0) ≤ 0
      omega
  have nf1 : fc_1 PRD (23, [1, 0], [0, 1, -1]) ws (vs) := by
    refine ⟨nf_in hl rfl, sgq_7 ?_⟩
    · show 1 * v_iv (n_v vs 1) + ((-1) * v_iv (n_v vs 0) + 0) ≤ 0
      omega
  refine ⟨(fun _ h => (by cases h)), [], trivial, ?_, (fun _ h => (by cases h))⟩
  rw [List.append_nil]
  exact List.forall_mem_cons.mpr ⟨⟨show (23 : Nat) < 100 from by decide, nf0⟩, List.forall_mem_cons.mpr ⟨⟨show (23 : Nat) < 100 from by decide, nf1⟩, (fun _ h => (by cases h))⟩⟩
def n_jMath_max1_v254_an : List an_T := []
def t_jMath_max1_v254_ct : ct_L := []
set_option maxRecDepth 100000 in
theorem c_jMath_max1_v254 {l : Launch} {D : va_G} {kA : Nat → ClassId} : ct_ok PRD l D kA GG y_jMath_max1 z_jMath_max1 e_jMath_max1_v254 := chk_all_ok (FT := []) (PT := []) (CT := t_jMath_max1_v254_ct) (KT := []) (NT := []) (AN := n_jMath_max1_v254_an) (OT := [o_jMath_max1_v254_0, o_jMath_max1_v254_1]) 0 200 (List.forall_mem_cons.mpr ⟨oo_jMath_max1_v254_0, List.forall_mem_cons.mpr ⟨oo_jMath_max1_v254_1, List.forall_mem_nil _⟩⟩) (pl_Math rfl (by decide)) ⟨List.forall_mem_nil _, List.forall_mem_nil _, List.forall_mem_nil _, List.forall_mem_nil _, List.forall_mem_nil _, GG_pl⟩ (by decide +kernel)
def e_jMath_min1_v255 : en_T := ([(0, -192, 736, []), (0, 0, 192, [])], some (0, -192, 192, []), true, 1, 0, 0, [], [], (0, [], [], [(23, [0, 2], [0, -1, 1]), (23, [1, 2], [0, -1, 1])], []))
def o_jMath_min1_v255_0 : or_T := (10, 2, [(0, (0, 1, 736, [])), (1, (0, 0, 192, []))], [(7, [0, 1], [4])], [], [], [(23, [0, 1], [0, -1, 1]), (23, [1, 1], [0, -1, 1])], [], [(0, 1, 1, 4294967296)])
theorem oo_jMath_min1_v255_0 {kA : Nat → ClassId} : or_ok PRD kA GG o_jMath_min1_v255_0 := by
  refine or_mk fun A ta ws vs hD hth hl => ?_
  intro t0 k0 t1 k1 d0 f0
  replace f0 := shm_21 f0
  have nf0 : fc_1 PRD (23, [0, 1], [0, -1, 1]) ws (vs) := by
    refine ⟨nf_in hl rfl, sgq_22 ?_⟩
    · show (-1) * v_iv (n_v vs 0) + (1 * v_iv (n_v vs 1) + 0) ≤ 0
      omega
  have nf1 : fc_1 PRD (23, [1, 1], [0, -1, 1]) ws (vs) := by
    refine ⟨nf_in hl rfl, sgq_23 ?_⟩
    · show (-1) * v_iv (n_v vs 1) + (1 * v_iv (n_v vs 1) + 0) ≤ 0
      omega
  refine ⟨(fun _ h => (by cases h)), [], trivial, ?_, (fun _ h => (by cases h))⟩
  rw [List.append_nil]
  exact List.forall_mem_cons.mpr ⟨⟨show (23 : Nat) < 100 from by decide, nf0⟩, List.forall_mem_cons.mpr ⟨⟨show (23 : Nat) < 100 from by decide, nf1⟩, (fun _ h => (by cases h))⟩⟩
def o_jMath_min1_v255_1 : or_T := (10, 2, [(0, (0, -192, 192, [])), (1, (0, 0, 192, []))], [(7, [0, 1], [5])], [], [], [(23, [0, 0], [0, -1, 1]), (23, [1, 0], [0, -1, 1])], [], [(0, 1, -4294967296, 0)])
theorem oo_jMath_min1_v255_1 {kA : Nat → ClassId} : or_ok PRD kA GG o_jMath_min1_v255_1 := by
  refine or_mk fun A ta ws vs hD hth hl => ?_
  intro t0 k0 t1 k1 d0 f0
  replace f0 := shm_24 f0
  have nf0 : fc_1 PRD (23, [0, 0], [0, -1, 1]) ws (vs) := by
    refine ⟨nf_in hl rfl, sgq_23 ?_⟩
    · show (-1) * v_iv (n_v vs 0) + (1 * v_iv (n_v vs 0) + 0) ≤ 0
      omega
  have nf1 : fc_1 PRD (23, [1, 0], [0, -1, 1]) ws (vs) := by
    refine ⟨nf_in hl rfl, sgq_22 ?_⟩
    · show (-1) * v_iv (n_v vs 1) + (1 * v_iv (n_v vs 0) + 0) ≤ 0
      omega
  refine ⟨(fun _ h => (by cases h)), [], trivial, ?_, (fun _ h => (by cases h))⟩
  rw [List.append_nil]
  exact List.forall_mem_cons.mpr ⟨⟨show (23 : Nat) < 100 from by decide, nf0⟩, List.forall_mem_cons.mpr ⟨⟨show (23 : Nat) < 100 from by decide, nf1⟩, (fun _ h => (by cases h))⟩⟩
def n_jMath_min1_v255_an : List an_T := []
def t_jMath_min1_v255_ct : ct_L := []
set_option maxRecDepth 100000 in
theorem c_jMath_min1_v255 {l : Launch} {D : va_G} {kA : Nat → ClassId} : ct_ok PRD l D kA GG y_jMath_min1 z_jMath_min1 e_jMath_min1_v255 := chk_all_ok (FT := []) (PT := []) (CT := t_jMath_min1_v255_ct) (KT := []) (NT := []) (AN := n_jMath_min1_v255_an) (OT := [o_jMath_min1_v255_0, o_jMath_min1_v255_1]) 0 200 (List.forall_mem_cons.mpr ⟨oo_jMath_min1_v255_0, List.forall_mem_cons.mpr ⟨oo_jMath_min1_v255_1, List.forall_mem_nil _⟩⟩) (pl_Math rfl (by decide)) ⟨List.forall_mem_nil _, List.forall_mem_nil _, List.forall_mem_nil _, List.forall_mem_nil _, List.forall_mem_nil _, GG_pl⟩ (by decide +kernel)
def e_jMath_min1_v256 : en_T := ([(0, -192, 192, []), (0, -736, 768, [])], some (0, -736, 192, []), true, 1, 0, 0, [], [], (0, [], [], [(23, [0, 2], [0, -1, 1]), (23, [1, 2], [0, -1, 1])], []))
def o_jMath_min1_v256_0 : or_T := (10, 2, [(0, (0, -192, 192, [])), (1, (0, -736, 191, []))], [(7, [0, 1], [4])], [], [], [(23, [0, 1], [0, -1, 1]), (23, [1, 1], [0, -1, 1])], [], [(0, 1, 1, 4294967296)])
theorem oo_jMath_min1_v256_0 {kA : Nat → ClassId} : or_ok PRD kA GG o_jMath_min1_v256_0 := by
  refine or_mk fun A ta ws vs hD hth hl => ?_
  intro t0 k0 t1 k1 d0 f0
  replace f0 := shm_21 f0
  have nf0 : fc_1 PRD (23, [0, 1], [0, -1, 1]) ws (vs) := by
    refine ⟨nf_in hl rfl, sgq_22 ?_⟩
    · show (-1) * v_iv (n_v vs 0) + (1 * v_iv (n_v vs 1) + 0) ≤ 0
      omega
  have nf1 : fc_1 PRD (23, [1, 1], [0, -1, 1]) ws (vs) := by
    refine ⟨nf_in hl rfl, sgq_23 ?_⟩
    · show (-1) * v_iv (n_v vs 1) + (1 * v_iv (n_v vs 1) + 0) ≤ 0
      omega
  refine ⟨(fun _ h => (by cases h)), [], trivial, ?_, (fun _ h => (by cases h))⟩
  rw [List.append_nil]
  exact List.forall_mem_cons.mpr ⟨⟨show (23 : Nat) < 100 from by decide, nf0⟩, List.forall_mem_cons.mpr ⟨⟨show (23 : Nat) < 100 from by decide, nf1⟩, (fun _ h => (by cases h))⟩⟩
def o_jMath_min1_v256_1 : or_T := (10, 2, [(0, (0, -192, 192, [])), (1, (0, -192, 768, []))], [(7, [0, 1], [5])], [], [], [(23, [0, 0], [0, -1, 1]), (23, [1, 0], [0, -1, 1])], [], [(0, 1, -4294967296, 0)])
theorem oo_jMath_min1_v256_1 {kA : Nat → ClassId} : or_ok PRD kA GG o_jMath_min1_v256_1 := by
  refine or_mk fun A ta ws vs hD hth hl => ?_
  intro t0 k0 t1 k1 d0 f0
  replace f0 := shm_24 f0
  have nf0 : fc_1 PRD (23, [0, 0], [0, -1, 1]) ws (vs) := by
    refine ⟨nf_in hl rfl, sgq_23 ?_⟩
    · show (-1) * v_iv (n_v vs 0) + (1 * v_iv (n_v vs 0) + 0) ≤ 0
      omega
  have nf1 : fc_1 PRD (23, [1, 0], [0, -1, 1]) ws (vs) := by
    refine ⟨nf_in hl rfl, sgq_22 ?_⟩
    · show (-1) * v_iv (n_v vs 1) + (1 * v_iv (n_v vs 0) + 0) ≤ 0
      omega
  refine ⟨(fun _ h => (by cases h)), [], trivial, ?_, (fun _ h => (by cases h))⟩
  rw [List.append_nil]
  exact List.forall_mem_cons.mpr ⟨⟨show (23 : Nat) < 100 from by decide, nf0⟩, List.forall_mem_cons.mpr ⟨⟨show (23 : Nat) < 100 from by decide, nf1⟩, (fun _ h => (by cases h))⟩⟩
def n_jMath_min1_v256_an : List an_T := []
def t_jMath_min1_v256_ct : ct_L := []
set_option maxRecDepth 100000 in
theorem c_jMath_min1_v256 {l : Launch} {D : va_G} {kA : Nat → ClassId} : ct_ok PRD l D kA GG y_jMath_min1 z_jMath_min1 e_jMath_min1_v256 := chk_all_ok (FT := []) (PT := []) (CT := t_jMath_min1_v256_ct) (KT := []) (NT := []) (AN := n_jMath_min1_v256_an) (OT := [o_jMath_min1_v256_0, o_jMath_min1_v256_1]) 0 200 (List.forall_mem_cons.mpr ⟨oo_jMath_min1_v256_0, List.forall_mem_cons.mpr ⟨oo_jMath_min1_v256_1, List.forall_mem_nil _⟩⟩) (pl_Math rfl (by decide)) ⟨List.forall_mem_nil _, List.forall_mem_nil _, List.forall_mem_nil _, List.forall_mem_nil _, List.forall_mem_nil _, GG_pl⟩ (by decide +kernel)
def e_jMath_min1_v257 : en_T := ([(0, -40000000, 690000000, []), (0, -40000000, 690000000, [])], some (0, -40000000, 690000000, []), true, 1, 0, 0, [], [], (0, [], [], [(23, [0, 2], [0, -1, 1]), (23, [1, 2], [0, -1, 1]), (20, [2, 0, 1], [50, 0, 0, 3, 6, 1, 2, 1, 0, 1, 1, 1, 2, 1, 0, 1, 2])], []))
set_option maxHeartbeats 4000000 in
theorem vc_jMath_min1_v257_0_0 (x0 : Int) (x1 : Int) (k0 : (-39999999) ≤ x0 ∧ x0 ≤ 690000000) (k1 : (-40000000) ≤ x1 ∧ x1 ≤ 689999999) (d0 : x1 + 1 ≤ x0 ∧ x0 ≤ x1 + 4294967296) (f0 : x1 < x0) : (-1) * x0 + (1 * x1 + 0) ≤ 0 := by
  first | assumption | omega | grind
set_option maxHeartbeats 4000000 in
theorem vc_jMath_min1_v257_0_1 (x0 : Int) (x1 : Int) (k0 : (-39999999) ≤ x0 ∧ x0 ≤ 690000000) (k1 : (-40000000) ≤ x1 ∧ x1 ≤ 689999999) (d0 : x1 + 1 ≤ x0 ∧ x0 ≤ x1 + 4294967296) (f0 : x1 < x0) : (-1) * x1 + (1 * x1 + 0) ≤ 0 := by
  first | assumption | omega | grind
set_option maxHeartbeats 4000000 in
theorem vc_jMath_min1_v257_0_2 (x0 : Int) (x1 : Int) (k0 : (-39999999) ≤ x0 ∧ x0 ≤ 690000000) (k1 : (-40000000) ≤ x1 ∧ x1 ≤ 689999999) (d0 : x1 + 1 ≤ x0 ∧ x0 ≤ x1 + 4294967296) (f0 : x1 < x0) : (x1 = x0) ∨ (x1 = x1) := by
  first | assumption | omega | grind
def o_jMath_min1_v257_0 : or_T := (10, 2, [(0, (0, -39999999, 690000000, [])), (1, (0, -40000000, 689999999, []))], [(7, [0, 1], [4])], [], [], [(23, [0, 1], [0, -1, 1]), (23, [1, 1], [0, -1, 1]), (20, [1, 0, 1], [50, 0, 0, 3, 6, 1, 2, 1, 0, 1, 1, 1, 2, 1, 0, 1, 2])], [], [(0, 1, 1, 4294967296)])
theorem oo_jMath_min1_v257_0 {kA : Nat → ClassId} : or_ok PRD kA GG o_jMath_min1_v257_0 := by
  refine or_mk fun A ta ws vs hD hth hl => ?_
  intro t0 k0 t1 k1 d0 f0
  have nf0 : fc_1 PRD (23, [0, 1], [0, -1, 1]) ws (vs) := ⟨nf_in hl rfl, sgq_22 (vc_jMath_min1_v257_0_0 (v_iv (n_v vs 0)) (v_iv (n_v vs 1)) k0 k1 d0 (shm_21 f0))⟩
  have nf1 : fc_1 PRD (23, [1, 1], [0, -1, 1]) ws (vs) := ⟨nf_in hl rfl, sgq_23 (vc_jMath_min1_v257_0_1 (v_iv (n_v vs 0)) (v_iv (n_v vs 1)) k0 k1 d0 (shm_21 f0))⟩
  have nf2 : fc_1 PRD (20, [1, 0, 1], [50, 0, 0, 3, 6, 1, 2, 1, 0, 1, 1, 1, 2, 1, 0, 1, 2]) ws (vs) := ⟨nf_in hl rfl, sgq_28 (vc_jMath_min1_v257_0_2 (v_iv (n_v vs 0)) (v_iv (n_v vs 1)) k0 k1 d0 (shm_21 f0))⟩
  refine ⟨(fun _ h => (by cases h)), [], trivial, ?_, (fun _ h => (by cases h))⟩
  rw [List.append_nil]
  exact List.forall_mem_cons.mpr ⟨⟨show (23 : Nat) < 100 from by decide, nf0⟩, List.forall_mem_cons.mpr ⟨⟨show (23 : Nat) < 100 from by decide, nf1⟩, List.forall_mem_cons.mpr ⟨⟨show (20 : Nat) < 100 from by decide, nf2⟩, (fun _ h => (by cases h))⟩⟩⟩
set_option maxHeartbeats 4000000 in
theorem vc_jMath_min1_v257_1_0 (x0 : Int) (x1 : Int) (k0 : (-40000000) ≤ x0 ∧ x0 ≤ 690000000) (k1 : (-40000000) ≤ x1 ∧ x1 ≤ 690000000) (d0 : x1 + (-4294967296) ≤ x0 ∧ x0 ≤ x1 + 0) (f0 : x0 ≤ x1) : (-1) * x0 + (1 * x0 + 0) ≤ 0 := by
  first | assumption | omega | grind
set_option maxHeartbeats 4000000 in
theorem vc_jMath_min1_v257_1_1 (x0 : Int) (x1 : Int) (k0 : (-40000000) ≤ x0 ∧ x0 ≤ 690000000) (k1 : (-40000000) ≤ x1 ∧ x1 ≤ 690000000) (d0 : x1 + (-4294967296) ≤ x0 ∧ x0 ≤ x1 + 0) (f0 : x0 ≤ x1) : (-1) * x1 + (1 * x0 + 0) ≤ 0 := by
  first | assumption | omega | grind
set_option maxHeartbeats 4000000 in
theorem vc_jMath_min1_v257_1_2 (x0 : Int) (x1 : Int) (k0 : (-40000000) ≤ x0 ∧ x0 ≤ 690000000) (k1 : (-40000000) ≤ x1 ∧ x1 ≤ 690000000) (d0 : x1 + (-4294967296) ≤ x0 ∧ x0 ≤ x1 + 0) (f0 : x0 ≤ x1) : (x0 = x0) ∨ (x0 = x1) := by
  first | assumption | omega | grind
def o_jMath_min1_v257_1 : or_T := (10, 2, [(0, (0, -40000000, 690000000, [])), (1, (0, -40000000, 690000000, []))], [(7, [0, 1], [5])], [], [], [(23, [0, 0], [0, -1, 1]), (23, [1, 0], [0, -1, 1]), (20, [0, 0, 1], [50, 0, 0, 3, 6, 1, 2, 1, 0, 1, 1, 1, 2, 1, 0, 1, 2])], [], [(0, 1, -4294967296, 0)])
theorem oo_jMath_min1_v257_1 {kA : Nat → ClassId} : or_ok PRD kA GG o_jMath_min1_v257_1 := by
  refine or_mk fun A ta ws vs hD hth hl => ?_
  intro t0 k0 t1 k1 d0 f0
  have nf0 : fc_1 PRD (23, [0, 0], [0, -1, 1]) ws (vs) := ⟨nf_in hl rfl, sgq_23 (vc_jMath_min1_v257_1_0 (v_iv (n_v vs 0)) (v_iv (n_v vs 1)) k0 k1 d0 (shm_24 f0))⟩
  have nf1 : fc_1 PRD (23, [1, 0], [0, -1, 1]) ws (vs) := ⟨nf_in hl rfl, sgq_22 (vc_jMath_min1_v257_1_1 (v_iv (n_v vs 0)) (v_iv (n_v vs 1)) k0 k1 d0 (shm_24 f0))⟩
  have nf2 : fc_1 PRD (20, [0, 0, 1], [50, 0, 0, 3, 6, 1, 2, 1, 0, 1, 1, 1, 2, 1, 0, 1, 2]) ws (vs) := ⟨nf_in hl rfl, sgq_29 (vc_jMath_min1_v257_1_2 (v_iv (n_v vs 0)) (v_iv (n_v vs 1)) k0 k1 d0 (shm_24 f0))⟩
  refine ⟨(fun _ h => (by cases h)), [], trivial, ?_, (fun _ h => (by cases h))⟩
  rw [List.append_nil]
  exact List.forall_mem_cons.mpr ⟨⟨show (23 : Nat) < 100 from by decide, nf0⟩, List.forall_mem_cons.mpr ⟨⟨show (23 : Nat) < 100 from by decide, nf1⟩, List.forall_mem_cons.mpr ⟨⟨show (20 : Nat) < 100 from by decide, nf2⟩, (fun _ h => (by cases h))⟩⟩⟩
def n_jMath_min1_v257_an : List an_T := []
def t_jMath_min1_v257_ct : ct_L := []
set_option maxRecDepth 100000 in
theorem c_jMath_min1_v257 {l : Launch} {D : va_G} {kA : Nat → ClassId} : ct_ok PRD l D kA GG y_jMath_min1 z_jMath_min1 e_jMath_min1_v257 := chk_all_ok (FT := []) (PT := []) (CT := t_jMath_min1_v257_ct) (KT := []) (NT := []) (AN := n_jMath_min1_v257_an) (OT := [o_jMath_min1_v257_0, o_jMath_min1_v257_1]) 0 200 (List.forall_mem_cons.mpr ⟨oo_jMath_min1_v257_0, List.forall_mem_cons.mpr ⟨oo_jMath_min1_v257_1, List.forall_mem_nil _⟩⟩) (pl_Math rfl (by decide)) ⟨List.forall_mem_nil _, List.forall_mem_nil _, List.forall_mem_nil _, List.forall_mem_nil _, List.forall_mem_nil _, GG_pl⟩ (by decide +kernel)
def e_jStr_isLatin1_v259 : en_T := ([(2, 0, 0, ro_strs)], some (0, 1, 1, []), true, 1, 0, 0, [], [], (0, [], [], [], []))
def n_jStr_isLatin1_v259_an : List an_T := []
def t_jStr_isLatin1_v259_ct : ct_L := [(1000002, 38, en_ro [] (0, 1, 1, [])), (1000003, 15, en_ro [(2, 0, 0, ro_strs)] (0, 0, 0, []))]
set_option maxRecDepth 100000 in
theorem c_jStr_isLatin1_v259 {l : Launch} {D : va_G} {kA : Nat → ClassId} : ct_ok PRD l D kA GG y_jStr_isLatin1 z_jStr_isLatin1 e_jStr_isLatin1_v259 := chk_all_ok (FT := []) (PT := []) (CT := t_jStr_isLatin1_v259_ct) (KT := []) (NT := []) (AN := n_jStr_isLatin1_v259_an) (OT := []) 0 200 (List.forall_mem_nil _) (by decide +kernel) ⟨List.forall_mem_nil _, List.forall_mem_nil _, List.forall_mem_cons.mpr ⟨cl_compact wm_679, List.forall_mem_cons.mpr ⟨cl_coderS wm_3970 (by decide +kernel), List.forall_mem_nil _⟩⟩, List.forall_mem_nil _, List.forall_mem_nil _, GG_pl⟩ (by decide +kernel)
def e_jMath_abs2_v287 : en_T := ([(1, -2160000039600000000, 2160000039600000000, [])], some (1, 0, 2160000039600000000, []), true, 1, 0, 0, [], [], (0, [], [], [], []))
def n_jMath_abs2_v287_an : List an_T := []
def t_jMath_abs2_v287_ct : ct_L := []
set_option maxRecDepth 100000 in
theorem c_jMath_abs2_v287 {l : Launch} {D : va_G} {kA : Nat → ClassId} : ct_ok PRD l D kA GG y_jMath_abs2 z_jMath_abs2 e_jMath_abs2_v287 := chk_all_ok (FT := []) (PT := []) (CT := t_jMath_abs2_v287_ct) (KT := []) (NT := []) (AN := n_jMath_abs2_v287_an) (OT := []) 0 200 (List.forall_mem_nil _) (pl_Math rfl (by decide)) ⟨List.forall_mem_nil _, List.forall_mem_nil _, List.forall_mem_nil _, List.forall_mem_nil _, List.forall_mem_nil _, GG_pl⟩ (by decide +kernel)
def e_jStr_coder_v289 : en_T := ([(2, 0, 0, ro_strs)], some (0, 0, 0, []), true, 1, 0, 0, [], [], (0, [], [], [], []))
def n_jStr_coder_v289_an : List an_T := []
def t_jStr_coder_v289_ct : ct_L := [(1000002, 38, en_ro [] (0, 1, 1, [])), (1000003, 15, en_ro [(2, 0, 0, ro_strs)] (0, 0, 0, []))]
set_option maxRecDepth 100000 in
theorem c_jStr_coder_v289 {l : Launch} {D : va_G} {kA : Nat → ClassId} : ct_ok PRD l D kA GG y_jStr_coder z_jStr_coder e_jStr_coder_v289 := chk_all_ok (FT := []) (PT := []) (CT := t_jStr_coder_v289_ct) (KT := []) (NT := []) (AN := n_jStr_coder_v289_an) (OT := []) 0 200 (List.forall_mem_nil _) (by decide +kernel) ⟨List.forall_mem_nil _, List.forall_mem_nil _, List.forall_mem_cons.mpr ⟨cl_compact wm_679, List.forall_mem_cons.mpr ⟨cl_coderS wm_3970 (by decide +kernel), List.forall_mem_nil _⟩⟩, List.forall_mem_nil _, List.forall_mem_nil _, GG_pl⟩ (by decide +kernel)
def e_jLat_canEncode_v402 : en_T := ([(0, 0, 127, [])], some (0, 1, 1, []), true, 1, 0, 0, [], [], (0, [], [], [], []))
def n_jLat_canEncode_v402_an : List an_T := []
def t_jLat_canEncode_v402_ct : ct_L := []
set_option maxRecDepth 100000 in
theorem c_jLat_canEncode_v402 {l : Launch} {D : va_G} {kA : Nat → ClassId} : ct_ok PRD l D kA GG y_jLat_canEncode z_jLat_canEncode e_jLat_canEncode_v402 := chk_all_ok (FT := []) (PT := []) (CT := t_jLat_canEncode_v402_ct) (KT := []) (NT := []) (AN := n_jLat_canEncode_v402_an) (OT := []) 0 200 (List.forall_mem_nil _) (by decide +kernel) ⟨List.forall_mem_nil _, List.forall_mem_nil _, List.forall_mem_nil _, List.forall_mem_nil _, List.forall_mem_nil _, GG_pl⟩ (by decide +kernel)
def e_jMath_min1_v403 : en_T := ([(0, 14, 14, []), (0, 14, 14, [])], some (0, 14, 14, []), true, 1, 0, 0, [], [], (0, [], [], [(23, [0, 2], [0, -1, 1]), (23, [1, 2], [0, -1, 1])], []))
def o_jMath_min1_v403_0 : or_T := (10, 2, [(0, (0, 14, 14, [])), (1, (0, 14, 14, []))], [(7, [0, 1], [5])], [], [], [(23, [0, 0], [0, -1, 1]), (23, [1, 0], [0, -1, 1])], [], [])
theorem oo_jMath_min1_v403_0 {kA : Nat → ClassId} : or_ok PRD kA GG o_jMath_min1_v403_0 := by
  refine or_mk fun A ta ws vs hD hth hl => ?_
  intro t0 k0 t1 k1 f0
  replace f0 := shm_24 f0
  have nf0 : fc_1 PRD (23, [0, 0], [0, -1, 1]) ws (vs) := by
    refine ⟨nf_in hl rfl, sgq_23 ?_⟩
    · show (-1) * v_iv (n_v vs 0) + (1 * v_iv (n_v vs 0) + 0) ≤ 0
      omega
  have nf1 : fc_1 PRD (23, [1, 0], [0, -1, 1]) ws (vs) := by
    refine ⟨nf_in hl rfl, sgq_22 ?_⟩
    · show (-1) * v_iv (n_v vs 1) + (1 * v_iv (n_v vs 0) + 0) ≤ 0
      omega
  refine ⟨(fun _ h => (by cases h)), [], trivial, ?_, (fun _ h => (by cases h))⟩
  rw [List.append_nil]
  exact List.forall_mem_cons.mpr ⟨⟨show (23 : Nat) < 100 from by decide, nf0⟩, List.forall_mem_cons.mpr ⟨⟨show (23 : Nat) < 100 from by decide, nf1⟩, (fun _ h => (by cases h))⟩⟩
def n_jMath_min1_v403_an : List an_T := []
def t_jMath_min1_v403_ct : ct_L := []
set_option maxRecDepth 100000 in
theorem c_jMath_min1_v403 {l : Launch} {D : va_G} {kA : Nat → ClassId} : ct_ok PRD l D kA GG y_jMath_min1 z_jMath_min1 e_jMath_min1_v403 := chk_all_ok (FT := []) (PT := []) (CT := t_jMath_min1_v403_ct) (KT := []) (NT := []) (AN := n_jMath_min1_v403_an) (OT := [o_jMath_min1_v403_0]) 0 200 (List.forall_mem_cons.mpr ⟨oo_jMath_min1_v403_0, List.forall_mem_nil _⟩) (pl_Math rfl (by decide)) ⟨List.forall_mem_nil _, List.forall_mem_nil _, List.forall_mem_nil _, List.forall_mem_nil _, List.forall_mem_nil _, GG_pl⟩ (by decide +kernel)
def e_jLat_indexOfChar_v404 : en_T := ([(2, 0, 0, [5205]), (0, 0, 127, []), (0, 0, 0, []), (0, 14, 14, [])], some (0, -1, 13, []), true, 1, 0, 0, [], [], (0, [], [], [(20, [4, 1], [50, 0, 0, 3, 6, 0, 2, 1, 0, 0, -1, 0, 2, 0, 33, 1, 1])], []))
set_option maxHeartbeats 4000000 in
theorem vc_jLat_indexOfChar_v404_0_0 (x1 : Int) (x4 : Int) (k1 : 0 ≤ x1 ∧ x1 ≤ 127) (k4 : 0 ≤ x4 ∧ x4 ≤ 127) (f0 : x4 = x1) : x4 = x1 := by
  first | assumption | omega | grind
def o_jLat_indexOfChar_v404_0 : or_T := (7, 5, [(1, (0, 0, 127, [])), (4, (0, 0, 127, []))], [(22, [4, 1], [])], [], [], [(20, [4, 1], [50, 0, 0, 1, 2, 1, 0, 1, 1]), (24, [1, 1], [])], [], [])
theorem oo_jLat_indexOfChar_v404_0 {kA : Nat → ClassId} : or_ok PRD kA GG o_jLat_indexOfChar_v404_0 := by
  refine or_mk fun A ta ws vs hD hth hl => ?_
  intro t1 k1 t4 k4 f0
  have nf0 : fc_1 PRD (20, [4, 1], [50, 0, 0, 1, 2, 1, 0, 1, 1]) ws (vs) := ⟨nf_in hl rfl, sgq_48 (vc_jLat_indexOfChar_v404_0_0 (v_iv (n_v vs 1)) (v_iv (n_v vs 4)) k1 k4 (shm_47 f0))⟩
  have nf1 : fc_1 PRD (24, [1, 1], []) ws (vs) := by
    refine ⟨nf_in hl rfl, sgq_1 ?_⟩
    · show n_v vs 1 = n_v vs 1
      first | rfl | simp only [true_and]
  refine ⟨(fun _ h => (by cases h)), [], trivial, ?_, (fun _ h => (by cases h))⟩
  rw [List.append_nil]
  exact List.forall_mem_cons.mpr ⟨⟨show (20 : Nat) < 100 from by decide, nf0⟩, List.forall_mem_cons.mpr ⟨⟨show (24 : Nat) < 100 from by decide, nf1⟩, (fun _ h => (by cases h))⟩⟩
set_option maxHeartbeats 4000000 in
theorem vc_jLat_indexOfChar_v404_1_0 (x1 : Int) (x5 : Int) (x8 : Int) (x10 : Int) (k1 : 0 ≤ x1 ∧ x1 ≤ 127) (k5 : 0 ≤ x5 ∧ x5 ≤ 127) (k8 : 0 ≤ x8 ∧ x8 ≤ 127) (k10 : (-1) ≤ x10 ∧ x10 ≤ (-1)) (f0 : x8 = x1) : (x10 ≤ (-1)) ∨ (33 ≤ x1) := by
  first | assumption | omega | grind
def o_jLat_indexOfChar_v404_1 : or_T := (32, 11, [(1, (0, 0, 127, [])), (5, (0, 0, 127, [])), (8, (0, 0, 127, [])), (10, (0, -1, -1, []))], [(20, [8, 1], [50, 0, 0, 1, 2, 1, 0, 1, 1]), (24, [1, 5], [])], [], [], [(20, [10, 1], [50, 0, 0, 3, 6, 0, 2, 1, 0, 0, -1, 0, 2, 0, 33, 1, 1])], [], [])
theorem oo_jLat_indexOfChar_v404_1 {kA : Nat → ClassId} : or_ok PRD kA GG o_jLat_indexOfChar_v404_1 := by
  refine or_mk fun A ta ws vs hD hth hl => ?_
  intro t1 k1 t5 k5 t8 k8 t10 k10 f0 f1
  have nf0 : fc_1 PRD (20, [10, 1], [50, 0, 0, 3, 6, 0, 2, 1, 0, 0, -1, 0, 2, 0, 33, 1, 1]) ws (vs) := ⟨nf_in hl rfl, sgq_49 (vc_jLat_indexOfChar_v404_1_0 (v_iv (n_v vs 1)) (v_iv (n_v vs 5)) (v_iv (n_v vs 8)) (v_iv (n_v vs 10)) k1 k5 k8 k10 (shm_48 f0))⟩
  refine ⟨(fun _ h => (by cases h)), [], trivial, ?_, (fun _ h => (by cases h))⟩
  rw [List.append_nil]
  exact List.forall_mem_cons.mpr ⟨⟨show (20 : Nat) < 100 from by decide, nf0⟩, (fun _ h => (by cases h))⟩
set_option maxHeartbeats 4000000 in
theorem vc_jLat_indexOfChar_v404_2_0 (x1 : Int) (x5 : Int) (x7 : Int) (x8 : Int) (x9 : Int) (x10 : Int) (k1 : 0 ≤ x1 ∧ x1 ≤ 127) (k5 : 0 ≤ x5 ∧ x5 ≤ 127) (k7 : 14 ≤ x7 ∧ x7 ≤ 14) (k8 : 40 ≤ x8 ∧ x8 ≤ 125) (k9 : 0 ≤ x9 ∧ x9 ≤ 13) (k10 : 40 ≤ x10 ∧ x10 ≤ 125) (d0 : x8 + 0 ≤ x10 ∧ x10 ≤ x8 + 0) (f0 : x10 = x8) (f1 : x9 < x7) (f2 : x8 = x1) : (x9 ≤ (-1)) ∨ (33 ≤ x1) := by
  first | assumption | omega | grind
def o_jLat_indexOfChar_v404_2 : or_T := (24, 11, [(1, (0, 0, 127, [])), (5, (0, 0, 127, [])), (7, (0, 14, 14, [])), (8, (0, 40, 125, [])), (9, (0, 0, 13, [])), (10, (0, 40, 125, []))], [(7, [10, 8], [0]), (7, [9, 7], [2]), (20, [8, 1], [50, 0, 0, 1, 2, 1, 0, 1, 1]), (24, [1, 5], [])], [], [], [(20, [9, 1], [50, 0, 0, 3, 6, 0, 2, 1, 0, 0, -1, 0, 2, 0, 33, 1, 1])], [], [(10, 8, 0, 0)])
theorem oo_jLat_indexOfChar_v404_2 {kA : Nat → ClassId} : or_ok PRD kA GG o_jLat_indexOfChar_v404_2 := by
  refine or_mk fun A ta ws vs hD hth hl => ?_
  intro t1 k1 t5 k5 t7 k7 t8 k8 t9 k9 t10 k10 d0 f0 f1 f2 f3
  have nf0 : fc_1 PRD (20, [9, 1], [50, 0, 0, 3, 6, 0, 2, 1, 0, 0, -1, 0, 2, 0, 33, 1, 1]) ws (vs) := ⟨nf_in hl rfl, sgq_49 (vc_jLat_indexOfChar_v404_2_0 (v_iv (n_v vs 1)) (v_iv (n_v vs 5)) (v_iv (n_v vs 7)) (v_iv (n_v vs 8)) (v_iv (n_v vs 9)) (v_iv (n_v vs 10)) k1 k5 k7 k8 k9 k10 d0 (shm_37 f0) (shm_6 f1) (shm_48 f2))⟩
  refine ⟨(fun _ h => (by cases h)), [], trivial, ?_, (fun _ h => (by cases h))⟩
  rw [List.append_nil]
  exact List.forall_mem_cons.mpr ⟨⟨show (20 : Nat) < 100 from by decide, nf0⟩, (fun _ h => (by cases h))⟩
def n_jLat_indexOfChar_v404_an : List an_T := [(7, [(0, (2, 0, 0, [5205])), (1, (0, 0, 127, [])), (2, (0, 0, 0, [])), (3, (0, 14, 14, [])), (4, (0, 0, 127, [])), (5, (0, 0, 14, []))], [], (0, 0), [(0, 0, 99993), (1, 9, 14), (0, 0, 100000)], [], [], [(2, 0, 0, [5205]), (0, 0, 127, []), (0, 0, 0, []), (0, 14, 14, [])], 0, [], [(20, [8, 1], [50, 0, 0, 1, 2, 1, 0, 1, 1]), (24, [1, 5], [])])]
def t_jLat_indexOfChar_v404_ct : ct_L := [(1000005, 0, en_ro [(2, 0, 0, [5205]), (0, 0, 0, [])] (0, 58, 58, [])), (1000005, 0, en_ro [(2, 0, 0, [5205]), (0, 0, 13, [])] (0, 40, 125, []))]
set_option maxRecDepth 100000 in
theorem c_jLat_indexOfChar_v404 {l : Launch} {D : va_G} {kA : Nat → ClassId} : ct_ok PRD l D kA GG y_jLat_indexOfChar z_jLat_indexOfChar e_jLat_indexOfChar_v404 := chk_all_ok (FT := []) (PT := []) (CT := t_jLat_indexOfChar_v404_ct) (KT := []) (NT := []) (AN := n_jLat_indexOfChar_v404_an) (OT := [o_jLat_indexOfChar_v404_0, o_jLat_indexOfChar_v404_1, o_jLat_indexOfChar_v404_2]) 3 200 (List.forall_mem_cons.mpr ⟨oo_jLat_indexOfChar_v404_0, List.forall_mem_cons.mpr ⟨oo_jLat_indexOfChar_v404_1, List.forall_mem_cons.mpr ⟨oo_jLat_indexOfChar_v404_2, List.forall_mem_nil _⟩⟩⟩) (by decide +kernel) ⟨List.forall_mem_nil _, List.forall_mem_nil _, List.forall_mem_cons.mpr ⟨cl_tbyte1 (i := 5) (n := 14) (k := 0) rfl (by decide +kernel) (by decide +kernel) (by decide) (by decide +kernel), List.forall_mem_cons.mpr ⟨cl_tbyte (i := 5) (n := 14) rfl (by decide +kernel) (by decide +kernel) (by decide +kernel) (by decide +kernel), List.forall_mem_nil _⟩⟩, List.forall_mem_nil _, List.forall_mem_nil _, GG_pl⟩ (by decide +kernel)
def e_jMath_min1_v405 : en_T := ([(0, 0, 79, []), (0, 1000000, 1000000, [])], some (0, 0, 79, []), true, 1, 0, 0, [], [], (0, [], [], [(23, [0, 2], [0, -1, 1]), (23, [1, 2], [0, -1, 1])], []))
def o_jMath_min1_v405_0 : or_T := (10, 2, [(0, (0, 0, 79, [])), (1, (0, 1000000, 1000000, []))], [(7, [0, 1], [5])], [], [], [(23, [0, 0], [0, -1, 1]), (23, [1, 0], [0, -1, 1])], [], [])
theorem oo_jMath_min1_v405_0 {kA : Nat → ClassId} : or_ok PRD kA GG o_jMath_min1_v405_0 := by
  refine or_mk fun A ta ws vs hD hth hl => ?_
  intro t0 k0 t1 k1 f0
  replace f0 := shm_24 f0
  have nf0 : fc_1 PRD (23, [0, 0], [0, -1, 1]) ws (vs) := by
    refine ⟨nf_in hl rfl, sgq_23 ?_⟩
    · show (-1) * v_iv (n_v vs 0) + (1 * v_iv (n_v vs 0) + 0) ≤ 0
      omega
  have nf1 : fc_1 PRD (23, [1, 0], [0, -1, 1]) ws (vs) := by
    refine ⟨nf_in hl rfl, sgq_22 ?_⟩
    · show (-1) * v_iv (n_v vs 1) + (1 * v_iv (n_v vs 0) + 0) ≤ 0
      omega
  refine ⟨(fun _ h => (by cases h)), [], trivial, ?_, (fun _ h => (by cases h))⟩
  rw [List.append_nil]
  exact List.forall_mem_cons.mpr ⟨⟨show (23 : Nat) < 100 from by decide, nf0⟩, List.forall_mem_cons.mpr ⟨⟨show (23 : Nat) < 100 from by decide, nf1⟩, (fun _ h => (by cases h))⟩⟩
def n_jMath_min1_v405_an : List an_T := []
def t_jMath_min1_v405_ct : ct_L := []
set_option maxRecDepth 100000 in
theorem c_jMath_min1_v405 {l : Launch} {D : va_G} {kA : Nat → ClassId} : ct_ok PRD l D kA GG y_jMath_min1 z_jMath_min1 e_jMath_min1_v405 := chk_all_ok (FT := []) (PT := []) (CT := t_jMath_min1_v405_ct) (KT := []) (NT := []) (AN := n_jMath_min1_v405_an) (OT := [o_jMath_min1_v405_0]) 0 200 (List.forall_mem_cons.mpr ⟨oo_jMath_min1_v405_0, List.forall_mem_nil _⟩) (pl_Math rfl (by decide)) ⟨List.forall_mem_nil _, List.forall_mem_nil _, List.forall_mem_nil _, List.forall_mem_nil _, List.forall_mem_nil _, GG_pl⟩ (by decide +kernel)
def e_jMath_min1_v406 : en_T := ([(0, 0, 869, []), (0, 1000000, 1000000, [])], some (0, 0, 869, []), true, 1, 0, 0, [], [], (0, [], [], [(23, [0, 2], [0, -1, 1]), (23, [1, 2], [0, -1, 1])], []))
def o_jMath_min1_v406_0 : or_T := (10, 2, [(0, (0, 0, 869, [])), (1, (0, 1000000, 1000000, []))], [(7, [0, 1], [5])], [], [], [(23, [0, 0], [0, -1, 1]), (23, [1, 0], [0, -1, 1])], [], [])
theorem oo_jMath_min1_v406_0 {kA : Nat → ClassId} : or_ok PRD kA GG o_jMath_min1_v406_0 := by
  refine or_mk fun A ta ws vs hD hth hl => ?_
  intro t0 k0 t1 k1 f0
  replace f0 := shm_24 f0
  have nf0 : fc_1 PRD (23, [0, 0], [0, -1, 1]) ws (vs) := by
    refine ⟨nf_in hl rfl, sgq_23 ?_⟩
    · show (-1) * v_iv (n_v vs 0) + (1 * v_iv (n_v vs 0) + 0) ≤ 0
      omega
  have nf1 : fc_1 PRD (23, [1, 0], [0, -1, 1]) ws (vs) := by
    refine ⟨nf_in hl rfl, sgq_22 ?_⟩
    · show (-1) * v_iv (n_v vs 1) + (1 * v_iv (n_v vs 0) + 0) ≤ 0
      omega
  refine ⟨(fun _ h => (by cases h)), [], trivial, ?_, (fun _ h => (by cases h))⟩
  rw [List.append_nil]
  exact List.forall_mem_cons.mpr ⟨⟨show (23 : Nat) < 100 from by decide, nf0⟩, List.forall_mem_cons.mpr ⟨⟨show (23 : Nat) < 100 from by decide, nf1⟩, (fun _ h => (by cases h))⟩⟩
def n_jMath_min1_v406_an : List an_T := []
def t_jMath_min1_v406_ct : ct_L := []
set_option maxRecDepth 100000 in
theorem c_jMath_min1_v406 {l : Launch} {D : va_G} {kA : Nat → ClassId} : ct_ok PRD l D kA GG y_jMath_min1 z_jMath_min1 e_jMath_min1_v406 := chk_all_ok (FT := []) (PT := []) (CT := t_jMath_min1_v406_ct) (KT := []) (NT := []) (AN := n_jMath_min1_v406_an) (OT := [o_jMath_min1_v406_0]) 0 200 (List.forall_mem_cons.mpr ⟨oo_jMath_min1_v406_0, List.forall_mem_nil _⟩) (pl_Math rfl (by decide)) ⟨List.forall_mem_nil _, List.forall_mem_nil _, List.forall_mem_nil _, List.forall_mem_nil _, List.forall_mem_nil _, GG_pl⟩ (by decide +kernel)
def e_jMath_min1_v407 : en_T := ([(0, 0, 8769, []), (0, 1000000, 1000000, [])], some (0, 0, 8769, []), true, 1, 0, 0, [], [], (0, [], [], [(23, [0, 2], [0, -1, 1]), (23, [1, 2], [0, -1, 1])], []))
def o_jMath_min1_v407_0 : or_T := (10, 2, [(0, (0, 0, 8769, [])), (1, (0, 1000000, 1000000, []))], [(7, [0, 1], [5])], [], [], [(23, [0, 0], [0, -1, 1]), (23, [1, 0], [0, -1, 1])], [], [])
theorem oo_jMath_min1_v407_0 {kA : Nat → ClassId} : or_ok PRD kA GG o_jMath_min1_v407_0 := by
  refine or_mk fun A ta ws vs hD hth hl => ?_
  intro t0 k0 t1 k1 f0
  replace f0 := shm_24 f0
  have nf0 : fc_1 PRD (23, [0, 0], [0, -1, 1]) ws (vs) := by
    refine ⟨nf_in hl rfl, sgq_23 ?_⟩
    · show (-1) * v_iv (n_v vs 0) + (1 * v_iv (n_v vs 0) + 0) ≤ 0
      omega
  have nf1 : fc_1 PRD (23, [1, 0], [0, -1, 1]) ws (vs) := by
    refine ⟨nf_in hl rfl, sgq_22 ?_⟩
    · show (-1) * v_iv (n_v vs 1) + (1 * v_iv (n_v vs 0) + 0) ≤ 0
      omega
  refine ⟨(fun _ h => (by cases h)), [], trivial, ?_, (fun _ h => (by cases h))⟩
  rw [List.append_nil]
  exact List.forall_mem_cons.mpr ⟨⟨show (23 : Nat) < 100 from by decide, nf0⟩, List.forall_mem_cons.mpr ⟨⟨show (23 : Nat) < 100 from by decide, nf1⟩, (fun _ h => (by cases h))⟩⟩
def n_jMath_min1_v407_an : List an_T := []
def t_jMath_min1_v407_ct : ct_L := []
set_option maxRecDepth 100000 in
theorem c_jMath_min1_v407 {l : Launch} {D : va_G} {kA : Nat → ClassId} : ct_ok PRD l D kA GG y_jMath_min1 z_jMath_min1 e_jMath_min1_v407 := chk_all_ok (FT := []) (PT := []) (CT := t_jMath_min1_v407_ct) (KT := []) (NT := []) (AN := n_jMath_min1_v407_an) (OT := [o_jMath_min1_v407_0]) 0 200 (List.forall_mem_cons.mpr ⟨oo_jMath_min1_v407_0, List.forall_mem_nil _⟩) (pl_Math rfl (by decide)) ⟨List.forall_mem_nil _, List.forall_mem_nil _, List.forall_mem_nil _, List.forall_mem_nil _, List.forall_mem_nil _, GG_pl⟩ (by decide +kernel)
def e_jMath_min1_v408 : en_T := ([(0, 0, 87769, []), (0, 1000000, 1000000, [])], some (0, 0, 87769, []), true, 1, 0, 0, [], [], (0, [], [], [(23, [0, 2], [0, -1, 1]), (23, [1, 2], [0, -1, 1])], []))
def o_jMath_min1_v408_0 : or_T := (10, 2, [(0, (0, 0, 87769, [])), (1, (0, 1000000, 1000000, []))], [(7, [0, 1], [5])], [], [], [(23, [0, 0], [0, -1, 1]), (23, [1, 0], [0, -1, 1])], [], [])
theorem oo_jMath_min1_v408_0 {kA : Nat → ClassId} : or_ok PRD kA GG o_jMath_min1_v408_0 := by
  refine or_mk fun A ta ws vs hD hth hl => ?_
  intro t0 k0 t1 k1 f0
  replace f0 := shm_24 f0
  have nf0 : fc_1 PRD (23, [0, 0], [0, -1, 1]) ws (vs) := by
    refine ⟨nf_in hl rfl, sgq_23 ?_⟩
    · show (-1) * v_iv (n_v vs 0) + (1 * v_iv (n_v vs 0) + 0) ≤ 0
      omega
  have nf1 : fc_1 PRD (23, [1, 0], [0, -1, 1]) ws (vs) := by
    refine ⟨nf_in hl rfl, sgq_22 ?_⟩
    · show (-1) * v_iv (n_v vs 1) + (1 * v_iv (n_v vs 0) + 0) ≤ 0
      omega
  refine ⟨(fun _ h => (by cases h)), [], trivial, ?_, (fun _ h => (by cases h))⟩
  rw [List.append_nil]
  exact List.forall_mem_cons.mpr ⟨⟨show (23 : Nat) < 100 from by decide, nf0⟩, List.forall_mem_cons.mpr ⟨⟨show (23 : Nat) < 100 from by decide, nf1⟩, (fun _ h => (by cases h))⟩⟩
def n_jMath_min1_v408_an : List an_T := []
def t_jMath_min1_v408_ct : ct_L := []
set_option maxRecDepth 100000 in
theorem c_jMath_min1_v408 {l : Launch} {D : va_G} {kA : Nat → ClassId} : ct_ok PRD l D kA GG y_jMath_min1 z_jMath_min1 e_jMath_min1_v408 := chk_all_ok (FT := []) (PT := []) (CT := t_jMath_min1_v408_ct) (KT := []) (NT := []) (AN := n_jMath_min1_v408_an) (OT := [o_jMath_min1_v408_0]) 0 200 (List.forall_mem_cons.mpr ⟨oo_jMath_min1_v408_0, List.forall_mem_nil _⟩) (pl_Math rfl (by decide)) ⟨List.forall_mem_nil _, List.forall_mem_nil _, List.forall_mem_nil _, List.forall_mem_nil _, List.forall_mem_nil _, GG_pl⟩ (by decide +kernel)
def e_jMath_min1_v409 : en_T := ([(0, 0, 1310789, []), (0, 1000000, 1000000, [])], some (0, 0, 1000000, []), true, 1, 0, 0, [], [], (0, [], [], [(23, [0, 2], [0, -1, 1]), (23, [1, 2], [0, -1, 1])], []))
def o_jMath_min1_v409_0 : or_T := (10, 2, [(0, (0, 1000001, 1310789, [])), (1, (0, 1000000, 1000000, []))], [(7, [0, 1], [4])], [], [], [(23, [0, 1], [0, -1, 1]), (23, [1, 1], [0, -1, 1])], [], [])
theorem oo_jMath_min1_v409_0 {kA : Nat → ClassId} : or_ok PRD kA GG o_jMath_min1_v409_0 := by
  refine or_mk fun A ta ws vs hD hth hl => ?_
  intro t0 k0 t1 k1 f0
  replace f0 := shm_21 f0
  have nf0 : fc_1 PRD (23, [0, 1], [0, -1, 1]) ws (vs) := by
    refine ⟨nf_in hl rfl, sgq_22 ?_⟩
    · show (-1) * v_iv (n_v vs 0) + (1 * v_iv (n_v vs 1) + 0) ≤ 0
      omega
  have nf1 : fc_1 PRD (23, [1, 1], [0, -1, 1]) ws (vs) := by
    refine ⟨nf_in hl rfl, sgq_23 ?_⟩
    · show (-1) * v_iv (n_v vs 1) + (1 * v_iv (n_v vs 1) + 0) ≤ 0
      omega
  refine ⟨(fun _ h => (by cases h)), [], trivial, ?_, (fun _ h => (by cases h))⟩
  rw [List.append_nil]
  exact List.forall_mem_cons.mpr ⟨⟨show (23 : Nat) < 100 from by decide, nf0⟩, List.forall_mem_cons.mpr ⟨⟨show (23 : Nat) < 100 from by decide, nf1⟩, (fun _ h => (by cases h))⟩⟩
def o_jMath_min1_v409_1 : or_T := (10, 2, [(0, (0, 0, 1000000, [])), (1, (0, 1000000, 1000000, []))], [(7, [0, 1], [5])], [], [], [(23, [0, 0], [0, -1, 1]), (23, [1, 0], [0, -1, 1])], [], [])
theorem oo_jMath_min1_v409_1 {kA : Nat → ClassId} : or_ok PRD kA GG o_jMath_min1_v409_1 := by
  refine or_mk fun A ta ws vs hD hth hl => ?_
  intro t0 k0 t1 k1 f0
  replace f0 := shm_24 f0
  have nf0 : fc_1 PRD (23, [0, 0], [0, -1, 1]) ws (vs) := by
    refine ⟨nf_in hl rfl, sgq_23 ?_⟩
    · show (-1) * v_iv (n_v vs 0) + (1 * v_iv (n_v vs 0) + 0) ≤ 0
      omega
  have nf1 : fc_1 PRD (23, [1, 0], [0, -1, 1]) ws (vs) := by
    refine ⟨nf_in hl rfl, sgq_22 ?_⟩
    · show (-1) * v_iv (n_v vs 1) + (1 * v_iv (n_v vs 0) + 0) ≤ 0
      omega
  refine ⟨(fun _ h => (by cases h)), [], trivial, ?_, (fun _ h => (by cases h))⟩
  rw [List.append_nil]
  exact List.forall_mem_cons.mpr ⟨⟨show (23 : Nat) < 100 from by decide, nf0⟩, List.forall_mem_cons.mpr ⟨⟨show (23 : Nat) < 100 from by decide, nf1⟩, (fun _ h => (by cases h))⟩⟩
def n_jMath_min1_v409_an : List an_T := []
def t_jMath_min1_v409_ct : ct_L := []
set_option maxRecDepth 100000 in
theorem c_jMath_min1_v409 {l : Launch} {D : va_G} {kA : Nat → ClassId} : ct_ok PRD l D kA GG y_jMath_min1 z_jMath_min1 e_jMath_min1_v409 := chk_all_ok (FT := []) (PT := []) (CT := t_jMath_min1_v409_ct) (KT := []) (NT := []) (AN := n_jMath_min1_v409_an) (OT := [o_jMath_min1_v409_0, o_jMath_min1_v409_1]) 0 200 (List.forall_mem_cons.mpr ⟨oo_jMath_min1_v409_0, List.forall_mem_cons.mpr ⟨oo_jMath_min1_v409_1, List.forall_mem_nil _⟩⟩) (pl_Math rfl (by decide)) ⟨List.forall_mem_nil _, List.forall_mem_nil _, List.forall_mem_nil _, List.forall_mem_nil _, List.forall_mem_nil _, GG_pl⟩ (by decide +kernel)
def e_jMath_min1_v410 : en_T := ([(0, 0, 10000009, []), (0, 1000000, 1000000, [])], some (0, 0, 1000000, []), true, 1, 0, 0, [], [], (0, [], [], [(23, [0, 2], [0, -1, 1]), (23, [1, 2], [0, -1, 1])], []))
def o_jMath_min1_v410_0 : or_T := (10, 2, [(0, (0, 1000001, 10000009, [])), (1, (0, 1000000, 1000000, []))], [(7, [0, 1], [4])], [], [], [(23, [0, 1], [0, -1, 1]), (23, [1, 1], [0, -1, 1])], [], [])
theorem oo_jMath_min1_v410_0 {kA : Nat → ClassId} : or_ok PRD kA GG o_jMath_min1_v410_0 := by
  refine or_mk fun A ta ws vs hD hth hl => ?_
  intro t0 k0 t1 k1 f0
  replace f0 := shm_21 f0
  have nf0 : fc_1 PRD (23, [0, 1], [0, -1, 1]) ws (vs) := by
    refine ⟨nf_in hl rfl, sgq_22 ?_⟩
    · show (-1) * v_iv (n_v vs 0) + (1 * v_iv (n_v vs 1) + 0) ≤ 0
      omega
  have nf1 : fc_1 PRD (23, [1, 1], [0, -1, 1]) ws (vs) := by
    refine ⟨nf_in hl rfl, sgq_23 ?_⟩
    · show (-1) * v_iv (n_v vs 1) + (1 * v_iv (n_v vs 1) + 0) ≤ 0
      omega
  refine ⟨(fun _ h => (by cases h)), [], trivial, ?_, (fun _ h => (by cases h))⟩
  rw [List.append_nil]
  exact List.forall_mem_cons.mpr ⟨⟨show (23 : Nat) < 100 from by decide, nf0⟩, List.forall_mem_cons.mpr ⟨⟨show (23 : Nat) < 100 from by decide, nf1⟩, (fun _ h => (by cases h))⟩⟩
def o_jMath_min1_v410_1 : or_T := (10, 2, [(0, (0, 0, 1000000, [])), (1, (0, 1000000, 1000000, []))], [(7, [0, 1], [5])], [], [], [(23, [0, 0], [0, -1, 1]), (23, [1, 0], [0, -1, 1])], [], [])
theorem oo_jMath_min1_v410_1 {kA : Nat → ClassId} : or_ok PRD kA GG o_jMath_min1_v410_1 := by
  refine or_mk fun A ta ws vs hD hth hl => ?_
  intro t0 k0 t1 k1 f0
  replace f0 := shm_24 f0
  have nf0 : fc_1 PRD (23, [0, 0], [0, -1, 1]) ws (vs) := by
    refine ⟨nf_in hl rfl, sgq_23 ?_⟩
    · show (-1) * v_iv (n_v vs 0) + (1 * v_iv (n_v vs 0) + 0) ≤ 0
      omega
  have nf1 : fc_1 PRD (23, [1, 0], [0, -1, 1]) ws (vs) := by
    refine ⟨nf_in hl rfl, sgq_22 ?_⟩
    · show (-1) * v_iv (n_v vs 1) + (1 * v_iv (n_v vs 0) + 0) ≤ 0
      omega
  refine ⟨(fun _ h => (by cases h)), [], trivial, ?_, (fun _ h => (by cases h))⟩
  rw [List.append_nil]
  exact List.forall_mem_cons.mpr ⟨⟨show (23 : Nat) < 100 from by decide, nf0⟩, List.forall_mem_cons.mpr ⟨⟨show (23 : Nat) < 100 from by decide, nf1⟩, (fun _ h => (by cases h))⟩⟩
def n_jMath_min1_v410_an : List an_T := []
def t_jMath_min1_v410_ct : ct_L := []
set_option maxRecDepth 100000 in
theorem c_jMath_min1_v410 {l : Launch} {D : va_G} {kA : Nat → ClassId} : ct_ok PRD l D kA GG y_jMath_min1 z_jMath_min1 e_jMath_min1_v410 := chk_all_ok (FT := []) (PT := []) (CT := t_jMath_min1_v410_ct) (KT := []) (NT := []) (AN := n_jMath_min1_v410_an) (OT := [o_jMath_min1_v410_0, o_jMath_min1_v410_1]) 0 200 (List.forall_mem_cons.mpr ⟨oo_jMath_min1_v410_0, List.forall_mem_cons.mpr ⟨oo_jMath_min1_v410_1, List.forall_mem_nil _⟩⟩) (pl_Math rfl (by decide)) ⟨List.forall_mem_nil _, List.forall_mem_nil _, List.forall_mem_nil _, List.forall_mem_nil _, List.forall_mem_nil _, GG_pl⟩ (by decide +kernel)
def e_jMath_floorDiv1_v561 : en_T := ([(0, -600000011, 521100000, []), (0, 2, 2, [])], some (0, -600000012, 521100000, []), true, 1, 0, 0, [], [], (0, [], [], [(20, [2, 0], [50, 0, 0, 0, 6, 6, 2, 0, 2, 1, 0, 1, 1]), (20, [0, 2], [50, 0, 0, 0, 2, 1, 0, 4, 6, 6, 2, 0, 2, 1, 1, 0, 1])], []))
def o_jMath_floorDiv1_v561_0 : or_T := (22, 4, [(0, (0, -600000011, 521100000, [])), (1, (0, 2, 2, [])), (2, (0, -600000011, 521100000, [])), (3, (0, 0, 2147483647, []))], [(8, [3], [3]), (16, [3, 0, 1], [2]), (4, [2, 0, 1], [])], [], [], [(20, [2, 0], [50, 0, 0, 0, 6, 6, 2, 0, 2, 1, 0, 1, 1]), (20, [0, 2], [50, 0, 0, 0, 2, 1, 0, 4, 6, 6, 2, 0, 2, 1, 1, 0, 1])], [], [])
theorem oo_jMath_floorDiv1_v561_0 {kA : Nat → ClassId} : or_ok PRD kA GG o_jMath_floorDiv1_v561_0 := by
  refine or_mk fun A ta ws vs hD hth hl => ?_
  intro t0 k0 t1 k1 t2 k2 t3 k3 f0 f1 f2
  replace f0 := shm_32 f0
  replace f1 := shm_33 f1
  replace f2 := shm_34 f2
  have g5 := fdv (x := v_iv (n_v vs 0)) (y := v_iv (n_v vs 1)) (q := v_iv (n_v vs 2)) (by assumption) (by omega)
  have g8 : v_iv (n_v vs 2) * v_iv (n_v vs 1) = v_iv (n_v vs 1) * v_iv (n_v vs 2) := Int.mul_comm _ _
  have g7 := xor_sg (n := v_iv (n_v vs 3)) (a := v_iv (n_v vs 0)) (b := v_iv (n_v vs 1)) (by assumption) (by omega) (by omega) (by omega)
  have nf0 : fc_1 PRD (20, [2, 0], [50, 0, 0, 0, 6, 6, 2, 0, 2, 1, 0, 1, 1]) ws (vs) := by
    refine ⟨nf_in hl rfl, sgq_41 ?_⟩
    · show (2 * v_iv (n_v vs 2)) ≤ v_iv (n_v vs 0)
      first | omega | grind
  have nf1 : fc_1 PRD (20, [0, 2], [50, 0, 0, 0, 2, 1, 0, 4, 6, 6, 2, 0, 2, 1, 1, 0, 1]) ws (vs) := by
    refine ⟨nf_in hl rfl, sgq_42 ?_⟩
    · show v_iv (n_v vs 0) ≤ ((2 * v_iv (n_v vs 2)) + 1)
      first | omega | grind
  refine ⟨(fun _ h => (by cases h)), [], trivial, ?_, (fun _ h => (by cases h))⟩
  rw [List.append_nil]
  exact List.forall_mem_cons.mpr ⟨⟨show (20 : Nat) < 100 from by decide, nf0⟩, List.forall_mem_cons.mpr ⟨⟨show (20 : Nat) < 100 from by decide, nf1⟩, (fun _ h => (by cases h))⟩⟩
def o_jMath_floorDiv1_v561_1 : or_T := (22, 5, [(0, (0, -600000011, 521100000, [])), (1, (0, 2, 2, [])), (2, (0, -600000011, 521100000, [])), (3, (0, -2147483648, -1, [])), (4, (0, -600000011, 521100000, []))], [(7, [4, 0], [0]), (3, [4, 2, 1], []), (8, [3], [2]), (16, [3, 0, 1], [2]), (4, [2, 0, 1], [])], [], [], [(20, [2, 0], [50, 0, 0, 0, 6, 6, 2, 0, 2, 1, 0, 1, 1]), (20, [0, 2], [50, 0, 0, 0, 2, 1, 0, 4, 6, 6, 2, 0, 2, 1, 1, 0, 1])], [], [(4, 0, 0, 0)])
theorem oo_jMath_floorDiv1_v561_1 {kA : Nat → ClassId} : or_ok PRD kA GG o_jMath_floorDiv1_v561_1 := by
  refine or_mk fun A ta ws vs hD hth hl => ?_
  intro t0 k0 t1 k1 t2 k2 t3 k3 t4 k4 d0 f0 f1 f2 f3 f4
  replace f0 := shm_37 f0
  replace f1 := shm_38 f1
  rw [show v_iv (n_v vs 1) = 2 from by omega] at f1
  replace f2 := shm_39 f2
  replace f3 := shm_33 f3
  replace f4 := shm_34 f4
  have g5 := fdv (x := v_iv (n_v vs 0)) (y := v_iv (n_v vs 1)) (q := v_iv (n_v vs 2)) (by assumption) (by omega)
  have g8 : v_iv (n_v vs 2) * v_iv (n_v vs 1) = v_iv (n_v vs 1) * v_iv (n_v vs 2) := Int.mul_comm _ _
  have g7 := xor_sg (n := v_iv (n_v vs 3)) (a := v_iv (n_v vs 0)) (b := v_iv (n_v vs 1)) (by assumption) (by omega) (by omega) (by omega)
  have nf0 : fc_1 PRD (20, [2, 0], [50, 0, 0, 0, 6, 6, 2, 0, 2, 1, 0, 1, 1]) ws (vs) := by
    refine ⟨nf_in hl rfl, sgq_41 ?_⟩
    · show (2 * v_iv (n_v vs 2)) ≤ v_iv (n_v vs 0)
      first | omega | grind
  have nf1 : fc_1 PRD (20, [0, 2], [50, 0, 0, 0, 2, 1, 0, 4, 6, 6, 2, 0, 2, 1, 1, 0, 1]) ws (vs) := by
    refine ⟨nf_in hl rfl, sgq_42 ?_⟩
    · show v_iv (n_v vs 0) ≤ ((2 * v_iv (n_v vs 2)) + 1)
      first | omega | grind
  refine ⟨(fun _ h => (by cases h)), [], trivial, ?_, (fun _ h => (by cases h))⟩
  rw [List.append_nil]
  exact List.forall_mem_cons.mpr ⟨⟨show (20 : Nat) < 100 from by decide, nf0⟩, List.forall_mem_cons.mpr ⟨⟨show (20 : Nat) < 100 from by decide, nf1⟩, (fun _ h => (by cases h))⟩⟩
def o_jMath_floorDiv1_v561_2 : or_T := (20, 7, [(0, (0, -600000011, 521100000, [])), (1, (0, 2, 2, [])), (2, (0, -600000011, 521100000, [])), (3, (0, -2147483648, -1, [])), (4, (0, -1200000022, 1042200000, [])), (5, (0, 1, 1, [])), (6, (0, -600000012, 521099999, []))], [(2, [6, 2, 5], []), (7, [4, 0], [1]), (3, [4, 2, 1], []), (8, [3], [2]), (16, [3, 0, 1], [2]), (4, [2, 0, 1], [])], [], [], [(20, [6, 0], [50, 0, 0, 0, 6, 6, 2, 0, 2, 1, 0, 1, 1]), (20, [0, 6], [50, 0, 0, 0, 2, 1, 0, 4, 6, 6, 2, 0, 2, 1, 1, 0, 1])], [], [(6, 2, -1, -1)])
theorem oo_jMath_floorDiv1_v561_2 {kA : Nat → ClassId} : or_ok PRD kA GG o_jMath_floorDiv1_v561_2 := by
  refine or_mk fun A ta ws vs hD hth hl => ?_
  intro t0 k0 t1 k1 t2 k2 t3 k3 t4 k4 t5 k5 t6 k6 d0 f0 f1 f2 f3 f4 f5
  replace f0 := shm_14 f0
  replace f1 := shm_40 f1
  replace f2 := shm_38 f2
  rw [show v_iv (n_v vs 1) = 2 from by omega] at f2
  replace f3 := shm_39 f3
  replace f4 := shm_33 f4
  replace f5 := shm_34 f5
  have g5 := fdv (x := v_iv (n_v vs 0)) (y := v_iv (n_v vs 1)) (q := v_iv (n_v vs 2)) (by assumption) (by omega)
  have g8 : v_iv (n_v vs 2) * v_iv (n_v vs 1) = v_iv (n_v vs 1) * v_iv (n_v vs 2) := Int.mul_comm _ _
  have g6 := fd_1 (y := v_iv (n_v vs 1)) (q := v_iv (n_v vs 2)) (n := v_iv (n_v vs 6)) (by omega)
  have g7 := xor_sg (n := v_iv (n_v vs 3)) (a := v_iv (n_v vs 0)) (b := v_iv (n_v vs 1)) (by assumption) (by omega) (by omega) (by omega)
  have nf0 : fc_1 PRD (20, [6, 0], [50, 0, 0, 0, 6, 6, 2, 0, 2, 1, 0, 1, 1]) ws (vs) := by
    refine ⟨nf_in hl rfl, sgq_41 ?_⟩
    · show (2 * v_iv (n_v vs 6)) ≤ v_iv (n_v vs 0)
      first | omega | grind
  have nf1 : fc_1 PRD (20, [0, 6], [50, 0, 0, 0, 2, 1, 0, 4, 6, 6, 2, 0, 2, 1, 1, 0, 1]) ws (vs) := by
    refine ⟨nf_in hl rfl, sgq_42 ?_⟩
    · show v_iv (n_v vs 0) ≤ ((2 * v_iv (n_v vs 6)) + 1)
      first | omega | grind
  refine ⟨(fun _ h => (by cases h)), [], trivial, ?_, (fun _ h => (by cases h))⟩
  rw [List.append_nil]
  exact List.forall_mem_cons.mpr ⟨⟨show (20 : Nat) < 100 from by decide, nf0⟩, List.forall_mem_cons.mpr ⟨⟨show (20 : Nat) < 100 from by decide, nf1⟩, (fun _ h => (by cases h))⟩⟩
def n_jMath_floorDiv1_v561_an : List an_T := []
def t_jMath_floorDiv1_v561_ct : ct_L := []
set_option maxRecDepth 100000 in
theorem c_jMath_floorDiv1_v561 {l : Launch} {D : va_G} {kA : Nat → ClassId} : ct_ok PRD l D kA GG y_jMath_floorDiv1 z_jMath_floorDiv1 e_jMath_floorDiv1_v561 := chk_all_ok (FT := []) (PT := []) (CT := t_jMath_floorDiv1_v561_ct) (KT := []) (NT := []) (AN := n_jMath_floorDiv1_v561_an) (OT := [o_jMath_floorDiv1_v561_0, o_jMath_floorDiv1_v561_1, o_jMath_floorDiv1_v561_2]) 0 200 (List.forall_mem_cons.mpr ⟨oo_jMath_floorDiv1_v561_0, List.forall_mem_cons.mpr ⟨oo_jMath_floorDiv1_v561_1, List.forall_mem_cons.mpr ⟨oo_jMath_floorDiv1_v561_2, List.forall_mem_nil _⟩⟩⟩) (pl_Math rfl (by decide)) ⟨List.forall_mem_nil _, List.forall_mem_nil _, List.forall_mem_nil _, List.forall_mem_nil _, List.forall_mem_nil _, GG_pl⟩ (by decide +kernel)
def e_jMath_floorDiv1_v562 : en_T := ([(0, -1200000000, 1200000000, []), (0, 2, 2, [])], some (0, -1200000001, 1200000000, []), true, 1, 0, 0, [], [], (0, [], [], [], []))
def n_jMath_floorDiv1_v562_an : List an_T := []
def t_jMath_floorDiv1_v562_ct : ct_L := []
set_option maxRecDepth 100000 in
theorem c_jMath_floorDiv1_v562 {l : Launch} {D : va_G} {kA : Nat → ClassId} : ct_ok PRD l D kA GG y_jMath_floorDiv1 z_jMath_floorDiv1 e_jMath_floorDiv1_v562 := chk_all_ok (FT := []) (PT := []) (CT := t_jMath_floorDiv1_v562_ct) (KT := []) (NT := []) (AN := n_jMath_floorDiv1_v562_an) (OT := []) 0 200 (List.forall_mem_nil _) (pl_Math rfl (by decide)) ⟨List.forall_mem_nil _, List.forall_mem_nil _, List.forall_mem_nil _, List.forall_mem_nil _, List.forall_mem_nil _, GG_pl⟩ (by decide +kernel)
def e_jMath_floorDiv1_v563 : en_T := ([(0, -600000022, 442200000, []), (0, 2, 2, [])], some (0, -600000023, 442200000, []), true, 1, 0, 0, [], [], (0, [], [], [(20, [2, 0], [50, 0, 0, 0, 6, 6, 2, 0, 2, 1, 0, 1, 1]), (20, [0, 2], [50, 0, 0, 0, 2, 1, 0, 4, 6, 6, 2, 0, 2, 1, 1, 0, 1])], []))
def o_jMath_floorDiv1_v563_0 : or_T := (22, 4, [(0, (0, -600000022, 442200000, [])), (1, (0, 2, 2, [])), (2, (0, -600000022, 442200000, [])), (3, (0, 0, 2147483647, []))], [(8, [3], [3]), (16, [3, 0, 1], [2]), (4, [2, 0, 1], [])], [], [], [(20, [2, 0], [50, 0, 0, 0, 6, 6, 2, 0, 2, 1, 0, 1, 1]), (20, [0, 2], [50, 0, 0, 0, 2, 1, 0, 4, 6, 6, 2, 0, 2, 1, 1, 0, 1])], [], [])
theorem oo_jMath_floorDiv1_v563_0 {kA : Nat → ClassId} : or_ok PRD kA GG o_jMath_floorDiv1_v563_0 := by
  refine or_mk fun A ta ws vs hD hth hl => ?_
  intro t0 k0 t1 k1 t2 k2 t3 k3 f0 f1 f2
  replace f0 := shm_32 f0
  replace f1 := shm_33 f1
  replace f2 := shm_34 f2
  have g5 := fdv (x := v_iv (n_v vs 0)) (y := v_iv (n_v vs 1)) (q := v_iv (n_v vs 2)) (by assumption) (by omega)
  have g8 : v_iv (n_v vs 2) * v_iv (n_v vs 1) = v_iv (n_v vs 1) * v_iv (n_v vs 2) := Int.mul_comm _ _
  have g7 := xor_sg (n := v_iv (n_v vs 3)) (a := v_iv (n_v vs 0)) (b := v_iv (n_v vs 1)) (by assumption) (by omega) (by omega) (by omega)
  have nf0 : fc_1 PRD (20, [2, 0], [50, 0, 0, 0, 6, 6, 2, 0, 2, 1, 0, 1, 1]) ws (vs) := by
    refine ⟨nf_in hl rfl, sgq_41 ?_⟩
    · show (2 * v_iv (n_v vs 2)) ≤ v_iv (n_v vs 0)
      first | omega | grind
  have nf1 : fc_1 PRD (20, [0, 2], [50, 0, 0, 0, 2, 1, 0, 4, 6, 6, 2, 0, 2, 1, 1, 0, 1]) ws (vs) := by
    refine ⟨nf_in hl rfl, sgq_42 ?_⟩
    · show v_iv (n_v vs 0) ≤ ((2 * v_iv (n_v vs 2)) + 1)
      first | omega | grind
  refine ⟨(fun _ h => (by cases h)), [], trivial, ?_, (fun _ h => (by cases h))⟩
  rw [List.append_nil]
  exact List.forall_mem_cons.mpr ⟨⟨show (20 : Nat) < 100 from by decide, nf0⟩, List.forall_mem_cons.mpr ⟨⟨show (20 : Nat) < 100 from by decide, nf1⟩, (fun _ h => (by cases h))⟩⟩
def o_jMath_floorDiv1_v563_1 : or_T := (22, 5, [(0, (0, -600000022, 442200000, [])), (1, (0, 2, 2, [])), (2, (0, -600000022, 442200000, [])), (3, (0, -2147483648, -1, [])), (4, (0, -600000022, 442200000, []))], [(7, [4, 0], [0]), (3, [4, 2, 1], []), (8, [3], [2]), (16, [3, 0, 1], [2]), (4, [2, 0, 1], [])], [], [], [(20, [2, 0], [50, 0, 0, 0, 6, 6, 2, 0, 2, 1, 0, 1, 1]), (20, [0, 2], [50, 0, 0, 0, 2, 1, 0, 4, 6, 6, 2, 0, 2, 1, 1, 0, 1])], [], [(4, 0, 0, 0)])
theorem oo_jMath_floorDiv1_v563_1 {kA : Nat → ClassId} : or_ok PRD kA GG o_jMath_floorDiv1_v563_1 := by
  refine or_mk fun A ta ws vs hD hth hl => ?_
  intro t0 k0 t1 k1 t2 k2 t3 k3 t4 k4 d0 f0 f1 f2 f3 f4
  replace f0 := shm_37 f0
  replace f1 := shm_38 f1
  rw [show v_iv (n_v vs 1) = 2 from by omega] at f1
  replace f2 := shm_39 f2
  replace f3 := shm_33 f3
  replace f4 := shm_34 f4
  have g5 := fdv (x := v_iv (n_v vs 0)) (y := v_iv (n_v vs 1)) (q := v_iv (n_v vs 2)) (by assumption) (by omega)
  have g8 : v_iv (n_v vs 2) * v_iv (n_v vs 1) = v_iv (n_v vs 1) * v_iv (n_v vs 2) := Int.mul_comm _ _
  have g7 := xor_sg (n := v_iv (n_v vs 3)) (a := v_iv (n_v vs 0)) (b := v_iv (n_v vs 1)) (by assumption) (by omega) (by omega) (by omega)
  have nf0 : fc_1 PRD (20, [2, 0], [50, 0, 0, 0, 6, 6, 2, 0, 2, 1, 0, 1, 1]) ws (vs) := by
    refine ⟨nf_in hl rfl, sgq_41 ?_⟩
    · show (2 * v_iv (n_v vs 2)) ≤ v_iv (n_v vs 0)
      first | omega | grind
  have nf1 : fc_1 PRD (20, [0, 2], [50, 0, 0, 0, 2, 1, 0, 4, 6, 6, 2, 0, 2, 1, 1, 0, 1]) ws (vs) := by
    refine ⟨nf_in hl rfl, sgq_42 ?_⟩
    · show v_iv (n_v vs 0) ≤ ((2 * v_iv (n_v vs 2)) + 1)
      first | omega | grind
  refine ⟨(fun _ h => (by cases h)), [], trivial, ?_, (fun _ h => (by cases h))⟩
  rw [List.append_nil]
  exact List.forall_mem_cons.mpr ⟨⟨show (20 : Nat) < 100 from by decide, nf0⟩, List.forall_mem_cons.mpr ⟨⟨show (20 : Nat) < 100 from by decide, nf1⟩, (fun _ h => (by cases h))⟩⟩
def o_jMath_floorDiv1_v563_2 : or_T := (20, 7, [(0, (0, -600000022, 442200000, [])), (1, (0, 2, 2, [])), (2, (0, -600000022, 442200000, [])), (3, (0, -2147483648, -1, [])), (4, (0, -1200000044, 884400000, [])), (5, (0, 1, 1, [])), (6, (0, -600000023, 442199999, []))], [(2, [6, 2, 5], []), (7, [4, 0], [1]), (3, [4, 2, 1], []), (8, [3], [2]), (16, [3, 0, 1], [2]), (4, [2, 0, 1], [])], [], [], [(20, [6, 0], [50, 0, 0, 0, 6, 6, 2, 0, 2, 1, 0, 1, 1]), (20, [0, 6], [50, 0, 0, 0, 2, 1, 0, 4, 6, 6, 2, 0, 2, 1, 1, 0, 1])], [], [(6, 2, -1, -1)])
theorem oo_jMath_floorDiv1_v563_2 {kA : Nat → ClassId} : or_ok PRD kA GG o_jMath_floorDiv1_v563_2 := by
  refine or_mk fun A ta ws vs hD hth hl => ?_
  intro t0 k0 t1 k1 t2 k2 t3 k3 t4 k4 t5 k5 t6 k6 d0 f0 f1 f2 f3 f4 f5
  replace f0 := shm_14 f0
  replace f1 := shm_40 f1
  replace f2 := shm_38 f2
  rw [show v_iv (n_v vs 1) = 2 from by omega] at f2
  replace f3 := shm_39 f3
  replace f4 := shm_33 f4
  replace f5 := shm_34 f5
  have g5 := fdv (x := v_iv (n_v vs 0)) (y := v_iv (n_v vs 1)) (q := v_iv (n_v vs 2)) (by assumption) (by omega)
  have g8 : v_iv (n_v vs 2) * v_iv (n_v vs 1) = v_iv (n_v vs 1) * v_iv (n_v vs 2) := Int.mul_comm _ _
  have g6 := fd_1 (y := v_iv (n_v vs 1)) (q := v_iv (n_v vs 2)) (n := v_iv (n_v vs 6)) (by omega)
  have g7 := xor_sg (n := v_iv (n_v vs 3)) (a := v_iv (n_v vs 0)) (b := v_iv (n_v vs 1)) (by assumption) (by omega) (by omega) (by omega)
  have nf0 : fc_1 PRD (20, [6, 0], [50, 0, 0, 0, 6, 6, 2, 0, 2, 1, 0, 1, 1]) ws (vs) := by
    refine ⟨nf_in hl rfl, sgq_41 ?_⟩
    · show (2 * v_iv (n_v vs 6)) ≤ v_iv (n_v vs 0)
      first | omega | grind
  have nf1 : fc_1 PRD (20, [0, 6], [50, 0, 0, 0, 2, 1, 0, 4, 6, 6, 2, 0, 2, 1, 1, 0, 1]) ws (vs) := by
    refine ⟨nf_in hl rfl, sgq_42 ?_⟩
    · show v_iv (n_v vs 0) ≤ ((2 * v_iv (n_v vs 6)) + 1)
      first | omega | grind
  refine ⟨(fun _ h => (by cases h)), [], trivial, ?_, (fun _ h => (by cases h))⟩
  rw [List.append_nil]
  exact List.forall_mem_cons.mpr ⟨⟨show (20 : Nat) < 100 from by decide, nf0⟩, List.forall_mem_cons.mpr ⟨⟨show (20 : Nat) < 100 from by decide, nf1⟩, (fun _ h => (by cases h))⟩⟩
def n_jMath_floorDiv1_v563_an : List an_T := []
def t_jMath_floorDiv1_v563_ct : ct_L := []
set_option maxRecDepth 100000 in
theorem c_jMath_floorDiv1_v563 {l : Launch} {D : va_G} {kA : Nat → ClassId} : ct_ok PRD l D kA GG y_jMath_floorDiv1 z_jMath_floorDiv1 e_jMath_floorDiv1_v563 := chk_all_ok (FT := []) (PT := []) (CT := t_jMath_floorDiv1_v563_ct) (KT := []) (NT := []) (AN := n_jMath_floorDiv1_v563_an) (OT := [o_jMath_floorDiv1_v563_0, o_jMath_floorDiv1_v563_1, o_jMath_floorDiv1_v563_2]) 0 200 (List.forall_mem_cons.mpr ⟨oo_jMath_floorDiv1_v563_0, List.forall_mem_cons.mpr ⟨oo_jMath_floorDiv1_v563_1, List.forall_mem_cons.mpr ⟨oo_jMath_floorDiv1_v563_2, List.forall_mem_nil _⟩⟩⟩) (pl_Math rfl (by decide)) ⟨List.forall_mem_nil _, List.forall_mem_nil _, List.forall_mem_nil _, List.forall_mem_nil _, List.forall_mem_nil _, GG_pl⟩ (by decide +kernel)
def e_jMath_floorDiv1_v564 : en_T := ([(0, -1800000000, 1800000000, []), (0, 2, 2, [])], some (0, -1800000001, 1800000000, []), true, 1, 0, 0, [], [], (0, [], [], [], []))
def n_jMath_floorDiv1_v564_an : List an_T := []
def t_jMath_floorDiv1_v564_ct : ct_L := []
set_option maxRecDepth 100000 in
theorem c_jMath_floorDiv1_v564 {l : Launch} {D : va_G} {kA : Nat → ClassId} : ct_ok PRD l D kA GG y_jMath_floorDiv1 z_jMath_floorDiv1 e_jMath_floorDiv1_v564 := chk_all_ok (FT := []) (PT := []) (CT := t_jMath_floorDiv1_v564_ct) (KT := []) (NT := []) (AN := n_jMath_floorDiv1_v564_an) (OT := []) 0 200 (List.forall_mem_nil _) (pl_Math rfl (by decide)) ⟨List.forall_mem_nil _, List.forall_mem_nil _, List.forall_mem_nil _, List.forall_mem_nil _, List.forall_mem_nil _, GG_pl⟩ (by decide +kernel)
def e_jMath_floorDiv2_v565 : en_T := ([(1, -60256, 60256, []), (1, 16, 16, [])], some (1, -60257, 60256, []), true, 1, 0, 0, [], [], (0, [], [], [], []))
def n_jMath_floorDiv2_v565_an : List an_T := []
def t_jMath_floorDiv2_v565_ct : ct_L := []
set_option maxRecDepth 100000 in
theorem c_jMath_floorDiv2_v565 {l : Launch} {D : va_G} {kA : Nat → ClassId} : ct_ok PRD l D kA GG y_jMath_floorDiv2 z_jMath_floorDiv2 e_jMath_floorDiv2_v565 := chk_all_ok (FT := []) (PT := []) (CT := t_jMath_floorDiv2_v565_ct) (KT := []) (NT := []) (AN := n_jMath_floorDiv2_v565_an) (OT := []) 0 200 (List.forall_mem_nil _) (pl_Math rfl (by decide)) ⟨List.forall_mem_nil _, List.forall_mem_nil _, List.forall_mem_nil _, List.forall_mem_nil _, List.forall_mem_nil _, GG_pl⟩ (by decide +kernel)
def e_jMath_max1_v754 : en_T := ([(0, 0, 0, []), (0, 1, 24, [])], some (0, 1, 24, []), true, 1, 0, 0, [], [], (0, [], [], [(23, [0, 2], [0, 1, -1]), (23, [1, 2], [0, 1, -1])], []))
def o_jMath_max1_v754_0 : or_T := (10, 2, [(0, (0, 0, 0, [])), (1, (0, 1, 24, []))], [(7, [0, 1], [2])], [], [], [(23, [0, 1], [0, 1, -1]), (23, [1, 1], [0, 1, -1])], [], [])
theorem oo_jMath_max1_v754_0 {kA : Nat → ClassId} : or_ok PRD kA GG o_jMath_max1_v754_0 := by
  refine or_mk fun A ta ws vs hD hth hl => ?_
  intro t0 k0 t1 k1 f0
  replace f0 := shm_6 f0
  have nf0 : fc_1 PRD (23, [0, 1], [0, 1, -1]) ws (vs) := by
    refine ⟨nf_in hl rfl, sgq_7 ?_⟩
    · show 1 * v_iv (n_v vs 0) + ((-1) * v_iv (n_v vs 1) + 0) ≤ 0
      omega
  have nf1 : fc_1 PRD (23, [1, 1], [0, 1, -1]) ws (vs) := by
    refine ⟨nf_in hl rfl, sgq_8 ?_⟩
    · show 1 * v_iv (n_v vs 1) + ((-1) * v_iv (n_v vs 1) + 0) ≤ 0
      omega
  refine ⟨(fun _ h => (by cases h)), [], trivial, ?_, (fun _ h => (by cases h))⟩
  rw [List.append_nil]
  exact List.forall_mem_cons.mpr ⟨⟨show (23 : Nat) < 100 from by decide, nf0⟩, List.forall_mem_cons.mpr ⟨⟨show (23 : Nat) < 100 from by decide, nf1⟩, (fun _ h => (by cases h))⟩⟩
def n_jMath_max1_v754_an : List an_T := []
def t_jMath_max1_v754_ct : ct_L := []
set_option maxRecDepth 100000 in
theorem c_jMath_max1_v754 {l : Launch} {D : va_G} {kA : Nat → ClassId} : ct_ok PRD l D kA GG y_jMath_max1 z_jMath_max1 e_jMath_max1_v754 := chk_all_ok (FT := []) (PT := []) (CT := t_jMath_max1_v754_ct) (KT := []) (NT := []) (AN := n_jMath_max1_v754_an) (OT := [o_jMath_max1_v754_0]) 0 200 (List.forall_mem_cons.mpr ⟨oo_jMath_max1_v754_0, List.forall_mem_nil _⟩) (pl_Math rfl (by decide)) ⟨List.forall_mem_nil _, List.forall_mem_nil _, List.forall_mem_nil _, List.forall_mem_nil _, List.forall_mem_nil _, GG_pl⟩ (by decide +kernel)
def e_jMath_max1_v755 : en_T := ([(0, 0, 24, []), (0, 1, 24, [])], some (0, 1, 24, []), true, 1, 0, 0, [], [], (0, [], [], [(23, [0, 2], [0, 1, -1]), (23, [1, 2], [0, 1, -1])], []))
def o_jMath_max1_v755_0 : or_T := (10, 2, [(0, (0, 0, 23, [])), (1, (0, 1, 24, []))], [(7, [0, 1], [2])], [], [], [(23, [0, 1], [0, 1, -1]), (23, [1, 1], [0, 1, -1])], [], [(0, 1, -4294967296, -1)])
theorem oo_jMath_max1_v755_0 {kA : Nat → ClassId} : or_ok PRD kA GG o_jMath_max1_v755_0 := by
  refine or_mk fun A ta ws vs hD hth hl => ?_
  intro t0 k0 t1 k1 d0 f0
  replace f0 := shm_6 f0
  have nf0 : fc_1 PRD (23, [0, 1], [0, 1, -1]) ws (vs) := by
    refine ⟨nf_in hl rfl, sgq_7 ?_⟩
    · show 1 * v_iv (n_v vs 0) + ((-1) * v_iv (n_v vs 1) + 0) ≤ 0
      omega
  have nf1 : fc_1 PRD (23, [1, 1], [0, 1, -1]) ws (vs) := by
    refine ⟨nf_in hl rfl, sgq_8 ?_⟩
    · show 1 * v_iv (n_v vs 1) + ((-1) * v_iv (n_v vs 1) + 0) ≤ 0
      omega
  refine ⟨(fun _ h => (by cases h)), [], trivial, ?_, (fun _ h => (by cases h))⟩
  rw [List.append_nil]
  exact List.forall_mem_cons.mpr ⟨⟨show (23 : Nat) < 100 from by decide, nf0⟩, List.forall_mem_cons.mpr ⟨⟨show (23 : Nat) < 100 from by decide, nf1⟩, (fun _ h => (by cases h))⟩⟩
def o_jMath_max1_v755_1 : or_T := (10, 2, [(0, (0, 1, 24, [])), (1, (0, 1, 24, []))], [(7, [0, 1], [3])], [], [], [(23, [0, 0], [0, 1, -1]), (23, [1, 0], [0, 1, -1])], [], [(0, 1, 0, 4294967296)])
theorem oo_jMath_max1_v755_1 {kA : Nat → ClassId} : or_ok PRD kA GG o_jMath_max1_v755_1 := by
  refine or_mk fun A ta ws vs hD hth hl => ?_
  intro t0 k0 t1 k1 d0 f0
  replace f0 := shm_2 f0
  have nf0 : fc_1 PRD (23, [0, 0], [0, 1, -1]) ws (vs) := by
    refine ⟨nf_in hl rfl, sgq_8 ?_⟩
    · show 1 * v_iv (n_v vs 0) + ((-1) * v_iv (n_v vs 0) + 0) ≤ 0
      omega
  have nf1 : fc_1 PRD (23, [1, 0], [0, 1, -1]) ws (vs) := by
    refine ⟨nf_in hl rfl, sgq_7 ?_⟩
    · show 1 * v_iv (n_v vs 1) + ((-1) * v_iv (n_v vs 0) + 0) ≤ 0
      omega
  refine ⟨(fun _ h => (by cases h)), [], trivial, ?_, (fun _ h => (by cases h))⟩
  rw [List.append_nil]
  exact List.forall_mem_cons.mpr ⟨⟨show (23 : Nat) < 100 from by decide, nf0⟩, List.forall_mem_cons.mpr ⟨⟨show (23 : Nat) < 100 from by decide, nf1⟩, (fun _ h => (by cases h))⟩⟩
def n_jMath_max1_v755_an : List an_T := []
def t_jMath_max1_v755_ct : ct_L := []
set_option maxRecDepth 100000 in
theorem c_jMath_max1_v755 {l : Launch} {D : va_G} {kA : Nat → ClassId} : ct_ok PRD l D kA GG y_jMath_max1 z_jMath_max1 e_jMath_max1_v755 := chk_all_ok (FT := []) (PT := []) (CT := t_jMath_max1_v755_ct) (KT := []) (NT := []) (AN := n_jMath_max1_v755_an) (OT := [o_jMath_max1_v755_0, o_jMath_max1_v755_1]) 0 200 (List.forall_mem_cons.mpr ⟨oo_jMath_max1_v755_0, List.forall_mem_cons.mpr ⟨oo_jMath_max1_v755_1, List.forall_mem_nil _⟩⟩) (pl_Math rfl (by decide)) ⟨List.forall_mem_nil _, List.forall_mem_nil _, List.forall_mem_nil _, List.forall_mem_nil _, List.forall_mem_nil _, GG_pl⟩ (by decide +kernel)
def e_jArr_fill1_v756 : en_T := ([(2, 0, 0, [22]), (0, 0, 0, [])], none, false, 1, 0, 0, [], [], (4194304, [], [], [(20, [0, 1], [8, 0, 0, 128])], []))
def o_jArr_fill1_v756_0 : or_T := (5, 4, [(2, (0, 0, 0, []))], [], [], [], [(20, [0, 2], [8, 0, 0, 0])], [], [])
theorem oo_jArr_fill1_v756_0 {kA : Nat → ClassId} : or_ok PRD kA GG o_jArr_fill1_v756_0 := by
  refine or_mk fun A ta ws vs hD hth hl => ?_
  intro t2 k2
  have nf0 : fc_1 PRD (20, [0, 2], [8, 0, 0, 0]) ws (vs) := by
    refine ⟨nf_in hl rfl, sgq_0 ?_⟩
    · show ∀ j : Nat, (j : Int) < v_iv (n_v vs 2) + 0 → 0 ≤ w_el ws (v_ad (n_v vs 0)) j ∧ w_el ws (v_ad (n_v vs 0)) j ≤ 0
      intro j hj
      exfalso; omega
  refine ⟨(fun _ h => (by cases h)), [], trivial, ?_, (fun _ h => (by cases h))⟩
  rw [List.append_nil]
  exact List.forall_mem_cons.mpr ⟨⟨show (20 : Nat) < 100 from by decide, nf0⟩, (fun _ h => (by cases h))⟩
def o_jArr_fill1_v756_1 : or_T := (5, 4, [], [], [], [], [(24, [0, 0], [])], [], [])
theorem oo_jArr_fill1_v756_1 {kA : Nat → ClassId} : or_ok PRD kA GG o_jArr_fill1_v756_1 := by
  refine or_mk fun A ta ws vs hD hth hl => ?_
  have nf0 : fc_1 PRD (24, [0, 0], []) ws (vs) := by
    refine ⟨nf_in hl rfl, sgq_1 ?_⟩
    · show n_v vs 0 = n_v vs 0
      first | rfl | simp only [true_and]
  refine ⟨(fun _ h => (by cases h)), [], trivial, ?_, (fun _ h => (by cases h))⟩
  rw [List.append_nil]
  exact List.forall_mem_cons.mpr ⟨⟨show (24 : Nat) < 100 from by decide, nf0⟩, (fun _ h => (by cases h))⟩
def o_jArr_fill1_v756_2 : or_T := (20, 6, [(1, (0, 0, 0, [])), (4, (0, 128, 128, [])), (5, (0, 128, 128, []))], [(7, [4, 5], [3]), (20, [0, 4], [8, 0, 0, 0])], [], [], [(20, [0, 1], [8, 0, 0, 128])], [], [])
theorem oo_jArr_fill1_v756_2 {kA : Nat → ClassId} : or_ok PRD kA GG o_jArr_fill1_v756_2 := by
  refine or_mk fun A ta ws vs hD hth hl => ?_
  intro t1 k1 t4 k4 t5 k5 f0 f1
  replace f0 := shm_2 f0
  replace f1 := shm_0 f1
  have nf0 : fc_1 PRD (20, [0, 1], [8, 0, 0, 128]) ws (vs) := by
    refine ⟨nf_in hl rfl, sgq_50 ?_⟩
    · show ∀ j : Nat, (j : Int) < v_iv (n_v vs 1) + 128 → 0 ≤ w_el ws (v_ad (n_v vs 0)) j ∧ w_el ws (v_ad (n_v vs 0)) j ≤ 0
      intro j hj
      exact f1 j (by omega)
  refine ⟨(fun _ h => (by cases h)), [], trivial, ?_, (fun _ h => (by cases h))⟩
  rw [List.append_nil]
  exact List.forall_mem_cons.mpr ⟨⟨show (20 : Nat) < 100 from by decide, nf0⟩, (fun _ h => (by cases h))⟩
def o_jArr_fill1_v756_3 : or_T := (5, 7, [(3, (0, 0, 0, [])), (4, (0, 0, 127, [])), (5, (0, 128, 128, [])), (6, (0, 1, 128, []))], [(6, [6, 4], [1]), (24, [0, 2], []), (100, [2, 4, 3], []), (7, [4, 5], [2]), (20, [0, 4], [8, 0, 0, 0])], [], [], [(20, [0, 6], [8, 0, 0, 0])], [], [(6, 4, 1, 1)])
theorem oo_jArr_fill1_v756_3 {kA : Nat → ClassId} : or_ok PRD kA GG o_jArr_fill1_v756_3 := by
  refine or_mk fun A ta ws vs hD hth hl => ?_
  intro t3 k3 t4 k4 t5 k5 t6 k6 d0 f0 f1 ta1 w1 le1 s1 f3 f4
  replace f0 := shm_4 f0
  replace f1 := shm_5 f1
  have s1 : (∀ b j, w_el ws b j = if b = v_ad (n_v vs 2) ∧ j = (v_iv (n_v vs 4)).toNat then v_iv (n_v vs 3) else w_el w1 b j) ∧ ∀ b k, w_fd ws b k = w_fd w1 b k := s1.2
  replace f3 := shm_6 f3
  replace f4 := shm_0 f4
  rw [← f1] at s1
  have nf0 : fc_1 PRD (20, [0, 6], [8, 0, 0, 0]) ws (vs) := by
    refine ⟨nf_in hl rfl, sgq_0 ?_⟩
    · show ∀ j : Nat, (j : Int) < v_iv (n_v vs 6) + 0 → 0 ≤ w_el ws (v_ad (n_v vs 0)) j ∧ w_el ws (v_ad (n_v vs 0)) j ≤ 0
      intro j hj
      by_cases hji : j = (v_iv (n_v vs 4)).toNat
      · rw [s1.1, if_pos ⟨rfl, hji⟩]; first | (constructor <;> omega) | (exfalso; omega)
      · rw [s1.1, if_neg (fun e => hji e.2)]; exact f4 j (by omega)
  refine ⟨(fun _ h => (by cases h)), [], trivial, ?_, (fun _ h => (by cases h))⟩
  rw [List.append_nil]
  exact List.forall_mem_cons.mpr ⟨⟨show (20 : Nat) < 100 from by decide, nf0⟩, (fun _ h => (by cases h))⟩
def n_jArr_fill1_v756_an : List an_T := [(5, [(0, (2, 0, 0, [22])), (1, (0, 0, 0, [])), (2, (0, 0, 128, [])), (3, (0, 128, 128, []))], [], (0, 0), [(0, 0, 99995), (1, 4, 128), (0, 0, 100000)], [], [], [(2, 0, 0, [22]), (0, 0, 0, [])], 0, [], [(20, [0, 4], [8, 0, 0, 0]), (24, [0, 2], [])])]
def t_jArr_fill1_v756_ct : ct_L := []
set_option maxRecDepth 100000 in
theorem c_jArr_fill1_v756 {l : Launch} {D : va_G} {kA : Nat → ClassId} : ct_ok PRD l D kA GG y_jArr_fill1 z_jArr_fill1 e_jArr_fill1_v756 := chk_all_ok (FT := []) (PT := []) (CT := t_jArr_fill1_v756_ct) (KT := []) (NT := []) (AN := n_jArr_fill1_v756_an) (OT := [o_jArr_fill1_v756_0, o_jArr_fill1_v756_1, o_jArr_fill1_v756_2, o_jArr_fill1_v756_3]) 3 200 (List.forall_mem_cons.mpr ⟨oo_jArr_fill1_v756_0, List.forall_mem_cons.mpr ⟨oo_jArr_fill1_v756_1, List.forall_mem_cons.mpr ⟨oo_jArr_fill1_v756_2, List.forall_mem_cons.mpr ⟨oo_jArr_fill1_v756_3, List.forall_mem_nil _⟩⟩⟩⟩) (by decide +kernel) ⟨List.forall_mem_nil _, List.forall_mem_nil _, List.forall_mem_nil _, List.forall_mem_nil _, List.forall_mem_nil _, GG_pl⟩ (by decide +kernel)
def e_jMath_abs2_v757 : en_T := ([(1, -521100000, 600000011, [])], some (1, 0, 600000011, []), true, 1, 0, 0, [], [], (0, [], [], [], []))
def n_jMath_abs2_v757_an : List an_T := []
def t_jMath_abs2_v757_ct : ct_L := []
set_option maxRecDepth 100000 in
theorem c_jMath_abs2_v757 {l : Launch} {D : va_G} {kA : Nat → ClassId} : ct_ok PRD l D kA GG y_jMath_abs2 z_jMath_abs2 e_jMath_abs2_v757 := chk_all_ok (FT := []) (PT := []) (CT := t_jMath_abs2_v757_ct) (KT := []) (NT := []) (AN := n_jMath_abs2_v757_an) (OT := []) 0 200 (List.forall_mem_nil _) (pl_Math rfl (by decide)) ⟨List.forall_mem_nil _, List.forall_mem_nil _, List.forall_mem_nil _, List.forall_mem_nil _, List.forall_mem_nil _, GG_pl⟩ (by decide +kernel)
def e_jMath_abs2_v758 : en_T := ([(1, -1200000000, 1200000000, [])], some (1, 0, 1200000000, []), true, 1, 0, 0, [], [], (0, [], [], [], []))
def n_jMath_abs2_v758_an : List an_T := []
def t_jMath_abs2_v758_ct : ct_L := []
set_option maxRecDepth 100000 in
theorem c_jMath_abs2_v758 {l : Launch} {D : va_G} {kA : Nat → ClassId} : ct_ok PRD l D kA GG y_jMath_abs2 z_jMath_abs2 e_jMath_abs2_v758 := chk_all_ok (FT := []) (PT := []) (CT := t_jMath_abs2_v758_ct) (KT := []) (NT := []) (AN := n_jMath_abs2_v758_an) (OT := []) 0 200 (List.forall_mem_nil _) (pl_Math rfl (by decide)) ⟨List.forall_mem_nil _, List.forall_mem_nil _, List.forall_mem_nil _, List.forall_mem_nil _, List.forall_mem_nil _, GG_pl⟩ (by decide +kernel)
def e_jMath_abs2_v759 : en_T := ([(1, -521100011, 600000011, [])], some (1, 0, 600000011, []), true, 1, 0, 0, [], [], (0, [], [], [], []))
def n_jMath_abs2_v759_an : List an_T := []
def t_jMath_abs2_v759_ct : ct_L := []
set_option maxRecDepth 100000 in
theorem c_jMath_abs2_v759 {l : Launch} {D : va_G} {kA : Nat → ClassId} : ct_ok PRD l D kA GG y_jMath_abs2 z_jMath_abs2 e_jMath_abs2_v759 := chk_all_ok (FT := []) (PT := []) (CT := t_jMath_abs2_v759_ct) (KT := []) (NT := []) (AN := n_jMath_abs2_v759_an) (OT := []) 0 200 (List.forall_mem_nil _) (pl_Math rfl (by decide)) ⟨List.forall_mem_nil _, List.forall_mem_nil _, List.forall_mem_nil _, List.forall_mem_nil _, List.forall_mem_nil _, GG_pl⟩ (by decide +kernel)
def e_jMath_abs2_v760 : en_T := ([(1, -600000011, 600000000, [])], some (1, 0, 600000011, []), true, 1, 0, 0, [], [], (0, [], [], [], []))
def n_jMath_abs2_v760_an : List an_T := []
def t_jMath_abs2_v760_ct : ct_L := []
set_option maxRecDepth 100000 in
theorem c_jMath_abs2_v760 {l : Launch} {D : va_G} {kA : Nat → ClassId} : ct_ok PRD l D kA GG y_jMath_abs2 z_jMath_abs2 e_jMath_abs2_v760 := chk_all_ok (FT := []) (PT := []) (CT := t_jMath_abs2_v760_ct) (KT := []) (NT := []) (AN := n_jMath_abs2_v760_an) (OT := []) 0 200 (List.forall_mem_nil _) (pl_Math rfl (by decide)) ⟨List.forall_mem_nil _, List.forall_mem_nil _, List.forall_mem_nil _, List.forall_mem_nil _, List.forall_mem_nil _, GG_pl⟩ (by decide +kernel)
def e_jMath_abs2_v761 : en_T := ([(1, -1800000000, 1800000000, [])], some (1, 0, 1800000000, []), true, 1, 0, 0, [], [], (0, [], [], [], []))
def n_jMath_abs2_v761_an : List an_T := []
def t_jMath_abs2_v761_ct : ct_L := []
set_option maxRecDepth 100000 in
theorem c_jMath_abs2_v761 {l : Launch} {D : va_G} {kA : Nat → ClassId} : ct_ok PRD l D kA GG y_jMath_abs2 z_jMath_abs2 e_jMath_abs2_v761 := chk_all_ok (FT := []) (PT := []) (CT := t_jMath_abs2_v761_ct) (KT := []) (NT := []) (AN := n_jMath_abs2_v761_an) (OT := []) 0 200 (List.forall_mem_nil _) (pl_Math rfl (by decide)) ⟨List.forall_mem_nil _, List.forall_mem_nil _, List.forall_mem_nil _, List.forall_mem_nil _, List.forall_mem_nil _, GG_pl⟩ (by decide +kernel)
def e_jArr_fill1_v762 : en_T := ([(2, 0, 0, [138]), (0, 0, 0, [])], none, false, 1, 0, 0, [], [], (348449143727040986586495598010130648530944, [], [], [(20, [0, 1], [8, 0, 0, 4096])], []))
def o_jArr_fill1_v762_0 : or_T := (5, 4, [(2, (0, 0, 0, []))], [], [], [], [(20, [0, 2], [8, 0, 0, 0])], [], [])
theorem oo_jArr_fill1_v762_0 {kA : Nat → ClassId} : or_ok PRD kA GG o_jArr_fill1_v762_0 := by
  refine or_mk fun A ta ws vs hD hth hl => ?_
  intro t2 k2
  have nf0 : fc_1 PRD (20, [0, 2], [8, 0, 0, 0]) ws (vs) := by
    refine ⟨nf_in hl rfl, sgq_0 ?_⟩
    · show ∀ j : Nat, (j : Int) < v_iv (n_v vs 2) + 0 → 0 ≤ w_el ws (v_ad (n_v vs 0)) j ∧ w_el ws (v_ad (n_v vs 0)) j ≤ 0
      intro j hj
      exfalso; omega
  refine ⟨(fun _ h => (by cases h)), [], trivial, ?_, (fun _ h => (by cases h))⟩
  rw [List.append_nil]
  exact List.forall_mem_cons.mpr ⟨⟨show (20 : Nat) < 100 from by decide, nf0⟩, (fun _ h => (by cases h))⟩
def o_jArr_fill1_v762_1 : or_T := (5, 4, [], [], [], [], [(24, [0, 0], [])], [], [])
theorem oo_jArr_fill1_v762_1 {kA : Nat → ClassId} : or_ok PRD kA GG o_jArr_fill1_v762_1 := by
  refine or_mk fun A ta ws vs hD hth hl => ?_
  have nf0 : fc_1 PRD (24, [0, 0], []) ws (vs) := by
    refine ⟨nf_in hl rfl, sgq_1 ?_⟩
    · show n_v vs 0 = n_v vs 0
      first | rfl | simp only [true_and]
  refine ⟨(fun _ h => (by cases h)), [], trivial, ?_, (fun _ h => (by cases h))⟩
  rw [List.append_nil]
  exact List.forall_mem_cons.mpr ⟨⟨show (24 : Nat) < 100 from by decide, nf0⟩, (fun _ h => (by cases h))⟩
def o_jArr_fill1_v762_2 : or_T := (20, 6, [(1, (0, 0, 0, [])), (4, (0, 4096, 4096, [])), (5, (0, 4096, 4096, []))], [(7, [4, 5], [3]), (20, [0, 4], [8, 0, 0, 0])], [], [], [(20, [0, 1], [8, 0, 0, 4096])], [], [])
theorem oo_jArr_fill1_v762_2 {kA : Nat → ClassId} : or_ok PRD kA GG o_jArr_fill1_v762_2 := by
  refine or_mk fun A ta ws vs hD hth hl => ?_
  intro t1 k1 t4 k4 t5 k5 f0 f1
  replace f0 := shm_2 f0
  replace f1 := shm_0 f1
  have nf0 : fc_1 PRD (20, [0, 1], [8, 0, 0, 4096]) ws (vs) := by
    refine ⟨nf_in hl rfl, sgq_51 ?_⟩
    · show ∀ j : Nat, (j : Int) < v_iv (n_v vs 1) + 4096 → 0 ≤ w_el ws (v_ad (n_v vs 0)) j ∧ w_el ws (v_ad (n_v vs 0)) j ≤ 0
      intro j hj
      exact f1 j (by omega)
  refine ⟨(fun _ h => (by cases h)), [], trivial, ?_, (fun _ h => (by cases h))⟩
  rw [List.append_nil]
  exact List.forall_mem_cons.mpr ⟨⟨show (20 : Nat) < 100 from by decide, nf0⟩, (fun _ h => (by cases h))⟩
def o_jArr_fill1_v762_3 : or_T := (5, 7, [(3, (0, 0, 0, [])), (4, (0, 0, 4095, [])), (5, (0, 4096, 4096, [])), (6, (0, 1, 4096, []))], [(6, [6, 4], [1]), (24, [0, 2], []), (100, [2, 4, 3], []), (7, [4, 5], [2]), (20, [0, 4], [8, 0, 0, 0])], [], [], [(20, [0, 6], [8, 0, 0, 0])], [], [(6, 4, 1, 1)])
theorem oo_jArr_fill1_v762_3 {kA : Nat → ClassId} : or_ok PRD kA GG o_jArr_fill1_v762_3 := by
  refine or_mk fun A ta ws vs hD hth hl => ?_
  intro t3 k3 t4 k4 t5 k5 t6 k6 d0 f0 f1 ta1 w1 le1 s1 f3 f4
  replace f0 := shm_4 f0
  replace f1 := shm_5 f1
  have s1 : (∀ b j, w_el ws b j = if b = v_ad (n_v vs 2) ∧ j = (v_iv (n_v vs 4)).toNat then v_iv (n_v vs 3) else w_el w1 b j) ∧ ∀ b k, w_fd ws b k = w_fd w1 b k := s1.2
  replace f3 := shm_6 f3
  replace f4 := shm_0 f4
  rw [← f1] at s1
  have nf0 : fc_1 PRD (20, [0, 6], [8, 0, 0, 0]) ws (vs) := by
    refine ⟨nf_in hl rfl, sgq_0 ?_⟩
    · show ∀ j : Nat, (j : Int) < v_iv (n_v vs 6) + 0 → 0 ≤ w_el ws (v_ad (n_v vs 0)) j ∧ w_el ws (v_ad (n_v vs 0)) j ≤ 0
      intro j hj
      by_cases hji : j = (v_iv (n_v vs 4)).toNat
      · rw [s1.1, if_pos ⟨rfl, hji⟩]; first | (constructor <;> omega) | (exfalso; omega)
      · rw [s1.1, if_neg (fun e => hji e.2)]; exact f4 j (by omega)
  refine ⟨(fun _ h => (by cases h)), [], trivial, ?_, (fun _ h => (by cases h))⟩
  rw [List.append_nil]
  exact List.forall_mem_cons.mpr ⟨⟨show (20 : Nat) < 100 from by decide, nf0⟩, (fun _ h => (by cases h))⟩
def n_jArr_fill1_v762_an : List an_T := [(5, [(0, (2, 0, 0, [138])), (1, (0, 0, 0, [])), (2, (0, 0, 4096, [])), (3, (0, 4096, 4096, []))], [], (0, 0), [(0, 0, 99995), (1, 4, 4096), (0, 0, 100000)], [], [], [(2, 0, 0, [138]), (0, 0, 0, [])], 0, [], [(20, [0, 4], [8, 0, 0, 0]), (24, [0, 2], [])])]
def t_jArr_fill1_v762_ct : ct_L := []
set_option maxRecDepth 100000 in
theorem c_jArr_fill1_v762 {l : Launch} {D : va_G} {kA : Nat → ClassId} : ct_ok PRD l D kA GG y_jArr_fill1 z_jArr_fill1 e_jArr_fill1_v762 := chk_all_ok (FT := []) (PT := []) (CT := t_jArr_fill1_v762_ct) (KT := []) (NT := []) (AN := n_jArr_fill1_v762_an) (OT := [o_jArr_fill1_v762_0, o_jArr_fill1_v762_1, o_jArr_fill1_v762_2, o_jArr_fill1_v762_3]) 3 200 (List.forall_mem_cons.mpr ⟨oo_jArr_fill1_v762_0, List.forall_mem_cons.mpr ⟨oo_jArr_fill1_v762_1, List.forall_mem_cons.mpr ⟨oo_jArr_fill1_v762_2, List.forall_mem_cons.mpr ⟨oo_jArr_fill1_v762_3, List.forall_mem_nil _⟩⟩⟩⟩) (by decide +kernel) ⟨List.forall_mem_nil _, List.forall_mem_nil _, List.forall_mem_nil _, List.forall_mem_nil _, List.forall_mem_nil _, GG_pl⟩ (by decide +kernel)
def e_jMath_max1_v763 : en_T := ([(0, 0, 0, []), (0, -40000000, 690000000, [])], some (0, 0, 690000000, []), true, 1, 0, 0, [], [], (0, [], [], [(23, [0, 2], [0, 1, -1]), (23, [1, 2], [0, 1, -1])], []))
def o_jMath_max1_v763_0 : or_T := (10, 2, [(0, (0, 0, 0, [])), (1, (0, 1, 690000000, []))], [(7, [0, 1], [2])], [], [], [(23, [0, 1], [0, 1, -1]), (23, [1, 1], [0, 1, -1])], [], [])
theorem oo_jMath_max1_v763_0 {kA : Nat → ClassId} : or_ok PRD kA GG o_jMath_max1_v763_0 := by
  refine or_mk fun A ta ws vs hD hth hl => ?_
  intro t0 k0 t1 k1 f0
  replace f0 := shm_6 f0
  have nf0 : fc_1 PRD (23, [0, 1], [0, 1, -1]) ws (vs) := by
    refine ⟨nf_in hl rfl, sgq_7 ?_⟩
    · show 1 * v_iv (n_v vs 0) + ((-1) * v_iv (n_v vs 1) + 0) ≤ 0
      omega
  have nf1 : fc_1 PRD (23, [1, 1], [0, 1, -1]) ws (vs) := by
    refine ⟨nf_in hl rfl, sgq_8 ?_⟩
    · show 1 * v_iv (n_v vs 1) + ((-1) * v_iv (n_v vs 1) + 0) ≤ 0
      omega
  refine ⟨(fun _ h => (by cases h)), [], trivial, ?_, (fun _ h => (by cases h))⟩
  rw [List.append_nil]
  exact List.forall_mem_cons.mpr ⟨⟨show (23 : Nat) < 100 from by decide, nf0⟩, List.forall_mem_cons.mpr ⟨⟨show (23 : Nat) < 100 from by decide, nf1⟩, (fun _ h => (by cases h))⟩⟩
def o_jMath_max1_v763_1 : or_T := (10, 2, [(0, (0, 0, 0, [])), (1, (0, -40000000, 0, []))], [(7, [0, 1], [3])], [], [], [(23, [0, 0], [0, 1, -1]), (23, [1, 0], [0, 1, -1])], [], [])
theorem oo_jMath_max1_v763_1 {kA : Nat → ClassId} : or_ok PRD kA GG o_jMath_max1_v763_1 := by
  refine or_mk fun A ta ws vs hD hth hl => ?_
  intro t0 k0 t1 k1 f0
  replace f0 := shm_2 f0
  have nf0 : fc_1 PRD (23, [0, 0], [0, 1, -1]) ws (vs) := by
    refine ⟨nf_in hl rfl, sgq_8 ?_⟩
    · show 1 * v_iv (n_v vs 0) + ((-1) * v_iv (n_v vs 0) + 0) ≤ 0
      omega
  have nf1 : fc_1 PRD (23, [1, 0], [0, 1, -1]) ws (vs) := by
    refine ⟨nf_in hl rfl, sgq_7 ?_⟩
    · show 1 * v_iv (n_v vs 1) + ((-1) * v_iv (n_v vs 0) + 0) ≤ 0
      omega
  refine ⟨(fun _ h => (by cases h)), [], trivial, ?_, (fun _ h => (by cases h))⟩
  rw [List.append_nil]
  exact List.forall_mem_cons.mpr ⟨⟨show (23 : Nat) < 100 from by decide, nf0⟩, List.forall_mem_cons.mpr ⟨⟨show (23 : Nat) < 100 from by decide, nf1⟩, (fun _ h => (by cases h))⟩⟩
def n_jMath_max1_v763_an : List an_T := []
def t_jMath_max1_v763_ct : ct_L := []
set_option maxRecDepth 100000 in
theorem c_jMath_max1_v763 {l : Launch} {D : va_G} {kA : Nat → ClassId} : ct_ok PRD l D kA GG y_jMath_max1 z_jMath_max1 e_jMath_max1_v763 := chk_all_ok (FT := []) (PT := []) (CT := t_jMath_max1_v763_ct) (KT := []) (NT := []) (AN := n_jMath_max1_v763_an) (OT := [o_jMath_max1_v763_0, o_jMath_max1_v763_1]) 0 200 (List.forall_mem_cons.mpr ⟨oo_jMath_max1_v763_0, List.forall_mem_cons.mpr ⟨oo_jMath_max1_v763_1, List.forall_mem_nil _⟩⟩) (pl_Math rfl (by decide)) ⟨List.forall_mem_nil _, List.forall_mem_nil _, List.forall_mem_nil _, List.forall_mem_nil _, List.forall_mem_nil _, GG_pl⟩ (by decide +kernel)
def e_jMath_max1_v764 : en_T := ([(0, 0, 690000000, []), (0, -40000000, 690000000, [])], some (0, 0, 690000000, []), true, 1, 0, 0, [], [], (0, [], [], [(23, [0, 2], [0, 1, -1]), (23, [1, 2], [0, 1, -1]), (20, [2, 0, 1], [50, 0, 0, 3, 6, 1, 2, 1, 0, 1, 1, 1, 2, 1, 0, 1, 2])], []))
set_option maxHeartbeats 4000000 in
theorem vc_jMath_max1_v764_0_0 (x0 : Int) (x1 : Int) (k0 : 0 ≤ x0 ∧ x0 ≤ 689999999) (k1 : 1 ≤ x1 ∧ x1 ≤ 690000000) (d0 : x1 + (-4294967296) ≤ x0 ∧ x0 ≤ x1 + (-1)) (f0 : x0 < x1) : 1 * x0 + ((-1) * x1 + 0) ≤ 0 := by
  first | assumption | omega | grind
set_option maxHeartbeats 4000000 in
theorem vc_jMath_max1_v764_0_1 (x0 : Int) (x1 : Int) (k0 : 0 ≤ x0 ∧ x0 ≤ 689999999) (k1 : 1 ≤ x1 ∧ x1 ≤ 690000000) (d0 : x1 + (-4294967296) ≤ x0 ∧ x0 ≤ x1 + (-1)) (f0 : x0 < x1) : 1 * x1 + ((-1) * x1 + 0) ≤ 0 := by
  first | assumption | omega | grind
set_option maxHeartbeats 4000000 in
theorem vc_jMath_max1_v764_0_2 (x0 : Int) (x1 : Int) (k0 : 0 ≤ x0 ∧ x0 ≤ 689999999) (k1 : 1 ≤ x1 ∧ x1 ≤ 690000000) (d0 : x1 + (-4294967296) ≤ x0 ∧ x0 ≤ x1 + (-1)) (f0 : x0 < x1) : (x1 = x0) ∨ (x1 = x1) := by
  first | assumption | omega | grind
def o_jMath_max1_v764_0 : or_T := (10, 2, [(0, (0, 0, 689999999, [])), (1, (0, 1, 690000000, []))], [(7, [0, 1], [2])], [], [], [(23, [0, 1], [0, 1, -1]), (23, [1, 1], [0, 1, -1]), (20, [1, 0, 1], [50, 0, 0, 3, 6, 1, 2, 1, 0, 1, 1, 1, 2, 1, 0, 1, 2])], [], [(0, 1, -4294967296, -1)])
theorem oo_jMath_max1_v764_0 {kA : Nat → ClassId} : or_ok PRD kA GG o_jMath_max1_v764_0 := by
  refine or_mk fun A ta ws vs hD hth hl => ?_
  intro t0 k0 t1 k1 d0 f0
  have nf0 : fc_1 PRD (23, [0, 1], [0, 1, -1]) ws (vs) := ⟨nf_in hl rfl, sgq_7 (vc_jMath_max1_v764_0_0 (v_iv (n_v vs 0)) (v_iv (n_v vs 1)) k0 k1 d0 (shm_6 f0))⟩
  have nf1 : fc_1 PRD (23, [1, 1], [0, 1, -1]) ws (vs) := ⟨nf_in hl rfl, sgq_8 (vc_jMath_max1_v764_0_1 (v_iv (n_v vs 0)) (v_iv (n_v vs 1)) k0 k1 d0 (shm_6 f0))⟩
  have nf2 : fc_1 PRD (20, [1, 0, 1], [50, 0, 0, 3, 6, 1, 2, 1, 0, 1, 1, 1, 2, 1, 0, 1, 2]) ws (vs) := ⟨nf_in hl rfl, sgq_28 (vc_jMath_max1_v764_0_2 (v_iv (n_v vs 0)) (v_iv (n_v vs 1)) k0 k1 d0 (shm_6 f0))⟩
  refine ⟨(fun _ h => (by cases h)), [], trivial, ?_, (fun _ h => (by cases h))⟩
  rw [List.append_nil]
  exact List.forall_mem_cons.mpr ⟨⟨show (23 : Nat) < 100 from by decide, nf0⟩, List.forall_mem_cons.mpr ⟨⟨show (23 : Nat) < 100 from by decide, nf1⟩, List.forall_mem_cons.mpr ⟨⟨show (20 : Nat) < 100 from by decide, nf2⟩, (fun _ h => (by cases h))⟩⟩⟩
set_option maxHeartbeats 4000000 in
theorem vc_jMath_max1_v764_1_0 (x0 : Int) (x1 : Int) (k0 : 0 ≤ x0 ∧ x0 ≤ 690000000) (k1 : (-40000000) ≤ x1 ∧ x1 ≤ 690000000) (d0 : x1 + 0 ≤ x0 ∧ x0 ≤ x1 + 4294967296) (f0 : x1 ≤ x0) : 1 * x0 + ((-1) * x0 + 0) ≤ 0 := by
  first | assumption | omega | grind
set_option maxHeartbeats 4000000 in
theorem vc_jMath_max1_v764_1_1 (x0 : Int) (x1 : Int) (k0 : 0 ≤ x0 ∧ x0 ≤ 690000000) (k1 : (-40000000) ≤ x1 ∧ x1 ≤ 690000000) (d0 : x1 + 0 ≤ x0 ∧ x0 ≤ x1 + 4294967296) (f0 : x1 ≤ x0) : 1 * x1 + ((-1) * x0 + 0) ≤ 0 := by
  first | assumption | omega | grind
set_option maxHeartbeats 4000000 in
theorem vc_jMath_max1_v764_1_2 (x0 : Int) (x1 : Int) (k0 : 0 ≤ x0 ∧ x0 ≤ 690000000) (k1 : (-40000000) ≤ x1 ∧ x1 ≤ 690000000) (d0 : x1 + 0 ≤ x0 ∧ x0 ≤ x1 + 4294967296) (f0 : x1 ≤ x0) : (x0 = x0) ∨ (x0 = x1) := by
  first | assumption | omega | grind
def o_jMath_max1_v764_1 : or_T := (10, 2, [(0, (0, 0, 690000000, [])), (1, (0, -40000000, 690000000, []))], [(7, [0, 1], [3])], [], [], [(23, [0, 0], [0, 1, -1]), (23, [1, 0], [0, 1, -1]), (20, [0, 0, 1], [50, 0, 0, 3, 6, 1, 2, 1, 0, 1, 1, 1, 2, 1, 0, 1, 2])], [], [(0, 1, 0, 4294967296)])
theorem oo_jMath_max1_v764_1 {kA : Nat → ClassId} : or_ok PRD kA GG o_jMath_max1_v764_1 := by
  refine or_mk fun A ta ws vs hD hth hl => ?_
  intro t0 k0 t1 k1 d0 f0
  have nf0 : fc_1 PRD (23, [0, 0], [0, 1, -1]) ws (vs) := ⟨nf_in hl rfl, sgq_8 (vc_jMath_max1_v764_1_0 (v_iv (n_v vs 0)) (v_iv (n_v vs 1)) k0 k1 d0 (shm_2 f0))⟩
  have nf1 : fc_1 PRD (23, [1, 0], [0, 1, -1]) ws (vs) := ⟨nf_in hl rfl, sgq_7 (vc_jMath_max1_v764_1_1 (v_iv (n_v vs 0)) (v_iv (n_v vs 1)) k0 k1 d0 (shm_2 f0))⟩
  have nf2 : fc_1 PRD (20, [0, 0, 1], [50, 0, 0, 3, 6, 1, 2, 1, 0, 1, 1, 1, 2, 1, 0, 1, 2]) ws (vs) := ⟨nf_in hl rfl, sgq_29 (vc_jMath_max1_v764_1_2 (v_iv (n_v vs 0)) (v_iv (n_v vs 1)) k0 k1 d0 (shm_2 f0))⟩
  refine ⟨(fun _ h => (by cases h)), [], trivial, ?_, (fun _ h => (by cases h))⟩
  rw [List.append_nil]
  exact List.forall_mem_cons.mpr ⟨⟨show (23 : Nat) < 100 from by decide, nf0⟩, List.forall_mem_cons.mpr ⟨⟨show (23 : Nat) < 100 from by decide, nf1⟩, List.forall_mem_cons.mpr ⟨⟨show (20 : Nat) < 100 from by decide, nf2⟩, (fun _ h => (by cases h))⟩⟩⟩
def n_jMath_max1_v764_an : List an_T := []
def t_jMath_max1_v764_ct : ct_L := []
set_option maxRecDepth 100000 in
theorem c_jMath_max1_v764 {l : Launch} {D : va_G} {kA : Nat → ClassId} : ct_ok PRD l D kA GG y_jMath_max1 z_jMath_max1 e_jMath_max1_v764 := chk_all_ok (FT := []) (PT := []) (CT := t_jMath_max1_v764_ct) (KT := []) (NT := []) (AN := n_jMath_max1_v764_an) (OT := [o_jMath_max1_v764_0, o_jMath_max1_v764_1]) 0 200 (List.forall_mem_cons.mpr ⟨oo_jMath_max1_v764_0, List.forall_mem_cons.mpr ⟨oo_jMath_max1_v764_1, List.forall_mem_nil _⟩⟩) (pl_Math rfl (by decide)) ⟨List.forall_mem_nil _, List.forall_mem_nil _, List.forall_mem_nil _, List.forall_mem_nil _, List.forall_mem_nil _, GG_pl⟩ (by decide +kernel)
def e_jInt_bitCount_v765 : en_T := ([(0, 0, 33554431, [])], some (0, 0, 63, []), true, 1, 0, 0, [], [], (0, [], [], [(20, [0, 1], [61, 0, 554])], []))
def o_jInt_bitCount_v765_0 : or_T := (52, 26, [(0, (0, 0, 33554431, [])), (1, (0, 1, 1, [])), (2, (0, 0, 16777215, [])), (3, (0, 1431655765, 1431655765, [])), (4, (0, 0, 16777215, [])), (5, (0, -16777215, 33554431, [])), (6, (0, 858993459, 858993459, [])), (7, (0, 0, 858993459, [])), (8, (0, 2, 2, [])), (9, (0, -2147483648, 2147483647, [])), (10, (0, 858993459, 858993459, [])), (11, (0, 0, 858993459, [])), (12, (0, 0, 1717986918, [])), (13, (0, 4, 4, [])), (14, (0, 0, 107374182, [])), (15, (0, 0, 1825361100, [])), (16, (0, 252645135, 252645135, [])), (17, (0, 0, 252645135, [])), (18, (0, 8, 8, [])), (19, (0, 0, 986895, [])), (20, (0, 0, 253632030, [])), (21, (0, 16, 16, [])), (22, (0, 0, 3870, [])), (23, (0, 0, 253635900, [])), (24, (0, 63, 63, [])), (25, (0, 0, 63, []))], [(12, [25, 23], [64]), (16, [25, 23, 24], [0]), (1, [23, 20, 22], []), (16, [22, 20, 21], [4]), (1, [20, 17, 19], []), (16, [19, 17, 18], [4]), (16, [17, 15, 16], [0]), (1, [15, 12, 14], []), (16, [14, 12, 13], [4]), (1, [12, 7, 11], []), (16, [11, 9, 10], [0]), (16, [9, 5, 8], [4]), (16, [7, 5, 6], [0]), (2, [5, 0, 4], []), (16, [4, 2, 3], [0]), (16, [2, 0, 1], [4])], [], [], [(20, [0, 25], [61, 0, 554])], [], [(23, 22, 0, 253632030), (23, 20, 0, 3870), (23, 19, 0, 252649005), (23, 17, 0, 990765), (20, 19, 0, 252645135), (20, 17, 0, 986895), (15, 14, 0, 1717986918), (15, 12, 0, 107374182), (15, 11, 0, 966367641), (15, 7, 0, 966367641), (12, 11, 0, 858993459), (12, 7, 0, 858993459), (5, 0, -16777215, 0)])
theorem oo_jInt_bitCount_v765_0 {kA : Nat → ClassId} : or_ok PRD kA GG o_jInt_bitCount_v765_0 := by
  refine or_mk fun A ta ws vs hD hth hl => ?_
  intro t0 k0 t1 k1 t2 k2 t3 k3 t4 k4 t5 k5 t6 k6 t7 k7 t8 k8 t9 k9 t10 k10 t11 k11 t12 k12 t13 k13 t14 k14 t15 k15 t16 k16 t17 k17 t18 k18 t19 k19 t20 k20 t21 k21 t22 k22 t23 k23 t24 k24 t25 k25 d0 d1 d2 d3 d4 d5 d6 d7 d8 d9 d10 d11 d12 f0 f1 f2 f3 f4 f5 f6 f7 f8 f9 f10 f11 f12 f13 f14 f15
  replace f0 := shm_10 f0
  replace f1 := shm_11 f1
  replace f2 := shm_12 f2
  replace f3 := shm_13 f3
  replace f4 := shm_12 f4
  replace f5 := shm_13 f5
  replace f6 := shm_11 f6
  replace f7 := shm_12 f7
  replace f8 := shm_13 f8
  replace f9 := shm_12 f9
  replace f10 := shm_11 f10
  replace f11 := shm_13 f11
  replace f12 := shm_11 f12
  replace f13 := shm_14 f13
  replace f14 := shm_11 f14
  replace f15 := shm_13 f15
  have nf0 : fc_1 PRD (20, [0, 25], [61, 0, 554]) ws (vs) := by
    refine ⟨nf_in hl rfl, sgq_15 ?_⟩
    · show BCT (v_iv (n_v vs 0)) (v_iv (n_v vs 25))
      exact bct_of (by assumption) (by assumption) (by assumption) (by assumption) (by assumption) (by assumption) (by assumption) (by assumption) (by assumption) (by assumption) (by assumption) (by assumption) (by assumption) (by assumption) (by assumption) (by omega) (by omega) (by omega) (by omega) (by omega) (by omega) (by omega) (by omega) (by omega) (by omega) (by omega) (by omega)
  refine ⟨(fun _ h => (by cases h)), [], trivial, ?_, (fun _ h => (by cases h))⟩
  rw [List.append_nil]
  exact List.forall_mem_cons.mpr ⟨⟨show (20 : Nat) < 100 from by decide, nf0⟩, (fun _ h => (by cases h))⟩
def n_jInt_bitCount_v765_an : List an_T := []
def t_jInt_bitCount_v765_ct : ct_L := []
set_option maxRecDepth 100000 in
theorem c_jInt_bitCount_v765 {l : Launch} {D : va_G} {kA : Nat → ClassId} : ct_ok PRD l D kA GG y_jInt_bitCount z_jInt_bitCount e_jInt_bitCount_v765 := chk_all_ok (FT := []) (PT := []) (CT := t_jInt_bitCount_v765_ct) (KT := [(1, 265, .int (1431655765), (0, 1431655765, 1431655765, [])), (1, 266, .int (858993459), (0, 858993459, 858993459, [])), (1, 267, .int (252645135), (0, 252645135, 252645135, []))]) (NT := []) (AN := n_jInt_bitCount_v765_an) (OT := [o_jInt_bitCount_v765_0]) 0 200 (List.forall_mem_cons.mpr ⟨oo_jInt_bitCount_v765_0, List.forall_mem_nil _⟩) (by decide +kernel) ⟨List.forall_mem_nil _, List.forall_mem_nil _, List.forall_mem_nil _, List.forall_mem_cons.mpr ⟨kx_jInt_1_265, List.forall_mem_cons.mpr ⟨kx_jInt_1_266, List.forall_mem_cons.mpr ⟨kx_jInt_1_267, List.forall_mem_nil _⟩⟩⟩, List.forall_mem_nil _, GG_pl⟩ (by decide +kernel)
def e_jStr_checkIndex_v261 : en_T := ([(0, 0, 38, []), (0, 39, 39, [])], none, true, 2, 0, 0, [], [], (0, [], [], [], []))
theorem c_jStr_checkIndex_v261 {l : Launch} {D : va_G} {kA : Nat → ClassId} : ct_ok PRD l D kA GG y_jStr_checkIndex z_jStr_checkIndex e_jStr_checkIndex_v261 := c_hand_jStr_checkIndex (by decide) (by decide) (by decide)
def e_jStr_checkIndex_v265 : en_T := ([(0, 0, 9, []), (0, 10, 10, [])], none, true, 2, 0, 0, [], [], (0, [], [], [], []))
theorem c_jStr_checkIndex_v265 {l : Launch} {D : va_G} {kA : Nat → ClassId} : ct_ok PRD l D kA GG y_jStr_checkIndex z_jStr_checkIndex e_jStr_checkIndex_v265 := c_hand_jStr_checkIndex (by decide) (by decide) (by decide)
def e_jStr_checkIndex_v269 : en_T := ([(0, 0, 43, []), (0, 44, 44, [])], none, true, 2, 0, 0, [], [], (0, [], [], [], []))
theorem c_jStr_checkIndex_v269 {l : Launch} {D : va_G} {kA : Nat → ClassId} : ct_ok PRD l D kA GG y_jStr_checkIndex z_jStr_checkIndex e_jStr_checkIndex_v269 := c_hand_jStr_checkIndex (by decide) (by decide) (by decide)
def e_jStr_checkIndex_v273 : en_T := ([(0, 0, 2, []), (0, 3, 3, [])], none, true, 2, 0, 0, [], [], (0, [], [], [], []))
theorem c_jStr_checkIndex_v273 {l : Launch} {D : va_G} {kA : Nat → ClassId} : ct_ok PRD l D kA GG y_jStr_checkIndex z_jStr_checkIndex e_jStr_checkIndex_v273 := c_hand_jStr_checkIndex (by decide) (by decide) (by decide)
def e_jStr_checkIndex_v277 : en_T := ([(0, 0, 3, []), (0, 4, 4, [])], none, true, 2, 0, 0, [], [], (0, [], [], [], []))
theorem c_jStr_checkIndex_v277 {l : Launch} {D : va_G} {kA : Nat → ClassId} : ct_ok PRD l D kA GG y_jStr_checkIndex z_jStr_checkIndex e_jStr_checkIndex_v277 := c_hand_jStr_checkIndex (by decide) (by decide) (by decide)
def e_jStr_checkIndex_v285 : en_T := ([(0, 0, 16, []), (0, 17, 17, [])], none, true, 2, 0, 0, [], [], (0, [], [], [], []))
theorem c_jStr_checkIndex_v285 {l : Launch} {D : va_G} {kA : Nat → ClassId} : ct_ok PRD l D kA GG y_jStr_checkIndex z_jStr_checkIndex e_jStr_checkIndex_v285 := c_hand_jStr_checkIndex (by decide) (by decide) (by decide)
def e_jStr_length_v288 : en_T := ([(2, 0, 0, [5000])], some (0, 4, 4, []), true, 2, 0, 0, [], [], (0, [], [], [], []))
def n_jStr_length_v288_an : List an_T := []
def t_jStr_length_v288_ct : ct_L := [(22, 335, e_jStr_coder_v289), (1000003, 9, en_ro [(2, 0, 0, [5000])] (2, 0, 0, [5200])), (1000004, 0, en_ro [(2, 0, 0, [5200])] (0, 4, 4, []))]
set_option maxRecDepth 100000 in
theorem c_jStr_length_v288 {l : Launch} {D : va_G} {kA : Nat → ClassId} : ct_ok PRD l D kA GG y_jStr_length z_jStr_length e_jStr_length_v288 := chk_all_ok (FT := []) (PT := []) (CT := t_jStr_length_v288_ct) (KT := []) (NT := []) (AN := n_jStr_length_v288_an) (OT := []) 0 200 (List.forall_mem_nil _) (by decide +kernel) ⟨List.forall_mem_nil _, List.forall_mem_nil _, List.forall_mem_cons.mpr ⟨cl_stringS (y := y_jStr_coder) (rs := ro_strs) rfl (by decide +kernel) rfl c_jStr_coder_v289 wm_678 wm_11 wm_675 wm_676 wm_677 ⟨by decide, by decide, by decide +kernel⟩ (by decide), List.forall_mem_cons.mpr ⟨cl_value (i := 0) wm_3969 rfl (by decide +kernel) (by decide +kernel) (by decide +kernel), List.forall_mem_cons.mpr ⟨cl_tlen (i := 0) (n := 4) rfl (by decide +kernel) (by decide +kernel) (by decide +kernel), List.forall_mem_nil _⟩⟩⟩, List.forall_mem_nil _, List.forall_mem_nil _, GG_pl⟩ (by decide +kernel)
def e_jStr_checkIndex_v292 : en_T := ([(0, 0, 0, []), (0, 4, 4, [])], none, true, 2, 0, 0, [], [], (0, [], [], [], []))
theorem c_jStr_checkIndex_v292 {l : Launch} {D : va_G} {kA : Nat → ClassId} : ct_ok PRD l D kA GG y_jStr_checkIndex z_jStr_checkIndex e_jStr_checkIndex_v292 := c_hand_jStr_checkIndex (by decide) (by decide) (by decide)
def e_jStr_checkIndex_v296 : en_T := ([(0, 1, 1, []), (0, 4, 4, [])], none, true, 2, 0, 0, [], [], (0, [], [], [], []))
theorem c_jStr_checkIndex_v296 {l : Launch} {D : va_G} {kA : Nat → ClassId} : ct_ok PRD l D kA GG y_jStr_checkIndex z_jStr_checkIndex e_jStr_checkIndex_v296 := c_hand_jStr_checkIndex (by decide) (by decide) (by decide)
def e_jStr_checkIndex_v300 : en_T := ([(0, 2, 2, []), (0, 4, 4, [])], none, true, 2, 0, 0, [], [], (0, [], [], [], []))
theorem c_jStr_checkIndex_v300 {l : Launch} {D : va_G} {kA : Nat → ClassId} : ct_ok PRD l D kA GG y_jStr_checkIndex z_jStr_checkIndex e_jStr_checkIndex_v300 := c_hand_jStr_checkIndex (by decide) (by decide) (by decide)
def e_jStr_checkIndex_v304 : en_T := ([(0, 3, 3, []), (0, 4, 4, [])], none, true, 2, 0, 0, [], [], (0, [], [], [], []))
theorem c_jStr_checkIndex_v304 {l : Launch} {D : va_G} {kA : Nat → ClassId} : ct_ok PRD l D kA GG y_jStr_checkIndex z_jStr_checkIndex e_jStr_checkIndex_v304 := c_hand_jStr_checkIndex (by decide) (by decide) (by decide)
def e_jStr_length_v306 : en_T := ([(2, 0, 0, [5001])], some (0, 5, 5, []), true, 2, 0, 0, [], [], (0, [], [], [], []))
def n_jStr_length_v306_an : List an_T := []
def t_jStr_length_v306_ct : ct_L := [(22, 335, e_jStr_coder_v289), (1000003, 9, en_ro [(2, 0, 0, [5001])] (2, 0, 0, [5201])), (1000004, 0, en_ro [(2, 0, 0, [5201])] (0, 5, 5, []))]
set_option maxRecDepth 100000 in
theorem c_jStr_length_v306 {l : Launch} {D : va_G} {kA : Nat → ClassId} : ct_ok PRD l D kA GG y_jStr_length z_jStr_length e_jStr_length_v306 := chk_all_ok (FT := []) (PT := []) (CT := t_jStr_length_v306_ct) (KT := []) (NT := []) (AN := n_jStr_length_v306_an) (OT := []) 0 200 (List.forall_mem_nil _) (by decide +kernel) ⟨List.forall_mem_nil _, List.forall_mem_nil _, List.forall_mem_cons.mpr ⟨cl_stringS (y := y_jStr_coder) (rs := ro_strs) rfl (by decide +kernel) rfl c_jStr_coder_v289 wm_678 wm_11 wm_675 wm_676 wm_677 ⟨by decide, by decide, by decide +kernel⟩ (by decide), List.forall_mem_cons.mpr ⟨cl_value (i := 1) wm_3969 rfl (by decide +kernel) (by decide +kernel) (by decide +kernel), List.forall_mem_cons.mpr ⟨cl_tlen (i := 1) (n := 5) rfl (by decide +kernel) (by decide +kernel) (by decide +kernel), List.forall_mem_nil _⟩⟩⟩, List.forall_mem_nil _, List.forall_mem_nil _, GG_pl⟩ (by decide +kernel)
def e_jStr_checkIndex_v309 : en_T := ([(0, 0, 0, []), (0, 5, 5, [])], none, true, 2, 0, 0, [], [], (0, [], [], [], []))
theorem c_jStr_checkIndex_v309 {l : Launch} {D : va_G} {kA : Nat → ClassId} : ct_ok PRD l D kA GG y_jStr_checkIndex z_jStr_checkIndex e_jStr_checkIndex_v309 := c_hand_jStr_checkIndex (by decide) (by decide) (by decide)
def e_jStr_checkIndex_v313 : en_T := ([(0, 1, 1, []), (0, 5, 5, [])], none, true, 2, 0, 0, [], [], (0, [], [], [], []))
theorem c_jStr_checkIndex_v313 {l : Launch} {D : va_G} {kA : Nat → ClassId} : ct_ok PRD l D kA GG y_jStr_checkIndex z_jStr_checkIndex e_jStr_checkIndex_v313 := c_hand_jStr_checkIndex (by decide) (by decide) (by decide)
def e_jStr_checkIndex_v317 : en_T := ([(0, 2, 2, []), (0, 5, 5, [])], none, true, 2, 0, 0, [], [], (0, [], [], [], []))
theorem c_jStr_checkIndex_v317 {l : Launch} {D : va_G} {kA : Nat → ClassId} : ct_ok PRD l D kA GG y_jStr_checkIndex z_jStr_checkIndex e_jStr_checkIndex_v317 := c_hand_jStr_checkIndex (by decide) (by decide) (by decide)
def e_jStr_checkIndex_v321 : en_T := ([(0, 3, 3, []), (0, 5, 5, [])], none, true, 2, 0, 0, [], [], (0, [], [], [], []))
theorem c_jStr_checkIndex_v321 {l : Launch} {D : va_G} {kA : Nat → ClassId} : ct_ok PRD l D kA GG y_jStr_checkIndex z_jStr_checkIndex e_jStr_checkIndex_v321 := c_hand_jStr_checkIndex (by decide) (by decide) (by decide)
def e_jStr_checkIndex_v325 : en_T := ([(0, 4, 4, []), (0, 5, 5, [])], none, true, 2, 0, 0, [], [], (0, [], [], [], []))
theorem c_jStr_checkIndex_v325 {l : Launch} {D : va_G} {kA : Nat → ClassId} : ct_ok PRD l D kA GG y_jStr_checkIndex z_jStr_checkIndex e_jStr_checkIndex_v325 := c_hand_jStr_checkIndex (by decide) (by decide) (by decide)
def e_jStr_length_v327 : en_T := ([(2, 0, 0, [5002])], some (0, 4, 4, []), true, 2, 0, 0, [], [], (0, [], [], [], []))
def n_jStr_length_v327_an : List an_T := []
def t_jStr_length_v327_ct : ct_L := [(22, 335, e_jStr_coder_v289), (1000003, 9, en_ro [(2, 0, 0, [5002])] (2, 0, 0, [5202])), (1000004, 0, en_ro [(2, 0, 0, [5202])] (0, 4, 4, []))]
set_option maxRecDepth 100000 in
theorem c_jStr_length_v327 {l : Launch} {D : va_G} {kA : Nat → ClassId} : ct_ok PRD l D kA GG y_jStr_length z_jStr_length e_jStr_length_v327 := chk_all_ok (FT := []) (PT := []) (CT := t_jStr_length_v327_ct) (KT := []) (NT := []) (AN := n_jStr_length_v327_an) (OT := []) 0 200 (List.forall_mem_nil _) (by decide +kernel) ⟨List.forall_mem_nil _, List.forall_mem_nil _, List.forall_mem_cons.mpr ⟨cl_stringS (y := y_jStr_coder) (rs := ro_strs) rfl (by decide +kernel) rfl c_jStr_coder_v289 wm_678 wm_11 wm_675 wm_676 wm_677 ⟨by decide, by decide, by decide +kernel⟩ (by decide), List.forall_mem_cons.mpr ⟨cl_value (i := 2) wm_3969 rfl (by decide +kernel) (by decide +kernel) (by decide +kernel), List.forall_mem_cons.mpr ⟨cl_tlen (i := 2) (n := 4) rfl (by decide +kernel) (by decide +kernel) (by decide +kernel), List.forall_mem_nil _⟩⟩⟩, List.forall_mem_nil _, List.forall_mem_nil _, GG_pl⟩ (by decide +kernel)
def e_jStr_length_v336 : en_T := ([(2, 0, 0, [5003])], some (0, 6, 6, []), true, 2, 0, 0, [], [], (0, [], [], [], []))
def n_jStr_length_v336_an : List an_T := []
def t_jStr_length_v336_ct : ct_L := [(22, 335, e_jStr_coder_v289), (1000003, 9, en_ro [(2, 0, 0, [5003])] (2, 0, 0, [5203])), (1000004, 0, en_ro [(2, 0, 0, [5203])] (0, 6, 6, []))]
set_option maxRecDepth 100000 in
theorem c_jStr_length_v336 {l : Launch} {D : va_G} {kA : Nat → ClassId} : ct_ok PRD l D kA GG y_jStr_length z_jStr_length e_jStr_length_v336 := chk_all_ok (FT := []) (PT := []) (CT := t_jStr_length_v336_ct) (KT := []) (NT := []) (AN := n_jStr_length_v336_an) (OT := []) 0 200 (List.forall_mem_nil _) (by decide +kernel) ⟨List.forall_mem_nil _, List.forall_mem_nil _, List.forall_mem_cons.mpr ⟨cl_stringS (y := y_jStr_coder) (rs := ro_strs) rfl (by decide +kernel) rfl c_jStr_coder_v289 wm_678 wm_11 wm_675 wm_676 wm_677 ⟨by decide, by decide, by decide +kernel⟩ (by decide), List.forall_mem_cons.mpr ⟨cl_value (i := 3) wm_3969 rfl (by decide +kernel) (by decide +kernel) (by decide +kernel), List.forall_mem_cons.mpr ⟨cl_tlen (i := 3) (n := 6) rfl (by decide +kernel) (by decide +kernel) (by decide +kernel), List.forall_mem_nil _⟩⟩⟩, List.forall_mem_nil _, List.forall_mem_nil _, GG_pl⟩ (by decide +kernel)
def e_jStr_checkIndex_v339 : en_T := ([(0, 0, 0, []), (0, 6, 6, [])], none, true, 2, 0, 0, [], [], (0, [], [], [], []))
theorem c_jStr_checkIndex_v339 {l : Launch} {D : va_G} {kA : Nat → ClassId} : ct_ok PRD l D kA GG y_jStr_checkIndex z_jStr_checkIndex e_jStr_checkIndex_v339 := c_hand_jStr_checkIndex (by decide) (by decide) (by decide)
def e_jStr_checkIndex_v343 : en_T := ([(0, 1, 1, []), (0, 6, 6, [])], none, true, 2, 0, 0, [], [], (0, [], [], [], []))
theorem c_jStr_checkIndex_v343 {l : Launch} {D : va_G} {kA : Nat → ClassId} : ct_ok PRD l D kA GG y_jStr_checkIndex z_jStr_checkIndex e_jStr_checkIndex_v343 := c_hand_jStr_checkIndex (by decide) (by decide) (by decide)
def e_jStr_checkIndex_v347 : en_T := ([(0, 2, 2, []), (0, 6, 6, [])], none, true, 2, 0, 0, [], [], (0, [], [], [], []))
theorem c_jStr_checkIndex_v347 {l : Launch} {D : va_G} {kA : Nat → ClassId} : ct_ok PRD l D kA GG y_jStr_checkIndex z_jStr_checkIndex e_jStr_checkIndex_v347 := c_hand_jStr_checkIndex (by decide) (by decide) (by decide)
def e_jStr_checkIndex_v351 : en_T := ([(0, 3, 3, []), (0, 6, 6, [])], none, true, 2, 0, 0, [], [], (0, [], [], [], []))
theorem c_jStr_checkIndex_v351 {l : Launch} {D : va_G} {kA : Nat → ClassId} : ct_ok PRD l D kA GG y_jStr_checkIndex z_jStr_checkIndex e_jStr_checkIndex_v351 := c_hand_jStr_checkIndex (by decide) (by decide) (by decide)
def e_jStr_checkIndex_v355 : en_T := ([(0, 4, 4, []), (0, 6, 6, [])], none, true, 2, 0, 0, [], [], (0, [], [], [], []))
theorem c_jStr_checkIndex_v355 {l : Launch} {D : va_G} {kA : Nat → ClassId} : ct_ok PRD l D kA GG y_jStr_checkIndex z_jStr_checkIndex e_jStr_checkIndex_v355 := c_hand_jStr_checkIndex (by decide) (by decide) (by decide)
def e_jStr_checkIndex_v359 : en_T := ([(0, 5, 5, []), (0, 6, 6, [])], none, true, 2, 0, 0, [], [], (0, [], [], [], []))
theorem c_jStr_checkIndex_v359 {l : Launch} {D : va_G} {kA : Nat → ClassId} : ct_ok PRD l D kA GG y_jStr_checkIndex z_jStr_checkIndex e_jStr_checkIndex_v359 := c_hand_jStr_checkIndex (by decide) (by decide) (by decide)
def e_jStr_length_v361 : en_T := ([(2, 0, 0, [5013])], some (0, 5, 5, []), true, 2, 0, 0, [], [], (0, [], [], [], []))
def n_jStr_length_v361_an : List an_T := []
def t_jStr_length_v361_ct : ct_L := [(22, 335, e_jStr_coder_v289), (1000003, 9, en_ro [(2, 0, 0, [5013])] (2, 0, 0, [5213])), (1000004, 0, en_ro [(2, 0, 0, [5213])] (0, 5, 5, []))]
set_option maxRecDepth 100000 in
theorem c_jStr_length_v361 {l : Launch} {D : va_G} {kA : Nat → ClassId} : ct_ok PRD l D kA GG y_jStr_length z_jStr_length e_jStr_length_v361 := chk_all_ok (FT := []) (PT := []) (CT := t_jStr_length_v361_ct) (KT := []) (NT := []) (AN := n_jStr_length_v361_an) (OT := []) 0 200 (List.forall_mem_nil _) (by decide +kernel) ⟨List.forall_mem_nil _, List.forall_mem_nil _, List.forall_mem_cons.mpr ⟨cl_stringS (y := y_jStr_coder) (rs := ro_strs) rfl (by decide +kernel) rfl c_jStr_coder_v289 wm_678 wm_11 wm_675 wm_676 wm_677 ⟨by decide, by decide, by decide +kernel⟩ (by decide), List.forall_mem_cons.mpr ⟨cl_value (i := 13) wm_3969 rfl (by decide +kernel) (by decide +kernel) (by decide +kernel), List.forall_mem_cons.mpr ⟨cl_tlen (i := 13) (n := 5) rfl (by decide +kernel) (by decide +kernel) (by decide +kernel), List.forall_mem_nil _⟩⟩⟩, List.forall_mem_nil _, List.forall_mem_nil _, GG_pl⟩ (by decide +kernel)
def e_jStr_checkIndex_v364 : en_T := ([(0, 0, 4, []), (0, 5, 5, [])], none, true, 2, 0, 0, [], [], (0, [], [], [], []))
theorem c_jStr_checkIndex_v364 {l : Launch} {D : va_G} {kA : Nat → ClassId} : ct_ok PRD l D kA GG y_jStr_checkIndex z_jStr_checkIndex e_jStr_checkIndex_v364 := c_hand_jStr_checkIndex (by decide) (by decide) (by decide)
def e_jStr_length_v366 : en_T := ([(2, 0, 0, [5014])], some (0, 7, 7, []), true, 2, 0, 0, [], [], (0, [], [], [], []))
def n_jStr_length_v366_an : List an_T := []
def t_jStr_length_v366_ct : ct_L := [(22, 335, e_jStr_coder_v289), (1000003, 9, en_ro [(2, 0, 0, [5014])] (2, 0, 0, [5214])), (1000004, 0, en_ro [(2, 0, 0, [5214])] (0, 7, 7, []))]
set_option maxRecDepth 100000 in
theorem c_jStr_length_v366 {l : Launch} {D : va_G} {kA : Nat → ClassId} : ct_ok PRD l D kA GG y_jStr_length z_jStr_length e_jStr_length_v366 := chk_all_ok (FT := []) (PT := []) (CT := t_jStr_length_v366_ct) (KT := []) (NT := []) (AN := n_jStr_length_v366_an) (OT := []) 0 200 (List.forall_mem_nil _) (by decide +kernel) ⟨List.forall_mem_nil _, List.forall_mem_nil _, List.forall_mem_cons.mpr ⟨cl_stringS (y := y_jStr_coder) (rs := ro_strs) rfl (by decide +kernel) rfl c_jStr_coder_v289 wm_678 wm_11 wm_675 wm_676 wm_677 ⟨by decide, by decide, by decide +kernel⟩ (by decide), List.forall_mem_cons.mpr ⟨cl_value (i := 14) wm_3969 rfl (by decide +kernel) (by decide +kernel) (by decide +kernel), List.forall_mem_cons.mpr ⟨cl_tlen (i := 14) (n := 7) rfl (by decide +kernel) (by decide +kernel) (by decide +kernel), List.forall_mem_nil _⟩⟩⟩, List.forall_mem_nil _, List.forall_mem_nil _, GG_pl⟩ (by decide +kernel)
def e_jStr_checkIndex_v369 : en_T := ([(0, 0, 6, []), (0, 7, 7, [])], none, true, 2, 0, 0, [], [], (0, [], [], [], []))
theorem c_jStr_checkIndex_v369 {l : Launch} {D : va_G} {kA : Nat → ClassId} : ct_ok PRD l D kA GG y_jStr_checkIndex z_jStr_checkIndex e_jStr_checkIndex_v369 := c_hand_jStr_checkIndex (by decide) (by decide) (by decide)
def e_jStr_length_v371 : en_T := ([(2, 0, 0, [5015])], some (0, 2, 2, []), true, 2, 0, 0, [], [], (0, [], [], [], []))
def n_jStr_length_v371_an : List an_T := []
def t_jStr_length_v371_ct : ct_L := [(22, 335, e_jStr_coder_v289), (1000003, 9, en_ro [(2, 0, 0, [5015])] (2, 0, 0, [5215])), (1000004, 0, en_ro [(2, 0, 0, [5215])] (0, 2, 2, []))]
set_option maxRecDepth 100000 in
theorem c_jStr_length_v371 {l : Launch} {D : va_G} {kA : Nat → ClassId} : ct_ok PRD l D kA GG y_jStr_length z_jStr_length e_jStr_length_v371 := chk_all_ok (FT := []) (PT := []) (CT := t_jStr_length_v371_ct) (KT := []) (NT := []) (AN := n_jStr_length_v371_an) (OT := []) 0 200 (List.forall_mem_nil _) (by decide +kernel) ⟨List.forall_mem_nil _, List.forall_mem_nil _, List.forall_mem_cons.mpr ⟨cl_stringS (y := y_jStr_coder) (rs := ro_strs) rfl (by decide +kernel) rfl c_jStr_coder_v289 wm_678 wm_11 wm_675 wm_676 wm_677 ⟨by decide, by decide, by decide +kernel⟩ (by decide), List.forall_mem_cons.mpr ⟨cl_value (i := 15) wm_3969 rfl (by decide +kernel) (by decide +kernel) (by decide +kernel), List.forall_mem_cons.mpr ⟨cl_tlen (i := 15) (n := 2) rfl (by decide +kernel) (by decide +kernel) (by decide +kernel), List.forall_mem_nil _⟩⟩⟩, List.forall_mem_nil _, List.forall_mem_nil _, GG_pl⟩ (by decide +kernel)
def e_jStr_checkIndex_v374 : en_T := ([(0, 0, 1, []), (0, 2, 2, [])], none, true, 2, 0, 0, [], [], (0, [], [], [], []))
theorem c_jStr_checkIndex_v374 {l : Launch} {D : va_G} {kA : Nat → ClassId} : ct_ok PRD l D kA GG y_jStr_checkIndex z_jStr_checkIndex e_jStr_checkIndex_v374 := c_hand_jStr_checkIndex (by decide) (by decide) (by decide)
def e_jStr_length_v376 : en_T := ([(2, 0, 0, [5016])], some (0, 6, 6, []), true, 2, 0, 0, [], [], (0, [], [], [], []))
def n_jStr_length_v376_an : List an_T := []
def t_jStr_length_v376_ct : ct_L := [(22, 335, e_jStr_coder_v289), (1000003, 9, en_ro [(2, 0, 0, [5016])] (2, 0, 0, [5216])), (1000004, 0, en_ro [(2, 0, 0, [5216])] (0, 6, 6, []))]
set_option maxRecDepth 100000 in
theorem c_jStr_length_v376 {l : Launch} {D : va_G} {kA : Nat → ClassId} : ct_ok PRD l D kA GG y_jStr_length z_jStr_length e_jStr_length_v376 := chk_all_ok (FT := []) (PT := []) (CT := t_jStr_length_v376_ct) (KT := []) (NT := []) (AN := n_jStr_length_v376_an) (OT := []) 0 200 (List.forall_mem_nil _) (by decide +kernel) ⟨List.forall_mem_nil _, List.forall_mem_nil _, List.forall_mem_cons.mpr ⟨cl_stringS (y := y_jStr_coder) (rs := ro_strs) rfl (by decide +kernel) rfl c_jStr_coder_v289 wm_678 wm_11 wm_675 wm_676 wm_677 ⟨by decide, by decide, by decide +kernel⟩ (by decide), List.forall_mem_cons.mpr ⟨cl_value (i := 16) wm_3969 rfl (by decide +kernel) (by decide +kernel) (by decide +kernel), List.forall_mem_cons.mpr ⟨cl_tlen (i := 16) (n := 6) rfl (by decide +kernel) (by decide +kernel) (by decide +kernel), List.forall_mem_nil _⟩⟩⟩, List.forall_mem_nil _, List.forall_mem_nil _, GG_pl⟩ (by decide +kernel)
def e_jStr_checkIndex_v379 : en_T := ([(0, 0, 5, []), (0, 6, 6, [])], none, true, 2, 0, 0, [], [], (0, [], [], [], []))
theorem c_jStr_checkIndex_v379 {l : Launch} {D : va_G} {kA : Nat → ClassId} : ct_ok PRD l D kA GG y_jStr_checkIndex z_jStr_checkIndex e_jStr_checkIndex_v379 := c_hand_jStr_checkIndex (by decide) (by decide) (by decide)
def e_jStr_length_v381 : en_T := ([(2, 0, 0, [5017])], some (0, 3, 3, []), true, 2, 0, 0, [], [], (0, [], [], [], []))
def n_jStr_length_v381_an : List an_T := []
def t_jStr_length_v381_ct : ct_L := [(22, 335, e_jStr_coder_v289), (1000003, 9, en_ro [(2, 0, 0, [5017])] (2, 0, 0, [5217])), (1000004, 0, en_ro [(2, 0, 0, [5217])] (0, 3, 3, []))]
set_option maxRecDepth 100000 in
theorem c_jStr_length_v381 {l : Launch} {D : va_G} {kA : Nat → ClassId} : ct_ok PRD l D kA GG y_jStr_length z_jStr_length e_jStr_length_v381 := chk_all_ok (FT := []) (PT := []) (CT := t_jStr_length_v381_ct) (KT := []) (NT := []) (AN := n_jStr_length_v381_an) (OT := []) 0 200 (List.forall_mem_nil _) (by decide +kernel) ⟨List.forall_mem_nil _, List.forall_mem_nil _, List.forall_mem_cons.mpr ⟨cl_stringS (y := y_jStr_coder) (rs := ro_strs) rfl (by decide +kernel) rfl c_jStr_coder_v289 wm_678 wm_11 wm_675 wm_676 wm_677 ⟨by decide, by decide, by decide +kernel⟩ (by decide), List.forall_mem_cons.mpr ⟨cl_value (i := 17) wm_3969 rfl (by decide +kernel) (by decide +kernel) (by decide +kernel), List.forall_mem_cons.mpr ⟨cl_tlen (i := 17) (n := 3) rfl (by decide +kernel) (by decide +kernel) (by decide +kernel), List.forall_mem_nil _⟩⟩⟩, List.forall_mem_nil _, List.forall_mem_nil _, GG_pl⟩ (by decide +kernel)
def e_jStr_length_v384 : en_T := ([(2, 0, 0, [5018])], some (0, 2, 2, []), true, 2, 0, 0, [], [], (0, [], [], [], []))
def n_jStr_length_v384_an : List an_T := []
def t_jStr_length_v384_ct : ct_L := [(22, 335, e_jStr_coder_v289), (1000003, 9, en_ro [(2, 0, 0, [5018])] (2, 0, 0, [5218])), (1000004, 0, en_ro [(2, 0, 0, [5218])] (0, 2, 2, []))]
set_option maxRecDepth 100000 in
theorem c_jStr_length_v384 {l : Launch} {D : va_G} {kA : Nat → ClassId} : ct_ok PRD l D kA GG y_jStr_length z_jStr_length e_jStr_length_v384 := chk_all_ok (FT := []) (PT := []) (CT := t_jStr_length_v384_ct) (KT := []) (NT := []) (AN := n_jStr_length_v384_an) (OT := []) 0 200 (List.forall_mem_nil _) (by decide +kernel) ⟨List.forall_mem_nil _, List.forall_mem_nil _, List.forall_mem_cons.mpr ⟨cl_stringS (y := y_jStr_coder) (rs := ro_strs) rfl (by decide +kernel) rfl c_jStr_coder_v289 wm_678 wm_11 wm_675 wm_676 wm_677 ⟨by decide, by decide, by decide +kernel⟩ (by decide), List.forall_mem_cons.mpr ⟨cl_value (i := 18) wm_3969 rfl (by decide +kernel) (by decide +kernel) (by decide +kernel), List.forall_mem_cons.mpr ⟨cl_tlen (i := 18) (n := 2) rfl (by decide +kernel) (by decide +kernel) (by decide +kernel), List.forall_mem_nil _⟩⟩⟩, List.forall_mem_nil _, List.forall_mem_nil _, GG_pl⟩ (by decide +kernel)
def e_jStr_length_v387 : en_T := ([(2, 0, 0, [5019])], some (0, 3, 3, []), true, 2, 0, 0, [], [], (0, [], [], [], []))
def n_jStr_length_v387_an : List an_T := []
def t_jStr_length_v387_ct : ct_L := [(22, 335, e_jStr_coder_v289), (1000003, 9, en_ro [(2, 0, 0, [5019])] (2, 0, 0, [5219])), (1000004, 0, en_ro [(2, 0, 0, [5219])] (0, 3, 3, []))]
set_option maxRecDepth 100000 in
theorem c_jStr_length_v387 {l : Launch} {D : va_G} {kA : Nat → ClassId} : ct_ok PRD l D kA GG y_jStr_length z_jStr_length e_jStr_length_v387 := chk_all_ok (FT := []) (PT := []) (CT := t_jStr_length_v387_ct) (KT := []) (NT := []) (AN := n_jStr_length_v387_an) (OT := []) 0 200 (List.forall_mem_nil _) (by decide +kernel) ⟨List.forall_mem_nil _, List.forall_mem_nil _, List.forall_mem_cons.mpr ⟨cl_stringS (y := y_jStr_coder) (rs := ro_strs) rfl (by decide +kernel) rfl c_jStr_coder_v289 wm_678 wm_11 wm_675 wm_676 wm_677 ⟨by decide, by decide, by decide +kernel⟩ (by decide), List.forall_mem_cons.mpr ⟨cl_value (i := 19) wm_3969 rfl (by decide +kernel) (by decide +kernel) (by decide +kernel), List.forall_mem_cons.mpr ⟨cl_tlen (i := 19) (n := 3) rfl (by decide +kernel) (by decide +kernel) (by decide +kernel), List.forall_mem_nil _⟩⟩⟩, List.forall_mem_nil _, List.forall_mem_nil _, GG_pl⟩ (by decide +kernel)
def e_jStr_length_v390 : en_T := ([(2, 0, 0, [5020])], some (0, 3, 3, []), true, 2, 0, 0, [], [], (0, [], [], [], []))
def n_jStr_length_v390_an : List an_T := []
def t_jStr_length_v390_ct : ct_L := [(22, 335, e_jStr_coder_v289), (1000003, 9, en_ro [(2, 0, 0, [5020])] (2, 0, 0, [5220])), (1000004, 0, en_ro [(2, 0, 0, [5220])] (0, 3, 3, []))]
set_option maxRecDepth 100000 in
theorem c_jStr_length_v390 {l : Launch} {D : va_G} {kA : Nat → ClassId} : ct_ok PRD l D kA GG y_jStr_length z_jStr_length e_jStr_length_v390 := chk_all_ok (FT := []) (PT := []) (CT := t_jStr_length_v390_ct) (KT := []) (NT := []) (AN := n_jStr_length_v390_an) (OT := []) 0 200 (List.forall_mem_nil _) (by decide +kernel) ⟨List.forall_mem_nil _, List.forall_mem_nil _, List.forall_mem_cons.mpr ⟨cl_stringS (y := y_jStr_coder) (rs := ro_strs) rfl (by decide +kernel) rfl c_jStr_coder_v289 wm_678 wm_11 wm_675 wm_676 wm_677 ⟨by decide, by decide, by decide +kernel⟩ (by decide), List.forall_mem_cons.mpr ⟨cl_value (i := 20) wm_3969 rfl (by decide +kernel) (by decide +kernel) (by decide +kernel), List.forall_mem_cons.mpr ⟨cl_tlen (i := 20) (n := 3) rfl (by decide +kernel) (by decide +kernel) (by decide +kernel), List.forall_mem_nil _⟩⟩⟩, List.forall_mem_nil _, List.forall_mem_nil _, GG_pl⟩ (by decide +kernel)
def e_jStr_length_v393 : en_T := ([(2, 0, 0, [5021])], some (0, 9, 9, []), true, 2, 0, 0, [], [], (0, [], [], [], []))
def n_jStr_length_v393_an : List an_T := []
def t_jStr_length_v393_ct : ct_L := [(22, 335, e_jStr_coder_v289), (1000003, 9, en_ro [(2, 0, 0, [5021])] (2, 0, 0, [5221])), (1000004, 0, en_ro [(2, 0, 0, [5221])] (0, 9, 9, []))]
set_option maxRecDepth 100000 in
theorem c_jStr_length_v393 {l : Launch} {D : va_G} {kA : Nat → ClassId} : ct_ok PRD l D kA GG y_jStr_length z_jStr_length e_jStr_length_v393 := chk_all_ok (FT := []) (PT := []) (CT := t_jStr_length_v393_ct) (KT := []) (NT := []) (AN := n_jStr_length_v393_an) (OT := []) 0 200 (List.forall_mem_nil _) (by decide +kernel) ⟨List.forall_mem_nil _, List.forall_mem_nil _, List.forall_mem_cons.mpr ⟨cl_stringS (y := y_jStr_coder) (rs := ro_strs) rfl (by decide +kernel) rfl c_jStr_coder_v289 wm_678 wm_11 wm_675 wm_676 wm_677 ⟨by decide, by decide, by decide +kernel⟩ (by decide), List.forall_mem_cons.mpr ⟨cl_value (i := 21) wm_3969 rfl (by decide +kernel) (by decide +kernel) (by decide +kernel), List.forall_mem_cons.mpr ⟨cl_tlen (i := 21) (n := 9) rfl (by decide +kernel) (by decide +kernel) (by decide +kernel), List.forall_mem_nil _⟩⟩⟩, List.forall_mem_nil _, List.forall_mem_nil _, GG_pl⟩ (by decide +kernel)
def e_jStr_checkIndex_v396 : en_T := ([(0, 0, 8, []), (0, 9, 9, [])], none, true, 2, 0, 0, [], [], (0, [], [], [], []))
theorem c_jStr_checkIndex_v396 {l : Launch} {D : va_G} {kA : Nat → ClassId} : ct_ok PRD l D kA GG y_jStr_checkIndex z_jStr_checkIndex e_jStr_checkIndex_v396 := c_hand_jStr_checkIndex (by decide) (by decide) (by decide)
def e_jStr_length_v400 : en_T := ([(2, 0, 0, [5005])], some (0, 14, 14, []), true, 2, 0, 0, [], [], (0, [], [], [], []))
def n_jStr_length_v400_an : List an_T := []
def t_jStr_length_v400_ct : ct_L := [(22, 335, e_jStr_coder_v289), (1000003, 9, en_ro [(2, 0, 0, [5005])] (2, 0, 0, [5205])), (1000004, 0, en_ro [(2, 0, 0, [5205])] (0, 14, 14, []))]
set_option maxRecDepth 100000 in
theorem c_jStr_length_v400 {l : Launch} {D : va_G} {kA : Nat → ClassId} : ct_ok PRD l D kA GG y_jStr_length z_jStr_length e_jStr_length_v400 := chk_all_ok (FT := []) (PT := []) (CT := t_jStr_length_v400_ct) (KT := []) (NT := []) (AN := n_jStr_length_v400_an) (OT := []) 0 200 (List.forall_mem_nil _) (by decide +kernel) ⟨List.forall_mem_nil _, List.forall_mem_nil _, List.forall_mem_cons.mpr ⟨cl_stringS (y := y_jStr_coder) (rs := ro_strs) rfl (by decide +kernel) rfl c_jStr_coder_v289 wm_678 wm_11 wm_675 wm_676 wm_677 ⟨by decide, by decide, by decide +kernel⟩ (by decide), List.forall_mem_cons.mpr ⟨cl_value (i := 5) wm_3969 rfl (by decide +kernel) (by decide +kernel) (by decide +kernel), List.forall_mem_cons.mpr ⟨cl_tlen (i := 5) (n := 14) rfl (by decide +kernel) (by decide +kernel) (by decide +kernel), List.forall_mem_nil _⟩⟩⟩, List.forall_mem_nil _, List.forall_mem_nil _, GG_pl⟩ (by decide +kernel)
def e_jLat_indexOf_v401 : en_T := ([(2, 0, 0, [5205]), (0, 0, 127, []), (0, 0, 0, []), (0, 14, 14, [])], some (0, -1, 13, []), true, 2, 0, 0, [], [], (0, [], [], [(20, [4, 1], [50, 0, 0, 3, 6, 0, 2, 1, 0, 0, -1, 0, 2, 0, 33, 1, 1])], []))
def o_jLat_indexOf_v401_0 : or_T := (1000000, 0, [], [], [], [], [], [], [])
theorem oo_jLat_indexOf_v401_0 {kA : Nat → ClassId} : or_ok PRD kA GG o_jLat_indexOf_v401_0 := fun _ _ _ _ _ _ _ _ _ _ => ⟨fun q h => (by cases h), [], trivial, fun f h => (by cases h), fun q h => (by cases h)⟩
def n_jLat_indexOf_v401_an : List an_T := []
def t_jLat_indexOf_v401_ct : ct_L := [(6, 88, e_jLat_canEncode_v402), (36, 92, e_jMath_max1_v191), (57, 38, e_jMath_min1_v403), (102, 95, e_jLat_indexOfChar_v404), (1000004, 0, en_ro [(2, 0, 0, [5205])] (0, 14, 14, []))]
set_option maxRecDepth 100000 in
theorem c_jLat_indexOf_v401 {l : Launch} {D : va_G} {kA : Nat → ClassId} : ct_ok PRD l D kA GG y_jLat_indexOf z_jLat_indexOf e_jLat_indexOf_v401 := chk_all_ok (FT := []) (PT := []) (CT := t_jLat_indexOf_v401_ct) (KT := []) (NT := []) (AN := n_jLat_indexOf_v401_an) (OT := [o_jLat_indexOf_v401_0]) 0 200 (List.forall_mem_cons.mpr ⟨oo_jLat_indexOf_v401_0, List.forall_mem_nil _⟩) (by decide +kernel) ⟨List.forall_mem_nil _, List.forall_mem_nil _, List.forall_mem_cons.mpr ⟨cl_static (y := y_jLat_canEncode) c_jLat_canEncode_v402 wm_2180 wm_12 wm_2178 wm_2179 ⟨by decide, by decide, by decide +kernel⟩ (by decide), List.forall_mem_cons.mpr ⟨cl_static (y := y_jMath_max1) c_jMath_max1_v191 wm_836 wm_10 wm_2181 wm_835 ⟨by decide, by decide, by decide +kernel⟩ (by decide), List.forall_mem_cons.mpr ⟨cl_static (y := y_jMath_min1) c_jMath_min1_v403 wm_658 wm_10 wm_2182 wm_657 ⟨by decide, by decide, by decide +kernel⟩ (by decide), List.forall_mem_cons.mpr ⟨cl_static (y := y_jLat_indexOfChar) c_jLat_indexOfChar_v404 wm_2185 wm_12 wm_2183 wm_2184 ⟨by decide, by decide, by decide +kernel⟩ (by decide), List.forall_mem_cons.mpr ⟨cl_tlen (i := 5) (n := 14) rfl (by decide +kernel) (by decide +kernel) (by decide +kernel), List.forall_mem_nil _⟩⟩⟩⟩⟩, List.forall_mem_nil _, List.forall_mem_nil _, GG_pl⟩ (by decide +kernel)
def e_jStr_length_v411 : en_T := ([(2, 0, 0, [5004])], some (0, 39, 39, []), true, 2, 0, 0, [], [], (0, [], [], [], []))
def n_jStr_length_v411_an : List an_T := []
def t_jStr_length_v411_ct : ct_L := [(22, 335, e_jStr_coder_v289), (1000003, 9, en_ro [(2, 0, 0, [5004])] (2, 0, 0, [5204])), (1000004, 0, en_ro [(2, 0, 0, [5204])] (0, 39, 39, []))]
set_option maxRecDepth 100000 in
theorem c_jStr_length_v411 {l : Launch} {D : va_G} {kA : Nat → ClassId} : ct_ok PRD l D kA GG y_jStr_length z_jStr_length e_jStr_length_v411 := chk_all_ok (FT := []) (PT := []) (CT := t_jStr_length_v411_ct) (KT := []) (NT := []) (AN := n_jStr_length_v411_an) (OT := []) 0 200 (List.forall_mem_nil _) (by decide +kernel) ⟨List.forall_mem_nil _, List.forall_mem_nil _, List.forall_mem_cons.mpr ⟨cl_stringS (y := y_jStr_coder) (rs := ro_strs) rfl (by decide +kernel) rfl c_jStr_coder_v289 wm_678 wm_11 wm_675 wm_676 wm_677 ⟨by decide, by decide, by decide +kernel⟩ (by decide), List.forall_mem_cons.mpr ⟨cl_value (i := 4) wm_3969 rfl (by decide +kernel) (by decide +kernel) (by decide +kernel), List.forall_mem_cons.mpr ⟨cl_tlen (i := 4) (n := 39) rfl (by decide +kernel) (by decide +kernel) (by decide +kernel), List.forall_mem_nil _⟩⟩⟩, List.forall_mem_nil _, List.forall_mem_nil _, GG_pl⟩ (by decide +kernel)
def e_jStr_length_v412 : en_T := ([(2, 0, 0, [5006])], some (0, 10, 10, []), true, 2, 0, 0, [], [], (0, [], [], [], []))
def n_jStr_length_v412_an : List an_T := []
def t_jStr_length_v412_ct : ct_L := [(22, 335, e_jStr_coder_v289), (1000003, 9, en_ro [(2, 0, 0, [5006])] (2, 0, 0, [5206])), (1000004, 0, en_ro [(2, 0, 0, [5206])] (0, 10, 10, []))]
set_option maxRecDepth 100000 in
theorem c_jStr_length_v412 {l : Launch} {D : va_G} {kA : Nat → ClassId} : ct_ok PRD l D kA GG y_jStr_length z_jStr_length e_jStr_length_v412 := chk_all_ok (FT := []) (PT := []) (CT := t_jStr_length_v412_ct) (KT := []) (NT := []) (AN := n_jStr_length_v412_an) (OT := []) 0 200 (List.forall_mem_nil _) (by decide +kernel) ⟨List.forall_mem_nil _, List.forall_mem_nil _, List.forall_mem_cons.mpr ⟨cl_stringS (y := y_jStr_coder) (rs := ro_strs) rfl (by decide +kernel) rfl c_jStr_coder_v289 wm_678 wm_11 wm_675 wm_676 wm_677 ⟨by decide, by decide, by decide +kernel⟩ (by decide), List.forall_mem_cons.mpr ⟨cl_value (i := 6) wm_3969 rfl (by decide +kernel) (by decide +kernel) (by decide +kernel), List.forall_mem_cons.mpr ⟨cl_tlen (i := 6) (n := 10) rfl (by decide +kernel) (by decide +kernel) (by decide +kernel), List.forall_mem_nil _⟩⟩⟩, List.forall_mem_nil _, List.forall_mem_nil _, GG_pl⟩ (by decide +kernel)
def e_jStr_checkIndex_v415 : en_T := ([(0, 0, 0, []), (0, 10, 10, [])], none, true, 2, 0, 0, [], [], (0, [], [], [], []))
theorem c_jStr_checkIndex_v415 {l : Launch} {D : va_G} {kA : Nat → ClassId} : ct_ok PRD l D kA GG y_jStr_checkIndex z_jStr_checkIndex e_jStr_checkIndex_v415 := c_hand_jStr_checkIndex (by decide) (by decide) (by decide)
def e_jStr_checkIndex_v419 : en_T := ([(0, 1, 1, []), (0, 10, 10, [])], none, true, 2, 0, 0, [], [], (0, [], [], [], []))
theorem c_jStr_checkIndex_v419 {l : Launch} {D : va_G} {kA : Nat → ClassId} : ct_ok PRD l D kA GG y_jStr_checkIndex z_jStr_checkIndex e_jStr_checkIndex_v419 := c_hand_jStr_checkIndex (by decide) (by decide) (by decide)
def e_jStr_checkIndex_v423 : en_T := ([(0, 2, 2, []), (0, 10, 10, [])], none, true, 2, 0, 0, [], [], (0, [], [], [], []))
theorem c_jStr_checkIndex_v423 {l : Launch} {D : va_G} {kA : Nat → ClassId} : ct_ok PRD l D kA GG y_jStr_checkIndex z_jStr_checkIndex e_jStr_checkIndex_v423 := c_hand_jStr_checkIndex (by decide) (by decide) (by decide)
def e_jStr_checkIndex_v427 : en_T := ([(0, 3, 3, []), (0, 10, 10, [])], none, true, 2, 0, 0, [], [], (0, [], [], [], []))
theorem c_jStr_checkIndex_v427 {l : Launch} {D : va_G} {kA : Nat → ClassId} : ct_ok PRD l D kA GG y_jStr_checkIndex z_jStr_checkIndex e_jStr_checkIndex_v427 := c_hand_jStr_checkIndex (by decide) (by decide) (by decide)
def e_jStr_checkIndex_v431 : en_T := ([(0, 4, 4, []), (0, 10, 10, [])], none, true, 2, 0, 0, [], [], (0, [], [], [], []))
theorem c_jStr_checkIndex_v431 {l : Launch} {D : va_G} {kA : Nat → ClassId} : ct_ok PRD l D kA GG y_jStr_checkIndex z_jStr_checkIndex e_jStr_checkIndex_v431 := c_hand_jStr_checkIndex (by decide) (by decide) (by decide)
def e_jStr_checkIndex_v435 : en_T := ([(0, 5, 5, []), (0, 10, 10, [])], none, true, 2, 0, 0, [], [], (0, [], [], [], []))
theorem c_jStr_checkIndex_v435 {l : Launch} {D : va_G} {kA : Nat → ClassId} : ct_ok PRD l D kA GG y_jStr_checkIndex z_jStr_checkIndex e_jStr_checkIndex_v435 := c_hand_jStr_checkIndex (by decide) (by decide) (by decide)
def e_jStr_checkIndex_v439 : en_T := ([(0, 6, 6, []), (0, 10, 10, [])], none, true, 2, 0, 0, [], [], (0, [], [], [], []))
theorem c_jStr_checkIndex_v439 {l : Launch} {D : va_G} {kA : Nat → ClassId} : ct_ok PRD l D kA GG y_jStr_checkIndex z_jStr_checkIndex e_jStr_checkIndex_v439 := c_hand_jStr_checkIndex (by decide) (by decide) (by decide)
def e_jStr_checkIndex_v443 : en_T := ([(0, 7, 7, []), (0, 10, 10, [])], none, true, 2, 0, 0, [], [], (0, [], [], [], []))
theorem c_jStr_checkIndex_v443 {l : Launch} {D : va_G} {kA : Nat → ClassId} : ct_ok PRD l D kA GG y_jStr_checkIndex z_jStr_checkIndex e_jStr_checkIndex_v443 := c_hand_jStr_checkIndex (by decide) (by decide) (by decide)
def e_jStr_checkIndex_v447 : en_T := ([(0, 8, 8, []), (0, 10, 10, [])], none, true, 2, 0, 0, [], [], (0, [], [], [], []))
theorem c_jStr_checkIndex_v447 {l : Launch} {D : va_G} {kA : Nat → ClassId} : ct_ok PRD l D kA GG y_jStr_checkIndex z_jStr_checkIndex e_jStr_checkIndex_v447 := c_hand_jStr_checkIndex (by decide) (by decide) (by decide)
def e_jStr_checkIndex_v451 : en_T := ([(0, 9, 9, []), (0, 10, 10, [])], none, true, 2, 0, 0, [], [], (0, [], [], [], []))
theorem c_jStr_checkIndex_v451 {l : Launch} {D : va_G} {kA : Nat → ClassId} : ct_ok PRD l D kA GG y_jStr_checkIndex z_jStr_checkIndex e_jStr_checkIndex_v451 := c_hand_jStr_checkIndex (by decide) (by decide) (by decide)
def e_jStr_length_v453 : en_T := ([(2, 0, 0, [5007])], some (0, 44, 44, []), true, 2, 0, 0, [], [], (0, [], [], [], []))
def n_jStr_length_v453_an : List an_T := []
def t_jStr_length_v453_ct : ct_L := [(22, 335, e_jStr_coder_v289), (1000003, 9, en_ro [(2, 0, 0, [5007])] (2, 0, 0, [5207])), (1000004, 0, en_ro [(2, 0, 0, [5207])] (0, 44, 44, []))]
set_option maxRecDepth 100000 in
theorem c_jStr_length_v453 {l : Launch} {D : va_G} {kA : Nat → ClassId} : ct_ok PRD l D kA GG y_jStr_length z_jStr_length e_jStr_length_v453 := chk_all_ok (FT := []) (PT := []) (CT := t_jStr_length_v453_ct) (KT := []) (NT := []) (AN := n_jStr_length_v453_an) (OT := []) 0 200 (List.forall_mem_nil _) (by decide +kernel) ⟨List.forall_mem_nil _, List.forall_mem_nil _, List.forall_mem_cons.mpr ⟨cl_stringS (y := y_jStr_coder) (rs := ro_strs) rfl (by decide +kernel) rfl c_jStr_coder_v289 wm_678 wm_11 wm_675 wm_676 wm_677 ⟨by decide, by decide, by decide +kernel⟩ (by decide), List.forall_mem_cons.mpr ⟨cl_value (i := 7) wm_3969 rfl (by decide +kernel) (by decide +kernel) (by decide +kernel), List.forall_mem_cons.mpr ⟨cl_tlen (i := 7) (n := 44) rfl (by decide +kernel) (by decide +kernel) (by decide +kernel), List.forall_mem_nil _⟩⟩⟩, List.forall_mem_nil _, List.forall_mem_nil _, GG_pl⟩ (by decide +kernel)
def e_jStr_length_v454 : en_T := ([(2, 0, 0, [5008])], some (0, 3, 3, []), true, 2, 0, 0, [], [], (0, [], [], [], []))
def n_jStr_length_v454_an : List an_T := []
def t_jStr_length_v454_ct : ct_L := [(22, 335, e_jStr_coder_v289), (1000003, 9, en_ro [(2, 0, 0, [5008])] (2, 0, 0, [5208])), (1000004, 0, en_ro [(2, 0, 0, [5208])] (0, 3, 3, []))]
set_option maxRecDepth 100000 in
theorem c_jStr_length_v454 {l : Launch} {D : va_G} {kA : Nat → ClassId} : ct_ok PRD l D kA GG y_jStr_length z_jStr_length e_jStr_length_v454 := chk_all_ok (FT := []) (PT := []) (CT := t_jStr_length_v454_ct) (KT := []) (NT := []) (AN := n_jStr_length_v454_an) (OT := []) 0 200 (List.forall_mem_nil _) (by decide +kernel) ⟨List.forall_mem_nil _, List.forall_mem_nil _, List.forall_mem_cons.mpr ⟨cl_stringS (y := y_jStr_coder) (rs := ro_strs) rfl (by decide +kernel) rfl c_jStr_coder_v289 wm_678 wm_11 wm_675 wm_676 wm_677 ⟨by decide, by decide, by decide +kernel⟩ (by decide), List.forall_mem_cons.mpr ⟨cl_value (i := 8) wm_3969 rfl (by decide +kernel) (by decide +kernel) (by decide +kernel), List.forall_mem_cons.mpr ⟨cl_tlen (i := 8) (n := 3) rfl (by decide +kernel) (by decide +kernel) (by decide +kernel), List.forall_mem_nil _⟩⟩⟩, List.forall_mem_nil _, List.forall_mem_nil _, GG_pl⟩ (by decide +kernel)
def e_jStr_checkIndex_v457 : en_T := ([(0, 0, 0, []), (0, 3, 3, [])], none, true, 2, 0, 0, [], [], (0, [], [], [], []))
theorem c_jStr_checkIndex_v457 {l : Launch} {D : va_G} {kA : Nat → ClassId} : ct_ok PRD l D kA GG y_jStr_checkIndex z_jStr_checkIndex e_jStr_checkIndex_v457 := c_hand_jStr_checkIndex (by decide) (by decide) (by decide)
def e_jStr_checkIndex_v461 : en_T := ([(0, 1, 1, []), (0, 3, 3, [])], none, true, 2, 0, 0, [], [], (0, [], [], [], []))
theorem c_jStr_checkIndex_v461 {l : Launch} {D : va_G} {kA : Nat → ClassId} : ct_ok PRD l D kA GG y_jStr_checkIndex z_jStr_checkIndex e_jStr_checkIndex_v461 := c_hand_jStr_checkIndex (by decide) (by decide) (by decide)
def e_jStr_checkIndex_v465 : en_T := ([(0, 2, 2, []), (0, 3, 3, [])], none, true, 2, 0, 0, [], [], (0, [], [], [], []))
theorem c_jStr_checkIndex_v465 {l : Launch} {D : va_G} {kA : Nat → ClassId} : ct_ok PRD l D kA GG y_jStr_checkIndex z_jStr_checkIndex e_jStr_checkIndex_v465 := c_hand_jStr_checkIndex (by decide) (by decide) (by decide)
def e_jStr_length_v467 : en_T := ([(2, 0, 0, [5009])], some (0, 4, 4, []), true, 2, 0, 0, [], [], (0, [], [], [], []))
def n_jStr_length_v467_an : List an_T := []
def t_jStr_length_v467_ct : ct_L := [(22, 335, e_jStr_coder_v289), (1000003, 9, en_ro [(2, 0, 0, [5009])] (2, 0, 0, [5209])), (1000004, 0, en_ro [(2, 0, 0, [5209])] (0, 4, 4, []))]
set_option maxRecDepth 100000 in
theorem c_jStr_length_v467 {l : Launch} {D : va_G} {kA : Nat → ClassId} : ct_ok PRD l D kA GG y_jStr_length z_jStr_length e_jStr_length_v467 := chk_all_ok (FT := []) (PT := []) (CT := t_jStr_length_v467_ct) (KT := []) (NT := []) (AN := n_jStr_length_v467_an) (OT := []) 0 200 (List.forall_mem_nil _) (by decide +kernel) ⟨List.forall_mem_nil _, List.forall_mem_nil _, List.forall_mem_cons.mpr ⟨cl_stringS (y := y_jStr_coder) (rs := ro_strs) rfl (by decide +kernel) rfl c_jStr_coder_v289 wm_678 wm_11 wm_675 wm_676 wm_677 ⟨by decide, by decide, by decide +kernel⟩ (by decide), List.forall_mem_cons.mpr ⟨cl_value (i := 9) wm_3969 rfl (by decide +kernel) (by decide +kernel) (by decide +kernel), List.forall_mem_cons.mpr ⟨cl_tlen (i := 9) (n := 4) rfl (by decide +kernel) (by decide +kernel) (by decide +kernel), List.forall_mem_nil _⟩⟩⟩, List.forall_mem_nil _, List.forall_mem_nil _, GG_pl⟩ (by decide +kernel)
def e_jStr_length_v476 : en_T := ([(2, 0, 0, [5010])], some (0, 4, 4, []), true, 2, 0, 0, [], [], (0, [], [], [], []))
def n_jStr_length_v476_an : List an_T := []
def t_jStr_length_v476_ct : ct_L := [(22, 335, e_jStr_coder_v289), (1000003, 9, en_ro [(2, 0, 0, [5010])] (2, 0, 0, [5210])), (1000004, 0, en_ro [(2, 0, 0, [5210])] (0, 4, 4, []))]
set_option maxRecDepth 100000 in
theorem c_jStr_length_v476 {l : Launch} {D : va_G} {kA : Nat → ClassId} : ct_ok PRD l D kA GG y_jStr_length z_jStr_length e_jStr_length_v476 := chk_all_ok (FT := []) (PT := []) (CT := t_jStr_length_v476_ct) (KT := []) (NT := []) (AN := n_jStr_length_v476_an) (OT := []) 0 200 (List.forall_mem_nil _) (by decide +kernel) ⟨List.forall_mem_nil _, List.forall_mem_nil _, List.forall_mem_cons.mpr ⟨cl_stringS (y := y_jStr_coder) (rs := ro_strs) rfl (by decide +kernel) rfl c_jStr_coder_v289 wm_678 wm_11 wm_675 wm_676 wm_677 ⟨by decide, by decide, by decide +kernel⟩ (by decide), List.forall_mem_cons.mpr ⟨cl_value (i := 10) wm_3969 rfl (by decide +kernel) (by decide +kernel) (by decide +kernel), List.forall_mem_cons.mpr ⟨cl_tlen (i := 10) (n := 4) rfl (by decide +kernel) (by decide +kernel) (by decide +kernel), List.forall_mem_nil _⟩⟩⟩, List.forall_mem_nil _, List.forall_mem_nil _, GG_pl⟩ (by decide +kernel)
def e_jStr_length_v485 : en_T := ([(2, 0, 0, [5011])], some (0, 3, 3, []), true, 2, 0, 0, [], [], (0, [], [], [], []))
def n_jStr_length_v485_an : List an_T := []
def t_jStr_length_v485_ct : ct_L := [(22, 335, e_jStr_coder_v289), (1000003, 9, en_ro [(2, 0, 0, [5011])] (2, 0, 0, [5211])), (1000004, 0, en_ro [(2, 0, 0, [5211])] (0, 3, 3, []))]
set_option maxRecDepth 100000 in
theorem c_jStr_length_v485 {l : Launch} {D : va_G} {kA : Nat → ClassId} : ct_ok PRD l D kA GG y_jStr_length z_jStr_length e_jStr_length_v485 := chk_all_ok (FT := []) (PT := []) (CT := t_jStr_length_v485_ct) (KT := []) (NT := []) (AN := n_jStr_length_v485_an) (OT := []) 0 200 (List.forall_mem_nil _) (by decide +kernel) ⟨List.forall_mem_nil _, List.forall_mem_nil _, List.forall_mem_cons.mpr ⟨cl_stringS (y := y_jStr_coder) (rs := ro_strs) rfl (by decide +kernel) rfl c_jStr_coder_v289 wm_678 wm_11 wm_675 wm_676 wm_677 ⟨by decide, by decide, by decide +kernel⟩ (by decide), List.forall_mem_cons.mpr ⟨cl_value (i := 11) wm_3969 rfl (by decide +kernel) (by decide +kernel) (by decide +kernel), List.forall_mem_cons.mpr ⟨cl_tlen (i := 11) (n := 3) rfl (by decide +kernel) (by decide +kernel) (by decide +kernel), List.forall_mem_nil _⟩⟩⟩, List.forall_mem_nil _, List.forall_mem_nil _, GG_pl⟩ (by decide +kernel)
def e_jStr_length_v492 : en_T := ([(2, 0, 0, [5012])], some (0, 17, 17, []), true, 2, 0, 0, [], [], (0, [], [], [], []))
def n_jStr_length_v492_an : List an_T := []
def t_jStr_length_v492_ct : ct_L := [(22, 335, e_jStr_coder_v289), (1000003, 9, en_ro [(2, 0, 0, [5012])] (2, 0, 0, [5212])), (1000004, 0, en_ro [(2, 0, 0, [5212])] (0, 17, 17, []))]
set_option maxRecDepth 100000 in
theorem c_jStr_length_v492 {l : Launch} {D : va_G} {kA : Nat → ClassId} : ct_ok PRD l D kA GG y_jStr_length z_jStr_length e_jStr_length_v492 := chk_all_ok (FT := []) (PT := []) (CT := t_jStr_length_v492_ct) (KT := []) (NT := []) (AN := n_jStr_length_v492_an) (OT := []) 0 200 (List.forall_mem_nil _) (by decide +kernel) ⟨List.forall_mem_nil _, List.forall_mem_nil _, List.forall_mem_cons.mpr ⟨cl_stringS (y := y_jStr_coder) (rs := ro_strs) rfl (by decide +kernel) rfl c_jStr_coder_v289 wm_678 wm_11 wm_675 wm_676 wm_677 ⟨by decide, by decide, by decide +kernel⟩ (by decide), List.forall_mem_cons.mpr ⟨cl_value (i := 12) wm_3969 rfl (by decide +kernel) (by decide +kernel) (by decide +kernel), List.forall_mem_cons.mpr ⟨cl_tlen (i := 12) (n := 17) rfl (by decide +kernel) (by decide +kernel) (by decide +kernel), List.forall_mem_nil _⟩⟩⟩, List.forall_mem_nil _, List.forall_mem_nil _, GG_pl⟩ (by decide +kernel)
def e_jStr_checkIndex_v495 : en_T := ([(0, 0, 0, []), (0, 17, 17, [])], none, true, 2, 0, 0, [], [], (0, [], [], [], []))
theorem c_jStr_checkIndex_v495 {l : Launch} {D : va_G} {kA : Nat → ClassId} : ct_ok PRD l D kA GG y_jStr_checkIndex z_jStr_checkIndex e_jStr_checkIndex_v495 := c_hand_jStr_checkIndex (by decide) (by decide) (by decide)
def e_jStr_checkIndex_v499 : en_T := ([(0, 1, 1, []), (0, 17, 17, [])], none, true, 2, 0, 0, [], [], (0, [], [], [], []))
theorem c_jStr_checkIndex_v499 {l : Launch} {D : va_G} {kA : Nat → ClassId} : ct_ok PRD l D kA GG y_jStr_checkIndex z_jStr_checkIndex e_jStr_checkIndex_v499 := c_hand_jStr_checkIndex (by decide) (by decide) (by decide)
def e_jStr_checkIndex_v503 : en_T := ([(0, 2, 2, []), (0, 17, 17, [])], none, true, 2, 0, 0, [], [], (0, [], [], [], []))
theorem c_jStr_checkIndex_v503 {l : Launch} {D : va_G} {kA : Nat → ClassId} : ct_ok PRD l D kA GG y_jStr_checkIndex z_jStr_checkIndex e_jStr_checkIndex_v503 := c_hand_jStr_checkIndex (by decide) (by decide) (by decide)
def e_jStr_checkIndex_v507 : en_T := ([(0, 3, 3, []), (0, 17, 17, [])], none, true, 2, 0, 0, [], [], (0, [], [], [], []))
theorem c_jStr_checkIndex_v507 {l : Launch} {D : va_G} {kA : Nat → ClassId} : ct_ok PRD l D kA GG y_jStr_checkIndex z_jStr_checkIndex e_jStr_checkIndex_v507 := c_hand_jStr_checkIndex (by decide) (by decide) (by decide)
def e_jStr_checkIndex_v511 : en_T := ([(0, 4, 4, []), (0, 17, 17, [])], none, true, 2, 0, 0, [], [], (0, [], [], [], []))
theorem c_jStr_checkIndex_v511 {l : Launch} {D : va_G} {kA : Nat → ClassId} : ct_ok PRD l D kA GG y_jStr_checkIndex z_jStr_checkIndex e_jStr_checkIndex_v511 := c_hand_jStr_checkIndex (by decide) (by decide) (by decide)
def e_jStr_checkIndex_v515 : en_T := ([(0, 5, 5, []), (0, 17, 17, [])], none, true, 2, 0, 0, [], [], (0, [], [], [], []))
theorem c_jStr_checkIndex_v515 {l : Launch} {D : va_G} {kA : Nat → ClassId} : ct_ok PRD l D kA GG y_jStr_checkIndex z_jStr_checkIndex e_jStr_checkIndex_v515 := c_hand_jStr_checkIndex (by decide) (by decide) (by decide)
def e_jStr_checkIndex_v519 : en_T := ([(0, 6, 6, []), (0, 17, 17, [])], none, true, 2, 0, 0, [], [], (0, [], [], [], []))
theorem c_jStr_checkIndex_v519 {l : Launch} {D : va_G} {kA : Nat → ClassId} : ct_ok PRD l D kA GG y_jStr_checkIndex z_jStr_checkIndex e_jStr_checkIndex_v519 := c_hand_jStr_checkIndex (by decide) (by decide) (by decide)
def e_jStr_checkIndex_v523 : en_T := ([(0, 7, 7, []), (0, 17, 17, [])], none, true, 2, 0, 0, [], [], (0, [], [], [], []))
theorem c_jStr_checkIndex_v523 {l : Launch} {D : va_G} {kA : Nat → ClassId} : ct_ok PRD l D kA GG y_jStr_checkIndex z_jStr_checkIndex e_jStr_checkIndex_v523 := c_hand_jStr_checkIndex (by decide) (by decide) (by decide)
def e_jStr_checkIndex_v527 : en_T := ([(0, 8, 8, []), (0, 17, 17, [])], none, true, 2, 0, 0, [], [], (0, [], [], [], []))
theorem c_jStr_checkIndex_v527 {l : Launch} {D : va_G} {kA : Nat → ClassId} : ct_ok PRD l D kA GG y_jStr_checkIndex z_jStr_checkIndex e_jStr_checkIndex_v527 := c_hand_jStr_checkIndex (by decide) (by decide) (by decide)
def e_jStr_checkIndex_v531 : en_T := ([(0, 9, 9, []), (0, 17, 17, [])], none, true, 2, 0, 0, [], [], (0, [], [], [], []))
theorem c_jStr_checkIndex_v531 {l : Launch} {D : va_G} {kA : Nat → ClassId} : ct_ok PRD l D kA GG y_jStr_checkIndex z_jStr_checkIndex e_jStr_checkIndex_v531 := c_hand_jStr_checkIndex (by decide) (by decide) (by decide)
def e_jStr_checkIndex_v535 : en_T := ([(0, 10, 10, []), (0, 17, 17, [])], none, true, 2, 0, 0, [], [], (0, [], [], [], []))
theorem c_jStr_checkIndex_v535 {l : Launch} {D : va_G} {kA : Nat → ClassId} : ct_ok PRD l D kA GG y_jStr_checkIndex z_jStr_checkIndex e_jStr_checkIndex_v535 := c_hand_jStr_checkIndex (by decide) (by decide) (by decide)
def e_jStr_checkIndex_v539 : en_T := ([(0, 11, 11, []), (0, 17, 17, [])], none, true, 2, 0, 0, [], [], (0, [], [], [], []))
theorem c_jStr_checkIndex_v539 {l : Launch} {D : va_G} {kA : Nat → ClassId} : ct_ok PRD l D kA GG y_jStr_checkIndex z_jStr_checkIndex e_jStr_checkIndex_v539 := c_hand_jStr_checkIndex (by decide) (by decide) (by decide)
def e_jStr_checkIndex_v543 : en_T := ([(0, 12, 12, []), (0, 17, 17, [])], none, true, 2, 0, 0, [], [], (0, [], [], [], []))
theorem c_jStr_checkIndex_v543 {l : Launch} {D : va_G} {kA : Nat → ClassId} : ct_ok PRD l D kA GG y_jStr_checkIndex z_jStr_checkIndex e_jStr_checkIndex_v543 := c_hand_jStr_checkIndex (by decide) (by decide) (by decide)
def e_jStr_checkIndex_v547 : en_T := ([(0, 13, 13, []), (0, 17, 17, [])], none, true, 2, 0, 0, [], [], (0, [], [], [], []))
theorem c_jStr_checkIndex_v547 {l : Launch} {D : va_G} {kA : Nat → ClassId} : ct_ok PRD l D kA GG y_jStr_checkIndex z_jStr_checkIndex e_jStr_checkIndex_v547 := c_hand_jStr_checkIndex (by decide) (by decide) (by decide)
def e_jStr_checkIndex_v551 : en_T := ([(0, 14, 14, []), (0, 17, 17, [])], none, true, 2, 0, 0, [], [], (0, [], [], [], []))
theorem c_jStr_checkIndex_v551 {l : Launch} {D : va_G} {kA : Nat → ClassId} : ct_ok PRD l D kA GG y_jStr_checkIndex z_jStr_checkIndex e_jStr_checkIndex_v551 := c_hand_jStr_checkIndex (by decide) (by decide) (by decide)
def e_jStr_checkIndex_v555 : en_T := ([(0, 15, 15, []), (0, 17, 17, [])], none, true, 2, 0, 0, [], [], (0, [], [], [], []))
theorem c_jStr_checkIndex_v555 {l : Launch} {D : va_G} {kA : Nat → ClassId} : ct_ok PRD l D kA GG y_jStr_checkIndex z_jStr_checkIndex e_jStr_checkIndex_v555 := c_hand_jStr_checkIndex (by decide) (by decide) (by decide)
def e_jStr_checkIndex_v559 : en_T := ([(0, 16, 16, []), (0, 17, 17, [])], none, true, 2, 0, 0, [], [], (0, [], [], [], []))
theorem c_jStr_checkIndex_v559 {l : Launch} {D : va_G} {kA : Nat → ClassId} : ct_ok PRD l D kA GG y_jStr_checkIndex z_jStr_checkIndex e_jStr_checkIndex_v559 := c_hand_jStr_checkIndex (by decide) (by decide) (by decide)
def e_jStr_length_v566 : en_T := ([(2, 0, 0, [5022])], some (0, 4, 4, []), true, 2, 0, 0, [], [], (0, [], [], [], []))
def n_jStr_length_v566_an : List an_T := []
def t_jStr_length_v566_ct : ct_L := [(22, 335, e_jStr_coder_v289), (1000003, 9, en_ro [(2, 0, 0, [5022])] (2, 0, 0, [5222])), (1000004, 0, en_ro [(2, 0, 0, [5222])] (0, 4, 4, []))]
set_option maxRecDepth 100000 in
theorem c_jStr_length_v566 {l : Launch} {D : va_G} {kA : Nat → ClassId} : ct_ok PRD l D kA GG y_jStr_length z_jStr_length e_jStr_length_v566 := chk_all_ok (FT := []) (PT := []) (CT := t_jStr_length_v566_ct) (KT := []) (NT := []) (AN := n_jStr_length_v566_an) (OT := []) 0 200 (List.forall_mem_nil _) (by decide +kernel) ⟨List.forall_mem_nil _, List.forall_mem_nil _, List.forall_mem_cons.mpr ⟨cl_stringS (y := y_jStr_coder) (rs := ro_strs) rfl (by decide +kernel) rfl c_jStr_coder_v289 wm_678 wm_11 wm_675 wm_676 wm_677 ⟨by decide, by decide, by decide +kernel⟩ (by decide), List.forall_mem_cons.mpr ⟨cl_value (i := 22) wm_3969 rfl (by decide +kernel) (by decide +kernel) (by decide +kernel), List.forall_mem_cons.mpr ⟨cl_tlen (i := 22) (n := 4) rfl (by decide +kernel) (by decide +kernel) (by decide +kernel), List.forall_mem_nil _⟩⟩⟩, List.forall_mem_nil _, List.forall_mem_nil _, GG_pl⟩ (by decide +kernel)
def e_jStr_length_v575 : en_T := ([(2, 0, 0, [5023])], some (0, 2, 2, []), true, 2, 0, 0, [], [], (0, [], [], [], []))
def n_jStr_length_v575_an : List an_T := []
def t_jStr_length_v575_ct : ct_L := [(22, 335, e_jStr_coder_v289), (1000003, 9, en_ro [(2, 0, 0, [5023])] (2, 0, 0, [5223])), (1000004, 0, en_ro [(2, 0, 0, [5223])] (0, 2, 2, []))]
set_option maxRecDepth 100000 in
theorem c_jStr_length_v575 {l : Launch} {D : va_G} {kA : Nat → ClassId} : ct_ok PRD l D kA GG y_jStr_length z_jStr_length e_jStr_length_v575 := chk_all_ok (FT := []) (PT := []) (CT := t_jStr_length_v575_ct) (KT := []) (NT := []) (AN := n_jStr_length_v575_an) (OT := []) 0 200 (List.forall_mem_nil _) (by decide +kernel) ⟨List.forall_mem_nil _, List.forall_mem_nil _, List.forall_mem_cons.mpr ⟨cl_stringS (y := y_jStr_coder) (rs := ro_strs) rfl (by decide +kernel) rfl c_jStr_coder_v289 wm_678 wm_11 wm_675 wm_676 wm_677 ⟨by decide, by decide, by decide +kernel⟩ (by decide), List.forall_mem_cons.mpr ⟨cl_value (i := 23) wm_3969 rfl (by decide +kernel) (by decide +kernel) (by decide +kernel), List.forall_mem_cons.mpr ⟨cl_tlen (i := 23) (n := 2) rfl (by decide +kernel) (by decide +kernel) (by decide +kernel), List.forall_mem_nil _⟩⟩⟩, List.forall_mem_nil _, List.forall_mem_nil _, GG_pl⟩ (by decide +kernel)
def e_jStr_checkIndex_v578 : en_T := ([(0, 0, 0, []), (0, 2, 2, [])], none, true, 2, 0, 0, [], [], (0, [], [], [], []))
theorem c_jStr_checkIndex_v578 {l : Launch} {D : va_G} {kA : Nat → ClassId} : ct_ok PRD l D kA GG y_jStr_checkIndex z_jStr_checkIndex e_jStr_checkIndex_v578 := c_hand_jStr_checkIndex (by decide) (by decide) (by decide)
def e_jStr_checkIndex_v582 : en_T := ([(0, 1, 1, []), (0, 2, 2, [])], none, true, 2, 0, 0, [], [], (0, [], [], [], []))
theorem c_jStr_checkIndex_v582 {l : Launch} {D : va_G} {kA : Nat → ClassId} : ct_ok PRD l D kA GG y_jStr_checkIndex z_jStr_checkIndex e_jStr_checkIndex_v582 := c_hand_jStr_checkIndex (by decide) (by decide) (by decide)
def e_jStr_length_v584 : en_T := ([(2, 0, 0, [5024])], some (0, 3, 3, []), true, 2, 0, 0, [], [], (0, [], [], [], []))
def n_jStr_length_v584_an : List an_T := []
def t_jStr_length_v584_ct : ct_L := [(22, 335, e_jStr_coder_v289), (1000003, 9, en_ro [(2, 0, 0, [5024])] (2, 0, 0, [5224])), (1000004, 0, en_ro [(2, 0, 0, [5224])] (0, 3, 3, []))]
set_option maxRecDepth 100000 in
theorem c_jStr_length_v584 {l : Launch} {D : va_G} {kA : Nat → ClassId} : ct_ok PRD l D kA GG y_jStr_length z_jStr_length e_jStr_length_v584 := chk_all_ok (FT := []) (PT := []) (CT := t_jStr_length_v584_ct) (KT := []) (NT := []) (AN := n_jStr_length_v584_an) (OT := []) 0 200 (List.forall_mem_nil _) (by decide +kernel) ⟨List.forall_mem_nil _, List.forall_mem_nil _, List.forall_mem_cons.mpr ⟨cl_stringS (y := y_jStr_coder) (rs := ro_strs) rfl (by decide +kernel) rfl c_jStr_coder_v289 wm_678 wm_11 wm_675 wm_676 wm_677 ⟨by decide, by decide, by decide +kernel⟩ (by decide), List.forall_mem_cons.mpr ⟨cl_value (i := 24) wm_3969 rfl (by decide +kernel) (by decide +kernel) (by decide +kernel), List.forall_mem_cons.mpr ⟨cl_tlen (i := 24) (n := 3) rfl (by decide +kernel) (by decide +kernel) (by decide +kernel), List.forall_mem_nil _⟩⟩⟩, List.forall_mem_nil _, List.forall_mem_nil _, GG_pl⟩ (by decide +kernel)
def e_jStr_length_v591 : en_T := ([(2, 0, 0, [5025])], some (0, 3, 3, []), true, 2, 0, 0, [], [], (0, [], [], [], []))
def n_jStr_length_v591_an : List an_T := []
def t_jStr_length_v591_ct : ct_L := [(22, 335, e_jStr_coder_v289), (1000003, 9, en_ro [(2, 0, 0, [5025])] (2, 0, 0, [5225])), (1000004, 0, en_ro [(2, 0, 0, [5225])] (0, 3, 3, []))]
set_option maxRecDepth 100000 in
theorem c_jStr_length_v591 {l : Launch} {D : va_G} {kA : Nat → ClassId} : ct_ok PRD l D kA GG y_jStr_length z_jStr_length e_jStr_length_v591 := chk_all_ok (FT := []) (PT := []) (CT := t_jStr_length_v591_ct) (KT := []) (NT := []) (AN := n_jStr_length_v591_an) (OT := []) 0 200 (List.forall_mem_nil _) (by decide +kernel) ⟨List.forall_mem_nil _, List.forall_mem_nil _, List.forall_mem_cons.mpr ⟨cl_stringS (y := y_jStr_coder) (rs := ro_strs) rfl (by decide +kernel) rfl c_jStr_coder_v289 wm_678 wm_11 wm_675 wm_676 wm_677 ⟨by decide, by decide, by decide +kernel⟩ (by decide), List.forall_mem_cons.mpr ⟨cl_value (i := 25) wm_3969 rfl (by decide +kernel) (by decide +kernel) (by decide +kernel), List.forall_mem_cons.mpr ⟨cl_tlen (i := 25) (n := 3) rfl (by decide +kernel) (by decide +kernel) (by decide +kernel), List.forall_mem_nil _⟩⟩⟩, List.forall_mem_nil _, List.forall_mem_nil _, GG_pl⟩ (by decide +kernel)
def e_jStr_length_v598 : en_T := ([(2, 0, 0, [5026])], some (0, 2, 2, []), true, 2, 0, 0, [], [], (0, [], [], [], []))
def n_jStr_length_v598_an : List an_T := []
def t_jStr_length_v598_ct : ct_L := [(22, 335, e_jStr_coder_v289), (1000003, 9, en_ro [(2, 0, 0, [5026])] (2, 0, 0, [5226])), (1000004, 0, en_ro [(2, 0, 0, [5226])] (0, 2, 2, []))]
set_option maxRecDepth 100000 in
theorem c_jStr_length_v598 {l : Launch} {D : va_G} {kA : Nat → ClassId} : ct_ok PRD l D kA GG y_jStr_length z_jStr_length e_jStr_length_v598 := chk_all_ok (FT := []) (PT := []) (CT := t_jStr_length_v598_ct) (KT := []) (NT := []) (AN := n_jStr_length_v598_an) (OT := []) 0 200 (List.forall_mem_nil _) (by decide +kernel) ⟨List.forall_mem_nil _, List.forall_mem_nil _, List.forall_mem_cons.mpr ⟨cl_stringS (y := y_jStr_coder) (rs := ro_strs) rfl (by decide +kernel) rfl c_jStr_coder_v289 wm_678 wm_11 wm_675 wm_676 wm_677 ⟨by decide, by decide, by decide +kernel⟩ (by decide), List.forall_mem_cons.mpr ⟨cl_value (i := 26) wm_3969 rfl (by decide +kernel) (by decide +kernel) (by decide +kernel), List.forall_mem_cons.mpr ⟨cl_tlen (i := 26) (n := 2) rfl (by decide +kernel) (by decide +kernel) (by decide +kernel), List.forall_mem_nil _⟩⟩⟩, List.forall_mem_nil _, List.forall_mem_nil _, GG_pl⟩ (by decide +kernel)
def e_jStr_length_v603 : en_T := ([(2, 0, 0, [5027])], some (0, 3, 3, []), true, 2, 0, 0, [], [], (0, [], [], [], []))
def n_jStr_length_v603_an : List an_T := []
def t_jStr_length_v603_ct : ct_L := [(22, 335, e_jStr_coder_v289), (1000003, 9, en_ro [(2, 0, 0, [5027])] (2, 0, 0, [5227])), (1000004, 0, en_ro [(2, 0, 0, [5227])] (0, 3, 3, []))]
set_option maxRecDepth 100000 in
theorem c_jStr_length_v603 {l : Launch} {D : va_G} {kA : Nat → ClassId} : ct_ok PRD l D kA GG y_jStr_length z_jStr_length e_jStr_length_v603 := chk_all_ok (FT := []) (PT := []) (CT := t_jStr_length_v603_ct) (KT := []) (NT := []) (AN := n_jStr_length_v603_an) (OT := []) 0 200 (List.forall_mem_nil _) (by decide +kernel) ⟨List.forall_mem_nil _, List.forall_mem_nil _, List.forall_mem_cons.mpr ⟨cl_stringS (y := y_jStr_coder) (rs := ro_strs) rfl (by decide +kernel) rfl c_jStr_coder_v289 wm_678 wm_11 wm_675 wm_676 wm_677 ⟨by decide, by decide, by decide +kernel⟩ (by decide), List.forall_mem_cons.mpr ⟨cl_value (i := 27) wm_3969 rfl (by decide +kernel) (by decide +kernel) (by decide +kernel), List.forall_mem_cons.mpr ⟨cl_tlen (i := 27) (n := 3) rfl (by decide +kernel) (by decide +kernel) (by decide +kernel), List.forall_mem_nil _⟩⟩⟩, List.forall_mem_nil _, List.forall_mem_nil _, GG_pl⟩ (by decide +kernel)
def e_jStr_length_v610 : en_T := ([(2, 0, 0, [5028])], some (0, 3, 3, []), true, 2, 0, 0, [], [], (0, [], [], [], []))
def n_jStr_length_v610_an : List an_T := []
def t_jStr_length_v610_ct : ct_L := [(22, 335, e_jStr_coder_v289), (1000003, 9, en_ro [(2, 0, 0, [5028])] (2, 0, 0, [5228])), (1000004, 0, en_ro [(2, 0, 0, [5228])] (0, 3, 3, []))]
set_option maxRecDepth 100000 in
theorem c_jStr_length_v610 {l : Launch} {D : va_G} {kA : Nat → ClassId} : ct_ok PRD l D kA GG y_jStr_length z_jStr_length e_jStr_length_v610 := chk_all_ok (FT := []) (PT := []) (CT := t_jStr_length_v610_ct) (KT := []) (NT := []) (AN := n_jStr_length_v610_an) (OT := []) 0 200 (List.forall_mem_nil _) (by decide +kernel) ⟨List.forall_mem_nil _, List.forall_mem_nil _, List.forall_mem_cons.mpr ⟨cl_stringS (y := y_jStr_coder) (rs := ro_strs) rfl (by decide +kernel) rfl c_jStr_coder_v289 wm_678 wm_11 wm_675 wm_676 wm_677 ⟨by decide, by decide, by decide +kernel⟩ (by decide), List.forall_mem_cons.mpr ⟨cl_value (i := 28) wm_3969 rfl (by decide +kernel) (by decide +kernel) (by decide +kernel), List.forall_mem_cons.mpr ⟨cl_tlen (i := 28) (n := 3) rfl (by decide +kernel) (by decide +kernel) (by decide +kernel), List.forall_mem_nil _⟩⟩⟩, List.forall_mem_nil _, List.forall_mem_nil _, GG_pl⟩ (by decide +kernel)
def e_jStr_length_v617 : en_T := ([(2, 0, 0, [5029])], some (0, 4, 4, []), true, 2, 0, 0, [], [], (0, [], [], [], []))
def n_jStr_length_v617_an : List an_T := []
def t_jStr_length_v617_ct : ct_L := [(22, 335, e_jStr_coder_v289), (1000003, 9, en_ro [(2, 0, 0, [5029])] (2, 0, 0, [5229])), (1000004, 0, en_ro [(2, 0, 0, [5229])] (0, 4, 4, []))]
set_option maxRecDepth 100000 in
theorem c_jStr_length_v617 {l : Launch} {D : va_G} {kA : Nat → ClassId} : ct_ok PRD l D kA GG y_jStr_length z_jStr_length e_jStr_length_v617 := chk_all_ok (FT := []) (PT := []) (CT := t_jStr_length_v617_ct) (KT := []) (NT := []) (AN := n_jStr_length_v617_an) (OT := []) 0 200 (List.forall_mem_nil _) (by decide +kernel) ⟨List.forall_mem_nil _, List.forall_mem_nil _, List.forall_mem_cons.mpr ⟨cl_stringS (y := y_jStr_coder) (rs := ro_strs) rfl (by decide +kernel) rfl c_jStr_coder_v289 wm_678 wm_11 wm_675 wm_676 wm_677 ⟨by decide, by decide, by decide +kernel⟩ (by decide), List.forall_mem_cons.mpr ⟨cl_value (i := 29) wm_3969 rfl (by decide +kernel) (by decide +kernel) (by decide +kernel), List.forall_mem_cons.mpr ⟨cl_tlen (i := 29) (n := 4) rfl (by decide +kernel) (by decide +kernel) (by decide +kernel), List.forall_mem_nil _⟩⟩⟩, List.forall_mem_nil _, List.forall_mem_nil _, GG_pl⟩ (by decide +kernel)
def e_jStr_length_v626 : en_T := ([(2, 0, 0, [5030])], some (0, 3, 3, []), true, 2, 0, 0, [], [], (0, [], [], [], []))
def n_jStr_length_v626_an : List an_T := []
def t_jStr_length_v626_ct : ct_L := [(22, 335, e_jStr_coder_v289), (1000003, 9, en_ro [(2, 0, 0, [5030])] (2, 0, 0, [5230])), (1000004, 0, en_ro [(2, 0, 0, [5230])] (0, 3, 3, []))]
set_option maxRecDepth 100000 in
theorem c_jStr_length_v626 {l : Launch} {D : va_G} {kA : Nat → ClassId} : ct_ok PRD l D kA GG y_jStr_length z_jStr_length e_jStr_length_v626 := chk_all_ok (FT := []) (PT := []) (CT := t_jStr_length_v626_ct) (KT := []) (NT := []) (AN := n_jStr_length_v626_an) (OT := []) 0 200 (List.forall_mem_nil _) (by decide +kernel) ⟨List.forall_mem_nil _, List.forall_mem_nil _, List.forall_mem_cons.mpr ⟨cl_stringS (y := y_jStr_coder) (rs := ro_strs) rfl (by decide +kernel) rfl c_jStr_coder_v289 wm_678 wm_11 wm_675 wm_676 wm_677 ⟨by decide, by decide, by decide +kernel⟩ (by decide), List.forall_mem_cons.mpr ⟨cl_value (i := 30) wm_3969 rfl (by decide +kernel) (by decide +kernel) (by decide +kernel), List.forall_mem_cons.mpr ⟨cl_tlen (i := 30) (n := 3) rfl (by decide +kernel) (by decide +kernel) (by decide +kernel), List.forall_mem_nil _⟩⟩⟩, List.forall_mem_nil _, List.forall_mem_nil _, GG_pl⟩ (by decide +kernel)
def e_jStr_length_v633 : en_T := ([(2, 0, 0, [5031])], some (0, 1, 1, []), true, 2, 0, 0, [], [], (0, [], [], [], []))
def n_jStr_length_v633_an : List an_T := []
def t_jStr_length_v633_ct : ct_L := [(22, 335, e_jStr_coder_v289), (1000003, 9, en_ro [(2, 0, 0, [5031])] (2, 0, 0, [5231])), (1000004, 0, en_ro [(2, 0, 0, [5231])] (0, 1, 1, []))]
set_option maxRecDepth 100000 in
theorem c_jStr_length_v633 {l : Launch} {D : va_G} {kA : Nat → ClassId} : ct_ok PRD l D kA GG y_jStr_length z_jStr_length e_jStr_length_v633 := chk_all_ok (FT := []) (PT := []) (CT := t_jStr_length_v633_ct) (KT := []) (NT := []) (AN := n_jStr_length_v633_an) (OT := []) 0 200 (List.forall_mem_nil _) (by decide +kernel) ⟨List.forall_mem_nil _, List.forall_mem_nil _, List.forall_mem_cons.mpr ⟨cl_stringS (y := y_jStr_coder) (rs := ro_strs) rfl (by decide +kernel) rfl c_jStr_coder_v289 wm_678 wm_11 wm_675 wm_676 wm_677 ⟨by decide, by decide, by decide +kernel⟩ (by decide), List.forall_mem_cons.mpr ⟨cl_value (i := 31) wm_3969 rfl (by decide +kernel) (by decide +kernel) (by decide +kernel), List.forall_mem_cons.mpr ⟨cl_tlen (i := 31) (n := 1) rfl (by decide +kernel) (by decide +kernel) (by decide +kernel), List.forall_mem_nil _⟩⟩⟩, List.forall_mem_nil _, List.forall_mem_nil _, GG_pl⟩ (by decide +kernel)
def e_jStr_checkIndex_v636 : en_T := ([(0, 0, 0, []), (0, 1, 1, [])], none, true, 2, 0, 0, [], [], (0, [], [], [], []))
theorem c_jStr_checkIndex_v636 {l : Launch} {D : va_G} {kA : Nat → ClassId} : ct_ok PRD l D kA GG y_jStr_checkIndex z_jStr_checkIndex e_jStr_checkIndex_v636 := c_hand_jStr_checkIndex (by decide) (by decide) (by decide)
def e_jStr_length_v638 : en_T := ([(2, 0, 0, [5032])], some (0, 1, 1, []), true, 2, 0, 0, [], [], (0, [], [], [], []))
def n_jStr_length_v638_an : List an_T := []
def t_jStr_length_v638_ct : ct_L := [(22, 335, e_jStr_coder_v289), (1000003, 9, en_ro [(2, 0, 0, [5032])] (2, 0, 0, [5232])), (1000004, 0, en_ro [(2, 0, 0, [5232])] (0, 1, 1, []))]
set_option maxRecDepth 100000 in
theorem c_jStr_length_v638 {l : Launch} {D : va_G} {kA : Nat → ClassId} : ct_ok PRD l D kA GG y_jStr_length z_jStr_length e_jStr_length_v638 := chk_all_ok (FT := []) (PT := []) (CT := t_jStr_length_v638_ct) (KT := []) (NT := []) (AN := n_jStr_length_v638_an) (OT := []) 0 200 (List.forall_mem_nil _) (by decide +kernel) ⟨List.forall_mem_nil _, List.forall_mem_nil _, List.forall_mem_cons.mpr ⟨cl_stringS (y := y_jStr_coder) (rs := ro_strs) rfl (by decide +kernel) rfl c_jStr_coder_v289 wm_678 wm_11 wm_675 wm_676 wm_677 ⟨by decide, by decide, by decide +kernel⟩ (by decide), List.forall_mem_cons.mpr ⟨cl_value (i := 32) wm_3969 rfl (by decide +kernel) (by decide +kernel) (by decide +kernel), List.forall_mem_cons.mpr ⟨cl_tlen (i := 32) (n := 1) rfl (by decide +kernel) (by decide +kernel) (by decide +kernel), List.forall_mem_nil _⟩⟩⟩, List.forall_mem_nil _, List.forall_mem_nil _, GG_pl⟩ (by decide +kernel)
def e_jStr_length_v641 : en_T := ([(2, 0, 0, [5033])], some (0, 6, 6, []), true, 2, 0, 0, [], [], (0, [], [], [], []))
def n_jStr_length_v641_an : List an_T := []
def t_jStr_length_v641_ct : ct_L := [(22, 335, e_jStr_coder_v289), (1000003, 9, en_ro [(2, 0, 0, [5033])] (2, 0, 0, [5233])), (1000004, 0, en_ro [(2, 0, 0, [5233])] (0, 6, 6, []))]
set_option maxRecDepth 100000 in
theorem c_jStr_length_v641 {l : Launch} {D : va_G} {kA : Nat → ClassId} : ct_ok PRD l D kA GG y_jStr_length z_jStr_length e_jStr_length_v641 := chk_all_ok (FT := []) (PT := []) (CT := t_jStr_length_v641_ct) (KT := []) (NT := []) (AN := n_jStr_length_v641_an) (OT := []) 0 200 (List.forall_mem_nil _) (by decide +kernel) ⟨List.forall_mem_nil _, List.forall_mem_nil _, List.forall_mem_cons.mpr ⟨cl_stringS (y := y_jStr_coder) (rs := ro_strs) rfl (by decide +kernel) rfl c_jStr_coder_v289 wm_678 wm_11 wm_675 wm_676 wm_677 ⟨by decide, by decide, by decide +kernel⟩ (by decide), List.forall_mem_cons.mpr ⟨cl_value (i := 33) wm_3969 rfl (by decide +kernel) (by decide +kernel) (by decide +kernel), List.forall_mem_cons.mpr ⟨cl_tlen (i := 33) (n := 6) rfl (by decide +kernel) (by decide +kernel) (by decide +kernel), List.forall_mem_nil _⟩⟩⟩, List.forall_mem_nil _, List.forall_mem_nil _, GG_pl⟩ (by decide +kernel)
def e_jStr_length_v654 : en_T := ([(2, 0, 0, [5034])], some (0, 6, 6, []), true, 2, 0, 0, [], [], (0, [], [], [], []))
def n_jStr_length_v654_an : List an_T := []
def t_jStr_length_v654_ct : ct_L := [(22, 335, e_jStr_coder_v289), (1000003, 9, en_ro [(2, 0, 0, [5034])] (2, 0, 0, [5234])), (1000004, 0, en_ro [(2, 0, 0, [5234])] (0, 6, 6, []))]
set_option maxRecDepth 100000 in
theorem c_jStr_length_v654 {l : Launch} {D : va_G} {kA : Nat → ClassId} : ct_ok PRD l D kA GG y_jStr_length z_jStr_length e_jStr_length_v654 := chk_all_ok (FT := []) (PT := []) (CT := t_jStr_length_v654_ct) (KT := []) (NT := []) (AN := n_jStr_length_v654_an) (OT := []) 0 200 (List.forall_mem_nil _) (by decide +kernel) ⟨List.forall_mem_nil _, List.forall_mem_nil _, List.forall_mem_cons.mpr ⟨cl_stringS (y := y_jStr_coder) (rs := ro_strs) rfl (by decide +kernel) rfl c_jStr_coder_v289 wm_678 wm_11 wm_675 wm_676 wm_677 ⟨by decide, by decide, by decide +kernel⟩ (by decide), List.forall_mem_cons.mpr ⟨cl_value (i := 34) wm_3969 rfl (by decide +kernel) (by decide +kernel) (by decide +kernel), List.forall_mem_cons.mpr ⟨cl_tlen (i := 34) (n := 6) rfl (by decide +kernel) (by decide +kernel) (by decide +kernel), List.forall_mem_nil _⟩⟩⟩, List.forall_mem_nil _, List.forall_mem_nil _, GG_pl⟩ (by decide +kernel)
def e_jStr_length_v667 : en_T := ([(2, 0, 0, [5035])], some (0, 4, 4, []), true, 2, 0, 0, [], [], (0, [], [], [], []))
def n_jStr_length_v667_an : List an_T := []
def t_jStr_length_v667_ct : ct_L := [(22, 335, e_jStr_coder_v289), (1000003, 9, en_ro [(2, 0, 0, [5035])] (2, 0, 0, [5235])), (1000004, 0, en_ro [(2, 0, 0, [5235])] (0, 4, 4, []))]
set_option maxRecDepth 100000 in
theorem c_jStr_length_v667 {l : Launch} {D : va_G} {kA : Nat → ClassId} : ct_ok PRD l D kA GG y_jStr_length z_jStr_length e_jStr_length_v667 := chk_all_ok (FT := []) (PT := []) (CT := t_jStr_length_v667_ct) (KT := []) (NT := []) (AN := n_jStr_length_v667_an) (OT := []) 0 200 (List.forall_mem_nil _) (by decide +kernel) ⟨List.forall_mem_nil _, List.forall_mem_nil _, List.forall_mem_cons.mpr ⟨cl_stringS (y := y_jStr_coder) (rs := ro_strs) rfl (by decide +kernel) rfl c_jStr_coder_v289 wm_678 wm_11 wm_675 wm_676 wm_677 ⟨by decide, by decide, by decide +kernel⟩ (by decide), List.forall_mem_cons.mpr ⟨cl_value (i := 35) wm_3969 rfl (by decide +kernel) (by decide +kernel) (by decide +kernel), List.forall_mem_cons.mpr ⟨cl_tlen (i := 35) (n := 4) rfl (by decide +kernel) (by decide +kernel) (by decide +kernel), List.forall_mem_nil _⟩⟩⟩, List.forall_mem_nil _, List.forall_mem_nil _, GG_pl⟩ (by decide +kernel)
def e_jStr_length_v676 : en_T := ([(2, 0, 0, [5036])], some (0, 2, 2, []), true, 2, 0, 0, [], [], (0, [], [], [], []))
def n_jStr_length_v676_an : List an_T := []
def t_jStr_length_v676_ct : ct_L := [(22, 335, e_jStr_coder_v289), (1000003, 9, en_ro [(2, 0, 0, [5036])] (2, 0, 0, [5236])), (1000004, 0, en_ro [(2, 0, 0, [5236])] (0, 2, 2, []))]
set_option maxRecDepth 100000 in
theorem c_jStr_length_v676 {l : Launch} {D : va_G} {kA : Nat → ClassId} : ct_ok PRD l D kA GG y_jStr_length z_jStr_length e_jStr_length_v676 := chk_all_ok (FT := []) (PT := []) (CT := t_jStr_length_v676_ct) (KT := []) (NT := []) (AN := n_jStr_length_v676_an) (OT := []) 0 200 (List.forall_mem_nil _) (by decide +kernel) ⟨List.forall_mem_nil _, List.forall_mem_nil _, List.forall_mem_cons.mpr ⟨cl_stringS (y := y_jStr_coder) (rs := ro_strs) rfl (by decide +kernel) rfl c_jStr_coder_v289 wm_678 wm_11 wm_675 wm_676 wm_677 ⟨by decide, by decide, by decide +kernel⟩ (by decide), List.forall_mem_cons.mpr ⟨cl_value (i := 36) wm_3969 rfl (by decide +kernel) (by decide +kernel) (by decide +kernel), List.forall_mem_cons.mpr ⟨cl_tlen (i := 36) (n := 2) rfl (by decide +kernel) (by decide +kernel) (by decide +kernel), List.forall_mem_nil _⟩⟩⟩, List.forall_mem_nil _, List.forall_mem_nil _, GG_pl⟩ (by decide +kernel)
def e_jStr_length_v681 : en_T := ([(2, 0, 0, [5037])], some (0, 5, 5, []), true, 2, 0, 0, [], [], (0, [], [], [], []))
def n_jStr_length_v681_an : List an_T := []
def t_jStr_length_v681_ct : ct_L := [(22, 335, e_jStr_coder_v289), (1000003, 9, en_ro [(2, 0, 0, [5037])] (2, 0, 0, [5237])), (1000004, 0, en_ro [(2, 0, 0, [5237])] (0, 5, 5, []))]
set_option maxRecDepth 100000 in
theorem c_jStr_length_v681 {l : Launch} {D : va_G} {kA : Nat → ClassId} : ct_ok PRD l D kA GG y_jStr_length z_jStr_length e_jStr_length_v681 := chk_all_ok (FT := []) (PT := []) (CT := t_jStr_length_v681_ct) (KT := []) (NT := []) (AN := n_jStr_length_v681_an) (OT := []) 0 200 (List.forall_mem_nil _) (by decide +kernel) ⟨List.forall_mem_nil _, List.forall_mem_nil _, List.forall_mem_cons.mpr ⟨cl_stringS (y := y_jStr_coder) (rs := ro_strs) rfl (by decide +kernel) rfl c_jStr_coder_v289 wm_678 wm_11 wm_675 wm_676 wm_677 ⟨by decide, by decide, by decide +kernel⟩ (by decide), List.forall_mem_cons.mpr ⟨cl_value (i := 37) wm_3969 rfl (by decide +kernel) (by decide +kernel) (by decide +kernel), List.forall_mem_cons.mpr ⟨cl_tlen (i := 37) (n := 5) rfl (by decide +kernel) (by decide +kernel) (by decide +kernel), List.forall_mem_nil _⟩⟩⟩, List.forall_mem_nil _, List.forall_mem_nil _, GG_pl⟩ (by decide +kernel)
def e_jStr_length_v692 : en_T := ([(2, 0, 0, [5038])], some (0, 4, 4, []), true, 2, 0, 0, [], [], (0, [], [], [], []))
def n_jStr_length_v692_an : List an_T := []
def t_jStr_length_v692_ct : ct_L := [(22, 335, e_jStr_coder_v289), (1000003, 9, en_ro [(2, 0, 0, [5038])] (2, 0, 0, [5238])), (1000004, 0, en_ro [(2, 0, 0, [5238])] (0, 4, 4, []))]
set_option maxRecDepth 100000 in
theorem c_jStr_length_v692 {l : Launch} {D : va_G} {kA : Nat → ClassId} : ct_ok PRD l D kA GG y_jStr_length z_jStr_length e_jStr_length_v692 := chk_all_ok (FT := []) (PT := []) (CT := t_jStr_length_v692_ct) (KT := []) (NT := []) (AN := n_jStr_length_v692_an) (OT := []) 0 200 (List.forall_mem_nil _) (by decide +kernel) ⟨List.forall_mem_nil _, List.forall_mem_nil _, List.forall_mem_cons.mpr ⟨cl_stringS (y := y_jStr_coder) (rs := ro_strs) rfl (by decide +kernel) rfl c_jStr_coder_v289 wm_678 wm_11 wm_675 wm_676 wm_677 ⟨by decide, by decide, by decide +kernel⟩ (by decide), List.forall_mem_cons.mpr ⟨cl_value (i := 38) wm_3969 rfl (by decide +kernel) (by decide +kernel) (by decide +kernel), List.forall_mem_cons.mpr ⟨cl_tlen (i := 38) (n := 4) rfl (by decide +kernel) (by decide +kernel) (by decide +kernel), List.forall_mem_nil _⟩⟩⟩, List.forall_mem_nil _, List.forall_mem_nil _, GG_pl⟩ (by decide +kernel)
def e_jStr_length_v701 : en_T := ([(2, 0, 0, [5039])], some (0, 3, 3, []), true, 2, 0, 0, [], [], (0, [], [], [], []))
def n_jStr_length_v701_an : List an_T := []
def t_jStr_length_v701_ct : ct_L := [(22, 335, e_jStr_coder_v289), (1000003, 9, en_ro [(2, 0, 0, [5039])] (2, 0, 0, [5239])), (1000004, 0, en_ro [(2, 0, 0, [5239])] (0, 3, 3, []))]
set_option maxRecDepth 100000 in
theorem c_jStr_length_v701 {l : Launch} {D : va_G} {kA : Nat → ClassId} : ct_ok PRD l D kA GG y_jStr_length z_jStr_length e_jStr_length_v701 := chk_all_ok (FT := []) (PT := []) (CT := t_jStr_length_v701_ct) (KT := []) (NT := []) (AN := n_jStr_length_v701_an) (OT := []) 0 200 (List.forall_mem_nil _) (by decide +kernel) ⟨List.forall_mem_nil _, List.forall_mem_nil _, List.forall_mem_cons.mpr ⟨cl_stringS (y := y_jStr_coder) (rs := ro_strs) rfl (by decide +kernel) rfl c_jStr_coder_v289 wm_678 wm_11 wm_675 wm_676 wm_677 ⟨by decide, by decide, by decide +kernel⟩ (by decide), List.forall_mem_cons.mpr ⟨cl_value (i := 39) wm_3969 rfl (by decide +kernel) (by decide +kernel) (by decide +kernel), List.forall_mem_cons.mpr ⟨cl_tlen (i := 39) (n := 3) rfl (by decide +kernel) (by decide +kernel) (by decide +kernel), List.forall_mem_nil _⟩⟩⟩, List.forall_mem_nil _, List.forall_mem_nil _, GG_pl⟩ (by decide +kernel)
def e_jStr_length_v708 : en_T := ([(2, 0, 0, [5040])], some (0, 3, 3, []), true, 2, 0, 0, [], [], (0, [], [], [], []))
def n_jStr_length_v708_an : List an_T := []
def t_jStr_length_v708_ct : ct_L := [(22, 335, e_jStr_coder_v289), (1000003, 9, en_ro [(2, 0, 0, [5040])] (2, 0, 0, [5240])), (1000004, 0, en_ro [(2, 0, 0, [5240])] (0, 3, 3, []))]
set_option maxRecDepth 100000 in
theorem c_jStr_length_v708 {l : Launch} {D : va_G} {kA : Nat → ClassId} : ct_ok PRD l D kA GG y_jStr_length z_jStr_length e_jStr_length_v708 := chk_all_ok (FT := []) (PT := []) (CT := t_jStr_length_v708_ct) (KT := []) (NT := []) (AN := n_jStr_length_v708_an) (OT := []) 0 200 (List.forall_mem_nil _) (by decide +kernel) ⟨List.forall_mem_nil _, List.forall_mem_nil _, List.forall_mem_cons.mpr ⟨cl_stringS (y := y_jStr_coder) (rs := ro_strs) rfl (by decide +kernel) rfl c_jStr_coder_v289 wm_678 wm_11 wm_675 wm_676 wm_677 ⟨by decide, by decide, by decide +kernel⟩ (by decide), List.forall_mem_cons.mpr ⟨cl_value (i := 40) wm_3969 rfl (by decide +kernel) (by decide +kernel) (by decide +kernel), List.forall_mem_cons.mpr ⟨cl_tlen (i := 40) (n := 3) rfl (by decide +kernel) (by decide +kernel) (by decide +kernel), List.forall_mem_nil _⟩⟩⟩, List.forall_mem_nil _, List.forall_mem_nil _, GG_pl⟩ (by decide +kernel)
def e_jStr_length_v715 : en_T := ([(2, 0, 0, [5041])], some (0, 2, 2, []), true, 2, 0, 0, [], [], (0, [], [], [], []))
def n_jStr_length_v715_an : List an_T := []
def t_jStr_length_v715_ct : ct_L := [(22, 335, e_jStr_coder_v289), (1000003, 9, en_ro [(2, 0, 0, [5041])] (2, 0, 0, [5241])), (1000004, 0, en_ro [(2, 0, 0, [5241])] (0, 2, 2, []))]
set_option maxRecDepth 100000 in
theorem c_jStr_length_v715 {l : Launch} {D : va_G} {kA : Nat → ClassId} : ct_ok PRD l D kA GG y_jStr_length z_jStr_length e_jStr_length_v715 := chk_all_ok (FT := []) (PT := []) (CT := t_jStr_length_v715_ct) (KT := []) (NT := []) (AN := n_jStr_length_v715_an) (OT := []) 0 200 (List.forall_mem_nil _) (by decide +kernel) ⟨List.forall_mem_nil _, List.forall_mem_nil _, List.forall_mem_cons.mpr ⟨cl_stringS (y := y_jStr_coder) (rs := ro_strs) rfl (by decide +kernel) rfl c_jStr_coder_v289 wm_678 wm_11 wm_675 wm_676 wm_677 ⟨by decide, by decide, by decide +kernel⟩ (by decide), List.forall_mem_cons.mpr ⟨cl_value (i := 41) wm_3969 rfl (by decide +kernel) (by decide +kernel) (by decide +kernel), List.forall_mem_cons.mpr ⟨cl_tlen (i := 41) (n := 2) rfl (by decide +kernel) (by decide +kernel) (by decide +kernel), List.forall_mem_nil _⟩⟩⟩, List.forall_mem_nil _, List.forall_mem_nil _, GG_pl⟩ (by decide +kernel)
def e_jStr_length_v720 : en_T := ([(2, 0, 0, [5042])], some (0, 5, 5, []), true, 2, 0, 0, [], [], (0, [], [], [], []))
def n_jStr_length_v720_an : List an_T := []
def t_jStr_length_v720_ct : ct_L := [(22, 335, e_jStr_coder_v289), (1000003, 9, en_ro [(2, 0, 0, [5042])] (2, 0, 0, [5242])), (1000004, 0, en_ro [(2, 0, 0, [5242])] (0, 5, 5, []))]
set_option maxRecDepth 100000 in
theorem c_jStr_length_v720 {l : Launch} {D : va_G} {kA : Nat → ClassId} : ct_ok PRD l D kA GG y_jStr_length z_jStr_length e_jStr_length_v720 := chk_all_ok (FT := []) (PT := []) (CT := t_jStr_length_v720_ct) (KT := []) (NT := []) (AN := n_jStr_length_v720_an) (OT := []) 0 200 (List.forall_mem_nil _) (by decide +kernel) ⟨List.forall_mem_nil _, List.forall_mem_nil _, List.forall_mem_cons.mpr ⟨cl_stringS (y := y_jStr_coder) (rs := ro_strs) rfl (by decide +kernel) rfl c_jStr_coder_v289 wm_678 wm_11 wm_675 wm_676 wm_677 ⟨by decide, by decide, by decide +kernel⟩ (by decide), List.forall_mem_cons.mpr ⟨cl_value (i := 42) wm_3969 rfl (by decide +kernel) (by decide +kernel) (by decide +kernel), List.forall_mem_cons.mpr ⟨cl_tlen (i := 42) (n := 5) rfl (by decide +kernel) (by decide +kernel) (by decide +kernel), List.forall_mem_nil _⟩⟩⟩, List.forall_mem_nil _, List.forall_mem_nil _, GG_pl⟩ (by decide +kernel)
def e_jStr_length_v731 : en_T := ([(2, 0, 0, [5043])], some (0, 5, 5, []), true, 2, 0, 0, [], [], (0, [], [], [], []))
def n_jStr_length_v731_an : List an_T := []
def t_jStr_length_v731_ct : ct_L := [(22, 335, e_jStr_coder_v289), (1000003, 9, en_ro [(2, 0, 0, [5043])] (2, 0, 0, [5243])), (1000004, 0, en_ro [(2, 0, 0, [5243])] (0, 5, 5, []))]
set_option maxRecDepth 100000 in
theorem c_jStr_length_v731 {l : Launch} {D : va_G} {kA : Nat → ClassId} : ct_ok PRD l D kA GG y_jStr_length z_jStr_length e_jStr_length_v731 := chk_all_ok (FT := []) (PT := []) (CT := t_jStr_length_v731_ct) (KT := []) (NT := []) (AN := n_jStr_length_v731_an) (OT := []) 0 200 (List.forall_mem_nil _) (by decide +kernel) ⟨List.forall_mem_nil _, List.forall_mem_nil _, List.forall_mem_cons.mpr ⟨cl_stringS (y := y_jStr_coder) (rs := ro_strs) rfl (by decide +kernel) rfl c_jStr_coder_v289 wm_678 wm_11 wm_675 wm_676 wm_677 ⟨by decide, by decide, by decide +kernel⟩ (by decide), List.forall_mem_cons.mpr ⟨cl_value (i := 43) wm_3969 rfl (by decide +kernel) (by decide +kernel) (by decide +kernel), List.forall_mem_cons.mpr ⟨cl_tlen (i := 43) (n := 5) rfl (by decide +kernel) (by decide +kernel) (by decide +kernel), List.forall_mem_nil _⟩⟩⟩, List.forall_mem_nil _, List.forall_mem_nil _, GG_pl⟩ (by decide +kernel)
def e_jStr_length_v742 : en_T := ([(2, 0, 0, [5044])], some (0, 4, 4, []), true, 2, 0, 0, [], [], (0, [], [], [], []))
def n_jStr_length_v742_an : List an_T := []
def t_jStr_length_v742_ct : ct_L := [(22, 335, e_jStr_coder_v289), (1000003, 9, en_ro [(2, 0, 0, [5044])] (2, 0, 0, [5244])), (1000004, 0, en_ro [(2, 0, 0, [5244])] (0, 4, 4, []))]
set_option maxRecDepth 100000 in
theorem c_jStr_length_v742 {l : Launch} {D : va_G} {kA : Nat → ClassId} : ct_ok PRD l D kA GG y_jStr_length z_jStr_length e_jStr_length_v742 := chk_all_ok (FT := []) (PT := []) (CT := t_jStr_length_v742_ct) (KT := []) (NT := []) (AN := n_jStr_length_v742_an) (OT := []) 0 200 (List.forall_mem_nil _) (by decide +kernel) ⟨List.forall_mem_nil _, List.forall_mem_nil _, List.forall_mem_cons.mpr ⟨cl_stringS (y := y_jStr_coder) (rs := ro_strs) rfl (by decide +kernel) rfl c_jStr_coder_v289 wm_678 wm_11 wm_675 wm_676 wm_677 ⟨by decide, by decide, by decide +kernel⟩ (by decide), List.forall_mem_cons.mpr ⟨cl_value (i := 44) wm_3969 rfl (by decide +kernel) (by decide +kernel) (by decide +kernel), List.forall_mem_cons.mpr ⟨cl_tlen (i := 44) (n := 4) rfl (by decide +kernel) (by decide +kernel) (by decide +kernel), List.forall_mem_nil _⟩⟩⟩, List.forall_mem_nil _, List.forall_mem_nil _, GG_pl⟩ (by decide +kernel)
def e_jStr_length_v751 : en_T := ([(2, 0, 0, [5045])], some (0, 1, 1, []), true, 2, 0, 0, [], [], (0, [], [], [], []))
def n_jStr_length_v751_an : List an_T := []
def t_jStr_length_v751_ct : ct_L := [(22, 335, e_jStr_coder_v289), (1000003, 9, en_ro [(2, 0, 0, [5045])] (2, 0, 0, [5245])), (1000004, 0, en_ro [(2, 0, 0, [5245])] (0, 1, 1, []))]
set_option maxRecDepth 100000 in
theorem c_jStr_length_v751 {l : Launch} {D : va_G} {kA : Nat → ClassId} : ct_ok PRD l D kA GG y_jStr_length z_jStr_length e_jStr_length_v751 := chk_all_ok (FT := []) (PT := []) (CT := t_jStr_length_v751_ct) (KT := []) (NT := []) (AN := n_jStr_length_v751_an) (OT := []) 0 200 (List.forall_mem_nil _) (by decide +kernel) ⟨List.forall_mem_nil _, List.forall_mem_nil _, List.forall_mem_cons.mpr ⟨cl_stringS (y := y_jStr_coder) (rs := ro_strs) rfl (by decide +kernel) rfl c_jStr_coder_v289 wm_678 wm_11 wm_675 wm_676 wm_677 ⟨by decide, by decide, by decide +kernel⟩ (by decide), List.forall_mem_cons.mpr ⟨cl_value (i := 45) wm_3969 rfl (by decide +kernel) (by decide +kernel) (by decide +kernel), List.forall_mem_cons.mpr ⟨cl_tlen (i := 45) (n := 1) rfl (by decide +kernel) (by decide +kernel) (by decide +kernel), List.forall_mem_nil _⟩⟩⟩, List.forall_mem_nil _, List.forall_mem_nil _, GG_pl⟩ (by decide +kernel)
def e_jLat_charAt_v260 : en_T := ([(2, 0, 0, [5204]), (0, 0, 38, [])], some (0, 0, 65535, []), true, 3, 0, 0, [], [], (0, [], [], [], []))
def o_jLat_charAt_v260_0 : or_T := (1000000, 0, [], [], [], [], [], [], [])
theorem oo_jLat_charAt_v260_0 {kA : Nat → ClassId} : or_ok PRD kA GG o_jLat_charAt_v260_0 := fun _ _ _ _ _ _ _ _ _ _ => ⟨fun q h => (by cases h), [], trivial, fun f h => (by cases h), fun q h => (by cases h)⟩
def n_jLat_charAt_v260_an : List an_T := []
def t_jLat_charAt_v260_ct : ct_L := [(12, 9, e_jStr_checkIndex_v261), (1000004, 0, en_ro [(2, 0, 0, [5204])] (0, 39, 39, [])), (1000005, 0, en_ro [(2, 0, 0, [5204]), (0, 0, 38, [])] (0, 32, 122, []))]
set_option maxRecDepth 100000 in
theorem c_jLat_charAt_v260 {l : Launch} {D : va_G} {kA : Nat → ClassId} : ct_ok PRD l D kA GG y_jLat_charAt z_jLat_charAt e_jLat_charAt_v260 := chk_all_ok (FT := []) (PT := []) (CT := t_jLat_charAt_v260_ct) (KT := []) (NT := []) (AN := n_jLat_charAt_v260_an) (OT := [o_jLat_charAt_v260_0]) 0 200 (List.forall_mem_cons.mpr ⟨oo_jLat_charAt_v260_0, List.forall_mem_nil _⟩) (by decide +kernel) ⟨List.forall_mem_nil _, List.forall_mem_nil _, List.forall_mem_cons.mpr ⟨cl_static (y := y_jStr_checkIndex) c_jStr_checkIndex_v261 wm_694 wm_11 wm_692 wm_693 ⟨by decide, by decide, by decide +kernel⟩ (by decide), List.forall_mem_cons.mpr ⟨cl_tlen (i := 4) (n := 39) rfl (by decide +kernel) (by decide +kernel) (by decide +kernel), List.forall_mem_cons.mpr ⟨cl_tbyte (i := 4) (n := 39) rfl (by decide +kernel) (by decide +kernel) (by decide +kernel) (by decide +kernel), List.forall_mem_nil _⟩⟩⟩, List.forall_mem_nil _, List.forall_mem_nil _, GG_pl⟩ (by decide +kernel)
def e_jLat_charAt_v264 : en_T := ([(2, 0, 0, [5206]), (0, 0, 9, [])], some (0, 0, 65535, []), true, 3, 0, 0, [], [], (0, [], [], [], []))
def o_jLat_charAt_v264_0 : or_T := (1000000, 0, [], [], [], [], [], [], [])
theorem oo_jLat_charAt_v264_0 {kA : Nat → ClassId} : or_ok PRD kA GG o_jLat_charAt_v264_0 := fun _ _ _ _ _ _ _ _ _ _ => ⟨fun q h => (by cases h), [], trivial, fun f h => (by cases h), fun q h => (by cases h)⟩
def n_jLat_charAt_v264_an : List an_T := []
def t_jLat_charAt_v264_ct : ct_L := [(12, 9, e_jStr_checkIndex_v265), (1000004, 0, en_ro [(2, 0, 0, [5206])] (0, 10, 10, [])), (1000005, 0, en_ro [(2, 0, 0, [5206]), (0, 0, 9, [])] (0, 32, 111, []))]
set_option maxRecDepth 100000 in
theorem c_jLat_charAt_v264 {l : Launch} {D : va_G} {kA : Nat → ClassId} : ct_ok PRD l D kA GG y_jLat_charAt z_jLat_charAt e_jLat_charAt_v264 := chk_all_ok (FT := []) (PT := []) (CT := t_jLat_charAt_v264_ct) (KT := []) (NT := []) (AN := n_jLat_charAt_v264_an) (OT := [o_jLat_charAt_v264_0]) 0 200 (List.forall_mem_cons.mpr ⟨oo_jLat_charAt_v264_0, List.forall_mem_nil _⟩) (by decide +kernel) ⟨List.forall_mem_nil _, List.forall_mem_nil _, List.forall_mem_cons.mpr ⟨cl_static (y := y_jStr_checkIndex) c_jStr_checkIndex_v265 wm_694 wm_11 wm_692 wm_693 ⟨by decide, by decide, by decide +kernel⟩ (by decide), List.forall_mem_cons.mpr ⟨cl_tlen (i := 6) (n := 10) rfl (by decide +kernel) (by decide +kernel) (by decide +kernel), List.forall_mem_cons.mpr ⟨cl_tbyte (i := 6) (n := 10) rfl (by decide +kernel) (by decide +kernel) (by decide +kernel) (by decide +kernel), List.forall_mem_nil _⟩⟩⟩, List.forall_mem_nil _, List.forall_mem_nil _, GG_pl⟩ (by decide +kernel)
def e_jLat_charAt_v268 : en_T := ([(2, 0, 0, [5207]), (0, 0, 43, [])], some (0, 0, 65535, []), true, 3, 0, 0, [], [], (0, [], [], [], []))
def o_jLat_charAt_v268_0 : or_T := (1000000, 0, [], [], [], [], [], [], [])
theorem oo_jLat_charAt_v268_0 {kA : Nat → ClassId} : or_ok PRD kA GG o_jLat_charAt_v268_0 := fun _ _ _ _ _ _ _ _ _ _ => ⟨fun q h => (by cases h), [], trivial, fun f h => (by cases h), fun q h => (by cases h)⟩
def n_jLat_charAt_v268_an : List an_T := []
def t_jLat_charAt_v268_ct : ct_L := [(12, 9, e_jStr_checkIndex_v269), (1000004, 0, en_ro [(2, 0, 0, [5207])] (0, 44, 44, [])), (1000005, 0, en_ro [(2, 0, 0, [5207]), (0, 0, 43, [])] (0, 32, 119, []))]
set_option maxRecDepth 100000 in
theorem c_jLat_charAt_v268 {l : Launch} {D : va_G} {kA : Nat → ClassId} : ct_ok PRD l D kA GG y_jLat_charAt z_jLat_charAt e_jLat_charAt_v268 := chk_all_ok (FT := []) (PT := []) (CT := t_jLat_charAt_v268_ct) (KT := []) (NT := []) (AN := n_jLat_charAt_v268_an) (OT := [o_jLat_charAt_v268_0]) 0 200 (List.forall_mem_cons.mpr ⟨oo_jLat_charAt_v268_0, List.forall_mem_nil _⟩) (by decide +kernel) ⟨List.forall_mem_nil _, List.forall_mem_nil _, List.forall_mem_cons.mpr ⟨cl_static (y := y_jStr_checkIndex) c_jStr_checkIndex_v269 wm_694 wm_11 wm_692 wm_693 ⟨by decide, by decide, by decide +kernel⟩ (by decide), List.forall_mem_cons.mpr ⟨cl_tlen (i := 7) (n := 44) rfl (by decide +kernel) (by decide +kernel) (by decide +kernel), List.forall_mem_cons.mpr ⟨cl_tbyte (i := 7) (n := 44) rfl (by decide +kernel) (by decide +kernel) (by decide +kernel) (by decide +kernel), List.forall_mem_nil _⟩⟩⟩, List.forall_mem_nil _, List.forall_mem_nil _, GG_pl⟩ (by decide +kernel)
def e_jLat_charAt_v272 : en_T := ([(2, 0, 0, [5208]), (0, 0, 2, [])], some (0, 0, 65535, []), true, 3, 0, 0, [], [], (0, [], [], [], []))
def o_jLat_charAt_v272_0 : or_T := (1000000, 0, [], [], [], [], [], [], [])
theorem oo_jLat_charAt_v272_0 {kA : Nat → ClassId} : or_ok PRD kA GG o_jLat_charAt_v272_0 := fun _ _ _ _ _ _ _ _ _ _ => ⟨fun q h => (by cases h), [], trivial, fun f h => (by cases h), fun q h => (by cases h)⟩
def n_jLat_charAt_v272_an : List an_T := []
def t_jLat_charAt_v272_ct : ct_L := [(12, 9, e_jStr_checkIndex_v273), (1000004, 0, en_ro [(2, 0, 0, [5208])] (0, 3, 3, [])), (1000005, 0, en_ro [(2, 0, 0, [5208]), (0, 0, 2, [])] (0, 32, 105, []))]
set_option maxRecDepth 100000 in
theorem c_jLat_charAt_v272 {l : Launch} {D : va_G} {kA : Nat → ClassId} : ct_ok PRD l D kA GG y_jLat_charAt z_jLat_charAt e_jLat_charAt_v272 := chk_all_ok (FT := []) (PT := []) (CT := t_jLat_charAt_v272_ct) (KT := []) (NT := []) (AN := n_jLat_charAt_v272_an) (OT := [o_jLat_charAt_v272_0]) 0 200 (List.forall_mem_cons.mpr ⟨oo_jLat_charAt_v272_0, List.forall_mem_nil _⟩) (by decide +kernel) ⟨List.forall_mem_nil _, List.forall_mem_nil _, List.forall_mem_cons.mpr ⟨cl_static (y := y_jStr_checkIndex) c_jStr_checkIndex_v273 wm_694 wm_11 wm_692 wm_693 ⟨by decide, by decide, by decide +kernel⟩ (by decide), List.forall_mem_cons.mpr ⟨cl_tlen (i := 8) (n := 3) rfl (by decide +kernel) (by decide +kernel) (by decide +kernel), List.forall_mem_cons.mpr ⟨cl_tbyte (i := 8) (n := 3) rfl (by decide +kernel) (by decide +kernel) (by decide +kernel) (by decide +kernel), List.forall_mem_nil _⟩⟩⟩, List.forall_mem_nil _, List.forall_mem_nil _, GG_pl⟩ (by decide +kernel)
def e_jLat_charAt_v276 : en_T := ([(2, 0, 0, [5209]), (0, 0, 3, [])], some (0, 0, 65535, []), true, 3, 0, 0, [], [], (0, [], [], [], []))
def o_jLat_charAt_v276_0 : or_T := (1000000, 0, [], [], [], [], [], [], [])
theorem oo_jLat_charAt_v276_0 {kA : Nat → ClassId} : or_ok PRD kA GG o_jLat_charAt_v276_0 := fun _ _ _ _ _ _ _ _ _ _ => ⟨fun q h => (by cases h), [], trivial, fun f h => (by cases h), fun q h => (by cases h)⟩
def n_jLat_charAt_v276_an : List an_T := []
def t_jLat_charAt_v276_ct : ct_L := [(12, 9, e_jStr_checkIndex_v277), (1000004, 0, en_ro [(2, 0, 0, [5209])] (0, 4, 4, [])), (1000005, 0, en_ro [(2, 0, 0, [5209]), (0, 0, 3, [])] (0, 32, 116, []))]
set_option maxRecDepth 100000 in
theorem c_jLat_charAt_v276 {l : Launch} {D : va_G} {kA : Nat → ClassId} : ct_ok PRD l D kA GG y_jLat_charAt z_jLat_charAt e_jLat_charAt_v276 := chk_all_ok (FT := []) (PT := []) (CT := t_jLat_charAt_v276_ct) (KT := []) (NT := []) (AN := n_jLat_charAt_v276_an) (OT := [o_jLat_charAt_v276_0]) 0 200 (List.forall_mem_cons.mpr ⟨oo_jLat_charAt_v276_0, List.forall_mem_nil _⟩) (by decide +kernel) ⟨List.forall_mem_nil _, List.forall_mem_nil _, List.forall_mem_cons.mpr ⟨cl_static (y := y_jStr_checkIndex) c_jStr_checkIndex_v277 wm_694 wm_11 wm_692 wm_693 ⟨by decide, by decide, by decide +kernel⟩ (by decide), List.forall_mem_cons.mpr ⟨cl_tlen (i := 9) (n := 4) rfl (by decide +kernel) (by decide +kernel) (by decide +kernel), List.forall_mem_cons.mpr ⟨cl_tbyte (i := 9) (n := 4) rfl (by decide +kernel) (by decide +kernel) (by decide +kernel) (by decide +kernel), List.forall_mem_nil _⟩⟩⟩, List.forall_mem_nil _, List.forall_mem_nil _, GG_pl⟩ (by decide +kernel)
def e_jLat_charAt_v280 : en_T := ([(2, 0, 0, [5210]), (0, 0, 3, [])], some (0, 0, 65535, []), true, 3, 0, 0, [], [], (0, [], [], [], []))
def o_jLat_charAt_v280_0 : or_T := (1000000, 0, [], [], [], [], [], [], [])
theorem oo_jLat_charAt_v280_0 {kA : Nat → ClassId} : or_ok PRD kA GG o_jLat_charAt_v280_0 := fun _ _ _ _ _ _ _ _ _ _ => ⟨fun q h => (by cases h), [], trivial, fun f h => (by cases h), fun q h => (by cases h)⟩
def n_jLat_charAt_v280_an : List an_T := []
def t_jLat_charAt_v280_ct : ct_L := [(12, 9, e_jStr_checkIndex_v277), (1000004, 0, en_ro [(2, 0, 0, [5210])] (0, 4, 4, [])), (1000005, 0, en_ro [(2, 0, 0, [5210]), (0, 0, 3, [])] (0, 32, 110, []))]
set_option maxRecDepth 100000 in
theorem c_jLat_charAt_v280 {l : Launch} {D : va_G} {kA : Nat → ClassId} : ct_ok PRD l D kA GG y_jLat_charAt z_jLat_charAt e_jLat_charAt_v280 := chk_all_ok (FT := []) (PT := []) (CT := t_jLat_charAt_v280_ct) (KT := []) (NT := []) (AN := n_jLat_charAt_v280_an) (OT := [o_jLat_charAt_v280_0]) 0 200 (List.forall_mem_cons.mpr ⟨oo_jLat_charAt_v280_0, List.forall_mem_nil _⟩) (by decide +kernel) ⟨List.forall_mem_nil _, List.forall_mem_nil _, List.forall_mem_cons.mpr ⟨cl_static (y := y_jStr_checkIndex) c_jStr_checkIndex_v277 wm_694 wm_11 wm_692 wm_693 ⟨by decide, by decide, by decide +kernel⟩ (by decide), List.forall_mem_cons.mpr ⟨cl_tlen (i := 10) (n := 4) rfl (by decide +kernel) (by decide +kernel) (by decide +kernel), List.forall_mem_cons.mpr ⟨cl_tbyte (i := 10) (n := 4) rfl (by decide +kernel) (by decide +kernel) (by decide +kernel) (by decide +kernel), List.forall_mem_nil _⟩⟩⟩, List.forall_mem_nil _, List.forall_mem_nil _, GG_pl⟩ (by decide +kernel)
def e_jLat_charAt_v282 : en_T := ([(2, 0, 0, [5211]), (0, 0, 2, [])], some (0, 0, 65535, []), true, 3, 0, 0, [], [], (0, [], [], [], []))
def o_jLat_charAt_v282_0 : or_T := (1000000, 0, [], [], [], [], [], [], [])
theorem oo_jLat_charAt_v282_0 {kA : Nat → ClassId} : or_ok PRD kA GG o_jLat_charAt_v282_0 := fun _ _ _ _ _ _ _ _ _ _ => ⟨fun q h => (by cases h), [], trivial, fun f h => (by cases h), fun q h => (by cases h)⟩
def n_jLat_charAt_v282_an : List an_T := []
def t_jLat_charAt_v282_ct : ct_L := [(12, 9, e_jStr_checkIndex_v273), (1000004, 0, en_ro [(2, 0, 0, [5211])] (0, 3, 3, [])), (1000005, 0, en_ro [(2, 0, 0, [5211]), (0, 0, 2, [])] (0, 32, 114, []))]
set_option maxRecDepth 100000 in
theorem c_jLat_charAt_v282 {l : Launch} {D : va_G} {kA : Nat → ClassId} : ct_ok PRD l D kA GG y_jLat_charAt z_jLat_charAt e_jLat_charAt_v282 := chk_all_ok (FT := []) (PT := []) (CT := t_jLat_charAt_v282_ct) (KT := []) (NT := []) (AN := n_jLat_charAt_v282_an) (OT := [o_jLat_charAt_v282_0]) 0 200 (List.forall_mem_cons.mpr ⟨oo_jLat_charAt_v282_0, List.forall_mem_nil _⟩) (by decide +kernel) ⟨List.forall_mem_nil _, List.forall_mem_nil _, List.forall_mem_cons.mpr ⟨cl_static (y := y_jStr_checkIndex) c_jStr_checkIndex_v273 wm_694 wm_11 wm_692 wm_693 ⟨by decide, by decide, by decide +kernel⟩ (by decide), List.forall_mem_cons.mpr ⟨cl_tlen (i := 11) (n := 3) rfl (by decide +kernel) (by decide +kernel) (by decide +kernel), List.forall_mem_cons.mpr ⟨cl_tbyte (i := 11) (n := 3) rfl (by decide +kernel) (by decide +kernel) (by decide +kernel) (by decide +kernel), List.forall_mem_nil _⟩⟩⟩, List.forall_mem_nil _, List.forall_mem_nil _, GG_pl⟩ (by decide +kernel)
def e_jLat_charAt_v284 : en_T := ([(2, 0, 0, [5212]), (0, 0, 16, [])], some (0, 0, 65535, []), true, 3, 0, 0, [], [], (0, [], [], [], []))
def o_jLat_charAt_v284_0 : or_T := (1000000, 0, [], [], [], [], [], [], [])
theorem oo_jLat_charAt_v284_0 {kA : Nat → ClassId} : or_ok PRD kA GG o_jLat_charAt_v284_0 := fun _ _ _ _ _ _ _ _ _ _ => ⟨fun q h => (by cases h), [], trivial, fun f h => (by cases h), fun q h => (by cases h)⟩
def n_jLat_charAt_v284_an : List an_T := []
def t_jLat_charAt_v284_ct : ct_L := [(12, 9, e_jStr_checkIndex_v285), (1000004, 0, en_ro [(2, 0, 0, [5212])] (0, 17, 17, [])), (1000005, 0, en_ro [(2, 0, 0, [5212]), (0, 0, 16, [])] (0, 32, 119, []))]
set_option maxRecDepth 100000 in
theorem c_jLat_charAt_v284 {l : Launch} {D : va_G} {kA : Nat → ClassId} : ct_ok PRD l D kA GG y_jLat_charAt z_jLat_charAt e_jLat_charAt_v284 := chk_all_ok (FT := []) (PT := []) (CT := t_jLat_charAt_v284_ct) (KT := []) (NT := []) (AN := n_jLat_charAt_v284_an) (OT := [o_jLat_charAt_v284_0]) 0 200 (List.forall_mem_cons.mpr ⟨oo_jLat_charAt_v284_0, List.forall_mem_nil _⟩) (by decide +kernel) ⟨List.forall_mem_nil _, List.forall_mem_nil _, List.forall_mem_cons.mpr ⟨cl_static (y := y_jStr_checkIndex) c_jStr_checkIndex_v285 wm_694 wm_11 wm_692 wm_693 ⟨by decide, by decide, by decide +kernel⟩ (by decide), List.forall_mem_cons.mpr ⟨cl_tlen (i := 12) (n := 17) rfl (by decide +kernel) (by decide +kernel) (by decide +kernel), List.forall_mem_cons.mpr ⟨cl_tbyte (i := 12) (n := 17) rfl (by decide +kernel) (by decide +kernel) (by decide +kernel) (by decide +kernel), List.forall_mem_nil _⟩⟩⟩, List.forall_mem_nil _, List.forall_mem_nil _, GG_pl⟩ (by decide +kernel)
def e_jLat_charAt_v291 : en_T := ([(2, 0, 0, [5200]), (0, 0, 0, [])], some (0, 0, 65535, []), true, 3, 0, 0, [], [], (0, [], [], [(23, [2], [110, 1]), (23, [2], [-110, -1])], []))
def o_jLat_charAt_v291_0 : or_T := (14, 7, [(3, (0, 110, 110, [])), (5, (0, 0, 110, [])), (6, (0, 0, 65535, []))], [(22, [6, 5], []), (12, [5, 3], [256])], [], [], [(23, [6], [110, 1]), (23, [6], [-110, -1])], [], [])
theorem oo_jLat_charAt_v291_0 {kA : Nat → ClassId} : or_ok PRD kA GG o_jLat_charAt_v291_0 := by
  refine or_mk fun A ta ws vs hD hth hl => ?_
  intro t3 k3 t5 k5 t6 k6 f0 f1
  replace f0 := shm_47 f0
  replace f1 := shm_52 f1
  have nf0 : fc_1 PRD (23, [6], [110, 1]) ws (vs) := by
    refine ⟨nf_in hl rfl, sgq_53 ?_⟩
    · show 1 * v_iv (n_v vs 6) + 0 ≤ 110
      omega
  have nf1 : fc_1 PRD (23, [6], [-110, -1]) ws (vs) := by
    refine ⟨nf_in hl rfl, sgq_54 ?_⟩
    · show (-1) * v_iv (n_v vs 6) + 0 ≤ (-110)
      omega
  refine ⟨(fun _ h => (by cases h)), [], trivial, ?_, (fun _ h => (by cases h))⟩
  rw [List.append_nil]
  exact List.forall_mem_cons.mpr ⟨⟨show (23 : Nat) < 100 from by decide, nf0⟩, List.forall_mem_cons.mpr ⟨⟨show (23 : Nat) < 100 from by decide, nf1⟩, (fun _ h => (by cases h))⟩⟩
def n_jLat_charAt_v291_an : List an_T := []
def t_jLat_charAt_v291_ct : ct_L := [(12, 9, e_jStr_checkIndex_v292), (1000004, 0, en_ro [(2, 0, 0, [5200])] (0, 4, 4, [])), (1000005, 0, en_ro [(2, 0, 0, [5200]), (0, 0, 0, [])] (0, 110, 110, []))]
set_option maxRecDepth 100000 in
theorem c_jLat_charAt_v291 {l : Launch} {D : va_G} {kA : Nat → ClassId} : ct_ok PRD l D kA GG y_jLat_charAt z_jLat_charAt e_jLat_charAt_v291 := chk_all_ok (FT := []) (PT := []) (CT := t_jLat_charAt_v291_ct) (KT := []) (NT := []) (AN := n_jLat_charAt_v291_an) (OT := [o_jLat_charAt_v291_0]) 0 200 (List.forall_mem_cons.mpr ⟨oo_jLat_charAt_v291_0, List.forall_mem_nil _⟩) (by decide +kernel) ⟨List.forall_mem_nil _, List.forall_mem_nil _, List.forall_mem_cons.mpr ⟨cl_static (y := y_jStr_checkIndex) c_jStr_checkIndex_v292 wm_694 wm_11 wm_692 wm_693 ⟨by decide, by decide, by decide +kernel⟩ (by decide), List.forall_mem_cons.mpr ⟨cl_tlen (i := 0) (n := 4) rfl (by decide +kernel) (by decide +kernel) (by decide +kernel), List.forall_mem_cons.mpr ⟨cl_tbyte1 (i := 0) (n := 4) (k := 0) rfl (by decide +kernel) (by decide +kernel) (by decide) (by decide +kernel), List.forall_mem_nil _⟩⟩⟩, List.forall_mem_nil _, List.forall_mem_nil _, GG_pl⟩ (by decide +kernel)
def e_jLat_charAt_v295 : en_T := ([(2, 0, 0, [5200]), (0, 1, 1, [])], some (0, 0, 65535, []), true, 3, 0, 0, [], [], (0, [], [], [(23, [2], [111, 1]), (23, [2], [-111, -1])], []))
def o_jLat_charAt_v295_0 : or_T := (14, 7, [(3, (0, 111, 111, [])), (5, (0, 0, 111, [])), (6, (0, 0, 65535, []))], [(22, [6, 5], []), (12, [5, 3], [256])], [], [], [(23, [6], [111, 1]), (23, [6], [-111, -1])], [], [])
theorem oo_jLat_charAt_v295_0 {kA : Nat → ClassId} : or_ok PRD kA GG o_jLat_charAt_v295_0 := by
  refine or_mk fun A ta ws vs hD hth hl => ?_
  intro t3 k3 t5 k5 t6 k6 f0 f1
  replace f0 := shm_47 f0
  replace f1 := shm_52 f1
  have nf0 : fc_1 PRD (23, [6], [111, 1]) ws (vs) := by
    refine ⟨nf_in hl rfl, sgq_55 ?_⟩
    · show 1 * v_iv (n_v vs 6) + 0 ≤ 111
      omega
  have nf1 : fc_1 PRD (23, [6], [-111, -1]) ws (vs) := by
    refine ⟨nf_in hl rfl, sgq_56 ?_⟩
    · show (-1) * v_iv (n_v vs 6) + 0 ≤ (-111)
      omega
  refine ⟨(fun _ h => (by cases h)), [], trivial, ?_, (fun _ h => (by cases h))⟩
  rw [List.append_nil]
  exact List.forall_mem_cons.mpr ⟨⟨show (23 : Nat) < 100 from by decide, nf0⟩, List.forall_mem_cons.mpr ⟨⟨show (23 : Nat) < 100 from by decide, nf1⟩, (fun _ h => (by cases h))⟩⟩
def n_jLat_charAt_v295_an : List an_T := []
def t_jLat_charAt_v295_ct : ct_L := [(12, 9, e_jStr_checkIndex_v296), (1000004, 0, en_ro [(2, 0, 0, [5200])] (0, 4, 4, [])), (1000005, 0, en_ro [(2, 0, 0, [5200]), (0, 1, 1, [])] (0, 111, 111, []))]
set_option maxRecDepth 100000 in
theorem c_jLat_charAt_v295 {l : Launch} {D : va_G} {kA : Nat → ClassId} : ct_ok PRD l D kA GG y_jLat_charAt z_jLat_charAt e_jLat_charAt_v295 := chk_all_ok (FT := []) (PT := []) (CT := t_jLat_charAt_v295_ct) (KT := []) (NT := []) (AN := n_jLat_charAt_v295_an) (OT := [o_jLat_charAt_v295_0]) 0 200 (List.forall_mem_cons.mpr ⟨oo_jLat_charAt_v295_0, List.forall_mem_nil _⟩) (by decide +kernel) ⟨List.forall_mem_nil _, List.forall_mem_nil _, List.forall_mem_cons.mpr ⟨cl_static (y := y_jStr_checkIndex) c_jStr_checkIndex_v296 wm_694 wm_11 wm_692 wm_693 ⟨by decide, by decide, by decide +kernel⟩ (by decide), List.forall_mem_cons.mpr ⟨cl_tlen (i := 0) (n := 4) rfl (by decide +kernel) (by decide +kernel) (by decide +kernel), List.forall_mem_cons.mpr ⟨cl_tbyte1 (i := 0) (n := 4) (k := 1) rfl (by decide +kernel) (by decide +kernel) (by decide) (by decide +kernel), List.forall_mem_nil _⟩⟩⟩, List.forall_mem_nil _, List.forall_mem_nil _, GG_pl⟩ (by decide +kernel)
def e_jLat_charAt_v299 : en_T := ([(2, 0, 0, [5200]), (0, 2, 2, [])], some (0, 0, 65535, []), true, 3, 0, 0, [], [], (0, [], [], [(23, [2], [100, 1]), (23, [2], [-100, -1])], []))
def o_jLat_charAt_v299_0 : or_T := (14, 7, [(3, (0, 100, 100, [])), (5, (0, 0, 100, [])), (6, (0, 0, 65535, []))], [(22, [6, 5], []), (12, [5, 3], [256])], [], [], [(23, [6], [100, 1]), (23, [6], [-100, -1])], [], [])
theorem oo_jLat_charAt_v299_0 {kA : Nat → ClassId} : or_ok PRD kA GG o_jLat_charAt_v299_0 := by
  refine or_mk fun A ta ws vs hD hth hl => ?_
  intro t3 k3 t5 k5 t6 k6 f0 f1
  replace f0 := shm_47 f0
  replace f1 := shm_52 f1
  have nf0 : fc_1 PRD (23, [6], [100, 1]) ws (vs) := by
    refine ⟨nf_in hl rfl, sgq_57 ?_⟩
    · show 1 * v_iv (n_v vs 6) + 0 ≤ 100
      omega
  have nf1 : fc_1 PRD (23, [6], [-100, -1]) ws (vs) := by
    refine ⟨nf_in hl rfl, sgq_58 ?_⟩
    · show (-1) * v_iv (n_v vs 6) + 0 ≤ (-100)
      omega
  refine ⟨(fun _ h => (by cases h)), [], trivial, ?_, (fun _ h => (by cases h))⟩
  rw [List.append_nil]
  exact List.forall_mem_cons.mpr ⟨⟨show (23 : Nat) < 100 from by decide, nf0⟩, List.forall_mem_cons.mpr ⟨⟨show (23 : Nat) < 100 from by decide, nf1⟩, (fun _ h => (by cases h))⟩⟩
def n_jLat_charAt_v299_an : List an_T := []
def t_jLat_charAt_v299_ct : ct_L := [(12, 9, e_jStr_checkIndex_v300), (1000004, 0, en_ro [(2, 0, 0, [5200])] (0, 4, 4, [])), (1000005, 0, en_ro [(2, 0, 0, [5200]), (0, 2, 2, [])] (0, 100, 100, []))]
set_option maxRecDepth 100000 in
theorem c_jLat_charAt_v299 {l : Launch} {D : va_G} {kA : Nat → ClassId} : ct_ok PRD l D kA GG y_jLat_charAt z_jLat_charAt e_jLat_charAt_v299 := chk_all_ok (FT := []) (PT := []) (CT := t_jLat_charAt_v299_ct) (KT := []) (NT := []) (AN := n_jLat_charAt_v299_an) (OT := [o_jLat_charAt_v299_0]) 0 200 (List.forall_mem_cons.mpr ⟨oo_jLat_charAt_v299_0, List.forall_mem_nil _⟩) (by decide +kernel) ⟨List.forall_mem_nil _, List.forall_mem_nil _, List.forall_mem_cons.mpr ⟨cl_static (y := y_jStr_checkIndex) c_jStr_checkIndex_v300 wm_694 wm_11 wm_692 wm_693 ⟨by decide, by decide, by decide +kernel⟩ (by decide), List.forall_mem_cons.mpr ⟨cl_tlen (i := 0) (n := 4) rfl (by decide +kernel) (by decide +kernel) (by decide +kernel), List.forall_mem_cons.mpr ⟨cl_tbyte1 (i := 0) (n := 4) (k := 2) rfl (by decide +kernel) (by decide +kernel) (by decide) (by decide +kernel), List.forall_mem_nil _⟩⟩⟩, List.forall_mem_nil _, List.forall_mem_nil _, GG_pl⟩ (by decide +kernel)
def e_jLat_charAt_v303 : en_T := ([(2, 0, 0, [5200]), (0, 3, 3, [])], some (0, 0, 65535, []), true, 3, 0, 0, [], [], (0, [], [], [(23, [2], [101, 1]), (23, [2], [-101, -1])], []))
def o_jLat_charAt_v303_0 : or_T := (14, 7, [(3, (0, 101, 101, [])), (5, (0, 0, 101, [])), (6, (0, 0, 65535, []))], [(22, [6, 5], []), (12, [5, 3], [256])], [], [], [(23, [6], [101, 1]), (23, [6], [-101, -1])], [], [])
theorem oo_jLat_charAt_v303_0 {kA : Nat → ClassId} : or_ok PRD kA GG o_jLat_charAt_v303_0 := by
  refine or_mk fun A ta ws vs hD hth hl => ?_
  intro t3 k3 t5 k5 t6 k6 f0 f1
  replace f0 := shm_47 f0
  replace f1 := shm_52 f1
  have nf0 : fc_1 PRD (23, [6], [101, 1]) ws (vs) := by
    refine ⟨nf_in hl rfl, sgq_59 ?_⟩
    · show 1 * v_iv (n_v vs 6) + 0 ≤ 101
      omega
  have nf1 : fc_1 PRD (23, [6], [-101, -1]) ws (vs) := by
    refine ⟨nf_in hl rfl, sgq_60 ?_⟩
    · show (-1) * v_iv (n_v vs 6) + 0 ≤ (-101)
      omega
  refine ⟨(fun _ h => (by cases h)), [], trivial, ?_, (fun _ h => (by cases h))⟩
  rw [List.append_nil]
  exact List.forall_mem_cons.mpr ⟨⟨show (23 : Nat) < 100 from by decide, nf0⟩, List.forall_mem_cons.mpr ⟨⟨show (23 : Nat) < 100 from by decide, nf1⟩, (fun _ h => (by cases h))⟩⟩
def n_jLat_charAt_v303_an : List an_T := []
def t_jLat_charAt_v303_ct : ct_L := [(12, 9, e_jStr_checkIndex_v304), (1000004, 0, en_ro [(2, 0, 0, [5200])] (0, 4, 4, [])), (1000005, 0, en_ro [(2, 0, 0, [5200]), (0, 3, 3, [])] (0, 101, 101, []))]
set_option maxRecDepth 100000 in
theorem c_jLat_charAt_v303 {l : Launch} {D : va_G} {kA : Nat → ClassId} : ct_ok PRD l D kA GG y_jLat_charAt z_jLat_charAt e_jLat_charAt_v303 := chk_all_ok (FT := []) (PT := []) (CT := t_jLat_charAt_v303_ct) (KT := []) (NT := []) (AN := n_jLat_charAt_v303_an) (OT := [o_jLat_charAt_v303_0]) 0 200 (List.forall_mem_cons.mpr ⟨oo_jLat_charAt_v303_0, List.forall_mem_nil _⟩) (by decide +kernel) ⟨List.forall_mem_nil _, List.forall_mem_nil _, List.forall_mem_cons.mpr ⟨cl_static (y := y_jStr_checkIndex) c_jStr_checkIndex_v304 wm_694 wm_11 wm_692 wm_693 ⟨by decide, by decide, by decide +kernel⟩ (by decide), List.forall_mem_cons.mpr ⟨cl_tlen (i := 0) (n := 4) rfl (by decide +kernel) (by decide +kernel) (by decide +kernel), List.forall_mem_cons.mpr ⟨cl_tbyte1 (i := 0) (n := 4) (k := 3) rfl (by decide +kernel) (by decide +kernel) (by decide) (by decide +kernel), List.forall_mem_nil _⟩⟩⟩, List.forall_mem_nil _, List.forall_mem_nil _, GG_pl⟩ (by decide +kernel)
def e_jLat_charAt_v308 : en_T := ([(2, 0, 0, [5201]), (0, 0, 0, [])], some (0, 0, 65535, []), true, 3, 0, 0, [], [], (0, [], [], [(23, [2], [103, 1]), (23, [2], [-103, -1])], []))
def o_jLat_charAt_v308_0 : or_T := (14, 7, [(3, (0, 103, 103, [])), (5, (0, 0, 103, [])), (6, (0, 0, 65535, []))], [(22, [6, 5], []), (12, [5, 3], [256])], [], [], [(23, [6], [103, 1]), (23, [6], [-103, -1])], [], [])
theorem oo_jLat_charAt_v308_0 {kA : Nat → ClassId} : or_ok PRD kA GG o_jLat_charAt_v308_0 := by
  refine or_mk fun A ta ws vs hD hth hl => ?_
  intro t3 k3 t5 k5 t6 k6 f0 f1
  replace f0 := shm_47 f0
  replace f1 := shm_52 f1
  have nf0 : fc_1 PRD (23, [6], [103, 1]) ws (vs) := by
    refine ⟨nf_in hl rfl, sgq_61 ?_⟩
    · show 1 * v_iv (n_v vs 6) + 0 ≤ 103
      omega
  have nf1 : fc_1 PRD (23, [6], [-103, -1]) ws (vs) := by
    refine ⟨nf_in hl rfl, sgq_62 ?_⟩
    · show (-1) * v_iv (n_v vs 6) + 0 ≤ (-103)
      omega
  refine ⟨(fun _ h => (by cases h)), [], trivial, ?_, (fun _ h => (by cases h))⟩
  rw [List.append_nil]
  exact List.forall_mem_cons.mpr ⟨⟨show (23 : Nat) < 100 from by decide, nf0⟩, List.forall_mem_cons.mpr ⟨⟨show (23 : Nat) < 100 from by decide, nf1⟩, (fun _ h => (by cases h))⟩⟩
def n_jLat_charAt_v308_an : List an_T := []
def t_jLat_charAt_v308_ct : ct_L := [(12, 9, e_jStr_checkIndex_v309), (1000004, 0, en_ro [(2, 0, 0, [5201])] (0, 5, 5, [])), (1000005, 0, en_ro [(2, 0, 0, [5201]), (0, 0, 0, [])] (0, 103, 103, []))]
set_option maxRecDepth 100000 in
theorem c_jLat_charAt_v308 {l : Launch} {D : va_G} {kA : Nat → ClassId} : ct_ok PRD l D kA GG y_jLat_charAt z_jLat_charAt e_jLat_charAt_v308 := chk_all_ok (FT := []) (PT := []) (CT := t_jLat_charAt_v308_ct) (KT := []) (NT := []) (AN := n_jLat_charAt_v308_an) (OT := [o_jLat_charAt_v308_0]) 0 200 (List.forall_mem_cons.mpr ⟨oo_jLat_charAt_v308_0, List.forall_mem_nil _⟩) (by decide +kernel) ⟨List.forall_mem_nil _, List.forall_mem_nil _, List.forall_mem_cons.mpr ⟨cl_static (y := y_jStr_checkIndex) c_jStr_checkIndex_v309 wm_694 wm_11 wm_692 wm_693 ⟨by decide, by decide, by decide +kernel⟩ (by decide), List.forall_mem_cons.mpr ⟨cl_tlen (i := 1) (n := 5) rfl (by decide +kernel) (by decide +kernel) (by decide +kernel), List.forall_mem_cons.mpr ⟨cl_tbyte1 (i := 1) (n := 5) (k := 0) rfl (by decide +kernel) (by decide +kernel) (by decide) (by decide +kernel), List.forall_mem_nil _⟩⟩⟩, List.forall_mem_nil _, List.forall_mem_nil _, GG_pl⟩ (by decide +kernel)
def e_jLat_charAt_v312 : en_T := ([(2, 0, 0, [5201]), (0, 1, 1, [])], some (0, 0, 65535, []), true, 3, 0, 0, [], [], (0, [], [], [(23, [2], [114, 1]), (23, [2], [-114, -1])], []))
def o_jLat_charAt_v312_0 : or_T := (14, 7, [(3, (0, 114, 114, [])), (5, (0, 0, 114, [])), (6, (0, 0, 65535, []))], [(22, [6, 5], []), (12, [5, 3], [256])], [], [], [(23, [6], [114, 1]), (23, [6], [-114, -1])], [], [])
theorem oo_jLat_charAt_v312_0 {kA : Nat → ClassId} : or_ok PRD kA GG o_jLat_charAt_v312_0 := by
  refine or_mk fun A ta ws vs hD hth hl => ?_
  intro t3 k3 t5 k5 t6 k6 f0 f1
  replace f0 := shm_47 f0
  replace f1 := shm_52 f1
  have nf0 : fc_1 PRD (23, [6], [114, 1]) ws (vs) := by
    refine ⟨nf_in hl rfl, sgq_63 ?_⟩
    · show 1 * v_iv (n_v vs 6) + 0 ≤ 114
      omega
  have nf1 : fc_1 PRD (23, [6], [-114, -1]) ws (vs) := by
    refine ⟨nf_in hl rfl, sgq_64 ?_⟩
    · show (-1) * v_iv (n_v vs 6) + 0 ≤ (-114)
      omega
  refine ⟨(fun _ h => (by cases h)), [], trivial, ?_, (fun _ h => (by cases h))⟩
  rw [List.append_nil]
  exact List.forall_mem_cons.mpr ⟨⟨show (23 : Nat) < 100 from by decide, nf0⟩, List.forall_mem_cons.mpr ⟨⟨show (23 : Nat) < 100 from by decide, nf1⟩, (fun _ h => (by cases h))⟩⟩
def n_jLat_charAt_v312_an : List an_T := []
def t_jLat_charAt_v312_ct : ct_L := [(12, 9, e_jStr_checkIndex_v313), (1000004, 0, en_ro [(2, 0, 0, [5201])] (0, 5, 5, [])), (1000005, 0, en_ro [(2, 0, 0, [5201]), (0, 1, 1, [])] (0, 114, 114, []))]
set_option maxRecDepth 100000 in
theorem c_jLat_charAt_v312 {l : Launch} {D : va_G} {kA : Nat → ClassId} : ct_ok PRD l D kA GG y_jLat_charAt z_jLat_charAt e_jLat_charAt_v312 := chk_all_ok (FT := []) (PT := []) (CT := t_jLat_charAt_v312_ct) (KT := []) (NT := []) (AN := n_jLat_charAt_v312_an) (OT := [o_jLat_charAt_v312_0]) 0 200 (List.forall_mem_cons.mpr ⟨oo_jLat_charAt_v312_0, List.forall_mem_nil _⟩) (by decide +kernel) ⟨List.forall_mem_nil _, List.forall_mem_nil _, List.forall_mem_cons.mpr ⟨cl_static (y := y_jStr_checkIndex) c_jStr_checkIndex_v313 wm_694 wm_11 wm_692 wm_693 ⟨by decide, by decide, by decide +kernel⟩ (by decide), List.forall_mem_cons.mpr ⟨cl_tlen (i := 1) (n := 5) rfl (by decide +kernel) (by decide +kernel) (by decide +kernel), List.forall_mem_cons.mpr ⟨cl_tbyte1 (i := 1) (n := 5) (k := 1) rfl (by decide +kernel) (by decide +kernel) (by decide) (by decide +kernel), List.forall_mem_nil _⟩⟩⟩, List.forall_mem_nil _, List.forall_mem_nil _, GG_pl⟩ (by decide +kernel)
def e_jLat_charAt_v316 : en_T := ([(2, 0, 0, [5201]), (0, 2, 2, [])], some (0, 0, 65535, []), true, 3, 0, 0, [], [], (0, [], [], [(23, [2], [111, 1]), (23, [2], [-111, -1])], []))
def o_jLat_charAt_v316_0 : or_T := (14, 7, [(3, (0, 111, 111, [])), (5, (0, 0, 111, [])), (6, (0, 0, 65535, []))], [(22, [6, 5], []), (12, [5, 3], [256])], [], [], [(23, [6], [111, 1]), (23, [6], [-111, -1])], [], [])
theorem oo_jLat_charAt_v316_0 {kA : Nat → ClassId} : or_ok PRD kA GG o_jLat_charAt_v316_0 := by
  refine or_mk fun A ta ws vs hD hth hl => ?_
  intro t3 k3 t5 k5 t6 k6 f0 f1
  replace f0 := shm_47 f0
  replace f1 := shm_52 f1
  have nf0 : fc_1 PRD (23, [6], [111, 1]) ws (vs) := by
    refine ⟨nf_in hl rfl, sgq_55 ?_⟩
    · show 1 * v_iv (n_v vs 6) + 0 ≤ 111
      omega
  have nf1 : fc_1 PRD (23, [6], [-111, -1]) ws (vs) := by
    refine ⟨nf_in hl rfl, sgq_56 ?_⟩
    · show (-1) * v_iv (n_v vs 6) + 0 ≤ (-111)
      omega
  refine ⟨(fun _ h => (by cases h)), [], trivial, ?_, (fun _ h => (by cases h))⟩
  rw [List.append_nil]
  exact List.forall_mem_cons.mpr ⟨⟨show (23 : Nat) < 100 from by decide, nf0⟩, List.forall_mem_cons.mpr ⟨⟨show (23 : Nat) < 100 from by decide, nf1⟩, (fun _ h => (by cases h))⟩⟩
def n_jLat_charAt_v316_an : List an_T := []
def t_jLat_charAt_v316_ct : ct_L := [(12, 9, e_jStr_checkIndex_v317), (1000004, 0, en_ro [(2, 0, 0, [5201])] (0, 5, 5, [])), (1000005, 0, en_ro [(2, 0, 0, [5201]), (0, 2, 2, [])] (0, 111, 111, []))]
set_option maxRecDepth 100000 in
theorem c_jLat_charAt_v316 {l : Launch} {D : va_G} {kA : Nat → ClassId} : ct_ok PRD l D kA GG y_jLat_charAt z_jLat_charAt e_jLat_charAt_v316 := chk_all_ok (FT := []) (PT := []) (CT := t_jLat_charAt_v316_ct) (KT := []) (NT := []) (AN := n_jLat_charAt_v316_an) (OT := [o_jLat_charAt_v316_0]) 0 200 (List.forall_mem_cons.mpr ⟨oo_jLat_charAt_v316_0, List.forall_mem_nil _⟩) (by decide +kernel) ⟨List.forall_mem_nil _, List.forall_mem_nil _, List.forall_mem_cons.mpr ⟨cl_static (y := y_jStr_checkIndex) c_jStr_checkIndex_v317 wm_694 wm_11 wm_692 wm_693 ⟨by decide, by decide, by decide +kernel⟩ (by decide), List.forall_mem_cons.mpr ⟨cl_tlen (i := 1) (n := 5) rfl (by decide +kernel) (by decide +kernel) (by decide +kernel), List.forall_mem_cons.mpr ⟨cl_tbyte1 (i := 1) (n := 5) (k := 2) rfl (by decide +kernel) (by decide +kernel) (by decide) (by decide +kernel), List.forall_mem_nil _⟩⟩⟩, List.forall_mem_nil _, List.forall_mem_nil _, GG_pl⟩ (by decide +kernel)
def e_jLat_charAt_v320 : en_T := ([(2, 0, 0, [5201]), (0, 3, 3, [])], some (0, 0, 65535, []), true, 3, 0, 0, [], [], (0, [], [], [(23, [2], [117, 1]), (23, [2], [-117, -1])], []))
def o_jLat_charAt_v320_0 : or_T := (14, 7, [(3, (0, 117, 117, [])), (5, (0, 0, 117, [])), (6, (0, 0, 65535, []))], [(22, [6, 5], []), (12, [5, 3], [256])], [], [], [(23, [6], [117, 1]), (23, [6], [-117, -1])], [], [])
theorem oo_jLat_charAt_v320_0 {kA : Nat → ClassId} : or_ok PRD kA GG o_jLat_charAt_v320_0 := by
  refine or_mk fun A ta ws vs hD hth hl => ?_
  intro t3 k3 t5 k5 t6 k6 f0 f1
  replace f0 := shm_47 f0
  replace f1 := shm_52 f1
  have nf0 : fc_1 PRD (23, [6], [117, 1]) ws (vs) := by
    refine ⟨nf_in hl rfl, sgq_65 ?_⟩
    · show 1 * v_iv (n_v vs 6) + 0 ≤ 117
      omega
  have nf1 : fc_1 PRD (23, [6], [-117, -1]) ws (vs) := by
    refine ⟨nf_in hl rfl, sgq_66 ?_⟩
    · show (-1) * v_iv (n_v vs 6) + 0 ≤ (-117)
      omega
  refine ⟨(fun _ h => (by cases h)), [], trivial, ?_, (fun _ h => (by cases h))⟩
  rw [List.append_nil]
  exact List.forall_mem_cons.mpr ⟨⟨show (23 : Nat) < 100 from by decide, nf0⟩, List.forall_mem_cons.mpr ⟨⟨show (23 : Nat) < 100 from by decide, nf1⟩, (fun _ h => (by cases h))⟩⟩
def n_jLat_charAt_v320_an : List an_T := []
def t_jLat_charAt_v320_ct : ct_L := [(12, 9, e_jStr_checkIndex_v321), (1000004, 0, en_ro [(2, 0, 0, [5201])] (0, 5, 5, [])), (1000005, 0, en_ro [(2, 0, 0, [5201]), (0, 3, 3, [])] (0, 117, 117, []))]
set_option maxRecDepth 100000 in
theorem c_jLat_charAt_v320 {l : Launch} {D : va_G} {kA : Nat → ClassId} : ct_ok PRD l D kA GG y_jLat_charAt z_jLat_charAt e_jLat_charAt_v320 := chk_all_ok (FT := []) (PT := []) (CT := t_jLat_charAt_v320_ct) (KT := []) (NT := []) (AN := n_jLat_charAt_v320_an) (OT := [o_jLat_charAt_v320_0]) 0 200 (List.forall_mem_cons.mpr ⟨oo_jLat_charAt_v320_0, List.forall_mem_nil _⟩) (by decide +kernel) ⟨List.forall_mem_nil _, List.forall_mem_nil _, List.forall_mem_cons.mpr ⟨cl_static (y := y_jStr_checkIndex) c_jStr_checkIndex_v321 wm_694 wm_11 wm_692 wm_693 ⟨by decide, by decide, by decide +kernel⟩ (by decide), List.forall_mem_cons.mpr ⟨cl_tlen (i := 1) (n := 5) rfl (by decide +kernel) (by decide +kernel) (by decide +kernel), List.forall_mem_cons.mpr ⟨cl_tbyte1 (i := 1) (n := 5) (k := 3) rfl (by decide +kernel) (by decide +kernel) (by decide) (by decide +kernel), List.forall_mem_nil _⟩⟩⟩, List.forall_mem_nil _, List.forall_mem_nil _, GG_pl⟩ (by decide +kernel)
def e_jLat_charAt_v324 : en_T := ([(2, 0, 0, [5201]), (0, 4, 4, [])], some (0, 0, 65535, []), true, 3, 0, 0, [], [], (0, [], [], [(23, [2], [112, 1]), (23, [2], [-112, -1])], []))
def o_jLat_charAt_v324_0 : or_T := (14, 7, [(3, (0, 112, 112, [])), (5, (0, 0, 112, [])), (6, (0, 0, 65535, []))], [(22, [6, 5], []), (12, [5, 3], [256])], [], [], [(23, [6], [112, 1]), (23, [6], [-112, -1])], [], [])
theorem oo_jLat_charAt_v324_0 {kA : Nat → ClassId} : or_ok PRD kA GG o_jLat_charAt_v324_0 := by
  refine or_mk fun A ta ws vs hD hth hl => ?_
  intro t3 k3 t5 k5 t6 k6 f0 f1
  replace f0 := shm_47 f0
  replace f1 := shm_52 f1
  have nf0 : fc_1 PRD (23, [6], [112, 1]) ws (vs) := by
    refine ⟨nf_in hl rfl, sgq_67 ?_⟩
    · show 1 * v_iv (n_v vs 6) + 0 ≤ 112
      omega
  have nf1 : fc_1 PRD (23, [6], [-112, -1]) ws (vs) := by
    refine ⟨nf_in hl rfl, sgq_68 ?_⟩
    · show (-1) * v_iv (n_v vs 6) + 0 ≤ (-112)
      omega
  refine ⟨(fun _ h => (by cases h)), [], trivial, ?_, (fun _ h => (by cases h))⟩
  rw [List.append_nil]
  exact List.forall_mem_cons.mpr ⟨⟨show (23 : Nat) < 100 from by decide, nf0⟩, List.forall_mem_cons.mpr ⟨⟨show (23 : Nat) < 100 from by decide, nf1⟩, (fun _ h => (by cases h))⟩⟩
def n_jLat_charAt_v324_an : List an_T := []
def t_jLat_charAt_v324_ct : ct_L := [(12, 9, e_jStr_checkIndex_v325), (1000004, 0, en_ro [(2, 0, 0, [5201])] (0, 5, 5, [])), (1000005, 0, en_ro [(2, 0, 0, [5201]), (0, 4, 4, [])] (0, 112, 112, []))]
set_option maxRecDepth 100000 in
theorem c_jLat_charAt_v324 {l : Launch} {D : va_G} {kA : Nat → ClassId} : ct_ok PRD l D kA GG y_jLat_charAt z_jLat_charAt e_jLat_charAt_v324 := chk_all_ok (FT := []) (PT := []) (CT := t_jLat_charAt_v324_ct) (KT := []) (NT := []) (AN := n_jLat_charAt_v324_an) (OT := [o_jLat_charAt_v324_0]) 0 200 (List.forall_mem_cons.mpr ⟨oo_jLat_charAt_v324_0, List.forall_mem_nil _⟩) (by decide +kernel) ⟨List.forall_mem_nil _, List.forall_mem_nil _, List.forall_mem_cons.mpr ⟨cl_static (y := y_jStr_checkIndex) c_jStr_checkIndex_v325 wm_694 wm_11 wm_692 wm_693 ⟨by decide, by decide, by decide +kernel⟩ (by decide), List.forall_mem_cons.mpr ⟨cl_tlen (i := 1) (n := 5) rfl (by decide +kernel) (by decide +kernel) (by decide +kernel), List.forall_mem_cons.mpr ⟨cl_tbyte1 (i := 1) (n := 5) (k := 4) rfl (by decide +kernel) (by decide +kernel) (by decide) (by decide +kernel), List.forall_mem_nil _⟩⟩⟩, List.forall_mem_nil _, List.forall_mem_nil _, GG_pl⟩ (by decide +kernel)
def e_jLat_charAt_v329 : en_T := ([(2, 0, 0, [5202]), (0, 0, 0, [])], some (0, 0, 65535, []), true, 3, 0, 0, [], [], (0, [], [], [(23, [2], [115, 1]), (23, [2], [-115, -1])], []))
def o_jLat_charAt_v329_0 : or_T := (14, 7, [(3, (0, 115, 115, [])), (5, (0, 0, 115, [])), (6, (0, 0, 65535, []))], [(22, [6, 5], []), (12, [5, 3], [256])], [], [], [(23, [6], [115, 1]), (23, [6], [-115, -1])], [], [])
theorem oo_jLat_charAt_v329_0 {kA : Nat → ClassId} : or_ok PRD kA GG o_jLat_charAt_v329_0 := by
  refine or_mk fun A ta ws vs hD hth hl => ?_
  intro t3 k3 t5 k5 t6 k6 f0 f1
  replace f0 := shm_47 f0
  replace f1 := shm_52 f1
  have nf0 : fc_1 PRD (23, [6], [115, 1]) ws (vs) := by
    refine ⟨nf_in hl rfl, sgq_69 ?_⟩
    · show 1 * v_iv (n_v vs 6) + 0 ≤ 115
      omega
  have nf1 : fc_1 PRD (23, [6], [-115, -1]) ws (vs) := by
    refine ⟨nf_in hl rfl, sgq_70 ?_⟩
    · show (-1) * v_iv (n_v vs 6) + 0 ≤ (-115)
      omega
  refine ⟨(fun _ h => (by cases h)), [], trivial, ?_, (fun _ h => (by cases h))⟩
  rw [List.append_nil]
  exact List.forall_mem_cons.mpr ⟨⟨show (23 : Nat) < 100 from by decide, nf0⟩, List.forall_mem_cons.mpr ⟨⟨show (23 : Nat) < 100 from by decide, nf1⟩, (fun _ h => (by cases h))⟩⟩
def n_jLat_charAt_v329_an : List an_T := []
def t_jLat_charAt_v329_ct : ct_L := [(12, 9, e_jStr_checkIndex_v292), (1000004, 0, en_ro [(2, 0, 0, [5202])] (0, 4, 4, [])), (1000005, 0, en_ro [(2, 0, 0, [5202]), (0, 0, 0, [])] (0, 115, 115, []))]
set_option maxRecDepth 100000 in
theorem c_jLat_charAt_v329 {l : Launch} {D : va_G} {kA : Nat → ClassId} : ct_ok PRD l D kA GG y_jLat_charAt z_jLat_charAt e_jLat_charAt_v329 := chk_all_ok (FT := []) (PT := []) (CT := t_jLat_charAt_v329_ct) (KT := []) (NT := []) (AN := n_jLat_charAt_v329_an) (OT := [o_jLat_charAt_v329_0]) 0 200 (List.forall_mem_cons.mpr ⟨oo_jLat_charAt_v329_0, List.forall_mem_nil _⟩) (by decide +kernel) ⟨List.forall_mem_nil _, List.forall_mem_nil _, List.forall_mem_cons.mpr ⟨cl_static (y := y_jStr_checkIndex) c_jStr_checkIndex_v292 wm_694 wm_11 wm_692 wm_693 ⟨by decide, by decide, by decide +kernel⟩ (by decide), List.forall_mem_cons.mpr ⟨cl_tlen (i := 2) (n := 4) rfl (by decide +kernel) (by decide +kernel) (by decide +kernel), List.forall_mem_cons.mpr ⟨cl_tbyte1 (i := 2) (n := 4) (k := 0) rfl (by decide +kernel) (by decide +kernel) (by decide) (by decide +kernel), List.forall_mem_nil _⟩⟩⟩, List.forall_mem_nil _, List.forall_mem_nil _, GG_pl⟩ (by decide +kernel)
def e_jLat_charAt_v331 : en_T := ([(2, 0, 0, [5202]), (0, 1, 1, [])], some (0, 0, 65535, []), true, 3, 0, 0, [], [], (0, [], [], [(23, [2], [105, 1]), (23, [2], [-105, -1])], []))
def o_jLat_charAt_v331_0 : or_T := (14, 7, [(3, (0, 105, 105, [])), (5, (0, 0, 105, [])), (6, (0, 0, 65535, []))], [(22, [6, 5], []), (12, [5, 3], [256])], [], [], [(23, [6], [105, 1]), (23, [6], [-105, -1])], [], [])
theorem oo_jLat_charAt_v331_0 {kA : Nat → ClassId} : or_ok PRD kA GG o_jLat_charAt_v331_0 := by
  refine or_mk fun A ta ws vs hD hth hl => ?_
  intro t3 k3 t5 k5 t6 k6 f0 f1
  replace f0 := shm_47 f0
  replace f1 := shm_52 f1
  have nf0 : fc_1 PRD (23, [6], [105, 1]) ws (vs) := by
    refine ⟨nf_in hl rfl, sgq_71 ?_⟩
    · show 1 * v_iv (n_v vs 6) + 0 ≤ 105
      omega
  have nf1 : fc_1 PRD (23, [6], [-105, -1]) ws (vs) := by
    refine ⟨nf_in hl rfl, sgq_72 ?_⟩
    · show (-1) * v_iv (n_v vs 6) + 0 ≤ (-105)
      omega
  refine ⟨(fun _ h => (by cases h)), [], trivial, ?_, (fun _ h => (by cases h))⟩
  rw [List.append_nil]
  exact List.forall_mem_cons.mpr ⟨⟨show (23 : Nat) < 100 from by decide, nf0⟩, List.forall_mem_cons.mpr ⟨⟨show (23 : Nat) < 100 from by decide, nf1⟩, (fun _ h => (by cases h))⟩⟩
def n_jLat_charAt_v331_an : List an_T := []
def t_jLat_charAt_v331_ct : ct_L := [(12, 9, e_jStr_checkIndex_v296), (1000004, 0, en_ro [(2, 0, 0, [5202])] (0, 4, 4, [])), (1000005, 0, en_ro [(2, 0, 0, [5202]), (0, 1, 1, [])] (0, 105, 105, []))]
set_option maxRecDepth 100000 in
theorem c_jLat_charAt_v331 {l : Launch} {D : va_G} {kA : Nat → ClassId} : ct_ok PRD l D kA GG y_jLat_charAt z_jLat_charAt e_jLat_charAt_v331 := chk_all_ok (FT := []) (PT := []) (CT := t_jLat_charAt_v331_ct) (KT := []) (NT := []) (AN := n_jLat_charAt_v331_an) (OT := [o_jLat_charAt_v331_0]) 0 200 (List.forall_mem_cons.mpr ⟨oo_jLat_charAt_v331_0, List.forall_mem_nil _⟩) (by decide +kernel) ⟨List.forall_mem_nil _, List.forall_mem_nil _, List.forall_mem_cons.mpr ⟨cl_static (y := y_jStr_checkIndex) c_jStr_checkIndex_v296 wm_694 wm_11 wm_692 wm_693 ⟨by decide, by decide, by decide +kernel⟩ (by decide), List.forall_mem_cons.mpr ⟨cl_tlen (i := 2) (n := 4) rfl (by decide +kernel) (by decide +kernel) (by decide +kernel), List.forall_mem_cons.mpr ⟨cl_tbyte1 (i := 2) (n := 4) (k := 1) rfl (by decide +kernel) (by decide +kernel) (by decide) (by decide +kernel), List.forall_mem_nil _⟩⟩⟩, List.forall_mem_nil _, List.forall_mem_nil _, GG_pl⟩ (by decide +kernel)
def e_jLat_charAt_v333 : en_T := ([(2, 0, 0, [5202]), (0, 2, 2, [])], some (0, 0, 65535, []), true, 3, 0, 0, [], [], (0, [], [], [(23, [2], [122, 1]), (23, [2], [-122, -1])], []))
def o_jLat_charAt_v333_0 : or_T := (14, 7, [(3, (0, 122, 122, [])), (5, (0, 0, 122, [])), (6, (0, 0, 65535, []))], [(22, [6, 5], []), (12, [5, 3], [256])], [], [], [(23, [6], [122, 1]), (23, [6], [-122, -1])], [], [])
theorem oo_jLat_charAt_v333_0 {kA : Nat → ClassId} : or_ok PRD kA GG o_jLat_charAt_v333_0 := by
  refine or_mk fun A ta ws vs hD hth hl => ?_
  intro t3 k3 t5 k5 t6 k6 f0 f1
  replace f0 := shm_47 f0
  replace f1 := shm_52 f1
  have nf0 : fc_1 PRD (23, [6], [122, 1]) ws (vs) := by
    refine ⟨nf_in hl rfl, sgq_73 ?_⟩
    · show 1 * v_iv (n_v vs 6) + 0 ≤ 122
      omega
  have nf1 : fc_1 PRD (23, [6], [-122, -1]) ws (vs) := by
    refine ⟨nf_in hl rfl, sgq_74 ?_⟩
    · show (-1) * v_iv (n_v vs 6) + 0 ≤ (-122)
      omega
  refine ⟨(fun _ h => (by cases h)), [], trivial, ?_, (fun _ h => (by cases h))⟩
  rw [List.append_nil]
  exact List.forall_mem_cons.mpr ⟨⟨show (23 : Nat) < 100 from by decide, nf0⟩, List.forall_mem_cons.mpr ⟨⟨show (23 : Nat) < 100 from by decide, nf1⟩, (fun _ h => (by cases h))⟩⟩
def n_jLat_charAt_v333_an : List an_T := []
def t_jLat_charAt_v333_ct : ct_L := [(12, 9, e_jStr_checkIndex_v300), (1000004, 0, en_ro [(2, 0, 0, [5202])] (0, 4, 4, [])), (1000005, 0, en_ro [(2, 0, 0, [5202]), (0, 2, 2, [])] (0, 122, 122, []))]
set_option maxRecDepth 100000 in
theorem c_jLat_charAt_v333 {l : Launch} {D : va_G} {kA : Nat → ClassId} : ct_ok PRD l D kA GG y_jLat_charAt z_jLat_charAt e_jLat_charAt_v333 := chk_all_ok (FT := []) (PT := []) (CT := t_jLat_charAt_v333_ct) (KT := []) (NT := []) (AN := n_jLat_charAt_v333_an) (OT := [o_jLat_charAt_v333_0]) 0 200 (List.forall_mem_cons.mpr ⟨oo_jLat_charAt_v333_0, List.forall_mem_nil _⟩) (by decide +kernel) ⟨List.forall_mem_nil _, List.forall_mem_nil _, List.forall_mem_cons.mpr ⟨cl_static (y := y_jStr_checkIndex) c_jStr_checkIndex_v300 wm_694 wm_11 wm_692 wm_693 ⟨by decide, by decide, by decide +kernel⟩ (by decide), List.forall_mem_cons.mpr ⟨cl_tlen (i := 2) (n := 4) rfl (by decide +kernel) (by decide +kernel) (by decide +kernel), List.forall_mem_cons.mpr ⟨cl_tbyte1 (i := 2) (n := 4) (k := 2) rfl (by decide +kernel) (by decide +kernel) (by decide) (by decide +kernel), List.forall_mem_nil _⟩⟩⟩, List.forall_mem_nil _, List.forall_mem_nil _, GG_pl⟩ (by decide +kernel)
def e_jLat_charAt_v335 : en_T := ([(2, 0, 0, [5202]), (0, 3, 3, [])], some (0, 0, 65535, []), true, 3, 0, 0, [], [], (0, [], [], [(23, [2], [101, 1]), (23, [2], [-101, -1])], []))
def o_jLat_charAt_v335_0 : or_T := (14, 7, [(3, (0, 101, 101, [])), (5, (0, 0, 101, [])), (6, (0, 0, 65535, []))], [(22, [6, 5], []), (12, [5, 3], [256])], [], [], [(23, [6], [101, 1]), (23, [6], [-101, -1])], [], [])
theorem oo_jLat_charAt_v335_0 {kA : Nat → ClassId} : or_ok PRD kA GG o_jLat_charAt_v335_0 := by
  refine or_mk fun A ta ws vs hD hth hl => ?_
  intro t3 k3 t5 k5 t6 k6 f0 f1
  replace f0 := shm_47 f0
  replace f1 := shm_52 f1
  have nf0 : fc_1 PRD (23, [6], [101, 1]) ws (vs) := by
    refine ⟨nf_in hl rfl, sgq_59 ?_⟩
    · show 1 * v_iv (n_v vs 6) + 0 ≤ 101
      omega
  have nf1 : fc_1 PRD (23, [6], [-101, -1]) ws (vs) := by
    refine ⟨nf_in hl rfl, sgq_60 ?_⟩
    · show (-1) * v_iv (n_v vs 6) + 0 ≤ (-101)
      omega
  refine ⟨(fun _ h => (by cases h)), [], trivial, ?_, (fun _ h => (by cases h))⟩
  rw [List.append_nil]
  exact List.forall_mem_cons.mpr ⟨⟨show (23 : Nat) < 100 from by decide, nf0⟩, List.forall_mem_cons.mpr ⟨⟨show (23 : Nat) < 100 from by decide, nf1⟩, (fun _ h => (by cases h))⟩⟩
def n_jLat_charAt_v335_an : List an_T := []
def t_jLat_charAt_v335_ct : ct_L := [(12, 9, e_jStr_checkIndex_v304), (1000004, 0, en_ro [(2, 0, 0, [5202])] (0, 4, 4, [])), (1000005, 0, en_ro [(2, 0, 0, [5202]), (0, 3, 3, [])] (0, 101, 101, []))]
set_option maxRecDepth 100000 in
theorem c_jLat_charAt_v335 {l : Launch} {D : va_G} {kA : Nat → ClassId} : ct_ok PRD l D kA GG y_jLat_charAt z_jLat_charAt e_jLat_charAt_v335 := chk_all_ok (FT := []) (PT := []) (CT := t_jLat_charAt_v335_ct) (KT := []) (NT := []) (AN := n_jLat_charAt_v335_an) (OT := [o_jLat_charAt_v335_0]) 0 200 (List.forall_mem_cons.mpr ⟨oo_jLat_charAt_v335_0, List.forall_mem_nil _⟩) (by decide +kernel) ⟨List.forall_mem_nil _, List.forall_mem_nil _, List.forall_mem_cons.mpr ⟨cl_static (y := y_jStr_checkIndex) c_jStr_checkIndex_v304 wm_694 wm_11 wm_692 wm_693 ⟨by decide, by decide, by decide +kernel⟩ (by decide), List.forall_mem_cons.mpr ⟨cl_tlen (i := 2) (n := 4) rfl (by decide +kernel) (by decide +kernel) (by decide +kernel), List.forall_mem_cons.mpr ⟨cl_tbyte1 (i := 2) (n := 4) (k := 3) rfl (by decide +kernel) (by decide +kernel) (by decide) (by decide +kernel), List.forall_mem_nil _⟩⟩⟩, List.forall_mem_nil _, List.forall_mem_nil _, GG_pl⟩ (by decide +kernel)
def e_jLat_charAt_v338 : en_T := ([(2, 0, 0, [5203]), (0, 0, 0, [])], some (0, 0, 65535, []), true, 3, 0, 0, [], [], (0, [], [], [(23, [2], [119, 1]), (23, [2], [-119, -1])], []))
def o_jLat_charAt_v338_0 : or_T := (14, 7, [(3, (0, 119, 119, [])), (5, (0, 0, 119, [])), (6, (0, 0, 65535, []))], [(22, [6, 5], []), (12, [5, 3], [256])], [], [], [(23, [6], [119, 1]), (23, [6], [-119, -1])], [], [])
theorem oo_jLat_charAt_v338_0 {kA : Nat → ClassId} : or_ok PRD kA GG o_jLat_charAt_v338_0 := by
  refine or_mk fun A ta ws vs hD hth hl => ?_
  intro t3 k3 t5 k5 t6 k6 f0 f1
  replace f0 := shm_47 f0
  replace f1 := shm_52 f1
  have nf0 : fc_1 PRD (23, [6], [119, 1]) ws (vs) := by
    refine ⟨nf_in hl rfl, sgq_75 ?_⟩
    · show 1 * v_iv (n_v vs 6) + 0 ≤ 119
      omega
  have nf1 : fc_1 PRD (23, [6], [-119, -1]) ws (vs) := by
    refine ⟨nf_in hl rfl, sgq_76 ?_⟩
    · show (-1) * v_iv (n_v vs 6) + 0 ≤ (-119)
      omega
  refine ⟨(fun _ h => (by cases h)), [], trivial, ?_, (fun _ h => (by cases h))⟩
  rw [List.append_nil]
  exact List.forall_mem_cons.mpr ⟨⟨show (23 : Nat) < 100 from by decide, nf0⟩, List.forall_mem_cons.mpr ⟨⟨show (23 : Nat) < 100 from by decide, nf1⟩, (fun _ h => (by cases h))⟩⟩
def n_jLat_charAt_v338_an : List an_T := []
def t_jLat_charAt_v338_ct : ct_L := [(12, 9, e_jStr_checkIndex_v339), (1000004, 0, en_ro [(2, 0, 0, [5203])] (0, 6, 6, [])), (1000005, 0, en_ro [(2, 0, 0, [5203]), (0, 0, 0, [])] (0, 119, 119, []))]
set_option maxRecDepth 100000 in
theorem c_jLat_charAt_v338 {l : Launch} {D : va_G} {kA : Nat → ClassId} : ct_ok PRD l D kA GG y_jLat_charAt z_jLat_charAt e_jLat_charAt_v338 := chk_all_ok (FT := []) (PT := []) (CT := t_jLat_charAt_v338_ct) (KT := []) (NT := []) (AN := n_jLat_charAt_v338_an) (OT := [o_jLat_charAt_v338_0]) 0 200 (List.forall_mem_cons.mpr ⟨oo_jLat_charAt_v338_0, List.forall_mem_nil _⟩) (by decide +kernel) ⟨List.forall_mem_nil _, List.forall_mem_nil _, List.forall_mem_cons.mpr ⟨cl_static (y := y_jStr_checkIndex) c_jStr_checkIndex_v339 wm_694 wm_11 wm_692 wm_693 ⟨by decide, by decide, by decide +kernel⟩ (by decide), List.forall_mem_cons.mpr ⟨cl_tlen (i := 3) (n := 6) rfl (by decide +kernel) (by decide +kernel) (by decide +kernel), List.forall_mem_cons.mpr ⟨cl_tbyte1 (i := 3) (n := 6) (k := 0) rfl (by decide +kernel) (by decide +kernel) (by decide) (by decide +kernel), List.forall_mem_nil _⟩⟩⟩, List.forall_mem_nil _, List.forall_mem_nil _, GG_pl⟩ (by decide +kernel)
def e_jLat_charAt_v342 : en_T := ([(2, 0, 0, [5203]), (0, 1, 1, [])], some (0, 0, 65535, []), true, 3, 0, 0, [], [], (0, [], [], [(23, [2], [101, 1]), (23, [2], [-101, -1])], []))
def o_jLat_charAt_v342_0 : or_T := (14, 7, [(3, (0, 101, 101, [])), (5, (0, 0, 101, [])), (6, (0, 0, 65535, []))], [(22, [6, 5], []), (12, [5, 3], [256])], [], [], [(23, [6], [101, 1]), (23, [6], [-101, -1])], [], [])
theorem oo_jLat_charAt_v342_0 {kA : Nat → ClassId} : or_ok PRD kA GG o_jLat_charAt_v342_0 := by
  refine or_mk fun A ta ws vs hD hth hl => ?_
  intro t3 k3 t5 k5 t6 k6 f0 f1
  replace f0 := shm_47 f0
  replace f1 := shm_52 f1
  have nf0 : fc_1 PRD (23, [6], [101, 1]) ws (vs) := by
    refine ⟨nf_in hl rfl, sgq_59 ?_⟩
    · show 1 * v_iv (n_v vs 6) + 0 ≤ 101
      omega
  have nf1 : fc_1 PRD (23, [6], [-101, -1]) ws (vs) := by
    refine ⟨nf_in hl rfl, sgq_60 ?_⟩
    · show (-1) * v_iv (n_v vs 6) + 0 ≤ (-101)
      omega
  refine ⟨(fun _ h => (by cases h)), [], trivial, ?_, (fun _ h => (by cases h))⟩
  rw [List.append_nil]
  exact List.forall_mem_cons.mpr ⟨⟨show (23 : Nat) < 100 from by decide, nf0⟩, List.forall_mem_cons.mpr ⟨⟨show (23 : Nat) < 100 from by decide, nf1⟩, (fun _ h => (by cases h))⟩⟩
def n_jLat_charAt_v342_an : List an_T := []
def t_jLat_charAt_v342_ct : ct_L := [(12, 9, e_jStr_checkIndex_v343), (1000004, 0, en_ro [(2, 0, 0, [5203])] (0, 6, 6, [])), (1000005, 0, en_ro [(2, 0, 0, [5203]), (0, 1, 1, [])] (0, 101, 101, []))]
set_option maxRecDepth 100000 in
theorem c_jLat_charAt_v342 {l : Launch} {D : va_G} {kA : Nat → ClassId} : ct_ok PRD l D kA GG y_jLat_charAt z_jLat_charAt e_jLat_charAt_v342 := chk_all_ok (FT := []) (PT := []) (CT := t_jLat_charAt_v342_ct) (KT := []) (NT := []) (AN := n_jLat_charAt_v342_an) (OT := [o_jLat_charAt_v342_0]) 0 200 (List.forall_mem_cons.mpr ⟨oo_jLat_charAt_v342_0, List.forall_mem_nil _⟩) (by decide +kernel) ⟨List.forall_mem_nil _, List.forall_mem_nil _, List.forall_mem_cons.mpr ⟨cl_static (y := y_jStr_checkIndex) c_jStr_checkIndex_v343 wm_694 wm_11 wm_692 wm_693 ⟨by decide, by decide, by decide +kernel⟩ (by decide), List.forall_mem_cons.mpr ⟨cl_tlen (i := 3) (n := 6) rfl (by decide +kernel) (by decide +kernel) (by decide +kernel), List.forall_mem_cons.mpr ⟨cl_tbyte1 (i := 3) (n := 6) (k := 1) rfl (by decide +kernel) (by decide +kernel) (by decide) (by decide +kernel), List.forall_mem_nil _⟩⟩⟩, List.forall_mem_nil _, List.forall_mem_nil _, GG_pl⟩ (by decide +kernel)
def e_jLat_charAt_v346 : en_T := ([(2, 0, 0, [5203]), (0, 2, 2, [])], some (0, 0, 65535, []), true, 3, 0, 0, [], [], (0, [], [], [(23, [2], [105, 1]), (23, [2], [-105, -1])], []))
def o_jLat_charAt_v346_0 : or_T := (14, 7, [(3, (0, 105, 105, [])), (5, (0, 0, 105, [])), (6, (0, 0, 65535, []))], [(22, [6, 5], []), (12, [5, 3], [256])], [], [], [(23, [6], [105, 1]), (23, [6], [-105, -1])], [], [])
theorem oo_jLat_charAt_v346_0 {kA : Nat → ClassId} : or_ok PRD kA GG o_jLat_charAt_v346_0 := by
  refine or_mk fun A ta ws vs hD hth hl => ?_
  intro t3 k3 t5 k5 t6 k6 f0 f1
  replace f0 := shm_47 f0
  replace f1 := shm_52 f1
  have nf0 : fc_1 PRD (23, [6], [105, 1]) ws (vs) := by
    refine ⟨nf_in hl rfl, sgq_71 ?_⟩
    · show 1 * v_iv (n_v vs 6) + 0 ≤ 105
      omega
  have nf1 : fc_1 PRD (23, [6], [-105, -1]) ws (vs) := by
    refine ⟨nf_in hl rfl, sgq_72 ?_⟩
    · show (-1) * v_iv (n_v vs 6) + 0 ≤ (-105)
      omega
  refine ⟨(fun _ h => (by cases h)), [], trivial, ?_, (fun _ h => (by cases h))⟩
  rw [List.append_nil]
  exact List.forall_mem_cons.mpr ⟨⟨show (23 : Nat) < 100 from by decide, nf0⟩, List.forall_mem_cons.mpr ⟨⟨show (23 : Nat) < 100 from by decide, nf1⟩, (fun _ h => (by cases h))⟩⟩
def n_jLat_charAt_v346_an : List an_T := []
def t_jLat_charAt_v346_ct : ct_L := [(12, 9, e_jStr_checkIndex_v347), (1000004, 0, en_ro [(2, 0, 0, [5203])] (0, 6, 6, [])), (1000005, 0, en_ro [(2, 0, 0, [5203]), (0, 2, 2, [])] (0, 105, 105, []))]
set_option maxRecDepth 100000 in
theorem c_jLat_charAt_v346 {l : Launch} {D : va_G} {kA : Nat → ClassId} : ct_ok PRD l D kA GG y_jLat_charAt z_jLat_charAt e_jLat_charAt_v346 := chk_all_ok (FT := []) (PT := []) (CT := t_jLat_charAt_v346_ct) (KT := []) (NT := []) (AN := n_jLat_charAt_v346_an) (OT := [o_jLat_charAt_v346_0]) 0 200 (List.forall_mem_cons.mpr ⟨oo_jLat_charAt_v346_0, List.forall_mem_nil _⟩) (by decide +kernel) ⟨List.forall_mem_nil _, List.forall_mem_nil _, List.forall_mem_cons.mpr ⟨cl_static (y := y_jStr_checkIndex) c_jStr_checkIndex_v347 wm_694 wm_11 wm_692 wm_693 ⟨by decide, by decide, by decide +kernel⟩ (by decide), List.forall_mem_cons.mpr ⟨cl_tlen (i := 3) (n := 6) rfl (by decide +kernel) (by decide +kernel) (by decide +kernel), List.forall_mem_cons.mpr ⟨cl_tbyte1 (i := 3) (n := 6) (k := 2) rfl (by decide +kernel) (by decide +kernel) (by decide) (by decide +kernel), List.forall_mem_nil _⟩⟩⟩, List.forall_mem_nil _, List.forall_mem_nil _, GG_pl⟩ (by decide +kernel)
def e_jLat_charAt_v350 : en_T := ([(2, 0, 0, [5203]), (0, 3, 3, [])], some (0, 0, 65535, []), true, 3, 0, 0, [], [], (0, [], [], [(23, [2], [103, 1]), (23, [2], [-103, -1])], []))
def o_jLat_charAt_v350_0 : or_T := (14, 7, [(3, (0, 103, 103, [])), (5, (0, 0, 103, [])), (6, (0, 0, 65535, []))], [(22, [6, 5], []), (12, [5, 3], [256])], [], [], [(23, [6], [103, 1]), (23, [6], [-103, -1])], [], [])
theorem oo_jLat_charAt_v350_0 {kA : Nat → ClassId} : or_ok PRD kA GG o_jLat_charAt_v350_0 := by
  refine or_mk fun A ta ws vs hD hth hl => ?_
  intro t3 k3 t5 k5 t6 k6 f0 f1
  replace f0 := shm_47 f0
  replace f1 := shm_52 f1
  have nf0 : fc_1 PRD (23, [6], [103, 1]) ws (vs) := by
    refine ⟨nf_in hl rfl, sgq_61 ?_⟩
    · show 1 * v_iv (n_v vs 6) + 0 ≤ 103
      omega
  have nf1 : fc_1 PRD (23, [6], [-103, -1]) ws (vs) := by
    refine ⟨nf_in hl rfl, sgq_62 ?_⟩
    · show (-1) * v_iv (n_v vs 6) + 0 ≤ (-103)
      omega
  refine ⟨(fun _ h => (by cases h)), [], trivial, ?_, (fun _ h => (by cases h))⟩
  rw [List.append_nil]
  exact List.forall_mem_cons.mpr ⟨⟨show (23 : Nat) < 100 from by decide, nf0⟩, List.forall_mem_cons.mpr ⟨⟨show (23 : Nat) < 100 from by decide, nf1⟩, (fun _ h => (by cases h))⟩⟩
def n_jLat_charAt_v350_an : List an_T := []
def t_jLat_charAt_v350_ct : ct_L := [(12, 9, e_jStr_checkIndex_v351), (1000004, 0, en_ro [(2, 0, 0, [5203])] (0, 6, 6, [])), (1000005, 0, en_ro [(2, 0, 0, [5203]), (0, 3, 3, [])] (0, 103, 103, []))]
set_option maxRecDepth 100000 in
theorem c_jLat_charAt_v350 {l : Launch} {D : va_G} {kA : Nat → ClassId} : ct_ok PRD l D kA GG y_jLat_charAt z_jLat_charAt e_jLat_charAt_v350 := chk_all_ok (FT := []) (PT := []) (CT := t_jLat_charAt_v350_ct) (KT := []) (NT := []) (AN := n_jLat_charAt_v350_an) (OT := [o_jLat_charAt_v350_0]) 0 200 (List.forall_mem_cons.mpr ⟨oo_jLat_charAt_v350_0, List.forall_mem_nil _⟩) (by decide +kernel) ⟨List.forall_mem_nil _, List.forall_mem_nil _, List.forall_mem_cons.mpr ⟨cl_static (y := y_jStr_checkIndex) c_jStr_checkIndex_v351 wm_694 wm_11 wm_692 wm_693 ⟨by decide, by decide, by decide +kernel⟩ (by decide), List.forall_mem_cons.mpr ⟨cl_tlen (i := 3) (n := 6) rfl (by decide +kernel) (by decide +kernel) (by decide +kernel), List.forall_mem_cons.mpr ⟨cl_tbyte1 (i := 3) (n := 6) (k := 3) rfl (by decide +kernel) (by decide +kernel) (by decide) (by decide +kernel), List.forall_mem_nil _⟩⟩⟩, List.forall_mem_nil _, List.forall_mem_nil _, GG_pl⟩ (by decide +kernel)
def e_jLat_charAt_v354 : en_T := ([(2, 0, 0, [5203]), (0, 4, 4, [])], some (0, 0, 65535, []), true, 3, 0, 0, [], [], (0, [], [], [(23, [2], [104, 1]), (23, [2], [-104, -1])], []))
def o_jLat_charAt_v354_0 : or_T := (14, 7, [(3, (0, 104, 104, [])), (5, (0, 0, 104, [])), (6, (0, 0, 65535, []))], [(22, [6, 5], []), (12, [5, 3], [256])], [], [], [(23, [6], [104, 1]), (23, [6], [-104, -1])], [], [])
theorem oo_jLat_charAt_v354_0 {kA : Nat → ClassId} : or_ok PRD kA GG o_jLat_charAt_v354_0 := by
  refine or_mk fun A ta ws vs hD hth hl => ?_
  intro t3 k3 t5 k5 t6 k6 f0 f1
  replace f0 := shm_47 f0
  replace f1 := shm_52 f1
  have nf0 : fc_1 PRD (23, [6], [104, 1]) ws (vs) := by
    refine ⟨nf_in hl rfl, sgq_77 ?_⟩
    · show 1 * v_iv (n_v vs 6) + 0 ≤ 104
      omega
  have nf1 : fc_1 PRD (23, [6], [-104, -1]) ws (vs) := by
    refine ⟨nf_in hl rfl, sgq_78 ?_⟩
    · show (-1) * v_iv (n_v vs 6) + 0 ≤ (-104)
      omega
  refine ⟨(fun _ h => (by cases h)), [], trivial, ?_, (fun _ h => (by cases h))⟩
  rw [List.append_nil]
  exact List.forall_mem_cons.mpr ⟨⟨show (23 : Nat) < 100 from by decide, nf0⟩, List.forall_mem_cons.mpr ⟨⟨show (23 : Nat) < 100 from by decide, nf1⟩, (fun _ h => (by cases h))⟩⟩
def n_jLat_charAt_v354_an : List an_T := []
def t_jLat_charAt_v354_ct : ct_L := [(12, 9, e_jStr_checkIndex_v355), (1000004, 0, en_ro [(2, 0, 0, [5203])] (0, 6, 6, [])), (1000005, 0, en_ro [(2, 0, 0, [5203]), (0, 4, 4, [])] (0, 104, 104, []))]
set_option maxRecDepth 100000 in
theorem c_jLat_charAt_v354 {l : Launch} {D : va_G} {kA : Nat → ClassId} : ct_ok PRD l D kA GG y_jLat_charAt z_jLat_charAt e_jLat_charAt_v354 := chk_all_ok (FT := []) (PT := []) (CT := t_jLat_charAt_v354_ct) (KT := []) (NT := []) (AN := n_jLat_charAt_v354_an) (OT := [o_jLat_charAt_v354_0]) 0 200 (List.forall_mem_cons.mpr ⟨oo_jLat_charAt_v354_0, List.forall_mem_nil _⟩) (by decide +kernel) ⟨List.forall_mem_nil _, List.forall_mem_nil _, List.forall_mem_cons.mpr ⟨cl_static (y := y_jStr_checkIndex) c_jStr_checkIndex_v355 wm_694 wm_11 wm_692 wm_693 ⟨by decide, by decide, by decide +kernel⟩ (by decide), List.forall_mem_cons.mpr ⟨cl_tlen (i := 3) (n := 6) rfl (by decide +kernel) (by decide +kernel) (by decide +kernel), List.forall_mem_cons.mpr ⟨cl_tbyte1 (i := 3) (n := 6) (k := 4) rfl (by decide +kernel) (by decide +kernel) (by decide) (by decide +kernel), List.forall_mem_nil _⟩⟩⟩, List.forall_mem_nil _, List.forall_mem_nil _, GG_pl⟩ (by decide +kernel)
def e_jLat_charAt_v358 : en_T := ([(2, 0, 0, [5203]), (0, 5, 5, [])], some (0, 0, 65535, []), true, 3, 0, 0, [], [], (0, [], [], [(23, [2], [116, 1]), (23, [2], [-116, -1])], []))
def o_jLat_charAt_v358_0 : or_T := (14, 7, [(3, (0, 116, 116, [])), (5, (0, 0, 116, [])), (6, (0, 0, 65535, []))], [(22, [6, 5], []), (12, [5, 3], [256])], [], [], [(23, [6], [116, 1]), (23, [6], [-116, -1])], [], [])
theorem oo_jLat_charAt_v358_0 {kA : Nat → ClassId} : or_ok PRD kA GG o_jLat_charAt_v358_0 := by
  refine or_mk fun A ta ws vs hD hth hl => ?_
  intro t3 k3 t5 k5 t6 k6 f0 f1
  replace f0 := shm_47 f0
  replace f1 := shm_52 f1
  have nf0 : fc_1 PRD (23, [6], [116, 1]) ws (vs) := by
    refine ⟨nf_in hl rfl, sgq_79 ?_⟩
    · show 1 * v_iv (n_v vs 6) + 0 ≤ 116
      omega
  have nf1 : fc_1 PRD (23, [6], [-116, -1]) ws (vs) := by
    refine ⟨nf_in hl rfl, sgq_80 ?_⟩
    · show (-1) * v_iv (n_v vs 6) + 0 ≤ (-116)
      omega
  refine ⟨(fun _ h => (by cases h)), [], trivial, ?_, (fun _ h => (by cases h))⟩
  rw [List.append_nil]
  exact List.forall_mem_cons.mpr ⟨⟨show (23 : Nat) < 100 from by decide, nf0⟩, List.forall_mem_cons.mpr ⟨⟨show (23 : Nat) < 100 from by decide, nf1⟩, (fun _ h => (by cases h))⟩⟩
def n_jLat_charAt_v358_an : List an_T := []
def t_jLat_charAt_v358_ct : ct_L := [(12, 9, e_jStr_checkIndex_v359), (1000004, 0, en_ro [(2, 0, 0, [5203])] (0, 6, 6, [])), (1000005, 0, en_ro [(2, 0, 0, [5203]), (0, 5, 5, [])] (0, 116, 116, []))]
set_option maxRecDepth 100000 in
theorem c_jLat_charAt_v358 {l : Launch} {D : va_G} {kA : Nat → ClassId} : ct_ok PRD l D kA GG y_jLat_charAt z_jLat_charAt e_jLat_charAt_v358 := chk_all_ok (FT := []) (PT := []) (CT := t_jLat_charAt_v358_ct) (KT := []) (NT := []) (AN := n_jLat_charAt_v358_an) (OT := [o_jLat_charAt_v358_0]) 0 200 (List.forall_mem_cons.mpr ⟨oo_jLat_charAt_v358_0, List.forall_mem_nil _⟩) (by decide +kernel) ⟨List.forall_mem_nil _, List.forall_mem_nil _, List.forall_mem_cons.mpr ⟨cl_static (y := y_jStr_checkIndex) c_jStr_checkIndex_v359 wm_694 wm_11 wm_692 wm_693 ⟨by decide, by decide, by decide +kernel⟩ (by decide), List.forall_mem_cons.mpr ⟨cl_tlen (i := 3) (n := 6) rfl (by decide +kernel) (by decide +kernel) (by decide +kernel), List.forall_mem_cons.mpr ⟨cl_tbyte1 (i := 3) (n := 6) (k := 5) rfl (by decide +kernel) (by decide +kernel) (by decide) (by decide +kernel), List.forall_mem_nil _⟩⟩⟩, List.forall_mem_nil _, List.forall_mem_nil _, GG_pl⟩ (by decide +kernel)
def e_jLat_charAt_v363 : en_T := ([(2, 0, 0, [5213]), (0, 0, 4, [])], some (0, 0, 65535, []), true, 3, 0, 0, [], [], (0, [], [], [], []))
def o_jLat_charAt_v363_0 : or_T := (1000000, 0, [], [], [], [], [], [], [])
theorem oo_jLat_charAt_v363_0 {kA : Nat → ClassId} : or_ok PRD kA GG o_jLat_charAt_v363_0 := fun _ _ _ _ _ _ _ _ _ _ => ⟨fun q h => (by cases h), [], trivial, fun f h => (by cases h), fun q h => (by cases h)⟩
def n_jLat_charAt_v363_an : List an_T := []
def t_jLat_charAt_v363_ct : ct_L := [(12, 9, e_jStr_checkIndex_v364), (1000004, 0, en_ro [(2, 0, 0, [5213])] (0, 5, 5, [])), (1000005, 0, en_ro [(2, 0, 0, [5213]), (0, 0, 4, [])] (0, 32, 111, []))]
set_option maxRecDepth 100000 in
theorem c_jLat_charAt_v363 {l : Launch} {D : va_G} {kA : Nat → ClassId} : ct_ok PRD l D kA GG y_jLat_charAt z_jLat_charAt e_jLat_charAt_v363 := chk_all_ok (FT := []) (PT := []) (CT := t_jLat_charAt_v363_ct) (KT := []) (NT := []) (AN := n_jLat_charAt_v363_an) (OT := [o_jLat_charAt_v363_0]) 0 200 (List.forall_mem_cons.mpr ⟨oo_jLat_charAt_v363_0, List.forall_mem_nil _⟩) (by decide +kernel) ⟨List.forall_mem_nil _, List.forall_mem_nil _, List.forall_mem_cons.mpr ⟨cl_static (y := y_jStr_checkIndex) c_jStr_checkIndex_v364 wm_694 wm_11 wm_692 wm_693 ⟨by decide, by decide, by decide +kernel⟩ (by decide), List.forall_mem_cons.mpr ⟨cl_tlen (i := 13) (n := 5) rfl (by decide +kernel) (by decide +kernel) (by decide +kernel), List.forall_mem_cons.mpr ⟨cl_tbyte (i := 13) (n := 5) rfl (by decide +kernel) (by decide +kernel) (by decide +kernel) (by decide +kernel), List.forall_mem_nil _⟩⟩⟩, List.forall_mem_nil _, List.forall_mem_nil _, GG_pl⟩ (by decide +kernel)
def e_jLat_charAt_v368 : en_T := ([(2, 0, 0, [5214]), (0, 0, 6, [])], some (0, 0, 65535, []), true, 3, 0, 0, [], [], (0, [], [], [], []))
def o_jLat_charAt_v368_0 : or_T := (1000000, 0, [], [], [], [], [], [], [])
theorem oo_jLat_charAt_v368_0 {kA : Nat → ClassId} : or_ok PRD kA GG o_jLat_charAt_v368_0 := fun _ _ _ _ _ _ _ _ _ _ => ⟨fun q h => (by cases h), [], trivial, fun f h => (by cases h), fun q h => (by cases h)⟩
def n_jLat_charAt_v368_an : List an_T := []
def t_jLat_charAt_v368_ct : ct_L := [(12, 9, e_jStr_checkIndex_v369), (1000004, 0, en_ro [(2, 0, 0, [5214])] (0, 7, 7, [])), (1000005, 0, en_ro [(2, 0, 0, [5214]), (0, 0, 6, [])] (0, 32, 122, []))]
set_option maxRecDepth 100000 in
theorem c_jLat_charAt_v368 {l : Launch} {D : va_G} {kA : Nat → ClassId} : ct_ok PRD l D kA GG y_jLat_charAt z_jLat_charAt e_jLat_charAt_v368 := chk_all_ok (FT := []) (PT := []) (CT := t_jLat_charAt_v368_ct) (KT := []) (NT := []) (AN := n_jLat_charAt_v368_an) (OT := [o_jLat_charAt_v368_0]) 0 200 (List.forall_mem_cons.mpr ⟨oo_jLat_charAt_v368_0, List.forall_mem_nil _⟩) (by decide +kernel) ⟨List.forall_mem_nil _, List.forall_mem_nil _, List.forall_mem_cons.mpr ⟨cl_static (y := y_jStr_checkIndex) c_jStr_checkIndex_v369 wm_694 wm_11 wm_692 wm_693 ⟨by decide, by decide, by decide +kernel⟩ (by decide), List.forall_mem_cons.mpr ⟨cl_tlen (i := 14) (n := 7) rfl (by decide +kernel) (by decide +kernel) (by decide +kernel), List.forall_mem_cons.mpr ⟨cl_tbyte (i := 14) (n := 7) rfl (by decide +kernel) (by decide +kernel) (by decide +kernel) (by decide +kernel), List.forall_mem_nil _⟩⟩⟩, List.forall_mem_nil _, List.forall_mem_nil _, GG_pl⟩ (by decide +kernel)
def e_jLat_charAt_v373 : en_T := ([(2, 0, 0, [5215]), (0, 0, 1, [])], some (0, 0, 65535, []), true, 3, 0, 0, [], [], (0, [], [], [], []))
def o_jLat_charAt_v373_0 : or_T := (1000000, 0, [], [], [], [], [], [], [])
theorem oo_jLat_charAt_v373_0 {kA : Nat → ClassId} : or_ok PRD kA GG o_jLat_charAt_v373_0 := fun _ _ _ _ _ _ _ _ _ _ => ⟨fun q h => (by cases h), [], trivial, fun f h => (by cases h), fun q h => (by cases h)⟩
def n_jLat_charAt_v373_an : List an_T := []
def t_jLat_charAt_v373_ct : ct_L := [(12, 9, e_jStr_checkIndex_v374), (1000004, 0, en_ro [(2, 0, 0, [5215])] (0, 2, 2, [])), (1000005, 0, en_ro [(2, 0, 0, [5215]), (0, 0, 1, [])] (0, 10, 59, []))]
set_option maxRecDepth 100000 in
theorem c_jLat_charAt_v373 {l : Launch} {D : va_G} {kA : Nat → ClassId} : ct_ok PRD l D kA GG y_jLat_charAt z_jLat_charAt e_jLat_charAt_v373 := chk_all_ok (FT := []) (PT := []) (CT := t_jLat_charAt_v373_ct) (KT := []) (NT := []) (AN := n_jLat_charAt_v373_an) (OT := [o_jLat_charAt_v373_0]) 0 200 (List.forall_mem_cons.mpr ⟨oo_jLat_charAt_v373_0, List.forall_mem_nil _⟩) (by decide +kernel) ⟨List.forall_mem_nil _, List.forall_mem_nil _, List.forall_mem_cons.mpr ⟨cl_static (y := y_jStr_checkIndex) c_jStr_checkIndex_v374 wm_694 wm_11 wm_692 wm_693 ⟨by decide, by decide, by decide +kernel⟩ (by decide), List.forall_mem_cons.mpr ⟨cl_tlen (i := 15) (n := 2) rfl (by decide +kernel) (by decide +kernel) (by decide +kernel), List.forall_mem_cons.mpr ⟨cl_tbyte (i := 15) (n := 2) rfl (by decide +kernel) (by decide +kernel) (by decide +kernel) (by decide +kernel), List.forall_mem_nil _⟩⟩⟩, List.forall_mem_nil _, List.forall_mem_nil _, GG_pl⟩ (by decide +kernel)
def e_jLat_charAt_v378 : en_T := ([(2, 0, 0, [5216]), (0, 0, 5, [])], some (0, 0, 65535, []), true, 3, 0, 0, [], [], (0, [], [], [], []))
def o_jLat_charAt_v378_0 : or_T := (1000000, 0, [], [], [], [], [], [], [])
theorem oo_jLat_charAt_v378_0 {kA : Nat → ClassId} : or_ok PRD kA GG o_jLat_charAt_v378_0 := fun _ _ _ _ _ _ _ _ _ _ => ⟨fun q h => (by cases h), [], trivial, fun f h => (by cases h), fun q h => (by cases h)⟩
def n_jLat_charAt_v378_an : List an_T := []
def t_jLat_charAt_v378_ct : ct_L := [(12, 9, e_jStr_checkIndex_v379), (1000004, 0, en_ro [(2, 0, 0, [5216])] (0, 6, 6, [])), (1000005, 0, en_ro [(2, 0, 0, [5216]), (0, 0, 5, [])] (0, 32, 117, []))]
set_option maxRecDepth 100000 in
theorem c_jLat_charAt_v378 {l : Launch} {D : va_G} {kA : Nat → ClassId} : ct_ok PRD l D kA GG y_jLat_charAt z_jLat_charAt e_jLat_charAt_v378 := chk_all_ok (FT := []) (PT := []) (CT := t_jLat_charAt_v378_ct) (KT := []) (NT := []) (AN := n_jLat_charAt_v378_an) (OT := [o_jLat_charAt_v378_0]) 0 200 (List.forall_mem_cons.mpr ⟨oo_jLat_charAt_v378_0, List.forall_mem_nil _⟩) (by decide +kernel) ⟨List.forall_mem_nil _, List.forall_mem_nil _, List.forall_mem_cons.mpr ⟨cl_static (y := y_jStr_checkIndex) c_jStr_checkIndex_v379 wm_694 wm_11 wm_692 wm_693 ⟨by decide, by decide, by decide +kernel⟩ (by decide), List.forall_mem_cons.mpr ⟨cl_tlen (i := 16) (n := 6) rfl (by decide +kernel) (by decide +kernel) (by decide +kernel), List.forall_mem_cons.mpr ⟨cl_tbyte (i := 16) (n := 6) rfl (by decide +kernel) (by decide +kernel) (by decide +kernel) (by decide +kernel), List.forall_mem_nil _⟩⟩⟩, List.forall_mem_nil _, List.forall_mem_nil _, GG_pl⟩ (by decide +kernel)
def e_jLat_charAt_v383 : en_T := ([(2, 0, 0, [5217]), (0, 0, 2, [])], some (0, 0, 65535, []), true, 3, 0, 0, [], [], (0, [], [], [], []))
def o_jLat_charAt_v383_0 : or_T := (1000000, 0, [], [], [], [], [], [], [])
theorem oo_jLat_charAt_v383_0 {kA : Nat → ClassId} : or_ok PRD kA GG o_jLat_charAt_v383_0 := fun _ _ _ _ _ _ _ _ _ _ => ⟨fun q h => (by cases h), [], trivial, fun f h => (by cases h), fun q h => (by cases h)⟩
def n_jLat_charAt_v383_an : List an_T := []
def t_jLat_charAt_v383_ct : ct_L := [(12, 9, e_jStr_checkIndex_v273), (1000004, 0, en_ro [(2, 0, 0, [5217])] (0, 3, 3, [])), (1000005, 0, en_ro [(2, 0, 0, [5217]), (0, 0, 2, [])] (0, 10, 123, []))]
set_option maxRecDepth 100000 in
theorem c_jLat_charAt_v383 {l : Launch} {D : va_G} {kA : Nat → ClassId} : ct_ok PRD l D kA GG y_jLat_charAt z_jLat_charAt e_jLat_charAt_v383 := chk_all_ok (FT := []) (PT := []) (CT := t_jLat_charAt_v383_ct) (KT := []) (NT := []) (AN := n_jLat_charAt_v383_an) (OT := [o_jLat_charAt_v383_0]) 0 200 (List.forall_mem_cons.mpr ⟨oo_jLat_charAt_v383_0, List.forall_mem_nil _⟩) (by decide +kernel) ⟨List.forall_mem_nil _, List.forall_mem_nil _, List.forall_mem_cons.mpr ⟨cl_static (y := y_jStr_checkIndex) c_jStr_checkIndex_v273 wm_694 wm_11 wm_692 wm_693 ⟨by decide, by decide, by decide +kernel⟩ (by decide), List.forall_mem_cons.mpr ⟨cl_tlen (i := 17) (n := 3) rfl (by decide +kernel) (by decide +kernel) (by decide +kernel), List.forall_mem_cons.mpr ⟨cl_tbyte (i := 17) (n := 3) rfl (by decide +kernel) (by decide +kernel) (by decide +kernel) (by decide +kernel), List.forall_mem_nil _⟩⟩⟩, List.forall_mem_nil _, List.forall_mem_nil _, GG_pl⟩ (by decide +kernel)
def e_jLat_charAt_v386 : en_T := ([(2, 0, 0, [5218]), (0, 0, 1, [])], some (0, 0, 65535, []), true, 3, 0, 0, [], [], (0, [], [], [], []))
def o_jLat_charAt_v386_0 : or_T := (1000000, 0, [], [], [], [], [], [], [])
theorem oo_jLat_charAt_v386_0 {kA : Nat → ClassId} : or_ok PRD kA GG o_jLat_charAt_v386_0 := fun _ _ _ _ _ _ _ _ _ _ => ⟨fun q h => (by cases h), [], trivial, fun f h => (by cases h), fun q h => (by cases h)⟩
def n_jLat_charAt_v386_an : List an_T := []
def t_jLat_charAt_v386_ct : ct_L := [(12, 9, e_jStr_checkIndex_v374), (1000004, 0, en_ro [(2, 0, 0, [5218])] (0, 2, 2, [])), (1000005, 0, en_ro [(2, 0, 0, [5218]), (0, 0, 1, [])] (0, 10, 125, []))]
set_option maxRecDepth 100000 in
theorem c_jLat_charAt_v386 {l : Launch} {D : va_G} {kA : Nat → ClassId} : ct_ok PRD l D kA GG y_jLat_charAt z_jLat_charAt e_jLat_charAt_v386 := chk_all_ok (FT := []) (PT := []) (CT := t_jLat_charAt_v386_ct) (KT := []) (NT := []) (AN := n_jLat_charAt_v386_an) (OT := [o_jLat_charAt_v386_0]) 0 200 (List.forall_mem_cons.mpr ⟨oo_jLat_charAt_v386_0, List.forall_mem_nil _⟩) (by decide +kernel) ⟨List.forall_mem_nil _, List.forall_mem_nil _, List.forall_mem_cons.mpr ⟨cl_static (y := y_jStr_checkIndex) c_jStr_checkIndex_v374 wm_694 wm_11 wm_692 wm_693 ⟨by decide, by decide, by decide +kernel⟩ (by decide), List.forall_mem_cons.mpr ⟨cl_tlen (i := 18) (n := 2) rfl (by decide +kernel) (by decide +kernel) (by decide +kernel), List.forall_mem_cons.mpr ⟨cl_tbyte (i := 18) (n := 2) rfl (by decide +kernel) (by decide +kernel) (by decide +kernel) (by decide +kernel), List.forall_mem_nil _⟩⟩⟩, List.forall_mem_nil _, List.forall_mem_nil _, GG_pl⟩ (by decide +kernel)
def e_jLat_charAt_v389 : en_T := ([(2, 0, 0, [5219]), (0, 0, 2, [])], some (0, 0, 65535, []), true, 3, 0, 0, [], [], (0, [], [], [], []))
def o_jLat_charAt_v389_0 : or_T := (1000000, 0, [], [], [], [], [], [], [])
theorem oo_jLat_charAt_v389_0 {kA : Nat → ClassId} : or_ok PRD kA GG o_jLat_charAt_v389_0 := fun _ _ _ _ _ _ _ _ _ _ => ⟨fun q h => (by cases h), [], trivial, fun f h => (by cases h), fun q h => (by cases h)⟩
def n_jLat_charAt_v389_an : List an_T := []
def t_jLat_charAt_v389_ct : ct_L := [(12, 9, e_jStr_checkIndex_v273), (1000004, 0, en_ro [(2, 0, 0, [5219])] (0, 3, 3, [])), (1000005, 0, en_ro [(2, 0, 0, [5219]), (0, 0, 2, [])] (0, 32, 62, []))]
set_option maxRecDepth 100000 in
theorem c_jLat_charAt_v389 {l : Launch} {D : va_G} {kA : Nat → ClassId} : ct_ok PRD l D kA GG y_jLat_charAt z_jLat_charAt e_jLat_charAt_v389 := chk_all_ok (FT := []) (PT := []) (CT := t_jLat_charAt_v389_ct) (KT := []) (NT := []) (AN := n_jLat_charAt_v389_an) (OT := [o_jLat_charAt_v389_0]) 0 200 (List.forall_mem_cons.mpr ⟨oo_jLat_charAt_v389_0, List.forall_mem_nil _⟩) (by decide +kernel) ⟨List.forall_mem_nil _, List.forall_mem_nil _, List.forall_mem_cons.mpr ⟨cl_static (y := y_jStr_checkIndex) c_jStr_checkIndex_v273 wm_694 wm_11 wm_692 wm_693 ⟨by decide, by decide, by decide +kernel⟩ (by decide), List.forall_mem_cons.mpr ⟨cl_tlen (i := 19) (n := 3) rfl (by decide +kernel) (by decide +kernel) (by decide +kernel), List.forall_mem_cons.mpr ⟨cl_tbyte (i := 19) (n := 3) rfl (by decide +kernel) (by decide +kernel) (by decide +kernel) (by decide +kernel), List.forall_mem_nil _⟩⟩⟩, List.forall_mem_nil _, List.forall_mem_nil _, GG_pl⟩ (by decide +kernel)
def e_jLat_charAt_v392 : en_T := ([(2, 0, 0, [5220]), (0, 0, 2, [])], some (0, 0, 65535, []), true, 3, 0, 0, [], [], (0, [], [], [], []))
def o_jLat_charAt_v392_0 : or_T := (1000000, 0, [], [], [], [], [], [], [])
theorem oo_jLat_charAt_v392_0 {kA : Nat → ClassId} : or_ok PRD kA GG o_jLat_charAt_v392_0 := fun _ _ _ _ _ _ _ _ _ _ => ⟨fun q h => (by cases h), [], trivial, fun f h => (by cases h), fun q h => (by cases h)⟩
def n_jLat_charAt_v392_an : List an_T := []
def t_jLat_charAt_v392_ct : ct_L := [(12, 9, e_jStr_checkIndex_v273), (1000004, 0, en_ro [(2, 0, 0, [5220])] (0, 3, 3, [])), (1000005, 0, en_ro [(2, 0, 0, [5220]), (0, 0, 2, [])] (0, 32, 45, []))]
set_option maxRecDepth 100000 in
theorem c_jLat_charAt_v392 {l : Launch} {D : va_G} {kA : Nat → ClassId} : ct_ok PRD l D kA GG y_jLat_charAt z_jLat_charAt e_jLat_charAt_v392 := chk_all_ok (FT := []) (PT := []) (CT := t_jLat_charAt_v392_ct) (KT := []) (NT := []) (AN := n_jLat_charAt_v392_an) (OT := [o_jLat_charAt_v392_0]) 0 200 (List.forall_mem_cons.mpr ⟨oo_jLat_charAt_v392_0, List.forall_mem_nil _⟩) (by decide +kernel) ⟨List.forall_mem_nil _, List.forall_mem_nil _, List.forall_mem_cons.mpr ⟨cl_static (y := y_jStr_checkIndex) c_jStr_checkIndex_v273 wm_694 wm_11 wm_692 wm_693 ⟨by decide, by decide, by decide +kernel⟩ (by decide), List.forall_mem_cons.mpr ⟨cl_tlen (i := 20) (n := 3) rfl (by decide +kernel) (by decide +kernel) (by decide +kernel), List.forall_mem_cons.mpr ⟨cl_tbyte (i := 20) (n := 3) rfl (by decide +kernel) (by decide +kernel) (by decide +kernel) (by decide +kernel), List.forall_mem_nil _⟩⟩⟩, List.forall_mem_nil _, List.forall_mem_nil _, GG_pl⟩ (by decide +kernel)
def e_jLat_charAt_v395 : en_T := ([(2, 0, 0, [5221]), (0, 0, 8, [])], some (0, 0, 65535, []), true, 3, 0, 0, [], [], (0, [], [], [], []))
def o_jLat_charAt_v395_0 : or_T := (1000000, 0, [], [], [], [], [], [], [])
theorem oo_jLat_charAt_v395_0 {kA : Nat → ClassId} : or_ok PRD kA GG o_jLat_charAt_v395_0 := fun _ _ _ _ _ _ _ _ _ _ => ⟨fun q h => (by cases h), [], trivial, fun f h => (by cases h), fun q h => (by cases h)⟩
def n_jLat_charAt_v395_an : List an_T := []
def t_jLat_charAt_v395_ct : ct_L := [(12, 9, e_jStr_checkIndex_v396), (1000004, 0, en_ro [(2, 0, 0, [5221])] (0, 9, 9, [])), (1000005, 0, en_ro [(2, 0, 0, [5221]), (0, 0, 8, [])] (0, 32, 119, []))]
set_option maxRecDepth 100000 in
theorem c_jLat_charAt_v395 {l : Launch} {D : va_G} {kA : Nat → ClassId} : ct_ok PRD l D kA GG y_jLat_charAt z_jLat_charAt e_jLat_charAt_v395 := chk_all_ok (FT := []) (PT := []) (CT := t_jLat_charAt_v395_ct) (KT := []) (NT := []) (AN := n_jLat_charAt_v395_an) (OT := [o_jLat_charAt_v395_0]) 0 200 (List.forall_mem_cons.mpr ⟨oo_jLat_charAt_v395_0, List.forall_mem_nil _⟩) (by decide +kernel) ⟨List.forall_mem_nil _, List.forall_mem_nil _, List.forall_mem_cons.mpr ⟨cl_static (y := y_jStr_checkIndex) c_jStr_checkIndex_v396 wm_694 wm_11 wm_692 wm_693 ⟨by decide, by decide, by decide +kernel⟩ (by decide), List.forall_mem_cons.mpr ⟨cl_tlen (i := 21) (n := 9) rfl (by decide +kernel) (by decide +kernel) (by decide +kernel), List.forall_mem_cons.mpr ⟨cl_tbyte (i := 21) (n := 9) rfl (by decide +kernel) (by decide +kernel) (by decide +kernel) (by decide +kernel), List.forall_mem_nil _⟩⟩⟩, List.forall_mem_nil _, List.forall_mem_nil _, GG_pl⟩ (by decide +kernel)
def e_jStr_indexOf2_v399 : en_T := ([(2, 0, 0, [5005]), (0, 0, 127, []), (0, 0, 0, [])], some (0, -1, 13, []), true, 3, 0, 0, [], [], (0, [], [], [(20, [3, 1], [50, 0, 0, 3, 6, 0, 2, 1, 0, 0, -1, 0, 2, 0, 33, 1, 1])], []))
def o_jStr_indexOf2_v399_0 : or_T := (1000000, 0, [], [], [], [], [], [], [])
theorem oo_jStr_indexOf2_v399_0 {kA : Nat → ClassId} : or_ok PRD kA GG o_jStr_indexOf2_v399_0 := fun _ _ _ _ _ _ _ _ _ _ => ⟨fun q h => (by cases h), [], trivial, fun f h => (by cases h), fun q h => (by cases h)⟩
def n_jStr_indexOf2_v399_an : List an_T := []
def t_jStr_indexOf2_v399_ct : ct_L := [(7, 492, e_jStr_isLatin1_v259), (46, 505, e_jStr_length_v400), (54, 637, e_jLat_indexOf_v401), (1000003, 9, en_ro [(2, 0, 0, [5005])] (2, 0, 0, [5205]))]
set_option maxRecDepth 100000 in
theorem c_jStr_indexOf2_v399 {l : Launch} {D : va_G} {kA : Nat → ClassId} : ct_ok PRD l D kA GG y_jStr_indexOf2 z_jStr_indexOf2 e_jStr_indexOf2_v399 := chk_all_ok (FT := []) (PT := []) (CT := t_jStr_indexOf2_v399_ct) (KT := []) (NT := []) (AN := n_jStr_indexOf2_v399_an) (OT := [o_jStr_indexOf2_v399_0]) 0 200 (List.forall_mem_cons.mpr ⟨oo_jStr_indexOf2_v399_0, List.forall_mem_nil _⟩) (by decide +kernel) ⟨List.forall_mem_nil _, List.forall_mem_nil _, List.forall_mem_cons.mpr ⟨cl_stringS (y := y_jStr_isLatin1) (rs := ro_strs) rfl (by decide +kernel) rfl c_jStr_isLatin1_v259 wm_688 wm_11 wm_685 wm_686 wm_687 ⟨by decide, by decide, by decide +kernel⟩ (by decide), List.forall_mem_cons.mpr ⟨cl_string (y := y_jStr_length) (i := 5) rfl rfl (by decide +kernel) rfl c_jStr_length_v400 wm_674 wm_11 wm_2174 wm_672 wm_673 ⟨by decide, by decide, by decide +kernel⟩ (by decide), List.forall_mem_cons.mpr ⟨cl_static (y := y_jLat_indexOf) c_jLat_indexOf_v401 wm_2177 wm_12 wm_2175 wm_2176 ⟨by decide, by decide, by decide +kernel⟩ (by decide), List.forall_mem_cons.mpr ⟨cl_value (i := 5) wm_3969 rfl (by decide +kernel) (by decide +kernel) (by decide +kernel), List.forall_mem_nil _⟩⟩⟩⟩, List.forall_mem_nil _, List.forall_mem_nil _, GG_pl⟩ (by decide +kernel)
def e_jLat_charAt_v414 : en_T := ([(2, 0, 0, [5206]), (0, 0, 0, [])], some (0, 0, 65535, []), true, 3, 0, 0, [], [], (0, [], [], [(23, [2], [110, 1]), (23, [2], [-110, -1])], []))
def o_jLat_charAt_v414_0 : or_T := (14, 7, [(3, (0, 110, 110, [])), (5, (0, 0, 110, [])), (6, (0, 0, 65535, []))], [(22, [6, 5], []), (12, [5, 3], [256])], [], [], [(23, [6], [110, 1]), (23, [6], [-110, -1])], [], [])
theorem oo_jLat_charAt_v414_0 {kA : Nat → ClassId} : or_ok PRD kA GG o_jLat_charAt_v414_0 := by
  refine or_mk fun A ta ws vs hD hth hl => ?_
  intro t3 k3 t5 k5 t6 k6 f0 f1
  replace f0 := shm_47 f0
  replace f1 := shm_52 f1
  have nf0 : fc_1 PRD (23, [6], [110, 1]) ws (vs) := by
    refine ⟨nf_in hl rfl, sgq_53 ?_⟩
    · show 1 * v_iv (n_v vs 6) + 0 ≤ 110
      omega
  have nf1 : fc_1 PRD (23, [6], [-110, -1]) ws (vs) := by
    refine ⟨nf_in hl rfl, sgq_54 ?_⟩
    · show (-1) * v_iv (n_v vs 6) + 0 ≤ (-110)
      omega
  refine ⟨(fun _ h => (by cases h)), [], trivial, ?_, (fun _ h => (by cases h))⟩
  rw [List.append_nil]
  exact List.forall_mem_cons.mpr ⟨⟨show (23 : Nat) < 100 from by decide, nf0⟩, List.forall_mem_cons.mpr ⟨⟨show (23 : Nat) < 100 from by decide, nf1⟩, (fun _ h => (by cases h))⟩⟩
def n_jLat_charAt_v414_an : List an_T := []
def t_jLat_charAt_v414_ct : ct_L := [(12, 9, e_jStr_checkIndex_v415), (1000004, 0, en_ro [(2, 0, 0, [5206])] (0, 10, 10, [])), (1000005, 0, en_ro [(2, 0, 0, [5206]), (0, 0, 0, [])] (0, 110, 110, []))]
set_option maxRecDepth 100000 in
theorem c_jLat_charAt_v414 {l : Launch} {D : va_G} {kA : Nat → ClassId} : ct_ok PRD l D kA GG y_jLat_charAt z_jLat_charAt e_jLat_charAt_v414 := chk_all_ok (FT := []) (PT := []) (CT := t_jLat_charAt_v414_ct) (KT := []) (NT := []) (AN := n_jLat_charAt_v414_an) (OT := [o_jLat_charAt_v414_0]) 0 200 (List.forall_mem_cons.mpr ⟨oo_jLat_charAt_v414_0, List.forall_mem_nil _⟩) (by decide +kernel) ⟨List.forall_mem_nil _, List.forall_mem_nil _, List.forall_mem_cons.mpr ⟨cl_static (y := y_jStr_checkIndex) c_jStr_checkIndex_v415 wm_694 wm_11 wm_692 wm_693 ⟨by decide, by decide, by decide +kernel⟩ (by decide), List.forall_mem_cons.mpr ⟨cl_tlen (i := 6) (n := 10) rfl (by decide +kernel) (by decide +kernel) (by decide +kernel), List.forall_mem_cons.mpr ⟨cl_tbyte1 (i := 6) (n := 10) (k := 0) rfl (by decide +kernel) (by decide +kernel) (by decide) (by decide +kernel), List.forall_mem_nil _⟩⟩⟩, List.forall_mem_nil _, List.forall_mem_nil _, GG_pl⟩ (by decide +kernel)
def e_jLat_charAt_v418 : en_T := ([(2, 0, 0, [5206]), (0, 1, 1, [])], some (0, 0, 65535, []), true, 3, 0, 0, [], [], (0, [], [], [(23, [2], [111, 1]), (23, [2], [-111, -1])], []))
def o_jLat_charAt_v418_0 : or_T := (14, 7, [(3, (0, 111, 111, [])), (5, (0, 0, 111, [])), (6, (0, 0, 65535, []))], [(22, [6, 5], []), (12, [5, 3], [256])], [], [], [(23, [6], [111, 1]), (23, [6], [-111, -1])], [], [])
theorem oo_jLat_charAt_v418_0 {kA : Nat → ClassId} : or_ok PRD kA GG o_jLat_charAt_v418_0 := by
  refine or_mk fun A ta ws vs hD hth hl => ?_
  intro t3 k3 t5 k5 t6 k6 f0 f1
  replace f0 := shm_47 f0
  replace f1 := shm_52 f1
  have nf0 : fc_1 PRD (23, [6], [111, 1]) ws (vs) := by
    refine ⟨nf_in hl rfl, sgq_55 ?_⟩
    · show 1 * v_iv (n_v vs 6) + 0 ≤ 111
      omega
  have nf1 : fc_1 PRD (23, [6], [-111, -1]) ws (vs) := by
    refine ⟨nf_in hl rfl, sgq_56 ?_⟩
    · show (-1) * v_iv (n_v vs 6) + 0 ≤ (-111)
      omega
  refine ⟨(fun _ h => (by cases h)), [], trivial, ?_, (fun _ h => (by cases h))⟩
  rw [List.append_nil]
  exact List.forall_mem_cons.mpr ⟨⟨show (23 : Nat) < 100 from by decide, nf0⟩, List.forall_mem_cons.mpr ⟨⟨show (23 : Nat) < 100 from by decide, nf1⟩, (fun _ h => (by cases h))⟩⟩
def n_jLat_charAt_v418_an : List an_T := []
def t_jLat_charAt_v418_ct : ct_L := [(12, 9, e_jStr_checkIndex_v419), (1000004, 0, en_ro [(2, 0, 0, [5206])] (0, 10, 10, [])), (1000005, 0, en_ro [(2, 0, 0, [5206]), (0, 1, 1, [])] (0, 111, 111, []))]
set_option maxRecDepth 100000 in
theorem c_jLat_charAt_v418 {l : Launch} {D : va_G} {kA : Nat → ClassId} : ct_ok PRD l D kA GG y_jLat_charAt z_jLat_charAt e_jLat_charAt_v418 := chk_all_ok (FT := []) (PT := []) (CT := t_jLat_charAt_v418_ct) (KT := []) (NT := []) (AN := n_jLat_charAt_v418_an) (OT := [o_jLat_charAt_v418_0]) 0 200 (List.forall_mem_cons.mpr ⟨oo_jLat_charAt_v418_0, List.forall_mem_nil _⟩) (by decide +kernel) ⟨List.forall_mem_nil _, List.forall_mem_nil _, List.forall_mem_cons.mpr ⟨cl_static (y := y_jStr_checkIndex) c_jStr_checkIndex_v419 wm_694 wm_11 wm_692 wm_693 ⟨by decide, by decide, by decide +kernel⟩ (by decide), List.forall_mem_cons.mpr ⟨cl_tlen (i := 6) (n := 10) rfl (by decide +kernel) (by decide +kernel) (by decide +kernel), List.forall_mem_cons.mpr ⟨cl_tbyte1 (i := 6) (n := 10) (k := 1) rfl (by decide +kernel) (by decide +kernel) (by decide) (by decide +kernel), List.forall_mem_nil _⟩⟩⟩, List.forall_mem_nil _, List.forall_mem_nil _, GG_pl⟩ (by decide +kernel)
def e_jLat_charAt_v422 : en_T := ([(2, 0, 0, [5206]), (0, 2, 2, [])], some (0, 0, 65535, []), true, 3, 0, 0, [], [], (0, [], [], [(23, [2], [100, 1]), (23, [2], [-100, -1])], []))
def o_jLat_charAt_v422_0 : or_T := (14, 7, [(3, (0, 100, 100, [])), (5, (0, 0, 100, [])), (6, (0, 0, 65535, []))], [(22, [6, 5], []), (12, [5, 3], [256])], [], [], [(23, [6], [100, 1]), (23, [6], [-100, -1])], [], [])
theorem oo_jLat_charAt_v422_0 {kA : Nat → ClassId} : or_ok PRD kA GG o_jLat_charAt_v422_0 := by
  refine or_mk fun A ta ws vs hD hth hl => ?_
  intro t3 k3 t5 k5 t6 k6 f0 f1
  replace f0 := shm_47 f0
  replace f1 := shm_52 f1
  have nf0 : fc_1 PRD (23, [6], [100, 1]) ws (vs) := by
    refine ⟨nf_in hl rfl, sgq_57 ?_⟩
    · show 1 * v_iv (n_v vs 6) + 0 ≤ 100
      omega
  have nf1 : fc_1 PRD (23, [6], [-100, -1]) ws (vs) := by
    refine ⟨nf_in hl rfl, sgq_58 ?_⟩
    · show (-1) * v_iv (n_v vs 6) + 0 ≤ (-100)
      omega
  refine ⟨(fun _ h => (by cases h)), [], trivial, ?_, (fun _ h => (by cases h))⟩
  rw [List.append_nil]
  exact List.forall_mem_cons.mpr ⟨⟨show (23 : Nat) < 100 from by decide, nf0⟩, List.forall_mem_cons.mpr ⟨⟨show (23 : Nat) < 100 from by decide, nf1⟩, (fun _ h => (by cases h))⟩⟩
def n_jLat_charAt_v422_an : List an_T := []
def t_jLat_charAt_v422_ct : ct_L := [(12, 9, e_jStr_checkIndex_v423), (1000004, 0, en_ro [(2, 0, 0, [5206])] (0, 10, 10, [])), (1000005, 0, en_ro [(2, 0, 0, [5206]), (0, 2, 2, [])] (0, 100, 100, []))]
set_option maxRecDepth 100000 in
theorem c_jLat_charAt_v422 {l : Launch} {D : va_G} {kA : Nat → ClassId} : ct_ok PRD l D kA GG y_jLat_charAt z_jLat_charAt e_jLat_charAt_v422 := chk_all_ok (FT := []) (PT := []) (CT := t_jLat_charAt_v422_ct) (KT := []) (NT := []) (AN := n_jLat_charAt_v422_an) (OT := [o_jLat_charAt_v422_0]) 0 200 (List.forall_mem_cons.mpr ⟨oo_jLat_charAt_v422_0, List.forall_mem_nil _⟩) (by decide +kernel) ⟨List.forall_mem_nil _, List.forall_mem_nil _, List.forall_mem_cons.mpr ⟨cl_static (y := y_jStr_checkIndex) c_jStr_checkIndex_v423 wm_694 wm_11 wm_692 wm_693 ⟨by decide, by decide, by decide +kernel⟩ (by decide), List.forall_mem_cons.mpr ⟨cl_tlen (i := 6) (n := 10) rfl (by decide +kernel) (by decide +kernel) (by decide +kernel), List.forall_mem_cons.mpr ⟨cl_tbyte1 (i := 6) (n := 10) (k := 2) rfl (by decide +kernel) (by decide +kernel) (by decide) (by decide +kernel), List.forall_mem_nil _⟩⟩⟩, List.forall_mem_nil _, List.forall_mem_nil _, GG_pl⟩ (by decide +kernel)
def e_jLat_charAt_v426 : en_T := ([(2, 0, 0, [5206]), (0, 3, 3, [])], some (0, 0, 65535, []), true, 3, 0, 0, [], [], (0, [], [], [(23, [2], [101, 1]), (23, [2], [-101, -1])], []))
def o_jLat_charAt_v426_0 : or_T := (14, 7, [(3, (0, 101, 101, [])), (5, (0, 0, 101, [])), (6, (0, 0, 65535, []))], [(22, [6, 5], []), (12, [5, 3], [256])], [], [], [(23, [6], [101, 1]), (23, [6], [-101, -1])], [], [])
theorem oo_jLat_charAt_v426_0 {kA : Nat → ClassId} : or_ok PRD kA GG o_jLat_charAt_v426_0 := by
  refine or_mk fun A ta ws vs hD hth hl => ?_
  intro t3 k3 t5 k5 t6 k6 f0 f1
  replace f0 := shm_47 f0
  replace f1 := shm_52 f1
  have nf0 : fc_1 PRD (23, [6], [101, 1]) ws (vs) := by
    refine ⟨nf_in hl rfl, sgq_59 ?_⟩
    · show 1 * v_iv (n_v vs 6) + 0 ≤ 101
      omega
  have nf1 : fc_1 PRD (23, [6], [-101, -1]) ws (vs) := by
    refine ⟨nf_in hl rfl, sgq_60 ?_⟩
    · show (-1) * v_iv (n_v vs 6) + 0 ≤ (-101)
      omega
  refine ⟨(fun _ h => (by cases h)), [], trivial, ?_, (fun _ h => (by cases h))⟩
  rw [List.append_nil]
  exact List.forall_mem_cons.mpr ⟨⟨show (23 : Nat) < 100 from by decide, nf0⟩, List.forall_mem_cons.mpr ⟨⟨show (23 : Nat) < 100 from by decide, nf1⟩, (fun _ h => (by cases h))⟩⟩
def n_jLat_charAt_v426_an : List an_T := []
def t_jLat_charAt_v426_ct : ct_L := [(12, 9, e_jStr_checkIndex_v427), (1000004, 0, en_ro [(2, 0, 0, [5206])] (0, 10, 10, [])), (1000005, 0, en_ro [(2, 0, 0, [5206]), (0, 3, 3, [])] (0, 101, 101, []))]
set_option maxRecDepth 100000 in
theorem c_jLat_charAt_v426 {l : Launch} {D : va_G} {kA : Nat → ClassId} : ct_ok PRD l D kA GG y_jLat_charAt z_jLat_charAt e_jLat_charAt_v426 := chk_all_ok (FT := []) (PT := []) (CT := t_jLat_charAt_v426_ct) (KT := []) (NT := []) (AN := n_jLat_charAt_v426_an) (OT := [o_jLat_charAt_v426_0]) 0 200 (List.forall_mem_cons.mpr ⟨oo_jLat_charAt_v426_0, List.forall_mem_nil _⟩) (by decide +kernel) ⟨List.forall_mem_nil _, List.forall_mem_nil _, List.forall_mem_cons.mpr ⟨cl_static (y := y_jStr_checkIndex) c_jStr_checkIndex_v427 wm_694 wm_11 wm_692 wm_693 ⟨by decide, by decide, by decide +kernel⟩ (by decide), List.forall_mem_cons.mpr ⟨cl_tlen (i := 6) (n := 10) rfl (by decide +kernel) (by decide +kernel) (by decide +kernel), List.forall_mem_cons.mpr ⟨cl_tbyte1 (i := 6) (n := 10) (k := 3) rfl (by decide +kernel) (by decide +kernel) (by decide) (by decide +kernel), List.forall_mem_nil _⟩⟩⟩, List.forall_mem_nil _, List.forall_mem_nil _, GG_pl⟩ (by decide +kernel)
def e_jLat_charAt_v430 : en_T := ([(2, 0, 0, [5206]), (0, 4, 4, [])], some (0, 0, 65535, []), true, 3, 0, 0, [], [], (0, [], [], [(23, [2], [32, 1]), (23, [2], [-32, -1])], []))
def o_jLat_charAt_v430_0 : or_T := (14, 7, [(3, (0, 32, 32, [])), (5, (0, 0, 32, [])), (6, (0, 0, 65535, []))], [(22, [6, 5], []), (12, [5, 3], [256])], [], [], [(23, [6], [32, 1]), (23, [6], [-32, -1])], [], [])
theorem oo_jLat_charAt_v430_0 {kA : Nat → ClassId} : or_ok PRD kA GG o_jLat_charAt_v430_0 := by
  refine or_mk fun A ta ws vs hD hth hl => ?_
  intro t3 k3 t5 k5 t6 k6 f0 f1
  replace f0 := shm_47 f0
  replace f1 := shm_52 f1
  have nf0 : fc_1 PRD (23, [6], [32, 1]) ws (vs) := by
    refine ⟨nf_in hl rfl, sgq_81 ?_⟩
    · show 1 * v_iv (n_v vs 6) + 0 ≤ 32
      omega
  have nf1 : fc_1 PRD (23, [6], [-32, -1]) ws (vs) := by
    refine ⟨nf_in hl rfl, sgq_82 ?_⟩
    · show (-1) * v_iv (n_v vs 6) + 0 ≤ (-32)
      omega
  refine ⟨(fun _ h => (by cases h)), [], trivial, ?_, (fun _ h => (by cases h))⟩
  rw [List.append_nil]
  exact List.forall_mem_cons.mpr ⟨⟨show (23 : Nat) < 100 from by decide, nf0⟩, List.forall_mem_cons.mpr ⟨⟨show (23 : Nat) < 100 from by decide, nf1⟩, (fun _ h => (by cases h))⟩⟩
def n_jLat_charAt_v430_an : List an_T := []
def t_jLat_charAt_v430_ct : ct_L := [(12, 9, e_jStr_checkIndex_v431), (1000004, 0, en_ro [(2, 0, 0, [5206])] (0, 10, 10, [])), (1000005, 0, en_ro [(2, 0, 0, [5206]), (0, 4, 4, [])] (0, 32, 32, []))]
set_option maxRecDepth 100000 in
theorem c_jLat_charAt_v430 {l : Launch} {D : va_G} {kA : Nat → ClassId} : ct_ok PRD l D kA GG y_jLat_charAt z_jLat_charAt e_jLat_charAt_v430 := chk_all_ok (FT := []) (PT := []) (CT := t_jLat_charAt_v430_ct) (KT := []) (NT := []) (AN := n_jLat_charAt_v430_an) (OT := [o_jLat_charAt_v430_0]) 0 200 (List.forall_mem_cons.mpr ⟨oo_jLat_charAt_v430_0, List.forall_mem_nil _⟩) (by decide +kernel) ⟨List.forall_mem_nil _, List.forall_mem_nil _, List.forall_mem_cons.mpr ⟨cl_static (y := y_jStr_checkIndex) c_jStr_checkIndex_v431 wm_694 wm_11 wm_692 wm_693 ⟨by decide, by decide, by decide +kernel⟩ (by decide), List.forall_mem_cons.mpr ⟨cl_tlen (i := 6) (n := 10) rfl (by decide +kernel) (by decide +kernel) (by decide +kernel), List.forall_mem_cons.mpr ⟨cl_tbyte1 (i := 6) (n := 10) (k := 4) rfl (by decide +kernel) (by decide +kernel) (by decide) (by decide +kernel), List.forall_mem_nil _⟩⟩⟩, List.forall_mem_nil _, List.forall_mem_nil _, GG_pl⟩ (by decide +kernel)
def e_jLat_charAt_v434 : en_T := ([(2, 0, 0, [5206]), (0, 5, 5, [])], some (0, 0, 65535, []), true, 3, 0, 0, [], [], (0, [], [], [(23, [2], [101, 1]), (23, [2], [-101, -1])], []))
def o_jLat_charAt_v434_0 : or_T := (14, 7, [(3, (0, 101, 101, [])), (5, (0, 0, 101, [])), (6, (0, 0, 65535, []))], [(22, [6, 5], []), (12, [5, 3], [256])], [], [], [(23, [6], [101, 1]), (23, [6], [-101, -1])], [], [])
theorem oo_jLat_charAt_v434_0 {kA : Nat → ClassId} : or_ok PRD kA GG o_jLat_charAt_v434_0 := by
  refine or_mk fun A ta ws vs hD hth hl => ?_
  intro t3 k3 t5 k5 t6 k6 f0 f1
  replace f0 := shm_47 f0
  replace f1 := shm_52 f1
  have nf0 : fc_1 PRD (23, [6], [101, 1]) ws (vs) := by
    refine ⟨nf_in hl rfl, sgq_59 ?_⟩
    · show 1 * v_iv (n_v vs 6) + 0 ≤ 101
      omega
  have nf1 : fc_1 PRD (23, [6], [-101, -1]) ws (vs) := by
    refine ⟨nf_in hl rfl, sgq_60 ?_⟩
    · show (-1) * v_iv (n_v vs 6) + 0 ≤ (-101)
      omega
  refine ⟨(fun _ h => (by cases h)), [], trivial, ?_, (fun _ h => (by cases h))⟩
  rw [List.append_nil]
  exact List.forall_mem_cons.mpr ⟨⟨show (23 : Nat) < 100 from by decide, nf0⟩, List.forall_mem_cons.mpr ⟨⟨show (23 : Nat) < 100 from by decide, nf1⟩, (fun _ h => (by cases h))⟩⟩
def n_jLat_charAt_v434_an : List an_T := []
def t_jLat_charAt_v434_ct : ct_L := [(12, 9, e_jStr_checkIndex_v435), (1000004, 0, en_ro [(2, 0, 0, [5206])] (0, 10, 10, [])), (1000005, 0, en_ro [(2, 0, 0, [5206]), (0, 5, 5, [])] (0, 101, 101, []))]
set_option maxRecDepth 100000 in
theorem c_jLat_charAt_v434 {l : Launch} {D : va_G} {kA : Nat → ClassId} : ct_ok PRD l D kA GG y_jLat_charAt z_jLat_charAt e_jLat_charAt_v434 := chk_all_ok (FT := []) (PT := []) (CT := t_jLat_charAt_v434_ct) (KT := []) (NT := []) (AN := n_jLat_charAt_v434_an) (OT := [o_jLat_charAt_v434_0]) 0 200 (List.forall_mem_cons.mpr ⟨oo_jLat_charAt_v434_0, List.forall_mem_nil _⟩) (by decide +kernel) ⟨List.forall_mem_nil _, List.forall_mem_nil _, List.forall_mem_cons.mpr ⟨cl_static (y := y_jStr_checkIndex) c_jStr_checkIndex_v435 wm_694 wm_11 wm_692 wm_693 ⟨by decide, by decide, by decide +kernel⟩ (by decide), List.forall_mem_cons.mpr ⟨cl_tlen (i := 6) (n := 10) rfl (by decide +kernel) (by decide +kernel) (by decide +kernel), List.forall_mem_cons.mpr ⟨cl_tbyte1 (i := 6) (n := 10) (k := 5) rfl (by decide +kernel) (by decide +kernel) (by decide) (by decide +kernel), List.forall_mem_nil _⟩⟩⟩, List.forall_mem_nil _, List.forall_mem_nil _, GG_pl⟩ (by decide +kernel)
def e_jLat_charAt_v438 : en_T := ([(2, 0, 0, [5206]), (0, 6, 6, [])], some (0, 0, 65535, []), true, 3, 0, 0, [], [], (0, [], [], [(23, [2], [100, 1]), (23, [2], [-100, -1])], []))
def o_jLat_charAt_v438_0 : or_T := (14, 7, [(3, (0, 100, 100, [])), (5, (0, 0, 100, [])), (6, (0, 0, 65535, []))], [(22, [6, 5], []), (12, [5, 3], [256])], [], [], [(23, [6], [100, 1]), (23, [6], [-100, -1])], [], [])
theorem oo_jLat_charAt_v438_0 {kA : Nat → ClassId} : or_ok PRD kA GG o_jLat_charAt_v438_0 := by
  refine or_mk fun A ta ws vs hD hth hl => ?_
  intro t3 k3 t5 k5 t6 k6 f0 f1
  replace f0 := shm_47 f0
  replace f1 := shm_52 f1
  have nf0 : fc_1 PRD (23, [6], [100, 1]) ws (vs) := by
    refine ⟨nf_in hl rfl, sgq_57 ?_⟩
    · show 1 * v_iv (n_v vs 6) + 0 ≤ 100
      omega
  have nf1 : fc_1 PRD (23, [6], [-100, -1]) ws (vs) := by
    refine ⟨nf_in hl rfl, sgq_58 ?_⟩
    · show (-1) * v_iv (n_v vs 6) + 0 ≤ (-100)
      omega
  refine ⟨(fun _ h => (by cases h)), [], trivial, ?_, (fun _ h => (by cases h))⟩
  rw [List.append_nil]
  exact List.forall_mem_cons.mpr ⟨⟨show (23 : Nat) < 100 from by decide, nf0⟩, List.forall_mem_cons.mpr ⟨⟨show (23 : Nat) < 100 from by decide, nf1⟩, (fun _ h => (by cases h))⟩⟩
def n_jLat_charAt_v438_an : List an_T := []
def t_jLat_charAt_v438_ct : ct_L := [(12, 9, e_jStr_checkIndex_v439), (1000004, 0, en_ro [(2, 0, 0, [5206])] (0, 10, 10, [])), (1000005, 0, en_ro [(2, 0, 0, [5206]), (0, 6, 6, [])] (0, 100, 100, []))]
set_option maxRecDepth 100000 in
theorem c_jLat_charAt_v438 {l : Launch} {D : va_G} {kA : Nat → ClassId} : ct_ok PRD l D kA GG y_jLat_charAt z_jLat_charAt e_jLat_charAt_v438 := chk_all_ok (FT := []) (PT := []) (CT := t_jLat_charAt_v438_ct) (KT := []) (NT := []) (AN := n_jLat_charAt_v438_an) (OT := [o_jLat_charAt_v438_0]) 0 200 (List.forall_mem_cons.mpr ⟨oo_jLat_charAt_v438_0, List.forall_mem_nil _⟩) (by decide +kernel) ⟨List.forall_mem_nil _, List.forall_mem_nil _, List.forall_mem_cons.mpr ⟨cl_static (y := y_jStr_checkIndex) c_jStr_checkIndex_v439 wm_694 wm_11 wm_692 wm_693 ⟨by decide, by decide, by decide +kernel⟩ (by decide), List.forall_mem_cons.mpr ⟨cl_tlen (i := 6) (n := 10) rfl (by decide +kernel) (by decide +kernel) (by decide +kernel), List.forall_mem_cons.mpr ⟨cl_tbyte1 (i := 6) (n := 10) (k := 6) rfl (by decide +kernel) (by decide +kernel) (by decide) (by decide +kernel), List.forall_mem_nil _⟩⟩⟩, List.forall_mem_nil _, List.forall_mem_nil _, GG_pl⟩ (by decide +kernel)
def e_jLat_charAt_v442 : en_T := ([(2, 0, 0, [5206]), (0, 7, 7, [])], some (0, 0, 65535, []), true, 3, 0, 0, [], [], (0, [], [], [(23, [2], [103, 1]), (23, [2], [-103, -1])], []))
def o_jLat_charAt_v442_0 : or_T := (14, 7, [(3, (0, 103, 103, [])), (5, (0, 0, 103, [])), (6, (0, 0, 65535, []))], [(22, [6, 5], []), (12, [5, 3], [256])], [], [], [(23, [6], [103, 1]), (23, [6], [-103, -1])], [], [])
theorem oo_jLat_charAt_v442_0 {kA : Nat → ClassId} : or_ok PRD kA GG o_jLat_charAt_v442_0 := by
  refine or_mk fun A ta ws vs hD hth hl => ?_
  intro t3 k3 t5 k5 t6 k6 f0 f1
  replace f0 := shm_47 f0
  replace f1 := shm_52 f1
  have nf0 : fc_1 PRD (23, [6], [103, 1]) ws (vs) := by
    refine ⟨nf_in hl rfl, sgq_61 ?_⟩
    · show 1 * v_iv (n_v vs 6) + 0 ≤ 103
      omega
  have nf1 : fc_1 PRD (23, [6], [-103, -1]) ws (vs) := by
    refine ⟨nf_in hl rfl, sgq_62 ?_⟩
    · show (-1) * v_iv (n_v vs 6) + 0 ≤ (-103)
      omega
  refine ⟨(fun _ h => (by cases h)), [], trivial, ?_, (fun _ h => (by cases h))⟩
  rw [List.append_nil]
  exact List.forall_mem_cons.mpr ⟨⟨show (23 : Nat) < 100 from by decide, nf0⟩, List.forall_mem_cons.mpr ⟨⟨show (23 : Nat) < 100 from by decide, nf1⟩, (fun _ h => (by cases h))⟩⟩
def n_jLat_charAt_v442_an : List an_T := []
def t_jLat_charAt_v442_ct : ct_L := [(12, 9, e_jStr_checkIndex_v443), (1000004, 0, en_ro [(2, 0, 0, [5206])] (0, 10, 10, [])), (1000005, 0, en_ro [(2, 0, 0, [5206]), (0, 7, 7, [])] (0, 103, 103, []))]
set_option maxRecDepth 100000 in
theorem c_jLat_charAt_v442 {l : Launch} {D : va_G} {kA : Nat → ClassId} : ct_ok PRD l D kA GG y_jLat_charAt z_jLat_charAt e_jLat_charAt_v442 := chk_all_ok (FT := []) (PT := []) (CT := t_jLat_charAt_v442_ct) (KT := []) (NT := []) (AN := n_jLat_charAt_v442_an) (OT := [o_jLat_charAt_v442_0]) 0 200 (List.forall_mem_cons.mpr ⟨oo_jLat_charAt_v442_0, List.forall_mem_nil _⟩) (by decide +kernel) ⟨List.forall_mem_nil _, List.forall_mem_nil _, List.forall_mem_cons.mpr ⟨cl_static (y := y_jStr_checkIndex) c_jStr_checkIndex_v443 wm_694 wm_11 wm_692 wm_693 ⟨by decide, by decide, by decide +kernel⟩ (by decide), List.forall_mem_cons.mpr ⟨cl_tlen (i := 6) (n := 10) rfl (by decide +kernel) (by decide +kernel) (by decide +kernel), List.forall_mem_cons.mpr ⟨cl_tbyte1 (i := 6) (n := 10) (k := 7) rfl (by decide +kernel) (by decide +kernel) (by decide) (by decide +kernel), List.forall_mem_nil _⟩⟩⟩, List.forall_mem_nil _, List.forall_mem_nil _, GG_pl⟩ (by decide +kernel)
def e_jLat_charAt_v446 : en_T := ([(2, 0, 0, [5206]), (0, 8, 8, [])], some (0, 0, 65535, []), true, 3, 0, 0, [], [], (0, [], [], [(23, [2], [101, 1]), (23, [2], [-101, -1])], []))
def o_jLat_charAt_v446_0 : or_T := (14, 7, [(3, (0, 101, 101, [])), (5, (0, 0, 101, [])), (6, (0, 0, 65535, []))], [(22, [6, 5], []), (12, [5, 3], [256])], [], [], [(23, [6], [101, 1]), (23, [6], [-101, -1])], [], [])
theorem oo_jLat_charAt_v446_0 {kA : Nat → ClassId} : or_ok PRD kA GG o_jLat_charAt_v446_0 := by
  refine or_mk fun A ta ws vs hD hth hl => ?_
  intro t3 k3 t5 k5 t6 k6 f0 f1
  replace f0 := shm_47 f0
  replace f1 := shm_52 f1
  have nf0 : fc_1 PRD (23, [6], [101, 1]) ws (vs) := by
    refine ⟨nf_in hl rfl, sgq_59 ?_⟩
    · show 1 * v_iv (n_v vs 6) + 0 ≤ 101
      omega
  have nf1 : fc_1 PRD (23, [6], [-101, -1]) ws (vs) := by
    refine ⟨nf_in hl rfl, sgq_60 ?_⟩
    · show (-1) * v_iv (n_v vs 6) + 0 ≤ (-101)
      omega
  refine ⟨(fun _ h => (by cases h)), [], trivial, ?_, (fun _ h => (by cases h))⟩
  rw [List.append_nil]
  exact List.forall_mem_cons.mpr ⟨⟨show (23 : Nat) < 100 from by decide, nf0⟩, List.forall_mem_cons.mpr ⟨⟨show (23 : Nat) < 100 from by decide, nf1⟩, (fun _ h => (by cases h))⟩⟩
def n_jLat_charAt_v446_an : List an_T := []
def t_jLat_charAt_v446_ct : ct_L := [(12, 9, e_jStr_checkIndex_v447), (1000004, 0, en_ro [(2, 0, 0, [5206])] (0, 10, 10, [])), (1000005, 0, en_ro [(2, 0, 0, [5206]), (0, 8, 8, [])] (0, 101, 101, []))]
set_option maxRecDepth 100000 in
theorem c_jLat_charAt_v446 {l : Launch} {D : va_G} {kA : Nat → ClassId} : ct_ok PRD l D kA GG y_jLat_charAt z_jLat_charAt e_jLat_charAt_v446 := chk_all_ok (FT := []) (PT := []) (CT := t_jLat_charAt_v446_ct) (KT := []) (NT := []) (AN := n_jLat_charAt_v446_an) (OT := [o_jLat_charAt_v446_0]) 0 200 (List.forall_mem_cons.mpr ⟨oo_jLat_charAt_v446_0, List.forall_mem_nil _⟩) (by decide +kernel) ⟨List.forall_mem_nil _, List.forall_mem_nil _, List.forall_mem_cons.mpr ⟨cl_static (y := y_jStr_checkIndex) c_jStr_checkIndex_v447 wm_694 wm_11 wm_692 wm_693 ⟨by decide, by decide, by decide +kernel⟩ (by decide), List.forall_mem_cons.mpr ⟨cl_tlen (i := 6) (n := 10) rfl (by decide +kernel) (by decide +kernel) (by decide +kernel), List.forall_mem_cons.mpr ⟨cl_tbyte1 (i := 6) (n := 10) (k := 8) rfl (by decide +kernel) (by decide +kernel) (by decide) (by decide +kernel), List.forall_mem_nil _⟩⟩⟩, List.forall_mem_nil _, List.forall_mem_nil _, GG_pl⟩ (by decide +kernel)
def e_jLat_charAt_v450 : en_T := ([(2, 0, 0, [5206]), (0, 9, 9, [])], some (0, 0, 65535, []), true, 3, 0, 0, [], [], (0, [], [], [(23, [2], [32, 1]), (23, [2], [-32, -1])], []))
def o_jLat_charAt_v450_0 : or_T := (14, 7, [(3, (0, 32, 32, [])), (5, (0, 0, 32, [])), (6, (0, 0, 65535, []))], [(22, [6, 5], []), (12, [5, 3], [256])], [], [], [(23, [6], [32, 1]), (23, [6], [-32, -1])], [], [])
theorem oo_jLat_charAt_v450_0 {kA : Nat → ClassId} : or_ok PRD kA GG o_jLat_charAt_v450_0 := by
  refine or_mk fun A ta ws vs hD hth hl => ?_
  intro t3 k3 t5 k5 t6 k6 f0 f1
  replace f0 := shm_47 f0
  replace f1 := shm_52 f1
  have nf0 : fc_1 PRD (23, [6], [32, 1]) ws (vs) := by
    refine ⟨nf_in hl rfl, sgq_81 ?_⟩
    · show 1 * v_iv (n_v vs 6) + 0 ≤ 32
      omega
  have nf1 : fc_1 PRD (23, [6], [-32, -1]) ws (vs) := by
    refine ⟨nf_in hl rfl, sgq_82 ?_⟩
    · show (-1) * v_iv (n_v vs 6) + 0 ≤ (-32)
      omega
  refine ⟨(fun _ h => (by cases h)), [], trivial, ?_, (fun _ h => (by cases h))⟩
  rw [List.append_nil]
  exact List.forall_mem_cons.mpr ⟨⟨show (23 : Nat) < 100 from by decide, nf0⟩, List.forall_mem_cons.mpr ⟨⟨show (23 : Nat) < 100 from by decide, nf1⟩, (fun _ h => (by cases h))⟩⟩
def n_jLat_charAt_v450_an : List an_T := []
def t_jLat_charAt_v450_ct : ct_L := [(12, 9, e_jStr_checkIndex_v451), (1000004, 0, en_ro [(2, 0, 0, [5206])] (0, 10, 10, [])), (1000005, 0, en_ro [(2, 0, 0, [5206]), (0, 9, 9, [])] (0, 32, 32, []))]
set_option maxRecDepth 100000 in
theorem c_jLat_charAt_v450 {l : Launch} {D : va_G} {kA : Nat → ClassId} : ct_ok PRD l D kA GG y_jLat_charAt z_jLat_charAt e_jLat_charAt_v450 := chk_all_ok (FT := []) (PT := []) (CT := t_jLat_charAt_v450_ct) (KT := []) (NT := []) (AN := n_jLat_charAt_v450_an) (OT := [o_jLat_charAt_v450_0]) 0 200 (List.forall_mem_cons.mpr ⟨oo_jLat_charAt_v450_0, List.forall_mem_nil _⟩) (by decide +kernel) ⟨List.forall_mem_nil _, List.forall_mem_nil _, List.forall_mem_cons.mpr ⟨cl_static (y := y_jStr_checkIndex) c_jStr_checkIndex_v451 wm_694 wm_11 wm_692 wm_693 ⟨by decide, by decide, by decide +kernel⟩ (by decide), List.forall_mem_cons.mpr ⟨cl_tlen (i := 6) (n := 10) rfl (by decide +kernel) (by decide +kernel) (by decide +kernel), List.forall_mem_cons.mpr ⟨cl_tbyte1 (i := 6) (n := 10) (k := 9) rfl (by decide +kernel) (by decide +kernel) (by decide) (by decide +kernel), List.forall_mem_nil _⟩⟩⟩, List.forall_mem_nil _, List.forall_mem_nil _, GG_pl⟩ (by decide +kernel)
def e_jLat_charAt_v456 : en_T := ([(2, 0, 0, [5208]), (0, 0, 0, [])], some (0, 0, 65535, []), true, 3, 0, 0, [], [], (0, [], [], [(23, [2], [105, 1]), (23, [2], [-105, -1])], []))
def o_jLat_charAt_v456_0 : or_T := (14, 7, [(3, (0, 105, 105, [])), (5, (0, 0, 105, [])), (6, (0, 0, 65535, []))], [(22, [6, 5], []), (12, [5, 3], [256])], [], [], [(23, [6], [105, 1]), (23, [6], [-105, -1])], [], [])
theorem oo_jLat_charAt_v456_0 {kA : Nat → ClassId} : or_ok PRD kA GG o_jLat_charAt_v456_0 := by
  refine or_mk fun A ta ws vs hD hth hl => ?_
  intro t3 k3 t5 k5 t6 k6 f0 f1
  replace f0 := shm_47 f0
  replace f1 := shm_52 f1
  have nf0 : fc_1 PRD (23, [6], [105, 1]) ws (vs) := by
    refine ⟨nf_in hl rfl, sgq_71 ?_⟩
    · show 1 * v_iv (n_v vs 6) + 0 ≤ 105
      omega
  have nf1 : fc_1 PRD (23, [6], [-105, -1]) ws (vs) := by
    refine ⟨nf_in hl rfl, sgq_72 ?_⟩
    · show (-1) * v_iv (n_v vs 6) + 0 ≤ (-105)
      omega
  refine ⟨(fun _ h => (by cases h)), [], trivial, ?_, (fun _ h => (by cases h))⟩
  rw [List.append_nil]
  exact List.forall_mem_cons.mpr ⟨⟨show (23 : Nat) < 100 from by decide, nf0⟩, List.forall_mem_cons.mpr ⟨⟨show (23 : Nat) < 100 from by decide, nf1⟩, (fun _ h => (by cases h))⟩⟩
def n_jLat_charAt_v456_an : List an_T := []
def t_jLat_charAt_v456_ct : ct_L := [(12, 9, e_jStr_checkIndex_v457), (1000004, 0, en_ro [(2, 0, 0, [5208])] (0, 3, 3, [])), (1000005, 0, en_ro [(2, 0, 0, [5208]), (0, 0, 0, [])] (0, 105, 105, []))]
set_option maxRecDepth 100000 in
theorem c_jLat_charAt_v456 {l : Launch} {D : va_G} {kA : Nat → ClassId} : ct_ok PRD l D kA GG y_jLat_charAt z_jLat_charAt e_jLat_charAt_v456 := chk_all_ok (FT := []) (PT := []) (CT := t_jLat_charAt_v456_ct) (KT := []) (NT := []) (AN := n_jLat_charAt_v456_an) (OT := [o_jLat_charAt_v456_0]) 0 200 (List.forall_mem_cons.mpr ⟨oo_jLat_charAt_v456_0, List.forall_mem_nil _⟩) (by decide +kernel) ⟨List.forall_mem_nil _, List.forall_mem_nil _, List.forall_mem_cons.mpr ⟨cl_static (y := y_jStr_checkIndex) c_jStr_checkIndex_v457 wm_694 wm_11 wm_692 wm_693 ⟨by decide, by decide, by decide +kernel⟩ (by decide), List.forall_mem_cons.mpr ⟨cl_tlen (i := 8) (n := 3) rfl (by decide +kernel) (by decide +kernel) (by decide +kernel), List.forall_mem_cons.mpr ⟨cl_tbyte1 (i := 8) (n := 3) (k := 0) rfl (by decide +kernel) (by decide +kernel) (by decide) (by decide +kernel), List.forall_mem_nil _⟩⟩⟩, List.forall_mem_nil _, List.forall_mem_nil _, GG_pl⟩ (by decide +kernel)
def e_jLat_charAt_v460 : en_T := ([(2, 0, 0, [5208]), (0, 1, 1, [])], some (0, 0, 65535, []), true, 3, 0, 0, [], [], (0, [], [], [(23, [2], [102, 1]), (23, [2], [-102, -1])], []))
def o_jLat_charAt_v460_0 : or_T := (14, 7, [(3, (0, 102, 102, [])), (5, (0, 0, 102, [])), (6, (0, 0, 65535, []))], [(22, [6, 5], []), (12, [5, 3], [256])], [], [], [(23, [6], [102, 1]), (23, [6], [-102, -1])], [], [])
theorem oo_jLat_charAt_v460_0 {kA : Nat → ClassId} : or_ok PRD kA GG o_jLat_charAt_v460_0 := by
  refine or_mk fun A ta ws vs hD hth hl => ?_
  intro t3 k3 t5 k5 t6 k6 f0 f1
  replace f0 := shm_47 f0
  replace f1 := shm_52 f1
  have nf0 : fc_1 PRD (23, [6], [102, 1]) ws (vs) := by
    refine ⟨nf_in hl rfl, sgq_83 ?_⟩
    · show 1 * v_iv (n_v vs 6) + 0 ≤ 102
      omega
  have nf1 : fc_1 PRD (23, [6], [-102, -1]) ws (vs) := by
    refine ⟨nf_in hl rfl, sgq_84 ?_⟩
    · show (-1) * v_iv (n_v vs 6) + 0 ≤ (-102)
      omega
  refine ⟨(fun _ h => (by cases h)), [], trivial, ?_, (fun _ h => (by cases h))⟩
  rw [List.append_nil]
  exact List.forall_mem_cons.mpr ⟨⟨show (23 : Nat) < 100 from by decide, nf0⟩, List.forall_mem_cons.mpr ⟨⟨show (23 : Nat) < 100 from by decide, nf1⟩, (fun _ h => (by cases h))⟩⟩
def n_jLat_charAt_v460_an : List an_T := []
def t_jLat_charAt_v460_ct : ct_L := [(12, 9, e_jStr_checkIndex_v461), (1000004, 0, en_ro [(2, 0, 0, [5208])] (0, 3, 3, [])), (1000005, 0, en_ro [(2, 0, 0, [5208]), (0, 1, 1, [])] (0, 102, 102, []))]
set_option maxRecDepth 100000 in
theorem c_jLat_charAt_v460 {l : Launch} {D : va_G} {kA : Nat → ClassId} : ct_ok PRD l D kA GG y_jLat_charAt z_jLat_charAt e_jLat_charAt_v460 := chk_all_ok (FT := []) (PT := []) (CT := t_jLat_charAt_v460_ct) (KT := []) (NT := []) (AN := n_jLat_charAt_v460_an) (OT := [o_jLat_charAt_v460_0]) 0 200 (List.forall_mem_cons.mpr ⟨oo_jLat_charAt_v460_0, List.forall_mem_nil _⟩) (by decide +kernel) ⟨List.forall_mem_nil _, List.forall_mem_nil _, List.forall_mem_cons.mpr ⟨cl_static (y := y_jStr_checkIndex) c_jStr_checkIndex_v461 wm_694 wm_11 wm_692 wm_693 ⟨by decide, by decide, by decide +kernel⟩ (by decide), List.forall_mem_cons.mpr ⟨cl_tlen (i := 8) (n := 3) rfl (by decide +kernel) (by decide +kernel) (by decide +kernel), List.forall_mem_cons.mpr ⟨cl_tbyte1 (i := 8) (n := 3) (k := 1) rfl (by decide +kernel) (by decide +kernel) (by decide) (by decide +kernel), List.forall_mem_nil _⟩⟩⟩, List.forall_mem_nil _, List.forall_mem_nil _, GG_pl⟩ (by decide +kernel)
def e_jLat_charAt_v464 : en_T := ([(2, 0, 0, [5208]), (0, 2, 2, [])], some (0, 0, 65535, []), true, 3, 0, 0, [], [], (0, [], [], [(23, [2], [32, 1]), (23, [2], [-32, -1])], []))
def o_jLat_charAt_v464_0 : or_T := (14, 7, [(3, (0, 32, 32, [])), (5, (0, 0, 32, [])), (6, (0, 0, 65535, []))], [(22, [6, 5], []), (12, [5, 3], [256])], [], [], [(23, [6], [32, 1]), (23, [6], [-32, -1])], [], [])
theorem oo_jLat_charAt_v464_0 {kA : Nat → ClassId} : or_ok PRD kA GG o_jLat_charAt_v464_0 := by
  refine or_mk fun A ta ws vs hD hth hl => ?_
  intro t3 k3 t5 k5 t6 k6 f0 f1
  replace f0 := shm_47 f0
  replace f1 := shm_52 f1
  have nf0 : fc_1 PRD (23, [6], [32, 1]) ws (vs) := by
    refine ⟨nf_in hl rfl, sgq_81 ?_⟩
    · show 1 * v_iv (n_v vs 6) + 0 ≤ 32
      omega
  have nf1 : fc_1 PRD (23, [6], [-32, -1]) ws (vs) := by
    refine ⟨nf_in hl rfl, sgq_82 ?_⟩
    · show (-1) * v_iv (n_v vs 6) + 0 ≤ (-32)
      omega
  refine ⟨(fun _ h => (by cases h)), [], trivial, ?_, (fun _ h => (by cases h))⟩
  rw [List.append_nil]
  exact List.forall_mem_cons.mpr ⟨⟨show (23 : Nat) < 100 from by decide, nf0⟩, List.forall_mem_cons.mpr ⟨⟨show (23 : Nat) < 100 from by decide, nf1⟩, (fun _ h => (by cases h))⟩⟩
def n_jLat_charAt_v464_an : List an_T := []
def t_jLat_charAt_v464_ct : ct_L := [(12, 9, e_jStr_checkIndex_v465), (1000004, 0, en_ro [(2, 0, 0, [5208])] (0, 3, 3, [])), (1000005, 0, en_ro [(2, 0, 0, [5208]), (0, 2, 2, [])] (0, 32, 32, []))]
set_option maxRecDepth 100000 in
theorem c_jLat_charAt_v464 {l : Launch} {D : va_G} {kA : Nat → ClassId} : ct_ok PRD l D kA GG y_jLat_charAt z_jLat_charAt e_jLat_charAt_v464 := chk_all_ok (FT := []) (PT := []) (CT := t_jLat_charAt_v464_ct) (KT := []) (NT := []) (AN := n_jLat_charAt_v464_an) (OT := [o_jLat_charAt_v464_0]) 0 200 (List.forall_mem_cons.mpr ⟨oo_jLat_charAt_v464_0, List.forall_mem_nil _⟩) (by decide +kernel) ⟨List.forall_mem_nil _, List.forall_mem_nil _, List.forall_mem_cons.mpr ⟨cl_static (y := y_jStr_checkIndex) c_jStr_checkIndex_v465 wm_694 wm_11 wm_692 wm_693 ⟨by decide, by decide, by decide +kernel⟩ (by decide), List.forall_mem_cons.mpr ⟨cl_tlen (i := 8) (n := 3) rfl (by decide +kernel) (by decide +kernel) (by decide +kernel), List.forall_mem_cons.mpr ⟨cl_tbyte1 (i := 8) (n := 3) (k := 2) rfl (by decide +kernel) (by decide +kernel) (by decide) (by decide +kernel), List.forall_mem_nil _⟩⟩⟩, List.forall_mem_nil _, List.forall_mem_nil _, GG_pl⟩ (by decide +kernel)
def e_jLat_charAt_v469 : en_T := ([(2, 0, 0, [5209]), (0, 0, 0, [])], some (0, 0, 65535, []), true, 3, 0, 0, [], [], (0, [], [], [(23, [2], [110, 1]), (23, [2], [-110, -1])], []))
def o_jLat_charAt_v469_0 : or_T := (14, 7, [(3, (0, 110, 110, [])), (5, (0, 0, 110, [])), (6, (0, 0, 65535, []))], [(22, [6, 5], []), (12, [5, 3], [256])], [], [], [(23, [6], [110, 1]), (23, [6], [-110, -1])], [], [])
theorem oo_jLat_charAt_v469_0 {kA : Nat → ClassId} : or_ok PRD kA GG o_jLat_charAt_v469_0 := by
  refine or_mk fun A ta ws vs hD hth hl => ?_
  intro t3 k3 t5 k5 t6 k6 f0 f1
  replace f0 := shm_47 f0
  replace f1 := shm_52 f1
  have nf0 : fc_1 PRD (23, [6], [110, 1]) ws (vs) := by
    refine ⟨nf_in hl rfl, sgq_53 ?_⟩
    · show 1 * v_iv (n_v vs 6) + 0 ≤ 110
      omega
  have nf1 : fc_1 PRD (23, [6], [-110, -1]) ws (vs) := by
    refine ⟨nf_in hl rfl, sgq_54 ?_⟩
    · show (-1) * v_iv (n_v vs 6) + 0 ≤ (-110)
      omega
  refine ⟨(fun _ h => (by cases h)), [], trivial, ?_, (fun _ h => (by cases h))⟩
  rw [List.append_nil]
  exact List.forall_mem_cons.mpr ⟨⟨show (23 : Nat) < 100 from by decide, nf0⟩, List.forall_mem_cons.mpr ⟨⟨show (23 : Nat) < 100 from by decide, nf1⟩, (fun _ h => (by cases h))⟩⟩
def n_jLat_charAt_v469_an : List an_T := []
def t_jLat_charAt_v469_ct : ct_L := [(12, 9, e_jStr_checkIndex_v292), (1000004, 0, en_ro [(2, 0, 0, [5209])] (0, 4, 4, [])), (1000005, 0, en_ro [(2, 0, 0, [5209]), (0, 0, 0, [])] (0, 110, 110, []))]
set_option maxRecDepth 100000 in
theorem c_jLat_charAt_v469 {l : Launch} {D : va_G} {kA : Nat → ClassId} : ct_ok PRD l D kA GG y_jLat_charAt z_jLat_charAt e_jLat_charAt_v469 := chk_all_ok (FT := []) (PT := []) (CT := t_jLat_charAt_v469_ct) (KT := []) (NT := []) (AN := n_jLat_charAt_v469_an) (OT := [o_jLat_charAt_v469_0]) 0 200 (List.forall_mem_cons.mpr ⟨oo_jLat_charAt_v469_0, List.forall_mem_nil _⟩) (by decide +kernel) ⟨List.forall_mem_nil _, List.forall_mem_nil _, List.forall_mem_cons.mpr ⟨cl_static (y := y_jStr_checkIndex) c_jStr_checkIndex_v292 wm_694 wm_11 wm_692 wm_693 ⟨by decide, by decide, by decide +kernel⟩ (by decide), List.forall_mem_cons.mpr ⟨cl_tlen (i := 9) (n := 4) rfl (by decide +kernel) (by decide +kernel) (by decide +kernel), List.forall_mem_cons.mpr ⟨cl_tbyte1 (i := 9) (n := 4) (k := 0) rfl (by decide +kernel) (by decide +kernel) (by decide) (by decide +kernel), List.forall_mem_nil _⟩⟩⟩, List.forall_mem_nil _, List.forall_mem_nil _, GG_pl⟩ (by decide +kernel)
def e_jLat_charAt_v471 : en_T := ([(2, 0, 0, [5209]), (0, 1, 1, [])], some (0, 0, 65535, []), true, 3, 0, 0, [], [], (0, [], [], [(23, [2], [111, 1]), (23, [2], [-111, -1])], []))
def o_jLat_charAt_v471_0 : or_T := (14, 7, [(3, (0, 111, 111, [])), (5, (0, 0, 111, [])), (6, (0, 0, 65535, []))], [(22, [6, 5], []), (12, [5, 3], [256])], [], [], [(23, [6], [111, 1]), (23, [6], [-111, -1])], [], [])
theorem oo_jLat_charAt_v471_0 {kA : Nat → ClassId} : or_ok PRD kA GG o_jLat_charAt_v471_0 := by
  refine or_mk fun A ta ws vs hD hth hl => ?_
  intro t3 k3 t5 k5 t6 k6 f0 f1
  replace f0 := shm_47 f0
  replace f1 := shm_52 f1
  have nf0 : fc_1 PRD (23, [6], [111, 1]) ws (vs) := by
    refine ⟨nf_in hl rfl, sgq_55 ?_⟩
    · show 1 * v_iv (n_v vs 6) + 0 ≤ 111
      omega
  have nf1 : fc_1 PRD (23, [6], [-111, -1]) ws (vs) := by
    refine ⟨nf_in hl rfl, sgq_56 ?_⟩
    · show (-1) * v_iv (n_v vs 6) + 0 ≤ (-111)
      omega
  refine ⟨(fun _ h => (by cases h)), [], trivial, ?_, (fun _ h => (by cases h))⟩
  rw [List.append_nil]
  exact List.forall_mem_cons.mpr ⟨⟨show (23 : Nat) < 100 from by decide, nf0⟩, List.forall_mem_cons.mpr ⟨⟨show (23 : Nat) < 100 from by decide, nf1⟩, (fun _ h => (by cases h))⟩⟩
def n_jLat_charAt_v471_an : List an_T := []
def t_jLat_charAt_v471_ct : ct_L := [(12, 9, e_jStr_checkIndex_v296), (1000004, 0, en_ro [(2, 0, 0, [5209])] (0, 4, 4, [])), (1000005, 0, en_ro [(2, 0, 0, [5209]), (0, 1, 1, [])] (0, 111, 111, []))]
set_option maxRecDepth 100000 in
theorem c_jLat_charAt_v471 {l : Launch} {D : va_G} {kA : Nat → ClassId} : ct_ok PRD l D kA GG y_jLat_charAt z_jLat_charAt e_jLat_charAt_v471 := chk_all_ok (FT := []) (PT := []) (CT := t_jLat_charAt_v471_ct) (KT := []) (NT := []) (AN := n_jLat_charAt_v471_an) (OT := [o_jLat_charAt_v471_0]) 0 200 (List.forall_mem_cons.mpr ⟨oo_jLat_charAt_v471_0, List.forall_mem_nil _⟩) (by decide +kernel) ⟨List.forall_mem_nil _, List.forall_mem_nil _, List.forall_mem_cons.mpr ⟨cl_static (y := y_jStr_checkIndex) c_jStr_checkIndex_v296 wm_694 wm_11 wm_692 wm_693 ⟨by decide, by decide, by decide +kernel⟩ (by decide), List.forall_mem_cons.mpr ⟨cl_tlen (i := 9) (n := 4) rfl (by decide +kernel) (by decide +kernel) (by decide +kernel), List.forall_mem_cons.mpr ⟨cl_tbyte1 (i := 9) (n := 4) (k := 1) rfl (by decide +kernel) (by decide +kernel) (by decide) (by decide +kernel), List.forall_mem_nil _⟩⟩⟩, List.forall_mem_nil _, List.forall_mem_nil _, GG_pl⟩ (by decide +kernel)
def e_jLat_charAt_v473 : en_T := ([(2, 0, 0, [5209]), (0, 2, 2, [])], some (0, 0, 65535, []), true, 3, 0, 0, [], [], (0, [], [], [(23, [2], [116, 1]), (23, [2], [-116, -1])], []))
def o_jLat_charAt_v473_0 : or_T := (14, 7, [(3, (0, 116, 116, [])), (5, (0, 0, 116, [])), (6, (0, 0, 65535, []))], [(22, [6, 5], []), (12, [5, 3], [256])], [], [], [(23, [6], [116, 1]), (23, [6], [-116, -1])], [], [])
theorem oo_jLat_charAt_v473_0 {kA : Nat → ClassId} : or_ok PRD kA GG o_jLat_charAt_v473_0 := by
  refine or_mk fun A ta ws vs hD hth hl => ?_
  intro t3 k3 t5 k5 t6 k6 f0 f1
  replace f0 := shm_47 f0
  replace f1 := shm_52 f1
  have nf0 : fc_1 PRD (23, [6], [116, 1]) ws (vs) := by
    refine ⟨nf_in hl rfl, sgq_79 ?_⟩
    · show 1 * v_iv (n_v vs 6) + 0 ≤ 116
      omega
  have nf1 : fc_1 PRD (23, [6], [-116, -1]) ws (vs) := by
    refine ⟨nf_in hl rfl, sgq_80 ?_⟩
    · show (-1) * v_iv (n_v vs 6) + 0 ≤ (-116)
      omega
  refine ⟨(fun _ h => (by cases h)), [], trivial, ?_, (fun _ h => (by cases h))⟩
  rw [List.append_nil]
  exact List.forall_mem_cons.mpr ⟨⟨show (23 : Nat) < 100 from by decide, nf0⟩, List.forall_mem_cons.mpr ⟨⟨show (23 : Nat) < 100 from by decide, nf1⟩, (fun _ h => (by cases h))⟩⟩
def n_jLat_charAt_v473_an : List an_T := []
def t_jLat_charAt_v473_ct : ct_L := [(12, 9, e_jStr_checkIndex_v300), (1000004, 0, en_ro [(2, 0, 0, [5209])] (0, 4, 4, [])), (1000005, 0, en_ro [(2, 0, 0, [5209]), (0, 2, 2, [])] (0, 116, 116, []))]
set_option maxRecDepth 100000 in
theorem c_jLat_charAt_v473 {l : Launch} {D : va_G} {kA : Nat → ClassId} : ct_ok PRD l D kA GG y_jLat_charAt z_jLat_charAt e_jLat_charAt_v473 := chk_all_ok (FT := []) (PT := []) (CT := t_jLat_charAt_v473_ct) (KT := []) (NT := []) (AN := n_jLat_charAt_v473_an) (OT := [o_jLat_charAt_v473_0]) 0 200 (List.forall_mem_cons.mpr ⟨oo_jLat_charAt_v473_0, List.forall_mem_nil _⟩) (by decide +kernel) ⟨List.forall_mem_nil _, List.forall_mem_nil _, List.forall_mem_cons.mpr ⟨cl_static (y := y_jStr_checkIndex) c_jStr_checkIndex_v300 wm_694 wm_11 wm_692 wm_693 ⟨by decide, by decide, by decide +kernel⟩ (by decide), List.forall_mem_cons.mpr ⟨cl_tlen (i := 9) (n := 4) rfl (by decide +kernel) (by decide +kernel) (by decide +kernel), List.forall_mem_cons.mpr ⟨cl_tbyte1 (i := 9) (n := 4) (k := 2) rfl (by decide +kernel) (by decide +kernel) (by decide) (by decide +kernel), List.forall_mem_nil _⟩⟩⟩, List.forall_mem_nil _, List.forall_mem_nil _, GG_pl⟩ (by decide +kernel)
def e_jLat_charAt_v475 : en_T := ([(2, 0, 0, [5209]), (0, 3, 3, [])], some (0, 0, 65535, []), true, 3, 0, 0, [], [], (0, [], [], [(23, [2], [32, 1]), (23, [2], [-32, -1])], []))
def o_jLat_charAt_v475_0 : or_T := (14, 7, [(3, (0, 32, 32, [])), (5, (0, 0, 32, [])), (6, (0, 0, 65535, []))], [(22, [6, 5], []), (12, [5, 3], [256])], [], [], [(23, [6], [32, 1]), (23, [6], [-32, -1])], [], [])
theorem oo_jLat_charAt_v475_0 {kA : Nat → ClassId} : or_ok PRD kA GG o_jLat_charAt_v475_0 := by
  refine or_mk fun A ta ws vs hD hth hl => ?_
  intro t3 k3 t5 k5 t6 k6 f0 f1
  replace f0 := shm_47 f0
  replace f1 := shm_52 f1
  have nf0 : fc_1 PRD (23, [6], [32, 1]) ws (vs) := by
    refine ⟨nf_in hl rfl, sgq_81 ?_⟩
    · show 1 * v_iv (n_v vs 6) + 0 ≤ 32
      omega
  have nf1 : fc_1 PRD (23, [6], [-32, -1]) ws (vs) := by
    refine ⟨nf_in hl rfl, sgq_82 ?_⟩
    · show (-1) * v_iv (n_v vs 6) + 0 ≤ (-32)
      omega
  refine ⟨(fun _ h => (by cases h)), [], trivial, ?_, (fun _ h => (by cases h))⟩
  rw [List.append_nil]
  exact List.forall_mem_cons.mpr ⟨⟨show (23 : Nat) < 100 from by decide, nf0⟩, List.forall_mem_cons.mpr ⟨⟨show (23 : Nat) < 100 from by decide, nf1⟩, (fun _ h => (by cases h))⟩⟩
def n_jLat_charAt_v475_an : List an_T := []
def t_jLat_charAt_v475_ct : ct_L := [(12, 9, e_jStr_checkIndex_v304), (1000004, 0, en_ro [(2, 0, 0, [5209])] (0, 4, 4, [])), (1000005, 0, en_ro [(2, 0, 0, [5209]), (0, 3, 3, [])] (0, 32, 32, []))]
set_option maxRecDepth 100000 in
theorem c_jLat_charAt_v475 {l : Launch} {D : va_G} {kA : Nat → ClassId} : ct_ok PRD l D kA GG y_jLat_charAt z_jLat_charAt e_jLat_charAt_v475 := chk_all_ok (FT := []) (PT := []) (CT := t_jLat_charAt_v475_ct) (KT := []) (NT := []) (AN := n_jLat_charAt_v475_an) (OT := [o_jLat_charAt_v475_0]) 0 200 (List.forall_mem_cons.mpr ⟨oo_jLat_charAt_v475_0, List.forall_mem_nil _⟩) (by decide +kernel) ⟨List.forall_mem_nil _, List.forall_mem_nil _, List.forall_mem_cons.mpr ⟨cl_static (y := y_jStr_checkIndex) c_jStr_checkIndex_v304 wm_694 wm_11 wm_692 wm_693 ⟨by decide, by decide, by decide +kernel⟩ (by decide), List.forall_mem_cons.mpr ⟨cl_tlen (i := 9) (n := 4) rfl (by decide +kernel) (by decide +kernel) (by decide +kernel), List.forall_mem_cons.mpr ⟨cl_tbyte1 (i := 9) (n := 4) (k := 3) rfl (by decide +kernel) (by decide +kernel) (by decide) (by decide +kernel), List.forall_mem_nil _⟩⟩⟩, List.forall_mem_nil _, List.forall_mem_nil _, GG_pl⟩ (by decide +kernel)
def e_jLat_charAt_v478 : en_T := ([(2, 0, 0, [5210]), (0, 0, 0, [])], some (0, 0, 65535, []), true, 3, 0, 0, [], [], (0, [], [], [(23, [2], [97, 1]), (23, [2], [-97, -1])], []))
def o_jLat_charAt_v478_0 : or_T := (14, 7, [(3, (0, 97, 97, [])), (5, (0, 0, 97, [])), (6, (0, 0, 65535, []))], [(22, [6, 5], []), (12, [5, 3], [256])], [], [], [(23, [6], [97, 1]), (23, [6], [-97, -1])], [], [])
theorem oo_jLat_charAt_v478_0 {kA : Nat → ClassId} : or_ok PRD kA GG o_jLat_charAt_v478_0 := by
  refine or_mk fun A ta ws vs hD hth hl => ?_
  intro t3 k3 t5 k5 t6 k6 f0 f1
  replace f0 := shm_47 f0
  replace f1 := shm_52 f1
  have nf0 : fc_1 PRD (23, [6], [97, 1]) ws (vs) := by
    refine ⟨nf_in hl rfl, sgq_85 ?_⟩
    · show 1 * v_iv (n_v vs 6) + 0 ≤ 97
      omega
  have nf1 : fc_1 PRD (23, [6], [-97, -1]) ws (vs) := by
    refine ⟨nf_in hl rfl, sgq_86 ?_⟩
    · show (-1) * v_iv (n_v vs 6) + 0 ≤ (-97)
      omega
  refine ⟨(fun _ h => (by cases h)), [], trivial, ?_, (fun _ h => (by cases h))⟩
  rw [List.append_nil]
  exact List.forall_mem_cons.mpr ⟨⟨show (23 : Nat) < 100 from by decide, nf0⟩, List.forall_mem_cons.mpr ⟨⟨show (23 : Nat) < 100 from by decide, nf1⟩, (fun _ h => (by cases h))⟩⟩
def n_jLat_charAt_v478_an : List an_T := []
def t_jLat_charAt_v478_ct : ct_L := [(12, 9, e_jStr_checkIndex_v292), (1000004, 0, en_ro [(2, 0, 0, [5210])] (0, 4, 4, [])), (1000005, 0, en_ro [(2, 0, 0, [5210]), (0, 0, 0, [])] (0, 97, 97, []))]
set_option maxRecDepth 100000 in
theorem c_jLat_charAt_v478 {l : Launch} {D : va_G} {kA : Nat → ClassId} : ct_ok PRD l D kA GG y_jLat_charAt z_jLat_charAt e_jLat_charAt_v478 := chk_all_ok (FT := []) (PT := []) (CT := t_jLat_charAt_v478_ct) (KT := []) (NT := []) (AN := n_jLat_charAt_v478_an) (OT := [o_jLat_charAt_v478_0]) 0 200 (List.forall_mem_cons.mpr ⟨oo_jLat_charAt_v478_0, List.forall_mem_nil _⟩) (by decide +kernel) ⟨List.forall_mem_nil _, List.forall_mem_nil _, List.forall_mem_cons.mpr ⟨cl_static (y := y_jStr_checkIndex) c_jStr_checkIndex_v292 wm_694 wm_11 wm_692 wm_693 ⟨by decide, by decide, by decide +kernel⟩ (by decide), List.forall_mem_cons.mpr ⟨cl_tlen (i := 10) (n := 4) rfl (by decide +kernel) (by decide +kernel) (by decide +kernel), List.forall_mem_cons.mpr ⟨cl_tbyte1 (i := 10) (n := 4) (k := 0) rfl (by decide +kernel) (by decide +kernel) (by decide) (by decide +kernel), List.forall_mem_nil _⟩⟩⟩, List.forall_mem_nil _, List.forall_mem_nil _, GG_pl⟩ (by decide +kernel)
def e_jLat_charAt_v480 : en_T := ([(2, 0, 0, [5210]), (0, 1, 1, [])], some (0, 0, 65535, []), true, 3, 0, 0, [], [], (0, [], [], [(23, [2], [110, 1]), (23, [2], [-110, -1])], []))
def o_jLat_charAt_v480_0 : or_T := (14, 7, [(3, (0, 110, 110, [])), (5, (0, 0, 110, [])), (6, (0, 0, 65535, []))], [(22, [6, 5], []), (12, [5, 3], [256])], [], [], [(23, [6], [110, 1]), (23, [6], [-110, -1])], [], [])
theorem oo_jLat_charAt_v480_0 {kA : Nat → ClassId} : or_ok PRD kA GG o_jLat_charAt_v480_0 := by
  refine or_mk fun A ta ws vs hD hth hl => ?_
  intro t3 k3 t5 k5 t6 k6 f0 f1
  replace f0 := shm_47 f0
  replace f1 := shm_52 f1
  have nf0 : fc_1 PRD (23, [6], [110, 1]) ws (vs) := by
    refine ⟨nf_in hl rfl, sgq_53 ?_⟩
    · show 1 * v_iv (n_v vs 6) + 0 ≤ 110
      omega
  have nf1 : fc_1 PRD (23, [6], [-110, -1]) ws (vs) := by
    refine ⟨nf_in hl rfl, sgq_54 ?_⟩
    · show (-1) * v_iv (n_v vs 6) + 0 ≤ (-110)
      omega
  refine ⟨(fun _ h => (by cases h)), [], trivial, ?_, (fun _ h => (by cases h))⟩
  rw [List.append_nil]
  exact List.forall_mem_cons.mpr ⟨⟨show (23 : Nat) < 100 from by decide, nf0⟩, List.forall_mem_cons.mpr ⟨⟨show (23 : Nat) < 100 from by decide, nf1⟩, (fun _ h => (by cases h))⟩⟩
def n_jLat_charAt_v480_an : List an_T := []
def t_jLat_charAt_v480_ct : ct_L := [(12, 9, e_jStr_checkIndex_v296), (1000004, 0, en_ro [(2, 0, 0, [5210])] (0, 4, 4, [])), (1000005, 0, en_ro [(2, 0, 0, [5210]), (0, 1, 1, [])] (0, 110, 110, []))]
set_option maxRecDepth 100000 in
theorem c_jLat_charAt_v480 {l : Launch} {D : va_G} {kA : Nat → ClassId} : ct_ok PRD l D kA GG y_jLat_charAt z_jLat_charAt e_jLat_charAt_v480 := chk_all_ok (FT := []) (PT := []) (CT := t_jLat_charAt_v480_ct) (KT := []) (NT := []) (AN := n_jLat_charAt_v480_an) (OT := [o_jLat_charAt_v480_0]) 0 200 (List.forall_mem_cons.mpr ⟨oo_jLat_charAt_v480_0, List.forall_mem_nil _⟩) (by decide +kernel) ⟨List.forall_mem_nil _, List.forall_mem_nil _, List.forall_mem_cons.mpr ⟨cl_static (y := y_jStr_checkIndex) c_jStr_checkIndex_v296 wm_694 wm_11 wm_692 wm_693 ⟨by decide, by decide, by decide +kernel⟩ (by decide), List.forall_mem_cons.mpr ⟨cl_tlen (i := 10) (n := 4) rfl (by decide +kernel) (by decide +kernel) (by decide +kernel), List.forall_mem_cons.mpr ⟨cl_tbyte1 (i := 10) (n := 4) (k := 1) rfl (by decide +kernel) (by decide +kernel) (by decide) (by decide +kernel), List.forall_mem_nil _⟩⟩⟩, List.forall_mem_nil _, List.forall_mem_nil _, GG_pl⟩ (by decide +kernel)
def e_jLat_charAt_v482 : en_T := ([(2, 0, 0, [5210]), (0, 2, 2, [])], some (0, 0, 65535, []), true, 3, 0, 0, [], [], (0, [], [], [(23, [2], [100, 1]), (23, [2], [-100, -1])], []))
def o_jLat_charAt_v482_0 : or_T := (14, 7, [(3, (0, 100, 100, [])), (5, (0, 0, 100, [])), (6, (0, 0, 65535, []))], [(22, [6, 5], []), (12, [5, 3], [256])], [], [], [(23, [6], [100, 1]), (23, [6], [-100, -1])], [], [])
theorem oo_jLat_charAt_v482_0 {kA : Nat → ClassId} : or_ok PRD kA GG o_jLat_charAt_v482_0 := by
  refine or_mk fun A ta ws vs hD hth hl => ?_
  intro t3 k3 t5 k5 t6 k6 f0 f1
  replace f0 := shm_47 f0
  replace f1 := shm_52 f1
  have nf0 : fc_1 PRD (23, [6], [100, 1]) ws (vs) := by
    refine ⟨nf_in hl rfl, sgq_57 ?_⟩
    · show 1 * v_iv (n_v vs 6) + 0 ≤ 100
      omega
  have nf1 : fc_1 PRD (23, [6], [-100, -1]) ws (vs) := by
    refine ⟨nf_in hl rfl, sgq_58 ?_⟩
    · show (-1) * v_iv (n_v vs 6) + 0 ≤ (-100)
      omega
  refine ⟨(fun _ h => (by cases h)), [], trivial, ?_, (fun _ h => (by cases h))⟩
  rw [List.append_nil]
  exact List.forall_mem_cons.mpr ⟨⟨show (23 : Nat) < 100 from by decide, nf0⟩, List.forall_mem_cons.mpr ⟨⟨show (23 : Nat) < 100 from by decide, nf1⟩, (fun _ h => (by cases h))⟩⟩
def n_jLat_charAt_v482_an : List an_T := []
def t_jLat_charAt_v482_ct : ct_L := [(12, 9, e_jStr_checkIndex_v300), (1000004, 0, en_ro [(2, 0, 0, [5210])] (0, 4, 4, [])), (1000005, 0, en_ro [(2, 0, 0, [5210]), (0, 2, 2, [])] (0, 100, 100, []))]
set_option maxRecDepth 100000 in
theorem c_jLat_charAt_v482 {l : Launch} {D : va_G} {kA : Nat → ClassId} : ct_ok PRD l D kA GG y_jLat_charAt z_jLat_charAt e_jLat_charAt_v482 := chk_all_ok (FT := []) (PT := []) (CT := t_jLat_charAt_v482_ct) (KT := []) (NT := []) (AN := n_jLat_charAt_v482_an) (OT := [o_jLat_charAt_v482_0]) 0 200 (List.forall_mem_cons.mpr ⟨oo_jLat_charAt_v482_0, List.forall_mem_nil _⟩) (by decide +kernel) ⟨List.forall_mem_nil _, List.forall_mem_nil _, List.forall_mem_cons.mpr ⟨cl_static (y := y_jStr_checkIndex) c_jStr_checkIndex_v300 wm_694 wm_11 wm_692 wm_693 ⟨by decide, by decide, by decide +kernel⟩ (by decide), List.forall_mem_cons.mpr ⟨cl_tlen (i := 10) (n := 4) rfl (by decide +kernel) (by decide +kernel) (by decide +kernel), List.forall_mem_cons.mpr ⟨cl_tbyte1 (i := 10) (n := 4) (k := 2) rfl (by decide +kernel) (by decide +kernel) (by decide) (by decide +kernel), List.forall_mem_nil _⟩⟩⟩, List.forall_mem_nil _, List.forall_mem_nil _, GG_pl⟩ (by decide +kernel)
def e_jLat_charAt_v484 : en_T := ([(2, 0, 0, [5210]), (0, 3, 3, [])], some (0, 0, 65535, []), true, 3, 0, 0, [], [], (0, [], [], [(23, [2], [32, 1]), (23, [2], [-32, -1])], []))
def o_jLat_charAt_v484_0 : or_T := (14, 7, [(3, (0, 32, 32, [])), (5, (0, 0, 32, [])), (6, (0, 0, 65535, []))], [(22, [6, 5], []), (12, [5, 3], [256])], [], [], [(23, [6], [32, 1]), (23, [6], [-32, -1])], [], [])
theorem oo_jLat_charAt_v484_0 {kA : Nat → ClassId} : or_ok PRD kA GG o_jLat_charAt_v484_0 := by
  refine or_mk fun A ta ws vs hD hth hl => ?_
  intro t3 k3 t5 k5 t6 k6 f0 f1
  replace f0 := shm_47 f0
  replace f1 := shm_52 f1
  have nf0 : fc_1 PRD (23, [6], [32, 1]) ws (vs) := by
    refine ⟨nf_in hl rfl, sgq_81 ?_⟩
    · show 1 * v_iv (n_v vs 6) + 0 ≤ 32
      omega
  have nf1 : fc_1 PRD (23, [6], [-32, -1]) ws (vs) := by
    refine ⟨nf_in hl rfl, sgq_82 ?_⟩
    · show (-1) * v_iv (n_v vs 6) + 0 ≤ (-32)
      omega
  refine ⟨(fun _ h => (by cases h)), [], trivial, ?_, (fun _ h => (by cases h))⟩
  rw [List.append_nil]
  exact List.forall_mem_cons.mpr ⟨⟨show (23 : Nat) < 100 from by decide, nf0⟩, List.forall_mem_cons.mpr ⟨⟨show (23 : Nat) < 100 from by decide, nf1⟩, (fun _ h => (by cases h))⟩⟩
def n_jLat_charAt_v484_an : List an_T := []
def t_jLat_charAt_v484_ct : ct_L := [(12, 9, e_jStr_checkIndex_v304), (1000004, 0, en_ro [(2, 0, 0, [5210])] (0, 4, 4, [])), (1000005, 0, en_ro [(2, 0, 0, [5210]), (0, 3, 3, [])] (0, 32, 32, []))]
set_option maxRecDepth 100000 in
theorem c_jLat_charAt_v484 {l : Launch} {D : va_G} {kA : Nat → ClassId} : ct_ok PRD l D kA GG y_jLat_charAt z_jLat_charAt e_jLat_charAt_v484 := chk_all_ok (FT := []) (PT := []) (CT := t_jLat_charAt_v484_ct) (KT := []) (NT := []) (AN := n_jLat_charAt_v484_an) (OT := [o_jLat_charAt_v484_0]) 0 200 (List.forall_mem_cons.mpr ⟨oo_jLat_charAt_v484_0, List.forall_mem_nil _⟩) (by decide +kernel) ⟨List.forall_mem_nil _, List.forall_mem_nil _, List.forall_mem_cons.mpr ⟨cl_static (y := y_jStr_checkIndex) c_jStr_checkIndex_v304 wm_694 wm_11 wm_692 wm_693 ⟨by decide, by decide, by decide +kernel⟩ (by decide), List.forall_mem_cons.mpr ⟨cl_tlen (i := 10) (n := 4) rfl (by decide +kernel) (by decide +kernel) (by decide +kernel), List.forall_mem_cons.mpr ⟨cl_tbyte1 (i := 10) (n := 4) (k := 3) rfl (by decide +kernel) (by decide +kernel) (by decide) (by decide +kernel), List.forall_mem_nil _⟩⟩⟩, List.forall_mem_nil _, List.forall_mem_nil _, GG_pl⟩ (by decide +kernel)
def e_jLat_charAt_v487 : en_T := ([(2, 0, 0, [5211]), (0, 0, 0, [])], some (0, 0, 65535, []), true, 3, 0, 0, [], [], (0, [], [], [(23, [2], [111, 1]), (23, [2], [-111, -1])], []))
def o_jLat_charAt_v487_0 : or_T := (14, 7, [(3, (0, 111, 111, [])), (5, (0, 0, 111, [])), (6, (0, 0, 65535, []))], [(22, [6, 5], []), (12, [5, 3], [256])], [], [], [(23, [6], [111, 1]), (23, [6], [-111, -1])], [], [])
theorem oo_jLat_charAt_v487_0 {kA : Nat → ClassId} : or_ok PRD kA GG o_jLat_charAt_v487_0 := by
  refine or_mk fun A ta ws vs hD hth hl => ?_
  intro t3 k3 t5 k5 t6 k6 f0 f1
  replace f0 := shm_47 f0
  replace f1 := shm_52 f1
  have nf0 : fc_1 PRD (23, [6], [111, 1]) ws (vs) := by
    refine ⟨nf_in hl rfl, sgq_55 ?_⟩
    · show 1 * v_iv (n_v vs 6) + 0 ≤ 111
      omega
  have nf1 : fc_1 PRD (23, [6], [-111, -1]) ws (vs) := by
    refine ⟨nf_in hl rfl, sgq_56 ?_⟩
    · show (-1) * v_iv (n_v vs 6) + 0 ≤ (-111)
      omega
  refine ⟨(fun _ h => (by cases h)), [], trivial, ?_, (fun _ h => (by cases h))⟩
  rw [List.append_nil]
  exact List.forall_mem_cons.mpr ⟨⟨show (23 : Nat) < 100 from by decide, nf0⟩, List.forall_mem_cons.mpr ⟨⟨show (23 : Nat) < 100 from by decide, nf1⟩, (fun _ h => (by cases h))⟩⟩
def n_jLat_charAt_v487_an : List an_T := []
def t_jLat_charAt_v487_ct : ct_L := [(12, 9, e_jStr_checkIndex_v457), (1000004, 0, en_ro [(2, 0, 0, [5211])] (0, 3, 3, [])), (1000005, 0, en_ro [(2, 0, 0, [5211]), (0, 0, 0, [])] (0, 111, 111, []))]
set_option maxRecDepth 100000 in
theorem c_jLat_charAt_v487 {l : Launch} {D : va_G} {kA : Nat → ClassId} : ct_ok PRD l D kA GG y_jLat_charAt z_jLat_charAt e_jLat_charAt_v487 := chk_all_ok (FT := []) (PT := []) (CT := t_jLat_charAt_v487_ct) (KT := []) (NT := []) (AN := n_jLat_charAt_v487_an) (OT := [o_jLat_charAt_v487_0]) 0 200 (List.forall_mem_cons.mpr ⟨oo_jLat_charAt_v487_0, List.forall_mem_nil _⟩) (by decide +kernel) ⟨List.forall_mem_nil _, List.forall_mem_nil _, List.forall_mem_cons.mpr ⟨cl_static (y := y_jStr_checkIndex) c_jStr_checkIndex_v457 wm_694 wm_11 wm_692 wm_693 ⟨by decide, by decide, by decide +kernel⟩ (by decide), List.forall_mem_cons.mpr ⟨cl_tlen (i := 11) (n := 3) rfl (by decide +kernel) (by decide +kernel) (by decide +kernel), List.forall_mem_cons.mpr ⟨cl_tbyte1 (i := 11) (n := 3) (k := 0) rfl (by decide +kernel) (by decide +kernel) (by decide) (by decide +kernel), List.forall_mem_nil _⟩⟩⟩, List.forall_mem_nil _, List.forall_mem_nil _, GG_pl⟩ (by decide +kernel)
def e_jLat_charAt_v489 : en_T := ([(2, 0, 0, [5211]), (0, 1, 1, [])], some (0, 0, 65535, []), true, 3, 0, 0, [], [], (0, [], [], [(23, [2], [114, 1]), (23, [2], [-114, -1])], []))
def o_jLat_charAt_v489_0 : or_T := (14, 7, [(3, (0, 114, 114, [])), (5, (0, 0, 114, [])), (6, (0, 0, 65535, []))], [(22, [6, 5], []), (12, [5, 3], [256])], [], [], [(23, [6], [114, 1]), (23, [6], [-114, -1])], [], [])
theorem oo_jLat_charAt_v489_0 {kA : Nat → ClassId} : or_ok PRD kA GG o_jLat_charAt_v489_0 := by
  refine or_mk fun A ta ws vs hD hth hl => ?_
  intro t3 k3 t5 k5 t6 k6 f0 f1
  replace f0 := shm_47 f0
  replace f1 := shm_52 f1
  have nf0 : fc_1 PRD (23, [6], [114, 1]) ws (vs) := by
    refine ⟨nf_in hl rfl, sgq_63 ?_⟩
    · show 1 * v_iv (n_v vs 6) + 0 ≤ 114
      omega
  have nf1 : fc_1 PRD (23, [6], [-114, -1]) ws (vs) := by
    refine ⟨nf_in hl rfl, sgq_64 ?_⟩
    · show (-1) * v_iv (n_v vs 6) + 0 ≤ (-114)
      omega
  refine ⟨(fun _ h => (by cases h)), [], trivial, ?_, (fun _ h => (by cases h))⟩
  rw [List.append_nil]
  exact List.forall_mem_cons.mpr ⟨⟨show (23 : Nat) < 100 from by decide, nf0⟩, List.forall_mem_cons.mpr ⟨⟨show (23 : Nat) < 100 from by decide, nf1⟩, (fun _ h => (by cases h))⟩⟩
def n_jLat_charAt_v489_an : List an_T := []
def t_jLat_charAt_v489_ct : ct_L := [(12, 9, e_jStr_checkIndex_v461), (1000004, 0, en_ro [(2, 0, 0, [5211])] (0, 3, 3, [])), (1000005, 0, en_ro [(2, 0, 0, [5211]), (0, 1, 1, [])] (0, 114, 114, []))]
set_option maxRecDepth 100000 in
theorem c_jLat_charAt_v489 {l : Launch} {D : va_G} {kA : Nat → ClassId} : ct_ok PRD l D kA GG y_jLat_charAt z_jLat_charAt e_jLat_charAt_v489 := chk_all_ok (FT := []) (PT := []) (CT := t_jLat_charAt_v489_ct) (KT := []) (NT := []) (AN := n_jLat_charAt_v489_an) (OT := [o_jLat_charAt_v489_0]) 0 200 (List.forall_mem_cons.mpr ⟨oo_jLat_charAt_v489_0, List.forall_mem_nil _⟩) (by decide +kernel) ⟨List.forall_mem_nil _, List.forall_mem_nil _, List.forall_mem_cons.mpr ⟨cl_static (y := y_jStr_checkIndex) c_jStr_checkIndex_v461 wm_694 wm_11 wm_692 wm_693 ⟨by decide, by decide, by decide +kernel⟩ (by decide), List.forall_mem_cons.mpr ⟨cl_tlen (i := 11) (n := 3) rfl (by decide +kernel) (by decide +kernel) (by decide +kernel), List.forall_mem_cons.mpr ⟨cl_tbyte1 (i := 11) (n := 3) (k := 1) rfl (by decide +kernel) (by decide +kernel) (by decide) (by decide +kernel), List.forall_mem_nil _⟩⟩⟩, List.forall_mem_nil _, List.forall_mem_nil _, GG_pl⟩ (by decide +kernel)
def e_jLat_charAt_v491 : en_T := ([(2, 0, 0, [5211]), (0, 2, 2, [])], some (0, 0, 65535, []), true, 3, 0, 0, [], [], (0, [], [], [(23, [2], [32, 1]), (23, [2], [-32, -1])], []))
def o_jLat_charAt_v491_0 : or_T := (14, 7, [(3, (0, 32, 32, [])), (5, (0, 0, 32, [])), (6, (0, 0, 65535, []))], [(22, [6, 5], []), (12, [5, 3], [256])], [], [], [(23, [6], [32, 1]), (23, [6], [-32, -1])], [], [])
theorem oo_jLat_charAt_v491_0 {kA : Nat → ClassId} : or_ok PRD kA GG o_jLat_charAt_v491_0 := by
  refine or_mk fun A ta ws vs hD hth hl => ?_
  intro t3 k3 t5 k5 t6 k6 f0 f1
  replace f0 := shm_47 f0
  replace f1 := shm_52 f1
  have nf0 : fc_1 PRD (23, [6], [32, 1]) ws (vs) := by
    refine ⟨nf_in hl rfl, sgq_81 ?_⟩
    · show 1 * v_iv (n_v vs 6) + 0 ≤ 32
      omega
  have nf1 : fc_1 PRD (23, [6], [-32, -1]) ws (vs) := by
    refine ⟨nf_in hl rfl, sgq_82 ?_⟩
    · show (-1) * v_iv (n_v vs 6) + 0 ≤ (-32)
      omega
  refine ⟨(fun _ h => (by cases h)), [], trivial, ?_, (fun _ h => (by cases h))⟩
  rw [List.append_nil]
  exact List.forall_mem_cons.mpr ⟨⟨show (23 : Nat) < 100 from by decide, nf0⟩, List.forall_mem_cons.mpr ⟨⟨show (23 : Nat) < 100 from by decide, nf1⟩, (fun _ h => (by cases h))⟩⟩
def n_jLat_charAt_v491_an : List an_T := []
def t_jLat_charAt_v491_ct : ct_L := [(12, 9, e_jStr_checkIndex_v465), (1000004, 0, en_ro [(2, 0, 0, [5211])] (0, 3, 3, [])), (1000005, 0, en_ro [(2, 0, 0, [5211]), (0, 2, 2, [])] (0, 32, 32, []))]
set_option maxRecDepth 100000 in
theorem c_jLat_charAt_v491 {l : Launch} {D : va_G} {kA : Nat → ClassId} : ct_ok PRD l D kA GG y_jLat_charAt z_jLat_charAt e_jLat_charAt_v491 := chk_all_ok (FT := []) (PT := []) (CT := t_jLat_charAt_v491_ct) (KT := []) (NT := []) (AN := n_jLat_charAt_v491_an) (OT := [o_jLat_charAt_v491_0]) 0 200 (List.forall_mem_cons.mpr ⟨oo_jLat_charAt_v491_0, List.forall_mem_nil _⟩) (by decide +kernel) ⟨List.forall_mem_nil _, List.forall_mem_nil _, List.forall_mem_cons.mpr ⟨cl_static (y := y_jStr_checkIndex) c_jStr_checkIndex_v465 wm_694 wm_11 wm_692 wm_693 ⟨by decide, by decide, by decide +kernel⟩ (by decide), List.forall_mem_cons.mpr ⟨cl_tlen (i := 11) (n := 3) rfl (by decide +kernel) (by decide +kernel) (by decide +kernel), List.forall_mem_cons.mpr ⟨cl_tbyte1 (i := 11) (n := 3) (k := 2) rfl (by decide +kernel) (by decide +kernel) (by decide) (by decide +kernel), List.forall_mem_nil _⟩⟩⟩, List.forall_mem_nil _, List.forall_mem_nil _, GG_pl⟩ (by decide +kernel)
def e_jLat_charAt_v494 : en_T := ([(2, 0, 0, [5212]), (0, 0, 0, [])], some (0, 0, 65535, []), true, 3, 0, 0, [], [], (0, [], [], [(23, [2], [99, 1]), (23, [2], [-99, -1])], []))
def o_jLat_charAt_v494_0 : or_T := (14, 7, [(3, (0, 99, 99, [])), (5, (0, 0, 99, [])), (6, (0, 0, 65535, []))], [(22, [6, 5], []), (12, [5, 3], [256])], [], [], [(23, [6], [99, 1]), (23, [6], [-99, -1])], [], [])
theorem oo_jLat_charAt_v494_0 {kA : Nat → ClassId} : or_ok PRD kA GG o_jLat_charAt_v494_0 := by
  refine or_mk fun A ta ws vs hD hth hl => ?_
  intro t3 k3 t5 k5 t6 k6 f0 f1
  replace f0 := shm_47 f0
  replace f1 := shm_52 f1
  have nf0 : fc_1 PRD (23, [6], [99, 1]) ws (vs) := by
    refine ⟨nf_in hl rfl, sgq_87 ?_⟩
    · show 1 * v_iv (n_v vs 6) + 0 ≤ 99
      omega
  have nf1 : fc_1 PRD (23, [6], [-99, -1]) ws (vs) := by
    refine ⟨nf_in hl rfl, sgq_88 ?_⟩
    · show (-1) * v_iv (n_v vs 6) + 0 ≤ (-99)
      omega
  refine ⟨(fun _ h => (by cases h)), [], trivial, ?_, (fun _ h => (by cases h))⟩
  rw [List.append_nil]
  exact List.forall_mem_cons.mpr ⟨⟨show (23 : Nat) < 100 from by decide, nf0⟩, List.forall_mem_cons.mpr ⟨⟨show (23 : Nat) < 100 from by decide, nf1⟩, (fun _ h => (by cases h))⟩⟩
def n_jLat_charAt_v494_an : List an_T := []
def t_jLat_charAt_v494_ct : ct_L := [(12, 9, e_jStr_checkIndex_v495), (1000004, 0, en_ro [(2, 0, 0, [5212])] (0, 17, 17, [])), (1000005, 0, en_ro [(2, 0, 0, [5212]), (0, 0, 0, [])] (0, 99, 99, []))]
set_option maxRecDepth 100000 in
theorem c_jLat_charAt_v494 {l : Launch} {D : va_G} {kA : Nat → ClassId} : ct_ok PRD l D kA GG y_jLat_charAt z_jLat_charAt e_jLat_charAt_v494 := chk_all_ok (FT := []) (PT := []) (CT := t_jLat_charAt_v494_ct) (KT := []) (NT := []) (AN := n_jLat_charAt_v494_an) (OT := [o_jLat_charAt_v494_0]) 0 200 (List.forall_mem_cons.mpr ⟨oo_jLat_charAt_v494_0, List.forall_mem_nil _⟩) (by decide +kernel) ⟨List.forall_mem_nil _, List.forall_mem_nil _, List.forall_mem_cons.mpr ⟨cl_static (y := y_jStr_checkIndex) c_jStr_checkIndex_v495 wm_694 wm_11 wm_692 wm_693 ⟨by decide, by decide, by decide +kernel⟩ (by decide), List.forall_mem_cons.mpr ⟨cl_tlen (i := 12) (n := 17) rfl (by decide +kernel) (by decide +kernel) (by decide +kernel), List.forall_mem_cons.mpr ⟨cl_tbyte1 (i := 12) (n := 17) (k := 0) rfl (by decide +kernel) (by decide +kernel) (by decide) (by decide +kernel), List.forall_mem_nil _⟩⟩⟩, List.forall_mem_nil _, List.forall_mem_nil _, GG_pl⟩ (by decide +kernel)
def e_jLat_charAt_v498 : en_T := ([(2, 0, 0, [5212]), (0, 1, 1, [])], some (0, 0, 65535, []), true, 3, 0, 0, [], [], (0, [], [], [(23, [2], [111, 1]), (23, [2], [-111, -1])], []))
def o_jLat_charAt_v498_0 : or_T := (14, 7, [(3, (0, 111, 111, [])), (5, (0, 0, 111, [])), (6, (0, 0, 65535, []))], [(22, [6, 5], []), (12, [5, 3], [256])], [], [], [(23, [6], [111, 1]), (23, [6], [-111, -1])], [], [])
theorem oo_jLat_charAt_v498_0 {kA : Nat → ClassId} : or_ok PRD kA GG o_jLat_charAt_v498_0 := by
  refine or_mk fun A ta ws vs hD hth hl => ?_
  intro t3 k3 t5 k5 t6 k6 f0 f1
  replace f0 := shm_47 f0
  replace f1 := shm_52 f1
  have nf0 : fc_1 PRD (23, [6], [111, 1]) ws (vs) := by
    refine ⟨nf_in hl rfl, sgq_55 ?_⟩
    · show 1 * v_iv (n_v vs 6) + 0 ≤ 111
      omega
  have nf1 : fc_1 PRD (23, [6], [-111, -1]) ws (vs) := by
    refine ⟨nf_in hl rfl, sgq_56 ?_⟩
    · show (-1) * v_iv (n_v vs 6) + 0 ≤ (-111)
      omega
  refine ⟨(fun _ h => (by cases h)), [], trivial, ?_, (fun _ h => (by cases h))⟩
  rw [List.append_nil]
  exact List.forall_mem_cons.mpr ⟨⟨show (23 : Nat) < 100 from by decide, nf0⟩, List.forall_mem_cons.mpr ⟨⟨show (23 : Nat) < 100 from by decide, nf1⟩, (fun _ h => (by cases h))⟩⟩
def n_jLat_charAt_v498_an : List an_T := []
def t_jLat_charAt_v498_ct : ct_L := [(12, 9, e_jStr_checkIndex_v499), (1000004, 0, en_ro [(2, 0, 0, [5212])] (0, 17, 17, [])), (1000005, 0, en_ro [(2, 0, 0, [5212]), (0, 1, 1, [])] (0, 111, 111, []))]
set_option maxRecDepth 100000 in
theorem c_jLat_charAt_v498 {l : Launch} {D : va_G} {kA : Nat → ClassId} : ct_ok PRD l D kA GG y_jLat_charAt z_jLat_charAt e_jLat_charAt_v498 := chk_all_ok (FT := []) (PT := []) (CT := t_jLat_charAt_v498_ct) (KT := []) (NT := []) (AN := n_jLat_charAt_v498_an) (OT := [o_jLat_charAt_v498_0]) 0 200 (List.forall_mem_cons.mpr ⟨oo_jLat_charAt_v498_0, List.forall_mem_nil _⟩) (by decide +kernel) ⟨List.forall_mem_nil _, List.forall_mem_nil _, List.forall_mem_cons.mpr ⟨cl_static (y := y_jStr_checkIndex) c_jStr_checkIndex_v499 wm_694 wm_11 wm_692 wm_693 ⟨by decide, by decide, by decide +kernel⟩ (by decide), List.forall_mem_cons.mpr ⟨cl_tlen (i := 12) (n := 17) rfl (by decide +kernel) (by decide +kernel) (by decide +kernel), List.forall_mem_cons.mpr ⟨cl_tbyte1 (i := 12) (n := 17) (k := 1) rfl (by decide +kernel) (by decide +kernel) (by decide) (by decide +kernel), List.forall_mem_nil _⟩⟩⟩, List.forall_mem_nil _, List.forall_mem_nil _, GG_pl⟩ (by decide +kernel)
def e_jLat_charAt_v502 : en_T := ([(2, 0, 0, [5212]), (0, 2, 2, [])], some (0, 0, 65535, []), true, 3, 0, 0, [], [], (0, [], [], [(23, [2], [108, 1]), (23, [2], [-108, -1])], []))
def o_jLat_charAt_v502_0 : or_T := (14, 7, [(3, (0, 108, 108, [])), (5, (0, 0, 108, [])), (6, (0, 0, 65535, []))], [(22, [6, 5], []), (12, [5, 3], [256])], [], [], [(23, [6], [108, 1]), (23, [6], [-108, -1])], [], [])
theorem oo_jLat_charAt_v502_0 {kA : Nat → ClassId} : or_ok PRD kA GG o_jLat_charAt_v502_0 := by
  refine or_mk fun A ta ws vs hD hth hl => ?_
  intro t3 k3 t5 k5 t6 k6 f0 f1
  replace f0 := shm_47 f0
  replace f1 := shm_52 f1
  have nf0 : fc_1 PRD (23, [6], [108, 1]) ws (vs) := by
    refine ⟨nf_in hl rfl, sgq_89 ?_⟩
    · show 1 * v_iv (n_v vs 6) + 0 ≤ 108
      omega
  have nf1 : fc_1 PRD (23, [6], [-108, -1]) ws (vs) := by
    refine ⟨nf_in hl rfl, sgq_90 ?_⟩
    · show (-1) * v_iv (n_v vs 6) + 0 ≤ (-108)
      omega
  refine ⟨(fun _ h => (by cases h)), [], trivial, ?_, (fun _ h => (by cases h))⟩
  rw [List.append_nil]
  exact List.forall_mem_cons.mpr ⟨⟨show (23 : Nat) < 100 from by decide, nf0⟩, List.forall_mem_cons.mpr ⟨⟨show (23 : Nat) < 100 from by decide, nf1⟩, (fun _ h => (by cases h))⟩⟩
def n_jLat_charAt_v502_an : List an_T := []
def t_jLat_charAt_v502_ct : ct_L := [(12, 9, e_jStr_checkIndex_v503), (1000004, 0, en_ro [(2, 0, 0, [5212])] (0, 17, 17, [])), (1000005, 0, en_ro [(2, 0, 0, [5212]), (0, 2, 2, [])] (0, 108, 108, []))]
set_option maxRecDepth 100000 in
theorem c_jLat_charAt_v502 {l : Launch} {D : va_G} {kA : Nat → ClassId} : ct_ok PRD l D kA GG y_jLat_charAt z_jLat_charAt e_jLat_charAt_v502 := chk_all_ok (FT := []) (PT := []) (CT := t_jLat_charAt_v502_ct) (KT := []) (NT := []) (AN := n_jLat_charAt_v502_an) (OT := [o_jLat_charAt_v502_0]) 0 200 (List.forall_mem_cons.mpr ⟨oo_jLat_charAt_v502_0, List.forall_mem_nil _⟩) (by decide +kernel) ⟨List.forall_mem_nil _, List.forall_mem_nil _, List.forall_mem_cons.mpr ⟨cl_static (y := y_jStr_checkIndex) c_jStr_checkIndex_v503 wm_694 wm_11 wm_692 wm_693 ⟨by decide, by decide, by decide +kernel⟩ (by decide), List.forall_mem_cons.mpr ⟨cl_tlen (i := 12) (n := 17) rfl (by decide +kernel) (by decide +kernel) (by decide +kernel), List.forall_mem_cons.mpr ⟨cl_tbyte1 (i := 12) (n := 17) (k := 2) rfl (by decide +kernel) (by decide +kernel) (by decide) (by decide +kernel), List.forall_mem_nil _⟩⟩⟩, List.forall_mem_nil _, List.forall_mem_nil _, GG_pl⟩ (by decide +kernel)
def e_jLat_charAt_v506 : en_T := ([(2, 0, 0, [5212]), (0, 3, 3, [])], some (0, 0, 65535, []), true, 3, 0, 0, [], [], (0, [], [], [(23, [2], [111, 1]), (23, [2], [-111, -1])], []))
def o_jLat_charAt_v506_0 : or_T := (14, 7, [(3, (0, 111, 111, [])), (5, (0, 0, 111, [])), (6, (0, 0, 65535, []))], [(22, [6, 5], []), (12, [5, 3], [256])], [], [], [(23, [6], [111, 1]), (23, [6], [-111, -1])], [], [])
theorem oo_jLat_charAt_v506_0 {kA : Nat → ClassId} : or_ok PRD kA GG o_jLat_charAt_v506_0 := by
  refine or_mk fun A ta ws vs hD hth hl => ?_
  intro t3 k3 t5 k5 t6 k6 f0 f1
  replace f0 := shm_47 f0
  replace f1 := shm_52 f1
  have nf0 : fc_1 PRD (23, [6], [111, 1]) ws (vs) := by
    refine ⟨nf_in hl rfl, sgq_55 ?_⟩
    · show 1 * v_iv (n_v vs 6) + 0 ≤ 111
      omega
  have nf1 : fc_1 PRD (23, [6], [-111, -1]) ws (vs) := by
    refine ⟨nf_in hl rfl, sgq_56 ?_⟩
    · show (-1) * v_iv (n_v vs 6) + 0 ≤ (-111)
      omega
  refine ⟨(fun _ h => (by cases h)), [], trivial, ?_, (fun _ h => (by cases h))⟩
  rw [List.append_nil]
  exact List.forall_mem_cons.mpr ⟨⟨show (23 : Nat) < 100 from by decide, nf0⟩, List.forall_mem_cons.mpr ⟨⟨show (23 : Nat) < 100 from by decide, nf1⟩, (fun _ h => (by cases h))⟩⟩
def n_jLat_charAt_v506_an : List an_T := []
def t_jLat_charAt_v506_ct : ct_L := [(12, 9, e_jStr_checkIndex_v507), (1000004, 0, en_ro [(2, 0, 0, [5212])] (0, 17, 17, [])), (1000005, 0, en_ro [(2, 0, 0, [5212]), (0, 3, 3, [])] (0, 111, 111, []))]
set_option maxRecDepth 100000 in
theorem c_jLat_charAt_v506 {l : Launch} {D : va_G} {kA : Nat → ClassId} : ct_ok PRD l D kA GG y_jLat_charAt z_jLat_charAt e_jLat_charAt_v506 := chk_all_ok (FT := []) (PT := []) (CT := t_jLat_charAt_v506_ct) (KT := []) (NT := []) (AN := n_jLat_charAt_v506_an) (OT := [o_jLat_charAt_v506_0]) 0 200 (List.forall_mem_cons.mpr ⟨oo_jLat_charAt_v506_0, List.forall_mem_nil _⟩) (by decide +kernel) ⟨List.forall_mem_nil _, List.forall_mem_nil _, List.forall_mem_cons.mpr ⟨cl_static (y := y_jStr_checkIndex) c_jStr_checkIndex_v507 wm_694 wm_11 wm_692 wm_693 ⟨by decide, by decide, by decide +kernel⟩ (by decide), List.forall_mem_cons.mpr ⟨cl_tlen (i := 12) (n := 17) rfl (by decide +kernel) (by decide +kernel) (by decide +kernel), List.forall_mem_cons.mpr ⟨cl_tbyte1 (i := 12) (n := 17) (k := 3) rfl (by decide +kernel) (by decide +kernel) (by decide) (by decide +kernel), List.forall_mem_nil _⟩⟩⟩, List.forall_mem_nil _, List.forall_mem_nil _, GG_pl⟩ (by decide +kernel)
def e_jLat_charAt_v510 : en_T := ([(2, 0, 0, [5212]), (0, 4, 4, [])], some (0, 0, 65535, []), true, 3, 0, 0, [], [], (0, [], [], [(23, [2], [114, 1]), (23, [2], [-114, -1])], []))
def o_jLat_charAt_v510_0 : or_T := (14, 7, [(3, (0, 114, 114, [])), (5, (0, 0, 114, [])), (6, (0, 0, 65535, []))], [(22, [6, 5], []), (12, [5, 3], [256])], [], [], [(23, [6], [114, 1]), (23, [6], [-114, -1])], [], [])
theorem oo_jLat_charAt_v510_0 {kA : Nat → ClassId} : or_ok PRD kA GG o_jLat_charAt_v510_0 := by
  refine or_mk fun A ta ws vs hD hth hl => ?_
  intro t3 k3 t5 k5 t6 k6 f0 f1
  replace f0 := shm_47 f0
  replace f1 := shm_52 f1
  have nf0 : fc_1 PRD (23, [6], [114, 1]) ws (vs) := by
    refine ⟨nf_in hl rfl, sgq_63 ?_⟩
    · show 1 * v_iv (n_v vs 6) + 0 ≤ 114
      omega
  have nf1 : fc_1 PRD (23, [6], [-114, -1]) ws (vs) := by
    refine ⟨nf_in hl rfl, sgq_64 ?_⟩
    · show (-1) * v_iv (n_v vs 6) + 0 ≤ (-114)
      omega
  refine ⟨(fun _ h => (by cases h)), [], trivial, ?_, (fun _ h => (by cases h))⟩
  rw [List.append_nil]
  exact List.forall_mem_cons.mpr ⟨⟨show (23 : Nat) < 100 from by decide, nf0⟩, List.forall_mem_cons.mpr ⟨⟨show (23 : Nat) < 100 from by decide, nf1⟩, (fun _ h => (by cases h))⟩⟩
def n_jLat_charAt_v510_an : List an_T := []
def t_jLat_charAt_v510_ct : ct_L := [(12, 9, e_jStr_checkIndex_v511), (1000004, 0, en_ro [(2, 0, 0, [5212])] (0, 17, 17, [])), (1000005, 0, en_ro [(2, 0, 0, [5212]), (0, 4, 4, [])] (0, 114, 114, []))]
set_option maxRecDepth 100000 in
theorem c_jLat_charAt_v510 {l : Launch} {D : va_G} {kA : Nat → ClassId} : ct_ok PRD l D kA GG y_jLat_charAt z_jLat_charAt e_jLat_charAt_v510 := chk_all_ok (FT := []) (PT := []) (CT := t_jLat_charAt_v510_ct) (KT := []) (NT := []) (AN := n_jLat_charAt_v510_an) (OT := [o_jLat_charAt_v510_0]) 0 200 (List.forall_mem_cons.mpr ⟨oo_jLat_charAt_v510_0, List.forall_mem_nil _⟩) (by decide +kernel) ⟨List.forall_mem_nil _, List.forall_mem_nil _, List.forall_mem_cons.mpr ⟨cl_static (y := y_jStr_checkIndex) c_jStr_checkIndex_v511 wm_694 wm_11 wm_692 wm_693 ⟨by decide, by decide, by decide +kernel⟩ (by decide), List.forall_mem_cons.mpr ⟨cl_tlen (i := 12) (n := 17) rfl (by decide +kernel) (by decide +kernel) (by decide +kernel), List.forall_mem_cons.mpr ⟨cl_tbyte1 (i := 12) (n := 17) (k := 4) rfl (by decide +kernel) (by decide +kernel) (by decide) (by decide +kernel), List.forall_mem_nil _⟩⟩⟩, List.forall_mem_nil _, List.forall_mem_nil _, GG_pl⟩ (by decide +kernel)
def e_jLat_charAt_v514 : en_T := ([(2, 0, 0, [5212]), (0, 5, 5, [])], some (0, 0, 65535, []), true, 3, 0, 0, [], [], (0, [], [], [(23, [2], [32, 1]), (23, [2], [-32, -1])], []))
def o_jLat_charAt_v514_0 : or_T := (14, 7, [(3, (0, 32, 32, [])), (5, (0, 0, 32, [])), (6, (0, 0, 65535, []))], [(22, [6, 5], []), (12, [5, 3], [256])], [], [], [(23, [6], [32, 1]), (23, [6], [-32, -1])], [], [])
theorem oo_jLat_charAt_v514_0 {kA : Nat → ClassId} : or_ok PRD kA GG o_jLat_charAt_v514_0 := by
  refine or_mk fun A ta ws vs hD hth hl => ?_
  intro t3 k3 t5 k5 t6 k6 f0 f1
  replace f0 := shm_47 f0
  replace f1 := shm_52 f1
  have nf0 : fc_1 PRD (23, [6], [32, 1]) ws (vs) := by
    refine ⟨nf_in hl rfl, sgq_81 ?_⟩
    · show 1 * v_iv (n_v vs 6) + 0 ≤ 32
      omega
  have nf1 : fc_1 PRD (23, [6], [-32, -1]) ws (vs) := by
    refine ⟨nf_in hl rfl, sgq_82 ?_⟩
    · show (-1) * v_iv (n_v vs 6) + 0 ≤ (-32)
      omega
  refine ⟨(fun _ h => (by cases h)), [], trivial, ?_, (fun _ h => (by cases h))⟩
  rw [List.append_nil]
  exact List.forall_mem_cons.mpr ⟨⟨show (23 : Nat) < 100 from by decide, nf0⟩, List.forall_mem_cons.mpr ⟨⟨show (23 : Nat) < 100 from by decide, nf1⟩, (fun _ h => (by cases h))⟩⟩
def n_jLat_charAt_v514_an : List an_T := []
def t_jLat_charAt_v514_ct : ct_L := [(12, 9, e_jStr_checkIndex_v515), (1000004, 0, en_ro [(2, 0, 0, [5212])] (0, 17, 17, [])), (1000005, 0, en_ro [(2, 0, 0, [5212]), (0, 5, 5, [])] (0, 32, 32, []))]
set_option maxRecDepth 100000 in
theorem c_jLat_charAt_v514 {l : Launch} {D : va_G} {kA : Nat → ClassId} : ct_ok PRD l D kA GG y_jLat_charAt z_jLat_charAt e_jLat_charAt_v514 := chk_all_ok (FT := []) (PT := []) (CT := t_jLat_charAt_v514_ct) (KT := []) (NT := []) (AN := n_jLat_charAt_v514_an) (OT := [o_jLat_charAt_v514_0]) 0 200 (List.forall_mem_cons.mpr ⟨oo_jLat_charAt_v514_0, List.forall_mem_nil _⟩) (by decide +kernel) ⟨List.forall_mem_nil _, List.forall_mem_nil _, List.forall_mem_cons.mpr ⟨cl_static (y := y_jStr_checkIndex) c_jStr_checkIndex_v515 wm_694 wm_11 wm_692 wm_693 ⟨by decide, by decide, by decide +kernel⟩ (by decide), List.forall_mem_cons.mpr ⟨cl_tlen (i := 12) (n := 17) rfl (by decide +kernel) (by decide +kernel) (by decide +kernel), List.forall_mem_cons.mpr ⟨cl_tbyte1 (i := 12) (n := 17) (k := 5) rfl (by decide +kernel) (by decide +kernel) (by decide) (by decide +kernel), List.forall_mem_nil _⟩⟩⟩, List.forall_mem_nil _, List.forall_mem_nil _, GG_pl⟩ (by decide +kernel)
def e_jLat_charAt_v518 : en_T := ([(2, 0, 0, [5212]), (0, 6, 6, [])], some (0, 0, 65535, []), true, 3, 0, 0, [], [], (0, [], [], [(23, [2], [119, 1]), (23, [2], [-119, -1])], []))
def o_jLat_charAt_v518_0 : or_T := (14, 7, [(3, (0, 119, 119, [])), (5, (0, 0, 119, [])), (6, (0, 0, 65535, []))], [(22, [6, 5], []), (12, [5, 3], [256])], [], [], [(23, [6], [119, 1]), (23, [6], [-119, -1])], [], [])
theorem oo_jLat_charAt_v518_0 {kA : Nat → ClassId} : or_ok PRD kA GG o_jLat_charAt_v518_0 := by
  refine or_mk fun A ta ws vs hD hth hl => ?_
  intro t3 k3 t5 k5 t6 k6 f0 f1
  replace f0 := shm_47 f0
  replace f1 := shm_52 f1
  have nf0 : fc_1 PRD (23, [6], [119, 1]) ws (vs) := by
    refine ⟨nf_in hl rfl, sgq_75 ?_⟩
    · show 1 * v_iv (n_v vs 6) + 0 ≤ 119
      omega
  have nf1 : fc_1 PRD (23, [6], [-119, -1]) ws (vs) := by
    refine ⟨nf_in hl rfl, sgq_76 ?_⟩
    · show (-1) * v_iv (n_v vs 6) + 0 ≤ (-119)
      omega
  refine ⟨(fun _ h => (by cases h)), [], trivial, ?_, (fun _ h => (by cases h))⟩
  rw [List.append_nil]
  exact List.forall_mem_cons.mpr ⟨⟨show (23 : Nat) < 100 from by decide, nf0⟩, List.forall_mem_cons.mpr ⟨⟨show (23 : Nat) < 100 from by decide, nf1⟩, (fun _ h => (by cases h))⟩⟩
def n_jLat_charAt_v518_an : List an_T := []
def t_jLat_charAt_v518_ct : ct_L := [(12, 9, e_jStr_checkIndex_v519), (1000004, 0, en_ro [(2, 0, 0, [5212])] (0, 17, 17, [])), (1000005, 0, en_ro [(2, 0, 0, [5212]), (0, 6, 6, [])] (0, 119, 119, []))]
set_option maxRecDepth 100000 in
theorem c_jLat_charAt_v518 {l : Launch} {D : va_G} {kA : Nat → ClassId} : ct_ok PRD l D kA GG y_jLat_charAt z_jLat_charAt e_jLat_charAt_v518 := chk_all_ok (FT := []) (PT := []) (CT := t_jLat_charAt_v518_ct) (KT := []) (NT := []) (AN := n_jLat_charAt_v518_an) (OT := [o_jLat_charAt_v518_0]) 0 200 (List.forall_mem_cons.mpr ⟨oo_jLat_charAt_v518_0, List.forall_mem_nil _⟩) (by decide +kernel) ⟨List.forall_mem_nil _, List.forall_mem_nil _, List.forall_mem_cons.mpr ⟨cl_static (y := y_jStr_checkIndex) c_jStr_checkIndex_v519 wm_694 wm_11 wm_692 wm_693 ⟨by decide, by decide, by decide +kernel⟩ (by decide), List.forall_mem_cons.mpr ⟨cl_tlen (i := 12) (n := 17) rfl (by decide +kernel) (by decide +kernel) (by decide +kernel), List.forall_mem_cons.mpr ⟨cl_tbyte1 (i := 12) (n := 17) (k := 6) rfl (by decide +kernel) (by decide +kernel) (by decide) (by decide +kernel), List.forall_mem_nil _⟩⟩⟩, List.forall_mem_nil _, List.forall_mem_nil _, GG_pl⟩ (by decide +kernel)
def e_jLat_charAt_v522 : en_T := ([(2, 0, 0, [5212]), (0, 7, 7, [])], some (0, 0, 65535, []), true, 3, 0, 0, [], [], (0, [], [], [(23, [2], [105, 1]), (23, [2], [-105, -1])], []))
def o_jLat_charAt_v522_0 : or_T := (14, 7, [(3, (0, 105, 105, [])), (5, (0, 0, 105, [])), (6, (0, 0, 65535, []))], [(22, [6, 5], []), (12, [5, 3], [256])], [], [], [(23, [6], [105, 1]), (23, [6], [-105, -1])], [], [])
theorem oo_jLat_charAt_v522_0 {kA : Nat → ClassId} : or_ok PRD kA GG o_jLat_charAt_v522_0 := by
  refine or_mk fun A ta ws vs hD hth hl => ?_
  intro t3 k3 t5 k5 t6 k6 f0 f1
  replace f0 := shm_47 f0
  replace f1 := shm_52 f1
  have nf0 : fc_1 PRD (23, [6], [105, 1]) ws (vs) := by
    refine ⟨nf_in hl rfl, sgq_71 ?_⟩
    · show 1 * v_iv (n_v vs 6) + 0 ≤ 105
      omega
  have nf1 : fc_1 PRD (23, [6], [-105, -1]) ws (vs) := by
    refine ⟨nf_in hl rfl, sgq_72 ?_⟩
    · show (-1) * v_iv (n_v vs 6) + 0 ≤ (-105)
      omega
  refine ⟨(fun _ h => (by cases h)), [], trivial, ?_, (fun _ h => (by cases h))⟩
  rw [List.append_nil]
  exact List.forall_mem_cons.mpr ⟨⟨show (23 : Nat) < 100 from by decide, nf0⟩, List.forall_mem_cons.mpr ⟨⟨show (23 : Nat) < 100 from by decide, nf1⟩, (fun _ h => (by cases h))⟩⟩
def n_jLat_charAt_v522_an : List an_T := []
def t_jLat_charAt_v522_ct : ct_L := [(12, 9, e_jStr_checkIndex_v523), (1000004, 0, en_ro [(2, 0, 0, [5212])] (0, 17, 17, [])), (1000005, 0, en_ro [(2, 0, 0, [5212]), (0, 7, 7, [])] (0, 105, 105, []))]
set_option maxRecDepth 100000 in
theorem c_jLat_charAt_v522 {l : Launch} {D : va_G} {kA : Nat → ClassId} : ct_ok PRD l D kA GG y_jLat_charAt z_jLat_charAt e_jLat_charAt_v522 := chk_all_ok (FT := []) (PT := []) (CT := t_jLat_charAt_v522_ct) (KT := []) (NT := []) (AN := n_jLat_charAt_v522_an) (OT := [o_jLat_charAt_v522_0]) 0 200 (List.forall_mem_cons.mpr ⟨oo_jLat_charAt_v522_0, List.forall_mem_nil _⟩) (by decide +kernel) ⟨List.forall_mem_nil _, List.forall_mem_nil _, List.forall_mem_cons.mpr ⟨cl_static (y := y_jStr_checkIndex) c_jStr_checkIndex_v523 wm_694 wm_11 wm_692 wm_693 ⟨by decide, by decide, by decide +kernel⟩ (by decide), List.forall_mem_cons.mpr ⟨cl_tlen (i := 12) (n := 17) rfl (by decide +kernel) (by decide +kernel) (by decide +kernel), List.forall_mem_cons.mpr ⟨cl_tbyte1 (i := 12) (n := 17) (k := 7) rfl (by decide +kernel) (by decide +kernel) (by decide) (by decide +kernel), List.forall_mem_nil _⟩⟩⟩, List.forall_mem_nil _, List.forall_mem_nil _, GG_pl⟩ (by decide +kernel)
def e_jLat_charAt_v526 : en_T := ([(2, 0, 0, [5212]), (0, 8, 8, [])], some (0, 0, 65535, []), true, 3, 0, 0, [], [], (0, [], [], [(23, [2], [100, 1]), (23, [2], [-100, -1])], []))
def o_jLat_charAt_v526_0 : or_T := (14, 7, [(3, (0, 100, 100, [])), (5, (0, 0, 100, [])), (6, (0, 0, 65535, []))], [(22, [6, 5], []), (12, [5, 3], [256])], [], [], [(23, [6], [100, 1]), (23, [6], [-100, -1])], [], [])
theorem oo_jLat_charAt_v526_0 {kA : Nat → ClassId} : or_ok PRD kA GG o_jLat_charAt_v526_0 := by
  refine or_mk fun A ta ws vs hD hth hl => ?_
  intro t3 k3 t5 k5 t6 k6 f0 f1
  replace f0 := shm_47 f0
  replace f1 := shm_52 f1
  have nf0 : fc_1 PRD (23, [6], [100, 1]) ws (vs) := by
    refine ⟨nf_in hl rfl, sgq_57 ?_⟩
    · show 1 * v_iv (n_v vs 6) + 0 ≤ 100
      omega
  have nf1 : fc_1 PRD (23, [6], [-100, -1]) ws (vs) := by
    refine ⟨nf_in hl rfl, sgq_58 ?_⟩
    · show (-1) * v_iv (n_v vs 6) + 0 ≤ (-100)
      omega
  refine ⟨(fun _ h => (by cases h)), [], trivial, ?_, (fun _ h => (by cases h))⟩
  rw [List.append_nil]
  exact List.forall_mem_cons.mpr ⟨⟨show (23 : Nat) < 100 from by decide, nf0⟩, List.forall_mem_cons.mpr ⟨⟨show (23 : Nat) < 100 from by decide, nf1⟩, (fun _ h => (by cases h))⟩⟩
def n_jLat_charAt_v526_an : List an_T := []
def t_jLat_charAt_v526_ct : ct_L := [(12, 9, e_jStr_checkIndex_v527), (1000004, 0, en_ro [(2, 0, 0, [5212])] (0, 17, 17, [])), (1000005, 0, en_ro [(2, 0, 0, [5212]), (0, 8, 8, [])] (0, 100, 100, []))]
set_option maxRecDepth 100000 in
theorem c_jLat_charAt_v526 {l : Launch} {D : va_G} {kA : Nat → ClassId} : ct_ok PRD l D kA GG y_jLat_charAt z_jLat_charAt e_jLat_charAt_v526 := chk_all_ok (FT := []) (PT := []) (CT := t_jLat_charAt_v526_ct) (KT := []) (NT := []) (AN := n_jLat_charAt_v526_an) (OT := [o_jLat_charAt_v526_0]) 0 200 (List.forall_mem_cons.mpr ⟨oo_jLat_charAt_v526_0, List.forall_mem_nil _⟩) (by decide +kernel) ⟨List.forall_mem_nil _, List.forall_mem_nil _, List.forall_mem_cons.mpr ⟨cl_static (y := y_jStr_checkIndex) c_jStr_checkIndex_v527 wm_694 wm_11 wm_692 wm_693 ⟨by decide, by decide, by decide +kernel⟩ (by decide), List.forall_mem_cons.mpr ⟨cl_tlen (i := 12) (n := 17) rfl (by decide +kernel) (by decide +kernel) (by decide +kernel), List.forall_mem_cons.mpr ⟨cl_tbyte1 (i := 12) (n := 17) (k := 8) rfl (by decide +kernel) (by decide +kernel) (by decide) (by decide +kernel), List.forall_mem_nil _⟩⟩⟩, List.forall_mem_nil _, List.forall_mem_nil _, GG_pl⟩ (by decide +kernel)
def e_jLat_charAt_v530 : en_T := ([(2, 0, 0, [5212]), (0, 9, 9, [])], some (0, 0, 65535, []), true, 3, 0, 0, [], [], (0, [], [], [(23, [2], [116, 1]), (23, [2], [-116, -1])], []))
def o_jLat_charAt_v530_0 : or_T := (14, 7, [(3, (0, 116, 116, [])), (5, (0, 0, 116, [])), (6, (0, 0, 65535, []))], [(22, [6, 5], []), (12, [5, 3], [256])], [], [], [(23, [6], [116, 1]), (23, [6], [-116, -1])], [], [])
theorem oo_jLat_charAt_v530_0 {kA : Nat → ClassId} : or_ok PRD kA GG o_jLat_charAt_v530_0 := by
  refine or_mk fun A ta ws vs hD hth hl => ?_
  intro t3 k3 t5 k5 t6 k6 f0 f1
  replace f0 := shm_47 f0
  replace f1 := shm_52 f1
  have nf0 : fc_1 PRD (23, [6], [116, 1]) ws (vs) := by
    refine ⟨nf_in hl rfl, sgq_79 ?_⟩
    · show 1 * v_iv (n_v vs 6) + 0 ≤ 116
      omega
  have nf1 : fc_1 PRD (23, [6], [-116, -1]) ws (vs) := by
    refine ⟨nf_in hl rfl, sgq_80 ?_⟩
    · show (-1) * v_iv (n_v vs 6) + 0 ≤ (-116)
      omega
  refine ⟨(fun _ h => (by cases h)), [], trivial, ?_, (fun _ h => (by cases h))⟩
  rw [List.append_nil]
  exact List.forall_mem_cons.mpr ⟨⟨show (23 : Nat) < 100 from by decide, nf0⟩, List.forall_mem_cons.mpr ⟨⟨show (23 : Nat) < 100 from by decide, nf1⟩, (fun _ h => (by cases h))⟩⟩
def n_jLat_charAt_v530_an : List an_T := []
def t_jLat_charAt_v530_ct : ct_L := [(12, 9, e_jStr_checkIndex_v531), (1000004, 0, en_ro [(2, 0, 0, [5212])] (0, 17, 17, [])), (1000005, 0, en_ro [(2, 0, 0, [5212]), (0, 9, 9, [])] (0, 116, 116, []))]
set_option maxRecDepth 100000 in
theorem c_jLat_charAt_v530 {l : Launch} {D : va_G} {kA : Nat → ClassId} : ct_ok PRD l D kA GG y_jLat_charAt z_jLat_charAt e_jLat_charAt_v530 := chk_all_ok (FT := []) (PT := []) (CT := t_jLat_charAt_v530_ct) (KT := []) (NT := []) (AN := n_jLat_charAt_v530_an) (OT := [o_jLat_charAt_v530_0]) 0 200 (List.forall_mem_cons.mpr ⟨oo_jLat_charAt_v530_0, List.forall_mem_nil _⟩) (by decide +kernel) ⟨List.forall_mem_nil _, List.forall_mem_nil _, List.forall_mem_cons.mpr ⟨cl_static (y := y_jStr_checkIndex) c_jStr_checkIndex_v531 wm_694 wm_11 wm_692 wm_693 ⟨by decide, by decide, by decide +kernel⟩ (by decide), List.forall_mem_cons.mpr ⟨cl_tlen (i := 12) (n := 17) rfl (by decide +kernel) (by decide +kernel) (by decide +kernel), List.forall_mem_cons.mpr ⟨cl_tbyte1 (i := 12) (n := 17) (k := 9) rfl (by decide +kernel) (by decide +kernel) (by decide) (by decide +kernel), List.forall_mem_nil _⟩⟩⟩, List.forall_mem_nil _, List.forall_mem_nil _, GG_pl⟩ (by decide +kernel)
def e_jLat_charAt_v534 : en_T := ([(2, 0, 0, [5212]), (0, 10, 10, [])], some (0, 0, 65535, []), true, 3, 0, 0, [], [], (0, [], [], [(23, [2], [104, 1]), (23, [2], [-104, -1])], []))
def o_jLat_charAt_v534_0 : or_T := (14, 7, [(3, (0, 104, 104, [])), (5, (0, 0, 104, [])), (6, (0, 0, 65535, []))], [(22, [6, 5], []), (12, [5, 3], [256])], [], [], [(23, [6], [104, 1]), (23, [6], [-104, -1])], [], [])
theorem oo_jLat_charAt_v534_0 {kA : Nat → ClassId} : or_ok PRD kA GG o_jLat_charAt_v534_0 := by
  refine or_mk fun A ta ws vs hD hth hl => ?_
  intro t3 k3 t5 k5 t6 k6 f0 f1
  replace f0 := shm_47 f0
  replace f1 := shm_52 f1
  have nf0 : fc_1 PRD (23, [6], [104, 1]) ws (vs) := by
    refine ⟨nf_in hl rfl, sgq_77 ?_⟩
    · show 1 * v_iv (n_v vs 6) + 0 ≤ 104
      omega
  have nf1 : fc_1 PRD (23, [6], [-104, -1]) ws (vs) := by
    refine ⟨nf_in hl rfl, sgq_78 ?_⟩
    · show (-1) * v_iv (n_v vs 6) + 0 ≤ (-104)
      omega
  refine ⟨(fun _ h => (by cases h)), [], trivial, ?_, (fun _ h => (by cases h))⟩
  rw [List.append_nil]
  exact List.forall_mem_cons.mpr ⟨⟨show (23 : Nat) < 100 from by decide, nf0⟩, List.forall_mem_cons.mpr ⟨⟨show (23 : Nat) < 100 from by decide, nf1⟩, (fun _ h => (by cases h))⟩⟩
def n_jLat_charAt_v534_an : List an_T := []
def t_jLat_charAt_v534_ct : ct_L := [(12, 9, e_jStr_checkIndex_v535), (1000004, 0, en_ro [(2, 0, 0, [5212])] (0, 17, 17, [])), (1000005, 0, en_ro [(2, 0, 0, [5212]), (0, 10, 10, [])] (0, 104, 104, []))]
set_option maxRecDepth 100000 in
theorem c_jLat_charAt_v534 {l : Launch} {D : va_G} {kA : Nat → ClassId} : ct_ok PRD l D kA GG y_jLat_charAt z_jLat_charAt e_jLat_charAt_v534 := chk_all_ok (FT := []) (PT := []) (CT := t_jLat_charAt_v534_ct) (KT := []) (NT := []) (AN := n_jLat_charAt_v534_an) (OT := [o_jLat_charAt_v534_0]) 0 200 (List.forall_mem_cons.mpr ⟨oo_jLat_charAt_v534_0, List.forall_mem_nil _⟩) (by decide +kernel) ⟨List.forall_mem_nil _, List.forall_mem_nil _, List.forall_mem_cons.mpr ⟨cl_static (y := y_jStr_checkIndex) c_jStr_checkIndex_v535 wm_694 wm_11 wm_692 wm_693 ⟨by decide, by decide, by decide +kernel⟩ (by decide), List.forall_mem_cons.mpr ⟨cl_tlen (i := 12) (n := 17) rfl (by decide +kernel) (by decide +kernel) (by decide +kernel), List.forall_mem_cons.mpr ⟨cl_tbyte1 (i := 12) (n := 17) (k := 10) rfl (by decide +kernel) (by decide +kernel) (by decide) (by decide +kernel), List.forall_mem_nil _⟩⟩⟩, List.forall_mem_nil _, List.forall_mem_nil _, GG_pl⟩ (by decide +kernel)
def e_jLat_charAt_v538 : en_T := ([(2, 0, 0, [5212]), (0, 11, 11, [])], some (0, 0, 65535, []), true, 3, 0, 0, [], [], (0, [], [], [(23, [2], [32, 1]), (23, [2], [-32, -1])], []))
def o_jLat_charAt_v538_0 : or_T := (14, 7, [(3, (0, 32, 32, [])), (5, (0, 0, 32, [])), (6, (0, 0, 65535, []))], [(22, [6, 5], []), (12, [5, 3], [256])], [], [], [(23, [6], [32, 1]), (23, [6], [-32, -1])], [], [])
theorem oo_jLat_charAt_v538_0 {kA : Nat → ClassId} : or_ok PRD kA GG o_jLat_charAt_v538_0 := by
  refine or_mk fun A ta ws vs hD hth hl => ?_
  intro t3 k3 t5 k5 t6 k6 f0 f1
  replace f0 := shm_47 f0
  replace f1 := shm_52 f1
  have nf0 : fc_1 PRD (23, [6], [32, 1]) ws (vs) := by
    refine ⟨nf_in hl rfl, sgq_81 ?_⟩
    · show 1 * v_iv (n_v vs 6) + 0 ≤ 32
      omega
  have nf1 : fc_1 PRD (23, [6], [-32, -1]) ws (vs) := by
    refine ⟨nf_in hl rfl, sgq_82 ?_⟩
    · show (-1) * v_iv (n_v vs 6) + 0 ≤ (-32)
      omega
  refine ⟨(fun _ h => (by cases h)), [], trivial, ?_, (fun _ h => (by cases h))⟩
  rw [List.append_nil]
  exact List.forall_mem_cons.mpr ⟨⟨show (23 : Nat) < 100 from by decide, nf0⟩, List.forall_mem_cons.mpr ⟨⟨show (23 : Nat) < 100 from by decide, nf1⟩, (fun _ h => (by cases h))⟩⟩
def n_jLat_charAt_v538_an : List an_T := []
def t_jLat_charAt_v538_ct : ct_L := [(12, 9, e_jStr_checkIndex_v539), (1000004, 0, en_ro [(2, 0, 0, [5212])] (0, 17, 17, [])), (1000005, 0, en_ro [(2, 0, 0, [5212]), (0, 11, 11, [])] (0, 32, 32, []))]
set_option maxRecDepth 100000 in
theorem c_jLat_charAt_v538 {l : Launch} {D : va_G} {kA : Nat → ClassId} : ct_ok PRD l D kA GG y_jLat_charAt z_jLat_charAt e_jLat_charAt_v538 := chk_all_ok (FT := []) (PT := []) (CT := t_jLat_charAt_v538_ct) (KT := []) (NT := []) (AN := n_jLat_charAt_v538_an) (OT := [o_jLat_charAt_v538_0]) 0 200 (List.forall_mem_cons.mpr ⟨oo_jLat_charAt_v538_0, List.forall_mem_nil _⟩) (by decide +kernel) ⟨List.forall_mem_nil _, List.forall_mem_nil _, List.forall_mem_cons.mpr ⟨cl_static (y := y_jStr_checkIndex) c_jStr_checkIndex_v539 wm_694 wm_11 wm_692 wm_693 ⟨by decide, by decide, by decide +kernel⟩ (by decide), List.forall_mem_cons.mpr ⟨cl_tlen (i := 12) (n := 17) rfl (by decide +kernel) (by decide +kernel) (by decide +kernel), List.forall_mem_cons.mpr ⟨cl_tbyte1 (i := 12) (n := 17) (k := 11) rfl (by decide +kernel) (by decide +kernel) (by decide) (by decide +kernel), List.forall_mem_nil _⟩⟩⟩, List.forall_mem_nil _, List.forall_mem_nil _, GG_pl⟩ (by decide +kernel)
def e_jLat_charAt_v542 : en_T := ([(2, 0, 0, [5212]), (0, 12, 12, [])], some (0, 0, 65535, []), true, 3, 0, 0, [], [], (0, [], [], [(23, [2], [102, 1]), (23, [2], [-102, -1])], []))
def o_jLat_charAt_v542_0 : or_T := (14, 7, [(3, (0, 102, 102, [])), (5, (0, 0, 102, [])), (6, (0, 0, 65535, []))], [(22, [6, 5], []), (12, [5, 3], [256])], [], [], [(23, [6], [102, 1]), (23, [6], [-102, -1])], [], [])
theorem oo_jLat_charAt_v542_0 {kA : Nat → ClassId} : or_ok PRD kA GG o_jLat_charAt_v542_0 := by
  refine or_mk fun A ta ws vs hD hth hl => ?_
  intro t3 k3 t5 k5 t6 k6 f0 f1
  replace f0 := shm_47 f0
  replace f1 := shm_52 f1
  have nf0 : fc_1 PRD (23, [6], [102, 1]) ws (vs) := by
    refine ⟨nf_in hl rfl, sgq_83 ?_⟩
    · show 1 * v_iv (n_v vs 6) + 0 ≤ 102
      omega
  have nf1 : fc_1 PRD (23, [6], [-102, -1]) ws (vs) := by
    refine ⟨nf_in hl rfl, sgq_84 ?_⟩
    · show (-1) * v_iv (n_v vs 6) + 0 ≤ (-102)
      omega
  refine ⟨(fun _ h => (by cases h)), [], trivial, ?_, (fun _ h => (by cases h))⟩
  rw [List.append_nil]
  exact List.forall_mem_cons.mpr ⟨⟨show (23 : Nat) < 100 from by decide, nf0⟩, List.forall_mem_cons.mpr ⟨⟨show (23 : Nat) < 100 from by decide, nf1⟩, (fun _ h => (by cases h))⟩⟩
def n_jLat_charAt_v542_an : List an_T := []
def t_jLat_charAt_v542_ct : ct_L := [(12, 9, e_jStr_checkIndex_v543), (1000004, 0, en_ro [(2, 0, 0, [5212])] (0, 17, 17, [])), (1000005, 0, en_ro [(2, 0, 0, [5212]), (0, 12, 12, [])] (0, 102, 102, []))]
set_option maxRecDepth 100000 in
theorem c_jLat_charAt_v542 {l : Launch} {D : va_G} {kA : Nat → ClassId} : ct_ok PRD l D kA GG y_jLat_charAt z_jLat_charAt e_jLat_charAt_v542 := chk_all_ok (FT := []) (PT := []) (CT := t_jLat_charAt_v542_ct) (KT := []) (NT := []) (AN := n_jLat_charAt_v542_an) (OT := [o_jLat_charAt_v542_0]) 0 200 (List.forall_mem_cons.mpr ⟨oo_jLat_charAt_v542_0, List.forall_mem_nil _⟩) (by decide +kernel) ⟨List.forall_mem_nil _, List.forall_mem_nil _, List.forall_mem_cons.mpr ⟨cl_static (y := y_jStr_checkIndex) c_jStr_checkIndex_v543 wm_694 wm_11 wm_692 wm_693 ⟨by decide, by decide, by decide +kernel⟩ (by decide), List.forall_mem_cons.mpr ⟨cl_tlen (i := 12) (n := 17) rfl (by decide +kernel) (by decide +kernel) (by decide +kernel), List.forall_mem_cons.mpr ⟨cl_tbyte1 (i := 12) (n := 17) (k := 12) rfl (by decide +kernel) (by decide +kernel) (by decide) (by decide +kernel), List.forall_mem_nil _⟩⟩⟩, List.forall_mem_nil _, List.forall_mem_nil _, GG_pl⟩ (by decide +kernel)
def e_jLat_charAt_v546 : en_T := ([(2, 0, 0, [5212]), (0, 13, 13, [])], some (0, 0, 65535, []), true, 3, 0, 0, [], [], (0, [], [], [(23, [2], [111, 1]), (23, [2], [-111, -1])], []))
def o_jLat_charAt_v546_0 : or_T := (14, 7, [(3, (0, 111, 111, [])), (5, (0, 0, 111, [])), (6, (0, 0, 65535, []))], [(22, [6, 5], []), (12, [5, 3], [256])], [], [], [(23, [6], [111, 1]), (23, [6], [-111, -1])], [], [])
theorem oo_jLat_charAt_v546_0 {kA : Nat → ClassId} : or_ok PRD kA GG o_jLat_charAt_v546_0 := by
  refine or_mk fun A ta ws vs hD hth hl => ?_
  intro t3 k3 t5 k5 t6 k6 f0 f1
  replace f0 := shm_47 f0
  replace f1 := shm_52 f1
  have nf0 : fc_1 PRD (23, [6], [111, 1]) ws (vs) := by
    refine ⟨nf_in hl rfl, sgq_55 ?_⟩
    · show 1 * v_iv (n_v vs 6) + 0 ≤ 111
      omega
  have nf1 : fc_1 PRD (23, [6], [-111, -1]) ws (vs) := by
    refine ⟨nf_in hl rfl, sgq_56 ?_⟩
    · show (-1) * v_iv (n_v vs 6) + 0 ≤ (-111)
      omega
  refine ⟨(fun _ h => (by cases h)), [], trivial, ?_, (fun _ h => (by cases h))⟩
  rw [List.append_nil]
  exact List.forall_mem_cons.mpr ⟨⟨show (23 : Nat) < 100 from by decide, nf0⟩, List.forall_mem_cons.mpr ⟨⟨show (23 : Nat) < 100 from by decide, nf1⟩, (fun _ h => (by cases h))⟩⟩
def n_jLat_charAt_v546_an : List an_T := []
def t_jLat_charAt_v546_ct : ct_L := [(12, 9, e_jStr_checkIndex_v547), (1000004, 0, en_ro [(2, 0, 0, [5212])] (0, 17, 17, [])), (1000005, 0, en_ro [(2, 0, 0, [5212]), (0, 13, 13, [])] (0, 111, 111, []))]
set_option maxRecDepth 100000 in
theorem c_jLat_charAt_v546 {l : Launch} {D : va_G} {kA : Nat → ClassId} : ct_ok PRD l D kA GG y_jLat_charAt z_jLat_charAt e_jLat_charAt_v546 := chk_all_ok (FT := []) (PT := []) (CT := t_jLat_charAt_v546_ct) (KT := []) (NT := []) (AN := n_jLat_charAt_v546_an) (OT := [o_jLat_charAt_v546_0]) 0 200 (List.forall_mem_cons.mpr ⟨oo_jLat_charAt_v546_0, List.forall_mem_nil _⟩) (by decide +kernel) ⟨List.forall_mem_nil _, List.forall_mem_nil _, List.forall_mem_cons.mpr ⟨cl_static (y := y_jStr_checkIndex) c_jStr_checkIndex_v547 wm_694 wm_11 wm_692 wm_693 ⟨by decide, by decide, by decide +kernel⟩ (by decide), List.forall_mem_cons.mpr ⟨cl_tlen (i := 12) (n := 17) rfl (by decide +kernel) (by decide +kernel) (by decide +kernel), List.forall_mem_cons.mpr ⟨cl_tbyte1 (i := 12) (n := 17) (k := 13) rfl (by decide +kernel) (by decide +kernel) (by decide) (by decide +kernel), List.forall_mem_nil _⟩⟩⟩, List.forall_mem_nil _, List.forall_mem_nil _, GG_pl⟩ (by decide +kernel)
def e_jLat_charAt_v550 : en_T := ([(2, 0, 0, [5212]), (0, 14, 14, [])], some (0, 0, 65535, []), true, 3, 0, 0, [], [], (0, [], [], [(23, [2], [114, 1]), (23, [2], [-114, -1])], []))
def o_jLat_charAt_v550_0 : or_T := (14, 7, [(3, (0, 114, 114, [])), (5, (0, 0, 114, [])), (6, (0, 0, 65535, []))], [(22, [6, 5], []), (12, [5, 3], [256])], [], [], [(23, [6], [114, 1]), (23, [6], [-114, -1])], [], [])
theorem oo_jLat_charAt_v550_0 {kA : Nat → ClassId} : or_ok PRD kA GG o_jLat_charAt_v550_0 := by
  refine or_mk fun A ta ws vs hD hth hl => ?_
  intro t3 k3 t5 k5 t6 k6 f0 f1
  replace f0 := shm_47 f0
  replace f1 := shm_52 f1
  have nf0 : fc_1 PRD (23, [6], [114, 1]) ws (vs) := by
    refine ⟨nf_in hl rfl, sgq_63 ?_⟩
    · show 1 * v_iv (n_v vs 6) + 0 ≤ 114
      omega
  have nf1 : fc_1 PRD (23, [6], [-114, -1]) ws (vs) := by
    refine ⟨nf_in hl rfl, sgq_64 ?_⟩
    · show (-1) * v_iv (n_v vs 6) + 0 ≤ (-114)
      omega
  refine ⟨(fun _ h => (by cases h)), [], trivial, ?_, (fun _ h => (by cases h))⟩
  rw [List.append_nil]
  exact List.forall_mem_cons.mpr ⟨⟨show (23 : Nat) < 100 from by decide, nf0⟩, List.forall_mem_cons.mpr ⟨⟨show (23 : Nat) < 100 from by decide, nf1⟩, (fun _ h => (by cases h))⟩⟩
def n_jLat_charAt_v550_an : List an_T := []
def t_jLat_charAt_v550_ct : ct_L := [(12, 9, e_jStr_checkIndex_v551), (1000004, 0, en_ro [(2, 0, 0, [5212])] (0, 17, 17, [])), (1000005, 0, en_ro [(2, 0, 0, [5212]), (0, 14, 14, [])] (0, 114, 114, []))]
set_option maxRecDepth 100000 in
theorem c_jLat_charAt_v550 {l : Launch} {D : va_G} {kA : Nat → ClassId} : ct_ok PRD l D kA GG y_jLat_charAt z_jLat_charAt e_jLat_charAt_v550 := chk_all_ok (FT := []) (PT := []) (CT := t_jLat_charAt_v550_ct) (KT := []) (NT := []) (AN := n_jLat_charAt_v550_an) (OT := [o_jLat_charAt_v550_0]) 0 200 (List.forall_mem_cons.mpr ⟨oo_jLat_charAt_v550_0, List.forall_mem_nil _⟩) (by decide +kernel) ⟨List.forall_mem_nil _, List.forall_mem_nil _, List.forall_mem_cons.mpr ⟨cl_static (y := y_jStr_checkIndex) c_jStr_checkIndex_v551 wm_694 wm_11 wm_692 wm_693 ⟨by decide, by decide, by decide +kernel⟩ (by decide), List.forall_mem_cons.mpr ⟨cl_tlen (i := 12) (n := 17) rfl (by decide +kernel) (by decide +kernel) (by decide +kernel), List.forall_mem_cons.mpr ⟨cl_tbyte1 (i := 12) (n := 17) (k := 14) rfl (by decide +kernel) (by decide +kernel) (by decide) (by decide +kernel), List.forall_mem_nil _⟩⟩⟩, List.forall_mem_nil _, List.forall_mem_nil _, GG_pl⟩ (by decide +kernel)
def e_jLat_charAt_v554 : en_T := ([(2, 0, 0, [5212]), (0, 15, 15, [])], some (0, 0, 65535, []), true, 3, 0, 0, [], [], (0, [], [], [(23, [2], [109, 1]), (23, [2], [-109, -1])], []))
def o_jLat_charAt_v554_0 : or_T := (14, 7, [(3, (0, 109, 109, [])), (5, (0, 0, 109, [])), (6, (0, 0, 65535, []))], [(22, [6, 5], []), (12, [5, 3], [256])], [], [], [(23, [6], [109, 1]), (23, [6], [-109, -1])], [], [])
theorem oo_jLat_charAt_v554_0 {kA : Nat → ClassId} : or_ok PRD kA GG o_jLat_charAt_v554_0 := by
  refine or_mk fun A ta ws vs hD hth hl => ?_
  intro t3 k3 t5 k5 t6 k6 f0 f1
  replace f0 := shm_47 f0
  replace f1 := shm_52 f1
  have nf0 : fc_1 PRD (23, [6], [109, 1]) ws (vs) := by
    refine ⟨nf_in hl rfl, sgq_91 ?_⟩
    · show 1 * v_iv (n_v vs 6) + 0 ≤ 109
      omega
  have nf1 : fc_1 PRD (23, [6], [-109, -1]) ws (vs) := by
    refine ⟨nf_in hl rfl, sgq_92 ?_⟩
    · show (-1) * v_iv (n_v vs 6) + 0 ≤ (-109)
      omega
  refine ⟨(fun _ h => (by cases h)), [], trivial, ?_, (fun _ h => (by cases h))⟩
  rw [List.append_nil]
  exact List.forall_mem_cons.mpr ⟨⟨show (23 : Nat) < 100 from by decide, nf0⟩, List.forall_mem_cons.mpr ⟨⟨show (23 : Nat) < 100 from by decide, nf1⟩, (fun _ h => (by cases h))⟩⟩
def n_jLat_charAt_v554_an : List an_T := []
def t_jLat_charAt_v554_ct : ct_L := [(12, 9, e_jStr_checkIndex_v555), (1000004, 0, en_ro [(2, 0, 0, [5212])] (0, 17, 17, [])), (1000005, 0, en_ro [(2, 0, 0, [5212]), (0, 15, 15, [])] (0, 109, 109, []))]
set_option maxRecDepth 100000 in
theorem c_jLat_charAt_v554 {l : Launch} {D : va_G} {kA : Nat → ClassId} : ct_ok PRD l D kA GG y_jLat_charAt z_jLat_charAt e_jLat_charAt_v554 := chk_all_ok (FT := []) (PT := []) (CT := t_jLat_charAt_v554_ct) (KT := []) (NT := []) (AN := n_jLat_charAt_v554_an) (OT := [o_jLat_charAt_v554_0]) 0 200 (List.forall_mem_cons.mpr ⟨oo_jLat_charAt_v554_0, List.forall_mem_nil _⟩) (by decide +kernel) ⟨List.forall_mem_nil _, List.forall_mem_nil _, List.forall_mem_cons.mpr ⟨cl_static (y := y_jStr_checkIndex) c_jStr_checkIndex_v555 wm_694 wm_11 wm_692 wm_693 ⟨by decide, by decide, by decide +kernel⟩ (by decide), List.forall_mem_cons.mpr ⟨cl_tlen (i := 12) (n := 17) rfl (by decide +kernel) (by decide +kernel) (by decide +kernel), List.forall_mem_cons.mpr ⟨cl_tbyte1 (i := 12) (n := 17) (k := 15) rfl (by decide +kernel) (by decide +kernel) (by decide) (by decide +kernel), List.forall_mem_nil _⟩⟩⟩, List.forall_mem_nil _, List.forall_mem_nil _, GG_pl⟩ (by decide +kernel)
def e_jLat_charAt_v558 : en_T := ([(2, 0, 0, [5212]), (0, 16, 16, [])], some (0, 0, 65535, []), true, 3, 0, 0, [], [], (0, [], [], [(23, [2], [32, 1]), (23, [2], [-32, -1])], []))
def o_jLat_charAt_v558_0 : or_T := (14, 7, [(3, (0, 32, 32, [])), (5, (0, 0, 32, [])), (6, (0, 0, 65535, []))], [(22, [6, 5], []), (12, [5, 3], [256])], [], [], [(23, [6], [32, 1]), (23, [6], [-32, -1])], [], [])
theorem oo_jLat_charAt_v558_0 {kA : Nat → ClassId} : or_ok PRD kA GG o_jLat_charAt_v558_0 := by
  refine or_mk fun A ta ws vs hD hth hl => ?_
  intro t3 k3 t5 k5 t6 k6 f0 f1
  replace f0 := shm_47 f0
  replace f1 := shm_52 f1
  have nf0 : fc_1 PRD (23, [6], [32, 1]) ws (vs) := by
    refine ⟨nf_in hl rfl, sgq_81 ?_⟩
    · show 1 * v_iv (n_v vs 6) + 0 ≤ 32
      omega
  have nf1 : fc_1 PRD (23, [6], [-32, -1]) ws (vs) := by
    refine ⟨nf_in hl rfl, sgq_82 ?_⟩
    · show (-1) * v_iv (n_v vs 6) + 0 ≤ (-32)
      omega
  refine ⟨(fun _ h => (by cases h)), [], trivial, ?_, (fun _ h => (by cases h))⟩
  rw [List.append_nil]
  exact List.forall_mem_cons.mpr ⟨⟨show (23 : Nat) < 100 from by decide, nf0⟩, List.forall_mem_cons.mpr ⟨⟨show (23 : Nat) < 100 from by decide, nf1⟩, (fun _ h => (by cases h))⟩⟩
def n_jLat_charAt_v558_an : List an_T := []
def t_jLat_charAt_v558_ct : ct_L := [(12, 9, e_jStr_checkIndex_v559), (1000004, 0, en_ro [(2, 0, 0, [5212])] (0, 17, 17, [])), (1000005, 0, en_ro [(2, 0, 0, [5212]), (0, 16, 16, [])] (0, 32, 32, []))]
set_option maxRecDepth 100000 in
theorem c_jLat_charAt_v558 {l : Launch} {D : va_G} {kA : Nat → ClassId} : ct_ok PRD l D kA GG y_jLat_charAt z_jLat_charAt e_jLat_charAt_v558 := chk_all_ok (FT := []) (PT := []) (CT := t_jLat_charAt_v558_ct) (KT := []) (NT := []) (AN := n_jLat_charAt_v558_an) (OT := [o_jLat_charAt_v558_0]) 0 200 (List.forall_mem_cons.mpr ⟨oo_jLat_charAt_v558_0, List.forall_mem_nil _⟩) (by decide +kernel) ⟨List.forall_mem_nil _, List.forall_mem_nil _, List.forall_mem_cons.mpr ⟨cl_static (y := y_jStr_checkIndex) c_jStr_checkIndex_v559 wm_694 wm_11 wm_692 wm_693 ⟨by decide, by decide, by decide +kernel⟩ (by decide), List.forall_mem_cons.mpr ⟨cl_tlen (i := 12) (n := 17) rfl (by decide +kernel) (by decide +kernel) (by decide +kernel), List.forall_mem_cons.mpr ⟨cl_tbyte1 (i := 12) (n := 17) (k := 16) rfl (by decide +kernel) (by decide +kernel) (by decide) (by decide +kernel), List.forall_mem_nil _⟩⟩⟩, List.forall_mem_nil _, List.forall_mem_nil _, GG_pl⟩ (by decide +kernel)
def e_jLat_charAt_v568 : en_T := ([(2, 0, 0, [5222]), (0, 0, 0, [])], some (0, 0, 65535, []), true, 3, 0, 0, [], [], (0, [], [], [(23, [2], [101, 1]), (23, [2], [-101, -1])], []))
def o_jLat_charAt_v568_0 : or_T := (14, 7, [(3, (0, 101, 101, [])), (5, (0, 0, 101, [])), (6, (0, 0, 65535, []))], [(22, [6, 5], []), (12, [5, 3], [256])], [], [], [(23, [6], [101, 1]), (23, [6], [-101, -1])], [], [])
theorem oo_jLat_charAt_v568_0 {kA : Nat → ClassId} : or_ok PRD kA GG o_jLat_charAt_v568_0 := by
  refine or_mk fun A ta ws vs hD hth hl => ?_
  intro t3 k3 t5 k5 t6 k6 f0 f1
  replace f0 := shm_47 f0
  replace f1 := shm_52 f1
  have nf0 : fc_1 PRD (23, [6], [101, 1]) ws (vs) := by
    refine ⟨nf_in hl rfl, sgq_59 ?_⟩
    · show 1 * v_iv (n_v vs 6) + 0 ≤ 101
      omega
  have nf1 : fc_1 PRD (23, [6], [-101, -1]) ws (vs) := by
    refine ⟨nf_in hl rfl, sgq_60 ?_⟩
    · show (-1) * v_iv (n_v vs 6) + 0 ≤ (-101)
      omega
  refine ⟨(fun _ h => (by cases h)), [], trivial, ?_, (fun _ h => (by cases h))⟩
  rw [List.append_nil]
  exact List.forall_mem_cons.mpr ⟨⟨show (23 : Nat) < 100 from by decide, nf0⟩, List.forall_mem_cons.mpr ⟨⟨show (23 : Nat) < 100 from by decide, nf1⟩, (fun _ h => (by cases h))⟩⟩
def n_jLat_charAt_v568_an : List an_T := []
def t_jLat_charAt_v568_ct : ct_L := [(12, 9, e_jStr_checkIndex_v292), (1000004, 0, en_ro [(2, 0, 0, [5222])] (0, 4, 4, [])), (1000005, 0, en_ro [(2, 0, 0, [5222]), (0, 0, 0, [])] (0, 101, 101, []))]
set_option maxRecDepth 100000 in
theorem c_jLat_charAt_v568 {l : Launch} {D : va_G} {kA : Nat → ClassId} : ct_ok PRD l D kA GG y_jLat_charAt z_jLat_charAt e_jLat_charAt_v568 := chk_all_ok (FT := []) (PT := []) (CT := t_jLat_charAt_v568_ct) (KT := []) (NT := []) (AN := n_jLat_charAt_v568_an) (OT := [o_jLat_charAt_v568_0]) 0 200 (List.forall_mem_cons.mpr ⟨oo_jLat_charAt_v568_0, List.forall_mem_nil _⟩) (by decide +kernel) ⟨List.forall_mem_nil _, List.forall_mem_nil _, List.forall_mem_cons.mpr ⟨cl_static (y := y_jStr_checkIndex) c_jStr_checkIndex_v292 wm_694 wm_11 wm_692 wm_693 ⟨by decide, by decide, by decide +kernel⟩ (by decide), List.forall_mem_cons.mpr ⟨cl_tlen (i := 22) (n := 4) rfl (by decide +kernel) (by decide +kernel) (by decide +kernel), List.forall_mem_cons.mpr ⟨cl_tbyte1 (i := 22) (n := 4) (k := 0) rfl (by decide +kernel) (by decide +kernel) (by decide) (by decide +kernel), List.forall_mem_nil _⟩⟩⟩, List.forall_mem_nil _, List.forall_mem_nil _, GG_pl⟩ (by decide +kernel)
def e_jLat_charAt_v570 : en_T := ([(2, 0, 0, [5222]), (0, 1, 1, [])], some (0, 0, 65535, []), true, 3, 0, 0, [], [], (0, [], [], [(23, [2], [100, 1]), (23, [2], [-100, -1])], []))
def o_jLat_charAt_v570_0 : or_T := (14, 7, [(3, (0, 100, 100, [])), (5, (0, 0, 100, [])), (6, (0, 0, 65535, []))], [(22, [6, 5], []), (12, [5, 3], [256])], [], [], [(23, [6], [100, 1]), (23, [6], [-100, -1])], [], [])
theorem oo_jLat_charAt_v570_0 {kA : Nat → ClassId} : or_ok PRD kA GG o_jLat_charAt_v570_0 := by
  refine or_mk fun A ta ws vs hD hth hl => ?_
  intro t3 k3 t5 k5 t6 k6 f0 f1
  replace f0 := shm_47 f0
  replace f1 := shm_52 f1
  have nf0 : fc_1 PRD (23, [6], [100, 1]) ws (vs) := by
    refine ⟨nf_in hl rfl, sgq_57 ?_⟩
    · show 1 * v_iv (n_v vs 6) + 0 ≤ 100
      omega
  have nf1 : fc_1 PRD (23, [6], [-100, -1]) ws (vs) := by
    refine ⟨nf_in hl rfl, sgq_58 ?_⟩
    · show (-1) * v_iv (n_v vs 6) + 0 ≤ (-100)
      omega
  refine ⟨(fun _ h => (by cases h)), [], trivial, ?_, (fun _ h => (by cases h))⟩
  rw [List.append_nil]
  exact List.forall_mem_cons.mpr ⟨⟨show (23 : Nat) < 100 from by decide, nf0⟩, List.forall_mem_cons.mpr ⟨⟨show (23 : Nat) < 100 from by decide, nf1⟩, (fun _ h => (by cases h))⟩⟩
def n_jLat_charAt_v570_an : List an_T := []
def t_jLat_charAt_v570_ct : ct_L := [(12, 9, e_jStr_checkIndex_v296), (1000004, 0, en_ro [(2, 0, 0, [5222])] (0, 4, 4, [])), (1000005, 0, en_ro [(2, 0, 0, [5222]), (0, 1, 1, [])] (0, 100, 100, []))]
set_option maxRecDepth 100000 in
theorem c_jLat_charAt_v570 {l : Launch} {D : va_G} {kA : Nat → ClassId} : ct_ok PRD l D kA GG y_jLat_charAt z_jLat_charAt e_jLat_charAt_v570 := chk_all_ok (FT := []) (PT := []) (CT := t_jLat_charAt_v570_ct) (KT := []) (NT := []) (AN := n_jLat_charAt_v570_an) (OT := [o_jLat_charAt_v570_0]) 0 200 (List.forall_mem_cons.mpr ⟨oo_jLat_charAt_v570_0, List.forall_mem_nil _⟩) (by decide +kernel) ⟨List.forall_mem_nil _, List.forall_mem_nil _, List.forall_mem_cons.mpr ⟨cl_static (y := y_jStr_checkIndex) c_jStr_checkIndex_v296 wm_694 wm_11 wm_692 wm_693 ⟨by decide, by decide, by decide +kernel⟩ (by decide), List.forall_mem_cons.mpr ⟨cl_tlen (i := 22) (n := 4) rfl (by decide +kernel) (by decide +kernel) (by decide +kernel), List.forall_mem_cons.mpr ⟨cl_tbyte1 (i := 22) (n := 4) (k := 1) rfl (by decide +kernel) (by decide +kernel) (by decide) (by decide +kernel), List.forall_mem_nil _⟩⟩⟩, List.forall_mem_nil _, List.forall_mem_nil _, GG_pl⟩ (by decide +kernel)
def e_jLat_charAt_v572 : en_T := ([(2, 0, 0, [5222]), (0, 2, 2, [])], some (0, 0, 65535, []), true, 3, 0, 0, [], [], (0, [], [], [(23, [2], [103, 1]), (23, [2], [-103, -1])], []))
def o_jLat_charAt_v572_0 : or_T := (14, 7, [(3, (0, 103, 103, [])), (5, (0, 0, 103, [])), (6, (0, 0, 65535, []))], [(22, [6, 5], []), (12, [5, 3], [256])], [], [], [(23, [6], [103, 1]), (23, [6], [-103, -1])], [], [])
theorem oo_jLat_charAt_v572_0 {kA : Nat → ClassId} : or_ok PRD kA GG o_jLat_charAt_v572_0 := by
  refine or_mk fun A ta ws vs hD hth hl => ?_
  intro t3 k3 t5 k5 t6 k6 f0 f1
  replace f0 := shm_47 f0
  replace f1 := shm_52 f1
  have nf0 : fc_1 PRD (23, [6], [103, 1]) ws (vs) := by
    refine ⟨nf_in hl rfl, sgq_61 ?_⟩
    · show 1 * v_iv (n_v vs 6) + 0 ≤ 103
      omega
  have nf1 : fc_1 PRD (23, [6], [-103, -1]) ws (vs) := by
    refine ⟨nf_in hl rfl, sgq_62 ?_⟩
    · show (-1) * v_iv (n_v vs 6) + 0 ≤ (-103)
      omega
  refine ⟨(fun _ h => (by cases h)), [], trivial, ?_, (fun _ h => (by cases h))⟩
  rw [List.append_nil]
  exact List.forall_mem_cons.mpr ⟨⟨show (23 : Nat) < 100 from by decide, nf0⟩, List.forall_mem_cons.mpr ⟨⟨show (23 : Nat) < 100 from by decide, nf1⟩, (fun _ h => (by cases h))⟩⟩
def n_jLat_charAt_v572_an : List an_T := []
def t_jLat_charAt_v572_ct : ct_L := [(12, 9, e_jStr_checkIndex_v300), (1000004, 0, en_ro [(2, 0, 0, [5222])] (0, 4, 4, [])), (1000005, 0, en_ro [(2, 0, 0, [5222]), (0, 2, 2, [])] (0, 103, 103, []))]
set_option maxRecDepth 100000 in
theorem c_jLat_charAt_v572 {l : Launch} {D : va_G} {kA : Nat → ClassId} : ct_ok PRD l D kA GG y_jLat_charAt z_jLat_charAt e_jLat_charAt_v572 := chk_all_ok (FT := []) (PT := []) (CT := t_jLat_charAt_v572_ct) (KT := []) (NT := []) (AN := n_jLat_charAt_v572_an) (OT := [o_jLat_charAt_v572_0]) 0 200 (List.forall_mem_cons.mpr ⟨oo_jLat_charAt_v572_0, List.forall_mem_nil _⟩) (by decide +kernel) ⟨List.forall_mem_nil _, List.forall_mem_nil _, List.forall_mem_cons.mpr ⟨cl_static (y := y_jStr_checkIndex) c_jStr_checkIndex_v300 wm_694 wm_11 wm_692 wm_693 ⟨by decide, by decide, by decide +kernel⟩ (by decide), List.forall_mem_cons.mpr ⟨cl_tlen (i := 22) (n := 4) rfl (by decide +kernel) (by decide +kernel) (by decide +kernel), List.forall_mem_cons.mpr ⟨cl_tbyte1 (i := 22) (n := 4) (k := 2) rfl (by decide +kernel) (by decide +kernel) (by decide) (by decide +kernel), List.forall_mem_nil _⟩⟩⟩, List.forall_mem_nil _, List.forall_mem_nil _, GG_pl⟩ (by decide +kernel)
def e_jLat_charAt_v574 : en_T := ([(2, 0, 0, [5222]), (0, 3, 3, [])], some (0, 0, 65535, []), true, 3, 0, 0, [], [], (0, [], [], [(23, [2], [101, 1]), (23, [2], [-101, -1])], []))
def o_jLat_charAt_v574_0 : or_T := (14, 7, [(3, (0, 101, 101, [])), (5, (0, 0, 101, [])), (6, (0, 0, 65535, []))], [(22, [6, 5], []), (12, [5, 3], [256])], [], [], [(23, [6], [101, 1]), (23, [6], [-101, -1])], [], [])
theorem oo_jLat_charAt_v574_0 {kA : Nat → ClassId} : or_ok PRD kA GG o_jLat_charAt_v574_0 := by
  refine or_mk fun A ta ws vs hD hth hl => ?_
  intro t3 k3 t5 k5 t6 k6 f0 f1
  replace f0 := shm_47 f0
  replace f1 := shm_52 f1
  have nf0 : fc_1 PRD (23, [6], [101, 1]) ws (vs) := by
    refine ⟨nf_in hl rfl, sgq_59 ?_⟩
    · show 1 * v_iv (n_v vs 6) + 0 ≤ 101
      omega
  have nf1 : fc_1 PRD (23, [6], [-101, -1]) ws (vs) := by
    refine ⟨nf_in hl rfl, sgq_60 ?_⟩
    · show (-1) * v_iv (n_v vs 6) + 0 ≤ (-101)
      omega
  refine ⟨(fun _ h => (by cases h)), [], trivial, ?_, (fun _ h => (by cases h))⟩
  rw [List.append_nil]
  exact List.forall_mem_cons.mpr ⟨⟨show (23 : Nat) < 100 from by decide, nf0⟩, List.forall_mem_cons.mpr ⟨⟨show (23 : Nat) < 100 from by decide, nf1⟩, (fun _ h => (by cases h))⟩⟩
def n_jLat_charAt_v574_an : List an_T := []
def t_jLat_charAt_v574_ct : ct_L := [(12, 9, e_jStr_checkIndex_v304), (1000004, 0, en_ro [(2, 0, 0, [5222])] (0, 4, 4, [])), (1000005, 0, en_ro [(2, 0, 0, [5222]), (0, 3, 3, [])] (0, 101, 101, []))]
set_option maxRecDepth 100000 in
theorem c_jLat_charAt_v574 {l : Launch} {D : va_G} {kA : Nat → ClassId} : ct_ok PRD l D kA GG y_jLat_charAt z_jLat_charAt e_jLat_charAt_v574 := chk_all_ok (FT := []) (PT := []) (CT := t_jLat_charAt_v574_ct) (KT := []) (NT := []) (AN := n_jLat_charAt_v574_an) (OT := [o_jLat_charAt_v574_0]) 0 200 (List.forall_mem_cons.mpr ⟨oo_jLat_charAt_v574_0, List.forall_mem_nil _⟩) (by decide +kernel) ⟨List.forall_mem_nil _, List.forall_mem_nil _, List.forall_mem_cons.mpr ⟨cl_static (y := y_jStr_checkIndex) c_jStr_checkIndex_v304 wm_694 wm_11 wm_692 wm_693 ⟨by decide, by decide, by decide +kernel⟩ (by decide), List.forall_mem_cons.mpr ⟨cl_tlen (i := 22) (n := 4) rfl (by decide +kernel) (by decide +kernel) (by decide +kernel), List.forall_mem_cons.mpr ⟨cl_tbyte1 (i := 22) (n := 4) (k := 3) rfl (by decide +kernel) (by decide +kernel) (by decide) (by decide +kernel), List.forall_mem_nil _⟩⟩⟩, List.forall_mem_nil _, List.forall_mem_nil _, GG_pl⟩ (by decide +kernel)
def e_jLat_charAt_v577 : en_T := ([(2, 0, 0, [5223]), (0, 0, 0, [])], some (0, 0, 65535, []), true, 3, 0, 0, [], [], (0, [], [], [(23, [2], [105, 1]), (23, [2], [-105, -1])], []))
def o_jLat_charAt_v577_0 : or_T := (14, 7, [(3, (0, 105, 105, [])), (5, (0, 0, 105, [])), (6, (0, 0, 65535, []))], [(22, [6, 5], []), (12, [5, 3], [256])], [], [], [(23, [6], [105, 1]), (23, [6], [-105, -1])], [], [])
theorem oo_jLat_charAt_v577_0 {kA : Nat → ClassId} : or_ok PRD kA GG o_jLat_charAt_v577_0 := by
  refine or_mk fun A ta ws vs hD hth hl => ?_
  intro t3 k3 t5 k5 t6 k6 f0 f1
  replace f0 := shm_47 f0
  replace f1 := shm_52 f1
  have nf0 : fc_1 PRD (23, [6], [105, 1]) ws (vs) := by
    refine ⟨nf_in hl rfl, sgq_71 ?_⟩
    · show 1 * v_iv (n_v vs 6) + 0 ≤ 105
      omega
  have nf1 : fc_1 PRD (23, [6], [-105, -1]) ws (vs) := by
    refine ⟨nf_in hl rfl, sgq_72 ?_⟩
    · show (-1) * v_iv (n_v vs 6) + 0 ≤ (-105)
      omega
  refine ⟨(fun _ h => (by cases h)), [], trivial, ?_, (fun _ h => (by cases h))⟩
  rw [List.append_nil]
  exact List.forall_mem_cons.mpr ⟨⟨show (23 : Nat) < 100 from by decide, nf0⟩, List.forall_mem_cons.mpr ⟨⟨show (23 : Nat) < 100 from by decide, nf1⟩, (fun _ h => (by cases h))⟩⟩
def n_jLat_charAt_v577_an : List an_T := []
def t_jLat_charAt_v577_ct : ct_L := [(12, 9, e_jStr_checkIndex_v578), (1000004, 0, en_ro [(2, 0, 0, [5223])] (0, 2, 2, [])), (1000005, 0, en_ro [(2, 0, 0, [5223]), (0, 0, 0, [])] (0, 105, 105, []))]
set_option maxRecDepth 100000 in
theorem c_jLat_charAt_v577 {l : Launch} {D : va_G} {kA : Nat → ClassId} : ct_ok PRD l D kA GG y_jLat_charAt z_jLat_charAt e_jLat_charAt_v577 := chk_all_ok (FT := []) (PT := []) (CT := t_jLat_charAt_v577_ct) (KT := []) (NT := []) (AN := n_jLat_charAt_v577_an) (OT := [o_jLat_charAt_v577_0]) 0 200 (List.forall_mem_cons.mpr ⟨oo_jLat_charAt_v577_0, List.forall_mem_nil _⟩) (by decide +kernel) ⟨List.forall_mem_nil _, List.forall_mem_nil _, List.forall_mem_cons.mpr ⟨cl_static (y := y_jStr_checkIndex) c_jStr_checkIndex_v578 wm_694 wm_11 wm_692 wm_693 ⟨by decide, by decide, by decide +kernel⟩ (by decide), List.forall_mem_cons.mpr ⟨cl_tlen (i := 23) (n := 2) rfl (by decide +kernel) (by decide +kernel) (by decide +kernel), List.forall_mem_cons.mpr ⟨cl_tbyte1 (i := 23) (n := 2) (k := 0) rfl (by decide +kernel) (by decide +kernel) (by decide) (by decide +kernel), List.forall_mem_nil _⟩⟩⟩, List.forall_mem_nil _, List.forall_mem_nil _, GG_pl⟩ (by decide +kernel)
def e_jLat_charAt_v581 : en_T := ([(2, 0, 0, [5223]), (0, 1, 1, [])], some (0, 0, 65535, []), true, 3, 0, 0, [], [], (0, [], [], [(23, [2], [102, 1]), (23, [2], [-102, -1])], []))
def o_jLat_charAt_v581_0 : or_T := (14, 7, [(3, (0, 102, 102, [])), (5, (0, 0, 102, [])), (6, (0, 0, 65535, []))], [(22, [6, 5], []), (12, [5, 3], [256])], [], [], [(23, [6], [102, 1]), (23, [6], [-102, -1])], [], [])
theorem oo_jLat_charAt_v581_0 {kA : Nat → ClassId} : or_ok PRD kA GG o_jLat_charAt_v581_0 := by
  refine or_mk fun A ta ws vs hD hth hl => ?_
  intro t3 k3 t5 k5 t6 k6 f0 f1
  replace f0 := shm_47 f0
  replace f1 := shm_52 f1
  have nf0 : fc_1 PRD (23, [6], [102, 1]) ws (vs) := by
    refine ⟨nf_in hl rfl, sgq_83 ?_⟩
    · show 1 * v_iv (n_v vs 6) + 0 ≤ 102
      omega
  have nf1 : fc_1 PRD (23, [6], [-102, -1]) ws (vs) := by
    refine ⟨nf_in hl rfl, sgq_84 ?_⟩
    · show (-1) * v_iv (n_v vs 6) + 0 ≤ (-102)
      omega
  refine ⟨(fun _ h => (by cases h)), [], trivial, ?_, (fun _ h => (by cases h))⟩
  rw [List.append_nil]
  exact List.forall_mem_cons.mpr ⟨⟨show (23 : Nat) < 100 from by decide, nf0⟩, List.forall_mem_cons.mpr ⟨⟨show (23 : Nat) < 100 from by decide, nf1⟩, (fun _ h => (by cases h))⟩⟩
def n_jLat_charAt_v581_an : List an_T := []
def t_jLat_charAt_v581_ct : ct_L := [(12, 9, e_jStr_checkIndex_v582), (1000004, 0, en_ro [(2, 0, 0, [5223])] (0, 2, 2, [])), (1000005, 0, en_ro [(2, 0, 0, [5223]), (0, 1, 1, [])] (0, 102, 102, []))]
set_option maxRecDepth 100000 in
theorem c_jLat_charAt_v581 {l : Launch} {D : va_G} {kA : Nat → ClassId} : ct_ok PRD l D kA GG y_jLat_charAt z_jLat_charAt e_jLat_charAt_v581 := chk_all_ok (FT := []) (PT := []) (CT := t_jLat_charAt_v581_ct) (KT := []) (NT := []) (AN := n_jLat_charAt_v581_an) (OT := [o_jLat_charAt_v581_0]) 0 200 (List.forall_mem_cons.mpr ⟨oo_jLat_charAt_v581_0, List.forall_mem_nil _⟩) (by decide +kernel) ⟨List.forall_mem_nil _, List.forall_mem_nil _, List.forall_mem_cons.mpr ⟨cl_static (y := y_jStr_checkIndex) c_jStr_checkIndex_v582 wm_694 wm_11 wm_692 wm_693 ⟨by decide, by decide, by decide +kernel⟩ (by decide), List.forall_mem_cons.mpr ⟨cl_tlen (i := 23) (n := 2) rfl (by decide +kernel) (by decide +kernel) (by decide +kernel), List.forall_mem_cons.mpr ⟨cl_tbyte1 (i := 23) (n := 2) (k := 1) rfl (by decide +kernel) (by decide +kernel) (by decide) (by decide +kernel), List.forall_mem_nil _⟩⟩⟩, List.forall_mem_nil _, List.forall_mem_nil _, GG_pl⟩ (by decide +kernel)
def e_jLat_charAt_v586 : en_T := ([(2, 0, 0, [5224]), (0, 0, 0, [])], some (0, 0, 65535, []), true, 3, 0, 0, [], [], (0, [], [], [(23, [2], [110, 1]), (23, [2], [-110, -1])], []))
def o_jLat_charAt_v586_0 : or_T := (14, 7, [(3, (0, 110, 110, [])), (5, (0, 0, 110, [])), (6, (0, 0, 65535, []))], [(22, [6, 5], []), (12, [5, 3], [256])], [], [], [(23, [6], [110, 1]), (23, [6], [-110, -1])], [], [])
theorem oo_jLat_charAt_v586_0 {kA : Nat → ClassId} : or_ok PRD kA GG o_jLat_charAt_v586_0 := by
  refine or_mk fun A ta ws vs hD hth hl => ?_
  intro t3 k3 t5 k5 t6 k6 f0 f1
  replace f0 := shm_47 f0
  replace f1 := shm_52 f1
  have nf0 : fc_1 PRD (23, [6], [110, 1]) ws (vs) := by
    refine ⟨nf_in hl rfl, sgq_53 ?_⟩
    · show 1 * v_iv (n_v vs 6) + 0 ≤ 110
      omega
  have nf1 : fc_1 PRD (23, [6], [-110, -1]) ws (vs) := by
    refine ⟨nf_in hl rfl, sgq_54 ?_⟩
    · show (-1) * v_iv (n_v vs 6) + 0 ≤ (-110)
      omega
  refine ⟨(fun _ h => (by cases h)), [], trivial, ?_, (fun _ h => (by cases h))⟩
  rw [List.append_nil]
  exact List.forall_mem_cons.mpr ⟨⟨show (23 : Nat) < 100 from by decide, nf0⟩, List.forall_mem_cons.mpr ⟨⟨show (23 : Nat) < 100 from by decide, nf1⟩, (fun _ h => (by cases h))⟩⟩
def n_jLat_charAt_v586_an : List an_T := []
def t_jLat_charAt_v586_ct : ct_L := [(12, 9, e_jStr_checkIndex_v457), (1000004, 0, en_ro [(2, 0, 0, [5224])] (0, 3, 3, [])), (1000005, 0, en_ro [(2, 0, 0, [5224]), (0, 0, 0, [])] (0, 110, 110, []))]
set_option maxRecDepth 100000 in
theorem c_jLat_charAt_v586 {l : Launch} {D : va_G} {kA : Nat → ClassId} : ct_ok PRD l D kA GG y_jLat_charAt z_jLat_charAt e_jLat_charAt_v586 := chk_all_ok (FT := []) (PT := []) (CT := t_jLat_charAt_v586_ct) (KT := []) (NT := []) (AN := n_jLat_charAt_v586_an) (OT := [o_jLat_charAt_v586_0]) 0 200 (List.forall_mem_cons.mpr ⟨oo_jLat_charAt_v586_0, List.forall_mem_nil _⟩) (by decide +kernel) ⟨List.forall_mem_nil _, List.forall_mem_nil _, List.forall_mem_cons.mpr ⟨cl_static (y := y_jStr_checkIndex) c_jStr_checkIndex_v457 wm_694 wm_11 wm_692 wm_693 ⟨by decide, by decide, by decide +kernel⟩ (by decide), List.forall_mem_cons.mpr ⟨cl_tlen (i := 24) (n := 3) rfl (by decide +kernel) (by decide +kernel) (by decide +kernel), List.forall_mem_cons.mpr ⟨cl_tbyte1 (i := 24) (n := 3) (k := 0) rfl (by decide +kernel) (by decide +kernel) (by decide) (by decide +kernel), List.forall_mem_nil _⟩⟩⟩, List.forall_mem_nil _, List.forall_mem_nil _, GG_pl⟩ (by decide +kernel)
def e_jLat_charAt_v588 : en_T := ([(2, 0, 0, [5224]), (0, 1, 1, [])], some (0, 0, 65535, []), true, 3, 0, 0, [], [], (0, [], [], [(23, [2], [111, 1]), (23, [2], [-111, -1])], []))
def o_jLat_charAt_v588_0 : or_T := (14, 7, [(3, (0, 111, 111, [])), (5, (0, 0, 111, [])), (6, (0, 0, 65535, []))], [(22, [6, 5], []), (12, [5, 3], [256])], [], [], [(23, [6], [111, 1]), (23, [6], [-111, -1])], [], [])
theorem oo_jLat_charAt_v588_0 {kA : Nat → ClassId} : or_ok PRD kA GG o_jLat_charAt_v588_0 := by
  refine or_mk fun A ta ws vs hD hth hl => ?_
  intro t3 k3 t5 k5 t6 k6 f0 f1
  replace f0 := shm_47 f0
  replace f1 := shm_52 f1
  have nf0 : fc_1 PRD (23, [6], [111, 1]) ws (vs) := by
    refine ⟨nf_in hl rfl, sgq_55 ?_⟩
    · show 1 * v_iv (n_v vs 6) + 0 ≤ 111
      omega
  have nf1 : fc_1 PRD (23, [6], [-111, -1]) ws (vs) := by
    refine ⟨nf_in hl rfl, sgq_56 ?_⟩
    · show (-1) * v_iv (n_v vs 6) + 0 ≤ (-111)
      omega
  refine ⟨(fun _ h => (by cases h)), [], trivial, ?_, (fun _ h => (by cases h))⟩
  rw [List.append_nil]
  exact List.forall_mem_cons.mpr ⟨⟨show (23 : Nat) < 100 from by decide, nf0⟩, List.forall_mem_cons.mpr ⟨⟨show (23 : Nat) < 100 from by decide, nf1⟩, (fun _ h => (by cases h))⟩⟩
def n_jLat_charAt_v588_an : List an_T := []
def t_jLat_charAt_v588_ct : ct_L := [(12, 9, e_jStr_checkIndex_v461), (1000004, 0, en_ro [(2, 0, 0, [5224])] (0, 3, 3, [])), (1000005, 0, en_ro [(2, 0, 0, [5224]), (0, 1, 1, [])] (0, 111, 111, []))]
set_option maxRecDepth 100000 in
theorem c_jLat_charAt_v588 {l : Launch} {D : va_G} {kA : Nat → ClassId} : ct_ok PRD l D kA GG y_jLat_charAt z_jLat_charAt e_jLat_charAt_v588 := chk_all_ok (FT := []) (PT := []) (CT := t_jLat_charAt_v588_ct) (KT := []) (NT := []) (AN := n_jLat_charAt_v588_an) (OT := [o_jLat_charAt_v588_0]) 0 200 (List.forall_mem_cons.mpr ⟨oo_jLat_charAt_v588_0, List.forall_mem_nil _⟩) (by decide +kernel) ⟨List.forall_mem_nil _, List.forall_mem_nil _, List.forall_mem_cons.mpr ⟨cl_static (y := y_jStr_checkIndex) c_jStr_checkIndex_v461 wm_694 wm_11 wm_692 wm_693 ⟨by decide, by decide, by decide +kernel⟩ (by decide), List.forall_mem_cons.mpr ⟨cl_tlen (i := 24) (n := 3) rfl (by decide +kernel) (by decide +kernel) (by decide +kernel), List.forall_mem_cons.mpr ⟨cl_tbyte1 (i := 24) (n := 3) (k := 1) rfl (by decide +kernel) (by decide +kernel) (by decide) (by decide +kernel), List.forall_mem_nil _⟩⟩⟩, List.forall_mem_nil _, List.forall_mem_nil _, GG_pl⟩ (by decide +kernel)
def e_jLat_charAt_v590 : en_T := ([(2, 0, 0, [5224]), (0, 2, 2, [])], some (0, 0, 65535, []), true, 3, 0, 0, [], [], (0, [], [], [(23, [2], [116, 1]), (23, [2], [-116, -1])], []))
def o_jLat_charAt_v590_0 : or_T := (14, 7, [(3, (0, 116, 116, [])), (5, (0, 0, 116, [])), (6, (0, 0, 65535, []))], [(22, [6, 5], []), (12, [5, 3], [256])], [], [], [(23, [6], [116, 1]), (23, [6], [-116, -1])], [], [])
theorem oo_jLat_charAt_v590_0 {kA : Nat → ClassId} : or_ok PRD kA GG o_jLat_charAt_v590_0 := by
  refine or_mk fun A ta ws vs hD hth hl => ?_
  intro t3 k3 t5 k5 t6 k6 f0 f1
  replace f0 := shm_47 f0
  replace f1 := shm_52 f1
  have nf0 : fc_1 PRD (23, [6], [116, 1]) ws (vs) := by
    refine ⟨nf_in hl rfl, sgq_79 ?_⟩
    · show 1 * v_iv (n_v vs 6) + 0 ≤ 116
      omega
  have nf1 : fc_1 PRD (23, [6], [-116, -1]) ws (vs) := by
    refine ⟨nf_in hl rfl, sgq_80 ?_⟩
    · show (-1) * v_iv (n_v vs 6) + 0 ≤ (-116)
      omega
  refine ⟨(fun _ h => (by cases h)), [], trivial, ?_, (fun _ h => (by cases h))⟩
  rw [List.append_nil]
  exact List.forall_mem_cons.mpr ⟨⟨show (23 : Nat) < 100 from by decide, nf0⟩, List.forall_mem_cons.mpr ⟨⟨show (23 : Nat) < 100 from by decide, nf1⟩, (fun _ h => (by cases h))⟩⟩
def n_jLat_charAt_v590_an : List an_T := []
def t_jLat_charAt_v590_ct : ct_L := [(12, 9, e_jStr_checkIndex_v465), (1000004, 0, en_ro [(2, 0, 0, [5224])] (0, 3, 3, [])), (1000005, 0, en_ro [(2, 0, 0, [5224]), (0, 2, 2, [])] (0, 116, 116, []))]
set_option maxRecDepth 100000 in
theorem c_jLat_charAt_v590 {l : Launch} {D : va_G} {kA : Nat → ClassId} : ct_ok PRD l D kA GG y_jLat_charAt z_jLat_charAt e_jLat_charAt_v590 := chk_all_ok (FT := []) (PT := []) (CT := t_jLat_charAt_v590_ct) (KT := []) (NT := []) (AN := n_jLat_charAt_v590_an) (OT := [o_jLat_charAt_v590_0]) 0 200 (List.forall_mem_cons.mpr ⟨oo_jLat_charAt_v590_0, List.forall_mem_nil _⟩) (by decide +kernel) ⟨List.forall_mem_nil _, List.forall_mem_nil _, List.forall_mem_cons.mpr ⟨cl_static (y := y_jStr_checkIndex) c_jStr_checkIndex_v465 wm_694 wm_11 wm_692 wm_693 ⟨by decide, by decide, by decide +kernel⟩ (by decide), List.forall_mem_cons.mpr ⟨cl_tlen (i := 24) (n := 3) rfl (by decide +kernel) (by decide +kernel) (by decide +kernel), List.forall_mem_cons.mpr ⟨cl_tbyte1 (i := 24) (n := 3) (k := 2) rfl (by decide +kernel) (by decide +kernel) (by decide) (by decide +kernel), List.forall_mem_nil _⟩⟩⟩, List.forall_mem_nil _, List.forall_mem_nil _, GG_pl⟩ (by decide +kernel)
def e_jLat_charAt_v593 : en_T := ([(2, 0, 0, [5225]), (0, 0, 0, [])], some (0, 0, 65535, []), true, 3, 0, 0, [], [], (0, [], [], [(23, [2], [100, 1]), (23, [2], [-100, -1])], []))
def o_jLat_charAt_v593_0 : or_T := (14, 7, [(3, (0, 100, 100, [])), (5, (0, 0, 100, [])), (6, (0, 0, 65535, []))], [(22, [6, 5], []), (12, [5, 3], [256])], [], [], [(23, [6], [100, 1]), (23, [6], [-100, -1])], [], [])
theorem oo_jLat_charAt_v593_0 {kA : Nat → ClassId} : or_ok PRD kA GG o_jLat_charAt_v593_0 := by
  refine or_mk fun A ta ws vs hD hth hl => ?_
  intro t3 k3 t5 k5 t6 k6 f0 f1
  replace f0 := shm_47 f0
  replace f1 := shm_52 f1
  have nf0 : fc_1 PRD (23, [6], [100, 1]) ws (vs) := by
    refine ⟨nf_in hl rfl, sgq_57 ?_⟩
    · show 1 * v_iv (n_v vs 6) + 0 ≤ 100
      omega
  have nf1 : fc_1 PRD (23, [6], [-100, -1]) ws (vs) := by
    refine ⟨nf_in hl rfl, sgq_58 ?_⟩
    · show (-1) * v_iv (n_v vs 6) + 0 ≤ (-100)
      omega
  refine ⟨(fun _ h => (by cases h)), [], trivial, ?_, (fun _ h => (by cases h))⟩
  rw [List.append_nil]
  exact List.forall_mem_cons.mpr ⟨⟨show (23 : Nat) < 100 from by decide, nf0⟩, List.forall_mem_cons.mpr ⟨⟨show (23 : Nat) < 100 from by decide, nf1⟩, (fun _ h => (by cases h))⟩⟩
def n_jLat_charAt_v593_an : List an_T := []
def t_jLat_charAt_v593_ct : ct_L := [(12, 9, e_jStr_checkIndex_v457), (1000004, 0, en_ro [(2, 0, 0, [5225])] (0, 3, 3, [])), (1000005, 0, en_ro [(2, 0, 0, [5225]), (0, 0, 0, [])] (0, 100, 100, []))]
set_option maxRecDepth 100000 in
theorem c_jLat_charAt_v593 {l : Launch} {D : va_G} {kA : Nat → ClassId} : ct_ok PRD l D kA GG y_jLat_charAt z_jLat_charAt e_jLat_charAt_v593 := chk_all_ok (FT := []) (PT := []) (CT := t_jLat_charAt_v593_ct) (KT := []) (NT := []) (AN := n_jLat_charAt_v593_an) (OT := [o_jLat_charAt_v593_0]) 0 200 (List.forall_mem_cons.mpr ⟨oo_jLat_charAt_v593_0, List.forall_mem_nil _⟩) (by decide +kernel) ⟨List.forall_mem_nil _, List.forall_mem_nil _, List.forall_mem_cons.mpr ⟨cl_static (y := y_jStr_checkIndex) c_jStr_checkIndex_v457 wm_694 wm_11 wm_692 wm_693 ⟨by decide, by decide, by decide +kernel⟩ (by decide), List.forall_mem_cons.mpr ⟨cl_tlen (i := 25) (n := 3) rfl (by decide +kernel) (by decide +kernel) (by decide +kernel), List.forall_mem_cons.mpr ⟨cl_tbyte1 (i := 25) (n := 3) (k := 0) rfl (by decide +kernel) (by decide +kernel) (by decide) (by decide +kernel), List.forall_mem_nil _⟩⟩⟩, List.forall_mem_nil _, List.forall_mem_nil _, GG_pl⟩ (by decide +kernel)
def e_jLat_charAt_v595 : en_T := ([(2, 0, 0, [5225]), (0, 1, 1, [])], some (0, 0, 65535, []), true, 3, 0, 0, [], [], (0, [], [], [(23, [2], [101, 1]), (23, [2], [-101, -1])], []))
def o_jLat_charAt_v595_0 : or_T := (14, 7, [(3, (0, 101, 101, [])), (5, (0, 0, 101, [])), (6, (0, 0, 65535, []))], [(22, [6, 5], []), (12, [5, 3], [256])], [], [], [(23, [6], [101, 1]), (23, [6], [-101, -1])], [], [])
theorem oo_jLat_charAt_v595_0 {kA : Nat → ClassId} : or_ok PRD kA GG o_jLat_charAt_v595_0 := by
  refine or_mk fun A ta ws vs hD hth hl => ?_
  intro t3 k3 t5 k5 t6 k6 f0 f1
  replace f0 := shm_47 f0
  replace f1 := shm_52 f1
  have nf0 : fc_1 PRD (23, [6], [101, 1]) ws (vs) := by
    refine ⟨nf_in hl rfl, sgq_59 ?_⟩
    · show 1 * v_iv (n_v vs 6) + 0 ≤ 101
      omega
  have nf1 : fc_1 PRD (23, [6], [-101, -1]) ws (vs) := by
    refine ⟨nf_in hl rfl, sgq_60 ?_⟩
    · show (-1) * v_iv (n_v vs 6) + 0 ≤ (-101)
      omega
  refine ⟨(fun _ h => (by cases h)), [], trivial, ?_, (fun _ h => (by cases h))⟩
  rw [List.append_nil]
  exact List.forall_mem_cons.mpr ⟨⟨show (23 : Nat) < 100 from by decide, nf0⟩, List.forall_mem_cons.mpr ⟨⟨show (23 : Nat) < 100 from by decide, nf1⟩, (fun _ h => (by cases h))⟩⟩
def n_jLat_charAt_v595_an : List an_T := []
def t_jLat_charAt_v595_ct : ct_L := [(12, 9, e_jStr_checkIndex_v461), (1000004, 0, en_ro [(2, 0, 0, [5225])] (0, 3, 3, [])), (1000005, 0, en_ro [(2, 0, 0, [5225]), (0, 1, 1, [])] (0, 101, 101, []))]
set_option maxRecDepth 100000 in
theorem c_jLat_charAt_v595 {l : Launch} {D : va_G} {kA : Nat → ClassId} : ct_ok PRD l D kA GG y_jLat_charAt z_jLat_charAt e_jLat_charAt_v595 := chk_all_ok (FT := []) (PT := []) (CT := t_jLat_charAt_v595_ct) (KT := []) (NT := []) (AN := n_jLat_charAt_v595_an) (OT := [o_jLat_charAt_v595_0]) 0 200 (List.forall_mem_cons.mpr ⟨oo_jLat_charAt_v595_0, List.forall_mem_nil _⟩) (by decide +kernel) ⟨List.forall_mem_nil _, List.forall_mem_nil _, List.forall_mem_cons.mpr ⟨cl_static (y := y_jStr_checkIndex) c_jStr_checkIndex_v461 wm_694 wm_11 wm_692 wm_693 ⟨by decide, by decide, by decide +kernel⟩ (by decide), List.forall_mem_cons.mpr ⟨cl_tlen (i := 25) (n := 3) rfl (by decide +kernel) (by decide +kernel) (by decide +kernel), List.forall_mem_cons.mpr ⟨cl_tbyte1 (i := 25) (n := 3) (k := 1) rfl (by decide +kernel) (by decide +kernel) (by decide) (by decide +kernel), List.forall_mem_nil _⟩⟩⟩, List.forall_mem_nil _, List.forall_mem_nil _, GG_pl⟩ (by decide +kernel)
def e_jLat_charAt_v597 : en_T := ([(2, 0, 0, [5225]), (0, 2, 2, [])], some (0, 0, 65535, []), true, 3, 0, 0, [], [], (0, [], [], [(23, [2], [103, 1]), (23, [2], [-103, -1])], []))
def o_jLat_charAt_v597_0 : or_T := (14, 7, [(3, (0, 103, 103, [])), (5, (0, 0, 103, [])), (6, (0, 0, 65535, []))], [(22, [6, 5], []), (12, [5, 3], [256])], [], [], [(23, [6], [103, 1]), (23, [6], [-103, -1])], [], [])
theorem oo_jLat_charAt_v597_0 {kA : Nat → ClassId} : or_ok PRD kA GG o_jLat_charAt_v597_0 := by
  refine or_mk fun A ta ws vs hD hth hl => ?_
  intro t3 k3 t5 k5 t6 k6 f0 f1
  replace f0 := shm_47 f0
  replace f1 := shm_52 f1
  have nf0 : fc_1 PRD (23, [6], [103, 1]) ws (vs) := by
    refine ⟨nf_in hl rfl, sgq_61 ?_⟩
    · show 1 * v_iv (n_v vs 6) + 0 ≤ 103
      omega
  have nf1 : fc_1 PRD (23, [6], [-103, -1]) ws (vs) := by
    refine ⟨nf_in hl rfl, sgq_62 ?_⟩
    · show (-1) * v_iv (n_v vs 6) + 0 ≤ (-103)
      omega
  refine ⟨(fun _ h => (by cases h)), [], trivial, ?_, (fun _ h => (by cases h))⟩
  rw [List.append_nil]
  exact List.forall_mem_cons.mpr ⟨⟨show (23 : Nat) < 100 from by decide, nf0⟩, List.forall_mem_cons.mpr ⟨⟨show (23 : Nat) < 100 from by decide, nf1⟩, (fun _ h => (by cases h))⟩⟩
def n_jLat_charAt_v597_an : List an_T := []
def t_jLat_charAt_v597_ct : ct_L := [(12, 9, e_jStr_checkIndex_v465), (1000004, 0, en_ro [(2, 0, 0, [5225])] (0, 3, 3, [])), (1000005, 0, en_ro [(2, 0, 0, [5225]), (0, 2, 2, [])] (0, 103, 103, []))]
set_option maxRecDepth 100000 in
theorem c_jLat_charAt_v597 {l : Launch} {D : va_G} {kA : Nat → ClassId} : ct_ok PRD l D kA GG y_jLat_charAt z_jLat_charAt e_jLat_charAt_v597 := chk_all_ok (FT := []) (PT := []) (CT := t_jLat_charAt_v597_ct) (KT := []) (NT := []) (AN := n_jLat_charAt_v597_an) (OT := [o_jLat_charAt_v597_0]) 0 200 (List.forall_mem_cons.mpr ⟨oo_jLat_charAt_v597_0, List.forall_mem_nil _⟩) (by decide +kernel) ⟨List.forall_mem_nil _, List.forall_mem_nil _, List.forall_mem_cons.mpr ⟨cl_static (y := y_jStr_checkIndex) c_jStr_checkIndex_v465 wm_694 wm_11 wm_692 wm_693 ⟨by decide, by decide, by decide +kernel⟩ (by decide), List.forall_mem_cons.mpr ⟨cl_tlen (i := 25) (n := 3) rfl (by decide +kernel) (by decide +kernel) (by decide +kernel), List.forall_mem_cons.mpr ⟨cl_tbyte1 (i := 25) (n := 3) (k := 2) rfl (by decide +kernel) (by decide +kernel) (by decide) (by decide +kernel), List.forall_mem_nil _⟩⟩⟩, List.forall_mem_nil _, List.forall_mem_nil _, GG_pl⟩ (by decide +kernel)
def e_jLat_charAt_v600 : en_T := ([(2, 0, 0, [5226]), (0, 0, 0, [])], some (0, 0, 65535, []), true, 3, 0, 0, [], [], (0, [], [], [(23, [2], [105, 1]), (23, [2], [-105, -1])], []))
def o_jLat_charAt_v600_0 : or_T := (14, 7, [(3, (0, 105, 105, [])), (5, (0, 0, 105, [])), (6, (0, 0, 65535, []))], [(22, [6, 5], []), (12, [5, 3], [256])], [], [], [(23, [6], [105, 1]), (23, [6], [-105, -1])], [], [])
theorem oo_jLat_charAt_v600_0 {kA : Nat → ClassId} : or_ok PRD kA GG o_jLat_charAt_v600_0 := by
  refine or_mk fun A ta ws vs hD hth hl => ?_
  intro t3 k3 t5 k5 t6 k6 f0 f1
  replace f0 := shm_47 f0
  replace f1 := shm_52 f1
  have nf0 : fc_1 PRD (23, [6], [105, 1]) ws (vs) := by
    refine ⟨nf_in hl rfl, sgq_71 ?_⟩
    · show 1 * v_iv (n_v vs 6) + 0 ≤ 105
      omega
  have nf1 : fc_1 PRD (23, [6], [-105, -1]) ws (vs) := by
    refine ⟨nf_in hl rfl, sgq_72 ?_⟩
    · show (-1) * v_iv (n_v vs 6) + 0 ≤ (-105)
      omega
  refine ⟨(fun _ h => (by cases h)), [], trivial, ?_, (fun _ h => (by cases h))⟩
  rw [List.append_nil]
  exact List.forall_mem_cons.mpr ⟨⟨show (23 : Nat) < 100 from by decide, nf0⟩, List.forall_mem_cons.mpr ⟨⟨show (23 : Nat) < 100 from by decide, nf1⟩, (fun _ h => (by cases h))⟩⟩
def n_jLat_charAt_v600_an : List an_T := []
def t_jLat_charAt_v600_ct : ct_L := [(12, 9, e_jStr_checkIndex_v578), (1000004, 0, en_ro [(2, 0, 0, [5226])] (0, 2, 2, [])), (1000005, 0, en_ro [(2, 0, 0, [5226]), (0, 0, 0, [])] (0, 105, 105, []))]
set_option maxRecDepth 100000 in
theorem c_jLat_charAt_v600 {l : Launch} {D : va_G} {kA : Nat → ClassId} : ct_ok PRD l D kA GG y_jLat_charAt z_jLat_charAt e_jLat_charAt_v600 := chk_all_ok (FT := []) (PT := []) (CT := t_jLat_charAt_v600_ct) (KT := []) (NT := []) (AN := n_jLat_charAt_v600_an) (OT := [o_jLat_charAt_v600_0]) 0 200 (List.forall_mem_cons.mpr ⟨oo_jLat_charAt_v600_0, List.forall_mem_nil _⟩) (by decide +kernel) ⟨List.forall_mem_nil _, List.forall_mem_nil _, List.forall_mem_cons.mpr ⟨cl_static (y := y_jStr_checkIndex) c_jStr_checkIndex_v578 wm_694 wm_11 wm_692 wm_693 ⟨by decide, by decide, by decide +kernel⟩ (by decide), List.forall_mem_cons.mpr ⟨cl_tlen (i := 26) (n := 2) rfl (by decide +kernel) (by decide +kernel) (by decide +kernel), List.forall_mem_cons.mpr ⟨cl_tbyte1 (i := 26) (n := 2) (k := 0) rfl (by decide +kernel) (by decide +kernel) (by decide) (by decide +kernel), List.forall_mem_nil _⟩⟩⟩, List.forall_mem_nil _, List.forall_mem_nil _, GG_pl⟩ (by decide +kernel)
def e_jLat_charAt_v602 : en_T := ([(2, 0, 0, [5226]), (0, 1, 1, [])], some (0, 0, 65535, []), true, 3, 0, 0, [], [], (0, [], [], [(23, [2], [110, 1]), (23, [2], [-110, -1])], []))
def o_jLat_charAt_v602_0 : or_T := (14, 7, [(3, (0, 110, 110, [])), (5, (0, 0, 110, [])), (6, (0, 0, 65535, []))], [(22, [6, 5], []), (12, [5, 3], [256])], [], [], [(23, [6], [110, 1]), (23, [6], [-110, -1])], [], [])
theorem oo_jLat_charAt_v602_0 {kA : Nat → ClassId} : or_ok PRD kA GG o_jLat_charAt_v602_0 := by
  refine or_mk fun A ta ws vs hD hth hl => ?_
  intro t3 k3 t5 k5 t6 k6 f0 f1
  replace f0 := shm_47 f0
  replace f1 := shm_52 f1
  have nf0 : fc_1 PRD (23, [6], [110, 1]) ws (vs) := by
    refine ⟨nf_in hl rfl, sgq_53 ?_⟩
    · show 1 * v_iv (n_v vs 6) + 0 ≤ 110
      omega
  have nf1 : fc_1 PRD (23, [6], [-110, -1]) ws (vs) := by
    refine ⟨nf_in hl rfl, sgq_54 ?_⟩
    · show (-1) * v_iv (n_v vs 6) + 0 ≤ (-110)
      omega
  refine ⟨(fun _ h => (by cases h)), [], trivial, ?_, (fun _ h => (by cases h))⟩
  rw [List.append_nil]
  exact List.forall_mem_cons.mpr ⟨⟨show (23 : Nat) < 100 from by decide, nf0⟩, List.forall_mem_cons.mpr ⟨⟨show (23 : Nat) < 100 from by decide, nf1⟩, (fun _ h => (by cases h))⟩⟩
def n_jLat_charAt_v602_an : List an_T := []
def t_jLat_charAt_v602_ct : ct_L := [(12, 9, e_jStr_checkIndex_v582), (1000004, 0, en_ro [(2, 0, 0, [5226])] (0, 2, 2, [])), (1000005, 0, en_ro [(2, 0, 0, [5226]), (0, 1, 1, [])] (0, 110, 110, []))]
set_option maxRecDepth 100000 in
theorem c_jLat_charAt_v602 {l : Launch} {D : va_G} {kA : Nat → ClassId} : ct_ok PRD l D kA GG y_jLat_charAt z_jLat_charAt e_jLat_charAt_v602 := chk_all_ok (FT := []) (PT := []) (CT := t_jLat_charAt_v602_ct) (KT := []) (NT := []) (AN := n_jLat_charAt_v602_an) (OT := [o_jLat_charAt_v602_0]) 0 200 (List.forall_mem_cons.mpr ⟨oo_jLat_charAt_v602_0, List.forall_mem_nil _⟩) (by decide +kernel) ⟨List.forall_mem_nil _, List.forall_mem_nil _, List.forall_mem_cons.mpr ⟨cl_static (y := y_jStr_checkIndex) c_jStr_checkIndex_v582 wm_694 wm_11 wm_692 wm_693 ⟨by decide, by decide, by decide +kernel⟩ (by decide), List.forall_mem_cons.mpr ⟨cl_tlen (i := 26) (n := 2) rfl (by decide +kernel) (by decide +kernel) (by decide +kernel), List.forall_mem_cons.mpr ⟨cl_tbyte1 (i := 26) (n := 2) (k := 1) rfl (by decide +kernel) (by decide +kernel) (by decide) (by decide +kernel), List.forall_mem_nil _⟩⟩⟩, List.forall_mem_nil _, List.forall_mem_nil _, GG_pl⟩ (by decide +kernel)
def e_jLat_charAt_v605 : en_T := ([(2, 0, 0, [5227]), (0, 0, 0, [])], some (0, 0, 65535, []), true, 3, 0, 0, [], [], (0, [], [], [(23, [2], [111, 1]), (23, [2], [-111, -1])], []))
def o_jLat_charAt_v605_0 : or_T := (14, 7, [(3, (0, 111, 111, [])), (5, (0, 0, 111, [])), (6, (0, 0, 65535, []))], [(22, [6, 5], []), (12, [5, 3], [256])], [], [], [(23, [6], [111, 1]), (23, [6], [-111, -1])], [], [])
theorem oo_jLat_charAt_v605_0 {kA : Nat → ClassId} : or_ok PRD kA GG o_jLat_charAt_v605_0 := by
  refine or_mk fun A ta ws vs hD hth hl => ?_
  intro t3 k3 t5 k5 t6 k6 f0 f1
  replace f0 := shm_47 f0
  replace f1 := shm_52 f1
  have nf0 : fc_1 PRD (23, [6], [111, 1]) ws (vs) := by
    refine ⟨nf_in hl rfl, sgq_55 ?_⟩
    · show 1 * v_iv (n_v vs 6) + 0 ≤ 111
      omega
  have nf1 : fc_1 PRD (23, [6], [-111, -1]) ws (vs) := by
    refine ⟨nf_in hl rfl, sgq_56 ?_⟩
    · show (-1) * v_iv (n_v vs 6) + 0 ≤ (-111)
      omega
  refine ⟨(fun _ h => (by cases h)), [], trivial, ?_, (fun _ h => (by cases h))⟩
  rw [List.append_nil]
  exact List.forall_mem_cons.mpr ⟨⟨show (23 : Nat) < 100 from by decide, nf0⟩, List.forall_mem_cons.mpr ⟨⟨show (23 : Nat) < 100 from by decide, nf1⟩, (fun _ h => (by cases h))⟩⟩
def n_jLat_charAt_v605_an : List an_T := []
def t_jLat_charAt_v605_ct : ct_L := [(12, 9, e_jStr_checkIndex_v457), (1000004, 0, en_ro [(2, 0, 0, [5227])] (0, 3, 3, [])), (1000005, 0, en_ro [(2, 0, 0, [5227]), (0, 0, 0, [])] (0, 111, 111, []))]
set_option maxRecDepth 100000 in
theorem c_jLat_charAt_v605 {l : Launch} {D : va_G} {kA : Nat → ClassId} : ct_ok PRD l D kA GG y_jLat_charAt z_jLat_charAt e_jLat_charAt_v605 := chk_all_ok (FT := []) (PT := []) (CT := t_jLat_charAt_v605_ct) (KT := []) (NT := []) (AN := n_jLat_charAt_v605_an) (OT := [o_jLat_charAt_v605_0]) 0 200 (List.forall_mem_cons.mpr ⟨oo_jLat_charAt_v605_0, List.forall_mem_nil _⟩) (by decide +kernel) ⟨List.forall_mem_nil _, List.forall_mem_nil _, List.forall_mem_cons.mpr ⟨cl_static (y := y_jStr_checkIndex) c_jStr_checkIndex_v457 wm_694 wm_11 wm_692 wm_693 ⟨by decide, by decide, by decide +kernel⟩ (by decide), List.forall_mem_cons.mpr ⟨cl_tlen (i := 27) (n := 3) rfl (by decide +kernel) (by decide +kernel) (by decide +kernel), List.forall_mem_cons.mpr ⟨cl_tbyte1 (i := 27) (n := 3) (k := 0) rfl (by decide +kernel) (by decide +kernel) (by decide) (by decide +kernel), List.forall_mem_nil _⟩⟩⟩, List.forall_mem_nil _, List.forall_mem_nil _, GG_pl⟩ (by decide +kernel)
def e_jLat_charAt_v607 : en_T := ([(2, 0, 0, [5227]), (0, 1, 1, [])], some (0, 0, 65535, []), true, 3, 0, 0, [], [], (0, [], [], [(23, [2], [117, 1]), (23, [2], [-117, -1])], []))
def o_jLat_charAt_v607_0 : or_T := (14, 7, [(3, (0, 117, 117, [])), (5, (0, 0, 117, [])), (6, (0, 0, 65535, []))], [(22, [6, 5], []), (12, [5, 3], [256])], [], [], [(23, [6], [117, 1]), (23, [6], [-117, -1])], [], [])
theorem oo_jLat_charAt_v607_0 {kA : Nat → ClassId} : or_ok PRD kA GG o_jLat_charAt_v607_0 := by
  refine or_mk fun A ta ws vs hD hth hl => ?_
  intro t3 k3 t5 k5 t6 k6 f0 f1
  replace f0 := shm_47 f0
  replace f1 := shm_52 f1
  have nf0 : fc_1 PRD (23, [6], [117, 1]) ws (vs) := by
    refine ⟨nf_in hl rfl, sgq_65 ?_⟩
    · show 1 * v_iv (n_v vs 6) + 0 ≤ 117
      omega
  have nf1 : fc_1 PRD (23, [6], [-117, -1]) ws (vs) := by
    refine ⟨nf_in hl rfl, sgq_66 ?_⟩
    · show (-1) * v_iv (n_v vs 6) + 0 ≤ (-117)
      omega
  refine ⟨(fun _ h => (by cases h)), [], trivial, ?_, (fun _ h => (by cases h))⟩
  rw [List.append_nil]
  exact List.forall_mem_cons.mpr ⟨⟨show (23 : Nat) < 100 from by decide, nf0⟩, List.forall_mem_cons.mpr ⟨⟨show (23 : Nat) < 100 from by decide, nf1⟩, (fun _ h => (by cases h))⟩⟩
def n_jLat_charAt_v607_an : List an_T := []
def t_jLat_charAt_v607_ct : ct_L := [(12, 9, e_jStr_checkIndex_v461), (1000004, 0, en_ro [(2, 0, 0, [5227])] (0, 3, 3, [])), (1000005, 0, en_ro [(2, 0, 0, [5227]), (0, 1, 1, [])] (0, 117, 117, []))]
set_option maxRecDepth 100000 in
theorem c_jLat_charAt_v607 {l : Launch} {D : va_G} {kA : Nat → ClassId} : ct_ok PRD l D kA GG y_jLat_charAt z_jLat_charAt e_jLat_charAt_v607 := chk_all_ok (FT := []) (PT := []) (CT := t_jLat_charAt_v607_ct) (KT := []) (NT := []) (AN := n_jLat_charAt_v607_an) (OT := [o_jLat_charAt_v607_0]) 0 200 (List.forall_mem_cons.mpr ⟨oo_jLat_charAt_v607_0, List.forall_mem_nil _⟩) (by decide +kernel) ⟨List.forall_mem_nil _, List.forall_mem_nil _, List.forall_mem_cons.mpr ⟨cl_static (y := y_jStr_checkIndex) c_jStr_checkIndex_v461 wm_694 wm_11 wm_692 wm_693 ⟨by decide, by decide, by decide +kernel⟩ (by decide), List.forall_mem_cons.mpr ⟨cl_tlen (i := 27) (n := 3) rfl (by decide +kernel) (by decide +kernel) (by decide +kernel), List.forall_mem_cons.mpr ⟨cl_tbyte1 (i := 27) (n := 3) (k := 1) rfl (by decide +kernel) (by decide +kernel) (by decide) (by decide +kernel), List.forall_mem_nil _⟩⟩⟩, List.forall_mem_nil _, List.forall_mem_nil _, GG_pl⟩ (by decide +kernel)
def e_jLat_charAt_v609 : en_T := ([(2, 0, 0, [5227]), (0, 2, 2, [])], some (0, 0, 65535, []), true, 3, 0, 0, [], [], (0, [], [], [(23, [2], [116, 1]), (23, [2], [-116, -1])], []))
def o_jLat_charAt_v609_0 : or_T := (14, 7, [(3, (0, 116, 116, [])), (5, (0, 0, 116, [])), (6, (0, 0, 65535, []))], [(22, [6, 5], []), (12, [5, 3], [256])], [], [], [(23, [6], [116, 1]), (23, [6], [-116, -1])], [], [])
theorem oo_jLat_charAt_v609_0 {kA : Nat → ClassId} : or_ok PRD kA GG o_jLat_charAt_v609_0 := by
  refine or_mk fun A ta ws vs hD hth hl => ?_
  intro t3 k3 t5 k5 t6 k6 f0 f1
  replace f0 := shm_47 f0
  replace f1 := shm_52 f1
  have nf0 : fc_1 PRD (23, [6], [116, 1]) ws (vs) := by
    refine ⟨nf_in hl rfl, sgq_79 ?_⟩
    · show 1 * v_iv (n_v vs 6) + 0 ≤ 116
      omega
  have nf1 : fc_1 PRD (23, [6], [-116, -1]) ws (vs) := by
    refine ⟨nf_in hl rfl, sgq_80 ?_⟩
    · show (-1) * v_iv (n_v vs 6) + 0 ≤ (-116)
      omega
  refine ⟨(fun _ h => (by cases h)), [], trivial, ?_, (fun _ h => (by cases h))⟩
  rw [List.append_nil]
  exact List.forall_mem_cons.mpr ⟨⟨show (23 : Nat) < 100 from by decide, nf0⟩, List.forall_mem_cons.mpr ⟨⟨show (23 : Nat) < 100 from by decide, nf1⟩, (fun _ h => (by cases h))⟩⟩
def n_jLat_charAt_v609_an : List an_T := []
def t_jLat_charAt_v609_ct : ct_L := [(12, 9, e_jStr_checkIndex_v465), (1000004, 0, en_ro [(2, 0, 0, [5227])] (0, 3, 3, [])), (1000005, 0, en_ro [(2, 0, 0, [5227]), (0, 2, 2, [])] (0, 116, 116, []))]
set_option maxRecDepth 100000 in
theorem c_jLat_charAt_v609 {l : Launch} {D : va_G} {kA : Nat → ClassId} : ct_ok PRD l D kA GG y_jLat_charAt z_jLat_charAt e_jLat_charAt_v609 := chk_all_ok (FT := []) (PT := []) (CT := t_jLat_charAt_v609_ct) (KT := []) (NT := []) (AN := n_jLat_charAt_v609_an) (OT := [o_jLat_charAt_v609_0]) 0 200 (List.forall_mem_cons.mpr ⟨oo_jLat_charAt_v609_0, List.forall_mem_nil _⟩) (by decide +kernel) ⟨List.forall_mem_nil _, List.forall_mem_nil _, List.forall_mem_cons.mpr ⟨cl_static (y := y_jStr_checkIndex) c_jStr_checkIndex_v465 wm_694 wm_11 wm_692 wm_693 ⟨by decide, by decide, by decide +kernel⟩ (by decide), List.forall_mem_cons.mpr ⟨cl_tlen (i := 27) (n := 3) rfl (by decide +kernel) (by decide +kernel) (by decide +kernel), List.forall_mem_cons.mpr ⟨cl_tbyte1 (i := 27) (n := 3) (k := 2) rfl (by decide +kernel) (by decide +kernel) (by decide) (by decide +kernel), List.forall_mem_nil _⟩⟩⟩, List.forall_mem_nil _, List.forall_mem_nil _, GG_pl⟩ (by decide +kernel)
def e_jLat_charAt_v612 : en_T := ([(2, 0, 0, [5228]), (0, 0, 0, [])], some (0, 0, 65535, []), true, 3, 0, 0, [], [], (0, [], [], [(23, [2], [102, 1]), (23, [2], [-102, -1])], []))
def o_jLat_charAt_v612_0 : or_T := (14, 7, [(3, (0, 102, 102, [])), (5, (0, 0, 102, [])), (6, (0, 0, 65535, []))], [(22, [6, 5], []), (12, [5, 3], [256])], [], [], [(23, [6], [102, 1]), (23, [6], [-102, -1])], [], [])
theorem oo_jLat_charAt_v612_0 {kA : Nat → ClassId} : or_ok PRD kA GG o_jLat_charAt_v612_0 := by
  refine or_mk fun A ta ws vs hD hth hl => ?_
  intro t3 k3 t5 k5 t6 k6 f0 f1
  replace f0 := shm_47 f0
  replace f1 := shm_52 f1
  have nf0 : fc_1 PRD (23, [6], [102, 1]) ws (vs) := by
    refine ⟨nf_in hl rfl, sgq_83 ?_⟩
    · show 1 * v_iv (n_v vs 6) + 0 ≤ 102
      omega
  have nf1 : fc_1 PRD (23, [6], [-102, -1]) ws (vs) := by
    refine ⟨nf_in hl rfl, sgq_84 ?_⟩
    · show (-1) * v_iv (n_v vs 6) + 0 ≤ (-102)
      omega
  refine ⟨(fun _ h => (by cases h)), [], trivial, ?_, (fun _ h => (by cases h))⟩
  rw [List.append_nil]
  exact List.forall_mem_cons.mpr ⟨⟨show (23 : Nat) < 100 from by decide, nf0⟩, List.forall_mem_cons.mpr ⟨⟨show (23 : Nat) < 100 from by decide, nf1⟩, (fun _ h => (by cases h))⟩⟩
def n_jLat_charAt_v612_an : List an_T := []
def t_jLat_charAt_v612_ct : ct_L := [(12, 9, e_jStr_checkIndex_v457), (1000004, 0, en_ro [(2, 0, 0, [5228])] (0, 3, 3, [])), (1000005, 0, en_ro [(2, 0, 0, [5228]), (0, 0, 0, [])] (0, 102, 102, []))]
set_option maxRecDepth 100000 in
theorem c_jLat_charAt_v612 {l : Launch} {D : va_G} {kA : Nat → ClassId} : ct_ok PRD l D kA GG y_jLat_charAt z_jLat_charAt e_jLat_charAt_v612 := chk_all_ok (FT := []) (PT := []) (CT := t_jLat_charAt_v612_ct) (KT := []) (NT := []) (AN := n_jLat_charAt_v612_an) (OT := [o_jLat_charAt_v612_0]) 0 200 (List.forall_mem_cons.mpr ⟨oo_jLat_charAt_v612_0, List.forall_mem_nil _⟩) (by decide +kernel) ⟨List.forall_mem_nil _, List.forall_mem_nil _, List.forall_mem_cons.mpr ⟨cl_static (y := y_jStr_checkIndex) c_jStr_checkIndex_v457 wm_694 wm_11 wm_692 wm_693 ⟨by decide, by decide, by decide +kernel⟩ (by decide), List.forall_mem_cons.mpr ⟨cl_tlen (i := 28) (n := 3) rfl (by decide +kernel) (by decide +kernel) (by decide +kernel), List.forall_mem_cons.mpr ⟨cl_tbyte1 (i := 28) (n := 3) (k := 0) rfl (by decide +kernel) (by decide +kernel) (by decide) (by decide +kernel), List.forall_mem_nil _⟩⟩⟩, List.forall_mem_nil _, List.forall_mem_nil _, GG_pl⟩ (by decide +kernel)
def e_jLat_charAt_v614 : en_T := ([(2, 0, 0, [5228]), (0, 1, 1, [])], some (0, 0, 65535, []), true, 3, 0, 0, [], [], (0, [], [], [(23, [2], [97, 1]), (23, [2], [-97, -1])], []))
def o_jLat_charAt_v614_0 : or_T := (14, 7, [(3, (0, 97, 97, [])), (5, (0, 0, 97, [])), (6, (0, 0, 65535, []))], [(22, [6, 5], []), (12, [5, 3], [256])], [], [], [(23, [6], [97, 1]), (23, [6], [-97, -1])], [], [])
theorem oo_jLat_charAt_v614_0 {kA : Nat → ClassId} : or_ok PRD kA GG o_jLat_charAt_v614_0 := by
  refine or_mk fun A ta ws vs hD hth hl => ?_
  intro t3 k3 t5 k5 t6 k6 f0 f1
  replace f0 := shm_47 f0
  replace f1 := shm_52 f1
  have nf0 : fc_1 PRD (23, [6], [97, 1]) ws (vs) := by
    refine ⟨nf_in hl rfl, sgq_85 ?_⟩
    · show 1 * v_iv (n_v vs 6) + 0 ≤ 97
      omega
  have nf1 : fc_1 PRD (23, [6], [-97, -1]) ws (vs) := by
    refine ⟨nf_in hl rfl, sgq_86 ?_⟩
    · show (-1) * v_iv (n_v vs 6) + 0 ≤ (-97)
      omega
  refine ⟨(fun _ h => (by cases h)), [], trivial, ?_, (fun _ h => (by cases h))⟩
  rw [List.append_nil]
  exact List.forall_mem_cons.mpr ⟨⟨show (23 : Nat) < 100 from by decide, nf0⟩, List.forall_mem_cons.mpr ⟨⟨show (23 : Nat) < 100 from by decide, nf1⟩, (fun _ h => (by cases h))⟩⟩
def n_jLat_charAt_v614_an : List an_T := []
def t_jLat_charAt_v614_ct : ct_L := [(12, 9, e_jStr_checkIndex_v461), (1000004, 0, en_ro [(2, 0, 0, [5228])] (0, 3, 3, [])), (1000005, 0, en_ro [(2, 0, 0, [5228]), (0, 1, 1, [])] (0, 97, 97, []))]
set_option maxRecDepth 100000 in
theorem c_jLat_charAt_v614 {l : Launch} {D : va_G} {kA : Nat → ClassId} : ct_ok PRD l D kA GG y_jLat_charAt z_jLat_charAt e_jLat_charAt_v614 := chk_all_ok (FT := []) (PT := []) (CT := t_jLat_charAt_v614_ct) (KT := []) (NT := []) (AN := n_jLat_charAt_v614_an) (OT := [o_jLat_charAt_v614_0]) 0 200 (List.forall_mem_cons.mpr ⟨oo_jLat_charAt_v614_0, List.forall_mem_nil _⟩) (by decide +kernel) ⟨List.forall_mem_nil _, List.forall_mem_nil _, List.forall_mem_cons.mpr ⟨cl_static (y := y_jStr_checkIndex) c_jStr_checkIndex_v461 wm_694 wm_11 wm_692 wm_693 ⟨by decide, by decide, by decide +kernel⟩ (by decide), List.forall_mem_cons.mpr ⟨cl_tlen (i := 28) (n := 3) rfl (by decide +kernel) (by decide +kernel) (by decide +kernel), List.forall_mem_cons.mpr ⟨cl_tbyte1 (i := 28) (n := 3) (k := 1) rfl (by decide +kernel) (by decide +kernel) (by decide) (by decide +kernel), List.forall_mem_nil _⟩⟩⟩, List.forall_mem_nil _, List.forall_mem_nil _, GG_pl⟩ (by decide +kernel)
def e_jLat_charAt_v616 : en_T := ([(2, 0, 0, [5228]), (0, 2, 2, [])], some (0, 0, 65535, []), true, 3, 0, 0, [], [], (0, [], [], [(23, [2], [114, 1]), (23, [2], [-114, -1])], []))
def o_jLat_charAt_v616_0 : or_T := (14, 7, [(3, (0, 114, 114, [])), (5, (0, 0, 114, [])), (6, (0, 0, 65535, []))], [(22, [6, 5], []), (12, [5, 3], [256])], [], [], [(23, [6], [114, 1]), (23, [6], [-114, -1])], [], [])
theorem oo_jLat_charAt_v616_0 {kA : Nat → ClassId} : or_ok PRD kA GG o_jLat_charAt_v616_0 := by
  refine or_mk fun A ta ws vs hD hth hl => ?_
  intro t3 k3 t5 k5 t6 k6 f0 f1
  replace f0 := shm_47 f0
  replace f1 := shm_52 f1
  have nf0 : fc_1 PRD (23, [6], [114, 1]) ws (vs) := by
    refine ⟨nf_in hl rfl, sgq_63 ?_⟩
    · show 1 * v_iv (n_v vs 6) + 0 ≤ 114
      omega
  have nf1 : fc_1 PRD (23, [6], [-114, -1]) ws (vs) := by
    refine ⟨nf_in hl rfl, sgq_64 ?_⟩
    · show (-1) * v_iv (n_v vs 6) + 0 ≤ (-114)
      omega
  refine ⟨(fun _ h => (by cases h)), [], trivial, ?_, (fun _ h => (by cases h))⟩
  rw [List.append_nil]
  exact List.forall_mem_cons.mpr ⟨⟨show (23 : Nat) < 100 from by decide, nf0⟩, List.forall_mem_cons.mpr ⟨⟨show (23 : Nat) < 100 from by decide, nf1⟩, (fun _ h => (by cases h))⟩⟩
def n_jLat_charAt_v616_an : List an_T := []
def t_jLat_charAt_v616_ct : ct_L := [(12, 9, e_jStr_checkIndex_v465), (1000004, 0, en_ro [(2, 0, 0, [5228])] (0, 3, 3, [])), (1000005, 0, en_ro [(2, 0, 0, [5228]), (0, 2, 2, [])] (0, 114, 114, []))]
set_option maxRecDepth 100000 in
theorem c_jLat_charAt_v616 {l : Launch} {D : va_G} {kA : Nat → ClassId} : ct_ok PRD l D kA GG y_jLat_charAt z_jLat_charAt e_jLat_charAt_v616 := chk_all_ok (FT := []) (PT := []) (CT := t_jLat_charAt_v616_ct) (KT := []) (NT := []) (AN := n_jLat_charAt_v616_an) (OT := [o_jLat_charAt_v616_0]) 0 200 (List.forall_mem_cons.mpr ⟨oo_jLat_charAt_v616_0, List.forall_mem_nil _⟩) (by decide +kernel) ⟨List.forall_mem_nil _, List.forall_mem_nil _, List.forall_mem_cons.mpr ⟨cl_static (y := y_jStr_checkIndex) c_jStr_checkIndex_v465 wm_694 wm_11 wm_692 wm_693 ⟨by decide, by decide, by decide +kernel⟩ (by decide), List.forall_mem_cons.mpr ⟨cl_tlen (i := 28) (n := 3) rfl (by decide +kernel) (by decide +kernel) (by decide +kernel), List.forall_mem_cons.mpr ⟨cl_tbyte1 (i := 28) (n := 3) (k := 2) rfl (by decide +kernel) (by decide +kernel) (by decide) (by decide +kernel), List.forall_mem_nil _⟩⟩⟩, List.forall_mem_nil _, List.forall_mem_nil _, GG_pl⟩ (by decide +kernel)
def e_jLat_charAt_v619 : en_T := ([(2, 0, 0, [5229]), (0, 0, 0, [])], some (0, 0, 65535, []), true, 3, 0, 0, [], [], (0, [], [], [(23, [2], [99, 1]), (23, [2], [-99, -1])], []))
def o_jLat_charAt_v619_0 : or_T := (14, 7, [(3, (0, 99, 99, [])), (5, (0, 0, 99, [])), (6, (0, 0, 65535, []))], [(22, [6, 5], []), (12, [5, 3], [256])], [], [], [(23, [6], [99, 1]), (23, [6], [-99, -1])], [], [])
theorem oo_jLat_charAt_v619_0 {kA : Nat → ClassId} : or_ok PRD kA GG o_jLat_charAt_v619_0 := by
  refine or_mk fun A ta ws vs hD hth hl => ?_
  intro t3 k3 t5 k5 t6 k6 f0 f1
  replace f0 := shm_47 f0
  replace f1 := shm_52 f1
  have nf0 : fc_1 PRD (23, [6], [99, 1]) ws (vs) := by
    refine ⟨nf_in hl rfl, sgq_87 ?_⟩
    · show 1 * v_iv (n_v vs 6) + 0 ≤ 99
      omega
  have nf1 : fc_1 PRD (23, [6], [-99, -1]) ws (vs) := by
    refine ⟨nf_in hl rfl, sgq_88 ?_⟩
    · show (-1) * v_iv (n_v vs 6) + 0 ≤ (-99)
      omega
  refine ⟨(fun _ h => (by cases h)), [], trivial, ?_, (fun _ h => (by cases h))⟩
  rw [List.append_nil]
  exact List.forall_mem_cons.mpr ⟨⟨show (23 : Nat) < 100 from by decide, nf0⟩, List.forall_mem_cons.mpr ⟨⟨show (23 : Nat) < 100 from by decide, nf1⟩, (fun _ h => (by cases h))⟩⟩
def n_jLat_charAt_v619_an : List an_T := []
def t_jLat_charAt_v619_ct : ct_L := [(12, 9, e_jStr_checkIndex_v292), (1000004, 0, en_ro [(2, 0, 0, [5229])] (0, 4, 4, [])), (1000005, 0, en_ro [(2, 0, 0, [5229]), (0, 0, 0, [])] (0, 99, 99, []))]
set_option maxRecDepth 100000 in
theorem c_jLat_charAt_v619 {l : Launch} {D : va_G} {kA : Nat → ClassId} : ct_ok PRD l D kA GG y_jLat_charAt z_jLat_charAt e_jLat_charAt_v619 := chk_all_ok (FT := []) (PT := []) (CT := t_jLat_charAt_v619_ct) (KT := []) (NT := []) (AN := n_jLat_charAt_v619_an) (OT := [o_jLat_charAt_v619_0]) 0 200 (List.forall_mem_cons.mpr ⟨oo_jLat_charAt_v619_0, List.forall_mem_nil _⟩) (by decide +kernel) ⟨List.forall_mem_nil _, List.forall_mem_nil _, List.forall_mem_cons.mpr ⟨cl_static (y := y_jStr_checkIndex) c_jStr_checkIndex_v292 wm_694 wm_11 wm_692 wm_693 ⟨by decide, by decide, by decide +kernel⟩ (by decide), List.forall_mem_cons.mpr ⟨cl_tlen (i := 29) (n := 4) rfl (by decide +kernel) (by decide +kernel) (by decide +kernel), List.forall_mem_cons.mpr ⟨cl_tbyte1 (i := 29) (n := 4) (k := 0) rfl (by decide +kernel) (by decide +kernel) (by decide) (by decide +kernel), List.forall_mem_nil _⟩⟩⟩, List.forall_mem_nil _, List.forall_mem_nil _, GG_pl⟩ (by decide +kernel)
def e_jLat_charAt_v621 : en_T := ([(2, 0, 0, [5229]), (0, 1, 1, [])], some (0, 0, 65535, []), true, 3, 0, 0, [], [], (0, [], [], [(23, [2], [111, 1]), (23, [2], [-111, -1])], []))
def o_jLat_charAt_v621_0 : or_T := (14, 7, [(3, (0, 111, 111, [])), (5, (0, 0, 111, [])), (6, (0, 0, 65535, []))], [(22, [6, 5], []), (12, [5, 3], [256])], [], [], [(23, [6], [111, 1]), (23, [6], [-111, -1])], [], [])
theorem oo_jLat_charAt_v621_0 {kA : Nat → ClassId} : or_ok PRD kA GG o_jLat_charAt_v621_0 := by
  refine or_mk fun A ta ws vs hD hth hl => ?_
  intro t3 k3 t5 k5 t6 k6 f0 f1
  replace f0 := shm_47 f0
  replace f1 := shm_52 f1
  have nf0 : fc_1 PRD (23, [6], [111, 1]) ws (vs) := by
    refine ⟨nf_in hl rfl, sgq_55 ?_⟩
    · show 1 * v_iv (n_v vs 6) + 0 ≤ 111
      omega
  have nf1 : fc_1 PRD (23, [6], [-111, -1]) ws (vs) := by
    refine ⟨nf_in hl rfl, sgq_56 ?_⟩
    · show (-1) * v_iv (n_v vs 6) + 0 ≤ (-111)
      omega
  refine ⟨(fun _ h => (by cases h)), [], trivial, ?_, (fun _ h => (by cases h))⟩
  rw [List.append_nil]
  exact List.forall_mem_cons.mpr ⟨⟨show (23 : Nat) < 100 from by decide, nf0⟩, List.forall_mem_cons.mpr ⟨⟨show (23 : Nat) < 100 from by decide, nf1⟩, (fun _ h => (by cases h))⟩⟩
def n_jLat_charAt_v621_an : List an_T := []
def t_jLat_charAt_v621_ct : ct_L := [(12, 9, e_jStr_checkIndex_v296), (1000004, 0, en_ro [(2, 0, 0, [5229])] (0, 4, 4, [])), (1000005, 0, en_ro [(2, 0, 0, [5229]), (0, 1, 1, [])] (0, 111, 111, []))]
set_option maxRecDepth 100000 in
theorem c_jLat_charAt_v621 {l : Launch} {D : va_G} {kA : Nat → ClassId} : ct_ok PRD l D kA GG y_jLat_charAt z_jLat_charAt e_jLat_charAt_v621 := chk_all_ok (FT := []) (PT := []) (CT := t_jLat_charAt_v621_ct) (KT := []) (NT := []) (AN := n_jLat_charAt_v621_an) (OT := [o_jLat_charAt_v621_0]) 0 200 (List.forall_mem_cons.mpr ⟨oo_jLat_charAt_v621_0, List.forall_mem_nil _⟩) (by decide +kernel) ⟨List.forall_mem_nil _, List.forall_mem_nil _, List.forall_mem_cons.mpr ⟨cl_static (y := y_jStr_checkIndex) c_jStr_checkIndex_v296 wm_694 wm_11 wm_692 wm_693 ⟨by decide, by decide, by decide +kernel⟩ (by decide), List.forall_mem_cons.mpr ⟨cl_tlen (i := 29) (n := 4) rfl (by decide +kernel) (by decide +kernel) (by decide +kernel), List.forall_mem_cons.mpr ⟨cl_tbyte1 (i := 29) (n := 4) (k := 1) rfl (by decide +kernel) (by decide +kernel) (by decide) (by decide +kernel), List.forall_mem_nil _⟩⟩⟩, List.forall_mem_nil _, List.forall_mem_nil _, GG_pl⟩ (by decide +kernel)
def e_jLat_charAt_v623 : en_T := ([(2, 0, 0, [5229]), (0, 2, 2, [])], some (0, 0, 65535, []), true, 3, 0, 0, [], [], (0, [], [], [(23, [2], [114, 1]), (23, [2], [-114, -1])], []))
def o_jLat_charAt_v623_0 : or_T := (14, 7, [(3, (0, 114, 114, [])), (5, (0, 0, 114, [])), (6, (0, 0, 65535, []))], [(22, [6, 5], []), (12, [5, 3], [256])], [], [], [(23, [6], [114, 1]), (23, [6], [-114, -1])], [], [])
theorem oo_jLat_charAt_v623_0 {kA : Nat → ClassId} : or_ok PRD kA GG o_jLat_charAt_v623_0 := by
  refine or_mk fun A ta ws vs hD hth hl => ?_
  intro t3 k3 t5 k5 t6 k6 f0 f1
  replace f0 := shm_47 f0
  replace f1 := shm_52 f1
  have nf0 : fc_1 PRD (23, [6], [114, 1]) ws (vs) := by
    refine ⟨nf_in hl rfl, sgq_63 ?_⟩
    · show 1 * v_iv (n_v vs 6) + 0 ≤ 114
      omega
  have nf1 : fc_1 PRD (23, [6], [-114, -1]) ws (vs) := by
    refine ⟨nf_in hl rfl, sgq_64 ?_⟩
    · show (-1) * v_iv (n_v vs 6) + 0 ≤ (-114)
      omega
  refine ⟨(fun _ h => (by cases h)), [], trivial, ?_, (fun _ h => (by cases h))⟩
  rw [List.append_nil]
  exact List.forall_mem_cons.mpr ⟨⟨show (23 : Nat) < 100 from by decide, nf0⟩, List.forall_mem_cons.mpr ⟨⟨show (23 : Nat) < 100 from by decide, nf1⟩, (fun _ h => (by cases h))⟩⟩
def n_jLat_charAt_v623_an : List an_T := []
def t_jLat_charAt_v623_ct : ct_L := [(12, 9, e_jStr_checkIndex_v300), (1000004, 0, en_ro [(2, 0, 0, [5229])] (0, 4, 4, [])), (1000005, 0, en_ro [(2, 0, 0, [5229]), (0, 2, 2, [])] (0, 114, 114, []))]
set_option maxRecDepth 100000 in
theorem c_jLat_charAt_v623 {l : Launch} {D : va_G} {kA : Nat → ClassId} : ct_ok PRD l D kA GG y_jLat_charAt z_jLat_charAt e_jLat_charAt_v623 := chk_all_ok (FT := []) (PT := []) (CT := t_jLat_charAt_v623_ct) (KT := []) (NT := []) (AN := n_jLat_charAt_v623_an) (OT := [o_jLat_charAt_v623_0]) 0 200 (List.forall_mem_cons.mpr ⟨oo_jLat_charAt_v623_0, List.forall_mem_nil _⟩) (by decide +kernel) ⟨List.forall_mem_nil _, List.forall_mem_nil _, List.forall_mem_cons.mpr ⟨cl_static (y := y_jStr_checkIndex) c_jStr_checkIndex_v300 wm_694 wm_11 wm_692 wm_693 ⟨by decide, by decide, by decide +kernel⟩ (by decide), List.forall_mem_cons.mpr ⟨cl_tlen (i := 29) (n := 4) rfl (by decide +kernel) (by decide +kernel) (by decide +kernel), List.forall_mem_cons.mpr ⟨cl_tbyte1 (i := 29) (n := 4) (k := 2) rfl (by decide +kernel) (by decide +kernel) (by decide) (by decide +kernel), List.forall_mem_nil _⟩⟩⟩, List.forall_mem_nil _, List.forall_mem_nil _, GG_pl⟩ (by decide +kernel)
def e_jLat_charAt_v625 : en_T := ([(2, 0, 0, [5229]), (0, 3, 3, [])], some (0, 0, 65535, []), true, 3, 0, 0, [], [], (0, [], [], [(23, [2], [101, 1]), (23, [2], [-101, -1])], []))
def o_jLat_charAt_v625_0 : or_T := (14, 7, [(3, (0, 101, 101, [])), (5, (0, 0, 101, [])), (6, (0, 0, 65535, []))], [(22, [6, 5], []), (12, [5, 3], [256])], [], [], [(23, [6], [101, 1]), (23, [6], [-101, -1])], [], [])
theorem oo_jLat_charAt_v625_0 {kA : Nat → ClassId} : or_ok PRD kA GG o_jLat_charAt_v625_0 := by
  refine or_mk fun A ta ws vs hD hth hl => ?_
  intro t3 k3 t5 k5 t6 k6 f0 f1
  replace f0 := shm_47 f0
  replace f1 := shm_52 f1
  have nf0 : fc_1 PRD (23, [6], [101, 1]) ws (vs) := by
    refine ⟨nf_in hl rfl, sgq_59 ?_⟩
    · show 1 * v_iv (n_v vs 6) + 0 ≤ 101
      omega
  have nf1 : fc_1 PRD (23, [6], [-101, -1]) ws (vs) := by
    refine ⟨nf_in hl rfl, sgq_60 ?_⟩
    · show (-1) * v_iv (n_v vs 6) + 0 ≤ (-101)
      omega
  refine ⟨(fun _ h => (by cases h)), [], trivial, ?_, (fun _ h => (by cases h))⟩
  rw [List.append_nil]
  exact List.forall_mem_cons.mpr ⟨⟨show (23 : Nat) < 100 from by decide, nf0⟩, List.forall_mem_cons.mpr ⟨⟨show (23 : Nat) < 100 from by decide, nf1⟩, (fun _ h => (by cases h))⟩⟩
def n_jLat_charAt_v625_an : List an_T := []
def t_jLat_charAt_v625_ct : ct_L := [(12, 9, e_jStr_checkIndex_v304), (1000004, 0, en_ro [(2, 0, 0, [5229])] (0, 4, 4, [])), (1000005, 0, en_ro [(2, 0, 0, [5229]), (0, 3, 3, [])] (0, 101, 101, []))]
set_option maxRecDepth 100000 in
theorem c_jLat_charAt_v625 {l : Launch} {D : va_G} {kA : Nat → ClassId} : ct_ok PRD l D kA GG y_jLat_charAt z_jLat_charAt e_jLat_charAt_v625 := chk_all_ok (FT := []) (PT := []) (CT := t_jLat_charAt_v625_ct) (KT := []) (NT := []) (AN := n_jLat_charAt_v625_an) (OT := [o_jLat_charAt_v625_0]) 0 200 (List.forall_mem_cons.mpr ⟨oo_jLat_charAt_v625_0, List.forall_mem_nil _⟩) (by decide +kernel) ⟨List.forall_mem_nil _, List.forall_mem_nil _, List.forall_mem_cons.mpr ⟨cl_static (y := y_jStr_checkIndex) c_jStr_checkIndex_v304 wm_694 wm_11 wm_692 wm_693 ⟨by decide, by decide, by decide +kernel⟩ (by decide), List.forall_mem_cons.mpr ⟨cl_tlen (i := 29) (n := 4) rfl (by decide +kernel) (by decide +kernel) (by decide +kernel), List.forall_mem_cons.mpr ⟨cl_tbyte1 (i := 29) (n := 4) (k := 3) rfl (by decide +kernel) (by decide +kernel) (by decide) (by decide +kernel), List.forall_mem_nil _⟩⟩⟩, List.forall_mem_nil _, List.forall_mem_nil _, GG_pl⟩ (by decide +kernel)
def e_jLat_charAt_v628 : en_T := ([(2, 0, 0, [5230]), (0, 0, 0, [])], some (0, 0, 65535, []), true, 3, 0, 0, [], [], (0, [], [], [(23, [2], [99, 1]), (23, [2], [-99, -1])], []))
def o_jLat_charAt_v628_0 : or_T := (14, 7, [(3, (0, 99, 99, [])), (5, (0, 0, 99, [])), (6, (0, 0, 65535, []))], [(22, [6, 5], []), (12, [5, 3], [256])], [], [], [(23, [6], [99, 1]), (23, [6], [-99, -1])], [], [])
theorem oo_jLat_charAt_v628_0 {kA : Nat → ClassId} : or_ok PRD kA GG o_jLat_charAt_v628_0 := by
  refine or_mk fun A ta ws vs hD hth hl => ?_
  intro t3 k3 t5 k5 t6 k6 f0 f1
  replace f0 := shm_47 f0
  replace f1 := shm_52 f1
  have nf0 : fc_1 PRD (23, [6], [99, 1]) ws (vs) := by
    refine ⟨nf_in hl rfl, sgq_87 ?_⟩
    · show 1 * v_iv (n_v vs 6) + 0 ≤ 99
      omega
  have nf1 : fc_1 PRD (23, [6], [-99, -1]) ws (vs) := by
    refine ⟨nf_in hl rfl, sgq_88 ?_⟩
    · show (-1) * v_iv (n_v vs 6) + 0 ≤ (-99)
      omega
  refine ⟨(fun _ h => (by cases h)), [], trivial, ?_, (fun _ h => (by cases h))⟩
  rw [List.append_nil]
  exact List.forall_mem_cons.mpr ⟨⟨show (23 : Nat) < 100 from by decide, nf0⟩, List.forall_mem_cons.mpr ⟨⟨show (23 : Nat) < 100 from by decide, nf1⟩, (fun _ h => (by cases h))⟩⟩
def n_jLat_charAt_v628_an : List an_T := []
def t_jLat_charAt_v628_ct : ct_L := [(12, 9, e_jStr_checkIndex_v457), (1000004, 0, en_ro [(2, 0, 0, [5230])] (0, 3, 3, [])), (1000005, 0, en_ro [(2, 0, 0, [5230]), (0, 0, 0, [])] (0, 99, 99, []))]
set_option maxRecDepth 100000 in
theorem c_jLat_charAt_v628 {l : Launch} {D : va_G} {kA : Nat → ClassId} : ct_ok PRD l D kA GG y_jLat_charAt z_jLat_charAt e_jLat_charAt_v628 := chk_all_ok (FT := []) (PT := []) (CT := t_jLat_charAt_v628_ct) (KT := []) (NT := []) (AN := n_jLat_charAt_v628_an) (OT := [o_jLat_charAt_v628_0]) 0 200 (List.forall_mem_cons.mpr ⟨oo_jLat_charAt_v628_0, List.forall_mem_nil _⟩) (by decide +kernel) ⟨List.forall_mem_nil _, List.forall_mem_nil _, List.forall_mem_cons.mpr ⟨cl_static (y := y_jStr_checkIndex) c_jStr_checkIndex_v457 wm_694 wm_11 wm_692 wm_693 ⟨by decide, by decide, by decide +kernel⟩ (by decide), List.forall_mem_cons.mpr ⟨cl_tlen (i := 30) (n := 3) rfl (by decide +kernel) (by decide +kernel) (by decide +kernel), List.forall_mem_cons.mpr ⟨cl_tbyte1 (i := 30) (n := 3) (k := 0) rfl (by decide +kernel) (by decide +kernel) (by decide) (by decide +kernel), List.forall_mem_nil _⟩⟩⟩, List.forall_mem_nil _, List.forall_mem_nil _, GG_pl⟩ (by decide +kernel)
def e_jLat_charAt_v630 : en_T := ([(2, 0, 0, [5230]), (0, 1, 1, [])], some (0, 0, 65535, []), true, 3, 0, 0, [], [], (0, [], [], [(23, [2], [117, 1]), (23, [2], [-117, -1])], []))
def o_jLat_charAt_v630_0 : or_T := (14, 7, [(3, (0, 117, 117, [])), (5, (0, 0, 117, [])), (6, (0, 0, 65535, []))], [(22, [6, 5], []), (12, [5, 3], [256])], [], [], [(23, [6], [117, 1]), (23, [6], [-117, -1])], [], [])
theorem oo_jLat_charAt_v630_0 {kA : Nat → ClassId} : or_ok PRD kA GG o_jLat_charAt_v630_0 := by
  refine or_mk fun A ta ws vs hD hth hl => ?_
  intro t3 k3 t5 k5 t6 k6 f0 f1
  replace f0 := shm_47 f0
  replace f1 := shm_52 f1
  have nf0 : fc_1 PRD (23, [6], [117, 1]) ws (vs) := by
    refine ⟨nf_in hl rfl, sgq_65 ?_⟩
    · show 1 * v_iv (n_v vs 6) + 0 ≤ 117
      omega
  have nf1 : fc_1 PRD (23, [6], [-117, -1]) ws (vs) := by
    refine ⟨nf_in hl rfl, sgq_66 ?_⟩
    · show (-1) * v_iv (n_v vs 6) + 0 ≤ (-117)
      omega
  refine ⟨(fun _ h => (by cases h)), [], trivial, ?_, (fun _ h => (by cases h))⟩
  rw [List.append_nil]
  exact List.forall_mem_cons.mpr ⟨⟨show (23 : Nat) < 100 from by decide, nf0⟩, List.forall_mem_cons.mpr ⟨⟨show (23 : Nat) < 100 from by decide, nf1⟩, (fun _ h => (by cases h))⟩⟩
def n_jLat_charAt_v630_an : List an_T := []
def t_jLat_charAt_v630_ct : ct_L := [(12, 9, e_jStr_checkIndex_v461), (1000004, 0, en_ro [(2, 0, 0, [5230])] (0, 3, 3, [])), (1000005, 0, en_ro [(2, 0, 0, [5230]), (0, 1, 1, [])] (0, 117, 117, []))]
set_option maxRecDepth 100000 in
theorem c_jLat_charAt_v630 {l : Launch} {D : va_G} {kA : Nat → ClassId} : ct_ok PRD l D kA GG y_jLat_charAt z_jLat_charAt e_jLat_charAt_v630 := chk_all_ok (FT := []) (PT := []) (CT := t_jLat_charAt_v630_ct) (KT := []) (NT := []) (AN := n_jLat_charAt_v630_an) (OT := [o_jLat_charAt_v630_0]) 0 200 (List.forall_mem_cons.mpr ⟨oo_jLat_charAt_v630_0, List.forall_mem_nil _⟩) (by decide +kernel) ⟨List.forall_mem_nil _, List.forall_mem_nil _, List.forall_mem_cons.mpr ⟨cl_static (y := y_jStr_checkIndex) c_jStr_checkIndex_v461 wm_694 wm_11 wm_692 wm_693 ⟨by decide, by decide, by decide +kernel⟩ (by decide), List.forall_mem_cons.mpr ⟨cl_tlen (i := 30) (n := 3) rfl (by decide +kernel) (by decide +kernel) (by decide +kernel), List.forall_mem_cons.mpr ⟨cl_tbyte1 (i := 30) (n := 3) (k := 1) rfl (by decide +kernel) (by decide +kernel) (by decide) (by decide +kernel), List.forall_mem_nil _⟩⟩⟩, List.forall_mem_nil _, List.forall_mem_nil _, GG_pl⟩ (by decide +kernel)
def e_jLat_charAt_v632 : en_T := ([(2, 0, 0, [5230]), (0, 2, 2, [])], some (0, 0, 65535, []), true, 3, 0, 0, [], [], (0, [], [], [(23, [2], [116, 1]), (23, [2], [-116, -1])], []))
def o_jLat_charAt_v632_0 : or_T := (14, 7, [(3, (0, 116, 116, [])), (5, (0, 0, 116, [])), (6, (0, 0, 65535, []))], [(22, [6, 5], []), (12, [5, 3], [256])], [], [], [(23, [6], [116, 1]), (23, [6], [-116, -1])], [], [])
theorem oo_jLat_charAt_v632_0 {kA : Nat → ClassId} : or_ok PRD kA GG o_jLat_charAt_v632_0 := by
  refine or_mk fun A ta ws vs hD hth hl => ?_
  intro t3 k3 t5 k5 t6 k6 f0 f1
  replace f0 := shm_47 f0
  replace f1 := shm_52 f1
  have nf0 : fc_1 PRD (23, [6], [116, 1]) ws (vs) := by
    refine ⟨nf_in hl rfl, sgq_79 ?_⟩
    · show 1 * v_iv (n_v vs 6) + 0 ≤ 116
      omega
  have nf1 : fc_1 PRD (23, [6], [-116, -1]) ws (vs) := by
    refine ⟨nf_in hl rfl, sgq_80 ?_⟩
    · show (-1) * v_iv (n_v vs 6) + 0 ≤ (-116)
      omega
  refine ⟨(fun _ h => (by cases h)), [], trivial, ?_, (fun _ h => (by cases h))⟩
  rw [List.append_nil]
  exact List.forall_mem_cons.mpr ⟨⟨show (23 : Nat) < 100 from by decide, nf0⟩, List.forall_mem_cons.mpr ⟨⟨show (23 : Nat) < 100 from by decide, nf1⟩, (fun _ h => (by cases h))⟩⟩
def n_jLat_charAt_v632_an : List an_T := []
def t_jLat_charAt_v632_ct : ct_L := [(12, 9, e_jStr_checkIndex_v465), (1000004, 0, en_ro [(2, 0, 0, [5230])] (0, 3, 3, [])), (1000005, 0, en_ro [(2, 0, 0, [5230]), (0, 2, 2, [])] (0, 116, 116, []))]
set_option maxRecDepth 100000 in
theorem c_jLat_charAt_v632 {l : Launch} {D : va_G} {kA : Nat → ClassId} : ct_ok PRD l D kA GG y_jLat_charAt z_jLat_charAt e_jLat_charAt_v632 := chk_all_ok (FT := []) (PT := []) (CT := t_jLat_charAt_v632_ct) (KT := []) (NT := []) (AN := n_jLat_charAt_v632_an) (OT := [o_jLat_charAt_v632_0]) 0 200 (List.forall_mem_cons.mpr ⟨oo_jLat_charAt_v632_0, List.forall_mem_nil _⟩) (by decide +kernel) ⟨List.forall_mem_nil _, List.forall_mem_nil _, List.forall_mem_cons.mpr ⟨cl_static (y := y_jStr_checkIndex) c_jStr_checkIndex_v465 wm_694 wm_11 wm_692 wm_693 ⟨by decide, by decide, by decide +kernel⟩ (by decide), List.forall_mem_cons.mpr ⟨cl_tlen (i := 30) (n := 3) rfl (by decide +kernel) (by decide +kernel) (by decide +kernel), List.forall_mem_cons.mpr ⟨cl_tbyte1 (i := 30) (n := 3) (k := 2) rfl (by decide +kernel) (by decide +kernel) (by decide) (by decide +kernel), List.forall_mem_nil _⟩⟩⟩, List.forall_mem_nil _, List.forall_mem_nil _, GG_pl⟩ (by decide +kernel)
def e_jLat_charAt_v635 : en_T := ([(2, 0, 0, [5231]), (0, 0, 0, [])], some (0, 0, 65535, []), true, 3, 0, 0, [], [], (0, [], [], [(23, [2], [120, 1]), (23, [2], [-120, -1])], []))
def o_jLat_charAt_v635_0 : or_T := (14, 7, [(3, (0, 120, 120, [])), (5, (0, 0, 120, [])), (6, (0, 0, 65535, []))], [(22, [6, 5], []), (12, [5, 3], [256])], [], [], [(23, [6], [120, 1]), (23, [6], [-120, -1])], [], [])
theorem oo_jLat_charAt_v635_0 {kA : Nat → ClassId} : or_ok PRD kA GG o_jLat_charAt_v635_0 := by
  refine or_mk fun A ta ws vs hD hth hl => ?_
  intro t3 k3 t5 k5 t6 k6 f0 f1
  replace f0 := shm_47 f0
  replace f1 := shm_52 f1
  have nf0 : fc_1 PRD (23, [6], [120, 1]) ws (vs) := by
    refine ⟨nf_in hl rfl, sgq_93 ?_⟩
    · show 1 * v_iv (n_v vs 6) + 0 ≤ 120
      omega
  have nf1 : fc_1 PRD (23, [6], [-120, -1]) ws (vs) := by
    refine ⟨nf_in hl rfl, sgq_94 ?_⟩
    · show (-1) * v_iv (n_v vs 6) + 0 ≤ (-120)
      omega
  refine ⟨(fun _ h => (by cases h)), [], trivial, ?_, (fun _ h => (by cases h))⟩
  rw [List.append_nil]
  exact List.forall_mem_cons.mpr ⟨⟨show (23 : Nat) < 100 from by decide, nf0⟩, List.forall_mem_cons.mpr ⟨⟨show (23 : Nat) < 100 from by decide, nf1⟩, (fun _ h => (by cases h))⟩⟩
def n_jLat_charAt_v635_an : List an_T := []
def t_jLat_charAt_v635_ct : ct_L := [(12, 9, e_jStr_checkIndex_v636), (1000004, 0, en_ro [(2, 0, 0, [5231])] (0, 1, 1, [])), (1000005, 0, en_ro [(2, 0, 0, [5231]), (0, 0, 0, [])] (0, 120, 120, []))]
set_option maxRecDepth 100000 in
theorem c_jLat_charAt_v635 {l : Launch} {D : va_G} {kA : Nat → ClassId} : ct_ok PRD l D kA GG y_jLat_charAt z_jLat_charAt e_jLat_charAt_v635 := chk_all_ok (FT := []) (PT := []) (CT := t_jLat_charAt_v635_ct) (KT := []) (NT := []) (AN := n_jLat_charAt_v635_an) (OT := [o_jLat_charAt_v635_0]) 0 200 (List.forall_mem_cons.mpr ⟨oo_jLat_charAt_v635_0, List.forall_mem_nil _⟩) (by decide +kernel) ⟨List.forall_mem_nil _, List.forall_mem_nil _, List.forall_mem_cons.mpr ⟨cl_static (y := y_jStr_checkIndex) c_jStr_checkIndex_v636 wm_694 wm_11 wm_692 wm_693 ⟨by decide, by decide, by decide +kernel⟩ (by decide), List.forall_mem_cons.mpr ⟨cl_tlen (i := 31) (n := 1) rfl (by decide +kernel) (by decide +kernel) (by decide +kernel), List.forall_mem_cons.mpr ⟨cl_tbyte (i := 31) (n := 1) rfl (by decide +kernel) (by decide +kernel) (by decide +kernel) (by decide +kernel), List.forall_mem_nil _⟩⟩⟩, List.forall_mem_nil _, List.forall_mem_nil _, GG_pl⟩ (by decide +kernel)
def e_jLat_charAt_v640 : en_T := ([(2, 0, 0, [5232]), (0, 0, 0, [])], some (0, 0, 65535, []), true, 3, 0, 0, [], [], (0, [], [], [(23, [2], [121, 1]), (23, [2], [-121, -1])], []))
def o_jLat_charAt_v640_0 : or_T := (14, 7, [(3, (0, 121, 121, [])), (5, (0, 0, 121, [])), (6, (0, 0, 65535, []))], [(22, [6, 5], []), (12, [5, 3], [256])], [], [], [(23, [6], [121, 1]), (23, [6], [-121, -1])], [], [])
theorem oo_jLat_charAt_v640_0 {kA : Nat → ClassId} : or_ok PRD kA GG o_jLat_charAt_v640_0 := by
  refine or_mk fun A ta ws vs hD hth hl => ?_
  intro t3 k3 t5 k5 t6 k6 f0 f1
  replace f0 := shm_47 f0
  replace f1 := shm_52 f1
  have nf0 : fc_1 PRD (23, [6], [121, 1]) ws (vs) := by
    refine ⟨nf_in hl rfl, sgq_95 ?_⟩
    · show 1 * v_iv (n_v vs 6) + 0 ≤ 121
      omega
  have nf1 : fc_1 PRD (23, [6], [-121, -1]) ws (vs) := by
    refine ⟨nf_in hl rfl, sgq_96 ?_⟩
    · show (-1) * v_iv (n_v vs 6) + 0 ≤ (-121)
      omega
  refine ⟨(fun _ h => (by cases h)), [], trivial, ?_, (fun _ h => (by cases h))⟩
  rw [List.append_nil]
  exact List.forall_mem_cons.mpr ⟨⟨show (23 : Nat) < 100 from by decide, nf0⟩, List.forall_mem_cons.mpr ⟨⟨show (23 : Nat) < 100 from by decide, nf1⟩, (fun _ h => (by cases h))⟩⟩
def n_jLat_charAt_v640_an : List an_T := []
def t_jLat_charAt_v640_ct : ct_L := [(12, 9, e_jStr_checkIndex_v636), (1000004, 0, en_ro [(2, 0, 0, [5232])] (0, 1, 1, [])), (1000005, 0, en_ro [(2, 0, 0, [5232]), (0, 0, 0, [])] (0, 121, 121, []))]
set_option maxRecDepth 100000 in
theorem c_jLat_charAt_v640 {l : Launch} {D : va_G} {kA : Nat → ClassId} : ct_ok PRD l D kA GG y_jLat_charAt z_jLat_charAt e_jLat_charAt_v640 := chk_all_ok (FT := []) (PT := []) (CT := t_jLat_charAt_v640_ct) (KT := []) (NT := []) (AN := n_jLat_charAt_v640_an) (OT := [o_jLat_charAt_v640_0]) 0 200 (List.forall_mem_cons.mpr ⟨oo_jLat_charAt_v640_0, List.forall_mem_nil _⟩) (by decide +kernel) ⟨List.forall_mem_nil _, List.forall_mem_nil _, List.forall_mem_cons.mpr ⟨cl_static (y := y_jStr_checkIndex) c_jStr_checkIndex_v636 wm_694 wm_11 wm_692 wm_693 ⟨by decide, by decide, by decide +kernel⟩ (by decide), List.forall_mem_cons.mpr ⟨cl_tlen (i := 32) (n := 1) rfl (by decide +kernel) (by decide +kernel) (by decide +kernel), List.forall_mem_cons.mpr ⟨cl_tbyte (i := 32) (n := 1) rfl (by decide +kernel) (by decide +kernel) (by decide +kernel) (by decide +kernel), List.forall_mem_nil _⟩⟩⟩, List.forall_mem_nil _, List.forall_mem_nil _, GG_pl⟩ (by decide +kernel)
def e_jLat_charAt_v643 : en_T := ([(2, 0, 0, [5233]), (0, 0, 0, [])], some (0, 0, 65535, []), true, 3, 0, 0, [], [], (0, [], [], [(23, [2], [116, 1]), (23, [2], [-116, -1])], []))
def o_jLat_charAt_v643_0 : or_T := (14, 7, [(3, (0, 116, 116, [])), (5, (0, 0, 116, [])), (6, (0, 0, 65535, []))], [(22, [6, 5], []), (12, [5, 3], [256])], [], [], [(23, [6], [116, 1]), (23, [6], [-116, -1])], [], [])
theorem oo_jLat_charAt_v643_0 {kA : Nat → ClassId} : or_ok PRD kA GG o_jLat_charAt_v643_0 := by
  refine or_mk fun A ta ws vs hD hth hl => ?_
  intro t3 k3 t5 k5 t6 k6 f0 f1
  replace f0 := shm_47 f0
  replace f1 := shm_52 f1
  have nf0 : fc_1 PRD (23, [6], [116, 1]) ws (vs) := by
    refine ⟨nf_in hl rfl, sgq_79 ?_⟩
    · show 1 * v_iv (n_v vs 6) + 0 ≤ 116
      omega
  have nf1 : fc_1 PRD (23, [6], [-116, -1]) ws (vs) := by
    refine ⟨nf_in hl rfl, sgq_80 ?_⟩
    · show (-1) * v_iv (n_v vs 6) + 0 ≤ (-116)
      omega
  refine ⟨(fun _ h => (by cases h)), [], trivial, ?_, (fun _ h => (by cases h))⟩
  rw [List.append_nil]
  exact List.forall_mem_cons.mpr ⟨⟨show (23 : Nat) < 100 from by decide, nf0⟩, List.forall_mem_cons.mpr ⟨⟨show (23 : Nat) < 100 from by decide, nf1⟩, (fun _ h => (by cases h))⟩⟩
def n_jLat_charAt_v643_an : List an_T := []
def t_jLat_charAt_v643_ct : ct_L := [(12, 9, e_jStr_checkIndex_v339), (1000004, 0, en_ro [(2, 0, 0, [5233])] (0, 6, 6, [])), (1000005, 0, en_ro [(2, 0, 0, [5233]), (0, 0, 0, [])] (0, 116, 116, []))]
set_option maxRecDepth 100000 in
theorem c_jLat_charAt_v643 {l : Launch} {D : va_G} {kA : Nat → ClassId} : ct_ok PRD l D kA GG y_jLat_charAt z_jLat_charAt e_jLat_charAt_v643 := chk_all_ok (FT := []) (PT := []) (CT := t_jLat_charAt_v643_ct) (KT := []) (NT := []) (AN := n_jLat_charAt_v643_an) (OT := [o_jLat_charAt_v643_0]) 0 200 (List.forall_mem_cons.mpr ⟨oo_jLat_charAt_v643_0, List.forall_mem_nil _⟩) (by decide +kernel) ⟨List.forall_mem_nil _, List.forall_mem_nil _, List.forall_mem_cons.mpr ⟨cl_static (y := y_jStr_checkIndex) c_jStr_checkIndex_v339 wm_694 wm_11 wm_692 wm_693 ⟨by decide, by decide, by decide +kernel⟩ (by decide), List.forall_mem_cons.mpr ⟨cl_tlen (i := 33) (n := 6) rfl (by decide +kernel) (by decide +kernel) (by decide +kernel), List.forall_mem_cons.mpr ⟨cl_tbyte1 (i := 33) (n := 6) (k := 0) rfl (by decide +kernel) (by decide +kernel) (by decide) (by decide +kernel), List.forall_mem_nil _⟩⟩⟩, List.forall_mem_nil _, List.forall_mem_nil _, GG_pl⟩ (by decide +kernel)
def e_jLat_charAt_v645 : en_T := ([(2, 0, 0, [5233]), (0, 1, 1, [])], some (0, 0, 65535, []), true, 3, 0, 0, [], [], (0, [], [], [(23, [2], [117, 1]), (23, [2], [-117, -1])], []))
def o_jLat_charAt_v645_0 : or_T := (14, 7, [(3, (0, 117, 117, [])), (5, (0, 0, 117, [])), (6, (0, 0, 65535, []))], [(22, [6, 5], []), (12, [5, 3], [256])], [], [], [(23, [6], [117, 1]), (23, [6], [-117, -1])], [], [])
theorem oo_jLat_charAt_v645_0 {kA : Nat → ClassId} : or_ok PRD kA GG o_jLat_charAt_v645_0 := by
  refine or_mk fun A ta ws vs hD hth hl => ?_
  intro t3 k3 t5 k5 t6 k6 f0 f1
  replace f0 := shm_47 f0
  replace f1 := shm_52 f1
  have nf0 : fc_1 PRD (23, [6], [117, 1]) ws (vs) := by
    refine ⟨nf_in hl rfl, sgq_65 ?_⟩
    · show 1 * v_iv (n_v vs 6) + 0 ≤ 117
      omega
  have nf1 : fc_1 PRD (23, [6], [-117, -1]) ws (vs) := by
    refine ⟨nf_in hl rfl, sgq_66 ?_⟩
    · show (-1) * v_iv (n_v vs 6) + 0 ≤ (-117)
      omega
  refine ⟨(fun _ h => (by cases h)), [], trivial, ?_, (fun _ h => (by cases h))⟩
  rw [List.append_nil]
  exact List.forall_mem_cons.mpr ⟨⟨show (23 : Nat) < 100 from by decide, nf0⟩, List.forall_mem_cons.mpr ⟨⟨show (23 : Nat) < 100 from by decide, nf1⟩, (fun _ h => (by cases h))⟩⟩
def n_jLat_charAt_v645_an : List an_T := []
def t_jLat_charAt_v645_ct : ct_L := [(12, 9, e_jStr_checkIndex_v343), (1000004, 0, en_ro [(2, 0, 0, [5233])] (0, 6, 6, [])), (1000005, 0, en_ro [(2, 0, 0, [5233]), (0, 1, 1, [])] (0, 117, 117, []))]
set_option maxRecDepth 100000 in
theorem c_jLat_charAt_v645 {l : Launch} {D : va_G} {kA : Nat → ClassId} : ct_ok PRD l D kA GG y_jLat_charAt z_jLat_charAt e_jLat_charAt_v645 := chk_all_ok (FT := []) (PT := []) (CT := t_jLat_charAt_v645_ct) (KT := []) (NT := []) (AN := n_jLat_charAt_v645_an) (OT := [o_jLat_charAt_v645_0]) 0 200 (List.forall_mem_cons.mpr ⟨oo_jLat_charAt_v645_0, List.forall_mem_nil _⟩) (by decide +kernel) ⟨List.forall_mem_nil _, List.forall_mem_nil _, List.forall_mem_cons.mpr ⟨cl_static (y := y_jStr_checkIndex) c_jStr_checkIndex_v343 wm_694 wm_11 wm_692 wm_693 ⟨by decide, by decide, by decide +kernel⟩ (by decide), List.forall_mem_cons.mpr ⟨cl_tlen (i := 33) (n := 6) rfl (by decide +kernel) (by decide +kernel) (by decide +kernel), List.forall_mem_cons.mpr ⟨cl_tbyte1 (i := 33) (n := 6) (k := 1) rfl (by decide +kernel) (by decide +kernel) (by decide) (by decide +kernel), List.forall_mem_nil _⟩⟩⟩, List.forall_mem_nil _, List.forall_mem_nil _, GG_pl⟩ (by decide +kernel)
def e_jLat_charAt_v647 : en_T := ([(2, 0, 0, [5233]), (0, 2, 2, [])], some (0, 0, 65535, []), true, 3, 0, 0, [], [], (0, [], [], [(23, [2], [114, 1]), (23, [2], [-114, -1])], []))
def o_jLat_charAt_v647_0 : or_T := (14, 7, [(3, (0, 114, 114, [])), (5, (0, 0, 114, [])), (6, (0, 0, 65535, []))], [(22, [6, 5], []), (12, [5, 3], [256])], [], [], [(23, [6], [114, 1]), (23, [6], [-114, -1])], [], [])
theorem oo_jLat_charAt_v647_0 {kA : Nat → ClassId} : or_ok PRD kA GG o_jLat_charAt_v647_0 := by
  refine or_mk fun A ta ws vs hD hth hl => ?_
  intro t3 k3 t5 k5 t6 k6 f0 f1
  replace f0 := shm_47 f0
  replace f1 := shm_52 f1
  have nf0 : fc_1 PRD (23, [6], [114, 1]) ws (vs) := by
    refine ⟨nf_in hl rfl, sgq_63 ?_⟩
    · show 1 * v_iv (n_v vs 6) + 0 ≤ 114
      omega
  have nf1 : fc_1 PRD (23, [6], [-114, -1]) ws (vs) := by
    refine ⟨nf_in hl rfl, sgq_64 ?_⟩
    · show (-1) * v_iv (n_v vs 6) + 0 ≤ (-114)
      omega
  refine ⟨(fun _ h => (by cases h)), [], trivial, ?_, (fun _ h => (by cases h))⟩
  rw [List.append_nil]
  exact List.forall_mem_cons.mpr ⟨⟨show (23 : Nat) < 100 from by decide, nf0⟩, List.forall_mem_cons.mpr ⟨⟨show (23 : Nat) < 100 from by decide, nf1⟩, (fun _ h => (by cases h))⟩⟩
def n_jLat_charAt_v647_an : List an_T := []
def t_jLat_charAt_v647_ct : ct_L := [(12, 9, e_jStr_checkIndex_v347), (1000004, 0, en_ro [(2, 0, 0, [5233])] (0, 6, 6, [])), (1000005, 0, en_ro [(2, 0, 0, [5233]), (0, 2, 2, [])] (0, 114, 114, []))]
set_option maxRecDepth 100000 in
theorem c_jLat_charAt_v647 {l : Launch} {D : va_G} {kA : Nat → ClassId} : ct_ok PRD l D kA GG y_jLat_charAt z_jLat_charAt e_jLat_charAt_v647 := chk_all_ok (FT := []) (PT := []) (CT := t_jLat_charAt_v647_ct) (KT := []) (NT := []) (AN := n_jLat_charAt_v647_an) (OT := [o_jLat_charAt_v647_0]) 0 200 (List.forall_mem_cons.mpr ⟨oo_jLat_charAt_v647_0, List.forall_mem_nil _⟩) (by decide +kernel) ⟨List.forall_mem_nil _, List.forall_mem_nil _, List.forall_mem_cons.mpr ⟨cl_static (y := y_jStr_checkIndex) c_jStr_checkIndex_v347 wm_694 wm_11 wm_692 wm_693 ⟨by decide, by decide, by decide +kernel⟩ (by decide), List.forall_mem_cons.mpr ⟨cl_tlen (i := 33) (n := 6) rfl (by decide +kernel) (by decide +kernel) (by decide +kernel), List.forall_mem_cons.mpr ⟨cl_tbyte1 (i := 33) (n := 6) (k := 2) rfl (by decide +kernel) (by decide +kernel) (by decide) (by decide +kernel), List.forall_mem_nil _⟩⟩⟩, List.forall_mem_nil _, List.forall_mem_nil _, GG_pl⟩ (by decide +kernel)
def e_jLat_charAt_v649 : en_T := ([(2, 0, 0, [5233]), (0, 3, 3, [])], some (0, 0, 65535, []), true, 3, 0, 0, [], [], (0, [], [], [(23, [2], [110, 1]), (23, [2], [-110, -1])], []))
def o_jLat_charAt_v649_0 : or_T := (14, 7, [(3, (0, 110, 110, [])), (5, (0, 0, 110, [])), (6, (0, 0, 65535, []))], [(22, [6, 5], []), (12, [5, 3], [256])], [], [], [(23, [6], [110, 1]), (23, [6], [-110, -1])], [], [])
theorem oo_jLat_charAt_v649_0 {kA : Nat → ClassId} : or_ok PRD kA GG o_jLat_charAt_v649_0 := by
  refine or_mk fun A ta ws vs hD hth hl => ?_
  intro t3 k3 t5 k5 t6 k6 f0 f1
  replace f0 := shm_47 f0
  replace f1 := shm_52 f1
  have nf0 : fc_1 PRD (23, [6], [110, 1]) ws (vs) := by
    refine ⟨nf_in hl rfl, sgq_53 ?_⟩
    · show 1 * v_iv (n_v vs 6) + 0 ≤ 110
      omega
  have nf1 : fc_1 PRD (23, [6], [-110, -1]) ws (vs) := by
    refine ⟨nf_in hl rfl, sgq_54 ?_⟩
    · show (-1) * v_iv (n_v vs 6) + 0 ≤ (-110)
      omega
  refine ⟨(fun _ h => (by cases h)), [], trivial, ?_, (fun _ h => (by cases h))⟩
  rw [List.append_nil]
  exact List.forall_mem_cons.mpr ⟨⟨show (23 : Nat) < 100 from by decide, nf0⟩, List.forall_mem_cons.mpr ⟨⟨show (23 : Nat) < 100 from by decide, nf1⟩, (fun _ h => (by cases h))⟩⟩
def n_jLat_charAt_v649_an : List an_T := []
def t_jLat_charAt_v649_ct : ct_L := [(12, 9, e_jStr_checkIndex_v351), (1000004, 0, en_ro [(2, 0, 0, [5233])] (0, 6, 6, [])), (1000005, 0, en_ro [(2, 0, 0, [5233]), (0, 3, 3, [])] (0, 110, 110, []))]
set_option maxRecDepth 100000 in
theorem c_jLat_charAt_v649 {l : Launch} {D : va_G} {kA : Nat → ClassId} : ct_ok PRD l D kA GG y_jLat_charAt z_jLat_charAt e_jLat_charAt_v649 := chk_all_ok (FT := []) (PT := []) (CT := t_jLat_charAt_v649_ct) (KT := []) (NT := []) (AN := n_jLat_charAt_v649_an) (OT := [o_jLat_charAt_v649_0]) 0 200 (List.forall_mem_cons.mpr ⟨oo_jLat_charAt_v649_0, List.forall_mem_nil _⟩) (by decide +kernel) ⟨List.forall_mem_nil _, List.forall_mem_nil _, List.forall_mem_cons.mpr ⟨cl_static (y := y_jStr_checkIndex) c_jStr_checkIndex_v351 wm_694 wm_11 wm_692 wm_693 ⟨by decide, by decide, by decide +kernel⟩ (by decide), List.forall_mem_cons.mpr ⟨cl_tlen (i := 33) (n := 6) rfl (by decide +kernel) (by decide +kernel) (by decide +kernel), List.forall_mem_cons.mpr ⟨cl_tbyte1 (i := 33) (n := 6) (k := 3) rfl (by decide +kernel) (by decide +kernel) (by decide) (by decide +kernel), List.forall_mem_nil _⟩⟩⟩, List.forall_mem_nil _, List.forall_mem_nil _, GG_pl⟩ (by decide +kernel)
def e_jLat_charAt_v651 : en_T := ([(2, 0, 0, [5233]), (0, 4, 4, [])], some (0, 0, 65535, []), true, 3, 0, 0, [], [], (0, [], [], [(23, [2], [101, 1]), (23, [2], [-101, -1])], []))
def o_jLat_charAt_v651_0 : or_T := (14, 7, [(3, (0, 101, 101, [])), (5, (0, 0, 101, [])), (6, (0, 0, 65535, []))], [(22, [6, 5], []), (12, [5, 3], [256])], [], [], [(23, [6], [101, 1]), (23, [6], [-101, -1])], [], [])
theorem oo_jLat_charAt_v651_0 {kA : Nat → ClassId} : or_ok PRD kA GG o_jLat_charAt_v651_0 := by
  refine or_mk fun A ta ws vs hD hth hl => ?_
  intro t3 k3 t5 k5 t6 k6 f0 f1
  replace f0 := shm_47 f0
  replace f1 := shm_52 f1
  have nf0 : fc_1 PRD (23, [6], [101, 1]) ws (vs) := by
    refine ⟨nf_in hl rfl, sgq_59 ?_⟩
    · show 1 * v_iv (n_v vs 6) + 0 ≤ 101
      omega
  have nf1 : fc_1 PRD (23, [6], [-101, -1]) ws (vs) := by
    refine ⟨nf_in hl rfl, sgq_60 ?_⟩
    · show (-1) * v_iv (n_v vs 6) + 0 ≤ (-101)
      omega
  refine ⟨(fun _ h => (by cases h)), [], trivial, ?_, (fun _ h => (by cases h))⟩
  rw [List.append_nil]
  exact List.forall_mem_cons.mpr ⟨⟨show (23 : Nat) < 100 from by decide, nf0⟩, List.forall_mem_cons.mpr ⟨⟨show (23 : Nat) < 100 from by decide, nf1⟩, (fun _ h => (by cases h))⟩⟩
def n_jLat_charAt_v651_an : List an_T := []
def t_jLat_charAt_v651_ct : ct_L := [(12, 9, e_jStr_checkIndex_v355), (1000004, 0, en_ro [(2, 0, 0, [5233])] (0, 6, 6, [])), (1000005, 0, en_ro [(2, 0, 0, [5233]), (0, 4, 4, [])] (0, 101, 101, []))]
set_option maxRecDepth 100000 in
theorem c_jLat_charAt_v651 {l : Launch} {D : va_G} {kA : Nat → ClassId} : ct_ok PRD l D kA GG y_jLat_charAt z_jLat_charAt e_jLat_charAt_v651 := chk_all_ok (FT := []) (PT := []) (CT := t_jLat_charAt_v651_ct) (KT := []) (NT := []) (AN := n_jLat_charAt_v651_an) (OT := [o_jLat_charAt_v651_0]) 0 200 (List.forall_mem_cons.mpr ⟨oo_jLat_charAt_v651_0, List.forall_mem_nil _⟩) (by decide +kernel) ⟨List.forall_mem_nil _, List.forall_mem_nil _, List.forall_mem_cons.mpr ⟨cl_static (y := y_jStr_checkIndex) c_jStr_checkIndex_v355 wm_694 wm_11 wm_692 wm_693 ⟨by decide, by decide, by decide +kernel⟩ (by decide), List.forall_mem_cons.mpr ⟨cl_tlen (i := 33) (n := 6) rfl (by decide +kernel) (by decide +kernel) (by decide +kernel), List.forall_mem_cons.mpr ⟨cl_tbyte1 (i := 33) (n := 6) (k := 4) rfl (by decide +kernel) (by decide +kernel) (by decide) (by decide +kernel), List.forall_mem_nil _⟩⟩⟩, List.forall_mem_nil _, List.forall_mem_nil _, GG_pl⟩ (by decide +kernel)
def e_jLat_charAt_v653 : en_T := ([(2, 0, 0, [5233]), (0, 5, 5, [])], some (0, 0, 65535, []), true, 3, 0, 0, [], [], (0, [], [], [(23, [2], [100, 1]), (23, [2], [-100, -1])], []))
def o_jLat_charAt_v653_0 : or_T := (14, 7, [(3, (0, 100, 100, [])), (5, (0, 0, 100, [])), (6, (0, 0, 65535, []))], [(22, [6, 5], []), (12, [5, 3], [256])], [], [], [(23, [6], [100, 1]), (23, [6], [-100, -1])], [], [])
theorem oo_jLat_charAt_v653_0 {kA : Nat → ClassId} : or_ok PRD kA GG o_jLat_charAt_v653_0 := by
  refine or_mk fun A ta ws vs hD hth hl => ?_
  intro t3 k3 t5 k5 t6 k6 f0 f1
  replace f0 := shm_47 f0
  replace f1 := shm_52 f1
  have nf0 : fc_1 PRD (23, [6], [100, 1]) ws (vs) := by
    refine ⟨nf_in hl rfl, sgq_57 ?_⟩
    · show 1 * v_iv (n_v vs 6) + 0 ≤ 100
      omega
  have nf1 : fc_1 PRD (23, [6], [-100, -1]) ws (vs) := by
    refine ⟨nf_in hl rfl, sgq_58 ?_⟩
    · show (-1) * v_iv (n_v vs 6) + 0 ≤ (-100)
      omega
  refine ⟨(fun _ h => (by cases h)), [], trivial, ?_, (fun _ h => (by cases h))⟩
  rw [List.append_nil]
  exact List.forall_mem_cons.mpr ⟨⟨show (23 : Nat) < 100 from by decide, nf0⟩, List.forall_mem_cons.mpr ⟨⟨show (23 : Nat) < 100 from by decide, nf1⟩, (fun _ h => (by cases h))⟩⟩
def n_jLat_charAt_v653_an : List an_T := []
def t_jLat_charAt_v653_ct : ct_L := [(12, 9, e_jStr_checkIndex_v359), (1000004, 0, en_ro [(2, 0, 0, [5233])] (0, 6, 6, [])), (1000005, 0, en_ro [(2, 0, 0, [5233]), (0, 5, 5, [])] (0, 100, 100, []))]
set_option maxRecDepth 100000 in
theorem c_jLat_charAt_v653 {l : Launch} {D : va_G} {kA : Nat → ClassId} : ct_ok PRD l D kA GG y_jLat_charAt z_jLat_charAt e_jLat_charAt_v653 := chk_all_ok (FT := []) (PT := []) (CT := t_jLat_charAt_v653_ct) (KT := []) (NT := []) (AN := n_jLat_charAt_v653_an) (OT := [o_jLat_charAt_v653_0]) 0 200 (List.forall_mem_cons.mpr ⟨oo_jLat_charAt_v653_0, List.forall_mem_nil _⟩) (by decide +kernel) ⟨List.forall_mem_nil _, List.forall_mem_nil _, List.forall_mem_cons.mpr ⟨cl_static (y := y_jStr_checkIndex) c_jStr_checkIndex_v359 wm_694 wm_11 wm_692 wm_693 ⟨by decide, by decide, by decide +kernel⟩ (by decide), List.forall_mem_cons.mpr ⟨cl_tlen (i := 33) (n := 6) rfl (by decide +kernel) (by decide +kernel) (by decide +kernel), List.forall_mem_cons.mpr ⟨cl_tbyte1 (i := 33) (n := 6) (k := 5) rfl (by decide +kernel) (by decide +kernel) (by decide) (by decide +kernel), List.forall_mem_nil _⟩⟩⟩, List.forall_mem_nil _, List.forall_mem_nil _, GG_pl⟩ (by decide +kernel)
def e_jLat_charAt_v656 : en_T := ([(2, 0, 0, [5234]), (0, 0, 0, [])], some (0, 0, 65535, []), true, 3, 0, 0, [], [], (0, [], [], [(23, [2], [98, 1]), (23, [2], [-98, -1])], []))
def o_jLat_charAt_v656_0 : or_T := (14, 7, [(3, (0, 98, 98, [])), (5, (0, 0, 98, [])), (6, (0, 0, 65535, []))], [(22, [6, 5], []), (12, [5, 3], [256])], [], [], [(23, [6], [98, 1]), (23, [6], [-98, -1])], [], [])
theorem oo_jLat_charAt_v656_0 {kA : Nat → ClassId} : or_ok PRD kA GG o_jLat_charAt_v656_0 := by
  refine or_mk fun A ta ws vs hD hth hl => ?_
  intro t3 k3 t5 k5 t6 k6 f0 f1
  replace f0 := shm_47 f0
  replace f1 := shm_52 f1
  have nf0 : fc_1 PRD (23, [6], [98, 1]) ws (vs) := by
    refine ⟨nf_in hl rfl, sgq_97 ?_⟩
    · show 1 * v_iv (n_v vs 6) + 0 ≤ 98
      omega
  have nf1 : fc_1 PRD (23, [6], [-98, -1]) ws (vs) := by
    refine ⟨nf_in hl rfl, sgq_98 ?_⟩
    · show (-1) * v_iv (n_v vs 6) + 0 ≤ (-98)
      omega
  refine ⟨(fun _ h => (by cases h)), [], trivial, ?_, (fun _ h => (by cases h))⟩
  rw [List.append_nil]
  exact List.forall_mem_cons.mpr ⟨⟨show (23 : Nat) < 100 from by decide, nf0⟩, List.forall_mem_cons.mpr ⟨⟨show (23 : Nat) < 100 from by decide, nf1⟩, (fun _ h => (by cases h))⟩⟩
def n_jLat_charAt_v656_an : List an_T := []
def t_jLat_charAt_v656_ct : ct_L := [(12, 9, e_jStr_checkIndex_v339), (1000004, 0, en_ro [(2, 0, 0, [5234])] (0, 6, 6, [])), (1000005, 0, en_ro [(2, 0, 0, [5234]), (0, 0, 0, [])] (0, 98, 98, []))]
set_option maxRecDepth 100000 in
theorem c_jLat_charAt_v656 {l : Launch} {D : va_G} {kA : Nat → ClassId} : ct_ok PRD l D kA GG y_jLat_charAt z_jLat_charAt e_jLat_charAt_v656 := chk_all_ok (FT := []) (PT := []) (CT := t_jLat_charAt_v656_ct) (KT := []) (NT := []) (AN := n_jLat_charAt_v656_an) (OT := [o_jLat_charAt_v656_0]) 0 200 (List.forall_mem_cons.mpr ⟨oo_jLat_charAt_v656_0, List.forall_mem_nil _⟩) (by decide +kernel) ⟨List.forall_mem_nil _, List.forall_mem_nil _, List.forall_mem_cons.mpr ⟨cl_static (y := y_jStr_checkIndex) c_jStr_checkIndex_v339 wm_694 wm_11 wm_692 wm_693 ⟨by decide, by decide, by decide +kernel⟩ (by decide), List.forall_mem_cons.mpr ⟨cl_tlen (i := 34) (n := 6) rfl (by decide +kernel) (by decide +kernel) (by decide +kernel), List.forall_mem_cons.mpr ⟨cl_tbyte1 (i := 34) (n := 6) (k := 0) rfl (by decide +kernel) (by decide +kernel) (by decide) (by decide +kernel), List.forall_mem_nil _⟩⟩⟩, List.forall_mem_nil _, List.forall_mem_nil _, GG_pl⟩ (by decide +kernel)
def e_jLat_charAt_v658 : en_T := ([(2, 0, 0, [5234]), (0, 1, 1, [])], some (0, 0, 65535, []), true, 3, 0, 0, [], [], (0, [], [], [(23, [2], [114, 1]), (23, [2], [-114, -1])], []))
def o_jLat_charAt_v658_0 : or_T := (14, 7, [(3, (0, 114, 114, [])), (5, (0, 0, 114, [])), (6, (0, 0, 65535, []))], [(22, [6, 5], []), (12, [5, 3], [256])], [], [], [(23, [6], [114, 1]), (23, [6], [-114, -1])], [], [])
theorem oo_jLat_charAt_v658_0 {kA : Nat → ClassId} : or_ok PRD kA GG o_jLat_charAt_v658_0 := by
  refine or_mk fun A ta ws vs hD hth hl => ?_
  intro t3 k3 t5 k5 t6 k6 f0 f1
  replace f0 := shm_47 f0
  replace f1 := shm_52 f1
  have nf0 : fc_1 PRD (23, [6], [114, 1]) ws (vs) := by
    refine ⟨nf_in hl rfl, sgq_63 ?_⟩
    · show 1 * v_iv (n_v vs 6) + 0 ≤ 114
      omega
  have nf1 : fc_1 PRD (23, [6], [-114, -1]) ws (vs) := by
    refine ⟨nf_in hl rfl, sgq_64 ?_⟩
    · show (-1) * v_iv (n_v vs 6) + 0 ≤ (-114)
      omega
  refine ⟨(fun _ h => (by cases h)), [], trivial, ?_, (fun _ h => (by cases h))⟩
  rw [List.append_nil]
  exact List.forall_mem_cons.mpr ⟨⟨show (23 : Nat) < 100 from by decide, nf0⟩, List.forall_mem_cons.mpr ⟨⟨show (23 : Nat) < 100 from by decide, nf1⟩, (fun _ h => (by cases h))⟩⟩
def n_jLat_charAt_v658_an : List an_T := []
def t_jLat_charAt_v658_ct : ct_L := [(12, 9, e_jStr_checkIndex_v343), (1000004, 0, en_ro [(2, 0, 0, [5234])] (0, 6, 6, [])), (1000005, 0, en_ro [(2, 0, 0, [5234]), (0, 1, 1, [])] (0, 114, 114, []))]
set_option maxRecDepth 100000 in
theorem c_jLat_charAt_v658 {l : Launch} {D : va_G} {kA : Nat → ClassId} : ct_ok PRD l D kA GG y_jLat_charAt z_jLat_charAt e_jLat_charAt_v658 := chk_all_ok (FT := []) (PT := []) (CT := t_jLat_charAt_v658_ct) (KT := []) (NT := []) (AN := n_jLat_charAt_v658_an) (OT := [o_jLat_charAt_v658_0]) 0 200 (List.forall_mem_cons.mpr ⟨oo_jLat_charAt_v658_0, List.forall_mem_nil _⟩) (by decide +kernel) ⟨List.forall_mem_nil _, List.forall_mem_nil _, List.forall_mem_cons.mpr ⟨cl_static (y := y_jStr_checkIndex) c_jStr_checkIndex_v343 wm_694 wm_11 wm_692 wm_693 ⟨by decide, by decide, by decide +kernel⟩ (by decide), List.forall_mem_cons.mpr ⟨cl_tlen (i := 34) (n := 6) rfl (by decide +kernel) (by decide +kernel) (by decide +kernel), List.forall_mem_cons.mpr ⟨cl_tbyte1 (i := 34) (n := 6) (k := 1) rfl (by decide +kernel) (by decide +kernel) (by decide) (by decide +kernel), List.forall_mem_nil _⟩⟩⟩, List.forall_mem_nil _, List.forall_mem_nil _, GG_pl⟩ (by decide +kernel)
def e_jLat_charAt_v660 : en_T := ([(2, 0, 0, [5234]), (0, 2, 2, [])], some (0, 0, 65535, []), true, 3, 0, 0, [], [], (0, [], [], [(23, [2], [105, 1]), (23, [2], [-105, -1])], []))
def o_jLat_charAt_v660_0 : or_T := (14, 7, [(3, (0, 105, 105, [])), (5, (0, 0, 105, [])), (6, (0, 0, 65535, []))], [(22, [6, 5], []), (12, [5, 3], [256])], [], [], [(23, [6], [105, 1]), (23, [6], [-105, -1])], [], [])
theorem oo_jLat_charAt_v660_0 {kA : Nat → ClassId} : or_ok PRD kA GG o_jLat_charAt_v660_0 := by
  refine or_mk fun A ta ws vs hD hth hl => ?_
  intro t3 k3 t5 k5 t6 k6 f0 f1
  replace f0 := shm_47 f0
  replace f1 := shm_52 f1
  have nf0 : fc_1 PRD (23, [6], [105, 1]) ws (vs) := by
    refine ⟨nf_in hl rfl, sgq_71 ?_⟩
    · show 1 * v_iv (n_v vs 6) + 0 ≤ 105
      omega
  have nf1 : fc_1 PRD (23, [6], [-105, -1]) ws (vs) := by
    refine ⟨nf_in hl rfl, sgq_72 ?_⟩
    · show (-1) * v_iv (n_v vs 6) + 0 ≤ (-105)
      omega
  refine ⟨(fun _ h => (by cases h)), [], trivial, ?_, (fun _ h => (by cases h))⟩
  rw [List.append_nil]
  exact List.forall_mem_cons.mpr ⟨⟨show (23 : Nat) < 100 from by decide, nf0⟩, List.forall_mem_cons.mpr ⟨⟨show (23 : Nat) < 100 from by decide, nf1⟩, (fun _ h => (by cases h))⟩⟩
def n_jLat_charAt_v660_an : List an_T := []
def t_jLat_charAt_v660_ct : ct_L := [(12, 9, e_jStr_checkIndex_v347), (1000004, 0, en_ro [(2, 0, 0, [5234])] (0, 6, 6, [])), (1000005, 0, en_ro [(2, 0, 0, [5234]), (0, 2, 2, [])] (0, 105, 105, []))]
set_option maxRecDepth 100000 in
theorem c_jLat_charAt_v660 {l : Launch} {D : va_G} {kA : Nat → ClassId} : ct_ok PRD l D kA GG y_jLat_charAt z_jLat_charAt e_jLat_charAt_v660 := chk_all_ok (FT := []) (PT := []) (CT := t_jLat_charAt_v660_ct) (KT := []) (NT := []) (AN := n_jLat_charAt_v660_an) (OT := [o_jLat_charAt_v660_0]) 0 200 (List.forall_mem_cons.mpr ⟨oo_jLat_charAt_v660_0, List.forall_mem_nil _⟩) (by decide +kernel) ⟨List.forall_mem_nil _, List.forall_mem_nil _, List.forall_mem_cons.mpr ⟨cl_static (y := y_jStr_checkIndex) c_jStr_checkIndex_v347 wm_694 wm_11 wm_692 wm_693 ⟨by decide, by decide, by decide +kernel⟩ (by decide), List.forall_mem_cons.mpr ⟨cl_tlen (i := 34) (n := 6) rfl (by decide +kernel) (by decide +kernel) (by decide +kernel), List.forall_mem_cons.mpr ⟨cl_tbyte1 (i := 34) (n := 6) (k := 2) rfl (by decide +kernel) (by decide +kernel) (by decide) (by decide +kernel), List.forall_mem_nil _⟩⟩⟩, List.forall_mem_nil _, List.forall_mem_nil _, GG_pl⟩ (by decide +kernel)
def e_jLat_charAt_v662 : en_T := ([(2, 0, 0, [5234]), (0, 3, 3, [])], some (0, 0, 65535, []), true, 3, 0, 0, [], [], (0, [], [], [(23, [2], [100, 1]), (23, [2], [-100, -1])], []))
def o_jLat_charAt_v662_0 : or_T := (14, 7, [(3, (0, 100, 100, [])), (5, (0, 0, 100, [])), (6, (0, 0, 65535, []))], [(22, [6, 5], []), (12, [5, 3], [256])], [], [], [(23, [6], [100, 1]), (23, [6], [-100, -1])], [], [])
theorem oo_jLat_charAt_v662_0 {kA : Nat → ClassId} : or_ok PRD kA GG o_jLat_charAt_v662_0 := by
  refine or_mk fun A ta ws vs hD hth hl => ?_
  intro t3 k3 t5 k5 t6 k6 f0 f1
  replace f0 := shm_47 f0
  replace f1 := shm_52 f1
  have nf0 : fc_1 PRD (23, [6], [100, 1]) ws (vs) := by
    refine ⟨nf_in hl rfl, sgq_57 ?_⟩
    · show 1 * v_iv (n_v vs 6) + 0 ≤ 100
      omega
  have nf1 : fc_1 PRD (23, [6], [-100, -1]) ws (vs) := by
    refine ⟨nf_in hl rfl, sgq_58 ?_⟩
    · show (-1) * v_iv (n_v vs 6) + 0 ≤ (-100)
      omega
  refine ⟨(fun _ h => (by cases h)), [], trivial, ?_, (fun _ h => (by cases h))⟩
  rw [List.append_nil]
  exact List.forall_mem_cons.mpr ⟨⟨show (23 : Nat) < 100 from by decide, nf0⟩, List.forall_mem_cons.mpr ⟨⟨show (23 : Nat) < 100 from by decide, nf1⟩, (fun _ h => (by cases h))⟩⟩
def n_jLat_charAt_v662_an : List an_T := []
def t_jLat_charAt_v662_ct : ct_L := [(12, 9, e_jStr_checkIndex_v351), (1000004, 0, en_ro [(2, 0, 0, [5234])] (0, 6, 6, [])), (1000005, 0, en_ro [(2, 0, 0, [5234]), (0, 3, 3, [])] (0, 100, 100, []))]
set_option maxRecDepth 100000 in
theorem c_jLat_charAt_v662 {l : Launch} {D : va_G} {kA : Nat → ClassId} : ct_ok PRD l D kA GG y_jLat_charAt z_jLat_charAt e_jLat_charAt_v662 := chk_all_ok (FT := []) (PT := []) (CT := t_jLat_charAt_v662_ct) (KT := []) (NT := []) (AN := n_jLat_charAt_v662_an) (OT := [o_jLat_charAt_v662_0]) 0 200 (List.forall_mem_cons.mpr ⟨oo_jLat_charAt_v662_0, List.forall_mem_nil _⟩) (by decide +kernel) ⟨List.forall_mem_nil _, List.forall_mem_nil _, List.forall_mem_cons.mpr ⟨cl_static (y := y_jStr_checkIndex) c_jStr_checkIndex_v351 wm_694 wm_11 wm_692 wm_693 ⟨by decide, by decide, by decide +kernel⟩ (by decide), List.forall_mem_cons.mpr ⟨cl_tlen (i := 34) (n := 6) rfl (by decide +kernel) (by decide +kernel) (by decide +kernel), List.forall_mem_cons.mpr ⟨cl_tbyte1 (i := 34) (n := 6) (k := 3) rfl (by decide +kernel) (by decide +kernel) (by decide) (by decide +kernel), List.forall_mem_nil _⟩⟩⟩, List.forall_mem_nil _, List.forall_mem_nil _, GG_pl⟩ (by decide +kernel)
def e_jLat_charAt_v664 : en_T := ([(2, 0, 0, [5234]), (0, 4, 4, [])], some (0, 0, 65535, []), true, 3, 0, 0, [], [], (0, [], [], [(23, [2], [103, 1]), (23, [2], [-103, -1])], []))
def o_jLat_charAt_v664_0 : or_T := (14, 7, [(3, (0, 103, 103, [])), (5, (0, 0, 103, [])), (6, (0, 0, 65535, []))], [(22, [6, 5], []), (12, [5, 3], [256])], [], [], [(23, [6], [103, 1]), (23, [6], [-103, -1])], [], [])
theorem oo_jLat_charAt_v664_0 {kA : Nat → ClassId} : or_ok PRD kA GG o_jLat_charAt_v664_0 := by
  refine or_mk fun A ta ws vs hD hth hl => ?_
  intro t3 k3 t5 k5 t6 k6 f0 f1
  replace f0 := shm_47 f0
  replace f1 := shm_52 f1
  have nf0 : fc_1 PRD (23, [6], [103, 1]) ws (vs) := by
    refine ⟨nf_in hl rfl, sgq_61 ?_⟩
    · show 1 * v_iv (n_v vs 6) + 0 ≤ 103
      omega
  have nf1 : fc_1 PRD (23, [6], [-103, -1]) ws (vs) := by
    refine ⟨nf_in hl rfl, sgq_62 ?_⟩
    · show (-1) * v_iv (n_v vs 6) + 0 ≤ (-103)
      omega
  refine ⟨(fun _ h => (by cases h)), [], trivial, ?_, (fun _ h => (by cases h))⟩
  rw [List.append_nil]
  exact List.forall_mem_cons.mpr ⟨⟨show (23 : Nat) < 100 from by decide, nf0⟩, List.forall_mem_cons.mpr ⟨⟨show (23 : Nat) < 100 from by decide, nf1⟩, (fun _ h => (by cases h))⟩⟩
def n_jLat_charAt_v664_an : List an_T := []
def t_jLat_charAt_v664_ct : ct_L := [(12, 9, e_jStr_checkIndex_v355), (1000004, 0, en_ro [(2, 0, 0, [5234])] (0, 6, 6, [])), (1000005, 0, en_ro [(2, 0, 0, [5234]), (0, 4, 4, [])] (0, 103, 103, []))]
set_option maxRecDepth 100000 in
theorem c_jLat_charAt_v664 {l : Launch} {D : va_G} {kA : Nat → ClassId} : ct_ok PRD l D kA GG y_jLat_charAt z_jLat_charAt e_jLat_charAt_v664 := chk_all_ok (FT := []) (PT := []) (CT := t_jLat_charAt_v664_ct) (KT := []) (NT := []) (AN := n_jLat_charAt_v664_an) (OT := [o_jLat_charAt_v664_0]) 0 200 (List.forall_mem_cons.mpr ⟨oo_jLat_charAt_v664_0, List.forall_mem_nil _⟩) (by decide +kernel) ⟨List.forall_mem_nil _, List.forall_mem_nil _, List.forall_mem_cons.mpr ⟨cl_static (y := y_jStr_checkIndex) c_jStr_checkIndex_v355 wm_694 wm_11 wm_692 wm_693 ⟨by decide, by decide, by decide +kernel⟩ (by decide), List.forall_mem_cons.mpr ⟨cl_tlen (i := 34) (n := 6) rfl (by decide +kernel) (by decide +kernel) (by decide +kernel), List.forall_mem_cons.mpr ⟨cl_tbyte1 (i := 34) (n := 6) (k := 4) rfl (by decide +kernel) (by decide +kernel) (by decide) (by decide +kernel), List.forall_mem_nil _⟩⟩⟩, List.forall_mem_nil _, List.forall_mem_nil _, GG_pl⟩ (by decide +kernel)
def e_jLat_charAt_v666 : en_T := ([(2, 0, 0, [5234]), (0, 5, 5, [])], some (0, 0, 65535, []), true, 3, 0, 0, [], [], (0, [], [], [(23, [2], [101, 1]), (23, [2], [-101, -1])], []))
def o_jLat_charAt_v666_0 : or_T := (14, 7, [(3, (0, 101, 101, [])), (5, (0, 0, 101, [])), (6, (0, 0, 65535, []))], [(22, [6, 5], []), (12, [5, 3], [256])], [], [], [(23, [6], [101, 1]), (23, [6], [-101, -1])], [], [])
theorem oo_jLat_charAt_v666_0 {kA : Nat → ClassId} : or_ok PRD kA GG o_jLat_charAt_v666_0 := by
  refine or_mk fun A ta ws vs hD hth hl => ?_
  intro t3 k3 t5 k5 t6 k6 f0 f1
  replace f0 := shm_47 f0
  replace f1 := shm_52 f1
  have nf0 : fc_1 PRD (23, [6], [101, 1]) ws (vs) := by
    refine ⟨nf_in hl rfl, sgq_59 ?_⟩
    · show 1 * v_iv (n_v vs 6) + 0 ≤ 101
      omega
  have nf1 : fc_1 PRD (23, [6], [-101, -1]) ws (vs) := by
    refine ⟨nf_in hl rfl, sgq_60 ?_⟩
    · show (-1) * v_iv (n_v vs 6) + 0 ≤ (-101)
      omega
  refine ⟨(fun _ h => (by cases h)), [], trivial, ?_, (fun _ h => (by cases h))⟩
  rw [List.append_nil]
  exact List.forall_mem_cons.mpr ⟨⟨show (23 : Nat) < 100 from by decide, nf0⟩, List.forall_mem_cons.mpr ⟨⟨show (23 : Nat) < 100 from by decide, nf1⟩, (fun _ h => (by cases h))⟩⟩
def n_jLat_charAt_v666_an : List an_T := []
def t_jLat_charAt_v666_ct : ct_L := [(12, 9, e_jStr_checkIndex_v359), (1000004, 0, en_ro [(2, 0, 0, [5234])] (0, 6, 6, [])), (1000005, 0, en_ro [(2, 0, 0, [5234]), (0, 5, 5, [])] (0, 101, 101, []))]
set_option maxRecDepth 100000 in
theorem c_jLat_charAt_v666 {l : Launch} {D : va_G} {kA : Nat → ClassId} : ct_ok PRD l D kA GG y_jLat_charAt z_jLat_charAt e_jLat_charAt_v666 := chk_all_ok (FT := []) (PT := []) (CT := t_jLat_charAt_v666_ct) (KT := []) (NT := []) (AN := n_jLat_charAt_v666_an) (OT := [o_jLat_charAt_v666_0]) 0 200 (List.forall_mem_cons.mpr ⟨oo_jLat_charAt_v666_0, List.forall_mem_nil _⟩) (by decide +kernel) ⟨List.forall_mem_nil _, List.forall_mem_nil _, List.forall_mem_cons.mpr ⟨cl_static (y := y_jStr_checkIndex) c_jStr_checkIndex_v359 wm_694 wm_11 wm_692 wm_693 ⟨by decide, by decide, by decide +kernel⟩ (by decide), List.forall_mem_cons.mpr ⟨cl_tlen (i := 34) (n := 6) rfl (by decide +kernel) (by decide +kernel) (by decide +kernel), List.forall_mem_cons.mpr ⟨cl_tbyte1 (i := 34) (n := 6) (k := 5) rfl (by decide +kernel) (by decide +kernel) (by decide) (by decide +kernel), List.forall_mem_nil _⟩⟩⟩, List.forall_mem_nil _, List.forall_mem_nil _, GG_pl⟩ (by decide +kernel)
def e_jLat_charAt_v669 : en_T := ([(2, 0, 0, [5235]), (0, 0, 0, [])], some (0, 0, 65535, []), true, 3, 0, 0, [], [], (0, [], [], [(23, [2], [102, 1]), (23, [2], [-102, -1])], []))
def o_jLat_charAt_v669_0 : or_T := (14, 7, [(3, (0, 102, 102, [])), (5, (0, 0, 102, [])), (6, (0, 0, 65535, []))], [(22, [6, 5], []), (12, [5, 3], [256])], [], [], [(23, [6], [102, 1]), (23, [6], [-102, -1])], [], [])
theorem oo_jLat_charAt_v669_0 {kA : Nat → ClassId} : or_ok PRD kA GG o_jLat_charAt_v669_0 := by
  refine or_mk fun A ta ws vs hD hth hl => ?_
  intro t3 k3 t5 k5 t6 k6 f0 f1
  replace f0 := shm_47 f0
  replace f1 := shm_52 f1
  have nf0 : fc_1 PRD (23, [6], [102, 1]) ws (vs) := by
    refine ⟨nf_in hl rfl, sgq_83 ?_⟩
    · show 1 * v_iv (n_v vs 6) + 0 ≤ 102
      omega
  have nf1 : fc_1 PRD (23, [6], [-102, -1]) ws (vs) := by
    refine ⟨nf_in hl rfl, sgq_84 ?_⟩
    · show (-1) * v_iv (n_v vs 6) + 0 ≤ (-102)
      omega
  refine ⟨(fun _ h => (by cases h)), [], trivial, ?_, (fun _ h => (by cases h))⟩
  rw [List.append_nil]
  exact List.forall_mem_cons.mpr ⟨⟨show (23 : Nat) < 100 from by decide, nf0⟩, List.forall_mem_cons.mpr ⟨⟨show (23 : Nat) < 100 from by decide, nf1⟩, (fun _ h => (by cases h))⟩⟩
def n_jLat_charAt_v669_an : List an_T := []
def t_jLat_charAt_v669_ct : ct_L := [(12, 9, e_jStr_checkIndex_v292), (1000004, 0, en_ro [(2, 0, 0, [5235])] (0, 4, 4, [])), (1000005, 0, en_ro [(2, 0, 0, [5235]), (0, 0, 0, [])] (0, 102, 102, []))]
set_option maxRecDepth 100000 in
theorem c_jLat_charAt_v669 {l : Launch} {D : va_G} {kA : Nat → ClassId} : ct_ok PRD l D kA GG y_jLat_charAt z_jLat_charAt e_jLat_charAt_v669 := chk_all_ok (FT := []) (PT := []) (CT := t_jLat_charAt_v669_ct) (KT := []) (NT := []) (AN := n_jLat_charAt_v669_an) (OT := [o_jLat_charAt_v669_0]) 0 200 (List.forall_mem_cons.mpr ⟨oo_jLat_charAt_v669_0, List.forall_mem_nil _⟩) (by decide +kernel) ⟨List.forall_mem_nil _, List.forall_mem_nil _, List.forall_mem_cons.mpr ⟨cl_static (y := y_jStr_checkIndex) c_jStr_checkIndex_v292 wm_694 wm_11 wm_692 wm_693 ⟨by decide, by decide, by decide +kernel⟩ (by decide), List.forall_mem_cons.mpr ⟨cl_tlen (i := 35) (n := 4) rfl (by decide +kernel) (by decide +kernel) (by decide +kernel), List.forall_mem_cons.mpr ⟨cl_tbyte1 (i := 35) (n := 4) (k := 0) rfl (by decide +kernel) (by decide +kernel) (by decide) (by decide +kernel), List.forall_mem_nil _⟩⟩⟩, List.forall_mem_nil _, List.forall_mem_nil _, GG_pl⟩ (by decide +kernel)
def e_jLat_charAt_v671 : en_T := ([(2, 0, 0, [5235]), (0, 1, 1, [])], some (0, 0, 65535, []), true, 3, 0, 0, [], [], (0, [], [], [(23, [2], [114, 1]), (23, [2], [-114, -1])], []))
def o_jLat_charAt_v671_0 : or_T := (14, 7, [(3, (0, 114, 114, [])), (5, (0, 0, 114, [])), (6, (0, 0, 65535, []))], [(22, [6, 5], []), (12, [5, 3], [256])], [], [], [(23, [6], [114, 1]), (23, [6], [-114, -1])], [], [])
theorem oo_jLat_charAt_v671_0 {kA : Nat → ClassId} : or_ok PRD kA GG o_jLat_charAt_v671_0 := by
  refine or_mk fun A ta ws vs hD hth hl => ?_
  intro t3 k3 t5 k5 t6 k6 f0 f1
  replace f0 := shm_47 f0
  replace f1 := shm_52 f1
  have nf0 : fc_1 PRD (23, [6], [114, 1]) ws (vs) := by
    refine ⟨nf_in hl rfl, sgq_63 ?_⟩
    · show 1 * v_iv (n_v vs 6) + 0 ≤ 114
      omega
  have nf1 : fc_1 PRD (23, [6], [-114, -1]) ws (vs) := by
    refine ⟨nf_in hl rfl, sgq_64 ?_⟩
    · show (-1) * v_iv (n_v vs 6) + 0 ≤ (-114)
      omega
  refine ⟨(fun _ h => (by cases h)), [], trivial, ?_, (fun _ h => (by cases h))⟩
  rw [List.append_nil]
  exact List.forall_mem_cons.mpr ⟨⟨show (23 : Nat) < 100 from by decide, nf0⟩, List.forall_mem_cons.mpr ⟨⟨show (23 : Nat) < 100 from by decide, nf1⟩, (fun _ h => (by cases h))⟩⟩
def n_jLat_charAt_v671_an : List an_T := []
def t_jLat_charAt_v671_ct : ct_L := [(12, 9, e_jStr_checkIndex_v296), (1000004, 0, en_ro [(2, 0, 0, [5235])] (0, 4, 4, [])), (1000005, 0, en_ro [(2, 0, 0, [5235]), (0, 1, 1, [])] (0, 114, 114, []))]
set_option maxRecDepth 100000 in
theorem c_jLat_charAt_v671 {l : Launch} {D : va_G} {kA : Nat → ClassId} : ct_ok PRD l D kA GG y_jLat_charAt z_jLat_charAt e_jLat_charAt_v671 := chk_all_ok (FT := []) (PT := []) (CT := t_jLat_charAt_v671_ct) (KT := []) (NT := []) (AN := n_jLat_charAt_v671_an) (OT := [o_jLat_charAt_v671_0]) 0 200 (List.forall_mem_cons.mpr ⟨oo_jLat_charAt_v671_0, List.forall_mem_nil _⟩) (by decide +kernel) ⟨List.forall_mem_nil _, List.forall_mem_nil _, List.forall_mem_cons.mpr ⟨cl_static (y := y_jStr_checkIndex) c_jStr_checkIndex_v296 wm_694 wm_11 wm_692 wm_693 ⟨by decide, by decide, by decide +kernel⟩ (by decide), List.forall_mem_cons.mpr ⟨cl_tlen (i := 35) (n := 4) rfl (by decide +kernel) (by decide +kernel) (by decide +kernel), List.forall_mem_cons.mpr ⟨cl_tbyte1 (i := 35) (n := 4) (k := 1) rfl (by decide +kernel) (by decide +kernel) (by decide) (by decide +kernel), List.forall_mem_nil _⟩⟩⟩, List.forall_mem_nil _, List.forall_mem_nil _, GG_pl⟩ (by decide +kernel)
def e_jLat_charAt_v673 : en_T := ([(2, 0, 0, [5235]), (0, 2, 2, [])], some (0, 0, 65535, []), true, 3, 0, 0, [], [], (0, [], [], [(23, [2], [111, 1]), (23, [2], [-111, -1])], []))
def o_jLat_charAt_v673_0 : or_T := (14, 7, [(3, (0, 111, 111, [])), (5, (0, 0, 111, [])), (6, (0, 0, 65535, []))], [(22, [6, 5], []), (12, [5, 3], [256])], [], [], [(23, [6], [111, 1]), (23, [6], [-111, -1])], [], [])
theorem oo_jLat_charAt_v673_0 {kA : Nat → ClassId} : or_ok PRD kA GG o_jLat_charAt_v673_0 := by
  refine or_mk fun A ta ws vs hD hth hl => ?_
  intro t3 k3 t5 k5 t6 k6 f0 f1
  replace f0 := shm_47 f0
  replace f1 := shm_52 f1
  have nf0 : fc_1 PRD (23, [6], [111, 1]) ws (vs) := by
    refine ⟨nf_in hl rfl, sgq_55 ?_⟩
    · show 1 * v_iv (n_v vs 6) + 0 ≤ 111
      omega
  have nf1 : fc_1 PRD (23, [6], [-111, -1]) ws (vs) := by
    refine ⟨nf_in hl rfl, sgq_56 ?_⟩
    · show (-1) * v_iv (n_v vs 6) + 0 ≤ (-111)
      omega
  refine ⟨(fun _ h => (by cases h)), [], trivial, ?_, (fun _ h => (by cases h))⟩
  rw [List.append_nil]
  exact List.forall_mem_cons.mpr ⟨⟨show (23 : Nat) < 100 from by decide, nf0⟩, List.forall_mem_cons.mpr ⟨⟨show (23 : Nat) < 100 from by decide, nf1⟩, (fun _ h => (by cases h))⟩⟩
def n_jLat_charAt_v673_an : List an_T := []
def t_jLat_charAt_v673_ct : ct_L := [(12, 9, e_jStr_checkIndex_v300), (1000004, 0, en_ro [(2, 0, 0, [5235])] (0, 4, 4, [])), (1000005, 0, en_ro [(2, 0, 0, [5235]), (0, 2, 2, [])] (0, 111, 111, []))]
set_option maxRecDepth 100000 in
theorem c_jLat_charAt_v673 {l : Launch} {D : va_G} {kA : Nat → ClassId} : ct_ok PRD l D kA GG y_jLat_charAt z_jLat_charAt e_jLat_charAt_v673 := chk_all_ok (FT := []) (PT := []) (CT := t_jLat_charAt_v673_ct) (KT := []) (NT := []) (AN := n_jLat_charAt_v673_an) (OT := [o_jLat_charAt_v673_0]) 0 200 (List.forall_mem_cons.mpr ⟨oo_jLat_charAt_v673_0, List.forall_mem_nil _⟩) (by decide +kernel) ⟨List.forall_mem_nil _, List.forall_mem_nil _, List.forall_mem_cons.mpr ⟨cl_static (y := y_jStr_checkIndex) c_jStr_checkIndex_v300 wm_694 wm_11 wm_692 wm_693 ⟨by decide, by decide, by decide +kernel⟩ (by decide), List.forall_mem_cons.mpr ⟨cl_tlen (i := 35) (n := 4) rfl (by decide +kernel) (by decide +kernel) (by decide +kernel), List.forall_mem_cons.mpr ⟨cl_tbyte1 (i := 35) (n := 4) (k := 2) rfl (by decide +kernel) (by decide +kernel) (by decide) (by decide +kernel), List.forall_mem_nil _⟩⟩⟩, List.forall_mem_nil _, List.forall_mem_nil _, GG_pl⟩ (by decide +kernel)
def e_jLat_charAt_v675 : en_T := ([(2, 0, 0, [5235]), (0, 3, 3, [])], some (0, 0, 65535, []), true, 3, 0, 0, [], [], (0, [], [], [(23, [2], [109, 1]), (23, [2], [-109, -1])], []))
def o_jLat_charAt_v675_0 : or_T := (14, 7, [(3, (0, 109, 109, [])), (5, (0, 0, 109, [])), (6, (0, 0, 65535, []))], [(22, [6, 5], []), (12, [5, 3], [256])], [], [], [(23, [6], [109, 1]), (23, [6], [-109, -1])], [], [])
theorem oo_jLat_charAt_v675_0 {kA : Nat → ClassId} : or_ok PRD kA GG o_jLat_charAt_v675_0 := by
  refine or_mk fun A ta ws vs hD hth hl => ?_
  intro t3 k3 t5 k5 t6 k6 f0 f1
  replace f0 := shm_47 f0
  replace f1 := shm_52 f1
  have nf0 : fc_1 PRD (23, [6], [109, 1]) ws (vs) := by
    refine ⟨nf_in hl rfl, sgq_91 ?_⟩
    · show 1 * v_iv (n_v vs 6) + 0 ≤ 109
      omega
  have nf1 : fc_1 PRD (23, [6], [-109, -1]) ws (vs) := by
    refine ⟨nf_in hl rfl, sgq_92 ?_⟩
    · show (-1) * v_iv (n_v vs 6) + 0 ≤ (-109)
      omega
  refine ⟨(fun _ h => (by cases h)), [], trivial, ?_, (fun _ h => (by cases h))⟩
  rw [List.append_nil]
  exact List.forall_mem_cons.mpr ⟨⟨show (23 : Nat) < 100 from by decide, nf0⟩, List.forall_mem_cons.mpr ⟨⟨show (23 : Nat) < 100 from by decide, nf1⟩, (fun _ h => (by cases h))⟩⟩
def n_jLat_charAt_v675_an : List an_T := []
def t_jLat_charAt_v675_ct : ct_L := [(12, 9, e_jStr_checkIndex_v304), (1000004, 0, en_ro [(2, 0, 0, [5235])] (0, 4, 4, [])), (1000005, 0, en_ro [(2, 0, 0, [5235]), (0, 3, 3, [])] (0, 109, 109, []))]
set_option maxRecDepth 100000 in
theorem c_jLat_charAt_v675 {l : Launch} {D : va_G} {kA : Nat → ClassId} : ct_ok PRD l D kA GG y_jLat_charAt z_jLat_charAt e_jLat_charAt_v675 := chk_all_ok (FT := []) (PT := []) (CT := t_jLat_charAt_v675_ct) (KT := []) (NT := []) (AN := n_jLat_charAt_v675_an) (OT := [o_jLat_charAt_v675_0]) 0 200 (List.forall_mem_cons.mpr ⟨oo_jLat_charAt_v675_0, List.forall_mem_nil _⟩) (by decide +kernel) ⟨List.forall_mem_nil _, List.forall_mem_nil _, List.forall_mem_cons.mpr ⟨cl_static (y := y_jStr_checkIndex) c_jStr_checkIndex_v304 wm_694 wm_11 wm_692 wm_693 ⟨by decide, by decide, by decide +kernel⟩ (by decide), List.forall_mem_cons.mpr ⟨cl_tlen (i := 35) (n := 4) rfl (by decide +kernel) (by decide +kernel) (by decide +kernel), List.forall_mem_cons.mpr ⟨cl_tbyte1 (i := 35) (n := 4) (k := 3) rfl (by decide +kernel) (by decide +kernel) (by decide) (by decide +kernel), List.forall_mem_nil _⟩⟩⟩, List.forall_mem_nil _, List.forall_mem_nil _, GG_pl⟩ (by decide +kernel)
def e_jLat_charAt_v678 : en_T := ([(2, 0, 0, [5236]), (0, 0, 0, [])], some (0, 0, 65535, []), true, 3, 0, 0, [], [], (0, [], [], [(23, [2], [116, 1]), (23, [2], [-116, -1])], []))
def o_jLat_charAt_v678_0 : or_T := (14, 7, [(3, (0, 116, 116, [])), (5, (0, 0, 116, [])), (6, (0, 0, 65535, []))], [(22, [6, 5], []), (12, [5, 3], [256])], [], [], [(23, [6], [116, 1]), (23, [6], [-116, -1])], [], [])
theorem oo_jLat_charAt_v678_0 {kA : Nat → ClassId} : or_ok PRD kA GG o_jLat_charAt_v678_0 := by
  refine or_mk fun A ta ws vs hD hth hl => ?_
  intro t3 k3 t5 k5 t6 k6 f0 f1
  replace f0 := shm_47 f0
  replace f1 := shm_52 f1
  have nf0 : fc_1 PRD (23, [6], [116, 1]) ws (vs) := by
    refine ⟨nf_in hl rfl, sgq_79 ?_⟩
    · show 1 * v_iv (n_v vs 6) + 0 ≤ 116
      omega
  have nf1 : fc_1 PRD (23, [6], [-116, -1]) ws (vs) := by
    refine ⟨nf_in hl rfl, sgq_80 ?_⟩
    · show (-1) * v_iv (n_v vs 6) + 0 ≤ (-116)
      omega
  refine ⟨(fun _ h => (by cases h)), [], trivial, ?_, (fun _ h => (by cases h))⟩
  rw [List.append_nil]
  exact List.forall_mem_cons.mpr ⟨⟨show (23 : Nat) < 100 from by decide, nf0⟩, List.forall_mem_cons.mpr ⟨⟨show (23 : Nat) < 100 from by decide, nf1⟩, (fun _ h => (by cases h))⟩⟩
def n_jLat_charAt_v678_an : List an_T := []
def t_jLat_charAt_v678_ct : ct_L := [(12, 9, e_jStr_checkIndex_v578), (1000004, 0, en_ro [(2, 0, 0, [5236])] (0, 2, 2, [])), (1000005, 0, en_ro [(2, 0, 0, [5236]), (0, 0, 0, [])] (0, 116, 116, []))]
set_option maxRecDepth 100000 in
theorem c_jLat_charAt_v678 {l : Launch} {D : va_G} {kA : Nat → ClassId} : ct_ok PRD l D kA GG y_jLat_charAt z_jLat_charAt e_jLat_charAt_v678 := chk_all_ok (FT := []) (PT := []) (CT := t_jLat_charAt_v678_ct) (KT := []) (NT := []) (AN := n_jLat_charAt_v678_an) (OT := [o_jLat_charAt_v678_0]) 0 200 (List.forall_mem_cons.mpr ⟨oo_jLat_charAt_v678_0, List.forall_mem_nil _⟩) (by decide +kernel) ⟨List.forall_mem_nil _, List.forall_mem_nil _, List.forall_mem_cons.mpr ⟨cl_static (y := y_jStr_checkIndex) c_jStr_checkIndex_v578 wm_694 wm_11 wm_692 wm_693 ⟨by decide, by decide, by decide +kernel⟩ (by decide), List.forall_mem_cons.mpr ⟨cl_tlen (i := 36) (n := 2) rfl (by decide +kernel) (by decide +kernel) (by decide +kernel), List.forall_mem_cons.mpr ⟨cl_tbyte1 (i := 36) (n := 2) (k := 0) rfl (by decide +kernel) (by decide +kernel) (by decide) (by decide +kernel), List.forall_mem_nil _⟩⟩⟩, List.forall_mem_nil _, List.forall_mem_nil _, GG_pl⟩ (by decide +kernel)
def e_jLat_charAt_v680 : en_T := ([(2, 0, 0, [5236]), (0, 1, 1, [])], some (0, 0, 65535, []), true, 3, 0, 0, [], [], (0, [], [], [(23, [2], [111, 1]), (23, [2], [-111, -1])], []))
def o_jLat_charAt_v680_0 : or_T := (14, 7, [(3, (0, 111, 111, [])), (5, (0, 0, 111, [])), (6, (0, 0, 65535, []))], [(22, [6, 5], []), (12, [5, 3], [256])], [], [], [(23, [6], [111, 1]), (23, [6], [-111, -1])], [], [])
theorem oo_jLat_charAt_v680_0 {kA : Nat → ClassId} : or_ok PRD kA GG o_jLat_charAt_v680_0 := by
  refine or_mk fun A ta ws vs hD hth hl => ?_
  intro t3 k3 t5 k5 t6 k6 f0 f1
  replace f0 := shm_47 f0
  replace f1 := shm_52 f1
  have nf0 : fc_1 PRD (23, [6], [111, 1]) ws (vs) := by
    refine ⟨nf_in hl rfl, sgq_55 ?_⟩
    · show 1 * v_iv (n_v vs 6) + 0 ≤ 111
      omega
  have nf1 : fc_1 PRD (23, [6], [-111, -1]) ws (vs) := by
    refine ⟨nf_in hl rfl, sgq_56 ?_⟩
    · show (-1) * v_iv (n_v vs 6) + 0 ≤ (-111)
      omega
  refine ⟨(fun _ h => (by cases h)), [], trivial, ?_, (fun _ h => (by cases h))⟩
  rw [List.append_nil]
  exact List.forall_mem_cons.mpr ⟨⟨show (23 : Nat) < 100 from by decide, nf0⟩, List.forall_mem_cons.mpr ⟨⟨show (23 : Nat) < 100 from by decide, nf1⟩, (fun _ h => (by cases h))⟩⟩
def n_jLat_charAt_v680_an : List an_T := []
def t_jLat_charAt_v680_ct : ct_L := [(12, 9, e_jStr_checkIndex_v582), (1000004, 0, en_ro [(2, 0, 0, [5236])] (0, 2, 2, [])), (1000005, 0, en_ro [(2, 0, 0, [5236]), (0, 1, 1, [])] (0, 111, 111, []))]
set_option maxRecDepth 100000 in
theorem c_jLat_charAt_v680 {l : Launch} {D : va_G} {kA : Nat → ClassId} : ct_ok PRD l D kA GG y_jLat_charAt z_jLat_charAt e_jLat_charAt_v680 := chk_all_ok (FT := []) (PT := []) (CT := t_jLat_charAt_v680_ct) (KT := []) (NT := []) (AN := n_jLat_charAt_v680_an) (OT := [o_jLat_charAt_v680_0]) 0 200 (List.forall_mem_cons.mpr ⟨oo_jLat_charAt_v680_0, List.forall_mem_nil _⟩) (by decide +kernel) ⟨List.forall_mem_nil _, List.forall_mem_nil _, List.forall_mem_cons.mpr ⟨cl_static (y := y_jStr_checkIndex) c_jStr_checkIndex_v582 wm_694 wm_11 wm_692 wm_693 ⟨by decide, by decide, by decide +kernel⟩ (by decide), List.forall_mem_cons.mpr ⟨cl_tlen (i := 36) (n := 2) rfl (by decide +kernel) (by decide +kernel) (by decide +kernel), List.forall_mem_cons.mpr ⟨cl_tbyte1 (i := 36) (n := 2) (k := 1) rfl (by decide +kernel) (by decide +kernel) (by decide) (by decide +kernel), List.forall_mem_nil _⟩⟩⟩, List.forall_mem_nil _, List.forall_mem_nil _, GG_pl⟩ (by decide +kernel)
def e_jLat_charAt_v683 : en_T := ([(2, 0, 0, [5237]), (0, 0, 0, [])], some (0, 0, 65535, []), true, 3, 0, 0, [], [], (0, [], [], [(23, [2], [98, 1]), (23, [2], [-98, -1])], []))
def o_jLat_charAt_v683_0 : or_T := (14, 7, [(3, (0, 98, 98, [])), (5, (0, 0, 98, [])), (6, (0, 0, 65535, []))], [(22, [6, 5], []), (12, [5, 3], [256])], [], [], [(23, [6], [98, 1]), (23, [6], [-98, -1])], [], [])
theorem oo_jLat_charAt_v683_0 {kA : Nat → ClassId} : or_ok PRD kA GG o_jLat_charAt_v683_0 := by
  refine or_mk fun A ta ws vs hD hth hl => ?_
  intro t3 k3 t5 k5 t6 k6 f0 f1
  replace f0 := shm_47 f0
  replace f1 := shm_52 f1
  have nf0 : fc_1 PRD (23, [6], [98, 1]) ws (vs) := by
    refine ⟨nf_in hl rfl, sgq_97 ?_⟩
    · show 1 * v_iv (n_v vs 6) + 0 ≤ 98
      omega
  have nf1 : fc_1 PRD (23, [6], [-98, -1]) ws (vs) := by
    refine ⟨nf_in hl rfl, sgq_98 ?_⟩
    · show (-1) * v_iv (n_v vs 6) + 0 ≤ (-98)
      omega
  refine ⟨(fun _ h => (by cases h)), [], trivial, ?_, (fun _ h => (by cases h))⟩
  rw [List.append_nil]
  exact List.forall_mem_cons.mpr ⟨⟨show (23 : Nat) < 100 from by decide, nf0⟩, List.forall_mem_cons.mpr ⟨⟨show (23 : Nat) < 100 from by decide, nf1⟩, (fun _ h => (by cases h))⟩⟩
def n_jLat_charAt_v683_an : List an_T := []
def t_jLat_charAt_v683_ct : ct_L := [(12, 9, e_jStr_checkIndex_v309), (1000004, 0, en_ro [(2, 0, 0, [5237])] (0, 5, 5, [])), (1000005, 0, en_ro [(2, 0, 0, [5237]), (0, 0, 0, [])] (0, 98, 98, []))]
set_option maxRecDepth 100000 in
theorem c_jLat_charAt_v683 {l : Launch} {D : va_G} {kA : Nat → ClassId} : ct_ok PRD l D kA GG y_jLat_charAt z_jLat_charAt e_jLat_charAt_v683 := chk_all_ok (FT := []) (PT := []) (CT := t_jLat_charAt_v683_ct) (KT := []) (NT := []) (AN := n_jLat_charAt_v683_an) (OT := [o_jLat_charAt_v683_0]) 0 200 (List.forall_mem_cons.mpr ⟨oo_jLat_charAt_v683_0, List.forall_mem_nil _⟩) (by decide +kernel) ⟨List.forall_mem_nil _, List.forall_mem_nil _, List.forall_mem_cons.mpr ⟨cl_static (y := y_jStr_checkIndex) c_jStr_checkIndex_v309 wm_694 wm_11 wm_692 wm_693 ⟨by decide, by decide, by decide +kernel⟩ (by decide), List.forall_mem_cons.mpr ⟨cl_tlen (i := 37) (n := 5) rfl (by decide +kernel) (by decide +kernel) (by decide +kernel), List.forall_mem_cons.mpr ⟨cl_tbyte1 (i := 37) (n := 5) (k := 0) rfl (by decide +kernel) (by decide +kernel) (by decide) (by decide +kernel), List.forall_mem_nil _⟩⟩⟩, List.forall_mem_nil _, List.forall_mem_nil _, GG_pl⟩ (by decide +kernel)
def e_jLat_charAt_v685 : en_T := ([(2, 0, 0, [5237]), (0, 1, 1, [])], some (0, 0, 65535, []), true, 3, 0, 0, [], [], (0, [], [], [(23, [2], [108, 1]), (23, [2], [-108, -1])], []))
def o_jLat_charAt_v685_0 : or_T := (14, 7, [(3, (0, 108, 108, [])), (5, (0, 0, 108, [])), (6, (0, 0, 65535, []))], [(22, [6, 5], []), (12, [5, 3], [256])], [], [], [(23, [6], [108, 1]), (23, [6], [-108, -1])], [], [])
theorem oo_jLat_charAt_v685_0 {kA : Nat → ClassId} : or_ok PRD kA GG o_jLat_charAt_v685_0 := by
  refine or_mk fun A ta ws vs hD hth hl => ?_
  intro t3 k3 t5 k5 t6 k6 f0 f1
  replace f0 := shm_47 f0
  replace f1 := shm_52 f1
  have nf0 : fc_1 PRD (23, [6], [108, 1]) ws (vs) := by
    refine ⟨nf_in hl rfl, sgq_89 ?_⟩
    · show 1 * v_iv (n_v vs 6) + 0 ≤ 108
      omega
  have nf1 : fc_1 PRD (23, [6], [-108, -1]) ws (vs) := by
    refine ⟨nf_in hl rfl, sgq_90 ?_⟩
    · show (-1) * v_iv (n_v vs 6) + 0 ≤ (-108)
      omega
  refine ⟨(fun _ h => (by cases h)), [], trivial, ?_, (fun _ h => (by cases h))⟩
  rw [List.append_nil]
  exact List.forall_mem_cons.mpr ⟨⟨show (23 : Nat) < 100 from by decide, nf0⟩, List.forall_mem_cons.mpr ⟨⟨show (23 : Nat) < 100 from by decide, nf1⟩, (fun _ h => (by cases h))⟩⟩
def n_jLat_charAt_v685_an : List an_T := []
def t_jLat_charAt_v685_ct : ct_L := [(12, 9, e_jStr_checkIndex_v313), (1000004, 0, en_ro [(2, 0, 0, [5237])] (0, 5, 5, [])), (1000005, 0, en_ro [(2, 0, 0, [5237]), (0, 1, 1, [])] (0, 108, 108, []))]
set_option maxRecDepth 100000 in
theorem c_jLat_charAt_v685 {l : Launch} {D : va_G} {kA : Nat → ClassId} : ct_ok PRD l D kA GG y_jLat_charAt z_jLat_charAt e_jLat_charAt_v685 := chk_all_ok (FT := []) (PT := []) (CT := t_jLat_charAt_v685_ct) (KT := []) (NT := []) (AN := n_jLat_charAt_v685_an) (OT := [o_jLat_charAt_v685_0]) 0 200 (List.forall_mem_cons.mpr ⟨oo_jLat_charAt_v685_0, List.forall_mem_nil _⟩) (by decide +kernel) ⟨List.forall_mem_nil _, List.forall_mem_nil _, List.forall_mem_cons.mpr ⟨cl_static (y := y_jStr_checkIndex) c_jStr_checkIndex_v313 wm_694 wm_11 wm_692 wm_693 ⟨by decide, by decide, by decide +kernel⟩ (by decide), List.forall_mem_cons.mpr ⟨cl_tlen (i := 37) (n := 5) rfl (by decide +kernel) (by decide +kernel) (by decide +kernel), List.forall_mem_cons.mpr ⟨cl_tbyte1 (i := 37) (n := 5) (k := 1) rfl (by decide +kernel) (by decide +kernel) (by decide) (by decide +kernel), List.forall_mem_nil _⟩⟩⟩, List.forall_mem_nil _, List.forall_mem_nil _, GG_pl⟩ (by decide +kernel)
def e_jLat_charAt_v687 : en_T := ([(2, 0, 0, [5237]), (0, 2, 2, [])], some (0, 0, 65535, []), true, 3, 0, 0, [], [], (0, [], [], [(23, [2], [111, 1]), (23, [2], [-111, -1])], []))
def o_jLat_charAt_v687_0 : or_T := (14, 7, [(3, (0, 111, 111, [])), (5, (0, 0, 111, [])), (6, (0, 0, 65535, []))], [(22, [6, 5], []), (12, [5, 3], [256])], [], [], [(23, [6], [111, 1]), (23, [6], [-111, -1])], [], [])
theorem oo_jLat_charAt_v687_0 {kA : Nat → ClassId} : or_ok PRD kA GG o_jLat_charAt_v687_0 := by
  refine or_mk fun A ta ws vs hD hth hl => ?_
  intro t3 k3 t5 k5 t6 k6 f0 f1
  replace f0 := shm_47 f0
  replace f1 := shm_52 f1
  have nf0 : fc_1 PRD (23, [6], [111, 1]) ws (vs) := by
    refine ⟨nf_in hl rfl, sgq_55 ?_⟩
    · show 1 * v_iv (n_v vs 6) + 0 ≤ 111
      omega
  have nf1 : fc_1 PRD (23, [6], [-111, -1]) ws (vs) := by
    refine ⟨nf_in hl rfl, sgq_56 ?_⟩
    · show (-1) * v_iv (n_v vs 6) + 0 ≤ (-111)
      omega
  refine ⟨(fun _ h => (by cases h)), [], trivial, ?_, (fun _ h => (by cases h))⟩
  rw [List.append_nil]
  exact List.forall_mem_cons.mpr ⟨⟨show (23 : Nat) < 100 from by decide, nf0⟩, List.forall_mem_cons.mpr ⟨⟨show (23 : Nat) < 100 from by decide, nf1⟩, (fun _ h => (by cases h))⟩⟩
def n_jLat_charAt_v687_an : List an_T := []
def t_jLat_charAt_v687_ct : ct_L := [(12, 9, e_jStr_checkIndex_v317), (1000004, 0, en_ro [(2, 0, 0, [5237])] (0, 5, 5, [])), (1000005, 0, en_ro [(2, 0, 0, [5237]), (0, 2, 2, [])] (0, 111, 111, []))]
set_option maxRecDepth 100000 in
theorem c_jLat_charAt_v687 {l : Launch} {D : va_G} {kA : Nat → ClassId} : ct_ok PRD l D kA GG y_jLat_charAt z_jLat_charAt e_jLat_charAt_v687 := chk_all_ok (FT := []) (PT := []) (CT := t_jLat_charAt_v687_ct) (KT := []) (NT := []) (AN := n_jLat_charAt_v687_an) (OT := [o_jLat_charAt_v687_0]) 0 200 (List.forall_mem_cons.mpr ⟨oo_jLat_charAt_v687_0, List.forall_mem_nil _⟩) (by decide +kernel) ⟨List.forall_mem_nil _, List.forall_mem_nil _, List.forall_mem_cons.mpr ⟨cl_static (y := y_jStr_checkIndex) c_jStr_checkIndex_v317 wm_694 wm_11 wm_692 wm_693 ⟨by decide, by decide, by decide +kernel⟩ (by decide), List.forall_mem_cons.mpr ⟨cl_tlen (i := 37) (n := 5) rfl (by decide +kernel) (by decide +kernel) (by decide +kernel), List.forall_mem_cons.mpr ⟨cl_tbyte1 (i := 37) (n := 5) (k := 2) rfl (by decide +kernel) (by decide +kernel) (by decide) (by decide +kernel), List.forall_mem_nil _⟩⟩⟩, List.forall_mem_nil _, List.forall_mem_nil _, GG_pl⟩ (by decide +kernel)
def e_jLat_charAt_v689 : en_T := ([(2, 0, 0, [5237]), (0, 3, 3, [])], some (0, 0, 65535, []), true, 3, 0, 0, [], [], (0, [], [], [(23, [2], [99, 1]), (23, [2], [-99, -1])], []))
def o_jLat_charAt_v689_0 : or_T := (14, 7, [(3, (0, 99, 99, [])), (5, (0, 0, 99, [])), (6, (0, 0, 65535, []))], [(22, [6, 5], []), (12, [5, 3], [256])], [], [], [(23, [6], [99, 1]), (23, [6], [-99, -1])], [], [])
theorem oo_jLat_charAt_v689_0 {kA : Nat → ClassId} : or_ok PRD kA GG o_jLat_charAt_v689_0 := by
  refine or_mk fun A ta ws vs hD hth hl => ?_
  intro t3 k3 t5 k5 t6 k6 f0 f1
  replace f0 := shm_47 f0
  replace f1 := shm_52 f1
  have nf0 : fc_1 PRD (23, [6], [99, 1]) ws (vs) := by
    refine ⟨nf_in hl rfl, sgq_87 ?_⟩
    · show 1 * v_iv (n_v vs 6) + 0 ≤ 99
      omega
  have nf1 : fc_1 PRD (23, [6], [-99, -1]) ws (vs) := by
    refine ⟨nf_in hl rfl, sgq_88 ?_⟩
    · show (-1) * v_iv (n_v vs 6) + 0 ≤ (-99)
      omega
  refine ⟨(fun _ h => (by cases h)), [], trivial, ?_, (fun _ h => (by cases h))⟩
  rw [List.append_nil]
  exact List.forall_mem_cons.mpr ⟨⟨show (23 : Nat) < 100 from by decide, nf0⟩, List.forall_mem_cons.mpr ⟨⟨show (23 : Nat) < 100 from by decide, nf1⟩, (fun _ h => (by cases h))⟩⟩
def n_jLat_charAt_v689_an : List an_T := []
def t_jLat_charAt_v689_ct : ct_L := [(12, 9, e_jStr_checkIndex_v321), (1000004, 0, en_ro [(2, 0, 0, [5237])] (0, 5, 5, [])), (1000005, 0, en_ro [(2, 0, 0, [5237]), (0, 3, 3, [])] (0, 99, 99, []))]
set_option maxRecDepth 100000 in
theorem c_jLat_charAt_v689 {l : Launch} {D : va_G} {kA : Nat → ClassId} : ct_ok PRD l D kA GG y_jLat_charAt z_jLat_charAt e_jLat_charAt_v689 := chk_all_ok (FT := []) (PT := []) (CT := t_jLat_charAt_v689_ct) (KT := []) (NT := []) (AN := n_jLat_charAt_v689_an) (OT := [o_jLat_charAt_v689_0]) 0 200 (List.forall_mem_cons.mpr ⟨oo_jLat_charAt_v689_0, List.forall_mem_nil _⟩) (by decide +kernel) ⟨List.forall_mem_nil _, List.forall_mem_nil _, List.forall_mem_cons.mpr ⟨cl_static (y := y_jStr_checkIndex) c_jStr_checkIndex_v321 wm_694 wm_11 wm_692 wm_693 ⟨by decide, by decide, by decide +kernel⟩ (by decide), List.forall_mem_cons.mpr ⟨cl_tlen (i := 37) (n := 5) rfl (by decide +kernel) (by decide +kernel) (by decide +kernel), List.forall_mem_cons.mpr ⟨cl_tbyte1 (i := 37) (n := 5) (k := 3) rfl (by decide +kernel) (by decide +kernel) (by decide) (by decide +kernel), List.forall_mem_nil _⟩⟩⟩, List.forall_mem_nil _, List.forall_mem_nil _, GG_pl⟩ (by decide +kernel)
def e_jLat_charAt_v691 : en_T := ([(2, 0, 0, [5237]), (0, 4, 4, [])], some (0, 0, 65535, []), true, 3, 0, 0, [], [], (0, [], [], [(23, [2], [107, 1]), (23, [2], [-107, -1])], []))
def o_jLat_charAt_v691_0 : or_T := (14, 7, [(3, (0, 107, 107, [])), (5, (0, 0, 107, [])), (6, (0, 0, 65535, []))], [(22, [6, 5], []), (12, [5, 3], [256])], [], [], [(23, [6], [107, 1]), (23, [6], [-107, -1])], [], [])
theorem oo_jLat_charAt_v691_0 {kA : Nat → ClassId} : or_ok PRD kA GG o_jLat_charAt_v691_0 := by
  refine or_mk fun A ta ws vs hD hth hl => ?_
  intro t3 k3 t5 k5 t6 k6 f0 f1
  replace f0 := shm_47 f0
  replace f1 := shm_52 f1
  have nf0 : fc_1 PRD (23, [6], [107, 1]) ws (vs) := by
    refine ⟨nf_in hl rfl, sgq_99 ?_⟩
    · show 1 * v_iv (n_v vs 6) + 0 ≤ 107
      omega
  have nf1 : fc_1 PRD (23, [6], [-107, -1]) ws (vs) := by
    refine ⟨nf_in hl rfl, sgq_100 ?_⟩
    · show (-1) * v_iv (n_v vs 6) + 0 ≤ (-107)
      omega
  refine ⟨(fun _ h => (by cases h)), [], trivial, ?_, (fun _ h => (by cases h))⟩
  rw [List.append_nil]
  exact List.forall_mem_cons.mpr ⟨⟨show (23 : Nat) < 100 from by decide, nf0⟩, List.forall_mem_cons.mpr ⟨⟨show (23 : Nat) < 100 from by decide, nf1⟩, (fun _ h => (by cases h))⟩⟩
def n_jLat_charAt_v691_an : List an_T := []
def t_jLat_charAt_v691_ct : ct_L := [(12, 9, e_jStr_checkIndex_v325), (1000004, 0, en_ro [(2, 0, 0, [5237])] (0, 5, 5, [])), (1000005, 0, en_ro [(2, 0, 0, [5237]), (0, 4, 4, [])] (0, 107, 107, []))]
set_option maxRecDepth 100000 in
theorem c_jLat_charAt_v691 {l : Launch} {D : va_G} {kA : Nat → ClassId} : ct_ok PRD l D kA GG y_jLat_charAt z_jLat_charAt e_jLat_charAt_v691 := chk_all_ok (FT := []) (PT := []) (CT := t_jLat_charAt_v691_ct) (KT := []) (NT := []) (AN := n_jLat_charAt_v691_an) (OT := [o_jLat_charAt_v691_0]) 0 200 (List.forall_mem_cons.mpr ⟨oo_jLat_charAt_v691_0, List.forall_mem_nil _⟩) (by decide +kernel) ⟨List.forall_mem_nil _, List.forall_mem_nil _, List.forall_mem_cons.mpr ⟨cl_static (y := y_jStr_checkIndex) c_jStr_checkIndex_v325 wm_694 wm_11 wm_692 wm_693 ⟨by decide, by decide, by decide +kernel⟩ (by decide), List.forall_mem_cons.mpr ⟨cl_tlen (i := 37) (n := 5) rfl (by decide +kernel) (by decide +kernel) (by decide +kernel), List.forall_mem_cons.mpr ⟨cl_tbyte1 (i := 37) (n := 5) (k := 4) rfl (by decide +kernel) (by decide +kernel) (by decide) (by decide +kernel), List.forall_mem_nil _⟩⟩⟩, List.forall_mem_nil _, List.forall_mem_nil _, GG_pl⟩ (by decide +kernel)
def e_jLat_charAt_v694 : en_T := ([(2, 0, 0, [5238]), (0, 0, 0, [])], some (0, 0, 65535, []), true, 3, 0, 0, [], [], (0, [], [], [(23, [2], [108, 1]), (23, [2], [-108, -1])], []))
def o_jLat_charAt_v694_0 : or_T := (14, 7, [(3, (0, 108, 108, [])), (5, (0, 0, 108, [])), (6, (0, 0, 65535, []))], [(22, [6, 5], []), (12, [5, 3], [256])], [], [], [(23, [6], [108, 1]), (23, [6], [-108, -1])], [], [])
theorem oo_jLat_charAt_v694_0 {kA : Nat → ClassId} : or_ok PRD kA GG o_jLat_charAt_v694_0 := by
  refine or_mk fun A ta ws vs hD hth hl => ?_
  intro t3 k3 t5 k5 t6 k6 f0 f1
  replace f0 := shm_47 f0
  replace f1 := shm_52 f1
  have nf0 : fc_1 PRD (23, [6], [108, 1]) ws (vs) := by
    refine ⟨nf_in hl rfl, sgq_89 ?_⟩
    · show 1 * v_iv (n_v vs 6) + 0 ≤ 108
      omega
  have nf1 : fc_1 PRD (23, [6], [-108, -1]) ws (vs) := by
    refine ⟨nf_in hl rfl, sgq_90 ?_⟩
    · show (-1) * v_iv (n_v vs 6) + 0 ≤ (-108)
      omega
  refine ⟨(fun _ h => (by cases h)), [], trivial, ?_, (fun _ h => (by cases h))⟩
  rw [List.append_nil]
  exact List.forall_mem_cons.mpr ⟨⟨show (23 : Nat) < 100 from by decide, nf0⟩, List.forall_mem_cons.mpr ⟨⟨show (23 : Nat) < 100 from by decide, nf1⟩, (fun _ h => (by cases h))⟩⟩
def n_jLat_charAt_v694_an : List an_T := []
def t_jLat_charAt_v694_ct : ct_L := [(12, 9, e_jStr_checkIndex_v292), (1000004, 0, en_ro [(2, 0, 0, [5238])] (0, 4, 4, [])), (1000005, 0, en_ro [(2, 0, 0, [5238]), (0, 0, 0, [])] (0, 108, 108, []))]
set_option maxRecDepth 100000 in
theorem c_jLat_charAt_v694 {l : Launch} {D : va_G} {kA : Nat → ClassId} : ct_ok PRD l D kA GG y_jLat_charAt z_jLat_charAt e_jLat_charAt_v694 := chk_all_ok (FT := []) (PT := []) (CT := t_jLat_charAt_v694_ct) (KT := []) (NT := []) (AN := n_jLat_charAt_v694_an) (OT := [o_jLat_charAt_v694_0]) 0 200 (List.forall_mem_cons.mpr ⟨oo_jLat_charAt_v694_0, List.forall_mem_nil _⟩) (by decide +kernel) ⟨List.forall_mem_nil _, List.forall_mem_nil _, List.forall_mem_cons.mpr ⟨cl_static (y := y_jStr_checkIndex) c_jStr_checkIndex_v292 wm_694 wm_11 wm_692 wm_693 ⟨by decide, by decide, by decide +kernel⟩ (by decide), List.forall_mem_cons.mpr ⟨cl_tlen (i := 38) (n := 4) rfl (by decide +kernel) (by decide +kernel) (by decide +kernel), List.forall_mem_cons.mpr ⟨cl_tbyte1 (i := 38) (n := 4) (k := 0) rfl (by decide +kernel) (by decide +kernel) (by decide) (by decide +kernel), List.forall_mem_nil _⟩⟩⟩, List.forall_mem_nil _, List.forall_mem_nil _, GG_pl⟩ (by decide +kernel)
def e_jLat_charAt_v696 : en_T := ([(2, 0, 0, [5238]), (0, 1, 1, [])], some (0, 0, 65535, []), true, 3, 0, 0, [], [], (0, [], [], [(23, [2], [111, 1]), (23, [2], [-111, -1])], []))
def o_jLat_charAt_v696_0 : or_T := (14, 7, [(3, (0, 111, 111, [])), (5, (0, 0, 111, [])), (6, (0, 0, 65535, []))], [(22, [6, 5], []), (12, [5, 3], [256])], [], [], [(23, [6], [111, 1]), (23, [6], [-111, -1])], [], [])
theorem oo_jLat_charAt_v696_0 {kA : Nat → ClassId} : or_ok PRD kA GG o_jLat_charAt_v696_0 := by
  refine or_mk fun A ta ws vs hD hth hl => ?_
  intro t3 k3 t5 k5 t6 k6 f0 f1
  replace f0 := shm_47 f0
  replace f1 := shm_52 f1
  have nf0 : fc_1 PRD (23, [6], [111, 1]) ws (vs) := by
    refine ⟨nf_in hl rfl, sgq_55 ?_⟩
    · show 1 * v_iv (n_v vs 6) + 0 ≤ 111
      omega
  have nf1 : fc_1 PRD (23, [6], [-111, -1]) ws (vs) := by
    refine ⟨nf_in hl rfl, sgq_56 ?_⟩
    · show (-1) * v_iv (n_v vs 6) + 0 ≤ (-111)
      omega
  refine ⟨(fun _ h => (by cases h)), [], trivial, ?_, (fun _ h => (by cases h))⟩
  rw [List.append_nil]
  exact List.forall_mem_cons.mpr ⟨⟨show (23 : Nat) < 100 from by decide, nf0⟩, List.forall_mem_cons.mpr ⟨⟨show (23 : Nat) < 100 from by decide, nf1⟩, (fun _ h => (by cases h))⟩⟩
def n_jLat_charAt_v696_an : List an_T := []
def t_jLat_charAt_v696_ct : ct_L := [(12, 9, e_jStr_checkIndex_v296), (1000004, 0, en_ro [(2, 0, 0, [5238])] (0, 4, 4, [])), (1000005, 0, en_ro [(2, 0, 0, [5238]), (0, 1, 1, [])] (0, 111, 111, []))]
set_option maxRecDepth 100000 in
theorem c_jLat_charAt_v696 {l : Launch} {D : va_G} {kA : Nat → ClassId} : ct_ok PRD l D kA GG y_jLat_charAt z_jLat_charAt e_jLat_charAt_v696 := chk_all_ok (FT := []) (PT := []) (CT := t_jLat_charAt_v696_ct) (KT := []) (NT := []) (AN := n_jLat_charAt_v696_an) (OT := [o_jLat_charAt_v696_0]) 0 200 (List.forall_mem_cons.mpr ⟨oo_jLat_charAt_v696_0, List.forall_mem_nil _⟩) (by decide +kernel) ⟨List.forall_mem_nil _, List.forall_mem_nil _, List.forall_mem_cons.mpr ⟨cl_static (y := y_jStr_checkIndex) c_jStr_checkIndex_v296 wm_694 wm_11 wm_692 wm_693 ⟨by decide, by decide, by decide +kernel⟩ (by decide), List.forall_mem_cons.mpr ⟨cl_tlen (i := 38) (n := 4) rfl (by decide +kernel) (by decide +kernel) (by decide +kernel), List.forall_mem_cons.mpr ⟨cl_tbyte1 (i := 38) (n := 4) (k := 1) rfl (by decide +kernel) (by decide +kernel) (by decide) (by decide +kernel), List.forall_mem_nil _⟩⟩⟩, List.forall_mem_nil _, List.forall_mem_nil _, GG_pl⟩ (by decide +kernel)
def e_jLat_charAt_v698 : en_T := ([(2, 0, 0, [5238]), (0, 2, 2, [])], some (0, 0, 65535, []), true, 3, 0, 0, [], [], (0, [], [], [(23, [2], [110, 1]), (23, [2], [-110, -1])], []))
def o_jLat_charAt_v698_0 : or_T := (14, 7, [(3, (0, 110, 110, [])), (5, (0, 0, 110, [])), (6, (0, 0, 65535, []))], [(22, [6, 5], []), (12, [5, 3], [256])], [], [], [(23, [6], [110, 1]), (23, [6], [-110, -1])], [], [])
theorem oo_jLat_charAt_v698_0 {kA : Nat → ClassId} : or_ok PRD kA GG o_jLat_charAt_v698_0 := by
  refine or_mk fun A ta ws vs hD hth hl => ?_
  intro t3 k3 t5 k5 t6 k6 f0 f1
  replace f0 := shm_47 f0
  replace f1 := shm_52 f1
  have nf0 : fc_1 PRD (23, [6], [110, 1]) ws (vs) := by
    refine ⟨nf_in hl rfl, sgq_53 ?_⟩
    · show 1 * v_iv (n_v vs 6) + 0 ≤ 110
      omega
  have nf1 : fc_1 PRD (23, [6], [-110, -1]) ws (vs) := by
    refine ⟨nf_in hl rfl, sgq_54 ?_⟩
    · show (-1) * v_iv (n_v vs 6) + 0 ≤ (-110)
      omega
  refine ⟨(fun _ h => (by cases h)), [], trivial, ?_, (fun _ h => (by cases h))⟩
  rw [List.append_nil]
  exact List.forall_mem_cons.mpr ⟨⟨show (23 : Nat) < 100 from by decide, nf0⟩, List.forall_mem_cons.mpr ⟨⟨show (23 : Nat) < 100 from by decide, nf1⟩, (fun _ h => (by cases h))⟩⟩
def n_jLat_charAt_v698_an : List an_T := []
def t_jLat_charAt_v698_ct : ct_L := [(12, 9, e_jStr_checkIndex_v300), (1000004, 0, en_ro [(2, 0, 0, [5238])] (0, 4, 4, [])), (1000005, 0, en_ro [(2, 0, 0, [5238]), (0, 2, 2, [])] (0, 110, 110, []))]
set_option maxRecDepth 100000 in
theorem c_jLat_charAt_v698 {l : Launch} {D : va_G} {kA : Nat → ClassId} : ct_ok PRD l D kA GG y_jLat_charAt z_jLat_charAt e_jLat_charAt_v698 := chk_all_ok (FT := []) (PT := []) (CT := t_jLat_charAt_v698_ct) (KT := []) (NT := []) (AN := n_jLat_charAt_v698_an) (OT := [o_jLat_charAt_v698_0]) 0 200 (List.forall_mem_cons.mpr ⟨oo_jLat_charAt_v698_0, List.forall_mem_nil _⟩) (by decide +kernel) ⟨List.forall_mem_nil _, List.forall_mem_nil _, List.forall_mem_cons.mpr ⟨cl_static (y := y_jStr_checkIndex) c_jStr_checkIndex_v300 wm_694 wm_11 wm_692 wm_693 ⟨by decide, by decide, by decide +kernel⟩ (by decide), List.forall_mem_cons.mpr ⟨cl_tlen (i := 38) (n := 4) rfl (by decide +kernel) (by decide +kernel) (by decide +kernel), List.forall_mem_cons.mpr ⟨cl_tbyte1 (i := 38) (n := 4) (k := 2) rfl (by decide +kernel) (by decide +kernel) (by decide) (by decide +kernel), List.forall_mem_nil _⟩⟩⟩, List.forall_mem_nil _, List.forall_mem_nil _, GG_pl⟩ (by decide +kernel)
def e_jLat_charAt_v700 : en_T := ([(2, 0, 0, [5238]), (0, 3, 3, [])], some (0, 0, 65535, []), true, 3, 0, 0, [], [], (0, [], [], [(23, [2], [103, 1]), (23, [2], [-103, -1])], []))
def o_jLat_charAt_v700_0 : or_T := (14, 7, [(3, (0, 103, 103, [])), (5, (0, 0, 103, [])), (6, (0, 0, 65535, []))], [(22, [6, 5], []), (12, [5, 3], [256])], [], [], [(23, [6], [103, 1]), (23, [6], [-103, -1])], [], [])
theorem oo_jLat_charAt_v700_0 {kA : Nat → ClassId} : or_ok PRD kA GG o_jLat_charAt_v700_0 := by
  refine or_mk fun A ta ws vs hD hth hl => ?_
  intro t3 k3 t5 k5 t6 k6 f0 f1
  replace f0 := shm_47 f0
  replace f1 := shm_52 f1
  have nf0 : fc_1 PRD (23, [6], [103, 1]) ws (vs) := by
    refine ⟨nf_in hl rfl, sgq_61 ?_⟩
    · show 1 * v_iv (n_v vs 6) + 0 ≤ 103
      omega
  have nf1 : fc_1 PRD (23, [6], [-103, -1]) ws (vs) := by
    refine ⟨nf_in hl rfl, sgq_62 ?_⟩
    · show (-1) * v_iv (n_v vs 6) + 0 ≤ (-103)
      omega
  refine ⟨(fun _ h => (by cases h)), [], trivial, ?_, (fun _ h => (by cases h))⟩
  rw [List.append_nil]
  exact List.forall_mem_cons.mpr ⟨⟨show (23 : Nat) < 100 from by decide, nf0⟩, List.forall_mem_cons.mpr ⟨⟨show (23 : Nat) < 100 from by decide, nf1⟩, (fun _ h => (by cases h))⟩⟩
def n_jLat_charAt_v700_an : List an_T := []
def t_jLat_charAt_v700_ct : ct_L := [(12, 9, e_jStr_checkIndex_v304), (1000004, 0, en_ro [(2, 0, 0, [5238])] (0, 4, 4, [])), (1000005, 0, en_ro [(2, 0, 0, [5238]), (0, 3, 3, [])] (0, 103, 103, []))]
set_option maxRecDepth 100000 in
theorem c_jLat_charAt_v700 {l : Launch} {D : va_G} {kA : Nat → ClassId} : ct_ok PRD l D kA GG y_jLat_charAt z_jLat_charAt e_jLat_charAt_v700 := chk_all_ok (FT := []) (PT := []) (CT := t_jLat_charAt_v700_ct) (KT := []) (NT := []) (AN := n_jLat_charAt_v700_an) (OT := [o_jLat_charAt_v700_0]) 0 200 (List.forall_mem_cons.mpr ⟨oo_jLat_charAt_v700_0, List.forall_mem_nil _⟩) (by decide +kernel) ⟨List.forall_mem_nil _, List.forall_mem_nil _, List.forall_mem_cons.mpr ⟨cl_static (y := y_jStr_checkIndex) c_jStr_checkIndex_v304 wm_694 wm_11 wm_692 wm_693 ⟨by decide, by decide, by decide +kernel⟩ (by decide), List.forall_mem_cons.mpr ⟨cl_tlen (i := 38) (n := 4) rfl (by decide +kernel) (by decide +kernel) (by decide +kernel), List.forall_mem_cons.mpr ⟨cl_tbyte1 (i := 38) (n := 4) (k := 3) rfl (by decide +kernel) (by decide +kernel) (by decide) (by decide +kernel), List.forall_mem_nil _⟩⟩⟩, List.forall_mem_nil _, List.forall_mem_nil _, GG_pl⟩ (by decide +kernel)
def e_jLat_charAt_v703 : en_T := ([(2, 0, 0, [5239]), (0, 0, 0, [])], some (0, 0, 65535, []), true, 3, 0, 0, [], [], (0, [], [], [(23, [2], [111, 1]), (23, [2], [-111, -1])], []))
def o_jLat_charAt_v703_0 : or_T := (14, 7, [(3, (0, 111, 111, [])), (5, (0, 0, 111, [])), (6, (0, 0, 65535, []))], [(22, [6, 5], []), (12, [5, 3], [256])], [], [], [(23, [6], [111, 1]), (23, [6], [-111, -1])], [], [])
theorem oo_jLat_charAt_v703_0 {kA : Nat → ClassId} : or_ok PRD kA GG o_jLat_charAt_v703_0 := by
  refine or_mk fun A ta ws vs hD hth hl => ?_
  intro t3 k3 t5 k5 t6 k6 f0 f1
  replace f0 := shm_47 f0
  replace f1 := shm_52 f1
  have nf0 : fc_1 PRD (23, [6], [111, 1]) ws (vs) := by
    refine ⟨nf_in hl rfl, sgq_55 ?_⟩
    · show 1 * v_iv (n_v vs 6) + 0 ≤ 111
      omega
  have nf1 : fc_1 PRD (23, [6], [-111, -1]) ws (vs) := by
    refine ⟨nf_in hl rfl, sgq_56 ?_⟩
    · show (-1) * v_iv (n_v vs 6) + 0 ≤ (-111)
      omega
  refine ⟨(fun _ h => (by cases h)), [], trivial, ?_, (fun _ h => (by cases h))⟩
  rw [List.append_nil]
  exact List.forall_mem_cons.mpr ⟨⟨show (23 : Nat) < 100 from by decide, nf0⟩, List.forall_mem_cons.mpr ⟨⟨show (23 : Nat) < 100 from by decide, nf1⟩, (fun _ h => (by cases h))⟩⟩
def n_jLat_charAt_v703_an : List an_T := []
def t_jLat_charAt_v703_ct : ct_L := [(12, 9, e_jStr_checkIndex_v457), (1000004, 0, en_ro [(2, 0, 0, [5239])] (0, 3, 3, [])), (1000005, 0, en_ro [(2, 0, 0, [5239]), (0, 0, 0, [])] (0, 111, 111, []))]
set_option maxRecDepth 100000 in
theorem c_jLat_charAt_v703 {l : Launch} {D : va_G} {kA : Nat → ClassId} : ct_ok PRD l D kA GG y_jLat_charAt z_jLat_charAt e_jLat_charAt_v703 := chk_all_ok (FT := []) (PT := []) (CT := t_jLat_charAt_v703_ct) (KT := []) (NT := []) (AN := n_jLat_charAt_v703_an) (OT := [o_jLat_charAt_v703_0]) 0 200 (List.forall_mem_cons.mpr ⟨oo_jLat_charAt_v703_0, List.forall_mem_nil _⟩) (by decide +kernel) ⟨List.forall_mem_nil _, List.forall_mem_nil _, List.forall_mem_cons.mpr ⟨cl_static (y := y_jStr_checkIndex) c_jStr_checkIndex_v457 wm_694 wm_11 wm_692 wm_693 ⟨by decide, by decide, by decide +kernel⟩ (by decide), List.forall_mem_cons.mpr ⟨cl_tlen (i := 39) (n := 3) rfl (by decide +kernel) (by decide +kernel) (by decide +kernel), List.forall_mem_cons.mpr ⟨cl_tbyte1 (i := 39) (n := 3) (k := 0) rfl (by decide +kernel) (by decide +kernel) (by decide) (by decide +kernel), List.forall_mem_nil _⟩⟩⟩, List.forall_mem_nil _, List.forall_mem_nil _, GG_pl⟩ (by decide +kernel)
def e_jLat_charAt_v705 : en_T := ([(2, 0, 0, [5239]), (0, 1, 1, [])], some (0, 0, 65535, []), true, 3, 0, 0, [], [], (0, [], [], [(23, [2], [110, 1]), (23, [2], [-110, -1])], []))
def o_jLat_charAt_v705_0 : or_T := (14, 7, [(3, (0, 110, 110, [])), (5, (0, 0, 110, [])), (6, (0, 0, 65535, []))], [(22, [6, 5], []), (12, [5, 3], [256])], [], [], [(23, [6], [110, 1]), (23, [6], [-110, -1])], [], [])
theorem oo_jLat_charAt_v705_0 {kA : Nat → ClassId} : or_ok PRD kA GG o_jLat_charAt_v705_0 := by
  refine or_mk fun A ta ws vs hD hth hl => ?_
  intro t3 k3 t5 k5 t6 k6 f0 f1
  replace f0 := shm_47 f0
  replace f1 := shm_52 f1
  have nf0 : fc_1 PRD (23, [6], [110, 1]) ws (vs) := by
    refine ⟨nf_in hl rfl, sgq_53 ?_⟩
    · show 1 * v_iv (n_v vs 6) + 0 ≤ 110
      omega
  have nf1 : fc_1 PRD (23, [6], [-110, -1]) ws (vs) := by
    refine ⟨nf_in hl rfl, sgq_54 ?_⟩
    · show (-1) * v_iv (n_v vs 6) + 0 ≤ (-110)
      omega
  refine ⟨(fun _ h => (by cases h)), [], trivial, ?_, (fun _ h => (by cases h))⟩
  rw [List.append_nil]
  exact List.forall_mem_cons.mpr ⟨⟨show (23 : Nat) < 100 from by decide, nf0⟩, List.forall_mem_cons.mpr ⟨⟨show (23 : Nat) < 100 from by decide, nf1⟩, (fun _ h => (by cases h))⟩⟩
def n_jLat_charAt_v705_an : List an_T := []
def t_jLat_charAt_v705_ct : ct_L := [(12, 9, e_jStr_checkIndex_v461), (1000004, 0, en_ro [(2, 0, 0, [5239])] (0, 3, 3, [])), (1000005, 0, en_ro [(2, 0, 0, [5239]), (0, 1, 1, [])] (0, 110, 110, []))]
set_option maxRecDepth 100000 in
theorem c_jLat_charAt_v705 {l : Launch} {D : va_G} {kA : Nat → ClassId} : ct_ok PRD l D kA GG y_jLat_charAt z_jLat_charAt e_jLat_charAt_v705 := chk_all_ok (FT := []) (PT := []) (CT := t_jLat_charAt_v705_ct) (KT := []) (NT := []) (AN := n_jLat_charAt_v705_an) (OT := [o_jLat_charAt_v705_0]) 0 200 (List.forall_mem_cons.mpr ⟨oo_jLat_charAt_v705_0, List.forall_mem_nil _⟩) (by decide +kernel) ⟨List.forall_mem_nil _, List.forall_mem_nil _, List.forall_mem_cons.mpr ⟨cl_static (y := y_jStr_checkIndex) c_jStr_checkIndex_v461 wm_694 wm_11 wm_692 wm_693 ⟨by decide, by decide, by decide +kernel⟩ (by decide), List.forall_mem_cons.mpr ⟨cl_tlen (i := 39) (n := 3) rfl (by decide +kernel) (by decide +kernel) (by decide +kernel), List.forall_mem_cons.mpr ⟨cl_tbyte1 (i := 39) (n := 3) (k := 1) rfl (by decide +kernel) (by decide +kernel) (by decide) (by decide +kernel), List.forall_mem_nil _⟩⟩⟩, List.forall_mem_nil _, List.forall_mem_nil _, GG_pl⟩ (by decide +kernel)
def e_jLat_charAt_v707 : en_T := ([(2, 0, 0, [5239]), (0, 2, 2, [])], some (0, 0, 65535, []), true, 3, 0, 0, [], [], (0, [], [], [(23, [2], [101, 1]), (23, [2], [-101, -1])], []))
def o_jLat_charAt_v707_0 : or_T := (14, 7, [(3, (0, 101, 101, [])), (5, (0, 0, 101, [])), (6, (0, 0, 65535, []))], [(22, [6, 5], []), (12, [5, 3], [256])], [], [], [(23, [6], [101, 1]), (23, [6], [-101, -1])], [], [])
theorem oo_jLat_charAt_v707_0 {kA : Nat → ClassId} : or_ok PRD kA GG o_jLat_charAt_v707_0 := by
  refine or_mk fun A ta ws vs hD hth hl => ?_
  intro t3 k3 t5 k5 t6 k6 f0 f1
  replace f0 := shm_47 f0
  replace f1 := shm_52 f1
  have nf0 : fc_1 PRD (23, [6], [101, 1]) ws (vs) := by
    refine ⟨nf_in hl rfl, sgq_59 ?_⟩
    · show 1 * v_iv (n_v vs 6) + 0 ≤ 101
      omega
  have nf1 : fc_1 PRD (23, [6], [-101, -1]) ws (vs) := by
    refine ⟨nf_in hl rfl, sgq_60 ?_⟩
    · show (-1) * v_iv (n_v vs 6) + 0 ≤ (-101)
      omega
  refine ⟨(fun _ h => (by cases h)), [], trivial, ?_, (fun _ h => (by cases h))⟩
  rw [List.append_nil]
  exact List.forall_mem_cons.mpr ⟨⟨show (23 : Nat) < 100 from by decide, nf0⟩, List.forall_mem_cons.mpr ⟨⟨show (23 : Nat) < 100 from by decide, nf1⟩, (fun _ h => (by cases h))⟩⟩
def n_jLat_charAt_v707_an : List an_T := []
def t_jLat_charAt_v707_ct : ct_L := [(12, 9, e_jStr_checkIndex_v465), (1000004, 0, en_ro [(2, 0, 0, [5239])] (0, 3, 3, [])), (1000005, 0, en_ro [(2, 0, 0, [5239]), (0, 2, 2, [])] (0, 101, 101, []))]
set_option maxRecDepth 100000 in
theorem c_jLat_charAt_v707 {l : Launch} {D : va_G} {kA : Nat → ClassId} : ct_ok PRD l D kA GG y_jLat_charAt z_jLat_charAt e_jLat_charAt_v707 := chk_all_ok (FT := []) (PT := []) (CT := t_jLat_charAt_v707_ct) (KT := []) (NT := []) (AN := n_jLat_charAt_v707_an) (OT := [o_jLat_charAt_v707_0]) 0 200 (List.forall_mem_cons.mpr ⟨oo_jLat_charAt_v707_0, List.forall_mem_nil _⟩) (by decide +kernel) ⟨List.forall_mem_nil _, List.forall_mem_nil _, List.forall_mem_cons.mpr ⟨cl_static (y := y_jStr_checkIndex) c_jStr_checkIndex_v465 wm_694 wm_11 wm_692 wm_693 ⟨by decide, by decide, by decide +kernel⟩ (by decide), List.forall_mem_cons.mpr ⟨cl_tlen (i := 39) (n := 3) rfl (by decide +kernel) (by decide +kernel) (by decide +kernel), List.forall_mem_cons.mpr ⟨cl_tbyte1 (i := 39) (n := 3) (k := 2) rfl (by decide +kernel) (by decide +kernel) (by decide) (by decide +kernel), List.forall_mem_nil _⟩⟩⟩, List.forall_mem_nil _, List.forall_mem_nil _, GG_pl⟩ (by decide +kernel)
def e_jLat_charAt_v710 : en_T := ([(2, 0, 0, [5240]), (0, 0, 0, [])], some (0, 0, 65535, []), true, 3, 0, 0, [], [], (0, [], [], [(23, [2], [97, 1]), (23, [2], [-97, -1])], []))
def o_jLat_charAt_v710_0 : or_T := (14, 7, [(3, (0, 97, 97, [])), (5, (0, 0, 97, [])), (6, (0, 0, 65535, []))], [(22, [6, 5], []), (12, [5, 3], [256])], [], [], [(23, [6], [97, 1]), (23, [6], [-97, -1])], [], [])
theorem oo_jLat_charAt_v710_0 {kA : Nat → ClassId} : or_ok PRD kA GG o_jLat_charAt_v710_0 := by
  refine or_mk fun A ta ws vs hD hth hl => ?_
  intro t3 k3 t5 k5 t6 k6 f0 f1
  replace f0 := shm_47 f0
  replace f1 := shm_52 f1
  have nf0 : fc_1 PRD (23, [6], [97, 1]) ws (vs) := by
    refine ⟨nf_in hl rfl, sgq_85 ?_⟩
    · show 1 * v_iv (n_v vs 6) + 0 ≤ 97
      omega
  have nf1 : fc_1 PRD (23, [6], [-97, -1]) ws (vs) := by
    refine ⟨nf_in hl rfl, sgq_86 ?_⟩
    · show (-1) * v_iv (n_v vs 6) + 0 ≤ (-97)
      omega
  refine ⟨(fun _ h => (by cases h)), [], trivial, ?_, (fun _ h => (by cases h))⟩
  rw [List.append_nil]
  exact List.forall_mem_cons.mpr ⟨⟨show (23 : Nat) < 100 from by decide, nf0⟩, List.forall_mem_cons.mpr ⟨⟨show (23 : Nat) < 100 from by decide, nf1⟩, (fun _ h => (by cases h))⟩⟩
def n_jLat_charAt_v710_an : List an_T := []
def t_jLat_charAt_v710_ct : ct_L := [(12, 9, e_jStr_checkIndex_v457), (1000004, 0, en_ro [(2, 0, 0, [5240])] (0, 3, 3, [])), (1000005, 0, en_ro [(2, 0, 0, [5240]), (0, 0, 0, [])] (0, 97, 97, []))]
set_option maxRecDepth 100000 in
theorem c_jLat_charAt_v710 {l : Launch} {D : va_G} {kA : Nat → ClassId} : ct_ok PRD l D kA GG y_jLat_charAt z_jLat_charAt e_jLat_charAt_v710 := chk_all_ok (FT := []) (PT := []) (CT := t_jLat_charAt_v710_ct) (KT := []) (NT := []) (AN := n_jLat_charAt_v710_an) (OT := [o_jLat_charAt_v710_0]) 0 200 (List.forall_mem_cons.mpr ⟨oo_jLat_charAt_v710_0, List.forall_mem_nil _⟩) (by decide +kernel) ⟨List.forall_mem_nil _, List.forall_mem_nil _, List.forall_mem_cons.mpr ⟨cl_static (y := y_jStr_checkIndex) c_jStr_checkIndex_v457 wm_694 wm_11 wm_692 wm_693 ⟨by decide, by decide, by decide +kernel⟩ (by decide), List.forall_mem_cons.mpr ⟨cl_tlen (i := 40) (n := 3) rfl (by decide +kernel) (by decide +kernel) (by decide +kernel), List.forall_mem_cons.mpr ⟨cl_tbyte1 (i := 40) (n := 3) (k := 0) rfl (by decide +kernel) (by decide +kernel) (by decide) (by decide +kernel), List.forall_mem_nil _⟩⟩⟩, List.forall_mem_nil _, List.forall_mem_nil _, GG_pl⟩ (by decide +kernel)
def e_jLat_charAt_v712 : en_T := ([(2, 0, 0, [5240]), (0, 1, 1, [])], some (0, 0, 65535, []), true, 3, 0, 0, [], [], (0, [], [], [(23, [2], [110, 1]), (23, [2], [-110, -1])], []))
def o_jLat_charAt_v712_0 : or_T := (14, 7, [(3, (0, 110, 110, [])), (5, (0, 0, 110, [])), (6, (0, 0, 65535, []))], [(22, [6, 5], []), (12, [5, 3], [256])], [], [], [(23, [6], [110, 1]), (23, [6], [-110, -1])], [], [])
theorem oo_jLat_charAt_v712_0 {kA : Nat → ClassId} : or_ok PRD kA GG o_jLat_charAt_v712_0 := by
  refine or_mk fun A ta ws vs hD hth hl => ?_
  intro t3 k3 t5 k5 t6 k6 f0 f1
  replace f0 := shm_47 f0
  replace f1 := shm_52 f1
  have nf0 : fc_1 PRD (23, [6], [110, 1]) ws (vs) := by
    refine ⟨nf_in hl rfl, sgq_53 ?_⟩
    · show 1 * v_iv (n_v vs 6) + 0 ≤ 110
      omega
  have nf1 : fc_1 PRD (23, [6], [-110, -1]) ws (vs) := by
    refine ⟨nf_in hl rfl, sgq_54 ?_⟩
    · show (-1) * v_iv (n_v vs 6) + 0 ≤ (-110)
      omega
  refine ⟨(fun _ h => (by cases h)), [], trivial, ?_, (fun _ h => (by cases h))⟩
  rw [List.append_nil]
  exact List.forall_mem_cons.mpr ⟨⟨show (23 : Nat) < 100 from by decide, nf0⟩, List.forall_mem_cons.mpr ⟨⟨show (23 : Nat) < 100 from by decide, nf1⟩, (fun _ h => (by cases h))⟩⟩
def n_jLat_charAt_v712_an : List an_T := []
def t_jLat_charAt_v712_ct : ct_L := [(12, 9, e_jStr_checkIndex_v461), (1000004, 0, en_ro [(2, 0, 0, [5240])] (0, 3, 3, [])), (1000005, 0, en_ro [(2, 0, 0, [5240]), (0, 1, 1, [])] (0, 110, 110, []))]
set_option maxRecDepth 100000 in
theorem c_jLat_charAt_v712 {l : Launch} {D : va_G} {kA : Nat → ClassId} : ct_ok PRD l D kA GG y_jLat_charAt z_jLat_charAt e_jLat_charAt_v712 := chk_all_ok (FT := []) (PT := []) (CT := t_jLat_charAt_v712_ct) (KT := []) (NT := []) (AN := n_jLat_charAt_v712_an) (OT := [o_jLat_charAt_v712_0]) 0 200 (List.forall_mem_cons.mpr ⟨oo_jLat_charAt_v712_0, List.forall_mem_nil _⟩) (by decide +kernel) ⟨List.forall_mem_nil _, List.forall_mem_nil _, List.forall_mem_cons.mpr ⟨cl_static (y := y_jStr_checkIndex) c_jStr_checkIndex_v461 wm_694 wm_11 wm_692 wm_693 ⟨by decide, by decide, by decide +kernel⟩ (by decide), List.forall_mem_cons.mpr ⟨cl_tlen (i := 40) (n := 3) rfl (by decide +kernel) (by decide +kernel) (by decide +kernel), List.forall_mem_cons.mpr ⟨cl_tbyte1 (i := 40) (n := 3) (k := 1) rfl (by decide +kernel) (by decide +kernel) (by decide) (by decide +kernel), List.forall_mem_nil _⟩⟩⟩, List.forall_mem_nil _, List.forall_mem_nil _, GG_pl⟩ (by decide +kernel)
def e_jLat_charAt_v714 : en_T := ([(2, 0, 0, [5240]), (0, 2, 2, [])], some (0, 0, 65535, []), true, 3, 0, 0, [], [], (0, [], [], [(23, [2], [100, 1]), (23, [2], [-100, -1])], []))
def o_jLat_charAt_v714_0 : or_T := (14, 7, [(3, (0, 100, 100, [])), (5, (0, 0, 100, [])), (6, (0, 0, 65535, []))], [(22, [6, 5], []), (12, [5, 3], [256])], [], [], [(23, [6], [100, 1]), (23, [6], [-100, -1])], [], [])
theorem oo_jLat_charAt_v714_0 {kA : Nat → ClassId} : or_ok PRD kA GG o_jLat_charAt_v714_0 := by
  refine or_mk fun A ta ws vs hD hth hl => ?_
  intro t3 k3 t5 k5 t6 k6 f0 f1
  replace f0 := shm_47 f0
  replace f1 := shm_52 f1
  have nf0 : fc_1 PRD (23, [6], [100, 1]) ws (vs) := by
    refine ⟨nf_in hl rfl, sgq_57 ?_⟩
    · show 1 * v_iv (n_v vs 6) + 0 ≤ 100
      omega
  have nf1 : fc_1 PRD (23, [6], [-100, -1]) ws (vs) := by
    refine ⟨nf_in hl rfl, sgq_58 ?_⟩
    · show (-1) * v_iv (n_v vs 6) + 0 ≤ (-100)
      omega
  refine ⟨(fun _ h => (by cases h)), [], trivial, ?_, (fun _ h => (by cases h))⟩
  rw [List.append_nil]
  exact List.forall_mem_cons.mpr ⟨⟨show (23 : Nat) < 100 from by decide, nf0⟩, List.forall_mem_cons.mpr ⟨⟨show (23 : Nat) < 100 from by decide, nf1⟩, (fun _ h => (by cases h))⟩⟩
def n_jLat_charAt_v714_an : List an_T := []
def t_jLat_charAt_v714_ct : ct_L := [(12, 9, e_jStr_checkIndex_v465), (1000004, 0, en_ro [(2, 0, 0, [5240])] (0, 3, 3, [])), (1000005, 0, en_ro [(2, 0, 0, [5240]), (0, 2, 2, [])] (0, 100, 100, []))]
set_option maxRecDepth 100000 in
theorem c_jLat_charAt_v714 {l : Launch} {D : va_G} {kA : Nat → ClassId} : ct_ok PRD l D kA GG y_jLat_charAt z_jLat_charAt e_jLat_charAt_v714 := chk_all_ok (FT := []) (PT := []) (CT := t_jLat_charAt_v714_ct) (KT := []) (NT := []) (AN := n_jLat_charAt_v714_an) (OT := [o_jLat_charAt_v714_0]) 0 200 (List.forall_mem_cons.mpr ⟨oo_jLat_charAt_v714_0, List.forall_mem_nil _⟩) (by decide +kernel) ⟨List.forall_mem_nil _, List.forall_mem_nil _, List.forall_mem_cons.mpr ⟨cl_static (y := y_jStr_checkIndex) c_jStr_checkIndex_v465 wm_694 wm_11 wm_692 wm_693 ⟨by decide, by decide, by decide +kernel⟩ (by decide), List.forall_mem_cons.mpr ⟨cl_tlen (i := 40) (n := 3) rfl (by decide +kernel) (by decide +kernel) (by decide +kernel), List.forall_mem_cons.mpr ⟨cl_tbyte1 (i := 40) (n := 3) (k := 2) rfl (by decide +kernel) (by decide +kernel) (by decide) (by decide +kernel), List.forall_mem_nil _⟩⟩⟩, List.forall_mem_nil _, List.forall_mem_nil _, GG_pl⟩ (by decide +kernel)
def e_jLat_charAt_v717 : en_T := ([(2, 0, 0, [5241]), (0, 0, 0, [])], some (0, 0, 65535, []), true, 3, 0, 0, [], [], (0, [], [], [(23, [2], [111, 1]), (23, [2], [-111, -1])], []))
def o_jLat_charAt_v717_0 : or_T := (14, 7, [(3, (0, 111, 111, [])), (5, (0, 0, 111, [])), (6, (0, 0, 65535, []))], [(22, [6, 5], []), (12, [5, 3], [256])], [], [], [(23, [6], [111, 1]), (23, [6], [-111, -1])], [], [])
theorem oo_jLat_charAt_v717_0 {kA : Nat → ClassId} : or_ok PRD kA GG o_jLat_charAt_v717_0 := by
  refine or_mk fun A ta ws vs hD hth hl => ?_
  intro t3 k3 t5 k5 t6 k6 f0 f1
  replace f0 := shm_47 f0
  replace f1 := shm_52 f1
  have nf0 : fc_1 PRD (23, [6], [111, 1]) ws (vs) := by
    refine ⟨nf_in hl rfl, sgq_55 ?_⟩
    · show 1 * v_iv (n_v vs 6) + 0 ≤ 111
      omega
  have nf1 : fc_1 PRD (23, [6], [-111, -1]) ws (vs) := by
    refine ⟨nf_in hl rfl, sgq_56 ?_⟩
    · show (-1) * v_iv (n_v vs 6) + 0 ≤ (-111)
      omega
  refine ⟨(fun _ h => (by cases h)), [], trivial, ?_, (fun _ h => (by cases h))⟩
  rw [List.append_nil]
  exact List.forall_mem_cons.mpr ⟨⟨show (23 : Nat) < 100 from by decide, nf0⟩, List.forall_mem_cons.mpr ⟨⟨show (23 : Nat) < 100 from by decide, nf1⟩, (fun _ h => (by cases h))⟩⟩
def n_jLat_charAt_v717_an : List an_T := []
def t_jLat_charAt_v717_ct : ct_L := [(12, 9, e_jStr_checkIndex_v578), (1000004, 0, en_ro [(2, 0, 0, [5241])] (0, 2, 2, [])), (1000005, 0, en_ro [(2, 0, 0, [5241]), (0, 0, 0, [])] (0, 111, 111, []))]
set_option maxRecDepth 100000 in
theorem c_jLat_charAt_v717 {l : Launch} {D : va_G} {kA : Nat → ClassId} : ct_ok PRD l D kA GG y_jLat_charAt z_jLat_charAt e_jLat_charAt_v717 := chk_all_ok (FT := []) (PT := []) (CT := t_jLat_charAt_v717_ct) (KT := []) (NT := []) (AN := n_jLat_charAt_v717_an) (OT := [o_jLat_charAt_v717_0]) 0 200 (List.forall_mem_cons.mpr ⟨oo_jLat_charAt_v717_0, List.forall_mem_nil _⟩) (by decide +kernel) ⟨List.forall_mem_nil _, List.forall_mem_nil _, List.forall_mem_cons.mpr ⟨cl_static (y := y_jStr_checkIndex) c_jStr_checkIndex_v578 wm_694 wm_11 wm_692 wm_693 ⟨by decide, by decide, by decide +kernel⟩ (by decide), List.forall_mem_cons.mpr ⟨cl_tlen (i := 41) (n := 2) rfl (by decide +kernel) (by decide +kernel) (by decide +kernel), List.forall_mem_cons.mpr ⟨cl_tbyte1 (i := 41) (n := 2) (k := 0) rfl (by decide +kernel) (by decide +kernel) (by decide) (by decide +kernel), List.forall_mem_nil _⟩⟩⟩, List.forall_mem_nil _, List.forall_mem_nil _, GG_pl⟩ (by decide +kernel)
def e_jLat_charAt_v719 : en_T := ([(2, 0, 0, [5241]), (0, 1, 1, [])], some (0, 0, 65535, []), true, 3, 0, 0, [], [], (0, [], [], [(23, [2], [114, 1]), (23, [2], [-114, -1])], []))
def o_jLat_charAt_v719_0 : or_T := (14, 7, [(3, (0, 114, 114, [])), (5, (0, 0, 114, [])), (6, (0, 0, 65535, []))], [(22, [6, 5], []), (12, [5, 3], [256])], [], [], [(23, [6], [114, 1]), (23, [6], [-114, -1])], [], [])
theorem oo_jLat_charAt_v719_0 {kA : Nat → ClassId} : or_ok PRD kA GG o_jLat_charAt_v719_0 := by
  refine or_mk fun A ta ws vs hD hth hl => ?_
  intro t3 k3 t5 k5 t6 k6 f0 f1
  replace f0 := shm_47 f0
  replace f1 := shm_52 f1
  have nf0 : fc_1 PRD (23, [6], [114, 1]) ws (vs) := by
    refine ⟨nf_in hl rfl, sgq_63 ?_⟩
    · show 1 * v_iv (n_v vs 6) + 0 ≤ 114
      omega
  have nf1 : fc_1 PRD (23, [6], [-114, -1]) ws (vs) := by
    refine ⟨nf_in hl rfl, sgq_64 ?_⟩
    · show (-1) * v_iv (n_v vs 6) + 0 ≤ (-114)
      omega
  refine ⟨(fun _ h => (by cases h)), [], trivial, ?_, (fun _ h => (by cases h))⟩
  rw [List.append_nil]
  exact List.forall_mem_cons.mpr ⟨⟨show (23 : Nat) < 100 from by decide, nf0⟩, List.forall_mem_cons.mpr ⟨⟨show (23 : Nat) < 100 from by decide, nf1⟩, (fun _ h => (by cases h))⟩⟩
def n_jLat_charAt_v719_an : List an_T := []
def t_jLat_charAt_v719_ct : ct_L := [(12, 9, e_jStr_checkIndex_v582), (1000004, 0, en_ro [(2, 0, 0, [5241])] (0, 2, 2, [])), (1000005, 0, en_ro [(2, 0, 0, [5241]), (0, 1, 1, [])] (0, 114, 114, []))]
set_option maxRecDepth 100000 in
theorem c_jLat_charAt_v719 {l : Launch} {D : va_G} {kA : Nat → ClassId} : ct_ok PRD l D kA GG y_jLat_charAt z_jLat_charAt e_jLat_charAt_v719 := chk_all_ok (FT := []) (PT := []) (CT := t_jLat_charAt_v719_ct) (KT := []) (NT := []) (AN := n_jLat_charAt_v719_an) (OT := [o_jLat_charAt_v719_0]) 0 200 (List.forall_mem_cons.mpr ⟨oo_jLat_charAt_v719_0, List.forall_mem_nil _⟩) (by decide +kernel) ⟨List.forall_mem_nil _, List.forall_mem_nil _, List.forall_mem_cons.mpr ⟨cl_static (y := y_jStr_checkIndex) c_jStr_checkIndex_v582 wm_694 wm_11 wm_692 wm_693 ⟨by decide, by decide, by decide +kernel⟩ (by decide), List.forall_mem_cons.mpr ⟨cl_tlen (i := 41) (n := 2) rfl (by decide +kernel) (by decide +kernel) (by decide +kernel), List.forall_mem_cons.mpr ⟨cl_tbyte1 (i := 41) (n := 2) (k := 1) rfl (by decide +kernel) (by decide +kernel) (by decide) (by decide +kernel), List.forall_mem_nil _⟩⟩⟩, List.forall_mem_nil _, List.forall_mem_nil _, GG_pl⟩ (by decide +kernel)
def e_jLat_charAt_v722 : en_T := ([(2, 0, 0, [5242]), (0, 0, 0, [])], some (0, 0, 65535, []), true, 3, 0, 0, [], [], (0, [], [], [(23, [2], [99, 1]), (23, [2], [-99, -1])], []))
def o_jLat_charAt_v722_0 : or_T := (14, 7, [(3, (0, 99, 99, [])), (5, (0, 0, 99, [])), (6, (0, 0, 65535, []))], [(22, [6, 5], []), (12, [5, 3], [256])], [], [], [(23, [6], [99, 1]), (23, [6], [-99, -1])], [], [])
theorem oo_jLat_charAt_v722_0 {kA : Nat → ClassId} : or_ok PRD kA GG o_jLat_charAt_v722_0 := by
  refine or_mk fun A ta ws vs hD hth hl => ?_
  intro t3 k3 t5 k5 t6 k6 f0 f1
  replace f0 := shm_47 f0
  replace f1 := shm_52 f1
  have nf0 : fc_1 PRD (23, [6], [99, 1]) ws (vs) := by
    refine ⟨nf_in hl rfl, sgq_87 ?_⟩
    · show 1 * v_iv (n_v vs 6) + 0 ≤ 99
      omega
  have nf1 : fc_1 PRD (23, [6], [-99, -1]) ws (vs) := by
    refine ⟨nf_in hl rfl, sgq_88 ?_⟩
    · show (-1) * v_iv (n_v vs 6) + 0 ≤ (-99)
      omega
  refine ⟨(fun _ h => (by cases h)), [], trivial, ?_, (fun _ h => (by cases h))⟩
  rw [List.append_nil]
  exact List.forall_mem_cons.mpr ⟨⟨show (23 : Nat) < 100 from by decide, nf0⟩, List.forall_mem_cons.mpr ⟨⟨show (23 : Nat) < 100 from by decide, nf1⟩, (fun _ h => (by cases h))⟩⟩
def n_jLat_charAt_v722_an : List an_T := []
def t_jLat_charAt_v722_ct : ct_L := [(12, 9, e_jStr_checkIndex_v309), (1000004, 0, en_ro [(2, 0, 0, [5242])] (0, 5, 5, [])), (1000005, 0, en_ro [(2, 0, 0, [5242]), (0, 0, 0, [])] (0, 99, 99, []))]
set_option maxRecDepth 100000 in
theorem c_jLat_charAt_v722 {l : Launch} {D : va_G} {kA : Nat → ClassId} : ct_ok PRD l D kA GG y_jLat_charAt z_jLat_charAt e_jLat_charAt_v722 := chk_all_ok (FT := []) (PT := []) (CT := t_jLat_charAt_v722_ct) (KT := []) (NT := []) (AN := n_jLat_charAt_v722_an) (OT := [o_jLat_charAt_v722_0]) 0 200 (List.forall_mem_cons.mpr ⟨oo_jLat_charAt_v722_0, List.forall_mem_nil _⟩) (by decide +kernel) ⟨List.forall_mem_nil _, List.forall_mem_nil _, List.forall_mem_cons.mpr ⟨cl_static (y := y_jStr_checkIndex) c_jStr_checkIndex_v309 wm_694 wm_11 wm_692 wm_693 ⟨by decide, by decide, by decide +kernel⟩ (by decide), List.forall_mem_cons.mpr ⟨cl_tlen (i := 42) (n := 5) rfl (by decide +kernel) (by decide +kernel) (by decide +kernel), List.forall_mem_cons.mpr ⟨cl_tbyte1 (i := 42) (n := 5) (k := 0) rfl (by decide +kernel) (by decide +kernel) (by decide) (by decide +kernel), List.forall_mem_nil _⟩⟩⟩, List.forall_mem_nil _, List.forall_mem_nil _, GG_pl⟩ (by decide +kernel)
def e_jLat_charAt_v724 : en_T := ([(2, 0, 0, [5242]), (0, 1, 1, [])], some (0, 0, 65535, []), true, 3, 0, 0, [], [], (0, [], [], [(23, [2], [111, 1]), (23, [2], [-111, -1])], []))
def o_jLat_charAt_v724_0 : or_T := (14, 7, [(3, (0, 111, 111, [])), (5, (0, 0, 111, [])), (6, (0, 0, 65535, []))], [(22, [6, 5], []), (12, [5, 3], [256])], [], [], [(23, [6], [111, 1]), (23, [6], [-111, -1])], [], [])
theorem oo_jLat_charAt_v724_0 {kA : Nat → ClassId} : or_ok PRD kA GG o_jLat_charAt_v724_0 := by
  refine or_mk fun A ta ws vs hD hth hl => ?_
  intro t3 k3 t5 k5 t6 k6 f0 f1
  replace f0 := shm_47 f0
  replace f1 := shm_52 f1
  have nf0 : fc_1 PRD (23, [6], [111, 1]) ws (vs) := by
    refine ⟨nf_in hl rfl, sgq_55 ?_⟩
    · show 1 * v_iv (n_v vs 6) + 0 ≤ 111
      omega
  have nf1 : fc_1 PRD (23, [6], [-111, -1]) ws (vs) := by
    refine ⟨nf_in hl rfl, sgq_56 ?_⟩
    · show (-1) * v_iv (n_v vs 6) + 0 ≤ (-111)
      omega
  refine ⟨(fun _ h => (by cases h)), [], trivial, ?_, (fun _ h => (by cases h))⟩
  rw [List.append_nil]
  exact List.forall_mem_cons.mpr ⟨⟨show (23 : Nat) < 100 from by decide, nf0⟩, List.forall_mem_cons.mpr ⟨⟨show (23 : Nat) < 100 from by decide, nf1⟩, (fun _ h => (by cases h))⟩⟩
def n_jLat_charAt_v724_an : List an_T := []
def t_jLat_charAt_v724_ct : ct_L := [(12, 9, e_jStr_checkIndex_v313), (1000004, 0, en_ro [(2, 0, 0, [5242])] (0, 5, 5, [])), (1000005, 0, en_ro [(2, 0, 0, [5242]), (0, 1, 1, [])] (0, 111, 111, []))]
set_option maxRecDepth 100000 in
theorem c_jLat_charAt_v724 {l : Launch} {D : va_G} {kA : Nat → ClassId} : ct_ok PRD l D kA GG y_jLat_charAt z_jLat_charAt e_jLat_charAt_v724 := chk_all_ok (FT := []) (PT := []) (CT := t_jLat_charAt_v724_ct) (KT := []) (NT := []) (AN := n_jLat_charAt_v724_an) (OT := [o_jLat_charAt_v724_0]) 0 200 (List.forall_mem_cons.mpr ⟨oo_jLat_charAt_v724_0, List.forall_mem_nil _⟩) (by decide +kernel) ⟨List.forall_mem_nil _, List.forall_mem_nil _, List.forall_mem_cons.mpr ⟨cl_static (y := y_jStr_checkIndex) c_jStr_checkIndex_v313 wm_694 wm_11 wm_692 wm_693 ⟨by decide, by decide, by decide +kernel⟩ (by decide), List.forall_mem_cons.mpr ⟨cl_tlen (i := 42) (n := 5) rfl (by decide +kernel) (by decide +kernel) (by decide +kernel), List.forall_mem_cons.mpr ⟨cl_tbyte1 (i := 42) (n := 5) (k := 1) rfl (by decide +kernel) (by decide +kernel) (by decide) (by decide +kernel), List.forall_mem_nil _⟩⟩⟩, List.forall_mem_nil _, List.forall_mem_nil _, GG_pl⟩ (by decide +kernel)
def e_jLat_charAt_v726 : en_T := ([(2, 0, 0, [5242]), (0, 2, 2, [])], some (0, 0, 65535, []), true, 3, 0, 0, [], [], (0, [], [], [(23, [2], [108, 1]), (23, [2], [-108, -1])], []))
def o_jLat_charAt_v726_0 : or_T := (14, 7, [(3, (0, 108, 108, [])), (5, (0, 0, 108, [])), (6, (0, 0, 65535, []))], [(22, [6, 5], []), (12, [5, 3], [256])], [], [], [(23, [6], [108, 1]), (23, [6], [-108, -1])], [], [])
theorem oo_jLat_charAt_v726_0 {kA : Nat → ClassId} : or_ok PRD kA GG o_jLat_charAt_v726_0 := by
  refine or_mk fun A ta ws vs hD hth hl => ?_
  intro t3 k3 t5 k5 t6 k6 f0 f1
  replace f0 := shm_47 f0
  replace f1 := shm_52 f1
  have nf0 : fc_1 PRD (23, [6], [108, 1]) ws (vs) := by
    refine ⟨nf_in hl rfl, sgq_89 ?_⟩
    · show 1 * v_iv (n_v vs 6) + 0 ≤ 108
      omega
  have nf1 : fc_1 PRD (23, [6], [-108, -1]) ws (vs) := by
    refine ⟨nf_in hl rfl, sgq_90 ?_⟩
    · show (-1) * v_iv (n_v vs 6) + 0 ≤ (-108)
      omega
  refine ⟨(fun _ h => (by cases h)), [], trivial, ?_, (fun _ h => (by cases h))⟩
  rw [List.append_nil]
  exact List.forall_mem_cons.mpr ⟨⟨show (23 : Nat) < 100 from by decide, nf0⟩, List.forall_mem_cons.mpr ⟨⟨show (23 : Nat) < 100 from by decide, nf1⟩, (fun _ h => (by cases h))⟩⟩
def n_jLat_charAt_v726_an : List an_T := []
def t_jLat_charAt_v726_ct : ct_L := [(12, 9, e_jStr_checkIndex_v317), (1000004, 0, en_ro [(2, 0, 0, [5242])] (0, 5, 5, [])), (1000005, 0, en_ro [(2, 0, 0, [5242]), (0, 2, 2, [])] (0, 108, 108, []))]
set_option maxRecDepth 100000 in
theorem c_jLat_charAt_v726 {l : Launch} {D : va_G} {kA : Nat → ClassId} : ct_ok PRD l D kA GG y_jLat_charAt z_jLat_charAt e_jLat_charAt_v726 := chk_all_ok (FT := []) (PT := []) (CT := t_jLat_charAt_v726_ct) (KT := []) (NT := []) (AN := n_jLat_charAt_v726_an) (OT := [o_jLat_charAt_v726_0]) 0 200 (List.forall_mem_cons.mpr ⟨oo_jLat_charAt_v726_0, List.forall_mem_nil _⟩) (by decide +kernel) ⟨List.forall_mem_nil _, List.forall_mem_nil _, List.forall_mem_cons.mpr ⟨cl_static (y := y_jStr_checkIndex) c_jStr_checkIndex_v317 wm_694 wm_11 wm_692 wm_693 ⟨by decide, by decide, by decide +kernel⟩ (by decide), List.forall_mem_cons.mpr ⟨cl_tlen (i := 42) (n := 5) rfl (by decide +kernel) (by decide +kernel) (by decide +kernel), List.forall_mem_cons.mpr ⟨cl_tbyte1 (i := 42) (n := 5) (k := 2) rfl (by decide +kernel) (by decide +kernel) (by decide) (by decide +kernel), List.forall_mem_nil _⟩⟩⟩, List.forall_mem_nil _, List.forall_mem_nil _, GG_pl⟩ (by decide +kernel)
def e_jLat_charAt_v728 : en_T := ([(2, 0, 0, [5242]), (0, 3, 3, [])], some (0, 0, 65535, []), true, 3, 0, 0, [], [], (0, [], [], [(23, [2], [111, 1]), (23, [2], [-111, -1])], []))
def o_jLat_charAt_v728_0 : or_T := (14, 7, [(3, (0, 111, 111, [])), (5, (0, 0, 111, [])), (6, (0, 0, 65535, []))], [(22, [6, 5], []), (12, [5, 3], [256])], [], [], [(23, [6], [111, 1]), (23, [6], [-111, -1])], [], [])
theorem oo_jLat_charAt_v728_0 {kA : Nat → ClassId} : or_ok PRD kA GG o_jLat_charAt_v728_0 := by
  refine or_mk fun A ta ws vs hD hth hl => ?_
  intro t3 k3 t5 k5 t6 k6 f0 f1
  replace f0 := shm_47 f0
  replace f1 := shm_52 f1
  have nf0 : fc_1 PRD (23, [6], [111, 1]) ws (vs) := by
    refine ⟨nf_in hl rfl, sgq_55 ?_⟩
    · show 1 * v_iv (n_v vs 6) + 0 ≤ 111
      omega
  have nf1 : fc_1 PRD (23, [6], [-111, -1]) ws (vs) := by
    refine ⟨nf_in hl rfl, sgq_56 ?_⟩
    · show (-1) * v_iv (n_v vs 6) + 0 ≤ (-111)
      omega
  refine ⟨(fun _ h => (by cases h)), [], trivial, ?_, (fun _ h => (by cases h))⟩
  rw [List.append_nil]
  exact List.forall_mem_cons.mpr ⟨⟨show (23 : Nat) < 100 from by decide, nf0⟩, List.forall_mem_cons.mpr ⟨⟨show (23 : Nat) < 100 from by decide, nf1⟩, (fun _ h => (by cases h))⟩⟩
def n_jLat_charAt_v728_an : List an_T := []
def t_jLat_charAt_v728_ct : ct_L := [(12, 9, e_jStr_checkIndex_v321), (1000004, 0, en_ro [(2, 0, 0, [5242])] (0, 5, 5, [])), (1000005, 0, en_ro [(2, 0, 0, [5242]), (0, 3, 3, [])] (0, 111, 111, []))]
set_option maxRecDepth 100000 in
theorem c_jLat_charAt_v728 {l : Launch} {D : va_G} {kA : Nat → ClassId} : ct_ok PRD l D kA GG y_jLat_charAt z_jLat_charAt e_jLat_charAt_v728 := chk_all_ok (FT := []) (PT := []) (CT := t_jLat_charAt_v728_ct) (KT := []) (NT := []) (AN := n_jLat_charAt_v728_an) (OT := [o_jLat_charAt_v728_0]) 0 200 (List.forall_mem_cons.mpr ⟨oo_jLat_charAt_v728_0, List.forall_mem_nil _⟩) (by decide +kernel) ⟨List.forall_mem_nil _, List.forall_mem_nil _, List.forall_mem_cons.mpr ⟨cl_static (y := y_jStr_checkIndex) c_jStr_checkIndex_v321 wm_694 wm_11 wm_692 wm_693 ⟨by decide, by decide, by decide +kernel⟩ (by decide), List.forall_mem_cons.mpr ⟨cl_tlen (i := 42) (n := 5) rfl (by decide +kernel) (by decide +kernel) (by decide +kernel), List.forall_mem_cons.mpr ⟨cl_tbyte1 (i := 42) (n := 5) (k := 3) rfl (by decide +kernel) (by decide +kernel) (by decide) (by decide +kernel), List.forall_mem_nil _⟩⟩⟩, List.forall_mem_nil _, List.forall_mem_nil _, GG_pl⟩ (by decide +kernel)
def e_jLat_charAt_v730 : en_T := ([(2, 0, 0, [5242]), (0, 4, 4, [])], some (0, 0, 65535, []), true, 3, 0, 0, [], [], (0, [], [], [(23, [2], [114, 1]), (23, [2], [-114, -1])], []))
def o_jLat_charAt_v730_0 : or_T := (14, 7, [(3, (0, 114, 114, [])), (5, (0, 0, 114, [])), (6, (0, 0, 65535, []))], [(22, [6, 5], []), (12, [5, 3], [256])], [], [], [(23, [6], [114, 1]), (23, [6], [-114, -1])], [], [])
theorem oo_jLat_charAt_v730_0 {kA : Nat → ClassId} : or_ok PRD kA GG o_jLat_charAt_v730_0 := by
  refine or_mk fun A ta ws vs hD hth hl => ?_
  intro t3 k3 t5 k5 t6 k6 f0 f1
  replace f0 := shm_47 f0
  replace f1 := shm_52 f1
  have nf0 : fc_1 PRD (23, [6], [114, 1]) ws (vs) := by
    refine ⟨nf_in hl rfl, sgq_63 ?_⟩
    · show 1 * v_iv (n_v vs 6) + 0 ≤ 114
      omega
  have nf1 : fc_1 PRD (23, [6], [-114, -1]) ws (vs) := by
    refine ⟨nf_in hl rfl, sgq_64 ?_⟩
    · show (-1) * v_iv (n_v vs 6) + 0 ≤ (-114)
      omega
  refine ⟨(fun _ h => (by cases h)), [], trivial, ?_, (fun _ h => (by cases h))⟩
  rw [List.append_nil]
  exact List.forall_mem_cons.mpr ⟨⟨show (23 : Nat) < 100 from by decide, nf0⟩, List.forall_mem_cons.mpr ⟨⟨show (23 : Nat) < 100 from by decide, nf1⟩, (fun _ h => (by cases h))⟩⟩
def n_jLat_charAt_v730_an : List an_T := []
def t_jLat_charAt_v730_ct : ct_L := [(12, 9, e_jStr_checkIndex_v325), (1000004, 0, en_ro [(2, 0, 0, [5242])] (0, 5, 5, [])), (1000005, 0, en_ro [(2, 0, 0, [5242]), (0, 4, 4, [])] (0, 114, 114, []))]
set_option maxRecDepth 100000 in
theorem c_jLat_charAt_v730 {l : Launch} {D : va_G} {kA : Nat → ClassId} : ct_ok PRD l D kA GG y_jLat_charAt z_jLat_charAt e_jLat_charAt_v730 := chk_all_ok (FT := []) (PT := []) (CT := t_jLat_charAt_v730_ct) (KT := []) (NT := []) (AN := n_jLat_charAt_v730_an) (OT := [o_jLat_charAt_v730_0]) 0 200 (List.forall_mem_cons.mpr ⟨oo_jLat_charAt_v730_0, List.forall_mem_nil _⟩) (by decide +kernel) ⟨List.forall_mem_nil _, List.forall_mem_nil _, List.forall_mem_cons.mpr ⟨cl_static (y := y_jStr_checkIndex) c_jStr_checkIndex_v325 wm_694 wm_11 wm_692 wm_693 ⟨by decide, by decide, by decide +kernel⟩ (by decide), List.forall_mem_cons.mpr ⟨cl_tlen (i := 42) (n := 5) rfl (by decide +kernel) (by decide +kernel) (by decide +kernel), List.forall_mem_cons.mpr ⟨cl_tbyte1 (i := 42) (n := 5) (k := 4) rfl (by decide +kernel) (by decide +kernel) (by decide) (by decide +kernel), List.forall_mem_nil _⟩⟩⟩, List.forall_mem_nil _, List.forall_mem_nil _, GG_pl⟩ (by decide +kernel)
def e_jLat_charAt_v733 : en_T := ([(2, 0, 0, [5243]), (0, 0, 0, [])], some (0, 0, 65535, []), true, 3, 0, 0, [], [], (0, [], [], [(23, [2], [119, 1]), (23, [2], [-119, -1])], []))
def o_jLat_charAt_v733_0 : or_T := (14, 7, [(3, (0, 119, 119, [])), (5, (0, 0, 119, [])), (6, (0, 0, 65535, []))], [(22, [6, 5], []), (12, [5, 3], [256])], [], [], [(23, [6], [119, 1]), (23, [6], [-119, -1])], [], [])
theorem oo_jLat_charAt_v733_0 {kA : Nat → ClassId} : or_ok PRD kA GG o_jLat_charAt_v733_0 := by
  refine or_mk fun A ta ws vs hD hth hl => ?_
  intro t3 k3 t5 k5 t6 k6 f0 f1
  replace f0 := shm_47 f0
  replace f1 := shm_52 f1
  have nf0 : fc_1 PRD (23, [6], [119, 1]) ws (vs) := by
    refine ⟨nf_in hl rfl, sgq_75 ?_⟩
    · show 1 * v_iv (n_v vs 6) + 0 ≤ 119
      omega
  have nf1 : fc_1 PRD (23, [6], [-119, -1]) ws (vs) := by
    refine ⟨nf_in hl rfl, sgq_76 ?_⟩
    · show (-1) * v_iv (n_v vs 6) + 0 ≤ (-119)
      omega
  refine ⟨(fun _ h => (by cases h)), [], trivial, ?_, (fun _ h => (by cases h))⟩
  rw [List.append_nil]
  exact List.forall_mem_cons.mpr ⟨⟨show (23 : Nat) < 100 from by decide, nf0⟩, List.forall_mem_cons.mpr ⟨⟨show (23 : Nat) < 100 from by decide, nf1⟩, (fun _ h => (by cases h))⟩⟩
def n_jLat_charAt_v733_an : List an_T := []
def t_jLat_charAt_v733_ct : ct_L := [(12, 9, e_jStr_checkIndex_v309), (1000004, 0, en_ro [(2, 0, 0, [5243])] (0, 5, 5, [])), (1000005, 0, en_ro [(2, 0, 0, [5243]), (0, 0, 0, [])] (0, 119, 119, []))]
set_option maxRecDepth 100000 in
theorem c_jLat_charAt_v733 {l : Launch} {D : va_G} {kA : Nat → ClassId} : ct_ok PRD l D kA GG y_jLat_charAt z_jLat_charAt e_jLat_charAt_v733 := chk_all_ok (FT := []) (PT := []) (CT := t_jLat_charAt_v733_ct) (KT := []) (NT := []) (AN := n_jLat_charAt_v733_an) (OT := [o_jLat_charAt_v733_0]) 0 200 (List.forall_mem_cons.mpr ⟨oo_jLat_charAt_v733_0, List.forall_mem_nil _⟩) (by decide +kernel) ⟨List.forall_mem_nil _, List.forall_mem_nil _, List.forall_mem_cons.mpr ⟨cl_static (y := y_jStr_checkIndex) c_jStr_checkIndex_v309 wm_694 wm_11 wm_692 wm_693 ⟨by decide, by decide, by decide +kernel⟩ (by decide), List.forall_mem_cons.mpr ⟨cl_tlen (i := 43) (n := 5) rfl (by decide +kernel) (by decide +kernel) (by decide +kernel), List.forall_mem_cons.mpr ⟨cl_tbyte1 (i := 43) (n := 5) (k := 0) rfl (by decide +kernel) (by decide +kernel) (by decide) (by decide +kernel), List.forall_mem_nil _⟩⟩⟩, List.forall_mem_nil _, List.forall_mem_nil _, GG_pl⟩ (by decide +kernel)
def e_jLat_charAt_v735 : en_T := ([(2, 0, 0, [5243]), (0, 1, 1, [])], some (0, 0, 65535, []), true, 3, 0, 0, [], [], (0, [], [], [(23, [2], [105, 1]), (23, [2], [-105, -1])], []))
def o_jLat_charAt_v735_0 : or_T := (14, 7, [(3, (0, 105, 105, [])), (5, (0, 0, 105, [])), (6, (0, 0, 65535, []))], [(22, [6, 5], []), (12, [5, 3], [256])], [], [], [(23, [6], [105, 1]), (23, [6], [-105, -1])], [], [])
theorem oo_jLat_charAt_v735_0 {kA : Nat → ClassId} : or_ok PRD kA GG o_jLat_charAt_v735_0 := by
  refine or_mk fun A ta ws vs hD hth hl => ?_
  intro t3 k3 t5 k5 t6 k6 f0 f1
  replace f0 := shm_47 f0
  replace f1 := shm_52 f1
  have nf0 : fc_1 PRD (23, [6], [105, 1]) ws (vs) := by
    refine ⟨nf_in hl rfl, sgq_71 ?_⟩
    · show 1 * v_iv (n_v vs 6) + 0 ≤ 105
      omega
  have nf1 : fc_1 PRD (23, [6], [-105, -1]) ws (vs) := by
    refine ⟨nf_in hl rfl, sgq_72 ?_⟩
    · show (-1) * v_iv (n_v vs 6) + 0 ≤ (-105)
      omega
  refine ⟨(fun _ h => (by cases h)), [], trivial, ?_, (fun _ h => (by cases h))⟩
  rw [List.append_nil]
  exact List.forall_mem_cons.mpr ⟨⟨show (23 : Nat) < 100 from by decide, nf0⟩, List.forall_mem_cons.mpr ⟨⟨show (23 : Nat) < 100 from by decide, nf1⟩, (fun _ h => (by cases h))⟩⟩
def n_jLat_charAt_v735_an : List an_T := []
def t_jLat_charAt_v735_ct : ct_L := [(12, 9, e_jStr_checkIndex_v313), (1000004, 0, en_ro [(2, 0, 0, [5243])] (0, 5, 5, [])), (1000005, 0, en_ro [(2, 0, 0, [5243]), (0, 1, 1, [])] (0, 105, 105, []))]
set_option maxRecDepth 100000 in
theorem c_jLat_charAt_v735 {l : Launch} {D : va_G} {kA : Nat → ClassId} : ct_ok PRD l D kA GG y_jLat_charAt z_jLat_charAt e_jLat_charAt_v735 := chk_all_ok (FT := []) (PT := []) (CT := t_jLat_charAt_v735_ct) (KT := []) (NT := []) (AN := n_jLat_charAt_v735_an) (OT := [o_jLat_charAt_v735_0]) 0 200 (List.forall_mem_cons.mpr ⟨oo_jLat_charAt_v735_0, List.forall_mem_nil _⟩) (by decide +kernel) ⟨List.forall_mem_nil _, List.forall_mem_nil _, List.forall_mem_cons.mpr ⟨cl_static (y := y_jStr_checkIndex) c_jStr_checkIndex_v313 wm_694 wm_11 wm_692 wm_693 ⟨by decide, by decide, by decide +kernel⟩ (by decide), List.forall_mem_cons.mpr ⟨cl_tlen (i := 43) (n := 5) rfl (by decide +kernel) (by decide +kernel) (by decide +kernel), List.forall_mem_cons.mpr ⟨cl_tbyte1 (i := 43) (n := 5) (k := 1) rfl (by decide +kernel) (by decide +kernel) (by decide) (by decide +kernel), List.forall_mem_nil _⟩⟩⟩, List.forall_mem_nil _, List.forall_mem_nil _, GG_pl⟩ (by decide +kernel)
def e_jLat_charAt_v737 : en_T := ([(2, 0, 0, [5243]), (0, 2, 2, [])], some (0, 0, 65535, []), true, 3, 0, 0, [], [], (0, [], [], [(23, [2], [100, 1]), (23, [2], [-100, -1])], []))
def o_jLat_charAt_v737_0 : or_T := (14, 7, [(3, (0, 100, 100, [])), (5, (0, 0, 100, [])), (6, (0, 0, 65535, []))], [(22, [6, 5], []), (12, [5, 3], [256])], [], [], [(23, [6], [100, 1]), (23, [6], [-100, -1])], [], [])
theorem oo_jLat_charAt_v737_0 {kA : Nat → ClassId} : or_ok PRD kA GG o_jLat_charAt_v737_0 := by
  refine or_mk fun A ta ws vs hD hth hl => ?_
  intro t3 k3 t5 k5 t6 k6 f0 f1
  replace f0 := shm_47 f0
  replace f1 := shm_52 f1
  have nf0 : fc_1 PRD (23, [6], [100, 1]) ws (vs) := by
    refine ⟨nf_in hl rfl, sgq_57 ?_⟩
    · show 1 * v_iv (n_v vs 6) + 0 ≤ 100
      omega
  have nf1 : fc_1 PRD (23, [6], [-100, -1]) ws (vs) := by
    refine ⟨nf_in hl rfl, sgq_58 ?_⟩
    · show (-1) * v_iv (n_v vs 6) + 0 ≤ (-100)
      omega
  refine ⟨(fun _ h => (by cases h)), [], trivial, ?_, (fun _ h => (by cases h))⟩
  rw [List.append_nil]
  exact List.forall_mem_cons.mpr ⟨⟨show (23 : Nat) < 100 from by decide, nf0⟩, List.forall_mem_cons.mpr ⟨⟨show (23 : Nat) < 100 from by decide, nf1⟩, (fun _ h => (by cases h))⟩⟩
def n_jLat_charAt_v737_an : List an_T := []
def t_jLat_charAt_v737_ct : ct_L := [(12, 9, e_jStr_checkIndex_v317), (1000004, 0, en_ro [(2, 0, 0, [5243])] (0, 5, 5, [])), (1000005, 0, en_ro [(2, 0, 0, [5243]), (0, 2, 2, [])] (0, 100, 100, []))]
set_option maxRecDepth 100000 in
theorem c_jLat_charAt_v737 {l : Launch} {D : va_G} {kA : Nat → ClassId} : ct_ok PRD l D kA GG y_jLat_charAt z_jLat_charAt e_jLat_charAt_v737 := chk_all_ok (FT := []) (PT := []) (CT := t_jLat_charAt_v737_ct) (KT := []) (NT := []) (AN := n_jLat_charAt_v737_an) (OT := [o_jLat_charAt_v737_0]) 0 200 (List.forall_mem_cons.mpr ⟨oo_jLat_charAt_v737_0, List.forall_mem_nil _⟩) (by decide +kernel) ⟨List.forall_mem_nil _, List.forall_mem_nil _, List.forall_mem_cons.mpr ⟨cl_static (y := y_jStr_checkIndex) c_jStr_checkIndex_v317 wm_694 wm_11 wm_692 wm_693 ⟨by decide, by decide, by decide +kernel⟩ (by decide), List.forall_mem_cons.mpr ⟨cl_tlen (i := 43) (n := 5) rfl (by decide +kernel) (by decide +kernel) (by decide +kernel), List.forall_mem_cons.mpr ⟨cl_tbyte1 (i := 43) (n := 5) (k := 2) rfl (by decide +kernel) (by decide +kernel) (by decide) (by decide +kernel), List.forall_mem_nil _⟩⟩⟩, List.forall_mem_nil _, List.forall_mem_nil _, GG_pl⟩ (by decide +kernel)
def e_jLat_charAt_v739 : en_T := ([(2, 0, 0, [5243]), (0, 3, 3, [])], some (0, 0, 65535, []), true, 3, 0, 0, [], [], (0, [], [], [(23, [2], [116, 1]), (23, [2], [-116, -1])], []))
def o_jLat_charAt_v739_0 : or_T := (14, 7, [(3, (0, 116, 116, [])), (5, (0, 0, 116, [])), (6, (0, 0, 65535, []))], [(22, [6, 5], []), (12, [5, 3], [256])], [], [], [(23, [6], [116, 1]), (23, [6], [-116, -1])], [], [])
theorem oo_jLat_charAt_v739_0 {kA : Nat → ClassId} : or_ok PRD kA GG o_jLat_charAt_v739_0 := by
  refine or_mk fun A ta ws vs hD hth hl => ?_
  intro t3 k3 t5 k5 t6 k6 f0 f1
  replace f0 := shm_47 f0
  replace f1 := shm_52 f1
  have nf0 : fc_1 PRD (23, [6], [116, 1]) ws (vs) := by
    refine ⟨nf_in hl rfl, sgq_79 ?_⟩
    · show 1 * v_iv (n_v vs 6) + 0 ≤ 116
      omega
  have nf1 : fc_1 PRD (23, [6], [-116, -1]) ws (vs) := by
    refine ⟨nf_in hl rfl, sgq_80 ?_⟩
    · show (-1) * v_iv (n_v vs 6) + 0 ≤ (-116)
      omega
  refine ⟨(fun _ h => (by cases h)), [], trivial, ?_, (fun _ h => (by cases h))⟩
  rw [List.append_nil]
  exact List.forall_mem_cons.mpr ⟨⟨show (23 : Nat) < 100 from by decide, nf0⟩, List.forall_mem_cons.mpr ⟨⟨show (23 : Nat) < 100 from by decide, nf1⟩, (fun _ h => (by cases h))⟩⟩
def n_jLat_charAt_v739_an : List an_T := []
def t_jLat_charAt_v739_ct : ct_L := [(12, 9, e_jStr_checkIndex_v321), (1000004, 0, en_ro [(2, 0, 0, [5243])] (0, 5, 5, [])), (1000005, 0, en_ro [(2, 0, 0, [5243]), (0, 3, 3, [])] (0, 116, 116, []))]
set_option maxRecDepth 100000 in
theorem c_jLat_charAt_v739 {l : Launch} {D : va_G} {kA : Nat → ClassId} : ct_ok PRD l D kA GG y_jLat_charAt z_jLat_charAt e_jLat_charAt_v739 := chk_all_ok (FT := []) (PT := []) (CT := t_jLat_charAt_v739_ct) (KT := []) (NT := []) (AN := n_jLat_charAt_v739_an) (OT := [o_jLat_charAt_v739_0]) 0 200 (List.forall_mem_cons.mpr ⟨oo_jLat_charAt_v739_0, List.forall_mem_nil _⟩) (by decide +kernel) ⟨List.forall_mem_nil _, List.forall_mem_nil _, List.forall_mem_cons.mpr ⟨cl_static (y := y_jStr_checkIndex) c_jStr_checkIndex_v321 wm_694 wm_11 wm_692 wm_693 ⟨by decide, by decide, by decide +kernel⟩ (by decide), List.forall_mem_cons.mpr ⟨cl_tlen (i := 43) (n := 5) rfl (by decide +kernel) (by decide +kernel) (by decide +kernel), List.forall_mem_cons.mpr ⟨cl_tbyte1 (i := 43) (n := 5) (k := 3) rfl (by decide +kernel) (by decide +kernel) (by decide) (by decide +kernel), List.forall_mem_nil _⟩⟩⟩, List.forall_mem_nil _, List.forall_mem_nil _, GG_pl⟩ (by decide +kernel)
def e_jLat_charAt_v741 : en_T := ([(2, 0, 0, [5243]), (0, 4, 4, [])], some (0, 0, 65535, []), true, 3, 0, 0, [], [], (0, [], [], [(23, [2], [104, 1]), (23, [2], [-104, -1])], []))
def o_jLat_charAt_v741_0 : or_T := (14, 7, [(3, (0, 104, 104, [])), (5, (0, 0, 104, [])), (6, (0, 0, 65535, []))], [(22, [6, 5], []), (12, [5, 3], [256])], [], [], [(23, [6], [104, 1]), (23, [6], [-104, -1])], [], [])
theorem oo_jLat_charAt_v741_0 {kA : Nat → ClassId} : or_ok PRD kA GG o_jLat_charAt_v741_0 := by
  refine or_mk fun A ta ws vs hD hth hl => ?_
  intro t3 k3 t5 k5 t6 k6 f0 f1
  replace f0 := shm_47 f0
  replace f1 := shm_52 f1
  have nf0 : fc_1 PRD (23, [6], [104, 1]) ws (vs) := by
    refine ⟨nf_in hl rfl, sgq_77 ?_⟩
    · show 1 * v_iv (n_v vs 6) + 0 ≤ 104
      omega
  have nf1 : fc_1 PRD (23, [6], [-104, -1]) ws (vs) := by
    refine ⟨nf_in hl rfl, sgq_78 ?_⟩
    · show (-1) * v_iv (n_v vs 6) + 0 ≤ (-104)
      omega
  refine ⟨(fun _ h => (by cases h)), [], trivial, ?_, (fun _ h => (by cases h))⟩
  rw [List.append_nil]
  exact List.forall_mem_cons.mpr ⟨⟨show (23 : Nat) < 100 from by decide, nf0⟩, List.forall_mem_cons.mpr ⟨⟨show (23 : Nat) < 100 from by decide, nf1⟩, (fun _ h => (by cases h))⟩⟩
def n_jLat_charAt_v741_an : List an_T := []
def t_jLat_charAt_v741_ct : ct_L := [(12, 9, e_jStr_checkIndex_v325), (1000004, 0, en_ro [(2, 0, 0, [5243])] (0, 5, 5, [])), (1000005, 0, en_ro [(2, 0, 0, [5243]), (0, 4, 4, [])] (0, 104, 104, []))]
set_option maxRecDepth 100000 in
theorem c_jLat_charAt_v741 {l : Launch} {D : va_G} {kA : Nat → ClassId} : ct_ok PRD l D kA GG y_jLat_charAt z_jLat_charAt e_jLat_charAt_v741 := chk_all_ok (FT := []) (PT := []) (CT := t_jLat_charAt_v741_ct) (KT := []) (NT := []) (AN := n_jLat_charAt_v741_an) (OT := [o_jLat_charAt_v741_0]) 0 200 (List.forall_mem_cons.mpr ⟨oo_jLat_charAt_v741_0, List.forall_mem_nil _⟩) (by decide +kernel) ⟨List.forall_mem_nil _, List.forall_mem_nil _, List.forall_mem_cons.mpr ⟨cl_static (y := y_jStr_checkIndex) c_jStr_checkIndex_v325 wm_694 wm_11 wm_692 wm_693 ⟨by decide, by decide, by decide +kernel⟩ (by decide), List.forall_mem_cons.mpr ⟨cl_tlen (i := 43) (n := 5) rfl (by decide +kernel) (by decide +kernel) (by decide +kernel), List.forall_mem_cons.mpr ⟨cl_tbyte1 (i := 43) (n := 5) (k := 4) rfl (by decide +kernel) (by decide +kernel) (by decide) (by decide +kernel), List.forall_mem_nil _⟩⟩⟩, List.forall_mem_nil _, List.forall_mem_nil _, GG_pl⟩ (by decide +kernel)
def e_jLat_charAt_v744 : en_T := ([(2, 0, 0, [5244]), (0, 0, 0, [])], some (0, 0, 65535, []), true, 3, 0, 0, [], [], (0, [], [], [(23, [2], [102, 1]), (23, [2], [-102, -1])], []))
def o_jLat_charAt_v744_0 : or_T := (14, 7, [(3, (0, 102, 102, [])), (5, (0, 0, 102, [])), (6, (0, 0, 65535, []))], [(22, [6, 5], []), (12, [5, 3], [256])], [], [], [(23, [6], [102, 1]), (23, [6], [-102, -1])], [], [])
theorem oo_jLat_charAt_v744_0 {kA : Nat → ClassId} : or_ok PRD kA GG o_jLat_charAt_v744_0 := by
  refine or_mk fun A ta ws vs hD hth hl => ?_
  intro t3 k3 t5 k5 t6 k6 f0 f1
  replace f0 := shm_47 f0
  replace f1 := shm_52 f1
  have nf0 : fc_1 PRD (23, [6], [102, 1]) ws (vs) := by
    refine ⟨nf_in hl rfl, sgq_83 ?_⟩
    · show 1 * v_iv (n_v vs 6) + 0 ≤ 102
      omega
  have nf1 : fc_1 PRD (23, [6], [-102, -1]) ws (vs) := by
    refine ⟨nf_in hl rfl, sgq_84 ?_⟩
    · show (-1) * v_iv (n_v vs 6) + 0 ≤ (-102)
      omega
  refine ⟨(fun _ h => (by cases h)), [], trivial, ?_, (fun _ h => (by cases h))⟩
  rw [List.append_nil]
  exact List.forall_mem_cons.mpr ⟨⟨show (23 : Nat) < 100 from by decide, nf0⟩, List.forall_mem_cons.mpr ⟨⟨show (23 : Nat) < 100 from by decide, nf1⟩, (fun _ h => (by cases h))⟩⟩
def n_jLat_charAt_v744_an : List an_T := []
def t_jLat_charAt_v744_ct : ct_L := [(12, 9, e_jStr_checkIndex_v292), (1000004, 0, en_ro [(2, 0, 0, [5244])] (0, 4, 4, [])), (1000005, 0, en_ro [(2, 0, 0, [5244]), (0, 0, 0, [])] (0, 102, 102, []))]
set_option maxRecDepth 100000 in
theorem c_jLat_charAt_v744 {l : Launch} {D : va_G} {kA : Nat → ClassId} : ct_ok PRD l D kA GG y_jLat_charAt z_jLat_charAt e_jLat_charAt_v744 := chk_all_ok (FT := []) (PT := []) (CT := t_jLat_charAt_v744_ct) (KT := []) (NT := []) (AN := n_jLat_charAt_v744_an) (OT := [o_jLat_charAt_v744_0]) 0 200 (List.forall_mem_cons.mpr ⟨oo_jLat_charAt_v744_0, List.forall_mem_nil _⟩) (by decide +kernel) ⟨List.forall_mem_nil _, List.forall_mem_nil _, List.forall_mem_cons.mpr ⟨cl_static (y := y_jStr_checkIndex) c_jStr_checkIndex_v292 wm_694 wm_11 wm_692 wm_693 ⟨by decide, by decide, by decide +kernel⟩ (by decide), List.forall_mem_cons.mpr ⟨cl_tlen (i := 44) (n := 4) rfl (by decide +kernel) (by decide +kernel) (by decide +kernel), List.forall_mem_cons.mpr ⟨cl_tbyte1 (i := 44) (n := 4) (k := 0) rfl (by decide +kernel) (by decide +kernel) (by decide) (by decide +kernel), List.forall_mem_nil _⟩⟩⟩, List.forall_mem_nil _, List.forall_mem_nil _, GG_pl⟩ (by decide +kernel)
def e_jLat_charAt_v746 : en_T := ([(2, 0, 0, [5244]), (0, 1, 1, [])], some (0, 0, 65535, []), true, 3, 0, 0, [], [], (0, [], [], [(23, [2], [111, 1]), (23, [2], [-111, -1])], []))
def o_jLat_charAt_v746_0 : or_T := (14, 7, [(3, (0, 111, 111, [])), (5, (0, 0, 111, [])), (6, (0, 0, 65535, []))], [(22, [6, 5], []), (12, [5, 3], [256])], [], [], [(23, [6], [111, 1]), (23, [6], [-111, -1])], [], [])
theorem oo_jLat_charAt_v746_0 {kA : Nat → ClassId} : or_ok PRD kA GG o_jLat_charAt_v746_0 := by
  refine or_mk fun A ta ws vs hD hth hl => ?_
  intro t3 k3 t5 k5 t6 k6 f0 f1
  replace f0 := shm_47 f0
  replace f1 := shm_52 f1
  have nf0 : fc_1 PRD (23, [6], [111, 1]) ws (vs) := by
    refine ⟨nf_in hl rfl, sgq_55 ?_⟩
    · show 1 * v_iv (n_v vs 6) + 0 ≤ 111
      omega
  have nf1 : fc_1 PRD (23, [6], [-111, -1]) ws (vs) := by
    refine ⟨nf_in hl rfl, sgq_56 ?_⟩
    · show (-1) * v_iv (n_v vs 6) + 0 ≤ (-111)
      omega
  refine ⟨(fun _ h => (by cases h)), [], trivial, ?_, (fun _ h => (by cases h))⟩
  rw [List.append_nil]
  exact List.forall_mem_cons.mpr ⟨⟨show (23 : Nat) < 100 from by decide, nf0⟩, List.forall_mem_cons.mpr ⟨⟨show (23 : Nat) < 100 from by decide, nf1⟩, (fun _ h => (by cases h))⟩⟩
def n_jLat_charAt_v746_an : List an_T := []
def t_jLat_charAt_v746_ct : ct_L := [(12, 9, e_jStr_checkIndex_v296), (1000004, 0, en_ro [(2, 0, 0, [5244])] (0, 4, 4, [])), (1000005, 0, en_ro [(2, 0, 0, [5244]), (0, 1, 1, [])] (0, 111, 111, []))]
set_option maxRecDepth 100000 in
theorem c_jLat_charAt_v746 {l : Launch} {D : va_G} {kA : Nat → ClassId} : ct_ok PRD l D kA GG y_jLat_charAt z_jLat_charAt e_jLat_charAt_v746 := chk_all_ok (FT := []) (PT := []) (CT := t_jLat_charAt_v746_ct) (KT := []) (NT := []) (AN := n_jLat_charAt_v746_an) (OT := [o_jLat_charAt_v746_0]) 0 200 (List.forall_mem_cons.mpr ⟨oo_jLat_charAt_v746_0, List.forall_mem_nil _⟩) (by decide +kernel) ⟨List.forall_mem_nil _, List.forall_mem_nil _, List.forall_mem_cons.mpr ⟨cl_static (y := y_jStr_checkIndex) c_jStr_checkIndex_v296 wm_694 wm_11 wm_692 wm_693 ⟨by decide, by decide, by decide +kernel⟩ (by decide), List.forall_mem_cons.mpr ⟨cl_tlen (i := 44) (n := 4) rfl (by decide +kernel) (by decide +kernel) (by decide +kernel), List.forall_mem_cons.mpr ⟨cl_tbyte1 (i := 44) (n := 4) (k := 1) rfl (by decide +kernel) (by decide +kernel) (by decide) (by decide +kernel), List.forall_mem_nil _⟩⟩⟩, List.forall_mem_nil _, List.forall_mem_nil _, GG_pl⟩ (by decide +kernel)
def e_jLat_charAt_v748 : en_T := ([(2, 0, 0, [5244]), (0, 2, 2, [])], some (0, 0, 65535, []), true, 3, 0, 0, [], [], (0, [], [], [(23, [2], [114, 1]), (23, [2], [-114, -1])], []))
def o_jLat_charAt_v748_0 : or_T := (14, 7, [(3, (0, 114, 114, [])), (5, (0, 0, 114, [])), (6, (0, 0, 65535, []))], [(22, [6, 5], []), (12, [5, 3], [256])], [], [], [(23, [6], [114, 1]), (23, [6], [-114, -1])], [], [])
theorem oo_jLat_charAt_v748_0 {kA : Nat → ClassId} : or_ok PRD kA GG o_jLat_charAt_v748_0 := by
  refine or_mk fun A ta ws vs hD hth hl => ?_
  intro t3 k3 t5 k5 t6 k6 f0 f1
  replace f0 := shm_47 f0
  replace f1 := shm_52 f1
  have nf0 : fc_1 PRD (23, [6], [114, 1]) ws (vs) := by
    refine ⟨nf_in hl rfl, sgq_63 ?_⟩
    · show 1 * v_iv (n_v vs 6) + 0 ≤ 114
      omega
  have nf1 : fc_1 PRD (23, [6], [-114, -1]) ws (vs) := by
    refine ⟨nf_in hl rfl, sgq_64 ?_⟩
    · show (-1) * v_iv (n_v vs 6) + 0 ≤ (-114)
      omega
  refine ⟨(fun _ h => (by cases h)), [], trivial, ?_, (fun _ h => (by cases h))⟩
  rw [List.append_nil]
  exact List.forall_mem_cons.mpr ⟨⟨show (23 : Nat) < 100 from by decide, nf0⟩, List.forall_mem_cons.mpr ⟨⟨show (23 : Nat) < 100 from by decide, nf1⟩, (fun _ h => (by cases h))⟩⟩
def n_jLat_charAt_v748_an : List an_T := []
def t_jLat_charAt_v748_ct : ct_L := [(12, 9, e_jStr_checkIndex_v300), (1000004, 0, en_ro [(2, 0, 0, [5244])] (0, 4, 4, [])), (1000005, 0, en_ro [(2, 0, 0, [5244]), (0, 2, 2, [])] (0, 114, 114, []))]
set_option maxRecDepth 100000 in
theorem c_jLat_charAt_v748 {l : Launch} {D : va_G} {kA : Nat → ClassId} : ct_ok PRD l D kA GG y_jLat_charAt z_jLat_charAt e_jLat_charAt_v748 := chk_all_ok (FT := []) (PT := []) (CT := t_jLat_charAt_v748_ct) (KT := []) (NT := []) (AN := n_jLat_charAt_v748_an) (OT := [o_jLat_charAt_v748_0]) 0 200 (List.forall_mem_cons.mpr ⟨oo_jLat_charAt_v748_0, List.forall_mem_nil _⟩) (by decide +kernel) ⟨List.forall_mem_nil _, List.forall_mem_nil _, List.forall_mem_cons.mpr ⟨cl_static (y := y_jStr_checkIndex) c_jStr_checkIndex_v300 wm_694 wm_11 wm_692 wm_693 ⟨by decide, by decide, by decide +kernel⟩ (by decide), List.forall_mem_cons.mpr ⟨cl_tlen (i := 44) (n := 4) rfl (by decide +kernel) (by decide +kernel) (by decide +kernel), List.forall_mem_cons.mpr ⟨cl_tbyte1 (i := 44) (n := 4) (k := 2) rfl (by decide +kernel) (by decide +kernel) (by decide) (by decide +kernel), List.forall_mem_nil _⟩⟩⟩, List.forall_mem_nil _, List.forall_mem_nil _, GG_pl⟩ (by decide +kernel)
def e_jLat_charAt_v750 : en_T := ([(2, 0, 0, [5244]), (0, 3, 3, [])], some (0, 0, 65535, []), true, 3, 0, 0, [], [], (0, [], [], [(23, [2], [109, 1]), (23, [2], [-109, -1])], []))
def o_jLat_charAt_v750_0 : or_T := (14, 7, [(3, (0, 109, 109, [])), (5, (0, 0, 109, [])), (6, (0, 0, 65535, []))], [(22, [6, 5], []), (12, [5, 3], [256])], [], [], [(23, [6], [109, 1]), (23, [6], [-109, -1])], [], [])
theorem oo_jLat_charAt_v750_0 {kA : Nat → ClassId} : or_ok PRD kA GG o_jLat_charAt_v750_0 := by
  refine or_mk fun A ta ws vs hD hth hl => ?_
  intro t3 k3 t5 k5 t6 k6 f0 f1
  replace f0 := shm_47 f0
  replace f1 := shm_52 f1
  have nf0 : fc_1 PRD (23, [6], [109, 1]) ws (vs) := by
    refine ⟨nf_in hl rfl, sgq_91 ?_⟩
    · show 1 * v_iv (n_v vs 6) + 0 ≤ 109
      omega
  have nf1 : fc_1 PRD (23, [6], [-109, -1]) ws (vs) := by
    refine ⟨nf_in hl rfl, sgq_92 ?_⟩
    · show (-1) * v_iv (n_v vs 6) + 0 ≤ (-109)
      omega
  refine ⟨(fun _ h => (by cases h)), [], trivial, ?_, (fun _ h => (by cases h))⟩
  rw [List.append_nil]
  exact List.forall_mem_cons.mpr ⟨⟨show (23 : Nat) < 100 from by decide, nf0⟩, List.forall_mem_cons.mpr ⟨⟨show (23 : Nat) < 100 from by decide, nf1⟩, (fun _ h => (by cases h))⟩⟩
def n_jLat_charAt_v750_an : List an_T := []
def t_jLat_charAt_v750_ct : ct_L := [(12, 9, e_jStr_checkIndex_v304), (1000004, 0, en_ro [(2, 0, 0, [5244])] (0, 4, 4, [])), (1000005, 0, en_ro [(2, 0, 0, [5244]), (0, 3, 3, [])] (0, 109, 109, []))]
set_option maxRecDepth 100000 in
theorem c_jLat_charAt_v750 {l : Launch} {D : va_G} {kA : Nat → ClassId} : ct_ok PRD l D kA GG y_jLat_charAt z_jLat_charAt e_jLat_charAt_v750 := chk_all_ok (FT := []) (PT := []) (CT := t_jLat_charAt_v750_ct) (KT := []) (NT := []) (AN := n_jLat_charAt_v750_an) (OT := [o_jLat_charAt_v750_0]) 0 200 (List.forall_mem_cons.mpr ⟨oo_jLat_charAt_v750_0, List.forall_mem_nil _⟩) (by decide +kernel) ⟨List.forall_mem_nil _, List.forall_mem_nil _, List.forall_mem_cons.mpr ⟨cl_static (y := y_jStr_checkIndex) c_jStr_checkIndex_v304 wm_694 wm_11 wm_692 wm_693 ⟨by decide, by decide, by decide +kernel⟩ (by decide), List.forall_mem_cons.mpr ⟨cl_tlen (i := 44) (n := 4) rfl (by decide +kernel) (by decide +kernel) (by decide +kernel), List.forall_mem_cons.mpr ⟨cl_tbyte1 (i := 44) (n := 4) (k := 3) rfl (by decide +kernel) (by decide +kernel) (by decide) (by decide +kernel), List.forall_mem_nil _⟩⟩⟩, List.forall_mem_nil _, List.forall_mem_nil _, GG_pl⟩ (by decide +kernel)
def e_jLat_charAt_v753 : en_T := ([(2, 0, 0, [5245]), (0, 0, 0, [])], some (0, 0, 65535, []), true, 3, 0, 0, [], [], (0, [], [], [(23, [2], [93, 1]), (23, [2], [-93, -1])], []))
def o_jLat_charAt_v753_0 : or_T := (14, 7, [(3, (0, 93, 93, [])), (5, (0, 0, 93, [])), (6, (0, 0, 65535, []))], [(22, [6, 5], []), (12, [5, 3], [256])], [], [], [(23, [6], [93, 1]), (23, [6], [-93, -1])], [], [])
theorem oo_jLat_charAt_v753_0 {kA : Nat → ClassId} : or_ok PRD kA GG o_jLat_charAt_v753_0 := by
  refine or_mk fun A ta ws vs hD hth hl => ?_
  intro t3 k3 t5 k5 t6 k6 f0 f1
  replace f0 := shm_47 f0
  replace f1 := shm_52 f1
  have nf0 : fc_1 PRD (23, [6], [93, 1]) ws (vs) := by
    refine ⟨nf_in hl rfl, sgq_101 ?_⟩
    · show 1 * v_iv (n_v vs 6) + 0 ≤ 93
      omega
  have nf1 : fc_1 PRD (23, [6], [-93, -1]) ws (vs) := by
    refine ⟨nf_in hl rfl, sgq_102 ?_⟩
    · show (-1) * v_iv (n_v vs 6) + 0 ≤ (-93)
      omega
  refine ⟨(fun _ h => (by cases h)), [], trivial, ?_, (fun _ h => (by cases h))⟩
  rw [List.append_nil]
  exact List.forall_mem_cons.mpr ⟨⟨show (23 : Nat) < 100 from by decide, nf0⟩, List.forall_mem_cons.mpr ⟨⟨show (23 : Nat) < 100 from by decide, nf1⟩, (fun _ h => (by cases h))⟩⟩
def n_jLat_charAt_v753_an : List an_T := []
def t_jLat_charAt_v753_ct : ct_L := [(12, 9, e_jStr_checkIndex_v636), (1000004, 0, en_ro [(2, 0, 0, [5245])] (0, 1, 1, [])), (1000005, 0, en_ro [(2, 0, 0, [5245]), (0, 0, 0, [])] (0, 93, 93, []))]
set_option maxRecDepth 100000 in
theorem c_jLat_charAt_v753 {l : Launch} {D : va_G} {kA : Nat → ClassId} : ct_ok PRD l D kA GG y_jLat_charAt z_jLat_charAt e_jLat_charAt_v753 := chk_all_ok (FT := []) (PT := []) (CT := t_jLat_charAt_v753_ct) (KT := []) (NT := []) (AN := n_jLat_charAt_v753_an) (OT := [o_jLat_charAt_v753_0]) 0 200 (List.forall_mem_cons.mpr ⟨oo_jLat_charAt_v753_0, List.forall_mem_nil _⟩) (by decide +kernel) ⟨List.forall_mem_nil _, List.forall_mem_nil _, List.forall_mem_cons.mpr ⟨cl_static (y := y_jStr_checkIndex) c_jStr_checkIndex_v636 wm_694 wm_11 wm_692 wm_693 ⟨by decide, by decide, by decide +kernel⟩ (by decide), List.forall_mem_cons.mpr ⟨cl_tlen (i := 45) (n := 1) rfl (by decide +kernel) (by decide +kernel) (by decide +kernel), List.forall_mem_cons.mpr ⟨cl_tbyte (i := 45) (n := 1) rfl (by decide +kernel) (by decide +kernel) (by decide +kernel) (by decide +kernel), List.forall_mem_nil _⟩⟩⟩, List.forall_mem_nil _, List.forall_mem_nil _, GG_pl⟩ (by decide +kernel)
def e_jStr_charAt_v258 : en_T := ([(2, 0, 0, [5004]), (0, 0, 38, [])], some (0, 0, 65535, []), true, 4, 0, 0, [], [], (0, [], [], [], []))
def o_jStr_charAt_v258_0 : or_T := (1000000, 0, [], [], [], [], [], [], [])
theorem oo_jStr_charAt_v258_0 {kA : Nat → ClassId} : or_ok PRD kA GG o_jStr_charAt_v258_0 := fun _ _ _ _ _ _ _ _ _ _ => ⟨fun q h => (by cases h), [], trivial, fun f h => (by cases h), fun q h => (by cases h)⟩
def n_jStr_charAt_v258_an : List an_T := []
def t_jStr_charAt_v258_ct : ct_L := [(7, 492, e_jStr_isLatin1_v259), (39, 495, e_jLat_charAt_v260), (1000003, 9, en_ro [(2, 0, 0, [5004])] (2, 0, 0, [5204]))]
set_option maxRecDepth 100000 in
theorem c_jStr_charAt_v258 {l : Launch} {D : va_G} {kA : Nat → ClassId} : ct_ok PRD l D kA GG y_jStr_charAt z_jStr_charAt e_jStr_charAt_v258 := chk_all_ok (FT := []) (PT := []) (CT := t_jStr_charAt_v258_ct) (KT := []) (NT := []) (AN := n_jStr_charAt_v258_an) (OT := [o_jStr_charAt_v258_0]) 0 200 (List.forall_mem_cons.mpr ⟨oo_jStr_charAt_v258_0, List.forall_mem_nil _⟩) (by decide +kernel) ⟨List.forall_mem_nil _, List.forall_mem_nil _, List.forall_mem_cons.mpr ⟨cl_stringS (y := y_jStr_isLatin1) (rs := ro_strs) rfl (by decide +kernel) rfl c_jStr_isLatin1_v259 wm_688 wm_11 wm_685 wm_686 wm_687 ⟨by decide, by decide, by decide +kernel⟩ (by decide), List.forall_mem_cons.mpr ⟨cl_static (y := y_jLat_charAt) c_jLat_charAt_v260 wm_691 wm_12 wm_689 wm_690 ⟨by decide, by decide, by decide +kernel⟩ (by decide), List.forall_mem_cons.mpr ⟨cl_value (i := 4) wm_3969 rfl (by decide +kernel) (by decide +kernel) (by decide +kernel), List.forall_mem_nil _⟩⟩⟩, List.forall_mem_nil _, List.forall_mem_nil _, GG_pl⟩ (by decide +kernel)
def e_jStr_charAt_v263 : en_T := ([(2, 0, 0, [5006]), (0, 0, 9, [])], some (0, 0, 65535, []), true, 4, 0, 0, [], [], (0, [], [], [], []))
def o_jStr_charAt_v263_0 : or_T := (1000000, 0, [], [], [], [], [], [], [])
theorem oo_jStr_charAt_v263_0 {kA : Nat → ClassId} : or_ok PRD kA GG o_jStr_charAt_v263_0 := fun _ _ _ _ _ _ _ _ _ _ => ⟨fun q h => (by cases h), [], trivial, fun f h => (by cases h), fun q h => (by cases h)⟩
def n_jStr_charAt_v263_an : List an_T := []
def t_jStr_charAt_v263_ct : ct_L := [(7, 492, e_jStr_isLatin1_v259), (39, 495, e_jLat_charAt_v264), (1000003, 9, en_ro [(2, 0, 0, [5006])] (2, 0, 0, [5206]))]
set_option maxRecDepth 100000 in
theorem c_jStr_charAt_v263 {l : Launch} {D : va_G} {kA : Nat → ClassId} : ct_ok PRD l D kA GG y_jStr_charAt z_jStr_charAt e_jStr_charAt_v263 := chk_all_ok (FT := []) (PT := []) (CT := t_jStr_charAt_v263_ct) (KT := []) (NT := []) (AN := n_jStr_charAt_v263_an) (OT := [o_jStr_charAt_v263_0]) 0 200 (List.forall_mem_cons.mpr ⟨oo_jStr_charAt_v263_0, List.forall_mem_nil _⟩) (by decide +kernel) ⟨List.forall_mem_nil _, List.forall_mem_nil _, List.forall_mem_cons.mpr ⟨cl_stringS (y := y_jStr_isLatin1) (rs := ro_strs) rfl (by decide +kernel) rfl c_jStr_isLatin1_v259 wm_688 wm_11 wm_685 wm_686 wm_687 ⟨by decide, by decide, by decide +kernel⟩ (by decide), List.forall_mem_cons.mpr ⟨cl_static (y := y_jLat_charAt) c_jLat_charAt_v264 wm_691 wm_12 wm_689 wm_690 ⟨by decide, by decide, by decide +kernel⟩ (by decide), List.forall_mem_cons.mpr ⟨cl_value (i := 6) wm_3969 rfl (by decide +kernel) (by decide +kernel) (by decide +kernel), List.forall_mem_nil _⟩⟩⟩, List.forall_mem_nil _, List.forall_mem_nil _, GG_pl⟩ (by decide +kernel)
def e_jStr_charAt_v267 : en_T := ([(2, 0, 0, [5007]), (0, 0, 43, [])], some (0, 0, 65535, []), true, 4, 0, 0, [], [], (0, [], [], [], []))
def o_jStr_charAt_v267_0 : or_T := (1000000, 0, [], [], [], [], [], [], [])
theorem oo_jStr_charAt_v267_0 {kA : Nat → ClassId} : or_ok PRD kA GG o_jStr_charAt_v267_0 := fun _ _ _ _ _ _ _ _ _ _ => ⟨fun q h => (by cases h), [], trivial, fun f h => (by cases h), fun q h => (by cases h)⟩
def n_jStr_charAt_v267_an : List an_T := []
def t_jStr_charAt_v267_ct : ct_L := [(7, 492, e_jStr_isLatin1_v259), (39, 495, e_jLat_charAt_v268), (1000003, 9, en_ro [(2, 0, 0, [5007])] (2, 0, 0, [5207]))]
set_option maxRecDepth 100000 in
theorem c_jStr_charAt_v267 {l : Launch} {D : va_G} {kA : Nat → ClassId} : ct_ok PRD l D kA GG y_jStr_charAt z_jStr_charAt e_jStr_charAt_v267 := chk_all_ok (FT := []) (PT := []) (CT := t_jStr_charAt_v267_ct) (KT := []) (NT := []) (AN := n_jStr_charAt_v267_an) (OT := [o_jStr_charAt_v267_0]) 0 200 (List.forall_mem_cons.mpr ⟨oo_jStr_charAt_v267_0, List.forall_mem_nil _⟩) (by decide +kernel) ⟨List.forall_mem_nil _, List.forall_mem_nil _, List.forall_mem_cons.mpr ⟨cl_stringS (y := y_jStr_isLatin1) (rs := ro_strs) rfl (by decide +kernel) rfl c_jStr_isLatin1_v259 wm_688 wm_11 wm_685 wm_686 wm_687 ⟨by decide, by decide, by decide +kernel⟩ (by decide), List.forall_mem_cons.mpr ⟨cl_static (y := y_jLat_charAt) c_jLat_charAt_v268 wm_691 wm_12 wm_689 wm_690 ⟨by decide, by decide, by decide +kernel⟩ (by decide), List.forall_mem_cons.mpr ⟨cl_value (i := 7) wm_3969 rfl (by decide +kernel) (by decide +kernel) (by decide +kernel), List.forall_mem_nil _⟩⟩⟩, List.forall_mem_nil _, List.forall_mem_nil _, GG_pl⟩ (by decide +kernel)
def e_jStr_charAt_v271 : en_T := ([(2, 0, 0, [5008]), (0, 0, 2, [])], some (0, 0, 65535, []), true, 4, 0, 0, [], [], (0, [], [], [], []))
def o_jStr_charAt_v271_0 : or_T := (1000000, 0, [], [], [], [], [], [], [])
theorem oo_jStr_charAt_v271_0 {kA : Nat → ClassId} : or_ok PRD kA GG o_jStr_charAt_v271_0 := fun _ _ _ _ _ _ _ _ _ _ => ⟨fun q h => (by cases h), [], trivial, fun f h => (by cases h), fun q h => (by cases h)⟩
def n_jStr_charAt_v271_an : List an_T := []
def t_jStr_charAt_v271_ct : ct_L := [(7, 492, e_jStr_isLatin1_v259), (39, 495, e_jLat_charAt_v272), (1000003, 9, en_ro [(2, 0, 0, [5008])] (2, 0, 0, [5208]))]
set_option maxRecDepth 100000 in
theorem c_jStr_charAt_v271 {l : Launch} {D : va_G} {kA : Nat → ClassId} : ct_ok PRD l D kA GG y_jStr_charAt z_jStr_charAt e_jStr_charAt_v271 := chk_all_ok (FT := []) (PT := []) (CT := t_jStr_charAt_v271_ct) (KT := []) (NT := []) (AN := n_jStr_charAt_v271_an) (OT := [o_jStr_charAt_v271_0]) 0 200 (List.forall_mem_cons.mpr ⟨oo_jStr_charAt_v271_0, List.forall_mem_nil _⟩) (by decide +kernel) ⟨List.forall_mem_nil _, List.forall_mem_nil _, List.forall_mem_cons.mpr ⟨cl_stringS (y := y_jStr_isLatin1) (rs := ro_strs) rfl (by decide +kernel) rfl c_jStr_isLatin1_v259 wm_688 wm_11 wm_685 wm_686 wm_687 ⟨by decide, by decide, by decide +kernel⟩ (by decide), List.forall_mem_cons.mpr ⟨cl_static (y := y_jLat_charAt) c_jLat_charAt_v272 wm_691 wm_12 wm_689 wm_690 ⟨by decide, by decide, by decide +kernel⟩ (by decide), List.forall_mem_cons.mpr ⟨cl_value (i := 8) wm_3969 rfl (by decide +kernel) (by decide +kernel) (by decide +kernel), List.forall_mem_nil _⟩⟩⟩, List.forall_mem_nil _, List.forall_mem_nil _, GG_pl⟩ (by decide +kernel)
def e_jStr_charAt_v275 : en_T := ([(2, 0, 0, [5009]), (0, 0, 3, [])], some (0, 0, 65535, []), true, 4, 0, 0, [], [], (0, [], [], [], []))
def o_jStr_charAt_v275_0 : or_T := (1000000, 0, [], [], [], [], [], [], [])
theorem oo_jStr_charAt_v275_0 {kA : Nat → ClassId} : or_ok PRD kA GG o_jStr_charAt_v275_0 := fun _ _ _ _ _ _ _ _ _ _ => ⟨fun q h => (by cases h), [], trivial, fun f h => (by cases h), fun q h => (by cases h)⟩
def n_jStr_charAt_v275_an : List an_T := []
def t_jStr_charAt_v275_ct : ct_L := [(7, 492, e_jStr_isLatin1_v259), (39, 495, e_jLat_charAt_v276), (1000003, 9, en_ro [(2, 0, 0, [5009])] (2, 0, 0, [5209]))]
set_option maxRecDepth 100000 in
theorem c_jStr_charAt_v275 {l : Launch} {D : va_G} {kA : Nat → ClassId} : ct_ok PRD l D kA GG y_jStr_charAt z_jStr_charAt e_jStr_charAt_v275 := chk_all_ok (FT := []) (PT := []) (CT := t_jStr_charAt_v275_ct) (KT := []) (NT := []) (AN := n_jStr_charAt_v275_an) (OT := [o_jStr_charAt_v275_0]) 0 200 (List.forall_mem_cons.mpr ⟨oo_jStr_charAt_v275_0, List.forall_mem_nil _⟩) (by decide +kernel) ⟨List.forall_mem_nil _, List.forall_mem_nil _, List.forall_mem_cons.mpr ⟨cl_stringS (y := y_jStr_isLatin1) (rs := ro_strs) rfl (by decide +kernel) rfl c_jStr_isLatin1_v259 wm_688 wm_11 wm_685 wm_686 wm_687 ⟨by decide, by decide, by decide +kernel⟩ (by decide), List.forall_mem_cons.mpr ⟨cl_static (y := y_jLat_charAt) c_jLat_charAt_v276 wm_691 wm_12 wm_689 wm_690 ⟨by decide, by decide, by decide +kernel⟩ (by decide), List.forall_mem_cons.mpr ⟨cl_value (i := 9) wm_3969 rfl (by decide +kernel) (by decide +kernel) (by decide +kernel), List.forall_mem_nil _⟩⟩⟩, List.forall_mem_nil _, List.forall_mem_nil _, GG_pl⟩ (by decide +kernel)
def e_jStr_charAt_v279 : en_T := ([(2, 0, 0, [5010]), (0, 0, 3, [])], some (0, 0, 65535, []), true, 4, 0, 0, [], [], (0, [], [], [], []))
def o_jStr_charAt_v279_0 : or_T := (1000000, 0, [], [], [], [], [], [], [])
theorem oo_jStr_charAt_v279_0 {kA : Nat → ClassId} : or_ok PRD kA GG o_jStr_charAt_v279_0 := fun _ _ _ _ _ _ _ _ _ _ => ⟨fun q h => (by cases h), [], trivial, fun f h => (by cases h), fun q h => (by cases h)⟩
def n_jStr_charAt_v279_an : List an_T := []
def t_jStr_charAt_v279_ct : ct_L := [(7, 492, e_jStr_isLatin1_v259), (39, 495, e_jLat_charAt_v280), (1000003, 9, en_ro [(2, 0, 0, [5010])] (2, 0, 0, [5210]))]
set_option maxRecDepth 100000 in
theorem c_jStr_charAt_v279 {l : Launch} {D : va_G} {kA : Nat → ClassId} : ct_ok PRD l D kA GG y_jStr_charAt z_jStr_charAt e_jStr_charAt_v279 := chk_all_ok (FT := []) (PT := []) (CT := t_jStr_charAt_v279_ct) (KT := []) (NT := []) (AN := n_jStr_charAt_v279_an) (OT := [o_jStr_charAt_v279_0]) 0 200 (List.forall_mem_cons.mpr ⟨oo_jStr_charAt_v279_0, List.forall_mem_nil _⟩) (by decide +kernel) ⟨List.forall_mem_nil _, List.forall_mem_nil _, List.forall_mem_cons.mpr ⟨cl_stringS (y := y_jStr_isLatin1) (rs := ro_strs) rfl (by decide +kernel) rfl c_jStr_isLatin1_v259 wm_688 wm_11 wm_685 wm_686 wm_687 ⟨by decide, by decide, by decide +kernel⟩ (by decide), List.forall_mem_cons.mpr ⟨cl_static (y := y_jLat_charAt) c_jLat_charAt_v280 wm_691 wm_12 wm_689 wm_690 ⟨by decide, by decide, by decide +kernel⟩ (by decide), List.forall_mem_cons.mpr ⟨cl_value (i := 10) wm_3969 rfl (by decide +kernel) (by decide +kernel) (by decide +kernel), List.forall_mem_nil _⟩⟩⟩, List.forall_mem_nil _, List.forall_mem_nil _, GG_pl⟩ (by decide +kernel)
def e_jStr_charAt_v281 : en_T := ([(2, 0, 0, [5011]), (0, 0, 2, [])], some (0, 0, 65535, []), true, 4, 0, 0, [], [], (0, [], [], [], []))
def o_jStr_charAt_v281_0 : or_T := (1000000, 0, [], [], [], [], [], [], [])
theorem oo_jStr_charAt_v281_0 {kA : Nat → ClassId} : or_ok PRD kA GG o_jStr_charAt_v281_0 := fun _ _ _ _ _ _ _ _ _ _ => ⟨fun q h => (by cases h), [], trivial, fun f h => (by cases h), fun q h => (by cases h)⟩
def n_jStr_charAt_v281_an : List an_T := []
def t_jStr_charAt_v281_ct : ct_L := [(7, 492, e_jStr_isLatin1_v259), (39, 495, e_jLat_charAt_v282), (1000003, 9, en_ro [(2, 0, 0, [5011])] (2, 0, 0, [5211]))]
set_option maxRecDepth 100000 in
theorem c_jStr_charAt_v281 {l : Launch} {D : va_G} {kA : Nat → ClassId} : ct_ok PRD l D kA GG y_jStr_charAt z_jStr_charAt e_jStr_charAt_v281 := chk_all_ok (FT := []) (PT := []) (CT := t_jStr_charAt_v281_ct) (KT := []) (NT := []) (AN := n_jStr_charAt_v281_an) (OT := [o_jStr_charAt_v281_0]) 0 200 (List.forall_mem_cons.mpr ⟨oo_jStr_charAt_v281_0, List.forall_mem_nil _⟩) (by decide +kernel) ⟨List.forall_mem_nil _, List.forall_mem_nil _, List.forall_mem_cons.mpr ⟨cl_stringS (y := y_jStr_isLatin1) (rs := ro_strs) rfl (by decide +kernel) rfl c_jStr_isLatin1_v259 wm_688 wm_11 wm_685 wm_686 wm_687 ⟨by decide, by decide, by decide +kernel⟩ (by decide), List.forall_mem_cons.mpr ⟨cl_static (y := y_jLat_charAt) c_jLat_charAt_v282 wm_691 wm_12 wm_689 wm_690 ⟨by decide, by decide, by decide +kernel⟩ (by decide), List.forall_mem_cons.mpr ⟨cl_value (i := 11) wm_3969 rfl (by decide +kernel) (by decide +kernel) (by decide +kernel), List.forall_mem_nil _⟩⟩⟩, List.forall_mem_nil _, List.forall_mem_nil _, GG_pl⟩ (by decide +kernel)
def e_jStr_charAt_v283 : en_T := ([(2, 0, 0, [5012]), (0, 0, 16, [])], some (0, 0, 65535, []), true, 4, 0, 0, [], [], (0, [], [], [], []))
def o_jStr_charAt_v283_0 : or_T := (1000000, 0, [], [], [], [], [], [], [])
theorem oo_jStr_charAt_v283_0 {kA : Nat → ClassId} : or_ok PRD kA GG o_jStr_charAt_v283_0 := fun _ _ _ _ _ _ _ _ _ _ => ⟨fun q h => (by cases h), [], trivial, fun f h => (by cases h), fun q h => (by cases h)⟩
def n_jStr_charAt_v283_an : List an_T := []
def t_jStr_charAt_v283_ct : ct_L := [(7, 492, e_jStr_isLatin1_v259), (39, 495, e_jLat_charAt_v284), (1000003, 9, en_ro [(2, 0, 0, [5012])] (2, 0, 0, [5212]))]
set_option maxRecDepth 100000 in
theorem c_jStr_charAt_v283 {l : Launch} {D : va_G} {kA : Nat → ClassId} : ct_ok PRD l D kA GG y_jStr_charAt z_jStr_charAt e_jStr_charAt_v283 := chk_all_ok (FT := []) (PT := []) (CT := t_jStr_charAt_v283_ct) (KT := []) (NT := []) (AN := n_jStr_charAt_v283_an) (OT := [o_jStr_charAt_v283_0]) 0 200 (List.forall_mem_cons.mpr ⟨oo_jStr_charAt_v283_0, List.forall_mem_nil _⟩) (by decide +kernel) ⟨List.forall_mem_nil _, List.forall_mem_nil _, List.forall_mem_cons.mpr ⟨cl_stringS (y := y_jStr_isLatin1) (rs := ro_strs) rfl (by decide +kernel) rfl c_jStr_isLatin1_v259 wm_688 wm_11 wm_685 wm_686 wm_687 ⟨by decide, by decide, by decide +kernel⟩ (by decide), List.forall_mem_cons.mpr ⟨cl_static (y := y_jLat_charAt) c_jLat_charAt_v284 wm_691 wm_12 wm_689 wm_690 ⟨by decide, by decide, by decide +kernel⟩ (by decide), List.forall_mem_cons.mpr ⟨cl_value (i := 12) wm_3969 rfl (by decide +kernel) (by decide +kernel) (by decide +kernel), List.forall_mem_nil _⟩⟩⟩, List.forall_mem_nil _, List.forall_mem_nil _, GG_pl⟩ (by decide +kernel)
def e_jStr_charAt_v290 : en_T := ([(2, 0, 0, [5000]), (0, 0, 0, [])], some (0, 0, 65535, []), true, 4, 0, 0, [], [], (0, [], [], [(23, [2], [110, 1]), (23, [2], [-110, -1])], []))
def o_jStr_charAt_v290_0 : or_T := (1000000, 0, [], [], [], [], [], [], [])
theorem oo_jStr_charAt_v290_0 {kA : Nat → ClassId} : or_ok PRD kA GG o_jStr_charAt_v290_0 := fun _ _ _ _ _ _ _ _ _ _ => ⟨fun q h => (by cases h), [], trivial, fun f h => (by cases h), fun q h => (by cases h)⟩
def n_jStr_charAt_v290_an : List an_T := []
def t_jStr_charAt_v290_ct : ct_L := [(7, 492, e_jStr_isLatin1_v259), (39, 495, e_jLat_charAt_v291), (1000003, 9, en_ro [(2, 0, 0, [5000])] (2, 0, 0, [5200]))]
set_option maxRecDepth 100000 in
theorem c_jStr_charAt_v290 {l : Launch} {D : va_G} {kA : Nat → ClassId} : ct_ok PRD l D kA GG y_jStr_charAt z_jStr_charAt e_jStr_charAt_v290 := chk_all_ok (FT := []) (PT := []) (CT := t_jStr_charAt_v290_ct) (KT := []) (NT := []) (AN := n_jStr_charAt_v290_an) (OT := [o_jStr_charAt_v290_0]) 0 200 (List.forall_mem_cons.mpr ⟨oo_jStr_charAt_v290_0, List.forall_mem_nil _⟩) (by decide +kernel) ⟨List.forall_mem_nil _, List.forall_mem_nil _, List.forall_mem_cons.mpr ⟨cl_stringS (y := y_jStr_isLatin1) (rs := ro_strs) rfl (by decide +kernel) rfl c_jStr_isLatin1_v259 wm_688 wm_11 wm_685 wm_686 wm_687 ⟨by decide, by decide, by decide +kernel⟩ (by decide), List.forall_mem_cons.mpr ⟨cl_static (y := y_jLat_charAt) c_jLat_charAt_v291 wm_691 wm_12 wm_689 wm_690 ⟨by decide, by decide, by decide +kernel⟩ (by decide), List.forall_mem_cons.mpr ⟨cl_value (i := 0) wm_3969 rfl (by decide +kernel) (by decide +kernel) (by decide +kernel), List.forall_mem_nil _⟩⟩⟩, List.forall_mem_nil _, List.forall_mem_nil _, GG_pl⟩ (by decide +kernel)
def e_jStr_charAt_v294 : en_T := ([(2, 0, 0, [5000]), (0, 1, 1, [])], some (0, 0, 65535, []), true, 4, 0, 0, [], [], (0, [], [], [(23, [2], [111, 1]), (23, [2], [-111, -1])], []))
def o_jStr_charAt_v294_0 : or_T := (1000000, 0, [], [], [], [], [], [], [])
theorem oo_jStr_charAt_v294_0 {kA : Nat → ClassId} : or_ok PRD kA GG o_jStr_charAt_v294_0 := fun _ _ _ _ _ _ _ _ _ _ => ⟨fun q h => (by cases h), [], trivial, fun f h => (by cases h), fun q h => (by cases h)⟩
def n_jStr_charAt_v294_an : List an_T := []
def t_jStr_charAt_v294_ct : ct_L := [(7, 492, e_jStr_isLatin1_v259), (39, 495, e_jLat_charAt_v295), (1000003, 9, en_ro [(2, 0, 0, [5000])] (2, 0, 0, [5200]))]
set_option maxRecDepth 100000 in
theorem c_jStr_charAt_v294 {l : Launch} {D : va_G} {kA : Nat → ClassId} : ct_ok PRD l D kA GG y_jStr_charAt z_jStr_charAt e_jStr_charAt_v294 := chk_all_ok (FT := []) (PT := []) (CT := t_jStr_charAt_v294_ct) (KT := []) (NT := []) (AN := n_jStr_charAt_v294_an) (OT := [o_jStr_charAt_v294_0]) 0 200 (List.forall_mem_cons.mpr ⟨oo_jStr_charAt_v294_0, List.forall_mem_nil _⟩) (by decide +kernel) ⟨List.forall_mem_nil _, List.forall_mem_nil _, List.forall_mem_cons.mpr ⟨cl_stringS (y := y_jStr_isLatin1) (rs := ro_strs) rfl (by decide +kernel) rfl c_jStr_isLatin1_v259 wm_688 wm_11 wm_685 wm_686 wm_687 ⟨by decide, by decide, by decide +kernel⟩ (by decide), List.forall_mem_cons.mpr ⟨cl_static (y := y_jLat_charAt) c_jLat_charAt_v295 wm_691 wm_12 wm_689 wm_690 ⟨by decide, by decide, by decide +kernel⟩ (by decide), List.forall_mem_cons.mpr ⟨cl_value (i := 0) wm_3969 rfl (by decide +kernel) (by decide +kernel) (by decide +kernel), List.forall_mem_nil _⟩⟩⟩, List.forall_mem_nil _, List.forall_mem_nil _, GG_pl⟩ (by decide +kernel)
def e_jStr_charAt_v298 : en_T := ([(2, 0, 0, [5000]), (0, 2, 2, [])], some (0, 0, 65535, []), true, 4, 0, 0, [], [], (0, [], [], [(23, [2], [100, 1]), (23, [2], [-100, -1])], []))
def o_jStr_charAt_v298_0 : or_T := (1000000, 0, [], [], [], [], [], [], [])
theorem oo_jStr_charAt_v298_0 {kA : Nat → ClassId} : or_ok PRD kA GG o_jStr_charAt_v298_0 := fun _ _ _ _ _ _ _ _ _ _ => ⟨fun q h => (by cases h), [], trivial, fun f h => (by cases h), fun q h => (by cases h)⟩
def n_jStr_charAt_v298_an : List an_T := []
def t_jStr_charAt_v298_ct : ct_L := [(7, 492, e_jStr_isLatin1_v259), (39, 495, e_jLat_charAt_v299), (1000003, 9, en_ro [(2, 0, 0, [5000])] (2, 0, 0, [5200]))]
set_option maxRecDepth 100000 in
theorem c_jStr_charAt_v298 {l : Launch} {D : va_G} {kA : Nat → ClassId} : ct_ok PRD l D kA GG y_jStr_charAt z_jStr_charAt e_jStr_charAt_v298 := chk_all_ok (FT := []) (PT := []) (CT := t_jStr_charAt_v298_ct) (KT := []) (NT := []) (AN := n_jStr_charAt_v298_an) (OT := [o_jStr_charAt_v298_0]) 0 200 (List.forall_mem_cons.mpr ⟨oo_jStr_charAt_v298_0, List.forall_mem_nil _⟩) (by decide +kernel) ⟨List.forall_mem_nil _, List.forall_mem_nil _, List.forall_mem_cons.mpr ⟨cl_stringS (y := y_jStr_isLatin1) (rs := ro_strs) rfl (by decide +kernel) rfl c_jStr_isLatin1_v259 wm_688 wm_11 wm_685 wm_686 wm_687 ⟨by decide, by decide, by decide +kernel⟩ (by decide), List.forall_mem_cons.mpr ⟨cl_static (y := y_jLat_charAt) c_jLat_charAt_v299 wm_691 wm_12 wm_689 wm_690 ⟨by decide, by decide, by decide +kernel⟩ (by decide), List.forall_mem_cons.mpr ⟨cl_value (i := 0) wm_3969 rfl (by decide +kernel) (by decide +kernel) (by decide +kernel), List.forall_mem_nil _⟩⟩⟩, List.forall_mem_nil _, List.forall_mem_nil _, GG_pl⟩ (by decide +kernel)
def e_jStr_charAt_v302 : en_T := ([(2, 0, 0, [5000]), (0, 3, 3, [])], some (0, 0, 65535, []), true, 4, 0, 0, [], [], (0, [], [], [(23, [2], [101, 1]), (23, [2], [-101, -1])], []))
def o_jStr_charAt_v302_0 : or_T := (1000000, 0, [], [], [], [], [], [], [])
theorem oo_jStr_charAt_v302_0 {kA : Nat → ClassId} : or_ok PRD kA GG o_jStr_charAt_v302_0 := fun _ _ _ _ _ _ _ _ _ _ => ⟨fun q h => (by cases h), [], trivial, fun f h => (by cases h), fun q h => (by cases h)⟩
def n_jStr_charAt_v302_an : List an_T := []
def t_jStr_charAt_v302_ct : ct_L := [(7, 492, e_jStr_isLatin1_v259), (39, 495, e_jLat_charAt_v303), (1000003, 9, en_ro [(2, 0, 0, [5000])] (2, 0, 0, [5200]))]
set_option maxRecDepth 100000 in
theorem c_jStr_charAt_v302 {l : Launch} {D : va_G} {kA : Nat → ClassId} : ct_ok PRD l D kA GG y_jStr_charAt z_jStr_charAt e_jStr_charAt_v302 := chk_all_ok (FT := []) (PT := []) (CT := t_jStr_charAt_v302_ct) (KT := []) (NT := []) (AN := n_jStr_charAt_v302_an) (OT := [o_jStr_charAt_v302_0]) 0 200 (List.forall_mem_cons.mpr ⟨oo_jStr_charAt_v302_0, List.forall_mem_nil _⟩) (by decide +kernel) ⟨List.forall_mem_nil _, List.forall_mem_nil _, List.forall_mem_cons.mpr ⟨cl_stringS (y := y_jStr_isLatin1) (rs := ro_strs) rfl (by decide +kernel) rfl c_jStr_isLatin1_v259 wm_688 wm_11 wm_685 wm_686 wm_687 ⟨by decide, by decide, by decide +kernel⟩ (by decide), List.forall_mem_cons.mpr ⟨cl_static (y := y_jLat_charAt) c_jLat_charAt_v303 wm_691 wm_12 wm_689 wm_690 ⟨by decide, by decide, by decide +kernel⟩ (by decide), List.forall_mem_cons.mpr ⟨cl_value (i := 0) wm_3969 rfl (by decide +kernel) (by decide +kernel) (by decide +kernel), List.forall_mem_nil _⟩⟩⟩, List.forall_mem_nil _, List.forall_mem_nil _, GG_pl⟩ (by decide +kernel)
def e_jStr_charAt_v307 : en_T := ([(2, 0, 0, [5001]), (0, 0, 0, [])], some (0, 0, 65535, []), true, 4, 0, 0, [], [], (0, [], [], [(23, [2], [103, 1]), (23, [2], [-103, -1])], []))
def o_jStr_charAt_v307_0 : or_T := (1000000, 0, [], [], [], [], [], [], [])
theorem oo_jStr_charAt_v307_0 {kA : Nat → ClassId} : or_ok PRD kA GG o_jStr_charAt_v307_0 := fun _ _ _ _ _ _ _ _ _ _ => ⟨fun q h => (by cases h), [], trivial, fun f h => (by cases h), fun q h => (by cases h)⟩
def n_jStr_charAt_v307_an : List an_T := []
def t_jStr_charAt_v307_ct : ct_L := [(7, 492, e_jStr_isLatin1_v259), (39, 495, e_jLat_charAt_v308), (1000003, 9, en_ro [(2, 0, 0, [5001])] (2, 0, 0, [5201]))]
set_option maxRecDepth 100000 in
theorem c_jStr_charAt_v307 {l : Launch} {D : va_G} {kA : Nat → ClassId} : ct_ok PRD l D kA GG y_jStr_charAt z_jStr_charAt e_jStr_charAt_v307 := chk_all_ok (FT := []) (PT := []) (CT := t_jStr_charAt_v307_ct) (KT := []) (NT := []) (AN := n_jStr_charAt_v307_an) (OT := [o_jStr_charAt_v307_0]) 0 200 (List.forall_mem_cons.mpr ⟨oo_jStr_charAt_v307_0, List.forall_mem_nil _⟩) (by decide +kernel) ⟨List.forall_mem_nil _, List.forall_mem_nil _, List.forall_mem_cons.mpr ⟨cl_stringS (y := y_jStr_isLatin1) (rs := ro_strs) rfl (by decide +kernel) rfl c_jStr_isLatin1_v259 wm_688 wm_11 wm_685 wm_686 wm_687 ⟨by decide, by decide, by decide +kernel⟩ (by decide), List.forall_mem_cons.mpr ⟨cl_static (y := y_jLat_charAt) c_jLat_charAt_v308 wm_691 wm_12 wm_689 wm_690 ⟨by decide, by decide, by decide +kernel⟩ (by decide), List.forall_mem_cons.mpr ⟨cl_value (i := 1) wm_3969 rfl (by decide +kernel) (by decide +kernel) (by decide +kernel), List.forall_mem_nil _⟩⟩⟩, List.forall_mem_nil _, List.forall_mem_nil _, GG_pl⟩ (by decide +kernel)
def e_jStr_charAt_v311 : en_T := ([(2, 0, 0, [5001]), (0, 1, 1, [])], some (0, 0, 65535, []), true, 4, 0, 0, [], [], (0, [], [], [(23, [2], [114, 1]), (23, [2], [-114, -1])], []))
def o_jStr_charAt_v311_0 : or_T := (1000000, 0, [], [], [], [], [], [], [])
theorem oo_jStr_charAt_v311_0 {kA : Nat → ClassId} : or_ok PRD kA GG o_jStr_charAt_v311_0 := fun _ _ _ _ _ _ _ _ _ _ => ⟨fun q h => (by cases h), [], trivial, fun f h => (by cases h), fun q h => (by cases h)⟩
def n_jStr_charAt_v311_an : List an_T := []
def t_jStr_charAt_v311_ct : ct_L := [(7, 492, e_jStr_isLatin1_v259), (39, 495, e_jLat_charAt_v312), (1000003, 9, en_ro [(2, 0, 0, [5001])] (2, 0, 0, [5201]))]
set_option maxRecDepth 100000 in
theorem c_jStr_charAt_v311 {l : Launch} {D : va_G} {kA : Nat → ClassId} : ct_ok PRD l D kA GG y_jStr_charAt z_jStr_charAt e_jStr_charAt_v311 := chk_all_ok (FT := []) (PT := []) (CT := t_jStr_charAt_v311_ct) (KT := []) (NT := []) (AN := n_jStr_charAt_v311_an) (OT := [o_jStr_charAt_v311_0]) 0 200 (List.forall_mem_cons.mpr ⟨oo_jStr_charAt_v311_0, List.forall_mem_nil _⟩) (by decide +kernel) ⟨List.forall_mem_nil _, List.forall_mem_nil _, List.forall_mem_cons.mpr ⟨cl_stringS (y := y_jStr_isLatin1) (rs := ro_strs) rfl (by decide +kernel) rfl c_jStr_isLatin1_v259 wm_688 wm_11 wm_685 wm_686 wm_687 ⟨by decide, by decide, by decide +kernel⟩ (by decide), List.forall_mem_cons.mpr ⟨cl_static (y := y_jLat_charAt) c_jLat_charAt_v312 wm_691 wm_12 wm_689 wm_690 ⟨by decide, by decide, by decide +kernel⟩ (by decide), List.forall_mem_cons.mpr ⟨cl_value (i := 1) wm_3969 rfl (by decide +kernel) (by decide +kernel) (by decide +kernel), List.forall_mem_nil _⟩⟩⟩, List.forall_mem_nil _, List.forall_mem_nil _, GG_pl⟩ (by decide +kernel)
def e_jStr_charAt_v315 : en_T := ([(2, 0, 0, [5001]), (0, 2, 2, [])], some (0, 0, 65535, []), true, 4, 0, 0, [], [], (0, [], [], [(23, [2], [111, 1]), (23, [2], [-111, -1])], []))
def o_jStr_charAt_v315_0 : or_T := (1000000, 0, [], [], [], [], [], [], [])
theorem oo_jStr_charAt_v315_0 {kA : Nat → ClassId} : or_ok PRD kA GG o_jStr_charAt_v315_0 := fun _ _ _ _ _ _ _ _ _ _ => ⟨fun q h => (by cases h), [], trivial, fun f h => (by cases h), fun q h => (by cases h)⟩
def n_jStr_charAt_v315_an : List an_T := []
def t_jStr_charAt_v315_ct : ct_L := [(7, 492, e_jStr_isLatin1_v259), (39, 495, e_jLat_charAt_v316), (1000003, 9, en_ro [(2, 0, 0, [5001])] (2, 0, 0, [5201]))]
set_option maxRecDepth 100000 in
theorem c_jStr_charAt_v315 {l : Launch} {D : va_G} {kA : Nat → ClassId} : ct_ok PRD l D kA GG y_jStr_charAt z_jStr_charAt e_jStr_charAt_v315 := chk_all_ok (FT := []) (PT := []) (CT := t_jStr_charAt_v315_ct) (KT := []) (NT := []) (AN := n_jStr_charAt_v315_an) (OT := [o_jStr_charAt_v315_0]) 0 200 (List.forall_mem_cons.mpr ⟨oo_jStr_charAt_v315_0, List.forall_mem_nil _⟩) (by decide +kernel) ⟨List.forall_mem_nil _, List.forall_mem_nil _, List.forall_mem_cons.mpr ⟨cl_stringS (y := y_jStr_isLatin1) (rs := ro_strs) rfl (by decide +kernel) rfl c_jStr_isLatin1_v259 wm_688 wm_11 wm_685 wm_686 wm_687 ⟨by decide, by decide, by decide +kernel⟩ (by decide), List.forall_mem_cons.mpr ⟨cl_static (y := y_jLat_charAt) c_jLat_charAt_v316 wm_691 wm_12 wm_689 wm_690 ⟨by decide, by decide, by decide +kernel⟩ (by decide), List.forall_mem_cons.mpr ⟨cl_value (i := 1) wm_3969 rfl (by decide +kernel) (by decide +kernel) (by decide +kernel), List.forall_mem_nil _⟩⟩⟩, List.forall_mem_nil _, List.forall_mem_nil _, GG_pl⟩ (by decide +kernel)
def e_jStr_charAt_v319 : en_T := ([(2, 0, 0, [5001]), (0, 3, 3, [])], some (0, 0, 65535, []), true, 4, 0, 0, [], [], (0, [], [], [(23, [2], [117, 1]), (23, [2], [-117, -1])], []))
def o_jStr_charAt_v319_0 : or_T := (1000000, 0, [], [], [], [], [], [], [])
theorem oo_jStr_charAt_v319_0 {kA : Nat → ClassId} : or_ok PRD kA GG o_jStr_charAt_v319_0 := fun _ _ _ _ _ _ _ _ _ _ => ⟨fun q h => (by cases h), [], trivial, fun f h => (by cases h), fun q h => (by cases h)⟩
def n_jStr_charAt_v319_an : List an_T := []
def t_jStr_charAt_v319_ct : ct_L := [(7, 492, e_jStr_isLatin1_v259), (39, 495, e_jLat_charAt_v320), (1000003, 9, en_ro [(2, 0, 0, [5001])] (2, 0, 0, [5201]))]
set_option maxRecDepth 100000 in
theorem c_jStr_charAt_v319 {l : Launch} {D : va_G} {kA : Nat → ClassId} : ct_ok PRD l D kA GG y_jStr_charAt z_jStr_charAt e_jStr_charAt_v319 := chk_all_ok (FT := []) (PT := []) (CT := t_jStr_charAt_v319_ct) (KT := []) (NT := []) (AN := n_jStr_charAt_v319_an) (OT := [o_jStr_charAt_v319_0]) 0 200 (List.forall_mem_cons.mpr ⟨oo_jStr_charAt_v319_0, List.forall_mem_nil _⟩) (by decide +kernel) ⟨List.forall_mem_nil _, List.forall_mem_nil _, List.forall_mem_cons.mpr ⟨cl_stringS (y := y_jStr_isLatin1) (rs := ro_strs) rfl (by decide +kernel) rfl c_jStr_isLatin1_v259 wm_688 wm_11 wm_685 wm_686 wm_687 ⟨by decide, by decide, by decide +kernel⟩ (by decide), List.forall_mem_cons.mpr ⟨cl_static (y := y_jLat_charAt) c_jLat_charAt_v320 wm_691 wm_12 wm_689 wm_690 ⟨by decide, by decide, by decide +kernel⟩ (by decide), List.forall_mem_cons.mpr ⟨cl_value (i := 1) wm_3969 rfl (by decide +kernel) (by decide +kernel) (by decide +kernel), List.forall_mem_nil _⟩⟩⟩, List.forall_mem_nil _, List.forall_mem_nil _, GG_pl⟩ (by decide +kernel)
def e_jStr_charAt_v323 : en_T := ([(2, 0, 0, [5001]), (0, 4, 4, [])], some (0, 0, 65535, []), true, 4, 0, 0, [], [], (0, [], [], [(23, [2], [112, 1]), (23, [2], [-112, -1])], []))
def o_jStr_charAt_v323_0 : or_T := (1000000, 0, [], [], [], [], [], [], [])
theorem oo_jStr_charAt_v323_0 {kA : Nat → ClassId} : or_ok PRD kA GG o_jStr_charAt_v323_0 := fun _ _ _ _ _ _ _ _ _ _ => ⟨fun q h => (by cases h), [], trivial, fun f h => (by cases h), fun q h => (by cases h)⟩
def n_jStr_charAt_v323_an : List an_T := []
def t_jStr_charAt_v323_ct : ct_L := [(7, 492, e_jStr_isLatin1_v259), (39, 495, e_jLat_charAt_v324), (1000003, 9, en_ro [(2, 0, 0, [5001])] (2, 0, 0, [5201]))]
set_option maxRecDepth 100000 in
theorem c_jStr_charAt_v323 {l : Launch} {D : va_G} {kA : Nat → ClassId} : ct_ok PRD l D kA GG y_jStr_charAt z_jStr_charAt e_jStr_charAt_v323 := chk_all_ok (FT := []) (PT := []) (CT := t_jStr_charAt_v323_ct) (KT := []) (NT := []) (AN := n_jStr_charAt_v323_an) (OT := [o_jStr_charAt_v323_0]) 0 200 (List.forall_mem_cons.mpr ⟨oo_jStr_charAt_v323_0, List.forall_mem_nil _⟩) (by decide +kernel) ⟨List.forall_mem_nil _, List.forall_mem_nil _, List.forall_mem_cons.mpr ⟨cl_stringS (y := y_jStr_isLatin1) (rs := ro_strs) rfl (by decide +kernel) rfl c_jStr_isLatin1_v259 wm_688 wm_11 wm_685 wm_686 wm_687 ⟨by decide, by decide, by decide +kernel⟩ (by decide), List.forall_mem_cons.mpr ⟨cl_static (y := y_jLat_charAt) c_jLat_charAt_v324 wm_691 wm_12 wm_689 wm_690 ⟨by decide, by decide, by decide +kernel⟩ (by decide), List.forall_mem_cons.mpr ⟨cl_value (i := 1) wm_3969 rfl (by decide +kernel) (by decide +kernel) (by decide +kernel), List.forall_mem_nil _⟩⟩⟩, List.forall_mem_nil _, List.forall_mem_nil _, GG_pl⟩ (by decide +kernel)
def e_jStr_charAt_v328 : en_T := ([(2, 0, 0, [5002]), (0, 0, 0, [])], some (0, 0, 65535, []), true, 4, 0, 0, [], [], (0, [], [], [(23, [2], [115, 1]), (23, [2], [-115, -1])], []))
def o_jStr_charAt_v328_0 : or_T := (1000000, 0, [], [], [], [], [], [], [])
theorem oo_jStr_charAt_v328_0 {kA : Nat → ClassId} : or_ok PRD kA GG o_jStr_charAt_v328_0 := fun _ _ _ _ _ _ _ _ _ _ => ⟨fun q h => (by cases h), [], trivial, fun f h => (by cases h), fun q h => (by cases h)⟩
def n_jStr_charAt_v328_an : List an_T := []
def t_jStr_charAt_v328_ct : ct_L := [(7, 492, e_jStr_isLatin1_v259), (39, 495, e_jLat_charAt_v329), (1000003, 9, en_ro [(2, 0, 0, [5002])] (2, 0, 0, [5202]))]
set_option maxRecDepth 100000 in
theorem c_jStr_charAt_v328 {l : Launch} {D : va_G} {kA : Nat → ClassId} : ct_ok PRD l D kA GG y_jStr_charAt z_jStr_charAt e_jStr_charAt_v328 := chk_all_ok (FT := []) (PT := []) (CT := t_jStr_charAt_v328_ct) (KT := []) (NT := []) (AN := n_jStr_charAt_v328_an) (OT := [o_jStr_charAt_v328_0]) 0 200 (List.forall_mem_cons.mpr ⟨oo_jStr_charAt_v328_0, List.forall_mem_nil _⟩) (by decide +kernel) ⟨List.forall_mem_nil _, List.forall_mem_nil _, List.forall_mem_cons.mpr ⟨cl_stringS (y := y_jStr_isLatin1) (rs := ro_strs) rfl (by decide +kernel) rfl c_jStr_isLatin1_v259 wm_688 wm_11 wm_685 wm_686 wm_687 ⟨by decide, by decide, by decide +kernel⟩ (by decide), List.forall_mem_cons.mpr ⟨cl_static (y := y_jLat_charAt) c_jLat_charAt_v329 wm_691 wm_12 wm_689 wm_690 ⟨by decide, by decide, by decide +kernel⟩ (by decide), List.forall_mem_cons.mpr ⟨cl_value (i := 2) wm_3969 rfl (by decide +kernel) (by decide +kernel) (by decide +kernel), List.forall_mem_nil _⟩⟩⟩, List.forall_mem_nil _, List.forall_mem_nil _, GG_pl⟩ (by decide +kernel)
def e_jStr_charAt_v330 : en_T := ([(2, 0, 0, [5002]), (0, 1, 1, [])], some (0, 0, 65535, []), true, 4, 0, 0, [], [], (0, [], [], [(23, [2], [105, 1]), (23, [2], [-105, -1])], []))
def o_jStr_charAt_v330_0 : or_T := (1000000, 0, [], [], [], [], [], [], [])
theorem oo_jStr_charAt_v330_0 {kA : Nat → ClassId} : or_ok PRD kA GG o_jStr_charAt_v330_0 := fun _ _ _ _ _ _ _ _ _ _ => ⟨fun q h => (by cases h), [], trivial, fun f h => (by cases h), fun q h => (by cases h)⟩
def n_jStr_charAt_v330_an : List an_T := []
def t_jStr_charAt_v330_ct : ct_L := [(7, 492, e_jStr_isLatin1_v259), (39, 495, e_jLat_charAt_v331), (1000003, 9, en_ro [(2, 0, 0, [5002])] (2, 0, 0, [5202]))]
set_option maxRecDepth 100000 in
theorem c_jStr_charAt_v330 {l : Launch} {D : va_G} {kA : Nat → ClassId} : ct_ok PRD l D kA GG y_jStr_charAt z_jStr_charAt e_jStr_charAt_v330 := chk_all_ok (FT := []) (PT := []) (CT := t_jStr_charAt_v330_ct) (KT := []) (NT := []) (AN := n_jStr_charAt_v330_an) (OT := [o_jStr_charAt_v330_0]) 0 200 (List.forall_mem_cons.mpr ⟨oo_jStr_charAt_v330_0, List.forall_mem_nil _⟩) (by decide +kernel) ⟨List.forall_mem_nil _, List.forall_mem_nil _, List.forall_mem_cons.mpr ⟨cl_stringS (y := y_jStr_isLatin1) (rs := ro_strs) rfl (by decide +kernel) rfl c_jStr_isLatin1_v259 wm_688 wm_11 wm_685 wm_686 wm_687 ⟨by decide, by decide, by decide +kernel⟩ (by decide), List.forall_mem_cons.mpr ⟨cl_static (y := y_jLat_charAt) c_jLat_charAt_v331 wm_691 wm_12 wm_689 wm_690 ⟨by decide, by decide, by decide +kernel⟩ (by decide), List.forall_mem_cons.mpr ⟨cl_value (i := 2) wm_3969 rfl (by decide +kernel) (by decide +kernel) (by decide +kernel), List.forall_mem_nil _⟩⟩⟩, List.forall_mem_nil _, List.forall_mem_nil _, GG_pl⟩ (by decide +kernel)
def e_jStr_charAt_v332 : en_T := ([(2, 0, 0, [5002]), (0, 2, 2, [])], some (0, 0, 65535, []), true, 4, 0, 0, [], [], (0, [], [], [(23, [2], [122, 1]), (23, [2], [-122, -1])], []))
def o_jStr_charAt_v332_0 : or_T := (1000000, 0, [], [], [], [], [], [], [])
theorem oo_jStr_charAt_v332_0 {kA : Nat → ClassId} : or_ok PRD kA GG o_jStr_charAt_v332_0 := fun _ _ _ _ _ _ _ _ _ _ => ⟨fun q h => (by cases h), [], trivial, fun f h => (by cases h), fun q h => (by cases h)⟩
def n_jStr_charAt_v332_an : List an_T := []
def t_jStr_charAt_v332_ct : ct_L := [(7, 492, e_jStr_isLatin1_v259), (39, 495, e_jLat_charAt_v333), (1000003, 9, en_ro [(2, 0, 0, [5002])] (2, 0, 0, [5202]))]
set_option maxRecDepth 100000 in
theorem c_jStr_charAt_v332 {l : Launch} {D : va_G} {kA : Nat → ClassId} : ct_ok PRD l D kA GG y_jStr_charAt z_jStr_charAt e_jStr_charAt_v332 := chk_all_ok (FT := []) (PT := []) (CT := t_jStr_charAt_v332_ct) (KT := []) (NT := []) (AN := n_jStr_charAt_v332_an) (OT := [o_jStr_charAt_v332_0]) 0 200 (List.forall_mem_cons.mpr ⟨oo_jStr_charAt_v332_0, List.forall_mem_nil _⟩) (by decide +kernel) ⟨List.forall_mem_nil _, List.forall_mem_nil _, List.forall_mem_cons.mpr ⟨cl_stringS (y := y_jStr_isLatin1) (rs := ro_strs) rfl (by decide +kernel) rfl c_jStr_isLatin1_v259 wm_688 wm_11 wm_685 wm_686 wm_687 ⟨by decide, by decide, by decide +kernel⟩ (by decide), List.forall_mem_cons.mpr ⟨cl_static (y := y_jLat_charAt) c_jLat_charAt_v333 wm_691 wm_12 wm_689 wm_690 ⟨by decide, by decide, by decide +kernel⟩ (by decide), List.forall_mem_cons.mpr ⟨cl_value (i := 2) wm_3969 rfl (by decide +kernel) (by decide +kernel) (by decide +kernel), List.forall_mem_nil _⟩⟩⟩, List.forall_mem_nil _, List.forall_mem_nil _, GG_pl⟩ (by decide +kernel)
def e_jStr_charAt_v334 : en_T := ([(2, 0, 0, [5002]), (0, 3, 3, [])], some (0, 0, 65535, []), true, 4, 0, 0, [], [], (0, [], [], [(23, [2], [101, 1]), (23, [2], [-101, -1])], []))
def o_jStr_charAt_v334_0 : or_T := (1000000, 0, [], [], [], [], [], [], [])
theorem oo_jStr_charAt_v334_0 {kA : Nat → ClassId} : or_ok PRD kA GG o_jStr_charAt_v334_0 := fun _ _ _ _ _ _ _ _ _ _ => ⟨fun q h => (by cases h), [], trivial, fun f h => (by cases h), fun q h => (by cases h)⟩
def n_jStr_charAt_v334_an : List an_T := []
def t_jStr_charAt_v334_ct : ct_L := [(7, 492, e_jStr_isLatin1_v259), (39, 495, e_jLat_charAt_v335), (1000003, 9, en_ro [(2, 0, 0, [5002])] (2, 0, 0, [5202]))]
set_option maxRecDepth 100000 in
theorem c_jStr_charAt_v334 {l : Launch} {D : va_G} {kA : Nat → ClassId} : ct_ok PRD l D kA GG y_jStr_charAt z_jStr_charAt e_jStr_charAt_v334 := chk_all_ok (FT := []) (PT := []) (CT := t_jStr_charAt_v334_ct) (KT := []) (NT := []) (AN := n_jStr_charAt_v334_an) (OT := [o_jStr_charAt_v334_0]) 0 200 (List.forall_mem_cons.mpr ⟨oo_jStr_charAt_v334_0, List.forall_mem_nil _⟩) (by decide +kernel) ⟨List.forall_mem_nil _, List.forall_mem_nil _, List.forall_mem_cons.mpr ⟨cl_stringS (y := y_jStr_isLatin1) (rs := ro_strs) rfl (by decide +kernel) rfl c_jStr_isLatin1_v259 wm_688 wm_11 wm_685 wm_686 wm_687 ⟨by decide, by decide, by decide +kernel⟩ (by decide), List.forall_mem_cons.mpr ⟨cl_static (y := y_jLat_charAt) c_jLat_charAt_v335 wm_691 wm_12 wm_689 wm_690 ⟨by decide, by decide, by decide +kernel⟩ (by decide), List.forall_mem_cons.mpr ⟨cl_value (i := 2) wm_3969 rfl (by decide +kernel) (by decide +kernel) (by decide +kernel), List.forall_mem_nil _⟩⟩⟩, List.forall_mem_nil _, List.forall_mem_nil _, GG_pl⟩ (by decide +kernel)
def e_jStr_charAt_v337 : en_T := ([(2, 0, 0, [5003]), (0, 0, 0, [])], some (0, 0, 65535, []), true, 4, 0, 0, [], [], (0, [], [], [(23, [2], [119, 1]), (23, [2], [-119, -1])], []))
def o_jStr_charAt_v337_0 : or_T := (1000000, 0, [], [], [], [], [], [], [])
theorem oo_jStr_charAt_v337_0 {kA : Nat → ClassId} : or_ok PRD kA GG o_jStr_charAt_v337_0 := fun _ _ _ _ _ _ _ _ _ _ => ⟨fun q h => (by cases h), [], trivial, fun f h => (by cases h), fun q h => (by cases h)⟩
def n_jStr_charAt_v337_an : List an_T := []
def t_jStr_charAt_v337_ct : ct_L := [(7, 492, e_jStr_isLatin1_v259), (39, 495, e_jLat_charAt_v338), (1000003, 9, en_ro [(2, 0, 0, [5003])] (2, 0, 0, [5203]))]
set_option maxRecDepth 100000 in
theorem c_jStr_charAt_v337 {l : Launch} {D : va_G} {kA : Nat → ClassId} : ct_ok PRD l D kA GG y_jStr_charAt z_jStr_charAt e_jStr_charAt_v337 := chk_all_ok (FT := []) (PT := []) (CT := t_jStr_charAt_v337_ct) (KT := []) (NT := []) (AN := n_jStr_charAt_v337_an) (OT := [o_jStr_charAt_v337_0]) 0 200 (List.forall_mem_cons.mpr ⟨oo_jStr_charAt_v337_0, List.forall_mem_nil _⟩) (by decide +kernel) ⟨List.forall_mem_nil _, List.forall_mem_nil _, List.forall_mem_cons.mpr ⟨cl_stringS (y := y_jStr_isLatin1) (rs := ro_strs) rfl (by decide +kernel) rfl c_jStr_isLatin1_v259 wm_688 wm_11 wm_685 wm_686 wm_687 ⟨by decide, by decide, by decide +kernel⟩ (by decide), List.forall_mem_cons.mpr ⟨cl_static (y := y_jLat_charAt) c_jLat_charAt_v338 wm_691 wm_12 wm_689 wm_690 ⟨by decide, by decide, by decide +kernel⟩ (by decide), List.forall_mem_cons.mpr ⟨cl_value (i := 3) wm_3969 rfl (by decide +kernel) (by decide +kernel) (by decide +kernel), List.forall_mem_nil _⟩⟩⟩, List.forall_mem_nil _, List.forall_mem_nil _, GG_pl⟩ (by decide +kernel)
def e_jStr_charAt_v341 : en_T := ([(2, 0, 0, [5003]), (0, 1, 1, [])], some (0, 0, 65535, []), true, 4, 0, 0, [], [], (0, [], [], [(23, [2], [101, 1]), (23, [2], [-101, -1])], []))
def o_jStr_charAt_v341_0 : or_T := (1000000, 0, [], [], [], [], [], [], [])
theorem oo_jStr_charAt_v341_0 {kA : Nat → ClassId} : or_ok PRD kA GG o_jStr_charAt_v341_0 := fun _ _ _ _ _ _ _ _ _ _ => ⟨fun q h => (by cases h), [], trivial, fun f h => (by cases h), fun q h => (by cases h)⟩
def n_jStr_charAt_v341_an : List an_T := []
def t_jStr_charAt_v341_ct : ct_L := [(7, 492, e_jStr_isLatin1_v259), (39, 495, e_jLat_charAt_v342), (1000003, 9, en_ro [(2, 0, 0, [5003])] (2, 0, 0, [5203]))]
set_option maxRecDepth 100000 in
theorem c_jStr_charAt_v341 {l : Launch} {D : va_G} {kA : Nat → ClassId} : ct_ok PRD l D kA GG y_jStr_charAt z_jStr_charAt e_jStr_charAt_v341 := chk_all_ok (FT := []) (PT := []) (CT := t_jStr_charAt_v341_ct) (KT := []) (NT := []) (AN := n_jStr_charAt_v341_an) (OT := [o_jStr_charAt_v341_0]) 0 200 (List.forall_mem_cons.mpr ⟨oo_jStr_charAt_v341_0, List.forall_mem_nil _⟩) (by decide +kernel) ⟨List.forall_mem_nil _, List.forall_mem_nil _, List.forall_mem_cons.mpr ⟨cl_stringS (y := y_jStr_isLatin1) (rs := ro_strs) rfl (by decide +kernel) rfl c_jStr_isLatin1_v259 wm_688 wm_11 wm_685 wm_686 wm_687 ⟨by decide, by decide, by decide +kernel⟩ (by decide), List.forall_mem_cons.mpr ⟨cl_static (y := y_jLat_charAt) c_jLat_charAt_v342 wm_691 wm_12 wm_689 wm_690 ⟨by decide, by decide, by decide +kernel⟩ (by decide), List.forall_mem_cons.mpr ⟨cl_value (i := 3) wm_3969 rfl (by decide +kernel) (by decide +kernel) (by decide +kernel), List.forall_mem_nil _⟩⟩⟩, List.forall_mem_nil _, List.forall_mem_nil _, GG_pl⟩ (by decide +kernel)
def e_jStr_charAt_v345 : en_T := ([(2, 0, 0, [5003]), (0, 2, 2, [])], some (0, 0, 65535, []), true, 4, 0, 0, [], [], (0, [], [], [(23, [2], [105, 1]), (23, [2], [-105, -1])], []))
def o_jStr_charAt_v345_0 : or_T := (1000000, 0, [], [], [], [], [], [], [])
theorem oo_jStr_charAt_v345_0 {kA : Nat → ClassId} : or_ok PRD kA GG o_jStr_charAt_v345_0 := fun _ _ _ _ _ _ _ _ _ _ => ⟨fun q h => (by cases h), [], trivial, fun f h => (by cases h), fun q h => (by cases h)⟩
def n_jStr_charAt_v345_an : List an_T := []
def t_jStr_charAt_v345_ct : ct_L := [(7, 492, e_jStr_isLatin1_v259), (39, 495, e_jLat_charAt_v346), (1000003, 9, en_ro [(2, 0, 0, [5003])] (2, 0, 0, [5203]))]
set_option maxRecDepth 100000 in
theorem c_jStr_charAt_v345 {l : Launch} {D : va_G} {kA : Nat → ClassId} : ct_ok PRD l D kA GG y_jStr_charAt z_jStr_charAt e_jStr_charAt_v345 := chk_all_ok (FT := []) (PT := []) (CT := t_jStr_charAt_v345_ct) (KT := []) (NT := []) (AN := n_jStr_charAt_v345_an) (OT := [o_jStr_charAt_v345_0]) 0 200 (List.forall_mem_cons.mpr ⟨oo_jStr_charAt_v345_0, List.forall_mem_nil _⟩) (by decide +kernel) ⟨List.forall_mem_nil _, List.forall_mem_nil _, List.forall_mem_cons.mpr ⟨cl_stringS (y := y_jStr_isLatin1) (rs := ro_strs) rfl (by decide +kernel) rfl c_jStr_isLatin1_v259 wm_688 wm_11 wm_685 wm_686 wm_687 ⟨by decide, by decide, by decide +kernel⟩ (by decide), List.forall_mem_cons.mpr ⟨cl_static (y := y_jLat_charAt) c_jLat_charAt_v346 wm_691 wm_12 wm_689 wm_690 ⟨by decide, by decide, by decide +kernel⟩ (by decide), List.forall_mem_cons.mpr ⟨cl_value (i := 3) wm_3969 rfl (by decide +kernel) (by decide +kernel) (by decide +kernel), List.forall_mem_nil _⟩⟩⟩, List.forall_mem_nil _, List.forall_mem_nil _, GG_pl⟩ (by decide +kernel)
def e_jStr_charAt_v349 : en_T := ([(2, 0, 0, [5003]), (0, 3, 3, [])], some (0, 0, 65535, []), true, 4, 0, 0, [], [], (0, [], [], [(23, [2], [103, 1]), (23, [2], [-103, -1])], []))
def o_jStr_charAt_v349_0 : or_T := (1000000, 0, [], [], [], [], [], [], [])
theorem oo_jStr_charAt_v349_0 {kA : Nat → ClassId} : or_ok PRD kA GG o_jStr_charAt_v349_0 := fun _ _ _ _ _ _ _ _ _ _ => ⟨fun q h => (by cases h), [], trivial, fun f h => (by cases h), fun q h => (by cases h)⟩
def n_jStr_charAt_v349_an : List an_T := []
def t_jStr_charAt_v349_ct : ct_L := [(7, 492, e_jStr_isLatin1_v259), (39, 495, e_jLat_charAt_v350), (1000003, 9, en_ro [(2, 0, 0, [5003])] (2, 0, 0, [5203]))]
set_option maxRecDepth 100000 in
theorem c_jStr_charAt_v349 {l : Launch} {D : va_G} {kA : Nat → ClassId} : ct_ok PRD l D kA GG y_jStr_charAt z_jStr_charAt e_jStr_charAt_v349 := chk_all_ok (FT := []) (PT := []) (CT := t_jStr_charAt_v349_ct) (KT := []) (NT := []) (AN := n_jStr_charAt_v349_an) (OT := [o_jStr_charAt_v349_0]) 0 200 (List.forall_mem_cons.mpr ⟨oo_jStr_charAt_v349_0, List.forall_mem_nil _⟩) (by decide +kernel) ⟨List.forall_mem_nil _, List.forall_mem_nil _, List.forall_mem_cons.mpr ⟨cl_stringS (y := y_jStr_isLatin1) (rs := ro_strs) rfl (by decide +kernel) rfl c_jStr_isLatin1_v259 wm_688 wm_11 wm_685 wm_686 wm_687 ⟨by decide, by decide, by decide +kernel⟩ (by decide), List.forall_mem_cons.mpr ⟨cl_static (y := y_jLat_charAt) c_jLat_charAt_v350 wm_691 wm_12 wm_689 wm_690 ⟨by decide, by decide, by decide +kernel⟩ (by decide), List.forall_mem_cons.mpr ⟨cl_value (i := 3) wm_3969 rfl (by decide +kernel) (by decide +kernel) (by decide +kernel), List.forall_mem_nil _⟩⟩⟩, List.forall_mem_nil _, List.forall_mem_nil _, GG_pl⟩ (by decide +kernel)
def e_jStr_charAt_v353 : en_T := ([(2, 0, 0, [5003]), (0, 4, 4, [])], some (0, 0, 65535, []), true, 4, 0, 0, [], [], (0, [], [], [(23, [2], [104, 1]), (23, [2], [-104, -1])], []))
def o_jStr_charAt_v353_0 : or_T := (1000000, 0, [], [], [], [], [], [], [])
theorem oo_jStr_charAt_v353_0 {kA : Nat → ClassId} : or_ok PRD kA GG o_jStr_charAt_v353_0 := fun _ _ _ _ _ _ _ _ _ _ => ⟨fun q h => (by cases h), [], trivial, fun f h => (by cases h), fun q h => (by cases h)⟩
def n_jStr_charAt_v353_an : List an_T := []
def t_jStr_charAt_v353_ct : ct_L := [(7, 492, e_jStr_isLatin1_v259), (39, 495, e_jLat_charAt_v354), (1000003, 9, en_ro [(2, 0, 0, [5003])] (2, 0, 0, [5203]))]
set_option maxRecDepth 100000 in
theorem c_jStr_charAt_v353 {l : Launch} {D : va_G} {kA : Nat → ClassId} : ct_ok PRD l D kA GG y_jStr_charAt z_jStr_charAt e_jStr_charAt_v353 := chk_all_ok (FT := []) (PT := []) (CT := t_jStr_charAt_v353_ct) (KT := []) (NT := []) (AN := n_jStr_charAt_v353_an) (OT := [o_jStr_charAt_v353_0]) 0 200 (List.forall_mem_cons.mpr ⟨oo_jStr_charAt_v353_0, List.forall_mem_nil _⟩) (by decide +kernel) ⟨List.forall_mem_nil _, List.forall_mem_nil _, List.forall_mem_cons.mpr ⟨cl_stringS (y := y_jStr_isLatin1) (rs := ro_strs) rfl (by decide +kernel) rfl c_jStr_isLatin1_v259 wm_688 wm_11 wm_685 wm_686 wm_687 ⟨by decide, by decide, by decide +kernel⟩ (by decide), List.forall_mem_cons.mpr ⟨cl_static (y := y_jLat_charAt) c_jLat_charAt_v354 wm_691 wm_12 wm_689 wm_690 ⟨by decide, by decide, by decide +kernel⟩ (by decide), List.forall_mem_cons.mpr ⟨cl_value (i := 3) wm_3969 rfl (by decide +kernel) (by decide +kernel) (by decide +kernel), List.forall_mem_nil _⟩⟩⟩, List.forall_mem_nil _, List.forall_mem_nil _, GG_pl⟩ (by decide +kernel)
def e_jStr_charAt_v357 : en_T := ([(2, 0, 0, [5003]), (0, 5, 5, [])], some (0, 0, 65535, []), true, 4, 0, 0, [], [], (0, [], [], [(23, [2], [116, 1]), (23, [2], [-116, -1])], []))
def o_jStr_charAt_v357_0 : or_T := (1000000, 0, [], [], [], [], [], [], [])
theorem oo_jStr_charAt_v357_0 {kA : Nat → ClassId} : or_ok PRD kA GG o_jStr_charAt_v357_0 := fun _ _ _ _ _ _ _ _ _ _ => ⟨fun q h => (by cases h), [], trivial, fun f h => (by cases h), fun q h => (by cases h)⟩
def n_jStr_charAt_v357_an : List an_T := []
def t_jStr_charAt_v357_ct : ct_L := [(7, 492, e_jStr_isLatin1_v259), (39, 495, e_jLat_charAt_v358), (1000003, 9, en_ro [(2, 0, 0, [5003])] (2, 0, 0, [5203]))]
set_option maxRecDepth 100000 in
theorem c_jStr_charAt_v357 {l : Launch} {D : va_G} {kA : Nat → ClassId} : ct_ok PRD l D kA GG y_jStr_charAt z_jStr_charAt e_jStr_charAt_v357 := chk_all_ok (FT := []) (PT := []) (CT := t_jStr_charAt_v357_ct) (KT := []) (NT := []) (AN := n_jStr_charAt_v357_an) (OT := [o_jStr_charAt_v357_0]) 0 200 (List.forall_mem_cons.mpr ⟨oo_jStr_charAt_v357_0, List.forall_mem_nil _⟩) (by decide +kernel) ⟨List.forall_mem_nil _, List.forall_mem_nil _, List.forall_mem_cons.mpr ⟨cl_stringS (y := y_jStr_isLatin1) (rs := ro_strs) rfl (by decide +kernel) rfl c_jStr_isLatin1_v259 wm_688 wm_11 wm_685 wm_686 wm_687 ⟨by decide, by decide, by decide +kernel⟩ (by decide), List.forall_mem_cons.mpr ⟨cl_static (y := y_jLat_charAt) c_jLat_charAt_v358 wm_691 wm_12 wm_689 wm_690 ⟨by decide, by decide, by decide +kernel⟩ (by decide), List.forall_mem_cons.mpr ⟨cl_value (i := 3) wm_3969 rfl (by decide +kernel) (by decide +kernel) (by decide +kernel), List.forall_mem_nil _⟩⟩⟩, List.forall_mem_nil _, List.forall_mem_nil _, GG_pl⟩ (by decide +kernel)
def e_jStr_charAt_v362 : en_T := ([(2, 0, 0, [5013]), (0, 0, 4, [])], some (0, 0, 65535, []), true, 4, 0, 0, [], [], (0, [], [], [], []))
def o_jStr_charAt_v362_0 : or_T := (1000000, 0, [], [], [], [], [], [], [])
theorem oo_jStr_charAt_v362_0 {kA : Nat → ClassId} : or_ok PRD kA GG o_jStr_charAt_v362_0 := fun _ _ _ _ _ _ _ _ _ _ => ⟨fun q h => (by cases h), [], trivial, fun f h => (by cases h), fun q h => (by cases h)⟩
def n_jStr_charAt_v362_an : List an_T := []
def t_jStr_charAt_v362_ct : ct_L := [(7, 492, e_jStr_isLatin1_v259), (39, 495, e_jLat_charAt_v363), (1000003, 9, en_ro [(2, 0, 0, [5013])] (2, 0, 0, [5213]))]
set_option maxRecDepth 100000 in
theorem c_jStr_charAt_v362 {l : Launch} {D : va_G} {kA : Nat → ClassId} : ct_ok PRD l D kA GG y_jStr_charAt z_jStr_charAt e_jStr_charAt_v362 := chk_all_ok (FT := []) (PT := []) (CT := t_jStr_charAt_v362_ct) (KT := []) (NT := []) (AN := n_jStr_charAt_v362_an) (OT := [o_jStr_charAt_v362_0]) 0 200 (List.forall_mem_cons.mpr ⟨oo_jStr_charAt_v362_0, List.forall_mem_nil _⟩) (by decide +kernel) ⟨List.forall_mem_nil _, List.forall_mem_nil _, List.forall_mem_cons.mpr ⟨cl_stringS (y := y_jStr_isLatin1) (rs := ro_strs) rfl (by decide +kernel) rfl c_jStr_isLatin1_v259 wm_688 wm_11 wm_685 wm_686 wm_687 ⟨by decide, by decide, by decide +kernel⟩ (by decide), List.forall_mem_cons.mpr ⟨cl_static (y := y_jLat_charAt) c_jLat_charAt_v363 wm_691 wm_12 wm_689 wm_690 ⟨by decide, by decide, by decide +kernel⟩ (by decide), List.forall_mem_cons.mpr ⟨cl_value (i := 13) wm_3969 rfl (by decide +kernel) (by decide +kernel) (by decide +kernel), List.forall_mem_nil _⟩⟩⟩, List.forall_mem_nil _, List.forall_mem_nil _, GG_pl⟩ (by decide +kernel)
def e_jStr_charAt_v367 : en_T := ([(2, 0, 0, [5014]), (0, 0, 6, [])], some (0, 0, 65535, []), true, 4, 0, 0, [], [], (0, [], [], [], []))
def o_jStr_charAt_v367_0 : or_T := (1000000, 0, [], [], [], [], [], [], [])
theorem oo_jStr_charAt_v367_0 {kA : Nat → ClassId} : or_ok PRD kA GG o_jStr_charAt_v367_0 := fun _ _ _ _ _ _ _ _ _ _ => ⟨fun q h => (by cases h), [], trivial, fun f h => (by cases h), fun q h => (by cases h)⟩
def n_jStr_charAt_v367_an : List an_T := []
def t_jStr_charAt_v367_ct : ct_L := [(7, 492, e_jStr_isLatin1_v259), (39, 495, e_jLat_charAt_v368), (1000003, 9, en_ro [(2, 0, 0, [5014])] (2, 0, 0, [5214]))]
set_option maxRecDepth 100000 in
theorem c_jStr_charAt_v367 {l : Launch} {D : va_G} {kA : Nat → ClassId} : ct_ok PRD l D kA GG y_jStr_charAt z_jStr_charAt e_jStr_charAt_v367 := chk_all_ok (FT := []) (PT := []) (CT := t_jStr_charAt_v367_ct) (KT := []) (NT := []) (AN := n_jStr_charAt_v367_an) (OT := [o_jStr_charAt_v367_0]) 0 200 (List.forall_mem_cons.mpr ⟨oo_jStr_charAt_v367_0, List.forall_mem_nil _⟩) (by decide +kernel) ⟨List.forall_mem_nil _, List.forall_mem_nil _, List.forall_mem_cons.mpr ⟨cl_stringS (y := y_jStr_isLatin1) (rs := ro_strs) rfl (by decide +kernel) rfl c_jStr_isLatin1_v259 wm_688 wm_11 wm_685 wm_686 wm_687 ⟨by decide, by decide, by decide +kernel⟩ (by decide), List.forall_mem_cons.mpr ⟨cl_static (y := y_jLat_charAt) c_jLat_charAt_v368 wm_691 wm_12 wm_689 wm_690 ⟨by decide, by decide, by decide +kernel⟩ (by decide), List.forall_mem_cons.mpr ⟨cl_value (i := 14) wm_3969 rfl (by decide +kernel) (by decide +kernel) (by decide +kernel), List.forall_mem_nil _⟩⟩⟩, List.forall_mem_nil _, List.forall_mem_nil _, GG_pl⟩ (by decide +kernel)
def e_jStr_charAt_v372 : en_T := ([(2, 0, 0, [5015]), (0, 0, 1, [])], some (0, 0, 65535, []), true, 4, 0, 0, [], [], (0, [], [], [], []))
def o_jStr_charAt_v372_0 : or_T := (1000000, 0, [], [], [], [], [], [], [])
theorem oo_jStr_charAt_v372_0 {kA : Nat → ClassId} : or_ok PRD kA GG o_jStr_charAt_v372_0 := fun _ _ _ _ _ _ _ _ _ _ => ⟨fun q h => (by cases h), [], trivial, fun f h => (by cases h), fun q h => (by cases h)⟩
def n_jStr_charAt_v372_an : List an_T := []
def t_jStr_charAt_v372_ct : ct_L := [(7, 492, e_jStr_isLatin1_v259), (39, 495, e_jLat_charAt_v373), (1000003, 9, en_ro [(2, 0, 0, [5015])] (2, 0, 0, [5215]))]
set_option maxRecDepth 100000 in
theorem c_jStr_charAt_v372 {l : Launch} {D : va_G} {kA : Nat → ClassId} : ct_ok PRD l D kA GG y_jStr_charAt z_jStr_charAt e_jStr_charAt_v372 := chk_all_ok (FT := []) (PT := []) (CT := t_jStr_charAt_v372_ct) (KT := []) (NT := []) (AN := n_jStr_charAt_v372_an) (OT := [o_jStr_charAt_v372_0]) 0 200 (List.forall_mem_cons.mpr ⟨oo_jStr_charAt_v372_0, List.forall_mem_nil _⟩) (by decide +kernel) ⟨List.forall_mem_nil _, List.forall_mem_nil _, List.forall_mem_cons.mpr ⟨cl_stringS (y := y_jStr_isLatin1) (rs := ro_strs) rfl (by decide +kernel) rfl c_jStr_isLatin1_v259 wm_688 wm_11 wm_685 wm_686 wm_687 ⟨by decide, by decide, by decide +kernel⟩ (by decide), List.forall_mem_cons.mpr ⟨cl_static (y := y_jLat_charAt) c_jLat_charAt_v373 wm_691 wm_12 wm_689 wm_690 ⟨by decide, by decide, by decide +kernel⟩ (by decide), List.forall_mem_cons.mpr ⟨cl_value (i := 15) wm_3969 rfl (by decide +kernel) (by decide +kernel) (by decide +kernel), List.forall_mem_nil _⟩⟩⟩, List.forall_mem_nil _, List.forall_mem_nil _, GG_pl⟩ (by decide +kernel)
def e_jStr_charAt_v377 : en_T := ([(2, 0, 0, [5016]), (0, 0, 5, [])], some (0, 0, 65535, []), true, 4, 0, 0, [], [], (0, [], [], [], []))
def o_jStr_charAt_v377_0 : or_T := (1000000, 0, [], [], [], [], [], [], [])
theorem oo_jStr_charAt_v377_0 {kA : Nat → ClassId} : or_ok PRD kA GG o_jStr_charAt_v377_0 := fun _ _ _ _ _ _ _ _ _ _ => ⟨fun q h => (by cases h), [], trivial, fun f h => (by cases h), fun q h => (by cases h)⟩
def n_jStr_charAt_v377_an : List an_T := []
def t_jStr_charAt_v377_ct : ct_L := [(7, 492, e_jStr_isLatin1_v259), (39, 495, e_jLat_charAt_v378), (1000003, 9, en_ro [(2, 0, 0, [5016])] (2, 0, 0, [5216]))]
set_option maxRecDepth 100000 in
theorem c_jStr_charAt_v377 {l : Launch} {D : va_G} {kA : Nat → ClassId} : ct_ok PRD l D kA GG y_jStr_charAt z_jStr_charAt e_jStr_charAt_v377 := chk_all_ok (FT := []) (PT := []) (CT := t_jStr_charAt_v377_ct) (KT := []) (NT := []) (AN := n_jStr_charAt_v377_an) (OT := [o_jStr_charAt_v377_0]) 0 200 (List.forall_mem_cons.mpr ⟨oo_jStr_charAt_v377_0, List.forall_mem_nil _⟩) (by decide +kernel) ⟨List.forall_mem_nil _, List.forall_mem_nil _, List.forall_mem_cons.mpr ⟨cl_stringS (y := y_jStr_isLatin1) (rs := ro_strs) rfl (by decide +kernel) rfl c_jStr_isLatin1_v259 wm_688 wm_11 wm_685 wm_686 wm_687 ⟨by decide, by decide, by decide +kernel⟩ (by decide), List.forall_mem_cons.mpr ⟨cl_static (y := y_jLat_charAt) c_jLat_charAt_v378 wm_691 wm_12 wm_689 wm_690 ⟨by decide, by decide, by decide +kernel⟩ (by decide), List.forall_mem_cons.mpr ⟨cl_value (i := 16) wm_3969 rfl (by decide +kernel) (by decide +kernel) (by decide +kernel), List.forall_mem_nil _⟩⟩⟩, List.forall_mem_nil _, List.forall_mem_nil _, GG_pl⟩ (by decide +kernel)
def e_jStr_charAt_v382 : en_T := ([(2, 0, 0, [5017]), (0, 0, 2, [])], some (0, 0, 65535, []), true, 4, 0, 0, [], [], (0, [], [], [], []))
def o_jStr_charAt_v382_0 : or_T := (1000000, 0, [], [], [], [], [], [], [])
theorem oo_jStr_charAt_v382_0 {kA : Nat → ClassId} : or_ok PRD kA GG o_jStr_charAt_v382_0 := fun _ _ _ _ _ _ _ _ _ _ => ⟨fun q h => (by cases h), [], trivial, fun f h => (by cases h), fun q h => (by cases h)⟩
def n_jStr_charAt_v382_an : List an_T := []
def t_jStr_charAt_v382_ct : ct_L := [(7, 492, e_jStr_isLatin1_v259), (39, 495, e_jLat_charAt_v383), (1000003, 9, en_ro [(2, 0, 0, [5017])] (2, 0, 0, [5217]))]
set_option maxRecDepth 100000 in
theorem c_jStr_charAt_v382 {l : Launch} {D : va_G} {kA : Nat → ClassId} : ct_ok PRD l D kA GG y_jStr_charAt z_jStr_charAt e_jStr_charAt_v382 := chk_all_ok (FT := []) (PT := []) (CT := t_jStr_charAt_v382_ct) (KT := []) (NT := []) (AN := n_jStr_charAt_v382_an) (OT := [o_jStr_charAt_v382_0]) 0 200 (List.forall_mem_cons.mpr ⟨oo_jStr_charAt_v382_0, List.forall_mem_nil _⟩) (by decide +kernel) ⟨List.forall_mem_nil _, List.forall_mem_nil _, List.forall_mem_cons.mpr ⟨cl_stringS (y := y_jStr_isLatin1) (rs := ro_strs) rfl (by decide +kernel) rfl c_jStr_isLatin1_v259 wm_688 wm_11 wm_685 wm_686 wm_687 ⟨by decide, by decide, by decide +kernel⟩ (by decide), List.forall_mem_cons.mpr ⟨cl_static (y := y_jLat_charAt) c_jLat_charAt_v383 wm_691 wm_12 wm_689 wm_690 ⟨by decide, by decide, by decide +kernel⟩ (by decide), List.forall_mem_cons.mpr ⟨cl_value (i := 17) wm_3969 rfl (by decide +kernel) (by decide +kernel) (by decide +kernel), List.forall_mem_nil _⟩⟩⟩, List.forall_mem_nil _, List.forall_mem_nil _, GG_pl⟩ (by decide +kernel)
def e_jStr_charAt_v385 : en_T := ([(2, 0, 0, [5018]), (0, 0, 1, [])], some (0, 0, 65535, []), true, 4, 0, 0, [], [], (0, [], [], [], []))
def o_jStr_charAt_v385_0 : or_T := (1000000, 0, [], [], [], [], [], [], [])
theorem oo_jStr_charAt_v385_0 {kA : Nat → ClassId} : or_ok PRD kA GG o_jStr_charAt_v385_0 := fun _ _ _ _ _ _ _ _ _ _ => ⟨fun q h => (by cases h), [], trivial, fun f h => (by cases h), fun q h => (by cases h)⟩
def n_jStr_charAt_v385_an : List an_T := []
def t_jStr_charAt_v385_ct : ct_L := [(7, 492, e_jStr_isLatin1_v259), (39, 495, e_jLat_charAt_v386), (1000003, 9, en_ro [(2, 0, 0, [5018])] (2, 0, 0, [5218]))]
set_option maxRecDepth 100000 in
theorem c_jStr_charAt_v385 {l : Launch} {D : va_G} {kA : Nat → ClassId} : ct_ok PRD l D kA GG y_jStr_charAt z_jStr_charAt e_jStr_charAt_v385 := chk_all_ok (FT := []) (PT := []) (CT := t_jStr_charAt_v385_ct) (KT := []) (NT := []) (AN := n_jStr_charAt_v385_an) (OT := [o_jStr_charAt_v385_0]) 0 200 (List.forall_mem_cons.mpr ⟨oo_jStr_charAt_v385_0, List.forall_mem_nil _⟩) (by decide +kernel) ⟨List.forall_mem_nil _, List.forall_mem_nil _, List.forall_mem_cons.mpr ⟨cl_stringS (y := y_jStr_isLatin1) (rs := ro_strs) rfl (by decide +kernel) rfl c_jStr_isLatin1_v259 wm_688 wm_11 wm_685 wm_686 wm_687 ⟨by decide, by decide, by decide +kernel⟩ (by decide), List.forall_mem_cons.mpr ⟨cl_static (y := y_jLat_charAt) c_jLat_charAt_v386 wm_691 wm_12 wm_689 wm_690 ⟨by decide, by decide, by decide +kernel⟩ (by decide), List.forall_mem_cons.mpr ⟨cl_value (i := 18) wm_3969 rfl (by decide +kernel) (by decide +kernel) (by decide +kernel), List.forall_mem_nil _⟩⟩⟩, List.forall_mem_nil _, List.forall_mem_nil _, GG_pl⟩ (by decide +kernel)
def e_jStr_charAt_v388 : en_T := ([(2, 0, 0, [5019]), (0, 0, 2, [])], some (0, 0, 65535, []), true, 4, 0, 0, [], [], (0, [], [], [], []))
def o_jStr_charAt_v388_0 : or_T := (1000000, 0, [], [], [], [], [], [], [])
theorem oo_jStr_charAt_v388_0 {kA : Nat → ClassId} : or_ok PRD kA GG o_jStr_charAt_v388_0 := fun _ _ _ _ _ _ _ _ _ _ => ⟨fun q h => (by cases h), [], trivial, fun f h => (by cases h), fun q h => (by cases h)⟩
def n_jStr_charAt_v388_an : List an_T := []
def t_jStr_charAt_v388_ct : ct_L := [(7, 492, e_jStr_isLatin1_v259), (39, 495, e_jLat_charAt_v389), (1000003, 9, en_ro [(2, 0, 0, [5019])] (2, 0, 0, [5219]))]
set_option maxRecDepth 100000 in
theorem c_jStr_charAt_v388 {l : Launch} {D : va_G} {kA : Nat → ClassId} : ct_ok PRD l D kA GG y_jStr_charAt z_jStr_charAt e_jStr_charAt_v388 := chk_all_ok (FT := []) (PT := []) (CT := t_jStr_charAt_v388_ct) (KT := []) (NT := []) (AN := n_jStr_charAt_v388_an) (OT := [o_jStr_charAt_v388_0]) 0 200 (List.forall_mem_cons.mpr ⟨oo_jStr_charAt_v388_0, List.forall_mem_nil _⟩) (by decide +kernel) ⟨List.forall_mem_nil _, List.forall_mem_nil _, List.forall_mem_cons.mpr ⟨cl_stringS (y := y_jStr_isLatin1) (rs := ro_strs) rfl (by decide +kernel) rfl c_jStr_isLatin1_v259 wm_688 wm_11 wm_685 wm_686 wm_687 ⟨by decide, by decide, by decide +kernel⟩ (by decide), List.forall_mem_cons.mpr ⟨cl_static (y := y_jLat_charAt) c_jLat_charAt_v389 wm_691 wm_12 wm_689 wm_690 ⟨by decide, by decide, by decide +kernel⟩ (by decide), List.forall_mem_cons.mpr ⟨cl_value (i := 19) wm_3969 rfl (by decide +kernel) (by decide +kernel) (by decide +kernel), List.forall_mem_nil _⟩⟩⟩, List.forall_mem_nil _, List.forall_mem_nil _, GG_pl⟩ (by decide +kernel)
def e_jStr_charAt_v391 : en_T := ([(2, 0, 0, [5020]), (0, 0, 2, [])], some (0, 0, 65535, []), true, 4, 0, 0, [], [], (0, [], [], [], []))
def o_jStr_charAt_v391_0 : or_T := (1000000, 0, [], [], [], [], [], [], [])
theorem oo_jStr_charAt_v391_0 {kA : Nat → ClassId} : or_ok PRD kA GG o_jStr_charAt_v391_0 := fun _ _ _ _ _ _ _ _ _ _ => ⟨fun q h => (by cases h), [], trivial, fun f h => (by cases h), fun q h => (by cases h)⟩
def n_jStr_charAt_v391_an : List an_T := []
def t_jStr_charAt_v391_ct : ct_L := [(7, 492, e_jStr_isLatin1_v259), (39, 495, e_jLat_charAt_v392), (1000003, 9, en_ro [(2, 0, 0, [5020])] (2, 0, 0, [5220]))]
set_option maxRecDepth 100000 in
theorem c_jStr_charAt_v391 {l : Launch} {D : va_G} {kA : Nat → ClassId} : ct_ok PRD l D kA GG y_jStr_charAt z_jStr_charAt e_jStr_charAt_v391 := chk_all_ok (FT := []) (PT := []) (CT := t_jStr_charAt_v391_ct) (KT := []) (NT := []) (AN := n_jStr_charAt_v391_an) (OT := [o_jStr_charAt_v391_0]) 0 200 (List.forall_mem_cons.mpr ⟨oo_jStr_charAt_v391_0, List.forall_mem_nil _⟩) (by decide +kernel) ⟨List.forall_mem_nil _, List.forall_mem_nil _, List.forall_mem_cons.mpr ⟨cl_stringS (y := y_jStr_isLatin1) (rs := ro_strs) rfl (by decide +kernel) rfl c_jStr_isLatin1_v259 wm_688 wm_11 wm_685 wm_686 wm_687 ⟨by decide, by decide, by decide +kernel⟩ (by decide), List.forall_mem_cons.mpr ⟨cl_static (y := y_jLat_charAt) c_jLat_charAt_v392 wm_691 wm_12 wm_689 wm_690 ⟨by decide, by decide, by decide +kernel⟩ (by decide), List.forall_mem_cons.mpr ⟨cl_value (i := 20) wm_3969 rfl (by decide +kernel) (by decide +kernel) (by decide +kernel), List.forall_mem_nil _⟩⟩⟩, List.forall_mem_nil _, List.forall_mem_nil _, GG_pl⟩ (by decide +kernel)
def e_jStr_charAt_v394 : en_T := ([(2, 0, 0, [5021]), (0, 0, 8, [])], some (0, 0, 65535, []), true, 4, 0, 0, [], [], (0, [], [], [], []))
def o_jStr_charAt_v394_0 : or_T := (1000000, 0, [], [], [], [], [], [], [])
theorem oo_jStr_charAt_v394_0 {kA : Nat → ClassId} : or_ok PRD kA GG o_jStr_charAt_v394_0 := fun _ _ _ _ _ _ _ _ _ _ => ⟨fun q h => (by cases h), [], trivial, fun f h => (by cases h), fun q h => (by cases h)⟩
def n_jStr_charAt_v394_an : List an_T := []
def t_jStr_charAt_v394_ct : ct_L := [(7, 492, e_jStr_isLatin1_v259), (39, 495, e_jLat_charAt_v395), (1000003, 9, en_ro [(2, 0, 0, [5021])] (2, 0, 0, [5221]))]
set_option maxRecDepth 100000 in
theorem c_jStr_charAt_v394 {l : Launch} {D : va_G} {kA : Nat → ClassId} : ct_ok PRD l D kA GG y_jStr_charAt z_jStr_charAt e_jStr_charAt_v394 := chk_all_ok (FT := []) (PT := []) (CT := t_jStr_charAt_v394_ct) (KT := []) (NT := []) (AN := n_jStr_charAt_v394_an) (OT := [o_jStr_charAt_v394_0]) 0 200 (List.forall_mem_cons.mpr ⟨oo_jStr_charAt_v394_0, List.forall_mem_nil _⟩) (by decide +kernel) ⟨List.forall_mem_nil _, List.forall_mem_nil _, List.forall_mem_cons.mpr ⟨cl_stringS (y := y_jStr_isLatin1) (rs := ro_strs) rfl (by decide +kernel) rfl c_jStr_isLatin1_v259 wm_688 wm_11 wm_685 wm_686 wm_687 ⟨by decide, by decide, by decide +kernel⟩ (by decide), List.forall_mem_cons.mpr ⟨cl_static (y := y_jLat_charAt) c_jLat_charAt_v395 wm_691 wm_12 wm_689 wm_690 ⟨by decide, by decide, by decide +kernel⟩ (by decide), List.forall_mem_cons.mpr ⟨cl_value (i := 21) wm_3969 rfl (by decide +kernel) (by decide +kernel) (by decide +kernel), List.forall_mem_nil _⟩⟩⟩, List.forall_mem_nil _, List.forall_mem_nil _, GG_pl⟩ (by decide +kernel)
def e_jStr_indexOf1_v398 : en_T := ([(2, 0, 0, [5005]), (0, 0, 127, [])], some (0, -1, 13, []), true, 4, 0, 0, [], [], (0, [], [], [(20, [2, 1], [50, 0, 0, 3, 6, 0, 2, 1, 0, 0, -1, 0, 2, 0, 33, 1, 1])], []))
def o_jStr_indexOf1_v398_0 : or_T := (1000000, 0, [], [], [], [], [], [], [])
theorem oo_jStr_indexOf1_v398_0 {kA : Nat → ClassId} : or_ok PRD kA GG o_jStr_indexOf1_v398_0 := fun _ _ _ _ _ _ _ _ _ _ => ⟨fun q h => (by cases h), [], trivial, fun f h => (by cases h), fun q h => (by cases h)⟩
def n_jStr_indexOf1_v398_an : List an_T := []
def t_jStr_indexOf1_v398_ct : ct_L := [(13, 633, e_jStr_indexOf2_v399)]
set_option maxRecDepth 100000 in
theorem c_jStr_indexOf1_v398 {l : Launch} {D : va_G} {kA : Nat → ClassId} : ct_ok PRD l D kA GG y_jStr_indexOf1 z_jStr_indexOf1 e_jStr_indexOf1_v398 := chk_all_ok (FT := []) (PT := []) (CT := t_jStr_indexOf1_v398_ct) (KT := []) (NT := []) (AN := n_jStr_indexOf1_v398_an) (OT := [o_jStr_indexOf1_v398_0]) 0 200 (List.forall_mem_cons.mpr ⟨oo_jStr_indexOf1_v398_0, List.forall_mem_nil _⟩) (by decide +kernel) ⟨List.forall_mem_nil _, List.forall_mem_nil _, List.forall_mem_cons.mpr ⟨cl_string (y := y_jStr_indexOf2) (i := 5) rfl rfl (by decide +kernel) rfl c_jStr_indexOf2_v399 wm_2173 wm_11 wm_2170 wm_2171 wm_2172 ⟨by decide, by decide, by decide +kernel⟩ (by decide), List.forall_mem_nil _⟩, List.forall_mem_nil _, List.forall_mem_nil _, GG_pl⟩ (by decide +kernel)
def e_jStr_charAt_v413 : en_T := ([(2, 0, 0, [5006]), (0, 0, 0, [])], some (0, 0, 65535, []), true, 4, 0, 0, [], [], (0, [], [], [(23, [2], [110, 1]), (23, [2], [-110, -1])], []))
def o_jStr_charAt_v413_0 : or_T := (1000000, 0, [], [], [], [], [], [], [])
theorem oo_jStr_charAt_v413_0 {kA : Nat → ClassId} : or_ok PRD kA GG o_jStr_charAt_v413_0 := fun _ _ _ _ _ _ _ _ _ _ => ⟨fun q h => (by cases h), [], trivial, fun f h => (by cases h), fun q h => (by cases h)⟩
def n_jStr_charAt_v413_an : List an_T := []
def t_jStr_charAt_v413_ct : ct_L := [(7, 492, e_jStr_isLatin1_v259), (39, 495, e_jLat_charAt_v414), (1000003, 9, en_ro [(2, 0, 0, [5006])] (2, 0, 0, [5206]))]
set_option maxRecDepth 100000 in
theorem c_jStr_charAt_v413 {l : Launch} {D : va_G} {kA : Nat → ClassId} : ct_ok PRD l D kA GG y_jStr_charAt z_jStr_charAt e_jStr_charAt_v413 := chk_all_ok (FT := []) (PT := []) (CT := t_jStr_charAt_v413_ct) (KT := []) (NT := []) (AN := n_jStr_charAt_v413_an) (OT := [o_jStr_charAt_v413_0]) 0 200 (List.forall_mem_cons.mpr ⟨oo_jStr_charAt_v413_0, List.forall_mem_nil _⟩) (by decide +kernel) ⟨List.forall_mem_nil _, List.forall_mem_nil _, List.forall_mem_cons.mpr ⟨cl_stringS (y := y_jStr_isLatin1) (rs := ro_strs) rfl (by decide +kernel) rfl c_jStr_isLatin1_v259 wm_688 wm_11 wm_685 wm_686 wm_687 ⟨by decide, by decide, by decide +kernel⟩ (by decide), List.forall_mem_cons.mpr ⟨cl_static (y := y_jLat_charAt) c_jLat_charAt_v414 wm_691 wm_12 wm_689 wm_690 ⟨by decide, by decide, by decide +kernel⟩ (by decide), List.forall_mem_cons.mpr ⟨cl_value (i := 6) wm_3969 rfl (by decide +kernel) (by decide +kernel) (by decide +kernel), List.forall_mem_nil _⟩⟩⟩, List.forall_mem_nil _, List.forall_mem_nil _, GG_pl⟩ (by decide +kernel)
def e_jStr_charAt_v417 : en_T := ([(2, 0, 0, [5006]), (0, 1, 1, [])], some (0, 0, 65535, []), true, 4, 0, 0, [], [], (0, [], [], [(23, [2], [111, 1]), (23, [2], [-111, -1])], []))
def o_jStr_charAt_v417_0 : or_T := (1000000, 0, [], [], [], [], [], [], [])
theorem oo_jStr_charAt_v417_0 {kA : Nat → ClassId} : or_ok PRD kA GG o_jStr_charAt_v417_0 := fun _ _ _ _ _ _ _ _ _ _ => ⟨fun q h => (by cases h), [], trivial, fun f h => (by cases h), fun q h => (by cases h)⟩
def n_jStr_charAt_v417_an : List an_T := []
def t_jStr_charAt_v417_ct : ct_L := [(7, 492, e_jStr_isLatin1_v259), (39, 495, e_jLat_charAt_v418), (1000003, 9, en_ro [(2, 0, 0, [5006])] (2, 0, 0, [5206]))]
set_option maxRecDepth 100000 in
theorem c_jStr_charAt_v417 {l : Launch} {D : va_G} {kA : Nat → ClassId} : ct_ok PRD l D kA GG y_jStr_charAt z_jStr_charAt e_jStr_charAt_v417 := chk_all_ok (FT := []) (PT := []) (CT := t_jStr_charAt_v417_ct) (KT := []) (NT := []) (AN := n_jStr_charAt_v417_an) (OT := [o_jStr_charAt_v417_0]) 0 200 (List.forall_mem_cons.mpr ⟨oo_jStr_charAt_v417_0, List.forall_mem_nil _⟩) (by decide +kernel) ⟨List.forall_mem_nil _, List.forall_mem_nil _, List.forall_mem_cons.mpr ⟨cl_stringS (y := y_jStr_isLatin1) (rs := ro_strs) rfl (by decide +kernel) rfl c_jStr_isLatin1_v259 wm_688 wm_11 wm_685 wm_686 wm_687 ⟨by decide, by decide, by decide +kernel⟩ (by decide), List.forall_mem_cons.mpr ⟨cl_static (y := y_jLat_charAt) c_jLat_charAt_v418 wm_691 wm_12 wm_689 wm_690 ⟨by decide, by decide, by decide +kernel⟩ (by decide), List.forall_mem_cons.mpr ⟨cl_value (i := 6) wm_3969 rfl (by decide +kernel) (by decide +kernel) (by decide +kernel), List.forall_mem_nil _⟩⟩⟩, List.forall_mem_nil _, List.forall_mem_nil _, GG_pl⟩ (by decide +kernel)
def e_jStr_charAt_v421 : en_T := ([(2, 0, 0, [5006]), (0, 2, 2, [])], some (0, 0, 65535, []), true, 4, 0, 0, [], [], (0, [], [], [(23, [2], [100, 1]), (23, [2], [-100, -1])], []))
def o_jStr_charAt_v421_0 : or_T := (1000000, 0, [], [], [], [], [], [], [])
theorem oo_jStr_charAt_v421_0 {kA : Nat → ClassId} : or_ok PRD kA GG o_jStr_charAt_v421_0 := fun _ _ _ _ _ _ _ _ _ _ => ⟨fun q h => (by cases h), [], trivial, fun f h => (by cases h), fun q h => (by cases h)⟩
def n_jStr_charAt_v421_an : List an_T := []
def t_jStr_charAt_v421_ct : ct_L := [(7, 492, e_jStr_isLatin1_v259), (39, 495, e_jLat_charAt_v422), (1000003, 9, en_ro [(2, 0, 0, [5006])] (2, 0, 0, [5206]))]
set_option maxRecDepth 100000 in
theorem c_jStr_charAt_v421 {l : Launch} {D : va_G} {kA : Nat → ClassId} : ct_ok PRD l D kA GG y_jStr_charAt z_jStr_charAt e_jStr_charAt_v421 := chk_all_ok (FT := []) (PT := []) (CT := t_jStr_charAt_v421_ct) (KT := []) (NT := []) (AN := n_jStr_charAt_v421_an) (OT := [o_jStr_charAt_v421_0]) 0 200 (List.forall_mem_cons.mpr ⟨oo_jStr_charAt_v421_0, List.forall_mem_nil _⟩) (by decide +kernel) ⟨List.forall_mem_nil _, List.forall_mem_nil _, List.forall_mem_cons.mpr ⟨cl_stringS (y := y_jStr_isLatin1) (rs := ro_strs) rfl (by decide +kernel) rfl c_jStr_isLatin1_v259 wm_688 wm_11 wm_685 wm_686 wm_687 ⟨by decide, by decide, by decide +kernel⟩ (by decide), List.forall_mem_cons.mpr ⟨cl_static (y := y_jLat_charAt) c_jLat_charAt_v422 wm_691 wm_12 wm_689 wm_690 ⟨by decide, by decide, by decide +kernel⟩ (by decide), List.forall_mem_cons.mpr ⟨cl_value (i := 6) wm_3969 rfl (by decide +kernel) (by decide +kernel) (by decide +kernel), List.forall_mem_nil _⟩⟩⟩, List.forall_mem_nil _, List.forall_mem_nil _, GG_pl⟩ (by decide +kernel)
def e_jStr_charAt_v425 : en_T := ([(2, 0, 0, [5006]), (0, 3, 3, [])], some (0, 0, 65535, []), true, 4, 0, 0, [], [], (0, [], [], [(23, [2], [101, 1]), (23, [2], [-101, -1])], []))
def o_jStr_charAt_v425_0 : or_T := (1000000, 0, [], [], [], [], [], [], [])
theorem oo_jStr_charAt_v425_0 {kA : Nat → ClassId} : or_ok PRD kA GG o_jStr_charAt_v425_0 := fun _ _ _ _ _ _ _ _ _ _ => ⟨fun q h => (by cases h), [], trivial, fun f h => (by cases h), fun q h => (by cases h)⟩
def n_jStr_charAt_v425_an : List an_T := []
def t_jStr_charAt_v425_ct : ct_L := [(7, 492, e_jStr_isLatin1_v259), (39, 495, e_jLat_charAt_v426), (1000003, 9, en_ro [(2, 0, 0, [5006])] (2, 0, 0, [5206]))]
set_option maxRecDepth 100000 in
theorem c_jStr_charAt_v425 {l : Launch} {D : va_G} {kA : Nat → ClassId} : ct_ok PRD l D kA GG y_jStr_charAt z_jStr_charAt e_jStr_charAt_v425 := chk_all_ok (FT := []) (PT := []) (CT := t_jStr_charAt_v425_ct) (KT := []) (NT := []) (AN := n_jStr_charAt_v425_an) (OT := [o_jStr_charAt_v425_0]) 0 200 (List.forall_mem_cons.mpr ⟨oo_jStr_charAt_v425_0, List.forall_mem_nil _⟩) (by decide +kernel) ⟨List.forall_mem_nil _, List.forall_mem_nil _, List.forall_mem_cons.mpr ⟨cl_stringS (y := y_jStr_isLatin1) (rs := ro_strs) rfl (by decide +kernel) rfl c_jStr_isLatin1_v259 wm_688 wm_11 wm_685 wm_686 wm_687 ⟨by decide, by decide, by decide +kernel⟩ (by decide), List.forall_mem_cons.mpr ⟨cl_static (y := y_jLat_charAt) c_jLat_charAt_v426 wm_691 wm_12 wm_689 wm_690 ⟨by decide, by decide, by decide +kernel⟩ (by decide), List.forall_mem_cons.mpr ⟨cl_value (i := 6) wm_3969 rfl (by decide +kernel) (by decide +kernel) (by decide +kernel), List.forall_mem_nil _⟩⟩⟩, List.forall_mem_nil _, List.forall_mem_nil _, GG_pl⟩ (by decide +kernel)
def e_jStr_charAt_v429 : en_T := ([(2, 0, 0, [5006]), (0, 4, 4, [])], some (0, 0, 65535, []), true, 4, 0, 0, [], [], (0, [], [], [(23, [2], [32, 1]), (23, [2], [-32, -1])], []))
def o_jStr_charAt_v429_0 : or_T := (1000000, 0, [], [], [], [], [], [], [])
theorem oo_jStr_charAt_v429_0 {kA : Nat → ClassId} : or_ok PRD kA GG o_jStr_charAt_v429_0 := fun _ _ _ _ _ _ _ _ _ _ => ⟨fun q h => (by cases h), [], trivial, fun f h => (by cases h), fun q h => (by cases h)⟩
def n_jStr_charAt_v429_an : List an_T := []
def t_jStr_charAt_v429_ct : ct_L := [(7, 492, e_jStr_isLatin1_v259), (39, 495, e_jLat_charAt_v430), (1000003, 9, en_ro [(2, 0, 0, [5006])] (2, 0, 0, [5206]))]
set_option maxRecDepth 100000 in
theorem c_jStr_charAt_v429 {l : Launch} {D : va_G} {kA : Nat → ClassId} : ct_ok PRD l D kA GG y_jStr_charAt z_jStr_charAt e_jStr_charAt_v429 := chk_all_ok (FT := []) (PT := []) (CT := t_jStr_charAt_v429_ct) (KT := []) (NT := []) (AN := n_jStr_charAt_v429_an) (OT := [o_jStr_charAt_v429_0]) 0 200 (List.forall_mem_cons.mpr ⟨oo_jStr_charAt_v429_0, List.forall_mem_nil _⟩) (by decide +kernel) ⟨List.forall_mem_nil _, List.forall_mem_nil _, List.forall_mem_cons.mpr ⟨cl_stringS (y := y_jStr_isLatin1) (rs := ro_strs) rfl (by decide +kernel) rfl c_jStr_isLatin1_v259 wm_688 wm_11 wm_685 wm_686 wm_687 ⟨by decide, by decide, by decide +kernel⟩ (by decide), List.forall_mem_cons.mpr ⟨cl_static (y := y_jLat_charAt) c_jLat_charAt_v430 wm_691 wm_12 wm_689 wm_690 ⟨by decide, by decide, by decide +kernel⟩ (by decide), List.forall_mem_cons.mpr ⟨cl_value (i := 6) wm_3969 rfl (by decide +kernel) (by decide +kernel) (by decide +kernel), List.forall_mem_nil _⟩⟩⟩, List.forall_mem_nil _, List.forall_mem_nil _, GG_pl⟩ (by decide +kernel)
def e_jStr_charAt_v433 : en_T := ([(2, 0, 0, [5006]), (0, 5, 5, [])], some (0, 0, 65535, []), true, 4, 0, 0, [], [], (0, [], [], [(23, [2], [101, 1]), (23, [2], [-101, -1])], []))
def o_jStr_charAt_v433_0 : or_T := (1000000, 0, [], [], [], [], [], [], [])
theorem oo_jStr_charAt_v433_0 {kA : Nat → ClassId} : or_ok PRD kA GG o_jStr_charAt_v433_0 := fun _ _ _ _ _ _ _ _ _ _ => ⟨fun q h => (by cases h), [], trivial, fun f h => (by cases h), fun q h => (by cases h)⟩
def n_jStr_charAt_v433_an : List an_T := []
def t_jStr_charAt_v433_ct : ct_L := [(7, 492, e_jStr_isLatin1_v259), (39, 495, e_jLat_charAt_v434), (1000003, 9, en_ro [(2, 0, 0, [5006])] (2, 0, 0, [5206]))]
set_option maxRecDepth 100000 in
theorem c_jStr_charAt_v433 {l : Launch} {D : va_G} {kA : Nat → ClassId} : ct_ok PRD l D kA GG y_jStr_charAt z_jStr_charAt e_jStr_charAt_v433 := chk_all_ok (FT := []) (PT := []) (CT := t_jStr_charAt_v433_ct) (KT := []) (NT := []) (AN := n_jStr_charAt_v433_an) (OT := [o_jStr_charAt_v433_0]) 0 200 (List.forall_mem_cons.mpr ⟨oo_jStr_charAt_v433_0, List.forall_mem_nil _⟩) (by decide +kernel) ⟨List.forall_mem_nil _, List.forall_mem_nil _, List.forall_mem_cons.mpr ⟨cl_stringS (y := y_jStr_isLatin1) (rs := ro_strs) rfl (by decide +kernel) rfl c_jStr_isLatin1_v259 wm_688 wm_11 wm_685 wm_686 wm_687 ⟨by decide, by decide, by decide +kernel⟩ (by decide), List.forall_mem_cons.mpr ⟨cl_static (y := y_jLat_charAt) c_jLat_charAt_v434 wm_691 wm_12 wm_689 wm_690 ⟨by decide, by decide, by decide +kernel⟩ (by decide), List.forall_mem_cons.mpr ⟨cl_value (i := 6) wm_3969 rfl (by decide +kernel) (by decide +kernel) (by decide +kernel), List.forall_mem_nil _⟩⟩⟩, List.forall_mem_nil _, List.forall_mem_nil _, GG_pl⟩ (by decide +kernel)
def e_jStr_charAt_v437 : en_T := ([(2, 0, 0, [5006]), (0, 6, 6, [])], some (0, 0, 65535, []), true, 4, 0, 0, [], [], (0, [], [], [(23, [2], [100, 1]), (23, [2], [-100, -1])], []))
def o_jStr_charAt_v437_0 : or_T := (1000000, 0, [], [], [], [], [], [], [])
theorem oo_jStr_charAt_v437_0 {kA : Nat → ClassId} : or_ok PRD kA GG o_jStr_charAt_v437_0 := fun _ _ _ _ _ _ _ _ _ _ => ⟨fun q h => (by cases h), [], trivial, fun f h => (by cases h), fun q h => (by cases h)⟩
def n_jStr_charAt_v437_an : List an_T := []
def t_jStr_charAt_v437_ct : ct_L := [(7, 492, e_jStr_isLatin1_v259), (39, 495, e_jLat_charAt_v438), (1000003, 9, en_ro [(2, 0, 0, [5006])] (2, 0, 0, [5206]))]
set_option maxRecDepth 100000 in
theorem c_jStr_charAt_v437 {l : Launch} {D : va_G} {kA : Nat → ClassId} : ct_ok PRD l D kA GG y_jStr_charAt z_jStr_charAt e_jStr_charAt_v437 := chk_all_ok (FT := []) (PT := []) (CT := t_jStr_charAt_v437_ct) (KT := []) (NT := []) (AN := n_jStr_charAt_v437_an) (OT := [o_jStr_charAt_v437_0]) 0 200 (List.forall_mem_cons.mpr ⟨oo_jStr_charAt_v437_0, List.forall_mem_nil _⟩) (by decide +kernel) ⟨List.forall_mem_nil _, List.forall_mem_nil _, List.forall_mem_cons.mpr ⟨cl_stringS (y := y_jStr_isLatin1) (rs := ro_strs) rfl (by decide +kernel) rfl c_jStr_isLatin1_v259 wm_688 wm_11 wm_685 wm_686 wm_687 ⟨by decide, by decide, by decide +kernel⟩ (by decide), List.forall_mem_cons.mpr ⟨cl_static (y := y_jLat_charAt) c_jLat_charAt_v438 wm_691 wm_12 wm_689 wm_690 ⟨by decide, by decide, by decide +kernel⟩ (by decide), List.forall_mem_cons.mpr ⟨cl_value (i := 6) wm_3969 rfl (by decide +kernel) (by decide +kernel) (by decide +kernel), List.forall_mem_nil _⟩⟩⟩, List.forall_mem_nil _, List.forall_mem_nil _, GG_pl⟩ (by decide +kernel)
def e_jStr_charAt_v441 : en_T := ([(2, 0, 0, [5006]), (0, 7, 7, [])], some (0, 0, 65535, []), true, 4, 0, 0, [], [], (0, [], [], [(23, [2], [103, 1]), (23, [2], [-103, -1])], []))
def o_jStr_charAt_v441_0 : or_T := (1000000, 0, [], [], [], [], [], [], [])
theorem oo_jStr_charAt_v441_0 {kA : Nat → ClassId} : or_ok PRD kA GG o_jStr_charAt_v441_0 := fun _ _ _ _ _ _ _ _ _ _ => ⟨fun q h => (by cases h), [], trivial, fun f h => (by cases h), fun q h => (by cases h)⟩
def n_jStr_charAt_v441_an : List an_T := []
def t_jStr_charAt_v441_ct : ct_L := [(7, 492, e_jStr_isLatin1_v259), (39, 495, e_jLat_charAt_v442), (1000003, 9, en_ro [(2, 0, 0, [5006])] (2, 0, 0, [5206]))]
set_option maxRecDepth 100000 in
theorem c_jStr_charAt_v441 {l : Launch} {D : va_G} {kA : Nat → ClassId} : ct_ok PRD l D kA GG y_jStr_charAt z_jStr_charAt e_jStr_charAt_v441 := chk_all_ok (FT := []) (PT := []) (CT := t_jStr_charAt_v441_ct) (KT := []) (NT := []) (AN := n_jStr_charAt_v441_an) (OT := [o_jStr_charAt_v441_0]) 0 200 (List.forall_mem_cons.mpr ⟨oo_jStr_charAt_v441_0, List.forall_mem_nil _⟩) (by decide +kernel) ⟨List.forall_mem_nil _, List.forall_mem_nil _, List.forall_mem_cons.mpr ⟨cl_stringS (y := y_jStr_isLatin1) (rs := ro_strs) rfl (by decide +kernel) rfl c_jStr_isLatin1_v259 wm_688 wm_11 wm_685 wm_686 wm_687 ⟨by decide, by decide, by decide +kernel⟩ (by decide), List.forall_mem_cons.mpr ⟨cl_static (y := y_jLat_charAt) c_jLat_charAt_v442 wm_691 wm_12 wm_689 wm_690 ⟨by decide, by decide, by decide +kernel⟩ (by decide), List.forall_mem_cons.mpr ⟨cl_value (i := 6) wm_3969 rfl (by decide +kernel) (by decide +kernel) (by decide +kernel), List.forall_mem_nil _⟩⟩⟩, List.forall_mem_nil _, List.forall_mem_nil _, GG_pl⟩ (by decide +kernel)
def e_jStr_charAt_v445 : en_T := ([(2, 0, 0, [5006]), (0, 8, 8, [])], some (0, 0, 65535, []), true, 4, 0, 0, [], [], (0, [], [], [(23, [2], [101, 1]), (23, [2], [-101, -1])], []))
def o_jStr_charAt_v445_0 : or_T := (1000000, 0, [], [], [], [], [], [], [])
theorem oo_jStr_charAt_v445_0 {kA : Nat → ClassId} : or_ok PRD kA GG o_jStr_charAt_v445_0 := fun _ _ _ _ _ _ _ _ _ _ => ⟨fun q h => (by cases h), [], trivial, fun f h => (by cases h), fun q h => (by cases h)⟩
def n_jStr_charAt_v445_an : List an_T := []
def t_jStr_charAt_v445_ct : ct_L := [(7, 492, e_jStr_isLatin1_v259), (39, 495, e_jLat_charAt_v446), (1000003, 9, en_ro [(2, 0, 0, [5006])] (2, 0, 0, [5206]))]
set_option maxRecDepth 100000 in
theorem c_jStr_charAt_v445 {l : Launch} {D : va_G} {kA : Nat → ClassId} : ct_ok PRD l D kA GG y_jStr_charAt z_jStr_charAt e_jStr_charAt_v445 := chk_all_ok (FT := []) (PT := []) (CT := t_jStr_charAt_v445_ct) (KT := []) (NT := []) (AN := n_jStr_charAt_v445_an) (OT := [o_jStr_charAt_v445_0]) 0 200 (List.forall_mem_cons.mpr ⟨oo_jStr_charAt_v445_0, List.forall_mem_nil _⟩) (by decide +kernel) ⟨List.forall_mem_nil _, List.forall_mem_nil _, List.forall_mem_cons.mpr ⟨cl_stringS (y := y_jStr_isLatin1) (rs := ro_strs) rfl (by decide +kernel) rfl c_jStr_isLatin1_v259 wm_688 wm_11 wm_685 wm_686 wm_687 ⟨by decide, by decide, by decide +kernel⟩ (by decide), List.forall_mem_cons.mpr ⟨cl_static (y := y_jLat_charAt) c_jLat_charAt_v446 wm_691 wm_12 wm_689 wm_690 ⟨by decide, by decide, by decide +kernel⟩ (by decide), List.forall_mem_cons.mpr ⟨cl_value (i := 6) wm_3969 rfl (by decide +kernel) (by decide +kernel) (by decide +kernel), List.forall_mem_nil _⟩⟩⟩, List.forall_mem_nil _, List.forall_mem_nil _, GG_pl⟩ (by decide +kernel)
def e_jStr_charAt_v449 : en_T := ([(2, 0, 0, [5006]), (0, 9, 9, [])], some (0, 0, 65535, []), true, 4, 0, 0, [], [], (0, [], [], [(23, [2], [32, 1]), (23, [2], [-32, -1])], []))
def o_jStr_charAt_v449_0 : or_T := (1000000, 0, [], [], [], [], [], [], [])
theorem oo_jStr_charAt_v449_0 {kA : Nat → ClassId} : or_ok PRD kA GG o_jStr_charAt_v449_0 := fun _ _ _ _ _ _ _ _ _ _ => ⟨fun q h => (by cases h), [], trivial, fun f h => (by cases h), fun q h => (by cases h)⟩
def n_jStr_charAt_v449_an : List an_T := []
def t_jStr_charAt_v449_ct : ct_L := [(7, 492, e_jStr_isLatin1_v259), (39, 495, e_jLat_charAt_v450), (1000003, 9, en_ro [(2, 0, 0, [5006])] (2, 0, 0, [5206]))]
set_option maxRecDepth 100000 in
theorem c_jStr_charAt_v449 {l : Launch} {D : va_G} {kA : Nat → ClassId} : ct_ok PRD l D kA GG y_jStr_charAt z_jStr_charAt e_jStr_charAt_v449 := chk_all_ok (FT := []) (PT := []) (CT := t_jStr_charAt_v449_ct) (KT := []) (NT := []) (AN := n_jStr_charAt_v449_an) (OT := [o_jStr_charAt_v449_0]) 0 200 (List.forall_mem_cons.mpr ⟨oo_jStr_charAt_v449_0, List.forall_mem_nil _⟩) (by decide +kernel) ⟨List.forall_mem_nil _, List.forall_mem_nil _, List.forall_mem_cons.mpr ⟨cl_stringS (y := y_jStr_isLatin1) (rs := ro_strs) rfl (by decide +kernel) rfl c_jStr_isLatin1_v259 wm_688 wm_11 wm_685 wm_686 wm_687 ⟨by decide, by decide, by decide +kernel⟩ (by decide), List.forall_mem_cons.mpr ⟨cl_static (y := y_jLat_charAt) c_jLat_charAt_v450 wm_691 wm_12 wm_689 wm_690 ⟨by decide, by decide, by decide +kernel⟩ (by decide), List.forall_mem_cons.mpr ⟨cl_value (i := 6) wm_3969 rfl (by decide +kernel) (by decide +kernel) (by decide +kernel), List.forall_mem_nil _⟩⟩⟩, List.forall_mem_nil _, List.forall_mem_nil _, GG_pl⟩ (by decide +kernel)
def e_jStr_charAt_v455 : en_T := ([(2, 0, 0, [5008]), (0, 0, 0, [])], some (0, 0, 65535, []), true, 4, 0, 0, [], [], (0, [], [], [(23, [2], [105, 1]), (23, [2], [-105, -1])], []))
def o_jStr_charAt_v455_0 : or_T := (1000000, 0, [], [], [], [], [], [], [])
theorem oo_jStr_charAt_v455_0 {kA : Nat → ClassId} : or_ok PRD kA GG o_jStr_charAt_v455_0 := fun _ _ _ _ _ _ _ _ _ _ => ⟨fun q h => (by cases h), [], trivial, fun f h => (by cases h), fun q h => (by cases h)⟩
def n_jStr_charAt_v455_an : List an_T := []
def t_jStr_charAt_v455_ct : ct_L := [(7, 492, e_jStr_isLatin1_v259), (39, 495, e_jLat_charAt_v456), (1000003, 9, en_ro [(2, 0, 0, [5008])] (2, 0, 0, [5208]))]
set_option maxRecDepth 100000 in
theorem c_jStr_charAt_v455 {l : Launch} {D : va_G} {kA : Nat → ClassId} : ct_ok PRD l D kA GG y_jStr_charAt z_jStr_charAt e_jStr_charAt_v455 := chk_all_ok (FT := []) (PT := []) (CT := t_jStr_charAt_v455_ct) (KT := []) (NT := []) (AN := n_jStr_charAt_v455_an) (OT := [o_jStr_charAt_v455_0]) 0 200 (List.forall_mem_cons.mpr ⟨oo_jStr_charAt_v455_0, List.forall_mem_nil _⟩) (by decide +kernel) ⟨List.forall_mem_nil _, List.forall_mem_nil _, List.forall_mem_cons.mpr ⟨cl_stringS (y := y_jStr_isLatin1) (rs := ro_strs) rfl (by decide +kernel) rfl c_jStr_isLatin1_v259 wm_688 wm_11 wm_685 wm_686 wm_687 ⟨by decide, by decide, by decide +kernel⟩ (by decide), List.forall_mem_cons.mpr ⟨cl_static (y := y_jLat_charAt) c_jLat_charAt_v456 wm_691 wm_12 wm_689 wm_690 ⟨by decide, by decide, by decide +kernel⟩ (by decide), List.forall_mem_cons.mpr ⟨cl_value (i := 8) wm_3969 rfl (by decide +kernel) (by decide +kernel) (by decide +kernel), List.forall_mem_nil _⟩⟩⟩, List.forall_mem_nil _, List.forall_mem_nil _, GG_pl⟩ (by decide +kernel)
def e_jStr_charAt_v459 : en_T := ([(2, 0, 0, [5008]), (0, 1, 1, [])], some (0, 0, 65535, []), true, 4, 0, 0, [], [], (0, [], [], [(23, [2], [102, 1]), (23, [2], [-102, -1])], []))
def o_jStr_charAt_v459_0 : or_T := (1000000, 0, [], [], [], [], [], [], [])
theorem oo_jStr_charAt_v459_0 {kA : Nat → ClassId} : or_ok PRD kA GG o_jStr_charAt_v459_0 := fun _ _ _ _ _ _ _ _ _ _ => ⟨fun q h => (by cases h), [], trivial, fun f h => (by cases h), fun q h => (by cases h)⟩
def n_jStr_charAt_v459_an : List an_T := []
def t_jStr_charAt_v459_ct : ct_L := [(7, 492, e_jStr_isLatin1_v259), (39, 495, e_jLat_charAt_v460), (1000003, 9, en_ro [(2, 0, 0, [5008])] (2, 0, 0, [5208]))]
set_option maxRecDepth 100000 in
theorem c_jStr_charAt_v459 {l : Launch} {D : va_G} {kA : Nat → ClassId} : ct_ok PRD l D kA GG y_jStr_charAt z_jStr_charAt e_jStr_charAt_v459 := chk_all_ok (FT := []) (PT := []) (CT := t_jStr_charAt_v459_ct) (KT := []) (NT := []) (AN := n_jStr_charAt_v459_an) (OT := [o_jStr_charAt_v459_0]) 0 200 (List.forall_mem_cons.mpr ⟨oo_jStr_charAt_v459_0, List.forall_mem_nil _⟩) (by decide +kernel) ⟨List.forall_mem_nil _, List.forall_mem_nil _, List.forall_mem_cons.mpr ⟨cl_stringS (y := y_jStr_isLatin1) (rs := ro_strs) rfl (by decide +kernel) rfl c_jStr_isLatin1_v259 wm_688 wm_11 wm_685 wm_686 wm_687 ⟨by decide, by decide, by decide +kernel⟩ (by decide), List.forall_mem_cons.mpr ⟨cl_static (y := y_jLat_charAt) c_jLat_charAt_v460 wm_691 wm_12 wm_689 wm_690 ⟨by decide, by decide, by decide +kernel⟩ (by decide), List.forall_mem_cons.mpr ⟨cl_value (i := 8) wm_3969 rfl (by decide +kernel) (by decide +kernel) (by decide +kernel), List.forall_mem_nil _⟩⟩⟩, List.forall_mem_nil _, List.forall_mem_nil _, GG_pl⟩ (by decide +kernel)
def e_jStr_charAt_v463 : en_T := ([(2, 0, 0, [5008]), (0, 2, 2, [])], some (0, 0, 65535, []), true, 4, 0, 0, [], [], (0, [], [], [(23, [2], [32, 1]), (23, [2], [-32, -1])], []))
def o_jStr_charAt_v463_0 : or_T := (1000000, 0, [], [], [], [], [], [], [])
theorem oo_jStr_charAt_v463_0 {kA : Nat → ClassId} : or_ok PRD kA GG o_jStr_charAt_v463_0 := fun _ _ _ _ _ _ _ _ _ _ => ⟨fun q h => (by cases h), [], trivial, fun f h => (by cases h), fun q h => (by cases h)⟩
def n_jStr_charAt_v463_an : List an_T := []
def t_jStr_charAt_v463_ct : ct_L := [(7, 492, e_jStr_isLatin1_v259), (39, 495, e_jLat_charAt_v464), (1000003, 9, en_ro [(2, 0, 0, [5008])] (2, 0, 0, [5208]))]
set_option maxRecDepth 100000 in
theorem c_jStr_charAt_v463 {l : Launch} {D : va_G} {kA : Nat → ClassId} : ct_ok PRD l D kA GG y_jStr_charAt z_jStr_charAt e_jStr_charAt_v463 := chk_all_ok (FT := []) (PT := []) (CT := t_jStr_charAt_v463_ct) (KT := []) (NT := []) (AN := n_jStr_charAt_v463_an) (OT := [o_jStr_charAt_v463_0]) 0 200 (List.forall_mem_cons.mpr ⟨oo_jStr_charAt_v463_0, List.forall_mem_nil _⟩) (by decide +kernel) ⟨List.forall_mem_nil _, List.forall_mem_nil _, List.forall_mem_cons.mpr ⟨cl_stringS (y := y_jStr_isLatin1) (rs := ro_strs) rfl (by decide +kernel) rfl c_jStr_isLatin1_v259 wm_688 wm_11 wm_685 wm_686 wm_687 ⟨by decide, by decide, by decide +kernel⟩ (by decide), List.forall_mem_cons.mpr ⟨cl_static (y := y_jLat_charAt) c_jLat_charAt_v464 wm_691 wm_12 wm_689 wm_690 ⟨by decide, by decide, by decide +kernel⟩ (by decide), List.forall_mem_cons.mpr ⟨cl_value (i := 8) wm_3969 rfl (by decide +kernel) (by decide +kernel) (by decide +kernel), List.forall_mem_nil _⟩⟩⟩, List.forall_mem_nil _, List.forall_mem_nil _, GG_pl⟩ (by decide +kernel)
def e_jStr_charAt_v468 : en_T := ([(2, 0, 0, [5009]), (0, 0, 0, [])], some (0, 0, 65535, []), true, 4, 0, 0, [], [], (0, [], [], [(23, [2], [110, 1]), (23, [2], [-110, -1])], []))
def o_jStr_charAt_v468_0 : or_T := (1000000, 0, [], [], [], [], [], [], [])
theorem oo_jStr_charAt_v468_0 {kA : Nat → ClassId} : or_ok PRD kA GG o_jStr_charAt_v468_0 := fun _ _ _ _ _ _ _ _ _ _ => ⟨fun q h => (by cases h), [], trivial, fun f h => (by cases h), fun q h => (by cases h)⟩
def n_jStr_charAt_v468_an : List an_T := []
def t_jStr_charAt_v468_ct : ct_L := [(7, 492, e_jStr_isLatin1_v259), (39, 495, e_jLat_charAt_v469), (1000003, 9, en_ro [(2, 0, 0, [5009])] (2, 0, 0, [5209]))]
set_option maxRecDepth 100000 in
theorem c_jStr_charAt_v468 {l : Launch} {D : va_G} {kA : Nat → ClassId} : ct_ok PRD l D kA GG y_jStr_charAt z_jStr_charAt e_jStr_charAt_v468 := chk_all_ok (FT := []) (PT := []) (CT := t_jStr_charAt_v468_ct) (KT := []) (NT := []) (AN := n_jStr_charAt_v468_an) (OT := [o_jStr_charAt_v468_0]) 0 200 (List.forall_mem_cons.mpr ⟨oo_jStr_charAt_v468_0, List.forall_mem_nil _⟩) (by decide +kernel) ⟨List.forall_mem_nil _, List.forall_mem_nil _, List.forall_mem_cons.mpr ⟨cl_stringS (y := y_jStr_isLatin1) (rs := ro_strs) rfl (by decide +kernel) rfl c_jStr_isLatin1_v259 wm_688 wm_11 wm_685 wm_686 wm_687 ⟨by decide, by decide, by decide +kernel⟩ (by decide), List.forall_mem_cons.mpr ⟨cl_static (y := y_jLat_charAt) c_jLat_charAt_v469 wm_691 wm_12 wm_689 wm_690 ⟨by decide, by decide, by decide +kernel⟩ (by decide), List.forall_mem_cons.mpr ⟨cl_value (i := 9) wm_3969 rfl (by decide +kernel) (by decide +kernel) (by decide +kernel), List.forall_mem_nil _⟩⟩⟩, List.forall_mem_nil _, List.forall_mem_nil _, GG_pl⟩ (by decide +kernel)
def e_jStr_charAt_v470 : en_T := ([(2, 0, 0, [5009]), (0, 1, 1, [])], some (0, 0, 65535, []), true, 4, 0, 0, [], [], (0, [], [], [(23, [2], [111, 1]), (23, [2], [-111, -1])], []))
def o_jStr_charAt_v470_0 : or_T := (1000000, 0, [], [], [], [], [], [], [])
theorem oo_jStr_charAt_v470_0 {kA : Nat → ClassId} : or_ok PRD kA GG o_jStr_charAt_v470_0 := fun _ _ _ _ _ _ _ _ _ _ => ⟨fun q h => (by cases h), [], trivial, fun f h => (by cases h), fun q h => (by cases h)⟩
def n_jStr_charAt_v470_an : List an_T := []
def t_jStr_charAt_v470_ct : ct_L := [(7, 492, e_jStr_isLatin1_v259), (39, 495, e_jLat_charAt_v471), (1000003, 9, en_ro [(2, 0, 0, [5009])] (2, 0, 0, [5209]))]
set_option maxRecDepth 100000 in
theorem c_jStr_charAt_v470 {l : Launch} {D : va_G} {kA : Nat → ClassId} : ct_ok PRD l D kA GG y_jStr_charAt z_jStr_charAt e_jStr_charAt_v470 := chk_all_ok (FT := []) (PT := []) (CT := t_jStr_charAt_v470_ct) (KT := []) (NT := []) (AN := n_jStr_charAt_v470_an) (OT := [o_jStr_charAt_v470_0]) 0 200 (List.forall_mem_cons.mpr ⟨oo_jStr_charAt_v470_0, List.forall_mem_nil _⟩) (by decide +kernel) ⟨List.forall_mem_nil _, List.forall_mem_nil _, List.forall_mem_cons.mpr ⟨cl_stringS (y := y_jStr_isLatin1) (rs := ro_strs) rfl (by decide +kernel) rfl c_jStr_isLatin1_v259 wm_688 wm_11 wm_685 wm_686 wm_687 ⟨by decide, by decide, by decide +kernel⟩ (by decide), List.forall_mem_cons.mpr ⟨cl_static (y := y_jLat_charAt) c_jLat_charAt_v471 wm_691 wm_12 wm_689 wm_690 ⟨by decide, by decide, by decide +kernel⟩ (by decide), List.forall_mem_cons.mpr ⟨cl_value (i := 9) wm_3969 rfl (by decide +kernel) (by decide +kernel) (by decide +kernel), List.forall_mem_nil _⟩⟩⟩, List.forall_mem_nil _, List.forall_mem_nil _, GG_pl⟩ (by decide +kernel)
def e_jStr_charAt_v472 : en_T := ([(2, 0, 0, [5009]), (0, 2, 2, [])], some (0, 0, 65535, []), true, 4, 0, 0, [], [], (0, [], [], [(23, [2], [116, 1]), (23, [2], [-116, -1])], []))
def o_jStr_charAt_v472_0 : or_T := (1000000, 0, [], [], [], [], [], [], [])
theorem oo_jStr_charAt_v472_0 {kA : Nat → ClassId} : or_ok PRD kA GG o_jStr_charAt_v472_0 := fun _ _ _ _ _ _ _ _ _ _ => ⟨fun q h => (by cases h), [], trivial, fun f h => (by cases h), fun q h => (by cases h)⟩
def n_jStr_charAt_v472_an : List an_T := []
def t_jStr_charAt_v472_ct : ct_L := [(7, 492, e_jStr_isLatin1_v259), (39, 495, e_jLat_charAt_v473), (1000003, 9, en_ro [(2, 0, 0, [5009])] (2, 0, 0, [5209]))]
set_option maxRecDepth 100000 in
theorem c_jStr_charAt_v472 {l : Launch} {D : va_G} {kA : Nat → ClassId} : ct_ok PRD l D kA GG y_jStr_charAt z_jStr_charAt e_jStr_charAt_v472 := chk_all_ok (FT := []) (PT := []) (CT := t_jStr_charAt_v472_ct) (KT := []) (NT := []) (AN := n_jStr_charAt_v472_an) (OT := [o_jStr_charAt_v472_0]) 0 200 (List.forall_mem_cons.mpr ⟨oo_jStr_charAt_v472_0, List.forall_mem_nil _⟩) (by decide +kernel) ⟨List.forall_mem_nil _, List.forall_mem_nil _, List.forall_mem_cons.mpr ⟨cl_stringS (y := y_jStr_isLatin1) (rs := ro_strs) rfl (by decide +kernel) rfl c_jStr_isLatin1_v259 wm_688 wm_11 wm_685 wm_686 wm_687 ⟨by decide, by decide, by decide +kernel⟩ (by decide), List.forall_mem_cons.mpr ⟨cl_static (y := y_jLat_charAt) c_jLat_charAt_v473 wm_691 wm_12 wm_689 wm_690 ⟨by decide, by decide, by decide +kernel⟩ (by decide), List.forall_mem_cons.mpr ⟨cl_value (i := 9) wm_3969 rfl (by decide +kernel) (by decide +kernel) (by decide +kernel), List.forall_mem_nil _⟩⟩⟩, List.forall_mem_nil _, List.forall_mem_nil _, GG_pl⟩ (by decide +kernel)
def e_jStr_charAt_v474 : en_T := ([(2, 0, 0, [5009]), (0, 3, 3, [])], some (0, 0, 65535, []), true, 4, 0, 0, [], [], (0, [], [], [(23, [2], [32, 1]), (23, [2], [-32, -1])], []))
def o_jStr_charAt_v474_0 : or_T := (1000000, 0, [], [], [], [], [], [], [])
theorem oo_jStr_charAt_v474_0 {kA : Nat → ClassId} : or_ok PRD kA GG o_jStr_charAt_v474_0 := fun _ _ _ _ _ _ _ _ _ _ => ⟨fun q h => (by cases h), [], trivial, fun f h => (by cases h), fun q h => (by cases h)⟩
def n_jStr_charAt_v474_an : List an_T := []
def t_jStr_charAt_v474_ct : ct_L := [(7, 492, e_jStr_isLatin1_v259), (39, 495, e_jLat_charAt_v475), (1000003, 9, en_ro [(2, 0, 0, [5009])] (2, 0, 0, [5209]))]
set_option maxRecDepth 100000 in
theorem c_jStr_charAt_v474 {l : Launch} {D : va_G} {kA : Nat → ClassId} : ct_ok PRD l D kA GG y_jStr_charAt z_jStr_charAt e_jStr_charAt_v474 := chk_all_ok (FT := []) (PT := []) (CT := t_jStr_charAt_v474_ct) (KT := []) (NT := []) (AN := n_jStr_charAt_v474_an) (OT := [o_jStr_charAt_v474_0]) 0 200 (List.forall_mem_cons.mpr ⟨oo_jStr_charAt_v474_0, List.forall_mem_nil _⟩) (by decide +kernel) ⟨List.forall_mem_nil _, List.forall_mem_nil _, List.forall_mem_cons.mpr ⟨cl_stringS (y := y_jStr_isLatin1) (rs := ro_strs) rfl (by decide +kernel) rfl c_jStr_isLatin1_v259 wm_688 wm_11 wm_685 wm_686 wm_687 ⟨by decide, by decide, by decide +kernel⟩ (by decide), List.forall_mem_cons.mpr ⟨cl_static (y := y_jLat_charAt) c_jLat_charAt_v475 wm_691 wm_12 wm_689 wm_690 ⟨by decide, by decide, by decide +kernel⟩ (by decide), List.forall_mem_cons.mpr ⟨cl_value (i := 9) wm_3969 rfl (by decide +kernel) (by decide +kernel) (by decide +kernel), List.forall_mem_nil _⟩⟩⟩, List.forall_mem_nil _, List.forall_mem_nil _, GG_pl⟩ (by decide +kernel)
def e_jStr_charAt_v477 : en_T := ([(2, 0, 0, [5010]), (0, 0, 0, [])], some (0, 0, 65535, []), true, 4, 0, 0, [], [], (0, [], [], [(23, [2], [97, 1]), (23, [2], [-97, -1])], []))
def o_jStr_charAt_v477_0 : or_T := (1000000, 0, [], [], [], [], [], [], [])
theorem oo_jStr_charAt_v477_0 {kA : Nat → ClassId} : or_ok PRD kA GG o_jStr_charAt_v477_0 := fun _ _ _ _ _ _ _ _ _ _ => ⟨fun q h => (by cases h), [], trivial, fun f h => (by cases h), fun q h => (by cases h)⟩
def n_jStr_charAt_v477_an : List an_T := []
def t_jStr_charAt_v477_ct : ct_L := [(7, 492, e_jStr_isLatin1_v259), (39, 495, e_jLat_charAt_v478), (1000003, 9, en_ro [(2, 0, 0, [5010])] (2, 0, 0, [5210]))]
set_option maxRecDepth 100000 in
theorem c_jStr_charAt_v477 {l : Launch} {D : va_G} {kA : Nat → ClassId} : ct_ok PRD l D kA GG y_jStr_charAt z_jStr_charAt e_jStr_charAt_v477 := chk_all_ok (FT := []) (PT := []) (CT := t_jStr_charAt_v477_ct) (KT := []) (NT := []) (AN := n_jStr_charAt_v477_an) (OT := [o_jStr_charAt_v477_0]) 0 200 (List.forall_mem_cons.mpr ⟨oo_jStr_charAt_v477_0, List.forall_mem_nil _⟩) (by decide +kernel) ⟨List.forall_mem_nil _, List.forall_mem_nil _, List.forall_mem_cons.mpr ⟨cl_stringS (y := y_jStr_isLatin1) (rs := ro_strs) rfl (by decide +kernel) rfl c_jStr_isLatin1_v259 wm_688 wm_11 wm_685 wm_686 wm_687 ⟨by decide, by decide, by decide +kernel⟩ (by decide), List.forall_mem_cons.mpr ⟨cl_static (y := y_jLat_charAt) c_jLat_charAt_v478 wm_691 wm_12 wm_689 wm_690 ⟨by decide, by decide, by decide +kernel⟩ (by decide), List.forall_mem_cons.mpr ⟨cl_value (i := 10) wm_3969 rfl (by decide +kernel) (by decide +kernel) (by decide +kernel), List.forall_mem_nil _⟩⟩⟩, List.forall_mem_nil _, List.forall_mem_nil _, GG_pl⟩ (by decide +kernel)
def e_jStr_charAt_v479 : en_T := ([(2, 0, 0, [5010]), (0, 1, 1, [])], some (0, 0, 65535, []), true, 4, 0, 0, [], [], (0, [], [], [(23, [2], [110, 1]), (23, [2], [-110, -1])], []))
def o_jStr_charAt_v479_0 : or_T := (1000000, 0, [], [], [], [], [], [], [])
theorem oo_jStr_charAt_v479_0 {kA : Nat → ClassId} : or_ok PRD kA GG o_jStr_charAt_v479_0 := fun _ _ _ _ _ _ _ _ _ _ => ⟨fun q h => (by cases h), [], trivial, fun f h => (by cases h), fun q h => (by cases h)⟩
def n_jStr_charAt_v479_an : List an_T := []
def t_jStr_charAt_v479_ct : ct_L := [(7, 492, e_jStr_isLatin1_v259), (39, 495, e_jLat_charAt_v480), (1000003, 9, en_ro [(2, 0, 0, [5010])] (2, 0, 0, [5210]))]
set_option maxRecDepth 100000 in
theorem c_jStr_charAt_v479 {l : Launch} {D : va_G} {kA : Nat → ClassId} : ct_ok PRD l D kA GG y_jStr_charAt z_jStr_charAt e_jStr_charAt_v479 := chk_all_ok (FT := []) (PT := []) (CT := t_jStr_charAt_v479_ct) (KT := []) (NT := []) (AN := n_jStr_charAt_v479_an) (OT := [o_jStr_charAt_v479_0]) 0 200 (List.forall_mem_cons.mpr ⟨oo_jStr_charAt_v479_0, List.forall_mem_nil _⟩) (by decide +kernel) ⟨List.forall_mem_nil _, List.forall_mem_nil _, List.forall_mem_cons.mpr ⟨cl_stringS (y := y_jStr_isLatin1) (rs := ro_strs) rfl (by decide +kernel) rfl c_jStr_isLatin1_v259 wm_688 wm_11 wm_685 wm_686 wm_687 ⟨by decide, by decide, by decide +kernel⟩ (by decide), List.forall_mem_cons.mpr ⟨cl_static (y := y_jLat_charAt) c_jLat_charAt_v480 wm_691 wm_12 wm_689 wm_690 ⟨by decide, by decide, by decide +kernel⟩ (by decide), List.forall_mem_cons.mpr ⟨cl_value (i := 10) wm_3969 rfl (by decide +kernel) (by decide +kernel) (by decide +kernel), List.forall_mem_nil _⟩⟩⟩, List.forall_mem_nil _, List.forall_mem_nil _, GG_pl⟩ (by decide +kernel)
def e_jStr_charAt_v481 : en_T := ([(2, 0, 0, [5010]), (0, 2, 2, [])], some (0, 0, 65535, []), true, 4, 0, 0, [], [], (0, [], [], [(23, [2], [100, 1]), (23, [2], [-100, -1])], []))
def o_jStr_charAt_v481_0 : or_T := (1000000, 0, [], [], [], [], [], [], [])
theorem oo_jStr_charAt_v481_0 {kA : Nat → ClassId} : or_ok PRD kA GG o_jStr_charAt_v481_0 := fun _ _ _ _ _ _ _ _ _ _ => ⟨fun q h => (by cases h), [], trivial, fun f h => (by cases h), fun q h => (by cases h)⟩
def n_jStr_charAt_v481_an : List an_T := []
def t_jStr_charAt_v481_ct : ct_L := [(7, 492, e_jStr_isLatin1_v259), (39, 495, e_jLat_charAt_v482), (1000003, 9, en_ro [(2, 0, 0, [5010])] (2, 0, 0, [5210]))]
set_option maxRecDepth 100000 in
theorem c_jStr_charAt_v481 {l : Launch} {D : va_G} {kA : Nat → ClassId} : ct_ok PRD l D kA GG y_jStr_charAt z_jStr_charAt e_jStr_charAt_v481 := chk_all_ok (FT := []) (PT := []) (CT := t_jStr_charAt_v481_ct) (KT := []) (NT := []) (AN := n_jStr_charAt_v481_an) (OT := [o_jStr_charAt_v481_0]) 0 200 (List.forall_mem_cons.mpr ⟨oo_jStr_charAt_v481_0, List.forall_mem_nil _⟩) (by decide +kernel) ⟨List.forall_mem_nil _, List.forall_mem_nil _, List.forall_mem_cons.mpr ⟨cl_stringS (y := y_jStr_isLatin1) (rs := ro_strs) rfl (by decide +kernel) rfl c_jStr_isLatin1_v259 wm_688 wm_11 wm_685 wm_686 wm_687 ⟨by decide, by decide, by decide +kernel⟩ (by decide), List.forall_mem_cons.mpr ⟨cl_static (y := y_jLat_charAt) c_jLat_charAt_v482 wm_691 wm_12 wm_689 wm_690 ⟨by decide, by decide, by decide +kernel⟩ (by decide), List.forall_mem_cons.mpr ⟨cl_value (i := 10) wm_3969 rfl (by decide +kernel) (by decide +kernel) (by decide +kernel), List.forall_mem_nil _⟩⟩⟩, List.forall_mem_nil _, List.forall_mem_nil _, GG_pl⟩ (by decide +kernel)
def e_jStr_charAt_v483 : en_T := ([(2, 0, 0, [5010]), (0, 3, 3, [])], some (0, 0, 65535, []), true, 4, 0, 0, [], [], (0, [], [], [(23, [2], [32, 1]), (23, [2], [-32, -1])], []))
def o_jStr_charAt_v483_0 : or_T := (1000000, 0, [], [], [], [], [], [], [])
theorem oo_jStr_charAt_v483_0 {kA : Nat → ClassId} : or_ok PRD kA GG o_jStr_charAt_v483_0 := fun _ _ _ _ _ _ _ _ _ _ => ⟨fun q h => (by cases h), [], trivial, fun f h => (by cases h), fun q h => (by cases h)⟩
def n_jStr_charAt_v483_an : List an_T := []
def t_jStr_charAt_v483_ct : ct_L := [(7, 492, e_jStr_isLatin1_v259), (39, 495, e_jLat_charAt_v484), (1000003, 9, en_ro [(2, 0, 0, [5010])] (2, 0, 0, [5210]))]
set_option maxRecDepth 100000 in
theorem c_jStr_charAt_v483 {l : Launch} {D : va_G} {kA : Nat → ClassId} : ct_ok PRD l D kA GG y_jStr_charAt z_jStr_charAt e_jStr_charAt_v483 := chk_all_ok (FT := []) (PT := []) (CT := t_jStr_charAt_v483_ct) (KT := []) (NT := []) (AN := n_jStr_charAt_v483_an) (OT := [o_jStr_charAt_v483_0]) 0 200 (List.forall_mem_cons.mpr ⟨oo_jStr_charAt_v483_0, List.forall_mem_nil _⟩) (by decide +kernel) ⟨List.forall_mem_nil _, List.forall_mem_nil _, List.forall_mem_cons.mpr ⟨cl_stringS (y := y_jStr_isLatin1) (rs := ro_strs) rfl (by decide +kernel) rfl c_jStr_isLatin1_v259 wm_688 wm_11 wm_685 wm_686 wm_687 ⟨by decide, by decide, by decide +kernel⟩ (by decide), List.forall_mem_cons.mpr ⟨cl_static (y := y_jLat_charAt) c_jLat_charAt_v484 wm_691 wm_12 wm_689 wm_690 ⟨by decide, by decide, by decide +kernel⟩ (by decide), List.forall_mem_cons.mpr ⟨cl_value (i := 10) wm_3969 rfl (by decide +kernel) (by decide +kernel) (by decide +kernel), List.forall_mem_nil _⟩⟩⟩, List.forall_mem_nil _, List.forall_mem_nil _, GG_pl⟩ (by decide +kernel)
def e_jStr_charAt_v486 : en_T := ([(2, 0, 0, [5011]), (0, 0, 0, [])], some (0, 0, 65535, []), true, 4, 0, 0, [], [], (0, [], [], [(23, [2], [111, 1]), (23, [2], [-111, -1])], []))
def o_jStr_charAt_v486_0 : or_T := (1000000, 0, [], [], [], [], [], [], [])
theorem oo_jStr_charAt_v486_0 {kA : Nat → ClassId} : or_ok PRD kA GG o_jStr_charAt_v486_0 := fun _ _ _ _ _ _ _ _ _ _ => ⟨fun q h => (by cases h), [], trivial, fun f h => (by cases h), fun q h => (by cases h)⟩
def n_jStr_charAt_v486_an : List an_T := []
def t_jStr_charAt_v486_ct : ct_L := [(7, 492, e_jStr_isLatin1_v259), (39, 495, e_jLat_charAt_v487), (1000003, 9, en_ro [(2, 0, 0, [5011])] (2, 0, 0, [5211]))]
set_option maxRecDepth 100000 in
theorem c_jStr_charAt_v486 {l : Launch} {D : va_G} {kA : Nat → ClassId} : ct_ok PRD l D kA GG y_jStr_charAt z_jStr_charAt e_jStr_charAt_v486 := chk_all_ok (FT := []) (PT := []) (CT := t_jStr_charAt_v486_ct) (KT := []) (NT := []) (AN := n_jStr_charAt_v486_an) (OT := [o_jStr_charAt_v486_0]) 0 200 (List.forall_mem_cons.mpr ⟨oo_jStr_charAt_v486_0, List.forall_mem_nil _⟩) (by decide +kernel) ⟨List.forall_mem_nil _, List.forall_mem_nil _, List.forall_mem_cons.mpr ⟨cl_stringS (y := y_jStr_isLatin1) (rs := ro_strs) rfl (by decide +kernel) rfl c_jStr_isLatin1_v259 wm_688 wm_11 wm_685 wm_686 wm_687 ⟨by decide, by decide, by decide +kernel⟩ (by decide), List.forall_mem_cons.mpr ⟨cl_static (y := y_jLat_charAt) c_jLat_charAt_v487 wm_691 wm_12 wm_689 wm_690 ⟨by decide, by decide, by decide +kernel⟩ (by decide), List.forall_mem_cons.mpr ⟨cl_value (i := 11) wm_3969 rfl (by decide +kernel) (by decide +kernel) (by decide +kernel), List.forall_mem_nil _⟩⟩⟩, List.forall_mem_nil _, List.forall_mem_nil _, GG_pl⟩ (by decide +kernel)
def e_jStr_charAt_v488 : en_T := ([(2, 0, 0, [5011]), (0, 1, 1, [])], some (0, 0, 65535, []), true, 4, 0, 0, [], [], (0, [], [], [(23, [2], [114, 1]), (23, [2], [-114, -1])], []))
def o_jStr_charAt_v488_0 : or_T := (1000000, 0, [], [], [], [], [], [], [])
theorem oo_jStr_charAt_v488_0 {kA : Nat → ClassId} : or_ok PRD kA GG o_jStr_charAt_v488_0 := fun _ _ _ _ _ _ _ _ _ _ => ⟨fun q h => (by cases h), [], trivial, fun f h => (by cases h), fun q h => (by cases h)⟩
def n_jStr_charAt_v488_an : List an_T := []
def t_jStr_charAt_v488_ct : ct_L := [(7, 492, e_jStr_isLatin1_v259), (39, 495, e_jLat_charAt_v489), (1000003, 9, en_ro [(2, 0, 0, [5011])] (2, 0, 0, [5211]))]
set_option maxRecDepth 100000 in
theorem c_jStr_charAt_v488 {l : Launch} {D : va_G} {kA : Nat → ClassId} : ct_ok PRD l D kA GG y_jStr_charAt z_jStr_charAt e_jStr_charAt_v488 := chk_all_ok (FT := []) (PT := []) (CT := t_jStr_charAt_v488_ct) (KT := []) (NT := []) (AN := n_jStr_charAt_v488_an) (OT := [o_jStr_charAt_v488_0]) 0 200 (List.forall_mem_cons.mpr ⟨oo_jStr_charAt_v488_0, List.forall_mem_nil _⟩) (by decide +kernel) ⟨List.forall_mem_nil _, List.forall_mem_nil _, List.forall_mem_cons.mpr ⟨cl_stringS (y := y_jStr_isLatin1) (rs := ro_strs) rfl (by decide +kernel) rfl c_jStr_isLatin1_v259 wm_688 wm_11 wm_685 wm_686 wm_687 ⟨by decide, by decide, by decide +kernel⟩ (by decide), List.forall_mem_cons.mpr ⟨cl_static (y := y_jLat_charAt) c_jLat_charAt_v489 wm_691 wm_12 wm_689 wm_690 ⟨by decide, by decide, by decide +kernel⟩ (by decide), List.forall_mem_cons.mpr ⟨cl_value (i := 11) wm_3969 rfl (by decide +kernel) (by decide +kernel) (by decide +kernel), List.forall_mem_nil _⟩⟩⟩, List.forall_mem_nil _, List.forall_mem_nil _, GG_pl⟩ (by decide +kernel)
def e_jStr_charAt_v490 : en_T := ([(2, 0, 0, [5011]), (0, 2, 2, [])], some (0, 0, 65535, []), true, 4, 0, 0, [], [], (0, [], [], [(23, [2], [32, 1]), (23, [2], [-32, -1])], []))
def o_jStr_charAt_v490_0 : or_T := (1000000, 0, [], [], [], [], [], [], [])
theorem oo_jStr_charAt_v490_0 {kA : Nat → ClassId} : or_ok PRD kA GG o_jStr_charAt_v490_0 := fun _ _ _ _ _ _ _ _ _ _ => ⟨fun q h => (by cases h), [], trivial, fun f h => (by cases h), fun q h => (by cases h)⟩
def n_jStr_charAt_v490_an : List an_T := []
def t_jStr_charAt_v490_ct : ct_L := [(7, 492, e_jStr_isLatin1_v259), (39, 495, e_jLat_charAt_v491), (1000003, 9, en_ro [(2, 0, 0, [5011])] (2, 0, 0, [5211]))]
set_option maxRecDepth 100000 in
theorem c_jStr_charAt_v490 {l : Launch} {D : va_G} {kA : Nat → ClassId} : ct_ok PRD l D kA GG y_jStr_charAt z_jStr_charAt e_jStr_charAt_v490 := chk_all_ok (FT := []) (PT := []) (CT := t_jStr_charAt_v490_ct) (KT := []) (NT := []) (AN := n_jStr_charAt_v490_an) (OT := [o_jStr_charAt_v490_0]) 0 200 (List.forall_mem_cons.mpr ⟨oo_jStr_charAt_v490_0, List.forall_mem_nil _⟩) (by decide +kernel) ⟨List.forall_mem_nil _, List.forall_mem_nil _, List.forall_mem_cons.mpr ⟨cl_stringS (y := y_jStr_isLatin1) (rs := ro_strs) rfl (by decide +kernel) rfl c_jStr_isLatin1_v259 wm_688 wm_11 wm_685 wm_686 wm_687 ⟨by decide, by decide, by decide +kernel⟩ (by decide), List.forall_mem_cons.mpr ⟨cl_static (y := y_jLat_charAt) c_jLat_charAt_v491 wm_691 wm_12 wm_689 wm_690 ⟨by decide, by decide, by decide +kernel⟩ (by decide), List.forall_mem_cons.mpr ⟨cl_value (i := 11) wm_3969 rfl (by decide +kernel) (by decide +kernel) (by decide +kernel), List.forall_mem_nil _⟩⟩⟩, List.forall_mem_nil _, List.forall_mem_nil _, GG_pl⟩ (by decide +kernel)
def e_jStr_charAt_v493 : en_T := ([(2, 0, 0, [5012]), (0, 0, 0, [])], some (0, 0, 65535, []), true, 4, 0, 0, [], [], (0, [], [], [(23, [2], [99, 1]), (23, [2], [-99, -1])], []))
def o_jStr_charAt_v493_0 : or_T := (1000000, 0, [], [], [], [], [], [], [])
theorem oo_jStr_charAt_v493_0 {kA : Nat → ClassId} : or_ok PRD kA GG o_jStr_charAt_v493_0 := fun _ _ _ _ _ _ _ _ _ _ => ⟨fun q h => (by cases h), [], trivial, fun f h => (by cases h), fun q h => (by cases h)⟩
def n_jStr_charAt_v493_an : List an_T := []
def t_jStr_charAt_v493_ct : ct_L := [(7, 492, e_jStr_isLatin1_v259), (39, 495, e_jLat_charAt_v494), (1000003, 9, en_ro [(2, 0, 0, [5012])] (2, 0, 0, [5212]))]
set_option maxRecDepth 100000 in
theorem c_jStr_charAt_v493 {l : Launch} {D : va_G} {kA : Nat → ClassId} : ct_ok PRD l D kA GG y_jStr_charAt z_jStr_charAt e_jStr_charAt_v493 := chk_all_ok (FT := []) (PT := []) (CT := t_jStr_charAt_v493_ct) (KT := []) (NT := []) (AN := n_jStr_charAt_v493_an) (OT := [o_jStr_charAt_v493_0]) 0 200 (List.forall_mem_cons.mpr ⟨oo_jStr_charAt_v493_0, List.forall_mem_nil _⟩) (by decide +kernel) ⟨List.forall_mem_nil _, List.forall_mem_nil _, List.forall_mem_cons.mpr ⟨cl_stringS (y := y_jStr_isLatin1) (rs := ro_strs) rfl (by decide +kernel) rfl c_jStr_isLatin1_v259 wm_688 wm_11 wm_685 wm_686 wm_687 ⟨by decide, by decide, by decide +kernel⟩ (by decide), List.forall_mem_cons.mpr ⟨cl_static (y := y_jLat_charAt) c_jLat_charAt_v494 wm_691 wm_12 wm_689 wm_690 ⟨by decide, by decide, by decide +kernel⟩ (by decide), List.forall_mem_cons.mpr ⟨cl_value (i := 12) wm_3969 rfl (by decide +kernel) (by decide +kernel) (by decide +kernel), List.forall_mem_nil _⟩⟩⟩, List.forall_mem_nil _, List.forall_mem_nil _, GG_pl⟩ (by decide +kernel)
def e_jStr_charAt_v497 : en_T := ([(2, 0, 0, [5012]), (0, 1, 1, [])], some (0, 0, 65535, []), true, 4, 0, 0, [], [], (0, [], [], [(23, [2], [111, 1]), (23, [2], [-111, -1])], []))
def o_jStr_charAt_v497_0 : or_T := (1000000, 0, [], [], [], [], [], [], [])
theorem oo_jStr_charAt_v497_0 {kA : Nat → ClassId} : or_ok PRD kA GG o_jStr_charAt_v497_0 := fun _ _ _ _ _ _ _ _ _ _ => ⟨fun q h => (by cases h), [], trivial, fun f h => (by cases h), fun q h => (by cases h)⟩
def n_jStr_charAt_v497_an : List an_T := []
def t_jStr_charAt_v497_ct : ct_L := [(7, 492, e_jStr_isLatin1_v259), (39, 495, e_jLat_charAt_v498), (1000003, 9, en_ro [(2, 0, 0, [5012])] (2, 0, 0, [5212]))]
set_option maxRecDepth 100000 in
theorem c_jStr_charAt_v497 {l : Launch} {D : va_G} {kA : Nat → ClassId} : ct_ok PRD l D kA GG y_jStr_charAt z_jStr_charAt e_jStr_charAt_v497 := chk_all_ok (FT := []) (PT := []) (CT := t_jStr_charAt_v497_ct) (KT := []) (NT := []) (AN := n_jStr_charAt_v497_an) (OT := [o_jStr_charAt_v497_0]) 0 200 (List.forall_mem_cons.mpr ⟨oo_jStr_charAt_v497_0, List.forall_mem_nil _⟩) (by decide +kernel) ⟨List.forall_mem_nil _, List.forall_mem_nil _, List.forall_mem_cons.mpr ⟨cl_stringS (y := y_jStr_isLatin1) (rs := ro_strs) rfl (by decide +kernel) rfl c_jStr_isLatin1_v259 wm_688 wm_11 wm_685 wm_686 wm_687 ⟨by decide, by decide, by decide +kernel⟩ (by decide), List.forall_mem_cons.mpr ⟨cl_static (y := y_jLat_charAt) c_jLat_charAt_v498 wm_691 wm_12 wm_689 wm_690 ⟨by decide, by decide, by decide +kernel⟩ (by decide), List.forall_mem_cons.mpr ⟨cl_value (i := 12) wm_3969 rfl (by decide +kernel) (by decide +kernel) (by decide +kernel), List.forall_mem_nil _⟩⟩⟩, List.forall_mem_nil _, List.forall_mem_nil _, GG_pl⟩ (by decide +kernel)
def e_jStr_charAt_v501 : en_T := ([(2, 0, 0, [5012]), (0, 2, 2, [])], some (0, 0, 65535, []), true, 4, 0, 0, [], [], (0, [], [], [(23, [2], [108, 1]), (23, [2], [-108, -1])], []))
def o_jStr_charAt_v501_0 : or_T := (1000000, 0, [], [], [], [], [], [], [])
theorem oo_jStr_charAt_v501_0 {kA : Nat → ClassId} : or_ok PRD kA GG o_jStr_charAt_v501_0 := fun _ _ _ _ _ _ _ _ _ _ => ⟨fun q h => (by cases h), [], trivial, fun f h => (by cases h), fun q h => (by cases h)⟩
def n_jStr_charAt_v501_an : List an_T := []
def t_jStr_charAt_v501_ct : ct_L := [(7, 492, e_jStr_isLatin1_v259), (39, 495, e_jLat_charAt_v502), (1000003, 9, en_ro [(2, 0, 0, [5012])] (2, 0, 0, [5212]))]
set_option maxRecDepth 100000 in
theorem c_jStr_charAt_v501 {l : Launch} {D : va_G} {kA : Nat → ClassId} : ct_ok PRD l D kA GG y_jStr_charAt z_jStr_charAt e_jStr_charAt_v501 := chk_all_ok (FT := []) (PT := []) (CT := t_jStr_charAt_v501_ct) (KT := []) (NT := []) (AN := n_jStr_charAt_v501_an) (OT := [o_jStr_charAt_v501_0]) 0 200 (List.forall_mem_cons.mpr ⟨oo_jStr_charAt_v501_0, List.forall_mem_nil _⟩) (by decide +kernel) ⟨List.forall_mem_nil _, List.forall_mem_nil _, List.forall_mem_cons.mpr ⟨cl_stringS (y := y_jStr_isLatin1) (rs := ro_strs) rfl (by decide +kernel) rfl c_jStr_isLatin1_v259 wm_688 wm_11 wm_685 wm_686 wm_687 ⟨by decide, by decide, by decide +kernel⟩ (by decide), List.forall_mem_cons.mpr ⟨cl_static (y := y_jLat_charAt) c_jLat_charAt_v502 wm_691 wm_12 wm_689 wm_690 ⟨by decide, by decide, by decide +kernel⟩ (by decide), List.forall_mem_cons.mpr ⟨cl_value (i := 12) wm_3969 rfl (by decide +kernel) (by decide +kernel) (by decide +kernel), List.forall_mem_nil _⟩⟩⟩, List.forall_mem_nil _, List.forall_mem_nil _, GG_pl⟩ (by decide +kernel)
def e_jStr_charAt_v505 : en_T := ([(2, 0, 0, [5012]), (0, 3, 3, [])], some (0, 0, 65535, []), true, 4, 0, 0, [], [], (0, [], [], [(23, [2], [111, 1]), (23, [2], [-111, -1])], []))
def o_jStr_charAt_v505_0 : or_T := (1000000, 0, [], [], [], [], [], [], [])
theorem oo_jStr_charAt_v505_0 {kA : Nat → ClassId} : or_ok PRD kA GG o_jStr_charAt_v505_0 := fun _ _ _ _ _ _ _ _ _ _ => ⟨fun q h => (by cases h), [], trivial, fun f h => (by cases h), fun q h => (by cases h)⟩
def n_jStr_charAt_v505_an : List an_T := []
def t_jStr_charAt_v505_ct : ct_L := [(7, 492, e_jStr_isLatin1_v259), (39, 495, e_jLat_charAt_v506), (1000003, 9, en_ro [(2, 0, 0, [5012])] (2, 0, 0, [5212]))]
set_option maxRecDepth 100000 in
theorem c_jStr_charAt_v505 {l : Launch} {D : va_G} {kA : Nat → ClassId} : ct_ok PRD l D kA GG y_jStr_charAt z_jStr_charAt e_jStr_charAt_v505 := chk_all_ok (FT := []) (PT := []) (CT := t_jStr_charAt_v505_ct) (KT := []) (NT := []) (AN := n_jStr_charAt_v505_an) (OT := [o_jStr_charAt_v505_0]) 0 200 (List.forall_mem_cons.mpr ⟨oo_jStr_charAt_v505_0, List.forall_mem_nil _⟩) (by decide +kernel) ⟨List.forall_mem_nil _, List.forall_mem_nil _, List.forall_mem_cons.mpr ⟨cl_stringS (y := y_jStr_isLatin1) (rs := ro_strs) rfl (by decide +kernel) rfl c_jStr_isLatin1_v259 wm_688 wm_11 wm_685 wm_686 wm_687 ⟨by decide, by decide, by decide +kernel⟩ (by decide), List.forall_mem_cons.mpr ⟨cl_static (y := y_jLat_charAt) c_jLat_charAt_v506 wm_691 wm_12 wm_689 wm_690 ⟨by decide, by decide, by decide +kernel⟩ (by decide), List.forall_mem_cons.mpr ⟨cl_value (i := 12) wm_3969 rfl (by decide +kernel) (by decide +kernel) (by decide +kernel), List.forall_mem_nil _⟩⟩⟩, List.forall_mem_nil _, List.forall_mem_nil _, GG_pl⟩ (by decide +kernel)
def e_jStr_charAt_v509 : en_T := ([(2, 0, 0, [5012]), (0, 4, 4, [])], some (0, 0, 65535, []), true, 4, 0, 0, [], [], (0, [], [], [(23, [2], [114, 1]), (23, [2], [-114, -1])], []))
def o_jStr_charAt_v509_0 : or_T := (1000000, 0, [], [], [], [], [], [], [])
theorem oo_jStr_charAt_v509_0 {kA : Nat → ClassId} : or_ok PRD kA GG o_jStr_charAt_v509_0 := fun _ _ _ _ _ _ _ _ _ _ => ⟨fun q h => (by cases h), [], trivial, fun f h => (by cases h), fun q h => (by cases h)⟩
def n_jStr_charAt_v509_an : List an_T := []
def t_jStr_charAt_v509_ct : ct_L := [(7, 492, e_jStr_isLatin1_v259), (39, 495, e_jLat_charAt_v510), (1000003, 9, en_ro [(2, 0, 0, [5012])] (2, 0, 0, [5212]))]
set_option maxRecDepth 100000 in
theorem c_jStr_charAt_v509 {l : Launch} {D : va_G} {kA : Nat → ClassId} : ct_ok PRD l D kA GG y_jStr_charAt z_jStr_charAt e_jStr_charAt_v509 := chk_all_ok (FT := []) (PT := []) (CT := t_jStr_charAt_v509_ct) (KT := []) (NT := []) (AN := n_jStr_charAt_v509_an) (OT := [o_jStr_charAt_v509_0]) 0 200 (List.forall_mem_cons.mpr ⟨oo_jStr_charAt_v509_0, List.forall_mem_nil _⟩) (by decide +kernel) ⟨List.forall_mem_nil _, List.forall_mem_nil _, List.forall_mem_cons.mpr ⟨cl_stringS (y := y_jStr_isLatin1) (rs := ro_strs) rfl (by decide +kernel) rfl c_jStr_isLatin1_v259 wm_688 wm_11 wm_685 wm_686 wm_687 ⟨by decide, by decide, by decide +kernel⟩ (by decide), List.forall_mem_cons.mpr ⟨cl_static (y := y_jLat_charAt) c_jLat_charAt_v510 wm_691 wm_12 wm_689 wm_690 ⟨by decide, by decide, by decide +kernel⟩ (by decide), List.forall_mem_cons.mpr ⟨cl_value (i := 12) wm_3969 rfl (by decide +kernel) (by decide +kernel) (by decide +kernel), List.forall_mem_nil _⟩⟩⟩, List.forall_mem_nil _, List.forall_mem_nil _, GG_pl⟩ (by decide +kernel)
def e_jStr_charAt_v513 : en_T := ([(2, 0, 0, [5012]), (0, 5, 5, [])], some (0, 0, 65535, []), true, 4, 0, 0, [], [], (0, [], [], [(23, [2], [32, 1]), (23, [2], [-32, -1])], []))
def o_jStr_charAt_v513_0 : or_T := (1000000, 0, [], [], [], [], [], [], [])
theorem oo_jStr_charAt_v513_0 {kA : Nat → ClassId} : or_ok PRD kA GG o_jStr_charAt_v513_0 := fun _ _ _ _ _ _ _ _ _ _ => ⟨fun q h => (by cases h), [], trivial, fun f h => (by cases h), fun q h => (by cases h)⟩
def n_jStr_charAt_v513_an : List an_T := []
def t_jStr_charAt_v513_ct : ct_L := [(7, 492, e_jStr_isLatin1_v259), (39, 495, e_jLat_charAt_v514), (1000003, 9, en_ro [(2, 0, 0, [5012])] (2, 0, 0, [5212]))]
set_option maxRecDepth 100000 in
theorem c_jStr_charAt_v513 {l : Launch} {D : va_G} {kA : Nat → ClassId} : ct_ok PRD l D kA GG y_jStr_charAt z_jStr_charAt e_jStr_charAt_v513 := chk_all_ok (FT := []) (PT := []) (CT := t_jStr_charAt_v513_ct) (KT := []) (NT := []) (AN := n_jStr_charAt_v513_an) (OT := [o_jStr_charAt_v513_0]) 0 200 (List.forall_mem_cons.mpr ⟨oo_jStr_charAt_v513_0, List.forall_mem_nil _⟩) (by decide +kernel) ⟨List.forall_mem_nil _, List.forall_mem_nil _, List.forall_mem_cons.mpr ⟨cl_stringS (y := y_jStr_isLatin1) (rs := ro_strs) rfl (by decide +kernel) rfl c_jStr_isLatin1_v259 wm_688 wm_11 wm_685 wm_686 wm_687 ⟨by decide, by decide, by decide +kernel⟩ (by decide), List.forall_mem_cons.mpr ⟨cl_static (y := y_jLat_charAt) c_jLat_charAt_v514 wm_691 wm_12 wm_689 wm_690 ⟨by decide, by decide, by decide +kernel⟩ (by decide), List.forall_mem_cons.mpr ⟨cl_value (i := 12) wm_3969 rfl (by decide +kernel) (by decide +kernel) (by decide +kernel), List.forall_mem_nil _⟩⟩⟩, List.forall_mem_nil _, List.forall_mem_nil _, GG_pl⟩ (by decide +kernel)
def e_jStr_charAt_v517 : en_T := ([(2, 0, 0, [5012]), (0, 6, 6, [])], some (0, 0, 65535, []), true, 4, 0, 0, [], [], (0, [], [], [(23, [2], [119, 1]), (23, [2], [-119, -1])], []))
def o_jStr_charAt_v517_0 : or_T := (1000000, 0, [], [], [], [], [], [], [])
theorem oo_jStr_charAt_v517_0 {kA : Nat → ClassId} : or_ok PRD kA GG o_jStr_charAt_v517_0 := fun _ _ _ _ _ _ _ _ _ _ => ⟨fun q h => (by cases h), [], trivial, fun f h => (by cases h), fun q h => (by cases h)⟩
def n_jStr_charAt_v517_an : List an_T := []
def t_jStr_charAt_v517_ct : ct_L := [(7, 492, e_jStr_isLatin1_v259), (39, 495, e_jLat_charAt_v518), (1000003, 9, en_ro [(2, 0, 0, [5012])] (2, 0, 0, [5212]))]
set_option maxRecDepth 100000 in
theorem c_jStr_charAt_v517 {l : Launch} {D : va_G} {kA : Nat → ClassId} : ct_ok PRD l D kA GG y_jStr_charAt z_jStr_charAt e_jStr_charAt_v517 := chk_all_ok (FT := []) (PT := []) (CT := t_jStr_charAt_v517_ct) (KT := []) (NT := []) (AN := n_jStr_charAt_v517_an) (OT := [o_jStr_charAt_v517_0]) 0 200 (List.forall_mem_cons.mpr ⟨oo_jStr_charAt_v517_0, List.forall_mem_nil _⟩) (by decide +kernel) ⟨List.forall_mem_nil _, List.forall_mem_nil _, List.forall_mem_cons.mpr ⟨cl_stringS (y := y_jStr_isLatin1) (rs := ro_strs) rfl (by decide +kernel) rfl c_jStr_isLatin1_v259 wm_688 wm_11 wm_685 wm_686 wm_687 ⟨by decide, by decide, by decide +kernel⟩ (by decide), List.forall_mem_cons.mpr ⟨cl_static (y := y_jLat_charAt) c_jLat_charAt_v518 wm_691 wm_12 wm_689 wm_690 ⟨by decide, by decide, by decide +kernel⟩ (by decide), List.forall_mem_cons.mpr ⟨cl_value (i := 12) wm_3969 rfl (by decide +kernel) (by decide +kernel) (by decide +kernel), List.forall_mem_nil _⟩⟩⟩, List.forall_mem_nil _, List.forall_mem_nil _, GG_pl⟩ (by decide +kernel)
def e_jStr_charAt_v521 : en_T := ([(2, 0, 0, [5012]), (0, 7, 7, [])], some (0, 0, 65535, []), true, 4, 0, 0, [], [], (0, [], [], [(23, [2], [105, 1]), (23, [2], [-105, -1])], []))
def o_jStr_charAt_v521_0 : or_T := (1000000, 0, [], [], [], [], [], [], [])
theorem oo_jStr_charAt_v521_0 {kA : Nat → ClassId} : or_ok PRD kA GG o_jStr_charAt_v521_0 := fun _ _ _ _ _ _ _ _ _ _ => ⟨fun q h => (by cases h), [], trivial, fun f h => (by cases h), fun q h => (by cases h)⟩
def n_jStr_charAt_v521_an : List an_T := []
def t_jStr_charAt_v521_ct : ct_L := [(7, 492, e_jStr_isLatin1_v259), (39, 495, e_jLat_charAt_v522), (1000003, 9, en_ro [(2, 0, 0, [5012])] (2, 0, 0, [5212]))]
set_option maxRecDepth 100000 in
theorem c_jStr_charAt_v521 {l : Launch} {D : va_G} {kA : Nat → ClassId} : ct_ok PRD l D kA GG y_jStr_charAt z_jStr_charAt e_jStr_charAt_v521 := chk_all_ok (FT := []) (PT := []) (CT := t_jStr_charAt_v521_ct) (KT := []) (NT := []) (AN := n_jStr_charAt_v521_an) (OT := [o_jStr_charAt_v521_0]) 0 200 (List.forall_mem_cons.mpr ⟨oo_jStr_charAt_v521_0, List.forall_mem_nil _⟩) (by decide +kernel) ⟨List.forall_mem_nil _, List.forall_mem_nil _, List.forall_mem_cons.mpr ⟨cl_stringS (y := y_jStr_isLatin1) (rs := ro_strs) rfl (by decide +kernel) rfl c_jStr_isLatin1_v259 wm_688 wm_11 wm_685 wm_686 wm_687 ⟨by decide, by decide, by decide +kernel⟩ (by decide), List.forall_mem_cons.mpr ⟨cl_static (y := y_jLat_charAt) c_jLat_charAt_v522 wm_691 wm_12 wm_689 wm_690 ⟨by decide, by decide, by decide +kernel⟩ (by decide), List.forall_mem_cons.mpr ⟨cl_value (i := 12) wm_3969 rfl (by decide +kernel) (by decide +kernel) (by decide +kernel), List.forall_mem_nil _⟩⟩⟩, List.forall_mem_nil _, List.forall_mem_nil _, GG_pl⟩ (by decide +kernel)
def e_jStr_charAt_v525 : en_T := ([(2, 0, 0, [5012]), (0, 8, 8, [])], some (0, 0, 65535, []), true, 4, 0, 0, [], [], (0, [], [], [(23, [2], [100, 1]), (23, [2], [-100, -1])], []))
def o_jStr_charAt_v525_0 : or_T := (1000000, 0, [], [], [], [], [], [], [])
theorem oo_jStr_charAt_v525_0 {kA : Nat → ClassId} : or_ok PRD kA GG o_jStr_charAt_v525_0 := fun _ _ _ _ _ _ _ _ _ _ => ⟨fun q h => (by cases h), [], trivial, fun f h => (by cases h), fun q h => (by cases h)⟩
def n_jStr_charAt_v525_an : List an_T := []
def t_jStr_charAt_v525_ct : ct_L := [(7, 492, e_jStr_isLatin1_v259), (39, 495, e_jLat_charAt_v526), (1000003, 9, en_ro [(2, 0, 0, [5012])] (2, 0, 0, [5212]))]
set_option maxRecDepth 100000 in
theorem c_jStr_charAt_v525 {l : Launch} {D : va_G} {kA : Nat → ClassId} : ct_ok PRD l D kA GG y_jStr_charAt z_jStr_charAt e_jStr_charAt_v525 := chk_all_ok (FT := []) (PT := []) (CT := t_jStr_charAt_v525_ct) (KT := []) (NT := []) (AN := n_jStr_charAt_v525_an) (OT := [o_jStr_charAt_v525_0]) 0 200 (List.forall_mem_cons.mpr ⟨oo_jStr_charAt_v525_0, List.forall_mem_nil _⟩) (by decide +kernel) ⟨List.forall_mem_nil _, List.forall_mem_nil _, List.forall_mem_cons.mpr ⟨cl_stringS (y := y_jStr_isLatin1) (rs := ro_strs) rfl (by decide +kernel) rfl c_jStr_isLatin1_v259 wm_688 wm_11 wm_685 wm_686 wm_687 ⟨by decide, by decide, by decide +kernel⟩ (by decide), List.forall_mem_cons.mpr ⟨cl_static (y := y_jLat_charAt) c_jLat_charAt_v526 wm_691 wm_12 wm_689 wm_690 ⟨by decide, by decide, by decide +kernel⟩ (by decide), List.forall_mem_cons.mpr ⟨cl_value (i := 12) wm_3969 rfl (by decide +kernel) (by decide +kernel) (by decide +kernel), List.forall_mem_nil _⟩⟩⟩, List.forall_mem_nil _, List.forall_mem_nil _, GG_pl⟩ (by decide +kernel)
def e_jStr_charAt_v529 : en_T := ([(2, 0, 0, [5012]), (0, 9, 9, [])], some (0, 0, 65535, []), true, 4, 0, 0, [], [], (0, [], [], [(23, [2], [116, 1]), (23, [2], [-116, -1])], []))
def o_jStr_charAt_v529_0 : or_T := (1000000, 0, [], [], [], [], [], [], [])
theorem oo_jStr_charAt_v529_0 {kA : Nat → ClassId} : or_ok PRD kA GG o_jStr_charAt_v529_0 := fun _ _ _ _ _ _ _ _ _ _ => ⟨fun q h => (by cases h), [], trivial, fun f h => (by cases h), fun q h => (by cases h)⟩
def n_jStr_charAt_v529_an : List an_T := []
def t_jStr_charAt_v529_ct : ct_L := [(7, 492, e_jStr_isLatin1_v259), (39, 495, e_jLat_charAt_v530), (1000003, 9, en_ro [(2, 0, 0, [5012])] (2, 0, 0, [5212]))]
set_option maxRecDepth 100000 in
theorem c_jStr_charAt_v529 {l : Launch} {D : va_G} {kA : Nat → ClassId} : ct_ok PRD l D kA GG y_jStr_charAt z_jStr_charAt e_jStr_charAt_v529 := chk_all_ok (FT := []) (PT := []) (CT := t_jStr_charAt_v529_ct) (KT := []) (NT := []) (AN := n_jStr_charAt_v529_an) (OT := [o_jStr_charAt_v529_0]) 0 200 (List.forall_mem_cons.mpr ⟨oo_jStr_charAt_v529_0, List.forall_mem_nil _⟩) (by decide +kernel) ⟨List.forall_mem_nil _, List.forall_mem_nil _, List.forall_mem_cons.mpr ⟨cl_stringS (y := y_jStr_isLatin1) (rs := ro_strs) rfl (by decide +kernel) rfl c_jStr_isLatin1_v259 wm_688 wm_11 wm_685 wm_686 wm_687 ⟨by decide, by decide, by decide +kernel⟩ (by decide), List.forall_mem_cons.mpr ⟨cl_static (y := y_jLat_charAt) c_jLat_charAt_v530 wm_691 wm_12 wm_689 wm_690 ⟨by decide, by decide, by decide +kernel⟩ (by decide), List.forall_mem_cons.mpr ⟨cl_value (i := 12) wm_3969 rfl (by decide +kernel) (by decide +kernel) (by decide +kernel), List.forall_mem_nil _⟩⟩⟩, List.forall_mem_nil _, List.forall_mem_nil _, GG_pl⟩ (by decide +kernel)
def e_jStr_charAt_v533 : en_T := ([(2, 0, 0, [5012]), (0, 10, 10, [])], some (0, 0, 65535, []), true, 4, 0, 0, [], [], (0, [], [], [(23, [2], [104, 1]), (23, [2], [-104, -1])], []))
def o_jStr_charAt_v533_0 : or_T := (1000000, 0, [], [], [], [], [], [], [])
theorem oo_jStr_charAt_v533_0 {kA : Nat → ClassId} : or_ok PRD kA GG o_jStr_charAt_v533_0 := fun _ _ _ _ _ _ _ _ _ _ => ⟨fun q h => (by cases h), [], trivial, fun f h => (by cases h), fun q h => (by cases h)⟩
def n_jStr_charAt_v533_an : List an_T := []
def t_jStr_charAt_v533_ct : ct_L := [(7, 492, e_jStr_isLatin1_v259), (39, 495, e_jLat_charAt_v534), (1000003, 9, en_ro [(2, 0, 0, [5012])] (2, 0, 0, [5212]))]
set_option maxRecDepth 100000 in
theorem c_jStr_charAt_v533 {l : Launch} {D : va_G} {kA : Nat → ClassId} : ct_ok PRD l D kA GG y_jStr_charAt z_jStr_charAt e_jStr_charAt_v533 := chk_all_ok (FT := []) (PT := []) (CT := t_jStr_charAt_v533_ct) (KT := []) (NT := []) (AN := n_jStr_charAt_v533_an) (OT := [o_jStr_charAt_v533_0]) 0 200 (List.forall_mem_cons.mpr ⟨oo_jStr_charAt_v533_0, List.forall_mem_nil _⟩) (by decide +kernel) ⟨List.forall_mem_nil _, List.forall_mem_nil _, List.forall_mem_cons.mpr ⟨cl_stringS (y := y_jStr_isLatin1) (rs := ro_strs) rfl (by decide +kernel) rfl c_jStr_isLatin1_v259 wm_688 wm_11 wm_685 wm_686 wm_687 ⟨by decide, by decide, by decide +kernel⟩ (by decide), List.forall_mem_cons.mpr ⟨cl_static (y := y_jLat_charAt) c_jLat_charAt_v534 wm_691 wm_12 wm_689 wm_690 ⟨by decide, by decide, by decide +kernel⟩ (by decide), List.forall_mem_cons.mpr ⟨cl_value (i := 12) wm_3969 rfl (by decide +kernel) (by decide +kernel) (by decide +kernel), List.forall_mem_nil _⟩⟩⟩, List.forall_mem_nil _, List.forall_mem_nil _, GG_pl⟩ (by decide +kernel)
def e_jStr_charAt_v537 : en_T := ([(2, 0, 0, [5012]), (0, 11, 11, [])], some (0, 0, 65535, []), true, 4, 0, 0, [], [], (0, [], [], [(23, [2], [32, 1]), (23, [2], [-32, -1])], []))
def o_jStr_charAt_v537_0 : or_T := (1000000, 0, [], [], [], [], [], [], [])
theorem oo_jStr_charAt_v537_0 {kA : Nat → ClassId} : or_ok PRD kA GG o_jStr_charAt_v537_0 := fun _ _ _ _ _ _ _ _ _ _ => ⟨fun q h => (by cases h), [], trivial, fun f h => (by cases h), fun q h => (by cases h)⟩
def n_jStr_charAt_v537_an : List an_T := []
def t_jStr_charAt_v537_ct : ct_L := [(7, 492, e_jStr_isLatin1_v259), (39, 495, e_jLat_charAt_v538), (1000003, 9, en_ro [(2, 0, 0, [5012])] (2, 0, 0, [5212]))]
set_option maxRecDepth 100000 in
theorem c_jStr_charAt_v537 {l : Launch} {D : va_G} {kA : Nat → ClassId} : ct_ok PRD l D kA GG y_jStr_charAt z_jStr_charAt e_jStr_charAt_v537 := chk_all_ok (FT := []) (PT := []) (CT := t_jStr_charAt_v537_ct) (KT := []) (NT := []) (AN := n_jStr_charAt_v537_an) (OT := [o_jStr_charAt_v537_0]) 0 200 (List.forall_mem_cons.mpr ⟨oo_jStr_charAt_v537_0, List.forall_mem_nil _⟩) (by decide +kernel) ⟨List.forall_mem_nil _, List.forall_mem_nil _, List.forall_mem_cons.mpr ⟨cl_stringS (y := y_jStr_isLatin1) (rs := ro_strs) rfl (by decide +kernel) rfl c_jStr_isLatin1_v259 wm_688 wm_11 wm_685 wm_686 wm_687 ⟨by decide, by decide, by decide +kernel⟩ (by decide), List.forall_mem_cons.mpr ⟨cl_static (y := y_jLat_charAt) c_jLat_charAt_v538 wm_691 wm_12 wm_689 wm_690 ⟨by decide, by decide, by decide +kernel⟩ (by decide), List.forall_mem_cons.mpr ⟨cl_value (i := 12) wm_3969 rfl (by decide +kernel) (by decide +kernel) (by decide +kernel), List.forall_mem_nil _⟩⟩⟩, List.forall_mem_nil _, List.forall_mem_nil _, GG_pl⟩ (by decide +kernel)
def e_jStr_charAt_v541 : en_T := ([(2, 0, 0, [5012]), (0, 12, 12, [])], some (0, 0, 65535, []), true, 4, 0, 0, [], [], (0, [], [], [(23, [2], [102, 1]), (23, [2], [-102, -1])], []))
def o_jStr_charAt_v541_0 : or_T := (1000000, 0, [], [], [], [], [], [], [])
theorem oo_jStr_charAt_v541_0 {kA : Nat → ClassId} : or_ok PRD kA GG o_jStr_charAt_v541_0 := fun _ _ _ _ _ _ _ _ _ _ => ⟨fun q h => (by cases h), [], trivial, fun f h => (by cases h), fun q h => (by cases h)⟩
def n_jStr_charAt_v541_an : List an_T := []
def t_jStr_charAt_v541_ct : ct_L := [(7, 492, e_jStr_isLatin1_v259), (39, 495, e_jLat_charAt_v542), (1000003, 9, en_ro [(2, 0, 0, [5012])] (2, 0, 0, [5212]))]
set_option maxRecDepth 100000 in
theorem c_jStr_charAt_v541 {l : Launch} {D : va_G} {kA : Nat → ClassId} : ct_ok PRD l D kA GG y_jStr_charAt z_jStr_charAt e_jStr_charAt_v541 := chk_all_ok (FT := []) (PT := []) (CT := t_jStr_charAt_v541_ct) (KT := []) (NT := []) (AN := n_jStr_charAt_v541_an) (OT := [o_jStr_charAt_v541_0]) 0 200 (List.forall_mem_cons.mpr ⟨oo_jStr_charAt_v541_0, List.forall_mem_nil _⟩) (by decide +kernel) ⟨List.forall_mem_nil _, List.forall_mem_nil _, List.forall_mem_cons.mpr ⟨cl_stringS (y := y_jStr_isLatin1) (rs := ro_strs) rfl (by decide +kernel) rfl c_jStr_isLatin1_v259 wm_688 wm_11 wm_685 wm_686 wm_687 ⟨by decide, by decide, by decide +kernel⟩ (by decide), List.forall_mem_cons.mpr ⟨cl_static (y := y_jLat_charAt) c_jLat_charAt_v542 wm_691 wm_12 wm_689 wm_690 ⟨by decide, by decide, by decide +kernel⟩ (by decide), List.forall_mem_cons.mpr ⟨cl_value (i := 12) wm_3969 rfl (by decide +kernel) (by decide +kernel) (by decide +kernel), List.forall_mem_nil _⟩⟩⟩, List.forall_mem_nil _, List.forall_mem_nil _, GG_pl⟩ (by decide +kernel)
def e_jStr_charAt_v545 : en_T := ([(2, 0, 0, [5012]), (0, 13, 13, [])], some (0, 0, 65535, []), true, 4, 0, 0, [], [], (0, [], [], [(23, [2], [111, 1]), (23, [2], [-111, -1])], []))
def o_jStr_charAt_v545_0 : or_T := (1000000, 0, [], [], [], [], [], [], [])
theorem oo_jStr_charAt_v545_0 {kA : Nat → ClassId} : or_ok PRD kA GG o_jStr_charAt_v545_0 := fun _ _ _ _ _ _ _ _ _ _ => ⟨fun q h => (by cases h), [], trivial, fun f h => (by cases h), fun q h => (by cases h)⟩
def n_jStr_charAt_v545_an : List an_T := []
def t_jStr_charAt_v545_ct : ct_L := [(7, 492, e_jStr_isLatin1_v259), (39, 495, e_jLat_charAt_v546), (1000003, 9, en_ro [(2, 0, 0, [5012])] (2, 0, 0, [5212]))]
set_option maxRecDepth 100000 in
theorem c_jStr_charAt_v545 {l : Launch} {D : va_G} {kA : Nat → ClassId} : ct_ok PRD l D kA GG y_jStr_charAt z_jStr_charAt e_jStr_charAt_v545 := chk_all_ok (FT := []) (PT := []) (CT := t_jStr_charAt_v545_ct) (KT := []) (NT := []) (AN := n_jStr_charAt_v545_an) (OT := [o_jStr_charAt_v545_0]) 0 200 (List.forall_mem_cons.mpr ⟨oo_jStr_charAt_v545_0, List.forall_mem_nil _⟩) (by decide +kernel) ⟨List.forall_mem_nil _, List.forall_mem_nil _, List.forall_mem_cons.mpr ⟨cl_stringS (y := y_jStr_isLatin1) (rs := ro_strs) rfl (by decide +kernel) rfl c_jStr_isLatin1_v259 wm_688 wm_11 wm_685 wm_686 wm_687 ⟨by decide, by decide, by decide +kernel⟩ (by decide), List.forall_mem_cons.mpr ⟨cl_static (y := y_jLat_charAt) c_jLat_charAt_v546 wm_691 wm_12 wm_689 wm_690 ⟨by decide, by decide, by decide +kernel⟩ (by decide), List.forall_mem_cons.mpr ⟨cl_value (i := 12) wm_3969 rfl (by decide +kernel) (by decide +kernel) (by decide +kernel), List.forall_mem_nil _⟩⟩⟩, List.forall_mem_nil _, List.forall_mem_nil _, GG_pl⟩ (by decide +kernel)
def e_jStr_charAt_v549 : en_T := ([(2, 0, 0, [5012]), (0, 14, 14, [])], some (0, 0, 65535, []), true, 4, 0, 0, [], [], (0, [], [], [(23, [2], [114, 1]), (23, [2], [-114, -1])], []))
def o_jStr_charAt_v549_0 : or_T := (1000000, 0, [], [], [], [], [], [], [])
theorem oo_jStr_charAt_v549_0 {kA : Nat → ClassId} : or_ok PRD kA GG o_jStr_charAt_v549_0 := fun _ _ _ _ _ _ _ _ _ _ => ⟨fun q h => (by cases h), [], trivial, fun f h => (by cases h), fun q h => (by cases h)⟩
def n_jStr_charAt_v549_an : List an_T := []
def t_jStr_charAt_v549_ct : ct_L := [(7, 492, e_jStr_isLatin1_v259), (39, 495, e_jLat_charAt_v550), (1000003, 9, en_ro [(2, 0, 0, [5012])] (2, 0, 0, [5212]))]
set_option maxRecDepth 100000 in
theorem c_jStr_charAt_v549 {l : Launch} {D : va_G} {kA : Nat → ClassId} : ct_ok PRD l D kA GG y_jStr_charAt z_jStr_charAt e_jStr_charAt_v549 := chk_all_ok (FT := []) (PT := []) (CT := t_jStr_charAt_v549_ct) (KT := []) (NT := []) (AN := n_jStr_charAt_v549_an) (OT := [o_jStr_charAt_v549_0]) 0 200 (List.forall_mem_cons.mpr ⟨oo_jStr_charAt_v549_0, List.forall_mem_nil _⟩) (by decide +kernel) ⟨List.forall_mem_nil _, List.forall_mem_nil _, List.forall_mem_cons.mpr ⟨cl_stringS (y := y_jStr_isLatin1) (rs := ro_strs) rfl (by decide +kernel) rfl c_jStr_isLatin1_v259 wm_688 wm_11 wm_685 wm_686 wm_687 ⟨by decide, by decide, by decide +kernel⟩ (by decide), List.forall_mem_cons.mpr ⟨cl_static (y := y_jLat_charAt) c_jLat_charAt_v550 wm_691 wm_12 wm_689 wm_690 ⟨by decide, by decide, by decide +kernel⟩ (by decide), List.forall_mem_cons.mpr ⟨cl_value (i := 12) wm_3969 rfl (by decide +kernel) (by decide +kernel) (by decide +kernel), List.forall_mem_nil _⟩⟩⟩, List.forall_mem_nil _, List.forall_mem_nil _, GG_pl⟩ (by decide +kernel)
def e_jStr_charAt_v553 : en_T := ([(2, 0, 0, [5012]), (0, 15, 15, [])], some (0, 0, 65535, []), true, 4, 0, 0, [], [], (0, [], [], [(23, [2], [109, 1]), (23, [2], [-109, -1])], []))
def o_jStr_charAt_v553_0 : or_T := (1000000, 0, [], [], [], [], [], [], [])
theorem oo_jStr_charAt_v553_0 {kA : Nat → ClassId} : or_ok PRD kA GG o_jStr_charAt_v553_0 := fun _ _ _ _ _ _ _ _ _ _ => ⟨fun q h => (by cases h), [], trivial, fun f h => (by cases h), fun q h => (by cases h)⟩
def n_jStr_charAt_v553_an : List an_T := []
def t_jStr_charAt_v553_ct : ct_L := [(7, 492, e_jStr_isLatin1_v259), (39, 495, e_jLat_charAt_v554), (1000003, 9, en_ro [(2, 0, 0, [5012])] (2, 0, 0, [5212]))]
set_option maxRecDepth 100000 in
theorem c_jStr_charAt_v553 {l : Launch} {D : va_G} {kA : Nat → ClassId} : ct_ok PRD l D kA GG y_jStr_charAt z_jStr_charAt e_jStr_charAt_v553 := chk_all_ok (FT := []) (PT := []) (CT := t_jStr_charAt_v553_ct) (KT := []) (NT := []) (AN := n_jStr_charAt_v553_an) (OT := [o_jStr_charAt_v553_0]) 0 200 (List.forall_mem_cons.mpr ⟨oo_jStr_charAt_v553_0, List.forall_mem_nil _⟩) (by decide +kernel) ⟨List.forall_mem_nil _, List.forall_mem_nil _, List.forall_mem_cons.mpr ⟨cl_stringS (y := y_jStr_isLatin1) (rs := ro_strs) rfl (by decide +kernel) rfl c_jStr_isLatin1_v259 wm_688 wm_11 wm_685 wm_686 wm_687 ⟨by decide, by decide, by decide +kernel⟩ (by decide), List.forall_mem_cons.mpr ⟨cl_static (y := y_jLat_charAt) c_jLat_charAt_v554 wm_691 wm_12 wm_689 wm_690 ⟨by decide, by decide, by decide +kernel⟩ (by decide), List.forall_mem_cons.mpr ⟨cl_value (i := 12) wm_3969 rfl (by decide +kernel) (by decide +kernel) (by decide +kernel), List.forall_mem_nil _⟩⟩⟩, List.forall_mem_nil _, List.forall_mem_nil _, GG_pl⟩ (by decide +kernel)
def e_jStr_charAt_v557 : en_T := ([(2, 0, 0, [5012]), (0, 16, 16, [])], some (0, 0, 65535, []), true, 4, 0, 0, [], [], (0, [], [], [(23, [2], [32, 1]), (23, [2], [-32, -1])], []))
def o_jStr_charAt_v557_0 : or_T := (1000000, 0, [], [], [], [], [], [], [])
theorem oo_jStr_charAt_v557_0 {kA : Nat → ClassId} : or_ok PRD kA GG o_jStr_charAt_v557_0 := fun _ _ _ _ _ _ _ _ _ _ => ⟨fun q h => (by cases h), [], trivial, fun f h => (by cases h), fun q h => (by cases h)⟩
def n_jStr_charAt_v557_an : List an_T := []
def t_jStr_charAt_v557_ct : ct_L := [(7, 492, e_jStr_isLatin1_v259), (39, 495, e_jLat_charAt_v558), (1000003, 9, en_ro [(2, 0, 0, [5012])] (2, 0, 0, [5212]))]
set_option maxRecDepth 100000 in
theorem c_jStr_charAt_v557 {l : Launch} {D : va_G} {kA : Nat → ClassId} : ct_ok PRD l D kA GG y_jStr_charAt z_jStr_charAt e_jStr_charAt_v557 := chk_all_ok (FT := []) (PT := []) (CT := t_jStr_charAt_v557_ct) (KT := []) (NT := []) (AN := n_jStr_charAt_v557_an) (OT := [o_jStr_charAt_v557_0]) 0 200 (List.forall_mem_cons.mpr ⟨oo_jStr_charAt_v557_0, List.forall_mem_nil _⟩) (by decide +kernel) ⟨List.forall_mem_nil _, List.forall_mem_nil _, List.forall_mem_cons.mpr ⟨cl_stringS (y := y_jStr_isLatin1) (rs := ro_strs) rfl (by decide +kernel) rfl c_jStr_isLatin1_v259 wm_688 wm_11 wm_685 wm_686 wm_687 ⟨by decide, by decide, by decide +kernel⟩ (by decide), List.forall_mem_cons.mpr ⟨cl_static (y := y_jLat_charAt) c_jLat_charAt_v558 wm_691 wm_12 wm_689 wm_690 ⟨by decide, by decide, by decide +kernel⟩ (by decide), List.forall_mem_cons.mpr ⟨cl_value (i := 12) wm_3969 rfl (by decide +kernel) (by decide +kernel) (by decide +kernel), List.forall_mem_nil _⟩⟩⟩, List.forall_mem_nil _, List.forall_mem_nil _, GG_pl⟩ (by decide +kernel)
def e_jStr_charAt_v567 : en_T := ([(2, 0, 0, [5022]), (0, 0, 0, [])], some (0, 0, 65535, []), true, 4, 0, 0, [], [], (0, [], [], [(23, [2], [101, 1]), (23, [2], [-101, -1])], []))
def o_jStr_charAt_v567_0 : or_T := (1000000, 0, [], [], [], [], [], [], [])
