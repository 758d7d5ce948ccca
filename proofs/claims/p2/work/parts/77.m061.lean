set_option maxHeartbeats 4000000 in
theorem vc_Mo_item_at_k3_13_0 (x3 : Int) (x23 : Int) (r_0 : Int) (pos_0 : Int) (k3 : 0 ≤ x3 ∧ x3 ≤ 2000) (k23 : 0 ≤ x23 ∧ x23 ≤ 2000) (f2 : 1 * x23 + ((-1) * x3 + 0) ≤ 0) (f3 : (-1) * x23 + (1 * x3 + 0) ≤ 0) (f14 : 1 * x23 + ((-1) * pos_0 + 0) ≤ 0) (kz_0_11 : 0 ≤ pos_0 ∧ pos_0 ≤ 2000) : 1 * x3 + ((-1) * pos_0 + 0) ≤ 0 := by
  first
    | omega
    | (have q1 := (hE_0_2_1 (r_0 + 2) (by omega)).2 (by omega)
       have q2 := (hE_0_2_2 (r_0 + 2) (by omega)).2 (by omega)
       omega)
    | (have q1 := (hE_0_2_1 (r_0 + 1) (by omega)).2 (by omega)
       have q2 := (hE_0_2_2 (r_0 + 1) (by omega)).2 (by omega)
       omega)
    | (have q1 := (hE_0_2_1 (r_0 + 2) (by omega)).2 (by omega)
       omega)
    | (have q1 := (hE_0_2_1 (r_0 + 1) (by omega)).2 (by omega)
       omega)
    | (have q1 := (hE_0_2_1 (r_0 + 2) (by omega)).2 (by omega)
       have q2 := (hE_0_2_2 (r_0 + 2) (by omega)).2 (by omega)
       have q3 := (hE_0_2_3 (r_0 + 2) (by omega)).1 (by omega)
       omega)
    | (have q1 := (hE_0_2_1 (r_0 + 2) (by omega)).2 (by omega)
       have q2 := (hE_0_2_2 (r_0 + 2) (by omega)).2 (by omega)
       have q3 := (hE_0_2_3 (r_0 + 2) (by omega)).2 (by omega)
       omega)
set_option maxHeartbeats 4000000 in
theorem vc_Mo_item_at_k3_13_1 (x3 : Int) (x23 : Int) (r_0 : Int) (pos_0 : Int) (fault_0 : Int) (k3 : 0 ≤ x3 ∧ x3 ≤ 2000) (k23 : 0 ≤ x23 ∧ x23 ≤ 2000) (f2 : 1 * x23 + ((-1) * x3 + 0) ≤ 0) (f3 : (-1) * x23 + (1 * x3 + 0) ≤ 0) (f14 : 1 * x23 + ((-1) * pos_0 + 0) ≤ 0) (f15 : (1 ≤ fault_0) ∨ ((x23 + 1) ≤ pos_0)) (kz_0_8 : 0 ≤ fault_0 ∧ fault_0 ≤ 5) (kz_0_11 : 0 ≤ pos_0 ∧ pos_0 ≤ 2000) : (1 ≤ fault_0) ∨ ((x3 + 1) ≤ pos_0) := by
  first
    | omega
    | (have q1 := (hE_0_2_1 (r_0 + 2) (by omega)).2 (by omega)
       have q2 := (hE_0_2_2 (r_0 + 2) (by omega)).2 (by omega)
       omega)
    | (have q1 := (hE_0_2_1 (r_0 + 1) (by omega)).2 (by omega)
       have q2 := (hE_0_2_2 (r_0 + 1) (by omega)).2 (by omega)
       omega)
    | (have q1 := (hE_0_2_1 (r_0 + 2) (by omega)).2 (by omega)
       omega)
    | (have q1 := (hE_0_2_1 (r_0 + 1) (by omega)).2 (by omega)
       omega)
    | (have q1 := (hE_0_2_1 (r_0 + 2) (by omega)).2 (by omega)
       have q2 := (hE_0_2_2 (r_0 + 2) (by omega)).2 (by omega)
       have q3 := (hE_0_2_3 (r_0 + 2) (by omega)).1 (by omega)
       omega)
    | (have q1 := (hE_0_2_1 (r_0 + 2) (by omega)).2 (by omega)
       have q2 := (hE_0_2_2 (r_0 + 2) (by omega)).2 (by omega)
       have q3 := (hE_0_2_3 (r_0 + 2) (by omega)).2 (by omega)
       omega)
def o_Mo_item_at_k3_13 : or_T := (94, 24, [(0, (2, 0, 0, [165])), (3, (0, 0, 2000, [])), (23, (0, 0, 2000, []))], [(23, [23, 3], [0, 1, -1]), (23, [23, 3], [0, -1, 1]), (20, [23, 0], [30, 0, 1, 0, 0, -1, 1, 11]), (20, [0, 23], [50, 2, 0, 8, 11, 3, 7, 0, 2, 0, 1, 2, 0, 8, 0, 6, 4, 2, 1, 1, 0, 1, 2, 0, 11])], [], [], [(20, [3, 0], [30, 0, 1, 0, 0, -1, 1, 11]), (20, [0, 3], [50, 2, 0, 8, 11, 3, 7, 0, 2, 0, 1, 2, 0, 8, 0, 6, 4, 2, 1, 1, 0, 1, 2, 0, 11])], [], [])
theorem oo_Mo_item_at_k3_13 {kA : Nat → ClassId} : or_ok PRD kA GG o_Mo_item_at_k3_13 := by
  refine or_mk fun A ta ws vs hD hth hl => ?_
  intro t0 r0 t3 k3 t23 k23 f2 f3 f14 f15
  have kz_0_8 := fdq_14 hD hth r0
  have kz_0_11 := fdq_273 hD hth r0
  have nf0 : fc_1 PRD (20, [3, 0], [30, 0, 1, 0, 0, -1, 1, 11]) ws (vs) := ⟨nf_in hl rfl, sgq_1395 (vc_Mo_item_at_k3_13_0 (v_iv (n_v vs 3)) (v_iv (n_v vs 23)) (w_fi ws (n_v vs 0) 5) (w_fi ws (n_v vs 0) 11) k3 k23 (shm_7 f2) (shm_22 f3) (shm_1395 f14) kz_0_11)⟩
  have nf1 : fc_1 PRD (20, [0, 3], [50, 2, 0, 8, 11, 3, 7, 0, 2, 0, 1, 2, 0, 8, 0, 6, 4, 2, 1, 1, 0, 1, 2, 0, 11]) ws (vs) := ⟨nf_in hl rfl, sgq_1659 (vc_Mo_item_at_k3_13_1 (v_iv (n_v vs 3)) (v_iv (n_v vs 23)) (w_fi ws (n_v vs 0) 5) (w_fi ws (n_v vs 0) 11) (w_fi ws (n_v vs 0) 8) k3 k23 (shm_7 f2) (shm_22 f3) (shm_1395 f14) (shm_1659 f15) kz_0_8 kz_0_11)⟩
  refine ⟨(fun _ h => (by cases h)), [], trivial, ?_, (fun _ h => (by cases h))⟩
  rw [List.append_nil]
  exact List.forall_mem_cons.mpr ⟨⟨show (20 : Nat) < 100 from by decide, nf0⟩, List.forall_mem_cons.mpr ⟨⟨show (20 : Nat) < 100 from by decide, nf1⟩, (fun _ h => (by cases h))⟩⟩
def n_Mo_item_at_k3_an : List an_T := []
def t_Mo_item_at_k3_ct : ct_L := [(1, 460, e_Mo_next), (1, 491, e_Mo_need), (1, 494, e_Mo_met), (1, 506, e_Mo_edgeItem), (16, 469, e_Mo_isWord_at_s5000), (85, 499, e_Mo_of_at_s5002), (226, 469, e_Mo_isWord_at_s5001), (253, 503, e_Mo_groupItem_at_k3), (1000001, 467, en_ro [] (2, 0, 0, [5000])), (1000001, 473, en_ro [] (2, 0, 0, [5001])), (1000001, 497, en_ro [] (2, 0, 0, [5002]))]
set_option maxRecDepth 100000 in
theorem c_Mo_item_at_k3 {l : Launch} {D : va_G} {kA : Nat → ClassId} (h_Mo_edgeItem : ct_ok PRD l D kA GG y_Mo_edgeItem z_Mo_edgeItem e_Mo_edgeItem) (h_Mo_groupItem_at_k3 : ct_ok PRD l D kA GG y_Mo_groupItem_at_k3 z_Mo_groupItem_at_k3 e_Mo_groupItem_at_k3) (h_Mo_isWord_at_s5000 : ct_ok PRD l D kA GG y_Mo_isWord_at_s5000 z_Mo_isWord_at_s5000 e_Mo_isWord_at_s5000) (h_Mo_isWord_at_s5001 : ct_ok PRD l D kA GG y_Mo_isWord_at_s5001 z_Mo_isWord_at_s5001 e_Mo_isWord_at_s5001) (h_Mo_met : ct_ok PRD l D kA GG y_Mo_met z_Mo_met e_Mo_met) (h_Mo_need : ct_ok PRD l D kA GG y_Mo_need z_Mo_need e_Mo_need) (h_Mo_next : ct_ok PRD l D kA GG y_Mo_next z_Mo_next e_Mo_next) (h_Mo_of_at_s5002 : ct_ok PRD l D kA GG y_Mo_of_at_s5002 z_Mo_of_at_s5002 e_Mo_of_at_s5002) : ct_ok PRD l D kA GG y_Mo_item_at_k3 z_Mo_item_at_k3 e_Mo_item_at_k3 := chk_all_ok (FT := [(16, 13, 2), (391, 13, 5), (413, 13, 8)]) (PT := []) (CT := t_Mo_item_at_k3_ct) (KT := []) (NT := []) (AN := n_Mo_item_at_k3_an) (OT := [o_Mo_item_at_k3_0, o_Mo_item_at_k3_1, o_Mo_item_at_k3_2, o_Mo_item_at_k3_3, o_Mo_item_at_k3_4, o_Mo_item_at_k3_5, o_Mo_item_at_k3_6, o_Mo_item_at_k3_7, o_Mo_item_at_k3_8, o_Mo_item_at_k3_9, o_Mo_item_at_k3_10, o_Mo_item_at_k3_11, o_Mo_item_at_k3_12, o_Mo_item_at_k3_13]) 0 240 (List.forall_mem_cons.mpr ⟨oo_Mo_item_at_k3_0, List.forall_mem_cons.mpr ⟨oo_Mo_item_at_k3_1, List.forall_mem_cons.mpr ⟨oo_Mo_item_at_k3_2, List.forall_mem_cons.mpr ⟨oo_Mo_item_at_k3_3, List.forall_mem_cons.mpr ⟨oo_Mo_item_at_k3_4, List.forall_mem_cons.mpr ⟨oo_Mo_item_at_k3_5, List.forall_mem_cons.mpr ⟨oo_Mo_item_at_k3_6, List.forall_mem_cons.mpr ⟨oo_Mo_item_at_k3_7, List.forall_mem_cons.mpr ⟨oo_Mo_item_at_k3_8, List.forall_mem_cons.mpr ⟨oo_Mo_item_at_k3_9, List.forall_mem_cons.mpr ⟨oo_Mo_item_at_k3_10, List.forall_mem_cons.mpr ⟨oo_Mo_item_at_k3_11, List.forall_mem_cons.mpr ⟨oo_Mo_item_at_k3_12, List.forall_mem_cons.mpr ⟨oo_Mo_item_at_k3_13, List.forall_mem_nil _⟩⟩⟩⟩⟩⟩⟩⟩⟩⟩⟩⟩⟩⟩) (by decide +kernel) ⟨List.forall_mem_cons.mpr ⟨gf_Mo_16, List.forall_mem_cons.mpr ⟨gf_Mo_391, List.forall_mem_cons.mpr ⟨gf_Mo_413, List.forall_mem_nil _⟩⟩⟩, List.forall_mem_nil _, List.forall_mem_cons.mpr ⟨cl_virtual (y := y_Mo_next) (ci := 13) rfl rfl ⟨_, _, rfl⟩ (by decide +kernel) h_Mo_next wm_2982 wm_9 wm_2979 wm_2981 wv_12_11 ⟨by decide, by decide, by decide +kernel⟩ (by decide), List.forall_mem_cons.mpr ⟨cl_virtual (y := y_Mo_need) (ci := 13) rfl rfl ⟨_, _, rfl⟩ (by decide +kernel) h_Mo_need wm_3062 wm_9 wm_3059 wm_3061 wv_13_12 ⟨by decide, by decide, by decide +kernel⟩ (by decide), List.forall_mem_cons.mpr ⟨cl_virtual (y := y_Mo_met) (ci := 13) rfl rfl ⟨_, _, rfl⟩ (by decide +kernel) h_Mo_met wm_3008 wm_9 wm_3005 wm_3007 wv_12_15 ⟨by decide, by decide, by decide +kernel⟩ (by decide), List.forall_mem_cons.mpr ⟨cl_virtual (y := y_Mo_edgeItem) (ci := 13) rfl rfl ⟨_, _, rfl⟩ (by decide +kernel) h_Mo_edgeItem wm_3074 wm_9 wm_3071 wm_3073 wv_13_15 ⟨by decide, by decide, by decide +kernel⟩ (by decide), List.forall_mem_cons.mpr ⟨cl_virtual (y := y_Mo_isWord_at_s5000) (ci := 13) rfl rfl ⟨_, _, rfl⟩ (by decide +kernel) h_Mo_isWord_at_s5000 wm_3002 wm_9 wm_2999 wm_3001 wv_12_14 ⟨by decide, by decide, by decide +kernel⟩ (by decide), List.forall_mem_cons.mpr ⟨cl_virtual (y := y_Mo_of_at_s5002) (ci := 13) rfl rfl ⟨_, _, rfl⟩ (by decide +kernel) h_Mo_of_at_s5002 wm_3054 wm_9 wm_3051 wm_3053 wv_13_10 ⟨by decide, by decide, by decide +kernel⟩ (by decide), List.forall_mem_cons.mpr ⟨cl_virtual (y := y_Mo_isWord_at_s5001) (ci := 13) rfl rfl ⟨_, _, rfl⟩ (by decide +kernel) h_Mo_isWord_at_s5001 wm_3002 wm_9 wm_2999 wm_3001 wv_12_14 ⟨by decide, by decide, by decide +kernel⟩ (by decide), List.forall_mem_cons.mpr ⟨cl_virtual (y := y_Mo_groupItem_at_k3) (ci := 13) rfl rfl ⟨_, _, rfl⟩ (by decide +kernel) h_Mo_groupItem_at_k3 wm_3066 wm_9 wm_3063 wm_3065 wv_13_13 ⟨by decide, by decide, by decide +kernel⟩ (by decide), List.forall_mem_cons.mpr ⟨cl_ldcw (own := "DrawingHouseModel") (idx := 467) (i := 0) (tx := "node") (by decide +kernel) (by decide +kernel) (by decide +kernel), List.forall_mem_cons.mpr ⟨cl_ldcw (own := "DrawingHouseModel") (idx := 473) (i := 1) (tx := "group") (by decide +kernel) (by decide +kernel) (by decide +kernel), List.forall_mem_cons.mpr ⟨cl_ldcw (own := "DrawingHouseModel") (idx := 497) (i := 2) (tx := "size") (by decide +kernel) (by decide +kernel) (by decide +kernel), List.forall_mem_nil _⟩⟩⟩⟩⟩⟩⟩⟩⟩⟩⟩, List.forall_mem_nil _, List.forall_mem_nil _, GG_pl⟩ (by decide +kernel)

set_option maxHeartbeats 4000000 in
theorem vc_Mo_item_at_k4_0_0 (x3 : Int) (r_0 : Int) (gx : Int) (k3 : 0 ≤ x3 ∧ x3 ≤ 2000) (ex2 : gx = x3) : 1 * gx + ((-1) * x3 + 0) ≤ 0 := by
  first
    | omega
    | (have q1 := (hE_0_2_1 (r_0 + 2) (by omega)).2 (by omega)
       have q2 := (hE_0_2_2 (r_0 + 2) (by omega)).2 (by omega)
       omega)
    | (have q1 := (hE_0_2_1 (r_0 + 1) (by omega)).2 (by omega)
       have q2 := (hE_0_2_2 (r_0 + 1) (by omega)).2 (by omega)
       omega)
    | (have q1 := (hE_0_2_1 (r_0 + 2) (by omega)).2 (by omega)
       omega)
    | (have q1 := (hE_0_2_1 (r_0 + 1) (by omega)).2 (by omega)
       omega)
    | (have q1 := (hE_0_2_1 (r_0 + 2) (by omega)).2 (by omega)
       have q2 := (hE_0_2_2 (r_0 + 2) (by omega)).2 (by omega)
       have q3 := (hE_0_2_3 (r_0 + 2) (by omega)).1 (by omega)
       omega)
    | (have q1 := (hE_0_2_1 (r_0 + 2) (by omega)).2 (by omega)
       have q2 := (hE_0_2_2 (r_0 + 2) (by omega)).2 (by omega)
       have q3 := (hE_0_2_3 (r_0 + 2) (by omega)).2 (by omega)
       omega)
set_option maxHeartbeats 4000000 in
theorem vc_Mo_item_at_k4_0_1 (x3 : Int) (r_0 : Int) (gx : Int) (k3 : 0 ≤ x3 ∧ x3 ≤ 2000) (ex2 : gx = x3) : (-1) * gx + (1 * x3 + 0) ≤ 0 := by
  first
    | omega
    | (have q1 := (hE_0_2_1 (r_0 + 2) (by omega)).2 (by omega)
       have q2 := (hE_0_2_2 (r_0 + 2) (by omega)).2 (by omega)
       omega)
    | (have q1 := (hE_0_2_1 (r_0 + 1) (by omega)).2 (by omega)
       have q2 := (hE_0_2_2 (r_0 + 1) (by omega)).2 (by omega)
       omega)
    | (have q1 := (hE_0_2_1 (r_0 + 2) (by omega)).2 (by omega)
       omega)
    | (have q1 := (hE_0_2_1 (r_0 + 1) (by omega)).2 (by omega)
       omega)
    | (have q1 := (hE_0_2_1 (r_0 + 2) (by omega)).2 (by omega)
       have q2 := (hE_0_2_2 (r_0 + 2) (by omega)).2 (by omega)
       have q3 := (hE_0_2_3 (r_0 + 2) (by omega)).1 (by omega)
       omega)
    | (have q1 := (hE_0_2_1 (r_0 + 2) (by omega)).2 (by omega)
       have q2 := (hE_0_2_2 (r_0 + 2) (by omega)).2 (by omega)
       have q3 := (hE_0_2_3 (r_0 + 2) (by omega)).2 (by omega)
       omega)
set_option maxHeartbeats 4000000 in
theorem vc_Mo_item_at_k4_0_2 (from_0 : Int) (pos_0 : Int) (r_0 : Int) (f1 : 1 * from_0 + ((-1) * pos_0 + 0) ≤ 0) (kz_0_11 : 0 ≤ pos_0 ∧ pos_0 ≤ 2000) (kz_0_15 : 0 ≤ from_0 ∧ from_0 ≤ 2000) : 1 * from_0 + ((-1) * pos_0 + 0) ≤ 0 := by
  first
    | omega
    | (have q1 := (hE_0_2_1 (r_0 + 2) (by omega)).2 (by omega)
       have q2 := (hE_0_2_2 (r_0 + 2) (by omega)).2 (by omega)
       omega)
    | (have q1 := (hE_0_2_1 (r_0 + 1) (by omega)).2 (by omega)
       have q2 := (hE_0_2_2 (r_0 + 1) (by omega)).2 (by omega)
       omega)
    | (have q1 := (hE_0_2_1 (r_0 + 2) (by omega)).2 (by omega)
       omega)
    | (have q1 := (hE_0_2_1 (r_0 + 1) (by omega)).2 (by omega)
       omega)
    | (have q1 := (hE_0_2_1 (r_0 + 2) (by omega)).2 (by omega)
       have q2 := (hE_0_2_2 (r_0 + 2) (by omega)).2 (by omega)
       have q3 := (hE_0_2_3 (r_0 + 2) (by omega)).1 (by omega)
       omega)
    | (have q1 := (hE_0_2_1 (r_0 + 2) (by omega)).2 (by omega)
       have q2 := (hE_0_2_2 (r_0 + 2) (by omega)).2 (by omega)
       have q3 := (hE_0_2_3 (r_0 + 2) (by omega)).2 (by omega)
       omega)
set_option maxHeartbeats 4000000 in
theorem vc_Mo_item_at_k4_0_3 (from_0 : Int) (pos_0 : Int) (kind_0 : Int) (r_0 : Int) (f2 : ((kind_0 = 1) → (pos_0 ≤ (from_0 + 8))) ∧ ((kind_0 = 0) ∨ ((from_0 + 1) ≤ pos_0))) (kz_0_11 : 0 ≤ pos_0 ∧ pos_0 ≤ 2000) (kz_0_12 : 0 ≤ kind_0 ∧ kind_0 ≤ 4) (kz_0_15 : 0 ≤ from_0 ∧ from_0 ≤ 2000) : ((kind_0 = 1) → (pos_0 ≤ (from_0 + 8))) ∧ ((kind_0 = 0) ∨ ((from_0 + 1) ≤ pos_0)) := by
  first
    | omega
    | (have q1 := (hE_0_2_1 (r_0 + 2) (by omega)).2 (by omega)
       have q2 := (hE_0_2_2 (r_0 + 2) (by omega)).2 (by omega)
       omega)
    | (have q1 := (hE_0_2_1 (r_0 + 1) (by omega)).2 (by omega)
       have q2 := (hE_0_2_2 (r_0 + 1) (by omega)).2 (by omega)
       omega)
    | (have q1 := (hE_0_2_1 (r_0 + 2) (by omega)).2 (by omega)
       omega)
    | (have q1 := (hE_0_2_1 (r_0 + 1) (by omega)).2 (by omega)
       omega)
    | (have q1 := (hE_0_2_1 (r_0 + 2) (by omega)).2 (by omega)
       have q2 := (hE_0_2_2 (r_0 + 2) (by omega)).2 (by omega)
       have q3 := (hE_0_2_3 (r_0 + 2) (by omega)).1 (by omega)
       omega)
    | (have q1 := (hE_0_2_1 (r_0 + 2) (by omega)).2 (by omega)
       have q2 := (hE_0_2_2 (r_0 + 2) (by omega)).2 (by omega)
       have q3 := (hE_0_2_3 (r_0 + 2) (by omega)).2 (by omega)
       omega)
set_option maxHeartbeats 4000000 in
theorem vc_Mo_item_at_k4_0_4 (x3 : Int) (pos_0 : Int) (r_0 : Int) (gx : Int) (k3 : 0 ≤ x3 ∧ x3 ≤ 2000) (f3 : 1 * x3 + ((-1) * pos_0 + 0) ≤ 0) (kz_0_11 : 0 ≤ pos_0 ∧ pos_0 ≤ 2000) (ex2 : gx = x3) : 1 * gx + ((-1) * pos_0 + 0) ≤ 0 := by
  first
    | omega
    | (have q1 := (hE_0_2_1 (r_0 + 2) (by omega)).2 (by omega)
       have q2 := (hE_0_2_2 (r_0 + 2) (by omega)).2 (by omega)
       omega)
    | (have q1 := (hE_0_2_1 (r_0 + 1) (by omega)).2 (by omega)
       have q2 := (hE_0_2_2 (r_0 + 1) (by omega)).2 (by omega)
       omega)
    | (have q1 := (hE_0_2_1 (r_0 + 2) (by omega)).2 (by omega)
       omega)
    | (have q1 := (hE_0_2_1 (r_0 + 1) (by omega)).2 (by omega)
       omega)
    | (have q1 := (hE_0_2_1 (r_0 + 2) (by omega)).2 (by omega)
       have q2 := (hE_0_2_2 (r_0 + 2) (by omega)).2 (by omega)
       have q3 := (hE_0_2_3 (r_0 + 2) (by omega)).1 (by omega)
       omega)
    | (have q1 := (hE_0_2_1 (r_0 + 2) (by omega)).2 (by omega)
       have q2 := (hE_0_2_2 (r_0 + 2) (by omega)).2 (by omega)
       have q3 := (hE_0_2_3 (r_0 + 2) (by omega)).2 (by omega)
       omega)
set_option maxHeartbeats 4000000 in
theorem vc_Mo_item_at_k4_0_5 (x1 : Int) (all_0 : Int → Int) (r_0 : Int) (k1 : 0 ≤ x1 ∧ x1 ≤ 7) (f4 : (x1 + 1) ≤ all_0 ((r_0 + 2))) : (x1 + 1) ≤ all_0 ((r_0 + 2)) := by
  first
    | omega
    | (have q1 := (hE_0_2_1 (r_0 + 2) (by omega)).2 (by omega)
       have q2 := (hE_0_2_2 (r_0 + 2) (by omega)).2 (by omega)
       omega)
    | (have q1 := (hE_0_2_1 (r_0 + 1) (by omega)).2 (by omega)
       have q2 := (hE_0_2_2 (r_0 + 1) (by omega)).2 (by omega)
       omega)
    | (have q1 := (hE_0_2_1 (r_0 + 2) (by omega)).2 (by omega)
       omega)
    | (have q1 := (hE_0_2_1 (r_0 + 1) (by omega)).2 (by omega)
       omega)
    | (have q1 := (hE_0_2_1 (r_0 + 2) (by omega)).2 (by omega)
       have q2 := (hE_0_2_2 (r_0 + 2) (by omega)).2 (by omega)
       have q3 := (hE_0_2_3 (r_0 + 2) (by omega)).1 (by omega)
       omega)
    | (have q1 := (hE_0_2_1 (r_0 + 2) (by omega)).2 (by omega)
       have q2 := (hE_0_2_2 (r_0 + 2) (by omega)).2 (by omega)
       have q3 := (hE_0_2_3 (r_0 + 2) (by omega)).2 (by omega)
       omega)
set_option maxHeartbeats 4000000 in
theorem vc_Mo_item_at_k4_0_6 (all_0 : Int → Int) (r_0 : Int) (now_0 : Int → Int) (latest_0 : Int → Int) (f5 : RWS (r_0) (all_0) (now_0) (latest_0)) : RWS (r_0) (all_0) (now_0) (latest_0) := by
  first
    | assumption
def o_Mo_item_at_k4_0 : or_T := (91, 8, [(0, (2, 0, 0, [165])), (1, (0, 0, 7, [])), (3, (0, 0, 2000, []))], [(20, [0, 0], [30, 0, 1, 1, 15, -1, 1, 11]), (20, [0], [50, 3, 0, 12, 11, 15, 2, 21, 4, 7, 1, 3, 2, 0, 12, 0, 1, 0, 3, 2, 0, 11, 4, 3, 2, 0, 15, 0, 8, 3, 7, 1, 3, 2, 0, 12, 0, 0, 0, 7, 4, 3, 2, 0, 15, 0, 1, 2, 0, 11]), (20, [3, 0], [30, 0, 1, 0, 0, -1, 1, 11]), (20, [1, 0], [50, 1, 1, 1005, 1002, 0, 6, 4, 2, 1, 0, 0, 1, 3, 1, 2, 4, 3, 2, 1, 5, 0, 2]), (20, [0], [60, 1, 3, 199, 5, 2, 3, 4])], [], [(0, 0, 2000, [])], [(23, [8, 3], [0, 1, -1]), (23, [8, 3], [0, -1, 1]), (20, [0, 0], [30, 0, 1, 1, 15, -1, 1, 11]), (20, [0], [50, 3, 0, 12, 11, 15, 2, 21, 4, 7, 1, 3, 2, 0, 12, 0, 1, 0, 3, 2, 0, 11, 4, 3, 2, 0, 15, 0, 8, 3, 7, 1, 3, 2, 0, 12, 0, 0, 0, 7, 4, 3, 2, 0, 15, 0, 1, 2, 0, 11]), (20, [8, 0], [30, 0, 1, 0, 0, -1, 1, 11]), (20, [1, 0], [50, 1, 1, 1005, 1002, 0, 6, 4, 2, 1, 0, 0, 1, 3, 1, 2, 4, 3, 2, 1, 5, 0, 2]), (20, [0], [60, 1, 3, 199, 5, 2, 3, 4])], [], [])
theorem oo_Mo_item_at_k4_0 {kA : Nat → ClassId} : or_ok PRD kA GG o_Mo_item_at_k4_0 := by
  refine or_mk fun A ta ws vs hD hth hl => ?_
  intro t0 r0 t1 k1 t3 k3 f1 f2 f3 f4 f5
  replace f1 := shm_1397 f1
  replace f2 := shm_1398 f2
  replace f3 := shm_1395 f3
  replace f4 := shm_981 f4
  replace f5 := shm_952 f5
  have kz_0_11 := fdq_273 hD hth r0
  have kz_0_12 := fdq_186 hD hth r0
  have kz_0_15 := fdq_274 hD hth r0
  obtain ⟨x, ex, hx⟩ := iv_ex (ta := ta) (lo := 0) (hi := 2000) (z := v_iv (n_v vs 3)) (by omega) (by omega) (by omega) (by omega)
  have ex2 : v_iv (Value.int x) = v_iv (n_v vs 3) := ex
  have ex3 : 0 ≤ v_iv (Value.int x) ∧ v_iv (Value.int x) ≤ 2000 := tv_rng hx
  have e_0 : n_v (vs ++ [Value.int x]) 0 = n_v vs 0 := n_v_old (by rw [hl]; decide)
  have e_1 : n_v (vs ++ [Value.int x]) 1 = n_v vs 1 := n_v_old (by rw [hl]; decide)
  have e_3 : n_v (vs ++ [Value.int x]) 3 = n_v vs 3 := n_v_old (by rw [hl]; decide)
  have e_8 : n_v (vs ++ [Value.int x]) 8 = Value.int x := n_v_new hl
  have nf0 : fc_1 PRD (23, [8, 3], [0, 1, -1]) ws (vs ++ [Value.int x]) := by
    refine ⟨nf_inA hl rfl, sgq_7 ?_⟩
    · show 1 * v_iv (n_v (vs ++ [Value.int x]) 8) + ((-1) * v_iv (n_v (vs ++ [Value.int x]) 3) + 0) ≤ 0
      simp only [e_3, e_8]
      exact vc_Mo_item_at_k4_0_0 (v_iv (n_v vs 3)) (w_fi ws (n_v vs 0) 5) (v_iv (Value.int x)) k3 ex2
  have nf1 : fc_1 PRD (23, [8, 3], [0, -1, 1]) ws (vs ++ [Value.int x]) := by
    refine ⟨nf_inA hl rfl, sgq_22 ?_⟩
    · show (-1) * v_iv (n_v (vs ++ [Value.int x]) 8) + (1 * v_iv (n_v (vs ++ [Value.int x]) 3) + 0) ≤ 0
      simp only [e_3, e_8]
      exact vc_Mo_item_at_k4_0_1 (v_iv (n_v vs 3)) (w_fi ws (n_v vs 0) 5) (v_iv (Value.int x)) k3 ex2
  have nf2 : fc_1 PRD (20, [0, 0], [30, 0, 1, 1, 15, -1, 1, 11]) ws (vs ++ [Value.int x]) := by
    refine ⟨nf_inA hl rfl, sgq_1397 ?_⟩
    · show 1 * w_fi ws (n_v (vs ++ [Value.int x]) 0) 15 + ((-1) * w_fi ws (n_v (vs ++ [Value.int x]) 0) 11 + 0) ≤ 0
      rw [e_0]
      exact vc_Mo_item_at_k4_0_2 (w_fi ws (n_v vs 0) 15) (w_fi ws (n_v vs 0) 11) (w_fi ws (n_v vs 0) 5) f1 kz_0_11 kz_0_15
  have nf3 : fc_1 PRD (20, [0], [50, 3, 0, 12, 11, 15, 2, 21, 4, 7, 1, 3, 2, 0, 12, 0, 1, 0, 3, 2, 0, 11, 4, 3, 2, 0, 15, 0, 8, 3, 7, 1, 3, 2, 0, 12, 0, 0, 0, 7, 4, 3, 2, 0, 15, 0, 1, 2, 0, 11]) ws (vs ++ [Value.int x]) := by
    refine ⟨nf_inA hl rfl, sgq_1398 ?_⟩
    · show ((w_fi ws (n_v (vs ++ [Value.int x]) 0) 12 = 1) → (w_fi ws (n_v (vs ++ [Value.int x]) 0) 11 ≤ (w_fi ws (n_v (vs ++ [Value.int x]) 0) 15 + 8))) ∧ ((w_fi ws (n_v (vs ++ [Value.int x]) 0) 12 = 0) ∨ ((w_fi ws (n_v (vs ++ [Value.int x]) 0) 15 + 1) ≤ w_fi ws (n_v (vs ++ [Value.int x]) 0) 11))
      rw [e_0]
      exact vc_Mo_item_at_k4_0_3 (w_fi ws (n_v vs 0) 15) (w_fi ws (n_v vs 0) 11) (w_fi ws (n_v vs 0) 12) (w_fi ws (n_v vs 0) 5) f2 kz_0_11 kz_0_12 kz_0_15
  have nf4 : fc_1 PRD (20, [8, 0], [30, 0, 1, 0, 0, -1, 1, 11]) ws (vs ++ [Value.int x]) := by
    refine ⟨nf_inA hl rfl, sgq_1395 ?_⟩
    · show 1 * v_iv (n_v (vs ++ [Value.int x]) 8) + ((-1) * w_fi ws (n_v (vs ++ [Value.int x]) 0) 11 + 0) ≤ 0
      simp only [e_0, e_8]
      exact vc_Mo_item_at_k4_0_4 (v_iv (n_v vs 3)) (w_fi ws (n_v vs 0) 11) (w_fi ws (n_v vs 0) 5) (v_iv (Value.int x)) k3 f3 kz_0_11 ex2
  have nf5 : fc_1 PRD (20, [1, 0], [50, 1, 1, 1005, 1002, 0, 6, 4, 2, 1, 0, 0, 1, 3, 1, 2, 4, 3, 2, 1, 5, 0, 2]) ws (vs ++ [Value.int x]) := by
    refine ⟨nf_inA hl rfl, sgq_981 ?_⟩
    · show (v_iv (n_v (vs ++ [Value.int x]) 1) + 1) ≤ w_ei ws (w_ar ws (n_v (vs ++ [Value.int x]) 0) 2) ((w_fi ws (n_v (vs ++ [Value.int x]) 0) 5 + 2))
      simp only [e_0, e_1]
      exact vc_Mo_item_at_k4_0_5 (v_iv (n_v vs 1)) (w_ei ws (w_ar ws (n_v vs 0) 2)) (w_fi ws (n_v vs 0) 5) k1 f4
  have nf6 : fc_1 PRD (20, [0], [60, 1, 3, 199, 5, 2, 3, 4]) ws (vs ++ [Value.int x]) := by
    refine ⟨nf_inA hl rfl, sgq_952 ?_⟩
    · show RWS (w_fi ws (n_v (vs ++ [Value.int x]) 0) 5) (w_ei ws (w_ar ws (n_v (vs ++ [Value.int x]) 0) 2)) (w_ei ws (w_ar ws (n_v (vs ++ [Value.int x]) 0) 3)) (w_ei ws (w_ar ws (n_v (vs ++ [Value.int x]) 0) 4))
      rw [e_0]
      exact vc_Mo_item_at_k4_0_6 (w_ei ws (w_ar ws (n_v vs 0) 2)) (w_fi ws (n_v vs 0) 5) (w_ei ws (w_ar ws (n_v vs 0) 3)) (w_ei ws (w_ar ws (n_v vs 0) 4)) f5
  exact ⟨(fun _ h => (by cases h)), [Value.int x], ag_one hx, List.forall_mem_cons.mpr ⟨⟨show (23 : Nat) < 100 from by decide, nf0⟩, List.forall_mem_cons.mpr ⟨⟨show (23 : Nat) < 100 from by decide, nf1⟩, List.forall_mem_cons.mpr ⟨⟨show (20 : Nat) < 100 from by decide, nf2⟩, List.forall_mem_cons.mpr ⟨⟨show (20 : Nat) < 100 from by decide, nf3⟩, List.forall_mem_cons.mpr ⟨⟨show (20 : Nat) < 100 from by decide, nf4⟩, List.forall_mem_cons.mpr ⟨⟨show (20 : Nat) < 100 from by decide, nf5⟩, List.forall_mem_cons.mpr ⟨⟨show (20 : Nat) < 100 from by decide, nf6⟩, (fun _ h => (by cases h))⟩⟩⟩⟩⟩⟩⟩, (fun _ h => (by cases h))⟩
set_option maxHeartbeats 4000000 in
theorem vc_Mo_item_at_k4_1_0 (x3 : Int) (x8 : Int) (pos_0 : Int) (r_0 : Int) (k3 : 0 ≤ x3 ∧ x3 ≤ 2000) (k8 : 0 ≤ x8 ∧ x8 ≤ 2000) (f0 : 1 * x8 + ((-1) * x3 + 0) ≤ 0) (f1 : (-1) * x8 + (1 * x3 + 0) ≤ 0) (f4 : 1 * x8 + ((-1) * pos_0 + 0) ≤ 0) (kz_0_11 : 0 ≤ pos_0 ∧ pos_0 ≤ 2000) : 1 * x3 + ((-1) * pos_0 + 0) ≤ 0 := by
  first
    | omega
    | (have q1 := (hE_0_2_1 (r_0 + 2) (by omega)).2 (by omega)
       have q2 := (hE_0_2_2 (r_0 + 2) (by omega)).2 (by omega)
       omega)
    | (have q1 := (hE_0_2_1 (r_0 + 1) (by omega)).2 (by omega)
       have q2 := (hE_0_2_2 (r_0 + 1) (by omega)).2 (by omega)
       omega)
    | (have q1 := (hE_0_2_1 (r_0 + 2) (by omega)).2 (by omega)
       omega)
    | (have q1 := (hE_0_2_1 (r_0 + 1) (by omega)).2 (by omega)
       omega)
    | (have q1 := (hE_0_2_1 (r_0 + 2) (by omega)).2 (by omega)
       have q2 := (hE_0_2_2 (r_0 + 2) (by omega)).2 (by omega)
       have q3 := (hE_0_2_3 (r_0 + 2) (by omega)).1 (by omega)
       omega)
    | (have q1 := (hE_0_2_1 (r_0 + 2) (by omega)).2 (by omega)
       have q2 := (hE_0_2_2 (r_0 + 2) (by omega)).2 (by omega)
       have q3 := (hE_0_2_3 (r_0 + 2) (by omega)).2 (by omega)
       omega)
set_option maxHeartbeats 4000000 in
theorem vc_Mo_item_at_k4_1_1 (x3 : Int) (x8 : Int) (pos_0 : Int) (fault_0 : Int) (r_0 : Int) (k3 : 0 ≤ x3 ∧ x3 ≤ 2000) (k8 : 0 ≤ x8 ∧ x8 ≤ 2000) (f0 : 1 * x8 + ((-1) * x3 + 0) ≤ 0) (f1 : (-1) * x8 + (1 * x3 + 0) ≤ 0) (f4 : 1 * x8 + ((-1) * pos_0 + 0) ≤ 0) (f5 : (1 ≤ fault_0) ∨ ((x8 + 1) ≤ pos_0)) (kz_0_8 : 0 ≤ fault_0 ∧ fault_0 ≤ 5) (kz_0_11 : 0 ≤ pos_0 ∧ pos_0 ≤ 2000) : (1 ≤ fault_0) ∨ ((x3 + 1) ≤ pos_0) := by
  first
    | omega
    | (have q1 := (hE_0_2_1 (r_0 + 2) (by omega)).2 (by omega)
       have q2 := (hE_0_2_2 (r_0 + 2) (by omega)).2 (by omega)
       omega)
    | (have q1 := (hE_0_2_1 (r_0 + 1) (by omega)).2 (by omega)
       have q2 := (hE_0_2_2 (r_0 + 1) (by omega)).2 (by omega)
       omega)
    | (have q1 := (hE_0_2_1 (r_0 + 2) (by omega)).2 (by omega)
       omega)
    | (have q1 := (hE_0_2_1 (r_0 + 1) (by omega)).2 (by omega)
       omega)
    | (have q1 := (hE_0_2_1 (r_0 + 2) (by omega)).2 (by omega)
       have q2 := (hE_0_2_2 (r_0 + 2) (by omega)).2 (by omega)
       have q3 := (hE_0_2_3 (r_0 + 2) (by omega)).1 (by omega)
       omega)
    | (have q1 := (hE_0_2_1 (r_0 + 2) (by omega)).2 (by omega)
       have q2 := (hE_0_2_2 (r_0 + 2) (by omega)).2 (by omega)
       have q3 := (hE_0_2_3 (r_0 + 2) (by omega)).2 (by omega)
       omega)
def o_Mo_item_at_k4_1 : or_T := (94, 9, [(0, (2, 0, 0, [165])), (1, (0, 0, 7, [])), (3, (0, 0, 2000, [])), (8, (0, 0, 2000, []))], [(23, [8, 3], [0, 1, -1]), (23, [8, 3], [0, -1, 1]), (20, [0, 0], [30, 0, 1, 1, 15, -1, 1, 11]), (20, [0], [50, 3, 0, 12, 11, 15, 2, 21, 4, 7, 1, 3, 2, 0, 12, 0, 1, 0, 3, 2, 0, 11, 4, 3, 2, 0, 15, 0, 8, 3, 7, 1, 3, 2, 0, 12, 0, 0, 0, 7, 4, 3, 2, 0, 15, 0, 1, 2, 0, 11]), (20, [8, 0], [30, 0, 1, 0, 0, -1, 1, 11]), (20, [0, 8], [50, 2, 0, 8, 11, 3, 7, 0, 2, 0, 1, 2, 0, 8, 0, 6, 4, 2, 1, 1, 0, 1, 2, 0, 11]), (20, [1, 0], [50, 1, 1, 1005, 1002, 0, 6, 4, 2, 1, 0, 0, 1, 3, 1, 2, 4, 3, 2, 1, 5, 0, 2]), (20, [0], [60, 1, 3, 199, 5, 2, 3, 4]), (102, [8], [187072209578355573530071658587684226515959365500928, 165008, 165009, 165011, 165012, 165013, 165014, 165015]), (23, [8, 3], [0, 1, -1]), (23, [8, 3], [0, -1, 1])], [], [], [(20, [3, 0], [30, 0, 1, 0, 0, -1, 1, 11]), (20, [0, 3], [50, 2, 0, 8, 11, 3, 7, 0, 2, 0, 1, 2, 0, 8, 0, 6, 4, 2, 1, 1, 0, 1, 2, 0, 11])], [], [])
theorem oo_Mo_item_at_k4_1 {kA : Nat → ClassId} : or_ok PRD kA GG o_Mo_item_at_k4_1 := by
  refine or_mk fun A ta ws vs hD hth hl => ?_
  intro t0 r0 t1 k1 t3 k3 t8 k8 f0 f1 f2 f3 f4 f5 f6 f7 ta1 w1 le1 s1 f9 f10
  have kz_0_8 := fdq_14 hD hth r0
  have kz_0_11 := fdq_273 hD hth r0
  have nf0 : fc_1 PRD (20, [3, 0], [30, 0, 1, 0, 0, -1, 1, 11]) ws (vs) := ⟨nf_in hl rfl, sgq_1395 (vc_Mo_item_at_k4_1_0 (v_iv (n_v vs 3)) (v_iv (n_v vs 8)) (w_fi ws (n_v vs 0) 11) (w_fi ws (n_v vs 0) 5) k3 k8 (shm_7 f0) (shm_22 f1) (shm_1395 f4) kz_0_11)⟩
  have nf1 : fc_1 PRD (20, [0, 3], [50, 2, 0, 8, 11, 3, 7, 0, 2, 0, 1, 2, 0, 8, 0, 6, 4, 2, 1, 1, 0, 1, 2, 0, 11]) ws (vs) := ⟨nf_in hl rfl, sgq_1659 (vc_Mo_item_at_k4_1_1 (v_iv (n_v vs 3)) (v_iv (n_v vs 8)) (w_fi ws (n_v vs 0) 11) (w_fi ws (n_v vs 0) 8) (w_fi ws (n_v vs 0) 5) k3 k8 (shm_7 f0) (shm_22 f1) (shm_1395 f4) (shm_1659 f5) kz_0_8 kz_0_11)⟩
  refine ⟨(fun _ h => (by cases h)), [], trivial, ?_, (fun _ h => (by cases h))⟩
  rw [List.append_nil]
  exact List.forall_mem_cons.mpr ⟨⟨show (20 : Nat) < 100 from by decide, nf0⟩, List.forall_mem_cons.mpr ⟨⟨show (20 : Nat) < 100 from by decide, nf1⟩, (fun _ h => (by cases h))⟩⟩
set_option maxHeartbeats 4000000 in
theorem vc_Mo_item_at_k4_2_0 (x3 : Int) (r_0 : Int) (gx : Int) (k3 : 0 ≤ x3 ∧ x3 ≤ 2000) (ex2 : gx = x3) : 1 * gx + ((-1) * x3 + 0) ≤ 0 := by
  first
    | omega
    | (have q1 := (hE_0_2_1 (r_0 + 2) (by omega)).2 (by omega)
       have q2 := (hE_0_2_2 (r_0 + 2) (by omega)).2 (by omega)
       omega)
    | (have q1 := (hE_0_2_1 (r_0 + 1) (by omega)).2 (by omega)
       have q2 := (hE_0_2_2 (r_0 + 1) (by omega)).2 (by omega)
       omega)
    | (have q1 := (hE_0_2_1 (r_0 + 2) (by omega)).2 (by omega)
       omega)
    | (have q1 := (hE_0_2_1 (r_0 + 1) (by omega)).2 (by omega)
       omega)
    | (have q1 := (hE_0_2_1 (r_0 + 2) (by omega)).2 (by omega)
       have q2 := (hE_0_2_2 (r_0 + 2) (by omega)).2 (by omega)
       have q3 := (hE_0_2_3 (r_0 + 2) (by omega)).1 (by omega)
       omega)
    | (have q1 := (hE_0_2_1 (r_0 + 2) (by omega)).2 (by omega)
       have q2 := (hE_0_2_2 (r_0 + 2) (by omega)).2 (by omega)
       have q3 := (hE_0_2_3 (r_0 + 2) (by omega)).2 (by omega)
       omega)
set_option maxHeartbeats 4000000 in
theorem vc_Mo_item_at_k4_2_1 (x3 : Int) (r_0 : Int) (gx : Int) (k3 : 0 ≤ x3 ∧ x3 ≤ 2000) (ex2 : gx = x3) : (-1) * gx + (1 * x3 + 0) ≤ 0 := by
  first
    | omega
    | (have q1 := (hE_0_2_1 (r_0 + 2) (by omega)).2 (by omega)
       have q2 := (hE_0_2_2 (r_0 + 2) (by omega)).2 (by omega)
       omega)
    | (have q1 := (hE_0_2_1 (r_0 + 1) (by omega)).2 (by omega)
       have q2 := (hE_0_2_2 (r_0 + 1) (by omega)).2 (by omega)
       omega)
    | (have q1 := (hE_0_2_1 (r_0 + 2) (by omega)).2 (by omega)
       omega)
    | (have q1 := (hE_0_2_1 (r_0 + 1) (by omega)).2 (by omega)
       omega)
    | (have q1 := (hE_0_2_1 (r_0 + 2) (by omega)).2 (by omega)
       have q2 := (hE_0_2_2 (r_0 + 2) (by omega)).2 (by omega)
       have q3 := (hE_0_2_3 (r_0 + 2) (by omega)).1 (by omega)
       omega)
    | (have q1 := (hE_0_2_1 (r_0 + 2) (by omega)).2 (by omega)
       have q2 := (hE_0_2_2 (r_0 + 2) (by omega)).2 (by omega)
       have q3 := (hE_0_2_3 (r_0 + 2) (by omega)).2 (by omega)
       omega)
set_option maxHeartbeats 4000000 in
theorem vc_Mo_item_at_k4_2_2 (from_0 : Int) (pos_0 : Int) (r_0 : Int) (f1 : 1 * from_0 + ((-1) * pos_0 + 0) ≤ 0) (kz_0_11 : 0 ≤ pos_0 ∧ pos_0 ≤ 2000) (kz_0_15 : 0 ≤ from_0 ∧ from_0 ≤ 2000) : 1 * from_0 + ((-1) * pos_0 + 0) ≤ 0 := by
  first
    | omega
    | (have q1 := (hE_0_2_1 (r_0 + 2) (by omega)).2 (by omega)
       have q2 := (hE_0_2_2 (r_0 + 2) (by omega)).2 (by omega)
       omega)
    | (have q1 := (hE_0_2_1 (r_0 + 1) (by omega)).2 (by omega)
       have q2 := (hE_0_2_2 (r_0 + 1) (by omega)).2 (by omega)
       omega)
    | (have q1 := (hE_0_2_1 (r_0 + 2) (by omega)).2 (by omega)
       omega)
    | (have q1 := (hE_0_2_1 (r_0 + 1) (by omega)).2 (by omega)
       omega)
    | (have q1 := (hE_0_2_1 (r_0 + 2) (by omega)).2 (by omega)
       have q2 := (hE_0_2_2 (r_0 + 2) (by omega)).2 (by omega)
       have q3 := (hE_0_2_3 (r_0 + 2) (by omega)).1 (by omega)
       omega)
    | (have q1 := (hE_0_2_1 (r_0 + 2) (by omega)).2 (by omega)
       have q2 := (hE_0_2_2 (r_0 + 2) (by omega)).2 (by omega)
       have q3 := (hE_0_2_3 (r_0 + 2) (by omega)).2 (by omega)
       omega)
set_option maxHeartbeats 4000000 in
theorem vc_Mo_item_at_k4_2_3 (from_0 : Int) (pos_0 : Int) (kind_0 : Int) (r_0 : Int) (f2 : ((kind_0 = 1) → (pos_0 ≤ (from_0 + 8))) ∧ ((kind_0 = 0) ∨ ((from_0 + 1) ≤ pos_0))) (kz_0_11 : 0 ≤ pos_0 ∧ pos_0 ≤ 2000) (kz_0_12 : 0 ≤ kind_0 ∧ kind_0 ≤ 4) (kz_0_15 : 0 ≤ from_0 ∧ from_0 ≤ 2000) : ((kind_0 = 1) → (pos_0 ≤ (from_0 + 8))) ∧ ((kind_0 = 0) ∨ ((from_0 + 1) ≤ pos_0)) := by
  first
    | omega
    | (have q1 := (hE_0_2_1 (r_0 + 2) (by omega)).2 (by omega)
       have q2 := (hE_0_2_2 (r_0 + 2) (by omega)).2 (by omega)
       omega)
    | (have q1 := (hE_0_2_1 (r_0 + 1) (by omega)).2 (by omega)
       have q2 := (hE_0_2_2 (r_0 + 1) (by omega)).2 (by omega)
       omega)
    | (have q1 := (hE_0_2_1 (r_0 + 2) (by omega)).2 (by omega)
       omega)
    | (have q1 := (hE_0_2_1 (r_0 + 1) (by omega)).2 (by omega)
       omega)
    | (have q1 := (hE_0_2_1 (r_0 + 2) (by omega)).2 (by omega)
       have q2 := (hE_0_2_2 (r_0 + 2) (by omega)).2 (by omega)
       have q3 := (hE_0_2_3 (r_0 + 2) (by omega)).1 (by omega)
       omega)
    | (have q1 := (hE_0_2_1 (r_0 + 2) (by omega)).2 (by omega)
       have q2 := (hE_0_2_2 (r_0 + 2) (by omega)).2 (by omega)
       have q3 := (hE_0_2_3 (r_0 + 2) (by omega)).2 (by omega)
       omega)
set_option maxHeartbeats 4000000 in
theorem vc_Mo_item_at_k4_2_4 (x3 : Int) (pos_0 : Int) (r_0 : Int) (gx : Int) (k3 : 0 ≤ x3 ∧ x3 ≤ 2000) (f3 : 1 * x3 + ((-1) * pos_0 + 0) ≤ 0) (kz_0_11 : 0 ≤ pos_0 ∧ pos_0 ≤ 2000) (ex2 : gx = x3) : 1 * gx + ((-1) * pos_0 + 0) ≤ 0 := by
  first
    | omega
    | (have q1 := (hE_0_2_1 (r_0 + 2) (by omega)).2 (by omega)
       have q2 := (hE_0_2_2 (r_0 + 2) (by omega)).2 (by omega)
       omega)
    | (have q1 := (hE_0_2_1 (r_0 + 1) (by omega)).2 (by omega)
       have q2 := (hE_0_2_2 (r_0 + 1) (by omega)).2 (by omega)
       omega)
    | (have q1 := (hE_0_2_1 (r_0 + 2) (by omega)).2 (by omega)
       omega)
    | (have q1 := (hE_0_2_1 (r_0 + 1) (by omega)).2 (by omega)
       omega)
    | (have q1 := (hE_0_2_1 (r_0 + 2) (by omega)).2 (by omega)
       have q2 := (hE_0_2_2 (r_0 + 2) (by omega)).2 (by omega)
       have q3 := (hE_0_2_3 (r_0 + 2) (by omega)).1 (by omega)
       omega)
    | (have q1 := (hE_0_2_1 (r_0 + 2) (by omega)).2 (by omega)
       have q2 := (hE_0_2_2 (r_0 + 2) (by omega)).2 (by omega)
       have q3 := (hE_0_2_3 (r_0 + 2) (by omega)).2 (by omega)
       omega)
set_option maxHeartbeats 4000000 in
theorem vc_Mo_item_at_k4_2_5 (x1 : Int) (all_0 : Int → Int) (r_0 : Int) (k1 : 0 ≤ x1 ∧ x1 ≤ 7) (f4 : (x1 + 1) ≤ all_0 ((r_0 + 2))) : (x1 + 1) ≤ all_0 ((r_0 + 2)) := by
  first
    | omega
    | (have q1 := (hE_0_2_1 (r_0 + 2) (by omega)).2 (by omega)
       have q2 := (hE_0_2_2 (r_0 + 2) (by omega)).2 (by omega)
       omega)
    | (have q1 := (hE_0_2_1 (r_0 + 1) (by omega)).2 (by omega)
       have q2 := (hE_0_2_2 (r_0 + 1) (by omega)).2 (by omega)
       omega)
    | (have q1 := (hE_0_2_1 (r_0 + 2) (by omega)).2 (by omega)
       omega)
    | (have q1 := (hE_0_2_1 (r_0 + 1) (by omega)).2 (by omega)
       omega)
    | (have q1 := (hE_0_2_1 (r_0 + 2) (by omega)).2 (by omega)
       have q2 := (hE_0_2_2 (r_0 + 2) (by omega)).2 (by omega)
       have q3 := (hE_0_2_3 (r_0 + 2) (by omega)).1 (by omega)
       omega)
    | (have q1 := (hE_0_2_1 (r_0 + 2) (by omega)).2 (by omega)
       have q2 := (hE_0_2_2 (r_0 + 2) (by omega)).2 (by omega)
       have q3 := (hE_0_2_3 (r_0 + 2) (by omega)).2 (by omega)
       omega)
set_option maxHeartbeats 4000000 in
theorem vc_Mo_item_at_k4_2_6 (all_0 : Int → Int) (r_0 : Int) (now_0 : Int → Int) (latest_0 : Int → Int) (f5 : RWS (r_0) (all_0) (now_0) (latest_0)) : RWS (r_0) (all_0) (now_0) (latest_0) := by
  first
    | assumption
def o_Mo_item_at_k4_2 : or_T := (83, 8, [(0, (2, 0, 0, [165])), (1, (0, 0, 7, [])), (3, (0, 0, 2000, []))], [(20, [0, 0], [30, 0, 1, 1, 15, -1, 1, 11]), (20, [0], [50, 3, 0, 12, 11, 15, 2, 21, 4, 7, 1, 3, 2, 0, 12, 0, 1, 0, 3, 2, 0, 11, 4, 3, 2, 0, 15, 0, 8, 3, 7, 1, 3, 2, 0, 12, 0, 0, 0, 7, 4, 3, 2, 0, 15, 0, 1, 2, 0, 11]), (20, [3, 0], [30, 0, 1, 0, 0, -1, 1, 11]), (20, [1, 0], [50, 1, 1, 1005, 1002, 0, 6, 4, 2, 1, 0, 0, 1, 3, 1, 2, 4, 3, 2, 1, 5, 0, 2]), (20, [0], [60, 1, 3, 199, 5, 2, 3, 4])], [], [(0, 0, 2000, [])], [(23, [8, 3], [0, 1, -1]), (23, [8, 3], [0, -1, 1]), (20, [0, 0], [30, 0, 1, 1, 15, -1, 1, 11]), (20, [0], [50, 3, 0, 12, 11, 15, 2, 21, 4, 7, 1, 3, 2, 0, 12, 0, 1, 0, 3, 2, 0, 11, 4, 3, 2, 0, 15, 0, 8, 3, 7, 1, 3, 2, 0, 12, 0, 0, 0, 7, 4, 3, 2, 0, 15, 0, 1, 2, 0, 11]), (20, [8, 0], [30, 0, 1, 0, 0, -1, 1, 11]), (20, [1, 0], [50, 1, 1, 1005, 1002, 0, 6, 4, 2, 1, 0, 0, 1, 3, 1, 2, 4, 3, 2, 1, 5, 0, 2]), (20, [0], [60, 1, 3, 199, 5, 2, 3, 4])], [], [])
theorem oo_Mo_item_at_k4_2 {kA : Nat → ClassId} : or_ok PRD kA GG o_Mo_item_at_k4_2 := by
  refine or_mk fun A ta ws vs hD hth hl => ?_
  intro t0 r0 t1 k1 t3 k3 f1 f2 f3 f4 f5
  replace f1 := shm_1397 f1
  replace f2 := shm_1398 f2
  replace f3 := shm_1395 f3
  replace f4 := shm_981 f4
  replace f5 := shm_952 f5
  have kz_0_11 := fdq_273 hD hth r0
  have kz_0_12 := fdq_186 hD hth r0
  have kz_0_15 := fdq_274 hD hth r0
  obtain ⟨x, ex, hx⟩ := iv_ex (ta := ta) (lo := 0) (hi := 2000) (z := v_iv (n_v vs 3)) (by omega) (by omega) (by omega) (by omega)
  have ex2 : v_iv (Value.int x) = v_iv (n_v vs 3) := ex
  have ex3 : 0 ≤ v_iv (Value.int x) ∧ v_iv (Value.int x) ≤ 2000 := tv_rng hx
  have e_0 : n_v (vs ++ [Value.int x]) 0 = n_v vs 0 := n_v_old (by rw [hl]; decide)
  have e_1 : n_v (vs ++ [Value.int x]) 1 = n_v vs 1 := n_v_old (by rw [hl]; decide)
  have e_3 : n_v (vs ++ [Value.int x]) 3 = n_v vs 3 := n_v_old (by rw [hl]; decide)
  have e_8 : n_v (vs ++ [Value.int x]) 8 = Value.int x := n_v_new hl
  have nf0 : fc_1 PRD (23, [8, 3], [0, 1, -1]) ws (vs ++ [Value.int x]) := by
    refine ⟨nf_inA hl rfl, sgq_7 ?_⟩
    · show 1 * v_iv (n_v (vs ++ [Value.int x]) 8) + ((-1) * v_iv (n_v (vs ++ [Value.int x]) 3) + 0) ≤ 0
      simp only [e_3, e_8]
      exact vc_Mo_item_at_k4_2_0 (v_iv (n_v vs 3)) (w_fi ws (n_v vs 0) 5) (v_iv (Value.int x)) k3 ex2
  have nf1 : fc_1 PRD (23, [8, 3], [0, -1, 1]) ws (vs ++ [Value.int x]) := by
    refine ⟨nf_inA hl rfl, sgq_22 ?_⟩
    · show (-1) * v_iv (n_v (vs ++ [Value.int x]) 8) + (1 * v_iv (n_v (vs ++ [Value.int x]) 3) + 0) ≤ 0
      simp only [e_3, e_8]
      exact vc_Mo_item_at_k4_2_1 (v_iv (n_v vs 3)) (w_fi ws (n_v vs 0) 5) (v_iv (Value.int x)) k3 ex2
  have nf2 : fc_1 PRD (20, [0, 0], [30, 0, 1, 1, 15, -1, 1, 11]) ws (vs ++ [Value.int x]) := by
    refine ⟨nf_inA hl rfl, sgq_1397 ?_⟩
    · show 1 * w_fi ws (n_v (vs ++ [Value.int x]) 0) 15 + ((-1) * w_fi ws (n_v (vs ++ [Value.int x]) 0) 11 + 0) ≤ 0
      rw [e_0]
      exact vc_Mo_item_at_k4_2_2 (w_fi ws (n_v vs 0) 15) (w_fi ws (n_v vs 0) 11) (w_fi ws (n_v vs 0) 5) f1 kz_0_11 kz_0_15
  have nf3 : fc_1 PRD (20, [0], [50, 3, 0, 12, 11, 15, 2, 21, 4, 7, 1, 3, 2, 0, 12, 0, 1, 0, 3, 2, 0, 11, 4, 3, 2, 0, 15, 0, 8, 3, 7, 1, 3, 2, 0, 12, 0, 0, 0, 7, 4, 3, 2, 0, 15, 0, 1, 2, 0, 11]) ws (vs ++ [Value.int x]) := by
    refine ⟨nf_inA hl rfl, sgq_1398 ?_⟩
    · show ((w_fi ws (n_v (vs ++ [Value.int x]) 0) 12 = 1) → (w_fi ws (n_v (vs ++ [Value.int x]) 0) 11 ≤ (w_fi ws (n_v (vs ++ [Value.int x]) 0) 15 + 8))) ∧ ((w_fi ws (n_v (vs ++ [Value.int x]) 0) 12 = 0) ∨ ((w_fi ws (n_v (vs ++ [Value.int x]) 0) 15 + 1) ≤ w_fi ws (n_v (vs ++ [Value.int x]) 0) 11))
      rw [e_0]
      exact vc_Mo_item_at_k4_2_3 (w_fi ws (n_v vs 0) 15) (w_fi ws (n_v vs 0) 11) (w_fi ws (n_v vs 0) 12) (w_fi ws (n_v vs 0) 5) f2 kz_0_11 kz_0_12 kz_0_15
  have nf4 : fc_1 PRD (20, [8, 0], [30, 0, 1, 0, 0, -1, 1, 11]) ws (vs ++ [Value.int x]) := by
    refine ⟨nf_inA hl rfl, sgq_1395 ?_⟩
    · show 1 * v_iv (n_v (vs ++ [Value.int x]) 8) + ((-1) * w_fi ws (n_v (vs ++ [Value.int x]) 0) 11 + 0) ≤ 0
      simp only [e_0, e_8]
      exact vc_Mo_item_at_k4_2_4 (v_iv (n_v vs 3)) (w_fi ws (n_v vs 0) 11) (w_fi ws (n_v vs 0) 5) (v_iv (Value.int x)) k3 f3 kz_0_11 ex2
  have nf5 : fc_1 PRD (20, [1, 0], [50, 1, 1, 1005, 1002, 0, 6, 4, 2, 1, 0, 0, 1, 3, 1, 2, 4, 3, 2, 1, 5, 0, 2]) ws (vs ++ [Value.int x]) := by
    refine ⟨nf_inA hl rfl, sgq_981 ?_⟩
    · show (v_iv (n_v (vs ++ [Value.int x]) 1) + 1) ≤ w_ei ws (w_ar ws (n_v (vs ++ [Value.int x]) 0) 2) ((w_fi ws (n_v (vs ++ [Value.int x]) 0) 5 + 2))
      simp only [e_0, e_1]
      exact vc_Mo_item_at_k4_2_5 (v_iv (n_v vs 1)) (w_ei ws (w_ar ws (n_v vs 0) 2)) (w_fi ws (n_v vs 0) 5) k1 f4
  have nf6 : fc_1 PRD (20, [0], [60, 1, 3, 199, 5, 2, 3, 4]) ws (vs ++ [Value.int x]) := by
    refine ⟨nf_inA hl rfl, sgq_952 ?_⟩
    · show RWS (w_fi ws (n_v (vs ++ [Value.int x]) 0) 5) (w_ei ws (w_ar ws (n_v (vs ++ [Value.int x]) 0) 2)) (w_ei ws (w_ar ws (n_v (vs ++ [Value.int x]) 0) 3)) (w_ei ws (w_ar ws (n_v (vs ++ [Value.int x]) 0) 4))
      rw [e_0]
      exact vc_Mo_item_at_k4_2_6 (w_ei ws (w_ar ws (n_v vs 0) 2)) (w_fi ws (n_v vs 0) 5) (w_ei ws (w_ar ws (n_v vs 0) 3)) (w_ei ws (w_ar ws (n_v vs 0) 4)) f5
  exact ⟨(fun _ h => (by cases h)), [Value.int x], ag_one hx, List.forall_mem_cons.mpr ⟨⟨show (23 : Nat) < 100 from by decide, nf0⟩, List.forall_mem_cons.mpr ⟨⟨show (23 : Nat) < 100 from by decide, nf1⟩, List.forall_mem_cons.mpr ⟨⟨show (20 : Nat) < 100 from by decide, nf2⟩, List.forall_mem_cons.mpr ⟨⟨show (20 : Nat) < 100 from by decide, nf3⟩, List.forall_mem_cons.mpr ⟨⟨show (20 : Nat) < 100 from by decide, nf4⟩, List.forall_mem_cons.mpr ⟨⟨show (20 : Nat) < 100 from by decide, nf5⟩, List.forall_mem_cons.mpr ⟨⟨show (20 : Nat) < 100 from by decide, nf6⟩, (fun _ h => (by cases h))⟩⟩⟩⟩⟩⟩⟩, (fun _ h => (by cases h))⟩
set_option maxHeartbeats 4000000 in
theorem vc_Mo_item_at_k4_3_0 (x3 : Int) (x7 : Int) (x8 : Int) (pos_0 : Int) (fault_0 : Int) (r_0 : Int) (k3 : 0 ≤ x3 ∧ x3 ≤ 2000) (k7 : 1 ≤ x7 ∧ x7 ≤ 1) (k8 : 0 ≤ x8 ∧ x8 ≤ 2000) (f0 : 1 * x8 + ((-1) * x3 + 0) ≤ 0) (f1 : (-1) * x8 + (1 * x3 + 0) ≤ 0) (f2 : 1 * x3 + ((-1) * pos_0 + 0) ≤ 0) (f8 : (1 ≤ fault_0) ∨ ((x8 + 1) ≤ pos_0)) (f14 : x7 ≠ 0) (kz_0_8 : 0 ≤ fault_0 ∧ fault_0 ≤ 5) (kz_0_11 : 0 ≤ pos_0 ∧ pos_0 ≤ 2000) : (1 ≤ fault_0) ∨ ((x3 + 1) ≤ pos_0) := by
  first
    | omega
    | (have q1 := (hE_0_2_1 (r_0 + 2) (by omega)).2 (by omega)
       have q2 := (hE_0_2_2 (r_0 + 2) (by omega)).2 (by omega)
       omega)
    | (have q1 := (hE_0_2_1 (r_0 + 1) (by omega)).2 (by omega)
       have q2 := (hE_0_2_2 (r_0 + 1) (by omega)).2 (by omega)
       omega)
    | (have q1 := (hE_0_2_1 (r_0 + 2) (by omega)).2 (by omega)
       omega)
    | (have q1 := (hE_0_2_1 (r_0 + 1) (by omega)).2 (by omega)
       omega)
    | (have q1 := (hE_0_2_1 (r_0 + 2) (by omega)).2 (by omega)
       have q2 := (hE_0_2_2 (r_0 + 2) (by omega)).2 (by omega)
       have q3 := (hE_0_2_3 (r_0 + 2) (by omega)).1 (by omega)
       omega)
    | (have q1 := (hE_0_2_1 (r_0 + 2) (by omega)).2 (by omega)
       have q2 := (hE_0_2_2 (r_0 + 2) (by omega)).2 (by omega)
       have q3 := (hE_0_2_3 (r_0 + 2) (by omega)).2 (by omega)
       omega)
def o_Mo_item_at_k4_3 : or_T := (94, 9, [(0, (2, 0, 0, [165])), (1, (0, 0, 7, [])), (3, (0, 0, 2000, [])), (5, (0, 0, 0, [])), (7, (0, 1, 1, [])), (8, (0, 0, 2000, []))], [(23, [8, 3], [0, 1, -1]), (23, [8, 3], [0, -1, 1]), (20, [3, 0], [30, 0, 1, 0, 0, -1, 1, 11]), (20, [5, 0], [50, 1, 0, 1012, 4, 6, 1, 2, 1, 0, 0, 1, 1, 3, 2, 1, 12, 0, 1]), (20, [7, 0], [50, 1, 0, 1012, 4, 6, 1, 2, 1, 0, 0, 1, 1, 3, 2, 1, 12, 0, 1]), (20, [0, 0], [30, 0, 1, 1, 15, -1, 1, 11]), (20, [0], [50, 3, 0, 12, 11, 15, 2, 21, 4, 7, 1, 3, 2, 0, 12, 0, 1, 0, 3, 2, 0, 11, 4, 3, 2, 0, 15, 0, 8, 3, 7, 1, 3, 2, 0, 12, 0, 0, 0, 7, 4, 3, 2, 0, 15, 0, 1, 2, 0, 11]), (20, [8, 0], [30, 0, 1, 0, 0, -1, 1, 11]), (20, [0, 8], [50, 2, 0, 8, 11, 3, 7, 0, 2, 0, 1, 2, 0, 8, 0, 6, 4, 2, 1, 1, 0, 1, 2, 0, 11]), (20, [1, 0], [50, 1, 1, 1005, 1002, 0, 6, 4, 2, 1, 0, 0, 1, 3, 1, 2, 4, 3, 2, 1, 5, 0, 2]), (20, [0], [60, 1, 3, 199, 5, 2, 3, 4]), (102, [8], [0, 165008, 165009]), (23, [8, 3], [0, 1, -1]), (23, [8, 3], [0, -1, 1]), (8, [7], [1]), (102, [6], [0]), (8, [5], [0])], [], [], [(20, [0, 3], [50, 2, 0, 8, 11, 3, 7, 0, 2, 0, 1, 2, 0, 8, 0, 6, 4, 2, 1, 1, 0, 1, 2, 0, 11])], [], [])
theorem oo_Mo_item_at_k4_3 {kA : Nat → ClassId} : or_ok PRD kA GG o_Mo_item_at_k4_3 := by
  refine or_mk fun A ta ws vs hD hth hl => ?_
  intro t0 r0 t1 k1 t3 k3 t5 k5 t7 k7 t8 k8 f0 f1 f2 f3 f4 f5 f6 f7 f8 f9 f10 ta1 w1 le1 s1 f12 f13 f14 ta2 w2 le2 s2 f16
  have kz_0_8 := fdq_14 hD hth r0
  have kz_0_11 := fdq_273 hD hth r0
  have nf0 : fc_1 PRD (20, [0, 3], [50, 2, 0, 8, 11, 3, 7, 0, 2, 0, 1, 2, 0, 8, 0, 6, 4, 2, 1, 1, 0, 1, 2, 0, 11]) ws (vs) := ⟨nf_in hl rfl, sgq_1659 (vc_Mo_item_at_k4_3_0 (v_iv (n_v vs 3)) (v_iv (n_v vs 7)) (v_iv (n_v vs 8)) (w_fi ws (n_v vs 0) 11) (w_fi ws (n_v vs 0) 8) (w_fi ws (n_v vs 0) 5) k3 k7 k8 (shm_7 f0) (shm_22 f1) (shm_1395 f2) (shm_1659 f8) (shm_154 f14) kz_0_8 kz_0_11)⟩
  refine ⟨(fun _ h => (by cases h)), [], trivial, ?_, (fun _ h => (by cases h))⟩
  rw [List.append_nil]
  exact List.forall_mem_cons.mpr ⟨⟨show (20 : Nat) < 100 from by decide, nf0⟩, (fun _ h => (by cases h))⟩
set_option maxHeartbeats 4000000 in
theorem vc_Mo_item_at_k4_4_0 (x3 : Int) (r_0 : Int) (gx : Int) (k3 : 0 ≤ x3 ∧ x3 ≤ 2000) (ex2 : gx = x3) : 1 * gx + ((-1) * x3 + 0) ≤ 0 := by
  first
    | omega
    | (have q1 := (hE_0_2_1 (r_0 + 2) (by omega)).2 (by omega)
       have q2 := (hE_0_2_2 (r_0 + 2) (by omega)).2 (by omega)
       omega)
    | (have q1 := (hE_0_2_1 (r_0 + 1) (by omega)).2 (by omega)
       have q2 := (hE_0_2_2 (r_0 + 1) (by omega)).2 (by omega)
       omega)
    | (have q1 := (hE_0_2_1 (r_0 + 2) (by omega)).2 (by omega)
       omega)
    | (have q1 := (hE_0_2_1 (r_0 + 1) (by omega)).2 (by omega)
       omega)
    | (have q1 := (hE_0_2_1 (r_0 + 2) (by omega)).2 (by omega)
       have q2 := (hE_0_2_2 (r_0 + 2) (by omega)).2 (by omega)
       have q3 := (hE_0_2_3 (r_0 + 2) (by omega)).1 (by omega)
       omega)
    | (have q1 := (hE_0_2_1 (r_0 + 2) (by omega)).2 (by omega)
       have q2 := (hE_0_2_2 (r_0 + 2) (by omega)).2 (by omega)
       have q3 := (hE_0_2_3 (r_0 + 2) (by omega)).2 (by omega)
       omega)
set_option maxHeartbeats 4000000 in
theorem vc_Mo_item_at_k4_4_1 (x3 : Int) (r_0 : Int) (gx : Int) (k3 : 0 ≤ x3 ∧ x3 ≤ 2000) (ex2 : gx = x3) : (-1) * gx + (1 * x3 + 0) ≤ 0 := by
  first
    | omega
    | (have q1 := (hE_0_2_1 (r_0 + 2) (by omega)).2 (by omega)
       have q2 := (hE_0_2_2 (r_0 + 2) (by omega)).2 (by omega)
       omega)
    | (have q1 := (hE_0_2_1 (r_0 + 1) (by omega)).2 (by omega)
       have q2 := (hE_0_2_2 (r_0 + 1) (by omega)).2 (by omega)
       omega)
    | (have q1 := (hE_0_2_1 (r_0 + 2) (by omega)).2 (by omega)
       omega)
    | (have q1 := (hE_0_2_1 (r_0 + 1) (by omega)).2 (by omega)
       omega)
    | (have q1 := (hE_0_2_1 (r_0 + 2) (by omega)).2 (by omega)
       have q2 := (hE_0_2_2 (r_0 + 2) (by omega)).2 (by omega)
       have q3 := (hE_0_2_3 (r_0 + 2) (by omega)).1 (by omega)
       omega)
    | (have q1 := (hE_0_2_1 (r_0 + 2) (by omega)).2 (by omega)
       have q2 := (hE_0_2_2 (r_0 + 2) (by omega)).2 (by omega)
       have q3 := (hE_0_2_3 (r_0 + 2) (by omega)).2 (by omega)
       omega)
set_option maxHeartbeats 4000000 in
theorem vc_Mo_item_at_k4_4_2 (x3 : Int) (pos_0 : Int) (r_0 : Int) (gx : Int) (k3 : 0 ≤ x3 ∧ x3 ≤ 2000) (f3 : 1 * x3 + ((-1) * pos_0 + 0) ≤ 0) (kz_0_11 : 0 ≤ pos_0 ∧ pos_0 ≤ 2000) (ex2 : gx = x3) : 1 * gx + ((-1) * pos_0 + 0) ≤ 0 := by
  first
    | omega
    | (have q1 := (hE_0_2_1 (r_0 + 2) (by omega)).2 (by omega)
       have q2 := (hE_0_2_2 (r_0 + 2) (by omega)).2 (by omega)
       omega)
    | (have q1 := (hE_0_2_1 (r_0 + 1) (by omega)).2 (by omega)
       have q2 := (hE_0_2_2 (r_0 + 1) (by omega)).2 (by omega)
       omega)
    | (have q1 := (hE_0_2_1 (r_0 + 2) (by omega)).2 (by omega)
       omega)
    | (have q1 := (hE_0_2_1 (r_0 + 1) (by omega)).2 (by omega)
       omega)
    | (have q1 := (hE_0_2_1 (r_0 + 2) (by omega)).2 (by omega)
       have q2 := (hE_0_2_2 (r_0 + 2) (by omega)).2 (by omega)
       have q3 := (hE_0_2_3 (r_0 + 2) (by omega)).1 (by omega)
       omega)
    | (have q1 := (hE_0_2_1 (r_0 + 2) (by omega)).2 (by omega)
       have q2 := (hE_0_2_2 (r_0 + 2) (by omega)).2 (by omega)
       have q3 := (hE_0_2_3 (r_0 + 2) (by omega)).2 (by omega)
       omega)
def o_Mo_item_at_k4_4 : or_T := (11, 6, [(0, (2, 0, 0, [165])), (3, (0, 0, 2000, []))], [(20, [3, 0], [30, 0, 1, 0, 0, -1, 1, 11])], [], [(0, 0, 2000, [])], [(23, [6, 3], [0, 1, -1]), (23, [6, 3], [0, -1, 1]), (20, [6, 0], [30, 0, 1, 0, 0, -1, 1, 11])], [], [])
theorem oo_Mo_item_at_k4_4 {kA : Nat → ClassId} : or_ok PRD kA GG o_Mo_item_at_k4_4 := by
  refine or_mk fun A ta ws vs hD hth hl => ?_
  intro t0 r0 t3 k3 f3
  replace f3 := shm_1395 f3
  have kz_0_11 := fdq_273 hD hth r0
  obtain ⟨x, ex, hx⟩ := iv_ex (ta := ta) (lo := 0) (hi := 2000) (z := v_iv (n_v vs 3)) (by omega) (by omega) (by omega) (by omega)
  have ex2 : v_iv (Value.int x) = v_iv (n_v vs 3) := ex
  have ex3 : 0 ≤ v_iv (Value.int x) ∧ v_iv (Value.int x) ≤ 2000 := tv_rng hx
  have e_0 : n_v (vs ++ [Value.int x]) 0 = n_v vs 0 := n_v_old (by rw [hl]; decide)
  have e_3 : n_v (vs ++ [Value.int x]) 3 = n_v vs 3 := n_v_old (by rw [hl]; decide)
  have e_6 : n_v (vs ++ [Value.int x]) 6 = Value.int x := n_v_new hl
  have nf0 : fc_1 PRD (23, [6, 3], [0, 1, -1]) ws (vs ++ [Value.int x]) := by
    refine ⟨nf_inA hl rfl, sgq_7 ?_⟩
    · show 1 * v_iv (n_v (vs ++ [Value.int x]) 6) + ((-1) * v_iv (n_v (vs ++ [Value.int x]) 3) + 0) ≤ 0
      simp only [e_3, e_6]
      exact vc_Mo_item_at_k4_4_0 (v_iv (n_v vs 3)) (w_fi ws (n_v vs 0) 5) (v_iv (Value.int x)) k3 ex2
  have nf1 : fc_1 PRD (23, [6, 3], [0, -1, 1]) ws (vs ++ [Value.int x]) := by
    refine ⟨nf_inA hl rfl, sgq_22 ?_⟩
    · show (-1) * v_iv (n_v (vs ++ [Value.int x]) 6) + (1 * v_iv (n_v (vs ++ [Value.int x]) 3) + 0) ≤ 0
      simp only [e_3, e_6]
      exact vc_Mo_item_at_k4_4_1 (v_iv (n_v vs 3)) (w_fi ws (n_v vs 0) 5) (v_iv (Value.int x)) k3 ex2
  have nf2 : fc_1 PRD (20, [6, 0], [30, 0, 1, 0, 0, -1, 1, 11]) ws (vs ++ [Value.int x]) := by
    refine ⟨nf_inA hl rfl, sgq_1395 ?_⟩
    · show 1 * v_iv (n_v (vs ++ [Value.int x]) 6) + ((-1) * w_fi ws (n_v (vs ++ [Value.int x]) 0) 11 + 0) ≤ 0
      simp only [e_0, e_6]
      exact vc_Mo_item_at_k4_4_2 (v_iv (n_v vs 3)) (w_fi ws (n_v vs 0) 11) (w_fi ws (n_v vs 0) 5) (v_iv (Value.int x)) k3 f3 kz_0_11 ex2
  exact ⟨(fun _ h => (by cases h)), [Value.int x], ag_one hx, List.forall_mem_cons.mpr ⟨⟨show (23 : Nat) < 100 from by decide, nf0⟩, List.forall_mem_cons.mpr ⟨⟨show (23 : Nat) < 100 from by decide, nf1⟩, List.forall_mem_cons.mpr ⟨⟨show (20 : Nat) < 100 from by decide, nf2⟩, (fun _ h => (by cases h))⟩⟩⟩, (fun _ h => (by cases h))⟩
set_option maxHeartbeats 4000000 in
theorem vc_Mo_item_at_k4_5_0 (x3 : Int) (x6 : Int) (r_0 : Int) (gx : Int) (k3 : 0 ≤ x3 ∧ x3 ≤ 2000) (k6 : 0 ≤ x6 ∧ x6 ≤ 2000) (f0 : 1 * x6 + ((-1) * x3 + 0) ≤ 0) (f1 : (-1) * x6 + (1 * x3 + 0) ≤ 0) (ex2 : gx = x3) : 1 * gx + ((-1) * x3 + 0) ≤ 0 := by
  first
    | omega
    | (have q1 := (hE_0_2_1 (r_0 + 2) (by omega)).2 (by omega)
       have q2 := (hE_0_2_2 (r_0 + 2) (by omega)).2 (by omega)
       omega)
    | (have q1 := (hE_0_2_1 (r_0 + 1) (by omega)).2 (by omega)
       have q2 := (hE_0_2_2 (r_0 + 1) (by omega)).2 (by omega)
       omega)
    | (have q1 := (hE_0_2_1 (r_0 + 2) (by omega)).2 (by omega)
       omega)
    | (have q1 := (hE_0_2_1 (r_0 + 1) (by omega)).2 (by omega)
       omega)
    | (have q1 := (hE_0_2_1 (r_0 + 2) (by omega)).2 (by omega)
       have q2 := (hE_0_2_2 (r_0 + 2) (by omega)).2 (by omega)
       have q3 := (hE_0_2_3 (r_0 + 2) (by omega)).1 (by omega)
       omega)
    | (have q1 := (hE_0_2_1 (r_0 + 2) (by omega)).2 (by omega)
       have q2 := (hE_0_2_2 (r_0 + 2) (by omega)).2 (by omega)
       have q3 := (hE_0_2_3 (r_0 + 2) (by omega)).2 (by omega)
       omega)
set_option maxHeartbeats 4000000 in
theorem vc_Mo_item_at_k4_5_1 (x3 : Int) (x6 : Int) (r_0 : Int) (gx : Int) (k3 : 0 ≤ x3 ∧ x3 ≤ 2000) (k6 : 0 ≤ x6 ∧ x6 ≤ 2000) (f0 : 1 * x6 + ((-1) * x3 + 0) ≤ 0) (f1 : (-1) * x6 + (1 * x3 + 0) ≤ 0) (ex2 : gx = x3) : (-1) * gx + (1 * x3 + 0) ≤ 0 := by
  first
    | omega
    | (have q1 := (hE_0_2_1 (r_0 + 2) (by omega)).2 (by omega)
       have q2 := (hE_0_2_2 (r_0 + 2) (by omega)).2 (by omega)
       omega)
    | (have q1 := (hE_0_2_1 (r_0 + 1) (by omega)).2 (by omega)
       have q2 := (hE_0_2_2 (r_0 + 1) (by omega)).2 (by omega)
       omega)
    | (have q1 := (hE_0_2_1 (r_0 + 2) (by omega)).2 (by omega)
       omega)
    | (have q1 := (hE_0_2_1 (r_0 + 1) (by omega)).2 (by omega)
       omega)
    | (have q1 := (hE_0_2_1 (r_0 + 2) (by omega)).2 (by omega)
       have q2 := (hE_0_2_2 (r_0 + 2) (by omega)).2 (by omega)
       have q3 := (hE_0_2_3 (r_0 + 2) (by omega)).1 (by omega)
       omega)
    | (have q1 := (hE_0_2_1 (r_0 + 2) (by omega)).2 (by omega)
       have q2 := (hE_0_2_2 (r_0 + 2) (by omega)).2 (by omega)
       have q3 := (hE_0_2_3 (r_0 + 2) (by omega)).2 (by omega)
       omega)
set_option maxHeartbeats 4000000 in
theorem vc_Mo_item_at_k4_5_2 (r_0 : Int) (from_0 : Int) (pos_0 : Int) (f4 : 1 * from_0 + ((-1) * pos_0 + 0) ≤ 0) (kz_0_11 : 0 ≤ pos_0 ∧ pos_0 ≤ 2000) (kz_0_15 : 0 ≤ from_0 ∧ from_0 ≤ 2000) : 1 * from_0 + ((-1) * pos_0 + 0) ≤ 0 := by
  first
    | omega
    | (have q1 := (hE_0_2_1 (r_0 + 2) (by omega)).2 (by omega)
       have q2 := (hE_0_2_2 (r_0 + 2) (by omega)).2 (by omega)
       omega)
    | (have q1 := (hE_0_2_1 (r_0 + 1) (by omega)).2 (by omega)
       have q2 := (hE_0_2_2 (r_0 + 1) (by omega)).2 (by omega)
       omega)
    | (have q1 := (hE_0_2_1 (r_0 + 2) (by omega)).2 (by omega)
       omega)
    | (have q1 := (hE_0_2_1 (r_0 + 1) (by omega)).2 (by omega)
       omega)
    | (have q1 := (hE_0_2_1 (r_0 + 2) (by omega)).2 (by omega)
       have q2 := (hE_0_2_2 (r_0 + 2) (by omega)).2 (by omega)
       have q3 := (hE_0_2_3 (r_0 + 2) (by omega)).1 (by omega)
       omega)
    | (have q1 := (hE_0_2_1 (r_0 + 2) (by omega)).2 (by omega)
       have q2 := (hE_0_2_2 (r_0 + 2) (by omega)).2 (by omega)
       have q3 := (hE_0_2_3 (r_0 + 2) (by omega)).2 (by omega)
       omega)
set_option maxHeartbeats 4000000 in
theorem vc_Mo_item_at_k4_5_3 (r_0 : Int) (from_0 : Int) (pos_0 : Int) (kind_0 : Int) (f5 : ((kind_0 = 1) → (pos_0 ≤ (from_0 + 8))) ∧ ((kind_0 = 0) ∨ ((from_0 + 1) ≤ pos_0))) (kz_0_11 : 0 ≤ pos_0 ∧ pos_0 ≤ 2000) (kz_0_12 : 0 ≤ kind_0 ∧ kind_0 ≤ 4) (kz_0_15 : 0 ≤ from_0 ∧ from_0 ≤ 2000) : ((kind_0 = 1) → (pos_0 ≤ (from_0 + 8))) ∧ ((kind_0 = 0) ∨ ((from_0 + 1) ≤ pos_0)) := by
  first
    | omega
    | (have q1 := (hE_0_2_1 (r_0 + 2) (by omega)).2 (by omega)
       have q2 := (hE_0_2_2 (r_0 + 2) (by omega)).2 (by omega)
       omega)
    | (have q1 := (hE_0_2_1 (r_0 + 1) (by omega)).2 (by omega)
       have q2 := (hE_0_2_2 (r_0 + 1) (by omega)).2 (by omega)
       omega)
    | (have q1 := (hE_0_2_1 (r_0 + 2) (by omega)).2 (by omega)
       omega)
    | (have q1 := (hE_0_2_1 (r_0 + 1) (by omega)).2 (by omega)
       omega)
    | (have q1 := (hE_0_2_1 (r_0 + 2) (by omega)).2 (by omega)
       have q2 := (hE_0_2_2 (r_0 + 2) (by omega)).2 (by omega)
       have q3 := (hE_0_2_3 (r_0 + 2) (by omega)).1 (by omega)
       omega)
    | (have q1 := (hE_0_2_1 (r_0 + 2) (by omega)).2 (by omega)
       have q2 := (hE_0_2_2 (r_0 + 2) (by omega)).2 (by omega)
       have q3 := (hE_0_2_3 (r_0 + 2) (by omega)).2 (by omega)
       omega)
set_option maxHeartbeats 4000000 in
theorem vc_Mo_item_at_k4_5_4 (x3 : Int) (x6 : Int) (r_0 : Int) (from_0 : Int) (pos_0 : Int) (gx : Int) (gy : Int) (k3 : 0 ≤ x3 ∧ x3 ≤ 2000) (k6 : 0 ≤ x6 ∧ x6 ≤ 2000) (f0 : 1 * x6 + ((-1) * x3 + 0) ≤ 0) (f1 : (-1) * x6 + (1 * x3 + 0) ≤ 0) (f4 : 1 * from_0 + ((-1) * pos_0 + 0) ≤ 0) (f6 : 1 * x6 + ((-1) * from_0 + 0) ≤ 0) (kz_0_11 : 0 ≤ pos_0 ∧ pos_0 ≤ 2000) (kz_0_15 : 0 ≤ from_0 ∧ from_0 ≤ 2000) (ex2 : gx = x3) (ey2 : gy = from_0) : 1 * gx + ((-1) * pos_0 + 0) ≤ 0 := by
  first
    | omega
    | (have q1 := (hE_0_2_1 (r_0 + 2) (by omega)).2 (by omega)
       have q2 := (hE_0_2_2 (r_0 + 2) (by omega)).2 (by omega)
       omega)
    | (have q1 := (hE_0_2_1 (r_0 + 1) (by omega)).2 (by omega)
       have q2 := (hE_0_2_2 (r_0 + 1) (by omega)).2 (by omega)
       omega)
    | (have q1 := (hE_0_2_1 (r_0 + 2) (by omega)).2 (by omega)
       omega)
    | (have q1 := (hE_0_2_1 (r_0 + 1) (by omega)).2 (by omega)
       omega)
    | (have q1 := (hE_0_2_1 (r_0 + 2) (by omega)).2 (by omega)
       have q2 := (hE_0_2_2 (r_0 + 2) (by omega)).2 (by omega)
       have q3 := (hE_0_2_3 (r_0 + 2) (by omega)).1 (by omega)
       omega)
    | (have q1 := (hE_0_2_1 (r_0 + 2) (by omega)).2 (by omega)
       have q2 := (hE_0_2_2 (r_0 + 2) (by omega)).2 (by omega)
       have q3 := (hE_0_2_3 (r_0 + 2) (by omega)).2 (by omega)
       omega)
set_option maxHeartbeats 4000000 in
theorem vc_Mo_item_at_k4_5_5 (r_0 : Int) (from_0 : Int) (pos_0 : Int) (kind_0 : Int) (gy : Int) (f4 : 1 * from_0 + ((-1) * pos_0 + 0) ≤ 0) (f5 : ((kind_0 = 1) → (pos_0 ≤ (from_0 + 8))) ∧ ((kind_0 = 0) ∨ ((from_0 + 1) ≤ pos_0))) (kz_0_11 : 0 ≤ pos_0 ∧ pos_0 ≤ 2000) (kz_0_12 : 0 ≤ kind_0 ∧ kind_0 ≤ 4) (kz_0_15 : 0 ≤ from_0 ∧ from_0 ≤ 2000) (ey2 : gy = from_0) : (kind_0 = 0) ∨ ((gy + 1) ≤ pos_0) := by
  first
    | omega
    | (have q1 := (hE_0_2_1 (r_0 + 2) (by omega)).2 (by omega)
       have q2 := (hE_0_2_2 (r_0 + 2) (by omega)).2 (by omega)
       omega)
    | (have q1 := (hE_0_2_1 (r_0 + 1) (by omega)).2 (by omega)
       have q2 := (hE_0_2_2 (r_0 + 1) (by omega)).2 (by omega)
       omega)
    | (have q1 := (hE_0_2_1 (r_0 + 2) (by omega)).2 (by omega)
       omega)
    | (have q1 := (hE_0_2_1 (r_0 + 1) (by omega)).2 (by omega)
       omega)
    | (have q1 := (hE_0_2_1 (r_0 + 2) (by omega)).2 (by omega)
       have q2 := (hE_0_2_2 (r_0 + 2) (by omega)).2 (by omega)
       have q3 := (hE_0_2_3 (r_0 + 2) (by omega)).1 (by omega)
       omega)
    | (have q1 := (hE_0_2_1 (r_0 + 2) (by omega)).2 (by omega)
       have q2 := (hE_0_2_2 (r_0 + 2) (by omega)).2 (by omega)
       have q3 := (hE_0_2_3 (r_0 + 2) (by omega)).2 (by omega)
       omega)
set_option maxHeartbeats 4000000 in
theorem vc_Mo_item_at_k4_5_6 (x1 : Int) (all_0 : Int → Int) (r_0 : Int) (k1 : 0 ≤ x1 ∧ x1 ≤ 7) (f2 : (x1 + 1) ≤ all_0 ((r_0 + 2))) : (x1 + 1) ≤ all_0 ((r_0 + 2)) := by
  first
    | omega
    | (have q1 := (hE_0_2_1 (r_0 + 2) (by omega)).2 (by omega)
       have q2 := (hE_0_2_2 (r_0 + 2) (by omega)).2 (by omega)
       omega)
    | (have q1 := (hE_0_2_1 (r_0 + 1) (by omega)).2 (by omega)
       have q2 := (hE_0_2_2 (r_0 + 1) (by omega)).2 (by omega)
       omega)
    | (have q1 := (hE_0_2_1 (r_0 + 2) (by omega)).2 (by omega)
       omega)
    | (have q1 := (hE_0_2_1 (r_0 + 1) (by omega)).2 (by omega)
       omega)
    | (have q1 := (hE_0_2_1 (r_0 + 2) (by omega)).2 (by omega)
       have q2 := (hE_0_2_2 (r_0 + 2) (by omega)).2 (by omega)
       have q3 := (hE_0_2_3 (r_0 + 2) (by omega)).1 (by omega)
       omega)
    | (have q1 := (hE_0_2_1 (r_0 + 2) (by omega)).2 (by omega)
       have q2 := (hE_0_2_2 (r_0 + 2) (by omega)).2 (by omega)
       have q3 := (hE_0_2_3 (r_0 + 2) (by omega)).2 (by omega)
       omega)
set_option maxHeartbeats 4000000 in
theorem vc_Mo_item_at_k4_5_7 (all_0 : Int → Int) (r_0 : Int) (now_0 : Int → Int) (latest_0 : Int → Int) (f3 : RWS (r_0) (all_0) (now_0) (latest_0)) : RWS (r_0) (all_0) (now_0) (latest_0) := by
  first
    | assumption
set_option maxHeartbeats 4000000 in
theorem vc_Mo_item_at_k4_5_8 (x7 : Int) (all_0 : Int → Int) (r_0 : Int) (k7 : (-1) ≤ x7 ∧ x7 ≤ (-1)) : MEB (r_0) (all_0) (x7) := by
  intro q; exfalso; omega
def o_Mo_item_at_k4_5 : or_T := (17, 8, [(0, (2, 0, 0, [165])), (1, (0, 0, 7, [])), (3, (0, 0, 2000, [])), (6, (0, 0, 2000, [])), (7, (0, -1, -1, []))], [(23, [6, 3], [0, 1, -1]), (23, [6, 3], [0, -1, 1]), (20, [1, 0], [50, 1, 1, 1005, 1002, 0, 6, 4, 2, 1, 0, 0, 1, 3, 1, 2, 4, 3, 2, 1, 5, 0, 2]), (20, [0], [60, 1, 3, 199, 5, 2, 3, 4]), (20, [0, 0], [30, 0, 1, 1, 15, -1, 1, 11]), (20, [0], [50, 3, 0, 12, 11, 15, 2, 21, 4, 7, 1, 3, 2, 0, 12, 0, 1, 0, 3, 2, 0, 11, 4, 3, 2, 0, 15, 0, 8, 3, 7, 1, 3, 2, 0, 12, 0, 0, 0, 7, 4, 3, 2, 0, 15, 0, 1, 2, 0, 11]), (20, [6, 0], [30, 0, 1, 0, 0, -1, 1, 15])], [], [(0, 0, 2000, []), (0, 0, 2000, [])], [(23, [8, 3], [0, 1, -1]), (23, [8, 3], [0, -1, 1]), (20, [0, 0], [30, 0, 1, 1, 15, -1, 1, 11]), (20, [0], [50, 3, 0, 12, 11, 15, 2, 21, 4, 7, 1, 3, 2, 0, 12, 0, 1, 0, 3, 2, 0, 11, 4, 3, 2, 0, 15, 0, 8, 3, 7, 1, 3, 2, 0, 12, 0, 0, 0, 7, 4, 3, 2, 0, 15, 0, 1, 2, 0, 11]), (20, [8, 0], [30, 0, 1, 0, 0, -1, 1, 11]), (20, [0, 9], [50, 2, 0, 12, 11, 3, 7, 1, 3, 2, 0, 12, 0, 0, 0, 6, 4, 2, 1, 1, 0, 1, 2, 0, 11]), (20, [1, 0], [50, 1, 1, 1005, 1002, 0, 6, 4, 2, 1, 0, 0, 1, 3, 1, 2, 4, 3, 2, 1, 5, 0, 2]), (20, [0], [60, 1, 3, 199, 5, 2, 3, 4]), (20, [0, 7], [60, 1, 1, 241, 5, 2])], [], [])
theorem oo_Mo_item_at_k4_5 {kA : Nat → ClassId} : or_ok PRD kA GG o_Mo_item_at_k4_5 := by
  refine or_mk fun A ta ws vs hD hth hl => ?_
  intro t0 r0 t1 k1 t3 k3 t6 k6 t7 k7 f0 f1 f2 f3 f4 f5 f6
  replace f0 := shm_7 f0
  replace f1 := shm_22 f1
  replace f2 := shm_981 f2
  replace f3 := shm_952 f3
  replace f4 := shm_1397 f4
  replace f5 := shm_1398 f5
  replace f6 := shm_1396 f6
  have kz_0_11 := fdq_273 hD hth r0
  have kz_0_12 := fdq_186 hD hth r0
  have kz_0_15 := fdq_274 hD hth r0
  obtain ⟨x, ex, hx⟩ := iv_ex (ta := ta) (lo := 0) (hi := 2000) (z := v_iv (n_v vs 3)) (by omega) (by omega) (by omega) (by omega)
  have ex2 : v_iv (Value.int x) = v_iv (n_v vs 3) := ex
  have ex3 : 0 ≤ v_iv (Value.int x) ∧ v_iv (Value.int x) ≤ 2000 := tv_rng hx
  obtain ⟨y, ey, hy⟩ := iv_ex (ta := ta) (lo := 0) (hi := 2000) (z := w_fi ws (n_v vs 0) 15) (by omega) (by omega) (by omega) (by omega)
  have ey2 : v_iv (Value.int y) = w_fi ws (n_v vs 0) 15 := ey
  have ey3 : 0 ≤ v_iv (Value.int y) ∧ v_iv (Value.int y) ≤ 2000 := tv_rng hy
  have e_0 : n_v (vs ++ [Value.int x, Value.int y]) 0 = n_v vs 0 := n_v_old (by rw [hl]; decide)
  have e_1 : n_v (vs ++ [Value.int x, Value.int y]) 1 = n_v vs 1 := n_v_old (by rw [hl]; decide)
  have e_3 : n_v (vs ++ [Value.int x, Value.int y]) 3 = n_v vs 3 := n_v_old (by rw [hl]; decide)
  have e_7 : n_v (vs ++ [Value.int x, Value.int y]) 7 = n_v vs 7 := n_v_old (by rw [hl]; decide)
  have e_8 : n_v (vs ++ [Value.int x, Value.int y]) 8 = Value.int x := n_v_new0 hl
  have e_9 : n_v (vs ++ [Value.int x, Value.int y]) 9 = Value.int y := n_v_new1 hl
  have nf0 : fc_1 PRD (23, [8, 3], [0, 1, -1]) ws (vs ++ [Value.int x, Value.int y]) := by
    refine ⟨nf_inA hl rfl, sgq_7 ?_⟩
    · show 1 * v_iv (n_v (vs ++ [Value.int x, Value.int y]) 8) + ((-1) * v_iv (n_v (vs ++ [Value.int x, Value.int y]) 3) + 0) ≤ 0
      simp only [e_3, e_8]
      exact vc_Mo_item_at_k4_5_0 (v_iv (n_v vs 3)) (v_iv (n_v vs 6)) (w_fi ws (n_v vs 0) 5) (v_iv (Value.int x)) k3 k6 f0 f1 ex2
  have nf1 : fc_1 PRD (23, [8, 3], [0, -1, 1]) ws (vs ++ [Value.int x, Value.int y]) := by
    refine ⟨nf_inA hl rfl, sgq_22 ?_⟩
    · show (-1) * v_iv (n_v (vs ++ [Value.int x, Value.int y]) 8) + (1 * v_iv (n_v (vs ++ [Value.int x, Value.int y]) 3) + 0) ≤ 0
      simp only [e_3, e_8]
      exact vc_Mo_item_at_k4_5_1 (v_iv (n_v vs 3)) (v_iv (n_v vs 6)) (w_fi ws (n_v vs 0) 5) (v_iv (Value.int x)) k3 k6 f0 f1 ex2
  have nf2 : fc_1 PRD (20, [0, 0], [30, 0, 1, 1, 15, -1, 1, 11]) ws (vs ++ [Value.int x, Value.int y]) := by
    refine ⟨nf_inA hl rfl, sgq_1397 ?_⟩
    · show 1 * w_fi ws (n_v (vs ++ [Value.int x, Value.int y]) 0) 15 + ((-1) * w_fi ws (n_v (vs ++ [Value.int x, Value.int y]) 0) 11 + 0) ≤ 0
      rw [e_0]
      exact vc_Mo_item_at_k4_5_2 (w_fi ws (n_v vs 0) 5) (w_fi ws (n_v vs 0) 15) (w_fi ws (n_v vs 0) 11) f4 kz_0_11 kz_0_15
  have nf3 : fc_1 PRD (20, [0], [50, 3, 0, 12, 11, 15, 2, 21, 4, 7, 1, 3, 2, 0, 12, 0, 1, 0, 3, 2, 0, 11, 4, 3, 2, 0, 15, 0, 8, 3, 7, 1, 3, 2, 0, 12, 0, 0, 0, 7, 4, 3, 2, 0, 15, 0, 1, 2, 0, 11]) ws (vs ++ [Value.int x, Value.int y]) := by
    refine ⟨nf_inA hl rfl, sgq_1398 ?_⟩
    · show ((w_fi ws (n_v (vs ++ [Value.int x, Value.int y]) 0) 12 = 1) → (w_fi ws (n_v (vs ++ [Value.int x, Value.int y]) 0) 11 ≤ (w_fi ws (n_v (vs ++ [Value.int x, Value.int y]) 0) 15 + 8))) ∧ ((w_fi ws (n_v (vs ++ [Value.int x, Value.int y]) 0) 12 = 0) ∨ ((w_fi ws (n_v (vs ++ [Value.int x, Value.int y]) 0) 15 + 1) ≤ w_fi ws (n_v (vs ++ [Value.int x, Value.int y]) 0) 11))
      rw [e_0]
      exact vc_Mo_item_at_k4_5_3 (w_fi ws (n_v vs 0) 5) (w_fi ws (n_v vs 0) 15) (w_fi ws (n_v vs 0) 11) (w_fi ws (n_v vs 0) 12) f5 kz_0_11 kz_0_12 kz_0_15
  have nf4 : fc_1 PRD (20, [8, 0], [30, 0, 1, 0, 0, -1, 1, 11]) ws (vs ++ [Value.int x, Value.int y]) := by
    refine ⟨nf_inA hl rfl, sgq_1395 ?_⟩
    · show 1 * v_iv (n_v (vs ++ [Value.int x, Value.int y]) 8) + ((-1) * w_fi ws (n_v (vs ++ [Value.int x, Value.int y]) 0) 11 + 0) ≤ 0
      simp only [e_0, e_8]
      exact vc_Mo_item_at_k4_5_4 (v_iv (n_v vs 3)) (v_iv (n_v vs 6)) (w_fi ws (n_v vs 0) 5) (w_fi ws (n_v vs 0) 15) (w_fi ws (n_v vs 0) 11) (v_iv (Value.int x)) (v_iv (Value.int y)) k3 k6 f0 f1 f4 f6 kz_0_11 kz_0_15 ex2 ey2
  have nf5 : fc_1 PRD (20, [0, 9], [50, 2, 0, 12, 11, 3, 7, 1, 3, 2, 0, 12, 0, 0, 0, 6, 4, 2, 1, 1, 0, 1, 2, 0, 11]) ws (vs ++ [Value.int x, Value.int y]) := by
    refine ⟨nf_inA hl rfl, sgq_1978 ?_⟩
    · show (w_fi ws (n_v (vs ++ [Value.int x, Value.int y]) 0) 12 = 0) ∨ ((v_iv (n_v (vs ++ [Value.int x, Value.int y]) 9) + 1) ≤ w_fi ws (n_v (vs ++ [Value.int x, Value.int y]) 0) 11)
      simp only [e_0, e_9]
      exact vc_Mo_item_at_k4_5_5 (w_fi ws (n_v vs 0) 5) (w_fi ws (n_v vs 0) 15) (w_fi ws (n_v vs 0) 11) (w_fi ws (n_v vs 0) 12) (v_iv (Value.int y)) f4 f5 kz_0_11 kz_0_12 kz_0_15 ey2
  have nf6 : fc_1 PRD (20, [1, 0], [50, 1, 1, 1005, 1002, 0, 6, 4, 2, 1, 0, 0, 1, 3, 1, 2, 4, 3, 2, 1, 5, 0, 2]) ws (vs ++ [Value.int x, Value.int y]) := by
    refine ⟨nf_inA hl rfl, sgq_981 ?_⟩
    · show (v_iv (n_v (vs ++ [Value.int x, Value.int y]) 1) + 1) ≤ w_ei ws (w_ar ws (n_v (vs ++ [Value.int x, Value.int y]) 0) 2) ((w_fi ws (n_v (vs ++ [Value.int x, Value.int y]) 0) 5 + 2))
      simp only [e_0, e_1]
      exact vc_Mo_item_at_k4_5_6 (v_iv (n_v vs 1)) (w_ei ws (w_ar ws (n_v vs 0) 2)) (w_fi ws (n_v vs 0) 5) k1 f2
  have nf7 : fc_1 PRD (20, [0], [60, 1, 3, 199, 5, 2, 3, 4]) ws (vs ++ [Value.int x, Value.int y]) := by
    refine ⟨nf_inA hl rfl, sgq_952 ?_⟩
    · show RWS (w_fi ws (n_v (vs ++ [Value.int x, Value.int y]) 0) 5) (w_ei ws (w_ar ws (n_v (vs ++ [Value.int x, Value.int y]) 0) 2)) (w_ei ws (w_ar ws (n_v (vs ++ [Value.int x, Value.int y]) 0) 3)) (w_ei ws (w_ar ws (n_v (vs ++ [Value.int x, Value.int y]) 0) 4))
      rw [e_0]
      exact vc_Mo_item_at_k4_5_7 (w_ei ws (w_ar ws (n_v vs 0) 2)) (w_fi ws (n_v vs 0) 5) (w_ei ws (w_ar ws (n_v vs 0) 3)) (w_ei ws (w_ar ws (n_v vs 0) 4)) f3
  have nf8 : fc_1 PRD (20, [0, 7], [60, 1, 1, 241, 5, 2]) ws (vs ++ [Value.int x, Value.int y]) := by
    refine ⟨nf_inA hl rfl, sgq_1979 ?_⟩
    · show MEB (w_fi ws (n_v (vs ++ [Value.int x, Value.int y]) 0) 5) (w_ei ws (w_ar ws (n_v (vs ++ [Value.int x, Value.int y]) 0) 2)) (v_iv (n_v (vs ++ [Value.int x, Value.int y]) 7))
      simp only [e_0, e_7]
      exact vc_Mo_item_at_k4_5_8 (v_iv (n_v vs 7)) (w_ei ws (w_ar ws (n_v vs 0) 2)) (w_fi ws (n_v vs 0) 5) k7
  exact ⟨(fun _ h => (by cases h)), [Value.int x, Value.int y], ag_two hx hy, List.forall_mem_cons.mpr ⟨⟨show (23 : Nat) < 100 from by decide, nf0⟩, List.forall_mem_cons.mpr ⟨⟨show (23 : Nat) < 100 from by decide, nf1⟩, List.forall_mem_cons.mpr ⟨⟨show (20 : Nat) < 100 from by decide, nf2⟩, List.forall_mem_cons.mpr ⟨⟨show (20 : Nat) < 100 from by decide, nf3⟩, List.forall_mem_cons.mpr ⟨⟨show (20 : Nat) < 100 from by decide, nf4⟩, List.forall_mem_cons.mpr ⟨⟨show (20 : Nat) < 100 from by decide, nf5⟩, List.forall_mem_cons.mpr ⟨⟨show (20 : Nat) < 100 from by decide, nf6⟩, List.forall_mem_cons.mpr ⟨⟨show (20 : Nat) < 100 from by decide, nf7⟩, List.forall_mem_cons.mpr ⟨⟨show (20 : Nat) < 100 from by decide, nf8⟩, (fun _ h => (by cases h))⟩⟩⟩⟩⟩⟩⟩⟩⟩, (fun _ h => (by cases h))⟩
set_option maxHeartbeats 4000000 in
theorem vc_Mo_item_at_k4_6_0 (x3 : Int) (x8 : Int) (r_0 : Int) (gx : Int) (k3 : 0 ≤ x3 ∧ x3 ≤ 2000) (k8 : 0 ≤ x8 ∧ x8 ≤ 2000) (f0 : 1 * x8 + ((-1) * x3 + 0) ≤ 0) (f1 : (-1) * x8 + (1 * x3 + 0) ≤ 0) (ex2 : gx = x3) : 1 * gx + ((-1) * x3 + 0) ≤ 0 := by
  first
    | omega
    | (have q1 := (hE_0_2_1 (r_0 + 2) (by omega)).2 (by omega)
       have q2 := (hE_0_2_2 (r_0 + 2) (by omega)).2 (by omega)
       omega)
    | (have q1 := (hE_0_2_1 (r_0 + 1) (by omega)).2 (by omega)
       have q2 := (hE_0_2_2 (r_0 + 1) (by omega)).2 (by omega)
       omega)
    | (have q1 := (hE_0_2_1 (r_0 + 2) (by omega)).2 (by omega)
       omega)
    | (have q1 := (hE_0_2_1 (r_0 + 1) (by omega)).2 (by omega)
       omega)
    | (have q1 := (hE_0_2_1 (r_0 + 2) (by omega)).2 (by omega)
       have q2 := (hE_0_2_2 (r_0 + 2) (by omega)).2 (by omega)
       have q3 := (hE_0_2_3 (r_0 + 2) (by omega)).1 (by omega)
       omega)
    | (have q1 := (hE_0_2_1 (r_0 + 2) (by omega)).2 (by omega)
       have q2 := (hE_0_2_2 (r_0 + 2) (by omega)).2 (by omega)
       have q3 := (hE_0_2_3 (r_0 + 2) (by omega)).2 (by omega)
       omega)
set_option maxHeartbeats 4000000 in
theorem vc_Mo_item_at_k4_6_1 (x3 : Int) (x8 : Int) (r_0 : Int) (gx : Int) (k3 : 0 ≤ x3 ∧ x3 ≤ 2000) (k8 : 0 ≤ x8 ∧ x8 ≤ 2000) (f0 : 1 * x8 + ((-1) * x3 + 0) ≤ 0) (f1 : (-1) * x8 + (1 * x3 + 0) ≤ 0) (ex2 : gx = x3) : (-1) * gx + (1 * x3 + 0) ≤ 0 := by
  first
    | omega
    | (have q1 := (hE_0_2_1 (r_0 + 2) (by omega)).2 (by omega)
       have q2 := (hE_0_2_2 (r_0 + 2) (by omega)).2 (by omega)
       omega)
    | (have q1 := (hE_0_2_1 (r_0 + 1) (by omega)).2 (by omega)
       have q2 := (hE_0_2_2 (r_0 + 1) (by omega)).2 (by omega)
       omega)
    | (have q1 := (hE_0_2_1 (r_0 + 2) (by omega)).2 (by omega)
       omega)
    | (have q1 := (hE_0_2_1 (r_0 + 1) (by omega)).2 (by omega)
       omega)
    | (have q1 := (hE_0_2_1 (r_0 + 2) (by omega)).2 (by omega)
       have q2 := (hE_0_2_2 (r_0 + 2) (by omega)).2 (by omega)
       have q3 := (hE_0_2_3 (r_0 + 2) (by omega)).1 (by omega)
       omega)
    | (have q1 := (hE_0_2_1 (r_0 + 2) (by omega)).2 (by omega)
       have q2 := (hE_0_2_2 (r_0 + 2) (by omega)).2 (by omega)
       have q3 := (hE_0_2_3 (r_0 + 2) (by omega)).2 (by omega)
       omega)
set_option maxHeartbeats 4000000 in
theorem vc_Mo_item_at_k4_6_2 (x10 : Int) (r_0 : Int) (gy : Int) (k10 : (-1) ≤ x10 ∧ x10 ≤ 23) (ey2 : gy = x10) : 1 * gy + ((-1) * x10 + 0) ≤ 0 := by
  first
    | omega
    | (have q1 := (hE_0_2_1 (r_0 + 2) (by omega)).2 (by omega)
       have q2 := (hE_0_2_2 (r_0 + 2) (by omega)).2 (by omega)
       omega)
    | (have q1 := (hE_0_2_1 (r_0 + 1) (by omega)).2 (by omega)
       have q2 := (hE_0_2_2 (r_0 + 1) (by omega)).2 (by omega)
       omega)
    | (have q1 := (hE_0_2_1 (r_0 + 2) (by omega)).2 (by omega)
       omega)
    | (have q1 := (hE_0_2_1 (r_0 + 1) (by omega)).2 (by omega)
       omega)
    | (have q1 := (hE_0_2_1 (r_0 + 2) (by omega)).2 (by omega)
       have q2 := (hE_0_2_2 (r_0 + 2) (by omega)).2 (by omega)
       have q3 := (hE_0_2_3 (r_0 + 2) (by omega)).1 (by omega)
       omega)
    | (have q1 := (hE_0_2_1 (r_0 + 2) (by omega)).2 (by omega)
       have q2 := (hE_0_2_2 (r_0 + 2) (by omega)).2 (by omega)
       have q3 := (hE_0_2_3 (r_0 + 2) (by omega)).2 (by omega)
       omega)
set_option maxHeartbeats 4000000 in
theorem vc_Mo_item_at_k4_6_3 (x10 : Int) (r_0 : Int) (gy : Int) (k10 : (-1) ≤ x10 ∧ x10 ≤ 23) (ey2 : gy = x10) : (-1) * gy + (1 * x10 + 0) ≤ 0 := by
  first
    | omega
    | (have q1 := (hE_0_2_1 (r_0 + 2) (by omega)).2 (by omega)
       have q2 := (hE_0_2_2 (r_0 + 2) (by omega)).2 (by omega)
       omega)
    | (have q1 := (hE_0_2_1 (r_0 + 1) (by omega)).2 (by omega)
       have q2 := (hE_0_2_2 (r_0 + 1) (by omega)).2 (by omega)
       omega)
    | (have q1 := (hE_0_2_1 (r_0 + 2) (by omega)).2 (by omega)
       omega)
    | (have q1 := (hE_0_2_1 (r_0 + 1) (by omega)).2 (by omega)
       omega)
    | (have q1 := (hE_0_2_1 (r_0 + 2) (by omega)).2 (by omega)
       have q2 := (hE_0_2_2 (r_0 + 2) (by omega)).2 (by omega)
       have q3 := (hE_0_2_3 (r_0 + 2) (by omega)).1 (by omega)
       omega)
    | (have q1 := (hE_0_2_1 (r_0 + 2) (by omega)).2 (by omega)
       have q2 := (hE_0_2_2 (r_0 + 2) (by omega)).2 (by omega)
       have q3 := (hE_0_2_3 (r_0 + 2) (by omega)).2 (by omega)
       omega)
set_option maxHeartbeats 4000000 in
theorem vc_Mo_item_at_k4_6_4 (from_0 : Int) (pos_0 : Int) (r_0 : Int) (f4 : 1 * from_0 + ((-1) * pos_0 + 0) ≤ 0) (kz_0_11 : 0 ≤ pos_0 ∧ pos_0 ≤ 2000) (kz_0_15 : 0 ≤ from_0 ∧ from_0 ≤ 2000) : 1 * from_0 + ((-1) * pos_0 + 0) ≤ 0 := by
  first
    | omega
    | (have q1 := (hE_0_2_1 (r_0 + 2) (by omega)).2 (by omega)
       have q2 := (hE_0_2_2 (r_0 + 2) (by omega)).2 (by omega)
       omega)
    | (have q1 := (hE_0_2_1 (r_0 + 1) (by omega)).2 (by omega)
       have q2 := (hE_0_2_2 (r_0 + 1) (by omega)).2 (by omega)
       omega)
    | (have q1 := (hE_0_2_1 (r_0 + 2) (by omega)).2 (by omega)
       omega)
    | (have q1 := (hE_0_2_1 (r_0 + 1) (by omega)).2 (by omega)
       omega)
    | (have q1 := (hE_0_2_1 (r_0 + 2) (by omega)).2 (by omega)
       have q2 := (hE_0_2_2 (r_0 + 2) (by omega)).2 (by omega)
       have q3 := (hE_0_2_3 (r_0 + 2) (by omega)).1 (by omega)
       omega)
    | (have q1 := (hE_0_2_1 (r_0 + 2) (by omega)).2 (by omega)
       have q2 := (hE_0_2_2 (r_0 + 2) (by omega)).2 (by omega)
       have q3 := (hE_0_2_3 (r_0 + 2) (by omega)).2 (by omega)
       omega)
set_option maxHeartbeats 4000000 in
theorem vc_Mo_item_at_k4_6_5 (from_0 : Int) (pos_0 : Int) (kind_0 : Int) (r_0 : Int) (f5 : ((kind_0 = 1) → (pos_0 ≤ (from_0 + 8))) ∧ ((kind_0 = 0) ∨ ((from_0 + 1) ≤ pos_0))) (kz_0_11 : 0 ≤ pos_0 ∧ pos_0 ≤ 2000) (kz_0_12 : 0 ≤ kind_0 ∧ kind_0 ≤ 4) (kz_0_15 : 0 ≤ from_0 ∧ from_0 ≤ 2000) : ((kind_0 = 1) → (pos_0 ≤ (from_0 + 8))) ∧ ((kind_0 = 0) ∨ ((from_0 + 1) ≤ pos_0)) := by
  first
    | omega
    | (have q1 := (hE_0_2_1 (r_0 + 2) (by omega)).2 (by omega)
       have q2 := (hE_0_2_2 (r_0 + 2) (by omega)).2 (by omega)
       omega)
    | (have q1 := (hE_0_2_1 (r_0 + 1) (by omega)).2 (by omega)
       have q2 := (hE_0_2_2 (r_0 + 1) (by omega)).2 (by omega)
       omega)
    | (have q1 := (hE_0_2_1 (r_0 + 2) (by omega)).2 (by omega)
       omega)
    | (have q1 := (hE_0_2_1 (r_0 + 1) (by omega)).2 (by omega)
       omega)
    | (have q1 := (hE_0_2_1 (r_0 + 2) (by omega)).2 (by omega)
       have q2 := (hE_0_2_2 (r_0 + 2) (by omega)).2 (by omega)
       have q3 := (hE_0_2_3 (r_0 + 2) (by omega)).1 (by omega)
       omega)
    | (have q1 := (hE_0_2_1 (r_0 + 2) (by omega)).2 (by omega)
       have q2 := (hE_0_2_2 (r_0 + 2) (by omega)).2 (by omega)
       have q3 := (hE_0_2_3 (r_0 + 2) (by omega)).2 (by omega)
       omega)
set_option maxHeartbeats 4000000 in
theorem vc_Mo_item_at_k4_6_6 (x3 : Int) (x8 : Int) (pos_0 : Int) (r_0 : Int) (gx : Int) (k3 : 0 ≤ x3 ∧ x3 ≤ 2000) (k8 : 0 ≤ x8 ∧ x8 ≤ 2000) (f0 : 1 * x8 + ((-1) * x3 + 0) ≤ 0) (f1 : (-1) * x8 + (1 * x3 + 0) ≤ 0) (f6 : 1 * x8 + ((-1) * pos_0 + 0) ≤ 0) (kz_0_11 : 0 ≤ pos_0 ∧ pos_0 ≤ 2000) (ex2 : gx = x3) : 1 * gx + ((-1) * pos_0 + 0) ≤ 0 := by
  first
    | omega
    | (have q1 := (hE_0_2_1 (r_0 + 2) (by omega)).2 (by omega)
       have q2 := (hE_0_2_2 (r_0 + 2) (by omega)).2 (by omega)
       omega)
    | (have q1 := (hE_0_2_1 (r_0 + 1) (by omega)).2 (by omega)
       have q2 := (hE_0_2_2 (r_0 + 1) (by omega)).2 (by omega)
       omega)
    | (have q1 := (hE_0_2_1 (r_0 + 2) (by omega)).2 (by omega)
       omega)
    | (have q1 := (hE_0_2_1 (r_0 + 1) (by omega)).2 (by omega)
       omega)
    | (have q1 := (hE_0_2_1 (r_0 + 2) (by omega)).2 (by omega)
       have q2 := (hE_0_2_2 (r_0 + 2) (by omega)).2 (by omega)
       have q3 := (hE_0_2_3 (r_0 + 2) (by omega)).1 (by omega)
       omega)
    | (have q1 := (hE_0_2_1 (r_0 + 2) (by omega)).2 (by omega)
       have q2 := (hE_0_2_2 (r_0 + 2) (by omega)).2 (by omega)
       have q3 := (hE_0_2_3 (r_0 + 2) (by omega)).2 (by omega)
       omega)
set_option maxHeartbeats 4000000 in
theorem vc_Mo_item_at_k4_6_7 (x3 : Int) (x7 : Int) (x8 : Int) (x9 : Int) (x10 : Int) (pos_0 : Int) (kind_0 : Int) (fault_0 : Int) (all_0 : Int → Int) (r_0 : Int) (gx : Int) (k3 : 0 ≤ x3 ∧ x3 ≤ 2000) (k7 : (-1) ≤ x7 ∧ x7 ≤ (-1)) (k8 : 0 ≤ x8 ∧ x8 ≤ 2000) (k9 : 0 ≤ x9 ∧ x9 ≤ 2000) (k10 : (-1) ≤ x10 ∧ x10 ≤ 23) (f0 : 1 * x8 + ((-1) * x3 + 0) ≤ 0) (f1 : (-1) * x8 + (1 * x3 + 0) ≤ 0) (f6 : 1 * x8 + ((-1) * pos_0 + 0) ≤ 0) (f7 : (1 ≤ fault_0) ∨ ((kind_0 = 0) ∨ ((x8 + 1) ≤ pos_0))) (f8 : (1 ≤ fault_0) ∨ ((x9 + 1) ≤ pos_0)) (f9 : ((-1) * fault_0 + 0 ≤ (-1)) ∨ ((-1) * x10 + 0 ≤ 0)) (f10 : (1 ≤ fault_0) ∨ ((x7 ≤ (-1)) ∨ (all_0 ((r_0 + 1)) ≤ 47))) (kz_0_8 : 0 ≤ fault_0 ∧ fault_0 ≤ 5) (kz_0_11 : 0 ≤ pos_0 ∧ pos_0 ≤ 2000) (kz_0_12 : 0 ≤ kind_0 ∧ kind_0 ≤ 4) (ex2 : gx = x3) : (1 ≤ fault_0) ∨ ((kind_0 = 0) ∨ ((gx + 1) ≤ pos_0)) := by
  first
    | omega
    | (have q1 := (hE_0_2_1 (r_0 + 2) (by omega)).2 (by omega)
       have q2 := (hE_0_2_2 (r_0 + 2) (by omega)).2 (by omega)
       omega)
    | (have q1 := (hE_0_2_1 (r_0 + 1) (by omega)).2 (by omega)
       have q2 := (hE_0_2_2 (r_0 + 1) (by omega)).2 (by omega)
       omega)
    | (have q1 := (hE_0_2_1 (r_0 + 2) (by omega)).2 (by omega)
       omega)
    | (have q1 := (hE_0_2_1 (r_0 + 1) (by omega)).2 (by omega)
       omega)
    | (have q1 := (hE_0_2_1 (r_0 + 2) (by omega)).2 (by omega)
       have q2 := (hE_0_2_2 (r_0 + 2) (by omega)).2 (by omega)
       have q3 := (hE_0_2_3 (r_0 + 2) (by omega)).1 (by omega)
       omega)
    | (have q1 := (hE_0_2_1 (r_0 + 2) (by omega)).2 (by omega)
       have q2 := (hE_0_2_2 (r_0 + 2) (by omega)).2 (by omega)
       have q3 := (hE_0_2_3 (r_0 + 2) (by omega)).2 (by omega)
       omega)
set_option maxHeartbeats 4000000 in
theorem vc_Mo_item_at_k4_6_8 (x7 : Int) (x10 : Int) (fault_0 : Int) (all_0 : Int → Int) (r_0 : Int) (gy : Int) (k7 : (-1) ≤ x7 ∧ x7 ≤ (-1)) (k10 : (-1) ≤ x10 ∧ x10 ≤ 23) (f9 : ((-1) * fault_0 + 0 ≤ (-1)) ∨ ((-1) * x10 + 0 ≤ 0)) (f10 : (1 ≤ fault_0) ∨ ((x7 ≤ (-1)) ∨ (all_0 ((r_0 + 1)) ≤ 47))) (kz_0_8 : 0 ≤ fault_0 ∧ fault_0 ≤ 5) (ey2 : gy = x10) : (1 ≤ fault_0) ∨ (0 ≤ gy) := by
  first
    | omega
    | (have q1 := (hE_0_2_1 (r_0 + 2) (by omega)).2 (by omega)
       have q2 := (hE_0_2_2 (r_0 + 2) (by omega)).2 (by omega)
       omega)
    | (have q1 := (hE_0_2_1 (r_0 + 1) (by omega)).2 (by omega)
       have q2 := (hE_0_2_2 (r_0 + 1) (by omega)).2 (by omega)
       omega)
    | (have q1 := (hE_0_2_1 (r_0 + 2) (by omega)).2 (by omega)
       omega)
    | (have q1 := (hE_0_2_1 (r_0 + 1) (by omega)).2 (by omega)
       omega)
    | (have q1 := (hE_0_2_1 (r_0 + 2) (by omega)).2 (by omega)
       have q2 := (hE_0_2_2 (r_0 + 2) (by omega)).2 (by omega)
       have q3 := (hE_0_2_3 (r_0 + 2) (by omega)).1 (by omega)
       omega)
    | (have q1 := (hE_0_2_1 (r_0 + 2) (by omega)).2 (by omega)
       have q2 := (hE_0_2_2 (r_0 + 2) (by omega)).2 (by omega)
       have q3 := (hE_0_2_3 (r_0 + 2) (by omega)).2 (by omega)
       omega)
def o_Mo_item_at_k4_6 : or_T := (27, 13, [(0, (2, 0, 0, [165])), (3, (0, 0, 2000, [])), (7, (0, -1, -1, [])), (8, (0, 0, 2000, [])), (9, (0, 0, 2000, [])), (10, (0, -1, 23, []))], [(23, [8, 3], [0, 1, -1]), (23, [8, 3], [0, -1, 1]), (20, [0, 0], [30, 0, 1, 1, 15, -1, 1, 11]), (20, [0], [50, 3, 0, 12, 11, 15, 2, 21, 4, 7, 1, 3, 2, 0, 12, 0, 1, 0, 3, 2, 0, 11, 4, 3, 2, 0, 15, 0, 8, 3, 7, 1, 3, 2, 0, 12, 0, 0, 0, 7, 4, 3, 2, 0, 15, 0, 1, 2, 0, 11]), (20, [8, 0], [30, 0, 1, 0, 0, -1, 1, 11]), (20, [0, 8], [50, 3, 0, 8, 12, 11, 3, 7, 0, 2, 0, 1, 2, 0, 8, 3, 7, 1, 3, 2, 0, 12, 0, 0, 0, 6, 4, 2, 1, 1, 0, 1, 2, 0, 11]), (20, [0, 9], [50, 2, 0, 8, 11, 3, 7, 0, 2, 0, 1, 2, 0, 8, 0, 6, 4, 2, 1, 1, 0, 1, 2, 0, 11]), (20, [0, 10], [31, 1, -1, -1, 1, 8, 0, -1, 0, 0]), (20, [0, 7], [50, 2, 1, 8, 5, 2, 3, 7, 0, 2, 0, 1, 2, 0, 8, 3, 6, 0, 2, 1, 1, 0, -1, 0, 10, 3, 0, 2, 4, 3, 2, 0, 5, 0, 1, 0, 47])], [], [(0, 0, 2000, []), (0, -1, 48, [])], [(23, [13, 3], [0, 1, -1]), (23, [13, 3], [0, -1, 1]), (23, [14, 10], [0, 1, -1]), (23, [14, 10], [0, -1, 1]), (20, [0, 0], [30, 0, 1, 1, 15, -1, 1, 11]), (20, [0], [50, 3, 0, 12, 11, 15, 2, 21, 4, 7, 1, 3, 2, 0, 12, 0, 1, 0, 3, 2, 0, 11, 4, 3, 2, 0, 15, 0, 8, 3, 7, 1, 3, 2, 0, 12, 0, 0, 0, 7, 4, 3, 2, 0, 15, 0, 1, 2, 0, 11]), (20, [13, 0], [30, 0, 1, 0, 0, -1, 1, 11]), (20, [0, 13], [50, 3, 0, 8, 12, 11, 3, 7, 0, 2, 0, 1, 2, 0, 8, 3, 7, 1, 3, 2, 0, 12, 0, 0, 0, 6, 4, 2, 1, 1, 0, 1, 2, 0, 11]), (20, [0, 14], [50, 1, 0, 8, 3, 7, 0, 2, 0, 1, 2, 0, 8, 0, 2, 0, 0, 1, 1])], [], [])
theorem oo_Mo_item_at_k4_6 {kA : Nat → ClassId} : or_ok PRD kA GG o_Mo_item_at_k4_6 := by
  refine or_mk fun A ta ws vs hD hth hl => ?_
  intro t0 r0 t3 k3 t7 k7 t8 k8 t9 k9 t10 k10 f0 f1 f4 f5 f6 f7 f8 f9 f10
  replace f0 := shm_7 f0
  replace f1 := shm_22 f1
  replace f4 := shm_1397 f4
  replace f5 := shm_1398 f5
  replace f6 := shm_1395 f6
  replace f7 := shm_1660 f7
  replace f8 := shm_1659 f8
  replace f9 := shm_1982 f9
  replace f10 := shm_1983 f10
  have kz_0_8 := fdq_14 hD hth r0
  have kz_0_11 := fdq_273 hD hth r0
  have kz_0_12 := fdq_186 hD hth r0
  have kz_0_15 := fdq_274 hD hth r0
  obtain ⟨x, ex, hx⟩ := iv_ex (ta := ta) (lo := 0) (hi := 2000) (z := v_iv (n_v vs 3)) (by omega) (by omega) (by omega) (by omega)
  have ex2 : v_iv (Value.int x) = v_iv (n_v vs 3) := ex
  have ex3 : 0 ≤ v_iv (Value.int x) ∧ v_iv (Value.int x) ≤ 2000 := tv_rng hx
  obtain ⟨y, ey, hy⟩ := iv_ex (ta := ta) (lo := (-1)) (hi := 48) (z := v_iv (n_v vs 10)) (by omega) (by omega) (by omega) (by omega)
  have ey2 : v_iv (Value.int y) = v_iv (n_v vs 10) := ey
  have ey3 : (-1) ≤ v_iv (Value.int y) ∧ v_iv (Value.int y) ≤ 48 := tv_rng hy
  have e_0 : n_v (vs ++ [Value.int x, Value.int y]) 0 = n_v vs 0 := n_v_old (by rw [hl]; decide)
  have e_3 : n_v (vs ++ [Value.int x, Value.int y]) 3 = n_v vs 3 := n_v_old (by rw [hl]; decide)
  have e_10 : n_v (vs ++ [Value.int x, Value.int y]) 10 = n_v vs 10 := n_v_old (by rw [hl]; decide)
  have e_13 : n_v (vs ++ [Value.int x, Value.int y]) 13 = Value.int x := n_v_new0 hl
  have e_14 : n_v (vs ++ [Value.int x, Value.int y]) 14 = Value.int y := n_v_new1 hl
  have nf0 : fc_1 PRD (23, [13, 3], [0, 1, -1]) ws (vs ++ [Value.int x, Value.int y]) := by
    refine ⟨nf_inA hl rfl, sgq_7 ?_⟩
    · show 1 * v_iv (n_v (vs ++ [Value.int x, Value.int y]) 13) + ((-1) * v_iv (n_v (vs ++ [Value.int x, Value.int y]) 3) + 0) ≤ 0
      simp only [e_3, e_13]
      exact vc_Mo_item_at_k4_6_0 (v_iv (n_v vs 3)) (v_iv (n_v vs 8)) (w_fi ws (n_v vs 0) 5) (v_iv (Value.int x)) k3 k8 f0 f1 ex2
  have nf1 : fc_1 PRD (23, [13, 3], [0, -1, 1]) ws (vs ++ [Value.int x, Value.int y]) := by
    refine ⟨nf_inA hl rfl, sgq_22 ?_⟩
    · show (-1) * v_iv (n_v (vs ++ [Value.int x, Value.int y]) 13) + (1 * v_iv (n_v (vs ++ [Value.int x, Value.int y]) 3) + 0) ≤ 0
      simp only [e_3, e_13]
      exact vc_Mo_item_at_k4_6_1 (v_iv (n_v vs 3)) (v_iv (n_v vs 8)) (w_fi ws (n_v vs 0) 5) (v_iv (Value.int x)) k3 k8 f0 f1 ex2
  have nf2 : fc_1 PRD (23, [14, 10], [0, 1, -1]) ws (vs ++ [Value.int x, Value.int y]) := by
    refine ⟨nf_inA hl rfl, sgq_7 ?_⟩
    · show 1 * v_iv (n_v (vs ++ [Value.int x, Value.int y]) 14) + ((-1) * v_iv (n_v (vs ++ [Value.int x, Value.int y]) 10) + 0) ≤ 0
      simp only [e_10, e_14]
      exact vc_Mo_item_at_k4_6_2 (v_iv (n_v vs 10)) (w_fi ws (n_v vs 0) 5) (v_iv (Value.int y)) k10 ey2
  have nf3 : fc_1 PRD (23, [14, 10], [0, -1, 1]) ws (vs ++ [Value.int x, Value.int y]) := by
    refine ⟨nf_inA hl rfl, sgq_22 ?_⟩
    · show (-1) * v_iv (n_v (vs ++ [Value.int x, Value.int y]) 14) + (1 * v_iv (n_v (vs ++ [Value.int x, Value.int y]) 10) + 0) ≤ 0
      simp only [e_10, e_14]
      exact vc_Mo_item_at_k4_6_3 (v_iv (n_v vs 10)) (w_fi ws (n_v vs 0) 5) (v_iv (Value.int y)) k10 ey2
  have nf4 : fc_1 PRD (20, [0, 0], [30, 0, 1, 1, 15, -1, 1, 11]) ws (vs ++ [Value.int x, Value.int y]) := by
    refine ⟨nf_inA hl rfl, sgq_1397 ?_⟩
    · show 1 * w_fi ws (n_v (vs ++ [Value.int x, Value.int y]) 0) 15 + ((-1) * w_fi ws (n_v (vs ++ [Value.int x, Value.int y]) 0) 11 + 0) ≤ 0
      rw [e_0]
      exact vc_Mo_item_at_k4_6_4 (w_fi ws (n_v vs 0) 15) (w_fi ws (n_v vs 0) 11) (w_fi ws (n_v vs 0) 5) f4 kz_0_11 kz_0_15
  have nf5 : fc_1 PRD (20, [0], [50, 3, 0, 12, 11, 15, 2, 21, 4, 7, 1, 3, 2, 0, 12, 0, 1, 0, 3, 2, 0, 11, 4, 3, 2, 0, 15, 0, 8, 3, 7, 1, 3, 2, 0, 12, 0, 0, 0, 7, 4, 3, 2, 0, 15, 0, 1, 2, 0, 11]) ws (vs ++ [Value.int x, Value.int y]) := by
    refine ⟨nf_inA hl rfl, sgq_1398 ?_⟩
    · show ((w_fi ws (n_v (vs ++ [Value.int x, Value.int y]) 0) 12 = 1) → (w_fi ws (n_v (vs ++ [Value.int x, Value.int y]) 0) 11 ≤ (w_fi ws (n_v (vs ++ [Value.int x, Value.int y]) 0) 15 + 8))) ∧ ((w_fi ws (n_v (vs ++ [Value.int x, Value.int y]) 0) 12 = 0) ∨ ((w_fi ws (n_v (vs ++ [Value.int x, Value.int y]) 0) 15 + 1) ≤ w_fi ws (n_v (vs ++ [Value.int x, Value.int y]) 0) 11))
      rw [e_0]
      exact vc_Mo_item_at_k4_6_5 (w_fi ws (n_v vs 0) 15) (w_fi ws (n_v vs 0) 11) (w_fi ws (n_v vs 0) 12) (w_fi ws (n_v vs 0) 5) f5 kz_0_11 kz_0_12 kz_0_15
  have nf6 : fc_1 PRD (20, [13, 0], [30, 0, 1, 0, 0, -1, 1, 11]) ws (vs ++ [Value.int x, Value.int y]) := by
    refine ⟨nf_inA hl rfl, sgq_1395 ?_⟩
    · show 1 * v_iv (n_v (vs ++ [Value.int x, Value.int y]) 13) + ((-1) * w_fi ws (n_v (vs ++ [Value.int x, Value.int y]) 0) 11 + 0) ≤ 0
      simp only [e_0, e_13]
      exact vc_Mo_item_at_k4_6_6 (v_iv (n_v vs 3)) (v_iv (n_v vs 8)) (w_fi ws (n_v vs 0) 11) (w_fi ws (n_v vs 0) 5) (v_iv (Value.int x)) k3 k8 f0 f1 f6 kz_0_11 ex2
  have nf7 : fc_1 PRD (20, [0, 13], [50, 3, 0, 8, 12, 11, 3, 7, 0, 2, 0, 1, 2, 0, 8, 3, 7, 1, 3, 2, 0, 12, 0, 0, 0, 6, 4, 2, 1, 1, 0, 1, 2, 0, 11]) ws (vs ++ [Value.int x, Value.int y]) := by
    refine ⟨nf_inA hl rfl, sgq_1660 ?_⟩
    · show (1 ≤ w_fi ws (n_v (vs ++ [Value.int x, Value.int y]) 0) 8) ∨ ((w_fi ws (n_v (vs ++ [Value.int x, Value.int y]) 0) 12 = 0) ∨ ((v_iv (n_v (vs ++ [Value.int x, Value.int y]) 13) + 1) ≤ w_fi ws (n_v (vs ++ [Value.int x, Value.int y]) 0) 11))
      simp only [e_0, e_13]
      exact vc_Mo_item_at_k4_6_7 (v_iv (n_v vs 3)) (v_iv (n_v vs 7)) (v_iv (n_v vs 8)) (v_iv (n_v vs 9)) (v_iv (n_v vs 10)) (w_fi ws (n_v vs 0) 11) (w_fi ws (n_v vs 0) 12) (w_fi ws (n_v vs 0) 8) (w_ei ws (w_ar ws (n_v vs 0) 2)) (w_fi ws (n_v vs 0) 5) (v_iv (Value.int x)) k3 k7 k8 k9 k10 f0 f1 f6 f7 f8 f9 f10 kz_0_8 kz_0_11 kz_0_12 ex2
  have nf8 : fc_1 PRD (20, [0, 14], [50, 1, 0, 8, 3, 7, 0, 2, 0, 1, 2, 0, 8, 0, 2, 0, 0, 1, 1]) ws (vs ++ [Value.int x, Value.int y]) := by
    refine ⟨nf_inA hl rfl, sgq_1889 ?_⟩
    · show (1 ≤ w_fi ws (n_v (vs ++ [Value.int x, Value.int y]) 0) 8) ∨ (0 ≤ v_iv (n_v (vs ++ [Value.int x, Value.int y]) 14))
      simp only [e_0, e_14]
      exact vc_Mo_item_at_k4_6_8 (v_iv (n_v vs 7)) (v_iv (n_v vs 10)) (w_fi ws (n_v vs 0) 8) (w_ei ws (w_ar ws (n_v vs 0) 2)) (w_fi ws (n_v vs 0) 5) (v_iv (Value.int y)) k7 k10 f9 f10 kz_0_8 ey2
  exact ⟨(fun _ h => (by cases h)), [Value.int x, Value.int y], ag_two hx hy, List.forall_mem_cons.mpr ⟨⟨show (23 : Nat) < 100 from by decide, nf0⟩, List.forall_mem_cons.mpr ⟨⟨show (23 : Nat) < 100 from by decide, nf1⟩, List.forall_mem_cons.mpr ⟨⟨show (23 : Nat) < 100 from by decide, nf2⟩, List.forall_mem_cons.mpr ⟨⟨show (23 : Nat) < 100 from by decide, nf3⟩, List.forall_mem_cons.mpr ⟨⟨show (20 : Nat) < 100 from by decide, nf4⟩, List.forall_mem_cons.mpr ⟨⟨show (20 : Nat) < 100 from by decide, nf5⟩, List.forall_mem_cons.mpr ⟨⟨show (20 : Nat) < 100 from by decide, nf6⟩, List.forall_mem_cons.mpr ⟨⟨show (20 : Nat) < 100 from by decide, nf7⟩, List.forall_mem_cons.mpr ⟨⟨show (20 : Nat) < 100 from by decide, nf8⟩, (fun _ h => (by cases h))⟩⟩⟩⟩⟩⟩⟩⟩⟩, (fun _ h => (by cases h))⟩
set_option maxHeartbeats 4000000 in
theorem vc_Mo_item_at_k4_7_0 (x3 : Int) (x13 : Int) (r_0 : Int) (gx : Int) (k3 : 0 ≤ x3 ∧ x3 ≤ 2000) (k13 : 0 ≤ x13 ∧ x13 ≤ 2000) (f2 : 1 * x13 + ((-1) * x3 + 0) ≤ 0) (f3 : (-1) * x13 + (1 * x3 + 0) ≤ 0) (ex2 : gx = x3) : 1 * gx + ((-1) * x3 + 0) ≤ 0 := by
  first
    | omega
    | (have q1 := (hE_0_2_1 (r_0 + 2) (by omega)).2 (by omega)
       have q2 := (hE_0_2_2 (r_0 + 2) (by omega)).2 (by omega)
       omega)
    | (have q1 := (hE_0_2_1 (r_0 + 1) (by omega)).2 (by omega)
       have q2 := (hE_0_2_2 (r_0 + 1) (by omega)).2 (by omega)
       omega)
    | (have q1 := (hE_0_2_1 (r_0 + 2) (by omega)).2 (by omega)
       omega)
    | (have q1 := (hE_0_2_1 (r_0 + 1) (by omega)).2 (by omega)
       omega)
    | (have q1 := (hE_0_2_1 (r_0 + 2) (by omega)).2 (by omega)
       have q2 := (hE_0_2_2 (r_0 + 2) (by omega)).2 (by omega)
       have q3 := (hE_0_2_3 (r_0 + 2) (by omega)).1 (by omega)
       omega)
    | (have q1 := (hE_0_2_1 (r_0 + 2) (by omega)).2 (by omega)
       have q2 := (hE_0_2_2 (r_0 + 2) (by omega)).2 (by omega)
       have q3 := (hE_0_2_3 (r_0 + 2) (by omega)).2 (by omega)
       omega)
set_option maxHeartbeats 4000000 in
theorem vc_Mo_item_at_k4_7_1 (x3 : Int) (x13 : Int) (r_0 : Int) (gx : Int) (k3 : 0 ≤ x3 ∧ x3 ≤ 2000) (k13 : 0 ≤ x13 ∧ x13 ≤ 2000) (f2 : 1 * x13 + ((-1) * x3 + 0) ≤ 0) (f3 : (-1) * x13 + (1 * x3 + 0) ≤ 0) (ex2 : gx = x3) : (-1) * gx + (1 * x3 + 0) ≤ 0 := by
  first
    | omega
    | (have q1 := (hE_0_2_1 (r_0 + 2) (by omega)).2 (by omega)
       have q2 := (hE_0_2_2 (r_0 + 2) (by omega)).2 (by omega)
       omega)
    | (have q1 := (hE_0_2_1 (r_0 + 1) (by omega)).2 (by omega)
       have q2 := (hE_0_2_2 (r_0 + 1) (by omega)).2 (by omega)
       omega)
    | (have q1 := (hE_0_2_1 (r_0 + 2) (by omega)).2 (by omega)
       omega)
    | (have q1 := (hE_0_2_1 (r_0 + 1) (by omega)).2 (by omega)
       omega)
    | (have q1 := (hE_0_2_1 (r_0 + 2) (by omega)).2 (by omega)
       have q2 := (hE_0_2_2 (r_0 + 2) (by omega)).2 (by omega)
       have q3 := (hE_0_2_3 (r_0 + 2) (by omega)).1 (by omega)
       omega)
    | (have q1 := (hE_0_2_1 (r_0 + 2) (by omega)).2 (by omega)
       have q2 := (hE_0_2_2 (r_0 + 2) (by omega)).2 (by omega)
       have q3 := (hE_0_2_3 (r_0 + 2) (by omega)).2 (by omega)
       omega)
set_option maxHeartbeats 4000000 in
theorem vc_Mo_item_at_k4_7_2 (r_0 : Int) (from_0 : Int) (pos_0 : Int) (f12 : 1 * from_0 + ((-1) * pos_0 + 0) ≤ 0) (kz_0_11 : 0 ≤ pos_0 ∧ pos_0 ≤ 2000) (kz_0_15 : 0 ≤ from_0 ∧ from_0 ≤ 2000) : 1 * from_0 + ((-1) * pos_0 + 0) ≤ 0 := by
  first
    | omega
    | (have q1 := (hE_0_2_1 (r_0 + 2) (by omega)).2 (by omega)
       have q2 := (hE_0_2_2 (r_0 + 2) (by omega)).2 (by omega)
       omega)
    | (have q1 := (hE_0_2_1 (r_0 + 1) (by omega)).2 (by omega)
       have q2 := (hE_0_2_2 (r_0 + 1) (by omega)).2 (by omega)
       omega)
    | (have q1 := (hE_0_2_1 (r_0 + 2) (by omega)).2 (by omega)
       omega)
    | (have q1 := (hE_0_2_1 (r_0 + 1) (by omega)).2 (by omega)
       omega)
    | (have q1 := (hE_0_2_1 (r_0 + 2) (by omega)).2 (by omega)
       have q2 := (hE_0_2_2 (r_0 + 2) (by omega)).2 (by omega)
       have q3 := (hE_0_2_3 (r_0 + 2) (by omega)).1 (by omega)
       omega)
    | (have q1 := (hE_0_2_1 (r_0 + 2) (by omega)).2 (by omega)
       have q2 := (hE_0_2_2 (r_0 + 2) (by omega)).2 (by omega)
       have q3 := (hE_0_2_3 (r_0 + 2) (by omega)).2 (by omega)
       omega)
set_option maxHeartbeats 4000000 in
theorem vc_Mo_item_at_k4_7_3 (r_0 : Int) (from_0 : Int) (pos_0 : Int) (kind_0 : Int) (f13 : ((kind_0 = 1) → (pos_0 ≤ (from_0 + 8))) ∧ ((kind_0 = 0) ∨ ((from_0 + 1) ≤ pos_0))) (kz_0_11 : 0 ≤ pos_0 ∧ pos_0 ≤ 2000) (kz_0_12 : 0 ≤ kind_0 ∧ kind_0 ≤ 4) (kz_0_15 : 0 ≤ from_0 ∧ from_0 ≤ 2000) : ((kind_0 = 1) → (pos_0 ≤ (from_0 + 8))) ∧ ((kind_0 = 0) ∨ ((from_0 + 1) ≤ pos_0)) := by
  first
    | omega
    | (have q1 := (hE_0_2_1 (r_0 + 2) (by omega)).2 (by omega)
       have q2 := (hE_0_2_2 (r_0 + 2) (by omega)).2 (by omega)
       omega)
    | (have q1 := (hE_0_2_1 (r_0 + 1) (by omega)).2 (by omega)
       have q2 := (hE_0_2_2 (r_0 + 1) (by omega)).2 (by omega)
       omega)
    | (have q1 := (hE_0_2_1 (r_0 + 2) (by omega)).2 (by omega)
       omega)
    | (have q1 := (hE_0_2_1 (r_0 + 1) (by omega)).2 (by omega)
       omega)
    | (have q1 := (hE_0_2_1 (r_0 + 2) (by omega)).2 (by omega)
       have q2 := (hE_0_2_2 (r_0 + 2) (by omega)).2 (by omega)
       have q3 := (hE_0_2_3 (r_0 + 2) (by omega)).1 (by omega)
       omega)
    | (have q1 := (hE_0_2_1 (r_0 + 2) (by omega)).2 (by omega)
       have q2 := (hE_0_2_2 (r_0 + 2) (by omega)).2 (by omega)
       have q3 := (hE_0_2_3 (r_0 + 2) (by omega)).2 (by omega)
       omega)
set_option maxHeartbeats 4000000 in
theorem vc_Mo_item_at_k4_7_4 (x3 : Int) (x13 : Int) (r_0 : Int) (pos_0 : Int) (gx : Int) (k3 : 0 ≤ x3 ∧ x3 ≤ 2000) (k13 : 0 ≤ x13 ∧ x13 ≤ 2000) (f2 : 1 * x13 + ((-1) * x3 + 0) ≤ 0) (f3 : (-1) * x13 + (1 * x3 + 0) ≤ 0) (f14 : 1 * x13 + ((-1) * pos_0 + 0) ≤ 0) (kz_0_11 : 0 ≤ pos_0 ∧ pos_0 ≤ 2000) (ex2 : gx = x3) : 1 * gx + ((-1) * pos_0 + 0) ≤ 0 := by
  first
    | omega
    | (have q1 := (hE_0_2_1 (r_0 + 2) (by omega)).2 (by omega)
       have q2 := (hE_0_2_2 (r_0 + 2) (by omega)).2 (by omega)
       omega)
    | (have q1 := (hE_0_2_1 (r_0 + 1) (by omega)).2 (by omega)
       have q2 := (hE_0_2_2 (r_0 + 1) (by omega)).2 (by omega)
       omega)
    | (have q1 := (hE_0_2_1 (r_0 + 2) (by omega)).2 (by omega)
       omega)
    | (have q1 := (hE_0_2_1 (r_0 + 1) (by omega)).2 (by omega)
       omega)
    | (have q1 := (hE_0_2_1 (r_0 + 2) (by omega)).2 (by omega)
       have q2 := (hE_0_2_2 (r_0 + 2) (by omega)).2 (by omega)
       have q3 := (hE_0_2_3 (r_0 + 2) (by omega)).1 (by omega)
       omega)
    | (have q1 := (hE_0_2_1 (r_0 + 2) (by omega)).2 (by omega)
       have q2 := (hE_0_2_2 (r_0 + 2) (by omega)).2 (by omega)
       have q3 := (hE_0_2_3 (r_0 + 2) (by omega)).2 (by omega)
       omega)
set_option maxHeartbeats 4000000 in
theorem vc_Mo_item_at_k4_7_5 (x16 : Int) (fault_0 : Int) (r_0 : Int) (pos_0 : Int) (kind_0 : Int) (gx : Int) (k16 : 1 ≤ x16 ∧ x16 ≤ 5) (g1 : x16 = fault_0) (kz_0_8 : 0 ≤ fault_0 ∧ fault_0 ≤ 5) (kz_0_11 : 0 ≤ pos_0 ∧ pos_0 ≤ 2000) (kz_0_12 : 0 ≤ kind_0 ∧ kind_0 ≤ 4) : (1 ≤ fault_0) ∨ ((kind_0 = 0) ∨ ((gx + 1) ≤ pos_0)) := by
  first
    | omega
    | (have q1 := (hE_0_2_1 (r_0 + 2) (by omega)).2 (by omega)
       have q2 := (hE_0_2_2 (r_0 + 2) (by omega)).2 (by omega)
       omega)
    | (have q1 := (hE_0_2_1 (r_0 + 1) (by omega)).2 (by omega)
       have q2 := (hE_0_2_2 (r_0 + 1) (by omega)).2 (by omega)
       omega)
    | (have q1 := (hE_0_2_1 (r_0 + 2) (by omega)).2 (by omega)
       omega)
    | (have q1 := (hE_0_2_1 (r_0 + 1) (by omega)).2 (by omega)
       omega)
    | (have q1 := (hE_0_2_1 (r_0 + 2) (by omega)).2 (by omega)
       have q2 := (hE_0_2_2 (r_0 + 2) (by omega)).2 (by omega)
       have q3 := (hE_0_2_3 (r_0 + 2) (by omega)).1 (by omega)
       omega)
    | (have q1 := (hE_0_2_1 (r_0 + 2) (by omega)).2 (by omega)
       have q2 := (hE_0_2_2 (r_0 + 2) (by omega)).2 (by omega)
       have q3 := (hE_0_2_3 (r_0 + 2) (by omega)).2 (by omega)
       omega)
def o_Mo_item_at_k4_7 : or_T := (64, 18, [(0, (2, 0, 0, [165])), (1, (0, 0, 7, [])), (3, (0, 0, 2000, [])), (6, (0, 0, 2000, [])), (8, (0, 0, 2000, [])), (10, (0, -1, 23, [])), (12, (0, 99, 99, [])), (13, (0, 0, 2000, [])), (14, (0, -1, 48, [])), (15, (0, -2147483648, 2147483647, [])), (16, (0, 1, 5, []))], [(8, [16], [1]), (9, [16, 0], [8]), (23, [13, 3], [0, 1, -1]), (23, [13, 3], [0, -1, 1]), (23, [14, 10], [0, 1, -1]), (23, [14, 10], [0, -1, 1]), (23, [8, 3], [0, 1, -1]), (23, [8, 3], [0, -1, 1]), (23, [6, 3], [0, 1, -1]), (23, [6, 3], [0, -1, 1]), (20, [1, 0], [50, 1, 1, 1005, 1002, 0, 6, 4, 2, 1, 0, 0, 1, 3, 1, 2, 4, 3, 2, 1, 5, 0, 2]), (20, [0], [60, 1, 3, 199, 5, 2, 3, 4]), (20, [0, 0], [30, 0, 1, 1, 15, -1, 1, 11]), (20, [0], [50, 3, 0, 12, 11, 15, 2, 21, 4, 7, 1, 3, 2, 0, 12, 0, 1, 0, 3, 2, 0, 11, 4, 3, 2, 0, 15, 0, 8, 3, 7, 1, 3, 2, 0, 12, 0, 0, 0, 7, 4, 3, 2, 0, 15, 0, 1, 2, 0, 11]), (20, [13, 0], [30, 0, 1, 0, 0, -1, 1, 11]), (20, [0, 13], [50, 3, 0, 8, 12, 11, 3, 7, 0, 2, 0, 1, 2, 0, 8, 3, 7, 1, 3, 2, 0, 12, 0, 0, 0, 6, 4, 2, 1, 1, 0, 1, 2, 0, 11]), (20, [0, 14], [50, 1, 0, 8, 3, 7, 0, 2, 0, 1, 2, 0, 8, 0, 2, 0, 0, 1, 1]), (20, [15, 12], [30, 0, 1, 0, 0, -1, 0, 0]), (20, [15], [30, 0, -1, 0, 0]), (102, [14], [0, 165008, 165009, 165011, 165012, 165013, 165014, 165015]), (23, [13, 3], [0, 1, -1]), (23, [13, 3], [0, -1, 1]), (23, [14, 10], [0, 1, -1]), (23, [14, 10], [0, -1, 1]), (23, [8, 3], [0, 1, -1]), (23, [8, 3], [0, -1, 1]), (23, [6, 3], [0, 1, -1]), (23, [6, 3], [0, -1, 1]), (102, [9], [187072209578355573530071658587684226515959365500928, 165008, 165009, 165011, 165012, 165013, 165014, 165015]), (23, [8, 3], [0, 1, -1]), (23, [8, 3], [0, -1, 1]), (23, [6, 3], [0, 1, -1]), (23, [6, 3], [0, -1, 1]), (102, [6], [0, 165011, 165012, 165013, 165014, 165015]), (23, [6, 3], [0, 1, -1]), (23, [6, 3], [0, -1, 1])], [], [(0, 0, 2000, [])], [(23, [18, 3], [0, 1, -1]), (23, [18, 3], [0, -1, 1]), (20, [0, 0], [30, 0, 1, 1, 15, -1, 1, 11]), (20, [0], [50, 3, 0, 12, 11, 15, 2, 21, 4, 7, 1, 3, 2, 0, 12, 0, 1, 0, 3, 2, 0, 11, 4, 3, 2, 0, 15, 0, 8, 3, 7, 1, 3, 2, 0, 12, 0, 0, 0, 7, 4, 3, 2, 0, 15, 0, 1, 2, 0, 11]), (20, [18, 0], [30, 0, 1, 0, 0, -1, 1, 11]), (20, [0, 18], [50, 3, 0, 8, 12, 11, 3, 7, 0, 2, 0, 1, 2, 0, 8, 3, 7, 1, 3, 2, 0, 12, 0, 0, 0, 6, 4, 2, 1, 1, 0, 1, 2, 0, 11])], [], [])
theorem oo_Mo_item_at_k4_7 {kA : Nat → ClassId} : or_ok PRD kA GG o_Mo_item_at_k4_7 := by
  refine or_mk fun A ta ws vs hD hth hl => ?_
  intro t0 r0 t1 k1 t3 k3 t6 k6 t8 k8 t10 k10 t12 k12 t13 k13 t14 k14 t15 k15 t16 k16 f0 f1 f2 f3 f4 f5 f6 f7 f8 f9 f10 f11 f12 f13 f14 f15 f16 f17 f18 ta1 w1 le1 s1 f20 f21 f22 f23 f24 f25 f26 f27 ta2 w2 le2 s2 f29 f30 f31 f32 ta3 w3 le3 s3 f34 f35
  replace f1 := shm_143 f1
  replace f2 := shm_7 f2
  replace f3 := shm_22 f3
  replace f12 := shm_1397 f12
  replace f13 := shm_1398 f13
  replace f14 := shm_1395 f14
  have g1 : v_iv (n_v vs 16) = w_fi ws (n_v vs 0) 8 := congrArg v_iv f1
  have kz_0_8 := fdq_14 hD hth r0
  have kz_0_11 := fdq_273 hD hth r0
  have kz_0_12 := fdq_186 hD hth r0
  have kz_0_15 := fdq_274 hD hth r0
  obtain ⟨x, ex, hx⟩ := iv_ex (ta := ta) (lo := 0) (hi := 2000) (z := v_iv (n_v vs 3)) (by omega) (by omega) (by omega) (by omega)
  have ex2 : v_iv (Value.int x) = v_iv (n_v vs 3) := ex
  have ex3 : 0 ≤ v_iv (Value.int x) ∧ v_iv (Value.int x) ≤ 2000 := tv_rng hx
  have e_0 : n_v (vs ++ [Value.int x]) 0 = n_v vs 0 := n_v_old (by rw [hl]; decide)
  have e_3 : n_v (vs ++ [Value.int x]) 3 = n_v vs 3 := n_v_old (by rw [hl]; decide)
  have e_18 : n_v (vs ++ [Value.int x]) 18 = Value.int x := n_v_new hl
  have nf0 : fc_1 PRD (23, [18, 3], [0, 1, -1]) ws (vs ++ [Value.int x]) := by
    refine ⟨nf_inA hl rfl, sgq_7 ?_⟩
    · show 1 * v_iv (n_v (vs ++ [Value.int x]) 18) + ((-1) * v_iv (n_v (vs ++ [Value.int x]) 3) + 0) ≤ 0
      simp only [e_3, e_18]
      exact vc_Mo_item_at_k4_7_0 (v_iv (n_v vs 3)) (v_iv (n_v vs 13)) (w_fi ws (n_v vs 0) 5) (v_iv (Value.int x)) k3 k13 f2 f3 ex2
  have nf1 : fc_1 PRD (23, [18, 3], [0, -1, 1]) ws (vs ++ [Value.int x]) := by
    refine ⟨nf_inA hl rfl, sgq_22 ?_⟩
    · show (-1) * v_iv (n_v (vs ++ [Value.int x]) 18) + (1 * v_iv (n_v (vs ++ [Value.int x]) 3) + 0) ≤ 0
      simp only [e_3, e_18]
      exact vc_Mo_item_at_k4_7_1 (v_iv (n_v vs 3)) (v_iv (n_v vs 13)) (w_fi ws (n_v vs 0) 5) (v_iv (Value.int x)) k3 k13 f2 f3 ex2
  have nf2 : fc_1 PRD (20, [0, 0], [30, 0, 1, 1, 15, -1, 1, 11]) ws (vs ++ [Value.int x]) := by
    refine ⟨nf_inA hl rfl, sgq_1397 ?_⟩
    · show 1 * w_fi ws (n_v (vs ++ [Value.int x]) 0) 15 + ((-1) * w_fi ws (n_v (vs ++ [Value.int x]) 0) 11 + 0) ≤ 0
      rw [e_0]
      exact vc_Mo_item_at_k4_7_2 (w_fi ws (n_v vs 0) 5) (w_fi ws (n_v vs 0) 15) (w_fi ws (n_v vs 0) 11) f12 kz_0_11 kz_0_15
  have nf3 : fc_1 PRD (20, [0], [50, 3, 0, 12, 11, 15, 2, 21, 4, 7, 1, 3, 2, 0, 12, 0, 1, 0, 3, 2, 0, 11, 4, 3, 2, 0, 15, 0, 8, 3, 7, 1, 3, 2, 0, 12, 0, 0, 0, 7, 4, 3, 2, 0, 15, 0, 1, 2, 0, 11]) ws (vs ++ [Value.int x]) := by
    refine ⟨nf_inA hl rfl, sgq_1398 ?_⟩
    · show ((w_fi ws (n_v (vs ++ [Value.int x]) 0) 12 = 1) → (w_fi ws (n_v (vs ++ [Value.int x]) 0) 11 ≤ (w_fi ws (n_v (vs ++ [Value.int x]) 0) 15 + 8))) ∧ ((w_fi ws (n_v (vs ++ [Value.int x]) 0) 12 = 0) ∨ ((w_fi ws (n_v (vs ++ [Value.int x]) 0) 15 + 1) ≤ w_fi ws (n_v (vs ++ [Value.int x]) 0) 11))
      rw [e_0]
      exact vc_Mo_item_at_k4_7_3 (w_fi ws (n_v vs 0) 5) (w_fi ws (n_v vs 0) 15) (w_fi ws (n_v vs 0) 11) (w_fi ws (n_v vs 0) 12) f13 kz_0_11 kz_0_12 kz_0_15
  have nf4 : fc_1 PRD (20, [18, 0], [30, 0, 1, 0, 0, -1, 1, 11]) ws (vs ++ [Value.int x]) := by
    refine ⟨nf_inA hl rfl, sgq_1395 ?_⟩
    · show 1 * v_iv (n_v (vs ++ [Value.int x]) 18) + ((-1) * w_fi ws (n_v (vs ++ [Value.int x]) 0) 11 + 0) ≤ 0
      simp only [e_0, e_18]
      exact vc_Mo_item_at_k4_7_4 (v_iv (n_v vs 3)) (v_iv (n_v vs 13)) (w_fi ws (n_v vs 0) 5) (w_fi ws (n_v vs 0) 11) (v_iv (Value.int x)) k3 k13 f2 f3 f14 kz_0_11 ex2
  have nf5 : fc_1 PRD (20, [0, 18], [50, 3, 0, 8, 12, 11, 3, 7, 0, 2, 0, 1, 2, 0, 8, 3, 7, 1, 3, 2, 0, 12, 0, 0, 0, 6, 4, 2, 1, 1, 0, 1, 2, 0, 11]) ws (vs ++ [Value.int x]) := by
    refine ⟨nf_inA hl rfl, sgq_1660 ?_⟩
    · show (1 ≤ w_fi ws (n_v (vs ++ [Value.int x]) 0) 8) ∨ ((w_fi ws (n_v (vs ++ [Value.int x]) 0) 12 = 0) ∨ ((v_iv (n_v (vs ++ [Value.int x]) 18) + 1) ≤ w_fi ws (n_v (vs ++ [Value.int x]) 0) 11))
      simp only [e_0, e_18]
      exact vc_Mo_item_at_k4_7_5 (v_iv (n_v vs 16)) (w_fi ws (n_v vs 0) 8) (w_fi ws (n_v vs 0) 5) (w_fi ws (n_v vs 0) 11) (w_fi ws (n_v vs 0) 12) (v_iv (Value.int x)) k16 g1 kz_0_8 kz_0_11 kz_0_12
  exact ⟨(fun _ h => (by cases h)), [Value.int x], ag_one hx, List.forall_mem_cons.mpr ⟨⟨show (23 : Nat) < 100 from by decide, nf0⟩, List.forall_mem_cons.mpr ⟨⟨show (23 : Nat) < 100 from by decide, nf1⟩, List.forall_mem_cons.mpr ⟨⟨show (20 : Nat) < 100 from by decide, nf2⟩, List.forall_mem_cons.mpr ⟨⟨show (20 : Nat) < 100 from by decide, nf3⟩, List.forall_mem_cons.mpr ⟨⟨show (20 : Nat) < 100 from by decide, nf4⟩, List.forall_mem_cons.mpr ⟨⟨show (20 : Nat) < 100 from by decide, nf5⟩, (fun _ h => (by cases h))⟩⟩⟩⟩⟩⟩, (fun _ h => (by cases h))⟩
set_option maxHeartbeats 4000000 in
theorem vc_Mo_item_at_k4_8_0 (x3 : Int) (x18 : Int) (r_0 : Int) (pos_0 : Int) (k3 : 0 ≤ x3 ∧ x3 ≤ 2000) (k18 : 0 ≤ x18 ∧ x18 ≤ 2000) (f0 : 1 * x18 + ((-1) * x3 + 0) ≤ 0) (f1 : (-1) * x18 + (1 * x3 + 0) ≤ 0) (f14 : 1 * x18 + ((-1) * pos_0 + 0) ≤ 0) (kz_0_11 : 0 ≤ pos_0 ∧ pos_0 ≤ 2000) : 1 * x3 + ((-1) * pos_0 + 0) ≤ 0 := by
  first
    | omega
    | (have q1 := (hE_0_2_1 (r_0 + 2) (by omega)).2 (by omega)
       have q2 := (hE_0_2_2 (r_0 + 2) (by omega)).2 (by omega)
       omega)
    | (have q1 := (hE_0_2_1 (r_0 + 1) (by omega)).2 (by omega)
       have q2 := (hE_0_2_2 (r_0 + 1) (by omega)).2 (by omega)
       omega)
    | (have q1 := (hE_0_2_1 (r_0 + 2) (by omega)).2 (by omega)
       omega)
    | (have q1 := (hE_0_2_1 (r_0 + 1) (by omega)).2 (by omega)
       omega)
    | (have q1 := (hE_0_2_1 (r_0 + 2) (by omega)).2 (by omega)
       have q2 := (hE_0_2_2 (r_0 + 2) (by omega)).2 (by omega)
       have q3 := (hE_0_2_3 (r_0 + 2) (by omega)).1 (by omega)
       omega)
    | (have q1 := (hE_0_2_1 (r_0 + 2) (by omega)).2 (by omega)
       have q2 := (hE_0_2_2 (r_0 + 2) (by omega)).2 (by omega)
       have q3 := (hE_0_2_3 (r_0 + 2) (by omega)).2 (by omega)
       omega)
set_option maxHeartbeats 4000000 in
theorem vc_Mo_item_at_k4_8_1 (x3 : Int) (x18 : Int) (r_0 : Int) (pos_0 : Int) (fault_0 : Int) (k3 : 0 ≤ x3 ∧ x3 ≤ 2000) (k18 : 0 ≤ x18 ∧ x18 ≤ 2000) (f0 : 1 * x18 + ((-1) * x3 + 0) ≤ 0) (f1 : (-1) * x18 + (1 * x3 + 0) ≤ 0) (f14 : 1 * x18 + ((-1) * pos_0 + 0) ≤ 0) (f15 : (1 ≤ fault_0) ∨ ((x18 + 1) ≤ pos_0)) (kz_0_8 : 0 ≤ fault_0 ∧ fault_0 ≤ 5) (kz_0_11 : 0 ≤ pos_0 ∧ pos_0 ≤ 2000) : (1 ≤ fault_0) ∨ ((x3 + 1) ≤ pos_0) := by
  first
    | omega
    | (have q1 := (hE_0_2_1 (r_0 + 2) (by omega)).2 (by omega)
       have q2 := (hE_0_2_2 (r_0 + 2) (by omega)).2 (by omega)
       omega)
    | (have q1 := (hE_0_2_1 (r_0 + 1) (by omega)).2 (by omega)
       have q2 := (hE_0_2_2 (r_0 + 1) (by omega)).2 (by omega)
       omega)
    | (have q1 := (hE_0_2_1 (r_0 + 2) (by omega)).2 (by omega)
       omega)
    | (have q1 := (hE_0_2_1 (r_0 + 1) (by omega)).2 (by omega)
       omega)
    | (have q1 := (hE_0_2_1 (r_0 + 2) (by omega)).2 (by omega)
       have q2 := (hE_0_2_2 (r_0 + 2) (by omega)).2 (by omega)
       have q3 := (hE_0_2_3 (r_0 + 2) (by omega)).1 (by omega)
       omega)
    | (have q1 := (hE_0_2_1 (r_0 + 2) (by omega)).2 (by omega)
       have q2 := (hE_0_2_2 (r_0 + 2) (by omega)).2 (by omega)
       have q3 := (hE_0_2_3 (r_0 + 2) (by omega)).2 (by omega)
       omega)
def o_Mo_item_at_k4_8 : or_T := (94, 19, [(0, (2, 0, 0, [165])), (1, (0, 0, 7, [])), (3, (0, 0, 2000, [])), (6, (0, 0, 2000, [])), (8, (0, 0, 2000, [])), (12, (0, 99, 99, [])), (13, (0, 0, 2000, [])), (15, (0, -2147483648, 2147483647, [])), (18, (0, 0, 2000, []))], [(23, [18, 3], [0, 1, -1]), (23, [18, 3], [0, -1, 1]), (23, [13, 3], [0, 1, -1]), (23, [13, 3], [0, -1, 1]), (23, [8, 3], [0, 1, -1]), (23, [8, 3], [0, -1, 1]), (23, [6, 3], [0, 1, -1]), (23, [6, 3], [0, -1, 1]), (20, [1, 0], [50, 1, 1, 1005, 1002, 0, 6, 4, 2, 1, 0, 0, 1, 3, 1, 2, 4, 3, 2, 1, 5, 0, 2]), (20, [0], [60, 1, 3, 199, 5, 2, 3, 4]), (20, [15, 12], [30, 0, 1, 0, 0, -1, 0, 0]), (20, [15], [30, 0, -1, 0, 0]), (20, [0, 0], [30, 0, 1, 1, 15, -1, 1, 11]), (20, [0], [50, 3, 0, 12, 11, 15, 2, 21, 4, 7, 1, 3, 2, 0, 12, 0, 1, 0, 3, 2, 0, 11, 4, 3, 2, 0, 15, 0, 8, 3, 7, 1, 3, 2, 0, 12, 0, 0, 0, 7, 4, 3, 2, 0, 15, 0, 1, 2, 0, 11]), (20, [18, 0], [30, 0, 1, 0, 0, -1, 1, 11]), (20, [0, 18], [50, 2, 0, 8, 11, 3, 7, 0, 2, 0, 1, 2, 0, 8, 0, 6, 4, 2, 1, 1, 0, 1, 2, 0, 11]), (102, [18], [0, 165008, 165009, 165011, 165012, 165013, 165014, 165015]), (23, [18, 3], [0, 1, -1]), (23, [18, 3], [0, -1, 1]), (23, [13, 3], [0, 1, -1]), (23, [13, 3], [0, -1, 1]), (23, [8, 3], [0, 1, -1]), (23, [8, 3], [0, -1, 1]), (23, [6, 3], [0, 1, -1]), (23, [6, 3], [0, -1, 1]), (102, [14], [0, 165008, 165009, 165011, 165012, 165013, 165014, 165015]), (23, [13, 3], [0, 1, -1]), (23, [13, 3], [0, -1, 1]), (23, [8, 3], [0, 1, -1]), (23, [8, 3], [0, -1, 1]), (23, [6, 3], [0, 1, -1]), (23, [6, 3], [0, -1, 1]), (102, [9], [187072209578355573530071658587684226515959365500928, 165008, 165009, 165011, 165012, 165013, 165014, 165015]), (23, [8, 3], [0, 1, -1]), (23, [8, 3], [0, -1, 1]), (23, [6, 3], [0, 1, -1]), (23, [6, 3], [0, -1, 1]), (102, [6], [0, 165011, 165012, 165013, 165014, 165015]), (23, [6, 3], [0, 1, -1]), (23, [6, 3], [0, -1, 1])], [], [], [(20, [3, 0], [30, 0, 1, 0, 0, -1, 1, 11]), (20, [0, 3], [50, 2, 0, 8, 11, 3, 7, 0, 2, 0, 1, 2, 0, 8, 0, 6, 4, 2, 1, 1, 0, 1, 2, 0, 11])], [], [])
theorem oo_Mo_item_at_k4_8 {kA : Nat → ClassId} : or_ok PRD kA GG o_Mo_item_at_k4_8 := by
  refine or_mk fun A ta ws vs hD hth hl => ?_
  intro t0 r0 t1 k1 t3 k3 t6 k6 t8 k8 t12 k12 t13 k13 t15 k15 t18 k18 f0 f1 f2 f3 f4 f5 f6 f7 f8 f9 f10 f11 f12 f13 f14 f15 ta1 w1 le1 s1 f17 f18 f19 f20 f21 f22 f23 f24 ta2 w2 le2 s2 f26 f27 f28 f29 f30 f31 ta3 w3 le3 s3 f33 f34 f35 f36 ta4 w4 le4 s4 f38 f39
  have kz_0_8 := fdq_14 hD hth r0
  have kz_0_11 := fdq_273 hD hth r0
  have nf0 : fc_1 PRD (20, [3, 0], [30, 0, 1, 0, 0, -1, 1, 11]) ws (vs) := ⟨nf_in hl rfl, sgq_1395 (vc_Mo_item_at_k4_8_0 (v_iv (n_v vs 3)) (v_iv (n_v vs 18)) (w_fi ws (n_v vs 0) 5) (w_fi ws (n_v vs 0) 11) k3 k18 (shm_7 f0) (shm_22 f1) (shm_1395 f14) kz_0_11)⟩
  have nf1 : fc_1 PRD (20, [0, 3], [50, 2, 0, 8, 11, 3, 7, 0, 2, 0, 1, 2, 0, 8, 0, 6, 4, 2, 1, 1, 0, 1, 2, 0, 11]) ws (vs) := ⟨nf_in hl rfl, sgq_1659 (vc_Mo_item_at_k4_8_1 (v_iv (n_v vs 3)) (v_iv (n_v vs 18)) (w_fi ws (n_v vs 0) 5) (w_fi ws (n_v vs 0) 11) (w_fi ws (n_v vs 0) 8) k3 k18 (shm_7 f0) (shm_22 f1) (shm_1395 f14) (shm_1659 f15) kz_0_8 kz_0_11)⟩
  refine ⟨(fun _ h => (by cases h)), [], trivial, ?_, (fun _ h => (by cases h))⟩
  rw [List.append_nil]
  exact List.forall_mem_cons.mpr ⟨⟨show (20 : Nat) < 100 from by decide, nf0⟩, List.forall_mem_cons.mpr ⟨⟨show (20 : Nat) < 100 from by decide, nf1⟩, (fun _ h => (by cases h))⟩⟩
set_option maxHeartbeats 4000000 in
theorem vc_Mo_item_at_k4_9_0 (x3 : Int) (x13 : Int) (r_0 : Int) (gx : Int) (k3 : 0 ≤ x3 ∧ x3 ≤ 2000) (k13 : 0 ≤ x13 ∧ x13 ≤ 2000) (f3 : 1 * x13 + ((-1) * x3 + 0) ≤ 0) (f4 : (-1) * x13 + (1 * x3 + 0) ≤ 0) (ex2 : gx = x3) : 1 * gx + ((-1) * x3 + 0) ≤ 0 := by
  first
    | omega
    | (have q1 := (hE_0_2_1 (r_0 + 2) (by omega)).2 (by omega)
       have q2 := (hE_0_2_2 (r_0 + 2) (by omega)).2 (by omega)
       omega)
    | (have q1 := (hE_0_2_1 (r_0 + 1) (by omega)).2 (by omega)
       have q2 := (hE_0_2_2 (r_0 + 1) (by omega)).2 (by omega)
       omega)
    | (have q1 := (hE_0_2_1 (r_0 + 2) (by omega)).2 (by omega)
       omega)
    | (have q1 := (hE_0_2_1 (r_0 + 1) (by omega)).2 (by omega)
       omega)
    | (have q1 := (hE_0_2_1 (r_0 + 2) (by omega)).2 (by omega)
       have q2 := (hE_0_2_2 (r_0 + 2) (by omega)).2 (by omega)
       have q3 := (hE_0_2_3 (r_0 + 2) (by omega)).1 (by omega)
       omega)
    | (have q1 := (hE_0_2_1 (r_0 + 2) (by omega)).2 (by omega)
       have q2 := (hE_0_2_2 (r_0 + 2) (by omega)).2 (by omega)
       have q3 := (hE_0_2_3 (r_0 + 2) (by omega)).2 (by omega)
       omega)
set_option maxHeartbeats 4000000 in
theorem vc_Mo_item_at_k4_9_1 (x3 : Int) (x13 : Int) (r_0 : Int) (gx : Int) (k3 : 0 ≤ x3 ∧ x3 ≤ 2000) (k13 : 0 ≤ x13 ∧ x13 ≤ 2000) (f3 : 1 * x13 + ((-1) * x3 + 0) ≤ 0) (f4 : (-1) * x13 + (1 * x3 + 0) ≤ 0) (ex2 : gx = x3) : (-1) * gx + (1 * x3 + 0) ≤ 0 := by
  first
    | omega
    | (have q1 := (hE_0_2_1 (r_0 + 2) (by omega)).2 (by omega)
       have q2 := (hE_0_2_2 (r_0 + 2) (by omega)).2 (by omega)
       omega)
    | (have q1 := (hE_0_2_1 (r_0 + 1) (by omega)).2 (by omega)
       have q2 := (hE_0_2_2 (r_0 + 1) (by omega)).2 (by omega)
       omega)
    | (have q1 := (hE_0_2_1 (r_0 + 2) (by omega)).2 (by omega)
       omega)
    | (have q1 := (hE_0_2_1 (r_0 + 1) (by omega)).2 (by omega)
       omega)
    | (have q1 := (hE_0_2_1 (r_0 + 2) (by omega)).2 (by omega)
       have q2 := (hE_0_2_2 (r_0 + 2) (by omega)).2 (by omega)
       have q3 := (hE_0_2_3 (r_0 + 2) (by omega)).1 (by omega)
       omega)
    | (have q1 := (hE_0_2_1 (r_0 + 2) (by omega)).2 (by omega)
       have q2 := (hE_0_2_2 (r_0 + 2) (by omega)).2 (by omega)
       have q3 := (hE_0_2_3 (r_0 + 2) (by omega)).2 (by omega)
       omega)
set_option maxHeartbeats 4000000 in
theorem vc_Mo_item_at_k4_9_2 (r_0 : Int) (from_0 : Int) (pos_0 : Int) (f13 : 1 * from_0 + ((-1) * pos_0 + 0) ≤ 0) (kz_0_11 : 0 ≤ pos_0 ∧ pos_0 ≤ 2000) (kz_0_15 : 0 ≤ from_0 ∧ from_0 ≤ 2000) : 1 * from_0 + ((-1) * pos_0 + 0) ≤ 0 := by
  first
    | omega
    | (have q1 := (hE_0_2_1 (r_0 + 2) (by omega)).2 (by omega)
       have q2 := (hE_0_2_2 (r_0 + 2) (by omega)).2 (by omega)
       omega)
    | (have q1 := (hE_0_2_1 (r_0 + 1) (by omega)).2 (by omega)
       have q2 := (hE_0_2_2 (r_0 + 1) (by omega)).2 (by omega)
       omega)
    | (have q1 := (hE_0_2_1 (r_0 + 2) (by omega)).2 (by omega)
       omega)
    | (have q1 := (hE_0_2_1 (r_0 + 1) (by omega)).2 (by omega)
       omega)
    | (have q1 := (hE_0_2_1 (r_0 + 2) (by omega)).2 (by omega)
       have q2 := (hE_0_2_2 (r_0 + 2) (by omega)).2 (by omega)
       have q3 := (hE_0_2_3 (r_0 + 2) (by omega)).1 (by omega)
       omega)
    | (have q1 := (hE_0_2_1 (r_0 + 2) (by omega)).2 (by omega)
       have q2 := (hE_0_2_2 (r_0 + 2) (by omega)).2 (by omega)
       have q3 := (hE_0_2_3 (r_0 + 2) (by omega)).2 (by omega)
       omega)
set_option maxHeartbeats 4000000 in
theorem vc_Mo_item_at_k4_9_3 (r_0 : Int) (from_0 : Int) (pos_0 : Int) (kind_0 : Int) (f14 : ((kind_0 = 1) → (pos_0 ≤ (from_0 + 8))) ∧ ((kind_0 = 0) ∨ ((from_0 + 1) ≤ pos_0))) (kz_0_11 : 0 ≤ pos_0 ∧ pos_0 ≤ 2000) (kz_0_12 : 0 ≤ kind_0 ∧ kind_0 ≤ 4) (kz_0_15 : 0 ≤ from_0 ∧ from_0 ≤ 2000) : ((kind_0 = 1) → (pos_0 ≤ (from_0 + 8))) ∧ ((kind_0 = 0) ∨ ((from_0 + 1) ≤ pos_0)) := by
  first
    | omega
    | (have q1 := (hE_0_2_1 (r_0 + 2) (by omega)).2 (by omega)
       have q2 := (hE_0_2_2 (r_0 + 2) (by omega)).2 (by omega)
       omega)
    | (have q1 := (hE_0_2_1 (r_0 + 1) (by omega)).2 (by omega)
       have q2 := (hE_0_2_2 (r_0 + 1) (by omega)).2 (by omega)
       omega)
    | (have q1 := (hE_0_2_1 (r_0 + 2) (by omega)).2 (by omega)
       omega)
    | (have q1 := (hE_0_2_1 (r_0 + 1) (by omega)).2 (by omega)
       omega)
    | (have q1 := (hE_0_2_1 (r_0 + 2) (by omega)).2 (by omega)
       have q2 := (hE_0_2_2 (r_0 + 2) (by omega)).2 (by omega)
       have q3 := (hE_0_2_3 (r_0 + 2) (by omega)).1 (by omega)
       omega)
    | (have q1 := (hE_0_2_1 (r_0 + 2) (by omega)).2 (by omega)
       have q2 := (hE_0_2_2 (r_0 + 2) (by omega)).2 (by omega)
       have q3 := (hE_0_2_3 (r_0 + 2) (by omega)).2 (by omega)
       omega)
set_option maxHeartbeats 4000000 in
theorem vc_Mo_item_at_k4_9_4 (x3 : Int) (x13 : Int) (r_0 : Int) (pos_0 : Int) (gx : Int) (k3 : 0 ≤ x3 ∧ x3 ≤ 2000) (k13 : 0 ≤ x13 ∧ x13 ≤ 2000) (f3 : 1 * x13 + ((-1) * x3 + 0) ≤ 0) (f4 : (-1) * x13 + (1 * x3 + 0) ≤ 0) (f15 : 1 * x13 + ((-1) * pos_0 + 0) ≤ 0) (kz_0_11 : 0 ≤ pos_0 ∧ pos_0 ≤ 2000) (ex2 : gx = x3) : 1 * gx + ((-1) * pos_0 + 0) ≤ 0 := by
  first
    | omega
    | (have q1 := (hE_0_2_1 (r_0 + 2) (by omega)).2 (by omega)
       have q2 := (hE_0_2_2 (r_0 + 2) (by omega)).2 (by omega)
       omega)
    | (have q1 := (hE_0_2_1 (r_0 + 1) (by omega)).2 (by omega)
       have q2 := (hE_0_2_2 (r_0 + 1) (by omega)).2 (by omega)
       omega)
    | (have q1 := (hE_0_2_1 (r_0 + 2) (by omega)).2 (by omega)
       omega)
    | (have q1 := (hE_0_2_1 (r_0 + 1) (by omega)).2 (by omega)
       omega)
    | (have q1 := (hE_0_2_1 (r_0 + 2) (by omega)).2 (by omega)
       have q2 := (hE_0_2_2 (r_0 + 2) (by omega)).2 (by omega)
       have q3 := (hE_0_2_3 (r_0 + 2) (by omega)).1 (by omega)
       omega)
    | (have q1 := (hE_0_2_1 (r_0 + 2) (by omega)).2 (by omega)
       have q2 := (hE_0_2_2 (r_0 + 2) (by omega)).2 (by omega)
       have q3 := (hE_0_2_3 (r_0 + 2) (by omega)).2 (by omega)
       omega)
set_option maxHeartbeats 4000000 in
theorem vc_Mo_item_at_k4_9_5 (x3 : Int) (x13 : Int) (x14 : Int) (x16 : Int) (fault_0 : Int) (r_0 : Int) (pos_0 : Int) (kind_0 : Int) (gx : Int) (k3 : 0 ≤ x3 ∧ x3 ≤ 2000) (k13 : 0 ≤ x13 ∧ x13 ≤ 2000) (k14 : (-1) ≤ x14 ∧ x14 ≤ 48) (k16 : 0 ≤ x16 ∧ x16 ≤ 0) (g2 : x16 = fault_0) (f3 : 1 * x13 + ((-1) * x3 + 0) ≤ 0) (f4 : (-1) * x13 + (1 * x3 + 0) ≤ 0) (f15 : 1 * x13 + ((-1) * pos_0 + 0) ≤ 0) (f16 : (1 ≤ fault_0) ∨ ((kind_0 = 0) ∨ ((x13 + 1) ≤ pos_0))) (f17 : (1 ≤ fault_0) ∨ (0 ≤ x14)) (kz_0_8 : 0 ≤ fault_0 ∧ fault_0 ≤ 5) (kz_0_11 : 0 ≤ pos_0 ∧ pos_0 ≤ 2000) (kz_0_12 : 0 ≤ kind_0 ∧ kind_0 ≤ 4) (ex2 : gx = x3) : (1 ≤ fault_0) ∨ ((kind_0 = 0) ∨ ((gx + 1) ≤ pos_0)) := by
  first
    | omega
    | (have q1 := (hE_0_2_1 (r_0 + 2) (by omega)).2 (by omega)
       have q2 := (hE_0_2_2 (r_0 + 2) (by omega)).2 (by omega)
       omega)
    | (have q1 := (hE_0_2_1 (r_0 + 1) (by omega)).2 (by omega)
       have q2 := (hE_0_2_2 (r_0 + 1) (by omega)).2 (by omega)
       omega)
    | (have q1 := (hE_0_2_1 (r_0 + 2) (by omega)).2 (by omega)
       omega)
    | (have q1 := (hE_0_2_1 (r_0 + 1) (by omega)).2 (by omega)
       omega)
    | (have q1 := (hE_0_2_1 (r_0 + 2) (by omega)).2 (by omega)
       have q2 := (hE_0_2_2 (r_0 + 2) (by omega)).2 (by omega)
       have q3 := (hE_0_2_3 (r_0 + 2) (by omega)).1 (by omega)
       omega)
    | (have q1 := (hE_0_2_1 (r_0 + 2) (by omega)).2 (by omega)
       have q2 := (hE_0_2_2 (r_0 + 2) (by omega)).2 (by omega)
       have q3 := (hE_0_2_3 (r_0 + 2) (by omega)).2 (by omega)
       omega)
def o_Mo_item_at_k4_9 : or_T := (64, 18, [(0, (2, 0, 0, [165])), (1, (0, 0, 7, [])), (3, (0, 0, 2000, [])), (6, (0, 0, 2000, [])), (8, (0, 0, 2000, [])), (10, (0, -1, 23, [])), (12, (0, 99, 99, [])), (13, (0, 0, 2000, [])), (14, (0, -1, 48, [])), (15, (0, -2147483648, 0, [])), (16, (0, 0, 0, []))], [(8, [15], [5]), (8, [16], [0]), (9, [16, 0], [8]), (23, [13, 3], [0, 1, -1]), (23, [13, 3], [0, -1, 1]), (23, [14, 10], [0, 1, -1]), (23, [14, 10], [0, -1, 1]), (23, [8, 3], [0, 1, -1]), (23, [8, 3], [0, -1, 1]), (23, [6, 3], [0, 1, -1]), (23, [6, 3], [0, -1, 1]), (20, [1, 0], [50, 1, 1, 1005, 1002, 0, 6, 4, 2, 1, 0, 0, 1, 3, 1, 2, 4, 3, 2, 1, 5, 0, 2]), (20, [0], [60, 1, 3, 199, 5, 2, 3, 4]), (20, [0, 0], [30, 0, 1, 1, 15, -1, 1, 11]), (20, [0], [50, 3, 0, 12, 11, 15, 2, 21, 4, 7, 1, 3, 2, 0, 12, 0, 1, 0, 3, 2, 0, 11, 4, 3, 2, 0, 15, 0, 8, 3, 7, 1, 3, 2, 0, 12, 0, 0, 0, 7, 4, 3, 2, 0, 15, 0, 1, 2, 0, 11]), (20, [13, 0], [30, 0, 1, 0, 0, -1, 1, 11]), (20, [0, 13], [50, 3, 0, 8, 12, 11, 3, 7, 0, 2, 0, 1, 2, 0, 8, 3, 7, 1, 3, 2, 0, 12, 0, 0, 0, 6, 4, 2, 1, 1, 0, 1, 2, 0, 11]), (20, [0, 14], [50, 1, 0, 8, 3, 7, 0, 2, 0, 1, 2, 0, 8, 0, 2, 0, 0, 1, 1]), (20, [15, 12], [30, 0, 1, 0, 0, -1, 0, 0]), (20, [15], [30, 0, -1, 0, 0]), (102, [14], [0, 165008, 165009, 165011, 165012, 165013, 165014, 165015]), (23, [13, 3], [0, 1, -1]), (23, [13, 3], [0, -1, 1]), (23, [14, 10], [0, 1, -1]), (23, [14, 10], [0, -1, 1]), (23, [8, 3], [0, 1, -1]), (23, [8, 3], [0, -1, 1]), (23, [6, 3], [0, 1, -1]), (23, [6, 3], [0, -1, 1]), (102, [9], [187072209578355573530071658587684226515959365500928, 165008, 165009, 165011, 165012, 165013, 165014, 165015]), (23, [8, 3], [0, 1, -1]), (23, [8, 3], [0, -1, 1]), (23, [6, 3], [0, 1, -1]), (23, [6, 3], [0, -1, 1]), (102, [6], [0, 165011, 165012, 165013, 165014, 165015]), (23, [6, 3], [0, 1, -1]), (23, [6, 3], [0, -1, 1])], [], [(0, 0, 2000, [])], [(23, [18, 3], [0, 1, -1]), (23, [18, 3], [0, -1, 1]), (20, [0, 0], [30, 0, 1, 1, 15, -1, 1, 11]), (20, [0], [50, 3, 0, 12, 11, 15, 2, 21, 4, 7, 1, 3, 2, 0, 12, 0, 1, 0, 3, 2, 0, 11, 4, 3, 2, 0, 15, 0, 8, 3, 7, 1, 3, 2, 0, 12, 0, 0, 0, 7, 4, 3, 2, 0, 15, 0, 1, 2, 0, 11]), (20, [18, 0], [30, 0, 1, 0, 0, -1, 1, 11]), (20, [0, 18], [50, 3, 0, 8, 12, 11, 3, 7, 0, 2, 0, 1, 2, 0, 8, 3, 7, 1, 3, 2, 0, 12, 0, 0, 0, 6, 4, 2, 1, 1, 0, 1, 2, 0, 11])], [], [])
theorem oo_Mo_item_at_k4_9 {kA : Nat → ClassId} : or_ok PRD kA GG o_Mo_item_at_k4_9 := by
  refine or_mk fun A ta ws vs hD hth hl => ?_
  intro t0 r0 t1 k1 t3 k3 t6 k6 t8 k8 t10 k10 t12 k12 t13 k13 t14 k14 t15 k15 t16 k16 f0 f1 f2 f3 f4 f5 f6 f7 f8 f9 f10 f11 f12 f13 f14 f15 f16 f17 f18 f19 ta1 w1 le1 s1 f21 f22 f23 f24 f25 f26 f27 f28 ta2 w2 le2 s2 f30 f31 f32 f33 ta3 w3 le3 s3 f35 f36
  replace f2 := shm_143 f2
  replace f3 := shm_7 f3
  replace f4 := shm_22 f4
  replace f13 := shm_1397 f13
  replace f14 := shm_1398 f14
  replace f15 := shm_1395 f15
  replace f16 := shm_1660 f16
  replace f17 := shm_1889 f17
  have g2 : v_iv (n_v vs 16) = w_fi ws (n_v vs 0) 8 := congrArg v_iv f2
  have kz_0_8 := fdq_14 hD hth r0
  have kz_0_11 := fdq_273 hD hth r0
  have kz_0_12 := fdq_186 hD hth r0
  have kz_0_15 := fdq_274 hD hth r0
  obtain ⟨x, ex, hx⟩ := iv_ex (ta := ta) (lo := 0) (hi := 2000) (z := v_iv (n_v vs 3)) (by omega) (by omega) (by omega) (by omega)
  have ex2 : v_iv (Value.int x) = v_iv (n_v vs 3) := ex
  have ex3 : 0 ≤ v_iv (Value.int x) ∧ v_iv (Value.int x) ≤ 2000 := tv_rng hx
  have e_0 : n_v (vs ++ [Value.int x]) 0 = n_v vs 0 := n_v_old (by rw [hl]; decide)
  have e_3 : n_v (vs ++ [Value.int x]) 3 = n_v vs 3 := n_v_old (by rw [hl]; decide)
  have e_18 : n_v (vs ++ [Value.int x]) 18 = Value.int x := n_v_new hl
  have nf0 : fc_1 PRD (23, [18, 3], [0, 1, -1]) ws (vs ++ [Value.int x]) := by
    refine ⟨nf_inA hl rfl, sgq_7 ?_⟩
    · show 1 * v_iv (n_v (vs ++ [Value.int x]) 18) + ((-1) * v_iv (n_v (vs ++ [Value.int x]) 3) + 0) ≤ 0
      simp only [e_3, e_18]
      exact vc_Mo_item_at_k4_9_0 (v_iv (n_v vs 3)) (v_iv (n_v vs 13)) (w_fi ws (n_v vs 0) 5) (v_iv (Value.int x)) k3 k13 f3 f4 ex2
  have nf1 : fc_1 PRD (23, [18, 3], [0, -1, 1]) ws (vs ++ [Value.int x]) := by
    refine ⟨nf_inA hl rfl, sgq_22 ?_⟩
    · show (-1) * v_iv (n_v (vs ++ [Value.int x]) 18) + (1 * v_iv (n_v (vs ++ [Value.int x]) 3) + 0) ≤ 0
      simp only [e_3, e_18]
      exact vc_Mo_item_at_k4_9_1 (v_iv (n_v vs 3)) (v_iv (n_v vs 13)) (w_fi ws (n_v vs 0) 5) (v_iv (Value.int x)) k3 k13 f3 f4 ex2
  have nf2 : fc_1 PRD (20, [0, 0], [30, 0, 1, 1, 15, -1, 1, 11]) ws (vs ++ [Value.int x]) := by
    refine ⟨nf_inA hl rfl, sgq_1397 ?_⟩
    · show 1 * w_fi ws (n_v (vs ++ [Value.int x]) 0) 15 + ((-1) * w_fi ws (n_v (vs ++ [Value.int x]) 0) 11 + 0) ≤ 0
      rw [e_0]
      exact vc_Mo_item_at_k4_9_2 (w_fi ws (n_v vs 0) 5) (w_fi ws (n_v vs 0) 15) (w_fi ws (n_v vs 0) 11) f13 kz_0_11 kz_0_15
  have nf3 : fc_1 PRD (20, [0], [50, 3, 0, 12, 11, 15, 2, 21, 4, 7, 1, 3, 2, 0, 12, 0, 1, 0, 3, 2, 0, 11, 4, 3, 2, 0, 15, 0, 8, 3, 7, 1, 3, 2, 0, 12, 0, 0, 0, 7, 4, 3, 2, 0, 15, 0, 1, 2, 0, 11]) ws (vs ++ [Value.int x]) := by
    refine ⟨nf_inA hl rfl, sgq_1398 ?_⟩
    · show ((w_fi ws (n_v (vs ++ [Value.int x]) 0) 12 = 1) → (w_fi ws (n_v (vs ++ [Value.int x]) 0) 11 ≤ (w_fi ws (n_v (vs ++ [Value.int x]) 0) 15 + 8))) ∧ ((w_fi ws (n_v (vs ++ [Value.int x]) 0) 12 = 0) ∨ ((w_fi ws (n_v (vs ++ [Value.int x]) 0) 15 + 1) ≤ w_fi ws (n_v (vs ++ [Value.int x]) 0) 11))
      rw [e_0]
      exact vc_Mo_item_at_k4_9_3 (w_fi ws (n_v vs 0) 5) (w_fi ws (n_v vs 0) 15) (w_fi ws (n_v vs 0) 11) (w_fi ws (n_v vs 0) 12) f14 kz_0_11 kz_0_12 kz_0_15
  have nf4 : fc_1 PRD (20, [18, 0], [30, 0, 1, 0, 0, -1, 1, 11]) ws (vs ++ [Value.int x]) := by
    refine ⟨nf_inA hl rfl, sgq_1395 ?_⟩
    · show 1 * v_iv (n_v (vs ++ [Value.int x]) 18) + ((-1) * w_fi ws (n_v (vs ++ [Value.int x]) 0) 11 + 0) ≤ 0
      simp only [e_0, e_18]
      exact vc_Mo_item_at_k4_9_4 (v_iv (n_v vs 3)) (v_iv (n_v vs 13)) (w_fi ws (n_v vs 0) 5) (w_fi ws (n_v vs 0) 11) (v_iv (Value.int x)) k3 k13 f3 f4 f15 kz_0_11 ex2
  have nf5 : fc_1 PRD (20, [0, 18], [50, 3, 0, 8, 12, 11, 3, 7, 0, 2, 0, 1, 2, 0, 8, 3, 7, 1, 3, 2, 0, 12, 0, 0, 0, 6, 4, 2, 1, 1, 0, 1, 2, 0, 11]) ws (vs ++ [Value.int x]) := by
    refine ⟨nf_inA hl rfl, sgq_1660 ?_⟩
    · show (1 ≤ w_fi ws (n_v (vs ++ [Value.int x]) 0) 8) ∨ ((w_fi ws (n_v (vs ++ [Value.int x]) 0) 12 = 0) ∨ ((v_iv (n_v (vs ++ [Value.int x]) 18) + 1) ≤ w_fi ws (n_v (vs ++ [Value.int x]) 0) 11))
      simp only [e_0, e_18]
      exact vc_Mo_item_at_k4_9_5 (v_iv (n_v vs 3)) (v_iv (n_v vs 13)) (v_iv (n_v vs 14)) (v_iv (n_v vs 16)) (w_fi ws (n_v vs 0) 8) (w_fi ws (n_v vs 0) 5) (w_fi ws (n_v vs 0) 11) (w_fi ws (n_v vs 0) 12) (v_iv (Value.int x)) k3 k13 k14 k16 g2 f3 f4 f15 f16 f17 kz_0_8 kz_0_11 kz_0_12 ex2
  exact ⟨(fun _ h => (by cases h)), [Value.int x], ag_one hx, List.forall_mem_cons.mpr ⟨⟨show (23 : Nat) < 100 from by decide, nf0⟩, List.forall_mem_cons.mpr ⟨⟨show (23 : Nat) < 100 from by decide, nf1⟩, List.forall_mem_cons.mpr ⟨⟨show (20 : Nat) < 100 from by decide, nf2⟩, List.forall_mem_cons.mpr ⟨⟨show (20 : Nat) < 100 from by decide, nf3⟩, List.forall_mem_cons.mpr ⟨⟨show (20 : Nat) < 100 from by decide, nf4⟩, List.forall_mem_cons.mpr ⟨⟨show (20 : Nat) < 100 from by decide, nf5⟩, (fun _ h => (by cases h))⟩⟩⟩⟩⟩⟩, (fun _ h => (by cases h))⟩
set_option maxHeartbeats 4000000 in
theorem vc_Mo_item_at_k4_10_0 (x3 : Int) (x18 : Int) (r_0 : Int) (pos_0 : Int) (k3 : 0 ≤ x3 ∧ x3 ≤ 2000) (k18 : 0 ≤ x18 ∧ x18 ≤ 2000) (f0 : 1 * x18 + ((-1) * x3 + 0) ≤ 0) (f1 : (-1) * x18 + (1 * x3 + 0) ≤ 0) (f14 : 1 * x18 + ((-1) * pos_0 + 0) ≤ 0) (kz_0_11 : 0 ≤ pos_0 ∧ pos_0 ≤ 2000) : 1 * x3 + ((-1) * pos_0 + 0) ≤ 0 := by
  first
    | omega
    | (have q1 := (hE_0_2_1 (r_0 + 2) (by omega)).2 (by omega)
       have q2 := (hE_0_2_2 (r_0 + 2) (by omega)).2 (by omega)
       omega)
    | (have q1 := (hE_0_2_1 (r_0 + 1) (by omega)).2 (by omega)
       have q2 := (hE_0_2_2 (r_0 + 1) (by omega)).2 (by omega)
       omega)
    | (have q1 := (hE_0_2_1 (r_0 + 2) (by omega)).2 (by omega)
       omega)
    | (have q1 := (hE_0_2_1 (r_0 + 1) (by omega)).2 (by omega)
       omega)
    | (have q1 := (hE_0_2_1 (r_0 + 2) (by omega)).2 (by omega)
       have q2 := (hE_0_2_2 (r_0 + 2) (by omega)).2 (by omega)
       have q3 := (hE_0_2_3 (r_0 + 2) (by omega)).1 (by omega)
       omega)
    | (have q1 := (hE_0_2_1 (r_0 + 2) (by omega)).2 (by omega)
       have q2 := (hE_0_2_2 (r_0 + 2) (by omega)).2 (by omega)
       have q3 := (hE_0_2_3 (r_0 + 2) (by omega)).2 (by omega)
       omega)
set_option maxHeartbeats 4000000 in
theorem vc_Mo_item_at_k4_10_1 (x3 : Int) (x18 : Int) (r_0 : Int) (pos_0 : Int) (fault_0 : Int) (k3 : 0 ≤ x3 ∧ x3 ≤ 2000) (k18 : 0 ≤ x18 ∧ x18 ≤ 2000) (f0 : 1 * x18 + ((-1) * x3 + 0) ≤ 0) (f1 : (-1) * x18 + (1 * x3 + 0) ≤ 0) (f14 : 1 * x18 + ((-1) * pos_0 + 0) ≤ 0) (f15 : (1 ≤ fault_0) ∨ ((x18 + 1) ≤ pos_0)) (kz_0_8 : 0 ≤ fault_0 ∧ fault_0 ≤ 5) (kz_0_11 : 0 ≤ pos_0 ∧ pos_0 ≤ 2000) : (1 ≤ fault_0) ∨ ((x3 + 1) ≤ pos_0) := by
  first
    | omega
    | (have q1 := (hE_0_2_1 (r_0 + 2) (by omega)).2 (by omega)
       have q2 := (hE_0_2_2 (r_0 + 2) (by omega)).2 (by omega)
       omega)
    | (have q1 := (hE_0_2_1 (r_0 + 1) (by omega)).2 (by omega)
       have q2 := (hE_0_2_2 (r_0 + 1) (by omega)).2 (by omega)
       omega)
    | (have q1 := (hE_0_2_1 (r_0 + 2) (by omega)).2 (by omega)
       omega)
    | (have q1 := (hE_0_2_1 (r_0 + 1) (by omega)).2 (by omega)
       omega)
    | (have q1 := (hE_0_2_1 (r_0 + 2) (by omega)).2 (by omega)
       have q2 := (hE_0_2_2 (r_0 + 2) (by omega)).2 (by omega)
       have q3 := (hE_0_2_3 (r_0 + 2) (by omega)).1 (by omega)
       omega)
    | (have q1 := (hE_0_2_1 (r_0 + 2) (by omega)).2 (by omega)
       have q2 := (hE_0_2_2 (r_0 + 2) (by omega)).2 (by omega)
       have q3 := (hE_0_2_3 (r_0 + 2) (by omega)).2 (by omega)
       omega)
def o_Mo_item_at_k4_10 : or_T := (94, 19, [(0, (2, 0, 0, [165])), (1, (0, 0, 7, [])), (3, (0, 0, 2000, [])), (6, (0, 0, 2000, [])), (8, (0, 0, 2000, [])), (12, (0, 99, 99, [])), (13, (0, 0, 2000, [])), (15, (0, -2147483648, 0, [])), (18, (0, 0, 2000, []))], [(23, [18, 3], [0, 1, -1]), (23, [18, 3], [0, -1, 1]), (23, [13, 3], [0, 1, -1]), (23, [13, 3], [0, -1, 1]), (23, [8, 3], [0, 1, -1]), (23, [8, 3], [0, -1, 1]), (23, [6, 3], [0, 1, -1]), (23, [6, 3], [0, -1, 1]), (20, [1, 0], [50, 1, 1, 1005, 1002, 0, 6, 4, 2, 1, 0, 0, 1, 3, 1, 2, 4, 3, 2, 1, 5, 0, 2]), (20, [0], [60, 1, 3, 199, 5, 2, 3, 4]), (20, [15, 12], [30, 0, 1, 0, 0, -1, 0, 0]), (20, [15], [30, 0, -1, 0, 0]), (20, [0, 0], [30, 0, 1, 1, 15, -1, 1, 11]), (20, [0], [50, 3, 0, 12, 11, 15, 2, 21, 4, 7, 1, 3, 2, 0, 12, 0, 1, 0, 3, 2, 0, 11, 4, 3, 2, 0, 15, 0, 8, 3, 7, 1, 3, 2, 0, 12, 0, 0, 0, 7, 4, 3, 2, 0, 15, 0, 1, 2, 0, 11]), (20, [18, 0], [30, 0, 1, 0, 0, -1, 1, 11]), (20, [0, 18], [50, 2, 0, 8, 11, 3, 7, 0, 2, 0, 1, 2, 0, 8, 0, 6, 4, 2, 1, 1, 0, 1, 2, 0, 11]), (102, [18], [0, 165008, 165009, 165011, 165012, 165013, 165014, 165015]), (23, [18, 3], [0, 1, -1]), (23, [18, 3], [0, -1, 1]), (8, [15], [5]), (23, [13, 3], [0, 1, -1]), (23, [13, 3], [0, -1, 1]), (23, [8, 3], [0, 1, -1]), (23, [8, 3], [0, -1, 1]), (23, [6, 3], [0, 1, -1]), (23, [6, 3], [0, -1, 1]), (102, [14], [0, 165008, 165009, 165011, 165012, 165013, 165014, 165015]), (23, [13, 3], [0, 1, -1]), (23, [13, 3], [0, -1, 1]), (23, [8, 3], [0, 1, -1]), (23, [8, 3], [0, -1, 1]), (23, [6, 3], [0, 1, -1]), (23, [6, 3], [0, -1, 1]), (102, [9], [187072209578355573530071658587684226515959365500928, 165008, 165009, 165011, 165012, 165013, 165014, 165015]), (23, [8, 3], [0, 1, -1]), (23, [8, 3], [0, -1, 1]), (23, [6, 3], [0, 1, -1]), (23, [6, 3], [0, -1, 1]), (102, [6], [0, 165011, 165012, 165013, 165014, 165015]), (23, [6, 3], [0, 1, -1]), (23, [6, 3], [0, -1, 1])], [], [], [(20, [3, 0], [30, 0, 1, 0, 0, -1, 1, 11]), (20, [0, 3], [50, 2, 0, 8, 11, 3, 7, 0, 2, 0, 1, 2, 0, 8, 0, 6, 4, 2, 1, 1, 0, 1, 2, 0, 11])], [], [])
theorem oo_Mo_item_at_k4_10 {kA : Nat → ClassId} : or_ok PRD kA GG o_Mo_item_at_k4_10 := by
  refine or_mk fun A ta ws vs hD hth hl => ?_
  intro t0 r0 t1 k1 t3 k3 t6 k6 t8 k8 t12 k12 t13 k13 t15 k15 t18 k18 f0 f1 f2 f3 f4 f5 f6 f7 f8 f9 f10 f11 f12 f13 f14 f15 ta1 w1 le1 s1 f17 f18 f19 f20 f21 f22 f23 f24 f25 ta2 w2 le2 s2 f27 f28 f29 f30 f31 f32 ta3 w3 le3 s3 f34 f35 f36 f37 ta4 w4 le4 s4 f39 f40
  have kz_0_8 := fdq_14 hD hth r0
  have kz_0_11 := fdq_273 hD hth r0
  have nf0 : fc_1 PRD (20, [3, 0], [30, 0, 1, 0, 0, -1, 1, 11]) ws (vs) := ⟨nf_in hl rfl, sgq_1395 (vc_Mo_item_at_k4_10_0 (v_iv (n_v vs 3)) (v_iv (n_v vs 18)) (w_fi ws (n_v vs 0) 5) (w_fi ws (n_v vs 0) 11) k3 k18 (shm_7 f0) (shm_22 f1) (shm_1395 f14) kz_0_11)⟩
  have nf1 : fc_1 PRD (20, [0, 3], [50, 2, 0, 8, 11, 3, 7, 0, 2, 0, 1, 2, 0, 8, 0, 6, 4, 2, 1, 1, 0, 1, 2, 0, 11]) ws (vs) := ⟨nf_in hl rfl, sgq_1659 (vc_Mo_item_at_k4_10_1 (v_iv (n_v vs 3)) (v_iv (n_v vs 18)) (w_fi ws (n_v vs 0) 5) (w_fi ws (n_v vs 0) 11) (w_fi ws (n_v vs 0) 8) k3 k18 (shm_7 f0) (shm_22 f1) (shm_1395 f14) (shm_1659 f15) kz_0_8 kz_0_11)⟩
  refine ⟨(fun _ h => (by cases h)), [], trivial, ?_, (fun _ h => (by cases h))⟩
  rw [List.append_nil]
  exact List.forall_mem_cons.mpr ⟨⟨show (20 : Nat) < 100 from by decide, nf0⟩, List.forall_mem_cons.mpr ⟨⟨show (20 : Nat) < 100 from by decide, nf1⟩, (fun _ h => (by cases h))⟩⟩
set_option maxHeartbeats 4000000 in
theorem vc_Mo_item_at_k4_11_r0 (x10 : Int) (x14 : Int) (x16 : Int) (r_0 : Int) (fault_0 : Int) (k10 : (-1) ≤ x10 ∧ x10 ≤ 23) (k14 : (-1) ≤ x14 ∧ x14 ≤ 48) (k16 : 0 ≤ x16 ∧ x16 ≤ 0) (g5 : x16 = fault_0) (f8 : 1 * x14 + ((-1) * x10 + 0) ≤ 0) (f9 : (-1) * x14 + (1 * x10 + 0) ≤ 0) (f20 : (1 ≤ fault_0) ∨ (0 ≤ x14)) (kz_0_8 : 0 ≤ fault_0 ∧ fault_0 ≤ 5) : 0 ≤ x10 ∧ x10 ≤ 23 := by
  first
    | omega
    | (have q1 := (hE_0_2_1 (r_0 + 2) (by omega)).2 (by omega)
       have q2 := (hE_0_2_2 (r_0 + 2) (by omega)).2 (by omega)
       omega)
    | (have q1 := (hE_0_2_1 (r_0 + 1) (by omega)).2 (by omega)
       have q2 := (hE_0_2_2 (r_0 + 1) (by omega)).2 (by omega)
       omega)
    | (have q1 := (hE_0_2_1 (r_0 + 2) (by omega)).2 (by omega)
       omega)
    | (have q1 := (hE_0_2_1 (r_0 + 1) (by omega)).2 (by omega)
       omega)
    | (have q1 := (hE_0_2_1 (r_0 + 2) (by omega)).2 (by omega)
       have q2 := (hE_0_2_2 (r_0 + 2) (by omega)).2 (by omega)
       have q3 := (hE_0_2_3 (r_0 + 2) (by omega)).1 (by omega)
       omega)
    | (have q1 := (hE_0_2_1 (r_0 + 2) (by omega)).2 (by omega)
       have q2 := (hE_0_2_2 (r_0 + 2) (by omega)).2 (by omega)
       have q3 := (hE_0_2_3 (r_0 + 2) (by omega)).2 (by omega)
       omega)
def o_Mo_item_at_k4_11 : or_T := (57, 21, [(0, (2, 0, 0, [165])), (1, (0, 0, 7, [])), (3, (0, 0, 2000, [])), (6, (0, 0, 2000, [])), (8, (0, 0, 2000, [])), (10, (0, -1, 23, [])), (12, (0, 99, 99, [])), (13, (0, 0, 2000, [])), (14, (0, -1, 48, [])), (15, (0, 1, 2147483647, [])), (16, (0, 0, 0, [])), (17, (2, 0, 0, [167])), (18, (0, 0, 66297, [])), (19, (0, 219, 219, [])), (20, (0, 219, 66516, []))], [(1, [20, 18, 19], []), (9, [18, 0], [5]), (9, [17, 0], [2]), (8, [15], [4]), (8, [16], [0]), (9, [16, 0], [8]), (23, [13, 3], [0, 1, -1]), (23, [13, 3], [0, -1, 1]), (23, [14, 10], [0, 1, -1]), (23, [14, 10], [0, -1, 1]), (23, [8, 3], [0, 1, -1]), (23, [8, 3], [0, -1, 1]), (23, [6, 3], [0, 1, -1]), (23, [6, 3], [0, -1, 1]), (20, [1, 0], [50, 1, 1, 1005, 1002, 0, 6, 4, 2, 1, 0, 0, 1, 3, 1, 2, 4, 3, 2, 1, 5, 0, 2]), (20, [0], [60, 1, 3, 199, 5, 2, 3, 4]), (20, [0, 0], [30, 0, 1, 1, 15, -1, 1, 11]), (20, [0], [50, 3, 0, 12, 11, 15, 2, 21, 4, 7, 1, 3, 2, 0, 12, 0, 1, 0, 3, 2, 0, 11, 4, 3, 2, 0, 15, 0, 8, 3, 7, 1, 3, 2, 0, 12, 0, 0, 0, 7, 4, 3, 2, 0, 15, 0, 1, 2, 0, 11]), (20, [13, 0], [30, 0, 1, 0, 0, -1, 1, 11]), (20, [0, 13], [50, 3, 0, 8, 12, 11, 3, 7, 0, 2, 0, 1, 2, 0, 8, 3, 7, 1, 3, 2, 0, 12, 0, 0, 0, 6, 4, 2, 1, 1, 0, 1, 2, 0, 11]), (20, [0, 14], [50, 1, 0, 8, 3, 7, 0, 2, 0, 1, 2, 0, 8, 0, 2, 0, 0, 1, 1]), (20, [15, 12], [30, 0, 1, 0, 0, -1, 0, 0]), (20, [15], [30, 0, -1, 0, 0]), (102, [14], [0, 165008, 165009, 165011, 165012, 165013, 165014, 165015]), (23, [13, 3], [0, 1, -1]), (23, [13, 3], [0, -1, 1]), (23, [14, 10], [0, 1, -1]), (23, [14, 10], [0, -1, 1]), (23, [8, 3], [0, 1, -1]), (23, [8, 3], [0, -1, 1]), (23, [6, 3], [0, 1, -1]), (23, [6, 3], [0, -1, 1]), (102, [9], [187072209578355573530071658587684226515959365500928, 165008, 165009, 165011, 165012, 165013, 165014, 165015]), (23, [8, 3], [0, 1, -1]), (23, [8, 3], [0, -1, 1]), (23, [6, 3], [0, 1, -1]), (23, [6, 3], [0, -1, 1]), (102, [6], [0, 165011, 165012, 165013, 165014, 165015]), (23, [6, 3], [0, 1, -1]), (23, [6, 3], [0, -1, 1])], [(10, (0, 0, 23, []))], [], [], [], [(20, 18, 219, 219)])
theorem oo_Mo_item_at_k4_11 {kA : Nat → ClassId} : or_ok PRD kA GG o_Mo_item_at_k4_11 := by
  refine or_mk fun A ta ws vs hD hth hl => ?_
  intro t0 r0 t1 k1 t3 k3 t6 k6 t8 k8 t10 k10 t12 k12 t13 k13 t14 k14 t15 k15 t16 k16 t17 r17 t18 k18 t19 k19 t20 k20 d0 f0 f1 f2 f3 f4 f5 f6 f7 f8 f9 f10 f11 f12 f13 f14 f15 f16 f17 f18 f19 f20 f21 f22 ta1 w1 le1 s1 f24 f25 f26 f27 f28 f29 f30 f31 ta2 w2 le2 s2 f33 f34 f35 f36 ta3 w3 le3 s3 f38 f39
  replace f5 := shm_143 f5
  have g5 : v_iv (n_v vs 16) = w_fi ws (n_v vs 0) 8 := congrArg v_iv f5
  have kz_0_8 := fdq_14 hD hth r0
  have hrf0 : 0 ≤ v_iv (n_v vs 10) ∧ v_iv (n_v vs 10) ≤ 23 := vc_Mo_item_at_k4_11_r0 (v_iv (n_v vs 10)) (v_iv (n_v vs 14)) (v_iv (n_v vs 16)) (w_fi ws (n_v vs 0) 5) (w_fi ws (n_v vs 0) 8) k10 k14 k16 g5 (shm_7 f8) (shm_22 f9) (shm_1889 f20) kz_0_8
  have rf10 : tv_ok ta (0, 0, 23, []) (n_v vs 10) := tv_in t10 (by first | omega | grind) (by first | omega | grind)
  refine ⟨List.forall_mem_cons.mpr ⟨rf10, (fun _ h => (by cases h))⟩, [], trivial, ?_, (fun _ h => (by cases h))⟩
  rw [List.append_nil]
  exact (fun _ h => (by cases h))
set_option maxHeartbeats 4000000 in
theorem vc_Mo_item_at_k4_12_r0 (x12 : Int) (x15 : Int) (r_0 : Int) (k12 : 99 ≤ x12 ∧ x12 ≤ 99) (k15 : 1 ≤ x15 ∧ x15 ≤ 2147483647) (f22 : 1 * x15 + ((-1) * x12 + 0) ≤ 0) : 1 ≤ x15 ∧ x15 ≤ 99 := by
  first
    | omega
    | (have q1 := (hE_0_2_1 (r_0 + 2) (by omega)).2 (by omega)
       have q2 := (hE_0_2_2 (r_0 + 2) (by omega)).2 (by omega)
       omega)
    | (have q1 := (hE_0_2_1 (r_0 + 1) (by omega)).2 (by omega)
       have q2 := (hE_0_2_2 (r_0 + 1) (by omega)).2 (by omega)
       omega)
    | (have q1 := (hE_0_2_1 (r_0 + 2) (by omega)).2 (by omega)
       omega)
    | (have q1 := (hE_0_2_1 (r_0 + 1) (by omega)).2 (by omega)
       omega)
    | (have q1 := (hE_0_2_1 (r_0 + 2) (by omega)).2 (by omega)
       have q2 := (hE_0_2_2 (r_0 + 2) (by omega)).2 (by omega)
       have q3 := (hE_0_2_3 (r_0 + 2) (by omega)).1 (by omega)
       omega)
    | (have q1 := (hE_0_2_1 (r_0 + 2) (by omega)).2 (by omega)
       have q2 := (hE_0_2_2 (r_0 + 2) (by omega)).2 (by omega)
       have q3 := (hE_0_2_3 (r_0 + 2) (by omega)).2 (by omega)
       omega)
def o_Mo_item_at_k4_12 : or_T := (60, 22, [(0, (2, 0, 0, [165])), (1, (0, 0, 7, [])), (3, (0, 0, 2000, [])), (6, (0, 0, 2000, [])), (8, (0, 0, 2000, [])), (10, (0, 0, 23, [])), (12, (0, 99, 99, [])), (13, (0, 0, 2000, [])), (14, (0, -1, 48, [])), (15, (0, 1, 2147483647, [])), (16, (0, 0, 0, [])), (17, (2, 0, 0, [167])), (18, (0, 0, 66297, [])), (19, (0, 219, 219, [])), (20, (0, 219, 66516, [])), (21, (0, 219, 66539, []))], [(1, [21, 20, 10], []), (1, [20, 18, 19], []), (9, [18, 0], [5]), (9, [17, 0], [2]), (8, [15], [4]), (8, [16], [0]), (9, [16, 0], [8]), (23, [13, 3], [0, 1, -1]), (23, [13, 3], [0, -1, 1]), (23, [14, 10], [0, 1, -1]), (23, [14, 10], [0, -1, 1]), (23, [8, 3], [0, 1, -1]), (23, [8, 3], [0, -1, 1]), (23, [6, 3], [0, 1, -1]), (23, [6, 3], [0, -1, 1]), (20, [1, 0], [50, 1, 1, 1005, 1002, 0, 6, 4, 2, 1, 0, 0, 1, 3, 1, 2, 4, 3, 2, 1, 5, 0, 2]), (20, [0], [60, 1, 3, 199, 5, 2, 3, 4]), (20, [0, 0], [30, 0, 1, 1, 15, -1, 1, 11]), (20, [0], [50, 3, 0, 12, 11, 15, 2, 21, 4, 7, 1, 3, 2, 0, 12, 0, 1, 0, 3, 2, 0, 11, 4, 3, 2, 0, 15, 0, 8, 3, 7, 1, 3, 2, 0, 12, 0, 0, 0, 7, 4, 3, 2, 0, 15, 0, 1, 2, 0, 11]), (20, [13, 0], [30, 0, 1, 0, 0, -1, 1, 11]), (20, [0, 13], [50, 3, 0, 8, 12, 11, 3, 7, 0, 2, 0, 1, 2, 0, 8, 3, 7, 1, 3, 2, 0, 12, 0, 0, 0, 6, 4, 2, 1, 1, 0, 1, 2, 0, 11]), (20, [0, 14], [50, 1, 0, 8, 3, 7, 0, 2, 0, 1, 2, 0, 8, 0, 2, 0, 0, 1, 1]), (20, [15, 12], [30, 0, 1, 0, 0, -1, 0, 0]), (20, [15], [30, 0, -1, 0, 0]), (102, [14], [0, 165008, 165009, 165011, 165012, 165013, 165014, 165015]), (23, [13, 3], [0, 1, -1]), (23, [13, 3], [0, -1, 1]), (23, [14, 10], [0, 1, -1]), (23, [14, 10], [0, -1, 1]), (23, [8, 3], [0, 1, -1]), (23, [8, 3], [0, -1, 1]), (23, [6, 3], [0, 1, -1]), (23, [6, 3], [0, -1, 1]), (102, [9], [187072209578355573530071658587684226515959365500928, 165008, 165009, 165011, 165012, 165013, 165014, 165015]), (23, [8, 3], [0, 1, -1]), (23, [8, 3], [0, -1, 1]), (23, [6, 3], [0, 1, -1]), (23, [6, 3], [0, -1, 1]), (102, [6], [0, 165011, 165012, 165013, 165014, 165015]), (23, [6, 3], [0, 1, -1]), (23, [6, 3], [0, -1, 1])], [(15, (0, 1, 99, []))], [], [], [], [(21, 10, 219, 66516), (21, 20, 0, 23), (21, 18, 219, 242), (20, 18, 219, 219)])
theorem oo_Mo_item_at_k4_12 {kA : Nat → ClassId} : or_ok PRD kA GG o_Mo_item_at_k4_12 := by
  refine or_mk fun A ta ws vs hD hth hl => ?_
  intro t0 r0 t1 k1 t3 k3 t6 k6 t8 k8 t10 k10 t12 k12 t13 k13 t14 k14 t15 k15 t16 k16 t17 r17 t18 k18 t19 k19 t20 k20 t21 k21 d0 d1 d2 d3 f0 f1 f2 f3 f4 f5 f6 f7 f8 f9 f10 f11 f12 f13 f14 f15 f16 f17 f18 f19 f20 f21 f22 f23 ta1 w1 le1 s1 f25 f26 f27 f28 f29 f30 f31 f32 ta2 w2 le2 s2 f34 f35 f36 f37 ta3 w3 le3 s3 f39 f40
  have hrf0 : 1 ≤ v_iv (n_v vs 15) ∧ v_iv (n_v vs 15) ≤ 99 := vc_Mo_item_at_k4_12_r0 (v_iv (n_v vs 12)) (v_iv (n_v vs 15)) (w_fi ws (n_v vs 0) 5) k12 k15 (shm_219 f22)
  have rf15 : tv_ok ta (0, 1, 99, []) (n_v vs 15) := tv_in t15 (by first | omega | grind) (by first | omega | grind)
  refine ⟨List.forall_mem_cons.mpr ⟨rf15, (fun _ h => (by cases h))⟩, [], trivial, ?_, (fun _ h => (by cases h))⟩
  rw [List.append_nil]
  exact (fun _ h => (by cases h))
set_option maxHeartbeats 4000000 in
theorem vc_Mo_item_at_k4_13_0 (x1 : Int) (x10 : Int) (x14 : Int) (x15 : Int) (x18 : Int) (x20 : Int) (x21 : Int) (from_0 : Int) (pos_0 : Int) (kind_0 : Int) (fault_0 : Int) (r_1 : Int) (fault_1 : Int) (all_1 : Int → Int) (now_1 : Int → Int) (latest_1 : Int → Int) (from_1 : Int) (pos_1 : Int) (kind_1 : Int) (r_0 : Int) (all_0 : Int → Int) (now_0 : Int → Int) (latest_0 : Int → Int) (k1 : 0 ≤ x1 ∧ x1 ≤ 7) (k10 : 0 ≤ x10 ∧ x10 ≤ 23) (k14 : (-1) ≤ x14 ∧ x14 ≤ 48) (k15 : 1 ≤ x15 ∧ x15 ≤ 99) (k18 : 0 ≤ x18 ∧ x18 ≤ 66297) (k20 : 219 ≤ x20 ∧ x20 ≤ 66516) (k21 : 219 ≤ x21 ∧ x21 ≤ 66539) (d0 : x10 + 219 ≤ x21 ∧ x21 ≤ x10 + 66516) (d3 : x18 + 219 ≤ x20 ∧ x20 ≤ x18 + 219) (f2 : 1 * x14 + ((-1) * x10 + 0) ≤ 0) (f3 : (-1) * x14 + (1 * x10 + 0) ≤ 0) (f16 : x21 = x20 + x10) (g18 : x18 = r_1) (f31 : (x1 + 1) ≤ all_1 ((r_1 + 2))) (fe_0_5_1 : r_0 = r_1) (fe_0_8_1 : fault_0 = fault_1) (fe_0_11_1 : pos_0 = pos_1) (fe_0_12_1 : kind_0 = kind_1) (fe_0_15_1 : from_0 = from_1) (hE_0_2_1 : ∀ j : Int, 0 ≤ j → (j = x21 → all_0 j = x15) ∧ (j ≠ x21 → all_0 j = all_1 j)) (hE_0_3_1 : ∀ j : Int, now_0 j = now_1 j) (hE_0_4_1 : ∀ j : Int, latest_0 j = latest_1 j) (kz_0_8 : 0 ≤ fault_0 ∧ fault_0 ≤ 5) (kz_0_11 : 0 ≤ pos_0 ∧ pos_0 ≤ 2000) (kz_0_12 : 0 ≤ kind_0 ∧ kind_0 ≤ 4) (kz_0_15 : 0 ≤ from_0 ∧ from_0 ≤ 2000) : (x1 + 1) ≤ all_0 ((r_0 + 2)) := by
  subst fe_0_5_1
  subst fe_0_8_1
  subst fe_0_11_1
  subst fe_0_12_1
  subst fe_0_15_1
  have e_hE_0_3_1 := funext hE_0_3_1; subst e_hE_0_3_1
  have e_hE_0_4_1 := funext hE_0_4_1; subst e_hE_0_4_1
  first
    | omega
    | (have q1 := (hE_0_2_1 (r_0 + 2) (by omega)).2 (by omega)
       have q2 := (hE_0_2_2 (r_0 + 2) (by omega)).2 (by omega)
       omega)
    | (have q1 := (hE_0_2_1 (r_0 + 1) (by omega)).2 (by omega)
       have q2 := (hE_0_2_2 (r_0 + 1) (by omega)).2 (by omega)
       omega)
    | (have q1 := (hE_0_2_1 (r_0 + 2) (by omega)).2 (by omega)
       omega)
    | (have q1 := (hE_0_2_1 (r_0 + 1) (by omega)).2 (by omega)
       omega)
    | (have q1 := (hE_0_2_1 (r_0 + 2) (by omega)).2 (by omega)
       have q2 := (hE_0_2_2 (r_0 + 2) (by omega)).2 (by omega)
       have q3 := (hE_0_2_3 (r_0 + 2) (by omega)).1 (by omega)
       omega)
    | (have q1 := (hE_0_2_1 (r_0 + 2) (by omega)).2 (by omega)
       have q2 := (hE_0_2_2 (r_0 + 2) (by omega)).2 (by omega)
       have q3 := (hE_0_2_3 (r_0 + 2) (by omega)).2 (by omega)
       omega)
set_option maxHeartbeats 4000000 in
theorem vc_Mo_item_at_k4_13_1 (x10 : Int) (x14 : Int) (x15 : Int) (x18 : Int) (x20 : Int) (x21 : Int) (from_0 : Int) (pos_0 : Int) (kind_0 : Int) (fault_0 : Int) (r_1 : Int) (fault_1 : Int) (all_1 : Int → Int) (now_1 : Int → Int) (latest_1 : Int → Int) (from_1 : Int) (pos_1 : Int) (kind_1 : Int) (r_0 : Int) (all_0 : Int → Int) (now_0 : Int → Int) (latest_0 : Int → Int) (k10 : 0 ≤ x10 ∧ x10 ≤ 23) (k14 : (-1) ≤ x14 ∧ x14 ≤ 48) (k15 : 1 ≤ x15 ∧ x15 ≤ 99) (k18 : 0 ≤ x18 ∧ x18 ≤ 66297) (k20 : 219 ≤ x20 ∧ x20 ≤ 66516) (k21 : 219 ≤ x21 ∧ x21 ≤ 66539) (d3 : x18 + 219 ≤ x20 ∧ x20 ≤ x18 + 219) (f2 : 1 * x14 + ((-1) * x10 + 0) ≤ 0) (f3 : (-1) * x14 + (1 * x10 + 0) ≤ 0) (f16 : x21 = x20 + x10) (g18 : x18 = r_1) (f32 : RWS (r_1) (all_1) (now_1) (latest_1)) (fe_0_5_1 : r_0 = r_1) (fe_0_8_1 : fault_0 = fault_1) (fe_0_11_1 : pos_0 = pos_1) (fe_0_12_1 : kind_0 = kind_1) (fe_0_15_1 : from_0 = from_1) (hE_0_2_1 : ∀ j : Int, 0 ≤ j → (j = x21 → all_0 j = x15) ∧ (j ≠ x21 → all_0 j = all_1 j)) (hE_0_3_1 : ∀ j : Int, now_0 j = now_1 j) (hE_0_4_1 : ∀ j : Int, latest_0 j = latest_1 j) (kz_0_8 : 0 ≤ fault_0 ∧ fault_0 ≤ 5) (kz_0_11 : 0 ≤ pos_0 ∧ pos_0 ≤ 2000) (kz_0_12 : 0 ≤ kind_0 ∧ kind_0 ≤ 4) (kz_0_15 : 0 ≤ from_0 ∧ from_0 ≤ 2000) : RWS (r_0) (all_0) (now_0) (latest_0) := by
  subst fe_0_5_1
  subst fe_0_8_1
  subst fe_0_11_1
  subst fe_0_12_1
  subst fe_0_15_1
  have e_hE_0_3_1 := funext hE_0_3_1; subst e_hE_0_3_1
  have e_hE_0_4_1 := funext hE_0_4_1; subst e_hE_0_4_1
  first
    | assumption
    | (have hr := rws_r ‹RWS _ _ _ _›
       have hc := (rws_sg ‹RWS _ _ _ _›).1
       exact rws_off ‹RWS _ _ _ _› (by assumption) (by omega))
set_option maxHeartbeats 4000000 in
theorem vc_Mo_item_at_k4_13_2 (x3 : Int) (x13 : Int) (x15 : Int) (x21 : Int) (from_0 : Int) (pos_0 : Int) (kind_0 : Int) (fault_0 : Int) (r_1 : Int) (fault_1 : Int) (all_1 : Int → Int) (now_1 : Int → Int) (latest_1 : Int → Int) (from_1 : Int) (pos_1 : Int) (kind_1 : Int) (r_0 : Int) (all_0 : Int → Int) (now_0 : Int → Int) (latest_0 : Int → Int) (gx : Int) (k3 : 0 ≤ x3 ∧ x3 ≤ 2000) (k13 : 0 ≤ x13 ∧ x13 ≤ 2000) (k15 : 1 ≤ x15 ∧ x15 ≤ 99) (k21 : 219 ≤ x21 ∧ x21 ≤ 66539) (f0 : 1 * x13 + ((-1) * x3 + 0) ≤ 0) (f1 : (-1) * x13 + (1 * x3 + 0) ≤ 0) (fe_0_5_1 : r_0 = r_1) (fe_0_8_1 : fault_0 = fault_1) (fe_0_11_1 : pos_0 = pos_1) (fe_0_12_1 : kind_0 = kind_1) (fe_0_15_1 : from_0 = from_1) (hE_0_2_1 : ∀ j : Int, 0 ≤ j → (j = x21 → all_0 j = x15) ∧ (j ≠ x21 → all_0 j = all_1 j)) (hE_0_3_1 : ∀ j : Int, now_0 j = now_1 j) (hE_0_4_1 : ∀ j : Int, latest_0 j = latest_1 j) (kz_0_8 : 0 ≤ fault_0 ∧ fault_0 ≤ 5) (kz_0_11 : 0 ≤ pos_0 ∧ pos_0 ≤ 2000) (kz_0_12 : 0 ≤ kind_0 ∧ kind_0 ≤ 4) (kz_0_15 : 0 ≤ from_0 ∧ from_0 ≤ 2000) (ex2 : gx = x3) : 1 * gx + ((-1) * x3 + 0) ≤ 0 := by
  subst fe_0_5_1
  subst fe_0_8_1
  subst fe_0_11_1
  subst fe_0_12_1
  subst fe_0_15_1
  have e_hE_0_3_1 := funext hE_0_3_1; subst e_hE_0_3_1
  have e_hE_0_4_1 := funext hE_0_4_1; subst e_hE_0_4_1
  first
    | omega
    | (have q1 := (hE_0_2_1 (r_0 + 2) (by omega)).2 (by omega)
       have q2 := (hE_0_2_2 (r_0 + 2) (by omega)).2 (by omega)
       omega)
    | (have q1 := (hE_0_2_1 (r_0 + 1) (by omega)).2 (by omega)
       have q2 := (hE_0_2_2 (r_0 + 1) (by omega)).2 (by omega)
       omega)
    | (have q1 := (hE_0_2_1 (r_0 + 2) (by omega)).2 (by omega)
       omega)
    | (have q1 := (hE_0_2_1 (r_0 + 1) (by omega)).2 (by omega)
       omega)
    | (have q1 := (hE_0_2_1 (r_0 + 2) (by omega)).2 (by omega)
       have q2 := (hE_0_2_2 (r_0 + 2) (by omega)).2 (by omega)
       have q3 := (hE_0_2_3 (r_0 + 2) (by omega)).1 (by omega)
       omega)
    | (have q1 := (hE_0_2_1 (r_0 + 2) (by omega)).2 (by omega)
       have q2 := (hE_0_2_2 (r_0 + 2) (by omega)).2 (by omega)
       have q3 := (hE_0_2_3 (r_0 + 2) (by omega)).2 (by omega)
       omega)
set_option maxHeartbeats 4000000 in
theorem vc_Mo_item_at_k4_13_3 (x3 : Int) (x13 : Int) (x15 : Int) (x21 : Int) (from_0 : Int) (pos_0 : Int) (kind_0 : Int) (fault_0 : Int) (r_1 : Int) (fault_1 : Int) (all_1 : Int → Int) (now_1 : Int → Int) (latest_1 : Int → Int) (from_1 : Int) (pos_1 : Int) (kind_1 : Int) (r_0 : Int) (all_0 : Int → Int) (now_0 : Int → Int) (latest_0 : Int → Int) (gx : Int) (k3 : 0 ≤ x3 ∧ x3 ≤ 2000) (k13 : 0 ≤ x13 ∧ x13 ≤ 2000) (k15 : 1 ≤ x15 ∧ x15 ≤ 99) (k21 : 219 ≤ x21 ∧ x21 ≤ 66539) (f0 : 1 * x13 + ((-1) * x3 + 0) ≤ 0) (f1 : (-1) * x13 + (1 * x3 + 0) ≤ 0) (fe_0_5_1 : r_0 = r_1) (fe_0_8_1 : fault_0 = fault_1) (fe_0_11_1 : pos_0 = pos_1) (fe_0_12_1 : kind_0 = kind_1) (fe_0_15_1 : from_0 = from_1) (hE_0_2_1 : ∀ j : Int, 0 ≤ j → (j = x21 → all_0 j = x15) ∧ (j ≠ x21 → all_0 j = all_1 j)) (hE_0_3_1 : ∀ j : Int, now_0 j = now_1 j) (hE_0_4_1 : ∀ j : Int, latest_0 j = latest_1 j) (kz_0_8 : 0 ≤ fault_0 ∧ fault_0 ≤ 5) (kz_0_11 : 0 ≤ pos_0 ∧ pos_0 ≤ 2000) (kz_0_12 : 0 ≤ kind_0 ∧ kind_0 ≤ 4) (kz_0_15 : 0 ≤ from_0 ∧ from_0 ≤ 2000) (ex2 : gx = x3) : (-1) * gx + (1 * x3 + 0) ≤ 0 := by
  subst fe_0_5_1
  subst fe_0_8_1
  subst fe_0_11_1
  subst fe_0_12_1
  subst fe_0_15_1
  have e_hE_0_3_1 := funext hE_0_3_1; subst e_hE_0_3_1
  have e_hE_0_4_1 := funext hE_0_4_1; subst e_hE_0_4_1
  first
    | omega
    | (have q1 := (hE_0_2_1 (r_0 + 2) (by omega)).2 (by omega)
       have q2 := (hE_0_2_2 (r_0 + 2) (by omega)).2 (by omega)
       omega)
    | (have q1 := (hE_0_2_1 (r_0 + 1) (by omega)).2 (by omega)
       have q2 := (hE_0_2_2 (r_0 + 1) (by omega)).2 (by omega)
       omega)
    | (have q1 := (hE_0_2_1 (r_0 + 2) (by omega)).2 (by omega)
       omega)
    | (have q1 := (hE_0_2_1 (r_0 + 1) (by omega)).2 (by omega)
       omega)
    | (have q1 := (hE_0_2_1 (r_0 + 2) (by omega)).2 (by omega)
       have q2 := (hE_0_2_2 (r_0 + 2) (by omega)).2 (by omega)
       have q3 := (hE_0_2_3 (r_0 + 2) (by omega)).1 (by omega)
       omega)
    | (have q1 := (hE_0_2_1 (r_0 + 2) (by omega)).2 (by omega)
       have q2 := (hE_0_2_2 (r_0 + 2) (by omega)).2 (by omega)
       have q3 := (hE_0_2_3 (r_0 + 2) (by omega)).2 (by omega)
       omega)
set_option maxHeartbeats 4000000 in
theorem vc_Mo_item_at_k4_13_4 (x15 : Int) (x21 : Int) (from_0 : Int) (pos_0 : Int) (kind_0 : Int) (fault_0 : Int) (r_1 : Int) (fault_1 : Int) (all_1 : Int → Int) (now_1 : Int → Int) (latest_1 : Int → Int) (from_1 : Int) (pos_1 : Int) (kind_1 : Int) (r_0 : Int) (all_0 : Int → Int) (now_0 : Int → Int) (latest_0 : Int → Int) (k15 : 1 ≤ x15 ∧ x15 ≤ 99) (k21 : 219 ≤ x21 ∧ x21 ≤ 66539) (f33 : 1 * from_1 + ((-1) * pos_1 + 0) ≤ 0) (fe_0_5_1 : r_0 = r_1) (fe_0_8_1 : fault_0 = fault_1) (fe_0_11_1 : pos_0 = pos_1) (fe_0_12_1 : kind_0 = kind_1) (fe_0_15_1 : from_0 = from_1) (hE_0_2_1 : ∀ j : Int, 0 ≤ j → (j = x21 → all_0 j = x15) ∧ (j ≠ x21 → all_0 j = all_1 j)) (hE_0_3_1 : ∀ j : Int, now_0 j = now_1 j) (hE_0_4_1 : ∀ j : Int, latest_0 j = latest_1 j) (kz_0_8 : 0 ≤ fault_0 ∧ fault_0 ≤ 5) (kz_0_11 : 0 ≤ pos_0 ∧ pos_0 ≤ 2000) (kz_0_12 : 0 ≤ kind_0 ∧ kind_0 ≤ 4) (kz_0_15 : 0 ≤ from_0 ∧ from_0 ≤ 2000) : 1 * from_0 + ((-1) * pos_0 + 0) ≤ 0 := by
  subst fe_0_5_1
  subst fe_0_8_1
  subst fe_0_11_1
  subst fe_0_12_1
  subst fe_0_15_1
  have e_hE_0_3_1 := funext hE_0_3_1; subst e_hE_0_3_1
  have e_hE_0_4_1 := funext hE_0_4_1; subst e_hE_0_4_1
  first
    | omega
    | (have q1 := (hE_0_2_1 (r_0 + 2) (by omega)).2 (by omega)
       have q2 := (hE_0_2_2 (r_0 + 2) (by omega)).2 (by omega)
       omega)
    | (have q1 := (hE_0_2_1 (r_0 + 1) (by omega)).2 (by omega)
       have q2 := (hE_0_2_2 (r_0 + 1) (by omega)).2 (by omega)
       omega)
    | (have q1 := (hE_0_2_1 (r_0 + 2) (by omega)).2 (by omega)
       omega)
    | (have q1 := (hE_0_2_1 (r_0 + 1) (by omega)).2 (by omega)
       omega)
    | (have q1 := (hE_0_2_1 (r_0 + 2) (by omega)).2 (by omega)
       have q2 := (hE_0_2_2 (r_0 + 2) (by omega)).2 (by omega)
       have q3 := (hE_0_2_3 (r_0 + 2) (by omega)).1 (by omega)
       omega)
    | (have q1 := (hE_0_2_1 (r_0 + 2) (by omega)).2 (by omega)
       have q2 := (hE_0_2_2 (r_0 + 2) (by omega)).2 (by omega)
       have q3 := (hE_0_2_3 (r_0 + 2) (by omega)).2 (by omega)
       omega)
set_option maxHeartbeats 4000000 in
theorem vc_Mo_item_at_k4_13_5 (x15 : Int) (x21 : Int) (from_0 : Int) (pos_0 : Int) (kind_0 : Int) (fault_0 : Int) (r_1 : Int) (fault_1 : Int) (all_1 : Int → Int) (now_1 : Int → Int) (latest_1 : Int → Int) (from_1 : Int) (pos_1 : Int) (kind_1 : Int) (r_0 : Int) (all_0 : Int → Int) (now_0 : Int → Int) (latest_0 : Int → Int) (k15 : 1 ≤ x15 ∧ x15 ≤ 99) (k21 : 219 ≤ x21 ∧ x21 ≤ 66539) (f34 : ((kind_1 = 1) → (pos_1 ≤ (from_1 + 8))) ∧ ((kind_1 = 0) ∨ ((from_1 + 1) ≤ pos_1))) (fe_0_5_1 : r_0 = r_1) (fe_0_8_1 : fault_0 = fault_1) (fe_0_11_1 : pos_0 = pos_1) (fe_0_12_1 : kind_0 = kind_1) (fe_0_15_1 : from_0 = from_1) (hE_0_2_1 : ∀ j : Int, 0 ≤ j → (j = x21 → all_0 j = x15) ∧ (j ≠ x21 → all_0 j = all_1 j)) (hE_0_3_1 : ∀ j : Int, now_0 j = now_1 j) (hE_0_4_1 : ∀ j : Int, latest_0 j = latest_1 j) (kz_0_8 : 0 ≤ fault_0 ∧ fault_0 ≤ 5) (kz_0_11 : 0 ≤ pos_0 ∧ pos_0 ≤ 2000) (kz_0_12 : 0 ≤ kind_0 ∧ kind_0 ≤ 4) (kz_0_15 : 0 ≤ from_0 ∧ from_0 ≤ 2000) : ((kind_0 = 1) → (pos_0 ≤ (from_0 + 8))) ∧ ((kind_0 = 0) ∨ ((from_0 + 1) ≤ pos_0)) := by
  subst fe_0_5_1
  subst fe_0_8_1
  subst fe_0_11_1
  subst fe_0_12_1
  subst fe_0_15_1
  have e_hE_0_3_1 := funext hE_0_3_1; subst e_hE_0_3_1
  have e_hE_0_4_1 := funext hE_0_4_1; subst e_hE_0_4_1
  first
    | omega
    | (have q1 := (hE_0_2_1 (r_0 + 2) (by omega)).2 (by omega)
       have q2 := (hE_0_2_2 (r_0 + 2) (by omega)).2 (by omega)
       omega)
    | (have q1 := (hE_0_2_1 (r_0 + 1) (by omega)).2 (by omega)
       have q2 := (hE_0_2_2 (r_0 + 1) (by omega)).2 (by omega)
       omega)
    | (have q1 := (hE_0_2_1 (r_0 + 2) (by omega)).2 (by omega)
       omega)
    | (have q1 := (hE_0_2_1 (r_0 + 1) (by omega)).2 (by omega)
       omega)
    | (have q1 := (hE_0_2_1 (r_0 + 2) (by omega)).2 (by omega)
       have q2 := (hE_0_2_2 (r_0 + 2) (by omega)).2 (by omega)
       have q3 := (hE_0_2_3 (r_0 + 2) (by omega)).1 (by omega)
       omega)
    | (have q1 := (hE_0_2_1 (r_0 + 2) (by omega)).2 (by omega)
       have q2 := (hE_0_2_2 (r_0 + 2) (by omega)).2 (by omega)
       have q3 := (hE_0_2_3 (r_0 + 2) (by omega)).2 (by omega)
       omega)
set_option maxHeartbeats 4000000 in
theorem vc_Mo_item_at_k4_13_6 (x3 : Int) (x13 : Int) (x15 : Int) (x21 : Int) (from_0 : Int) (pos_0 : Int) (kind_0 : Int) (fault_0 : Int) (r_1 : Int) (fault_1 : Int) (all_1 : Int → Int) (now_1 : Int → Int) (latest_1 : Int → Int) (from_1 : Int) (pos_1 : Int) (kind_1 : Int) (r_0 : Int) (all_0 : Int → Int) (now_0 : Int → Int) (latest_0 : Int → Int) (gx : Int) (k3 : 0 ≤ x3 ∧ x3 ≤ 2000) (k13 : 0 ≤ x13 ∧ x13 ≤ 2000) (k15 : 1 ≤ x15 ∧ x15 ≤ 99) (k21 : 219 ≤ x21 ∧ x21 ≤ 66539) (f0 : 1 * x13 + ((-1) * x3 + 0) ≤ 0) (f1 : (-1) * x13 + (1 * x3 + 0) ≤ 0) (f10 : 1 * x13 + ((-1) * pos_0 + 0) ≤ 0) (fe_0_5_1 : r_0 = r_1) (fe_0_8_1 : fault_0 = fault_1) (fe_0_11_1 : pos_0 = pos_1) (fe_0_12_1 : kind_0 = kind_1) (fe_0_15_1 : from_0 = from_1) (hE_0_2_1 : ∀ j : Int, 0 ≤ j → (j = x21 → all_0 j = x15) ∧ (j ≠ x21 → all_0 j = all_1 j)) (hE_0_3_1 : ∀ j : Int, now_0 j = now_1 j) (hE_0_4_1 : ∀ j : Int, latest_0 j = latest_1 j) (kz_0_8 : 0 ≤ fault_0 ∧ fault_0 ≤ 5) (kz_0_11 : 0 ≤ pos_0 ∧ pos_0 ≤ 2000) (kz_0_12 : 0 ≤ kind_0 ∧ kind_0 ≤ 4) (kz_0_15 : 0 ≤ from_0 ∧ from_0 ≤ 2000) (ex2 : gx = x3) : 1 * gx + ((-1) * pos_0 + 0) ≤ 0 := by
  subst fe_0_5_1
  subst fe_0_8_1
  subst fe_0_11_1
  subst fe_0_12_1
  subst fe_0_15_1
  have e_hE_0_3_1 := funext hE_0_3_1; subst e_hE_0_3_1
  have e_hE_0_4_1 := funext hE_0_4_1; subst e_hE_0_4_1
  first
    | omega
    | (have q1 := (hE_0_2_1 (r_0 + 2) (by omega)).2 (by omega)
       have q2 := (hE_0_2_2 (r_0 + 2) (by omega)).2 (by omega)
       omega)
    | (have q1 := (hE_0_2_1 (r_0 + 1) (by omega)).2 (by omega)
       have q2 := (hE_0_2_2 (r_0 + 1) (by omega)).2 (by omega)
       omega)
    | (have q1 := (hE_0_2_1 (r_0 + 2) (by omega)).2 (by omega)
       omega)
    | (have q1 := (hE_0_2_1 (r_0 + 1) (by omega)).2 (by omega)
       omega)
    | (have q1 := (hE_0_2_1 (r_0 + 2) (by omega)).2 (by omega)
       have q2 := (hE_0_2_2 (r_0 + 2) (by omega)).2 (by omega)
       have q3 := (hE_0_2_3 (r_0 + 2) (by omega)).1 (by omega)
       omega)
    | (have q1 := (hE_0_2_1 (r_0 + 2) (by omega)).2 (by omega)
       have q2 := (hE_0_2_2 (r_0 + 2) (by omega)).2 (by omega)
       have q3 := (hE_0_2_3 (r_0 + 2) (by omega)).2 (by omega)
       omega)
set_option maxHeartbeats 4000000 in
theorem vc_Mo_item_at_k4_13_7 (x3 : Int) (x13 : Int) (x15 : Int) (x16 : Int) (x21 : Int) (from_0 : Int) (pos_0 : Int) (kind_0 : Int) (fault_0 : Int) (r_1 : Int) (fault_1 : Int) (all_1 : Int → Int) (now_1 : Int → Int) (latest_1 : Int → Int) (from_1 : Int) (pos_1 : Int) (kind_1 : Int) (r_0 : Int) (all_0 : Int → Int) (now_0 : Int → Int) (latest_0 : Int → Int) (gx : Int) (k3 : 0 ≤ x3 ∧ x3 ≤ 2000) (k13 : 0 ≤ x13 ∧ x13 ≤ 2000) (k15 : 1 ≤ x15 ∧ x15 ≤ 99) (k16 : 0 ≤ x16 ∧ x16 ≤ 0) (k21 : 219 ≤ x21 ∧ x21 ≤ 66539) (f0 : 1 * x13 + ((-1) * x3 + 0) ≤ 0) (f1 : (-1) * x13 + (1 * x3 + 0) ≤ 0) (f10 : 1 * x13 + ((-1) * pos_0 + 0) ≤ 0) (g22 : x16 = fault_1) (f34 : ((kind_1 = 1) → (pos_1 ≤ (from_1 + 8))) ∧ ((kind_1 = 0) ∨ ((from_1 + 1) ≤ pos_1))) (f36 : (1 ≤ fault_1) ∨ ((kind_1 = 0) ∨ ((x13 + 1) ≤ pos_1))) (fe_0_5_1 : r_0 = r_1) (fe_0_8_1 : fault_0 = fault_1) (fe_0_11_1 : pos_0 = pos_1) (fe_0_12_1 : kind_0 = kind_1) (fe_0_15_1 : from_0 = from_1) (hE_0_2_1 : ∀ j : Int, 0 ≤ j → (j = x21 → all_0 j = x15) ∧ (j ≠ x21 → all_0 j = all_1 j)) (hE_0_3_1 : ∀ j : Int, now_0 j = now_1 j) (hE_0_4_1 : ∀ j : Int, latest_0 j = latest_1 j) (kz_0_8 : 0 ≤ fault_0 ∧ fault_0 ≤ 5) (kz_0_11 : 0 ≤ pos_0 ∧ pos_0 ≤ 2000) (kz_0_12 : 0 ≤ kind_0 ∧ kind_0 ≤ 4) (kz_0_15 : 0 ≤ from_0 ∧ from_0 ≤ 2000) (ex2 : gx = x3) : (1 ≤ fault_0) ∨ ((kind_0 = 0) ∨ ((gx + 1) ≤ pos_0)) := by
  subst fe_0_5_1
  subst fe_0_8_1
  subst fe_0_11_1
  subst fe_0_12_1
  subst fe_0_15_1
  have e_hE_0_3_1 := funext hE_0_3_1; subst e_hE_0_3_1
  have e_hE_0_4_1 := funext hE_0_4_1; subst e_hE_0_4_1
  first
    | omega
    | (have q1 := (hE_0_2_1 (r_0 + 2) (by omega)).2 (by omega)
       have q2 := (hE_0_2_2 (r_0 + 2) (by omega)).2 (by omega)
       omega)
    | (have q1 := (hE_0_2_1 (r_0 + 1) (by omega)).2 (by omega)
       have q2 := (hE_0_2_2 (r_0 + 1) (by omega)).2 (by omega)
       omega)
    | (have q1 := (hE_0_2_1 (r_0 + 2) (by omega)).2 (by omega)
       omega)
    | (have q1 := (hE_0_2_1 (r_0 + 1) (by omega)).2 (by omega)
       omega)
    | (have q1 := (hE_0_2_1 (r_0 + 2) (by omega)).2 (by omega)
       have q2 := (hE_0_2_2 (r_0 + 2) (by omega)).2 (by omega)
       have q3 := (hE_0_2_3 (r_0 + 2) (by omega)).1 (by omega)
       omega)
    | (have q1 := (hE_0_2_1 (r_0 + 2) (by omega)).2 (by omega)
       have q2 := (hE_0_2_2 (r_0 + 2) (by omega)).2 (by omega)
       have q3 := (hE_0_2_3 (r_0 + 2) (by omega)).2 (by omega)
       omega)
def o_Mo_item_at_k4_13 : or_T := (64, 23, [(0, (2, 0, 0, [165])), (1, (0, 0, 7, [])), (3, (0, 0, 2000, [])), (6, (0, 0, 2000, [])), (8, (0, 0, 2000, [])), (10, (0, 0, 23, [])), (12, (0, 99, 99, [])), (13, (0, 0, 2000, [])), (14, (0, -1, 48, [])), (15, (0, 1, 99, [])), (16, (0, 0, 0, [])), (17, (2, 0, 0, [167])), (18, (0, 0, 66297, [])), (19, (0, 219, 219, [])), (20, (0, 219, 66516, [])), (21, (0, 219, 66539, []))], [(23, [13, 3], [0, 1, -1]), (23, [13, 3], [0, -1, 1]), (23, [14, 10], [0, 1, -1]), (23, [14, 10], [0, -1, 1]), (23, [8, 3], [0, 1, -1]), (23, [8, 3], [0, -1, 1]), (23, [6, 3], [0, 1, -1]), (23, [6, 3], [0, -1, 1]), (20, [0, 0], [30, 0, 1, 1, 15, -1, 1, 11]), (20, [0], [50, 3, 0, 12, 11, 15, 2, 21, 4, 7, 1, 3, 2, 0, 12, 0, 1, 0, 3, 2, 0, 11, 4, 3, 2, 0, 15, 0, 8, 3, 7, 1, 3, 2, 0, 12, 0, 0, 0, 7, 4, 3, 2, 0, 15, 0, 1, 2, 0, 11]), (20, [13, 0], [30, 0, 1, 0, 0, -1, 1, 11]), (20, [0, 13], [50, 3, 0, 8, 12, 11, 3, 7, 0, 2, 0, 1, 2, 0, 8, 3, 7, 1, 3, 2, 0, 12, 0, 0, 0, 6, 4, 2, 1, 1, 0, 1, 2, 0, 11]), (20, [0, 14], [50, 1, 0, 8, 3, 7, 0, 2, 0, 1, 2, 0, 8, 0, 2, 0, 0, 1, 1]), (20, [15, 12], [30, 0, 1, 0, 0, -1, 0, 0]), (20, [15], [30, 0, -1, 0, 0]), (100, [17, 21, 15], []), (1, [21, 20, 10], []), (1, [20, 18, 19], []), (9, [18, 0], [5]), (9, [17, 0], [2]), (8, [15], [4]), (8, [16], [0]), (9, [16, 0], [8]), (23, [13, 3], [0, 1, -1]), (23, [13, 3], [0, -1, 1]), (23, [14, 10], [0, 1, -1]), (23, [14, 10], [0, -1, 1]), (23, [8, 3], [0, 1, -1]), (23, [8, 3], [0, -1, 1]), (23, [6, 3], [0, 1, -1]), (23, [6, 3], [0, -1, 1]), (20, [1, 0], [50, 1, 1, 1005, 1002, 0, 6, 4, 2, 1, 0, 0, 1, 3, 1, 2, 4, 3, 2, 1, 5, 0, 2]), (20, [0], [60, 1, 3, 199, 5, 2, 3, 4]), (20, [0, 0], [30, 0, 1, 1, 15, -1, 1, 11]), (20, [0], [50, 3, 0, 12, 11, 15, 2, 21, 4, 7, 1, 3, 2, 0, 12, 0, 1, 0, 3, 2, 0, 11, 4, 3, 2, 0, 15, 0, 8, 3, 7, 1, 3, 2, 0, 12, 0, 0, 0, 7, 4, 3, 2, 0, 15, 0, 1, 2, 0, 11]), (20, [13, 0], [30, 0, 1, 0, 0, -1, 1, 11]), (20, [0, 13], [50, 3, 0, 8, 12, 11, 3, 7, 0, 2, 0, 1, 2, 0, 8, 3, 7, 1, 3, 2, 0, 12, 0, 0, 0, 6, 4, 2, 1, 1, 0, 1, 2, 0, 11]), (20, [0, 14], [50, 1, 0, 8, 3, 7, 0, 2, 0, 1, 2, 0, 8, 0, 2, 0, 0, 1, 1]), (20, [15, 12], [30, 0, 1, 0, 0, -1, 0, 0]), (20, [15], [30, 0, -1, 0, 0]), (102, [14], [0, 165008, 165009, 165011, 165012, 165013, 165014, 165015]), (23, [13, 3], [0, 1, -1]), (23, [13, 3], [0, -1, 1]), (23, [14, 10], [0, 1, -1]), (23, [14, 10], [0, -1, 1]), (23, [8, 3], [0, 1, -1]), (23, [8, 3], [0, -1, 1]), (23, [6, 3], [0, 1, -1]), (23, [6, 3], [0, -1, 1]), (102, [9], [187072209578355573530071658587684226515959365500928, 165008, 165009, 165011, 165012, 165013, 165014, 165015]), (23, [8, 3], [0, 1, -1]), (23, [8, 3], [0, -1, 1]), (23, [6, 3], [0, 1, -1]), (23, [6, 3], [0, -1, 1]), (102, [6], [0, 165011, 165012, 165013, 165014, 165015]), (23, [6, 3], [0, 1, -1]), (23, [6, 3], [0, -1, 1])], [], [(0, 0, 2000, [])], [(20, [1, 0], [50, 1, 1, 1005, 1002, 0, 6, 4, 2, 1, 0, 0, 1, 3, 1, 2, 4, 3, 2, 1, 5, 0, 2]), (20, [0], [60, 1, 3, 199, 5, 2, 3, 4]), (23, [23, 3], [0, 1, -1]), (23, [23, 3], [0, -1, 1]), (20, [0, 0], [30, 0, 1, 1, 15, -1, 1, 11]), (20, [0], [50, 3, 0, 12, 11, 15, 2, 21, 4, 7, 1, 3, 2, 0, 12, 0, 1, 0, 3, 2, 0, 11, 4, 3, 2, 0, 15, 0, 8, 3, 7, 1, 3, 2, 0, 12, 0, 0, 0, 7, 4, 3, 2, 0, 15, 0, 1, 2, 0, 11]), (20, [23, 0], [30, 0, 1, 0, 0, -1, 1, 11]), (20, [0, 23], [50, 3, 0, 8, 12, 11, 3, 7, 0, 2, 0, 1, 2, 0, 8, 3, 7, 1, 3, 2, 0, 12, 0, 0, 0, 6, 4, 2, 1, 1, 0, 1, 2, 0, 11])], [], [(21, 10, 219, 66516), (21, 20, 0, 23), (21, 18, 219, 242), (20, 18, 219, 219)])
theorem oo_Mo_item_at_k4_13 {kA : Nat → ClassId} : or_ok PRD kA GG o_Mo_item_at_k4_13 := by
  refine or_mk fun A ta ws vs hD hth hl => ?_
  intro t0 r0 t1 k1 t3 k3 t6 k6 t8 k8 t10 k10 t12 k12 t13 k13 t14 k14 t15 k15 t16 k16 t17 r17 t18 k18 t19 k19 t20 k20 t21 k21 d0 d1 d2 d3 f0 f1 f2 f3 f4 f5 f6 f7 f8 f9 f10 f11 f12 f13 f14 ta1 w1 le1 s1 f16 f17 f18 f19 f20 f21 f22 f23 f24 f25 f26 f27 f28 f29 f30 f31 f32 f33 f34 f35 f36 f37 f38 f39 ta2 w2 le2 s2 f41 f42 f43 f44 f45 f46 f47 f48 ta3 w3 le3 s3 f50 f51 f52 f53 ta4 w4 le4 s4 f55 f56
  replace f0 := shm_7 f0
  replace f1 := shm_22 f1
  replace f2 := shm_7 f2
  replace f3 := shm_22 f3
  replace f4 := shm_7 f4
  replace f5 := shm_22 f5
  replace f6 := shm_7 f6
  replace f7 := shm_22 f7
  replace f8 := shm_1397 f8
  replace f9 := shm_1398 f9
  replace f10 := shm_1395 f10
  replace f11 := shm_1660 f11
  replace f12 := shm_1889 f12
  replace f13 := shm_219 f13
  replace f14 := shm_1890 f14
  have s1 : (∀ b j, w_el ws b j = if b = v_ad (n_v vs 17) ∧ j = (v_iv (n_v vs 21)).toNat then v_iv (n_v vs 15) else w_el w1 b j) ∧ ∀ b k, w_fd ws b k = w_fd w1 b k := s1.2
  replace f16 := shm_12 f16
  replace f17 := shm_12 f17
  replace f18 := shm_109 f18
  replace f19 := shm_129 f19
  replace f20 := shm_145 f20
  replace f21 := shm_210 f21
  replace f22 := shm_143 f22
  replace f23 := shm_7 f23
  replace f24 := shm_22 f24
  replace f25 := shm_7 f25
  replace f26 := shm_22 f26
  replace f27 := shm_7 f27
  replace f28 := shm_22 f28
  replace f29 := shm_7 f29
  replace f30 := shm_22 f30
  replace f31 := shm_981 f31
  replace f32 := shm_952 f32
  replace f33 := shm_1397 f33
  replace f34 := shm_1398 f34
  replace f35 := shm_1395 f35
  replace f36 := shm_1660 f36
  replace f37 := shm_1889 f37
  replace f38 := shm_219 f38
  replace f39 := shm_1890 f39
  replace f41 := shm_7 f41
  replace f42 := shm_22 f42
  replace f43 := shm_7 f43
  replace f44 := shm_22 f44
  replace f45 := shm_7 f45
  replace f46 := shm_22 f46
  replace f47 := shm_7 f47
  replace f48 := shm_22 f48
  replace f50 := shm_7 f50
  replace f51 := shm_22 f51
  replace f52 := shm_7 f52
  replace f53 := shm_22 f53
  replace f55 := shm_7 f55
  replace f56 := shm_22 f56
  have ar_0_2_1 : w_ar w1 (n_v vs 0) 2 = w_ar ws (n_v vs 0) 2 := congrArg v_ad (s1.2 _ _).symm
  have cr_0_2 := fdq_12 hD hth r0
  have ar_0_3_1 : w_ar w1 (n_v vs 0) 3 = w_ar ws (n_v vs 0) 3 := congrArg v_ad (s1.2 _ _).symm
  have cr_0_3 := fdq_141 hD hth r0
  have ar_0_4_1 : w_ar w1 (n_v vs 0) 4 = w_ar ws (n_v vs 0) 4 := congrArg v_ad (s1.2 _ _).symm
  have cr_0_4 := fdq_142 hD hth r0
  have ad_17 : v_ad (n_v vs 17) = w_ar ws (n_v vs 0) 2 := (congrArg v_ad f19).trans ar_0_2_1
  have g18 : v_iv (n_v vs 18) = w_fi w1 (n_v vs 0) 5 := congrArg v_iv f18
  have g22 : v_iv (n_v vs 16) = w_fi w1 (n_v vs 0) 8 := congrArg v_iv f22
  simp only [ar_0_2_1, ar_0_3_1, ar_0_4_1] at f31 f32
  have fe_0_5_1 : w_fi ws (n_v vs 0) 5 = w_fi w1 (n_v vs 0) 5 := congrArg v_iv (s1.2 _ _)
  have fe_0_8_1 : w_fi ws (n_v vs 0) 8 = w_fi w1 (n_v vs 0) 8 := congrArg v_iv (s1.2 _ _)
  have fe_0_11_1 : w_fi ws (n_v vs 0) 11 = w_fi w1 (n_v vs 0) 11 := congrArg v_iv (s1.2 _ _)
  have fe_0_12_1 : w_fi ws (n_v vs 0) 12 = w_fi w1 (n_v vs 0) 12 := congrArg v_iv (s1.2 _ _)
  have fe_0_15_1 : w_fi ws (n_v vs 0) 15 = w_fi w1 (n_v vs 0) 15 := congrArg v_iv (s1.2 _ _)
  have hE_0_2_1 : ∀ j : Int, 0 ≤ j → (j = v_iv (n_v vs 21) → w_ei ws (w_ar ws (n_v vs 0) 2) j = v_iv (n_v vs 15)) ∧ (j ≠ v_iv (n_v vs 21) → w_ei ws (w_ar ws (n_v vs 0) 2) j = w_ei w1 (w_ar ws (n_v vs 0) 2) j) := fun j hj => ⟨fun h => by unfold w_ei; rw [s1.1, if_pos ⟨ad_17.symm, by rw [h]⟩], fun h => by unfold w_ei; rw [s1.1, if_neg (fun e => h (by have := e.2; omega))]⟩
  have hE_0_3_1 : ∀ j : Int, w_ei ws (w_ar ws (n_v vs 0) 3) j = w_ei w1 (w_ar ws (n_v vs 0) 3) j := el_kp s1.1 r17 cr_0_3 (by decide)
  have hK_0_3 := elq_77 hD hth cr_0_3
  have hE_0_4_1 : ∀ j : Int, w_ei ws (w_ar ws (n_v vs 0) 4) j = w_ei w1 (w_ar ws (n_v vs 0) 4) j := el_kp s1.1 r17 cr_0_4 (by decide)
  have hK_0_4 := elq_78 hD hth cr_0_4
  have kz_0_8 := fdq_14 hD hth r0
  have kz_0_11 := fdq_273 hD hth r0
  have kz_0_12 := fdq_186 hD hth r0
  have kz_0_15 := fdq_274 hD hth r0
  first | have hJ0 : w_ei w1 (w_ar ws (n_v vs 0) 2) ((w_fi w1 (n_v vs 0) 5 + 2)) = w_ei w1 (w_ar ws (n_v vs 0) 2) ((w_fi ws (n_v vs 0) 5 + 2)) := congrArg _ (show ((w_fi w1 (n_v vs 0) 5 + 2) : Int) = (w_fi ws (n_v vs 0) 5 + 2) from by omega) | skip
  first | have hI1 := (hE_0_2_1 ((w_fi ws (n_v vs 0) 5 + 2)) (by omega)).2 (by omega) | have hI1 := (hE_0_2_1 ((w_fi ws (n_v vs 0) 5 + 2)) (by omega)).1 (by omega) | skip
  obtain ⟨x, ex, hx⟩ := iv_ex (ta := ta) (lo := 0) (hi := 2000) (z := v_iv (n_v vs 3)) (by omega) (by omega) (by omega) (by omega)
  have ex2 : v_iv (Value.int x) = v_iv (n_v vs 3) := ex
  have ex3 : 0 ≤ v_iv (Value.int x) ∧ v_iv (Value.int x) ≤ 2000 := tv_rng hx
  have e_0 : n_v (vs ++ [Value.int x]) 0 = n_v vs 0 := n_v_old (by rw [hl]; decide)
  have e_1 : n_v (vs ++ [Value.int x]) 1 = n_v vs 1 := n_v_old (by rw [hl]; decide)
  have e_3 : n_v (vs ++ [Value.int x]) 3 = n_v vs 3 := n_v_old (by rw [hl]; decide)
  have e_23 : n_v (vs ++ [Value.int x]) 23 = Value.int x := n_v_new hl
  have nf0 : fc_1 PRD (20, [1, 0], [50, 1, 1, 1005, 1002, 0, 6, 4, 2, 1, 0, 0, 1, 3, 1, 2, 4, 3, 2, 1, 5, 0, 2]) ws (vs ++ [Value.int x]) := by
    refine ⟨nf_inA hl rfl, sgq_981 ?_⟩
    · show (v_iv (n_v (vs ++ [Value.int x]) 1) + 1) ≤ w_ei ws (w_ar ws (n_v (vs ++ [Value.int x]) 0) 2) ((w_fi ws (n_v (vs ++ [Value.int x]) 0) 5 + 2))
      simp only [e_0, e_1]
      exact vc_Mo_item_at_k4_13_0 (v_iv (n_v vs 1)) (v_iv (n_v vs 10)) (v_iv (n_v vs 14)) (v_iv (n_v vs 15)) (v_iv (n_v vs 18)) (v_iv (n_v vs 20)) (v_iv (n_v vs 21)) (w_fi ws (n_v vs 0) 15) (w_fi ws (n_v vs 0) 11) (w_fi ws (n_v vs 0) 12) (w_fi ws (n_v vs 0) 8) (w_fi w1 (n_v vs 0) 5) (w_fi w1 (n_v vs 0) 8) (w_ei w1 (w_ar ws (n_v vs 0) 2)) (w_ei w1 (w_ar ws (n_v vs 0) 3)) (w_ei w1 (w_ar ws (n_v vs 0) 4)) (w_fi w1 (n_v vs 0) 15) (w_fi w1 (n_v vs 0) 11) (w_fi w1 (n_v vs 0) 12) (w_fi ws (n_v vs 0) 5) (w_ei ws (w_ar ws (n_v vs 0) 2)) (w_ei ws (w_ar ws (n_v vs 0) 3)) (w_ei ws (w_ar ws (n_v vs 0) 4)) k1 k10 k14 k15 k18 k20 k21 d0 d3 f2 f3 f16 g18 f31 fe_0_5_1 fe_0_8_1 fe_0_11_1 fe_0_12_1 fe_0_15_1 hE_0_2_1 hE_0_3_1 hE_0_4_1 kz_0_8 kz_0_11 kz_0_12 kz_0_15
  have nf1 : fc_1 PRD (20, [0], [60, 1, 3, 199, 5, 2, 3, 4]) ws (vs ++ [Value.int x]) := by
    refine ⟨nf_inA hl rfl, sgq_952 ?_⟩
    · show RWS (w_fi ws (n_v (vs ++ [Value.int x]) 0) 5) (w_ei ws (w_ar ws (n_v (vs ++ [Value.int x]) 0) 2)) (w_ei ws (w_ar ws (n_v (vs ++ [Value.int x]) 0) 3)) (w_ei ws (w_ar ws (n_v (vs ++ [Value.int x]) 0) 4))
      rw [e_0]
      exact vc_Mo_item_at_k4_13_1 (v_iv (n_v vs 10)) (v_iv (n_v vs 14)) (v_iv (n_v vs 15)) (v_iv (n_v vs 18)) (v_iv (n_v vs 20)) (v_iv (n_v vs 21)) (w_fi ws (n_v vs 0) 15) (w_fi ws (n_v vs 0) 11) (w_fi ws (n_v vs 0) 12) (w_fi ws (n_v vs 0) 8) (w_fi w1 (n_v vs 0) 5) (w_fi w1 (n_v vs 0) 8) (w_ei w1 (w_ar ws (n_v vs 0) 2)) (w_ei w1 (w_ar ws (n_v vs 0) 3)) (w_ei w1 (w_ar ws (n_v vs 0) 4)) (w_fi w1 (n_v vs 0) 15) (w_fi w1 (n_v vs 0) 11) (w_fi w1 (n_v vs 0) 12) (w_fi ws (n_v vs 0) 5) (w_ei ws (w_ar ws (n_v vs 0) 2)) (w_ei ws (w_ar ws (n_v vs 0) 3)) (w_ei ws (w_ar ws (n_v vs 0) 4)) k10 k14 k15 k18 k20 k21 d3 f2 f3 f16 g18 f32 fe_0_5_1 fe_0_8_1 fe_0_11_1 fe_0_12_1 fe_0_15_1 hE_0_2_1 hE_0_3_1 hE_0_4_1 kz_0_8 kz_0_11 kz_0_12 kz_0_15
  have nf2 : fc_1 PRD (23, [23, 3], [0, 1, -1]) ws (vs ++ [Value.int x]) := by
    refine ⟨nf_inA hl rfl, sgq_7 ?_⟩
    · show 1 * v_iv (n_v (vs ++ [Value.int x]) 23) + ((-1) * v_iv (n_v (vs ++ [Value.int x]) 3) + 0) ≤ 0
      simp only [e_3, e_23]
      exact vc_Mo_item_at_k4_13_2 (v_iv (n_v vs 3)) (v_iv (n_v vs 13)) (v_iv (n_v vs 15)) (v_iv (n_v vs 21)) (w_fi ws (n_v vs 0) 15) (w_fi ws (n_v vs 0) 11) (w_fi ws (n_v vs 0) 12) (w_fi ws (n_v vs 0) 8) (w_fi w1 (n_v vs 0) 5) (w_fi w1 (n_v vs 0) 8) (w_ei w1 (w_ar ws (n_v vs 0) 2)) (w_ei w1 (w_ar ws (n_v vs 0) 3)) (w_ei w1 (w_ar ws (n_v vs 0) 4)) (w_fi w1 (n_v vs 0) 15) (w_fi w1 (n_v vs 0) 11) (w_fi w1 (n_v vs 0) 12) (w_fi ws (n_v vs 0) 5) (w_ei ws (w_ar ws (n_v vs 0) 2)) (w_ei ws (w_ar ws (n_v vs 0) 3)) (w_ei ws (w_ar ws (n_v vs 0) 4)) (v_iv (Value.int x)) k3 k13 k15 k21 f0 f1 fe_0_5_1 fe_0_8_1 fe_0_11_1 fe_0_12_1 fe_0_15_1 hE_0_2_1 hE_0_3_1 hE_0_4_1 kz_0_8 kz_0_11 kz_0_12 kz_0_15 ex2
  have nf3 : fc_1 PRD (23, [23, 3], [0, -1, 1]) ws (vs ++ [Value.int x]) := by
    refine ⟨nf_inA hl rfl, sgq_22 ?_⟩
    · show (-1) * v_iv (n_v (vs ++ [Value.int x]) 23) + (1 * v_iv (n_v (vs ++ [Value.int x]) 3) + 0) ≤ 0
      simp only [e_3, e_23]
      exact vc_Mo_item_at_k4_13_3 (v_iv (n_v vs 3)) (v_iv (n_v vs 13)) (v_iv (n_v vs 15)) (v_iv (n_v vs 21)) (w_fi ws (n_v vs 0) 15) (w_fi ws (n_v vs 0) 11) (w_fi ws (n_v vs 0) 12) (w_fi ws (n_v vs 0) 8) (w_fi w1 (n_v vs 0) 5) (w_fi w1 (n_v vs 0) 8) (w_ei w1 (w_ar ws (n_v vs 0) 2)) (w_ei w1 (w_ar ws (n_v vs 0) 3)) (w_ei w1 (w_ar ws (n_v vs 0) 4)) (w_fi w1 (n_v vs 0) 15) (w_fi w1 (n_v vs 0) 11) (w_fi w1 (n_v vs 0) 12) (w_fi ws (n_v vs 0) 5) (w_ei ws (w_ar ws (n_v vs 0) 2)) (w_ei ws (w_ar ws (n_v vs 0) 3)) (w_ei ws (w_ar ws (n_v vs 0) 4)) (v_iv (Value.int x)) k3 k13 k15 k21 f0 f1 fe_0_5_1 fe_0_8_1 fe_0_11_1 fe_0_12_1 fe_0_15_1 hE_0_2_1 hE_0_3_1 hE_0_4_1 kz_0_8 kz_0_11 kz_0_12 kz_0_15 ex2
  have nf4 : fc_1 PRD (20, [0, 0], [30, 0, 1, 1, 15, -1, 1, 11]) ws (vs ++ [Value.int x]) := by
    refine ⟨nf_inA hl rfl, sgq_1397 ?_⟩
    · show 1 * w_fi ws (n_v (vs ++ [Value.int x]) 0) 15 + ((-1) * w_fi ws (n_v (vs ++ [Value.int x]) 0) 11 + 0) ≤ 0
      rw [e_0]
      exact vc_Mo_item_at_k4_13_4 (v_iv (n_v vs 15)) (v_iv (n_v vs 21)) (w_fi ws (n_v vs 0) 15) (w_fi ws (n_v vs 0) 11) (w_fi ws (n_v vs 0) 12) (w_fi ws (n_v vs 0) 8) (w_fi w1 (n_v vs 0) 5) (w_fi w1 (n_v vs 0) 8) (w_ei w1 (w_ar ws (n_v vs 0) 2)) (w_ei w1 (w_ar ws (n_v vs 0) 3)) (w_ei w1 (w_ar ws (n_v vs 0) 4)) (w_fi w1 (n_v vs 0) 15) (w_fi w1 (n_v vs 0) 11) (w_fi w1 (n_v vs 0) 12) (w_fi ws (n_v vs 0) 5) (w_ei ws (w_ar ws (n_v vs 0) 2)) (w_ei ws (w_ar ws (n_v vs 0) 3)) (w_ei ws (w_ar ws (n_v vs 0) 4)) k15 k21 f33 fe_0_5_1 fe_0_8_1 fe_0_11_1 fe_0_12_1 fe_0_15_1 hE_0_2_1 hE_0_3_1 hE_0_4_1 kz_0_8 kz_0_11 kz_0_12 kz_0_15
  have nf5 : fc_1 PRD (20, [0], [50, 3, 0, 12, 11, 15, 2, 21, 4, 7, 1, 3, 2, 0, 12, 0, 1, 0, 3, 2, 0, 11, 4, 3, 2, 0, 15, 0, 8, 3, 7, 1, 3, 2, 0, 12, 0, 0, 0, 7, 4, 3, 2, 0, 15, 0, 1, 2, 0, 11]) ws (vs ++ [Value.int x]) := by
    refine ⟨nf_inA hl rfl, sgq_1398 ?_⟩
    · show ((w_fi ws (n_v (vs ++ [Value.int x]) 0) 12 = 1) → (w_fi ws (n_v (vs ++ [Value.int x]) 0) 11 ≤ (w_fi ws (n_v (vs ++ [Value.int x]) 0) 15 + 8))) ∧ ((w_fi ws (n_v (vs ++ [Value.int x]) 0) 12 = 0) ∨ ((w_fi ws (n_v (vs ++ [Value.int x]) 0) 15 + 1) ≤ w_fi ws (n_v (vs ++ [Value.int x]) 0) 11))
      rw [e_0]
      exact vc_Mo_item_at_k4_13_5 (v_iv (n_v vs 15)) (v_iv (n_v vs 21)) (w_fi ws (n_v vs 0) 15) (w_fi ws (n_v vs 0) 11) (w_fi ws (n_v vs 0) 12) (w_fi ws (n_v vs 0) 8) (w_fi w1 (n_v vs 0) 5) (w_fi w1 (n_v vs 0) 8) (w_ei w1 (w_ar ws (n_v vs 0) 2)) (w_ei w1 (w_ar ws (n_v vs 0) 3)) (w_ei w1 (w_ar ws (n_v vs 0) 4)) (w_fi w1 (n_v vs 0) 15) (w_fi w1 (n_v vs 0) 11) (w_fi w1 (n_v vs 0) 12) (w_fi ws (n_v vs 0) 5) (w_ei ws (w_ar ws (n_v vs 0) 2)) (w_ei ws (w_ar ws (n_v vs 0) 3)) (w_ei ws (w_ar ws (n_v vs 0) 4)) k15 k21 f34 fe_0_5_1 fe_0_8_1 fe_0_11_1 fe_0_12_1 fe_0_15_1 hE_0_2_1 hE_0_3_1 hE_0_4_1 kz_0_8 kz_0_11 kz_0_12 kz_0_15
  have nf6 : fc_1 PRD (20, [23, 0], [30, 0, 1, 0, 0, -1, 1, 11]) ws (vs ++ [Value.int x]) := by
    refine ⟨nf_inA hl rfl, sgq_1395 ?_⟩
    · show 1 * v_iv (n_v (vs ++ [Value.int x]) 23) + ((-1) * w_fi ws (n_v (vs ++ [Value.int x]) 0) 11 + 0) ≤ 0
      simp only [e_0, e_23]
      exact vc_Mo_item_at_k4_13_6 (v_iv (n_v vs 3)) (v_iv (n_v vs 13)) (v_iv (n_v vs 15)) (v_iv (n_v vs 21)) (w_fi ws (n_v vs 0) 15) (w_fi ws (n_v vs 0) 11) (w_fi ws (n_v vs 0) 12) (w_fi ws (n_v vs 0) 8) (w_fi w1 (n_v vs 0) 5) (w_fi w1 (n_v vs 0) 8) (w_ei w1 (w_ar ws (n_v vs 0) 2)) (w_ei w1 (w_ar ws (n_v vs 0) 3)) (w_ei w1 (w_ar ws (n_v vs 0) 4)) (w_fi w1 (n_v vs 0) 15) (w_fi w1 (n_v vs 0) 11) (w_fi w1 (n_v vs 0) 12) (w_fi ws (n_v vs 0) 5) (w_ei ws (w_ar ws (n_v vs 0) 2)) (w_ei ws (w_ar ws (n_v vs 0) 3)) (w_ei ws (w_ar ws (n_v vs 0) 4)) (v_iv (Value.int x)) k3 k13 k15 k21 f0 f1 f10 fe_0_5_1 fe_0_8_1 fe_0_11_1 fe_0_12_1 fe_0_15_1 hE_0_2_1 hE_0_3_1 hE_0_4_1 kz_0_8 kz_0_11 kz_0_12 kz_0_15 ex2
  have nf7 : fc_1 PRD (20, [0, 23], [50, 3, 0, 8, 12, 11, 3, 7, 0, 2, 0, 1, 2, 0, 8, 3, 7, 1, 3, 2, 0, 12, 0, 0, 0, 6, 4, 2, 1, 1, 0, 1, 2, 0, 11]) ws (vs ++ [Value.int x]) := by
    refine ⟨nf_inA hl rfl, sgq_1660 ?_⟩
    · show (1 ≤ w_fi ws (n_v (vs ++ [Value.int x]) 0) 8) ∨ ((w_fi ws (n_v (vs ++ [Value.int x]) 0) 12 = 0) ∨ ((v_iv (n_v (vs ++ [Value.int x]) 23) + 1) ≤ w_fi ws (n_v (vs ++ [Value.int x]) 0) 11))
      simp only [e_0, e_23]
      exact vc_Mo_item_at_k4_13_7 (v_iv (n_v vs 3)) (v_iv (n_v vs 13)) (v_iv (n_v vs 15)) (v_iv (n_v vs 16)) (v_iv (n_v vs 21)) (w_fi ws (n_v vs 0) 15) (w_fi ws (n_v vs 0) 11) (w_fi ws (n_v vs 0) 12) (w_fi ws (n_v vs 0) 8) (w_fi w1 (n_v vs 0) 5) (w_fi w1 (n_v vs 0) 8) (w_ei w1 (w_ar ws (n_v vs 0) 2)) (w_ei w1 (w_ar ws (n_v vs 0) 3)) (w_ei w1 (w_ar ws (n_v vs 0) 4)) (w_fi w1 (n_v vs 0) 15) (w_fi w1 (n_v vs 0) 11) (w_fi w1 (n_v vs 0) 12) (w_fi ws (n_v vs 0) 5) (w_ei ws (w_ar ws (n_v vs 0) 2)) (w_ei ws (w_ar ws (n_v vs 0) 3)) (w_ei ws (w_ar ws (n_v vs 0) 4)) (v_iv (Value.int x)) k3 k13 k15 k16 k21 f0 f1 f10 g22 f34 f36 fe_0_5_1 fe_0_8_1 fe_0_11_1 fe_0_12_1 fe_0_15_1 hE_0_2_1 hE_0_3_1 hE_0_4_1 kz_0_8 kz_0_11 kz_0_12 kz_0_15 ex2
  exact ⟨(fun _ h => (by cases h)), [Value.int x], ag_one hx, List.forall_mem_cons.mpr ⟨⟨show (20 : Nat) < 100 from by decide, nf0⟩, List.forall_mem_cons.mpr ⟨⟨show (20 : Nat) < 100 from by decide, nf1⟩, List.forall_mem_cons.mpr ⟨⟨show (23 : Nat) < 100 from by decide, nf2⟩, List.forall_mem_cons.mpr ⟨⟨show (23 : Nat) < 100 from by decide, nf3⟩, List.forall_mem_cons.mpr ⟨⟨show (20 : Nat) < 100 from by decide, nf4⟩, List.forall_mem_cons.mpr ⟨⟨show (20 : Nat) < 100 from by decide, nf5⟩, List.forall_mem_cons.mpr ⟨⟨show (20 : Nat) < 100 from by decide, nf6⟩, List.forall_mem_cons.mpr ⟨⟨show (20 : Nat) < 100 from by decide, nf7⟩, (fun _ h => (by cases h))⟩⟩⟩⟩⟩⟩⟩⟩, (fun _ h => (by cases h))⟩
set_option maxHeartbeats 4000000 in
theorem vc_Mo_item_at_k4_14_0 (x3 : Int) (x23 : Int) (r_0 : Int) (pos_0 : Int) (k3 : 0 ≤ x3 ∧ x3 ≤ 2000) (k23 : 0 ≤ x23 ∧ x23 ≤ 2000) (f2 : 1 * x23 + ((-1) * x3 + 0) ≤ 0) (f3 : (-1) * x23 + (1 * x3 + 0) ≤ 0) (f14 : 1 * x23 + ((-1) * pos_0 + 0) ≤ 0) (kz_0_11 : 0 ≤ pos_0 ∧ pos_0 ≤ 2000) : 1 * x3 + ((-1) * pos_0 + 0) ≤ 0 := by
  first
    | omega
    | (have q1 := (hE_0_2_1 (r_0 + 2) (by omega)).2 (by omega)
       have q2 := (hE_0_2_2 (r_0 + 2) (by omega)).2 (by omega)
       omega)
    | (have q1 := (hE_0_2_1 (r_0 + 1) (by omega)).2 (by omega)
       have q2 := (hE_0_2_2 (r_0 + 1) (by omega)).2 (by omega)
       omega)
    | (have q1 := (hE_0_2_1 (r_0 + 2) (by omega)).2 (by omega)
       omega)
    | (have q1 := (hE_0_2_1 (r_0 + 1) (by omega)).2 (by omega)
       omega)
    | (have q1 := (hE_0_2_1 (r_0 + 2) (by omega)).2 (by omega)
       have q2 := (hE_0_2_2 (r_0 + 2) (by omega)).2 (by omega)
       have q3 := (hE_0_2_3 (r_0 + 2) (by omega)).1 (by omega)
       omega)
    | (have q1 := (hE_0_2_1 (r_0 + 2) (by omega)).2 (by omega)
       have q2 := (hE_0_2_2 (r_0 + 2) (by omega)).2 (by omega)
       have q3 := (hE_0_2_3 (r_0 + 2) (by omega)).2 (by omega)
       omega)
set_option maxHeartbeats 4000000 in
theorem vc_Mo_item_at_k4_14_1 (x3 : Int) (x23 : Int) (r_0 : Int) (pos_0 : Int) (fault_0 : Int) (k3 : 0 ≤ x3 ∧ x3 ≤ 2000) (k23 : 0 ≤ x23 ∧ x23 ≤ 2000) (f2 : 1 * x23 + ((-1) * x3 + 0) ≤ 0) (f3 : (-1) * x23 + (1 * x3 + 0) ≤ 0) (f14 : 1 * x23 + ((-1) * pos_0 + 0) ≤ 0) (f15 : (1 ≤ fault_0) ∨ ((x23 + 1) ≤ pos_0)) (kz_0_8 : 0 ≤ fault_0 ∧ fault_0 ≤ 5) (kz_0_11 : 0 ≤ pos_0 ∧ pos_0 ≤ 2000) : (1 ≤ fault_0) ∨ ((x3 + 1) ≤ pos_0) := by
  first
    | omega
    | (have q1 := (hE_0_2_1 (r_0 + 2) (by omega)).2 (by omega)
       have q2 := (hE_0_2_2 (r_0 + 2) (by omega)).2 (by omega)
       omega)
    | (have q1 := (hE_0_2_1 (r_0 + 1) (by omega)).2 (by omega)
       have q2 := (hE_0_2_2 (r_0 + 1) (by omega)).2 (by omega)
       omega)
    | (have q1 := (hE_0_2_1 (r_0 + 2) (by omega)).2 (by omega)
       omega)
    | (have q1 := (hE_0_2_1 (r_0 + 1) (by omega)).2 (by omega)
       omega)
    | (have q1 := (hE_0_2_1 (r_0 + 2) (by omega)).2 (by omega)
       have q2 := (hE_0_2_2 (r_0 + 2) (by omega)).2 (by omega)
       have q3 := (hE_0_2_3 (r_0 + 2) (by omega)).1 (by omega)
       omega)
    | (have q1 := (hE_0_2_1 (r_0 + 2) (by omega)).2 (by omega)
       have q2 := (hE_0_2_2 (r_0 + 2) (by omega)).2 (by omega)
       have q3 := (hE_0_2_3 (r_0 + 2) (by omega)).2 (by omega)
       omega)
def o_Mo_item_at_k4_14 : or_T := (94, 24, [(0, (2, 0, 0, [165])), (3, (0, 0, 2000, [])), (23, (0, 0, 2000, []))], [(23, [23, 3], [0, 1, -1]), (23, [23, 3], [0, -1, 1]), (20, [23, 0], [30, 0, 1, 0, 0, -1, 1, 11]), (20, [0, 23], [50, 2, 0, 8, 11, 3, 7, 0, 2, 0, 1, 2, 0, 8, 0, 6, 4, 2, 1, 1, 0, 1, 2, 0, 11])], [], [], [(20, [3, 0], [30, 0, 1, 0, 0, -1, 1, 11]), (20, [0, 3], [50, 2, 0, 8, 11, 3, 7, 0, 2, 0, 1, 2, 0, 8, 0, 6, 4, 2, 1, 1, 0, 1, 2, 0, 11])], [], [])
theorem oo_Mo_item_at_k4_14 {kA : Nat → ClassId} : or_ok PRD kA GG o_Mo_item_at_k4_14 := by
  refine or_mk fun A ta ws vs hD hth hl => ?_
  intro t0 r0 t3 k3 t23 k23 f2 f3 f14 f15
  have kz_0_8 := fdq_14 hD hth r0
  have kz_0_11 := fdq_273 hD hth r0
  have nf0 : fc_1 PRD (20, [3, 0], [30, 0, 1, 0, 0, -1, 1, 11]) ws (vs) := ⟨nf_in hl rfl, sgq_1395 (vc_Mo_item_at_k4_14_0 (v_iv (n_v vs 3)) (v_iv (n_v vs 23)) (w_fi ws (n_v vs 0) 5) (w_fi ws (n_v vs 0) 11) k3 k23 (shm_7 f2) (shm_22 f3) (shm_1395 f14) kz_0_11)⟩
  have nf1 : fc_1 PRD (20, [0, 3], [50, 2, 0, 8, 11, 3, 7, 0, 2, 0, 1, 2, 0, 8, 0, 6, 4, 2, 1, 1, 0, 1, 2, 0, 11]) ws (vs) := ⟨nf_in hl rfl, sgq_1659 (vc_Mo_item_at_k4_14_1 (v_iv (n_v vs 3)) (v_iv (n_v vs 23)) (w_fi ws (n_v vs 0) 5) (w_fi ws (n_v vs 0) 11) (w_fi ws (n_v vs 0) 8) k3 k23 (shm_7 f2) (shm_22 f3) (shm_1395 f14) (shm_1659 f15) kz_0_8 kz_0_11)⟩
  refine ⟨(fun _ h => (by cases h)), [], trivial, ?_, (fun _ h => (by cases h))⟩
  rw [List.append_nil]
  exact List.forall_mem_cons.mpr ⟨⟨show (20 : Nat) < 100 from by decide, nf0⟩, List.forall_mem_cons.mpr ⟨⟨show (20 : Nat) < 100 from by decide, nf1⟩, (fun _ h => (by cases h))⟩⟩
def n_Mo_item_at_k4_an : List an_T := []
def t_Mo_item_at_k4_ct : ct_L := [(1, 460, e_Mo_next), (1, 491, e_Mo_need), (1, 494, e_Mo_met), (1, 506, e_Mo_edgeItem), (16, 469, e_Mo_isWord_at_s5000), (85, 499, e_Mo_of_at_s5002), (226, 469, e_Mo_isWord_at_s5001), (253, 503, e_Mo_groupItem_at_k4), (1000001, 467, en_ro [] (2, 0, 0, [5000])), (1000001, 473, en_ro [] (2, 0, 0, [5001])), (1000001, 497, en_ro [] (2, 0, 0, [5002]))]
set_option maxRecDepth 100000 in
theorem c_Mo_item_at_k4 {l : Launch} {D : va_G} {kA : Nat → ClassId} (h_Mo_edgeItem : ct_ok PRD l D kA GG y_Mo_edgeItem z_Mo_edgeItem e_Mo_edgeItem) (h_Mo_groupItem_at_k4 : ct_ok PRD l D kA GG y_Mo_groupItem_at_k4 z_Mo_groupItem_at_k4 e_Mo_groupItem_at_k4) (h_Mo_isWord_at_s5000 : ct_ok PRD l D kA GG y_Mo_isWord_at_s5000 z_Mo_isWord_at_s5000 e_Mo_isWord_at_s5000) (h_Mo_isWord_at_s5001 : ct_ok PRD l D kA GG y_Mo_isWord_at_s5001 z_Mo_isWord_at_s5001 e_Mo_isWord_at_s5001) (h_Mo_met : ct_ok PRD l D kA GG y_Mo_met z_Mo_met e_Mo_met) (h_Mo_need : ct_ok PRD l D kA GG y_Mo_need z_Mo_need e_Mo_need) (h_Mo_next : ct_ok PRD l D kA GG y_Mo_next z_Mo_next e_Mo_next) (h_Mo_of_at_s5002 : ct_ok PRD l D kA GG y_Mo_of_at_s5002 z_Mo_of_at_s5002 e_Mo_of_at_s5002) : ct_ok PRD l D kA GG y_Mo_item_at_k4 z_Mo_item_at_k4 e_Mo_item_at_k4 := chk_all_ok (FT := [(16, 13, 2), (391, 13, 5), (413, 13, 8)]) (PT := []) (CT := t_Mo_item_at_k4_ct) (KT := []) (NT := []) (AN := n_Mo_item_at_k4_an) (OT := [o_Mo_item_at_k4_0, o_Mo_item_at_k4_1, o_Mo_item_at_k4_2, o_Mo_item_at_k4_3, o_Mo_item_at_k4_4, o_Mo_item_at_k4_5, o_Mo_item_at_k4_6, o_Mo_item_at_k4_7, o_Mo_item_at_k4_8, o_Mo_item_at_k4_9, o_Mo_item_at_k4_10, o_Mo_item_at_k4_11, o_Mo_item_at_k4_12, o_Mo_item_at_k4_13, o_Mo_item_at_k4_14]) 0 240 (List.forall_mem_cons.mpr ⟨oo_Mo_item_at_k4_0, List.forall_mem_cons.mpr ⟨oo_Mo_item_at_k4_1, List.forall_mem_cons.mpr ⟨oo_Mo_item_at_k4_2, List.forall_mem_cons.mpr ⟨oo_Mo_item_at_k4_3, List.forall_mem_cons.mpr ⟨oo_Mo_item_at_k4_4, List.forall_mem_cons.mpr ⟨oo_Mo_item_at_k4_5, List.forall_mem_cons.mpr ⟨oo_Mo_item_at_k4_6, List.forall_mem_cons.mpr ⟨oo_Mo_item_at_k4_7, List.forall_mem_cons.mpr ⟨oo_Mo_item_at_k4_8, List.forall_mem_cons.mpr ⟨oo_Mo_item_at_k4_9, List.forall_mem_cons.mpr ⟨oo_Mo_item_at_k4_10, List.forall_mem_cons.mpr ⟨oo_Mo_item_at_k4_11, List.forall_mem_cons.mpr ⟨oo_Mo_item_at_k4_12, List.forall_mem_cons.mpr ⟨oo_Mo_item_at_k4_13, List.forall_mem_cons.mpr ⟨oo_Mo_item_at_k4_14, List.forall_mem_nil _⟩⟩⟩⟩⟩⟩⟩⟩⟩⟩⟩⟩⟩⟩⟩) (by decide +kernel) ⟨List.forall_mem_cons.mpr ⟨gf_Mo_16, List.forall_mem_cons.mpr ⟨gf_Mo_391, List.forall_mem_cons.mpr ⟨gf_Mo_413, List.forall_mem_nil _⟩⟩⟩, List.forall_mem_nil _, List.forall_mem_cons.mpr ⟨cl_virtual (y := y_Mo_next) (ci := 13) rfl rfl ⟨_, _, rfl⟩ (by decide +kernel) h_Mo_next wm_2982 wm_9 wm_2979 wm_2981 wv_12_11 ⟨by decide, by decide, by decide +kernel⟩ (by decide), List.forall_mem_cons.mpr ⟨cl_virtual (y := y_Mo_need) (ci := 13) rfl rfl ⟨_, _, rfl⟩ (by decide +kernel) h_Mo_need wm_3062 wm_9 wm_3059 wm_3061 wv_13_12 ⟨by decide, by decide, by decide +kernel⟩ (by decide), List.forall_mem_cons.mpr ⟨cl_virtual (y := y_Mo_met) (ci := 13) rfl rfl ⟨_, _, rfl⟩ (by decide +kernel) h_Mo_met wm_3008 wm_9 wm_3005 wm_3007 wv_12_15 ⟨by decide, by decide, by decide +kernel⟩ (by decide), List.forall_mem_cons.mpr ⟨cl_virtual (y := y_Mo_edgeItem) (ci := 13) rfl rfl ⟨_, _, rfl⟩ (by decide +kernel) h_Mo_edgeItem wm_3074 wm_9 wm_3071 wm_3073 wv_13_15 ⟨by decide, by decide, by decide +kernel⟩ (by decide), List.forall_mem_cons.mpr ⟨cl_virtual (y := y_Mo_isWord_at_s5000) (ci := 13) rfl rfl ⟨_, _, rfl⟩ (by decide +kernel) h_Mo_isWord_at_s5000 wm_3002 wm_9 wm_2999 wm_3001 wv_12_14 ⟨by decide, by decide, by decide +kernel⟩ (by decide), List.forall_mem_cons.mpr ⟨cl_virtual (y := y_Mo_of_at_s5002) (ci := 13) rfl rfl ⟨_, _, rfl⟩ (by decide +kernel) h_Mo_of_at_s5002 wm_3054 wm_9 wm_3051 wm_3053 wv_13_10 ⟨by decide, by decide, by decide +kernel⟩ (by decide), List.forall_mem_cons.mpr ⟨cl_virtual (y := y_Mo_isWord_at_s5001) (ci := 13) rfl rfl ⟨_, _, rfl⟩ (by decide +kernel) h_Mo_isWord_at_s5001 wm_3002 wm_9 wm_2999 wm_3001 wv_12_14 ⟨by decide, by decide, by decide +kernel⟩ (by decide), List.forall_mem_cons.mpr ⟨cl_virtual (y := y_Mo_groupItem_at_k4) (ci := 13) rfl rfl ⟨_, _, rfl⟩ (by decide +kernel) h_Mo_groupItem_at_k4 wm_3066 wm_9 wm_3063 wm_3065 wv_13_13 ⟨by decide, by decide, by decide +kernel⟩ (by decide), List.forall_mem_cons.mpr ⟨cl_ldcw (own := "DrawingHouseModel") (idx := 467) (i := 0) (tx := "node") (by decide +kernel) (by decide +kernel) (by decide +kernel), List.forall_mem_cons.mpr ⟨cl_ldcw (own := "DrawingHouseModel") (idx := 473) (i := 1) (tx := "group") (by decide +kernel) (by decide +kernel) (by decide +kernel), List.forall_mem_cons.mpr ⟨cl_ldcw (own := "DrawingHouseModel") (idx := 497) (i := 2) (tx := "size") (by decide +kernel) (by decide +kernel) (by decide +kernel), List.forall_mem_nil _⟩⟩⟩⟩⟩⟩⟩⟩⟩⟩⟩, List.forall_mem_nil _, List.forall_mem_nil _, GG_pl⟩ (by decide +kernel)

set_option maxHeartbeats 4000000 in
theorem vc_Mo_product_at_f0_0_0 (x1 : Int) (x2 : Int) (x3 : Int) (tokenKind_0 : Int → Int) (cur_0 : Int) (tokens_0 : Int) (styleKind_0 : Int) (styleOne_0 : Int) (opened_0 : Int) (fault_0 : Int) (gx : Int) (gy : Int) (gu : Int) (k1 : 0 ≤ x1 ∧ x1 ≤ 2009) (k2 : 0 ≤ x2 ∧ x2 ≤ 5) (k3 : 0 ≤ x3 ∧ x3 ≤ 13) (f0 : ((cur_0 + 1) ≤ tokens_0) ∧ ((tokens_0 ≤ 2010) ∧ ((tokenKind_0 ((tokens_0 - 1)) = 0) ∨ (tokenKind_0 ((tokens_0 - 1)) = 4)))) (f1 : 1 * cur_0 + ((-1) * x1 + 0) ≤ 0) (f2 : (-1) * cur_0 + (1 * x1 + 0) ≤ 0) (f3 : (styleKind_0 = 0) → (styleOne_0 ≤ 23)) (f4 : 1 * opened_0 + 0 ≤ 0) (f5 : (-1) * opened_0 + 0 ≤ 0) (f6 : fault_0 = x2) (f7 : opened_0 = x3) (hK_0_160 : ∀ j : Int, 0 ≤ j → j < 2010 → 0 ≤ tokenKind_0 j ∧ tokenKind_0 j ≤ 4) (kz_0_8 : 0 ≤ fault_0 ∧ fault_0 ≤ 5) (kz_0_157 : 0 ≤ tokens_0 ∧ tokens_0 ≤ 2010) (kz_0_158 : 0 ≤ cur_0 ∧ cur_0 ≤ 2009) (kz_0_159 : 0 ≤ opened_0 ∧ opened_0 ≤ 13) (kz_0_164 : 0 ≤ styleKind_0 ∧ styleKind_0 ≤ 1) (kz_0_165 : (-1) ≤ styleOne_0 ∧ styleOne_0 ≤ 47) (ex2 : gx = cur_0) (ex3 : 0 ≤ gx ∧ gx ≤ 2009) (ey2 : gy = fault_0) (ey3 : 0 ≤ gy ∧ gy ≤ 5) (eu2 : gu = opened_0) (eu3 : 0 ≤ gu ∧ gu ≤ 13) : 1 * x3 + 0 ≤ 0 := by
  first | assumption | (clear f0 f3 hK_0_160; omega) | (clear hK_0_160; grind) | omega | grind
set_option maxHeartbeats 4000000 in
theorem vc_Mo_product_at_f0_0_1 (x1 : Int) (x2 : Int) (x3 : Int) (tokenKind_0 : Int → Int) (cur_0 : Int) (tokens_0 : Int) (styleKind_0 : Int) (styleOne_0 : Int) (opened_0 : Int) (fault_0 : Int) (gx : Int) (gy : Int) (gu : Int) (k1 : 0 ≤ x1 ∧ x1 ≤ 2009) (k2 : 0 ≤ x2 ∧ x2 ≤ 5) (k3 : 0 ≤ x3 ∧ x3 ≤ 13) (f0 : ((cur_0 + 1) ≤ tokens_0) ∧ ((tokens_0 ≤ 2010) ∧ ((tokenKind_0 ((tokens_0 - 1)) = 0) ∨ (tokenKind_0 ((tokens_0 - 1)) = 4)))) (f1 : 1 * cur_0 + ((-1) * x1 + 0) ≤ 0) (f2 : (-1) * cur_0 + (1 * x1 + 0) ≤ 0) (f3 : (styleKind_0 = 0) → (styleOne_0 ≤ 23)) (f4 : 1 * opened_0 + 0 ≤ 0) (f5 : (-1) * opened_0 + 0 ≤ 0) (f6 : fault_0 = x2) (f7 : opened_0 = x3) (hK_0_160 : ∀ j : Int, 0 ≤ j → j < 2010 → 0 ≤ tokenKind_0 j ∧ tokenKind_0 j ≤ 4) (kz_0_8 : 0 ≤ fault_0 ∧ fault_0 ≤ 5) (kz_0_157 : 0 ≤ tokens_0 ∧ tokens_0 ≤ 2010) (kz_0_158 : 0 ≤ cur_0 ∧ cur_0 ≤ 2009) (kz_0_159 : 0 ≤ opened_0 ∧ opened_0 ≤ 13) (kz_0_164 : 0 ≤ styleKind_0 ∧ styleKind_0 ≤ 1) (kz_0_165 : (-1) ≤ styleOne_0 ∧ styleOne_0 ≤ 47) (ex2 : gx = cur_0) (ex3 : 0 ≤ gx ∧ gx ≤ 2009) (ey2 : gy = fault_0) (ey3 : 0 ≤ gy ∧ gy ≤ 5) (eu2 : gu = opened_0) (eu3 : 0 ≤ gu ∧ gu ≤ 13) : (-1) * x3 + 0 ≤ 0 := by
  first | assumption | (clear f0 f3 hK_0_160; omega) | (clear hK_0_160; grind) | omega | grind
set_option maxHeartbeats 4000000 in
theorem vc_Mo_product_at_f0_0_2 (x1 : Int) (x2 : Int) (x3 : Int) (tokenKind_0 : Int → Int) (cur_0 : Int) (tokens_0 : Int) (styleKind_0 : Int) (styleOne_0 : Int) (opened_0 : Int) (fault_0 : Int) (gx : Int) (gy : Int) (gu : Int) (k1 : 0 ≤ x1 ∧ x1 ≤ 2009) (k2 : 0 ≤ x2 ∧ x2 ≤ 5) (k3 : 0 ≤ x3 ∧ x3 ≤ 13) (f0 : ((cur_0 + 1) ≤ tokens_0) ∧ ((tokens_0 ≤ 2010) ∧ ((tokenKind_0 ((tokens_0 - 1)) = 0) ∨ (tokenKind_0 ((tokens_0 - 1)) = 4)))) (f1 : 1 * cur_0 + ((-1) * x1 + 0) ≤ 0) (f2 : (-1) * cur_0 + (1 * x1 + 0) ≤ 0) (f3 : (styleKind_0 = 0) → (styleOne_0 ≤ 23)) (f4 : 1 * opened_0 + 0 ≤ 0) (f5 : (-1) * opened_0 + 0 ≤ 0) (f6 : fault_0 = x2) (f7 : opened_0 = x3) (hK_0_160 : ∀ j : Int, 0 ≤ j → j < 2010 → 0 ≤ tokenKind_0 j ∧ tokenKind_0 j ≤ 4) (kz_0_8 : 0 ≤ fault_0 ∧ fault_0 ≤ 5) (kz_0_157 : 0 ≤ tokens_0 ∧ tokens_0 ≤ 2010) (kz_0_158 : 0 ≤ cur_0 ∧ cur_0 ≤ 2009) (kz_0_159 : 0 ≤ opened_0 ∧ opened_0 ≤ 13) (kz_0_164 : 0 ≤ styleKind_0 ∧ styleKind_0 ≤ 1) (kz_0_165 : (-1) ≤ styleOne_0 ∧ styleOne_0 ≤ 47) (ex2 : gx = cur_0) (ex3 : 0 ≤ gx ∧ gx ≤ 2009) (ey2 : gy = fault_0) (ey3 : 0 ≤ gy ∧ gy ≤ 5) (eu2 : gu = opened_0) (eu3 : 0 ≤ gu ∧ gu ≤ 13) : ((cur_0 + 1) ≤ tokens_0) ∧ ((tokens_0 ≤ 2010) ∧ ((tokenKind_0 ((tokens_0 - 1)) = 0) ∨ (tokenKind_0 ((tokens_0 - 1)) = 4))) := by
  first | assumption | (clear f0 f3 hK_0_160; omega) | (clear hK_0_160; grind) | omega | grind
set_option maxHeartbeats 4000000 in
theorem vc_Mo_product_at_f0_0_3 (x1 : Int) (x2 : Int) (x3 : Int) (tokenKind_0 : Int → Int) (cur_0 : Int) (tokens_0 : Int) (styleKind_0 : Int) (styleOne_0 : Int) (opened_0 : Int) (fault_0 : Int) (gx : Int) (gy : Int) (gu : Int) (k1 : 0 ≤ x1 ∧ x1 ≤ 2009) (k2 : 0 ≤ x2 ∧ x2 ≤ 5) (k3 : 0 ≤ x3 ∧ x3 ≤ 13) (f0 : ((cur_0 + 1) ≤ tokens_0) ∧ ((tokens_0 ≤ 2010) ∧ ((tokenKind_0 ((tokens_0 - 1)) = 0) ∨ (tokenKind_0 ((tokens_0 - 1)) = 4)))) (f1 : 1 * cur_0 + ((-1) * x1 + 0) ≤ 0) (f2 : (-1) * cur_0 + (1 * x1 + 0) ≤ 0) (f3 : (styleKind_0 = 0) → (styleOne_0 ≤ 23)) (f4 : 1 * opened_0 + 0 ≤ 0) (f5 : (-1) * opened_0 + 0 ≤ 0) (f6 : fault_0 = x2) (f7 : opened_0 = x3) (hK_0_160 : ∀ j : Int, 0 ≤ j → j < 2010 → 0 ≤ tokenKind_0 j ∧ tokenKind_0 j ≤ 4) (kz_0_8 : 0 ≤ fault_0 ∧ fault_0 ≤ 5) (kz_0_157 : 0 ≤ tokens_0 ∧ tokens_0 ≤ 2010) (kz_0_158 : 0 ≤ cur_0 ∧ cur_0 ≤ 2009) (kz_0_159 : 0 ≤ opened_0 ∧ opened_0 ≤ 13) (kz_0_164 : 0 ≤ styleKind_0 ∧ styleKind_0 ≤ 1) (kz_0_165 : (-1) ≤ styleOne_0 ∧ styleOne_0 ≤ 47) (ex2 : gx = cur_0) (ex3 : 0 ≤ gx ∧ gx ≤ 2009) (ey2 : gy = fault_0) (ey3 : 0 ≤ gy ∧ gy ≤ 5) (eu2 : gu = opened_0) (eu3 : 0 ≤ gu ∧ gu ≤ 13) : 1 * cur_0 + ((-1) * gx + 0) ≤ 0 := by
  first | assumption | (clear f0 f3 hK_0_160; omega) | (clear hK_0_160; grind) | omega | grind
set_option maxHeartbeats 4000000 in
theorem vc_Mo_product_at_f0_0_4 (x1 : Int) (x2 : Int) (x3 : Int) (tokenKind_0 : Int → Int) (cur_0 : Int) (tokens_0 : Int) (styleKind_0 : Int) (styleOne_0 : Int) (opened_0 : Int) (fault_0 : Int) (gx : Int) (gy : Int) (gu : Int) (k1 : 0 ≤ x1 ∧ x1 ≤ 2009) (k2 : 0 ≤ x2 ∧ x2 ≤ 5) (k3 : 0 ≤ x3 ∧ x3 ≤ 13) (f0 : ((cur_0 + 1) ≤ tokens_0) ∧ ((tokens_0 ≤ 2010) ∧ ((tokenKind_0 ((tokens_0 - 1)) = 0) ∨ (tokenKind_0 ((tokens_0 - 1)) = 4)))) (f1 : 1 * cur_0 + ((-1) * x1 + 0) ≤ 0) (f2 : (-1) * cur_0 + (1 * x1 + 0) ≤ 0) (f3 : (styleKind_0 = 0) → (styleOne_0 ≤ 23)) (f4 : 1 * opened_0 + 0 ≤ 0) (f5 : (-1) * opened_0 + 0 ≤ 0) (f6 : fault_0 = x2) (f7 : opened_0 = x3) (hK_0_160 : ∀ j : Int, 0 ≤ j → j < 2010 → 0 ≤ tokenKind_0 j ∧ tokenKind_0 j ≤ 4) (kz_0_8 : 0 ≤ fault_0 ∧ fault_0 ≤ 5) (kz_0_157 : 0 ≤ tokens_0 ∧ tokens_0 ≤ 2010) (kz_0_158 : 0 ≤ cur_0 ∧ cur_0 ≤ 2009) (kz_0_159 : 0 ≤ opened_0 ∧ opened_0 ≤ 13) (kz_0_164 : 0 ≤ styleKind_0 ∧ styleKind_0 ≤ 1) (kz_0_165 : (-1) ≤ styleOne_0 ∧ styleOne_0 ≤ 47) (ex2 : gx = cur_0) (ex3 : 0 ≤ gx ∧ gx ≤ 2009) (ey2 : gy = fault_0) (ey3 : 0 ≤ gy ∧ gy ≤ 5) (eu2 : gu = opened_0) (eu3 : 0 ≤ gu ∧ gu ≤ 13) : (-1) * cur_0 + (1 * gx + 0) ≤ 0 := by
  first | assumption | (clear f0 f3 hK_0_160; omega) | (clear hK_0_160; grind) | omega | grind
set_option maxHeartbeats 4000000 in
theorem vc_Mo_product_at_f0_0_5 (x1 : Int) (x2 : Int) (x3 : Int) (tokenKind_0 : Int → Int) (cur_0 : Int) (tokens_0 : Int) (styleKind_0 : Int) (styleOne_0 : Int) (opened_0 : Int) (fault_0 : Int) (gx : Int) (gy : Int) (gu : Int) (k1 : 0 ≤ x1 ∧ x1 ≤ 2009) (k2 : 0 ≤ x2 ∧ x2 ≤ 5) (k3 : 0 ≤ x3 ∧ x3 ≤ 13) (f0 : ((cur_0 + 1) ≤ tokens_0) ∧ ((tokens_0 ≤ 2010) ∧ ((tokenKind_0 ((tokens_0 - 1)) = 0) ∨ (tokenKind_0 ((tokens_0 - 1)) = 4)))) (f1 : 1 * cur_0 + ((-1) * x1 + 0) ≤ 0) (f2 : (-1) * cur_0 + (1 * x1 + 0) ≤ 0) (f3 : (styleKind_0 = 0) → (styleOne_0 ≤ 23)) (f4 : 1 * opened_0 + 0 ≤ 0) (f5 : (-1) * opened_0 + 0 ≤ 0) (f6 : fault_0 = x2) (f7 : opened_0 = x3) (hK_0_160 : ∀ j : Int, 0 ≤ j → j < 2010 → 0 ≤ tokenKind_0 j ∧ tokenKind_0 j ≤ 4) (kz_0_8 : 0 ≤ fault_0 ∧ fault_0 ≤ 5) (kz_0_157 : 0 ≤ tokens_0 ∧ tokens_0 ≤ 2010) (kz_0_158 : 0 ≤ cur_0 ∧ cur_0 ≤ 2009) (kz_0_159 : 0 ≤ opened_0 ∧ opened_0 ≤ 13) (kz_0_164 : 0 ≤ styleKind_0 ∧ styleKind_0 ≤ 1) (kz_0_165 : (-1) ≤ styleOne_0 ∧ styleOne_0 ≤ 47) (ex2 : gx = cur_0) (ex3 : 0 ≤ gx ∧ gx ≤ 2009) (ey2 : gy = fault_0) (ey3 : 0 ≤ gy ∧ gy ≤ 5) (eu2 : gu = opened_0) (eu3 : 0 ≤ gu ∧ gu ≤ 13) : (styleKind_0 = 0) → (styleOne_0 ≤ 23) := by
  first | assumption | (clear f0 f3 hK_0_160; omega) | (clear hK_0_160; grind) | omega | grind
set_option maxHeartbeats 4000000 in
theorem vc_Mo_product_at_f0_0_6 (x1 : Int) (x2 : Int) (x3 : Int) (tokenKind_0 : Int → Int) (cur_0 : Int) (tokens_0 : Int) (styleKind_0 : Int) (styleOne_0 : Int) (opened_0 : Int) (fault_0 : Int) (gx : Int) (gy : Int) (gu : Int) (k1 : 0 ≤ x1 ∧ x1 ≤ 2009) (k2 : 0 ≤ x2 ∧ x2 ≤ 5) (k3 : 0 ≤ x3 ∧ x3 ≤ 13) (f0 : ((cur_0 + 1) ≤ tokens_0) ∧ ((tokens_0 ≤ 2010) ∧ ((tokenKind_0 ((tokens_0 - 1)) = 0) ∨ (tokenKind_0 ((tokens_0 - 1)) = 4)))) (f1 : 1 * cur_0 + ((-1) * x1 + 0) ≤ 0) (f2 : (-1) * cur_0 + (1 * x1 + 0) ≤ 0) (f3 : (styleKind_0 = 0) → (styleOne_0 ≤ 23)) (f4 : 1 * opened_0 + 0 ≤ 0) (f5 : (-1) * opened_0 + 0 ≤ 0) (f6 : fault_0 = x2) (f7 : opened_0 = x3) (hK_0_160 : ∀ j : Int, 0 ≤ j → j < 2010 → 0 ≤ tokenKind_0 j ∧ tokenKind_0 j ≤ 4) (kz_0_8 : 0 ≤ fault_0 ∧ fault_0 ≤ 5) (kz_0_157 : 0 ≤ tokens_0 ∧ tokens_0 ≤ 2010) (kz_0_158 : 0 ≤ cur_0 ∧ cur_0 ≤ 2009) (kz_0_159 : 0 ≤ opened_0 ∧ opened_0 ≤ 13) (kz_0_164 : 0 ≤ styleKind_0 ∧ styleKind_0 ≤ 1) (kz_0_165 : (-1) ≤ styleOne_0 ∧ styleOne_0 ≤ 47) (ex2 : gx = cur_0) (ex3 : 0 ≤ gx ∧ gx ≤ 2009) (ey2 : gy = fault_0) (ey3 : 0 ≤ gy ∧ gy ≤ 5) (eu2 : gu = opened_0) (eu3 : 0 ≤ gu ∧ gu ≤ 13) : 1 * opened_0 + 0 ≤ 0 := by
  first | assumption | (clear f0 f3 hK_0_160; omega) | (clear hK_0_160; grind) | omega | grind
set_option maxHeartbeats 4000000 in
theorem vc_Mo_product_at_f0_0_7 (x1 : Int) (x2 : Int) (x3 : Int) (tokenKind_0 : Int → Int) (cur_0 : Int) (tokens_0 : Int) (styleKind_0 : Int) (styleOne_0 : Int) (opened_0 : Int) (fault_0 : Int) (gx : Int) (gy : Int) (gu : Int) (k1 : 0 ≤ x1 ∧ x1 ≤ 2009) (k2 : 0 ≤ x2 ∧ x2 ≤ 5) (k3 : 0 ≤ x3 ∧ x3 ≤ 13) (f0 : ((cur_0 + 1) ≤ tokens_0) ∧ ((tokens_0 ≤ 2010) ∧ ((tokenKind_0 ((tokens_0 - 1)) = 0) ∨ (tokenKind_0 ((tokens_0 - 1)) = 4)))) (f1 : 1 * cur_0 + ((-1) * x1 + 0) ≤ 0) (f2 : (-1) * cur_0 + (1 * x1 + 0) ≤ 0) (f3 : (styleKind_0 = 0) → (styleOne_0 ≤ 23)) (f4 : 1 * opened_0 + 0 ≤ 0) (f5 : (-1) * opened_0 + 0 ≤ 0) (f6 : fault_0 = x2) (f7 : opened_0 = x3) (hK_0_160 : ∀ j : Int, 0 ≤ j → j < 2010 → 0 ≤ tokenKind_0 j ∧ tokenKind_0 j ≤ 4) (kz_0_8 : 0 ≤ fault_0 ∧ fault_0 ≤ 5) (kz_0_157 : 0 ≤ tokens_0 ∧ tokens_0 ≤ 2010) (kz_0_158 : 0 ≤ cur_0 ∧ cur_0 ≤ 2009) (kz_0_159 : 0 ≤ opened_0 ∧ opened_0 ≤ 13) (kz_0_164 : 0 ≤ styleKind_0 ∧ styleKind_0 ≤ 1) (kz_0_165 : (-1) ≤ styleOne_0 ∧ styleOne_0 ≤ 47) (ex2 : gx = cur_0) (ex3 : 0 ≤ gx ∧ gx ≤ 2009) (ey2 : gy = fault_0) (ey3 : 0 ≤ gy ∧ gy ≤ 5) (eu2 : gu = opened_0) (eu3 : 0 ≤ gu ∧ gu ≤ 13) : (-1) * opened_0 + 0 ≤ 0 := by
  first | assumption | (clear f0 f3 hK_0_160; omega) | (clear hK_0_160; grind) | omega | grind
set_option maxHeartbeats 4000000 in
theorem vc_Mo_product_at_f0_0_8 (x1 : Int) (x2 : Int) (x3 : Int) (tokenKind_0 : Int → Int) (cur_0 : Int) (tokens_0 : Int) (styleKind_0 : Int) (styleOne_0 : Int) (opened_0 : Int) (fault_0 : Int) (gx : Int) (gy : Int) (gu : Int) (k1 : 0 ≤ x1 ∧ x1 ≤ 2009) (k2 : 0 ≤ x2 ∧ x2 ≤ 5) (k3 : 0 ≤ x3 ∧ x3 ≤ 13) (f0 : ((cur_0 + 1) ≤ tokens_0) ∧ ((tokens_0 ≤ 2010) ∧ ((tokenKind_0 ((tokens_0 - 1)) = 0) ∨ (tokenKind_0 ((tokens_0 - 1)) = 4)))) (f1 : 1 * cur_0 + ((-1) * x1 + 0) ≤ 0) (f2 : (-1) * cur_0 + (1 * x1 + 0) ≤ 0) (f3 : (styleKind_0 = 0) → (styleOne_0 ≤ 23)) (f4 : 1 * opened_0 + 0 ≤ 0) (f5 : (-1) * opened_0 + 0 ≤ 0) (f6 : fault_0 = x2) (f7 : opened_0 = x3) (hK_0_160 : ∀ j : Int, 0 ≤ j → j < 2010 → 0 ≤ tokenKind_0 j ∧ tokenKind_0 j ≤ 4) (kz_0_8 : 0 ≤ fault_0 ∧ fault_0 ≤ 5) (kz_0_157 : 0 ≤ tokens_0 ∧ tokens_0 ≤ 2010) (kz_0_158 : 0 ≤ cur_0 ∧ cur_0 ≤ 2009) (kz_0_159 : 0 ≤ opened_0 ∧ opened_0 ≤ 13) (kz_0_164 : 0 ≤ styleKind_0 ∧ styleKind_0 ≤ 1) (kz_0_165 : (-1) ≤ styleOne_0 ∧ styleOne_0 ≤ 47) (ex2 : gx = cur_0) (ex3 : 0 ≤ gx ∧ gx ≤ 2009) (ey2 : gy = fault_0) (ey3 : 0 ≤ gy ∧ gy ≤ 5) (eu2 : gu = opened_0) (eu3 : 0 ≤ gu ∧ gu ≤ 13) : fault_0 = gy := by
  first | assumption | (clear f0 f3 hK_0_160; omega) | (clear hK_0_160; grind) | omega | grind
set_option maxHeartbeats 4000000 in
theorem vc_Mo_product_at_f0_0_9 (x1 : Int) (x2 : Int) (x3 : Int) (tokenKind_0 : Int → Int) (cur_0 : Int) (tokens_0 : Int) (styleKind_0 : Int) (styleOne_0 : Int) (opened_0 : Int) (fault_0 : Int) (gx : Int) (gy : Int) (gu : Int) (k1 : 0 ≤ x1 ∧ x1 ≤ 2009) (k2 : 0 ≤ x2 ∧ x2 ≤ 5) (k3 : 0 ≤ x3 ∧ x3 ≤ 13) (f0 : ((cur_0 + 1) ≤ tokens_0) ∧ ((tokens_0 ≤ 2010) ∧ ((tokenKind_0 ((tokens_0 - 1)) = 0) ∨ (tokenKind_0 ((tokens_0 - 1)) = 4)))) (f1 : 1 * cur_0 + ((-1) * x1 + 0) ≤ 0) (f2 : (-1) * cur_0 + (1 * x1 + 0) ≤ 0) (f3 : (styleKind_0 = 0) → (styleOne_0 ≤ 23)) (f4 : 1 * opened_0 + 0 ≤ 0) (f5 : (-1) * opened_0 + 0 ≤ 0) (f6 : fault_0 = x2) (f7 : opened_0 = x3) (hK_0_160 : ∀ j : Int, 0 ≤ j → j < 2010 → 0 ≤ tokenKind_0 j ∧ tokenKind_0 j ≤ 4) (kz_0_8 : 0 ≤ fault_0 ∧ fault_0 ≤ 5) (kz_0_157 : 0 ≤ tokens_0 ∧ tokens_0 ≤ 2010) (kz_0_158 : 0 ≤ cur_0 ∧ cur_0 ≤ 2009) (kz_0_159 : 0 ≤ opened_0 ∧ opened_0 ≤ 13) (kz_0_164 : 0 ≤ styleKind_0 ∧ styleKind_0 ≤ 1) (kz_0_165 : (-1) ≤ styleOne_0 ∧ styleOne_0 ≤ 47) (ex2 : gx = cur_0) (ex3 : 0 ≤ gx ∧ gx ≤ 2009) (ey2 : gy = fault_0) (ey3 : 0 ≤ gy ∧ gy ≤ 5) (eu2 : gu = opened_0) (eu3 : 0 ≤ gu ∧ gu ≤ 13) : opened_0 = gu := by
  first | assumption | (clear f0 f3 hK_0_160; omega) | (clear hK_0_160; grind) | omega | grind
set_option maxHeartbeats 4000000 in
theorem vc_Mo_product_at_f0_0_10 (x1 : Int) (x2 : Int) (x3 : Int) (tokenKind_0 : Int → Int) (cur_0 : Int) (tokens_0 : Int) (styleKind_0 : Int) (styleOne_0 : Int) (opened_0 : Int) (fault_0 : Int) (gx : Int) (gy : Int) (gu : Int) (k1 : 0 ≤ x1 ∧ x1 ≤ 2009) (k2 : 0 ≤ x2 ∧ x2 ≤ 5) (k3 : 0 ≤ x3 ∧ x3 ≤ 13) (f0 : ((cur_0 + 1) ≤ tokens_0) ∧ ((tokens_0 ≤ 2010) ∧ ((tokenKind_0 ((tokens_0 - 1)) = 0) ∨ (tokenKind_0 ((tokens_0 - 1)) = 4)))) (f1 : 1 * cur_0 + ((-1) * x1 + 0) ≤ 0) (f2 : (-1) * cur_0 + (1 * x1 + 0) ≤ 0) (f3 : (styleKind_0 = 0) → (styleOne_0 ≤ 23)) (f4 : 1 * opened_0 + 0 ≤ 0) (f5 : (-1) * opened_0 + 0 ≤ 0) (f6 : fault_0 = x2) (f7 : opened_0 = x3) (hK_0_160 : ∀ j : Int, 0 ≤ j → j < 2010 → 0 ≤ tokenKind_0 j ∧ tokenKind_0 j ≤ 4) (kz_0_8 : 0 ≤ fault_0 ∧ fault_0 ≤ 5) (kz_0_157 : 0 ≤ tokens_0 ∧ tokens_0 ≤ 2010) (kz_0_158 : 0 ≤ cur_0 ∧ cur_0 ≤ 2009) (kz_0_159 : 0 ≤ opened_0 ∧ opened_0 ≤ 13) (kz_0_164 : 0 ≤ styleKind_0 ∧ styleKind_0 ≤ 1) (kz_0_165 : (-1) ≤ styleOne_0 ∧ styleOne_0 ≤ 47) (ex2 : gx = cur_0) (ex3 : 0 ≤ gx ∧ gx ≤ 2009) (ey2 : gy = fault_0) (ey3 : 0 ≤ gy ∧ gy ≤ 5) (eu2 : gu = opened_0) (eu3 : 0 ≤ gu ∧ gu ≤ 13) : 1 * x1 + ((-1) * gx + 0) ≤ 0 := by
  first | assumption | (clear f0 f3 hK_0_160; omega) | (clear hK_0_160; grind) | omega | grind
set_option maxHeartbeats 4000000 in
theorem vc_Mo_product_at_f0_0_11 (x1 : Int) (x2 : Int) (x3 : Int) (tokenKind_0 : Int → Int) (cur_0 : Int) (tokens_0 : Int) (styleKind_0 : Int) (styleOne_0 : Int) (opened_0 : Int) (fault_0 : Int) (gx : Int) (gy : Int) (gu : Int) (k1 : 0 ≤ x1 ∧ x1 ≤ 2009) (k2 : 0 ≤ x2 ∧ x2 ≤ 5) (k3 : 0 ≤ x3 ∧ x3 ≤ 13) (f0 : ((cur_0 + 1) ≤ tokens_0) ∧ ((tokens_0 ≤ 2010) ∧ ((tokenKind_0 ((tokens_0 - 1)) = 0) ∨ (tokenKind_0 ((tokens_0 - 1)) = 4)))) (f1 : 1 * cur_0 + ((-1) * x1 + 0) ≤ 0) (f2 : (-1) * cur_0 + (1 * x1 + 0) ≤ 0) (f3 : (styleKind_0 = 0) → (styleOne_0 ≤ 23)) (f4 : 1 * opened_0 + 0 ≤ 0) (f5 : (-1) * opened_0 + 0 ≤ 0) (f6 : fault_0 = x2) (f7 : opened_0 = x3) (hK_0_160 : ∀ j : Int, 0 ≤ j → j < 2010 → 0 ≤ tokenKind_0 j ∧ tokenKind_0 j ≤ 4) (kz_0_8 : 0 ≤ fault_0 ∧ fault_0 ≤ 5) (kz_0_157 : 0 ≤ tokens_0 ∧ tokens_0 ≤ 2010) (kz_0_158 : 0 ≤ cur_0 ∧ cur_0 ≤ 2009) (kz_0_159 : 0 ≤ opened_0 ∧ opened_0 ≤ 13) (kz_0_164 : 0 ≤ styleKind_0 ∧ styleKind_0 ≤ 1) (kz_0_165 : (-1) ≤ styleOne_0 ∧ styleOne_0 ≤ 47) (ex2 : gx = cur_0) (ex3 : 0 ≤ gx ∧ gx ≤ 2009) (ey2 : gy = fault_0) (ey3 : 0 ≤ gy ∧ gy ≤ 5) (eu2 : gu = opened_0) (eu3 : 0 ≤ gu ∧ gu ≤ 13) : gx = x1 := by
  first | assumption | (clear f0 f3 hK_0_160; omega) | (clear hK_0_160; grind) | omega | grind
set_option maxHeartbeats 4000000 in
theorem vc_Mo_product_at_f0_0_12 (x1 : Int) (x2 : Int) (x3 : Int) (tokenKind_0 : Int → Int) (cur_0 : Int) (tokens_0 : Int) (styleKind_0 : Int) (styleOne_0 : Int) (opened_0 : Int) (fault_0 : Int) (gx : Int) (gy : Int) (gu : Int) (k1 : 0 ≤ x1 ∧ x1 ≤ 2009) (k2 : 0 ≤ x2 ∧ x2 ≤ 5) (k3 : 0 ≤ x3 ∧ x3 ≤ 13) (f0 : ((cur_0 + 1) ≤ tokens_0) ∧ ((tokens_0 ≤ 2010) ∧ ((tokenKind_0 ((tokens_0 - 1)) = 0) ∨ (tokenKind_0 ((tokens_0 - 1)) = 4)))) (f1 : 1 * cur_0 + ((-1) * x1 + 0) ≤ 0) (f2 : (-1) * cur_0 + (1 * x1 + 0) ≤ 0) (f3 : (styleKind_0 = 0) → (styleOne_0 ≤ 23)) (f4 : 1 * opened_0 + 0 ≤ 0) (f5 : (-1) * opened_0 + 0 ≤ 0) (f6 : fault_0 = x2) (f7 : opened_0 = x3) (hK_0_160 : ∀ j : Int, 0 ≤ j → j < 2010 → 0 ≤ tokenKind_0 j ∧ tokenKind_0 j ≤ 4) (kz_0_8 : 0 ≤ fault_0 ∧ fault_0 ≤ 5) (kz_0_157 : 0 ≤ tokens_0 ∧ tokens_0 ≤ 2010) (kz_0_158 : 0 ≤ cur_0 ∧ cur_0 ≤ 2009) (kz_0_159 : 0 ≤ opened_0 ∧ opened_0 ≤ 13) (kz_0_164 : 0 ≤ styleKind_0 ∧ styleKind_0 ≤ 1) (kz_0_165 : (-1) ≤ styleOne_0 ∧ styleOne_0 ≤ 47) (ex2 : gx = cur_0) (ex3 : 0 ≤ gx ∧ gx ≤ 2009) (ey2 : gy = fault_0) (ey3 : 0 ≤ gy ∧ gy ≤ 5) (eu2 : gu = opened_0) (eu3 : 0 ≤ gu ∧ gu ≤ 13) : gy = x2 := by
  first | assumption | (clear f0 f3 hK_0_160; omega) | (clear hK_0_160; grind) | omega | grind
set_option maxHeartbeats 4000000 in
theorem vc_Mo_product_at_f0_0_13 (x1 : Int) (x2 : Int) (x3 : Int) (tokenKind_0 : Int → Int) (cur_0 : Int) (tokens_0 : Int) (styleKind_0 : Int) (styleOne_0 : Int) (opened_0 : Int) (fault_0 : Int) (gx : Int) (gy : Int) (gu : Int) (k1 : 0 ≤ x1 ∧ x1 ≤ 2009) (k2 : 0 ≤ x2 ∧ x2 ≤ 5) (k3 : 0 ≤ x3 ∧ x3 ≤ 13) (f0 : ((cur_0 + 1) ≤ tokens_0) ∧ ((tokens_0 ≤ 2010) ∧ ((tokenKind_0 ((tokens_0 - 1)) = 0) ∨ (tokenKind_0 ((tokens_0 - 1)) = 4)))) (f1 : 1 * cur_0 + ((-1) * x1 + 0) ≤ 0) (f2 : (-1) * cur_0 + (1 * x1 + 0) ≤ 0) (f3 : (styleKind_0 = 0) → (styleOne_0 ≤ 23)) (f4 : 1 * opened_0 + 0 ≤ 0) (f5 : (-1) * opened_0 + 0 ≤ 0) (f6 : fault_0 = x2) (f7 : opened_0 = x3) (hK_0_160 : ∀ j : Int, 0 ≤ j → j < 2010 → 0 ≤ tokenKind_0 j ∧ tokenKind_0 j ≤ 4) (kz_0_8 : 0 ≤ fault_0 ∧ fault_0 ≤ 5) (kz_0_157 : 0 ≤ tokens_0 ∧ tokens_0 ≤ 2010) (kz_0_158 : 0 ≤ cur_0 ∧ cur_0 ≤ 2009) (kz_0_159 : 0 ≤ opened_0 ∧ opened_0 ≤ 13) (kz_0_164 : 0 ≤ styleKind_0 ∧ styleKind_0 ≤ 1) (kz_0_165 : (-1) ≤ styleOne_0 ∧ styleOne_0 ≤ 47) (ex2 : gx = cur_0) (ex3 : 0 ≤ gx ∧ gx ≤ 2009) (ey2 : gy = fault_0) (ey3 : 0 ≤ gy ∧ gy ≤ 5) (eu2 : gu = opened_0) (eu3 : 0 ≤ gu ∧ gu ≤ 13) : gu = x3 := by
  first | assumption | (clear f0 f3 hK_0_160; omega) | (clear hK_0_160; grind) | omega | grind
def o_Mo_product_at_f0_0 : or_T := (1, 4, [(0, (2, 0, 0, [165])), (1, (0, 0, 2009, [])), (2, (0, 0, 5, [])), (3, (0, 0, 13, []))], [(20, [0], [50, 2, 1, 158, 157, 160, 2, 12, 0, 7, 4, 3, 2, 0, 158, 0, 1, 2, 0, 157, 2, 7, 0, 3, 2, 0, 157, 0, 2010, 3, 14, 1, 10, 3, 0, 160, 5, 3, 2, 0, 157, 0, 1, 0, 0, 1, 10, 3, 0, 160, 5, 3, 2, 0, 157, 0, 1, 0, 4]), (20, [0, 1], [30, 0, 1, 1, 158, -1, 0, 0]), (20, [0, 1], [30, 0, -1, 1, 158, 1, 0, 0]), (20, [0], [50, 2, 0, 164, 165, 4, 7, 1, 3, 2, 0, 164, 0, 0, 0, 3, 2, 0, 165, 0, 23]), (20, [0], [30, 0, 1, 1, 159]), (20, [0], [30, 0, -1, 1, 159]), (20, [0, 2], [50, 1, 0, 8, 1, 3, 2, 0, 8, 1, 1]), (20, [0, 3], [50, 1, 0, 159, 1, 3, 2, 0, 159, 1, 1])], [], [(0, 0, 2009, []), (0, 0, 5, []), (0, 0, 13, [])], [(23, [3], [0, 1]), (23, [3], [0, -1]), (20, [0], [50, 2, 1, 158, 157, 160, 2, 12, 0, 7, 4, 3, 2, 0, 158, 0, 1, 2, 0, 157, 2, 7, 0, 3, 2, 0, 157, 0, 2010, 3, 14, 1, 10, 3, 0, 160, 5, 3, 2, 0, 157, 0, 1, 0, 0, 1, 10, 3, 0, 160, 5, 3, 2, 0, 157, 0, 1, 0, 4]), (20, [0, 4], [30, 0, 1, 1, 158, -1, 0, 0]), (20, [0, 4], [30, 0, -1, 1, 158, 1, 0, 0]), (20, [0], [50, 2, 0, 164, 165, 4, 7, 1, 3, 2, 0, 164, 0, 0, 0, 3, 2, 0, 165, 0, 23]), (20, [0], [30, 0, 1, 1, 159]), (20, [0], [30, 0, -1, 1, 159]), (20, [0, 5], [50, 1, 0, 8, 1, 3, 2, 0, 8, 1, 1]), (20, [0, 6], [50, 1, 0, 159, 1, 3, 2, 0, 159, 1, 1]), (23, [1, 4], [0, 1, -1]), (20, [4, 1], [50, 0, 0, 1, 2, 1, 0, 1, 1]), (20, [5, 2], [50, 0, 0, 1, 2, 1, 0, 1, 1]), (20, [6, 3], [50, 0, 0, 1, 2, 1, 0, 1, 1])], [], [])
theorem oo_Mo_product_at_f0_0 {kA : Nat → ClassId} : or_ok PRD kA GG o_Mo_product_at_f0_0 := by
  refine or_mk fun A ta ws vs hD hth hl => ?_
  intro t0 r0 t1 k1 t2 k2 t3 k3 f0 f1 f2 f3 f4 f5 f6 f7
  replace f0 := shm_296 f0
  replace f1 := shm_297 f1
  replace f2 := shm_298 f2
  replace f3 := shm_299 f3
  replace f4 := shm_999 f4
  replace f5 := shm_1000 f5
  replace f6 := shm_302 f6
  replace f7 := shm_303 f7
  have cr_0_160 := fdq_41 hD hth r0
  have hK_0_160 := elq_5 hD hth cr_0_160
  have kz_0_8 := fdq_14 hD hth r0
  have kz_0_157 := fdq_42 hD hth r0
  have kz_0_158 := fdq_43 hD hth r0
  have kz_0_159 := fdq_44 hD hth r0
  have kz_0_164 := fdq_45 hD hth r0
  have kz_0_165 := fdq_35 hD hth r0
  obtain ⟨x, ex, hx⟩ := iv_ex (ta := ta) (lo := 0) (hi := 2009) (z := w_fi ws (n_v vs 0) 158) (by omega) (by omega) (by omega) (by omega)
  have ex2 : v_iv (Value.int x) = w_fi ws (n_v vs 0) 158 := ex
  have ex3 : 0 ≤ v_iv (Value.int x) ∧ v_iv (Value.int x) ≤ 2009 := tv_rng hx
  obtain ⟨y, ey, hy⟩ := iv_ex (ta := ta) (lo := 0) (hi := 5) (z := w_fi ws (n_v vs 0) 8) (by omega) (by omega) (by omega) (by omega)
  have ey2 : v_iv (Value.int y) = w_fi ws (n_v vs 0) 8 := ey
  have ey3 : 0 ≤ v_iv (Value.int y) ∧ v_iv (Value.int y) ≤ 5 := tv_rng hy
  obtain ⟨u, eu, hu⟩ := iv_ex (ta := ta) (lo := 0) (hi := 13) (z := w_fi ws (n_v vs 0) 159) (by omega) (by omega) (by omega) (by omega)
  have eu2 : v_iv (Value.int u) = w_fi ws (n_v vs 0) 159 := eu
  have eu3 : 0 ≤ v_iv (Value.int u) ∧ v_iv (Value.int u) ≤ 13 := tv_rng hu
  have e_0 : n_v (vs ++ [Value.int x, Value.int y, Value.int u]) 0 = n_v vs 0 := n_v_old (by rw [hl]; decide)
  have e_1 : n_v (vs ++ [Value.int x, Value.int y, Value.int u]) 1 = n_v vs 1 := n_v_old (by rw [hl]; decide)
  have e_2 : n_v (vs ++ [Value.int x, Value.int y, Value.int u]) 2 = n_v vs 2 := n_v_old (by rw [hl]; decide)
  have e_3 : n_v (vs ++ [Value.int x, Value.int y, Value.int u]) 3 = n_v vs 3 := n_v_old (by rw [hl]; decide)
  have e_4 : n_v (vs ++ [Value.int x, Value.int y, Value.int u]) 4 = Value.int x := n_v_newk (k := 0) hl rfl
  have e_5 : n_v (vs ++ [Value.int x, Value.int y, Value.int u]) 5 = Value.int y := n_v_newk (k := 1) hl rfl
  have e_6 : n_v (vs ++ [Value.int x, Value.int y, Value.int u]) 6 = Value.int u := n_v_newk (k := 2) hl rfl
  have nf0 : fc_1 PRD (23, [3], [0, 1]) ws (vs ++ [Value.int x, Value.int y, Value.int u]) := by
    refine ⟨nf_inA hl rfl, sgq_1477 ?_⟩
    · show 1 * v_iv (n_v (vs ++ [Value.int x, Value.int y, Value.int u]) 3) + 0 ≤ 0
      rw [e_3]
      exact vc_Mo_product_at_f0_0_0 (v_iv (n_v vs 1)) (v_iv (n_v vs 2)) (v_iv (n_v vs 3)) (w_ei ws (w_ar ws (n_v vs 0) 160)) (w_fi ws (n_v vs 0) 158) (w_fi ws (n_v vs 0) 157) (w_fi ws (n_v vs 0) 164) (w_fi ws (n_v vs 0) 165) (w_fi ws (n_v vs 0) 159) (w_fi ws (n_v vs 0) 8) (v_iv (Value.int x)) (v_iv (Value.int y)) (v_iv (Value.int u)) k1 k2 k3 f0 f1 f2 f3 f4 f5 f6 f7 hK_0_160 kz_0_8 kz_0_157 kz_0_158 kz_0_159 kz_0_164 kz_0_165 ex2 ex3 ey2 ey3 eu2 eu3
  have nf1 : fc_1 PRD (23, [3], [0, -1]) ws (vs ++ [Value.int x, Value.int y, Value.int u]) := by
    refine ⟨nf_inA hl rfl, sgq_1013 ?_⟩
    · show (-1) * v_iv (n_v (vs ++ [Value.int x, Value.int y, Value.int u]) 3) + 0 ≤ 0
      rw [e_3]
      exact vc_Mo_product_at_f0_0_1 (v_iv (n_v vs 1)) (v_iv (n_v vs 2)) (v_iv (n_v vs 3)) (w_ei ws (w_ar ws (n_v vs 0) 160)) (w_fi ws (n_v vs 0) 158) (w_fi ws (n_v vs 0) 157) (w_fi ws (n_v vs 0) 164) (w_fi ws (n_v vs 0) 165) (w_fi ws (n_v vs 0) 159) (w_fi ws (n_v vs 0) 8) (v_iv (Value.int x)) (v_iv (Value.int y)) (v_iv (Value.int u)) k1 k2 k3 f0 f1 f2 f3 f4 f5 f6 f7 hK_0_160 kz_0_8 kz_0_157 kz_0_158 kz_0_159 kz_0_164 kz_0_165 ex2 ex3 ey2 ey3 eu2 eu3
  have nf2 : fc_1 PRD (20, [0], [50, 2, 1, 158, 157, 160, 2, 12, 0, 7, 4, 3, 2, 0, 158, 0, 1, 2, 0, 157, 2, 7, 0, 3, 2, 0, 157, 0, 2010, 3, 14, 1, 10, 3, 0, 160, 5, 3, 2, 0, 157, 0, 1, 0, 0, 1, 10, 3, 0, 160, 5, 3, 2, 0, 157, 0, 1, 0, 4]) ws (vs ++ [Value.int x, Value.int y, Value.int u]) := by
    refine ⟨nf_inA hl rfl, sgq_296 ?_⟩
    · show ((w_fi ws (n_v (vs ++ [Value.int x, Value.int y, Value.int u]) 0) 158 + 1) ≤ w_fi ws (n_v (vs ++ [Value.int x, Value.int y, Value.int u]) 0) 157) ∧ ((w_fi ws (n_v (vs ++ [Value.int x, Value.int y, Value.int u]) 0) 157 ≤ 2010) ∧ ((w_ei ws (w_ar ws (n_v (vs ++ [Value.int x, Value.int y, Value.int u]) 0) 160) ((w_fi ws (n_v (vs ++ [Value.int x, Value.int y, Value.int u]) 0) 157 - 1)) = 0) ∨ (w_ei ws (w_ar ws (n_v (vs ++ [Value.int x, Value.int y, Value.int u]) 0) 160) ((w_fi ws (n_v (vs ++ [Value.int x, Value.int y, Value.int u]) 0) 157 - 1)) = 4)))
      rw [e_0]
      exact vc_Mo_product_at_f0_0_2 (v_iv (n_v vs 1)) (v_iv (n_v vs 2)) (v_iv (n_v vs 3)) (w_ei ws (w_ar ws (n_v vs 0) 160)) (w_fi ws (n_v vs 0) 158) (w_fi ws (n_v vs 0) 157) (w_fi ws (n_v vs 0) 164) (w_fi ws (n_v vs 0) 165) (w_fi ws (n_v vs 0) 159) (w_fi ws (n_v vs 0) 8) (v_iv (Value.int x)) (v_iv (Value.int y)) (v_iv (Value.int u)) k1 k2 k3 f0 f1 f2 f3 f4 f5 f6 f7 hK_0_160 kz_0_8 kz_0_157 kz_0_158 kz_0_159 kz_0_164 kz_0_165 ex2 ex3 ey2 ey3 eu2 eu3
  have nf3 : fc_1 PRD (20, [0, 4], [30, 0, 1, 1, 158, -1, 0, 0]) ws (vs ++ [Value.int x, Value.int y, Value.int u]) := by
    refine ⟨nf_inA hl rfl, sgq_297 ?_⟩
    · show 1 * w_fi ws (n_v (vs ++ [Value.int x, Value.int y, Value.int u]) 0) 158 + ((-1) * v_iv (n_v (vs ++ [Value.int x, Value.int y, Value.int u]) 4) + 0) ≤ 0
      simp only [e_0, e_4]
      exact vc_Mo_product_at_f0_0_3 (v_iv (n_v vs 1)) (v_iv (n_v vs 2)) (v_iv (n_v vs 3)) (w_ei ws (w_ar ws (n_v vs 0) 160)) (w_fi ws (n_v vs 0) 158) (w_fi ws (n_v vs 0) 157) (w_fi ws (n_v vs 0) 164) (w_fi ws (n_v vs 0) 165) (w_fi ws (n_v vs 0) 159) (w_fi ws (n_v vs 0) 8) (v_iv (Value.int x)) (v_iv (Value.int y)) (v_iv (Value.int u)) k1 k2 k3 f0 f1 f2 f3 f4 f5 f6 f7 hK_0_160 kz_0_8 kz_0_157 kz_0_158 kz_0_159 kz_0_164 kz_0_165 ex2 ex3 ey2 ey3 eu2 eu3
  have nf4 : fc_1 PRD (20, [0, 4], [30, 0, -1, 1, 158, 1, 0, 0]) ws (vs ++ [Value.int x, Value.int y, Value.int u]) := by
    refine ⟨nf_inA hl rfl, sgq_298 ?_⟩
    · show (-1) * w_fi ws (n_v (vs ++ [Value.int x, Value.int y, Value.int u]) 0) 158 + (1 * v_iv (n_v (vs ++ [Value.int x, Value.int y, Value.int u]) 4) + 0) ≤ 0
      simp only [e_0, e_4]
      exact vc_Mo_product_at_f0_0_4 (v_iv (n_v vs 1)) (v_iv (n_v vs 2)) (v_iv (n_v vs 3)) (w_ei ws (w_ar ws (n_v vs 0) 160)) (w_fi ws (n_v vs 0) 158) (w_fi ws (n_v vs 0) 157) (w_fi ws (n_v vs 0) 164) (w_fi ws (n_v vs 0) 165) (w_fi ws (n_v vs 0) 159) (w_fi ws (n_v vs 0) 8) (v_iv (Value.int x)) (v_iv (Value.int y)) (v_iv (Value.int u)) k1 k2 k3 f0 f1 f2 f3 f4 f5 f6 f7 hK_0_160 kz_0_8 kz_0_157 kz_0_158 kz_0_159 kz_0_164 kz_0_165 ex2 ex3 ey2 ey3 eu2 eu3
  have nf5 : fc_1 PRD (20, [0], [50, 2, 0, 164, 165, 4, 7, 1, 3, 2, 0, 164, 0, 0, 0, 3, 2, 0, 165, 0, 23]) ws (vs ++ [Value.int x, Value.int y, Value.int u]) := by
    refine ⟨nf_inA hl rfl, sgq_299 ?_⟩
    · show (w_fi ws (n_v (vs ++ [Value.int x, Value.int y, Value.int u]) 0) 164 = 0) → (w_fi ws (n_v (vs ++ [Value.int x, Value.int y, Value.int u]) 0) 165 ≤ 23)
      rw [e_0]
      exact vc_Mo_product_at_f0_0_5 (v_iv (n_v vs 1)) (v_iv (n_v vs 2)) (v_iv (n_v vs 3)) (w_ei ws (w_ar ws (n_v vs 0) 160)) (w_fi ws (n_v vs 0) 158) (w_fi ws (n_v vs 0) 157) (w_fi ws (n_v vs 0) 164) (w_fi ws (n_v vs 0) 165) (w_fi ws (n_v vs 0) 159) (w_fi ws (n_v vs 0) 8) (v_iv (Value.int x)) (v_iv (Value.int y)) (v_iv (Value.int u)) k1 k2 k3 f0 f1 f2 f3 f4 f5 f6 f7 hK_0_160 kz_0_8 kz_0_157 kz_0_158 kz_0_159 kz_0_164 kz_0_165 ex2 ex3 ey2 ey3 eu2 eu3
  have nf6 : fc_1 PRD (20, [0], [30, 0, 1, 1, 159]) ws (vs ++ [Value.int x, Value.int y, Value.int u]) := by
    refine ⟨nf_inA hl rfl, sgq_999 ?_⟩
    · show 1 * w_fi ws (n_v (vs ++ [Value.int x, Value.int y, Value.int u]) 0) 159 + 0 ≤ 0
      rw [e_0]
      exact vc_Mo_product_at_f0_0_6 (v_iv (n_v vs 1)) (v_iv (n_v vs 2)) (v_iv (n_v vs 3)) (w_ei ws (w_ar ws (n_v vs 0) 160)) (w_fi ws (n_v vs 0) 158) (w_fi ws (n_v vs 0) 157) (w_fi ws (n_v vs 0) 164) (w_fi ws (n_v vs 0) 165) (w_fi ws (n_v vs 0) 159) (w_fi ws (n_v vs 0) 8) (v_iv (Value.int x)) (v_iv (Value.int y)) (v_iv (Value.int u)) k1 k2 k3 f0 f1 f2 f3 f4 f5 f6 f7 hK_0_160 kz_0_8 kz_0_157 kz_0_158 kz_0_159 kz_0_164 kz_0_165 ex2 ex3 ey2 ey3 eu2 eu3
  have nf7 : fc_1 PRD (20, [0], [30, 0, -1, 1, 159]) ws (vs ++ [Value.int x, Value.int y, Value.int u]) := by
    refine ⟨nf_inA hl rfl, sgq_1000 ?_⟩
    · show (-1) * w_fi ws (n_v (vs ++ [Value.int x, Value.int y, Value.int u]) 0) 159 + 0 ≤ 0
      rw [e_0]
      exact vc_Mo_product_at_f0_0_7 (v_iv (n_v vs 1)) (v_iv (n_v vs 2)) (v_iv (n_v vs 3)) (w_ei ws (w_ar ws (n_v vs 0) 160)) (w_fi ws (n_v vs 0) 158) (w_fi ws (n_v vs 0) 157) (w_fi ws (n_v vs 0) 164) (w_fi ws (n_v vs 0) 165) (w_fi ws (n_v vs 0) 159) (w_fi ws (n_v vs 0) 8) (v_iv (Value.int x)) (v_iv (Value.int y)) (v_iv (Value.int u)) k1 k2 k3 f0 f1 f2 f3 f4 f5 f6 f7 hK_0_160 kz_0_8 kz_0_157 kz_0_158 kz_0_159 kz_0_164 kz_0_165 ex2 ex3 ey2 ey3 eu2 eu3
  have nf8 : fc_1 PRD (20, [0, 5], [50, 1, 0, 8, 1, 3, 2, 0, 8, 1, 1]) ws (vs ++ [Value.int x, Value.int y, Value.int u]) := by
    refine ⟨nf_inA hl rfl, sgq_302 ?_⟩
    · show w_fi ws (n_v (vs ++ [Value.int x, Value.int y, Value.int u]) 0) 8 = v_iv (n_v (vs ++ [Value.int x, Value.int y, Value.int u]) 5)
      simp only [e_0, e_5]
      exact vc_Mo_product_at_f0_0_8 (v_iv (n_v vs 1)) (v_iv (n_v vs 2)) (v_iv (n_v vs 3)) (w_ei ws (w_ar ws (n_v vs 0) 160)) (w_fi ws (n_v vs 0) 158) (w_fi ws (n_v vs 0) 157) (w_fi ws (n_v vs 0) 164) (w_fi ws (n_v vs 0) 165) (w_fi ws (n_v vs 0) 159) (w_fi ws (n_v vs 0) 8) (v_iv (Value.int x)) (v_iv (Value.int y)) (v_iv (Value.int u)) k1 k2 k3 f0 f1 f2 f3 f4 f5 f6 f7 hK_0_160 kz_0_8 kz_0_157 kz_0_158 kz_0_159 kz_0_164 kz_0_165 ex2 ex3 ey2 ey3 eu2 eu3
  have nf9 : fc_1 PRD (20, [0, 6], [50, 1, 0, 159, 1, 3, 2, 0, 159, 1, 1]) ws (vs ++ [Value.int x, Value.int y, Value.int u]) := by
    refine ⟨nf_inA hl rfl, sgq_303 ?_⟩
    · show w_fi ws (n_v (vs ++ [Value.int x, Value.int y, Value.int u]) 0) 159 = v_iv (n_v (vs ++ [Value.int x, Value.int y, Value.int u]) 6)
      simp only [e_0, e_6]
      exact vc_Mo_product_at_f0_0_9 (v_iv (n_v vs 1)) (v_iv (n_v vs 2)) (v_iv (n_v vs 3)) (w_ei ws (w_ar ws (n_v vs 0) 160)) (w_fi ws (n_v vs 0) 158) (w_fi ws (n_v vs 0) 157) (w_fi ws (n_v vs 0) 164) (w_fi ws (n_v vs 0) 165) (w_fi ws (n_v vs 0) 159) (w_fi ws (n_v vs 0) 8) (v_iv (Value.int x)) (v_iv (Value.int y)) (v_iv (Value.int u)) k1 k2 k3 f0 f1 f2 f3 f4 f5 f6 f7 hK_0_160 kz_0_8 kz_0_157 kz_0_158 kz_0_159 kz_0_164 kz_0_165 ex2 ex3 ey2 ey3 eu2 eu3
  have nf10 : fc_1 PRD (23, [1, 4], [0, 1, -1]) ws (vs ++ [Value.int x, Value.int y, Value.int u]) := by
    refine ⟨nf_inA hl rfl, sgq_7 ?_⟩
    · show 1 * v_iv (n_v (vs ++ [Value.int x, Value.int y, Value.int u]) 1) + ((-1) * v_iv (n_v (vs ++ [Value.int x, Value.int y, Value.int u]) 4) + 0) ≤ 0
      simp only [e_1, e_4]
      exact vc_Mo_product_at_f0_0_10 (v_iv (n_v vs 1)) (v_iv (n_v vs 2)) (v_iv (n_v vs 3)) (w_ei ws (w_ar ws (n_v vs 0) 160)) (w_fi ws (n_v vs 0) 158) (w_fi ws (n_v vs 0) 157) (w_fi ws (n_v vs 0) 164) (w_fi ws (n_v vs 0) 165) (w_fi ws (n_v vs 0) 159) (w_fi ws (n_v vs 0) 8) (v_iv (Value.int x)) (v_iv (Value.int y)) (v_iv (Value.int u)) k1 k2 k3 f0 f1 f2 f3 f4 f5 f6 f7 hK_0_160 kz_0_8 kz_0_157 kz_0_158 kz_0_159 kz_0_164 kz_0_165 ex2 ex3 ey2 ey3 eu2 eu3
  have nf11 : fc_1 PRD (20, [4, 1], [50, 0, 0, 1, 2, 1, 0, 1, 1]) ws (vs ++ [Value.int x, Value.int y, Value.int u]) := by
    refine ⟨nf_inA hl rfl, sgq_48 ?_⟩
    · show v_iv (n_v (vs ++ [Value.int x, Value.int y, Value.int u]) 4) = v_iv (n_v (vs ++ [Value.int x, Value.int y, Value.int u]) 1)
      simp only [e_1, e_4]
      exact vc_Mo_product_at_f0_0_11 (v_iv (n_v vs 1)) (v_iv (n_v vs 2)) (v_iv (n_v vs 3)) (w_ei ws (w_ar ws (n_v vs 0) 160)) (w_fi ws (n_v vs 0) 158) (w_fi ws (n_v vs 0) 157) (w_fi ws (n_v vs 0) 164) (w_fi ws (n_v vs 0) 165) (w_fi ws (n_v vs 0) 159) (w_fi ws (n_v vs 0) 8) (v_iv (Value.int x)) (v_iv (Value.int y)) (v_iv (Value.int u)) k1 k2 k3 f0 f1 f2 f3 f4 f5 f6 f7 hK_0_160 kz_0_8 kz_0_157 kz_0_158 kz_0_159 kz_0_164 kz_0_165 ex2 ex3 ey2 ey3 eu2 eu3
  have nf12 : fc_1 PRD (20, [5, 2], [50, 0, 0, 1, 2, 1, 0, 1, 1]) ws (vs ++ [Value.int x, Value.int y, Value.int u]) := by
    refine ⟨nf_inA hl rfl, sgq_48 ?_⟩
    · show v_iv (n_v (vs ++ [Value.int x, Value.int y, Value.int u]) 5) = v_iv (n_v (vs ++ [Value.int x, Value.int y, Value.int u]) 2)
      simp only [e_2, e_5]
      exact vc_Mo_product_at_f0_0_12 (v_iv (n_v vs 1)) (v_iv (n_v vs 2)) (v_iv (n_v vs 3)) (w_ei ws (w_ar ws (n_v vs 0) 160)) (w_fi ws (n_v vs 0) 158) (w_fi ws (n_v vs 0) 157) (w_fi ws (n_v vs 0) 164) (w_fi ws (n_v vs 0) 165) (w_fi ws (n_v vs 0) 159) (w_fi ws (n_v vs 0) 8) (v_iv (Value.int x)) (v_iv (Value.int y)) (v_iv (Value.int u)) k1 k2 k3 f0 f1 f2 f3 f4 f5 f6 f7 hK_0_160 kz_0_8 kz_0_157 kz_0_158 kz_0_159 kz_0_164 kz_0_165 ex2 ex3 ey2 ey3 eu2 eu3
  have nf13 : fc_1 PRD (20, [6, 3], [50, 0, 0, 1, 2, 1, 0, 1, 1]) ws (vs ++ [Value.int x, Value.int y, Value.int u]) := by
    refine ⟨nf_inA hl rfl, sgq_48 ?_⟩
    · show v_iv (n_v (vs ++ [Value.int x, Value.int y, Value.int u]) 6) = v_iv (n_v (vs ++ [Value.int x, Value.int y, Value.int u]) 3)
      simp only [e_3, e_6]
      exact vc_Mo_product_at_f0_0_13 (v_iv (n_v vs 1)) (v_iv (n_v vs 2)) (v_iv (n_v vs 3)) (w_ei ws (w_ar ws (n_v vs 0) 160)) (w_fi ws (n_v vs 0) 158) (w_fi ws (n_v vs 0) 157) (w_fi ws (n_v vs 0) 164) (w_fi ws (n_v vs 0) 165) (w_fi ws (n_v vs 0) 159) (w_fi ws (n_v vs 0) 8) (v_iv (Value.int x)) (v_iv (Value.int y)) (v_iv (Value.int u)) k1 k2 k3 f0 f1 f2 f3 f4 f5 f6 f7 hK_0_160 kz_0_8 kz_0_157 kz_0_158 kz_0_159 kz_0_164 kz_0_165 ex2 ex3 ey2 ey3 eu2 eu3
  exact ⟨(fun _ h => (by cases h)), [Value.int x, Value.int y, Value.int u], ag_three hx hy hu, List.forall_mem_cons.mpr ⟨⟨show (23 : Nat) < 100 from by decide, nf0⟩, List.forall_mem_cons.mpr ⟨⟨show (23 : Nat) < 100 from by decide, nf1⟩, List.forall_mem_cons.mpr ⟨⟨show (20 : Nat) < 100 from by decide, nf2⟩, List.forall_mem_cons.mpr ⟨⟨show (20 : Nat) < 100 from by decide, nf3⟩, List.forall_mem_cons.mpr ⟨⟨show (20 : Nat) < 100 from by decide, nf4⟩, List.forall_mem_cons.mpr ⟨⟨show (20 : Nat) < 100 from by decide, nf5⟩, List.forall_mem_cons.mpr ⟨⟨show (20 : Nat) < 100 from by decide, nf6⟩, List.forall_mem_cons.mpr ⟨⟨show (20 : Nat) < 100 from by decide, nf7⟩, List.forall_mem_cons.mpr ⟨⟨show (20 : Nat) < 100 from by decide, nf8⟩, List.forall_mem_cons.mpr ⟨⟨show (20 : Nat) < 100 from by decide, nf9⟩, List.forall_mem_cons.mpr ⟨⟨show (23 : Nat) < 100 from by decide, nf10⟩, List.forall_mem_cons.mpr ⟨⟨show (20 : Nat) < 100 from by decide, nf11⟩, List.forall_mem_cons.mpr ⟨⟨show (20 : Nat) < 100 from by decide, nf12⟩, List.forall_mem_cons.mpr ⟨⟨show (20 : Nat) < 100 from by decide, nf13⟩, (fun _ h => (by cases h))⟩⟩⟩⟩⟩⟩⟩⟩⟩⟩⟩⟩⟩⟩, (fun _ h => (by cases h))⟩
set_option maxHeartbeats 4000000 in
theorem vc_Mo_product_at_f0_1_0 (x1 : Int) (x2 : Int) (x3 : Int) (x4 : Int) (x5 : Int) (x6 : Int) (styleKind_0 : Int) (styleOne_0 : Int) (tokenKind_0 : Int → Int) (cur_0 : Int) (tokens_0 : Int) (opened_0 : Int) (tokenValue_0 : Int → Int) (tokenPlace_0 : Int → Int) (tokenEnd_0 : Int → Int) (tape_0 : Int → Int) (fault_0 : Int) (limit_0 : Int) (gx : Int) (k1 : 0 ≤ x1 ∧ x1 ≤ 2009) (k2 : 0 ≤ x2 ∧ x2 ≤ 5) (k3 : 0 ≤ x3 ∧ x3 ≤ 13) (k4 : 0 ≤ x4 ∧ x4 ≤ 2009) (k5 : 0 ≤ x5 ∧ x5 ≤ 5) (k6 : 0 ≤ x6 ∧ x6 ≤ 13) (f0 : 1 * x3 + 0 ≤ 0) (f1 : (-1) * x3 + 0 ≤ 0) (f2 : (styleKind_0 = 0) → (styleOne_0 ≤ 23)) (f3 : 1 * x1 + ((-1) * x4 + 0) ≤ 0) (f4 : x4 = x1) (f5 : x5 = x2) (f6 : x6 = x3) (f7 : (styleKind_0 = 0) → (styleOne_0 ≤ 23)) (f8 : ((cur_0 + 1) ≤ tokens_0) ∧ ((tokens_0 ≤ 2010) ∧ ((tokenKind_0 ((tokens_0 - 1)) = 0) ∨ (tokenKind_0 ((tokens_0 - 1)) = 4)))) (f9 : 1 * x4 + ((-1) * cur_0 + 0) ≤ 0) (f10 : 1 * opened_0 + 0 ≤ 0) (f11 : (-1) * opened_0 + 0 ≤ 0) (f12 : SVL (fault_0) (cur_0) (styleKind_0) (limit_0) (tokenKind_0) (tokenValue_0) (tokenPlace_0) (tokenEnd_0) (tape_0) (x4) (x5) (x6)) (f14 : 1 * x3 + 0 ≤ 0) (f15 : (-1) * x3 + 0 ≤ 0) (f16 : 1 * x1 + ((-1) * x4 + 0) ≤ 0) (hK_0_1 : ∀ j : Int, 0 ≤ j → j < 2000 → (-128) ≤ tape_0 j ∧ tape_0 j ≤ 127) (hK_0_160 : ∀ j : Int, 0 ≤ j → j < 2010 → 0 ≤ tokenKind_0 j ∧ tokenKind_0 j ≤ 4) (hK_0_162 : ∀ j : Int, 0 ≤ j → j < 2010 → 0 ≤ tokenPlace_0 j ∧ tokenPlace_0 j ≤ 2000) (hK_0_163 : ∀ j : Int, 0 ≤ j → j < 2010 → 0 ≤ tokenEnd_0 j ∧ tokenEnd_0 j ≤ 2000) (kz_0_8 : 0 ≤ fault_0 ∧ fault_0 ≤ 5) (kz_0_10 : 0 ≤ limit_0 ∧ limit_0 ≤ 2000) (kz_0_157 : 0 ≤ tokens_0 ∧ tokens_0 ≤ 2010) (kz_0_158 : 0 ≤ cur_0 ∧ cur_0 ≤ 2009) (kz_0_159 : 0 ≤ opened_0 ∧ opened_0 ≤ 13) (kz_0_164 : 0 ≤ styleKind_0 ∧ styleKind_0 ≤ 1) (kz_0_165 : (-1) ≤ styleOne_0 ∧ styleOne_0 ≤ 47) (ex2 : gx = 2010 + ((-1) * cur_0 + 0)) (ex3 : 0 ≤ gx ∧ gx ≤ 2010) : ((cur_0 + 1) ≤ tokens_0) ∧ ((tokens_0 ≤ 2010) ∧ ((tokenKind_0 ((tokens_0 - 1)) = 0) ∨ (tokenKind_0 ((tokens_0 - 1)) = 4))) := by
  first | assumption | (clear f2 f7 f8 hK_0_1 hK_0_160 hK_0_162 hK_0_163; omega) | (clear hK_0_1 hK_0_160 hK_0_162 hK_0_163; grind) | omega | grind
set_option maxHeartbeats 4000000 in
theorem vc_Mo_product_at_f0_1_1 (x1 : Int) (x2 : Int) (x3 : Int) (x4 : Int) (x5 : Int) (x6 : Int) (styleKind_0 : Int) (styleOne_0 : Int) (tokenKind_0 : Int → Int) (cur_0 : Int) (tokens_0 : Int) (opened_0 : Int) (tokenValue_0 : Int → Int) (tokenPlace_0 : Int → Int) (tokenEnd_0 : Int → Int) (tape_0 : Int → Int) (fault_0 : Int) (limit_0 : Int) (gx : Int) (k1 : 0 ≤ x1 ∧ x1 ≤ 2009) (k2 : 0 ≤ x2 ∧ x2 ≤ 5) (k3 : 0 ≤ x3 ∧ x3 ≤ 13) (k4 : 0 ≤ x4 ∧ x4 ≤ 2009) (k5 : 0 ≤ x5 ∧ x5 ≤ 5) (k6 : 0 ≤ x6 ∧ x6 ≤ 13) (f0 : 1 * x3 + 0 ≤ 0) (f1 : (-1) * x3 + 0 ≤ 0) (f2 : (styleKind_0 = 0) → (styleOne_0 ≤ 23)) (f3 : 1 * x1 + ((-1) * x4 + 0) ≤ 0) (f4 : x4 = x1) (f5 : x5 = x2) (f6 : x6 = x3) (f7 : (styleKind_0 = 0) → (styleOne_0 ≤ 23)) (f8 : ((cur_0 + 1) ≤ tokens_0) ∧ ((tokens_0 ≤ 2010) ∧ ((tokenKind_0 ((tokens_0 - 1)) = 0) ∨ (tokenKind_0 ((tokens_0 - 1)) = 4)))) (f9 : 1 * x4 + ((-1) * cur_0 + 0) ≤ 0) (f10 : 1 * opened_0 + 0 ≤ 0) (f11 : (-1) * opened_0 + 0 ≤ 0) (f12 : SVL (fault_0) (cur_0) (styleKind_0) (limit_0) (tokenKind_0) (tokenValue_0) (tokenPlace_0) (tokenEnd_0) (tape_0) (x4) (x5) (x6)) (f14 : 1 * x3 + 0 ≤ 0) (f15 : (-1) * x3 + 0 ≤ 0) (f16 : 1 * x1 + ((-1) * x4 + 0) ≤ 0) (hK_0_1 : ∀ j : Int, 0 ≤ j → j < 2000 → (-128) ≤ tape_0 j ∧ tape_0 j ≤ 127) (hK_0_160 : ∀ j : Int, 0 ≤ j → j < 2010 → 0 ≤ tokenKind_0 j ∧ tokenKind_0 j ≤ 4) (hK_0_162 : ∀ j : Int, 0 ≤ j → j < 2010 → 0 ≤ tokenPlace_0 j ∧ tokenPlace_0 j ≤ 2000) (hK_0_163 : ∀ j : Int, 0 ≤ j → j < 2010 → 0 ≤ tokenEnd_0 j ∧ tokenEnd_0 j ≤ 2000) (kz_0_8 : 0 ≤ fault_0 ∧ fault_0 ≤ 5) (kz_0_10 : 0 ≤ limit_0 ∧ limit_0 ≤ 2000) (kz_0_157 : 0 ≤ tokens_0 ∧ tokens_0 ≤ 2010) (kz_0_158 : 0 ≤ cur_0 ∧ cur_0 ≤ 2009) (kz_0_159 : 0 ≤ opened_0 ∧ opened_0 ≤ 13) (kz_0_164 : 0 ≤ styleKind_0 ∧ styleKind_0 ≤ 1) (kz_0_165 : (-1) ≤ styleOne_0 ∧ styleOne_0 ≤ 47) (ex2 : gx = 2010 + ((-1) * cur_0 + 0)) (ex3 : 0 ≤ gx ∧ gx ≤ 2010) : 1 * x1 + ((-1) * cur_0 + 0) ≤ 0 := by
  first | assumption | (clear f2 f7 f8 hK_0_1 hK_0_160 hK_0_162 hK_0_163; omega) | (clear hK_0_1 hK_0_160 hK_0_162 hK_0_163; grind) | omega | grind
set_option maxHeartbeats 4000000 in
theorem vc_Mo_product_at_f0_1_2 (x1 : Int) (x2 : Int) (x3 : Int) (x4 : Int) (x5 : Int) (x6 : Int) (styleKind_0 : Int) (styleOne_0 : Int) (tokenKind_0 : Int → Int) (cur_0 : Int) (tokens_0 : Int) (opened_0 : Int) (tokenValue_0 : Int → Int) (tokenPlace_0 : Int → Int) (tokenEnd_0 : Int → Int) (tape_0 : Int → Int) (fault_0 : Int) (limit_0 : Int) (gx : Int) (k1 : 0 ≤ x1 ∧ x1 ≤ 2009) (k2 : 0 ≤ x2 ∧ x2 ≤ 5) (k3 : 0 ≤ x3 ∧ x3 ≤ 13) (k4 : 0 ≤ x4 ∧ x4 ≤ 2009) (k5 : 0 ≤ x5 ∧ x5 ≤ 5) (k6 : 0 ≤ x6 ∧ x6 ≤ 13) (f0 : 1 * x3 + 0 ≤ 0) (f1 : (-1) * x3 + 0 ≤ 0) (f2 : (styleKind_0 = 0) → (styleOne_0 ≤ 23)) (f3 : 1 * x1 + ((-1) * x4 + 0) ≤ 0) (f4 : x4 = x1) (f5 : x5 = x2) (f6 : x6 = x3) (f7 : (styleKind_0 = 0) → (styleOne_0 ≤ 23)) (f8 : ((cur_0 + 1) ≤ tokens_0) ∧ ((tokens_0 ≤ 2010) ∧ ((tokenKind_0 ((tokens_0 - 1)) = 0) ∨ (tokenKind_0 ((tokens_0 - 1)) = 4)))) (f9 : 1 * x4 + ((-1) * cur_0 + 0) ≤ 0) (f10 : 1 * opened_0 + 0 ≤ 0) (f11 : (-1) * opened_0 + 0 ≤ 0) (f12 : SVL (fault_0) (cur_0) (styleKind_0) (limit_0) (tokenKind_0) (tokenValue_0) (tokenPlace_0) (tokenEnd_0) (tape_0) (x4) (x5) (x6)) (f14 : 1 * x3 + 0 ≤ 0) (f15 : (-1) * x3 + 0 ≤ 0) (f16 : 1 * x1 + ((-1) * x4 + 0) ≤ 0) (hK_0_1 : ∀ j : Int, 0 ≤ j → j < 2000 → (-128) ≤ tape_0 j ∧ tape_0 j ≤ 127) (hK_0_160 : ∀ j : Int, 0 ≤ j → j < 2010 → 0 ≤ tokenKind_0 j ∧ tokenKind_0 j ≤ 4) (hK_0_162 : ∀ j : Int, 0 ≤ j → j < 2010 → 0 ≤ tokenPlace_0 j ∧ tokenPlace_0 j ≤ 2000) (hK_0_163 : ∀ j : Int, 0 ≤ j → j < 2010 → 0 ≤ tokenEnd_0 j ∧ tokenEnd_0 j ≤ 2000) (kz_0_8 : 0 ≤ fault_0 ∧ fault_0 ≤ 5) (kz_0_10 : 0 ≤ limit_0 ∧ limit_0 ≤ 2000) (kz_0_157 : 0 ≤ tokens_0 ∧ tokens_0 ≤ 2010) (kz_0_158 : 0 ≤ cur_0 ∧ cur_0 ≤ 2009) (kz_0_159 : 0 ≤ opened_0 ∧ opened_0 ≤ 13) (kz_0_164 : 0 ≤ styleKind_0 ∧ styleKind_0 ≤ 1) (kz_0_165 : (-1) ≤ styleOne_0 ∧ styleOne_0 ≤ 47) (ex2 : gx = 2010 + ((-1) * cur_0 + 0)) (ex3 : 0 ≤ gx ∧ gx ≤ 2010) : (styleKind_0 = 0) → (styleOne_0 ≤ 23) := by
  first | assumption | (clear f2 f7 f8 hK_0_1 hK_0_160 hK_0_162 hK_0_163; omega) | (clear hK_0_1 hK_0_160 hK_0_162 hK_0_163; grind) | omega | grind
set_option maxHeartbeats 4000000 in
theorem vc_Mo_product_at_f0_1_3 (x1 : Int) (x2 : Int) (x3 : Int) (x4 : Int) (x5 : Int) (x6 : Int) (styleKind_0 : Int) (styleOne_0 : Int) (tokenKind_0 : Int → Int) (cur_0 : Int) (tokens_0 : Int) (opened_0 : Int) (tokenValue_0 : Int → Int) (tokenPlace_0 : Int → Int) (tokenEnd_0 : Int → Int) (tape_0 : Int → Int) (fault_0 : Int) (limit_0 : Int) (gx : Int) (k1 : 0 ≤ x1 ∧ x1 ≤ 2009) (k2 : 0 ≤ x2 ∧ x2 ≤ 5) (k3 : 0 ≤ x3 ∧ x3 ≤ 13) (k4 : 0 ≤ x4 ∧ x4 ≤ 2009) (k5 : 0 ≤ x5 ∧ x5 ≤ 5) (k6 : 0 ≤ x6 ∧ x6 ≤ 13) (f0 : 1 * x3 + 0 ≤ 0) (f1 : (-1) * x3 + 0 ≤ 0) (f2 : (styleKind_0 = 0) → (styleOne_0 ≤ 23)) (f3 : 1 * x1 + ((-1) * x4 + 0) ≤ 0) (f4 : x4 = x1) (f5 : x5 = x2) (f6 : x6 = x3) (f7 : (styleKind_0 = 0) → (styleOne_0 ≤ 23)) (f8 : ((cur_0 + 1) ≤ tokens_0) ∧ ((tokens_0 ≤ 2010) ∧ ((tokenKind_0 ((tokens_0 - 1)) = 0) ∨ (tokenKind_0 ((tokens_0 - 1)) = 4)))) (f9 : 1 * x4 + ((-1) * cur_0 + 0) ≤ 0) (f10 : 1 * opened_0 + 0 ≤ 0) (f11 : (-1) * opened_0 + 0 ≤ 0) (f12 : SVL (fault_0) (cur_0) (styleKind_0) (limit_0) (tokenKind_0) (tokenValue_0) (tokenPlace_0) (tokenEnd_0) (tape_0) (x4) (x5) (x6)) (f14 : 1 * x3 + 0 ≤ 0) (f15 : (-1) * x3 + 0 ≤ 0) (f16 : 1 * x1 + ((-1) * x4 + 0) ≤ 0) (hK_0_1 : ∀ j : Int, 0 ≤ j → j < 2000 → (-128) ≤ tape_0 j ∧ tape_0 j ≤ 127) (hK_0_160 : ∀ j : Int, 0 ≤ j → j < 2010 → 0 ≤ tokenKind_0 j ∧ tokenKind_0 j ≤ 4) (hK_0_162 : ∀ j : Int, 0 ≤ j → j < 2010 → 0 ≤ tokenPlace_0 j ∧ tokenPlace_0 j ≤ 2000) (hK_0_163 : ∀ j : Int, 0 ≤ j → j < 2010 → 0 ≤ tokenEnd_0 j ∧ tokenEnd_0 j ≤ 2000) (kz_0_8 : 0 ≤ fault_0 ∧ fault_0 ≤ 5) (kz_0_10 : 0 ≤ limit_0 ∧ limit_0 ≤ 2000) (kz_0_157 : 0 ≤ tokens_0 ∧ tokens_0 ≤ 2010) (kz_0_158 : 0 ≤ cur_0 ∧ cur_0 ≤ 2009) (kz_0_159 : 0 ≤ opened_0 ∧ opened_0 ≤ 13) (kz_0_164 : 0 ≤ styleKind_0 ∧ styleKind_0 ≤ 1) (kz_0_165 : (-1) ≤ styleOne_0 ∧ styleOne_0 ≤ 47) (ex2 : gx = 2010 + ((-1) * cur_0 + 0)) (ex3 : 0 ≤ gx ∧ gx ≤ 2010) : 1 * opened_0 + 0 ≤ 0 := by
  first | assumption | (clear f2 f7 f8 hK_0_1 hK_0_160 hK_0_162 hK_0_163; omega) | (clear hK_0_1 hK_0_160 hK_0_162 hK_0_163; grind) | omega | grind
set_option maxHeartbeats 4000000 in
theorem vc_Mo_product_at_f0_1_4 (x1 : Int) (x2 : Int) (x3 : Int) (x4 : Int) (x5 : Int) (x6 : Int) (styleKind_0 : Int) (styleOne_0 : Int) (tokenKind_0 : Int → Int) (cur_0 : Int) (tokens_0 : Int) (opened_0 : Int) (tokenValue_0 : Int → Int) (tokenPlace_0 : Int → Int) (tokenEnd_0 : Int → Int) (tape_0 : Int → Int) (fault_0 : Int) (limit_0 : Int) (gx : Int) (k1 : 0 ≤ x1 ∧ x1 ≤ 2009) (k2 : 0 ≤ x2 ∧ x2 ≤ 5) (k3 : 0 ≤ x3 ∧ x3 ≤ 13) (k4 : 0 ≤ x4 ∧ x4 ≤ 2009) (k5 : 0 ≤ x5 ∧ x5 ≤ 5) (k6 : 0 ≤ x6 ∧ x6 ≤ 13) (f0 : 1 * x3 + 0 ≤ 0) (f1 : (-1) * x3 + 0 ≤ 0) (f2 : (styleKind_0 = 0) → (styleOne_0 ≤ 23)) (f3 : 1 * x1 + ((-1) * x4 + 0) ≤ 0) (f4 : x4 = x1) (f5 : x5 = x2) (f6 : x6 = x3) (f7 : (styleKind_0 = 0) → (styleOne_0 ≤ 23)) (f8 : ((cur_0 + 1) ≤ tokens_0) ∧ ((tokens_0 ≤ 2010) ∧ ((tokenKind_0 ((tokens_0 - 1)) = 0) ∨ (tokenKind_0 ((tokens_0 - 1)) = 4)))) (f9 : 1 * x4 + ((-1) * cur_0 + 0) ≤ 0) (f10 : 1 * opened_0 + 0 ≤ 0) (f11 : (-1) * opened_0 + 0 ≤ 0) (f12 : SVL (fault_0) (cur_0) (styleKind_0) (limit_0) (tokenKind_0) (tokenValue_0) (tokenPlace_0) (tokenEnd_0) (tape_0) (x4) (x5) (x6)) (f14 : 1 * x3 + 0 ≤ 0) (f15 : (-1) * x3 + 0 ≤ 0) (f16 : 1 * x1 + ((-1) * x4 + 0) ≤ 0) (hK_0_1 : ∀ j : Int, 0 ≤ j → j < 2000 → (-128) ≤ tape_0 j ∧ tape_0 j ≤ 127) (hK_0_160 : ∀ j : Int, 0 ≤ j → j < 2010 → 0 ≤ tokenKind_0 j ∧ tokenKind_0 j ≤ 4) (hK_0_162 : ∀ j : Int, 0 ≤ j → j < 2010 → 0 ≤ tokenPlace_0 j ∧ tokenPlace_0 j ≤ 2000) (hK_0_163 : ∀ j : Int, 0 ≤ j → j < 2010 → 0 ≤ tokenEnd_0 j ∧ tokenEnd_0 j ≤ 2000) (kz_0_8 : 0 ≤ fault_0 ∧ fault_0 ≤ 5) (kz_0_10 : 0 ≤ limit_0 ∧ limit_0 ≤ 2000) (kz_0_157 : 0 ≤ tokens_0 ∧ tokens_0 ≤ 2010) (kz_0_158 : 0 ≤ cur_0 ∧ cur_0 ≤ 2009) (kz_0_159 : 0 ≤ opened_0 ∧ opened_0 ≤ 13) (kz_0_164 : 0 ≤ styleKind_0 ∧ styleKind_0 ≤ 1) (kz_0_165 : (-1) ≤ styleOne_0 ∧ styleOne_0 ≤ 47) (ex2 : gx = 2010 + ((-1) * cur_0 + 0)) (ex3 : 0 ≤ gx ∧ gx ≤ 2010) : (-1) * opened_0 + 0 ≤ 0 := by
  first | assumption | (clear f2 f7 f8 hK_0_1 hK_0_160 hK_0_162 hK_0_163; omega) | (clear hK_0_1 hK_0_160 hK_0_162 hK_0_163; grind) | omega | grind
set_option maxHeartbeats 4000000 in
theorem vc_Mo_product_at_f0_1_5 (x1 : Int) (x2 : Int) (x3 : Int) (x4 : Int) (x5 : Int) (x6 : Int) (styleKind_0 : Int) (styleOne_0 : Int) (tokenKind_0 : Int → Int) (cur_0 : Int) (tokens_0 : Int) (opened_0 : Int) (tokenValue_0 : Int → Int) (tokenPlace_0 : Int → Int) (tokenEnd_0 : Int → Int) (tape_0 : Int → Int) (fault_0 : Int) (limit_0 : Int) (gx : Int) (k1 : 0 ≤ x1 ∧ x1 ≤ 2009) (k2 : 0 ≤ x2 ∧ x2 ≤ 5) (k3 : 0 ≤ x3 ∧ x3 ≤ 13) (k4 : 0 ≤ x4 ∧ x4 ≤ 2009) (k5 : 0 ≤ x5 ∧ x5 ≤ 5) (k6 : 0 ≤ x6 ∧ x6 ≤ 13) (f0 : 1 * x3 + 0 ≤ 0) (f1 : (-1) * x3 + 0 ≤ 0) (f2 : (styleKind_0 = 0) → (styleOne_0 ≤ 23)) (f3 : 1 * x1 + ((-1) * x4 + 0) ≤ 0) (f4 : x4 = x1) (f5 : x5 = x2) (f6 : x6 = x3) (f7 : (styleKind_0 = 0) → (styleOne_0 ≤ 23)) (f8 : ((cur_0 + 1) ≤ tokens_0) ∧ ((tokens_0 ≤ 2010) ∧ ((tokenKind_0 ((tokens_0 - 1)) = 0) ∨ (tokenKind_0 ((tokens_0 - 1)) = 4)))) (f9 : 1 * x4 + ((-1) * cur_0 + 0) ≤ 0) (f10 : 1 * opened_0 + 0 ≤ 0) (f11 : (-1) * opened_0 + 0 ≤ 0) (f12 : SVL (fault_0) (cur_0) (styleKind_0) (limit_0) (tokenKind_0) (tokenValue_0) (tokenPlace_0) (tokenEnd_0) (tape_0) (x4) (x5) (x6)) (f14 : 1 * x3 + 0 ≤ 0) (f15 : (-1) * x3 + 0 ≤ 0) (f16 : 1 * x1 + ((-1) * x4 + 0) ≤ 0) (hK_0_1 : ∀ j : Int, 0 ≤ j → j < 2000 → (-128) ≤ tape_0 j ∧ tape_0 j ≤ 127) (hK_0_160 : ∀ j : Int, 0 ≤ j → j < 2010 → 0 ≤ tokenKind_0 j ∧ tokenKind_0 j ≤ 4) (hK_0_162 : ∀ j : Int, 0 ≤ j → j < 2010 → 0 ≤ tokenPlace_0 j ∧ tokenPlace_0 j ≤ 2000) (hK_0_163 : ∀ j : Int, 0 ≤ j → j < 2010 → 0 ≤ tokenEnd_0 j ∧ tokenEnd_0 j ≤ 2000) (kz_0_8 : 0 ≤ fault_0 ∧ fault_0 ≤ 5) (kz_0_10 : 0 ≤ limit_0 ∧ limit_0 ≤ 2000) (kz_0_157 : 0 ≤ tokens_0 ∧ tokens_0 ≤ 2010) (kz_0_158 : 0 ≤ cur_0 ∧ cur_0 ≤ 2009) (kz_0_159 : 0 ≤ opened_0 ∧ opened_0 ≤ 13) (kz_0_164 : 0 ≤ styleKind_0 ∧ styleKind_0 ≤ 1) (kz_0_165 : (-1) ≤ styleOne_0 ∧ styleOne_0 ≤ 47) (ex2 : gx = 2010 + ((-1) * cur_0 + 0)) (ex3 : 0 ≤ gx ∧ gx ≤ 2010) : SPWv (fault_0) (cur_0) (styleKind_0) (limit_0) (tokenKind_0) (tokenValue_0) (tokenPlace_0) (tokenEnd_0) (tape_0) (x1) (x2) (x3) := by
  first
    | exact spw_start (‹SVL _ _ _ _ _ _ _ _ _ _ _ _›) (by omega) (by omega) (by omega) (by omega)
    | exact spw_go (‹GPW _ _ _ _ _ _ _ _ _ _ _ _›) (‹SVL _ _ _ _ _ _ _ _ _ _ _ _›) (by omega) (by omega) (by omega)
    | assumption
  
set_option maxHeartbeats 4000000 in
theorem vc_Mo_product_at_f0_1_6 (x1 : Int) (x2 : Int) (x3 : Int) (x4 : Int) (x5 : Int) (x6 : Int) (styleKind_0 : Int) (styleOne_0 : Int) (tokenKind_0 : Int → Int) (cur_0 : Int) (tokens_0 : Int) (opened_0 : Int) (tokenValue_0 : Int → Int) (tokenPlace_0 : Int → Int) (tokenEnd_0 : Int → Int) (tape_0 : Int → Int) (fault_0 : Int) (limit_0 : Int) (gx : Int) (k1 : 0 ≤ x1 ∧ x1 ≤ 2009) (k2 : 0 ≤ x2 ∧ x2 ≤ 5) (k3 : 0 ≤ x3 ∧ x3 ≤ 13) (k4 : 0 ≤ x4 ∧ x4 ≤ 2009) (k5 : 0 ≤ x5 ∧ x5 ≤ 5) (k6 : 0 ≤ x6 ∧ x6 ≤ 13) (f0 : 1 * x3 + 0 ≤ 0) (f1 : (-1) * x3 + 0 ≤ 0) (f2 : (styleKind_0 = 0) → (styleOne_0 ≤ 23)) (f3 : 1 * x1 + ((-1) * x4 + 0) ≤ 0) (f4 : x4 = x1) (f5 : x5 = x2) (f6 : x6 = x3) (f7 : (styleKind_0 = 0) → (styleOne_0 ≤ 23)) (f8 : ((cur_0 + 1) ≤ tokens_0) ∧ ((tokens_0 ≤ 2010) ∧ ((tokenKind_0 ((tokens_0 - 1)) = 0) ∨ (tokenKind_0 ((tokens_0 - 1)) = 4)))) (f9 : 1 * x4 + ((-1) * cur_0 + 0) ≤ 0) (f10 : 1 * opened_0 + 0 ≤ 0) (f11 : (-1) * opened_0 + 0 ≤ 0) (f12 : SVL (fault_0) (cur_0) (styleKind_0) (limit_0) (tokenKind_0) (tokenValue_0) (tokenPlace_0) (tokenEnd_0) (tape_0) (x4) (x5) (x6)) (f14 : 1 * x3 + 0 ≤ 0) (f15 : (-1) * x3 + 0 ≤ 0) (f16 : 1 * x1 + ((-1) * x4 + 0) ≤ 0) (hK_0_1 : ∀ j : Int, 0 ≤ j → j < 2000 → (-128) ≤ tape_0 j ∧ tape_0 j ≤ 127) (hK_0_160 : ∀ j : Int, 0 ≤ j → j < 2010 → 0 ≤ tokenKind_0 j ∧ tokenKind_0 j ≤ 4) (hK_0_162 : ∀ j : Int, 0 ≤ j → j < 2010 → 0 ≤ tokenPlace_0 j ∧ tokenPlace_0 j ≤ 2000) (hK_0_163 : ∀ j : Int, 0 ≤ j → j < 2010 → 0 ≤ tokenEnd_0 j ∧ tokenEnd_0 j ≤ 2000) (kz_0_8 : 0 ≤ fault_0 ∧ fault_0 ≤ 5) (kz_0_10 : 0 ≤ limit_0 ∧ limit_0 ≤ 2000) (kz_0_157 : 0 ≤ tokens_0 ∧ tokens_0 ≤ 2010) (kz_0_158 : 0 ≤ cur_0 ∧ cur_0 ≤ 2009) (kz_0_159 : 0 ≤ opened_0 ∧ opened_0 ≤ 13) (kz_0_164 : 0 ≤ styleKind_0 ∧ styleKind_0 ≤ 1) (kz_0_165 : (-1) ≤ styleOne_0 ∧ styleOne_0 ≤ 47) (ex2 : gx = 2010 + ((-1) * cur_0 + 0)) (ex3 : 0 ≤ gx ∧ gx ≤ 2010) : 1 * x3 + 0 ≤ 0 := by
  first | assumption | (clear f2 f7 f8 hK_0_1 hK_0_160 hK_0_162 hK_0_163; omega) | (clear hK_0_1 hK_0_160 hK_0_162 hK_0_163; grind) | omega | grind
set_option maxHeartbeats 4000000 in
theorem vc_Mo_product_at_f0_1_7 (x1 : Int) (x2 : Int) (x3 : Int) (x4 : Int) (x5 : Int) (x6 : Int) (styleKind_0 : Int) (styleOne_0 : Int) (tokenKind_0 : Int → Int) (cur_0 : Int) (tokens_0 : Int) (opened_0 : Int) (tokenValue_0 : Int → Int) (tokenPlace_0 : Int → Int) (tokenEnd_0 : Int → Int) (tape_0 : Int → Int) (fault_0 : Int) (limit_0 : Int) (gx : Int) (k1 : 0 ≤ x1 ∧ x1 ≤ 2009) (k2 : 0 ≤ x2 ∧ x2 ≤ 5) (k3 : 0 ≤ x3 ∧ x3 ≤ 13) (k4 : 0 ≤ x4 ∧ x4 ≤ 2009) (k5 : 0 ≤ x5 ∧ x5 ≤ 5) (k6 : 0 ≤ x6 ∧ x6 ≤ 13) (f0 : 1 * x3 + 0 ≤ 0) (f1 : (-1) * x3 + 0 ≤ 0) (f2 : (styleKind_0 = 0) → (styleOne_0 ≤ 23)) (f3 : 1 * x1 + ((-1) * x4 + 0) ≤ 0) (f4 : x4 = x1) (f5 : x5 = x2) (f6 : x6 = x3) (f7 : (styleKind_0 = 0) → (styleOne_0 ≤ 23)) (f8 : ((cur_0 + 1) ≤ tokens_0) ∧ ((tokens_0 ≤ 2010) ∧ ((tokenKind_0 ((tokens_0 - 1)) = 0) ∨ (tokenKind_0 ((tokens_0 - 1)) = 4)))) (f9 : 1 * x4 + ((-1) * cur_0 + 0) ≤ 0) (f10 : 1 * opened_0 + 0 ≤ 0) (f11 : (-1) * opened_0 + 0 ≤ 0) (f12 : SVL (fault_0) (cur_0) (styleKind_0) (limit_0) (tokenKind_0) (tokenValue_0) (tokenPlace_0) (tokenEnd_0) (tape_0) (x4) (x5) (x6)) (f14 : 1 * x3 + 0 ≤ 0) (f15 : (-1) * x3 + 0 ≤ 0) (f16 : 1 * x1 + ((-1) * x4 + 0) ≤ 0) (hK_0_1 : ∀ j : Int, 0 ≤ j → j < 2000 → (-128) ≤ tape_0 j ∧ tape_0 j ≤ 127) (hK_0_160 : ∀ j : Int, 0 ≤ j → j < 2010 → 0 ≤ tokenKind_0 j ∧ tokenKind_0 j ≤ 4) (hK_0_162 : ∀ j : Int, 0 ≤ j → j < 2010 → 0 ≤ tokenPlace_0 j ∧ tokenPlace_0 j ≤ 2000) (hK_0_163 : ∀ j : Int, 0 ≤ j → j < 2010 → 0 ≤ tokenEnd_0 j ∧ tokenEnd_0 j ≤ 2000) (kz_0_8 : 0 ≤ fault_0 ∧ fault_0 ≤ 5) (kz_0_10 : 0 ≤ limit_0 ∧ limit_0 ≤ 2000) (kz_0_157 : 0 ≤ tokens_0 ∧ tokens_0 ≤ 2010) (kz_0_158 : 0 ≤ cur_0 ∧ cur_0 ≤ 2009) (kz_0_159 : 0 ≤ opened_0 ∧ opened_0 ≤ 13) (kz_0_164 : 0 ≤ styleKind_0 ∧ styleKind_0 ≤ 1) (kz_0_165 : (-1) ≤ styleOne_0 ∧ styleOne_0 ≤ 47) (ex2 : gx = 2010 + ((-1) * cur_0 + 0)) (ex3 : 0 ≤ gx ∧ gx ≤ 2010) : (-1) * x3 + 0 ≤ 0 := by
  first | assumption | (clear f2 f7 f8 hK_0_1 hK_0_160 hK_0_162 hK_0_163; omega) | (clear hK_0_1 hK_0_160 hK_0_162 hK_0_163; grind) | omega | grind
set_option maxHeartbeats 4000000 in
theorem vc_Mo_product_at_f0_1_9 (x1 : Int) (x2 : Int) (x3 : Int) (x4 : Int) (x5 : Int) (x6 : Int) (styleKind_0 : Int) (styleOne_0 : Int) (tokenKind_0 : Int → Int) (cur_0 : Int) (tokens_0 : Int) (opened_0 : Int) (tokenValue_0 : Int → Int) (tokenPlace_0 : Int → Int) (tokenEnd_0 : Int → Int) (tape_0 : Int → Int) (fault_0 : Int) (limit_0 : Int) (gx : Int) (k1 : 0 ≤ x1 ∧ x1 ≤ 2009) (k2 : 0 ≤ x2 ∧ x2 ≤ 5) (k3 : 0 ≤ x3 ∧ x3 ≤ 13) (k4 : 0 ≤ x4 ∧ x4 ≤ 2009) (k5 : 0 ≤ x5 ∧ x5 ≤ 5) (k6 : 0 ≤ x6 ∧ x6 ≤ 13) (f0 : 1 * x3 + 0 ≤ 0) (f1 : (-1) * x3 + 0 ≤ 0) (f2 : (styleKind_0 = 0) → (styleOne_0 ≤ 23)) (f3 : 1 * x1 + ((-1) * x4 + 0) ≤ 0) (f4 : x4 = x1) (f5 : x5 = x2) (f6 : x6 = x3) (f7 : (styleKind_0 = 0) → (styleOne_0 ≤ 23)) (f8 : ((cur_0 + 1) ≤ tokens_0) ∧ ((tokens_0 ≤ 2010) ∧ ((tokenKind_0 ((tokens_0 - 1)) = 0) ∨ (tokenKind_0 ((tokens_0 - 1)) = 4)))) (f9 : 1 * x4 + ((-1) * cur_0 + 0) ≤ 0) (f10 : 1 * opened_0 + 0 ≤ 0) (f11 : (-1) * opened_0 + 0 ≤ 0) (f12 : SVL (fault_0) (cur_0) (styleKind_0) (limit_0) (tokenKind_0) (tokenValue_0) (tokenPlace_0) (tokenEnd_0) (tape_0) (x4) (x5) (x6)) (f14 : 1 * x3 + 0 ≤ 0) (f15 : (-1) * x3 + 0 ≤ 0) (f16 : 1 * x1 + ((-1) * x4 + 0) ≤ 0) (hK_0_1 : ∀ j : Int, 0 ≤ j → j < 2000 → (-128) ≤ tape_0 j ∧ tape_0 j ≤ 127) (hK_0_160 : ∀ j : Int, 0 ≤ j → j < 2010 → 0 ≤ tokenKind_0 j ∧ tokenKind_0 j ≤ 4) (hK_0_162 : ∀ j : Int, 0 ≤ j → j < 2010 → 0 ≤ tokenPlace_0 j ∧ tokenPlace_0 j ≤ 2000) (hK_0_163 : ∀ j : Int, 0 ≤ j → j < 2010 → 0 ≤ tokenEnd_0 j ∧ tokenEnd_0 j ≤ 2000) (kz_0_8 : 0 ≤ fault_0 ∧ fault_0 ≤ 5) (kz_0_10 : 0 ≤ limit_0 ∧ limit_0 ≤ 2000) (kz_0_157 : 0 ≤ tokens_0 ∧ tokens_0 ≤ 2010) (kz_0_158 : 0 ≤ cur_0 ∧ cur_0 ≤ 2009) (kz_0_159 : 0 ≤ opened_0 ∧ opened_0 ≤ 13) (kz_0_164 : 0 ≤ styleKind_0 ∧ styleKind_0 ≤ 1) (kz_0_165 : (-1) ≤ styleOne_0 ∧ styleOne_0 ≤ 47) (ex2 : gx = 2010 + ((-1) * cur_0 + 0)) (ex3 : 0 ≤ gx ∧ gx ≤ 2010) : 1 * gx + (1 * cur_0 + 0) ≤ 2010 := by
  first | assumption | (clear f2 f7 f8 hK_0_1 hK_0_160 hK_0_162 hK_0_163; omega) | (clear hK_0_1 hK_0_160 hK_0_162 hK_0_163; grind) | omega | grind
set_option maxHeartbeats 4000000 in
theorem vc_Mo_product_at_f0_1_10 (x1 : Int) (x2 : Int) (x3 : Int) (x4 : Int) (x5 : Int) (x6 : Int) (styleKind_0 : Int) (styleOne_0 : Int) (tokenKind_0 : Int → Int) (cur_0 : Int) (tokens_0 : Int) (opened_0 : Int) (tokenValue_0 : Int → Int) (tokenPlace_0 : Int → Int) (tokenEnd_0 : Int → Int) (tape_0 : Int → Int) (fault_0 : Int) (limit_0 : Int) (gx : Int) (k1 : 0 ≤ x1 ∧ x1 ≤ 2009) (k2 : 0 ≤ x2 ∧ x2 ≤ 5) (k3 : 0 ≤ x3 ∧ x3 ≤ 13) (k4 : 0 ≤ x4 ∧ x4 ≤ 2009) (k5 : 0 ≤ x5 ∧ x5 ≤ 5) (k6 : 0 ≤ x6 ∧ x6 ≤ 13) (f0 : 1 * x3 + 0 ≤ 0) (f1 : (-1) * x3 + 0 ≤ 0) (f2 : (styleKind_0 = 0) → (styleOne_0 ≤ 23)) (f3 : 1 * x1 + ((-1) * x4 + 0) ≤ 0) (f4 : x4 = x1) (f5 : x5 = x2) (f6 : x6 = x3) (f7 : (styleKind_0 = 0) → (styleOne_0 ≤ 23)) (f8 : ((cur_0 + 1) ≤ tokens_0) ∧ ((tokens_0 ≤ 2010) ∧ ((tokenKind_0 ((tokens_0 - 1)) = 0) ∨ (tokenKind_0 ((tokens_0 - 1)) = 4)))) (f9 : 1 * x4 + ((-1) * cur_0 + 0) ≤ 0) (f10 : 1 * opened_0 + 0 ≤ 0) (f11 : (-1) * opened_0 + 0 ≤ 0) (f12 : SVL (fault_0) (cur_0) (styleKind_0) (limit_0) (tokenKind_0) (tokenValue_0) (tokenPlace_0) (tokenEnd_0) (tape_0) (x4) (x5) (x6)) (f14 : 1 * x3 + 0 ≤ 0) (f15 : (-1) * x3 + 0 ≤ 0) (f16 : 1 * x1 + ((-1) * x4 + 0) ≤ 0) (hK_0_1 : ∀ j : Int, 0 ≤ j → j < 2000 → (-128) ≤ tape_0 j ∧ tape_0 j ≤ 127) (hK_0_160 : ∀ j : Int, 0 ≤ j → j < 2010 → 0 ≤ tokenKind_0 j ∧ tokenKind_0 j ≤ 4) (hK_0_162 : ∀ j : Int, 0 ≤ j → j < 2010 → 0 ≤ tokenPlace_0 j ∧ tokenPlace_0 j ≤ 2000) (hK_0_163 : ∀ j : Int, 0 ≤ j → j < 2010 → 0 ≤ tokenEnd_0 j ∧ tokenEnd_0 j ≤ 2000) (kz_0_8 : 0 ≤ fault_0 ∧ fault_0 ≤ 5) (kz_0_10 : 0 ≤ limit_0 ∧ limit_0 ≤ 2000) (kz_0_157 : 0 ≤ tokens_0 ∧ tokens_0 ≤ 2010) (kz_0_158 : 0 ≤ cur_0 ∧ cur_0 ≤ 2009) (kz_0_159 : 0 ≤ opened_0 ∧ opened_0 ≤ 13) (kz_0_164 : 0 ≤ styleKind_0 ∧ styleKind_0 ≤ 1) (kz_0_165 : (-1) ≤ styleOne_0 ∧ styleOne_0 ≤ 47) (ex2 : gx = 2010 + ((-1) * cur_0 + 0)) (ex3 : 0 ≤ gx ∧ gx ≤ 2010) : (-1) * gx + ((-1) * cur_0 + 0) ≤ (-2010) := by
  first | assumption | (clear f2 f7 f8 hK_0_1 hK_0_160 hK_0_162 hK_0_163; omega) | (clear hK_0_1 hK_0_160 hK_0_162 hK_0_163; grind) | omega | grind
def o_Mo_product_at_f0_1 : or_T := (5, 8, [(0, (2, 0, 0, [165])), (1, (0, 0, 2009, [])), (2, (0, 0, 5, [])), (3, (0, 0, 13, [])), (4, (0, 0, 2009, [])), (5, (0, 0, 5, [])), (6, (0, 0, 13, []))], [(23, [3], [0, 1]), (23, [3], [0, -1]), (20, [0], [50, 2, 0, 164, 165, 4, 7, 1, 3, 2, 0, 164, 0, 0, 0, 3, 2, 0, 165, 0, 23]), (23, [1, 4], [0, 1, -1]), (20, [4, 1], [50, 0, 0, 1, 2, 1, 0, 1, 1]), (20, [5, 2], [50, 0, 0, 1, 2, 1, 0, 1, 1]), (20, [6, 3], [50, 0, 0, 1, 2, 1, 0, 1, 1]), (20, [0], [50, 2, 0, 164, 165, 4, 7, 1, 3, 2, 0, 164, 0, 0, 0, 3, 2, 0, 165, 0, 23]), (20, [0], [50, 2, 1, 158, 157, 160, 2, 12, 0, 7, 4, 3, 2, 0, 158, 0, 1, 2, 0, 157, 2, 7, 0, 3, 2, 0, 157, 0, 2010, 3, 14, 1, 10, 3, 0, 160, 5, 3, 2, 0, 157, 0, 1, 0, 0, 1, 10, 3, 0, 160, 5, 3, 2, 0, 157, 0, 1, 0, 4]), (20, [4, 0], [30, 0, 1, 0, 0, -1, 1, 158]), (20, [0], [30, 0, 1, 1, 159]), (20, [0], [30, 0, -1, 1, 159]), (20, [0, 4, 5, 6], [60, 4, 5, 0, 8, 158, 164, 10, 160, 161, 162, 163, 1]), (102, [6], [0, 165008, 165009, 165158, 165159]), (23, [3], [0, 1]), (23, [3], [0, -1]), (23, [1, 4], [0, 1, -1])], [], [(0, 0, 2010, [])], [(20, [0], [50, 2, 1, 158, 157, 160, 2, 12, 0, 7, 4, 3, 2, 0, 158, 0, 1, 2, 0, 157, 2, 7, 0, 3, 2, 0, 157, 0, 2010, 3, 14, 1, 10, 3, 0, 160, 5, 3, 2, 0, 157, 0, 1, 0, 0, 1, 10, 3, 0, 160, 5, 3, 2, 0, 157, 0, 1, 0, 4]), (20, [1, 0], [30, 0, 1, 0, 0, -1, 1, 158]), (20, [0], [50, 2, 0, 164, 165, 4, 7, 1, 3, 2, 0, 164, 0, 0, 0, 3, 2, 0, 165, 0, 23]), (20, [0], [30, 0, 1, 1, 159]), (20, [0], [30, 0, -1, 1, 159]), (20, [0, 1, 2, 3], [60, 4, 5, 6, 8, 158, 164, 10, 160, 161, 162, 163, 1]), (23, [3], [0, 1]), (23, [3], [0, -1]), (24, [0, 0], []), (20, [8, 0], [30, 2010, 1, 0, 0, 1, 1, 158]), (20, [8, 0], [30, -2010, -1, 0, 0, -1, 1, 158])], [], [])
theorem oo_Mo_product_at_f0_1 {kA : Nat → ClassId} : or_ok PRD kA GG o_Mo_product_at_f0_1 := by
  refine or_mk fun A ta ws vs hD hth hl => ?_
  intro t0 r0 t1 k1 t2 k2 t3 k3 t4 k4 t5 k5 t6 k6 f0 f1 f2 f3 f4 f5 f6 f7 f8 f9 f10 f11 f12 ta1 w1 le1 s1 f14 f15 f16
  replace f0 := shm_1477 f0
  replace f1 := shm_1013 f1
  replace f2 := shm_299 f2
  replace f3 := shm_7 f3
  replace f4 := shm_48 f4
  replace f5 := shm_48 f5
  replace f6 := shm_48 f6
  replace f7 := shm_299 f7
  replace f8 := shm_296 f8
  replace f9 := shm_306 f9
  replace f10 := shm_999 f10
  replace f11 := shm_1000 f11
  replace f12 := shm_341 f12
  replace f14 := shm_1477 f14
  replace f15 := shm_1013 f15
  replace f16 := shm_7 f16
  have cr_0_1 := fdq_46 hD hth r0
  have cr_0_160 := fdq_41 hD hth r0
  have cr_0_162 := fdq_48 hD hth r0
  have cr_0_163 := fdq_49 hD hth r0
  have hK_0_1 := elq_6 hD hth cr_0_1
  have hK_0_160 := elq_5 hD hth cr_0_160
  have hK_0_162 := elq_7 hD hth cr_0_162
  have hK_0_163 := elq_8 hD hth cr_0_163
  have kz_0_8 := fdq_14 hD hth r0
  have kz_0_10 := fdq_50 hD hth r0
  have kz_0_157 := fdq_42 hD hth r0
  have kz_0_158 := fdq_43 hD hth r0
  have kz_0_159 := fdq_44 hD hth r0
  have kz_0_164 := fdq_45 hD hth r0
  have kz_0_165 := fdq_35 hD hth r0
  obtain ⟨x, ex, hx⟩ := iv_ex (ta := ta) (lo := 0) (hi := 2010) (z := 2010 + ((-1) * w_fi ws (n_v vs 0) 158 + 0)) (by omega) (by omega) (by omega) (by omega)
  have ex2 : v_iv (Value.int x) = 2010 + ((-1) * w_fi ws (n_v vs 0) 158 + 0) := ex
  have ex3 : 0 ≤ v_iv (Value.int x) ∧ v_iv (Value.int x) ≤ 2010 := tv_rng hx
  have e_0 : n_v (vs ++ [Value.int x]) 0 = n_v vs 0 := n_v_old (by rw [hl]; decide)
  have e_1 : n_v (vs ++ [Value.int x]) 1 = n_v vs 1 := n_v_old (by rw [hl]; decide)
  have e_2 : n_v (vs ++ [Value.int x]) 2 = n_v vs 2 := n_v_old (by rw [hl]; decide)
  have e_3 : n_v (vs ++ [Value.int x]) 3 = n_v vs 3 := n_v_old (by rw [hl]; decide)
  have e_8 : n_v (vs ++ [Value.int x]) 8 = Value.int x := n_v_new hl
  have nf0 : fc_1 PRD (20, [0], [50, 2, 1, 158, 157, 160, 2, 12, 0, 7, 4, 3, 2, 0, 158, 0, 1, 2, 0, 157, 2, 7, 0, 3, 2, 0, 157, 0, 2010, 3, 14, 1, 10, 3, 0, 160, 5, 3, 2, 0, 157, 0, 1, 0, 0, 1, 10, 3, 0, 160, 5, 3, 2, 0, 157, 0, 1, 0, 4]) ws (vs ++ [Value.int x]) := by
    refine ⟨nf_inA hl rfl, sgq_296 ?_⟩
    · show ((w_fi ws (n_v (vs ++ [Value.int x]) 0) 158 + 1) ≤ w_fi ws (n_v (vs ++ [Value.int x]) 0) 157) ∧ ((w_fi ws (n_v (vs ++ [Value.int x]) 0) 157 ≤ 2010) ∧ ((w_ei ws (w_ar ws (n_v (vs ++ [Value.int x]) 0) 160) ((w_fi ws (n_v (vs ++ [Value.int x]) 0) 157 - 1)) = 0) ∨ (w_ei ws (w_ar ws (n_v (vs ++ [Value.int x]) 0) 160) ((w_fi ws (n_v (vs ++ [Value.int x]) 0) 157 - 1)) = 4)))
      rw [e_0]
      exact vc_Mo_product_at_f0_1_0 (v_iv (n_v vs 1)) (v_iv (n_v vs 2)) (v_iv (n_v vs 3)) (v_iv (n_v vs 4)) (v_iv (n_v vs 5)) (v_iv (n_v vs 6)) (w_fi ws (n_v vs 0) 164) (w_fi ws (n_v vs 0) 165) (w_ei ws (w_ar ws (n_v vs 0) 160)) (w_fi ws (n_v vs 0) 158) (w_fi ws (n_v vs 0) 157) (w_fi ws (n_v vs 0) 159) (w_ei ws (w_ar ws (n_v vs 0) 161)) (w_ei ws (w_ar ws (n_v vs 0) 162)) (w_ei ws (w_ar ws (n_v vs 0) 163)) (w_ei ws (w_ar ws (n_v vs 0) 1)) (w_fi ws (n_v vs 0) 8) (w_fi ws (n_v vs 0) 10) (v_iv (Value.int x)) k1 k2 k3 k4 k5 k6 f0 f1 f2 f3 f4 f5 f6 f7 f8 f9 f10 f11 f12 f14 f15 f16 hK_0_1 hK_0_160 hK_0_162 hK_0_163 kz_0_8 kz_0_10 kz_0_157 kz_0_158 kz_0_159 kz_0_164 kz_0_165 ex2 ex3
  have nf1 : fc_1 PRD (20, [1, 0], [30, 0, 1, 0, 0, -1, 1, 158]) ws (vs ++ [Value.int x]) := by
    refine ⟨nf_inA hl rfl, sgq_306 ?_⟩
    · show 1 * v_iv (n_v (vs ++ [Value.int x]) 1) + ((-1) * w_fi ws (n_v (vs ++ [Value.int x]) 0) 158 + 0) ≤ 0
      simp only [e_0, e_1]
      exact vc_Mo_product_at_f0_1_1 (v_iv (n_v vs 1)) (v_iv (n_v vs 2)) (v_iv (n_v vs 3)) (v_iv (n_v vs 4)) (v_iv (n_v vs 5)) (v_iv (n_v vs 6)) (w_fi ws (n_v vs 0) 164) (w_fi ws (n_v vs 0) 165) (w_ei ws (w_ar ws (n_v vs 0) 160)) (w_fi ws (n_v vs 0) 158) (w_fi ws (n_v vs 0) 157) (w_fi ws (n_v vs 0) 159) (w_ei ws (w_ar ws (n_v vs 0) 161)) (w_ei ws (w_ar ws (n_v vs 0) 162)) (w_ei ws (w_ar ws (n_v vs 0) 163)) (w_ei ws (w_ar ws (n_v vs 0) 1)) (w_fi ws (n_v vs 0) 8) (w_fi ws (n_v vs 0) 10) (v_iv (Value.int x)) k1 k2 k3 k4 k5 k6 f0 f1 f2 f3 f4 f5 f6 f7 f8 f9 f10 f11 f12 f14 f15 f16 hK_0_1 hK_0_160 hK_0_162 hK_0_163 kz_0_8 kz_0_10 kz_0_157 kz_0_158 kz_0_159 kz_0_164 kz_0_165 ex2 ex3
  have nf2 : fc_1 PRD (20, [0], [50, 2, 0, 164, 165, 4, 7, 1, 3, 2, 0, 164, 0, 0, 0, 3, 2, 0, 165, 0, 23]) ws (vs ++ [Value.int x]) := by
    refine ⟨nf_inA hl rfl, sgq_299 ?_⟩
    · show (w_fi ws (n_v (vs ++ [Value.int x]) 0) 164 = 0) → (w_fi ws (n_v (vs ++ [Value.int x]) 0) 165 ≤ 23)
      rw [e_0]
      exact vc_Mo_product_at_f0_1_2 (v_iv (n_v vs 1)) (v_iv (n_v vs 2)) (v_iv (n_v vs 3)) (v_iv (n_v vs 4)) (v_iv (n_v vs 5)) (v_iv (n_v vs 6)) (w_fi ws (n_v vs 0) 164) (w_fi ws (n_v vs 0) 165) (w_ei ws (w_ar ws (n_v vs 0) 160)) (w_fi ws (n_v vs 0) 158) (w_fi ws (n_v vs 0) 157) (w_fi ws (n_v vs 0) 159) (w_ei ws (w_ar ws (n_v vs 0) 161)) (w_ei ws (w_ar ws (n_v vs 0) 162)) (w_ei ws (w_ar ws (n_v vs 0) 163)) (w_ei ws (w_ar ws (n_v vs 0) 1)) (w_fi ws (n_v vs 0) 8) (w_fi ws (n_v vs 0) 10) (v_iv (Value.int x)) k1 k2 k3 k4 k5 k6 f0 f1 f2 f3 f4 f5 f6 f7 f8 f9 f10 f11 f12 f14 f15 f16 hK_0_1 hK_0_160 hK_0_162 hK_0_163 kz_0_8 kz_0_10 kz_0_157 kz_0_158 kz_0_159 kz_0_164 kz_0_165 ex2 ex3
  have nf3 : fc_1 PRD (20, [0], [30, 0, 1, 1, 159]) ws (vs ++ [Value.int x]) := by
    refine ⟨nf_inA hl rfl, sgq_999 ?_⟩
    · show 1 * w_fi ws (n_v (vs ++ [Value.int x]) 0) 159 + 0 ≤ 0
      rw [e_0]
      exact vc_Mo_product_at_f0_1_3 (v_iv (n_v vs 1)) (v_iv (n_v vs 2)) (v_iv (n_v vs 3)) (v_iv (n_v vs 4)) (v_iv (n_v vs 5)) (v_iv (n_v vs 6)) (w_fi ws (n_v vs 0) 164) (w_fi ws (n_v vs 0) 165) (w_ei ws (w_ar ws (n_v vs 0) 160)) (w_fi ws (n_v vs 0) 158) (w_fi ws (n_v vs 0) 157) (w_fi ws (n_v vs 0) 159) (w_ei ws (w_ar ws (n_v vs 0) 161)) (w_ei ws (w_ar ws (n_v vs 0) 162)) (w_ei ws (w_ar ws (n_v vs 0) 163)) (w_ei ws (w_ar ws (n_v vs 0) 1)) (w_fi ws (n_v vs 0) 8) (w_fi ws (n_v vs 0) 10) (v_iv (Value.int x)) k1 k2 k3 k4 k5 k6 f0 f1 f2 f3 f4 f5 f6 f7 f8 f9 f10 f11 f12 f14 f15 f16 hK_0_1 hK_0_160 hK_0_162 hK_0_163 kz_0_8 kz_0_10 kz_0_157 kz_0_158 kz_0_159 kz_0_164 kz_0_165 ex2 ex3
  have nf4 : fc_1 PRD (20, [0], [30, 0, -1, 1, 159]) ws (vs ++ [Value.int x]) := by
    refine ⟨nf_inA hl rfl, sgq_1000 ?_⟩
    · show (-1) * w_fi ws (n_v (vs ++ [Value.int x]) 0) 159 + 0 ≤ 0
      rw [e_0]
      exact vc_Mo_product_at_f0_1_4 (v_iv (n_v vs 1)) (v_iv (n_v vs 2)) (v_iv (n_v vs 3)) (v_iv (n_v vs 4)) (v_iv (n_v vs 5)) (v_iv (n_v vs 6)) (w_fi ws (n_v vs 0) 164) (w_fi ws (n_v vs 0) 165) (w_ei ws (w_ar ws (n_v vs 0) 160)) (w_fi ws (n_v vs 0) 158) (w_fi ws (n_v vs 0) 157) (w_fi ws (n_v vs 0) 159) (w_ei ws (w_ar ws (n_v vs 0) 161)) (w_ei ws (w_ar ws (n_v vs 0) 162)) (w_ei ws (w_ar ws (n_v vs 0) 163)) (w_ei ws (w_ar ws (n_v vs 0) 1)) (w_fi ws (n_v vs 0) 8) (w_fi ws (n_v vs 0) 10) (v_iv (Value.int x)) k1 k2 k3 k4 k5 k6 f0 f1 f2 f3 f4 f5 f6 f7 f8 f9 f10 f11 f12 f14 f15 f16 hK_0_1 hK_0_160 hK_0_162 hK_0_163 kz_0_8 kz_0_10 kz_0_157 kz_0_158 kz_0_159 kz_0_164 kz_0_165 ex2 ex3
  have nf5 : fc_1 PRD (20, [0, 1, 2, 3], [60, 4, 5, 6, 8, 158, 164, 10, 160, 161, 162, 163, 1]) ws (vs ++ [Value.int x]) := by
    refine ⟨nf_inA hl rfl, sgq_342 ?_⟩
    · show SPWv (w_fi ws (n_v (vs ++ [Value.int x]) 0) 8) (w_fi ws (n_v (vs ++ [Value.int x]) 0) 158) (w_fi ws (n_v (vs ++ [Value.int x]) 0) 164) (w_fi ws (n_v (vs ++ [Value.int x]) 0) 10) (w_ei ws (w_ar ws (n_v (vs ++ [Value.int x]) 0) 160)) (w_ei ws (w_ar ws (n_v (vs ++ [Value.int x]) 0) 161)) (w_ei ws (w_ar ws (n_v (vs ++ [Value.int x]) 0) 162)) (w_ei ws (w_ar ws (n_v (vs ++ [Value.int x]) 0) 163)) (w_ei ws (w_ar ws (n_v (vs ++ [Value.int x]) 0) 1)) (v_iv (n_v (vs ++ [Value.int x]) 1)) (v_iv (n_v (vs ++ [Value.int x]) 2)) (v_iv (n_v (vs ++ [Value.int x]) 3))
      simp only [e_0, e_1, e_2, e_3]
      exact vc_Mo_product_at_f0_1_5 (v_iv (n_v vs 1)) (v_iv (n_v vs 2)) (v_iv (n_v vs 3)) (v_iv (n_v vs 4)) (v_iv (n_v vs 5)) (v_iv (n_v vs 6)) (w_fi ws (n_v vs 0) 164) (w_fi ws (n_v vs 0) 165) (w_ei ws (w_ar ws (n_v vs 0) 160)) (w_fi ws (n_v vs 0) 158) (w_fi ws (n_v vs 0) 157) (w_fi ws (n_v vs 0) 159) (w_ei ws (w_ar ws (n_v vs 0) 161)) (w_ei ws (w_ar ws (n_v vs 0) 162)) (w_ei ws (w_ar ws (n_v vs 0) 163)) (w_ei ws (w_ar ws (n_v vs 0) 1)) (w_fi ws (n_v vs 0) 8) (w_fi ws (n_v vs 0) 10) (v_iv (Value.int x)) k1 k2 k3 k4 k5 k6 f0 f1 f2 f3 f4 f5 f6 f7 f8 f9 f10 f11 f12 f14 f15 f16 hK_0_1 hK_0_160 hK_0_162 hK_0_163 kz_0_8 kz_0_10 kz_0_157 kz_0_158 kz_0_159 kz_0_164 kz_0_165 ex2 ex3
  have nf6 : fc_1 PRD (23, [3], [0, 1]) ws (vs ++ [Value.int x]) := by
    refine ⟨nf_inA hl rfl, sgq_1477 ?_⟩
    · show 1 * v_iv (n_v (vs ++ [Value.int x]) 3) + 0 ≤ 0
      rw [e_3]
      exact vc_Mo_product_at_f0_1_6 (v_iv (n_v vs 1)) (v_iv (n_v vs 2)) (v_iv (n_v vs 3)) (v_iv (n_v vs 4)) (v_iv (n_v vs 5)) (v_iv (n_v vs 6)) (w_fi ws (n_v vs 0) 164) (w_fi ws (n_v vs 0) 165) (w_ei ws (w_ar ws (n_v vs 0) 160)) (w_fi ws (n_v vs 0) 158) (w_fi ws (n_v vs 0) 157) (w_fi ws (n_v vs 0) 159) (w_ei ws (w_ar ws (n_v vs 0) 161)) (w_ei ws (w_ar ws (n_v vs 0) 162)) (w_ei ws (w_ar ws (n_v vs 0) 163)) (w_ei ws (w_ar ws (n_v vs 0) 1)) (w_fi ws (n_v vs 0) 8) (w_fi ws (n_v vs 0) 10) (v_iv (Value.int x)) k1 k2 k3 k4 k5 k6 f0 f1 f2 f3 f4 f5 f6 f7 f8 f9 f10 f11 f12 f14 f15 f16 hK_0_1 hK_0_160 hK_0_162 hK_0_163 kz_0_8 kz_0_10 kz_0_157 kz_0_158 kz_0_159 kz_0_164 kz_0_165 ex2 ex3
  have nf7 : fc_1 PRD (23, [3], [0, -1]) ws (vs ++ [Value.int x]) := by
    refine ⟨nf_inA hl rfl, sgq_1013 ?_⟩
    · show (-1) * v_iv (n_v (vs ++ [Value.int x]) 3) + 0 ≤ 0
      rw [e_3]
      exact vc_Mo_product_at_f0_1_7 (v_iv (n_v vs 1)) (v_iv (n_v vs 2)) (v_iv (n_v vs 3)) (v_iv (n_v vs 4)) (v_iv (n_v vs 5)) (v_iv (n_v vs 6)) (w_fi ws (n_v vs 0) 164) (w_fi ws (n_v vs 0) 165) (w_ei ws (w_ar ws (n_v vs 0) 160)) (w_fi ws (n_v vs 0) 158) (w_fi ws (n_v vs 0) 157) (w_fi ws (n_v vs 0) 159) (w_ei ws (w_ar ws (n_v vs 0) 161)) (w_ei ws (w_ar ws (n_v vs 0) 162)) (w_ei ws (w_ar ws (n_v vs 0) 163)) (w_ei ws (w_ar ws (n_v vs 0) 1)) (w_fi ws (n_v vs 0) 8) (w_fi ws (n_v vs 0) 10) (v_iv (Value.int x)) k1 k2 k3 k4 k5 k6 f0 f1 f2 f3 f4 f5 f6 f7 f8 f9 f10 f11 f12 f14 f15 f16 hK_0_1 hK_0_160 hK_0_162 hK_0_163 kz_0_8 kz_0_10 kz_0_157 kz_0_158 kz_0_159 kz_0_164 kz_0_165 ex2 ex3
  have nf8 : fc_1 PRD (24, [0, 0], []) ws (vs ++ [Value.int x]) := by
    refine ⟨nf_inA hl rfl, sgq_1 ?_⟩
    · show n_v (vs ++ [Value.int x]) 0 = n_v (vs ++ [Value.int x]) 0
      first | rfl | simp only [e_0]
  have nf9 : fc_1 PRD (20, [8, 0], [30, 2010, 1, 0, 0, 1, 1, 158]) ws (vs ++ [Value.int x]) := by
    refine ⟨nf_inA hl rfl, sgq_309 ?_⟩
    · show 1 * v_iv (n_v (vs ++ [Value.int x]) 8) + (1 * w_fi ws (n_v (vs ++ [Value.int x]) 0) 158 + 0) ≤ 2010
      simp only [e_0, e_8]
      exact vc_Mo_product_at_f0_1_9 (v_iv (n_v vs 1)) (v_iv (n_v vs 2)) (v_iv (n_v vs 3)) (v_iv (n_v vs 4)) (v_iv (n_v vs 5)) (v_iv (n_v vs 6)) (w_fi ws (n_v vs 0) 164) (w_fi ws (n_v vs 0) 165) (w_ei ws (w_ar ws (n_v vs 0) 160)) (w_fi ws (n_v vs 0) 158) (w_fi ws (n_v vs 0) 157) (w_fi ws (n_v vs 0) 159) (w_ei ws (w_ar ws (n_v vs 0) 161)) (w_ei ws (w_ar ws (n_v vs 0) 162)) (w_ei ws (w_ar ws (n_v vs 0) 163)) (w_ei ws (w_ar ws (n_v vs 0) 1)) (w_fi ws (n_v vs 0) 8) (w_fi ws (n_v vs 0) 10) (v_iv (Value.int x)) k1 k2 k3 k4 k5 k6 f0 f1 f2 f3 f4 f5 f6 f7 f8 f9 f10 f11 f12 f14 f15 f16 hK_0_1 hK_0_160 hK_0_162 hK_0_163 kz_0_8 kz_0_10 kz_0_157 kz_0_158 kz_0_159 kz_0_164 kz_0_165 ex2 ex3
  have nf10 : fc_1 PRD (20, [8, 0], [30, -2010, -1, 0, 0, -1, 1, 158]) ws (vs ++ [Value.int x]) := by
    refine ⟨nf_inA hl rfl, sgq_310 ?_⟩
    · show (-1) * v_iv (n_v (vs ++ [Value.int x]) 8) + ((-1) * w_fi ws (n_v (vs ++ [Value.int x]) 0) 158 + 0) ≤ (-2010)
      simp only [e_0, e_8]
      exact vc_Mo_product_at_f0_1_10 (v_iv (n_v vs 1)) (v_iv (n_v vs 2)) (v_iv (n_v vs 3)) (v_iv (n_v vs 4)) (v_iv (n_v vs 5)) (v_iv (n_v vs 6)) (w_fi ws (n_v vs 0) 164) (w_fi ws (n_v vs 0) 165) (w_ei ws (w_ar ws (n_v vs 0) 160)) (w_fi ws (n_v vs 0) 158) (w_fi ws (n_v vs 0) 157) (w_fi ws (n_v vs 0) 159) (w_ei ws (w_ar ws (n_v vs 0) 161)) (w_ei ws (w_ar ws (n_v vs 0) 162)) (w_ei ws (w_ar ws (n_v vs 0) 163)) (w_ei ws (w_ar ws (n_v vs 0) 1)) (w_fi ws (n_v vs 0) 8) (w_fi ws (n_v vs 0) 10) (v_iv (Value.int x)) k1 k2 k3 k4 k5 k6 f0 f1 f2 f3 f4 f5 f6 f7 f8 f9 f10 f11 f12 f14 f15 f16 hK_0_1 hK_0_160 hK_0_162 hK_0_163 kz_0_8 kz_0_10 kz_0_157 kz_0_158 kz_0_159 kz_0_164 kz_0_165 ex2 ex3
  exact ⟨(fun _ h => (by cases h)), [Value.int x], ag_one hx, List.forall_mem_cons.mpr ⟨⟨show (20 : Nat) < 100 from by decide, nf0⟩, List.forall_mem_cons.mpr ⟨⟨show (20 : Nat) < 100 from by decide, nf1⟩, List.forall_mem_cons.mpr ⟨⟨show (20 : Nat) < 100 from by decide, nf2⟩, List.forall_mem_cons.mpr ⟨⟨show (20 : Nat) < 100 from by decide, nf3⟩, List.forall_mem_cons.mpr ⟨⟨show (20 : Nat) < 100 from by decide, nf4⟩, List.forall_mem_cons.mpr ⟨⟨show (20 : Nat) < 100 from by decide, nf5⟩, List.forall_mem_cons.mpr ⟨⟨show (23 : Nat) < 100 from by decide, nf6⟩, List.forall_mem_cons.mpr ⟨⟨show (23 : Nat) < 100 from by decide, nf7⟩, List.forall_mem_cons.mpr ⟨⟨show (24 : Nat) < 100 from by decide, nf8⟩, List.forall_mem_cons.mpr ⟨⟨show (20 : Nat) < 100 from by decide, nf9⟩, List.forall_mem_cons.mpr ⟨⟨show (20 : Nat) < 100 from by decide, nf10⟩, (fun _ h => (by cases h))⟩⟩⟩⟩⟩⟩⟩⟩⟩⟩⟩, (fun _ h => (by cases h))⟩
set_option maxHeartbeats 4000000 in
theorem vc_Mo_product_at_f0_2_0 (x1 : Int) (x2 : Int) (x3 : Int) (x6 : Int) (x7 : Int) (cur_0 : Int) (tokenKind_0 : Int → Int) (tokens_0 : Int) (styleKind_0 : Int) (styleOne_0 : Int) (tokenValue_0 : Int → Int) (tokenPlace_0 : Int → Int) (tokenEnd_0 : Int → Int) (tape_0 : Int → Int) (fault_0 : Int) (limit_0 : Int) (gx : Int) (k1 : 0 ≤ x1 ∧ x1 ≤ 2009) (k2 : 0 ≤ x2 ∧ x2 ≤ 5) (k3 : 0 ≤ x3 ∧ x3 ≤ 13) (k6 : 0 ≤ x6 ∧ x6 ≤ 2009) (k7 : 0 ≤ x7 ∧ x7 ≤ 2010) (g0 : x6 = cur_0) (f1 : ((cur_0 + 1) ≤ tokens_0) ∧ ((tokens_0 ≤ 2010) ∧ ((tokenKind_0 ((tokens_0 - 1)) = 0) ∨ (tokenKind_0 ((tokens_0 - 1)) = 4)))) (f2 : 1 * x1 + ((-1) * cur_0 + 0) ≤ 0) (f3 : (styleKind_0 = 0) → (styleOne_0 ≤ 23)) (f4 : SPWv (fault_0) (cur_0) (styleKind_0) (limit_0) (tokenKind_0) (tokenValue_0) (tokenPlace_0) (tokenEnd_0) (tape_0) (x1) (x2) (x3)) (f5 : 1 * x3 + 0 ≤ 0) (f6 : (-1) * x3 + 0 ≤ 0) (f8 : 1 * x7 + (1 * cur_0 + 0) ≤ 2010) (f9 : (-1) * x7 + ((-1) * cur_0 + 0) ≤ (-2010)) (hK_0_1 : ∀ j : Int, 0 ≤ j → j < 2000 → (-128) ≤ tape_0 j ∧ tape_0 j ≤ 127) (hK_0_160 : ∀ j : Int, 0 ≤ j → j < 2010 → 0 ≤ tokenKind_0 j ∧ tokenKind_0 j ≤ 4) (hK_0_162 : ∀ j : Int, 0 ≤ j → j < 2010 → 0 ≤ tokenPlace_0 j ∧ tokenPlace_0 j ≤ 2000) (hK_0_163 : ∀ j : Int, 0 ≤ j → j < 2010 → 0 ≤ tokenEnd_0 j ∧ tokenEnd_0 j ≤ 2000) (kz_0_8 : 0 ≤ fault_0 ∧ fault_0 ≤ 5) (kz_0_10 : 0 ≤ limit_0 ∧ limit_0 ≤ 2000) (kz_0_157 : 0 ≤ tokens_0 ∧ tokens_0 ≤ 2010) (kz_0_158 : 0 ≤ cur_0 ∧ cur_0 ≤ 2009) (kz_0_164 : 0 ≤ styleKind_0 ∧ styleKind_0 ≤ 1) (kz_0_165 : (-1) ≤ styleOne_0 ∧ styleOne_0 ≤ 47) (ex2 : gx = fault_0) (ex3 : 0 ≤ gx ∧ gx ≤ 5) : fault_0 = gx := by
  first | assumption | (clear f1 f3 hK_0_1 hK_0_160 hK_0_162 hK_0_163; omega) | (clear hK_0_1 hK_0_160 hK_0_162 hK_0_163; grind) | omega | grind
def o_Mo_product_at_f0_2 : or_T := (8, 9, [(0, (2, 0, 0, [165])), (1, (0, 0, 2009, [])), (2, (0, 0, 5, [])), (3, (0, 0, 13, [])), (6, (0, 0, 2009, [])), (7, (0, 0, 2010, []))], [(9, [6, 4], [158]), (20, [4], [50, 2, 1, 158, 157, 160, 2, 12, 0, 7, 4, 3, 2, 0, 158, 0, 1, 2, 0, 157, 2, 7, 0, 3, 2, 0, 157, 0, 2010, 3, 14, 1, 10, 3, 0, 160, 5, 3, 2, 0, 157, 0, 1, 0, 0, 1, 10, 3, 0, 160, 5, 3, 2, 0, 157, 0, 1, 0, 4]), (20, [1, 4], [30, 0, 1, 0, 0, -1, 1, 158]), (20, [4], [50, 2, 0, 164, 165, 4, 7, 1, 3, 2, 0, 164, 0, 0, 0, 3, 2, 0, 165, 0, 23]), (20, [4, 1, 2, 3], [60, 4, 5, 6, 8, 158, 164, 10, 160, 161, 162, 163, 1]), (23, [3], [0, 1]), (23, [3], [0, -1]), (24, [0, 4], []), (20, [7, 4], [30, 2010, 1, 0, 0, 1, 1, 158]), (20, [7, 4], [30, -2010, -1, 0, 0, -1, 1, 158])], [], [(0, 0, 5, [])], [(20, [4, 9], [50, 1, 0, 8, 1, 3, 2, 0, 8, 1, 1])], [], [])
theorem oo_Mo_product_at_f0_2 {kA : Nat → ClassId} : or_ok PRD kA GG o_Mo_product_at_f0_2 := by
  refine or_mk fun A ta ws vs hD hth hl => ?_
  intro t0 r0 t1 k1 t2 k2 t3 k3 t6 k6 t7 k7 f0 f1 f2 f3 f4 f5 f6 f7 f8 f9
  replace f0 := shm_311 f0
  replace f1 := shm_296 f1
  replace f2 := shm_306 f2
  replace f3 := shm_299 f3
  replace f4 := shm_342 f4
  replace f5 := shm_1477 f5
  replace f6 := shm_1013 f6
  replace f7 := shm_5 f7
  replace f8 := shm_309 f8
  replace f9 := shm_310 f9
  have q4 : n_v vs 4 = n_v vs 0 := f7.symm
  simp only [q4] at f0 f1 f2 f3 f4 f8 f9
  have cr_0_1 := fdq_46 hD hth r0
  have cr_0_160 := fdq_41 hD hth r0
  have cr_0_162 := fdq_48 hD hth r0
  have cr_0_163 := fdq_49 hD hth r0
  have g0 : v_iv (n_v vs 6) = w_fi ws (n_v vs 0) 158 := congrArg v_iv f0
  have hK_0_1 := elq_6 hD hth cr_0_1
  have hK_0_160 := elq_5 hD hth cr_0_160
  have hK_0_162 := elq_7 hD hth cr_0_162
  have hK_0_163 := elq_8 hD hth cr_0_163
  have kz_0_8 := fdq_14 hD hth r0
  have kz_0_10 := fdq_50 hD hth r0
  have kz_0_157 := fdq_42 hD hth r0
  have kz_0_158 := fdq_43 hD hth r0
  have kz_0_164 := fdq_45 hD hth r0
  have kz_0_165 := fdq_35 hD hth r0
  obtain ⟨x, ex, hx⟩ := iv_ex (ta := ta) (lo := 0) (hi := 5) (z := w_fi ws (n_v vs 0) 8) (by omega) (by omega) (by omega) (by omega)
  have ex2 : v_iv (Value.int x) = w_fi ws (n_v vs 0) 8 := ex
  have ex3 : 0 ≤ v_iv (Value.int x) ∧ v_iv (Value.int x) ≤ 5 := tv_rng hx
  have e_4 : n_v (vs ++ [Value.int x]) 4 = n_v vs 4 := n_v_old (by rw [hl]; decide)
  have e_9 : n_v (vs ++ [Value.int x]) 9 = Value.int x := n_v_new hl
  have nf0 : fc_1 PRD (20, [4, 9], [50, 1, 0, 8, 1, 3, 2, 0, 8, 1, 1]) ws (vs ++ [Value.int x]) := by
    refine ⟨nf_inA hl rfl, sgq_302 ?_⟩
    · show w_fi ws (n_v (vs ++ [Value.int x]) 4) 8 = v_iv (n_v (vs ++ [Value.int x]) 9)
      simp only [e_4, e_9, q4]
      exact vc_Mo_product_at_f0_2_0 (v_iv (n_v vs 1)) (v_iv (n_v vs 2)) (v_iv (n_v vs 3)) (v_iv (n_v vs 6)) (v_iv (n_v vs 7)) (w_fi ws (n_v vs 0) 158) (w_ei ws (w_ar ws (n_v vs 0) 160)) (w_fi ws (n_v vs 0) 157) (w_fi ws (n_v vs 0) 164) (w_fi ws (n_v vs 0) 165) (w_ei ws (w_ar ws (n_v vs 0) 161)) (w_ei ws (w_ar ws (n_v vs 0) 162)) (w_ei ws (w_ar ws (n_v vs 0) 163)) (w_ei ws (w_ar ws (n_v vs 0) 1)) (w_fi ws (n_v vs 0) 8) (w_fi ws (n_v vs 0) 10) (v_iv (Value.int x)) k1 k2 k3 k6 k7 g0 f1 f2 f3 f4 f5 f6 f8 f9 hK_0_1 hK_0_160 hK_0_162 hK_0_163 kz_0_8 kz_0_10 kz_0_157 kz_0_158 kz_0_164 kz_0_165 ex2 ex3
  exact ⟨(fun _ h => (by cases h)), [Value.int x], ag_one hx, List.forall_mem_cons.mpr ⟨⟨show (20 : Nat) < 100 from by decide, nf0⟩, (fun _ h => (by cases h))⟩, (fun _ h => (by cases h))⟩
set_option maxHeartbeats 4000000 in
theorem vc_Mo_product_at_f0_3_0 (x1 : Int) (x2 : Int) (x3 : Int) (x6 : Int) (x7 : Int) (x8 : Int) (x9 : Int) (x10 : Int) (cur_0 : Int) (tokenKind_0 : Int → Int) (tokenValue_0 : Int → Int) (fault_0 : Int) (tokens_0 : Int) (styleKind_0 : Int) (styleOne_0 : Int) (tokenPlace_0 : Int → Int) (tokenEnd_0 : Int → Int) (tape_0 : Int → Int) (limit_0 : Int) (gx : Int) (k1 : 0 ≤ x1 ∧ x1 ≤ 2009) (k2 : 0 ≤ x2 ∧ x2 ≤ 5) (k3 : 0 ≤ x3 ∧ x3 ≤ 13) (k6 : 0 ≤ x6 ∧ x6 ≤ 2009) (k7 : 0 ≤ x7 ∧ x7 ≤ 2010) (k8 : 42 ≤ x8 ∧ x8 ≤ 42) (k9 : 0 ≤ x9 ∧ x9 ≤ 5) (k10 : 0 ≤ x10 ∧ x10 ≤ 0) (g0 : x6 = cur_0) (f1 : x10 = 0) (f2 : (x10 = 1) → (tokenKind_0 (cur_0) = 3)) (f3 : SGN (cur_0) (tokenKind_0) (tokenValue_0) (x8) (x10) (x9)) (f4 : fault_0 = x9) (f5 : ((cur_0 + 1) ≤ tokens_0) ∧ ((tokens_0 ≤ 2010) ∧ ((tokenKind_0 ((tokens_0 - 1)) = 0) ∨ (tokenKind_0 ((tokens_0 - 1)) = 4)))) (f6 : 1 * x1 + ((-1) * cur_0 + 0) ≤ 0) (f7 : (styleKind_0 = 0) → (styleOne_0 ≤ 23)) (f8 : SPWv (fault_0) (cur_0) (styleKind_0) (limit_0) (tokenKind_0) (tokenValue_0) (tokenPlace_0) (tokenEnd_0) (tape_0) (x1) (x2) (x3)) (f9 : 1 * x3 + 0 ≤ 0) (f10 : (-1) * x3 + 0 ≤ 0) (f12 : 1 * x7 + (1 * cur_0 + 0) ≤ 2010) (f13 : (-1) * x7 + ((-1) * cur_0 + 0) ≤ (-2010)) (hK_0_1 : ∀ j : Int, 0 ≤ j → j < 2000 → (-128) ≤ tape_0 j ∧ tape_0 j ≤ 127) (hK_0_160 : ∀ j : Int, 0 ≤ j → j < 2010 → 0 ≤ tokenKind_0 j ∧ tokenKind_0 j ≤ 4) (hK_0_162 : ∀ j : Int, 0 ≤ j → j < 2010 → 0 ≤ tokenPlace_0 j ∧ tokenPlace_0 j ≤ 2000) (hK_0_163 : ∀ j : Int, 0 ≤ j → j < 2010 → 0 ≤ tokenEnd_0 j ∧ tokenEnd_0 j ≤ 2000) (kz_0_8 : 0 ≤ fault_0 ∧ fault_0 ≤ 5) (kz_0_10 : 0 ≤ limit_0 ∧ limit_0 ≤ 2000) (kz_0_157 : 0 ≤ tokens_0 ∧ tokens_0 ≤ 2010) (kz_0_158 : 0 ≤ cur_0 ∧ cur_0 ≤ 2009) (kz_0_164 : 0 ≤ styleKind_0 ∧ styleKind_0 ≤ 1) (kz_0_165 : (-1) ≤ styleOne_0 ∧ styleOne_0 ≤ 47) (ex2 : gx = fault_0) (ex3 : 0 ≤ gx ∧ gx ≤ 5) : fault_0 = gx := by
  first | assumption | (clear f2 f5 f7 hK_0_1 hK_0_160 hK_0_162 hK_0_163; omega) | (clear hK_0_1 hK_0_160 hK_0_162 hK_0_163; grind) | omega | grind
def o_Mo_product_at_f0_3 : or_T := (17, 12, [(0, (2, 0, 0, [165])), (1, (0, 0, 2009, [])), (2, (0, 0, 5, [])), (3, (0, 0, 13, [])), (6, (0, 0, 2009, [])), (7, (0, 0, 2010, [])), (8, (0, 42, 42, [])), (9, (0, 0, 5, [])), (10, (0, 0, 0, []))], [(9, [6, 4], [158]), (8, [10], [0]), (20, [10, 4], [50, 1, 1, 1158, 1160, 4, 6, 1, 2, 1, 0, 0, 1, 1, 6, 3, 1, 160, 2, 1, 158, 0, 3]), (20, [4, 8, 10, 9], [60, 1, 2, 14, 158, 160, 161]), (20, [4, 9], [50, 1, 0, 8, 1, 3, 2, 0, 8, 1, 1]), (20, [4], [50, 2, 1, 158, 157, 160, 2, 12, 0, 7, 4, 3, 2, 0, 158, 0, 1, 2, 0, 157, 2, 7, 0, 3, 2, 0, 157, 0, 2010, 3, 14, 1, 10, 3, 0, 160, 5, 3, 2, 0, 157, 0, 1, 0, 0, 1, 10, 3, 0, 160, 5, 3, 2, 0, 157, 0, 1, 0, 4]), (20, [1, 4], [30, 0, 1, 0, 0, -1, 1, 158]), (20, [4], [50, 2, 0, 164, 165, 4, 7, 1, 3, 2, 0, 164, 0, 0, 0, 3, 2, 0, 165, 0, 23]), (20, [4, 1, 2, 3], [60, 4, 5, 6, 8, 158, 164, 10, 160, 161, 162, 163, 1]), (23, [3], [0, 1]), (23, [3], [0, -1]), (24, [0, 4], []), (20, [7, 4], [30, 2010, 1, 0, 0, 1, 1, 158]), (20, [7, 4], [30, -2010, -1, 0, 0, -1, 1, 158])], [], [(0, 0, 5, [])], [(20, [4, 12], [50, 1, 0, 8, 1, 3, 2, 0, 8, 1, 1])], [], [])
theorem oo_Mo_product_at_f0_3 {kA : Nat → ClassId} : or_ok PRD kA GG o_Mo_product_at_f0_3 := by
  refine or_mk fun A ta ws vs hD hth hl => ?_
  intro t0 r0 t1 k1 t2 k2 t3 k3 t6 k6 t7 k7 t8 k8 t9 k9 t10 k10 f0 f1 f2 f3 f4 f5 f6 f7 f8 f9 f10 f11 f12 f13
  replace f0 := shm_311 f0
  replace f1 := shm_210 f1
  replace f2 := shm_319 f2
  replace f3 := shm_320 f3
  replace f4 := shm_302 f4
  replace f5 := shm_296 f5
  replace f6 := shm_306 f6
  replace f7 := shm_299 f7
  replace f8 := shm_342 f8
  replace f9 := shm_1477 f9
  replace f10 := shm_1013 f10
  replace f11 := shm_5 f11
  replace f12 := shm_309 f12
  replace f13 := shm_310 f13
  have q4 : n_v vs 4 = n_v vs 0 := f11.symm
  simp only [q4] at f0 f2 f3 f4 f5 f6 f7 f8 f12 f13
  have cr_0_1 := fdq_46 hD hth r0
  have cr_0_160 := fdq_41 hD hth r0
  have cr_0_162 := fdq_48 hD hth r0
  have cr_0_163 := fdq_49 hD hth r0
  have g0 : v_iv (n_v vs 6) = w_fi ws (n_v vs 0) 158 := congrArg v_iv f0
  have hK_0_1 := elq_6 hD hth cr_0_1
  have hK_0_160 := elq_5 hD hth cr_0_160
  have hK_0_162 := elq_7 hD hth cr_0_162
  have hK_0_163 := elq_8 hD hth cr_0_163
  have kz_0_8 := fdq_14 hD hth r0
  have kz_0_10 := fdq_50 hD hth r0
  have kz_0_157 := fdq_42 hD hth r0
  have kz_0_158 := fdq_43 hD hth r0
  have kz_0_164 := fdq_45 hD hth r0
  have kz_0_165 := fdq_35 hD hth r0
  obtain ⟨x, ex, hx⟩ := iv_ex (ta := ta) (lo := 0) (hi := 5) (z := w_fi ws (n_v vs 0) 8) (by omega) (by omega) (by omega) (by omega)
  have ex2 : v_iv (Value.int x) = w_fi ws (n_v vs 0) 8 := ex
  have ex3 : 0 ≤ v_iv (Value.int x) ∧ v_iv (Value.int x) ≤ 5 := tv_rng hx
  have e_4 : n_v (vs ++ [Value.int x]) 4 = n_v vs 4 := n_v_old (by rw [hl]; decide)
  have e_12 : n_v (vs ++ [Value.int x]) 12 = Value.int x := n_v_new hl
  have nf0 : fc_1 PRD (20, [4, 12], [50, 1, 0, 8, 1, 3, 2, 0, 8, 1, 1]) ws (vs ++ [Value.int x]) := by
    refine ⟨nf_inA hl rfl, sgq_302 ?_⟩
    · show w_fi ws (n_v (vs ++ [Value.int x]) 4) 8 = v_iv (n_v (vs ++ [Value.int x]) 12)
      simp only [e_4, e_12, q4]
      exact vc_Mo_product_at_f0_3_0 (v_iv (n_v vs 1)) (v_iv (n_v vs 2)) (v_iv (n_v vs 3)) (v_iv (n_v vs 6)) (v_iv (n_v vs 7)) (v_iv (n_v vs 8)) (v_iv (n_v vs 9)) (v_iv (n_v vs 10)) (w_fi ws (n_v vs 0) 158) (w_ei ws (w_ar ws (n_v vs 0) 160)) (w_ei ws (w_ar ws (n_v vs 0) 161)) (w_fi ws (n_v vs 0) 8) (w_fi ws (n_v vs 0) 157) (w_fi ws (n_v vs 0) 164) (w_fi ws (n_v vs 0) 165) (w_ei ws (w_ar ws (n_v vs 0) 162)) (w_ei ws (w_ar ws (n_v vs 0) 163)) (w_ei ws (w_ar ws (n_v vs 0) 1)) (w_fi ws (n_v vs 0) 10) (v_iv (Value.int x)) k1 k2 k3 k6 k7 k8 k9 k10 g0 f1 f2 f3 f4 f5 f6 f7 f8 f9 f10 f12 f13 hK_0_1 hK_0_160 hK_0_162 hK_0_163 kz_0_8 kz_0_10 kz_0_157 kz_0_158 kz_0_164 kz_0_165 ex2 ex3
  exact ⟨(fun _ h => (by cases h)), [Value.int x], ag_one hx, List.forall_mem_cons.mpr ⟨⟨show (20 : Nat) < 100 from by decide, nf0⟩, (fun _ h => (by cases h))⟩, (fun _ h => (by cases h))⟩
set_option maxHeartbeats 4000000 in
theorem vc_Mo_product_at_f0_4_0 (x1 : Int) (x2 : Int) (x3 : Int) (x6 : Int) (x7 : Int) (x8 : Int) (x9 : Int) (x10 : Int) (x11 : Int) (x12 : Int) (x13 : Int) (cur_0 : Int) (tokenKind_0 : Int → Int) (tokenValue_0 : Int → Int) (fault_0 : Int) (tokens_0 : Int) (styleKind_0 : Int) (styleOne_0 : Int) (opened_0 : Int) (tokenPlace_0 : Int → Int) (tokenEnd_0 : Int → Int) (tape_0 : Int → Int) (limit_0 : Int) (k1 : 0 ≤ x1 ∧ x1 ≤ 2009) (k2 : 0 ≤ x2 ∧ x2 ≤ 5) (k3 : 0 ≤ x3 ∧ x3 ≤ 13) (k6 : 0 ≤ x6 ∧ x6 ≤ 2009) (k7 : 0 ≤ x7 ∧ x7 ≤ 2010) (k8 : 42 ≤ x8 ∧ x8 ≤ 42) (k9 : 0 ≤ x9 ∧ x9 ≤ 5) (k10 : 0 ≤ x10 ∧ x10 ≤ 0) (k11 : 47 ≤ x11 ∧ x11 ≤ 47) (k12 : 0 ≤ x12 ∧ x12 ≤ 5) (k13 : 0 ≤ x13 ∧ x13 ≤ 0) (g0 : x6 = cur_0) (f1 : x13 = 0) (f2 : (x13 = 1) → (tokenKind_0 (cur_0) = 3)) (f3 : SGN (cur_0) (tokenKind_0) (tokenValue_0) (x11) (x13) (x12)) (f4 : fault_0 = x12) (f5 : x10 = 0) (f6 : (x10 = 1) → (tokenKind_0 (cur_0) = 3)) (f7 : SGN (cur_0) (tokenKind_0) (tokenValue_0) (x8) (x10) (x9)) (f8 : fault_0 = x9) (f9 : ((cur_0 + 1) ≤ tokens_0) ∧ ((tokens_0 ≤ 2010) ∧ ((tokenKind_0 ((tokens_0 - 1)) = 0) ∨ (tokenKind_0 ((tokens_0 - 1)) = 4)))) (f10 : 1 * x1 + ((-1) * cur_0 + 0) ≤ 0) (f11 : (styleKind_0 = 0) → (styleOne_0 ≤ 23)) (f12 : 1 * opened_0 + 0 ≤ 0) (f13 : (-1) * opened_0 + 0 ≤ 0) (f14 : SPWv (fault_0) (cur_0) (styleKind_0) (limit_0) (tokenKind_0) (tokenValue_0) (tokenPlace_0) (tokenEnd_0) (tape_0) (x1) (x2) (x3)) (f15 : 1 * x3 + 0 ≤ 0) (f16 : (-1) * x3 + 0 ≤ 0) (f18 : 1 * x7 + (1 * cur_0 + 0) ≤ 2010) (f19 : (-1) * x7 + ((-1) * cur_0 + 0) ≤ (-2010)) (hK_0_1 : ∀ j : Int, 0 ≤ j → j < 2000 → (-128) ≤ tape_0 j ∧ tape_0 j ≤ 127) (hK_0_160 : ∀ j : Int, 0 ≤ j → j < 2010 → 0 ≤ tokenKind_0 j ∧ tokenKind_0 j ≤ 4) (hK_0_162 : ∀ j : Int, 0 ≤ j → j < 2010 → 0 ≤ tokenPlace_0 j ∧ tokenPlace_0 j ≤ 2000) (hK_0_163 : ∀ j : Int, 0 ≤ j → j < 2010 → 0 ≤ tokenEnd_0 j ∧ tokenEnd_0 j ≤ 2000) (kz_0_8 : 0 ≤ fault_0 ∧ fault_0 ≤ 5) (kz_0_10 : 0 ≤ limit_0 ∧ limit_0 ≤ 2000) (kz_0_157 : 0 ≤ tokens_0 ∧ tokens_0 ≤ 2010) (kz_0_158 : 0 ≤ cur_0 ∧ cur_0 ≤ 2009) (kz_0_159 : 0 ≤ opened_0 ∧ opened_0 ≤ 13) (kz_0_164 : 0 ≤ styleKind_0 ∧ styleKind_0 ≤ 1) (kz_0_165 : (-1) ≤ styleOne_0 ∧ styleOne_0 ≤ 47) : ((cur_0 + 1) ≤ tokens_0) ∧ ((tokens_0 ≤ 2010) ∧ ((tokenKind_0 ((tokens_0 - 1)) = 0) ∨ (tokenKind_0 ((tokens_0 - 1)) = 4))) := by
  first | assumption | (clear f2 f6 f9 f11 hK_0_1 hK_0_160 hK_0_162 hK_0_163; omega) | (clear hK_0_1 hK_0_160 hK_0_162 hK_0_163; grind) | omega | grind
set_option maxHeartbeats 4000000 in
theorem vc_Mo_product_at_f0_4_1 (x1 : Int) (x2 : Int) (x3 : Int) (x6 : Int) (x7 : Int) (x8 : Int) (x9 : Int) (x10 : Int) (x11 : Int) (x12 : Int) (x13 : Int) (cur_0 : Int) (tokenKind_0 : Int → Int) (tokenValue_0 : Int → Int) (fault_0 : Int) (tokens_0 : Int) (styleKind_0 : Int) (styleOne_0 : Int) (opened_0 : Int) (tokenPlace_0 : Int → Int) (tokenEnd_0 : Int → Int) (tape_0 : Int → Int) (limit_0 : Int) (k1 : 0 ≤ x1 ∧ x1 ≤ 2009) (k2 : 0 ≤ x2 ∧ x2 ≤ 5) (k3 : 0 ≤ x3 ∧ x3 ≤ 13) (k6 : 0 ≤ x6 ∧ x6 ≤ 2009) (k7 : 0 ≤ x7 ∧ x7 ≤ 2010) (k8 : 42 ≤ x8 ∧ x8 ≤ 42) (k9 : 0 ≤ x9 ∧ x9 ≤ 5) (k10 : 0 ≤ x10 ∧ x10 ≤ 0) (k11 : 47 ≤ x11 ∧ x11 ≤ 47) (k12 : 0 ≤ x12 ∧ x12 ≤ 5) (k13 : 0 ≤ x13 ∧ x13 ≤ 0) (g0 : x6 = cur_0) (f1 : x13 = 0) (f2 : (x13 = 1) → (tokenKind_0 (cur_0) = 3)) (f3 : SGN (cur_0) (tokenKind_0) (tokenValue_0) (x11) (x13) (x12)) (f4 : fault_0 = x12) (f5 : x10 = 0) (f6 : (x10 = 1) → (tokenKind_0 (cur_0) = 3)) (f7 : SGN (cur_0) (tokenKind_0) (tokenValue_0) (x8) (x10) (x9)) (f8 : fault_0 = x9) (f9 : ((cur_0 + 1) ≤ tokens_0) ∧ ((tokens_0 ≤ 2010) ∧ ((tokenKind_0 ((tokens_0 - 1)) = 0) ∨ (tokenKind_0 ((tokens_0 - 1)) = 4)))) (f10 : 1 * x1 + ((-1) * cur_0 + 0) ≤ 0) (f11 : (styleKind_0 = 0) → (styleOne_0 ≤ 23)) (f12 : 1 * opened_0 + 0 ≤ 0) (f13 : (-1) * opened_0 + 0 ≤ 0) (f14 : SPWv (fault_0) (cur_0) (styleKind_0) (limit_0) (tokenKind_0) (tokenValue_0) (tokenPlace_0) (tokenEnd_0) (tape_0) (x1) (x2) (x3)) (f15 : 1 * x3 + 0 ≤ 0) (f16 : (-1) * x3 + 0 ≤ 0) (f18 : 1 * x7 + (1 * cur_0 + 0) ≤ 2010) (f19 : (-1) * x7 + ((-1) * cur_0 + 0) ≤ (-2010)) (hK_0_1 : ∀ j : Int, 0 ≤ j → j < 2000 → (-128) ≤ tape_0 j ∧ tape_0 j ≤ 127) (hK_0_160 : ∀ j : Int, 0 ≤ j → j < 2010 → 0 ≤ tokenKind_0 j ∧ tokenKind_0 j ≤ 4) (hK_0_162 : ∀ j : Int, 0 ≤ j → j < 2010 → 0 ≤ tokenPlace_0 j ∧ tokenPlace_0 j ≤ 2000) (hK_0_163 : ∀ j : Int, 0 ≤ j → j < 2010 → 0 ≤ tokenEnd_0 j ∧ tokenEnd_0 j ≤ 2000) (kz_0_8 : 0 ≤ fault_0 ∧ fault_0 ≤ 5) (kz_0_10 : 0 ≤ limit_0 ∧ limit_0 ≤ 2000) (kz_0_157 : 0 ≤ tokens_0 ∧ tokens_0 ≤ 2010) (kz_0_158 : 0 ≤ cur_0 ∧ cur_0 ≤ 2009) (kz_0_159 : 0 ≤ opened_0 ∧ opened_0 ≤ 13) (kz_0_164 : 0 ≤ styleKind_0 ∧ styleKind_0 ≤ 1) (kz_0_165 : (-1) ≤ styleOne_0 ∧ styleOne_0 ≤ 47) : 1 * x1 + ((-1) * cur_0 + 0) ≤ 0 := by
  first | assumption | (clear f2 f6 f9 f11 hK_0_1 hK_0_160 hK_0_162 hK_0_163; omega) | (clear hK_0_1 hK_0_160 hK_0_162 hK_0_163; grind) | omega | grind
set_option maxHeartbeats 4000000 in
theorem vc_Mo_product_at_f0_4_2 (x1 : Int) (x2 : Int) (x3 : Int) (x6 : Int) (x7 : Int) (x8 : Int) (x9 : Int) (x10 : Int) (x11 : Int) (x12 : Int) (x13 : Int) (cur_0 : Int) (tokenKind_0 : Int → Int) (tokenValue_0 : Int → Int) (fault_0 : Int) (tokens_0 : Int) (styleKind_0 : Int) (styleOne_0 : Int) (opened_0 : Int) (tokenPlace_0 : Int → Int) (tokenEnd_0 : Int → Int) (tape_0 : Int → Int) (limit_0 : Int) (k1 : 0 ≤ x1 ∧ x1 ≤ 2009) (k2 : 0 ≤ x2 ∧ x2 ≤ 5) (k3 : 0 ≤ x3 ∧ x3 ≤ 13) (k6 : 0 ≤ x6 ∧ x6 ≤ 2009) (k7 : 0 ≤ x7 ∧ x7 ≤ 2010) (k8 : 42 ≤ x8 ∧ x8 ≤ 42) (k9 : 0 ≤ x9 ∧ x9 ≤ 5) (k10 : 0 ≤ x10 ∧ x10 ≤ 0) (k11 : 47 ≤ x11 ∧ x11 ≤ 47) (k12 : 0 ≤ x12 ∧ x12 ≤ 5) (k13 : 0 ≤ x13 ∧ x13 ≤ 0) (g0 : x6 = cur_0) (f1 : x13 = 0) (f2 : (x13 = 1) → (tokenKind_0 (cur_0) = 3)) (f3 : SGN (cur_0) (tokenKind_0) (tokenValue_0) (x11) (x13) (x12)) (f4 : fault_0 = x12) (f5 : x10 = 0) (f6 : (x10 = 1) → (tokenKind_0 (cur_0) = 3)) (f7 : SGN (cur_0) (tokenKind_0) (tokenValue_0) (x8) (x10) (x9)) (f8 : fault_0 = x9) (f9 : ((cur_0 + 1) ≤ tokens_0) ∧ ((tokens_0 ≤ 2010) ∧ ((tokenKind_0 ((tokens_0 - 1)) = 0) ∨ (tokenKind_0 ((tokens_0 - 1)) = 4)))) (f10 : 1 * x1 + ((-1) * cur_0 + 0) ≤ 0) (f11 : (styleKind_0 = 0) → (styleOne_0 ≤ 23)) (f12 : 1 * opened_0 + 0 ≤ 0) (f13 : (-1) * opened_0 + 0 ≤ 0) (f14 : SPWv (fault_0) (cur_0) (styleKind_0) (limit_0) (tokenKind_0) (tokenValue_0) (tokenPlace_0) (tokenEnd_0) (tape_0) (x1) (x2) (x3)) (f15 : 1 * x3 + 0 ≤ 0) (f16 : (-1) * x3 + 0 ≤ 0) (f18 : 1 * x7 + (1 * cur_0 + 0) ≤ 2010) (f19 : (-1) * x7 + ((-1) * cur_0 + 0) ≤ (-2010)) (hK_0_1 : ∀ j : Int, 0 ≤ j → j < 2000 → (-128) ≤ tape_0 j ∧ tape_0 j ≤ 127) (hK_0_160 : ∀ j : Int, 0 ≤ j → j < 2010 → 0 ≤ tokenKind_0 j ∧ tokenKind_0 j ≤ 4) (hK_0_162 : ∀ j : Int, 0 ≤ j → j < 2010 → 0 ≤ tokenPlace_0 j ∧ tokenPlace_0 j ≤ 2000) (hK_0_163 : ∀ j : Int, 0 ≤ j → j < 2010 → 0 ≤ tokenEnd_0 j ∧ tokenEnd_0 j ≤ 2000) (kz_0_8 : 0 ≤ fault_0 ∧ fault_0 ≤ 5) (kz_0_10 : 0 ≤ limit_0 ∧ limit_0 ≤ 2000) (kz_0_157 : 0 ≤ tokens_0 ∧ tokens_0 ≤ 2010) (kz_0_158 : 0 ≤ cur_0 ∧ cur_0 ≤ 2009) (kz_0_159 : 0 ≤ opened_0 ∧ opened_0 ≤ 13) (kz_0_164 : 0 ≤ styleKind_0 ∧ styleKind_0 ≤ 1) (kz_0_165 : (-1) ≤ styleOne_0 ∧ styleOne_0 ≤ 47) : 1 * opened_0 + 0 ≤ 0 := by
  first | assumption | (clear f2 f6 f9 f11 hK_0_1 hK_0_160 hK_0_162 hK_0_163; omega) | (clear hK_0_1 hK_0_160 hK_0_162 hK_0_163; grind) | omega | grind
set_option maxHeartbeats 4000000 in
theorem vc_Mo_product_at_f0_4_3 (x1 : Int) (x2 : Int) (x3 : Int) (x6 : Int) (x7 : Int) (x8 : Int) (x9 : Int) (x10 : Int) (x11 : Int) (x12 : Int) (x13 : Int) (cur_0 : Int) (tokenKind_0 : Int → Int) (tokenValue_0 : Int → Int) (fault_0 : Int) (tokens_0 : Int) (styleKind_0 : Int) (styleOne_0 : Int) (opened_0 : Int) (tokenPlace_0 : Int → Int) (tokenEnd_0 : Int → Int) (tape_0 : Int → Int) (limit_0 : Int) (k1 : 0 ≤ x1 ∧ x1 ≤ 2009) (k2 : 0 ≤ x2 ∧ x2 ≤ 5) (k3 : 0 ≤ x3 ∧ x3 ≤ 13) (k6 : 0 ≤ x6 ∧ x6 ≤ 2009) (k7 : 0 ≤ x7 ∧ x7 ≤ 2010) (k8 : 42 ≤ x8 ∧ x8 ≤ 42) (k9 : 0 ≤ x9 ∧ x9 ≤ 5) (k10 : 0 ≤ x10 ∧ x10 ≤ 0) (k11 : 47 ≤ x11 ∧ x11 ≤ 47) (k12 : 0 ≤ x12 ∧ x12 ≤ 5) (k13 : 0 ≤ x13 ∧ x13 ≤ 0) (g0 : x6 = cur_0) (f1 : x13 = 0) (f2 : (x13 = 1) → (tokenKind_0 (cur_0) = 3)) (f3 : SGN (cur_0) (tokenKind_0) (tokenValue_0) (x11) (x13) (x12)) (f4 : fault_0 = x12) (f5 : x10 = 0) (f6 : (x10 = 1) → (tokenKind_0 (cur_0) = 3)) (f7 : SGN (cur_0) (tokenKind_0) (tokenValue_0) (x8) (x10) (x9)) (f8 : fault_0 = x9) (f9 : ((cur_0 + 1) ≤ tokens_0) ∧ ((tokens_0 ≤ 2010) ∧ ((tokenKind_0 ((tokens_0 - 1)) = 0) ∨ (tokenKind_0 ((tokens_0 - 1)) = 4)))) (f10 : 1 * x1 + ((-1) * cur_0 + 0) ≤ 0) (f11 : (styleKind_0 = 0) → (styleOne_0 ≤ 23)) (f12 : 1 * opened_0 + 0 ≤ 0) (f13 : (-1) * opened_0 + 0 ≤ 0) (f14 : SPWv (fault_0) (cur_0) (styleKind_0) (limit_0) (tokenKind_0) (tokenValue_0) (tokenPlace_0) (tokenEnd_0) (tape_0) (x1) (x2) (x3)) (f15 : 1 * x3 + 0 ≤ 0) (f16 : (-1) * x3 + 0 ≤ 0) (f18 : 1 * x7 + (1 * cur_0 + 0) ≤ 2010) (f19 : (-1) * x7 + ((-1) * cur_0 + 0) ≤ (-2010)) (hK_0_1 : ∀ j : Int, 0 ≤ j → j < 2000 → (-128) ≤ tape_0 j ∧ tape_0 j ≤ 127) (hK_0_160 : ∀ j : Int, 0 ≤ j → j < 2010 → 0 ≤ tokenKind_0 j ∧ tokenKind_0 j ≤ 4) (hK_0_162 : ∀ j : Int, 0 ≤ j → j < 2010 → 0 ≤ tokenPlace_0 j ∧ tokenPlace_0 j ≤ 2000) (hK_0_163 : ∀ j : Int, 0 ≤ j → j < 2010 → 0 ≤ tokenEnd_0 j ∧ tokenEnd_0 j ≤ 2000) (kz_0_8 : 0 ≤ fault_0 ∧ fault_0 ≤ 5) (kz_0_10 : 0 ≤ limit_0 ∧ limit_0 ≤ 2000) (kz_0_157 : 0 ≤ tokens_0 ∧ tokens_0 ≤ 2010) (kz_0_158 : 0 ≤ cur_0 ∧ cur_0 ≤ 2009) (kz_0_159 : 0 ≤ opened_0 ∧ opened_0 ≤ 13) (kz_0_164 : 0 ≤ styleKind_0 ∧ styleKind_0 ≤ 1) (kz_0_165 : (-1) ≤ styleOne_0 ∧ styleOne_0 ≤ 47) : (-1) * opened_0 + 0 ≤ 0 := by
  first | assumption | (clear f2 f6 f9 f11 hK_0_1 hK_0_160 hK_0_162 hK_0_163; omega) | (clear hK_0_1 hK_0_160 hK_0_162 hK_0_163; grind) | omega | grind
set_option maxHeartbeats 4000000 in
theorem vc_Mo_product_at_f0_4_4 (x1 : Int) (x2 : Int) (x3 : Int) (x6 : Int) (x8 : Int) (x9 : Int) (x10 : Int) (x11 : Int) (x12 : Int) (x13 : Int) (cur_0 : Int) (tokenKind_0 : Int → Int) (tokenValue_0 : Int → Int) (fault_0 : Int) (styleKind_0 : Int) (tokenPlace_0 : Int → Int) (tokenEnd_0 : Int → Int) (tape_0 : Int → Int) (limit_0 : Int) (k1 : 0 ≤ x1 ∧ x1 ≤ 2009) (k2 : 0 ≤ x2 ∧ x2 ≤ 5) (k3 : 0 ≤ x3 ∧ x3 ≤ 13) (k6 : 0 ≤ x6 ∧ x6 ≤ 2009) (k8 : 42 ≤ x8 ∧ x8 ≤ 42) (k9 : 0 ≤ x9 ∧ x9 ≤ 5) (k10 : 0 ≤ x10 ∧ x10 ≤ 0) (k11 : 47 ≤ x11 ∧ x11 ≤ 47) (k12 : 0 ≤ x12 ∧ x12 ≤ 5) (k13 : 0 ≤ x13 ∧ x13 ≤ 0) (g0 : x6 = cur_0) (f1 : x13 = 0) (f3 : SGN (cur_0) (tokenKind_0) (tokenValue_0) (x11) (x13) (x12)) (f4 : fault_0 = x12) (f5 : x10 = 0) (f7 : SGN (cur_0) (tokenKind_0) (tokenValue_0) (x8) (x10) (x9)) (f8 : fault_0 = x9) (f14 : SPWv (fault_0) (cur_0) (styleKind_0) (limit_0) (tokenKind_0) (tokenValue_0) (tokenPlace_0) (tokenEnd_0) (tape_0) (x1) (x2) (x3)) (kz_0_8 : 0 ≤ fault_0 ∧ fault_0 ≤ 5) (kz_0_10 : 0 ≤ limit_0 ∧ limit_0 ≤ 2000) (kz_0_158 : 0 ≤ cur_0 ∧ cur_0 ≤ 2009) (kz_0_164 : 0 ≤ styleKind_0 ∧ styleKind_0 ≤ 1) : SPQv (fault_0) (cur_0) (styleKind_0) (limit_0) (tokenKind_0) (tokenValue_0) (tokenPlace_0) (tokenEnd_0) (tape_0) (x1) (x2) (x3) := by
  first
    | exact spqv_of (‹SPWv _ _ _ _ _ _ _ _ _ _ _ _›) (fun z => by
        rintro (y | y)
        · exact sgn_n (show SGN _ _ _ x8 x10 x9 by assumption) (by omega) (show x8 = 42 by omega) (by omega) y
        · exact sgn_n (show SGN _ _ _ x11 x13 x12 by assumption) (by omega) (show x11 = 47 by omega) (by omega) y) (by omega)
  
def o_Mo_product_at_f0_4 : or_T := (79, 14, [(0, (2, 0, 0, [165])), (1, (0, 0, 2009, [])), (2, (0, 0, 5, [])), (3, (0, 0, 13, [])), (6, (0, 0, 2009, [])), (7, (0, 0, 2010, [])), (8, (0, 42, 42, [])), (9, (0, 0, 5, [])), (10, (0, 0, 0, [])), (11, (0, 47, 47, [])), (12, (0, 0, 5, [])), (13, (0, 0, 0, []))], [(9, [6, 4], [158]), (8, [13], [0]), (20, [13, 4], [50, 1, 1, 1158, 1160, 4, 6, 1, 2, 1, 0, 0, 1, 1, 6, 3, 1, 160, 2, 1, 158, 0, 3]), (20, [4, 11, 13, 12], [60, 1, 2, 14, 158, 160, 161]), (20, [4, 12], [50, 1, 0, 8, 1, 3, 2, 0, 8, 1, 1]), (8, [10], [0]), (20, [10, 4], [50, 1, 1, 1158, 1160, 4, 6, 1, 2, 1, 0, 0, 1, 1, 6, 3, 1, 160, 2, 1, 158, 0, 3]), (20, [4, 8, 10, 9], [60, 1, 2, 14, 158, 160, 161]), (20, [4, 9], [50, 1, 0, 8, 1, 3, 2, 0, 8, 1, 1]), (20, [4], [50, 2, 1, 158, 157, 160, 2, 12, 0, 7, 4, 3, 2, 0, 158, 0, 1, 2, 0, 157, 2, 7, 0, 3, 2, 0, 157, 0, 2010, 3, 14, 1, 10, 3, 0, 160, 5, 3, 2, 0, 157, 0, 1, 0, 0, 1, 10, 3, 0, 160, 5, 3, 2, 0, 157, 0, 1, 0, 4]), (20, [1, 4], [30, 0, 1, 0, 0, -1, 1, 158]), (20, [4], [50, 2, 0, 164, 165, 4, 7, 1, 3, 2, 0, 164, 0, 0, 0, 3, 2, 0, 165, 0, 23]), (20, [4], [30, 0, 1, 1, 159]), (20, [4], [30, 0, -1, 1, 159]), (20, [4, 1, 2, 3], [60, 4, 5, 6, 8, 158, 164, 10, 160, 161, 162, 163, 1]), (23, [3], [0, 1]), (23, [3], [0, -1]), (24, [0, 4], []), (20, [7, 4], [30, 2010, 1, 0, 0, 1, 1, 158]), (20, [7, 4], [30, -2010, -1, 0, 0, -1, 1, 158])], [], [], [(20, [0], [50, 2, 1, 158, 157, 160, 2, 12, 0, 7, 4, 3, 2, 0, 158, 0, 1, 2, 0, 157, 2, 7, 0, 3, 2, 0, 157, 0, 2010, 3, 14, 1, 10, 3, 0, 160, 5, 3, 2, 0, 157, 0, 1, 0, 0, 1, 10, 3, 0, 160, 5, 3, 2, 0, 157, 0, 1, 0, 4]), (20, [1, 0], [30, 0, 1, 0, 0, -1, 1, 158]), (20, [0], [30, 0, 1, 1, 159]), (20, [0], [30, 0, -1, 1, 159]), (20, [0, 1, 2, 3], [60, 4, 5, 1, 8, 158, 164, 10, 160, 161, 162, 163, 1])], [], [])
theorem oo_Mo_product_at_f0_4 {kA : Nat → ClassId} : or_ok PRD kA GG o_Mo_product_at_f0_4 := by
  refine or_mk fun A ta ws vs hD hth hl => ?_
  intro t0 r0 t1 k1 t2 k2 t3 k3 t6 k6 t7 k7 t8 k8 t9 k9 t10 k10 t11 k11 t12 k12 t13 k13 f0 f1 f2 f3 f4 f5 f6 f7 f8 f9 f10 f11 f12 f13 f14 f15 f16 f17 f18 f19
  replace f0 := shm_311 f0
  replace f2 := shm_319 f2
  replace f3 := shm_320 f3
  replace f4 := shm_302 f4
  replace f6 := shm_319 f6
  replace f7 := shm_320 f7
  replace f8 := shm_302 f8
  replace f9 := shm_296 f9
  replace f10 := shm_306 f10
  replace f11 := shm_299 f11
  replace f12 := shm_999 f12
  replace f13 := shm_1000 f13
  replace f14 := shm_342 f14
  replace f17 := shm_5 f17
  replace f18 := shm_309 f18
  replace f19 := shm_310 f19
  have q4 : n_v vs 4 = n_v vs 0 := f17.symm
  simp only [q4] at f0 f2 f3 f4 f6 f7 f8 f9 f10 f11 f12 f13 f14 f18 f19
  have cr_0_1 := fdq_46 hD hth r0
  have cr_0_160 := fdq_41 hD hth r0
  have cr_0_162 := fdq_48 hD hth r0
  have cr_0_163 := fdq_49 hD hth r0
  have g0 : v_iv (n_v vs 6) = w_fi ws (n_v vs 0) 158 := congrArg v_iv f0
  have hK_0_1 := elq_6 hD hth cr_0_1
  have hK_0_160 := elq_5 hD hth cr_0_160
  have hK_0_162 := elq_7 hD hth cr_0_162
  have hK_0_163 := elq_8 hD hth cr_0_163
  have kz_0_8 := fdq_14 hD hth r0
  have kz_0_10 := fdq_50 hD hth r0
  have kz_0_157 := fdq_42 hD hth r0
  have kz_0_158 := fdq_43 hD hth r0
  have kz_0_159 := fdq_44 hD hth r0
  have kz_0_164 := fdq_45 hD hth r0
  have kz_0_165 := fdq_35 hD hth r0
  have nf0 : fc_1 PRD (20, [0], [50, 2, 1, 158, 157, 160, 2, 12, 0, 7, 4, 3, 2, 0, 158, 0, 1, 2, 0, 157, 2, 7, 0, 3, 2, 0, 157, 0, 2010, 3, 14, 1, 10, 3, 0, 160, 5, 3, 2, 0, 157, 0, 1, 0, 0, 1, 10, 3, 0, 160, 5, 3, 2, 0, 157, 0, 1, 0, 4]) ws (vs) := ⟨nf_in hl rfl, sgq_296 (vc_Mo_product_at_f0_4_0 (v_iv (n_v vs 1)) (v_iv (n_v vs 2)) (v_iv (n_v vs 3)) (v_iv (n_v vs 6)) (v_iv (n_v vs 7)) (v_iv (n_v vs 8)) (v_iv (n_v vs 9)) (v_iv (n_v vs 10)) (v_iv (n_v vs 11)) (v_iv (n_v vs 12)) (v_iv (n_v vs 13)) (w_fi ws (n_v vs 0) 158) (w_ei ws (w_ar ws (n_v vs 0) 160)) (w_ei ws (w_ar ws (n_v vs 0) 161)) (w_fi ws (n_v vs 0) 8) (w_fi ws (n_v vs 0) 157) (w_fi ws (n_v vs 0) 164) (w_fi ws (n_v vs 0) 165) (w_fi ws (n_v vs 0) 159) (w_ei ws (w_ar ws (n_v vs 0) 162)) (w_ei ws (w_ar ws (n_v vs 0) 163)) (w_ei ws (w_ar ws (n_v vs 0) 1)) (w_fi ws (n_v vs 0) 10) k1 k2 k3 k6 k7 k8 k9 k10 k11 k12 k13 g0 (shm_210 f1) f2 f3 f4 (shm_210 f5) f6 f7 f8 f9 f10 f11 f12 f13 f14 (shm_1477 f15) (shm_1013 f16) f18 f19 hK_0_1 hK_0_160 hK_0_162 hK_0_163 kz_0_8 kz_0_10 kz_0_157 kz_0_158 kz_0_159 kz_0_164 kz_0_165)⟩
  have nf1 : fc_1 PRD (20, [1, 0], [30, 0, 1, 0, 0, -1, 1, 158]) ws (vs) := ⟨nf_in hl rfl, sgq_306 (vc_Mo_product_at_f0_4_1 (v_iv (n_v vs 1)) (v_iv (n_v vs 2)) (v_iv (n_v vs 3)) (v_iv (n_v vs 6)) (v_iv (n_v vs 7)) (v_iv (n_v vs 8)) (v_iv (n_v vs 9)) (v_iv (n_v vs 10)) (v_iv (n_v vs 11)) (v_iv (n_v vs 12)) (v_iv (n_v vs 13)) (w_fi ws (n_v vs 0) 158) (w_ei ws (w_ar ws (n_v vs 0) 160)) (w_ei ws (w_ar ws (n_v vs 0) 161)) (w_fi ws (n_v vs 0) 8) (w_fi ws (n_v vs 0) 157) (w_fi ws (n_v vs 0) 164) (w_fi ws (n_v vs 0) 165) (w_fi ws (n_v vs 0) 159) (w_ei ws (w_ar ws (n_v vs 0) 162)) (w_ei ws (w_ar ws (n_v vs 0) 163)) (w_ei ws (w_ar ws (n_v vs 0) 1)) (w_fi ws (n_v vs 0) 10) k1 k2 k3 k6 k7 k8 k9 k10 k11 k12 k13 g0 (shm_210 f1) f2 f3 f4 (shm_210 f5) f6 f7 f8 f9 f10 f11 f12 f13 f14 (shm_1477 f15) (shm_1013 f16) f18 f19 hK_0_1 hK_0_160 hK_0_162 hK_0_163 kz_0_8 kz_0_10 kz_0_157 kz_0_158 kz_0_159 kz_0_164 kz_0_165)⟩
  have nf2 : fc_1 PRD (20, [0], [30, 0, 1, 1, 159]) ws (vs) := ⟨nf_in hl rfl, sgq_999 (vc_Mo_product_at_f0_4_2 (v_iv (n_v vs 1)) (v_iv (n_v vs 2)) (v_iv (n_v vs 3)) (v_iv (n_v vs 6)) (v_iv (n_v vs 7)) (v_iv (n_v vs 8)) (v_iv (n_v vs 9)) (v_iv (n_v vs 10)) (v_iv (n_v vs 11)) (v_iv (n_v vs 12)) (v_iv (n_v vs 13)) (w_fi ws (n_v vs 0) 158) (w_ei ws (w_ar ws (n_v vs 0) 160)) (w_ei ws (w_ar ws (n_v vs 0) 161)) (w_fi ws (n_v vs 0) 8) (w_fi ws (n_v vs 0) 157) (w_fi ws (n_v vs 0) 164) (w_fi ws (n_v vs 0) 165) (w_fi ws (n_v vs 0) 159) (w_ei ws (w_ar ws (n_v vs 0) 162)) (w_ei ws (w_ar ws (n_v vs 0) 163)) (w_ei ws (w_ar ws (n_v vs 0) 1)) (w_fi ws (n_v vs 0) 10) k1 k2 k3 k6 k7 k8 k9 k10 k11 k12 k13 g0 (shm_210 f1) f2 f3 f4 (shm_210 f5) f6 f7 f8 f9 f10 f11 f12 f13 f14 (shm_1477 f15) (shm_1013 f16) f18 f19 hK_0_1 hK_0_160 hK_0_162 hK_0_163 kz_0_8 kz_0_10 kz_0_157 kz_0_158 kz_0_159 kz_0_164 kz_0_165)⟩
  have nf3 : fc_1 PRD (20, [0], [30, 0, -1, 1, 159]) ws (vs) := ⟨nf_in hl rfl, sgq_1000 (vc_Mo_product_at_f0_4_3 (v_iv (n_v vs 1)) (v_iv (n_v vs 2)) (v_iv (n_v vs 3)) (v_iv (n_v vs 6)) (v_iv (n_v vs 7)) (v_iv (n_v vs 8)) (v_iv (n_v vs 9)) (v_iv (n_v vs 10)) (v_iv (n_v vs 11)) (v_iv (n_v vs 12)) (v_iv (n_v vs 13)) (w_fi ws (n_v vs 0) 158) (w_ei ws (w_ar ws (n_v vs 0) 160)) (w_ei ws (w_ar ws (n_v vs 0) 161)) (w_fi ws (n_v vs 0) 8) (w_fi ws (n_v vs 0) 157) (w_fi ws (n_v vs 0) 164) (w_fi ws (n_v vs 0) 165) (w_fi ws (n_v vs 0) 159) (w_ei ws (w_ar ws (n_v vs 0) 162)) (w_ei ws (w_ar ws (n_v vs 0) 163)) (w_ei ws (w_ar ws (n_v vs 0) 1)) (w_fi ws (n_v vs 0) 10) k1 k2 k3 k6 k7 k8 k9 k10 k11 k12 k13 g0 (shm_210 f1) f2 f3 f4 (shm_210 f5) f6 f7 f8 f9 f10 f11 f12 f13 f14 (shm_1477 f15) (shm_1013 f16) f18 f19 hK_0_1 hK_0_160 hK_0_162 hK_0_163 kz_0_8 kz_0_10 kz_0_157 kz_0_158 kz_0_159 kz_0_164 kz_0_165)⟩
  have nf4 : fc_1 PRD (20, [0, 1, 2, 3], [60, 4, 5, 1, 8, 158, 164, 10, 160, 161, 162, 163, 1]) ws (vs) := ⟨nf_in hl rfl, sgq_343 (vc_Mo_product_at_f0_4_4 (v_iv (n_v vs 1)) (v_iv (n_v vs 2)) (v_iv (n_v vs 3)) (v_iv (n_v vs 6)) (v_iv (n_v vs 8)) (v_iv (n_v vs 9)) (v_iv (n_v vs 10)) (v_iv (n_v vs 11)) (v_iv (n_v vs 12)) (v_iv (n_v vs 13)) (w_fi ws (n_v vs 0) 158) (w_ei ws (w_ar ws (n_v vs 0) 160)) (w_ei ws (w_ar ws (n_v vs 0) 161)) (w_fi ws (n_v vs 0) 8) (w_fi ws (n_v vs 0) 164) (w_ei ws (w_ar ws (n_v vs 0) 162)) (w_ei ws (w_ar ws (n_v vs 0) 163)) (w_ei ws (w_ar ws (n_v vs 0) 1)) (w_fi ws (n_v vs 0) 10) k1 k2 k3 k6 k8 k9 k10 k11 k12 k13 g0 (shm_210 f1) f3 f4 (shm_210 f5) f7 f8 f14 kz_0_8 kz_0_10 kz_0_158 kz_0_164)⟩
  refine ⟨(fun _ h => (by cases h)), [], trivial, ?_, (fun _ h => (by cases h))⟩
  rw [List.append_nil]
  exact List.forall_mem_cons.mpr ⟨⟨show (20 : Nat) < 100 from by decide, nf0⟩, List.forall_mem_cons.mpr ⟨⟨show (20 : Nat) < 100 from by decide, nf1⟩, List.forall_mem_cons.mpr ⟨⟨show (20 : Nat) < 100 from by decide, nf2⟩, List.forall_mem_cons.mpr ⟨⟨show (20 : Nat) < 100 from by decide, nf3⟩, List.forall_mem_cons.mpr ⟨⟨show (20 : Nat) < 100 from by decide, nf4⟩, (fun _ h => (by cases h))⟩⟩⟩⟩⟩
set_option maxHeartbeats 4000000 in
theorem vc_Mo_product_at_f0_5_0 (x1 : Int) (x2 : Int) (x3 : Int) (x6 : Int) (x7 : Int) (x8 : Int) (x9 : Int) (x10 : Int) (x11 : Int) (x12 : Int) (x13 : Int) (cur_0 : Int) (tokenKind_0 : Int → Int) (tokenValue_0 : Int → Int) (fault_0 : Int) (tokens_0 : Int) (styleKind_0 : Int) (styleOne_0 : Int) (tokenPlace_0 : Int → Int) (tokenEnd_0 : Int → Int) (tape_0 : Int → Int) (limit_0 : Int) (gx : Int) (k1 : 0 ≤ x1 ∧ x1 ≤ 2009) (k2 : 0 ≤ x2 ∧ x2 ≤ 5) (k3 : 0 ≤ x3 ∧ x3 ≤ 13) (k6 : 0 ≤ x6 ∧ x6 ≤ 2009) (k7 : 0 ≤ x7 ∧ x7 ≤ 2010) (k8 : 42 ≤ x8 ∧ x8 ≤ 42) (k9 : 0 ≤ x9 ∧ x9 ≤ 5) (k10 : 0 ≤ x10 ∧ x10 ≤ 0) (k11 : 47 ≤ x11 ∧ x11 ≤ 47) (k12 : 0 ≤ x12 ∧ x12 ≤ 5) (k13 : 1 ≤ x13 ∧ x13 ≤ 1) (g0 : x6 = cur_0) (f1 : x13 ≠ 0) (f2 : (x13 = 1) → (tokenKind_0 (cur_0) = 3)) (f3 : SGN (cur_0) (tokenKind_0) (tokenValue_0) (x11) (x13) (x12)) (f4 : fault_0 = x12) (f5 : x10 = 0) (f6 : (x10 = 1) → (tokenKind_0 (cur_0) = 3)) (f7 : SGN (cur_0) (tokenKind_0) (tokenValue_0) (x8) (x10) (x9)) (f8 : fault_0 = x9) (f9 : ((cur_0 + 1) ≤ tokens_0) ∧ ((tokens_0 ≤ 2010) ∧ ((tokenKind_0 ((tokens_0 - 1)) = 0) ∨ (tokenKind_0 ((tokens_0 - 1)) = 4)))) (f10 : 1 * x1 + ((-1) * cur_0 + 0) ≤ 0) (f11 : (styleKind_0 = 0) → (styleOne_0 ≤ 23)) (f12 : SPWv (fault_0) (cur_0) (styleKind_0) (limit_0) (tokenKind_0) (tokenValue_0) (tokenPlace_0) (tokenEnd_0) (tape_0) (x1) (x2) (x3)) (f13 : 1 * x3 + 0 ≤ 0) (f14 : (-1) * x3 + 0 ≤ 0) (f16 : 1 * x7 + (1 * cur_0 + 0) ≤ 2010) (f17 : (-1) * x7 + ((-1) * cur_0 + 0) ≤ (-2010)) (hK_0_1 : ∀ j : Int, 0 ≤ j → j < 2000 → (-128) ≤ tape_0 j ∧ tape_0 j ≤ 127) (hK_0_160 : ∀ j : Int, 0 ≤ j → j < 2010 → 0 ≤ tokenKind_0 j ∧ tokenKind_0 j ≤ 4) (hK_0_162 : ∀ j : Int, 0 ≤ j → j < 2010 → 0 ≤ tokenPlace_0 j ∧ tokenPlace_0 j ≤ 2000) (hK_0_163 : ∀ j : Int, 0 ≤ j → j < 2010 → 0 ≤ tokenEnd_0 j ∧ tokenEnd_0 j ≤ 2000) (kz_0_8 : 0 ≤ fault_0 ∧ fault_0 ≤ 5) (kz_0_10 : 0 ≤ limit_0 ∧ limit_0 ≤ 2000) (kz_0_157 : 0 ≤ tokens_0 ∧ tokens_0 ≤ 2010) (kz_0_158 : 0 ≤ cur_0 ∧ cur_0 ≤ 2009) (kz_0_164 : 0 ≤ styleKind_0 ∧ styleKind_0 ≤ 1) (kz_0_165 : (-1) ≤ styleOne_0 ∧ styleOne_0 ≤ 47) (ex2 : gx = fault_0) (ex3 : 0 ≤ gx ∧ gx ≤ 5) : fault_0 = gx := by
  first | assumption | (clear f2 f6 f9 f11 hK_0_1 hK_0_160 hK_0_162 hK_0_163; omega) | (clear hK_0_1 hK_0_160 hK_0_162 hK_0_163; grind) | omega | grind
def o_Mo_product_at_f0_5 : or_T := (26, 15, [(0, (2, 0, 0, [165])), (1, (0, 0, 2009, [])), (2, (0, 0, 5, [])), (3, (0, 0, 13, [])), (6, (0, 0, 2009, [])), (7, (0, 0, 2010, [])), (8, (0, 42, 42, [])), (9, (0, 0, 5, [])), (10, (0, 0, 0, [])), (11, (0, 47, 47, [])), (12, (0, 0, 5, [])), (13, (0, 1, 1, []))], [(9, [6, 4], [158]), (8, [13], [1]), (20, [13, 4], [50, 1, 1, 1158, 1160, 4, 6, 1, 2, 1, 0, 0, 1, 1, 6, 3, 1, 160, 2, 1, 158, 0, 3]), (20, [4, 11, 13, 12], [60, 1, 2, 14, 158, 160, 161]), (20, [4, 12], [50, 1, 0, 8, 1, 3, 2, 0, 8, 1, 1]), (8, [10], [0]), (20, [10, 4], [50, 1, 1, 1158, 1160, 4, 6, 1, 2, 1, 0, 0, 1, 1, 6, 3, 1, 160, 2, 1, 158, 0, 3]), (20, [4, 8, 10, 9], [60, 1, 2, 14, 158, 160, 161]), (20, [4, 9], [50, 1, 0, 8, 1, 3, 2, 0, 8, 1, 1]), (20, [4], [50, 2, 1, 158, 157, 160, 2, 12, 0, 7, 4, 3, 2, 0, 158, 0, 1, 2, 0, 157, 2, 7, 0, 3, 2, 0, 157, 0, 2010, 3, 14, 1, 10, 3, 0, 160, 5, 3, 2, 0, 157, 0, 1, 0, 0, 1, 10, 3, 0, 160, 5, 3, 2, 0, 157, 0, 1, 0, 4]), (20, [1, 4], [30, 0, 1, 0, 0, -1, 1, 158]), (20, [4], [50, 2, 0, 164, 165, 4, 7, 1, 3, 2, 0, 164, 0, 0, 0, 3, 2, 0, 165, 0, 23]), (20, [4, 1, 2, 3], [60, 4, 5, 6, 8, 158, 164, 10, 160, 161, 162, 163, 1]), (23, [3], [0, 1]), (23, [3], [0, -1]), (24, [0, 4], []), (20, [7, 4], [30, 2010, 1, 0, 0, 1, 1, 158]), (20, [7, 4], [30, -2010, -1, 0, 0, -1, 1, 158])], [], [(0, 0, 5, [])], [(20, [4, 15], [50, 1, 0, 8, 1, 3, 2, 0, 8, 1, 1])], [], [])
theorem oo_Mo_product_at_f0_5 {kA : Nat → ClassId} : or_ok PRD kA GG o_Mo_product_at_f0_5 := by
  refine or_mk fun A ta ws vs hD hth hl => ?_
  intro t0 r0 t1 k1 t2 k2 t3 k3 t6 k6 t7 k7 t8 k8 t9 k9 t10 k10 t11 k11 t12 k12 t13 k13 f0 f1 f2 f3 f4 f5 f6 f7 f8 f9 f10 f11 f12 f13 f14 f15 f16 f17
  replace f0 := shm_311 f0
  replace f1 := shm_154 f1
  replace f2 := shm_319 f2
  replace f3 := shm_320 f3
  replace f4 := shm_302 f4
  replace f5 := shm_210 f5
  replace f6 := shm_319 f6
  replace f7 := shm_320 f7
  replace f8 := shm_302 f8
  replace f9 := shm_296 f9
  replace f10 := shm_306 f10
  replace f11 := shm_299 f11
  replace f12 := shm_342 f12
  replace f13 := shm_1477 f13
  replace f14 := shm_1013 f14
  replace f15 := shm_5 f15
  replace f16 := shm_309 f16
  replace f17 := shm_310 f17
  have q4 : n_v vs 4 = n_v vs 0 := f15.symm
  simp only [q4] at f0 f2 f3 f4 f6 f7 f8 f9 f10 f11 f12 f16 f17
  have cr_0_1 := fdq_46 hD hth r0
  have cr_0_160 := fdq_41 hD hth r0
  have cr_0_162 := fdq_48 hD hth r0
  have cr_0_163 := fdq_49 hD hth r0
  have g0 : v_iv (n_v vs 6) = w_fi ws (n_v vs 0) 158 := congrArg v_iv f0
  have hK_0_1 := elq_6 hD hth cr_0_1
  have hK_0_160 := elq_5 hD hth cr_0_160
  have hK_0_162 := elq_7 hD hth cr_0_162
  have hK_0_163 := elq_8 hD hth cr_0_163
  have kz_0_8 := fdq_14 hD hth r0
  have kz_0_10 := fdq_50 hD hth r0
  have kz_0_157 := fdq_42 hD hth r0
  have kz_0_158 := fdq_43 hD hth r0
  have kz_0_164 := fdq_45 hD hth r0
  have kz_0_165 := fdq_35 hD hth r0
  obtain ⟨x, ex, hx⟩ := iv_ex (ta := ta) (lo := 0) (hi := 5) (z := w_fi ws (n_v vs 0) 8) (by omega) (by omega) (by omega) (by omega)
  have ex2 : v_iv (Value.int x) = w_fi ws (n_v vs 0) 8 := ex
  have ex3 : 0 ≤ v_iv (Value.int x) ∧ v_iv (Value.int x) ≤ 5 := tv_rng hx
  have e_4 : n_v (vs ++ [Value.int x]) 4 = n_v vs 4 := n_v_old (by rw [hl]; decide)
  have e_15 : n_v (vs ++ [Value.int x]) 15 = Value.int x := n_v_new hl
  have nf0 : fc_1 PRD (20, [4, 15], [50, 1, 0, 8, 1, 3, 2, 0, 8, 1, 1]) ws (vs ++ [Value.int x]) := by
    refine ⟨nf_inA hl rfl, sgq_302 ?_⟩
    · show w_fi ws (n_v (vs ++ [Value.int x]) 4) 8 = v_iv (n_v (vs ++ [Value.int x]) 15)
      simp only [e_4, e_15, q4]
      exact vc_Mo_product_at_f0_5_0 (v_iv (n_v vs 1)) (v_iv (n_v vs 2)) (v_iv (n_v vs 3)) (v_iv (n_v vs 6)) (v_iv (n_v vs 7)) (v_iv (n_v vs 8)) (v_iv (n_v vs 9)) (v_iv (n_v vs 10)) (v_iv (n_v vs 11)) (v_iv (n_v vs 12)) (v_iv (n_v vs 13)) (w_fi ws (n_v vs 0) 158) (w_ei ws (w_ar ws (n_v vs 0) 160)) (w_ei ws (w_ar ws (n_v vs 0) 161)) (w_fi ws (n_v vs 0) 8) (w_fi ws (n_v vs 0) 157) (w_fi ws (n_v vs 0) 164) (w_fi ws (n_v vs 0) 165) (w_ei ws (w_ar ws (n_v vs 0) 162)) (w_ei ws (w_ar ws (n_v vs 0) 163)) (w_ei ws (w_ar ws (n_v vs 0) 1)) (w_fi ws (n_v vs 0) 10) (v_iv (Value.int x)) k1 k2 k3 k6 k7 k8 k9 k10 k11 k12 k13 g0 f1 f2 f3 f4 f5 f6 f7 f8 f9 f10 f11 f12 f13 f14 f16 f17 hK_0_1 hK_0_160 hK_0_162 hK_0_163 kz_0_8 kz_0_10 kz_0_157 kz_0_158 kz_0_164 kz_0_165 ex2 ex3
  exact ⟨(fun _ h => (by cases h)), [Value.int x], ag_one hx, List.forall_mem_cons.mpr ⟨⟨show (20 : Nat) < 100 from by decide, nf0⟩, (fun _ h => (by cases h))⟩, (fun _ h => (by cases h))⟩
set_option maxHeartbeats 4000000 in
theorem vc_Mo_product_at_f0_6_r0 (x1 : Int) (x2 : Int) (x3 : Int) (x6 : Int) (x7 : Int) (x8 : Int) (x9 : Int) (x10 : Int) (x11 : Int) (x12 : Int) (x13 : Int) (x14 : Int) (x15 : Int) (x16 : Int) (x17 : Int) (x18 : Int) (cur_0 : Int) (tokenKind_0 : Int → Int) (tokenValue_0 : Int → Int) (fault_0 : Int) (tokens_0 : Int) (styleKind_0 : Int) (styleOne_0 : Int) (tokenPlace_0 : Int → Int) (tokenEnd_0 : Int → Int) (tape_0 : Int → Int) (limit_0 : Int) (k1 : 0 ≤ x1 ∧ x1 ≤ 2009) (k2 : 0 ≤ x2 ∧ x2 ≤ 5) (k3 : 0 ≤ x3 ∧ x3 ≤ 13) (k6 : 0 ≤ x6 ∧ x6 ≤ 2009) (k7 : 0 ≤ x7 ∧ x7 ≤ 2010) (k8 : 42 ≤ x8 ∧ x8 ≤ 42) (k9 : 0 ≤ x9 ∧ x9 ≤ 5) (k10 : 0 ≤ x10 ∧ x10 ≤ 0) (k11 : 47 ≤ x11 ∧ x11 ≤ 47) (k12 : 0 ≤ x12 ∧ x12 ≤ 5) (k13 : 1 ≤ x13 ∧ x13 ≤ 1) (k14 : 42 ≤ x14 ∧ x14 ≤ 42) (k15 : 0 ≤ x15 ∧ x15 ≤ 5) (k16 : 0 ≤ x16 ∧ x16 ≤ 0) (k17 : 1 ≤ x17 ∧ x17 ≤ 1) (k18 : 1 ≤ x18 ∧ x18 ≤ 2010) (d0 : x6 + 1 ≤ x18 ∧ x18 ≤ x6 + 1) (f0 : x18 = x6 + x17) (g1 : x6 = cur_0) (f2 : (x16 = 1) → (tokenKind_0 (cur_0) = 3)) (f3 : SGN (cur_0) (tokenKind_0) (tokenValue_0) (x14) (x16) (x15)) (f4 : fault_0 = x15) (f5 : x13 ≠ 0) (f6 : (x13 = 1) → (tokenKind_0 (cur_0) = 3)) (f7 : SGN (cur_0) (tokenKind_0) (tokenValue_0) (x11) (x13) (x12)) (f8 : fault_0 = x12) (f9 : x10 = 0) (f10 : (x10 = 1) → (tokenKind_0 (cur_0) = 3)) (f11 : SGN (cur_0) (tokenKind_0) (tokenValue_0) (x8) (x10) (x9)) (f12 : fault_0 = x9) (f13 : ((cur_0 + 1) ≤ tokens_0) ∧ ((tokens_0 ≤ 2010) ∧ ((tokenKind_0 ((tokens_0 - 1)) = 0) ∨ (tokenKind_0 ((tokens_0 - 1)) = 4)))) (f14 : 1 * x1 + ((-1) * cur_0 + 0) ≤ 0) (f15 : (styleKind_0 = 0) → (styleOne_0 ≤ 23)) (f16 : SPWv (fault_0) (cur_0) (styleKind_0) (limit_0) (tokenKind_0) (tokenValue_0) (tokenPlace_0) (tokenEnd_0) (tape_0) (x1) (x2) (x3)) (f17 : 1 * x3 + 0 ≤ 0) (f18 : (-1) * x3 + 0 ≤ 0) (f20 : 1 * x7 + (1 * cur_0 + 0) ≤ 2010) (f21 : (-1) * x7 + ((-1) * cur_0 + 0) ≤ (-2010)) (hK_0_1 : ∀ j : Int, 0 ≤ j → j < 2000 → (-128) ≤ tape_0 j ∧ tape_0 j ≤ 127) (hK_0_160 : ∀ j : Int, 0 ≤ j → j < 2010 → 0 ≤ tokenKind_0 j ∧ tokenKind_0 j ≤ 4) (hK_0_162 : ∀ j : Int, 0 ≤ j → j < 2010 → 0 ≤ tokenPlace_0 j ∧ tokenPlace_0 j ≤ 2000) (hK_0_163 : ∀ j : Int, 0 ≤ j → j < 2010 → 0 ≤ tokenEnd_0 j ∧ tokenEnd_0 j ≤ 2000) (kz_0_8 : 0 ≤ fault_0 ∧ fault_0 ≤ 5) (kz_0_10 : 0 ≤ limit_0 ∧ limit_0 ≤ 2000) (kz_0_157 : 0 ≤ tokens_0 ∧ tokens_0 ≤ 2010) (kz_0_158 : 0 ≤ cur_0 ∧ cur_0 ≤ 2009) (kz_0_164 : 0 ≤ styleKind_0 ∧ styleKind_0 ≤ 1) (kz_0_165 : (-1) ≤ styleOne_0 ∧ styleOne_0 ≤ 47) : 1 ≤ x18 ∧ x18 ≤ 2009 := by
  first | assumption | (clear f2 f6 f10 f13 f15 hK_0_1 hK_0_160 hK_0_162 hK_0_163; omega) | (clear hK_0_1 hK_0_160 hK_0_162 hK_0_163; grind) | omega | grind
def o_Mo_product_at_f0_6 : or_T := (37, 19, [(0, (2, 0, 0, [165])), (1, (0, 0, 2009, [])), (2, (0, 0, 5, [])), (3, (0, 0, 13, [])), (4, (2, 0, 0, [165])), (6, (0, 0, 2009, [])), (7, (0, 0, 2010, [])), (8, (0, 42, 42, [])), (9, (0, 0, 5, [])), (10, (0, 0, 0, [])), (11, (0, 47, 47, [])), (12, (0, 0, 5, [])), (13, (0, 1, 1, [])), (14, (0, 42, 42, [])), (15, (0, 0, 5, [])), (16, (0, 0, 0, [])), (17, (0, 1, 1, [])), (18, (0, 1, 2010, []))], [(1, [18, 6, 17], []), (9, [6, 4], [158]), (20, [16, 4], [50, 1, 1, 1158, 1160, 4, 6, 1, 2, 1, 0, 0, 1, 1, 6, 3, 1, 160, 2, 1, 158, 0, 3]), (20, [4, 14, 16, 15], [60, 1, 2, 14, 158, 160, 161]), (20, [4, 15], [50, 1, 0, 8, 1, 3, 2, 0, 8, 1, 1]), (8, [13], [1]), (20, [13, 4], [50, 1, 1, 1158, 1160, 4, 6, 1, 2, 1, 0, 0, 1, 1, 6, 3, 1, 160, 2, 1, 158, 0, 3]), (20, [4, 11, 13, 12], [60, 1, 2, 14, 158, 160, 161]), (20, [4, 12], [50, 1, 0, 8, 1, 3, 2, 0, 8, 1, 1]), (8, [10], [0]), (20, [10, 4], [50, 1, 1, 1158, 1160, 4, 6, 1, 2, 1, 0, 0, 1, 1, 6, 3, 1, 160, 2, 1, 158, 0, 3]), (20, [4, 8, 10, 9], [60, 1, 2, 14, 158, 160, 161]), (20, [4, 9], [50, 1, 0, 8, 1, 3, 2, 0, 8, 1, 1]), (20, [4], [50, 2, 1, 158, 157, 160, 2, 12, 0, 7, 4, 3, 2, 0, 158, 0, 1, 2, 0, 157, 2, 7, 0, 3, 2, 0, 157, 0, 2010, 3, 14, 1, 10, 3, 0, 160, 5, 3, 2, 0, 157, 0, 1, 0, 0, 1, 10, 3, 0, 160, 5, 3, 2, 0, 157, 0, 1, 0, 4]), (20, [1, 4], [30, 0, 1, 0, 0, -1, 1, 158]), (20, [4], [50, 2, 0, 164, 165, 4, 7, 1, 3, 2, 0, 164, 0, 0, 0, 3, 2, 0, 165, 0, 23]), (20, [4, 1, 2, 3], [60, 4, 5, 6, 8, 158, 164, 10, 160, 161, 162, 163, 1]), (23, [3], [0, 1]), (23, [3], [0, -1]), (24, [0, 4], []), (20, [7, 4], [30, 2010, 1, 0, 0, 1, 1, 158]), (20, [7, 4], [30, -2010, -1, 0, 0, -1, 1, 158])], [(18, (0, 1, 2009, []))], [], [], [], [(18, 6, 1, 1)])
theorem oo_Mo_product_at_f0_6 {kA : Nat → ClassId} : or_ok PRD kA GG o_Mo_product_at_f0_6 := by
  refine or_mk fun A ta ws vs hD hth hl => ?_
  intro t0 r0 t1 k1 t2 k2 t3 k3 t4 r4 t6 k6 t7 k7 t8 k8 t9 k9 t10 k10 t11 k11 t12 k12 t13 k13 t14 k14 t15 k15 t16 k16 t17 k17 t18 k18 d0 f0 f1 f2 f3 f4 f5 f6 f7 f8 f9 f10 f11 f12 f13 f14 f15 f16 f17 f18 f19 f20 f21
  replace f1 := shm_311 f1
  replace f2 := shm_319 f2
  replace f3 := shm_320 f3
  replace f4 := shm_302 f4
  replace f6 := shm_319 f6
  replace f7 := shm_320 f7
  replace f8 := shm_302 f8
  replace f10 := shm_319 f10
  replace f11 := shm_320 f11
  replace f12 := shm_302 f12
  replace f13 := shm_296 f13
  replace f14 := shm_306 f14
  replace f15 := shm_299 f15
  replace f16 := shm_342 f16
  replace f19 := shm_5 f19
  replace f20 := shm_309 f20
  replace f21 := shm_310 f21
  have q4 : n_v vs 4 = n_v vs 0 := f19.symm
  simp only [q4] at f1 f2 f3 f4 f6 f7 f8 f10 f11 f12 f13 f14 f15 f16 f20 f21
  have cr_0_1 := fdq_46 hD hth r0
  have cr_0_160 := fdq_41 hD hth r0
  have cr_0_162 := fdq_48 hD hth r0
  have cr_0_163 := fdq_49 hD hth r0
  have g1 : v_iv (n_v vs 6) = w_fi ws (n_v vs 0) 158 := congrArg v_iv f1
  have hK_0_1 := elq_6 hD hth cr_0_1
  have hK_0_160 := elq_5 hD hth cr_0_160
  have hK_0_162 := elq_7 hD hth cr_0_162
  have hK_0_163 := elq_8 hD hth cr_0_163
  have kz_0_8 := fdq_14 hD hth r0
  have kz_0_10 := fdq_50 hD hth r0
  have kz_0_157 := fdq_42 hD hth r0
  have kz_0_158 := fdq_43 hD hth r0
  have kz_0_164 := fdq_45 hD hth r0
  have kz_0_165 := fdq_35 hD hth r0
  have hrf0 : 1 ≤ v_iv (n_v vs 18) ∧ v_iv (n_v vs 18) ≤ 2009 := vc_Mo_product_at_f0_6_r0 (v_iv (n_v vs 1)) (v_iv (n_v vs 2)) (v_iv (n_v vs 3)) (v_iv (n_v vs 6)) (v_iv (n_v vs 7)) (v_iv (n_v vs 8)) (v_iv (n_v vs 9)) (v_iv (n_v vs 10)) (v_iv (n_v vs 11)) (v_iv (n_v vs 12)) (v_iv (n_v vs 13)) (v_iv (n_v vs 14)) (v_iv (n_v vs 15)) (v_iv (n_v vs 16)) (v_iv (n_v vs 17)) (v_iv (n_v vs 18)) (w_fi ws (n_v vs 0) 158) (w_ei ws (w_ar ws (n_v vs 0) 160)) (w_ei ws (w_ar ws (n_v vs 0) 161)) (w_fi ws (n_v vs 0) 8) (w_fi ws (n_v vs 0) 157) (w_fi ws (n_v vs 0) 164) (w_fi ws (n_v vs 0) 165) (w_ei ws (w_ar ws (n_v vs 0) 162)) (w_ei ws (w_ar ws (n_v vs 0) 163)) (w_ei ws (w_ar ws (n_v vs 0) 1)) (w_fi ws (n_v vs 0) 10) k1 k2 k3 k6 k7 k8 k9 k10 k11 k12 k13 k14 k15 k16 k17 k18 d0 (shm_12 f0) g1 f2 f3 f4 (shm_154 f5) f6 f7 f8 (shm_210 f9) f10 f11 f12 f13 f14 f15 f16 (shm_1477 f17) (shm_1013 f18) f20 f21 hK_0_1 hK_0_160 hK_0_162 hK_0_163 kz_0_8 kz_0_10 kz_0_157 kz_0_158 kz_0_164 kz_0_165
  have rf18 : tv_ok ta (0, 1, 2009, []) (n_v vs 18) := tv_in t18 (by first | omega | grind) (by first | omega | grind)
  refine ⟨List.forall_mem_cons.mpr ⟨rf18, (fun _ h => (by cases h))⟩, [], trivial, ?_, (fun _ h => (by cases h))⟩
  rw [List.append_nil]
  exact (fun _ h => (by cases h))
set_option maxHeartbeats 4000000 in
theorem vc_Mo_product_at_f0_7_0 (x1 : Int) (x2 : Int) (x3 : Int) (x6 : Int) (x7 : Int) (x8 : Int) (x9 : Int) (x10 : Int) (x11 : Int) (x12 : Int) (x13 : Int) (x14 : Int) (x15 : Int) (x16 : Int) (x17 : Int) (x18 : Int) (cur_0 : Int) (fault_0 : Int) (styleKind_0 : Int) (styleOne_0 : Int) (opened_0 : Int) (cur_1 : Int) (tokenKind_1 : Int → Int) (tokenValue_1 : Int → Int) (fault_1 : Int) (tokens_1 : Int) (styleKind_1 : Int) (styleOne_1 : Int) (opened_1 : Int) (tokenPlace_1 : Int → Int) (tokenEnd_1 : Int → Int) (tape_1 : Int → Int) (limit_1 : Int) (limit_0 : Int) (tokens_0 : Int) (tape_0 : Int → Int) (tokenKind_0 : Int → Int) (tokenValue_0 : Int → Int) (tokenPlace_0 : Int → Int) (tokenEnd_0 : Int → Int) (gx : Int) (gy : Int) (gu : Int) (k1 : 0 ≤ x1 ∧ x1 ≤ 2009) (k2 : 0 ≤ x2 ∧ x2 ≤ 5) (k3 : 0 ≤ x3 ∧ x3 ≤ 13) (k6 : 0 ≤ x6 ∧ x6 ≤ 2009) (k7 : 0 ≤ x7 ∧ x7 ≤ 2010) (k8 : 42 ≤ x8 ∧ x8 ≤ 42) (k9 : 0 ≤ x9 ∧ x9 ≤ 5) (k10 : 0 ≤ x10 ∧ x10 ≤ 0) (k11 : 47 ≤ x11 ∧ x11 ≤ 47) (k12 : 0 ≤ x12 ∧ x12 ≤ 5) (k13 : 1 ≤ x13 ∧ x13 ≤ 1) (k14 : 42 ≤ x14 ∧ x14 ≤ 42) (k15 : 0 ≤ x15 ∧ x15 ≤ 5) (k16 : 0 ≤ x16 ∧ x16 ≤ 0) (k17 : 1 ≤ x17 ∧ x17 ≤ 1) (k18 : 1 ≤ x18 ∧ x18 ≤ 2009) (d0 : x6 + 1 ≤ x18 ∧ x18 ≤ x6 + 1) (g0 : x18 = cur_0) (f1 : fault_0 = x15) (f2 : fault_0 = x12) (f3 : fault_0 = x9) (f4 : (styleKind_0 = 0) → (styleOne_0 ≤ 23)) (f5 : 1 * opened_0 + 0 ≤ 0) (f6 : (-1) * opened_0 + 0 ≤ 0) (f7 : 1 * x3 + 0 ≤ 0) (f8 : (-1) * x3 + 0 ≤ 0) (f11 : x18 = x6 + x17) (g12 : x6 = cur_1) (f13 : (x16 = 1) → (tokenKind_1 (cur_1) = 3)) (f14 : SGN (cur_1) (tokenKind_1) (tokenValue_1) (x14) (x16) (x15)) (f15 : fault_1 = x15) (f16 : x13 ≠ 0) (f17 : (x13 = 1) → (tokenKind_1 (cur_1) = 3)) (f18 : SGN (cur_1) (tokenKind_1) (tokenValue_1) (x11) (x13) (x12)) (f19 : fault_1 = x12) (f20 : x10 = 0) (f21 : (x10 = 1) → (tokenKind_1 (cur_1) = 3)) (f22 : SGN (cur_1) (tokenKind_1) (tokenValue_1) (x8) (x10) (x9)) (f23 : fault_1 = x9) (f24 : ((cur_1 + 1) ≤ tokens_1) ∧ ((tokens_1 ≤ 2010) ∧ ((tokenKind_1 ((tokens_1 - 1)) = 0) ∨ (tokenKind_1 ((tokens_1 - 1)) = 4)))) (f25 : 1 * x1 + ((-1) * cur_1 + 0) ≤ 0) (f26 : (styleKind_1 = 0) → (styleOne_1 ≤ 23)) (f27 : 1 * opened_1 + 0 ≤ 0) (f28 : (-1) * opened_1 + 0 ≤ 0) (f29 : SPWv (fault_1) (cur_1) (styleKind_1) (limit_1) (tokenKind_1) (tokenValue_1) (tokenPlace_1) (tokenEnd_1) (tape_1) (x1) (x2) (x3)) (f30 : 1 * x3 + 0 ≤ 0) (f31 : (-1) * x3 + 0 ≤ 0) (f32 : 1 * x7 + (1 * cur_1 + 0) ≤ 2010) (f33 : (-1) * x7 + ((-1) * cur_1 + 0) ≤ (-2010)) (fe_0_8_1 : fault_0 = fault_1) (fe_0_10_1 : limit_0 = limit_1) (fe_0_157_1 : tokens_0 = tokens_1) (fe_0_158_1 : cur_0 = x18) (fe_0_159_1 : opened_0 = opened_1) (fe_0_164_1 : styleKind_0 = styleKind_1) (fe_0_165_1 : styleOne_0 = styleOne_1) (hE_0_1_1 : ∀ j : Int, tape_0 j = tape_1 j) (hK_0_1 : ∀ j : Int, 0 ≤ j → j < 2000 → (-128) ≤ tape_0 j ∧ tape_0 j ≤ 127) (hE_0_160_1 : ∀ j : Int, tokenKind_0 j = tokenKind_1 j) (hK_0_160 : ∀ j : Int, 0 ≤ j → j < 2010 → 0 ≤ tokenKind_0 j ∧ tokenKind_0 j ≤ 4) (hE_0_161_1 : ∀ j : Int, tokenValue_0 j = tokenValue_1 j) (hE_0_162_1 : ∀ j : Int, tokenPlace_0 j = tokenPlace_1 j) (hK_0_162 : ∀ j : Int, 0 ≤ j → j < 2010 → 0 ≤ tokenPlace_0 j ∧ tokenPlace_0 j ≤ 2000) (hE_0_163_1 : ∀ j : Int, tokenEnd_0 j = tokenEnd_1 j) (hK_0_163 : ∀ j : Int, 0 ≤ j → j < 2010 → 0 ≤ tokenEnd_0 j ∧ tokenEnd_0 j ≤ 2000) (kz_0_8 : 0 ≤ fault_0 ∧ fault_0 ≤ 5) (kz_0_10 : 0 ≤ limit_0 ∧ limit_0 ≤ 2000) (kz_0_157 : 0 ≤ tokens_0 ∧ tokens_0 ≤ 2010) (kz_0_158 : 0 ≤ cur_0 ∧ cur_0 ≤ 2009) (kz_0_159 : 0 ≤ opened_0 ∧ opened_0 ≤ 13) (kz_0_164 : 0 ≤ styleKind_0 ∧ styleKind_0 ≤ 1) (kz_0_165 : (-1) ≤ styleOne_0 ∧ styleOne_0 ≤ 47) (ex2 : gx = cur_0) (ex3 : 0 ≤ gx ∧ gx ≤ 2009) (ey2 : gy = fault_0) (ey3 : 0 ≤ gy ∧ gy ≤ 5) (eu2 : gu = opened_0) (eu3 : 0 ≤ gu ∧ gu ≤ 13) : ((cur_0 + 1) ≤ tokens_0) ∧ ((tokens_0 ≤ 2010) ∧ ((tokenKind_0 ((tokens_0 - 1)) = 0) ∨ (tokenKind_0 ((tokens_0 - 1)) = 4))) := by
  subst fe_0_8_1
  subst fe_0_10_1
  subst fe_0_157_1
  subst fe_0_159_1
  subst fe_0_164_1
  subst fe_0_165_1
  have e_hE_0_1_1 := funext hE_0_1_1; subst e_hE_0_1_1
  have e_hE_0_160_1 := funext hE_0_160_1; subst e_hE_0_160_1
  have e_hE_0_161_1 := funext hE_0_161_1; subst e_hE_0_161_1
  have e_hE_0_162_1 := funext hE_0_162_1; subst e_hE_0_162_1
  have e_hE_0_163_1 := funext hE_0_163_1; subst e_hE_0_163_1
  first | assumption | (clear f4 f13 f17 f21 f24 f26 hE_0_1_1 hK_0_1 hE_0_160_1 hK_0_160 hE_0_161_1 hE_0_162_1 hK_0_162 hE_0_163_1 hK_0_163; omega) | (clear hE_0_1_1 hK_0_1 hE_0_160_1 hK_0_160 hE_0_161_1 hE_0_162_1 hK_0_162 hE_0_163_1 hK_0_163; grind) | omega | grind
set_option maxHeartbeats 4000000 in
theorem vc_Mo_product_at_f0_7_1 (x1 : Int) (x2 : Int) (x3 : Int) (x6 : Int) (x7 : Int) (x8 : Int) (x9 : Int) (x10 : Int) (x11 : Int) (x12 : Int) (x13 : Int) (x14 : Int) (x15 : Int) (x16 : Int) (x17 : Int) (x18 : Int) (cur_0 : Int) (fault_0 : Int) (styleKind_0 : Int) (styleOne_0 : Int) (opened_0 : Int) (cur_1 : Int) (tokenKind_1 : Int → Int) (tokenValue_1 : Int → Int) (fault_1 : Int) (tokens_1 : Int) (styleKind_1 : Int) (styleOne_1 : Int) (opened_1 : Int) (tokenPlace_1 : Int → Int) (tokenEnd_1 : Int → Int) (tape_1 : Int → Int) (limit_1 : Int) (limit_0 : Int) (tokens_0 : Int) (tape_0 : Int → Int) (tokenKind_0 : Int → Int) (tokenValue_0 : Int → Int) (tokenPlace_0 : Int → Int) (tokenEnd_0 : Int → Int) (gx : Int) (gy : Int) (gu : Int) (k1 : 0 ≤ x1 ∧ x1 ≤ 2009) (k2 : 0 ≤ x2 ∧ x2 ≤ 5) (k3 : 0 ≤ x3 ∧ x3 ≤ 13) (k6 : 0 ≤ x6 ∧ x6 ≤ 2009) (k7 : 0 ≤ x7 ∧ x7 ≤ 2010) (k8 : 42 ≤ x8 ∧ x8 ≤ 42) (k9 : 0 ≤ x9 ∧ x9 ≤ 5) (k10 : 0 ≤ x10 ∧ x10 ≤ 0) (k11 : 47 ≤ x11 ∧ x11 ≤ 47) (k12 : 0 ≤ x12 ∧ x12 ≤ 5) (k13 : 1 ≤ x13 ∧ x13 ≤ 1) (k14 : 42 ≤ x14 ∧ x14 ≤ 42) (k15 : 0 ≤ x15 ∧ x15 ≤ 5) (k16 : 0 ≤ x16 ∧ x16 ≤ 0) (k17 : 1 ≤ x17 ∧ x17 ≤ 1) (k18 : 1 ≤ x18 ∧ x18 ≤ 2009) (d0 : x6 + 1 ≤ x18 ∧ x18 ≤ x6 + 1) (g0 : x18 = cur_0) (f1 : fault_0 = x15) (f2 : fault_0 = x12) (f3 : fault_0 = x9) (f4 : (styleKind_0 = 0) → (styleOne_0 ≤ 23)) (f5 : 1 * opened_0 + 0 ≤ 0) (f6 : (-1) * opened_0 + 0 ≤ 0) (f7 : 1 * x3 + 0 ≤ 0) (f8 : (-1) * x3 + 0 ≤ 0) (f11 : x18 = x6 + x17) (g12 : x6 = cur_1) (f13 : (x16 = 1) → (tokenKind_1 (cur_1) = 3)) (f14 : SGN (cur_1) (tokenKind_1) (tokenValue_1) (x14) (x16) (x15)) (f15 : fault_1 = x15) (f16 : x13 ≠ 0) (f17 : (x13 = 1) → (tokenKind_1 (cur_1) = 3)) (f18 : SGN (cur_1) (tokenKind_1) (tokenValue_1) (x11) (x13) (x12)) (f19 : fault_1 = x12) (f20 : x10 = 0) (f21 : (x10 = 1) → (tokenKind_1 (cur_1) = 3)) (f22 : SGN (cur_1) (tokenKind_1) (tokenValue_1) (x8) (x10) (x9)) (f23 : fault_1 = x9) (f24 : ((cur_1 + 1) ≤ tokens_1) ∧ ((tokens_1 ≤ 2010) ∧ ((tokenKind_1 ((tokens_1 - 1)) = 0) ∨ (tokenKind_1 ((tokens_1 - 1)) = 4)))) (f25 : 1 * x1 + ((-1) * cur_1 + 0) ≤ 0) (f26 : (styleKind_1 = 0) → (styleOne_1 ≤ 23)) (f27 : 1 * opened_1 + 0 ≤ 0) (f28 : (-1) * opened_1 + 0 ≤ 0) (f29 : SPWv (fault_1) (cur_1) (styleKind_1) (limit_1) (tokenKind_1) (tokenValue_1) (tokenPlace_1) (tokenEnd_1) (tape_1) (x1) (x2) (x3)) (f30 : 1 * x3 + 0 ≤ 0) (f31 : (-1) * x3 + 0 ≤ 0) (f32 : 1 * x7 + (1 * cur_1 + 0) ≤ 2010) (f33 : (-1) * x7 + ((-1) * cur_1 + 0) ≤ (-2010)) (fe_0_8_1 : fault_0 = fault_1) (fe_0_10_1 : limit_0 = limit_1) (fe_0_157_1 : tokens_0 = tokens_1) (fe_0_158_1 : cur_0 = x18) (fe_0_159_1 : opened_0 = opened_1) (fe_0_164_1 : styleKind_0 = styleKind_1) (fe_0_165_1 : styleOne_0 = styleOne_1) (hE_0_1_1 : ∀ j : Int, tape_0 j = tape_1 j) (hK_0_1 : ∀ j : Int, 0 ≤ j → j < 2000 → (-128) ≤ tape_0 j ∧ tape_0 j ≤ 127) (hE_0_160_1 : ∀ j : Int, tokenKind_0 j = tokenKind_1 j) (hK_0_160 : ∀ j : Int, 0 ≤ j → j < 2010 → 0 ≤ tokenKind_0 j ∧ tokenKind_0 j ≤ 4) (hE_0_161_1 : ∀ j : Int, tokenValue_0 j = tokenValue_1 j) (hE_0_162_1 : ∀ j : Int, tokenPlace_0 j = tokenPlace_1 j) (hK_0_162 : ∀ j : Int, 0 ≤ j → j < 2010 → 0 ≤ tokenPlace_0 j ∧ tokenPlace_0 j ≤ 2000) (hE_0_163_1 : ∀ j : Int, tokenEnd_0 j = tokenEnd_1 j) (hK_0_163 : ∀ j : Int, 0 ≤ j → j < 2010 → 0 ≤ tokenEnd_0 j ∧ tokenEnd_0 j ≤ 2000) (kz_0_8 : 0 ≤ fault_0 ∧ fault_0 ≤ 5) (kz_0_10 : 0 ≤ limit_0 ∧ limit_0 ≤ 2000) (kz_0_157 : 0 ≤ tokens_0 ∧ tokens_0 ≤ 2010) (kz_0_158 : 0 ≤ cur_0 ∧ cur_0 ≤ 2009) (kz_0_159 : 0 ≤ opened_0 ∧ opened_0 ≤ 13) (kz_0_164 : 0 ≤ styleKind_0 ∧ styleKind_0 ≤ 1) (kz_0_165 : (-1) ≤ styleOne_0 ∧ styleOne_0 ≤ 47) (ex2 : gx = cur_0) (ex3 : 0 ≤ gx ∧ gx ≤ 2009) (ey2 : gy = fault_0) (ey3 : 0 ≤ gy ∧ gy ≤ 5) (eu2 : gu = opened_0) (eu3 : 0 ≤ gu ∧ gu ≤ 13) : 1 * cur_0 + ((-1) * gx + 0) ≤ 0 := by
  subst fe_0_8_1
  subst fe_0_10_1
  subst fe_0_157_1
  subst fe_0_159_1
  subst fe_0_164_1
  subst fe_0_165_1
  have e_hE_0_1_1 := funext hE_0_1_1; subst e_hE_0_1_1
  have e_hE_0_160_1 := funext hE_0_160_1; subst e_hE_0_160_1
  have e_hE_0_161_1 := funext hE_0_161_1; subst e_hE_0_161_1
  have e_hE_0_162_1 := funext hE_0_162_1; subst e_hE_0_162_1
  have e_hE_0_163_1 := funext hE_0_163_1; subst e_hE_0_163_1
  first | assumption | (clear f4 f13 f17 f21 f24 f26 hE_0_1_1 hK_0_1 hE_0_160_1 hK_0_160 hE_0_161_1 hE_0_162_1 hK_0_162 hE_0_163_1 hK_0_163; omega) | (clear hE_0_1_1 hK_0_1 hE_0_160_1 hK_0_160 hE_0_161_1 hE_0_162_1 hK_0_162 hE_0_163_1 hK_0_163; grind) | omega | grind
set_option maxHeartbeats 4000000 in
theorem vc_Mo_product_at_f0_7_2 (x1 : Int) (x2 : Int) (x3 : Int) (x6 : Int) (x7 : Int) (x8 : Int) (x9 : Int) (x10 : Int) (x11 : Int) (x12 : Int) (x13 : Int) (x14 : Int) (x15 : Int) (x16 : Int) (x17 : Int) (x18 : Int) (cur_0 : Int) (fault_0 : Int) (styleKind_0 : Int) (styleOne_0 : Int) (opened_0 : Int) (cur_1 : Int) (tokenKind_1 : Int → Int) (tokenValue_1 : Int → Int) (fault_1 : Int) (tokens_1 : Int) (styleKind_1 : Int) (styleOne_1 : Int) (opened_1 : Int) (tokenPlace_1 : Int → Int) (tokenEnd_1 : Int → Int) (tape_1 : Int → Int) (limit_1 : Int) (limit_0 : Int) (tokens_0 : Int) (tape_0 : Int → Int) (tokenKind_0 : Int → Int) (tokenValue_0 : Int → Int) (tokenPlace_0 : Int → Int) (tokenEnd_0 : Int → Int) (gx : Int) (gy : Int) (gu : Int) (k1 : 0 ≤ x1 ∧ x1 ≤ 2009) (k2 : 0 ≤ x2 ∧ x2 ≤ 5) (k3 : 0 ≤ x3 ∧ x3 ≤ 13) (k6 : 0 ≤ x6 ∧ x6 ≤ 2009) (k7 : 0 ≤ x7 ∧ x7 ≤ 2010) (k8 : 42 ≤ x8 ∧ x8 ≤ 42) (k9 : 0 ≤ x9 ∧ x9 ≤ 5) (k10 : 0 ≤ x10 ∧ x10 ≤ 0) (k11 : 47 ≤ x11 ∧ x11 ≤ 47) (k12 : 0 ≤ x12 ∧ x12 ≤ 5) (k13 : 1 ≤ x13 ∧ x13 ≤ 1) (k14 : 42 ≤ x14 ∧ x14 ≤ 42) (k15 : 0 ≤ x15 ∧ x15 ≤ 5) (k16 : 0 ≤ x16 ∧ x16 ≤ 0) (k17 : 1 ≤ x17 ∧ x17 ≤ 1) (k18 : 1 ≤ x18 ∧ x18 ≤ 2009) (d0 : x6 + 1 ≤ x18 ∧ x18 ≤ x6 + 1) (g0 : x18 = cur_0) (f1 : fault_0 = x15) (f2 : fault_0 = x12) (f3 : fault_0 = x9) (f4 : (styleKind_0 = 0) → (styleOne_0 ≤ 23)) (f5 : 1 * opened_0 + 0 ≤ 0) (f6 : (-1) * opened_0 + 0 ≤ 0) (f7 : 1 * x3 + 0 ≤ 0) (f8 : (-1) * x3 + 0 ≤ 0) (f11 : x18 = x6 + x17) (g12 : x6 = cur_1) (f13 : (x16 = 1) → (tokenKind_1 (cur_1) = 3)) (f14 : SGN (cur_1) (tokenKind_1) (tokenValue_1) (x14) (x16) (x15)) (f15 : fault_1 = x15) (f16 : x13 ≠ 0) (f17 : (x13 = 1) → (tokenKind_1 (cur_1) = 3)) (f18 : SGN (cur_1) (tokenKind_1) (tokenValue_1) (x11) (x13) (x12)) (f19 : fault_1 = x12) (f20 : x10 = 0) (f21 : (x10 = 1) → (tokenKind_1 (cur_1) = 3)) (f22 : SGN (cur_1) (tokenKind_1) (tokenValue_1) (x8) (x10) (x9)) (f23 : fault_1 = x9) (f24 : ((cur_1 + 1) ≤ tokens_1) ∧ ((tokens_1 ≤ 2010) ∧ ((tokenKind_1 ((tokens_1 - 1)) = 0) ∨ (tokenKind_1 ((tokens_1 - 1)) = 4)))) (f25 : 1 * x1 + ((-1) * cur_1 + 0) ≤ 0) (f26 : (styleKind_1 = 0) → (styleOne_1 ≤ 23)) (f27 : 1 * opened_1 + 0 ≤ 0) (f28 : (-1) * opened_1 + 0 ≤ 0) (f29 : SPWv (fault_1) (cur_1) (styleKind_1) (limit_1) (tokenKind_1) (tokenValue_1) (tokenPlace_1) (tokenEnd_1) (tape_1) (x1) (x2) (x3)) (f30 : 1 * x3 + 0 ≤ 0) (f31 : (-1) * x3 + 0 ≤ 0) (f32 : 1 * x7 + (1 * cur_1 + 0) ≤ 2010) (f33 : (-1) * x7 + ((-1) * cur_1 + 0) ≤ (-2010)) (fe_0_8_1 : fault_0 = fault_1) (fe_0_10_1 : limit_0 = limit_1) (fe_0_157_1 : tokens_0 = tokens_1) (fe_0_158_1 : cur_0 = x18) (fe_0_159_1 : opened_0 = opened_1) (fe_0_164_1 : styleKind_0 = styleKind_1) (fe_0_165_1 : styleOne_0 = styleOne_1) (hE_0_1_1 : ∀ j : Int, tape_0 j = tape_1 j) (hK_0_1 : ∀ j : Int, 0 ≤ j → j < 2000 → (-128) ≤ tape_0 j ∧ tape_0 j ≤ 127) (hE_0_160_1 : ∀ j : Int, tokenKind_0 j = tokenKind_1 j) (hK_0_160 : ∀ j : Int, 0 ≤ j → j < 2010 → 0 ≤ tokenKind_0 j ∧ tokenKind_0 j ≤ 4) (hE_0_161_1 : ∀ j : Int, tokenValue_0 j = tokenValue_1 j) (hE_0_162_1 : ∀ j : Int, tokenPlace_0 j = tokenPlace_1 j) (hK_0_162 : ∀ j : Int, 0 ≤ j → j < 2010 → 0 ≤ tokenPlace_0 j ∧ tokenPlace_0 j ≤ 2000) (hE_0_163_1 : ∀ j : Int, tokenEnd_0 j = tokenEnd_1 j) (hK_0_163 : ∀ j : Int, 0 ≤ j → j < 2010 → 0 ≤ tokenEnd_0 j ∧ tokenEnd_0 j ≤ 2000) (kz_0_8 : 0 ≤ fault_0 ∧ fault_0 ≤ 5) (kz_0_10 : 0 ≤ limit_0 ∧ limit_0 ≤ 2000) (kz_0_157 : 0 ≤ tokens_0 ∧ tokens_0 ≤ 2010) (kz_0_158 : 0 ≤ cur_0 ∧ cur_0 ≤ 2009) (kz_0_159 : 0 ≤ opened_0 ∧ opened_0 ≤ 13) (kz_0_164 : 0 ≤ styleKind_0 ∧ styleKind_0 ≤ 1) (kz_0_165 : (-1) ≤ styleOne_0 ∧ styleOne_0 ≤ 47) (ex2 : gx = cur_0) (ex3 : 0 ≤ gx ∧ gx ≤ 2009) (ey2 : gy = fault_0) (ey3 : 0 ≤ gy ∧ gy ≤ 5) (eu2 : gu = opened_0) (eu3 : 0 ≤ gu ∧ gu ≤ 13) : (-1) * cur_0 + (1 * gx + 0) ≤ 0 := by
  subst fe_0_8_1
  subst fe_0_10_1
  subst fe_0_157_1
  subst fe_0_159_1
  subst fe_0_164_1
  subst fe_0_165_1
  have e_hE_0_1_1 := funext hE_0_1_1; subst e_hE_0_1_1
  have e_hE_0_160_1 := funext hE_0_160_1; subst e_hE_0_160_1
  have e_hE_0_161_1 := funext hE_0_161_1; subst e_hE_0_161_1
  have e_hE_0_162_1 := funext hE_0_162_1; subst e_hE_0_162_1
  have e_hE_0_163_1 := funext hE_0_163_1; subst e_hE_0_163_1
  first | assumption | (clear f4 f13 f17 f21 f24 f26 hE_0_1_1 hK_0_1 hE_0_160_1 hK_0_160 hE_0_161_1 hE_0_162_1 hK_0_162 hE_0_163_1 hK_0_163; omega) | (clear hE_0_1_1 hK_0_1 hE_0_160_1 hK_0_160 hE_0_161_1 hE_0_162_1 hK_0_162 hE_0_163_1 hK_0_163; grind) | omega | grind
set_option maxHeartbeats 4000000 in
theorem vc_Mo_product_at_f0_7_3 (x1 : Int) (x2 : Int) (x3 : Int) (x6 : Int) (x7 : Int) (x8 : Int) (x9 : Int) (x10 : Int) (x11 : Int) (x12 : Int) (x13 : Int) (x14 : Int) (x15 : Int) (x16 : Int) (x17 : Int) (x18 : Int) (cur_0 : Int) (fault_0 : Int) (styleKind_0 : Int) (styleOne_0 : Int) (opened_0 : Int) (cur_1 : Int) (tokenKind_1 : Int → Int) (tokenValue_1 : Int → Int) (fault_1 : Int) (tokens_1 : Int) (styleKind_1 : Int) (styleOne_1 : Int) (opened_1 : Int) (tokenPlace_1 : Int → Int) (tokenEnd_1 : Int → Int) (tape_1 : Int → Int) (limit_1 : Int) (limit_0 : Int) (tokens_0 : Int) (tape_0 : Int → Int) (tokenKind_0 : Int → Int) (tokenValue_0 : Int → Int) (tokenPlace_0 : Int → Int) (tokenEnd_0 : Int → Int) (gx : Int) (gy : Int) (gu : Int) (k1 : 0 ≤ x1 ∧ x1 ≤ 2009) (k2 : 0 ≤ x2 ∧ x2 ≤ 5) (k3 : 0 ≤ x3 ∧ x3 ≤ 13) (k6 : 0 ≤ x6 ∧ x6 ≤ 2009) (k7 : 0 ≤ x7 ∧ x7 ≤ 2010) (k8 : 42 ≤ x8 ∧ x8 ≤ 42) (k9 : 0 ≤ x9 ∧ x9 ≤ 5) (k10 : 0 ≤ x10 ∧ x10 ≤ 0) (k11 : 47 ≤ x11 ∧ x11 ≤ 47) (k12 : 0 ≤ x12 ∧ x12 ≤ 5) (k13 : 1 ≤ x13 ∧ x13 ≤ 1) (k14 : 42 ≤ x14 ∧ x14 ≤ 42) (k15 : 0 ≤ x15 ∧ x15 ≤ 5) (k16 : 0 ≤ x16 ∧ x16 ≤ 0) (k17 : 1 ≤ x17 ∧ x17 ≤ 1) (k18 : 1 ≤ x18 ∧ x18 ≤ 2009) (d0 : x6 + 1 ≤ x18 ∧ x18 ≤ x6 + 1) (g0 : x18 = cur_0) (f1 : fault_0 = x15) (f2 : fault_0 = x12) (f3 : fault_0 = x9) (f4 : (styleKind_0 = 0) → (styleOne_0 ≤ 23)) (f5 : 1 * opened_0 + 0 ≤ 0) (f6 : (-1) * opened_0 + 0 ≤ 0) (f7 : 1 * x3 + 0 ≤ 0) (f8 : (-1) * x3 + 0 ≤ 0) (f11 : x18 = x6 + x17) (g12 : x6 = cur_1) (f13 : (x16 = 1) → (tokenKind_1 (cur_1) = 3)) (f14 : SGN (cur_1) (tokenKind_1) (tokenValue_1) (x14) (x16) (x15)) (f15 : fault_1 = x15) (f16 : x13 ≠ 0) (f17 : (x13 = 1) → (tokenKind_1 (cur_1) = 3)) (f18 : SGN (cur_1) (tokenKind_1) (tokenValue_1) (x11) (x13) (x12)) (f19 : fault_1 = x12) (f20 : x10 = 0) (f21 : (x10 = 1) → (tokenKind_1 (cur_1) = 3)) (f22 : SGN (cur_1) (tokenKind_1) (tokenValue_1) (x8) (x10) (x9)) (f23 : fault_1 = x9) (f24 : ((cur_1 + 1) ≤ tokens_1) ∧ ((tokens_1 ≤ 2010) ∧ ((tokenKind_1 ((tokens_1 - 1)) = 0) ∨ (tokenKind_1 ((tokens_1 - 1)) = 4)))) (f25 : 1 * x1 + ((-1) * cur_1 + 0) ≤ 0) (f26 : (styleKind_1 = 0) → (styleOne_1 ≤ 23)) (f27 : 1 * opened_1 + 0 ≤ 0) (f28 : (-1) * opened_1 + 0 ≤ 0) (f29 : SPWv (fault_1) (cur_1) (styleKind_1) (limit_1) (tokenKind_1) (tokenValue_1) (tokenPlace_1) (tokenEnd_1) (tape_1) (x1) (x2) (x3)) (f30 : 1 * x3 + 0 ≤ 0) (f31 : (-1) * x3 + 0 ≤ 0) (f32 : 1 * x7 + (1 * cur_1 + 0) ≤ 2010) (f33 : (-1) * x7 + ((-1) * cur_1 + 0) ≤ (-2010)) (fe_0_8_1 : fault_0 = fault_1) (fe_0_10_1 : limit_0 = limit_1) (fe_0_157_1 : tokens_0 = tokens_1) (fe_0_158_1 : cur_0 = x18) (fe_0_159_1 : opened_0 = opened_1) (fe_0_164_1 : styleKind_0 = styleKind_1) (fe_0_165_1 : styleOne_0 = styleOne_1) (hE_0_1_1 : ∀ j : Int, tape_0 j = tape_1 j) (hK_0_1 : ∀ j : Int, 0 ≤ j → j < 2000 → (-128) ≤ tape_0 j ∧ tape_0 j ≤ 127) (hE_0_160_1 : ∀ j : Int, tokenKind_0 j = tokenKind_1 j) (hK_0_160 : ∀ j : Int, 0 ≤ j → j < 2010 → 0 ≤ tokenKind_0 j ∧ tokenKind_0 j ≤ 4) (hE_0_161_1 : ∀ j : Int, tokenValue_0 j = tokenValue_1 j) (hE_0_162_1 : ∀ j : Int, tokenPlace_0 j = tokenPlace_1 j) (hK_0_162 : ∀ j : Int, 0 ≤ j → j < 2010 → 0 ≤ tokenPlace_0 j ∧ tokenPlace_0 j ≤ 2000) (hE_0_163_1 : ∀ j : Int, tokenEnd_0 j = tokenEnd_1 j) (hK_0_163 : ∀ j : Int, 0 ≤ j → j < 2010 → 0 ≤ tokenEnd_0 j ∧ tokenEnd_0 j ≤ 2000) (kz_0_8 : 0 ≤ fault_0 ∧ fault_0 ≤ 5) (kz_0_10 : 0 ≤ limit_0 ∧ limit_0 ≤ 2000) (kz_0_157 : 0 ≤ tokens_0 ∧ tokens_0 ≤ 2010) (kz_0_158 : 0 ≤ cur_0 ∧ cur_0 ≤ 2009) (kz_0_159 : 0 ≤ opened_0 ∧ opened_0 ≤ 13) (kz_0_164 : 0 ≤ styleKind_0 ∧ styleKind_0 ≤ 1) (kz_0_165 : (-1) ≤ styleOne_0 ∧ styleOne_0 ≤ 47) (ex2 : gx = cur_0) (ex3 : 0 ≤ gx ∧ gx ≤ 2009) (ey2 : gy = fault_0) (ey3 : 0 ≤ gy ∧ gy ≤ 5) (eu2 : gu = opened_0) (eu3 : 0 ≤ gu ∧ gu ≤ 13) : (styleKind_0 = 0) → (styleOne_0 ≤ 23) := by
  subst fe_0_8_1
  subst fe_0_10_1
  subst fe_0_157_1
  subst fe_0_159_1
  subst fe_0_164_1
  subst fe_0_165_1
  have e_hE_0_1_1 := funext hE_0_1_1; subst e_hE_0_1_1
  have e_hE_0_160_1 := funext hE_0_160_1; subst e_hE_0_160_1
  have e_hE_0_161_1 := funext hE_0_161_1; subst e_hE_0_161_1
  have e_hE_0_162_1 := funext hE_0_162_1; subst e_hE_0_162_1
  have e_hE_0_163_1 := funext hE_0_163_1; subst e_hE_0_163_1
  first | assumption | (clear f4 f13 f17 f21 f24 f26 hE_0_1_1 hK_0_1 hE_0_160_1 hK_0_160 hE_0_161_1 hE_0_162_1 hK_0_162 hE_0_163_1 hK_0_163; omega) | (clear hE_0_1_1 hK_0_1 hE_0_160_1 hK_0_160 hE_0_161_1 hE_0_162_1 hK_0_162 hE_0_163_1 hK_0_163; grind) | omega | grind
set_option maxHeartbeats 4000000 in
theorem vc_Mo_product_at_f0_7_4 (x1 : Int) (x2 : Int) (x3 : Int) (x6 : Int) (x7 : Int) (x8 : Int) (x9 : Int) (x10 : Int) (x11 : Int) (x12 : Int) (x13 : Int) (x14 : Int) (x15 : Int) (x16 : Int) (x17 : Int) (x18 : Int) (cur_0 : Int) (fault_0 : Int) (styleKind_0 : Int) (styleOne_0 : Int) (opened_0 : Int) (cur_1 : Int) (tokenKind_1 : Int → Int) (tokenValue_1 : Int → Int) (fault_1 : Int) (tokens_1 : Int) (styleKind_1 : Int) (styleOne_1 : Int) (opened_1 : Int) (tokenPlace_1 : Int → Int) (tokenEnd_1 : Int → Int) (tape_1 : Int → Int) (limit_1 : Int) (limit_0 : Int) (tokens_0 : Int) (tape_0 : Int → Int) (tokenKind_0 : Int → Int) (tokenValue_0 : Int → Int) (tokenPlace_0 : Int → Int) (tokenEnd_0 : Int → Int) (gx : Int) (gy : Int) (gu : Int) (k1 : 0 ≤ x1 ∧ x1 ≤ 2009) (k2 : 0 ≤ x2 ∧ x2 ≤ 5) (k3 : 0 ≤ x3 ∧ x3 ≤ 13) (k6 : 0 ≤ x6 ∧ x6 ≤ 2009) (k7 : 0 ≤ x7 ∧ x7 ≤ 2010) (k8 : 42 ≤ x8 ∧ x8 ≤ 42) (k9 : 0 ≤ x9 ∧ x9 ≤ 5) (k10 : 0 ≤ x10 ∧ x10 ≤ 0) (k11 : 47 ≤ x11 ∧ x11 ≤ 47) (k12 : 0 ≤ x12 ∧ x12 ≤ 5) (k13 : 1 ≤ x13 ∧ x13 ≤ 1) (k14 : 42 ≤ x14 ∧ x14 ≤ 42) (k15 : 0 ≤ x15 ∧ x15 ≤ 5) (k16 : 0 ≤ x16 ∧ x16 ≤ 0) (k17 : 1 ≤ x17 ∧ x17 ≤ 1) (k18 : 1 ≤ x18 ∧ x18 ≤ 2009) (d0 : x6 + 1 ≤ x18 ∧ x18 ≤ x6 + 1) (g0 : x18 = cur_0) (f1 : fault_0 = x15) (f2 : fault_0 = x12) (f3 : fault_0 = x9) (f4 : (styleKind_0 = 0) → (styleOne_0 ≤ 23)) (f5 : 1 * opened_0 + 0 ≤ 0) (f6 : (-1) * opened_0 + 0 ≤ 0) (f7 : 1 * x3 + 0 ≤ 0) (f8 : (-1) * x3 + 0 ≤ 0) (f11 : x18 = x6 + x17) (g12 : x6 = cur_1) (f13 : (x16 = 1) → (tokenKind_1 (cur_1) = 3)) (f14 : SGN (cur_1) (tokenKind_1) (tokenValue_1) (x14) (x16) (x15)) (f15 : fault_1 = x15) (f16 : x13 ≠ 0) (f17 : (x13 = 1) → (tokenKind_1 (cur_1) = 3)) (f18 : SGN (cur_1) (tokenKind_1) (tokenValue_1) (x11) (x13) (x12)) (f19 : fault_1 = x12) (f20 : x10 = 0) (f21 : (x10 = 1) → (tokenKind_1 (cur_1) = 3)) (f22 : SGN (cur_1) (tokenKind_1) (tokenValue_1) (x8) (x10) (x9)) (f23 : fault_1 = x9) (f24 : ((cur_1 + 1) ≤ tokens_1) ∧ ((tokens_1 ≤ 2010) ∧ ((tokenKind_1 ((tokens_1 - 1)) = 0) ∨ (tokenKind_1 ((tokens_1 - 1)) = 4)))) (f25 : 1 * x1 + ((-1) * cur_1 + 0) ≤ 0) (f26 : (styleKind_1 = 0) → (styleOne_1 ≤ 23)) (f27 : 1 * opened_1 + 0 ≤ 0) (f28 : (-1) * opened_1 + 0 ≤ 0) (f29 : SPWv (fault_1) (cur_1) (styleKind_1) (limit_1) (tokenKind_1) (tokenValue_1) (tokenPlace_1) (tokenEnd_1) (tape_1) (x1) (x2) (x3)) (f30 : 1 * x3 + 0 ≤ 0) (f31 : (-1) * x3 + 0 ≤ 0) (f32 : 1 * x7 + (1 * cur_1 + 0) ≤ 2010) (f33 : (-1) * x7 + ((-1) * cur_1 + 0) ≤ (-2010)) (fe_0_8_1 : fault_0 = fault_1) (fe_0_10_1 : limit_0 = limit_1) (fe_0_157_1 : tokens_0 = tokens_1) (fe_0_158_1 : cur_0 = x18) (fe_0_159_1 : opened_0 = opened_1) (fe_0_164_1 : styleKind_0 = styleKind_1) (fe_0_165_1 : styleOne_0 = styleOne_1) (hE_0_1_1 : ∀ j : Int, tape_0 j = tape_1 j) (hK_0_1 : ∀ j : Int, 0 ≤ j → j < 2000 → (-128) ≤ tape_0 j ∧ tape_0 j ≤ 127) (hE_0_160_1 : ∀ j : Int, tokenKind_0 j = tokenKind_1 j) (hK_0_160 : ∀ j : Int, 0 ≤ j → j < 2010 → 0 ≤ tokenKind_0 j ∧ tokenKind_0 j ≤ 4) (hE_0_161_1 : ∀ j : Int, tokenValue_0 j = tokenValue_1 j) (hE_0_162_1 : ∀ j : Int, tokenPlace_0 j = tokenPlace_1 j) (hK_0_162 : ∀ j : Int, 0 ≤ j → j < 2010 → 0 ≤ tokenPlace_0 j ∧ tokenPlace_0 j ≤ 2000) (hE_0_163_1 : ∀ j : Int, tokenEnd_0 j = tokenEnd_1 j) (hK_0_163 : ∀ j : Int, 0 ≤ j → j < 2010 → 0 ≤ tokenEnd_0 j ∧ tokenEnd_0 j ≤ 2000) (kz_0_8 : 0 ≤ fault_0 ∧ fault_0 ≤ 5) (kz_0_10 : 0 ≤ limit_0 ∧ limit_0 ≤ 2000) (kz_0_157 : 0 ≤ tokens_0 ∧ tokens_0 ≤ 2010) (kz_0_158 : 0 ≤ cur_0 ∧ cur_0 ≤ 2009) (kz_0_159 : 0 ≤ opened_0 ∧ opened_0 ≤ 13) (kz_0_164 : 0 ≤ styleKind_0 ∧ styleKind_0 ≤ 1) (kz_0_165 : (-1) ≤ styleOne_0 ∧ styleOne_0 ≤ 47) (ex2 : gx = cur_0) (ex3 : 0 ≤ gx ∧ gx ≤ 2009) (ey2 : gy = fault_0) (ey3 : 0 ≤ gy ∧ gy ≤ 5) (eu2 : gu = opened_0) (eu3 : 0 ≤ gu ∧ gu ≤ 13) : 1 * opened_0 + 0 ≤ 0 := by
  subst fe_0_8_1
  subst fe_0_10_1
  subst fe_0_157_1
  subst fe_0_159_1
  subst fe_0_164_1
  subst fe_0_165_1
  have e_hE_0_1_1 := funext hE_0_1_1; subst e_hE_0_1_1
  have e_hE_0_160_1 := funext hE_0_160_1; subst e_hE_0_160_1
  have e_hE_0_161_1 := funext hE_0_161_1; subst e_hE_0_161_1
  have e_hE_0_162_1 := funext hE_0_162_1; subst e_hE_0_162_1
  have e_hE_0_163_1 := funext hE_0_163_1; subst e_hE_0_163_1
  first | assumption | (clear f4 f13 f17 f21 f24 f26 hE_0_1_1 hK_0_1 hE_0_160_1 hK_0_160 hE_0_161_1 hE_0_162_1 hK_0_162 hE_0_163_1 hK_0_163; omega) | (clear hE_0_1_1 hK_0_1 hE_0_160_1 hK_0_160 hE_0_161_1 hE_0_162_1 hK_0_162 hE_0_163_1 hK_0_163; grind) | omega | grind
set_option maxHeartbeats 4000000 in
theorem vc_Mo_product_at_f0_7_5 (x1 : Int) (x2 : Int) (x3 : Int) (x6 : Int) (x7 : Int) (x8 : Int) (x9 : Int) (x10 : Int) (x11 : Int) (x12 : Int) (x13 : Int) (x14 : Int) (x15 : Int) (x16 : Int) (x17 : Int) (x18 : Int) (cur_0 : Int) (fault_0 : Int) (styleKind_0 : Int) (styleOne_0 : Int) (opened_0 : Int) (cur_1 : Int) (tokenKind_1 : Int → Int) (tokenValue_1 : Int → Int) (fault_1 : Int) (tokens_1 : Int) (styleKind_1 : Int) (styleOne_1 : Int) (opened_1 : Int) (tokenPlace_1 : Int → Int) (tokenEnd_1 : Int → Int) (tape_1 : Int → Int) (limit_1 : Int) (limit_0 : Int) (tokens_0 : Int) (tape_0 : Int → Int) (tokenKind_0 : Int → Int) (tokenValue_0 : Int → Int) (tokenPlace_0 : Int → Int) (tokenEnd_0 : Int → Int) (gx : Int) (gy : Int) (gu : Int) (k1 : 0 ≤ x1 ∧ x1 ≤ 2009) (k2 : 0 ≤ x2 ∧ x2 ≤ 5) (k3 : 0 ≤ x3 ∧ x3 ≤ 13) (k6 : 0 ≤ x6 ∧ x6 ≤ 2009) (k7 : 0 ≤ x7 ∧ x7 ≤ 2010) (k8 : 42 ≤ x8 ∧ x8 ≤ 42) (k9 : 0 ≤ x9 ∧ x9 ≤ 5) (k10 : 0 ≤ x10 ∧ x10 ≤ 0) (k11 : 47 ≤ x11 ∧ x11 ≤ 47) (k12 : 0 ≤ x12 ∧ x12 ≤ 5) (k13 : 1 ≤ x13 ∧ x13 ≤ 1) (k14 : 42 ≤ x14 ∧ x14 ≤ 42) (k15 : 0 ≤ x15 ∧ x15 ≤ 5) (k16 : 0 ≤ x16 ∧ x16 ≤ 0) (k17 : 1 ≤ x17 ∧ x17 ≤ 1) (k18 : 1 ≤ x18 ∧ x18 ≤ 2009) (d0 : x6 + 1 ≤ x18 ∧ x18 ≤ x6 + 1) (g0 : x18 = cur_0) (f1 : fault_0 = x15) (f2 : fault_0 = x12) (f3 : fault_0 = x9) (f4 : (styleKind_0 = 0) → (styleOne_0 ≤ 23)) (f5 : 1 * opened_0 + 0 ≤ 0) (f6 : (-1) * opened_0 + 0 ≤ 0) (f7 : 1 * x3 + 0 ≤ 0) (f8 : (-1) * x3 + 0 ≤ 0) (f11 : x18 = x6 + x17) (g12 : x6 = cur_1) (f13 : (x16 = 1) → (tokenKind_1 (cur_1) = 3)) (f14 : SGN (cur_1) (tokenKind_1) (tokenValue_1) (x14) (x16) (x15)) (f15 : fault_1 = x15) (f16 : x13 ≠ 0) (f17 : (x13 = 1) → (tokenKind_1 (cur_1) = 3)) (f18 : SGN (cur_1) (tokenKind_1) (tokenValue_1) (x11) (x13) (x12)) (f19 : fault_1 = x12) (f20 : x10 = 0) (f21 : (x10 = 1) → (tokenKind_1 (cur_1) = 3)) (f22 : SGN (cur_1) (tokenKind_1) (tokenValue_1) (x8) (x10) (x9)) (f23 : fault_1 = x9) (f24 : ((cur_1 + 1) ≤ tokens_1) ∧ ((tokens_1 ≤ 2010) ∧ ((tokenKind_1 ((tokens_1 - 1)) = 0) ∨ (tokenKind_1 ((tokens_1 - 1)) = 4)))) (f25 : 1 * x1 + ((-1) * cur_1 + 0) ≤ 0) (f26 : (styleKind_1 = 0) → (styleOne_1 ≤ 23)) (f27 : 1 * opened_1 + 0 ≤ 0) (f28 : (-1) * opened_1 + 0 ≤ 0) (f29 : SPWv (fault_1) (cur_1) (styleKind_1) (limit_1) (tokenKind_1) (tokenValue_1) (tokenPlace_1) (tokenEnd_1) (tape_1) (x1) (x2) (x3)) (f30 : 1 * x3 + 0 ≤ 0) (f31 : (-1) * x3 + 0 ≤ 0) (f32 : 1 * x7 + (1 * cur_1 + 0) ≤ 2010) (f33 : (-1) * x7 + ((-1) * cur_1 + 0) ≤ (-2010)) (fe_0_8_1 : fault_0 = fault_1) (fe_0_10_1 : limit_0 = limit_1) (fe_0_157_1 : tokens_0 = tokens_1) (fe_0_158_1 : cur_0 = x18) (fe_0_159_1 : opened_0 = opened_1) (fe_0_164_1 : styleKind_0 = styleKind_1) (fe_0_165_1 : styleOne_0 = styleOne_1) (hE_0_1_1 : ∀ j : Int, tape_0 j = tape_1 j) (hK_0_1 : ∀ j : Int, 0 ≤ j → j < 2000 → (-128) ≤ tape_0 j ∧ tape_0 j ≤ 127) (hE_0_160_1 : ∀ j : Int, tokenKind_0 j = tokenKind_1 j) (hK_0_160 : ∀ j : Int, 0 ≤ j → j < 2010 → 0 ≤ tokenKind_0 j ∧ tokenKind_0 j ≤ 4) (hE_0_161_1 : ∀ j : Int, tokenValue_0 j = tokenValue_1 j) (hE_0_162_1 : ∀ j : Int, tokenPlace_0 j = tokenPlace_1 j) (hK_0_162 : ∀ j : Int, 0 ≤ j → j < 2010 → 0 ≤ tokenPlace_0 j ∧ tokenPlace_0 j ≤ 2000) (hE_0_163_1 : ∀ j : Int, tokenEnd_0 j = tokenEnd_1 j) (hK_0_163 : ∀ j : Int, 0 ≤ j → j < 2010 → 0 ≤ tokenEnd_0 j ∧ tokenEnd_0 j ≤ 2000) (kz_0_8 : 0 ≤ fault_0 ∧ fault_0 ≤ 5) (kz_0_10 : 0 ≤ limit_0 ∧ limit_0 ≤ 2000) (kz_0_157 : 0 ≤ tokens_0 ∧ tokens_0 ≤ 2010) (kz_0_158 : 0 ≤ cur_0 ∧ cur_0 ≤ 2009) (kz_0_159 : 0 ≤ opened_0 ∧ opened_0 ≤ 13) (kz_0_164 : 0 ≤ styleKind_0 ∧ styleKind_0 ≤ 1) (kz_0_165 : (-1) ≤ styleOne_0 ∧ styleOne_0 ≤ 47) (ex2 : gx = cur_0) (ex3 : 0 ≤ gx ∧ gx ≤ 2009) (ey2 : gy = fault_0) (ey3 : 0 ≤ gy ∧ gy ≤ 5) (eu2 : gu = opened_0) (eu3 : 0 ≤ gu ∧ gu ≤ 13) : (-1) * opened_0 + 0 ≤ 0 := by
  subst fe_0_8_1
  subst fe_0_10_1
  subst fe_0_157_1
  subst fe_0_159_1
  subst fe_0_164_1
  subst fe_0_165_1
  have e_hE_0_1_1 := funext hE_0_1_1; subst e_hE_0_1_1
  have e_hE_0_160_1 := funext hE_0_160_1; subst e_hE_0_160_1
  have e_hE_0_161_1 := funext hE_0_161_1; subst e_hE_0_161_1
  have e_hE_0_162_1 := funext hE_0_162_1; subst e_hE_0_162_1
  have e_hE_0_163_1 := funext hE_0_163_1; subst e_hE_0_163_1
  first | assumption | (clear f4 f13 f17 f21 f24 f26 hE_0_1_1 hK_0_1 hE_0_160_1 hK_0_160 hE_0_161_1 hE_0_162_1 hK_0_162 hE_0_163_1 hK_0_163; omega) | (clear hE_0_1_1 hK_0_1 hE_0_160_1 hK_0_160 hE_0_161_1 hE_0_162_1 hK_0_162 hE_0_163_1 hK_0_163; grind) | omega | grind
set_option maxHeartbeats 4000000 in
theorem vc_Mo_product_at_f0_7_6 (x1 : Int) (x2 : Int) (x3 : Int) (x6 : Int) (x7 : Int) (x8 : Int) (x9 : Int) (x10 : Int) (x11 : Int) (x12 : Int) (x13 : Int) (x14 : Int) (x15 : Int) (x16 : Int) (x17 : Int) (x18 : Int) (cur_0 : Int) (fault_0 : Int) (styleKind_0 : Int) (styleOne_0 : Int) (opened_0 : Int) (cur_1 : Int) (tokenKind_1 : Int → Int) (tokenValue_1 : Int → Int) (fault_1 : Int) (tokens_1 : Int) (styleKind_1 : Int) (styleOne_1 : Int) (opened_1 : Int) (tokenPlace_1 : Int → Int) (tokenEnd_1 : Int → Int) (tape_1 : Int → Int) (limit_1 : Int) (limit_0 : Int) (tokens_0 : Int) (tape_0 : Int → Int) (tokenKind_0 : Int → Int) (tokenValue_0 : Int → Int) (tokenPlace_0 : Int → Int) (tokenEnd_0 : Int → Int) (gx : Int) (gy : Int) (gu : Int) (k1 : 0 ≤ x1 ∧ x1 ≤ 2009) (k2 : 0 ≤ x2 ∧ x2 ≤ 5) (k3 : 0 ≤ x3 ∧ x3 ≤ 13) (k6 : 0 ≤ x6 ∧ x6 ≤ 2009) (k7 : 0 ≤ x7 ∧ x7 ≤ 2010) (k8 : 42 ≤ x8 ∧ x8 ≤ 42) (k9 : 0 ≤ x9 ∧ x9 ≤ 5) (k10 : 0 ≤ x10 ∧ x10 ≤ 0) (k11 : 47 ≤ x11 ∧ x11 ≤ 47) (k12 : 0 ≤ x12 ∧ x12 ≤ 5) (k13 : 1 ≤ x13 ∧ x13 ≤ 1) (k14 : 42 ≤ x14 ∧ x14 ≤ 42) (k15 : 0 ≤ x15 ∧ x15 ≤ 5) (k16 : 0 ≤ x16 ∧ x16 ≤ 0) (k17 : 1 ≤ x17 ∧ x17 ≤ 1) (k18 : 1 ≤ x18 ∧ x18 ≤ 2009) (d0 : x6 + 1 ≤ x18 ∧ x18 ≤ x6 + 1) (g0 : x18 = cur_0) (f1 : fault_0 = x15) (f2 : fault_0 = x12) (f3 : fault_0 = x9) (f4 : (styleKind_0 = 0) → (styleOne_0 ≤ 23)) (f5 : 1 * opened_0 + 0 ≤ 0) (f6 : (-1) * opened_0 + 0 ≤ 0) (f7 : 1 * x3 + 0 ≤ 0) (f8 : (-1) * x3 + 0 ≤ 0) (f11 : x18 = x6 + x17) (g12 : x6 = cur_1) (f13 : (x16 = 1) → (tokenKind_1 (cur_1) = 3)) (f14 : SGN (cur_1) (tokenKind_1) (tokenValue_1) (x14) (x16) (x15)) (f15 : fault_1 = x15) (f16 : x13 ≠ 0) (f17 : (x13 = 1) → (tokenKind_1 (cur_1) = 3)) (f18 : SGN (cur_1) (tokenKind_1) (tokenValue_1) (x11) (x13) (x12)) (f19 : fault_1 = x12) (f20 : x10 = 0) (f21 : (x10 = 1) → (tokenKind_1 (cur_1) = 3)) (f22 : SGN (cur_1) (tokenKind_1) (tokenValue_1) (x8) (x10) (x9)) (f23 : fault_1 = x9) (f24 : ((cur_1 + 1) ≤ tokens_1) ∧ ((tokens_1 ≤ 2010) ∧ ((tokenKind_1 ((tokens_1 - 1)) = 0) ∨ (tokenKind_1 ((tokens_1 - 1)) = 4)))) (f25 : 1 * x1 + ((-1) * cur_1 + 0) ≤ 0) (f26 : (styleKind_1 = 0) → (styleOne_1 ≤ 23)) (f27 : 1 * opened_1 + 0 ≤ 0) (f28 : (-1) * opened_1 + 0 ≤ 0) (f29 : SPWv (fault_1) (cur_1) (styleKind_1) (limit_1) (tokenKind_1) (tokenValue_1) (tokenPlace_1) (tokenEnd_1) (tape_1) (x1) (x2) (x3)) (f30 : 1 * x3 + 0 ≤ 0) (f31 : (-1) * x3 + 0 ≤ 0) (f32 : 1 * x7 + (1 * cur_1 + 0) ≤ 2010) (f33 : (-1) * x7 + ((-1) * cur_1 + 0) ≤ (-2010)) (fe_0_8_1 : fault_0 = fault_1) (fe_0_10_1 : limit_0 = limit_1) (fe_0_157_1 : tokens_0 = tokens_1) (fe_0_158_1 : cur_0 = x18) (fe_0_159_1 : opened_0 = opened_1) (fe_0_164_1 : styleKind_0 = styleKind_1) (fe_0_165_1 : styleOne_0 = styleOne_1) (hE_0_1_1 : ∀ j : Int, tape_0 j = tape_1 j) (hK_0_1 : ∀ j : Int, 0 ≤ j → j < 2000 → (-128) ≤ tape_0 j ∧ tape_0 j ≤ 127) (hE_0_160_1 : ∀ j : Int, tokenKind_0 j = tokenKind_1 j) (hK_0_160 : ∀ j : Int, 0 ≤ j → j < 2010 → 0 ≤ tokenKind_0 j ∧ tokenKind_0 j ≤ 4) (hE_0_161_1 : ∀ j : Int, tokenValue_0 j = tokenValue_1 j) (hE_0_162_1 : ∀ j : Int, tokenPlace_0 j = tokenPlace_1 j) (hK_0_162 : ∀ j : Int, 0 ≤ j → j < 2010 → 0 ≤ tokenPlace_0 j ∧ tokenPlace_0 j ≤ 2000) (hE_0_163_1 : ∀ j : Int, tokenEnd_0 j = tokenEnd_1 j) (hK_0_163 : ∀ j : Int, 0 ≤ j → j < 2010 → 0 ≤ tokenEnd_0 j ∧ tokenEnd_0 j ≤ 2000) (kz_0_8 : 0 ≤ fault_0 ∧ fault_0 ≤ 5) (kz_0_10 : 0 ≤ limit_0 ∧ limit_0 ≤ 2000) (kz_0_157 : 0 ≤ tokens_0 ∧ tokens_0 ≤ 2010) (kz_0_158 : 0 ≤ cur_0 ∧ cur_0 ≤ 2009) (kz_0_159 : 0 ≤ opened_0 ∧ opened_0 ≤ 13) (kz_0_164 : 0 ≤ styleKind_0 ∧ styleKind_0 ≤ 1) (kz_0_165 : (-1) ≤ styleOne_0 ∧ styleOne_0 ≤ 47) (ex2 : gx = cur_0) (ex3 : 0 ≤ gx ∧ gx ≤ 2009) (ey2 : gy = fault_0) (ey3 : 0 ≤ gy ∧ gy ≤ 5) (eu2 : gu = opened_0) (eu3 : 0 ≤ gu ∧ gu ≤ 13) : fault_0 = gy := by
  subst fe_0_8_1
  subst fe_0_10_1
  subst fe_0_157_1
  subst fe_0_159_1
  subst fe_0_164_1
  subst fe_0_165_1
  have e_hE_0_1_1 := funext hE_0_1_1; subst e_hE_0_1_1
  have e_hE_0_160_1 := funext hE_0_160_1; subst e_hE_0_160_1
  have e_hE_0_161_1 := funext hE_0_161_1; subst e_hE_0_161_1
  have e_hE_0_162_1 := funext hE_0_162_1; subst e_hE_0_162_1
  have e_hE_0_163_1 := funext hE_0_163_1; subst e_hE_0_163_1
  first | assumption | (clear f4 f13 f17 f21 f24 f26 hE_0_1_1 hK_0_1 hE_0_160_1 hK_0_160 hE_0_161_1 hE_0_162_1 hK_0_162 hE_0_163_1 hK_0_163; omega) | (clear hE_0_1_1 hK_0_1 hE_0_160_1 hK_0_160 hE_0_161_1 hE_0_162_1 hK_0_162 hE_0_163_1 hK_0_163; grind) | omega | grind
set_option maxHeartbeats 4000000 in
theorem vc_Mo_product_at_f0_7_7 (x1 : Int) (x2 : Int) (x3 : Int) (x6 : Int) (x7 : Int) (x8 : Int) (x9 : Int) (x10 : Int) (x11 : Int) (x12 : Int) (x13 : Int) (x14 : Int) (x15 : Int) (x16 : Int) (x17 : Int) (x18 : Int) (cur_0 : Int) (fault_0 : Int) (styleKind_0 : Int) (styleOne_0 : Int) (opened_0 : Int) (cur_1 : Int) (tokenKind_1 : Int → Int) (tokenValue_1 : Int → Int) (fault_1 : Int) (tokens_1 : Int) (styleKind_1 : Int) (styleOne_1 : Int) (opened_1 : Int) (tokenPlace_1 : Int → Int) (tokenEnd_1 : Int → Int) (tape_1 : Int → Int) (limit_1 : Int) (limit_0 : Int) (tokens_0 : Int) (tape_0 : Int → Int) (tokenKind_0 : Int → Int) (tokenValue_0 : Int → Int) (tokenPlace_0 : Int → Int) (tokenEnd_0 : Int → Int) (gx : Int) (gy : Int) (gu : Int) (k1 : 0 ≤ x1 ∧ x1 ≤ 2009) (k2 : 0 ≤ x2 ∧ x2 ≤ 5) (k3 : 0 ≤ x3 ∧ x3 ≤ 13) (k6 : 0 ≤ x6 ∧ x6 ≤ 2009) (k7 : 0 ≤ x7 ∧ x7 ≤ 2010) (k8 : 42 ≤ x8 ∧ x8 ≤ 42) (k9 : 0 ≤ x9 ∧ x9 ≤ 5) (k10 : 0 ≤ x10 ∧ x10 ≤ 0) (k11 : 47 ≤ x11 ∧ x11 ≤ 47) (k12 : 0 ≤ x12 ∧ x12 ≤ 5) (k13 : 1 ≤ x13 ∧ x13 ≤ 1) (k14 : 42 ≤ x14 ∧ x14 ≤ 42) (k15 : 0 ≤ x15 ∧ x15 ≤ 5) (k16 : 0 ≤ x16 ∧ x16 ≤ 0) (k17 : 1 ≤ x17 ∧ x17 ≤ 1) (k18 : 1 ≤ x18 ∧ x18 ≤ 2009) (d0 : x6 + 1 ≤ x18 ∧ x18 ≤ x6 + 1) (g0 : x18 = cur_0) (f1 : fault_0 = x15) (f2 : fault_0 = x12) (f3 : fault_0 = x9) (f4 : (styleKind_0 = 0) → (styleOne_0 ≤ 23)) (f5 : 1 * opened_0 + 0 ≤ 0) (f6 : (-1) * opened_0 + 0 ≤ 0) (f7 : 1 * x3 + 0 ≤ 0) (f8 : (-1) * x3 + 0 ≤ 0) (f11 : x18 = x6 + x17) (g12 : x6 = cur_1) (f13 : (x16 = 1) → (tokenKind_1 (cur_1) = 3)) (f14 : SGN (cur_1) (tokenKind_1) (tokenValue_1) (x14) (x16) (x15)) (f15 : fault_1 = x15) (f16 : x13 ≠ 0) (f17 : (x13 = 1) → (tokenKind_1 (cur_1) = 3)) (f18 : SGN (cur_1) (tokenKind_1) (tokenValue_1) (x11) (x13) (x12)) (f19 : fault_1 = x12) (f20 : x10 = 0) (f21 : (x10 = 1) → (tokenKind_1 (cur_1) = 3)) (f22 : SGN (cur_1) (tokenKind_1) (tokenValue_1) (x8) (x10) (x9)) (f23 : fault_1 = x9) (f24 : ((cur_1 + 1) ≤ tokens_1) ∧ ((tokens_1 ≤ 2010) ∧ ((tokenKind_1 ((tokens_1 - 1)) = 0) ∨ (tokenKind_1 ((tokens_1 - 1)) = 4)))) (f25 : 1 * x1 + ((-1) * cur_1 + 0) ≤ 0) (f26 : (styleKind_1 = 0) → (styleOne_1 ≤ 23)) (f27 : 1 * opened_1 + 0 ≤ 0) (f28 : (-1) * opened_1 + 0 ≤ 0) (f29 : SPWv (fault_1) (cur_1) (styleKind_1) (limit_1) (tokenKind_1) (tokenValue_1) (tokenPlace_1) (tokenEnd_1) (tape_1) (x1) (x2) (x3)) (f30 : 1 * x3 + 0 ≤ 0) (f31 : (-1) * x3 + 0 ≤ 0) (f32 : 1 * x7 + (1 * cur_1 + 0) ≤ 2010) (f33 : (-1) * x7 + ((-1) * cur_1 + 0) ≤ (-2010)) (fe_0_8_1 : fault_0 = fault_1) (fe_0_10_1 : limit_0 = limit_1) (fe_0_157_1 : tokens_0 = tokens_1) (fe_0_158_1 : cur_0 = x18) (fe_0_159_1 : opened_0 = opened_1) (fe_0_164_1 : styleKind_0 = styleKind_1) (fe_0_165_1 : styleOne_0 = styleOne_1) (hE_0_1_1 : ∀ j : Int, tape_0 j = tape_1 j) (hK_0_1 : ∀ j : Int, 0 ≤ j → j < 2000 → (-128) ≤ tape_0 j ∧ tape_0 j ≤ 127) (hE_0_160_1 : ∀ j : Int, tokenKind_0 j = tokenKind_1 j) (hK_0_160 : ∀ j : Int, 0 ≤ j → j < 2010 → 0 ≤ tokenKind_0 j ∧ tokenKind_0 j ≤ 4) (hE_0_161_1 : ∀ j : Int, tokenValue_0 j = tokenValue_1 j) (hE_0_162_1 : ∀ j : Int, tokenPlace_0 j = tokenPlace_1 j) (hK_0_162 : ∀ j : Int, 0 ≤ j → j < 2010 → 0 ≤ tokenPlace_0 j ∧ tokenPlace_0 j ≤ 2000) (hE_0_163_1 : ∀ j : Int, tokenEnd_0 j = tokenEnd_1 j) (hK_0_163 : ∀ j : Int, 0 ≤ j → j < 2010 → 0 ≤ tokenEnd_0 j ∧ tokenEnd_0 j ≤ 2000) (kz_0_8 : 0 ≤ fault_0 ∧ fault_0 ≤ 5) (kz_0_10 : 0 ≤ limit_0 ∧ limit_0 ≤ 2000) (kz_0_157 : 0 ≤ tokens_0 ∧ tokens_0 ≤ 2010) (kz_0_158 : 0 ≤ cur_0 ∧ cur_0 ≤ 2009) (kz_0_159 : 0 ≤ opened_0 ∧ opened_0 ≤ 13) (kz_0_164 : 0 ≤ styleKind_0 ∧ styleKind_0 ≤ 1) (kz_0_165 : (-1) ≤ styleOne_0 ∧ styleOne_0 ≤ 47) (ex2 : gx = cur_0) (ex3 : 0 ≤ gx ∧ gx ≤ 2009) (ey2 : gy = fault_0) (ey3 : 0 ≤ gy ∧ gy ≤ 5) (eu2 : gu = opened_0) (eu3 : 0 ≤ gu ∧ gu ≤ 13) : opened_0 = gu := by
  subst fe_0_8_1
  subst fe_0_10_1
  subst fe_0_157_1
  subst fe_0_159_1
  subst fe_0_164_1
  subst fe_0_165_1
  have e_hE_0_1_1 := funext hE_0_1_1; subst e_hE_0_1_1
  have e_hE_0_160_1 := funext hE_0_160_1; subst e_hE_0_160_1
  have e_hE_0_161_1 := funext hE_0_161_1; subst e_hE_0_161_1
  have e_hE_0_162_1 := funext hE_0_162_1; subst e_hE_0_162_1
  have e_hE_0_163_1 := funext hE_0_163_1; subst e_hE_0_163_1
  first | assumption | (clear f4 f13 f17 f21 f24 f26 hE_0_1_1 hK_0_1 hE_0_160_1 hK_0_160 hE_0_161_1 hE_0_162_1 hK_0_162 hE_0_163_1 hK_0_163; omega) | (clear hE_0_1_1 hK_0_1 hE_0_160_1 hK_0_160 hE_0_161_1 hE_0_162_1 hK_0_162 hE_0_163_1 hK_0_163; grind) | omega | grind
set_option maxHeartbeats 4000000 in
theorem vc_Mo_product_at_f0_7_8 (x1 : Int) (x2 : Int) (x3 : Int) (x6 : Int) (x7 : Int) (x8 : Int) (x9 : Int) (x10 : Int) (x11 : Int) (x12 : Int) (x13 : Int) (x14 : Int) (x15 : Int) (x16 : Int) (x17 : Int) (x18 : Int) (cur_0 : Int) (fault_0 : Int) (styleKind_0 : Int) (styleOne_0 : Int) (opened_0 : Int) (cur_1 : Int) (tokenKind_1 : Int → Int) (tokenValue_1 : Int → Int) (fault_1 : Int) (tokens_1 : Int) (styleKind_1 : Int) (styleOne_1 : Int) (opened_1 : Int) (tokenPlace_1 : Int → Int) (tokenEnd_1 : Int → Int) (tape_1 : Int → Int) (limit_1 : Int) (limit_0 : Int) (tokens_0 : Int) (tape_0 : Int → Int) (tokenKind_0 : Int → Int) (tokenValue_0 : Int → Int) (tokenPlace_0 : Int → Int) (tokenEnd_0 : Int → Int) (gx : Int) (gy : Int) (gu : Int) (k1 : 0 ≤ x1 ∧ x1 ≤ 2009) (k2 : 0 ≤ x2 ∧ x2 ≤ 5) (k3 : 0 ≤ x3 ∧ x3 ≤ 13) (k6 : 0 ≤ x6 ∧ x6 ≤ 2009) (k7 : 0 ≤ x7 ∧ x7 ≤ 2010) (k8 : 42 ≤ x8 ∧ x8 ≤ 42) (k9 : 0 ≤ x9 ∧ x9 ≤ 5) (k10 : 0 ≤ x10 ∧ x10 ≤ 0) (k11 : 47 ≤ x11 ∧ x11 ≤ 47) (k12 : 0 ≤ x12 ∧ x12 ≤ 5) (k13 : 1 ≤ x13 ∧ x13 ≤ 1) (k14 : 42 ≤ x14 ∧ x14 ≤ 42) (k15 : 0 ≤ x15 ∧ x15 ≤ 5) (k16 : 0 ≤ x16 ∧ x16 ≤ 0) (k17 : 1 ≤ x17 ∧ x17 ≤ 1) (k18 : 1 ≤ x18 ∧ x18 ≤ 2009) (d0 : x6 + 1 ≤ x18 ∧ x18 ≤ x6 + 1) (g0 : x18 = cur_0) (f1 : fault_0 = x15) (f2 : fault_0 = x12) (f3 : fault_0 = x9) (f4 : (styleKind_0 = 0) → (styleOne_0 ≤ 23)) (f5 : 1 * opened_0 + 0 ≤ 0) (f6 : (-1) * opened_0 + 0 ≤ 0) (f7 : 1 * x3 + 0 ≤ 0) (f8 : (-1) * x3 + 0 ≤ 0) (f11 : x18 = x6 + x17) (g12 : x6 = cur_1) (f13 : (x16 = 1) → (tokenKind_1 (cur_1) = 3)) (f14 : SGN (cur_1) (tokenKind_1) (tokenValue_1) (x14) (x16) (x15)) (f15 : fault_1 = x15) (f16 : x13 ≠ 0) (f17 : (x13 = 1) → (tokenKind_1 (cur_1) = 3)) (f18 : SGN (cur_1) (tokenKind_1) (tokenValue_1) (x11) (x13) (x12)) (f19 : fault_1 = x12) (f20 : x10 = 0) (f21 : (x10 = 1) → (tokenKind_1 (cur_1) = 3)) (f22 : SGN (cur_1) (tokenKind_1) (tokenValue_1) (x8) (x10) (x9)) (f23 : fault_1 = x9) (f24 : ((cur_1 + 1) ≤ tokens_1) ∧ ((tokens_1 ≤ 2010) ∧ ((tokenKind_1 ((tokens_1 - 1)) = 0) ∨ (tokenKind_1 ((tokens_1 - 1)) = 4)))) (f25 : 1 * x1 + ((-1) * cur_1 + 0) ≤ 0) (f26 : (styleKind_1 = 0) → (styleOne_1 ≤ 23)) (f27 : 1 * opened_1 + 0 ≤ 0) (f28 : (-1) * opened_1 + 0 ≤ 0) (f29 : SPWv (fault_1) (cur_1) (styleKind_1) (limit_1) (tokenKind_1) (tokenValue_1) (tokenPlace_1) (tokenEnd_1) (tape_1) (x1) (x2) (x3)) (f30 : 1 * x3 + 0 ≤ 0) (f31 : (-1) * x3 + 0 ≤ 0) (f32 : 1 * x7 + (1 * cur_1 + 0) ≤ 2010) (f33 : (-1) * x7 + ((-1) * cur_1 + 0) ≤ (-2010)) (fe_0_8_1 : fault_0 = fault_1) (fe_0_10_1 : limit_0 = limit_1) (fe_0_157_1 : tokens_0 = tokens_1) (fe_0_158_1 : cur_0 = x18) (fe_0_159_1 : opened_0 = opened_1) (fe_0_164_1 : styleKind_0 = styleKind_1) (fe_0_165_1 : styleOne_0 = styleOne_1) (hE_0_1_1 : ∀ j : Int, tape_0 j = tape_1 j) (hK_0_1 : ∀ j : Int, 0 ≤ j → j < 2000 → (-128) ≤ tape_0 j ∧ tape_0 j ≤ 127) (hE_0_160_1 : ∀ j : Int, tokenKind_0 j = tokenKind_1 j) (hK_0_160 : ∀ j : Int, 0 ≤ j → j < 2010 → 0 ≤ tokenKind_0 j ∧ tokenKind_0 j ≤ 4) (hE_0_161_1 : ∀ j : Int, tokenValue_0 j = tokenValue_1 j) (hE_0_162_1 : ∀ j : Int, tokenPlace_0 j = tokenPlace_1 j) (hK_0_162 : ∀ j : Int, 0 ≤ j → j < 2010 → 0 ≤ tokenPlace_0 j ∧ tokenPlace_0 j ≤ 2000) (hE_0_163_1 : ∀ j : Int, tokenEnd_0 j = tokenEnd_1 j) (hK_0_163 : ∀ j : Int, 0 ≤ j → j < 2010 → 0 ≤ tokenEnd_0 j ∧ tokenEnd_0 j ≤ 2000) (kz_0_8 : 0 ≤ fault_0 ∧ fault_0 ≤ 5) (kz_0_10 : 0 ≤ limit_0 ∧ limit_0 ≤ 2000) (kz_0_157 : 0 ≤ tokens_0 ∧ tokens_0 ≤ 2010) (kz_0_158 : 0 ≤ cur_0 ∧ cur_0 ≤ 2009) (kz_0_159 : 0 ≤ opened_0 ∧ opened_0 ≤ 13) (kz_0_164 : 0 ≤ styleKind_0 ∧ styleKind_0 ≤ 1) (kz_0_165 : (-1) ≤ styleOne_0 ∧ styleOne_0 ≤ 47) (ex2 : gx = cur_0) (ex3 : 0 ≤ gx ∧ gx ≤ 2009) (ey2 : gy = fault_0) (ey3 : 0 ≤ gy ∧ gy ≤ 5) (eu2 : gu = opened_0) (eu3 : 0 ≤ gu ∧ gu ≤ 13) : 1 * x1 + ((-1) * gx + 0) ≤ 0 := by
  subst fe_0_8_1
  subst fe_0_10_1
  subst fe_0_157_1
  subst fe_0_159_1
  subst fe_0_164_1
  subst fe_0_165_1
  have e_hE_0_1_1 := funext hE_0_1_1; subst e_hE_0_1_1
  have e_hE_0_160_1 := funext hE_0_160_1; subst e_hE_0_160_1
  have e_hE_0_161_1 := funext hE_0_161_1; subst e_hE_0_161_1
  have e_hE_0_162_1 := funext hE_0_162_1; subst e_hE_0_162_1
  have e_hE_0_163_1 := funext hE_0_163_1; subst e_hE_0_163_1
  first | assumption | (clear f4 f13 f17 f21 f24 f26 hE_0_1_1 hK_0_1 hE_0_160_1 hK_0_160 hE_0_161_1 hE_0_162_1 hK_0_162 hE_0_163_1 hK_0_163; omega) | (clear hE_0_1_1 hK_0_1 hE_0_160_1 hK_0_160 hE_0_161_1 hE_0_162_1 hK_0_162 hE_0_163_1 hK_0_163; grind) | omega | grind
set_option maxHeartbeats 4000000 in
theorem vc_Mo_product_at_f0_7_9 (x1 : Int) (x2 : Int) (x3 : Int) (x6 : Int) (x7 : Int) (x8 : Int) (x9 : Int) (x10 : Int) (x11 : Int) (x12 : Int) (x13 : Int) (x14 : Int) (x15 : Int) (x16 : Int) (x17 : Int) (x18 : Int) (cur_0 : Int) (fault_0 : Int) (styleKind_0 : Int) (styleOne_0 : Int) (opened_0 : Int) (cur_1 : Int) (tokenKind_1 : Int → Int) (tokenValue_1 : Int → Int) (fault_1 : Int) (tokens_1 : Int) (styleKind_1 : Int) (styleOne_1 : Int) (opened_1 : Int) (tokenPlace_1 : Int → Int) (tokenEnd_1 : Int → Int) (tape_1 : Int → Int) (limit_1 : Int) (limit_0 : Int) (tokens_0 : Int) (tape_0 : Int → Int) (tokenKind_0 : Int → Int) (tokenValue_0 : Int → Int) (tokenPlace_0 : Int → Int) (tokenEnd_0 : Int → Int) (gx : Int) (gy : Int) (gu : Int) (k1 : 0 ≤ x1 ∧ x1 ≤ 2009) (k2 : 0 ≤ x2 ∧ x2 ≤ 5) (k3 : 0 ≤ x3 ∧ x3 ≤ 13) (k6 : 0 ≤ x6 ∧ x6 ≤ 2009) (k7 : 0 ≤ x7 ∧ x7 ≤ 2010) (k8 : 42 ≤ x8 ∧ x8 ≤ 42) (k9 : 0 ≤ x9 ∧ x9 ≤ 5) (k10 : 0 ≤ x10 ∧ x10 ≤ 0) (k11 : 47 ≤ x11 ∧ x11 ≤ 47) (k12 : 0 ≤ x12 ∧ x12 ≤ 5) (k13 : 1 ≤ x13 ∧ x13 ≤ 1) (k14 : 42 ≤ x14 ∧ x14 ≤ 42) (k15 : 0 ≤ x15 ∧ x15 ≤ 5) (k16 : 0 ≤ x16 ∧ x16 ≤ 0) (k17 : 1 ≤ x17 ∧ x17 ≤ 1) (k18 : 1 ≤ x18 ∧ x18 ≤ 2009) (d0 : x6 + 1 ≤ x18 ∧ x18 ≤ x6 + 1) (g0 : x18 = cur_0) (f1 : fault_0 = x15) (f2 : fault_0 = x12) (f3 : fault_0 = x9) (f4 : (styleKind_0 = 0) → (styleOne_0 ≤ 23)) (f5 : 1 * opened_0 + 0 ≤ 0) (f6 : (-1) * opened_0 + 0 ≤ 0) (f7 : 1 * x3 + 0 ≤ 0) (f8 : (-1) * x3 + 0 ≤ 0) (f11 : x18 = x6 + x17) (g12 : x6 = cur_1) (f13 : (x16 = 1) → (tokenKind_1 (cur_1) = 3)) (f14 : SGN (cur_1) (tokenKind_1) (tokenValue_1) (x14) (x16) (x15)) (f15 : fault_1 = x15) (f16 : x13 ≠ 0) (f17 : (x13 = 1) → (tokenKind_1 (cur_1) = 3)) (f18 : SGN (cur_1) (tokenKind_1) (tokenValue_1) (x11) (x13) (x12)) (f19 : fault_1 = x12) (f20 : x10 = 0) (f21 : (x10 = 1) → (tokenKind_1 (cur_1) = 3)) (f22 : SGN (cur_1) (tokenKind_1) (tokenValue_1) (x8) (x10) (x9)) (f23 : fault_1 = x9) (f24 : ((cur_1 + 1) ≤ tokens_1) ∧ ((tokens_1 ≤ 2010) ∧ ((tokenKind_1 ((tokens_1 - 1)) = 0) ∨ (tokenKind_1 ((tokens_1 - 1)) = 4)))) (f25 : 1 * x1 + ((-1) * cur_1 + 0) ≤ 0) (f26 : (styleKind_1 = 0) → (styleOne_1 ≤ 23)) (f27 : 1 * opened_1 + 0 ≤ 0) (f28 : (-1) * opened_1 + 0 ≤ 0) (f29 : SPWv (fault_1) (cur_1) (styleKind_1) (limit_1) (tokenKind_1) (tokenValue_1) (tokenPlace_1) (tokenEnd_1) (tape_1) (x1) (x2) (x3)) (f30 : 1 * x3 + 0 ≤ 0) (f31 : (-1) * x3 + 0 ≤ 0) (f32 : 1 * x7 + (1 * cur_1 + 0) ≤ 2010) (f33 : (-1) * x7 + ((-1) * cur_1 + 0) ≤ (-2010)) (fe_0_8_1 : fault_0 = fault_1) (fe_0_10_1 : limit_0 = limit_1) (fe_0_157_1 : tokens_0 = tokens_1) (fe_0_158_1 : cur_0 = x18) (fe_0_159_1 : opened_0 = opened_1) (fe_0_164_1 : styleKind_0 = styleKind_1) (fe_0_165_1 : styleOne_0 = styleOne_1) (hE_0_1_1 : ∀ j : Int, tape_0 j = tape_1 j) (hK_0_1 : ∀ j : Int, 0 ≤ j → j < 2000 → (-128) ≤ tape_0 j ∧ tape_0 j ≤ 127) (hE_0_160_1 : ∀ j : Int, tokenKind_0 j = tokenKind_1 j) (hK_0_160 : ∀ j : Int, 0 ≤ j → j < 2010 → 0 ≤ tokenKind_0 j ∧ tokenKind_0 j ≤ 4) (hE_0_161_1 : ∀ j : Int, tokenValue_0 j = tokenValue_1 j) (hE_0_162_1 : ∀ j : Int, tokenPlace_0 j = tokenPlace_1 j) (hK_0_162 : ∀ j : Int, 0 ≤ j → j < 2010 → 0 ≤ tokenPlace_0 j ∧ tokenPlace_0 j ≤ 2000) (hE_0_163_1 : ∀ j : Int, tokenEnd_0 j = tokenEnd_1 j) (hK_0_163 : ∀ j : Int, 0 ≤ j → j < 2010 → 0 ≤ tokenEnd_0 j ∧ tokenEnd_0 j ≤ 2000) (kz_0_8 : 0 ≤ fault_0 ∧ fault_0 ≤ 5) (kz_0_10 : 0 ≤ limit_0 ∧ limit_0 ≤ 2000) (kz_0_157 : 0 ≤ tokens_0 ∧ tokens_0 ≤ 2010) (kz_0_158 : 0 ≤ cur_0 ∧ cur_0 ≤ 2009) (kz_0_159 : 0 ≤ opened_0 ∧ opened_0 ≤ 13) (kz_0_164 : 0 ≤ styleKind_0 ∧ styleKind_0 ≤ 1) (kz_0_165 : (-1) ≤ styleOne_0 ∧ styleOne_0 ≤ 47) (ex2 : gx = cur_0) (ex3 : 0 ≤ gx ∧ gx ≤ 2009) (ey2 : gy = fault_0) (ey3 : 0 ≤ gy ∧ gy ≤ 5) (eu2 : gu = opened_0) (eu3 : 0 ≤ gu ∧ gu ≤ 13) : (-1) * x7 + ((-1) * gx + 0) ≤ (-2011) := by
  subst fe_0_8_1
  subst fe_0_10_1
  subst fe_0_157_1
  subst fe_0_159_1
  subst fe_0_164_1
  subst fe_0_165_1
  have e_hE_0_1_1 := funext hE_0_1_1; subst e_hE_0_1_1
  have e_hE_0_160_1 := funext hE_0_160_1; subst e_hE_0_160_1
  have e_hE_0_161_1 := funext hE_0_161_1; subst e_hE_0_161_1
  have e_hE_0_162_1 := funext hE_0_162_1; subst e_hE_0_162_1
  have e_hE_0_163_1 := funext hE_0_163_1; subst e_hE_0_163_1
  first | assumption | (clear f4 f13 f17 f21 f24 f26 hE_0_1_1 hK_0_1 hE_0_160_1 hK_0_160 hE_0_161_1 hE_0_162_1 hK_0_162 hE_0_163_1 hK_0_163; omega) | (clear hE_0_1_1 hK_0_1 hE_0_160_1 hK_0_160 hE_0_161_1 hE_0_162_1 hK_0_162 hE_0_163_1 hK_0_163; grind) | omega | grind
set_option maxHeartbeats 4000000 in
theorem vc_Mo_product_at_f0_7_10 (x1 : Int) (x2 : Int) (x3 : Int) (x6 : Int) (x8 : Int) (x9 : Int) (x10 : Int) (x11 : Int) (x12 : Int) (x13 : Int) (x18 : Int) (cur_0 : Int) (fault_0 : Int) (styleKind_0 : Int) (styleOne_0 : Int) (opened_0 : Int) (cur_1 : Int) (tokenKind_1 : Int → Int) (tokenValue_1 : Int → Int) (fault_1 : Int) (tokens_1 : Int) (styleKind_1 : Int) (styleOne_1 : Int) (opened_1 : Int) (tokenPlace_1 : Int → Int) (tokenEnd_1 : Int → Int) (tape_1 : Int → Int) (limit_1 : Int) (limit_0 : Int) (tokens_0 : Int) (tape_0 : Int → Int) (tokenKind_0 : Int → Int) (tokenValue_0 : Int → Int) (tokenPlace_0 : Int → Int) (tokenEnd_0 : Int → Int) (gx : Int) (gy : Int) (k1 : 0 ≤ x1 ∧ x1 ≤ 2009) (k2 : 0 ≤ x2 ∧ x2 ≤ 5) (k3 : 0 ≤ x3 ∧ x3 ≤ 13) (k6 : 0 ≤ x6 ∧ x6 ≤ 2009) (k11 : 47 ≤ x11 ∧ x11 ≤ 47) (k12 : 0 ≤ x12 ∧ x12 ≤ 5) (k13 : 1 ≤ x13 ∧ x13 ≤ 1) (k18 : 1 ≤ x18 ∧ x18 ≤ 2009) (d0 : x6 + 1 ≤ x18 ∧ x18 ≤ x6 + 1) (g0 : x18 = cur_0) (f2 : fault_0 = x12) (g12 : x6 = cur_1) (f16 : x13 ≠ 0) (f18 : SGN (cur_1) (tokenKind_1) (tokenValue_1) (x11) (x13) (x12)) (f29 : SPWv (fault_1) (cur_1) (styleKind_1) (limit_1) (tokenKind_1) (tokenValue_1) (tokenPlace_1) (tokenEnd_1) (tape_1) (x1) (x2) (x3)) (fe_0_8_1 : fault_0 = fault_1) (fe_0_10_1 : limit_0 = limit_1) (fe_0_157_1 : tokens_0 = tokens_1) (fe_0_159_1 : opened_0 = opened_1) (fe_0_164_1 : styleKind_0 = styleKind_1) (fe_0_165_1 : styleOne_0 = styleOne_1) (hE_0_1_1 : ∀ j : Int, tape_0 j = tape_1 j) (hE_0_160_1 : ∀ j : Int, tokenKind_0 j = tokenKind_1 j) (hE_0_161_1 : ∀ j : Int, tokenValue_0 j = tokenValue_1 j) (hE_0_162_1 : ∀ j : Int, tokenPlace_0 j = tokenPlace_1 j) (hE_0_163_1 : ∀ j : Int, tokenEnd_0 j = tokenEnd_1 j) (kz_0_8 : 0 ≤ fault_0 ∧ fault_0 ≤ 5) (kz_0_10 : 0 ≤ limit_0 ∧ limit_0 ≤ 2000) (kz_0_157 : 0 ≤ tokens_0 ∧ tokens_0 ≤ 2010) (kz_0_158 : 0 ≤ cur_0 ∧ cur_0 ≤ 2009) (kz_0_159 : 0 ≤ opened_0 ∧ opened_0 ≤ 13) (kz_0_164 : 0 ≤ styleKind_0 ∧ styleKind_0 ≤ 1) (kz_0_165 : (-1) ≤ styleOne_0 ∧ styleOne_0 ≤ 47) (ex2 : gx = cur_0) (ey2 : gy = fault_0) : GPW (styleKind_0) (limit_0) (tokenKind_0) (tokenValue_0) (tokenPlace_0) (tokenEnd_0) (tape_0) (gx) (gy) (x1) (x2) (x3) := by
  subst fe_0_8_1
  subst fe_0_10_1
  subst fe_0_157_1
  subst fe_0_159_1
  subst fe_0_164_1
  subst fe_0_165_1
  have e_hE_0_1_1 := funext hE_0_1_1; subst e_hE_0_1_1
  have e_hE_0_160_1 := funext hE_0_160_1; subst e_hE_0_160_1
  have e_hE_0_161_1 := funext hE_0_161_1; subst e_hE_0_161_1
  have e_hE_0_162_1 := funext hE_0_162_1; subst e_hE_0_162_1
  have e_hE_0_163_1 := funext hE_0_163_1; subst e_hE_0_163_1
  first
    | (have h := sgn_y (show SGN _ _ _ x8 x10 x9 by assumption) (by omega) (by omega) (by omega) (show x8 = 42 by omega)
       have h1 := h.1
       exact gpw_of (‹SPWv _ _ _ _ _ _ _ _ _ _ _ _›) (by omega) (Or.inl h.2) (by omega) (by omega))
    | (have h := sgn_y (show SGN _ _ _ x11 x13 x12 by assumption) (by omega) (by omega) (by omega) (show x11 = 47 by omega)
       have h1 := h.1
       exact gpw_of (‹SPWv _ _ _ _ _ _ _ _ _ _ _ _›) (by omega) (Or.inr h.2) (by omega) (by omega))
  
set_option maxHeartbeats 4000000 in
theorem vc_Mo_product_at_f0_7_11 (x1 : Int) (x2 : Int) (x3 : Int) (x6 : Int) (x7 : Int) (x8 : Int) (x9 : Int) (x10 : Int) (x11 : Int) (x12 : Int) (x13 : Int) (x14 : Int) (x15 : Int) (x16 : Int) (x17 : Int) (x18 : Int) (cur_0 : Int) (fault_0 : Int) (styleKind_0 : Int) (styleOne_0 : Int) (opened_0 : Int) (cur_1 : Int) (tokenKind_1 : Int → Int) (tokenValue_1 : Int → Int) (fault_1 : Int) (tokens_1 : Int) (styleKind_1 : Int) (styleOne_1 : Int) (opened_1 : Int) (tokenPlace_1 : Int → Int) (tokenEnd_1 : Int → Int) (tape_1 : Int → Int) (limit_1 : Int) (limit_0 : Int) (tokens_0 : Int) (tape_0 : Int → Int) (tokenKind_0 : Int → Int) (tokenValue_0 : Int → Int) (tokenPlace_0 : Int → Int) (tokenEnd_0 : Int → Int) (gx : Int) (gy : Int) (gu : Int) (k1 : 0 ≤ x1 ∧ x1 ≤ 2009) (k2 : 0 ≤ x2 ∧ x2 ≤ 5) (k3 : 0 ≤ x3 ∧ x3 ≤ 13) (k6 : 0 ≤ x6 ∧ x6 ≤ 2009) (k7 : 0 ≤ x7 ∧ x7 ≤ 2010) (k8 : 42 ≤ x8 ∧ x8 ≤ 42) (k9 : 0 ≤ x9 ∧ x9 ≤ 5) (k10 : 0 ≤ x10 ∧ x10 ≤ 0) (k11 : 47 ≤ x11 ∧ x11 ≤ 47) (k12 : 0 ≤ x12 ∧ x12 ≤ 5) (k13 : 1 ≤ x13 ∧ x13 ≤ 1) (k14 : 42 ≤ x14 ∧ x14 ≤ 42) (k15 : 0 ≤ x15 ∧ x15 ≤ 5) (k16 : 0 ≤ x16 ∧ x16 ≤ 0) (k17 : 1 ≤ x17 ∧ x17 ≤ 1) (k18 : 1 ≤ x18 ∧ x18 ≤ 2009) (d0 : x6 + 1 ≤ x18 ∧ x18 ≤ x6 + 1) (g0 : x18 = cur_0) (f1 : fault_0 = x15) (f2 : fault_0 = x12) (f3 : fault_0 = x9) (f4 : (styleKind_0 = 0) → (styleOne_0 ≤ 23)) (f5 : 1 * opened_0 + 0 ≤ 0) (f6 : (-1) * opened_0 + 0 ≤ 0) (f7 : 1 * x3 + 0 ≤ 0) (f8 : (-1) * x3 + 0 ≤ 0) (f11 : x18 = x6 + x17) (g12 : x6 = cur_1) (f13 : (x16 = 1) → (tokenKind_1 (cur_1) = 3)) (f14 : SGN (cur_1) (tokenKind_1) (tokenValue_1) (x14) (x16) (x15)) (f15 : fault_1 = x15) (f16 : x13 ≠ 0) (f17 : (x13 = 1) → (tokenKind_1 (cur_1) = 3)) (f18 : SGN (cur_1) (tokenKind_1) (tokenValue_1) (x11) (x13) (x12)) (f19 : fault_1 = x12) (f20 : x10 = 0) (f21 : (x10 = 1) → (tokenKind_1 (cur_1) = 3)) (f22 : SGN (cur_1) (tokenKind_1) (tokenValue_1) (x8) (x10) (x9)) (f23 : fault_1 = x9) (f24 : ((cur_1 + 1) ≤ tokens_1) ∧ ((tokens_1 ≤ 2010) ∧ ((tokenKind_1 ((tokens_1 - 1)) = 0) ∨ (tokenKind_1 ((tokens_1 - 1)) = 4)))) (f25 : 1 * x1 + ((-1) * cur_1 + 0) ≤ 0) (f26 : (styleKind_1 = 0) → (styleOne_1 ≤ 23)) (f27 : 1 * opened_1 + 0 ≤ 0) (f28 : (-1) * opened_1 + 0 ≤ 0) (f29 : SPWv (fault_1) (cur_1) (styleKind_1) (limit_1) (tokenKind_1) (tokenValue_1) (tokenPlace_1) (tokenEnd_1) (tape_1) (x1) (x2) (x3)) (f30 : 1 * x3 + 0 ≤ 0) (f31 : (-1) * x3 + 0 ≤ 0) (f32 : 1 * x7 + (1 * cur_1 + 0) ≤ 2010) (f33 : (-1) * x7 + ((-1) * cur_1 + 0) ≤ (-2010)) (fe_0_8_1 : fault_0 = fault_1) (fe_0_10_1 : limit_0 = limit_1) (fe_0_157_1 : tokens_0 = tokens_1) (fe_0_158_1 : cur_0 = x18) (fe_0_159_1 : opened_0 = opened_1) (fe_0_164_1 : styleKind_0 = styleKind_1) (fe_0_165_1 : styleOne_0 = styleOne_1) (hE_0_1_1 : ∀ j : Int, tape_0 j = tape_1 j) (hK_0_1 : ∀ j : Int, 0 ≤ j → j < 2000 → (-128) ≤ tape_0 j ∧ tape_0 j ≤ 127) (hE_0_160_1 : ∀ j : Int, tokenKind_0 j = tokenKind_1 j) (hK_0_160 : ∀ j : Int, 0 ≤ j → j < 2010 → 0 ≤ tokenKind_0 j ∧ tokenKind_0 j ≤ 4) (hE_0_161_1 : ∀ j : Int, tokenValue_0 j = tokenValue_1 j) (hE_0_162_1 : ∀ j : Int, tokenPlace_0 j = tokenPlace_1 j) (hK_0_162 : ∀ j : Int, 0 ≤ j → j < 2010 → 0 ≤ tokenPlace_0 j ∧ tokenPlace_0 j ≤ 2000) (hE_0_163_1 : ∀ j : Int, tokenEnd_0 j = tokenEnd_1 j) (hK_0_163 : ∀ j : Int, 0 ≤ j → j < 2010 → 0 ≤ tokenEnd_0 j ∧ tokenEnd_0 j ≤ 2000) (kz_0_8 : 0 ≤ fault_0 ∧ fault_0 ≤ 5) (kz_0_10 : 0 ≤ limit_0 ∧ limit_0 ≤ 2000) (kz_0_157 : 0 ≤ tokens_0 ∧ tokens_0 ≤ 2010) (kz_0_158 : 0 ≤ cur_0 ∧ cur_0 ≤ 2009) (kz_0_159 : 0 ≤ opened_0 ∧ opened_0 ≤ 13) (kz_0_164 : 0 ≤ styleKind_0 ∧ styleKind_0 ≤ 1) (kz_0_165 : (-1) ≤ styleOne_0 ∧ styleOne_0 ≤ 47) (ex2 : gx = cur_0) (ex3 : 0 ≤ gx ∧ gx ≤ 2009) (ey2 : gy = fault_0) (ey3 : 0 ≤ gy ∧ gy ≤ 5) (eu2 : gu = opened_0) (eu3 : 0 ≤ gu ∧ gu ≤ 13) : 1 * gu + 0 ≤ 0 := by
  subst fe_0_8_1
  subst fe_0_10_1
  subst fe_0_157_1
  subst fe_0_159_1
  subst fe_0_164_1
  subst fe_0_165_1
  have e_hE_0_1_1 := funext hE_0_1_1; subst e_hE_0_1_1
  have e_hE_0_160_1 := funext hE_0_160_1; subst e_hE_0_160_1
  have e_hE_0_161_1 := funext hE_0_161_1; subst e_hE_0_161_1
  have e_hE_0_162_1 := funext hE_0_162_1; subst e_hE_0_162_1
  have e_hE_0_163_1 := funext hE_0_163_1; subst e_hE_0_163_1
  first | assumption | (clear f4 f13 f17 f21 f24 f26 hE_0_1_1 hK_0_1 hE_0_160_1 hK_0_160 hE_0_161_1 hE_0_162_1 hK_0_162 hE_0_163_1 hK_0_163; omega) | (clear hE_0_1_1 hK_0_1 hE_0_160_1 hK_0_160 hE_0_161_1 hE_0_162_1 hK_0_162 hE_0_163_1 hK_0_163; grind) | omega | grind
set_option maxHeartbeats 4000000 in
theorem vc_Mo_product_at_f0_7_12 (x1 : Int) (x2 : Int) (x3 : Int) (x6 : Int) (x7 : Int) (x8 : Int) (x9 : Int) (x10 : Int) (x11 : Int) (x12 : Int) (x13 : Int) (x14 : Int) (x15 : Int) (x16 : Int) (x17 : Int) (x18 : Int) (cur_0 : Int) (fault_0 : Int) (styleKind_0 : Int) (styleOne_0 : Int) (opened_0 : Int) (cur_1 : Int) (tokenKind_1 : Int → Int) (tokenValue_1 : Int → Int) (fault_1 : Int) (tokens_1 : Int) (styleKind_1 : Int) (styleOne_1 : Int) (opened_1 : Int) (tokenPlace_1 : Int → Int) (tokenEnd_1 : Int → Int) (tape_1 : Int → Int) (limit_1 : Int) (limit_0 : Int) (tokens_0 : Int) (tape_0 : Int → Int) (tokenKind_0 : Int → Int) (tokenValue_0 : Int → Int) (tokenPlace_0 : Int → Int) (tokenEnd_0 : Int → Int) (gx : Int) (gy : Int) (gu : Int) (k1 : 0 ≤ x1 ∧ x1 ≤ 2009) (k2 : 0 ≤ x2 ∧ x2 ≤ 5) (k3 : 0 ≤ x3 ∧ x3 ≤ 13) (k6 : 0 ≤ x6 ∧ x6 ≤ 2009) (k7 : 0 ≤ x7 ∧ x7 ≤ 2010) (k8 : 42 ≤ x8 ∧ x8 ≤ 42) (k9 : 0 ≤ x9 ∧ x9 ≤ 5) (k10 : 0 ≤ x10 ∧ x10 ≤ 0) (k11 : 47 ≤ x11 ∧ x11 ≤ 47) (k12 : 0 ≤ x12 ∧ x12 ≤ 5) (k13 : 1 ≤ x13 ∧ x13 ≤ 1) (k14 : 42 ≤ x14 ∧ x14 ≤ 42) (k15 : 0 ≤ x15 ∧ x15 ≤ 5) (k16 : 0 ≤ x16 ∧ x16 ≤ 0) (k17 : 1 ≤ x17 ∧ x17 ≤ 1) (k18 : 1 ≤ x18 ∧ x18 ≤ 2009) (d0 : x6 + 1 ≤ x18 ∧ x18 ≤ x6 + 1) (g0 : x18 = cur_0) (f1 : fault_0 = x15) (f2 : fault_0 = x12) (f3 : fault_0 = x9) (f4 : (styleKind_0 = 0) → (styleOne_0 ≤ 23)) (f5 : 1 * opened_0 + 0 ≤ 0) (f6 : (-1) * opened_0 + 0 ≤ 0) (f7 : 1 * x3 + 0 ≤ 0) (f8 : (-1) * x3 + 0 ≤ 0) (f11 : x18 = x6 + x17) (g12 : x6 = cur_1) (f13 : (x16 = 1) → (tokenKind_1 (cur_1) = 3)) (f14 : SGN (cur_1) (tokenKind_1) (tokenValue_1) (x14) (x16) (x15)) (f15 : fault_1 = x15) (f16 : x13 ≠ 0) (f17 : (x13 = 1) → (tokenKind_1 (cur_1) = 3)) (f18 : SGN (cur_1) (tokenKind_1) (tokenValue_1) (x11) (x13) (x12)) (f19 : fault_1 = x12) (f20 : x10 = 0) (f21 : (x10 = 1) → (tokenKind_1 (cur_1) = 3)) (f22 : SGN (cur_1) (tokenKind_1) (tokenValue_1) (x8) (x10) (x9)) (f23 : fault_1 = x9) (f24 : ((cur_1 + 1) ≤ tokens_1) ∧ ((tokens_1 ≤ 2010) ∧ ((tokenKind_1 ((tokens_1 - 1)) = 0) ∨ (tokenKind_1 ((tokens_1 - 1)) = 4)))) (f25 : 1 * x1 + ((-1) * cur_1 + 0) ≤ 0) (f26 : (styleKind_1 = 0) → (styleOne_1 ≤ 23)) (f27 : 1 * opened_1 + 0 ≤ 0) (f28 : (-1) * opened_1 + 0 ≤ 0) (f29 : SPWv (fault_1) (cur_1) (styleKind_1) (limit_1) (tokenKind_1) (tokenValue_1) (tokenPlace_1) (tokenEnd_1) (tape_1) (x1) (x2) (x3)) (f30 : 1 * x3 + 0 ≤ 0) (f31 : (-1) * x3 + 0 ≤ 0) (f32 : 1 * x7 + (1 * cur_1 + 0) ≤ 2010) (f33 : (-1) * x7 + ((-1) * cur_1 + 0) ≤ (-2010)) (fe_0_8_1 : fault_0 = fault_1) (fe_0_10_1 : limit_0 = limit_1) (fe_0_157_1 : tokens_0 = tokens_1) (fe_0_158_1 : cur_0 = x18) (fe_0_159_1 : opened_0 = opened_1) (fe_0_164_1 : styleKind_0 = styleKind_1) (fe_0_165_1 : styleOne_0 = styleOne_1) (hE_0_1_1 : ∀ j : Int, tape_0 j = tape_1 j) (hK_0_1 : ∀ j : Int, 0 ≤ j → j < 2000 → (-128) ≤ tape_0 j ∧ tape_0 j ≤ 127) (hE_0_160_1 : ∀ j : Int, tokenKind_0 j = tokenKind_1 j) (hK_0_160 : ∀ j : Int, 0 ≤ j → j < 2010 → 0 ≤ tokenKind_0 j ∧ tokenKind_0 j ≤ 4) (hE_0_161_1 : ∀ j : Int, tokenValue_0 j = tokenValue_1 j) (hE_0_162_1 : ∀ j : Int, tokenPlace_0 j = tokenPlace_1 j) (hK_0_162 : ∀ j : Int, 0 ≤ j → j < 2010 → 0 ≤ tokenPlace_0 j ∧ tokenPlace_0 j ≤ 2000) (hE_0_163_1 : ∀ j : Int, tokenEnd_0 j = tokenEnd_1 j) (hK_0_163 : ∀ j : Int, 0 ≤ j → j < 2010 → 0 ≤ tokenEnd_0 j ∧ tokenEnd_0 j ≤ 2000) (kz_0_8 : 0 ≤ fault_0 ∧ fault_0 ≤ 5) (kz_0_10 : 0 ≤ limit_0 ∧ limit_0 ≤ 2000) (kz_0_157 : 0 ≤ tokens_0 ∧ tokens_0 ≤ 2010) (kz_0_158 : 0 ≤ cur_0 ∧ cur_0 ≤ 2009) (kz_0_159 : 0 ≤ opened_0 ∧ opened_0 ≤ 13) (kz_0_164 : 0 ≤ styleKind_0 ∧ styleKind_0 ≤ 1) (kz_0_165 : (-1) ≤ styleOne_0 ∧ styleOne_0 ≤ 47) (ex2 : gx = cur_0) (ex3 : 0 ≤ gx ∧ gx ≤ 2009) (ey2 : gy = fault_0) (ey3 : 0 ≤ gy ∧ gy ≤ 5) (eu2 : gu = opened_0) (eu3 : 0 ≤ gu ∧ gu ≤ 13) : (-1) * gu + 0 ≤ 0 := by
  subst fe_0_8_1
  subst fe_0_10_1
  subst fe_0_157_1
  subst fe_0_159_1
  subst fe_0_164_1
  subst fe_0_165_1
  have e_hE_0_1_1 := funext hE_0_1_1; subst e_hE_0_1_1
  have e_hE_0_160_1 := funext hE_0_160_1; subst e_hE_0_160_1
  have e_hE_0_161_1 := funext hE_0_161_1; subst e_hE_0_161_1
  have e_hE_0_162_1 := funext hE_0_162_1; subst e_hE_0_162_1
  have e_hE_0_163_1 := funext hE_0_163_1; subst e_hE_0_163_1
  first | assumption | (clear f4 f13 f17 f21 f24 f26 hE_0_1_1 hK_0_1 hE_0_160_1 hK_0_160 hE_0_161_1 hE_0_162_1 hK_0_162 hE_0_163_1 hK_0_163; omega) | (clear hE_0_1_1 hK_0_1 hE_0_160_1 hK_0_160 hE_0_161_1 hE_0_162_1 hK_0_162 hE_0_163_1 hK_0_163; grind) | omega | grind
def o_Mo_product_at_f0_7 : or_T := (41, 19, [(0, (2, 0, 0, [165])), (1, (0, 0, 2009, [])), (2, (0, 0, 5, [])), (3, (0, 0, 13, [])), (4, (2, 0, 0, [165])), (6, (0, 0, 2009, [])), (7, (0, 0, 2010, [])), (8, (0, 42, 42, [])), (9, (0, 0, 5, [])), (10, (0, 0, 0, [])), (11, (0, 47, 47, [])), (12, (0, 0, 5, [])), (13, (0, 1, 1, [])), (14, (0, 42, 42, [])), (15, (0, 0, 5, [])), (16, (0, 0, 0, [])), (17, (0, 1, 1, [])), (18, (0, 1, 2009, []))], [(9, [18, 4], [158]), (20, [4, 15], [50, 1, 0, 8, 1, 3, 2, 0, 8, 1, 1]), (20, [4, 12], [50, 1, 0, 8, 1, 3, 2, 0, 8, 1, 1]), (20, [4, 9], [50, 1, 0, 8, 1, 3, 2, 0, 8, 1, 1]), (20, [4], [50, 2, 0, 164, 165, 4, 7, 1, 3, 2, 0, 164, 0, 0, 0, 3, 2, 0, 165, 0, 23]), (20, [4], [30, 0, 1, 1, 159]), (20, [4], [30, 0, -1, 1, 159]), (23, [3], [0, 1]), (23, [3], [0, -1]), (24, [0, 4], []), (101, [4, 18], [158]), (1, [18, 6, 17], []), (9, [6, 4], [158]), (20, [16, 4], [50, 1, 1, 1158, 1160, 4, 6, 1, 2, 1, 0, 0, 1, 1, 6, 3, 1, 160, 2, 1, 158, 0, 3]), (20, [4, 14, 16, 15], [60, 1, 2, 14, 158, 160, 161]), (20, [4, 15], [50, 1, 0, 8, 1, 3, 2, 0, 8, 1, 1]), (8, [13], [1]), (20, [13, 4], [50, 1, 1, 1158, 1160, 4, 6, 1, 2, 1, 0, 0, 1, 1, 6, 3, 1, 160, 2, 1, 158, 0, 3]), (20, [4, 11, 13, 12], [60, 1, 2, 14, 158, 160, 161]), (20, [4, 12], [50, 1, 0, 8, 1, 3, 2, 0, 8, 1, 1]), (8, [10], [0]), (20, [10, 4], [50, 1, 1, 1158, 1160, 4, 6, 1, 2, 1, 0, 0, 1, 1, 6, 3, 1, 160, 2, 1, 158, 0, 3]), (20, [4, 8, 10, 9], [60, 1, 2, 14, 158, 160, 161]), (20, [4, 9], [50, 1, 0, 8, 1, 3, 2, 0, 8, 1, 1]), (20, [4], [50, 2, 1, 158, 157, 160, 2, 12, 0, 7, 4, 3, 2, 0, 158, 0, 1, 2, 0, 157, 2, 7, 0, 3, 2, 0, 157, 0, 2010, 3, 14, 1, 10, 3, 0, 160, 5, 3, 2, 0, 157, 0, 1, 0, 0, 1, 10, 3, 0, 160, 5, 3, 2, 0, 157, 0, 1, 0, 4]), (20, [1, 4], [30, 0, 1, 0, 0, -1, 1, 158]), (20, [4], [50, 2, 0, 164, 165, 4, 7, 1, 3, 2, 0, 164, 0, 0, 0, 3, 2, 0, 165, 0, 23]), (20, [4], [30, 0, 1, 1, 159]), (20, [4], [30, 0, -1, 1, 159]), (20, [4, 1, 2, 3], [60, 4, 5, 6, 8, 158, 164, 10, 160, 161, 162, 163, 1]), (23, [3], [0, 1]), (23, [3], [0, -1]), (20, [7, 4], [30, 2010, 1, 0, 0, 1, 1, 158]), (20, [7, 4], [30, -2010, -1, 0, 0, -1, 1, 158])], [], [(0, 0, 2009, []), (0, 0, 5, []), (0, 0, 13, [])], [(20, [4], [50, 2, 1, 158, 157, 160, 2, 12, 0, 7, 4, 3, 2, 0, 158, 0, 1, 2, 0, 157, 2, 7, 0, 3, 2, 0, 157, 0, 2010, 3, 14, 1, 10, 3, 0, 160, 5, 3, 2, 0, 157, 0, 1, 0, 0, 1, 10, 3, 0, 160, 5, 3, 2, 0, 157, 0, 1, 0, 4]), (20, [4, 19], [30, 0, 1, 1, 158, -1, 0, 0]), (20, [4, 19], [30, 0, -1, 1, 158, 1, 0, 0]), (20, [4], [50, 2, 0, 164, 165, 4, 7, 1, 3, 2, 0, 164, 0, 0, 0, 3, 2, 0, 165, 0, 23]), (20, [4], [30, 0, 1, 1, 159]), (20, [4], [30, 0, -1, 1, 159]), (20, [4, 20], [50, 1, 0, 8, 1, 3, 2, 0, 8, 1, 1]), (20, [4, 21], [50, 1, 0, 159, 1, 3, 2, 0, 159, 1, 1]), (23, [1, 19], [0, 1, -1]), (23, [7, 19], [-2011, -1, -1]), (20, [4, 19, 20, 1, 2, 3], [60, 2, 5, 10, 164, 10, 160, 161, 162, 163, 1]), (23, [21], [0, 1]), (23, [21], [0, -1])], [], [(18, 6, 1, 1)])
theorem oo_Mo_product_at_f0_7 {kA : Nat → ClassId} : or_ok PRD kA GG o_Mo_product_at_f0_7 := by
  refine or_mk fun A ta ws vs hD hth hl => ?_
  intro t0 r0 t1 k1 t2 k2 t3 k3 t4 r4 t6 k6 t7 k7 t8 k8 t9 k9 t10 k10 t11 k11 t12 k12 t13 k13 t14 k14 t15 k15 t16 k16 t17 k17 t18 k18 d0 f0 f1 f2 f3 f4 f5 f6 f7 f8 f9 ta1 w1 le1 s1 f11 f12 f13 f14 f15 f16 f17 f18 f19 f20 f21 f22 f23 f24 f25 f26 f27 f28 f29 f30 f31 f32 f33
  replace f0 := shm_311 f0
  replace f1 := shm_302 f1
  replace f2 := shm_302 f2
  replace f3 := shm_302 f3
  replace f4 := shm_299 f4
  replace f5 := shm_999 f5
  replace f6 := shm_1000 f6
  replace f7 := shm_1477 f7
  replace f8 := shm_1013 f8
  replace f9 := shm_5 f9
  have s1 : (∀ b j, w_el ws b j = w_el w1 b j) ∧ ∀ b j, w_fd ws b j = if b = v_ad (n_v vs 4) ∧ j = 158 then n_v vs 18 else w_fd w1 b j := s1.2
  replace f11 := shm_12 f11
  replace f12 := shm_311 f12
  replace f13 := shm_319 f13
  replace f14 := shm_320 f14
  replace f15 := shm_302 f15
  replace f16 := shm_154 f16
  replace f17 := shm_319 f17
  replace f18 := shm_320 f18
  replace f19 := shm_302 f19
  replace f20 := shm_210 f20
  replace f21 := shm_319 f21
  replace f22 := shm_320 f22
  replace f23 := shm_302 f23
  replace f24 := shm_296 f24
  replace f25 := shm_306 f25
  replace f26 := shm_299 f26
  replace f27 := shm_999 f27
  replace f28 := shm_1000 f28
  replace f29 := shm_342 f29
  replace f30 := shm_1477 f30
  replace f31 := shm_1013 f31
  replace f32 := shm_309 f32
  replace f33 := shm_310 f33
  have q4 : n_v vs 4 = n_v vs 0 := f9.symm
  simp only [q4] at f0 f1 f2 f3 f4 f5 f6
  rw [q4] at s1
  simp only [q4] at f12 f13 f14 f15 f17 f18 f19 f21 f22 f23 f24 f25 f26 f27 f28 f29 f32 f33
  have ar_0_1_1 : w_ar w1 (n_v vs 0) 1 = w_ar ws (n_v vs 0) 1 := by show v_ad (w_fd w1 _ _) = v_ad (w_fd ws _ _); rw [s1.2, if_neg (fun e => absurd e.2 (by decide))]
  have cr_0_1 := fdq_46 hD hth r0
  have ar_0_160_1 : w_ar w1 (n_v vs 0) 160 = w_ar ws (n_v vs 0) 160 := by show v_ad (w_fd w1 _ _) = v_ad (w_fd ws _ _); rw [s1.2, if_neg (fun e => absurd e.2 (by decide))]
  have cr_0_160 := fdq_41 hD hth r0
  have ar_0_161_1 : w_ar w1 (n_v vs 0) 161 = w_ar ws (n_v vs 0) 161 := by show v_ad (w_fd w1 _ _) = v_ad (w_fd ws _ _); rw [s1.2, if_neg (fun e => absurd e.2 (by decide))]
  have ar_0_162_1 : w_ar w1 (n_v vs 0) 162 = w_ar ws (n_v vs 0) 162 := by show v_ad (w_fd w1 _ _) = v_ad (w_fd ws _ _); rw [s1.2, if_neg (fun e => absurd e.2 (by decide))]
  have cr_0_162 := fdq_48 hD hth r0
  have ar_0_163_1 : w_ar w1 (n_v vs 0) 163 = w_ar ws (n_v vs 0) 163 := by show v_ad (w_fd w1 _ _) = v_ad (w_fd ws _ _); rw [s1.2, if_neg (fun e => absurd e.2 (by decide))]
  have cr_0_163 := fdq_49 hD hth r0
  have g0 : v_iv (n_v vs 18) = w_fi ws (n_v vs 0) 158 := congrArg v_iv f0
  have g12 : v_iv (n_v vs 6) = w_fi w1 (n_v vs 0) 158 := congrArg v_iv f12
  simp only [ar_0_160_1, ar_0_161_1, ar_0_1_1, ar_0_162_1, ar_0_163_1] at f13 f14 f17 f18 f21 f22 f24 f29
  have fe_0_8_1 : w_fi ws (n_v vs 0) 8 = w_fi w1 (n_v vs 0) 8 := by show v_iv (w_fd _ _ _) = v_iv (w_fd _ _ _); rw [s1.2, if_neg (fun e => absurd e.2 (by decide))]
  have fe_0_10_1 : w_fi ws (n_v vs 0) 10 = w_fi w1 (n_v vs 0) 10 := by show v_iv (w_fd _ _ _) = v_iv (w_fd _ _ _); rw [s1.2, if_neg (fun e => absurd e.2 (by decide))]
  have fe_0_157_1 : w_fi ws (n_v vs 0) 157 = w_fi w1 (n_v vs 0) 157 := by show v_iv (w_fd _ _ _) = v_iv (w_fd _ _ _); rw [s1.2, if_neg (fun e => absurd e.2 (by decide))]
  have fe_0_158_1 : w_fi ws (n_v vs 0) 158 = v_iv (n_v vs 18) := by show v_iv (w_fd _ _ _) = _; rw [s1.2, if_pos ⟨rfl, rfl⟩]
  have fe_0_159_1 : w_fi ws (n_v vs 0) 159 = w_fi w1 (n_v vs 0) 159 := by show v_iv (w_fd _ _ _) = v_iv (w_fd _ _ _); rw [s1.2, if_neg (fun e => absurd e.2 (by decide))]
  have fe_0_164_1 : w_fi ws (n_v vs 0) 164 = w_fi w1 (n_v vs 0) 164 := by show v_iv (w_fd _ _ _) = v_iv (w_fd _ _ _); rw [s1.2, if_neg (fun e => absurd e.2 (by decide))]
  have fe_0_165_1 : w_fi ws (n_v vs 0) 165 = w_fi w1 (n_v vs 0) 165 := by show v_iv (w_fd _ _ _) = v_iv (w_fd _ _ _); rw [s1.2, if_neg (fun e => absurd e.2 (by decide))]
  have hE_0_1_1 : ∀ j : Int, w_ei ws (w_ar ws (n_v vs 0) 1) j = w_ei w1 (w_ar ws (n_v vs 0) 1) j := fun j => s1.1 _ _
  have hK_0_1 := elq_6 hD hth cr_0_1
  have hE_0_160_1 : ∀ j : Int, w_ei ws (w_ar ws (n_v vs 0) 160) j = w_ei w1 (w_ar ws (n_v vs 0) 160) j := fun j => s1.1 _ _
  have hK_0_160 := elq_5 hD hth cr_0_160
  have hE_0_161_1 : ∀ j : Int, w_ei ws (w_ar ws (n_v vs 0) 161) j = w_ei w1 (w_ar ws (n_v vs 0) 161) j := fun j => s1.1 _ _
  have hE_0_162_1 : ∀ j : Int, w_ei ws (w_ar ws (n_v vs 0) 162) j = w_ei w1 (w_ar ws (n_v vs 0) 162) j := fun j => s1.1 _ _
  have hK_0_162 := elq_7 hD hth cr_0_162
  have hE_0_163_1 : ∀ j : Int, w_ei ws (w_ar ws (n_v vs 0) 163) j = w_ei w1 (w_ar ws (n_v vs 0) 163) j := fun j => s1.1 _ _
  have hK_0_163 := elq_8 hD hth cr_0_163
  have kz_0_8 := fdq_14 hD hth r0
  have kz_0_10 := fdq_50 hD hth r0
  have kz_0_157 := fdq_42 hD hth r0
  have kz_0_158 := fdq_43 hD hth r0
  have kz_0_159 := fdq_44 hD hth r0
  have kz_0_164 := fdq_45 hD hth r0
  have kz_0_165 := fdq_35 hD hth r0
  obtain ⟨x, ex, hx⟩ := iv_ex (ta := ta) (lo := 0) (hi := 2009) (z := w_fi ws (n_v vs 0) 158) (by omega) (by omega) (by omega) (by omega)
  have ex2 : v_iv (Value.int x) = w_fi ws (n_v vs 0) 158 := ex
  have ex3 : 0 ≤ v_iv (Value.int x) ∧ v_iv (Value.int x) ≤ 2009 := tv_rng hx
  obtain ⟨y, ey, hy⟩ := iv_ex (ta := ta) (lo := 0) (hi := 5) (z := w_fi ws (n_v vs 0) 8) (by omega) (by omega) (by omega) (by omega)
  have ey2 : v_iv (Value.int y) = w_fi ws (n_v vs 0) 8 := ey
  have ey3 : 0 ≤ v_iv (Value.int y) ∧ v_iv (Value.int y) ≤ 5 := tv_rng hy
  obtain ⟨u, eu, hu⟩ := iv_ex (ta := ta) (lo := 0) (hi := 13) (z := w_fi ws (n_v vs 0) 159) (by omega) (by omega) (by omega) (by omega)
  have eu2 : v_iv (Value.int u) = w_fi ws (n_v vs 0) 159 := eu
  have eu3 : 0 ≤ v_iv (Value.int u) ∧ v_iv (Value.int u) ≤ 13 := tv_rng hu
  have e_1 : n_v (vs ++ [Value.int x, Value.int y, Value.int u]) 1 = n_v vs 1 := n_v_old (by rw [hl]; decide)
  have e_2 : n_v (vs ++ [Value.int x, Value.int y, Value.int u]) 2 = n_v vs 2 := n_v_old (by rw [hl]; decide)
  have e_3 : n_v (vs ++ [Value.int x, Value.int y, Value.int u]) 3 = n_v vs 3 := n_v_old (by rw [hl]; decide)
  have e_4 : n_v (vs ++ [Value.int x, Value.int y, Value.int u]) 4 = n_v vs 4 := n_v_old (by rw [hl]; decide)
  have e_7 : n_v (vs ++ [Value.int x, Value.int y, Value.int u]) 7 = n_v vs 7 := n_v_old (by rw [hl]; decide)
  have e_19 : n_v (vs ++ [Value.int x, Value.int y, Value.int u]) 19 = Value.int x := n_v_newk (k := 0) hl rfl
  have e_20 : n_v (vs ++ [Value.int x, Value.int y, Value.int u]) 20 = Value.int y := n_v_newk (k := 1) hl rfl
  have e_21 : n_v (vs ++ [Value.int x, Value.int y, Value.int u]) 21 = Value.int u := n_v_newk (k := 2) hl rfl
  have nf0 : fc_1 PRD (20, [4], [50, 2, 1, 158, 157, 160, 2, 12, 0, 7, 4, 3, 2, 0, 158, 0, 1, 2, 0, 157, 2, 7, 0, 3, 2, 0, 157, 0, 2010, 3, 14, 1, 10, 3, 0, 160, 5, 3, 2, 0, 157, 0, 1, 0, 0, 1, 10, 3, 0, 160, 5, 3, 2, 0, 157, 0, 1, 0, 4]) ws (vs ++ [Value.int x, Value.int y, Value.int u]) := by
    refine ⟨nf_inA hl rfl, sgq_296 ?_⟩
    · show ((w_fi ws (n_v (vs ++ [Value.int x, Value.int y, Value.int u]) 4) 158 + 1) ≤ w_fi ws (n_v (vs ++ [Value.int x, Value.int y, Value.int u]) 4) 157) ∧ ((w_fi ws (n_v (vs ++ [Value.int x, Value.int y, Value.int u]) 4) 157 ≤ 2010) ∧ ((w_ei ws (w_ar ws (n_v (vs ++ [Value.int x, Value.int y, Value.int u]) 4) 160) ((w_fi ws (n_v (vs ++ [Value.int x, Value.int y, Value.int u]) 4) 157 - 1)) = 0) ∨ (w_ei ws (w_ar ws (n_v (vs ++ [Value.int x, Value.int y, Value.int u]) 4) 160) ((w_fi ws (n_v (vs ++ [Value.int x, Value.int y, Value.int u]) 4) 157 - 1)) = 4)))
      simp only [e_4, q4]
      exact vc_Mo_product_at_f0_7_0 (v_iv (n_v vs 1)) (v_iv (n_v vs 2)) (v_iv (n_v vs 3)) (v_iv (n_v vs 6)) (v_iv (n_v vs 7)) (v_iv (n_v vs 8)) (v_iv (n_v vs 9)) (v_iv (n_v vs 10)) (v_iv (n_v vs 11)) (v_iv (n_v vs 12)) (v_iv (n_v vs 13)) (v_iv (n_v vs 14)) (v_iv (n_v vs 15)) (v_iv (n_v vs 16)) (v_iv (n_v vs 17)) (v_iv (n_v vs 18)) (w_fi ws (n_v vs 0) 158) (w_fi ws (n_v vs 0) 8) (w_fi ws (n_v vs 0) 164) (w_fi ws (n_v vs 0) 165) (w_fi ws (n_v vs 0) 159) (w_fi w1 (n_v vs 0) 158) (w_ei w1 (w_ar ws (n_v vs 0) 160)) (w_ei w1 (w_ar ws (n_v vs 0) 161)) (w_fi w1 (n_v vs 0) 8) (w_fi w1 (n_v vs 0) 157) (w_fi w1 (n_v vs 0) 164) (w_fi w1 (n_v vs 0) 165) (w_fi w1 (n_v vs 0) 159) (w_ei w1 (w_ar ws (n_v vs 0) 162)) (w_ei w1 (w_ar ws (n_v vs 0) 163)) (w_ei w1 (w_ar ws (n_v vs 0) 1)) (w_fi w1 (n_v vs 0) 10) (w_fi ws (n_v vs 0) 10) (w_fi ws (n_v vs 0) 157) (w_ei ws (w_ar ws (n_v vs 0) 1)) (w_ei ws (w_ar ws (n_v vs 0) 160)) (w_ei ws (w_ar ws (n_v vs 0) 161)) (w_ei ws (w_ar ws (n_v vs 0) 162)) (w_ei ws (w_ar ws (n_v vs 0) 163)) (v_iv (Value.int x)) (v_iv (Value.int y)) (v_iv (Value.int u)) k1 k2 k3 k6 k7 k8 k9 k10 k11 k12 k13 k14 k15 k16 k17 k18 d0 g0 f1 f2 f3 f4 f5 f6 f7 f8 f11 g12 f13 f14 f15 f16 f17 f18 f19 f20 f21 f22 f23 f24 f25 f26 f27 f28 f29 f30 f31 f32 f33 fe_0_8_1 fe_0_10_1 fe_0_157_1 fe_0_158_1 fe_0_159_1 fe_0_164_1 fe_0_165_1 hE_0_1_1 hK_0_1 hE_0_160_1 hK_0_160 hE_0_161_1 hE_0_162_1 hK_0_162 hE_0_163_1 hK_0_163 kz_0_8 kz_0_10 kz_0_157 kz_0_158 kz_0_159 kz_0_164 kz_0_165 ex2 ex3 ey2 ey3 eu2 eu3
  have nf1 : fc_1 PRD (20, [4, 19], [30, 0, 1, 1, 158, -1, 0, 0]) ws (vs ++ [Value.int x, Value.int y, Value.int u]) := by
    refine ⟨nf_inA hl rfl, sgq_297 ?_⟩
    · show 1 * w_fi ws (n_v (vs ++ [Value.int x, Value.int y, Value.int u]) 4) 158 + ((-1) * v_iv (n_v (vs ++ [Value.int x, Value.int y, Value.int u]) 19) + 0) ≤ 0
      simp only [e_4, e_19, q4]
      exact vc_Mo_product_at_f0_7_1 (v_iv (n_v vs 1)) (v_iv (n_v vs 2)) (v_iv (n_v vs 3)) (v_iv (n_v vs 6)) (v_iv (n_v vs 7)) (v_iv (n_v vs 8)) (v_iv (n_v vs 9)) (v_iv (n_v vs 10)) (v_iv (n_v vs 11)) (v_iv (n_v vs 12)) (v_iv (n_v vs 13)) (v_iv (n_v vs 14)) (v_iv (n_v vs 15)) (v_iv (n_v vs 16)) (v_iv (n_v vs 17)) (v_iv (n_v vs 18)) (w_fi ws (n_v vs 0) 158) (w_fi ws (n_v vs 0) 8) (w_fi ws (n_v vs 0) 164) (w_fi ws (n_v vs 0) 165) (w_fi ws (n_v vs 0) 159) (w_fi w1 (n_v vs 0) 158) (w_ei w1 (w_ar ws (n_v vs 0) 160)) (w_ei w1 (w_ar ws (n_v vs 0) 161)) (w_fi w1 (n_v vs 0) 8) (w_fi w1 (n_v vs 0) 157) (w_fi w1 (n_v vs 0) 164) (w_fi w1 (n_v vs 0) 165) (w_fi w1 (n_v vs 0) 159) (w_ei w1 (w_ar ws (n_v vs 0) 162)) (w_ei w1 (w_ar ws (n_v vs 0) 163)) (w_ei w1 (w_ar ws (n_v vs 0) 1)) (w_fi w1 (n_v vs 0) 10) (w_fi ws (n_v vs 0) 10) (w_fi ws (n_v vs 0) 157) (w_ei ws (w_ar ws (n_v vs 0) 1)) (w_ei ws (w_ar ws (n_v vs 0) 160)) (w_ei ws (w_ar ws (n_v vs 0) 161)) (w_ei ws (w_ar ws (n_v vs 0) 162)) (w_ei ws (w_ar ws (n_v vs 0) 163)) (v_iv (Value.int x)) (v_iv (Value.int y)) (v_iv (Value.int u)) k1 k2 k3 k6 k7 k8 k9 k10 k11 k12 k13 k14 k15 k16 k17 k18 d0 g0 f1 f2 f3 f4 f5 f6 f7 f8 f11 g12 f13 f14 f15 f16 f17 f18 f19 f20 f21 f22 f23 f24 f25 f26 f27 f28 f29 f30 f31 f32 f33 fe_0_8_1 fe_0_10_1 fe_0_157_1 fe_0_158_1 fe_0_159_1 fe_0_164_1 fe_0_165_1 hE_0_1_1 hK_0_1 hE_0_160_1 hK_0_160 hE_0_161_1 hE_0_162_1 hK_0_162 hE_0_163_1 hK_0_163 kz_0_8 kz_0_10 kz_0_157 kz_0_158 kz_0_159 kz_0_164 kz_0_165 ex2 ex3 ey2 ey3 eu2 eu3
  have nf2 : fc_1 PRD (20, [4, 19], [30, 0, -1, 1, 158, 1, 0, 0]) ws (vs ++ [Value.int x, Value.int y, Value.int u]) := by
    refine ⟨nf_inA hl rfl, sgq_298 ?_⟩
    · show (-1) * w_fi ws (n_v (vs ++ [Value.int x, Value.int y, Value.int u]) 4) 158 + (1 * v_iv (n_v (vs ++ [Value.int x, Value.int y, Value.int u]) 19) + 0) ≤ 0
      simp only [e_4, e_19, q4]
      exact vc_Mo_product_at_f0_7_2 (v_iv (n_v vs 1)) (v_iv (n_v vs 2)) (v_iv (n_v vs 3)) (v_iv (n_v vs 6)) (v_iv (n_v vs 7)) (v_iv (n_v vs 8)) (v_iv (n_v vs 9)) (v_iv (n_v vs 10)) (v_iv (n_v vs 11)) (v_iv (n_v vs 12)) (v_iv (n_v vs 13)) (v_iv (n_v vs 14)) (v_iv (n_v vs 15)) (v_iv (n_v vs 16)) (v_iv (n_v vs 17)) (v_iv (n_v vs 18)) (w_fi ws (n_v vs 0) 158) (w_fi ws (n_v vs 0) 8) (w_fi ws (n_v vs 0) 164) (w_fi ws (n_v vs 0) 165) (w_fi ws (n_v vs 0) 159) (w_fi w1 (n_v vs 0) 158) (w_ei w1 (w_ar ws (n_v vs 0) 160)) (w_ei w1 (w_ar ws (n_v vs 0) 161)) (w_fi w1 (n_v vs 0) 8) (w_fi w1 (n_v vs 0) 157) (w_fi w1 (n_v vs 0) 164) (w_fi w1 (n_v vs 0) 165) (w_fi w1 (n_v vs 0) 159) (w_ei w1 (w_ar ws (n_v vs 0) 162)) (w_ei w1 (w_ar ws (n_v vs 0) 163)) (w_ei w1 (w_ar ws (n_v vs 0) 1)) (w_fi w1 (n_v vs 0) 10) (w_fi ws (n_v vs 0) 10) (w_fi ws (n_v vs 0) 157) (w_ei ws (w_ar ws (n_v vs 0) 1)) (w_ei ws (w_ar ws (n_v vs 0) 160)) (w_ei ws (w_ar ws (n_v vs 0) 161)) (w_ei ws (w_ar ws (n_v vs 0) 162)) (w_ei ws (w_ar ws (n_v vs 0) 163)) (v_iv (Value.int x)) (v_iv (Value.int y)) (v_iv (Value.int u)) k1 k2 k3 k6 k7 k8 k9 k10 k11 k12 k13 k14 k15 k16 k17 k18 d0 g0 f1 f2 f3 f4 f5 f6 f7 f8 f11 g12 f13 f14 f15 f16 f17 f18 f19 f20 f21 f22 f23 f24 f25 f26 f27 f28 f29 f30 f31 f32 f33 fe_0_8_1 fe_0_10_1 fe_0_157_1 fe_0_158_1 fe_0_159_1 fe_0_164_1 fe_0_165_1 hE_0_1_1 hK_0_1 hE_0_160_1 hK_0_160 hE_0_161_1 hE_0_162_1 hK_0_162 hE_0_163_1 hK_0_163 kz_0_8 kz_0_10 kz_0_157 kz_0_158 kz_0_159 kz_0_164 kz_0_165 ex2 ex3 ey2 ey3 eu2 eu3
  have nf3 : fc_1 PRD (20, [4], [50, 2, 0, 164, 165, 4, 7, 1, 3, 2, 0, 164, 0, 0, 0, 3, 2, 0, 165, 0, 23]) ws (vs ++ [Value.int x, Value.int y, Value.int u]) := by
    refine ⟨nf_inA hl rfl, sgq_299 ?_⟩
    · show (w_fi ws (n_v (vs ++ [Value.int x, Value.int y, Value.int u]) 4) 164 = 0) → (w_fi ws (n_v (vs ++ [Value.int x, Value.int y, Value.int u]) 4) 165 ≤ 23)
      simp only [e_4, q4]
      exact vc_Mo_product_at_f0_7_3 (v_iv (n_v vs 1)) (v_iv (n_v vs 2)) (v_iv (n_v vs 3)) (v_iv (n_v vs 6)) (v_iv (n_v vs 7)) (v_iv (n_v vs 8)) (v_iv (n_v vs 9)) (v_iv (n_v vs 10)) (v_iv (n_v vs 11)) (v_iv (n_v vs 12)) (v_iv (n_v vs 13)) (v_iv (n_v vs 14)) (v_iv (n_v vs 15)) (v_iv (n_v vs 16)) (v_iv (n_v vs 17)) (v_iv (n_v vs 18)) (w_fi ws (n_v vs 0) 158) (w_fi ws (n_v vs 0) 8) (w_fi ws (n_v vs 0) 164) (w_fi ws (n_v vs 0) 165) (w_fi ws (n_v vs 0) 159) (w_fi w1 (n_v vs 0) 158) (w_ei w1 (w_ar ws (n_v vs 0) 160)) (w_ei w1 (w_ar ws (n_v vs 0) 161)) (w_fi w1 (n_v vs 0) 8) (w_fi w1 (n_v vs 0) 157) (w_fi w1 (n_v vs 0) 164) (w_fi w1 (n_v vs 0) 165) (w_fi w1 (n_v vs 0) 159) (w_ei w1 (w_ar ws (n_v vs 0) 162)) (w_ei w1 (w_ar ws (n_v vs 0) 163)) (w_ei w1 (w_ar ws (n_v vs 0) 1)) (w_fi w1 (n_v vs 0) 10) (w_fi ws (n_v vs 0) 10) (w_fi ws (n_v vs 0) 157) (w_ei ws (w_ar ws (n_v vs 0) 1)) (w_ei ws (w_ar ws (n_v vs 0) 160)) (w_ei ws (w_ar ws (n_v vs 0) 161)) (w_ei ws (w_ar ws (n_v vs 0) 162)) (w_ei ws (w_ar ws (n_v vs 0) 163)) (v_iv (Value.int x)) (v_iv (Value.int y)) (v_iv (Value.int u)) k1 k2 k3 k6 k7 k8 k9 k10 k11 k12 k13 k14 k15 k16 k17 k18 d0 g0 f1 f2 f3 f4 f5 f6 f7 f8 f11 g12 f13 f14 f15 f16 f17 f18 f19 f20 f21 f22 f23 f24 f25 f26 f27 f28 f29 f30 f31 f32 f33 fe_0_8_1 fe_0_10_1 fe_0_157_1 fe_0_158_1 fe_0_159_1 fe_0_164_1 fe_0_165_1 hE_0_1_1 hK_0_1 hE_0_160_1 hK_0_160 hE_0_161_1 hE_0_162_1 hK_0_162 hE_0_163_1 hK_0_163 kz_0_8 kz_0_10 kz_0_157 kz_0_158 kz_0_159 kz_0_164 kz_0_165 ex2 ex3 ey2 ey3 eu2 eu3
  have nf4 : fc_1 PRD (20, [4], [30, 0, 1, 1, 159]) ws (vs ++ [Value.int x, Value.int y, Value.int u]) := by
    refine ⟨nf_inA hl rfl, sgq_999 ?_⟩
    · show 1 * w_fi ws (n_v (vs ++ [Value.int x, Value.int y, Value.int u]) 4) 159 + 0 ≤ 0
      simp only [e_4, q4]
      exact vc_Mo_product_at_f0_7_4 (v_iv (n_v vs 1)) (v_iv (n_v vs 2)) (v_iv (n_v vs 3)) (v_iv (n_v vs 6)) (v_iv (n_v vs 7)) (v_iv (n_v vs 8)) (v_iv (n_v vs 9)) (v_iv (n_v vs 10)) (v_iv (n_v vs 11)) (v_iv (n_v vs 12)) (v_iv (n_v vs 13)) (v_iv (n_v vs 14)) (v_iv (n_v vs 15)) (v_iv (n_v vs 16)) (v_iv (n_v vs 17)) (v_iv (n_v vs 18)) (w_fi ws (n_v vs 0) 158) (w_fi ws (n_v vs 0) 8) (w_fi ws (n_v vs 0) 164) (w_fi ws (n_v vs 0) 165) (w_fi ws (n_v vs 0) 159) (w_fi w1 (n_v vs 0) 158) (w_ei w1 (w_ar ws (n_v vs 0) 160)) (w_ei w1 (w_ar ws (n_v vs 0) 161)) (w_fi w1 (n_v vs 0) 8) (w_fi w1 (n_v vs 0) 157) (w_fi w1 (n_v vs 0) 164) (w_fi w1 (n_v vs 0) 165) (w_fi w1 (n_v vs 0) 159) (w_ei w1 (w_ar ws (n_v vs 0) 162)) (w_ei w1 (w_ar ws (n_v vs 0) 163)) (w_ei w1 (w_ar ws (n_v vs 0) 1)) (w_fi w1 (n_v vs 0) 10) (w_fi ws (n_v vs 0) 10) (w_fi ws (n_v vs 0) 157) (w_ei ws (w_ar ws (n_v vs 0) 1)) (w_ei ws (w_ar ws (n_v vs 0) 160)) (w_ei ws (w_ar ws (n_v vs 0) 161)) (w_ei ws (w_ar ws (n_v vs 0) 162)) (w_ei ws (w_ar ws (n_v vs 0) 163)) (v_iv (Value.int x)) (v_iv (Value.int y)) (v_iv (Value.int u)) k1 k2 k3 k6 k7 k8 k9 k10 k11 k12 k13 k14 k15 k16 k17 k18 d0 g0 f1 f2 f3 f4 f5 f6 f7 f8 f11 g12 f13 f14 f15 f16 f17 f18 f19 f20 f21 f22 f23 f24 f25 f26 f27 f28 f29 f30 f31 f32 f33 fe_0_8_1 fe_0_10_1 fe_0_157_1 fe_0_158_1 fe_0_159_1 fe_0_164_1 fe_0_165_1 hE_0_1_1 hK_0_1 hE_0_160_1 hK_0_160 hE_0_161_1 hE_0_162_1 hK_0_162 hE_0_163_1 hK_0_163 kz_0_8 kz_0_10 kz_0_157 kz_0_158 kz_0_159 kz_0_164 kz_0_165 ex2 ex3 ey2 ey3 eu2 eu3
  have nf5 : fc_1 PRD (20, [4], [30, 0, -1, 1, 159]) ws (vs ++ [Value.int x, Value.int y, Value.int u]) := by
    refine ⟨nf_inA hl rfl, sgq_1000 ?_⟩
    · show (-1) * w_fi ws (n_v (vs ++ [Value.int x, Value.int y, Value.int u]) 4) 159 + 0 ≤ 0
      simp only [e_4, q4]
      exact vc_Mo_product_at_f0_7_5 (v_iv (n_v vs 1)) (v_iv (n_v vs 2)) (v_iv (n_v vs 3)) (v_iv (n_v vs 6)) (v_iv (n_v vs 7)) (v_iv (n_v vs 8)) (v_iv (n_v vs 9)) (v_iv (n_v vs 10)) (v_iv (n_v vs 11)) (v_iv (n_v vs 12)) (v_iv (n_v vs 13)) (v_iv (n_v vs 14)) (v_iv (n_v vs 15)) (v_iv (n_v vs 16)) (v_iv (n_v vs 17)) (v_iv (n_v vs 18)) (w_fi ws (n_v vs 0) 158) (w_fi ws (n_v vs 0) 8) (w_fi ws (n_v vs 0) 164) (w_fi ws (n_v vs 0) 165) (w_fi ws (n_v vs 0) 159) (w_fi w1 (n_v vs 0) 158) (w_ei w1 (w_ar ws (n_v vs 0) 160)) (w_ei w1 (w_ar ws (n_v vs 0) 161)) (w_fi w1 (n_v vs 0) 8) (w_fi w1 (n_v vs 0) 157) (w_fi w1 (n_v vs 0) 164) (w_fi w1 (n_v vs 0) 165) (w_fi w1 (n_v vs 0) 159) (w_ei w1 (w_ar ws (n_v vs 0) 162)) (w_ei w1 (w_ar ws (n_v vs 0) 163)) (w_ei w1 (w_ar ws (n_v vs 0) 1)) (w_fi w1 (n_v vs 0) 10) (w_fi ws (n_v vs 0) 10) (w_fi ws (n_v vs 0) 157) (w_ei ws (w_ar ws (n_v vs 0) 1)) (w_ei ws (w_ar ws (n_v vs 0) 160)) (w_ei ws (w_ar ws (n_v vs 0) 161)) (w_ei ws (w_ar ws (n_v vs 0) 162)) (w_ei ws (w_ar ws (n_v vs 0) 163)) (v_iv (Value.int x)) (v_iv (Value.int y)) (v_iv (Value.int u)) k1 k2 k3 k6 k7 k8 k9 k10 k11 k12 k13 k14 k15 k16 k17 k18 d0 g0 f1 f2 f3 f4 f5 f6 f7 f8 f11 g12 f13 f14 f15 f16 f17 f18 f19 f20 f21 f22 f23 f24 f25 f26 f27 f28 f29 f30 f31 f32 f33 fe_0_8_1 fe_0_10_1 fe_0_157_1 fe_0_158_1 fe_0_159_1 fe_0_164_1 fe_0_165_1 hE_0_1_1 hK_0_1 hE_0_160_1 hK_0_160 hE_0_161_1 hE_0_162_1 hK_0_162 hE_0_163_1 hK_0_163 kz_0_8 kz_0_10 kz_0_157 kz_0_158 kz_0_159 kz_0_164 kz_0_165 ex2 ex3 ey2 ey3 eu2 eu3
  have nf6 : fc_1 PRD (20, [4, 20], [50, 1, 0, 8, 1, 3, 2, 0, 8, 1, 1]) ws (vs ++ [Value.int x, Value.int y, Value.int u]) := by
    refine ⟨nf_inA hl rfl, sgq_302 ?_⟩
    · show w_fi ws (n_v (vs ++ [Value.int x, Value.int y, Value.int u]) 4) 8 = v_iv (n_v (vs ++ [Value.int x, Value.int y, Value.int u]) 20)
      simp only [e_4, e_20, q4]
      exact vc_Mo_product_at_f0_7_6 (v_iv (n_v vs 1)) (v_iv (n_v vs 2)) (v_iv (n_v vs 3)) (v_iv (n_v vs 6)) (v_iv (n_v vs 7)) (v_iv (n_v vs 8)) (v_iv (n_v vs 9)) (v_iv (n_v vs 10)) (v_iv (n_v vs 11)) (v_iv (n_v vs 12)) (v_iv (n_v vs 13)) (v_iv (n_v vs 14)) (v_iv (n_v vs 15)) (v_iv (n_v vs 16)) (v_iv (n_v vs 17)) (v_iv (n_v vs 18)) (w_fi ws (n_v vs 0) 158) (w_fi ws (n_v vs 0) 8) (w_fi ws (n_v vs 0) 164) (w_fi ws (n_v vs 0) 165) (w_fi ws (n_v vs 0) 159) (w_fi w1 (n_v vs 0) 158) (w_ei w1 (w_ar ws (n_v vs 0) 160)) (w_ei w1 (w_ar ws (n_v vs 0) 161)) (w_fi w1 (n_v vs 0) 8) (w_fi w1 (n_v vs 0) 157) (w_fi w1 (n_v vs 0) 164) (w_fi w1 (n_v vs 0) 165) (w_fi w1 (n_v vs 0) 159) (w_ei w1 (w_ar ws (n_v vs 0) 162)) (w_ei w1 (w_ar ws (n_v vs 0) 163)) (w_ei w1 (w_ar ws (n_v vs 0) 1)) (w_fi w1 (n_v vs 0) 10) (w_fi ws (n_v vs 0) 10) (w_fi ws (n_v vs 0) 157) (w_ei ws (w_ar ws (n_v vs 0) 1)) (w_ei ws (w_ar ws (n_v vs 0) 160)) (w_ei ws (w_ar ws (n_v vs 0) 161)) (w_ei ws (w_ar ws (n_v vs 0) 162)) (w_ei ws (w_ar ws (n_v vs 0) 163)) (v_iv (Value.int x)) (v_iv (Value.int y)) (v_iv (Value.int u)) k1 k2 k3 k6 k7 k8 k9 k10 k11 k12 k13 k14 k15 k16 k17 k18 d0 g0 f1 f2 f3 f4 f5 f6 f7 f8 f11 g12 f13 f14 f15 f16 f17 f18 f19 f20 f21 f22 f23 f24 f25 f26 f27 f28 f29 f30 f31 f32 f33 fe_0_8_1 fe_0_10_1 fe_0_157_1 fe_0_158_1 fe_0_159_1 fe_0_164_1 fe_0_165_1 hE_0_1_1 hK_0_1 hE_0_160_1 hK_0_160 hE_0_161_1 hE_0_162_1 hK_0_162 hE_0_163_1 hK_0_163 kz_0_8 kz_0_10 kz_0_157 kz_0_158 kz_0_159 kz_0_164 kz_0_165 ex2 ex3 ey2 ey3 eu2 eu3
  have nf7 : fc_1 PRD (20, [4, 21], [50, 1, 0, 159, 1, 3, 2, 0, 159, 1, 1]) ws (vs ++ [Value.int x, Value.int y, Value.int u]) := by
    refine ⟨nf_inA hl rfl, sgq_303 ?_⟩
    · show w_fi ws (n_v (vs ++ [Value.int x, Value.int y, Value.int u]) 4) 159 = v_iv (n_v (vs ++ [Value.int x, Value.int y, Value.int u]) 21)
      simp only [e_4, e_21, q4]
      exact vc_Mo_product_at_f0_7_7 (v_iv (n_v vs 1)) (v_iv (n_v vs 2)) (v_iv (n_v vs 3)) (v_iv (n_v vs 6)) (v_iv (n_v vs 7)) (v_iv (n_v vs 8)) (v_iv (n_v vs 9)) (v_iv (n_v vs 10)) (v_iv (n_v vs 11)) (v_iv (n_v vs 12)) (v_iv (n_v vs 13)) (v_iv (n_v vs 14)) (v_iv (n_v vs 15)) (v_iv (n_v vs 16)) (v_iv (n_v vs 17)) (v_iv (n_v vs 18)) (w_fi ws (n_v vs 0) 158) (w_fi ws (n_v vs 0) 8) (w_fi ws (n_v vs 0) 164) (w_fi ws (n_v vs 0) 165) (w_fi ws (n_v vs 0) 159) (w_fi w1 (n_v vs 0) 158) (w_ei w1 (w_ar ws (n_v vs 0) 160)) (w_ei w1 (w_ar ws (n_v vs 0) 161)) (w_fi w1 (n_v vs 0) 8) (w_fi w1 (n_v vs 0) 157) (w_fi w1 (n_v vs 0) 164) (w_fi w1 (n_v vs 0) 165) (w_fi w1 (n_v vs 0) 159) (w_ei w1 (w_ar ws (n_v vs 0) 162)) (w_ei w1 (w_ar ws (n_v vs 0) 163)) (w_ei w1 (w_ar ws (n_v vs 0) 1)) (w_fi w1 (n_v vs 0) 10) (w_fi ws (n_v vs 0) 10) (w_fi ws (n_v vs 0) 157) (w_ei ws (w_ar ws (n_v vs 0) 1)) (w_ei ws (w_ar ws (n_v vs 0) 160)) (w_ei ws (w_ar ws (n_v vs 0) 161)) (w_ei ws (w_ar ws (n_v vs 0) 162)) (w_ei ws (w_ar ws (n_v vs 0) 163)) (v_iv (Value.int x)) (v_iv (Value.int y)) (v_iv (Value.int u)) k1 k2 k3 k6 k7 k8 k9 k10 k11 k12 k13 k14 k15 k16 k17 k18 d0 g0 f1 f2 f3 f4 f5 f6 f7 f8 f11 g12 f13 f14 f15 f16 f17 f18 f19 f20 f21 f22 f23 f24 f25 f26 f27 f28 f29 f30 f31 f32 f33 fe_0_8_1 fe_0_10_1 fe_0_157_1 fe_0_158_1 fe_0_159_1 fe_0_164_1 fe_0_165_1 hE_0_1_1 hK_0_1 hE_0_160_1 hK_0_160 hE_0_161_1 hE_0_162_1 hK_0_162 hE_0_163_1 hK_0_163 kz_0_8 kz_0_10 kz_0_157 kz_0_158 kz_0_159 kz_0_164 kz_0_165 ex2 ex3 ey2 ey3 eu2 eu3
  have nf8 : fc_1 PRD (23, [1, 19], [0, 1, -1]) ws (vs ++ [Value.int x, Value.int y, Value.int u]) := by
    refine ⟨nf_inA hl rfl, sgq_7 ?_⟩
    · show 1 * v_iv (n_v (vs ++ [Value.int x, Value.int y, Value.int u]) 1) + ((-1) * v_iv (n_v (vs ++ [Value.int x, Value.int y, Value.int u]) 19) + 0) ≤ 0
      simp only [e_1, e_19]
      exact vc_Mo_product_at_f0_7_8 (v_iv (n_v vs 1)) (v_iv (n_v vs 2)) (v_iv (n_v vs 3)) (v_iv (n_v vs 6)) (v_iv (n_v vs 7)) (v_iv (n_v vs 8)) (v_iv (n_v vs 9)) (v_iv (n_v vs 10)) (v_iv (n_v vs 11)) (v_iv (n_v vs 12)) (v_iv (n_v vs 13)) (v_iv (n_v vs 14)) (v_iv (n_v vs 15)) (v_iv (n_v vs 16)) (v_iv (n_v vs 17)) (v_iv (n_v vs 18)) (w_fi ws (n_v vs 0) 158) (w_fi ws (n_v vs 0) 8) (w_fi ws (n_v vs 0) 164) (w_fi ws (n_v vs 0) 165) (w_fi ws (n_v vs 0) 159) (w_fi w1 (n_v vs 0) 158) (w_ei w1 (w_ar ws (n_v vs 0) 160)) (w_ei w1 (w_ar ws (n_v vs 0) 161)) (w_fi w1 (n_v vs 0) 8) (w_fi w1 (n_v vs 0) 157) (w_fi w1 (n_v vs 0) 164) (w_fi w1 (n_v vs 0) 165) (w_fi w1 (n_v vs 0) 159) (w_ei w1 (w_ar ws (n_v vs 0) 162)) (w_ei w1 (w_ar ws (n_v vs 0) 163)) (w_ei w1 (w_ar ws (n_v vs 0) 1)) (w_fi w1 (n_v vs 0) 10) (w_fi ws (n_v vs 0) 10) (w_fi ws (n_v vs 0) 157) (w_ei ws (w_ar ws (n_v vs 0) 1)) (w_ei ws (w_ar ws (n_v vs 0) 160)) (w_ei ws (w_ar ws (n_v vs 0) 161)) (w_ei ws (w_ar ws (n_v vs 0) 162)) (w_ei ws (w_ar ws (n_v vs 0) 163)) (v_iv (Value.int x)) (v_iv (Value.int y)) (v_iv (Value.int u)) k1 k2 k3 k6 k7 k8 k9 k10 k11 k12 k13 k14 k15 k16 k17 k18 d0 g0 f1 f2 f3 f4 f5 f6 f7 f8 f11 g12 f13 f14 f15 f16 f17 f18 f19 f20 f21 f22 f23 f24 f25 f26 f27 f28 f29 f30 f31 f32 f33 fe_0_8_1 fe_0_10_1 fe_0_157_1 fe_0_158_1 fe_0_159_1 fe_0_164_1 fe_0_165_1 hE_0_1_1 hK_0_1 hE_0_160_1 hK_0_160 hE_0_161_1 hE_0_162_1 hK_0_162 hE_0_163_1 hK_0_163 kz_0_8 kz_0_10 kz_0_157 kz_0_158 kz_0_159 kz_0_164 kz_0_165 ex2 ex3 ey2 ey3 eu2 eu3
  have nf9 : fc_1 PRD (23, [7, 19], [-2011, -1, -1]) ws (vs ++ [Value.int x, Value.int y, Value.int u]) := by
    refine ⟨nf_inA hl rfl, sgq_315 ?_⟩
    · show (-1) * v_iv (n_v (vs ++ [Value.int x, Value.int y, Value.int u]) 7) + ((-1) * v_iv (n_v (vs ++ [Value.int x, Value.int y, Value.int u]) 19) + 0) ≤ (-2011)
      simp only [e_7, e_19]
      exact vc_Mo_product_at_f0_7_9 (v_iv (n_v vs 1)) (v_iv (n_v vs 2)) (v_iv (n_v vs 3)) (v_iv (n_v vs 6)) (v_iv (n_v vs 7)) (v_iv (n_v vs 8)) (v_iv (n_v vs 9)) (v_iv (n_v vs 10)) (v_iv (n_v vs 11)) (v_iv (n_v vs 12)) (v_iv (n_v vs 13)) (v_iv (n_v vs 14)) (v_iv (n_v vs 15)) (v_iv (n_v vs 16)) (v_iv (n_v vs 17)) (v_iv (n_v vs 18)) (w_fi ws (n_v vs 0) 158) (w_fi ws (n_v vs 0) 8) (w_fi ws (n_v vs 0) 164) (w_fi ws (n_v vs 0) 165) (w_fi ws (n_v vs 0) 159) (w_fi w1 (n_v vs 0) 158) (w_ei w1 (w_ar ws (n_v vs 0) 160)) (w_ei w1 (w_ar ws (n_v vs 0) 161)) (w_fi w1 (n_v vs 0) 8) (w_fi w1 (n_v vs 0) 157) (w_fi w1 (n_v vs 0) 164) (w_fi w1 (n_v vs 0) 165) (w_fi w1 (n_v vs 0) 159) (w_ei w1 (w_ar ws (n_v vs 0) 162)) (w_ei w1 (w_ar ws (n_v vs 0) 163)) (w_ei w1 (w_ar ws (n_v vs 0) 1)) (w_fi w1 (n_v vs 0) 10) (w_fi ws (n_v vs 0) 10) (w_fi ws (n_v vs 0) 157) (w_ei ws (w_ar ws (n_v vs 0) 1)) (w_ei ws (w_ar ws (n_v vs 0) 160)) (w_ei ws (w_ar ws (n_v vs 0) 161)) (w_ei ws (w_ar ws (n_v vs 0) 162)) (w_ei ws (w_ar ws (n_v vs 0) 163)) (v_iv (Value.int x)) (v_iv (Value.int y)) (v_iv (Value.int u)) k1 k2 k3 k6 k7 k8 k9 k10 k11 k12 k13 k14 k15 k16 k17 k18 d0 g0 f1 f2 f3 f4 f5 f6 f7 f8 f11 g12 f13 f14 f15 f16 f17 f18 f19 f20 f21 f22 f23 f24 f25 f26 f27 f28 f29 f30 f31 f32 f33 fe_0_8_1 fe_0_10_1 fe_0_157_1 fe_0_158_1 fe_0_159_1 fe_0_164_1 fe_0_165_1 hE_0_1_1 hK_0_1 hE_0_160_1 hK_0_160 hE_0_161_1 hE_0_162_1 hK_0_162 hE_0_163_1 hK_0_163 kz_0_8 kz_0_10 kz_0_157 kz_0_158 kz_0_159 kz_0_164 kz_0_165 ex2 ex3 ey2 ey3 eu2 eu3
  have nf10 : fc_1 PRD (20, [4, 19, 20, 1, 2, 3], [60, 2, 5, 10, 164, 10, 160, 161, 162, 163, 1]) ws (vs ++ [Value.int x, Value.int y, Value.int u]) := by
    refine ⟨nf_inA hl rfl, sgq_344 ?_⟩
    · show GPW (w_fi ws (n_v (vs ++ [Value.int x, Value.int y, Value.int u]) 4) 164) (w_fi ws (n_v (vs ++ [Value.int x, Value.int y, Value.int u]) 4) 10) (w_ei ws (w_ar ws (n_v (vs ++ [Value.int x, Value.int y, Value.int u]) 4) 160)) (w_ei ws (w_ar ws (n_v (vs ++ [Value.int x, Value.int y, Value.int u]) 4) 161)) (w_ei ws (w_ar ws (n_v (vs ++ [Value.int x, Value.int y, Value.int u]) 4) 162)) (w_ei ws (w_ar ws (n_v (vs ++ [Value.int x, Value.int y, Value.int u]) 4) 163)) (w_ei ws (w_ar ws (n_v (vs ++ [Value.int x, Value.int y, Value.int u]) 4) 1)) (v_iv (n_v (vs ++ [Value.int x, Value.int y, Value.int u]) 19)) (v_iv (n_v (vs ++ [Value.int x, Value.int y, Value.int u]) 20)) (v_iv (n_v (vs ++ [Value.int x, Value.int y, Value.int u]) 1)) (v_iv (n_v (vs ++ [Value.int x, Value.int y, Value.int u]) 2)) (v_iv (n_v (vs ++ [Value.int x, Value.int y, Value.int u]) 3))
      simp only [e_1, e_2, e_3, e_4, e_19, e_20, q4]
      exact vc_Mo_product_at_f0_7_10 (v_iv (n_v vs 1)) (v_iv (n_v vs 2)) (v_iv (n_v vs 3)) (v_iv (n_v vs 6)) (v_iv (n_v vs 8)) (v_iv (n_v vs 9)) (v_iv (n_v vs 10)) (v_iv (n_v vs 11)) (v_iv (n_v vs 12)) (v_iv (n_v vs 13)) (v_iv (n_v vs 18)) (w_fi ws (n_v vs 0) 158) (w_fi ws (n_v vs 0) 8) (w_fi ws (n_v vs 0) 164) (w_fi ws (n_v vs 0) 165) (w_fi ws (n_v vs 0) 159) (w_fi w1 (n_v vs 0) 158) (w_ei w1 (w_ar ws (n_v vs 0) 160)) (w_ei w1 (w_ar ws (n_v vs 0) 161)) (w_fi w1 (n_v vs 0) 8) (w_fi w1 (n_v vs 0) 157) (w_fi w1 (n_v vs 0) 164) (w_fi w1 (n_v vs 0) 165) (w_fi w1 (n_v vs 0) 159) (w_ei w1 (w_ar ws (n_v vs 0) 162)) (w_ei w1 (w_ar ws (n_v vs 0) 163)) (w_ei w1 (w_ar ws (n_v vs 0) 1)) (w_fi w1 (n_v vs 0) 10) (w_fi ws (n_v vs 0) 10) (w_fi ws (n_v vs 0) 157) (w_ei ws (w_ar ws (n_v vs 0) 1)) (w_ei ws (w_ar ws (n_v vs 0) 160)) (w_ei ws (w_ar ws (n_v vs 0) 161)) (w_ei ws (w_ar ws (n_v vs 0) 162)) (w_ei ws (w_ar ws (n_v vs 0) 163)) (v_iv (Value.int x)) (v_iv (Value.int y)) k1 k2 k3 k6 k11 k12 k13 k18 d0 g0 f2 g12 f16 f18 f29 fe_0_8_1 fe_0_10_1 fe_0_157_1 fe_0_159_1 fe_0_164_1 fe_0_165_1 hE_0_1_1 hE_0_160_1 hE_0_161_1 hE_0_162_1 hE_0_163_1 kz_0_8 kz_0_10 kz_0_157 kz_0_158 kz_0_159 kz_0_164 kz_0_165 ex2 ey2
  have nf11 : fc_1 PRD (23, [21], [0, 1]) ws (vs ++ [Value.int x, Value.int y, Value.int u]) := by
    refine ⟨nf_inA hl rfl, sgq_1477 ?_⟩
    · show 1 * v_iv (n_v (vs ++ [Value.int x, Value.int y, Value.int u]) 21) + 0 ≤ 0
      rw [e_21]
      exact vc_Mo_product_at_f0_7_11 (v_iv (n_v vs 1)) (v_iv (n_v vs 2)) (v_iv (n_v vs 3)) (v_iv (n_v vs 6)) (v_iv (n_v vs 7)) (v_iv (n_v vs 8)) (v_iv (n_v vs 9)) (v_iv (n_v vs 10)) (v_iv (n_v vs 11)) (v_iv (n_v vs 12)) (v_iv (n_v vs 13)) (v_iv (n_v vs 14)) (v_iv (n_v vs 15)) (v_iv (n_v vs 16)) (v_iv (n_v vs 17)) (v_iv (n_v vs 18)) (w_fi ws (n_v vs 0) 158) (w_fi ws (n_v vs 0) 8) (w_fi ws (n_v vs 0) 164) (w_fi ws (n_v vs 0) 165) (w_fi ws (n_v vs 0) 159) (w_fi w1 (n_v vs 0) 158) (w_ei w1 (w_ar ws (n_v vs 0) 160)) (w_ei w1 (w_ar ws (n_v vs 0) 161)) (w_fi w1 (n_v vs 0) 8) (w_fi w1 (n_v vs 0) 157) (w_fi w1 (n_v vs 0) 164) (w_fi w1 (n_v vs 0) 165) (w_fi w1 (n_v vs 0) 159) (w_ei w1 (w_ar ws (n_v vs 0) 162)) (w_ei w1 (w_ar ws (n_v vs 0) 163)) (w_ei w1 (w_ar ws (n_v vs 0) 1)) (w_fi w1 (n_v vs 0) 10) (w_fi ws (n_v vs 0) 10) (w_fi ws (n_v vs 0) 157) (w_ei ws (w_ar ws (n_v vs 0) 1)) (w_ei ws (w_ar ws (n_v vs 0) 160)) (w_ei ws (w_ar ws (n_v vs 0) 161)) (w_ei ws (w_ar ws (n_v vs 0) 162)) (w_ei ws (w_ar ws (n_v vs 0) 163)) (v_iv (Value.int x)) (v_iv (Value.int y)) (v_iv (Value.int u)) k1 k2 k3 k6 k7 k8 k9 k10 k11 k12 k13 k14 k15 k16 k17 k18 d0 g0 f1 f2 f3 f4 f5 f6 f7 f8 f11 g12 f13 f14 f15 f16 f17 f18 f19 f20 f21 f22 f23 f24 f25 f26 f27 f28 f29 f30 f31 f32 f33 fe_0_8_1 fe_0_10_1 fe_0_157_1 fe_0_158_1 fe_0_159_1 fe_0_164_1 fe_0_165_1 hE_0_1_1 hK_0_1 hE_0_160_1 hK_0_160 hE_0_161_1 hE_0_162_1 hK_0_162 hE_0_163_1 hK_0_163 kz_0_8 kz_0_10 kz_0_157 kz_0_158 kz_0_159 kz_0_164 kz_0_165 ex2 ex3 ey2 ey3 eu2 eu3
  have nf12 : fc_1 PRD (23, [21], [0, -1]) ws (vs ++ [Value.int x, Value.int y, Value.int u]) := by
    refine ⟨nf_inA hl rfl, sgq_1013 ?_⟩
    · show (-1) * v_iv (n_v (vs ++ [Value.int x, Value.int y, Value.int u]) 21) + 0 ≤ 0
      rw [e_21]
      exact vc_Mo_product_at_f0_7_12 (v_iv (n_v vs 1)) (v_iv (n_v vs 2)) (v_iv (n_v vs 3)) (v_iv (n_v vs 6)) (v_iv (n_v vs 7)) (v_iv (n_v vs 8)) (v_iv (n_v vs 9)) (v_iv (n_v vs 10)) (v_iv (n_v vs 11)) (v_iv (n_v vs 12)) (v_iv (n_v vs 13)) (v_iv (n_v vs 14)) (v_iv (n_v vs 15)) (v_iv (n_v vs 16)) (v_iv (n_v vs 17)) (v_iv (n_v vs 18)) (w_fi ws (n_v vs 0) 158) (w_fi ws (n_v vs 0) 8) (w_fi ws (n_v vs 0) 164) (w_fi ws (n_v vs 0) 165) (w_fi ws (n_v vs 0) 159) (w_fi w1 (n_v vs 0) 158) (w_ei w1 (w_ar ws (n_v vs 0) 160)) (w_ei w1 (w_ar ws (n_v vs 0) 161)) (w_fi w1 (n_v vs 0) 8) (w_fi w1 (n_v vs 0) 157) (w_fi w1 (n_v vs 0) 164) (w_fi w1 (n_v vs 0) 165) (w_fi w1 (n_v vs 0) 159) (w_ei w1 (w_ar ws (n_v vs 0) 162)) (w_ei w1 (w_ar ws (n_v vs 0) 163)) (w_ei w1 (w_ar ws (n_v vs 0) 1)) (w_fi w1 (n_v vs 0) 10) (w_fi ws (n_v vs 0) 10) (w_fi ws (n_v vs 0) 157) (w_ei ws (w_ar ws (n_v vs 0) 1)) (w_ei ws (w_ar ws (n_v vs 0) 160)) (w_ei ws (w_ar ws (n_v vs 0) 161)) (w_ei ws (w_ar ws (n_v vs 0) 162)) (w_ei ws (w_ar ws (n_v vs 0) 163)) (v_iv (Value.int x)) (v_iv (Value.int y)) (v_iv (Value.int u)) k1 k2 k3 k6 k7 k8 k9 k10 k11 k12 k13 k14 k15 k16 k17 k18 d0 g0 f1 f2 f3 f4 f5 f6 f7 f8 f11 g12 f13 f14 f15 f16 f17 f18 f19 f20 f21 f22 f23 f24 f25 f26 f27 f28 f29 f30 f31 f32 f33 fe_0_8_1 fe_0_10_1 fe_0_157_1 fe_0_158_1 fe_0_159_1 fe_0_164_1 fe_0_165_1 hE_0_1_1 hK_0_1 hE_0_160_1 hK_0_160 hE_0_161_1 hE_0_162_1 hK_0_162 hE_0_163_1 hK_0_163 kz_0_8 kz_0_10 kz_0_157 kz_0_158 kz_0_159 kz_0_164 kz_0_165 ex2 ex3 ey2 ey3 eu2 eu3
  exact ⟨(fun _ h => (by cases h)), [Value.int x, Value.int y, Value.int u], ag_three hx hy hu, List.forall_mem_cons.mpr ⟨⟨show (20 : Nat) < 100 from by decide, nf0⟩, List.forall_mem_cons.mpr ⟨⟨show (20 : Nat) < 100 from by decide, nf1⟩, List.forall_mem_cons.mpr ⟨⟨show (20 : Nat) < 100 from by decide, nf2⟩, List.forall_mem_cons.mpr ⟨⟨show (20 : Nat) < 100 from by decide, nf3⟩, List.forall_mem_cons.mpr ⟨⟨show (20 : Nat) < 100 from by decide, nf4⟩, List.forall_mem_cons.mpr ⟨⟨show (20 : Nat) < 100 from by decide, nf5⟩, List.forall_mem_cons.mpr ⟨⟨show (20 : Nat) < 100 from by decide, nf6⟩, List.forall_mem_cons.mpr ⟨⟨show (20 : Nat) < 100 from by decide, nf7⟩, List.forall_mem_cons.mpr ⟨⟨show (23 : Nat) < 100 from by decide, nf8⟩, List.forall_mem_cons.mpr ⟨⟨show (23 : Nat) < 100 from by decide, nf9⟩, List.forall_mem_cons.mpr ⟨⟨show (20 : Nat) < 100 from by decide, nf10⟩, List.forall_mem_cons.mpr ⟨⟨show (23 : Nat) < 100 from by decide, nf11⟩, List.forall_mem_cons.mpr ⟨⟨show (23 : Nat) < 100 from by decide, nf12⟩, (fun _ h => (by cases h))⟩⟩⟩⟩⟩⟩⟩⟩⟩⟩⟩⟩⟩, (fun _ h => (by cases h))⟩
set_option maxHeartbeats 4000000 in
theorem vc_Mo_product_at_f0_9_0 (x1 : Int) (x2 : Int) (x3 : Int) (x6 : Int) (x7 : Int) (x17 : Int) (x18 : Int) (x19 : Int) (x20 : Int) (x21 : Int) (styleKind_0 : Int) (styleOne_0 : Int) (tokenKind_0 : Int → Int) (tokenValue_0 : Int → Int) (tokenPlace_0 : Int → Int) (tokenEnd_0 : Int → Int) (tape_0 : Int → Int) (limit_0 : Int) (cur_0 : Int) (tokens_0 : Int) (opened_0 : Int) (fault_0 : Int) (gx : Int) (k1 : 0 ≤ x1 ∧ x1 ≤ 2009) (k2 : 0 ≤ x2 ∧ x2 ≤ 5) (k3 : 0 ≤ x3 ∧ x3 ≤ 13) (k6 : 0 ≤ x6 ∧ x6 ≤ 2009) (k7 : 0 ≤ x7 ∧ x7 ≤ 2010) (k17 : 1 ≤ x17 ∧ x17 ≤ 1) (k18 : 1 ≤ x18 ∧ x18 ≤ 2009) (k19 : 0 ≤ x19 ∧ x19 ≤ 2009) (k20 : 0 ≤ x20 ∧ x20 ≤ 5) (k21 : 0 ≤ x21 ∧ x21 ≤ 13) (d0 : x6 + 1 ≤ x18 ∧ x18 ≤ x6 + 1) (f0 : (styleKind_0 = 0) → (styleOne_0 ≤ 23)) (f1 : 1 * x1 + ((-1) * x19 + 0) ≤ 0) (f2 : (-1) * x7 + ((-1) * x19 + 0) ≤ (-2011)) (f3 : GPW (styleKind_0) (limit_0) (tokenKind_0) (tokenValue_0) (tokenPlace_0) (tokenEnd_0) (tape_0) (x19) (x20) (x1) (x2) (x3)) (f4 : 1 * x21 + 0 ≤ 0) (f5 : (-1) * x21 + 0 ≤ 0) (f6 : (styleKind_0 = 0) → (styleOne_0 ≤ 23)) (f7 : 1 * x3 + 0 ≤ 0) (f8 : (-1) * x3 + 0 ≤ 0) (f10 : ((cur_0 + 1) ≤ tokens_0) ∧ ((tokens_0 ≤ 2010) ∧ ((tokenKind_0 ((tokens_0 - 1)) = 0) ∨ (tokenKind_0 ((tokens_0 - 1)) = 4)))) (f11 : 1 * x19 + ((-1) * cur_0 + 0) ≤ 0) (f12 : 1 * opened_0 + 0 ≤ 0) (f13 : (-1) * opened_0 + 0 ≤ 0) (f14 : SVL (fault_0) (cur_0) (styleKind_0) (limit_0) (tokenKind_0) (tokenValue_0) (tokenPlace_0) (tokenEnd_0) (tape_0) (x19) (x20) (x21)) (f16 : 1 * x1 + ((-1) * x19 + 0) ≤ 0) (f17 : (-1) * x7 + ((-1) * x19 + 0) ≤ (-2011)) (f18 : 1 * x21 + 0 ≤ 0) (f19 : (-1) * x21 + 0 ≤ 0) (f20 : 1 * x3 + 0 ≤ 0) (f21 : (-1) * x3 + 0 ≤ 0) (f23 : x18 = x6 + x17) (f24 : 1 * x3 + 0 ≤ 0) (f25 : (-1) * x3 + 0 ≤ 0) (hK_0_1 : ∀ j : Int, 0 ≤ j → j < 2000 → (-128) ≤ tape_0 j ∧ tape_0 j ≤ 127) (hK_0_160 : ∀ j : Int, 0 ≤ j → j < 2010 → 0 ≤ tokenKind_0 j ∧ tokenKind_0 j ≤ 4) (hK_0_162 : ∀ j : Int, 0 ≤ j → j < 2010 → 0 ≤ tokenPlace_0 j ∧ tokenPlace_0 j ≤ 2000) (hK_0_163 : ∀ j : Int, 0 ≤ j → j < 2010 → 0 ≤ tokenEnd_0 j ∧ tokenEnd_0 j ≤ 2000) (kz_0_8 : 0 ≤ fault_0 ∧ fault_0 ≤ 5) (kz_0_10 : 0 ≤ limit_0 ∧ limit_0 ≤ 2000) (kz_0_157 : 0 ≤ tokens_0 ∧ tokens_0 ≤ 2010) (kz_0_158 : 0 ≤ cur_0 ∧ cur_0 ≤ 2009) (kz_0_159 : 0 ≤ opened_0 ∧ opened_0 ≤ 13) (kz_0_164 : 0 ≤ styleKind_0 ∧ styleKind_0 ≤ 1) (kz_0_165 : (-1) ≤ styleOne_0 ∧ styleOne_0 ≤ 47) (ex2 : gx = 0 + (1 * x7 + 0)) (ex3 : 0 ≤ gx ∧ gx ≤ 2010) : ((cur_0 + 1) ≤ tokens_0) ∧ ((tokens_0 ≤ 2010) ∧ ((tokenKind_0 ((tokens_0 - 1)) = 0) ∨ (tokenKind_0 ((tokens_0 - 1)) = 4))) := by
  first | assumption | (clear f0 f6 f10 hK_0_1 hK_0_160 hK_0_162 hK_0_163; omega) | (clear hK_0_1 hK_0_160 hK_0_162 hK_0_163; grind) | omega | grind
set_option maxHeartbeats 4000000 in
theorem vc_Mo_product_at_f0_9_1 (x1 : Int) (x2 : Int) (x3 : Int) (x6 : Int) (x7 : Int) (x17 : Int) (x18 : Int) (x19 : Int) (x20 : Int) (x21 : Int) (styleKind_0 : Int) (styleOne_0 : Int) (tokenKind_0 : Int → Int) (tokenValue_0 : Int → Int) (tokenPlace_0 : Int → Int) (tokenEnd_0 : Int → Int) (tape_0 : Int → Int) (limit_0 : Int) (cur_0 : Int) (tokens_0 : Int) (opened_0 : Int) (fault_0 : Int) (gx : Int) (k1 : 0 ≤ x1 ∧ x1 ≤ 2009) (k2 : 0 ≤ x2 ∧ x2 ≤ 5) (k3 : 0 ≤ x3 ∧ x3 ≤ 13) (k6 : 0 ≤ x6 ∧ x6 ≤ 2009) (k7 : 0 ≤ x7 ∧ x7 ≤ 2010) (k17 : 1 ≤ x17 ∧ x17 ≤ 1) (k18 : 1 ≤ x18 ∧ x18 ≤ 2009) (k19 : 0 ≤ x19 ∧ x19 ≤ 2009) (k20 : 0 ≤ x20 ∧ x20 ≤ 5) (k21 : 0 ≤ x21 ∧ x21 ≤ 13) (d0 : x6 + 1 ≤ x18 ∧ x18 ≤ x6 + 1) (f0 : (styleKind_0 = 0) → (styleOne_0 ≤ 23)) (f1 : 1 * x1 + ((-1) * x19 + 0) ≤ 0) (f2 : (-1) * x7 + ((-1) * x19 + 0) ≤ (-2011)) (f3 : GPW (styleKind_0) (limit_0) (tokenKind_0) (tokenValue_0) (tokenPlace_0) (tokenEnd_0) (tape_0) (x19) (x20) (x1) (x2) (x3)) (f4 : 1 * x21 + 0 ≤ 0) (f5 : (-1) * x21 + 0 ≤ 0) (f6 : (styleKind_0 = 0) → (styleOne_0 ≤ 23)) (f7 : 1 * x3 + 0 ≤ 0) (f8 : (-1) * x3 + 0 ≤ 0) (f10 : ((cur_0 + 1) ≤ tokens_0) ∧ ((tokens_0 ≤ 2010) ∧ ((tokenKind_0 ((tokens_0 - 1)) = 0) ∨ (tokenKind_0 ((tokens_0 - 1)) = 4)))) (f11 : 1 * x19 + ((-1) * cur_0 + 0) ≤ 0) (f12 : 1 * opened_0 + 0 ≤ 0) (f13 : (-1) * opened_0 + 0 ≤ 0) (f14 : SVL (fault_0) (cur_0) (styleKind_0) (limit_0) (tokenKind_0) (tokenValue_0) (tokenPlace_0) (tokenEnd_0) (tape_0) (x19) (x20) (x21)) (f16 : 1 * x1 + ((-1) * x19 + 0) ≤ 0) (f17 : (-1) * x7 + ((-1) * x19 + 0) ≤ (-2011)) (f18 : 1 * x21 + 0 ≤ 0) (f19 : (-1) * x21 + 0 ≤ 0) (f20 : 1 * x3 + 0 ≤ 0) (f21 : (-1) * x3 + 0 ≤ 0) (f23 : x18 = x6 + x17) (f24 : 1 * x3 + 0 ≤ 0) (f25 : (-1) * x3 + 0 ≤ 0) (hK_0_1 : ∀ j : Int, 0 ≤ j → j < 2000 → (-128) ≤ tape_0 j ∧ tape_0 j ≤ 127) (hK_0_160 : ∀ j : Int, 0 ≤ j → j < 2010 → 0 ≤ tokenKind_0 j ∧ tokenKind_0 j ≤ 4) (hK_0_162 : ∀ j : Int, 0 ≤ j → j < 2010 → 0 ≤ tokenPlace_0 j ∧ tokenPlace_0 j ≤ 2000) (hK_0_163 : ∀ j : Int, 0 ≤ j → j < 2010 → 0 ≤ tokenEnd_0 j ∧ tokenEnd_0 j ≤ 2000) (kz_0_8 : 0 ≤ fault_0 ∧ fault_0 ≤ 5) (kz_0_10 : 0 ≤ limit_0 ∧ limit_0 ≤ 2000) (kz_0_157 : 0 ≤ tokens_0 ∧ tokens_0 ≤ 2010) (kz_0_158 : 0 ≤ cur_0 ∧ cur_0 ≤ 2009) (kz_0_159 : 0 ≤ opened_0 ∧ opened_0 ≤ 13) (kz_0_164 : 0 ≤ styleKind_0 ∧ styleKind_0 ≤ 1) (kz_0_165 : (-1) ≤ styleOne_0 ∧ styleOne_0 ≤ 47) (ex2 : gx = 0 + (1 * x7 + 0)) (ex3 : 0 ≤ gx ∧ gx ≤ 2010) : 1 * x1 + ((-1) * cur_0 + 0) ≤ 0 := by
  first | assumption | (clear f0 f6 f10 hK_0_1 hK_0_160 hK_0_162 hK_0_163; omega) | (clear hK_0_1 hK_0_160 hK_0_162 hK_0_163; grind) | omega | grind
set_option maxHeartbeats 4000000 in
theorem vc_Mo_product_at_f0_9_2 (x1 : Int) (x2 : Int) (x3 : Int) (x6 : Int) (x7 : Int) (x17 : Int) (x18 : Int) (x19 : Int) (x20 : Int) (x21 : Int) (styleKind_0 : Int) (styleOne_0 : Int) (tokenKind_0 : Int → Int) (tokenValue_0 : Int → Int) (tokenPlace_0 : Int → Int) (tokenEnd_0 : Int → Int) (tape_0 : Int → Int) (limit_0 : Int) (cur_0 : Int) (tokens_0 : Int) (opened_0 : Int) (fault_0 : Int) (gx : Int) (k1 : 0 ≤ x1 ∧ x1 ≤ 2009) (k2 : 0 ≤ x2 ∧ x2 ≤ 5) (k3 : 0 ≤ x3 ∧ x3 ≤ 13) (k6 : 0 ≤ x6 ∧ x6 ≤ 2009) (k7 : 0 ≤ x7 ∧ x7 ≤ 2010) (k17 : 1 ≤ x17 ∧ x17 ≤ 1) (k18 : 1 ≤ x18 ∧ x18 ≤ 2009) (k19 : 0 ≤ x19 ∧ x19 ≤ 2009) (k20 : 0 ≤ x20 ∧ x20 ≤ 5) (k21 : 0 ≤ x21 ∧ x21 ≤ 13) (d0 : x6 + 1 ≤ x18 ∧ x18 ≤ x6 + 1) (f0 : (styleKind_0 = 0) → (styleOne_0 ≤ 23)) (f1 : 1 * x1 + ((-1) * x19 + 0) ≤ 0) (f2 : (-1) * x7 + ((-1) * x19 + 0) ≤ (-2011)) (f3 : GPW (styleKind_0) (limit_0) (tokenKind_0) (tokenValue_0) (tokenPlace_0) (tokenEnd_0) (tape_0) (x19) (x20) (x1) (x2) (x3)) (f4 : 1 * x21 + 0 ≤ 0) (f5 : (-1) * x21 + 0 ≤ 0) (f6 : (styleKind_0 = 0) → (styleOne_0 ≤ 23)) (f7 : 1 * x3 + 0 ≤ 0) (f8 : (-1) * x3 + 0 ≤ 0) (f10 : ((cur_0 + 1) ≤ tokens_0) ∧ ((tokens_0 ≤ 2010) ∧ ((tokenKind_0 ((tokens_0 - 1)) = 0) ∨ (tokenKind_0 ((tokens_0 - 1)) = 4)))) (f11 : 1 * x19 + ((-1) * cur_0 + 0) ≤ 0) (f12 : 1 * opened_0 + 0 ≤ 0) (f13 : (-1) * opened_0 + 0 ≤ 0) (f14 : SVL (fault_0) (cur_0) (styleKind_0) (limit_0) (tokenKind_0) (tokenValue_0) (tokenPlace_0) (tokenEnd_0) (tape_0) (x19) (x20) (x21)) (f16 : 1 * x1 + ((-1) * x19 + 0) ≤ 0) (f17 : (-1) * x7 + ((-1) * x19 + 0) ≤ (-2011)) (f18 : 1 * x21 + 0 ≤ 0) (f19 : (-1) * x21 + 0 ≤ 0) (f20 : 1 * x3 + 0 ≤ 0) (f21 : (-1) * x3 + 0 ≤ 0) (f23 : x18 = x6 + x17) (f24 : 1 * x3 + 0 ≤ 0) (f25 : (-1) * x3 + 0 ≤ 0) (hK_0_1 : ∀ j : Int, 0 ≤ j → j < 2000 → (-128) ≤ tape_0 j ∧ tape_0 j ≤ 127) (hK_0_160 : ∀ j : Int, 0 ≤ j → j < 2010 → 0 ≤ tokenKind_0 j ∧ tokenKind_0 j ≤ 4) (hK_0_162 : ∀ j : Int, 0 ≤ j → j < 2010 → 0 ≤ tokenPlace_0 j ∧ tokenPlace_0 j ≤ 2000) (hK_0_163 : ∀ j : Int, 0 ≤ j → j < 2010 → 0 ≤ tokenEnd_0 j ∧ tokenEnd_0 j ≤ 2000) (kz_0_8 : 0 ≤ fault_0 ∧ fault_0 ≤ 5) (kz_0_10 : 0 ≤ limit_0 ∧ limit_0 ≤ 2000) (kz_0_157 : 0 ≤ tokens_0 ∧ tokens_0 ≤ 2010) (kz_0_158 : 0 ≤ cur_0 ∧ cur_0 ≤ 2009) (kz_0_159 : 0 ≤ opened_0 ∧ opened_0 ≤ 13) (kz_0_164 : 0 ≤ styleKind_0 ∧ styleKind_0 ≤ 1) (kz_0_165 : (-1) ≤ styleOne_0 ∧ styleOne_0 ≤ 47) (ex2 : gx = 0 + (1 * x7 + 0)) (ex3 : 0 ≤ gx ∧ gx ≤ 2010) : (styleKind_0 = 0) → (styleOne_0 ≤ 23) := by
  first | assumption | (clear f0 f6 f10 hK_0_1 hK_0_160 hK_0_162 hK_0_163; omega) | (clear hK_0_1 hK_0_160 hK_0_162 hK_0_163; grind) | omega | grind
set_option maxHeartbeats 4000000 in
theorem vc_Mo_product_at_f0_9_3 (x1 : Int) (x2 : Int) (x3 : Int) (x6 : Int) (x7 : Int) (x17 : Int) (x18 : Int) (x19 : Int) (x20 : Int) (x21 : Int) (styleKind_0 : Int) (styleOne_0 : Int) (tokenKind_0 : Int → Int) (tokenValue_0 : Int → Int) (tokenPlace_0 : Int → Int) (tokenEnd_0 : Int → Int) (tape_0 : Int → Int) (limit_0 : Int) (cur_0 : Int) (tokens_0 : Int) (opened_0 : Int) (fault_0 : Int) (gx : Int) (k1 : 0 ≤ x1 ∧ x1 ≤ 2009) (k2 : 0 ≤ x2 ∧ x2 ≤ 5) (k3 : 0 ≤ x3 ∧ x3 ≤ 13) (k6 : 0 ≤ x6 ∧ x6 ≤ 2009) (k7 : 0 ≤ x7 ∧ x7 ≤ 2010) (k17 : 1 ≤ x17 ∧ x17 ≤ 1) (k18 : 1 ≤ x18 ∧ x18 ≤ 2009) (k19 : 0 ≤ x19 ∧ x19 ≤ 2009) (k20 : 0 ≤ x20 ∧ x20 ≤ 5) (k21 : 0 ≤ x21 ∧ x21 ≤ 13) (d0 : x6 + 1 ≤ x18 ∧ x18 ≤ x6 + 1) (f0 : (styleKind_0 = 0) → (styleOne_0 ≤ 23)) (f1 : 1 * x1 + ((-1) * x19 + 0) ≤ 0) (f2 : (-1) * x7 + ((-1) * x19 + 0) ≤ (-2011)) (f3 : GPW (styleKind_0) (limit_0) (tokenKind_0) (tokenValue_0) (tokenPlace_0) (tokenEnd_0) (tape_0) (x19) (x20) (x1) (x2) (x3)) (f4 : 1 * x21 + 0 ≤ 0) (f5 : (-1) * x21 + 0 ≤ 0) (f6 : (styleKind_0 = 0) → (styleOne_0 ≤ 23)) (f7 : 1 * x3 + 0 ≤ 0) (f8 : (-1) * x3 + 0 ≤ 0) (f10 : ((cur_0 + 1) ≤ tokens_0) ∧ ((tokens_0 ≤ 2010) ∧ ((tokenKind_0 ((tokens_0 - 1)) = 0) ∨ (tokenKind_0 ((tokens_0 - 1)) = 4)))) (f11 : 1 * x19 + ((-1) * cur_0 + 0) ≤ 0) (f12 : 1 * opened_0 + 0 ≤ 0) (f13 : (-1) * opened_0 + 0 ≤ 0) (f14 : SVL (fault_0) (cur_0) (styleKind_0) (limit_0) (tokenKind_0) (tokenValue_0) (tokenPlace_0) (tokenEnd_0) (tape_0) (x19) (x20) (x21)) (f16 : 1 * x1 + ((-1) * x19 + 0) ≤ 0) (f17 : (-1) * x7 + ((-1) * x19 + 0) ≤ (-2011)) (f18 : 1 * x21 + 0 ≤ 0) (f19 : (-1) * x21 + 0 ≤ 0) (f20 : 1 * x3 + 0 ≤ 0) (f21 : (-1) * x3 + 0 ≤ 0) (f23 : x18 = x6 + x17) (f24 : 1 * x3 + 0 ≤ 0) (f25 : (-1) * x3 + 0 ≤ 0) (hK_0_1 : ∀ j : Int, 0 ≤ j → j < 2000 → (-128) ≤ tape_0 j ∧ tape_0 j ≤ 127) (hK_0_160 : ∀ j : Int, 0 ≤ j → j < 2010 → 0 ≤ tokenKind_0 j ∧ tokenKind_0 j ≤ 4) (hK_0_162 : ∀ j : Int, 0 ≤ j → j < 2010 → 0 ≤ tokenPlace_0 j ∧ tokenPlace_0 j ≤ 2000) (hK_0_163 : ∀ j : Int, 0 ≤ j → j < 2010 → 0 ≤ tokenEnd_0 j ∧ tokenEnd_0 j ≤ 2000) (kz_0_8 : 0 ≤ fault_0 ∧ fault_0 ≤ 5) (kz_0_10 : 0 ≤ limit_0 ∧ limit_0 ≤ 2000) (kz_0_157 : 0 ≤ tokens_0 ∧ tokens_0 ≤ 2010) (kz_0_158 : 0 ≤ cur_0 ∧ cur_0 ≤ 2009) (kz_0_159 : 0 ≤ opened_0 ∧ opened_0 ≤ 13) (kz_0_164 : 0 ≤ styleKind_0 ∧ styleKind_0 ≤ 1) (kz_0_165 : (-1) ≤ styleOne_0 ∧ styleOne_0 ≤ 47) (ex2 : gx = 0 + (1 * x7 + 0)) (ex3 : 0 ≤ gx ∧ gx ≤ 2010) : 1 * opened_0 + 0 ≤ 0 := by
  first | assumption | (clear f0 f6 f10 hK_0_1 hK_0_160 hK_0_162 hK_0_163; omega) | (clear hK_0_1 hK_0_160 hK_0_162 hK_0_163; grind) | omega | grind
set_option maxHeartbeats 4000000 in
theorem vc_Mo_product_at_f0_9_4 (x1 : Int) (x2 : Int) (x3 : Int) (x6 : Int) (x7 : Int) (x17 : Int) (x18 : Int) (x19 : Int) (x20 : Int) (x21 : Int) (styleKind_0 : Int) (styleOne_0 : Int) (tokenKind_0 : Int → Int) (tokenValue_0 : Int → Int) (tokenPlace_0 : Int → Int) (tokenEnd_0 : Int → Int) (tape_0 : Int → Int) (limit_0 : Int) (cur_0 : Int) (tokens_0 : Int) (opened_0 : Int) (fault_0 : Int) (gx : Int) (k1 : 0 ≤ x1 ∧ x1 ≤ 2009) (k2 : 0 ≤ x2 ∧ x2 ≤ 5) (k3 : 0 ≤ x3 ∧ x3 ≤ 13) (k6 : 0 ≤ x6 ∧ x6 ≤ 2009) (k7 : 0 ≤ x7 ∧ x7 ≤ 2010) (k17 : 1 ≤ x17 ∧ x17 ≤ 1) (k18 : 1 ≤ x18 ∧ x18 ≤ 2009) (k19 : 0 ≤ x19 ∧ x19 ≤ 2009) (k20 : 0 ≤ x20 ∧ x20 ≤ 5) (k21 : 0 ≤ x21 ∧ x21 ≤ 13) (d0 : x6 + 1 ≤ x18 ∧ x18 ≤ x6 + 1) (f0 : (styleKind_0 = 0) → (styleOne_0 ≤ 23)) (f1 : 1 * x1 + ((-1) * x19 + 0) ≤ 0) (f2 : (-1) * x7 + ((-1) * x19 + 0) ≤ (-2011)) (f3 : GPW (styleKind_0) (limit_0) (tokenKind_0) (tokenValue_0) (tokenPlace_0) (tokenEnd_0) (tape_0) (x19) (x20) (x1) (x2) (x3)) (f4 : 1 * x21 + 0 ≤ 0) (f5 : (-1) * x21 + 0 ≤ 0) (f6 : (styleKind_0 = 0) → (styleOne_0 ≤ 23)) (f7 : 1 * x3 + 0 ≤ 0) (f8 : (-1) * x3 + 0 ≤ 0) (f10 : ((cur_0 + 1) ≤ tokens_0) ∧ ((tokens_0 ≤ 2010) ∧ ((tokenKind_0 ((tokens_0 - 1)) = 0) ∨ (tokenKind_0 ((tokens_0 - 1)) = 4)))) (f11 : 1 * x19 + ((-1) * cur_0 + 0) ≤ 0) (f12 : 1 * opened_0 + 0 ≤ 0) (f13 : (-1) * opened_0 + 0 ≤ 0) (f14 : SVL (fault_0) (cur_0) (styleKind_0) (limit_0) (tokenKind_0) (tokenValue_0) (tokenPlace_0) (tokenEnd_0) (tape_0) (x19) (x20) (x21)) (f16 : 1 * x1 + ((-1) * x19 + 0) ≤ 0) (f17 : (-1) * x7 + ((-1) * x19 + 0) ≤ (-2011)) (f18 : 1 * x21 + 0 ≤ 0) (f19 : (-1) * x21 + 0 ≤ 0) (f20 : 1 * x3 + 0 ≤ 0) (f21 : (-1) * x3 + 0 ≤ 0) (f23 : x18 = x6 + x17) (f24 : 1 * x3 + 0 ≤ 0) (f25 : (-1) * x3 + 0 ≤ 0) (hK_0_1 : ∀ j : Int, 0 ≤ j → j < 2000 → (-128) ≤ tape_0 j ∧ tape_0 j ≤ 127) (hK_0_160 : ∀ j : Int, 0 ≤ j → j < 2010 → 0 ≤ tokenKind_0 j ∧ tokenKind_0 j ≤ 4) (hK_0_162 : ∀ j : Int, 0 ≤ j → j < 2010 → 0 ≤ tokenPlace_0 j ∧ tokenPlace_0 j ≤ 2000) (hK_0_163 : ∀ j : Int, 0 ≤ j → j < 2010 → 0 ≤ tokenEnd_0 j ∧ tokenEnd_0 j ≤ 2000) (kz_0_8 : 0 ≤ fault_0 ∧ fault_0 ≤ 5) (kz_0_10 : 0 ≤ limit_0 ∧ limit_0 ≤ 2000) (kz_0_157 : 0 ≤ tokens_0 ∧ tokens_0 ≤ 2010) (kz_0_158 : 0 ≤ cur_0 ∧ cur_0 ≤ 2009) (kz_0_159 : 0 ≤ opened_0 ∧ opened_0 ≤ 13) (kz_0_164 : 0 ≤ styleKind_0 ∧ styleKind_0 ≤ 1) (kz_0_165 : (-1) ≤ styleOne_0 ∧ styleOne_0 ≤ 47) (ex2 : gx = 0 + (1 * x7 + 0)) (ex3 : 0 ≤ gx ∧ gx ≤ 2010) : (-1) * opened_0 + 0 ≤ 0 := by
  first | assumption | (clear f0 f6 f10 hK_0_1 hK_0_160 hK_0_162 hK_0_163; omega) | (clear hK_0_1 hK_0_160 hK_0_162 hK_0_163; grind) | omega | grind
set_option maxHeartbeats 4000000 in
theorem vc_Mo_product_at_f0_9_5 (x1 : Int) (x2 : Int) (x3 : Int) (x6 : Int) (x7 : Int) (x17 : Int) (x18 : Int) (x19 : Int) (x20 : Int) (x21 : Int) (styleKind_0 : Int) (styleOne_0 : Int) (tokenKind_0 : Int → Int) (tokenValue_0 : Int → Int) (tokenPlace_0 : Int → Int) (tokenEnd_0 : Int → Int) (tape_0 : Int → Int) (limit_0 : Int) (cur_0 : Int) (tokens_0 : Int) (opened_0 : Int) (fault_0 : Int) (gx : Int) (k1 : 0 ≤ x1 ∧ x1 ≤ 2009) (k2 : 0 ≤ x2 ∧ x2 ≤ 5) (k3 : 0 ≤ x3 ∧ x3 ≤ 13) (k6 : 0 ≤ x6 ∧ x6 ≤ 2009) (k7 : 0 ≤ x7 ∧ x7 ≤ 2010) (k17 : 1 ≤ x17 ∧ x17 ≤ 1) (k18 : 1 ≤ x18 ∧ x18 ≤ 2009) (k19 : 0 ≤ x19 ∧ x19 ≤ 2009) (k20 : 0 ≤ x20 ∧ x20 ≤ 5) (k21 : 0 ≤ x21 ∧ x21 ≤ 13) (d0 : x6 + 1 ≤ x18 ∧ x18 ≤ x6 + 1) (f0 : (styleKind_0 = 0) → (styleOne_0 ≤ 23)) (f1 : 1 * x1 + ((-1) * x19 + 0) ≤ 0) (f2 : (-1) * x7 + ((-1) * x19 + 0) ≤ (-2011)) (f3 : GPW (styleKind_0) (limit_0) (tokenKind_0) (tokenValue_0) (tokenPlace_0) (tokenEnd_0) (tape_0) (x19) (x20) (x1) (x2) (x3)) (f4 : 1 * x21 + 0 ≤ 0) (f5 : (-1) * x21 + 0 ≤ 0) (f6 : (styleKind_0 = 0) → (styleOne_0 ≤ 23)) (f7 : 1 * x3 + 0 ≤ 0) (f8 : (-1) * x3 + 0 ≤ 0) (f10 : ((cur_0 + 1) ≤ tokens_0) ∧ ((tokens_0 ≤ 2010) ∧ ((tokenKind_0 ((tokens_0 - 1)) = 0) ∨ (tokenKind_0 ((tokens_0 - 1)) = 4)))) (f11 : 1 * x19 + ((-1) * cur_0 + 0) ≤ 0) (f12 : 1 * opened_0 + 0 ≤ 0) (f13 : (-1) * opened_0 + 0 ≤ 0) (f14 : SVL (fault_0) (cur_0) (styleKind_0) (limit_0) (tokenKind_0) (tokenValue_0) (tokenPlace_0) (tokenEnd_0) (tape_0) (x19) (x20) (x21)) (f16 : 1 * x1 + ((-1) * x19 + 0) ≤ 0) (f17 : (-1) * x7 + ((-1) * x19 + 0) ≤ (-2011)) (f18 : 1 * x21 + 0 ≤ 0) (f19 : (-1) * x21 + 0 ≤ 0) (f20 : 1 * x3 + 0 ≤ 0) (f21 : (-1) * x3 + 0 ≤ 0) (f23 : x18 = x6 + x17) (f24 : 1 * x3 + 0 ≤ 0) (f25 : (-1) * x3 + 0 ≤ 0) (hK_0_1 : ∀ j : Int, 0 ≤ j → j < 2000 → (-128) ≤ tape_0 j ∧ tape_0 j ≤ 127) (hK_0_160 : ∀ j : Int, 0 ≤ j → j < 2010 → 0 ≤ tokenKind_0 j ∧ tokenKind_0 j ≤ 4) (hK_0_162 : ∀ j : Int, 0 ≤ j → j < 2010 → 0 ≤ tokenPlace_0 j ∧ tokenPlace_0 j ≤ 2000) (hK_0_163 : ∀ j : Int, 0 ≤ j → j < 2010 → 0 ≤ tokenEnd_0 j ∧ tokenEnd_0 j ≤ 2000) (kz_0_8 : 0 ≤ fault_0 ∧ fault_0 ≤ 5) (kz_0_10 : 0 ≤ limit_0 ∧ limit_0 ≤ 2000) (kz_0_157 : 0 ≤ tokens_0 ∧ tokens_0 ≤ 2010) (kz_0_158 : 0 ≤ cur_0 ∧ cur_0 ≤ 2009) (kz_0_159 : 0 ≤ opened_0 ∧ opened_0 ≤ 13) (kz_0_164 : 0 ≤ styleKind_0 ∧ styleKind_0 ≤ 1) (kz_0_165 : (-1) ≤ styleOne_0 ∧ styleOne_0 ≤ 47) (ex2 : gx = 0 + (1 * x7 + 0)) (ex3 : 0 ≤ gx ∧ gx ≤ 2010) : (-1) * gx + ((-1) * cur_0 + 0) ≤ (-2011) := by
  first | assumption | (clear f0 f6 f10 hK_0_1 hK_0_160 hK_0_162 hK_0_163; omega) | (clear hK_0_1 hK_0_160 hK_0_162 hK_0_163; grind) | omega | grind
set_option maxHeartbeats 4000000 in
theorem vc_Mo_product_at_f0_9_6 (x1 : Int) (x2 : Int) (x3 : Int) (x19 : Int) (x20 : Int) (x21 : Int) (styleKind_0 : Int) (tokenKind_0 : Int → Int) (tokenValue_0 : Int → Int) (tokenPlace_0 : Int → Int) (tokenEnd_0 : Int → Int) (tape_0 : Int → Int) (limit_0 : Int) (cur_0 : Int) (fault_0 : Int) (k1 : 0 ≤ x1 ∧ x1 ≤ 2009) (k2 : 0 ≤ x2 ∧ x2 ≤ 5) (k3 : 0 ≤ x3 ∧ x3 ≤ 13) (k19 : 0 ≤ x19 ∧ x19 ≤ 2009) (k20 : 0 ≤ x20 ∧ x20 ≤ 5) (k21 : 0 ≤ x21 ∧ x21 ≤ 13) (f3 : GPW (styleKind_0) (limit_0) (tokenKind_0) (tokenValue_0) (tokenPlace_0) (tokenEnd_0) (tape_0) (x19) (x20) (x1) (x2) (x3)) (f4 : 1 * x21 + 0 ≤ 0) (f7 : 1 * x3 + 0 ≤ 0) (f11 : 1 * x19 + ((-1) * cur_0 + 0) ≤ 0) (f14 : SVL (fault_0) (cur_0) (styleKind_0) (limit_0) (tokenKind_0) (tokenValue_0) (tokenPlace_0) (tokenEnd_0) (tape_0) (x19) (x20) (x21)) (kz_0_8 : 0 ≤ fault_0 ∧ fault_0 ≤ 5) (kz_0_10 : 0 ≤ limit_0 ∧ limit_0 ≤ 2000) (kz_0_158 : 0 ≤ cur_0 ∧ cur_0 ≤ 2009) (kz_0_164 : 0 ≤ styleKind_0 ∧ styleKind_0 ≤ 1) : SPWv (fault_0) (cur_0) (styleKind_0) (limit_0) (tokenKind_0) (tokenValue_0) (tokenPlace_0) (tokenEnd_0) (tape_0) (x1) (x2) (x3) := by
  first
    | exact spw_start (‹SVL _ _ _ _ _ _ _ _ _ _ _ _›) (by omega) (by omega) (by omega) (by omega)
    | exact spw_go (‹GPW _ _ _ _ _ _ _ _ _ _ _ _›) (‹SVL _ _ _ _ _ _ _ _ _ _ _ _›) (by omega) (by omega) (by omega)
    | assumption
  
set_option maxHeartbeats 4000000 in
theorem vc_Mo_product_at_f0_9_7 (x1 : Int) (x2 : Int) (x3 : Int) (x6 : Int) (x7 : Int) (x17 : Int) (x18 : Int) (x19 : Int) (x20 : Int) (x21 : Int) (styleKind_0 : Int) (styleOne_0 : Int) (tokenKind_0 : Int → Int) (tokenValue_0 : Int → Int) (tokenPlace_0 : Int → Int) (tokenEnd_0 : Int → Int) (tape_0 : Int → Int) (limit_0 : Int) (cur_0 : Int) (tokens_0 : Int) (opened_0 : Int) (fault_0 : Int) (gx : Int) (k1 : 0 ≤ x1 ∧ x1 ≤ 2009) (k2 : 0 ≤ x2 ∧ x2 ≤ 5) (k3 : 0 ≤ x3 ∧ x3 ≤ 13) (k6 : 0 ≤ x6 ∧ x6 ≤ 2009) (k7 : 0 ≤ x7 ∧ x7 ≤ 2010) (k17 : 1 ≤ x17 ∧ x17 ≤ 1) (k18 : 1 ≤ x18 ∧ x18 ≤ 2009) (k19 : 0 ≤ x19 ∧ x19 ≤ 2009) (k20 : 0 ≤ x20 ∧ x20 ≤ 5) (k21 : 0 ≤ x21 ∧ x21 ≤ 13) (d0 : x6 + 1 ≤ x18 ∧ x18 ≤ x6 + 1) (f0 : (styleKind_0 = 0) → (styleOne_0 ≤ 23)) (f1 : 1 * x1 + ((-1) * x19 + 0) ≤ 0) (f2 : (-1) * x7 + ((-1) * x19 + 0) ≤ (-2011)) (f3 : GPW (styleKind_0) (limit_0) (tokenKind_0) (tokenValue_0) (tokenPlace_0) (tokenEnd_0) (tape_0) (x19) (x20) (x1) (x2) (x3)) (f4 : 1 * x21 + 0 ≤ 0) (f5 : (-1) * x21 + 0 ≤ 0) (f6 : (styleKind_0 = 0) → (styleOne_0 ≤ 23)) (f7 : 1 * x3 + 0 ≤ 0) (f8 : (-1) * x3 + 0 ≤ 0) (f10 : ((cur_0 + 1) ≤ tokens_0) ∧ ((tokens_0 ≤ 2010) ∧ ((tokenKind_0 ((tokens_0 - 1)) = 0) ∨ (tokenKind_0 ((tokens_0 - 1)) = 4)))) (f11 : 1 * x19 + ((-1) * cur_0 + 0) ≤ 0) (f12 : 1 * opened_0 + 0 ≤ 0) (f13 : (-1) * opened_0 + 0 ≤ 0) (f14 : SVL (fault_0) (cur_0) (styleKind_0) (limit_0) (tokenKind_0) (tokenValue_0) (tokenPlace_0) (tokenEnd_0) (tape_0) (x19) (x20) (x21)) (f16 : 1 * x1 + ((-1) * x19 + 0) ≤ 0) (f17 : (-1) * x7 + ((-1) * x19 + 0) ≤ (-2011)) (f18 : 1 * x21 + 0 ≤ 0) (f19 : (-1) * x21 + 0 ≤ 0) (f20 : 1 * x3 + 0 ≤ 0) (f21 : (-1) * x3 + 0 ≤ 0) (f23 : x18 = x6 + x17) (f24 : 1 * x3 + 0 ≤ 0) (f25 : (-1) * x3 + 0 ≤ 0) (hK_0_1 : ∀ j : Int, 0 ≤ j → j < 2000 → (-128) ≤ tape_0 j ∧ tape_0 j ≤ 127) (hK_0_160 : ∀ j : Int, 0 ≤ j → j < 2010 → 0 ≤ tokenKind_0 j ∧ tokenKind_0 j ≤ 4) (hK_0_162 : ∀ j : Int, 0 ≤ j → j < 2010 → 0 ≤ tokenPlace_0 j ∧ tokenPlace_0 j ≤ 2000) (hK_0_163 : ∀ j : Int, 0 ≤ j → j < 2010 → 0 ≤ tokenEnd_0 j ∧ tokenEnd_0 j ≤ 2000) (kz_0_8 : 0 ≤ fault_0 ∧ fault_0 ≤ 5) (kz_0_10 : 0 ≤ limit_0 ∧ limit_0 ≤ 2000) (kz_0_157 : 0 ≤ tokens_0 ∧ tokens_0 ≤ 2010) (kz_0_158 : 0 ≤ cur_0 ∧ cur_0 ≤ 2009) (kz_0_159 : 0 ≤ opened_0 ∧ opened_0 ≤ 13) (kz_0_164 : 0 ≤ styleKind_0 ∧ styleKind_0 ≤ 1) (kz_0_165 : (-1) ≤ styleOne_0 ∧ styleOne_0 ≤ 47) (ex2 : gx = 0 + (1 * x7 + 0)) (ex3 : 0 ≤ gx ∧ gx ≤ 2010) : 1 * x3 + 0 ≤ 0 := by
  first | assumption | (clear f0 f6 f10 hK_0_1 hK_0_160 hK_0_162 hK_0_163; omega) | (clear hK_0_1 hK_0_160 hK_0_162 hK_0_163; grind) | omega | grind
set_option maxHeartbeats 4000000 in
theorem vc_Mo_product_at_f0_9_8 (x1 : Int) (x2 : Int) (x3 : Int) (x6 : Int) (x7 : Int) (x17 : Int) (x18 : Int) (x19 : Int) (x20 : Int) (x21 : Int) (styleKind_0 : Int) (styleOne_0 : Int) (tokenKind_0 : Int → Int) (tokenValue_0 : Int → Int) (tokenPlace_0 : Int → Int) (tokenEnd_0 : Int → Int) (tape_0 : Int → Int) (limit_0 : Int) (cur_0 : Int) (tokens_0 : Int) (opened_0 : Int) (fault_0 : Int) (gx : Int) (k1 : 0 ≤ x1 ∧ x1 ≤ 2009) (k2 : 0 ≤ x2 ∧ x2 ≤ 5) (k3 : 0 ≤ x3 ∧ x3 ≤ 13) (k6 : 0 ≤ x6 ∧ x6 ≤ 2009) (k7 : 0 ≤ x7 ∧ x7 ≤ 2010) (k17 : 1 ≤ x17 ∧ x17 ≤ 1) (k18 : 1 ≤ x18 ∧ x18 ≤ 2009) (k19 : 0 ≤ x19 ∧ x19 ≤ 2009) (k20 : 0 ≤ x20 ∧ x20 ≤ 5) (k21 : 0 ≤ x21 ∧ x21 ≤ 13) (d0 : x6 + 1 ≤ x18 ∧ x18 ≤ x6 + 1) (f0 : (styleKind_0 = 0) → (styleOne_0 ≤ 23)) (f1 : 1 * x1 + ((-1) * x19 + 0) ≤ 0) (f2 : (-1) * x7 + ((-1) * x19 + 0) ≤ (-2011)) (f3 : GPW (styleKind_0) (limit_0) (tokenKind_0) (tokenValue_0) (tokenPlace_0) (tokenEnd_0) (tape_0) (x19) (x20) (x1) (x2) (x3)) (f4 : 1 * x21 + 0 ≤ 0) (f5 : (-1) * x21 + 0 ≤ 0) (f6 : (styleKind_0 = 0) → (styleOne_0 ≤ 23)) (f7 : 1 * x3 + 0 ≤ 0) (f8 : (-1) * x3 + 0 ≤ 0) (f10 : ((cur_0 + 1) ≤ tokens_0) ∧ ((tokens_0 ≤ 2010) ∧ ((tokenKind_0 ((tokens_0 - 1)) = 0) ∨ (tokenKind_0 ((tokens_0 - 1)) = 4)))) (f11 : 1 * x19 + ((-1) * cur_0 + 0) ≤ 0) (f12 : 1 * opened_0 + 0 ≤ 0) (f13 : (-1) * opened_0 + 0 ≤ 0) (f14 : SVL (fault_0) (cur_0) (styleKind_0) (limit_0) (tokenKind_0) (tokenValue_0) (tokenPlace_0) (tokenEnd_0) (tape_0) (x19) (x20) (x21)) (f16 : 1 * x1 + ((-1) * x19 + 0) ≤ 0) (f17 : (-1) * x7 + ((-1) * x19 + 0) ≤ (-2011)) (f18 : 1 * x21 + 0 ≤ 0) (f19 : (-1) * x21 + 0 ≤ 0) (f20 : 1 * x3 + 0 ≤ 0) (f21 : (-1) * x3 + 0 ≤ 0) (f23 : x18 = x6 + x17) (f24 : 1 * x3 + 0 ≤ 0) (f25 : (-1) * x3 + 0 ≤ 0) (hK_0_1 : ∀ j : Int, 0 ≤ j → j < 2000 → (-128) ≤ tape_0 j ∧ tape_0 j ≤ 127) (hK_0_160 : ∀ j : Int, 0 ≤ j → j < 2010 → 0 ≤ tokenKind_0 j ∧ tokenKind_0 j ≤ 4) (hK_0_162 : ∀ j : Int, 0 ≤ j → j < 2010 → 0 ≤ tokenPlace_0 j ∧ tokenPlace_0 j ≤ 2000) (hK_0_163 : ∀ j : Int, 0 ≤ j → j < 2010 → 0 ≤ tokenEnd_0 j ∧ tokenEnd_0 j ≤ 2000) (kz_0_8 : 0 ≤ fault_0 ∧ fault_0 ≤ 5) (kz_0_10 : 0 ≤ limit_0 ∧ limit_0 ≤ 2000) (kz_0_157 : 0 ≤ tokens_0 ∧ tokens_0 ≤ 2010) (kz_0_158 : 0 ≤ cur_0 ∧ cur_0 ≤ 2009) (kz_0_159 : 0 ≤ opened_0 ∧ opened_0 ≤ 13) (kz_0_164 : 0 ≤ styleKind_0 ∧ styleKind_0 ≤ 1) (kz_0_165 : (-1) ≤ styleOne_0 ∧ styleOne_0 ≤ 47) (ex2 : gx = 0 + (1 * x7 + 0)) (ex3 : 0 ≤ gx ∧ gx ≤ 2010) : (-1) * x3 + 0 ≤ 0 := by
  first | assumption | (clear f0 f6 f10 hK_0_1 hK_0_160 hK_0_162 hK_0_163; omega) | (clear hK_0_1 hK_0_160 hK_0_162 hK_0_163; grind) | omega | grind
def o_Mo_product_at_f0_9 : or_T := (74, 25, [(0, (2, 0, 0, [165])), (1, (0, 0, 2009, [])), (2, (0, 0, 5, [])), (3, (0, 0, 13, [])), (4, (2, 0, 0, [165])), (6, (0, 0, 2009, [])), (7, (0, 0, 2010, [])), (17, (0, 1, 1, [])), (18, (0, 1, 2009, [])), (19, (0, 0, 2009, [])), (20, (0, 0, 5, [])), (21, (0, 0, 13, []))], [(20, [4], [50, 2, 0, 164, 165, 4, 7, 1, 3, 2, 0, 164, 0, 0, 0, 3, 2, 0, 165, 0, 23]), (23, [1, 19], [0, 1, -1]), (23, [7, 19], [-2011, -1, -1]), (20, [4, 19, 20, 1, 2, 3], [60, 2, 5, 10, 164, 10, 160, 161, 162, 163, 1]), (23, [21], [0, 1]), (23, [21], [0, -1]), (20, [4], [50, 2, 0, 164, 165, 4, 7, 1, 3, 2, 0, 164, 0, 0, 0, 3, 2, 0, 165, 0, 23]), (23, [3], [0, 1]), (23, [3], [0, -1]), (24, [0, 4], []), (20, [4], [50, 2, 1, 158, 157, 160, 2, 12, 0, 7, 4, 3, 2, 0, 158, 0, 1, 2, 0, 157, 2, 7, 0, 3, 2, 0, 157, 0, 2010, 3, 14, 1, 10, 3, 0, 160, 5, 3, 2, 0, 157, 0, 1, 0, 0, 1, 10, 3, 0, 160, 5, 3, 2, 0, 157, 0, 1, 0, 4]), (20, [19, 4], [30, 0, 1, 0, 0, -1, 1, 158]), (20, [4], [30, 0, 1, 1, 159]), (20, [4], [30, 0, -1, 1, 159]), (20, [4, 19, 20, 21], [60, 4, 5, 0, 8, 158, 164, 10, 160, 161, 162, 163, 1]), (102, [21], [0, 165008, 165009, 165158, 165159]), (23, [1, 19], [0, 1, -1]), (23, [7, 19], [-2011, -1, -1]), (23, [21], [0, 1]), (23, [21], [0, -1]), (23, [3], [0, 1]), (23, [3], [0, -1]), (101, [4, 18], [158]), (1, [18, 6, 17], []), (23, [3], [0, 1]), (23, [3], [0, -1])], [], [(0, 0, 2010, [])], [(20, [4], [50, 2, 1, 158, 157, 160, 2, 12, 0, 7, 4, 3, 2, 0, 158, 0, 1, 2, 0, 157, 2, 7, 0, 3, 2, 0, 157, 0, 2010, 3, 14, 1, 10, 3, 0, 160, 5, 3, 2, 0, 157, 0, 1, 0, 0, 1, 10, 3, 0, 160, 5, 3, 2, 0, 157, 0, 1, 0, 4]), (20, [1, 4], [30, 0, 1, 0, 0, -1, 1, 158]), (20, [4], [50, 2, 0, 164, 165, 4, 7, 1, 3, 2, 0, 164, 0, 0, 0, 3, 2, 0, 165, 0, 23]), (20, [4], [30, 0, 1, 1, 159]), (20, [4], [30, 0, -1, 1, 159]), (20, [25, 4], [30, -2011, -1, 0, 0, -1, 1, 158]), (20, [4, 1, 2, 3], [60, 4, 5, 6, 8, 158, 164, 10, 160, 161, 162, 163, 1]), (23, [3], [0, 1]), (23, [3], [0, -1]), (24, [0, 4], [])], [(25, 7, 0, 0)], [(18, 6, 1, 1)])
theorem oo_Mo_product_at_f0_9 {kA : Nat → ClassId} : or_ok PRD kA GG o_Mo_product_at_f0_9 := by
  refine or_mk fun A ta ws vs hD hth hl => ?_
  intro t0 r0 t1 k1 t2 k2 t3 k3 t4 r4 t6 k6 t7 k7 t17 k17 t18 k18 t19 k19 t20 k20 t21 k21 d0 f0 f1 f2 f3 f4 f5 f6 f7 f8 f9 f10 f11 f12 f13 f14 ta1 w1 le1 s1 f16 f17 f18 f19 f20 f21 ta2 w2 le2 s2 f23 f24 f25
  replace f0 := shm_299 f0
  replace f1 := shm_7 f1
  replace f2 := shm_315 f2
  replace f3 := shm_344 f3
  replace f4 := shm_1477 f4
  replace f5 := shm_1013 f5
  replace f6 := shm_299 f6
  replace f7 := shm_1477 f7
  replace f8 := shm_1013 f8
  replace f9 := shm_5 f9
  replace f10 := shm_296 f10
  replace f11 := shm_306 f11
  replace f12 := shm_999 f12
  replace f13 := shm_1000 f13
  replace f14 := shm_341 f14
  replace f16 := shm_7 f16
  replace f17 := shm_315 f17
  replace f18 := shm_1477 f18
  replace f19 := shm_1013 f19
  replace f20 := shm_1477 f20
  replace f21 := shm_1013 f21
  have s2 : (∀ b j, w_el w1 b j = w_el w2 b j) ∧ ∀ b j, w_fd w1 b j = if b = v_ad (n_v vs 4) ∧ j = 158 then n_v vs 18 else w_fd w2 b j := s2.2
  replace f23 := shm_12 f23
  replace f24 := shm_1477 f24
  replace f25 := shm_1013 f25
  have q4 : n_v vs 4 = n_v vs 0 := f9.symm
  simp only [q4] at f0 f3 f6 f10 f11 f12 f13 f14
  rw [q4] at s2
  have cr_0_1 := fdq_46 hD hth r0
  have cr_0_160 := fdq_41 hD hth r0
  have cr_0_161 := fdq_47 hD hth r0
  have cr_0_162 := fdq_48 hD hth r0
  have cr_0_163 := fdq_49 hD hth r0
  have hK_0_1 := elq_6 hD hth cr_0_1
  have hK_0_160 := elq_5 hD hth cr_0_160
  have hK_0_162 := elq_7 hD hth cr_0_162
  have hK_0_163 := elq_8 hD hth cr_0_163
  have kz_0_8 := fdq_14 hD hth r0
  have kz_0_10 := fdq_50 hD hth r0
  have kz_0_157 := fdq_42 hD hth r0
  have kz_0_158 := fdq_43 hD hth r0
  have kz_0_159 := fdq_44 hD hth r0
  have kz_0_164 := fdq_45 hD hth r0
  have kz_0_165 := fdq_35 hD hth r0
  obtain ⟨x, ex, hx⟩ := iv_ex (ta := ta) (lo := 0) (hi := 2010) (z := 0 + (1 * v_iv (n_v vs 7) + 0)) (by omega) (by omega) (by omega) (by omega)
  have ex2 : v_iv (Value.int x) = 0 + (1 * v_iv (n_v vs 7) + 0) := ex
  have ex3 : 0 ≤ v_iv (Value.int x) ∧ v_iv (Value.int x) ≤ 2010 := tv_rng hx
  have e_0 : n_v (vs ++ [Value.int x]) 0 = n_v vs 0 := n_v_old (by rw [hl]; decide)
  have e_1 : n_v (vs ++ [Value.int x]) 1 = n_v vs 1 := n_v_old (by rw [hl]; decide)
  have e_2 : n_v (vs ++ [Value.int x]) 2 = n_v vs 2 := n_v_old (by rw [hl]; decide)
  have e_3 : n_v (vs ++ [Value.int x]) 3 = n_v vs 3 := n_v_old (by rw [hl]; decide)
  have e_4 : n_v (vs ++ [Value.int x]) 4 = n_v vs 4 := n_v_old (by rw [hl]; decide)
  have e_25 : n_v (vs ++ [Value.int x]) 25 = Value.int x := n_v_new hl
  have nf0 : fc_1 PRD (20, [4], [50, 2, 1, 158, 157, 160, 2, 12, 0, 7, 4, 3, 2, 0, 158, 0, 1, 2, 0, 157, 2, 7, 0, 3, 2, 0, 157, 0, 2010, 3, 14, 1, 10, 3, 0, 160, 5, 3, 2, 0, 157, 0, 1, 0, 0, 1, 10, 3, 0, 160, 5, 3, 2, 0, 157, 0, 1, 0, 4]) ws (vs ++ [Value.int x]) := by
    refine ⟨nf_inA hl rfl, sgq_296 ?_⟩
    · show ((w_fi ws (n_v (vs ++ [Value.int x]) 4) 158 + 1) ≤ w_fi ws (n_v (vs ++ [Value.int x]) 4) 157) ∧ ((w_fi ws (n_v (vs ++ [Value.int x]) 4) 157 ≤ 2010) ∧ ((w_ei ws (w_ar ws (n_v (vs ++ [Value.int x]) 4) 160) ((w_fi ws (n_v (vs ++ [Value.int x]) 4) 157 - 1)) = 0) ∨ (w_ei ws (w_ar ws (n_v (vs ++ [Value.int x]) 4) 160) ((w_fi ws (n_v (vs ++ [Value.int x]) 4) 157 - 1)) = 4)))
      simp only [e_4, q4]
      exact vc_Mo_product_at_f0_9_0 (v_iv (n_v vs 1)) (v_iv (n_v vs 2)) (v_iv (n_v vs 3)) (v_iv (n_v vs 6)) (v_iv (n_v vs 7)) (v_iv (n_v vs 17)) (v_iv (n_v vs 18)) (v_iv (n_v vs 19)) (v_iv (n_v vs 20)) (v_iv (n_v vs 21)) (w_fi ws (n_v vs 0) 164) (w_fi ws (n_v vs 0) 165) (w_ei ws (w_ar ws (n_v vs 0) 160)) (w_ei ws (w_ar ws (n_v vs 0) 161)) (w_ei ws (w_ar ws (n_v vs 0) 162)) (w_ei ws (w_ar ws (n_v vs 0) 163)) (w_ei ws (w_ar ws (n_v vs 0) 1)) (w_fi ws (n_v vs 0) 10) (w_fi ws (n_v vs 0) 158) (w_fi ws (n_v vs 0) 157) (w_fi ws (n_v vs 0) 159) (w_fi ws (n_v vs 0) 8) (v_iv (Value.int x)) k1 k2 k3 k6 k7 k17 k18 k19 k20 k21 d0 f0 f1 f2 f3 f4 f5 f6 f7 f8 f10 f11 f12 f13 f14 f16 f17 f18 f19 f20 f21 f23 f24 f25 hK_0_1 hK_0_160 hK_0_162 hK_0_163 kz_0_8 kz_0_10 kz_0_157 kz_0_158 kz_0_159 kz_0_164 kz_0_165 ex2 ex3
  have nf1 : fc_1 PRD (20, [1, 4], [30, 0, 1, 0, 0, -1, 1, 158]) ws (vs ++ [Value.int x]) := by
    refine ⟨nf_inA hl rfl, sgq_306 ?_⟩
    · show 1 * v_iv (n_v (vs ++ [Value.int x]) 1) + ((-1) * w_fi ws (n_v (vs ++ [Value.int x]) 4) 158 + 0) ≤ 0
      simp only [e_1, e_4, q4]
      exact vc_Mo_product_at_f0_9_1 (v_iv (n_v vs 1)) (v_iv (n_v vs 2)) (v_iv (n_v vs 3)) (v_iv (n_v vs 6)) (v_iv (n_v vs 7)) (v_iv (n_v vs 17)) (v_iv (n_v vs 18)) (v_iv (n_v vs 19)) (v_iv (n_v vs 20)) (v_iv (n_v vs 21)) (w_fi ws (n_v vs 0) 164) (w_fi ws (n_v vs 0) 165) (w_ei ws (w_ar ws (n_v vs 0) 160)) (w_ei ws (w_ar ws (n_v vs 0) 161)) (w_ei ws (w_ar ws (n_v vs 0) 162)) (w_ei ws (w_ar ws (n_v vs 0) 163)) (w_ei ws (w_ar ws (n_v vs 0) 1)) (w_fi ws (n_v vs 0) 10) (w_fi ws (n_v vs 0) 158) (w_fi ws (n_v vs 0) 157) (w_fi ws (n_v vs 0) 159) (w_fi ws (n_v vs 0) 8) (v_iv (Value.int x)) k1 k2 k3 k6 k7 k17 k18 k19 k20 k21 d0 f0 f1 f2 f3 f4 f5 f6 f7 f8 f10 f11 f12 f13 f14 f16 f17 f18 f19 f20 f21 f23 f24 f25 hK_0_1 hK_0_160 hK_0_162 hK_0_163 kz_0_8 kz_0_10 kz_0_157 kz_0_158 kz_0_159 kz_0_164 kz_0_165 ex2 ex3
  have nf2 : fc_1 PRD (20, [4], [50, 2, 0, 164, 165, 4, 7, 1, 3, 2, 0, 164, 0, 0, 0, 3, 2, 0, 165, 0, 23]) ws (vs ++ [Value.int x]) := by
    refine ⟨nf_inA hl rfl, sgq_299 ?_⟩
    · show (w_fi ws (n_v (vs ++ [Value.int x]) 4) 164 = 0) → (w_fi ws (n_v (vs ++ [Value.int x]) 4) 165 ≤ 23)
      simp only [e_4, q4]
      exact vc_Mo_product_at_f0_9_2 (v_iv (n_v vs 1)) (v_iv (n_v vs 2)) (v_iv (n_v vs 3)) (v_iv (n_v vs 6)) (v_iv (n_v vs 7)) (v_iv (n_v vs 17)) (v_iv (n_v vs 18)) (v_iv (n_v vs 19)) (v_iv (n_v vs 20)) (v_iv (n_v vs 21)) (w_fi ws (n_v vs 0) 164) (w_fi ws (n_v vs 0) 165) (w_ei ws (w_ar ws (n_v vs 0) 160)) (w_ei ws (w_ar ws (n_v vs 0) 161)) (w_ei ws (w_ar ws (n_v vs 0) 162)) (w_ei ws (w_ar ws (n_v vs 0) 163)) (w_ei ws (w_ar ws (n_v vs 0) 1)) (w_fi ws (n_v vs 0) 10) (w_fi ws (n_v vs 0) 158) (w_fi ws (n_v vs 0) 157) (w_fi ws (n_v vs 0) 159) (w_fi ws (n_v vs 0) 8) (v_iv (Value.int x)) k1 k2 k3 k6 k7 k17 k18 k19 k20 k21 d0 f0 f1 f2 f3 f4 f5 f6 f7 f8 f10 f11 f12 f13 f14 f16 f17 f18 f19 f20 f21 f23 f24 f25 hK_0_1 hK_0_160 hK_0_162 hK_0_163 kz_0_8 kz_0_10 kz_0_157 kz_0_158 kz_0_159 kz_0_164 kz_0_165 ex2 ex3
  have nf3 : fc_1 PRD (20, [4], [30, 0, 1, 1, 159]) ws (vs ++ [Value.int x]) := by
    refine ⟨nf_inA hl rfl, sgq_999 ?_⟩
    · show 1 * w_fi ws (n_v (vs ++ [Value.int x]) 4) 159 + 0 ≤ 0
      simp only [e_4, q4]
      exact vc_Mo_product_at_f0_9_3 (v_iv (n_v vs 1)) (v_iv (n_v vs 2)) (v_iv (n_v vs 3)) (v_iv (n_v vs 6)) (v_iv (n_v vs 7)) (v_iv (n_v vs 17)) (v_iv (n_v vs 18)) (v_iv (n_v vs 19)) (v_iv (n_v vs 20)) (v_iv (n_v vs 21)) (w_fi ws (n_v vs 0) 164) (w_fi ws (n_v vs 0) 165) (w_ei ws (w_ar ws (n_v vs 0) 160)) (w_ei ws (w_ar ws (n_v vs 0) 161)) (w_ei ws (w_ar ws (n_v vs 0) 162)) (w_ei ws (w_ar ws (n_v vs 0) 163)) (w_ei ws (w_ar ws (n_v vs 0) 1)) (w_fi ws (n_v vs 0) 10) (w_fi ws (n_v vs 0) 158) (w_fi ws (n_v vs 0) 157) (w_fi ws (n_v vs 0) 159) (w_fi ws (n_v vs 0) 8) (v_iv (Value.int x)) k1 k2 k3 k6 k7 k17 k18 k19 k20 k21 d0 f0 f1 f2 f3 f4 f5 f6 f7 f8 f10 f11 f12 f13 f14 f16 f17 f18 f19 f20 f21 f23 f24 f25 hK_0_1 hK_0_160 hK_0_162 hK_0_163 kz_0_8 kz_0_10 kz_0_157 kz_0_158 kz_0_159 kz_0_164 kz_0_165 ex2 ex3
  have nf4 : fc_1 PRD (20, [4], [30, 0, -1, 1, 159]) ws (vs ++ [Value.int x]) := by
    refine ⟨nf_inA hl rfl, sgq_1000 ?_⟩
    · show (-1) * w_fi ws (n_v (vs ++ [Value.int x]) 4) 159 + 0 ≤ 0
      simp only [e_4, q4]
      exact vc_Mo_product_at_f0_9_4 (v_iv (n_v vs 1)) (v_iv (n_v vs 2)) (v_iv (n_v vs 3)) (v_iv (n_v vs 6)) (v_iv (n_v vs 7)) (v_iv (n_v vs 17)) (v_iv (n_v vs 18)) (v_iv (n_v vs 19)) (v_iv (n_v vs 20)) (v_iv (n_v vs 21)) (w_fi ws (n_v vs 0) 164) (w_fi ws (n_v vs 0) 165) (w_ei ws (w_ar ws (n_v vs 0) 160)) (w_ei ws (w_ar ws (n_v vs 0) 161)) (w_ei ws (w_ar ws (n_v vs 0) 162)) (w_ei ws (w_ar ws (n_v vs 0) 163)) (w_ei ws (w_ar ws (n_v vs 0) 1)) (w_fi ws (n_v vs 0) 10) (w_fi ws (n_v vs 0) 158) (w_fi ws (n_v vs 0) 157) (w_fi ws (n_v vs 0) 159) (w_fi ws (n_v vs 0) 8) (v_iv (Value.int x)) k1 k2 k3 k6 k7 k17 k18 k19 k20 k21 d0 f0 f1 f2 f3 f4 f5 f6 f7 f8 f10 f11 f12 f13 f14 f16 f17 f18 f19 f20 f21 f23 f24 f25 hK_0_1 hK_0_160 hK_0_162 hK_0_163 kz_0_8 kz_0_10 kz_0_157 kz_0_158 kz_0_159 kz_0_164 kz_0_165 ex2 ex3
  have nf5 : fc_1 PRD (20, [25, 4], [30, -2011, -1, 0, 0, -1, 1, 158]) ws (vs ++ [Value.int x]) := by
    refine ⟨nf_inA hl rfl, sgq_317 ?_⟩
    · show (-1) * v_iv (n_v (vs ++ [Value.int x]) 25) + ((-1) * w_fi ws (n_v (vs ++ [Value.int x]) 4) 158 + 0) ≤ (-2011)
      simp only [e_4, e_25, q4]
      exact vc_Mo_product_at_f0_9_5 (v_iv (n_v vs 1)) (v_iv (n_v vs 2)) (v_iv (n_v vs 3)) (v_iv (n_v vs 6)) (v_iv (n_v vs 7)) (v_iv (n_v vs 17)) (v_iv (n_v vs 18)) (v_iv (n_v vs 19)) (v_iv (n_v vs 20)) (v_iv (n_v vs 21)) (w_fi ws (n_v vs 0) 164) (w_fi ws (n_v vs 0) 165) (w_ei ws (w_ar ws (n_v vs 0) 160)) (w_ei ws (w_ar ws (n_v vs 0) 161)) (w_ei ws (w_ar ws (n_v vs 0) 162)) (w_ei ws (w_ar ws (n_v vs 0) 163)) (w_ei ws (w_ar ws (n_v vs 0) 1)) (w_fi ws (n_v vs 0) 10) (w_fi ws (n_v vs 0) 158) (w_fi ws (n_v vs 0) 157) (w_fi ws (n_v vs 0) 159) (w_fi ws (n_v vs 0) 8) (v_iv (Value.int x)) k1 k2 k3 k6 k7 k17 k18 k19 k20 k21 d0 f0 f1 f2 f3 f4 f5 f6 f7 f8 f10 f11 f12 f13 f14 f16 f17 f18 f19 f20 f21 f23 f24 f25 hK_0_1 hK_0_160 hK_0_162 hK_0_163 kz_0_8 kz_0_10 kz_0_157 kz_0_158 kz_0_159 kz_0_164 kz_0_165 ex2 ex3
  have nf6 : fc_1 PRD (20, [4, 1, 2, 3], [60, 4, 5, 6, 8, 158, 164, 10, 160, 161, 162, 163, 1]) ws (vs ++ [Value.int x]) := by
    refine ⟨nf_inA hl rfl, sgq_342 ?_⟩
    · show SPWv (w_fi ws (n_v (vs ++ [Value.int x]) 4) 8) (w_fi ws (n_v (vs ++ [Value.int x]) 4) 158) (w_fi ws (n_v (vs ++ [Value.int x]) 4) 164) (w_fi ws (n_v (vs ++ [Value.int x]) 4) 10) (w_ei ws (w_ar ws (n_v (vs ++ [Value.int x]) 4) 160)) (w_ei ws (w_ar ws (n_v (vs ++ [Value.int x]) 4) 161)) (w_ei ws (w_ar ws (n_v (vs ++ [Value.int x]) 4) 162)) (w_ei ws (w_ar ws (n_v (vs ++ [Value.int x]) 4) 163)) (w_ei ws (w_ar ws (n_v (vs ++ [Value.int x]) 4) 1)) (v_iv (n_v (vs ++ [Value.int x]) 1)) (v_iv (n_v (vs ++ [Value.int x]) 2)) (v_iv (n_v (vs ++ [Value.int x]) 3))
      simp only [e_1, e_2, e_3, e_4, q4]
      exact vc_Mo_product_at_f0_9_6 (v_iv (n_v vs 1)) (v_iv (n_v vs 2)) (v_iv (n_v vs 3)) (v_iv (n_v vs 19)) (v_iv (n_v vs 20)) (v_iv (n_v vs 21)) (w_fi ws (n_v vs 0) 164) (w_ei ws (w_ar ws (n_v vs 0) 160)) (w_ei ws (w_ar ws (n_v vs 0) 161)) (w_ei ws (w_ar ws (n_v vs 0) 162)) (w_ei ws (w_ar ws (n_v vs 0) 163)) (w_ei ws (w_ar ws (n_v vs 0) 1)) (w_fi ws (n_v vs 0) 10) (w_fi ws (n_v vs 0) 158) (w_fi ws (n_v vs 0) 8) k1 k2 k3 k19 k20 k21 f3 f4 f7 f11 f14 kz_0_8 kz_0_10 kz_0_158 kz_0_164
  have nf7 : fc_1 PRD (23, [3], [0, 1]) ws (vs ++ [Value.int x]) := by
    refine ⟨nf_inA hl rfl, sgq_1477 ?_⟩
    · show 1 * v_iv (n_v (vs ++ [Value.int x]) 3) + 0 ≤ 0
      rw [e_3]
      exact vc_Mo_product_at_f0_9_7 (v_iv (n_v vs 1)) (v_iv (n_v vs 2)) (v_iv (n_v vs 3)) (v_iv (n_v vs 6)) (v_iv (n_v vs 7)) (v_iv (n_v vs 17)) (v_iv (n_v vs 18)) (v_iv (n_v vs 19)) (v_iv (n_v vs 20)) (v_iv (n_v vs 21)) (w_fi ws (n_v vs 0) 164) (w_fi ws (n_v vs 0) 165) (w_ei ws (w_ar ws (n_v vs 0) 160)) (w_ei ws (w_ar ws (n_v vs 0) 161)) (w_ei ws (w_ar ws (n_v vs 0) 162)) (w_ei ws (w_ar ws (n_v vs 0) 163)) (w_ei ws (w_ar ws (n_v vs 0) 1)) (w_fi ws (n_v vs 0) 10) (w_fi ws (n_v vs 0) 158) (w_fi ws (n_v vs 0) 157) (w_fi ws (n_v vs 0) 159) (w_fi ws (n_v vs 0) 8) (v_iv (Value.int x)) k1 k2 k3 k6 k7 k17 k18 k19 k20 k21 d0 f0 f1 f2 f3 f4 f5 f6 f7 f8 f10 f11 f12 f13 f14 f16 f17 f18 f19 f20 f21 f23 f24 f25 hK_0_1 hK_0_160 hK_0_162 hK_0_163 kz_0_8 kz_0_10 kz_0_157 kz_0_158 kz_0_159 kz_0_164 kz_0_165 ex2 ex3
  have nf8 : fc_1 PRD (23, [3], [0, -1]) ws (vs ++ [Value.int x]) := by
    refine ⟨nf_inA hl rfl, sgq_1013 ?_⟩
    · show (-1) * v_iv (n_v (vs ++ [Value.int x]) 3) + 0 ≤ 0
      rw [e_3]
      exact vc_Mo_product_at_f0_9_8 (v_iv (n_v vs 1)) (v_iv (n_v vs 2)) (v_iv (n_v vs 3)) (v_iv (n_v vs 6)) (v_iv (n_v vs 7)) (v_iv (n_v vs 17)) (v_iv (n_v vs 18)) (v_iv (n_v vs 19)) (v_iv (n_v vs 20)) (v_iv (n_v vs 21)) (w_fi ws (n_v vs 0) 164) (w_fi ws (n_v vs 0) 165) (w_ei ws (w_ar ws (n_v vs 0) 160)) (w_ei ws (w_ar ws (n_v vs 0) 161)) (w_ei ws (w_ar ws (n_v vs 0) 162)) (w_ei ws (w_ar ws (n_v vs 0) 163)) (w_ei ws (w_ar ws (n_v vs 0) 1)) (w_fi ws (n_v vs 0) 10) (w_fi ws (n_v vs 0) 158) (w_fi ws (n_v vs 0) 157) (w_fi ws (n_v vs 0) 159) (w_fi ws (n_v vs 0) 8) (v_iv (Value.int x)) k1 k2 k3 k6 k7 k17 k18 k19 k20 k21 d0 f0 f1 f2 f3 f4 f5 f6 f7 f8 f10 f11 f12 f13 f14 f16 f17 f18 f19 f20 f21 f23 f24 f25 hK_0_1 hK_0_160 hK_0_162 hK_0_163 kz_0_8 kz_0_10 kz_0_157 kz_0_158 kz_0_159 kz_0_164 kz_0_165 ex2 ex3
  have nf9 : fc_1 PRD (24, [0, 4], []) ws (vs ++ [Value.int x]) := by
    refine ⟨nf_inA hl rfl, sgq_5 ?_⟩
    · show n_v (vs ++ [Value.int x]) 0 = n_v (vs ++ [Value.int x]) 4
      first | rfl | simp only [e_0, e_4, q4]
  obtain ⟨x0, e0, _, _⟩ := tv_int t7 rfl
  have e1 : v_iv (n_v vs 7) = x0.toInt := by rw [e0]; rfl
  have ho : sy_ofs (vs ++ [Value.int x]) (25, 7, 0, 0) := by
    refine ⟨x, x0, by rw [List.getElem?_append_right (by rw [hl]; decide), hl]; rfl, ?_, ?_, ?_⟩
    · rw [List.getElem?_append_left (by rw [hl]; decide)]; exact n_v_some (by rw [hl]; decide) e0
    · show x0.toInt + 0 ≤ x.toInt; omega
    · show x.toInt ≤ x0.toInt + 0; omega
  exact ⟨(fun _ h => (by cases h)), [Value.int x], ag_one hx, List.forall_mem_cons.mpr ⟨⟨show (20 : Nat) < 100 from by decide, nf0⟩, List.forall_mem_cons.mpr ⟨⟨show (20 : Nat) < 100 from by decide, nf1⟩, List.forall_mem_cons.mpr ⟨⟨show (20 : Nat) < 100 from by decide, nf2⟩, List.forall_mem_cons.mpr ⟨⟨show (20 : Nat) < 100 from by decide, nf3⟩, List.forall_mem_cons.mpr ⟨⟨show (20 : Nat) < 100 from by decide, nf4⟩, List.forall_mem_cons.mpr ⟨⟨show (20 : Nat) < 100 from by decide, nf5⟩, List.forall_mem_cons.mpr ⟨⟨show (20 : Nat) < 100 from by decide, nf6⟩, List.forall_mem_cons.mpr ⟨⟨show (23 : Nat) < 100 from by decide, nf7⟩, List.forall_mem_cons.mpr ⟨⟨show (23 : Nat) < 100 from by decide, nf8⟩, List.forall_mem_cons.mpr ⟨⟨show (24 : Nat) < 100 from by decide, nf9⟩, (fun _ h => (by cases h))⟩⟩⟩⟩⟩⟩⟩⟩⟩⟩, List.forall_mem_cons.mpr ⟨ho, (fun _ h => (by cases h))⟩⟩
set_option maxHeartbeats 4000000 in
theorem vc_Mo_product_at_f0_10_r0 (x1 : Int) (x2 : Int) (x3 : Int) (x6 : Int) (x7 : Int) (x8 : Int) (x9 : Int) (x10 : Int) (x11 : Int) (x12 : Int) (x13 : Int) (x14 : Int) (x15 : Int) (x16 : Int) (x17 : Int) (x18 : Int) (cur_0 : Int) (tokenKind_0 : Int → Int) (tokenValue_0 : Int → Int) (fault_0 : Int) (tokens_0 : Int) (styleKind_0 : Int) (styleOne_0 : Int) (tokenPlace_0 : Int → Int) (tokenEnd_0 : Int → Int) (tape_0 : Int → Int) (limit_0 : Int) (k1 : 0 ≤ x1 ∧ x1 ≤ 2009) (k2 : 0 ≤ x2 ∧ x2 ≤ 5) (k3 : 0 ≤ x3 ∧ x3 ≤ 13) (k6 : 0 ≤ x6 ∧ x6 ≤ 2009) (k7 : 0 ≤ x7 ∧ x7 ≤ 2010) (k8 : 42 ≤ x8 ∧ x8 ≤ 42) (k9 : 0 ≤ x9 ∧ x9 ≤ 5) (k10 : 0 ≤ x10 ∧ x10 ≤ 0) (k11 : 47 ≤ x11 ∧ x11 ≤ 47) (k12 : 0 ≤ x12 ∧ x12 ≤ 5) (k13 : 1 ≤ x13 ∧ x13 ≤ 1) (k14 : 42 ≤ x14 ∧ x14 ≤ 42) (k15 : 0 ≤ x15 ∧ x15 ≤ 5) (k16 : 1 ≤ x16 ∧ x16 ≤ 1) (k17 : 1 ≤ x17 ∧ x17 ≤ 1) (k18 : 1 ≤ x18 ∧ x18 ≤ 2010) (d0 : x6 + 1 ≤ x18 ∧ x18 ≤ x6 + 1) (f0 : x18 = x6 + x17) (g1 : x6 = cur_0) (f2 : (x16 = 1) → (tokenKind_0 (cur_0) = 3)) (f3 : SGN (cur_0) (tokenKind_0) (tokenValue_0) (x14) (x16) (x15)) (f4 : fault_0 = x15) (f5 : x13 ≠ 0) (f6 : (x13 = 1) → (tokenKind_0 (cur_0) = 3)) (f7 : SGN (cur_0) (tokenKind_0) (tokenValue_0) (x11) (x13) (x12)) (f8 : fault_0 = x12) (f9 : x10 = 0) (f10 : (x10 = 1) → (tokenKind_0 (cur_0) = 3)) (f11 : SGN (cur_0) (tokenKind_0) (tokenValue_0) (x8) (x10) (x9)) (f12 : fault_0 = x9) (f13 : ((cur_0 + 1) ≤ tokens_0) ∧ ((tokens_0 ≤ 2010) ∧ ((tokenKind_0 ((tokens_0 - 1)) = 0) ∨ (tokenKind_0 ((tokens_0 - 1)) = 4)))) (f14 : 1 * x1 + ((-1) * cur_0 + 0) ≤ 0) (f15 : (styleKind_0 = 0) → (styleOne_0 ≤ 23)) (f16 : SPWv (fault_0) (cur_0) (styleKind_0) (limit_0) (tokenKind_0) (tokenValue_0) (tokenPlace_0) (tokenEnd_0) (tape_0) (x1) (x2) (x3)) (f17 : 1 * x3 + 0 ≤ 0) (f18 : (-1) * x3 + 0 ≤ 0) (f20 : 1 * x7 + (1 * cur_0 + 0) ≤ 2010) (f21 : (-1) * x7 + ((-1) * cur_0 + 0) ≤ (-2010)) (hK_0_1 : ∀ j : Int, 0 ≤ j → j < 2000 → (-128) ≤ tape_0 j ∧ tape_0 j ≤ 127) (hK_0_160 : ∀ j : Int, 0 ≤ j → j < 2010 → 0 ≤ tokenKind_0 j ∧ tokenKind_0 j ≤ 4) (hK_0_162 : ∀ j : Int, 0 ≤ j → j < 2010 → 0 ≤ tokenPlace_0 j ∧ tokenPlace_0 j ≤ 2000) (hK_0_163 : ∀ j : Int, 0 ≤ j → j < 2010 → 0 ≤ tokenEnd_0 j ∧ tokenEnd_0 j ≤ 2000) (kz_0_8 : 0 ≤ fault_0 ∧ fault_0 ≤ 5) (kz_0_10 : 0 ≤ limit_0 ∧ limit_0 ≤ 2000) (kz_0_157 : 0 ≤ tokens_0 ∧ tokens_0 ≤ 2010) (kz_0_158 : 0 ≤ cur_0 ∧ cur_0 ≤ 2009) (kz_0_164 : 0 ≤ styleKind_0 ∧ styleKind_0 ≤ 1) (kz_0_165 : (-1) ≤ styleOne_0 ∧ styleOne_0 ≤ 47) : 1 ≤ x18 ∧ x18 ≤ 2009 := by
  first | assumption | (clear f2 f6 f10 f13 f15 hK_0_1 hK_0_160 hK_0_162 hK_0_163; omega) | (clear hK_0_1 hK_0_160 hK_0_162 hK_0_163; grind) | omega | grind
def o_Mo_product_at_f0_10 : or_T := (37, 19, [(0, (2, 0, 0, [165])), (1, (0, 0, 2009, [])), (2, (0, 0, 5, [])), (3, (0, 0, 13, [])), (4, (2, 0, 0, [165])), (6, (0, 0, 2009, [])), (7, (0, 0, 2010, [])), (8, (0, 42, 42, [])), (9, (0, 0, 5, [])), (10, (0, 0, 0, [])), (11, (0, 47, 47, [])), (12, (0, 0, 5, [])), (13, (0, 1, 1, [])), (14, (0, 42, 42, [])), (15, (0, 0, 5, [])), (16, (0, 1, 1, [])), (17, (0, 1, 1, [])), (18, (0, 1, 2010, []))], [(1, [18, 6, 17], []), (9, [6, 4], [158]), (20, [16, 4], [50, 1, 1, 1158, 1160, 4, 6, 1, 2, 1, 0, 0, 1, 1, 6, 3, 1, 160, 2, 1, 158, 0, 3]), (20, [4, 14, 16, 15], [60, 1, 2, 14, 158, 160, 161]), (20, [4, 15], [50, 1, 0, 8, 1, 3, 2, 0, 8, 1, 1]), (8, [13], [1]), (20, [13, 4], [50, 1, 1, 1158, 1160, 4, 6, 1, 2, 1, 0, 0, 1, 1, 6, 3, 1, 160, 2, 1, 158, 0, 3]), (20, [4, 11, 13, 12], [60, 1, 2, 14, 158, 160, 161]), (20, [4, 12], [50, 1, 0, 8, 1, 3, 2, 0, 8, 1, 1]), (8, [10], [0]), (20, [10, 4], [50, 1, 1, 1158, 1160, 4, 6, 1, 2, 1, 0, 0, 1, 1, 6, 3, 1, 160, 2, 1, 158, 0, 3]), (20, [4, 8, 10, 9], [60, 1, 2, 14, 158, 160, 161]), (20, [4, 9], [50, 1, 0, 8, 1, 3, 2, 0, 8, 1, 1]), (20, [4], [50, 2, 1, 158, 157, 160, 2, 12, 0, 7, 4, 3, 2, 0, 158, 0, 1, 2, 0, 157, 2, 7, 0, 3, 2, 0, 157, 0, 2010, 3, 14, 1, 10, 3, 0, 160, 5, 3, 2, 0, 157, 0, 1, 0, 0, 1, 10, 3, 0, 160, 5, 3, 2, 0, 157, 0, 1, 0, 4]), (20, [1, 4], [30, 0, 1, 0, 0, -1, 1, 158]), (20, [4], [50, 2, 0, 164, 165, 4, 7, 1, 3, 2, 0, 164, 0, 0, 0, 3, 2, 0, 165, 0, 23]), (20, [4, 1, 2, 3], [60, 4, 5, 6, 8, 158, 164, 10, 160, 161, 162, 163, 1]), (23, [3], [0, 1]), (23, [3], [0, -1]), (24, [0, 4], []), (20, [7, 4], [30, 2010, 1, 0, 0, 1, 1, 158]), (20, [7, 4], [30, -2010, -1, 0, 0, -1, 1, 158])], [(18, (0, 1, 2009, []))], [], [], [], [(18, 6, 1, 1)])
theorem oo_Mo_product_at_f0_10 {kA : Nat → ClassId} : or_ok PRD kA GG o_Mo_product_at_f0_10 := by
  refine or_mk fun A ta ws vs hD hth hl => ?_
  intro t0 r0 t1 k1 t2 k2 t3 k3 t4 r4 t6 k6 t7 k7 t8 k8 t9 k9 t10 k10 t11 k11 t12 k12 t13 k13 t14 k14 t15 k15 t16 k16 t17 k17 t18 k18 d0 f0 f1 f2 f3 f4 f5 f6 f7 f8 f9 f10 f11 f12 f13 f14 f15 f16 f17 f18 f19 f20 f21
  replace f1 := shm_311 f1
  replace f2 := shm_319 f2
  replace f3 := shm_320 f3
  replace f4 := shm_302 f4
  replace f6 := shm_319 f6
  replace f7 := shm_320 f7
  replace f8 := shm_302 f8
  replace f10 := shm_319 f10
  replace f11 := shm_320 f11
  replace f12 := shm_302 f12
  replace f13 := shm_296 f13
  replace f14 := shm_306 f14
  replace f15 := shm_299 f15
  replace f16 := shm_342 f16
  replace f19 := shm_5 f19
  replace f20 := shm_309 f20
  replace f21 := shm_310 f21
  have q4 : n_v vs 4 = n_v vs 0 := f19.symm
  simp only [q4] at f1 f2 f3 f4 f6 f7 f8 f10 f11 f12 f13 f14 f15 f16 f20 f21
  have cr_0_1 := fdq_46 hD hth r0
  have cr_0_160 := fdq_41 hD hth r0
  have cr_0_162 := fdq_48 hD hth r0
  have cr_0_163 := fdq_49 hD hth r0
  have g1 : v_iv (n_v vs 6) = w_fi ws (n_v vs 0) 158 := congrArg v_iv f1
  have hK_0_1 := elq_6 hD hth cr_0_1
  have hK_0_160 := elq_5 hD hth cr_0_160
  have hK_0_162 := elq_7 hD hth cr_0_162
  have hK_0_163 := elq_8 hD hth cr_0_163
  have kz_0_8 := fdq_14 hD hth r0
  have kz_0_10 := fdq_50 hD hth r0
  have kz_0_157 := fdq_42 hD hth r0
  have kz_0_158 := fdq_43 hD hth r0
  have kz_0_164 := fdq_45 hD hth r0
  have kz_0_165 := fdq_35 hD hth r0
  have hrf0 : 1 ≤ v_iv (n_v vs 18) ∧ v_iv (n_v vs 18) ≤ 2009 := vc_Mo_product_at_f0_10_r0 (v_iv (n_v vs 1)) (v_iv (n_v vs 2)) (v_iv (n_v vs 3)) (v_iv (n_v vs 6)) (v_iv (n_v vs 7)) (v_iv (n_v vs 8)) (v_iv (n_v vs 9)) (v_iv (n_v vs 10)) (v_iv (n_v vs 11)) (v_iv (n_v vs 12)) (v_iv (n_v vs 13)) (v_iv (n_v vs 14)) (v_iv (n_v vs 15)) (v_iv (n_v vs 16)) (v_iv (n_v vs 17)) (v_iv (n_v vs 18)) (w_fi ws (n_v vs 0) 158) (w_ei ws (w_ar ws (n_v vs 0) 160)) (w_ei ws (w_ar ws (n_v vs 0) 161)) (w_fi ws (n_v vs 0) 8) (w_fi ws (n_v vs 0) 157) (w_fi ws (n_v vs 0) 164) (w_fi ws (n_v vs 0) 165) (w_ei ws (w_ar ws (n_v vs 0) 162)) (w_ei ws (w_ar ws (n_v vs 0) 163)) (w_ei ws (w_ar ws (n_v vs 0) 1)) (w_fi ws (n_v vs 0) 10) k1 k2 k3 k6 k7 k8 k9 k10 k11 k12 k13 k14 k15 k16 k17 k18 d0 (shm_12 f0) g1 f2 f3 f4 (shm_154 f5) f6 f7 f8 (shm_210 f9) f10 f11 f12 f13 f14 f15 f16 (shm_1477 f17) (shm_1013 f18) f20 f21 hK_0_1 hK_0_160 hK_0_162 hK_0_163 kz_0_8 kz_0_10 kz_0_157 kz_0_158 kz_0_164 kz_0_165
  have rf18 : tv_ok ta (0, 1, 2009, []) (n_v vs 18) := tv_in t18 (by first | omega | grind) (by first | omega | grind)
  refine ⟨List.forall_mem_cons.mpr ⟨rf18, (fun _ h => (by cases h))⟩, [], trivial, ?_, (fun _ h => (by cases h))⟩
  rw [List.append_nil]
  exact (fun _ h => (by cases h))
set_option maxHeartbeats 4000000 in
theorem vc_Mo_product_at_f0_11_0 (x1 : Int) (x2 : Int) (x3 : Int) (x6 : Int) (x7 : Int) (x8 : Int) (x9 : Int) (x10 : Int) (x11 : Int) (x12 : Int) (x13 : Int) (x14 : Int) (x15 : Int) (x16 : Int) (x17 : Int) (x18 : Int) (cur_0 : Int) (fault_0 : Int) (styleKind_0 : Int) (styleOne_0 : Int) (opened_0 : Int) (cur_1 : Int) (tokenKind_1 : Int → Int) (tokenValue_1 : Int → Int) (fault_1 : Int) (tokens_1 : Int) (styleKind_1 : Int) (styleOne_1 : Int) (opened_1 : Int) (tokenPlace_1 : Int → Int) (tokenEnd_1 : Int → Int) (tape_1 : Int → Int) (limit_1 : Int) (limit_0 : Int) (tokens_0 : Int) (tape_0 : Int → Int) (tokenKind_0 : Int → Int) (tokenValue_0 : Int → Int) (tokenPlace_0 : Int → Int) (tokenEnd_0 : Int → Int) (gx : Int) (gy : Int) (gu : Int) (k1 : 0 ≤ x1 ∧ x1 ≤ 2009) (k2 : 0 ≤ x2 ∧ x2 ≤ 5) (k3 : 0 ≤ x3 ∧ x3 ≤ 13) (k6 : 0 ≤ x6 ∧ x6 ≤ 2009) (k7 : 0 ≤ x7 ∧ x7 ≤ 2010) (k8 : 42 ≤ x8 ∧ x8 ≤ 42) (k9 : 0 ≤ x9 ∧ x9 ≤ 5) (k10 : 0 ≤ x10 ∧ x10 ≤ 0) (k11 : 47 ≤ x11 ∧ x11 ≤ 47) (k12 : 0 ≤ x12 ∧ x12 ≤ 5) (k13 : 1 ≤ x13 ∧ x13 ≤ 1) (k14 : 42 ≤ x14 ∧ x14 ≤ 42) (k15 : 0 ≤ x15 ∧ x15 ≤ 5) (k16 : 1 ≤ x16 ∧ x16 ≤ 1) (k17 : 1 ≤ x17 ∧ x17 ≤ 1) (k18 : 1 ≤ x18 ∧ x18 ≤ 2009) (d0 : x6 + 1 ≤ x18 ∧ x18 ≤ x6 + 1) (g0 : x18 = cur_0) (f1 : fault_0 = x15) (f2 : fault_0 = x12) (f3 : fault_0 = x9) (f4 : (styleKind_0 = 0) → (styleOne_0 ≤ 23)) (f5 : 1 * opened_0 + 0 ≤ 0) (f6 : (-1) * opened_0 + 0 ≤ 0) (f7 : 1 * x3 + 0 ≤ 0) (f8 : (-1) * x3 + 0 ≤ 0) (f11 : x18 = x6 + x17) (g12 : x6 = cur_1) (f13 : (x16 = 1) → (tokenKind_1 (cur_1) = 3)) (f14 : SGN (cur_1) (tokenKind_1) (tokenValue_1) (x14) (x16) (x15)) (f15 : fault_1 = x15) (f16 : x13 ≠ 0) (f17 : (x13 = 1) → (tokenKind_1 (cur_1) = 3)) (f18 : SGN (cur_1) (tokenKind_1) (tokenValue_1) (x11) (x13) (x12)) (f19 : fault_1 = x12) (f20 : x10 = 0) (f21 : (x10 = 1) → (tokenKind_1 (cur_1) = 3)) (f22 : SGN (cur_1) (tokenKind_1) (tokenValue_1) (x8) (x10) (x9)) (f23 : fault_1 = x9) (f24 : ((cur_1 + 1) ≤ tokens_1) ∧ ((tokens_1 ≤ 2010) ∧ ((tokenKind_1 ((tokens_1 - 1)) = 0) ∨ (tokenKind_1 ((tokens_1 - 1)) = 4)))) (f25 : 1 * x1 + ((-1) * cur_1 + 0) ≤ 0) (f26 : (styleKind_1 = 0) → (styleOne_1 ≤ 23)) (f27 : 1 * opened_1 + 0 ≤ 0) (f28 : (-1) * opened_1 + 0 ≤ 0) (f29 : SPWv (fault_1) (cur_1) (styleKind_1) (limit_1) (tokenKind_1) (tokenValue_1) (tokenPlace_1) (tokenEnd_1) (tape_1) (x1) (x2) (x3)) (f30 : 1 * x3 + 0 ≤ 0) (f31 : (-1) * x3 + 0 ≤ 0) (f32 : 1 * x7 + (1 * cur_1 + 0) ≤ 2010) (f33 : (-1) * x7 + ((-1) * cur_1 + 0) ≤ (-2010)) (fe_0_8_1 : fault_0 = fault_1) (fe_0_10_1 : limit_0 = limit_1) (fe_0_157_1 : tokens_0 = tokens_1) (fe_0_158_1 : cur_0 = x18) (fe_0_159_1 : opened_0 = opened_1) (fe_0_164_1 : styleKind_0 = styleKind_1) (fe_0_165_1 : styleOne_0 = styleOne_1) (hE_0_1_1 : ∀ j : Int, tape_0 j = tape_1 j) (hK_0_1 : ∀ j : Int, 0 ≤ j → j < 2000 → (-128) ≤ tape_0 j ∧ tape_0 j ≤ 127) (hE_0_160_1 : ∀ j : Int, tokenKind_0 j = tokenKind_1 j) (hK_0_160 : ∀ j : Int, 0 ≤ j → j < 2010 → 0 ≤ tokenKind_0 j ∧ tokenKind_0 j ≤ 4) (hE_0_161_1 : ∀ j : Int, tokenValue_0 j = tokenValue_1 j) (hE_0_162_1 : ∀ j : Int, tokenPlace_0 j = tokenPlace_1 j) (hK_0_162 : ∀ j : Int, 0 ≤ j → j < 2010 → 0 ≤ tokenPlace_0 j ∧ tokenPlace_0 j ≤ 2000) (hE_0_163_1 : ∀ j : Int, tokenEnd_0 j = tokenEnd_1 j) (hK_0_163 : ∀ j : Int, 0 ≤ j → j < 2010 → 0 ≤ tokenEnd_0 j ∧ tokenEnd_0 j ≤ 2000) (kz_0_8 : 0 ≤ fault_0 ∧ fault_0 ≤ 5) (kz_0_10 : 0 ≤ limit_0 ∧ limit_0 ≤ 2000) (kz_0_157 : 0 ≤ tokens_0 ∧ tokens_0 ≤ 2010) (kz_0_158 : 0 ≤ cur_0 ∧ cur_0 ≤ 2009) (kz_0_159 : 0 ≤ opened_0 ∧ opened_0 ≤ 13) (kz_0_164 : 0 ≤ styleKind_0 ∧ styleKind_0 ≤ 1) (kz_0_165 : (-1) ≤ styleOne_0 ∧ styleOne_0 ≤ 47) (ex2 : gx = cur_0) (ex3 : 0 ≤ gx ∧ gx ≤ 2009) (ey2 : gy = fault_0) (ey3 : 0 ≤ gy ∧ gy ≤ 5) (eu2 : gu = opened_0) (eu3 : 0 ≤ gu ∧ gu ≤ 13) : ((cur_0 + 1) ≤ tokens_0) ∧ ((tokens_0 ≤ 2010) ∧ ((tokenKind_0 ((tokens_0 - 1)) = 0) ∨ (tokenKind_0 ((tokens_0 - 1)) = 4))) := by
  subst fe_0_8_1
  subst fe_0_10_1
  subst fe_0_157_1
  subst fe_0_159_1
  subst fe_0_164_1
  subst fe_0_165_1
  have e_hE_0_1_1 := funext hE_0_1_1; subst e_hE_0_1_1
  have e_hE_0_160_1 := funext hE_0_160_1; subst e_hE_0_160_1
  have e_hE_0_161_1 := funext hE_0_161_1; subst e_hE_0_161_1
  have e_hE_0_162_1 := funext hE_0_162_1; subst e_hE_0_162_1
  have e_hE_0_163_1 := funext hE_0_163_1; subst e_hE_0_163_1
  first | assumption | (clear f4 f13 f17 f21 f24 f26 hE_0_1_1 hK_0_1 hE_0_160_1 hK_0_160 hE_0_161_1 hE_0_162_1 hK_0_162 hE_0_163_1 hK_0_163; omega) | (clear hE_0_1_1 hK_0_1 hE_0_160_1 hK_0_160 hE_0_161_1 hE_0_162_1 hK_0_162 hE_0_163_1 hK_0_163; grind) | omega | grind
set_option maxHeartbeats 4000000 in
theorem vc_Mo_product_at_f0_11_1 (x1 : Int) (x2 : Int) (x3 : Int) (x6 : Int) (x7 : Int) (x8 : Int) (x9 : Int) (x10 : Int) (x11 : Int) (x12 : Int) (x13 : Int) (x14 : Int) (x15 : Int) (x16 : Int) (x17 : Int) (x18 : Int) (cur_0 : Int) (fault_0 : Int) (styleKind_0 : Int) (styleOne_0 : Int) (opened_0 : Int) (cur_1 : Int) (tokenKind_1 : Int → Int) (tokenValue_1 : Int → Int) (fault_1 : Int) (tokens_1 : Int) (styleKind_1 : Int) (styleOne_1 : Int) (opened_1 : Int) (tokenPlace_1 : Int → Int) (tokenEnd_1 : Int → Int) (tape_1 : Int → Int) (limit_1 : Int) (limit_0 : Int) (tokens_0 : Int) (tape_0 : Int → Int) (tokenKind_0 : Int → Int) (tokenValue_0 : Int → Int) (tokenPlace_0 : Int → Int) (tokenEnd_0 : Int → Int) (gx : Int) (gy : Int) (gu : Int) (k1 : 0 ≤ x1 ∧ x1 ≤ 2009) (k2 : 0 ≤ x2 ∧ x2 ≤ 5) (k3 : 0 ≤ x3 ∧ x3 ≤ 13) (k6 : 0 ≤ x6 ∧ x6 ≤ 2009) (k7 : 0 ≤ x7 ∧ x7 ≤ 2010) (k8 : 42 ≤ x8 ∧ x8 ≤ 42) (k9 : 0 ≤ x9 ∧ x9 ≤ 5) (k10 : 0 ≤ x10 ∧ x10 ≤ 0) (k11 : 47 ≤ x11 ∧ x11 ≤ 47) (k12 : 0 ≤ x12 ∧ x12 ≤ 5) (k13 : 1 ≤ x13 ∧ x13 ≤ 1) (k14 : 42 ≤ x14 ∧ x14 ≤ 42) (k15 : 0 ≤ x15 ∧ x15 ≤ 5) (k16 : 1 ≤ x16 ∧ x16 ≤ 1) (k17 : 1 ≤ x17 ∧ x17 ≤ 1) (k18 : 1 ≤ x18 ∧ x18 ≤ 2009) (d0 : x6 + 1 ≤ x18 ∧ x18 ≤ x6 + 1) (g0 : x18 = cur_0) (f1 : fault_0 = x15) (f2 : fault_0 = x12) (f3 : fault_0 = x9) (f4 : (styleKind_0 = 0) → (styleOne_0 ≤ 23)) (f5 : 1 * opened_0 + 0 ≤ 0) (f6 : (-1) * opened_0 + 0 ≤ 0) (f7 : 1 * x3 + 0 ≤ 0) (f8 : (-1) * x3 + 0 ≤ 0) (f11 : x18 = x6 + x17) (g12 : x6 = cur_1) (f13 : (x16 = 1) → (tokenKind_1 (cur_1) = 3)) (f14 : SGN (cur_1) (tokenKind_1) (tokenValue_1) (x14) (x16) (x15)) (f15 : fault_1 = x15) (f16 : x13 ≠ 0) (f17 : (x13 = 1) → (tokenKind_1 (cur_1) = 3)) (f18 : SGN (cur_1) (tokenKind_1) (tokenValue_1) (x11) (x13) (x12)) (f19 : fault_1 = x12) (f20 : x10 = 0) (f21 : (x10 = 1) → (tokenKind_1 (cur_1) = 3)) (f22 : SGN (cur_1) (tokenKind_1) (tokenValue_1) (x8) (x10) (x9)) (f23 : fault_1 = x9) (f24 : ((cur_1 + 1) ≤ tokens_1) ∧ ((tokens_1 ≤ 2010) ∧ ((tokenKind_1 ((tokens_1 - 1)) = 0) ∨ (tokenKind_1 ((tokens_1 - 1)) = 4)))) (f25 : 1 * x1 + ((-1) * cur_1 + 0) ≤ 0) (f26 : (styleKind_1 = 0) → (styleOne_1 ≤ 23)) (f27 : 1 * opened_1 + 0 ≤ 0) (f28 : (-1) * opened_1 + 0 ≤ 0) (f29 : SPWv (fault_1) (cur_1) (styleKind_1) (limit_1) (tokenKind_1) (tokenValue_1) (tokenPlace_1) (tokenEnd_1) (tape_1) (x1) (x2) (x3)) (f30 : 1 * x3 + 0 ≤ 0) (f31 : (-1) * x3 + 0 ≤ 0) (f32 : 1 * x7 + (1 * cur_1 + 0) ≤ 2010) (f33 : (-1) * x7 + ((-1) * cur_1 + 0) ≤ (-2010)) (fe_0_8_1 : fault_0 = fault_1) (fe_0_10_1 : limit_0 = limit_1) (fe_0_157_1 : tokens_0 = tokens_1) (fe_0_158_1 : cur_0 = x18) (fe_0_159_1 : opened_0 = opened_1) (fe_0_164_1 : styleKind_0 = styleKind_1) (fe_0_165_1 : styleOne_0 = styleOne_1) (hE_0_1_1 : ∀ j : Int, tape_0 j = tape_1 j) (hK_0_1 : ∀ j : Int, 0 ≤ j → j < 2000 → (-128) ≤ tape_0 j ∧ tape_0 j ≤ 127) (hE_0_160_1 : ∀ j : Int, tokenKind_0 j = tokenKind_1 j) (hK_0_160 : ∀ j : Int, 0 ≤ j → j < 2010 → 0 ≤ tokenKind_0 j ∧ tokenKind_0 j ≤ 4) (hE_0_161_1 : ∀ j : Int, tokenValue_0 j = tokenValue_1 j) (hE_0_162_1 : ∀ j : Int, tokenPlace_0 j = tokenPlace_1 j) (hK_0_162 : ∀ j : Int, 0 ≤ j → j < 2010 → 0 ≤ tokenPlace_0 j ∧ tokenPlace_0 j ≤ 2000) (hE_0_163_1 : ∀ j : Int, tokenEnd_0 j = tokenEnd_1 j) (hK_0_163 : ∀ j : Int, 0 ≤ j → j < 2010 → 0 ≤ tokenEnd_0 j ∧ tokenEnd_0 j ≤ 2000) (kz_0_8 : 0 ≤ fault_0 ∧ fault_0 ≤ 5) (kz_0_10 : 0 ≤ limit_0 ∧ limit_0 ≤ 2000) (kz_0_157 : 0 ≤ tokens_0 ∧ tokens_0 ≤ 2010) (kz_0_158 : 0 ≤ cur_0 ∧ cur_0 ≤ 2009) (kz_0_159 : 0 ≤ opened_0 ∧ opened_0 ≤ 13) (kz_0_164 : 0 ≤ styleKind_0 ∧ styleKind_0 ≤ 1) (kz_0_165 : (-1) ≤ styleOne_0 ∧ styleOne_0 ≤ 47) (ex2 : gx = cur_0) (ex3 : 0 ≤ gx ∧ gx ≤ 2009) (ey2 : gy = fault_0) (ey3 : 0 ≤ gy ∧ gy ≤ 5) (eu2 : gu = opened_0) (eu3 : 0 ≤ gu ∧ gu ≤ 13) : 1 * cur_0 + ((-1) * gx + 0) ≤ 0 := by
  subst fe_0_8_1
  subst fe_0_10_1
  subst fe_0_157_1
  subst fe_0_159_1
  subst fe_0_164_1
  subst fe_0_165_1
  have e_hE_0_1_1 := funext hE_0_1_1; subst e_hE_0_1_1
  have e_hE_0_160_1 := funext hE_0_160_1; subst e_hE_0_160_1
  have e_hE_0_161_1 := funext hE_0_161_1; subst e_hE_0_161_1
  have e_hE_0_162_1 := funext hE_0_162_1; subst e_hE_0_162_1
  have e_hE_0_163_1 := funext hE_0_163_1; subst e_hE_0_163_1
  first | assumption | (clear f4 f13 f17 f21 f24 f26 hE_0_1_1 hK_0_1 hE_0_160_1 hK_0_160 hE_0_161_1 hE_0_162_1 hK_0_162 hE_0_163_1 hK_0_163; omega) | (clear hE_0_1_1 hK_0_1 hE_0_160_1 hK_0_160 hE_0_161_1 hE_0_162_1 hK_0_162 hE_0_163_1 hK_0_163; grind) | omega | grind
set_option maxHeartbeats 4000000 in
theorem vc_Mo_product_at_f0_11_2 (x1 : Int) (x2 : Int) (x3 : Int) (x6 : Int) (x7 : Int) (x8 : Int) (x9 : Int) (x10 : Int) (x11 : Int) (x12 : Int) (x13 : Int) (x14 : Int) (x15 : Int) (x16 : Int) (x17 : Int) (x18 : Int) (cur_0 : Int) (fault_0 : Int) (styleKind_0 : Int) (styleOne_0 : Int) (opened_0 : Int) (cur_1 : Int) (tokenKind_1 : Int → Int) (tokenValue_1 : Int → Int) (fault_1 : Int) (tokens_1 : Int) (styleKind_1 : Int) (styleOne_1 : Int) (opened_1 : Int) (tokenPlace_1 : Int → Int) (tokenEnd_1 : Int → Int) (tape_1 : Int → Int) (limit_1 : Int) (limit_0 : Int) (tokens_0 : Int) (tape_0 : Int → Int) (tokenKind_0 : Int → Int) (tokenValue_0 : Int → Int) (tokenPlace_0 : Int → Int) (tokenEnd_0 : Int → Int) (gx : Int) (gy : Int) (gu : Int) (k1 : 0 ≤ x1 ∧ x1 ≤ 2009) (k2 : 0 ≤ x2 ∧ x2 ≤ 5) (k3 : 0 ≤ x3 ∧ x3 ≤ 13) (k6 : 0 ≤ x6 ∧ x6 ≤ 2009) (k7 : 0 ≤ x7 ∧ x7 ≤ 2010) (k8 : 42 ≤ x8 ∧ x8 ≤ 42) (k9 : 0 ≤ x9 ∧ x9 ≤ 5) (k10 : 0 ≤ x10 ∧ x10 ≤ 0) (k11 : 47 ≤ x11 ∧ x11 ≤ 47) (k12 : 0 ≤ x12 ∧ x12 ≤ 5) (k13 : 1 ≤ x13 ∧ x13 ≤ 1) (k14 : 42 ≤ x14 ∧ x14 ≤ 42) (k15 : 0 ≤ x15 ∧ x15 ≤ 5) (k16 : 1 ≤ x16 ∧ x16 ≤ 1) (k17 : 1 ≤ x17 ∧ x17 ≤ 1) (k18 : 1 ≤ x18 ∧ x18 ≤ 2009) (d0 : x6 + 1 ≤ x18 ∧ x18 ≤ x6 + 1) (g0 : x18 = cur_0) (f1 : fault_0 = x15) (f2 : fault_0 = x12) (f3 : fault_0 = x9) (f4 : (styleKind_0 = 0) → (styleOne_0 ≤ 23)) (f5 : 1 * opened_0 + 0 ≤ 0) (f6 : (-1) * opened_0 + 0 ≤ 0) (f7 : 1 * x3 + 0 ≤ 0) (f8 : (-1) * x3 + 0 ≤ 0) (f11 : x18 = x6 + x17) (g12 : x6 = cur_1) (f13 : (x16 = 1) → (tokenKind_1 (cur_1) = 3)) (f14 : SGN (cur_1) (tokenKind_1) (tokenValue_1) (x14) (x16) (x15)) (f15 : fault_1 = x15) (f16 : x13 ≠ 0) (f17 : (x13 = 1) → (tokenKind_1 (cur_1) = 3)) (f18 : SGN (cur_1) (tokenKind_1) (tokenValue_1) (x11) (x13) (x12)) (f19 : fault_1 = x12) (f20 : x10 = 0) (f21 : (x10 = 1) → (tokenKind_1 (cur_1) = 3)) (f22 : SGN (cur_1) (tokenKind_1) (tokenValue_1) (x8) (x10) (x9)) (f23 : fault_1 = x9) (f24 : ((cur_1 + 1) ≤ tokens_1) ∧ ((tokens_1 ≤ 2010) ∧ ((tokenKind_1 ((tokens_1 - 1)) = 0) ∨ (tokenKind_1 ((tokens_1 - 1)) = 4)))) (f25 : 1 * x1 + ((-1) * cur_1 + 0) ≤ 0) (f26 : (styleKind_1 = 0) → (styleOne_1 ≤ 23)) (f27 : 1 * opened_1 + 0 ≤ 0) (f28 : (-1) * opened_1 + 0 ≤ 0) (f29 : SPWv (fault_1) (cur_1) (styleKind_1) (limit_1) (tokenKind_1) (tokenValue_1) (tokenPlace_1) (tokenEnd_1) (tape_1) (x1) (x2) (x3)) (f30 : 1 * x3 + 0 ≤ 0) (f31 : (-1) * x3 + 0 ≤ 0) (f32 : 1 * x7 + (1 * cur_1 + 0) ≤ 2010) (f33 : (-1) * x7 + ((-1) * cur_1 + 0) ≤ (-2010)) (fe_0_8_1 : fault_0 = fault_1) (fe_0_10_1 : limit_0 = limit_1) (fe_0_157_1 : tokens_0 = tokens_1) (fe_0_158_1 : cur_0 = x18) (fe_0_159_1 : opened_0 = opened_1) (fe_0_164_1 : styleKind_0 = styleKind_1) (fe_0_165_1 : styleOne_0 = styleOne_1) (hE_0_1_1 : ∀ j : Int, tape_0 j = tape_1 j) (hK_0_1 : ∀ j : Int, 0 ≤ j → j < 2000 → (-128) ≤ tape_0 j ∧ tape_0 j ≤ 127) (hE_0_160_1 : ∀ j : Int, tokenKind_0 j = tokenKind_1 j) (hK_0_160 : ∀ j : Int, 0 ≤ j → j < 2010 → 0 ≤ tokenKind_0 j ∧ tokenKind_0 j ≤ 4) (hE_0_161_1 : ∀ j : Int, tokenValue_0 j = tokenValue_1 j) (hE_0_162_1 : ∀ j : Int, tokenPlace_0 j = tokenPlace_1 j) (hK_0_162 : ∀ j : Int, 0 ≤ j → j < 2010 → 0 ≤ tokenPlace_0 j ∧ tokenPlace_0 j ≤ 2000) (hE_0_163_1 : ∀ j : Int, tokenEnd_0 j = tokenEnd_1 j) (hK_0_163 : ∀ j : Int, 0 ≤ j → j < 2010 → 0 ≤ tokenEnd_0 j ∧ tokenEnd_0 j ≤ 2000) (kz_0_8 : 0 ≤ fault_0 ∧ fault_0 ≤ 5) (kz_0_10 : 0 ≤ limit_0 ∧ limit_0 ≤ 2000) (kz_0_157 : 0 ≤ tokens_0 ∧ tokens_0 ≤ 2010) (kz_0_158 : 0 ≤ cur_0 ∧ cur_0 ≤ 2009) (kz_0_159 : 0 ≤ opened_0 ∧ opened_0 ≤ 13) (kz_0_164 : 0 ≤ styleKind_0 ∧ styleKind_0 ≤ 1) (kz_0_165 : (-1) ≤ styleOne_0 ∧ styleOne_0 ≤ 47) (ex2 : gx = cur_0) (ex3 : 0 ≤ gx ∧ gx ≤ 2009) (ey2 : gy = fault_0) (ey3 : 0 ≤ gy ∧ gy ≤ 5) (eu2 : gu = opened_0) (eu3 : 0 ≤ gu ∧ gu ≤ 13) : (-1) * cur_0 + (1 * gx + 0) ≤ 0 := by
  subst fe_0_8_1
  subst fe_0_10_1
  subst fe_0_157_1
  subst fe_0_159_1
  subst fe_0_164_1
  subst fe_0_165_1
  have e_hE_0_1_1 := funext hE_0_1_1; subst e_hE_0_1_1
  have e_hE_0_160_1 := funext hE_0_160_1; subst e_hE_0_160_1
  have e_hE_0_161_1 := funext hE_0_161_1; subst e_hE_0_161_1
  have e_hE_0_162_1 := funext hE_0_162_1; subst e_hE_0_162_1
  have e_hE_0_163_1 := funext hE_0_163_1; subst e_hE_0_163_1
  first | assumption | (clear f4 f13 f17 f21 f24 f26 hE_0_1_1 hK_0_1 hE_0_160_1 hK_0_160 hE_0_161_1 hE_0_162_1 hK_0_162 hE_0_163_1 hK_0_163; omega) | (clear hE_0_1_1 hK_0_1 hE_0_160_1 hK_0_160 hE_0_161_1 hE_0_162_1 hK_0_162 hE_0_163_1 hK_0_163; grind) | omega | grind
set_option maxHeartbeats 4000000 in
theorem vc_Mo_product_at_f0_11_3 (x1 : Int) (x2 : Int) (x3 : Int) (x6 : Int) (x7 : Int) (x8 : Int) (x9 : Int) (x10 : Int) (x11 : Int) (x12 : Int) (x13 : Int) (x14 : Int) (x15 : Int) (x16 : Int) (x17 : Int) (x18 : Int) (cur_0 : Int) (fault_0 : Int) (styleKind_0 : Int) (styleOne_0 : Int) (opened_0 : Int) (cur_1 : Int) (tokenKind_1 : Int → Int) (tokenValue_1 : Int → Int) (fault_1 : Int) (tokens_1 : Int) (styleKind_1 : Int) (styleOne_1 : Int) (opened_1 : Int) (tokenPlace_1 : Int → Int) (tokenEnd_1 : Int → Int) (tape_1 : Int → Int) (limit_1 : Int) (limit_0 : Int) (tokens_0 : Int) (tape_0 : Int → Int) (tokenKind_0 : Int → Int) (tokenValue_0 : Int → Int) (tokenPlace_0 : Int → Int) (tokenEnd_0 : Int → Int) (gx : Int) (gy : Int) (gu : Int) (k1 : 0 ≤ x1 ∧ x1 ≤ 2009) (k2 : 0 ≤ x2 ∧ x2 ≤ 5) (k3 : 0 ≤ x3 ∧ x3 ≤ 13) (k6 : 0 ≤ x6 ∧ x6 ≤ 2009) (k7 : 0 ≤ x7 ∧ x7 ≤ 2010) (k8 : 42 ≤ x8 ∧ x8 ≤ 42) (k9 : 0 ≤ x9 ∧ x9 ≤ 5) (k10 : 0 ≤ x10 ∧ x10 ≤ 0) (k11 : 47 ≤ x11 ∧ x11 ≤ 47) (k12 : 0 ≤ x12 ∧ x12 ≤ 5) (k13 : 1 ≤ x13 ∧ x13 ≤ 1) (k14 : 42 ≤ x14 ∧ x14 ≤ 42) (k15 : 0 ≤ x15 ∧ x15 ≤ 5) (k16 : 1 ≤ x16 ∧ x16 ≤ 1) (k17 : 1 ≤ x17 ∧ x17 ≤ 1) (k18 : 1 ≤ x18 ∧ x18 ≤ 2009) (d0 : x6 + 1 ≤ x18 ∧ x18 ≤ x6 + 1) (g0 : x18 = cur_0) (f1 : fault_0 = x15) (f2 : fault_0 = x12) (f3 : fault_0 = x9) (f4 : (styleKind_0 = 0) → (styleOne_0 ≤ 23)) (f5 : 1 * opened_0 + 0 ≤ 0) (f6 : (-1) * opened_0 + 0 ≤ 0) (f7 : 1 * x3 + 0 ≤ 0) (f8 : (-1) * x3 + 0 ≤ 0) (f11 : x18 = x6 + x17) (g12 : x6 = cur_1) (f13 : (x16 = 1) → (tokenKind_1 (cur_1) = 3)) (f14 : SGN (cur_1) (tokenKind_1) (tokenValue_1) (x14) (x16) (x15)) (f15 : fault_1 = x15) (f16 : x13 ≠ 0) (f17 : (x13 = 1) → (tokenKind_1 (cur_1) = 3)) (f18 : SGN (cur_1) (tokenKind_1) (tokenValue_1) (x11) (x13) (x12)) (f19 : fault_1 = x12) (f20 : x10 = 0) (f21 : (x10 = 1) → (tokenKind_1 (cur_1) = 3)) (f22 : SGN (cur_1) (tokenKind_1) (tokenValue_1) (x8) (x10) (x9)) (f23 : fault_1 = x9) (f24 : ((cur_1 + 1) ≤ tokens_1) ∧ ((tokens_1 ≤ 2010) ∧ ((tokenKind_1 ((tokens_1 - 1)) = 0) ∨ (tokenKind_1 ((tokens_1 - 1)) = 4)))) (f25 : 1 * x1 + ((-1) * cur_1 + 0) ≤ 0) (f26 : (styleKind_1 = 0) → (styleOne_1 ≤ 23)) (f27 : 1 * opened_1 + 0 ≤ 0) (f28 : (-1) * opened_1 + 0 ≤ 0) (f29 : SPWv (fault_1) (cur_1) (styleKind_1) (limit_1) (tokenKind_1) (tokenValue_1) (tokenPlace_1) (tokenEnd_1) (tape_1) (x1) (x2) (x3)) (f30 : 1 * x3 + 0 ≤ 0) (f31 : (-1) * x3 + 0 ≤ 0) (f32 : 1 * x7 + (1 * cur_1 + 0) ≤ 2010) (f33 : (-1) * x7 + ((-1) * cur_1 + 0) ≤ (-2010)) (fe_0_8_1 : fault_0 = fault_1) (fe_0_10_1 : limit_0 = limit_1) (fe_0_157_1 : tokens_0 = tokens_1) (fe_0_158_1 : cur_0 = x18) (fe_0_159_1 : opened_0 = opened_1) (fe_0_164_1 : styleKind_0 = styleKind_1) (fe_0_165_1 : styleOne_0 = styleOne_1) (hE_0_1_1 : ∀ j : Int, tape_0 j = tape_1 j) (hK_0_1 : ∀ j : Int, 0 ≤ j → j < 2000 → (-128) ≤ tape_0 j ∧ tape_0 j ≤ 127) (hE_0_160_1 : ∀ j : Int, tokenKind_0 j = tokenKind_1 j) (hK_0_160 : ∀ j : Int, 0 ≤ j → j < 2010 → 0 ≤ tokenKind_0 j ∧ tokenKind_0 j ≤ 4) (hE_0_161_1 : ∀ j : Int, tokenValue_0 j = tokenValue_1 j) (hE_0_162_1 : ∀ j : Int, tokenPlace_0 j = tokenPlace_1 j) (hK_0_162 : ∀ j : Int, 0 ≤ j → j < 2010 → 0 ≤ tokenPlace_0 j ∧ tokenPlace_0 j ≤ 2000) (hE_0_163_1 : ∀ j : Int, tokenEnd_0 j = tokenEnd_1 j) (hK_0_163 : ∀ j : Int, 0 ≤ j → j < 2010 → 0 ≤ tokenEnd_0 j ∧ tokenEnd_0 j ≤ 2000) (kz_0_8 : 0 ≤ fault_0 ∧ fault_0 ≤ 5) (kz_0_10 : 0 ≤ limit_0 ∧ limit_0 ≤ 2000) (kz_0_157 : 0 ≤ tokens_0 ∧ tokens_0 ≤ 2010) (kz_0_158 : 0 ≤ cur_0 ∧ cur_0 ≤ 2009) (kz_0_159 : 0 ≤ opened_0 ∧ opened_0 ≤ 13) (kz_0_164 : 0 ≤ styleKind_0 ∧ styleKind_0 ≤ 1) (kz_0_165 : (-1) ≤ styleOne_0 ∧ styleOne_0 ≤ 47) (ex2 : gx = cur_0) (ex3 : 0 ≤ gx ∧ gx ≤ 2009) (ey2 : gy = fault_0) (ey3 : 0 ≤ gy ∧ gy ≤ 5) (eu2 : gu = opened_0) (eu3 : 0 ≤ gu ∧ gu ≤ 13) : (styleKind_0 = 0) → (styleOne_0 ≤ 23) := by
  subst fe_0_8_1
  subst fe_0_10_1
  subst fe_0_157_1
  subst fe_0_159_1
  subst fe_0_164_1
  subst fe_0_165_1
  have e_hE_0_1_1 := funext hE_0_1_1; subst e_hE_0_1_1
  have e_hE_0_160_1 := funext hE_0_160_1; subst e_hE_0_160_1
  have e_hE_0_161_1 := funext hE_0_161_1; subst e_hE_0_161_1
  have e_hE_0_162_1 := funext hE_0_162_1; subst e_hE_0_162_1
  have e_hE_0_163_1 := funext hE_0_163_1; subst e_hE_0_163_1
  first | assumption | (clear f4 f13 f17 f21 f24 f26 hE_0_1_1 hK_0_1 hE_0_160_1 hK_0_160 hE_0_161_1 hE_0_162_1 hK_0_162 hE_0_163_1 hK_0_163; omega) | (clear hE_0_1_1 hK_0_1 hE_0_160_1 hK_0_160 hE_0_161_1 hE_0_162_1 hK_0_162 hE_0_163_1 hK_0_163; grind) | omega | grind
set_option maxHeartbeats 4000000 in
theorem vc_Mo_product_at_f0_11_4 (x1 : Int) (x2 : Int) (x3 : Int) (x6 : Int) (x7 : Int) (x8 : Int) (x9 : Int) (x10 : Int) (x11 : Int) (x12 : Int) (x13 : Int) (x14 : Int) (x15 : Int) (x16 : Int) (x17 : Int) (x18 : Int) (cur_0 : Int) (fault_0 : Int) (styleKind_0 : Int) (styleOne_0 : Int) (opened_0 : Int) (cur_1 : Int) (tokenKind_1 : Int → Int) (tokenValue_1 : Int → Int) (fault_1 : Int) (tokens_1 : Int) (styleKind_1 : Int) (styleOne_1 : Int) (opened_1 : Int) (tokenPlace_1 : Int → Int) (tokenEnd_1 : Int → Int) (tape_1 : Int → Int) (limit_1 : Int) (limit_0 : Int) (tokens_0 : Int) (tape_0 : Int → Int) (tokenKind_0 : Int → Int) (tokenValue_0 : Int → Int) (tokenPlace_0 : Int → Int) (tokenEnd_0 : Int → Int) (gx : Int) (gy : Int) (gu : Int) (k1 : 0 ≤ x1 ∧ x1 ≤ 2009) (k2 : 0 ≤ x2 ∧ x2 ≤ 5) (k3 : 0 ≤ x3 ∧ x3 ≤ 13) (k6 : 0 ≤ x6 ∧ x6 ≤ 2009) (k7 : 0 ≤ x7 ∧ x7 ≤ 2010) (k8 : 42 ≤ x8 ∧ x8 ≤ 42) (k9 : 0 ≤ x9 ∧ x9 ≤ 5) (k10 : 0 ≤ x10 ∧ x10 ≤ 0) (k11 : 47 ≤ x11 ∧ x11 ≤ 47) (k12 : 0 ≤ x12 ∧ x12 ≤ 5) (k13 : 1 ≤ x13 ∧ x13 ≤ 1) (k14 : 42 ≤ x14 ∧ x14 ≤ 42) (k15 : 0 ≤ x15 ∧ x15 ≤ 5) (k16 : 1 ≤ x16 ∧ x16 ≤ 1) (k17 : 1 ≤ x17 ∧ x17 ≤ 1) (k18 : 1 ≤ x18 ∧ x18 ≤ 2009) (d0 : x6 + 1 ≤ x18 ∧ x18 ≤ x6 + 1) (g0 : x18 = cur_0) (f1 : fault_0 = x15) (f2 : fault_0 = x12) (f3 : fault_0 = x9) (f4 : (styleKind_0 = 0) → (styleOne_0 ≤ 23)) (f5 : 1 * opened_0 + 0 ≤ 0) (f6 : (-1) * opened_0 + 0 ≤ 0) (f7 : 1 * x3 + 0 ≤ 0) (f8 : (-1) * x3 + 0 ≤ 0) (f11 : x18 = x6 + x17) (g12 : x6 = cur_1) (f13 : (x16 = 1) → (tokenKind_1 (cur_1) = 3)) (f14 : SGN (cur_1) (tokenKind_1) (tokenValue_1) (x14) (x16) (x15)) (f15 : fault_1 = x15) (f16 : x13 ≠ 0) (f17 : (x13 = 1) → (tokenKind_1 (cur_1) = 3)) (f18 : SGN (cur_1) (tokenKind_1) (tokenValue_1) (x11) (x13) (x12)) (f19 : fault_1 = x12) (f20 : x10 = 0) (f21 : (x10 = 1) → (tokenKind_1 (cur_1) = 3)) (f22 : SGN (cur_1) (tokenKind_1) (tokenValue_1) (x8) (x10) (x9)) (f23 : fault_1 = x9) (f24 : ((cur_1 + 1) ≤ tokens_1) ∧ ((tokens_1 ≤ 2010) ∧ ((tokenKind_1 ((tokens_1 - 1)) = 0) ∨ (tokenKind_1 ((tokens_1 - 1)) = 4)))) (f25 : 1 * x1 + ((-1) * cur_1 + 0) ≤ 0) (f26 : (styleKind_1 = 0) → (styleOne_1 ≤ 23)) (f27 : 1 * opened_1 + 0 ≤ 0) (f28 : (-1) * opened_1 + 0 ≤ 0) (f29 : SPWv (fault_1) (cur_1) (styleKind_1) (limit_1) (tokenKind_1) (tokenValue_1) (tokenPlace_1) (tokenEnd_1) (tape_1) (x1) (x2) (x3)) (f30 : 1 * x3 + 0 ≤ 0) (f31 : (-1) * x3 + 0 ≤ 0) (f32 : 1 * x7 + (1 * cur_1 + 0) ≤ 2010) (f33 : (-1) * x7 + ((-1) * cur_1 + 0) ≤ (-2010)) (fe_0_8_1 : fault_0 = fault_1) (fe_0_10_1 : limit_0 = limit_1) (fe_0_157_1 : tokens_0 = tokens_1) (fe_0_158_1 : cur_0 = x18) (fe_0_159_1 : opened_0 = opened_1) (fe_0_164_1 : styleKind_0 = styleKind_1) (fe_0_165_1 : styleOne_0 = styleOne_1) (hE_0_1_1 : ∀ j : Int, tape_0 j = tape_1 j) (hK_0_1 : ∀ j : Int, 0 ≤ j → j < 2000 → (-128) ≤ tape_0 j ∧ tape_0 j ≤ 127) (hE_0_160_1 : ∀ j : Int, tokenKind_0 j = tokenKind_1 j) (hK_0_160 : ∀ j : Int, 0 ≤ j → j < 2010 → 0 ≤ tokenKind_0 j ∧ tokenKind_0 j ≤ 4) (hE_0_161_1 : ∀ j : Int, tokenValue_0 j = tokenValue_1 j) (hE_0_162_1 : ∀ j : Int, tokenPlace_0 j = tokenPlace_1 j) (hK_0_162 : ∀ j : Int, 0 ≤ j → j < 2010 → 0 ≤ tokenPlace_0 j ∧ tokenPlace_0 j ≤ 2000) (hE_0_163_1 : ∀ j : Int, tokenEnd_0 j = tokenEnd_1 j) (hK_0_163 : ∀ j : Int, 0 ≤ j → j < 2010 → 0 ≤ tokenEnd_0 j ∧ tokenEnd_0 j ≤ 2000) (kz_0_8 : 0 ≤ fault_0 ∧ fault_0 ≤ 5) (kz_0_10 : 0 ≤ limit_0 ∧ limit_0 ≤ 2000) (kz_0_157 : 0 ≤ tokens_0 ∧ tokens_0 ≤ 2010) (kz_0_158 : 0 ≤ cur_0 ∧ cur_0 ≤ 2009) (kz_0_159 : 0 ≤ opened_0 ∧ opened_0 ≤ 13) (kz_0_164 : 0 ≤ styleKind_0 ∧ styleKind_0 ≤ 1) (kz_0_165 : (-1) ≤ styleOne_0 ∧ styleOne_0 ≤ 47) (ex2 : gx = cur_0) (ex3 : 0 ≤ gx ∧ gx ≤ 2009) (ey2 : gy = fault_0) (ey3 : 0 ≤ gy ∧ gy ≤ 5) (eu2 : gu = opened_0) (eu3 : 0 ≤ gu ∧ gu ≤ 13) : 1 * opened_0 + 0 ≤ 0 := by
  subst fe_0_8_1
  subst fe_0_10_1
  subst fe_0_157_1
  subst fe_0_159_1
  subst fe_0_164_1
  subst fe_0_165_1
  have e_hE_0_1_1 := funext hE_0_1_1; subst e_hE_0_1_1
  have e_hE_0_160_1 := funext hE_0_160_1; subst e_hE_0_160_1
  have e_hE_0_161_1 := funext hE_0_161_1; subst e_hE_0_161_1
  have e_hE_0_162_1 := funext hE_0_162_1; subst e_hE_0_162_1
  have e_hE_0_163_1 := funext hE_0_163_1; subst e_hE_0_163_1
  first | assumption | (clear f4 f13 f17 f21 f24 f26 hE_0_1_1 hK_0_1 hE_0_160_1 hK_0_160 hE_0_161_1 hE_0_162_1 hK_0_162 hE_0_163_1 hK_0_163; omega) | (clear hE_0_1_1 hK_0_1 hE_0_160_1 hK_0_160 hE_0_161_1 hE_0_162_1 hK_0_162 hE_0_163_1 hK_0_163; grind) | omega | grind
set_option maxHeartbeats 4000000 in
theorem vc_Mo_product_at_f0_11_5 (x1 : Int) (x2 : Int) (x3 : Int) (x6 : Int) (x7 : Int) (x8 : Int) (x9 : Int) (x10 : Int) (x11 : Int) (x12 : Int) (x13 : Int) (x14 : Int) (x15 : Int) (x16 : Int) (x17 : Int) (x18 : Int) (cur_0 : Int) (fault_0 : Int) (styleKind_0 : Int) (styleOne_0 : Int) (opened_0 : Int) (cur_1 : Int) (tokenKind_1 : Int → Int) (tokenValue_1 : Int → Int) (fault_1 : Int) (tokens_1 : Int) (styleKind_1 : Int) (styleOne_1 : Int) (opened_1 : Int) (tokenPlace_1 : Int → Int) (tokenEnd_1 : Int → Int) (tape_1 : Int → Int) (limit_1 : Int) (limit_0 : Int) (tokens_0 : Int) (tape_0 : Int → Int) (tokenKind_0 : Int → Int) (tokenValue_0 : Int → Int) (tokenPlace_0 : Int → Int) (tokenEnd_0 : Int → Int) (gx : Int) (gy : Int) (gu : Int) (k1 : 0 ≤ x1 ∧ x1 ≤ 2009) (k2 : 0 ≤ x2 ∧ x2 ≤ 5) (k3 : 0 ≤ x3 ∧ x3 ≤ 13) (k6 : 0 ≤ x6 ∧ x6 ≤ 2009) (k7 : 0 ≤ x7 ∧ x7 ≤ 2010) (k8 : 42 ≤ x8 ∧ x8 ≤ 42) (k9 : 0 ≤ x9 ∧ x9 ≤ 5) (k10 : 0 ≤ x10 ∧ x10 ≤ 0) (k11 : 47 ≤ x11 ∧ x11 ≤ 47) (k12 : 0 ≤ x12 ∧ x12 ≤ 5) (k13 : 1 ≤ x13 ∧ x13 ≤ 1) (k14 : 42 ≤ x14 ∧ x14 ≤ 42) (k15 : 0 ≤ x15 ∧ x15 ≤ 5) (k16 : 1 ≤ x16 ∧ x16 ≤ 1) (k17 : 1 ≤ x17 ∧ x17 ≤ 1) (k18 : 1 ≤ x18 ∧ x18 ≤ 2009) (d0 : x6 + 1 ≤ x18 ∧ x18 ≤ x6 + 1) (g0 : x18 = cur_0) (f1 : fault_0 = x15) (f2 : fault_0 = x12) (f3 : fault_0 = x9) (f4 : (styleKind_0 = 0) → (styleOne_0 ≤ 23)) (f5 : 1 * opened_0 + 0 ≤ 0) (f6 : (-1) * opened_0 + 0 ≤ 0) (f7 : 1 * x3 + 0 ≤ 0) (f8 : (-1) * x3 + 0 ≤ 0) (f11 : x18 = x6 + x17) (g12 : x6 = cur_1) (f13 : (x16 = 1) → (tokenKind_1 (cur_1) = 3)) (f14 : SGN (cur_1) (tokenKind_1) (tokenValue_1) (x14) (x16) (x15)) (f15 : fault_1 = x15) (f16 : x13 ≠ 0) (f17 : (x13 = 1) → (tokenKind_1 (cur_1) = 3)) (f18 : SGN (cur_1) (tokenKind_1) (tokenValue_1) (x11) (x13) (x12)) (f19 : fault_1 = x12) (f20 : x10 = 0) (f21 : (x10 = 1) → (tokenKind_1 (cur_1) = 3)) (f22 : SGN (cur_1) (tokenKind_1) (tokenValue_1) (x8) (x10) (x9)) (f23 : fault_1 = x9) (f24 : ((cur_1 + 1) ≤ tokens_1) ∧ ((tokens_1 ≤ 2010) ∧ ((tokenKind_1 ((tokens_1 - 1)) = 0) ∨ (tokenKind_1 ((tokens_1 - 1)) = 4)))) (f25 : 1 * x1 + ((-1) * cur_1 + 0) ≤ 0) (f26 : (styleKind_1 = 0) → (styleOne_1 ≤ 23)) (f27 : 1 * opened_1 + 0 ≤ 0) (f28 : (-1) * opened_1 + 0 ≤ 0) (f29 : SPWv (fault_1) (cur_1) (styleKind_1) (limit_1) (tokenKind_1) (tokenValue_1) (tokenPlace_1) (tokenEnd_1) (tape_1) (x1) (x2) (x3)) (f30 : 1 * x3 + 0 ≤ 0) (f31 : (-1) * x3 + 0 ≤ 0) (f32 : 1 * x7 + (1 * cur_1 + 0) ≤ 2010) (f33 : (-1) * x7 + ((-1) * cur_1 + 0) ≤ (-2010)) (fe_0_8_1 : fault_0 = fault_1) (fe_0_10_1 : limit_0 = limit_1) (fe_0_157_1 : tokens_0 = tokens_1) (fe_0_158_1 : cur_0 = x18) (fe_0_159_1 : opened_0 = opened_1) (fe_0_164_1 : styleKind_0 = styleKind_1) (fe_0_165_1 : styleOne_0 = styleOne_1) (hE_0_1_1 : ∀ j : Int, tape_0 j = tape_1 j) (hK_0_1 : ∀ j : Int, 0 ≤ j → j < 2000 → (-128) ≤ tape_0 j ∧ tape_0 j ≤ 127) (hE_0_160_1 : ∀ j : Int, tokenKind_0 j = tokenKind_1 j) (hK_0_160 : ∀ j : Int, 0 ≤ j → j < 2010 → 0 ≤ tokenKind_0 j ∧ tokenKind_0 j ≤ 4) (hE_0_161_1 : ∀ j : Int, tokenValue_0 j = tokenValue_1 j) (hE_0_162_1 : ∀ j : Int, tokenPlace_0 j = tokenPlace_1 j) (hK_0_162 : ∀ j : Int, 0 ≤ j → j < 2010 → 0 ≤ tokenPlace_0 j ∧ tokenPlace_0 j ≤ 2000) (hE_0_163_1 : ∀ j : Int, tokenEnd_0 j = tokenEnd_1 j) (hK_0_163 : ∀ j : Int, 0 ≤ j → j < 2010 → 0 ≤ tokenEnd_0 j ∧ tokenEnd_0 j ≤ 2000) (kz_0_8 : 0 ≤ fault_0 ∧ fault_0 ≤ 5) (kz_0_10 : 0 ≤ limit_0 ∧ limit_0 ≤ 2000) (kz_0_157 : 0 ≤ tokens_0 ∧ tokens_0 ≤ 2010) (kz_0_158 : 0 ≤ cur_0 ∧ cur_0 ≤ 2009) (kz_0_159 : 0 ≤ opened_0 ∧ opened_0 ≤ 13) (kz_0_164 : 0 ≤ styleKind_0 ∧ styleKind_0 ≤ 1) (kz_0_165 : (-1) ≤ styleOne_0 ∧ styleOne_0 ≤ 47) (ex2 : gx = cur_0) (ex3 : 0 ≤ gx ∧ gx ≤ 2009) (ey2 : gy = fault_0) (ey3 : 0 ≤ gy ∧ gy ≤ 5) (eu2 : gu = opened_0) (eu3 : 0 ≤ gu ∧ gu ≤ 13) : (-1) * opened_0 + 0 ≤ 0 := by
  subst fe_0_8_1
  subst fe_0_10_1
  subst fe_0_157_1
  subst fe_0_159_1
  subst fe_0_164_1
  subst fe_0_165_1
  have e_hE_0_1_1 := funext hE_0_1_1; subst e_hE_0_1_1
  have e_hE_0_160_1 := funext hE_0_160_1; subst e_hE_0_160_1
  have e_hE_0_161_1 := funext hE_0_161_1; subst e_hE_0_161_1
  have e_hE_0_162_1 := funext hE_0_162_1; subst e_hE_0_162_1
  have e_hE_0_163_1 := funext hE_0_163_1; subst e_hE_0_163_1
  first | assumption | (clear f4 f13 f17 f21 f24 f26 hE_0_1_1 hK_0_1 hE_0_160_1 hK_0_160 hE_0_161_1 hE_0_162_1 hK_0_162 hE_0_163_1 hK_0_163; omega) | (clear hE_0_1_1 hK_0_1 hE_0_160_1 hK_0_160 hE_0_161_1 hE_0_162_1 hK_0_162 hE_0_163_1 hK_0_163; grind) | omega | grind
set_option maxHeartbeats 4000000 in
theorem vc_Mo_product_at_f0_11_6 (x1 : Int) (x2 : Int) (x3 : Int) (x6 : Int) (x7 : Int) (x8 : Int) (x9 : Int) (x10 : Int) (x11 : Int) (x12 : Int) (x13 : Int) (x14 : Int) (x15 : Int) (x16 : Int) (x17 : Int) (x18 : Int) (cur_0 : Int) (fault_0 : Int) (styleKind_0 : Int) (styleOne_0 : Int) (opened_0 : Int) (cur_1 : Int) (tokenKind_1 : Int → Int) (tokenValue_1 : Int → Int) (fault_1 : Int) (tokens_1 : Int) (styleKind_1 : Int) (styleOne_1 : Int) (opened_1 : Int) (tokenPlace_1 : Int → Int) (tokenEnd_1 : Int → Int) (tape_1 : Int → Int) (limit_1 : Int) (limit_0 : Int) (tokens_0 : Int) (tape_0 : Int → Int) (tokenKind_0 : Int → Int) (tokenValue_0 : Int → Int) (tokenPlace_0 : Int → Int) (tokenEnd_0 : Int → Int) (gx : Int) (gy : Int) (gu : Int) (k1 : 0 ≤ x1 ∧ x1 ≤ 2009) (k2 : 0 ≤ x2 ∧ x2 ≤ 5) (k3 : 0 ≤ x3 ∧ x3 ≤ 13) (k6 : 0 ≤ x6 ∧ x6 ≤ 2009) (k7 : 0 ≤ x7 ∧ x7 ≤ 2010) (k8 : 42 ≤ x8 ∧ x8 ≤ 42) (k9 : 0 ≤ x9 ∧ x9 ≤ 5) (k10 : 0 ≤ x10 ∧ x10 ≤ 0) (k11 : 47 ≤ x11 ∧ x11 ≤ 47) (k12 : 0 ≤ x12 ∧ x12 ≤ 5) (k13 : 1 ≤ x13 ∧ x13 ≤ 1) (k14 : 42 ≤ x14 ∧ x14 ≤ 42) (k15 : 0 ≤ x15 ∧ x15 ≤ 5) (k16 : 1 ≤ x16 ∧ x16 ≤ 1) (k17 : 1 ≤ x17 ∧ x17 ≤ 1) (k18 : 1 ≤ x18 ∧ x18 ≤ 2009) (d0 : x6 + 1 ≤ x18 ∧ x18 ≤ x6 + 1) (g0 : x18 = cur_0) (f1 : fault_0 = x15) (f2 : fault_0 = x12) (f3 : fault_0 = x9) (f4 : (styleKind_0 = 0) → (styleOne_0 ≤ 23)) (f5 : 1 * opened_0 + 0 ≤ 0) (f6 : (-1) * opened_0 + 0 ≤ 0) (f7 : 1 * x3 + 0 ≤ 0) (f8 : (-1) * x3 + 0 ≤ 0) (f11 : x18 = x6 + x17) (g12 : x6 = cur_1) (f13 : (x16 = 1) → (tokenKind_1 (cur_1) = 3)) (f14 : SGN (cur_1) (tokenKind_1) (tokenValue_1) (x14) (x16) (x15)) (f15 : fault_1 = x15) (f16 : x13 ≠ 0) (f17 : (x13 = 1) → (tokenKind_1 (cur_1) = 3)) (f18 : SGN (cur_1) (tokenKind_1) (tokenValue_1) (x11) (x13) (x12)) (f19 : fault_1 = x12) (f20 : x10 = 0) (f21 : (x10 = 1) → (tokenKind_1 (cur_1) = 3)) (f22 : SGN (cur_1) (tokenKind_1) (tokenValue_1) (x8) (x10) (x9)) (f23 : fault_1 = x9) (f24 : ((cur_1 + 1) ≤ tokens_1) ∧ ((tokens_1 ≤ 2010) ∧ ((tokenKind_1 ((tokens_1 - 1)) = 0) ∨ (tokenKind_1 ((tokens_1 - 1)) = 4)))) (f25 : 1 * x1 + ((-1) * cur_1 + 0) ≤ 0) (f26 : (styleKind_1 = 0) → (styleOne_1 ≤ 23)) (f27 : 1 * opened_1 + 0 ≤ 0) (f28 : (-1) * opened_1 + 0 ≤ 0) (f29 : SPWv (fault_1) (cur_1) (styleKind_1) (limit_1) (tokenKind_1) (tokenValue_1) (tokenPlace_1) (tokenEnd_1) (tape_1) (x1) (x2) (x3)) (f30 : 1 * x3 + 0 ≤ 0) (f31 : (-1) * x3 + 0 ≤ 0) (f32 : 1 * x7 + (1 * cur_1 + 0) ≤ 2010) (f33 : (-1) * x7 + ((-1) * cur_1 + 0) ≤ (-2010)) (fe_0_8_1 : fault_0 = fault_1) (fe_0_10_1 : limit_0 = limit_1) (fe_0_157_1 : tokens_0 = tokens_1) (fe_0_158_1 : cur_0 = x18) (fe_0_159_1 : opened_0 = opened_1) (fe_0_164_1 : styleKind_0 = styleKind_1) (fe_0_165_1 : styleOne_0 = styleOne_1) (hE_0_1_1 : ∀ j : Int, tape_0 j = tape_1 j) (hK_0_1 : ∀ j : Int, 0 ≤ j → j < 2000 → (-128) ≤ tape_0 j ∧ tape_0 j ≤ 127) (hE_0_160_1 : ∀ j : Int, tokenKind_0 j = tokenKind_1 j) (hK_0_160 : ∀ j : Int, 0 ≤ j → j < 2010 → 0 ≤ tokenKind_0 j ∧ tokenKind_0 j ≤ 4) (hE_0_161_1 : ∀ j : Int, tokenValue_0 j = tokenValue_1 j) (hE_0_162_1 : ∀ j : Int, tokenPlace_0 j = tokenPlace_1 j) (hK_0_162 : ∀ j : Int, 0 ≤ j → j < 2010 → 0 ≤ tokenPlace_0 j ∧ tokenPlace_0 j ≤ 2000) (hE_0_163_1 : ∀ j : Int, tokenEnd_0 j = tokenEnd_1 j) (hK_0_163 : ∀ j : Int, 0 ≤ j → j < 2010 → 0 ≤ tokenEnd_0 j ∧ tokenEnd_0 j ≤ 2000) (kz_0_8 : 0 ≤ fault_0 ∧ fault_0 ≤ 5) (kz_0_10 : 0 ≤ limit_0 ∧ limit_0 ≤ 2000) (kz_0_157 : 0 ≤ tokens_0 ∧ tokens_0 ≤ 2010) (kz_0_158 : 0 ≤ cur_0 ∧ cur_0 ≤ 2009) (kz_0_159 : 0 ≤ opened_0 ∧ opened_0 ≤ 13) (kz_0_164 : 0 ≤ styleKind_0 ∧ styleKind_0 ≤ 1) (kz_0_165 : (-1) ≤ styleOne_0 ∧ styleOne_0 ≤ 47) (ex2 : gx = cur_0) (ex3 : 0 ≤ gx ∧ gx ≤ 2009) (ey2 : gy = fault_0) (ey3 : 0 ≤ gy ∧ gy ≤ 5) (eu2 : gu = opened_0) (eu3 : 0 ≤ gu ∧ gu ≤ 13) : fault_0 = gy := by
  subst fe_0_8_1
  subst fe_0_10_1
  subst fe_0_157_1
  subst fe_0_159_1
  subst fe_0_164_1
  subst fe_0_165_1
  have e_hE_0_1_1 := funext hE_0_1_1; subst e_hE_0_1_1
  have e_hE_0_160_1 := funext hE_0_160_1; subst e_hE_0_160_1
  have e_hE_0_161_1 := funext hE_0_161_1; subst e_hE_0_161_1
  have e_hE_0_162_1 := funext hE_0_162_1; subst e_hE_0_162_1
  have e_hE_0_163_1 := funext hE_0_163_1; subst e_hE_0_163_1
  first | assumption | (clear f4 f13 f17 f21 f24 f26 hE_0_1_1 hK_0_1 hE_0_160_1 hK_0_160 hE_0_161_1 hE_0_162_1 hK_0_162 hE_0_163_1 hK_0_163; omega) | (clear hE_0_1_1 hK_0_1 hE_0_160_1 hK_0_160 hE_0_161_1 hE_0_162_1 hK_0_162 hE_0_163_1 hK_0_163; grind) | omega | grind
set_option maxHeartbeats 4000000 in
theorem vc_Mo_product_at_f0_11_7 (x1 : Int) (x2 : Int) (x3 : Int) (x6 : Int) (x7 : Int) (x8 : Int) (x9 : Int) (x10 : Int) (x11 : Int) (x12 : Int) (x13 : Int) (x14 : Int) (x15 : Int) (x16 : Int) (x17 : Int) (x18 : Int) (cur_0 : Int) (fault_0 : Int) (styleKind_0 : Int) (styleOne_0 : Int) (opened_0 : Int) (cur_1 : Int) (tokenKind_1 : Int → Int) (tokenValue_1 : Int → Int) (fault_1 : Int) (tokens_1 : Int) (styleKind_1 : Int) (styleOne_1 : Int) (opened_1 : Int) (tokenPlace_1 : Int → Int) (tokenEnd_1 : Int → Int) (tape_1 : Int → Int) (limit_1 : Int) (limit_0 : Int) (tokens_0 : Int) (tape_0 : Int → Int) (tokenKind_0 : Int → Int) (tokenValue_0 : Int → Int) (tokenPlace_0 : Int → Int) (tokenEnd_0 : Int → Int) (gx : Int) (gy : Int) (gu : Int) (k1 : 0 ≤ x1 ∧ x1 ≤ 2009) (k2 : 0 ≤ x2 ∧ x2 ≤ 5) (k3 : 0 ≤ x3 ∧ x3 ≤ 13) (k6 : 0 ≤ x6 ∧ x6 ≤ 2009) (k7 : 0 ≤ x7 ∧ x7 ≤ 2010) (k8 : 42 ≤ x8 ∧ x8 ≤ 42) (k9 : 0 ≤ x9 ∧ x9 ≤ 5) (k10 : 0 ≤ x10 ∧ x10 ≤ 0) (k11 : 47 ≤ x11 ∧ x11 ≤ 47) (k12 : 0 ≤ x12 ∧ x12 ≤ 5) (k13 : 1 ≤ x13 ∧ x13 ≤ 1) (k14 : 42 ≤ x14 ∧ x14 ≤ 42) (k15 : 0 ≤ x15 ∧ x15 ≤ 5) (k16 : 1 ≤ x16 ∧ x16 ≤ 1) (k17 : 1 ≤ x17 ∧ x17 ≤ 1) (k18 : 1 ≤ x18 ∧ x18 ≤ 2009) (d0 : x6 + 1 ≤ x18 ∧ x18 ≤ x6 + 1) (g0 : x18 = cur_0) (f1 : fault_0 = x15) (f2 : fault_0 = x12) (f3 : fault_0 = x9) (f4 : (styleKind_0 = 0) → (styleOne_0 ≤ 23)) (f5 : 1 * opened_0 + 0 ≤ 0) (f6 : (-1) * opened_0 + 0 ≤ 0) (f7 : 1 * x3 + 0 ≤ 0) (f8 : (-1) * x3 + 0 ≤ 0) (f11 : x18 = x6 + x17) (g12 : x6 = cur_1) (f13 : (x16 = 1) → (tokenKind_1 (cur_1) = 3)) (f14 : SGN (cur_1) (tokenKind_1) (tokenValue_1) (x14) (x16) (x15)) (f15 : fault_1 = x15) (f16 : x13 ≠ 0) (f17 : (x13 = 1) → (tokenKind_1 (cur_1) = 3)) (f18 : SGN (cur_1) (tokenKind_1) (tokenValue_1) (x11) (x13) (x12)) (f19 : fault_1 = x12) (f20 : x10 = 0) (f21 : (x10 = 1) → (tokenKind_1 (cur_1) = 3)) (f22 : SGN (cur_1) (tokenKind_1) (tokenValue_1) (x8) (x10) (x9)) (f23 : fault_1 = x9) (f24 : ((cur_1 + 1) ≤ tokens_1) ∧ ((tokens_1 ≤ 2010) ∧ ((tokenKind_1 ((tokens_1 - 1)) = 0) ∨ (tokenKind_1 ((tokens_1 - 1)) = 4)))) (f25 : 1 * x1 + ((-1) * cur_1 + 0) ≤ 0) (f26 : (styleKind_1 = 0) → (styleOne_1 ≤ 23)) (f27 : 1 * opened_1 + 0 ≤ 0) (f28 : (-1) * opened_1 + 0 ≤ 0) (f29 : SPWv (fault_1) (cur_1) (styleKind_1) (limit_1) (tokenKind_1) (tokenValue_1) (tokenPlace_1) (tokenEnd_1) (tape_1) (x1) (x2) (x3)) (f30 : 1 * x3 + 0 ≤ 0) (f31 : (-1) * x3 + 0 ≤ 0) (f32 : 1 * x7 + (1 * cur_1 + 0) ≤ 2010) (f33 : (-1) * x7 + ((-1) * cur_1 + 0) ≤ (-2010)) (fe_0_8_1 : fault_0 = fault_1) (fe_0_10_1 : limit_0 = limit_1) (fe_0_157_1 : tokens_0 = tokens_1) (fe_0_158_1 : cur_0 = x18) (fe_0_159_1 : opened_0 = opened_1) (fe_0_164_1 : styleKind_0 = styleKind_1) (fe_0_165_1 : styleOne_0 = styleOne_1) (hE_0_1_1 : ∀ j : Int, tape_0 j = tape_1 j) (hK_0_1 : ∀ j : Int, 0 ≤ j → j < 2000 → (-128) ≤ tape_0 j ∧ tape_0 j ≤ 127) (hE_0_160_1 : ∀ j : Int, tokenKind_0 j = tokenKind_1 j) (hK_0_160 : ∀ j : Int, 0 ≤ j → j < 2010 → 0 ≤ tokenKind_0 j ∧ tokenKind_0 j ≤ 4) (hE_0_161_1 : ∀ j : Int, tokenValue_0 j = tokenValue_1 j) (hE_0_162_1 : ∀ j : Int, tokenPlace_0 j = tokenPlace_1 j) (hK_0_162 : ∀ j : Int, 0 ≤ j → j < 2010 → 0 ≤ tokenPlace_0 j ∧ tokenPlace_0 j ≤ 2000) (hE_0_163_1 : ∀ j : Int, tokenEnd_0 j = tokenEnd_1 j) (hK_0_163 : ∀ j : Int, 0 ≤ j → j < 2010 → 0 ≤ tokenEnd_0 j ∧ tokenEnd_0 j ≤ 2000) (kz_0_8 : 0 ≤ fault_0 ∧ fault_0 ≤ 5) (kz_0_10 : 0 ≤ limit_0 ∧ limit_0 ≤ 2000) (kz_0_157 : 0 ≤ tokens_0 ∧ tokens_0 ≤ 2010) (kz_0_158 : 0 ≤ cur_0 ∧ cur_0 ≤ 2009) (kz_0_159 : 0 ≤ opened_0 ∧ opened_0 ≤ 13) (kz_0_164 : 0 ≤ styleKind_0 ∧ styleKind_0 ≤ 1) (kz_0_165 : (-1) ≤ styleOne_0 ∧ styleOne_0 ≤ 47) (ex2 : gx = cur_0) (ex3 : 0 ≤ gx ∧ gx ≤ 2009) (ey2 : gy = fault_0) (ey3 : 0 ≤ gy ∧ gy ≤ 5) (eu2 : gu = opened_0) (eu3 : 0 ≤ gu ∧ gu ≤ 13) : opened_0 = gu := by
  subst fe_0_8_1
  subst fe_0_10_1
  subst fe_0_157_1
  subst fe_0_159_1
  subst fe_0_164_1
  subst fe_0_165_1
  have e_hE_0_1_1 := funext hE_0_1_1; subst e_hE_0_1_1
  have e_hE_0_160_1 := funext hE_0_160_1; subst e_hE_0_160_1
  have e_hE_0_161_1 := funext hE_0_161_1; subst e_hE_0_161_1
  have e_hE_0_162_1 := funext hE_0_162_1; subst e_hE_0_162_1
  have e_hE_0_163_1 := funext hE_0_163_1; subst e_hE_0_163_1
  first | assumption | (clear f4 f13 f17 f21 f24 f26 hE_0_1_1 hK_0_1 hE_0_160_1 hK_0_160 hE_0_161_1 hE_0_162_1 hK_0_162 hE_0_163_1 hK_0_163; omega) | (clear hE_0_1_1 hK_0_1 hE_0_160_1 hK_0_160 hE_0_161_1 hE_0_162_1 hK_0_162 hE_0_163_1 hK_0_163; grind) | omega | grind
set_option maxHeartbeats 4000000 in
theorem vc_Mo_product_at_f0_11_8 (x1 : Int) (x2 : Int) (x3 : Int) (x6 : Int) (x7 : Int) (x8 : Int) (x9 : Int) (x10 : Int) (x11 : Int) (x12 : Int) (x13 : Int) (x14 : Int) (x15 : Int) (x16 : Int) (x17 : Int) (x18 : Int) (cur_0 : Int) (fault_0 : Int) (styleKind_0 : Int) (styleOne_0 : Int) (opened_0 : Int) (cur_1 : Int) (tokenKind_1 : Int → Int) (tokenValue_1 : Int → Int) (fault_1 : Int) (tokens_1 : Int) (styleKind_1 : Int) (styleOne_1 : Int) (opened_1 : Int) (tokenPlace_1 : Int → Int) (tokenEnd_1 : Int → Int) (tape_1 : Int → Int) (limit_1 : Int) (limit_0 : Int) (tokens_0 : Int) (tape_0 : Int → Int) (tokenKind_0 : Int → Int) (tokenValue_0 : Int → Int) (tokenPlace_0 : Int → Int) (tokenEnd_0 : Int → Int) (gx : Int) (gy : Int) (gu : Int) (k1 : 0 ≤ x1 ∧ x1 ≤ 2009) (k2 : 0 ≤ x2 ∧ x2 ≤ 5) (k3 : 0 ≤ x3 ∧ x3 ≤ 13) (k6 : 0 ≤ x6 ∧ x6 ≤ 2009) (k7 : 0 ≤ x7 ∧ x7 ≤ 2010) (k8 : 42 ≤ x8 ∧ x8 ≤ 42) (k9 : 0 ≤ x9 ∧ x9 ≤ 5) (k10 : 0 ≤ x10 ∧ x10 ≤ 0) (k11 : 47 ≤ x11 ∧ x11 ≤ 47) (k12 : 0 ≤ x12 ∧ x12 ≤ 5) (k13 : 1 ≤ x13 ∧ x13 ≤ 1) (k14 : 42 ≤ x14 ∧ x14 ≤ 42) (k15 : 0 ≤ x15 ∧ x15 ≤ 5) (k16 : 1 ≤ x16 ∧ x16 ≤ 1) (k17 : 1 ≤ x17 ∧ x17 ≤ 1) (k18 : 1 ≤ x18 ∧ x18 ≤ 2009) (d0 : x6 + 1 ≤ x18 ∧ x18 ≤ x6 + 1) (g0 : x18 = cur_0) (f1 : fault_0 = x15) (f2 : fault_0 = x12) (f3 : fault_0 = x9) (f4 : (styleKind_0 = 0) → (styleOne_0 ≤ 23)) (f5 : 1 * opened_0 + 0 ≤ 0) (f6 : (-1) * opened_0 + 0 ≤ 0) (f7 : 1 * x3 + 0 ≤ 0) (f8 : (-1) * x3 + 0 ≤ 0) (f11 : x18 = x6 + x17) (g12 : x6 = cur_1) (f13 : (x16 = 1) → (tokenKind_1 (cur_1) = 3)) (f14 : SGN (cur_1) (tokenKind_1) (tokenValue_1) (x14) (x16) (x15)) (f15 : fault_1 = x15) (f16 : x13 ≠ 0) (f17 : (x13 = 1) → (tokenKind_1 (cur_1) = 3)) (f18 : SGN (cur_1) (tokenKind_1) (tokenValue_1) (x11) (x13) (x12)) (f19 : fault_1 = x12) (f20 : x10 = 0) (f21 : (x10 = 1) → (tokenKind_1 (cur_1) = 3)) (f22 : SGN (cur_1) (tokenKind_1) (tokenValue_1) (x8) (x10) (x9)) (f23 : fault_1 = x9) (f24 : ((cur_1 + 1) ≤ tokens_1) ∧ ((tokens_1 ≤ 2010) ∧ ((tokenKind_1 ((tokens_1 - 1)) = 0) ∨ (tokenKind_1 ((tokens_1 - 1)) = 4)))) (f25 : 1 * x1 + ((-1) * cur_1 + 0) ≤ 0) (f26 : (styleKind_1 = 0) → (styleOne_1 ≤ 23)) (f27 : 1 * opened_1 + 0 ≤ 0) (f28 : (-1) * opened_1 + 0 ≤ 0) (f29 : SPWv (fault_1) (cur_1) (styleKind_1) (limit_1) (tokenKind_1) (tokenValue_1) (tokenPlace_1) (tokenEnd_1) (tape_1) (x1) (x2) (x3)) (f30 : 1 * x3 + 0 ≤ 0) (f31 : (-1) * x3 + 0 ≤ 0) (f32 : 1 * x7 + (1 * cur_1 + 0) ≤ 2010) (f33 : (-1) * x7 + ((-1) * cur_1 + 0) ≤ (-2010)) (fe_0_8_1 : fault_0 = fault_1) (fe_0_10_1 : limit_0 = limit_1) (fe_0_157_1 : tokens_0 = tokens_1) (fe_0_158_1 : cur_0 = x18) (fe_0_159_1 : opened_0 = opened_1) (fe_0_164_1 : styleKind_0 = styleKind_1) (fe_0_165_1 : styleOne_0 = styleOne_1) (hE_0_1_1 : ∀ j : Int, tape_0 j = tape_1 j) (hK_0_1 : ∀ j : Int, 0 ≤ j → j < 2000 → (-128) ≤ tape_0 j ∧ tape_0 j ≤ 127) (hE_0_160_1 : ∀ j : Int, tokenKind_0 j = tokenKind_1 j) (hK_0_160 : ∀ j : Int, 0 ≤ j → j < 2010 → 0 ≤ tokenKind_0 j ∧ tokenKind_0 j ≤ 4) (hE_0_161_1 : ∀ j : Int, tokenValue_0 j = tokenValue_1 j) (hE_0_162_1 : ∀ j : Int, tokenPlace_0 j = tokenPlace_1 j) (hK_0_162 : ∀ j : Int, 0 ≤ j → j < 2010 → 0 ≤ tokenPlace_0 j ∧ tokenPlace_0 j ≤ 2000) (hE_0_163_1 : ∀ j : Int, tokenEnd_0 j = tokenEnd_1 j) (hK_0_163 : ∀ j : Int, 0 ≤ j → j < 2010 → 0 ≤ tokenEnd_0 j ∧ tokenEnd_0 j ≤ 2000) (kz_0_8 : 0 ≤ fault_0 ∧ fault_0 ≤ 5) (kz_0_10 : 0 ≤ limit_0 ∧ limit_0 ≤ 2000) (kz_0_157 : 0 ≤ tokens_0 ∧ tokens_0 ≤ 2010) (kz_0_158 : 0 ≤ cur_0 ∧ cur_0 ≤ 2009) (kz_0_159 : 0 ≤ opened_0 ∧ opened_0 ≤ 13) (kz_0_164 : 0 ≤ styleKind_0 ∧ styleKind_0 ≤ 1) (kz_0_165 : (-1) ≤ styleOne_0 ∧ styleOne_0 ≤ 47) (ex2 : gx = cur_0) (ex3 : 0 ≤ gx ∧ gx ≤ 2009) (ey2 : gy = fault_0) (ey3 : 0 ≤ gy ∧ gy ≤ 5) (eu2 : gu = opened_0) (eu3 : 0 ≤ gu ∧ gu ≤ 13) : 1 * x1 + ((-1) * gx + 0) ≤ 0 := by
  subst fe_0_8_1
  subst fe_0_10_1
  subst fe_0_157_1
  subst fe_0_159_1
  subst fe_0_164_1
  subst fe_0_165_1
  have e_hE_0_1_1 := funext hE_0_1_1; subst e_hE_0_1_1
  have e_hE_0_160_1 := funext hE_0_160_1; subst e_hE_0_160_1
  have e_hE_0_161_1 := funext hE_0_161_1; subst e_hE_0_161_1
  have e_hE_0_162_1 := funext hE_0_162_1; subst e_hE_0_162_1
  have e_hE_0_163_1 := funext hE_0_163_1; subst e_hE_0_163_1
  first | assumption | (clear f4 f13 f17 f21 f24 f26 hE_0_1_1 hK_0_1 hE_0_160_1 hK_0_160 hE_0_161_1 hE_0_162_1 hK_0_162 hE_0_163_1 hK_0_163; omega) | (clear hE_0_1_1 hK_0_1 hE_0_160_1 hK_0_160 hE_0_161_1 hE_0_162_1 hK_0_162 hE_0_163_1 hK_0_163; grind) | omega | grind
set_option maxHeartbeats 4000000 in
theorem vc_Mo_product_at_f0_11_9 (x1 : Int) (x2 : Int) (x3 : Int) (x6 : Int) (x7 : Int) (x8 : Int) (x9 : Int) (x10 : Int) (x11 : Int) (x12 : Int) (x13 : Int) (x14 : Int) (x15 : Int) (x16 : Int) (x17 : Int) (x18 : Int) (cur_0 : Int) (fault_0 : Int) (styleKind_0 : Int) (styleOne_0 : Int) (opened_0 : Int) (cur_1 : Int) (tokenKind_1 : Int → Int) (tokenValue_1 : Int → Int) (fault_1 : Int) (tokens_1 : Int) (styleKind_1 : Int) (styleOne_1 : Int) (opened_1 : Int) (tokenPlace_1 : Int → Int) (tokenEnd_1 : Int → Int) (tape_1 : Int → Int) (limit_1 : Int) (limit_0 : Int) (tokens_0 : Int) (tape_0 : Int → Int) (tokenKind_0 : Int → Int) (tokenValue_0 : Int → Int) (tokenPlace_0 : Int → Int) (tokenEnd_0 : Int → Int) (gx : Int) (gy : Int) (gu : Int) (k1 : 0 ≤ x1 ∧ x1 ≤ 2009) (k2 : 0 ≤ x2 ∧ x2 ≤ 5) (k3 : 0 ≤ x3 ∧ x3 ≤ 13) (k6 : 0 ≤ x6 ∧ x6 ≤ 2009) (k7 : 0 ≤ x7 ∧ x7 ≤ 2010) (k8 : 42 ≤ x8 ∧ x8 ≤ 42) (k9 : 0 ≤ x9 ∧ x9 ≤ 5) (k10 : 0 ≤ x10 ∧ x10 ≤ 0) (k11 : 47 ≤ x11 ∧ x11 ≤ 47) (k12 : 0 ≤ x12 ∧ x12 ≤ 5) (k13 : 1 ≤ x13 ∧ x13 ≤ 1) (k14 : 42 ≤ x14 ∧ x14 ≤ 42) (k15 : 0 ≤ x15 ∧ x15 ≤ 5) (k16 : 1 ≤ x16 ∧ x16 ≤ 1) (k17 : 1 ≤ x17 ∧ x17 ≤ 1) (k18 : 1 ≤ x18 ∧ x18 ≤ 2009) (d0 : x6 + 1 ≤ x18 ∧ x18 ≤ x6 + 1) (g0 : x18 = cur_0) (f1 : fault_0 = x15) (f2 : fault_0 = x12) (f3 : fault_0 = x9) (f4 : (styleKind_0 = 0) → (styleOne_0 ≤ 23)) (f5 : 1 * opened_0 + 0 ≤ 0) (f6 : (-1) * opened_0 + 0 ≤ 0) (f7 : 1 * x3 + 0 ≤ 0) (f8 : (-1) * x3 + 0 ≤ 0) (f11 : x18 = x6 + x17) (g12 : x6 = cur_1) (f13 : (x16 = 1) → (tokenKind_1 (cur_1) = 3)) (f14 : SGN (cur_1) (tokenKind_1) (tokenValue_1) (x14) (x16) (x15)) (f15 : fault_1 = x15) (f16 : x13 ≠ 0) (f17 : (x13 = 1) → (tokenKind_1 (cur_1) = 3)) (f18 : SGN (cur_1) (tokenKind_1) (tokenValue_1) (x11) (x13) (x12)) (f19 : fault_1 = x12) (f20 : x10 = 0) (f21 : (x10 = 1) → (tokenKind_1 (cur_1) = 3)) (f22 : SGN (cur_1) (tokenKind_1) (tokenValue_1) (x8) (x10) (x9)) (f23 : fault_1 = x9) (f24 : ((cur_1 + 1) ≤ tokens_1) ∧ ((tokens_1 ≤ 2010) ∧ ((tokenKind_1 ((tokens_1 - 1)) = 0) ∨ (tokenKind_1 ((tokens_1 - 1)) = 4)))) (f25 : 1 * x1 + ((-1) * cur_1 + 0) ≤ 0) (f26 : (styleKind_1 = 0) → (styleOne_1 ≤ 23)) (f27 : 1 * opened_1 + 0 ≤ 0) (f28 : (-1) * opened_1 + 0 ≤ 0) (f29 : SPWv (fault_1) (cur_1) (styleKind_1) (limit_1) (tokenKind_1) (tokenValue_1) (tokenPlace_1) (tokenEnd_1) (tape_1) (x1) (x2) (x3)) (f30 : 1 * x3 + 0 ≤ 0) (f31 : (-1) * x3 + 0 ≤ 0) (f32 : 1 * x7 + (1 * cur_1 + 0) ≤ 2010) (f33 : (-1) * x7 + ((-1) * cur_1 + 0) ≤ (-2010)) (fe_0_8_1 : fault_0 = fault_1) (fe_0_10_1 : limit_0 = limit_1) (fe_0_157_1 : tokens_0 = tokens_1) (fe_0_158_1 : cur_0 = x18) (fe_0_159_1 : opened_0 = opened_1) (fe_0_164_1 : styleKind_0 = styleKind_1) (fe_0_165_1 : styleOne_0 = styleOne_1) (hE_0_1_1 : ∀ j : Int, tape_0 j = tape_1 j) (hK_0_1 : ∀ j : Int, 0 ≤ j → j < 2000 → (-128) ≤ tape_0 j ∧ tape_0 j ≤ 127) (hE_0_160_1 : ∀ j : Int, tokenKind_0 j = tokenKind_1 j) (hK_0_160 : ∀ j : Int, 0 ≤ j → j < 2010 → 0 ≤ tokenKind_0 j ∧ tokenKind_0 j ≤ 4) (hE_0_161_1 : ∀ j : Int, tokenValue_0 j = tokenValue_1 j) (hE_0_162_1 : ∀ j : Int, tokenPlace_0 j = tokenPlace_1 j) (hK_0_162 : ∀ j : Int, 0 ≤ j → j < 2010 → 0 ≤ tokenPlace_0 j ∧ tokenPlace_0 j ≤ 2000) (hE_0_163_1 : ∀ j : Int, tokenEnd_0 j = tokenEnd_1 j) (hK_0_163 : ∀ j : Int, 0 ≤ j → j < 2010 → 0 ≤ tokenEnd_0 j ∧ tokenEnd_0 j ≤ 2000) (kz_0_8 : 0 ≤ fault_0 ∧ fault_0 ≤ 5) (kz_0_10 : 0 ≤ limit_0 ∧ limit_0 ≤ 2000) (kz_0_157 : 0 ≤ tokens_0 ∧ tokens_0 ≤ 2010) (kz_0_158 : 0 ≤ cur_0 ∧ cur_0 ≤ 2009) (kz_0_159 : 0 ≤ opened_0 ∧ opened_0 ≤ 13) (kz_0_164 : 0 ≤ styleKind_0 ∧ styleKind_0 ≤ 1) (kz_0_165 : (-1) ≤ styleOne_0 ∧ styleOne_0 ≤ 47) (ex2 : gx = cur_0) (ex3 : 0 ≤ gx ∧ gx ≤ 2009) (ey2 : gy = fault_0) (ey3 : 0 ≤ gy ∧ gy ≤ 5) (eu2 : gu = opened_0) (eu3 : 0 ≤ gu ∧ gu ≤ 13) : (-1) * x7 + ((-1) * gx + 0) ≤ (-2011) := by
  subst fe_0_8_1
  subst fe_0_10_1
  subst fe_0_157_1
  subst fe_0_159_1
  subst fe_0_164_1
  subst fe_0_165_1
  have e_hE_0_1_1 := funext hE_0_1_1; subst e_hE_0_1_1
  have e_hE_0_160_1 := funext hE_0_160_1; subst e_hE_0_160_1
  have e_hE_0_161_1 := funext hE_0_161_1; subst e_hE_0_161_1
  have e_hE_0_162_1 := funext hE_0_162_1; subst e_hE_0_162_1
  have e_hE_0_163_1 := funext hE_0_163_1; subst e_hE_0_163_1
  first | assumption | (clear f4 f13 f17 f21 f24 f26 hE_0_1_1 hK_0_1 hE_0_160_1 hK_0_160 hE_0_161_1 hE_0_162_1 hK_0_162 hE_0_163_1 hK_0_163; omega) | (clear hE_0_1_1 hK_0_1 hE_0_160_1 hK_0_160 hE_0_161_1 hE_0_162_1 hK_0_162 hE_0_163_1 hK_0_163; grind) | omega | grind
set_option maxHeartbeats 4000000 in
theorem vc_Mo_product_at_f0_11_10 (x1 : Int) (x2 : Int) (x3 : Int) (x6 : Int) (x8 : Int) (x9 : Int) (x10 : Int) (x11 : Int) (x12 : Int) (x13 : Int) (x18 : Int) (cur_0 : Int) (fault_0 : Int) (styleKind_0 : Int) (styleOne_0 : Int) (opened_0 : Int) (cur_1 : Int) (tokenKind_1 : Int → Int) (tokenValue_1 : Int → Int) (fault_1 : Int) (tokens_1 : Int) (styleKind_1 : Int) (styleOne_1 : Int) (opened_1 : Int) (tokenPlace_1 : Int → Int) (tokenEnd_1 : Int → Int) (tape_1 : Int → Int) (limit_1 : Int) (limit_0 : Int) (tokens_0 : Int) (tape_0 : Int → Int) (tokenKind_0 : Int → Int) (tokenValue_0 : Int → Int) (tokenPlace_0 : Int → Int) (tokenEnd_0 : Int → Int) (gx : Int) (gy : Int) (k1 : 0 ≤ x1 ∧ x1 ≤ 2009) (k2 : 0 ≤ x2 ∧ x2 ≤ 5) (k3 : 0 ≤ x3 ∧ x3 ≤ 13) (k6 : 0 ≤ x6 ∧ x6 ≤ 2009) (k11 : 47 ≤ x11 ∧ x11 ≤ 47) (k12 : 0 ≤ x12 ∧ x12 ≤ 5) (k13 : 1 ≤ x13 ∧ x13 ≤ 1) (k18 : 1 ≤ x18 ∧ x18 ≤ 2009) (d0 : x6 + 1 ≤ x18 ∧ x18 ≤ x6 + 1) (g0 : x18 = cur_0) (f2 : fault_0 = x12) (g12 : x6 = cur_1) (f16 : x13 ≠ 0) (f18 : SGN (cur_1) (tokenKind_1) (tokenValue_1) (x11) (x13) (x12)) (f29 : SPWv (fault_1) (cur_1) (styleKind_1) (limit_1) (tokenKind_1) (tokenValue_1) (tokenPlace_1) (tokenEnd_1) (tape_1) (x1) (x2) (x3)) (fe_0_8_1 : fault_0 = fault_1) (fe_0_10_1 : limit_0 = limit_1) (fe_0_157_1 : tokens_0 = tokens_1) (fe_0_159_1 : opened_0 = opened_1) (fe_0_164_1 : styleKind_0 = styleKind_1) (fe_0_165_1 : styleOne_0 = styleOne_1) (hE_0_1_1 : ∀ j : Int, tape_0 j = tape_1 j) (hE_0_160_1 : ∀ j : Int, tokenKind_0 j = tokenKind_1 j) (hE_0_161_1 : ∀ j : Int, tokenValue_0 j = tokenValue_1 j) (hE_0_162_1 : ∀ j : Int, tokenPlace_0 j = tokenPlace_1 j) (hE_0_163_1 : ∀ j : Int, tokenEnd_0 j = tokenEnd_1 j) (kz_0_8 : 0 ≤ fault_0 ∧ fault_0 ≤ 5) (kz_0_10 : 0 ≤ limit_0 ∧ limit_0 ≤ 2000) (kz_0_157 : 0 ≤ tokens_0 ∧ tokens_0 ≤ 2010) (kz_0_158 : 0 ≤ cur_0 ∧ cur_0 ≤ 2009) (kz_0_159 : 0 ≤ opened_0 ∧ opened_0 ≤ 13) (kz_0_164 : 0 ≤ styleKind_0 ∧ styleKind_0 ≤ 1) (kz_0_165 : (-1) ≤ styleOne_0 ∧ styleOne_0 ≤ 47) (ex2 : gx = cur_0) (ey2 : gy = fault_0) : GPW (styleKind_0) (limit_0) (tokenKind_0) (tokenValue_0) (tokenPlace_0) (tokenEnd_0) (tape_0) (gx) (gy) (x1) (x2) (x3) := by
  subst fe_0_8_1
  subst fe_0_10_1
  subst fe_0_157_1
  subst fe_0_159_1
  subst fe_0_164_1
  subst fe_0_165_1
  have e_hE_0_1_1 := funext hE_0_1_1; subst e_hE_0_1_1
  have e_hE_0_160_1 := funext hE_0_160_1; subst e_hE_0_160_1
  have e_hE_0_161_1 := funext hE_0_161_1; subst e_hE_0_161_1
  have e_hE_0_162_1 := funext hE_0_162_1; subst e_hE_0_162_1
  have e_hE_0_163_1 := funext hE_0_163_1; subst e_hE_0_163_1
  first
    | (have h := sgn_y (show SGN _ _ _ x8 x10 x9 by assumption) (by omega) (by omega) (by omega) (show x8 = 42 by omega)
       have h1 := h.1
       exact gpw_of (‹SPWv _ _ _ _ _ _ _ _ _ _ _ _›) (by omega) (Or.inl h.2) (by omega) (by omega))
    | (have h := sgn_y (show SGN _ _ _ x11 x13 x12 by assumption) (by omega) (by omega) (by omega) (show x11 = 47 by omega)
       have h1 := h.1
       exact gpw_of (‹SPWv _ _ _ _ _ _ _ _ _ _ _ _›) (by omega) (Or.inr h.2) (by omega) (by omega))
  
set_option maxHeartbeats 4000000 in
theorem vc_Mo_product_at_f0_11_11 (x1 : Int) (x2 : Int) (x3 : Int) (x6 : Int) (x7 : Int) (x8 : Int) (x9 : Int) (x10 : Int) (x11 : Int) (x12 : Int) (x13 : Int) (x14 : Int) (x15 : Int) (x16 : Int) (x17 : Int) (x18 : Int) (cur_0 : Int) (fault_0 : Int) (styleKind_0 : Int) (styleOne_0 : Int) (opened_0 : Int) (cur_1 : Int) (tokenKind_1 : Int → Int) (tokenValue_1 : Int → Int) (fault_1 : Int) (tokens_1 : Int) (styleKind_1 : Int) (styleOne_1 : Int) (opened_1 : Int) (tokenPlace_1 : Int → Int) (tokenEnd_1 : Int → Int) (tape_1 : Int → Int) (limit_1 : Int) (limit_0 : Int) (tokens_0 : Int) (tape_0 : Int → Int) (tokenKind_0 : Int → Int) (tokenValue_0 : Int → Int) (tokenPlace_0 : Int → Int) (tokenEnd_0 : Int → Int) (gx : Int) (gy : Int) (gu : Int) (k1 : 0 ≤ x1 ∧ x1 ≤ 2009) (k2 : 0 ≤ x2 ∧ x2 ≤ 5) (k3 : 0 ≤ x3 ∧ x3 ≤ 13) (k6 : 0 ≤ x6 ∧ x6 ≤ 2009) (k7 : 0 ≤ x7 ∧ x7 ≤ 2010) (k8 : 42 ≤ x8 ∧ x8 ≤ 42) (k9 : 0 ≤ x9 ∧ x9 ≤ 5) (k10 : 0 ≤ x10 ∧ x10 ≤ 0) (k11 : 47 ≤ x11 ∧ x11 ≤ 47) (k12 : 0 ≤ x12 ∧ x12 ≤ 5) (k13 : 1 ≤ x13 ∧ x13 ≤ 1) (k14 : 42 ≤ x14 ∧ x14 ≤ 42) (k15 : 0 ≤ x15 ∧ x15 ≤ 5) (k16 : 1 ≤ x16 ∧ x16 ≤ 1) (k17 : 1 ≤ x17 ∧ x17 ≤ 1) (k18 : 1 ≤ x18 ∧ x18 ≤ 2009) (d0 : x6 + 1 ≤ x18 ∧ x18 ≤ x6 + 1) (g0 : x18 = cur_0) (f1 : fault_0 = x15) (f2 : fault_0 = x12) (f3 : fault_0 = x9) (f4 : (styleKind_0 = 0) → (styleOne_0 ≤ 23)) (f5 : 1 * opened_0 + 0 ≤ 0) (f6 : (-1) * opened_0 + 0 ≤ 0) (f7 : 1 * x3 + 0 ≤ 0) (f8 : (-1) * x3 + 0 ≤ 0) (f11 : x18 = x6 + x17) (g12 : x6 = cur_1) (f13 : (x16 = 1) → (tokenKind_1 (cur_1) = 3)) (f14 : SGN (cur_1) (tokenKind_1) (tokenValue_1) (x14) (x16) (x15)) (f15 : fault_1 = x15) (f16 : x13 ≠ 0) (f17 : (x13 = 1) → (tokenKind_1 (cur_1) = 3)) (f18 : SGN (cur_1) (tokenKind_1) (tokenValue_1) (x11) (x13) (x12)) (f19 : fault_1 = x12) (f20 : x10 = 0) (f21 : (x10 = 1) → (tokenKind_1 (cur_1) = 3)) (f22 : SGN (cur_1) (tokenKind_1) (tokenValue_1) (x8) (x10) (x9)) (f23 : fault_1 = x9) (f24 : ((cur_1 + 1) ≤ tokens_1) ∧ ((tokens_1 ≤ 2010) ∧ ((tokenKind_1 ((tokens_1 - 1)) = 0) ∨ (tokenKind_1 ((tokens_1 - 1)) = 4)))) (f25 : 1 * x1 + ((-1) * cur_1 + 0) ≤ 0) (f26 : (styleKind_1 = 0) → (styleOne_1 ≤ 23)) (f27 : 1 * opened_1 + 0 ≤ 0) (f28 : (-1) * opened_1 + 0 ≤ 0) (f29 : SPWv (fault_1) (cur_1) (styleKind_1) (limit_1) (tokenKind_1) (tokenValue_1) (tokenPlace_1) (tokenEnd_1) (tape_1) (x1) (x2) (x3)) (f30 : 1 * x3 + 0 ≤ 0) (f31 : (-1) * x3 + 0 ≤ 0) (f32 : 1 * x7 + (1 * cur_1 + 0) ≤ 2010) (f33 : (-1) * x7 + ((-1) * cur_1 + 0) ≤ (-2010)) (fe_0_8_1 : fault_0 = fault_1) (fe_0_10_1 : limit_0 = limit_1) (fe_0_157_1 : tokens_0 = tokens_1) (fe_0_158_1 : cur_0 = x18) (fe_0_159_1 : opened_0 = opened_1) (fe_0_164_1 : styleKind_0 = styleKind_1) (fe_0_165_1 : styleOne_0 = styleOne_1) (hE_0_1_1 : ∀ j : Int, tape_0 j = tape_1 j) (hK_0_1 : ∀ j : Int, 0 ≤ j → j < 2000 → (-128) ≤ tape_0 j ∧ tape_0 j ≤ 127) (hE_0_160_1 : ∀ j : Int, tokenKind_0 j = tokenKind_1 j) (hK_0_160 : ∀ j : Int, 0 ≤ j → j < 2010 → 0 ≤ tokenKind_0 j ∧ tokenKind_0 j ≤ 4) (hE_0_161_1 : ∀ j : Int, tokenValue_0 j = tokenValue_1 j) (hE_0_162_1 : ∀ j : Int, tokenPlace_0 j = tokenPlace_1 j) (hK_0_162 : ∀ j : Int, 0 ≤ j → j < 2010 → 0 ≤ tokenPlace_0 j ∧ tokenPlace_0 j ≤ 2000) (hE_0_163_1 : ∀ j : Int, tokenEnd_0 j = tokenEnd_1 j) (hK_0_163 : ∀ j : Int, 0 ≤ j → j < 2010 → 0 ≤ tokenEnd_0 j ∧ tokenEnd_0 j ≤ 2000) (kz_0_8 : 0 ≤ fault_0 ∧ fault_0 ≤ 5) (kz_0_10 : 0 ≤ limit_0 ∧ limit_0 ≤ 2000) (kz_0_157 : 0 ≤ tokens_0 ∧ tokens_0 ≤ 2010) (kz_0_158 : 0 ≤ cur_0 ∧ cur_0 ≤ 2009) (kz_0_159 : 0 ≤ opened_0 ∧ opened_0 ≤ 13) (kz_0_164 : 0 ≤ styleKind_0 ∧ styleKind_0 ≤ 1) (kz_0_165 : (-1) ≤ styleOne_0 ∧ styleOne_0 ≤ 47) (ex2 : gx = cur_0) (ex3 : 0 ≤ gx ∧ gx ≤ 2009) (ey2 : gy = fault_0) (ey3 : 0 ≤ gy ∧ gy ≤ 5) (eu2 : gu = opened_0) (eu3 : 0 ≤ gu ∧ gu ≤ 13) : 1 * gu + 0 ≤ 0 := by
  subst fe_0_8_1
  subst fe_0_10_1
  subst fe_0_157_1
  subst fe_0_159_1
  subst fe_0_164_1
  subst fe_0_165_1
  have e_hE_0_1_1 := funext hE_0_1_1; subst e_hE_0_1_1
  have e_hE_0_160_1 := funext hE_0_160_1; subst e_hE_0_160_1
  have e_hE_0_161_1 := funext hE_0_161_1; subst e_hE_0_161_1
  have e_hE_0_162_1 := funext hE_0_162_1; subst e_hE_0_162_1
  have e_hE_0_163_1 := funext hE_0_163_1; subst e_hE_0_163_1
  first | assumption | (clear f4 f13 f17 f21 f24 f26 hE_0_1_1 hK_0_1 hE_0_160_1 hK_0_160 hE_0_161_1 hE_0_162_1 hK_0_162 hE_0_163_1 hK_0_163; omega) | (clear hE_0_1_1 hK_0_1 hE_0_160_1 hK_0_160 hE_0_161_1 hE_0_162_1 hK_0_162 hE_0_163_1 hK_0_163; grind) | omega | grind
set_option maxHeartbeats 4000000 in
theorem vc_Mo_product_at_f0_11_12 (x1 : Int) (x2 : Int) (x3 : Int) (x6 : Int) (x7 : Int) (x8 : Int) (x9 : Int) (x10 : Int) (x11 : Int) (x12 : Int) (x13 : Int) (x14 : Int) (x15 : Int) (x16 : Int) (x17 : Int) (x18 : Int) (cur_0 : Int) (fault_0 : Int) (styleKind_0 : Int) (styleOne_0 : Int) (opened_0 : Int) (cur_1 : Int) (tokenKind_1 : Int → Int) (tokenValue_1 : Int → Int) (fault_1 : Int) (tokens_1 : Int) (styleKind_1 : Int) (styleOne_1 : Int) (opened_1 : Int) (tokenPlace_1 : Int → Int) (tokenEnd_1 : Int → Int) (tape_1 : Int → Int) (limit_1 : Int) (limit_0 : Int) (tokens_0 : Int) (tape_0 : Int → Int) (tokenKind_0 : Int → Int) (tokenValue_0 : Int → Int) (tokenPlace_0 : Int → Int) (tokenEnd_0 : Int → Int) (gx : Int) (gy : Int) (gu : Int) (k1 : 0 ≤ x1 ∧ x1 ≤ 2009) (k2 : 0 ≤ x2 ∧ x2 ≤ 5) (k3 : 0 ≤ x3 ∧ x3 ≤ 13) (k6 : 0 ≤ x6 ∧ x6 ≤ 2009) (k7 : 0 ≤ x7 ∧ x7 ≤ 2010) (k8 : 42 ≤ x8 ∧ x8 ≤ 42) (k9 : 0 ≤ x9 ∧ x9 ≤ 5) (k10 : 0 ≤ x10 ∧ x10 ≤ 0) (k11 : 47 ≤ x11 ∧ x11 ≤ 47) (k12 : 0 ≤ x12 ∧ x12 ≤ 5) (k13 : 1 ≤ x13 ∧ x13 ≤ 1) (k14 : 42 ≤ x14 ∧ x14 ≤ 42) (k15 : 0 ≤ x15 ∧ x15 ≤ 5) (k16 : 1 ≤ x16 ∧ x16 ≤ 1) (k17 : 1 ≤ x17 ∧ x17 ≤ 1) (k18 : 1 ≤ x18 ∧ x18 ≤ 2009) (d0 : x6 + 1 ≤ x18 ∧ x18 ≤ x6 + 1) (g0 : x18 = cur_0) (f1 : fault_0 = x15) (f2 : fault_0 = x12) (f3 : fault_0 = x9) (f4 : (styleKind_0 = 0) → (styleOne_0 ≤ 23)) (f5 : 1 * opened_0 + 0 ≤ 0) (f6 : (-1) * opened_0 + 0 ≤ 0) (f7 : 1 * x3 + 0 ≤ 0) (f8 : (-1) * x3 + 0 ≤ 0) (f11 : x18 = x6 + x17) (g12 : x6 = cur_1) (f13 : (x16 = 1) → (tokenKind_1 (cur_1) = 3)) (f14 : SGN (cur_1) (tokenKind_1) (tokenValue_1) (x14) (x16) (x15)) (f15 : fault_1 = x15) (f16 : x13 ≠ 0) (f17 : (x13 = 1) → (tokenKind_1 (cur_1) = 3)) (f18 : SGN (cur_1) (tokenKind_1) (tokenValue_1) (x11) (x13) (x12)) (f19 : fault_1 = x12) (f20 : x10 = 0) (f21 : (x10 = 1) → (tokenKind_1 (cur_1) = 3)) (f22 : SGN (cur_1) (tokenKind_1) (tokenValue_1) (x8) (x10) (x9)) (f23 : fault_1 = x9) (f24 : ((cur_1 + 1) ≤ tokens_1) ∧ ((tokens_1 ≤ 2010) ∧ ((tokenKind_1 ((tokens_1 - 1)) = 0) ∨ (tokenKind_1 ((tokens_1 - 1)) = 4)))) (f25 : 1 * x1 + ((-1) * cur_1 + 0) ≤ 0) (f26 : (styleKind_1 = 0) → (styleOne_1 ≤ 23)) (f27 : 1 * opened_1 + 0 ≤ 0) (f28 : (-1) * opened_1 + 0 ≤ 0) (f29 : SPWv (fault_1) (cur_1) (styleKind_1) (limit_1) (tokenKind_1) (tokenValue_1) (tokenPlace_1) (tokenEnd_1) (tape_1) (x1) (x2) (x3)) (f30 : 1 * x3 + 0 ≤ 0) (f31 : (-1) * x3 + 0 ≤ 0) (f32 : 1 * x7 + (1 * cur_1 + 0) ≤ 2010) (f33 : (-1) * x7 + ((-1) * cur_1 + 0) ≤ (-2010)) (fe_0_8_1 : fault_0 = fault_1) (fe_0_10_1 : limit_0 = limit_1) (fe_0_157_1 : tokens_0 = tokens_1) (fe_0_158_1 : cur_0 = x18) (fe_0_159_1 : opened_0 = opened_1) (fe_0_164_1 : styleKind_0 = styleKind_1) (fe_0_165_1 : styleOne_0 = styleOne_1) (hE_0_1_1 : ∀ j : Int, tape_0 j = tape_1 j) (hK_0_1 : ∀ j : Int, 0 ≤ j → j < 2000 → (-128) ≤ tape_0 j ∧ tape_0 j ≤ 127) (hE_0_160_1 : ∀ j : Int, tokenKind_0 j = tokenKind_1 j) (hK_0_160 : ∀ j : Int, 0 ≤ j → j < 2010 → 0 ≤ tokenKind_0 j ∧ tokenKind_0 j ≤ 4) (hE_0_161_1 : ∀ j : Int, tokenValue_0 j = tokenValue_1 j) (hE_0_162_1 : ∀ j : Int, tokenPlace_0 j = tokenPlace_1 j) (hK_0_162 : ∀ j : Int, 0 ≤ j → j < 2010 → 0 ≤ tokenPlace_0 j ∧ tokenPlace_0 j ≤ 2000) (hE_0_163_1 : ∀ j : Int, tokenEnd_0 j = tokenEnd_1 j) (hK_0_163 : ∀ j : Int, 0 ≤ j → j < 2010 → 0 ≤ tokenEnd_0 j ∧ tokenEnd_0 j ≤ 2000) (kz_0_8 : 0 ≤ fault_0 ∧ fault_0 ≤ 5) (kz_0_10 : 0 ≤ limit_0 ∧ limit_0 ≤ 2000) (kz_0_157 : 0 ≤ tokens_0 ∧ tokens_0 ≤ 2010) (kz_0_158 : 0 ≤ cur_0 ∧ cur_0 ≤ 2009) (kz_0_159 : 0 ≤ opened_0 ∧ opened_0 ≤ 13) (kz_0_164 : 0 ≤ styleKind_0 ∧ styleKind_0 ≤ 1) (kz_0_165 : (-1) ≤ styleOne_0 ∧ styleOne_0 ≤ 47) (ex2 : gx = cur_0) (ex3 : 0 ≤ gx ∧ gx ≤ 2009) (ey2 : gy = fault_0) (ey3 : 0 ≤ gy ∧ gy ≤ 5) (eu2 : gu = opened_0) (eu3 : 0 ≤ gu ∧ gu ≤ 13) : (-1) * gu + 0 ≤ 0 := by
  subst fe_0_8_1
  subst fe_0_10_1
  subst fe_0_157_1
  subst fe_0_159_1
  subst fe_0_164_1
  subst fe_0_165_1
  have e_hE_0_1_1 := funext hE_0_1_1; subst e_hE_0_1_1
  have e_hE_0_160_1 := funext hE_0_160_1; subst e_hE_0_160_1
  have e_hE_0_161_1 := funext hE_0_161_1; subst e_hE_0_161_1
  have e_hE_0_162_1 := funext hE_0_162_1; subst e_hE_0_162_1
  have e_hE_0_163_1 := funext hE_0_163_1; subst e_hE_0_163_1
  first | assumption | (clear f4 f13 f17 f21 f24 f26 hE_0_1_1 hK_0_1 hE_0_160_1 hK_0_160 hE_0_161_1 hE_0_162_1 hK_0_162 hE_0_163_1 hK_0_163; omega) | (clear hE_0_1_1 hK_0_1 hE_0_160_1 hK_0_160 hE_0_161_1 hE_0_162_1 hK_0_162 hE_0_163_1 hK_0_163; grind) | omega | grind
def o_Mo_product_at_f0_11 : or_T := (41, 19, [(0, (2, 0, 0, [165])), (1, (0, 0, 2009, [])), (2, (0, 0, 5, [])), (3, (0, 0, 13, [])), (4, (2, 0, 0, [165])), (6, (0, 0, 2009, [])), (7, (0, 0, 2010, [])), (8, (0, 42, 42, [])), (9, (0, 0, 5, [])), (10, (0, 0, 0, [])), (11, (0, 47, 47, [])), (12, (0, 0, 5, [])), (13, (0, 1, 1, [])), (14, (0, 42, 42, [])), (15, (0, 0, 5, [])), (16, (0, 1, 1, [])), (17, (0, 1, 1, [])), (18, (0, 1, 2009, []))], [(9, [18, 4], [158]), (20, [4, 15], [50, 1, 0, 8, 1, 3, 2, 0, 8, 1, 1]), (20, [4, 12], [50, 1, 0, 8, 1, 3, 2, 0, 8, 1, 1]), (20, [4, 9], [50, 1, 0, 8, 1, 3, 2, 0, 8, 1, 1]), (20, [4], [50, 2, 0, 164, 165, 4, 7, 1, 3, 2, 0, 164, 0, 0, 0, 3, 2, 0, 165, 0, 23]), (20, [4], [30, 0, 1, 1, 159]), (20, [4], [30, 0, -1, 1, 159]), (23, [3], [0, 1]), (23, [3], [0, -1]), (24, [0, 4], []), (101, [4, 18], [158]), (1, [18, 6, 17], []), (9, [6, 4], [158]), (20, [16, 4], [50, 1, 1, 1158, 1160, 4, 6, 1, 2, 1, 0, 0, 1, 1, 6, 3, 1, 160, 2, 1, 158, 0, 3]), (20, [4, 14, 16, 15], [60, 1, 2, 14, 158, 160, 161]), (20, [4, 15], [50, 1, 0, 8, 1, 3, 2, 0, 8, 1, 1]), (8, [13], [1]), (20, [13, 4], [50, 1, 1, 1158, 1160, 4, 6, 1, 2, 1, 0, 0, 1, 1, 6, 3, 1, 160, 2, 1, 158, 0, 3]), (20, [4, 11, 13, 12], [60, 1, 2, 14, 158, 160, 161]), (20, [4, 12], [50, 1, 0, 8, 1, 3, 2, 0, 8, 1, 1]), (8, [10], [0]), (20, [10, 4], [50, 1, 1, 1158, 1160, 4, 6, 1, 2, 1, 0, 0, 1, 1, 6, 3, 1, 160, 2, 1, 158, 0, 3]), (20, [4, 8, 10, 9], [60, 1, 2, 14, 158, 160, 161]), (20, [4, 9], [50, 1, 0, 8, 1, 3, 2, 0, 8, 1, 1]), (20, [4], [50, 2, 1, 158, 157, 160, 2, 12, 0, 7, 4, 3, 2, 0, 158, 0, 1, 2, 0, 157, 2, 7, 0, 3, 2, 0, 157, 0, 2010, 3, 14, 1, 10, 3, 0, 160, 5, 3, 2, 0, 157, 0, 1, 0, 0, 1, 10, 3, 0, 160, 5, 3, 2, 0, 157, 0, 1, 0, 4]), (20, [1, 4], [30, 0, 1, 0, 0, -1, 1, 158]), (20, [4], [50, 2, 0, 164, 165, 4, 7, 1, 3, 2, 0, 164, 0, 0, 0, 3, 2, 0, 165, 0, 23]), (20, [4], [30, 0, 1, 1, 159]), (20, [4], [30, 0, -1, 1, 159]), (20, [4, 1, 2, 3], [60, 4, 5, 6, 8, 158, 164, 10, 160, 161, 162, 163, 1]), (23, [3], [0, 1]), (23, [3], [0, -1]), (20, [7, 4], [30, 2010, 1, 0, 0, 1, 1, 158]), (20, [7, 4], [30, -2010, -1, 0, 0, -1, 1, 158])], [], [(0, 0, 2009, []), (0, 0, 5, []), (0, 0, 13, [])], [(20, [4], [50, 2, 1, 158, 157, 160, 2, 12, 0, 7, 4, 3, 2, 0, 158, 0, 1, 2, 0, 157, 2, 7, 0, 3, 2, 0, 157, 0, 2010, 3, 14, 1, 10, 3, 0, 160, 5, 3, 2, 0, 157, 0, 1, 0, 0, 1, 10, 3, 0, 160, 5, 3, 2, 0, 157, 0, 1, 0, 4]), (20, [4, 19], [30, 0, 1, 1, 158, -1, 0, 0]), (20, [4, 19], [30, 0, -1, 1, 158, 1, 0, 0]), (20, [4], [50, 2, 0, 164, 165, 4, 7, 1, 3, 2, 0, 164, 0, 0, 0, 3, 2, 0, 165, 0, 23]), (20, [4], [30, 0, 1, 1, 159]), (20, [4], [30, 0, -1, 1, 159]), (20, [4, 20], [50, 1, 0, 8, 1, 3, 2, 0, 8, 1, 1]), (20, [4, 21], [50, 1, 0, 159, 1, 3, 2, 0, 159, 1, 1]), (23, [1, 19], [0, 1, -1]), (23, [7, 19], [-2011, -1, -1]), (20, [4, 19, 20, 1, 2, 3], [60, 2, 5, 10, 164, 10, 160, 161, 162, 163, 1]), (23, [21], [0, 1]), (23, [21], [0, -1])], [], [(18, 6, 1, 1)])
theorem oo_Mo_product_at_f0_11 {kA : Nat → ClassId} : or_ok PRD kA GG o_Mo_product_at_f0_11 := by
  refine or_mk fun A ta ws vs hD hth hl => ?_
  intro t0 r0 t1 k1 t2 k2 t3 k3 t4 r4 t6 k6 t7 k7 t8 k8 t9 k9 t10 k10 t11 k11 t12 k12 t13 k13 t14 k14 t15 k15 t16 k16 t17 k17 t18 k18 d0 f0 f1 f2 f3 f4 f5 f6 f7 f8 f9 ta1 w1 le1 s1 f11 f12 f13 f14 f15 f16 f17 f18 f19 f20 f21 f22 f23 f24 f25 f26 f27 f28 f29 f30 f31 f32 f33
  replace f0 := shm_311 f0
  replace f1 := shm_302 f1
  replace f2 := shm_302 f2
  replace f3 := shm_302 f3
  replace f4 := shm_299 f4
  replace f5 := shm_999 f5
  replace f6 := shm_1000 f6
  replace f7 := shm_1477 f7
  replace f8 := shm_1013 f8
  replace f9 := shm_5 f9
  have s1 : (∀ b j, w_el ws b j = w_el w1 b j) ∧ ∀ b j, w_fd ws b j = if b = v_ad (n_v vs 4) ∧ j = 158 then n_v vs 18 else w_fd w1 b j := s1.2
  replace f11 := shm_12 f11
  replace f12 := shm_311 f12
  replace f13 := shm_319 f13
  replace f14 := shm_320 f14
  replace f15 := shm_302 f15
  replace f16 := shm_154 f16
  replace f17 := shm_319 f17
  replace f18 := shm_320 f18
  replace f19 := shm_302 f19
  replace f20 := shm_210 f20
  replace f21 := shm_319 f21
  replace f22 := shm_320 f22
  replace f23 := shm_302 f23
  replace f24 := shm_296 f24
  replace f25 := shm_306 f25
  replace f26 := shm_299 f26
  replace f27 := shm_999 f27
  replace f28 := shm_1000 f28
  replace f29 := shm_342 f29
  replace f30 := shm_1477 f30
  replace f31 := shm_1013 f31
  replace f32 := shm_309 f32
  replace f33 := shm_310 f33
  have q4 : n_v vs 4 = n_v vs 0 := f9.symm
  simp only [q4] at f0 f1 f2 f3 f4 f5 f6
  rw [q4] at s1
  simp only [q4] at f12 f13 f14 f15 f17 f18 f19 f21 f22 f23 f24 f25 f26 f27 f28 f29 f32 f33
  have ar_0_1_1 : w_ar w1 (n_v vs 0) 1 = w_ar ws (n_v vs 0) 1 := by show v_ad (w_fd w1 _ _) = v_ad (w_fd ws _ _); rw [s1.2, if_neg (fun e => absurd e.2 (by decide))]
  have cr_0_1 := fdq_46 hD hth r0
  have ar_0_160_1 : w_ar w1 (n_v vs 0) 160 = w_ar ws (n_v vs 0) 160 := by show v_ad (w_fd w1 _ _) = v_ad (w_fd ws _ _); rw [s1.2, if_neg (fun e => absurd e.2 (by decide))]
  have cr_0_160 := fdq_41 hD hth r0
  have ar_0_161_1 : w_ar w1 (n_v vs 0) 161 = w_ar ws (n_v vs 0) 161 := by show v_ad (w_fd w1 _ _) = v_ad (w_fd ws _ _); rw [s1.2, if_neg (fun e => absurd e.2 (by decide))]
  have ar_0_162_1 : w_ar w1 (n_v vs 0) 162 = w_ar ws (n_v vs 0) 162 := by show v_ad (w_fd w1 _ _) = v_ad (w_fd ws _ _); rw [s1.2, if_neg (fun e => absurd e.2 (by decide))]
  have cr_0_162 := fdq_48 hD hth r0
  have ar_0_163_1 : w_ar w1 (n_v vs 0) 163 = w_ar ws (n_v vs 0) 163 := by show v_ad (w_fd w1 _ _) = v_ad (w_fd ws _ _); rw [s1.2, if_neg (fun e => absurd e.2 (by decide))]
  have cr_0_163 := fdq_49 hD hth r0
  have g0 : v_iv (n_v vs 18) = w_fi ws (n_v vs 0) 158 := congrArg v_iv f0
  have g12 : v_iv (n_v vs 6) = w_fi w1 (n_v vs 0) 158 := congrArg v_iv f12
  simp only [ar_0_160_1, ar_0_161_1, ar_0_1_1, ar_0_162_1, ar_0_163_1] at f13 f14 f17 f18 f21 f22 f24 f29
  have fe_0_8_1 : w_fi ws (n_v vs 0) 8 = w_fi w1 (n_v vs 0) 8 := by show v_iv (w_fd _ _ _) = v_iv (w_fd _ _ _); rw [s1.2, if_neg (fun e => absurd e.2 (by decide))]
  have fe_0_10_1 : w_fi ws (n_v vs 0) 10 = w_fi w1 (n_v vs 0) 10 := by show v_iv (w_fd _ _ _) = v_iv (w_fd _ _ _); rw [s1.2, if_neg (fun e => absurd e.2 (by decide))]
  have fe_0_157_1 : w_fi ws (n_v vs 0) 157 = w_fi w1 (n_v vs 0) 157 := by show v_iv (w_fd _ _ _) = v_iv (w_fd _ _ _); rw [s1.2, if_neg (fun e => absurd e.2 (by decide))]
  have fe_0_158_1 : w_fi ws (n_v vs 0) 158 = v_iv (n_v vs 18) := by show v_iv (w_fd _ _ _) = _; rw [s1.2, if_pos ⟨rfl, rfl⟩]
  have fe_0_159_1 : w_fi ws (n_v vs 0) 159 = w_fi w1 (n_v vs 0) 159 := by show v_iv (w_fd _ _ _) = v_iv (w_fd _ _ _); rw [s1.2, if_neg (fun e => absurd e.2 (by decide))]
  have fe_0_164_1 : w_fi ws (n_v vs 0) 164 = w_fi w1 (n_v vs 0) 164 := by show v_iv (w_fd _ _ _) = v_iv (w_fd _ _ _); rw [s1.2, if_neg (fun e => absurd e.2 (by decide))]
  have fe_0_165_1 : w_fi ws (n_v vs 0) 165 = w_fi w1 (n_v vs 0) 165 := by show v_iv (w_fd _ _ _) = v_iv (w_fd _ _ _); rw [s1.2, if_neg (fun e => absurd e.2 (by decide))]
  have hE_0_1_1 : ∀ j : Int, w_ei ws (w_ar ws (n_v vs 0) 1) j = w_ei w1 (w_ar ws (n_v vs 0) 1) j := fun j => s1.1 _ _
  have hK_0_1 := elq_6 hD hth cr_0_1
  have hE_0_160_1 : ∀ j : Int, w_ei ws (w_ar ws (n_v vs 0) 160) j = w_ei w1 (w_ar ws (n_v vs 0) 160) j := fun j => s1.1 _ _
  have hK_0_160 := elq_5 hD hth cr_0_160
  have hE_0_161_1 : ∀ j : Int, w_ei ws (w_ar ws (n_v vs 0) 161) j = w_ei w1 (w_ar ws (n_v vs 0) 161) j := fun j => s1.1 _ _
  have hE_0_162_1 : ∀ j : Int, w_ei ws (w_ar ws (n_v vs 0) 162) j = w_ei w1 (w_ar ws (n_v vs 0) 162) j := fun j => s1.1 _ _
  have hK_0_162 := elq_7 hD hth cr_0_162
  have hE_0_163_1 : ∀ j : Int, w_ei ws (w_ar ws (n_v vs 0) 163) j = w_ei w1 (w_ar ws (n_v vs 0) 163) j := fun j => s1.1 _ _
  have hK_0_163 := elq_8 hD hth cr_0_163
  have kz_0_8 := fdq_14 hD hth r0
  have kz_0_10 := fdq_50 hD hth r0
  have kz_0_157 := fdq_42 hD hth r0
  have kz_0_158 := fdq_43 hD hth r0
  have kz_0_159 := fdq_44 hD hth r0
  have kz_0_164 := fdq_45 hD hth r0
  have kz_0_165 := fdq_35 hD hth r0
  obtain ⟨x, ex, hx⟩ := iv_ex (ta := ta) (lo := 0) (hi := 2009) (z := w_fi ws (n_v vs 0) 158) (by omega) (by omega) (by omega) (by omega)
  have ex2 : v_iv (Value.int x) = w_fi ws (n_v vs 0) 158 := ex
  have ex3 : 0 ≤ v_iv (Value.int x) ∧ v_iv (Value.int x) ≤ 2009 := tv_rng hx
  obtain ⟨y, ey, hy⟩ := iv_ex (ta := ta) (lo := 0) (hi := 5) (z := w_fi ws (n_v vs 0) 8) (by omega) (by omega) (by omega) (by omega)
  have ey2 : v_iv (Value.int y) = w_fi ws (n_v vs 0) 8 := ey
  have ey3 : 0 ≤ v_iv (Value.int y) ∧ v_iv (Value.int y) ≤ 5 := tv_rng hy
  obtain ⟨u, eu, hu⟩ := iv_ex (ta := ta) (lo := 0) (hi := 13) (z := w_fi ws (n_v vs 0) 159) (by omega) (by omega) (by omega) (by omega)
  have eu2 : v_iv (Value.int u) = w_fi ws (n_v vs 0) 159 := eu
  have eu3 : 0 ≤ v_iv (Value.int u) ∧ v_iv (Value.int u) ≤ 13 := tv_rng hu
  have e_1 : n_v (vs ++ [Value.int x, Value.int y, Value.int u]) 1 = n_v vs 1 := n_v_old (by rw [hl]; decide)
  have e_2 : n_v (vs ++ [Value.int x, Value.int y, Value.int u]) 2 = n_v vs 2 := n_v_old (by rw [hl]; decide)
  have e_3 : n_v (vs ++ [Value.int x, Value.int y, Value.int u]) 3 = n_v vs 3 := n_v_old (by rw [hl]; decide)
  have e_4 : n_v (vs ++ [Value.int x, Value.int y, Value.int u]) 4 = n_v vs 4 := n_v_old (by rw [hl]; decide)
  have e_7 : n_v (vs ++ [Value.int x, Value.int y, Value.int u]) 7 = n_v vs 7 := n_v_old (by rw [hl]; decide)
  have e_19 : n_v (vs ++ [Value.int x, Value.int y, Value.int u]) 19 = Value.int x := n_v_newk (k := 0) hl rfl
  have e_20 : n_v (vs ++ [Value.int x, Value.int y, Value.int u]) 20 = Value.int y := n_v_newk (k := 1) hl rfl
  have e_21 : n_v (vs ++ [Value.int x, Value.int y, Value.int u]) 21 = Value.int u := n_v_newk (k := 2) hl rfl
  have nf0 : fc_1 PRD (20, [4], [50, 2, 1, 158, 157, 160, 2, 12, 0, 7, 4, 3, 2, 0, 158, 0, 1, 2, 0, 157, 2, 7, 0, 3, 2, 0, 157, 0, 2010, 3, 14, 1, 10, 3, 0, 160, 5, 3, 2, 0, 157, 0, 1, 0, 0, 1, 10, 3, 0, 160, 5, 3, 2, 0, 157, 0, 1, 0, 4]) ws (vs ++ [Value.int x, Value.int y, Value.int u]) := by
    refine ⟨nf_inA hl rfl, sgq_296 ?_⟩
    · show ((w_fi ws (n_v (vs ++ [Value.int x, Value.int y, Value.int u]) 4) 158 + 1) ≤ w_fi ws (n_v (vs ++ [Value.int x, Value.int y, Value.int u]) 4) 157) ∧ ((w_fi ws (n_v (vs ++ [Value.int x, Value.int y, Value.int u]) 4) 157 ≤ 2010) ∧ ((w_ei ws (w_ar ws (n_v (vs ++ [Value.int x, Value.int y, Value.int u]) 4) 160) ((w_fi ws (n_v (vs ++ [Value.int x, Value.int y, Value.int u]) 4) 157 - 1)) = 0) ∨ (w_ei ws (w_ar ws (n_v (vs ++ [Value.int x, Value.int y, Value.int u]) 4) 160) ((w_fi ws (n_v (vs ++ [Value.int x, Value.int y, Value.int u]) 4) 157 - 1)) = 4)))
      simp only [e_4, q4]
      exact vc_Mo_product_at_f0_11_0 (v_iv (n_v vs 1)) (v_iv (n_v vs 2)) (v_iv (n_v vs 3)) (v_iv (n_v vs 6)) (v_iv (n_v vs 7)) (v_iv (n_v vs 8)) (v_iv (n_v vs 9)) (v_iv (n_v vs 10)) (v_iv (n_v vs 11)) (v_iv (n_v vs 12)) (v_iv (n_v vs 13)) (v_iv (n_v vs 14)) (v_iv (n_v vs 15)) (v_iv (n_v vs 16)) (v_iv (n_v vs 17)) (v_iv (n_v vs 18)) (w_fi ws (n_v vs 0) 158) (w_fi ws (n_v vs 0) 8) (w_fi ws (n_v vs 0) 164) (w_fi ws (n_v vs 0) 165) (w_fi ws (n_v vs 0) 159) (w_fi w1 (n_v vs 0) 158) (w_ei w1 (w_ar ws (n_v vs 0) 160)) (w_ei w1 (w_ar ws (n_v vs 0) 161)) (w_fi w1 (n_v vs 0) 8) (w_fi w1 (n_v vs 0) 157) (w_fi w1 (n_v vs 0) 164) (w_fi w1 (n_v vs 0) 165) (w_fi w1 (n_v vs 0) 159) (w_ei w1 (w_ar ws (n_v vs 0) 162)) (w_ei w1 (w_ar ws (n_v vs 0) 163)) (w_ei w1 (w_ar ws (n_v vs 0) 1)) (w_fi w1 (n_v vs 0) 10) (w_fi ws (n_v vs 0) 10) (w_fi ws (n_v vs 0) 157) (w_ei ws (w_ar ws (n_v vs 0) 1)) (w_ei ws (w_ar ws (n_v vs 0) 160)) (w_ei ws (w_ar ws (n_v vs 0) 161)) (w_ei ws (w_ar ws (n_v vs 0) 162)) (w_ei ws (w_ar ws (n_v vs 0) 163)) (v_iv (Value.int x)) (v_iv (Value.int y)) (v_iv (Value.int u)) k1 k2 k3 k6 k7 k8 k9 k10 k11 k12 k13 k14 k15 k16 k17 k18 d0 g0 f1 f2 f3 f4 f5 f6 f7 f8 f11 g12 f13 f14 f15 f16 f17 f18 f19 f20 f21 f22 f23 f24 f25 f26 f27 f28 f29 f30 f31 f32 f33 fe_0_8_1 fe_0_10_1 fe_0_157_1 fe_0_158_1 fe_0_159_1 fe_0_164_1 fe_0_165_1 hE_0_1_1 hK_0_1 hE_0_160_1 hK_0_160 hE_0_161_1 hE_0_162_1 hK_0_162 hE_0_163_1 hK_0_163 kz_0_8 kz_0_10 kz_0_157 kz_0_158 kz_0_159 kz_0_164 kz_0_165 ex2 ex3 ey2 ey3 eu2 eu3
  have nf1 : fc_1 PRD (20, [4, 19], [30, 0, 1, 1, 158, -1, 0, 0]) ws (vs ++ [Value.int x, Value.int y, Value.int u]) := by
    refine ⟨nf_inA hl rfl, sgq_297 ?_⟩
    · show 1 * w_fi ws (n_v (vs ++ [Value.int x, Value.int y, Value.int u]) 4) 158 + ((-1) * v_iv (n_v (vs ++ [Value.int x, Value.int y, Value.int u]) 19) + 0) ≤ 0
      simp only [e_4, e_19, q4]
      exact vc_Mo_product_at_f0_11_1 (v_iv (n_v vs 1)) (v_iv (n_v vs 2)) (v_iv (n_v vs 3)) (v_iv (n_v vs 6)) (v_iv (n_v vs 7)) (v_iv (n_v vs 8)) (v_iv (n_v vs 9)) (v_iv (n_v vs 10)) (v_iv (n_v vs 11)) (v_iv (n_v vs 12)) (v_iv (n_v vs 13)) (v_iv (n_v vs 14)) (v_iv (n_v vs 15)) (v_iv (n_v vs 16)) (v_iv (n_v vs 17)) (v_iv (n_v vs 18)) (w_fi ws (n_v vs 0) 158) (w_fi ws (n_v vs 0) 8) (w_fi ws (n_v vs 0) 164) (w_fi ws (n_v vs 0) 165) (w_fi ws (n_v vs 0) 159) (w_fi w1 (n_v vs 0) 158) (w_ei w1 (w_ar ws (n_v vs 0) 160)) (w_ei w1 (w_ar ws (n_v vs 0) 161)) (w_fi w1 (n_v vs 0) 8) (w_fi w1 (n_v vs 0) 157) (w_fi w1 (n_v vs 0) 164) (w_fi w1 (n_v vs 0) 165) (w_fi w1 (n_v vs 0) 159) (w_ei w1 (w_ar ws (n_v vs 0) 162)) (w_ei w1 (w_ar ws (n_v vs 0) 163)) (w_ei w1 (w_ar ws (n_v vs 0) 1)) (w_fi w1 (n_v vs 0) 10) (w_fi ws (n_v vs 0) 10) (w_fi ws (n_v vs 0) 157) (w_ei ws (w_ar ws (n_v vs 0) 1)) (w_ei ws (w_ar ws (n_v vs 0) 160)) (w_ei ws (w_ar ws (n_v vs 0) 161)) (w_ei ws (w_ar ws (n_v vs 0) 162)) (w_ei ws (w_ar ws (n_v vs 0) 163)) (v_iv (Value.int x)) (v_iv (Value.int y)) (v_iv (Value.int u)) k1 k2 k3 k6 k7 k8 k9 k10 k11 k12 k13 k14 k15 k16 k17 k18 d0 g0 f1 f2 f3 f4 f5 f6 f7 f8 f11 g12 f13 f14 f15 f16 f17 f18 f19 f20 f21 f22 f23 f24 f25 f26 f27 f28 f29 f30 f31 f32 f33 fe_0_8_1 fe_0_10_1 fe_0_157_1 fe_0_158_1 fe_0_159_1 fe_0_164_1 fe_0_165_1 hE_0_1_1 hK_0_1 hE_0_160_1 hK_0_160 hE_0_161_1 hE_0_162_1 hK_0_162 hE_0_163_1 hK_0_163 kz_0_8 kz_0_10 kz_0_157 kz_0_158 kz_0_159 kz_0_164 kz_0_165 ex2 ex3 ey2 ey3 eu2 eu3
  have nf2 : fc_1 PRD (20, [4, 19], [30, 0, -1, 1, 158, 1, 0, 0]) ws (vs ++ [Value.int x, Value.int y, Value.int u]) := by
    refine ⟨nf_inA hl rfl, sgq_298 ?_⟩
    · show (-1) * w_fi ws (n_v (vs ++ [Value.int x, Value.int y, Value.int u]) 4) 158 + (1 * v_iv (n_v (vs ++ [Value.int x, Value.int y, Value.int u]) 19) + 0) ≤ 0
      simp only [e_4, e_19, q4]
      exact vc_Mo_product_at_f0_11_2 (v_iv (n_v vs 1)) (v_iv (n_v vs 2)) (v_iv (n_v vs 3)) (v_iv (n_v vs 6)) (v_iv (n_v vs 7)) (v_iv (n_v vs 8)) (v_iv (n_v vs 9)) (v_iv (n_v vs 10)) (v_iv (n_v vs 11)) (v_iv (n_v vs 12)) (v_iv (n_v vs 13)) (v_iv (n_v vs 14)) (v_iv (n_v vs 15)) (v_iv (n_v vs 16)) (v_iv (n_v vs 17)) (v_iv (n_v vs 18)) (w_fi ws (n_v vs 0) 158) (w_fi ws (n_v vs 0) 8) (w_fi ws (n_v vs 0) 164) (w_fi ws (n_v vs 0) 165) (w_fi ws (n_v vs 0) 159) (w_fi w1 (n_v vs 0) 158) (w_ei w1 (w_ar ws (n_v vs 0) 160)) (w_ei w1 (w_ar ws (n_v vs 0) 161)) (w_fi w1 (n_v vs 0) 8) (w_fi w1 (n_v vs 0) 157) (w_fi w1 (n_v vs 0) 164) (w_fi w1 (n_v vs 0) 165) (w_fi w1 (n_v vs 0) 159) (w_ei w1 (w_ar ws (n_v vs 0) 162)) (w_ei w1 (w_ar ws (n_v vs 0) 163)) (w_ei w1 (w_ar ws (n_v vs 0) 1)) (w_fi w1 (n_v vs 0) 10) (w_fi ws (n_v vs 0) 10) (w_fi ws (n_v vs 0) 157) (w_ei ws (w_ar ws (n_v vs 0) 1)) (w_ei ws (w_ar ws (n_v vs 0) 160)) (w_ei ws (w_ar ws (n_v vs 0) 161)) (w_ei ws (w_ar ws (n_v vs 0) 162)) (w_ei ws (w_ar ws (n_v vs 0) 163)) (v_iv (Value.int x)) (v_iv (Value.int y)) (v_iv (Value.int u)) k1 k2 k3 k6 k7 k8 k9 k10 k11 k12 k13 k14 k15 k16 k17 k18 d0 g0 f1 f2 f3 f4 f5 f6 f7 f8 f11 g12 f13 f14 f15 f16 f17 f18 f19 f20 f21 f22 f23 f24 f25 f26 f27 f28 f29 f30 f31 f32 f33 fe_0_8_1 fe_0_10_1 fe_0_157_1 fe_0_158_1 fe_0_159_1 fe_0_164_1 fe_0_165_1 hE_0_1_1 hK_0_1 hE_0_160_1 hK_0_160 hE_0_161_1 hE_0_162_1 hK_0_162 hE_0_163_1 hK_0_163 kz_0_8 kz_0_10 kz_0_157 kz_0_158 kz_0_159 kz_0_164 kz_0_165 ex2 ex3 ey2 ey3 eu2 eu3
  have nf3 : fc_1 PRD (20, [4], [50, 2, 0, 164, 165, 4, 7, 1, 3, 2, 0, 164, 0, 0, 0, 3, 2, 0, 165, 0, 23]) ws (vs ++ [Value.int x, Value.int y, Value.int u]) := by
    refine ⟨nf_inA hl rfl, sgq_299 ?_⟩
    · show (w_fi ws (n_v (vs ++ [Value.int x, Value.int y, Value.int u]) 4) 164 = 0) → (w_fi ws (n_v (vs ++ [Value.int x, Value.int y, Value.int u]) 4) 165 ≤ 23)
      simp only [e_4, q4]
      exact vc_Mo_product_at_f0_11_3 (v_iv (n_v vs 1)) (v_iv (n_v vs 2)) (v_iv (n_v vs 3)) (v_iv (n_v vs 6)) (v_iv (n_v vs 7)) (v_iv (n_v vs 8)) (v_iv (n_v vs 9)) (v_iv (n_v vs 10)) (v_iv (n_v vs 11)) (v_iv (n_v vs 12)) (v_iv (n_v vs 13)) (v_iv (n_v vs 14)) (v_iv (n_v vs 15)) (v_iv (n_v vs 16)) (v_iv (n_v vs 17)) (v_iv (n_v vs 18)) (w_fi ws (n_v vs 0) 158) (w_fi ws (n_v vs 0) 8) (w_fi ws (n_v vs 0) 164) (w_fi ws (n_v vs 0) 165) (w_fi ws (n_v vs 0) 159) (w_fi w1 (n_v vs 0) 158) (w_ei w1 (w_ar ws (n_v vs 0) 160)) (w_ei w1 (w_ar ws (n_v vs 0) 161)) (w_fi w1 (n_v vs 0) 8) (w_fi w1 (n_v vs 0) 157) (w_fi w1 (n_v vs 0) 164) (w_fi w1 (n_v vs 0) 165) (w_fi w1 (n_v vs 0) 159) (w_ei w1 (w_ar ws (n_v vs 0) 162)) (w_ei w1 (w_ar ws (n_v vs 0) 163)) (w_ei w1 (w_ar ws (n_v vs 0) 1)) (w_fi w1 (n_v vs 0) 10) (w_fi ws (n_v vs 0) 10) (w_fi ws (n_v vs 0) 157) (w_ei ws (w_ar ws (n_v vs 0) 1)) (w_ei ws (w_ar ws (n_v vs 0) 160)) (w_ei ws (w_ar ws (n_v vs 0) 161)) (w_ei ws (w_ar ws (n_v vs 0) 162)) (w_ei ws (w_ar ws (n_v vs 0) 163)) (v_iv (Value.int x)) (v_iv (Value.int y)) (v_iv (Value.int u)) k1 k2 k3 k6 k7 k8 k9 k10 k11 k12 k13 k14 k15 k16 k17 k18 d0 g0 f1 f2 f3 f4 f5 f6 f7 f8 f11 g12 f13 f14 f15 f16 f17 f18 f19 f20 f21 f22 f23 f24 f25 f26 f27 f28 f29 f30 f31 f32 f33 fe_0_8_1 fe_0_10_1 fe_0_157_1 fe_0_158_1 fe_0_159_1 fe_0_164_1 fe_0_165_1 hE_0_1_1 hK_0_1 hE_0_160_1 hK_0_160 hE_0_161_1 hE_0_162_1 hK_0_162 hE_0_163_1 hK_0_163 kz_0_8 kz_0_10 kz_0_157 kz_0_158 kz_0_159 kz_0_164 kz_0_165 ex2 ex3 ey2 ey3 eu2 eu3
  have nf4 : fc_1 PRD (20, [4], [30, 0, 1, 1, 159]) ws (vs ++ [Value.int x, Value.int y, Value.int u]) := by
    refine ⟨nf_inA hl rfl, sgq_999 ?_⟩
    · show 1 * w_fi ws (n_v (vs ++ [Value.int x, Value.int y, Value.int u]) 4) 159 + 0 ≤ 0
      simp only [e_4, q4]
      exact vc_Mo_product_at_f0_11_4 (v_iv (n_v vs 1)) (v_iv (n_v vs 2)) (v_iv (n_v vs 3)) (v_iv (n_v vs 6)) (v_iv (n_v vs 7)) (v_iv (n_v vs 8)) (v_iv (n_v vs 9)) (v_iv (n_v vs 10)) (v_iv (n_v vs 11)) (v_iv (n_v vs 12)) (v_iv (n_v vs 13)) (v_iv (n_v vs 14)) (v_iv (n_v vs 15)) (v_iv (n_v vs 16)) (v_iv (n_v vs 17)) (v_iv (n_v vs 18)) (w_fi ws (n_v vs 0) 158) (w_fi ws (n_v vs 0) 8) (w_fi ws (n_v vs 0) 164) (w_fi ws (n_v vs 0) 165) (w_fi ws (n_v vs 0) 159) (w_fi w1 (n_v vs 0) 158) (w_ei w1 (w_ar ws (n_v vs 0) 160)) (w_ei w1 (w_ar ws (n_v vs 0) 161)) (w_fi w1 (n_v vs 0) 8) (w_fi w1 (n_v vs 0) 157) (w_fi w1 (n_v vs 0) 164) (w_fi w1 (n_v vs 0) 165) (w_fi w1 (n_v vs 0) 159) (w_ei w1 (w_ar ws (n_v vs 0) 162)) (w_ei w1 (w_ar ws (n_v vs 0) 163)) (w_ei w1 (w_ar ws (n_v vs 0) 1)) (w_fi w1 (n_v vs 0) 10) (w_fi ws (n_v vs 0) 10) (w_fi ws (n_v vs 0) 157) (w_ei ws (w_ar ws (n_v vs 0) 1)) (w_ei ws (w_ar ws (n_v vs 0) 160)) (w_ei ws (w_ar ws (n_v vs 0) 161)) (w_ei ws (w_ar ws (n_v vs 0) 162)) (w_ei ws (w_ar ws (n_v vs 0) 163)) (v_iv (Value.int x)) (v_iv (Value.int y)) (v_iv (Value.int u)) k1 k2 k3 k6 k7 k8 k9 k10 k11 k12 k13 k14 k15 k16 k17 k18 d0 g0 f1 f2 f3 f4 f5 f6 f7 f8 f11 g12 f13 f14 f15 f16 f17 f18 f19 f20 f21 f22 f23 f24 f25 f26 f27 f28 f29 f30 f31 f32 f33 fe_0_8_1 fe_0_10_1 fe_0_157_1 fe_0_158_1 fe_0_159_1 fe_0_164_1 fe_0_165_1 hE_0_1_1 hK_0_1 hE_0_160_1 hK_0_160 hE_0_161_1 hE_0_162_1 hK_0_162 hE_0_163_1 hK_0_163 kz_0_8 kz_0_10 kz_0_157 kz_0_158 kz_0_159 kz_0_164 kz_0_165 ex2 ex3 ey2 ey3 eu2 eu3
  have nf5 : fc_1 PRD (20, [4], [30, 0, -1, 1, 159]) ws (vs ++ [Value.int x, Value.int y, Value.int u]) := by
    refine ⟨nf_inA hl rfl, sgq_1000 ?_⟩
    · show (-1) * w_fi ws (n_v (vs ++ [Value.int x, Value.int y, Value.int u]) 4) 159 + 0 ≤ 0
      simp only [e_4, q4]
      exact vc_Mo_product_at_f0_11_5 (v_iv (n_v vs 1)) (v_iv (n_v vs 2)) (v_iv (n_v vs 3)) (v_iv (n_v vs 6)) (v_iv (n_v vs 7)) (v_iv (n_v vs 8)) (v_iv (n_v vs 9)) (v_iv (n_v vs 10)) (v_iv (n_v vs 11)) (v_iv (n_v vs 12)) (v_iv (n_v vs 13)) (v_iv (n_v vs 14)) (v_iv (n_v vs 15)) (v_iv (n_v vs 16)) (v_iv (n_v vs 17)) (v_iv (n_v vs 18)) (w_fi ws (n_v vs 0) 158) (w_fi ws (n_v vs 0) 8) (w_fi ws (n_v vs 0) 164) (w_fi ws (n_v vs 0) 165) (w_fi ws (n_v vs 0) 159) (w_fi w1 (n_v vs 0) 158) (w_ei w1 (w_ar ws (n_v vs 0) 160)) (w_ei w1 (w_ar ws (n_v vs 0) 161)) (w_fi w1 (n_v vs 0) 8) (w_fi w1 (n_v vs 0) 157) (w_fi w1 (n_v vs 0) 164) (w_fi w1 (n_v vs 0) 165) (w_fi w1 (n_v vs 0) 159) (w_ei w1 (w_ar ws (n_v vs 0) 162)) (w_ei w1 (w_ar ws (n_v vs 0) 163)) (w_ei w1 (w_ar ws (n_v vs 0) 1)) (w_fi w1 (n_v vs 0) 10) (w_fi ws (n_v vs 0) 10) (w_fi ws (n_v vs 0) 157) (w_ei ws (w_ar ws (n_v vs 0) 1)) (w_ei ws (w_ar ws (n_v vs 0) 160)) (w_ei ws (w_ar ws (n_v vs 0) 161)) (w_ei ws (w_ar ws (n_v vs 0) 162)) (w_ei ws (w_ar ws (n_v vs 0) 163)) (v_iv (Value.int x)) (v_iv (Value.int y)) (v_iv (Value.int u)) k1 k2 k3 k6 k7 k8 k9 k10 k11 k12 k13 k14 k15 k16 k17 k18 d0 g0 f1 f2 f3 f4 f5 f6 f7 f8 f11 g12 f13 f14 f15 f16 f17 f18 f19 f20 f21 f22 f23 f24 f25 f26 f27 f28 f29 f30 f31 f32 f33 fe_0_8_1 fe_0_10_1 fe_0_157_1 fe_0_158_1 fe_0_159_1 fe_0_164_1 fe_0_165_1 hE_0_1_1 hK_0_1 hE_0_160_1 hK_0_160 hE_0_161_1 hE_0_162_1 hK_0_162 hE_0_163_1 hK_0_163 kz_0_8 kz_0_10 kz_0_157 kz_0_158 kz_0_159 kz_0_164 kz_0_165 ex2 ex3 ey2 ey3 eu2 eu3
  have nf6 : fc_1 PRD (20, [4, 20], [50, 1, 0, 8, 1, 3, 2, 0, 8, 1, 1]) ws (vs ++ [Value.int x, Value.int y, Value.int u]) := by
    refine ⟨nf_inA hl rfl, sgq_302 ?_⟩
    · show w_fi ws (n_v (vs ++ [Value.int x, Value.int y, Value.int u]) 4) 8 = v_iv (n_v (vs ++ [Value.int x, Value.int y, Value.int u]) 20)
      simp only [e_4, e_20, q4]
      exact vc_Mo_product_at_f0_11_6 (v_iv (n_v vs 1)) (v_iv (n_v vs 2)) (v_iv (n_v vs 3)) (v_iv (n_v vs 6)) (v_iv (n_v vs 7)) (v_iv (n_v vs 8)) (v_iv (n_v vs 9)) (v_iv (n_v vs 10)) (v_iv (n_v vs 11)) (v_iv (n_v vs 12)) (v_iv (n_v vs 13)) (v_iv (n_v vs 14)) (v_iv (n_v vs 15)) (v_iv (n_v vs 16)) (v_iv (n_v vs 17)) (v_iv (n_v vs 18)) (w_fi ws (n_v vs 0) 158) (w_fi ws (n_v vs 0) 8) (w_fi ws (n_v vs 0) 164) (w_fi ws (n_v vs 0) 165) (w_fi ws (n_v vs 0) 159) (w_fi w1 (n_v vs 0) 158) (w_ei w1 (w_ar ws (n_v vs 0) 160)) (w_ei w1 (w_ar ws (n_v vs 0) 161)) (w_fi w1 (n_v vs 0) 8) (w_fi w1 (n_v vs 0) 157) (w_fi w1 (n_v vs 0) 164) (w_fi w1 (n_v vs 0) 165) (w_fi w1 (n_v vs 0) 159) (w_ei w1 (w_ar ws (n_v vs 0) 162)) (w_ei w1 (w_ar ws (n_v vs 0) 163)) (w_ei w1 (w_ar ws (n_v vs 0) 1)) (w_fi w1 (n_v vs 0) 10) (w_fi ws (n_v vs 0) 10) (w_fi ws (n_v vs 0) 157) (w_ei ws (w_ar ws (n_v vs 0) 1)) (w_ei ws (w_ar ws (n_v vs 0) 160)) (w_ei ws (w_ar ws (n_v vs 0) 161)) (w_ei ws (w_ar ws (n_v vs 0) 162)) (w_ei ws (w_ar ws (n_v vs 0) 163)) (v_iv (Value.int x)) (v_iv (Value.int y)) (v_iv (Value.int u)) k1 k2 k3 k6 k7 k8 k9 k10 k11 k12 k13 k14 k15 k16 k17 k18 d0 g0 f1 f2 f3 f4 f5 f6 f7 f8 f11 g12 f13 f14 f15 f16 f17 f18 f19 f20 f21 f22 f23 f24 f25 f26 f27 f28 f29 f30 f31 f32 f33 fe_0_8_1 fe_0_10_1 fe_0_157_1 fe_0_158_1 fe_0_159_1 fe_0_164_1 fe_0_165_1 hE_0_1_1 hK_0_1 hE_0_160_1 hK_0_160 hE_0_161_1 hE_0_162_1 hK_0_162 hE_0_163_1 hK_0_163 kz_0_8 kz_0_10 kz_0_157 kz_0_158 kz_0_159 kz_0_164 kz_0_165 ex2 ex3 ey2 ey3 eu2 eu3
  have nf7 : fc_1 PRD (20, [4, 21], [50, 1, 0, 159, 1, 3, 2, 0, 159, 1, 1]) ws (vs ++ [Value.int x, Value.int y, Value.int u]) := by
    refine ⟨nf_inA hl rfl, sgq_303 ?_⟩
    · show w_fi ws (n_v (vs ++ [Value.int x, Value.int y, Value.int u]) 4) 159 = v_iv (n_v (vs ++ [Value.int x, Value.int y, Value.int u]) 21)
      simp only [e_4, e_21, q4]
      exact vc_Mo_product_at_f0_11_7 (v_iv (n_v vs 1)) (v_iv (n_v vs 2)) (v_iv (n_v vs 3)) (v_iv (n_v vs 6)) (v_iv (n_v vs 7)) (v_iv (n_v vs 8)) (v_iv (n_v vs 9)) (v_iv (n_v vs 10)) (v_iv (n_v vs 11)) (v_iv (n_v vs 12)) (v_iv (n_v vs 13)) (v_iv (n_v vs 14)) (v_iv (n_v vs 15)) (v_iv (n_v vs 16)) (v_iv (n_v vs 17)) (v_iv (n_v vs 18)) (w_fi ws (n_v vs 0) 158) (w_fi ws (n_v vs 0) 8) (w_fi ws (n_v vs 0) 164) (w_fi ws (n_v vs 0) 165) (w_fi ws (n_v vs 0) 159) (w_fi w1 (n_v vs 0) 158) (w_ei w1 (w_ar ws (n_v vs 0) 160)) (w_ei w1 (w_ar ws (n_v vs 0) 161)) (w_fi w1 (n_v vs 0) 8) (w_fi w1 (n_v vs 0) 157) (w_fi w1 (n_v vs 0) 164) (w_fi w1 (n_v vs 0) 165) (w_fi w1 (n_v vs 0) 159) (w_ei w1 (w_ar ws (n_v vs 0) 162)) (w_ei w1 (w_ar ws (n_v vs 0) 163)) (w_ei w1 (w_ar ws (n_v vs 0) 1)) (w_fi w1 (n_v vs 0) 10) (w_fi ws (n_v vs 0) 10) (w_fi ws (n_v vs 0) 157) (w_ei ws (w_ar ws (n_v vs 0) 1)) (w_ei ws (w_ar ws (n_v vs 0) 160)) (w_ei ws (w_ar ws (n_v vs 0) 161)) (w_ei ws (w_ar ws (n_v vs 0) 162)) (w_ei ws (w_ar ws (n_v vs 0) 163)) (v_iv (Value.int x)) (v_iv (Value.int y)) (v_iv (Value.int u)) k1 k2 k3 k6 k7 k8 k9 k10 k11 k12 k13 k14 k15 k16 k17 k18 d0 g0 f1 f2 f3 f4 f5 f6 f7 f8 f11 g12 f13 f14 f15 f16 f17 f18 f19 f20 f21 f22 f23 f24 f25 f26 f27 f28 f29 f30 f31 f32 f33 fe_0_8_1 fe_0_10_1 fe_0_157_1 fe_0_158_1 fe_0_159_1 fe_0_164_1 fe_0_165_1 hE_0_1_1 hK_0_1 hE_0_160_1 hK_0_160 hE_0_161_1 hE_0_162_1 hK_0_162 hE_0_163_1 hK_0_163 kz_0_8 kz_0_10 kz_0_157 kz_0_158 kz_0_159 kz_0_164 kz_0_165 ex2 ex3 ey2 ey3 eu2 eu3
  have nf8 : fc_1 PRD (23, [1, 19], [0, 1, -1]) ws (vs ++ [Value.int x, Value.int y, Value.int u]) := by
    refine ⟨nf_inA hl rfl, sgq_7 ?_⟩
    · show 1 * v_iv (n_v (vs ++ [Value.int x, Value.int y, Value.int u]) 1) + ((-1) * v_iv (n_v (vs ++ [Value.int x, Value.int y, Value.int u]) 19) + 0) ≤ 0
      simp only [e_1, e_19]
      exact vc_Mo_product_at_f0_11_8 (v_iv (n_v vs 1)) (v_iv (n_v vs 2)) (v_iv (n_v vs 3)) (v_iv (n_v vs 6)) (v_iv (n_v vs 7)) (v_iv (n_v vs 8)) (v_iv (n_v vs 9)) (v_iv (n_v vs 10)) (v_iv (n_v vs 11)) (v_iv (n_v vs 12)) (v_iv (n_v vs 13)) (v_iv (n_v vs 14)) (v_iv (n_v vs 15)) (v_iv (n_v vs 16)) (v_iv (n_v vs 17)) (v_iv (n_v vs 18)) (w_fi ws (n_v vs 0) 158) (w_fi ws (n_v vs 0) 8) (w_fi ws (n_v vs 0) 164) (w_fi ws (n_v vs 0) 165) (w_fi ws (n_v vs 0) 159) (w_fi w1 (n_v vs 0) 158) (w_ei w1 (w_ar ws (n_v vs 0) 160)) (w_ei w1 (w_ar ws (n_v vs 0) 161)) (w_fi w1 (n_v vs 0) 8) (w_fi w1 (n_v vs 0) 157) (w_fi w1 (n_v vs 0) 164) (w_fi w1 (n_v vs 0) 165) (w_fi w1 (n_v vs 0) 159) (w_ei w1 (w_ar ws (n_v vs 0) 162)) (w_ei w1 (w_ar ws (n_v vs 0) 163)) (w_ei w1 (w_ar ws (n_v vs 0) 1)) (w_fi w1 (n_v vs 0) 10) (w_fi ws (n_v vs 0) 10) (w_fi ws (n_v vs 0) 157) (w_ei ws (w_ar ws (n_v vs 0) 1)) (w_ei ws (w_ar ws (n_v vs 0) 160)) (w_ei ws (w_ar ws (n_v vs 0) 161)) (w_ei ws (w_ar ws (n_v vs 0) 162)) (w_ei ws (w_ar ws (n_v vs 0) 163)) (v_iv (Value.int x)) (v_iv (Value.int y)) (v_iv (Value.int u)) k1 k2 k3 k6 k7 k8 k9 k10 k11 k12 k13 k14 k15 k16 k17 k18 d0 g0 f1 f2 f3 f4 f5 f6 f7 f8 f11 g12 f13 f14 f15 f16 f17 f18 f19 f20 f21 f22 f23 f24 f25 f26 f27 f28 f29 f30 f31 f32 f33 fe_0_8_1 fe_0_10_1 fe_0_157_1 fe_0_158_1 fe_0_159_1 fe_0_164_1 fe_0_165_1 hE_0_1_1 hK_0_1 hE_0_160_1 hK_0_160 hE_0_161_1 hE_0_162_1 hK_0_162 hE_0_163_1 hK_0_163 kz_0_8 kz_0_10 kz_0_157 kz_0_158 kz_0_159 kz_0_164 kz_0_165 ex2 ex3 ey2 ey3 eu2 eu3
  have nf9 : fc_1 PRD (23, [7, 19], [-2011, -1, -1]) ws (vs ++ [Value.int x, Value.int y, Value.int u]) := by
    refine ⟨nf_inA hl rfl, sgq_315 ?_⟩
    · show (-1) * v_iv (n_v (vs ++ [Value.int x, Value.int y, Value.int u]) 7) + ((-1) * v_iv (n_v (vs ++ [Value.int x, Value.int y, Value.int u]) 19) + 0) ≤ (-2011)
      simp only [e_7, e_19]
      exact vc_Mo_product_at_f0_11_9 (v_iv (n_v vs 1)) (v_iv (n_v vs 2)) (v_iv (n_v vs 3)) (v_iv (n_v vs 6)) (v_iv (n_v vs 7)) (v_iv (n_v vs 8)) (v_iv (n_v vs 9)) (v_iv (n_v vs 10)) (v_iv (n_v vs 11)) (v_iv (n_v vs 12)) (v_iv (n_v vs 13)) (v_iv (n_v vs 14)) (v_iv (n_v vs 15)) (v_iv (n_v vs 16)) (v_iv (n_v vs 17)) (v_iv (n_v vs 18)) (w_fi ws (n_v vs 0) 158) (w_fi ws (n_v vs 0) 8) (w_fi ws (n_v vs 0) 164) (w_fi ws (n_v vs 0) 165) (w_fi ws (n_v vs 0) 159) (w_fi w1 (n_v vs 0) 158) (w_ei w1 (w_ar ws (n_v vs 0) 160)) (w_ei w1 (w_ar ws (n_v vs 0) 161)) (w_fi w1 (n_v vs 0) 8) (w_fi w1 (n_v vs 0) 157) (w_fi w1 (n_v vs 0) 164) (w_fi w1 (n_v vs 0) 165) (w_fi w1 (n_v vs 0) 159) (w_ei w1 (w_ar ws (n_v vs 0) 162)) (w_ei w1 (w_ar ws (n_v vs 0) 163)) (w_ei w1 (w_ar ws (n_v vs 0) 1)) (w_fi w1 (n_v vs 0) 10) (w_fi ws (n_v vs 0) 10) (w_fi ws (n_v vs 0) 157) (w_ei ws (w_ar ws (n_v vs 0) 1)) (w_ei ws (w_ar ws (n_v vs 0) 160)) (w_ei ws (w_ar ws (n_v vs 0) 161)) (w_ei ws (w_ar ws (n_v vs 0) 162)) (w_ei ws (w_ar ws (n_v vs 0) 163)) (v_iv (Value.int x)) (v_iv (Value.int y)) (v_iv (Value.int u)) k1 k2 k3 k6 k7 k8 k9 k10 k11 k12 k13 k14 k15 k16 k17 k18 d0 g0 f1 f2 f3 f4 f5 f6 f7 f8 f11 g12 f13 f14 f15 f16 f17 f18 f19 f20 f21 f22 f23 f24 f25 f26 f27 f28 f29 f30 f31 f32 f33 fe_0_8_1 fe_0_10_1 fe_0_157_1 fe_0_158_1 fe_0_159_1 fe_0_164_1 fe_0_165_1 hE_0_1_1 hK_0_1 hE_0_160_1 hK_0_160 hE_0_161_1 hE_0_162_1 hK_0_162 hE_0_163_1 hK_0_163 kz_0_8 kz_0_10 kz_0_157 kz_0_158 kz_0_159 kz_0_164 kz_0_165 ex2 ex3 ey2 ey3 eu2 eu3
  have nf10 : fc_1 PRD (20, [4, 19, 20, 1, 2, 3], [60, 2, 5, 10, 164, 10, 160, 161, 162, 163, 1]) ws (vs ++ [Value.int x, Value.int y, Value.int u]) := by
    refine ⟨nf_inA hl rfl, sgq_344 ?_⟩
    · show GPW (w_fi ws (n_v (vs ++ [Value.int x, Value.int y, Value.int u]) 4) 164) (w_fi ws (n_v (vs ++ [Value.int x, Value.int y, Value.int u]) 4) 10) (w_ei ws (w_ar ws (n_v (vs ++ [Value.int x, Value.int y, Value.int u]) 4) 160)) (w_ei ws (w_ar ws (n_v (vs ++ [Value.int x, Value.int y, Value.int u]) 4) 161)) (w_ei ws (w_ar ws (n_v (vs ++ [Value.int x, Value.int y, Value.int u]) 4) 162)) (w_ei ws (w_ar ws (n_v (vs ++ [Value.int x, Value.int y, Value.int u]) 4) 163)) (w_ei ws (w_ar ws (n_v (vs ++ [Value.int x, Value.int y, Value.int u]) 4) 1)) (v_iv (n_v (vs ++ [Value.int x, Value.int y, Value.int u]) 19)) (v_iv (n_v (vs ++ [Value.int x, Value.int y, Value.int u]) 20)) (v_iv (n_v (vs ++ [Value.int x, Value.int y, Value.int u]) 1)) (v_iv (n_v (vs ++ [Value.int x, Value.int y, Value.int u]) 2)) (v_iv (n_v (vs ++ [Value.int x, Value.int y, Value.int u]) 3))
      simp only [e_1, e_2, e_3, e_4, e_19, e_20, q4]
      exact vc_Mo_product_at_f0_11_10 (v_iv (n_v vs 1)) (v_iv (n_v vs 2)) (v_iv (n_v vs 3)) (v_iv (n_v vs 6)) (v_iv (n_v vs 8)) (v_iv (n_v vs 9)) (v_iv (n_v vs 10)) (v_iv (n_v vs 11)) (v_iv (n_v vs 12)) (v_iv (n_v vs 13)) (v_iv (n_v vs 18)) (w_fi ws (n_v vs 0) 158) (w_fi ws (n_v vs 0) 8) (w_fi ws (n_v vs 0) 164) (w_fi ws (n_v vs 0) 165) (w_fi ws (n_v vs 0) 159) (w_fi w1 (n_v vs 0) 158) (w_ei w1 (w_ar ws (n_v vs 0) 160)) (w_ei w1 (w_ar ws (n_v vs 0) 161)) (w_fi w1 (n_v vs 0) 8) (w_fi w1 (n_v vs 0) 157) (w_fi w1 (n_v vs 0) 164) (w_fi w1 (n_v vs 0) 165) (w_fi w1 (n_v vs 0) 159) (w_ei w1 (w_ar ws (n_v vs 0) 162)) (w_ei w1 (w_ar ws (n_v vs 0) 163)) (w_ei w1 (w_ar ws (n_v vs 0) 1)) (w_fi w1 (n_v vs 0) 10) (w_fi ws (n_v vs 0) 10) (w_fi ws (n_v vs 0) 157) (w_ei ws (w_ar ws (n_v vs 0) 1)) (w_ei ws (w_ar ws (n_v vs 0) 160)) (w_ei ws (w_ar ws (n_v vs 0) 161)) (w_ei ws (w_ar ws (n_v vs 0) 162)) (w_ei ws (w_ar ws (n_v vs 0) 163)) (v_iv (Value.int x)) (v_iv (Value.int y)) k1 k2 k3 k6 k11 k12 k13 k18 d0 g0 f2 g12 f16 f18 f29 fe_0_8_1 fe_0_10_1 fe_0_157_1 fe_0_159_1 fe_0_164_1 fe_0_165_1 hE_0_1_1 hE_0_160_1 hE_0_161_1 hE_0_162_1 hE_0_163_1 kz_0_8 kz_0_10 kz_0_157 kz_0_158 kz_0_159 kz_0_164 kz_0_165 ex2 ey2
  have nf11 : fc_1 PRD (23, [21], [0, 1]) ws (vs ++ [Value.int x, Value.int y, Value.int u]) := by
    refine ⟨nf_inA hl rfl, sgq_1477 ?_⟩
    · show 1 * v_iv (n_v (vs ++ [Value.int x, Value.int y, Value.int u]) 21) + 0 ≤ 0
      rw [e_21]
      exact vc_Mo_product_at_f0_11_11 (v_iv (n_v vs 1)) (v_iv (n_v vs 2)) (v_iv (n_v vs 3)) (v_iv (n_v vs 6)) (v_iv (n_v vs 7)) (v_iv (n_v vs 8)) (v_iv (n_v vs 9)) (v_iv (n_v vs 10)) (v_iv (n_v vs 11)) (v_iv (n_v vs 12)) (v_iv (n_v vs 13)) (v_iv (n_v vs 14)) (v_iv (n_v vs 15)) (v_iv (n_v vs 16)) (v_iv (n_v vs 17)) (v_iv (n_v vs 18)) (w_fi ws (n_v vs 0) 158) (w_fi ws (n_v vs 0) 8) (w_fi ws (n_v vs 0) 164) (w_fi ws (n_v vs 0) 165) (w_fi ws (n_v vs 0) 159) (w_fi w1 (n_v vs 0) 158) (w_ei w1 (w_ar ws (n_v vs 0) 160)) (w_ei w1 (w_ar ws (n_v vs 0) 161)) (w_fi w1 (n_v vs 0) 8) (w_fi w1 (n_v vs 0) 157) (w_fi w1 (n_v vs 0) 164) (w_fi w1 (n_v vs 0) 165) (w_fi w1 (n_v vs 0) 159) (w_ei w1 (w_ar ws (n_v vs 0) 162)) (w_ei w1 (w_ar ws (n_v vs 0) 163)) (w_ei w1 (w_ar ws (n_v vs 0) 1)) (w_fi w1 (n_v vs 0) 10) (w_fi ws (n_v vs 0) 10) (w_fi ws (n_v vs 0) 157) (w_ei ws (w_ar ws (n_v vs 0) 1)) (w_ei ws (w_ar ws (n_v vs 0) 160)) (w_ei ws (w_ar ws (n_v vs 0) 161)) (w_ei ws (w_ar ws (n_v vs 0) 162)) (w_ei ws (w_ar ws (n_v vs 0) 163)) (v_iv (Value.int x)) (v_iv (Value.int y)) (v_iv (Value.int u)) k1 k2 k3 k6 k7 k8 k9 k10 k11 k12 k13 k14 k15 k16 k17 k18 d0 g0 f1 f2 f3 f4 f5 f6 f7 f8 f11 g12 f13 f14 f15 f16 f17 f18 f19 f20 f21 f22 f23 f24 f25 f26 f27 f28 f29 f30 f31 f32 f33 fe_0_8_1 fe_0_10_1 fe_0_157_1 fe_0_158_1 fe_0_159_1 fe_0_164_1 fe_0_165_1 hE_0_1_1 hK_0_1 hE_0_160_1 hK_0_160 hE_0_161_1 hE_0_162_1 hK_0_162 hE_0_163_1 hK_0_163 kz_0_8 kz_0_10 kz_0_157 kz_0_158 kz_0_159 kz_0_164 kz_0_165 ex2 ex3 ey2 ey3 eu2 eu3
  have nf12 : fc_1 PRD (23, [21], [0, -1]) ws (vs ++ [Value.int x, Value.int y, Value.int u]) := by
    refine ⟨nf_inA hl rfl, sgq_1013 ?_⟩
    · show (-1) * v_iv (n_v (vs ++ [Value.int x, Value.int y, Value.int u]) 21) + 0 ≤ 0
      rw [e_21]
      exact vc_Mo_product_at_f0_11_12 (v_iv (n_v vs 1)) (v_iv (n_v vs 2)) (v_iv (n_v vs 3)) (v_iv (n_v vs 6)) (v_iv (n_v vs 7)) (v_iv (n_v vs 8)) (v_iv (n_v vs 9)) (v_iv (n_v vs 10)) (v_iv (n_v vs 11)) (v_iv (n_v vs 12)) (v_iv (n_v vs 13)) (v_iv (n_v vs 14)) (v_iv (n_v vs 15)) (v_iv (n_v vs 16)) (v_iv (n_v vs 17)) (v_iv (n_v vs 18)) (w_fi ws (n_v vs 0) 158) (w_fi ws (n_v vs 0) 8) (w_fi ws (n_v vs 0) 164) (w_fi ws (n_v vs 0) 165) (w_fi ws (n_v vs 0) 159) (w_fi w1 (n_v vs 0) 158) (w_ei w1 (w_ar ws (n_v vs 0) 160)) (w_ei w1 (w_ar ws (n_v vs 0) 161)) (w_fi w1 (n_v vs 0) 8) (w_fi w1 (n_v vs 0) 157) (w_fi w1 (n_v vs 0) 164) (w_fi w1 (n_v vs 0) 165) (w_fi w1 (n_v vs 0) 159) (w_ei w1 (w_ar ws (n_v vs 0) 162)) (w_ei w1 (w_ar ws (n_v vs 0) 163)) (w_ei w1 (w_ar ws (n_v vs 0) 1)) (w_fi w1 (n_v vs 0) 10) (w_fi ws (n_v vs 0) 10) (w_fi ws (n_v vs 0) 157) (w_ei ws (w_ar ws (n_v vs 0) 1)) (w_ei ws (w_ar ws (n_v vs 0) 160)) (w_ei ws (w_ar ws (n_v vs 0) 161)) (w_ei ws (w_ar ws (n_v vs 0) 162)) (w_ei ws (w_ar ws (n_v vs 0) 163)) (v_iv (Value.int x)) (v_iv (Value.int y)) (v_iv (Value.int u)) k1 k2 k3 k6 k7 k8 k9 k10 k11 k12 k13 k14 k15 k16 k17 k18 d0 g0 f1 f2 f3 f4 f5 f6 f7 f8 f11 g12 f13 f14 f15 f16 f17 f18 f19 f20 f21 f22 f23 f24 f25 f26 f27 f28 f29 f30 f31 f32 f33 fe_0_8_1 fe_0_10_1 fe_0_157_1 fe_0_158_1 fe_0_159_1 fe_0_164_1 fe_0_165_1 hE_0_1_1 hK_0_1 hE_0_160_1 hK_0_160 hE_0_161_1 hE_0_162_1 hK_0_162 hE_0_163_1 hK_0_163 kz_0_8 kz_0_10 kz_0_157 kz_0_158 kz_0_159 kz_0_164 kz_0_165 ex2 ex3 ey2 ey3 eu2 eu3
  exact ⟨(fun _ h => (by cases h)), [Value.int x, Value.int y, Value.int u], ag_three hx hy hu, List.forall_mem_cons.mpr ⟨⟨show (20 : Nat) < 100 from by decide, nf0⟩, List.forall_mem_cons.mpr ⟨⟨show (20 : Nat) < 100 from by decide, nf1⟩, List.forall_mem_cons.mpr ⟨⟨show (20 : Nat) < 100 from by decide, nf2⟩, List.forall_mem_cons.mpr ⟨⟨show (20 : Nat) < 100 from by decide, nf3⟩, List.forall_mem_cons.mpr ⟨⟨show (20 : Nat) < 100 from by decide, nf4⟩, List.forall_mem_cons.mpr ⟨⟨show (20 : Nat) < 100 from by decide, nf5⟩, List.forall_mem_cons.mpr ⟨⟨show (20 : Nat) < 100 from by decide, nf6⟩, List.forall_mem_cons.mpr ⟨⟨show (20 : Nat) < 100 from by decide, nf7⟩, List.forall_mem_cons.mpr ⟨⟨show (23 : Nat) < 100 from by decide, nf8⟩, List.forall_mem_cons.mpr ⟨⟨show (23 : Nat) < 100 from by decide, nf9⟩, List.forall_mem_cons.mpr ⟨⟨show (20 : Nat) < 100 from by decide, nf10⟩, List.forall_mem_cons.mpr ⟨⟨show (23 : Nat) < 100 from by decide, nf11⟩, List.forall_mem_cons.mpr ⟨⟨show (23 : Nat) < 100 from by decide, nf12⟩, (fun _ h => (by cases h))⟩⟩⟩⟩⟩⟩⟩⟩⟩⟩⟩⟩⟩, (fun _ h => (by cases h))⟩
set_option maxHeartbeats 4000000 in
theorem vc_Mo_product_at_f0_12_0 (x1 : Int) (x2 : Int) (x3 : Int) (x6 : Int) (x7 : Int) (x17 : Int) (x18 : Int) (x19 : Int) (x20 : Int) (x21 : Int) (styleKind_0 : Int) (styleOne_0 : Int) (tokenKind_0 : Int → Int) (tokenValue_0 : Int → Int) (tokenPlace_0 : Int → Int) (tokenEnd_0 : Int → Int) (tape_0 : Int → Int) (limit_0 : Int) (cur_0 : Int) (tokens_0 : Int) (opened_0 : Int) (fault_0 : Int) (gx : Int) (k1 : 0 ≤ x1 ∧ x1 ≤ 2009) (k2 : 0 ≤ x2 ∧ x2 ≤ 5) (k3 : 0 ≤ x3 ∧ x3 ≤ 13) (k6 : 0 ≤ x6 ∧ x6 ≤ 2009) (k7 : 0 ≤ x7 ∧ x7 ≤ 2010) (k17 : 1 ≤ x17 ∧ x17 ≤ 1) (k18 : 1 ≤ x18 ∧ x18 ≤ 2009) (k19 : 0 ≤ x19 ∧ x19 ≤ 2009) (k20 : 0 ≤ x20 ∧ x20 ≤ 5) (k21 : 0 ≤ x21 ∧ x21 ≤ 13) (d0 : x6 + 1 ≤ x18 ∧ x18 ≤ x6 + 1) (f0 : (styleKind_0 = 0) → (styleOne_0 ≤ 23)) (f1 : 1 * x1 + ((-1) * x19 + 0) ≤ 0) (f2 : (-1) * x7 + ((-1) * x19 + 0) ≤ (-2011)) (f3 : GPW (styleKind_0) (limit_0) (tokenKind_0) (tokenValue_0) (tokenPlace_0) (tokenEnd_0) (tape_0) (x19) (x20) (x1) (x2) (x3)) (f4 : 1 * x21 + 0 ≤ 0) (f5 : (-1) * x21 + 0 ≤ 0) (f6 : (styleKind_0 = 0) → (styleOne_0 ≤ 23)) (f7 : 1 * x3 + 0 ≤ 0) (f8 : (-1) * x3 + 0 ≤ 0) (f10 : ((cur_0 + 1) ≤ tokens_0) ∧ ((tokens_0 ≤ 2010) ∧ ((tokenKind_0 ((tokens_0 - 1)) = 0) ∨ (tokenKind_0 ((tokens_0 - 1)) = 4)))) (f11 : 1 * x19 + ((-1) * cur_0 + 0) ≤ 0) (f12 : 1 * opened_0 + 0 ≤ 0) (f13 : (-1) * opened_0 + 0 ≤ 0) (f14 : SVL (fault_0) (cur_0) (styleKind_0) (limit_0) (tokenKind_0) (tokenValue_0) (tokenPlace_0) (tokenEnd_0) (tape_0) (x19) (x20) (x21)) (f16 : 1 * x1 + ((-1) * x19 + 0) ≤ 0) (f17 : (-1) * x7 + ((-1) * x19 + 0) ≤ (-2011)) (f18 : 1 * x21 + 0 ≤ 0) (f19 : (-1) * x21 + 0 ≤ 0) (f20 : 1 * x3 + 0 ≤ 0) (f21 : (-1) * x3 + 0 ≤ 0) (f23 : x18 = x6 + x17) (f24 : 1 * x3 + 0 ≤ 0) (f25 : (-1) * x3 + 0 ≤ 0) (hK_0_1 : ∀ j : Int, 0 ≤ j → j < 2000 → (-128) ≤ tape_0 j ∧ tape_0 j ≤ 127) (hK_0_160 : ∀ j : Int, 0 ≤ j → j < 2010 → 0 ≤ tokenKind_0 j ∧ tokenKind_0 j ≤ 4) (hK_0_162 : ∀ j : Int, 0 ≤ j → j < 2010 → 0 ≤ tokenPlace_0 j ∧ tokenPlace_0 j ≤ 2000) (hK_0_163 : ∀ j : Int, 0 ≤ j → j < 2010 → 0 ≤ tokenEnd_0 j ∧ tokenEnd_0 j ≤ 2000) (kz_0_8 : 0 ≤ fault_0 ∧ fault_0 ≤ 5) (kz_0_10 : 0 ≤ limit_0 ∧ limit_0 ≤ 2000) (kz_0_157 : 0 ≤ tokens_0 ∧ tokens_0 ≤ 2010) (kz_0_158 : 0 ≤ cur_0 ∧ cur_0 ≤ 2009) (kz_0_159 : 0 ≤ opened_0 ∧ opened_0 ≤ 13) (kz_0_164 : 0 ≤ styleKind_0 ∧ styleKind_0 ≤ 1) (kz_0_165 : (-1) ≤ styleOne_0 ∧ styleOne_0 ≤ 47) (ex2 : gx = 0 + (1 * x7 + 0)) (ex3 : 0 ≤ gx ∧ gx ≤ 2010) : ((cur_0 + 1) ≤ tokens_0) ∧ ((tokens_0 ≤ 2010) ∧ ((tokenKind_0 ((tokens_0 - 1)) = 0) ∨ (tokenKind_0 ((tokens_0 - 1)) = 4))) := by
  first | assumption | (clear f0 f6 f10 hK_0_1 hK_0_160 hK_0_162 hK_0_163; omega) | (clear hK_0_1 hK_0_160 hK_0_162 hK_0_163; grind) | omega | grind
set_option maxHeartbeats 4000000 in
theorem vc_Mo_product_at_f0_12_1 (x1 : Int) (x2 : Int) (x3 : Int) (x6 : Int) (x7 : Int) (x17 : Int) (x18 : Int) (x19 : Int) (x20 : Int) (x21 : Int) (styleKind_0 : Int) (styleOne_0 : Int) (tokenKind_0 : Int → Int) (tokenValue_0 : Int → Int) (tokenPlace_0 : Int → Int) (tokenEnd_0 : Int → Int) (tape_0 : Int → Int) (limit_0 : Int) (cur_0 : Int) (tokens_0 : Int) (opened_0 : Int) (fault_0 : Int) (gx : Int) (k1 : 0 ≤ x1 ∧ x1 ≤ 2009) (k2 : 0 ≤ x2 ∧ x2 ≤ 5) (k3 : 0 ≤ x3 ∧ x3 ≤ 13) (k6 : 0 ≤ x6 ∧ x6 ≤ 2009) (k7 : 0 ≤ x7 ∧ x7 ≤ 2010) (k17 : 1 ≤ x17 ∧ x17 ≤ 1) (k18 : 1 ≤ x18 ∧ x18 ≤ 2009) (k19 : 0 ≤ x19 ∧ x19 ≤ 2009) (k20 : 0 ≤ x20 ∧ x20 ≤ 5) (k21 : 0 ≤ x21 ∧ x21 ≤ 13) (d0 : x6 + 1 ≤ x18 ∧ x18 ≤ x6 + 1) (f0 : (styleKind_0 = 0) → (styleOne_0 ≤ 23)) (f1 : 1 * x1 + ((-1) * x19 + 0) ≤ 0) (f2 : (-1) * x7 + ((-1) * x19 + 0) ≤ (-2011)) (f3 : GPW (styleKind_0) (limit_0) (tokenKind_0) (tokenValue_0) (tokenPlace_0) (tokenEnd_0) (tape_0) (x19) (x20) (x1) (x2) (x3)) (f4 : 1 * x21 + 0 ≤ 0) (f5 : (-1) * x21 + 0 ≤ 0) (f6 : (styleKind_0 = 0) → (styleOne_0 ≤ 23)) (f7 : 1 * x3 + 0 ≤ 0) (f8 : (-1) * x3 + 0 ≤ 0) (f10 : ((cur_0 + 1) ≤ tokens_0) ∧ ((tokens_0 ≤ 2010) ∧ ((tokenKind_0 ((tokens_0 - 1)) = 0) ∨ (tokenKind_0 ((tokens_0 - 1)) = 4)))) (f11 : 1 * x19 + ((-1) * cur_0 + 0) ≤ 0) (f12 : 1 * opened_0 + 0 ≤ 0) (f13 : (-1) * opened_0 + 0 ≤ 0) (f14 : SVL (fault_0) (cur_0) (styleKind_0) (limit_0) (tokenKind_0) (tokenValue_0) (tokenPlace_0) (tokenEnd_0) (tape_0) (x19) (x20) (x21)) (f16 : 1 * x1 + ((-1) * x19 + 0) ≤ 0) (f17 : (-1) * x7 + ((-1) * x19 + 0) ≤ (-2011)) (f18 : 1 * x21 + 0 ≤ 0) (f19 : (-1) * x21 + 0 ≤ 0) (f20 : 1 * x3 + 0 ≤ 0) (f21 : (-1) * x3 + 0 ≤ 0) (f23 : x18 = x6 + x17) (f24 : 1 * x3 + 0 ≤ 0) (f25 : (-1) * x3 + 0 ≤ 0) (hK_0_1 : ∀ j : Int, 0 ≤ j → j < 2000 → (-128) ≤ tape_0 j ∧ tape_0 j ≤ 127) (hK_0_160 : ∀ j : Int, 0 ≤ j → j < 2010 → 0 ≤ tokenKind_0 j ∧ tokenKind_0 j ≤ 4) (hK_0_162 : ∀ j : Int, 0 ≤ j → j < 2010 → 0 ≤ tokenPlace_0 j ∧ tokenPlace_0 j ≤ 2000) (hK_0_163 : ∀ j : Int, 0 ≤ j → j < 2010 → 0 ≤ tokenEnd_0 j ∧ tokenEnd_0 j ≤ 2000) (kz_0_8 : 0 ≤ fault_0 ∧ fault_0 ≤ 5) (kz_0_10 : 0 ≤ limit_0 ∧ limit_0 ≤ 2000) (kz_0_157 : 0 ≤ tokens_0 ∧ tokens_0 ≤ 2010) (kz_0_158 : 0 ≤ cur_0 ∧ cur_0 ≤ 2009) (kz_0_159 : 0 ≤ opened_0 ∧ opened_0 ≤ 13) (kz_0_164 : 0 ≤ styleKind_0 ∧ styleKind_0 ≤ 1) (kz_0_165 : (-1) ≤ styleOne_0 ∧ styleOne_0 ≤ 47) (ex2 : gx = 0 + (1 * x7 + 0)) (ex3 : 0 ≤ gx ∧ gx ≤ 2010) : 1 * x1 + ((-1) * cur_0 + 0) ≤ 0 := by
  first | assumption | (clear f0 f6 f10 hK_0_1 hK_0_160 hK_0_162 hK_0_163; omega) | (clear hK_0_1 hK_0_160 hK_0_162 hK_0_163; grind) | omega | grind
set_option maxHeartbeats 4000000 in
theorem vc_Mo_product_at_f0_12_2 (x1 : Int) (x2 : Int) (x3 : Int) (x6 : Int) (x7 : Int) (x17 : Int) (x18 : Int) (x19 : Int) (x20 : Int) (x21 : Int) (styleKind_0 : Int) (styleOne_0 : Int) (tokenKind_0 : Int → Int) (tokenValue_0 : Int → Int) (tokenPlace_0 : Int → Int) (tokenEnd_0 : Int → Int) (tape_0 : Int → Int) (limit_0 : Int) (cur_0 : Int) (tokens_0 : Int) (opened_0 : Int) (fault_0 : Int) (gx : Int) (k1 : 0 ≤ x1 ∧ x1 ≤ 2009) (k2 : 0 ≤ x2 ∧ x2 ≤ 5) (k3 : 0 ≤ x3 ∧ x3 ≤ 13) (k6 : 0 ≤ x6 ∧ x6 ≤ 2009) (k7 : 0 ≤ x7 ∧ x7 ≤ 2010) (k17 : 1 ≤ x17 ∧ x17 ≤ 1) (k18 : 1 ≤ x18 ∧ x18 ≤ 2009) (k19 : 0 ≤ x19 ∧ x19 ≤ 2009) (k20 : 0 ≤ x20 ∧ x20 ≤ 5) (k21 : 0 ≤ x21 ∧ x21 ≤ 13) (d0 : x6 + 1 ≤ x18 ∧ x18 ≤ x6 + 1) (f0 : (styleKind_0 = 0) → (styleOne_0 ≤ 23)) (f1 : 1 * x1 + ((-1) * x19 + 0) ≤ 0) (f2 : (-1) * x7 + ((-1) * x19 + 0) ≤ (-2011)) (f3 : GPW (styleKind_0) (limit_0) (tokenKind_0) (tokenValue_0) (tokenPlace_0) (tokenEnd_0) (tape_0) (x19) (x20) (x1) (x2) (x3)) (f4 : 1 * x21 + 0 ≤ 0) (f5 : (-1) * x21 + 0 ≤ 0) (f6 : (styleKind_0 = 0) → (styleOne_0 ≤ 23)) (f7 : 1 * x3 + 0 ≤ 0) (f8 : (-1) * x3 + 0 ≤ 0) (f10 : ((cur_0 + 1) ≤ tokens_0) ∧ ((tokens_0 ≤ 2010) ∧ ((tokenKind_0 ((tokens_0 - 1)) = 0) ∨ (tokenKind_0 ((tokens_0 - 1)) = 4)))) (f11 : 1 * x19 + ((-1) * cur_0 + 0) ≤ 0) (f12 : 1 * opened_0 + 0 ≤ 0) (f13 : (-1) * opened_0 + 0 ≤ 0) (f14 : SVL (fault_0) (cur_0) (styleKind_0) (limit_0) (tokenKind_0) (tokenValue_0) (tokenPlace_0) (tokenEnd_0) (tape_0) (x19) (x20) (x21)) (f16 : 1 * x1 + ((-1) * x19 + 0) ≤ 0) (f17 : (-1) * x7 + ((-1) * x19 + 0) ≤ (-2011)) (f18 : 1 * x21 + 0 ≤ 0) (f19 : (-1) * x21 + 0 ≤ 0) (f20 : 1 * x3 + 0 ≤ 0) (f21 : (-1) * x3 + 0 ≤ 0) (f23 : x18 = x6 + x17) (f24 : 1 * x3 + 0 ≤ 0) (f25 : (-1) * x3 + 0 ≤ 0) (hK_0_1 : ∀ j : Int, 0 ≤ j → j < 2000 → (-128) ≤ tape_0 j ∧ tape_0 j ≤ 127) (hK_0_160 : ∀ j : Int, 0 ≤ j → j < 2010 → 0 ≤ tokenKind_0 j ∧ tokenKind_0 j ≤ 4) (hK_0_162 : ∀ j : Int, 0 ≤ j → j < 2010 → 0 ≤ tokenPlace_0 j ∧ tokenPlace_0 j ≤ 2000) (hK_0_163 : ∀ j : Int, 0 ≤ j → j < 2010 → 0 ≤ tokenEnd_0 j ∧ tokenEnd_0 j ≤ 2000) (kz_0_8 : 0 ≤ fault_0 ∧ fault_0 ≤ 5) (kz_0_10 : 0 ≤ limit_0 ∧ limit_0 ≤ 2000) (kz_0_157 : 0 ≤ tokens_0 ∧ tokens_0 ≤ 2010) (kz_0_158 : 0 ≤ cur_0 ∧ cur_0 ≤ 2009) (kz_0_159 : 0 ≤ opened_0 ∧ opened_0 ≤ 13) (kz_0_164 : 0 ≤ styleKind_0 ∧ styleKind_0 ≤ 1) (kz_0_165 : (-1) ≤ styleOne_0 ∧ styleOne_0 ≤ 47) (ex2 : gx = 0 + (1 * x7 + 0)) (ex3 : 0 ≤ gx ∧ gx ≤ 2010) : (styleKind_0 = 0) → (styleOne_0 ≤ 23) := by
  first | assumption | (clear f0 f6 f10 hK_0_1 hK_0_160 hK_0_162 hK_0_163; omega) | (clear hK_0_1 hK_0_160 hK_0_162 hK_0_163; grind) | omega | grind
set_option maxHeartbeats 4000000 in
theorem vc_Mo_product_at_f0_12_3 (x1 : Int) (x2 : Int) (x3 : Int) (x6 : Int) (x7 : Int) (x17 : Int) (x18 : Int) (x19 : Int) (x20 : Int) (x21 : Int) (styleKind_0 : Int) (styleOne_0 : Int) (tokenKind_0 : Int → Int) (tokenValue_0 : Int → Int) (tokenPlace_0 : Int → Int) (tokenEnd_0 : Int → Int) (tape_0 : Int → Int) (limit_0 : Int) (cur_0 : Int) (tokens_0 : Int) (opened_0 : Int) (fault_0 : Int) (gx : Int) (k1 : 0 ≤ x1 ∧ x1 ≤ 2009) (k2 : 0 ≤ x2 ∧ x2 ≤ 5) (k3 : 0 ≤ x3 ∧ x3 ≤ 13) (k6 : 0 ≤ x6 ∧ x6 ≤ 2009) (k7 : 0 ≤ x7 ∧ x7 ≤ 2010) (k17 : 1 ≤ x17 ∧ x17 ≤ 1) (k18 : 1 ≤ x18 ∧ x18 ≤ 2009) (k19 : 0 ≤ x19 ∧ x19 ≤ 2009) (k20 : 0 ≤ x20 ∧ x20 ≤ 5) (k21 : 0 ≤ x21 ∧ x21 ≤ 13) (d0 : x6 + 1 ≤ x18 ∧ x18 ≤ x6 + 1) (f0 : (styleKind_0 = 0) → (styleOne_0 ≤ 23)) (f1 : 1 * x1 + ((-1) * x19 + 0) ≤ 0) (f2 : (-1) * x7 + ((-1) * x19 + 0) ≤ (-2011)) (f3 : GPW (styleKind_0) (limit_0) (tokenKind_0) (tokenValue_0) (tokenPlace_0) (tokenEnd_0) (tape_0) (x19) (x20) (x1) (x2) (x3)) (f4 : 1 * x21 + 0 ≤ 0) (f5 : (-1) * x21 + 0 ≤ 0) (f6 : (styleKind_0 = 0) → (styleOne_0 ≤ 23)) (f7 : 1 * x3 + 0 ≤ 0) (f8 : (-1) * x3 + 0 ≤ 0) (f10 : ((cur_0 + 1) ≤ tokens_0) ∧ ((tokens_0 ≤ 2010) ∧ ((tokenKind_0 ((tokens_0 - 1)) = 0) ∨ (tokenKind_0 ((tokens_0 - 1)) = 4)))) (f11 : 1 * x19 + ((-1) * cur_0 + 0) ≤ 0) (f12 : 1 * opened_0 + 0 ≤ 0) (f13 : (-1) * opened_0 + 0 ≤ 0) (f14 : SVL (fault_0) (cur_0) (styleKind_0) (limit_0) (tokenKind_0) (tokenValue_0) (tokenPlace_0) (tokenEnd_0) (tape_0) (x19) (x20) (x21)) (f16 : 1 * x1 + ((-1) * x19 + 0) ≤ 0) (f17 : (-1) * x7 + ((-1) * x19 + 0) ≤ (-2011)) (f18 : 1 * x21 + 0 ≤ 0) (f19 : (-1) * x21 + 0 ≤ 0) (f20 : 1 * x3 + 0 ≤ 0) (f21 : (-1) * x3 + 0 ≤ 0) (f23 : x18 = x6 + x17) (f24 : 1 * x3 + 0 ≤ 0) (f25 : (-1) * x3 + 0 ≤ 0) (hK_0_1 : ∀ j : Int, 0 ≤ j → j < 2000 → (-128) ≤ tape_0 j ∧ tape_0 j ≤ 127) (hK_0_160 : ∀ j : Int, 0 ≤ j → j < 2010 → 0 ≤ tokenKind_0 j ∧ tokenKind_0 j ≤ 4) (hK_0_162 : ∀ j : Int, 0 ≤ j → j < 2010 → 0 ≤ tokenPlace_0 j ∧ tokenPlace_0 j ≤ 2000) (hK_0_163 : ∀ j : Int, 0 ≤ j → j < 2010 → 0 ≤ tokenEnd_0 j ∧ tokenEnd_0 j ≤ 2000) (kz_0_8 : 0 ≤ fault_0 ∧ fault_0 ≤ 5) (kz_0_10 : 0 ≤ limit_0 ∧ limit_0 ≤ 2000) (kz_0_157 : 0 ≤ tokens_0 ∧ tokens_0 ≤ 2010) (kz_0_158 : 0 ≤ cur_0 ∧ cur_0 ≤ 2009) (kz_0_159 : 0 ≤ opened_0 ∧ opened_0 ≤ 13) (kz_0_164 : 0 ≤ styleKind_0 ∧ styleKind_0 ≤ 1) (kz_0_165 : (-1) ≤ styleOne_0 ∧ styleOne_0 ≤ 47) (ex2 : gx = 0 + (1 * x7 + 0)) (ex3 : 0 ≤ gx ∧ gx ≤ 2010) : 1 * opened_0 + 0 ≤ 0 := by
  first | assumption | (clear f0 f6 f10 hK_0_1 hK_0_160 hK_0_162 hK_0_163; omega) | (clear hK_0_1 hK_0_160 hK_0_162 hK_0_163; grind) | omega | grind
set_option maxHeartbeats 4000000 in
theorem vc_Mo_product_at_f0_12_4 (x1 : Int) (x2 : Int) (x3 : Int) (x6 : Int) (x7 : Int) (x17 : Int) (x18 : Int) (x19 : Int) (x20 : Int) (x21 : Int) (styleKind_0 : Int) (styleOne_0 : Int) (tokenKind_0 : Int → Int) (tokenValue_0 : Int → Int) (tokenPlace_0 : Int → Int) (tokenEnd_0 : Int → Int) (tape_0 : Int → Int) (limit_0 : Int) (cur_0 : Int) (tokens_0 : Int) (opened_0 : Int) (fault_0 : Int) (gx : Int) (k1 : 0 ≤ x1 ∧ x1 ≤ 2009) (k2 : 0 ≤ x2 ∧ x2 ≤ 5) (k3 : 0 ≤ x3 ∧ x3 ≤ 13) (k6 : 0 ≤ x6 ∧ x6 ≤ 2009) (k7 : 0 ≤ x7 ∧ x7 ≤ 2010) (k17 : 1 ≤ x17 ∧ x17 ≤ 1) (k18 : 1 ≤ x18 ∧ x18 ≤ 2009) (k19 : 0 ≤ x19 ∧ x19 ≤ 2009) (k20 : 0 ≤ x20 ∧ x20 ≤ 5) (k21 : 0 ≤ x21 ∧ x21 ≤ 13) (d0 : x6 + 1 ≤ x18 ∧ x18 ≤ x6 + 1) (f0 : (styleKind_0 = 0) → (styleOne_0 ≤ 23)) (f1 : 1 * x1 + ((-1) * x19 + 0) ≤ 0) (f2 : (-1) * x7 + ((-1) * x19 + 0) ≤ (-2011)) (f3 : GPW (styleKind_0) (limit_0) (tokenKind_0) (tokenValue_0) (tokenPlace_0) (tokenEnd_0) (tape_0) (x19) (x20) (x1) (x2) (x3)) (f4 : 1 * x21 + 0 ≤ 0) (f5 : (-1) * x21 + 0 ≤ 0) (f6 : (styleKind_0 = 0) → (styleOne_0 ≤ 23)) (f7 : 1 * x3 + 0 ≤ 0) (f8 : (-1) * x3 + 0 ≤ 0) (f10 : ((cur_0 + 1) ≤ tokens_0) ∧ ((tokens_0 ≤ 2010) ∧ ((tokenKind_0 ((tokens_0 - 1)) = 0) ∨ (tokenKind_0 ((tokens_0 - 1)) = 4)))) (f11 : 1 * x19 + ((-1) * cur_0 + 0) ≤ 0) (f12 : 1 * opened_0 + 0 ≤ 0) (f13 : (-1) * opened_0 + 0 ≤ 0) (f14 : SVL (fault_0) (cur_0) (styleKind_0) (limit_0) (tokenKind_0) (tokenValue_0) (tokenPlace_0) (tokenEnd_0) (tape_0) (x19) (x20) (x21)) (f16 : 1 * x1 + ((-1) * x19 + 0) ≤ 0) (f17 : (-1) * x7 + ((-1) * x19 + 0) ≤ (-2011)) (f18 : 1 * x21 + 0 ≤ 0) (f19 : (-1) * x21 + 0 ≤ 0) (f20 : 1 * x3 + 0 ≤ 0) (f21 : (-1) * x3 + 0 ≤ 0) (f23 : x18 = x6 + x17) (f24 : 1 * x3 + 0 ≤ 0) (f25 : (-1) * x3 + 0 ≤ 0) (hK_0_1 : ∀ j : Int, 0 ≤ j → j < 2000 → (-128) ≤ tape_0 j ∧ tape_0 j ≤ 127) (hK_0_160 : ∀ j : Int, 0 ≤ j → j < 2010 → 0 ≤ tokenKind_0 j ∧ tokenKind_0 j ≤ 4) (hK_0_162 : ∀ j : Int, 0 ≤ j → j < 2010 → 0 ≤ tokenPlace_0 j ∧ tokenPlace_0 j ≤ 2000) (hK_0_163 : ∀ j : Int, 0 ≤ j → j < 2010 → 0 ≤ tokenEnd_0 j ∧ tokenEnd_0 j ≤ 2000) (kz_0_8 : 0 ≤ fault_0 ∧ fault_0 ≤ 5) (kz_0_10 : 0 ≤ limit_0 ∧ limit_0 ≤ 2000) (kz_0_157 : 0 ≤ tokens_0 ∧ tokens_0 ≤ 2010) (kz_0_158 : 0 ≤ cur_0 ∧ cur_0 ≤ 2009) (kz_0_159 : 0 ≤ opened_0 ∧ opened_0 ≤ 13) (kz_0_164 : 0 ≤ styleKind_0 ∧ styleKind_0 ≤ 1) (kz_0_165 : (-1) ≤ styleOne_0 ∧ styleOne_0 ≤ 47) (ex2 : gx = 0 + (1 * x7 + 0)) (ex3 : 0 ≤ gx ∧ gx ≤ 2010) : (-1) * opened_0 + 0 ≤ 0 := by
  first | assumption | (clear f0 f6 f10 hK_0_1 hK_0_160 hK_0_162 hK_0_163; omega) | (clear hK_0_1 hK_0_160 hK_0_162 hK_0_163; grind) | omega | grind
set_option maxHeartbeats 4000000 in
theorem vc_Mo_product_at_f0_12_5 (x1 : Int) (x2 : Int) (x3 : Int) (x6 : Int) (x7 : Int) (x17 : Int) (x18 : Int) (x19 : Int) (x20 : Int) (x21 : Int) (styleKind_0 : Int) (styleOne_0 : Int) (tokenKind_0 : Int → Int) (tokenValue_0 : Int → Int) (tokenPlace_0 : Int → Int) (tokenEnd_0 : Int → Int) (tape_0 : Int → Int) (limit_0 : Int) (cur_0 : Int) (tokens_0 : Int) (opened_0 : Int) (fault_0 : Int) (gx : Int) (k1 : 0 ≤ x1 ∧ x1 ≤ 2009) (k2 : 0 ≤ x2 ∧ x2 ≤ 5) (k3 : 0 ≤ x3 ∧ x3 ≤ 13) (k6 : 0 ≤ x6 ∧ x6 ≤ 2009) (k7 : 0 ≤ x7 ∧ x7 ≤ 2010) (k17 : 1 ≤ x17 ∧ x17 ≤ 1) (k18 : 1 ≤ x18 ∧ x18 ≤ 2009) (k19 : 0 ≤ x19 ∧ x19 ≤ 2009) (k20 : 0 ≤ x20 ∧ x20 ≤ 5) (k21 : 0 ≤ x21 ∧ x21 ≤ 13) (d0 : x6 + 1 ≤ x18 ∧ x18 ≤ x6 + 1) (f0 : (styleKind_0 = 0) → (styleOne_0 ≤ 23)) (f1 : 1 * x1 + ((-1) * x19 + 0) ≤ 0) (f2 : (-1) * x7 + ((-1) * x19 + 0) ≤ (-2011)) (f3 : GPW (styleKind_0) (limit_0) (tokenKind_0) (tokenValue_0) (tokenPlace_0) (tokenEnd_0) (tape_0) (x19) (x20) (x1) (x2) (x3)) (f4 : 1 * x21 + 0 ≤ 0) (f5 : (-1) * x21 + 0 ≤ 0) (f6 : (styleKind_0 = 0) → (styleOne_0 ≤ 23)) (f7 : 1 * x3 + 0 ≤ 0) (f8 : (-1) * x3 + 0 ≤ 0) (f10 : ((cur_0 + 1) ≤ tokens_0) ∧ ((tokens_0 ≤ 2010) ∧ ((tokenKind_0 ((tokens_0 - 1)) = 0) ∨ (tokenKind_0 ((tokens_0 - 1)) = 4)))) (f11 : 1 * x19 + ((-1) * cur_0 + 0) ≤ 0) (f12 : 1 * opened_0 + 0 ≤ 0) (f13 : (-1) * opened_0 + 0 ≤ 0) (f14 : SVL (fault_0) (cur_0) (styleKind_0) (limit_0) (tokenKind_0) (tokenValue_0) (tokenPlace_0) (tokenEnd_0) (tape_0) (x19) (x20) (x21)) (f16 : 1 * x1 + ((-1) * x19 + 0) ≤ 0) (f17 : (-1) * x7 + ((-1) * x19 + 0) ≤ (-2011)) (f18 : 1 * x21 + 0 ≤ 0) (f19 : (-1) * x21 + 0 ≤ 0) (f20 : 1 * x3 + 0 ≤ 0) (f21 : (-1) * x3 + 0 ≤ 0) (f23 : x18 = x6 + x17) (f24 : 1 * x3 + 0 ≤ 0) (f25 : (-1) * x3 + 0 ≤ 0) (hK_0_1 : ∀ j : Int, 0 ≤ j → j < 2000 → (-128) ≤ tape_0 j ∧ tape_0 j ≤ 127) (hK_0_160 : ∀ j : Int, 0 ≤ j → j < 2010 → 0 ≤ tokenKind_0 j ∧ tokenKind_0 j ≤ 4) (hK_0_162 : ∀ j : Int, 0 ≤ j → j < 2010 → 0 ≤ tokenPlace_0 j ∧ tokenPlace_0 j ≤ 2000) (hK_0_163 : ∀ j : Int, 0 ≤ j → j < 2010 → 0 ≤ tokenEnd_0 j ∧ tokenEnd_0 j ≤ 2000) (kz_0_8 : 0 ≤ fault_0 ∧ fault_0 ≤ 5) (kz_0_10 : 0 ≤ limit_0 ∧ limit_0 ≤ 2000) (kz_0_157 : 0 ≤ tokens_0 ∧ tokens_0 ≤ 2010) (kz_0_158 : 0 ≤ cur_0 ∧ cur_0 ≤ 2009) (kz_0_159 : 0 ≤ opened_0 ∧ opened_0 ≤ 13) (kz_0_164 : 0 ≤ styleKind_0 ∧ styleKind_0 ≤ 1) (kz_0_165 : (-1) ≤ styleOne_0 ∧ styleOne_0 ≤ 47) (ex2 : gx = 0 + (1 * x7 + 0)) (ex3 : 0 ≤ gx ∧ gx ≤ 2010) : (-1) * gx + ((-1) * cur_0 + 0) ≤ (-2011) := by
  first | assumption | (clear f0 f6 f10 hK_0_1 hK_0_160 hK_0_162 hK_0_163; omega) | (clear hK_0_1 hK_0_160 hK_0_162 hK_0_163; grind) | omega | grind
set_option maxHeartbeats 4000000 in
theorem vc_Mo_product_at_f0_12_6 (x1 : Int) (x2 : Int) (x3 : Int) (x19 : Int) (x20 : Int) (x21 : Int) (styleKind_0 : Int) (tokenKind_0 : Int → Int) (tokenValue_0 : Int → Int) (tokenPlace_0 : Int → Int) (tokenEnd_0 : Int → Int) (tape_0 : Int → Int) (limit_0 : Int) (cur_0 : Int) (fault_0 : Int) (k1 : 0 ≤ x1 ∧ x1 ≤ 2009) (k2 : 0 ≤ x2 ∧ x2 ≤ 5) (k3 : 0 ≤ x3 ∧ x3 ≤ 13) (k19 : 0 ≤ x19 ∧ x19 ≤ 2009) (k20 : 0 ≤ x20 ∧ x20 ≤ 5) (k21 : 0 ≤ x21 ∧ x21 ≤ 13) (f3 : GPW (styleKind_0) (limit_0) (tokenKind_0) (tokenValue_0) (tokenPlace_0) (tokenEnd_0) (tape_0) (x19) (x20) (x1) (x2) (x3)) (f4 : 1 * x21 + 0 ≤ 0) (f7 : 1 * x3 + 0 ≤ 0) (f11 : 1 * x19 + ((-1) * cur_0 + 0) ≤ 0) (f14 : SVL (fault_0) (cur_0) (styleKind_0) (limit_0) (tokenKind_0) (tokenValue_0) (tokenPlace_0) (tokenEnd_0) (tape_0) (x19) (x20) (x21)) (kz_0_8 : 0 ≤ fault_0 ∧ fault_0 ≤ 5) (kz_0_10 : 0 ≤ limit_0 ∧ limit_0 ≤ 2000) (kz_0_158 : 0 ≤ cur_0 ∧ cur_0 ≤ 2009) (kz_0_164 : 0 ≤ styleKind_0 ∧ styleKind_0 ≤ 1) : SPWv (fault_0) (cur_0) (styleKind_0) (limit_0) (tokenKind_0) (tokenValue_0) (tokenPlace_0) (tokenEnd_0) (tape_0) (x1) (x2) (x3) := by
  first
    | exact spw_start (‹SVL _ _ _ _ _ _ _ _ _ _ _ _›) (by omega) (by omega) (by omega) (by omega)
    | exact spw_go (‹GPW _ _ _ _ _ _ _ _ _ _ _ _›) (‹SVL _ _ _ _ _ _ _ _ _ _ _ _›) (by omega) (by omega) (by omega)
    | assumption
  
set_option maxHeartbeats 4000000 in
theorem vc_Mo_product_at_f0_12_7 (x1 : Int) (x2 : Int) (x3 : Int) (x6 : Int) (x7 : Int) (x17 : Int) (x18 : Int) (x19 : Int) (x20 : Int) (x21 : Int) (styleKind_0 : Int) (styleOne_0 : Int) (tokenKind_0 : Int → Int) (tokenValue_0 : Int → Int) (tokenPlace_0 : Int → Int) (tokenEnd_0 : Int → Int) (tape_0 : Int → Int) (limit_0 : Int) (cur_0 : Int) (tokens_0 : Int) (opened_0 : Int) (fault_0 : Int) (gx : Int) (k1 : 0 ≤ x1 ∧ x1 ≤ 2009) (k2 : 0 ≤ x2 ∧ x2 ≤ 5) (k3 : 0 ≤ x3 ∧ x3 ≤ 13) (k6 : 0 ≤ x6 ∧ x6 ≤ 2009) (k7 : 0 ≤ x7 ∧ x7 ≤ 2010) (k17 : 1 ≤ x17 ∧ x17 ≤ 1) (k18 : 1 ≤ x18 ∧ x18 ≤ 2009) (k19 : 0 ≤ x19 ∧ x19 ≤ 2009) (k20 : 0 ≤ x20 ∧ x20 ≤ 5) (k21 : 0 ≤ x21 ∧ x21 ≤ 13) (d0 : x6 + 1 ≤ x18 ∧ x18 ≤ x6 + 1) (f0 : (styleKind_0 = 0) → (styleOne_0 ≤ 23)) (f1 : 1 * x1 + ((-1) * x19 + 0) ≤ 0) (f2 : (-1) * x7 + ((-1) * x19 + 0) ≤ (-2011)) (f3 : GPW (styleKind_0) (limit_0) (tokenKind_0) (tokenValue_0) (tokenPlace_0) (tokenEnd_0) (tape_0) (x19) (x20) (x1) (x2) (x3)) (f4 : 1 * x21 + 0 ≤ 0) (f5 : (-1) * x21 + 0 ≤ 0) (f6 : (styleKind_0 = 0) → (styleOne_0 ≤ 23)) (f7 : 1 * x3 + 0 ≤ 0) (f8 : (-1) * x3 + 0 ≤ 0) (f10 : ((cur_0 + 1) ≤ tokens_0) ∧ ((tokens_0 ≤ 2010) ∧ ((tokenKind_0 ((tokens_0 - 1)) = 0) ∨ (tokenKind_0 ((tokens_0 - 1)) = 4)))) (f11 : 1 * x19 + ((-1) * cur_0 + 0) ≤ 0) (f12 : 1 * opened_0 + 0 ≤ 0) (f13 : (-1) * opened_0 + 0 ≤ 0) (f14 : SVL (fault_0) (cur_0) (styleKind_0) (limit_0) (tokenKind_0) (tokenValue_0) (tokenPlace_0) (tokenEnd_0) (tape_0) (x19) (x20) (x21)) (f16 : 1 * x1 + ((-1) * x19 + 0) ≤ 0) (f17 : (-1) * x7 + ((-1) * x19 + 0) ≤ (-2011)) (f18 : 1 * x21 + 0 ≤ 0) (f19 : (-1) * x21 + 0 ≤ 0) (f20 : 1 * x3 + 0 ≤ 0) (f21 : (-1) * x3 + 0 ≤ 0) (f23 : x18 = x6 + x17) (f24 : 1 * x3 + 0 ≤ 0) (f25 : (-1) * x3 + 0 ≤ 0) (hK_0_1 : ∀ j : Int, 0 ≤ j → j < 2000 → (-128) ≤ tape_0 j ∧ tape_0 j ≤ 127) (hK_0_160 : ∀ j : Int, 0 ≤ j → j < 2010 → 0 ≤ tokenKind_0 j ∧ tokenKind_0 j ≤ 4) (hK_0_162 : ∀ j : Int, 0 ≤ j → j < 2010 → 0 ≤ tokenPlace_0 j ∧ tokenPlace_0 j ≤ 2000) (hK_0_163 : ∀ j : Int, 0 ≤ j → j < 2010 → 0 ≤ tokenEnd_0 j ∧ tokenEnd_0 j ≤ 2000) (kz_0_8 : 0 ≤ fault_0 ∧ fault_0 ≤ 5) (kz_0_10 : 0 ≤ limit_0 ∧ limit_0 ≤ 2000) (kz_0_157 : 0 ≤ tokens_0 ∧ tokens_0 ≤ 2010) (kz_0_158 : 0 ≤ cur_0 ∧ cur_0 ≤ 2009) (kz_0_159 : 0 ≤ opened_0 ∧ opened_0 ≤ 13) (kz_0_164 : 0 ≤ styleKind_0 ∧ styleKind_0 ≤ 1) (kz_0_165 : (-1) ≤ styleOne_0 ∧ styleOne_0 ≤ 47) (ex2 : gx = 0 + (1 * x7 + 0)) (ex3 : 0 ≤ gx ∧ gx ≤ 2010) : 1 * x3 + 0 ≤ 0 := by
  first | assumption | (clear f0 f6 f10 hK_0_1 hK_0_160 hK_0_162 hK_0_163; omega) | (clear hK_0_1 hK_0_160 hK_0_162 hK_0_163; grind) | omega | grind
set_option maxHeartbeats 4000000 in
theorem vc_Mo_product_at_f0_12_8 (x1 : Int) (x2 : Int) (x3 : Int) (x6 : Int) (x7 : Int) (x17 : Int) (x18 : Int) (x19 : Int) (x20 : Int) (x21 : Int) (styleKind_0 : Int) (styleOne_0 : Int) (tokenKind_0 : Int → Int) (tokenValue_0 : Int → Int) (tokenPlace_0 : Int → Int) (tokenEnd_0 : Int → Int) (tape_0 : Int → Int) (limit_0 : Int) (cur_0 : Int) (tokens_0 : Int) (opened_0 : Int) (fault_0 : Int) (gx : Int) (k1 : 0 ≤ x1 ∧ x1 ≤ 2009) (k2 : 0 ≤ x2 ∧ x2 ≤ 5) (k3 : 0 ≤ x3 ∧ x3 ≤ 13) (k6 : 0 ≤ x6 ∧ x6 ≤ 2009) (k7 : 0 ≤ x7 ∧ x7 ≤ 2010) (k17 : 1 ≤ x17 ∧ x17 ≤ 1) (k18 : 1 ≤ x18 ∧ x18 ≤ 2009) (k19 : 0 ≤ x19 ∧ x19 ≤ 2009) (k20 : 0 ≤ x20 ∧ x20 ≤ 5) (k21 : 0 ≤ x21 ∧ x21 ≤ 13) (d0 : x6 + 1 ≤ x18 ∧ x18 ≤ x6 + 1) (f0 : (styleKind_0 = 0) → (styleOne_0 ≤ 23)) (f1 : 1 * x1 + ((-1) * x19 + 0) ≤ 0) (f2 : (-1) * x7 + ((-1) * x19 + 0) ≤ (-2011)) (f3 : GPW (styleKind_0) (limit_0) (tokenKind_0) (tokenValue_0) (tokenPlace_0) (tokenEnd_0) (tape_0) (x19) (x20) (x1) (x2) (x3)) (f4 : 1 * x21 + 0 ≤ 0) (f5 : (-1) * x21 + 0 ≤ 0) (f6 : (styleKind_0 = 0) → (styleOne_0 ≤ 23)) (f7 : 1 * x3 + 0 ≤ 0) (f8 : (-1) * x3 + 0 ≤ 0) (f10 : ((cur_0 + 1) ≤ tokens_0) ∧ ((tokens_0 ≤ 2010) ∧ ((tokenKind_0 ((tokens_0 - 1)) = 0) ∨ (tokenKind_0 ((tokens_0 - 1)) = 4)))) (f11 : 1 * x19 + ((-1) * cur_0 + 0) ≤ 0) (f12 : 1 * opened_0 + 0 ≤ 0) (f13 : (-1) * opened_0 + 0 ≤ 0) (f14 : SVL (fault_0) (cur_0) (styleKind_0) (limit_0) (tokenKind_0) (tokenValue_0) (tokenPlace_0) (tokenEnd_0) (tape_0) (x19) (x20) (x21)) (f16 : 1 * x1 + ((-1) * x19 + 0) ≤ 0) (f17 : (-1) * x7 + ((-1) * x19 + 0) ≤ (-2011)) (f18 : 1 * x21 + 0 ≤ 0) (f19 : (-1) * x21 + 0 ≤ 0) (f20 : 1 * x3 + 0 ≤ 0) (f21 : (-1) * x3 + 0 ≤ 0) (f23 : x18 = x6 + x17) (f24 : 1 * x3 + 0 ≤ 0) (f25 : (-1) * x3 + 0 ≤ 0) (hK_0_1 : ∀ j : Int, 0 ≤ j → j < 2000 → (-128) ≤ tape_0 j ∧ tape_0 j ≤ 127) (hK_0_160 : ∀ j : Int, 0 ≤ j → j < 2010 → 0 ≤ tokenKind_0 j ∧ tokenKind_0 j ≤ 4) (hK_0_162 : ∀ j : Int, 0 ≤ j → j < 2010 → 0 ≤ tokenPlace_0 j ∧ tokenPlace_0 j ≤ 2000) (hK_0_163 : ∀ j : Int, 0 ≤ j → j < 2010 → 0 ≤ tokenEnd_0 j ∧ tokenEnd_0 j ≤ 2000) (kz_0_8 : 0 ≤ fault_0 ∧ fault_0 ≤ 5) (kz_0_10 : 0 ≤ limit_0 ∧ limit_0 ≤ 2000) (kz_0_157 : 0 ≤ tokens_0 ∧ tokens_0 ≤ 2010) (kz_0_158 : 0 ≤ cur_0 ∧ cur_0 ≤ 2009) (kz_0_159 : 0 ≤ opened_0 ∧ opened_0 ≤ 13) (kz_0_164 : 0 ≤ styleKind_0 ∧ styleKind_0 ≤ 1) (kz_0_165 : (-1) ≤ styleOne_0 ∧ styleOne_0 ≤ 47) (ex2 : gx = 0 + (1 * x7 + 0)) (ex3 : 0 ≤ gx ∧ gx ≤ 2010) : (-1) * x3 + 0 ≤ 0 := by
  first | assumption | (clear f0 f6 f10 hK_0_1 hK_0_160 hK_0_162 hK_0_163; omega) | (clear hK_0_1 hK_0_160 hK_0_162 hK_0_163; grind) | omega | grind
def o_Mo_product_at_f0_12 : or_T := (74, 24, [(0, (2, 0, 0, [165])), (1, (0, 0, 2009, [])), (2, (0, 0, 5, [])), (3, (0, 0, 13, [])), (4, (2, 0, 0, [165])), (6, (0, 0, 2009, [])), (7, (0, 0, 2010, [])), (17, (0, 1, 1, [])), (18, (0, 1, 2009, [])), (19, (0, 0, 2009, [])), (20, (0, 0, 5, [])), (21, (0, 0, 13, []))], [(20, [4], [50, 2, 0, 164, 165, 4, 7, 1, 3, 2, 0, 164, 0, 0, 0, 3, 2, 0, 165, 0, 23]), (23, [1, 19], [0, 1, -1]), (23, [7, 19], [-2011, -1, -1]), (20, [4, 19, 20, 1, 2, 3], [60, 2, 5, 10, 164, 10, 160, 161, 162, 163, 1]), (23, [21], [0, 1]), (23, [21], [0, -1]), (20, [4], [50, 2, 0, 164, 165, 4, 7, 1, 3, 2, 0, 164, 0, 0, 0, 3, 2, 0, 165, 0, 23]), (23, [3], [0, 1]), (23, [3], [0, -1]), (24, [0, 4], []), (20, [4], [50, 2, 1, 158, 157, 160, 2, 12, 0, 7, 4, 3, 2, 0, 158, 0, 1, 2, 0, 157, 2, 7, 0, 3, 2, 0, 157, 0, 2010, 3, 14, 1, 10, 3, 0, 160, 5, 3, 2, 0, 157, 0, 1, 0, 0, 1, 10, 3, 0, 160, 5, 3, 2, 0, 157, 0, 1, 0, 4]), (20, [19, 4], [30, 0, 1, 0, 0, -1, 1, 158]), (20, [4], [30, 0, 1, 1, 159]), (20, [4], [30, 0, -1, 1, 159]), (20, [4, 19, 20, 21], [60, 4, 5, 0, 8, 158, 164, 10, 160, 161, 162, 163, 1]), (102, [21], [0, 165008, 165009, 165158, 165159]), (23, [1, 19], [0, 1, -1]), (23, [7, 19], [-2011, -1, -1]), (23, [21], [0, 1]), (23, [21], [0, -1]), (23, [3], [0, 1]), (23, [3], [0, -1]), (101, [4, 18], [158]), (1, [18, 6, 17], []), (23, [3], [0, 1]), (23, [3], [0, -1])], [], [(0, 0, 2010, [])], [(20, [4], [50, 2, 1, 158, 157, 160, 2, 12, 0, 7, 4, 3, 2, 0, 158, 0, 1, 2, 0, 157, 2, 7, 0, 3, 2, 0, 157, 0, 2010, 3, 14, 1, 10, 3, 0, 160, 5, 3, 2, 0, 157, 0, 1, 0, 0, 1, 10, 3, 0, 160, 5, 3, 2, 0, 157, 0, 1, 0, 4]), (20, [1, 4], [30, 0, 1, 0, 0, -1, 1, 158]), (20, [4], [50, 2, 0, 164, 165, 4, 7, 1, 3, 2, 0, 164, 0, 0, 0, 3, 2, 0, 165, 0, 23]), (20, [4], [30, 0, 1, 1, 159]), (20, [4], [30, 0, -1, 1, 159]), (20, [24, 4], [30, -2011, -1, 0, 0, -1, 1, 158]), (20, [4, 1, 2, 3], [60, 4, 5, 6, 8, 158, 164, 10, 160, 161, 162, 163, 1]), (23, [3], [0, 1]), (23, [3], [0, -1]), (24, [0, 4], [])], [(24, 7, 0, 0)], [(18, 6, 1, 1)])
theorem oo_Mo_product_at_f0_12 {kA : Nat → ClassId} : or_ok PRD kA GG o_Mo_product_at_f0_12 := by
  refine or_mk fun A ta ws vs hD hth hl => ?_
  intro t0 r0 t1 k1 t2 k2 t3 k3 t4 r4 t6 k6 t7 k7 t17 k17 t18 k18 t19 k19 t20 k20 t21 k21 d0 f0 f1 f2 f3 f4 f5 f6 f7 f8 f9 f10 f11 f12 f13 f14 ta1 w1 le1 s1 f16 f17 f18 f19 f20 f21 ta2 w2 le2 s2 f23 f24 f25
  replace f0 := shm_299 f0
  replace f1 := shm_7 f1
  replace f2 := shm_315 f2
  replace f3 := shm_344 f3
  replace f4 := shm_1477 f4
  replace f5 := shm_1013 f5
  replace f6 := shm_299 f6
  replace f7 := shm_1477 f7
  replace f8 := shm_1013 f8
  replace f9 := shm_5 f9
  replace f10 := shm_296 f10
  replace f11 := shm_306 f11
  replace f12 := shm_999 f12
  replace f13 := shm_1000 f13
  replace f14 := shm_341 f14
  replace f16 := shm_7 f16
  replace f17 := shm_315 f17
  replace f18 := shm_1477 f18
  replace f19 := shm_1013 f19
  replace f20 := shm_1477 f20
  replace f21 := shm_1013 f21
  have s2 : (∀ b j, w_el w1 b j = w_el w2 b j) ∧ ∀ b j, w_fd w1 b j = if b = v_ad (n_v vs 4) ∧ j = 158 then n_v vs 18 else w_fd w2 b j := s2.2
  replace f23 := shm_12 f23
  replace f24 := shm_1477 f24
  replace f25 := shm_1013 f25
  have q4 : n_v vs 4 = n_v vs 0 := f9.symm
  simp only [q4] at f0 f3 f6 f10 f11 f12 f13 f14
  rw [q4] at s2
  have cr_0_1 := fdq_46 hD hth r0
  have cr_0_160 := fdq_41 hD hth r0
  have cr_0_161 := fdq_47 hD hth r0
  have cr_0_162 := fdq_48 hD hth r0
  have cr_0_163 := fdq_49 hD hth r0
  have hK_0_1 := elq_6 hD hth cr_0_1
  have hK_0_160 := elq_5 hD hth cr_0_160
  have hK_0_162 := elq_7 hD hth cr_0_162
  have hK_0_163 := elq_8 hD hth cr_0_163
  have kz_0_8 := fdq_14 hD hth r0
  have kz_0_10 := fdq_50 hD hth r0
  have kz_0_157 := fdq_42 hD hth r0
  have kz_0_158 := fdq_43 hD hth r0
  have kz_0_159 := fdq_44 hD hth r0
  have kz_0_164 := fdq_45 hD hth r0
  have kz_0_165 := fdq_35 hD hth r0
  obtain ⟨x, ex, hx⟩ := iv_ex (ta := ta) (lo := 0) (hi := 2010) (z := 0 + (1 * v_iv (n_v vs 7) + 0)) (by omega) (by omega) (by omega) (by omega)
  have ex2 : v_iv (Value.int x) = 0 + (1 * v_iv (n_v vs 7) + 0) := ex
  have ex3 : 0 ≤ v_iv (Value.int x) ∧ v_iv (Value.int x) ≤ 2010 := tv_rng hx
  have e_0 : n_v (vs ++ [Value.int x]) 0 = n_v vs 0 := n_v_old (by rw [hl]; decide)
  have e_1 : n_v (vs ++ [Value.int x]) 1 = n_v vs 1 := n_v_old (by rw [hl]; decide)
  have e_2 : n_v (vs ++ [Value.int x]) 2 = n_v vs 2 := n_v_old (by rw [hl]; decide)
  have e_3 : n_v (vs ++ [Value.int x]) 3 = n_v vs 3 := n_v_old (by rw [hl]; decide)
  have e_4 : n_v (vs ++ [Value.int x]) 4 = n_v vs 4 := n_v_old (by rw [hl]; decide)
  have e_24 : n_v (vs ++ [Value.int x]) 24 = Value.int x := n_v_new hl
  have nf0 : fc_1 PRD (20, [4], [50, 2, 1, 158, 157, 160, 2, 12, 0, 7, 4, 3, 2, 0, 158, 0, 1, 2, 0, 157, 2, 7, 0, 3, 2, 0, 157, 0, 2010, 3, 14, 1, 10, 3, 0, 160, 5, 3, 2, 0, 157, 0, 1, 0, 0, 1, 10, 3, 0, 160, 5, 3, 2, 0, 157, 0, 1, 0, 4]) ws (vs ++ [Value.int x]) := by
    refine ⟨nf_inA hl rfl, sgq_296 ?_⟩
    · show ((w_fi ws (n_v (vs ++ [Value.int x]) 4) 158 + 1) ≤ w_fi ws (n_v (vs ++ [Value.int x]) 4) 157) ∧ ((w_fi ws (n_v (vs ++ [Value.int x]) 4) 157 ≤ 2010) ∧ ((w_ei ws (w_ar ws (n_v (vs ++ [Value.int x]) 4) 160) ((w_fi ws (n_v (vs ++ [Value.int x]) 4) 157 - 1)) = 0) ∨ (w_ei ws (w_ar ws (n_v (vs ++ [Value.int x]) 4) 160) ((w_fi ws (n_v (vs ++ [Value.int x]) 4) 157 - 1)) = 4)))
      simp only [e_4, q4]
      exact vc_Mo_product_at_f0_12_0 (v_iv (n_v vs 1)) (v_iv (n_v vs 2)) (v_iv (n_v vs 3)) (v_iv (n_v vs 6)) (v_iv (n_v vs 7)) (v_iv (n_v vs 17)) (v_iv (n_v vs 18)) (v_iv (n_v vs 19)) (v_iv (n_v vs 20)) (v_iv (n_v vs 21)) (w_fi ws (n_v vs 0) 164) (w_fi ws (n_v vs 0) 165) (w_ei ws (w_ar ws (n_v vs 0) 160)) (w_ei ws (w_ar ws (n_v vs 0) 161)) (w_ei ws (w_ar ws (n_v vs 0) 162)) (w_ei ws (w_ar ws (n_v vs 0) 163)) (w_ei ws (w_ar ws (n_v vs 0) 1)) (w_fi ws (n_v vs 0) 10) (w_fi ws (n_v vs 0) 158) (w_fi ws (n_v vs 0) 157) (w_fi ws (n_v vs 0) 159) (w_fi ws (n_v vs 0) 8) (v_iv (Value.int x)) k1 k2 k3 k6 k7 k17 k18 k19 k20 k21 d0 f0 f1 f2 f3 f4 f5 f6 f7 f8 f10 f11 f12 f13 f14 f16 f17 f18 f19 f20 f21 f23 f24 f25 hK_0_1 hK_0_160 hK_0_162 hK_0_163 kz_0_8 kz_0_10 kz_0_157 kz_0_158 kz_0_159 kz_0_164 kz_0_165 ex2 ex3
  have nf1 : fc_1 PRD (20, [1, 4], [30, 0, 1, 0, 0, -1, 1, 158]) ws (vs ++ [Value.int x]) := by
    refine ⟨nf_inA hl rfl, sgq_306 ?_⟩
    · show 1 * v_iv (n_v (vs ++ [Value.int x]) 1) + ((-1) * w_fi ws (n_v (vs ++ [Value.int x]) 4) 158 + 0) ≤ 0
      simp only [e_1, e_4, q4]
      exact vc_Mo_product_at_f0_12_1 (v_iv (n_v vs 1)) (v_iv (n_v vs 2)) (v_iv (n_v vs 3)) (v_iv (n_v vs 6)) (v_iv (n_v vs 7)) (v_iv (n_v vs 17)) (v_iv (n_v vs 18)) (v_iv (n_v vs 19)) (v_iv (n_v vs 20)) (v_iv (n_v vs 21)) (w_fi ws (n_v vs 0) 164) (w_fi ws (n_v vs 0) 165) (w_ei ws (w_ar ws (n_v vs 0) 160)) (w_ei ws (w_ar ws (n_v vs 0) 161)) (w_ei ws (w_ar ws (n_v vs 0) 162)) (w_ei ws (w_ar ws (n_v vs 0) 163)) (w_ei ws (w_ar ws (n_v vs 0) 1)) (w_fi ws (n_v vs 0) 10) (w_fi ws (n_v vs 0) 158) (w_fi ws (n_v vs 0) 157) (w_fi ws (n_v vs 0) 159) (w_fi ws (n_v vs 0) 8) (v_iv (Value.int x)) k1 k2 k3 k6 k7 k17 k18 k19 k20 k21 d0 f0 f1 f2 f3 f4 f5 f6 f7 f8 f10 f11 f12 f13 f14 f16 f17 f18 f19 f20 f21 f23 f24 f25 hK_0_1 hK_0_160 hK_0_162 hK_0_163 kz_0_8 kz_0_10 kz_0_157 kz_0_158 kz_0_159 kz_0_164 kz_0_165 ex2 ex3
  have nf2 : fc_1 PRD (20, [4], [50, 2, 0, 164, 165, 4, 7, 1, 3, 2, 0, 164, 0, 0, 0, 3, 2, 0, 165, 0, 23]) ws (vs ++ [Value.int x]) := by
    refine ⟨nf_inA hl rfl, sgq_299 ?_⟩
    · show (w_fi ws (n_v (vs ++ [Value.int x]) 4) 164 = 0) → (w_fi ws (n_v (vs ++ [Value.int x]) 4) 165 ≤ 23)
      simp only [e_4, q4]
      exact vc_Mo_product_at_f0_12_2 (v_iv (n_v vs 1)) (v_iv (n_v vs 2)) (v_iv (n_v vs 3)) (v_iv (n_v vs 6)) (v_iv (n_v vs 7)) (v_iv (n_v vs 17)) (v_iv (n_v vs 18)) (v_iv (n_v vs 19)) (v_iv (n_v vs 20)) (v_iv (n_v vs 21)) (w_fi ws (n_v vs 0) 164) (w_fi ws (n_v vs 0) 165) (w_ei ws (w_ar ws (n_v vs 0) 160)) (w_ei ws (w_ar ws (n_v vs 0) 161)) (w_ei ws (w_ar ws (n_v vs 0) 162)) (w_ei ws (w_ar ws (n_v vs 0) 163)) (w_ei ws (w_ar ws (n_v vs 0) 1)) (w_fi ws (n_v vs 0) 10) (w_fi ws (n_v vs 0) 158) (w_fi ws (n_v vs 0) 157) (w_fi ws (n_v vs 0) 159) (w_fi ws (n_v vs 0) 8) (v_iv (Value.int x)) k1 k2 k3 k6 k7 k17 k18 k19 k20 k21 d0 f0 f1 f2 f3 f4 f5 f6 f7 f8 f10 f11 f12 f13 f14 f16 f17 f18 f19 f20 f21 f23 f24 f25 hK_0_1 hK_0_160 hK_0_162 hK_0_163 kz_0_8 kz_0_10 kz_0_157 kz_0_158 kz_0_159 kz_0_164 kz_0_165 ex2 ex3
  have nf3 : fc_1 PRD (20, [4], [30, 0, 1, 1, 159]) ws (vs ++ [Value.int x]) := by
    refine ⟨nf_inA hl rfl, sgq_999 ?_⟩
    · show 1 * w_fi ws (n_v (vs ++ [Value.int x]) 4) 159 + 0 ≤ 0
      simp only [e_4, q4]
      exact vc_Mo_product_at_f0_12_3 (v_iv (n_v vs 1)) (v_iv (n_v vs 2)) (v_iv (n_v vs 3)) (v_iv (n_v vs 6)) (v_iv (n_v vs 7)) (v_iv (n_v vs 17)) (v_iv (n_v vs 18)) (v_iv (n_v vs 19)) (v_iv (n_v vs 20)) (v_iv (n_v vs 21)) (w_fi ws (n_v vs 0) 164) (w_fi ws (n_v vs 0) 165) (w_ei ws (w_ar ws (n_v vs 0) 160)) (w_ei ws (w_ar ws (n_v vs 0) 161)) (w_ei ws (w_ar ws (n_v vs 0) 162)) (w_ei ws (w_ar ws (n_v vs 0) 163)) (w_ei ws (w_ar ws (n_v vs 0) 1)) (w_fi ws (n_v vs 0) 10) (w_fi ws (n_v vs 0) 158) (w_fi ws (n_v vs 0) 157) (w_fi ws (n_v vs 0) 159) (w_fi ws (n_v vs 0) 8) (v_iv (Value.int x)) k1 k2 k3 k6 k7 k17 k18 k19 k20 k21 d0 f0 f1 f2 f3 f4 f5 f6 f7 f8 f10 f11 f12 f13 f14 f16 f17 f18 f19 f20 f21 f23 f24 f25 hK_0_1 hK_0_160 hK_0_162 hK_0_163 kz_0_8 kz_0_10 kz_0_157 kz_0_158 kz_0_159 kz_0_164 kz_0_165 ex2 ex3
  have nf4 : fc_1 PRD (20, [4], [30, 0, -1, 1, 159]) ws (vs ++ [Value.int x]) := by
    refine ⟨nf_inA hl rfl, sgq_1000 ?_⟩
    · show (-1) * w_fi ws (n_v (vs ++ [Value.int x]) 4) 159 + 0 ≤ 0
      simp only [e_4, q4]
      exact vc_Mo_product_at_f0_12_4 (v_iv (n_v vs 1)) (v_iv (n_v vs 2)) (v_iv (n_v vs 3)) (v_iv (n_v vs 6)) (v_iv (n_v vs 7)) (v_iv (n_v vs 17)) (v_iv (n_v vs 18)) (v_iv (n_v vs 19)) (v_iv (n_v vs 20)) (v_iv (n_v vs 21)) (w_fi ws (n_v vs 0) 164) (w_fi ws (n_v vs 0) 165) (w_ei ws (w_ar ws (n_v vs 0) 160)) (w_ei ws (w_ar ws (n_v vs 0) 161)) (w_ei ws (w_ar ws (n_v vs 0) 162)) (w_ei ws (w_ar ws (n_v vs 0) 163)) (w_ei ws (w_ar ws (n_v vs 0) 1)) (w_fi ws (n_v vs 0) 10) (w_fi ws (n_v vs 0) 158) (w_fi ws (n_v vs 0) 157) (w_fi ws (n_v vs 0) 159) (w_fi ws (n_v vs 0) 8) (v_iv (Value.int x)) k1 k2 k3 k6 k7 k17 k18 k19 k20 k21 d0 f0 f1 f2 f3 f4 f5 f6 f7 f8 f10 f11 f12 f13 f14 f16 f17 f18 f19 f20 f21 f23 f24 f25 hK_0_1 hK_0_160 hK_0_162 hK_0_163 kz_0_8 kz_0_10 kz_0_157 kz_0_158 kz_0_159 kz_0_164 kz_0_165 ex2 ex3
  have nf5 : fc_1 PRD (20, [24, 4], [30, -2011, -1, 0, 0, -1, 1, 158]) ws (vs ++ [Value.int x]) := by
    refine ⟨nf_inA hl rfl, sgq_317 ?_⟩
    · show (-1) * v_iv (n_v (vs ++ [Value.int x]) 24) + ((-1) * w_fi ws (n_v (vs ++ [Value.int x]) 4) 158 + 0) ≤ (-2011)
      simp only [e_4, e_24, q4]
      exact vc_Mo_product_at_f0_12_5 (v_iv (n_v vs 1)) (v_iv (n_v vs 2)) (v_iv (n_v vs 3)) (v_iv (n_v vs 6)) (v_iv (n_v vs 7)) (v_iv (n_v vs 17)) (v_iv (n_v vs 18)) (v_iv (n_v vs 19)) (v_iv (n_v vs 20)) (v_iv (n_v vs 21)) (w_fi ws (n_v vs 0) 164) (w_fi ws (n_v vs 0) 165) (w_ei ws (w_ar ws (n_v vs 0) 160)) (w_ei ws (w_ar ws (n_v vs 0) 161)) (w_ei ws (w_ar ws (n_v vs 0) 162)) (w_ei ws (w_ar ws (n_v vs 0) 163)) (w_ei ws (w_ar ws (n_v vs 0) 1)) (w_fi ws (n_v vs 0) 10) (w_fi ws (n_v vs 0) 158) (w_fi ws (n_v vs 0) 157) (w_fi ws (n_v vs 0) 159) (w_fi ws (n_v vs 0) 8) (v_iv (Value.int x)) k1 k2 k3 k6 k7 k17 k18 k19 k20 k21 d0 f0 f1 f2 f3 f4 f5 f6 f7 f8 f10 f11 f12 f13 f14 f16 f17 f18 f19 f20 f21 f23 f24 f25 hK_0_1 hK_0_160 hK_0_162 hK_0_163 kz_0_8 kz_0_10 kz_0_157 kz_0_158 kz_0_159 kz_0_164 kz_0_165 ex2 ex3
  have nf6 : fc_1 PRD (20, [4, 1, 2, 3], [60, 4, 5, 6, 8, 158, 164, 10, 160, 161, 162, 163, 1]) ws (vs ++ [Value.int x]) := by
    refine ⟨nf_inA hl rfl, sgq_342 ?_⟩
    · show SPWv (w_fi ws (n_v (vs ++ [Value.int x]) 4) 8) (w_fi ws (n_v (vs ++ [Value.int x]) 4) 158) (w_fi ws (n_v (vs ++ [Value.int x]) 4) 164) (w_fi ws (n_v (vs ++ [Value.int x]) 4) 10) (w_ei ws (w_ar ws (n_v (vs ++ [Value.int x]) 4) 160)) (w_ei ws (w_ar ws (n_v (vs ++ [Value.int x]) 4) 161)) (w_ei ws (w_ar ws (n_v (vs ++ [Value.int x]) 4) 162)) (w_ei ws (w_ar ws (n_v (vs ++ [Value.int x]) 4) 163)) (w_ei ws (w_ar ws (n_v (vs ++ [Value.int x]) 4) 1)) (v_iv (n_v (vs ++ [Value.int x]) 1)) (v_iv (n_v (vs ++ [Value.int x]) 2)) (v_iv (n_v (vs ++ [Value.int x]) 3))
      simp only [e_1, e_2, e_3, e_4, q4]
      exact vc_Mo_product_at_f0_12_6 (v_iv (n_v vs 1)) (v_iv (n_v vs 2)) (v_iv (n_v vs 3)) (v_iv (n_v vs 19)) (v_iv (n_v vs 20)) (v_iv (n_v vs 21)) (w_fi ws (n_v vs 0) 164) (w_ei ws (w_ar ws (n_v vs 0) 160)) (w_ei ws (w_ar ws (n_v vs 0) 161)) (w_ei ws (w_ar ws (n_v vs 0) 162)) (w_ei ws (w_ar ws (n_v vs 0) 163)) (w_ei ws (w_ar ws (n_v vs 0) 1)) (w_fi ws (n_v vs 0) 10) (w_fi ws (n_v vs 0) 158) (w_fi ws (n_v vs 0) 8) k1 k2 k3 k19 k20 k21 f3 f4 f7 f11 f14 kz_0_8 kz_0_10 kz_0_158 kz_0_164
  have nf7 : fc_1 PRD (23, [3], [0, 1]) ws (vs ++ [Value.int x]) := by
    refine ⟨nf_inA hl rfl, sgq_1477 ?_⟩
    · show 1 * v_iv (n_v (vs ++ [Value.int x]) 3) + 0 ≤ 0
      rw [e_3]
      exact vc_Mo_product_at_f0_12_7 (v_iv (n_v vs 1)) (v_iv (n_v vs 2)) (v_iv (n_v vs 3)) (v_iv (n_v vs 6)) (v_iv (n_v vs 7)) (v_iv (n_v vs 17)) (v_iv (n_v vs 18)) (v_iv (n_v vs 19)) (v_iv (n_v vs 20)) (v_iv (n_v vs 21)) (w_fi ws (n_v vs 0) 164) (w_fi ws (n_v vs 0) 165) (w_ei ws (w_ar ws (n_v vs 0) 160)) (w_ei ws (w_ar ws (n_v vs 0) 161)) (w_ei ws (w_ar ws (n_v vs 0) 162)) (w_ei ws (w_ar ws (n_v vs 0) 163)) (w_ei ws (w_ar ws (n_v vs 0) 1)) (w_fi ws (n_v vs 0) 10) (w_fi ws (n_v vs 0) 158) (w_fi ws (n_v vs 0) 157) (w_fi ws (n_v vs 0) 159) (w_fi ws (n_v vs 0) 8) (v_iv (Value.int x)) k1 k2 k3 k6 k7 k17 k18 k19 k20 k21 d0 f0 f1 f2 f3 f4 f5 f6 f7 f8 f10 f11 f12 f13 f14 f16 f17 f18 f19 f20 f21 f23 f24 f25 hK_0_1 hK_0_160 hK_0_162 hK_0_163 kz_0_8 kz_0_10 kz_0_157 kz_0_158 kz_0_159 kz_0_164 kz_0_165 ex2 ex3
  have nf8 : fc_1 PRD (23, [3], [0, -1]) ws (vs ++ [Value.int x]) := by
    refine ⟨nf_inA hl rfl, sgq_1013 ?_⟩
    · show (-1) * v_iv (n_v (vs ++ [Value.int x]) 3) + 0 ≤ 0
      rw [e_3]
      exact vc_Mo_product_at_f0_12_8 (v_iv (n_v vs 1)) (v_iv (n_v vs 2)) (v_iv (n_v vs 3)) (v_iv (n_v vs 6)) (v_iv (n_v vs 7)) (v_iv (n_v vs 17)) (v_iv (n_v vs 18)) (v_iv (n_v vs 19)) (v_iv (n_v vs 20)) (v_iv (n_v vs 21)) (w_fi ws (n_v vs 0) 164) (w_fi ws (n_v vs 0) 165) (w_ei ws (w_ar ws (n_v vs 0) 160)) (w_ei ws (w_ar ws (n_v vs 0) 161)) (w_ei ws (w_ar ws (n_v vs 0) 162)) (w_ei ws (w_ar ws (n_v vs 0) 163)) (w_ei ws (w_ar ws (n_v vs 0) 1)) (w_fi ws (n_v vs 0) 10) (w_fi ws (n_v vs 0) 158) (w_fi ws (n_v vs 0) 157) (w_fi ws (n_v vs 0) 159) (w_fi ws (n_v vs 0) 8) (v_iv (Value.int x)) k1 k2 k3 k6 k7 k17 k18 k19 k20 k21 d0 f0 f1 f2 f3 f4 f5 f6 f7 f8 f10 f11 f12 f13 f14 f16 f17 f18 f19 f20 f21 f23 f24 f25 hK_0_1 hK_0_160 hK_0_162 hK_0_163 kz_0_8 kz_0_10 kz_0_157 kz_0_158 kz_0_159 kz_0_164 kz_0_165 ex2 ex3
  have nf9 : fc_1 PRD (24, [0, 4], []) ws (vs ++ [Value.int x]) := by
    refine ⟨nf_inA hl rfl, sgq_5 ?_⟩
    · show n_v (vs ++ [Value.int x]) 0 = n_v (vs ++ [Value.int x]) 4
      first | rfl | simp only [e_0, e_4, q4]
  obtain ⟨x0, e0, _, _⟩ := tv_int t7 rfl
  have e1 : v_iv (n_v vs 7) = x0.toInt := by rw [e0]; rfl
  have ho : sy_ofs (vs ++ [Value.int x]) (24, 7, 0, 0) := by
    refine ⟨x, x0, by rw [List.getElem?_append_right (by rw [hl]; decide), hl]; rfl, ?_, ?_, ?_⟩
    · rw [List.getElem?_append_left (by rw [hl]; decide)]; exact n_v_some (by rw [hl]; decide) e0
    · show x0.toInt + 0 ≤ x.toInt; omega
    · show x.toInt ≤ x0.toInt + 0; omega
  exact ⟨(fun _ h => (by cases h)), [Value.int x], ag_one hx, List.forall_mem_cons.mpr ⟨⟨show (20 : Nat) < 100 from by decide, nf0⟩, List.forall_mem_cons.mpr ⟨⟨show (20 : Nat) < 100 from by decide, nf1⟩, List.forall_mem_cons.mpr ⟨⟨show (20 : Nat) < 100 from by decide, nf2⟩, List.forall_mem_cons.mpr ⟨⟨show (20 : Nat) < 100 from by decide, nf3⟩, List.forall_mem_cons.mpr ⟨⟨show (20 : Nat) < 100 from by decide, nf4⟩, List.forall_mem_cons.mpr ⟨⟨show (20 : Nat) < 100 from by decide, nf5⟩, List.forall_mem_cons.mpr ⟨⟨show (20 : Nat) < 100 from by decide, nf6⟩, List.forall_mem_cons.mpr ⟨⟨show (23 : Nat) < 100 from by decide, nf7⟩, List.forall_mem_cons.mpr ⟨⟨show (23 : Nat) < 100 from by decide, nf8⟩, List.forall_mem_cons.mpr ⟨⟨show (24 : Nat) < 100 from by decide, nf9⟩, (fun _ h => (by cases h))⟩⟩⟩⟩⟩⟩⟩⟩⟩⟩, List.forall_mem_cons.mpr ⟨ho, (fun _ h => (by cases h))⟩⟩
set_option maxHeartbeats 4000000 in
theorem vc_Mo_product_at_f0_13_0 (x1 : Int) (x2 : Int) (x3 : Int) (x6 : Int) (x7 : Int) (x8 : Int) (x9 : Int) (x10 : Int) (cur_0 : Int) (tokenKind_0 : Int → Int) (tokenValue_0 : Int → Int) (fault_0 : Int) (tokens_0 : Int) (styleKind_0 : Int) (styleOne_0 : Int) (tokenPlace_0 : Int → Int) (tokenEnd_0 : Int → Int) (tape_0 : Int → Int) (limit_0 : Int) (gx : Int) (k1 : 0 ≤ x1 ∧ x1 ≤ 2009) (k2 : 0 ≤ x2 ∧ x2 ≤ 5) (k3 : 0 ≤ x3 ∧ x3 ≤ 13) (k6 : 0 ≤ x6 ∧ x6 ≤ 2009) (k7 : 0 ≤ x7 ∧ x7 ≤ 2010) (k8 : 42 ≤ x8 ∧ x8 ≤ 42) (k9 : 0 ≤ x9 ∧ x9 ≤ 5) (k10 : 1 ≤ x10 ∧ x10 ≤ 1) (g0 : x6 = cur_0) (f1 : x10 ≠ 0) (f2 : (x10 = 1) → (tokenKind_0 (cur_0) = 3)) (f3 : SGN (cur_0) (tokenKind_0) (tokenValue_0) (x8) (x10) (x9)) (f4 : fault_0 = x9) (f5 : ((cur_0 + 1) ≤ tokens_0) ∧ ((tokens_0 ≤ 2010) ∧ ((tokenKind_0 ((tokens_0 - 1)) = 0) ∨ (tokenKind_0 ((tokens_0 - 1)) = 4)))) (f6 : 1 * x1 + ((-1) * cur_0 + 0) ≤ 0) (f7 : (styleKind_0 = 0) → (styleOne_0 ≤ 23)) (f8 : SPWv (fault_0) (cur_0) (styleKind_0) (limit_0) (tokenKind_0) (tokenValue_0) (tokenPlace_0) (tokenEnd_0) (tape_0) (x1) (x2) (x3)) (f9 : 1 * x3 + 0 ≤ 0) (f10 : (-1) * x3 + 0 ≤ 0) (f12 : 1 * x7 + (1 * cur_0 + 0) ≤ 2010) (f13 : (-1) * x7 + ((-1) * cur_0 + 0) ≤ (-2010)) (hK_0_1 : ∀ j : Int, 0 ≤ j → j < 2000 → (-128) ≤ tape_0 j ∧ tape_0 j ≤ 127) (hK_0_160 : ∀ j : Int, 0 ≤ j → j < 2010 → 0 ≤ tokenKind_0 j ∧ tokenKind_0 j ≤ 4) (hK_0_162 : ∀ j : Int, 0 ≤ j → j < 2010 → 0 ≤ tokenPlace_0 j ∧ tokenPlace_0 j ≤ 2000) (hK_0_163 : ∀ j : Int, 0 ≤ j → j < 2010 → 0 ≤ tokenEnd_0 j ∧ tokenEnd_0 j ≤ 2000) (kz_0_8 : 0 ≤ fault_0 ∧ fault_0 ≤ 5) (kz_0_10 : 0 ≤ limit_0 ∧ limit_0 ≤ 2000) (kz_0_157 : 0 ≤ tokens_0 ∧ tokens_0 ≤ 2010) (kz_0_158 : 0 ≤ cur_0 ∧ cur_0 ≤ 2009) (kz_0_164 : 0 ≤ styleKind_0 ∧ styleKind_0 ≤ 1) (kz_0_165 : (-1) ≤ styleOne_0 ∧ styleOne_0 ≤ 47) (ex2 : gx = fault_0) (ex3 : 0 ≤ gx ∧ gx ≤ 5) : fault_0 = gx := by
  first | assumption | (clear f2 f5 f7 hK_0_1 hK_0_160 hK_0_162 hK_0_163; omega) | (clear hK_0_1 hK_0_160 hK_0_162 hK_0_163; grind) | omega | grind
def o_Mo_product_at_f0_13 : or_T := (26, 12, [(0, (2, 0, 0, [165])), (1, (0, 0, 2009, [])), (2, (0, 0, 5, [])), (3, (0, 0, 13, [])), (6, (0, 0, 2009, [])), (7, (0, 0, 2010, [])), (8, (0, 42, 42, [])), (9, (0, 0, 5, [])), (10, (0, 1, 1, []))], [(9, [6, 4], [158]), (8, [10], [1]), (20, [10, 4], [50, 1, 1, 1158, 1160, 4, 6, 1, 2, 1, 0, 0, 1, 1, 6, 3, 1, 160, 2, 1, 158, 0, 3]), (20, [4, 8, 10, 9], [60, 1, 2, 14, 158, 160, 161]), (20, [4, 9], [50, 1, 0, 8, 1, 3, 2, 0, 8, 1, 1]), (20, [4], [50, 2, 1, 158, 157, 160, 2, 12, 0, 7, 4, 3, 2, 0, 158, 0, 1, 2, 0, 157, 2, 7, 0, 3, 2, 0, 157, 0, 2010, 3, 14, 1, 10, 3, 0, 160, 5, 3, 2, 0, 157, 0, 1, 0, 0, 1, 10, 3, 0, 160, 5, 3, 2, 0, 157, 0, 1, 0, 4]), (20, [1, 4], [30, 0, 1, 0, 0, -1, 1, 158]), (20, [4], [50, 2, 0, 164, 165, 4, 7, 1, 3, 2, 0, 164, 0, 0, 0, 3, 2, 0, 165, 0, 23]), (20, [4, 1, 2, 3], [60, 4, 5, 6, 8, 158, 164, 10, 160, 161, 162, 163, 1]), (23, [3], [0, 1]), (23, [3], [0, -1]), (24, [0, 4], []), (20, [7, 4], [30, 2010, 1, 0, 0, 1, 1, 158]), (20, [7, 4], [30, -2010, -1, 0, 0, -1, 1, 158])], [], [(0, 0, 5, [])], [(20, [4, 12], [50, 1, 0, 8, 1, 3, 2, 0, 8, 1, 1])], [], [])
theorem oo_Mo_product_at_f0_13 {kA : Nat → ClassId} : or_ok PRD kA GG o_Mo_product_at_f0_13 := by
  refine or_mk fun A ta ws vs hD hth hl => ?_
  intro t0 r0 t1 k1 t2 k2 t3 k3 t6 k6 t7 k7 t8 k8 t9 k9 t10 k10 f0 f1 f2 f3 f4 f5 f6 f7 f8 f9 f10 f11 f12 f13
  replace f0 := shm_311 f0
  replace f1 := shm_154 f1
  replace f2 := shm_319 f2
  replace f3 := shm_320 f3
  replace f4 := shm_302 f4
  replace f5 := shm_296 f5
  replace f6 := shm_306 f6
  replace f7 := shm_299 f7
  replace f8 := shm_342 f8
  replace f9 := shm_1477 f9
  replace f10 := shm_1013 f10
  replace f11 := shm_5 f11
  replace f12 := shm_309 f12
  replace f13 := shm_310 f13
  have q4 : n_v vs 4 = n_v vs 0 := f11.symm
  simp only [q4] at f0 f2 f3 f4 f5 f6 f7 f8 f12 f13
  have cr_0_1 := fdq_46 hD hth r0
  have cr_0_160 := fdq_41 hD hth r0
  have cr_0_162 := fdq_48 hD hth r0
  have cr_0_163 := fdq_49 hD hth r0
  have g0 : v_iv (n_v vs 6) = w_fi ws (n_v vs 0) 158 := congrArg v_iv f0
  have hK_0_1 := elq_6 hD hth cr_0_1
  have hK_0_160 := elq_5 hD hth cr_0_160
  have hK_0_162 := elq_7 hD hth cr_0_162
  have hK_0_163 := elq_8 hD hth cr_0_163
  have kz_0_8 := fdq_14 hD hth r0
  have kz_0_10 := fdq_50 hD hth r0
  have kz_0_157 := fdq_42 hD hth r0
  have kz_0_158 := fdq_43 hD hth r0
  have kz_0_164 := fdq_45 hD hth r0
  have kz_0_165 := fdq_35 hD hth r0
  obtain ⟨x, ex, hx⟩ := iv_ex (ta := ta) (lo := 0) (hi := 5) (z := w_fi ws (n_v vs 0) 8) (by omega) (by omega) (by omega) (by omega)
  have ex2 : v_iv (Value.int x) = w_fi ws (n_v vs 0) 8 := ex
  have ex3 : 0 ≤ v_iv (Value.int x) ∧ v_iv (Value.int x) ≤ 5 := tv_rng hx
  have e_4 : n_v (vs ++ [Value.int x]) 4 = n_v vs 4 := n_v_old (by rw [hl]; decide)
  have e_12 : n_v (vs ++ [Value.int x]) 12 = Value.int x := n_v_new hl
  have nf0 : fc_1 PRD (20, [4, 12], [50, 1, 0, 8, 1, 3, 2, 0, 8, 1, 1]) ws (vs ++ [Value.int x]) := by
    refine ⟨nf_inA hl rfl, sgq_302 ?_⟩
    · show w_fi ws (n_v (vs ++ [Value.int x]) 4) 8 = v_iv (n_v (vs ++ [Value.int x]) 12)
      simp only [e_4, e_12, q4]
      exact vc_Mo_product_at_f0_13_0 (v_iv (n_v vs 1)) (v_iv (n_v vs 2)) (v_iv (n_v vs 3)) (v_iv (n_v vs 6)) (v_iv (n_v vs 7)) (v_iv (n_v vs 8)) (v_iv (n_v vs 9)) (v_iv (n_v vs 10)) (w_fi ws (n_v vs 0) 158) (w_ei ws (w_ar ws (n_v vs 0) 160)) (w_ei ws (w_ar ws (n_v vs 0) 161)) (w_fi ws (n_v vs 0) 8) (w_fi ws (n_v vs 0) 157) (w_fi ws (n_v vs 0) 164) (w_fi ws (n_v vs 0) 165) (w_ei ws (w_ar ws (n_v vs 0) 162)) (w_ei ws (w_ar ws (n_v vs 0) 163)) (w_ei ws (w_ar ws (n_v vs 0) 1)) (w_fi ws (n_v vs 0) 10) (v_iv (Value.int x)) k1 k2 k3 k6 k7 k8 k9 k10 g0 f1 f2 f3 f4 f5 f6 f7 f8 f9 f10 f12 f13 hK_0_1 hK_0_160 hK_0_162 hK_0_163 kz_0_8 kz_0_10 kz_0_157 kz_0_158 kz_0_164 kz_0_165 ex2 ex3
  exact ⟨(fun _ h => (by cases h)), [Value.int x], ag_one hx, List.forall_mem_cons.mpr ⟨⟨show (20 : Nat) < 100 from by decide, nf0⟩, (fun _ h => (by cases h))⟩, (fun _ h => (by cases h))⟩
set_option maxHeartbeats 4000000 in
theorem vc_Mo_product_at_f0_14_r0 (x1 : Int) (x2 : Int) (x3 : Int) (x6 : Int) (x7 : Int) (x8 : Int) (x9 : Int) (x10 : Int) (x11 : Int) (x12 : Int) (x13 : Int) (x14 : Int) (x15 : Int) (cur_0 : Int) (tokenKind_0 : Int → Int) (tokenValue_0 : Int → Int) (fault_0 : Int) (tokens_0 : Int) (styleKind_0 : Int) (styleOne_0 : Int) (tokenPlace_0 : Int → Int) (tokenEnd_0 : Int → Int) (tape_0 : Int → Int) (limit_0 : Int) (k1 : 0 ≤ x1 ∧ x1 ≤ 2009) (k2 : 0 ≤ x2 ∧ x2 ≤ 5) (k3 : 0 ≤ x3 ∧ x3 ≤ 13) (k6 : 0 ≤ x6 ∧ x6 ≤ 2009) (k7 : 0 ≤ x7 ∧ x7 ≤ 2010) (k8 : 42 ≤ x8 ∧ x8 ≤ 42) (k9 : 0 ≤ x9 ∧ x9 ≤ 5) (k10 : 1 ≤ x10 ∧ x10 ≤ 1) (k11 : 42 ≤ x11 ∧ x11 ≤ 42) (k12 : 0 ≤ x12 ∧ x12 ≤ 5) (k13 : 0 ≤ x13 ∧ x13 ≤ 0) (k14 : 1 ≤ x14 ∧ x14 ≤ 1) (k15 : 1 ≤ x15 ∧ x15 ≤ 2010) (d0 : x6 + 1 ≤ x15 ∧ x15 ≤ x6 + 1) (f0 : x15 = x6 + x14) (g1 : x6 = cur_0) (f2 : (x13 = 1) → (tokenKind_0 (cur_0) = 3)) (f3 : SGN (cur_0) (tokenKind_0) (tokenValue_0) (x11) (x13) (x12)) (f4 : fault_0 = x12) (f5 : x10 ≠ 0) (f6 : (x10 = 1) → (tokenKind_0 (cur_0) = 3)) (f7 : SGN (cur_0) (tokenKind_0) (tokenValue_0) (x8) (x10) (x9)) (f8 : fault_0 = x9) (f9 : ((cur_0 + 1) ≤ tokens_0) ∧ ((tokens_0 ≤ 2010) ∧ ((tokenKind_0 ((tokens_0 - 1)) = 0) ∨ (tokenKind_0 ((tokens_0 - 1)) = 4)))) (f10 : 1 * x1 + ((-1) * cur_0 + 0) ≤ 0) (f11 : (styleKind_0 = 0) → (styleOne_0 ≤ 23)) (f12 : SPWv (fault_0) (cur_0) (styleKind_0) (limit_0) (tokenKind_0) (tokenValue_0) (tokenPlace_0) (tokenEnd_0) (tape_0) (x1) (x2) (x3)) (f13 : 1 * x3 + 0 ≤ 0) (f14 : (-1) * x3 + 0 ≤ 0) (f16 : 1 * x7 + (1 * cur_0 + 0) ≤ 2010) (f17 : (-1) * x7 + ((-1) * cur_0 + 0) ≤ (-2010)) (hK_0_1 : ∀ j : Int, 0 ≤ j → j < 2000 → (-128) ≤ tape_0 j ∧ tape_0 j ≤ 127) (hK_0_160 : ∀ j : Int, 0 ≤ j → j < 2010 → 0 ≤ tokenKind_0 j ∧ tokenKind_0 j ≤ 4) (hK_0_162 : ∀ j : Int, 0 ≤ j → j < 2010 → 0 ≤ tokenPlace_0 j ∧ tokenPlace_0 j ≤ 2000) (hK_0_163 : ∀ j : Int, 0 ≤ j → j < 2010 → 0 ≤ tokenEnd_0 j ∧ tokenEnd_0 j ≤ 2000) (kz_0_8 : 0 ≤ fault_0 ∧ fault_0 ≤ 5) (kz_0_10 : 0 ≤ limit_0 ∧ limit_0 ≤ 2000) (kz_0_157 : 0 ≤ tokens_0 ∧ tokens_0 ≤ 2010) (kz_0_158 : 0 ≤ cur_0 ∧ cur_0 ≤ 2009) (kz_0_164 : 0 ≤ styleKind_0 ∧ styleKind_0 ≤ 1) (kz_0_165 : (-1) ≤ styleOne_0 ∧ styleOne_0 ≤ 47) : 1 ≤ x15 ∧ x15 ≤ 2009 := by
  first | assumption | (clear f2 f6 f9 f11 hK_0_1 hK_0_160 hK_0_162 hK_0_163; omega) | (clear hK_0_1 hK_0_160 hK_0_162 hK_0_163; grind) | omega | grind
def o_Mo_product_at_f0_14 : or_T := (37, 16, [(0, (2, 0, 0, [165])), (1, (0, 0, 2009, [])), (2, (0, 0, 5, [])), (3, (0, 0, 13, [])), (4, (2, 0, 0, [165])), (6, (0, 0, 2009, [])), (7, (0, 0, 2010, [])), (8, (0, 42, 42, [])), (9, (0, 0, 5, [])), (10, (0, 1, 1, [])), (11, (0, 42, 42, [])), (12, (0, 0, 5, [])), (13, (0, 0, 0, [])), (14, (0, 1, 1, [])), (15, (0, 1, 2010, []))], [(1, [15, 6, 14], []), (9, [6, 4], [158]), (20, [13, 4], [50, 1, 1, 1158, 1160, 4, 6, 1, 2, 1, 0, 0, 1, 1, 6, 3, 1, 160, 2, 1, 158, 0, 3]), (20, [4, 11, 13, 12], [60, 1, 2, 14, 158, 160, 161]), (20, [4, 12], [50, 1, 0, 8, 1, 3, 2, 0, 8, 1, 1]), (8, [10], [1]), (20, [10, 4], [50, 1, 1, 1158, 1160, 4, 6, 1, 2, 1, 0, 0, 1, 1, 6, 3, 1, 160, 2, 1, 158, 0, 3]), (20, [4, 8, 10, 9], [60, 1, 2, 14, 158, 160, 161]), (20, [4, 9], [50, 1, 0, 8, 1, 3, 2, 0, 8, 1, 1]), (20, [4], [50, 2, 1, 158, 157, 160, 2, 12, 0, 7, 4, 3, 2, 0, 158, 0, 1, 2, 0, 157, 2, 7, 0, 3, 2, 0, 157, 0, 2010, 3, 14, 1, 10, 3, 0, 160, 5, 3, 2, 0, 157, 0, 1, 0, 0, 1, 10, 3, 0, 160, 5, 3, 2, 0, 157, 0, 1, 0, 4]), (20, [1, 4], [30, 0, 1, 0, 0, -1, 1, 158]), (20, [4], [50, 2, 0, 164, 165, 4, 7, 1, 3, 2, 0, 164, 0, 0, 0, 3, 2, 0, 165, 0, 23]), (20, [4, 1, 2, 3], [60, 4, 5, 6, 8, 158, 164, 10, 160, 161, 162, 163, 1]), (23, [3], [0, 1]), (23, [3], [0, -1]), (24, [0, 4], []), (20, [7, 4], [30, 2010, 1, 0, 0, 1, 1, 158]), (20, [7, 4], [30, -2010, -1, 0, 0, -1, 1, 158])], [(15, (0, 1, 2009, []))], [], [], [], [(15, 6, 1, 1)])
theorem oo_Mo_product_at_f0_14 {kA : Nat → ClassId} : or_ok PRD kA GG o_Mo_product_at_f0_14 := by
  refine or_mk fun A ta ws vs hD hth hl => ?_
  intro t0 r0 t1 k1 t2 k2 t3 k3 t4 r4 t6 k6 t7 k7 t8 k8 t9 k9 t10 k10 t11 k11 t12 k12 t13 k13 t14 k14 t15 k15 d0 f0 f1 f2 f3 f4 f5 f6 f7 f8 f9 f10 f11 f12 f13 f14 f15 f16 f17
  replace f1 := shm_311 f1
  replace f2 := shm_319 f2
  replace f3 := shm_320 f3
  replace f4 := shm_302 f4
  replace f6 := shm_319 f6
  replace f7 := shm_320 f7
  replace f8 := shm_302 f8
  replace f9 := shm_296 f9
  replace f10 := shm_306 f10
  replace f11 := shm_299 f11
  replace f12 := shm_342 f12
  replace f15 := shm_5 f15
  replace f16 := shm_309 f16
  replace f17 := shm_310 f17
  have q4 : n_v vs 4 = n_v vs 0 := f15.symm
  simp only [q4] at f1 f2 f3 f4 f6 f7 f8 f9 f10 f11 f12 f16 f17
  have cr_0_1 := fdq_46 hD hth r0
  have cr_0_160 := fdq_41 hD hth r0
  have cr_0_162 := fdq_48 hD hth r0
  have cr_0_163 := fdq_49 hD hth r0
  have g1 : v_iv (n_v vs 6) = w_fi ws (n_v vs 0) 158 := congrArg v_iv f1
  have hK_0_1 := elq_6 hD hth cr_0_1
  have hK_0_160 := elq_5 hD hth cr_0_160
  have hK_0_162 := elq_7 hD hth cr_0_162
  have hK_0_163 := elq_8 hD hth cr_0_163
  have kz_0_8 := fdq_14 hD hth r0
  have kz_0_10 := fdq_50 hD hth r0
  have kz_0_157 := fdq_42 hD hth r0
  have kz_0_158 := fdq_43 hD hth r0
  have kz_0_164 := fdq_45 hD hth r0
  have kz_0_165 := fdq_35 hD hth r0
  have hrf0 : 1 ≤ v_iv (n_v vs 15) ∧ v_iv (n_v vs 15) ≤ 2009 := vc_Mo_product_at_f0_14_r0 (v_iv (n_v vs 1)) (v_iv (n_v vs 2)) (v_iv (n_v vs 3)) (v_iv (n_v vs 6)) (v_iv (n_v vs 7)) (v_iv (n_v vs 8)) (v_iv (n_v vs 9)) (v_iv (n_v vs 10)) (v_iv (n_v vs 11)) (v_iv (n_v vs 12)) (v_iv (n_v vs 13)) (v_iv (n_v vs 14)) (v_iv (n_v vs 15)) (w_fi ws (n_v vs 0) 158) (w_ei ws (w_ar ws (n_v vs 0) 160)) (w_ei ws (w_ar ws (n_v vs 0) 161)) (w_fi ws (n_v vs 0) 8) (w_fi ws (n_v vs 0) 157) (w_fi ws (n_v vs 0) 164) (w_fi ws (n_v vs 0) 165) (w_ei ws (w_ar ws (n_v vs 0) 162)) (w_ei ws (w_ar ws (n_v vs 0) 163)) (w_ei ws (w_ar ws (n_v vs 0) 1)) (w_fi ws (n_v vs 0) 10) k1 k2 k3 k6 k7 k8 k9 k10 k11 k12 k13 k14 k15 d0 (shm_12 f0) g1 f2 f3 f4 (shm_154 f5) f6 f7 f8 f9 f10 f11 f12 (shm_1477 f13) (shm_1013 f14) f16 f17 hK_0_1 hK_0_160 hK_0_162 hK_0_163 kz_0_8 kz_0_10 kz_0_157 kz_0_158 kz_0_164 kz_0_165
  have rf15 : tv_ok ta (0, 1, 2009, []) (n_v vs 15) := tv_in t15 (by first | omega | grind) (by first | omega | grind)
  refine ⟨List.forall_mem_cons.mpr ⟨rf15, (fun _ h => (by cases h))⟩, [], trivial, ?_, (fun _ h => (by cases h))⟩
  rw [List.append_nil]
  exact (fun _ h => (by cases h))
set_option maxHeartbeats 4000000 in
theorem vc_Mo_product_at_f0_15_0 (x1 : Int) (x2 : Int) (x3 : Int) (x6 : Int) (x7 : Int) (x8 : Int) (x9 : Int) (x10 : Int) (x11 : Int) (x12 : Int) (x13 : Int) (x14 : Int) (x15 : Int) (cur_0 : Int) (fault_0 : Int) (styleKind_0 : Int) (styleOne_0 : Int) (opened_0 : Int) (cur_1 : Int) (tokenKind_1 : Int → Int) (tokenValue_1 : Int → Int) (fault_1 : Int) (tokens_1 : Int) (styleKind_1 : Int) (styleOne_1 : Int) (opened_1 : Int) (tokenPlace_1 : Int → Int) (tokenEnd_1 : Int → Int) (tape_1 : Int → Int) (limit_1 : Int) (limit_0 : Int) (tokens_0 : Int) (tape_0 : Int → Int) (tokenKind_0 : Int → Int) (tokenValue_0 : Int → Int) (tokenPlace_0 : Int → Int) (tokenEnd_0 : Int → Int) (gx : Int) (gy : Int) (gu : Int) (k1 : 0 ≤ x1 ∧ x1 ≤ 2009) (k2 : 0 ≤ x2 ∧ x2 ≤ 5) (k3 : 0 ≤ x3 ∧ x3 ≤ 13) (k6 : 0 ≤ x6 ∧ x6 ≤ 2009) (k7 : 0 ≤ x7 ∧ x7 ≤ 2010) (k8 : 42 ≤ x8 ∧ x8 ≤ 42) (k9 : 0 ≤ x9 ∧ x9 ≤ 5) (k10 : 1 ≤ x10 ∧ x10 ≤ 1) (k11 : 42 ≤ x11 ∧ x11 ≤ 42) (k12 : 0 ≤ x12 ∧ x12 ≤ 5) (k13 : 0 ≤ x13 ∧ x13 ≤ 0) (k14 : 1 ≤ x14 ∧ x14 ≤ 1) (k15 : 1 ≤ x15 ∧ x15 ≤ 2009) (d0 : x6 + 1 ≤ x15 ∧ x15 ≤ x6 + 1) (g0 : x15 = cur_0) (f1 : fault_0 = x12) (f2 : fault_0 = x9) (f3 : (styleKind_0 = 0) → (styleOne_0 ≤ 23)) (f4 : 1 * opened_0 + 0 ≤ 0) (f5 : (-1) * opened_0 + 0 ≤ 0) (f6 : 1 * x3 + 0 ≤ 0) (f7 : (-1) * x3 + 0 ≤ 0) (f10 : x15 = x6 + x14) (g11 : x6 = cur_1) (f12 : (x13 = 1) → (tokenKind_1 (cur_1) = 3)) (f13 : SGN (cur_1) (tokenKind_1) (tokenValue_1) (x11) (x13) (x12)) (f14 : fault_1 = x12) (f15 : x10 ≠ 0) (f16 : (x10 = 1) → (tokenKind_1 (cur_1) = 3)) (f17 : SGN (cur_1) (tokenKind_1) (tokenValue_1) (x8) (x10) (x9)) (f18 : fault_1 = x9) (f19 : ((cur_1 + 1) ≤ tokens_1) ∧ ((tokens_1 ≤ 2010) ∧ ((tokenKind_1 ((tokens_1 - 1)) = 0) ∨ (tokenKind_1 ((tokens_1 - 1)) = 4)))) (f20 : 1 * x1 + ((-1) * cur_1 + 0) ≤ 0) (f21 : (styleKind_1 = 0) → (styleOne_1 ≤ 23)) (f22 : 1 * opened_1 + 0 ≤ 0) (f23 : (-1) * opened_1 + 0 ≤ 0) (f24 : SPWv (fault_1) (cur_1) (styleKind_1) (limit_1) (tokenKind_1) (tokenValue_1) (tokenPlace_1) (tokenEnd_1) (tape_1) (x1) (x2) (x3)) (f25 : 1 * x3 + 0 ≤ 0) (f26 : (-1) * x3 + 0 ≤ 0) (f27 : 1 * x7 + (1 * cur_1 + 0) ≤ 2010) (f28 : (-1) * x7 + ((-1) * cur_1 + 0) ≤ (-2010)) (fe_0_8_1 : fault_0 = fault_1) (fe_0_10_1 : limit_0 = limit_1) (fe_0_157_1 : tokens_0 = tokens_1) (fe_0_158_1 : cur_0 = x15) (fe_0_159_1 : opened_0 = opened_1) (fe_0_164_1 : styleKind_0 = styleKind_1) (fe_0_165_1 : styleOne_0 = styleOne_1) (hE_0_1_1 : ∀ j : Int, tape_0 j = tape_1 j) (hK_0_1 : ∀ j : Int, 0 ≤ j → j < 2000 → (-128) ≤ tape_0 j ∧ tape_0 j ≤ 127) (hE_0_160_1 : ∀ j : Int, tokenKind_0 j = tokenKind_1 j) (hK_0_160 : ∀ j : Int, 0 ≤ j → j < 2010 → 0 ≤ tokenKind_0 j ∧ tokenKind_0 j ≤ 4) (hE_0_161_1 : ∀ j : Int, tokenValue_0 j = tokenValue_1 j) (hE_0_162_1 : ∀ j : Int, tokenPlace_0 j = tokenPlace_1 j) (hK_0_162 : ∀ j : Int, 0 ≤ j → j < 2010 → 0 ≤ tokenPlace_0 j ∧ tokenPlace_0 j ≤ 2000) (hE_0_163_1 : ∀ j : Int, tokenEnd_0 j = tokenEnd_1 j) (hK_0_163 : ∀ j : Int, 0 ≤ j → j < 2010 → 0 ≤ tokenEnd_0 j ∧ tokenEnd_0 j ≤ 2000) (kz_0_8 : 0 ≤ fault_0 ∧ fault_0 ≤ 5) (kz_0_10 : 0 ≤ limit_0 ∧ limit_0 ≤ 2000) (kz_0_157 : 0 ≤ tokens_0 ∧ tokens_0 ≤ 2010) (kz_0_158 : 0 ≤ cur_0 ∧ cur_0 ≤ 2009) (kz_0_159 : 0 ≤ opened_0 ∧ opened_0 ≤ 13) (kz_0_164 : 0 ≤ styleKind_0 ∧ styleKind_0 ≤ 1) (kz_0_165 : (-1) ≤ styleOne_0 ∧ styleOne_0 ≤ 47) (ex2 : gx = cur_0) (ex3 : 0 ≤ gx ∧ gx ≤ 2009) (ey2 : gy = fault_0) (ey3 : 0 ≤ gy ∧ gy ≤ 5) (eu2 : gu = opened_0) (eu3 : 0 ≤ gu ∧ gu ≤ 13) : ((cur_0 + 1) ≤ tokens_0) ∧ ((tokens_0 ≤ 2010) ∧ ((tokenKind_0 ((tokens_0 - 1)) = 0) ∨ (tokenKind_0 ((tokens_0 - 1)) = 4))) := by
  subst fe_0_8_1
  subst fe_0_10_1
  subst fe_0_157_1
  subst fe_0_159_1
  subst fe_0_164_1
  subst fe_0_165_1
  have e_hE_0_1_1 := funext hE_0_1_1; subst e_hE_0_1_1
  have e_hE_0_160_1 := funext hE_0_160_1; subst e_hE_0_160_1
  have e_hE_0_161_1 := funext hE_0_161_1; subst e_hE_0_161_1
  have e_hE_0_162_1 := funext hE_0_162_1; subst e_hE_0_162_1
  have e_hE_0_163_1 := funext hE_0_163_1; subst e_hE_0_163_1
  first | assumption | (clear f3 f12 f16 f19 f21 hE_0_1_1 hK_0_1 hE_0_160_1 hK_0_160 hE_0_161_1 hE_0_162_1 hK_0_162 hE_0_163_1 hK_0_163; omega) | (clear hE_0_1_1 hK_0_1 hE_0_160_1 hK_0_160 hE_0_161_1 hE_0_162_1 hK_0_162 hE_0_163_1 hK_0_163; grind) | omega | grind
set_option maxHeartbeats 4000000 in
theorem vc_Mo_product_at_f0_15_1 (x1 : Int) (x2 : Int) (x3 : Int) (x6 : Int) (x7 : Int) (x8 : Int) (x9 : Int) (x10 : Int) (x11 : Int) (x12 : Int) (x13 : Int) (x14 : Int) (x15 : Int) (cur_0 : Int) (fault_0 : Int) (styleKind_0 : Int) (styleOne_0 : Int) (opened_0 : Int) (cur_1 : Int) (tokenKind_1 : Int → Int) (tokenValue_1 : Int → Int) (fault_1 : Int) (tokens_1 : Int) (styleKind_1 : Int) (styleOne_1 : Int) (opened_1 : Int) (tokenPlace_1 : Int → Int) (tokenEnd_1 : Int → Int) (tape_1 : Int → Int) (limit_1 : Int) (limit_0 : Int) (tokens_0 : Int) (tape_0 : Int → Int) (tokenKind_0 : Int → Int) (tokenValue_0 : Int → Int) (tokenPlace_0 : Int → Int) (tokenEnd_0 : Int → Int) (gx : Int) (gy : Int) (gu : Int) (k1 : 0 ≤ x1 ∧ x1 ≤ 2009) (k2 : 0 ≤ x2 ∧ x2 ≤ 5) (k3 : 0 ≤ x3 ∧ x3 ≤ 13) (k6 : 0 ≤ x6 ∧ x6 ≤ 2009) (k7 : 0 ≤ x7 ∧ x7 ≤ 2010) (k8 : 42 ≤ x8 ∧ x8 ≤ 42) (k9 : 0 ≤ x9 ∧ x9 ≤ 5) (k10 : 1 ≤ x10 ∧ x10 ≤ 1) (k11 : 42 ≤ x11 ∧ x11 ≤ 42) (k12 : 0 ≤ x12 ∧ x12 ≤ 5) (k13 : 0 ≤ x13 ∧ x13 ≤ 0) (k14 : 1 ≤ x14 ∧ x14 ≤ 1) (k15 : 1 ≤ x15 ∧ x15 ≤ 2009) (d0 : x6 + 1 ≤ x15 ∧ x15 ≤ x6 + 1) (g0 : x15 = cur_0) (f1 : fault_0 = x12) (f2 : fault_0 = x9) (f3 : (styleKind_0 = 0) → (styleOne_0 ≤ 23)) (f4 : 1 * opened_0 + 0 ≤ 0) (f5 : (-1) * opened_0 + 0 ≤ 0) (f6 : 1 * x3 + 0 ≤ 0) (f7 : (-1) * x3 + 0 ≤ 0) (f10 : x15 = x6 + x14) (g11 : x6 = cur_1) (f12 : (x13 = 1) → (tokenKind_1 (cur_1) = 3)) (f13 : SGN (cur_1) (tokenKind_1) (tokenValue_1) (x11) (x13) (x12)) (f14 : fault_1 = x12) (f15 : x10 ≠ 0) (f16 : (x10 = 1) → (tokenKind_1 (cur_1) = 3)) (f17 : SGN (cur_1) (tokenKind_1) (tokenValue_1) (x8) (x10) (x9)) (f18 : fault_1 = x9) (f19 : ((cur_1 + 1) ≤ tokens_1) ∧ ((tokens_1 ≤ 2010) ∧ ((tokenKind_1 ((tokens_1 - 1)) = 0) ∨ (tokenKind_1 ((tokens_1 - 1)) = 4)))) (f20 : 1 * x1 + ((-1) * cur_1 + 0) ≤ 0) (f21 : (styleKind_1 = 0) → (styleOne_1 ≤ 23)) (f22 : 1 * opened_1 + 0 ≤ 0) (f23 : (-1) * opened_1 + 0 ≤ 0) (f24 : SPWv (fault_1) (cur_1) (styleKind_1) (limit_1) (tokenKind_1) (tokenValue_1) (tokenPlace_1) (tokenEnd_1) (tape_1) (x1) (x2) (x3)) (f25 : 1 * x3 + 0 ≤ 0) (f26 : (-1) * x3 + 0 ≤ 0) (f27 : 1 * x7 + (1 * cur_1 + 0) ≤ 2010) (f28 : (-1) * x7 + ((-1) * cur_1 + 0) ≤ (-2010)) (fe_0_8_1 : fault_0 = fault_1) (fe_0_10_1 : limit_0 = limit_1) (fe_0_157_1 : tokens_0 = tokens_1) (fe_0_158_1 : cur_0 = x15) (fe_0_159_1 : opened_0 = opened_1) (fe_0_164_1 : styleKind_0 = styleKind_1) (fe_0_165_1 : styleOne_0 = styleOne_1) (hE_0_1_1 : ∀ j : Int, tape_0 j = tape_1 j) (hK_0_1 : ∀ j : Int, 0 ≤ j → j < 2000 → (-128) ≤ tape_0 j ∧ tape_0 j ≤ 127) (hE_0_160_1 : ∀ j : Int, tokenKind_0 j = tokenKind_1 j) (hK_0_160 : ∀ j : Int, 0 ≤ j → j < 2010 → 0 ≤ tokenKind_0 j ∧ tokenKind_0 j ≤ 4) (hE_0_161_1 : ∀ j : Int, tokenValue_0 j = tokenValue_1 j) (hE_0_162_1 : ∀ j : Int, tokenPlace_0 j = tokenPlace_1 j) (hK_0_162 : ∀ j : Int, 0 ≤ j → j < 2010 → 0 ≤ tokenPlace_0 j ∧ tokenPlace_0 j ≤ 2000) (hE_0_163_1 : ∀ j : Int, tokenEnd_0 j = tokenEnd_1 j) (hK_0_163 : ∀ j : Int, 0 ≤ j → j < 2010 → 0 ≤ tokenEnd_0 j ∧ tokenEnd_0 j ≤ 2000) (kz_0_8 : 0 ≤ fault_0 ∧ fault_0 ≤ 5) (kz_0_10 : 0 ≤ limit_0 ∧ limit_0 ≤ 2000) (kz_0_157 : 0 ≤ tokens_0 ∧ tokens_0 ≤ 2010) (kz_0_158 : 0 ≤ cur_0 ∧ cur_0 ≤ 2009) (kz_0_159 : 0 ≤ opened_0 ∧ opened_0 ≤ 13) (kz_0_164 : 0 ≤ styleKind_0 ∧ styleKind_0 ≤ 1) (kz_0_165 : (-1) ≤ styleOne_0 ∧ styleOne_0 ≤ 47) (ex2 : gx = cur_0) (ex3 : 0 ≤ gx ∧ gx ≤ 2009) (ey2 : gy = fault_0) (ey3 : 0 ≤ gy ∧ gy ≤ 5) (eu2 : gu = opened_0) (eu3 : 0 ≤ gu ∧ gu ≤ 13) : 1 * cur_0 + ((-1) * gx + 0) ≤ 0 := by
  subst fe_0_8_1
  subst fe_0_10_1
  subst fe_0_157_1
  subst fe_0_159_1
  subst fe_0_164_1
  subst fe_0_165_1
  have e_hE_0_1_1 := funext hE_0_1_1; subst e_hE_0_1_1
  have e_hE_0_160_1 := funext hE_0_160_1; subst e_hE_0_160_1
  have e_hE_0_161_1 := funext hE_0_161_1; subst e_hE_0_161_1
  have e_hE_0_162_1 := funext hE_0_162_1; subst e_hE_0_162_1
  have e_hE_0_163_1 := funext hE_0_163_1; subst e_hE_0_163_1
  first | assumption | (clear f3 f12 f16 f19 f21 hE_0_1_1 hK_0_1 hE_0_160_1 hK_0_160 hE_0_161_1 hE_0_162_1 hK_0_162 hE_0_163_1 hK_0_163; omega) | (clear hE_0_1_1 hK_0_1 hE_0_160_1 hK_0_160 hE_0_161_1 hE_0_162_1 hK_0_162 hE_0_163_1 hK_0_163; grind) | omega | grind
set_option maxHeartbeats 4000000 in
theorem vc_Mo_product_at_f0_15_2 (x1 : Int) (x2 : Int) (x3 : Int) (x6 : Int) (x7 : Int) (x8 : Int) (x9 : Int) (x10 : Int) (x11 : Int) (x12 : Int) (x13 : Int) (x14 : Int) (x15 : Int) (cur_0 : Int) (fault_0 : Int) (styleKind_0 : Int) (styleOne_0 : Int) (opened_0 : Int) (cur_1 : Int) (tokenKind_1 : Int → Int) (tokenValue_1 : Int → Int) (fault_1 : Int) (tokens_1 : Int) (styleKind_1 : Int) (styleOne_1 : Int) (opened_1 : Int) (tokenPlace_1 : Int → Int) (tokenEnd_1 : Int → Int) (tape_1 : Int → Int) (limit_1 : Int) (limit_0 : Int) (tokens_0 : Int) (tape_0 : Int → Int) (tokenKind_0 : Int → Int) (tokenValue_0 : Int → Int) (tokenPlace_0 : Int → Int) (tokenEnd_0 : Int → Int) (gx : Int) (gy : Int) (gu : Int) (k1 : 0 ≤ x1 ∧ x1 ≤ 2009) (k2 : 0 ≤ x2 ∧ x2 ≤ 5) (k3 : 0 ≤ x3 ∧ x3 ≤ 13) (k6 : 0 ≤ x6 ∧ x6 ≤ 2009) (k7 : 0 ≤ x7 ∧ x7 ≤ 2010) (k8 : 42 ≤ x8 ∧ x8 ≤ 42) (k9 : 0 ≤ x9 ∧ x9 ≤ 5) (k10 : 1 ≤ x10 ∧ x10 ≤ 1) (k11 : 42 ≤ x11 ∧ x11 ≤ 42) (k12 : 0 ≤ x12 ∧ x12 ≤ 5) (k13 : 0 ≤ x13 ∧ x13 ≤ 0) (k14 : 1 ≤ x14 ∧ x14 ≤ 1) (k15 : 1 ≤ x15 ∧ x15 ≤ 2009) (d0 : x6 + 1 ≤ x15 ∧ x15 ≤ x6 + 1) (g0 : x15 = cur_0) (f1 : fault_0 = x12) (f2 : fault_0 = x9) (f3 : (styleKind_0 = 0) → (styleOne_0 ≤ 23)) (f4 : 1 * opened_0 + 0 ≤ 0) (f5 : (-1) * opened_0 + 0 ≤ 0) (f6 : 1 * x3 + 0 ≤ 0) (f7 : (-1) * x3 + 0 ≤ 0) (f10 : x15 = x6 + x14) (g11 : x6 = cur_1) (f12 : (x13 = 1) → (tokenKind_1 (cur_1) = 3)) (f13 : SGN (cur_1) (tokenKind_1) (tokenValue_1) (x11) (x13) (x12)) (f14 : fault_1 = x12) (f15 : x10 ≠ 0) (f16 : (x10 = 1) → (tokenKind_1 (cur_1) = 3)) (f17 : SGN (cur_1) (tokenKind_1) (tokenValue_1) (x8) (x10) (x9)) (f18 : fault_1 = x9) (f19 : ((cur_1 + 1) ≤ tokens_1) ∧ ((tokens_1 ≤ 2010) ∧ ((tokenKind_1 ((tokens_1 - 1)) = 0) ∨ (tokenKind_1 ((tokens_1 - 1)) = 4)))) (f20 : 1 * x1 + ((-1) * cur_1 + 0) ≤ 0) (f21 : (styleKind_1 = 0) → (styleOne_1 ≤ 23)) (f22 : 1 * opened_1 + 0 ≤ 0) (f23 : (-1) * opened_1 + 0 ≤ 0) (f24 : SPWv (fault_1) (cur_1) (styleKind_1) (limit_1) (tokenKind_1) (tokenValue_1) (tokenPlace_1) (tokenEnd_1) (tape_1) (x1) (x2) (x3)) (f25 : 1 * x3 + 0 ≤ 0) (f26 : (-1) * x3 + 0 ≤ 0) (f27 : 1 * x7 + (1 * cur_1 + 0) ≤ 2010) (f28 : (-1) * x7 + ((-1) * cur_1 + 0) ≤ (-2010)) (fe_0_8_1 : fault_0 = fault_1) (fe_0_10_1 : limit_0 = limit_1) (fe_0_157_1 : tokens_0 = tokens_1) (fe_0_158_1 : cur_0 = x15) (fe_0_159_1 : opened_0 = opened_1) (fe_0_164_1 : styleKind_0 = styleKind_1) (fe_0_165_1 : styleOne_0 = styleOne_1) (hE_0_1_1 : ∀ j : Int, tape_0 j = tape_1 j) (hK_0_1 : ∀ j : Int, 0 ≤ j → j < 2000 → (-128) ≤ tape_0 j ∧ tape_0 j ≤ 127) (hE_0_160_1 : ∀ j : Int, tokenKind_0 j = tokenKind_1 j) (hK_0_160 : ∀ j : Int, 0 ≤ j → j < 2010 → 0 ≤ tokenKind_0 j ∧ tokenKind_0 j ≤ 4) (hE_0_161_1 : ∀ j : Int, tokenValue_0 j = tokenValue_1 j) (hE_0_162_1 : ∀ j : Int, tokenPlace_0 j = tokenPlace_1 j) (hK_0_162 : ∀ j : Int, 0 ≤ j → j < 2010 → 0 ≤ tokenPlace_0 j ∧ tokenPlace_0 j ≤ 2000) (hE_0_163_1 : ∀ j : Int, tokenEnd_0 j = tokenEnd_1 j) (hK_0_163 : ∀ j : Int, 0 ≤ j → j < 2010 → 0 ≤ tokenEnd_0 j ∧ tokenEnd_0 j ≤ 2000) (kz_0_8 : 0 ≤ fault_0 ∧ fault_0 ≤ 5) (kz_0_10 : 0 ≤ limit_0 ∧ limit_0 ≤ 2000) (kz_0_157 : 0 ≤ tokens_0 ∧ tokens_0 ≤ 2010) (kz_0_158 : 0 ≤ cur_0 ∧ cur_0 ≤ 2009) (kz_0_159 : 0 ≤ opened_0 ∧ opened_0 ≤ 13) (kz_0_164 : 0 ≤ styleKind_0 ∧ styleKind_0 ≤ 1) (kz_0_165 : (-1) ≤ styleOne_0 ∧ styleOne_0 ≤ 47) (ex2 : gx = cur_0) (ex3 : 0 ≤ gx ∧ gx ≤ 2009) (ey2 : gy = fault_0) (ey3 : 0 ≤ gy ∧ gy ≤ 5) (eu2 : gu = opened_0) (eu3 : 0 ≤ gu ∧ gu ≤ 13) : (-1) * cur_0 + (1 * gx + 0) ≤ 0 := by
  subst fe_0_8_1
  subst fe_0_10_1
  subst fe_0_157_1
  subst fe_0_159_1
  subst fe_0_164_1
  subst fe_0_165_1
  have e_hE_0_1_1 := funext hE_0_1_1; subst e_hE_0_1_1
  have e_hE_0_160_1 := funext hE_0_160_1; subst e_hE_0_160_1
  have e_hE_0_161_1 := funext hE_0_161_1; subst e_hE_0_161_1
  have e_hE_0_162_1 := funext hE_0_162_1; subst e_hE_0_162_1
  have e_hE_0_163_1 := funext hE_0_163_1; subst e_hE_0_163_1
  first | assumption | (clear f3 f12 f16 f19 f21 hE_0_1_1 hK_0_1 hE_0_160_1 hK_0_160 hE_0_161_1 hE_0_162_1 hK_0_162 hE_0_163_1 hK_0_163; omega) | (clear hE_0_1_1 hK_0_1 hE_0_160_1 hK_0_160 hE_0_161_1 hE_0_162_1 hK_0_162 hE_0_163_1 hK_0_163; grind) | omega | grind
set_option maxHeartbeats 4000000 in
theorem vc_Mo_product_at_f0_15_3 (x1 : Int) (x2 : Int) (x3 : Int) (x6 : Int) (x7 : Int) (x8 : Int) (x9 : Int) (x10 : Int) (x11 : Int) (x12 : Int) (x13 : Int) (x14 : Int) (x15 : Int) (cur_0 : Int) (fault_0 : Int) (styleKind_0 : Int) (styleOne_0 : Int) (opened_0 : Int) (cur_1 : Int) (tokenKind_1 : Int → Int) (tokenValue_1 : Int → Int) (fault_1 : Int) (tokens_1 : Int) (styleKind_1 : Int) (styleOne_1 : Int) (opened_1 : Int) (tokenPlace_1 : Int → Int) (tokenEnd_1 : Int → Int) (tape_1 : Int → Int) (limit_1 : Int) (limit_0 : Int) (tokens_0 : Int) (tape_0 : Int → Int) (tokenKind_0 : Int → Int) (tokenValue_0 : Int → Int) (tokenPlace_0 : Int → Int) (tokenEnd_0 : Int → Int) (gx : Int) (gy : Int) (gu : Int) (k1 : 0 ≤ x1 ∧ x1 ≤ 2009) (k2 : 0 ≤ x2 ∧ x2 ≤ 5) (k3 : 0 ≤ x3 ∧ x3 ≤ 13) (k6 : 0 ≤ x6 ∧ x6 ≤ 2009) (k7 : 0 ≤ x7 ∧ x7 ≤ 2010) (k8 : 42 ≤ x8 ∧ x8 ≤ 42) (k9 : 0 ≤ x9 ∧ x9 ≤ 5) (k10 : 1 ≤ x10 ∧ x10 ≤ 1) (k11 : 42 ≤ x11 ∧ x11 ≤ 42) (k12 : 0 ≤ x12 ∧ x12 ≤ 5) (k13 : 0 ≤ x13 ∧ x13 ≤ 0) (k14 : 1 ≤ x14 ∧ x14 ≤ 1) (k15 : 1 ≤ x15 ∧ x15 ≤ 2009) (d0 : x6 + 1 ≤ x15 ∧ x15 ≤ x6 + 1) (g0 : x15 = cur_0) (f1 : fault_0 = x12) (f2 : fault_0 = x9) (f3 : (styleKind_0 = 0) → (styleOne_0 ≤ 23)) (f4 : 1 * opened_0 + 0 ≤ 0) (f5 : (-1) * opened_0 + 0 ≤ 0) (f6 : 1 * x3 + 0 ≤ 0) (f7 : (-1) * x3 + 0 ≤ 0) (f10 : x15 = x6 + x14) (g11 : x6 = cur_1) (f12 : (x13 = 1) → (tokenKind_1 (cur_1) = 3)) (f13 : SGN (cur_1) (tokenKind_1) (tokenValue_1) (x11) (x13) (x12)) (f14 : fault_1 = x12) (f15 : x10 ≠ 0) (f16 : (x10 = 1) → (tokenKind_1 (cur_1) = 3)) (f17 : SGN (cur_1) (tokenKind_1) (tokenValue_1) (x8) (x10) (x9)) (f18 : fault_1 = x9) (f19 : ((cur_1 + 1) ≤ tokens_1) ∧ ((tokens_1 ≤ 2010) ∧ ((tokenKind_1 ((tokens_1 - 1)) = 0) ∨ (tokenKind_1 ((tokens_1 - 1)) = 4)))) (f20 : 1 * x1 + ((-1) * cur_1 + 0) ≤ 0) (f21 : (styleKind_1 = 0) → (styleOne_1 ≤ 23)) (f22 : 1 * opened_1 + 0 ≤ 0) (f23 : (-1) * opened_1 + 0 ≤ 0) (f24 : SPWv (fault_1) (cur_1) (styleKind_1) (limit_1) (tokenKind_1) (tokenValue_1) (tokenPlace_1) (tokenEnd_1) (tape_1) (x1) (x2) (x3)) (f25 : 1 * x3 + 0 ≤ 0) (f26 : (-1) * x3 + 0 ≤ 0) (f27 : 1 * x7 + (1 * cur_1 + 0) ≤ 2010) (f28 : (-1) * x7 + ((-1) * cur_1 + 0) ≤ (-2010)) (fe_0_8_1 : fault_0 = fault_1) (fe_0_10_1 : limit_0 = limit_1) (fe_0_157_1 : tokens_0 = tokens_1) (fe_0_158_1 : cur_0 = x15) (fe_0_159_1 : opened_0 = opened_1) (fe_0_164_1 : styleKind_0 = styleKind_1) (fe_0_165_1 : styleOne_0 = styleOne_1) (hE_0_1_1 : ∀ j : Int, tape_0 j = tape_1 j) (hK_0_1 : ∀ j : Int, 0 ≤ j → j < 2000 → (-128) ≤ tape_0 j ∧ tape_0 j ≤ 127) (hE_0_160_1 : ∀ j : Int, tokenKind_0 j = tokenKind_1 j) (hK_0_160 : ∀ j : Int, 0 ≤ j → j < 2010 → 0 ≤ tokenKind_0 j ∧ tokenKind_0 j ≤ 4) (hE_0_161_1 : ∀ j : Int, tokenValue_0 j = tokenValue_1 j) (hE_0_162_1 : ∀ j : Int, tokenPlace_0 j = tokenPlace_1 j) (hK_0_162 : ∀ j : Int, 0 ≤ j → j < 2010 → 0 ≤ tokenPlace_0 j ∧ tokenPlace_0 j ≤ 2000) (hE_0_163_1 : ∀ j : Int, tokenEnd_0 j = tokenEnd_1 j) (hK_0_163 : ∀ j : Int, 0 ≤ j → j < 2010 → 0 ≤ tokenEnd_0 j ∧ tokenEnd_0 j ≤ 2000) (kz_0_8 : 0 ≤ fault_0 ∧ fault_0 ≤ 5) (kz_0_10 : 0 ≤ limit_0 ∧ limit_0 ≤ 2000) (kz_0_157 : 0 ≤ tokens_0 ∧ tokens_0 ≤ 2010) (kz_0_158 : 0 ≤ cur_0 ∧ cur_0 ≤ 2009) (kz_0_159 : 0 ≤ opened_0 ∧ opened_0 ≤ 13) (kz_0_164 : 0 ≤ styleKind_0 ∧ styleKind_0 ≤ 1) (kz_0_165 : (-1) ≤ styleOne_0 ∧ styleOne_0 ≤ 47) (ex2 : gx = cur_0) (ex3 : 0 ≤ gx ∧ gx ≤ 2009) (ey2 : gy = fault_0) (ey3 : 0 ≤ gy ∧ gy ≤ 5) (eu2 : gu = opened_0) (eu3 : 0 ≤ gu ∧ gu ≤ 13) : (styleKind_0 = 0) → (styleOne_0 ≤ 23) := by
  subst fe_0_8_1
  subst fe_0_10_1
  subst fe_0_157_1
  subst fe_0_159_1
  subst fe_0_164_1
  subst fe_0_165_1
  have e_hE_0_1_1 := funext hE_0_1_1; subst e_hE_0_1_1
  have e_hE_0_160_1 := funext hE_0_160_1; subst e_hE_0_160_1
  have e_hE_0_161_1 := funext hE_0_161_1; subst e_hE_0_161_1
  have e_hE_0_162_1 := funext hE_0_162_1; subst e_hE_0_162_1
  have e_hE_0_163_1 := funext hE_0_163_1; subst e_hE_0_163_1
  first | assumption | (clear f3 f12 f16 f19 f21 hE_0_1_1 hK_0_1 hE_0_160_1 hK_0_160 hE_0_161_1 hE_0_162_1 hK_0_162 hE_0_163_1 hK_0_163; omega) | (clear hE_0_1_1 hK_0_1 hE_0_160_1 hK_0_160 hE_0_161_1 hE_0_162_1 hK_0_162 hE_0_163_1 hK_0_163; grind) | omega | grind
set_option maxHeartbeats 4000000 in
theorem vc_Mo_product_at_f0_15_4 (x1 : Int) (x2 : Int) (x3 : Int) (x6 : Int) (x7 : Int) (x8 : Int) (x9 : Int) (x10 : Int) (x11 : Int) (x12 : Int) (x13 : Int) (x14 : Int) (x15 : Int) (cur_0 : Int) (fault_0 : Int) (styleKind_0 : Int) (styleOne_0 : Int) (opened_0 : Int) (cur_1 : Int) (tokenKind_1 : Int → Int) (tokenValue_1 : Int → Int) (fault_1 : Int) (tokens_1 : Int) (styleKind_1 : Int) (styleOne_1 : Int) (opened_1 : Int) (tokenPlace_1 : Int → Int) (tokenEnd_1 : Int → Int) (tape_1 : Int → Int) (limit_1 : Int) (limit_0 : Int) (tokens_0 : Int) (tape_0 : Int → Int) (tokenKind_0 : Int → Int) (tokenValue_0 : Int → Int) (tokenPlace_0 : Int → Int) (tokenEnd_0 : Int → Int) (gx : Int) (gy : Int) (gu : Int) (k1 : 0 ≤ x1 ∧ x1 ≤ 2009) (k2 : 0 ≤ x2 ∧ x2 ≤ 5) (k3 : 0 ≤ x3 ∧ x3 ≤ 13) (k6 : 0 ≤ x6 ∧ x6 ≤ 2009) (k7 : 0 ≤ x7 ∧ x7 ≤ 2010) (k8 : 42 ≤ x8 ∧ x8 ≤ 42) (k9 : 0 ≤ x9 ∧ x9 ≤ 5) (k10 : 1 ≤ x10 ∧ x10 ≤ 1) (k11 : 42 ≤ x11 ∧ x11 ≤ 42) (k12 : 0 ≤ x12 ∧ x12 ≤ 5) (k13 : 0 ≤ x13 ∧ x13 ≤ 0) (k14 : 1 ≤ x14 ∧ x14 ≤ 1) (k15 : 1 ≤ x15 ∧ x15 ≤ 2009) (d0 : x6 + 1 ≤ x15 ∧ x15 ≤ x6 + 1) (g0 : x15 = cur_0) (f1 : fault_0 = x12) (f2 : fault_0 = x9) (f3 : (styleKind_0 = 0) → (styleOne_0 ≤ 23)) (f4 : 1 * opened_0 + 0 ≤ 0) (f5 : (-1) * opened_0 + 0 ≤ 0) (f6 : 1 * x3 + 0 ≤ 0) (f7 : (-1) * x3 + 0 ≤ 0) (f10 : x15 = x6 + x14) (g11 : x6 = cur_1) (f12 : (x13 = 1) → (tokenKind_1 (cur_1) = 3)) (f13 : SGN (cur_1) (tokenKind_1) (tokenValue_1) (x11) (x13) (x12)) (f14 : fault_1 = x12) (f15 : x10 ≠ 0) (f16 : (x10 = 1) → (tokenKind_1 (cur_1) = 3)) (f17 : SGN (cur_1) (tokenKind_1) (tokenValue_1) (x8) (x10) (x9)) (f18 : fault_1 = x9) (f19 : ((cur_1 + 1) ≤ tokens_1) ∧ ((tokens_1 ≤ 2010) ∧ ((tokenKind_1 ((tokens_1 - 1)) = 0) ∨ (tokenKind_1 ((tokens_1 - 1)) = 4)))) (f20 : 1 * x1 + ((-1) * cur_1 + 0) ≤ 0) (f21 : (styleKind_1 = 0) → (styleOne_1 ≤ 23)) (f22 : 1 * opened_1 + 0 ≤ 0) (f23 : (-1) * opened_1 + 0 ≤ 0) (f24 : SPWv (fault_1) (cur_1) (styleKind_1) (limit_1) (tokenKind_1) (tokenValue_1) (tokenPlace_1) (tokenEnd_1) (tape_1) (x1) (x2) (x3)) (f25 : 1 * x3 + 0 ≤ 0) (f26 : (-1) * x3 + 0 ≤ 0) (f27 : 1 * x7 + (1 * cur_1 + 0) ≤ 2010) (f28 : (-1) * x7 + ((-1) * cur_1 + 0) ≤ (-2010)) (fe_0_8_1 : fault_0 = fault_1) (fe_0_10_1 : limit_0 = limit_1) (fe_0_157_1 : tokens_0 = tokens_1) (fe_0_158_1 : cur_0 = x15) (fe_0_159_1 : opened_0 = opened_1) (fe_0_164_1 : styleKind_0 = styleKind_1) (fe_0_165_1 : styleOne_0 = styleOne_1) (hE_0_1_1 : ∀ j : Int, tape_0 j = tape_1 j) (hK_0_1 : ∀ j : Int, 0 ≤ j → j < 2000 → (-128) ≤ tape_0 j ∧ tape_0 j ≤ 127) (hE_0_160_1 : ∀ j : Int, tokenKind_0 j = tokenKind_1 j) (hK_0_160 : ∀ j : Int, 0 ≤ j → j < 2010 → 0 ≤ tokenKind_0 j ∧ tokenKind_0 j ≤ 4) (hE_0_161_1 : ∀ j : Int, tokenValue_0 j = tokenValue_1 j) (hE_0_162_1 : ∀ j : Int, tokenPlace_0 j = tokenPlace_1 j) (hK_0_162 : ∀ j : Int, 0 ≤ j → j < 2010 → 0 ≤ tokenPlace_0 j ∧ tokenPlace_0 j ≤ 2000) (hE_0_163_1 : ∀ j : Int, tokenEnd_0 j = tokenEnd_1 j) (hK_0_163 : ∀ j : Int, 0 ≤ j → j < 2010 → 0 ≤ tokenEnd_0 j ∧ tokenEnd_0 j ≤ 2000) (kz_0_8 : 0 ≤ fault_0 ∧ fault_0 ≤ 5) (kz_0_10 : 0 ≤ limit_0 ∧ limit_0 ≤ 2000) (kz_0_157 : 0 ≤ tokens_0 ∧ tokens_0 ≤ 2010) (kz_0_158 : 0 ≤ cur_0 ∧ cur_0 ≤ 2009) (kz_0_159 : 0 ≤ opened_0 ∧ opened_0 ≤ 13) (kz_0_164 : 0 ≤ styleKind_0 ∧ styleKind_0 ≤ 1) (kz_0_165 : (-1) ≤ styleOne_0 ∧ styleOne_0 ≤ 47) (ex2 : gx = cur_0) (ex3 : 0 ≤ gx ∧ gx ≤ 2009) (ey2 : gy = fault_0) (ey3 : 0 ≤ gy ∧ gy ≤ 5) (eu2 : gu = opened_0) (eu3 : 0 ≤ gu ∧ gu ≤ 13) : 1 * opened_0 + 0 ≤ 0 := by
  subst fe_0_8_1
  subst fe_0_10_1
  subst fe_0_157_1
  subst fe_0_159_1
  subst fe_0_164_1
  subst fe_0_165_1
  have e_hE_0_1_1 := funext hE_0_1_1; subst e_hE_0_1_1
  have e_hE_0_160_1 := funext hE_0_160_1; subst e_hE_0_160_1
  have e_hE_0_161_1 := funext hE_0_161_1; subst e_hE_0_161_1
  have e_hE_0_162_1 := funext hE_0_162_1; subst e_hE_0_162_1
  have e_hE_0_163_1 := funext hE_0_163_1; subst e_hE_0_163_1
  first | assumption | (clear f3 f12 f16 f19 f21 hE_0_1_1 hK_0_1 hE_0_160_1 hK_0_160 hE_0_161_1 hE_0_162_1 hK_0_162 hE_0_163_1 hK_0_163; omega) | (clear hE_0_1_1 hK_0_1 hE_0_160_1 hK_0_160 hE_0_161_1 hE_0_162_1 hK_0_162 hE_0_163_1 hK_0_163; grind) | omega | grind
set_option maxHeartbeats 4000000 in
theorem vc_Mo_product_at_f0_15_5 (x1 : Int) (x2 : Int) (x3 : Int) (x6 : Int) (x7 : Int) (x8 : Int) (x9 : Int) (x10 : Int) (x11 : Int) (x12 : Int) (x13 : Int) (x14 : Int) (x15 : Int) (cur_0 : Int) (fault_0 : Int) (styleKind_0 : Int) (styleOne_0 : Int) (opened_0 : Int) (cur_1 : Int) (tokenKind_1 : Int → Int) (tokenValue_1 : Int → Int) (fault_1 : Int) (tokens_1 : Int) (styleKind_1 : Int) (styleOne_1 : Int) (opened_1 : Int) (tokenPlace_1 : Int → Int) (tokenEnd_1 : Int → Int) (tape_1 : Int → Int) (limit_1 : Int) (limit_0 : Int) (tokens_0 : Int) (tape_0 : Int → Int) (tokenKind_0 : Int → Int) (tokenValue_0 : Int → Int) (tokenPlace_0 : Int → Int) (tokenEnd_0 : Int → Int) (gx : Int) (gy : Int) (gu : Int) (k1 : 0 ≤ x1 ∧ x1 ≤ 2009) (k2 : 0 ≤ x2 ∧ x2 ≤ 5) (k3 : 0 ≤ x3 ∧ x3 ≤ 13) (k6 : 0 ≤ x6 ∧ x6 ≤ 2009) (k7 : 0 ≤ x7 ∧ x7 ≤ 2010) (k8 : 42 ≤ x8 ∧ x8 ≤ 42) (k9 : 0 ≤ x9 ∧ x9 ≤ 5) (k10 : 1 ≤ x10 ∧ x10 ≤ 1) (k11 : 42 ≤ x11 ∧ x11 ≤ 42) (k12 : 0 ≤ x12 ∧ x12 ≤ 5) (k13 : 0 ≤ x13 ∧ x13 ≤ 0) (k14 : 1 ≤ x14 ∧ x14 ≤ 1) (k15 : 1 ≤ x15 ∧ x15 ≤ 2009) (d0 : x6 + 1 ≤ x15 ∧ x15 ≤ x6 + 1) (g0 : x15 = cur_0) (f1 : fault_0 = x12) (f2 : fault_0 = x9) (f3 : (styleKind_0 = 0) → (styleOne_0 ≤ 23)) (f4 : 1 * opened_0 + 0 ≤ 0) (f5 : (-1) * opened_0 + 0 ≤ 0) (f6 : 1 * x3 + 0 ≤ 0) (f7 : (-1) * x3 + 0 ≤ 0) (f10 : x15 = x6 + x14) (g11 : x6 = cur_1) (f12 : (x13 = 1) → (tokenKind_1 (cur_1) = 3)) (f13 : SGN (cur_1) (tokenKind_1) (tokenValue_1) (x11) (x13) (x12)) (f14 : fault_1 = x12) (f15 : x10 ≠ 0) (f16 : (x10 = 1) → (tokenKind_1 (cur_1) = 3)) (f17 : SGN (cur_1) (tokenKind_1) (tokenValue_1) (x8) (x10) (x9)) (f18 : fault_1 = x9) (f19 : ((cur_1 + 1) ≤ tokens_1) ∧ ((tokens_1 ≤ 2010) ∧ ((tokenKind_1 ((tokens_1 - 1)) = 0) ∨ (tokenKind_1 ((tokens_1 - 1)) = 4)))) (f20 : 1 * x1 + ((-1) * cur_1 + 0) ≤ 0) (f21 : (styleKind_1 = 0) → (styleOne_1 ≤ 23)) (f22 : 1 * opened_1 + 0 ≤ 0) (f23 : (-1) * opened_1 + 0 ≤ 0) (f24 : SPWv (fault_1) (cur_1) (styleKind_1) (limit_1) (tokenKind_1) (tokenValue_1) (tokenPlace_1) (tokenEnd_1) (tape_1) (x1) (x2) (x3)) (f25 : 1 * x3 + 0 ≤ 0) (f26 : (-1) * x3 + 0 ≤ 0) (f27 : 1 * x7 + (1 * cur_1 + 0) ≤ 2010) (f28 : (-1) * x7 + ((-1) * cur_1 + 0) ≤ (-2010)) (fe_0_8_1 : fault_0 = fault_1) (fe_0_10_1 : limit_0 = limit_1) (fe_0_157_1 : tokens_0 = tokens_1) (fe_0_158_1 : cur_0 = x15) (fe_0_159_1 : opened_0 = opened_1) (fe_0_164_1 : styleKind_0 = styleKind_1) (fe_0_165_1 : styleOne_0 = styleOne_1) (hE_0_1_1 : ∀ j : Int, tape_0 j = tape_1 j) (hK_0_1 : ∀ j : Int, 0 ≤ j → j < 2000 → (-128) ≤ tape_0 j ∧ tape_0 j ≤ 127) (hE_0_160_1 : ∀ j : Int, tokenKind_0 j = tokenKind_1 j) (hK_0_160 : ∀ j : Int, 0 ≤ j → j < 2010 → 0 ≤ tokenKind_0 j ∧ tokenKind_0 j ≤ 4) (hE_0_161_1 : ∀ j : Int, tokenValue_0 j = tokenValue_1 j) (hE_0_162_1 : ∀ j : Int, tokenPlace_0 j = tokenPlace_1 j) (hK_0_162 : ∀ j : Int, 0 ≤ j → j < 2010 → 0 ≤ tokenPlace_0 j ∧ tokenPlace_0 j ≤ 2000) (hE_0_163_1 : ∀ j : Int, tokenEnd_0 j = tokenEnd_1 j) (hK_0_163 : ∀ j : Int, 0 ≤ j → j < 2010 → 0 ≤ tokenEnd_0 j ∧ tokenEnd_0 j ≤ 2000) (kz_0_8 : 0 ≤ fault_0 ∧ fault_0 ≤ 5) (kz_0_10 : 0 ≤ limit_0 ∧ limit_0 ≤ 2000) (kz_0_157 : 0 ≤ tokens_0 ∧ tokens_0 ≤ 2010) (kz_0_158 : 0 ≤ cur_0 ∧ cur_0 ≤ 2009) (kz_0_159 : 0 ≤ opened_0 ∧ opened_0 ≤ 13) (kz_0_164 : 0 ≤ styleKind_0 ∧ styleKind_0 ≤ 1) (kz_0_165 : (-1) ≤ styleOne_0 ∧ styleOne_0 ≤ 47) (ex2 : gx = cur_0) (ex3 : 0 ≤ gx ∧ gx ≤ 2009) (ey2 : gy = fault_0) (ey3 : 0 ≤ gy ∧ gy ≤ 5) (eu2 : gu = opened_0) (eu3 : 0 ≤ gu ∧ gu ≤ 13) : (-1) * opened_0 + 0 ≤ 0 := by
  subst fe_0_8_1
  subst fe_0_10_1
  subst fe_0_157_1
  subst fe_0_159_1
  subst fe_0_164_1
  subst fe_0_165_1
  have e_hE_0_1_1 := funext hE_0_1_1; subst e_hE_0_1_1
  have e_hE_0_160_1 := funext hE_0_160_1; subst e_hE_0_160_1
  have e_hE_0_161_1 := funext hE_0_161_1; subst e_hE_0_161_1
  have e_hE_0_162_1 := funext hE_0_162_1; subst e_hE_0_162_1
  have e_hE_0_163_1 := funext hE_0_163_1; subst e_hE_0_163_1
  first | assumption | (clear f3 f12 f16 f19 f21 hE_0_1_1 hK_0_1 hE_0_160_1 hK_0_160 hE_0_161_1 hE_0_162_1 hK_0_162 hE_0_163_1 hK_0_163; omega) | (clear hE_0_1_1 hK_0_1 hE_0_160_1 hK_0_160 hE_0_161_1 hE_0_162_1 hK_0_162 hE_0_163_1 hK_0_163; grind) | omega | grind
set_option maxHeartbeats 4000000 in
theorem vc_Mo_product_at_f0_15_6 (x1 : Int) (x2 : Int) (x3 : Int) (x6 : Int) (x7 : Int) (x8 : Int) (x9 : Int) (x10 : Int) (x11 : Int) (x12 : Int) (x13 : Int) (x14 : Int) (x15 : Int) (cur_0 : Int) (fault_0 : Int) (styleKind_0 : Int) (styleOne_0 : Int) (opened_0 : Int) (cur_1 : Int) (tokenKind_1 : Int → Int) (tokenValue_1 : Int → Int) (fault_1 : Int) (tokens_1 : Int) (styleKind_1 : Int) (styleOne_1 : Int) (opened_1 : Int) (tokenPlace_1 : Int → Int) (tokenEnd_1 : Int → Int) (tape_1 : Int → Int) (limit_1 : Int) (limit_0 : Int) (tokens_0 : Int) (tape_0 : Int → Int) (tokenKind_0 : Int → Int) (tokenValue_0 : Int → Int) (tokenPlace_0 : Int → Int) (tokenEnd_0 : Int → Int) (gx : Int) (gy : Int) (gu : Int) (k1 : 0 ≤ x1 ∧ x1 ≤ 2009) (k2 : 0 ≤ x2 ∧ x2 ≤ 5) (k3 : 0 ≤ x3 ∧ x3 ≤ 13) (k6 : 0 ≤ x6 ∧ x6 ≤ 2009) (k7 : 0 ≤ x7 ∧ x7 ≤ 2010) (k8 : 42 ≤ x8 ∧ x8 ≤ 42) (k9 : 0 ≤ x9 ∧ x9 ≤ 5) (k10 : 1 ≤ x10 ∧ x10 ≤ 1) (k11 : 42 ≤ x11 ∧ x11 ≤ 42) (k12 : 0 ≤ x12 ∧ x12 ≤ 5) (k13 : 0 ≤ x13 ∧ x13 ≤ 0) (k14 : 1 ≤ x14 ∧ x14 ≤ 1) (k15 : 1 ≤ x15 ∧ x15 ≤ 2009) (d0 : x6 + 1 ≤ x15 ∧ x15 ≤ x6 + 1) (g0 : x15 = cur_0) (f1 : fault_0 = x12) (f2 : fault_0 = x9) (f3 : (styleKind_0 = 0) → (styleOne_0 ≤ 23)) (f4 : 1 * opened_0 + 0 ≤ 0) (f5 : (-1) * opened_0 + 0 ≤ 0) (f6 : 1 * x3 + 0 ≤ 0) (f7 : (-1) * x3 + 0 ≤ 0) (f10 : x15 = x6 + x14) (g11 : x6 = cur_1) (f12 : (x13 = 1) → (tokenKind_1 (cur_1) = 3)) (f13 : SGN (cur_1) (tokenKind_1) (tokenValue_1) (x11) (x13) (x12)) (f14 : fault_1 = x12) (f15 : x10 ≠ 0) (f16 : (x10 = 1) → (tokenKind_1 (cur_1) = 3)) (f17 : SGN (cur_1) (tokenKind_1) (tokenValue_1) (x8) (x10) (x9)) (f18 : fault_1 = x9) (f19 : ((cur_1 + 1) ≤ tokens_1) ∧ ((tokens_1 ≤ 2010) ∧ ((tokenKind_1 ((tokens_1 - 1)) = 0) ∨ (tokenKind_1 ((tokens_1 - 1)) = 4)))) (f20 : 1 * x1 + ((-1) * cur_1 + 0) ≤ 0) (f21 : (styleKind_1 = 0) → (styleOne_1 ≤ 23)) (f22 : 1 * opened_1 + 0 ≤ 0) (f23 : (-1) * opened_1 + 0 ≤ 0) (f24 : SPWv (fault_1) (cur_1) (styleKind_1) (limit_1) (tokenKind_1) (tokenValue_1) (tokenPlace_1) (tokenEnd_1) (tape_1) (x1) (x2) (x3)) (f25 : 1 * x3 + 0 ≤ 0) (f26 : (-1) * x3 + 0 ≤ 0) (f27 : 1 * x7 + (1 * cur_1 + 0) ≤ 2010) (f28 : (-1) * x7 + ((-1) * cur_1 + 0) ≤ (-2010)) (fe_0_8_1 : fault_0 = fault_1) (fe_0_10_1 : limit_0 = limit_1) (fe_0_157_1 : tokens_0 = tokens_1) (fe_0_158_1 : cur_0 = x15) (fe_0_159_1 : opened_0 = opened_1) (fe_0_164_1 : styleKind_0 = styleKind_1) (fe_0_165_1 : styleOne_0 = styleOne_1) (hE_0_1_1 : ∀ j : Int, tape_0 j = tape_1 j) (hK_0_1 : ∀ j : Int, 0 ≤ j → j < 2000 → (-128) ≤ tape_0 j ∧ tape_0 j ≤ 127) (hE_0_160_1 : ∀ j : Int, tokenKind_0 j = tokenKind_1 j) (hK_0_160 : ∀ j : Int, 0 ≤ j → j < 2010 → 0 ≤ tokenKind_0 j ∧ tokenKind_0 j ≤ 4) (hE_0_161_1 : ∀ j : Int, tokenValue_0 j = tokenValue_1 j) (hE_0_162_1 : ∀ j : Int, tokenPlace_0 j = tokenPlace_1 j) (hK_0_162 : ∀ j : Int, 0 ≤ j → j < 2010 → 0 ≤ tokenPlace_0 j ∧ tokenPlace_0 j ≤ 2000) (hE_0_163_1 : ∀ j : Int, tokenEnd_0 j = tokenEnd_1 j) (hK_0_163 : ∀ j : Int, 0 ≤ j → j < 2010 → 0 ≤ tokenEnd_0 j ∧ tokenEnd_0 j ≤ 2000) (kz_0_8 : 0 ≤ fault_0 ∧ fault_0 ≤ 5) (kz_0_10 : 0 ≤ limit_0 ∧ limit_0 ≤ 2000) (kz_0_157 : 0 ≤ tokens_0 ∧ tokens_0 ≤ 2010) (kz_0_158 : 0 ≤ cur_0 ∧ cur_0 ≤ 2009) (kz_0_159 : 0 ≤ opened_0 ∧ opened_0 ≤ 13) (kz_0_164 : 0 ≤ styleKind_0 ∧ styleKind_0 ≤ 1) (kz_0_165 : (-1) ≤ styleOne_0 ∧ styleOne_0 ≤ 47) (ex2 : gx = cur_0) (ex3 : 0 ≤ gx ∧ gx ≤ 2009) (ey2 : gy = fault_0) (ey3 : 0 ≤ gy ∧ gy ≤ 5) (eu2 : gu = opened_0) (eu3 : 0 ≤ gu ∧ gu ≤ 13) : fault_0 = gy := by
  subst fe_0_8_1
  subst fe_0_10_1
  subst fe_0_157_1
  subst fe_0_159_1
  subst fe_0_164_1
  subst fe_0_165_1
  have e_hE_0_1_1 := funext hE_0_1_1; subst e_hE_0_1_1
  have e_hE_0_160_1 := funext hE_0_160_1; subst e_hE_0_160_1
  have e_hE_0_161_1 := funext hE_0_161_1; subst e_hE_0_161_1
  have e_hE_0_162_1 := funext hE_0_162_1; subst e_hE_0_162_1
  have e_hE_0_163_1 := funext hE_0_163_1; subst e_hE_0_163_1
  first | assumption | (clear f3 f12 f16 f19 f21 hE_0_1_1 hK_0_1 hE_0_160_1 hK_0_160 hE_0_161_1 hE_0_162_1 hK_0_162 hE_0_163_1 hK_0_163; omega) | (clear hE_0_1_1 hK_0_1 hE_0_160_1 hK_0_160 hE_0_161_1 hE_0_162_1 hK_0_162 hE_0_163_1 hK_0_163; grind) | omega | grind
set_option maxHeartbeats 4000000 in
theorem vc_Mo_product_at_f0_15_7 (x1 : Int) (x2 : Int) (x3 : Int) (x6 : Int) (x7 : Int) (x8 : Int) (x9 : Int) (x10 : Int) (x11 : Int) (x12 : Int) (x13 : Int) (x14 : Int) (x15 : Int) (cur_0 : Int) (fault_0 : Int) (styleKind_0 : Int) (styleOne_0 : Int) (opened_0 : Int) (cur_1 : Int) (tokenKind_1 : Int → Int) (tokenValue_1 : Int → Int) (fault_1 : Int) (tokens_1 : Int) (styleKind_1 : Int) (styleOne_1 : Int) (opened_1 : Int) (tokenPlace_1 : Int → Int) (tokenEnd_1 : Int → Int) (tape_1 : Int → Int) (limit_1 : Int) (limit_0 : Int) (tokens_0 : Int) (tape_0 : Int → Int) (tokenKind_0 : Int → Int) (tokenValue_0 : Int → Int) (tokenPlace_0 : Int → Int) (tokenEnd_0 : Int → Int) (gx : Int) (gy : Int) (gu : Int) (k1 : 0 ≤ x1 ∧ x1 ≤ 2009) (k2 : 0 ≤ x2 ∧ x2 ≤ 5) (k3 : 0 ≤ x3 ∧ x3 ≤ 13) (k6 : 0 ≤ x6 ∧ x6 ≤ 2009) (k7 : 0 ≤ x7 ∧ x7 ≤ 2010) (k8 : 42 ≤ x8 ∧ x8 ≤ 42) (k9 : 0 ≤ x9 ∧ x9 ≤ 5) (k10 : 1 ≤ x10 ∧ x10 ≤ 1) (k11 : 42 ≤ x11 ∧ x11 ≤ 42) (k12 : 0 ≤ x12 ∧ x12 ≤ 5) (k13 : 0 ≤ x13 ∧ x13 ≤ 0) (k14 : 1 ≤ x14 ∧ x14 ≤ 1) (k15 : 1 ≤ x15 ∧ x15 ≤ 2009) (d0 : x6 + 1 ≤ x15 ∧ x15 ≤ x6 + 1) (g0 : x15 = cur_0) (f1 : fault_0 = x12) (f2 : fault_0 = x9) (f3 : (styleKind_0 = 0) → (styleOne_0 ≤ 23)) (f4 : 1 * opened_0 + 0 ≤ 0) (f5 : (-1) * opened_0 + 0 ≤ 0) (f6 : 1 * x3 + 0 ≤ 0) (f7 : (-1) * x3 + 0 ≤ 0) (f10 : x15 = x6 + x14) (g11 : x6 = cur_1) (f12 : (x13 = 1) → (tokenKind_1 (cur_1) = 3)) (f13 : SGN (cur_1) (tokenKind_1) (tokenValue_1) (x11) (x13) (x12)) (f14 : fault_1 = x12) (f15 : x10 ≠ 0) (f16 : (x10 = 1) → (tokenKind_1 (cur_1) = 3)) (f17 : SGN (cur_1) (tokenKind_1) (tokenValue_1) (x8) (x10) (x9)) (f18 : fault_1 = x9) (f19 : ((cur_1 + 1) ≤ tokens_1) ∧ ((tokens_1 ≤ 2010) ∧ ((tokenKind_1 ((tokens_1 - 1)) = 0) ∨ (tokenKind_1 ((tokens_1 - 1)) = 4)))) (f20 : 1 * x1 + ((-1) * cur_1 + 0) ≤ 0) (f21 : (styleKind_1 = 0) → (styleOne_1 ≤ 23)) (f22 : 1 * opened_1 + 0 ≤ 0) (f23 : (-1) * opened_1 + 0 ≤ 0) (f24 : SPWv (fault_1) (cur_1) (styleKind_1) (limit_1) (tokenKind_1) (tokenValue_1) (tokenPlace_1) (tokenEnd_1) (tape_1) (x1) (x2) (x3)) (f25 : 1 * x3 + 0 ≤ 0) (f26 : (-1) * x3 + 0 ≤ 0) (f27 : 1 * x7 + (1 * cur_1 + 0) ≤ 2010) (f28 : (-1) * x7 + ((-1) * cur_1 + 0) ≤ (-2010)) (fe_0_8_1 : fault_0 = fault_1) (fe_0_10_1 : limit_0 = limit_1) (fe_0_157_1 : tokens_0 = tokens_1) (fe_0_158_1 : cur_0 = x15) (fe_0_159_1 : opened_0 = opened_1) (fe_0_164_1 : styleKind_0 = styleKind_1) (fe_0_165_1 : styleOne_0 = styleOne_1) (hE_0_1_1 : ∀ j : Int, tape_0 j = tape_1 j) (hK_0_1 : ∀ j : Int, 0 ≤ j → j < 2000 → (-128) ≤ tape_0 j ∧ tape_0 j ≤ 127) (hE_0_160_1 : ∀ j : Int, tokenKind_0 j = tokenKind_1 j) (hK_0_160 : ∀ j : Int, 0 ≤ j → j < 2010 → 0 ≤ tokenKind_0 j ∧ tokenKind_0 j ≤ 4) (hE_0_161_1 : ∀ j : Int, tokenValue_0 j = tokenValue_1 j) (hE_0_162_1 : ∀ j : Int, tokenPlace_0 j = tokenPlace_1 j) (hK_0_162 : ∀ j : Int, 0 ≤ j → j < 2010 → 0 ≤ tokenPlace_0 j ∧ tokenPlace_0 j ≤ 2000) (hE_0_163_1 : ∀ j : Int, tokenEnd_0 j = tokenEnd_1 j) (hK_0_163 : ∀ j : Int, 0 ≤ j → j < 2010 → 0 ≤ tokenEnd_0 j ∧ tokenEnd_0 j ≤ 2000) (kz_0_8 : 0 ≤ fault_0 ∧ fault_0 ≤ 5) (kz_0_10 : 0 ≤ limit_0 ∧ limit_0 ≤ 2000) (kz_0_157 : 0 ≤ tokens_0 ∧ tokens_0 ≤ 2010) (kz_0_158 : 0 ≤ cur_0 ∧ cur_0 ≤ 2009) (kz_0_159 : 0 ≤ opened_0 ∧ opened_0 ≤ 13) (kz_0_164 : 0 ≤ styleKind_0 ∧ styleKind_0 ≤ 1) (kz_0_165 : (-1) ≤ styleOne_0 ∧ styleOne_0 ≤ 47) (ex2 : gx = cur_0) (ex3 : 0 ≤ gx ∧ gx ≤ 2009) (ey2 : gy = fault_0) (ey3 : 0 ≤ gy ∧ gy ≤ 5) (eu2 : gu = opened_0) (eu3 : 0 ≤ gu ∧ gu ≤ 13) : opened_0 = gu := by
  subst fe_0_8_1
  subst fe_0_10_1
  subst fe_0_157_1
  subst fe_0_159_1
  subst fe_0_164_1
  subst fe_0_165_1
  have e_hE_0_1_1 := funext hE_0_1_1; subst e_hE_0_1_1
  have e_hE_0_160_1 := funext hE_0_160_1; subst e_hE_0_160_1
  have e_hE_0_161_1 := funext hE_0_161_1; subst e_hE_0_161_1
  have e_hE_0_162_1 := funext hE_0_162_1; subst e_hE_0_162_1
  have e_hE_0_163_1 := funext hE_0_163_1; subst e_hE_0_163_1
  first | assumption | (clear f3 f12 f16 f19 f21 hE_0_1_1 hK_0_1 hE_0_160_1 hK_0_160 hE_0_161_1 hE_0_162_1 hK_0_162 hE_0_163_1 hK_0_163; omega) | (clear hE_0_1_1 hK_0_1 hE_0_160_1 hK_0_160 hE_0_161_1 hE_0_162_1 hK_0_162 hE_0_163_1 hK_0_163; grind) | omega | grind
set_option maxHeartbeats 4000000 in
theorem vc_Mo_product_at_f0_15_8 (x1 : Int) (x2 : Int) (x3 : Int) (x6 : Int) (x7 : Int) (x8 : Int) (x9 : Int) (x10 : Int) (x11 : Int) (x12 : Int) (x13 : Int) (x14 : Int) (x15 : Int) (cur_0 : Int) (fault_0 : Int) (styleKind_0 : Int) (styleOne_0 : Int) (opened_0 : Int) (cur_1 : Int) (tokenKind_1 : Int → Int) (tokenValue_1 : Int → Int) (fault_1 : Int) (tokens_1 : Int) (styleKind_1 : Int) (styleOne_1 : Int) (opened_1 : Int) (tokenPlace_1 : Int → Int) (tokenEnd_1 : Int → Int) (tape_1 : Int → Int) (limit_1 : Int) (limit_0 : Int) (tokens_0 : Int) (tape_0 : Int → Int) (tokenKind_0 : Int → Int) (tokenValue_0 : Int → Int) (tokenPlace_0 : Int → Int) (tokenEnd_0 : Int → Int) (gx : Int) (gy : Int) (gu : Int) (k1 : 0 ≤ x1 ∧ x1 ≤ 2009) (k2 : 0 ≤ x2 ∧ x2 ≤ 5) (k3 : 0 ≤ x3 ∧ x3 ≤ 13) (k6 : 0 ≤ x6 ∧ x6 ≤ 2009) (k7 : 0 ≤ x7 ∧ x7 ≤ 2010) (k8 : 42 ≤ x8 ∧ x8 ≤ 42) (k9 : 0 ≤ x9 ∧ x9 ≤ 5) (k10 : 1 ≤ x10 ∧ x10 ≤ 1) (k11 : 42 ≤ x11 ∧ x11 ≤ 42) (k12 : 0 ≤ x12 ∧ x12 ≤ 5) (k13 : 0 ≤ x13 ∧ x13 ≤ 0) (k14 : 1 ≤ x14 ∧ x14 ≤ 1) (k15 : 1 ≤ x15 ∧ x15 ≤ 2009) (d0 : x6 + 1 ≤ x15 ∧ x15 ≤ x6 + 1) (g0 : x15 = cur_0) (f1 : fault_0 = x12) (f2 : fault_0 = x9) (f3 : (styleKind_0 = 0) → (styleOne_0 ≤ 23)) (f4 : 1 * opened_0 + 0 ≤ 0) (f5 : (-1) * opened_0 + 0 ≤ 0) (f6 : 1 * x3 + 0 ≤ 0) (f7 : (-1) * x3 + 0 ≤ 0) (f10 : x15 = x6 + x14) (g11 : x6 = cur_1) (f12 : (x13 = 1) → (tokenKind_1 (cur_1) = 3)) (f13 : SGN (cur_1) (tokenKind_1) (tokenValue_1) (x11) (x13) (x12)) (f14 : fault_1 = x12) (f15 : x10 ≠ 0) (f16 : (x10 = 1) → (tokenKind_1 (cur_1) = 3)) (f17 : SGN (cur_1) (tokenKind_1) (tokenValue_1) (x8) (x10) (x9)) (f18 : fault_1 = x9) (f19 : ((cur_1 + 1) ≤ tokens_1) ∧ ((tokens_1 ≤ 2010) ∧ ((tokenKind_1 ((tokens_1 - 1)) = 0) ∨ (tokenKind_1 ((tokens_1 - 1)) = 4)))) (f20 : 1 * x1 + ((-1) * cur_1 + 0) ≤ 0) (f21 : (styleKind_1 = 0) → (styleOne_1 ≤ 23)) (f22 : 1 * opened_1 + 0 ≤ 0) (f23 : (-1) * opened_1 + 0 ≤ 0) (f24 : SPWv (fault_1) (cur_1) (styleKind_1) (limit_1) (tokenKind_1) (tokenValue_1) (tokenPlace_1) (tokenEnd_1) (tape_1) (x1) (x2) (x3)) (f25 : 1 * x3 + 0 ≤ 0) (f26 : (-1) * x3 + 0 ≤ 0) (f27 : 1 * x7 + (1 * cur_1 + 0) ≤ 2010) (f28 : (-1) * x7 + ((-1) * cur_1 + 0) ≤ (-2010)) (fe_0_8_1 : fault_0 = fault_1) (fe_0_10_1 : limit_0 = limit_1) (fe_0_157_1 : tokens_0 = tokens_1) (fe_0_158_1 : cur_0 = x15) (fe_0_159_1 : opened_0 = opened_1) (fe_0_164_1 : styleKind_0 = styleKind_1) (fe_0_165_1 : styleOne_0 = styleOne_1) (hE_0_1_1 : ∀ j : Int, tape_0 j = tape_1 j) (hK_0_1 : ∀ j : Int, 0 ≤ j → j < 2000 → (-128) ≤ tape_0 j ∧ tape_0 j ≤ 127) (hE_0_160_1 : ∀ j : Int, tokenKind_0 j = tokenKind_1 j) (hK_0_160 : ∀ j : Int, 0 ≤ j → j < 2010 → 0 ≤ tokenKind_0 j ∧ tokenKind_0 j ≤ 4) (hE_0_161_1 : ∀ j : Int, tokenValue_0 j = tokenValue_1 j) (hE_0_162_1 : ∀ j : Int, tokenPlace_0 j = tokenPlace_1 j) (hK_0_162 : ∀ j : Int, 0 ≤ j → j < 2010 → 0 ≤ tokenPlace_0 j ∧ tokenPlace_0 j ≤ 2000) (hE_0_163_1 : ∀ j : Int, tokenEnd_0 j = tokenEnd_1 j) (hK_0_163 : ∀ j : Int, 0 ≤ j → j < 2010 → 0 ≤ tokenEnd_0 j ∧ tokenEnd_0 j ≤ 2000) (kz_0_8 : 0 ≤ fault_0 ∧ fault_0 ≤ 5) (kz_0_10 : 0 ≤ limit_0 ∧ limit_0 ≤ 2000) (kz_0_157 : 0 ≤ tokens_0 ∧ tokens_0 ≤ 2010) (kz_0_158 : 0 ≤ cur_0 ∧ cur_0 ≤ 2009) (kz_0_159 : 0 ≤ opened_0 ∧ opened_0 ≤ 13) (kz_0_164 : 0 ≤ styleKind_0 ∧ styleKind_0 ≤ 1) (kz_0_165 : (-1) ≤ styleOne_0 ∧ styleOne_0 ≤ 47) (ex2 : gx = cur_0) (ex3 : 0 ≤ gx ∧ gx ≤ 2009) (ey2 : gy = fault_0) (ey3 : 0 ≤ gy ∧ gy ≤ 5) (eu2 : gu = opened_0) (eu3 : 0 ≤ gu ∧ gu ≤ 13) : 1 * x1 + ((-1) * gx + 0) ≤ 0 := by
  subst fe_0_8_1
  subst fe_0_10_1
  subst fe_0_157_1
  subst fe_0_159_1
  subst fe_0_164_1
  subst fe_0_165_1
  have e_hE_0_1_1 := funext hE_0_1_1; subst e_hE_0_1_1
  have e_hE_0_160_1 := funext hE_0_160_1; subst e_hE_0_160_1
  have e_hE_0_161_1 := funext hE_0_161_1; subst e_hE_0_161_1
  have e_hE_0_162_1 := funext hE_0_162_1; subst e_hE_0_162_1
  have e_hE_0_163_1 := funext hE_0_163_1; subst e_hE_0_163_1
  first | assumption | (clear f3 f12 f16 f19 f21 hE_0_1_1 hK_0_1 hE_0_160_1 hK_0_160 hE_0_161_1 hE_0_162_1 hK_0_162 hE_0_163_1 hK_0_163; omega) | (clear hE_0_1_1 hK_0_1 hE_0_160_1 hK_0_160 hE_0_161_1 hE_0_162_1 hK_0_162 hE_0_163_1 hK_0_163; grind) | omega | grind
set_option maxHeartbeats 4000000 in
theorem vc_Mo_product_at_f0_15_9 (x1 : Int) (x2 : Int) (x3 : Int) (x6 : Int) (x7 : Int) (x8 : Int) (x9 : Int) (x10 : Int) (x11 : Int) (x12 : Int) (x13 : Int) (x14 : Int) (x15 : Int) (cur_0 : Int) (fault_0 : Int) (styleKind_0 : Int) (styleOne_0 : Int) (opened_0 : Int) (cur_1 : Int) (tokenKind_1 : Int → Int) (tokenValue_1 : Int → Int) (fault_1 : Int) (tokens_1 : Int) (styleKind_1 : Int) (styleOne_1 : Int) (opened_1 : Int) (tokenPlace_1 : Int → Int) (tokenEnd_1 : Int → Int) (tape_1 : Int → Int) (limit_1 : Int) (limit_0 : Int) (tokens_0 : Int) (tape_0 : Int → Int) (tokenKind_0 : Int → Int) (tokenValue_0 : Int → Int) (tokenPlace_0 : Int → Int) (tokenEnd_0 : Int → Int) (gx : Int) (gy : Int) (gu : Int) (k1 : 0 ≤ x1 ∧ x1 ≤ 2009) (k2 : 0 ≤ x2 ∧ x2 ≤ 5) (k3 : 0 ≤ x3 ∧ x3 ≤ 13) (k6 : 0 ≤ x6 ∧ x6 ≤ 2009) (k7 : 0 ≤ x7 ∧ x7 ≤ 2010) (k8 : 42 ≤ x8 ∧ x8 ≤ 42) (k9 : 0 ≤ x9 ∧ x9 ≤ 5) (k10 : 1 ≤ x10 ∧ x10 ≤ 1) (k11 : 42 ≤ x11 ∧ x11 ≤ 42) (k12 : 0 ≤ x12 ∧ x12 ≤ 5) (k13 : 0 ≤ x13 ∧ x13 ≤ 0) (k14 : 1 ≤ x14 ∧ x14 ≤ 1) (k15 : 1 ≤ x15 ∧ x15 ≤ 2009) (d0 : x6 + 1 ≤ x15 ∧ x15 ≤ x6 + 1) (g0 : x15 = cur_0) (f1 : fault_0 = x12) (f2 : fault_0 = x9) (f3 : (styleKind_0 = 0) → (styleOne_0 ≤ 23)) (f4 : 1 * opened_0 + 0 ≤ 0) (f5 : (-1) * opened_0 + 0 ≤ 0) (f6 : 1 * x3 + 0 ≤ 0) (f7 : (-1) * x3 + 0 ≤ 0) (f10 : x15 = x6 + x14) (g11 : x6 = cur_1) (f12 : (x13 = 1) → (tokenKind_1 (cur_1) = 3)) (f13 : SGN (cur_1) (tokenKind_1) (tokenValue_1) (x11) (x13) (x12)) (f14 : fault_1 = x12) (f15 : x10 ≠ 0) (f16 : (x10 = 1) → (tokenKind_1 (cur_1) = 3)) (f17 : SGN (cur_1) (tokenKind_1) (tokenValue_1) (x8) (x10) (x9)) (f18 : fault_1 = x9) (f19 : ((cur_1 + 1) ≤ tokens_1) ∧ ((tokens_1 ≤ 2010) ∧ ((tokenKind_1 ((tokens_1 - 1)) = 0) ∨ (tokenKind_1 ((tokens_1 - 1)) = 4)))) (f20 : 1 * x1 + ((-1) * cur_1 + 0) ≤ 0) (f21 : (styleKind_1 = 0) → (styleOne_1 ≤ 23)) (f22 : 1 * opened_1 + 0 ≤ 0) (f23 : (-1) * opened_1 + 0 ≤ 0) (f24 : SPWv (fault_1) (cur_1) (styleKind_1) (limit_1) (tokenKind_1) (tokenValue_1) (tokenPlace_1) (tokenEnd_1) (tape_1) (x1) (x2) (x3)) (f25 : 1 * x3 + 0 ≤ 0) (f26 : (-1) * x3 + 0 ≤ 0) (f27 : 1 * x7 + (1 * cur_1 + 0) ≤ 2010) (f28 : (-1) * x7 + ((-1) * cur_1 + 0) ≤ (-2010)) (fe_0_8_1 : fault_0 = fault_1) (fe_0_10_1 : limit_0 = limit_1) (fe_0_157_1 : tokens_0 = tokens_1) (fe_0_158_1 : cur_0 = x15) (fe_0_159_1 : opened_0 = opened_1) (fe_0_164_1 : styleKind_0 = styleKind_1) (fe_0_165_1 : styleOne_0 = styleOne_1) (hE_0_1_1 : ∀ j : Int, tape_0 j = tape_1 j) (hK_0_1 : ∀ j : Int, 0 ≤ j → j < 2000 → (-128) ≤ tape_0 j ∧ tape_0 j ≤ 127) (hE_0_160_1 : ∀ j : Int, tokenKind_0 j = tokenKind_1 j) (hK_0_160 : ∀ j : Int, 0 ≤ j → j < 2010 → 0 ≤ tokenKind_0 j ∧ tokenKind_0 j ≤ 4) (hE_0_161_1 : ∀ j : Int, tokenValue_0 j = tokenValue_1 j) (hE_0_162_1 : ∀ j : Int, tokenPlace_0 j = tokenPlace_1 j) (hK_0_162 : ∀ j : Int, 0 ≤ j → j < 2010 → 0 ≤ tokenPlace_0 j ∧ tokenPlace_0 j ≤ 2000) (hE_0_163_1 : ∀ j : Int, tokenEnd_0 j = tokenEnd_1 j) (hK_0_163 : ∀ j : Int, 0 ≤ j → j < 2010 → 0 ≤ tokenEnd_0 j ∧ tokenEnd_0 j ≤ 2000) (kz_0_8 : 0 ≤ fault_0 ∧ fault_0 ≤ 5) (kz_0_10 : 0 ≤ limit_0 ∧ limit_0 ≤ 2000) (kz_0_157 : 0 ≤ tokens_0 ∧ tokens_0 ≤ 2010) (kz_0_158 : 0 ≤ cur_0 ∧ cur_0 ≤ 2009) (kz_0_159 : 0 ≤ opened_0 ∧ opened_0 ≤ 13) (kz_0_164 : 0 ≤ styleKind_0 ∧ styleKind_0 ≤ 1) (kz_0_165 : (-1) ≤ styleOne_0 ∧ styleOne_0 ≤ 47) (ex2 : gx = cur_0) (ex3 : 0 ≤ gx ∧ gx ≤ 2009) (ey2 : gy = fault_0) (ey3 : 0 ≤ gy ∧ gy ≤ 5) (eu2 : gu = opened_0) (eu3 : 0 ≤ gu ∧ gu ≤ 13) : (-1) * x7 + ((-1) * gx + 0) ≤ (-2011) := by
  subst fe_0_8_1
  subst fe_0_10_1
  subst fe_0_157_1
  subst fe_0_159_1
  subst fe_0_164_1
  subst fe_0_165_1
  have e_hE_0_1_1 := funext hE_0_1_1; subst e_hE_0_1_1
  have e_hE_0_160_1 := funext hE_0_160_1; subst e_hE_0_160_1
  have e_hE_0_161_1 := funext hE_0_161_1; subst e_hE_0_161_1
  have e_hE_0_162_1 := funext hE_0_162_1; subst e_hE_0_162_1
  have e_hE_0_163_1 := funext hE_0_163_1; subst e_hE_0_163_1
  first | assumption | (clear f3 f12 f16 f19 f21 hE_0_1_1 hK_0_1 hE_0_160_1 hK_0_160 hE_0_161_1 hE_0_162_1 hK_0_162 hE_0_163_1 hK_0_163; omega) | (clear hE_0_1_1 hK_0_1 hE_0_160_1 hK_0_160 hE_0_161_1 hE_0_162_1 hK_0_162 hE_0_163_1 hK_0_163; grind) | omega | grind
set_option maxHeartbeats 4000000 in
theorem vc_Mo_product_at_f0_15_10 (x1 : Int) (x2 : Int) (x3 : Int) (x6 : Int) (x8 : Int) (x9 : Int) (x10 : Int) (x11 : Int) (x12 : Int) (x13 : Int) (x15 : Int) (cur_0 : Int) (fault_0 : Int) (styleKind_0 : Int) (styleOne_0 : Int) (opened_0 : Int) (cur_1 : Int) (tokenKind_1 : Int → Int) (tokenValue_1 : Int → Int) (fault_1 : Int) (tokens_1 : Int) (styleKind_1 : Int) (styleOne_1 : Int) (opened_1 : Int) (tokenPlace_1 : Int → Int) (tokenEnd_1 : Int → Int) (tape_1 : Int → Int) (limit_1 : Int) (limit_0 : Int) (tokens_0 : Int) (tape_0 : Int → Int) (tokenKind_0 : Int → Int) (tokenValue_0 : Int → Int) (tokenPlace_0 : Int → Int) (tokenEnd_0 : Int → Int) (gx : Int) (gy : Int) (k1 : 0 ≤ x1 ∧ x1 ≤ 2009) (k2 : 0 ≤ x2 ∧ x2 ≤ 5) (k3 : 0 ≤ x3 ∧ x3 ≤ 13) (k6 : 0 ≤ x6 ∧ x6 ≤ 2009) (k8 : 42 ≤ x8 ∧ x8 ≤ 42) (k9 : 0 ≤ x9 ∧ x9 ≤ 5) (k10 : 1 ≤ x10 ∧ x10 ≤ 1) (k15 : 1 ≤ x15 ∧ x15 ≤ 2009) (d0 : x6 + 1 ≤ x15 ∧ x15 ≤ x6 + 1) (g0 : x15 = cur_0) (f2 : fault_0 = x9) (g11 : x6 = cur_1) (f15 : x10 ≠ 0) (f17 : SGN (cur_1) (tokenKind_1) (tokenValue_1) (x8) (x10) (x9)) (f24 : SPWv (fault_1) (cur_1) (styleKind_1) (limit_1) (tokenKind_1) (tokenValue_1) (tokenPlace_1) (tokenEnd_1) (tape_1) (x1) (x2) (x3)) (fe_0_8_1 : fault_0 = fault_1) (fe_0_10_1 : limit_0 = limit_1) (fe_0_157_1 : tokens_0 = tokens_1) (fe_0_159_1 : opened_0 = opened_1) (fe_0_164_1 : styleKind_0 = styleKind_1) (fe_0_165_1 : styleOne_0 = styleOne_1) (hE_0_1_1 : ∀ j : Int, tape_0 j = tape_1 j) (hE_0_160_1 : ∀ j : Int, tokenKind_0 j = tokenKind_1 j) (hE_0_161_1 : ∀ j : Int, tokenValue_0 j = tokenValue_1 j) (hE_0_162_1 : ∀ j : Int, tokenPlace_0 j = tokenPlace_1 j) (hE_0_163_1 : ∀ j : Int, tokenEnd_0 j = tokenEnd_1 j) (kz_0_8 : 0 ≤ fault_0 ∧ fault_0 ≤ 5) (kz_0_10 : 0 ≤ limit_0 ∧ limit_0 ≤ 2000) (kz_0_157 : 0 ≤ tokens_0 ∧ tokens_0 ≤ 2010) (kz_0_158 : 0 ≤ cur_0 ∧ cur_0 ≤ 2009) (kz_0_159 : 0 ≤ opened_0 ∧ opened_0 ≤ 13) (kz_0_164 : 0 ≤ styleKind_0 ∧ styleKind_0 ≤ 1) (kz_0_165 : (-1) ≤ styleOne_0 ∧ styleOne_0 ≤ 47) (ex2 : gx = cur_0) (ey2 : gy = fault_0) : GPW (styleKind_0) (limit_0) (tokenKind_0) (tokenValue_0) (tokenPlace_0) (tokenEnd_0) (tape_0) (gx) (gy) (x1) (x2) (x3) := by
  subst fe_0_8_1
  subst fe_0_10_1
  subst fe_0_157_1
  subst fe_0_159_1
  subst fe_0_164_1
  subst fe_0_165_1
  have e_hE_0_1_1 := funext hE_0_1_1; subst e_hE_0_1_1
  have e_hE_0_160_1 := funext hE_0_160_1; subst e_hE_0_160_1
  have e_hE_0_161_1 := funext hE_0_161_1; subst e_hE_0_161_1
  have e_hE_0_162_1 := funext hE_0_162_1; subst e_hE_0_162_1
  have e_hE_0_163_1 := funext hE_0_163_1; subst e_hE_0_163_1
  first
    | (have h := sgn_y (show SGN _ _ _ x8 x10 x9 by assumption) (by omega) (by omega) (by omega) (show x8 = 42 by omega)
       have h1 := h.1
       exact gpw_of (‹SPWv _ _ _ _ _ _ _ _ _ _ _ _›) (by omega) (Or.inl h.2) (by omega) (by omega))
    | (have h := sgn_y (show SGN _ _ _ x11 x13 x12 by assumption) (by omega) (by omega) (by omega) (show x11 = 47 by omega)
       have h1 := h.1
       exact gpw_of (‹SPWv _ _ _ _ _ _ _ _ _ _ _ _›) (by omega) (Or.inr h.2) (by omega) (by omega))
  
set_option maxHeartbeats 4000000 in
theorem vc_Mo_product_at_f0_15_11 (x1 : Int) (x2 : Int) (x3 : Int) (x6 : Int) (x7 : Int) (x8 : Int) (x9 : Int) (x10 : Int) (x11 : Int) (x12 : Int) (x13 : Int) (x14 : Int) (x15 : Int) (cur_0 : Int) (fault_0 : Int) (styleKind_0 : Int) (styleOne_0 : Int) (opened_0 : Int) (cur_1 : Int) (tokenKind_1 : Int → Int) (tokenValue_1 : Int → Int) (fault_1 : Int) (tokens_1 : Int) (styleKind_1 : Int) (styleOne_1 : Int) (opened_1 : Int) (tokenPlace_1 : Int → Int) (tokenEnd_1 : Int → Int) (tape_1 : Int → Int) (limit_1 : Int) (limit_0 : Int) (tokens_0 : Int) (tape_0 : Int → Int) (tokenKind_0 : Int → Int) (tokenValue_0 : Int → Int) (tokenPlace_0 : Int → Int) (tokenEnd_0 : Int → Int) (gx : Int) (gy : Int) (gu : Int) (k1 : 0 ≤ x1 ∧ x1 ≤ 2009) (k2 : 0 ≤ x2 ∧ x2 ≤ 5) (k3 : 0 ≤ x3 ∧ x3 ≤ 13) (k6 : 0 ≤ x6 ∧ x6 ≤ 2009) (k7 : 0 ≤ x7 ∧ x7 ≤ 2010) (k8 : 42 ≤ x8 ∧ x8 ≤ 42) (k9 : 0 ≤ x9 ∧ x9 ≤ 5) (k10 : 1 ≤ x10 ∧ x10 ≤ 1) (k11 : 42 ≤ x11 ∧ x11 ≤ 42) (k12 : 0 ≤ x12 ∧ x12 ≤ 5) (k13 : 0 ≤ x13 ∧ x13 ≤ 0) (k14 : 1 ≤ x14 ∧ x14 ≤ 1) (k15 : 1 ≤ x15 ∧ x15 ≤ 2009) (d0 : x6 + 1 ≤ x15 ∧ x15 ≤ x6 + 1) (g0 : x15 = cur_0) (f1 : fault_0 = x12) (f2 : fault_0 = x9) (f3 : (styleKind_0 = 0) → (styleOne_0 ≤ 23)) (f4 : 1 * opened_0 + 0 ≤ 0) (f5 : (-1) * opened_0 + 0 ≤ 0) (f6 : 1 * x3 + 0 ≤ 0) (f7 : (-1) * x3 + 0 ≤ 0) (f10 : x15 = x6 + x14) (g11 : x6 = cur_1) (f12 : (x13 = 1) → (tokenKind_1 (cur_1) = 3)) (f13 : SGN (cur_1) (tokenKind_1) (tokenValue_1) (x11) (x13) (x12)) (f14 : fault_1 = x12) (f15 : x10 ≠ 0) (f16 : (x10 = 1) → (tokenKind_1 (cur_1) = 3)) (f17 : SGN (cur_1) (tokenKind_1) (tokenValue_1) (x8) (x10) (x9)) (f18 : fault_1 = x9) (f19 : ((cur_1 + 1) ≤ tokens_1) ∧ ((tokens_1 ≤ 2010) ∧ ((tokenKind_1 ((tokens_1 - 1)) = 0) ∨ (tokenKind_1 ((tokens_1 - 1)) = 4)))) (f20 : 1 * x1 + ((-1) * cur_1 + 0) ≤ 0) (f21 : (styleKind_1 = 0) → (styleOne_1 ≤ 23)) (f22 : 1 * opened_1 + 0 ≤ 0) (f23 : (-1) * opened_1 + 0 ≤ 0) (f24 : SPWv (fault_1) (cur_1) (styleKind_1) (limit_1) (tokenKind_1) (tokenValue_1) (tokenPlace_1) (tokenEnd_1) (tape_1) (x1) (x2) (x3)) (f25 : 1 * x3 + 0 ≤ 0) (f26 : (-1) * x3 + 0 ≤ 0) (f27 : 1 * x7 + (1 * cur_1 + 0) ≤ 2010) (f28 : (-1) * x7 + ((-1) * cur_1 + 0) ≤ (-2010)) (fe_0_8_1 : fault_0 = fault_1) (fe_0_10_1 : limit_0 = limit_1) (fe_0_157_1 : tokens_0 = tokens_1) (fe_0_158_1 : cur_0 = x15) (fe_0_159_1 : opened_0 = opened_1) (fe_0_164_1 : styleKind_0 = styleKind_1) (fe_0_165_1 : styleOne_0 = styleOne_1) (hE_0_1_1 : ∀ j : Int, tape_0 j = tape_1 j) (hK_0_1 : ∀ j : Int, 0 ≤ j → j < 2000 → (-128) ≤ tape_0 j ∧ tape_0 j ≤ 127) (hE_0_160_1 : ∀ j : Int, tokenKind_0 j = tokenKind_1 j) (hK_0_160 : ∀ j : Int, 0 ≤ j → j < 2010 → 0 ≤ tokenKind_0 j ∧ tokenKind_0 j ≤ 4) (hE_0_161_1 : ∀ j : Int, tokenValue_0 j = tokenValue_1 j) (hE_0_162_1 : ∀ j : Int, tokenPlace_0 j = tokenPlace_1 j) (hK_0_162 : ∀ j : Int, 0 ≤ j → j < 2010 → 0 ≤ tokenPlace_0 j ∧ tokenPlace_0 j ≤ 2000) (hE_0_163_1 : ∀ j : Int, tokenEnd_0 j = tokenEnd_1 j) (hK_0_163 : ∀ j : Int, 0 ≤ j → j < 2010 → 0 ≤ tokenEnd_0 j ∧ tokenEnd_0 j ≤ 2000) (kz_0_8 : 0 ≤ fault_0 ∧ fault_0 ≤ 5) (kz_0_10 : 0 ≤ limit_0 ∧ limit_0 ≤ 2000) (kz_0_157 : 0 ≤ tokens_0 ∧ tokens_0 ≤ 2010) (kz_0_158 : 0 ≤ cur_0 ∧ cur_0 ≤ 2009) (kz_0_159 : 0 ≤ opened_0 ∧ opened_0 ≤ 13) (kz_0_164 : 0 ≤ styleKind_0 ∧ styleKind_0 ≤ 1) (kz_0_165 : (-1) ≤ styleOne_0 ∧ styleOne_0 ≤ 47) (ex2 : gx = cur_0) (ex3 : 0 ≤ gx ∧ gx ≤ 2009) (ey2 : gy = fault_0) (ey3 : 0 ≤ gy ∧ gy ≤ 5) (eu2 : gu = opened_0) (eu3 : 0 ≤ gu ∧ gu ≤ 13) : 1 * gu + 0 ≤ 0 := by
  subst fe_0_8_1
  subst fe_0_10_1
  subst fe_0_157_1
  subst fe_0_159_1
  subst fe_0_164_1
  subst fe_0_165_1
  have e_hE_0_1_1 := funext hE_0_1_1; subst e_hE_0_1_1
  have e_hE_0_160_1 := funext hE_0_160_1; subst e_hE_0_160_1
  have e_hE_0_161_1 := funext hE_0_161_1; subst e_hE_0_161_1
  have e_hE_0_162_1 := funext hE_0_162_1; subst e_hE_0_162_1
  have e_hE_0_163_1 := funext hE_0_163_1; subst e_hE_0_163_1
  first | assumption | (clear f3 f12 f16 f19 f21 hE_0_1_1 hK_0_1 hE_0_160_1 hK_0_160 hE_0_161_1 hE_0_162_1 hK_0_162 hE_0_163_1 hK_0_163; omega) | (clear hE_0_1_1 hK_0_1 hE_0_160_1 hK_0_160 hE_0_161_1 hE_0_162_1 hK_0_162 hE_0_163_1 hK_0_163; grind) | omega | grind
set_option maxHeartbeats 4000000 in
theorem vc_Mo_product_at_f0_15_12 (x1 : Int) (x2 : Int) (x3 : Int) (x6 : Int) (x7 : Int) (x8 : Int) (x9 : Int) (x10 : Int) (x11 : Int) (x12 : Int) (x13 : Int) (x14 : Int) (x15 : Int) (cur_0 : Int) (fault_0 : Int) (styleKind_0 : Int) (styleOne_0 : Int) (opened_0 : Int) (cur_1 : Int) (tokenKind_1 : Int → Int) (tokenValue_1 : Int → Int) (fault_1 : Int) (tokens_1 : Int) (styleKind_1 : Int) (styleOne_1 : Int) (opened_1 : Int) (tokenPlace_1 : Int → Int) (tokenEnd_1 : Int → Int) (tape_1 : Int → Int) (limit_1 : Int) (limit_0 : Int) (tokens_0 : Int) (tape_0 : Int → Int) (tokenKind_0 : Int → Int) (tokenValue_0 : Int → Int) (tokenPlace_0 : Int → Int) (tokenEnd_0 : Int → Int) (gx : Int) (gy : Int) (gu : Int) (k1 : 0 ≤ x1 ∧ x1 ≤ 2009) (k2 : 0 ≤ x2 ∧ x2 ≤ 5) (k3 : 0 ≤ x3 ∧ x3 ≤ 13) (k6 : 0 ≤ x6 ∧ x6 ≤ 2009) (k7 : 0 ≤ x7 ∧ x7 ≤ 2010) (k8 : 42 ≤ x8 ∧ x8 ≤ 42) (k9 : 0 ≤ x9 ∧ x9 ≤ 5) (k10 : 1 ≤ x10 ∧ x10 ≤ 1) (k11 : 42 ≤ x11 ∧ x11 ≤ 42) (k12 : 0 ≤ x12 ∧ x12 ≤ 5) (k13 : 0 ≤ x13 ∧ x13 ≤ 0) (k14 : 1 ≤ x14 ∧ x14 ≤ 1) (k15 : 1 ≤ x15 ∧ x15 ≤ 2009) (d0 : x6 + 1 ≤ x15 ∧ x15 ≤ x6 + 1) (g0 : x15 = cur_0) (f1 : fault_0 = x12) (f2 : fault_0 = x9) (f3 : (styleKind_0 = 0) → (styleOne_0 ≤ 23)) (f4 : 1 * opened_0 + 0 ≤ 0) (f5 : (-1) * opened_0 + 0 ≤ 0) (f6 : 1 * x3 + 0 ≤ 0) (f7 : (-1) * x3 + 0 ≤ 0) (f10 : x15 = x6 + x14) (g11 : x6 = cur_1) (f12 : (x13 = 1) → (tokenKind_1 (cur_1) = 3)) (f13 : SGN (cur_1) (tokenKind_1) (tokenValue_1) (x11) (x13) (x12)) (f14 : fault_1 = x12) (f15 : x10 ≠ 0) (f16 : (x10 = 1) → (tokenKind_1 (cur_1) = 3)) (f17 : SGN (cur_1) (tokenKind_1) (tokenValue_1) (x8) (x10) (x9)) (f18 : fault_1 = x9) (f19 : ((cur_1 + 1) ≤ tokens_1) ∧ ((tokens_1 ≤ 2010) ∧ ((tokenKind_1 ((tokens_1 - 1)) = 0) ∨ (tokenKind_1 ((tokens_1 - 1)) = 4)))) (f20 : 1 * x1 + ((-1) * cur_1 + 0) ≤ 0) (f21 : (styleKind_1 = 0) → (styleOne_1 ≤ 23)) (f22 : 1 * opened_1 + 0 ≤ 0) (f23 : (-1) * opened_1 + 0 ≤ 0) (f24 : SPWv (fault_1) (cur_1) (styleKind_1) (limit_1) (tokenKind_1) (tokenValue_1) (tokenPlace_1) (tokenEnd_1) (tape_1) (x1) (x2) (x3)) (f25 : 1 * x3 + 0 ≤ 0) (f26 : (-1) * x3 + 0 ≤ 0) (f27 : 1 * x7 + (1 * cur_1 + 0) ≤ 2010) (f28 : (-1) * x7 + ((-1) * cur_1 + 0) ≤ (-2010)) (fe_0_8_1 : fault_0 = fault_1) (fe_0_10_1 : limit_0 = limit_1) (fe_0_157_1 : tokens_0 = tokens_1) (fe_0_158_1 : cur_0 = x15) (fe_0_159_1 : opened_0 = opened_1) (fe_0_164_1 : styleKind_0 = styleKind_1) (fe_0_165_1 : styleOne_0 = styleOne_1) (hE_0_1_1 : ∀ j : Int, tape_0 j = tape_1 j) (hK_0_1 : ∀ j : Int, 0 ≤ j → j < 2000 → (-128) ≤ tape_0 j ∧ tape_0 j ≤ 127) (hE_0_160_1 : ∀ j : Int, tokenKind_0 j = tokenKind_1 j) (hK_0_160 : ∀ j : Int, 0 ≤ j → j < 2010 → 0 ≤ tokenKind_0 j ∧ tokenKind_0 j ≤ 4) (hE_0_161_1 : ∀ j : Int, tokenValue_0 j = tokenValue_1 j) (hE_0_162_1 : ∀ j : Int, tokenPlace_0 j = tokenPlace_1 j) (hK_0_162 : ∀ j : Int, 0 ≤ j → j < 2010 → 0 ≤ tokenPlace_0 j ∧ tokenPlace_0 j ≤ 2000) (hE_0_163_1 : ∀ j : Int, tokenEnd_0 j = tokenEnd_1 j) (hK_0_163 : ∀ j : Int, 0 ≤ j → j < 2010 → 0 ≤ tokenEnd_0 j ∧ tokenEnd_0 j ≤ 2000) (kz_0_8 : 0 ≤ fault_0 ∧ fault_0 ≤ 5) (kz_0_10 : 0 ≤ limit_0 ∧ limit_0 ≤ 2000) (kz_0_157 : 0 ≤ tokens_0 ∧ tokens_0 ≤ 2010) (kz_0_158 : 0 ≤ cur_0 ∧ cur_0 ≤ 2009) (kz_0_159 : 0 ≤ opened_0 ∧ opened_0 ≤ 13) (kz_0_164 : 0 ≤ styleKind_0 ∧ styleKind_0 ≤ 1) (kz_0_165 : (-1) ≤ styleOne_0 ∧ styleOne_0 ≤ 47) (ex2 : gx = cur_0) (ex3 : 0 ≤ gx ∧ gx ≤ 2009) (ey2 : gy = fault_0) (ey3 : 0 ≤ gy ∧ gy ≤ 5) (eu2 : gu = opened_0) (eu3 : 0 ≤ gu ∧ gu ≤ 13) : (-1) * gu + 0 ≤ 0 := by
  subst fe_0_8_1
  subst fe_0_10_1
  subst fe_0_157_1
  subst fe_0_159_1
  subst fe_0_164_1
  subst fe_0_165_1
  have e_hE_0_1_1 := funext hE_0_1_1; subst e_hE_0_1_1
  have e_hE_0_160_1 := funext hE_0_160_1; subst e_hE_0_160_1
  have e_hE_0_161_1 := funext hE_0_161_1; subst e_hE_0_161_1
  have e_hE_0_162_1 := funext hE_0_162_1; subst e_hE_0_162_1
  have e_hE_0_163_1 := funext hE_0_163_1; subst e_hE_0_163_1
  first | assumption | (clear f3 f12 f16 f19 f21 hE_0_1_1 hK_0_1 hE_0_160_1 hK_0_160 hE_0_161_1 hE_0_162_1 hK_0_162 hE_0_163_1 hK_0_163; omega) | (clear hE_0_1_1 hK_0_1 hE_0_160_1 hK_0_160 hE_0_161_1 hE_0_162_1 hK_0_162 hE_0_163_1 hK_0_163; grind) | omega | grind
def o_Mo_product_at_f0_15 : or_T := (41, 16, [(0, (2, 0, 0, [165])), (1, (0, 0, 2009, [])), (2, (0, 0, 5, [])), (3, (0, 0, 13, [])), (4, (2, 0, 0, [165])), (6, (0, 0, 2009, [])), (7, (0, 0, 2010, [])), (8, (0, 42, 42, [])), (9, (0, 0, 5, [])), (10, (0, 1, 1, [])), (11, (0, 42, 42, [])), (12, (0, 0, 5, [])), (13, (0, 0, 0, [])), (14, (0, 1, 1, [])), (15, (0, 1, 2009, []))], [(9, [15, 4], [158]), (20, [4, 12], [50, 1, 0, 8, 1, 3, 2, 0, 8, 1, 1]), (20, [4, 9], [50, 1, 0, 8, 1, 3, 2, 0, 8, 1, 1]), (20, [4], [50, 2, 0, 164, 165, 4, 7, 1, 3, 2, 0, 164, 0, 0, 0, 3, 2, 0, 165, 0, 23]), (20, [4], [30, 0, 1, 1, 159]), (20, [4], [30, 0, -1, 1, 159]), (23, [3], [0, 1]), (23, [3], [0, -1]), (24, [0, 4], []), (101, [4, 15], [158]), (1, [15, 6, 14], []), (9, [6, 4], [158]), (20, [13, 4], [50, 1, 1, 1158, 1160, 4, 6, 1, 2, 1, 0, 0, 1, 1, 6, 3, 1, 160, 2, 1, 158, 0, 3]), (20, [4, 11, 13, 12], [60, 1, 2, 14, 158, 160, 161]), (20, [4, 12], [50, 1, 0, 8, 1, 3, 2, 0, 8, 1, 1]), (8, [10], [1]), (20, [10, 4], [50, 1, 1, 1158, 1160, 4, 6, 1, 2, 1, 0, 0, 1, 1, 6, 3, 1, 160, 2, 1, 158, 0, 3]), (20, [4, 8, 10, 9], [60, 1, 2, 14, 158, 160, 161]), (20, [4, 9], [50, 1, 0, 8, 1, 3, 2, 0, 8, 1, 1]), (20, [4], [50, 2, 1, 158, 157, 160, 2, 12, 0, 7, 4, 3, 2, 0, 158, 0, 1, 2, 0, 157, 2, 7, 0, 3, 2, 0, 157, 0, 2010, 3, 14, 1, 10, 3, 0, 160, 5, 3, 2, 0, 157, 0, 1, 0, 0, 1, 10, 3, 0, 160, 5, 3, 2, 0, 157, 0, 1, 0, 4]), (20, [1, 4], [30, 0, 1, 0, 0, -1, 1, 158]), (20, [4], [50, 2, 0, 164, 165, 4, 7, 1, 3, 2, 0, 164, 0, 0, 0, 3, 2, 0, 165, 0, 23]), (20, [4], [30, 0, 1, 1, 159]), (20, [4], [30, 0, -1, 1, 159]), (20, [4, 1, 2, 3], [60, 4, 5, 6, 8, 158, 164, 10, 160, 161, 162, 163, 1]), (23, [3], [0, 1]), (23, [3], [0, -1]), (20, [7, 4], [30, 2010, 1, 0, 0, 1, 1, 158]), (20, [7, 4], [30, -2010, -1, 0, 0, -1, 1, 158])], [], [(0, 0, 2009, []), (0, 0, 5, []), (0, 0, 13, [])], [(20, [4], [50, 2, 1, 158, 157, 160, 2, 12, 0, 7, 4, 3, 2, 0, 158, 0, 1, 2, 0, 157, 2, 7, 0, 3, 2, 0, 157, 0, 2010, 3, 14, 1, 10, 3, 0, 160, 5, 3, 2, 0, 157, 0, 1, 0, 0, 1, 10, 3, 0, 160, 5, 3, 2, 0, 157, 0, 1, 0, 4]), (20, [4, 16], [30, 0, 1, 1, 158, -1, 0, 0]), (20, [4, 16], [30, 0, -1, 1, 158, 1, 0, 0]), (20, [4], [50, 2, 0, 164, 165, 4, 7, 1, 3, 2, 0, 164, 0, 0, 0, 3, 2, 0, 165, 0, 23]), (20, [4], [30, 0, 1, 1, 159]), (20, [4], [30, 0, -1, 1, 159]), (20, [4, 17], [50, 1, 0, 8, 1, 3, 2, 0, 8, 1, 1]), (20, [4, 18], [50, 1, 0, 159, 1, 3, 2, 0, 159, 1, 1]), (23, [1, 16], [0, 1, -1]), (23, [7, 16], [-2011, -1, -1]), (20, [4, 16, 17, 1, 2, 3], [60, 2, 5, 10, 164, 10, 160, 161, 162, 163, 1]), (23, [18], [0, 1]), (23, [18], [0, -1])], [], [(15, 6, 1, 1)])
theorem oo_Mo_product_at_f0_15 {kA : Nat → ClassId} : or_ok PRD kA GG o_Mo_product_at_f0_15 := by
  refine or_mk fun A ta ws vs hD hth hl => ?_
  intro t0 r0 t1 k1 t2 k2 t3 k3 t4 r4 t6 k6 t7 k7 t8 k8 t9 k9 t10 k10 t11 k11 t12 k12 t13 k13 t14 k14 t15 k15 d0 f0 f1 f2 f3 f4 f5 f6 f7 f8 ta1 w1 le1 s1 f10 f11 f12 f13 f14 f15 f16 f17 f18 f19 f20 f21 f22 f23 f24 f25 f26 f27 f28
  replace f0 := shm_311 f0
  replace f1 := shm_302 f1
  replace f2 := shm_302 f2
  replace f3 := shm_299 f3
  replace f4 := shm_999 f4
  replace f5 := shm_1000 f5
  replace f6 := shm_1477 f6
  replace f7 := shm_1013 f7
  replace f8 := shm_5 f8
  have s1 : (∀ b j, w_el ws b j = w_el w1 b j) ∧ ∀ b j, w_fd ws b j = if b = v_ad (n_v vs 4) ∧ j = 158 then n_v vs 15 else w_fd w1 b j := s1.2
  replace f10 := shm_12 f10
  replace f11 := shm_311 f11
  replace f12 := shm_319 f12
  replace f13 := shm_320 f13
  replace f14 := shm_302 f14
  replace f15 := shm_154 f15
  replace f16 := shm_319 f16
  replace f17 := shm_320 f17
  replace f18 := shm_302 f18
  replace f19 := shm_296 f19
  replace f20 := shm_306 f20
  replace f21 := shm_299 f21
  replace f22 := shm_999 f22
  replace f23 := shm_1000 f23
  replace f24 := shm_342 f24
  replace f25 := shm_1477 f25
  replace f26 := shm_1013 f26
  replace f27 := shm_309 f27
  replace f28 := shm_310 f28
  have q4 : n_v vs 4 = n_v vs 0 := f8.symm
  simp only [q4] at f0 f1 f2 f3 f4 f5
  rw [q4] at s1
  simp only [q4] at f11 f12 f13 f14 f16 f17 f18 f19 f20 f21 f22 f23 f24 f27 f28
  have ar_0_1_1 : w_ar w1 (n_v vs 0) 1 = w_ar ws (n_v vs 0) 1 := by show v_ad (w_fd w1 _ _) = v_ad (w_fd ws _ _); rw [s1.2, if_neg (fun e => absurd e.2 (by decide))]
  have cr_0_1 := fdq_46 hD hth r0
  have ar_0_160_1 : w_ar w1 (n_v vs 0) 160 = w_ar ws (n_v vs 0) 160 := by show v_ad (w_fd w1 _ _) = v_ad (w_fd ws _ _); rw [s1.2, if_neg (fun e => absurd e.2 (by decide))]
  have cr_0_160 := fdq_41 hD hth r0
  have ar_0_161_1 : w_ar w1 (n_v vs 0) 161 = w_ar ws (n_v vs 0) 161 := by show v_ad (w_fd w1 _ _) = v_ad (w_fd ws _ _); rw [s1.2, if_neg (fun e => absurd e.2 (by decide))]
  have ar_0_162_1 : w_ar w1 (n_v vs 0) 162 = w_ar ws (n_v vs 0) 162 := by show v_ad (w_fd w1 _ _) = v_ad (w_fd ws _ _); rw [s1.2, if_neg (fun e => absurd e.2 (by decide))]
  have cr_0_162 := fdq_48 hD hth r0
  have ar_0_163_1 : w_ar w1 (n_v vs 0) 163 = w_ar ws (n_v vs 0) 163 := by show v_ad (w_fd w1 _ _) = v_ad (w_fd ws _ _); rw [s1.2, if_neg (fun e => absurd e.2 (by decide))]
  have cr_0_163 := fdq_49 hD hth r0
  have g0 : v_iv (n_v vs 15) = w_fi ws (n_v vs 0) 158 := congrArg v_iv f0
  have g11 : v_iv (n_v vs 6) = w_fi w1 (n_v vs 0) 158 := congrArg v_iv f11
  simp only [ar_0_160_1, ar_0_161_1, ar_0_1_1, ar_0_162_1, ar_0_163_1] at f12 f13 f16 f17 f19 f24
  have fe_0_8_1 : w_fi ws (n_v vs 0) 8 = w_fi w1 (n_v vs 0) 8 := by show v_iv (w_fd _ _ _) = v_iv (w_fd _ _ _); rw [s1.2, if_neg (fun e => absurd e.2 (by decide))]
  have fe_0_10_1 : w_fi ws (n_v vs 0) 10 = w_fi w1 (n_v vs 0) 10 := by show v_iv (w_fd _ _ _) = v_iv (w_fd _ _ _); rw [s1.2, if_neg (fun e => absurd e.2 (by decide))]
  have fe_0_157_1 : w_fi ws (n_v vs 0) 157 = w_fi w1 (n_v vs 0) 157 := by show v_iv (w_fd _ _ _) = v_iv (w_fd _ _ _); rw [s1.2, if_neg (fun e => absurd e.2 (by decide))]
  have fe_0_158_1 : w_fi ws (n_v vs 0) 158 = v_iv (n_v vs 15) := by show v_iv (w_fd _ _ _) = _; rw [s1.2, if_pos ⟨rfl, rfl⟩]
  have fe_0_159_1 : w_fi ws (n_v vs 0) 159 = w_fi w1 (n_v vs 0) 159 := by show v_iv (w_fd _ _ _) = v_iv (w_fd _ _ _); rw [s1.2, if_neg (fun e => absurd e.2 (by decide))]
  have fe_0_164_1 : w_fi ws (n_v vs 0) 164 = w_fi w1 (n_v vs 0) 164 := by show v_iv (w_fd _ _ _) = v_iv (w_fd _ _ _); rw [s1.2, if_neg (fun e => absurd e.2 (by decide))]
  have fe_0_165_1 : w_fi ws (n_v vs 0) 165 = w_fi w1 (n_v vs 0) 165 := by show v_iv (w_fd _ _ _) = v_iv (w_fd _ _ _); rw [s1.2, if_neg (fun e => absurd e.2 (by decide))]
  have hE_0_1_1 : ∀ j : Int, w_ei ws (w_ar ws (n_v vs 0) 1) j = w_ei w1 (w_ar ws (n_v vs 0) 1) j := fun j => s1.1 _ _
  have hK_0_1 := elq_6 hD hth cr_0_1
  have hE_0_160_1 : ∀ j : Int, w_ei ws (w_ar ws (n_v vs 0) 160) j = w_ei w1 (w_ar ws (n_v vs 0) 160) j := fun j => s1.1 _ _
  have hK_0_160 := elq_5 hD hth cr_0_160
  have hE_0_161_1 : ∀ j : Int, w_ei ws (w_ar ws (n_v vs 0) 161) j = w_ei w1 (w_ar ws (n_v vs 0) 161) j := fun j => s1.1 _ _
  have hE_0_162_1 : ∀ j : Int, w_ei ws (w_ar ws (n_v vs 0) 162) j = w_ei w1 (w_ar ws (n_v vs 0) 162) j := fun j => s1.1 _ _
  have hK_0_162 := elq_7 hD hth cr_0_162
  have hE_0_163_1 : ∀ j : Int, w_ei ws (w_ar ws (n_v vs 0) 163) j = w_ei w1 (w_ar ws (n_v vs 0) 163) j := fun j => s1.1 _ _
  have hK_0_163 := elq_8 hD hth cr_0_163
  have kz_0_8 := fdq_14 hD hth r0
  have kz_0_10 := fdq_50 hD hth r0
  have kz_0_157 := fdq_42 hD hth r0
  have kz_0_158 := fdq_43 hD hth r0
  have kz_0_159 := fdq_44 hD hth r0
  have kz_0_164 := fdq_45 hD hth r0
  have kz_0_165 := fdq_35 hD hth r0
  obtain ⟨x, ex, hx⟩ := iv_ex (ta := ta) (lo := 0) (hi := 2009) (z := w_fi ws (n_v vs 0) 158) (by omega) (by omega) (by omega) (by omega)
  have ex2 : v_iv (Value.int x) = w_fi ws (n_v vs 0) 158 := ex
  have ex3 : 0 ≤ v_iv (Value.int x) ∧ v_iv (Value.int x) ≤ 2009 := tv_rng hx
  obtain ⟨y, ey, hy⟩ := iv_ex (ta := ta) (lo := 0) (hi := 5) (z := w_fi ws (n_v vs 0) 8) (by omega) (by omega) (by omega) (by omega)
  have ey2 : v_iv (Value.int y) = w_fi ws (n_v vs 0) 8 := ey
  have ey3 : 0 ≤ v_iv (Value.int y) ∧ v_iv (Value.int y) ≤ 5 := tv_rng hy
  obtain ⟨u, eu, hu⟩ := iv_ex (ta := ta) (lo := 0) (hi := 13) (z := w_fi ws (n_v vs 0) 159) (by omega) (by omega) (by omega) (by omega)
  have eu2 : v_iv (Value.int u) = w_fi ws (n_v vs 0) 159 := eu
  have eu3 : 0 ≤ v_iv (Value.int u) ∧ v_iv (Value.int u) ≤ 13 := tv_rng hu
  have e_1 : n_v (vs ++ [Value.int x, Value.int y, Value.int u]) 1 = n_v vs 1 := n_v_old (by rw [hl]; decide)
  have e_2 : n_v (vs ++ [Value.int x, Value.int y, Value.int u]) 2 = n_v vs 2 := n_v_old (by rw [hl]; decide)
  have e_3 : n_v (vs ++ [Value.int x, Value.int y, Value.int u]) 3 = n_v vs 3 := n_v_old (by rw [hl]; decide)
  have e_4 : n_v (vs ++ [Value.int x, Value.int y, Value.int u]) 4 = n_v vs 4 := n_v_old (by rw [hl]; decide)
  have e_7 : n_v (vs ++ [Value.int x, Value.int y, Value.int u]) 7 = n_v vs 7 := n_v_old (by rw [hl]; decide)
  have e_16 : n_v (vs ++ [Value.int x, Value.int y, Value.int u]) 16 = Value.int x := n_v_newk (k := 0) hl rfl
  have e_17 : n_v (vs ++ [Value.int x, Value.int y, Value.int u]) 17 = Value.int y := n_v_newk (k := 1) hl rfl
  have e_18 : n_v (vs ++ [Value.int x, Value.int y, Value.int u]) 18 = Value.int u := n_v_newk (k := 2) hl rfl
  have nf0 : fc_1 PRD (20, [4], [50, 2, 1, 158, 157, 160, 2, 12, 0, 7, 4, 3, 2, 0, 158, 0, 1, 2, 0, 157, 2, 7, 0, 3, 2, 0, 157, 0, 2010, 3, 14, 1, 10, 3, 0, 160, 5, 3, 2, 0, 157, 0, 1, 0, 0, 1, 10, 3, 0, 160, 5, 3, 2, 0, 157, 0, 1, 0, 4]) ws (vs ++ [Value.int x, Value.int y, Value.int u]) := by
    refine ⟨nf_inA hl rfl, sgq_296 ?_⟩
    · show ((w_fi ws (n_v (vs ++ [Value.int x, Value.int y, Value.int u]) 4) 158 + 1) ≤ w_fi ws (n_v (vs ++ [Value.int x, Value.int y, Value.int u]) 4) 157) ∧ ((w_fi ws (n_v (vs ++ [Value.int x, Value.int y, Value.int u]) 4) 157 ≤ 2010) ∧ ((w_ei ws (w_ar ws (n_v (vs ++ [Value.int x, Value.int y, Value.int u]) 4) 160) ((w_fi ws (n_v (vs ++ [Value.int x, Value.int y, Value.int u]) 4) 157 - 1)) = 0) ∨ (w_ei ws (w_ar ws (n_v (vs ++ [Value.int x, Value.int y, Value.int u]) 4) 160) ((w_fi ws (n_v (vs ++ [Value.int x, Value.int y, Value.int u]) 4) 157 - 1)) = 4)))
      simp only [e_4, q4]
      exact vc_Mo_product_at_f0_15_0 (v_iv (n_v vs 1)) (v_iv (n_v vs 2)) (v_iv (n_v vs 3)) (v_iv (n_v vs 6)) (v_iv (n_v vs 7)) (v_iv (n_v vs 8)) (v_iv (n_v vs 9)) (v_iv (n_v vs 10)) (v_iv (n_v vs 11)) (v_iv (n_v vs 12)) (v_iv (n_v vs 13)) (v_iv (n_v vs 14)) (v_iv (n_v vs 15)) (w_fi ws (n_v vs 0) 158) (w_fi ws (n_v vs 0) 8) (w_fi ws (n_v vs 0) 164) (w_fi ws (n_v vs 0) 165) (w_fi ws (n_v vs 0) 159) (w_fi w1 (n_v vs 0) 158) (w_ei w1 (w_ar ws (n_v vs 0) 160)) (w_ei w1 (w_ar ws (n_v vs 0) 161)) (w_fi w1 (n_v vs 0) 8) (w_fi w1 (n_v vs 0) 157) (w_fi w1 (n_v vs 0) 164) (w_fi w1 (n_v vs 0) 165) (w_fi w1 (n_v vs 0) 159) (w_ei w1 (w_ar ws (n_v vs 0) 162)) (w_ei w1 (w_ar ws (n_v vs 0) 163)) (w_ei w1 (w_ar ws (n_v vs 0) 1)) (w_fi w1 (n_v vs 0) 10) (w_fi ws (n_v vs 0) 10) (w_fi ws (n_v vs 0) 157) (w_ei ws (w_ar ws (n_v vs 0) 1)) (w_ei ws (w_ar ws (n_v vs 0) 160)) (w_ei ws (w_ar ws (n_v vs 0) 161)) (w_ei ws (w_ar ws (n_v vs 0) 162)) (w_ei ws (w_ar ws (n_v vs 0) 163)) (v_iv (Value.int x)) (v_iv (Value.int y)) (v_iv (Value.int u)) k1 k2 k3 k6 k7 k8 k9 k10 k11 k12 k13 k14 k15 d0 g0 f1 f2 f3 f4 f5 f6 f7 f10 g11 f12 f13 f14 f15 f16 f17 f18 f19 f20 f21 f22 f23 f24 f25 f26 f27 f28 fe_0_8_1 fe_0_10_1 fe_0_157_1 fe_0_158_1 fe_0_159_1 fe_0_164_1 fe_0_165_1 hE_0_1_1 hK_0_1 hE_0_160_1 hK_0_160 hE_0_161_1 hE_0_162_1 hK_0_162 hE_0_163_1 hK_0_163 kz_0_8 kz_0_10 kz_0_157 kz_0_158 kz_0_159 kz_0_164 kz_0_165 ex2 ex3 ey2 ey3 eu2 eu3
  have nf1 : fc_1 PRD (20, [4, 16], [30, 0, 1, 1, 158, -1, 0, 0]) ws (vs ++ [Value.int x, Value.int y, Value.int u]) := by
    refine ⟨nf_inA hl rfl, sgq_297 ?_⟩
    · show 1 * w_fi ws (n_v (vs ++ [Value.int x, Value.int y, Value.int u]) 4) 158 + ((-1) * v_iv (n_v (vs ++ [Value.int x, Value.int y, Value.int u]) 16) + 0) ≤ 0
      simp only [e_4, e_16, q4]
      exact vc_Mo_product_at_f0_15_1 (v_iv (n_v vs 1)) (v_iv (n_v vs 2)) (v_iv (n_v vs 3)) (v_iv (n_v vs 6)) (v_iv (n_v vs 7)) (v_iv (n_v vs 8)) (v_iv (n_v vs 9)) (v_iv (n_v vs 10)) (v_iv (n_v vs 11)) (v_iv (n_v vs 12)) (v_iv (n_v vs 13)) (v_iv (n_v vs 14)) (v_iv (n_v vs 15)) (w_fi ws (n_v vs 0) 158) (w_fi ws (n_v vs 0) 8) (w_fi ws (n_v vs 0) 164) (w_fi ws (n_v vs 0) 165) (w_fi ws (n_v vs 0) 159) (w_fi w1 (n_v vs 0) 158) (w_ei w1 (w_ar ws (n_v vs 0) 160)) (w_ei w1 (w_ar ws (n_v vs 0) 161)) (w_fi w1 (n_v vs 0) 8) (w_fi w1 (n_v vs 0) 157) (w_fi w1 (n_v vs 0) 164) (w_fi w1 (n_v vs 0) 165) (w_fi w1 (n_v vs 0) 159) (w_ei w1 (w_ar ws (n_v vs 0) 162)) (w_ei w1 (w_ar ws (n_v vs 0) 163)) (w_ei w1 (w_ar ws (n_v vs 0) 1)) (w_fi w1 (n_v vs 0) 10) (w_fi ws (n_v vs 0) 10) (w_fi ws (n_v vs 0) 157) (w_ei ws (w_ar ws (n_v vs 0) 1)) (w_ei ws (w_ar ws (n_v vs 0) 160)) (w_ei ws (w_ar ws (n_v vs 0) 161)) (w_ei ws (w_ar ws (n_v vs 0) 162)) (w_ei ws (w_ar ws (n_v vs 0) 163)) (v_iv (Value.int x)) (v_iv (Value.int y)) (v_iv (Value.int u)) k1 k2 k3 k6 k7 k8 k9 k10 k11 k12 k13 k14 k15 d0 g0 f1 f2 f3 f4 f5 f6 f7 f10 g11 f12 f13 f14 f15 f16 f17 f18 f19 f20 f21 f22 f23 f24 f25 f26 f27 f28 fe_0_8_1 fe_0_10_1 fe_0_157_1 fe_0_158_1 fe_0_159_1 fe_0_164_1 fe_0_165_1 hE_0_1_1 hK_0_1 hE_0_160_1 hK_0_160 hE_0_161_1 hE_0_162_1 hK_0_162 hE_0_163_1 hK_0_163 kz_0_8 kz_0_10 kz_0_157 kz_0_158 kz_0_159 kz_0_164 kz_0_165 ex2 ex3 ey2 ey3 eu2 eu3
  have nf2 : fc_1 PRD (20, [4, 16], [30, 0, -1, 1, 158, 1, 0, 0]) ws (vs ++ [Value.int x, Value.int y, Value.int u]) := by
    refine ⟨nf_inA hl rfl, sgq_298 ?_⟩
    · show (-1) * w_fi ws (n_v (vs ++ [Value.int x, Value.int y, Value.int u]) 4) 158 + (1 * v_iv (n_v (vs ++ [Value.int x, Value.int y, Value.int u]) 16) + 0) ≤ 0
      simp only [e_4, e_16, q4]
      exact vc_Mo_product_at_f0_15_2 (v_iv (n_v vs 1)) (v_iv (n_v vs 2)) (v_iv (n_v vs 3)) (v_iv (n_v vs 6)) (v_iv (n_v vs 7)) (v_iv (n_v vs 8)) (v_iv (n_v vs 9)) (v_iv (n_v vs 10)) (v_iv (n_v vs 11)) (v_iv (n_v vs 12)) (v_iv (n_v vs 13)) (v_iv (n_v vs 14)) (v_iv (n_v vs 15)) (w_fi ws (n_v vs 0) 158) (w_fi ws (n_v vs 0) 8) (w_fi ws (n_v vs 0) 164) (w_fi ws (n_v vs 0) 165) (w_fi ws (n_v vs 0) 159) (w_fi w1 (n_v vs 0) 158) (w_ei w1 (w_ar ws (n_v vs 0) 160)) (w_ei w1 (w_ar ws (n_v vs 0) 161)) (w_fi w1 (n_v vs 0) 8) (w_fi w1 (n_v vs 0) 157) (w_fi w1 (n_v vs 0) 164) (w_fi w1 (n_v vs 0) 165) (w_fi w1 (n_v vs 0) 159) (w_ei w1 (w_ar ws (n_v vs 0) 162)) (w_ei w1 (w_ar ws (n_v vs 0) 163)) (w_ei w1 (w_ar ws (n_v vs 0) 1)) (w_fi w1 (n_v vs 0) 10) (w_fi ws (n_v vs 0) 10) (w_fi ws (n_v vs 0) 157) (w_ei ws (w_ar ws (n_v vs 0) 1)) (w_ei ws (w_ar ws (n_v vs 0) 160)) (w_ei ws (w_ar ws (n_v vs 0) 161)) (w_ei ws (w_ar ws (n_v vs 0) 162)) (w_ei ws (w_ar ws (n_v vs 0) 163)) (v_iv (Value.int x)) (v_iv (Value.int y)) (v_iv (Value.int u)) k1 k2 k3 k6 k7 k8 k9 k10 k11 k12 k13 k14 k15 d0 g0 f1 f2 f3 f4 f5 f6 f7 f10 g11 f12 f13 f14 f15 f16 f17 f18 f19 f20 f21 f22 f23 f24 f25 f26 f27 f28 fe_0_8_1 fe_0_10_1 fe_0_157_1 fe_0_158_1 fe_0_159_1 fe_0_164_1 fe_0_165_1 hE_0_1_1 hK_0_1 hE_0_160_1 hK_0_160 hE_0_161_1 hE_0_162_1 hK_0_162 hE_0_163_1 hK_0_163 kz_0_8 kz_0_10 kz_0_157 kz_0_158 kz_0_159 kz_0_164 kz_0_165 ex2 ex3 ey2 ey3 eu2 eu3
  have nf3 : fc_1 PRD (20, [4], [50, 2, 0, 164, 165, 4, 7, 1, 3, 2, 0, 164, 0, 0, 0, 3, 2, 0, 165, 0, 23]) ws (vs ++ [Value.int x, Value.int y, Value.int u]) := by
    refine ⟨nf_inA hl rfl, sgq_299 ?_⟩
    · show (w_fi ws (n_v (vs ++ [Value.int x, Value.int y, Value.int u]) 4) 164 = 0) → (w_fi ws (n_v (vs ++ [Value.int x, Value.int y, Value.int u]) 4) 165 ≤ 23)
      simp only [e_4, q4]
      exact vc_Mo_product_at_f0_15_3 (v_iv (n_v vs 1)) (v_iv (n_v vs 2)) (v_iv (n_v vs 3)) (v_iv (n_v vs 6)) (v_iv (n_v vs 7)) (v_iv (n_v vs 8)) (v_iv (n_v vs 9)) (v_iv (n_v vs 10)) (v_iv (n_v vs 11)) (v_iv (n_v vs 12)) (v_iv (n_v vs 13)) (v_iv (n_v vs 14)) (v_iv (n_v vs 15)) (w_fi ws (n_v vs 0) 158) (w_fi ws (n_v vs 0) 8) (w_fi ws (n_v vs 0) 164) (w_fi ws (n_v vs 0) 165) (w_fi ws (n_v vs 0) 159) (w_fi w1 (n_v vs 0) 158) (w_ei w1 (w_ar ws (n_v vs 0) 160)) (w_ei w1 (w_ar ws (n_v vs 0) 161)) (w_fi w1 (n_v vs 0) 8) (w_fi w1 (n_v vs 0) 157) (w_fi w1 (n_v vs 0) 164) (w_fi w1 (n_v vs 0) 165) (w_fi w1 (n_v vs 0) 159) (w_ei w1 (w_ar ws (n_v vs 0) 162)) (w_ei w1 (w_ar ws (n_v vs 0) 163)) (w_ei w1 (w_ar ws (n_v vs 0) 1)) (w_fi w1 (n_v vs 0) 10) (w_fi ws (n_v vs 0) 10) (w_fi ws (n_v vs 0) 157) (w_ei ws (w_ar ws (n_v vs 0) 1)) (w_ei ws (w_ar ws (n_v vs 0) 160)) (w_ei ws (w_ar ws (n_v vs 0) 161)) (w_ei ws (w_ar ws (n_v vs 0) 162)) (w_ei ws (w_ar ws (n_v vs 0) 163)) (v_iv (Value.int x)) (v_iv (Value.int y)) (v_iv (Value.int u)) k1 k2 k3 k6 k7 k8 k9 k10 k11 k12 k13 k14 k15 d0 g0 f1 f2 f3 f4 f5 f6 f7 f10 g11 f12 f13 f14 f15 f16 f17 f18 f19 f20 f21 f22 f23 f24 f25 f26 f27 f28 fe_0_8_1 fe_0_10_1 fe_0_157_1 fe_0_158_1 fe_0_159_1 fe_0_164_1 fe_0_165_1 hE_0_1_1 hK_0_1 hE_0_160_1 hK_0_160 hE_0_161_1 hE_0_162_1 hK_0_162 hE_0_163_1 hK_0_163 kz_0_8 kz_0_10 kz_0_157 kz_0_158 kz_0_159 kz_0_164 kz_0_165 ex2 ex3 ey2 ey3 eu2 eu3
  have nf4 : fc_1 PRD (20, [4], [30, 0, 1, 1, 159]) ws (vs ++ [Value.int x, Value.int y, Value.int u]) := by
    refine ⟨nf_inA hl rfl, sgq_999 ?_⟩
    · show 1 * w_fi ws (n_v (vs ++ [Value.int x, Value.int y, Value.int u]) 4) 159 + 0 ≤ 0
      simp only [e_4, q4]
      exact vc_Mo_product_at_f0_15_4 (v_iv (n_v vs 1)) (v_iv (n_v vs 2)) (v_iv (n_v vs 3)) (v_iv (n_v vs 6)) (v_iv (n_v vs 7)) (v_iv (n_v vs 8)) (v_iv (n_v vs 9)) (v_iv (n_v vs 10)) (v_iv (n_v vs 11)) (v_iv (n_v vs 12)) (v_iv (n_v vs 13)) (v_iv (n_v vs 14)) (v_iv (n_v vs 15)) (w_fi ws (n_v vs 0) 158) (w_fi ws (n_v vs 0) 8) (w_fi ws (n_v vs 0) 164) (w_fi ws (n_v vs 0) 165) (w_fi ws (n_v vs 0) 159) (w_fi w1 (n_v vs 0) 158) (w_ei w1 (w_ar ws (n_v vs 0) 160)) (w_ei w1 (w_ar ws (n_v vs 0) 161)) (w_fi w1 (n_v vs 0) 8) (w_fi w1 (n_v vs 0) 157) (w_fi w1 (n_v vs 0) 164) (w_fi w1 (n_v vs 0) 165) (w_fi w1 (n_v vs 0) 159) (w_ei w1 (w_ar ws (n_v vs 0) 162)) (w_ei w1 (w_ar ws (n_v vs 0) 163)) (w_ei w1 (w_ar ws (n_v vs 0) 1)) (w_fi w1 (n_v vs 0) 10) (w_fi ws (n_v vs 0) 10) (w_fi ws (n_v vs 0) 157) (w_ei ws (w_ar ws (n_v vs 0) 1)) (w_ei ws (w_ar ws (n_v vs 0) 160)) (w_ei ws (w_ar ws (n_v vs 0) 161)) (w_ei ws (w_ar ws (n_v vs 0) 162)) (w_ei ws (w_ar ws (n_v vs 0) 163)) (v_iv (Value.int x)) (v_iv (Value.int y)) (v_iv (Value.int u)) k1 k2 k3 k6 k7 k8 k9 k10 k11 k12 k13 k14 k15 d0 g0 f1 f2 f3 f4 f5 f6 f7 f10 g11 f12 f13 f14 f15 f16 f17 f18 f19 f20 f21 f22 f23 f24 f25 f26 f27 f28 fe_0_8_1 fe_0_10_1 fe_0_157_1 fe_0_158_1 fe_0_159_1 fe_0_164_1 fe_0_165_1 hE_0_1_1 hK_0_1 hE_0_160_1 hK_0_160 hE_0_161_1 hE_0_162_1 hK_0_162 hE_0_163_1 hK_0_163 kz_0_8 kz_0_10 kz_0_157 kz_0_158 kz_0_159 kz_0_164 kz_0_165 ex2 ex3 ey2 ey3 eu2 eu3
  have nf5 : fc_1 PRD (20, [4], [30, 0, -1, 1, 159]) ws (vs ++ [Value.int x, Value.int y, Value.int u]) := by
    refine ⟨nf_inA hl rfl, sgq_1000 ?_⟩
    · show (-1) * w_fi ws (n_v (vs ++ [Value.int x, Value.int y, Value.int u]) 4) 159 + 0 ≤ 0
      simp only [e_4, q4]
      exact vc_Mo_product_at_f0_15_5 (v_iv (n_v vs 1)) (v_iv (n_v vs 2)) (v_iv (n_v vs 3)) (v_iv (n_v vs 6)) (v_iv (n_v vs 7)) (v_iv (n_v vs 8)) (v_iv (n_v vs 9)) (v_iv (n_v vs 10)) (v_iv (n_v vs 11)) (v_iv (n_v vs 12)) (v_iv (n_v vs 13)) (v_iv (n_v vs 14)) (v_iv (n_v vs 15)) (w_fi ws (n_v vs 0) 158) (w_fi ws (n_v vs 0) 8) (w_fi ws (n_v vs 0) 164) (w_fi ws (n_v vs 0) 165) (w_fi ws (n_v vs 0) 159) (w_fi w1 (n_v vs 0) 158) (w_ei w1 (w_ar ws (n_v vs 0) 160)) (w_ei w1 (w_ar ws (n_v vs 0) 161)) (w_fi w1 (n_v vs 0) 8) (w_fi w1 (n_v vs 0) 157) (w_fi w1 (n_v vs 0) 164) (w_fi w1 (n_v vs 0) 165) (w_fi w1 (n_v vs 0) 159) (w_ei w1 (w_ar ws (n_v vs 0) 162)) (w_ei w1 (w_ar ws (n_v vs 0) 163)) (w_ei w1 (w_ar ws (n_v vs 0) 1)) (w_fi w1 (n_v vs 0) 10) (w_fi ws (n_v vs 0) 10) (w_fi ws (n_v vs 0) 157) (w_ei ws (w_ar ws (n_v vs 0) 1)) (w_ei ws (w_ar ws (n_v vs 0) 160)) (w_ei ws (w_ar ws (n_v vs 0) 161)) (w_ei ws (w_ar ws (n_v vs 0) 162)) (w_ei ws (w_ar ws (n_v vs 0) 163)) (v_iv (Value.int x)) (v_iv (Value.int y)) (v_iv (Value.int u)) k1 k2 k3 k6 k7 k8 k9 k10 k11 k12 k13 k14 k15 d0 g0 f1 f2 f3 f4 f5 f6 f7 f10 g11 f12 f13 f14 f15 f16 f17 f18 f19 f20 f21 f22 f23 f24 f25 f26 f27 f28 fe_0_8_1 fe_0_10_1 fe_0_157_1 fe_0_158_1 fe_0_159_1 fe_0_164_1 fe_0_165_1 hE_0_1_1 hK_0_1 hE_0_160_1 hK_0_160 hE_0_161_1 hE_0_162_1 hK_0_162 hE_0_163_1 hK_0_163 kz_0_8 kz_0_10 kz_0_157 kz_0_158 kz_0_159 kz_0_164 kz_0_165 ex2 ex3 ey2 ey3 eu2 eu3
  have nf6 : fc_1 PRD (20, [4, 17], [50, 1, 0, 8, 1, 3, 2, 0, 8, 1, 1]) ws (vs ++ [Value.int x, Value.int y, Value.int u]) := by
    refine ⟨nf_inA hl rfl, sgq_302 ?_⟩
    · show w_fi ws (n_v (vs ++ [Value.int x, Value.int y, Value.int u]) 4) 8 = v_iv (n_v (vs ++ [Value.int x, Value.int y, Value.int u]) 17)
      simp only [e_4, e_17, q4]
      exact vc_Mo_product_at_f0_15_6 (v_iv (n_v vs 1)) (v_iv (n_v vs 2)) (v_iv (n_v vs 3)) (v_iv (n_v vs 6)) (v_iv (n_v vs 7)) (v_iv (n_v vs 8)) (v_iv (n_v vs 9)) (v_iv (n_v vs 10)) (v_iv (n_v vs 11)) (v_iv (n_v vs 12)) (v_iv (n_v vs 13)) (v_iv (n_v vs 14)) (v_iv (n_v vs 15)) (w_fi ws (n_v vs 0) 158) (w_fi ws (n_v vs 0) 8) (w_fi ws (n_v vs 0) 164) (w_fi ws (n_v vs 0) 165) (w_fi ws (n_v vs 0) 159) (w_fi w1 (n_v vs 0) 158) (w_ei w1 (w_ar ws (n_v vs 0) 160)) (w_ei w1 (w_ar ws (n_v vs 0) 161)) (w_fi w1 (n_v vs 0) 8) (w_fi w1 (n_v vs 0) 157) (w_fi w1 (n_v vs 0) 164) (w_fi w1 (n_v vs 0) 165) (w_fi w1 (n_v vs 0) 159) (w_ei w1 (w_ar ws (n_v vs 0) 162)) (w_ei w1 (w_ar ws (n_v vs 0) 163)) (w_ei w1 (w_ar ws (n_v vs 0) 1)) (w_fi w1 (n_v vs 0) 10) (w_fi ws (n_v vs 0) 10) (w_fi ws (n_v vs 0) 157) (w_ei ws (w_ar ws (n_v vs 0) 1)) (w_ei ws (w_ar ws (n_v vs 0) 160)) (w_ei ws (w_ar ws (n_v vs 0) 161)) (w_ei ws (w_ar ws (n_v vs 0) 162)) (w_ei ws (w_ar ws (n_v vs 0) 163)) (v_iv (Value.int x)) (v_iv (Value.int y)) (v_iv (Value.int u)) k1 k2 k3 k6 k7 k8 k9 k10 k11 k12 k13 k14 k15 d0 g0 f1 f2 f3 f4 f5 f6 f7 f10 g11 f12 f13 f14 f15 f16 f17 f18 f19 f20 f21 f22 f23 f24 f25 f26 f27 f28 fe_0_8_1 fe_0_10_1 fe_0_157_1 fe_0_158_1 fe_0_159_1 fe_0_164_1 fe_0_165_1 hE_0_1_1 hK_0_1 hE_0_160_1 hK_0_160 hE_0_161_1 hE_0_162_1 hK_0_162 hE_0_163_1 hK_0_163 kz_0_8 kz_0_10 kz_0_157 kz_0_158 kz_0_159 kz_0_164 kz_0_165 ex2 ex3 ey2 ey3 eu2 eu3
  have nf7 : fc_1 PRD (20, [4, 18], [50, 1, 0, 159, 1, 3, 2, 0, 159, 1, 1]) ws (vs ++ [Value.int x, Value.int y, Value.int u]) := by
    refine ⟨nf_inA hl rfl, sgq_303 ?_⟩
    · show w_fi ws (n_v (vs ++ [Value.int x, Value.int y, Value.int u]) 4) 159 = v_iv (n_v (vs ++ [Value.int x, Value.int y, Value.int u]) 18)
      simp only [e_4, e_18, q4]
      exact vc_Mo_product_at_f0_15_7 (v_iv (n_v vs 1)) (v_iv (n_v vs 2)) (v_iv (n_v vs 3)) (v_iv (n_v vs 6)) (v_iv (n_v vs 7)) (v_iv (n_v vs 8)) (v_iv (n_v vs 9)) (v_iv (n_v vs 10)) (v_iv (n_v vs 11)) (v_iv (n_v vs 12)) (v_iv (n_v vs 13)) (v_iv (n_v vs 14)) (v_iv (n_v vs 15)) (w_fi ws (n_v vs 0) 158) (w_fi ws (n_v vs 0) 8) (w_fi ws (n_v vs 0) 164) (w_fi ws (n_v vs 0) 165) (w_fi ws (n_v vs 0) 159) (w_fi w1 (n_v vs 0) 158) (w_ei w1 (w_ar ws (n_v vs 0) 160)) (w_ei w1 (w_ar ws (n_v vs 0) 161)) (w_fi w1 (n_v vs 0) 8) (w_fi w1 (n_v vs 0) 157) (w_fi w1 (n_v vs 0) 164) (w_fi w1 (n_v vs 0) 165) (w_fi w1 (n_v vs 0) 159) (w_ei w1 (w_ar ws (n_v vs 0) 162)) (w_ei w1 (w_ar ws (n_v vs 0) 163)) (w_ei w1 (w_ar ws (n_v vs 0) 1)) (w_fi w1 (n_v vs 0) 10) (w_fi ws (n_v vs 0) 10) (w_fi ws (n_v vs 0) 157) (w_ei ws (w_ar ws (n_v vs 0) 1)) (w_ei ws (w_ar ws (n_v vs 0) 160)) (w_ei ws (w_ar ws (n_v vs 0) 161)) (w_ei ws (w_ar ws (n_v vs 0) 162)) (w_ei ws (w_ar ws (n_v vs 0) 163)) (v_iv (Value.int x)) (v_iv (Value.int y)) (v_iv (Value.int u)) k1 k2 k3 k6 k7 k8 k9 k10 k11 k12 k13 k14 k15 d0 g0 f1 f2 f3 f4 f5 f6 f7 f10 g11 f12 f13 f14 f15 f16 f17 f18 f19 f20 f21 f22 f23 f24 f25 f26 f27 f28 fe_0_8_1 fe_0_10_1 fe_0_157_1 fe_0_158_1 fe_0_159_1 fe_0_164_1 fe_0_165_1 hE_0_1_1 hK_0_1 hE_0_160_1 hK_0_160 hE_0_161_1 hE_0_162_1 hK_0_162 hE_0_163_1 hK_0_163 kz_0_8 kz_0_10 kz_0_157 kz_0_158 kz_0_159 kz_0_164 kz_0_165 ex2 ex3 ey2 ey3 eu2 eu3
  have nf8 : fc_1 PRD (23, [1, 16], [0, 1, -1]) ws (vs ++ [Value.int x, Value.int y, Value.int u]) := by
    refine ⟨nf_inA hl rfl, sgq_7 ?_⟩
    · show 1 * v_iv (n_v (vs ++ [Value.int x, Value.int y, Value.int u]) 1) + ((-1) * v_iv (n_v (vs ++ [Value.int x, Value.int y, Value.int u]) 16) + 0) ≤ 0
      simp only [e_1, e_16]
      exact vc_Mo_product_at_f0_15_8 (v_iv (n_v vs 1)) (v_iv (n_v vs 2)) (v_iv (n_v vs 3)) (v_iv (n_v vs 6)) (v_iv (n_v vs 7)) (v_iv (n_v vs 8)) (v_iv (n_v vs 9)) (v_iv (n_v vs 10)) (v_iv (n_v vs 11)) (v_iv (n_v vs 12)) (v_iv (n_v vs 13)) (v_iv (n_v vs 14)) (v_iv (n_v vs 15)) (w_fi ws (n_v vs 0) 158) (w_fi ws (n_v vs 0) 8) (w_fi ws (n_v vs 0) 164) (w_fi ws (n_v vs 0) 165) (w_fi ws (n_v vs 0) 159) (w_fi w1 (n_v vs 0) 158) (w_ei w1 (w_ar ws (n_v vs 0) 160)) (w_ei w1 (w_ar ws (n_v vs 0) 161)) (w_fi w1 (n_v vs 0) 8) (w_fi w1 (n_v vs 0) 157) (w_fi w1 (n_v vs 0) 164) (w_fi w1 (n_v vs 0) 165) (w_fi w1 (n_v vs 0) 159) (w_ei w1 (w_ar ws (n_v vs 0) 162)) (w_ei w1 (w_ar ws (n_v vs 0) 163)) (w_ei w1 (w_ar ws (n_v vs 0) 1)) (w_fi w1 (n_v vs 0) 10) (w_fi ws (n_v vs 0) 10) (w_fi ws (n_v vs 0) 157) (w_ei ws (w_ar ws (n_v vs 0) 1)) (w_ei ws (w_ar ws (n_v vs 0) 160)) (w_ei ws (w_ar ws (n_v vs 0) 161)) (w_ei ws (w_ar ws (n_v vs 0) 162)) (w_ei ws (w_ar ws (n_v vs 0) 163)) (v_iv (Value.int x)) (v_iv (Value.int y)) (v_iv (Value.int u)) k1 k2 k3 k6 k7 k8 k9 k10 k11 k12 k13 k14 k15 d0 g0 f1 f2 f3 f4 f5 f6 f7 f10 g11 f12 f13 f14 f15 f16 f17 f18 f19 f20 f21 f22 f23 f24 f25 f26 f27 f28 fe_0_8_1 fe_0_10_1 fe_0_157_1 fe_0_158_1 fe_0_159_1 fe_0_164_1 fe_0_165_1 hE_0_1_1 hK_0_1 hE_0_160_1 hK_0_160 hE_0_161_1 hE_0_162_1 hK_0_162 hE_0_163_1 hK_0_163 kz_0_8 kz_0_10 kz_0_157 kz_0_158 kz_0_159 kz_0_164 kz_0_165 ex2 ex3 ey2 ey3 eu2 eu3
  have nf9 : fc_1 PRD (23, [7, 16], [-2011, -1, -1]) ws (vs ++ [Value.int x, Value.int y, Value.int u]) := by
    refine ⟨nf_inA hl rfl, sgq_315 ?_⟩
    · show (-1) * v_iv (n_v (vs ++ [Value.int x, Value.int y, Value.int u]) 7) + ((-1) * v_iv (n_v (vs ++ [Value.int x, Value.int y, Value.int u]) 16) + 0) ≤ (-2011)
      simp only [e_7, e_16]
      exact vc_Mo_product_at_f0_15_9 (v_iv (n_v vs 1)) (v_iv (n_v vs 2)) (v_iv (n_v vs 3)) (v_iv (n_v vs 6)) (v_iv (n_v vs 7)) (v_iv (n_v vs 8)) (v_iv (n_v vs 9)) (v_iv (n_v vs 10)) (v_iv (n_v vs 11)) (v_iv (n_v vs 12)) (v_iv (n_v vs 13)) (v_iv (n_v vs 14)) (v_iv (n_v vs 15)) (w_fi ws (n_v vs 0) 158) (w_fi ws (n_v vs 0) 8) (w_fi ws (n_v vs 0) 164) (w_fi ws (n_v vs 0) 165) (w_fi ws (n_v vs 0) 159) (w_fi w1 (n_v vs 0) 158) (w_ei w1 (w_ar ws (n_v vs 0) 160)) (w_ei w1 (w_ar ws (n_v vs 0) 161)) (w_fi w1 (n_v vs 0) 8) (w_fi w1 (n_v vs 0) 157) (w_fi w1 (n_v vs 0) 164) (w_fi w1 (n_v vs 0) 165) (w_fi w1 (n_v vs 0) 159) (w_ei w1 (w_ar ws (n_v vs 0) 162)) (w_ei w1 (w_ar ws (n_v vs 0) 163)) (w_ei w1 (w_ar ws (n_v vs 0) 1)) (w_fi w1 (n_v vs 0) 10) (w_fi ws (n_v vs 0) 10) (w_fi ws (n_v vs 0) 157) (w_ei ws (w_ar ws (n_v vs 0) 1)) (w_ei ws (w_ar ws (n_v vs 0) 160)) (w_ei ws (w_ar ws (n_v vs 0) 161)) (w_ei ws (w_ar ws (n_v vs 0) 162)) (w_ei ws (w_ar ws (n_v vs 0) 163)) (v_iv (Value.int x)) (v_iv (Value.int y)) (v_iv (Value.int u)) k1 k2 k3 k6 k7 k8 k9 k10 k11 k12 k13 k14 k15 d0 g0 f1 f2 f3 f4 f5 f6 f7 f10 g11 f12 f13 f14 f15 f16 f17 f18 f19 f20 f21 f22 f23 f24 f25 f26 f27 f28 fe_0_8_1 fe_0_10_1 fe_0_157_1 fe_0_158_1 fe_0_159_1 fe_0_164_1 fe_0_165_1 hE_0_1_1 hK_0_1 hE_0_160_1 hK_0_160 hE_0_161_1 hE_0_162_1 hK_0_162 hE_0_163_1 hK_0_163 kz_0_8 kz_0_10 kz_0_157 kz_0_158 kz_0_159 kz_0_164 kz_0_165 ex2 ex3 ey2 ey3 eu2 eu3
  have nf10 : fc_1 PRD (20, [4, 16, 17, 1, 2, 3], [60, 2, 5, 10, 164, 10, 160, 161, 162, 163, 1]) ws (vs ++ [Value.int x, Value.int y, Value.int u]) := by
    refine ⟨nf_inA hl rfl, sgq_344 ?_⟩
    · show GPW (w_fi ws (n_v (vs ++ [Value.int x, Value.int y, Value.int u]) 4) 164) (w_fi ws (n_v (vs ++ [Value.int x, Value.int y, Value.int u]) 4) 10) (w_ei ws (w_ar ws (n_v (vs ++ [Value.int x, Value.int y, Value.int u]) 4) 160)) (w_ei ws (w_ar ws (n_v (vs ++ [Value.int x, Value.int y, Value.int u]) 4) 161)) (w_ei ws (w_ar ws (n_v (vs ++ [Value.int x, Value.int y, Value.int u]) 4) 162)) (w_ei ws (w_ar ws (n_v (vs ++ [Value.int x, Value.int y, Value.int u]) 4) 163)) (w_ei ws (w_ar ws (n_v (vs ++ [Value.int x, Value.int y, Value.int u]) 4) 1)) (v_iv (n_v (vs ++ [Value.int x, Value.int y, Value.int u]) 16)) (v_iv (n_v (vs ++ [Value.int x, Value.int y, Value.int u]) 17)) (v_iv (n_v (vs ++ [Value.int x, Value.int y, Value.int u]) 1)) (v_iv (n_v (vs ++ [Value.int x, Value.int y, Value.int u]) 2)) (v_iv (n_v (vs ++ [Value.int x, Value.int y, Value.int u]) 3))
      simp only [e_1, e_2, e_3, e_4, e_16, e_17, q4]
      exact vc_Mo_product_at_f0_15_10 (v_iv (n_v vs 1)) (v_iv (n_v vs 2)) (v_iv (n_v vs 3)) (v_iv (n_v vs 6)) (v_iv (n_v vs 8)) (v_iv (n_v vs 9)) (v_iv (n_v vs 10)) (v_iv (n_v vs 11)) (v_iv (n_v vs 12)) (v_iv (n_v vs 13)) (v_iv (n_v vs 15)) (w_fi ws (n_v vs 0) 158) (w_fi ws (n_v vs 0) 8) (w_fi ws (n_v vs 0) 164) (w_fi ws (n_v vs 0) 165) (w_fi ws (n_v vs 0) 159) (w_fi w1 (n_v vs 0) 158) (w_ei w1 (w_ar ws (n_v vs 0) 160)) (w_ei w1 (w_ar ws (n_v vs 0) 161)) (w_fi w1 (n_v vs 0) 8) (w_fi w1 (n_v vs 0) 157) (w_fi w1 (n_v vs 0) 164) (w_fi w1 (n_v vs 0) 165) (w_fi w1 (n_v vs 0) 159) (w_ei w1 (w_ar ws (n_v vs 0) 162)) (w_ei w1 (w_ar ws (n_v vs 0) 163)) (w_ei w1 (w_ar ws (n_v vs 0) 1)) (w_fi w1 (n_v vs 0) 10) (w_fi ws (n_v vs 0) 10) (w_fi ws (n_v vs 0) 157) (w_ei ws (w_ar ws (n_v vs 0) 1)) (w_ei ws (w_ar ws (n_v vs 0) 160)) (w_ei ws (w_ar ws (n_v vs 0) 161)) (w_ei ws (w_ar ws (n_v vs 0) 162)) (w_ei ws (w_ar ws (n_v vs 0) 163)) (v_iv (Value.int x)) (v_iv (Value.int y)) k1 k2 k3 k6 k8 k9 k10 k15 d0 g0 f2 g11 f15 f17 f24 fe_0_8_1 fe_0_10_1 fe_0_157_1 fe_0_159_1 fe_0_164_1 fe_0_165_1 hE_0_1_1 hE_0_160_1 hE_0_161_1 hE_0_162_1 hE_0_163_1 kz_0_8 kz_0_10 kz_0_157 kz_0_158 kz_0_159 kz_0_164 kz_0_165 ex2 ey2
  have nf11 : fc_1 PRD (23, [18], [0, 1]) ws (vs ++ [Value.int x, Value.int y, Value.int u]) := by
    refine ⟨nf_inA hl rfl, sgq_1477 ?_⟩
    · show 1 * v_iv (n_v (vs ++ [Value.int x, Value.int y, Value.int u]) 18) + 0 ≤ 0
      rw [e_18]
      exact vc_Mo_product_at_f0_15_11 (v_iv (n_v vs 1)) (v_iv (n_v vs 2)) (v_iv (n_v vs 3)) (v_iv (n_v vs 6)) (v_iv (n_v vs 7)) (v_iv (n_v vs 8)) (v_iv (n_v vs 9)) (v_iv (n_v vs 10)) (v_iv (n_v vs 11)) (v_iv (n_v vs 12)) (v_iv (n_v vs 13)) (v_iv (n_v vs 14)) (v_iv (n_v vs 15)) (w_fi ws (n_v vs 0) 158) (w_fi ws (n_v vs 0) 8) (w_fi ws (n_v vs 0) 164) (w_fi ws (n_v vs 0) 165) (w_fi ws (n_v vs 0) 159) (w_fi w1 (n_v vs 0) 158) (w_ei w1 (w_ar ws (n_v vs 0) 160)) (w_ei w1 (w_ar ws (n_v vs 0) 161)) (w_fi w1 (n_v vs 0) 8) (w_fi w1 (n_v vs 0) 157) (w_fi w1 (n_v vs 0) 164) (w_fi w1 (n_v vs 0) 165) (w_fi w1 (n_v vs 0) 159) (w_ei w1 (w_ar ws (n_v vs 0) 162)) (w_ei w1 (w_ar ws (n_v vs 0) 163)) (w_ei w1 (w_ar ws (n_v vs 0) 1)) (w_fi w1 (n_v vs 0) 10) (w_fi ws (n_v vs 0) 10) (w_fi ws (n_v vs 0) 157) (w_ei ws (w_ar ws (n_v vs 0) 1)) (w_ei ws (w_ar ws (n_v vs 0) 160)) (w_ei ws (w_ar ws (n_v vs 0) 161)) (w_ei ws (w_ar ws (n_v vs 0) 162)) (w_ei ws (w_ar ws (n_v vs 0) 163)) (v_iv (Value.int x)) (v_iv (Value.int y)) (v_iv (Value.int u)) k1 k2 k3 k6 k7 k8 k9 k10 k11 k12 k13 k14 k15 d0 g0 f1 f2 f3 f4 f5 f6 f7 f10 g11 f12 f13 f14 f15 f16 f17 f18 f19 f20 f21 f22 f23 f24 f25 f26 f27 f28 fe_0_8_1 fe_0_10_1 fe_0_157_1 fe_0_158_1 fe_0_159_1 fe_0_164_1 fe_0_165_1 hE_0_1_1 hK_0_1 hE_0_160_1 hK_0_160 hE_0_161_1 hE_0_162_1 hK_0_162 hE_0_163_1 hK_0_163 kz_0_8 kz_0_10 kz_0_157 kz_0_158 kz_0_159 kz_0_164 kz_0_165 ex2 ex3 ey2 ey3 eu2 eu3
  have nf12 : fc_1 PRD (23, [18], [0, -1]) ws (vs ++ [Value.int x, Value.int y, Value.int u]) := by
    refine ⟨nf_inA hl rfl, sgq_1013 ?_⟩
    · show (-1) * v_iv (n_v (vs ++ [Value.int x, Value.int y, Value.int u]) 18) + 0 ≤ 0
      rw [e_18]
      exact vc_Mo_product_at_f0_15_12 (v_iv (n_v vs 1)) (v_iv (n_v vs 2)) (v_iv (n_v vs 3)) (v_iv (n_v vs 6)) (v_iv (n_v vs 7)) (v_iv (n_v vs 8)) (v_iv (n_v vs 9)) (v_iv (n_v vs 10)) (v_iv (n_v vs 11)) (v_iv (n_v vs 12)) (v_iv (n_v vs 13)) (v_iv (n_v vs 14)) (v_iv (n_v vs 15)) (w_fi ws (n_v vs 0) 158) (w_fi ws (n_v vs 0) 8) (w_fi ws (n_v vs 0) 164) (w_fi ws (n_v vs 0) 165) (w_fi ws (n_v vs 0) 159) (w_fi w1 (n_v vs 0) 158) (w_ei w1 (w_ar ws (n_v vs 0) 160)) (w_ei w1 (w_ar ws (n_v vs 0) 161)) (w_fi w1 (n_v vs 0) 8) (w_fi w1 (n_v vs 0) 157) (w_fi w1 (n_v vs 0) 164) (w_fi w1 (n_v vs 0) 165) (w_fi w1 (n_v vs 0) 159) (w_ei w1 (w_ar ws (n_v vs 0) 162)) (w_ei w1 (w_ar ws (n_v vs 0) 163)) (w_ei w1 (w_ar ws (n_v vs 0) 1)) (w_fi w1 (n_v vs 0) 10) (w_fi ws (n_v vs 0) 10) (w_fi ws (n_v vs 0) 157) (w_ei ws (w_ar ws (n_v vs 0) 1)) (w_ei ws (w_ar ws (n_v vs 0) 160)) (w_ei ws (w_ar ws (n_v vs 0) 161)) (w_ei ws (w_ar ws (n_v vs 0) 162)) (w_ei ws (w_ar ws (n_v vs 0) 163)) (v_iv (Value.int x)) (v_iv (Value.int y)) (v_iv (Value.int u)) k1 k2 k3 k6 k7 k8 k9 k10 k11 k12 k13 k14 k15 d0 g0 f1 f2 f3 f4 f5 f6 f7 f10 g11 f12 f13 f14 f15 f16 f17 f18 f19 f20 f21 f22 f23 f24 f25 f26 f27 f28 fe_0_8_1 fe_0_10_1 fe_0_157_1 fe_0_158_1 fe_0_159_1 fe_0_164_1 fe_0_165_1 hE_0_1_1 hK_0_1 hE_0_160_1 hK_0_160 hE_0_161_1 hE_0_162_1 hK_0_162 hE_0_163_1 hK_0_163 kz_0_8 kz_0_10 kz_0_157 kz_0_158 kz_0_159 kz_0_164 kz_0_165 ex2 ex3 ey2 ey3 eu2 eu3
  exact ⟨(fun _ h => (by cases h)), [Value.int x, Value.int y, Value.int u], ag_three hx hy hu, List.forall_mem_cons.mpr ⟨⟨show (20 : Nat) < 100 from by decide, nf0⟩, List.forall_mem_cons.mpr ⟨⟨show (20 : Nat) < 100 from by decide, nf1⟩, List.forall_mem_cons.mpr ⟨⟨show (20 : Nat) < 100 from by decide, nf2⟩, List.forall_mem_cons.mpr ⟨⟨show (20 : Nat) < 100 from by decide, nf3⟩, List.forall_mem_cons.mpr ⟨⟨show (20 : Nat) < 100 from by decide, nf4⟩, List.forall_mem_cons.mpr ⟨⟨show (20 : Nat) < 100 from by decide, nf5⟩, List.forall_mem_cons.mpr ⟨⟨show (20 : Nat) < 100 from by decide, nf6⟩, List.forall_mem_cons.mpr ⟨⟨show (20 : Nat) < 100 from by decide, nf7⟩, List.forall_mem_cons.mpr ⟨⟨show (23 : Nat) < 100 from by decide, nf8⟩, List.forall_mem_cons.mpr ⟨⟨show (23 : Nat) < 100 from by decide, nf9⟩, List.forall_mem_cons.mpr ⟨⟨show (20 : Nat) < 100 from by decide, nf10⟩, List.forall_mem_cons.mpr ⟨⟨show (23 : Nat) < 100 from by decide, nf11⟩, List.forall_mem_cons.mpr ⟨⟨show (23 : Nat) < 100 from by decide, nf12⟩, (fun _ h => (by cases h))⟩⟩⟩⟩⟩⟩⟩⟩⟩⟩⟩⟩⟩, (fun _ h => (by cases h))⟩
set_option maxHeartbeats 4000000 in
theorem vc_Mo_product_at_f0_17_0 (x1 : Int) (x2 : Int) (x3 : Int) (x6 : Int) (x7 : Int) (x14 : Int) (x15 : Int) (x16 : Int) (x17 : Int) (x18 : Int) (styleKind_0 : Int) (styleOne_0 : Int) (tokenKind_0 : Int → Int) (tokenValue_0 : Int → Int) (tokenPlace_0 : Int → Int) (tokenEnd_0 : Int → Int) (tape_0 : Int → Int) (limit_0 : Int) (cur_0 : Int) (tokens_0 : Int) (opened_0 : Int) (fault_0 : Int) (gx : Int) (k1 : 0 ≤ x1 ∧ x1 ≤ 2009) (k2 : 0 ≤ x2 ∧ x2 ≤ 5) (k3 : 0 ≤ x3 ∧ x3 ≤ 13) (k6 : 0 ≤ x6 ∧ x6 ≤ 2009) (k7 : 0 ≤ x7 ∧ x7 ≤ 2010) (k14 : 1 ≤ x14 ∧ x14 ≤ 1) (k15 : 1 ≤ x15 ∧ x15 ≤ 2009) (k16 : 0 ≤ x16 ∧ x16 ≤ 2009) (k17 : 0 ≤ x17 ∧ x17 ≤ 5) (k18 : 0 ≤ x18 ∧ x18 ≤ 13) (d0 : x6 + 1 ≤ x15 ∧ x15 ≤ x6 + 1) (f0 : (styleKind_0 = 0) → (styleOne_0 ≤ 23)) (f1 : 1 * x1 + ((-1) * x16 + 0) ≤ 0) (f2 : (-1) * x7 + ((-1) * x16 + 0) ≤ (-2011)) (f3 : GPW (styleKind_0) (limit_0) (tokenKind_0) (tokenValue_0) (tokenPlace_0) (tokenEnd_0) (tape_0) (x16) (x17) (x1) (x2) (x3)) (f4 : 1 * x18 + 0 ≤ 0) (f5 : (-1) * x18 + 0 ≤ 0) (f6 : (styleKind_0 = 0) → (styleOne_0 ≤ 23)) (f7 : 1 * x3 + 0 ≤ 0) (f8 : (-1) * x3 + 0 ≤ 0) (f10 : ((cur_0 + 1) ≤ tokens_0) ∧ ((tokens_0 ≤ 2010) ∧ ((tokenKind_0 ((tokens_0 - 1)) = 0) ∨ (tokenKind_0 ((tokens_0 - 1)) = 4)))) (f11 : 1 * x16 + ((-1) * cur_0 + 0) ≤ 0) (f12 : 1 * opened_0 + 0 ≤ 0) (f13 : (-1) * opened_0 + 0 ≤ 0) (f14 : SVL (fault_0) (cur_0) (styleKind_0) (limit_0) (tokenKind_0) (tokenValue_0) (tokenPlace_0) (tokenEnd_0) (tape_0) (x16) (x17) (x18)) (f16 : 1 * x1 + ((-1) * x16 + 0) ≤ 0) (f17 : (-1) * x7 + ((-1) * x16 + 0) ≤ (-2011)) (f18 : 1 * x18 + 0 ≤ 0) (f19 : (-1) * x18 + 0 ≤ 0) (f20 : 1 * x3 + 0 ≤ 0) (f21 : (-1) * x3 + 0 ≤ 0) (f23 : x15 = x6 + x14) (f24 : 1 * x3 + 0 ≤ 0) (f25 : (-1) * x3 + 0 ≤ 0) (hK_0_1 : ∀ j : Int, 0 ≤ j → j < 2000 → (-128) ≤ tape_0 j ∧ tape_0 j ≤ 127) (hK_0_160 : ∀ j : Int, 0 ≤ j → j < 2010 → 0 ≤ tokenKind_0 j ∧ tokenKind_0 j ≤ 4) (hK_0_162 : ∀ j : Int, 0 ≤ j → j < 2010 → 0 ≤ tokenPlace_0 j ∧ tokenPlace_0 j ≤ 2000) (hK_0_163 : ∀ j : Int, 0 ≤ j → j < 2010 → 0 ≤ tokenEnd_0 j ∧ tokenEnd_0 j ≤ 2000) (kz_0_8 : 0 ≤ fault_0 ∧ fault_0 ≤ 5) (kz_0_10 : 0 ≤ limit_0 ∧ limit_0 ≤ 2000) (kz_0_157 : 0 ≤ tokens_0 ∧ tokens_0 ≤ 2010) (kz_0_158 : 0 ≤ cur_0 ∧ cur_0 ≤ 2009) (kz_0_159 : 0 ≤ opened_0 ∧ opened_0 ≤ 13) (kz_0_164 : 0 ≤ styleKind_0 ∧ styleKind_0 ≤ 1) (kz_0_165 : (-1) ≤ styleOne_0 ∧ styleOne_0 ≤ 47) (ex2 : gx = 0 + (1 * x7 + 0)) (ex3 : 0 ≤ gx ∧ gx ≤ 2010) : ((cur_0 + 1) ≤ tokens_0) ∧ ((tokens_0 ≤ 2010) ∧ ((tokenKind_0 ((tokens_0 - 1)) = 0) ∨ (tokenKind_0 ((tokens_0 - 1)) = 4))) := by
  first | assumption | (clear f0 f6 f10 hK_0_1 hK_0_160 hK_0_162 hK_0_163; omega) | (clear hK_0_1 hK_0_160 hK_0_162 hK_0_163; grind) | omega | grind
set_option maxHeartbeats 4000000 in
theorem vc_Mo_product_at_f0_17_1 (x1 : Int) (x2 : Int) (x3 : Int) (x6 : Int) (x7 : Int) (x14 : Int) (x15 : Int) (x16 : Int) (x17 : Int) (x18 : Int) (styleKind_0 : Int) (styleOne_0 : Int) (tokenKind_0 : Int → Int) (tokenValue_0 : Int → Int) (tokenPlace_0 : Int → Int) (tokenEnd_0 : Int → Int) (tape_0 : Int → Int) (limit_0 : Int) (cur_0 : Int) (tokens_0 : Int) (opened_0 : Int) (fault_0 : Int) (gx : Int) (k1 : 0 ≤ x1 ∧ x1 ≤ 2009) (k2 : 0 ≤ x2 ∧ x2 ≤ 5) (k3 : 0 ≤ x3 ∧ x3 ≤ 13) (k6 : 0 ≤ x6 ∧ x6 ≤ 2009) (k7 : 0 ≤ x7 ∧ x7 ≤ 2010) (k14 : 1 ≤ x14 ∧ x14 ≤ 1) (k15 : 1 ≤ x15 ∧ x15 ≤ 2009) (k16 : 0 ≤ x16 ∧ x16 ≤ 2009) (k17 : 0 ≤ x17 ∧ x17 ≤ 5) (k18 : 0 ≤ x18 ∧ x18 ≤ 13) (d0 : x6 + 1 ≤ x15 ∧ x15 ≤ x6 + 1) (f0 : (styleKind_0 = 0) → (styleOne_0 ≤ 23)) (f1 : 1 * x1 + ((-1) * x16 + 0) ≤ 0) (f2 : (-1) * x7 + ((-1) * x16 + 0) ≤ (-2011)) (f3 : GPW (styleKind_0) (limit_0) (tokenKind_0) (tokenValue_0) (tokenPlace_0) (tokenEnd_0) (tape_0) (x16) (x17) (x1) (x2) (x3)) (f4 : 1 * x18 + 0 ≤ 0) (f5 : (-1) * x18 + 0 ≤ 0) (f6 : (styleKind_0 = 0) → (styleOne_0 ≤ 23)) (f7 : 1 * x3 + 0 ≤ 0) (f8 : (-1) * x3 + 0 ≤ 0) (f10 : ((cur_0 + 1) ≤ tokens_0) ∧ ((tokens_0 ≤ 2010) ∧ ((tokenKind_0 ((tokens_0 - 1)) = 0) ∨ (tokenKind_0 ((tokens_0 - 1)) = 4)))) (f11 : 1 * x16 + ((-1) * cur_0 + 0) ≤ 0) (f12 : 1 * opened_0 + 0 ≤ 0) (f13 : (-1) * opened_0 + 0 ≤ 0) (f14 : SVL (fault_0) (cur_0) (styleKind_0) (limit_0) (tokenKind_0) (tokenValue_0) (tokenPlace_0) (tokenEnd_0) (tape_0) (x16) (x17) (x18)) (f16 : 1 * x1 + ((-1) * x16 + 0) ≤ 0) (f17 : (-1) * x7 + ((-1) * x16 + 0) ≤ (-2011)) (f18 : 1 * x18 + 0 ≤ 0) (f19 : (-1) * x18 + 0 ≤ 0) (f20 : 1 * x3 + 0 ≤ 0) (f21 : (-1) * x3 + 0 ≤ 0) (f23 : x15 = x6 + x14) (f24 : 1 * x3 + 0 ≤ 0) (f25 : (-1) * x3 + 0 ≤ 0) (hK_0_1 : ∀ j : Int, 0 ≤ j → j < 2000 → (-128) ≤ tape_0 j ∧ tape_0 j ≤ 127) (hK_0_160 : ∀ j : Int, 0 ≤ j → j < 2010 → 0 ≤ tokenKind_0 j ∧ tokenKind_0 j ≤ 4) (hK_0_162 : ∀ j : Int, 0 ≤ j → j < 2010 → 0 ≤ tokenPlace_0 j ∧ tokenPlace_0 j ≤ 2000) (hK_0_163 : ∀ j : Int, 0 ≤ j → j < 2010 → 0 ≤ tokenEnd_0 j ∧ tokenEnd_0 j ≤ 2000) (kz_0_8 : 0 ≤ fault_0 ∧ fault_0 ≤ 5) (kz_0_10 : 0 ≤ limit_0 ∧ limit_0 ≤ 2000) (kz_0_157 : 0 ≤ tokens_0 ∧ tokens_0 ≤ 2010) (kz_0_158 : 0 ≤ cur_0 ∧ cur_0 ≤ 2009) (kz_0_159 : 0 ≤ opened_0 ∧ opened_0 ≤ 13) (kz_0_164 : 0 ≤ styleKind_0 ∧ styleKind_0 ≤ 1) (kz_0_165 : (-1) ≤ styleOne_0 ∧ styleOne_0 ≤ 47) (ex2 : gx = 0 + (1 * x7 + 0)) (ex3 : 0 ≤ gx ∧ gx ≤ 2010) : 1 * x1 + ((-1) * cur_0 + 0) ≤ 0 := by
  first | assumption | (clear f0 f6 f10 hK_0_1 hK_0_160 hK_0_162 hK_0_163; omega) | (clear hK_0_1 hK_0_160 hK_0_162 hK_0_163; grind) | omega | grind
set_option maxHeartbeats 4000000 in
theorem vc_Mo_product_at_f0_17_2 (x1 : Int) (x2 : Int) (x3 : Int) (x6 : Int) (x7 : Int) (x14 : Int) (x15 : Int) (x16 : Int) (x17 : Int) (x18 : Int) (styleKind_0 : Int) (styleOne_0 : Int) (tokenKind_0 : Int → Int) (tokenValue_0 : Int → Int) (tokenPlace_0 : Int → Int) (tokenEnd_0 : Int → Int) (tape_0 : Int → Int) (limit_0 : Int) (cur_0 : Int) (tokens_0 : Int) (opened_0 : Int) (fault_0 : Int) (gx : Int) (k1 : 0 ≤ x1 ∧ x1 ≤ 2009) (k2 : 0 ≤ x2 ∧ x2 ≤ 5) (k3 : 0 ≤ x3 ∧ x3 ≤ 13) (k6 : 0 ≤ x6 ∧ x6 ≤ 2009) (k7 : 0 ≤ x7 ∧ x7 ≤ 2010) (k14 : 1 ≤ x14 ∧ x14 ≤ 1) (k15 : 1 ≤ x15 ∧ x15 ≤ 2009) (k16 : 0 ≤ x16 ∧ x16 ≤ 2009) (k17 : 0 ≤ x17 ∧ x17 ≤ 5) (k18 : 0 ≤ x18 ∧ x18 ≤ 13) (d0 : x6 + 1 ≤ x15 ∧ x15 ≤ x6 + 1) (f0 : (styleKind_0 = 0) → (styleOne_0 ≤ 23)) (f1 : 1 * x1 + ((-1) * x16 + 0) ≤ 0) (f2 : (-1) * x7 + ((-1) * x16 + 0) ≤ (-2011)) (f3 : GPW (styleKind_0) (limit_0) (tokenKind_0) (tokenValue_0) (tokenPlace_0) (tokenEnd_0) (tape_0) (x16) (x17) (x1) (x2) (x3)) (f4 : 1 * x18 + 0 ≤ 0) (f5 : (-1) * x18 + 0 ≤ 0) (f6 : (styleKind_0 = 0) → (styleOne_0 ≤ 23)) (f7 : 1 * x3 + 0 ≤ 0) (f8 : (-1) * x3 + 0 ≤ 0) (f10 : ((cur_0 + 1) ≤ tokens_0) ∧ ((tokens_0 ≤ 2010) ∧ ((tokenKind_0 ((tokens_0 - 1)) = 0) ∨ (tokenKind_0 ((tokens_0 - 1)) = 4)))) (f11 : 1 * x16 + ((-1) * cur_0 + 0) ≤ 0) (f12 : 1 * opened_0 + 0 ≤ 0) (f13 : (-1) * opened_0 + 0 ≤ 0) (f14 : SVL (fault_0) (cur_0) (styleKind_0) (limit_0) (tokenKind_0) (tokenValue_0) (tokenPlace_0) (tokenEnd_0) (tape_0) (x16) (x17) (x18)) (f16 : 1 * x1 + ((-1) * x16 + 0) ≤ 0) (f17 : (-1) * x7 + ((-1) * x16 + 0) ≤ (-2011)) (f18 : 1 * x18 + 0 ≤ 0) (f19 : (-1) * x18 + 0 ≤ 0) (f20 : 1 * x3 + 0 ≤ 0) (f21 : (-1) * x3 + 0 ≤ 0) (f23 : x15 = x6 + x14) (f24 : 1 * x3 + 0 ≤ 0) (f25 : (-1) * x3 + 0 ≤ 0) (hK_0_1 : ∀ j : Int, 0 ≤ j → j < 2000 → (-128) ≤ tape_0 j ∧ tape_0 j ≤ 127) (hK_0_160 : ∀ j : Int, 0 ≤ j → j < 2010 → 0 ≤ tokenKind_0 j ∧ tokenKind_0 j ≤ 4) (hK_0_162 : ∀ j : Int, 0 ≤ j → j < 2010 → 0 ≤ tokenPlace_0 j ∧ tokenPlace_0 j ≤ 2000) (hK_0_163 : ∀ j : Int, 0 ≤ j → j < 2010 → 0 ≤ tokenEnd_0 j ∧ tokenEnd_0 j ≤ 2000) (kz_0_8 : 0 ≤ fault_0 ∧ fault_0 ≤ 5) (kz_0_10 : 0 ≤ limit_0 ∧ limit_0 ≤ 2000) (kz_0_157 : 0 ≤ tokens_0 ∧ tokens_0 ≤ 2010) (kz_0_158 : 0 ≤ cur_0 ∧ cur_0 ≤ 2009) (kz_0_159 : 0 ≤ opened_0 ∧ opened_0 ≤ 13) (kz_0_164 : 0 ≤ styleKind_0 ∧ styleKind_0 ≤ 1) (kz_0_165 : (-1) ≤ styleOne_0 ∧ styleOne_0 ≤ 47) (ex2 : gx = 0 + (1 * x7 + 0)) (ex3 : 0 ≤ gx ∧ gx ≤ 2010) : (styleKind_0 = 0) → (styleOne_0 ≤ 23) := by
  first | assumption | (clear f0 f6 f10 hK_0_1 hK_0_160 hK_0_162 hK_0_163; omega) | (clear hK_0_1 hK_0_160 hK_0_162 hK_0_163; grind) | omega | grind
set_option maxHeartbeats 4000000 in
theorem vc_Mo_product_at_f0_17_3 (x1 : Int) (x2 : Int) (x3 : Int) (x6 : Int) (x7 : Int) (x14 : Int) (x15 : Int) (x16 : Int) (x17 : Int) (x18 : Int) (styleKind_0 : Int) (styleOne_0 : Int) (tokenKind_0 : Int → Int) (tokenValue_0 : Int → Int) (tokenPlace_0 : Int → Int) (tokenEnd_0 : Int → Int) (tape_0 : Int → Int) (limit_0 : Int) (cur_0 : Int) (tokens_0 : Int) (opened_0 : Int) (fault_0 : Int) (gx : Int) (k1 : 0 ≤ x1 ∧ x1 ≤ 2009) (k2 : 0 ≤ x2 ∧ x2 ≤ 5) (k3 : 0 ≤ x3 ∧ x3 ≤ 13) (k6 : 0 ≤ x6 ∧ x6 ≤ 2009) (k7 : 0 ≤ x7 ∧ x7 ≤ 2010) (k14 : 1 ≤ x14 ∧ x14 ≤ 1) (k15 : 1 ≤ x15 ∧ x15 ≤ 2009) (k16 : 0 ≤ x16 ∧ x16 ≤ 2009) (k17 : 0 ≤ x17 ∧ x17 ≤ 5) (k18 : 0 ≤ x18 ∧ x18 ≤ 13) (d0 : x6 + 1 ≤ x15 ∧ x15 ≤ x6 + 1) (f0 : (styleKind_0 = 0) → (styleOne_0 ≤ 23)) (f1 : 1 * x1 + ((-1) * x16 + 0) ≤ 0) (f2 : (-1) * x7 + ((-1) * x16 + 0) ≤ (-2011)) (f3 : GPW (styleKind_0) (limit_0) (tokenKind_0) (tokenValue_0) (tokenPlace_0) (tokenEnd_0) (tape_0) (x16) (x17) (x1) (x2) (x3)) (f4 : 1 * x18 + 0 ≤ 0) (f5 : (-1) * x18 + 0 ≤ 0) (f6 : (styleKind_0 = 0) → (styleOne_0 ≤ 23)) (f7 : 1 * x3 + 0 ≤ 0) (f8 : (-1) * x3 + 0 ≤ 0) (f10 : ((cur_0 + 1) ≤ tokens_0) ∧ ((tokens_0 ≤ 2010) ∧ ((tokenKind_0 ((tokens_0 - 1)) = 0) ∨ (tokenKind_0 ((tokens_0 - 1)) = 4)))) (f11 : 1 * x16 + ((-1) * cur_0 + 0) ≤ 0) (f12 : 1 * opened_0 + 0 ≤ 0) (f13 : (-1) * opened_0 + 0 ≤ 0) (f14 : SVL (fault_0) (cur_0) (styleKind_0) (limit_0) (tokenKind_0) (tokenValue_0) (tokenPlace_0) (tokenEnd_0) (tape_0) (x16) (x17) (x18)) (f16 : 1 * x1 + ((-1) * x16 + 0) ≤ 0) (f17 : (-1) * x7 + ((-1) * x16 + 0) ≤ (-2011)) (f18 : 1 * x18 + 0 ≤ 0) (f19 : (-1) * x18 + 0 ≤ 0) (f20 : 1 * x3 + 0 ≤ 0) (f21 : (-1) * x3 + 0 ≤ 0) (f23 : x15 = x6 + x14) (f24 : 1 * x3 + 0 ≤ 0) (f25 : (-1) * x3 + 0 ≤ 0) (hK_0_1 : ∀ j : Int, 0 ≤ j → j < 2000 → (-128) ≤ tape_0 j ∧ tape_0 j ≤ 127) (hK_0_160 : ∀ j : Int, 0 ≤ j → j < 2010 → 0 ≤ tokenKind_0 j ∧ tokenKind_0 j ≤ 4) (hK_0_162 : ∀ j : Int, 0 ≤ j → j < 2010 → 0 ≤ tokenPlace_0 j ∧ tokenPlace_0 j ≤ 2000) (hK_0_163 : ∀ j : Int, 0 ≤ j → j < 2010 → 0 ≤ tokenEnd_0 j ∧ tokenEnd_0 j ≤ 2000) (kz_0_8 : 0 ≤ fault_0 ∧ fault_0 ≤ 5) (kz_0_10 : 0 ≤ limit_0 ∧ limit_0 ≤ 2000) (kz_0_157 : 0 ≤ tokens_0 ∧ tokens_0 ≤ 2010) (kz_0_158 : 0 ≤ cur_0 ∧ cur_0 ≤ 2009) (kz_0_159 : 0 ≤ opened_0 ∧ opened_0 ≤ 13) (kz_0_164 : 0 ≤ styleKind_0 ∧ styleKind_0 ≤ 1) (kz_0_165 : (-1) ≤ styleOne_0 ∧ styleOne_0 ≤ 47) (ex2 : gx = 0 + (1 * x7 + 0)) (ex3 : 0 ≤ gx ∧ gx ≤ 2010) : 1 * opened_0 + 0 ≤ 0 := by
  first | assumption | (clear f0 f6 f10 hK_0_1 hK_0_160 hK_0_162 hK_0_163; omega) | (clear hK_0_1 hK_0_160 hK_0_162 hK_0_163; grind) | omega | grind
set_option maxHeartbeats 4000000 in
theorem vc_Mo_product_at_f0_17_4 (x1 : Int) (x2 : Int) (x3 : Int) (x6 : Int) (x7 : Int) (x14 : Int) (x15 : Int) (x16 : Int) (x17 : Int) (x18 : Int) (styleKind_0 : Int) (styleOne_0 : Int) (tokenKind_0 : Int → Int) (tokenValue_0 : Int → Int) (tokenPlace_0 : Int → Int) (tokenEnd_0 : Int → Int) (tape_0 : Int → Int) (limit_0 : Int) (cur_0 : Int) (tokens_0 : Int) (opened_0 : Int) (fault_0 : Int) (gx : Int) (k1 : 0 ≤ x1 ∧ x1 ≤ 2009) (k2 : 0 ≤ x2 ∧ x2 ≤ 5) (k3 : 0 ≤ x3 ∧ x3 ≤ 13) (k6 : 0 ≤ x6 ∧ x6 ≤ 2009) (k7 : 0 ≤ x7 ∧ x7 ≤ 2010) (k14 : 1 ≤ x14 ∧ x14 ≤ 1) (k15 : 1 ≤ x15 ∧ x15 ≤ 2009) (k16 : 0 ≤ x16 ∧ x16 ≤ 2009) (k17 : 0 ≤ x17 ∧ x17 ≤ 5) (k18 : 0 ≤ x18 ∧ x18 ≤ 13) (d0 : x6 + 1 ≤ x15 ∧ x15 ≤ x6 + 1) (f0 : (styleKind_0 = 0) → (styleOne_0 ≤ 23)) (f1 : 1 * x1 + ((-1) * x16 + 0) ≤ 0) (f2 : (-1) * x7 + ((-1) * x16 + 0) ≤ (-2011)) (f3 : GPW (styleKind_0) (limit_0) (tokenKind_0) (tokenValue_0) (tokenPlace_0) (tokenEnd_0) (tape_0) (x16) (x17) (x1) (x2) (x3)) (f4 : 1 * x18 + 0 ≤ 0) (f5 : (-1) * x18 + 0 ≤ 0) (f6 : (styleKind_0 = 0) → (styleOne_0 ≤ 23)) (f7 : 1 * x3 + 0 ≤ 0) (f8 : (-1) * x3 + 0 ≤ 0) (f10 : ((cur_0 + 1) ≤ tokens_0) ∧ ((tokens_0 ≤ 2010) ∧ ((tokenKind_0 ((tokens_0 - 1)) = 0) ∨ (tokenKind_0 ((tokens_0 - 1)) = 4)))) (f11 : 1 * x16 + ((-1) * cur_0 + 0) ≤ 0) (f12 : 1 * opened_0 + 0 ≤ 0) (f13 : (-1) * opened_0 + 0 ≤ 0) (f14 : SVL (fault_0) (cur_0) (styleKind_0) (limit_0) (tokenKind_0) (tokenValue_0) (tokenPlace_0) (tokenEnd_0) (tape_0) (x16) (x17) (x18)) (f16 : 1 * x1 + ((-1) * x16 + 0) ≤ 0) (f17 : (-1) * x7 + ((-1) * x16 + 0) ≤ (-2011)) (f18 : 1 * x18 + 0 ≤ 0) (f19 : (-1) * x18 + 0 ≤ 0) (f20 : 1 * x3 + 0 ≤ 0) (f21 : (-1) * x3 + 0 ≤ 0) (f23 : x15 = x6 + x14) (f24 : 1 * x3 + 0 ≤ 0) (f25 : (-1) * x3 + 0 ≤ 0) (hK_0_1 : ∀ j : Int, 0 ≤ j → j < 2000 → (-128) ≤ tape_0 j ∧ tape_0 j ≤ 127) (hK_0_160 : ∀ j : Int, 0 ≤ j → j < 2010 → 0 ≤ tokenKind_0 j ∧ tokenKind_0 j ≤ 4) (hK_0_162 : ∀ j : Int, 0 ≤ j → j < 2010 → 0 ≤ tokenPlace_0 j ∧ tokenPlace_0 j ≤ 2000) (hK_0_163 : ∀ j : Int, 0 ≤ j → j < 2010 → 0 ≤ tokenEnd_0 j ∧ tokenEnd_0 j ≤ 2000) (kz_0_8 : 0 ≤ fault_0 ∧ fault_0 ≤ 5) (kz_0_10 : 0 ≤ limit_0 ∧ limit_0 ≤ 2000) (kz_0_157 : 0 ≤ tokens_0 ∧ tokens_0 ≤ 2010) (kz_0_158 : 0 ≤ cur_0 ∧ cur_0 ≤ 2009) (kz_0_159 : 0 ≤ opened_0 ∧ opened_0 ≤ 13) (kz_0_164 : 0 ≤ styleKind_0 ∧ styleKind_0 ≤ 1) (kz_0_165 : (-1) ≤ styleOne_0 ∧ styleOne_0 ≤ 47) (ex2 : gx = 0 + (1 * x7 + 0)) (ex3 : 0 ≤ gx ∧ gx ≤ 2010) : (-1) * opened_0 + 0 ≤ 0 := by
  first | assumption | (clear f0 f6 f10 hK_0_1 hK_0_160 hK_0_162 hK_0_163; omega) | (clear hK_0_1 hK_0_160 hK_0_162 hK_0_163; grind) | omega | grind
set_option maxHeartbeats 4000000 in
theorem vc_Mo_product_at_f0_17_5 (x1 : Int) (x2 : Int) (x3 : Int) (x6 : Int) (x7 : Int) (x14 : Int) (x15 : Int) (x16 : Int) (x17 : Int) (x18 : Int) (styleKind_0 : Int) (styleOne_0 : Int) (tokenKind_0 : Int → Int) (tokenValue_0 : Int → Int) (tokenPlace_0 : Int → Int) (tokenEnd_0 : Int → Int) (tape_0 : Int → Int) (limit_0 : Int) (cur_0 : Int) (tokens_0 : Int) (opened_0 : Int) (fault_0 : Int) (gx : Int) (k1 : 0 ≤ x1 ∧ x1 ≤ 2009) (k2 : 0 ≤ x2 ∧ x2 ≤ 5) (k3 : 0 ≤ x3 ∧ x3 ≤ 13) (k6 : 0 ≤ x6 ∧ x6 ≤ 2009) (k7 : 0 ≤ x7 ∧ x7 ≤ 2010) (k14 : 1 ≤ x14 ∧ x14 ≤ 1) (k15 : 1 ≤ x15 ∧ x15 ≤ 2009) (k16 : 0 ≤ x16 ∧ x16 ≤ 2009) (k17 : 0 ≤ x17 ∧ x17 ≤ 5) (k18 : 0 ≤ x18 ∧ x18 ≤ 13) (d0 : x6 + 1 ≤ x15 ∧ x15 ≤ x6 + 1) (f0 : (styleKind_0 = 0) → (styleOne_0 ≤ 23)) (f1 : 1 * x1 + ((-1) * x16 + 0) ≤ 0) (f2 : (-1) * x7 + ((-1) * x16 + 0) ≤ (-2011)) (f3 : GPW (styleKind_0) (limit_0) (tokenKind_0) (tokenValue_0) (tokenPlace_0) (tokenEnd_0) (tape_0) (x16) (x17) (x1) (x2) (x3)) (f4 : 1 * x18 + 0 ≤ 0) (f5 : (-1) * x18 + 0 ≤ 0) (f6 : (styleKind_0 = 0) → (styleOne_0 ≤ 23)) (f7 : 1 * x3 + 0 ≤ 0) (f8 : (-1) * x3 + 0 ≤ 0) (f10 : ((cur_0 + 1) ≤ tokens_0) ∧ ((tokens_0 ≤ 2010) ∧ ((tokenKind_0 ((tokens_0 - 1)) = 0) ∨ (tokenKind_0 ((tokens_0 - 1)) = 4)))) (f11 : 1 * x16 + ((-1) * cur_0 + 0) ≤ 0) (f12 : 1 * opened_0 + 0 ≤ 0) (f13 : (-1) * opened_0 + 0 ≤ 0) (f14 : SVL (fault_0) (cur_0) (styleKind_0) (limit_0) (tokenKind_0) (tokenValue_0) (tokenPlace_0) (tokenEnd_0) (tape_0) (x16) (x17) (x18)) (f16 : 1 * x1 + ((-1) * x16 + 0) ≤ 0) (f17 : (-1) * x7 + ((-1) * x16 + 0) ≤ (-2011)) (f18 : 1 * x18 + 0 ≤ 0) (f19 : (-1) * x18 + 0 ≤ 0) (f20 : 1 * x3 + 0 ≤ 0) (f21 : (-1) * x3 + 0 ≤ 0) (f23 : x15 = x6 + x14) (f24 : 1 * x3 + 0 ≤ 0) (f25 : (-1) * x3 + 0 ≤ 0) (hK_0_1 : ∀ j : Int, 0 ≤ j → j < 2000 → (-128) ≤ tape_0 j ∧ tape_0 j ≤ 127) (hK_0_160 : ∀ j : Int, 0 ≤ j → j < 2010 → 0 ≤ tokenKind_0 j ∧ tokenKind_0 j ≤ 4) (hK_0_162 : ∀ j : Int, 0 ≤ j → j < 2010 → 0 ≤ tokenPlace_0 j ∧ tokenPlace_0 j ≤ 2000) (hK_0_163 : ∀ j : Int, 0 ≤ j → j < 2010 → 0 ≤ tokenEnd_0 j ∧ tokenEnd_0 j ≤ 2000) (kz_0_8 : 0 ≤ fault_0 ∧ fault_0 ≤ 5) (kz_0_10 : 0 ≤ limit_0 ∧ limit_0 ≤ 2000) (kz_0_157 : 0 ≤ tokens_0 ∧ tokens_0 ≤ 2010) (kz_0_158 : 0 ≤ cur_0 ∧ cur_0 ≤ 2009) (kz_0_159 : 0 ≤ opened_0 ∧ opened_0 ≤ 13) (kz_0_164 : 0 ≤ styleKind_0 ∧ styleKind_0 ≤ 1) (kz_0_165 : (-1) ≤ styleOne_0 ∧ styleOne_0 ≤ 47) (ex2 : gx = 0 + (1 * x7 + 0)) (ex3 : 0 ≤ gx ∧ gx ≤ 2010) : (-1) * gx + ((-1) * cur_0 + 0) ≤ (-2011) := by
  first | assumption | (clear f0 f6 f10 hK_0_1 hK_0_160 hK_0_162 hK_0_163; omega) | (clear hK_0_1 hK_0_160 hK_0_162 hK_0_163; grind) | omega | grind
set_option maxHeartbeats 4000000 in
theorem vc_Mo_product_at_f0_17_6 (x1 : Int) (x2 : Int) (x3 : Int) (x16 : Int) (x17 : Int) (x18 : Int) (styleKind_0 : Int) (tokenKind_0 : Int → Int) (tokenValue_0 : Int → Int) (tokenPlace_0 : Int → Int) (tokenEnd_0 : Int → Int) (tape_0 : Int → Int) (limit_0 : Int) (cur_0 : Int) (fault_0 : Int) (k1 : 0 ≤ x1 ∧ x1 ≤ 2009) (k2 : 0 ≤ x2 ∧ x2 ≤ 5) (k3 : 0 ≤ x3 ∧ x3 ≤ 13) (k16 : 0 ≤ x16 ∧ x16 ≤ 2009) (k17 : 0 ≤ x17 ∧ x17 ≤ 5) (k18 : 0 ≤ x18 ∧ x18 ≤ 13) (f3 : GPW (styleKind_0) (limit_0) (tokenKind_0) (tokenValue_0) (tokenPlace_0) (tokenEnd_0) (tape_0) (x16) (x17) (x1) (x2) (x3)) (f4 : 1 * x18 + 0 ≤ 0) (f7 : 1 * x3 + 0 ≤ 0) (f11 : 1 * x16 + ((-1) * cur_0 + 0) ≤ 0) (f14 : SVL (fault_0) (cur_0) (styleKind_0) (limit_0) (tokenKind_0) (tokenValue_0) (tokenPlace_0) (tokenEnd_0) (tape_0) (x16) (x17) (x18)) (kz_0_8 : 0 ≤ fault_0 ∧ fault_0 ≤ 5) (kz_0_10 : 0 ≤ limit_0 ∧ limit_0 ≤ 2000) (kz_0_158 : 0 ≤ cur_0 ∧ cur_0 ≤ 2009) (kz_0_164 : 0 ≤ styleKind_0 ∧ styleKind_0 ≤ 1) : SPWv (fault_0) (cur_0) (styleKind_0) (limit_0) (tokenKind_0) (tokenValue_0) (tokenPlace_0) (tokenEnd_0) (tape_0) (x1) (x2) (x3) := by
  first
    | exact spw_start (‹SVL _ _ _ _ _ _ _ _ _ _ _ _›) (by omega) (by omega) (by omega) (by omega)
    | exact spw_go (‹GPW _ _ _ _ _ _ _ _ _ _ _ _›) (‹SVL _ _ _ _ _ _ _ _ _ _ _ _›) (by omega) (by omega) (by omega)
    | assumption
  
set_option maxHeartbeats 4000000 in
theorem vc_Mo_product_at_f0_17_7 (x1 : Int) (x2 : Int) (x3 : Int) (x6 : Int) (x7 : Int) (x14 : Int) (x15 : Int) (x16 : Int) (x17 : Int) (x18 : Int) (styleKind_0 : Int) (styleOne_0 : Int) (tokenKind_0 : Int → Int) (tokenValue_0 : Int → Int) (tokenPlace_0 : Int → Int) (tokenEnd_0 : Int → Int) (tape_0 : Int → Int) (limit_0 : Int) (cur_0 : Int) (tokens_0 : Int) (opened_0 : Int) (fault_0 : Int) (gx : Int) (k1 : 0 ≤ x1 ∧ x1 ≤ 2009) (k2 : 0 ≤ x2 ∧ x2 ≤ 5) (k3 : 0 ≤ x3 ∧ x3 ≤ 13) (k6 : 0 ≤ x6 ∧ x6 ≤ 2009) (k7 : 0 ≤ x7 ∧ x7 ≤ 2010) (k14 : 1 ≤ x14 ∧ x14 ≤ 1) (k15 : 1 ≤ x15 ∧ x15 ≤ 2009) (k16 : 0 ≤ x16 ∧ x16 ≤ 2009) (k17 : 0 ≤ x17 ∧ x17 ≤ 5) (k18 : 0 ≤ x18 ∧ x18 ≤ 13) (d0 : x6 + 1 ≤ x15 ∧ x15 ≤ x6 + 1) (f0 : (styleKind_0 = 0) → (styleOne_0 ≤ 23)) (f1 : 1 * x1 + ((-1) * x16 + 0) ≤ 0) (f2 : (-1) * x7 + ((-1) * x16 + 0) ≤ (-2011)) (f3 : GPW (styleKind_0) (limit_0) (tokenKind_0) (tokenValue_0) (tokenPlace_0) (tokenEnd_0) (tape_0) (x16) (x17) (x1) (x2) (x3)) (f4 : 1 * x18 + 0 ≤ 0) (f5 : (-1) * x18 + 0 ≤ 0) (f6 : (styleKind_0 = 0) → (styleOne_0 ≤ 23)) (f7 : 1 * x3 + 0 ≤ 0) (f8 : (-1) * x3 + 0 ≤ 0) (f10 : ((cur_0 + 1) ≤ tokens_0) ∧ ((tokens_0 ≤ 2010) ∧ ((tokenKind_0 ((tokens_0 - 1)) = 0) ∨ (tokenKind_0 ((tokens_0 - 1)) = 4)))) (f11 : 1 * x16 + ((-1) * cur_0 + 0) ≤ 0) (f12 : 1 * opened_0 + 0 ≤ 0) (f13 : (-1) * opened_0 + 0 ≤ 0) (f14 : SVL (fault_0) (cur_0) (styleKind_0) (limit_0) (tokenKind_0) (tokenValue_0) (tokenPlace_0) (tokenEnd_0) (tape_0) (x16) (x17) (x18)) (f16 : 1 * x1 + ((-1) * x16 + 0) ≤ 0) (f17 : (-1) * x7 + ((-1) * x16 + 0) ≤ (-2011)) (f18 : 1 * x18 + 0 ≤ 0) (f19 : (-1) * x18 + 0 ≤ 0) (f20 : 1 * x3 + 0 ≤ 0) (f21 : (-1) * x3 + 0 ≤ 0) (f23 : x15 = x6 + x14) (f24 : 1 * x3 + 0 ≤ 0) (f25 : (-1) * x3 + 0 ≤ 0) (hK_0_1 : ∀ j : Int, 0 ≤ j → j < 2000 → (-128) ≤ tape_0 j ∧ tape_0 j ≤ 127) (hK_0_160 : ∀ j : Int, 0 ≤ j → j < 2010 → 0 ≤ tokenKind_0 j ∧ tokenKind_0 j ≤ 4) (hK_0_162 : ∀ j : Int, 0 ≤ j → j < 2010 → 0 ≤ tokenPlace_0 j ∧ tokenPlace_0 j ≤ 2000) (hK_0_163 : ∀ j : Int, 0 ≤ j → j < 2010 → 0 ≤ tokenEnd_0 j ∧ tokenEnd_0 j ≤ 2000) (kz_0_8 : 0 ≤ fault_0 ∧ fault_0 ≤ 5) (kz_0_10 : 0 ≤ limit_0 ∧ limit_0 ≤ 2000) (kz_0_157 : 0 ≤ tokens_0 ∧ tokens_0 ≤ 2010) (kz_0_158 : 0 ≤ cur_0 ∧ cur_0 ≤ 2009) (kz_0_159 : 0 ≤ opened_0 ∧ opened_0 ≤ 13) (kz_0_164 : 0 ≤ styleKind_0 ∧ styleKind_0 ≤ 1) (kz_0_165 : (-1) ≤ styleOne_0 ∧ styleOne_0 ≤ 47) (ex2 : gx = 0 + (1 * x7 + 0)) (ex3 : 0 ≤ gx ∧ gx ≤ 2010) : 1 * x3 + 0 ≤ 0 := by
  first | assumption | (clear f0 f6 f10 hK_0_1 hK_0_160 hK_0_162 hK_0_163; omega) | (clear hK_0_1 hK_0_160 hK_0_162 hK_0_163; grind) | omega | grind
set_option maxHeartbeats 4000000 in
theorem vc_Mo_product_at_f0_17_8 (x1 : Int) (x2 : Int) (x3 : Int) (x6 : Int) (x7 : Int) (x14 : Int) (x15 : Int) (x16 : Int) (x17 : Int) (x18 : Int) (styleKind_0 : Int) (styleOne_0 : Int) (tokenKind_0 : Int → Int) (tokenValue_0 : Int → Int) (tokenPlace_0 : Int → Int) (tokenEnd_0 : Int → Int) (tape_0 : Int → Int) (limit_0 : Int) (cur_0 : Int) (tokens_0 : Int) (opened_0 : Int) (fault_0 : Int) (gx : Int) (k1 : 0 ≤ x1 ∧ x1 ≤ 2009) (k2 : 0 ≤ x2 ∧ x2 ≤ 5) (k3 : 0 ≤ x3 ∧ x3 ≤ 13) (k6 : 0 ≤ x6 ∧ x6 ≤ 2009) (k7 : 0 ≤ x7 ∧ x7 ≤ 2010) (k14 : 1 ≤ x14 ∧ x14 ≤ 1) (k15 : 1 ≤ x15 ∧ x15 ≤ 2009) (k16 : 0 ≤ x16 ∧ x16 ≤ 2009) (k17 : 0 ≤ x17 ∧ x17 ≤ 5) (k18 : 0 ≤ x18 ∧ x18 ≤ 13) (d0 : x6 + 1 ≤ x15 ∧ x15 ≤ x6 + 1) (f0 : (styleKind_0 = 0) → (styleOne_0 ≤ 23)) (f1 : 1 * x1 + ((-1) * x16 + 0) ≤ 0) (f2 : (-1) * x7 + ((-1) * x16 + 0) ≤ (-2011)) (f3 : GPW (styleKind_0) (limit_0) (tokenKind_0) (tokenValue_0) (tokenPlace_0) (tokenEnd_0) (tape_0) (x16) (x17) (x1) (x2) (x3)) (f4 : 1 * x18 + 0 ≤ 0) (f5 : (-1) * x18 + 0 ≤ 0) (f6 : (styleKind_0 = 0) → (styleOne_0 ≤ 23)) (f7 : 1 * x3 + 0 ≤ 0) (f8 : (-1) * x3 + 0 ≤ 0) (f10 : ((cur_0 + 1) ≤ tokens_0) ∧ ((tokens_0 ≤ 2010) ∧ ((tokenKind_0 ((tokens_0 - 1)) = 0) ∨ (tokenKind_0 ((tokens_0 - 1)) = 4)))) (f11 : 1 * x16 + ((-1) * cur_0 + 0) ≤ 0) (f12 : 1 * opened_0 + 0 ≤ 0) (f13 : (-1) * opened_0 + 0 ≤ 0) (f14 : SVL (fault_0) (cur_0) (styleKind_0) (limit_0) (tokenKind_0) (tokenValue_0) (tokenPlace_0) (tokenEnd_0) (tape_0) (x16) (x17) (x18)) (f16 : 1 * x1 + ((-1) * x16 + 0) ≤ 0) (f17 : (-1) * x7 + ((-1) * x16 + 0) ≤ (-2011)) (f18 : 1 * x18 + 0 ≤ 0) (f19 : (-1) * x18 + 0 ≤ 0) (f20 : 1 * x3 + 0 ≤ 0) (f21 : (-1) * x3 + 0 ≤ 0) (f23 : x15 = x6 + x14) (f24 : 1 * x3 + 0 ≤ 0) (f25 : (-1) * x3 + 0 ≤ 0) (hK_0_1 : ∀ j : Int, 0 ≤ j → j < 2000 → (-128) ≤ tape_0 j ∧ tape_0 j ≤ 127) (hK_0_160 : ∀ j : Int, 0 ≤ j → j < 2010 → 0 ≤ tokenKind_0 j ∧ tokenKind_0 j ≤ 4) (hK_0_162 : ∀ j : Int, 0 ≤ j → j < 2010 → 0 ≤ tokenPlace_0 j ∧ tokenPlace_0 j ≤ 2000) (hK_0_163 : ∀ j : Int, 0 ≤ j → j < 2010 → 0 ≤ tokenEnd_0 j ∧ tokenEnd_0 j ≤ 2000) (kz_0_8 : 0 ≤ fault_0 ∧ fault_0 ≤ 5) (kz_0_10 : 0 ≤ limit_0 ∧ limit_0 ≤ 2000) (kz_0_157 : 0 ≤ tokens_0 ∧ tokens_0 ≤ 2010) (kz_0_158 : 0 ≤ cur_0 ∧ cur_0 ≤ 2009) (kz_0_159 : 0 ≤ opened_0 ∧ opened_0 ≤ 13) (kz_0_164 : 0 ≤ styleKind_0 ∧ styleKind_0 ≤ 1) (kz_0_165 : (-1) ≤ styleOne_0 ∧ styleOne_0 ≤ 47) (ex2 : gx = 0 + (1 * x7 + 0)) (ex3 : 0 ≤ gx ∧ gx ≤ 2010) : (-1) * x3 + 0 ≤ 0 := by
  first | assumption | (clear f0 f6 f10 hK_0_1 hK_0_160 hK_0_162 hK_0_163; omega) | (clear hK_0_1 hK_0_160 hK_0_162 hK_0_163; grind) | omega | grind
def o_Mo_product_at_f0_17 : or_T := (74, 22, [(0, (2, 0, 0, [165])), (1, (0, 0, 2009, [])), (2, (0, 0, 5, [])), (3, (0, 0, 13, [])), (4, (2, 0, 0, [165])), (6, (0, 0, 2009, [])), (7, (0, 0, 2010, [])), (14, (0, 1, 1, [])), (15, (0, 1, 2009, [])), (16, (0, 0, 2009, [])), (17, (0, 0, 5, [])), (18, (0, 0, 13, []))], [(20, [4], [50, 2, 0, 164, 165, 4, 7, 1, 3, 2, 0, 164, 0, 0, 0, 3, 2, 0, 165, 0, 23]), (23, [1, 16], [0, 1, -1]), (23, [7, 16], [-2011, -1, -1]), (20, [4, 16, 17, 1, 2, 3], [60, 2, 5, 10, 164, 10, 160, 161, 162, 163, 1]), (23, [18], [0, 1]), (23, [18], [0, -1]), (20, [4], [50, 2, 0, 164, 165, 4, 7, 1, 3, 2, 0, 164, 0, 0, 0, 3, 2, 0, 165, 0, 23]), (23, [3], [0, 1]), (23, [3], [0, -1]), (24, [0, 4], []), (20, [4], [50, 2, 1, 158, 157, 160, 2, 12, 0, 7, 4, 3, 2, 0, 158, 0, 1, 2, 0, 157, 2, 7, 0, 3, 2, 0, 157, 0, 2010, 3, 14, 1, 10, 3, 0, 160, 5, 3, 2, 0, 157, 0, 1, 0, 0, 1, 10, 3, 0, 160, 5, 3, 2, 0, 157, 0, 1, 0, 4]), (20, [16, 4], [30, 0, 1, 0, 0, -1, 1, 158]), (20, [4], [30, 0, 1, 1, 159]), (20, [4], [30, 0, -1, 1, 159]), (20, [4, 16, 17, 18], [60, 4, 5, 0, 8, 158, 164, 10, 160, 161, 162, 163, 1]), (102, [18], [0, 165008, 165009, 165158, 165159]), (23, [1, 16], [0, 1, -1]), (23, [7, 16], [-2011, -1, -1]), (23, [18], [0, 1]), (23, [18], [0, -1]), (23, [3], [0, 1]), (23, [3], [0, -1]), (101, [4, 15], [158]), (1, [15, 6, 14], []), (23, [3], [0, 1]), (23, [3], [0, -1])], [], [(0, 0, 2010, [])], [(20, [4], [50, 2, 1, 158, 157, 160, 2, 12, 0, 7, 4, 3, 2, 0, 158, 0, 1, 2, 0, 157, 2, 7, 0, 3, 2, 0, 157, 0, 2010, 3, 14, 1, 10, 3, 0, 160, 5, 3, 2, 0, 157, 0, 1, 0, 0, 1, 10, 3, 0, 160, 5, 3, 2, 0, 157, 0, 1, 0, 4]), (20, [1, 4], [30, 0, 1, 0, 0, -1, 1, 158]), (20, [4], [50, 2, 0, 164, 165, 4, 7, 1, 3, 2, 0, 164, 0, 0, 0, 3, 2, 0, 165, 0, 23]), (20, [4], [30, 0, 1, 1, 159]), (20, [4], [30, 0, -1, 1, 159]), (20, [22, 4], [30, -2011, -1, 0, 0, -1, 1, 158]), (20, [4, 1, 2, 3], [60, 4, 5, 6, 8, 158, 164, 10, 160, 161, 162, 163, 1]), (23, [3], [0, 1]), (23, [3], [0, -1]), (24, [0, 4], [])], [(22, 7, 0, 0)], [(15, 6, 1, 1)])
theorem oo_Mo_product_at_f0_17 {kA : Nat → ClassId} : or_ok PRD kA GG o_Mo_product_at_f0_17 := by
  refine or_mk fun A ta ws vs hD hth hl => ?_
  intro t0 r0 t1 k1 t2 k2 t3 k3 t4 r4 t6 k6 t7 k7 t14 k14 t15 k15 t16 k16 t17 k17 t18 k18 d0 f0 f1 f2 f3 f4 f5 f6 f7 f8 f9 f10 f11 f12 f13 f14 ta1 w1 le1 s1 f16 f17 f18 f19 f20 f21 ta2 w2 le2 s2 f23 f24 f25
  replace f0 := shm_299 f0
  replace f1 := shm_7 f1
  replace f2 := shm_315 f2
  replace f3 := shm_344 f3
  replace f4 := shm_1477 f4
  replace f5 := shm_1013 f5
  replace f6 := shm_299 f6
  replace f7 := shm_1477 f7
  replace f8 := shm_1013 f8
  replace f9 := shm_5 f9
  replace f10 := shm_296 f10
  replace f11 := shm_306 f11
  replace f12 := shm_999 f12
  replace f13 := shm_1000 f13
  replace f14 := shm_341 f14
  replace f16 := shm_7 f16
  replace f17 := shm_315 f17
  replace f18 := shm_1477 f18
  replace f19 := shm_1013 f19
  replace f20 := shm_1477 f20
  replace f21 := shm_1013 f21
  have s2 : (∀ b j, w_el w1 b j = w_el w2 b j) ∧ ∀ b j, w_fd w1 b j = if b = v_ad (n_v vs 4) ∧ j = 158 then n_v vs 15 else w_fd w2 b j := s2.2
  replace f23 := shm_12 f23
  replace f24 := shm_1477 f24
  replace f25 := shm_1013 f25
  have q4 : n_v vs 4 = n_v vs 0 := f9.symm
  simp only [q4] at f0 f3 f6 f10 f11 f12 f13 f14
  rw [q4] at s2
  have cr_0_1 := fdq_46 hD hth r0
  have cr_0_160 := fdq_41 hD hth r0
  have cr_0_161 := fdq_47 hD hth r0
  have cr_0_162 := fdq_48 hD hth r0
  have cr_0_163 := fdq_49 hD hth r0
  have hK_0_1 := elq_6 hD hth cr_0_1
  have hK_0_160 := elq_5 hD hth cr_0_160
  have hK_0_162 := elq_7 hD hth cr_0_162
  have hK_0_163 := elq_8 hD hth cr_0_163
  have kz_0_8 := fdq_14 hD hth r0
  have kz_0_10 := fdq_50 hD hth r0
  have kz_0_157 := fdq_42 hD hth r0
  have kz_0_158 := fdq_43 hD hth r0
  have kz_0_159 := fdq_44 hD hth r0
  have kz_0_164 := fdq_45 hD hth r0
  have kz_0_165 := fdq_35 hD hth r0
  obtain ⟨x, ex, hx⟩ := iv_ex (ta := ta) (lo := 0) (hi := 2010) (z := 0 + (1 * v_iv (n_v vs 7) + 0)) (by omega) (by omega) (by omega) (by omega)
  have ex2 : v_iv (Value.int x) = 0 + (1 * v_iv (n_v vs 7) + 0) := ex
  have ex3 : 0 ≤ v_iv (Value.int x) ∧ v_iv (Value.int x) ≤ 2010 := tv_rng hx
  have e_0 : n_v (vs ++ [Value.int x]) 0 = n_v vs 0 := n_v_old (by rw [hl]; decide)
  have e_1 : n_v (vs ++ [Value.int x]) 1 = n_v vs 1 := n_v_old (by rw [hl]; decide)
  have e_2 : n_v (vs ++ [Value.int x]) 2 = n_v vs 2 := n_v_old (by rw [hl]; decide)
  have e_3 : n_v (vs ++ [Value.int x]) 3 = n_v vs 3 := n_v_old (by rw [hl]; decide)
  have e_4 : n_v (vs ++ [Value.int x]) 4 = n_v vs 4 := n_v_old (by rw [hl]; decide)
  have e_22 : n_v (vs ++ [Value.int x]) 22 = Value.int x := n_v_new hl
  have nf0 : fc_1 PRD (20, [4], [50, 2, 1, 158, 157, 160, 2, 12, 0, 7, 4, 3, 2, 0, 158, 0, 1, 2, 0, 157, 2, 7, 0, 3, 2, 0, 157, 0, 2010, 3, 14, 1, 10, 3, 0, 160, 5, 3, 2, 0, 157, 0, 1, 0, 0, 1, 10, 3, 0, 160, 5, 3, 2, 0, 157, 0, 1, 0, 4]) ws (vs ++ [Value.int x]) := by
    refine ⟨nf_inA hl rfl, sgq_296 ?_⟩
    · show ((w_fi ws (n_v (vs ++ [Value.int x]) 4) 158 + 1) ≤ w_fi ws (n_v (vs ++ [Value.int x]) 4) 157) ∧ ((w_fi ws (n_v (vs ++ [Value.int x]) 4) 157 ≤ 2010) ∧ ((w_ei ws (w_ar ws (n_v (vs ++ [Value.int x]) 4) 160) ((w_fi ws (n_v (vs ++ [Value.int x]) 4) 157 - 1)) = 0) ∨ (w_ei ws (w_ar ws (n_v (vs ++ [Value.int x]) 4) 160) ((w_fi ws (n_v (vs ++ [Value.int x]) 4) 157 - 1)) = 4)))
      simp only [e_4, q4]
      exact vc_Mo_product_at_f0_17_0 (v_iv (n_v vs 1)) (v_iv (n_v vs 2)) (v_iv (n_v vs 3)) (v_iv (n_v vs 6)) (v_iv (n_v vs 7)) (v_iv (n_v vs 14)) (v_iv (n_v vs 15)) (v_iv (n_v vs 16)) (v_iv (n_v vs 17)) (v_iv (n_v vs 18)) (w_fi ws (n_v vs 0) 164) (w_fi ws (n_v vs 0) 165) (w_ei ws (w_ar ws (n_v vs 0) 160)) (w_ei ws (w_ar ws (n_v vs 0) 161)) (w_ei ws (w_ar ws (n_v vs 0) 162)) (w_ei ws (w_ar ws (n_v vs 0) 163)) (w_ei ws (w_ar ws (n_v vs 0) 1)) (w_fi ws (n_v vs 0) 10) (w_fi ws (n_v vs 0) 158) (w_fi ws (n_v vs 0) 157) (w_fi ws (n_v vs 0) 159) (w_fi ws (n_v vs 0) 8) (v_iv (Value.int x)) k1 k2 k3 k6 k7 k14 k15 k16 k17 k18 d0 f0 f1 f2 f3 f4 f5 f6 f7 f8 f10 f11 f12 f13 f14 f16 f17 f18 f19 f20 f21 f23 f24 f25 hK_0_1 hK_0_160 hK_0_162 hK_0_163 kz_0_8 kz_0_10 kz_0_157 kz_0_158 kz_0_159 kz_0_164 kz_0_165 ex2 ex3
  have nf1 : fc_1 PRD (20, [1, 4], [30, 0, 1, 0, 0, -1, 1, 158]) ws (vs ++ [Value.int x]) := by
    refine ⟨nf_inA hl rfl, sgq_306 ?_⟩
    · show 1 * v_iv (n_v (vs ++ [Value.int x]) 1) + ((-1) * w_fi ws (n_v (vs ++ [Value.int x]) 4) 158 + 0) ≤ 0
      simp only [e_1, e_4, q4]
      exact vc_Mo_product_at_f0_17_1 (v_iv (n_v vs 1)) (v_iv (n_v vs 2)) (v_iv (n_v vs 3)) (v_iv (n_v vs 6)) (v_iv (n_v vs 7)) (v_iv (n_v vs 14)) (v_iv (n_v vs 15)) (v_iv (n_v vs 16)) (v_iv (n_v vs 17)) (v_iv (n_v vs 18)) (w_fi ws (n_v vs 0) 164) (w_fi ws (n_v vs 0) 165) (w_ei ws (w_ar ws (n_v vs 0) 160)) (w_ei ws (w_ar ws (n_v vs 0) 161)) (w_ei ws (w_ar ws (n_v vs 0) 162)) (w_ei ws (w_ar ws (n_v vs 0) 163)) (w_ei ws (w_ar ws (n_v vs 0) 1)) (w_fi ws (n_v vs 0) 10) (w_fi ws (n_v vs 0) 158) (w_fi ws (n_v vs 0) 157) (w_fi ws (n_v vs 0) 159) (w_fi ws (n_v vs 0) 8) (v_iv (Value.int x)) k1 k2 k3 k6 k7 k14 k15 k16 k17 k18 d0 f0 f1 f2 f3 f4 f5 f6 f7 f8 f10 f11 f12 f13 f14 f16 f17 f18 f19 f20 f21 f23 f24 f25 hK_0_1 hK_0_160 hK_0_162 hK_0_163 kz_0_8 kz_0_10 kz_0_157 kz_0_158 kz_0_159 kz_0_164 kz_0_165 ex2 ex3
  have nf2 : fc_1 PRD (20, [4], [50, 2, 0, 164, 165, 4, 7, 1, 3, 2, 0, 164, 0, 0, 0, 3, 2, 0, 165, 0, 23]) ws (vs ++ [Value.int x]) := by
    refine ⟨nf_inA hl rfl, sgq_299 ?_⟩
    · show (w_fi ws (n_v (vs ++ [Value.int x]) 4) 164 = 0) → (w_fi ws (n_v (vs ++ [Value.int x]) 4) 165 ≤ 23)
      simp only [e_4, q4]
      exact vc_Mo_product_at_f0_17_2 (v_iv (n_v vs 1)) (v_iv (n_v vs 2)) (v_iv (n_v vs 3)) (v_iv (n_v vs 6)) (v_iv (n_v vs 7)) (v_iv (n_v vs 14)) (v_iv (n_v vs 15)) (v_iv (n_v vs 16)) (v_iv (n_v vs 17)) (v_iv (n_v vs 18)) (w_fi ws (n_v vs 0) 164) (w_fi ws (n_v vs 0) 165) (w_ei ws (w_ar ws (n_v vs 0) 160)) (w_ei ws (w_ar ws (n_v vs 0) 161)) (w_ei ws (w_ar ws (n_v vs 0) 162)) (w_ei ws (w_ar ws (n_v vs 0) 163)) (w_ei ws (w_ar ws (n_v vs 0) 1)) (w_fi ws (n_v vs 0) 10) (w_fi ws (n_v vs 0) 158) (w_fi ws (n_v vs 0) 157) (w_fi ws (n_v vs 0) 159) (w_fi ws (n_v vs 0) 8) (v_iv (Value.int x)) k1 k2 k3 k6 k7 k14 k15 k16 k17 k18 d0 f0 f1 f2 f3 f4 f5 f6 f7 f8 f10 f11 f12 f13 f14 f16 f17 f18 f19 f20 f21 f23 f24 f25 hK_0_1 hK_0_160 hK_0_162 hK_0_163 kz_0_8 kz_0_10 kz_0_157 kz_0_158 kz_0_159 kz_0_164 kz_0_165 ex2 ex3
  have nf3 : fc_1 PRD (20, [4], [30, 0, 1, 1, 159]) ws (vs ++ [Value.int x]) := by
    refine ⟨nf_inA hl rfl, sgq_999 ?_⟩
    · show 1 * w_fi ws (n_v (vs ++ [Value.int x]) 4) 159 + 0 ≤ 0
      simp only [e_4, q4]
      exact vc_Mo_product_at_f0_17_3 (v_iv (n_v vs 1)) (v_iv (n_v vs 2)) (v_iv (n_v vs 3)) (v_iv (n_v vs 6)) (v_iv (n_v vs 7)) (v_iv (n_v vs 14)) (v_iv (n_v vs 15)) (v_iv (n_v vs 16)) (v_iv (n_v vs 17)) (v_iv (n_v vs 18)) (w_fi ws (n_v vs 0) 164) (w_fi ws (n_v vs 0) 165) (w_ei ws (w_ar ws (n_v vs 0) 160)) (w_ei ws (w_ar ws (n_v vs 0) 161)) (w_ei ws (w_ar ws (n_v vs 0) 162)) (w_ei ws (w_ar ws (n_v vs 0) 163)) (w_ei ws (w_ar ws (n_v vs 0) 1)) (w_fi ws (n_v vs 0) 10) (w_fi ws (n_v vs 0) 158) (w_fi ws (n_v vs 0) 157) (w_fi ws (n_v vs 0) 159) (w_fi ws (n_v vs 0) 8) (v_iv (Value.int x)) k1 k2 k3 k6 k7 k14 k15 k16 k17 k18 d0 f0 f1 f2 f3 f4 f5 f6 f7 f8 f10 f11 f12 f13 f14 f16 f17 f18 f19 f20 f21 f23 f24 f25 hK_0_1 hK_0_160 hK_0_162 hK_0_163 kz_0_8 kz_0_10 kz_0_157 kz_0_158 kz_0_159 kz_0_164 kz_0_165 ex2 ex3
  have nf4 : fc_1 PRD (20, [4], [30, 0, -1, 1, 159]) ws (vs ++ [Value.int x]) := by
    refine ⟨nf_inA hl rfl, sgq_1000 ?_⟩
    · show (-1) * w_fi ws (n_v (vs ++ [Value.int x]) 4) 159 + 0 ≤ 0
      simp only [e_4, q4]
      exact vc_Mo_product_at_f0_17_4 (v_iv (n_v vs 1)) (v_iv (n_v vs 2)) (v_iv (n_v vs 3)) (v_iv (n_v vs 6)) (v_iv (n_v vs 7)) (v_iv (n_v vs 14)) (v_iv (n_v vs 15)) (v_iv (n_v vs 16)) (v_iv (n_v vs 17)) (v_iv (n_v vs 18)) (w_fi ws (n_v vs 0) 164) (w_fi ws (n_v vs 0) 165) (w_ei ws (w_ar ws (n_v vs 0) 160)) (w_ei ws (w_ar ws (n_v vs 0) 161)) (w_ei ws (w_ar ws (n_v vs 0) 162)) (w_ei ws (w_ar ws (n_v vs 0) 163)) (w_ei ws (w_ar ws (n_v vs 0) 1)) (w_fi ws (n_v vs 0) 10) (w_fi ws (n_v vs 0) 158) (w_fi ws (n_v vs 0) 157) (w_fi ws (n_v vs 0) 159) (w_fi ws (n_v vs 0) 8) (v_iv (Value.int x)) k1 k2 k3 k6 k7 k14 k15 k16 k17 k18 d0 f0 f1 f2 f3 f4 f5 f6 f7 f8 f10 f11 f12 f13 f14 f16 f17 f18 f19 f20 f21 f23 f24 f25 hK_0_1 hK_0_160 hK_0_162 hK_0_163 kz_0_8 kz_0_10 kz_0_157 kz_0_158 kz_0_159 kz_0_164 kz_0_165 ex2 ex3
  have nf5 : fc_1 PRD (20, [22, 4], [30, -2011, -1, 0, 0, -1, 1, 158]) ws (vs ++ [Value.int x]) := by
    refine ⟨nf_inA hl rfl, sgq_317 ?_⟩
    · show (-1) * v_iv (n_v (vs ++ [Value.int x]) 22) + ((-1) * w_fi ws (n_v (vs ++ [Value.int x]) 4) 158 + 0) ≤ (-2011)
      simp only [e_4, e_22, q4]
      exact vc_Mo_product_at_f0_17_5 (v_iv (n_v vs 1)) (v_iv (n_v vs 2)) (v_iv (n_v vs 3)) (v_iv (n_v vs 6)) (v_iv (n_v vs 7)) (v_iv (n_v vs 14)) (v_iv (n_v vs 15)) (v_iv (n_v vs 16)) (v_iv (n_v vs 17)) (v_iv (n_v vs 18)) (w_fi ws (n_v vs 0) 164) (w_fi ws (n_v vs 0) 165) (w_ei ws (w_ar ws (n_v vs 0) 160)) (w_ei ws (w_ar ws (n_v vs 0) 161)) (w_ei ws (w_ar ws (n_v vs 0) 162)) (w_ei ws (w_ar ws (n_v vs 0) 163)) (w_ei ws (w_ar ws (n_v vs 0) 1)) (w_fi ws (n_v vs 0) 10) (w_fi ws (n_v vs 0) 158) (w_fi ws (n_v vs 0) 157) (w_fi ws (n_v vs 0) 159) (w_fi ws (n_v vs 0) 8) (v_iv (Value.int x)) k1 k2 k3 k6 k7 k14 k15 k16 k17 k18 d0 f0 f1 f2 f3 f4 f5 f6 f7 f8 f10 f11 f12 f13 f14 f16 f17 f18 f19 f20 f21 f23 f24 f25 hK_0_1 hK_0_160 hK_0_162 hK_0_163 kz_0_8 kz_0_10 kz_0_157 kz_0_158 kz_0_159 kz_0_164 kz_0_165 ex2 ex3
  have nf6 : fc_1 PRD (20, [4, 1, 2, 3], [60, 4, 5, 6, 8, 158, 164, 10, 160, 161, 162, 163, 1]) ws (vs ++ [Value.int x]) := by
    refine ⟨nf_inA hl rfl, sgq_342 ?_⟩
    · show SPWv (w_fi ws (n_v (vs ++ [Value.int x]) 4) 8) (w_fi ws (n_v (vs ++ [Value.int x]) 4) 158) (w_fi ws (n_v (vs ++ [Value.int x]) 4) 164) (w_fi ws (n_v (vs ++ [Value.int x]) 4) 10) (w_ei ws (w_ar ws (n_v (vs ++ [Value.int x]) 4) 160)) (w_ei ws (w_ar ws (n_v (vs ++ [Value.int x]) 4) 161)) (w_ei ws (w_ar ws (n_v (vs ++ [Value.int x]) 4) 162)) (w_ei ws (w_ar ws (n_v (vs ++ [Value.int x]) 4) 163)) (w_ei ws (w_ar ws (n_v (vs ++ [Value.int x]) 4) 1)) (v_iv (n_v (vs ++ [Value.int x]) 1)) (v_iv (n_v (vs ++ [Value.int x]) 2)) (v_iv (n_v (vs ++ [Value.int x]) 3))
      simp only [e_1, e_2, e_3, e_4, q4]
      exact vc_Mo_product_at_f0_17_6 (v_iv (n_v vs 1)) (v_iv (n_v vs 2)) (v_iv (n_v vs 3)) (v_iv (n_v vs 16)) (v_iv (n_v vs 17)) (v_iv (n_v vs 18)) (w_fi ws (n_v vs 0) 164) (w_ei ws (w_ar ws (n_v vs 0) 160)) (w_ei ws (w_ar ws (n_v vs 0) 161)) (w_ei ws (w_ar ws (n_v vs 0) 162)) (w_ei ws (w_ar ws (n_v vs 0) 163)) (w_ei ws (w_ar ws (n_v vs 0) 1)) (w_fi ws (n_v vs 0) 10) (w_fi ws (n_v vs 0) 158) (w_fi ws (n_v vs 0) 8) k1 k2 k3 k16 k17 k18 f3 f4 f7 f11 f14 kz_0_8 kz_0_10 kz_0_158 kz_0_164
  have nf7 : fc_1 PRD (23, [3], [0, 1]) ws (vs ++ [Value.int x]) := by
    refine ⟨nf_inA hl rfl, sgq_1477 ?_⟩
    · show 1 * v_iv (n_v (vs ++ [Value.int x]) 3) + 0 ≤ 0
      rw [e_3]
      exact vc_Mo_product_at_f0_17_7 (v_iv (n_v vs 1)) (v_iv (n_v vs 2)) (v_iv (n_v vs 3)) (v_iv (n_v vs 6)) (v_iv (n_v vs 7)) (v_iv (n_v vs 14)) (v_iv (n_v vs 15)) (v_iv (n_v vs 16)) (v_iv (n_v vs 17)) (v_iv (n_v vs 18)) (w_fi ws (n_v vs 0) 164) (w_fi ws (n_v vs 0) 165) (w_ei ws (w_ar ws (n_v vs 0) 160)) (w_ei ws (w_ar ws (n_v vs 0) 161)) (w_ei ws (w_ar ws (n_v vs 0) 162)) (w_ei ws (w_ar ws (n_v vs 0) 163)) (w_ei ws (w_ar ws (n_v vs 0) 1)) (w_fi ws (n_v vs 0) 10) (w_fi ws (n_v vs 0) 158) (w_fi ws (n_v vs 0) 157) (w_fi ws (n_v vs 0) 159) (w_fi ws (n_v vs 0) 8) (v_iv (Value.int x)) k1 k2 k3 k6 k7 k14 k15 k16 k17 k18 d0 f0 f1 f2 f3 f4 f5 f6 f7 f8 f10 f11 f12 f13 f14 f16 f17 f18 f19 f20 f21 f23 f24 f25 hK_0_1 hK_0_160 hK_0_162 hK_0_163 kz_0_8 kz_0_10 kz_0_157 kz_0_158 kz_0_159 kz_0_164 kz_0_165 ex2 ex3
  have nf8 : fc_1 PRD (23, [3], [0, -1]) ws (vs ++ [Value.int x]) := by
    refine ⟨nf_inA hl rfl, sgq_1013 ?_⟩
    · show (-1) * v_iv (n_v (vs ++ [Value.int x]) 3) + 0 ≤ 0
      rw [e_3]
      exact vc_Mo_product_at_f0_17_8 (v_iv (n_v vs 1)) (v_iv (n_v vs 2)) (v_iv (n_v vs 3)) (v_iv (n_v vs 6)) (v_iv (n_v vs 7)) (v_iv (n_v vs 14)) (v_iv (n_v vs 15)) (v_iv (n_v vs 16)) (v_iv (n_v vs 17)) (v_iv (n_v vs 18)) (w_fi ws (n_v vs 0) 164) (w_fi ws (n_v vs 0) 165) (w_ei ws (w_ar ws (n_v vs 0) 160)) (w_ei ws (w_ar ws (n_v vs 0) 161)) (w_ei ws (w_ar ws (n_v vs 0) 162)) (w_ei ws (w_ar ws (n_v vs 0) 163)) (w_ei ws (w_ar ws (n_v vs 0) 1)) (w_fi ws (n_v vs 0) 10) (w_fi ws (n_v vs 0) 158) (w_fi ws (n_v vs 0) 157) (w_fi ws (n_v vs 0) 159) (w_fi ws (n_v vs 0) 8) (v_iv (Value.int x)) k1 k2 k3 k6 k7 k14 k15 k16 k17 k18 d0 f0 f1 f2 f3 f4 f5 f6 f7 f8 f10 f11 f12 f13 f14 f16 f17 f18 f19 f20 f21 f23 f24 f25 hK_0_1 hK_0_160 hK_0_162 hK_0_163 kz_0_8 kz_0_10 kz_0_157 kz_0_158 kz_0_159 kz_0_164 kz_0_165 ex2 ex3
  have nf9 : fc_1 PRD (24, [0, 4], []) ws (vs ++ [Value.int x]) := by
    refine ⟨nf_inA hl rfl, sgq_5 ?_⟩
    · show n_v (vs ++ [Value.int x]) 0 = n_v (vs ++ [Value.int x]) 4
      first | rfl | simp only [e_0, e_4, q4]
  obtain ⟨x0, e0, _, _⟩ := tv_int t7 rfl
  have e1 : v_iv (n_v vs 7) = x0.toInt := by rw [e0]; rfl
  have ho : sy_ofs (vs ++ [Value.int x]) (22, 7, 0, 0) := by
    refine ⟨x, x0, by rw [List.getElem?_append_right (by rw [hl]; decide), hl]; rfl, ?_, ?_, ?_⟩
    · rw [List.getElem?_append_left (by rw [hl]; decide)]; exact n_v_some (by rw [hl]; decide) e0
    · show x0.toInt + 0 ≤ x.toInt; omega
    · show x.toInt ≤ x0.toInt + 0; omega
  exact ⟨(fun _ h => (by cases h)), [Value.int x], ag_one hx, List.forall_mem_cons.mpr ⟨⟨show (20 : Nat) < 100 from by decide, nf0⟩, List.forall_mem_cons.mpr ⟨⟨show (20 : Nat) < 100 from by decide, nf1⟩, List.forall_mem_cons.mpr ⟨⟨show (20 : Nat) < 100 from by decide, nf2⟩, List.forall_mem_cons.mpr ⟨⟨show (20 : Nat) < 100 from by decide, nf3⟩, List.forall_mem_cons.mpr ⟨⟨show (20 : Nat) < 100 from by decide, nf4⟩, List.forall_mem_cons.mpr ⟨⟨show (20 : Nat) < 100 from by decide, nf5⟩, List.forall_mem_cons.mpr ⟨⟨show (20 : Nat) < 100 from by decide, nf6⟩, List.forall_mem_cons.mpr ⟨⟨show (23 : Nat) < 100 from by decide, nf7⟩, List.forall_mem_cons.mpr ⟨⟨show (23 : Nat) < 100 from by decide, nf8⟩, List.forall_mem_cons.mpr ⟨⟨show (24 : Nat) < 100 from by decide, nf9⟩, (fun _ h => (by cases h))⟩⟩⟩⟩⟩⟩⟩⟩⟩⟩, List.forall_mem_cons.mpr ⟨ho, (fun _ h => (by cases h))⟩⟩
set_option maxHeartbeats 4000000 in
theorem vc_Mo_product_at_f0_18_r0 (x1 : Int) (x2 : Int) (x3 : Int) (x6 : Int) (x7 : Int) (x8 : Int) (x9 : Int) (x10 : Int) (x11 : Int) (x12 : Int) (x13 : Int) (x14 : Int) (x15 : Int) (cur_0 : Int) (tokenKind_0 : Int → Int) (tokenValue_0 : Int → Int) (fault_0 : Int) (tokens_0 : Int) (styleKind_0 : Int) (styleOne_0 : Int) (tokenPlace_0 : Int → Int) (tokenEnd_0 : Int → Int) (tape_0 : Int → Int) (limit_0 : Int) (k1 : 0 ≤ x1 ∧ x1 ≤ 2009) (k2 : 0 ≤ x2 ∧ x2 ≤ 5) (k3 : 0 ≤ x3 ∧ x3 ≤ 13) (k6 : 0 ≤ x6 ∧ x6 ≤ 2009) (k7 : 0 ≤ x7 ∧ x7 ≤ 2010) (k8 : 42 ≤ x8 ∧ x8 ≤ 42) (k9 : 0 ≤ x9 ∧ x9 ≤ 5) (k10 : 1 ≤ x10 ∧ x10 ≤ 1) (k11 : 42 ≤ x11 ∧ x11 ≤ 42) (k12 : 0 ≤ x12 ∧ x12 ≤ 5) (k13 : 1 ≤ x13 ∧ x13 ≤ 1) (k14 : 1 ≤ x14 ∧ x14 ≤ 1) (k15 : 1 ≤ x15 ∧ x15 ≤ 2010) (d0 : x6 + 1 ≤ x15 ∧ x15 ≤ x6 + 1) (f0 : x15 = x6 + x14) (g1 : x6 = cur_0) (f2 : (x13 = 1) → (tokenKind_0 (cur_0) = 3)) (f3 : SGN (cur_0) (tokenKind_0) (tokenValue_0) (x11) (x13) (x12)) (f4 : fault_0 = x12) (f5 : x10 ≠ 0) (f6 : (x10 = 1) → (tokenKind_0 (cur_0) = 3)) (f7 : SGN (cur_0) (tokenKind_0) (tokenValue_0) (x8) (x10) (x9)) (f8 : fault_0 = x9) (f9 : ((cur_0 + 1) ≤ tokens_0) ∧ ((tokens_0 ≤ 2010) ∧ ((tokenKind_0 ((tokens_0 - 1)) = 0) ∨ (tokenKind_0 ((tokens_0 - 1)) = 4)))) (f10 : 1 * x1 + ((-1) * cur_0 + 0) ≤ 0) (f11 : (styleKind_0 = 0) → (styleOne_0 ≤ 23)) (f12 : SPWv (fault_0) (cur_0) (styleKind_0) (limit_0) (tokenKind_0) (tokenValue_0) (tokenPlace_0) (tokenEnd_0) (tape_0) (x1) (x2) (x3)) (f13 : 1 * x3 + 0 ≤ 0) (f14 : (-1) * x3 + 0 ≤ 0) (f16 : 1 * x7 + (1 * cur_0 + 0) ≤ 2010) (f17 : (-1) * x7 + ((-1) * cur_0 + 0) ≤ (-2010)) (hK_0_1 : ∀ j : Int, 0 ≤ j → j < 2000 → (-128) ≤ tape_0 j ∧ tape_0 j ≤ 127) (hK_0_160 : ∀ j : Int, 0 ≤ j → j < 2010 → 0 ≤ tokenKind_0 j ∧ tokenKind_0 j ≤ 4) (hK_0_162 : ∀ j : Int, 0 ≤ j → j < 2010 → 0 ≤ tokenPlace_0 j ∧ tokenPlace_0 j ≤ 2000) (hK_0_163 : ∀ j : Int, 0 ≤ j → j < 2010 → 0 ≤ tokenEnd_0 j ∧ tokenEnd_0 j ≤ 2000) (kz_0_8 : 0 ≤ fault_0 ∧ fault_0 ≤ 5) (kz_0_10 : 0 ≤ limit_0 ∧ limit_0 ≤ 2000) (kz_0_157 : 0 ≤ tokens_0 ∧ tokens_0 ≤ 2010) (kz_0_158 : 0 ≤ cur_0 ∧ cur_0 ≤ 2009) (kz_0_164 : 0 ≤ styleKind_0 ∧ styleKind_0 ≤ 1) (kz_0_165 : (-1) ≤ styleOne_0 ∧ styleOne_0 ≤ 47) : 1 ≤ x15 ∧ x15 ≤ 2009 := by
  first | assumption | (clear f2 f6 f9 f11 hK_0_1 hK_0_160 hK_0_162 hK_0_163; omega) | (clear hK_0_1 hK_0_160 hK_0_162 hK_0_163; grind) | omega | grind
def o_Mo_product_at_f0_18 : or_T := (37, 16, [(0, (2, 0, 0, [165])), (1, (0, 0, 2009, [])), (2, (0, 0, 5, [])), (3, (0, 0, 13, [])), (4, (2, 0, 0, [165])), (6, (0, 0, 2009, [])), (7, (0, 0, 2010, [])), (8, (0, 42, 42, [])), (9, (0, 0, 5, [])), (10, (0, 1, 1, [])), (11, (0, 42, 42, [])), (12, (0, 0, 5, [])), (13, (0, 1, 1, [])), (14, (0, 1, 1, [])), (15, (0, 1, 2010, []))], [(1, [15, 6, 14], []), (9, [6, 4], [158]), (20, [13, 4], [50, 1, 1, 1158, 1160, 4, 6, 1, 2, 1, 0, 0, 1, 1, 6, 3, 1, 160, 2, 1, 158, 0, 3]), (20, [4, 11, 13, 12], [60, 1, 2, 14, 158, 160, 161]), (20, [4, 12], [50, 1, 0, 8, 1, 3, 2, 0, 8, 1, 1]), (8, [10], [1]), (20, [10, 4], [50, 1, 1, 1158, 1160, 4, 6, 1, 2, 1, 0, 0, 1, 1, 6, 3, 1, 160, 2, 1, 158, 0, 3]), (20, [4, 8, 10, 9], [60, 1, 2, 14, 158, 160, 161]), (20, [4, 9], [50, 1, 0, 8, 1, 3, 2, 0, 8, 1, 1]), (20, [4], [50, 2, 1, 158, 157, 160, 2, 12, 0, 7, 4, 3, 2, 0, 158, 0, 1, 2, 0, 157, 2, 7, 0, 3, 2, 0, 157, 0, 2010, 3, 14, 1, 10, 3, 0, 160, 5, 3, 2, 0, 157, 0, 1, 0, 0, 1, 10, 3, 0, 160, 5, 3, 2, 0, 157, 0, 1, 0, 4]), (20, [1, 4], [30, 0, 1, 0, 0, -1, 1, 158]), (20, [4], [50, 2, 0, 164, 165, 4, 7, 1, 3, 2, 0, 164, 0, 0, 0, 3, 2, 0, 165, 0, 23]), (20, [4, 1, 2, 3], [60, 4, 5, 6, 8, 158, 164, 10, 160, 161, 162, 163, 1]), (23, [3], [0, 1]), (23, [3], [0, -1]), (24, [0, 4], []), (20, [7, 4], [30, 2010, 1, 0, 0, 1, 1, 158]), (20, [7, 4], [30, -2010, -1, 0, 0, -1, 1, 158])], [(15, (0, 1, 2009, []))], [], [], [], [(15, 6, 1, 1)])
theorem oo_Mo_product_at_f0_18 {kA : Nat → ClassId} : or_ok PRD kA GG o_Mo_product_at_f0_18 := by
  refine or_mk fun A ta ws vs hD hth hl => ?_
  intro t0 r0 t1 k1 t2 k2 t3 k3 t4 r4 t6 k6 t7 k7 t8 k8 t9 k9 t10 k10 t11 k11 t12 k12 t13 k13 t14 k14 t15 k15 d0 f0 f1 f2 f3 f4 f5 f6 f7 f8 f9 f10 f11 f12 f13 f14 f15 f16 f17
  replace f1 := shm_311 f1
  replace f2 := shm_319 f2
  replace f3 := shm_320 f3
  replace f4 := shm_302 f4
  replace f6 := shm_319 f6
  replace f7 := shm_320 f7
  replace f8 := shm_302 f8
  replace f9 := shm_296 f9
  replace f10 := shm_306 f10
  replace f11 := shm_299 f11
  replace f12 := shm_342 f12
  replace f15 := shm_5 f15
  replace f16 := shm_309 f16
  replace f17 := shm_310 f17
  have q4 : n_v vs 4 = n_v vs 0 := f15.symm
  simp only [q4] at f1 f2 f3 f4 f6 f7 f8 f9 f10 f11 f12 f16 f17
  have cr_0_1 := fdq_46 hD hth r0
  have cr_0_160 := fdq_41 hD hth r0
  have cr_0_162 := fdq_48 hD hth r0
  have cr_0_163 := fdq_49 hD hth r0
  have g1 : v_iv (n_v vs 6) = w_fi ws (n_v vs 0) 158 := congrArg v_iv f1
  have hK_0_1 := elq_6 hD hth cr_0_1
  have hK_0_160 := elq_5 hD hth cr_0_160
  have hK_0_162 := elq_7 hD hth cr_0_162
  have hK_0_163 := elq_8 hD hth cr_0_163
  have kz_0_8 := fdq_14 hD hth r0
  have kz_0_10 := fdq_50 hD hth r0
  have kz_0_157 := fdq_42 hD hth r0
  have kz_0_158 := fdq_43 hD hth r0
  have kz_0_164 := fdq_45 hD hth r0
  have kz_0_165 := fdq_35 hD hth r0
  have hrf0 : 1 ≤ v_iv (n_v vs 15) ∧ v_iv (n_v vs 15) ≤ 2009 := vc_Mo_product_at_f0_18_r0 (v_iv (n_v vs 1)) (v_iv (n_v vs 2)) (v_iv (n_v vs 3)) (v_iv (n_v vs 6)) (v_iv (n_v vs 7)) (v_iv (n_v vs 8)) (v_iv (n_v vs 9)) (v_iv (n_v vs 10)) (v_iv (n_v vs 11)) (v_iv (n_v vs 12)) (v_iv (n_v vs 13)) (v_iv (n_v vs 14)) (v_iv (n_v vs 15)) (w_fi ws (n_v vs 0) 158) (w_ei ws (w_ar ws (n_v vs 0) 160)) (w_ei ws (w_ar ws (n_v vs 0) 161)) (w_fi ws (n_v vs 0) 8) (w_fi ws (n_v vs 0) 157) (w_fi ws (n_v vs 0) 164) (w_fi ws (n_v vs 0) 165) (w_ei ws (w_ar ws (n_v vs 0) 162)) (w_ei ws (w_ar ws (n_v vs 0) 163)) (w_ei ws (w_ar ws (n_v vs 0) 1)) (w_fi ws (n_v vs 0) 10) k1 k2 k3 k6 k7 k8 k9 k10 k11 k12 k13 k14 k15 d0 (shm_12 f0) g1 f2 f3 f4 (shm_154 f5) f6 f7 f8 f9 f10 f11 f12 (shm_1477 f13) (shm_1013 f14) f16 f17 hK_0_1 hK_0_160 hK_0_162 hK_0_163 kz_0_8 kz_0_10 kz_0_157 kz_0_158 kz_0_164 kz_0_165
  have rf15 : tv_ok ta (0, 1, 2009, []) (n_v vs 15) := tv_in t15 (by first | omega | grind) (by first | omega | grind)
  refine ⟨List.forall_mem_cons.mpr ⟨rf15, (fun _ h => (by cases h))⟩, [], trivial, ?_, (fun _ h => (by cases h))⟩
  rw [List.append_nil]
  exact (fun _ h => (by cases h))

set_option maxHeartbeats 4000000 in
theorem vc_Mo_product_at_f0_19_0 (x1 : Int) (x2 : Int) (x3 : Int) (x6 : Int) (x7 : Int) (x8 : Int) (x9 : Int) (x10 : Int) (x11 : Int) (x12 : Int) (x13 : Int) (x14 : Int) (x15 : Int) (cur_0 : Int) (fault_0 : Int) (styleKind_0 : Int) (styleOne_0 : Int) (opened_0 : Int) (cur_1 : Int) (tokenKind_1 : Int → Int) (tokenValue_1 : Int → Int) (fault_1 : Int) (tokens_1 : Int) (styleKind_1 : Int) (styleOne_1 : Int) (opened_1 : Int) (tokenPlace_1 : Int → Int) (tokenEnd_1 : Int → Int) (tape_1 : Int → Int) (limit_1 : Int) (limit_0 : Int) (tokens_0 : Int) (tape_0 : Int → Int) (tokenKind_0 : Int → Int) (tokenValue_0 : Int → Int) (tokenPlace_0 : Int → Int) (tokenEnd_0 : Int → Int) (gx : Int) (gy : Int) (gu : Int) (k1 : 0 ≤ x1 ∧ x1 ≤ 2009) (k2 : 0 ≤ x2 ∧ x2 ≤ 5) (k3 : 0 ≤ x3 ∧ x3 ≤ 13) (k6 : 0 ≤ x6 ∧ x6 ≤ 2009) (k7 : 0 ≤ x7 ∧ x7 ≤ 2010) (k8 : 42 ≤ x8 ∧ x8 ≤ 42) (k9 : 0 ≤ x9 ∧ x9 ≤ 5) (k10 : 1 ≤ x10 ∧ x10 ≤ 1) (k11 : 42 ≤ x11 ∧ x11 ≤ 42) (k12 : 0 ≤ x12 ∧ x12 ≤ 5) (k13 : 1 ≤ x13 ∧ x13 ≤ 1) (k14 : 1 ≤ x14 ∧ x14 ≤ 1) (k15 : 1 ≤ x15 ∧ x15 ≤ 2009) (d0 : x6 + 1 ≤ x15 ∧ x15 ≤ x6 + 1) (g0 : x15 = cur_0) (f1 : fault_0 = x12) (f2 : fault_0 = x9) (f3 : (styleKind_0 = 0) → (styleOne_0 ≤ 23)) (f4 : 1 * opened_0 + 0 ≤ 0) (f5 : (-1) * opened_0 + 0 ≤ 0) (f6 : 1 * x3 + 0 ≤ 0) (f7 : (-1) * x3 + 0 ≤ 0) (f10 : x15 = x6 + x14) (g11 : x6 = cur_1) (f12 : (x13 = 1) → (tokenKind_1 (cur_1) = 3)) (f13 : SGN (cur_1) (tokenKind_1) (tokenValue_1) (x11) (x13) (x12)) (f14 : fault_1 = x12) (f15 : x10 ≠ 0) (f16 : (x10 = 1) → (tokenKind_1 (cur_1) = 3)) (f17 : SGN (cur_1) (tokenKind_1) (tokenValue_1) (x8) (x10) (x9)) (f18 : fault_1 = x9) (f19 : ((cur_1 + 1) ≤ tokens_1) ∧ ((tokens_1 ≤ 2010) ∧ ((tokenKind_1 ((tokens_1 - 1)) = 0) ∨ (tokenKind_1 ((tokens_1 - 1)) = 4)))) (f20 : 1 * x1 + ((-1) * cur_1 + 0) ≤ 0) (f21 : (styleKind_1 = 0) → (styleOne_1 ≤ 23)) (f22 : 1 * opened_1 + 0 ≤ 0) (f23 : (-1) * opened_1 + 0 ≤ 0) (f24 : SPWv (fault_1) (cur_1) (styleKind_1) (limit_1) (tokenKind_1) (tokenValue_1) (tokenPlace_1) (tokenEnd_1) (tape_1) (x1) (x2) (x3)) (f25 : 1 * x3 + 0 ≤ 0) (f26 : (-1) * x3 + 0 ≤ 0) (f27 : 1 * x7 + (1 * cur_1 + 0) ≤ 2010) (f28 : (-1) * x7 + ((-1) * cur_1 + 0) ≤ (-2010)) (fe_0_8_1 : fault_0 = fault_1) (fe_0_10_1 : limit_0 = limit_1) (fe_0_157_1 : tokens_0 = tokens_1) (fe_0_158_1 : cur_0 = x15) (fe_0_159_1 : opened_0 = opened_1) (fe_0_164_1 : styleKind_0 = styleKind_1) (fe_0_165_1 : styleOne_0 = styleOne_1) (hE_0_1_1 : ∀ j : Int, tape_0 j = tape_1 j) (hK_0_1 : ∀ j : Int, 0 ≤ j → j < 2000 → (-128) ≤ tape_0 j ∧ tape_0 j ≤ 127) (hE_0_160_1 : ∀ j : Int, tokenKind_0 j = tokenKind_1 j) (hK_0_160 : ∀ j : Int, 0 ≤ j → j < 2010 → 0 ≤ tokenKind_0 j ∧ tokenKind_0 j ≤ 4) (hE_0_161_1 : ∀ j : Int, tokenValue_0 j = tokenValue_1 j) (hE_0_162_1 : ∀ j : Int, tokenPlace_0 j = tokenPlace_1 j) (hK_0_162 : ∀ j : Int, 0 ≤ j → j < 2010 → 0 ≤ tokenPlace_0 j ∧ tokenPlace_0 j ≤ 2000) (hE_0_163_1 : ∀ j : Int, tokenEnd_0 j = tokenEnd_1 j) (hK_0_163 : ∀ j : Int, 0 ≤ j → j < 2010 → 0 ≤ tokenEnd_0 j ∧ tokenEnd_0 j ≤ 2000) (kz_0_8 : 0 ≤ fault_0 ∧ fault_0 ≤ 5) (kz_0_10 : 0 ≤ limit_0 ∧ limit_0 ≤ 2000) (kz_0_157 : 0 ≤ tokens_0 ∧ tokens_0 ≤ 2010) (kz_0_158 : 0 ≤ cur_0 ∧ cur_0 ≤ 2009) (kz_0_159 : 0 ≤ opened_0 ∧ opened_0 ≤ 13) (kz_0_164 : 0 ≤ styleKind_0 ∧ styleKind_0 ≤ 1) (kz_0_165 : (-1) ≤ styleOne_0 ∧ styleOne_0 ≤ 47) (ex2 : gx = cur_0) (ex3 : 0 ≤ gx ∧ gx ≤ 2009) (ey2 : gy = fault_0) (ey3 : 0 ≤ gy ∧ gy ≤ 5) (eu2 : gu = opened_0) (eu3 : 0 ≤ gu ∧ gu ≤ 13) : ((cur_0 + 1) ≤ tokens_0) ∧ ((tokens_0 ≤ 2010) ∧ ((tokenKind_0 ((tokens_0 - 1)) = 0) ∨ (tokenKind_0 ((tokens_0 - 1)) = 4))) := by
  subst fe_0_8_1
  subst fe_0_10_1
  subst fe_0_157_1
  subst fe_0_159_1
  subst fe_0_164_1
  subst fe_0_165_1
  have e_hE_0_1_1 := funext hE_0_1_1; subst e_hE_0_1_1
  have e_hE_0_160_1 := funext hE_0_160_1; subst e_hE_0_160_1
  have e_hE_0_161_1 := funext hE_0_161_1; subst e_hE_0_161_1
  have e_hE_0_162_1 := funext hE_0_162_1; subst e_hE_0_162_1
  have e_hE_0_163_1 := funext hE_0_163_1; subst e_hE_0_163_1
  first | assumption | (clear f3 f12 f16 f19 f21 hE_0_1_1 hK_0_1 hE_0_160_1 hK_0_160 hE_0_161_1 hE_0_162_1 hK_0_162 hE_0_163_1 hK_0_163; omega) | (clear hE_0_1_1 hK_0_1 hE_0_160_1 hK_0_160 hE_0_161_1 hE_0_162_1 hK_0_162 hE_0_163_1 hK_0_163; grind) | omega | grind
set_option maxHeartbeats 4000000 in
theorem vc_Mo_product_at_f0_19_1 (x1 : Int) (x2 : Int) (x3 : Int) (x6 : Int) (x7 : Int) (x8 : Int) (x9 : Int) (x10 : Int) (x11 : Int) (x12 : Int) (x13 : Int) (x14 : Int) (x15 : Int) (cur_0 : Int) (fault_0 : Int) (styleKind_0 : Int) (styleOne_0 : Int) (opened_0 : Int) (cur_1 : Int) (tokenKind_1 : Int → Int) (tokenValue_1 : Int → Int) (fault_1 : Int) (tokens_1 : Int) (styleKind_1 : Int) (styleOne_1 : Int) (opened_1 : Int) (tokenPlace_1 : Int → Int) (tokenEnd_1 : Int → Int) (tape_1 : Int → Int) (limit_1 : Int) (limit_0 : Int) (tokens_0 : Int) (tape_0 : Int → Int) (tokenKind_0 : Int → Int) (tokenValue_0 : Int → Int) (tokenPlace_0 : Int → Int) (tokenEnd_0 : Int → Int) (gx : Int) (gy : Int) (gu : Int) (k1 : 0 ≤ x1 ∧ x1 ≤ 2009) (k2 : 0 ≤ x2 ∧ x2 ≤ 5) (k3 : 0 ≤ x3 ∧ x3 ≤ 13) (k6 : 0 ≤ x6 ∧ x6 ≤ 2009) (k7 : 0 ≤ x7 ∧ x7 ≤ 2010) (k8 : 42 ≤ x8 ∧ x8 ≤ 42) (k9 : 0 ≤ x9 ∧ x9 ≤ 5) (k10 : 1 ≤ x10 ∧ x10 ≤ 1) (k11 : 42 ≤ x11 ∧ x11 ≤ 42) (k12 : 0 ≤ x12 ∧ x12 ≤ 5) (k13 : 1 ≤ x13 ∧ x13 ≤ 1) (k14 : 1 ≤ x14 ∧ x14 ≤ 1) (k15 : 1 ≤ x15 ∧ x15 ≤ 2009) (d0 : x6 + 1 ≤ x15 ∧ x15 ≤ x6 + 1) (g0 : x15 = cur_0) (f1 : fault_0 = x12) (f2 : fault_0 = x9) (f3 : (styleKind_0 = 0) → (styleOne_0 ≤ 23)) (f4 : 1 * opened_0 + 0 ≤ 0) (f5 : (-1) * opened_0 + 0 ≤ 0) (f6 : 1 * x3 + 0 ≤ 0) (f7 : (-1) * x3 + 0 ≤ 0) (f10 : x15 = x6 + x14) (g11 : x6 = cur_1) (f12 : (x13 = 1) → (tokenKind_1 (cur_1) = 3)) (f13 : SGN (cur_1) (tokenKind_1) (tokenValue_1) (x11) (x13) (x12)) (f14 : fault_1 = x12) (f15 : x10 ≠ 0) (f16 : (x10 = 1) → (tokenKind_1 (cur_1) = 3)) (f17 : SGN (cur_1) (tokenKind_1) (tokenValue_1) (x8) (x10) (x9)) (f18 : fault_1 = x9) (f19 : ((cur_1 + 1) ≤ tokens_1) ∧ ((tokens_1 ≤ 2010) ∧ ((tokenKind_1 ((tokens_1 - 1)) = 0) ∨ (tokenKind_1 ((tokens_1 - 1)) = 4)))) (f20 : 1 * x1 + ((-1) * cur_1 + 0) ≤ 0) (f21 : (styleKind_1 = 0) → (styleOne_1 ≤ 23)) (f22 : 1 * opened_1 + 0 ≤ 0) (f23 : (-1) * opened_1 + 0 ≤ 0) (f24 : SPWv (fault_1) (cur_1) (styleKind_1) (limit_1) (tokenKind_1) (tokenValue_1) (tokenPlace_1) (tokenEnd_1) (tape_1) (x1) (x2) (x3)) (f25 : 1 * x3 + 0 ≤ 0) (f26 : (-1) * x3 + 0 ≤ 0) (f27 : 1 * x7 + (1 * cur_1 + 0) ≤ 2010) (f28 : (-1) * x7 + ((-1) * cur_1 + 0) ≤ (-2010)) (fe_0_8_1 : fault_0 = fault_1) (fe_0_10_1 : limit_0 = limit_1) (fe_0_157_1 : tokens_0 = tokens_1) (fe_0_158_1 : cur_0 = x15) (fe_0_159_1 : opened_0 = opened_1) (fe_0_164_1 : styleKind_0 = styleKind_1) (fe_0_165_1 : styleOne_0 = styleOne_1) (hE_0_1_1 : ∀ j : Int, tape_0 j = tape_1 j) (hK_0_1 : ∀ j : Int, 0 ≤ j → j < 2000 → (-128) ≤ tape_0 j ∧ tape_0 j ≤ 127) (hE_0_160_1 : ∀ j : Int, tokenKind_0 j = tokenKind_1 j) (hK_0_160 : ∀ j : Int, 0 ≤ j → j < 2010 → 0 ≤ tokenKind_0 j ∧ tokenKind_0 j ≤ 4) (hE_0_161_1 : ∀ j : Int, tokenValue_0 j = tokenValue_1 j) (hE_0_162_1 : ∀ j : Int, tokenPlace_0 j = tokenPlace_1 j) (hK_0_162 : ∀ j : Int, 0 ≤ j → j < 2010 → 0 ≤ tokenPlace_0 j ∧ tokenPlace_0 j ≤ 2000) (hE_0_163_1 : ∀ j : Int, tokenEnd_0 j = tokenEnd_1 j) (hK_0_163 : ∀ j : Int, 0 ≤ j → j < 2010 → 0 ≤ tokenEnd_0 j ∧ tokenEnd_0 j ≤ 2000) (kz_0_8 : 0 ≤ fault_0 ∧ fault_0 ≤ 5) (kz_0_10 : 0 ≤ limit_0 ∧ limit_0 ≤ 2000) (kz_0_157 : 0 ≤ tokens_0 ∧ tokens_0 ≤ 2010) (kz_0_158 : 0 ≤ cur_0 ∧ cur_0 ≤ 2009) (kz_0_159 : 0 ≤ opened_0 ∧ opened_0 ≤ 13) (kz_0_164 : 0 ≤ styleKind_0 ∧ styleKind_0 ≤ 1) (kz_0_165 : (-1) ≤ styleOne_0 ∧ styleOne_0 ≤ 47) (ex2 : gx = cur_0) (ex3 : 0 ≤ gx ∧ gx ≤ 2009) (ey2 : gy = fault_0) (ey3 : 0 ≤ gy ∧ gy ≤ 5) (eu2 : gu = opened_0) (eu3 : 0 ≤ gu ∧ gu ≤ 13) : 1 * cur_0 + ((-1) * gx + 0) ≤ 0 := by
  subst fe_0_8_1
  subst fe_0_10_1
  subst fe_0_157_1
  subst fe_0_159_1
  subst fe_0_164_1
  subst fe_0_165_1
  have e_hE_0_1_1 := funext hE_0_1_1; subst e_hE_0_1_1
  have e_hE_0_160_1 := funext hE_0_160_1; subst e_hE_0_160_1
  have e_hE_0_161_1 := funext hE_0_161_1; subst e_hE_0_161_1
  have e_hE_0_162_1 := funext hE_0_162_1; subst e_hE_0_162_1
  have e_hE_0_163_1 := funext hE_0_163_1; subst e_hE_0_163_1
  first | assumption | (clear f3 f12 f16 f19 f21 hE_0_1_1 hK_0_1 hE_0_160_1 hK_0_160 hE_0_161_1 hE_0_162_1 hK_0_162 hE_0_163_1 hK_0_163; omega) | (clear hE_0_1_1 hK_0_1 hE_0_160_1 hK_0_160 hE_0_161_1 hE_0_162_1 hK_0_162 hE_0_163_1 hK_0_163; grind) | omega | grind
set_option maxHeartbeats 4000000 in
theorem vc_Mo_product_at_f0_19_2 (x1 : Int) (x2 : Int) (x3 : Int) (x6 : Int) (x7 : Int) (x8 : Int) (x9 : Int) (x10 : Int) (x11 : Int) (x12 : Int) (x13 : Int) (x14 : Int) (x15 : Int) (cur_0 : Int) (fault_0 : Int) (styleKind_0 : Int) (styleOne_0 : Int) (opened_0 : Int) (cur_1 : Int) (tokenKind_1 : Int → Int) (tokenValue_1 : Int → Int) (fault_1 : Int) (tokens_1 : Int) (styleKind_1 : Int) (styleOne_1 : Int) (opened_1 : Int) (tokenPlace_1 : Int → Int) (tokenEnd_1 : Int → Int) (tape_1 : Int → Int) (limit_1 : Int) (limit_0 : Int) (tokens_0 : Int) (tape_0 : Int → Int) (tokenKind_0 : Int → Int) (tokenValue_0 : Int → Int) (tokenPlace_0 : Int → Int) (tokenEnd_0 : Int → Int) (gx : Int) (gy : Int) (gu : Int) (k1 : 0 ≤ x1 ∧ x1 ≤ 2009) (k2 : 0 ≤ x2 ∧ x2 ≤ 5) (k3 : 0 ≤ x3 ∧ x3 ≤ 13) (k6 : 0 ≤ x6 ∧ x6 ≤ 2009) (k7 : 0 ≤ x7 ∧ x7 ≤ 2010) (k8 : 42 ≤ x8 ∧ x8 ≤ 42) (k9 : 0 ≤ x9 ∧ x9 ≤ 5) (k10 : 1 ≤ x10 ∧ x10 ≤ 1) (k11 : 42 ≤ x11 ∧ x11 ≤ 42) (k12 : 0 ≤ x12 ∧ x12 ≤ 5) (k13 : 1 ≤ x13 ∧ x13 ≤ 1) (k14 : 1 ≤ x14 ∧ x14 ≤ 1) (k15 : 1 ≤ x15 ∧ x15 ≤ 2009) (d0 : x6 + 1 ≤ x15 ∧ x15 ≤ x6 + 1) (g0 : x15 = cur_0) (f1 : fault_0 = x12) (f2 : fault_0 = x9) (f3 : (styleKind_0 = 0) → (styleOne_0 ≤ 23)) (f4 : 1 * opened_0 + 0 ≤ 0) (f5 : (-1) * opened_0 + 0 ≤ 0) (f6 : 1 * x3 + 0 ≤ 0) (f7 : (-1) * x3 + 0 ≤ 0) (f10 : x15 = x6 + x14) (g11 : x6 = cur_1) (f12 : (x13 = 1) → (tokenKind_1 (cur_1) = 3)) (f13 : SGN (cur_1) (tokenKind_1) (tokenValue_1) (x11) (x13) (x12)) (f14 : fault_1 = x12) (f15 : x10 ≠ 0) (f16 : (x10 = 1) → (tokenKind_1 (cur_1) = 3)) (f17 : SGN (cur_1) (tokenKind_1) (tokenValue_1) (x8) (x10) (x9)) (f18 : fault_1 = x9) (f19 : ((cur_1 + 1) ≤ tokens_1) ∧ ((tokens_1 ≤ 2010) ∧ ((tokenKind_1 ((tokens_1 - 1)) = 0) ∨ (tokenKind_1 ((tokens_1 - 1)) = 4)))) (f20 : 1 * x1 + ((-1) * cur_1 + 0) ≤ 0) (f21 : (styleKind_1 = 0) → (styleOne_1 ≤ 23)) (f22 : 1 * opened_1 + 0 ≤ 0) (f23 : (-1) * opened_1 + 0 ≤ 0) (f24 : SPWv (fault_1) (cur_1) (styleKind_1) (limit_1) (tokenKind_1) (tokenValue_1) (tokenPlace_1) (tokenEnd_1) (tape_1) (x1) (x2) (x3)) (f25 : 1 * x3 + 0 ≤ 0) (f26 : (-1) * x3 + 0 ≤ 0) (f27 : 1 * x7 + (1 * cur_1 + 0) ≤ 2010) (f28 : (-1) * x7 + ((-1) * cur_1 + 0) ≤ (-2010)) (fe_0_8_1 : fault_0 = fault_1) (fe_0_10_1 : limit_0 = limit_1) (fe_0_157_1 : tokens_0 = tokens_1) (fe_0_158_1 : cur_0 = x15) (fe_0_159_1 : opened_0 = opened_1) (fe_0_164_1 : styleKind_0 = styleKind_1) (fe_0_165_1 : styleOne_0 = styleOne_1) (hE_0_1_1 : ∀ j : Int, tape_0 j = tape_1 j) (hK_0_1 : ∀ j : Int, 0 ≤ j → j < 2000 → (-128) ≤ tape_0 j ∧ tape_0 j ≤ 127) (hE_0_160_1 : ∀ j : Int, tokenKind_0 j = tokenKind_1 j) (hK_0_160 : ∀ j : Int, 0 ≤ j → j < 2010 → 0 ≤ tokenKind_0 j ∧ tokenKind_0 j ≤ 4) (hE_0_161_1 : ∀ j : Int, tokenValue_0 j = tokenValue_1 j) (hE_0_162_1 : ∀ j : Int, tokenPlace_0 j = tokenPlace_1 j) (hK_0_162 : ∀ j : Int, 0 ≤ j → j < 2010 → 0 ≤ tokenPlace_0 j ∧ tokenPlace_0 j ≤ 2000) (hE_0_163_1 : ∀ j : Int, tokenEnd_0 j = tokenEnd_1 j) (hK_0_163 : ∀ j : Int, 0 ≤ j → j < 2010 → 0 ≤ tokenEnd_0 j ∧ tokenEnd_0 j ≤ 2000) (kz_0_8 : 0 ≤ fault_0 ∧ fault_0 ≤ 5) (kz_0_10 : 0 ≤ limit_0 ∧ limit_0 ≤ 2000) (kz_0_157 : 0 ≤ tokens_0 ∧ tokens_0 ≤ 2010) (kz_0_158 : 0 ≤ cur_0 ∧ cur_0 ≤ 2009) (kz_0_159 : 0 ≤ opened_0 ∧ opened_0 ≤ 13) (kz_0_164 : 0 ≤ styleKind_0 ∧ styleKind_0 ≤ 1) (kz_0_165 : (-1) ≤ styleOne_0 ∧ styleOne_0 ≤ 47) (ex2 : gx = cur_0) (ex3 : 0 ≤ gx ∧ gx ≤ 2009) (ey2 : gy = fault_0) (ey3 : 0 ≤ gy ∧ gy ≤ 5) (eu2 : gu = opened_0) (eu3 : 0 ≤ gu ∧ gu ≤ 13) : (-1) * cur_0 + (1 * gx + 0) ≤ 0 := by
  subst fe_0_8_1
  subst fe_0_10_1
  subst fe_0_157_1
  subst fe_0_159_1
  subst fe_0_164_1
  subst fe_0_165_1
  have e_hE_0_1_1 := funext hE_0_1_1; subst e_hE_0_1_1
  have e_hE_0_160_1 := funext hE_0_160_1; subst e_hE_0_160_1
  have e_hE_0_161_1 := funext hE_0_161_1; subst e_hE_0_161_1
  have e_hE_0_162_1 := funext hE_0_162_1; subst e_hE_0_162_1
  have e_hE_0_163_1 := funext hE_0_163_1; subst e_hE_0_163_1
  first | assumption | (clear f3 f12 f16 f19 f21 hE_0_1_1 hK_0_1 hE_0_160_1 hK_0_160 hE_0_161_1 hE_0_162_1 hK_0_162 hE_0_163_1 hK_0_163; omega) | (clear hE_0_1_1 hK_0_1 hE_0_160_1 hK_0_160 hE_0_161_1 hE_0_162_1 hK_0_162 hE_0_163_1 hK_0_163; grind) | omega | grind
set_option maxHeartbeats 4000000 in
theorem vc_Mo_product_at_f0_19_3 (x1 : Int) (x2 : Int) (x3 : Int) (x6 : Int) (x7 : Int) (x8 : Int) (x9 : Int) (x10 : Int) (x11 : Int) (x12 : Int) (x13 : Int) (x14 : Int) (x15 : Int) (cur_0 : Int) (fault_0 : Int) (styleKind_0 : Int) (styleOne_0 : Int) (opened_0 : Int) (cur_1 : Int) (tokenKind_1 : Int → Int) (tokenValue_1 : Int → Int) (fault_1 : Int) (tokens_1 : Int) (styleKind_1 : Int) (styleOne_1 : Int) (opened_1 : Int) (tokenPlace_1 : Int → Int) (tokenEnd_1 : Int → Int) (tape_1 : Int → Int) (limit_1 : Int) (limit_0 : Int) (tokens_0 : Int) (tape_0 : Int → Int) (tokenKind_0 : Int → Int) (tokenValue_0 : Int → Int) (tokenPlace_0 : Int → Int) (tokenEnd_0 : Int → Int) (gx : Int) (gy : Int) (gu : Int) (k1 : 0 ≤ x1 ∧ x1 ≤ 2009) (k2 : 0 ≤ x2 ∧ x2 ≤ 5) (k3 : 0 ≤ x3 ∧ x3 ≤ 13) (k6 : 0 ≤ x6 ∧ x6 ≤ 2009) (k7 : 0 ≤ x7 ∧ x7 ≤ 2010) (k8 : 42 ≤ x8 ∧ x8 ≤ 42) (k9 : 0 ≤ x9 ∧ x9 ≤ 5) (k10 : 1 ≤ x10 ∧ x10 ≤ 1) (k11 : 42 ≤ x11 ∧ x11 ≤ 42) (k12 : 0 ≤ x12 ∧ x12 ≤ 5) (k13 : 1 ≤ x13 ∧ x13 ≤ 1) (k14 : 1 ≤ x14 ∧ x14 ≤ 1) (k15 : 1 ≤ x15 ∧ x15 ≤ 2009) (d0 : x6 + 1 ≤ x15 ∧ x15 ≤ x6 + 1) (g0 : x15 = cur_0) (f1 : fault_0 = x12) (f2 : fault_0 = x9) (f3 : (styleKind_0 = 0) → (styleOne_0 ≤ 23)) (f4 : 1 * opened_0 + 0 ≤ 0) (f5 : (-1) * opened_0 + 0 ≤ 0) (f6 : 1 * x3 + 0 ≤ 0) (f7 : (-1) * x3 + 0 ≤ 0) (f10 : x15 = x6 + x14) (g11 : x6 = cur_1) (f12 : (x13 = 1) → (tokenKind_1 (cur_1) = 3)) (f13 : SGN (cur_1) (tokenKind_1) (tokenValue_1) (x11) (x13) (x12)) (f14 : fault_1 = x12) (f15 : x10 ≠ 0) (f16 : (x10 = 1) → (tokenKind_1 (cur_1) = 3)) (f17 : SGN (cur_1) (tokenKind_1) (tokenValue_1) (x8) (x10) (x9)) (f18 : fault_1 = x9) (f19 : ((cur_1 + 1) ≤ tokens_1) ∧ ((tokens_1 ≤ 2010) ∧ ((tokenKind_1 ((tokens_1 - 1)) = 0) ∨ (tokenKind_1 ((tokens_1 - 1)) = 4)))) (f20 : 1 * x1 + ((-1) * cur_1 + 0) ≤ 0) (f21 : (styleKind_1 = 0) → (styleOne_1 ≤ 23)) (f22 : 1 * opened_1 + 0 ≤ 0) (f23 : (-1) * opened_1 + 0 ≤ 0) (f24 : SPWv (fault_1) (cur_1) (styleKind_1) (limit_1) (tokenKind_1) (tokenValue_1) (tokenPlace_1) (tokenEnd_1) (tape_1) (x1) (x2) (x3)) (f25 : 1 * x3 + 0 ≤ 0) (f26 : (-1) * x3 + 0 ≤ 0) (f27 : 1 * x7 + (1 * cur_1 + 0) ≤ 2010) (f28 : (-1) * x7 + ((-1) * cur_1 + 0) ≤ (-2010)) (fe_0_8_1 : fault_0 = fault_1) (fe_0_10_1 : limit_0 = limit_1) (fe_0_157_1 : tokens_0 = tokens_1) (fe_0_158_1 : cur_0 = x15) (fe_0_159_1 : opened_0 = opened_1) (fe_0_164_1 : styleKind_0 = styleKind_1) (fe_0_165_1 : styleOne_0 = styleOne_1) (hE_0_1_1 : ∀ j : Int, tape_0 j = tape_1 j) (hK_0_1 : ∀ j : Int, 0 ≤ j → j < 2000 → (-128) ≤ tape_0 j ∧ tape_0 j ≤ 127) (hE_0_160_1 : ∀ j : Int, tokenKind_0 j = tokenKind_1 j) (hK_0_160 : ∀ j : Int, 0 ≤ j → j < 2010 → 0 ≤ tokenKind_0 j ∧ tokenKind_0 j ≤ 4) (hE_0_161_1 : ∀ j : Int, tokenValue_0 j = tokenValue_1 j) (hE_0_162_1 : ∀ j : Int, tokenPlace_0 j = tokenPlace_1 j) (hK_0_162 : ∀ j : Int, 0 ≤ j → j < 2010 → 0 ≤ tokenPlace_0 j ∧ tokenPlace_0 j ≤ 2000) (hE_0_163_1 : ∀ j : Int, tokenEnd_0 j = tokenEnd_1 j) (hK_0_163 : ∀ j : Int, 0 ≤ j → j < 2010 → 0 ≤ tokenEnd_0 j ∧ tokenEnd_0 j ≤ 2000) (kz_0_8 : 0 ≤ fault_0 ∧ fault_0 ≤ 5) (kz_0_10 : 0 ≤ limit_0 ∧ limit_0 ≤ 2000) (kz_0_157 : 0 ≤ tokens_0 ∧ tokens_0 ≤ 2010) (kz_0_158 : 0 ≤ cur_0 ∧ cur_0 ≤ 2009) (kz_0_159 : 0 ≤ opened_0 ∧ opened_0 ≤ 13) (kz_0_164 : 0 ≤ styleKind_0 ∧ styleKind_0 ≤ 1) (kz_0_165 : (-1) ≤ styleOne_0 ∧ styleOne_0 ≤ 47) (ex2 : gx = cur_0) (ex3 : 0 ≤ gx ∧ gx ≤ 2009) (ey2 : gy = fault_0) (ey3 : 0 ≤ gy ∧ gy ≤ 5) (eu2 : gu = opened_0) (eu3 : 0 ≤ gu ∧ gu ≤ 13) : (styleKind_0 = 0) → (styleOne_0 ≤ 23) := by
  subst fe_0_8_1
  subst fe_0_10_1
  subst fe_0_157_1
  subst fe_0_159_1
  subst fe_0_164_1
  subst fe_0_165_1
  have e_hE_0_1_1 := funext hE_0_1_1; subst e_hE_0_1_1
  have e_hE_0_160_1 := funext hE_0_160_1; subst e_hE_0_160_1
  have e_hE_0_161_1 := funext hE_0_161_1; subst e_hE_0_161_1
  have e_hE_0_162_1 := funext hE_0_162_1; subst e_hE_0_162_1
  have e_hE_0_163_1 := funext hE_0_163_1; subst e_hE_0_163_1
  first | assumption | (clear f3 f12 f16 f19 f21 hE_0_1_1 hK_0_1 hE_0_160_1 hK_0_160 hE_0_161_1 hE_0_162_1 hK_0_162 hE_0_163_1 hK_0_163; omega) | (clear hE_0_1_1 hK_0_1 hE_0_160_1 hK_0_160 hE_0_161_1 hE_0_162_1 hK_0_162 hE_0_163_1 hK_0_163; grind) | omega | grind
set_option maxHeartbeats 4000000 in
theorem vc_Mo_product_at_f0_19_4 (x1 : Int) (x2 : Int) (x3 : Int) (x6 : Int) (x7 : Int) (x8 : Int) (x9 : Int) (x10 : Int) (x11 : Int) (x12 : Int) (x13 : Int) (x14 : Int) (x15 : Int) (cur_0 : Int) (fault_0 : Int) (styleKind_0 : Int) (styleOne_0 : Int) (opened_0 : Int) (cur_1 : Int) (tokenKind_1 : Int → Int) (tokenValue_1 : Int → Int) (fault_1 : Int) (tokens_1 : Int) (styleKind_1 : Int) (styleOne_1 : Int) (opened_1 : Int) (tokenPlace_1 : Int → Int) (tokenEnd_1 : Int → Int) (tape_1 : Int → Int) (limit_1 : Int) (limit_0 : Int) (tokens_0 : Int) (tape_0 : Int → Int) (tokenKind_0 : Int → Int) (tokenValue_0 : Int → Int) (tokenPlace_0 : Int → Int) (tokenEnd_0 : Int → Int) (gx : Int) (gy : Int) (gu : Int) (k1 : 0 ≤ x1 ∧ x1 ≤ 2009) (k2 : 0 ≤ x2 ∧ x2 ≤ 5) (k3 : 0 ≤ x3 ∧ x3 ≤ 13) (k6 : 0 ≤ x6 ∧ x6 ≤ 2009) (k7 : 0 ≤ x7 ∧ x7 ≤ 2010) (k8 : 42 ≤ x8 ∧ x8 ≤ 42) (k9 : 0 ≤ x9 ∧ x9 ≤ 5) (k10 : 1 ≤ x10 ∧ x10 ≤ 1) (k11 : 42 ≤ x11 ∧ x11 ≤ 42) (k12 : 0 ≤ x12 ∧ x12 ≤ 5) (k13 : 1 ≤ x13 ∧ x13 ≤ 1) (k14 : 1 ≤ x14 ∧ x14 ≤ 1) (k15 : 1 ≤ x15 ∧ x15 ≤ 2009) (d0 : x6 + 1 ≤ x15 ∧ x15 ≤ x6 + 1) (g0 : x15 = cur_0) (f1 : fault_0 = x12) (f2 : fault_0 = x9) (f3 : (styleKind_0 = 0) → (styleOne_0 ≤ 23)) (f4 : 1 * opened_0 + 0 ≤ 0) (f5 : (-1) * opened_0 + 0 ≤ 0) (f6 : 1 * x3 + 0 ≤ 0) (f7 : (-1) * x3 + 0 ≤ 0) (f10 : x15 = x6 + x14) (g11 : x6 = cur_1) (f12 : (x13 = 1) → (tokenKind_1 (cur_1) = 3)) (f13 : SGN (cur_1) (tokenKind_1) (tokenValue_1) (x11) (x13) (x12)) (f14 : fault_1 = x12) (f15 : x10 ≠ 0) (f16 : (x10 = 1) → (tokenKind_1 (cur_1) = 3)) (f17 : SGN (cur_1) (tokenKind_1) (tokenValue_1) (x8) (x10) (x9)) (f18 : fault_1 = x9) (f19 : ((cur_1 + 1) ≤ tokens_1) ∧ ((tokens_1 ≤ 2010) ∧ ((tokenKind_1 ((tokens_1 - 1)) = 0) ∨ (tokenKind_1 ((tokens_1 - 1)) = 4)))) (f20 : 1 * x1 + ((-1) * cur_1 + 0) ≤ 0) (f21 : (styleKind_1 = 0) → (styleOne_1 ≤ 23)) (f22 : 1 * opened_1 + 0 ≤ 0) (f23 : (-1) * opened_1 + 0 ≤ 0) (f24 : SPWv (fault_1) (cur_1) (styleKind_1) (limit_1) (tokenKind_1) (tokenValue_1) (tokenPlace_1) (tokenEnd_1) (tape_1) (x1) (x2) (x3)) (f25 : 1 * x3 + 0 ≤ 0) (f26 : (-1) * x3 + 0 ≤ 0) (f27 : 1 * x7 + (1 * cur_1 + 0) ≤ 2010) (f28 : (-1) * x7 + ((-1) * cur_1 + 0) ≤ (-2010)) (fe_0_8_1 : fault_0 = fault_1) (fe_0_10_1 : limit_0 = limit_1) (fe_0_157_1 : tokens_0 = tokens_1) (fe_0_158_1 : cur_0 = x15) (fe_0_159_1 : opened_0 = opened_1) (fe_0_164_1 : styleKind_0 = styleKind_1) (fe_0_165_1 : styleOne_0 = styleOne_1) (hE_0_1_1 : ∀ j : Int, tape_0 j = tape_1 j) (hK_0_1 : ∀ j : Int, 0 ≤ j → j < 2000 → (-128) ≤ tape_0 j ∧ tape_0 j ≤ 127) (hE_0_160_1 : ∀ j : Int, tokenKind_0 j = tokenKind_1 j) (hK_0_160 : ∀ j : Int, 0 ≤ j → j < 2010 → 0 ≤ tokenKind_0 j ∧ tokenKind_0 j ≤ 4) (hE_0_161_1 : ∀ j : Int, tokenValue_0 j = tokenValue_1 j) (hE_0_162_1 : ∀ j : Int, tokenPlace_0 j = tokenPlace_1 j) (hK_0_162 : ∀ j : Int, 0 ≤ j → j < 2010 → 0 ≤ tokenPlace_0 j ∧ tokenPlace_0 j ≤ 2000) (hE_0_163_1 : ∀ j : Int, tokenEnd_0 j = tokenEnd_1 j) (hK_0_163 : ∀ j : Int, 0 ≤ j → j < 2010 → 0 ≤ tokenEnd_0 j ∧ tokenEnd_0 j ≤ 2000) (kz_0_8 : 0 ≤ fault_0 ∧ fault_0 ≤ 5) (kz_0_10 : 0 ≤ limit_0 ∧ limit_0 ≤ 2000) (kz_0_157 : 0 ≤ tokens_0 ∧ tokens_0 ≤ 2010) (kz_0_158 : 0 ≤ cur_0 ∧ cur_0 ≤ 2009) (kz_0_159 : 0 ≤ opened_0 ∧ opened_0 ≤ 13) (kz_0_164 : 0 ≤ styleKind_0 ∧ styleKind_0 ≤ 1) (kz_0_165 : (-1) ≤ styleOne_0 ∧ styleOne_0 ≤ 47) (ex2 : gx = cur_0) (ex3 : 0 ≤ gx ∧ gx ≤ 2009) (ey2 : gy = fault_0) (ey3 : 0 ≤ gy ∧ gy ≤ 5) (eu2 : gu = opened_0) (eu3 : 0 ≤ gu ∧ gu ≤ 13) : 1 * opened_0 + 0 ≤ 0 := by
  subst fe_0_8_1
  subst fe_0_10_1
  subst fe_0_157_1
  subst fe_0_159_1
  subst fe_0_164_1
  subst fe_0_165_1
  have e_hE_0_1_1 := funext hE_0_1_1; subst e_hE_0_1_1
  have e_hE_0_160_1 := funext hE_0_160_1; subst e_hE_0_160_1
  have e_hE_0_161_1 := funext hE_0_161_1; subst e_hE_0_161_1
  have e_hE_0_162_1 := funext hE_0_162_1; subst e_hE_0_162_1
  have e_hE_0_163_1 := funext hE_0_163_1; subst e_hE_0_163_1
  first | assumption | (clear f3 f12 f16 f19 f21 hE_0_1_1 hK_0_1 hE_0_160_1 hK_0_160 hE_0_161_1 hE_0_162_1 hK_0_162 hE_0_163_1 hK_0_163; omega) | (clear hE_0_1_1 hK_0_1 hE_0_160_1 hK_0_160 hE_0_161_1 hE_0_162_1 hK_0_162 hE_0_163_1 hK_0_163; grind) | omega | grind
set_option maxHeartbeats 4000000 in
theorem vc_Mo_product_at_f0_19_5 (x1 : Int) (x2 : Int) (x3 : Int) (x6 : Int) (x7 : Int) (x8 : Int) (x9 : Int) (x10 : Int) (x11 : Int) (x12 : Int) (x13 : Int) (x14 : Int) (x15 : Int) (cur_0 : Int) (fault_0 : Int) (styleKind_0 : Int) (styleOne_0 : Int) (opened_0 : Int) (cur_1 : Int) (tokenKind_1 : Int → Int) (tokenValue_1 : Int → Int) (fault_1 : Int) (tokens_1 : Int) (styleKind_1 : Int) (styleOne_1 : Int) (opened_1 : Int) (tokenPlace_1 : Int → Int) (tokenEnd_1 : Int → Int) (tape_1 : Int → Int) (limit_1 : Int) (limit_0 : Int) (tokens_0 : Int) (tape_0 : Int → Int) (tokenKind_0 : Int → Int) (tokenValue_0 : Int → Int) (tokenPlace_0 : Int → Int) (tokenEnd_0 : Int → Int) (gx : Int) (gy : Int) (gu : Int) (k1 : 0 ≤ x1 ∧ x1 ≤ 2009) (k2 : 0 ≤ x2 ∧ x2 ≤ 5) (k3 : 0 ≤ x3 ∧ x3 ≤ 13) (k6 : 0 ≤ x6 ∧ x6 ≤ 2009) (k7 : 0 ≤ x7 ∧ x7 ≤ 2010) (k8 : 42 ≤ x8 ∧ x8 ≤ 42) (k9 : 0 ≤ x9 ∧ x9 ≤ 5) (k10 : 1 ≤ x10 ∧ x10 ≤ 1) (k11 : 42 ≤ x11 ∧ x11 ≤ 42) (k12 : 0 ≤ x12 ∧ x12 ≤ 5) (k13 : 1 ≤ x13 ∧ x13 ≤ 1) (k14 : 1 ≤ x14 ∧ x14 ≤ 1) (k15 : 1 ≤ x15 ∧ x15 ≤ 2009) (d0 : x6 + 1 ≤ x15 ∧ x15 ≤ x6 + 1) (g0 : x15 = cur_0) (f1 : fault_0 = x12) (f2 : fault_0 = x9) (f3 : (styleKind_0 = 0) → (styleOne_0 ≤ 23)) (f4 : 1 * opened_0 + 0 ≤ 0) (f5 : (-1) * opened_0 + 0 ≤ 0) (f6 : 1 * x3 + 0 ≤ 0) (f7 : (-1) * x3 + 0 ≤ 0) (f10 : x15 = x6 + x14) (g11 : x6 = cur_1) (f12 : (x13 = 1) → (tokenKind_1 (cur_1) = 3)) (f13 : SGN (cur_1) (tokenKind_1) (tokenValue_1) (x11) (x13) (x12)) (f14 : fault_1 = x12) (f15 : x10 ≠ 0) (f16 : (x10 = 1) → (tokenKind_1 (cur_1) = 3)) (f17 : SGN (cur_1) (tokenKind_1) (tokenValue_1) (x8) (x10) (x9)) (f18 : fault_1 = x9) (f19 : ((cur_1 + 1) ≤ tokens_1) ∧ ((tokens_1 ≤ 2010) ∧ ((tokenKind_1 ((tokens_1 - 1)) = 0) ∨ (tokenKind_1 ((tokens_1 - 1)) = 4)))) (f20 : 1 * x1 + ((-1) * cur_1 + 0) ≤ 0) (f21 : (styleKind_1 = 0) → (styleOne_1 ≤ 23)) (f22 : 1 * opened_1 + 0 ≤ 0) (f23 : (-1) * opened_1 + 0 ≤ 0) (f24 : SPWv (fault_1) (cur_1) (styleKind_1) (limit_1) (tokenKind_1) (tokenValue_1) (tokenPlace_1) (tokenEnd_1) (tape_1) (x1) (x2) (x3)) (f25 : 1 * x3 + 0 ≤ 0) (f26 : (-1) * x3 + 0 ≤ 0) (f27 : 1 * x7 + (1 * cur_1 + 0) ≤ 2010) (f28 : (-1) * x7 + ((-1) * cur_1 + 0) ≤ (-2010)) (fe_0_8_1 : fault_0 = fault_1) (fe_0_10_1 : limit_0 = limit_1) (fe_0_157_1 : tokens_0 = tokens_1) (fe_0_158_1 : cur_0 = x15) (fe_0_159_1 : opened_0 = opened_1) (fe_0_164_1 : styleKind_0 = styleKind_1) (fe_0_165_1 : styleOne_0 = styleOne_1) (hE_0_1_1 : ∀ j : Int, tape_0 j = tape_1 j) (hK_0_1 : ∀ j : Int, 0 ≤ j → j < 2000 → (-128) ≤ tape_0 j ∧ tape_0 j ≤ 127) (hE_0_160_1 : ∀ j : Int, tokenKind_0 j = tokenKind_1 j) (hK_0_160 : ∀ j : Int, 0 ≤ j → j < 2010 → 0 ≤ tokenKind_0 j ∧ tokenKind_0 j ≤ 4) (hE_0_161_1 : ∀ j : Int, tokenValue_0 j = tokenValue_1 j) (hE_0_162_1 : ∀ j : Int, tokenPlace_0 j = tokenPlace_1 j) (hK_0_162 : ∀ j : Int, 0 ≤ j → j < 2010 → 0 ≤ tokenPlace_0 j ∧ tokenPlace_0 j ≤ 2000) (hE_0_163_1 : ∀ j : Int, tokenEnd_0 j = tokenEnd_1 j) (hK_0_163 : ∀ j : Int, 0 ≤ j → j < 2010 → 0 ≤ tokenEnd_0 j ∧ tokenEnd_0 j ≤ 2000) (kz_0_8 : 0 ≤ fault_0 ∧ fault_0 ≤ 5) (kz_0_10 : 0 ≤ limit_0 ∧ limit_0 ≤ 2000) (kz_0_157 : 0 ≤ tokens_0 ∧ tokens_0 ≤ 2010) (kz_0_158 : 0 ≤ cur_0 ∧ cur_0 ≤ 2009) (kz_0_159 : 0 ≤ opened_0 ∧ opened_0 ≤ 13) (kz_0_164 : 0 ≤ styleKind_0 ∧ styleKind_0 ≤ 1) (kz_0_165 : (-1) ≤ styleOne_0 ∧ styleOne_0 ≤ 47) (ex2 : gx = cur_0) (ex3 : 0 ≤ gx ∧ gx ≤ 2009) (ey2 : gy = fault_0) (ey3 : 0 ≤ gy ∧ gy ≤ 5) (eu2 : gu = opened_0) (eu3 : 0 ≤ gu ∧ gu ≤ 13) : (-1) * opened_0 + 0 ≤ 0 := by
  subst fe_0_8_1
  subst fe_0_10_1
  subst fe_0_157_1
  subst fe_0_159_1
  subst fe_0_164_1
  subst fe_0_165_1
  have e_hE_0_1_1 := funext hE_0_1_1; subst e_hE_0_1_1
  have e_hE_0_160_1 := funext hE_0_160_1; subst e_hE_0_160_1
  have e_hE_0_161_1 := funext hE_0_161_1; subst e_hE_0_161_1
  have e_hE_0_162_1 := funext hE_0_162_1; subst e_hE_0_162_1
  have e_hE_0_163_1 := funext hE_0_163_1; subst e_hE_0_163_1
  first | assumption | (clear f3 f12 f16 f19 f21 hE_0_1_1 hK_0_1 hE_0_160_1 hK_0_160 hE_0_161_1 hE_0_162_1 hK_0_162 hE_0_163_1 hK_0_163; omega) | (clear hE_0_1_1 hK_0_1 hE_0_160_1 hK_0_160 hE_0_161_1 hE_0_162_1 hK_0_162 hE_0_163_1 hK_0_163; grind) | omega | grind
set_option maxHeartbeats 4000000 in
theorem vc_Mo_product_at_f0_19_6 (x1 : Int) (x2 : Int) (x3 : Int) (x6 : Int) (x7 : Int) (x8 : Int) (x9 : Int) (x10 : Int) (x11 : Int) (x12 : Int) (x13 : Int) (x14 : Int) (x15 : Int) (cur_0 : Int) (fault_0 : Int) (styleKind_0 : Int) (styleOne_0 : Int) (opened_0 : Int) (cur_1 : Int) (tokenKind_1 : Int → Int) (tokenValue_1 : Int → Int) (fault_1 : Int) (tokens_1 : Int) (styleKind_1 : Int) (styleOne_1 : Int) (opened_1 : Int) (tokenPlace_1 : Int → Int) (tokenEnd_1 : Int → Int) (tape_1 : Int → Int) (limit_1 : Int) (limit_0 : Int) (tokens_0 : Int) (tape_0 : Int → Int) (tokenKind_0 : Int → Int) (tokenValue_0 : Int → Int) (tokenPlace_0 : Int → Int) (tokenEnd_0 : Int → Int) (gx : Int) (gy : Int) (gu : Int) (k1 : 0 ≤ x1 ∧ x1 ≤ 2009) (k2 : 0 ≤ x2 ∧ x2 ≤ 5) (k3 : 0 ≤ x3 ∧ x3 ≤ 13) (k6 : 0 ≤ x6 ∧ x6 ≤ 2009) (k7 : 0 ≤ x7 ∧ x7 ≤ 2010) (k8 : 42 ≤ x8 ∧ x8 ≤ 42) (k9 : 0 ≤ x9 ∧ x9 ≤ 5) (k10 : 1 ≤ x10 ∧ x10 ≤ 1) (k11 : 42 ≤ x11 ∧ x11 ≤ 42) (k12 : 0 ≤ x12 ∧ x12 ≤ 5) (k13 : 1 ≤ x13 ∧ x13 ≤ 1) (k14 : 1 ≤ x14 ∧ x14 ≤ 1) (k15 : 1 ≤ x15 ∧ x15 ≤ 2009) (d0 : x6 + 1 ≤ x15 ∧ x15 ≤ x6 + 1) (g0 : x15 = cur_0) (f1 : fault_0 = x12) (f2 : fault_0 = x9) (f3 : (styleKind_0 = 0) → (styleOne_0 ≤ 23)) (f4 : 1 * opened_0 + 0 ≤ 0) (f5 : (-1) * opened_0 + 0 ≤ 0) (f6 : 1 * x3 + 0 ≤ 0) (f7 : (-1) * x3 + 0 ≤ 0) (f10 : x15 = x6 + x14) (g11 : x6 = cur_1) (f12 : (x13 = 1) → (tokenKind_1 (cur_1) = 3)) (f13 : SGN (cur_1) (tokenKind_1) (tokenValue_1) (x11) (x13) (x12)) (f14 : fault_1 = x12) (f15 : x10 ≠ 0) (f16 : (x10 = 1) → (tokenKind_1 (cur_1) = 3)) (f17 : SGN (cur_1) (tokenKind_1) (tokenValue_1) (x8) (x10) (x9)) (f18 : fault_1 = x9) (f19 : ((cur_1 + 1) ≤ tokens_1) ∧ ((tokens_1 ≤ 2010) ∧ ((tokenKind_1 ((tokens_1 - 1)) = 0) ∨ (tokenKind_1 ((tokens_1 - 1)) = 4)))) (f20 : 1 * x1 + ((-1) * cur_1 + 0) ≤ 0) (f21 : (styleKind_1 = 0) → (styleOne_1 ≤ 23)) (f22 : 1 * opened_1 + 0 ≤ 0) (f23 : (-1) * opened_1 + 0 ≤ 0) (f24 : SPWv (fault_1) (cur_1) (styleKind_1) (limit_1) (tokenKind_1) (tokenValue_1) (tokenPlace_1) (tokenEnd_1) (tape_1) (x1) (x2) (x3)) (f25 : 1 * x3 + 0 ≤ 0) (f26 : (-1) * x3 + 0 ≤ 0) (f27 : 1 * x7 + (1 * cur_1 + 0) ≤ 2010) (f28 : (-1) * x7 + ((-1) * cur_1 + 0) ≤ (-2010)) (fe_0_8_1 : fault_0 = fault_1) (fe_0_10_1 : limit_0 = limit_1) (fe_0_157_1 : tokens_0 = tokens_1) (fe_0_158_1 : cur_0 = x15) (fe_0_159_1 : opened_0 = opened_1) (fe_0_164_1 : styleKind_0 = styleKind_1) (fe_0_165_1 : styleOne_0 = styleOne_1) (hE_0_1_1 : ∀ j : Int, tape_0 j = tape_1 j) (hK_0_1 : ∀ j : Int, 0 ≤ j → j < 2000 → (-128) ≤ tape_0 j ∧ tape_0 j ≤ 127) (hE_0_160_1 : ∀ j : Int, tokenKind_0 j = tokenKind_1 j) (hK_0_160 : ∀ j : Int, 0 ≤ j → j < 2010 → 0 ≤ tokenKind_0 j ∧ tokenKind_0 j ≤ 4) (hE_0_161_1 : ∀ j : Int, tokenValue_0 j = tokenValue_1 j) (hE_0_162_1 : ∀ j : Int, tokenPlace_0 j = tokenPlace_1 j) (hK_0_162 : ∀ j : Int, 0 ≤ j → j < 2010 → 0 ≤ tokenPlace_0 j ∧ tokenPlace_0 j ≤ 2000) (hE_0_163_1 : ∀ j : Int, tokenEnd_0 j = tokenEnd_1 j) (hK_0_163 : ∀ j : Int, 0 ≤ j → j < 2010 → 0 ≤ tokenEnd_0 j ∧ tokenEnd_0 j ≤ 2000) (kz_0_8 : 0 ≤ fault_0 ∧ fault_0 ≤ 5) (kz_0_10 : 0 ≤ limit_0 ∧ limit_0 ≤ 2000) (kz_0_157 : 0 ≤ tokens_0 ∧ tokens_0 ≤ 2010) (kz_0_158 : 0 ≤ cur_0 ∧ cur_0 ≤ 2009) (kz_0_159 : 0 ≤ opened_0 ∧ opened_0 ≤ 13) (kz_0_164 : 0 ≤ styleKind_0 ∧ styleKind_0 ≤ 1) (kz_0_165 : (-1) ≤ styleOne_0 ∧ styleOne_0 ≤ 47) (ex2 : gx = cur_0) (ex3 : 0 ≤ gx ∧ gx ≤ 2009) (ey2 : gy = fault_0) (ey3 : 0 ≤ gy ∧ gy ≤ 5) (eu2 : gu = opened_0) (eu3 : 0 ≤ gu ∧ gu ≤ 13) : fault_0 = gy := by
  subst fe_0_8_1
  subst fe_0_10_1
  subst fe_0_157_1
  subst fe_0_159_1
  subst fe_0_164_1
  subst fe_0_165_1
  have e_hE_0_1_1 := funext hE_0_1_1; subst e_hE_0_1_1
  have e_hE_0_160_1 := funext hE_0_160_1; subst e_hE_0_160_1
  have e_hE_0_161_1 := funext hE_0_161_1; subst e_hE_0_161_1
  have e_hE_0_162_1 := funext hE_0_162_1; subst e_hE_0_162_1
  have e_hE_0_163_1 := funext hE_0_163_1; subst e_hE_0_163_1
  first | assumption | (clear f3 f12 f16 f19 f21 hE_0_1_1 hK_0_1 hE_0_160_1 hK_0_160 hE_0_161_1 hE_0_162_1 hK_0_162 hE_0_163_1 hK_0_163; omega) | (clear hE_0_1_1 hK_0_1 hE_0_160_1 hK_0_160 hE_0_161_1 hE_0_162_1 hK_0_162 hE_0_163_1 hK_0_163; grind) | omega | grind
set_option maxHeartbeats 4000000 in
theorem vc_Mo_product_at_f0_19_7 (x1 : Int) (x2 : Int) (x3 : Int) (x6 : Int) (x7 : Int) (x8 : Int) (x9 : Int) (x10 : Int) (x11 : Int) (x12 : Int) (x13 : Int) (x14 : Int) (x15 : Int) (cur_0 : Int) (fault_0 : Int) (styleKind_0 : Int) (styleOne_0 : Int) (opened_0 : Int) (cur_1 : Int) (tokenKind_1 : Int → Int) (tokenValue_1 : Int → Int) (fault_1 : Int) (tokens_1 : Int) (styleKind_1 : Int) (styleOne_1 : Int) (opened_1 : Int) (tokenPlace_1 : Int → Int) (tokenEnd_1 : Int → Int) (tape_1 : Int → Int) (limit_1 : Int) (limit_0 : Int) (tokens_0 : Int) (tape_0 : Int → Int) (tokenKind_0 : Int → Int) (tokenValue_0 : Int → Int) (tokenPlace_0 : Int → Int) (tokenEnd_0 : Int → Int) (gx : Int) (gy : Int) (gu : Int) (k1 : 0 ≤ x1 ∧ x1 ≤ 2009) (k2 : 0 ≤ x2 ∧ x2 ≤ 5) (k3 : 0 ≤ x3 ∧ x3 ≤ 13) (k6 : 0 ≤ x6 ∧ x6 ≤ 2009) (k7 : 0 ≤ x7 ∧ x7 ≤ 2010) (k8 : 42 ≤ x8 ∧ x8 ≤ 42) (k9 : 0 ≤ x9 ∧ x9 ≤ 5) (k10 : 1 ≤ x10 ∧ x10 ≤ 1) (k11 : 42 ≤ x11 ∧ x11 ≤ 42) (k12 : 0 ≤ x12 ∧ x12 ≤ 5) (k13 : 1 ≤ x13 ∧ x13 ≤ 1) (k14 : 1 ≤ x14 ∧ x14 ≤ 1) (k15 : 1 ≤ x15 ∧ x15 ≤ 2009) (d0 : x6 + 1 ≤ x15 ∧ x15 ≤ x6 + 1) (g0 : x15 = cur_0) (f1 : fault_0 = x12) (f2 : fault_0 = x9) (f3 : (styleKind_0 = 0) → (styleOne_0 ≤ 23)) (f4 : 1 * opened_0 + 0 ≤ 0) (f5 : (-1) * opened_0 + 0 ≤ 0) (f6 : 1 * x3 + 0 ≤ 0) (f7 : (-1) * x3 + 0 ≤ 0) (f10 : x15 = x6 + x14) (g11 : x6 = cur_1) (f12 : (x13 = 1) → (tokenKind_1 (cur_1) = 3)) (f13 : SGN (cur_1) (tokenKind_1) (tokenValue_1) (x11) (x13) (x12)) (f14 : fault_1 = x12) (f15 : x10 ≠ 0) (f16 : (x10 = 1) → (tokenKind_1 (cur_1) = 3)) (f17 : SGN (cur_1) (tokenKind_1) (tokenValue_1) (x8) (x10) (x9)) (f18 : fault_1 = x9) (f19 : ((cur_1 + 1) ≤ tokens_1) ∧ ((tokens_1 ≤ 2010) ∧ ((tokenKind_1 ((tokens_1 - 1)) = 0) ∨ (tokenKind_1 ((tokens_1 - 1)) = 4)))) (f20 : 1 * x1 + ((-1) * cur_1 + 0) ≤ 0) (f21 : (styleKind_1 = 0) → (styleOne_1 ≤ 23)) (f22 : 1 * opened_1 + 0 ≤ 0) (f23 : (-1) * opened_1 + 0 ≤ 0) (f24 : SPWv (fault_1) (cur_1) (styleKind_1) (limit_1) (tokenKind_1) (tokenValue_1) (tokenPlace_1) (tokenEnd_1) (tape_1) (x1) (x2) (x3)) (f25 : 1 * x3 + 0 ≤ 0) (f26 : (-1) * x3 + 0 ≤ 0) (f27 : 1 * x7 + (1 * cur_1 + 0) ≤ 2010) (f28 : (-1) * x7 + ((-1) * cur_1 + 0) ≤ (-2010)) (fe_0_8_1 : fault_0 = fault_1) (fe_0_10_1 : limit_0 = limit_1) (fe_0_157_1 : tokens_0 = tokens_1) (fe_0_158_1 : cur_0 = x15) (fe_0_159_1 : opened_0 = opened_1) (fe_0_164_1 : styleKind_0 = styleKind_1) (fe_0_165_1 : styleOne_0 = styleOne_1) (hE_0_1_1 : ∀ j : Int, tape_0 j = tape_1 j) (hK_0_1 : ∀ j : Int, 0 ≤ j → j < 2000 → (-128) ≤ tape_0 j ∧ tape_0 j ≤ 127) (hE_0_160_1 : ∀ j : Int, tokenKind_0 j = tokenKind_1 j) (hK_0_160 : ∀ j : Int, 0 ≤ j → j < 2010 → 0 ≤ tokenKind_0 j ∧ tokenKind_0 j ≤ 4) (hE_0_161_1 : ∀ j : Int, tokenValue_0 j = tokenValue_1 j) (hE_0_162_1 : ∀ j : Int, tokenPlace_0 j = tokenPlace_1 j) (hK_0_162 : ∀ j : Int, 0 ≤ j → j < 2010 → 0 ≤ tokenPlace_0 j ∧ tokenPlace_0 j ≤ 2000) (hE_0_163_1 : ∀ j : Int, tokenEnd_0 j = tokenEnd_1 j) (hK_0_163 : ∀ j : Int, 0 ≤ j → j < 2010 → 0 ≤ tokenEnd_0 j ∧ tokenEnd_0 j ≤ 2000) (kz_0_8 : 0 ≤ fault_0 ∧ fault_0 ≤ 5) (kz_0_10 : 0 ≤ limit_0 ∧ limit_0 ≤ 2000) (kz_0_157 : 0 ≤ tokens_0 ∧ tokens_0 ≤ 2010) (kz_0_158 : 0 ≤ cur_0 ∧ cur_0 ≤ 2009) (kz_0_159 : 0 ≤ opened_0 ∧ opened_0 ≤ 13) (kz_0_164 : 0 ≤ styleKind_0 ∧ styleKind_0 ≤ 1) (kz_0_165 : (-1) ≤ styleOne_0 ∧ styleOne_0 ≤ 47) (ex2 : gx = cur_0) (ex3 : 0 ≤ gx ∧ gx ≤ 2009) (ey2 : gy = fault_0) (ey3 : 0 ≤ gy ∧ gy ≤ 5) (eu2 : gu = opened_0) (eu3 : 0 ≤ gu ∧ gu ≤ 13) : opened_0 = gu := by
  subst fe_0_8_1
  subst fe_0_10_1
  subst fe_0_157_1
  subst fe_0_159_1
  subst fe_0_164_1
  subst fe_0_165_1
  have e_hE_0_1_1 := funext hE_0_1_1; subst e_hE_0_1_1
  have e_hE_0_160_1 := funext hE_0_160_1; subst e_hE_0_160_1
  have e_hE_0_161_1 := funext hE_0_161_1; subst e_hE_0_161_1
  have e_hE_0_162_1 := funext hE_0_162_1; subst e_hE_0_162_1
  have e_hE_0_163_1 := funext hE_0_163_1; subst e_hE_0_163_1
  first | assumption | (clear f3 f12 f16 f19 f21 hE_0_1_1 hK_0_1 hE_0_160_1 hK_0_160 hE_0_161_1 hE_0_162_1 hK_0_162 hE_0_163_1 hK_0_163; omega) | (clear hE_0_1_1 hK_0_1 hE_0_160_1 hK_0_160 hE_0_161_1 hE_0_162_1 hK_0_162 hE_0_163_1 hK_0_163; grind) | omega | grind
set_option maxHeartbeats 4000000 in
theorem vc_Mo_product_at_f0_19_8 (x1 : Int) (x2 : Int) (x3 : Int) (x6 : Int) (x7 : Int) (x8 : Int) (x9 : Int) (x10 : Int) (x11 : Int) (x12 : Int) (x13 : Int) (x14 : Int) (x15 : Int) (cur_0 : Int) (fault_0 : Int) (styleKind_0 : Int) (styleOne_0 : Int) (opened_0 : Int) (cur_1 : Int) (tokenKind_1 : Int → Int) (tokenValue_1 : Int → Int) (fault_1 : Int) (tokens_1 : Int) (styleKind_1 : Int) (styleOne_1 : Int) (opened_1 : Int) (tokenPlace_1 : Int → Int) (tokenEnd_1 : Int → Int) (tape_1 : Int → Int) (limit_1 : Int) (limit_0 : Int) (tokens_0 : Int) (tape_0 : Int → Int) (tokenKind_0 : Int → Int) (tokenValue_0 : Int → Int) (tokenPlace_0 : Int → Int) (tokenEnd_0 : Int → Int) (gx : Int) (gy : Int) (gu : Int) (k1 : 0 ≤ x1 ∧ x1 ≤ 2009) (k2 : 0 ≤ x2 ∧ x2 ≤ 5) (k3 : 0 ≤ x3 ∧ x3 ≤ 13) (k6 : 0 ≤ x6 ∧ x6 ≤ 2009) (k7 : 0 ≤ x7 ∧ x7 ≤ 2010) (k8 : 42 ≤ x8 ∧ x8 ≤ 42) (k9 : 0 ≤ x9 ∧ x9 ≤ 5) (k10 : 1 ≤ x10 ∧ x10 ≤ 1) (k11 : 42 ≤ x11 ∧ x11 ≤ 42) (k12 : 0 ≤ x12 ∧ x12 ≤ 5) (k13 : 1 ≤ x13 ∧ x13 ≤ 1) (k14 : 1 ≤ x14 ∧ x14 ≤ 1) (k15 : 1 ≤ x15 ∧ x15 ≤ 2009) (d0 : x6 + 1 ≤ x15 ∧ x15 ≤ x6 + 1) (g0 : x15 = cur_0) (f1 : fault_0 = x12) (f2 : fault_0 = x9) (f3 : (styleKind_0 = 0) → (styleOne_0 ≤ 23)) (f4 : 1 * opened_0 + 0 ≤ 0) (f5 : (-1) * opened_0 + 0 ≤ 0) (f6 : 1 * x3 + 0 ≤ 0) (f7 : (-1) * x3 + 0 ≤ 0) (f10 : x15 = x6 + x14) (g11 : x6 = cur_1) (f12 : (x13 = 1) → (tokenKind_1 (cur_1) = 3)) (f13 : SGN (cur_1) (tokenKind_1) (tokenValue_1) (x11) (x13) (x12)) (f14 : fault_1 = x12) (f15 : x10 ≠ 0) (f16 : (x10 = 1) → (tokenKind_1 (cur_1) = 3)) (f17 : SGN (cur_1) (tokenKind_1) (tokenValue_1) (x8) (x10) (x9)) (f18 : fault_1 = x9) (f19 : ((cur_1 + 1) ≤ tokens_1) ∧ ((tokens_1 ≤ 2010) ∧ ((tokenKind_1 ((tokens_1 - 1)) = 0) ∨ (tokenKind_1 ((tokens_1 - 1)) = 4)))) (f20 : 1 * x1 + ((-1) * cur_1 + 0) ≤ 0) (f21 : (styleKind_1 = 0) → (styleOne_1 ≤ 23)) (f22 : 1 * opened_1 + 0 ≤ 0) (f23 : (-1) * opened_1 + 0 ≤ 0) (f24 : SPWv (fault_1) (cur_1) (styleKind_1) (limit_1) (tokenKind_1) (tokenValue_1) (tokenPlace_1) (tokenEnd_1) (tape_1) (x1) (x2) (x3)) (f25 : 1 * x3 + 0 ≤ 0) (f26 : (-1) * x3 + 0 ≤ 0) (f27 : 1 * x7 + (1 * cur_1 + 0) ≤ 2010) (f28 : (-1) * x7 + ((-1) * cur_1 + 0) ≤ (-2010)) (fe_0_8_1 : fault_0 = fault_1) (fe_0_10_1 : limit_0 = limit_1) (fe_0_157_1 : tokens_0 = tokens_1) (fe_0_158_1 : cur_0 = x15) (fe_0_159_1 : opened_0 = opened_1) (fe_0_164_1 : styleKind_0 = styleKind_1) (fe_0_165_1 : styleOne_0 = styleOne_1) (hE_0_1_1 : ∀ j : Int, tape_0 j = tape_1 j) (hK_0_1 : ∀ j : Int, 0 ≤ j → j < 2000 → (-128) ≤ tape_0 j ∧ tape_0 j ≤ 127) (hE_0_160_1 : ∀ j : Int, tokenKind_0 j = tokenKind_1 j) (hK_0_160 : ∀ j : Int, 0 ≤ j → j < 2010 → 0 ≤ tokenKind_0 j ∧ tokenKind_0 j ≤ 4) (hE_0_161_1 : ∀ j : Int, tokenValue_0 j = tokenValue_1 j) (hE_0_162_1 : ∀ j : Int, tokenPlace_0 j = tokenPlace_1 j) (hK_0_162 : ∀ j : Int, 0 ≤ j → j < 2010 → 0 ≤ tokenPlace_0 j ∧ tokenPlace_0 j ≤ 2000) (hE_0_163_1 : ∀ j : Int, tokenEnd_0 j = tokenEnd_1 j) (hK_0_163 : ∀ j : Int, 0 ≤ j → j < 2010 → 0 ≤ tokenEnd_0 j ∧ tokenEnd_0 j ≤ 2000) (kz_0_8 : 0 ≤ fault_0 ∧ fault_0 ≤ 5) (kz_0_10 : 0 ≤ limit_0 ∧ limit_0 ≤ 2000) (kz_0_157 : 0 ≤ tokens_0 ∧ tokens_0 ≤ 2010) (kz_0_158 : 0 ≤ cur_0 ∧ cur_0 ≤ 2009) (kz_0_159 : 0 ≤ opened_0 ∧ opened_0 ≤ 13) (kz_0_164 : 0 ≤ styleKind_0 ∧ styleKind_0 ≤ 1) (kz_0_165 : (-1) ≤ styleOne_0 ∧ styleOne_0 ≤ 47) (ex2 : gx = cur_0) (ex3 : 0 ≤ gx ∧ gx ≤ 2009) (ey2 : gy = fault_0) (ey3 : 0 ≤ gy ∧ gy ≤ 5) (eu2 : gu = opened_0) (eu3 : 0 ≤ gu ∧ gu ≤ 13) : 1 * x1 + ((-1) * gx + 0) ≤ 0 := by
  subst fe_0_8_1
  subst fe_0_10_1
  subst fe_0_157_1
  subst fe_0_159_1
  subst fe_0_164_1
  subst fe_0_165_1
  have e_hE_0_1_1 := funext hE_0_1_1; subst e_hE_0_1_1
  have e_hE_0_160_1 := funext hE_0_160_1; subst e_hE_0_160_1
  have e_hE_0_161_1 := funext hE_0_161_1; subst e_hE_0_161_1
  have e_hE_0_162_1 := funext hE_0_162_1; subst e_hE_0_162_1
  have e_hE_0_163_1 := funext hE_0_163_1; subst e_hE_0_163_1
  first | assumption | (clear f3 f12 f16 f19 f21 hE_0_1_1 hK_0_1 hE_0_160_1 hK_0_160 hE_0_161_1 hE_0_162_1 hK_0_162 hE_0_163_1 hK_0_163; omega) | (clear hE_0_1_1 hK_0_1 hE_0_160_1 hK_0_160 hE_0_161_1 hE_0_162_1 hK_0_162 hE_0_163_1 hK_0_163; grind) | omega | grind
set_option maxHeartbeats 4000000 in
theorem vc_Mo_product_at_f0_19_9 (x1 : Int) (x2 : Int) (x3 : Int) (x6 : Int) (x7 : Int) (x8 : Int) (x9 : Int) (x10 : Int) (x11 : Int) (x12 : Int) (x13 : Int) (x14 : Int) (x15 : Int) (cur_0 : Int) (fault_0 : Int) (styleKind_0 : Int) (styleOne_0 : Int) (opened_0 : Int) (cur_1 : Int) (tokenKind_1 : Int → Int) (tokenValue_1 : Int → Int) (fault_1 : Int) (tokens_1 : Int) (styleKind_1 : Int) (styleOne_1 : Int) (opened_1 : Int) (tokenPlace_1 : Int → Int) (tokenEnd_1 : Int → Int) (tape_1 : Int → Int) (limit_1 : Int) (limit_0 : Int) (tokens_0 : Int) (tape_0 : Int → Int) (tokenKind_0 : Int → Int) (tokenValue_0 : Int → Int) (tokenPlace_0 : Int → Int) (tokenEnd_0 : Int → Int) (gx : Int) (gy : Int) (gu : Int) (k1 : 0 ≤ x1 ∧ x1 ≤ 2009) (k2 : 0 ≤ x2 ∧ x2 ≤ 5) (k3 : 0 ≤ x3 ∧ x3 ≤ 13) (k6 : 0 ≤ x6 ∧ x6 ≤ 2009) (k7 : 0 ≤ x7 ∧ x7 ≤ 2010) (k8 : 42 ≤ x8 ∧ x8 ≤ 42) (k9 : 0 ≤ x9 ∧ x9 ≤ 5) (k10 : 1 ≤ x10 ∧ x10 ≤ 1) (k11 : 42 ≤ x11 ∧ x11 ≤ 42) (k12 : 0 ≤ x12 ∧ x12 ≤ 5) (k13 : 1 ≤ x13 ∧ x13 ≤ 1) (k14 : 1 ≤ x14 ∧ x14 ≤ 1) (k15 : 1 ≤ x15 ∧ x15 ≤ 2009) (d0 : x6 + 1 ≤ x15 ∧ x15 ≤ x6 + 1) (g0 : x15 = cur_0) (f1 : fault_0 = x12) (f2 : fault_0 = x9) (f3 : (styleKind_0 = 0) → (styleOne_0 ≤ 23)) (f4 : 1 * opened_0 + 0 ≤ 0) (f5 : (-1) * opened_0 + 0 ≤ 0) (f6 : 1 * x3 + 0 ≤ 0) (f7 : (-1) * x3 + 0 ≤ 0) (f10 : x15 = x6 + x14) (g11 : x6 = cur_1) (f12 : (x13 = 1) → (tokenKind_1 (cur_1) = 3)) (f13 : SGN (cur_1) (tokenKind_1) (tokenValue_1) (x11) (x13) (x12)) (f14 : fault_1 = x12) (f15 : x10 ≠ 0) (f16 : (x10 = 1) → (tokenKind_1 (cur_1) = 3)) (f17 : SGN (cur_1) (tokenKind_1) (tokenValue_1) (x8) (x10) (x9)) (f18 : fault_1 = x9) (f19 : ((cur_1 + 1) ≤ tokens_1) ∧ ((tokens_1 ≤ 2010) ∧ ((tokenKind_1 ((tokens_1 - 1)) = 0) ∨ (tokenKind_1 ((tokens_1 - 1)) = 4)))) (f20 : 1 * x1 + ((-1) * cur_1 + 0) ≤ 0) (f21 : (styleKind_1 = 0) → (styleOne_1 ≤ 23)) (f22 : 1 * opened_1 + 0 ≤ 0) (f23 : (-1) * opened_1 + 0 ≤ 0) (f24 : SPWv (fault_1) (cur_1) (styleKind_1) (limit_1) (tokenKind_1) (tokenValue_1) (tokenPlace_1) (tokenEnd_1) (tape_1) (x1) (x2) (x3)) (f25 : 1 * x3 + 0 ≤ 0) (f26 : (-1) * x3 + 0 ≤ 0) (f27 : 1 * x7 + (1 * cur_1 + 0) ≤ 2010) (f28 : (-1) * x7 + ((-1) * cur_1 + 0) ≤ (-2010)) (fe_0_8_1 : fault_0 = fault_1) (fe_0_10_1 : limit_0 = limit_1) (fe_0_157_1 : tokens_0 = tokens_1) (fe_0_158_1 : cur_0 = x15) (fe_0_159_1 : opened_0 = opened_1) (fe_0_164_1 : styleKind_0 = styleKind_1) (fe_0_165_1 : styleOne_0 = styleOne_1) (hE_0_1_1 : ∀ j : Int, tape_0 j = tape_1 j) (hK_0_1 : ∀ j : Int, 0 ≤ j → j < 2000 → (-128) ≤ tape_0 j ∧ tape_0 j ≤ 127) (hE_0_160_1 : ∀ j : Int, tokenKind_0 j = tokenKind_1 j) (hK_0_160 : ∀ j : Int, 0 ≤ j → j < 2010 → 0 ≤ tokenKind_0 j ∧ tokenKind_0 j ≤ 4) (hE_0_161_1 : ∀ j : Int, tokenValue_0 j = tokenValue_1 j) (hE_0_162_1 : ∀ j : Int, tokenPlace_0 j = tokenPlace_1 j) (hK_0_162 : ∀ j : Int, 0 ≤ j → j < 2010 → 0 ≤ tokenPlace_0 j ∧ tokenPlace_0 j ≤ 2000) (hE_0_163_1 : ∀ j : Int, tokenEnd_0 j = tokenEnd_1 j) (hK_0_163 : ∀ j : Int, 0 ≤ j → j < 2010 → 0 ≤ tokenEnd_0 j ∧ tokenEnd_0 j ≤ 2000) (kz_0_8 : 0 ≤ fault_0 ∧ fault_0 ≤ 5) (kz_0_10 : 0 ≤ limit_0 ∧ limit_0 ≤ 2000) (kz_0_157 : 0 ≤ tokens_0 ∧ tokens_0 ≤ 2010) (kz_0_158 : 0 ≤ cur_0 ∧ cur_0 ≤ 2009) (kz_0_159 : 0 ≤ opened_0 ∧ opened_0 ≤ 13) (kz_0_164 : 0 ≤ styleKind_0 ∧ styleKind_0 ≤ 1) (kz_0_165 : (-1) ≤ styleOne_0 ∧ styleOne_0 ≤ 47) (ex2 : gx = cur_0) (ex3 : 0 ≤ gx ∧ gx ≤ 2009) (ey2 : gy = fault_0) (ey3 : 0 ≤ gy ∧ gy ≤ 5) (eu2 : gu = opened_0) (eu3 : 0 ≤ gu ∧ gu ≤ 13) : (-1) * x7 + ((-1) * gx + 0) ≤ (-2011) := by
  subst fe_0_8_1
  subst fe_0_10_1
  subst fe_0_157_1
  subst fe_0_159_1
  subst fe_0_164_1
  subst fe_0_165_1
  have e_hE_0_1_1 := funext hE_0_1_1; subst e_hE_0_1_1
  have e_hE_0_160_1 := funext hE_0_160_1; subst e_hE_0_160_1
  have e_hE_0_161_1 := funext hE_0_161_1; subst e_hE_0_161_1
  have e_hE_0_162_1 := funext hE_0_162_1; subst e_hE_0_162_1
  have e_hE_0_163_1 := funext hE_0_163_1; subst e_hE_0_163_1
  first | assumption | (clear f3 f12 f16 f19 f21 hE_0_1_1 hK_0_1 hE_0_160_1 hK_0_160 hE_0_161_1 hE_0_162_1 hK_0_162 hE_0_163_1 hK_0_163; omega) | (clear hE_0_1_1 hK_0_1 hE_0_160_1 hK_0_160 hE_0_161_1 hE_0_162_1 hK_0_162 hE_0_163_1 hK_0_163; grind) | omega | grind
set_option maxHeartbeats 4000000 in
theorem vc_Mo_product_at_f0_19_10 (x1 : Int) (x2 : Int) (x3 : Int) (x6 : Int) (x8 : Int) (x9 : Int) (x10 : Int) (x11 : Int) (x12 : Int) (x13 : Int) (x15 : Int) (cur_0 : Int) (fault_0 : Int) (styleKind_0 : Int) (styleOne_0 : Int) (opened_0 : Int) (cur_1 : Int) (tokenKind_1 : Int → Int) (tokenValue_1 : Int → Int) (fault_1 : Int) (tokens_1 : Int) (styleKind_1 : Int) (styleOne_1 : Int) (opened_1 : Int) (tokenPlace_1 : Int → Int) (tokenEnd_1 : Int → Int) (tape_1 : Int → Int) (limit_1 : Int) (limit_0 : Int) (tokens_0 : Int) (tape_0 : Int → Int) (tokenKind_0 : Int → Int) (tokenValue_0 : Int → Int) (tokenPlace_0 : Int → Int) (tokenEnd_0 : Int → Int) (gx : Int) (gy : Int) (k1 : 0 ≤ x1 ∧ x1 ≤ 2009) (k2 : 0 ≤ x2 ∧ x2 ≤ 5) (k3 : 0 ≤ x3 ∧ x3 ≤ 13) (k6 : 0 ≤ x6 ∧ x6 ≤ 2009) (k8 : 42 ≤ x8 ∧ x8 ≤ 42) (k9 : 0 ≤ x9 ∧ x9 ≤ 5) (k10 : 1 ≤ x10 ∧ x10 ≤ 1) (k15 : 1 ≤ x15 ∧ x15 ≤ 2009) (d0 : x6 + 1 ≤ x15 ∧ x15 ≤ x6 + 1) (g0 : x15 = cur_0) (f2 : fault_0 = x9) (g11 : x6 = cur_1) (f15 : x10 ≠ 0) (f17 : SGN (cur_1) (tokenKind_1) (tokenValue_1) (x8) (x10) (x9)) (f24 : SPWv (fault_1) (cur_1) (styleKind_1) (limit_1) (tokenKind_1) (tokenValue_1) (tokenPlace_1) (tokenEnd_1) (tape_1) (x1) (x2) (x3)) (fe_0_8_1 : fault_0 = fault_1) (fe_0_10_1 : limit_0 = limit_1) (fe_0_157_1 : tokens_0 = tokens_1) (fe_0_159_1 : opened_0 = opened_1) (fe_0_164_1 : styleKind_0 = styleKind_1) (fe_0_165_1 : styleOne_0 = styleOne_1) (hE_0_1_1 : ∀ j : Int, tape_0 j = tape_1 j) (hE_0_160_1 : ∀ j : Int, tokenKind_0 j = tokenKind_1 j) (hE_0_161_1 : ∀ j : Int, tokenValue_0 j = tokenValue_1 j) (hE_0_162_1 : ∀ j : Int, tokenPlace_0 j = tokenPlace_1 j) (hE_0_163_1 : ∀ j : Int, tokenEnd_0 j = tokenEnd_1 j) (kz_0_8 : 0 ≤ fault_0 ∧ fault_0 ≤ 5) (kz_0_10 : 0 ≤ limit_0 ∧ limit_0 ≤ 2000) (kz_0_157 : 0 ≤ tokens_0 ∧ tokens_0 ≤ 2010) (kz_0_158 : 0 ≤ cur_0 ∧ cur_0 ≤ 2009) (kz_0_159 : 0 ≤ opened_0 ∧ opened_0 ≤ 13) (kz_0_164 : 0 ≤ styleKind_0 ∧ styleKind_0 ≤ 1) (kz_0_165 : (-1) ≤ styleOne_0 ∧ styleOne_0 ≤ 47) (ex2 : gx = cur_0) (ey2 : gy = fault_0) : GPW (styleKind_0) (limit_0) (tokenKind_0) (tokenValue_0) (tokenPlace_0) (tokenEnd_0) (tape_0) (gx) (gy) (x1) (x2) (x3) := by
  subst fe_0_8_1
  subst fe_0_10_1
  subst fe_0_157_1
  subst fe_0_159_1
  subst fe_0_164_1
  subst fe_0_165_1
  have e_hE_0_1_1 := funext hE_0_1_1; subst e_hE_0_1_1
  have e_hE_0_160_1 := funext hE_0_160_1; subst e_hE_0_160_1
  have e_hE_0_161_1 := funext hE_0_161_1; subst e_hE_0_161_1
  have e_hE_0_162_1 := funext hE_0_162_1; subst e_hE_0_162_1
  have e_hE_0_163_1 := funext hE_0_163_1; subst e_hE_0_163_1
  first
    | (have h := sgn_y (show SGN _ _ _ x8 x10 x9 by assumption) (by omega) (by omega) (by omega) (show x8 = 42 by omega)
       have h1 := h.1
       exact gpw_of (‹SPWv _ _ _ _ _ _ _ _ _ _ _ _›) (by omega) (Or.inl h.2) (by omega) (by omega))
    | (have h := sgn_y (show SGN _ _ _ x11 x13 x12 by assumption) (by omega) (by omega) (by omega) (show x11 = 47 by omega)
       have h1 := h.1
       exact gpw_of (‹SPWv _ _ _ _ _ _ _ _ _ _ _ _›) (by omega) (Or.inr h.2) (by omega) (by omega))
  
set_option maxHeartbeats 4000000 in
theorem vc_Mo_product_at_f0_19_11 (x1 : Int) (x2 : Int) (x3 : Int) (x6 : Int) (x7 : Int) (x8 : Int) (x9 : Int) (x10 : Int) (x11 : Int) (x12 : Int) (x13 : Int) (x14 : Int) (x15 : Int) (cur_0 : Int) (fault_0 : Int) (styleKind_0 : Int) (styleOne_0 : Int) (opened_0 : Int) (cur_1 : Int) (tokenKind_1 : Int → Int) (tokenValue_1 : Int → Int) (fault_1 : Int) (tokens_1 : Int) (styleKind_1 : Int) (styleOne_1 : Int) (opened_1 : Int) (tokenPlace_1 : Int → Int) (tokenEnd_1 : Int → Int) (tape_1 : Int → Int) (limit_1 : Int) (limit_0 : Int) (tokens_0 : Int) (tape_0 : Int → Int) (tokenKind_0 : Int → Int) (tokenValue_0 : Int → Int) (tokenPlace_0 : Int → Int) (tokenEnd_0 : Int → Int) (gx : Int) (gy : Int) (gu : Int) (k1 : 0 ≤ x1 ∧ x1 ≤ 2009) (k2 : 0 ≤ x2 ∧ x2 ≤ 5) (k3 : 0 ≤ x3 ∧ x3 ≤ 13) (k6 : 0 ≤ x6 ∧ x6 ≤ 2009) (k7 : 0 ≤ x7 ∧ x7 ≤ 2010) (k8 : 42 ≤ x8 ∧ x8 ≤ 42) (k9 : 0 ≤ x9 ∧ x9 ≤ 5) (k10 : 1 ≤ x10 ∧ x10 ≤ 1) (k11 : 42 ≤ x11 ∧ x11 ≤ 42) (k12 : 0 ≤ x12 ∧ x12 ≤ 5) (k13 : 1 ≤ x13 ∧ x13 ≤ 1) (k14 : 1 ≤ x14 ∧ x14 ≤ 1) (k15 : 1 ≤ x15 ∧ x15 ≤ 2009) (d0 : x6 + 1 ≤ x15 ∧ x15 ≤ x6 + 1) (g0 : x15 = cur_0) (f1 : fault_0 = x12) (f2 : fault_0 = x9) (f3 : (styleKind_0 = 0) → (styleOne_0 ≤ 23)) (f4 : 1 * opened_0 + 0 ≤ 0) (f5 : (-1) * opened_0 + 0 ≤ 0) (f6 : 1 * x3 + 0 ≤ 0) (f7 : (-1) * x3 + 0 ≤ 0) (f10 : x15 = x6 + x14) (g11 : x6 = cur_1) (f12 : (x13 = 1) → (tokenKind_1 (cur_1) = 3)) (f13 : SGN (cur_1) (tokenKind_1) (tokenValue_1) (x11) (x13) (x12)) (f14 : fault_1 = x12) (f15 : x10 ≠ 0) (f16 : (x10 = 1) → (tokenKind_1 (cur_1) = 3)) (f17 : SGN (cur_1) (tokenKind_1) (tokenValue_1) (x8) (x10) (x9)) (f18 : fault_1 = x9) (f19 : ((cur_1 + 1) ≤ tokens_1) ∧ ((tokens_1 ≤ 2010) ∧ ((tokenKind_1 ((tokens_1 - 1)) = 0) ∨ (tokenKind_1 ((tokens_1 - 1)) = 4)))) (f20 : 1 * x1 + ((-1) * cur_1 + 0) ≤ 0) (f21 : (styleKind_1 = 0) → (styleOne_1 ≤ 23)) (f22 : 1 * opened_1 + 0 ≤ 0) (f23 : (-1) * opened_1 + 0 ≤ 0) (f24 : SPWv (fault_1) (cur_1) (styleKind_1) (limit_1) (tokenKind_1) (tokenValue_1) (tokenPlace_1) (tokenEnd_1) (tape_1) (x1) (x2) (x3)) (f25 : 1 * x3 + 0 ≤ 0) (f26 : (-1) * x3 + 0 ≤ 0) (f27 : 1 * x7 + (1 * cur_1 + 0) ≤ 2010) (f28 : (-1) * x7 + ((-1) * cur_1 + 0) ≤ (-2010)) (fe_0_8_1 : fault_0 = fault_1) (fe_0_10_1 : limit_0 = limit_1) (fe_0_157_1 : tokens_0 = tokens_1) (fe_0_158_1 : cur_0 = x15) (fe_0_159_1 : opened_0 = opened_1) (fe_0_164_1 : styleKind_0 = styleKind_1) (fe_0_165_1 : styleOne_0 = styleOne_1) (hE_0_1_1 : ∀ j : Int, tape_0 j = tape_1 j) (hK_0_1 : ∀ j : Int, 0 ≤ j → j < 2000 → (-128) ≤ tape_0 j ∧ tape_0 j ≤ 127) (hE_0_160_1 : ∀ j : Int, tokenKind_0 j = tokenKind_1 j) (hK_0_160 : ∀ j : Int, 0 ≤ j → j < 2010 → 0 ≤ tokenKind_0 j ∧ tokenKind_0 j ≤ 4) (hE_0_161_1 : ∀ j : Int, tokenValue_0 j = tokenValue_1 j) (hE_0_162_1 : ∀ j : Int, tokenPlace_0 j = tokenPlace_1 j) (hK_0_162 : ∀ j : Int, 0 ≤ j → j < 2010 → 0 ≤ tokenPlace_0 j ∧ tokenPlace_0 j ≤ 2000) (hE_0_163_1 : ∀ j : Int, tokenEnd_0 j = tokenEnd_1 j) (hK_0_163 : ∀ j : Int, 0 ≤ j → j < 2010 → 0 ≤ tokenEnd_0 j ∧ tokenEnd_0 j ≤ 2000) (kz_0_8 : 0 ≤ fault_0 ∧ fault_0 ≤ 5) (kz_0_10 : 0 ≤ limit_0 ∧ limit_0 ≤ 2000) (kz_0_157 : 0 ≤ tokens_0 ∧ tokens_0 ≤ 2010) (kz_0_158 : 0 ≤ cur_0 ∧ cur_0 ≤ 2009) (kz_0_159 : 0 ≤ opened_0 ∧ opened_0 ≤ 13) (kz_0_164 : 0 ≤ styleKind_0 ∧ styleKind_0 ≤ 1) (kz_0_165 : (-1) ≤ styleOne_0 ∧ styleOne_0 ≤ 47) (ex2 : gx = cur_0) (ex3 : 0 ≤ gx ∧ gx ≤ 2009) (ey2 : gy = fault_0) (ey3 : 0 ≤ gy ∧ gy ≤ 5) (eu2 : gu = opened_0) (eu3 : 0 ≤ gu ∧ gu ≤ 13) : 1 * gu + 0 ≤ 0 := by
  subst fe_0_8_1
  subst fe_0_10_1
  subst fe_0_157_1
  subst fe_0_159_1
  subst fe_0_164_1
  subst fe_0_165_1
  have e_hE_0_1_1 := funext hE_0_1_1; subst e_hE_0_1_1
  have e_hE_0_160_1 := funext hE_0_160_1; subst e_hE_0_160_1
  have e_hE_0_161_1 := funext hE_0_161_1; subst e_hE_0_161_1
  have e_hE_0_162_1 := funext hE_0_162_1; subst e_hE_0_162_1
  have e_hE_0_163_1 := funext hE_0_163_1; subst e_hE_0_163_1
  first | assumption | (clear f3 f12 f16 f19 f21 hE_0_1_1 hK_0_1 hE_0_160_1 hK_0_160 hE_0_161_1 hE_0_162_1 hK_0_162 hE_0_163_1 hK_0_163; omega) | (clear hE_0_1_1 hK_0_1 hE_0_160_1 hK_0_160 hE_0_161_1 hE_0_162_1 hK_0_162 hE_0_163_1 hK_0_163; grind) | omega | grind
set_option maxHeartbeats 4000000 in
theorem vc_Mo_product_at_f0_19_12 (x1 : Int) (x2 : Int) (x3 : Int) (x6 : Int) (x7 : Int) (x8 : Int) (x9 : Int) (x10 : Int) (x11 : Int) (x12 : Int) (x13 : Int) (x14 : Int) (x15 : Int) (cur_0 : Int) (fault_0 : Int) (styleKind_0 : Int) (styleOne_0 : Int) (opened_0 : Int) (cur_1 : Int) (tokenKind_1 : Int → Int) (tokenValue_1 : Int → Int) (fault_1 : Int) (tokens_1 : Int) (styleKind_1 : Int) (styleOne_1 : Int) (opened_1 : Int) (tokenPlace_1 : Int → Int) (tokenEnd_1 : Int → Int) (tape_1 : Int → Int) (limit_1 : Int) (limit_0 : Int) (tokens_0 : Int) (tape_0 : Int → Int) (tokenKind_0 : Int → Int) (tokenValue_0 : Int → Int) (tokenPlace_0 : Int → Int) (tokenEnd_0 : Int → Int) (gx : Int) (gy : Int) (gu : Int) (k1 : 0 ≤ x1 ∧ x1 ≤ 2009) (k2 : 0 ≤ x2 ∧ x2 ≤ 5) (k3 : 0 ≤ x3 ∧ x3 ≤ 13) (k6 : 0 ≤ x6 ∧ x6 ≤ 2009) (k7 : 0 ≤ x7 ∧ x7 ≤ 2010) (k8 : 42 ≤ x8 ∧ x8 ≤ 42) (k9 : 0 ≤ x9 ∧ x9 ≤ 5) (k10 : 1 ≤ x10 ∧ x10 ≤ 1) (k11 : 42 ≤ x11 ∧ x11 ≤ 42) (k12 : 0 ≤ x12 ∧ x12 ≤ 5) (k13 : 1 ≤ x13 ∧ x13 ≤ 1) (k14 : 1 ≤ x14 ∧ x14 ≤ 1) (k15 : 1 ≤ x15 ∧ x15 ≤ 2009) (d0 : x6 + 1 ≤ x15 ∧ x15 ≤ x6 + 1) (g0 : x15 = cur_0) (f1 : fault_0 = x12) (f2 : fault_0 = x9) (f3 : (styleKind_0 = 0) → (styleOne_0 ≤ 23)) (f4 : 1 * opened_0 + 0 ≤ 0) (f5 : (-1) * opened_0 + 0 ≤ 0) (f6 : 1 * x3 + 0 ≤ 0) (f7 : (-1) * x3 + 0 ≤ 0) (f10 : x15 = x6 + x14) (g11 : x6 = cur_1) (f12 : (x13 = 1) → (tokenKind_1 (cur_1) = 3)) (f13 : SGN (cur_1) (tokenKind_1) (tokenValue_1) (x11) (x13) (x12)) (f14 : fault_1 = x12) (f15 : x10 ≠ 0) (f16 : (x10 = 1) → (tokenKind_1 (cur_1) = 3)) (f17 : SGN (cur_1) (tokenKind_1) (tokenValue_1) (x8) (x10) (x9)) (f18 : fault_1 = x9) (f19 : ((cur_1 + 1) ≤ tokens_1) ∧ ((tokens_1 ≤ 2010) ∧ ((tokenKind_1 ((tokens_1 - 1)) = 0) ∨ (tokenKind_1 ((tokens_1 - 1)) = 4)))) (f20 : 1 * x1 + ((-1) * cur_1 + 0) ≤ 0) (f21 : (styleKind_1 = 0) → (styleOne_1 ≤ 23)) (f22 : 1 * opened_1 + 0 ≤ 0) (f23 : (-1) * opened_1 + 0 ≤ 0) (f24 : SPWv (fault_1) (cur_1) (styleKind_1) (limit_1) (tokenKind_1) (tokenValue_1) (tokenPlace_1) (tokenEnd_1) (tape_1) (x1) (x2) (x3)) (f25 : 1 * x3 + 0 ≤ 0) (f26 : (-1) * x3 + 0 ≤ 0) (f27 : 1 * x7 + (1 * cur_1 + 0) ≤ 2010) (f28 : (-1) * x7 + ((-1) * cur_1 + 0) ≤ (-2010)) (fe_0_8_1 : fault_0 = fault_1) (fe_0_10_1 : limit_0 = limit_1) (fe_0_157_1 : tokens_0 = tokens_1) (fe_0_158_1 : cur_0 = x15) (fe_0_159_1 : opened_0 = opened_1) (fe_0_164_1 : styleKind_0 = styleKind_1) (fe_0_165_1 : styleOne_0 = styleOne_1) (hE_0_1_1 : ∀ j : Int, tape_0 j = tape_1 j) (hK_0_1 : ∀ j : Int, 0 ≤ j → j < 2000 → (-128) ≤ tape_0 j ∧ tape_0 j ≤ 127) (hE_0_160_1 : ∀ j : Int, tokenKind_0 j = tokenKind_1 j) (hK_0_160 : ∀ j : Int, 0 ≤ j → j < 2010 → 0 ≤ tokenKind_0 j ∧ tokenKind_0 j ≤ 4) (hE_0_161_1 : ∀ j : Int, tokenValue_0 j = tokenValue_1 j) (hE_0_162_1 : ∀ j : Int, tokenPlace_0 j = tokenPlace_1 j) (hK_0_162 : ∀ j : Int, 0 ≤ j → j < 2010 → 0 ≤ tokenPlace_0 j ∧ tokenPlace_0 j ≤ 2000) (hE_0_163_1 : ∀ j : Int, tokenEnd_0 j = tokenEnd_1 j) (hK_0_163 : ∀ j : Int, 0 ≤ j → j < 2010 → 0 ≤ tokenEnd_0 j ∧ tokenEnd_0 j ≤ 2000) (kz_0_8 : 0 ≤ fault_0 ∧ fault_0 ≤ 5) (kz_0_10 : 0 ≤ limit_0 ∧ limit_0 ≤ 2000) (kz_0_157 : 0 ≤ tokens_0 ∧ tokens_0 ≤ 2010) (kz_0_158 : 0 ≤ cur_0 ∧ cur_0 ≤ 2009) (kz_0_159 : 0 ≤ opened_0 ∧ opened_0 ≤ 13) (kz_0_164 : 0 ≤ styleKind_0 ∧ styleKind_0 ≤ 1) (kz_0_165 : (-1) ≤ styleOne_0 ∧ styleOne_0 ≤ 47) (ex2 : gx = cur_0) (ex3 : 0 ≤ gx ∧ gx ≤ 2009) (ey2 : gy = fault_0) (ey3 : 0 ≤ gy ∧ gy ≤ 5) (eu2 : gu = opened_0) (eu3 : 0 ≤ gu ∧ gu ≤ 13) : (-1) * gu + 0 ≤ 0 := by
  subst fe_0_8_1
  subst fe_0_10_1
  subst fe_0_157_1
  subst fe_0_159_1
  subst fe_0_164_1
  subst fe_0_165_1
  have e_hE_0_1_1 := funext hE_0_1_1; subst e_hE_0_1_1
  have e_hE_0_160_1 := funext hE_0_160_1; subst e_hE_0_160_1
  have e_hE_0_161_1 := funext hE_0_161_1; subst e_hE_0_161_1
  have e_hE_0_162_1 := funext hE_0_162_1; subst e_hE_0_162_1
  have e_hE_0_163_1 := funext hE_0_163_1; subst e_hE_0_163_1
  first | assumption | (clear f3 f12 f16 f19 f21 hE_0_1_1 hK_0_1 hE_0_160_1 hK_0_160 hE_0_161_1 hE_0_162_1 hK_0_162 hE_0_163_1 hK_0_163; omega) | (clear hE_0_1_1 hK_0_1 hE_0_160_1 hK_0_160 hE_0_161_1 hE_0_162_1 hK_0_162 hE_0_163_1 hK_0_163; grind) | omega | grind
def o_Mo_product_at_f0_19 : or_T := (41, 16, [(0, (2, 0, 0, [165])), (1, (0, 0, 2009, [])), (2, (0, 0, 5, [])), (3, (0, 0, 13, [])), (4, (2, 0, 0, [165])), (6, (0, 0, 2009, [])), (7, (0, 0, 2010, [])), (8, (0, 42, 42, [])), (9, (0, 0, 5, [])), (10, (0, 1, 1, [])), (11, (0, 42, 42, [])), (12, (0, 0, 5, [])), (13, (0, 1, 1, [])), (14, (0, 1, 1, [])), (15, (0, 1, 2009, []))], [(9, [15, 4], [158]), (20, [4, 12], [50, 1, 0, 8, 1, 3, 2, 0, 8, 1, 1]), (20, [4, 9], [50, 1, 0, 8, 1, 3, 2, 0, 8, 1, 1]), (20, [4], [50, 2, 0, 164, 165, 4, 7, 1, 3, 2, 0, 164, 0, 0, 0, 3, 2, 0, 165, 0, 23]), (20, [4], [30, 0, 1, 1, 159]), (20, [4], [30, 0, -1, 1, 159]), (23, [3], [0, 1]), (23, [3], [0, -1]), (24, [0, 4], []), (101, [4, 15], [158]), (1, [15, 6, 14], []), (9, [6, 4], [158]), (20, [13, 4], [50, 1, 1, 1158, 1160, 4, 6, 1, 2, 1, 0, 0, 1, 1, 6, 3, 1, 160, 2, 1, 158, 0, 3]), (20, [4, 11, 13, 12], [60, 1, 2, 14, 158, 160, 161]), (20, [4, 12], [50, 1, 0, 8, 1, 3, 2, 0, 8, 1, 1]), (8, [10], [1]), (20, [10, 4], [50, 1, 1, 1158, 1160, 4, 6, 1, 2, 1, 0, 0, 1, 1, 6, 3, 1, 160, 2, 1, 158, 0, 3]), (20, [4, 8, 10, 9], [60, 1, 2, 14, 158, 160, 161]), (20, [4, 9], [50, 1, 0, 8, 1, 3, 2, 0, 8, 1, 1]), (20, [4], [50, 2, 1, 158, 157, 160, 2, 12, 0, 7, 4, 3, 2, 0, 158, 0, 1, 2, 0, 157, 2, 7, 0, 3, 2, 0, 157, 0, 2010, 3, 14, 1, 10, 3, 0, 160, 5, 3, 2, 0, 157, 0, 1, 0, 0, 1, 10, 3, 0, 160, 5, 3, 2, 0, 157, 0, 1, 0, 4]), (20, [1, 4], [30, 0, 1, 0, 0, -1, 1, 158]), (20, [4], [50, 2, 0, 164, 165, 4, 7, 1, 3, 2, 0, 164, 0, 0, 0, 3, 2, 0, 165, 0, 23]), (20, [4], [30, 0, 1, 1, 159]), (20, [4], [30, 0, -1, 1, 159]), (20, [4, 1, 2, 3], [60, 4, 5, 6, 8, 158, 164, 10, 160, 161, 162, 163, 1]), (23, [3], [0, 1]), (23, [3], [0, -1]), (20, [7, 4], [30, 2010, 1, 0, 0, 1, 1, 158]), (20, [7, 4], [30, -2010, -1, 0, 0, -1, 1, 158])], [], [(0, 0, 2009, []), (0, 0, 5, []), (0, 0, 13, [])], [(20, [4], [50, 2, 1, 158, 157, 160, 2, 12, 0, 7, 4, 3, 2, 0, 158, 0, 1, 2, 0, 157, 2, 7, 0, 3, 2, 0, 157, 0, 2010, 3, 14, 1, 10, 3, 0, 160, 5, 3, 2, 0, 157, 0, 1, 0, 0, 1, 10, 3, 0, 160, 5, 3, 2, 0, 157, 0, 1, 0, 4]), (20, [4, 16], [30, 0, 1, 1, 158, -1, 0, 0]), (20, [4, 16], [30, 0, -1, 1, 158, 1, 0, 0]), (20, [4], [50, 2, 0, 164, 165, 4, 7, 1, 3, 2, 0, 164, 0, 0, 0, 3, 2, 0, 165, 0, 23]), (20, [4], [30, 0, 1, 1, 159]), (20, [4], [30, 0, -1, 1, 159]), (20, [4, 17], [50, 1, 0, 8, 1, 3, 2, 0, 8, 1, 1]), (20, [4, 18], [50, 1, 0, 159, 1, 3, 2, 0, 159, 1, 1]), (23, [1, 16], [0, 1, -1]), (23, [7, 16], [-2011, -1, -1]), (20, [4, 16, 17, 1, 2, 3], [60, 2, 5, 10, 164, 10, 160, 161, 162, 163, 1]), (23, [18], [0, 1]), (23, [18], [0, -1])], [], [(15, 6, 1, 1)])
theorem oo_Mo_product_at_f0_19 {kA : Nat → ClassId} : or_ok PRD kA GG o_Mo_product_at_f0_19 := by
  refine or_mk fun A ta ws vs hD hth hl => ?_
  intro t0 r0 t1 k1 t2 k2 t3 k3 t4 r4 t6 k6 t7 k7 t8 k8 t9 k9 t10 k10 t11 k11 t12 k12 t13 k13 t14 k14 t15 k15 d0 f0 f1 f2 f3 f4 f5 f6 f7 f8 ta1 w1 le1 s1 f10 f11 f12 f13 f14 f15 f16 f17 f18 f19 f20 f21 f22 f23 f24 f25 f26 f27 f28
  replace f0 := shm_311 f0
  replace f1 := shm_302 f1
  replace f2 := shm_302 f2
  replace f3 := shm_299 f3
  replace f4 := shm_999 f4
  replace f5 := shm_1000 f5
  replace f6 := shm_1477 f6
  replace f7 := shm_1013 f7
  replace f8 := shm_5 f8
  have s1 : (∀ b j, w_el ws b j = w_el w1 b j) ∧ ∀ b j, w_fd ws b j = if b = v_ad (n_v vs 4) ∧ j = 158 then n_v vs 15 else w_fd w1 b j := s1.2
  replace f10 := shm_12 f10
  replace f11 := shm_311 f11
  replace f12 := shm_319 f12
  replace f13 := shm_320 f13
  replace f14 := shm_302 f14
  replace f15 := shm_154 f15
  replace f16 := shm_319 f16
  replace f17 := shm_320 f17
  replace f18 := shm_302 f18
  replace f19 := shm_296 f19
  replace f20 := shm_306 f20
  replace f21 := shm_299 f21
  replace f22 := shm_999 f22
  replace f23 := shm_1000 f23
  replace f24 := shm_342 f24
  replace f25 := shm_1477 f25
  replace f26 := shm_1013 f26
  replace f27 := shm_309 f27
  replace f28 := shm_310 f28
  have q4 : n_v vs 4 = n_v vs 0 := f8.symm
  simp only [q4] at f0 f1 f2 f3 f4 f5
  rw [q4] at s1
  simp only [q4] at f11 f12 f13 f14 f16 f17 f18 f19 f20 f21 f22 f23 f24 f27 f28
  have ar_0_1_1 : w_ar w1 (n_v vs 0) 1 = w_ar ws (n_v vs 0) 1 := by show v_ad (w_fd w1 _ _) = v_ad (w_fd ws _ _); rw [s1.2, if_neg (fun e => absurd e.2 (by decide))]
  have cr_0_1 := fdq_46 hD hth r0
  have ar_0_160_1 : w_ar w1 (n_v vs 0) 160 = w_ar ws (n_v vs 0) 160 := by show v_ad (w_fd w1 _ _) = v_ad (w_fd ws _ _); rw [s1.2, if_neg (fun e => absurd e.2 (by decide))]
  have cr_0_160 := fdq_41 hD hth r0
  have ar_0_161_1 : w_ar w1 (n_v vs 0) 161 = w_ar ws (n_v vs 0) 161 := by show v_ad (w_fd w1 _ _) = v_ad (w_fd ws _ _); rw [s1.2, if_neg (fun e => absurd e.2 (by decide))]
  have ar_0_162_1 : w_ar w1 (n_v vs 0) 162 = w_ar ws (n_v vs 0) 162 := by show v_ad (w_fd w1 _ _) = v_ad (w_fd ws _ _); rw [s1.2, if_neg (fun e => absurd e.2 (by decide))]
  have cr_0_162 := fdq_48 hD hth r0
  have ar_0_163_1 : w_ar w1 (n_v vs 0) 163 = w_ar ws (n_v vs 0) 163 := by show v_ad (w_fd w1 _ _) = v_ad (w_fd ws _ _); rw [s1.2, if_neg (fun e => absurd e.2 (by decide))]
  have cr_0_163 := fdq_49 hD hth r0
  have g0 : v_iv (n_v vs 15) = w_fi ws (n_v vs 0) 158 := congrArg v_iv f0
  have g11 : v_iv (n_v vs 6) = w_fi w1 (n_v vs 0) 158 := congrArg v_iv f11
  simp only [ar_0_160_1, ar_0_161_1, ar_0_1_1, ar_0_162_1, ar_0_163_1] at f12 f13 f16 f17 f19 f24
  have fe_0_8_1 : w_fi ws (n_v vs 0) 8 = w_fi w1 (n_v vs 0) 8 := by show v_iv (w_fd _ _ _) = v_iv (w_fd _ _ _); rw [s1.2, if_neg (fun e => absurd e.2 (by decide))]
  have fe_0_10_1 : w_fi ws (n_v vs 0) 10 = w_fi w1 (n_v vs 0) 10 := by show v_iv (w_fd _ _ _) = v_iv (w_fd _ _ _); rw [s1.2, if_neg (fun e => absurd e.2 (by decide))]
  have fe_0_157_1 : w_fi ws (n_v vs 0) 157 = w_fi w1 (n_v vs 0) 157 := by show v_iv (w_fd _ _ _) = v_iv (w_fd _ _ _); rw [s1.2, if_neg (fun e => absurd e.2 (by decide))]
  have fe_0_158_1 : w_fi ws (n_v vs 0) 158 = v_iv (n_v vs 15) := by show v_iv (w_fd _ _ _) = _; rw [s1.2, if_pos ⟨rfl, rfl⟩]
  have fe_0_159_1 : w_fi ws (n_v vs 0) 159 = w_fi w1 (n_v vs 0) 159 := by show v_iv (w_fd _ _ _) = v_iv (w_fd _ _ _); rw [s1.2, if_neg (fun e => absurd e.2 (by decide))]
  have fe_0_164_1 : w_fi ws (n_v vs 0) 164 = w_fi w1 (n_v vs 0) 164 := by show v_iv (w_fd _ _ _) = v_iv (w_fd _ _ _); rw [s1.2, if_neg (fun e => absurd e.2 (by decide))]
  have fe_0_165_1 : w_fi ws (n_v vs 0) 165 = w_fi w1 (n_v vs 0) 165 := by show v_iv (w_fd _ _ _) = v_iv (w_fd _ _ _); rw [s1.2, if_neg (fun e => absurd e.2 (by decide))]
  have hE_0_1_1 : ∀ j : Int, w_ei ws (w_ar ws (n_v vs 0) 1) j = w_ei w1 (w_ar ws (n_v vs 0) 1) j := fun j => s1.1 _ _
  have hK_0_1 := elq_6 hD hth cr_0_1
  have hE_0_160_1 : ∀ j : Int, w_ei ws (w_ar ws (n_v vs 0) 160) j = w_ei w1 (w_ar ws (n_v vs 0) 160) j := fun j => s1.1 _ _
  have hK_0_160 := elq_5 hD hth cr_0_160
  have hE_0_161_1 : ∀ j : Int, w_ei ws (w_ar ws (n_v vs 0) 161) j = w_ei w1 (w_ar ws (n_v vs 0) 161) j := fun j => s1.1 _ _
  have hE_0_162_1 : ∀ j : Int, w_ei ws (w_ar ws (n_v vs 0) 162) j = w_ei w1 (w_ar ws (n_v vs 0) 162) j := fun j => s1.1 _ _
  have hK_0_162 := elq_7 hD hth cr_0_162
  have hE_0_163_1 : ∀ j : Int, w_ei ws (w_ar ws (n_v vs 0) 163) j = w_ei w1 (w_ar ws (n_v vs 0) 163) j := fun j => s1.1 _ _
  have hK_0_163 := elq_8 hD hth cr_0_163
  have kz_0_8 := fdq_14 hD hth r0
  have kz_0_10 := fdq_50 hD hth r0
  have kz_0_157 := fdq_42 hD hth r0
  have kz_0_158 := fdq_43 hD hth r0
  have kz_0_159 := fdq_44 hD hth r0
  have kz_0_164 := fdq_45 hD hth r0
  have kz_0_165 := fdq_35 hD hth r0
  obtain ⟨x, ex, hx⟩ := iv_ex (ta := ta) (lo := 0) (hi := 2009) (z := w_fi ws (n_v vs 0) 158) (by omega) (by omega) (by omega) (by omega)
  have ex2 : v_iv (Value.int x) = w_fi ws (n_v vs 0) 158 := ex
  have ex3 : 0 ≤ v_iv (Value.int x) ∧ v_iv (Value.int x) ≤ 2009 := tv_rng hx
  obtain ⟨y, ey, hy⟩ := iv_ex (ta := ta) (lo := 0) (hi := 5) (z := w_fi ws (n_v vs 0) 8) (by omega) (by omega) (by omega) (by omega)
  have ey2 : v_iv (Value.int y) = w_fi ws (n_v vs 0) 8 := ey
  have ey3 : 0 ≤ v_iv (Value.int y) ∧ v_iv (Value.int y) ≤ 5 := tv_rng hy
  obtain ⟨u, eu, hu⟩ := iv_ex (ta := ta) (lo := 0) (hi := 13) (z := w_fi ws (n_v vs 0) 159) (by omega) (by omega) (by omega) (by omega)
  have eu2 : v_iv (Value.int u) = w_fi ws (n_v vs 0) 159 := eu
  have eu3 : 0 ≤ v_iv (Value.int u) ∧ v_iv (Value.int u) ≤ 13 := tv_rng hu
  have e_1 : n_v (vs ++ [Value.int x, Value.int y, Value.int u]) 1 = n_v vs 1 := n_v_old (by rw [hl]; decide)
  have e_2 : n_v (vs ++ [Value.int x, Value.int y, Value.int u]) 2 = n_v vs 2 := n_v_old (by rw [hl]; decide)
  have e_3 : n_v (vs ++ [Value.int x, Value.int y, Value.int u]) 3 = n_v vs 3 := n_v_old (by rw [hl]; decide)
  have e_4 : n_v (vs ++ [Value.int x, Value.int y, Value.int u]) 4 = n_v vs 4 := n_v_old (by rw [hl]; decide)
  have e_7 : n_v (vs ++ [Value.int x, Value.int y, Value.int u]) 7 = n_v vs 7 := n_v_old (by rw [hl]; decide)
  have e_16 : n_v (vs ++ [Value.int x, Value.int y, Value.int u]) 16 = Value.int x := n_v_newk (k := 0) hl rfl
  have e_17 : n_v (vs ++ [Value.int x, Value.int y, Value.int u]) 17 = Value.int y := n_v_newk (k := 1) hl rfl
  have e_18 : n_v (vs ++ [Value.int x, Value.int y, Value.int u]) 18 = Value.int u := n_v_newk (k := 2) hl rfl
  have nf0 : fc_1 PRD (20, [4], [50, 2, 1, 158, 157, 160, 2, 12, 0, 7, 4, 3, 2, 0, 158, 0, 1, 2, 0, 157, 2, 7, 0, 3, 2, 0, 157, 0, 2010, 3, 14, 1, 10, 3, 0, 160, 5, 3, 2, 0, 157, 0, 1, 0, 0, 1, 10, 3, 0, 160, 5, 3, 2, 0, 157, 0, 1, 0, 4]) ws (vs ++ [Value.int x, Value.int y, Value.int u]) := by
    refine ⟨nf_inA hl rfl, sgq_296 ?_⟩
    · show ((w_fi ws (n_v (vs ++ [Value.int x, Value.int y, Value.int u]) 4) 158 + 1) ≤ w_fi ws (n_v (vs ++ [Value.int x, Value.int y, Value.int u]) 4) 157) ∧ ((w_fi ws (n_v (vs ++ [Value.int x, Value.int y, Value.int u]) 4) 157 ≤ 2010) ∧ ((w_ei ws (w_ar ws (n_v (vs ++ [Value.int x, Value.int y, Value.int u]) 4) 160) ((w_fi ws (n_v (vs ++ [Value.int x, Value.int y, Value.int u]) 4) 157 - 1)) = 0) ∨ (w_ei ws (w_ar ws (n_v (vs ++ [Value.int x, Value.int y, Value.int u]) 4) 160) ((w_fi ws (n_v (vs ++ [Value.int x, Value.int y, Value.int u]) 4) 157 - 1)) = 4)))
      simp only [e_4, q4]
      exact vc_Mo_product_at_f0_19_0 (v_iv (n_v vs 1)) (v_iv (n_v vs 2)) (v_iv (n_v vs 3)) (v_iv (n_v vs 6)) (v_iv (n_v vs 7)) (v_iv (n_v vs 8)) (v_iv (n_v vs 9)) (v_iv (n_v vs 10)) (v_iv (n_v vs 11)) (v_iv (n_v vs 12)) (v_iv (n_v vs 13)) (v_iv (n_v vs 14)) (v_iv (n_v vs 15)) (w_fi ws (n_v vs 0) 158) (w_fi ws (n_v vs 0) 8) (w_fi ws (n_v vs 0) 164) (w_fi ws (n_v vs 0) 165) (w_fi ws (n_v vs 0) 159) (w_fi w1 (n_v vs 0) 158) (w_ei w1 (w_ar ws (n_v vs 0) 160)) (w_ei w1 (w_ar ws (n_v vs 0) 161)) (w_fi w1 (n_v vs 0) 8) (w_fi w1 (n_v vs 0) 157) (w_fi w1 (n_v vs 0) 164) (w_fi w1 (n_v vs 0) 165) (w_fi w1 (n_v vs 0) 159) (w_ei w1 (w_ar ws (n_v vs 0) 162)) (w_ei w1 (w_ar ws (n_v vs 0) 163)) (w_ei w1 (w_ar ws (n_v vs 0) 1)) (w_fi w1 (n_v vs 0) 10) (w_fi ws (n_v vs 0) 10) (w_fi ws (n_v vs 0) 157) (w_ei ws (w_ar ws (n_v vs 0) 1)) (w_ei ws (w_ar ws (n_v vs 0) 160)) (w_ei ws (w_ar ws (n_v vs 0) 161)) (w_ei ws (w_ar ws (n_v vs 0) 162)) (w_ei ws (w_ar ws (n_v vs 0) 163)) (v_iv (Value.int x)) (v_iv (Value.int y)) (v_iv (Value.int u)) k1 k2 k3 k6 k7 k8 k9 k10 k11 k12 k13 k14 k15 d0 g0 f1 f2 f3 f4 f5 f6 f7 f10 g11 f12 f13 f14 f15 f16 f17 f18 f19 f20 f21 f22 f23 f24 f25 f26 f27 f28 fe_0_8_1 fe_0_10_1 fe_0_157_1 fe_0_158_1 fe_0_159_1 fe_0_164_1 fe_0_165_1 hE_0_1_1 hK_0_1 hE_0_160_1 hK_0_160 hE_0_161_1 hE_0_162_1 hK_0_162 hE_0_163_1 hK_0_163 kz_0_8 kz_0_10 kz_0_157 kz_0_158 kz_0_159 kz_0_164 kz_0_165 ex2 ex3 ey2 ey3 eu2 eu3
  have nf1 : fc_1 PRD (20, [4, 16], [30, 0, 1, 1, 158, -1, 0, 0]) ws (vs ++ [Value.int x, Value.int y, Value.int u]) := by
    refine ⟨nf_inA hl rfl, sgq_297 ?_⟩
    · show 1 * w_fi ws (n_v (vs ++ [Value.int x, Value.int y, Value.int u]) 4) 158 + ((-1) * v_iv (n_v (vs ++ [Value.int x, Value.int y, Value.int u]) 16) + 0) ≤ 0
      simp only [e_4, e_16, q4]
      exact vc_Mo_product_at_f0_19_1 (v_iv (n_v vs 1)) (v_iv (n_v vs 2)) (v_iv (n_v vs 3)) (v_iv (n_v vs 6)) (v_iv (n_v vs 7)) (v_iv (n_v vs 8)) (v_iv (n_v vs 9)) (v_iv (n_v vs 10)) (v_iv (n_v vs 11)) (v_iv (n_v vs 12)) (v_iv (n_v vs 13)) (v_iv (n_v vs 14)) (v_iv (n_v vs 15)) (w_fi ws (n_v vs 0) 158) (w_fi ws (n_v vs 0) 8) (w_fi ws (n_v vs 0) 164) (w_fi ws (n_v vs 0) 165) (w_fi ws (n_v vs 0) 159) (w_fi w1 (n_v vs 0) 158) (w_ei w1 (w_ar ws (n_v vs 0) 160)) (w_ei w1 (w_ar ws (n_v vs 0) 161)) (w_fi w1 (n_v vs 0) 8) (w_fi w1 (n_v vs 0) 157) (w_fi w1 (n_v vs 0) 164) (w_fi w1 (n_v vs 0) 165) (w_fi w1 (n_v vs 0) 159) (w_ei w1 (w_ar ws (n_v vs 0) 162)) (w_ei w1 (w_ar ws (n_v vs 0) 163)) (w_ei w1 (w_ar ws (n_v vs 0) 1)) (w_fi w1 (n_v vs 0) 10) (w_fi ws (n_v vs 0) 10) (w_fi ws (n_v vs 0) 157) (w_ei ws (w_ar ws (n_v vs 0) 1)) (w_ei ws (w_ar ws (n_v vs 0) 160)) (w_ei ws (w_ar ws (n_v vs 0) 161)) (w_ei ws (w_ar ws (n_v vs 0) 162)) (w_ei ws (w_ar ws (n_v vs 0) 163)) (v_iv (Value.int x)) (v_iv (Value.int y)) (v_iv (Value.int u)) k1 k2 k3 k6 k7 k8 k9 k10 k11 k12 k13 k14 k15 d0 g0 f1 f2 f3 f4 f5 f6 f7 f10 g11 f12 f13 f14 f15 f16 f17 f18 f19 f20 f21 f22 f23 f24 f25 f26 f27 f28 fe_0_8_1 fe_0_10_1 fe_0_157_1 fe_0_158_1 fe_0_159_1 fe_0_164_1 fe_0_165_1 hE_0_1_1 hK_0_1 hE_0_160_1 hK_0_160 hE_0_161_1 hE_0_162_1 hK_0_162 hE_0_163_1 hK_0_163 kz_0_8 kz_0_10 kz_0_157 kz_0_158 kz_0_159 kz_0_164 kz_0_165 ex2 ex3 ey2 ey3 eu2 eu3
  have nf2 : fc_1 PRD (20, [4, 16], [30, 0, -1, 1, 158, 1, 0, 0]) ws (vs ++ [Value.int x, Value.int y, Value.int u]) := by
    refine ⟨nf_inA hl rfl, sgq_298 ?_⟩
    · show (-1) * w_fi ws (n_v (vs ++ [Value.int x, Value.int y, Value.int u]) 4) 158 + (1 * v_iv (n_v (vs ++ [Value.int x, Value.int y, Value.int u]) 16) + 0) ≤ 0
      simp only [e_4, e_16, q4]
      exact vc_Mo_product_at_f0_19_2 (v_iv (n_v vs 1)) (v_iv (n_v vs 2)) (v_iv (n_v vs 3)) (v_iv (n_v vs 6)) (v_iv (n_v vs 7)) (v_iv (n_v vs 8)) (v_iv (n_v vs 9)) (v_iv (n_v vs 10)) (v_iv (n_v vs 11)) (v_iv (n_v vs 12)) (v_iv (n_v vs 13)) (v_iv (n_v vs 14)) (v_iv (n_v vs 15)) (w_fi ws (n_v vs 0) 158) (w_fi ws (n_v vs 0) 8) (w_fi ws (n_v vs 0) 164) (w_fi ws (n_v vs 0) 165) (w_fi ws (n_v vs 0) 159) (w_fi w1 (n_v vs 0) 158) (w_ei w1 (w_ar ws (n_v vs 0) 160)) (w_ei w1 (w_ar ws (n_v vs 0) 161)) (w_fi w1 (n_v vs 0) 8) (w_fi w1 (n_v vs 0) 157) (w_fi w1 (n_v vs 0) 164) (w_fi w1 (n_v vs 0) 165) (w_fi w1 (n_v vs 0) 159) (w_ei w1 (w_ar ws (n_v vs 0) 162)) (w_ei w1 (w_ar ws (n_v vs 0) 163)) (w_ei w1 (w_ar ws (n_v vs 0) 1)) (w_fi w1 (n_v vs 0) 10) (w_fi ws (n_v vs 0) 10) (w_fi ws (n_v vs 0) 157) (w_ei ws (w_ar ws (n_v vs 0) 1)) (w_ei ws (w_ar ws (n_v vs 0) 160)) (w_ei ws (w_ar ws (n_v vs 0) 161)) (w_ei ws (w_ar ws (n_v vs 0) 162)) (w_ei ws (w_ar ws (n_v vs 0) 163)) (v_iv (Value.int x)) (v_iv (Value.int y)) (v_iv (Value.int u)) k1 k2 k3 k6 k7 k8 k9 k10 k11 k12 k13 k14 k15 d0 g0 f1 f2 f3 f4 f5 f6 f7 f10 g11 f12 f13 f14 f15 f16 f17 f18 f19 f20 f21 f22 f23 f24 f25 f26 f27 f28 fe_0_8_1 fe_0_10_1 fe_0_157_1 fe_0_158_1 fe_0_159_1 fe_0_164_1 fe_0_165_1 hE_0_1_1 hK_0_1 hE_0_160_1 hK_0_160 hE_0_161_1 hE_0_162_1 hK_0_162 hE_0_163_1 hK_0_163 kz_0_8 kz_0_10 kz_0_157 kz_0_158 kz_0_159 kz_0_164 kz_0_165 ex2 ex3 ey2 ey3 eu2 eu3
  have nf3 : fc_1 PRD (20, [4], [50, 2, 0, 164, 165, 4, 7, 1, 3, 2, 0, 164, 0, 0, 0, 3, 2, 0, 165, 0, 23]) ws (vs ++ [Value.int x, Value.int y, Value.int u]) := by
    refine ⟨nf_inA hl rfl, sgq_299 ?_⟩
    · show (w_fi ws (n_v (vs ++ [Value.int x, Value.int y, Value.int u]) 4) 164 = 0) → (w_fi ws (n_v (vs ++ [Value.int x, Value.int y, Value.int u]) 4) 165 ≤ 23)
      simp only [e_4, q4]
      exact vc_Mo_product_at_f0_19_3 (v_iv (n_v vs 1)) (v_iv (n_v vs 2)) (v_iv (n_v vs 3)) (v_iv (n_v vs 6)) (v_iv (n_v vs 7)) (v_iv (n_v vs 8)) (v_iv (n_v vs 9)) (v_iv (n_v vs 10)) (v_iv (n_v vs 11)) (v_iv (n_v vs 12)) (v_iv (n_v vs 13)) (v_iv (n_v vs 14)) (v_iv (n_v vs 15)) (w_fi ws (n_v vs 0) 158) (w_fi ws (n_v vs 0) 8) (w_fi ws (n_v vs 0) 164) (w_fi ws (n_v vs 0) 165) (w_fi ws (n_v vs 0) 159) (w_fi w1 (n_v vs 0) 158) (w_ei w1 (w_ar ws (n_v vs 0) 160)) (w_ei w1 (w_ar ws (n_v vs 0) 161)) (w_fi w1 (n_v vs 0) 8) (w_fi w1 (n_v vs 0) 157) (w_fi w1 (n_v vs 0) 164) (w_fi w1 (n_v vs 0) 165) (w_fi w1 (n_v vs 0) 159) (w_ei w1 (w_ar ws (n_v vs 0) 162)) (w_ei w1 (w_ar ws (n_v vs 0) 163)) (w_ei w1 (w_ar ws (n_v vs 0) 1)) (w_fi w1 (n_v vs 0) 10) (w_fi ws (n_v vs 0) 10) (w_fi ws (n_v vs 0) 157) (w_ei ws (w_ar ws (n_v vs 0) 1)) (w_ei ws (w_ar ws (n_v vs 0) 160)) (w_ei ws (w_ar ws (n_v vs 0) 161)) (w_ei ws (w_ar ws (n_v vs 0) 162)) (w_ei ws (w_ar ws (n_v vs 0) 163)) (v_iv (Value.int x)) (v_iv (Value.int y)) (v_iv (Value.int u)) k1 k2 k3 k6 k7 k8 k9 k10 k11 k12 k13 k14 k15 d0 g0 f1 f2 f3 f4 f5 f6 f7 f10 g11 f12 f13 f14 f15 f16 f17 f18 f19 f20 f21 f22 f23 f24 f25 f26 f27 f28 fe_0_8_1 fe_0_10_1 fe_0_157_1 fe_0_158_1 fe_0_159_1 fe_0_164_1 fe_0_165_1 hE_0_1_1 hK_0_1 hE_0_160_1 hK_0_160 hE_0_161_1 hE_0_162_1 hK_0_162 hE_0_163_1 hK_0_163 kz_0_8 kz_0_10 kz_0_157 kz_0_158 kz_0_159 kz_0_164 kz_0_165 ex2 ex3 ey2 ey3 eu2 eu3
  have nf4 : fc_1 PRD (20, [4], [30, 0, 1, 1, 159]) ws (vs ++ [Value.int x, Value.int y, Value.int u]) := by
    refine ⟨nf_inA hl rfl, sgq_999 ?_⟩
    · show 1 * w_fi ws (n_v (vs ++ [Value.int x, Value.int y, Value.int u]) 4) 159 + 0 ≤ 0
      simp only [e_4, q4]
      exact vc_Mo_product_at_f0_19_4 (v_iv (n_v vs 1)) (v_iv (n_v vs 2)) (v_iv (n_v vs 3)) (v_iv (n_v vs 6)) (v_iv (n_v vs 7)) (v_iv (n_v vs 8)) (v_iv (n_v vs 9)) (v_iv (n_v vs 10)) (v_iv (n_v vs 11)) (v_iv (n_v vs 12)) (v_iv (n_v vs 13)) (v_iv (n_v vs 14)) (v_iv (n_v vs 15)) (w_fi ws (n_v vs 0) 158) (w_fi ws (n_v vs 0) 8) (w_fi ws (n_v vs 0) 164) (w_fi ws (n_v vs 0) 165) (w_fi ws (n_v vs 0) 159) (w_fi w1 (n_v vs 0) 158) (w_ei w1 (w_ar ws (n_v vs 0) 160)) (w_ei w1 (w_ar ws (n_v vs 0) 161)) (w_fi w1 (n_v vs 0) 8) (w_fi w1 (n_v vs 0) 157) (w_fi w1 (n_v vs 0) 164) (w_fi w1 (n_v vs 0) 165) (w_fi w1 (n_v vs 0) 159) (w_ei w1 (w_ar ws (n_v vs 0) 162)) (w_ei w1 (w_ar ws (n_v vs 0) 163)) (w_ei w1 (w_ar ws (n_v vs 0) 1)) (w_fi w1 (n_v vs 0) 10) (w_fi ws (n_v vs 0) 10) (w_fi ws (n_v vs 0) 157) (w_ei ws (w_ar ws (n_v vs 0) 1)) (w_ei ws (w_ar ws (n_v vs 0) 160)) (w_ei ws (w_ar ws (n_v vs 0) 161)) (w_ei ws (w_ar ws (n_v vs 0) 162)) (w_ei ws (w_ar ws (n_v vs 0) 163)) (v_iv (Value.int x)) (v_iv (Value.int y)) (v_iv (Value.int u)) k1 k2 k3 k6 k7 k8 k9 k10 k11 k12 k13 k14 k15 d0 g0 f1 f2 f3 f4 f5 f6 f7 f10 g11 f12 f13 f14 f15 f16 f17 f18 f19 f20 f21 f22 f23 f24 f25 f26 f27 f28 fe_0_8_1 fe_0_10_1 fe_0_157_1 fe_0_158_1 fe_0_159_1 fe_0_164_1 fe_0_165_1 hE_0_1_1 hK_0_1 hE_0_160_1 hK_0_160 hE_0_161_1 hE_0_162_1 hK_0_162 hE_0_163_1 hK_0_163 kz_0_8 kz_0_10 kz_0_157 kz_0_158 kz_0_159 kz_0_164 kz_0_165 ex2 ex3 ey2 ey3 eu2 eu3
  have nf5 : fc_1 PRD (20, [4], [30, 0, -1, 1, 159]) ws (vs ++ [Value.int x, Value.int y, Value.int u]) := by
    refine ⟨nf_inA hl rfl, sgq_1000 ?_⟩
    · show (-1) * w_fi ws (n_v (vs ++ [Value.int x, Value.int y, Value.int u]) 4) 159 + 0 ≤ 0
      simp only [e_4, q4]
      exact vc_Mo_product_at_f0_19_5 (v_iv (n_v vs 1)) (v_iv (n_v vs 2)) (v_iv (n_v vs 3)) (v_iv (n_v vs 6)) (v_iv (n_v vs 7)) (v_iv (n_v vs 8)) (v_iv (n_v vs 9)) (v_iv (n_v vs 10)) (v_iv (n_v vs 11)) (v_iv (n_v vs 12)) (v_iv (n_v vs 13)) (v_iv (n_v vs 14)) (v_iv (n_v vs 15)) (w_fi ws (n_v vs 0) 158) (w_fi ws (n_v vs 0) 8) (w_fi ws (n_v vs 0) 164) (w_fi ws (n_v vs 0) 165) (w_fi ws (n_v vs 0) 159) (w_fi w1 (n_v vs 0) 158) (w_ei w1 (w_ar ws (n_v vs 0) 160)) (w_ei w1 (w_ar ws (n_v vs 0) 161)) (w_fi w1 (n_v vs 0) 8) (w_fi w1 (n_v vs 0) 157) (w_fi w1 (n_v vs 0) 164) (w_fi w1 (n_v vs 0) 165) (w_fi w1 (n_v vs 0) 159) (w_ei w1 (w_ar ws (n_v vs 0) 162)) (w_ei w1 (w_ar ws (n_v vs 0) 163)) (w_ei w1 (w_ar ws (n_v vs 0) 1)) (w_fi w1 (n_v vs 0) 10) (w_fi ws (n_v vs 0) 10) (w_fi ws (n_v vs 0) 157) (w_ei ws (w_ar ws (n_v vs 0) 1)) (w_ei ws (w_ar ws (n_v vs 0) 160)) (w_ei ws (w_ar ws (n_v vs 0) 161)) (w_ei ws (w_ar ws (n_v vs 0) 162)) (w_ei ws (w_ar ws (n_v vs 0) 163)) (v_iv (Value.int x)) (v_iv (Value.int y)) (v_iv (Value.int u)) k1 k2 k3 k6 k7 k8 k9 k10 k11 k12 k13 k14 k15 d0 g0 f1 f2 f3 f4 f5 f6 f7 f10 g11 f12 f13 f14 f15 f16 f17 f18 f19 f20 f21 f22 f23 f24 f25 f26 f27 f28 fe_0_8_1 fe_0_10_1 fe_0_157_1 fe_0_158_1 fe_0_159_1 fe_0_164_1 fe_0_165_1 hE_0_1_1 hK_0_1 hE_0_160_1 hK_0_160 hE_0_161_1 hE_0_162_1 hK_0_162 hE_0_163_1 hK_0_163 kz_0_8 kz_0_10 kz_0_157 kz_0_158 kz_0_159 kz_0_164 kz_0_165 ex2 ex3 ey2 ey3 eu2 eu3
  have nf6 : fc_1 PRD (20, [4, 17], [50, 1, 0, 8, 1, 3, 2, 0, 8, 1, 1]) ws (vs ++ [Value.int x, Value.int y, Value.int u]) := by
    refine ⟨nf_inA hl rfl, sgq_302 ?_⟩
    · show w_fi ws (n_v (vs ++ [Value.int x, Value.int y, Value.int u]) 4) 8 = v_iv (n_v (vs ++ [Value.int x, Value.int y, Value.int u]) 17)
      simp only [e_4, e_17, q4]
      exact vc_Mo_product_at_f0_19_6 (v_iv (n_v vs 1)) (v_iv (n_v vs 2)) (v_iv (n_v vs 3)) (v_iv (n_v vs 6)) (v_iv (n_v vs 7)) (v_iv (n_v vs 8)) (v_iv (n_v vs 9)) (v_iv (n_v vs 10)) (v_iv (n_v vs 11)) (v_iv (n_v vs 12)) (v_iv (n_v vs 13)) (v_iv (n_v vs 14)) (v_iv (n_v vs 15)) (w_fi ws (n_v vs 0) 158) (w_fi ws (n_v vs 0) 8) (w_fi ws (n_v vs 0) 164) (w_fi ws (n_v vs 0) 165) (w_fi ws (n_v vs 0) 159) (w_fi w1 (n_v vs 0) 158) (w_ei w1 (w_ar ws (n_v vs 0) 160)) (w_ei w1 (w_ar ws (n_v vs 0) 161)) (w_fi w1 (n_v vs 0) 8) (w_fi w1 (n_v vs 0) 157) (w_fi w1 (n_v vs 0) 164) (w_fi w1 (n_v vs 0) 165) (w_fi w1 (n_v vs 0) 159) (w_ei w1 (w_ar ws (n_v vs 0) 162)) (w_ei w1 (w_ar ws (n_v vs 0) 163)) (w_ei w1 (w_ar ws (n_v vs 0) 1)) (w_fi w1 (n_v vs 0) 10) (w_fi ws (n_v vs 0) 10) (w_fi ws (n_v vs 0) 157) (w_ei ws (w_ar ws (n_v vs 0) 1)) (w_ei ws (w_ar ws (n_v vs 0) 160)) (w_ei ws (w_ar ws (n_v vs 0) 161)) (w_ei ws (w_ar ws (n_v vs 0) 162)) (w_ei ws (w_ar ws (n_v vs 0) 163)) (v_iv (Value.int x)) (v_iv (Value.int y)) (v_iv (Value.int u)) k1 k2 k3 k6 k7 k8 k9 k10 k11 k12 k13 k14 k15 d0 g0 f1 f2 f3 f4 f5 f6 f7 f10 g11 f12 f13 f14 f15 f16 f17 f18 f19 f20 f21 f22 f23 f24 f25 f26 f27 f28 fe_0_8_1 fe_0_10_1 fe_0_157_1 fe_0_158_1 fe_0_159_1 fe_0_164_1 fe_0_165_1 hE_0_1_1 hK_0_1 hE_0_160_1 hK_0_160 hE_0_161_1 hE_0_162_1 hK_0_162 hE_0_163_1 hK_0_163 kz_0_8 kz_0_10 kz_0_157 kz_0_158 kz_0_159 kz_0_164 kz_0_165 ex2 ex3 ey2 ey3 eu2 eu3
  have nf7 : fc_1 PRD (20, [4, 18], [50, 1, 0, 159, 1, 3, 2, 0, 159, 1, 1]) ws (vs ++ [Value.int x, Value.int y, Value.int u]) := by
    refine ⟨nf_inA hl rfl, sgq_303 ?_⟩
    · show w_fi ws (n_v (vs ++ [Value.int x, Value.int y, Value.int u]) 4) 159 = v_iv (n_v (vs ++ [Value.int x, Value.int y, Value.int u]) 18)
      simp only [e_4, e_18, q4]
      exact vc_Mo_product_at_f0_19_7 (v_iv (n_v vs 1)) (v_iv (n_v vs 2)) (v_iv (n_v vs 3)) (v_iv (n_v vs 6)) (v_iv (n_v vs 7)) (v_iv (n_v vs 8)) (v_iv (n_v vs 9)) (v_iv (n_v vs 10)) (v_iv (n_v vs 11)) (v_iv (n_v vs 12)) (v_iv (n_v vs 13)) (v_iv (n_v vs 14)) (v_iv (n_v vs 15)) (w_fi ws (n_v vs 0) 158) (w_fi ws (n_v vs 0) 8) (w_fi ws (n_v vs 0) 164) (w_fi ws (n_v vs 0) 165) (w_fi ws (n_v vs 0) 159) (w_fi w1 (n_v vs 0) 158) (w_ei w1 (w_ar ws (n_v vs 0) 160)) (w_ei w1 (w_ar ws (n_v vs 0) 161)) (w_fi w1 (n_v vs 0) 8) (w_fi w1 (n_v vs 0) 157) (w_fi w1 (n_v vs 0) 164) (w_fi w1 (n_v vs 0) 165) (w_fi w1 (n_v vs 0) 159) (w_ei w1 (w_ar ws (n_v vs 0) 162)) (w_ei w1 (w_ar ws (n_v vs 0) 163)) (w_ei w1 (w_ar ws (n_v vs 0) 1)) (w_fi w1 (n_v vs 0) 10) (w_fi ws (n_v vs 0) 10) (w_fi ws (n_v vs 0) 157) (w_ei ws (w_ar ws (n_v vs 0) 1)) (w_ei ws (w_ar ws (n_v vs 0) 160)) (w_ei ws (w_ar ws (n_v vs 0) 161)) (w_ei ws (w_ar ws (n_v vs 0) 162)) (w_ei ws (w_ar ws (n_v vs 0) 163)) (v_iv (Value.int x)) (v_iv (Value.int y)) (v_iv (Value.int u)) k1 k2 k3 k6 k7 k8 k9 k10 k11 k12 k13 k14 k15 d0 g0 f1 f2 f3 f4 f5 f6 f7 f10 g11 f12 f13 f14 f15 f16 f17 f18 f19 f20 f21 f22 f23 f24 f25 f26 f27 f28 fe_0_8_1 fe_0_10_1 fe_0_157_1 fe_0_158_1 fe_0_159_1 fe_0_164_1 fe_0_165_1 hE_0_1_1 hK_0_1 hE_0_160_1 hK_0_160 hE_0_161_1 hE_0_162_1 hK_0_162 hE_0_163_1 hK_0_163 kz_0_8 kz_0_10 kz_0_157 kz_0_158 kz_0_159 kz_0_164 kz_0_165 ex2 ex3 ey2 ey3 eu2 eu3
  have nf8 : fc_1 PRD (23, [1, 16], [0, 1, -1]) ws (vs ++ [Value.int x, Value.int y, Value.int u]) := by
    refine ⟨nf_inA hl rfl, sgq_7 ?_⟩
    · show 1 * v_iv (n_v (vs ++ [Value.int x, Value.int y, Value.int u]) 1) + ((-1) * v_iv (n_v (vs ++ [Value.int x, Value.int y, Value.int u]) 16) + 0) ≤ 0
      simp only [e_1, e_16]
      exact vc_Mo_product_at_f0_19_8 (v_iv (n_v vs 1)) (v_iv (n_v vs 2)) (v_iv (n_v vs 3)) (v_iv (n_v vs 6)) (v_iv (n_v vs 7)) (v_iv (n_v vs 8)) (v_iv (n_v vs 9)) (v_iv (n_v vs 10)) (v_iv (n_v vs 11)) (v_iv (n_v vs 12)) (v_iv (n_v vs 13)) (v_iv (n_v vs 14)) (v_iv (n_v vs 15)) (w_fi ws (n_v vs 0) 158) (w_fi ws (n_v vs 0) 8) (w_fi ws (n_v vs 0) 164) (w_fi ws (n_v vs 0) 165) (w_fi ws (n_v vs 0) 159) (w_fi w1 (n_v vs 0) 158) (w_ei w1 (w_ar ws (n_v vs 0) 160)) (w_ei w1 (w_ar ws (n_v vs 0) 161)) (w_fi w1 (n_v vs 0) 8) (w_fi w1 (n_v vs 0) 157) (w_fi w1 (n_v vs 0) 164) (w_fi w1 (n_v vs 0) 165) (w_fi w1 (n_v vs 0) 159) (w_ei w1 (w_ar ws (n_v vs 0) 162)) (w_ei w1 (w_ar ws (n_v vs 0) 163)) (w_ei w1 (w_ar ws (n_v vs 0) 1)) (w_fi w1 (n_v vs 0) 10) (w_fi ws (n_v vs 0) 10) (w_fi ws (n_v vs 0) 157) (w_ei ws (w_ar ws (n_v vs 0) 1)) (w_ei ws (w_ar ws (n_v vs 0) 160)) (w_ei ws (w_ar ws (n_v vs 0) 161)) (w_ei ws (w_ar ws (n_v vs 0) 162)) (w_ei ws (w_ar ws (n_v vs 0) 163)) (v_iv (Value.int x)) (v_iv (Value.int y)) (v_iv (Value.int u)) k1 k2 k3 k6 k7 k8 k9 k10 k11 k12 k13 k14 k15 d0 g0 f1 f2 f3 f4 f5 f6 f7 f10 g11 f12 f13 f14 f15 f16 f17 f18 f19 f20 f21 f22 f23 f24 f25 f26 f27 f28 fe_0_8_1 fe_0_10_1 fe_0_157_1 fe_0_158_1 fe_0_159_1 fe_0_164_1 fe_0_165_1 hE_0_1_1 hK_0_1 hE_0_160_1 hK_0_160 hE_0_161_1 hE_0_162_1 hK_0_162 hE_0_163_1 hK_0_163 kz_0_8 kz_0_10 kz_0_157 kz_0_158 kz_0_159 kz_0_164 kz_0_165 ex2 ex3 ey2 ey3 eu2 eu3
  have nf9 : fc_1 PRD (23, [7, 16], [-2011, -1, -1]) ws (vs ++ [Value.int x, Value.int y, Value.int u]) := by
    refine ⟨nf_inA hl rfl, sgq_315 ?_⟩
    · show (-1) * v_iv (n_v (vs ++ [Value.int x, Value.int y, Value.int u]) 7) + ((-1) * v_iv (n_v (vs ++ [Value.int x, Value.int y, Value.int u]) 16) + 0) ≤ (-2011)
      simp only [e_7, e_16]
      exact vc_Mo_product_at_f0_19_9 (v_iv (n_v vs 1)) (v_iv (n_v vs 2)) (v_iv (n_v vs 3)) (v_iv (n_v vs 6)) (v_iv (n_v vs 7)) (v_iv (n_v vs 8)) (v_iv (n_v vs 9)) (v_iv (n_v vs 10)) (v_iv (n_v vs 11)) (v_iv (n_v vs 12)) (v_iv (n_v vs 13)) (v_iv (n_v vs 14)) (v_iv (n_v vs 15)) (w_fi ws (n_v vs 0) 158) (w_fi ws (n_v vs 0) 8) (w_fi ws (n_v vs 0) 164) (w_fi ws (n_v vs 0) 165) (w_fi ws (n_v vs 0) 159) (w_fi w1 (n_v vs 0) 158) (w_ei w1 (w_ar ws (n_v vs 0) 160)) (w_ei w1 (w_ar ws (n_v vs 0) 161)) (w_fi w1 (n_v vs 0) 8) (w_fi w1 (n_v vs 0) 157) (w_fi w1 (n_v vs 0) 164) (w_fi w1 (n_v vs 0) 165) (w_fi w1 (n_v vs 0) 159) (w_ei w1 (w_ar ws (n_v vs 0) 162)) (w_ei w1 (w_ar ws (n_v vs 0) 163)) (w_ei w1 (w_ar ws (n_v vs 0) 1)) (w_fi w1 (n_v vs 0) 10) (w_fi ws (n_v vs 0) 10) (w_fi ws (n_v vs 0) 157) (w_ei ws (w_ar ws (n_v vs 0) 1)) (w_ei ws (w_ar ws (n_v vs 0) 160)) (w_ei ws (w_ar ws (n_v vs 0) 161)) (w_ei ws (w_ar ws (n_v vs 0) 162)) (w_ei ws (w_ar ws (n_v vs 0) 163)) (v_iv (Value.int x)) (v_iv (Value.int y)) (v_iv (Value.int u)) k1 k2 k3 k6 k7 k8 k9 k10 k11 k12 k13 k14 k15 d0 g0 f1 f2 f3 f4 f5 f6 f7 f10 g11 f12 f13 f14 f15 f16 f17 f18 f19 f20 f21 f22 f23 f24 f25 f26 f27 f28 fe_0_8_1 fe_0_10_1 fe_0_157_1 fe_0_158_1 fe_0_159_1 fe_0_164_1 fe_0_165_1 hE_0_1_1 hK_0_1 hE_0_160_1 hK_0_160 hE_0_161_1 hE_0_162_1 hK_0_162 hE_0_163_1 hK_0_163 kz_0_8 kz_0_10 kz_0_157 kz_0_158 kz_0_159 kz_0_164 kz_0_165 ex2 ex3 ey2 ey3 eu2 eu3
  have nf10 : fc_1 PRD (20, [4, 16, 17, 1, 2, 3], [60, 2, 5, 10, 164, 10, 160, 161, 162, 163, 1]) ws (vs ++ [Value.int x, Value.int y, Value.int u]) := by
    refine ⟨nf_inA hl rfl, sgq_344 ?_⟩
    · show GPW (w_fi ws (n_v (vs ++ [Value.int x, Value.int y, Value.int u]) 4) 164) (w_fi ws (n_v (vs ++ [Value.int x, Value.int y, Value.int u]) 4) 10) (w_ei ws (w_ar ws (n_v (vs ++ [Value.int x, Value.int y, Value.int u]) 4) 160)) (w_ei ws (w_ar ws (n_v (vs ++ [Value.int x, Value.int y, Value.int u]) 4) 161)) (w_ei ws (w_ar ws (n_v (vs ++ [Value.int x, Value.int y, Value.int u]) 4) 162)) (w_ei ws (w_ar ws (n_v (vs ++ [Value.int x, Value.int y, Value.int u]) 4) 163)) (w_ei ws (w_ar ws (n_v (vs ++ [Value.int x, Value.int y, Value.int u]) 4) 1)) (v_iv (n_v (vs ++ [Value.int x, Value.int y, Value.int u]) 16)) (v_iv (n_v (vs ++ [Value.int x, Value.int y, Value.int u]) 17)) (v_iv (n_v (vs ++ [Value.int x, Value.int y, Value.int u]) 1)) (v_iv (n_v (vs ++ [Value.int x, Value.int y, Value.int u]) 2)) (v_iv (n_v (vs ++ [Value.int x, Value.int y, Value.int u]) 3))
      simp only [e_1, e_2, e_3, e_4, e_16, e_17, q4]
      exact vc_Mo_product_at_f0_19_10 (v_iv (n_v vs 1)) (v_iv (n_v vs 2)) (v_iv (n_v vs 3)) (v_iv (n_v vs 6)) (v_iv (n_v vs 8)) (v_iv (n_v vs 9)) (v_iv (n_v vs 10)) (v_iv (n_v vs 11)) (v_iv (n_v vs 12)) (v_iv (n_v vs 13)) (v_iv (n_v vs 15)) (w_fi ws (n_v vs 0) 158) (w_fi ws (n_v vs 0) 8) (w_fi ws (n_v vs 0) 164) (w_fi ws (n_v vs 0) 165) (w_fi ws (n_v vs 0) 159) (w_fi w1 (n_v vs 0) 158) (w_ei w1 (w_ar ws (n_v vs 0) 160)) (w_ei w1 (w_ar ws (n_v vs 0) 161)) (w_fi w1 (n_v vs 0) 8) (w_fi w1 (n_v vs 0) 157) (w_fi w1 (n_v vs 0) 164) (w_fi w1 (n_v vs 0) 165) (w_fi w1 (n_v vs 0) 159) (w_ei w1 (w_ar ws (n_v vs 0) 162)) (w_ei w1 (w_ar ws (n_v vs 0) 163)) (w_ei w1 (w_ar ws (n_v vs 0) 1)) (w_fi w1 (n_v vs 0) 10) (w_fi ws (n_v vs 0) 10) (w_fi ws (n_v vs 0) 157) (w_ei ws (w_ar ws (n_v vs 0) 1)) (w_ei ws (w_ar ws (n_v vs 0) 160)) (w_ei ws (w_ar ws (n_v vs 0) 161)) (w_ei ws (w_ar ws (n_v vs 0) 162)) (w_ei ws (w_ar ws (n_v vs 0) 163)) (v_iv (Value.int x)) (v_iv (Value.int y)) k1 k2 k3 k6 k8 k9 k10 k15 d0 g0 f2 g11 f15 f17 f24 fe_0_8_1 fe_0_10_1 fe_0_157_1 fe_0_159_1 fe_0_164_1 fe_0_165_1 hE_0_1_1 hE_0_160_1 hE_0_161_1 hE_0_162_1 hE_0_163_1 kz_0_8 kz_0_10 kz_0_157 kz_0_158 kz_0_159 kz_0_164 kz_0_165 ex2 ey2
  have nf11 : fc_1 PRD (23, [18], [0, 1]) ws (vs ++ [Value.int x, Value.int y, Value.int u]) := by
    refine ⟨nf_inA hl rfl, sgq_1477 ?_⟩
    · show 1 * v_iv (n_v (vs ++ [Value.int x, Value.int y, Value.int u]) 18) + 0 ≤ 0
      rw [e_18]
      exact vc_Mo_product_at_f0_19_11 (v_iv (n_v vs 1)) (v_iv (n_v vs 2)) (v_iv (n_v vs 3)) (v_iv (n_v vs 6)) (v_iv (n_v vs 7)) (v_iv (n_v vs 8)) (v_iv (n_v vs 9)) (v_iv (n_v vs 10)) (v_iv (n_v vs 11)) (v_iv (n_v vs 12)) (v_iv (n_v vs 13)) (v_iv (n_v vs 14)) (v_iv (n_v vs 15)) (w_fi ws (n_v vs 0) 158) (w_fi ws (n_v vs 0) 8) (w_fi ws (n_v vs 0) 164) (w_fi ws (n_v vs 0) 165) (w_fi ws (n_v vs 0) 159) (w_fi w1 (n_v vs 0) 158) (w_ei w1 (w_ar ws (n_v vs 0) 160)) (w_ei w1 (w_ar ws (n_v vs 0) 161)) (w_fi w1 (n_v vs 0) 8) (w_fi w1 (n_v vs 0) 157) (w_fi w1 (n_v vs 0) 164) (w_fi w1 (n_v vs 0) 165) (w_fi w1 (n_v vs 0) 159) (w_ei w1 (w_ar ws (n_v vs 0) 162)) (w_ei w1 (w_ar ws (n_v vs 0) 163)) (w_ei w1 (w_ar ws (n_v vs 0) 1)) (w_fi w1 (n_v vs 0) 10) (w_fi ws (n_v vs 0) 10) (w_fi ws (n_v vs 0) 157) (w_ei ws (w_ar ws (n_v vs 0) 1)) (w_ei ws (w_ar ws (n_v vs 0) 160)) (w_ei ws (w_ar ws (n_v vs 0) 161)) (w_ei ws (w_ar ws (n_v vs 0) 162)) (w_ei ws (w_ar ws (n_v vs 0) 163)) (v_iv (Value.int x)) (v_iv (Value.int y)) (v_iv (Value.int u)) k1 k2 k3 k6 k7 k8 k9 k10 k11 k12 k13 k14 k15 d0 g0 f1 f2 f3 f4 f5 f6 f7 f10 g11 f12 f13 f14 f15 f16 f17 f18 f19 f20 f21 f22 f23 f24 f25 f26 f27 f28 fe_0_8_1 fe_0_10_1 fe_0_157_1 fe_0_158_1 fe_0_159_1 fe_0_164_1 fe_0_165_1 hE_0_1_1 hK_0_1 hE_0_160_1 hK_0_160 hE_0_161_1 hE_0_162_1 hK_0_162 hE_0_163_1 hK_0_163 kz_0_8 kz_0_10 kz_0_157 kz_0_158 kz_0_159 kz_0_164 kz_0_165 ex2 ex3 ey2 ey3 eu2 eu3
  have nf12 : fc_1 PRD (23, [18], [0, -1]) ws (vs ++ [Value.int x, Value.int y, Value.int u]) := by
    refine ⟨nf_inA hl rfl, sgq_1013 ?_⟩
    · show (-1) * v_iv (n_v (vs ++ [Value.int x, Value.int y, Value.int u]) 18) + 0 ≤ 0
      rw [e_18]
      exact vc_Mo_product_at_f0_19_12 (v_iv (n_v vs 1)) (v_iv (n_v vs 2)) (v_iv (n_v vs 3)) (v_iv (n_v vs 6)) (v_iv (n_v vs 7)) (v_iv (n_v vs 8)) (v_iv (n_v vs 9)) (v_iv (n_v vs 10)) (v_iv (n_v vs 11)) (v_iv (n_v vs 12)) (v_iv (n_v vs 13)) (v_iv (n_v vs 14)) (v_iv (n_v vs 15)) (w_fi ws (n_v vs 0) 158) (w_fi ws (n_v vs 0) 8) (w_fi ws (n_v vs 0) 164) (w_fi ws (n_v vs 0) 165) (w_fi ws (n_v vs 0) 159) (w_fi w1 (n_v vs 0) 158) (w_ei w1 (w_ar ws (n_v vs 0) 160)) (w_ei w1 (w_ar ws (n_v vs 0) 161)) (w_fi w1 (n_v vs 0) 8) (w_fi w1 (n_v vs 0) 157) (w_fi w1 (n_v vs 0) 164) (w_fi w1 (n_v vs 0) 165) (w_fi w1 (n_v vs 0) 159) (w_ei w1 (w_ar ws (n_v vs 0) 162)) (w_ei w1 (w_ar ws (n_v vs 0) 163)) (w_ei w1 (w_ar ws (n_v vs 0) 1)) (w_fi w1 (n_v vs 0) 10) (w_fi ws (n_v vs 0) 10) (w_fi ws (n_v vs 0) 157) (w_ei ws (w_ar ws (n_v vs 0) 1)) (w_ei ws (w_ar ws (n_v vs 0) 160)) (w_ei ws (w_ar ws (n_v vs 0) 161)) (w_ei ws (w_ar ws (n_v vs 0) 162)) (w_ei ws (w_ar ws (n_v vs 0) 163)) (v_iv (Value.int x)) (v_iv (Value.int y)) (v_iv (Value.int u)) k1 k2 k3 k6 k7 k8 k9 k10 k11 k12 k13 k14 k15 d0 g0 f1 f2 f3 f4 f5 f6 f7 f10 g11 f12 f13 f14 f15 f16 f17 f18 f19 f20 f21 f22 f23 f24 f25 f26 f27 f28 fe_0_8_1 fe_0_10_1 fe_0_157_1 fe_0_158_1 fe_0_159_1 fe_0_164_1 fe_0_165_1 hE_0_1_1 hK_0_1 hE_0_160_1 hK_0_160 hE_0_161_1 hE_0_162_1 hK_0_162 hE_0_163_1 hK_0_163 kz_0_8 kz_0_10 kz_0_157 kz_0_158 kz_0_159 kz_0_164 kz_0_165 ex2 ex3 ey2 ey3 eu2 eu3
  exact ⟨(fun _ h => (by cases h)), [Value.int x, Value.int y, Value.int u], ag_three hx hy hu, List.forall_mem_cons.mpr ⟨⟨show (20 : Nat) < 100 from by decide, nf0⟩, List.forall_mem_cons.mpr ⟨⟨show (20 : Nat) < 100 from by decide, nf1⟩, List.forall_mem_cons.mpr ⟨⟨show (20 : Nat) < 100 from by decide, nf2⟩, List.forall_mem_cons.mpr ⟨⟨show (20 : Nat) < 100 from by decide, nf3⟩, List.forall_mem_cons.mpr ⟨⟨show (20 : Nat) < 100 from by decide, nf4⟩, List.forall_mem_cons.mpr ⟨⟨show (20 : Nat) < 100 from by decide, nf5⟩, List.forall_mem_cons.mpr ⟨⟨show (20 : Nat) < 100 from by decide, nf6⟩, List.forall_mem_cons.mpr ⟨⟨show (20 : Nat) < 100 from by decide, nf7⟩, List.forall_mem_cons.mpr ⟨⟨show (23 : Nat) < 100 from by decide, nf8⟩, List.forall_mem_cons.mpr ⟨⟨show (23 : Nat) < 100 from by decide, nf9⟩, List.forall_mem_cons.mpr ⟨⟨show (20 : Nat) < 100 from by decide, nf10⟩, List.forall_mem_cons.mpr ⟨⟨show (23 : Nat) < 100 from by decide, nf11⟩, List.forall_mem_cons.mpr ⟨⟨show (23 : Nat) < 100 from by decide, nf12⟩, (fun _ h => (by cases h))⟩⟩⟩⟩⟩⟩⟩⟩⟩⟩⟩⟩⟩, (fun _ h => (by cases h))⟩
set_option maxHeartbeats 4000000 in
theorem vc_Mo_product_at_f0_20_0 (x1 : Int) (x2 : Int) (x3 : Int) (x6 : Int) (x7 : Int) (x14 : Int) (x15 : Int) (x16 : Int) (x17 : Int) (x18 : Int) (styleKind_0 : Int) (styleOne_0 : Int) (tokenKind_0 : Int → Int) (tokenValue_0 : Int → Int) (tokenPlace_0 : Int → Int) (tokenEnd_0 : Int → Int) (tape_0 : Int → Int) (limit_0 : Int) (cur_0 : Int) (tokens_0 : Int) (opened_0 : Int) (fault_0 : Int) (gx : Int) (k1 : 0 ≤ x1 ∧ x1 ≤ 2009) (k2 : 0 ≤ x2 ∧ x2 ≤ 5) (k3 : 0 ≤ x3 ∧ x3 ≤ 13) (k6 : 0 ≤ x6 ∧ x6 ≤ 2009) (k7 : 0 ≤ x7 ∧ x7 ≤ 2010) (k14 : 1 ≤ x14 ∧ x14 ≤ 1) (k15 : 1 ≤ x15 ∧ x15 ≤ 2009) (k16 : 0 ≤ x16 ∧ x16 ≤ 2009) (k17 : 0 ≤ x17 ∧ x17 ≤ 5) (k18 : 0 ≤ x18 ∧ x18 ≤ 13) (d0 : x6 + 1 ≤ x15 ∧ x15 ≤ x6 + 1) (f0 : (styleKind_0 = 0) → (styleOne_0 ≤ 23)) (f1 : 1 * x1 + ((-1) * x16 + 0) ≤ 0) (f2 : (-1) * x7 + ((-1) * x16 + 0) ≤ (-2011)) (f3 : GPW (styleKind_0) (limit_0) (tokenKind_0) (tokenValue_0) (tokenPlace_0) (tokenEnd_0) (tape_0) (x16) (x17) (x1) (x2) (x3)) (f4 : 1 * x18 + 0 ≤ 0) (f5 : (-1) * x18 + 0 ≤ 0) (f6 : (styleKind_0 = 0) → (styleOne_0 ≤ 23)) (f7 : 1 * x3 + 0 ≤ 0) (f8 : (-1) * x3 + 0 ≤ 0) (f10 : ((cur_0 + 1) ≤ tokens_0) ∧ ((tokens_0 ≤ 2010) ∧ ((tokenKind_0 ((tokens_0 - 1)) = 0) ∨ (tokenKind_0 ((tokens_0 - 1)) = 4)))) (f11 : 1 * x16 + ((-1) * cur_0 + 0) ≤ 0) (f12 : 1 * opened_0 + 0 ≤ 0) (f13 : (-1) * opened_0 + 0 ≤ 0) (f14 : SVL (fault_0) (cur_0) (styleKind_0) (limit_0) (tokenKind_0) (tokenValue_0) (tokenPlace_0) (tokenEnd_0) (tape_0) (x16) (x17) (x18)) (f16 : 1 * x1 + ((-1) * x16 + 0) ≤ 0) (f17 : (-1) * x7 + ((-1) * x16 + 0) ≤ (-2011)) (f18 : 1 * x18 + 0 ≤ 0) (f19 : (-1) * x18 + 0 ≤ 0) (f20 : 1 * x3 + 0 ≤ 0) (f21 : (-1) * x3 + 0 ≤ 0) (f23 : x15 = x6 + x14) (f24 : 1 * x3 + 0 ≤ 0) (f25 : (-1) * x3 + 0 ≤ 0) (hK_0_1 : ∀ j : Int, 0 ≤ j → j < 2000 → (-128) ≤ tape_0 j ∧ tape_0 j ≤ 127) (hK_0_160 : ∀ j : Int, 0 ≤ j → j < 2010 → 0 ≤ tokenKind_0 j ∧ tokenKind_0 j ≤ 4) (hK_0_162 : ∀ j : Int, 0 ≤ j → j < 2010 → 0 ≤ tokenPlace_0 j ∧ tokenPlace_0 j ≤ 2000) (hK_0_163 : ∀ j : Int, 0 ≤ j → j < 2010 → 0 ≤ tokenEnd_0 j ∧ tokenEnd_0 j ≤ 2000) (kz_0_8 : 0 ≤ fault_0 ∧ fault_0 ≤ 5) (kz_0_10 : 0 ≤ limit_0 ∧ limit_0 ≤ 2000) (kz_0_157 : 0 ≤ tokens_0 ∧ tokens_0 ≤ 2010) (kz_0_158 : 0 ≤ cur_0 ∧ cur_0 ≤ 2009) (kz_0_159 : 0 ≤ opened_0 ∧ opened_0 ≤ 13) (kz_0_164 : 0 ≤ styleKind_0 ∧ styleKind_0 ≤ 1) (kz_0_165 : (-1) ≤ styleOne_0 ∧ styleOne_0 ≤ 47) (ex2 : gx = 0 + (1 * x7 + 0)) (ex3 : 0 ≤ gx ∧ gx ≤ 2010) : ((cur_0 + 1) ≤ tokens_0) ∧ ((tokens_0 ≤ 2010) ∧ ((tokenKind_0 ((tokens_0 - 1)) = 0) ∨ (tokenKind_0 ((tokens_0 - 1)) = 4))) := by
  first | assumption | (clear f0 f6 f10 hK_0_1 hK_0_160 hK_0_162 hK_0_163; omega) | (clear hK_0_1 hK_0_160 hK_0_162 hK_0_163; grind) | omega | grind
set_option maxHeartbeats 4000000 in
theorem vc_Mo_product_at_f0_20_1 (x1 : Int) (x2 : Int) (x3 : Int) (x6 : Int) (x7 : Int) (x14 : Int) (x15 : Int) (x16 : Int) (x17 : Int) (x18 : Int) (styleKind_0 : Int) (styleOne_0 : Int) (tokenKind_0 : Int → Int) (tokenValue_0 : Int → Int) (tokenPlace_0 : Int → Int) (tokenEnd_0 : Int → Int) (tape_0 : Int → Int) (limit_0 : Int) (cur_0 : Int) (tokens_0 : Int) (opened_0 : Int) (fault_0 : Int) (gx : Int) (k1 : 0 ≤ x1 ∧ x1 ≤ 2009) (k2 : 0 ≤ x2 ∧ x2 ≤ 5) (k3 : 0 ≤ x3 ∧ x3 ≤ 13) (k6 : 0 ≤ x6 ∧ x6 ≤ 2009) (k7 : 0 ≤ x7 ∧ x7 ≤ 2010) (k14 : 1 ≤ x14 ∧ x14 ≤ 1) (k15 : 1 ≤ x15 ∧ x15 ≤ 2009) (k16 : 0 ≤ x16 ∧ x16 ≤ 2009) (k17 : 0 ≤ x17 ∧ x17 ≤ 5) (k18 : 0 ≤ x18 ∧ x18 ≤ 13) (d0 : x6 + 1 ≤ x15 ∧ x15 ≤ x6 + 1) (f0 : (styleKind_0 = 0) → (styleOne_0 ≤ 23)) (f1 : 1 * x1 + ((-1) * x16 + 0) ≤ 0) (f2 : (-1) * x7 + ((-1) * x16 + 0) ≤ (-2011)) (f3 : GPW (styleKind_0) (limit_0) (tokenKind_0) (tokenValue_0) (tokenPlace_0) (tokenEnd_0) (tape_0) (x16) (x17) (x1) (x2) (x3)) (f4 : 1 * x18 + 0 ≤ 0) (f5 : (-1) * x18 + 0 ≤ 0) (f6 : (styleKind_0 = 0) → (styleOne_0 ≤ 23)) (f7 : 1 * x3 + 0 ≤ 0) (f8 : (-1) * x3 + 0 ≤ 0) (f10 : ((cur_0 + 1) ≤ tokens_0) ∧ ((tokens_0 ≤ 2010) ∧ ((tokenKind_0 ((tokens_0 - 1)) = 0) ∨ (tokenKind_0 ((tokens_0 - 1)) = 4)))) (f11 : 1 * x16 + ((-1) * cur_0 + 0) ≤ 0) (f12 : 1 * opened_0 + 0 ≤ 0) (f13 : (-1) * opened_0 + 0 ≤ 0) (f14 : SVL (fault_0) (cur_0) (styleKind_0) (limit_0) (tokenKind_0) (tokenValue_0) (tokenPlace_0) (tokenEnd_0) (tape_0) (x16) (x17) (x18)) (f16 : 1 * x1 + ((-1) * x16 + 0) ≤ 0) (f17 : (-1) * x7 + ((-1) * x16 + 0) ≤ (-2011)) (f18 : 1 * x18 + 0 ≤ 0) (f19 : (-1) * x18 + 0 ≤ 0) (f20 : 1 * x3 + 0 ≤ 0) (f21 : (-1) * x3 + 0 ≤ 0) (f23 : x15 = x6 + x14) (f24 : 1 * x3 + 0 ≤ 0) (f25 : (-1) * x3 + 0 ≤ 0) (hK_0_1 : ∀ j : Int, 0 ≤ j → j < 2000 → (-128) ≤ tape_0 j ∧ tape_0 j ≤ 127) (hK_0_160 : ∀ j : Int, 0 ≤ j → j < 2010 → 0 ≤ tokenKind_0 j ∧ tokenKind_0 j ≤ 4) (hK_0_162 : ∀ j : Int, 0 ≤ j → j < 2010 → 0 ≤ tokenPlace_0 j ∧ tokenPlace_0 j ≤ 2000) (hK_0_163 : ∀ j : Int, 0 ≤ j → j < 2010 → 0 ≤ tokenEnd_0 j ∧ tokenEnd_0 j ≤ 2000) (kz_0_8 : 0 ≤ fault_0 ∧ fault_0 ≤ 5) (kz_0_10 : 0 ≤ limit_0 ∧ limit_0 ≤ 2000) (kz_0_157 : 0 ≤ tokens_0 ∧ tokens_0 ≤ 2010) (kz_0_158 : 0 ≤ cur_0 ∧ cur_0 ≤ 2009) (kz_0_159 : 0 ≤ opened_0 ∧ opened_0 ≤ 13) (kz_0_164 : 0 ≤ styleKind_0 ∧ styleKind_0 ≤ 1) (kz_0_165 : (-1) ≤ styleOne_0 ∧ styleOne_0 ≤ 47) (ex2 : gx = 0 + (1 * x7 + 0)) (ex3 : 0 ≤ gx ∧ gx ≤ 2010) : 1 * x1 + ((-1) * cur_0 + 0) ≤ 0 := by
  first | assumption | (clear f0 f6 f10 hK_0_1 hK_0_160 hK_0_162 hK_0_163; omega) | (clear hK_0_1 hK_0_160 hK_0_162 hK_0_163; grind) | omega | grind
set_option maxHeartbeats 4000000 in
theorem vc_Mo_product_at_f0_20_2 (x1 : Int) (x2 : Int) (x3 : Int) (x6 : Int) (x7 : Int) (x14 : Int) (x15 : Int) (x16 : Int) (x17 : Int) (x18 : Int) (styleKind_0 : Int) (styleOne_0 : Int) (tokenKind_0 : Int → Int) (tokenValue_0 : Int → Int) (tokenPlace_0 : Int → Int) (tokenEnd_0 : Int → Int) (tape_0 : Int → Int) (limit_0 : Int) (cur_0 : Int) (tokens_0 : Int) (opened_0 : Int) (fault_0 : Int) (gx : Int) (k1 : 0 ≤ x1 ∧ x1 ≤ 2009) (k2 : 0 ≤ x2 ∧ x2 ≤ 5) (k3 : 0 ≤ x3 ∧ x3 ≤ 13) (k6 : 0 ≤ x6 ∧ x6 ≤ 2009) (k7 : 0 ≤ x7 ∧ x7 ≤ 2010) (k14 : 1 ≤ x14 ∧ x14 ≤ 1) (k15 : 1 ≤ x15 ∧ x15 ≤ 2009) (k16 : 0 ≤ x16 ∧ x16 ≤ 2009) (k17 : 0 ≤ x17 ∧ x17 ≤ 5) (k18 : 0 ≤ x18 ∧ x18 ≤ 13) (d0 : x6 + 1 ≤ x15 ∧ x15 ≤ x6 + 1) (f0 : (styleKind_0 = 0) → (styleOne_0 ≤ 23)) (f1 : 1 * x1 + ((-1) * x16 + 0) ≤ 0) (f2 : (-1) * x7 + ((-1) * x16 + 0) ≤ (-2011)) (f3 : GPW (styleKind_0) (limit_0) (tokenKind_0) (tokenValue_0) (tokenPlace_0) (tokenEnd_0) (tape_0) (x16) (x17) (x1) (x2) (x3)) (f4 : 1 * x18 + 0 ≤ 0) (f5 : (-1) * x18 + 0 ≤ 0) (f6 : (styleKind_0 = 0) → (styleOne_0 ≤ 23)) (f7 : 1 * x3 + 0 ≤ 0) (f8 : (-1) * x3 + 0 ≤ 0) (f10 : ((cur_0 + 1) ≤ tokens_0) ∧ ((tokens_0 ≤ 2010) ∧ ((tokenKind_0 ((tokens_0 - 1)) = 0) ∨ (tokenKind_0 ((tokens_0 - 1)) = 4)))) (f11 : 1 * x16 + ((-1) * cur_0 + 0) ≤ 0) (f12 : 1 * opened_0 + 0 ≤ 0) (f13 : (-1) * opened_0 + 0 ≤ 0) (f14 : SVL (fault_0) (cur_0) (styleKind_0) (limit_0) (tokenKind_0) (tokenValue_0) (tokenPlace_0) (tokenEnd_0) (tape_0) (x16) (x17) (x18)) (f16 : 1 * x1 + ((-1) * x16 + 0) ≤ 0) (f17 : (-1) * x7 + ((-1) * x16 + 0) ≤ (-2011)) (f18 : 1 * x18 + 0 ≤ 0) (f19 : (-1) * x18 + 0 ≤ 0) (f20 : 1 * x3 + 0 ≤ 0) (f21 : (-1) * x3 + 0 ≤ 0) (f23 : x15 = x6 + x14) (f24 : 1 * x3 + 0 ≤ 0) (f25 : (-1) * x3 + 0 ≤ 0) (hK_0_1 : ∀ j : Int, 0 ≤ j → j < 2000 → (-128) ≤ tape_0 j ∧ tape_0 j ≤ 127) (hK_0_160 : ∀ j : Int, 0 ≤ j → j < 2010 → 0 ≤ tokenKind_0 j ∧ tokenKind_0 j ≤ 4) (hK_0_162 : ∀ j : Int, 0 ≤ j → j < 2010 → 0 ≤ tokenPlace_0 j ∧ tokenPlace_0 j ≤ 2000) (hK_0_163 : ∀ j : Int, 0 ≤ j → j < 2010 → 0 ≤ tokenEnd_0 j ∧ tokenEnd_0 j ≤ 2000) (kz_0_8 : 0 ≤ fault_0 ∧ fault_0 ≤ 5) (kz_0_10 : 0 ≤ limit_0 ∧ limit_0 ≤ 2000) (kz_0_157 : 0 ≤ tokens_0 ∧ tokens_0 ≤ 2010) (kz_0_158 : 0 ≤ cur_0 ∧ cur_0 ≤ 2009) (kz_0_159 : 0 ≤ opened_0 ∧ opened_0 ≤ 13) (kz_0_164 : 0 ≤ styleKind_0 ∧ styleKind_0 ≤ 1) (kz_0_165 : (-1) ≤ styleOne_0 ∧ styleOne_0 ≤ 47) (ex2 : gx = 0 + (1 * x7 + 0)) (ex3 : 0 ≤ gx ∧ gx ≤ 2010) : (styleKind_0 = 0) → (styleOne_0 ≤ 23) := by
  first | assumption | (clear f0 f6 f10 hK_0_1 hK_0_160 hK_0_162 hK_0_163; omega) | (clear hK_0_1 hK_0_160 hK_0_162 hK_0_163; grind) | omega | grind
set_option maxHeartbeats 4000000 in
theorem vc_Mo_product_at_f0_20_3 (x1 : Int) (x2 : Int) (x3 : Int) (x6 : Int) (x7 : Int) (x14 : Int) (x15 : Int) (x16 : Int) (x17 : Int) (x18 : Int) (styleKind_0 : Int) (styleOne_0 : Int) (tokenKind_0 : Int → Int) (tokenValue_0 : Int → Int) (tokenPlace_0 : Int → Int) (tokenEnd_0 : Int → Int) (tape_0 : Int → Int) (limit_0 : Int) (cur_0 : Int) (tokens_0 : Int) (opened_0 : Int) (fault_0 : Int) (gx : Int) (k1 : 0 ≤ x1 ∧ x1 ≤ 2009) (k2 : 0 ≤ x2 ∧ x2 ≤ 5) (k3 : 0 ≤ x3 ∧ x3 ≤ 13) (k6 : 0 ≤ x6 ∧ x6 ≤ 2009) (k7 : 0 ≤ x7 ∧ x7 ≤ 2010) (k14 : 1 ≤ x14 ∧ x14 ≤ 1) (k15 : 1 ≤ x15 ∧ x15 ≤ 2009) (k16 : 0 ≤ x16 ∧ x16 ≤ 2009) (k17 : 0 ≤ x17 ∧ x17 ≤ 5) (k18 : 0 ≤ x18 ∧ x18 ≤ 13) (d0 : x6 + 1 ≤ x15 ∧ x15 ≤ x6 + 1) (f0 : (styleKind_0 = 0) → (styleOne_0 ≤ 23)) (f1 : 1 * x1 + ((-1) * x16 + 0) ≤ 0) (f2 : (-1) * x7 + ((-1) * x16 + 0) ≤ (-2011)) (f3 : GPW (styleKind_0) (limit_0) (tokenKind_0) (tokenValue_0) (tokenPlace_0) (tokenEnd_0) (tape_0) (x16) (x17) (x1) (x2) (x3)) (f4 : 1 * x18 + 0 ≤ 0) (f5 : (-1) * x18 + 0 ≤ 0) (f6 : (styleKind_0 = 0) → (styleOne_0 ≤ 23)) (f7 : 1 * x3 + 0 ≤ 0) (f8 : (-1) * x3 + 0 ≤ 0) (f10 : ((cur_0 + 1) ≤ tokens_0) ∧ ((tokens_0 ≤ 2010) ∧ ((tokenKind_0 ((tokens_0 - 1)) = 0) ∨ (tokenKind_0 ((tokens_0 - 1)) = 4)))) (f11 : 1 * x16 + ((-1) * cur_0 + 0) ≤ 0) (f12 : 1 * opened_0 + 0 ≤ 0) (f13 : (-1) * opened_0 + 0 ≤ 0) (f14 : SVL (fault_0) (cur_0) (styleKind_0) (limit_0) (tokenKind_0) (tokenValue_0) (tokenPlace_0) (tokenEnd_0) (tape_0) (x16) (x17) (x18)) (f16 : 1 * x1 + ((-1) * x16 + 0) ≤ 0) (f17 : (-1) * x7 + ((-1) * x16 + 0) ≤ (-2011)) (f18 : 1 * x18 + 0 ≤ 0) (f19 : (-1) * x18 + 0 ≤ 0) (f20 : 1 * x3 + 0 ≤ 0) (f21 : (-1) * x3 + 0 ≤ 0) (f23 : x15 = x6 + x14) (f24 : 1 * x3 + 0 ≤ 0) (f25 : (-1) * x3 + 0 ≤ 0) (hK_0_1 : ∀ j : Int, 0 ≤ j → j < 2000 → (-128) ≤ tape_0 j ∧ tape_0 j ≤ 127) (hK_0_160 : ∀ j : Int, 0 ≤ j → j < 2010 → 0 ≤ tokenKind_0 j ∧ tokenKind_0 j ≤ 4) (hK_0_162 : ∀ j : Int, 0 ≤ j → j < 2010 → 0 ≤ tokenPlace_0 j ∧ tokenPlace_0 j ≤ 2000) (hK_0_163 : ∀ j : Int, 0 ≤ j → j < 2010 → 0 ≤ tokenEnd_0 j ∧ tokenEnd_0 j ≤ 2000) (kz_0_8 : 0 ≤ fault_0 ∧ fault_0 ≤ 5) (kz_0_10 : 0 ≤ limit_0 ∧ limit_0 ≤ 2000) (kz_0_157 : 0 ≤ tokens_0 ∧ tokens_0 ≤ 2010) (kz_0_158 : 0 ≤ cur_0 ∧ cur_0 ≤ 2009) (kz_0_159 : 0 ≤ opened_0 ∧ opened_0 ≤ 13) (kz_0_164 : 0 ≤ styleKind_0 ∧ styleKind_0 ≤ 1) (kz_0_165 : (-1) ≤ styleOne_0 ∧ styleOne_0 ≤ 47) (ex2 : gx = 0 + (1 * x7 + 0)) (ex3 : 0 ≤ gx ∧ gx ≤ 2010) : 1 * opened_0 + 0 ≤ 0 := by
  first | assumption | (clear f0 f6 f10 hK_0_1 hK_0_160 hK_0_162 hK_0_163; omega) | (clear hK_0_1 hK_0_160 hK_0_162 hK_0_163; grind) | omega | grind
set_option maxHeartbeats 4000000 in
theorem vc_Mo_product_at_f0_20_4 (x1 : Int) (x2 : Int) (x3 : Int) (x6 : Int) (x7 : Int) (x14 : Int) (x15 : Int) (x16 : Int) (x17 : Int) (x18 : Int) (styleKind_0 : Int) (styleOne_0 : Int) (tokenKind_0 : Int → Int) (tokenValue_0 : Int → Int) (tokenPlace_0 : Int → Int) (tokenEnd_0 : Int → Int) (tape_0 : Int → Int) (limit_0 : Int) (cur_0 : Int) (tokens_0 : Int) (opened_0 : Int) (fault_0 : Int) (gx : Int) (k1 : 0 ≤ x1 ∧ x1 ≤ 2009) (k2 : 0 ≤ x2 ∧ x2 ≤ 5) (k3 : 0 ≤ x3 ∧ x3 ≤ 13) (k6 : 0 ≤ x6 ∧ x6 ≤ 2009) (k7 : 0 ≤ x7 ∧ x7 ≤ 2010) (k14 : 1 ≤ x14 ∧ x14 ≤ 1) (k15 : 1 ≤ x15 ∧ x15 ≤ 2009) (k16 : 0 ≤ x16 ∧ x16 ≤ 2009) (k17 : 0 ≤ x17 ∧ x17 ≤ 5) (k18 : 0 ≤ x18 ∧ x18 ≤ 13) (d0 : x6 + 1 ≤ x15 ∧ x15 ≤ x6 + 1) (f0 : (styleKind_0 = 0) → (styleOne_0 ≤ 23)) (f1 : 1 * x1 + ((-1) * x16 + 0) ≤ 0) (f2 : (-1) * x7 + ((-1) * x16 + 0) ≤ (-2011)) (f3 : GPW (styleKind_0) (limit_0) (tokenKind_0) (tokenValue_0) (tokenPlace_0) (tokenEnd_0) (tape_0) (x16) (x17) (x1) (x2) (x3)) (f4 : 1 * x18 + 0 ≤ 0) (f5 : (-1) * x18 + 0 ≤ 0) (f6 : (styleKind_0 = 0) → (styleOne_0 ≤ 23)) (f7 : 1 * x3 + 0 ≤ 0) (f8 : (-1) * x3 + 0 ≤ 0) (f10 : ((cur_0 + 1) ≤ tokens_0) ∧ ((tokens_0 ≤ 2010) ∧ ((tokenKind_0 ((tokens_0 - 1)) = 0) ∨ (tokenKind_0 ((tokens_0 - 1)) = 4)))) (f11 : 1 * x16 + ((-1) * cur_0 + 0) ≤ 0) (f12 : 1 * opened_0 + 0 ≤ 0) (f13 : (-1) * opened_0 + 0 ≤ 0) (f14 : SVL (fault_0) (cur_0) (styleKind_0) (limit_0) (tokenKind_0) (tokenValue_0) (tokenPlace_0) (tokenEnd_0) (tape_0) (x16) (x17) (x18)) (f16 : 1 * x1 + ((-1) * x16 + 0) ≤ 0) (f17 : (-1) * x7 + ((-1) * x16 + 0) ≤ (-2011)) (f18 : 1 * x18 + 0 ≤ 0) (f19 : (-1) * x18 + 0 ≤ 0) (f20 : 1 * x3 + 0 ≤ 0) (f21 : (-1) * x3 + 0 ≤ 0) (f23 : x15 = x6 + x14) (f24 : 1 * x3 + 0 ≤ 0) (f25 : (-1) * x3 + 0 ≤ 0) (hK_0_1 : ∀ j : Int, 0 ≤ j → j < 2000 → (-128) ≤ tape_0 j ∧ tape_0 j ≤ 127) (hK_0_160 : ∀ j : Int, 0 ≤ j → j < 2010 → 0 ≤ tokenKind_0 j ∧ tokenKind_0 j ≤ 4) (hK_0_162 : ∀ j : Int, 0 ≤ j → j < 2010 → 0 ≤ tokenPlace_0 j ∧ tokenPlace_0 j ≤ 2000) (hK_0_163 : ∀ j : Int, 0 ≤ j → j < 2010 → 0 ≤ tokenEnd_0 j ∧ tokenEnd_0 j ≤ 2000) (kz_0_8 : 0 ≤ fault_0 ∧ fault_0 ≤ 5) (kz_0_10 : 0 ≤ limit_0 ∧ limit_0 ≤ 2000) (kz_0_157 : 0 ≤ tokens_0 ∧ tokens_0 ≤ 2010) (kz_0_158 : 0 ≤ cur_0 ∧ cur_0 ≤ 2009) (kz_0_159 : 0 ≤ opened_0 ∧ opened_0 ≤ 13) (kz_0_164 : 0 ≤ styleKind_0 ∧ styleKind_0 ≤ 1) (kz_0_165 : (-1) ≤ styleOne_0 ∧ styleOne_0 ≤ 47) (ex2 : gx = 0 + (1 * x7 + 0)) (ex3 : 0 ≤ gx ∧ gx ≤ 2010) : (-1) * opened_0 + 0 ≤ 0 := by
  first | assumption | (clear f0 f6 f10 hK_0_1 hK_0_160 hK_0_162 hK_0_163; omega) | (clear hK_0_1 hK_0_160 hK_0_162 hK_0_163; grind) | omega | grind
set_option maxHeartbeats 4000000 in
theorem vc_Mo_product_at_f0_20_5 (x1 : Int) (x2 : Int) (x3 : Int) (x6 : Int) (x7 : Int) (x14 : Int) (x15 : Int) (x16 : Int) (x17 : Int) (x18 : Int) (styleKind_0 : Int) (styleOne_0 : Int) (tokenKind_0 : Int → Int) (tokenValue_0 : Int → Int) (tokenPlace_0 : Int → Int) (tokenEnd_0 : Int → Int) (tape_0 : Int → Int) (limit_0 : Int) (cur_0 : Int) (tokens_0 : Int) (opened_0 : Int) (fault_0 : Int) (gx : Int) (k1 : 0 ≤ x1 ∧ x1 ≤ 2009) (k2 : 0 ≤ x2 ∧ x2 ≤ 5) (k3 : 0 ≤ x3 ∧ x3 ≤ 13) (k6 : 0 ≤ x6 ∧ x6 ≤ 2009) (k7 : 0 ≤ x7 ∧ x7 ≤ 2010) (k14 : 1 ≤ x14 ∧ x14 ≤ 1) (k15 : 1 ≤ x15 ∧ x15 ≤ 2009) (k16 : 0 ≤ x16 ∧ x16 ≤ 2009) (k17 : 0 ≤ x17 ∧ x17 ≤ 5) (k18 : 0 ≤ x18 ∧ x18 ≤ 13) (d0 : x6 + 1 ≤ x15 ∧ x15 ≤ x6 + 1) (f0 : (styleKind_0 = 0) → (styleOne_0 ≤ 23)) (f1 : 1 * x1 + ((-1) * x16 + 0) ≤ 0) (f2 : (-1) * x7 + ((-1) * x16 + 0) ≤ (-2011)) (f3 : GPW (styleKind_0) (limit_0) (tokenKind_0) (tokenValue_0) (tokenPlace_0) (tokenEnd_0) (tape_0) (x16) (x17) (x1) (x2) (x3)) (f4 : 1 * x18 + 0 ≤ 0) (f5 : (-1) * x18 + 0 ≤ 0) (f6 : (styleKind_0 = 0) → (styleOne_0 ≤ 23)) (f7 : 1 * x3 + 0 ≤ 0) (f8 : (-1) * x3 + 0 ≤ 0) (f10 : ((cur_0 + 1) ≤ tokens_0) ∧ ((tokens_0 ≤ 2010) ∧ ((tokenKind_0 ((tokens_0 - 1)) = 0) ∨ (tokenKind_0 ((tokens_0 - 1)) = 4)))) (f11 : 1 * x16 + ((-1) * cur_0 + 0) ≤ 0) (f12 : 1 * opened_0 + 0 ≤ 0) (f13 : (-1) * opened_0 + 0 ≤ 0) (f14 : SVL (fault_0) (cur_0) (styleKind_0) (limit_0) (tokenKind_0) (tokenValue_0) (tokenPlace_0) (tokenEnd_0) (tape_0) (x16) (x17) (x18)) (f16 : 1 * x1 + ((-1) * x16 + 0) ≤ 0) (f17 : (-1) * x7 + ((-1) * x16 + 0) ≤ (-2011)) (f18 : 1 * x18 + 0 ≤ 0) (f19 : (-1) * x18 + 0 ≤ 0) (f20 : 1 * x3 + 0 ≤ 0) (f21 : (-1) * x3 + 0 ≤ 0) (f23 : x15 = x6 + x14) (f24 : 1 * x3 + 0 ≤ 0) (f25 : (-1) * x3 + 0 ≤ 0) (hK_0_1 : ∀ j : Int, 0 ≤ j → j < 2000 → (-128) ≤ tape_0 j ∧ tape_0 j ≤ 127) (hK_0_160 : ∀ j : Int, 0 ≤ j → j < 2010 → 0 ≤ tokenKind_0 j ∧ tokenKind_0 j ≤ 4) (hK_0_162 : ∀ j : Int, 0 ≤ j → j < 2010 → 0 ≤ tokenPlace_0 j ∧ tokenPlace_0 j ≤ 2000) (hK_0_163 : ∀ j : Int, 0 ≤ j → j < 2010 → 0 ≤ tokenEnd_0 j ∧ tokenEnd_0 j ≤ 2000) (kz_0_8 : 0 ≤ fault_0 ∧ fault_0 ≤ 5) (kz_0_10 : 0 ≤ limit_0 ∧ limit_0 ≤ 2000) (kz_0_157 : 0 ≤ tokens_0 ∧ tokens_0 ≤ 2010) (kz_0_158 : 0 ≤ cur_0 ∧ cur_0 ≤ 2009) (kz_0_159 : 0 ≤ opened_0 ∧ opened_0 ≤ 13) (kz_0_164 : 0 ≤ styleKind_0 ∧ styleKind_0 ≤ 1) (kz_0_165 : (-1) ≤ styleOne_0 ∧ styleOne_0 ≤ 47) (ex2 : gx = 0 + (1 * x7 + 0)) (ex3 : 0 ≤ gx ∧ gx ≤ 2010) : (-1) * gx + ((-1) * cur_0 + 0) ≤ (-2011) := by
  first | assumption | (clear f0 f6 f10 hK_0_1 hK_0_160 hK_0_162 hK_0_163; omega) | (clear hK_0_1 hK_0_160 hK_0_162 hK_0_163; grind) | omega | grind
set_option maxHeartbeats 4000000 in
theorem vc_Mo_product_at_f0_20_6 (x1 : Int) (x2 : Int) (x3 : Int) (x16 : Int) (x17 : Int) (x18 : Int) (styleKind_0 : Int) (tokenKind_0 : Int → Int) (tokenValue_0 : Int → Int) (tokenPlace_0 : Int → Int) (tokenEnd_0 : Int → Int) (tape_0 : Int → Int) (limit_0 : Int) (cur_0 : Int) (fault_0 : Int) (k1 : 0 ≤ x1 ∧ x1 ≤ 2009) (k2 : 0 ≤ x2 ∧ x2 ≤ 5) (k3 : 0 ≤ x3 ∧ x3 ≤ 13) (k16 : 0 ≤ x16 ∧ x16 ≤ 2009) (k17 : 0 ≤ x17 ∧ x17 ≤ 5) (k18 : 0 ≤ x18 ∧ x18 ≤ 13) (f3 : GPW (styleKind_0) (limit_0) (tokenKind_0) (tokenValue_0) (tokenPlace_0) (tokenEnd_0) (tape_0) (x16) (x17) (x1) (x2) (x3)) (f4 : 1 * x18 + 0 ≤ 0) (f7 : 1 * x3 + 0 ≤ 0) (f11 : 1 * x16 + ((-1) * cur_0 + 0) ≤ 0) (f14 : SVL (fault_0) (cur_0) (styleKind_0) (limit_0) (tokenKind_0) (tokenValue_0) (tokenPlace_0) (tokenEnd_0) (tape_0) (x16) (x17) (x18)) (kz_0_8 : 0 ≤ fault_0 ∧ fault_0 ≤ 5) (kz_0_10 : 0 ≤ limit_0 ∧ limit_0 ≤ 2000) (kz_0_158 : 0 ≤ cur_0 ∧ cur_0 ≤ 2009) (kz_0_164 : 0 ≤ styleKind_0 ∧ styleKind_0 ≤ 1) : SPWv (fault_0) (cur_0) (styleKind_0) (limit_0) (tokenKind_0) (tokenValue_0) (tokenPlace_0) (tokenEnd_0) (tape_0) (x1) (x2) (x3) := by
  first
    | exact spw_start (‹SVL _ _ _ _ _ _ _ _ _ _ _ _›) (by omega) (by omega) (by omega) (by omega)
    | exact spw_go (‹GPW _ _ _ _ _ _ _ _ _ _ _ _›) (‹SVL _ _ _ _ _ _ _ _ _ _ _ _›) (by omega) (by omega) (by omega)
    | assumption
  
set_option maxHeartbeats 4000000 in
theorem vc_Mo_product_at_f0_20_7 (x1 : Int) (x2 : Int) (x3 : Int) (x6 : Int) (x7 : Int) (x14 : Int) (x15 : Int) (x16 : Int) (x17 : Int) (x18 : Int) (styleKind_0 : Int) (styleOne_0 : Int) (tokenKind_0 : Int → Int) (tokenValue_0 : Int → Int) (tokenPlace_0 : Int → Int) (tokenEnd_0 : Int → Int) (tape_0 : Int → Int) (limit_0 : Int) (cur_0 : Int) (tokens_0 : Int) (opened_0 : Int) (fault_0 : Int) (gx : Int) (k1 : 0 ≤ x1 ∧ x1 ≤ 2009) (k2 : 0 ≤ x2 ∧ x2 ≤ 5) (k3 : 0 ≤ x3 ∧ x3 ≤ 13) (k6 : 0 ≤ x6 ∧ x6 ≤ 2009) (k7 : 0 ≤ x7 ∧ x7 ≤ 2010) (k14 : 1 ≤ x14 ∧ x14 ≤ 1) (k15 : 1 ≤ x15 ∧ x15 ≤ 2009) (k16 : 0 ≤ x16 ∧ x16 ≤ 2009) (k17 : 0 ≤ x17 ∧ x17 ≤ 5) (k18 : 0 ≤ x18 ∧ x18 ≤ 13) (d0 : x6 + 1 ≤ x15 ∧ x15 ≤ x6 + 1) (f0 : (styleKind_0 = 0) → (styleOne_0 ≤ 23)) (f1 : 1 * x1 + ((-1) * x16 + 0) ≤ 0) (f2 : (-1) * x7 + ((-1) * x16 + 0) ≤ (-2011)) (f3 : GPW (styleKind_0) (limit_0) (tokenKind_0) (tokenValue_0) (tokenPlace_0) (tokenEnd_0) (tape_0) (x16) (x17) (x1) (x2) (x3)) (f4 : 1 * x18 + 0 ≤ 0) (f5 : (-1) * x18 + 0 ≤ 0) (f6 : (styleKind_0 = 0) → (styleOne_0 ≤ 23)) (f7 : 1 * x3 + 0 ≤ 0) (f8 : (-1) * x3 + 0 ≤ 0) (f10 : ((cur_0 + 1) ≤ tokens_0) ∧ ((tokens_0 ≤ 2010) ∧ ((tokenKind_0 ((tokens_0 - 1)) = 0) ∨ (tokenKind_0 ((tokens_0 - 1)) = 4)))) (f11 : 1 * x16 + ((-1) * cur_0 + 0) ≤ 0) (f12 : 1 * opened_0 + 0 ≤ 0) (f13 : (-1) * opened_0 + 0 ≤ 0) (f14 : SVL (fault_0) (cur_0) (styleKind_0) (limit_0) (tokenKind_0) (tokenValue_0) (tokenPlace_0) (tokenEnd_0) (tape_0) (x16) (x17) (x18)) (f16 : 1 * x1 + ((-1) * x16 + 0) ≤ 0) (f17 : (-1) * x7 + ((-1) * x16 + 0) ≤ (-2011)) (f18 : 1 * x18 + 0 ≤ 0) (f19 : (-1) * x18 + 0 ≤ 0) (f20 : 1 * x3 + 0 ≤ 0) (f21 : (-1) * x3 + 0 ≤ 0) (f23 : x15 = x6 + x14) (f24 : 1 * x3 + 0 ≤ 0) (f25 : (-1) * x3 + 0 ≤ 0) (hK_0_1 : ∀ j : Int, 0 ≤ j → j < 2000 → (-128) ≤ tape_0 j ∧ tape_0 j ≤ 127) (hK_0_160 : ∀ j : Int, 0 ≤ j → j < 2010 → 0 ≤ tokenKind_0 j ∧ tokenKind_0 j ≤ 4) (hK_0_162 : ∀ j : Int, 0 ≤ j → j < 2010 → 0 ≤ tokenPlace_0 j ∧ tokenPlace_0 j ≤ 2000) (hK_0_163 : ∀ j : Int, 0 ≤ j → j < 2010 → 0 ≤ tokenEnd_0 j ∧ tokenEnd_0 j ≤ 2000) (kz_0_8 : 0 ≤ fault_0 ∧ fault_0 ≤ 5) (kz_0_10 : 0 ≤ limit_0 ∧ limit_0 ≤ 2000) (kz_0_157 : 0 ≤ tokens_0 ∧ tokens_0 ≤ 2010) (kz_0_158 : 0 ≤ cur_0 ∧ cur_0 ≤ 2009) (kz_0_159 : 0 ≤ opened_0 ∧ opened_0 ≤ 13) (kz_0_164 : 0 ≤ styleKind_0 ∧ styleKind_0 ≤ 1) (kz_0_165 : (-1) ≤ styleOne_0 ∧ styleOne_0 ≤ 47) (ex2 : gx = 0 + (1 * x7 + 0)) (ex3 : 0 ≤ gx ∧ gx ≤ 2010) : 1 * x3 + 0 ≤ 0 := by
  first | assumption | (clear f0 f6 f10 hK_0_1 hK_0_160 hK_0_162 hK_0_163; omega) | (clear hK_0_1 hK_0_160 hK_0_162 hK_0_163; grind) | omega | grind
set_option maxHeartbeats 4000000 in
theorem vc_Mo_product_at_f0_20_8 (x1 : Int) (x2 : Int) (x3 : Int) (x6 : Int) (x7 : Int) (x14 : Int) (x15 : Int) (x16 : Int) (x17 : Int) (x18 : Int) (styleKind_0 : Int) (styleOne_0 : Int) (tokenKind_0 : Int → Int) (tokenValue_0 : Int → Int) (tokenPlace_0 : Int → Int) (tokenEnd_0 : Int → Int) (tape_0 : Int → Int) (limit_0 : Int) (cur_0 : Int) (tokens_0 : Int) (opened_0 : Int) (fault_0 : Int) (gx : Int) (k1 : 0 ≤ x1 ∧ x1 ≤ 2009) (k2 : 0 ≤ x2 ∧ x2 ≤ 5) (k3 : 0 ≤ x3 ∧ x3 ≤ 13) (k6 : 0 ≤ x6 ∧ x6 ≤ 2009) (k7 : 0 ≤ x7 ∧ x7 ≤ 2010) (k14 : 1 ≤ x14 ∧ x14 ≤ 1) (k15 : 1 ≤ x15 ∧ x15 ≤ 2009) (k16 : 0 ≤ x16 ∧ x16 ≤ 2009) (k17 : 0 ≤ x17 ∧ x17 ≤ 5) (k18 : 0 ≤ x18 ∧ x18 ≤ 13) (d0 : x6 + 1 ≤ x15 ∧ x15 ≤ x6 + 1) (f0 : (styleKind_0 = 0) → (styleOne_0 ≤ 23)) (f1 : 1 * x1 + ((-1) * x16 + 0) ≤ 0) (f2 : (-1) * x7 + ((-1) * x16 + 0) ≤ (-2011)) (f3 : GPW (styleKind_0) (limit_0) (tokenKind_0) (tokenValue_0) (tokenPlace_0) (tokenEnd_0) (tape_0) (x16) (x17) (x1) (x2) (x3)) (f4 : 1 * x18 + 0 ≤ 0) (f5 : (-1) * x18 + 0 ≤ 0) (f6 : (styleKind_0 = 0) → (styleOne_0 ≤ 23)) (f7 : 1 * x3 + 0 ≤ 0) (f8 : (-1) * x3 + 0 ≤ 0) (f10 : ((cur_0 + 1) ≤ tokens_0) ∧ ((tokens_0 ≤ 2010) ∧ ((tokenKind_0 ((tokens_0 - 1)) = 0) ∨ (tokenKind_0 ((tokens_0 - 1)) = 4)))) (f11 : 1 * x16 + ((-1) * cur_0 + 0) ≤ 0) (f12 : 1 * opened_0 + 0 ≤ 0) (f13 : (-1) * opened_0 + 0 ≤ 0) (f14 : SVL (fault_0) (cur_0) (styleKind_0) (limit_0) (tokenKind_0) (tokenValue_0) (tokenPlace_0) (tokenEnd_0) (tape_0) (x16) (x17) (x18)) (f16 : 1 * x1 + ((-1) * x16 + 0) ≤ 0) (f17 : (-1) * x7 + ((-1) * x16 + 0) ≤ (-2011)) (f18 : 1 * x18 + 0 ≤ 0) (f19 : (-1) * x18 + 0 ≤ 0) (f20 : 1 * x3 + 0 ≤ 0) (f21 : (-1) * x3 + 0 ≤ 0) (f23 : x15 = x6 + x14) (f24 : 1 * x3 + 0 ≤ 0) (f25 : (-1) * x3 + 0 ≤ 0) (hK_0_1 : ∀ j : Int, 0 ≤ j → j < 2000 → (-128) ≤ tape_0 j ∧ tape_0 j ≤ 127) (hK_0_160 : ∀ j : Int, 0 ≤ j → j < 2010 → 0 ≤ tokenKind_0 j ∧ tokenKind_0 j ≤ 4) (hK_0_162 : ∀ j : Int, 0 ≤ j → j < 2010 → 0 ≤ tokenPlace_0 j ∧ tokenPlace_0 j ≤ 2000) (hK_0_163 : ∀ j : Int, 0 ≤ j → j < 2010 → 0 ≤ tokenEnd_0 j ∧ tokenEnd_0 j ≤ 2000) (kz_0_8 : 0 ≤ fault_0 ∧ fault_0 ≤ 5) (kz_0_10 : 0 ≤ limit_0 ∧ limit_0 ≤ 2000) (kz_0_157 : 0 ≤ tokens_0 ∧ tokens_0 ≤ 2010) (kz_0_158 : 0 ≤ cur_0 ∧ cur_0 ≤ 2009) (kz_0_159 : 0 ≤ opened_0 ∧ opened_0 ≤ 13) (kz_0_164 : 0 ≤ styleKind_0 ∧ styleKind_0 ≤ 1) (kz_0_165 : (-1) ≤ styleOne_0 ∧ styleOne_0 ≤ 47) (ex2 : gx = 0 + (1 * x7 + 0)) (ex3 : 0 ≤ gx ∧ gx ≤ 2010) : (-1) * x3 + 0 ≤ 0 := by
  first | assumption | (clear f0 f6 f10 hK_0_1 hK_0_160 hK_0_162 hK_0_163; omega) | (clear hK_0_1 hK_0_160 hK_0_162 hK_0_163; grind) | omega | grind
def o_Mo_product_at_f0_20 : or_T := (74, 21, [(0, (2, 0, 0, [165])), (1, (0, 0, 2009, [])), (2, (0, 0, 5, [])), (3, (0, 0, 13, [])), (4, (2, 0, 0, [165])), (6, (0, 0, 2009, [])), (7, (0, 0, 2010, [])), (14, (0, 1, 1, [])), (15, (0, 1, 2009, [])), (16, (0, 0, 2009, [])), (17, (0, 0, 5, [])), (18, (0, 0, 13, []))], [(20, [4], [50, 2, 0, 164, 165, 4, 7, 1, 3, 2, 0, 164, 0, 0, 0, 3, 2, 0, 165, 0, 23]), (23, [1, 16], [0, 1, -1]), (23, [7, 16], [-2011, -1, -1]), (20, [4, 16, 17, 1, 2, 3], [60, 2, 5, 10, 164, 10, 160, 161, 162, 163, 1]), (23, [18], [0, 1]), (23, [18], [0, -1]), (20, [4], [50, 2, 0, 164, 165, 4, 7, 1, 3, 2, 0, 164, 0, 0, 0, 3, 2, 0, 165, 0, 23]), (23, [3], [0, 1]), (23, [3], [0, -1]), (24, [0, 4], []), (20, [4], [50, 2, 1, 158, 157, 160, 2, 12, 0, 7, 4, 3, 2, 0, 158, 0, 1, 2, 0, 157, 2, 7, 0, 3, 2, 0, 157, 0, 2010, 3, 14, 1, 10, 3, 0, 160, 5, 3, 2, 0, 157, 0, 1, 0, 0, 1, 10, 3, 0, 160, 5, 3, 2, 0, 157, 0, 1, 0, 4]), (20, [16, 4], [30, 0, 1, 0, 0, -1, 1, 158]), (20, [4], [30, 0, 1, 1, 159]), (20, [4], [30, 0, -1, 1, 159]), (20, [4, 16, 17, 18], [60, 4, 5, 0, 8, 158, 164, 10, 160, 161, 162, 163, 1]), (102, [18], [0, 165008, 165009, 165158, 165159]), (23, [1, 16], [0, 1, -1]), (23, [7, 16], [-2011, -1, -1]), (23, [18], [0, 1]), (23, [18], [0, -1]), (23, [3], [0, 1]), (23, [3], [0, -1]), (101, [4, 15], [158]), (1, [15, 6, 14], []), (23, [3], [0, 1]), (23, [3], [0, -1])], [], [(0, 0, 2010, [])], [(20, [4], [50, 2, 1, 158, 157, 160, 2, 12, 0, 7, 4, 3, 2, 0, 158, 0, 1, 2, 0, 157, 2, 7, 0, 3, 2, 0, 157, 0, 2010, 3, 14, 1, 10, 3, 0, 160, 5, 3, 2, 0, 157, 0, 1, 0, 0, 1, 10, 3, 0, 160, 5, 3, 2, 0, 157, 0, 1, 0, 4]), (20, [1, 4], [30, 0, 1, 0, 0, -1, 1, 158]), (20, [4], [50, 2, 0, 164, 165, 4, 7, 1, 3, 2, 0, 164, 0, 0, 0, 3, 2, 0, 165, 0, 23]), (20, [4], [30, 0, 1, 1, 159]), (20, [4], [30, 0, -1, 1, 159]), (20, [21, 4], [30, -2011, -1, 0, 0, -1, 1, 158]), (20, [4, 1, 2, 3], [60, 4, 5, 6, 8, 158, 164, 10, 160, 161, 162, 163, 1]), (23, [3], [0, 1]), (23, [3], [0, -1]), (24, [0, 4], [])], [(21, 7, 0, 0)], [(15, 6, 1, 1)])
theorem oo_Mo_product_at_f0_20 {kA : Nat → ClassId} : or_ok PRD kA GG o_Mo_product_at_f0_20 := by
  refine or_mk fun A ta ws vs hD hth hl => ?_
  intro t0 r0 t1 k1 t2 k2 t3 k3 t4 r4 t6 k6 t7 k7 t14 k14 t15 k15 t16 k16 t17 k17 t18 k18 d0 f0 f1 f2 f3 f4 f5 f6 f7 f8 f9 f10 f11 f12 f13 f14 ta1 w1 le1 s1 f16 f17 f18 f19 f20 f21 ta2 w2 le2 s2 f23 f24 f25
  replace f0 := shm_299 f0
  replace f1 := shm_7 f1
  replace f2 := shm_315 f2
  replace f3 := shm_344 f3
  replace f4 := shm_1477 f4
  replace f5 := shm_1013 f5
  replace f6 := shm_299 f6
  replace f7 := shm_1477 f7
  replace f8 := shm_1013 f8
  replace f9 := shm_5 f9
  replace f10 := shm_296 f10
  replace f11 := shm_306 f11
  replace f12 := shm_999 f12
  replace f13 := shm_1000 f13
  replace f14 := shm_341 f14
  replace f16 := shm_7 f16
  replace f17 := shm_315 f17
  replace f18 := shm_1477 f18
  replace f19 := shm_1013 f19
  replace f20 := shm_1477 f20
  replace f21 := shm_1013 f21
  have s2 : (∀ b j, w_el w1 b j = w_el w2 b j) ∧ ∀ b j, w_fd w1 b j = if b = v_ad (n_v vs 4) ∧ j = 158 then n_v vs 15 else w_fd w2 b j := s2.2
  replace f23 := shm_12 f23
  replace f24 := shm_1477 f24
  replace f25 := shm_1013 f25
  have q4 : n_v vs 4 = n_v vs 0 := f9.symm
  simp only [q4] at f0 f3 f6 f10 f11 f12 f13 f14
  rw [q4] at s2
  have cr_0_1 := fdq_46 hD hth r0
  have cr_0_160 := fdq_41 hD hth r0
  have cr_0_161 := fdq_47 hD hth r0
  have cr_0_162 := fdq_48 hD hth r0
  have cr_0_163 := fdq_49 hD hth r0
  have hK_0_1 := elq_6 hD hth cr_0_1
  have hK_0_160 := elq_5 hD hth cr_0_160
  have hK_0_162 := elq_7 hD hth cr_0_162
  have hK_0_163 := elq_8 hD hth cr_0_163
  have kz_0_8 := fdq_14 hD hth r0
  have kz_0_10 := fdq_50 hD hth r0
  have kz_0_157 := fdq_42 hD hth r0
  have kz_0_158 := fdq_43 hD hth r0
  have kz_0_159 := fdq_44 hD hth r0
  have kz_0_164 := fdq_45 hD hth r0
  have kz_0_165 := fdq_35 hD hth r0
  obtain ⟨x, ex, hx⟩ := iv_ex (ta := ta) (lo := 0) (hi := 2010) (z := 0 + (1 * v_iv (n_v vs 7) + 0)) (by omega) (by omega) (by omega) (by omega)
  have ex2 : v_iv (Value.int x) = 0 + (1 * v_iv (n_v vs 7) + 0) := ex
  have ex3 : 0 ≤ v_iv (Value.int x) ∧ v_iv (Value.int x) ≤ 2010 := tv_rng hx
  have e_0 : n_v (vs ++ [Value.int x]) 0 = n_v vs 0 := n_v_old (by rw [hl]; decide)
  have e_1 : n_v (vs ++ [Value.int x]) 1 = n_v vs 1 := n_v_old (by rw [hl]; decide)
  have e_2 : n_v (vs ++ [Value.int x]) 2 = n_v vs 2 := n_v_old (by rw [hl]; decide)
  have e_3 : n_v (vs ++ [Value.int x]) 3 = n_v vs 3 := n_v_old (by rw [hl]; decide)
  have e_4 : n_v (vs ++ [Value.int x]) 4 = n_v vs 4 := n_v_old (by rw [hl]; decide)
  have e_21 : n_v (vs ++ [Value.int x]) 21 = Value.int x := n_v_new hl
  have nf0 : fc_1 PRD (20, [4], [50, 2, 1, 158, 157, 160, 2, 12, 0, 7, 4, 3, 2, 0, 158, 0, 1, 2, 0, 157, 2, 7, 0, 3, 2, 0, 157, 0, 2010, 3, 14, 1, 10, 3, 0, 160, 5, 3, 2, 0, 157, 0, 1, 0, 0, 1, 10, 3, 0, 160, 5, 3, 2, 0, 157, 0, 1, 0, 4]) ws (vs ++ [Value.int x]) := by
    refine ⟨nf_inA hl rfl, sgq_296 ?_⟩
    · show ((w_fi ws (n_v (vs ++ [Value.int x]) 4) 158 + 1) ≤ w_fi ws (n_v (vs ++ [Value.int x]) 4) 157) ∧ ((w_fi ws (n_v (vs ++ [Value.int x]) 4) 157 ≤ 2010) ∧ ((w_ei ws (w_ar ws (n_v (vs ++ [Value.int x]) 4) 160) ((w_fi ws (n_v (vs ++ [Value.int x]) 4) 157 - 1)) = 0) ∨ (w_ei ws (w_ar ws (n_v (vs ++ [Value.int x]) 4) 160) ((w_fi ws (n_v (vs ++ [Value.int x]) 4) 157 - 1)) = 4)))
      simp only [e_4, q4]
      exact vc_Mo_product_at_f0_20_0 (v_iv (n_v vs 1)) (v_iv (n_v vs 2)) (v_iv (n_v vs 3)) (v_iv (n_v vs 6)) (v_iv (n_v vs 7)) (v_iv (n_v vs 14)) (v_iv (n_v vs 15)) (v_iv (n_v vs 16)) (v_iv (n_v vs 17)) (v_iv (n_v vs 18)) (w_fi ws (n_v vs 0) 164) (w_fi ws (n_v vs 0) 165) (w_ei ws (w_ar ws (n_v vs 0) 160)) (w_ei ws (w_ar ws (n_v vs 0) 161)) (w_ei ws (w_ar ws (n_v vs 0) 162)) (w_ei ws (w_ar ws (n_v vs 0) 163)) (w_ei ws (w_ar ws (n_v vs 0) 1)) (w_fi ws (n_v vs 0) 10) (w_fi ws (n_v vs 0) 158) (w_fi ws (n_v vs 0) 157) (w_fi ws (n_v vs 0) 159) (w_fi ws (n_v vs 0) 8) (v_iv (Value.int x)) k1 k2 k3 k6 k7 k14 k15 k16 k17 k18 d0 f0 f1 f2 f3 f4 f5 f6 f7 f8 f10 f11 f12 f13 f14 f16 f17 f18 f19 f20 f21 f23 f24 f25 hK_0_1 hK_0_160 hK_0_162 hK_0_163 kz_0_8 kz_0_10 kz_0_157 kz_0_158 kz_0_159 kz_0_164 kz_0_165 ex2 ex3
  have nf1 : fc_1 PRD (20, [1, 4], [30, 0, 1, 0, 0, -1, 1, 158]) ws (vs ++ [Value.int x]) := by
    refine ⟨nf_inA hl rfl, sgq_306 ?_⟩
    · show 1 * v_iv (n_v (vs ++ [Value.int x]) 1) + ((-1) * w_fi ws (n_v (vs ++ [Value.int x]) 4) 158 + 0) ≤ 0
      simp only [e_1, e_4, q4]
      exact vc_Mo_product_at_f0_20_1 (v_iv (n_v vs 1)) (v_iv (n_v vs 2)) (v_iv (n_v vs 3)) (v_iv (n_v vs 6)) (v_iv (n_v vs 7)) (v_iv (n_v vs 14)) (v_iv (n_v vs 15)) (v_iv (n_v vs 16)) (v_iv (n_v vs 17)) (v_iv (n_v vs 18)) (w_fi ws (n_v vs 0) 164) (w_fi ws (n_v vs 0) 165) (w_ei ws (w_ar ws (n_v vs 0) 160)) (w_ei ws (w_ar ws (n_v vs 0) 161)) (w_ei ws (w_ar ws (n_v vs 0) 162)) (w_ei ws (w_ar ws (n_v vs 0) 163)) (w_ei ws (w_ar ws (n_v vs 0) 1)) (w_fi ws (n_v vs 0) 10) (w_fi ws (n_v vs 0) 158) (w_fi ws (n_v vs 0) 157) (w_fi ws (n_v vs 0) 159) (w_fi ws (n_v vs 0) 8) (v_iv (Value.int x)) k1 k2 k3 k6 k7 k14 k15 k16 k17 k18 d0 f0 f1 f2 f3 f4 f5 f6 f7 f8 f10 f11 f12 f13 f14 f16 f17 f18 f19 f20 f21 f23 f24 f25 hK_0_1 hK_0_160 hK_0_162 hK_0_163 kz_0_8 kz_0_10 kz_0_157 kz_0_158 kz_0_159 kz_0_164 kz_0_165 ex2 ex3
  have nf2 : fc_1 PRD (20, [4], [50, 2, 0, 164, 165, 4, 7, 1, 3, 2, 0, 164, 0, 0, 0, 3, 2, 0, 165, 0, 23]) ws (vs ++ [Value.int x]) := by
    refine ⟨nf_inA hl rfl, sgq_299 ?_⟩
    · show (w_fi ws (n_v (vs ++ [Value.int x]) 4) 164 = 0) → (w_fi ws (n_v (vs ++ [Value.int x]) 4) 165 ≤ 23)
      simp only [e_4, q4]
      exact vc_Mo_product_at_f0_20_2 (v_iv (n_v vs 1)) (v_iv (n_v vs 2)) (v_iv (n_v vs 3)) (v_iv (n_v vs 6)) (v_iv (n_v vs 7)) (v_iv (n_v vs 14)) (v_iv (n_v vs 15)) (v_iv (n_v vs 16)) (v_iv (n_v vs 17)) (v_iv (n_v vs 18)) (w_fi ws (n_v vs 0) 164) (w_fi ws (n_v vs 0) 165) (w_ei ws (w_ar ws (n_v vs 0) 160)) (w_ei ws (w_ar ws (n_v vs 0) 161)) (w_ei ws (w_ar ws (n_v vs 0) 162)) (w_ei ws (w_ar ws (n_v vs 0) 163)) (w_ei ws (w_ar ws (n_v vs 0) 1)) (w_fi ws (n_v vs 0) 10) (w_fi ws (n_v vs 0) 158) (w_fi ws (n_v vs 0) 157) (w_fi ws (n_v vs 0) 159) (w_fi ws (n_v vs 0) 8) (v_iv (Value.int x)) k1 k2 k3 k6 k7 k14 k15 k16 k17 k18 d0 f0 f1 f2 f3 f4 f5 f6 f7 f8 f10 f11 f12 f13 f14 f16 f17 f18 f19 f20 f21 f23 f24 f25 hK_0_1 hK_0_160 hK_0_162 hK_0_163 kz_0_8 kz_0_10 kz_0_157 kz_0_158 kz_0_159 kz_0_164 kz_0_165 ex2 ex3
  have nf3 : fc_1 PRD (20, [4], [30, 0, 1, 1, 159]) ws (vs ++ [Value.int x]) := by
    refine ⟨nf_inA hl rfl, sgq_999 ?_⟩
    · show 1 * w_fi ws (n_v (vs ++ [Value.int x]) 4) 159 + 0 ≤ 0
      simp only [e_4, q4]
      exact vc_Mo_product_at_f0_20_3 (v_iv (n_v vs 1)) (v_iv (n_v vs 2)) (v_iv (n_v vs 3)) (v_iv (n_v vs 6)) (v_iv (n_v vs 7)) (v_iv (n_v vs 14)) (v_iv (n_v vs 15)) (v_iv (n_v vs 16)) (v_iv (n_v vs 17)) (v_iv (n_v vs 18)) (w_fi ws (n_v vs 0) 164) (w_fi ws (n_v vs 0) 165) (w_ei ws (w_ar ws (n_v vs 0) 160)) (w_ei ws (w_ar ws (n_v vs 0) 161)) (w_ei ws (w_ar ws (n_v vs 0) 162)) (w_ei ws (w_ar ws (n_v vs 0) 163)) (w_ei ws (w_ar ws (n_v vs 0) 1)) (w_fi ws (n_v vs 0) 10) (w_fi ws (n_v vs 0) 158) (w_fi ws (n_v vs 0) 157) (w_fi ws (n_v vs 0) 159) (w_fi ws (n_v vs 0) 8) (v_iv (Value.int x)) k1 k2 k3 k6 k7 k14 k15 k16 k17 k18 d0 f0 f1 f2 f3 f4 f5 f6 f7 f8 f10 f11 f12 f13 f14 f16 f17 f18 f19 f20 f21 f23 f24 f25 hK_0_1 hK_0_160 hK_0_162 hK_0_163 kz_0_8 kz_0_10 kz_0_157 kz_0_158 kz_0_159 kz_0_164 kz_0_165 ex2 ex3
  have nf4 : fc_1 PRD (20, [4], [30, 0, -1, 1, 159]) ws (vs ++ [Value.int x]) := by
    refine ⟨nf_inA hl rfl, sgq_1000 ?_⟩
    · show (-1) * w_fi ws (n_v (vs ++ [Value.int x]) 4) 159 + 0 ≤ 0
      simp only [e_4, q4]
      exact vc_Mo_product_at_f0_20_4 (v_iv (n_v vs 1)) (v_iv (n_v vs 2)) (v_iv (n_v vs 3)) (v_iv (n_v vs 6)) (v_iv (n_v vs 7)) (v_iv (n_v vs 14)) (v_iv (n_v vs 15)) (v_iv (n_v vs 16)) (v_iv (n_v vs 17)) (v_iv (n_v vs 18)) (w_fi ws (n_v vs 0) 164) (w_fi ws (n_v vs 0) 165) (w_ei ws (w_ar ws (n_v vs 0) 160)) (w_ei ws (w_ar ws (n_v vs 0) 161)) (w_ei ws (w_ar ws (n_v vs 0) 162)) (w_ei ws (w_ar ws (n_v vs 0) 163)) (w_ei ws (w_ar ws (n_v vs 0) 1)) (w_fi ws (n_v vs 0) 10) (w_fi ws (n_v vs 0) 158) (w_fi ws (n_v vs 0) 157) (w_fi ws (n_v vs 0) 159) (w_fi ws (n_v vs 0) 8) (v_iv (Value.int x)) k1 k2 k3 k6 k7 k14 k15 k16 k17 k18 d0 f0 f1 f2 f3 f4 f5 f6 f7 f8 f10 f11 f12 f13 f14 f16 f17 f18 f19 f20 f21 f23 f24 f25 hK_0_1 hK_0_160 hK_0_162 hK_0_163 kz_0_8 kz_0_10 kz_0_157 kz_0_158 kz_0_159 kz_0_164 kz_0_165 ex2 ex3
  have nf5 : fc_1 PRD (20, [21, 4], [30, -2011, -1, 0, 0, -1, 1, 158]) ws (vs ++ [Value.int x]) := by
    refine ⟨nf_inA hl rfl, sgq_317 ?_⟩
    · show (-1) * v_iv (n_v (vs ++ [Value.int x]) 21) + ((-1) * w_fi ws (n_v (vs ++ [Value.int x]) 4) 158 + 0) ≤ (-2011)
      simp only [e_4, e_21, q4]
      exact vc_Mo_product_at_f0_20_5 (v_iv (n_v vs 1)) (v_iv (n_v vs 2)) (v_iv (n_v vs 3)) (v_iv (n_v vs 6)) (v_iv (n_v vs 7)) (v_iv (n_v vs 14)) (v_iv (n_v vs 15)) (v_iv (n_v vs 16)) (v_iv (n_v vs 17)) (v_iv (n_v vs 18)) (w_fi ws (n_v vs 0) 164) (w_fi ws (n_v vs 0) 165) (w_ei ws (w_ar ws (n_v vs 0) 160)) (w_ei ws (w_ar ws (n_v vs 0) 161)) (w_ei ws (w_ar ws (n_v vs 0) 162)) (w_ei ws (w_ar ws (n_v vs 0) 163)) (w_ei ws (w_ar ws (n_v vs 0) 1)) (w_fi ws (n_v vs 0) 10) (w_fi ws (n_v vs 0) 158) (w_fi ws (n_v vs 0) 157) (w_fi ws (n_v vs 0) 159) (w_fi ws (n_v vs 0) 8) (v_iv (Value.int x)) k1 k2 k3 k6 k7 k14 k15 k16 k17 k18 d0 f0 f1 f2 f3 f4 f5 f6 f7 f8 f10 f11 f12 f13 f14 f16 f17 f18 f19 f20 f21 f23 f24 f25 hK_0_1 hK_0_160 hK_0_162 hK_0_163 kz_0_8 kz_0_10 kz_0_157 kz_0_158 kz_0_159 kz_0_164 kz_0_165 ex2 ex3
  have nf6 : fc_1 PRD (20, [4, 1, 2, 3], [60, 4, 5, 6, 8, 158, 164, 10, 160, 161, 162, 163, 1]) ws (vs ++ [Value.int x]) := by
    refine ⟨nf_inA hl rfl, sgq_342 ?_⟩
    · show SPWv (w_fi ws (n_v (vs ++ [Value.int x]) 4) 8) (w_fi ws (n_v (vs ++ [Value.int x]) 4) 158) (w_fi ws (n_v (vs ++ [Value.int x]) 4) 164) (w_fi ws (n_v (vs ++ [Value.int x]) 4) 10) (w_ei ws (w_ar ws (n_v (vs ++ [Value.int x]) 4) 160)) (w_ei ws (w_ar ws (n_v (vs ++ [Value.int x]) 4) 161)) (w_ei ws (w_ar ws (n_v (vs ++ [Value.int x]) 4) 162)) (w_ei ws (w_ar ws (n_v (vs ++ [Value.int x]) 4) 163)) (w_ei ws (w_ar ws (n_v (vs ++ [Value.int x]) 4) 1)) (v_iv (n_v (vs ++ [Value.int x]) 1)) (v_iv (n_v (vs ++ [Value.int x]) 2)) (v_iv (n_v (vs ++ [Value.int x]) 3))
      simp only [e_1, e_2, e_3, e_4, q4]
      exact vc_Mo_product_at_f0_20_6 (v_iv (n_v vs 1)) (v_iv (n_v vs 2)) (v_iv (n_v vs 3)) (v_iv (n_v vs 16)) (v_iv (n_v vs 17)) (v_iv (n_v vs 18)) (w_fi ws (n_v vs 0) 164) (w_ei ws (w_ar ws (n_v vs 0) 160)) (w_ei ws (w_ar ws (n_v vs 0) 161)) (w_ei ws (w_ar ws (n_v vs 0) 162)) (w_ei ws (w_ar ws (n_v vs 0) 163)) (w_ei ws (w_ar ws (n_v vs 0) 1)) (w_fi ws (n_v vs 0) 10) (w_fi ws (n_v vs 0) 158) (w_fi ws (n_v vs 0) 8) k1 k2 k3 k16 k17 k18 f3 f4 f7 f11 f14 kz_0_8 kz_0_10 kz_0_158 kz_0_164
  have nf7 : fc_1 PRD (23, [3], [0, 1]) ws (vs ++ [Value.int x]) := by
    refine ⟨nf_inA hl rfl, sgq_1477 ?_⟩
    · show 1 * v_iv (n_v (vs ++ [Value.int x]) 3) + 0 ≤ 0
      rw [e_3]
      exact vc_Mo_product_at_f0_20_7 (v_iv (n_v vs 1)) (v_iv (n_v vs 2)) (v_iv (n_v vs 3)) (v_iv (n_v vs 6)) (v_iv (n_v vs 7)) (v_iv (n_v vs 14)) (v_iv (n_v vs 15)) (v_iv (n_v vs 16)) (v_iv (n_v vs 17)) (v_iv (n_v vs 18)) (w_fi ws (n_v vs 0) 164) (w_fi ws (n_v vs 0) 165) (w_ei ws (w_ar ws (n_v vs 0) 160)) (w_ei ws (w_ar ws (n_v vs 0) 161)) (w_ei ws (w_ar ws (n_v vs 0) 162)) (w_ei ws (w_ar ws (n_v vs 0) 163)) (w_ei ws (w_ar ws (n_v vs 0) 1)) (w_fi ws (n_v vs 0) 10) (w_fi ws (n_v vs 0) 158) (w_fi ws (n_v vs 0) 157) (w_fi ws (n_v vs 0) 159) (w_fi ws (n_v vs 0) 8) (v_iv (Value.int x)) k1 k2 k3 k6 k7 k14 k15 k16 k17 k18 d0 f0 f1 f2 f3 f4 f5 f6 f7 f8 f10 f11 f12 f13 f14 f16 f17 f18 f19 f20 f21 f23 f24 f25 hK_0_1 hK_0_160 hK_0_162 hK_0_163 kz_0_8 kz_0_10 kz_0_157 kz_0_158 kz_0_159 kz_0_164 kz_0_165 ex2 ex3
  have nf8 : fc_1 PRD (23, [3], [0, -1]) ws (vs ++ [Value.int x]) := by
    refine ⟨nf_inA hl rfl, sgq_1013 ?_⟩
    · show (-1) * v_iv (n_v (vs ++ [Value.int x]) 3) + 0 ≤ 0
      rw [e_3]
      exact vc_Mo_product_at_f0_20_8 (v_iv (n_v vs 1)) (v_iv (n_v vs 2)) (v_iv (n_v vs 3)) (v_iv (n_v vs 6)) (v_iv (n_v vs 7)) (v_iv (n_v vs 14)) (v_iv (n_v vs 15)) (v_iv (n_v vs 16)) (v_iv (n_v vs 17)) (v_iv (n_v vs 18)) (w_fi ws (n_v vs 0) 164) (w_fi ws (n_v vs 0) 165) (w_ei ws (w_ar ws (n_v vs 0) 160)) (w_ei ws (w_ar ws (n_v vs 0) 161)) (w_ei ws (w_ar ws (n_v vs 0) 162)) (w_ei ws (w_ar ws (n_v vs 0) 163)) (w_ei ws (w_ar ws (n_v vs 0) 1)) (w_fi ws (n_v vs 0) 10) (w_fi ws (n_v vs 0) 158) (w_fi ws (n_v vs 0) 157) (w_fi ws (n_v vs 0) 159) (w_fi ws (n_v vs 0) 8) (v_iv (Value.int x)) k1 k2 k3 k6 k7 k14 k15 k16 k17 k18 d0 f0 f1 f2 f3 f4 f5 f6 f7 f8 f10 f11 f12 f13 f14 f16 f17 f18 f19 f20 f21 f23 f24 f25 hK_0_1 hK_0_160 hK_0_162 hK_0_163 kz_0_8 kz_0_10 kz_0_157 kz_0_158 kz_0_159 kz_0_164 kz_0_165 ex2 ex3
  have nf9 : fc_1 PRD (24, [0, 4], []) ws (vs ++ [Value.int x]) := by
    refine ⟨nf_inA hl rfl, sgq_5 ?_⟩
    · show n_v (vs ++ [Value.int x]) 0 = n_v (vs ++ [Value.int x]) 4
      first | rfl | simp only [e_0, e_4, q4]
  obtain ⟨x0, e0, _, _⟩ := tv_int t7 rfl
  have e1 : v_iv (n_v vs 7) = x0.toInt := by rw [e0]; rfl
  have ho : sy_ofs (vs ++ [Value.int x]) (21, 7, 0, 0) := by
    refine ⟨x, x0, by rw [List.getElem?_append_right (by rw [hl]; decide), hl]; rfl, ?_, ?_, ?_⟩
    · rw [List.getElem?_append_left (by rw [hl]; decide)]; exact n_v_some (by rw [hl]; decide) e0
    · show x0.toInt + 0 ≤ x.toInt; omega
    · show x.toInt ≤ x0.toInt + 0; omega
  exact ⟨(fun _ h => (by cases h)), [Value.int x], ag_one hx, List.forall_mem_cons.mpr ⟨⟨show (20 : Nat) < 100 from by decide, nf0⟩, List.forall_mem_cons.mpr ⟨⟨show (20 : Nat) < 100 from by decide, nf1⟩, List.forall_mem_cons.mpr ⟨⟨show (20 : Nat) < 100 from by decide, nf2⟩, List.forall_mem_cons.mpr ⟨⟨show (20 : Nat) < 100 from by decide, nf3⟩, List.forall_mem_cons.mpr ⟨⟨show (20 : Nat) < 100 from by decide, nf4⟩, List.forall_mem_cons.mpr ⟨⟨show (20 : Nat) < 100 from by decide, nf5⟩, List.forall_mem_cons.mpr ⟨⟨show (20 : Nat) < 100 from by decide, nf6⟩, List.forall_mem_cons.mpr ⟨⟨show (23 : Nat) < 100 from by decide, nf7⟩, List.forall_mem_cons.mpr ⟨⟨show (23 : Nat) < 100 from by decide, nf8⟩, List.forall_mem_cons.mpr ⟨⟨show (24 : Nat) < 100 from by decide, nf9⟩, (fun _ h => (by cases h))⟩⟩⟩⟩⟩⟩⟩⟩⟩⟩, List.forall_mem_cons.mpr ⟨ho, (fun _ h => (by cases h))⟩⟩
set_option maxHeartbeats 4000000 in
theorem vc_Mo_product_at_f0_21_0 (x1 : Int) (x2 : Int) (x3 : Int) (x9 : Int) (tokenKind_0 : Int → Int) (cur_0 : Int) (tokens_0 : Int) (styleKind_0 : Int) (styleOne_0 : Int) (opened_0 : Int) (tokenValue_0 : Int → Int) (tokenPlace_0 : Int → Int) (tokenEnd_0 : Int → Int) (tape_0 : Int → Int) (fault_0 : Int) (limit_0 : Int) (gx : Int) (k1 : 0 ≤ x1 ∧ x1 ≤ 2009) (k2 : 0 ≤ x2 ∧ x2 ≤ 5) (k3 : 0 ≤ x3 ∧ x3 ≤ 13) (k9 : 0 ≤ x9 ∧ x9 ≤ 2010) (f0 : ((cur_0 + 1) ≤ tokens_0) ∧ ((tokens_0 ≤ 2010) ∧ ((tokenKind_0 ((tokens_0 - 1)) = 0) ∨ (tokenKind_0 ((tokens_0 - 1)) = 4)))) (f1 : 1 * x1 + ((-1) * cur_0 + 0) ≤ 0) (f2 : (styleKind_0 = 0) → (styleOne_0 ≤ 23)) (f3 : 1 * opened_0 + 0 ≤ 0) (f4 : (-1) * opened_0 + 0 ≤ 0) (f5 : (-1) * x9 + ((-1) * cur_0 + 0) ≤ (-2011)) (f6 : SPWv (fault_0) (cur_0) (styleKind_0) (limit_0) (tokenKind_0) (tokenValue_0) (tokenPlace_0) (tokenEnd_0) (tape_0) (x1) (x2) (x3)) (f7 : 1 * x3 + 0 ≤ 0) (f8 : (-1) * x3 + 0 ≤ 0) (hK_0_1 : ∀ j : Int, 0 ≤ j → j < 2000 → (-128) ≤ tape_0 j ∧ tape_0 j ≤ 127) (hK_0_160 : ∀ j : Int, 0 ≤ j → j < 2010 → 0 ≤ tokenKind_0 j ∧ tokenKind_0 j ≤ 4) (hK_0_162 : ∀ j : Int, 0 ≤ j → j < 2010 → 0 ≤ tokenPlace_0 j ∧ tokenPlace_0 j ≤ 2000) (hK_0_163 : ∀ j : Int, 0 ≤ j → j < 2010 → 0 ≤ tokenEnd_0 j ∧ tokenEnd_0 j ≤ 2000) (kz_0_8 : 0 ≤ fault_0 ∧ fault_0 ≤ 5) (kz_0_10 : 0 ≤ limit_0 ∧ limit_0 ≤ 2000) (kz_0_157 : 0 ≤ tokens_0 ∧ tokens_0 ≤ 2010) (kz_0_158 : 0 ≤ cur_0 ∧ cur_0 ≤ 2009) (kz_0_159 : 0 ≤ opened_0 ∧ opened_0 ≤ 13) (kz_0_164 : 0 ≤ styleKind_0 ∧ styleKind_0 ≤ 1) (kz_0_165 : (-1) ≤ styleOne_0 ∧ styleOne_0 ≤ 47) (ex2 : gx = 2010 + ((-1) * cur_0 + 0)) (ex3 : 0 ≤ gx ∧ gx ≤ 2010) : ((cur_0 + 1) ≤ tokens_0) ∧ ((tokens_0 ≤ 2010) ∧ ((tokenKind_0 ((tokens_0 - 1)) = 0) ∨ (tokenKind_0 ((tokens_0 - 1)) = 4))) := by
  first | assumption | (clear f0 f2 hK_0_1 hK_0_160 hK_0_162 hK_0_163; omega) | (clear hK_0_1 hK_0_160 hK_0_162 hK_0_163; grind) | omega | grind
set_option maxHeartbeats 4000000 in
theorem vc_Mo_product_at_f0_21_1 (x1 : Int) (x2 : Int) (x3 : Int) (x9 : Int) (tokenKind_0 : Int → Int) (cur_0 : Int) (tokens_0 : Int) (styleKind_0 : Int) (styleOne_0 : Int) (opened_0 : Int) (tokenValue_0 : Int → Int) (tokenPlace_0 : Int → Int) (tokenEnd_0 : Int → Int) (tape_0 : Int → Int) (fault_0 : Int) (limit_0 : Int) (gx : Int) (k1 : 0 ≤ x1 ∧ x1 ≤ 2009) (k2 : 0 ≤ x2 ∧ x2 ≤ 5) (k3 : 0 ≤ x3 ∧ x3 ≤ 13) (k9 : 0 ≤ x9 ∧ x9 ≤ 2010) (f0 : ((cur_0 + 1) ≤ tokens_0) ∧ ((tokens_0 ≤ 2010) ∧ ((tokenKind_0 ((tokens_0 - 1)) = 0) ∨ (tokenKind_0 ((tokens_0 - 1)) = 4)))) (f1 : 1 * x1 + ((-1) * cur_0 + 0) ≤ 0) (f2 : (styleKind_0 = 0) → (styleOne_0 ≤ 23)) (f3 : 1 * opened_0 + 0 ≤ 0) (f4 : (-1) * opened_0 + 0 ≤ 0) (f5 : (-1) * x9 + ((-1) * cur_0 + 0) ≤ (-2011)) (f6 : SPWv (fault_0) (cur_0) (styleKind_0) (limit_0) (tokenKind_0) (tokenValue_0) (tokenPlace_0) (tokenEnd_0) (tape_0) (x1) (x2) (x3)) (f7 : 1 * x3 + 0 ≤ 0) (f8 : (-1) * x3 + 0 ≤ 0) (hK_0_1 : ∀ j : Int, 0 ≤ j → j < 2000 → (-128) ≤ tape_0 j ∧ tape_0 j ≤ 127) (hK_0_160 : ∀ j : Int, 0 ≤ j → j < 2010 → 0 ≤ tokenKind_0 j ∧ tokenKind_0 j ≤ 4) (hK_0_162 : ∀ j : Int, 0 ≤ j → j < 2010 → 0 ≤ tokenPlace_0 j ∧ tokenPlace_0 j ≤ 2000) (hK_0_163 : ∀ j : Int, 0 ≤ j → j < 2010 → 0 ≤ tokenEnd_0 j ∧ tokenEnd_0 j ≤ 2000) (kz_0_8 : 0 ≤ fault_0 ∧ fault_0 ≤ 5) (kz_0_10 : 0 ≤ limit_0 ∧ limit_0 ≤ 2000) (kz_0_157 : 0 ≤ tokens_0 ∧ tokens_0 ≤ 2010) (kz_0_158 : 0 ≤ cur_0 ∧ cur_0 ≤ 2009) (kz_0_159 : 0 ≤ opened_0 ∧ opened_0 ≤ 13) (kz_0_164 : 0 ≤ styleKind_0 ∧ styleKind_0 ≤ 1) (kz_0_165 : (-1) ≤ styleOne_0 ∧ styleOne_0 ≤ 47) (ex2 : gx = 2010 + ((-1) * cur_0 + 0)) (ex3 : 0 ≤ gx ∧ gx ≤ 2010) : 1 * x1 + ((-1) * cur_0 + 0) ≤ 0 := by
  first | assumption | (clear f0 f2 hK_0_1 hK_0_160 hK_0_162 hK_0_163; omega) | (clear hK_0_1 hK_0_160 hK_0_162 hK_0_163; grind) | omega | grind
set_option maxHeartbeats 4000000 in
theorem vc_Mo_product_at_f0_21_2 (x1 : Int) (x2 : Int) (x3 : Int) (x9 : Int) (tokenKind_0 : Int → Int) (cur_0 : Int) (tokens_0 : Int) (styleKind_0 : Int) (styleOne_0 : Int) (opened_0 : Int) (tokenValue_0 : Int → Int) (tokenPlace_0 : Int → Int) (tokenEnd_0 : Int → Int) (tape_0 : Int → Int) (fault_0 : Int) (limit_0 : Int) (gx : Int) (k1 : 0 ≤ x1 ∧ x1 ≤ 2009) (k2 : 0 ≤ x2 ∧ x2 ≤ 5) (k3 : 0 ≤ x3 ∧ x3 ≤ 13) (k9 : 0 ≤ x9 ∧ x9 ≤ 2010) (f0 : ((cur_0 + 1) ≤ tokens_0) ∧ ((tokens_0 ≤ 2010) ∧ ((tokenKind_0 ((tokens_0 - 1)) = 0) ∨ (tokenKind_0 ((tokens_0 - 1)) = 4)))) (f1 : 1 * x1 + ((-1) * cur_0 + 0) ≤ 0) (f2 : (styleKind_0 = 0) → (styleOne_0 ≤ 23)) (f3 : 1 * opened_0 + 0 ≤ 0) (f4 : (-1) * opened_0 + 0 ≤ 0) (f5 : (-1) * x9 + ((-1) * cur_0 + 0) ≤ (-2011)) (f6 : SPWv (fault_0) (cur_0) (styleKind_0) (limit_0) (tokenKind_0) (tokenValue_0) (tokenPlace_0) (tokenEnd_0) (tape_0) (x1) (x2) (x3)) (f7 : 1 * x3 + 0 ≤ 0) (f8 : (-1) * x3 + 0 ≤ 0) (hK_0_1 : ∀ j : Int, 0 ≤ j → j < 2000 → (-128) ≤ tape_0 j ∧ tape_0 j ≤ 127) (hK_0_160 : ∀ j : Int, 0 ≤ j → j < 2010 → 0 ≤ tokenKind_0 j ∧ tokenKind_0 j ≤ 4) (hK_0_162 : ∀ j : Int, 0 ≤ j → j < 2010 → 0 ≤ tokenPlace_0 j ∧ tokenPlace_0 j ≤ 2000) (hK_0_163 : ∀ j : Int, 0 ≤ j → j < 2010 → 0 ≤ tokenEnd_0 j ∧ tokenEnd_0 j ≤ 2000) (kz_0_8 : 0 ≤ fault_0 ∧ fault_0 ≤ 5) (kz_0_10 : 0 ≤ limit_0 ∧ limit_0 ≤ 2000) (kz_0_157 : 0 ≤ tokens_0 ∧ tokens_0 ≤ 2010) (kz_0_158 : 0 ≤ cur_0 ∧ cur_0 ≤ 2009) (kz_0_159 : 0 ≤ opened_0 ∧ opened_0 ≤ 13) (kz_0_164 : 0 ≤ styleKind_0 ∧ styleKind_0 ≤ 1) (kz_0_165 : (-1) ≤ styleOne_0 ∧ styleOne_0 ≤ 47) (ex2 : gx = 2010 + ((-1) * cur_0 + 0)) (ex3 : 0 ≤ gx ∧ gx ≤ 2010) : (styleKind_0 = 0) → (styleOne_0 ≤ 23) := by
  first | assumption | (clear f0 f2 hK_0_1 hK_0_160 hK_0_162 hK_0_163; omega) | (clear hK_0_1 hK_0_160 hK_0_162 hK_0_163; grind) | omega | grind
set_option maxHeartbeats 4000000 in
theorem vc_Mo_product_at_f0_21_3 (x1 : Int) (x2 : Int) (x3 : Int) (x9 : Int) (tokenKind_0 : Int → Int) (cur_0 : Int) (tokens_0 : Int) (styleKind_0 : Int) (styleOne_0 : Int) (opened_0 : Int) (tokenValue_0 : Int → Int) (tokenPlace_0 : Int → Int) (tokenEnd_0 : Int → Int) (tape_0 : Int → Int) (fault_0 : Int) (limit_0 : Int) (gx : Int) (k1 : 0 ≤ x1 ∧ x1 ≤ 2009) (k2 : 0 ≤ x2 ∧ x2 ≤ 5) (k3 : 0 ≤ x3 ∧ x3 ≤ 13) (k9 : 0 ≤ x9 ∧ x9 ≤ 2010) (f0 : ((cur_0 + 1) ≤ tokens_0) ∧ ((tokens_0 ≤ 2010) ∧ ((tokenKind_0 ((tokens_0 - 1)) = 0) ∨ (tokenKind_0 ((tokens_0 - 1)) = 4)))) (f1 : 1 * x1 + ((-1) * cur_0 + 0) ≤ 0) (f2 : (styleKind_0 = 0) → (styleOne_0 ≤ 23)) (f3 : 1 * opened_0 + 0 ≤ 0) (f4 : (-1) * opened_0 + 0 ≤ 0) (f5 : (-1) * x9 + ((-1) * cur_0 + 0) ≤ (-2011)) (f6 : SPWv (fault_0) (cur_0) (styleKind_0) (limit_0) (tokenKind_0) (tokenValue_0) (tokenPlace_0) (tokenEnd_0) (tape_0) (x1) (x2) (x3)) (f7 : 1 * x3 + 0 ≤ 0) (f8 : (-1) * x3 + 0 ≤ 0) (hK_0_1 : ∀ j : Int, 0 ≤ j → j < 2000 → (-128) ≤ tape_0 j ∧ tape_0 j ≤ 127) (hK_0_160 : ∀ j : Int, 0 ≤ j → j < 2010 → 0 ≤ tokenKind_0 j ∧ tokenKind_0 j ≤ 4) (hK_0_162 : ∀ j : Int, 0 ≤ j → j < 2010 → 0 ≤ tokenPlace_0 j ∧ tokenPlace_0 j ≤ 2000) (hK_0_163 : ∀ j : Int, 0 ≤ j → j < 2010 → 0 ≤ tokenEnd_0 j ∧ tokenEnd_0 j ≤ 2000) (kz_0_8 : 0 ≤ fault_0 ∧ fault_0 ≤ 5) (kz_0_10 : 0 ≤ limit_0 ∧ limit_0 ≤ 2000) (kz_0_157 : 0 ≤ tokens_0 ∧ tokens_0 ≤ 2010) (kz_0_158 : 0 ≤ cur_0 ∧ cur_0 ≤ 2009) (kz_0_159 : 0 ≤ opened_0 ∧ opened_0 ≤ 13) (kz_0_164 : 0 ≤ styleKind_0 ∧ styleKind_0 ≤ 1) (kz_0_165 : (-1) ≤ styleOne_0 ∧ styleOne_0 ≤ 47) (ex2 : gx = 2010 + ((-1) * cur_0 + 0)) (ex3 : 0 ≤ gx ∧ gx ≤ 2010) : 1 * opened_0 + 0 ≤ 0 := by
  first | assumption | (clear f0 f2 hK_0_1 hK_0_160 hK_0_162 hK_0_163; omega) | (clear hK_0_1 hK_0_160 hK_0_162 hK_0_163; grind) | omega | grind
set_option maxHeartbeats 4000000 in
theorem vc_Mo_product_at_f0_21_4 (x1 : Int) (x2 : Int) (x3 : Int) (x9 : Int) (tokenKind_0 : Int → Int) (cur_0 : Int) (tokens_0 : Int) (styleKind_0 : Int) (styleOne_0 : Int) (opened_0 : Int) (tokenValue_0 : Int → Int) (tokenPlace_0 : Int → Int) (tokenEnd_0 : Int → Int) (tape_0 : Int → Int) (fault_0 : Int) (limit_0 : Int) (gx : Int) (k1 : 0 ≤ x1 ∧ x1 ≤ 2009) (k2 : 0 ≤ x2 ∧ x2 ≤ 5) (k3 : 0 ≤ x3 ∧ x3 ≤ 13) (k9 : 0 ≤ x9 ∧ x9 ≤ 2010) (f0 : ((cur_0 + 1) ≤ tokens_0) ∧ ((tokens_0 ≤ 2010) ∧ ((tokenKind_0 ((tokens_0 - 1)) = 0) ∨ (tokenKind_0 ((tokens_0 - 1)) = 4)))) (f1 : 1 * x1 + ((-1) * cur_0 + 0) ≤ 0) (f2 : (styleKind_0 = 0) → (styleOne_0 ≤ 23)) (f3 : 1 * opened_0 + 0 ≤ 0) (f4 : (-1) * opened_0 + 0 ≤ 0) (f5 : (-1) * x9 + ((-1) * cur_0 + 0) ≤ (-2011)) (f6 : SPWv (fault_0) (cur_0) (styleKind_0) (limit_0) (tokenKind_0) (tokenValue_0) (tokenPlace_0) (tokenEnd_0) (tape_0) (x1) (x2) (x3)) (f7 : 1 * x3 + 0 ≤ 0) (f8 : (-1) * x3 + 0 ≤ 0) (hK_0_1 : ∀ j : Int, 0 ≤ j → j < 2000 → (-128) ≤ tape_0 j ∧ tape_0 j ≤ 127) (hK_0_160 : ∀ j : Int, 0 ≤ j → j < 2010 → 0 ≤ tokenKind_0 j ∧ tokenKind_0 j ≤ 4) (hK_0_162 : ∀ j : Int, 0 ≤ j → j < 2010 → 0 ≤ tokenPlace_0 j ∧ tokenPlace_0 j ≤ 2000) (hK_0_163 : ∀ j : Int, 0 ≤ j → j < 2010 → 0 ≤ tokenEnd_0 j ∧ tokenEnd_0 j ≤ 2000) (kz_0_8 : 0 ≤ fault_0 ∧ fault_0 ≤ 5) (kz_0_10 : 0 ≤ limit_0 ∧ limit_0 ≤ 2000) (kz_0_157 : 0 ≤ tokens_0 ∧ tokens_0 ≤ 2010) (kz_0_158 : 0 ≤ cur_0 ∧ cur_0 ≤ 2009) (kz_0_159 : 0 ≤ opened_0 ∧ opened_0 ≤ 13) (kz_0_164 : 0 ≤ styleKind_0 ∧ styleKind_0 ≤ 1) (kz_0_165 : (-1) ≤ styleOne_0 ∧ styleOne_0 ≤ 47) (ex2 : gx = 2010 + ((-1) * cur_0 + 0)) (ex3 : 0 ≤ gx ∧ gx ≤ 2010) : (-1) * opened_0 + 0 ≤ 0 := by
  first | assumption | (clear f0 f2 hK_0_1 hK_0_160 hK_0_162 hK_0_163; omega) | (clear hK_0_1 hK_0_160 hK_0_162 hK_0_163; grind) | omega | grind
set_option maxHeartbeats 4000000 in
theorem vc_Mo_product_at_f0_21_5 (x1 : Int) (x2 : Int) (x3 : Int) (tokenKind_0 : Int → Int) (cur_0 : Int) (styleKind_0 : Int) (tokenValue_0 : Int → Int) (tokenPlace_0 : Int → Int) (tokenEnd_0 : Int → Int) (tape_0 : Int → Int) (fault_0 : Int) (limit_0 : Int) (k1 : 0 ≤ x1 ∧ x1 ≤ 2009) (k2 : 0 ≤ x2 ∧ x2 ≤ 5) (k3 : 0 ≤ x3 ∧ x3 ≤ 13) (f6 : SPWv (fault_0) (cur_0) (styleKind_0) (limit_0) (tokenKind_0) (tokenValue_0) (tokenPlace_0) (tokenEnd_0) (tape_0) (x1) (x2) (x3)) (kz_0_8 : 0 ≤ fault_0 ∧ fault_0 ≤ 5) (kz_0_10 : 0 ≤ limit_0 ∧ limit_0 ≤ 2000) (kz_0_158 : 0 ≤ cur_0 ∧ cur_0 ≤ 2009) (kz_0_164 : 0 ≤ styleKind_0 ∧ styleKind_0 ≤ 1) : SPWv (fault_0) (cur_0) (styleKind_0) (limit_0) (tokenKind_0) (tokenValue_0) (tokenPlace_0) (tokenEnd_0) (tape_0) (x1) (x2) (x3) := by
  first
    | exact spw_start (‹SVL _ _ _ _ _ _ _ _ _ _ _ _›) (by omega) (by omega) (by omega) (by omega)
    | exact spw_go (‹GPW _ _ _ _ _ _ _ _ _ _ _ _›) (‹SVL _ _ _ _ _ _ _ _ _ _ _ _›) (by omega) (by omega) (by omega)
    | assumption
  
set_option maxHeartbeats 4000000 in
theorem vc_Mo_product_at_f0_21_6 (x1 : Int) (x2 : Int) (x3 : Int) (x9 : Int) (tokenKind_0 : Int → Int) (cur_0 : Int) (tokens_0 : Int) (styleKind_0 : Int) (styleOne_0 : Int) (opened_0 : Int) (tokenValue_0 : Int → Int) (tokenPlace_0 : Int → Int) (tokenEnd_0 : Int → Int) (tape_0 : Int → Int) (fault_0 : Int) (limit_0 : Int) (gx : Int) (k1 : 0 ≤ x1 ∧ x1 ≤ 2009) (k2 : 0 ≤ x2 ∧ x2 ≤ 5) (k3 : 0 ≤ x3 ∧ x3 ≤ 13) (k9 : 0 ≤ x9 ∧ x9 ≤ 2010) (f0 : ((cur_0 + 1) ≤ tokens_0) ∧ ((tokens_0 ≤ 2010) ∧ ((tokenKind_0 ((tokens_0 - 1)) = 0) ∨ (tokenKind_0 ((tokens_0 - 1)) = 4)))) (f1 : 1 * x1 + ((-1) * cur_0 + 0) ≤ 0) (f2 : (styleKind_0 = 0) → (styleOne_0 ≤ 23)) (f3 : 1 * opened_0 + 0 ≤ 0) (f4 : (-1) * opened_0 + 0 ≤ 0) (f5 : (-1) * x9 + ((-1) * cur_0 + 0) ≤ (-2011)) (f6 : SPWv (fault_0) (cur_0) (styleKind_0) (limit_0) (tokenKind_0) (tokenValue_0) (tokenPlace_0) (tokenEnd_0) (tape_0) (x1) (x2) (x3)) (f7 : 1 * x3 + 0 ≤ 0) (f8 : (-1) * x3 + 0 ≤ 0) (hK_0_1 : ∀ j : Int, 0 ≤ j → j < 2000 → (-128) ≤ tape_0 j ∧ tape_0 j ≤ 127) (hK_0_160 : ∀ j : Int, 0 ≤ j → j < 2010 → 0 ≤ tokenKind_0 j ∧ tokenKind_0 j ≤ 4) (hK_0_162 : ∀ j : Int, 0 ≤ j → j < 2010 → 0 ≤ tokenPlace_0 j ∧ tokenPlace_0 j ≤ 2000) (hK_0_163 : ∀ j : Int, 0 ≤ j → j < 2010 → 0 ≤ tokenEnd_0 j ∧ tokenEnd_0 j ≤ 2000) (kz_0_8 : 0 ≤ fault_0 ∧ fault_0 ≤ 5) (kz_0_10 : 0 ≤ limit_0 ∧ limit_0 ≤ 2000) (kz_0_157 : 0 ≤ tokens_0 ∧ tokens_0 ≤ 2010) (kz_0_158 : 0 ≤ cur_0 ∧ cur_0 ≤ 2009) (kz_0_159 : 0 ≤ opened_0 ∧ opened_0 ≤ 13) (kz_0_164 : 0 ≤ styleKind_0 ∧ styleKind_0 ≤ 1) (kz_0_165 : (-1) ≤ styleOne_0 ∧ styleOne_0 ≤ 47) (ex2 : gx = 2010 + ((-1) * cur_0 + 0)) (ex3 : 0 ≤ gx ∧ gx ≤ 2010) : 1 * x3 + 0 ≤ 0 := by
  first | assumption | (clear f0 f2 hK_0_1 hK_0_160 hK_0_162 hK_0_163; omega) | (clear hK_0_1 hK_0_160 hK_0_162 hK_0_163; grind) | omega | grind
set_option maxHeartbeats 4000000 in
theorem vc_Mo_product_at_f0_21_7 (x1 : Int) (x2 : Int) (x3 : Int) (x9 : Int) (tokenKind_0 : Int → Int) (cur_0 : Int) (tokens_0 : Int) (styleKind_0 : Int) (styleOne_0 : Int) (opened_0 : Int) (tokenValue_0 : Int → Int) (tokenPlace_0 : Int → Int) (tokenEnd_0 : Int → Int) (tape_0 : Int → Int) (fault_0 : Int) (limit_0 : Int) (gx : Int) (k1 : 0 ≤ x1 ∧ x1 ≤ 2009) (k2 : 0 ≤ x2 ∧ x2 ≤ 5) (k3 : 0 ≤ x3 ∧ x3 ≤ 13) (k9 : 0 ≤ x9 ∧ x9 ≤ 2010) (f0 : ((cur_0 + 1) ≤ tokens_0) ∧ ((tokens_0 ≤ 2010) ∧ ((tokenKind_0 ((tokens_0 - 1)) = 0) ∨ (tokenKind_0 ((tokens_0 - 1)) = 4)))) (f1 : 1 * x1 + ((-1) * cur_0 + 0) ≤ 0) (f2 : (styleKind_0 = 0) → (styleOne_0 ≤ 23)) (f3 : 1 * opened_0 + 0 ≤ 0) (f4 : (-1) * opened_0 + 0 ≤ 0) (f5 : (-1) * x9 + ((-1) * cur_0 + 0) ≤ (-2011)) (f6 : SPWv (fault_0) (cur_0) (styleKind_0) (limit_0) (tokenKind_0) (tokenValue_0) (tokenPlace_0) (tokenEnd_0) (tape_0) (x1) (x2) (x3)) (f7 : 1 * x3 + 0 ≤ 0) (f8 : (-1) * x3 + 0 ≤ 0) (hK_0_1 : ∀ j : Int, 0 ≤ j → j < 2000 → (-128) ≤ tape_0 j ∧ tape_0 j ≤ 127) (hK_0_160 : ∀ j : Int, 0 ≤ j → j < 2010 → 0 ≤ tokenKind_0 j ∧ tokenKind_0 j ≤ 4) (hK_0_162 : ∀ j : Int, 0 ≤ j → j < 2010 → 0 ≤ tokenPlace_0 j ∧ tokenPlace_0 j ≤ 2000) (hK_0_163 : ∀ j : Int, 0 ≤ j → j < 2010 → 0 ≤ tokenEnd_0 j ∧ tokenEnd_0 j ≤ 2000) (kz_0_8 : 0 ≤ fault_0 ∧ fault_0 ≤ 5) (kz_0_10 : 0 ≤ limit_0 ∧ limit_0 ≤ 2000) (kz_0_157 : 0 ≤ tokens_0 ∧ tokens_0 ≤ 2010) (kz_0_158 : 0 ≤ cur_0 ∧ cur_0 ≤ 2009) (kz_0_159 : 0 ≤ opened_0 ∧ opened_0 ≤ 13) (kz_0_164 : 0 ≤ styleKind_0 ∧ styleKind_0 ≤ 1) (kz_0_165 : (-1) ≤ styleOne_0 ∧ styleOne_0 ≤ 47) (ex2 : gx = 2010 + ((-1) * cur_0 + 0)) (ex3 : 0 ≤ gx ∧ gx ≤ 2010) : (-1) * x3 + 0 ≤ 0 := by
  first | assumption | (clear f0 f2 hK_0_1 hK_0_160 hK_0_162 hK_0_163; omega) | (clear hK_0_1 hK_0_160 hK_0_162 hK_0_163; grind) | omega | grind
set_option maxHeartbeats 4000000 in
theorem vc_Mo_product_at_f0_21_9 (x1 : Int) (x2 : Int) (x3 : Int) (x9 : Int) (tokenKind_0 : Int → Int) (cur_0 : Int) (tokens_0 : Int) (styleKind_0 : Int) (styleOne_0 : Int) (opened_0 : Int) (tokenValue_0 : Int → Int) (tokenPlace_0 : Int → Int) (tokenEnd_0 : Int → Int) (tape_0 : Int → Int) (fault_0 : Int) (limit_0 : Int) (gx : Int) (k1 : 0 ≤ x1 ∧ x1 ≤ 2009) (k2 : 0 ≤ x2 ∧ x2 ≤ 5) (k3 : 0 ≤ x3 ∧ x3 ≤ 13) (k9 : 0 ≤ x9 ∧ x9 ≤ 2010) (f0 : ((cur_0 + 1) ≤ tokens_0) ∧ ((tokens_0 ≤ 2010) ∧ ((tokenKind_0 ((tokens_0 - 1)) = 0) ∨ (tokenKind_0 ((tokens_0 - 1)) = 4)))) (f1 : 1 * x1 + ((-1) * cur_0 + 0) ≤ 0) (f2 : (styleKind_0 = 0) → (styleOne_0 ≤ 23)) (f3 : 1 * opened_0 + 0 ≤ 0) (f4 : (-1) * opened_0 + 0 ≤ 0) (f5 : (-1) * x9 + ((-1) * cur_0 + 0) ≤ (-2011)) (f6 : SPWv (fault_0) (cur_0) (styleKind_0) (limit_0) (tokenKind_0) (tokenValue_0) (tokenPlace_0) (tokenEnd_0) (tape_0) (x1) (x2) (x3)) (f7 : 1 * x3 + 0 ≤ 0) (f8 : (-1) * x3 + 0 ≤ 0) (hK_0_1 : ∀ j : Int, 0 ≤ j → j < 2000 → (-128) ≤ tape_0 j ∧ tape_0 j ≤ 127) (hK_0_160 : ∀ j : Int, 0 ≤ j → j < 2010 → 0 ≤ tokenKind_0 j ∧ tokenKind_0 j ≤ 4) (hK_0_162 : ∀ j : Int, 0 ≤ j → j < 2010 → 0 ≤ tokenPlace_0 j ∧ tokenPlace_0 j ≤ 2000) (hK_0_163 : ∀ j : Int, 0 ≤ j → j < 2010 → 0 ≤ tokenEnd_0 j ∧ tokenEnd_0 j ≤ 2000) (kz_0_8 : 0 ≤ fault_0 ∧ fault_0 ≤ 5) (kz_0_10 : 0 ≤ limit_0 ∧ limit_0 ≤ 2000) (kz_0_157 : 0 ≤ tokens_0 ∧ tokens_0 ≤ 2010) (kz_0_158 : 0 ≤ cur_0 ∧ cur_0 ≤ 2009) (kz_0_159 : 0 ≤ opened_0 ∧ opened_0 ≤ 13) (kz_0_164 : 0 ≤ styleKind_0 ∧ styleKind_0 ≤ 1) (kz_0_165 : (-1) ≤ styleOne_0 ∧ styleOne_0 ≤ 47) (ex2 : gx = 2010 + ((-1) * cur_0 + 0)) (ex3 : 0 ≤ gx ∧ gx ≤ 2010) : 1 * gx + (1 * cur_0 + 0) ≤ 2010 := by
  first | assumption | (clear f0 f2 hK_0_1 hK_0_160 hK_0_162 hK_0_163; omega) | (clear hK_0_1 hK_0_160 hK_0_162 hK_0_163; grind) | omega | grind
set_option maxHeartbeats 4000000 in
theorem vc_Mo_product_at_f0_21_10 (x1 : Int) (x2 : Int) (x3 : Int) (x9 : Int) (tokenKind_0 : Int → Int) (cur_0 : Int) (tokens_0 : Int) (styleKind_0 : Int) (styleOne_0 : Int) (opened_0 : Int) (tokenValue_0 : Int → Int) (tokenPlace_0 : Int → Int) (tokenEnd_0 : Int → Int) (tape_0 : Int → Int) (fault_0 : Int) (limit_0 : Int) (gx : Int) (k1 : 0 ≤ x1 ∧ x1 ≤ 2009) (k2 : 0 ≤ x2 ∧ x2 ≤ 5) (k3 : 0 ≤ x3 ∧ x3 ≤ 13) (k9 : 0 ≤ x9 ∧ x9 ≤ 2010) (f0 : ((cur_0 + 1) ≤ tokens_0) ∧ ((tokens_0 ≤ 2010) ∧ ((tokenKind_0 ((tokens_0 - 1)) = 0) ∨ (tokenKind_0 ((tokens_0 - 1)) = 4)))) (f1 : 1 * x1 + ((-1) * cur_0 + 0) ≤ 0) (f2 : (styleKind_0 = 0) → (styleOne_0 ≤ 23)) (f3 : 1 * opened_0 + 0 ≤ 0) (f4 : (-1) * opened_0 + 0 ≤ 0) (f5 : (-1) * x9 + ((-1) * cur_0 + 0) ≤ (-2011)) (f6 : SPWv (fault_0) (cur_0) (styleKind_0) (limit_0) (tokenKind_0) (tokenValue_0) (tokenPlace_0) (tokenEnd_0) (tape_0) (x1) (x2) (x3)) (f7 : 1 * x3 + 0 ≤ 0) (f8 : (-1) * x3 + 0 ≤ 0) (hK_0_1 : ∀ j : Int, 0 ≤ j → j < 2000 → (-128) ≤ tape_0 j ∧ tape_0 j ≤ 127) (hK_0_160 : ∀ j : Int, 0 ≤ j → j < 2010 → 0 ≤ tokenKind_0 j ∧ tokenKind_0 j ≤ 4) (hK_0_162 : ∀ j : Int, 0 ≤ j → j < 2010 → 0 ≤ tokenPlace_0 j ∧ tokenPlace_0 j ≤ 2000) (hK_0_163 : ∀ j : Int, 0 ≤ j → j < 2010 → 0 ≤ tokenEnd_0 j ∧ tokenEnd_0 j ≤ 2000) (kz_0_8 : 0 ≤ fault_0 ∧ fault_0 ≤ 5) (kz_0_10 : 0 ≤ limit_0 ∧ limit_0 ≤ 2000) (kz_0_157 : 0 ≤ tokens_0 ∧ tokens_0 ≤ 2010) (kz_0_158 : 0 ≤ cur_0 ∧ cur_0 ≤ 2009) (kz_0_159 : 0 ≤ opened_0 ∧ opened_0 ≤ 13) (kz_0_164 : 0 ≤ styleKind_0 ∧ styleKind_0 ≤ 1) (kz_0_165 : (-1) ≤ styleOne_0 ∧ styleOne_0 ≤ 47) (ex2 : gx = 2010 + ((-1) * cur_0 + 0)) (ex3 : 0 ≤ gx ∧ gx ≤ 2010) : (-1) * gx + ((-1) * cur_0 + 0) ≤ (-2010) := by
  first | assumption | (clear f0 f2 hK_0_1 hK_0_160 hK_0_162 hK_0_163; omega) | (clear hK_0_1 hK_0_160 hK_0_162 hK_0_163; grind) | omega | grind
def o_Mo_product_at_f0_21 : or_T := (5, 10, [(0, (2, 0, 0, [165])), (1, (0, 0, 2009, [])), (2, (0, 0, 5, [])), (3, (0, 0, 13, [])), (4, (2, 0, 0, [165])), (9, (0, 0, 2010, []))], [(20, [4], [50, 2, 1, 158, 157, 160, 2, 12, 0, 7, 4, 3, 2, 0, 158, 0, 1, 2, 0, 157, 2, 7, 0, 3, 2, 0, 157, 0, 2010, 3, 14, 1, 10, 3, 0, 160, 5, 3, 2, 0, 157, 0, 1, 0, 0, 1, 10, 3, 0, 160, 5, 3, 2, 0, 157, 0, 1, 0, 4]), (20, [1, 4], [30, 0, 1, 0, 0, -1, 1, 158]), (20, [4], [50, 2, 0, 164, 165, 4, 7, 1, 3, 2, 0, 164, 0, 0, 0, 3, 2, 0, 165, 0, 23]), (20, [4], [30, 0, 1, 1, 159]), (20, [4], [30, 0, -1, 1, 159]), (20, [9, 4], [30, -2011, -1, 0, 0, -1, 1, 158]), (20, [4, 1, 2, 3], [60, 4, 5, 6, 8, 158, 164, 10, 160, 161, 162, 163, 1]), (23, [3], [0, 1]), (23, [3], [0, -1]), (24, [0, 4], [])], [], [(0, 0, 2010, [])], [(20, [4], [50, 2, 1, 158, 157, 160, 2, 12, 0, 7, 4, 3, 2, 0, 158, 0, 1, 2, 0, 157, 2, 7, 0, 3, 2, 0, 157, 0, 2010, 3, 14, 1, 10, 3, 0, 160, 5, 3, 2, 0, 157, 0, 1, 0, 0, 1, 10, 3, 0, 160, 5, 3, 2, 0, 157, 0, 1, 0, 4]), (20, [1, 4], [30, 0, 1, 0, 0, -1, 1, 158]), (20, [4], [50, 2, 0, 164, 165, 4, 7, 1, 3, 2, 0, 164, 0, 0, 0, 3, 2, 0, 165, 0, 23]), (20, [4], [30, 0, 1, 1, 159]), (20, [4], [30, 0, -1, 1, 159]), (20, [4, 1, 2, 3], [60, 4, 5, 6, 8, 158, 164, 10, 160, 161, 162, 163, 1]), (23, [3], [0, 1]), (23, [3], [0, -1]), (24, [0, 4], []), (20, [10, 4], [30, 2010, 1, 0, 0, 1, 1, 158]), (20, [10, 4], [30, -2010, -1, 0, 0, -1, 1, 158])], [(10, 9, -1000000000000, -1)], [])
