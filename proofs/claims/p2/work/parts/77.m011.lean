set_option maxHeartbeats 4000000 in
theorem vc_Mo_grid_0_0 (x1 : Int) (x2 : Int) (x3 : Int) (all_0 : Int → Int) (r_0 : Int) (pt_0 : Int → Int) (ph_0 : Int → Int) (pn_0 : Int) (pm_0 : Int) (alive_0 : Int → Int) (blockOf_0 : Int → Int) (rotMany_0 : Int → Int) (rot_0 : Int → Int) (gx : Int) (k1 : 1 ≤ x1 ∧ x1 ≤ 1) (k2 : 3 ≤ x2 ∧ x2 ≤ 24) (k3 : 3 ≤ x3 ∧ x3 ≤ 3) (f0 : x3 ≤ x2) (f1 : 1 * x2 + ((-1) * all_0 (r_0 + 0) + 0) ≤ 0) (f2 : (-1) * x2 + (1 * all_0 (r_0 + 0) + 0) ≤ 0) (f3 : x1 ≠ 0) (f4 : SGR (r_0) (all_0)) (f5 : GOK (pn_0) (pm_0) (pt_0) (ph_0)) (f6 : EMQ (pn_0) (pm_0) (pt_0) (ph_0) (alive_0) (blockOf_0) (rotMany_0) (rot_0) (x1)) (f7 : PLN (r_0) (pn_0) (pm_0) (all_0) (pt_0) (ph_0) (alive_0)) (hK_0_17 : ∀ j : Int, 0 ≤ j → j < 80 → (-1) ≤ blockOf_0 j ∧ blockOf_0 j ≤ 79) (hK_0_33 : ∀ j : Int, 0 ≤ j → j < 80 → 0 ≤ pt_0 j ∧ pt_0 j ≤ 24) (hK_0_34 : ∀ j : Int, 0 ≤ j → j < 80 → 0 ≤ ph_0 j ∧ ph_0 j ≤ 24) (hK_0_35 : ∀ j : Int, 0 ≤ j → j < 80 → 0 ≤ alive_0 j ∧ alive_0 j ≤ 1) (hK_0_36 : ∀ j : Int, 0 ≤ j → j < 26 → 0 ≤ rotMany_0 j ∧ rotMany_0 j ≤ 80) (hK_0_37 : ∀ j : Int, 0 ≤ j → j < 2080 → 0 ≤ rot_0 j ∧ rot_0 j ≤ 79) (kz_0_31 : 0 ≤ pn_0 ∧ pn_0 ≤ 25) (kz_0_32 : 0 ≤ pm_0 ∧ pm_0 ≤ 80) (ex2 : gx = 25) (ex3 : (-2) ≤ gx ∧ gx ≤ 25) : GOK (pn_0) (pm_0) (pt_0) (ph_0) := by
  first
    | assumption
    | exact ‹GRI _ _ _ _ _ _ _›.1.1
set_option maxHeartbeats 4000000 in
theorem vc_Mo_grid_0_1 (x1 : Int) (x2 : Int) (x3 : Int) (all_0 : Int → Int) (r_0 : Int) (pt_0 : Int → Int) (ph_0 : Int → Int) (pn_0 : Int) (pm_0 : Int) (alive_0 : Int → Int) (blockOf_0 : Int → Int) (rotMany_0 : Int → Int) (rot_0 : Int → Int) (gx : Int) (k1 : 1 ≤ x1 ∧ x1 ≤ 1) (k2 : 3 ≤ x2 ∧ x2 ≤ 24) (k3 : 3 ≤ x3 ∧ x3 ≤ 3) (f0 : x3 ≤ x2) (f1 : 1 * x2 + ((-1) * all_0 (r_0 + 0) + 0) ≤ 0) (f2 : (-1) * x2 + (1 * all_0 (r_0 + 0) + 0) ≤ 0) (f3 : x1 ≠ 0) (f4 : SGR (r_0) (all_0)) (f5 : GOK (pn_0) (pm_0) (pt_0) (ph_0)) (f6 : EMQ (pn_0) (pm_0) (pt_0) (ph_0) (alive_0) (blockOf_0) (rotMany_0) (rot_0) (x1)) (f7 : PLN (r_0) (pn_0) (pm_0) (all_0) (pt_0) (ph_0) (alive_0)) (hK_0_17 : ∀ j : Int, 0 ≤ j → j < 80 → (-1) ≤ blockOf_0 j ∧ blockOf_0 j ≤ 79) (hK_0_33 : ∀ j : Int, 0 ≤ j → j < 80 → 0 ≤ pt_0 j ∧ pt_0 j ≤ 24) (hK_0_34 : ∀ j : Int, 0 ≤ j → j < 80 → 0 ≤ ph_0 j ∧ ph_0 j ≤ 24) (hK_0_35 : ∀ j : Int, 0 ≤ j → j < 80 → 0 ≤ alive_0 j ∧ alive_0 j ≤ 1) (hK_0_36 : ∀ j : Int, 0 ≤ j → j < 26 → 0 ≤ rotMany_0 j ∧ rotMany_0 j ≤ 80) (hK_0_37 : ∀ j : Int, 0 ≤ j → j < 2080 → 0 ≤ rot_0 j ∧ rot_0 j ≤ 79) (kz_0_31 : 0 ≤ pn_0 ∧ pn_0 ≤ 25) (kz_0_32 : 0 ≤ pm_0 ∧ pm_0 ≤ 80) (ex2 : gx = 25) (ex3 : (-2) ≤ gx ∧ gx ≤ 25) : 3 ≤ pn_0 := by
  first
    | omega
    | (have h := ‹PLN _ _ _ _ _ _ _›
       have h1 := h.1.1
       have h2 := h.2.1
       simp only [Int.add_zero] at *
       omega)
    | (have h := gr1_m ‹GR1 _ _ _ _ _ _ _ _›; omega)
set_option maxHeartbeats 4000000 in
theorem vc_Mo_grid_0_2 (x1 : Int) (x2 : Int) (x3 : Int) (all_0 : Int → Int) (r_0 : Int) (pt_0 : Int → Int) (ph_0 : Int → Int) (pn_0 : Int) (pm_0 : Int) (alive_0 : Int → Int) (blockOf_0 : Int → Int) (rotMany_0 : Int → Int) (rot_0 : Int → Int) (gx : Int) (k1 : 1 ≤ x1 ∧ x1 ≤ 1) (k2 : 3 ≤ x2 ∧ x2 ≤ 24) (k3 : 3 ≤ x3 ∧ x3 ≤ 3) (f0 : x3 ≤ x2) (f1 : 1 * x2 + ((-1) * all_0 (r_0 + 0) + 0) ≤ 0) (f2 : (-1) * x2 + (1 * all_0 (r_0 + 0) + 0) ≤ 0) (f3 : x1 ≠ 0) (f4 : SGR (r_0) (all_0)) (f5 : GOK (pn_0) (pm_0) (pt_0) (ph_0)) (f6 : EMQ (pn_0) (pm_0) (pt_0) (ph_0) (alive_0) (blockOf_0) (rotMany_0) (rot_0) (x1)) (f7 : PLN (r_0) (pn_0) (pm_0) (all_0) (pt_0) (ph_0) (alive_0)) (hK_0_17 : ∀ j : Int, 0 ≤ j → j < 80 → (-1) ≤ blockOf_0 j ∧ blockOf_0 j ≤ 79) (hK_0_33 : ∀ j : Int, 0 ≤ j → j < 80 → 0 ≤ pt_0 j ∧ pt_0 j ≤ 24) (hK_0_34 : ∀ j : Int, 0 ≤ j → j < 80 → 0 ≤ ph_0 j ∧ ph_0 j ≤ 24) (hK_0_35 : ∀ j : Int, 0 ≤ j → j < 80 → 0 ≤ alive_0 j ∧ alive_0 j ≤ 1) (hK_0_36 : ∀ j : Int, 0 ≤ j → j < 26 → 0 ≤ rotMany_0 j ∧ rotMany_0 j ≤ 80) (hK_0_37 : ∀ j : Int, 0 ≤ j → j < 2080 → 0 ≤ rot_0 j ∧ rot_0 j ≤ 79) (kz_0_31 : 0 ≤ pn_0 ∧ pn_0 ≤ 25) (kz_0_32 : 0 ≤ pm_0 ∧ pm_0 ≤ 80) (ex2 : gx = 25) (ex3 : (-2) ≤ gx ∧ gx ≤ 25) : pn_0 ≤ 24 := by
  first
    | omega
    | (have h := ‹PLN _ _ _ _ _ _ _›
       have h1 := h.1.1
       have h2 := h.2.1
       simp only [Int.add_zero] at *
       omega)
    | (have h := gr1_m ‹GR1 _ _ _ _ _ _ _ _›; omega)
set_option maxHeartbeats 4000000 in
theorem vc_Mo_grid_0_3 (x1 : Int) (x2 : Int) (x3 : Int) (all_0 : Int → Int) (r_0 : Int) (pt_0 : Int → Int) (ph_0 : Int → Int) (pn_0 : Int) (pm_0 : Int) (alive_0 : Int → Int) (blockOf_0 : Int → Int) (rotMany_0 : Int → Int) (rot_0 : Int → Int) (gx : Int) (k1 : 1 ≤ x1 ∧ x1 ≤ 1) (k2 : 3 ≤ x2 ∧ x2 ≤ 24) (k3 : 3 ≤ x3 ∧ x3 ≤ 3) (f0 : x3 ≤ x2) (f1 : 1 * x2 + ((-1) * all_0 (r_0 + 0) + 0) ≤ 0) (f2 : (-1) * x2 + (1 * all_0 (r_0 + 0) + 0) ≤ 0) (f3 : x1 ≠ 0) (f4 : SGR (r_0) (all_0)) (f5 : GOK (pn_0) (pm_0) (pt_0) (ph_0)) (f6 : EMQ (pn_0) (pm_0) (pt_0) (ph_0) (alive_0) (blockOf_0) (rotMany_0) (rot_0) (x1)) (f7 : PLN (r_0) (pn_0) (pm_0) (all_0) (pt_0) (ph_0) (alive_0)) (hK_0_17 : ∀ j : Int, 0 ≤ j → j < 80 → (-1) ≤ blockOf_0 j ∧ blockOf_0 j ≤ 79) (hK_0_33 : ∀ j : Int, 0 ≤ j → j < 80 → 0 ≤ pt_0 j ∧ pt_0 j ≤ 24) (hK_0_34 : ∀ j : Int, 0 ≤ j → j < 80 → 0 ≤ ph_0 j ∧ ph_0 j ≤ 24) (hK_0_35 : ∀ j : Int, 0 ≤ j → j < 80 → 0 ≤ alive_0 j ∧ alive_0 j ≤ 1) (hK_0_36 : ∀ j : Int, 0 ≤ j → j < 26 → 0 ≤ rotMany_0 j ∧ rotMany_0 j ≤ 80) (hK_0_37 : ∀ j : Int, 0 ≤ j → j < 2080 → 0 ≤ rot_0 j ∧ rot_0 j ≤ 79) (kz_0_31 : 0 ≤ pn_0 ∧ pn_0 ≤ 25) (kz_0_32 : 0 ≤ pm_0 ∧ pm_0 ≤ 80) (ex2 : gx = 25) (ex3 : (-2) ≤ gx ∧ gx ≤ 25) : GR1 (pn_0) (pm_0) (pt_0) (ph_0) (alive_0) (rotMany_0) (rot_0) (gx) := by
  first
    | exact gr1_start ‹PLN _ _ _ _ _ _ _› ‹EMQ _ _ _ _ _ _ _ _ _› (by omega) (by simp only [Int.add_zero] at *; omega) (by omega)
    | (have h := ‹GR1n _ _ _ _ _ _ _ _›
       unfold GR1n at h
       rw [show gx = x4 - 1 by omega]; exact h)
def o_Mo_grid_0 : or_T := (21, 4, [(0, (2, 0, 0, [150])), (1, (0, 1, 1, [])), (2, (0, 3, 24, [])), (3, (0, 3, 3, []))], [(7, [2, 3], [3]), (20, [2, 0], [30, 0, 1, 0, 0, -1, 3, 2005000]), (20, [2, 0], [30, 0, -1, 0, 0, 1, 3, 2005000]), (8, [1], [1]), (20, [0], [60, 1, 1, 122, 5, 2]), (20, [0], [60, 2, 2, 0, 31, 32, 33, 34]), (20, [0, 1], [60, 2, 6, 109, 31, 32, 33, 34, 35, 17, 36, 37]), (20, [0], [60, 3, 4, 125, 5, 31, 32, 2, 33, 34, 35])], [], [(0, -2, 25, [])], [(20, [0], [60, 2, 2, 0, 31, 32, 33, 34]), (20, [0], [50, 1, 0, 31, 0, 2, 0, 3, 2, 0, 31]), (20, [0], [50, 1, 0, 31, 0, 3, 2, 0, 31, 0, 24]), (20, [0, 4], [60, 2, 5, 186, 31, 32, 33, 34, 35, 36, 37])], [], [])
theorem oo_Mo_grid_0 {kA : Nat → ClassId} : or_ok PRD kA GG o_Mo_grid_0 := by
  intro A ta ws vs hD hth hl hk hds hf
  have hl : vs.length = 4 := hl
  have hk : ∀ q ∈ ([(0, (2, 0, 0, [150])), (1, (0, 1, 1, [])), (2, (0, 3, 24, [])), (3, (0, 3, 3, []))] : List (Nat × tv_T)), tv_ok ta q.2 (n_v vs q.1) := hk
  obtain ⟨t0, hk⟩ := List.forall_mem_cons.mp hk
  have t0 : tv_ok ta (2, 0, 0, [150]) (n_v vs 0) := t0
  have r0 : ta (v_ad (n_v vs 0)) = some 150 := tv_rg t0
  obtain ⟨t1, hk⟩ := List.forall_mem_cons.mp hk
  have t1 : tv_ok ta (0, 1, 1, []) (n_v vs 1) := t1
  have k1 : 1 ≤ v_iv (n_v vs 1) ∧ v_iv (n_v vs 1) ≤ 1 := tv_rng t1
  obtain ⟨t2, hk⟩ := List.forall_mem_cons.mp hk
  have t2 : tv_ok ta (0, 3, 24, []) (n_v vs 2) := t2
  have k2 : 3 ≤ v_iv (n_v vs 2) ∧ v_iv (n_v vs 2) ≤ 24 := tv_rng t2
  obtain ⟨t3, hk⟩ := List.forall_mem_cons.mp hk
  have t3 : tv_ok ta (0, 3, 3, []) (n_v vs 3) := t3
  have k3 : 3 ≤ v_iv (n_v vs 3) ∧ v_iv (n_v vs 3) ≤ 3 := tv_rng t3
  have hf : fc_ok PRD [(7, [2, 3], [3]), (20, [2, 0], [30, 0, 1, 0, 0, -1, 3, 2005000]), (20, [2, 0], [30, 0, -1, 0, 0, 1, 3, 2005000]), (8, [1], [1]), (20, [0], [60, 1, 1, 122, 5, 2]), (20, [0], [60, 2, 2, 0, 31, 32, 33, 34]), (20, [0, 1], [60, 2, 6, 109, 31, 32, 33, 34, 35, 17, 36, 37]), (20, [0], [60, 3, 4, 125, 5, 31, 32, 2, 33, 34, 35])] ta ws vs := hf
  obtain ⟨f0, hf⟩ := fc_un (show (7 : Nat) < 100 from by decide) hf
  have f0 : v_iv (n_v vs 3) ≤ v_iv (n_v vs 2) := f0
  obtain ⟨f1, hf⟩ := fc_un (show (20 : Nat) < 100 from by decide) hf
  have f1 : 1 * v_iv (n_v vs 2) + ((-1) * w_el ws (w_ar ws (n_v vs 0) 2) (w_fi ws (n_v vs 0) 5 + 0).toNat + 0) ≤ 0 := f1
  obtain ⟨f2, hf⟩ := fc_un (show (20 : Nat) < 100 from by decide) hf
  have f2 : (-1) * v_iv (n_v vs 2) + (1 * w_el ws (w_ar ws (n_v vs 0) 2) (w_fi ws (n_v vs 0) 5 + 0).toNat + 0) ≤ 0 := f2
  obtain ⟨f3, hf⟩ := fc_un (show (8 : Nat) < 100 from by decide) hf
  have f3 : v_iv (n_v vs 1) ≠ 0 := f3
  obtain ⟨f4, hf⟩ := fc_un (show (20 : Nat) < 100 from by decide) hf
  have f4 : SGR (w_fi ws (n_v vs 0) 5) (w_ei ws (w_ar ws (n_v vs 0) 2)) := f4
  obtain ⟨f5, hf⟩ := fc_un (show (20 : Nat) < 100 from by decide) hf
  have f5 : GOK (w_fi ws (n_v vs 0) 31) (w_fi ws (n_v vs 0) 32) (w_ei ws (w_ar ws (n_v vs 0) 33)) (w_ei ws (w_ar ws (n_v vs 0) 34)) := f5
  obtain ⟨f6, hf⟩ := fc_un (show (20 : Nat) < 100 from by decide) hf
  have f6 : EMQ (w_fi ws (n_v vs 0) 31) (w_fi ws (n_v vs 0) 32) (w_ei ws (w_ar ws (n_v vs 0) 33)) (w_ei ws (w_ar ws (n_v vs 0) 34)) (w_ei ws (w_ar ws (n_v vs 0) 35)) (w_ei ws (w_ar ws (n_v vs 0) 17)) (w_ei ws (w_ar ws (n_v vs 0) 36)) (w_ei ws (w_ar ws (n_v vs 0) 37)) (v_iv (n_v vs 1)) := f6
  obtain ⟨f7, hf⟩ := fc_un (show (20 : Nat) < 100 from by decide) hf
  have f7 : PLN (w_fi ws (n_v vs 0) 5) (w_fi ws (n_v vs 0) 31) (w_fi ws (n_v vs 0) 32) (w_ei ws (w_ar ws (n_v vs 0) 2)) (w_ei ws (w_ar ws (n_v vs 0) 33)) (w_ei ws (w_ar ws (n_v vs 0) 34)) (w_ei ws (w_ar ws (n_v vs 0) 35)) := f7
  have cr_0_2 : ta (w_ar ws (n_v vs 0) 2) = some 152 := tv_rg (th_fd hD hth r0 (g := GG_150) rfl (k := 2) (t := (2, 0, 0, [152])) rfl rfl)
  have cr_0_17 : ta (w_ar ws (n_v vs 0) 17) = some 157 := tv_rg (th_fd hD hth r0 (g := GG_150) rfl (k := 17) (t := (2, 0, 0, [157])) rfl rfl)
  have cr_0_33 : ta (w_ar ws (n_v vs 0) 33) = some 165 := tv_rg (th_fd hD hth r0 (g := GG_150) rfl (k := 33) (t := (2, 0, 0, [165])) rfl rfl)
  have cr_0_34 : ta (w_ar ws (n_v vs 0) 34) = some 166 := tv_rg (th_fd hD hth r0 (g := GG_150) rfl (k := 34) (t := (2, 0, 0, [166])) rfl rfl)
  have cr_0_35 : ta (w_ar ws (n_v vs 0) 35) = some 167 := tv_rg (th_fd hD hth r0 (g := GG_150) rfl (k := 35) (t := (2, 0, 0, [167])) rfl rfl)
  have cr_0_36 : ta (w_ar ws (n_v vs 0) 36) = some 168 := tv_rg (th_fd hD hth r0 (g := GG_150) rfl (k := 36) (t := (2, 0, 0, [168])) rfl rfl)
  have cr_0_37 : ta (w_ar ws (n_v vs 0) 37) = some 169 := tv_rg (th_fd hD hth r0 (g := GG_150) rfl (k := 37) (t := (2, 0, 0, [169])) rfl rfl)
  have hK_0_17 : ∀ j : Int, 0 ≤ j → j < 80 → (-1) ≤ w_ei ws (w_ar ws (n_v vs 0) 17) j ∧ w_ei ws (w_ar ws (n_v vs 0) 17) j ≤ 79 := fun j h0 h1 => th_el hD hth cr_0_17 (kd := 0) (n := 80) (m := 80) (lo := (-1)) (hi := 79) (rs := []) (L := []) rfl (by decide) (j := j.toNat) (by omega)
  have hK_0_33 : ∀ j : Int, 0 ≤ j → j < 80 → 0 ≤ w_ei ws (w_ar ws (n_v vs 0) 33) j ∧ w_ei ws (w_ar ws (n_v vs 0) 33) j ≤ 24 := fun j h0 h1 => th_el hD hth cr_0_33 (kd := 0) (n := 80) (m := 80) (lo := 0) (hi := 24) (rs := []) (L := []) rfl (by decide) (j := j.toNat) (by omega)
  have hK_0_34 : ∀ j : Int, 0 ≤ j → j < 80 → 0 ≤ w_ei ws (w_ar ws (n_v vs 0) 34) j ∧ w_ei ws (w_ar ws (n_v vs 0) 34) j ≤ 24 := fun j h0 h1 => th_el hD hth cr_0_34 (kd := 0) (n := 80) (m := 80) (lo := 0) (hi := 24) (rs := []) (L := []) rfl (by decide) (j := j.toNat) (by omega)
  have hK_0_35 : ∀ j : Int, 0 ≤ j → j < 80 → 0 ≤ w_ei ws (w_ar ws (n_v vs 0) 35) j ∧ w_ei ws (w_ar ws (n_v vs 0) 35) j ≤ 1 := fun j h0 h1 => th_el hD hth cr_0_35 (kd := 2) (n := 80) (m := 80) (lo := 0) (hi := 1) (rs := []) (L := []) rfl (by decide) (j := j.toNat) (by omega)
  have hK_0_36 : ∀ j : Int, 0 ≤ j → j < 26 → 0 ≤ w_ei ws (w_ar ws (n_v vs 0) 36) j ∧ w_ei ws (w_ar ws (n_v vs 0) 36) j ≤ 80 := fun j h0 h1 => th_el hD hth cr_0_36 (kd := 0) (n := 26) (m := 26) (lo := 0) (hi := 80) (rs := []) (L := []) rfl (by decide) (j := j.toNat) (by omega)
  have hK_0_37 : ∀ j : Int, 0 ≤ j → j < 2080 → 0 ≤ w_ei ws (w_ar ws (n_v vs 0) 37) j ∧ w_ei ws (w_ar ws (n_v vs 0) 37) j ≤ 79 := fun j h0 h1 => th_el hD hth cr_0_37 (kd := 0) (n := 2080) (m := 2080) (lo := 0) (hi := 79) (rs := []) (L := []) rfl (by decide) (j := j.toNat) (by omega)
  have kz_0_31 : 0 ≤ w_fi ws (n_v vs 0) 31 ∧ w_fi ws (n_v vs 0) 31 ≤ 25 := tv_rng (th_fd hD hth r0 (g := GG_150) rfl (k := 31) (t := (0, 0, 25, [])) rfl rfl)
  have kz_0_32 : 0 ≤ w_fi ws (n_v vs 0) 32 ∧ w_fi ws (n_v vs 0) 32 ≤ 80 := tv_rng (th_fd hD hth r0 (g := GG_150) rfl (k := 32) (t := (0, 0, 80, [])) rfl rfl)
  obtain ⟨x, ex, hx⟩ := iv_ex (ta := ta) (lo := (-2)) (hi := 25) (z := 25) (by omega) (by omega) (by omega) (by omega)
  have ex2 : v_iv (Value.int x) = 25 := ex
  have ex3 : (-2) ≤ v_iv (Value.int x) ∧ v_iv (Value.int x) ≤ 25 := tv_rng hx
  have e_0 : n_v (vs ++ [Value.int x]) 0 = n_v vs 0 := n_v_old (by rw [hl]; decide)
  have e_4 : n_v (vs ++ [Value.int x]) 4 = Value.int x := n_v_new hl
  have nf0 : fc_1 PRD (20, [0], [60, 2, 2, 0, 31, 32, 33, 34]) ws (vs ++ [Value.int x]) := by
    refine ⟨fun n hn => ?_, ?_⟩
    · have hn : n ∈ [0] := hn
      rw [List.length_append, hl]
      simp only [List.mem_cons, List.not_mem_nil, or_false] at hn
      show n < 4 + 1; omega
    · show GOK (w_fi ws (n_v (vs ++ [Value.int x]) 0) 31) (w_fi ws (n_v (vs ++ [Value.int x]) 0) 32) (w_ei ws (w_ar ws (n_v (vs ++ [Value.int x]) 0) 33)) (w_ei ws (w_ar ws (n_v (vs ++ [Value.int x]) 0) 34))
      rw [e_0]
      exact vc_Mo_grid_0_0 (v_iv (n_v vs 1)) (v_iv (n_v vs 2)) (v_iv (n_v vs 3)) (w_ei ws (w_ar ws (n_v vs 0) 2)) (w_fi ws (n_v vs 0) 5) (w_ei ws (w_ar ws (n_v vs 0) 33)) (w_ei ws (w_ar ws (n_v vs 0) 34)) (w_fi ws (n_v vs 0) 31) (w_fi ws (n_v vs 0) 32) (w_ei ws (w_ar ws (n_v vs 0) 35)) (w_ei ws (w_ar ws (n_v vs 0) 17)) (w_ei ws (w_ar ws (n_v vs 0) 36)) (w_ei ws (w_ar ws (n_v vs 0) 37)) (v_iv (Value.int x)) k1 k2 k3 f0 f1 f2 f3 f4 f5 f6 f7 hK_0_17 hK_0_33 hK_0_34 hK_0_35 hK_0_36 hK_0_37 kz_0_31 kz_0_32 ex2 ex3
  have nf1 : fc_1 PRD (20, [0], [50, 1, 0, 31, 0, 2, 0, 3, 2, 0, 31]) ws (vs ++ [Value.int x]) := by
    refine ⟨fun n hn => ?_, ?_⟩
    · have hn : n ∈ [0] := hn
      rw [List.length_append, hl]
      simp only [List.mem_cons, List.not_mem_nil, or_false] at hn
      show n < 4 + 1; omega
    · show 3 ≤ w_fi ws (n_v (vs ++ [Value.int x]) 0) 31
      rw [e_0]
      exact vc_Mo_grid_0_1 (v_iv (n_v vs 1)) (v_iv (n_v vs 2)) (v_iv (n_v vs 3)) (w_ei ws (w_ar ws (n_v vs 0) 2)) (w_fi ws (n_v vs 0) 5) (w_ei ws (w_ar ws (n_v vs 0) 33)) (w_ei ws (w_ar ws (n_v vs 0) 34)) (w_fi ws (n_v vs 0) 31) (w_fi ws (n_v vs 0) 32) (w_ei ws (w_ar ws (n_v vs 0) 35)) (w_ei ws (w_ar ws (n_v vs 0) 17)) (w_ei ws (w_ar ws (n_v vs 0) 36)) (w_ei ws (w_ar ws (n_v vs 0) 37)) (v_iv (Value.int x)) k1 k2 k3 f0 f1 f2 f3 f4 f5 f6 f7 hK_0_17 hK_0_33 hK_0_34 hK_0_35 hK_0_36 hK_0_37 kz_0_31 kz_0_32 ex2 ex3
  have nf2 : fc_1 PRD (20, [0], [50, 1, 0, 31, 0, 3, 2, 0, 31, 0, 24]) ws (vs ++ [Value.int x]) := by
    refine ⟨fun n hn => ?_, ?_⟩
    · have hn : n ∈ [0] := hn
      rw [List.length_append, hl]
      simp only [List.mem_cons, List.not_mem_nil, or_false] at hn
      show n < 4 + 1; omega
    · show w_fi ws (n_v (vs ++ [Value.int x]) 0) 31 ≤ 24
      rw [e_0]
      exact vc_Mo_grid_0_2 (v_iv (n_v vs 1)) (v_iv (n_v vs 2)) (v_iv (n_v vs 3)) (w_ei ws (w_ar ws (n_v vs 0) 2)) (w_fi ws (n_v vs 0) 5) (w_ei ws (w_ar ws (n_v vs 0) 33)) (w_ei ws (w_ar ws (n_v vs 0) 34)) (w_fi ws (n_v vs 0) 31) (w_fi ws (n_v vs 0) 32) (w_ei ws (w_ar ws (n_v vs 0) 35)) (w_ei ws (w_ar ws (n_v vs 0) 17)) (w_ei ws (w_ar ws (n_v vs 0) 36)) (w_ei ws (w_ar ws (n_v vs 0) 37)) (v_iv (Value.int x)) k1 k2 k3 f0 f1 f2 f3 f4 f5 f6 f7 hK_0_17 hK_0_33 hK_0_34 hK_0_35 hK_0_36 hK_0_37 kz_0_31 kz_0_32 ex2 ex3
  have nf3 : fc_1 PRD (20, [0, 4], [60, 2, 5, 186, 31, 32, 33, 34, 35, 36, 37]) ws (vs ++ [Value.int x]) := by
    refine ⟨fun n hn => ?_, ?_⟩
    · have hn : n ∈ [0, 4] := hn
      rw [List.length_append, hl]
      simp only [List.mem_cons, List.not_mem_nil, or_false] at hn
      show n < 4 + 1; omega
    · show GR1 (w_fi ws (n_v (vs ++ [Value.int x]) 0) 31) (w_fi ws (n_v (vs ++ [Value.int x]) 0) 32) (w_ei ws (w_ar ws (n_v (vs ++ [Value.int x]) 0) 33)) (w_ei ws (w_ar ws (n_v (vs ++ [Value.int x]) 0) 34)) (w_ei ws (w_ar ws (n_v (vs ++ [Value.int x]) 0) 35)) (w_ei ws (w_ar ws (n_v (vs ++ [Value.int x]) 0) 36)) (w_ei ws (w_ar ws (n_v (vs ++ [Value.int x]) 0) 37)) (v_iv (n_v (vs ++ [Value.int x]) 4))
      rw [e_0]
      rw [e_4]
      exact vc_Mo_grid_0_3 (v_iv (n_v vs 1)) (v_iv (n_v vs 2)) (v_iv (n_v vs 3)) (w_ei ws (w_ar ws (n_v vs 0) 2)) (w_fi ws (n_v vs 0) 5) (w_ei ws (w_ar ws (n_v vs 0) 33)) (w_ei ws (w_ar ws (n_v vs 0) 34)) (w_fi ws (n_v vs 0) 31) (w_fi ws (n_v vs 0) 32) (w_ei ws (w_ar ws (n_v vs 0) 35)) (w_ei ws (w_ar ws (n_v vs 0) 17)) (w_ei ws (w_ar ws (n_v vs 0) 36)) (w_ei ws (w_ar ws (n_v vs 0) 37)) (v_iv (Value.int x)) k1 k2 k3 f0 f1 f2 f3 f4 f5 f6 f7 hK_0_17 hK_0_33 hK_0_34 hK_0_35 hK_0_36 hK_0_37 kz_0_31 kz_0_32 ex2 ex3
  exact ⟨(fun _ h => (by cases h)), [Value.int x], ag_one hx, List.forall_mem_cons.mpr ⟨⟨show (20 : Nat) < 100 from by decide, nf0⟩, List.forall_mem_cons.mpr ⟨⟨show (20 : Nat) < 100 from by decide, nf1⟩, List.forall_mem_cons.mpr ⟨⟨show (20 : Nat) < 100 from by decide, nf2⟩, List.forall_mem_cons.mpr ⟨⟨show (20 : Nat) < 100 from by decide, nf3⟩, (fun _ h => (by cases h))⟩⟩⟩⟩, (fun _ h => (by cases h))⟩
set_option maxHeartbeats 4000000 in
theorem vc_Mo_grid_1_0 (x2 : Int) (pt_0 : Int → Int) (ph_0 : Int → Int) (pn_0 : Int) (pm_0 : Int) (alive_0 : Int → Int) (rotMany_0 : Int → Int) (rot_0 : Int → Int) (k2 : (-2) ≤ x2 ∧ x2 ≤ 25) (f0 : GOK (pn_0) (pm_0) (pt_0) (ph_0)) (f1 : 3 ≤ pn_0) (f2 : pn_0 ≤ 24) (f3 : GR1 (pn_0) (pm_0) (pt_0) (ph_0) (alive_0) (rotMany_0) (rot_0) (x2)) (hK_0_33 : ∀ j : Int, 0 ≤ j → j < 80 → 0 ≤ pt_0 j ∧ pt_0 j ≤ 24) (hK_0_34 : ∀ j : Int, 0 ≤ j → j < 80 → 0 ≤ ph_0 j ∧ ph_0 j ≤ 24) (hK_0_35 : ∀ j : Int, 0 ≤ j → j < 80 → 0 ≤ alive_0 j ∧ alive_0 j ≤ 1) (hK_0_36 : ∀ j : Int, 0 ≤ j → j < 26 → 0 ≤ rotMany_0 j ∧ rotMany_0 j ≤ 80) (hK_0_37 : ∀ j : Int, 0 ≤ j → j < 2080 → 0 ≤ rot_0 j ∧ rot_0 j ≤ 79) (kz_0_31 : 0 ≤ pn_0 ∧ pn_0 ≤ 25) (kz_0_32 : 0 ≤ pm_0 ∧ pm_0 ≤ 80) : 1 ≤ pn_0 := by
  first
    | omega
    | (have h := gr1_m ‹GR1 _ _ _ _ _ _ _ _›; omega)
def o_Mo_grid_1 : or_T := (22, 3, [(0, (2, 0, 0, [150])), (2, (0, -2, 25, []))], [(20, [0], [60, 2, 2, 0, 31, 32, 33, 34]), (20, [0], [50, 1, 0, 31, 0, 2, 0, 3, 2, 0, 31]), (20, [0], [50, 1, 0, 31, 0, 3, 2, 0, 31, 0, 24]), (20, [0, 2], [60, 2, 5, 186, 31, 32, 33, 34, 35, 36, 37])], [], [], [(20, [0], [50, 1, 0, 31, 0, 2, 0, 1, 2, 0, 31])], [], [])
theorem oo_Mo_grid_1 {kA : Nat → ClassId} : or_ok PRD kA GG o_Mo_grid_1 := by
  intro A ta ws vs hD hth hl hk hds hf
  have hl : vs.length = 3 := hl
  have hk : ∀ q ∈ ([(0, (2, 0, 0, [150])), (2, (0, -2, 25, []))] : List (Nat × tv_T)), tv_ok ta q.2 (n_v vs q.1) := hk
  obtain ⟨t0, hk⟩ := List.forall_mem_cons.mp hk
  have t0 : tv_ok ta (2, 0, 0, [150]) (n_v vs 0) := t0
  have r0 : ta (v_ad (n_v vs 0)) = some 150 := tv_rg t0
  obtain ⟨t2, hk⟩ := List.forall_mem_cons.mp hk
  have t2 : tv_ok ta (0, -2, 25, []) (n_v vs 2) := t2
  have k2 : (-2) ≤ v_iv (n_v vs 2) ∧ v_iv (n_v vs 2) ≤ 25 := tv_rng t2
  have hf : fc_ok PRD [(20, [0], [60, 2, 2, 0, 31, 32, 33, 34]), (20, [0], [50, 1, 0, 31, 0, 2, 0, 3, 2, 0, 31]), (20, [0], [50, 1, 0, 31, 0, 3, 2, 0, 31, 0, 24]), (20, [0, 2], [60, 2, 5, 186, 31, 32, 33, 34, 35, 36, 37])] ta ws vs := hf
  obtain ⟨f0, hf⟩ := fc_un (show (20 : Nat) < 100 from by decide) hf
  have f0 : GOK (w_fi ws (n_v vs 0) 31) (w_fi ws (n_v vs 0) 32) (w_ei ws (w_ar ws (n_v vs 0) 33)) (w_ei ws (w_ar ws (n_v vs 0) 34)) := f0
  obtain ⟨f1, hf⟩ := fc_un (show (20 : Nat) < 100 from by decide) hf
  have f1 : 3 ≤ w_fi ws (n_v vs 0) 31 := f1
  obtain ⟨f2, hf⟩ := fc_un (show (20 : Nat) < 100 from by decide) hf
  have f2 : w_fi ws (n_v vs 0) 31 ≤ 24 := f2
  obtain ⟨f3, hf⟩ := fc_un (show (20 : Nat) < 100 from by decide) hf
  have f3 : GR1 (w_fi ws (n_v vs 0) 31) (w_fi ws (n_v vs 0) 32) (w_ei ws (w_ar ws (n_v vs 0) 33)) (w_ei ws (w_ar ws (n_v vs 0) 34)) (w_ei ws (w_ar ws (n_v vs 0) 35)) (w_ei ws (w_ar ws (n_v vs 0) 36)) (w_ei ws (w_ar ws (n_v vs 0) 37)) (v_iv (n_v vs 2)) := f3
  have cr_0_33 : ta (w_ar ws (n_v vs 0) 33) = some 165 := tv_rg (th_fd hD hth r0 (g := GG_150) rfl (k := 33) (t := (2, 0, 0, [165])) rfl rfl)
  have cr_0_34 : ta (w_ar ws (n_v vs 0) 34) = some 166 := tv_rg (th_fd hD hth r0 (g := GG_150) rfl (k := 34) (t := (2, 0, 0, [166])) rfl rfl)
  have cr_0_35 : ta (w_ar ws (n_v vs 0) 35) = some 167 := tv_rg (th_fd hD hth r0 (g := GG_150) rfl (k := 35) (t := (2, 0, 0, [167])) rfl rfl)
  have cr_0_36 : ta (w_ar ws (n_v vs 0) 36) = some 168 := tv_rg (th_fd hD hth r0 (g := GG_150) rfl (k := 36) (t := (2, 0, 0, [168])) rfl rfl)
  have cr_0_37 : ta (w_ar ws (n_v vs 0) 37) = some 169 := tv_rg (th_fd hD hth r0 (g := GG_150) rfl (k := 37) (t := (2, 0, 0, [169])) rfl rfl)
  have hK_0_33 : ∀ j : Int, 0 ≤ j → j < 80 → 0 ≤ w_ei ws (w_ar ws (n_v vs 0) 33) j ∧ w_ei ws (w_ar ws (n_v vs 0) 33) j ≤ 24 := fun j h0 h1 => th_el hD hth cr_0_33 (kd := 0) (n := 80) (m := 80) (lo := 0) (hi := 24) (rs := []) (L := []) rfl (by decide) (j := j.toNat) (by omega)
  have hK_0_34 : ∀ j : Int, 0 ≤ j → j < 80 → 0 ≤ w_ei ws (w_ar ws (n_v vs 0) 34) j ∧ w_ei ws (w_ar ws (n_v vs 0) 34) j ≤ 24 := fun j h0 h1 => th_el hD hth cr_0_34 (kd := 0) (n := 80) (m := 80) (lo := 0) (hi := 24) (rs := []) (L := []) rfl (by decide) (j := j.toNat) (by omega)
  have hK_0_35 : ∀ j : Int, 0 ≤ j → j < 80 → 0 ≤ w_ei ws (w_ar ws (n_v vs 0) 35) j ∧ w_ei ws (w_ar ws (n_v vs 0) 35) j ≤ 1 := fun j h0 h1 => th_el hD hth cr_0_35 (kd := 2) (n := 80) (m := 80) (lo := 0) (hi := 1) (rs := []) (L := []) rfl (by decide) (j := j.toNat) (by omega)
  have hK_0_36 : ∀ j : Int, 0 ≤ j → j < 26 → 0 ≤ w_ei ws (w_ar ws (n_v vs 0) 36) j ∧ w_ei ws (w_ar ws (n_v vs 0) 36) j ≤ 80 := fun j h0 h1 => th_el hD hth cr_0_36 (kd := 0) (n := 26) (m := 26) (lo := 0) (hi := 80) (rs := []) (L := []) rfl (by decide) (j := j.toNat) (by omega)
  have hK_0_37 : ∀ j : Int, 0 ≤ j → j < 2080 → 0 ≤ w_ei ws (w_ar ws (n_v vs 0) 37) j ∧ w_ei ws (w_ar ws (n_v vs 0) 37) j ≤ 79 := fun j h0 h1 => th_el hD hth cr_0_37 (kd := 0) (n := 2080) (m := 2080) (lo := 0) (hi := 79) (rs := []) (L := []) rfl (by decide) (j := j.toNat) (by omega)
  have kz_0_31 : 0 ≤ w_fi ws (n_v vs 0) 31 ∧ w_fi ws (n_v vs 0) 31 ≤ 25 := tv_rng (th_fd hD hth r0 (g := GG_150) rfl (k := 31) (t := (0, 0, 25, [])) rfl rfl)
  have kz_0_32 : 0 ≤ w_fi ws (n_v vs 0) 32 ∧ w_fi ws (n_v vs 0) 32 ≤ 80 := tv_rng (th_fd hD hth r0 (g := GG_150) rfl (k := 32) (t := (0, 0, 80, [])) rfl rfl)
  have nf0 : fc_1 PRD (20, [0], [50, 1, 0, 31, 0, 2, 0, 1, 2, 0, 31]) ws (vs) := by
    refine ⟨fun n hn => ?_, ?_⟩
    · have hn : n ∈ [0] := hn
      rw [hl]
      simp only [List.mem_cons, List.not_mem_nil, or_false] at hn
      show n < 3; omega
    · show 1 ≤ w_fi ws (n_v vs 0) 31
      exact vc_Mo_grid_1_0 (v_iv (n_v vs 2)) (w_ei ws (w_ar ws (n_v vs 0) 33)) (w_ei ws (w_ar ws (n_v vs 0) 34)) (w_fi ws (n_v vs 0) 31) (w_fi ws (n_v vs 0) 32) (w_ei ws (w_ar ws (n_v vs 0) 35)) (w_ei ws (w_ar ws (n_v vs 0) 36)) (w_ei ws (w_ar ws (n_v vs 0) 37)) k2 f0 f1 f2 f3 hK_0_33 hK_0_34 hK_0_35 hK_0_36 hK_0_37 kz_0_31 kz_0_32
  refine ⟨(fun _ h => (by cases h)), [], trivial, ?_, (fun _ h => (by cases h))⟩
  rw [List.append_nil]
  exact List.forall_mem_cons.mpr ⟨⟨show (20 : Nat) < 100 from by decide, nf0⟩, (fun _ h => (by cases h))⟩
set_option maxHeartbeats 4000000 in
theorem vc_Mo_grid_2_0 (x2 : Int) (x3 : Int) (x4 : Int) (pn_0 : Int) (pt_0 : Int → Int) (ph_0 : Int → Int) (pm_0 : Int) (alive_0 : Int → Int) (rotMany_0 : Int → Int) (rot_0 : Int → Int) (gx : Int) (k2 : (-2) ≤ x2 ∧ x2 ≤ 25) (k3 : (-1) ≤ x3 ∧ x3 ≤ (-1)) (k4 : 1 ≤ x4 ∧ x4 ≤ 1) (f0 : x3 < 0) (f1 : 1 ≤ pn_0) (f2 : GOK (pn_0) (pm_0) (pt_0) (ph_0)) (f3 : 3 ≤ pn_0) (f4 : pn_0 ≤ 24) (f5 : GR1 (pn_0) (pm_0) (pt_0) (ph_0) (alive_0) (rotMany_0) (rot_0) (x2)) (f6 : APN (pn_0) (pm_0) (pt_0) (ph_0) (alive_0) (x3)) (hK_0_33 : ∀ j : Int, 0 ≤ j → j < 80 → 0 ≤ pt_0 j ∧ pt_0 j ≤ 24) (hK_0_34 : ∀ j : Int, 0 ≤ j → j < 80 → 0 ≤ ph_0 j ∧ ph_0 j ≤ 24) (hK_0_35 : ∀ j : Int, 0 ≤ j → j < 80 → 0 ≤ alive_0 j ∧ alive_0 j ≤ 1) (hK_0_36 : ∀ j : Int, 0 ≤ j → j < 26 → 0 ≤ rotMany_0 j ∧ rotMany_0 j ≤ 80) (hK_0_37 : ∀ j : Int, 0 ≤ j → j < 2080 → 0 ≤ rot_0 j ∧ rot_0 j ≤ 79) (kz_0_31 : 0 ≤ pn_0 ∧ pn_0 ≤ 25) (kz_0_32 : 0 ≤ pm_0 ∧ pm_0 ≤ 80) (ex2 : gx = 82 + ((-1) * pm_0 + (1 * x4 + 0))) (ex3 : (-2) ≤ gx ∧ gx ≤ 84) : GOK (pn_0) (pm_0) (pt_0) (ph_0) := by
  first
    | assumption
    | exact ‹GRI _ _ _ _ _ _ _›.1.1
set_option maxHeartbeats 4000000 in
theorem vc_Mo_grid_2_1 (x2 : Int) (x3 : Int) (x4 : Int) (pn_0 : Int) (pt_0 : Int → Int) (ph_0 : Int → Int) (pm_0 : Int) (alive_0 : Int → Int) (rotMany_0 : Int → Int) (rot_0 : Int → Int) (gx : Int) (k2 : (-2) ≤ x2 ∧ x2 ≤ 25) (k3 : (-1) ≤ x3 ∧ x3 ≤ (-1)) (k4 : 1 ≤ x4 ∧ x4 ≤ 1) (f0 : x3 < 0) (f1 : 1 ≤ pn_0) (f2 : GOK (pn_0) (pm_0) (pt_0) (ph_0)) (f3 : 3 ≤ pn_0) (f4 : pn_0 ≤ 24) (f5 : GR1 (pn_0) (pm_0) (pt_0) (ph_0) (alive_0) (rotMany_0) (rot_0) (x2)) (f6 : APN (pn_0) (pm_0) (pt_0) (ph_0) (alive_0) (x3)) (hK_0_33 : ∀ j : Int, 0 ≤ j → j < 80 → 0 ≤ pt_0 j ∧ pt_0 j ≤ 24) (hK_0_34 : ∀ j : Int, 0 ≤ j → j < 80 → 0 ≤ ph_0 j ∧ ph_0 j ≤ 24) (hK_0_35 : ∀ j : Int, 0 ≤ j → j < 80 → 0 ≤ alive_0 j ∧ alive_0 j ≤ 1) (hK_0_36 : ∀ j : Int, 0 ≤ j → j < 26 → 0 ≤ rotMany_0 j ∧ rotMany_0 j ≤ 80) (hK_0_37 : ∀ j : Int, 0 ≤ j → j < 2080 → 0 ≤ rot_0 j ∧ rot_0 j ≤ 79) (kz_0_31 : 0 ≤ pn_0 ∧ pn_0 ≤ 25) (kz_0_32 : 0 ≤ pm_0 ∧ pm_0 ≤ 80) (ex2 : gx = 82 + ((-1) * pm_0 + (1 * x4 + 0))) (ex3 : (-2) ≤ gx ∧ gx ≤ 84) : 3 ≤ pn_0 := by
  first
    | omega
    | (have h := gr1_m ‹GR1 _ _ _ _ _ _ _ _›; omega)
set_option maxHeartbeats 4000000 in
theorem vc_Mo_grid_2_2 (x2 : Int) (x3 : Int) (x4 : Int) (pn_0 : Int) (pt_0 : Int → Int) (ph_0 : Int → Int) (pm_0 : Int) (alive_0 : Int → Int) (rotMany_0 : Int → Int) (rot_0 : Int → Int) (gx : Int) (k2 : (-2) ≤ x2 ∧ x2 ≤ 25) (k3 : (-1) ≤ x3 ∧ x3 ≤ (-1)) (k4 : 1 ≤ x4 ∧ x4 ≤ 1) (f0 : x3 < 0) (f1 : 1 ≤ pn_0) (f2 : GOK (pn_0) (pm_0) (pt_0) (ph_0)) (f3 : 3 ≤ pn_0) (f4 : pn_0 ≤ 24) (f5 : GR1 (pn_0) (pm_0) (pt_0) (ph_0) (alive_0) (rotMany_0) (rot_0) (x2)) (f6 : APN (pn_0) (pm_0) (pt_0) (ph_0) (alive_0) (x3)) (hK_0_33 : ∀ j : Int, 0 ≤ j → j < 80 → 0 ≤ pt_0 j ∧ pt_0 j ≤ 24) (hK_0_34 : ∀ j : Int, 0 ≤ j → j < 80 → 0 ≤ ph_0 j ∧ ph_0 j ≤ 24) (hK_0_35 : ∀ j : Int, 0 ≤ j → j < 80 → 0 ≤ alive_0 j ∧ alive_0 j ≤ 1) (hK_0_36 : ∀ j : Int, 0 ≤ j → j < 26 → 0 ≤ rotMany_0 j ∧ rotMany_0 j ≤ 80) (hK_0_37 : ∀ j : Int, 0 ≤ j → j < 2080 → 0 ≤ rot_0 j ∧ rot_0 j ≤ 79) (kz_0_31 : 0 ≤ pn_0 ∧ pn_0 ≤ 25) (kz_0_32 : 0 ≤ pm_0 ∧ pm_0 ≤ 80) (ex2 : gx = 82 + ((-1) * pm_0 + (1 * x4 + 0))) (ex3 : (-2) ≤ gx ∧ gx ≤ 84) : pn_0 ≤ 24 := by
  first
    | omega
    | (have h := gr1_m ‹GR1 _ _ _ _ _ _ _ _›; omega)
set_option maxHeartbeats 4000000 in
theorem vc_Mo_grid_2_3 (x2 : Int) (x3 : Int) (x4 : Int) (pn_0 : Int) (pt_0 : Int → Int) (ph_0 : Int → Int) (pm_0 : Int) (alive_0 : Int → Int) (rotMany_0 : Int → Int) (rot_0 : Int → Int) (gx : Int) (k2 : (-2) ≤ x2 ∧ x2 ≤ 25) (k3 : (-1) ≤ x3 ∧ x3 ≤ (-1)) (k4 : 1 ≤ x4 ∧ x4 ≤ 1) (f0 : x3 < 0) (f1 : 1 ≤ pn_0) (f2 : GOK (pn_0) (pm_0) (pt_0) (ph_0)) (f3 : 3 ≤ pn_0) (f4 : pn_0 ≤ 24) (f5 : GR1 (pn_0) (pm_0) (pt_0) (ph_0) (alive_0) (rotMany_0) (rot_0) (x2)) (f6 : APN (pn_0) (pm_0) (pt_0) (ph_0) (alive_0) (x3)) (hK_0_33 : ∀ j : Int, 0 ≤ j → j < 80 → 0 ≤ pt_0 j ∧ pt_0 j ≤ 24) (hK_0_34 : ∀ j : Int, 0 ≤ j → j < 80 → 0 ≤ ph_0 j ∧ ph_0 j ≤ 24) (hK_0_35 : ∀ j : Int, 0 ≤ j → j < 80 → 0 ≤ alive_0 j ∧ alive_0 j ≤ 1) (hK_0_36 : ∀ j : Int, 0 ≤ j → j < 26 → 0 ≤ rotMany_0 j ∧ rotMany_0 j ≤ 80) (hK_0_37 : ∀ j : Int, 0 ≤ j → j < 2080 → 0 ≤ rot_0 j ∧ rot_0 j ≤ 79) (kz_0_31 : 0 ≤ pn_0 ∧ pn_0 ≤ 25) (kz_0_32 : 0 ≤ pm_0 ∧ pm_0 ≤ 80) (ex2 : gx = 82 + ((-1) * pm_0 + (1 * x4 + 0))) (ex3 : (-2) ≤ gx ∧ gx ≤ 84) : GR2 (pn_0) (pm_0) (pt_0) (ph_0) (alive_0) (rotMany_0) (rot_0) (x4) := by
  first
    | assumption
    | exact ⟨‹GR1 _ _ _ _ _ _ _ _›.1, apn_con ‹APN _ _ _ _ _ _› (by omega), ⟨by omega, by omega⟩, fun z => by exfalso; omega⟩
    | exact ⟨‹GRI _ _ _ _ _ _ _›, ‹CON _ _ _ _ _›, ⟨by omega, by omega⟩, ‹CUA _ _ _ _ _ _ _›⟩
set_option maxHeartbeats 4000000 in
theorem vc_Mo_grid_2_4 (x2 : Int) (x3 : Int) (x4 : Int) (pn_0 : Int) (pt_0 : Int → Int) (ph_0 : Int → Int) (pm_0 : Int) (alive_0 : Int → Int) (rotMany_0 : Int → Int) (rot_0 : Int → Int) (gx : Int) (k2 : (-2) ≤ x2 ∧ x2 ≤ 25) (k3 : (-1) ≤ x3 ∧ x3 ≤ (-1)) (k4 : 1 ≤ x4 ∧ x4 ≤ 1) (f0 : x3 < 0) (f1 : 1 ≤ pn_0) (f2 : GOK (pn_0) (pm_0) (pt_0) (ph_0)) (f3 : 3 ≤ pn_0) (f4 : pn_0 ≤ 24) (f5 : GR1 (pn_0) (pm_0) (pt_0) (ph_0) (alive_0) (rotMany_0) (rot_0) (x2)) (f6 : APN (pn_0) (pm_0) (pt_0) (ph_0) (alive_0) (x3)) (hK_0_33 : ∀ j : Int, 0 ≤ j → j < 80 → 0 ≤ pt_0 j ∧ pt_0 j ≤ 24) (hK_0_34 : ∀ j : Int, 0 ≤ j → j < 80 → 0 ≤ ph_0 j ∧ ph_0 j ≤ 24) (hK_0_35 : ∀ j : Int, 0 ≤ j → j < 80 → 0 ≤ alive_0 j ∧ alive_0 j ≤ 1) (hK_0_36 : ∀ j : Int, 0 ≤ j → j < 26 → 0 ≤ rotMany_0 j ∧ rotMany_0 j ≤ 80) (hK_0_37 : ∀ j : Int, 0 ≤ j → j < 2080 → 0 ≤ rot_0 j ∧ rot_0 j ≤ 79) (kz_0_31 : 0 ≤ pn_0 ∧ pn_0 ≤ 25) (kz_0_32 : 0 ≤ pm_0 ∧ pm_0 ≤ 80) (ex2 : gx = 82 + ((-1) * pm_0 + (1 * x4 + 0))) (ex3 : (-2) ≤ gx ∧ gx ≤ 84) : 1 * gx + (1 * pm_0 + ((-1) * x4 + 0)) ≤ 82 := by
  first
    | omega
    | (have h := gr1_m ‹GR1 _ _ _ _ _ _ _ _›; omega)
set_option maxHeartbeats 4000000 in
theorem vc_Mo_grid_2_5 (x2 : Int) (x3 : Int) (x4 : Int) (pn_0 : Int) (pt_0 : Int → Int) (ph_0 : Int → Int) (pm_0 : Int) (alive_0 : Int → Int) (rotMany_0 : Int → Int) (rot_0 : Int → Int) (gx : Int) (k2 : (-2) ≤ x2 ∧ x2 ≤ 25) (k3 : (-1) ≤ x3 ∧ x3 ≤ (-1)) (k4 : 1 ≤ x4 ∧ x4 ≤ 1) (f0 : x3 < 0) (f1 : 1 ≤ pn_0) (f2 : GOK (pn_0) (pm_0) (pt_0) (ph_0)) (f3 : 3 ≤ pn_0) (f4 : pn_0 ≤ 24) (f5 : GR1 (pn_0) (pm_0) (pt_0) (ph_0) (alive_0) (rotMany_0) (rot_0) (x2)) (f6 : APN (pn_0) (pm_0) (pt_0) (ph_0) (alive_0) (x3)) (hK_0_33 : ∀ j : Int, 0 ≤ j → j < 80 → 0 ≤ pt_0 j ∧ pt_0 j ≤ 24) (hK_0_34 : ∀ j : Int, 0 ≤ j → j < 80 → 0 ≤ ph_0 j ∧ ph_0 j ≤ 24) (hK_0_35 : ∀ j : Int, 0 ≤ j → j < 80 → 0 ≤ alive_0 j ∧ alive_0 j ≤ 1) (hK_0_36 : ∀ j : Int, 0 ≤ j → j < 26 → 0 ≤ rotMany_0 j ∧ rotMany_0 j ≤ 80) (hK_0_37 : ∀ j : Int, 0 ≤ j → j < 2080 → 0 ≤ rot_0 j ∧ rot_0 j ≤ 79) (kz_0_31 : 0 ≤ pn_0 ∧ pn_0 ≤ 25) (kz_0_32 : 0 ≤ pm_0 ∧ pm_0 ≤ 80) (ex2 : gx = 82 + ((-1) * pm_0 + (1 * x4 + 0))) (ex3 : (-2) ≤ gx ∧ gx ≤ 84) : (-1) * gx + ((-1) * pm_0 + (1 * x4 + 0)) ≤ (-82) := by
  first
    | omega
    | (have h := gr1_m ‹GR1 _ _ _ _ _ _ _ _›; omega)
def o_Mo_grid_2 : or_T := (69, 5, [(0, (2, 0, 0, [150])), (2, (0, -2, 25, [])), (3, (0, -1, -1, [])), (4, (0, 1, 1, []))], [(8, [3], [2]), (20, [0], [50, 1, 0, 31, 0, 2, 0, 1, 2, 0, 31]), (20, [0], [60, 2, 2, 0, 31, 32, 33, 34]), (20, [0], [50, 1, 0, 31, 0, 2, 0, 3, 2, 0, 31]), (20, [0], [50, 1, 0, 31, 0, 3, 2, 0, 31, 0, 24]), (20, [0, 2], [60, 2, 5, 186, 31, 32, 33, 34, 35, 36, 37]), (20, [0, 3], [60, 2, 3, 189, 31, 32, 33, 34, 35])], [], [(0, -2, 84, [])], [(20, [0], [60, 2, 2, 0, 31, 32, 33, 34]), (20, [0], [50, 1, 0, 31, 0, 2, 0, 3, 2, 0, 31]), (20, [0], [50, 1, 0, 31, 0, 3, 2, 0, 31, 0, 24]), (20, [0, 4], [60, 2, 5, 213, 31, 32, 33, 34, 35, 36, 37]), (20, [5, 0, 4], [30, 82, 1, 0, 0, 1, 1, 32, -1, 0, 0]), (20, [5, 0, 4], [30, -82, -1, 0, 0, -1, 1, 32, 1, 0, 0])], [], [])
theorem oo_Mo_grid_2 {kA : Nat → ClassId} : or_ok PRD kA GG o_Mo_grid_2 := by
  intro A ta ws vs hD hth hl hk hds hf
  have hl : vs.length = 5 := hl
  have hk : ∀ q ∈ ([(0, (2, 0, 0, [150])), (2, (0, -2, 25, [])), (3, (0, -1, -1, [])), (4, (0, 1, 1, []))] : List (Nat × tv_T)), tv_ok ta q.2 (n_v vs q.1) := hk
  obtain ⟨t0, hk⟩ := List.forall_mem_cons.mp hk
  have t0 : tv_ok ta (2, 0, 0, [150]) (n_v vs 0) := t0
  have r0 : ta (v_ad (n_v vs 0)) = some 150 := tv_rg t0
  obtain ⟨t2, hk⟩ := List.forall_mem_cons.mp hk
  have t2 : tv_ok ta (0, -2, 25, []) (n_v vs 2) := t2
  have k2 : (-2) ≤ v_iv (n_v vs 2) ∧ v_iv (n_v vs 2) ≤ 25 := tv_rng t2
  obtain ⟨t3, hk⟩ := List.forall_mem_cons.mp hk
  have t3 : tv_ok ta (0, -1, -1, []) (n_v vs 3) := t3
  have k3 : (-1) ≤ v_iv (n_v vs 3) ∧ v_iv (n_v vs 3) ≤ (-1) := tv_rng t3
  obtain ⟨t4, hk⟩ := List.forall_mem_cons.mp hk
  have t4 : tv_ok ta (0, 1, 1, []) (n_v vs 4) := t4
  have k4 : 1 ≤ v_iv (n_v vs 4) ∧ v_iv (n_v vs 4) ≤ 1 := tv_rng t4
  have hf : fc_ok PRD [(8, [3], [2]), (20, [0], [50, 1, 0, 31, 0, 2, 0, 1, 2, 0, 31]), (20, [0], [60, 2, 2, 0, 31, 32, 33, 34]), (20, [0], [50, 1, 0, 31, 0, 2, 0, 3, 2, 0, 31]), (20, [0], [50, 1, 0, 31, 0, 3, 2, 0, 31, 0, 24]), (20, [0, 2], [60, 2, 5, 186, 31, 32, 33, 34, 35, 36, 37]), (20, [0, 3], [60, 2, 3, 189, 31, 32, 33, 34, 35])] ta ws vs := hf
  obtain ⟨f0, hf⟩ := fc_un (show (8 : Nat) < 100 from by decide) hf
  have f0 : v_iv (n_v vs 3) < 0 := f0
  obtain ⟨f1, hf⟩ := fc_un (show (20 : Nat) < 100 from by decide) hf
  have f1 : 1 ≤ w_fi ws (n_v vs 0) 31 := f1
  obtain ⟨f2, hf⟩ := fc_un (show (20 : Nat) < 100 from by decide) hf
  have f2 : GOK (w_fi ws (n_v vs 0) 31) (w_fi ws (n_v vs 0) 32) (w_ei ws (w_ar ws (n_v vs 0) 33)) (w_ei ws (w_ar ws (n_v vs 0) 34)) := f2
  obtain ⟨f3, hf⟩ := fc_un (show (20 : Nat) < 100 from by decide) hf
  have f3 : 3 ≤ w_fi ws (n_v vs 0) 31 := f3
  obtain ⟨f4, hf⟩ := fc_un (show (20 : Nat) < 100 from by decide) hf
  have f4 : w_fi ws (n_v vs 0) 31 ≤ 24 := f4
  obtain ⟨f5, hf⟩ := fc_un (show (20 : Nat) < 100 from by decide) hf
  have f5 : GR1 (w_fi ws (n_v vs 0) 31) (w_fi ws (n_v vs 0) 32) (w_ei ws (w_ar ws (n_v vs 0) 33)) (w_ei ws (w_ar ws (n_v vs 0) 34)) (w_ei ws (w_ar ws (n_v vs 0) 35)) (w_ei ws (w_ar ws (n_v vs 0) 36)) (w_ei ws (w_ar ws (n_v vs 0) 37)) (v_iv (n_v vs 2)) := f5
  obtain ⟨f6, hf⟩ := fc_un (show (20 : Nat) < 100 from by decide) hf
  have f6 : APN (w_fi ws (n_v vs 0) 31) (w_fi ws (n_v vs 0) 32) (w_ei ws (w_ar ws (n_v vs 0) 33)) (w_ei ws (w_ar ws (n_v vs 0) 34)) (w_ei ws (w_ar ws (n_v vs 0) 35)) (v_iv (n_v vs 3)) := f6
  have cr_0_33 : ta (w_ar ws (n_v vs 0) 33) = some 165 := tv_rg (th_fd hD hth r0 (g := GG_150) rfl (k := 33) (t := (2, 0, 0, [165])) rfl rfl)
  have cr_0_34 : ta (w_ar ws (n_v vs 0) 34) = some 166 := tv_rg (th_fd hD hth r0 (g := GG_150) rfl (k := 34) (t := (2, 0, 0, [166])) rfl rfl)
  have cr_0_35 : ta (w_ar ws (n_v vs 0) 35) = some 167 := tv_rg (th_fd hD hth r0 (g := GG_150) rfl (k := 35) (t := (2, 0, 0, [167])) rfl rfl)
  have cr_0_36 : ta (w_ar ws (n_v vs 0) 36) = some 168 := tv_rg (th_fd hD hth r0 (g := GG_150) rfl (k := 36) (t := (2, 0, 0, [168])) rfl rfl)
  have cr_0_37 : ta (w_ar ws (n_v vs 0) 37) = some 169 := tv_rg (th_fd hD hth r0 (g := GG_150) rfl (k := 37) (t := (2, 0, 0, [169])) rfl rfl)
  have hK_0_33 : ∀ j : Int, 0 ≤ j → j < 80 → 0 ≤ w_ei ws (w_ar ws (n_v vs 0) 33) j ∧ w_ei ws (w_ar ws (n_v vs 0) 33) j ≤ 24 := fun j h0 h1 => th_el hD hth cr_0_33 (kd := 0) (n := 80) (m := 80) (lo := 0) (hi := 24) (rs := []) (L := []) rfl (by decide) (j := j.toNat) (by omega)
  have hK_0_34 : ∀ j : Int, 0 ≤ j → j < 80 → 0 ≤ w_ei ws (w_ar ws (n_v vs 0) 34) j ∧ w_ei ws (w_ar ws (n_v vs 0) 34) j ≤ 24 := fun j h0 h1 => th_el hD hth cr_0_34 (kd := 0) (n := 80) (m := 80) (lo := 0) (hi := 24) (rs := []) (L := []) rfl (by decide) (j := j.toNat) (by omega)
  have hK_0_35 : ∀ j : Int, 0 ≤ j → j < 80 → 0 ≤ w_ei ws (w_ar ws (n_v vs 0) 35) j ∧ w_ei ws (w_ar ws (n_v vs 0) 35) j ≤ 1 := fun j h0 h1 => th_el hD hth cr_0_35 (kd := 2) (n := 80) (m := 80) (lo := 0) (hi := 1) (rs := []) (L := []) rfl (by decide) (j := j.toNat) (by omega)
  have hK_0_36 : ∀ j : Int, 0 ≤ j → j < 26 → 0 ≤ w_ei ws (w_ar ws (n_v vs 0) 36) j ∧ w_ei ws (w_ar ws (n_v vs 0) 36) j ≤ 80 := fun j h0 h1 => th_el hD hth cr_0_36 (kd := 0) (n := 26) (m := 26) (lo := 0) (hi := 80) (rs := []) (L := []) rfl (by decide) (j := j.toNat) (by omega)
  have hK_0_37 : ∀ j : Int, 0 ≤ j → j < 2080 → 0 ≤ w_ei ws (w_ar ws (n_v vs 0) 37) j ∧ w_ei ws (w_ar ws (n_v vs 0) 37) j ≤ 79 := fun j h0 h1 => th_el hD hth cr_0_37 (kd := 0) (n := 2080) (m := 2080) (lo := 0) (hi := 79) (rs := []) (L := []) rfl (by decide) (j := j.toNat) (by omega)
  have kz_0_31 : 0 ≤ w_fi ws (n_v vs 0) 31 ∧ w_fi ws (n_v vs 0) 31 ≤ 25 := tv_rng (th_fd hD hth r0 (g := GG_150) rfl (k := 31) (t := (0, 0, 25, [])) rfl rfl)
  have kz_0_32 : 0 ≤ w_fi ws (n_v vs 0) 32 ∧ w_fi ws (n_v vs 0) 32 ≤ 80 := tv_rng (th_fd hD hth r0 (g := GG_150) rfl (k := 32) (t := (0, 0, 80, [])) rfl rfl)
  have kb_0_32 : 0 ≤ w_fi ws (n_v vs 0) 32 ∧ w_fi ws (n_v vs 0) 32 ≤ 80 := tv_rng (th_fd hD hth r0 (g := GG_150) rfl (k := 32) (t := (0, 0, 80, [])) rfl rfl)
  obtain ⟨x, ex, hx⟩ := iv_ex (ta := ta) (lo := (-2)) (hi := 84) (z := 82 + ((-1) * w_fi ws (n_v vs 0) 32 + (1 * v_iv (n_v vs 4) + 0))) (by omega) (by omega) (by omega) (by omega)
  have ex2 : v_iv (Value.int x) = 82 + ((-1) * w_fi ws (n_v vs 0) 32 + (1 * v_iv (n_v vs 4) + 0)) := ex
  have ex3 : (-2) ≤ v_iv (Value.int x) ∧ v_iv (Value.int x) ≤ 84 := tv_rng hx
  have e_0 : n_v (vs ++ [Value.int x]) 0 = n_v vs 0 := n_v_old (by rw [hl]; decide)
  have e_4 : n_v (vs ++ [Value.int x]) 4 = n_v vs 4 := n_v_old (by rw [hl]; decide)
  have e_5 : n_v (vs ++ [Value.int x]) 5 = Value.int x := n_v_new hl
  have nf0 : fc_1 PRD (20, [0], [60, 2, 2, 0, 31, 32, 33, 34]) ws (vs ++ [Value.int x]) := by
    refine ⟨fun n hn => ?_, ?_⟩
    · have hn : n ∈ [0] := hn
      rw [List.length_append, hl]
      simp only [List.mem_cons, List.not_mem_nil, or_false] at hn
      show n < 5 + 1; omega
    · show GOK (w_fi ws (n_v (vs ++ [Value.int x]) 0) 31) (w_fi ws (n_v (vs ++ [Value.int x]) 0) 32) (w_ei ws (w_ar ws (n_v (vs ++ [Value.int x]) 0) 33)) (w_ei ws (w_ar ws (n_v (vs ++ [Value.int x]) 0) 34))
      rw [e_0]
      exact vc_Mo_grid_2_0 (v_iv (n_v vs 2)) (v_iv (n_v vs 3)) (v_iv (n_v vs 4)) (w_fi ws (n_v vs 0) 31) (w_ei ws (w_ar ws (n_v vs 0) 33)) (w_ei ws (w_ar ws (n_v vs 0) 34)) (w_fi ws (n_v vs 0) 32) (w_ei ws (w_ar ws (n_v vs 0) 35)) (w_ei ws (w_ar ws (n_v vs 0) 36)) (w_ei ws (w_ar ws (n_v vs 0) 37)) (v_iv (Value.int x)) k2 k3 k4 f0 f1 f2 f3 f4 f5 f6 hK_0_33 hK_0_34 hK_0_35 hK_0_36 hK_0_37 kz_0_31 kz_0_32 ex2 ex3
  have nf1 : fc_1 PRD (20, [0], [50, 1, 0, 31, 0, 2, 0, 3, 2, 0, 31]) ws (vs ++ [Value.int x]) := by
    refine ⟨fun n hn => ?_, ?_⟩
    · have hn : n ∈ [0] := hn
      rw [List.length_append, hl]
      simp only [List.mem_cons, List.not_mem_nil, or_false] at hn
      show n < 5 + 1; omega
    · show 3 ≤ w_fi ws (n_v (vs ++ [Value.int x]) 0) 31
      rw [e_0]
      exact vc_Mo_grid_2_1 (v_iv (n_v vs 2)) (v_iv (n_v vs 3)) (v_iv (n_v vs 4)) (w_fi ws (n_v vs 0) 31) (w_ei ws (w_ar ws (n_v vs 0) 33)) (w_ei ws (w_ar ws (n_v vs 0) 34)) (w_fi ws (n_v vs 0) 32) (w_ei ws (w_ar ws (n_v vs 0) 35)) (w_ei ws (w_ar ws (n_v vs 0) 36)) (w_ei ws (w_ar ws (n_v vs 0) 37)) (v_iv (Value.int x)) k2 k3 k4 f0 f1 f2 f3 f4 f5 f6 hK_0_33 hK_0_34 hK_0_35 hK_0_36 hK_0_37 kz_0_31 kz_0_32 ex2 ex3
  have nf2 : fc_1 PRD (20, [0], [50, 1, 0, 31, 0, 3, 2, 0, 31, 0, 24]) ws (vs ++ [Value.int x]) := by
    refine ⟨fun n hn => ?_, ?_⟩
    · have hn : n ∈ [0] := hn
      rw [List.length_append, hl]
      simp only [List.mem_cons, List.not_mem_nil, or_false] at hn
      show n < 5 + 1; omega
    · show w_fi ws (n_v (vs ++ [Value.int x]) 0) 31 ≤ 24
      rw [e_0]
      exact vc_Mo_grid_2_2 (v_iv (n_v vs 2)) (v_iv (n_v vs 3)) (v_iv (n_v vs 4)) (w_fi ws (n_v vs 0) 31) (w_ei ws (w_ar ws (n_v vs 0) 33)) (w_ei ws (w_ar ws (n_v vs 0) 34)) (w_fi ws (n_v vs 0) 32) (w_ei ws (w_ar ws (n_v vs 0) 35)) (w_ei ws (w_ar ws (n_v vs 0) 36)) (w_ei ws (w_ar ws (n_v vs 0) 37)) (v_iv (Value.int x)) k2 k3 k4 f0 f1 f2 f3 f4 f5 f6 hK_0_33 hK_0_34 hK_0_35 hK_0_36 hK_0_37 kz_0_31 kz_0_32 ex2 ex3
  have nf3 : fc_1 PRD (20, [0, 4], [60, 2, 5, 213, 31, 32, 33, 34, 35, 36, 37]) ws (vs ++ [Value.int x]) := by
    refine ⟨fun n hn => ?_, ?_⟩
    · have hn : n ∈ [0, 4] := hn
      rw [List.length_append, hl]
      simp only [List.mem_cons, List.not_mem_nil, or_false] at hn
      show n < 5 + 1; omega
    · show GR2 (w_fi ws (n_v (vs ++ [Value.int x]) 0) 31) (w_fi ws (n_v (vs ++ [Value.int x]) 0) 32) (w_ei ws (w_ar ws (n_v (vs ++ [Value.int x]) 0) 33)) (w_ei ws (w_ar ws (n_v (vs ++ [Value.int x]) 0) 34)) (w_ei ws (w_ar ws (n_v (vs ++ [Value.int x]) 0) 35)) (w_ei ws (w_ar ws (n_v (vs ++ [Value.int x]) 0) 36)) (w_ei ws (w_ar ws (n_v (vs ++ [Value.int x]) 0) 37)) (v_iv (n_v (vs ++ [Value.int x]) 4))
      rw [e_0]
      rw [e_4]
      exact vc_Mo_grid_2_3 (v_iv (n_v vs 2)) (v_iv (n_v vs 3)) (v_iv (n_v vs 4)) (w_fi ws (n_v vs 0) 31) (w_ei ws (w_ar ws (n_v vs 0) 33)) (w_ei ws (w_ar ws (n_v vs 0) 34)) (w_fi ws (n_v vs 0) 32) (w_ei ws (w_ar ws (n_v vs 0) 35)) (w_ei ws (w_ar ws (n_v vs 0) 36)) (w_ei ws (w_ar ws (n_v vs 0) 37)) (v_iv (Value.int x)) k2 k3 k4 f0 f1 f2 f3 f4 f5 f6 hK_0_33 hK_0_34 hK_0_35 hK_0_36 hK_0_37 kz_0_31 kz_0_32 ex2 ex3
  have nf4 : fc_1 PRD (20, [5, 0, 4], [30, 82, 1, 0, 0, 1, 1, 32, -1, 0, 0]) ws (vs ++ [Value.int x]) := by
    refine ⟨fun n hn => ?_, ?_⟩
    · have hn : n ∈ [5, 0, 4] := hn
      rw [List.length_append, hl]
      simp only [List.mem_cons, List.not_mem_nil, or_false] at hn
      show n < 5 + 1; omega
    · show 1 * v_iv (n_v (vs ++ [Value.int x]) 5) + (1 * w_fi ws (n_v (vs ++ [Value.int x]) 0) 32 + ((-1) * v_iv (n_v (vs ++ [Value.int x]) 4) + 0)) ≤ 82
      rw [e_0]
      rw [e_4]
      rw [e_5]
      exact vc_Mo_grid_2_4 (v_iv (n_v vs 2)) (v_iv (n_v vs 3)) (v_iv (n_v vs 4)) (w_fi ws (n_v vs 0) 31) (w_ei ws (w_ar ws (n_v vs 0) 33)) (w_ei ws (w_ar ws (n_v vs 0) 34)) (w_fi ws (n_v vs 0) 32) (w_ei ws (w_ar ws (n_v vs 0) 35)) (w_ei ws (w_ar ws (n_v vs 0) 36)) (w_ei ws (w_ar ws (n_v vs 0) 37)) (v_iv (Value.int x)) k2 k3 k4 f0 f1 f2 f3 f4 f5 f6 hK_0_33 hK_0_34 hK_0_35 hK_0_36 hK_0_37 kz_0_31 kz_0_32 ex2 ex3
  have nf5 : fc_1 PRD (20, [5, 0, 4], [30, -82, -1, 0, 0, -1, 1, 32, 1, 0, 0]) ws (vs ++ [Value.int x]) := by
    refine ⟨fun n hn => ?_, ?_⟩
    · have hn : n ∈ [5, 0, 4] := hn
      rw [List.length_append, hl]
      simp only [List.mem_cons, List.not_mem_nil, or_false] at hn
      show n < 5 + 1; omega
    · show (-1) * v_iv (n_v (vs ++ [Value.int x]) 5) + ((-1) * w_fi ws (n_v (vs ++ [Value.int x]) 0) 32 + (1 * v_iv (n_v (vs ++ [Value.int x]) 4) + 0)) ≤ (-82)
      rw [e_0]
      rw [e_4]
      rw [e_5]
      exact vc_Mo_grid_2_5 (v_iv (n_v vs 2)) (v_iv (n_v vs 3)) (v_iv (n_v vs 4)) (w_fi ws (n_v vs 0) 31) (w_ei ws (w_ar ws (n_v vs 0) 33)) (w_ei ws (w_ar ws (n_v vs 0) 34)) (w_fi ws (n_v vs 0) 32) (w_ei ws (w_ar ws (n_v vs 0) 35)) (w_ei ws (w_ar ws (n_v vs 0) 36)) (w_ei ws (w_ar ws (n_v vs 0) 37)) (v_iv (Value.int x)) k2 k3 k4 f0 f1 f2 f3 f4 f5 f6 hK_0_33 hK_0_34 hK_0_35 hK_0_36 hK_0_37 kz_0_31 kz_0_32 ex2 ex3
  exact ⟨(fun _ h => (by cases h)), [Value.int x], ag_one hx, List.forall_mem_cons.mpr ⟨⟨show (20 : Nat) < 100 from by decide, nf0⟩, List.forall_mem_cons.mpr ⟨⟨show (20 : Nat) < 100 from by decide, nf1⟩, List.forall_mem_cons.mpr ⟨⟨show (20 : Nat) < 100 from by decide, nf2⟩, List.forall_mem_cons.mpr ⟨⟨show (20 : Nat) < 100 from by decide, nf3⟩, List.forall_mem_cons.mpr ⟨⟨show (20 : Nat) < 100 from by decide, nf4⟩, List.forall_mem_cons.mpr ⟨⟨show (20 : Nat) < 100 from by decide, nf5⟩, (fun _ h => (by cases h))⟩⟩⟩⟩⟩⟩, (fun _ h => (by cases h))⟩
set_option maxHeartbeats 4000000 in
theorem vc_Mo_grid_3_r0 (x2 : Int) (x3 : Int) (x4 : Int) (pn_0 : Int) (pt_0 : Int → Int) (ph_0 : Int → Int) (pm_0 : Int) (alive_0 : Int → Int) (rotMany_0 : Int → Int) (rot_0 : Int → Int) (k2 : (-2) ≤ x2 ∧ x2 ≤ 25) (k3 : 0 ≤ x3 ∧ x3 ≤ 24) (k4 : (-1) ≤ x4 ∧ x4 ≤ 24) (f0 : 1 ≤ pn_0) (f1 : GOK (pn_0) (pm_0) (pt_0) (ph_0)) (f2 : 3 ≤ pn_0) (f3 : pn_0 ≤ 24) (f4 : GR1 (pn_0) (pm_0) (pt_0) (ph_0) (alive_0) (rotMany_0) (rot_0) (x2)) (f5 : APN (pn_0) (pm_0) (pt_0) (ph_0) (alive_0) (x3)) (f6 : APN (pn_0) (pm_0) (pt_0) (ph_0) (alive_0) (x4)) (f8 : 0 ≤ x3) (hK_0_33 : ∀ j : Int, 0 ≤ j → j < 80 → 0 ≤ pt_0 j ∧ pt_0 j ≤ 24) (hK_0_34 : ∀ j : Int, 0 ≤ j → j < 80 → 0 ≤ ph_0 j ∧ ph_0 j ≤ 24) (hK_0_35 : ∀ j : Int, 0 ≤ j → j < 80 → 0 ≤ alive_0 j ∧ alive_0 j ≤ 1) (hK_0_36 : ∀ j : Int, 0 ≤ j → j < 26 → 0 ≤ rotMany_0 j ∧ rotMany_0 j ≤ 80) (hK_0_37 : ∀ j : Int, 0 ≤ j → j < 2080 → 0 ≤ rot_0 j ∧ rot_0 j ≤ 79) (kz_0_31 : 0 ≤ pn_0 ∧ pn_0 ≤ 25) (kz_0_32 : 0 ≤ pm_0 ∧ pm_0 ≤ 80) : 0 ≤ x4 ∧ x4 ≤ 24 := by
  have h := apn_2 (x := x3) (y := x4) (by assumption) (by omega) (by assumption)
  omega
def o_Mo_grid_3 : or_T := (33, 5, [(0, (2, 0, 0, [150])), (2, (0, -2, 25, [])), (3, (0, 0, 24, [])), (4, (0, -1, 24, []))], [(20, [0], [50, 1, 0, 31, 0, 2, 0, 1, 2, 0, 31]), (20, [0], [60, 2, 2, 0, 31, 32, 33, 34]), (20, [0], [50, 1, 0, 31, 0, 2, 0, 3, 2, 0, 31]), (20, [0], [50, 1, 0, 31, 0, 3, 2, 0, 31, 0, 24]), (20, [0, 2], [60, 2, 5, 186, 31, 32, 33, 34, 35, 36, 37]), (20, [0, 3], [60, 2, 3, 189, 31, 32, 33, 34, 35]), (20, [0, 4], [60, 2, 3, 189, 31, 32, 33, 34, 35]), (102, [3], [1496577676626844588240573268701473812127674924007424]), (8, [3], [3])], [(4, (0, 0, 24, []))], [], [], [], [])
theorem oo_Mo_grid_3 {kA : Nat → ClassId} : or_ok PRD kA GG o_Mo_grid_3 := by
  intro A ta ws vs hD hth hl hk hds hf
  have hl : vs.length = 5 := hl
  have hk : ∀ q ∈ ([(0, (2, 0, 0, [150])), (2, (0, -2, 25, [])), (3, (0, 0, 24, [])), (4, (0, -1, 24, []))] : List (Nat × tv_T)), tv_ok ta q.2 (n_v vs q.1) := hk
  obtain ⟨t0, hk⟩ := List.forall_mem_cons.mp hk
  have t0 : tv_ok ta (2, 0, 0, [150]) (n_v vs 0) := t0
  have r0 : ta (v_ad (n_v vs 0)) = some 150 := tv_rg t0
  obtain ⟨t2, hk⟩ := List.forall_mem_cons.mp hk
  have t2 : tv_ok ta (0, -2, 25, []) (n_v vs 2) := t2
  have k2 : (-2) ≤ v_iv (n_v vs 2) ∧ v_iv (n_v vs 2) ≤ 25 := tv_rng t2
  obtain ⟨t3, hk⟩ := List.forall_mem_cons.mp hk
  have t3 : tv_ok ta (0, 0, 24, []) (n_v vs 3) := t3
  have k3 : 0 ≤ v_iv (n_v vs 3) ∧ v_iv (n_v vs 3) ≤ 24 := tv_rng t3
  obtain ⟨t4, hk⟩ := List.forall_mem_cons.mp hk
  have t4 : tv_ok ta (0, -1, 24, []) (n_v vs 4) := t4
  have k4 : (-1) ≤ v_iv (n_v vs 4) ∧ v_iv (n_v vs 4) ≤ 24 := tv_rng t4
  have hf : fc_ok PRD [(20, [0], [50, 1, 0, 31, 0, 2, 0, 1, 2, 0, 31]), (20, [0], [60, 2, 2, 0, 31, 32, 33, 34]), (20, [0], [50, 1, 0, 31, 0, 2, 0, 3, 2, 0, 31]), (20, [0], [50, 1, 0, 31, 0, 3, 2, 0, 31, 0, 24]), (20, [0, 2], [60, 2, 5, 186, 31, 32, 33, 34, 35, 36, 37]), (20, [0, 3], [60, 2, 3, 189, 31, 32, 33, 34, 35]), (20, [0, 4], [60, 2, 3, 189, 31, 32, 33, 34, 35]), (102, [3], [1496577676626844588240573268701473812127674924007424]), (8, [3], [3])] ta ws vs := hf
  obtain ⟨f0, hf⟩ := fc_un (show (20 : Nat) < 100 from by decide) hf
  have f0 : 1 ≤ w_fi ws (n_v vs 0) 31 := f0
  obtain ⟨f1, hf⟩ := fc_un (show (20 : Nat) < 100 from by decide) hf
  have f1 : GOK (w_fi ws (n_v vs 0) 31) (w_fi ws (n_v vs 0) 32) (w_ei ws (w_ar ws (n_v vs 0) 33)) (w_ei ws (w_ar ws (n_v vs 0) 34)) := f1
  obtain ⟨f2, hf⟩ := fc_un (show (20 : Nat) < 100 from by decide) hf
  have f2 : 3 ≤ w_fi ws (n_v vs 0) 31 := f2
  obtain ⟨f3, hf⟩ := fc_un (show (20 : Nat) < 100 from by decide) hf
  have f3 : w_fi ws (n_v vs 0) 31 ≤ 24 := f3
  obtain ⟨f4, hf⟩ := fc_un (show (20 : Nat) < 100 from by decide) hf
  have f4 : GR1 (w_fi ws (n_v vs 0) 31) (w_fi ws (n_v vs 0) 32) (w_ei ws (w_ar ws (n_v vs 0) 33)) (w_ei ws (w_ar ws (n_v vs 0) 34)) (w_ei ws (w_ar ws (n_v vs 0) 35)) (w_ei ws (w_ar ws (n_v vs 0) 36)) (w_ei ws (w_ar ws (n_v vs 0) 37)) (v_iv (n_v vs 2)) := f4
  obtain ⟨f5, hf⟩ := fc_un (show (20 : Nat) < 100 from by decide) hf
  have f5 : APN (w_fi ws (n_v vs 0) 31) (w_fi ws (n_v vs 0) 32) (w_ei ws (w_ar ws (n_v vs 0) 33)) (w_ei ws (w_ar ws (n_v vs 0) 34)) (w_ei ws (w_ar ws (n_v vs 0) 35)) (v_iv (n_v vs 3)) := f5
  obtain ⟨f6, hf⟩ := fc_un (show (20 : Nat) < 100 from by decide) hf
  have f6 : APN (w_fi ws (n_v vs 0) 31) (w_fi ws (n_v vs 0) 32) (w_ei ws (w_ar ws (n_v vs 0) 33)) (w_ei ws (w_ar ws (n_v vs 0) 34)) (w_ei ws (w_ar ws (n_v vs 0) 35)) (v_iv (n_v vs 4)) := f6
  obtain ⟨ta1, w1, le1, ⟨_, s1⟩, hf⟩ := fc_us (show ¬ (102 : Nat) < 100 from by decide) hf
  obtain ⟨f8, hf⟩ := fc_un (show (8 : Nat) < 100 from by decide) hf
  have f8 : 0 ≤ v_iv (n_v vs 3) := f8
  have cr_0_33 : ta (w_ar ws (n_v vs 0) 33) = some 165 := tv_rg (th_fd hD hth r0 (g := GG_150) rfl (k := 33) (t := (2, 0, 0, [165])) rfl rfl)
  have cr_0_34 : ta (w_ar ws (n_v vs 0) 34) = some 166 := tv_rg (th_fd hD hth r0 (g := GG_150) rfl (k := 34) (t := (2, 0, 0, [166])) rfl rfl)
  have cr_0_35 : ta (w_ar ws (n_v vs 0) 35) = some 167 := tv_rg (th_fd hD hth r0 (g := GG_150) rfl (k := 35) (t := (2, 0, 0, [167])) rfl rfl)
  have cr_0_36 : ta (w_ar ws (n_v vs 0) 36) = some 168 := tv_rg (th_fd hD hth r0 (g := GG_150) rfl (k := 36) (t := (2, 0, 0, [168])) rfl rfl)
  have cr_0_37 : ta (w_ar ws (n_v vs 0) 37) = some 169 := tv_rg (th_fd hD hth r0 (g := GG_150) rfl (k := 37) (t := (2, 0, 0, [169])) rfl rfl)
  have hK_0_33 : ∀ j : Int, 0 ≤ j → j < 80 → 0 ≤ w_ei ws (w_ar ws (n_v vs 0) 33) j ∧ w_ei ws (w_ar ws (n_v vs 0) 33) j ≤ 24 := fun j h0 h1 => th_el hD hth cr_0_33 (kd := 0) (n := 80) (m := 80) (lo := 0) (hi := 24) (rs := []) (L := []) rfl (by decide) (j := j.toNat) (by omega)
  have hK_0_34 : ∀ j : Int, 0 ≤ j → j < 80 → 0 ≤ w_ei ws (w_ar ws (n_v vs 0) 34) j ∧ w_ei ws (w_ar ws (n_v vs 0) 34) j ≤ 24 := fun j h0 h1 => th_el hD hth cr_0_34 (kd := 0) (n := 80) (m := 80) (lo := 0) (hi := 24) (rs := []) (L := []) rfl (by decide) (j := j.toNat) (by omega)
  have hK_0_35 : ∀ j : Int, 0 ≤ j → j < 80 → 0 ≤ w_ei ws (w_ar ws (n_v vs 0) 35) j ∧ w_ei ws (w_ar ws (n_v vs 0) 35) j ≤ 1 := fun j h0 h1 => th_el hD hth cr_0_35 (kd := 2) (n := 80) (m := 80) (lo := 0) (hi := 1) (rs := []) (L := []) rfl (by decide) (j := j.toNat) (by omega)
  have hK_0_36 : ∀ j : Int, 0 ≤ j → j < 26 → 0 ≤ w_ei ws (w_ar ws (n_v vs 0) 36) j ∧ w_ei ws (w_ar ws (n_v vs 0) 36) j ≤ 80 := fun j h0 h1 => th_el hD hth cr_0_36 (kd := 0) (n := 26) (m := 26) (lo := 0) (hi := 80) (rs := []) (L := []) rfl (by decide) (j := j.toNat) (by omega)
  have hK_0_37 : ∀ j : Int, 0 ≤ j → j < 2080 → 0 ≤ w_ei ws (w_ar ws (n_v vs 0) 37) j ∧ w_ei ws (w_ar ws (n_v vs 0) 37) j ≤ 79 := fun j h0 h1 => th_el hD hth cr_0_37 (kd := 0) (n := 2080) (m := 2080) (lo := 0) (hi := 79) (rs := []) (L := []) rfl (by decide) (j := j.toNat) (by omega)
  have kz_0_31 : 0 ≤ w_fi ws (n_v vs 0) 31 ∧ w_fi ws (n_v vs 0) 31 ≤ 25 := tv_rng (th_fd hD hth r0 (g := GG_150) rfl (k := 31) (t := (0, 0, 25, [])) rfl rfl)
  have kz_0_32 : 0 ≤ w_fi ws (n_v vs 0) 32 ∧ w_fi ws (n_v vs 0) 32 ≤ 80 := tv_rng (th_fd hD hth r0 (g := GG_150) rfl (k := 32) (t := (0, 0, 80, [])) rfl rfl)
  have hrf0 : 0 ≤ v_iv (n_v vs 4) ∧ v_iv (n_v vs 4) ≤ 24 := vc_Mo_grid_3_r0 (v_iv (n_v vs 2)) (v_iv (n_v vs 3)) (v_iv (n_v vs 4)) (w_fi ws (n_v vs 0) 31) (w_ei ws (w_ar ws (n_v vs 0) 33)) (w_ei ws (w_ar ws (n_v vs 0) 34)) (w_fi ws (n_v vs 0) 32) (w_ei ws (w_ar ws (n_v vs 0) 35)) (w_ei ws (w_ar ws (n_v vs 0) 36)) (w_ei ws (w_ar ws (n_v vs 0) 37)) k2 k3 k4 f0 f1 f2 f3 f4 f5 f6 f8 hK_0_33 hK_0_34 hK_0_35 hK_0_36 hK_0_37 kz_0_31 kz_0_32
  have rf4 : tv_ok ta (0, 0, 24, []) (n_v vs 4) := tv_in t4 (by first | omega | grind) (by first | omega | grind)
  refine ⟨List.forall_mem_cons.mpr ⟨rf4, (fun _ h => (by cases h))⟩, [], trivial, ?_, (fun _ h => (by cases h))⟩
  rw [List.append_nil]
  exact (fun _ h => (by cases h))
set_option maxHeartbeats 4000000 in
theorem vc_Mo_grid_4_0 (x2 : Int) (x3 : Int) (x4 : Int) (x5 : Int) (pn_0 : Int) (pt_0 : Int → Int) (ph_0 : Int → Int) (pm_0 : Int) (alive_0 : Int → Int) (rotMany_0 : Int → Int) (rot_0 : Int → Int) (gx : Int) (k2 : (-2) ≤ x2 ∧ x2 ≤ 25) (k3 : 0 ≤ x3 ∧ x3 ≤ 24) (k4 : 0 ≤ x4 ∧ x4 ≤ 24) (k5 : 0 ≤ x5 ∧ x5 ≤ 0) (f0 : 1 ≤ pn_0) (f1 : GOK (pn_0) (pm_0) (pt_0) (ph_0)) (f2 : 3 ≤ pn_0) (f3 : pn_0 ≤ 24) (f4 : GR1 (pn_0) (pm_0) (pt_0) (ph_0) (alive_0) (rotMany_0) (rot_0) (x2)) (f5 : APN (pn_0) (pm_0) (pt_0) (ph_0) (alive_0) (x3)) (f6 : APN (pn_0) (pm_0) (pt_0) (ph_0) (alive_0) (x4)) (f8 : 0 ≤ x3) (hK_0_33 : ∀ j : Int, 0 ≤ j → j < 80 → 0 ≤ pt_0 j ∧ pt_0 j ≤ 24) (hK_0_34 : ∀ j : Int, 0 ≤ j → j < 80 → 0 ≤ ph_0 j ∧ ph_0 j ≤ 24) (hK_0_35 : ∀ j : Int, 0 ≤ j → j < 80 → 0 ≤ alive_0 j ∧ alive_0 j ≤ 1) (hK_0_36 : ∀ j : Int, 0 ≤ j → j < 26 → 0 ≤ rotMany_0 j ∧ rotMany_0 j ≤ 80) (hK_0_37 : ∀ j : Int, 0 ≤ j → j < 2080 → 0 ≤ rot_0 j ∧ rot_0 j ≤ 79) (kz_0_31 : 0 ≤ pn_0 ∧ pn_0 ≤ 25) (kz_0_32 : 0 ≤ pm_0 ∧ pm_0 ≤ 80) (ex2 : gx = x2) (ex3 : (-2) ≤ gx ∧ gx ≤ 25) : x5 = 0 := by
  first
    | omega
    | (have h := gr1_m ‹GR1 _ _ _ _ _ _ _ _›; omega)
set_option maxHeartbeats 4000000 in
theorem vc_Mo_grid_4_1 (x2 : Int) (x3 : Int) (x4 : Int) (x5 : Int) (pn_0 : Int) (pt_0 : Int → Int) (ph_0 : Int → Int) (pm_0 : Int) (alive_0 : Int → Int) (rotMany_0 : Int → Int) (rot_0 : Int → Int) (gx : Int) (k2 : (-2) ≤ x2 ∧ x2 ≤ 25) (k3 : 0 ≤ x3 ∧ x3 ≤ 24) (k4 : 0 ≤ x4 ∧ x4 ≤ 24) (k5 : 0 ≤ x5 ∧ x5 ≤ 0) (f0 : 1 ≤ pn_0) (f1 : GOK (pn_0) (pm_0) (pt_0) (ph_0)) (f2 : 3 ≤ pn_0) (f3 : pn_0 ≤ 24) (f4 : GR1 (pn_0) (pm_0) (pt_0) (ph_0) (alive_0) (rotMany_0) (rot_0) (x2)) (f5 : APN (pn_0) (pm_0) (pt_0) (ph_0) (alive_0) (x3)) (f6 : APN (pn_0) (pm_0) (pt_0) (ph_0) (alive_0) (x4)) (f8 : 0 ≤ x3) (hK_0_33 : ∀ j : Int, 0 ≤ j → j < 80 → 0 ≤ pt_0 j ∧ pt_0 j ≤ 24) (hK_0_34 : ∀ j : Int, 0 ≤ j → j < 80 → 0 ≤ ph_0 j ∧ ph_0 j ≤ 24) (hK_0_35 : ∀ j : Int, 0 ≤ j → j < 80 → 0 ≤ alive_0 j ∧ alive_0 j ≤ 1) (hK_0_36 : ∀ j : Int, 0 ≤ j → j < 26 → 0 ≤ rotMany_0 j ∧ rotMany_0 j ≤ 80) (hK_0_37 : ∀ j : Int, 0 ≤ j → j < 2080 → 0 ≤ rot_0 j ∧ rot_0 j ≤ 79) (kz_0_31 : 0 ≤ pn_0 ∧ pn_0 ≤ 25) (kz_0_32 : 0 ≤ pm_0 ∧ pm_0 ≤ 80) (ex2 : gx = x2) (ex3 : (-2) ≤ gx ∧ gx ≤ 25) : 1 * gx + ((-1) * x2 + 0) ≤ 0 := by
  first
    | omega
    | (have h := gr1_m ‹GR1 _ _ _ _ _ _ _ _›; omega)
set_option maxHeartbeats 4000000 in
theorem vc_Mo_grid_4_2 (x2 : Int) (x3 : Int) (x4 : Int) (x5 : Int) (pn_0 : Int) (pt_0 : Int → Int) (ph_0 : Int → Int) (pm_0 : Int) (alive_0 : Int → Int) (rotMany_0 : Int → Int) (rot_0 : Int → Int) (gx : Int) (k2 : (-2) ≤ x2 ∧ x2 ≤ 25) (k3 : 0 ≤ x3 ∧ x3 ≤ 24) (k4 : 0 ≤ x4 ∧ x4 ≤ 24) (k5 : 0 ≤ x5 ∧ x5 ≤ 0) (f0 : 1 ≤ pn_0) (f1 : GOK (pn_0) (pm_0) (pt_0) (ph_0)) (f2 : 3 ≤ pn_0) (f3 : pn_0 ≤ 24) (f4 : GR1 (pn_0) (pm_0) (pt_0) (ph_0) (alive_0) (rotMany_0) (rot_0) (x2)) (f5 : APN (pn_0) (pm_0) (pt_0) (ph_0) (alive_0) (x3)) (f6 : APN (pn_0) (pm_0) (pt_0) (ph_0) (alive_0) (x4)) (f8 : 0 ≤ x3) (hK_0_33 : ∀ j : Int, 0 ≤ j → j < 80 → 0 ≤ pt_0 j ∧ pt_0 j ≤ 24) (hK_0_34 : ∀ j : Int, 0 ≤ j → j < 80 → 0 ≤ ph_0 j ∧ ph_0 j ≤ 24) (hK_0_35 : ∀ j : Int, 0 ≤ j → j < 80 → 0 ≤ alive_0 j ∧ alive_0 j ≤ 1) (hK_0_36 : ∀ j : Int, 0 ≤ j → j < 26 → 0 ≤ rotMany_0 j ∧ rotMany_0 j ≤ 80) (hK_0_37 : ∀ j : Int, 0 ≤ j → j < 2080 → 0 ≤ rot_0 j ∧ rot_0 j ≤ 79) (kz_0_31 : 0 ≤ pn_0 ∧ pn_0 ≤ 25) (kz_0_32 : 0 ≤ pm_0 ∧ pm_0 ≤ 80) (ex2 : gx = x2) (ex3 : (-2) ≤ gx ∧ gx ≤ 25) : (-1) * gx + (1 * x2 + 0) ≤ 0 := by
  first
    | omega
    | (have h := gr1_m ‹GR1 _ _ _ _ _ _ _ _›; omega)
set_option maxHeartbeats 4000000 in
theorem vc_Mo_grid_4_3 (x2 : Int) (x3 : Int) (x4 : Int) (x5 : Int) (pn_0 : Int) (pt_0 : Int → Int) (ph_0 : Int → Int) (pm_0 : Int) (alive_0 : Int → Int) (rotMany_0 : Int → Int) (rot_0 : Int → Int) (gx : Int) (k2 : (-2) ≤ x2 ∧ x2 ≤ 25) (k3 : 0 ≤ x3 ∧ x3 ≤ 24) (k4 : 0 ≤ x4 ∧ x4 ≤ 24) (k5 : 0 ≤ x5 ∧ x5 ≤ 0) (f0 : 1 ≤ pn_0) (f1 : GOK (pn_0) (pm_0) (pt_0) (ph_0)) (f2 : 3 ≤ pn_0) (f3 : pn_0 ≤ 24) (f4 : GR1 (pn_0) (pm_0) (pt_0) (ph_0) (alive_0) (rotMany_0) (rot_0) (x2)) (f5 : APN (pn_0) (pm_0) (pt_0) (ph_0) (alive_0) (x3)) (f6 : APN (pn_0) (pm_0) (pt_0) (ph_0) (alive_0) (x4)) (f8 : 0 ≤ x3) (hK_0_33 : ∀ j : Int, 0 ≤ j → j < 80 → 0 ≤ pt_0 j ∧ pt_0 j ≤ 24) (hK_0_34 : ∀ j : Int, 0 ≤ j → j < 80 → 0 ≤ ph_0 j ∧ ph_0 j ≤ 24) (hK_0_35 : ∀ j : Int, 0 ≤ j → j < 80 → 0 ≤ alive_0 j ∧ alive_0 j ≤ 1) (hK_0_36 : ∀ j : Int, 0 ≤ j → j < 26 → 0 ≤ rotMany_0 j ∧ rotMany_0 j ≤ 80) (hK_0_37 : ∀ j : Int, 0 ≤ j → j < 2080 → 0 ≤ rot_0 j ∧ rot_0 j ≤ 79) (kz_0_31 : 0 ≤ pn_0 ∧ pn_0 ≤ 25) (kz_0_32 : 0 ≤ pm_0 ∧ pm_0 ≤ 80) (ex2 : gx = x2) (ex3 : (-2) ≤ gx ∧ gx ≤ 25) : pm_0 ≤ 79 := by
  first
    | omega
    | (have h := gr1_m ‹GR1 _ _ _ _ _ _ _ _›; omega)
set_option maxHeartbeats 4000000 in
theorem vc_Mo_grid_4_4 (x2 : Int) (x3 : Int) (x4 : Int) (x5 : Int) (pn_0 : Int) (pt_0 : Int → Int) (ph_0 : Int → Int) (pm_0 : Int) (alive_0 : Int → Int) (rotMany_0 : Int → Int) (rot_0 : Int → Int) (gx : Int) (k2 : (-2) ≤ x2 ∧ x2 ≤ 25) (k3 : 0 ≤ x3 ∧ x3 ≤ 24) (k4 : 0 ≤ x4 ∧ x4 ≤ 24) (k5 : 0 ≤ x5 ∧ x5 ≤ 0) (f0 : 1 ≤ pn_0) (f1 : GOK (pn_0) (pm_0) (pt_0) (ph_0)) (f2 : 3 ≤ pn_0) (f3 : pn_0 ≤ 24) (f4 : GR1 (pn_0) (pm_0) (pt_0) (ph_0) (alive_0) (rotMany_0) (rot_0) (x2)) (f5 : APN (pn_0) (pm_0) (pt_0) (ph_0) (alive_0) (x3)) (f6 : APN (pn_0) (pm_0) (pt_0) (ph_0) (alive_0) (x4)) (f8 : 0 ≤ x3) (hK_0_33 : ∀ j : Int, 0 ≤ j → j < 80 → 0 ≤ pt_0 j ∧ pt_0 j ≤ 24) (hK_0_34 : ∀ j : Int, 0 ≤ j → j < 80 → 0 ≤ ph_0 j ∧ ph_0 j ≤ 24) (hK_0_35 : ∀ j : Int, 0 ≤ j → j < 80 → 0 ≤ alive_0 j ∧ alive_0 j ≤ 1) (hK_0_36 : ∀ j : Int, 0 ≤ j → j < 26 → 0 ≤ rotMany_0 j ∧ rotMany_0 j ≤ 80) (hK_0_37 : ∀ j : Int, 0 ≤ j → j < 2080 → 0 ≤ rot_0 j ∧ rot_0 j ≤ 79) (kz_0_31 : 0 ≤ pn_0 ∧ pn_0 ≤ 25) (kz_0_32 : 0 ≤ pm_0 ∧ pm_0 ≤ 80) (ex2 : gx = x2) (ex3 : (-2) ≤ gx ∧ gx ≤ 25) : x5 = 0 := by
  first
    | omega
    | (have h := gr1_m ‹GR1 _ _ _ _ _ _ _ _›; omega)
set_option maxHeartbeats 4000000 in
theorem vc_Mo_grid_4_5 (x2 : Int) (x3 : Int) (x4 : Int) (x5 : Int) (pn_0 : Int) (pt_0 : Int → Int) (ph_0 : Int → Int) (pm_0 : Int) (alive_0 : Int → Int) (rotMany_0 : Int → Int) (rot_0 : Int → Int) (gx : Int) (k2 : (-2) ≤ x2 ∧ x2 ≤ 25) (k3 : 0 ≤ x3 ∧ x3 ≤ 24) (k4 : 0 ≤ x4 ∧ x4 ≤ 24) (k5 : 0 ≤ x5 ∧ x5 ≤ 0) (f0 : 1 ≤ pn_0) (f1 : GOK (pn_0) (pm_0) (pt_0) (ph_0)) (f2 : 3 ≤ pn_0) (f3 : pn_0 ≤ 24) (f4 : GR1 (pn_0) (pm_0) (pt_0) (ph_0) (alive_0) (rotMany_0) (rot_0) (x2)) (f5 : APN (pn_0) (pm_0) (pt_0) (ph_0) (alive_0) (x3)) (f6 : APN (pn_0) (pm_0) (pt_0) (ph_0) (alive_0) (x4)) (f8 : 0 ≤ x3) (hK_0_33 : ∀ j : Int, 0 ≤ j → j < 80 → 0 ≤ pt_0 j ∧ pt_0 j ≤ 24) (hK_0_34 : ∀ j : Int, 0 ≤ j → j < 80 → 0 ≤ ph_0 j ∧ ph_0 j ≤ 24) (hK_0_35 : ∀ j : Int, 0 ≤ j → j < 80 → 0 ≤ alive_0 j ∧ alive_0 j ≤ 1) (hK_0_36 : ∀ j : Int, 0 ≤ j → j < 26 → 0 ≤ rotMany_0 j ∧ rotMany_0 j ≤ 80) (hK_0_37 : ∀ j : Int, 0 ≤ j → j < 2080 → 0 ≤ rot_0 j ∧ rot_0 j ≤ 79) (kz_0_31 : 0 ≤ pn_0 ∧ pn_0 ≤ 25) (kz_0_32 : 0 ≤ pm_0 ∧ pm_0 ≤ 80) (ex2 : gx = x2) (ex3 : (-2) ≤ gx ∧ gx ≤ 25) : PN1 (pn_0) (pm_0) (pt_0) (ph_0) (alive_0) (rotMany_0) (rot_0) (x4) := by
  have h := apn_2 (x := x3) (y := x4) (by assumption) (by omega) (by assumption)
  exact pn1_of ‹GR1 _ _ _ _ _ _ _ _›.1 (by omega) h.1 h.2.1 h.2.2
set_option maxHeartbeats 4000000 in
theorem vc_Mo_grid_4_6 (x2 : Int) (x3 : Int) (x4 : Int) (x5 : Int) (pn_0 : Int) (pt_0 : Int → Int) (ph_0 : Int → Int) (pm_0 : Int) (alive_0 : Int → Int) (rotMany_0 : Int → Int) (rot_0 : Int → Int) (gx : Int) (k2 : (-2) ≤ x2 ∧ x2 ≤ 25) (k3 : 0 ≤ x3 ∧ x3 ≤ 24) (k4 : 0 ≤ x4 ∧ x4 ≤ 24) (k5 : 0 ≤ x5 ∧ x5 ≤ 0) (f0 : 1 ≤ pn_0) (f1 : GOK (pn_0) (pm_0) (pt_0) (ph_0)) (f2 : 3 ≤ pn_0) (f3 : pn_0 ≤ 24) (f4 : GR1 (pn_0) (pm_0) (pt_0) (ph_0) (alive_0) (rotMany_0) (rot_0) (x2)) (f5 : APN (pn_0) (pm_0) (pt_0) (ph_0) (alive_0) (x3)) (f6 : APN (pn_0) (pm_0) (pt_0) (ph_0) (alive_0) (x4)) (f8 : 0 ≤ x3) (hK_0_33 : ∀ j : Int, 0 ≤ j → j < 80 → 0 ≤ pt_0 j ∧ pt_0 j ≤ 24) (hK_0_34 : ∀ j : Int, 0 ≤ j → j < 80 → 0 ≤ ph_0 j ∧ ph_0 j ≤ 24) (hK_0_35 : ∀ j : Int, 0 ≤ j → j < 80 → 0 ≤ alive_0 j ∧ alive_0 j ≤ 1) (hK_0_36 : ∀ j : Int, 0 ≤ j → j < 26 → 0 ≤ rotMany_0 j ∧ rotMany_0 j ≤ 80) (hK_0_37 : ∀ j : Int, 0 ≤ j → j < 2080 → 0 ≤ rot_0 j ∧ rot_0 j ≤ 79) (kz_0_31 : 0 ≤ pn_0 ∧ pn_0 ≤ 25) (kz_0_32 : 0 ≤ pm_0 ∧ pm_0 ≤ 80) (ex2 : gx = x2) (ex3 : (-2) ≤ gx ∧ gx ≤ 25) : UNA (pn_0) (pm_0) (pt_0) (ph_0) (alive_0) (gx) := by
  rw [ex2]; exact ‹GR1 _ _ _ _ _ _ _ _›.2.2
def o_Mo_grid_4 : or_T := (36, 6, [(0, (2, 0, 0, [150])), (2, (0, -2, 25, [])), (3, (0, 0, 24, [])), (4, (0, 0, 24, [])), (5, (0, 0, 0, []))], [(20, [0], [50, 1, 0, 31, 0, 2, 0, 1, 2, 0, 31]), (20, [0], [60, 2, 2, 0, 31, 32, 33, 34]), (20, [0], [50, 1, 0, 31, 0, 2, 0, 3, 2, 0, 31]), (20, [0], [50, 1, 0, 31, 0, 3, 2, 0, 31, 0, 24]), (20, [0, 2], [60, 2, 5, 186, 31, 32, 33, 34, 35, 36, 37]), (20, [0, 3], [60, 2, 3, 189, 31, 32, 33, 34, 35]), (20, [0, 4], [60, 2, 3, 189, 31, 32, 33, 34, 35]), (102, [3], [1496577676626844588240573268701473812127674924007424]), (8, [3], [3])], [], [(0, -2, 25, [])], [(20, [5], [50, 0, 0, 1, 2, 1, 0, 0, 0]), (23, [6, 2], [0, 1, -1]), (23, [6, 2], [0, -1, 1]), (20, [0], [50, 1, 0, 32, 0, 3, 2, 0, 32, 0, 79]), (20, [5], [50, 0, 0, 1, 2, 1, 0, 0, 0]), (20, [0, 4], [60, 2, 5, 169, 31, 32, 33, 34, 35, 36, 37]), (20, [0, 6], [60, 2, 3, 190, 31, 32, 33, 34, 35])], [], [])
theorem oo_Mo_grid_4 {kA : Nat → ClassId} : or_ok PRD kA GG o_Mo_grid_4 := by
  intro A ta ws vs hD hth hl hk hds hf
  have hl : vs.length = 6 := hl
  have hk : ∀ q ∈ ([(0, (2, 0, 0, [150])), (2, (0, -2, 25, [])), (3, (0, 0, 24, [])), (4, (0, 0, 24, [])), (5, (0, 0, 0, []))] : List (Nat × tv_T)), tv_ok ta q.2 (n_v vs q.1) := hk
  obtain ⟨t0, hk⟩ := List.forall_mem_cons.mp hk
  have t0 : tv_ok ta (2, 0, 0, [150]) (n_v vs 0) := t0
  have r0 : ta (v_ad (n_v vs 0)) = some 150 := tv_rg t0
  obtain ⟨t2, hk⟩ := List.forall_mem_cons.mp hk
  have t2 : tv_ok ta (0, -2, 25, []) (n_v vs 2) := t2
  have k2 : (-2) ≤ v_iv (n_v vs 2) ∧ v_iv (n_v vs 2) ≤ 25 := tv_rng t2
  obtain ⟨t3, hk⟩ := List.forall_mem_cons.mp hk
  have t3 : tv_ok ta (0, 0, 24, []) (n_v vs 3) := t3
  have k3 : 0 ≤ v_iv (n_v vs 3) ∧ v_iv (n_v vs 3) ≤ 24 := tv_rng t3
  obtain ⟨t4, hk⟩ := List.forall_mem_cons.mp hk
  have t4 : tv_ok ta (0, 0, 24, []) (n_v vs 4) := t4
  have k4 : 0 ≤ v_iv (n_v vs 4) ∧ v_iv (n_v vs 4) ≤ 24 := tv_rng t4
  obtain ⟨t5, hk⟩ := List.forall_mem_cons.mp hk
  have t5 : tv_ok ta (0, 0, 0, []) (n_v vs 5) := t5
  have k5 : 0 ≤ v_iv (n_v vs 5) ∧ v_iv (n_v vs 5) ≤ 0 := tv_rng t5
  have hf : fc_ok PRD [(20, [0], [50, 1, 0, 31, 0, 2, 0, 1, 2, 0, 31]), (20, [0], [60, 2, 2, 0, 31, 32, 33, 34]), (20, [0], [50, 1, 0, 31, 0, 2, 0, 3, 2, 0, 31]), (20, [0], [50, 1, 0, 31, 0, 3, 2, 0, 31, 0, 24]), (20, [0, 2], [60, 2, 5, 186, 31, 32, 33, 34, 35, 36, 37]), (20, [0, 3], [60, 2, 3, 189, 31, 32, 33, 34, 35]), (20, [0, 4], [60, 2, 3, 189, 31, 32, 33, 34, 35]), (102, [3], [1496577676626844588240573268701473812127674924007424]), (8, [3], [3])] ta ws vs := hf
  obtain ⟨f0, hf⟩ := fc_un (show (20 : Nat) < 100 from by decide) hf
  have f0 : 1 ≤ w_fi ws (n_v vs 0) 31 := f0
  obtain ⟨f1, hf⟩ := fc_un (show (20 : Nat) < 100 from by decide) hf
  have f1 : GOK (w_fi ws (n_v vs 0) 31) (w_fi ws (n_v vs 0) 32) (w_ei ws (w_ar ws (n_v vs 0) 33)) (w_ei ws (w_ar ws (n_v vs 0) 34)) := f1
  obtain ⟨f2, hf⟩ := fc_un (show (20 : Nat) < 100 from by decide) hf
  have f2 : 3 ≤ w_fi ws (n_v vs 0) 31 := f2
  obtain ⟨f3, hf⟩ := fc_un (show (20 : Nat) < 100 from by decide) hf
  have f3 : w_fi ws (n_v vs 0) 31 ≤ 24 := f3
  obtain ⟨f4, hf⟩ := fc_un (show (20 : Nat) < 100 from by decide) hf
  have f4 : GR1 (w_fi ws (n_v vs 0) 31) (w_fi ws (n_v vs 0) 32) (w_ei ws (w_ar ws (n_v vs 0) 33)) (w_ei ws (w_ar ws (n_v vs 0) 34)) (w_ei ws (w_ar ws (n_v vs 0) 35)) (w_ei ws (w_ar ws (n_v vs 0) 36)) (w_ei ws (w_ar ws (n_v vs 0) 37)) (v_iv (n_v vs 2)) := f4
  obtain ⟨f5, hf⟩ := fc_un (show (20 : Nat) < 100 from by decide) hf
  have f5 : APN (w_fi ws (n_v vs 0) 31) (w_fi ws (n_v vs 0) 32) (w_ei ws (w_ar ws (n_v vs 0) 33)) (w_ei ws (w_ar ws (n_v vs 0) 34)) (w_ei ws (w_ar ws (n_v vs 0) 35)) (v_iv (n_v vs 3)) := f5
  obtain ⟨f6, hf⟩ := fc_un (show (20 : Nat) < 100 from by decide) hf
  have f6 : APN (w_fi ws (n_v vs 0) 31) (w_fi ws (n_v vs 0) 32) (w_ei ws (w_ar ws (n_v vs 0) 33)) (w_ei ws (w_ar ws (n_v vs 0) 34)) (w_ei ws (w_ar ws (n_v vs 0) 35)) (v_iv (n_v vs 4)) := f6
  obtain ⟨ta1, w1, le1, ⟨_, s1⟩, hf⟩ := fc_us (show ¬ (102 : Nat) < 100 from by decide) hf
  obtain ⟨f8, hf⟩ := fc_un (show (8 : Nat) < 100 from by decide) hf
  have f8 : 0 ≤ v_iv (n_v vs 3) := f8
  have cr_0_33 : ta (w_ar ws (n_v vs 0) 33) = some 165 := tv_rg (th_fd hD hth r0 (g := GG_150) rfl (k := 33) (t := (2, 0, 0, [165])) rfl rfl)
  have cr_0_34 : ta (w_ar ws (n_v vs 0) 34) = some 166 := tv_rg (th_fd hD hth r0 (g := GG_150) rfl (k := 34) (t := (2, 0, 0, [166])) rfl rfl)
  have cr_0_35 : ta (w_ar ws (n_v vs 0) 35) = some 167 := tv_rg (th_fd hD hth r0 (g := GG_150) rfl (k := 35) (t := (2, 0, 0, [167])) rfl rfl)
  have cr_0_36 : ta (w_ar ws (n_v vs 0) 36) = some 168 := tv_rg (th_fd hD hth r0 (g := GG_150) rfl (k := 36) (t := (2, 0, 0, [168])) rfl rfl)
  have cr_0_37 : ta (w_ar ws (n_v vs 0) 37) = some 169 := tv_rg (th_fd hD hth r0 (g := GG_150) rfl (k := 37) (t := (2, 0, 0, [169])) rfl rfl)
  have hK_0_33 : ∀ j : Int, 0 ≤ j → j < 80 → 0 ≤ w_ei ws (w_ar ws (n_v vs 0) 33) j ∧ w_ei ws (w_ar ws (n_v vs 0) 33) j ≤ 24 := fun j h0 h1 => th_el hD hth cr_0_33 (kd := 0) (n := 80) (m := 80) (lo := 0) (hi := 24) (rs := []) (L := []) rfl (by decide) (j := j.toNat) (by omega)
  have hK_0_34 : ∀ j : Int, 0 ≤ j → j < 80 → 0 ≤ w_ei ws (w_ar ws (n_v vs 0) 34) j ∧ w_ei ws (w_ar ws (n_v vs 0) 34) j ≤ 24 := fun j h0 h1 => th_el hD hth cr_0_34 (kd := 0) (n := 80) (m := 80) (lo := 0) (hi := 24) (rs := []) (L := []) rfl (by decide) (j := j.toNat) (by omega)
  have hK_0_35 : ∀ j : Int, 0 ≤ j → j < 80 → 0 ≤ w_ei ws (w_ar ws (n_v vs 0) 35) j ∧ w_ei ws (w_ar ws (n_v vs 0) 35) j ≤ 1 := fun j h0 h1 => th_el hD hth cr_0_35 (kd := 2) (n := 80) (m := 80) (lo := 0) (hi := 1) (rs := []) (L := []) rfl (by decide) (j := j.toNat) (by omega)
  have hK_0_36 : ∀ j : Int, 0 ≤ j → j < 26 → 0 ≤ w_ei ws (w_ar ws (n_v vs 0) 36) j ∧ w_ei ws (w_ar ws (n_v vs 0) 36) j ≤ 80 := fun j h0 h1 => th_el hD hth cr_0_36 (kd := 0) (n := 26) (m := 26) (lo := 0) (hi := 80) (rs := []) (L := []) rfl (by decide) (j := j.toNat) (by omega)
  have hK_0_37 : ∀ j : Int, 0 ≤ j → j < 2080 → 0 ≤ w_ei ws (w_ar ws (n_v vs 0) 37) j ∧ w_ei ws (w_ar ws (n_v vs 0) 37) j ≤ 79 := fun j h0 h1 => th_el hD hth cr_0_37 (kd := 0) (n := 2080) (m := 2080) (lo := 0) (hi := 79) (rs := []) (L := []) rfl (by decide) (j := j.toNat) (by omega)
  have kz_0_31 : 0 ≤ w_fi ws (n_v vs 0) 31 ∧ w_fi ws (n_v vs 0) 31 ≤ 25 := tv_rng (th_fd hD hth r0 (g := GG_150) rfl (k := 31) (t := (0, 0, 25, [])) rfl rfl)
  have kz_0_32 : 0 ≤ w_fi ws (n_v vs 0) 32 ∧ w_fi ws (n_v vs 0) 32 ≤ 80 := tv_rng (th_fd hD hth r0 (g := GG_150) rfl (k := 32) (t := (0, 0, 80, [])) rfl rfl)
  obtain ⟨x, ex, hx⟩ := iv_ex (ta := ta) (lo := (-2)) (hi := 25) (z := v_iv (n_v vs 2)) (by omega) (by omega) (by omega) (by omega)
  have ex2 : v_iv (Value.int x) = v_iv (n_v vs 2) := ex
  have ex3 : (-2) ≤ v_iv (Value.int x) ∧ v_iv (Value.int x) ≤ 25 := tv_rng hx
  have e_0 : n_v (vs ++ [Value.int x]) 0 = n_v vs 0 := n_v_old (by rw [hl]; decide)
  have e_2 : n_v (vs ++ [Value.int x]) 2 = n_v vs 2 := n_v_old (by rw [hl]; decide)
  have e_4 : n_v (vs ++ [Value.int x]) 4 = n_v vs 4 := n_v_old (by rw [hl]; decide)
  have e_5 : n_v (vs ++ [Value.int x]) 5 = n_v vs 5 := n_v_old (by rw [hl]; decide)
  have e_6 : n_v (vs ++ [Value.int x]) 6 = Value.int x := n_v_new hl
  have nf0 : fc_1 PRD (20, [5], [50, 0, 0, 1, 2, 1, 0, 0, 0]) ws (vs ++ [Value.int x]) := by
    refine ⟨fun n hn => ?_, ?_⟩
    · have hn : n ∈ [5] := hn
      rw [List.length_append, hl]
      simp only [List.mem_cons, List.not_mem_nil, or_false] at hn
      show n < 6 + 1; omega
    · show v_iv (n_v (vs ++ [Value.int x]) 5) = 0
      rw [e_5]
      exact vc_Mo_grid_4_0 (v_iv (n_v vs 2)) (v_iv (n_v vs 3)) (v_iv (n_v vs 4)) (v_iv (n_v vs 5)) (w_fi ws (n_v vs 0) 31) (w_ei ws (w_ar ws (n_v vs 0) 33)) (w_ei ws (w_ar ws (n_v vs 0) 34)) (w_fi ws (n_v vs 0) 32) (w_ei ws (w_ar ws (n_v vs 0) 35)) (w_ei ws (w_ar ws (n_v vs 0) 36)) (w_ei ws (w_ar ws (n_v vs 0) 37)) (v_iv (Value.int x)) k2 k3 k4 k5 f0 f1 f2 f3 f4 f5 f6 f8 hK_0_33 hK_0_34 hK_0_35 hK_0_36 hK_0_37 kz_0_31 kz_0_32 ex2 ex3
  have nf1 : fc_1 PRD (23, [6, 2], [0, 1, -1]) ws (vs ++ [Value.int x]) := by
    refine ⟨fun n hn => ?_, ?_⟩
    · have hn : n ∈ [6, 2] := hn
      rw [List.length_append, hl]
      simp only [List.mem_cons, List.not_mem_nil, or_false] at hn
      show n < 6 + 1; omega
    · show 1 * v_iv (n_v (vs ++ [Value.int x]) 6) + ((-1) * v_iv (n_v (vs ++ [Value.int x]) 2) + 0) ≤ 0
      rw [e_2]
      rw [e_6]
      exact vc_Mo_grid_4_1 (v_iv (n_v vs 2)) (v_iv (n_v vs 3)) (v_iv (n_v vs 4)) (v_iv (n_v vs 5)) (w_fi ws (n_v vs 0) 31) (w_ei ws (w_ar ws (n_v vs 0) 33)) (w_ei ws (w_ar ws (n_v vs 0) 34)) (w_fi ws (n_v vs 0) 32) (w_ei ws (w_ar ws (n_v vs 0) 35)) (w_ei ws (w_ar ws (n_v vs 0) 36)) (w_ei ws (w_ar ws (n_v vs 0) 37)) (v_iv (Value.int x)) k2 k3 k4 k5 f0 f1 f2 f3 f4 f5 f6 f8 hK_0_33 hK_0_34 hK_0_35 hK_0_36 hK_0_37 kz_0_31 kz_0_32 ex2 ex3
  have nf2 : fc_1 PRD (23, [6, 2], [0, -1, 1]) ws (vs ++ [Value.int x]) := by
    refine ⟨fun n hn => ?_, ?_⟩
    · have hn : n ∈ [6, 2] := hn
      rw [List.length_append, hl]
      simp only [List.mem_cons, List.not_mem_nil, or_false] at hn
      show n < 6 + 1; omega
    · show (-1) * v_iv (n_v (vs ++ [Value.int x]) 6) + (1 * v_iv (n_v (vs ++ [Value.int x]) 2) + 0) ≤ 0
      rw [e_2]
      rw [e_6]
      exact vc_Mo_grid_4_2 (v_iv (n_v vs 2)) (v_iv (n_v vs 3)) (v_iv (n_v vs 4)) (v_iv (n_v vs 5)) (w_fi ws (n_v vs 0) 31) (w_ei ws (w_ar ws (n_v vs 0) 33)) (w_ei ws (w_ar ws (n_v vs 0) 34)) (w_fi ws (n_v vs 0) 32) (w_ei ws (w_ar ws (n_v vs 0) 35)) (w_ei ws (w_ar ws (n_v vs 0) 36)) (w_ei ws (w_ar ws (n_v vs 0) 37)) (v_iv (Value.int x)) k2 k3 k4 k5 f0 f1 f2 f3 f4 f5 f6 f8 hK_0_33 hK_0_34 hK_0_35 hK_0_36 hK_0_37 kz_0_31 kz_0_32 ex2 ex3
  have nf3 : fc_1 PRD (20, [0], [50, 1, 0, 32, 0, 3, 2, 0, 32, 0, 79]) ws (vs ++ [Value.int x]) := by
    refine ⟨fun n hn => ?_, ?_⟩
    · have hn : n ∈ [0] := hn
      rw [List.length_append, hl]
      simp only [List.mem_cons, List.not_mem_nil, or_false] at hn
      show n < 6 + 1; omega
    · show w_fi ws (n_v (vs ++ [Value.int x]) 0) 32 ≤ 79
      rw [e_0]
      exact vc_Mo_grid_4_3 (v_iv (n_v vs 2)) (v_iv (n_v vs 3)) (v_iv (n_v vs 4)) (v_iv (n_v vs 5)) (w_fi ws (n_v vs 0) 31) (w_ei ws (w_ar ws (n_v vs 0) 33)) (w_ei ws (w_ar ws (n_v vs 0) 34)) (w_fi ws (n_v vs 0) 32) (w_ei ws (w_ar ws (n_v vs 0) 35)) (w_ei ws (w_ar ws (n_v vs 0) 36)) (w_ei ws (w_ar ws (n_v vs 0) 37)) (v_iv (Value.int x)) k2 k3 k4 k5 f0 f1 f2 f3 f4 f5 f6 f8 hK_0_33 hK_0_34 hK_0_35 hK_0_36 hK_0_37 kz_0_31 kz_0_32 ex2 ex3
  have nf4 : fc_1 PRD (20, [5], [50, 0, 0, 1, 2, 1, 0, 0, 0]) ws (vs ++ [Value.int x]) := by
    refine ⟨fun n hn => ?_, ?_⟩
    · have hn : n ∈ [5] := hn
      rw [List.length_append, hl]
      simp only [List.mem_cons, List.not_mem_nil, or_false] at hn
      show n < 6 + 1; omega
    · show v_iv (n_v (vs ++ [Value.int x]) 5) = 0
      rw [e_5]
      exact vc_Mo_grid_4_4 (v_iv (n_v vs 2)) (v_iv (n_v vs 3)) (v_iv (n_v vs 4)) (v_iv (n_v vs 5)) (w_fi ws (n_v vs 0) 31) (w_ei ws (w_ar ws (n_v vs 0) 33)) (w_ei ws (w_ar ws (n_v vs 0) 34)) (w_fi ws (n_v vs 0) 32) (w_ei ws (w_ar ws (n_v vs 0) 35)) (w_ei ws (w_ar ws (n_v vs 0) 36)) (w_ei ws (w_ar ws (n_v vs 0) 37)) (v_iv (Value.int x)) k2 k3 k4 k5 f0 f1 f2 f3 f4 f5 f6 f8 hK_0_33 hK_0_34 hK_0_35 hK_0_36 hK_0_37 kz_0_31 kz_0_32 ex2 ex3
  have nf5 : fc_1 PRD (20, [0, 4], [60, 2, 5, 169, 31, 32, 33, 34, 35, 36, 37]) ws (vs ++ [Value.int x]) := by
    refine ⟨fun n hn => ?_, ?_⟩
    · have hn : n ∈ [0, 4] := hn
      rw [List.length_append, hl]
      simp only [List.mem_cons, List.not_mem_nil, or_false] at hn
      show n < 6 + 1; omega
    · show PN1 (w_fi ws (n_v (vs ++ [Value.int x]) 0) 31) (w_fi ws (n_v (vs ++ [Value.int x]) 0) 32) (w_ei ws (w_ar ws (n_v (vs ++ [Value.int x]) 0) 33)) (w_ei ws (w_ar ws (n_v (vs ++ [Value.int x]) 0) 34)) (w_ei ws (w_ar ws (n_v (vs ++ [Value.int x]) 0) 35)) (w_ei ws (w_ar ws (n_v (vs ++ [Value.int x]) 0) 36)) (w_ei ws (w_ar ws (n_v (vs ++ [Value.int x]) 0) 37)) (v_iv (n_v (vs ++ [Value.int x]) 4))
      rw [e_0]
      rw [e_4]
      exact vc_Mo_grid_4_5 (v_iv (n_v vs 2)) (v_iv (n_v vs 3)) (v_iv (n_v vs 4)) (v_iv (n_v vs 5)) (w_fi ws (n_v vs 0) 31) (w_ei ws (w_ar ws (n_v vs 0) 33)) (w_ei ws (w_ar ws (n_v vs 0) 34)) (w_fi ws (n_v vs 0) 32) (w_ei ws (w_ar ws (n_v vs 0) 35)) (w_ei ws (w_ar ws (n_v vs 0) 36)) (w_ei ws (w_ar ws (n_v vs 0) 37)) (v_iv (Value.int x)) k2 k3 k4 k5 f0 f1 f2 f3 f4 f5 f6 f8 hK_0_33 hK_0_34 hK_0_35 hK_0_36 hK_0_37 kz_0_31 kz_0_32 ex2 ex3
  have nf6 : fc_1 PRD (20, [0, 6], [60, 2, 3, 190, 31, 32, 33, 34, 35]) ws (vs ++ [Value.int x]) := by
    refine ⟨fun n hn => ?_, ?_⟩
    · have hn : n ∈ [0, 6] := hn
      rw [List.length_append, hl]
      simp only [List.mem_cons, List.not_mem_nil, or_false] at hn
      show n < 6 + 1; omega
    · show UNA (w_fi ws (n_v (vs ++ [Value.int x]) 0) 31) (w_fi ws (n_v (vs ++ [Value.int x]) 0) 32) (w_ei ws (w_ar ws (n_v (vs ++ [Value.int x]) 0) 33)) (w_ei ws (w_ar ws (n_v (vs ++ [Value.int x]) 0) 34)) (w_ei ws (w_ar ws (n_v (vs ++ [Value.int x]) 0) 35)) (v_iv (n_v (vs ++ [Value.int x]) 6))
      rw [e_0]
      rw [e_6]
      exact vc_Mo_grid_4_6 (v_iv (n_v vs 2)) (v_iv (n_v vs 3)) (v_iv (n_v vs 4)) (v_iv (n_v vs 5)) (w_fi ws (n_v vs 0) 31) (w_ei ws (w_ar ws (n_v vs 0) 33)) (w_ei ws (w_ar ws (n_v vs 0) 34)) (w_fi ws (n_v vs 0) 32) (w_ei ws (w_ar ws (n_v vs 0) 35)) (w_ei ws (w_ar ws (n_v vs 0) 36)) (w_ei ws (w_ar ws (n_v vs 0) 37)) (v_iv (Value.int x)) k2 k3 k4 k5 f0 f1 f2 f3 f4 f5 f6 f8 hK_0_33 hK_0_34 hK_0_35 hK_0_36 hK_0_37 kz_0_31 kz_0_32 ex2 ex3
  exact ⟨(fun _ h => (by cases h)), [Value.int x], ag_one hx, List.forall_mem_cons.mpr ⟨⟨show (20 : Nat) < 100 from by decide, nf0⟩, List.forall_mem_cons.mpr ⟨⟨show (23 : Nat) < 100 from by decide, nf1⟩, List.forall_mem_cons.mpr ⟨⟨show (23 : Nat) < 100 from by decide, nf2⟩, List.forall_mem_cons.mpr ⟨⟨show (20 : Nat) < 100 from by decide, nf3⟩, List.forall_mem_cons.mpr ⟨⟨show (20 : Nat) < 100 from by decide, nf4⟩, List.forall_mem_cons.mpr ⟨⟨show (20 : Nat) < 100 from by decide, nf5⟩, List.forall_mem_cons.mpr ⟨⟨show (20 : Nat) < 100 from by decide, nf6⟩, (fun _ h => (by cases h))⟩⟩⟩⟩⟩⟩⟩, (fun _ h => (by cases h))⟩
set_option maxHeartbeats 4000000 in
theorem vc_Mo_grid_5_r0 (x2 : Int) (x4 : Int) (x5 : Int) (x6 : Int) (x7 : Int) (x9 : Int) (x11 : Int) (x12 : Int) (rotMany_0 : Int → Int) (pn_0 : Int) (pt_0 : Int → Int) (ph_0 : Int → Int) (alive_0 : Int → Int) (rot_0 : Int → Int) (pm_0 : Int) (gx : Int) (k2 : (-2) ≤ x2 ∧ x2 ≤ 25) (k4 : 0 ≤ x4 ∧ x4 ≤ 24) (k5 : 0 ≤ x5 ∧ x5 ≤ 0) (k6 : (-2) ≤ x6 ∧ x6 ≤ 25) (k7 : 0 ≤ x7 ∧ x7 ≤ 79) (k9 : 0 ≤ x9 ∧ x9 ≤ 0) (k11 : 0 ≤ x11 ∧ x11 ≤ 0) (k12 : 0 ≤ x12 ∧ x12 ≤ 80) (h0 : x12 = rotMany_0 (x11)) (f2 : x5 = 0) (f3 : 1 * x6 + ((-1) * x2 + 0) ≤ 0) (f4 : (-1) * x6 + (1 * x2 + 0) ≤ 0) (f5 : x5 = 0) (f6 : 1 ≤ pn_0) (f7 : 3 ≤ pn_0) (f8 : pn_0 ≤ 24) (f9 : PUa (pn_0) (pm_0) (pt_0) (ph_0) (alive_0) (rotMany_0) (rot_0) (x4) (x7)) (f10 : GLU (pn_0) (pm_0) (pt_0) (ph_0) (alive_0) (x4)) (f11 : UNP (pn_0) (pm_0) (pt_0) (ph_0) (alive_0) (x6)) (f13 : 1 * x6 + ((-1) * x2 + 0) ≤ 0) (f14 : (-1) * x6 + (1 * x2 + 0) ≤ 0) (hK_0_33 : ∀ j : Int, 0 ≤ j → j < 80 → 0 ≤ pt_0 j ∧ pt_0 j ≤ 24) (hK_0_34 : ∀ j : Int, 0 ≤ j → j < 80 → 0 ≤ ph_0 j ∧ ph_0 j ≤ 24) (hK_0_35 : ∀ j : Int, 0 ≤ j → j < 80 → 0 ≤ alive_0 j ∧ alive_0 j ≤ 1) (hK_0_36 : ∀ j : Int, 0 ≤ j → j < 26 → 0 ≤ rotMany_0 j ∧ rotMany_0 j ≤ 80) (hK_0_37 : ∀ j : Int, 0 ≤ j → j < 2080 → 0 ≤ rot_0 j ∧ rot_0 j ≤ 79) (kz_0_31 : 0 ≤ pn_0 ∧ pn_0 ≤ 25) (kz_0_32 : 0 ≤ pm_0 ∧ pm_0 ≤ 80) (ex2 : gx = x4) (ex3 : 0 ≤ gx ∧ gx ≤ 24) : 0 ≤ x12 ∧ x12 ≤ 79 := by
  first
    | omega
    | (have h := pax_len (⟨Or.inl rfl, ‹PUa _ _ _ _ _ _ _ _ _›, fun _ => ⟨rfl, rfl⟩, fun z => by omega, fun z => by omega, fun z => by omega⟩ : PAX 1 _ _ _ _ _ rotMany_0 _ 0 _ (rotMany_0 0) 0 _ 0 0)
       rw [show x12 = rotMany_0 0 by rw [show (0 : Int) = x11 by omega]; assumption]
       omega)
set_option maxHeartbeats 4000000 in
theorem vc_Mo_grid_5_0 (x2 : Int) (x4 : Int) (x5 : Int) (x6 : Int) (x7 : Int) (x9 : Int) (x11 : Int) (x12 : Int) (rotMany_0 : Int → Int) (pn_0 : Int) (pt_0 : Int → Int) (ph_0 : Int → Int) (alive_0 : Int → Int) (rot_0 : Int → Int) (pm_0 : Int) (gx : Int) (k2 : (-2) ≤ x2 ∧ x2 ≤ 25) (k4 : 0 ≤ x4 ∧ x4 ≤ 24) (k5 : 0 ≤ x5 ∧ x5 ≤ 0) (k6 : (-2) ≤ x6 ∧ x6 ≤ 25) (k7 : 0 ≤ x7 ∧ x7 ≤ 79) (k9 : 0 ≤ x9 ∧ x9 ≤ 0) (k11 : 0 ≤ x11 ∧ x11 ≤ 0) (k12 : 0 ≤ x12 ∧ x12 ≤ 80) (h0 : x12 = rotMany_0 (x11)) (f2 : x5 = 0) (f3 : 1 * x6 + ((-1) * x2 + 0) ≤ 0) (f4 : (-1) * x6 + (1 * x2 + 0) ≤ 0) (f5 : x5 = 0) (f6 : 1 ≤ pn_0) (f7 : 3 ≤ pn_0) (f8 : pn_0 ≤ 24) (f9 : PUa (pn_0) (pm_0) (pt_0) (ph_0) (alive_0) (rotMany_0) (rot_0) (x4) (x7)) (f10 : GLU (pn_0) (pm_0) (pt_0) (ph_0) (alive_0) (x4)) (f11 : UNP (pn_0) (pm_0) (pt_0) (ph_0) (alive_0) (x6)) (f13 : 1 * x6 + ((-1) * x2 + 0) ≤ 0) (f14 : (-1) * x6 + (1 * x2 + 0) ≤ 0) (hK_0_33 : ∀ j : Int, 0 ≤ j → j < 80 → 0 ≤ pt_0 j ∧ pt_0 j ≤ 24) (hK_0_34 : ∀ j : Int, 0 ≤ j → j < 80 → 0 ≤ ph_0 j ∧ ph_0 j ≤ 24) (hK_0_35 : ∀ j : Int, 0 ≤ j → j < 80 → 0 ≤ alive_0 j ∧ alive_0 j ≤ 1) (hK_0_36 : ∀ j : Int, 0 ≤ j → j < 26 → 0 ≤ rotMany_0 j ∧ rotMany_0 j ≤ 80) (hK_0_37 : ∀ j : Int, 0 ≤ j → j < 2080 → 0 ≤ rot_0 j ∧ rot_0 j ≤ 79) (kz_0_31 : 0 ≤ pn_0 ∧ pn_0 ≤ 25) (kz_0_32 : 0 ≤ pm_0 ∧ pm_0 ≤ 80) (ex2 : gx = x4) (ex3 : 0 ≤ gx ∧ gx ≤ 24) : 1 * gx + ((-1) * x4 + 0) ≤ 0 := by
  first
    | omega
    | (have h := pax_len (⟨Or.inl rfl, ‹PUa _ _ _ _ _ _ _ _ _›, fun _ => ⟨rfl, rfl⟩, fun z => by omega, fun z => by omega, fun z => by omega⟩ : PAX 1 _ _ _ _ _ rotMany_0 _ 0 _ (rotMany_0 0) 0 _ 0 0)
       rw [show x12 = rotMany_0 0 by rw [show (0 : Int) = x11 by omega]; assumption]
       omega)
set_option maxHeartbeats 4000000 in
theorem vc_Mo_grid_5_1 (x2 : Int) (x4 : Int) (x5 : Int) (x6 : Int) (x7 : Int) (x9 : Int) (x11 : Int) (x12 : Int) (rotMany_0 : Int → Int) (pn_0 : Int) (pt_0 : Int → Int) (ph_0 : Int → Int) (alive_0 : Int → Int) (rot_0 : Int → Int) (pm_0 : Int) (gx : Int) (k2 : (-2) ≤ x2 ∧ x2 ≤ 25) (k4 : 0 ≤ x4 ∧ x4 ≤ 24) (k5 : 0 ≤ x5 ∧ x5 ≤ 0) (k6 : (-2) ≤ x6 ∧ x6 ≤ 25) (k7 : 0 ≤ x7 ∧ x7 ≤ 79) (k9 : 0 ≤ x9 ∧ x9 ≤ 0) (k11 : 0 ≤ x11 ∧ x11 ≤ 0) (k12 : 0 ≤ x12 ∧ x12 ≤ 80) (h0 : x12 = rotMany_0 (x11)) (f2 : x5 = 0) (f3 : 1 * x6 + ((-1) * x2 + 0) ≤ 0) (f4 : (-1) * x6 + (1 * x2 + 0) ≤ 0) (f5 : x5 = 0) (f6 : 1 ≤ pn_0) (f7 : 3 ≤ pn_0) (f8 : pn_0 ≤ 24) (f9 : PUa (pn_0) (pm_0) (pt_0) (ph_0) (alive_0) (rotMany_0) (rot_0) (x4) (x7)) (f10 : GLU (pn_0) (pm_0) (pt_0) (ph_0) (alive_0) (x4)) (f11 : UNP (pn_0) (pm_0) (pt_0) (ph_0) (alive_0) (x6)) (f13 : 1 * x6 + ((-1) * x2 + 0) ≤ 0) (f14 : (-1) * x6 + (1 * x2 + 0) ≤ 0) (hK_0_33 : ∀ j : Int, 0 ≤ j → j < 80 → 0 ≤ pt_0 j ∧ pt_0 j ≤ 24) (hK_0_34 : ∀ j : Int, 0 ≤ j → j < 80 → 0 ≤ ph_0 j ∧ ph_0 j ≤ 24) (hK_0_35 : ∀ j : Int, 0 ≤ j → j < 80 → 0 ≤ alive_0 j ∧ alive_0 j ≤ 1) (hK_0_36 : ∀ j : Int, 0 ≤ j → j < 26 → 0 ≤ rotMany_0 j ∧ rotMany_0 j ≤ 80) (hK_0_37 : ∀ j : Int, 0 ≤ j → j < 2080 → 0 ≤ rot_0 j ∧ rot_0 j ≤ 79) (kz_0_31 : 0 ≤ pn_0 ∧ pn_0 ≤ 25) (kz_0_32 : 0 ≤ pm_0 ∧ pm_0 ≤ 80) (ex2 : gx = x4) (ex3 : 0 ≤ gx ∧ gx ≤ 24) : (-1) * gx + (1 * x4 + 0) ≤ 0 := by
  first
    | omega
    | (have h := pax_len (⟨Or.inl rfl, ‹PUa _ _ _ _ _ _ _ _ _›, fun _ => ⟨rfl, rfl⟩, fun z => by omega, fun z => by omega, fun z => by omega⟩ : PAX 1 _ _ _ _ _ rotMany_0 _ 0 _ (rotMany_0 0) 0 _ 0 0)
       rw [show x12 = rotMany_0 0 by rw [show (0 : Int) = x11 by omega]; assumption]
       omega)
set_option maxHeartbeats 4000000 in
theorem vc_Mo_grid_5_2 (x2 : Int) (x4 : Int) (x5 : Int) (x6 : Int) (x7 : Int) (x9 : Int) (x11 : Int) (x12 : Int) (rotMany_0 : Int → Int) (pn_0 : Int) (pt_0 : Int → Int) (ph_0 : Int → Int) (alive_0 : Int → Int) (rot_0 : Int → Int) (pm_0 : Int) (gx : Int) (k2 : (-2) ≤ x2 ∧ x2 ≤ 25) (k4 : 0 ≤ x4 ∧ x4 ≤ 24) (k5 : 0 ≤ x5 ∧ x5 ≤ 0) (k6 : (-2) ≤ x6 ∧ x6 ≤ 25) (k7 : 0 ≤ x7 ∧ x7 ≤ 79) (k9 : 0 ≤ x9 ∧ x9 ≤ 0) (k11 : 0 ≤ x11 ∧ x11 ≤ 0) (k12 : 0 ≤ x12 ∧ x12 ≤ 80) (h0 : x12 = rotMany_0 (x11)) (f2 : x5 = 0) (f3 : 1 * x6 + ((-1) * x2 + 0) ≤ 0) (f4 : (-1) * x6 + (1 * x2 + 0) ≤ 0) (f5 : x5 = 0) (f6 : 1 ≤ pn_0) (f7 : 3 ≤ pn_0) (f8 : pn_0 ≤ 24) (f9 : PUa (pn_0) (pm_0) (pt_0) (ph_0) (alive_0) (rotMany_0) (rot_0) (x4) (x7)) (f10 : GLU (pn_0) (pm_0) (pt_0) (ph_0) (alive_0) (x4)) (f11 : UNP (pn_0) (pm_0) (pt_0) (ph_0) (alive_0) (x6)) (f13 : 1 * x6 + ((-1) * x2 + 0) ≤ 0) (f14 : (-1) * x6 + (1 * x2 + 0) ≤ 0) (hK_0_33 : ∀ j : Int, 0 ≤ j → j < 80 → 0 ≤ pt_0 j ∧ pt_0 j ≤ 24) (hK_0_34 : ∀ j : Int, 0 ≤ j → j < 80 → 0 ≤ ph_0 j ∧ ph_0 j ≤ 24) (hK_0_35 : ∀ j : Int, 0 ≤ j → j < 80 → 0 ≤ alive_0 j ∧ alive_0 j ≤ 1) (hK_0_36 : ∀ j : Int, 0 ≤ j → j < 26 → 0 ≤ rotMany_0 j ∧ rotMany_0 j ≤ 80) (hK_0_37 : ∀ j : Int, 0 ≤ j → j < 2080 → 0 ≤ rot_0 j ∧ rot_0 j ≤ 79) (kz_0_31 : 0 ≤ pn_0 ∧ pn_0 ≤ 25) (kz_0_32 : 0 ≤ pm_0 ∧ pm_0 ≤ 80) (ex2 : gx = x4) (ex3 : 0 ≤ gx ∧ gx ≤ 24) : PAa (pn_0) (pm_0) (pt_0) (ph_0) (alive_0) (rotMany_0) (rot_0) (x9) (x7) (x12) (gx) := by
  rw [ex2]
  exact ⟨Or.inl rfl, ‹PUa _ _ _ _ _ _ _ _ _›, fun _ => ⟨by omega, by rw [show x9 = x11 by omega]; assumption⟩, fun z => by omega, fun z => by omega, fun z => by omega⟩
def o_Mo_grid_5 : or_T := (49, 13, [(0, (2, 0, 0, [150])), (2, (0, -2, 25, [])), (4, (0, 0, 24, [])), (5, (0, 0, 0, [])), (6, (0, -2, 25, [])), (7, (0, 0, 79, [])), (9, (0, 0, 0, [])), (10, (2, 0, 0, [168])), (11, (0, 0, 0, [])), (12, (0, 0, 80, []))], [(10, [12, 10, 11], []), (9, [10, 0], [36]), (20, [5], [50, 0, 0, 1, 2, 1, 0, 0, 0]), (23, [6, 2], [0, 1, -1]), (23, [6, 2], [0, -1, 1]), (20, [5], [50, 0, 0, 1, 2, 1, 0, 0, 0]), (20, [0], [50, 1, 0, 31, 0, 2, 0, 1, 2, 0, 31]), (20, [0], [50, 1, 0, 31, 0, 2, 0, 3, 2, 0, 31]), (20, [0], [50, 1, 0, 31, 0, 3, 2, 0, 31, 0, 24]), (20, [0, 4, 7], [60, 2, 5, 171, 31, 32, 33, 34, 35, 36, 37]), (20, [0, 4], [60, 2, 3, 192, 31, 32, 33, 34, 35]), (20, [0, 6], [60, 2, 3, 191, 31, 32, 33, 34, 35]), (102, [6], [327376366762122253677625402528447396402928889626624, 13032]), (23, [6, 2], [0, 1, -1]), (23, [6, 2], [0, -1, 1])], [(12, (0, 0, 79, []))], [(0, 0, 24, [])], [(23, [13, 4], [0, 1, -1]), (23, [13, 4], [0, -1, 1]), (20, [0, 9, 7, 12, 13], [60, 2, 5, 175, 31, 32, 33, 34, 35, 36, 37])], [], [])
theorem oo_Mo_grid_5 {kA : Nat → ClassId} : or_ok PRD kA GG o_Mo_grid_5 := by
  intro A ta ws vs hD hth hl hk hds hf
  have hl : vs.length = 13 := hl
  have hk : ∀ q ∈ ([(0, (2, 0, 0, [150])), (2, (0, -2, 25, [])), (4, (0, 0, 24, [])), (5, (0, 0, 0, [])), (6, (0, -2, 25, [])), (7, (0, 0, 79, [])), (9, (0, 0, 0, [])), (10, (2, 0, 0, [168])), (11, (0, 0, 0, [])), (12, (0, 0, 80, []))] : List (Nat × tv_T)), tv_ok ta q.2 (n_v vs q.1) := hk
  obtain ⟨t0, hk⟩ := List.forall_mem_cons.mp hk
  have t0 : tv_ok ta (2, 0, 0, [150]) (n_v vs 0) := t0
  have r0 : ta (v_ad (n_v vs 0)) = some 150 := tv_rg t0
  obtain ⟨t2, hk⟩ := List.forall_mem_cons.mp hk
  have t2 : tv_ok ta (0, -2, 25, []) (n_v vs 2) := t2
  have k2 : (-2) ≤ v_iv (n_v vs 2) ∧ v_iv (n_v vs 2) ≤ 25 := tv_rng t2
  obtain ⟨t4, hk⟩ := List.forall_mem_cons.mp hk
  have t4 : tv_ok ta (0, 0, 24, []) (n_v vs 4) := t4
  have k4 : 0 ≤ v_iv (n_v vs 4) ∧ v_iv (n_v vs 4) ≤ 24 := tv_rng t4
  obtain ⟨t5, hk⟩ := List.forall_mem_cons.mp hk
  have t5 : tv_ok ta (0, 0, 0, []) (n_v vs 5) := t5
  have k5 : 0 ≤ v_iv (n_v vs 5) ∧ v_iv (n_v vs 5) ≤ 0 := tv_rng t5
  obtain ⟨t6, hk⟩ := List.forall_mem_cons.mp hk
  have t6 : tv_ok ta (0, -2, 25, []) (n_v vs 6) := t6
  have k6 : (-2) ≤ v_iv (n_v vs 6) ∧ v_iv (n_v vs 6) ≤ 25 := tv_rng t6
  obtain ⟨t7, hk⟩ := List.forall_mem_cons.mp hk
  have t7 : tv_ok ta (0, 0, 79, []) (n_v vs 7) := t7
  have k7 : 0 ≤ v_iv (n_v vs 7) ∧ v_iv (n_v vs 7) ≤ 79 := tv_rng t7
  obtain ⟨t9, hk⟩ := List.forall_mem_cons.mp hk
  have t9 : tv_ok ta (0, 0, 0, []) (n_v vs 9) := t9
  have k9 : 0 ≤ v_iv (n_v vs 9) ∧ v_iv (n_v vs 9) ≤ 0 := tv_rng t9
  obtain ⟨t10, hk⟩ := List.forall_mem_cons.mp hk
  have t10 : tv_ok ta (2, 0, 0, [168]) (n_v vs 10) := t10
  have r10 : ta (v_ad (n_v vs 10)) = some 168 := tv_rg t10
  obtain ⟨t11, hk⟩ := List.forall_mem_cons.mp hk
  have t11 : tv_ok ta (0, 0, 0, []) (n_v vs 11) := t11
  have k11 : 0 ≤ v_iv (n_v vs 11) ∧ v_iv (n_v vs 11) ≤ 0 := tv_rng t11
  obtain ⟨t12, hk⟩ := List.forall_mem_cons.mp hk
  have t12 : tv_ok ta (0, 0, 80, []) (n_v vs 12) := t12
  have k12 : 0 ≤ v_iv (n_v vs 12) ∧ v_iv (n_v vs 12) ≤ 80 := tv_rng t12
  have hf : fc_ok PRD [(10, [12, 10, 11], []), (9, [10, 0], [36]), (20, [5], [50, 0, 0, 1, 2, 1, 0, 0, 0]), (23, [6, 2], [0, 1, -1]), (23, [6, 2], [0, -1, 1]), (20, [5], [50, 0, 0, 1, 2, 1, 0, 0, 0]), (20, [0], [50, 1, 0, 31, 0, 2, 0, 1, 2, 0, 31]), (20, [0], [50, 1, 0, 31, 0, 2, 0, 3, 2, 0, 31]), (20, [0], [50, 1, 0, 31, 0, 3, 2, 0, 31, 0, 24]), (20, [0, 4, 7], [60, 2, 5, 171, 31, 32, 33, 34, 35, 36, 37]), (20, [0, 4], [60, 2, 3, 192, 31, 32, 33, 34, 35]), (20, [0, 6], [60, 2, 3, 191, 31, 32, 33, 34, 35]), (102, [6], [327376366762122253677625402528447396402928889626624, 13032]), (23, [6, 2], [0, 1, -1]), (23, [6, 2], [0, -1, 1])] ta ws vs := hf
  obtain ⟨f0, hf⟩ := fc_un (show (10 : Nat) < 100 from by decide) hf
  have f0 : v_iv (n_v vs 12) = w_el ws (v_ad (n_v vs 10)) (v_iv (n_v vs 11)).toNat := f0
  obtain ⟨f1, hf⟩ := fc_un (show (9 : Nat) < 100 from by decide) hf
  have f1 : n_v vs 10 = w_fd ws (v_ad (n_v vs 0)) 36 := f1
  obtain ⟨f2, hf⟩ := fc_un (show (20 : Nat) < 100 from by decide) hf
  have f2 : v_iv (n_v vs 5) = 0 := f2
  obtain ⟨f3, hf⟩ := fc_un (show (23 : Nat) < 100 from by decide) hf
  have f3 : 1 * v_iv (n_v vs 6) + ((-1) * v_iv (n_v vs 2) + 0) ≤ 0 := f3
  obtain ⟨f4, hf⟩ := fc_un (show (23 : Nat) < 100 from by decide) hf
  have f4 : (-1) * v_iv (n_v vs 6) + (1 * v_iv (n_v vs 2) + 0) ≤ 0 := f4
  obtain ⟨f5, hf⟩ := fc_un (show (20 : Nat) < 100 from by decide) hf
  have f5 : v_iv (n_v vs 5) = 0 := f5
  obtain ⟨f6, hf⟩ := fc_un (show (20 : Nat) < 100 from by decide) hf
  have f6 : 1 ≤ w_fi ws (n_v vs 0) 31 := f6
  obtain ⟨f7, hf⟩ := fc_un (show (20 : Nat) < 100 from by decide) hf
  have f7 : 3 ≤ w_fi ws (n_v vs 0) 31 := f7
  obtain ⟨f8, hf⟩ := fc_un (show (20 : Nat) < 100 from by decide) hf
  have f8 : w_fi ws (n_v vs 0) 31 ≤ 24 := f8
  obtain ⟨f9, hf⟩ := fc_un (show (20 : Nat) < 100 from by decide) hf
  have f9 : PUa (w_fi ws (n_v vs 0) 31) (w_fi ws (n_v vs 0) 32) (w_ei ws (w_ar ws (n_v vs 0) 33)) (w_ei ws (w_ar ws (n_v vs 0) 34)) (w_ei ws (w_ar ws (n_v vs 0) 35)) (w_ei ws (w_ar ws (n_v vs 0) 36)) (w_ei ws (w_ar ws (n_v vs 0) 37)) (v_iv (n_v vs 4)) (v_iv (n_v vs 7)) := f9
  obtain ⟨f10, hf⟩ := fc_un (show (20 : Nat) < 100 from by decide) hf
  have f10 : GLU (w_fi ws (n_v vs 0) 31) (w_fi ws (n_v vs 0) 32) (w_ei ws (w_ar ws (n_v vs 0) 33)) (w_ei ws (w_ar ws (n_v vs 0) 34)) (w_ei ws (w_ar ws (n_v vs 0) 35)) (v_iv (n_v vs 4)) := f10
  obtain ⟨f11, hf⟩ := fc_un (show (20 : Nat) < 100 from by decide) hf
  have f11 : UNP (w_fi ws (n_v vs 0) 31) (w_fi ws (n_v vs 0) 32) (w_ei ws (w_ar ws (n_v vs 0) 33)) (w_ei ws (w_ar ws (n_v vs 0) 34)) (w_ei ws (w_ar ws (n_v vs 0) 35)) (v_iv (n_v vs 6)) := f11
  obtain ⟨ta1, w1, le1, ⟨_, s1⟩, hf⟩ := fc_us (show ¬ (102 : Nat) < 100 from by decide) hf
  obtain ⟨f13, hf⟩ := fc_un (show (23 : Nat) < 100 from by decide) hf
  have f13 : 1 * v_iv (n_v vs 6) + ((-1) * v_iv (n_v vs 2) + 0) ≤ 0 := f13
  obtain ⟨f14, hf⟩ := fc_un (show (23 : Nat) < 100 from by decide) hf
  have f14 : (-1) * v_iv (n_v vs 6) + (1 * v_iv (n_v vs 2) + 0) ≤ 0 := f14
  have cr_0_33 : ta (w_ar ws (n_v vs 0) 33) = some 165 := tv_rg (th_fd hD hth r0 (g := GG_150) rfl (k := 33) (t := (2, 0, 0, [165])) rfl rfl)
  have cr_0_34 : ta (w_ar ws (n_v vs 0) 34) = some 166 := tv_rg (th_fd hD hth r0 (g := GG_150) rfl (k := 34) (t := (2, 0, 0, [166])) rfl rfl)
  have cr_0_35 : ta (w_ar ws (n_v vs 0) 35) = some 167 := tv_rg (th_fd hD hth r0 (g := GG_150) rfl (k := 35) (t := (2, 0, 0, [167])) rfl rfl)
  have cr_0_36 : ta (w_ar ws (n_v vs 0) 36) = some 168 := tv_rg (th_fd hD hth r0 (g := GG_150) rfl (k := 36) (t := (2, 0, 0, [168])) rfl rfl)
  have cr_0_37 : ta (w_ar ws (n_v vs 0) 37) = some 169 := tv_rg (th_fd hD hth r0 (g := GG_150) rfl (k := 37) (t := (2, 0, 0, [169])) rfl rfl)
  have ad_10 : v_ad (n_v vs 10) = w_ar ws (n_v vs 0) 36 := congrArg v_ad f1
  rw [ad_10] at f0
  have h0 : v_iv (n_v vs 12) = w_ei ws (w_ar ws (n_v vs 0) 36) (v_iv (n_v vs 11)) := f0
  have hK_0_33 : ∀ j : Int, 0 ≤ j → j < 80 → 0 ≤ w_ei ws (w_ar ws (n_v vs 0) 33) j ∧ w_ei ws (w_ar ws (n_v vs 0) 33) j ≤ 24 := fun j h0 h1 => th_el hD hth cr_0_33 (kd := 0) (n := 80) (m := 80) (lo := 0) (hi := 24) (rs := []) (L := []) rfl (by decide) (j := j.toNat) (by omega)
  have hK_0_34 : ∀ j : Int, 0 ≤ j → j < 80 → 0 ≤ w_ei ws (w_ar ws (n_v vs 0) 34) j ∧ w_ei ws (w_ar ws (n_v vs 0) 34) j ≤ 24 := fun j h0 h1 => th_el hD hth cr_0_34 (kd := 0) (n := 80) (m := 80) (lo := 0) (hi := 24) (rs := []) (L := []) rfl (by decide) (j := j.toNat) (by omega)
  have hK_0_35 : ∀ j : Int, 0 ≤ j → j < 80 → 0 ≤ w_ei ws (w_ar ws (n_v vs 0) 35) j ∧ w_ei ws (w_ar ws (n_v vs 0) 35) j ≤ 1 := fun j h0 h1 => th_el hD hth cr_0_35 (kd := 2) (n := 80) (m := 80) (lo := 0) (hi := 1) (rs := []) (L := []) rfl (by decide) (j := j.toNat) (by omega)
  have hK_0_36 : ∀ j : Int, 0 ≤ j → j < 26 → 0 ≤ w_ei ws (w_ar ws (n_v vs 0) 36) j ∧ w_ei ws (w_ar ws (n_v vs 0) 36) j ≤ 80 := fun j h0 h1 => th_el hD hth cr_0_36 (kd := 0) (n := 26) (m := 26) (lo := 0) (hi := 80) (rs := []) (L := []) rfl (by decide) (j := j.toNat) (by omega)
  have hK_0_37 : ∀ j : Int, 0 ≤ j → j < 2080 → 0 ≤ w_ei ws (w_ar ws (n_v vs 0) 37) j ∧ w_ei ws (w_ar ws (n_v vs 0) 37) j ≤ 79 := fun j h0 h1 => th_el hD hth cr_0_37 (kd := 0) (n := 2080) (m := 2080) (lo := 0) (hi := 79) (rs := []) (L := []) rfl (by decide) (j := j.toNat) (by omega)
  have kz_0_31 : 0 ≤ w_fi ws (n_v vs 0) 31 ∧ w_fi ws (n_v vs 0) 31 ≤ 25 := tv_rng (th_fd hD hth r0 (g := GG_150) rfl (k := 31) (t := (0, 0, 25, [])) rfl rfl)
  have kz_0_32 : 0 ≤ w_fi ws (n_v vs 0) 32 ∧ w_fi ws (n_v vs 0) 32 ≤ 80 := tv_rng (th_fd hD hth r0 (g := GG_150) rfl (k := 32) (t := (0, 0, 80, [])) rfl rfl)
  obtain ⟨x, ex, hx⟩ := iv_ex (ta := ta) (lo := 0) (hi := 24) (z := v_iv (n_v vs 4)) (by omega) (by omega) (by omega) (by omega)
  have ex2 : v_iv (Value.int x) = v_iv (n_v vs 4) := ex
  have ex3 : 0 ≤ v_iv (Value.int x) ∧ v_iv (Value.int x) ≤ 24 := tv_rng hx
  have hrf0 : 0 ≤ v_iv (n_v vs 12) ∧ v_iv (n_v vs 12) ≤ 79 := vc_Mo_grid_5_r0 (v_iv (n_v vs 2)) (v_iv (n_v vs 4)) (v_iv (n_v vs 5)) (v_iv (n_v vs 6)) (v_iv (n_v vs 7)) (v_iv (n_v vs 9)) (v_iv (n_v vs 11)) (v_iv (n_v vs 12)) (w_ei ws (w_ar ws (n_v vs 0) 36)) (w_fi ws (n_v vs 0) 31) (w_ei ws (w_ar ws (n_v vs 0) 33)) (w_ei ws (w_ar ws (n_v vs 0) 34)) (w_ei ws (w_ar ws (n_v vs 0) 35)) (w_ei ws (w_ar ws (n_v vs 0) 37)) (w_fi ws (n_v vs 0) 32) (v_iv (Value.int x)) k2 k4 k5 k6 k7 k9 k11 k12 h0 f2 f3 f4 f5 f6 f7 f8 f9 f10 f11 f13 f14 hK_0_33 hK_0_34 hK_0_35 hK_0_36 hK_0_37 kz_0_31 kz_0_32 ex2 ex3
  have e_0 : n_v (vs ++ [Value.int x]) 0 = n_v vs 0 := n_v_old (by rw [hl]; decide)
  have e_4 : n_v (vs ++ [Value.int x]) 4 = n_v vs 4 := n_v_old (by rw [hl]; decide)
  have e_7 : n_v (vs ++ [Value.int x]) 7 = n_v vs 7 := n_v_old (by rw [hl]; decide)
  have e_9 : n_v (vs ++ [Value.int x]) 9 = n_v vs 9 := n_v_old (by rw [hl]; decide)
  have e_12 : n_v (vs ++ [Value.int x]) 12 = n_v vs 12 := n_v_old (by rw [hl]; decide)
  have e_13 : n_v (vs ++ [Value.int x]) 13 = Value.int x := n_v_new hl
  have nf0 : fc_1 PRD (23, [13, 4], [0, 1, -1]) ws (vs ++ [Value.int x]) := by
    refine ⟨fun n hn => ?_, ?_⟩
    · have hn : n ∈ [13, 4] := hn
      rw [List.length_append, hl]
      simp only [List.mem_cons, List.not_mem_nil, or_false] at hn
      show n < 13 + 1; omega
    · show 1 * v_iv (n_v (vs ++ [Value.int x]) 13) + ((-1) * v_iv (n_v (vs ++ [Value.int x]) 4) + 0) ≤ 0
      rw [e_4]
      rw [e_13]
      exact vc_Mo_grid_5_0 (v_iv (n_v vs 2)) (v_iv (n_v vs 4)) (v_iv (n_v vs 5)) (v_iv (n_v vs 6)) (v_iv (n_v vs 7)) (v_iv (n_v vs 9)) (v_iv (n_v vs 11)) (v_iv (n_v vs 12)) (w_ei ws (w_ar ws (n_v vs 0) 36)) (w_fi ws (n_v vs 0) 31) (w_ei ws (w_ar ws (n_v vs 0) 33)) (w_ei ws (w_ar ws (n_v vs 0) 34)) (w_ei ws (w_ar ws (n_v vs 0) 35)) (w_ei ws (w_ar ws (n_v vs 0) 37)) (w_fi ws (n_v vs 0) 32) (v_iv (Value.int x)) k2 k4 k5 k6 k7 k9 k11 k12 h0 f2 f3 f4 f5 f6 f7 f8 f9 f10 f11 f13 f14 hK_0_33 hK_0_34 hK_0_35 hK_0_36 hK_0_37 kz_0_31 kz_0_32 ex2 ex3
  have nf1 : fc_1 PRD (23, [13, 4], [0, -1, 1]) ws (vs ++ [Value.int x]) := by
    refine ⟨fun n hn => ?_, ?_⟩
    · have hn : n ∈ [13, 4] := hn
      rw [List.length_append, hl]
      simp only [List.mem_cons, List.not_mem_nil, or_false] at hn
      show n < 13 + 1; omega
    · show (-1) * v_iv (n_v (vs ++ [Value.int x]) 13) + (1 * v_iv (n_v (vs ++ [Value.int x]) 4) + 0) ≤ 0
      rw [e_4]
      rw [e_13]
      exact vc_Mo_grid_5_1 (v_iv (n_v vs 2)) (v_iv (n_v vs 4)) (v_iv (n_v vs 5)) (v_iv (n_v vs 6)) (v_iv (n_v vs 7)) (v_iv (n_v vs 9)) (v_iv (n_v vs 11)) (v_iv (n_v vs 12)) (w_ei ws (w_ar ws (n_v vs 0) 36)) (w_fi ws (n_v vs 0) 31) (w_ei ws (w_ar ws (n_v vs 0) 33)) (w_ei ws (w_ar ws (n_v vs 0) 34)) (w_ei ws (w_ar ws (n_v vs 0) 35)) (w_ei ws (w_ar ws (n_v vs 0) 37)) (w_fi ws (n_v vs 0) 32) (v_iv (Value.int x)) k2 k4 k5 k6 k7 k9 k11 k12 h0 f2 f3 f4 f5 f6 f7 f8 f9 f10 f11 f13 f14 hK_0_33 hK_0_34 hK_0_35 hK_0_36 hK_0_37 kz_0_31 kz_0_32 ex2 ex3
  have nf2 : fc_1 PRD (20, [0, 9, 7, 12, 13], [60, 2, 5, 175, 31, 32, 33, 34, 35, 36, 37]) ws (vs ++ [Value.int x]) := by
    refine ⟨fun n hn => ?_, ?_⟩
    · have hn : n ∈ [0, 9, 7, 12, 13] := hn
      rw [List.length_append, hl]
      simp only [List.mem_cons, List.not_mem_nil, or_false] at hn
      show n < 13 + 1; omega
    · show PAa (w_fi ws (n_v (vs ++ [Value.int x]) 0) 31) (w_fi ws (n_v (vs ++ [Value.int x]) 0) 32) (w_ei ws (w_ar ws (n_v (vs ++ [Value.int x]) 0) 33)) (w_ei ws (w_ar ws (n_v (vs ++ [Value.int x]) 0) 34)) (w_ei ws (w_ar ws (n_v (vs ++ [Value.int x]) 0) 35)) (w_ei ws (w_ar ws (n_v (vs ++ [Value.int x]) 0) 36)) (w_ei ws (w_ar ws (n_v (vs ++ [Value.int x]) 0) 37)) (v_iv (n_v (vs ++ [Value.int x]) 9)) (v_iv (n_v (vs ++ [Value.int x]) 7)) (v_iv (n_v (vs ++ [Value.int x]) 12)) (v_iv (n_v (vs ++ [Value.int x]) 13))
      rw [e_0]
      rw [e_7]
      rw [e_9]
      rw [e_12]
      rw [e_13]
      exact vc_Mo_grid_5_2 (v_iv (n_v vs 2)) (v_iv (n_v vs 4)) (v_iv (n_v vs 5)) (v_iv (n_v vs 6)) (v_iv (n_v vs 7)) (v_iv (n_v vs 9)) (v_iv (n_v vs 11)) (v_iv (n_v vs 12)) (w_ei ws (w_ar ws (n_v vs 0) 36)) (w_fi ws (n_v vs 0) 31) (w_ei ws (w_ar ws (n_v vs 0) 33)) (w_ei ws (w_ar ws (n_v vs 0) 34)) (w_ei ws (w_ar ws (n_v vs 0) 35)) (w_ei ws (w_ar ws (n_v vs 0) 37)) (w_fi ws (n_v vs 0) 32) (v_iv (Value.int x)) k2 k4 k5 k6 k7 k9 k11 k12 h0 f2 f3 f4 f5 f6 f7 f8 f9 f10 f11 f13 f14 hK_0_33 hK_0_34 hK_0_35 hK_0_36 hK_0_37 kz_0_31 kz_0_32 ex2 ex3
  have rf12 : tv_ok ta (0, 0, 79, []) (n_v vs 12) := tv_in t12 (by first | omega | grind) (by first | omega | grind)
  exact ⟨List.forall_mem_cons.mpr ⟨rf12, (fun _ h => (by cases h))⟩, [Value.int x], ag_one hx, List.forall_mem_cons.mpr ⟨⟨show (23 : Nat) < 100 from by decide, nf0⟩, List.forall_mem_cons.mpr ⟨⟨show (23 : Nat) < 100 from by decide, nf1⟩, List.forall_mem_cons.mpr ⟨⟨show (20 : Nat) < 100 from by decide, nf2⟩, (fun _ h => (by cases h))⟩⟩⟩, (fun _ h => (by cases h))⟩
set_option maxHeartbeats 4000000 in
theorem vc_Mo_grid_6_r0 (x2 : Int) (x4 : Int) (x5 : Int) (x6 : Int) (x7 : Int) (x13 : Int) (x14 : Int) (rotMany_0 : Int → Int) (pn_0 : Int) (pt_0 : Int → Int) (ph_0 : Int → Int) (alive_0 : Int → Int) (pm_0 : Int) (rot_0 : Int → Int) (gx : Int) (k2 : (-2) ≤ x2 ∧ x2 ≤ 25) (k4 : 0 ≤ x4 ∧ x4 ≤ 24) (k5 : 0 ≤ x5 ∧ x5 ≤ 0) (k6 : (-2) ≤ x6 ∧ x6 ≤ 25) (k7 : 0 ≤ x7 ∧ x7 ≤ 79) (k13 : 0 ≤ x13 ∧ x13 ≤ 24) (k14 : 0 ≤ x14 ∧ x14 ≤ 80) (h0 : x14 = rotMany_0 (x4)) (f2 : 1 * x13 + ((-1) * x4 + 0) ≤ 0) (f3 : (-1) * x13 + (1 * x4 + 0) ≤ 0) (f4 : x5 = 0) (f5 : 1 * x6 + ((-1) * x2 + 0) ≤ 0) (f6 : (-1) * x6 + (1 * x2 + 0) ≤ 0) (f7 : x5 = 0) (f8 : 1 ≤ pn_0) (f9 : 3 ≤ pn_0) (f10 : pn_0 ≤ 24) (f11 : GLU (pn_0) (pm_0) (pt_0) (ph_0) (alive_0) (x4)) (f12 : UNP (pn_0) (pm_0) (pt_0) (ph_0) (alive_0) (x6)) (f13 : PUb (pn_0) (pm_0) (pt_0) (ph_0) (alive_0) (rotMany_0) (rot_0) (x13) (x7)) (f15 : 1 * x13 + ((-1) * x4 + 0) ≤ 0) (f16 : (-1) * x13 + (1 * x4 + 0) ≤ 0) (f17 : 1 * x6 + ((-1) * x2 + 0) ≤ 0) (f18 : (-1) * x6 + (1 * x2 + 0) ≤ 0) (f20 : 1 * x6 + ((-1) * x2 + 0) ≤ 0) (f21 : (-1) * x6 + (1 * x2 + 0) ≤ 0) (hK_0_33 : ∀ j : Int, 0 ≤ j → j < 80 → 0 ≤ pt_0 j ∧ pt_0 j ≤ 24) (hK_0_34 : ∀ j : Int, 0 ≤ j → j < 80 → 0 ≤ ph_0 j ∧ ph_0 j ≤ 24) (hK_0_35 : ∀ j : Int, 0 ≤ j → j < 80 → 0 ≤ alive_0 j ∧ alive_0 j ≤ 1) (hK_0_36 : ∀ j : Int, 0 ≤ j → j < 26 → 0 ≤ rotMany_0 j ∧ rotMany_0 j ≤ 80) (hK_0_37 : ∀ j : Int, 0 ≤ j → j < 2080 → 0 ≤ rot_0 j ∧ rot_0 j ≤ 79) (kz_0_31 : 0 ≤ pn_0 ∧ pn_0 ≤ 25) (kz_0_32 : 0 ≤ pm_0 ∧ pm_0 ≤ 80) (ex2 : gx = x4) (ex3 : 0 ≤ gx ∧ gx ≤ 24) : 0 ≤ x14 ∧ x14 ≤ 79 := by
  first
    | omega
    | (have h := ‹GLU _ _ _ _ _ _›.2.1; omega)
    | (have h := pax_len (⟨Or.inr (Or.inl rfl), ‹PUb _ _ _ _ _ _ _ _ _›, fun z => by omega, fun _ => ⟨rfl, rfl⟩, fun z => by omega, fun z => by omega⟩ : PAX 2 _ _ _ _ _ rotMany_0 _ x13 _ (rotMany_0 x13) 0 _ 0 0)
       rw [show x13 = x4 by omega] at h
       omega)
set_option maxHeartbeats 4000000 in
theorem vc_Mo_grid_6_0 (x2 : Int) (x4 : Int) (x5 : Int) (x6 : Int) (x7 : Int) (x13 : Int) (x14 : Int) (rotMany_0 : Int → Int) (pn_0 : Int) (pt_0 : Int → Int) (ph_0 : Int → Int) (alive_0 : Int → Int) (pm_0 : Int) (rot_0 : Int → Int) (gx : Int) (k2 : (-2) ≤ x2 ∧ x2 ≤ 25) (k4 : 0 ≤ x4 ∧ x4 ≤ 24) (k5 : 0 ≤ x5 ∧ x5 ≤ 0) (k6 : (-2) ≤ x6 ∧ x6 ≤ 25) (k7 : 0 ≤ x7 ∧ x7 ≤ 79) (k13 : 0 ≤ x13 ∧ x13 ≤ 24) (k14 : 0 ≤ x14 ∧ x14 ≤ 80) (h0 : x14 = rotMany_0 (x4)) (f2 : 1 * x13 + ((-1) * x4 + 0) ≤ 0) (f3 : (-1) * x13 + (1 * x4 + 0) ≤ 0) (f4 : x5 = 0) (f5 : 1 * x6 + ((-1) * x2 + 0) ≤ 0) (f6 : (-1) * x6 + (1 * x2 + 0) ≤ 0) (f7 : x5 = 0) (f8 : 1 ≤ pn_0) (f9 : 3 ≤ pn_0) (f10 : pn_0 ≤ 24) (f11 : GLU (pn_0) (pm_0) (pt_0) (ph_0) (alive_0) (x4)) (f12 : UNP (pn_0) (pm_0) (pt_0) (ph_0) (alive_0) (x6)) (f13 : PUb (pn_0) (pm_0) (pt_0) (ph_0) (alive_0) (rotMany_0) (rot_0) (x13) (x7)) (f15 : 1 * x13 + ((-1) * x4 + 0) ≤ 0) (f16 : (-1) * x13 + (1 * x4 + 0) ≤ 0) (f17 : 1 * x6 + ((-1) * x2 + 0) ≤ 0) (f18 : (-1) * x6 + (1 * x2 + 0) ≤ 0) (f20 : 1 * x6 + ((-1) * x2 + 0) ≤ 0) (f21 : (-1) * x6 + (1 * x2 + 0) ≤ 0) (hK_0_33 : ∀ j : Int, 0 ≤ j → j < 80 → 0 ≤ pt_0 j ∧ pt_0 j ≤ 24) (hK_0_34 : ∀ j : Int, 0 ≤ j → j < 80 → 0 ≤ ph_0 j ∧ ph_0 j ≤ 24) (hK_0_35 : ∀ j : Int, 0 ≤ j → j < 80 → 0 ≤ alive_0 j ∧ alive_0 j ≤ 1) (hK_0_36 : ∀ j : Int, 0 ≤ j → j < 26 → 0 ≤ rotMany_0 j ∧ rotMany_0 j ≤ 80) (hK_0_37 : ∀ j : Int, 0 ≤ j → j < 2080 → 0 ≤ rot_0 j ∧ rot_0 j ≤ 79) (kz_0_31 : 0 ≤ pn_0 ∧ pn_0 ≤ 25) (kz_0_32 : 0 ≤ pm_0 ∧ pm_0 ≤ 80) (ex2 : gx = x4) (ex3 : 0 ≤ gx ∧ gx ≤ 24) : 1 * gx + ((-1) * x4 + 0) ≤ 0 := by
  first
    | omega
    | (have h := ‹GLU _ _ _ _ _ _›.2.1; omega)
    | (have h := pax_len (⟨Or.inr (Or.inl rfl), ‹PUb _ _ _ _ _ _ _ _ _›, fun z => by omega, fun _ => ⟨rfl, rfl⟩, fun z => by omega, fun z => by omega⟩ : PAX 2 _ _ _ _ _ rotMany_0 _ x13 _ (rotMany_0 x13) 0 _ 0 0)
       rw [show x13 = x4 by omega] at h
       omega)
set_option maxHeartbeats 4000000 in
theorem vc_Mo_grid_6_1 (x2 : Int) (x4 : Int) (x5 : Int) (x6 : Int) (x7 : Int) (x13 : Int) (x14 : Int) (rotMany_0 : Int → Int) (pn_0 : Int) (pt_0 : Int → Int) (ph_0 : Int → Int) (alive_0 : Int → Int) (pm_0 : Int) (rot_0 : Int → Int) (gx : Int) (k2 : (-2) ≤ x2 ∧ x2 ≤ 25) (k4 : 0 ≤ x4 ∧ x4 ≤ 24) (k5 : 0 ≤ x5 ∧ x5 ≤ 0) (k6 : (-2) ≤ x6 ∧ x6 ≤ 25) (k7 : 0 ≤ x7 ∧ x7 ≤ 79) (k13 : 0 ≤ x13 ∧ x13 ≤ 24) (k14 : 0 ≤ x14 ∧ x14 ≤ 80) (h0 : x14 = rotMany_0 (x4)) (f2 : 1 * x13 + ((-1) * x4 + 0) ≤ 0) (f3 : (-1) * x13 + (1 * x4 + 0) ≤ 0) (f4 : x5 = 0) (f5 : 1 * x6 + ((-1) * x2 + 0) ≤ 0) (f6 : (-1) * x6 + (1 * x2 + 0) ≤ 0) (f7 : x5 = 0) (f8 : 1 ≤ pn_0) (f9 : 3 ≤ pn_0) (f10 : pn_0 ≤ 24) (f11 : GLU (pn_0) (pm_0) (pt_0) (ph_0) (alive_0) (x4)) (f12 : UNP (pn_0) (pm_0) (pt_0) (ph_0) (alive_0) (x6)) (f13 : PUb (pn_0) (pm_0) (pt_0) (ph_0) (alive_0) (rotMany_0) (rot_0) (x13) (x7)) (f15 : 1 * x13 + ((-1) * x4 + 0) ≤ 0) (f16 : (-1) * x13 + (1 * x4 + 0) ≤ 0) (f17 : 1 * x6 + ((-1) * x2 + 0) ≤ 0) (f18 : (-1) * x6 + (1 * x2 + 0) ≤ 0) (f20 : 1 * x6 + ((-1) * x2 + 0) ≤ 0) (f21 : (-1) * x6 + (1 * x2 + 0) ≤ 0) (hK_0_33 : ∀ j : Int, 0 ≤ j → j < 80 → 0 ≤ pt_0 j ∧ pt_0 j ≤ 24) (hK_0_34 : ∀ j : Int, 0 ≤ j → j < 80 → 0 ≤ ph_0 j ∧ ph_0 j ≤ 24) (hK_0_35 : ∀ j : Int, 0 ≤ j → j < 80 → 0 ≤ alive_0 j ∧ alive_0 j ≤ 1) (hK_0_36 : ∀ j : Int, 0 ≤ j → j < 26 → 0 ≤ rotMany_0 j ∧ rotMany_0 j ≤ 80) (hK_0_37 : ∀ j : Int, 0 ≤ j → j < 2080 → 0 ≤ rot_0 j ∧ rot_0 j ≤ 79) (kz_0_31 : 0 ≤ pn_0 ∧ pn_0 ≤ 25) (kz_0_32 : 0 ≤ pm_0 ∧ pm_0 ≤ 80) (ex2 : gx = x4) (ex3 : 0 ≤ gx ∧ gx ≤ 24) : (-1) * gx + (1 * x4 + 0) ≤ 0 := by
  first
    | omega
    | (have h := ‹GLU _ _ _ _ _ _›.2.1; omega)
    | (have h := pax_len (⟨Or.inr (Or.inl rfl), ‹PUb _ _ _ _ _ _ _ _ _›, fun z => by omega, fun _ => ⟨rfl, rfl⟩, fun z => by omega, fun z => by omega⟩ : PAX 2 _ _ _ _ _ rotMany_0 _ x13 _ (rotMany_0 x13) 0 _ 0 0)
       rw [show x13 = x4 by omega] at h
       omega)
set_option maxHeartbeats 4000000 in
theorem vc_Mo_grid_6_2 (x2 : Int) (x4 : Int) (x5 : Int) (x6 : Int) (x7 : Int) (x13 : Int) (x14 : Int) (rotMany_0 : Int → Int) (pn_0 : Int) (pt_0 : Int → Int) (ph_0 : Int → Int) (alive_0 : Int → Int) (pm_0 : Int) (rot_0 : Int → Int) (gx : Int) (k2 : (-2) ≤ x2 ∧ x2 ≤ 25) (k4 : 0 ≤ x4 ∧ x4 ≤ 24) (k5 : 0 ≤ x5 ∧ x5 ≤ 0) (k6 : (-2) ≤ x6 ∧ x6 ≤ 25) (k7 : 0 ≤ x7 ∧ x7 ≤ 79) (k13 : 0 ≤ x13 ∧ x13 ≤ 24) (k14 : 0 ≤ x14 ∧ x14 ≤ 80) (h0 : x14 = rotMany_0 (x4)) (f2 : 1 * x13 + ((-1) * x4 + 0) ≤ 0) (f3 : (-1) * x13 + (1 * x4 + 0) ≤ 0) (f4 : x5 = 0) (f5 : 1 * x6 + ((-1) * x2 + 0) ≤ 0) (f6 : (-1) * x6 + (1 * x2 + 0) ≤ 0) (f7 : x5 = 0) (f8 : 1 ≤ pn_0) (f9 : 3 ≤ pn_0) (f10 : pn_0 ≤ 24) (f11 : GLU (pn_0) (pm_0) (pt_0) (ph_0) (alive_0) (x4)) (f12 : UNP (pn_0) (pm_0) (pt_0) (ph_0) (alive_0) (x6)) (f13 : PUb (pn_0) (pm_0) (pt_0) (ph_0) (alive_0) (rotMany_0) (rot_0) (x13) (x7)) (f15 : 1 * x13 + ((-1) * x4 + 0) ≤ 0) (f16 : (-1) * x13 + (1 * x4 + 0) ≤ 0) (f17 : 1 * x6 + ((-1) * x2 + 0) ≤ 0) (f18 : (-1) * x6 + (1 * x2 + 0) ≤ 0) (f20 : 1 * x6 + ((-1) * x2 + 0) ≤ 0) (f21 : (-1) * x6 + (1 * x2 + 0) ≤ 0) (hK_0_33 : ∀ j : Int, 0 ≤ j → j < 80 → 0 ≤ pt_0 j ∧ pt_0 j ≤ 24) (hK_0_34 : ∀ j : Int, 0 ≤ j → j < 80 → 0 ≤ ph_0 j ∧ ph_0 j ≤ 24) (hK_0_35 : ∀ j : Int, 0 ≤ j → j < 80 → 0 ≤ alive_0 j ∧ alive_0 j ≤ 1) (hK_0_36 : ∀ j : Int, 0 ≤ j → j < 26 → 0 ≤ rotMany_0 j ∧ rotMany_0 j ≤ 80) (hK_0_37 : ∀ j : Int, 0 ≤ j → j < 2080 → 0 ≤ rot_0 j ∧ rot_0 j ≤ 79) (kz_0_31 : 0 ≤ pn_0 ∧ pn_0 ≤ 25) (kz_0_32 : 0 ≤ pm_0 ∧ pm_0 ≤ 80) (ex2 : gx = x4) (ex3 : 0 ≤ gx ∧ gx ≤ 24) : PAb (pn_0) (pm_0) (pt_0) (ph_0) (alive_0) (rotMany_0) (rot_0) (x4) (x7) (x14) (gx) := by
  have h := ‹PUb _ _ _ _ _ _ _ _ _›
  rw [show x13 = x4 by omega] at h
  rw [ex2]
  exact ⟨Or.inr (Or.inl rfl), h, fun z => by omega, fun _ => ⟨rfl, by assumption⟩, fun z => by omega, fun z => by omega⟩
def o_Mo_grid_6 : or_T := (61, 15, [(0, (2, 0, 0, [150])), (2, (0, -2, 25, [])), (4, (0, 0, 24, [])), (5, (0, 0, 0, [])), (6, (0, -2, 25, [])), (7, (0, 0, 79, [])), (10, (2, 0, 0, [168])), (13, (0, 0, 24, [])), (14, (0, 0, 80, []))], [(10, [14, 10, 4], []), (9, [10, 0], [36]), (23, [13, 4], [0, 1, -1]), (23, [13, 4], [0, -1, 1]), (20, [5], [50, 0, 0, 1, 2, 1, 0, 0, 0]), (23, [6, 2], [0, 1, -1]), (23, [6, 2], [0, -1, 1]), (20, [5], [50, 0, 0, 1, 2, 1, 0, 0, 0]), (20, [0], [50, 1, 0, 31, 0, 2, 0, 1, 2, 0, 31]), (20, [0], [50, 1, 0, 31, 0, 2, 0, 3, 2, 0, 31]), (20, [0], [50, 1, 0, 31, 0, 3, 2, 0, 31, 0, 24]), (20, [0, 4], [60, 2, 3, 192, 31, 32, 33, 34, 35]), (20, [0, 6], [60, 2, 3, 191, 31, 32, 33, 34, 35]), (20, [0, 13, 7], [60, 2, 5, 172, 31, 32, 33, 34, 35, 36, 37]), (102, [13], [1122433257470133441180429951526105359095756193005568]), (23, [13, 4], [0, 1, -1]), (23, [13, 4], [0, -1, 1]), (23, [6, 2], [0, 1, -1]), (23, [6, 2], [0, -1, 1]), (102, [6], [327376366762122253677625402528447396402928889626624, 13032]), (23, [6, 2], [0, 1, -1]), (23, [6, 2], [0, -1, 1])], [(14, (0, 0, 79, []))], [(0, 0, 24, [])], [(23, [15, 4], [0, 1, -1]), (23, [15, 4], [0, -1, 1]), (20, [0, 4, 7, 14, 15], [60, 2, 5, 176, 31, 32, 33, 34, 35, 36, 37])], [], [])
theorem oo_Mo_grid_6 {kA : Nat → ClassId} : or_ok PRD kA GG o_Mo_grid_6 := by
  intro A ta ws vs hD hth hl hk hds hf
  have hl : vs.length = 15 := hl
  have hk : ∀ q ∈ ([(0, (2, 0, 0, [150])), (2, (0, -2, 25, [])), (4, (0, 0, 24, [])), (5, (0, 0, 0, [])), (6, (0, -2, 25, [])), (7, (0, 0, 79, [])), (10, (2, 0, 0, [168])), (13, (0, 0, 24, [])), (14, (0, 0, 80, []))] : List (Nat × tv_T)), tv_ok ta q.2 (n_v vs q.1) := hk
  obtain ⟨t0, hk⟩ := List.forall_mem_cons.mp hk
  have t0 : tv_ok ta (2, 0, 0, [150]) (n_v vs 0) := t0
  have r0 : ta (v_ad (n_v vs 0)) = some 150 := tv_rg t0
  obtain ⟨t2, hk⟩ := List.forall_mem_cons.mp hk
  have t2 : tv_ok ta (0, -2, 25, []) (n_v vs 2) := t2
  have k2 : (-2) ≤ v_iv (n_v vs 2) ∧ v_iv (n_v vs 2) ≤ 25 := tv_rng t2
  obtain ⟨t4, hk⟩ := List.forall_mem_cons.mp hk
  have t4 : tv_ok ta (0, 0, 24, []) (n_v vs 4) := t4
  have k4 : 0 ≤ v_iv (n_v vs 4) ∧ v_iv (n_v vs 4) ≤ 24 := tv_rng t4
  obtain ⟨t5, hk⟩ := List.forall_mem_cons.mp hk
  have t5 : tv_ok ta (0, 0, 0, []) (n_v vs 5) := t5
  have k5 : 0 ≤ v_iv (n_v vs 5) ∧ v_iv (n_v vs 5) ≤ 0 := tv_rng t5
  obtain ⟨t6, hk⟩ := List.forall_mem_cons.mp hk
  have t6 : tv_ok ta (0, -2, 25, []) (n_v vs 6) := t6
  have k6 : (-2) ≤ v_iv (n_v vs 6) ∧ v_iv (n_v vs 6) ≤ 25 := tv_rng t6
  obtain ⟨t7, hk⟩ := List.forall_mem_cons.mp hk
  have t7 : tv_ok ta (0, 0, 79, []) (n_v vs 7) := t7
  have k7 : 0 ≤ v_iv (n_v vs 7) ∧ v_iv (n_v vs 7) ≤ 79 := tv_rng t7
  obtain ⟨t10, hk⟩ := List.forall_mem_cons.mp hk
  have t10 : tv_ok ta (2, 0, 0, [168]) (n_v vs 10) := t10
  have r10 : ta (v_ad (n_v vs 10)) = some 168 := tv_rg t10
  obtain ⟨t13, hk⟩ := List.forall_mem_cons.mp hk
  have t13 : tv_ok ta (0, 0, 24, []) (n_v vs 13) := t13
  have k13 : 0 ≤ v_iv (n_v vs 13) ∧ v_iv (n_v vs 13) ≤ 24 := tv_rng t13
  obtain ⟨t14, hk⟩ := List.forall_mem_cons.mp hk
  have t14 : tv_ok ta (0, 0, 80, []) (n_v vs 14) := t14
  have k14 : 0 ≤ v_iv (n_v vs 14) ∧ v_iv (n_v vs 14) ≤ 80 := tv_rng t14
  have hf : fc_ok PRD [(10, [14, 10, 4], []), (9, [10, 0], [36]), (23, [13, 4], [0, 1, -1]), (23, [13, 4], [0, -1, 1]), (20, [5], [50, 0, 0, 1, 2, 1, 0, 0, 0]), (23, [6, 2], [0, 1, -1]), (23, [6, 2], [0, -1, 1]), (20, [5], [50, 0, 0, 1, 2, 1, 0, 0, 0]), (20, [0], [50, 1, 0, 31, 0, 2, 0, 1, 2, 0, 31]), (20, [0], [50, 1, 0, 31, 0, 2, 0, 3, 2, 0, 31]), (20, [0], [50, 1, 0, 31, 0, 3, 2, 0, 31, 0, 24]), (20, [0, 4], [60, 2, 3, 192, 31, 32, 33, 34, 35]), (20, [0, 6], [60, 2, 3, 191, 31, 32, 33, 34, 35]), (20, [0, 13, 7], [60, 2, 5, 172, 31, 32, 33, 34, 35, 36, 37]), (102, [13], [1122433257470133441180429951526105359095756193005568]), (23, [13, 4], [0, 1, -1]), (23, [13, 4], [0, -1, 1]), (23, [6, 2], [0, 1, -1]), (23, [6, 2], [0, -1, 1]), (102, [6], [327376366762122253677625402528447396402928889626624, 13032]), (23, [6, 2], [0, 1, -1]), (23, [6, 2], [0, -1, 1])] ta ws vs := hf
  obtain ⟨f0, hf⟩ := fc_un (show (10 : Nat) < 100 from by decide) hf
  have f0 : v_iv (n_v vs 14) = w_el ws (v_ad (n_v vs 10)) (v_iv (n_v vs 4)).toNat := f0
  obtain ⟨f1, hf⟩ := fc_un (show (9 : Nat) < 100 from by decide) hf
  have f1 : n_v vs 10 = w_fd ws (v_ad (n_v vs 0)) 36 := f1
  obtain ⟨f2, hf⟩ := fc_un (show (23 : Nat) < 100 from by decide) hf
  have f2 : 1 * v_iv (n_v vs 13) + ((-1) * v_iv (n_v vs 4) + 0) ≤ 0 := f2
  obtain ⟨f3, hf⟩ := fc_un (show (23 : Nat) < 100 from by decide) hf
  have f3 : (-1) * v_iv (n_v vs 13) + (1 * v_iv (n_v vs 4) + 0) ≤ 0 := f3
  obtain ⟨f4, hf⟩ := fc_un (show (20 : Nat) < 100 from by decide) hf
  have f4 : v_iv (n_v vs 5) = 0 := f4
  obtain ⟨f5, hf⟩ := fc_un (show (23 : Nat) < 100 from by decide) hf
  have f5 : 1 * v_iv (n_v vs 6) + ((-1) * v_iv (n_v vs 2) + 0) ≤ 0 := f5
  obtain ⟨f6, hf⟩ := fc_un (show (23 : Nat) < 100 from by decide) hf
  have f6 : (-1) * v_iv (n_v vs 6) + (1 * v_iv (n_v vs 2) + 0) ≤ 0 := f6
  obtain ⟨f7, hf⟩ := fc_un (show (20 : Nat) < 100 from by decide) hf
  have f7 : v_iv (n_v vs 5) = 0 := f7
  obtain ⟨f8, hf⟩ := fc_un (show (20 : Nat) < 100 from by decide) hf
  have f8 : 1 ≤ w_fi ws (n_v vs 0) 31 := f8
  obtain ⟨f9, hf⟩ := fc_un (show (20 : Nat) < 100 from by decide) hf
  have f9 : 3 ≤ w_fi ws (n_v vs 0) 31 := f9
  obtain ⟨f10, hf⟩ := fc_un (show (20 : Nat) < 100 from by decide) hf
  have f10 : w_fi ws (n_v vs 0) 31 ≤ 24 := f10
  obtain ⟨f11, hf⟩ := fc_un (show (20 : Nat) < 100 from by decide) hf
  have f11 : GLU (w_fi ws (n_v vs 0) 31) (w_fi ws (n_v vs 0) 32) (w_ei ws (w_ar ws (n_v vs 0) 33)) (w_ei ws (w_ar ws (n_v vs 0) 34)) (w_ei ws (w_ar ws (n_v vs 0) 35)) (v_iv (n_v vs 4)) := f11
  obtain ⟨f12, hf⟩ := fc_un (show (20 : Nat) < 100 from by decide) hf
  have f12 : UNP (w_fi ws (n_v vs 0) 31) (w_fi ws (n_v vs 0) 32) (w_ei ws (w_ar ws (n_v vs 0) 33)) (w_ei ws (w_ar ws (n_v vs 0) 34)) (w_ei ws (w_ar ws (n_v vs 0) 35)) (v_iv (n_v vs 6)) := f12
  obtain ⟨f13, hf⟩ := fc_un (show (20 : Nat) < 100 from by decide) hf
  have f13 : PUb (w_fi ws (n_v vs 0) 31) (w_fi ws (n_v vs 0) 32) (w_ei ws (w_ar ws (n_v vs 0) 33)) (w_ei ws (w_ar ws (n_v vs 0) 34)) (w_ei ws (w_ar ws (n_v vs 0) 35)) (w_ei ws (w_ar ws (n_v vs 0) 36)) (w_ei ws (w_ar ws (n_v vs 0) 37)) (v_iv (n_v vs 13)) (v_iv (n_v vs 7)) := f13
  obtain ⟨ta1, w1, le1, ⟨_, s1⟩, hf⟩ := fc_us (show ¬ (102 : Nat) < 100 from by decide) hf
  obtain ⟨f15, hf⟩ := fc_un (show (23 : Nat) < 100 from by decide) hf
  have f15 : 1 * v_iv (n_v vs 13) + ((-1) * v_iv (n_v vs 4) + 0) ≤ 0 := f15
  obtain ⟨f16, hf⟩ := fc_un (show (23 : Nat) < 100 from by decide) hf
  have f16 : (-1) * v_iv (n_v vs 13) + (1 * v_iv (n_v vs 4) + 0) ≤ 0 := f16
  obtain ⟨f17, hf⟩ := fc_un (show (23 : Nat) < 100 from by decide) hf
  have f17 : 1 * v_iv (n_v vs 6) + ((-1) * v_iv (n_v vs 2) + 0) ≤ 0 := f17
  obtain ⟨f18, hf⟩ := fc_un (show (23 : Nat) < 100 from by decide) hf
  have f18 : (-1) * v_iv (n_v vs 6) + (1 * v_iv (n_v vs 2) + 0) ≤ 0 := f18
  obtain ⟨ta2, w2, le2, ⟨_, s2⟩, hf⟩ := fc_us (show ¬ (102 : Nat) < 100 from by decide) hf
  obtain ⟨f20, hf⟩ := fc_un (show (23 : Nat) < 100 from by decide) hf
  have f20 : 1 * v_iv (n_v vs 6) + ((-1) * v_iv (n_v vs 2) + 0) ≤ 0 := f20
  obtain ⟨f21, hf⟩ := fc_un (show (23 : Nat) < 100 from by decide) hf
  have f21 : (-1) * v_iv (n_v vs 6) + (1 * v_iv (n_v vs 2) + 0) ≤ 0 := f21
  have cr_0_33 : ta (w_ar ws (n_v vs 0) 33) = some 165 := tv_rg (th_fd hD hth r0 (g := GG_150) rfl (k := 33) (t := (2, 0, 0, [165])) rfl rfl)
  have cr_0_34 : ta (w_ar ws (n_v vs 0) 34) = some 166 := tv_rg (th_fd hD hth r0 (g := GG_150) rfl (k := 34) (t := (2, 0, 0, [166])) rfl rfl)
  have cr_0_35 : ta (w_ar ws (n_v vs 0) 35) = some 167 := tv_rg (th_fd hD hth r0 (g := GG_150) rfl (k := 35) (t := (2, 0, 0, [167])) rfl rfl)
  have cr_0_36 : ta (w_ar ws (n_v vs 0) 36) = some 168 := tv_rg (th_fd hD hth r0 (g := GG_150) rfl (k := 36) (t := (2, 0, 0, [168])) rfl rfl)
  have cr_0_37 : ta (w_ar ws (n_v vs 0) 37) = some 169 := tv_rg (th_fd hD hth r0 (g := GG_150) rfl (k := 37) (t := (2, 0, 0, [169])) rfl rfl)
  have ad_10 : v_ad (n_v vs 10) = w_ar ws (n_v vs 0) 36 := congrArg v_ad f1
  rw [ad_10] at f0
  have h0 : v_iv (n_v vs 14) = w_ei ws (w_ar ws (n_v vs 0) 36) (v_iv (n_v vs 4)) := f0
  have hK_0_33 : ∀ j : Int, 0 ≤ j → j < 80 → 0 ≤ w_ei ws (w_ar ws (n_v vs 0) 33) j ∧ w_ei ws (w_ar ws (n_v vs 0) 33) j ≤ 24 := fun j h0 h1 => th_el hD hth cr_0_33 (kd := 0) (n := 80) (m := 80) (lo := 0) (hi := 24) (rs := []) (L := []) rfl (by decide) (j := j.toNat) (by omega)
  have hK_0_34 : ∀ j : Int, 0 ≤ j → j < 80 → 0 ≤ w_ei ws (w_ar ws (n_v vs 0) 34) j ∧ w_ei ws (w_ar ws (n_v vs 0) 34) j ≤ 24 := fun j h0 h1 => th_el hD hth cr_0_34 (kd := 0) (n := 80) (m := 80) (lo := 0) (hi := 24) (rs := []) (L := []) rfl (by decide) (j := j.toNat) (by omega)
  have hK_0_35 : ∀ j : Int, 0 ≤ j → j < 80 → 0 ≤ w_ei ws (w_ar ws (n_v vs 0) 35) j ∧ w_ei ws (w_ar ws (n_v vs 0) 35) j ≤ 1 := fun j h0 h1 => th_el hD hth cr_0_35 (kd := 2) (n := 80) (m := 80) (lo := 0) (hi := 1) (rs := []) (L := []) rfl (by decide) (j := j.toNat) (by omega)
  have hK_0_36 : ∀ j : Int, 0 ≤ j → j < 26 → 0 ≤ w_ei ws (w_ar ws (n_v vs 0) 36) j ∧ w_ei ws (w_ar ws (n_v vs 0) 36) j ≤ 80 := fun j h0 h1 => th_el hD hth cr_0_36 (kd := 0) (n := 26) (m := 26) (lo := 0) (hi := 80) (rs := []) (L := []) rfl (by decide) (j := j.toNat) (by omega)
  have hK_0_37 : ∀ j : Int, 0 ≤ j → j < 2080 → 0 ≤ w_ei ws (w_ar ws (n_v vs 0) 37) j ∧ w_ei ws (w_ar ws (n_v vs 0) 37) j ≤ 79 := fun j h0 h1 => th_el hD hth cr_0_37 (kd := 0) (n := 2080) (m := 2080) (lo := 0) (hi := 79) (rs := []) (L := []) rfl (by decide) (j := j.toNat) (by omega)
  have kz_0_31 : 0 ≤ w_fi ws (n_v vs 0) 31 ∧ w_fi ws (n_v vs 0) 31 ≤ 25 := tv_rng (th_fd hD hth r0 (g := GG_150) rfl (k := 31) (t := (0, 0, 25, [])) rfl rfl)
  have kz_0_32 : 0 ≤ w_fi ws (n_v vs 0) 32 ∧ w_fi ws (n_v vs 0) 32 ≤ 80 := tv_rng (th_fd hD hth r0 (g := GG_150) rfl (k := 32) (t := (0, 0, 80, [])) rfl rfl)
  obtain ⟨x, ex, hx⟩ := iv_ex (ta := ta) (lo := 0) (hi := 24) (z := v_iv (n_v vs 4)) (by omega) (by omega) (by omega) (by omega)
  have ex2 : v_iv (Value.int x) = v_iv (n_v vs 4) := ex
  have ex3 : 0 ≤ v_iv (Value.int x) ∧ v_iv (Value.int x) ≤ 24 := tv_rng hx
  have hrf0 : 0 ≤ v_iv (n_v vs 14) ∧ v_iv (n_v vs 14) ≤ 79 := vc_Mo_grid_6_r0 (v_iv (n_v vs 2)) (v_iv (n_v vs 4)) (v_iv (n_v vs 5)) (v_iv (n_v vs 6)) (v_iv (n_v vs 7)) (v_iv (n_v vs 13)) (v_iv (n_v vs 14)) (w_ei ws (w_ar ws (n_v vs 0) 36)) (w_fi ws (n_v vs 0) 31) (w_ei ws (w_ar ws (n_v vs 0) 33)) (w_ei ws (w_ar ws (n_v vs 0) 34)) (w_ei ws (w_ar ws (n_v vs 0) 35)) (w_fi ws (n_v vs 0) 32) (w_ei ws (w_ar ws (n_v vs 0) 37)) (v_iv (Value.int x)) k2 k4 k5 k6 k7 k13 k14 h0 f2 f3 f4 f5 f6 f7 f8 f9 f10 f11 f12 f13 f15 f16 f17 f18 f20 f21 hK_0_33 hK_0_34 hK_0_35 hK_0_36 hK_0_37 kz_0_31 kz_0_32 ex2 ex3
  have e_0 : n_v (vs ++ [Value.int x]) 0 = n_v vs 0 := n_v_old (by rw [hl]; decide)
  have e_4 : n_v (vs ++ [Value.int x]) 4 = n_v vs 4 := n_v_old (by rw [hl]; decide)
  have e_7 : n_v (vs ++ [Value.int x]) 7 = n_v vs 7 := n_v_old (by rw [hl]; decide)
  have e_14 : n_v (vs ++ [Value.int x]) 14 = n_v vs 14 := n_v_old (by rw [hl]; decide)
  have e_15 : n_v (vs ++ [Value.int x]) 15 = Value.int x := n_v_new hl
  have nf0 : fc_1 PRD (23, [15, 4], [0, 1, -1]) ws (vs ++ [Value.int x]) := by
    refine ⟨fun n hn => ?_, ?_⟩
    · have hn : n ∈ [15, 4] := hn
      rw [List.length_append, hl]
      simp only [List.mem_cons, List.not_mem_nil, or_false] at hn
      show n < 15 + 1; omega
    · show 1 * v_iv (n_v (vs ++ [Value.int x]) 15) + ((-1) * v_iv (n_v (vs ++ [Value.int x]) 4) + 0) ≤ 0
      rw [e_4]
      rw [e_15]
      exact vc_Mo_grid_6_0 (v_iv (n_v vs 2)) (v_iv (n_v vs 4)) (v_iv (n_v vs 5)) (v_iv (n_v vs 6)) (v_iv (n_v vs 7)) (v_iv (n_v vs 13)) (v_iv (n_v vs 14)) (w_ei ws (w_ar ws (n_v vs 0) 36)) (w_fi ws (n_v vs 0) 31) (w_ei ws (w_ar ws (n_v vs 0) 33)) (w_ei ws (w_ar ws (n_v vs 0) 34)) (w_ei ws (w_ar ws (n_v vs 0) 35)) (w_fi ws (n_v vs 0) 32) (w_ei ws (w_ar ws (n_v vs 0) 37)) (v_iv (Value.int x)) k2 k4 k5 k6 k7 k13 k14 h0 f2 f3 f4 f5 f6 f7 f8 f9 f10 f11 f12 f13 f15 f16 f17 f18 f20 f21 hK_0_33 hK_0_34 hK_0_35 hK_0_36 hK_0_37 kz_0_31 kz_0_32 ex2 ex3
  have nf1 : fc_1 PRD (23, [15, 4], [0, -1, 1]) ws (vs ++ [Value.int x]) := by
    refine ⟨fun n hn => ?_, ?_⟩
    · have hn : n ∈ [15, 4] := hn
      rw [List.length_append, hl]
      simp only [List.mem_cons, List.not_mem_nil, or_false] at hn
      show n < 15 + 1; omega
    · show (-1) * v_iv (n_v (vs ++ [Value.int x]) 15) + (1 * v_iv (n_v (vs ++ [Value.int x]) 4) + 0) ≤ 0
      rw [e_4]
      rw [e_15]
      exact vc_Mo_grid_6_1 (v_iv (n_v vs 2)) (v_iv (n_v vs 4)) (v_iv (n_v vs 5)) (v_iv (n_v vs 6)) (v_iv (n_v vs 7)) (v_iv (n_v vs 13)) (v_iv (n_v vs 14)) (w_ei ws (w_ar ws (n_v vs 0) 36)) (w_fi ws (n_v vs 0) 31) (w_ei ws (w_ar ws (n_v vs 0) 33)) (w_ei ws (w_ar ws (n_v vs 0) 34)) (w_ei ws (w_ar ws (n_v vs 0) 35)) (w_fi ws (n_v vs 0) 32) (w_ei ws (w_ar ws (n_v vs 0) 37)) (v_iv (Value.int x)) k2 k4 k5 k6 k7 k13 k14 h0 f2 f3 f4 f5 f6 f7 f8 f9 f10 f11 f12 f13 f15 f16 f17 f18 f20 f21 hK_0_33 hK_0_34 hK_0_35 hK_0_36 hK_0_37 kz_0_31 kz_0_32 ex2 ex3
  have nf2 : fc_1 PRD (20, [0, 4, 7, 14, 15], [60, 2, 5, 176, 31, 32, 33, 34, 35, 36, 37]) ws (vs ++ [Value.int x]) := by
    refine ⟨fun n hn => ?_, ?_⟩
    · have hn : n ∈ [0, 4, 7, 14, 15] := hn
      rw [List.length_append, hl]
      simp only [List.mem_cons, List.not_mem_nil, or_false] at hn
      show n < 15 + 1; omega
    · show PAb (w_fi ws (n_v (vs ++ [Value.int x]) 0) 31) (w_fi ws (n_v (vs ++ [Value.int x]) 0) 32) (w_ei ws (w_ar ws (n_v (vs ++ [Value.int x]) 0) 33)) (w_ei ws (w_ar ws (n_v (vs ++ [Value.int x]) 0) 34)) (w_ei ws (w_ar ws (n_v (vs ++ [Value.int x]) 0) 35)) (w_ei ws (w_ar ws (n_v (vs ++ [Value.int x]) 0) 36)) (w_ei ws (w_ar ws (n_v (vs ++ [Value.int x]) 0) 37)) (v_iv (n_v (vs ++ [Value.int x]) 4)) (v_iv (n_v (vs ++ [Value.int x]) 7)) (v_iv (n_v (vs ++ [Value.int x]) 14)) (v_iv (n_v (vs ++ [Value.int x]) 15))
      rw [e_0]
      rw [e_4]
      rw [e_7]
      rw [e_14]
      rw [e_15]
      exact vc_Mo_grid_6_2 (v_iv (n_v vs 2)) (v_iv (n_v vs 4)) (v_iv (n_v vs 5)) (v_iv (n_v vs 6)) (v_iv (n_v vs 7)) (v_iv (n_v vs 13)) (v_iv (n_v vs 14)) (w_ei ws (w_ar ws (n_v vs 0) 36)) (w_fi ws (n_v vs 0) 31) (w_ei ws (w_ar ws (n_v vs 0) 33)) (w_ei ws (w_ar ws (n_v vs 0) 34)) (w_ei ws (w_ar ws (n_v vs 0) 35)) (w_fi ws (n_v vs 0) 32) (w_ei ws (w_ar ws (n_v vs 0) 37)) (v_iv (Value.int x)) k2 k4 k5 k6 k7 k13 k14 h0 f2 f3 f4 f5 f6 f7 f8 f9 f10 f11 f12 f13 f15 f16 f17 f18 f20 f21 hK_0_33 hK_0_34 hK_0_35 hK_0_36 hK_0_37 kz_0_31 kz_0_32 ex2 ex3
  have rf14 : tv_ok ta (0, 0, 79, []) (n_v vs 14) := tv_in t14 (by first | omega | grind) (by first | omega | grind)
  exact ⟨List.forall_mem_cons.mpr ⟨rf14, (fun _ h => (by cases h))⟩, [Value.int x], ag_one hx, List.forall_mem_cons.mpr ⟨⟨show (23 : Nat) < 100 from by decide, nf0⟩, List.forall_mem_cons.mpr ⟨⟨show (23 : Nat) < 100 from by decide, nf1⟩, List.forall_mem_cons.mpr ⟨⟨show (20 : Nat) < 100 from by decide, nf2⟩, (fun _ h => (by cases h))⟩⟩⟩, (fun _ h => (by cases h))⟩
set_option maxHeartbeats 4000000 in
theorem vc_Mo_grid_7_0 (x2 : Int) (x4 : Int) (x5 : Int) (x6 : Int) (x13 : Int) (x15 : Int) (pn_0 : Int) (pt_0 : Int → Int) (ph_0 : Int → Int) (alive_0 : Int → Int) (pm_0 : Int) (rotMany_0 : Int → Int) (rot_0 : Int → Int) (gx : Int) (k2 : (-2) ≤ x2 ∧ x2 ≤ 25) (k4 : 0 ≤ x4 ∧ x4 ≤ 24) (k5 : 0 ≤ x5 ∧ x5 ≤ 0) (k6 : (-2) ≤ x6 ∧ x6 ≤ 25) (k13 : 0 ≤ x13 ∧ x13 ≤ 24) (k15 : 0 ≤ x15 ∧ x15 ≤ 24) (f0 : 1 * x15 + ((-1) * x4 + 0) ≤ 0) (f1 : (-1) * x15 + (1 * x4 + 0) ≤ 0) (f2 : 1 * x13 + ((-1) * x4 + 0) ≤ 0) (f3 : (-1) * x13 + (1 * x4 + 0) ≤ 0) (f4 : x5 = 0) (f5 : 1 * x6 + ((-1) * x2 + 0) ≤ 0) (f6 : (-1) * x6 + (1 * x2 + 0) ≤ 0) (f7 : x5 = 0) (f8 : 1 ≤ pn_0) (f9 : 3 ≤ pn_0) (f10 : pn_0 ≤ 24) (f11 : GLU (pn_0) (pm_0) (pt_0) (ph_0) (alive_0) (x4)) (f12 : UNP (pn_0) (pm_0) (pt_0) (ph_0) (alive_0) (x6)) (f13 : GRI (pn_0) (pm_0) (pt_0) (ph_0) (alive_0) (rotMany_0) (rot_0)) (f15 : 1 * x15 + ((-1) * x4 + 0) ≤ 0) (f16 : (-1) * x15 + (1 * x4 + 0) ≤ 0) (f17 : 1 * x13 + ((-1) * x4 + 0) ≤ 0) (f18 : (-1) * x13 + (1 * x4 + 0) ≤ 0) (f19 : 1 * x6 + ((-1) * x2 + 0) ≤ 0) (f20 : (-1) * x6 + (1 * x2 + 0) ≤ 0) (f22 : 1 * x13 + ((-1) * x4 + 0) ≤ 0) (f23 : (-1) * x13 + (1 * x4 + 0) ≤ 0) (f24 : 1 * x6 + ((-1) * x2 + 0) ≤ 0) (f25 : (-1) * x6 + (1 * x2 + 0) ≤ 0) (f27 : 1 * x6 + ((-1) * x2 + 0) ≤ 0) (f28 : (-1) * x6 + (1 * x2 + 0) ≤ 0) (hK_0_33 : ∀ j : Int, 0 ≤ j → j < 80 → 0 ≤ pt_0 j ∧ pt_0 j ≤ 24) (hK_0_34 : ∀ j : Int, 0 ≤ j → j < 80 → 0 ≤ ph_0 j ∧ ph_0 j ≤ 24) (hK_0_35 : ∀ j : Int, 0 ≤ j → j < 80 → 0 ≤ alive_0 j ∧ alive_0 j ≤ 1) (hK_0_36 : ∀ j : Int, 0 ≤ j → j < 26 → 0 ≤ rotMany_0 j ∧ rotMany_0 j ≤ 80) (hK_0_37 : ∀ j : Int, 0 ≤ j → j < 2080 → 0 ≤ rot_0 j ∧ rot_0 j ≤ 79) (kz_0_31 : 0 ≤ pn_0 ∧ pn_0 ≤ 25) (kz_0_32 : 0 ≤ pm_0 ∧ pm_0 ≤ 80) (ex2 : gx = 0 + (1 * x2 + 0)) (ex3 : (-2) ≤ gx ∧ gx ≤ 25) : GOK (pn_0) (pm_0) (pt_0) (ph_0) := by
  first
    | assumption
    | exact ‹GRI _ _ _ _ _ _ _›.1.1
set_option maxHeartbeats 4000000 in
theorem vc_Mo_grid_7_1 (x2 : Int) (x4 : Int) (x5 : Int) (x6 : Int) (x13 : Int) (x15 : Int) (pn_0 : Int) (pt_0 : Int → Int) (ph_0 : Int → Int) (alive_0 : Int → Int) (pm_0 : Int) (rotMany_0 : Int → Int) (rot_0 : Int → Int) (gx : Int) (k2 : (-2) ≤ x2 ∧ x2 ≤ 25) (k4 : 0 ≤ x4 ∧ x4 ≤ 24) (k5 : 0 ≤ x5 ∧ x5 ≤ 0) (k6 : (-2) ≤ x6 ∧ x6 ≤ 25) (k13 : 0 ≤ x13 ∧ x13 ≤ 24) (k15 : 0 ≤ x15 ∧ x15 ≤ 24) (f0 : 1 * x15 + ((-1) * x4 + 0) ≤ 0) (f1 : (-1) * x15 + (1 * x4 + 0) ≤ 0) (f2 : 1 * x13 + ((-1) * x4 + 0) ≤ 0) (f3 : (-1) * x13 + (1 * x4 + 0) ≤ 0) (f4 : x5 = 0) (f5 : 1 * x6 + ((-1) * x2 + 0) ≤ 0) (f6 : (-1) * x6 + (1 * x2 + 0) ≤ 0) (f7 : x5 = 0) (f8 : 1 ≤ pn_0) (f9 : 3 ≤ pn_0) (f10 : pn_0 ≤ 24) (f11 : GLU (pn_0) (pm_0) (pt_0) (ph_0) (alive_0) (x4)) (f12 : UNP (pn_0) (pm_0) (pt_0) (ph_0) (alive_0) (x6)) (f13 : GRI (pn_0) (pm_0) (pt_0) (ph_0) (alive_0) (rotMany_0) (rot_0)) (f15 : 1 * x15 + ((-1) * x4 + 0) ≤ 0) (f16 : (-1) * x15 + (1 * x4 + 0) ≤ 0) (f17 : 1 * x13 + ((-1) * x4 + 0) ≤ 0) (f18 : (-1) * x13 + (1 * x4 + 0) ≤ 0) (f19 : 1 * x6 + ((-1) * x2 + 0) ≤ 0) (f20 : (-1) * x6 + (1 * x2 + 0) ≤ 0) (f22 : 1 * x13 + ((-1) * x4 + 0) ≤ 0) (f23 : (-1) * x13 + (1 * x4 + 0) ≤ 0) (f24 : 1 * x6 + ((-1) * x2 + 0) ≤ 0) (f25 : (-1) * x6 + (1 * x2 + 0) ≤ 0) (f27 : 1 * x6 + ((-1) * x2 + 0) ≤ 0) (f28 : (-1) * x6 + (1 * x2 + 0) ≤ 0) (hK_0_33 : ∀ j : Int, 0 ≤ j → j < 80 → 0 ≤ pt_0 j ∧ pt_0 j ≤ 24) (hK_0_34 : ∀ j : Int, 0 ≤ j → j < 80 → 0 ≤ ph_0 j ∧ ph_0 j ≤ 24) (hK_0_35 : ∀ j : Int, 0 ≤ j → j < 80 → 0 ≤ alive_0 j ∧ alive_0 j ≤ 1) (hK_0_36 : ∀ j : Int, 0 ≤ j → j < 26 → 0 ≤ rotMany_0 j ∧ rotMany_0 j ≤ 80) (hK_0_37 : ∀ j : Int, 0 ≤ j → j < 2080 → 0 ≤ rot_0 j ∧ rot_0 j ≤ 79) (kz_0_31 : 0 ≤ pn_0 ∧ pn_0 ≤ 25) (kz_0_32 : 0 ≤ pm_0 ∧ pm_0 ≤ 80) (ex2 : gx = 0 + (1 * x2 + 0)) (ex3 : (-2) ≤ gx ∧ gx ≤ 25) : 3 ≤ pn_0 := by
  first
    | omega
    | (have h := una_less ‹GLU _ _ _ _ _ _› ‹UNP _ _ _ _ _ _›
       have h2 := czb (rcN pm_0 pt_0 ph_0 alive_0) (n := pn_0) (by omega)
       unfold UNA unc at h
       omega)
set_option maxHeartbeats 4000000 in
theorem vc_Mo_grid_7_2 (x2 : Int) (x4 : Int) (x5 : Int) (x6 : Int) (x13 : Int) (x15 : Int) (pn_0 : Int) (pt_0 : Int → Int) (ph_0 : Int → Int) (alive_0 : Int → Int) (pm_0 : Int) (rotMany_0 : Int → Int) (rot_0 : Int → Int) (gx : Int) (k2 : (-2) ≤ x2 ∧ x2 ≤ 25) (k4 : 0 ≤ x4 ∧ x4 ≤ 24) (k5 : 0 ≤ x5 ∧ x5 ≤ 0) (k6 : (-2) ≤ x6 ∧ x6 ≤ 25) (k13 : 0 ≤ x13 ∧ x13 ≤ 24) (k15 : 0 ≤ x15 ∧ x15 ≤ 24) (f0 : 1 * x15 + ((-1) * x4 + 0) ≤ 0) (f1 : (-1) * x15 + (1 * x4 + 0) ≤ 0) (f2 : 1 * x13 + ((-1) * x4 + 0) ≤ 0) (f3 : (-1) * x13 + (1 * x4 + 0) ≤ 0) (f4 : x5 = 0) (f5 : 1 * x6 + ((-1) * x2 + 0) ≤ 0) (f6 : (-1) * x6 + (1 * x2 + 0) ≤ 0) (f7 : x5 = 0) (f8 : 1 ≤ pn_0) (f9 : 3 ≤ pn_0) (f10 : pn_0 ≤ 24) (f11 : GLU (pn_0) (pm_0) (pt_0) (ph_0) (alive_0) (x4)) (f12 : UNP (pn_0) (pm_0) (pt_0) (ph_0) (alive_0) (x6)) (f13 : GRI (pn_0) (pm_0) (pt_0) (ph_0) (alive_0) (rotMany_0) (rot_0)) (f15 : 1 * x15 + ((-1) * x4 + 0) ≤ 0) (f16 : (-1) * x15 + (1 * x4 + 0) ≤ 0) (f17 : 1 * x13 + ((-1) * x4 + 0) ≤ 0) (f18 : (-1) * x13 + (1 * x4 + 0) ≤ 0) (f19 : 1 * x6 + ((-1) * x2 + 0) ≤ 0) (f20 : (-1) * x6 + (1 * x2 + 0) ≤ 0) (f22 : 1 * x13 + ((-1) * x4 + 0) ≤ 0) (f23 : (-1) * x13 + (1 * x4 + 0) ≤ 0) (f24 : 1 * x6 + ((-1) * x2 + 0) ≤ 0) (f25 : (-1) * x6 + (1 * x2 + 0) ≤ 0) (f27 : 1 * x6 + ((-1) * x2 + 0) ≤ 0) (f28 : (-1) * x6 + (1 * x2 + 0) ≤ 0) (hK_0_33 : ∀ j : Int, 0 ≤ j → j < 80 → 0 ≤ pt_0 j ∧ pt_0 j ≤ 24) (hK_0_34 : ∀ j : Int, 0 ≤ j → j < 80 → 0 ≤ ph_0 j ∧ ph_0 j ≤ 24) (hK_0_35 : ∀ j : Int, 0 ≤ j → j < 80 → 0 ≤ alive_0 j ∧ alive_0 j ≤ 1) (hK_0_36 : ∀ j : Int, 0 ≤ j → j < 26 → 0 ≤ rotMany_0 j ∧ rotMany_0 j ≤ 80) (hK_0_37 : ∀ j : Int, 0 ≤ j → j < 2080 → 0 ≤ rot_0 j ∧ rot_0 j ≤ 79) (kz_0_31 : 0 ≤ pn_0 ∧ pn_0 ≤ 25) (kz_0_32 : 0 ≤ pm_0 ∧ pm_0 ≤ 80) (ex2 : gx = 0 + (1 * x2 + 0)) (ex3 : (-2) ≤ gx ∧ gx ≤ 25) : pn_0 ≤ 24 := by
  first
    | omega
    | (have h := una_less ‹GLU _ _ _ _ _ _› ‹UNP _ _ _ _ _ _›
       have h2 := czb (rcN pm_0 pt_0 ph_0 alive_0) (n := pn_0) (by omega)
       unfold UNA unc at h
       omega)
set_option maxHeartbeats 4000000 in
theorem vc_Mo_grid_7_3 (x2 : Int) (x4 : Int) (x5 : Int) (x6 : Int) (x13 : Int) (x15 : Int) (pn_0 : Int) (pt_0 : Int → Int) (ph_0 : Int → Int) (alive_0 : Int → Int) (pm_0 : Int) (rotMany_0 : Int → Int) (rot_0 : Int → Int) (gx : Int) (k2 : (-2) ≤ x2 ∧ x2 ≤ 25) (k4 : 0 ≤ x4 ∧ x4 ≤ 24) (k5 : 0 ≤ x5 ∧ x5 ≤ 0) (k6 : (-2) ≤ x6 ∧ x6 ≤ 25) (k13 : 0 ≤ x13 ∧ x13 ≤ 24) (k15 : 0 ≤ x15 ∧ x15 ≤ 24) (f0 : 1 * x15 + ((-1) * x4 + 0) ≤ 0) (f1 : (-1) * x15 + (1 * x4 + 0) ≤ 0) (f2 : 1 * x13 + ((-1) * x4 + 0) ≤ 0) (f3 : (-1) * x13 + (1 * x4 + 0) ≤ 0) (f4 : x5 = 0) (f5 : 1 * x6 + ((-1) * x2 + 0) ≤ 0) (f6 : (-1) * x6 + (1 * x2 + 0) ≤ 0) (f7 : x5 = 0) (f8 : 1 ≤ pn_0) (f9 : 3 ≤ pn_0) (f10 : pn_0 ≤ 24) (f11 : GLU (pn_0) (pm_0) (pt_0) (ph_0) (alive_0) (x4)) (f12 : UNP (pn_0) (pm_0) (pt_0) (ph_0) (alive_0) (x6)) (f13 : GRI (pn_0) (pm_0) (pt_0) (ph_0) (alive_0) (rotMany_0) (rot_0)) (f15 : 1 * x15 + ((-1) * x4 + 0) ≤ 0) (f16 : (-1) * x15 + (1 * x4 + 0) ≤ 0) (f17 : 1 * x13 + ((-1) * x4 + 0) ≤ 0) (f18 : (-1) * x13 + (1 * x4 + 0) ≤ 0) (f19 : 1 * x6 + ((-1) * x2 + 0) ≤ 0) (f20 : (-1) * x6 + (1 * x2 + 0) ≤ 0) (f22 : 1 * x13 + ((-1) * x4 + 0) ≤ 0) (f23 : (-1) * x13 + (1 * x4 + 0) ≤ 0) (f24 : 1 * x6 + ((-1) * x2 + 0) ≤ 0) (f25 : (-1) * x6 + (1 * x2 + 0) ≤ 0) (f27 : 1 * x6 + ((-1) * x2 + 0) ≤ 0) (f28 : (-1) * x6 + (1 * x2 + 0) ≤ 0) (hK_0_33 : ∀ j : Int, 0 ≤ j → j < 80 → 0 ≤ pt_0 j ∧ pt_0 j ≤ 24) (hK_0_34 : ∀ j : Int, 0 ≤ j → j < 80 → 0 ≤ ph_0 j ∧ ph_0 j ≤ 24) (hK_0_35 : ∀ j : Int, 0 ≤ j → j < 80 → 0 ≤ alive_0 j ∧ alive_0 j ≤ 1) (hK_0_36 : ∀ j : Int, 0 ≤ j → j < 26 → 0 ≤ rotMany_0 j ∧ rotMany_0 j ≤ 80) (hK_0_37 : ∀ j : Int, 0 ≤ j → j < 2080 → 0 ≤ rot_0 j ∧ rot_0 j ≤ 79) (kz_0_31 : 0 ≤ pn_0 ∧ pn_0 ≤ 25) (kz_0_32 : 0 ≤ pm_0 ∧ pm_0 ≤ 80) (ex2 : gx = 0 + (1 * x2 + 0)) (ex3 : (-2) ≤ gx ∧ gx ≤ 25) : GR1n (pn_0) (pm_0) (pt_0) (ph_0) (alive_0) (rotMany_0) (rot_0) (gx) := by
  have h := una_less ‹GLU _ _ _ _ _ _› ‹UNP _ _ _ _ _ _›
  rw [show x6 - 1 = gx - 1 by omega] at h
  exact ⟨‹GRI _ _ _ _ _ _ _›, ⟨by omega, by omega⟩, h⟩
set_option maxHeartbeats 4000000 in
theorem vc_Mo_grid_7_4 (x2 : Int) (x4 : Int) (x5 : Int) (x6 : Int) (x13 : Int) (x15 : Int) (pn_0 : Int) (pt_0 : Int → Int) (ph_0 : Int → Int) (alive_0 : Int → Int) (pm_0 : Int) (rotMany_0 : Int → Int) (rot_0 : Int → Int) (gx : Int) (k2 : (-2) ≤ x2 ∧ x2 ≤ 25) (k4 : 0 ≤ x4 ∧ x4 ≤ 24) (k5 : 0 ≤ x5 ∧ x5 ≤ 0) (k6 : (-2) ≤ x6 ∧ x6 ≤ 25) (k13 : 0 ≤ x13 ∧ x13 ≤ 24) (k15 : 0 ≤ x15 ∧ x15 ≤ 24) (f0 : 1 * x15 + ((-1) * x4 + 0) ≤ 0) (f1 : (-1) * x15 + (1 * x4 + 0) ≤ 0) (f2 : 1 * x13 + ((-1) * x4 + 0) ≤ 0) (f3 : (-1) * x13 + (1 * x4 + 0) ≤ 0) (f4 : x5 = 0) (f5 : 1 * x6 + ((-1) * x2 + 0) ≤ 0) (f6 : (-1) * x6 + (1 * x2 + 0) ≤ 0) (f7 : x5 = 0) (f8 : 1 ≤ pn_0) (f9 : 3 ≤ pn_0) (f10 : pn_0 ≤ 24) (f11 : GLU (pn_0) (pm_0) (pt_0) (ph_0) (alive_0) (x4)) (f12 : UNP (pn_0) (pm_0) (pt_0) (ph_0) (alive_0) (x6)) (f13 : GRI (pn_0) (pm_0) (pt_0) (ph_0) (alive_0) (rotMany_0) (rot_0)) (f15 : 1 * x15 + ((-1) * x4 + 0) ≤ 0) (f16 : (-1) * x15 + (1 * x4 + 0) ≤ 0) (f17 : 1 * x13 + ((-1) * x4 + 0) ≤ 0) (f18 : (-1) * x13 + (1 * x4 + 0) ≤ 0) (f19 : 1 * x6 + ((-1) * x2 + 0) ≤ 0) (f20 : (-1) * x6 + (1 * x2 + 0) ≤ 0) (f22 : 1 * x13 + ((-1) * x4 + 0) ≤ 0) (f23 : (-1) * x13 + (1 * x4 + 0) ≤ 0) (f24 : 1 * x6 + ((-1) * x2 + 0) ≤ 0) (f25 : (-1) * x6 + (1 * x2 + 0) ≤ 0) (f27 : 1 * x6 + ((-1) * x2 + 0) ≤ 0) (f28 : (-1) * x6 + (1 * x2 + 0) ≤ 0) (hK_0_33 : ∀ j : Int, 0 ≤ j → j < 80 → 0 ≤ pt_0 j ∧ pt_0 j ≤ 24) (hK_0_34 : ∀ j : Int, 0 ≤ j → j < 80 → 0 ≤ ph_0 j ∧ ph_0 j ≤ 24) (hK_0_35 : ∀ j : Int, 0 ≤ j → j < 80 → 0 ≤ alive_0 j ∧ alive_0 j ≤ 1) (hK_0_36 : ∀ j : Int, 0 ≤ j → j < 26 → 0 ≤ rotMany_0 j ∧ rotMany_0 j ≤ 80) (hK_0_37 : ∀ j : Int, 0 ≤ j → j < 2080 → 0 ≤ rot_0 j ∧ rot_0 j ≤ 79) (kz_0_31 : 0 ≤ pn_0 ∧ pn_0 ≤ 25) (kz_0_32 : 0 ≤ pm_0 ∧ pm_0 ≤ 80) (ex2 : gx = 0 + (1 * x2 + 0)) (ex3 : (-2) ≤ gx ∧ gx ≤ 25) : (-1) * gx + 0 ≤ (-1) := by
  first
    | omega
    | (have h := una_less ‹GLU _ _ _ _ _ _› ‹UNP _ _ _ _ _ _›
       have h2 := czb (rcN pm_0 pt_0 ph_0 alive_0) (n := pn_0) (by omega)
       unfold UNA unc at h
       omega)
def o_Mo_grid_7 : or_T := (64, 16, [(0, (2, 0, 0, [150])), (2, (0, -2, 25, [])), (4, (0, 0, 24, [])), (5, (0, 0, 0, [])), (6, (0, -2, 25, [])), (13, (0, 0, 24, [])), (15, (0, 0, 24, []))], [(23, [15, 4], [0, 1, -1]), (23, [15, 4], [0, -1, 1]), (23, [13, 4], [0, 1, -1]), (23, [13, 4], [0, -1, 1]), (20, [5], [50, 0, 0, 1, 2, 1, 0, 0, 0]), (23, [6, 2], [0, 1, -1]), (23, [6, 2], [0, -1, 1]), (20, [5], [50, 0, 0, 1, 2, 1, 0, 0, 0]), (20, [0], [50, 1, 0, 31, 0, 2, 0, 1, 2, 0, 31]), (20, [0], [50, 1, 0, 31, 0, 2, 0, 3, 2, 0, 31]), (20, [0], [50, 1, 0, 31, 0, 3, 2, 0, 31, 0, 24]), (20, [0, 4], [60, 2, 3, 192, 31, 32, 33, 34, 35]), (20, [0, 6], [60, 2, 3, 191, 31, 32, 33, 34, 35]), (20, [0], [60, 2, 5, 185, 31, 32, 33, 34, 35, 36, 37]), (102, [15], [1122433257470133441180429951526105359095756193005568]), (23, [15, 4], [0, 1, -1]), (23, [15, 4], [0, -1, 1]), (23, [13, 4], [0, 1, -1]), (23, [13, 4], [0, -1, 1]), (23, [6, 2], [0, 1, -1]), (23, [6, 2], [0, -1, 1]), (102, [13], [1122433257470133441180429951526105359095756193005568]), (23, [13, 4], [0, 1, -1]), (23, [13, 4], [0, -1, 1]), (23, [6, 2], [0, 1, -1]), (23, [6, 2], [0, -1, 1]), (102, [6], [327376366762122253677625402528447396402928889626624, 13032]), (23, [6, 2], [0, 1, -1]), (23, [6, 2], [0, -1, 1])], [], [(0, -2, 25, [])], [(20, [0], [60, 2, 2, 0, 31, 32, 33, 34]), (20, [0], [50, 1, 0, 31, 0, 2, 0, 3, 2, 0, 31]), (20, [0], [50, 1, 0, 31, 0, 3, 2, 0, 31, 0, 24]), (20, [0, 16], [60, 2, 5, 187, 31, 32, 33, 34, 35, 36, 37]), (23, [16], [-1, -1])], [(16, 2, 0, 0)], [])
theorem oo_Mo_grid_7 {kA : Nat → ClassId} : or_ok PRD kA GG o_Mo_grid_7 := by
  intro A ta ws vs hD hth hl hk hds hf
  have hl : vs.length = 16 := hl
  have hk : ∀ q ∈ ([(0, (2, 0, 0, [150])), (2, (0, -2, 25, [])), (4, (0, 0, 24, [])), (5, (0, 0, 0, [])), (6, (0, -2, 25, [])), (13, (0, 0, 24, [])), (15, (0, 0, 24, []))] : List (Nat × tv_T)), tv_ok ta q.2 (n_v vs q.1) := hk
  obtain ⟨t0, hk⟩ := List.forall_mem_cons.mp hk
  have t0 : tv_ok ta (2, 0, 0, [150]) (n_v vs 0) := t0
  have r0 : ta (v_ad (n_v vs 0)) = some 150 := tv_rg t0
  obtain ⟨t2, hk⟩ := List.forall_mem_cons.mp hk
  have t2 : tv_ok ta (0, -2, 25, []) (n_v vs 2) := t2
  have k2 : (-2) ≤ v_iv (n_v vs 2) ∧ v_iv (n_v vs 2) ≤ 25 := tv_rng t2
  obtain ⟨t4, hk⟩ := List.forall_mem_cons.mp hk
  have t4 : tv_ok ta (0, 0, 24, []) (n_v vs 4) := t4
  have k4 : 0 ≤ v_iv (n_v vs 4) ∧ v_iv (n_v vs 4) ≤ 24 := tv_rng t4
  obtain ⟨t5, hk⟩ := List.forall_mem_cons.mp hk
  have t5 : tv_ok ta (0, 0, 0, []) (n_v vs 5) := t5
  have k5 : 0 ≤ v_iv (n_v vs 5) ∧ v_iv (n_v vs 5) ≤ 0 := tv_rng t5
  obtain ⟨t6, hk⟩ := List.forall_mem_cons.mp hk
  have t6 : tv_ok ta (0, -2, 25, []) (n_v vs 6) := t6
  have k6 : (-2) ≤ v_iv (n_v vs 6) ∧ v_iv (n_v vs 6) ≤ 25 := tv_rng t6
  obtain ⟨t13, hk⟩ := List.forall_mem_cons.mp hk
  have t13 : tv_ok ta (0, 0, 24, []) (n_v vs 13) := t13
  have k13 : 0 ≤ v_iv (n_v vs 13) ∧ v_iv (n_v vs 13) ≤ 24 := tv_rng t13
  obtain ⟨t15, hk⟩ := List.forall_mem_cons.mp hk
  have t15 : tv_ok ta (0, 0, 24, []) (n_v vs 15) := t15
  have k15 : 0 ≤ v_iv (n_v vs 15) ∧ v_iv (n_v vs 15) ≤ 24 := tv_rng t15
  have hf : fc_ok PRD [(23, [15, 4], [0, 1, -1]), (23, [15, 4], [0, -1, 1]), (23, [13, 4], [0, 1, -1]), (23, [13, 4], [0, -1, 1]), (20, [5], [50, 0, 0, 1, 2, 1, 0, 0, 0]), (23, [6, 2], [0, 1, -1]), (23, [6, 2], [0, -1, 1]), (20, [5], [50, 0, 0, 1, 2, 1, 0, 0, 0]), (20, [0], [50, 1, 0, 31, 0, 2, 0, 1, 2, 0, 31]), (20, [0], [50, 1, 0, 31, 0, 2, 0, 3, 2, 0, 31]), (20, [0], [50, 1, 0, 31, 0, 3, 2, 0, 31, 0, 24]), (20, [0, 4], [60, 2, 3, 192, 31, 32, 33, 34, 35]), (20, [0, 6], [60, 2, 3, 191, 31, 32, 33, 34, 35]), (20, [0], [60, 2, 5, 185, 31, 32, 33, 34, 35, 36, 37]), (102, [15], [1122433257470133441180429951526105359095756193005568]), (23, [15, 4], [0, 1, -1]), (23, [15, 4], [0, -1, 1]), (23, [13, 4], [0, 1, -1]), (23, [13, 4], [0, -1, 1]), (23, [6, 2], [0, 1, -1]), (23, [6, 2], [0, -1, 1]), (102, [13], [1122433257470133441180429951526105359095756193005568]), (23, [13, 4], [0, 1, -1]), (23, [13, 4], [0, -1, 1]), (23, [6, 2], [0, 1, -1]), (23, [6, 2], [0, -1, 1]), (102, [6], [327376366762122253677625402528447396402928889626624, 13032]), (23, [6, 2], [0, 1, -1]), (23, [6, 2], [0, -1, 1])] ta ws vs := hf
  obtain ⟨f0, hf⟩ := fc_un (show (23 : Nat) < 100 from by decide) hf
  have f0 : 1 * v_iv (n_v vs 15) + ((-1) * v_iv (n_v vs 4) + 0) ≤ 0 := f0
  obtain ⟨f1, hf⟩ := fc_un (show (23 : Nat) < 100 from by decide) hf
  have f1 : (-1) * v_iv (n_v vs 15) + (1 * v_iv (n_v vs 4) + 0) ≤ 0 := f1
  obtain ⟨f2, hf⟩ := fc_un (show (23 : Nat) < 100 from by decide) hf
  have f2 : 1 * v_iv (n_v vs 13) + ((-1) * v_iv (n_v vs 4) + 0) ≤ 0 := f2
  obtain ⟨f3, hf⟩ := fc_un (show (23 : Nat) < 100 from by decide) hf
  have f3 : (-1) * v_iv (n_v vs 13) + (1 * v_iv (n_v vs 4) + 0) ≤ 0 := f3
  obtain ⟨f4, hf⟩ := fc_un (show (20 : Nat) < 100 from by decide) hf
  have f4 : v_iv (n_v vs 5) = 0 := f4
  obtain ⟨f5, hf⟩ := fc_un (show (23 : Nat) < 100 from by decide) hf
  have f5 : 1 * v_iv (n_v vs 6) + ((-1) * v_iv (n_v vs 2) + 0) ≤ 0 := f5
  obtain ⟨f6, hf⟩ := fc_un (show (23 : Nat) < 100 from by decide) hf
  have f6 : (-1) * v_iv (n_v vs 6) + (1 * v_iv (n_v vs 2) + 0) ≤ 0 := f6
  obtain ⟨f7, hf⟩ := fc_un (show (20 : Nat) < 100 from by decide) hf
  have f7 : v_iv (n_v vs 5) = 0 := f7
  obtain ⟨f8, hf⟩ := fc_un (show (20 : Nat) < 100 from by decide) hf
  have f8 : 1 ≤ w_fi ws (n_v vs 0) 31 := f8
  obtain ⟨f9, hf⟩ := fc_un (show (20 : Nat) < 100 from by decide) hf
  have f9 : 3 ≤ w_fi ws (n_v vs 0) 31 := f9
  obtain ⟨f10, hf⟩ := fc_un (show (20 : Nat) < 100 from by decide) hf
  have f10 : w_fi ws (n_v vs 0) 31 ≤ 24 := f10
  obtain ⟨f11, hf⟩ := fc_un (show (20 : Nat) < 100 from by decide) hf
  have f11 : GLU (w_fi ws (n_v vs 0) 31) (w_fi ws (n_v vs 0) 32) (w_ei ws (w_ar ws (n_v vs 0) 33)) (w_ei ws (w_ar ws (n_v vs 0) 34)) (w_ei ws (w_ar ws (n_v vs 0) 35)) (v_iv (n_v vs 4)) := f11
  obtain ⟨f12, hf⟩ := fc_un (show (20 : Nat) < 100 from by decide) hf
  have f12 : UNP (w_fi ws (n_v vs 0) 31) (w_fi ws (n_v vs 0) 32) (w_ei ws (w_ar ws (n_v vs 0) 33)) (w_ei ws (w_ar ws (n_v vs 0) 34)) (w_ei ws (w_ar ws (n_v vs 0) 35)) (v_iv (n_v vs 6)) := f12
  obtain ⟨f13, hf⟩ := fc_un (show (20 : Nat) < 100 from by decide) hf
  have f13 : GRI (w_fi ws (n_v vs 0) 31) (w_fi ws (n_v vs 0) 32) (w_ei ws (w_ar ws (n_v vs 0) 33)) (w_ei ws (w_ar ws (n_v vs 0) 34)) (w_ei ws (w_ar ws (n_v vs 0) 35)) (w_ei ws (w_ar ws (n_v vs 0) 36)) (w_ei ws (w_ar ws (n_v vs 0) 37)) := f13
  obtain ⟨ta1, w1, le1, ⟨_, s1⟩, hf⟩ := fc_us (show ¬ (102 : Nat) < 100 from by decide) hf
  obtain ⟨f15, hf⟩ := fc_un (show (23 : Nat) < 100 from by decide) hf
  have f15 : 1 * v_iv (n_v vs 15) + ((-1) * v_iv (n_v vs 4) + 0) ≤ 0 := f15
  obtain ⟨f16, hf⟩ := fc_un (show (23 : Nat) < 100 from by decide) hf
  have f16 : (-1) * v_iv (n_v vs 15) + (1 * v_iv (n_v vs 4) + 0) ≤ 0 := f16
  obtain ⟨f17, hf⟩ := fc_un (show (23 : Nat) < 100 from by decide) hf
  have f17 : 1 * v_iv (n_v vs 13) + ((-1) * v_iv (n_v vs 4) + 0) ≤ 0 := f17
  obtain ⟨f18, hf⟩ := fc_un (show (23 : Nat) < 100 from by decide) hf
  have f18 : (-1) * v_iv (n_v vs 13) + (1 * v_iv (n_v vs 4) + 0) ≤ 0 := f18
  obtain ⟨f19, hf⟩ := fc_un (show (23 : Nat) < 100 from by decide) hf
  have f19 : 1 * v_iv (n_v vs 6) + ((-1) * v_iv (n_v vs 2) + 0) ≤ 0 := f19
  obtain ⟨f20, hf⟩ := fc_un (show (23 : Nat) < 100 from by decide) hf
  have f20 : (-1) * v_iv (n_v vs 6) + (1 * v_iv (n_v vs 2) + 0) ≤ 0 := f20
  obtain ⟨ta2, w2, le2, ⟨_, s2⟩, hf⟩ := fc_us (show ¬ (102 : Nat) < 100 from by decide) hf
  obtain ⟨f22, hf⟩ := fc_un (show (23 : Nat) < 100 from by decide) hf
  have f22 : 1 * v_iv (n_v vs 13) + ((-1) * v_iv (n_v vs 4) + 0) ≤ 0 := f22
  obtain ⟨f23, hf⟩ := fc_un (show (23 : Nat) < 100 from by decide) hf
  have f23 : (-1) * v_iv (n_v vs 13) + (1 * v_iv (n_v vs 4) + 0) ≤ 0 := f23
  obtain ⟨f24, hf⟩ := fc_un (show (23 : Nat) < 100 from by decide) hf
  have f24 : 1 * v_iv (n_v vs 6) + ((-1) * v_iv (n_v vs 2) + 0) ≤ 0 := f24
  obtain ⟨f25, hf⟩ := fc_un (show (23 : Nat) < 100 from by decide) hf
  have f25 : (-1) * v_iv (n_v vs 6) + (1 * v_iv (n_v vs 2) + 0) ≤ 0 := f25
  obtain ⟨ta3, w3, le3, ⟨_, s3⟩, hf⟩ := fc_us (show ¬ (102 : Nat) < 100 from by decide) hf
  obtain ⟨f27, hf⟩ := fc_un (show (23 : Nat) < 100 from by decide) hf
  have f27 : 1 * v_iv (n_v vs 6) + ((-1) * v_iv (n_v vs 2) + 0) ≤ 0 := f27
  obtain ⟨f28, hf⟩ := fc_un (show (23 : Nat) < 100 from by decide) hf
  have f28 : (-1) * v_iv (n_v vs 6) + (1 * v_iv (n_v vs 2) + 0) ≤ 0 := f28
  have cr_0_33 : ta (w_ar ws (n_v vs 0) 33) = some 165 := tv_rg (th_fd hD hth r0 (g := GG_150) rfl (k := 33) (t := (2, 0, 0, [165])) rfl rfl)
  have cr_0_34 : ta (w_ar ws (n_v vs 0) 34) = some 166 := tv_rg (th_fd hD hth r0 (g := GG_150) rfl (k := 34) (t := (2, 0, 0, [166])) rfl rfl)
  have cr_0_35 : ta (w_ar ws (n_v vs 0) 35) = some 167 := tv_rg (th_fd hD hth r0 (g := GG_150) rfl (k := 35) (t := (2, 0, 0, [167])) rfl rfl)
  have cr_0_36 : ta (w_ar ws (n_v vs 0) 36) = some 168 := tv_rg (th_fd hD hth r0 (g := GG_150) rfl (k := 36) (t := (2, 0, 0, [168])) rfl rfl)
  have cr_0_37 : ta (w_ar ws (n_v vs 0) 37) = some 169 := tv_rg (th_fd hD hth r0 (g := GG_150) rfl (k := 37) (t := (2, 0, 0, [169])) rfl rfl)
  have hK_0_33 : ∀ j : Int, 0 ≤ j → j < 80 → 0 ≤ w_ei ws (w_ar ws (n_v vs 0) 33) j ∧ w_ei ws (w_ar ws (n_v vs 0) 33) j ≤ 24 := fun j h0 h1 => th_el hD hth cr_0_33 (kd := 0) (n := 80) (m := 80) (lo := 0) (hi := 24) (rs := []) (L := []) rfl (by decide) (j := j.toNat) (by omega)
  have hK_0_34 : ∀ j : Int, 0 ≤ j → j < 80 → 0 ≤ w_ei ws (w_ar ws (n_v vs 0) 34) j ∧ w_ei ws (w_ar ws (n_v vs 0) 34) j ≤ 24 := fun j h0 h1 => th_el hD hth cr_0_34 (kd := 0) (n := 80) (m := 80) (lo := 0) (hi := 24) (rs := []) (L := []) rfl (by decide) (j := j.toNat) (by omega)
  have hK_0_35 : ∀ j : Int, 0 ≤ j → j < 80 → 0 ≤ w_ei ws (w_ar ws (n_v vs 0) 35) j ∧ w_ei ws (w_ar ws (n_v vs 0) 35) j ≤ 1 := fun j h0 h1 => th_el hD hth cr_0_35 (kd := 2) (n := 80) (m := 80) (lo := 0) (hi := 1) (rs := []) (L := []) rfl (by decide) (j := j.toNat) (by omega)
  have hK_0_36 : ∀ j : Int, 0 ≤ j → j < 26 → 0 ≤ w_ei ws (w_ar ws (n_v vs 0) 36) j ∧ w_ei ws (w_ar ws (n_v vs 0) 36) j ≤ 80 := fun j h0 h1 => th_el hD hth cr_0_36 (kd := 0) (n := 26) (m := 26) (lo := 0) (hi := 80) (rs := []) (L := []) rfl (by decide) (j := j.toNat) (by omega)
  have hK_0_37 : ∀ j : Int, 0 ≤ j → j < 2080 → 0 ≤ w_ei ws (w_ar ws (n_v vs 0) 37) j ∧ w_ei ws (w_ar ws (n_v vs 0) 37) j ≤ 79 := fun j h0 h1 => th_el hD hth cr_0_37 (kd := 0) (n := 2080) (m := 2080) (lo := 0) (hi := 79) (rs := []) (L := []) rfl (by decide) (j := j.toNat) (by omega)
  have kz_0_31 : 0 ≤ w_fi ws (n_v vs 0) 31 ∧ w_fi ws (n_v vs 0) 31 ≤ 25 := tv_rng (th_fd hD hth r0 (g := GG_150) rfl (k := 31) (t := (0, 0, 25, [])) rfl rfl)
  have kz_0_32 : 0 ≤ w_fi ws (n_v vs 0) 32 ∧ w_fi ws (n_v vs 0) 32 ≤ 80 := tv_rng (th_fd hD hth r0 (g := GG_150) rfl (k := 32) (t := (0, 0, 80, [])) rfl rfl)
  obtain ⟨x, ex, hx⟩ := iv_ex (ta := ta) (lo := (-2)) (hi := 25) (z := 0 + (1 * v_iv (n_v vs 2) + 0)) (by omega) (by omega) (by omega) (by omega)
  have ex2 : v_iv (Value.int x) = 0 + (1 * v_iv (n_v vs 2) + 0) := ex
  have ex3 : (-2) ≤ v_iv (Value.int x) ∧ v_iv (Value.int x) ≤ 25 := tv_rng hx
  have e_0 : n_v (vs ++ [Value.int x]) 0 = n_v vs 0 := n_v_old (by rw [hl]; decide)
  have e_16 : n_v (vs ++ [Value.int x]) 16 = Value.int x := n_v_new hl
  have nf0 : fc_1 PRD (20, [0], [60, 2, 2, 0, 31, 32, 33, 34]) ws (vs ++ [Value.int x]) := by
    refine ⟨fun n hn => ?_, ?_⟩
    · have hn : n ∈ [0] := hn
      rw [List.length_append, hl]
      simp only [List.mem_cons, List.not_mem_nil, or_false] at hn
      show n < 16 + 1; omega
    · show GOK (w_fi ws (n_v (vs ++ [Value.int x]) 0) 31) (w_fi ws (n_v (vs ++ [Value.int x]) 0) 32) (w_ei ws (w_ar ws (n_v (vs ++ [Value.int x]) 0) 33)) (w_ei ws (w_ar ws (n_v (vs ++ [Value.int x]) 0) 34))
      rw [e_0]
      exact vc_Mo_grid_7_0 (v_iv (n_v vs 2)) (v_iv (n_v vs 4)) (v_iv (n_v vs 5)) (v_iv (n_v vs 6)) (v_iv (n_v vs 13)) (v_iv (n_v vs 15)) (w_fi ws (n_v vs 0) 31) (w_ei ws (w_ar ws (n_v vs 0) 33)) (w_ei ws (w_ar ws (n_v vs 0) 34)) (w_ei ws (w_ar ws (n_v vs 0) 35)) (w_fi ws (n_v vs 0) 32) (w_ei ws (w_ar ws (n_v vs 0) 36)) (w_ei ws (w_ar ws (n_v vs 0) 37)) (v_iv (Value.int x)) k2 k4 k5 k6 k13 k15 f0 f1 f2 f3 f4 f5 f6 f7 f8 f9 f10 f11 f12 f13 f15 f16 f17 f18 f19 f20 f22 f23 f24 f25 f27 f28 hK_0_33 hK_0_34 hK_0_35 hK_0_36 hK_0_37 kz_0_31 kz_0_32 ex2 ex3
  have nf1 : fc_1 PRD (20, [0], [50, 1, 0, 31, 0, 2, 0, 3, 2, 0, 31]) ws (vs ++ [Value.int x]) := by
    refine ⟨fun n hn => ?_, ?_⟩
    · have hn : n ∈ [0] := hn
      rw [List.length_append, hl]
      simp only [List.mem_cons, List.not_mem_nil, or_false] at hn
      show n < 16 + 1; omega
    · show 3 ≤ w_fi ws (n_v (vs ++ [Value.int x]) 0) 31
      rw [e_0]
      exact vc_Mo_grid_7_1 (v_iv (n_v vs 2)) (v_iv (n_v vs 4)) (v_iv (n_v vs 5)) (v_iv (n_v vs 6)) (v_iv (n_v vs 13)) (v_iv (n_v vs 15)) (w_fi ws (n_v vs 0) 31) (w_ei ws (w_ar ws (n_v vs 0) 33)) (w_ei ws (w_ar ws (n_v vs 0) 34)) (w_ei ws (w_ar ws (n_v vs 0) 35)) (w_fi ws (n_v vs 0) 32) (w_ei ws (w_ar ws (n_v vs 0) 36)) (w_ei ws (w_ar ws (n_v vs 0) 37)) (v_iv (Value.int x)) k2 k4 k5 k6 k13 k15 f0 f1 f2 f3 f4 f5 f6 f7 f8 f9 f10 f11 f12 f13 f15 f16 f17 f18 f19 f20 f22 f23 f24 f25 f27 f28 hK_0_33 hK_0_34 hK_0_35 hK_0_36 hK_0_37 kz_0_31 kz_0_32 ex2 ex3
  have nf2 : fc_1 PRD (20, [0], [50, 1, 0, 31, 0, 3, 2, 0, 31, 0, 24]) ws (vs ++ [Value.int x]) := by
    refine ⟨fun n hn => ?_, ?_⟩
    · have hn : n ∈ [0] := hn
      rw [List.length_append, hl]
      simp only [List.mem_cons, List.not_mem_nil, or_false] at hn
      show n < 16 + 1; omega
    · show w_fi ws (n_v (vs ++ [Value.int x]) 0) 31 ≤ 24
      rw [e_0]
      exact vc_Mo_grid_7_2 (v_iv (n_v vs 2)) (v_iv (n_v vs 4)) (v_iv (n_v vs 5)) (v_iv (n_v vs 6)) (v_iv (n_v vs 13)) (v_iv (n_v vs 15)) (w_fi ws (n_v vs 0) 31) (w_ei ws (w_ar ws (n_v vs 0) 33)) (w_ei ws (w_ar ws (n_v vs 0) 34)) (w_ei ws (w_ar ws (n_v vs 0) 35)) (w_fi ws (n_v vs 0) 32) (w_ei ws (w_ar ws (n_v vs 0) 36)) (w_ei ws (w_ar ws (n_v vs 0) 37)) (v_iv (Value.int x)) k2 k4 k5 k6 k13 k15 f0 f1 f2 f3 f4 f5 f6 f7 f8 f9 f10 f11 f12 f13 f15 f16 f17 f18 f19 f20 f22 f23 f24 f25 f27 f28 hK_0_33 hK_0_34 hK_0_35 hK_0_36 hK_0_37 kz_0_31 kz_0_32 ex2 ex3
  have nf3 : fc_1 PRD (20, [0, 16], [60, 2, 5, 187, 31, 32, 33, 34, 35, 36, 37]) ws (vs ++ [Value.int x]) := by
    refine ⟨fun n hn => ?_, ?_⟩
    · have hn : n ∈ [0, 16] := hn
      rw [List.length_append, hl]
      simp only [List.mem_cons, List.not_mem_nil, or_false] at hn
      show n < 16 + 1; omega
    · show GR1n (w_fi ws (n_v (vs ++ [Value.int x]) 0) 31) (w_fi ws (n_v (vs ++ [Value.int x]) 0) 32) (w_ei ws (w_ar ws (n_v (vs ++ [Value.int x]) 0) 33)) (w_ei ws (w_ar ws (n_v (vs ++ [Value.int x]) 0) 34)) (w_ei ws (w_ar ws (n_v (vs ++ [Value.int x]) 0) 35)) (w_ei ws (w_ar ws (n_v (vs ++ [Value.int x]) 0) 36)) (w_ei ws (w_ar ws (n_v (vs ++ [Value.int x]) 0) 37)) (v_iv (n_v (vs ++ [Value.int x]) 16))
      rw [e_0]
      rw [e_16]
      exact vc_Mo_grid_7_3 (v_iv (n_v vs 2)) (v_iv (n_v vs 4)) (v_iv (n_v vs 5)) (v_iv (n_v vs 6)) (v_iv (n_v vs 13)) (v_iv (n_v vs 15)) (w_fi ws (n_v vs 0) 31) (w_ei ws (w_ar ws (n_v vs 0) 33)) (w_ei ws (w_ar ws (n_v vs 0) 34)) (w_ei ws (w_ar ws (n_v vs 0) 35)) (w_fi ws (n_v vs 0) 32) (w_ei ws (w_ar ws (n_v vs 0) 36)) (w_ei ws (w_ar ws (n_v vs 0) 37)) (v_iv (Value.int x)) k2 k4 k5 k6 k13 k15 f0 f1 f2 f3 f4 f5 f6 f7 f8 f9 f10 f11 f12 f13 f15 f16 f17 f18 f19 f20 f22 f23 f24 f25 f27 f28 hK_0_33 hK_0_34 hK_0_35 hK_0_36 hK_0_37 kz_0_31 kz_0_32 ex2 ex3
  have nf4 : fc_1 PRD (23, [16], [-1, -1]) ws (vs ++ [Value.int x]) := by
    refine ⟨fun n hn => ?_, ?_⟩
    · have hn : n ∈ [16] := hn
      rw [List.length_append, hl]
      simp only [List.mem_cons, List.not_mem_nil, or_false] at hn
      show n < 16 + 1; omega
    · show (-1) * v_iv (n_v (vs ++ [Value.int x]) 16) + 0 ≤ (-1)
      rw [e_16]
      exact vc_Mo_grid_7_4 (v_iv (n_v vs 2)) (v_iv (n_v vs 4)) (v_iv (n_v vs 5)) (v_iv (n_v vs 6)) (v_iv (n_v vs 13)) (v_iv (n_v vs 15)) (w_fi ws (n_v vs 0) 31) (w_ei ws (w_ar ws (n_v vs 0) 33)) (w_ei ws (w_ar ws (n_v vs 0) 34)) (w_ei ws (w_ar ws (n_v vs 0) 35)) (w_fi ws (n_v vs 0) 32) (w_ei ws (w_ar ws (n_v vs 0) 36)) (w_ei ws (w_ar ws (n_v vs 0) 37)) (v_iv (Value.int x)) k2 k4 k5 k6 k13 k15 f0 f1 f2 f3 f4 f5 f6 f7 f8 f9 f10 f11 f12 f13 f15 f16 f17 f18 f19 f20 f22 f23 f24 f25 f27 f28 hK_0_33 hK_0_34 hK_0_35 hK_0_36 hK_0_37 kz_0_31 kz_0_32 ex2 ex3
  obtain ⟨x0, e0, _, _⟩ := tv_int t2 rfl
  have e1 : v_iv (n_v vs 2) = x0.toInt := by rw [e0]; rfl
  have ho : sy_ofs (vs ++ [Value.int x]) (16, 2, 0, 0) := by
    refine ⟨x, x0, by rw [List.getElem?_append_right (by rw [hl]; decide), hl]; rfl, ?_, ?_, ?_⟩
    · rw [List.getElem?_append_left (by rw [hl]; decide)]; exact n_v_some (by rw [hl]; decide) e0
    · show x0.toInt + 0 ≤ x.toInt; omega
    · show x.toInt ≤ x0.toInt + 0; omega
  exact ⟨(fun _ h => (by cases h)), [Value.int x], ag_one hx, List.forall_mem_cons.mpr ⟨⟨show (20 : Nat) < 100 from by decide, nf0⟩, List.forall_mem_cons.mpr ⟨⟨show (20 : Nat) < 100 from by decide, nf1⟩, List.forall_mem_cons.mpr ⟨⟨show (20 : Nat) < 100 from by decide, nf2⟩, List.forall_mem_cons.mpr ⟨⟨show (20 : Nat) < 100 from by decide, nf3⟩, List.forall_mem_cons.mpr ⟨⟨show (23 : Nat) < 100 from by decide, nf4⟩, (fun _ h => (by cases h))⟩⟩⟩⟩⟩, List.forall_mem_cons.mpr ⟨ho, (fun _ h => (by cases h))⟩⟩
set_option maxHeartbeats 4000000 in
theorem vc_Mo_grid_8_0 (x4 : Int) (pt_0 : Int → Int) (ph_0 : Int → Int) (pn_0 : Int) (pm_0 : Int) (alive_0 : Int → Int) (rotMany_0 : Int → Int) (rot_0 : Int → Int) (gx : Int) (k4 : (-2) ≤ x4 ∧ x4 ≤ 25) (f0 : GOK (pn_0) (pm_0) (pt_0) (ph_0)) (f1 : 3 ≤ pn_0) (f2 : pn_0 ≤ 24) (f3 : GR1n (pn_0) (pm_0) (pt_0) (ph_0) (alive_0) (rotMany_0) (rot_0) (x4)) (f4 : (-1) * x4 + 0 ≤ (-1)) (hK_0_33 : ∀ j : Int, 0 ≤ j → j < 80 → 0 ≤ pt_0 j ∧ pt_0 j ≤ 24) (hK_0_34 : ∀ j : Int, 0 ≤ j → j < 80 → 0 ≤ ph_0 j ∧ ph_0 j ≤ 24) (hK_0_35 : ∀ j : Int, 0 ≤ j → j < 80 → 0 ≤ alive_0 j ∧ alive_0 j ≤ 1) (hK_0_36 : ∀ j : Int, 0 ≤ j → j < 26 → 0 ≤ rotMany_0 j ∧ rotMany_0 j ≤ 80) (hK_0_37 : ∀ j : Int, 0 ≤ j → j < 2080 → 0 ≤ rot_0 j ∧ rot_0 j ≤ 79) (kz_0_31 : 0 ≤ pn_0 ∧ pn_0 ≤ 25) (kz_0_32 : 0 ≤ pm_0 ∧ pm_0 ≤ 80) (ex2 : gx = (-1) + (1 * x4 + 0)) (ex3 : (-2) ≤ gx ∧ gx ≤ 25) : GOK (pn_0) (pm_0) (pt_0) (ph_0) := by
  first
    | assumption
    | exact ‹GRI _ _ _ _ _ _ _›.1.1
set_option maxHeartbeats 4000000 in
theorem vc_Mo_grid_8_1 (x4 : Int) (pt_0 : Int → Int) (ph_0 : Int → Int) (pn_0 : Int) (pm_0 : Int) (alive_0 : Int → Int) (rotMany_0 : Int → Int) (rot_0 : Int → Int) (gx : Int) (k4 : (-2) ≤ x4 ∧ x4 ≤ 25) (f0 : GOK (pn_0) (pm_0) (pt_0) (ph_0)) (f1 : 3 ≤ pn_0) (f2 : pn_0 ≤ 24) (f3 : GR1n (pn_0) (pm_0) (pt_0) (ph_0) (alive_0) (rotMany_0) (rot_0) (x4)) (f4 : (-1) * x4 + 0 ≤ (-1)) (hK_0_33 : ∀ j : Int, 0 ≤ j → j < 80 → 0 ≤ pt_0 j ∧ pt_0 j ≤ 24) (hK_0_34 : ∀ j : Int, 0 ≤ j → j < 80 → 0 ≤ ph_0 j ∧ ph_0 j ≤ 24) (hK_0_35 : ∀ j : Int, 0 ≤ j → j < 80 → 0 ≤ alive_0 j ∧ alive_0 j ≤ 1) (hK_0_36 : ∀ j : Int, 0 ≤ j → j < 26 → 0 ≤ rotMany_0 j ∧ rotMany_0 j ≤ 80) (hK_0_37 : ∀ j : Int, 0 ≤ j → j < 2080 → 0 ≤ rot_0 j ∧ rot_0 j ≤ 79) (kz_0_31 : 0 ≤ pn_0 ∧ pn_0 ≤ 25) (kz_0_32 : 0 ≤ pm_0 ∧ pm_0 ≤ 80) (ex2 : gx = (-1) + (1 * x4 + 0)) (ex3 : (-2) ≤ gx ∧ gx ≤ 25) : 3 ≤ pn_0 := by
  first
    | omega
    | (have h := ‹PLN _ _ _ _ _ _ _›
       have h1 := h.1.1
       have h2 := h.2.1
       simp only [Int.add_zero] at *
       omega)
    | (have h := gr1_m ‹GR1 _ _ _ _ _ _ _ _›; omega)
set_option maxHeartbeats 4000000 in
theorem vc_Mo_grid_8_2 (x4 : Int) (pt_0 : Int → Int) (ph_0 : Int → Int) (pn_0 : Int) (pm_0 : Int) (alive_0 : Int → Int) (rotMany_0 : Int → Int) (rot_0 : Int → Int) (gx : Int) (k4 : (-2) ≤ x4 ∧ x4 ≤ 25) (f0 : GOK (pn_0) (pm_0) (pt_0) (ph_0)) (f1 : 3 ≤ pn_0) (f2 : pn_0 ≤ 24) (f3 : GR1n (pn_0) (pm_0) (pt_0) (ph_0) (alive_0) (rotMany_0) (rot_0) (x4)) (f4 : (-1) * x4 + 0 ≤ (-1)) (hK_0_33 : ∀ j : Int, 0 ≤ j → j < 80 → 0 ≤ pt_0 j ∧ pt_0 j ≤ 24) (hK_0_34 : ∀ j : Int, 0 ≤ j → j < 80 → 0 ≤ ph_0 j ∧ ph_0 j ≤ 24) (hK_0_35 : ∀ j : Int, 0 ≤ j → j < 80 → 0 ≤ alive_0 j ∧ alive_0 j ≤ 1) (hK_0_36 : ∀ j : Int, 0 ≤ j → j < 26 → 0 ≤ rotMany_0 j ∧ rotMany_0 j ≤ 80) (hK_0_37 : ∀ j : Int, 0 ≤ j → j < 2080 → 0 ≤ rot_0 j ∧ rot_0 j ≤ 79) (kz_0_31 : 0 ≤ pn_0 ∧ pn_0 ≤ 25) (kz_0_32 : 0 ≤ pm_0 ∧ pm_0 ≤ 80) (ex2 : gx = (-1) + (1 * x4 + 0)) (ex3 : (-2) ≤ gx ∧ gx ≤ 25) : pn_0 ≤ 24 := by
  first
    | omega
    | (have h := ‹PLN _ _ _ _ _ _ _›
       have h1 := h.1.1
       have h2 := h.2.1
       simp only [Int.add_zero] at *
       omega)
    | (have h := gr1_m ‹GR1 _ _ _ _ _ _ _ _›; omega)
set_option maxHeartbeats 4000000 in
theorem vc_Mo_grid_8_3 (x4 : Int) (pt_0 : Int → Int) (ph_0 : Int → Int) (pn_0 : Int) (pm_0 : Int) (alive_0 : Int → Int) (rotMany_0 : Int → Int) (rot_0 : Int → Int) (gx : Int) (k4 : (-2) ≤ x4 ∧ x4 ≤ 25) (f0 : GOK (pn_0) (pm_0) (pt_0) (ph_0)) (f1 : 3 ≤ pn_0) (f2 : pn_0 ≤ 24) (f3 : GR1n (pn_0) (pm_0) (pt_0) (ph_0) (alive_0) (rotMany_0) (rot_0) (x4)) (f4 : (-1) * x4 + 0 ≤ (-1)) (hK_0_33 : ∀ j : Int, 0 ≤ j → j < 80 → 0 ≤ pt_0 j ∧ pt_0 j ≤ 24) (hK_0_34 : ∀ j : Int, 0 ≤ j → j < 80 → 0 ≤ ph_0 j ∧ ph_0 j ≤ 24) (hK_0_35 : ∀ j : Int, 0 ≤ j → j < 80 → 0 ≤ alive_0 j ∧ alive_0 j ≤ 1) (hK_0_36 : ∀ j : Int, 0 ≤ j → j < 26 → 0 ≤ rotMany_0 j ∧ rotMany_0 j ≤ 80) (hK_0_37 : ∀ j : Int, 0 ≤ j → j < 2080 → 0 ≤ rot_0 j ∧ rot_0 j ≤ 79) (kz_0_31 : 0 ≤ pn_0 ∧ pn_0 ≤ 25) (kz_0_32 : 0 ≤ pm_0 ∧ pm_0 ≤ 80) (ex2 : gx = (-1) + (1 * x4 + 0)) (ex3 : (-2) ≤ gx ∧ gx ≤ 25) : GR1 (pn_0) (pm_0) (pt_0) (ph_0) (alive_0) (rotMany_0) (rot_0) (gx) := by
  first
    | exact gr1_start ‹PLN _ _ _ _ _ _ _› ‹EMQ _ _ _ _ _ _ _ _ _› (by omega) (by simp only [Int.add_zero] at *; omega) (by omega)
    | (have h := ‹GR1n _ _ _ _ _ _ _ _›
       unfold GR1n at h
       rw [show gx = x4 - 1 by omega]; exact h)
def o_Mo_grid_8 : or_T := (21, 5, [(0, (2, 0, 0, [150])), (4, (0, -2, 25, []))], [(20, [0], [60, 2, 2, 0, 31, 32, 33, 34]), (20, [0], [50, 1, 0, 31, 0, 2, 0, 3, 2, 0, 31]), (20, [0], [50, 1, 0, 31, 0, 3, 2, 0, 31, 0, 24]), (20, [0, 4], [60, 2, 5, 187, 31, 32, 33, 34, 35, 36, 37]), (23, [4], [-1, -1])], [], [(0, -2, 25, [])], [(20, [0], [60, 2, 2, 0, 31, 32, 33, 34]), (20, [0], [50, 1, 0, 31, 0, 2, 0, 3, 2, 0, 31]), (20, [0], [50, 1, 0, 31, 0, 3, 2, 0, 31, 0, 24]), (20, [0, 5], [60, 2, 5, 186, 31, 32, 33, 34, 35, 36, 37])], [(5, 4, -1000000000000, -1)], [])
theorem oo_Mo_grid_8 {kA : Nat → ClassId} : or_ok PRD kA GG o_Mo_grid_8 := by
  intro A ta ws vs hD hth hl hk hds hf
  have hl : vs.length = 5 := hl
  have hk : ∀ q ∈ ([(0, (2, 0, 0, [150])), (4, (0, -2, 25, []))] : List (Nat × tv_T)), tv_ok ta q.2 (n_v vs q.1) := hk
  obtain ⟨t0, hk⟩ := List.forall_mem_cons.mp hk
  have t0 : tv_ok ta (2, 0, 0, [150]) (n_v vs 0) := t0
  have r0 : ta (v_ad (n_v vs 0)) = some 150 := tv_rg t0
  obtain ⟨t4, hk⟩ := List.forall_mem_cons.mp hk
  have t4 : tv_ok ta (0, -2, 25, []) (n_v vs 4) := t4
  have k4 : (-2) ≤ v_iv (n_v vs 4) ∧ v_iv (n_v vs 4) ≤ 25 := tv_rng t4
  have hf : fc_ok PRD [(20, [0], [60, 2, 2, 0, 31, 32, 33, 34]), (20, [0], [50, 1, 0, 31, 0, 2, 0, 3, 2, 0, 31]), (20, [0], [50, 1, 0, 31, 0, 3, 2, 0, 31, 0, 24]), (20, [0, 4], [60, 2, 5, 187, 31, 32, 33, 34, 35, 36, 37]), (23, [4], [-1, -1])] ta ws vs := hf
  obtain ⟨f0, hf⟩ := fc_un (show (20 : Nat) < 100 from by decide) hf
  have f0 : GOK (w_fi ws (n_v vs 0) 31) (w_fi ws (n_v vs 0) 32) (w_ei ws (w_ar ws (n_v vs 0) 33)) (w_ei ws (w_ar ws (n_v vs 0) 34)) := f0
  obtain ⟨f1, hf⟩ := fc_un (show (20 : Nat) < 100 from by decide) hf
  have f1 : 3 ≤ w_fi ws (n_v vs 0) 31 := f1
  obtain ⟨f2, hf⟩ := fc_un (show (20 : Nat) < 100 from by decide) hf
  have f2 : w_fi ws (n_v vs 0) 31 ≤ 24 := f2
  obtain ⟨f3, hf⟩ := fc_un (show (20 : Nat) < 100 from by decide) hf
  have f3 : GR1n (w_fi ws (n_v vs 0) 31) (w_fi ws (n_v vs 0) 32) (w_ei ws (w_ar ws (n_v vs 0) 33)) (w_ei ws (w_ar ws (n_v vs 0) 34)) (w_ei ws (w_ar ws (n_v vs 0) 35)) (w_ei ws (w_ar ws (n_v vs 0) 36)) (w_ei ws (w_ar ws (n_v vs 0) 37)) (v_iv (n_v vs 4)) := f3
  obtain ⟨f4, hf⟩ := fc_un (show (23 : Nat) < 100 from by decide) hf
  have f4 : (-1) * v_iv (n_v vs 4) + 0 ≤ (-1) := f4
  have cr_0_33 : ta (w_ar ws (n_v vs 0) 33) = some 165 := tv_rg (th_fd hD hth r0 (g := GG_150) rfl (k := 33) (t := (2, 0, 0, [165])) rfl rfl)
  have cr_0_34 : ta (w_ar ws (n_v vs 0) 34) = some 166 := tv_rg (th_fd hD hth r0 (g := GG_150) rfl (k := 34) (t := (2, 0, 0, [166])) rfl rfl)
  have cr_0_35 : ta (w_ar ws (n_v vs 0) 35) = some 167 := tv_rg (th_fd hD hth r0 (g := GG_150) rfl (k := 35) (t := (2, 0, 0, [167])) rfl rfl)
  have cr_0_36 : ta (w_ar ws (n_v vs 0) 36) = some 168 := tv_rg (th_fd hD hth r0 (g := GG_150) rfl (k := 36) (t := (2, 0, 0, [168])) rfl rfl)
  have cr_0_37 : ta (w_ar ws (n_v vs 0) 37) = some 169 := tv_rg (th_fd hD hth r0 (g := GG_150) rfl (k := 37) (t := (2, 0, 0, [169])) rfl rfl)
  have hK_0_33 : ∀ j : Int, 0 ≤ j → j < 80 → 0 ≤ w_ei ws (w_ar ws (n_v vs 0) 33) j ∧ w_ei ws (w_ar ws (n_v vs 0) 33) j ≤ 24 := fun j h0 h1 => th_el hD hth cr_0_33 (kd := 0) (n := 80) (m := 80) (lo := 0) (hi := 24) (rs := []) (L := []) rfl (by decide) (j := j.toNat) (by omega)
  have hK_0_34 : ∀ j : Int, 0 ≤ j → j < 80 → 0 ≤ w_ei ws (w_ar ws (n_v vs 0) 34) j ∧ w_ei ws (w_ar ws (n_v vs 0) 34) j ≤ 24 := fun j h0 h1 => th_el hD hth cr_0_34 (kd := 0) (n := 80) (m := 80) (lo := 0) (hi := 24) (rs := []) (L := []) rfl (by decide) (j := j.toNat) (by omega)
  have hK_0_35 : ∀ j : Int, 0 ≤ j → j < 80 → 0 ≤ w_ei ws (w_ar ws (n_v vs 0) 35) j ∧ w_ei ws (w_ar ws (n_v vs 0) 35) j ≤ 1 := fun j h0 h1 => th_el hD hth cr_0_35 (kd := 2) (n := 80) (m := 80) (lo := 0) (hi := 1) (rs := []) (L := []) rfl (by decide) (j := j.toNat) (by omega)
  have hK_0_36 : ∀ j : Int, 0 ≤ j → j < 26 → 0 ≤ w_ei ws (w_ar ws (n_v vs 0) 36) j ∧ w_ei ws (w_ar ws (n_v vs 0) 36) j ≤ 80 := fun j h0 h1 => th_el hD hth cr_0_36 (kd := 0) (n := 26) (m := 26) (lo := 0) (hi := 80) (rs := []) (L := []) rfl (by decide) (j := j.toNat) (by omega)
  have hK_0_37 : ∀ j : Int, 0 ≤ j → j < 2080 → 0 ≤ w_ei ws (w_ar ws (n_v vs 0) 37) j ∧ w_ei ws (w_ar ws (n_v vs 0) 37) j ≤ 79 := fun j h0 h1 => th_el hD hth cr_0_37 (kd := 0) (n := 2080) (m := 2080) (lo := 0) (hi := 79) (rs := []) (L := []) rfl (by decide) (j := j.toNat) (by omega)
  have kz_0_31 : 0 ≤ w_fi ws (n_v vs 0) 31 ∧ w_fi ws (n_v vs 0) 31 ≤ 25 := tv_rng (th_fd hD hth r0 (g := GG_150) rfl (k := 31) (t := (0, 0, 25, [])) rfl rfl)
  have kz_0_32 : 0 ≤ w_fi ws (n_v vs 0) 32 ∧ w_fi ws (n_v vs 0) 32 ≤ 80 := tv_rng (th_fd hD hth r0 (g := GG_150) rfl (k := 32) (t := (0, 0, 80, [])) rfl rfl)
  obtain ⟨x, ex, hx⟩ := iv_ex (ta := ta) (lo := (-2)) (hi := 25) (z := (-1) + (1 * v_iv (n_v vs 4) + 0)) (by omega) (by omega) (by omega) (by omega)
  have ex2 : v_iv (Value.int x) = (-1) + (1 * v_iv (n_v vs 4) + 0) := ex
  have ex3 : (-2) ≤ v_iv (Value.int x) ∧ v_iv (Value.int x) ≤ 25 := tv_rng hx
  have e_0 : n_v (vs ++ [Value.int x]) 0 = n_v vs 0 := n_v_old (by rw [hl]; decide)
  have e_5 : n_v (vs ++ [Value.int x]) 5 = Value.int x := n_v_new hl
  have nf0 : fc_1 PRD (20, [0], [60, 2, 2, 0, 31, 32, 33, 34]) ws (vs ++ [Value.int x]) := by
    refine ⟨fun n hn => ?_, ?_⟩
    · have hn : n ∈ [0] := hn
      rw [List.length_append, hl]
      simp only [List.mem_cons, List.not_mem_nil, or_false] at hn
      show n < 5 + 1; omega
    · show GOK (w_fi ws (n_v (vs ++ [Value.int x]) 0) 31) (w_fi ws (n_v (vs ++ [Value.int x]) 0) 32) (w_ei ws (w_ar ws (n_v (vs ++ [Value.int x]) 0) 33)) (w_ei ws (w_ar ws (n_v (vs ++ [Value.int x]) 0) 34))
      rw [e_0]
      exact vc_Mo_grid_8_0 (v_iv (n_v vs 4)) (w_ei ws (w_ar ws (n_v vs 0) 33)) (w_ei ws (w_ar ws (n_v vs 0) 34)) (w_fi ws (n_v vs 0) 31) (w_fi ws (n_v vs 0) 32) (w_ei ws (w_ar ws (n_v vs 0) 35)) (w_ei ws (w_ar ws (n_v vs 0) 36)) (w_ei ws (w_ar ws (n_v vs 0) 37)) (v_iv (Value.int x)) k4 f0 f1 f2 f3 f4 hK_0_33 hK_0_34 hK_0_35 hK_0_36 hK_0_37 kz_0_31 kz_0_32 ex2 ex3
  have nf1 : fc_1 PRD (20, [0], [50, 1, 0, 31, 0, 2, 0, 3, 2, 0, 31]) ws (vs ++ [Value.int x]) := by
    refine ⟨fun n hn => ?_, ?_⟩
    · have hn : n ∈ [0] := hn
      rw [List.length_append, hl]
      simp only [List.mem_cons, List.not_mem_nil, or_false] at hn
      show n < 5 + 1; omega
    · show 3 ≤ w_fi ws (n_v (vs ++ [Value.int x]) 0) 31
      rw [e_0]
      exact vc_Mo_grid_8_1 (v_iv (n_v vs 4)) (w_ei ws (w_ar ws (n_v vs 0) 33)) (w_ei ws (w_ar ws (n_v vs 0) 34)) (w_fi ws (n_v vs 0) 31) (w_fi ws (n_v vs 0) 32) (w_ei ws (w_ar ws (n_v vs 0) 35)) (w_ei ws (w_ar ws (n_v vs 0) 36)) (w_ei ws (w_ar ws (n_v vs 0) 37)) (v_iv (Value.int x)) k4 f0 f1 f2 f3 f4 hK_0_33 hK_0_34 hK_0_35 hK_0_36 hK_0_37 kz_0_31 kz_0_32 ex2 ex3
  have nf2 : fc_1 PRD (20, [0], [50, 1, 0, 31, 0, 3, 2, 0, 31, 0, 24]) ws (vs ++ [Value.int x]) := by
    refine ⟨fun n hn => ?_, ?_⟩
    · have hn : n ∈ [0] := hn
      rw [List.length_append, hl]
      simp only [List.mem_cons, List.not_mem_nil, or_false] at hn
      show n < 5 + 1; omega
    · show w_fi ws (n_v (vs ++ [Value.int x]) 0) 31 ≤ 24
      rw [e_0]
      exact vc_Mo_grid_8_2 (v_iv (n_v vs 4)) (w_ei ws (w_ar ws (n_v vs 0) 33)) (w_ei ws (w_ar ws (n_v vs 0) 34)) (w_fi ws (n_v vs 0) 31) (w_fi ws (n_v vs 0) 32) (w_ei ws (w_ar ws (n_v vs 0) 35)) (w_ei ws (w_ar ws (n_v vs 0) 36)) (w_ei ws (w_ar ws (n_v vs 0) 37)) (v_iv (Value.int x)) k4 f0 f1 f2 f3 f4 hK_0_33 hK_0_34 hK_0_35 hK_0_36 hK_0_37 kz_0_31 kz_0_32 ex2 ex3
  have nf3 : fc_1 PRD (20, [0, 5], [60, 2, 5, 186, 31, 32, 33, 34, 35, 36, 37]) ws (vs ++ [Value.int x]) := by
    refine ⟨fun n hn => ?_, ?_⟩
    · have hn : n ∈ [0, 5] := hn
      rw [List.length_append, hl]
      simp only [List.mem_cons, List.not_mem_nil, or_false] at hn
      show n < 5 + 1; omega
    · show GR1 (w_fi ws (n_v (vs ++ [Value.int x]) 0) 31) (w_fi ws (n_v (vs ++ [Value.int x]) 0) 32) (w_ei ws (w_ar ws (n_v (vs ++ [Value.int x]) 0) 33)) (w_ei ws (w_ar ws (n_v (vs ++ [Value.int x]) 0) 34)) (w_ei ws (w_ar ws (n_v (vs ++ [Value.int x]) 0) 35)) (w_ei ws (w_ar ws (n_v (vs ++ [Value.int x]) 0) 36)) (w_ei ws (w_ar ws (n_v (vs ++ [Value.int x]) 0) 37)) (v_iv (n_v (vs ++ [Value.int x]) 5))
      rw [e_0]
      rw [e_5]
      exact vc_Mo_grid_8_3 (v_iv (n_v vs 4)) (w_ei ws (w_ar ws (n_v vs 0) 33)) (w_ei ws (w_ar ws (n_v vs 0) 34)) (w_fi ws (n_v vs 0) 31) (w_fi ws (n_v vs 0) 32) (w_ei ws (w_ar ws (n_v vs 0) 35)) (w_ei ws (w_ar ws (n_v vs 0) 36)) (w_ei ws (w_ar ws (n_v vs 0) 37)) (v_iv (Value.int x)) k4 f0 f1 f2 f3 f4 hK_0_33 hK_0_34 hK_0_35 hK_0_36 hK_0_37 kz_0_31 kz_0_32 ex2 ex3
  obtain ⟨x0, e0, _, _⟩ := tv_int t4 rfl
  have e1 : v_iv (n_v vs 4) = x0.toInt := by rw [e0]; rfl
  have ho : sy_ofs (vs ++ [Value.int x]) (5, 4, -1000000000000, -1) := by
    refine ⟨x, x0, by rw [List.getElem?_append_right (by rw [hl]; decide), hl]; rfl, ?_, ?_, ?_⟩
    · rw [List.getElem?_append_left (by rw [hl]; decide)]; exact n_v_some (by rw [hl]; decide) e0
    · show x0.toInt + (-1000000000000) ≤ x.toInt; omega
    · show x.toInt ≤ x0.toInt + (-1); omega
  exact ⟨(fun _ h => (by cases h)), [Value.int x], ag_one hx, List.forall_mem_cons.mpr ⟨⟨show (20 : Nat) < 100 from by decide, nf0⟩, List.forall_mem_cons.mpr ⟨⟨show (20 : Nat) < 100 from by decide, nf1⟩, List.forall_mem_cons.mpr ⟨⟨show (20 : Nat) < 100 from by decide, nf2⟩, List.forall_mem_cons.mpr ⟨⟨show (20 : Nat) < 100 from by decide, nf3⟩, (fun _ h => (by cases h))⟩⟩⟩⟩, List.forall_mem_cons.mpr ⟨ho, (fun _ h => (by cases h))⟩⟩
set_option maxHeartbeats 4000000 in
theorem vc_Mo_grid_9_0 (x1 : Int) (x2 : Int) (pt_0 : Int → Int) (ph_0 : Int → Int) (pn_0 : Int) (pm_0 : Int) (alive_0 : Int → Int) (rotMany_0 : Int → Int) (rot_0 : Int → Int) (k1 : 0 ≤ x1 ∧ x1 ≤ 0) (k2 : (-2) ≤ x2 ∧ x2 ≤ 84) (f0 : x1 = 0) (f1 : GOK (pn_0) (pm_0) (pt_0) (ph_0)) (f2 : 3 ≤ pn_0) (f3 : pn_0 ≤ 24) (f4 : GR2 (pn_0) (pm_0) (pt_0) (ph_0) (alive_0) (rotMany_0) (rot_0) (x1)) (f5 : 1 * x2 + (1 * pm_0 + ((-1) * x1 + 0)) ≤ 82) (f6 : (-1) * x2 + ((-1) * pm_0 + (1 * x1 + 0)) ≤ (-82)) (hK_0_33 : ∀ j : Int, 0 ≤ j → j < 80 → 0 ≤ pt_0 j ∧ pt_0 j ≤ 24) (hK_0_34 : ∀ j : Int, 0 ≤ j → j < 80 → 0 ≤ ph_0 j ∧ ph_0 j ≤ 24) (hK_0_35 : ∀ j : Int, 0 ≤ j → j < 80 → 0 ≤ alive_0 j ∧ alive_0 j ≤ 1) (hK_0_36 : ∀ j : Int, 0 ≤ j → j < 26 → 0 ≤ rotMany_0 j ∧ rotMany_0 j ≤ 80) (hK_0_37 : ∀ j : Int, 0 ≤ j → j < 2080 → 0 ≤ rot_0 j ∧ rot_0 j ≤ 79) (kz_0_31 : 0 ≤ pn_0 ∧ pn_0 ≤ 25) (kz_0_32 : 0 ≤ pm_0 ∧ pm_0 ≤ 80) : EML (pn_0) (pm_0) (pt_0) (ph_0) (alive_0) (rotMany_0) (rot_0) := by
  exact eml_rot.2 ‹GR2 _ _ _ _ _ _ _ _›.1.2.2
def o_Mo_grid_9 : or_T := (82, 3, [(0, (2, 0, 0, [150])), (1, (0, 0, 0, [])), (2, (0, -2, 84, []))], [(8, [1], [0]), (20, [0], [60, 2, 2, 0, 31, 32, 33, 34]), (20, [0], [50, 1, 0, 31, 0, 2, 0, 3, 2, 0, 31]), (20, [0], [50, 1, 0, 31, 0, 3, 2, 0, 31, 0, 24]), (20, [0, 1], [60, 2, 5, 213, 31, 32, 33, 34, 35, 36, 37]), (20, [2, 0, 1], [30, 82, 1, 0, 0, 1, 1, 32, -1, 0, 0]), (20, [2, 0, 1], [30, -82, -1, 0, 0, -1, 1, 32, 1, 0, 0])], [], [], [(20, [0], [60, 2, 5, 112, 31, 32, 33, 34, 35, 36, 37])], [], [])
theorem oo_Mo_grid_9 {kA : Nat → ClassId} : or_ok PRD kA GG o_Mo_grid_9 := by
  intro A ta ws vs hD hth hl hk hds hf
  have hl : vs.length = 3 := hl
  have hk : ∀ q ∈ ([(0, (2, 0, 0, [150])), (1, (0, 0, 0, [])), (2, (0, -2, 84, []))] : List (Nat × tv_T)), tv_ok ta q.2 (n_v vs q.1) := hk
  obtain ⟨t0, hk⟩ := List.forall_mem_cons.mp hk
  have t0 : tv_ok ta (2, 0, 0, [150]) (n_v vs 0) := t0
  have r0 : ta (v_ad (n_v vs 0)) = some 150 := tv_rg t0
  obtain ⟨t1, hk⟩ := List.forall_mem_cons.mp hk
  have t1 : tv_ok ta (0, 0, 0, []) (n_v vs 1) := t1
  have k1 : 0 ≤ v_iv (n_v vs 1) ∧ v_iv (n_v vs 1) ≤ 0 := tv_rng t1
  obtain ⟨t2, hk⟩ := List.forall_mem_cons.mp hk
  have t2 : tv_ok ta (0, -2, 84, []) (n_v vs 2) := t2
  have k2 : (-2) ≤ v_iv (n_v vs 2) ∧ v_iv (n_v vs 2) ≤ 84 := tv_rng t2
  have hf : fc_ok PRD [(8, [1], [0]), (20, [0], [60, 2, 2, 0, 31, 32, 33, 34]), (20, [0], [50, 1, 0, 31, 0, 2, 0, 3, 2, 0, 31]), (20, [0], [50, 1, 0, 31, 0, 3, 2, 0, 31, 0, 24]), (20, [0, 1], [60, 2, 5, 213, 31, 32, 33, 34, 35, 36, 37]), (20, [2, 0, 1], [30, 82, 1, 0, 0, 1, 1, 32, -1, 0, 0]), (20, [2, 0, 1], [30, -82, -1, 0, 0, -1, 1, 32, 1, 0, 0])] ta ws vs := hf
  obtain ⟨f0, hf⟩ := fc_un (show (8 : Nat) < 100 from by decide) hf
  have f0 : v_iv (n_v vs 1) = 0 := f0
  obtain ⟨f1, hf⟩ := fc_un (show (20 : Nat) < 100 from by decide) hf
  have f1 : GOK (w_fi ws (n_v vs 0) 31) (w_fi ws (n_v vs 0) 32) (w_ei ws (w_ar ws (n_v vs 0) 33)) (w_ei ws (w_ar ws (n_v vs 0) 34)) := f1
  obtain ⟨f2, hf⟩ := fc_un (show (20 : Nat) < 100 from by decide) hf
  have f2 : 3 ≤ w_fi ws (n_v vs 0) 31 := f2
  obtain ⟨f3, hf⟩ := fc_un (show (20 : Nat) < 100 from by decide) hf
  have f3 : w_fi ws (n_v vs 0) 31 ≤ 24 := f3
  obtain ⟨f4, hf⟩ := fc_un (show (20 : Nat) < 100 from by decide) hf
  have f4 : GR2 (w_fi ws (n_v vs 0) 31) (w_fi ws (n_v vs 0) 32) (w_ei ws (w_ar ws (n_v vs 0) 33)) (w_ei ws (w_ar ws (n_v vs 0) 34)) (w_ei ws (w_ar ws (n_v vs 0) 35)) (w_ei ws (w_ar ws (n_v vs 0) 36)) (w_ei ws (w_ar ws (n_v vs 0) 37)) (v_iv (n_v vs 1)) := f4
  obtain ⟨f5, hf⟩ := fc_un (show (20 : Nat) < 100 from by decide) hf
  have f5 : 1 * v_iv (n_v vs 2) + (1 * w_fi ws (n_v vs 0) 32 + ((-1) * v_iv (n_v vs 1) + 0)) ≤ 82 := f5
  obtain ⟨f6, hf⟩ := fc_un (show (20 : Nat) < 100 from by decide) hf
  have f6 : (-1) * v_iv (n_v vs 2) + ((-1) * w_fi ws (n_v vs 0) 32 + (1 * v_iv (n_v vs 1) + 0)) ≤ (-82) := f6
  have cr_0_33 : ta (w_ar ws (n_v vs 0) 33) = some 165 := tv_rg (th_fd hD hth r0 (g := GG_150) rfl (k := 33) (t := (2, 0, 0, [165])) rfl rfl)
  have cr_0_34 : ta (w_ar ws (n_v vs 0) 34) = some 166 := tv_rg (th_fd hD hth r0 (g := GG_150) rfl (k := 34) (t := (2, 0, 0, [166])) rfl rfl)
  have cr_0_35 : ta (w_ar ws (n_v vs 0) 35) = some 167 := tv_rg (th_fd hD hth r0 (g := GG_150) rfl (k := 35) (t := (2, 0, 0, [167])) rfl rfl)
  have cr_0_36 : ta (w_ar ws (n_v vs 0) 36) = some 168 := tv_rg (th_fd hD hth r0 (g := GG_150) rfl (k := 36) (t := (2, 0, 0, [168])) rfl rfl)
  have cr_0_37 : ta (w_ar ws (n_v vs 0) 37) = some 169 := tv_rg (th_fd hD hth r0 (g := GG_150) rfl (k := 37) (t := (2, 0, 0, [169])) rfl rfl)
  have hK_0_33 : ∀ j : Int, 0 ≤ j → j < 80 → 0 ≤ w_ei ws (w_ar ws (n_v vs 0) 33) j ∧ w_ei ws (w_ar ws (n_v vs 0) 33) j ≤ 24 := fun j h0 h1 => th_el hD hth cr_0_33 (kd := 0) (n := 80) (m := 80) (lo := 0) (hi := 24) (rs := []) (L := []) rfl (by decide) (j := j.toNat) (by omega)
  have hK_0_34 : ∀ j : Int, 0 ≤ j → j < 80 → 0 ≤ w_ei ws (w_ar ws (n_v vs 0) 34) j ∧ w_ei ws (w_ar ws (n_v vs 0) 34) j ≤ 24 := fun j h0 h1 => th_el hD hth cr_0_34 (kd := 0) (n := 80) (m := 80) (lo := 0) (hi := 24) (rs := []) (L := []) rfl (by decide) (j := j.toNat) (by omega)
  have hK_0_35 : ∀ j : Int, 0 ≤ j → j < 80 → 0 ≤ w_ei ws (w_ar ws (n_v vs 0) 35) j ∧ w_ei ws (w_ar ws (n_v vs 0) 35) j ≤ 1 := fun j h0 h1 => th_el hD hth cr_0_35 (kd := 2) (n := 80) (m := 80) (lo := 0) (hi := 1) (rs := []) (L := []) rfl (by decide) (j := j.toNat) (by omega)
  have hK_0_36 : ∀ j : Int, 0 ≤ j → j < 26 → 0 ≤ w_ei ws (w_ar ws (n_v vs 0) 36) j ∧ w_ei ws (w_ar ws (n_v vs 0) 36) j ≤ 80 := fun j h0 h1 => th_el hD hth cr_0_36 (kd := 0) (n := 26) (m := 26) (lo := 0) (hi := 80) (rs := []) (L := []) rfl (by decide) (j := j.toNat) (by omega)
  have hK_0_37 : ∀ j : Int, 0 ≤ j → j < 2080 → 0 ≤ w_ei ws (w_ar ws (n_v vs 0) 37) j ∧ w_ei ws (w_ar ws (n_v vs 0) 37) j ≤ 79 := fun j h0 h1 => th_el hD hth cr_0_37 (kd := 0) (n := 2080) (m := 2080) (lo := 0) (hi := 79) (rs := []) (L := []) rfl (by decide) (j := j.toNat) (by omega)
  have kz_0_31 : 0 ≤ w_fi ws (n_v vs 0) 31 ∧ w_fi ws (n_v vs 0) 31 ≤ 25 := tv_rng (th_fd hD hth r0 (g := GG_150) rfl (k := 31) (t := (0, 0, 25, [])) rfl rfl)
  have kz_0_32 : 0 ≤ w_fi ws (n_v vs 0) 32 ∧ w_fi ws (n_v vs 0) 32 ≤ 80 := tv_rng (th_fd hD hth r0 (g := GG_150) rfl (k := 32) (t := (0, 0, 80, [])) rfl rfl)
  have nf0 : fc_1 PRD (20, [0], [60, 2, 5, 112, 31, 32, 33, 34, 35, 36, 37]) ws (vs) := by
    refine ⟨fun n hn => ?_, ?_⟩
    · have hn : n ∈ [0] := hn
      rw [hl]
      simp only [List.mem_cons, List.not_mem_nil, or_false] at hn
      show n < 3; omega
    · show EML (w_fi ws (n_v vs 0) 31) (w_fi ws (n_v vs 0) 32) (w_ei ws (w_ar ws (n_v vs 0) 33)) (w_ei ws (w_ar ws (n_v vs 0) 34)) (w_ei ws (w_ar ws (n_v vs 0) 35)) (w_ei ws (w_ar ws (n_v vs 0) 36)) (w_ei ws (w_ar ws (n_v vs 0) 37))
      exact vc_Mo_grid_9_0 (v_iv (n_v vs 1)) (v_iv (n_v vs 2)) (w_ei ws (w_ar ws (n_v vs 0) 33)) (w_ei ws (w_ar ws (n_v vs 0) 34)) (w_fi ws (n_v vs 0) 31) (w_fi ws (n_v vs 0) 32) (w_ei ws (w_ar ws (n_v vs 0) 35)) (w_ei ws (w_ar ws (n_v vs 0) 36)) (w_ei ws (w_ar ws (n_v vs 0) 37)) k1 k2 f0 f1 f2 f3 f4 f5 f6 hK_0_33 hK_0_34 hK_0_35 hK_0_36 hK_0_37 kz_0_31 kz_0_32
  refine ⟨(fun _ h => (by cases h)), [], trivial, ?_, (fun _ h => (by cases h))⟩
  rw [List.append_nil]
  exact List.forall_mem_cons.mpr ⟨⟨show (20 : Nat) < 100 from by decide, nf0⟩, (fun _ h => (by cases h))⟩
set_option maxHeartbeats 4000000 in
theorem vc_Mo_grid_10_0 (x1 : Int) (x2 : Int) (x4 : Int) (x5 : Int) (x6 : Int) (x7 : Int) (x8 : Int) (x9 : Int) (x10 : Int) (x11 : Int) (x12 : Int) (pt_0 : Int → Int) (ph_0 : Int → Int) (roundDart_0 : Int → Int) (alive_0 : Int → Int) (rotMany_0 : Int → Int) (rot_0 : Int → Int) (pn_0 : Int) (pm_0 : Int) (roundOf_0 : Int → Int) (roundBegin_0 : Int → Int) (rounds_0 : Int) (k1 : 0 ≤ x1 ∧ x1 ≤ 0) (k2 : (-2) ≤ x2 ∧ x2 ≤ 84) (k4 : 0 ≤ x4 ∧ x4 ≤ 0) (k5 : 0 ≤ x5 ∧ x5 ≤ 159) (k6 : 0 ≤ x6 ∧ x6 ≤ 24) (k7 : 1 ≤ x7 ∧ x7 ≤ 1) (k8 : 0 ≤ x8 ∧ x8 ≤ 159) (k9 : 0 ≤ x9 ∧ x9 ≤ 24) (k10 : 2 ≤ x10 ∧ x10 ≤ 2) (k11 : 0 ≤ x11 ∧ x11 ≤ 159) (k12 : 0 ≤ x12 ∧ x12 ≤ 24) (f0 : DFR (pt_0) (ph_0) (x11) (x12)) (h1 : x11 = roundDart_0 (x10)) (f3 : DFR (pt_0) (ph_0) (x8) (x9)) (h4 : x8 = roundDart_0 (x7)) (f5 : DFR (pt_0) (ph_0) (x5) (x6)) (h6 : x5 = roundDart_0 (x4)) (f7 : EML (pn_0) (pm_0) (pt_0) (ph_0) (alive_0) (rotMany_0) (rot_0)) (f8 : GOK (pn_0) (pm_0) (pt_0) (ph_0)) (f9 : 3 ≤ pn_0) (f10 : pn_0 ≤ 24) (f11 : GR2 (pn_0) (pm_0) (pt_0) (ph_0) (alive_0) (rotMany_0) (rot_0) (x1)) (f12 : 1 * x2 + (1 * pm_0 + ((-1) * x1 + 0)) ≤ 82) (f13 : (-1) * x2 + ((-1) * pm_0 + (1 * x1 + 0)) ≤ (-82)) (f14 : GRD (pm_0) (rounds_0) (pt_0) (ph_0) (alive_0) (rotMany_0) (rot_0) (roundOf_0) (roundBegin_0) (roundDart_0)) (f16 : x1 = 0) (hK_0_33 : ∀ j : Int, 0 ≤ j → j < 80 → 0 ≤ pt_0 j ∧ pt_0 j ≤ 24) (hK_0_34 : ∀ j : Int, 0 ≤ j → j < 80 → 0 ≤ ph_0 j ∧ ph_0 j ≤ 24) (hK_0_35 : ∀ j : Int, 0 ≤ j → j < 80 → 0 ≤ alive_0 j ∧ alive_0 j ≤ 1) (hK_0_36 : ∀ j : Int, 0 ≤ j → j < 26 → 0 ≤ rotMany_0 j ∧ rotMany_0 j ≤ 80) (hK_0_37 : ∀ j : Int, 0 ≤ j → j < 2080 → 0 ≤ rot_0 j ∧ rot_0 j ≤ 79) (hK_0_54 : ∀ j : Int, 0 ≤ j → j < 160 → (-1) ≤ roundOf_0 j ∧ roundOf_0 j ≤ 159) (hK_0_56 : ∀ j : Int, 0 ≤ j → j < 161 → 0 ≤ roundBegin_0 j ∧ roundBegin_0 j ≤ 160) (hK_0_57 : ∀ j : Int, 0 ≤ j → j < 160 → 0 ≤ roundDart_0 j ∧ roundDart_0 j ≤ 159) (kz_0_31 : 0 ≤ pn_0 ∧ pn_0 ≤ 25) (kz_0_32 : 0 ≤ pm_0 ∧ pm_0 ≤ 80) (kz_0_53 : 0 ≤ rounds_0 ∧ rounds_0 ≤ 160) : CNP (pn_0) (pm_0) (pt_0) (ph_0) (alive_0) (rotMany_0) (rot_0) (x6) (x9) (x12) := by
  exact cnp_of (d0 := x5) (d1 := x8) (d2 := x11) ‹GR2 _ _ _ _ _ _ _ _›.1 ‹GR2 _ _ _ _ _ _ _ _›.2.1 (by omega) (by omega) (‹GR2 _ _ _ _ _ _ _ _›.2.2.2 (by omega)) ‹GRD _ _ _ _ _ _ _ _ _ _› (by rw [show (0 : Int) = x4 by omega]; assumption) (by rw [show (1 : Int) = x7 by omega]; assumption) (by rw [show (2 : Int) = x10 by omega]; assumption) (by assumption) (by assumption) (by assumption)
def o_Mo_grid_10 : or_T := (124, 13, [(0, (2, 0, 0, [150])), (1, (0, 0, 0, [])), (2, (0, -2, 84, [])), (3, (2, 0, 0, [184])), (4, (0, 0, 0, [])), (5, (0, 0, 159, [])), (6, (0, 0, 24, [])), (7, (0, 1, 1, [])), (8, (0, 0, 159, [])), (9, (0, 0, 24, [])), (10, (0, 2, 2, [])), (11, (0, 0, 159, [])), (12, (0, 0, 24, []))], [(20, [0, 11, 12], [60, 0, 2, 110, 33, 34]), (10, [11, 3, 10], []), (9, [3, 0], [57]), (20, [0, 8, 9], [60, 0, 2, 110, 33, 34]), (10, [8, 3, 7], []), (20, [0, 5, 6], [60, 0, 2, 110, 33, 34]), (10, [5, 3, 4], []), (20, [0], [60, 2, 5, 112, 31, 32, 33, 34, 35, 36, 37]), (20, [0], [60, 2, 2, 0, 31, 32, 33, 34]), (20, [0], [50, 1, 0, 31, 0, 2, 0, 3, 2, 0, 31]), (20, [0], [50, 1, 0, 31, 0, 3, 2, 0, 31, 0, 24]), (20, [0, 1], [60, 2, 5, 213, 31, 32, 33, 34, 35, 36, 37]), (20, [2, 0, 1], [30, 82, 1, 0, 0, 1, 1, 32, -1, 0, 0]), (20, [2, 0, 1], [30, -82, -1, 0, 0, -1, 1, 32, 1, 0, 0]), (20, [0], [60, 2, 8, 118, 32, 53, 33, 34, 35, 36, 37, 54, 56, 57]), (102, [2], [39844884062513110317317022705908038774087217176773656576, 13053]), (8, [1], [0])], [], [], [(20, [0, 6, 9, 12], [60, 2, 5, 199, 31, 32, 33, 34, 35, 36, 37])], [], [])
theorem oo_Mo_grid_10 {kA : Nat → ClassId} : or_ok PRD kA GG o_Mo_grid_10 := by
  intro A ta ws vs hD hth hl hk hds hf
  have hl : vs.length = 13 := hl
  have hk : ∀ q ∈ ([(0, (2, 0, 0, [150])), (1, (0, 0, 0, [])), (2, (0, -2, 84, [])), (3, (2, 0, 0, [184])), (4, (0, 0, 0, [])), (5, (0, 0, 159, [])), (6, (0, 0, 24, [])), (7, (0, 1, 1, [])), (8, (0, 0, 159, [])), (9, (0, 0, 24, [])), (10, (0, 2, 2, [])), (11, (0, 0, 159, [])), (12, (0, 0, 24, []))] : List (Nat × tv_T)), tv_ok ta q.2 (n_v vs q.1) := hk
  obtain ⟨t0, hk⟩ := List.forall_mem_cons.mp hk
  have t0 : tv_ok ta (2, 0, 0, [150]) (n_v vs 0) := t0
  have r0 : ta (v_ad (n_v vs 0)) = some 150 := tv_rg t0
  obtain ⟨t1, hk⟩ := List.forall_mem_cons.mp hk
  have t1 : tv_ok ta (0, 0, 0, []) (n_v vs 1) := t1
  have k1 : 0 ≤ v_iv (n_v vs 1) ∧ v_iv (n_v vs 1) ≤ 0 := tv_rng t1
  obtain ⟨t2, hk⟩ := List.forall_mem_cons.mp hk
  have t2 : tv_ok ta (0, -2, 84, []) (n_v vs 2) := t2
  have k2 : (-2) ≤ v_iv (n_v vs 2) ∧ v_iv (n_v vs 2) ≤ 84 := tv_rng t2
  obtain ⟨t3, hk⟩ := List.forall_mem_cons.mp hk
  have t3 : tv_ok ta (2, 0, 0, [184]) (n_v vs 3) := t3
  have r3 : ta (v_ad (n_v vs 3)) = some 184 := tv_rg t3
  obtain ⟨t4, hk⟩ := List.forall_mem_cons.mp hk
  have t4 : tv_ok ta (0, 0, 0, []) (n_v vs 4) := t4
  have k4 : 0 ≤ v_iv (n_v vs 4) ∧ v_iv (n_v vs 4) ≤ 0 := tv_rng t4
  obtain ⟨t5, hk⟩ := List.forall_mem_cons.mp hk
  have t5 : tv_ok ta (0, 0, 159, []) (n_v vs 5) := t5
  have k5 : 0 ≤ v_iv (n_v vs 5) ∧ v_iv (n_v vs 5) ≤ 159 := tv_rng t5
  obtain ⟨t6, hk⟩ := List.forall_mem_cons.mp hk
  have t6 : tv_ok ta (0, 0, 24, []) (n_v vs 6) := t6
  have k6 : 0 ≤ v_iv (n_v vs 6) ∧ v_iv (n_v vs 6) ≤ 24 := tv_rng t6
  obtain ⟨t7, hk⟩ := List.forall_mem_cons.mp hk
  have t7 : tv_ok ta (0, 1, 1, []) (n_v vs 7) := t7
  have k7 : 1 ≤ v_iv (n_v vs 7) ∧ v_iv (n_v vs 7) ≤ 1 := tv_rng t7
  obtain ⟨t8, hk⟩ := List.forall_mem_cons.mp hk
  have t8 : tv_ok ta (0, 0, 159, []) (n_v vs 8) := t8
  have k8 : 0 ≤ v_iv (n_v vs 8) ∧ v_iv (n_v vs 8) ≤ 159 := tv_rng t8
  obtain ⟨t9, hk⟩ := List.forall_mem_cons.mp hk
  have t9 : tv_ok ta (0, 0, 24, []) (n_v vs 9) := t9
  have k9 : 0 ≤ v_iv (n_v vs 9) ∧ v_iv (n_v vs 9) ≤ 24 := tv_rng t9
  obtain ⟨t10, hk⟩ := List.forall_mem_cons.mp hk
  have t10 : tv_ok ta (0, 2, 2, []) (n_v vs 10) := t10
  have k10 : 2 ≤ v_iv (n_v vs 10) ∧ v_iv (n_v vs 10) ≤ 2 := tv_rng t10
  obtain ⟨t11, hk⟩ := List.forall_mem_cons.mp hk
  have t11 : tv_ok ta (0, 0, 159, []) (n_v vs 11) := t11
  have k11 : 0 ≤ v_iv (n_v vs 11) ∧ v_iv (n_v vs 11) ≤ 159 := tv_rng t11
  obtain ⟨t12, hk⟩ := List.forall_mem_cons.mp hk
  have t12 : tv_ok ta (0, 0, 24, []) (n_v vs 12) := t12
  have k12 : 0 ≤ v_iv (n_v vs 12) ∧ v_iv (n_v vs 12) ≤ 24 := tv_rng t12
  have hf : fc_ok PRD [(20, [0, 11, 12], [60, 0, 2, 110, 33, 34]), (10, [11, 3, 10], []), (9, [3, 0], [57]), (20, [0, 8, 9], [60, 0, 2, 110, 33, 34]), (10, [8, 3, 7], []), (20, [0, 5, 6], [60, 0, 2, 110, 33, 34]), (10, [5, 3, 4], []), (20, [0], [60, 2, 5, 112, 31, 32, 33, 34, 35, 36, 37]), (20, [0], [60, 2, 2, 0, 31, 32, 33, 34]), (20, [0], [50, 1, 0, 31, 0, 2, 0, 3, 2, 0, 31]), (20, [0], [50, 1, 0, 31, 0, 3, 2, 0, 31, 0, 24]), (20, [0, 1], [60, 2, 5, 213, 31, 32, 33, 34, 35, 36, 37]), (20, [2, 0, 1], [30, 82, 1, 0, 0, 1, 1, 32, -1, 0, 0]), (20, [2, 0, 1], [30, -82, -1, 0, 0, -1, 1, 32, 1, 0, 0]), (20, [0], [60, 2, 8, 118, 32, 53, 33, 34, 35, 36, 37, 54, 56, 57]), (102, [2], [39844884062513110317317022705908038774087217176773656576, 13053]), (8, [1], [0])] ta ws vs := hf
  obtain ⟨f0, hf⟩ := fc_un (show (20 : Nat) < 100 from by decide) hf
  have f0 : DFR (w_ei ws (w_ar ws (n_v vs 0) 33)) (w_ei ws (w_ar ws (n_v vs 0) 34)) (v_iv (n_v vs 11)) (v_iv (n_v vs 12)) := f0
  obtain ⟨f1, hf⟩ := fc_un (show (10 : Nat) < 100 from by decide) hf
  have f1 : v_iv (n_v vs 11) = w_el ws (v_ad (n_v vs 3)) (v_iv (n_v vs 10)).toNat := f1
  obtain ⟨f2, hf⟩ := fc_un (show (9 : Nat) < 100 from by decide) hf
  have f2 : n_v vs 3 = w_fd ws (v_ad (n_v vs 0)) 57 := f2
  obtain ⟨f3, hf⟩ := fc_un (show (20 : Nat) < 100 from by decide) hf
  have f3 : DFR (w_ei ws (w_ar ws (n_v vs 0) 33)) (w_ei ws (w_ar ws (n_v vs 0) 34)) (v_iv (n_v vs 8)) (v_iv (n_v vs 9)) := f3
  obtain ⟨f4, hf⟩ := fc_un (show (10 : Nat) < 100 from by decide) hf
  have f4 : v_iv (n_v vs 8) = w_el ws (v_ad (n_v vs 3)) (v_iv (n_v vs 7)).toNat := f4
  obtain ⟨f5, hf⟩ := fc_un (show (20 : Nat) < 100 from by decide) hf
  have f5 : DFR (w_ei ws (w_ar ws (n_v vs 0) 33)) (w_ei ws (w_ar ws (n_v vs 0) 34)) (v_iv (n_v vs 5)) (v_iv (n_v vs 6)) := f5
  obtain ⟨f6, hf⟩ := fc_un (show (10 : Nat) < 100 from by decide) hf
  have f6 : v_iv (n_v vs 5) = w_el ws (v_ad (n_v vs 3)) (v_iv (n_v vs 4)).toNat := f6
  obtain ⟨f7, hf⟩ := fc_un (show (20 : Nat) < 100 from by decide) hf
  have f7 : EML (w_fi ws (n_v vs 0) 31) (w_fi ws (n_v vs 0) 32) (w_ei ws (w_ar ws (n_v vs 0) 33)) (w_ei ws (w_ar ws (n_v vs 0) 34)) (w_ei ws (w_ar ws (n_v vs 0) 35)) (w_ei ws (w_ar ws (n_v vs 0) 36)) (w_ei ws (w_ar ws (n_v vs 0) 37)) := f7
  obtain ⟨f8, hf⟩ := fc_un (show (20 : Nat) < 100 from by decide) hf
  have f8 : GOK (w_fi ws (n_v vs 0) 31) (w_fi ws (n_v vs 0) 32) (w_ei ws (w_ar ws (n_v vs 0) 33)) (w_ei ws (w_ar ws (n_v vs 0) 34)) := f8
  obtain ⟨f9, hf⟩ := fc_un (show (20 : Nat) < 100 from by decide) hf
  have f9 : 3 ≤ w_fi ws (n_v vs 0) 31 := f9
  obtain ⟨f10, hf⟩ := fc_un (show (20 : Nat) < 100 from by decide) hf
  have f10 : w_fi ws (n_v vs 0) 31 ≤ 24 := f10
  obtain ⟨f11, hf⟩ := fc_un (show (20 : Nat) < 100 from by decide) hf
  have f11 : GR2 (w_fi ws (n_v vs 0) 31) (w_fi ws (n_v vs 0) 32) (w_ei ws (w_ar ws (n_v vs 0) 33)) (w_ei ws (w_ar ws (n_v vs 0) 34)) (w_ei ws (w_ar ws (n_v vs 0) 35)) (w_ei ws (w_ar ws (n_v vs 0) 36)) (w_ei ws (w_ar ws (n_v vs 0) 37)) (v_iv (n_v vs 1)) := f11
  obtain ⟨f12, hf⟩ := fc_un (show (20 : Nat) < 100 from by decide) hf
  have f12 : 1 * v_iv (n_v vs 2) + (1 * w_fi ws (n_v vs 0) 32 + ((-1) * v_iv (n_v vs 1) + 0)) ≤ 82 := f12
  obtain ⟨f13, hf⟩ := fc_un (show (20 : Nat) < 100 from by decide) hf
  have f13 : (-1) * v_iv (n_v vs 2) + ((-1) * w_fi ws (n_v vs 0) 32 + (1 * v_iv (n_v vs 1) + 0)) ≤ (-82) := f13
  obtain ⟨f14, hf⟩ := fc_un (show (20 : Nat) < 100 from by decide) hf
  have f14 : GRD (w_fi ws (n_v vs 0) 32) (w_fi ws (n_v vs 0) 53) (w_ei ws (w_ar ws (n_v vs 0) 33)) (w_ei ws (w_ar ws (n_v vs 0) 34)) (w_ei ws (w_ar ws (n_v vs 0) 35)) (w_ei ws (w_ar ws (n_v vs 0) 36)) (w_ei ws (w_ar ws (n_v vs 0) 37)) (w_ei ws (w_ar ws (n_v vs 0) 54)) (w_ei ws (w_ar ws (n_v vs 0) 56)) (w_ei ws (w_ar ws (n_v vs 0) 57)) := f14
  obtain ⟨ta1, w1, le1, ⟨_, s1⟩, hf⟩ := fc_us (show ¬ (102 : Nat) < 100 from by decide) hf
  obtain ⟨f16, hf⟩ := fc_un (show (8 : Nat) < 100 from by decide) hf
  have f16 : v_iv (n_v vs 1) = 0 := f16
  have cr_0_33 : ta (w_ar ws (n_v vs 0) 33) = some 165 := tv_rg (th_fd hD hth r0 (g := GG_150) rfl (k := 33) (t := (2, 0, 0, [165])) rfl rfl)
  have cr_0_34 : ta (w_ar ws (n_v vs 0) 34) = some 166 := tv_rg (th_fd hD hth r0 (g := GG_150) rfl (k := 34) (t := (2, 0, 0, [166])) rfl rfl)
  have cr_0_35 : ta (w_ar ws (n_v vs 0) 35) = some 167 := tv_rg (th_fd hD hth r0 (g := GG_150) rfl (k := 35) (t := (2, 0, 0, [167])) rfl rfl)
  have cr_0_36 : ta (w_ar ws (n_v vs 0) 36) = some 168 := tv_rg (th_fd hD hth r0 (g := GG_150) rfl (k := 36) (t := (2, 0, 0, [168])) rfl rfl)
  have cr_0_37 : ta (w_ar ws (n_v vs 0) 37) = some 169 := tv_rg (th_fd hD hth r0 (g := GG_150) rfl (k := 37) (t := (2, 0, 0, [169])) rfl rfl)
  have cr_0_54 : ta (w_ar ws (n_v vs 0) 54) = some 181 := tv_rg (th_fd hD hth r0 (g := GG_150) rfl (k := 54) (t := (2, 0, 0, [181])) rfl rfl)
  have cr_0_56 : ta (w_ar ws (n_v vs 0) 56) = some 183 := tv_rg (th_fd hD hth r0 (g := GG_150) rfl (k := 56) (t := (2, 0, 0, [183])) rfl rfl)
  have cr_0_57 : ta (w_ar ws (n_v vs 0) 57) = some 184 := tv_rg (th_fd hD hth r0 (g := GG_150) rfl (k := 57) (t := (2, 0, 0, [184])) rfl rfl)
  have ad_3 : v_ad (n_v vs 3) = w_ar ws (n_v vs 0) 57 := congrArg v_ad f2
  rw [ad_3] at f1
  have h1 : v_iv (n_v vs 11) = w_ei ws (w_ar ws (n_v vs 0) 57) (v_iv (n_v vs 10)) := f1
  rw [ad_3] at f4
  have h4 : v_iv (n_v vs 8) = w_ei ws (w_ar ws (n_v vs 0) 57) (v_iv (n_v vs 7)) := f4
  rw [ad_3] at f6
  have h6 : v_iv (n_v vs 5) = w_ei ws (w_ar ws (n_v vs 0) 57) (v_iv (n_v vs 4)) := f6
  have hK_0_33 : ∀ j : Int, 0 ≤ j → j < 80 → 0 ≤ w_ei ws (w_ar ws (n_v vs 0) 33) j ∧ w_ei ws (w_ar ws (n_v vs 0) 33) j ≤ 24 := fun j h0 h1 => th_el hD hth cr_0_33 (kd := 0) (n := 80) (m := 80) (lo := 0) (hi := 24) (rs := []) (L := []) rfl (by decide) (j := j.toNat) (by omega)
  have hK_0_34 : ∀ j : Int, 0 ≤ j → j < 80 → 0 ≤ w_ei ws (w_ar ws (n_v vs 0) 34) j ∧ w_ei ws (w_ar ws (n_v vs 0) 34) j ≤ 24 := fun j h0 h1 => th_el hD hth cr_0_34 (kd := 0) (n := 80) (m := 80) (lo := 0) (hi := 24) (rs := []) (L := []) rfl (by decide) (j := j.toNat) (by omega)
  have hK_0_35 : ∀ j : Int, 0 ≤ j → j < 80 → 0 ≤ w_ei ws (w_ar ws (n_v vs 0) 35) j ∧ w_ei ws (w_ar ws (n_v vs 0) 35) j ≤ 1 := fun j h0 h1 => th_el hD hth cr_0_35 (kd := 2) (n := 80) (m := 80) (lo := 0) (hi := 1) (rs := []) (L := []) rfl (by decide) (j := j.toNat) (by omega)
  have hK_0_36 : ∀ j : Int, 0 ≤ j → j < 26 → 0 ≤ w_ei ws (w_ar ws (n_v vs 0) 36) j ∧ w_ei ws (w_ar ws (n_v vs 0) 36) j ≤ 80 := fun j h0 h1 => th_el hD hth cr_0_36 (kd := 0) (n := 26) (m := 26) (lo := 0) (hi := 80) (rs := []) (L := []) rfl (by decide) (j := j.toNat) (by omega)
  have hK_0_37 : ∀ j : Int, 0 ≤ j → j < 2080 → 0 ≤ w_ei ws (w_ar ws (n_v vs 0) 37) j ∧ w_ei ws (w_ar ws (n_v vs 0) 37) j ≤ 79 := fun j h0 h1 => th_el hD hth cr_0_37 (kd := 0) (n := 2080) (m := 2080) (lo := 0) (hi := 79) (rs := []) (L := []) rfl (by decide) (j := j.toNat) (by omega)
  have hK_0_54 : ∀ j : Int, 0 ≤ j → j < 160 → (-1) ≤ w_ei ws (w_ar ws (n_v vs 0) 54) j ∧ w_ei ws (w_ar ws (n_v vs 0) 54) j ≤ 159 := fun j h0 h1 => th_el hD hth cr_0_54 (kd := 0) (n := 160) (m := 160) (lo := (-1)) (hi := 159) (rs := []) (L := []) rfl (by decide) (j := j.toNat) (by omega)
  have hK_0_56 : ∀ j : Int, 0 ≤ j → j < 161 → 0 ≤ w_ei ws (w_ar ws (n_v vs 0) 56) j ∧ w_ei ws (w_ar ws (n_v vs 0) 56) j ≤ 160 := fun j h0 h1 => th_el hD hth cr_0_56 (kd := 0) (n := 161) (m := 161) (lo := 0) (hi := 160) (rs := []) (L := []) rfl (by decide) (j := j.toNat) (by omega)
  have hK_0_57 : ∀ j : Int, 0 ≤ j → j < 160 → 0 ≤ w_ei ws (w_ar ws (n_v vs 0) 57) j ∧ w_ei ws (w_ar ws (n_v vs 0) 57) j ≤ 159 := fun j h0 h1 => th_el hD hth cr_0_57 (kd := 0) (n := 160) (m := 160) (lo := 0) (hi := 159) (rs := []) (L := []) rfl (by decide) (j := j.toNat) (by omega)
  have kz_0_31 : 0 ≤ w_fi ws (n_v vs 0) 31 ∧ w_fi ws (n_v vs 0) 31 ≤ 25 := tv_rng (th_fd hD hth r0 (g := GG_150) rfl (k := 31) (t := (0, 0, 25, [])) rfl rfl)
  have kz_0_32 : 0 ≤ w_fi ws (n_v vs 0) 32 ∧ w_fi ws (n_v vs 0) 32 ≤ 80 := tv_rng (th_fd hD hth r0 (g := GG_150) rfl (k := 32) (t := (0, 0, 80, [])) rfl rfl)
  have kz_0_53 : 0 ≤ w_fi ws (n_v vs 0) 53 ∧ w_fi ws (n_v vs 0) 53 ≤ 160 := tv_rng (th_fd hD hth r0 (g := GG_150) rfl (k := 53) (t := (0, 0, 160, [])) rfl rfl)
  have nf0 : fc_1 PRD (20, [0, 6, 9, 12], [60, 2, 5, 199, 31, 32, 33, 34, 35, 36, 37]) ws (vs) := by
    refine ⟨fun n hn => ?_, ?_⟩
    · have hn : n ∈ [0, 6, 9, 12] := hn
      rw [hl]
      simp only [List.mem_cons, List.not_mem_nil, or_false] at hn
      show n < 13; omega
    · show CNP (w_fi ws (n_v vs 0) 31) (w_fi ws (n_v vs 0) 32) (w_ei ws (w_ar ws (n_v vs 0) 33)) (w_ei ws (w_ar ws (n_v vs 0) 34)) (w_ei ws (w_ar ws (n_v vs 0) 35)) (w_ei ws (w_ar ws (n_v vs 0) 36)) (w_ei ws (w_ar ws (n_v vs 0) 37)) (v_iv (n_v vs 6)) (v_iv (n_v vs 9)) (v_iv (n_v vs 12))
      exact vc_Mo_grid_10_0 (v_iv (n_v vs 1)) (v_iv (n_v vs 2)) (v_iv (n_v vs 4)) (v_iv (n_v vs 5)) (v_iv (n_v vs 6)) (v_iv (n_v vs 7)) (v_iv (n_v vs 8)) (v_iv (n_v vs 9)) (v_iv (n_v vs 10)) (v_iv (n_v vs 11)) (v_iv (n_v vs 12)) (w_ei ws (w_ar ws (n_v vs 0) 33)) (w_ei ws (w_ar ws (n_v vs 0) 34)) (w_ei ws (w_ar ws (n_v vs 0) 57)) (w_ei ws (w_ar ws (n_v vs 0) 35)) (w_ei ws (w_ar ws (n_v vs 0) 36)) (w_ei ws (w_ar ws (n_v vs 0) 37)) (w_fi ws (n_v vs 0) 31) (w_fi ws (n_v vs 0) 32) (w_ei ws (w_ar ws (n_v vs 0) 54)) (w_ei ws (w_ar ws (n_v vs 0) 56)) (w_fi ws (n_v vs 0) 53) k1 k2 k4 k5 k6 k7 k8 k9 k10 k11 k12 f0 h1 f3 h4 f5 h6 f7 f8 f9 f10 f11 f12 f13 f14 f16 hK_0_33 hK_0_34 hK_0_35 hK_0_36 hK_0_37 hK_0_54 hK_0_56 hK_0_57 kz_0_31 kz_0_32 kz_0_53
  refine ⟨(fun _ h => (by cases h)), [], trivial, ?_, (fun _ h => (by cases h))⟩
  rw [List.append_nil]
  exact List.forall_mem_cons.mpr ⟨⟨show (20 : Nat) < 100 from by decide, nf0⟩, (fun _ h => (by cases h))⟩
set_option maxHeartbeats 4000000 in
theorem vc_Mo_grid_11_0 (x1 : Int) (x2 : Int) (pt_0 : Int → Int) (ph_0 : Int → Int) (pn_0 : Int) (pm_0 : Int) (alive_0 : Int → Int) (rotMany_0 : Int → Int) (rot_0 : Int → Int) (gx : Int) (k1 : 1 ≤ x1 ∧ x1 ≤ 1) (k2 : (-2) ≤ x2 ∧ x2 ≤ 84) (f0 : x1 ≠ 0) (f1 : GOK (pn_0) (pm_0) (pt_0) (ph_0)) (f2 : 3 ≤ pn_0) (f3 : pn_0 ≤ 24) (f4 : GR2 (pn_0) (pm_0) (pt_0) (ph_0) (alive_0) (rotMany_0) (rot_0) (x1)) (f5 : 1 * x2 + (1 * pm_0 + ((-1) * x1 + 0)) ≤ 82) (f6 : (-1) * x2 + ((-1) * pm_0 + (1 * x1 + 0)) ≤ (-82)) (hK_0_33 : ∀ j : Int, 0 ≤ j → j < 80 → 0 ≤ pt_0 j ∧ pt_0 j ≤ 24) (hK_0_34 : ∀ j : Int, 0 ≤ j → j < 80 → 0 ≤ ph_0 j ∧ ph_0 j ≤ 24) (hK_0_35 : ∀ j : Int, 0 ≤ j → j < 80 → 0 ≤ alive_0 j ∧ alive_0 j ≤ 1) (hK_0_36 : ∀ j : Int, 0 ≤ j → j < 26 → 0 ≤ rotMany_0 j ∧ rotMany_0 j ≤ 80) (hK_0_37 : ∀ j : Int, 0 ≤ j → j < 2080 → 0 ≤ rot_0 j ∧ rot_0 j ≤ 79) (kz_0_31 : 0 ≤ pn_0 ∧ pn_0 ≤ 25) (kz_0_32 : 0 ≤ pm_0 ∧ pm_0 ≤ 80) (ex2 : gx = pm_0) (ex3 : 0 ≤ gx ∧ gx ≤ 80) : GRI (pn_0) (pm_0) (pt_0) (ph_0) (alive_0) (rotMany_0) (rot_0) := by
  exact ‹GR2 _ _ _ _ _ _ _ _›.1
set_option maxHeartbeats 4000000 in
theorem vc_Mo_grid_11_1 (x1 : Int) (x2 : Int) (pt_0 : Int → Int) (ph_0 : Int → Int) (pn_0 : Int) (pm_0 : Int) (alive_0 : Int → Int) (rotMany_0 : Int → Int) (rot_0 : Int → Int) (gx : Int) (k1 : 1 ≤ x1 ∧ x1 ≤ 1) (k2 : (-2) ≤ x2 ∧ x2 ≤ 84) (f0 : x1 ≠ 0) (f1 : GOK (pn_0) (pm_0) (pt_0) (ph_0)) (f2 : 3 ≤ pn_0) (f3 : pn_0 ≤ 24) (f4 : GR2 (pn_0) (pm_0) (pt_0) (ph_0) (alive_0) (rotMany_0) (rot_0) (x1)) (f5 : 1 * x2 + (1 * pm_0 + ((-1) * x1 + 0)) ≤ 82) (f6 : (-1) * x2 + ((-1) * pm_0 + (1 * x1 + 0)) ≤ (-82)) (hK_0_33 : ∀ j : Int, 0 ≤ j → j < 80 → 0 ≤ pt_0 j ∧ pt_0 j ≤ 24) (hK_0_34 : ∀ j : Int, 0 ≤ j → j < 80 → 0 ≤ ph_0 j ∧ ph_0 j ≤ 24) (hK_0_35 : ∀ j : Int, 0 ≤ j → j < 80 → 0 ≤ alive_0 j ∧ alive_0 j ≤ 1) (hK_0_36 : ∀ j : Int, 0 ≤ j → j < 26 → 0 ≤ rotMany_0 j ∧ rotMany_0 j ≤ 80) (hK_0_37 : ∀ j : Int, 0 ≤ j → j < 2080 → 0 ≤ rot_0 j ∧ rot_0 j ≤ 79) (kz_0_31 : 0 ≤ pn_0 ∧ pn_0 ≤ 25) (kz_0_32 : 0 ≤ pm_0 ∧ pm_0 ≤ 80) (ex2 : gx = pm_0) (ex3 : 0 ≤ gx ∧ gx ≤ 80) : CON (pn_0) (pm_0) (pt_0) (ph_0) (alive_0) := by
  exact ‹GR2 _ _ _ _ _ _ _ _›.2.1
set_option maxHeartbeats 4000000 in
theorem vc_Mo_grid_11_2 (x1 : Int) (x2 : Int) (pt_0 : Int → Int) (ph_0 : Int → Int) (pn_0 : Int) (pm_0 : Int) (alive_0 : Int → Int) (rotMany_0 : Int → Int) (rot_0 : Int → Int) (gx : Int) (k1 : 1 ≤ x1 ∧ x1 ≤ 1) (k2 : (-2) ≤ x2 ∧ x2 ≤ 84) (f0 : x1 ≠ 0) (f1 : GOK (pn_0) (pm_0) (pt_0) (ph_0)) (f2 : 3 ≤ pn_0) (f3 : pn_0 ≤ 24) (f4 : GR2 (pn_0) (pm_0) (pt_0) (ph_0) (alive_0) (rotMany_0) (rot_0) (x1)) (f5 : 1 * x2 + (1 * pm_0 + ((-1) * x1 + 0)) ≤ 82) (f6 : (-1) * x2 + ((-1) * pm_0 + (1 * x1 + 0)) ≤ (-82)) (hK_0_33 : ∀ j : Int, 0 ≤ j → j < 80 → 0 ≤ pt_0 j ∧ pt_0 j ≤ 24) (hK_0_34 : ∀ j : Int, 0 ≤ j → j < 80 → 0 ≤ ph_0 j ∧ ph_0 j ≤ 24) (hK_0_35 : ∀ j : Int, 0 ≤ j → j < 80 → 0 ≤ alive_0 j ∧ alive_0 j ≤ 1) (hK_0_36 : ∀ j : Int, 0 ≤ j → j < 26 → 0 ≤ rotMany_0 j ∧ rotMany_0 j ≤ 80) (hK_0_37 : ∀ j : Int, 0 ≤ j → j < 2080 → 0 ≤ rot_0 j ∧ rot_0 j ≤ 79) (kz_0_31 : 0 ≤ pn_0 ∧ pn_0 ≤ 25) (kz_0_32 : 0 ≤ pm_0 ∧ pm_0 ≤ 80) (ex2 : gx = pm_0) (ex3 : 0 ≤ gx ∧ gx ≤ 80) : 3 ≤ pn_0 := by
  first
    | omega
    | (have h := gr1_m ‹GR1 _ _ _ _ _ _ _ _›; omega)
set_option maxHeartbeats 4000000 in
theorem vc_Mo_grid_11_3 (x1 : Int) (x2 : Int) (pt_0 : Int → Int) (ph_0 : Int → Int) (pn_0 : Int) (pm_0 : Int) (alive_0 : Int → Int) (rotMany_0 : Int → Int) (rot_0 : Int → Int) (gx : Int) (k1 : 1 ≤ x1 ∧ x1 ≤ 1) (k2 : (-2) ≤ x2 ∧ x2 ≤ 84) (f0 : x1 ≠ 0) (f1 : GOK (pn_0) (pm_0) (pt_0) (ph_0)) (f2 : 3 ≤ pn_0) (f3 : pn_0 ≤ 24) (f4 : GR2 (pn_0) (pm_0) (pt_0) (ph_0) (alive_0) (rotMany_0) (rot_0) (x1)) (f5 : 1 * x2 + (1 * pm_0 + ((-1) * x1 + 0)) ≤ 82) (f6 : (-1) * x2 + ((-1) * pm_0 + (1 * x1 + 0)) ≤ (-82)) (hK_0_33 : ∀ j : Int, 0 ≤ j → j < 80 → 0 ≤ pt_0 j ∧ pt_0 j ≤ 24) (hK_0_34 : ∀ j : Int, 0 ≤ j → j < 80 → 0 ≤ ph_0 j ∧ ph_0 j ≤ 24) (hK_0_35 : ∀ j : Int, 0 ≤ j → j < 80 → 0 ≤ alive_0 j ∧ alive_0 j ≤ 1) (hK_0_36 : ∀ j : Int, 0 ≤ j → j < 26 → 0 ≤ rotMany_0 j ∧ rotMany_0 j ≤ 80) (hK_0_37 : ∀ j : Int, 0 ≤ j → j < 2080 → 0 ≤ rot_0 j ∧ rot_0 j ≤ 79) (kz_0_31 : 0 ≤ pn_0 ∧ pn_0 ≤ 25) (kz_0_32 : 0 ≤ pm_0 ∧ pm_0 ≤ 80) (ex2 : gx = pm_0) (ex3 : 0 ≤ gx ∧ gx ≤ 80) : pm_0 = gx := by
  first
    | omega
    | (have h := gr1_m ‹GR1 _ _ _ _ _ _ _ _›; omega)
set_option maxHeartbeats 4000000 in
theorem vc_Mo_grid_11_4 (x1 : Int) (x2 : Int) (pt_0 : Int → Int) (ph_0 : Int → Int) (pn_0 : Int) (pm_0 : Int) (alive_0 : Int → Int) (rotMany_0 : Int → Int) (rot_0 : Int → Int) (gx : Int) (k1 : 1 ≤ x1 ∧ x1 ≤ 1) (k2 : (-2) ≤ x2 ∧ x2 ≤ 84) (f0 : x1 ≠ 0) (f1 : GOK (pn_0) (pm_0) (pt_0) (ph_0)) (f2 : 3 ≤ pn_0) (f3 : pn_0 ≤ 24) (f4 : GR2 (pn_0) (pm_0) (pt_0) (ph_0) (alive_0) (rotMany_0) (rot_0) (x1)) (f5 : 1 * x2 + (1 * pm_0 + ((-1) * x1 + 0)) ≤ 82) (f6 : (-1) * x2 + ((-1) * pm_0 + (1 * x1 + 0)) ≤ (-82)) (hK_0_33 : ∀ j : Int, 0 ≤ j → j < 80 → 0 ≤ pt_0 j ∧ pt_0 j ≤ 24) (hK_0_34 : ∀ j : Int, 0 ≤ j → j < 80 → 0 ≤ ph_0 j ∧ ph_0 j ≤ 24) (hK_0_35 : ∀ j : Int, 0 ≤ j → j < 80 → 0 ≤ alive_0 j ∧ alive_0 j ≤ 1) (hK_0_36 : ∀ j : Int, 0 ≤ j → j < 26 → 0 ≤ rotMany_0 j ∧ rotMany_0 j ≤ 80) (hK_0_37 : ∀ j : Int, 0 ≤ j → j < 2080 → 0 ≤ rot_0 j ∧ rot_0 j ≤ 79) (kz_0_31 : 0 ≤ pn_0 ∧ pn_0 ≤ 25) (kz_0_32 : 0 ≤ pm_0 ∧ pm_0 ≤ 80) (ex2 : gx = pm_0) (ex3 : 0 ≤ gx ∧ gx ≤ 80) : (-1) * x2 + ((-1) * gx + 0) ≤ (-83) := by
  first
    | omega
    | (have h := gr1_m ‹GR1 _ _ _ _ _ _ _ _›; omega)
def o_Mo_grid_11 : or_T := (74, 3, [(0, (2, 0, 0, [150])), (1, (0, 1, 1, [])), (2, (0, -2, 84, []))], [(8, [1], [1]), (20, [0], [60, 2, 2, 0, 31, 32, 33, 34]), (20, [0], [50, 1, 0, 31, 0, 2, 0, 3, 2, 0, 31]), (20, [0], [50, 1, 0, 31, 0, 3, 2, 0, 31, 0, 24]), (20, [0, 1], [60, 2, 5, 213, 31, 32, 33, 34, 35, 36, 37]), (20, [2, 0, 1], [30, 82, 1, 0, 0, 1, 1, 32, -1, 0, 0]), (20, [2, 0, 1], [30, -82, -1, 0, 0, -1, 1, 32, 1, 0, 0])], [], [(0, 0, 80, [])], [(20, [0], [60, 2, 5, 185, 31, 32, 33, 34, 35, 36, 37]), (20, [0], [60, 2, 3, 188, 31, 32, 33, 34, 35]), (20, [0], [50, 1, 0, 31, 0, 2, 0, 3, 2, 0, 31]), (20, [0, 3], [50, 1, 0, 32, 1, 3, 2, 0, 32, 1, 1]), (23, [2, 3], [-83, -1, -1])], [], [])
theorem oo_Mo_grid_11 {kA : Nat → ClassId} : or_ok PRD kA GG o_Mo_grid_11 := by
  intro A ta ws vs hD hth hl hk hds hf
  have hl : vs.length = 3 := hl
  have hk : ∀ q ∈ ([(0, (2, 0, 0, [150])), (1, (0, 1, 1, [])), (2, (0, -2, 84, []))] : List (Nat × tv_T)), tv_ok ta q.2 (n_v vs q.1) := hk
  obtain ⟨t0, hk⟩ := List.forall_mem_cons.mp hk
  have t0 : tv_ok ta (2, 0, 0, [150]) (n_v vs 0) := t0
  have r0 : ta (v_ad (n_v vs 0)) = some 150 := tv_rg t0
  obtain ⟨t1, hk⟩ := List.forall_mem_cons.mp hk
  have t1 : tv_ok ta (0, 1, 1, []) (n_v vs 1) := t1
  have k1 : 1 ≤ v_iv (n_v vs 1) ∧ v_iv (n_v vs 1) ≤ 1 := tv_rng t1
  obtain ⟨t2, hk⟩ := List.forall_mem_cons.mp hk
  have t2 : tv_ok ta (0, -2, 84, []) (n_v vs 2) := t2
  have k2 : (-2) ≤ v_iv (n_v vs 2) ∧ v_iv (n_v vs 2) ≤ 84 := tv_rng t2
  have hf : fc_ok PRD [(8, [1], [1]), (20, [0], [60, 2, 2, 0, 31, 32, 33, 34]), (20, [0], [50, 1, 0, 31, 0, 2, 0, 3, 2, 0, 31]), (20, [0], [50, 1, 0, 31, 0, 3, 2, 0, 31, 0, 24]), (20, [0, 1], [60, 2, 5, 213, 31, 32, 33, 34, 35, 36, 37]), (20, [2, 0, 1], [30, 82, 1, 0, 0, 1, 1, 32, -1, 0, 0]), (20, [2, 0, 1], [30, -82, -1, 0, 0, -1, 1, 32, 1, 0, 0])] ta ws vs := hf
  obtain ⟨f0, hf⟩ := fc_un (show (8 : Nat) < 100 from by decide) hf
  have f0 : v_iv (n_v vs 1) ≠ 0 := f0
  obtain ⟨f1, hf⟩ := fc_un (show (20 : Nat) < 100 from by decide) hf
  have f1 : GOK (w_fi ws (n_v vs 0) 31) (w_fi ws (n_v vs 0) 32) (w_ei ws (w_ar ws (n_v vs 0) 33)) (w_ei ws (w_ar ws (n_v vs 0) 34)) := f1
  obtain ⟨f2, hf⟩ := fc_un (show (20 : Nat) < 100 from by decide) hf
  have f2 : 3 ≤ w_fi ws (n_v vs 0) 31 := f2
  obtain ⟨f3, hf⟩ := fc_un (show (20 : Nat) < 100 from by decide) hf
  have f3 : w_fi ws (n_v vs 0) 31 ≤ 24 := f3
  obtain ⟨f4, hf⟩ := fc_un (show (20 : Nat) < 100 from by decide) hf
  have f4 : GR2 (w_fi ws (n_v vs 0) 31) (w_fi ws (n_v vs 0) 32) (w_ei ws (w_ar ws (n_v vs 0) 33)) (w_ei ws (w_ar ws (n_v vs 0) 34)) (w_ei ws (w_ar ws (n_v vs 0) 35)) (w_ei ws (w_ar ws (n_v vs 0) 36)) (w_ei ws (w_ar ws (n_v vs 0) 37)) (v_iv (n_v vs 1)) := f4
  obtain ⟨f5, hf⟩ := fc_un (show (20 : Nat) < 100 from by decide) hf
  have f5 : 1 * v_iv (n_v vs 2) + (1 * w_fi ws (n_v vs 0) 32 + ((-1) * v_iv (n_v vs 1) + 0)) ≤ 82 := f5
  obtain ⟨f6, hf⟩ := fc_un (show (20 : Nat) < 100 from by decide) hf
  have f6 : (-1) * v_iv (n_v vs 2) + ((-1) * w_fi ws (n_v vs 0) 32 + (1 * v_iv (n_v vs 1) + 0)) ≤ (-82) := f6
  have cr_0_33 : ta (w_ar ws (n_v vs 0) 33) = some 165 := tv_rg (th_fd hD hth r0 (g := GG_150) rfl (k := 33) (t := (2, 0, 0, [165])) rfl rfl)
  have cr_0_34 : ta (w_ar ws (n_v vs 0) 34) = some 166 := tv_rg (th_fd hD hth r0 (g := GG_150) rfl (k := 34) (t := (2, 0, 0, [166])) rfl rfl)
  have cr_0_35 : ta (w_ar ws (n_v vs 0) 35) = some 167 := tv_rg (th_fd hD hth r0 (g := GG_150) rfl (k := 35) (t := (2, 0, 0, [167])) rfl rfl)
  have cr_0_36 : ta (w_ar ws (n_v vs 0) 36) = some 168 := tv_rg (th_fd hD hth r0 (g := GG_150) rfl (k := 36) (t := (2, 0, 0, [168])) rfl rfl)
  have cr_0_37 : ta (w_ar ws (n_v vs 0) 37) = some 169 := tv_rg (th_fd hD hth r0 (g := GG_150) rfl (k := 37) (t := (2, 0, 0, [169])) rfl rfl)
  have hK_0_33 : ∀ j : Int, 0 ≤ j → j < 80 → 0 ≤ w_ei ws (w_ar ws (n_v vs 0) 33) j ∧ w_ei ws (w_ar ws (n_v vs 0) 33) j ≤ 24 := fun j h0 h1 => th_el hD hth cr_0_33 (kd := 0) (n := 80) (m := 80) (lo := 0) (hi := 24) (rs := []) (L := []) rfl (by decide) (j := j.toNat) (by omega)
  have hK_0_34 : ∀ j : Int, 0 ≤ j → j < 80 → 0 ≤ w_ei ws (w_ar ws (n_v vs 0) 34) j ∧ w_ei ws (w_ar ws (n_v vs 0) 34) j ≤ 24 := fun j h0 h1 => th_el hD hth cr_0_34 (kd := 0) (n := 80) (m := 80) (lo := 0) (hi := 24) (rs := []) (L := []) rfl (by decide) (j := j.toNat) (by omega)
  have hK_0_35 : ∀ j : Int, 0 ≤ j → j < 80 → 0 ≤ w_ei ws (w_ar ws (n_v vs 0) 35) j ∧ w_ei ws (w_ar ws (n_v vs 0) 35) j ≤ 1 := fun j h0 h1 => th_el hD hth cr_0_35 (kd := 2) (n := 80) (m := 80) (lo := 0) (hi := 1) (rs := []) (L := []) rfl (by decide) (j := j.toNat) (by omega)
  have hK_0_36 : ∀ j : Int, 0 ≤ j → j < 26 → 0 ≤ w_ei ws (w_ar ws (n_v vs 0) 36) j ∧ w_ei ws (w_ar ws (n_v vs 0) 36) j ≤ 80 := fun j h0 h1 => th_el hD hth cr_0_36 (kd := 0) (n := 26) (m := 26) (lo := 0) (hi := 80) (rs := []) (L := []) rfl (by decide) (j := j.toNat) (by omega)
  have hK_0_37 : ∀ j : Int, 0 ≤ j → j < 2080 → 0 ≤ w_ei ws (w_ar ws (n_v vs 0) 37) j ∧ w_ei ws (w_ar ws (n_v vs 0) 37) j ≤ 79 := fun j h0 h1 => th_el hD hth cr_0_37 (kd := 0) (n := 2080) (m := 2080) (lo := 0) (hi := 79) (rs := []) (L := []) rfl (by decide) (j := j.toNat) (by omega)
  have kz_0_31 : 0 ≤ w_fi ws (n_v vs 0) 31 ∧ w_fi ws (n_v vs 0) 31 ≤ 25 := tv_rng (th_fd hD hth r0 (g := GG_150) rfl (k := 31) (t := (0, 0, 25, [])) rfl rfl)
  have kz_0_32 : 0 ≤ w_fi ws (n_v vs 0) 32 ∧ w_fi ws (n_v vs 0) 32 ≤ 80 := tv_rng (th_fd hD hth r0 (g := GG_150) rfl (k := 32) (t := (0, 0, 80, [])) rfl rfl)
  have kv0 : 0 ≤ w_fi ws (n_v vs 0) 32 ∧ w_fi ws (n_v vs 0) 32 ≤ 80 := tv_rng (th_fd hD hth r0 (g := GG_150) rfl (k := 32) (t := (0, 0, 80, [])) rfl rfl)
  obtain ⟨x, ex, hx⟩ := iv_ex (ta := ta) (lo := 0) (hi := 80) (z := w_fi ws (n_v vs 0) 32) (by omega) (by omega) (by omega) (by omega)
  have ex2 : v_iv (Value.int x) = w_fi ws (n_v vs 0) 32 := ex
  have ex3 : 0 ≤ v_iv (Value.int x) ∧ v_iv (Value.int x) ≤ 80 := tv_rng hx
  have e_0 : n_v (vs ++ [Value.int x]) 0 = n_v vs 0 := n_v_old (by rw [hl]; decide)
  have e_2 : n_v (vs ++ [Value.int x]) 2 = n_v vs 2 := n_v_old (by rw [hl]; decide)
  have e_3 : n_v (vs ++ [Value.int x]) 3 = Value.int x := n_v_new hl
  have nf0 : fc_1 PRD (20, [0], [60, 2, 5, 185, 31, 32, 33, 34, 35, 36, 37]) ws (vs ++ [Value.int x]) := by
    refine ⟨fun n hn => ?_, ?_⟩
    · have hn : n ∈ [0] := hn
      rw [List.length_append, hl]
      simp only [List.mem_cons, List.not_mem_nil, or_false] at hn
      show n < 3 + 1; omega
    · show GRI (w_fi ws (n_v (vs ++ [Value.int x]) 0) 31) (w_fi ws (n_v (vs ++ [Value.int x]) 0) 32) (w_ei ws (w_ar ws (n_v (vs ++ [Value.int x]) 0) 33)) (w_ei ws (w_ar ws (n_v (vs ++ [Value.int x]) 0) 34)) (w_ei ws (w_ar ws (n_v (vs ++ [Value.int x]) 0) 35)) (w_ei ws (w_ar ws (n_v (vs ++ [Value.int x]) 0) 36)) (w_ei ws (w_ar ws (n_v (vs ++ [Value.int x]) 0) 37))
      rw [e_0]
      exact vc_Mo_grid_11_0 (v_iv (n_v vs 1)) (v_iv (n_v vs 2)) (w_ei ws (w_ar ws (n_v vs 0) 33)) (w_ei ws (w_ar ws (n_v vs 0) 34)) (w_fi ws (n_v vs 0) 31) (w_fi ws (n_v vs 0) 32) (w_ei ws (w_ar ws (n_v vs 0) 35)) (w_ei ws (w_ar ws (n_v vs 0) 36)) (w_ei ws (w_ar ws (n_v vs 0) 37)) (v_iv (Value.int x)) k1 k2 f0 f1 f2 f3 f4 f5 f6 hK_0_33 hK_0_34 hK_0_35 hK_0_36 hK_0_37 kz_0_31 kz_0_32 ex2 ex3
  have nf1 : fc_1 PRD (20, [0], [60, 2, 3, 188, 31, 32, 33, 34, 35]) ws (vs ++ [Value.int x]) := by
    refine ⟨fun n hn => ?_, ?_⟩
    · have hn : n ∈ [0] := hn
      rw [List.length_append, hl]
      simp only [List.mem_cons, List.not_mem_nil, or_false] at hn
      show n < 3 + 1; omega
    · show CON (w_fi ws (n_v (vs ++ [Value.int x]) 0) 31) (w_fi ws (n_v (vs ++ [Value.int x]) 0) 32) (w_ei ws (w_ar ws (n_v (vs ++ [Value.int x]) 0) 33)) (w_ei ws (w_ar ws (n_v (vs ++ [Value.int x]) 0) 34)) (w_ei ws (w_ar ws (n_v (vs ++ [Value.int x]) 0) 35))
      rw [e_0]
      exact vc_Mo_grid_11_1 (v_iv (n_v vs 1)) (v_iv (n_v vs 2)) (w_ei ws (w_ar ws (n_v vs 0) 33)) (w_ei ws (w_ar ws (n_v vs 0) 34)) (w_fi ws (n_v vs 0) 31) (w_fi ws (n_v vs 0) 32) (w_ei ws (w_ar ws (n_v vs 0) 35)) (w_ei ws (w_ar ws (n_v vs 0) 36)) (w_ei ws (w_ar ws (n_v vs 0) 37)) (v_iv (Value.int x)) k1 k2 f0 f1 f2 f3 f4 f5 f6 hK_0_33 hK_0_34 hK_0_35 hK_0_36 hK_0_37 kz_0_31 kz_0_32 ex2 ex3
  have nf2 : fc_1 PRD (20, [0], [50, 1, 0, 31, 0, 2, 0, 3, 2, 0, 31]) ws (vs ++ [Value.int x]) := by
    refine ⟨fun n hn => ?_, ?_⟩
    · have hn : n ∈ [0] := hn
      rw [List.length_append, hl]
      simp only [List.mem_cons, List.not_mem_nil, or_false] at hn
      show n < 3 + 1; omega
    · show 3 ≤ w_fi ws (n_v (vs ++ [Value.int x]) 0) 31
      rw [e_0]
      exact vc_Mo_grid_11_2 (v_iv (n_v vs 1)) (v_iv (n_v vs 2)) (w_ei ws (w_ar ws (n_v vs 0) 33)) (w_ei ws (w_ar ws (n_v vs 0) 34)) (w_fi ws (n_v vs 0) 31) (w_fi ws (n_v vs 0) 32) (w_ei ws (w_ar ws (n_v vs 0) 35)) (w_ei ws (w_ar ws (n_v vs 0) 36)) (w_ei ws (w_ar ws (n_v vs 0) 37)) (v_iv (Value.int x)) k1 k2 f0 f1 f2 f3 f4 f5 f6 hK_0_33 hK_0_34 hK_0_35 hK_0_36 hK_0_37 kz_0_31 kz_0_32 ex2 ex3
  have nf3 : fc_1 PRD (20, [0, 3], [50, 1, 0, 32, 1, 3, 2, 0, 32, 1, 1]) ws (vs ++ [Value.int x]) := by
    refine ⟨fun n hn => ?_, ?_⟩
    · have hn : n ∈ [0, 3] := hn
      rw [List.length_append, hl]
      simp only [List.mem_cons, List.not_mem_nil, or_false] at hn
      show n < 3 + 1; omega
    · show w_fi ws (n_v (vs ++ [Value.int x]) 0) 32 = v_iv (n_v (vs ++ [Value.int x]) 3)
      rw [e_0]
      rw [e_3]
      exact vc_Mo_grid_11_3 (v_iv (n_v vs 1)) (v_iv (n_v vs 2)) (w_ei ws (w_ar ws (n_v vs 0) 33)) (w_ei ws (w_ar ws (n_v vs 0) 34)) (w_fi ws (n_v vs 0) 31) (w_fi ws (n_v vs 0) 32) (w_ei ws (w_ar ws (n_v vs 0) 35)) (w_ei ws (w_ar ws (n_v vs 0) 36)) (w_ei ws (w_ar ws (n_v vs 0) 37)) (v_iv (Value.int x)) k1 k2 f0 f1 f2 f3 f4 f5 f6 hK_0_33 hK_0_34 hK_0_35 hK_0_36 hK_0_37 kz_0_31 kz_0_32 ex2 ex3
  have nf4 : fc_1 PRD (23, [2, 3], [-83, -1, -1]) ws (vs ++ [Value.int x]) := by
    refine ⟨fun n hn => ?_, ?_⟩
    · have hn : n ∈ [2, 3] := hn
      rw [List.length_append, hl]
      simp only [List.mem_cons, List.not_mem_nil, or_false] at hn
      show n < 3 + 1; omega
    · show (-1) * v_iv (n_v (vs ++ [Value.int x]) 2) + ((-1) * v_iv (n_v (vs ++ [Value.int x]) 3) + 0) ≤ (-83)
      rw [e_2]
      rw [e_3]
      exact vc_Mo_grid_11_4 (v_iv (n_v vs 1)) (v_iv (n_v vs 2)) (w_ei ws (w_ar ws (n_v vs 0) 33)) (w_ei ws (w_ar ws (n_v vs 0) 34)) (w_fi ws (n_v vs 0) 31) (w_fi ws (n_v vs 0) 32) (w_ei ws (w_ar ws (n_v vs 0) 35)) (w_ei ws (w_ar ws (n_v vs 0) 36)) (w_ei ws (w_ar ws (n_v vs 0) 37)) (v_iv (Value.int x)) k1 k2 f0 f1 f2 f3 f4 f5 f6 hK_0_33 hK_0_34 hK_0_35 hK_0_36 hK_0_37 kz_0_31 kz_0_32 ex2 ex3
  exact ⟨(fun _ h => (by cases h)), [Value.int x], ag_one hx, List.forall_mem_cons.mpr ⟨⟨show (20 : Nat) < 100 from by decide, nf0⟩, List.forall_mem_cons.mpr ⟨⟨show (20 : Nat) < 100 from by decide, nf1⟩, List.forall_mem_cons.mpr ⟨⟨show (20 : Nat) < 100 from by decide, nf2⟩, List.forall_mem_cons.mpr ⟨⟨show (20 : Nat) < 100 from by decide, nf3⟩, List.forall_mem_cons.mpr ⟨⟨show (23 : Nat) < 100 from by decide, nf4⟩, (fun _ h => (by cases h))⟩⟩⟩⟩⟩, (fun _ h => (by cases h))⟩
set_option maxHeartbeats 4000000 in
theorem vc_Mo_grid_12_0 (x2 : Int) (x3 : Int) (x4 : Int) (pn_0 : Int) (pt_0 : Int → Int) (ph_0 : Int → Int) (alive_0 : Int → Int) (rotMany_0 : Int → Int) (rot_0 : Int → Int) (pm_0 : Int) (gx : Int) (k2 : (-2) ≤ x2 ∧ x2 ≤ 84) (k3 : 0 ≤ x3 ∧ x3 ≤ 80) (k4 : 0 ≤ x4 ∧ x4 ≤ 1) (f0 : 3 ≤ pn_0) (f1 : (-1) * x2 + ((-1) * x3 + 0) ≤ (-83)) (f2 : 3 ≤ pn_0) (f3 : pn_0 ≤ 24) (f4 : GRI (pn_0) (pm_0) (pt_0) (ph_0) (alive_0) (rotMany_0) (rot_0)) (f5 : CON (pn_0) (pm_0) (pt_0) (ph_0) (alive_0)) (f6 : CUA (pm_0) (pt_0) (ph_0) (alive_0) (rotMany_0) (rot_0) (x4)) (f7 : (x4 ≠ 0) → (pm_0 = (x3 + 1))) (f8 : (x4 = 0) → (pm_0 = x3)) (f10 : (-1) * x2 + ((-1) * x3 + 0) ≤ (-83)) (hK_0_33 : ∀ j : Int, 0 ≤ j → j < 80 → 0 ≤ pt_0 j ∧ pt_0 j ≤ 24) (hK_0_34 : ∀ j : Int, 0 ≤ j → j < 80 → 0 ≤ ph_0 j ∧ ph_0 j ≤ 24) (hK_0_35 : ∀ j : Int, 0 ≤ j → j < 80 → 0 ≤ alive_0 j ∧ alive_0 j ≤ 1) (hK_0_36 : ∀ j : Int, 0 ≤ j → j < 26 → 0 ≤ rotMany_0 j ∧ rotMany_0 j ≤ 80) (hK_0_37 : ∀ j : Int, 0 ≤ j → j < 2080 → 0 ≤ rot_0 j ∧ rot_0 j ≤ 79) (kz_0_31 : 0 ≤ pn_0 ∧ pn_0 ≤ 25) (kz_0_32 : 0 ≤ pm_0 ∧ pm_0 ≤ 80) (ex2 : gx = 0 + (1 * x2 + 0)) (ex3 : (-2) ≤ gx ∧ gx ≤ 84) : GOK (pn_0) (pm_0) (pt_0) (ph_0) := by
  first
    | assumption
    | exact ‹GRI _ _ _ _ _ _ _›.1.1
set_option maxHeartbeats 4000000 in
theorem vc_Mo_grid_12_1 (x2 : Int) (x3 : Int) (x4 : Int) (pn_0 : Int) (pt_0 : Int → Int) (ph_0 : Int → Int) (alive_0 : Int → Int) (rotMany_0 : Int → Int) (rot_0 : Int → Int) (pm_0 : Int) (gx : Int) (k2 : (-2) ≤ x2 ∧ x2 ≤ 84) (k3 : 0 ≤ x3 ∧ x3 ≤ 80) (k4 : 0 ≤ x4 ∧ x4 ≤ 1) (f0 : 3 ≤ pn_0) (f1 : (-1) * x2 + ((-1) * x3 + 0) ≤ (-83)) (f2 : 3 ≤ pn_0) (f3 : pn_0 ≤ 24) (f4 : GRI (pn_0) (pm_0) (pt_0) (ph_0) (alive_0) (rotMany_0) (rot_0)) (f5 : CON (pn_0) (pm_0) (pt_0) (ph_0) (alive_0)) (f6 : CUA (pm_0) (pt_0) (ph_0) (alive_0) (rotMany_0) (rot_0) (x4)) (f7 : (x4 ≠ 0) → (pm_0 = (x3 + 1))) (f8 : (x4 = 0) → (pm_0 = x3)) (f10 : (-1) * x2 + ((-1) * x3 + 0) ≤ (-83)) (hK_0_33 : ∀ j : Int, 0 ≤ j → j < 80 → 0 ≤ pt_0 j ∧ pt_0 j ≤ 24) (hK_0_34 : ∀ j : Int, 0 ≤ j → j < 80 → 0 ≤ ph_0 j ∧ ph_0 j ≤ 24) (hK_0_35 : ∀ j : Int, 0 ≤ j → j < 80 → 0 ≤ alive_0 j ∧ alive_0 j ≤ 1) (hK_0_36 : ∀ j : Int, 0 ≤ j → j < 26 → 0 ≤ rotMany_0 j ∧ rotMany_0 j ≤ 80) (hK_0_37 : ∀ j : Int, 0 ≤ j → j < 2080 → 0 ≤ rot_0 j ∧ rot_0 j ≤ 79) (kz_0_31 : 0 ≤ pn_0 ∧ pn_0 ≤ 25) (kz_0_32 : 0 ≤ pm_0 ∧ pm_0 ≤ 80) (ex2 : gx = 0 + (1 * x2 + 0)) (ex3 : (-2) ≤ gx ∧ gx ≤ 84) : 3 ≤ pn_0 := by
  first
    | omega
    | (have h := gr1_m ‹GR1 _ _ _ _ _ _ _ _›; omega)
set_option maxHeartbeats 4000000 in
theorem vc_Mo_grid_12_2 (x2 : Int) (x3 : Int) (x4 : Int) (pn_0 : Int) (pt_0 : Int → Int) (ph_0 : Int → Int) (alive_0 : Int → Int) (rotMany_0 : Int → Int) (rot_0 : Int → Int) (pm_0 : Int) (gx : Int) (k2 : (-2) ≤ x2 ∧ x2 ≤ 84) (k3 : 0 ≤ x3 ∧ x3 ≤ 80) (k4 : 0 ≤ x4 ∧ x4 ≤ 1) (f0 : 3 ≤ pn_0) (f1 : (-1) * x2 + ((-1) * x3 + 0) ≤ (-83)) (f2 : 3 ≤ pn_0) (f3 : pn_0 ≤ 24) (f4 : GRI (pn_0) (pm_0) (pt_0) (ph_0) (alive_0) (rotMany_0) (rot_0)) (f5 : CON (pn_0) (pm_0) (pt_0) (ph_0) (alive_0)) (f6 : CUA (pm_0) (pt_0) (ph_0) (alive_0) (rotMany_0) (rot_0) (x4)) (f7 : (x4 ≠ 0) → (pm_0 = (x3 + 1))) (f8 : (x4 = 0) → (pm_0 = x3)) (f10 : (-1) * x2 + ((-1) * x3 + 0) ≤ (-83)) (hK_0_33 : ∀ j : Int, 0 ≤ j → j < 80 → 0 ≤ pt_0 j ∧ pt_0 j ≤ 24) (hK_0_34 : ∀ j : Int, 0 ≤ j → j < 80 → 0 ≤ ph_0 j ∧ ph_0 j ≤ 24) (hK_0_35 : ∀ j : Int, 0 ≤ j → j < 80 → 0 ≤ alive_0 j ∧ alive_0 j ≤ 1) (hK_0_36 : ∀ j : Int, 0 ≤ j → j < 26 → 0 ≤ rotMany_0 j ∧ rotMany_0 j ≤ 80) (hK_0_37 : ∀ j : Int, 0 ≤ j → j < 2080 → 0 ≤ rot_0 j ∧ rot_0 j ≤ 79) (kz_0_31 : 0 ≤ pn_0 ∧ pn_0 ≤ 25) (kz_0_32 : 0 ≤ pm_0 ∧ pm_0 ≤ 80) (ex2 : gx = 0 + (1 * x2 + 0)) (ex3 : (-2) ≤ gx ∧ gx ≤ 84) : pn_0 ≤ 24 := by
  first
    | omega
    | (have h := gr1_m ‹GR1 _ _ _ _ _ _ _ _›; omega)
set_option maxHeartbeats 4000000 in
theorem vc_Mo_grid_12_3 (x2 : Int) (x3 : Int) (x4 : Int) (pn_0 : Int) (pt_0 : Int → Int) (ph_0 : Int → Int) (alive_0 : Int → Int) (rotMany_0 : Int → Int) (rot_0 : Int → Int) (pm_0 : Int) (gx : Int) (k2 : (-2) ≤ x2 ∧ x2 ≤ 84) (k3 : 0 ≤ x3 ∧ x3 ≤ 80) (k4 : 0 ≤ x4 ∧ x4 ≤ 1) (f0 : 3 ≤ pn_0) (f1 : (-1) * x2 + ((-1) * x3 + 0) ≤ (-83)) (f2 : 3 ≤ pn_0) (f3 : pn_0 ≤ 24) (f4 : GRI (pn_0) (pm_0) (pt_0) (ph_0) (alive_0) (rotMany_0) (rot_0)) (f5 : CON (pn_0) (pm_0) (pt_0) (ph_0) (alive_0)) (f6 : CUA (pm_0) (pt_0) (ph_0) (alive_0) (rotMany_0) (rot_0) (x4)) (f7 : (x4 ≠ 0) → (pm_0 = (x3 + 1))) (f8 : (x4 = 0) → (pm_0 = x3)) (f10 : (-1) * x2 + ((-1) * x3 + 0) ≤ (-83)) (hK_0_33 : ∀ j : Int, 0 ≤ j → j < 80 → 0 ≤ pt_0 j ∧ pt_0 j ≤ 24) (hK_0_34 : ∀ j : Int, 0 ≤ j → j < 80 → 0 ≤ ph_0 j ∧ ph_0 j ≤ 24) (hK_0_35 : ∀ j : Int, 0 ≤ j → j < 80 → 0 ≤ alive_0 j ∧ alive_0 j ≤ 1) (hK_0_36 : ∀ j : Int, 0 ≤ j → j < 26 → 0 ≤ rotMany_0 j ∧ rotMany_0 j ≤ 80) (hK_0_37 : ∀ j : Int, 0 ≤ j → j < 2080 → 0 ≤ rot_0 j ∧ rot_0 j ≤ 79) (kz_0_31 : 0 ≤ pn_0 ∧ pn_0 ≤ 25) (kz_0_32 : 0 ≤ pm_0 ∧ pm_0 ≤ 80) (ex2 : gx = 0 + (1 * x2 + 0)) (ex3 : (-2) ≤ gx ∧ gx ≤ 84) : GR2 (pn_0) (pm_0) (pt_0) (ph_0) (alive_0) (rotMany_0) (rot_0) (x4) := by
  exact ⟨‹GRI _ _ _ _ _ _ _›, ‹CON _ _ _ _ _›, ⟨by omega, by omega⟩, ‹CUA _ _ _ _ _ _ _›⟩
set_option maxHeartbeats 4000000 in
theorem vc_Mo_grid_12_4 (x2 : Int) (x3 : Int) (x4 : Int) (pn_0 : Int) (pt_0 : Int → Int) (ph_0 : Int → Int) (alive_0 : Int → Int) (rotMany_0 : Int → Int) (rot_0 : Int → Int) (pm_0 : Int) (gx : Int) (k2 : (-2) ≤ x2 ∧ x2 ≤ 84) (k3 : 0 ≤ x3 ∧ x3 ≤ 80) (k4 : 0 ≤ x4 ∧ x4 ≤ 1) (f0 : 3 ≤ pn_0) (f1 : (-1) * x2 + ((-1) * x3 + 0) ≤ (-83)) (f2 : 3 ≤ pn_0) (f3 : pn_0 ≤ 24) (f4 : GRI (pn_0) (pm_0) (pt_0) (ph_0) (alive_0) (rotMany_0) (rot_0)) (f5 : CON (pn_0) (pm_0) (pt_0) (ph_0) (alive_0)) (f6 : CUA (pm_0) (pt_0) (ph_0) (alive_0) (rotMany_0) (rot_0) (x4)) (f7 : (x4 ≠ 0) → (pm_0 = (x3 + 1))) (f8 : (x4 = 0) → (pm_0 = x3)) (f10 : (-1) * x2 + ((-1) * x3 + 0) ≤ (-83)) (hK_0_33 : ∀ j : Int, 0 ≤ j → j < 80 → 0 ≤ pt_0 j ∧ pt_0 j ≤ 24) (hK_0_34 : ∀ j : Int, 0 ≤ j → j < 80 → 0 ≤ ph_0 j ∧ ph_0 j ≤ 24) (hK_0_35 : ∀ j : Int, 0 ≤ j → j < 80 → 0 ≤ alive_0 j ∧ alive_0 j ≤ 1) (hK_0_36 : ∀ j : Int, 0 ≤ j → j < 26 → 0 ≤ rotMany_0 j ∧ rotMany_0 j ≤ 80) (hK_0_37 : ∀ j : Int, 0 ≤ j → j < 2080 → 0 ≤ rot_0 j ∧ rot_0 j ≤ 79) (kz_0_31 : 0 ≤ pn_0 ∧ pn_0 ≤ 25) (kz_0_32 : 0 ≤ pm_0 ∧ pm_0 ≤ 80) (ex2 : gx = 0 + (1 * x2 + 0)) (ex3 : (-2) ≤ gx ∧ gx ≤ 84) : (-1) * pm_0 + (1 * x4 + ((-1) * gx + 0)) ≤ (-83) := by
  first
    | omega
    | (have h := gr1_m ‹GR1 _ _ _ _ _ _ _ _›; omega)
def o_Mo_grid_12 : or_T := (78, 5, [(0, (2, 0, 0, [150])), (2, (0, -2, 84, [])), (3, (0, 0, 80, [])), (4, (0, 0, 1, []))], [(20, [0], [50, 1, 0, 31, 0, 2, 0, 3, 2, 0, 31]), (23, [2, 3], [-83, -1, -1]), (20, [0], [50, 1, 0, 31, 0, 2, 0, 3, 2, 0, 31]), (20, [0], [50, 1, 0, 31, 0, 3, 2, 0, 31, 0, 24]), (20, [0], [60, 2, 5, 185, 31, 32, 33, 34, 35, 36, 37]), (20, [0], [60, 2, 3, 188, 31, 32, 33, 34, 35]), (20, [0, 4], [60, 1, 5, 197, 32, 33, 34, 35, 36, 37]), (20, [4, 0, 3], [50, 1, 0, 1032, 4, 6, 7, 2, 1, 0, 0, 0, 1, 3, 2, 1, 32, 4, 2, 1, 2, 0, 1]), (20, [4, 0, 3], [50, 1, 0, 1032, 4, 6, 1, 2, 1, 0, 0, 0, 1, 3, 2, 1, 32, 1, 2]), (102, [3], [39846333872137342573011880761262093326842715861856288768, 13032, 13053]), (23, [2, 3], [-83, -1, -1])], [], [(0, -2, 84, [])], [(20, [0], [60, 2, 2, 0, 31, 32, 33, 34]), (20, [0], [50, 1, 0, 31, 0, 2, 0, 3, 2, 0, 31]), (20, [0], [50, 1, 0, 31, 0, 3, 2, 0, 31, 0, 24]), (20, [0, 4], [60, 2, 5, 213, 31, 32, 33, 34, 35, 36, 37]), (20, [0, 4, 5], [30, -83, -1, 1, 32, 1, 0, 0, -1, 0, 0])], [(5, 2, 0, 0)], [])
theorem oo_Mo_grid_12 {kA : Nat → ClassId} : or_ok PRD kA GG o_Mo_grid_12 := by
  intro A ta ws vs hD hth hl hk hds hf
  have hl : vs.length = 5 := hl
  have hk : ∀ q ∈ ([(0, (2, 0, 0, [150])), (2, (0, -2, 84, [])), (3, (0, 0, 80, [])), (4, (0, 0, 1, []))] : List (Nat × tv_T)), tv_ok ta q.2 (n_v vs q.1) := hk
  obtain ⟨t0, hk⟩ := List.forall_mem_cons.mp hk
  have t0 : tv_ok ta (2, 0, 0, [150]) (n_v vs 0) := t0
  have r0 : ta (v_ad (n_v vs 0)) = some 150 := tv_rg t0
  obtain ⟨t2, hk⟩ := List.forall_mem_cons.mp hk
  have t2 : tv_ok ta (0, -2, 84, []) (n_v vs 2) := t2
  have k2 : (-2) ≤ v_iv (n_v vs 2) ∧ v_iv (n_v vs 2) ≤ 84 := tv_rng t2
  obtain ⟨t3, hk⟩ := List.forall_mem_cons.mp hk
  have t3 : tv_ok ta (0, 0, 80, []) (n_v vs 3) := t3
  have k3 : 0 ≤ v_iv (n_v vs 3) ∧ v_iv (n_v vs 3) ≤ 80 := tv_rng t3
  obtain ⟨t4, hk⟩ := List.forall_mem_cons.mp hk
  have t4 : tv_ok ta (0, 0, 1, []) (n_v vs 4) := t4
  have k4 : 0 ≤ v_iv (n_v vs 4) ∧ v_iv (n_v vs 4) ≤ 1 := tv_rng t4
  have hf : fc_ok PRD [(20, [0], [50, 1, 0, 31, 0, 2, 0, 3, 2, 0, 31]), (23, [2, 3], [-83, -1, -1]), (20, [0], [50, 1, 0, 31, 0, 2, 0, 3, 2, 0, 31]), (20, [0], [50, 1, 0, 31, 0, 3, 2, 0, 31, 0, 24]), (20, [0], [60, 2, 5, 185, 31, 32, 33, 34, 35, 36, 37]), (20, [0], [60, 2, 3, 188, 31, 32, 33, 34, 35]), (20, [0, 4], [60, 1, 5, 197, 32, 33, 34, 35, 36, 37]), (20, [4, 0, 3], [50, 1, 0, 1032, 4, 6, 7, 2, 1, 0, 0, 0, 1, 3, 2, 1, 32, 4, 2, 1, 2, 0, 1]), (20, [4, 0, 3], [50, 1, 0, 1032, 4, 6, 1, 2, 1, 0, 0, 0, 1, 3, 2, 1, 32, 1, 2]), (102, [3], [39846333872137342573011880761262093326842715861856288768, 13032, 13053]), (23, [2, 3], [-83, -1, -1])] ta ws vs := hf
  obtain ⟨f0, hf⟩ := fc_un (show (20 : Nat) < 100 from by decide) hf
  have f0 : 3 ≤ w_fi ws (n_v vs 0) 31 := f0
  obtain ⟨f1, hf⟩ := fc_un (show (23 : Nat) < 100 from by decide) hf
  have f1 : (-1) * v_iv (n_v vs 2) + ((-1) * v_iv (n_v vs 3) + 0) ≤ (-83) := f1
  obtain ⟨f2, hf⟩ := fc_un (show (20 : Nat) < 100 from by decide) hf
  have f2 : 3 ≤ w_fi ws (n_v vs 0) 31 := f2
  obtain ⟨f3, hf⟩ := fc_un (show (20 : Nat) < 100 from by decide) hf
  have f3 : w_fi ws (n_v vs 0) 31 ≤ 24 := f3
  obtain ⟨f4, hf⟩ := fc_un (show (20 : Nat) < 100 from by decide) hf
  have f4 : GRI (w_fi ws (n_v vs 0) 31) (w_fi ws (n_v vs 0) 32) (w_ei ws (w_ar ws (n_v vs 0) 33)) (w_ei ws (w_ar ws (n_v vs 0) 34)) (w_ei ws (w_ar ws (n_v vs 0) 35)) (w_ei ws (w_ar ws (n_v vs 0) 36)) (w_ei ws (w_ar ws (n_v vs 0) 37)) := f4
  obtain ⟨f5, hf⟩ := fc_un (show (20 : Nat) < 100 from by decide) hf
  have f5 : CON (w_fi ws (n_v vs 0) 31) (w_fi ws (n_v vs 0) 32) (w_ei ws (w_ar ws (n_v vs 0) 33)) (w_ei ws (w_ar ws (n_v vs 0) 34)) (w_ei ws (w_ar ws (n_v vs 0) 35)) := f5
  obtain ⟨f6, hf⟩ := fc_un (show (20 : Nat) < 100 from by decide) hf
  have f6 : CUA (w_fi ws (n_v vs 0) 32) (w_ei ws (w_ar ws (n_v vs 0) 33)) (w_ei ws (w_ar ws (n_v vs 0) 34)) (w_ei ws (w_ar ws (n_v vs 0) 35)) (w_ei ws (w_ar ws (n_v vs 0) 36)) (w_ei ws (w_ar ws (n_v vs 0) 37)) (v_iv (n_v vs 4)) := f6
  obtain ⟨f7, hf⟩ := fc_un (show (20 : Nat) < 100 from by decide) hf
  have f7 : (v_iv (n_v vs 4) ≠ 0) → (w_fi ws (n_v vs 0) 32 = (v_iv (n_v vs 3) + 1)) := f7
  obtain ⟨f8, hf⟩ := fc_un (show (20 : Nat) < 100 from by decide) hf
  have f8 : (v_iv (n_v vs 4) = 0) → (w_fi ws (n_v vs 0) 32 = v_iv (n_v vs 3)) := f8
  obtain ⟨ta1, w1, le1, ⟨_, s1⟩, hf⟩ := fc_us (show ¬ (102 : Nat) < 100 from by decide) hf
  obtain ⟨f10, hf⟩ := fc_un (show (23 : Nat) < 100 from by decide) hf
  have f10 : (-1) * v_iv (n_v vs 2) + ((-1) * v_iv (n_v vs 3) + 0) ≤ (-83) := f10
  have cr_0_33 : ta (w_ar ws (n_v vs 0) 33) = some 165 := tv_rg (th_fd hD hth r0 (g := GG_150) rfl (k := 33) (t := (2, 0, 0, [165])) rfl rfl)
  have cr_0_34 : ta (w_ar ws (n_v vs 0) 34) = some 166 := tv_rg (th_fd hD hth r0 (g := GG_150) rfl (k := 34) (t := (2, 0, 0, [166])) rfl rfl)
  have cr_0_35 : ta (w_ar ws (n_v vs 0) 35) = some 167 := tv_rg (th_fd hD hth r0 (g := GG_150) rfl (k := 35) (t := (2, 0, 0, [167])) rfl rfl)
  have cr_0_36 : ta (w_ar ws (n_v vs 0) 36) = some 168 := tv_rg (th_fd hD hth r0 (g := GG_150) rfl (k := 36) (t := (2, 0, 0, [168])) rfl rfl)
  have cr_0_37 : ta (w_ar ws (n_v vs 0) 37) = some 169 := tv_rg (th_fd hD hth r0 (g := GG_150) rfl (k := 37) (t := (2, 0, 0, [169])) rfl rfl)
  have hK_0_33 : ∀ j : Int, 0 ≤ j → j < 80 → 0 ≤ w_ei ws (w_ar ws (n_v vs 0) 33) j ∧ w_ei ws (w_ar ws (n_v vs 0) 33) j ≤ 24 := fun j h0 h1 => th_el hD hth cr_0_33 (kd := 0) (n := 80) (m := 80) (lo := 0) (hi := 24) (rs := []) (L := []) rfl (by decide) (j := j.toNat) (by omega)
  have hK_0_34 : ∀ j : Int, 0 ≤ j → j < 80 → 0 ≤ w_ei ws (w_ar ws (n_v vs 0) 34) j ∧ w_ei ws (w_ar ws (n_v vs 0) 34) j ≤ 24 := fun j h0 h1 => th_el hD hth cr_0_34 (kd := 0) (n := 80) (m := 80) (lo := 0) (hi := 24) (rs := []) (L := []) rfl (by decide) (j := j.toNat) (by omega)
  have hK_0_35 : ∀ j : Int, 0 ≤ j → j < 80 → 0 ≤ w_ei ws (w_ar ws (n_v vs 0) 35) j ∧ w_ei ws (w_ar ws (n_v vs 0) 35) j ≤ 1 := fun j h0 h1 => th_el hD hth cr_0_35 (kd := 2) (n := 80) (m := 80) (lo := 0) (hi := 1) (rs := []) (L := []) rfl (by decide) (j := j.toNat) (by omega)
  have hK_0_36 : ∀ j : Int, 0 ≤ j → j < 26 → 0 ≤ w_ei ws (w_ar ws (n_v vs 0) 36) j ∧ w_ei ws (w_ar ws (n_v vs 0) 36) j ≤ 80 := fun j h0 h1 => th_el hD hth cr_0_36 (kd := 0) (n := 26) (m := 26) (lo := 0) (hi := 80) (rs := []) (L := []) rfl (by decide) (j := j.toNat) (by omega)
  have hK_0_37 : ∀ j : Int, 0 ≤ j → j < 2080 → 0 ≤ w_ei ws (w_ar ws (n_v vs 0) 37) j ∧ w_ei ws (w_ar ws (n_v vs 0) 37) j ≤ 79 := fun j h0 h1 => th_el hD hth cr_0_37 (kd := 0) (n := 2080) (m := 2080) (lo := 0) (hi := 79) (rs := []) (L := []) rfl (by decide) (j := j.toNat) (by omega)
  have kz_0_31 : 0 ≤ w_fi ws (n_v vs 0) 31 ∧ w_fi ws (n_v vs 0) 31 ≤ 25 := tv_rng (th_fd hD hth r0 (g := GG_150) rfl (k := 31) (t := (0, 0, 25, [])) rfl rfl)
  have kz_0_32 : 0 ≤ w_fi ws (n_v vs 0) 32 ∧ w_fi ws (n_v vs 0) 32 ≤ 80 := tv_rng (th_fd hD hth r0 (g := GG_150) rfl (k := 32) (t := (0, 0, 80, [])) rfl rfl)
  obtain ⟨x, ex, hx⟩ := iv_ex (ta := ta) (lo := (-2)) (hi := 84) (z := 0 + (1 * v_iv (n_v vs 2) + 0)) (by omega) (by omega) (by omega) (by omega)
  have ex2 : v_iv (Value.int x) = 0 + (1 * v_iv (n_v vs 2) + 0) := ex
  have ex3 : (-2) ≤ v_iv (Value.int x) ∧ v_iv (Value.int x) ≤ 84 := tv_rng hx
  have e_0 : n_v (vs ++ [Value.int x]) 0 = n_v vs 0 := n_v_old (by rw [hl]; decide)
  have e_4 : n_v (vs ++ [Value.int x]) 4 = n_v vs 4 := n_v_old (by rw [hl]; decide)
  have e_5 : n_v (vs ++ [Value.int x]) 5 = Value.int x := n_v_new hl
  have nf0 : fc_1 PRD (20, [0], [60, 2, 2, 0, 31, 32, 33, 34]) ws (vs ++ [Value.int x]) := by
    refine ⟨fun n hn => ?_, ?_⟩
    · have hn : n ∈ [0] := hn
      rw [List.length_append, hl]
      simp only [List.mem_cons, List.not_mem_nil, or_false] at hn
      show n < 5 + 1; omega
    · show GOK (w_fi ws (n_v (vs ++ [Value.int x]) 0) 31) (w_fi ws (n_v (vs ++ [Value.int x]) 0) 32) (w_ei ws (w_ar ws (n_v (vs ++ [Value.int x]) 0) 33)) (w_ei ws (w_ar ws (n_v (vs ++ [Value.int x]) 0) 34))
      rw [e_0]
      exact vc_Mo_grid_12_0 (v_iv (n_v vs 2)) (v_iv (n_v vs 3)) (v_iv (n_v vs 4)) (w_fi ws (n_v vs 0) 31) (w_ei ws (w_ar ws (n_v vs 0) 33)) (w_ei ws (w_ar ws (n_v vs 0) 34)) (w_ei ws (w_ar ws (n_v vs 0) 35)) (w_ei ws (w_ar ws (n_v vs 0) 36)) (w_ei ws (w_ar ws (n_v vs 0) 37)) (w_fi ws (n_v vs 0) 32) (v_iv (Value.int x)) k2 k3 k4 f0 f1 f2 f3 f4 f5 f6 f7 f8 f10 hK_0_33 hK_0_34 hK_0_35 hK_0_36 hK_0_37 kz_0_31 kz_0_32 ex2 ex3
  have nf1 : fc_1 PRD (20, [0], [50, 1, 0, 31, 0, 2, 0, 3, 2, 0, 31]) ws (vs ++ [Value.int x]) := by
    refine ⟨fun n hn => ?_, ?_⟩
    · have hn : n ∈ [0] := hn
      rw [List.length_append, hl]
      simp only [List.mem_cons, List.not_mem_nil, or_false] at hn
      show n < 5 + 1; omega
    · show 3 ≤ w_fi ws (n_v (vs ++ [Value.int x]) 0) 31
      rw [e_0]
      exact vc_Mo_grid_12_1 (v_iv (n_v vs 2)) (v_iv (n_v vs 3)) (v_iv (n_v vs 4)) (w_fi ws (n_v vs 0) 31) (w_ei ws (w_ar ws (n_v vs 0) 33)) (w_ei ws (w_ar ws (n_v vs 0) 34)) (w_ei ws (w_ar ws (n_v vs 0) 35)) (w_ei ws (w_ar ws (n_v vs 0) 36)) (w_ei ws (w_ar ws (n_v vs 0) 37)) (w_fi ws (n_v vs 0) 32) (v_iv (Value.int x)) k2 k3 k4 f0 f1 f2 f3 f4 f5 f6 f7 f8 f10 hK_0_33 hK_0_34 hK_0_35 hK_0_36 hK_0_37 kz_0_31 kz_0_32 ex2 ex3
  have nf2 : fc_1 PRD (20, [0], [50, 1, 0, 31, 0, 3, 2, 0, 31, 0, 24]) ws (vs ++ [Value.int x]) := by
    refine ⟨fun n hn => ?_, ?_⟩
    · have hn : n ∈ [0] := hn
      rw [List.length_append, hl]
      simp only [List.mem_cons, List.not_mem_nil, or_false] at hn
      show n < 5 + 1; omega
    · show w_fi ws (n_v (vs ++ [Value.int x]) 0) 31 ≤ 24
      rw [e_0]
      exact vc_Mo_grid_12_2 (v_iv (n_v vs 2)) (v_iv (n_v vs 3)) (v_iv (n_v vs 4)) (w_fi ws (n_v vs 0) 31) (w_ei ws (w_ar ws (n_v vs 0) 33)) (w_ei ws (w_ar ws (n_v vs 0) 34)) (w_ei ws (w_ar ws (n_v vs 0) 35)) (w_ei ws (w_ar ws (n_v vs 0) 36)) (w_ei ws (w_ar ws (n_v vs 0) 37)) (w_fi ws (n_v vs 0) 32) (v_iv (Value.int x)) k2 k3 k4 f0 f1 f2 f3 f4 f5 f6 f7 f8 f10 hK_0_33 hK_0_34 hK_0_35 hK_0_36 hK_0_37 kz_0_31 kz_0_32 ex2 ex3
  have nf3 : fc_1 PRD (20, [0, 4], [60, 2, 5, 213, 31, 32, 33, 34, 35, 36, 37]) ws (vs ++ [Value.int x]) := by
    refine ⟨fun n hn => ?_, ?_⟩
    · have hn : n ∈ [0, 4] := hn
      rw [List.length_append, hl]
      simp only [List.mem_cons, List.not_mem_nil, or_false] at hn
      show n < 5 + 1; omega
    · show GR2 (w_fi ws (n_v (vs ++ [Value.int x]) 0) 31) (w_fi ws (n_v (vs ++ [Value.int x]) 0) 32) (w_ei ws (w_ar ws (n_v (vs ++ [Value.int x]) 0) 33)) (w_ei ws (w_ar ws (n_v (vs ++ [Value.int x]) 0) 34)) (w_ei ws (w_ar ws (n_v (vs ++ [Value.int x]) 0) 35)) (w_ei ws (w_ar ws (n_v (vs ++ [Value.int x]) 0) 36)) (w_ei ws (w_ar ws (n_v (vs ++ [Value.int x]) 0) 37)) (v_iv (n_v (vs ++ [Value.int x]) 4))
      rw [e_0]
      rw [e_4]
      exact vc_Mo_grid_12_3 (v_iv (n_v vs 2)) (v_iv (n_v vs 3)) (v_iv (n_v vs 4)) (w_fi ws (n_v vs 0) 31) (w_ei ws (w_ar ws (n_v vs 0) 33)) (w_ei ws (w_ar ws (n_v vs 0) 34)) (w_ei ws (w_ar ws (n_v vs 0) 35)) (w_ei ws (w_ar ws (n_v vs 0) 36)) (w_ei ws (w_ar ws (n_v vs 0) 37)) (w_fi ws (n_v vs 0) 32) (v_iv (Value.int x)) k2 k3 k4 f0 f1 f2 f3 f4 f5 f6 f7 f8 f10 hK_0_33 hK_0_34 hK_0_35 hK_0_36 hK_0_37 kz_0_31 kz_0_32 ex2 ex3
  have nf4 : fc_1 PRD (20, [0, 4, 5], [30, -83, -1, 1, 32, 1, 0, 0, -1, 0, 0]) ws (vs ++ [Value.int x]) := by
    refine ⟨fun n hn => ?_, ?_⟩
    · have hn : n ∈ [0, 4, 5] := hn
      rw [List.length_append, hl]
      simp only [List.mem_cons, List.not_mem_nil, or_false] at hn
      show n < 5 + 1; omega
    · show (-1) * w_fi ws (n_v (vs ++ [Value.int x]) 0) 32 + (1 * v_iv (n_v (vs ++ [Value.int x]) 4) + ((-1) * v_iv (n_v (vs ++ [Value.int x]) 5) + 0)) ≤ (-83)
      rw [e_0]
      rw [e_4]
      rw [e_5]
      exact vc_Mo_grid_12_4 (v_iv (n_v vs 2)) (v_iv (n_v vs 3)) (v_iv (n_v vs 4)) (w_fi ws (n_v vs 0) 31) (w_ei ws (w_ar ws (n_v vs 0) 33)) (w_ei ws (w_ar ws (n_v vs 0) 34)) (w_ei ws (w_ar ws (n_v vs 0) 35)) (w_ei ws (w_ar ws (n_v vs 0) 36)) (w_ei ws (w_ar ws (n_v vs 0) 37)) (w_fi ws (n_v vs 0) 32) (v_iv (Value.int x)) k2 k3 k4 f0 f1 f2 f3 f4 f5 f6 f7 f8 f10 hK_0_33 hK_0_34 hK_0_35 hK_0_36 hK_0_37 kz_0_31 kz_0_32 ex2 ex3
  obtain ⟨x0, e0, _, _⟩ := tv_int t2 rfl
  have e1 : v_iv (n_v vs 2) = x0.toInt := by rw [e0]; rfl
  have ho : sy_ofs (vs ++ [Value.int x]) (5, 2, 0, 0) := by
    refine ⟨x, x0, by rw [List.getElem?_append_right (by rw [hl]; decide), hl]; rfl, ?_, ?_, ?_⟩
    · rw [List.getElem?_append_left (by rw [hl]; decide)]; exact n_v_some (by rw [hl]; decide) e0
    · show x0.toInt + 0 ≤ x.toInt; omega
    · show x.toInt ≤ x0.toInt + 0; omega
  exact ⟨(fun _ h => (by cases h)), [Value.int x], ag_one hx, List.forall_mem_cons.mpr ⟨⟨show (20 : Nat) < 100 from by decide, nf0⟩, List.forall_mem_cons.mpr ⟨⟨show (20 : Nat) < 100 from by decide, nf1⟩, List.forall_mem_cons.mpr ⟨⟨show (20 : Nat) < 100 from by decide, nf2⟩, List.forall_mem_cons.mpr ⟨⟨show (20 : Nat) < 100 from by decide, nf3⟩, List.forall_mem_cons.mpr ⟨⟨show (20 : Nat) < 100 from by decide, nf4⟩, (fun _ h => (by cases h))⟩⟩⟩⟩⟩, List.forall_mem_cons.mpr ⟨ho, (fun _ h => (by cases h))⟩⟩
set_option maxHeartbeats 4000000 in
theorem vc_Mo_grid_13_0 (x1 : Int) (x2 : Int) (pt_0 : Int → Int) (ph_0 : Int → Int) (pn_0 : Int) (pm_0 : Int) (alive_0 : Int → Int) (rotMany_0 : Int → Int) (rot_0 : Int → Int) (gx : Int) (k1 : 0 ≤ x1 ∧ x1 ≤ 1) (k2 : (-2) ≤ x2 ∧ x2 ≤ 84) (f0 : GOK (pn_0) (pm_0) (pt_0) (ph_0)) (f1 : 3 ≤ pn_0) (f2 : pn_0 ≤ 24) (f3 : GR2 (pn_0) (pm_0) (pt_0) (ph_0) (alive_0) (rotMany_0) (rot_0) (x1)) (f4 : (-1) * pm_0 + (1 * x1 + ((-1) * x2 + 0)) ≤ (-83)) (hK_0_33 : ∀ j : Int, 0 ≤ j → j < 80 → 0 ≤ pt_0 j ∧ pt_0 j ≤ 24) (hK_0_34 : ∀ j : Int, 0 ≤ j → j < 80 → 0 ≤ ph_0 j ∧ ph_0 j ≤ 24) (hK_0_35 : ∀ j : Int, 0 ≤ j → j < 80 → 0 ≤ alive_0 j ∧ alive_0 j ≤ 1) (hK_0_36 : ∀ j : Int, 0 ≤ j → j < 26 → 0 ≤ rotMany_0 j ∧ rotMany_0 j ≤ 80) (hK_0_37 : ∀ j : Int, 0 ≤ j → j < 2080 → 0 ≤ rot_0 j ∧ rot_0 j ≤ 79) (kz_0_31 : 0 ≤ pn_0 ∧ pn_0 ≤ 25) (kz_0_32 : 0 ≤ pm_0 ∧ pm_0 ≤ 80) (ex2 : gx = 82 + ((-1) * pm_0 + (1 * x1 + 0))) (ex3 : (-2) ≤ gx ∧ gx ≤ 84) : GOK (pn_0) (pm_0) (pt_0) (ph_0) := by
  first
    | assumption
    | exact ‹GRI _ _ _ _ _ _ _›.1.1
set_option maxHeartbeats 4000000 in
theorem vc_Mo_grid_13_1 (x1 : Int) (x2 : Int) (pt_0 : Int → Int) (ph_0 : Int → Int) (pn_0 : Int) (pm_0 : Int) (alive_0 : Int → Int) (rotMany_0 : Int → Int) (rot_0 : Int → Int) (gx : Int) (k1 : 0 ≤ x1 ∧ x1 ≤ 1) (k2 : (-2) ≤ x2 ∧ x2 ≤ 84) (f0 : GOK (pn_0) (pm_0) (pt_0) (ph_0)) (f1 : 3 ≤ pn_0) (f2 : pn_0 ≤ 24) (f3 : GR2 (pn_0) (pm_0) (pt_0) (ph_0) (alive_0) (rotMany_0) (rot_0) (x1)) (f4 : (-1) * pm_0 + (1 * x1 + ((-1) * x2 + 0)) ≤ (-83)) (hK_0_33 : ∀ j : Int, 0 ≤ j → j < 80 → 0 ≤ pt_0 j ∧ pt_0 j ≤ 24) (hK_0_34 : ∀ j : Int, 0 ≤ j → j < 80 → 0 ≤ ph_0 j ∧ ph_0 j ≤ 24) (hK_0_35 : ∀ j : Int, 0 ≤ j → j < 80 → 0 ≤ alive_0 j ∧ alive_0 j ≤ 1) (hK_0_36 : ∀ j : Int, 0 ≤ j → j < 26 → 0 ≤ rotMany_0 j ∧ rotMany_0 j ≤ 80) (hK_0_37 : ∀ j : Int, 0 ≤ j → j < 2080 → 0 ≤ rot_0 j ∧ rot_0 j ≤ 79) (kz_0_31 : 0 ≤ pn_0 ∧ pn_0 ≤ 25) (kz_0_32 : 0 ≤ pm_0 ∧ pm_0 ≤ 80) (ex2 : gx = 82 + ((-1) * pm_0 + (1 * x1 + 0))) (ex3 : (-2) ≤ gx ∧ gx ≤ 84) : 3 ≤ pn_0 := by
  first
    | omega
    | (have h := gr1_m ‹GR1 _ _ _ _ _ _ _ _›; omega)
set_option maxHeartbeats 4000000 in
theorem vc_Mo_grid_13_2 (x1 : Int) (x2 : Int) (pt_0 : Int → Int) (ph_0 : Int → Int) (pn_0 : Int) (pm_0 : Int) (alive_0 : Int → Int) (rotMany_0 : Int → Int) (rot_0 : Int → Int) (gx : Int) (k1 : 0 ≤ x1 ∧ x1 ≤ 1) (k2 : (-2) ≤ x2 ∧ x2 ≤ 84) (f0 : GOK (pn_0) (pm_0) (pt_0) (ph_0)) (f1 : 3 ≤ pn_0) (f2 : pn_0 ≤ 24) (f3 : GR2 (pn_0) (pm_0) (pt_0) (ph_0) (alive_0) (rotMany_0) (rot_0) (x1)) (f4 : (-1) * pm_0 + (1 * x1 + ((-1) * x2 + 0)) ≤ (-83)) (hK_0_33 : ∀ j : Int, 0 ≤ j → j < 80 → 0 ≤ pt_0 j ∧ pt_0 j ≤ 24) (hK_0_34 : ∀ j : Int, 0 ≤ j → j < 80 → 0 ≤ ph_0 j ∧ ph_0 j ≤ 24) (hK_0_35 : ∀ j : Int, 0 ≤ j → j < 80 → 0 ≤ alive_0 j ∧ alive_0 j ≤ 1) (hK_0_36 : ∀ j : Int, 0 ≤ j → j < 26 → 0 ≤ rotMany_0 j ∧ rotMany_0 j ≤ 80) (hK_0_37 : ∀ j : Int, 0 ≤ j → j < 2080 → 0 ≤ rot_0 j ∧ rot_0 j ≤ 79) (kz_0_31 : 0 ≤ pn_0 ∧ pn_0 ≤ 25) (kz_0_32 : 0 ≤ pm_0 ∧ pm_0 ≤ 80) (ex2 : gx = 82 + ((-1) * pm_0 + (1 * x1 + 0))) (ex3 : (-2) ≤ gx ∧ gx ≤ 84) : pn_0 ≤ 24 := by
  first
    | omega
    | (have h := gr1_m ‹GR1 _ _ _ _ _ _ _ _›; omega)
set_option maxHeartbeats 4000000 in
theorem vc_Mo_grid_13_3 (x1 : Int) (x2 : Int) (pt_0 : Int → Int) (ph_0 : Int → Int) (pn_0 : Int) (pm_0 : Int) (alive_0 : Int → Int) (rotMany_0 : Int → Int) (rot_0 : Int → Int) (gx : Int) (k1 : 0 ≤ x1 ∧ x1 ≤ 1) (k2 : (-2) ≤ x2 ∧ x2 ≤ 84) (f0 : GOK (pn_0) (pm_0) (pt_0) (ph_0)) (f1 : 3 ≤ pn_0) (f2 : pn_0 ≤ 24) (f3 : GR2 (pn_0) (pm_0) (pt_0) (ph_0) (alive_0) (rotMany_0) (rot_0) (x1)) (f4 : (-1) * pm_0 + (1 * x1 + ((-1) * x2 + 0)) ≤ (-83)) (hK_0_33 : ∀ j : Int, 0 ≤ j → j < 80 → 0 ≤ pt_0 j ∧ pt_0 j ≤ 24) (hK_0_34 : ∀ j : Int, 0 ≤ j → j < 80 → 0 ≤ ph_0 j ∧ ph_0 j ≤ 24) (hK_0_35 : ∀ j : Int, 0 ≤ j → j < 80 → 0 ≤ alive_0 j ∧ alive_0 j ≤ 1) (hK_0_36 : ∀ j : Int, 0 ≤ j → j < 26 → 0 ≤ rotMany_0 j ∧ rotMany_0 j ≤ 80) (hK_0_37 : ∀ j : Int, 0 ≤ j → j < 2080 → 0 ≤ rot_0 j ∧ rot_0 j ≤ 79) (kz_0_31 : 0 ≤ pn_0 ∧ pn_0 ≤ 25) (kz_0_32 : 0 ≤ pm_0 ∧ pm_0 ≤ 80) (ex2 : gx = 82 + ((-1) * pm_0 + (1 * x1 + 0))) (ex3 : (-2) ≤ gx ∧ gx ≤ 84) : GR2 (pn_0) (pm_0) (pt_0) (ph_0) (alive_0) (rotMany_0) (rot_0) (x1) := by
  first
    | assumption
    | exact ⟨‹GR1 _ _ _ _ _ _ _ _›.1, apn_con ‹APN _ _ _ _ _ _› (by omega), ⟨by omega, by omega⟩, fun z => by exfalso; omega⟩
    | exact ⟨‹GRI _ _ _ _ _ _ _›, ‹CON _ _ _ _ _›, ⟨by omega, by omega⟩, ‹CUA _ _ _ _ _ _ _›⟩
set_option maxHeartbeats 4000000 in
theorem vc_Mo_grid_13_4 (x1 : Int) (x2 : Int) (pt_0 : Int → Int) (ph_0 : Int → Int) (pn_0 : Int) (pm_0 : Int) (alive_0 : Int → Int) (rotMany_0 : Int → Int) (rot_0 : Int → Int) (gx : Int) (k1 : 0 ≤ x1 ∧ x1 ≤ 1) (k2 : (-2) ≤ x2 ∧ x2 ≤ 84) (f0 : GOK (pn_0) (pm_0) (pt_0) (ph_0)) (f1 : 3 ≤ pn_0) (f2 : pn_0 ≤ 24) (f3 : GR2 (pn_0) (pm_0) (pt_0) (ph_0) (alive_0) (rotMany_0) (rot_0) (x1)) (f4 : (-1) * pm_0 + (1 * x1 + ((-1) * x2 + 0)) ≤ (-83)) (hK_0_33 : ∀ j : Int, 0 ≤ j → j < 80 → 0 ≤ pt_0 j ∧ pt_0 j ≤ 24) (hK_0_34 : ∀ j : Int, 0 ≤ j → j < 80 → 0 ≤ ph_0 j ∧ ph_0 j ≤ 24) (hK_0_35 : ∀ j : Int, 0 ≤ j → j < 80 → 0 ≤ alive_0 j ∧ alive_0 j ≤ 1) (hK_0_36 : ∀ j : Int, 0 ≤ j → j < 26 → 0 ≤ rotMany_0 j ∧ rotMany_0 j ≤ 80) (hK_0_37 : ∀ j : Int, 0 ≤ j → j < 2080 → 0 ≤ rot_0 j ∧ rot_0 j ≤ 79) (kz_0_31 : 0 ≤ pn_0 ∧ pn_0 ≤ 25) (kz_0_32 : 0 ≤ pm_0 ∧ pm_0 ≤ 80) (ex2 : gx = 82 + ((-1) * pm_0 + (1 * x1 + 0))) (ex3 : (-2) ≤ gx ∧ gx ≤ 84) : 1 * gx + (1 * pm_0 + ((-1) * x1 + 0)) ≤ 82 := by
  first
    | omega
    | (have h := gr1_m ‹GR1 _ _ _ _ _ _ _ _›; omega)
set_option maxHeartbeats 4000000 in
theorem vc_Mo_grid_13_5 (x1 : Int) (x2 : Int) (pt_0 : Int → Int) (ph_0 : Int → Int) (pn_0 : Int) (pm_0 : Int) (alive_0 : Int → Int) (rotMany_0 : Int → Int) (rot_0 : Int → Int) (gx : Int) (k1 : 0 ≤ x1 ∧ x1 ≤ 1) (k2 : (-2) ≤ x2 ∧ x2 ≤ 84) (f0 : GOK (pn_0) (pm_0) (pt_0) (ph_0)) (f1 : 3 ≤ pn_0) (f2 : pn_0 ≤ 24) (f3 : GR2 (pn_0) (pm_0) (pt_0) (ph_0) (alive_0) (rotMany_0) (rot_0) (x1)) (f4 : (-1) * pm_0 + (1 * x1 + ((-1) * x2 + 0)) ≤ (-83)) (hK_0_33 : ∀ j : Int, 0 ≤ j → j < 80 → 0 ≤ pt_0 j ∧ pt_0 j ≤ 24) (hK_0_34 : ∀ j : Int, 0 ≤ j → j < 80 → 0 ≤ ph_0 j ∧ ph_0 j ≤ 24) (hK_0_35 : ∀ j : Int, 0 ≤ j → j < 80 → 0 ≤ alive_0 j ∧ alive_0 j ≤ 1) (hK_0_36 : ∀ j : Int, 0 ≤ j → j < 26 → 0 ≤ rotMany_0 j ∧ rotMany_0 j ≤ 80) (hK_0_37 : ∀ j : Int, 0 ≤ j → j < 2080 → 0 ≤ rot_0 j ∧ rot_0 j ≤ 79) (kz_0_31 : 0 ≤ pn_0 ∧ pn_0 ≤ 25) (kz_0_32 : 0 ≤ pm_0 ∧ pm_0 ≤ 80) (ex2 : gx = 82 + ((-1) * pm_0 + (1 * x1 + 0))) (ex3 : (-2) ≤ gx ∧ gx ≤ 84) : (-1) * gx + ((-1) * pm_0 + (1 * x1 + 0)) ≤ (-82) := by
  first
    | omega
    | (have h := gr1_m ‹GR1 _ _ _ _ _ _ _ _›; omega)
def o_Mo_grid_13 : or_T := (69, 3, [(0, (2, 0, 0, [150])), (1, (0, 0, 1, [])), (2, (0, -2, 84, []))], [(20, [0], [60, 2, 2, 0, 31, 32, 33, 34]), (20, [0], [50, 1, 0, 31, 0, 2, 0, 3, 2, 0, 31]), (20, [0], [50, 1, 0, 31, 0, 3, 2, 0, 31, 0, 24]), (20, [0, 1], [60, 2, 5, 213, 31, 32, 33, 34, 35, 36, 37]), (20, [0, 1, 2], [30, -83, -1, 1, 32, 1, 0, 0, -1, 0, 0])], [], [(0, -2, 84, [])], [(20, [0], [60, 2, 2, 0, 31, 32, 33, 34]), (20, [0], [50, 1, 0, 31, 0, 2, 0, 3, 2, 0, 31]), (20, [0], [50, 1, 0, 31, 0, 3, 2, 0, 31, 0, 24]), (20, [0, 1], [60, 2, 5, 213, 31, 32, 33, 34, 35, 36, 37]), (20, [3, 0, 1], [30, 82, 1, 0, 0, 1, 1, 32, -1, 0, 0]), (20, [3, 0, 1], [30, -82, -1, 0, 0, -1, 1, 32, 1, 0, 0])], [(3, 2, -1000000000000, -1)], [])
theorem oo_Mo_grid_13 {kA : Nat → ClassId} : or_ok PRD kA GG o_Mo_grid_13 := by
  intro A ta ws vs hD hth hl hk hds hf
  have hl : vs.length = 3 := hl
  have hk : ∀ q ∈ ([(0, (2, 0, 0, [150])), (1, (0, 0, 1, [])), (2, (0, -2, 84, []))] : List (Nat × tv_T)), tv_ok ta q.2 (n_v vs q.1) := hk
  obtain ⟨t0, hk⟩ := List.forall_mem_cons.mp hk
  have t0 : tv_ok ta (2, 0, 0, [150]) (n_v vs 0) := t0
  have r0 : ta (v_ad (n_v vs 0)) = some 150 := tv_rg t0
  obtain ⟨t1, hk⟩ := List.forall_mem_cons.mp hk
  have t1 : tv_ok ta (0, 0, 1, []) (n_v vs 1) := t1
  have k1 : 0 ≤ v_iv (n_v vs 1) ∧ v_iv (n_v vs 1) ≤ 1 := tv_rng t1
  obtain ⟨t2, hk⟩ := List.forall_mem_cons.mp hk
  have t2 : tv_ok ta (0, -2, 84, []) (n_v vs 2) := t2
  have k2 : (-2) ≤ v_iv (n_v vs 2) ∧ v_iv (n_v vs 2) ≤ 84 := tv_rng t2
  have hf : fc_ok PRD [(20, [0], [60, 2, 2, 0, 31, 32, 33, 34]), (20, [0], [50, 1, 0, 31, 0, 2, 0, 3, 2, 0, 31]), (20, [0], [50, 1, 0, 31, 0, 3, 2, 0, 31, 0, 24]), (20, [0, 1], [60, 2, 5, 213, 31, 32, 33, 34, 35, 36, 37]), (20, [0, 1, 2], [30, -83, -1, 1, 32, 1, 0, 0, -1, 0, 0])] ta ws vs := hf
  obtain ⟨f0, hf⟩ := fc_un (show (20 : Nat) < 100 from by decide) hf
  have f0 : GOK (w_fi ws (n_v vs 0) 31) (w_fi ws (n_v vs 0) 32) (w_ei ws (w_ar ws (n_v vs 0) 33)) (w_ei ws (w_ar ws (n_v vs 0) 34)) := f0
  obtain ⟨f1, hf⟩ := fc_un (show (20 : Nat) < 100 from by decide) hf
  have f1 : 3 ≤ w_fi ws (n_v vs 0) 31 := f1
  obtain ⟨f2, hf⟩ := fc_un (show (20 : Nat) < 100 from by decide) hf
  have f2 : w_fi ws (n_v vs 0) 31 ≤ 24 := f2
  obtain ⟨f3, hf⟩ := fc_un (show (20 : Nat) < 100 from by decide) hf
  have f3 : GR2 (w_fi ws (n_v vs 0) 31) (w_fi ws (n_v vs 0) 32) (w_ei ws (w_ar ws (n_v vs 0) 33)) (w_ei ws (w_ar ws (n_v vs 0) 34)) (w_ei ws (w_ar ws (n_v vs 0) 35)) (w_ei ws (w_ar ws (n_v vs 0) 36)) (w_ei ws (w_ar ws (n_v vs 0) 37)) (v_iv (n_v vs 1)) := f3
  obtain ⟨f4, hf⟩ := fc_un (show (20 : Nat) < 100 from by decide) hf
  have f4 : (-1) * w_fi ws (n_v vs 0) 32 + (1 * v_iv (n_v vs 1) + ((-1) * v_iv (n_v vs 2) + 0)) ≤ (-83) := f4
  have cr_0_33 : ta (w_ar ws (n_v vs 0) 33) = some 165 := tv_rg (th_fd hD hth r0 (g := GG_150) rfl (k := 33) (t := (2, 0, 0, [165])) rfl rfl)
  have cr_0_34 : ta (w_ar ws (n_v vs 0) 34) = some 166 := tv_rg (th_fd hD hth r0 (g := GG_150) rfl (k := 34) (t := (2, 0, 0, [166])) rfl rfl)
  have cr_0_35 : ta (w_ar ws (n_v vs 0) 35) = some 167 := tv_rg (th_fd hD hth r0 (g := GG_150) rfl (k := 35) (t := (2, 0, 0, [167])) rfl rfl)
  have cr_0_36 : ta (w_ar ws (n_v vs 0) 36) = some 168 := tv_rg (th_fd hD hth r0 (g := GG_150) rfl (k := 36) (t := (2, 0, 0, [168])) rfl rfl)
  have cr_0_37 : ta (w_ar ws (n_v vs 0) 37) = some 169 := tv_rg (th_fd hD hth r0 (g := GG_150) rfl (k := 37) (t := (2, 0, 0, [169])) rfl rfl)
  have hK_0_33 : ∀ j : Int, 0 ≤ j → j < 80 → 0 ≤ w_ei ws (w_ar ws (n_v vs 0) 33) j ∧ w_ei ws (w_ar ws (n_v vs 0) 33) j ≤ 24 := fun j h0 h1 => th_el hD hth cr_0_33 (kd := 0) (n := 80) (m := 80) (lo := 0) (hi := 24) (rs := []) (L := []) rfl (by decide) (j := j.toNat) (by omega)
  have hK_0_34 : ∀ j : Int, 0 ≤ j → j < 80 → 0 ≤ w_ei ws (w_ar ws (n_v vs 0) 34) j ∧ w_ei ws (w_ar ws (n_v vs 0) 34) j ≤ 24 := fun j h0 h1 => th_el hD hth cr_0_34 (kd := 0) (n := 80) (m := 80) (lo := 0) (hi := 24) (rs := []) (L := []) rfl (by decide) (j := j.toNat) (by omega)
  have hK_0_35 : ∀ j : Int, 0 ≤ j → j < 80 → 0 ≤ w_ei ws (w_ar ws (n_v vs 0) 35) j ∧ w_ei ws (w_ar ws (n_v vs 0) 35) j ≤ 1 := fun j h0 h1 => th_el hD hth cr_0_35 (kd := 2) (n := 80) (m := 80) (lo := 0) (hi := 1) (rs := []) (L := []) rfl (by decide) (j := j.toNat) (by omega)
  have hK_0_36 : ∀ j : Int, 0 ≤ j → j < 26 → 0 ≤ w_ei ws (w_ar ws (n_v vs 0) 36) j ∧ w_ei ws (w_ar ws (n_v vs 0) 36) j ≤ 80 := fun j h0 h1 => th_el hD hth cr_0_36 (kd := 0) (n := 26) (m := 26) (lo := 0) (hi := 80) (rs := []) (L := []) rfl (by decide) (j := j.toNat) (by omega)
  have hK_0_37 : ∀ j : Int, 0 ≤ j → j < 2080 → 0 ≤ w_ei ws (w_ar ws (n_v vs 0) 37) j ∧ w_ei ws (w_ar ws (n_v vs 0) 37) j ≤ 79 := fun j h0 h1 => th_el hD hth cr_0_37 (kd := 0) (n := 2080) (m := 2080) (lo := 0) (hi := 79) (rs := []) (L := []) rfl (by decide) (j := j.toNat) (by omega)
  have kz_0_31 : 0 ≤ w_fi ws (n_v vs 0) 31 ∧ w_fi ws (n_v vs 0) 31 ≤ 25 := tv_rng (th_fd hD hth r0 (g := GG_150) rfl (k := 31) (t := (0, 0, 25, [])) rfl rfl)
  have kz_0_32 : 0 ≤ w_fi ws (n_v vs 0) 32 ∧ w_fi ws (n_v vs 0) 32 ≤ 80 := tv_rng (th_fd hD hth r0 (g := GG_150) rfl (k := 32) (t := (0, 0, 80, [])) rfl rfl)
  have kb_0_32 : 0 ≤ w_fi ws (n_v vs 0) 32 ∧ w_fi ws (n_v vs 0) 32 ≤ 80 := tv_rng (th_fd hD hth r0 (g := GG_150) rfl (k := 32) (t := (0, 0, 80, [])) rfl rfl)
  obtain ⟨x, ex, hx⟩ := iv_ex (ta := ta) (lo := (-2)) (hi := 84) (z := 82 + ((-1) * w_fi ws (n_v vs 0) 32 + (1 * v_iv (n_v vs 1) + 0))) (by omega) (by omega) (by omega) (by omega)
  have ex2 : v_iv (Value.int x) = 82 + ((-1) * w_fi ws (n_v vs 0) 32 + (1 * v_iv (n_v vs 1) + 0)) := ex
  have ex3 : (-2) ≤ v_iv (Value.int x) ∧ v_iv (Value.int x) ≤ 84 := tv_rng hx
  have e_0 : n_v (vs ++ [Value.int x]) 0 = n_v vs 0 := n_v_old (by rw [hl]; decide)
  have e_1 : n_v (vs ++ [Value.int x]) 1 = n_v vs 1 := n_v_old (by rw [hl]; decide)
  have e_3 : n_v (vs ++ [Value.int x]) 3 = Value.int x := n_v_new hl
  have nf0 : fc_1 PRD (20, [0], [60, 2, 2, 0, 31, 32, 33, 34]) ws (vs ++ [Value.int x]) := by
    refine ⟨fun n hn => ?_, ?_⟩
    · have hn : n ∈ [0] := hn
      rw [List.length_append, hl]
      simp only [List.mem_cons, List.not_mem_nil, or_false] at hn
      show n < 3 + 1; omega
    · show GOK (w_fi ws (n_v (vs ++ [Value.int x]) 0) 31) (w_fi ws (n_v (vs ++ [Value.int x]) 0) 32) (w_ei ws (w_ar ws (n_v (vs ++ [Value.int x]) 0) 33)) (w_ei ws (w_ar ws (n_v (vs ++ [Value.int x]) 0) 34))
      rw [e_0]
      exact vc_Mo_grid_13_0 (v_iv (n_v vs 1)) (v_iv (n_v vs 2)) (w_ei ws (w_ar ws (n_v vs 0) 33)) (w_ei ws (w_ar ws (n_v vs 0) 34)) (w_fi ws (n_v vs 0) 31) (w_fi ws (n_v vs 0) 32) (w_ei ws (w_ar ws (n_v vs 0) 35)) (w_ei ws (w_ar ws (n_v vs 0) 36)) (w_ei ws (w_ar ws (n_v vs 0) 37)) (v_iv (Value.int x)) k1 k2 f0 f1 f2 f3 f4 hK_0_33 hK_0_34 hK_0_35 hK_0_36 hK_0_37 kz_0_31 kz_0_32 ex2 ex3
  have nf1 : fc_1 PRD (20, [0], [50, 1, 0, 31, 0, 2, 0, 3, 2, 0, 31]) ws (vs ++ [Value.int x]) := by
    refine ⟨fun n hn => ?_, ?_⟩
    · have hn : n ∈ [0] := hn
      rw [List.length_append, hl]
      simp only [List.mem_cons, List.not_mem_nil, or_false] at hn
      show n < 3 + 1; omega
    · show 3 ≤ w_fi ws (n_v (vs ++ [Value.int x]) 0) 31
      rw [e_0]
      exact vc_Mo_grid_13_1 (v_iv (n_v vs 1)) (v_iv (n_v vs 2)) (w_ei ws (w_ar ws (n_v vs 0) 33)) (w_ei ws (w_ar ws (n_v vs 0) 34)) (w_fi ws (n_v vs 0) 31) (w_fi ws (n_v vs 0) 32) (w_ei ws (w_ar ws (n_v vs 0) 35)) (w_ei ws (w_ar ws (n_v vs 0) 36)) (w_ei ws (w_ar ws (n_v vs 0) 37)) (v_iv (Value.int x)) k1 k2 f0 f1 f2 f3 f4 hK_0_33 hK_0_34 hK_0_35 hK_0_36 hK_0_37 kz_0_31 kz_0_32 ex2 ex3
  have nf2 : fc_1 PRD (20, [0], [50, 1, 0, 31, 0, 3, 2, 0, 31, 0, 24]) ws (vs ++ [Value.int x]) := by
    refine ⟨fun n hn => ?_, ?_⟩
    · have hn : n ∈ [0] := hn
      rw [List.length_append, hl]
      simp only [List.mem_cons, List.not_mem_nil, or_false] at hn
      show n < 3 + 1; omega
    · show w_fi ws (n_v (vs ++ [Value.int x]) 0) 31 ≤ 24
      rw [e_0]
      exact vc_Mo_grid_13_2 (v_iv (n_v vs 1)) (v_iv (n_v vs 2)) (w_ei ws (w_ar ws (n_v vs 0) 33)) (w_ei ws (w_ar ws (n_v vs 0) 34)) (w_fi ws (n_v vs 0) 31) (w_fi ws (n_v vs 0) 32) (w_ei ws (w_ar ws (n_v vs 0) 35)) (w_ei ws (w_ar ws (n_v vs 0) 36)) (w_ei ws (w_ar ws (n_v vs 0) 37)) (v_iv (Value.int x)) k1 k2 f0 f1 f2 f3 f4 hK_0_33 hK_0_34 hK_0_35 hK_0_36 hK_0_37 kz_0_31 kz_0_32 ex2 ex3
  have nf3 : fc_1 PRD (20, [0, 1], [60, 2, 5, 213, 31, 32, 33, 34, 35, 36, 37]) ws (vs ++ [Value.int x]) := by
    refine ⟨fun n hn => ?_, ?_⟩
    · have hn : n ∈ [0, 1] := hn
      rw [List.length_append, hl]
      simp only [List.mem_cons, List.not_mem_nil, or_false] at hn
      show n < 3 + 1; omega
    · show GR2 (w_fi ws (n_v (vs ++ [Value.int x]) 0) 31) (w_fi ws (n_v (vs ++ [Value.int x]) 0) 32) (w_ei ws (w_ar ws (n_v (vs ++ [Value.int x]) 0) 33)) (w_ei ws (w_ar ws (n_v (vs ++ [Value.int x]) 0) 34)) (w_ei ws (w_ar ws (n_v (vs ++ [Value.int x]) 0) 35)) (w_ei ws (w_ar ws (n_v (vs ++ [Value.int x]) 0) 36)) (w_ei ws (w_ar ws (n_v (vs ++ [Value.int x]) 0) 37)) (v_iv (n_v (vs ++ [Value.int x]) 1))
      rw [e_0]
      rw [e_1]
      exact vc_Mo_grid_13_3 (v_iv (n_v vs 1)) (v_iv (n_v vs 2)) (w_ei ws (w_ar ws (n_v vs 0) 33)) (w_ei ws (w_ar ws (n_v vs 0) 34)) (w_fi ws (n_v vs 0) 31) (w_fi ws (n_v vs 0) 32) (w_ei ws (w_ar ws (n_v vs 0) 35)) (w_ei ws (w_ar ws (n_v vs 0) 36)) (w_ei ws (w_ar ws (n_v vs 0) 37)) (v_iv (Value.int x)) k1 k2 f0 f1 f2 f3 f4 hK_0_33 hK_0_34 hK_0_35 hK_0_36 hK_0_37 kz_0_31 kz_0_32 ex2 ex3
  have nf4 : fc_1 PRD (20, [3, 0, 1], [30, 82, 1, 0, 0, 1, 1, 32, -1, 0, 0]) ws (vs ++ [Value.int x]) := by
    refine ⟨fun n hn => ?_, ?_⟩
    · have hn : n ∈ [3, 0, 1] := hn
      rw [List.length_append, hl]
      simp only [List.mem_cons, List.not_mem_nil, or_false] at hn
      show n < 3 + 1; omega
    · show 1 * v_iv (n_v (vs ++ [Value.int x]) 3) + (1 * w_fi ws (n_v (vs ++ [Value.int x]) 0) 32 + ((-1) * v_iv (n_v (vs ++ [Value.int x]) 1) + 0)) ≤ 82
      rw [e_0]
      rw [e_1]
      rw [e_3]
      exact vc_Mo_grid_13_4 (v_iv (n_v vs 1)) (v_iv (n_v vs 2)) (w_ei ws (w_ar ws (n_v vs 0) 33)) (w_ei ws (w_ar ws (n_v vs 0) 34)) (w_fi ws (n_v vs 0) 31) (w_fi ws (n_v vs 0) 32) (w_ei ws (w_ar ws (n_v vs 0) 35)) (w_ei ws (w_ar ws (n_v vs 0) 36)) (w_ei ws (w_ar ws (n_v vs 0) 37)) (v_iv (Value.int x)) k1 k2 f0 f1 f2 f3 f4 hK_0_33 hK_0_34 hK_0_35 hK_0_36 hK_0_37 kz_0_31 kz_0_32 ex2 ex3
  have nf5 : fc_1 PRD (20, [3, 0, 1], [30, -82, -1, 0, 0, -1, 1, 32, 1, 0, 0]) ws (vs ++ [Value.int x]) := by
    refine ⟨fun n hn => ?_, ?_⟩
    · have hn : n ∈ [3, 0, 1] := hn
      rw [List.length_append, hl]
      simp only [List.mem_cons, List.not_mem_nil, or_false] at hn
      show n < 3 + 1; omega
    · show (-1) * v_iv (n_v (vs ++ [Value.int x]) 3) + ((-1) * w_fi ws (n_v (vs ++ [Value.int x]) 0) 32 + (1 * v_iv (n_v (vs ++ [Value.int x]) 1) + 0)) ≤ (-82)
      rw [e_0]
      rw [e_1]
      rw [e_3]
      exact vc_Mo_grid_13_5 (v_iv (n_v vs 1)) (v_iv (n_v vs 2)) (w_ei ws (w_ar ws (n_v vs 0) 33)) (w_ei ws (w_ar ws (n_v vs 0) 34)) (w_fi ws (n_v vs 0) 31) (w_fi ws (n_v vs 0) 32) (w_ei ws (w_ar ws (n_v vs 0) 35)) (w_ei ws (w_ar ws (n_v vs 0) 36)) (w_ei ws (w_ar ws (n_v vs 0) 37)) (v_iv (Value.int x)) k1 k2 f0 f1 f2 f3 f4 hK_0_33 hK_0_34 hK_0_35 hK_0_36 hK_0_37 kz_0_31 kz_0_32 ex2 ex3
  obtain ⟨x0, e0, _, _⟩ := tv_int t2 rfl
  have e1 : v_iv (n_v vs 2) = x0.toInt := by rw [e0]; rfl
  have ho : sy_ofs (vs ++ [Value.int x]) (3, 2, -1000000000000, -1) := by
    refine ⟨x, x0, by rw [List.getElem?_append_right (by rw [hl]; decide), hl]; rfl, ?_, ?_, ?_⟩
    · rw [List.getElem?_append_left (by rw [hl]; decide)]; exact n_v_some (by rw [hl]; decide) e0
    · show x0.toInt + (-1000000000000) ≤ x.toInt; omega
    · show x.toInt ≤ x0.toInt + (-1); omega
  exact ⟨(fun _ h => (by cases h)), [Value.int x], ag_one hx, List.forall_mem_cons.mpr ⟨⟨show (20 : Nat) < 100 from by decide, nf0⟩, List.forall_mem_cons.mpr ⟨⟨show (20 : Nat) < 100 from by decide, nf1⟩, List.forall_mem_cons.mpr ⟨⟨show (20 : Nat) < 100 from by decide, nf2⟩, List.forall_mem_cons.mpr ⟨⟨show (20 : Nat) < 100 from by decide, nf3⟩, List.forall_mem_cons.mpr ⟨⟨show (20 : Nat) < 100 from by decide, nf4⟩, List.forall_mem_cons.mpr ⟨⟨show (20 : Nat) < 100 from by decide, nf5⟩, (fun _ h => (by cases h))⟩⟩⟩⟩⟩⟩, List.forall_mem_cons.mpr ⟨ho, (fun _ h => (by cases h))⟩⟩
def n_Mo_grid_an : List an_T := [(21, [(0, (2, 0, 0, [150]))], [], (0, 0), [(0, 0, 99979), (2, 2, -2), (0, 0, 100000)], [], [((0, 32), (0, 0, 80, []))], [], 0, [(0, -2, 25, [])], [(20, [0], [60, 2, 2, 0, 31, 32, 33, 34]), (20, [0], [50, 1, 0, 31, 0, 2, 0, 3, 2, 0, 31]), (20, [0], [50, 1, 0, 31, 0, 3, 2, 0, 31, 0, 24]), (20, [0, 2], [60, 2, 5, 186, 31, 32, 33, 34, 35, 36, 37])]), (64, [(0, (2, 0, 0, [150])), (1, (0, 0, 24, [])), (2, (0, 0, 79, []))], [], (0, 0), [(0, 0, 99979), (2, 4, -2), (0, 0, 99936)], [(1, 2, -1000000000000, 24), (1, 3, -1000000000000, 23), (2, 1, -1000000000000, 79), (2, 3, -1000000000000, -1), (3, 1, -1000000000000, 80), (3, 2, -1000000000000, 1)], [((0, 32), (0, 1, 80, []))], [], 0, [(0, -2, 25, [])], [(20, [0], [60, 2, 2, 0, 31, 32, 33, 34]), (20, [0], [50, 1, 0, 31, 0, 2, 0, 3, 2, 0, 31]), (20, [0], [50, 1, 0, 31, 0, 3, 2, 0, 31, 0, 24]), (20, [0, 4], [60, 2, 5, 187, 31, 32, 33, 34, 35, 36, 37]), (23, [4], [-1, -1])]), (69, [(0, (2, 0, 0, [150])), (1, (0, 0, 1, []))], [], (0, 0), [(0, 0, 99931), (2, 2, -2), (0, 0, 100000)], [], [], [], 0, [(0, -2, 84, [])], [(20, [0], [60, 2, 2, 0, 31, 32, 33, 34]), (20, [0], [50, 1, 0, 31, 0, 2, 0, 3, 2, 0, 31]), (20, [0], [50, 1, 0, 31, 0, 3, 2, 0, 31, 0, 24]), (20, [0, 1], [60, 2, 5, 213, 31, 32, 33, 34, 35, 36, 37]), (20, [2, 0, 1], [30, 82, 1, 0, 0, 1, 1, 32, -1, 0, 0]), (20, [2, 0, 1], [30, -82, -1, 0, 0, -1, 1, 32, 1, 0, 0])]), (78, [(0, (2, 0, 0, [150])), (1, (0, 0, 1, []))], [], (0, 0), [(0, 0, 99931), (2, 2, -2), (0, 0, 99922)], [], [], [], 0, [(0, -2, 84, [])], [(20, [0], [60, 2, 2, 0, 31, 32, 33, 34]), (20, [0], [50, 1, 0, 31, 0, 2, 0, 3, 2, 0, 31]), (20, [0], [50, 1, 0, 31, 0, 3, 2, 0, 31, 0, 24]), (20, [0, 1], [60, 2, 5, 213, 31, 32, 33, 34, 35, 36, 37]), (20, [0, 1, 2], [30, -83, -1, 1, 32, 1, 0, 0, -1, 0, 0])]), (137, [(0, (2, 0, 0, [150])), (1, (0, 0, 0, [])), (2, (0, 0, 24, [])), (3, (0, 0, 24, [])), (4, (0, 0, 24, [])), (5, (0, 0, 2147483647, [])), (6, (0, 0, 25, []))], [], (0, 0), [(0, 0, 99863), (1, 6, 25), (0, 0, 100000)], [(1, 2, -1000000000000, 0), (1, 3, -1000000000000, 0), (1, 4, -1000000000000, 0), (1, 5, -1000000000000, 0), (1, 6, -1000000000000, 0), (2, 1, -1000000000000, 24), (2, 3, -1000000000000, 24), (2, 4, -1000000000000, 24), (2, 5, -1000000000000, 24), (2, 6, -1000000000000, 24), (3, 1, -1000000000000, 24), (3, 2, -1000000000000, 24), (3, 4, -1000000000000, 24), (3, 5, -1000000000000, 24), (3, 6, -1000000000000, 24), (4, 1, -1000000000000, 24), (4, 2, -1000000000000, 24), (4, 3, -1000000000000, 24), (4, 5, -1000000000000, 24), (4, 6, -1000000000000, 24), (5, 1, -1000000000000, 2147483647), (5, 2, -1000000000000, 2147483647), (5, 3, -1000000000000, 2147483647), (5, 4, -1000000000000, 2147483647), (5, 6, -1000000000000, 2147483646)], [], [], 0, [], []), (169, [(0, (2, 0, 0, [150])), (1, (0, 0, 0, [])), (2, (0, 0, 24, [])), (3, (0, 0, 24, [])), (4, (0, 0, 24, [])), (5, (0, 0, 2147483647, [])), (6, (0, 0, 25, []))], [], (0, 0), [(0, 0, 99831), (1, 6, 25), (0, 0, 100000)], [(1, 2, -1000000000000, 0), (1, 3, -1000000000000, 0), (1, 4, -1000000000000, 0), (1, 5, -1000000000000, 0), (1, 6, -1000000000000, 0), (2, 1, -1000000000000, 24), (2, 3, -1000000000000, 24), (2, 4, -1000000000000, 24), (2, 5, -1000000000000, 24), (2, 6, -1000000000000, 24), (3, 1, -1000000000000, 24), (3, 2, -1000000000000, 24), (3, 4, -1000000000000, 24), (3, 5, -1000000000000, 24), (3, 6, -1000000000000, 24), (4, 1, -1000000000000, 24), (4, 2, -1000000000000, 24), (4, 3, -1000000000000, 24), (4, 5, -1000000000000, 24), (4, 6, -1000000000000, 24), (5, 1, -1000000000000, 2147483647), (5, 2, -1000000000000, 2147483647), (5, 3, -1000000000000, 2147483647), (5, 4, -1000000000000, 2147483647), (5, 6, -1000000000000, 2147483647)], [], [], 0, [], [])]
def t_Mo_grid_ct : ct_L := [(0, 855, e_Mo_max), (1, 475, e_Mo_nodes), (1, 704, e_Mo_isPlanar), (1, 707, e_Mo_goRound), (1, 713, e_Mo_fromOf), (1, 883, e_Mo_apartNode), (1, 889, e_Mo_cut), (1, 892, e_Mo_canonical), (1, 895, e_Mo_shift), (112, 886, e_Mo_newLine_at_g1), (151, 880, e_Mo_putAt_at_g1), (187, 880, e_Mo_putAt_at_g2)]
set_option maxRecDepth 100000 in
theorem c_Mo_grid {l : Launch} {D : va_G} {kA : Nat → ClassId} (h_Mo_apartNode : ct_ok PRD l D kA GG y_Mo_apartNode z_Mo_apartNode e_Mo_apartNode) (h_Mo_canonical : ct_ok PRD l D kA GG y_Mo_canonical z_Mo_canonical e_Mo_canonical) (h_Mo_cut : ct_ok PRD l D kA GG y_Mo_cut z_Mo_cut e_Mo_cut) (h_Mo_fromOf : ct_ok PRD l D kA GG y_Mo_fromOf z_Mo_fromOf e_Mo_fromOf) (h_Mo_goRound : ct_ok PRD l D kA GG y_Mo_goRound z_Mo_goRound e_Mo_goRound) (h_Mo_isPlanar : ct_ok PRD l D kA GG y_Mo_isPlanar z_Mo_isPlanar e_Mo_isPlanar) (h_Mo_max : ct_ok PRD l D kA GG y_Mo_max z_Mo_max e_Mo_max) (h_Mo_newLine_at_g1 : ct_ok PRD l D kA GG y_Mo_newLine_at_g1 z_Mo_newLine_at_g1 e_Mo_newLine_at_g1) (h_Mo_nodes : ct_ok PRD l D kA GG y_Mo_nodes z_Mo_nodes e_Mo_nodes) (h_Mo_putAt_at_g1 : ct_ok PRD l D kA GG y_Mo_putAt_at_g1 z_Mo_putAt_at_g1 e_Mo_putAt_at_g1) (h_Mo_putAt_at_g2 : ct_ok PRD l D kA GG y_Mo_putAt_at_g2 z_Mo_putAt_at_g2 e_Mo_putAt_at_g2) (h_Mo_shift : ct_ok PRD l D kA GG y_Mo_shift z_Mo_shift e_Mo_shift) : ct_ok PRD l D kA GG y_Mo_grid z_Mo_grid e_Mo_grid := chk_all_ok (FT := [(66, 13, 36), (114, 13, 57), (162, 13, 75), (594, 13, 31)]) (PT := []) (CT := t_Mo_grid_ct) (KT := []) (NT := []) (AN := n_Mo_grid_an) (OT := [o_Mo_grid_0, o_Mo_grid_1, o_Mo_grid_2, o_Mo_grid_3, o_Mo_grid_4, o_Mo_grid_5, o_Mo_grid_6, o_Mo_grid_7, o_Mo_grid_8, o_Mo_grid_9, o_Mo_grid_10, o_Mo_grid_11, o_Mo_grid_12, o_Mo_grid_13]) 3 468 (List.forall_mem_cons.mpr ⟨oo_Mo_grid_0, List.forall_mem_cons.mpr ⟨oo_Mo_grid_1, List.forall_mem_cons.mpr ⟨oo_Mo_grid_2, List.forall_mem_cons.mpr ⟨oo_Mo_grid_3, List.forall_mem_cons.mpr ⟨oo_Mo_grid_4, List.forall_mem_cons.mpr ⟨oo_Mo_grid_5, List.forall_mem_cons.mpr ⟨oo_Mo_grid_6, List.forall_mem_cons.mpr ⟨oo_Mo_grid_7, List.forall_mem_cons.mpr ⟨oo_Mo_grid_8, List.forall_mem_cons.mpr ⟨oo_Mo_grid_9, List.forall_mem_cons.mpr ⟨oo_Mo_grid_10, List.forall_mem_cons.mpr ⟨oo_Mo_grid_11, List.forall_mem_cons.mpr ⟨oo_Mo_grid_12, List.forall_mem_cons.mpr ⟨oo_Mo_grid_13, List.forall_mem_nil _⟩⟩⟩⟩⟩⟩⟩⟩⟩⟩⟩⟩⟩⟩) (by decide +kernel) ⟨List.forall_mem_cons.mpr ⟨gf_Mo_66, List.forall_mem_cons.mpr ⟨gf_Mo_114, List.forall_mem_cons.mpr ⟨gf_Mo_162, List.forall_mem_cons.mpr ⟨gf_Mo_594, List.forall_mem_nil _⟩⟩⟩⟩, List.forall_mem_nil _, List.forall_mem_cons.mpr ⟨cl_static (y := y_Mo_max) h_Mo_max wm_3430 wm_9 wm_3428 wm_3429 ⟨by decide, by decide, by decide +kernel⟩ (by decide), List.forall_mem_cons.mpr ⟨cl_virtual (y := y_Mo_nodes) (ci := 13) rfl rfl ⟨_, _, rfl⟩ (by decide +kernel) h_Mo_nodes wm_3025 wm_9 wm_3022 wm_3024 wv_13_3 ⟨by decide, by decide, by decide +kernel⟩ (by decide), List.forall_mem_cons.mpr ⟨cl_virtual (y := y_Mo_isPlanar) (ci := 13) rfl rfl ⟨_, _, rfl⟩ (by decide +kernel) h_Mo_isPlanar wm_3251 wm_9 wm_3248 wm_3250 wv_16_5 ⟨by decide, by decide, by decide +kernel⟩ (by decide), List.forall_mem_cons.mpr ⟨cl_virtual (y := y_Mo_goRound) (ci := 13) rfl rfl ⟨_, _, rfl⟩ (by decide +kernel) h_Mo_goRound wm_3255 wm_9 wm_3252 wm_3254 wv_16_6 ⟨by decide, by decide, by decide +kernel⟩ (by decide), List.forall_mem_cons.mpr ⟨cl_virtual (y := y_Mo_fromOf) (ci := 13) rfl rfl ⟨_, _, rfl⟩ (by decide +kernel) h_Mo_fromOf wm_3275 wm_9 wm_3272 wm_3274 wv_16_10 ⟨by decide, by decide, by decide +kernel⟩ (by decide), List.forall_mem_cons.mpr ⟨cl_virtual (y := y_Mo_apartNode) (ci := 13) rfl rfl ⟨_, _, rfl⟩ (by decide +kernel) h_Mo_apartNode wm_3482 wm_9 wm_3479 wm_3481 wv_19_6 ⟨by decide, by decide, by decide +kernel⟩ (by decide), List.forall_mem_cons.mpr ⟨cl_virtual (y := y_Mo_cut) (ci := 13) rfl rfl ⟨_, _, rfl⟩ (by decide +kernel) h_Mo_cut wm_3494 wm_9 wm_3491 wm_3493 wv_19_9 ⟨by decide, by decide, by decide +kernel⟩ (by decide), List.forall_mem_cons.mpr ⟨cl_virtual (y := y_Mo_canonical) (ci := 13) rfl rfl ⟨_, _, rfl⟩ (by decide +kernel) h_Mo_canonical wm_3506 wm_9 wm_3503 wm_3505 wv_19_12 ⟨by decide, by decide, by decide +kernel⟩ (by decide), List.forall_mem_cons.mpr ⟨cl_virtual (y := y_Mo_shift) (ci := 13) rfl rfl ⟨_, _, rfl⟩ (by decide +kernel) h_Mo_shift wm_3518 wm_9 wm_3515 wm_3517 wv_19_15 ⟨by decide, by decide, by decide +kernel⟩ (by decide), List.forall_mem_cons.mpr ⟨cl_virtual (y := y_Mo_newLine_at_g1) (ci := 13) rfl rfl ⟨_, _, rfl⟩ (by decide +kernel) h_Mo_newLine_at_g1 wm_3486 wm_9 wm_3483 wm_3485 wv_19_7 ⟨by decide, by decide, by decide +kernel⟩ (by decide), List.forall_mem_cons.mpr ⟨cl_virtual (y := y_Mo_putAt_at_g1) (ci := 13) rfl rfl ⟨_, _, rfl⟩ (by decide +kernel) h_Mo_putAt_at_g1 wm_3490 wm_9 wm_3487 wm_3489 wv_19_8 ⟨by decide, by decide, by decide +kernel⟩ (by decide), List.forall_mem_cons.mpr ⟨cl_virtual (y := y_Mo_putAt_at_g2) (ci := 13) rfl rfl ⟨_, _, rfl⟩ (by decide +kernel) h_Mo_putAt_at_g2 wm_3490 wm_9 wm_3487 wm_3489 wv_19_8 ⟨by decide, by decide, by decide +kernel⟩ (by decide), List.forall_mem_nil _⟩⟩⟩⟩⟩⟩⟩⟩⟩⟩⟩⟩, List.forall_mem_nil _, List.forall_mem_nil _, GG_pl⟩ (by decide +kernel)
set_option maxHeartbeats 4000000 in
theorem vc_Mo_draw_0_0 (x1 : Int) (x8 : Int) (all_0 : Int → Int) (r_0 : Int) (now_0 : Int → Int) (latest_0 : Int → Int) (permBegin_0 : Int → Int) (permMany_0 : Int → Int) (perm_0 : Int → Int) (k1 : 0 ≤ x1 ∧ x1 ≤ 3) (k8 : 1 ≤ x8 ∧ x8 ≤ 24) (f0 : x8 ≠ 0) (f1 : 1 * x8 + ((-1) * all_0 (r_0 + 0) + 0) ≤ 0) (f2 : (-1) * x8 + (1 * all_0 (r_0 + 0) + 0) ≤ 0) (f3 : ROWS (all_0) (now_0) (latest_0)) (f4 : PTB (permBegin_0) (permMany_0) (perm_0)) (f5 : r_0 = ((16709 * x1) + (539 * now_0 (x1)))) (hK_0_3 : ∀ j : Int, 0 ≤ j → j < 4 → 0 ≤ now_0 j ∧ now_0 j ≤ 30) (hK_0_4 : ∀ j : Int, 0 ≤ j → j < 4 → 0 ≤ latest_0 j ∧ latest_0 j ≤ 30) (hK_0_110 : ∀ j : Int, 0 ≤ j → j < 8 → 0 ≤ permBegin_0 j ∧ permBegin_0 j ≤ 5500) (hK_0_111 : ∀ j : Int, 0 ≤ j → j < 8 → 0 ≤ permMany_0 j ∧ permMany_0 j ≤ 720) (hK_0_112 : ∀ j : Int, 0 ≤ j → j < 6000 → 0 ≤ perm_0 j ∧ perm_0 j ≤ 5) : SGR (r_0) (all_0) := by
  first
    | assumption
    | exact rows_at (g := x1) ‹ROWS _ _ _› (by omega) (by omega) (by omega)
set_option maxHeartbeats 4000000 in
theorem vc_Mo_draw_0_1 (x1 : Int) (x8 : Int) (all_0 : Int → Int) (r_0 : Int) (now_0 : Int → Int) (latest_0 : Int → Int) (permBegin_0 : Int → Int) (permMany_0 : Int → Int) (perm_0 : Int → Int) (k1 : 0 ≤ x1 ∧ x1 ≤ 3) (k8 : 1 ≤ x8 ∧ x8 ≤ 24) (f0 : x8 ≠ 0) (f1 : 1 * x8 + ((-1) * all_0 (r_0 + 0) + 0) ≤ 0) (f2 : (-1) * x8 + (1 * all_0 (r_0 + 0) + 0) ≤ 0) (f3 : ROWS (all_0) (now_0) (latest_0)) (f4 : PTB (permBegin_0) (permMany_0) (perm_0)) (f5 : r_0 = ((16709 * x1) + (539 * now_0 (x1)))) (hK_0_3 : ∀ j : Int, 0 ≤ j → j < 4 → 0 ≤ now_0 j ∧ now_0 j ≤ 30) (hK_0_4 : ∀ j : Int, 0 ≤ j → j < 4 → 0 ≤ latest_0 j ∧ latest_0 j ≤ 30) (hK_0_110 : ∀ j : Int, 0 ≤ j → j < 8 → 0 ≤ permBegin_0 j ∧ permBegin_0 j ≤ 5500) (hK_0_111 : ∀ j : Int, 0 ≤ j → j < 8 → 0 ≤ permMany_0 j ∧ permMany_0 j ≤ 720) (hK_0_112 : ∀ j : Int, 0 ≤ j → j < 6000 → 0 ≤ perm_0 j ∧ perm_0 j ≤ 5) : 1 ≤ all_0 (r_0) := by
  try simp only [Int.add_zero] at *
  omega
def o_Mo_draw_0 : or_T := (36, 10, [(0, (2, 0, 0, [150])), (1, (0, 0, 3, [])), (8, (0, 1, 24, []))], [(8, [8], [1]), (20, [8, 0], [30, 0, 1, 0, 0, -1, 3, 2005000]), (20, [8, 0], [30, 0, -1, 0, 0, 1, 3, 2005000]), (20, [0], [60, 0, 3, 123, 2, 3, 4]), (20, [0], [60, 0, 3, 291, 110, 111, 112]), (20, [0, 1], [50, 1, 1, 5, 3, 1, 3, 2, 0, 5, 4, 6, 6, 2, 0, 16709, 1, 1, 6, 2, 0, 539, 3, 0, 3, 1, 1])], [], [], [(20, [0], [60, 1, 1, 122, 5, 2]), (20, [0], [50, 1, 1, 5, 2, 0, 2, 0, 1, 3, 0, 2, 2, 0, 5])], [], [])
theorem oo_Mo_draw_0 {kA : Nat → ClassId} : or_ok PRD kA GG o_Mo_draw_0 := by
  intro A ta ws vs hD hth hl hk hds hf
  have hl : vs.length = 10 := hl
  have hk : ∀ q ∈ ([(0, (2, 0, 0, [150])), (1, (0, 0, 3, [])), (8, (0, 1, 24, []))] : List (Nat × tv_T)), tv_ok ta q.2 (n_v vs q.1) := hk
  obtain ⟨t0, hk⟩ := List.forall_mem_cons.mp hk
  have t0 : tv_ok ta (2, 0, 0, [150]) (n_v vs 0) := t0
  have r0 : ta (v_ad (n_v vs 0)) = some 150 := tv_rg t0
  obtain ⟨t1, hk⟩ := List.forall_mem_cons.mp hk
  have t1 : tv_ok ta (0, 0, 3, []) (n_v vs 1) := t1
  have k1 : 0 ≤ v_iv (n_v vs 1) ∧ v_iv (n_v vs 1) ≤ 3 := tv_rng t1
  obtain ⟨t8, hk⟩ := List.forall_mem_cons.mp hk
  have t8 : tv_ok ta (0, 1, 24, []) (n_v vs 8) := t8
  have k8 : 1 ≤ v_iv (n_v vs 8) ∧ v_iv (n_v vs 8) ≤ 24 := tv_rng t8
  have hf : fc_ok PRD [(8, [8], [1]), (20, [8, 0], [30, 0, 1, 0, 0, -1, 3, 2005000]), (20, [8, 0], [30, 0, -1, 0, 0, 1, 3, 2005000]), (20, [0], [60, 0, 3, 123, 2, 3, 4]), (20, [0], [60, 0, 3, 291, 110, 111, 112]), (20, [0, 1], [50, 1, 1, 5, 3, 1, 3, 2, 0, 5, 4, 6, 6, 2, 0, 16709, 1, 1, 6, 2, 0, 539, 3, 0, 3, 1, 1])] ta ws vs := hf
  obtain ⟨f0, hf⟩ := fc_un (show (8 : Nat) < 100 from by decide) hf
  have f0 : v_iv (n_v vs 8) ≠ 0 := f0
  obtain ⟨f1, hf⟩ := fc_un (show (20 : Nat) < 100 from by decide) hf
  have f1 : 1 * v_iv (n_v vs 8) + ((-1) * w_el ws (w_ar ws (n_v vs 0) 2) (w_fi ws (n_v vs 0) 5 + 0).toNat + 0) ≤ 0 := f1
  obtain ⟨f2, hf⟩ := fc_un (show (20 : Nat) < 100 from by decide) hf
  have f2 : (-1) * v_iv (n_v vs 8) + (1 * w_el ws (w_ar ws (n_v vs 0) 2) (w_fi ws (n_v vs 0) 5 + 0).toNat + 0) ≤ 0 := f2
  obtain ⟨f3, hf⟩ := fc_un (show (20 : Nat) < 100 from by decide) hf
  have f3 : ROWS (w_ei ws (w_ar ws (n_v vs 0) 2)) (w_ei ws (w_ar ws (n_v vs 0) 3)) (w_ei ws (w_ar ws (n_v vs 0) 4)) := f3
  obtain ⟨f4, hf⟩ := fc_un (show (20 : Nat) < 100 from by decide) hf
  have f4 : PTB (w_ei ws (w_ar ws (n_v vs 0) 110)) (w_ei ws (w_ar ws (n_v vs 0) 111)) (w_ei ws (w_ar ws (n_v vs 0) 112)) := f4
  obtain ⟨f5, hf⟩ := fc_un (show (20 : Nat) < 100 from by decide) hf
  have f5 : w_fi ws (n_v vs 0) 5 = ((16709 * v_iv (n_v vs 1)) + (539 * w_ei ws (w_ar ws (n_v vs 0) 3) (v_iv (n_v vs 1)))) := f5
  have cr_0_2 : ta (w_ar ws (n_v vs 0) 2) = some 152 := tv_rg (th_fd hD hth r0 (g := GG_150) rfl (k := 2) (t := (2, 0, 0, [152])) rfl rfl)
  have cr_0_3 : ta (w_ar ws (n_v vs 0) 3) = some 153 := tv_rg (th_fd hD hth r0 (g := GG_150) rfl (k := 3) (t := (2, 0, 0, [153])) rfl rfl)
  have cr_0_4 : ta (w_ar ws (n_v vs 0) 4) = some 154 := tv_rg (th_fd hD hth r0 (g := GG_150) rfl (k := 4) (t := (2, 0, 0, [154])) rfl rfl)
  have cr_0_110 : ta (w_ar ws (n_v vs 0) 110) = some 227 := tv_rg (th_fd hD hth r0 (g := GG_150) rfl (k := 110) (t := (2, 0, 0, [227])) rfl rfl)
  have cr_0_111 : ta (w_ar ws (n_v vs 0) 111) = some 228 := tv_rg (th_fd hD hth r0 (g := GG_150) rfl (k := 111) (t := (2, 0, 0, [228])) rfl rfl)
  have cr_0_112 : ta (w_ar ws (n_v vs 0) 112) = some 229 := tv_rg (th_fd hD hth r0 (g := GG_150) rfl (k := 112) (t := (2, 0, 0, [229])) rfl rfl)
  have hK_0_3 : ∀ j : Int, 0 ≤ j → j < 4 → 0 ≤ w_ei ws (w_ar ws (n_v vs 0) 3) j ∧ w_ei ws (w_ar ws (n_v vs 0) 3) j ≤ 30 := fun j h0 h1 => th_el hD hth cr_0_3 (kd := 0) (n := 4) (m := 4) (lo := 0) (hi := 30) (rs := []) (L := []) rfl (by decide) (j := j.toNat) (by omega)
  have hK_0_4 : ∀ j : Int, 0 ≤ j → j < 4 → 0 ≤ w_ei ws (w_ar ws (n_v vs 0) 4) j ∧ w_ei ws (w_ar ws (n_v vs 0) 4) j ≤ 30 := fun j h0 h1 => th_el hD hth cr_0_4 (kd := 0) (n := 4) (m := 4) (lo := 0) (hi := 30) (rs := []) (L := []) rfl (by decide) (j := j.toNat) (by omega)
  have hK_0_110 : ∀ j : Int, 0 ≤ j → j < 8 → 0 ≤ w_ei ws (w_ar ws (n_v vs 0) 110) j ∧ w_ei ws (w_ar ws (n_v vs 0) 110) j ≤ 5500 := fun j h0 h1 => th_el hD hth cr_0_110 (kd := 0) (n := 8) (m := 8) (lo := 0) (hi := 5500) (rs := []) (L := []) rfl (by decide) (j := j.toNat) (by omega)
  have hK_0_111 : ∀ j : Int, 0 ≤ j → j < 8 → 0 ≤ w_ei ws (w_ar ws (n_v vs 0) 111) j ∧ w_ei ws (w_ar ws (n_v vs 0) 111) j ≤ 720 := fun j h0 h1 => th_el hD hth cr_0_111 (kd := 0) (n := 8) (m := 8) (lo := 0) (hi := 720) (rs := []) (L := []) rfl (by decide) (j := j.toNat) (by omega)
  have hK_0_112 : ∀ j : Int, 0 ≤ j → j < 6000 → 0 ≤ w_ei ws (w_ar ws (n_v vs 0) 112) j ∧ w_ei ws (w_ar ws (n_v vs 0) 112) j ≤ 5 := fun j h0 h1 => th_el hD hth cr_0_112 (kd := 1) (n := 6000) (m := 6000) (lo := 0) (hi := 5) (rs := []) (L := []) rfl (by decide) (j := j.toNat) (by omega)
  have nf0 : fc_1 PRD (20, [0], [60, 1, 1, 122, 5, 2]) ws (vs) := by
    refine ⟨fun n hn => ?_, ?_⟩
    · have hn : n ∈ [0] := hn
      rw [hl]
      simp only [List.mem_cons, List.not_mem_nil, or_false] at hn
      show n < 10; omega
    · show SGR (w_fi ws (n_v vs 0) 5) (w_ei ws (w_ar ws (n_v vs 0) 2))
      exact vc_Mo_draw_0_0 (v_iv (n_v vs 1)) (v_iv (n_v vs 8)) (w_ei ws (w_ar ws (n_v vs 0) 2)) (w_fi ws (n_v vs 0) 5) (w_ei ws (w_ar ws (n_v vs 0) 3)) (w_ei ws (w_ar ws (n_v vs 0) 4)) (w_ei ws (w_ar ws (n_v vs 0) 110)) (w_ei ws (w_ar ws (n_v vs 0) 111)) (w_ei ws (w_ar ws (n_v vs 0) 112)) k1 k8 f0 f1 f2 f3 f4 f5 hK_0_3 hK_0_4 hK_0_110 hK_0_111 hK_0_112
  have nf1 : fc_1 PRD (20, [0], [50, 1, 1, 5, 2, 0, 2, 0, 1, 3, 0, 2, 2, 0, 5]) ws (vs) := by
    refine ⟨fun n hn => ?_, ?_⟩
    · have hn : n ∈ [0] := hn
      rw [hl]
      simp only [List.mem_cons, List.not_mem_nil, or_false] at hn
      show n < 10; omega
    · show 1 ≤ w_ei ws (w_ar ws (n_v vs 0) 2) (w_fi ws (n_v vs 0) 5)
      exact vc_Mo_draw_0_1 (v_iv (n_v vs 1)) (v_iv (n_v vs 8)) (w_ei ws (w_ar ws (n_v vs 0) 2)) (w_fi ws (n_v vs 0) 5) (w_ei ws (w_ar ws (n_v vs 0) 3)) (w_ei ws (w_ar ws (n_v vs 0) 4)) (w_ei ws (w_ar ws (n_v vs 0) 110)) (w_ei ws (w_ar ws (n_v vs 0) 111)) (w_ei ws (w_ar ws (n_v vs 0) 112)) k1 k8 f0 f1 f2 f3 f4 f5 hK_0_3 hK_0_4 hK_0_110 hK_0_111 hK_0_112
  refine ⟨(fun _ h => (by cases h)), [], trivial, ?_, (fun _ h => (by cases h))⟩
  rw [List.append_nil]
  exact List.forall_mem_cons.mpr ⟨⟨show (20 : Nat) < 100 from by decide, nf0⟩, List.forall_mem_cons.mpr ⟨⟨show (20 : Nat) < 100 from by decide, nf1⟩, (fun _ h => (by cases h))⟩⟩
def n_Mo_draw_an : List an_T := [(36, [(0, (2, 0, 0, [150])), (1, (0, 0, 3, [])), (2, (0, 0, 7, [])), (3, (0, -2147483648, 2147483647, [])), (4, (0, 0, 48, []))], [], (0, 0), [(0, 0, 99964), (1, 4, 48), (0, 0, 100000)], [(1, 2, -1000000000000, 3), (1, 4, -1000000000000, 3), (2, 1, -1000000000000, 7), (2, 4, -1000000000000, 7)], [], [], 0, [], [(20, [0], [60, 1, 1, 122, 5, 2]), (20, [0], [60, 0, 3, 291, 110, 111, 112]), (20, [0], [50, 1, 1, 5, 2, 0, 2, 0, 1, 3, 0, 2, 2, 0, 5])])]
def t_Mo_draw_ct : ct_L := [(0, 387, e_Mo_in), (0, 521, e_Mo_isPlace), (1, 401, e_Mo_edges), (1, 475, e_Mo_nodes), (1, 527, e_Mo_take), (1, 748, e_Mo_layers), (1, 751, e_Mo_grid), (1, 754, e_Mo_bars), (1, 757, e_Mo_tree), (1, 760, e_Mo_areas), (1, 763, e_Mo_ring), (1, 766, e_Mo_forces), (1, 769, e_Mo_matrix), (1, 772, e_Mo_keep)]
set_option maxRecDepth 100000 in
theorem c_Mo_draw {l : Launch} {D : va_G} {kA : Nat → ClassId} (h_Mo_areas : ct_ok PRD l D kA GG y_Mo_areas z_Mo_areas e_Mo_areas) (h_Mo_bars : ct_ok PRD l D kA GG y_Mo_bars z_Mo_bars e_Mo_bars) (h_Mo_edges : ct_ok PRD l D kA GG y_Mo_edges z_Mo_edges e_Mo_edges) (h_Mo_forces : ct_ok PRD l D kA GG y_Mo_forces z_Mo_forces e_Mo_forces) (h_Mo_grid : ct_ok PRD l D kA GG y_Mo_grid z_Mo_grid e_Mo_grid) (h_Mo_in : ct_ok PRD l D kA GG y_Mo_in z_Mo_in e_Mo_in) (h_Mo_isPlace : ct_ok PRD l D kA GG y_Mo_isPlace z_Mo_isPlace e_Mo_isPlace) (h_Mo_keep : ct_ok PRD l D kA GG y_Mo_keep z_Mo_keep e_Mo_keep) (h_Mo_layers : ct_ok PRD l D kA GG y_Mo_layers z_Mo_layers e_Mo_layers) (h_Mo_matrix : ct_ok PRD l D kA GG y_Mo_matrix z_Mo_matrix e_Mo_matrix) (h_Mo_nodes : ct_ok PRD l D kA GG y_Mo_nodes z_Mo_nodes e_Mo_nodes) (h_Mo_ring : ct_ok PRD l D kA GG y_Mo_ring z_Mo_ring e_Mo_ring) (h_Mo_take : ct_ok PRD l D kA GG y_Mo_take z_Mo_take e_Mo_take) (h_Mo_tree : ct_ok PRD l D kA GG y_Mo_tree z_Mo_tree e_Mo_tree) : ct_ok PRD l D kA GG y_Mo_draw z_Mo_draw e_Mo_draw := chk_all_ok (FT := [(165, 13, 76)]) (PT := []) (CT := t_Mo_draw_ct) (KT := []) (NT := []) (AN := n_Mo_draw_an) (OT := [o_Mo_draw_0]) 3 704 (List.forall_mem_cons.mpr ⟨oo_Mo_draw_0, List.forall_mem_nil _⟩) (by decide +kernel) ⟨List.forall_mem_cons.mpr ⟨gf_Mo_165, List.forall_mem_nil _⟩, List.forall_mem_nil _, List.forall_mem_cons.mpr ⟨cl_static (y := y_Mo_in) h_Mo_in wm_2971 wm_9 wm_2969 wm_2970 ⟨by decide, by decide, by decide +kernel⟩ (by decide), List.forall_mem_cons.mpr ⟨cl_static (y := y_Mo_isPlace) h_Mo_isPlace wm_2978 wm_9 wm_2976 wm_2977 ⟨by decide, by decide, by decide +kernel⟩ (by decide), List.forall_mem_cons.mpr ⟨cl_virtual (y := y_Mo_edges) (ci := 13) rfl rfl ⟨_, _, rfl⟩ (by decide +kernel) h_Mo_edges wm_3037 wm_9 wm_3034 wm_3036 wv_13_6 ⟨by decide, by decide, by decide +kernel⟩ (by decide), List.forall_mem_cons.mpr ⟨cl_virtual (y := y_Mo_nodes) (ci := 13) rfl rfl ⟨_, _, rfl⟩ (by decide +kernel) h_Mo_nodes wm_3025 wm_9 wm_3022 wm_3024 wv_13_3 ⟨by decide, by decide, by decide +kernel⟩ (by decide), List.forall_mem_cons.mpr ⟨cl_virtual (y := y_Mo_take) (ci := 13) rfl rfl ⟨_, _, rfl⟩ (by decide +kernel) h_Mo_take wm_3091 wm_9 wm_3088 wm_3090 wv_14_2 ⟨by decide, by decide, by decide +kernel⟩ (by decide), List.forall_mem_cons.mpr ⟨cl_virtual (y := y_Mo_layers) (ci := 13) rfl rfl ⟨_, _, rfl⟩ (by decide +kernel) h_Mo_layers wm_3371 wm_9 wm_3368 wm_3370 wv_17_11 ⟨by decide, by decide, by decide +kernel⟩ (by decide), List.forall_mem_cons.mpr ⟨cl_virtual (y := y_Mo_grid) (ci := 13) rfl rfl ⟨_, _, rfl⟩ (by decide +kernel) h_Mo_grid wm_3478 wm_9 wm_3475 wm_3477 wv_19_5 ⟨by decide, by decide, by decide +kernel⟩ (by decide), List.forall_mem_cons.mpr ⟨cl_virtual (y := y_Mo_bars) (ci := 13) rfl rfl ⟨_, _, rfl⟩ (by decide +kernel) h_Mo_bars wm_3526 wm_9 wm_3523 wm_3525 wv_20_1 ⟨by decide, by decide, by decide +kernel⟩ (by decide), List.forall_mem_cons.mpr ⟨cl_virtual (y := y_Mo_tree) (ci := 13) rfl rfl ⟨_, _, rfl⟩ (by decide +kernel) h_Mo_tree wm_3560 wm_9 wm_3557 wm_3559 wv_20_9 ⟨by decide, by decide, by decide +kernel⟩ (by decide), List.forall_mem_cons.mpr ⟨cl_virtual (y := y_Mo_areas) (ci := 13) rfl rfl ⟨_, _, rfl⟩ (by decide +kernel) h_Mo_areas wm_3584 wm_9 wm_3581 wm_3583 wv_20_15 ⟨by decide, by decide, by decide +kernel⟩ (by decide), List.forall_mem_cons.mpr ⟨cl_virtual (y := y_Mo_ring) (ci := 13) rfl rfl ⟨_, _, rfl⟩ (by decide +kernel) h_Mo_ring wm_3608 wm_9 wm_3605 wm_3607 wv_21_5 ⟨by decide, by decide, by decide +kernel⟩ (by decide), List.forall_mem_cons.mpr ⟨cl_virtual (y := y_Mo_forces) (ci := 13) rfl rfl ⟨_, _, rfl⟩ (by decide +kernel) h_Mo_forces wm_3620 wm_9 wm_3617 wm_3619 wv_21_8 ⟨by decide, by decide, by decide +kernel⟩ (by decide), List.forall_mem_cons.mpr ⟨cl_virtual (y := y_Mo_matrix) (ci := 13) rfl rfl ⟨_, _, rfl⟩ (by decide +kernel) h_Mo_matrix wm_3640 wm_9 wm_3637 wm_3639 wv_21_10 ⟨by decide, by decide, by decide +kernel⟩ (by decide), List.forall_mem_cons.mpr ⟨cl_virtual (y := y_Mo_keep) (ci := 13) rfl rfl ⟨_, _, rfl⟩ (by decide +kernel) h_Mo_keep wm_3648 wm_9 wm_3645 wm_3647 wv_21_12 ⟨by decide, by decide, by decide +kernel⟩ (by decide), List.forall_mem_nil _⟩⟩⟩⟩⟩⟩⟩⟩⟩⟩⟩⟩⟩⟩, List.forall_mem_nil _, List.forall_mem_nil _, GG_pl⟩ (by decide +kernel)
