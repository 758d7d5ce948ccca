def n_St_raise_an : List an_T := [(4, [(0, (2, 0, 0, [10])), (1, (0, 0, 1, [])), (2, (0, 0, 384, []))], [], (0, 0), [(0, 0, 99996), (1, 2, 384), (0, 0, 100000)], [], [], [], 0, [], [])]
def t_St_raise_ct : ct_L := []
set_option maxRecDepth 100000 in
theorem c_St_raise {l : Launch} {D : va_G} {kA : Nat → ClassId} : ct_ok l D kA GG y_St_raise z_St_raise e_St_raise := chk_all_ok (FT := [(15, 10, 1), (18, 10, 2), (22, 10, 3), (25, 10, 4), (28, 10, 5), (31, 10, 6), (34, 10, 7)]) (PT := []) (CT := t_St_raise_ct) (KT := []) (NT := []) (AN := n_St_raise_an) (OT := []) 3 280 (List.forall_mem_nil _) (by decide +kernel) ⟨List.forall_mem_cons.mpr ⟨gf_St_15, List.forall_mem_cons.mpr ⟨gf_St_18, List.forall_mem_cons.mpr ⟨gf_St_22, List.forall_mem_cons.mpr ⟨gf_St_25, List.forall_mem_cons.mpr ⟨gf_St_28, List.forall_mem_cons.mpr ⟨gf_St_31, List.forall_mem_cons.mpr ⟨gf_St_34, List.forall_mem_nil _⟩⟩⟩⟩⟩⟩⟩, List.forall_mem_nil _, List.forall_mem_nil _, List.forall_mem_nil _, List.forall_mem_nil _, GG_pl⟩ (by decide +kernel)
def n_Sy_emit_an : List an_T := []
def t_Sy_emit_ct : ct_L := []
set_option maxRecDepth 100000 in
theorem c_Sy_emit {l : Launch} {D : va_G} {kA : Nat → ClassId} : ct_ok l D kA GG y_Sy_emit z_Sy_emit e_Sy_emit := chk_all_ok (FT := [(46, 11, 10), (50, 11, 11)]) (PT := [(50, 11, 11, .int)]) (CT := t_Sy_emit_ct) (KT := []) (NT := []) (AN := n_Sy_emit_an) (OT := []) 0 200 (List.forall_mem_nil _) (by decide +kernel) ⟨List.forall_mem_cons.mpr ⟨gf_Sy_46, List.forall_mem_cons.mpr ⟨gf_Sy_50, List.forall_mem_nil _⟩⟩, List.forall_mem_cons.mpr ⟨pf_Sy_50, List.forall_mem_nil _⟩, List.forall_mem_nil _, List.forall_mem_nil _, List.forall_mem_nil _, GG_pl⟩ (by decide +kernel)
def n_Sy_fail_an : List an_T := []
def t_Sy_fail_ct : ct_L := []
set_option maxRecDepth 100000 in
theorem c_Sy_fail {l : Launch} {D : va_G} {kA : Nat → ClassId} : ct_ok l D kA GG y_Sy_fail z_Sy_fail e_Sy_fail := chk_all_ok (FT := [(34, 11, 7)]) (PT := [(15, 11, 1, .int), (18, 11, 2, .int)]) (CT := t_Sy_fail_ct) (KT := []) (NT := []) (AN := n_Sy_fail_an) (OT := []) 0 200 (List.forall_mem_nil _) (by decide +kernel) ⟨List.forall_mem_cons.mpr ⟨gf_Sy_34, List.forall_mem_nil _⟩, List.forall_mem_cons.mpr ⟨pf_Sy_15, List.forall_mem_cons.mpr ⟨pf_Sy_18, List.forall_mem_nil _⟩⟩, List.forall_mem_nil _, List.forall_mem_nil _, List.forall_mem_nil _, GG_pl⟩ (by decide +kernel)
def n_Sy_isSmall_an : List an_T := []
def t_Sy_isSmall_ct : ct_L := []
set_option maxRecDepth 100000 in
theorem c_Sy_isSmall {l : Launch} {D : va_G} {kA : Nat → ClassId} : ct_ok l D kA GG y_Sy_isSmall z_Sy_isSmall e_Sy_isSmall := chk_all_ok (FT := []) (PT := []) (CT := t_Sy_isSmall_ct) (KT := []) (NT := []) (AN := n_Sy_isSmall_an) (OT := []) 0 200 (List.forall_mem_nil _) (by decide +kernel) ⟨List.forall_mem_nil _, List.forall_mem_nil _, List.forall_mem_nil _, List.forall_mem_nil _, List.forall_mem_nil _, GG_pl⟩ (by decide +kernel)
def n_Sy_pop_an : List an_T := []
def t_Sy_pop_ct : ct_L := []
set_option maxRecDepth 100000 in
theorem c_Sy_pop {l : Launch} {D : va_G} {kA : Nat → ClassId} : ct_ok l D kA GG y_Sy_pop z_Sy_pop e_Sy_pop := chk_all_ok (FT := [(59, 11, 14), (63, 11, 15)]) (PT := [(63, 11, 15, .int)]) (CT := t_Sy_pop_ct) (KT := []) (NT := []) (AN := n_Sy_pop_an) (OT := []) 0 200 (List.forall_mem_nil _) (by decide +kernel) ⟨List.forall_mem_cons.mpr ⟨gf_Sy_59, List.forall_mem_cons.mpr ⟨gf_Sy_63, List.forall_mem_nil _⟩⟩, List.forall_mem_cons.mpr ⟨pf_Sy_63, List.forall_mem_nil _⟩, List.forall_mem_nil _, List.forall_mem_nil _, List.forall_mem_nil _, GG_pl⟩ (by decide +kernel)
def n_Sy_push_an : List an_T := []
def t_Sy_push_ct : ct_L := []
set_option maxRecDepth 100000 in
theorem c_Sy_push {l : Launch} {D : va_G} {kA : Nat → ClassId} : ct_ok l D kA GG y_Sy_push z_Sy_push e_Sy_push := chk_all_ok (FT := [(59, 11, 14), (63, 11, 15)]) (PT := [(63, 11, 15, .int)]) (CT := t_Sy_push_ct) (KT := []) (NT := []) (AN := n_Sy_push_an) (OT := []) 0 200 (List.forall_mem_nil _) (by decide +kernel) ⟨List.forall_mem_cons.mpr ⟨gf_Sy_59, List.forall_mem_cons.mpr ⟨gf_Sy_63, List.forall_mem_nil _⟩⟩, List.forall_mem_cons.mpr ⟨pf_Sy_63, List.forall_mem_nil _⟩, List.forall_mem_nil _, List.forall_mem_nil _, List.forall_mem_nil _, GG_pl⟩ (by decide +kernel)
def n_Mo_across1_an : List an_T := []
def t_Mo_across1_ct : ct_L := []
set_option maxRecDepth 100000 in
theorem c_Mo_across1 {l : Launch} {D : va_G} {kA : Nat → ClassId} : ct_ok l D kA GG y_Mo_across1 z_Mo_across1 e_Mo_across1 := chk_all_ok (FT := [(57, 13, 33), (60, 13, 34)]) (PT := []) (CT := t_Mo_across1_ct) (KT := []) (NT := []) (AN := n_Mo_across1_an) (OT := []) 0 200 (List.forall_mem_nil _) (by decide +kernel) ⟨List.forall_mem_cons.mpr ⟨gf_Mo_57, List.forall_mem_cons.mpr ⟨gf_Mo_60, List.forall_mem_nil _⟩⟩, List.forall_mem_nil _, List.forall_mem_nil _, List.forall_mem_nil _, List.forall_mem_nil _, GG_pl⟩ (by decide +kernel)
def o_Mo_apart_0 : or_T := (9, 7, [(0, (2, 0, 0, [150])), (4, (0, 0, 199, [])), (6, (0, 0, 200, []))], [(9, [6, 0], [81]), (20, [0, 4], [30, 0, 1, 1, 81, -1, 0, 0])], [(6, (0, 0, 199, []))], [], [], [], [])
theorem oo_Mo_apart_0 {kA : Nat → ClassId} : or_ok kA GG o_Mo_apart_0 := by
  intro A ta ws vs hD hth hl hk hds hf
  have hl : vs.length = 7 := hl
  have hk : ∀ q ∈ ([(0, (2, 0, 0, [150])), (4, (0, 0, 199, [])), (6, (0, 0, 200, []))] : List (Nat × tv_T)), tv_ok ta q.2 (n_v vs q.1) := hk
  obtain ⟨t0, hk⟩ := List.forall_mem_cons.mp hk
  have t0 : tv_ok ta (2, 0, 0, [150]) (n_v vs 0) := t0
  have r0 : ta (v_ad (n_v vs 0)) = some 150 := tv_rg t0
  obtain ⟨t4, hk⟩ := List.forall_mem_cons.mp hk
  have t4 : tv_ok ta (0, 0, 199, []) (n_v vs 4) := t4
  have k4 : 0 ≤ v_iv (n_v vs 4) ∧ v_iv (n_v vs 4) ≤ 199 := tv_rng t4
  obtain ⟨t6, hk⟩ := List.forall_mem_cons.mp hk
  have t6 : tv_ok ta (0, 0, 200, []) (n_v vs 6) := t6
  have k6 : 0 ≤ v_iv (n_v vs 6) ∧ v_iv (n_v vs 6) ≤ 200 := tv_rng t6
  have hf : fc_ok [(9, [6, 0], [81]), (20, [0, 4], [30, 0, 1, 1, 81, -1, 0, 0])] ta ws vs := hf
  obtain ⟨f0, hf⟩ := fc_un (show (9 : Nat) < 100 from by decide) hf
  have f0 : n_v vs 6 = w_fd ws (v_ad (n_v vs 0)) 81 := f0
  obtain ⟨f1, hf⟩ := fc_un (show (20 : Nat) < 100 from by decide) hf
  have f1 : 1 * w_fi ws (n_v vs 0) 81 + ((-1) * v_iv (n_v vs 4) + 0) ≤ 0 := f1
  have g0 : v_iv (n_v vs 6) = w_fi ws (n_v vs 0) 81 := congrArg v_iv f0
  have kz_0_81 : 0 ≤ w_fi ws (n_v vs 0) 81 ∧ w_fi ws (n_v vs 0) 81 ≤ 200 := tv_rng (th_fd hD hth r0 (g := GG_150) rfl (k := 81) (t := (0, 0, 200, [])) rfl rfl)
  have rf6 : tv_ok ta (0, 0, 199, []) (n_v vs 6) := tv_in t6 (by omega) (by omega)
  refine ⟨List.forall_mem_cons.mpr ⟨rf6, (fun _ h => (by cases h))⟩, [], trivial, ?_, (fun _ h => (by cases h))⟩
  rw [List.append_nil]
  exact (fun _ h => (by cases h))
def o_Mo_apart_1 : or_T := (40, 11, [(0, (2, 0, 0, [150])), (4, (0, 0, 199, [])), (5, (2, 0, 0, [209])), (6, (0, 0, 199, [])), (7, (2, 0, 0, [210])), (8, (2, 0, 0, [211])), (9, (0, 1, 1, [])), (10, (0, 1, 200, []))], [(101, [0, 10], [81]), (1, [10, 6, 9], []), (9, [6, 0], [81]), (20, [0, 4], [30, 0, 1, 1, 81, -1, 0, 0]), (100, [8, 6, 3], []), (9, [8, 0], [89]), (20, [0, 4], [30, 0, 1, 1, 81, -1, 0, 0]), (100, [7, 6, 2], []), (9, [7, 0], [88]), (20, [0, 4], [30, 0, 1, 1, 81, -1, 0, 0]), (100, [5, 6, 1], []), (9, [5, 0], [87]), (20, [0, 4], [30, 0, 1, 1, 81, -1, 0, 0])], [], [], [(20, [0, 4], [30, 1, 1, 1, 81, -1, 0, 0])], [], [(10, 6, 1, 1)])
theorem oo_Mo_apart_1 {kA : Nat → ClassId} : or_ok kA GG o_Mo_apart_1 := by
  intro A ta ws vs hD hth hl hk hds hf
  have hl : vs.length = 11 := hl
  have hk : ∀ q ∈ ([(0, (2, 0, 0, [150])), (4, (0, 0, 199, [])), (5, (2, 0, 0, [209])), (6, (0, 0, 199, [])), (7, (2, 0, 0, [210])), (8, (2, 0, 0, [211])), (9, (0, 1, 1, [])), (10, (0, 1, 200, []))] : List (Nat × tv_T)), tv_ok ta q.2 (n_v vs q.1) := hk
  obtain ⟨t0, hk⟩ := List.forall_mem_cons.mp hk
  have t0 : tv_ok ta (2, 0, 0, [150]) (n_v vs 0) := t0
  have r0 : ta (v_ad (n_v vs 0)) = some 150 := tv_rg t0
  obtain ⟨t4, hk⟩ := List.forall_mem_cons.mp hk
  have t4 : tv_ok ta (0, 0, 199, []) (n_v vs 4) := t4
  have k4 : 0 ≤ v_iv (n_v vs 4) ∧ v_iv (n_v vs 4) ≤ 199 := tv_rng t4
  obtain ⟨t5, hk⟩ := List.forall_mem_cons.mp hk
  have t5 : tv_ok ta (2, 0, 0, [209]) (n_v vs 5) := t5
  have r5 : ta (v_ad (n_v vs 5)) = some 209 := tv_rg t5
  obtain ⟨t6, hk⟩ := List.forall_mem_cons.mp hk
  have t6 : tv_ok ta (0, 0, 199, []) (n_v vs 6) := t6
  have k6 : 0 ≤ v_iv (n_v vs 6) ∧ v_iv (n_v vs 6) ≤ 199 := tv_rng t6
  obtain ⟨t7, hk⟩ := List.forall_mem_cons.mp hk
  have t7 : tv_ok ta (2, 0, 0, [210]) (n_v vs 7) := t7
  have r7 : ta (v_ad (n_v vs 7)) = some 210 := tv_rg t7
  obtain ⟨t8, hk⟩ := List.forall_mem_cons.mp hk
  have t8 : tv_ok ta (2, 0, 0, [211]) (n_v vs 8) := t8
  have r8 : ta (v_ad (n_v vs 8)) = some 211 := tv_rg t8
  obtain ⟨t9, hk⟩ := List.forall_mem_cons.mp hk
  have t9 : tv_ok ta (0, 1, 1, []) (n_v vs 9) := t9
  have k9 : 1 ≤ v_iv (n_v vs 9) ∧ v_iv (n_v vs 9) ≤ 1 := tv_rng t9
  obtain ⟨t10, hk⟩ := List.forall_mem_cons.mp hk
  have t10 : tv_ok ta (0, 1, 200, []) (n_v vs 10) := t10
  have k10 : 1 ≤ v_iv (n_v vs 10) ∧ v_iv (n_v vs 10) ≤ 200 := tv_rng t10
  have hds : ∀ q ∈ ([(10, 6, 1, 1)] : List of_T), n_iv vs q.2.1 + q.2.2.1 ≤ n_iv vs q.1 ∧ n_iv vs q.1 ≤ n_iv vs q.2.1 + q.2.2.2 := hds
  obtain ⟨d0, hds⟩ := List.forall_mem_cons.mp hds
  have d0 : v_iv (n_v vs 6) + 1 ≤ v_iv (n_v vs 10) ∧ v_iv (n_v vs 10) ≤ v_iv (n_v vs 6) + 1 := d0
  have hf : fc_ok [(101, [0, 10], [81]), (1, [10, 6, 9], []), (9, [6, 0], [81]), (20, [0, 4], [30, 0, 1, 1, 81, -1, 0, 0]), (100, [8, 6, 3], []), (9, [8, 0], [89]), (20, [0, 4], [30, 0, 1, 1, 81, -1, 0, 0]), (100, [7, 6, 2], []), (9, [7, 0], [88]), (20, [0, 4], [30, 0, 1, 1, 81, -1, 0, 0]), (100, [5, 6, 1], []), (9, [5, 0], [87]), (20, [0, 4], [30, 0, 1, 1, 81, -1, 0, 0])] ta ws vs := hf
  obtain ⟨ta1, w1, le1, ⟨_, s1⟩, hf⟩ := fc_us (show ¬ (101 : Nat) < 100 from by decide) hf
  have s1 : (∀ b j, w_el ws b j = w_el w1 b j) ∧ ∀ b j, w_fd ws b j = if b = v_ad (n_v vs 0) ∧ j = 81 then n_v vs 10 else w_fd w1 b j := s1
  obtain ⟨f1, hf⟩ := fc_un (show (1 : Nat) < 100 from by decide) hf
  have f1 : v_iv (n_v vs 10) = v_iv (n_v vs 6) + v_iv (n_v vs 9) := f1
  obtain ⟨f2, hf⟩ := fc_un (show (9 : Nat) < 100 from by decide) hf
  have f2 : n_v vs 6 = w_fd w1 (v_ad (n_v vs 0)) 81 := f2
  obtain ⟨f3, hf⟩ := fc_un (show (20 : Nat) < 100 from by decide) hf
  have f3 : 1 * w_fi w1 (n_v vs 0) 81 + ((-1) * v_iv (n_v vs 4) + 0) ≤ 0 := f3
  obtain ⟨ta2, w2, le2, ⟨_, s2⟩, hf⟩ := fc_us (show ¬ (100 : Nat) < 100 from by decide) hf
  have s2 : (∀ b j, w_el w1 b j = if b = v_ad (n_v vs 8) ∧ j = (v_iv (n_v vs 6)).toNat then v_iv (n_v vs 3) else w_el w2 b j) ∧ ∀ b k, w_fd w1 b k = w_fd w2 b k := s2
  obtain ⟨f5, hf⟩ := fc_un (show (9 : Nat) < 100 from by decide) hf
  have f5 : n_v vs 8 = w_fd w2 (v_ad (n_v vs 0)) 89 := f5
  obtain ⟨f6, hf⟩ := fc_un (show (20 : Nat) < 100 from by decide) hf
  have f6 : 1 * w_fi w2 (n_v vs 0) 81 + ((-1) * v_iv (n_v vs 4) + 0) ≤ 0 := f6
  obtain ⟨ta3, w3, le3, ⟨_, s3⟩, hf⟩ := fc_us (show ¬ (100 : Nat) < 100 from by decide) hf
  have s3 : (∀ b j, w_el w2 b j = if b = v_ad (n_v vs 7) ∧ j = (v_iv (n_v vs 6)).toNat then v_iv (n_v vs 2) else w_el w3 b j) ∧ ∀ b k, w_fd w2 b k = w_fd w3 b k := s3
  obtain ⟨f8, hf⟩ := fc_un (show (9 : Nat) < 100 from by decide) hf
  have f8 : n_v vs 7 = w_fd w3 (v_ad (n_v vs 0)) 88 := f8
  obtain ⟨f9, hf⟩ := fc_un (show (20 : Nat) < 100 from by decide) hf
  have f9 : 1 * w_fi w3 (n_v vs 0) 81 + ((-1) * v_iv (n_v vs 4) + 0) ≤ 0 := f9
  obtain ⟨ta4, w4, le4, ⟨_, s4⟩, hf⟩ := fc_us (show ¬ (100 : Nat) < 100 from by decide) hf
  have s4 : (∀ b j, w_el w3 b j = if b = v_ad (n_v vs 5) ∧ j = (v_iv (n_v vs 6)).toNat then v_iv (n_v vs 1) else w_el w4 b j) ∧ ∀ b k, w_fd w3 b k = w_fd w4 b k := s4
  obtain ⟨f11, hf⟩ := fc_un (show (9 : Nat) < 100 from by decide) hf
  have f11 : n_v vs 5 = w_fd w4 (v_ad (n_v vs 0)) 87 := f11
  obtain ⟨f12, hf⟩ := fc_un (show (20 : Nat) < 100 from by decide) hf
  have f12 : 1 * w_fi w4 (n_v vs 0) 81 + ((-1) * v_iv (n_v vs 4) + 0) ≤ 0 := f12
  have ar_0_87_1 : w_ar w1 (n_v vs 0) 87 = w_ar ws (n_v vs 0) 87 := by show v_ad (w_fd w1 _ _) = v_ad (w_fd ws _ _); rw [s1.2, if_neg (fun e => absurd e.2 (by decide))]
  have ar_0_87_2 : w_ar w2 (n_v vs 0) 87 = w_ar ws (n_v vs 0) 87 := by rw [← ar_0_87_1]; show v_ad (w_fd w2 _ _) = v_ad (w_fd w1 _ _); rw [s2.2]
  have ar_0_87_3 : w_ar w3 (n_v vs 0) 87 = w_ar ws (n_v vs 0) 87 := by rw [← ar_0_87_2]; show v_ad (w_fd w3 _ _) = v_ad (w_fd w2 _ _); rw [s3.2]
  have ar_0_87_4 : w_ar w4 (n_v vs 0) 87 = w_ar ws (n_v vs 0) 87 := by rw [← ar_0_87_3]; show v_ad (w_fd w4 _ _) = v_ad (w_fd w3 _ _); rw [s4.2]
  have cr_0_87 : ta (w_ar ws (n_v vs 0) 87) = some 209 := tv_rg (th_fd hD hth r0 (g := GG_150) rfl (k := 87) (t := (2, 0, 0, [209])) rfl rfl)
  have ar_0_88_1 : w_ar w1 (n_v vs 0) 88 = w_ar ws (n_v vs 0) 88 := by show v_ad (w_fd w1 _ _) = v_ad (w_fd ws _ _); rw [s1.2, if_neg (fun e => absurd e.2 (by decide))]
  have ar_0_88_2 : w_ar w2 (n_v vs 0) 88 = w_ar ws (n_v vs 0) 88 := by rw [← ar_0_88_1]; show v_ad (w_fd w2 _ _) = v_ad (w_fd w1 _ _); rw [s2.2]
  have ar_0_88_3 : w_ar w3 (n_v vs 0) 88 = w_ar ws (n_v vs 0) 88 := by rw [← ar_0_88_2]; show v_ad (w_fd w3 _ _) = v_ad (w_fd w2 _ _); rw [s3.2]
  have ar_0_88_4 : w_ar w4 (n_v vs 0) 88 = w_ar ws (n_v vs 0) 88 := by rw [← ar_0_88_3]; show v_ad (w_fd w4 _ _) = v_ad (w_fd w3 _ _); rw [s4.2]
  have cr_0_88 : ta (w_ar ws (n_v vs 0) 88) = some 210 := tv_rg (th_fd hD hth r0 (g := GG_150) rfl (k := 88) (t := (2, 0, 0, [210])) rfl rfl)
  have ar_0_89_1 : w_ar w1 (n_v vs 0) 89 = w_ar ws (n_v vs 0) 89 := by show v_ad (w_fd w1 _ _) = v_ad (w_fd ws _ _); rw [s1.2, if_neg (fun e => absurd e.2 (by decide))]
  have ar_0_89_2 : w_ar w2 (n_v vs 0) 89 = w_ar ws (n_v vs 0) 89 := by rw [← ar_0_89_1]; show v_ad (w_fd w2 _ _) = v_ad (w_fd w1 _ _); rw [s2.2]
  have ar_0_89_3 : w_ar w3 (n_v vs 0) 89 = w_ar ws (n_v vs 0) 89 := by rw [← ar_0_89_2]; show v_ad (w_fd w3 _ _) = v_ad (w_fd w2 _ _); rw [s3.2]
  have ar_0_89_4 : w_ar w4 (n_v vs 0) 89 = w_ar ws (n_v vs 0) 89 := by rw [← ar_0_89_3]; show v_ad (w_fd w4 _ _) = v_ad (w_fd w3 _ _); rw [s4.2]
  have cr_0_89 : ta (w_ar ws (n_v vs 0) 89) = some 211 := tv_rg (th_fd hD hth r0 (g := GG_150) rfl (k := 89) (t := (2, 0, 0, [211])) rfl rfl)
  have ad_8 : v_ad (n_v vs 8) = w_ar ws (n_v vs 0) 89 := (congrArg v_ad f5).trans ar_0_89_2
  have ad_7 : v_ad (n_v vs 7) = w_ar ws (n_v vs 0) 88 := (congrArg v_ad f8).trans ar_0_88_3
  have ad_5 : v_ad (n_v vs 5) = w_ar ws (n_v vs 0) 87 := (congrArg v_ad f11).trans ar_0_87_4
  have g2 : v_iv (n_v vs 6) = w_fi w1 (n_v vs 0) 81 := congrArg v_iv f2
  have fe_0_81_1 : w_fi ws (n_v vs 0) 81 = v_iv (n_v vs 10) := by show v_iv (w_fd _ _ _) = _; rw [s1.2, if_pos ⟨rfl, rfl⟩]
  have fe_0_81_2 : w_fi w1 (n_v vs 0) 81 = w_fi w2 (n_v vs 0) 81 := congrArg v_iv (s2.2 _ _)
  have fe_0_81_3 : w_fi w2 (n_v vs 0) 81 = w_fi w3 (n_v vs 0) 81 := congrArg v_iv (s3.2 _ _)
  have fe_0_81_4 : w_fi w3 (n_v vs 0) 81 = w_fi w4 (n_v vs 0) 81 := congrArg v_iv (s4.2 _ _)
  have kz_0_81 : 0 ≤ w_fi ws (n_v vs 0) 81 ∧ w_fi ws (n_v vs 0) 81 ≤ 200 := tv_rng (th_fd hD hth r0 (g := GG_150) rfl (k := 81) (t := (0, 0, 200, [])) rfl rfl)
  have nf0 : fc_1 (20, [0, 4], [30, 1, 1, 1, 81, -1, 0, 0]) ws (vs) := by
    refine ⟨fun n hn => ?_, ?_⟩
    · have hn : n ∈ [0, 4] := hn
      rw [hl]
      simp only [List.mem_cons, List.not_mem_nil, or_false] at hn
      show n < 11; omega
    · show 1 * w_fi ws (n_v vs 0) 81 + ((-1) * v_iv (n_v vs 4) + 0) ≤ 1
      omega
  refine ⟨(fun _ h => (by cases h)), [], trivial, ?_, (fun _ h => (by cases h))⟩
  rw [List.append_nil]
  exact List.forall_mem_cons.mpr ⟨⟨show (20 : Nat) < 100 from by decide, nf0⟩, (fun _ h => (by cases h))⟩
def n_Mo_apart_an : List an_T := []
def t_Mo_apart_ct : ct_L := []
set_option maxRecDepth 100000 in
theorem c_Mo_apart {l : Launch} {D : va_G} {kA : Nat → ClassId} : ct_ok l D kA GG y_Mo_apart z_Mo_apart e_Mo_apart := chk_all_ok (FT := [(189, 13, 87), (192, 13, 88), (195, 13, 89), (780, 13, 81)]) (PT := [(780, 13, 81, .int)]) (CT := t_Mo_apart_ct) (KT := []) (NT := []) (AN := n_Mo_apart_an) (OT := [o_Mo_apart_0, o_Mo_apart_1]) 0 200 (List.forall_mem_cons.mpr ⟨oo_Mo_apart_0, List.forall_mem_cons.mpr ⟨oo_Mo_apart_1, List.forall_mem_nil _⟩⟩) (by decide +kernel) ⟨List.forall_mem_cons.mpr ⟨gf_Mo_189, List.forall_mem_cons.mpr ⟨gf_Mo_192, List.forall_mem_cons.mpr ⟨gf_Mo_195, List.forall_mem_cons.mpr ⟨gf_Mo_780, List.forall_mem_nil _⟩⟩⟩⟩, List.forall_mem_cons.mpr ⟨pf_Mo_780, List.forall_mem_nil _⟩, List.forall_mem_nil _, List.forall_mem_nil _, List.forall_mem_nil _, GG_pl⟩ (by decide +kernel)
def n_Mo_at1_an : List an_T := []
def t_Mo_at1_ct : ct_L := []
set_option maxRecDepth 100000 in
theorem c_Mo_at1 {l : Launch} {D : va_G} {kA : Nat → ClassId} : ct_ok l D kA GG y_Mo_at1 z_Mo_at1 e_Mo_at1 := chk_all_ok (FT := [(57, 13, 33), (60, 13, 34), (63, 13, 35)]) (PT := []) (CT := t_Mo_at1_ct) (KT := []) (NT := []) (AN := n_Mo_at1_an) (OT := []) 0 200 (List.forall_mem_nil _) (by decide +kernel) ⟨List.forall_mem_cons.mpr ⟨gf_Mo_57, List.forall_mem_cons.mpr ⟨gf_Mo_60, List.forall_mem_cons.mpr ⟨gf_Mo_63, List.forall_mem_nil _⟩⟩⟩, List.forall_mem_nil _, List.forall_mem_nil _, List.forall_mem_nil _, List.forall_mem_nil _, GG_pl⟩ (by decide +kernel)
def n_Mo_behind_an : List an_T := [(2, [(0, (2, 0, 0, [150])), (1, (0, 0, 24, [])), (2, (0, 0, 24, [])), (3, (0, 0, 120, []))], [], (0, 0), [(0, 0, 99998), (1, 3, 120), (0, 0, 100000), (0, 0, 0), (0, 0, 0)], [], [], [], 0, [], []), (21, [(0, (2, 0, 0, [150])), (1, (0, 0, 24, [])), (2, (0, 0, 24, [])), (3, (0, 0, 119, [])), (4, (0, 0, 60, [])), (5, (0, 0, 60, []))], [], (0, 0), [(0, 0, 99998), (1, 3, 120), (0, 0, 99979), (1, 5, 60), (0, 0, 100000)], [], [], [], 0, [], [])]
def t_Mo_behind_ct : ct_L := []
set_option maxRecDepth 100000 in
theorem c_Mo_behind {l : Launch} {D : va_G} {kA : Nat → ClassId} : ct_ok l D kA GG y_Mo_behind z_Mo_behind e_Mo_behind := chk_all_ok (FT := [(75, 13, 40), (78, 13, 41), (612, 13, 39)]) (PT := []) (CT := t_Mo_behind_ct) (KT := []) (NT := []) (AN := n_Mo_behind_an) (OT := []) 5 244 (List.forall_mem_nil _) (by decide +kernel) ⟨List.forall_mem_cons.mpr ⟨gf_Mo_75, List.forall_mem_cons.mpr ⟨gf_Mo_78, List.forall_mem_cons.mpr ⟨gf_Mo_612, List.forall_mem_nil _⟩⟩⟩, List.forall_mem_nil _, List.forall_mem_nil _, List.forall_mem_nil _, List.forall_mem_nil _, GG_pl⟩ (by decide +kernel)
def n_Mo_bounded_an : List an_T := []
def t_Mo_bounded_ct : ct_L := []
set_option maxRecDepth 100000 in
theorem c_Mo_bounded {l : Launch} {D : va_G} {kA : Nat → ClassId} : ct_ok l D kA GG y_Mo_bounded z_Mo_bounded e_Mo_bounded := chk_all_ok (FT := []) (PT := []) (CT := t_Mo_bounded_ct) (KT := []) (NT := []) (AN := n_Mo_bounded_an) (OT := []) 0 200 (List.forall_mem_nil _) (by decide +kernel) ⟨List.forall_mem_nil _, List.forall_mem_nil _, List.forall_mem_nil _, List.forall_mem_nil _, List.forall_mem_nil _, GG_pl⟩ (by decide +kernel)
def n_Mo_changed_an : List an_T := [(9, [(0, (2, 0, 0, [150])), (1, (0, 0, 3, [])), (2, (0, 0, 216, []))], [], (0, 0), [(0, 0, 99991), (1, 2, 216), (0, 0, 100000)], [], [], [], 0, [], [])]
def t_Mo_changed_ct : ct_L := []
set_option maxRecDepth 100000 in
theorem c_Mo_changed {l : Launch} {D : va_G} {kA : Nat → ClassId} : ct_ok l D kA GG y_Mo_changed z_Mo_changed e_Mo_changed := chk_all_ok (FT := [(120, 13, 61), (156, 13, 73)]) (PT := []) (CT := t_Mo_changed_ct) (KT := []) (NT := []) (AN := n_Mo_changed_an) (OT := []) 3 200 (List.forall_mem_nil _) (by decide +kernel) ⟨List.forall_mem_cons.mpr ⟨gf_Mo_120, List.forall_mem_cons.mpr ⟨gf_Mo_156, List.forall_mem_nil _⟩⟩, List.forall_mem_nil _, List.forall_mem_nil _, List.forall_mem_nil _, List.forall_mem_nil _, GG_pl⟩ (by decide +kernel)
def n_Mo_closer_an : List an_T := [(20, [(0, (2, 0, 0, [150])), (1, (0, 0, 24, [])), (2, (0, 0, 24, [])), (3, (0, 0, 25, [])), (4, (0, 0, 24, [])), (5, (0, 0, 1, []))], [], (0, 0), [(0, 0, 99980)], [], [], [], 0, [], []), (39, [(0, (2, 0, 0, [150])), (1, (0, 0, 24, [])), (2, (0, 0, 24, [])), (3, (0, 0, 25, [])), (4, (0, 0, 24, [])), (5, (0, 0, 1, []))], [], (0, 0), [(0, 0, 99961)], [], [], [], 0, [], []), (56, [(0, (2, 0, 0, [150])), (1, (0, 0, 24, [])), (2, (0, 0, 24, [])), (3, (0, 0, 25, [])), (4, (0, 0, 24, [])), (5, (0, 0, 1, []))], [], (0, 0), [(0, 0, 99944)], [], [], [], 0, [], [])]
def t_Mo_closer_ct : ct_L := []
set_option maxRecDepth 100000 in
theorem c_Mo_closer {l : Launch} {D : va_G} {kA : Nat → ClassId} : ct_ok l D kA GG y_Mo_closer z_Mo_closer e_Mo_closer := chk_all_ok (FT := [(81, 13, 42), (93, 13, 48)]) (PT := []) (CT := t_Mo_closer_ct) (KT := []) (NT := []) (AN := n_Mo_closer_an) (OT := []) 1 200 (List.forall_mem_nil _) (by decide +kernel) ⟨List.forall_mem_cons.mpr ⟨gf_Mo_81, List.forall_mem_cons.mpr ⟨gf_Mo_93, List.forall_mem_nil _⟩⟩, List.forall_mem_nil _, List.forall_mem_nil _, List.forall_mem_nil _, List.forall_mem_nil _, GG_pl⟩ (by decide +kernel)
def o_Mo_cost_0 : or_T := (9, 8, [(0, (2, 0, 0, [150])), (5, (0, 0, 199, [])), (7, (0, 0, 200, []))], [(9, [7, 0], [80]), (20, [0, 5], [30, 0, 1, 1, 80, -1, 0, 0])], [(7, (0, 0, 199, []))], [], [], [], [])
theorem oo_Mo_cost_0 {kA : Nat → ClassId} : or_ok kA GG o_Mo_cost_0 := by
  intro A ta ws vs hD hth hl hk hds hf
  have hl : vs.length = 8 := hl
  have hk : ∀ q ∈ ([(0, (2, 0, 0, [150])), (5, (0, 0, 199, [])), (7, (0, 0, 200, []))] : List (Nat × tv_T)), tv_ok ta q.2 (n_v vs q.1) := hk
  obtain ⟨t0, hk⟩ := List.forall_mem_cons.mp hk
  have t0 : tv_ok ta (2, 0, 0, [150]) (n_v vs 0) := t0
  have r0 : ta (v_ad (n_v vs 0)) = some 150 := tv_rg t0
  obtain ⟨t5, hk⟩ := List.forall_mem_cons.mp hk
  have t5 : tv_ok ta (0, 0, 199, []) (n_v vs 5) := t5
  have k5 : 0 ≤ v_iv (n_v vs 5) ∧ v_iv (n_v vs 5) ≤ 199 := tv_rng t5
  obtain ⟨t7, hk⟩ := List.forall_mem_cons.mp hk
  have t7 : tv_ok ta (0, 0, 200, []) (n_v vs 7) := t7
  have k7 : 0 ≤ v_iv (n_v vs 7) ∧ v_iv (n_v vs 7) ≤ 200 := tv_rng t7
  have hf : fc_ok [(9, [7, 0], [80]), (20, [0, 5], [30, 0, 1, 1, 80, -1, 0, 0])] ta ws vs := hf
  obtain ⟨f0, hf⟩ := fc_un (show (9 : Nat) < 100 from by decide) hf
  have f0 : n_v vs 7 = w_fd ws (v_ad (n_v vs 0)) 80 := f0
  obtain ⟨f1, hf⟩ := fc_un (show (20 : Nat) < 100 from by decide) hf
  have f1 : 1 * w_fi ws (n_v vs 0) 80 + ((-1) * v_iv (n_v vs 5) + 0) ≤ 0 := f1
  have g0 : v_iv (n_v vs 7) = w_fi ws (n_v vs 0) 80 := congrArg v_iv f0
  have kz_0_80 : 0 ≤ w_fi ws (n_v vs 0) 80 ∧ w_fi ws (n_v vs 0) 80 ≤ 200 := tv_rng (th_fd hD hth r0 (g := GG_150) rfl (k := 80) (t := (0, 0, 200, [])) rfl rfl)
  have rf7 : tv_ok ta (0, 0, 199, []) (n_v vs 7) := tv_in t7 (by omega) (by omega)
  refine ⟨List.forall_mem_cons.mpr ⟨rf7, (fun _ h => (by cases h))⟩, [], trivial, ?_, (fun _ h => (by cases h))⟩
  rw [List.append_nil]
  exact (fun _ h => (by cases h))
def o_Mo_cost_1 : or_T := (51, 13, [(0, (2, 0, 0, [150])), (5, (0, 0, 199, [])), (6, (2, 0, 0, [205])), (7, (0, 0, 199, [])), (8, (2, 0, 0, [206])), (9, (2, 0, 0, [207])), (10, (2, 0, 0, [208])), (11, (0, 1, 1, [])), (12, (0, 1, 200, []))], [(101, [0, 12], [80]), (1, [12, 7, 11], []), (9, [7, 0], [80]), (20, [0, 5], [30, 0, 1, 1, 80, -1, 0, 0]), (100, [10, 7, 4], []), (9, [10, 0], [86]), (20, [0, 5], [30, 0, 1, 1, 80, -1, 0, 0]), (100, [9, 7, 3], []), (9, [9, 0], [85]), (20, [0, 5], [30, 0, 1, 1, 80, -1, 0, 0]), (100, [8, 7, 2], []), (9, [8, 0], [84]), (20, [0, 5], [30, 0, 1, 1, 80, -1, 0, 0]), (100, [6, 7, 1], []), (9, [6, 0], [83]), (20, [0, 5], [30, 0, 1, 1, 80, -1, 0, 0])], [], [], [(20, [0, 5], [30, 1, 1, 1, 80, -1, 0, 0])], [], [(12, 7, 1, 1)])
theorem oo_Mo_cost_1 {kA : Nat → ClassId} : or_ok kA GG o_Mo_cost_1 := by
  intro A ta ws vs hD hth hl hk hds hf
  have hl : vs.length = 13 := hl
  have hk : ∀ q ∈ ([(0, (2, 0, 0, [150])), (5, (0, 0, 199, [])), (6, (2, 0, 0, [205])), (7, (0, 0, 199, [])), (8, (2, 0, 0, [206])), (9, (2, 0, 0, [207])), (10, (2, 0, 0, [208])), (11, (0, 1, 1, [])), (12, (0, 1, 200, []))] : List (Nat × tv_T)), tv_ok ta q.2 (n_v vs q.1) := hk
  obtain ⟨t0, hk⟩ := List.forall_mem_cons.mp hk
  have t0 : tv_ok ta (2, 0, 0, [150]) (n_v vs 0) := t0
  have r0 : ta (v_ad (n_v vs 0)) = some 150 := tv_rg t0
  obtain ⟨t5, hk⟩ := List.forall_mem_cons.mp hk
  have t5 : tv_ok ta (0, 0, 199, []) (n_v vs 5) := t5
  have k5 : 0 ≤ v_iv (n_v vs 5) ∧ v_iv (n_v vs 5) ≤ 199 := tv_rng t5
  obtain ⟨t6, hk⟩ := List.forall_mem_cons.mp hk
  have t6 : tv_ok ta (2, 0, 0, [205]) (n_v vs 6) := t6
  have r6 : ta (v_ad (n_v vs 6)) = some 205 := tv_rg t6
  obtain ⟨t7, hk⟩ := List.forall_mem_cons.mp hk
  have t7 : tv_ok ta (0, 0, 199, []) (n_v vs 7) := t7
  have k7 : 0 ≤ v_iv (n_v vs 7) ∧ v_iv (n_v vs 7) ≤ 199 := tv_rng t7
  obtain ⟨t8, hk⟩ := List.forall_mem_cons.mp hk
  have t8 : tv_ok ta (2, 0, 0, [206]) (n_v vs 8) := t8
  have r8 : ta (v_ad (n_v vs 8)) = some 206 := tv_rg t8
  obtain ⟨t9, hk⟩ := List.forall_mem_cons.mp hk
  have t9 : tv_ok ta (2, 0, 0, [207]) (n_v vs 9) := t9
  have r9 : ta (v_ad (n_v vs 9)) = some 207 := tv_rg t9
  obtain ⟨t10, hk⟩ := List.forall_mem_cons.mp hk
  have t10 : tv_ok ta (2, 0, 0, [208]) (n_v vs 10) := t10
  have r10 : ta (v_ad (n_v vs 10)) = some 208 := tv_rg t10
  obtain ⟨t11, hk⟩ := List.forall_mem_cons.mp hk
  have t11 : tv_ok ta (0, 1, 1, []) (n_v vs 11) := t11
  have k11 : 1 ≤ v_iv (n_v vs 11) ∧ v_iv (n_v vs 11) ≤ 1 := tv_rng t11
  obtain ⟨t12, hk⟩ := List.forall_mem_cons.mp hk
  have t12 : tv_ok ta (0, 1, 200, []) (n_v vs 12) := t12
  have k12 : 1 ≤ v_iv (n_v vs 12) ∧ v_iv (n_v vs 12) ≤ 200 := tv_rng t12
  have hds : ∀ q ∈ ([(12, 7, 1, 1)] : List of_T), n_iv vs q.2.1 + q.2.2.1 ≤ n_iv vs q.1 ∧ n_iv vs q.1 ≤ n_iv vs q.2.1 + q.2.2.2 := hds
  obtain ⟨d0, hds⟩ := List.forall_mem_cons.mp hds
  have d0 : v_iv (n_v vs 7) + 1 ≤ v_iv (n_v vs 12) ∧ v_iv (n_v vs 12) ≤ v_iv (n_v vs 7) + 1 := d0
  have hf : fc_ok [(101, [0, 12], [80]), (1, [12, 7, 11], []), (9, [7, 0], [80]), (20, [0, 5], [30, 0, 1, 1, 80, -1, 0, 0]), (100, [10, 7, 4], []), (9, [10, 0], [86]), (20, [0, 5], [30, 0, 1, 1, 80, -1, 0, 0]), (100, [9, 7, 3], []), (9, [9, 0], [85]), (20, [0, 5], [30, 0, 1, 1, 80, -1, 0, 0]), (100, [8, 7, 2], []), (9, [8, 0], [84]), (20, [0, 5], [30, 0, 1, 1, 80, -1, 0, 0]), (100, [6, 7, 1], []), (9, [6, 0], [83]), (20, [0, 5], [30, 0, 1, 1, 80, -1, 0, 0])] ta ws vs := hf
  obtain ⟨ta1, w1, le1, ⟨_, s1⟩, hf⟩ := fc_us (show ¬ (101 : Nat) < 100 from by decide) hf
  have s1 : (∀ b j, w_el ws b j = w_el w1 b j) ∧ ∀ b j, w_fd ws b j = if b = v_ad (n_v vs 0) ∧ j = 80 then n_v vs 12 else w_fd w1 b j := s1
  obtain ⟨f1, hf⟩ := fc_un (show (1 : Nat) < 100 from by decide) hf
  have f1 : v_iv (n_v vs 12) = v_iv (n_v vs 7) + v_iv (n_v vs 11) := f1
  obtain ⟨f2, hf⟩ := fc_un (show (9 : Nat) < 100 from by decide) hf
  have f2 : n_v vs 7 = w_fd w1 (v_ad (n_v vs 0)) 80 := f2
  obtain ⟨f3, hf⟩ := fc_un (show (20 : Nat) < 100 from by decide) hf
  have f3 : 1 * w_fi w1 (n_v vs 0) 80 + ((-1) * v_iv (n_v vs 5) + 0) ≤ 0 := f3
  obtain ⟨ta2, w2, le2, ⟨_, s2⟩, hf⟩ := fc_us (show ¬ (100 : Nat) < 100 from by decide) hf
  have s2 : (∀ b j, w_el w1 b j = if b = v_ad (n_v vs 10) ∧ j = (v_iv (n_v vs 7)).toNat then v_iv (n_v vs 4) else w_el w2 b j) ∧ ∀ b k, w_fd w1 b k = w_fd w2 b k := s2
  obtain ⟨f5, hf⟩ := fc_un (show (9 : Nat) < 100 from by decide) hf
  have f5 : n_v vs 10 = w_fd w2 (v_ad (n_v vs 0)) 86 := f5
  obtain ⟨f6, hf⟩ := fc_un (show (20 : Nat) < 100 from by decide) hf
  have f6 : 1 * w_fi w2 (n_v vs 0) 80 + ((-1) * v_iv (n_v vs 5) + 0) ≤ 0 := f6
  obtain ⟨ta3, w3, le3, ⟨_, s3⟩, hf⟩ := fc_us (show ¬ (100 : Nat) < 100 from by decide) hf
  have s3 : (∀ b j, w_el w2 b j = if b = v_ad (n_v vs 9) ∧ j = (v_iv (n_v vs 7)).toNat then v_iv (n_v vs 3) else w_el w3 b j) ∧ ∀ b k, w_fd w2 b k = w_fd w3 b k := s3
  obtain ⟨f8, hf⟩ := fc_un (show (9 : Nat) < 100 from by decide) hf
  have f8 : n_v vs 9 = w_fd w3 (v_ad (n_v vs 0)) 85 := f8
  obtain ⟨f9, hf⟩ := fc_un (show (20 : Nat) < 100 from by decide) hf
  have f9 : 1 * w_fi w3 (n_v vs 0) 80 + ((-1) * v_iv (n_v vs 5) + 0) ≤ 0 := f9
  obtain ⟨ta4, w4, le4, ⟨_, s4⟩, hf⟩ := fc_us (show ¬ (100 : Nat) < 100 from by decide) hf
  have s4 : (∀ b j, w_el w3 b j = if b = v_ad (n_v vs 8) ∧ j = (v_iv (n_v vs 7)).toNat then v_iv (n_v vs 2) else w_el w4 b j) ∧ ∀ b k, w_fd w3 b k = w_fd w4 b k := s4
  obtain ⟨f11, hf⟩ := fc_un (show (9 : Nat) < 100 from by decide) hf
  have f11 : n_v vs 8 = w_fd w4 (v_ad (n_v vs 0)) 84 := f11
  obtain ⟨f12, hf⟩ := fc_un (show (20 : Nat) < 100 from by decide) hf
  have f12 : 1 * w_fi w4 (n_v vs 0) 80 + ((-1) * v_iv (n_v vs 5) + 0) ≤ 0 := f12
  obtain ⟨ta5, w5, le5, ⟨_, s5⟩, hf⟩ := fc_us (show ¬ (100 : Nat) < 100 from by decide) hf
  have s5 : (∀ b j, w_el w4 b j = if b = v_ad (n_v vs 6) ∧ j = (v_iv (n_v vs 7)).toNat then v_iv (n_v vs 1) else w_el w5 b j) ∧ ∀ b k, w_fd w4 b k = w_fd w5 b k := s5
  obtain ⟨f14, hf⟩ := fc_un (show (9 : Nat) < 100 from by decide) hf
  have f14 : n_v vs 6 = w_fd w5 (v_ad (n_v vs 0)) 83 := f14
  obtain ⟨f15, hf⟩ := fc_un (show (20 : Nat) < 100 from by decide) hf
  have f15 : 1 * w_fi w5 (n_v vs 0) 80 + ((-1) * v_iv (n_v vs 5) + 0) ≤ 0 := f15
  have ar_0_83_1 : w_ar w1 (n_v vs 0) 83 = w_ar ws (n_v vs 0) 83 := by show v_ad (w_fd w1 _ _) = v_ad (w_fd ws _ _); rw [s1.2, if_neg (fun e => absurd e.2 (by decide))]
  have ar_0_83_2 : w_ar w2 (n_v vs 0) 83 = w_ar ws (n_v vs 0) 83 := by rw [← ar_0_83_1]; show v_ad (w_fd w2 _ _) = v_ad (w_fd w1 _ _); rw [s2.2]
  have ar_0_83_3 : w_ar w3 (n_v vs 0) 83 = w_ar ws (n_v vs 0) 83 := by rw [← ar_0_83_2]; show v_ad (w_fd w3 _ _) = v_ad (w_fd w2 _ _); rw [s3.2]
  have ar_0_83_4 : w_ar w4 (n_v vs 0) 83 = w_ar ws (n_v vs 0) 83 := by rw [← ar_0_83_3]; show v_ad (w_fd w4 _ _) = v_ad (w_fd w3 _ _); rw [s4.2]
  have ar_0_83_5 : w_ar w5 (n_v vs 0) 83 = w_ar ws (n_v vs 0) 83 := by rw [← ar_0_83_4]; show v_ad (w_fd w5 _ _) = v_ad (w_fd w4 _ _); rw [s5.2]
  have cr_0_83 : ta (w_ar ws (n_v vs 0) 83) = some 205 := tv_rg (th_fd hD hth r0 (g := GG_150) rfl (k := 83) (t := (2, 0, 0, [205])) rfl rfl)
  have ar_0_84_1 : w_ar w1 (n_v vs 0) 84 = w_ar ws (n_v vs 0) 84 := by show v_ad (w_fd w1 _ _) = v_ad (w_fd ws _ _); rw [s1.2, if_neg (fun e => absurd e.2 (by decide))]
  have ar_0_84_2 : w_ar w2 (n_v vs 0) 84 = w_ar ws (n_v vs 0) 84 := by rw [← ar_0_84_1]; show v_ad (w_fd w2 _ _) = v_ad (w_fd w1 _ _); rw [s2.2]
  have ar_0_84_3 : w_ar w3 (n_v vs 0) 84 = w_ar ws (n_v vs 0) 84 := by rw [← ar_0_84_2]; show v_ad (w_fd w3 _ _) = v_ad (w_fd w2 _ _); rw [s3.2]
  have ar_0_84_4 : w_ar w4 (n_v vs 0) 84 = w_ar ws (n_v vs 0) 84 := by rw [← ar_0_84_3]; show v_ad (w_fd w4 _ _) = v_ad (w_fd w3 _ _); rw [s4.2]
  have ar_0_84_5 : w_ar w5 (n_v vs 0) 84 = w_ar ws (n_v vs 0) 84 := by rw [← ar_0_84_4]; show v_ad (w_fd w5 _ _) = v_ad (w_fd w4 _ _); rw [s5.2]
  have cr_0_84 : ta (w_ar ws (n_v vs 0) 84) = some 206 := tv_rg (th_fd hD hth r0 (g := GG_150) rfl (k := 84) (t := (2, 0, 0, [206])) rfl rfl)
  have ar_0_85_1 : w_ar w1 (n_v vs 0) 85 = w_ar ws (n_v vs 0) 85 := by show v_ad (w_fd w1 _ _) = v_ad (w_fd ws _ _); rw [s1.2, if_neg (fun e => absurd e.2 (by decide))]
  have ar_0_85_2 : w_ar w2 (n_v vs 0) 85 = w_ar ws (n_v vs 0) 85 := by rw [← ar_0_85_1]; show v_ad (w_fd w2 _ _) = v_ad (w_fd w1 _ _); rw [s2.2]
  have ar_0_85_3 : w_ar w3 (n_v vs 0) 85 = w_ar ws (n_v vs 0) 85 := by rw [← ar_0_85_2]; show v_ad (w_fd w3 _ _) = v_ad (w_fd w2 _ _); rw [s3.2]
  have ar_0_85_4 : w_ar w4 (n_v vs 0) 85 = w_ar ws (n_v vs 0) 85 := by rw [← ar_0_85_3]; show v_ad (w_fd w4 _ _) = v_ad (w_fd w3 _ _); rw [s4.2]
  have ar_0_85_5 : w_ar w5 (n_v vs 0) 85 = w_ar ws (n_v vs 0) 85 := by rw [← ar_0_85_4]; show v_ad (w_fd w5 _ _) = v_ad (w_fd w4 _ _); rw [s5.2]
  have cr_0_85 : ta (w_ar ws (n_v vs 0) 85) = some 207 := tv_rg (th_fd hD hth r0 (g := GG_150) rfl (k := 85) (t := (2, 0, 0, [207])) rfl rfl)
  have ar_0_86_1 : w_ar w1 (n_v vs 0) 86 = w_ar ws (n_v vs 0) 86 := by show v_ad (w_fd w1 _ _) = v_ad (w_fd ws _ _); rw [s1.2, if_neg (fun e => absurd e.2 (by decide))]
  have ar_0_86_2 : w_ar w2 (n_v vs 0) 86 = w_ar ws (n_v vs 0) 86 := by rw [← ar_0_86_1]; show v_ad (w_fd w2 _ _) = v_ad (w_fd w1 _ _); rw [s2.2]
  have ar_0_86_3 : w_ar w3 (n_v vs 0) 86 = w_ar ws (n_v vs 0) 86 := by rw [← ar_0_86_2]; show v_ad (w_fd w3 _ _) = v_ad (w_fd w2 _ _); rw [s3.2]
  have ar_0_86_4 : w_ar w4 (n_v vs 0) 86 = w_ar ws (n_v vs 0) 86 := by rw [← ar_0_86_3]; show v_ad (w_fd w4 _ _) = v_ad (w_fd w3 _ _); rw [s4.2]
  have ar_0_86_5 : w_ar w5 (n_v vs 0) 86 = w_ar ws (n_v vs 0) 86 := by rw [← ar_0_86_4]; show v_ad (w_fd w5 _ _) = v_ad (w_fd w4 _ _); rw [s5.2]
  have cr_0_86 : ta (w_ar ws (n_v vs 0) 86) = some 208 := tv_rg (th_fd hD hth r0 (g := GG_150) rfl (k := 86) (t := (2, 0, 0, [208])) rfl rfl)
  have ad_10 : v_ad (n_v vs 10) = w_ar ws (n_v vs 0) 86 := (congrArg v_ad f5).trans ar_0_86_2
  have ad_9 : v_ad (n_v vs 9) = w_ar ws (n_v vs 0) 85 := (congrArg v_ad f8).trans ar_0_85_3
  have ad_8 : v_ad (n_v vs 8) = w_ar ws (n_v vs 0) 84 := (congrArg v_ad f11).trans ar_0_84_4
  have ad_6 : v_ad (n_v vs 6) = w_ar ws (n_v vs 0) 83 := (congrArg v_ad f14).trans ar_0_83_5
  have g2 : v_iv (n_v vs 7) = w_fi w1 (n_v vs 0) 80 := congrArg v_iv f2
  have fe_0_80_1 : w_fi ws (n_v vs 0) 80 = v_iv (n_v vs 12) := by show v_iv (w_fd _ _ _) = _; rw [s1.2, if_pos ⟨rfl, rfl⟩]
  have fe_0_80_2 : w_fi w1 (n_v vs 0) 80 = w_fi w2 (n_v vs 0) 80 := congrArg v_iv (s2.2 _ _)
  have fe_0_80_3 : w_fi w2 (n_v vs 0) 80 = w_fi w3 (n_v vs 0) 80 := congrArg v_iv (s3.2 _ _)
  have fe_0_80_4 : w_fi w3 (n_v vs 0) 80 = w_fi w4 (n_v vs 0) 80 := congrArg v_iv (s4.2 _ _)
  have fe_0_80_5 : w_fi w4 (n_v vs 0) 80 = w_fi w5 (n_v vs 0) 80 := congrArg v_iv (s5.2 _ _)
  have kz_0_80 : 0 ≤ w_fi ws (n_v vs 0) 80 ∧ w_fi ws (n_v vs 0) 80 ≤ 200 := tv_rng (th_fd hD hth r0 (g := GG_150) rfl (k := 80) (t := (0, 0, 200, [])) rfl rfl)
  have nf0 : fc_1 (20, [0, 5], [30, 1, 1, 1, 80, -1, 0, 0]) ws (vs) := by
    refine ⟨fun n hn => ?_, ?_⟩
    · have hn : n ∈ [0, 5] := hn
      rw [hl]
      simp only [List.mem_cons, List.not_mem_nil, or_false] at hn
      show n < 13; omega
    · show 1 * w_fi ws (n_v vs 0) 80 + ((-1) * v_iv (n_v vs 5) + 0) ≤ 1
      omega
  refine ⟨(fun _ h => (by cases h)), [], trivial, ?_, (fun _ h => (by cases h))⟩
  rw [List.append_nil]
  exact List.forall_mem_cons.mpr ⟨⟨show (20 : Nat) < 100 from by decide, nf0⟩, (fun _ h => (by cases h))⟩
def n_Mo_cost_an : List an_T := []
def t_Mo_cost_ct : ct_L := []
set_option maxRecDepth 100000 in
theorem c_Mo_cost {l : Launch} {D : va_G} {kA : Nat → ClassId} : ct_ok l D kA GG y_Mo_cost z_Mo_cost e_Mo_cost := chk_all_ok (FT := [(177, 13, 83), (180, 13, 84), (183, 13, 85), (186, 13, 86), (777, 13, 80)]) (PT := [(777, 13, 80, .int)]) (CT := t_Mo_cost_ct) (KT := []) (NT := []) (AN := n_Mo_cost_an) (OT := [o_Mo_cost_0, o_Mo_cost_1]) 0 200 (List.forall_mem_cons.mpr ⟨oo_Mo_cost_0, List.forall_mem_cons.mpr ⟨oo_Mo_cost_1, List.forall_mem_nil _⟩⟩) (by decide +kernel) ⟨List.forall_mem_cons.mpr ⟨gf_Mo_177, List.forall_mem_cons.mpr ⟨gf_Mo_180, List.forall_mem_cons.mpr ⟨gf_Mo_183, List.forall_mem_cons.mpr ⟨gf_Mo_186, List.forall_mem_cons.mpr ⟨gf_Mo_777, List.forall_mem_nil _⟩⟩⟩⟩⟩, List.forall_mem_cons.mpr ⟨pf_Mo_777, List.forall_mem_nil _⟩, List.forall_mem_nil _, List.forall_mem_nil _, List.forall_mem_nil _, GG_pl⟩ (by decide +kernel)
def n_Mo_degree_an : List an_T := [(5, [(0, (2, 0, 0, [150])), (1, (5, 0, 66297, [539])), (2, (0, 0, 23, [])), (3, (0, -2147483648, 2147483647, [])), (4, (0, 0, 48, []))], [], (0, 0), [(0, 0, 99995), (1, 4, 48), (0, 0, 100000)], [], [], [], 0, [], [])]
def t_Mo_degree_ct : ct_L := []
set_option maxRecDepth 100000 in
theorem c_Mo_degree {l : Launch} {D : va_G} {kA : Nat → ClassId} : ct_ok l D kA GG y_Mo_degree z_Mo_degree e_Mo_degree := chk_all_ok (FT := [(16, 13, 2)]) (PT := []) (CT := t_Mo_degree_ct) (KT := []) (NT := []) (AN := n_Mo_degree_an) (OT := []) 3 208 (List.forall_mem_nil _) (by decide +kernel) ⟨List.forall_mem_cons.mpr ⟨gf_Mo_16, List.forall_mem_nil _⟩, List.forall_mem_nil _, List.forall_mem_nil _, List.forall_mem_nil _, List.forall_mem_nil _, GG_pl⟩ (by decide +kernel)
def n_Mo_dx_an : List an_T := []
def t_Mo_dx_ct : ct_L := []
set_option maxRecDepth 100000 in
theorem c_Mo_dx {l : Launch} {D : va_G} {kA : Nat → ClassId} : ct_ok l D kA GG y_Mo_dx z_Mo_dx e_Mo_dx := chk_all_ok (FT := []) (PT := []) (CT := t_Mo_dx_ct) (KT := []) (NT := []) (AN := n_Mo_dx_an) (OT := []) 0 200 (List.forall_mem_nil _) (by decide +kernel) ⟨List.forall_mem_nil _, List.forall_mem_nil _, List.forall_mem_nil _, List.forall_mem_nil _, List.forall_mem_nil _, GG_pl⟩ (by decide +kernel)
def n_Mo_dy_an : List an_T := []
def t_Mo_dy_ct : ct_L := []
set_option maxRecDepth 100000 in
theorem c_Mo_dy {l : Launch} {D : va_G} {kA : Nat → ClassId} : ct_ok l D kA GG y_Mo_dy z_Mo_dy e_Mo_dy := chk_all_ok (FT := []) (PT := []) (CT := t_Mo_dy_ct) (KT := []) (NT := []) (AN := n_Mo_dy_an) (OT := []) 0 200 (List.forall_mem_nil _) (by decide +kernel) ⟨List.forall_mem_nil _, List.forall_mem_nil _, List.forall_mem_nil _, List.forall_mem_nil _, List.forall_mem_nil _, GG_pl⟩ (by decide +kernel)
def n_Mo_edgeWay_an : List an_T := [(3, [(0, (2, 0, 0, [150])), (1, (5, 0, 66297, [539])), (2, (0, -1, 23, [])), (3, (0, 0, 23, [])), (4, (0, 0, 48, []))], [], (0, 0), [(0, 0, 99997), (1, 4, 48), (0, 0, 100000)], [], [], [], 0, [], [])]
def t_Mo_edgeWay_ct : ct_L := []
set_option maxRecDepth 100000 in
theorem c_Mo_edgeWay {l : Launch} {D : va_G} {kA : Nat → ClassId} : ct_ok l D kA GG y_Mo_edgeWay z_Mo_edgeWay e_Mo_edgeWay := chk_all_ok (FT := [(16, 13, 2)]) (PT := []) (CT := t_Mo_edgeWay_ct) (KT := []) (NT := []) (AN := n_Mo_edgeWay_an) (OT := []) 3 344 (List.forall_mem_nil _) (by decide +kernel) ⟨List.forall_mem_cons.mpr ⟨gf_Mo_16, List.forall_mem_nil _⟩, List.forall_mem_nil _, List.forall_mem_nil _, List.forall_mem_nil _, List.forall_mem_nil _, GG_pl⟩ (by decide +kernel)
def o_Mo_edges_0 : or_T := (11, 6, [(0, (2, 0, 0, [150])), (1, (2, 0, 0, [152])), (2, (0, 0, 66297, [])), (3, (0, 1, 1, [])), (4, (0, 1, 66298, [])), (5, (0, 0, 48, []))], [(10, [5, 1, 4], []), (1, [4, 2, 3], []), (9, [2, 0], [5]), (9, [1, 0], [2])], [], [], [(20, [5, 0], [30, 0, 1, 0, 0, -1, 3, 2005001]), (20, [5, 0], [30, 0, -1, 0, 0, 1, 3, 2005001])], [], [(4, 2, 1, 1)])
theorem oo_Mo_edges_0 {kA : Nat → ClassId} : or_ok kA GG o_Mo_edges_0 := by
  intro A ta ws vs hD hth hl hk hds hf
  have hl : vs.length = 6 := hl
  have hk : ∀ q ∈ ([(0, (2, 0, 0, [150])), (1, (2, 0, 0, [152])), (2, (0, 0, 66297, [])), (3, (0, 1, 1, [])), (4, (0, 1, 66298, [])), (5, (0, 0, 48, []))] : List (Nat × tv_T)), tv_ok ta q.2 (n_v vs q.1) := hk
  obtain ⟨t0, hk⟩ := List.forall_mem_cons.mp hk
  have t0 : tv_ok ta (2, 0, 0, [150]) (n_v vs 0) := t0
  have r0 : ta (v_ad (n_v vs 0)) = some 150 := tv_rg t0
  obtain ⟨t1, hk⟩ := List.forall_mem_cons.mp hk
  have t1 : tv_ok ta (2, 0, 0, [152]) (n_v vs 1) := t1
  have r1 : ta (v_ad (n_v vs 1)) = some 152 := tv_rg t1
  obtain ⟨t2, hk⟩ := List.forall_mem_cons.mp hk
  have t2 : tv_ok ta (0, 0, 66297, []) (n_v vs 2) := t2
  have k2 : 0 ≤ v_iv (n_v vs 2) ∧ v_iv (n_v vs 2) ≤ 66297 := tv_rng t2
  obtain ⟨t3, hk⟩ := List.forall_mem_cons.mp hk
  have t3 : tv_ok ta (0, 1, 1, []) (n_v vs 3) := t3
  have k3 : 1 ≤ v_iv (n_v vs 3) ∧ v_iv (n_v vs 3) ≤ 1 := tv_rng t3
  obtain ⟨t4, hk⟩ := List.forall_mem_cons.mp hk
  have t4 : tv_ok ta (0, 1, 66298, []) (n_v vs 4) := t4
  have k4 : 1 ≤ v_iv (n_v vs 4) ∧ v_iv (n_v vs 4) ≤ 66298 := tv_rng t4
  obtain ⟨t5, hk⟩ := List.forall_mem_cons.mp hk
  have t5 : tv_ok ta (0, 0, 48, []) (n_v vs 5) := t5
  have k5 : 0 ≤ v_iv (n_v vs 5) ∧ v_iv (n_v vs 5) ≤ 48 := tv_rng t5
  have hds : ∀ q ∈ ([(4, 2, 1, 1)] : List of_T), n_iv vs q.2.1 + q.2.2.1 ≤ n_iv vs q.1 ∧ n_iv vs q.1 ≤ n_iv vs q.2.1 + q.2.2.2 := hds
  obtain ⟨d0, hds⟩ := List.forall_mem_cons.mp hds
  have d0 : v_iv (n_v vs 2) + 1 ≤ v_iv (n_v vs 4) ∧ v_iv (n_v vs 4) ≤ v_iv (n_v vs 2) + 1 := d0
  have hf : fc_ok [(10, [5, 1, 4], []), (1, [4, 2, 3], []), (9, [2, 0], [5]), (9, [1, 0], [2])] ta ws vs := hf
  obtain ⟨f0, hf⟩ := fc_un (show (10 : Nat) < 100 from by decide) hf
  have f0 : v_iv (n_v vs 5) = w_el ws (v_ad (n_v vs 1)) (v_iv (n_v vs 4)).toNat := f0
  obtain ⟨f1, hf⟩ := fc_un (show (1 : Nat) < 100 from by decide) hf
  have f1 : v_iv (n_v vs 4) = v_iv (n_v vs 2) + v_iv (n_v vs 3) := f1
  obtain ⟨f2, hf⟩ := fc_un (show (9 : Nat) < 100 from by decide) hf
  have f2 : n_v vs 2 = w_fd ws (v_ad (n_v vs 0)) 5 := f2
  obtain ⟨f3, hf⟩ := fc_un (show (9 : Nat) < 100 from by decide) hf
  have f3 : n_v vs 1 = w_fd ws (v_ad (n_v vs 0)) 2 := f3
  have cr_0_2 : ta (w_ar ws (n_v vs 0) 2) = some 152 := tv_rg (th_fd hD hth r0 (g := GG_150) rfl (k := 2) (t := (2, 0, 0, [152])) rfl rfl)
  have ad_1 : v_ad (n_v vs 1) = w_ar ws (n_v vs 0) 2 := congrArg v_ad f3
  rw [ad_1] at f0
  have g2 : v_iv (n_v vs 2) = w_fi ws (n_v vs 0) 5 := congrArg v_iv f2
  have cg0_F5_1 : v_iv (n_v vs 4) = w_fi ws (n_v vs 0) 5 + 1 → w_el ws (w_ar ws (n_v vs 0) 2) (v_iv (n_v vs 4)).toNat = w_el ws (w_ar ws (n_v vs 0) 2) (w_fi ws (n_v vs 0) 5 + 1).toNat := fun h => by rw [h]
  have nf0 : fc_1 (20, [5, 0], [30, 0, 1, 0, 0, -1, 3, 2005001]) ws (vs) := by
    refine ⟨fun n hn => ?_, ?_⟩
    · have hn : n ∈ [5, 0] := hn
      rw [hl]
      simp only [List.mem_cons, List.not_mem_nil, or_false] at hn
      show n < 6; omega
    · show 1 * v_iv (n_v vs 5) + ((-1) * w_el ws (w_ar ws (n_v vs 0) 2) (w_fi ws (n_v vs 0) 5 + 1).toNat + 0) ≤ 0
      omega
  have nf1 : fc_1 (20, [5, 0], [30, 0, -1, 0, 0, 1, 3, 2005001]) ws (vs) := by
    refine ⟨fun n hn => ?_, ?_⟩
    · have hn : n ∈ [5, 0] := hn
      rw [hl]
      simp only [List.mem_cons, List.not_mem_nil, or_false] at hn
      show n < 6; omega
    · show (-1) * v_iv (n_v vs 5) + (1 * w_el ws (w_ar ws (n_v vs 0) 2) (w_fi ws (n_v vs 0) 5 + 1).toNat + 0) ≤ 0
      omega
  refine ⟨(fun _ h => (by cases h)), [], trivial, ?_, (fun _ h => (by cases h))⟩
  rw [List.append_nil]
  exact List.forall_mem_cons.mpr ⟨⟨show (20 : Nat) < 100 from by decide, nf0⟩, List.forall_mem_cons.mpr ⟨⟨show (20 : Nat) < 100 from by decide, nf1⟩, (fun _ h => (by cases h))⟩⟩
def n_Mo_edges_an : List an_T := []
def t_Mo_edges_ct : ct_L := []
set_option maxRecDepth 100000 in
theorem c_Mo_edges {l : Launch} {D : va_G} {kA : Nat → ClassId} : ct_ok l D kA GG y_Mo_edges z_Mo_edges e_Mo_edges := chk_all_ok (FT := [(16, 13, 2), (391, 13, 5)]) (PT := []) (CT := t_Mo_edges_ct) (KT := []) (NT := []) (AN := n_Mo_edges_an) (OT := [o_Mo_edges_0]) 0 200 (List.forall_mem_cons.mpr ⟨oo_Mo_edges_0, List.forall_mem_nil _⟩) (by decide +kernel) ⟨List.forall_mem_cons.mpr ⟨gf_Mo_16, List.forall_mem_cons.mpr ⟨gf_Mo_391, List.forall_mem_nil _⟩⟩, List.forall_mem_nil _, List.forall_mem_nil _, List.forall_mem_nil _, List.forall_mem_nil _, GG_pl⟩ (by decide +kernel)
def n_Mo_feed_an : List an_T := [(18, [(0, (2, 0, 0, [150])), (1, (0, -2147483648, 2147483647, [])), (2, (0, -2147483648, 2147483647, [])), (3, (0, -2147483648, 2147483647, [])), (4, (0, -2147483648, 2147483647, [])), (5, (0, -2147483648, 2147483647, [])), (6, (0, 0, 20, []))], [], (0, 0), [(0, 0, 99982), (1, 6, 20), (0, 0, 100000)], [(6, 7, -1000000000000, 0), (7, 6, -1000000000000, 1980)], [((0, 0), (0, 0, 2000, []))], [], 0, [], []), (71, [(0, (2, 0, 0, [150])), (1, (0, -2147483648, 2147483647, [])), (2, (0, -2147483648, 2147483647, [])), (3, (0, -2147483648, 2147483647, [])), (4, (0, -2147483648, 2147483647, [])), (5, (0, -2147483648, 2147483647, [])), (6, (0, 0, 19, []))], [(0, -2147483648, 2147483647, [])], (0, 0), [(0, 0, 99982), (1, 6, 20), (0, 0, 99929)], [(1, 7, -1000000000000, 4294967295), (6, 8, -1000000000000, 0), (7, 1, -1000000000000, 4294967295), (8, 6, -1000000000000, 1980)], [((0, 0), (0, 0, 1999, []))], [], 0, [], [])]
def t_Mo_feed_ct : ct_L := []
set_option maxRecDepth 100000 in
theorem c_Mo_feed {l : Launch} {D : va_G} {kA : Nat → ClassId} : ct_ok l D kA GG y_Mo_feed z_Mo_feed e_Mo_feed := chk_all_ok (FT := [(9, 13, 1), (383, 13, 0)]) (PT := [(383, 13, 0, .int)]) (CT := t_Mo_feed_ct) (KT := []) (NT := []) (AN := n_Mo_feed_an) (OT := []) 3 244 (List.forall_mem_nil _) (by decide +kernel) ⟨List.forall_mem_cons.mpr ⟨gf_Mo_9, List.forall_mem_cons.mpr ⟨gf_Mo_383, List.forall_mem_nil _⟩⟩, List.forall_mem_cons.mpr ⟨pf_Mo_383, List.forall_mem_nil _⟩, List.forall_mem_nil _, List.forall_mem_nil _, List.forall_mem_nil _, GG_pl⟩ (by decide +kernel)
def n_Mo_fitsFace_an : List an_T := []
def t_Mo_fitsFace_ct : ct_L := []
set_option maxRecDepth 100000 in
theorem c_Mo_fitsFace {l : Launch} {D : va_G} {kA : Nat → ClassId} : ct_ok l D kA GG y_Mo_fitsFace z_Mo_fitsFace e_Mo_fitsFace := chk_all_ok (FT := [(96, 13, 50), (99, 13, 51)]) (PT := []) (CT := t_Mo_fitsFace_ct) (KT := []) (NT := []) (AN := n_Mo_fitsFace_an) (OT := []) 0 200 (List.forall_mem_nil _) (by decide +kernel) ⟨List.forall_mem_cons.mpr ⟨gf_Mo_96, List.forall_mem_cons.mpr ⟨gf_Mo_99, List.forall_mem_nil _⟩⟩, List.forall_mem_nil _, List.forall_mem_nil _, List.forall_mem_nil _, List.forall_mem_nil _, GG_pl⟩ (by decide +kernel)
def o_Mo_flood_0 : or_T := (34, 6, [(0, (2, 0, 0, [150])), (5, (0, 1, 1, []))], [], [], [(0, 0, 53, [])], [(20, [6, 0, 5], [1, 38, 26, 52, -2])], [], [])
theorem oo_Mo_flood_0 {kA : Nat → ClassId} : or_ok kA GG o_Mo_flood_0 := by
  intro A ta ws vs hD hth hl hk hds hf
  have hl : vs.length = 6 := hl
  have hk : ∀ q ∈ ([(0, (2, 0, 0, [150])), (5, (0, 1, 1, []))] : List (Nat × tv_T)), tv_ok ta q.2 (n_v vs q.1) := hk
  obtain ⟨t0, hk⟩ := List.forall_mem_cons.mp hk
  have t0 : tv_ok ta (2, 0, 0, [150]) (n_v vs 0) := t0
  have r0 : ta (v_ad (n_v vs 0)) = some 150 := tv_rg t0
  obtain ⟨t5, hk⟩ := List.forall_mem_cons.mp hk
  have t5 : tv_ok ta (0, 1, 1, []) (n_v vs 5) := t5
  have k5 : 1 ≤ v_iv (n_v vs 5) ∧ v_iv (n_v vs 5) ≤ 1 := tv_rng t5
  have ra : ta (w_ar ws (n_v vs 0) 38) = some 170 := tv_rg (th_fd hD hth r0 (g := GG_150) rfl (k := 38) (t := (2, 0, 0, [170])) rfl rfl)
  have bs := sum_bd (ws := ws) (a := w_ar ws (n_v vs 0) 38) (lo := 0) (hi := 1) (n := 26) (fun j hj => th_el hD hth ra (kd := 2) (n := 26) (m := 26) (rs := []) (L := []) rfl (by decide) (by omega))
  obtain ⟨x, ex, hx⟩ := iv_ex (ta := ta) (lo := 0) (hi := 53) (z := 52 + (-2) * w_sum ws (w_ar ws (n_v vs 0) 38) 26 + v_iv (n_v vs 5)) (by omega) (by omega) (by omega) (by omega)
  have ex2 : v_iv (Value.int x) = 52 + (-2) * w_sum ws (w_ar ws (n_v vs 0) 38) 26 + v_iv (n_v vs 5) := ex
  have ex3 : 0 ≤ v_iv (Value.int x) ∧ v_iv (Value.int x) ≤ 53 := tv_rng hx
  have e_0 : n_v (vs ++ [Value.int x]) 0 = n_v vs 0 := n_v_old (by rw [hl]; decide)
  have e_5 : n_v (vs ++ [Value.int x]) 5 = n_v vs 5 := n_v_old (by rw [hl]; decide)
  have e_6 : n_v (vs ++ [Value.int x]) 6 = Value.int x := n_v_new hl
  have nf0 : fc_1 (20, [6, 0, 5], [1, 38, 26, 52, -2]) ws (vs ++ [Value.int x]) := by
    refine ⟨fun n hn => ?_, ?_⟩
    · have hn : n ∈ [6, 0, 5] := hn
      rw [List.length_append, hl]
      simp only [List.mem_cons, List.not_mem_nil, or_false] at hn
      show n < 6 + 1; omega
    · show v_iv (n_v (vs ++ [Value.int x]) 6) = 52 + (-2) * w_sum ws (w_ar ws (n_v (vs ++ [Value.int x]) 0) 38) 26 + v_iv (n_v (vs ++ [Value.int x]) 5)
      rw [e_0]
      rw [e_5]
      rw [e_6]
      omega
  exact ⟨(fun _ h => (by cases h)), [Value.int x], ag_one hx, List.forall_mem_cons.mpr ⟨⟨show (20 : Nat) < 100 from by decide, nf0⟩, (fun _ h => (by cases h))⟩, (fun _ h => (by cases h))⟩
def o_Mo_flood_1 : or_T := (43, 7, [(0, (2, 0, 0, [150])), (3, (0, 1, 1, [])), (4, (0, 0, 53, [])), (5, (0, 0, 0, []))], [(20, [4, 0, 3], [1, 38, 26, 52, -2])], [], [(0, 0, 53, [])], [(20, [7, 0, 5], [2, 38, 26, 52, -2])], [(7, 4, 0, 0)], [])
theorem oo_Mo_flood_1 {kA : Nat → ClassId} : or_ok kA GG o_Mo_flood_1 := by
  intro A ta ws vs hD hth hl hk hds hf
  have hl : vs.length = 7 := hl
  have hk : ∀ q ∈ ([(0, (2, 0, 0, [150])), (3, (0, 1, 1, [])), (4, (0, 0, 53, [])), (5, (0, 0, 0, []))] : List (Nat × tv_T)), tv_ok ta q.2 (n_v vs q.1) := hk
  obtain ⟨t0, hk⟩ := List.forall_mem_cons.mp hk
  have t0 : tv_ok ta (2, 0, 0, [150]) (n_v vs 0) := t0
  have r0 : ta (v_ad (n_v vs 0)) = some 150 := tv_rg t0
  obtain ⟨t3, hk⟩ := List.forall_mem_cons.mp hk
  have t3 : tv_ok ta (0, 1, 1, []) (n_v vs 3) := t3
  have k3 : 1 ≤ v_iv (n_v vs 3) ∧ v_iv (n_v vs 3) ≤ 1 := tv_rng t3
  obtain ⟨t4, hk⟩ := List.forall_mem_cons.mp hk
  have t4 : tv_ok ta (0, 0, 53, []) (n_v vs 4) := t4
  have k4 : 0 ≤ v_iv (n_v vs 4) ∧ v_iv (n_v vs 4) ≤ 53 := tv_rng t4
  obtain ⟨t5, hk⟩ := List.forall_mem_cons.mp hk
  have t5 : tv_ok ta (0, 0, 0, []) (n_v vs 5) := t5
  have k5 : 0 ≤ v_iv (n_v vs 5) ∧ v_iv (n_v vs 5) ≤ 0 := tv_rng t5
  have hf : fc_ok [(20, [4, 0, 3], [1, 38, 26, 52, -2])] ta ws vs := hf
  obtain ⟨f0, hf⟩ := fc_un (show (20 : Nat) < 100 from by decide) hf
  have f0 : v_iv (n_v vs 4) = 52 + (-2) * w_sum ws (w_ar ws (n_v vs 0) 38) 26 + v_iv (n_v vs 3) := f0
  have key : 52 + (-2) * w_sum ws (w_ar ws (n_v vs 0) 38) 26 + v_iv (n_v vs 5) + 1 ≤ v_iv (n_v vs 4) := by omega
  obtain ⟨x, ex, hx⟩ := iv_ex (ta := ta) (lo := 0) (hi := 53) (z := v_iv (n_v vs 4)) (by omega) (by omega) (by omega) (by omega)
  have ex2 : v_iv (Value.int x) = v_iv (n_v vs 4) := ex
  have ex3 : 0 ≤ v_iv (Value.int x) ∧ v_iv (Value.int x) ≤ 53 := tv_rng hx
  have e_0 : n_v (vs ++ [Value.int x]) 0 = n_v vs 0 := n_v_old (by rw [hl]; decide)
  have e_5 : n_v (vs ++ [Value.int x]) 5 = n_v vs 5 := n_v_old (by rw [hl]; decide)
  have e_7 : n_v (vs ++ [Value.int x]) 7 = Value.int x := n_v_new hl
  have nf0 : fc_1 (20, [7, 0, 5], [2, 38, 26, 52, -2]) ws (vs ++ [Value.int x]) := by
    refine ⟨fun n hn => ?_, ?_⟩
    · have hn : n ∈ [7, 0, 5] := hn
      rw [List.length_append, hl]
      simp only [List.mem_cons, List.not_mem_nil, or_false] at hn
      show n < 7 + 1; omega
    · show 52 + (-2) * w_sum ws (w_ar ws (n_v (vs ++ [Value.int x]) 0) 38) 26 + v_iv (n_v (vs ++ [Value.int x]) 5) + 1 ≤ v_iv (n_v (vs ++ [Value.int x]) 7)
      rw [e_0]
      rw [e_5]
      rw [e_7]
      omega
  obtain ⟨x0, e0, _, _⟩ := tv_int t4 rfl
  have e1 : v_iv (n_v vs 4) = x0.toInt := by rw [e0]; rfl
  have ho : sy_ofs (vs ++ [Value.int x]) (7, 4, 0, 0) := by
    refine ⟨x, x0, by rw [List.getElem?_append_right (by rw [hl]; decide), hl]; rfl, ?_, ?_, ?_⟩
    · rw [List.getElem?_append_left (by rw [hl]; decide)]; exact n_v_some (by rw [hl]; decide) e0
    · show x0.toInt + 0 ≤ x.toInt; omega
    · show x.toInt ≤ x0.toInt + 0; omega
  exact ⟨(fun _ h => (by cases h)), [Value.int x], ag_one hx, List.forall_mem_cons.mpr ⟨⟨show (20 : Nat) < 100 from by decide, nf0⟩, (fun _ h => (by cases h))⟩, List.forall_mem_cons.mpr ⟨ho, (fun _ h => (by cases h))⟩⟩
def o_Mo_flood_2 : or_T := (34, 7, [(0, (2, 0, 0, [150])), (3, (0, 0, 1, [])), (5, (0, 0, 53, []))], [(20, [5, 0, 3], [2, 38, 26, 52, -2])], [], [(0, 0, 53, [])], [(20, [7, 0, 3], [1, 38, 26, 52, -2])], [(7, 5, -1000000000000, -1)], [])
theorem oo_Mo_flood_2 {kA : Nat → ClassId} : or_ok kA GG o_Mo_flood_2 := by
  intro A ta ws vs hD hth hl hk hds hf
  have hl : vs.length = 7 := hl
  have hk : ∀ q ∈ ([(0, (2, 0, 0, [150])), (3, (0, 0, 1, [])), (5, (0, 0, 53, []))] : List (Nat × tv_T)), tv_ok ta q.2 (n_v vs q.1) := hk
  obtain ⟨t0, hk⟩ := List.forall_mem_cons.mp hk
  have t0 : tv_ok ta (2, 0, 0, [150]) (n_v vs 0) := t0
  have r0 : ta (v_ad (n_v vs 0)) = some 150 := tv_rg t0
  obtain ⟨t3, hk⟩ := List.forall_mem_cons.mp hk
  have t3 : tv_ok ta (0, 0, 1, []) (n_v vs 3) := t3
  have k3 : 0 ≤ v_iv (n_v vs 3) ∧ v_iv (n_v vs 3) ≤ 1 := tv_rng t3
  obtain ⟨t5, hk⟩ := List.forall_mem_cons.mp hk
  have t5 : tv_ok ta (0, 0, 53, []) (n_v vs 5) := t5
  have k5 : 0 ≤ v_iv (n_v vs 5) ∧ v_iv (n_v vs 5) ≤ 53 := tv_rng t5
  have hf : fc_ok [(20, [5, 0, 3], [2, 38, 26, 52, -2])] ta ws vs := hf
  obtain ⟨f0, hf⟩ := fc_un (show (20 : Nat) < 100 from by decide) hf
  have f0 : 52 + (-2) * w_sum ws (w_ar ws (n_v vs 0) 38) 26 + v_iv (n_v vs 3) + 1 ≤ v_iv (n_v vs 5) := f0
  have ra : ta (w_ar ws (n_v vs 0) 38) = some 170 := tv_rg (th_fd hD hth r0 (g := GG_150) rfl (k := 38) (t := (2, 0, 0, [170])) rfl rfl)
  have bs := sum_bd (ws := ws) (a := w_ar ws (n_v vs 0) 38) (lo := 0) (hi := 1) (n := 26) (fun j hj => th_el hD hth ra (kd := 2) (n := 26) (m := 26) (rs := []) (L := []) rfl (by decide) (by omega))
  obtain ⟨x, ex, hx⟩ := iv_ex (ta := ta) (lo := 0) (hi := 53) (z := 52 + (-2) * w_sum ws (w_ar ws (n_v vs 0) 38) 26 + v_iv (n_v vs 3)) (by omega) (by omega) (by omega) (by omega)
  have ex2 : v_iv (Value.int x) = 52 + (-2) * w_sum ws (w_ar ws (n_v vs 0) 38) 26 + v_iv (n_v vs 3) := ex
  have ex3 : 0 ≤ v_iv (Value.int x) ∧ v_iv (Value.int x) ≤ 53 := tv_rng hx
  have e_0 : n_v (vs ++ [Value.int x]) 0 = n_v vs 0 := n_v_old (by rw [hl]; decide)
  have e_3 : n_v (vs ++ [Value.int x]) 3 = n_v vs 3 := n_v_old (by rw [hl]; decide)
  have e_7 : n_v (vs ++ [Value.int x]) 7 = Value.int x := n_v_new hl
  have nf0 : fc_1 (20, [7, 0, 3], [1, 38, 26, 52, -2]) ws (vs ++ [Value.int x]) := by
    refine ⟨fun n hn => ?_, ?_⟩
    · have hn : n ∈ [7, 0, 3] := hn
      rw [List.length_append, hl]
      simp only [List.mem_cons, List.not_mem_nil, or_false] at hn
      show n < 7 + 1; omega
    · show v_iv (n_v (vs ++ [Value.int x]) 7) = 52 + (-2) * w_sum ws (w_ar ws (n_v (vs ++ [Value.int x]) 0) 38) 26 + v_iv (n_v (vs ++ [Value.int x]) 3)
      rw [e_0]
      rw [e_3]
      rw [e_7]
      omega
  obtain ⟨x0, e0, _, _⟩ := tv_int t5 rfl
  have e1 : v_iv (n_v vs 5) = x0.toInt := by rw [e0]; rfl
  have ho : sy_ofs (vs ++ [Value.int x]) (7, 5, -1000000000000, -1) := by
    refine ⟨x, x0, by rw [List.getElem?_append_right (by rw [hl]; decide), hl]; rfl, ?_, ?_, ?_⟩
    · rw [List.getElem?_append_left (by rw [hl]; decide)]; exact n_v_some (by rw [hl]; decide) e0
    · show x0.toInt + (-1000000000000) ≤ x.toInt; omega
    · show x.toInt ≤ x0.toInt + (-1); omega
  exact ⟨(fun _ h => (by cases h)), [Value.int x], ag_one hx, List.forall_mem_cons.mpr ⟨⟨show (20 : Nat) < 100 from by decide, nf0⟩, (fun _ h => (by cases h))⟩, List.forall_mem_cons.mpr ⟨ho, (fun _ h => (by cases h))⟩⟩
def o_Mo_flood_3 : or_T := (43, 24, [(0, (2, 0, 0, [150])), (3, (0, 0, 1, [])), (4, (0, 0, 79, [])), (5, (0, 0, 53, [])), (9, (2, 0, 0, [165])), (11, (2, 0, 0, [166])), (13, (2, 0, 0, [170])), (14, (0, 0, 24, [])), (15, (0, 0, 1, [])), (16, (0, 0, 24, [])), (17, (0, 0, 1, [])), (18, (0, 0, 24, [])), (19, (0, 1, 1, [])), (20, (0, 0, 24, [])), (21, (0, 1, 1, [])), (22, (0, 1, 1, []))], [(100, [13, 20, 21], []), (10, [20, 11, 4], []), (9, [11, 0], [34]), (9, [13, 0], [38]), (100, [13, 18, 19], []), (10, [18, 9, 4], []), (9, [9, 0], [33]), (9, [13, 0], [38]), (7, [15, 17], [1]), (10, [17, 13, 16], []), (10, [16, 11, 4], []), (9, [11, 0], [34]), (9, [13, 0], [38]), (10, [15, 13, 14], []), (10, [14, 9, 4], []), (9, [9, 0], [33]), (9, [13, 0], [38]), (9, [11, 0], [34]), (9, [9, 0], [33]), (20, [5, 0, 3], [2, 38, 26, 52, -2])], [], [], [(20, [5, 0, 22], [2, 38, 26, 52, -2])], [], [])
theorem oo_Mo_flood_3 {kA : Nat → ClassId} : or_ok kA GG o_Mo_flood_3 := by
  intro A ta ws vs hD hth hl hk hds hf
  have hl : vs.length = 24 := hl
  have hk : ∀ q ∈ ([(0, (2, 0, 0, [150])), (3, (0, 0, 1, [])), (4, (0, 0, 79, [])), (5, (0, 0, 53, [])), (9, (2, 0, 0, [165])), (11, (2, 0, 0, [166])), (13, (2, 0, 0, [170])), (14, (0, 0, 24, [])), (15, (0, 0, 1, [])), (16, (0, 0, 24, [])), (17, (0, 0, 1, [])), (18, (0, 0, 24, [])), (19, (0, 1, 1, [])), (20, (0, 0, 24, [])), (21, (0, 1, 1, [])), (22, (0, 1, 1, []))] : List (Nat × tv_T)), tv_ok ta q.2 (n_v vs q.1) := hk
  obtain ⟨t0, hk⟩ := List.forall_mem_cons.mp hk
  have t0 : tv_ok ta (2, 0, 0, [150]) (n_v vs 0) := t0
  have r0 : ta (v_ad (n_v vs 0)) = some 150 := tv_rg t0
  obtain ⟨t3, hk⟩ := List.forall_mem_cons.mp hk
  have t3 : tv_ok ta (0, 0, 1, []) (n_v vs 3) := t3
  have k3 : 0 ≤ v_iv (n_v vs 3) ∧ v_iv (n_v vs 3) ≤ 1 := tv_rng t3
  obtain ⟨t4, hk⟩ := List.forall_mem_cons.mp hk
  have t4 : tv_ok ta (0, 0, 79, []) (n_v vs 4) := t4
  have k4 : 0 ≤ v_iv (n_v vs 4) ∧ v_iv (n_v vs 4) ≤ 79 := tv_rng t4
  obtain ⟨t5, hk⟩ := List.forall_mem_cons.mp hk
  have t5 : tv_ok ta (0, 0, 53, []) (n_v vs 5) := t5
  have k5 : 0 ≤ v_iv (n_v vs 5) ∧ v_iv (n_v vs 5) ≤ 53 := tv_rng t5
  obtain ⟨t9, hk⟩ := List.forall_mem_cons.mp hk
  have t9 : tv_ok ta (2, 0, 0, [165]) (n_v vs 9) := t9
  have r9 : ta (v_ad (n_v vs 9)) = some 165 := tv_rg t9
  obtain ⟨t11, hk⟩ := List.forall_mem_cons.mp hk
  have t11 : tv_ok ta (2, 0, 0, [166]) (n_v vs 11) := t11
  have r11 : ta (v_ad (n_v vs 11)) = some 166 := tv_rg t11
  obtain ⟨t13, hk⟩ := List.forall_mem_cons.mp hk
  have t13 : tv_ok ta (2, 0, 0, [170]) (n_v vs 13) := t13
  have r13 : ta (v_ad (n_v vs 13)) = some 170 := tv_rg t13
  obtain ⟨t14, hk⟩ := List.forall_mem_cons.mp hk
  have t14 : tv_ok ta (0, 0, 24, []) (n_v vs 14) := t14
  have k14 : 0 ≤ v_iv (n_v vs 14) ∧ v_iv (n_v vs 14) ≤ 24 := tv_rng t14
  obtain ⟨t15, hk⟩ := List.forall_mem_cons.mp hk
  have t15 : tv_ok ta (0, 0, 1, []) (n_v vs 15) := t15
  have k15 : 0 ≤ v_iv (n_v vs 15) ∧ v_iv (n_v vs 15) ≤ 1 := tv_rng t15
  obtain ⟨t16, hk⟩ := List.forall_mem_cons.mp hk
  have t16 : tv_ok ta (0, 0, 24, []) (n_v vs 16) := t16
  have k16 : 0 ≤ v_iv (n_v vs 16) ∧ v_iv (n_v vs 16) ≤ 24 := tv_rng t16
  obtain ⟨t17, hk⟩ := List.forall_mem_cons.mp hk
  have t17 : tv_ok ta (0, 0, 1, []) (n_v vs 17) := t17
  have k17 : 0 ≤ v_iv (n_v vs 17) ∧ v_iv (n_v vs 17) ≤ 1 := tv_rng t17
  obtain ⟨t18, hk⟩ := List.forall_mem_cons.mp hk
  have t18 : tv_ok ta (0, 0, 24, []) (n_v vs 18) := t18
  have k18 : 0 ≤ v_iv (n_v vs 18) ∧ v_iv (n_v vs 18) ≤ 24 := tv_rng t18
  obtain ⟨t19, hk⟩ := List.forall_mem_cons.mp hk
  have t19 : tv_ok ta (0, 1, 1, []) (n_v vs 19) := t19
  have k19 : 1 ≤ v_iv (n_v vs 19) ∧ v_iv (n_v vs 19) ≤ 1 := tv_rng t19
  obtain ⟨t20, hk⟩ := List.forall_mem_cons.mp hk
  have t20 : tv_ok ta (0, 0, 24, []) (n_v vs 20) := t20
  have k20 : 0 ≤ v_iv (n_v vs 20) ∧ v_iv (n_v vs 20) ≤ 24 := tv_rng t20
  obtain ⟨t21, hk⟩ := List.forall_mem_cons.mp hk
  have t21 : tv_ok ta (0, 1, 1, []) (n_v vs 21) := t21
  have k21 : 1 ≤ v_iv (n_v vs 21) ∧ v_iv (n_v vs 21) ≤ 1 := tv_rng t21
  obtain ⟨t22, hk⟩ := List.forall_mem_cons.mp hk
  have t22 : tv_ok ta (0, 1, 1, []) (n_v vs 22) := t22
  have k22 : 1 ≤ v_iv (n_v vs 22) ∧ v_iv (n_v vs 22) ≤ 1 := tv_rng t22
  have hf : fc_ok [(100, [13, 20, 21], []), (10, [20, 11, 4], []), (9, [11, 0], [34]), (9, [13, 0], [38]), (100, [13, 18, 19], []), (10, [18, 9, 4], []), (9, [9, 0], [33]), (9, [13, 0], [38]), (7, [15, 17], [1]), (10, [17, 13, 16], []), (10, [16, 11, 4], []), (9, [11, 0], [34]), (9, [13, 0], [38]), (10, [15, 13, 14], []), (10, [14, 9, 4], []), (9, [9, 0], [33]), (9, [13, 0], [38]), (9, [11, 0], [34]), (9, [9, 0], [33]), (20, [5, 0, 3], [2, 38, 26, 52, -2])] ta ws vs := hf
  obtain ⟨ta1, w1, le1, ⟨_, s1⟩, hf⟩ := fc_us (show ¬ (100 : Nat) < 100 from by decide) hf
  have s1 : (∀ b j, w_el ws b j = if b = v_ad (n_v vs 13) ∧ j = (v_iv (n_v vs 20)).toNat then v_iv (n_v vs 21) else w_el w1 b j) ∧ ∀ b k, w_fd ws b k = w_fd w1 b k := s1
  obtain ⟨f1, hf⟩ := fc_un (show (10 : Nat) < 100 from by decide) hf
  have f1 : v_iv (n_v vs 20) = w_el w1 (v_ad (n_v vs 11)) (v_iv (n_v vs 4)).toNat := f1
  obtain ⟨f2, hf⟩ := fc_un (show (9 : Nat) < 100 from by decide) hf
  have f2 : n_v vs 11 = w_fd w1 (v_ad (n_v vs 0)) 34 := f2
  obtain ⟨f3, hf⟩ := fc_un (show (9 : Nat) < 100 from by decide) hf
  have f3 : n_v vs 13 = w_fd w1 (v_ad (n_v vs 0)) 38 := f3
  obtain ⟨ta2, w2, le2, ⟨_, s2⟩, hf⟩ := fc_us (show ¬ (100 : Nat) < 100 from by decide) hf
  have s2 : (∀ b j, w_el w1 b j = if b = v_ad (n_v vs 13) ∧ j = (v_iv (n_v vs 18)).toNat then v_iv (n_v vs 19) else w_el w2 b j) ∧ ∀ b k, w_fd w1 b k = w_fd w2 b k := s2
  obtain ⟨f5, hf⟩ := fc_un (show (10 : Nat) < 100 from by decide) hf
  have f5 : v_iv (n_v vs 18) = w_el w2 (v_ad (n_v vs 9)) (v_iv (n_v vs 4)).toNat := f5
  obtain ⟨f6, hf⟩ := fc_un (show (9 : Nat) < 100 from by decide) hf
  have f6 : n_v vs 9 = w_fd w2 (v_ad (n_v vs 0)) 33 := f6
  obtain ⟨f7, hf⟩ := fc_un (show (9 : Nat) < 100 from by decide) hf
  have f7 : n_v vs 13 = w_fd w2 (v_ad (n_v vs 0)) 38 := f7
  obtain ⟨f8, hf⟩ := fc_un (show (7 : Nat) < 100 from by decide) hf
  have f8 : v_iv (n_v vs 15) ≠ v_iv (n_v vs 17) := f8
  obtain ⟨f9, hf⟩ := fc_un (show (10 : Nat) < 100 from by decide) hf
  have f9 : v_iv (n_v vs 17) = w_el w2 (v_ad (n_v vs 13)) (v_iv (n_v vs 16)).toNat := f9
  obtain ⟨f10, hf⟩ := fc_un (show (10 : Nat) < 100 from by decide) hf
  have f10 : v_iv (n_v vs 16) = w_el w2 (v_ad (n_v vs 11)) (v_iv (n_v vs 4)).toNat := f10
  obtain ⟨f11, hf⟩ := fc_un (show (9 : Nat) < 100 from by decide) hf
  have f11 : n_v vs 11 = w_fd w2 (v_ad (n_v vs 0)) 34 := f11
  obtain ⟨f12, hf⟩ := fc_un (show (9 : Nat) < 100 from by decide) hf
  have f12 : n_v vs 13 = w_fd w2 (v_ad (n_v vs 0)) 38 := f12
  obtain ⟨f13, hf⟩ := fc_un (show (10 : Nat) < 100 from by decide) hf
  have f13 : v_iv (n_v vs 15) = w_el w2 (v_ad (n_v vs 13)) (v_iv (n_v vs 14)).toNat := f13
  obtain ⟨f14, hf⟩ := fc_un (show (10 : Nat) < 100 from by decide) hf
  have f14 : v_iv (n_v vs 14) = w_el w2 (v_ad (n_v vs 9)) (v_iv (n_v vs 4)).toNat := f14
  obtain ⟨f15, hf⟩ := fc_un (show (9 : Nat) < 100 from by decide) hf
  have f15 : n_v vs 9 = w_fd w2 (v_ad (n_v vs 0)) 33 := f15
  obtain ⟨f16, hf⟩ := fc_un (show (9 : Nat) < 100 from by decide) hf
  have f16 : n_v vs 13 = w_fd w2 (v_ad (n_v vs 0)) 38 := f16
  obtain ⟨f17, hf⟩ := fc_un (show (9 : Nat) < 100 from by decide) hf
  have f17 : n_v vs 11 = w_fd w2 (v_ad (n_v vs 0)) 34 := f17
  obtain ⟨f18, hf⟩ := fc_un (show (9 : Nat) < 100 from by decide) hf
  have f18 : n_v vs 9 = w_fd w2 (v_ad (n_v vs 0)) 33 := f18
  obtain ⟨f19, hf⟩ := fc_un (show (20 : Nat) < 100 from by decide) hf
  have f19 : 52 + (-2) * w_sum w2 (w_ar w2 (n_v vs 0) 38) 26 + v_iv (n_v vs 3) + 1 ≤ v_iv (n_v vs 5) := f19
  have a11 : v_ad (n_v vs 11) = w_ar ws (n_v vs 0) 34 := by rw [f2]; show _ = v_ad (w_fd ws _ _); rw [s1.2]
  have a13 : v_ad (n_v vs 13) = w_ar ws (n_v vs 0) 38 := by rw [f3]; show _ = v_ad (w_fd ws _ _); rw [s1.2]
  have a9 : v_ad (n_v vs 9) = w_ar ws (n_v vs 0) 33 := by rw [f6]; show _ = v_ad (w_fd ws _ _); rw [s1.2, s2.2]
  rw [a13] at s1
  rw [a11] at f1
  rw [a13] at s2
  rw [a9] at f5
  rw [a13] at f9
  rw [a11] at f10
  rw [a13] at f13
  rw [a9] at f14
  have c34 := r11; rw [a11] at c34
  have c38 := r13; rw [a13] at c38
  have c33 := r9; rw [a9] at c33
  have ne_33_34 : w_ar ws (n_v vs 0) 33 ≠ w_ar ws (n_v vs 0) 34 := fun e => by rw [e, c34] at c33; exact absurd (Option.some.inj c33) (by decide)
  have ne_33_38 : w_ar ws (n_v vs 0) 33 ≠ w_ar ws (n_v vs 0) 38 := fun e => by rw [e, c38] at c33; exact absurd (Option.some.inj c33) (by decide)
  have ne_34_33 : w_ar ws (n_v vs 0) 34 ≠ w_ar ws (n_v vs 0) 33 := fun e => by rw [e, c33] at c34; exact absurd (Option.some.inj c34) (by decide)
  have ne_34_38 : w_ar ws (n_v vs 0) 34 ≠ w_ar ws (n_v vs 0) 38 := fun e => by rw [e, c38] at c34; exact absurd (Option.some.inj c34) (by decide)
  have ne_38_33 : w_ar ws (n_v vs 0) 38 ≠ w_ar ws (n_v vs 0) 33 := fun e => by rw [e, c33] at c38; exact absurd (Option.some.inj c38) (by decide)
  have ne_38_34 : w_ar ws (n_v vs 0) 38 ≠ w_ar ws (n_v vs 0) 34 := fun e => by rw [e, c34] at c38; exact absurd (Option.some.inj c38) (by decide)
  have ex : v_iv (n_v vs 18) = v_iv (n_v vs 14) := by rw [f5, f14]
  have ey : v_iv (n_v vs 20) = v_iv (n_v vs 16) := by rw [f1, el_ne s2.1 (Or.inl ne_34_38), ← f10]
  have hne : (v_iv (n_v vs 14)).toNat ≠ (v_iv (n_v vs 16)).toNat := fun e => f8 (by rw [f13, f9, e])
  have g1 := sum_set s1.1 (n := 26) (by omega)
  have g2 := sum_set s2.1 (n := 26) (by omega)
  rw [el_ne s2.1 (Or.inr (by rw [ex, ey]; exact fun e => hne e.symm)), ey, ← f9] at g1
  rw [ex, ← f13] at g2
  have t2 : w_ar w2 (n_v vs 0) 38 = w_ar ws (n_v vs 0) 38 := by show v_ad (w_fd w2 _ _) = v_ad (w_fd ws _ _); rw [s1.2, s2.2]
  rw [t2] at f19
  have key : 52 + (-2) * w_sum ws (w_ar ws (n_v vs 0) 38) 26 + v_iv (n_v vs 22) + 1 ≤ v_iv (n_v vs 5) := by omega
  have nf0 : fc_1 (20, [5, 0, 22], [2, 38, 26, 52, -2]) ws (vs) := by
    refine ⟨fun n hn => ?_, ?_⟩
    · have hn : n ∈ [5, 0, 22] := hn
      rw [hl]
      simp only [List.mem_cons, List.not_mem_nil, or_false] at hn
      show n < 24; omega
    · show 52 + (-2) * w_sum ws (w_ar ws (n_v vs 0) 38) 26 + v_iv (n_v vs 22) + 1 ≤ v_iv (n_v vs 5)
      exact key
  refine ⟨(fun _ h => (by cases h)), [], trivial, ?_, (fun _ h => (by cases h))⟩
  rw [List.append_nil]
  exact List.forall_mem_cons.mpr ⟨⟨show (20 : Nat) < 100 from by decide, nf0⟩, (fun _ h => (by cases h))⟩
def n_Mo_flood_an : List an_T := [(2, [(0, (2, 0, 0, [150])), (1, (0, 0, 24, [])), (2, (0, -1, 24, [])), (3, (0, 0, 25, []))], [], (0, 0), [(0, 0, 99998), (1, 3, 25), (0, 0, 100000), (0, 0, 0), (0, 0, 0)], [(1, 2, -1000000000000, 25), (1, 3, -1000000000000, 24), (2, 1, -1000000000000, 24), (2, 3, -1000000000000, 24)], [], [], 0, [], []), (34, [(0, (2, 0, 0, [150])), (1, (0, 0, 24, [])), (2, (0, -1, 24, [])), (3, (0, 0, 1, []))], [], (0, 0), [(0, 0, 99966), (2, 4, 0), (0, 0, 100000), (0, 0, 0), (0, 0, 0)], [(1, 2, -1000000000000, 25), (1, 3, -1000000000000, 24), (2, 1, -1000000000000, 24), (2, 3, -1000000000000, 24), (3, 1, -1000000000000, 1), (3, 2, -1000000000000, 2)], [], [], 0, [(0, 0, 53, [])], [(20, [4, 0, 3], [1, 38, 26, 52, -2])]), (43, [(0, (2, 0, 0, [150])), (1, (0, 0, 24, [])), (2, (0, -1, 24, [])), (3, (0, 0, 1, [])), (4, (0, 0, 80, []))], [], (0, 0), [(0, 0, 99966), (2, 5, 0), (0, 0, 99957), (1, 4, 80), (0, 0, 100000)], [(1, 2, -1000000000000, 25), (1, 3, -1000000000000, 24), (1, 4, -1000000000000, 24), (2, 1, -1000000000000, 24), (2, 3, -1000000000000, 24), (2, 4, -1000000000000, 24), (3, 1, -1000000000000, 1), (3, 2, -1000000000000, 2), (3, 4, -1000000000000, 0)], [], [], 0, [(0, 0, 53, [])], [(20, [5, 0, 3], [2, 38, 26, 52, -2])])]
def t_Mo_flood_ct : ct_L := []
set_option maxRecDepth 100000 in
theorem c_Mo_flood {l : Launch} {D : va_G} {kA : Nat → ClassId} : ct_ok l D kA GG y_Mo_flood z_Mo_flood e_Mo_flood := chk_all_ok (FT := [(57, 13, 33), (60, 13, 34), (63, 13, 35), (72, 13, 38), (594, 13, 31), (597, 13, 32)]) (PT := []) (CT := t_Mo_flood_ct) (KT := []) (NT := []) (AN := n_Mo_flood_an) (OT := [o_Mo_flood_0, o_Mo_flood_1, o_Mo_flood_2, o_Mo_flood_3]) 5 384 (List.forall_mem_cons.mpr ⟨oo_Mo_flood_0, List.forall_mem_cons.mpr ⟨oo_Mo_flood_1, List.forall_mem_cons.mpr ⟨oo_Mo_flood_2, List.forall_mem_cons.mpr ⟨oo_Mo_flood_3, List.forall_mem_nil _⟩⟩⟩⟩) (by decide +kernel) ⟨List.forall_mem_cons.mpr ⟨gf_Mo_57, List.forall_mem_cons.mpr ⟨gf_Mo_60, List.forall_mem_cons.mpr ⟨gf_Mo_63, List.forall_mem_cons.mpr ⟨gf_Mo_72, List.forall_mem_cons.mpr ⟨gf_Mo_594, List.forall_mem_cons.mpr ⟨gf_Mo_597, List.forall_mem_nil _⟩⟩⟩⟩⟩⟩, List.forall_mem_nil _, List.forall_mem_nil _, List.forall_mem_nil _, List.forall_mem_nil _, GG_pl⟩ (by decide +kernel)
def n_Mo_fromOf_an : List an_T := []
def t_Mo_fromOf_ct : ct_L := []
set_option maxRecDepth 100000 in
theorem c_Mo_fromOf {l : Launch} {D : va_G} {kA : Nat → ClassId} : ct_ok l D kA GG y_Mo_fromOf z_Mo_fromOf e_Mo_fromOf := chk_all_ok (FT := [(57, 13, 33), (60, 13, 34)]) (PT := []) (CT := t_Mo_fromOf_ct) (KT := []) (NT := []) (AN := n_Mo_fromOf_an) (OT := []) 0 200 (List.forall_mem_nil _) (by decide +kernel) ⟨List.forall_mem_cons.mpr ⟨gf_Mo_57, List.forall_mem_cons.mpr ⟨gf_Mo_60, List.forall_mem_nil _⟩⟩, List.forall_mem_nil _, List.forall_mem_nil _, List.forall_mem_nil _, List.forall_mem_nil _, GG_pl⟩ (by decide +kernel)
def o_Mo_gatherOne_0 : or_T := (4, 5, [(0, (2, 0, 0, [150])), (3, (0, 0, 39, [])), (4, (0, 0, 40, []))], [(9, [4, 0], [132]), (20, [0, 3], [30, 0, 1, 1, 132, -1, 0, 0])], [(4, (0, 0, 39, []))], [], [], [], [])
theorem oo_Mo_gatherOne_0 {kA : Nat → ClassId} : or_ok kA GG o_Mo_gatherOne_0 := by
  intro A ta ws vs hD hth hl hk hds hf
  have hl : vs.length = 5 := hl
  have hk : ∀ q ∈ ([(0, (2, 0, 0, [150])), (3, (0, 0, 39, [])), (4, (0, 0, 40, []))] : List (Nat × tv_T)), tv_ok ta q.2 (n_v vs q.1) := hk
  obtain ⟨t0, hk⟩ := List.forall_mem_cons.mp hk
  have t0 : tv_ok ta (2, 0, 0, [150]) (n_v vs 0) := t0
  have r0 : ta (v_ad (n_v vs 0)) = some 150 := tv_rg t0
  obtain ⟨t3, hk⟩ := List.forall_mem_cons.mp hk
  have t3 : tv_ok ta (0, 0, 39, []) (n_v vs 3) := t3
  have k3 : 0 ≤ v_iv (n_v vs 3) ∧ v_iv (n_v vs 3) ≤ 39 := tv_rng t3
  obtain ⟨t4, hk⟩ := List.forall_mem_cons.mp hk
  have t4 : tv_ok ta (0, 0, 40, []) (n_v vs 4) := t4
  have k4 : 0 ≤ v_iv (n_v vs 4) ∧ v_iv (n_v vs 4) ≤ 40 := tv_rng t4
  have hf : fc_ok [(9, [4, 0], [132]), (20, [0, 3], [30, 0, 1, 1, 132, -1, 0, 0])] ta ws vs := hf
  obtain ⟨f0, hf⟩ := fc_un (show (9 : Nat) < 100 from by decide) hf
  have f0 : n_v vs 4 = w_fd ws (v_ad (n_v vs 0)) 132 := f0
  obtain ⟨f1, hf⟩ := fc_un (show (20 : Nat) < 100 from by decide) hf
  have f1 : 1 * w_fi ws (n_v vs 0) 132 + ((-1) * v_iv (n_v vs 3) + 0) ≤ 0 := f1
  have g0 : v_iv (n_v vs 4) = w_fi ws (n_v vs 0) 132 := congrArg v_iv f0
  have kz_0_132 : 0 ≤ w_fi ws (n_v vs 0) 132 ∧ w_fi ws (n_v vs 0) 132 ≤ 40 := tv_rng (th_fd hD hth r0 (g := GG_150) rfl (k := 132) (t := (0, 0, 40, [])) rfl rfl)
  have rf4 : tv_ok ta (0, 0, 39, []) (n_v vs 4) := tv_in t4 (by omega) (by omega)
  refine ⟨List.forall_mem_cons.mpr ⟨rf4, (fun _ h => (by cases h))⟩, [], trivial, ?_, (fun _ h => (by cases h))⟩
  rw [List.append_nil]
  exact (fun _ h => (by cases h))
def o_Mo_gatherOne_1 : or_T := (5, 5, [(0, (2, 0, 0, [150])), (3, (0, 0, 39, [])), (4, (0, 0, 39, []))], [(9, [4, 0], [132]), (20, [0, 3], [30, 0, 1, 1, 132, -1, 0, 0])], [], [], [(24, [0, 0], [])], [], [])
theorem oo_Mo_gatherOne_1 {kA : Nat → ClassId} : or_ok kA GG o_Mo_gatherOne_1 := by
  intro A ta ws vs hD hth hl hk hds hf
  have hl : vs.length = 5 := hl
  have hk : ∀ q ∈ ([(0, (2, 0, 0, [150])), (3, (0, 0, 39, [])), (4, (0, 0, 39, []))] : List (Nat × tv_T)), tv_ok ta q.2 (n_v vs q.1) := hk
  obtain ⟨t0, hk⟩ := List.forall_mem_cons.mp hk
  have t0 : tv_ok ta (2, 0, 0, [150]) (n_v vs 0) := t0
  have r0 : ta (v_ad (n_v vs 0)) = some 150 := tv_rg t0
  obtain ⟨t3, hk⟩ := List.forall_mem_cons.mp hk
  have t3 : tv_ok ta (0, 0, 39, []) (n_v vs 3) := t3
  have k3 : 0 ≤ v_iv (n_v vs 3) ∧ v_iv (n_v vs 3) ≤ 39 := tv_rng t3
  obtain ⟨t4, hk⟩ := List.forall_mem_cons.mp hk
  have t4 : tv_ok ta (0, 0, 39, []) (n_v vs 4) := t4
  have k4 : 0 ≤ v_iv (n_v vs 4) ∧ v_iv (n_v vs 4) ≤ 39 := tv_rng t4
  have hf : fc_ok [(9, [4, 0], [132]), (20, [0, 3], [30, 0, 1, 1, 132, -1, 0, 0])] ta ws vs := hf
  obtain ⟨f0, hf⟩ := fc_un (show (9 : Nat) < 100 from by decide) hf
  have f0 : n_v vs 4 = w_fd ws (v_ad (n_v vs 0)) 132 := f0
  obtain ⟨f1, hf⟩ := fc_un (show (20 : Nat) < 100 from by decide) hf
  have f1 : 1 * w_fi ws (n_v vs 0) 132 + ((-1) * v_iv (n_v vs 3) + 0) ≤ 0 := f1
  have g0 : v_iv (n_v vs 4) = w_fi ws (n_v vs 0) 132 := congrArg v_iv f0
  have kz_0_132 : 0 ≤ w_fi ws (n_v vs 0) 132 ∧ w_fi ws (n_v vs 0) 132 ≤ 40 := tv_rng (th_fd hD hth r0 (g := GG_150) rfl (k := 132) (t := (0, 0, 40, [])) rfl rfl)
  have nf0 : fc_1 (24, [0, 0], []) ws (vs) := by
    refine ⟨fun n hn => ?_, ?_⟩
    · have hn : n ∈ [0, 0] := hn
      rw [hl]
      simp only [List.mem_cons, List.not_mem_nil, or_false] at hn
      show n < 5; omega
    · show n_v vs 0 = n_v vs 0
      first | rfl | simp only [true_and]
  refine ⟨(fun _ h => (by cases h)), [], trivial, ?_, (fun _ h => (by cases h))⟩
  rw [List.append_nil]
  exact List.forall_mem_cons.mpr ⟨⟨show (24 : Nat) < 100 from by decide, nf0⟩, (fun _ h => (by cases h))⟩
def o_Mo_gatherOne_2 : or_T := (74, 11, [(0, (2, 0, 0, [150])), (3, (0, 0, 39, [])), (4, (2, 0, 0, [150])), (8, (2, 0, 0, [245])), (9, (2, 0, 0, [246])), (10, (0, 0, 40, []))], [(9, [10, 4], [132]), (20, [4, 3], [30, 0, 1, 1, 132, -1, 0, 0]), (24, [0, 4], []), (100, [9, 7, 6], []), (9, [9, 4], [131]), (20, [4, 3], [30, 0, 1, 1, 132, -1, 0, 0]), (100, [8, 7, 5], []), (9, [8, 4], [130]), (20, [4, 3], [30, 0, 1, 1, 132, -1, 0, 0])], [(10, (0, 0, 39, []))], [], [], [], [])
theorem oo_Mo_gatherOne_2 {kA : Nat → ClassId} : or_ok kA GG o_Mo_gatherOne_2 := by
  intro A ta ws vs hD hth hl hk hds hf
  have hl : vs.length = 11 := hl
  have hk : ∀ q ∈ ([(0, (2, 0, 0, [150])), (3, (0, 0, 39, [])), (4, (2, 0, 0, [150])), (8, (2, 0, 0, [245])), (9, (2, 0, 0, [246])), (10, (0, 0, 40, []))] : List (Nat × tv_T)), tv_ok ta q.2 (n_v vs q.1) := hk
  obtain ⟨t0, hk⟩ := List.forall_mem_cons.mp hk
  have t0 : tv_ok ta (2, 0, 0, [150]) (n_v vs 0) := t0
  have r0 : ta (v_ad (n_v vs 0)) = some 150 := tv_rg t0
  obtain ⟨t3, hk⟩ := List.forall_mem_cons.mp hk
  have t3 : tv_ok ta (0, 0, 39, []) (n_v vs 3) := t3
  have k3 : 0 ≤ v_iv (n_v vs 3) ∧ v_iv (n_v vs 3) ≤ 39 := tv_rng t3
  obtain ⟨t4, hk⟩ := List.forall_mem_cons.mp hk
  have t4 : tv_ok ta (2, 0, 0, [150]) (n_v vs 4) := t4
  have r4 : ta (v_ad (n_v vs 4)) = some 150 := tv_rg t4
  obtain ⟨t8, hk⟩ := List.forall_mem_cons.mp hk
  have t8 : tv_ok ta (2, 0, 0, [245]) (n_v vs 8) := t8
  have r8 : ta (v_ad (n_v vs 8)) = some 245 := tv_rg t8
  obtain ⟨t9, hk⟩ := List.forall_mem_cons.mp hk
  have t9 : tv_ok ta (2, 0, 0, [246]) (n_v vs 9) := t9
  have r9 : ta (v_ad (n_v vs 9)) = some 246 := tv_rg t9
  obtain ⟨t10, hk⟩ := List.forall_mem_cons.mp hk
  have t10 : tv_ok ta (0, 0, 40, []) (n_v vs 10) := t10
  have k10 : 0 ≤ v_iv (n_v vs 10) ∧ v_iv (n_v vs 10) ≤ 40 := tv_rng t10
  have hf : fc_ok [(9, [10, 4], [132]), (20, [4, 3], [30, 0, 1, 1, 132, -1, 0, 0]), (24, [0, 4], []), (100, [9, 7, 6], []), (9, [9, 4], [131]), (20, [4, 3], [30, 0, 1, 1, 132, -1, 0, 0]), (100, [8, 7, 5], []), (9, [8, 4], [130]), (20, [4, 3], [30, 0, 1, 1, 132, -1, 0, 0])] ta ws vs := hf
  obtain ⟨f0, hf⟩ := fc_un (show (9 : Nat) < 100 from by decide) hf
  have f0 : n_v vs 10 = w_fd ws (v_ad (n_v vs 4)) 132 := f0
  obtain ⟨f1, hf⟩ := fc_un (show (20 : Nat) < 100 from by decide) hf
  have f1 : 1 * w_fi ws (n_v vs 4) 132 + ((-1) * v_iv (n_v vs 3) + 0) ≤ 0 := f1
  obtain ⟨f2, hf⟩ := fc_un (show (24 : Nat) < 100 from by decide) hf
  have f2 : n_v vs 0 = n_v vs 4 := f2
  obtain ⟨ta1, w1, le1, ⟨_, s1⟩, hf⟩ := fc_us (show ¬ (100 : Nat) < 100 from by decide) hf
  have s1 : (∀ b j, w_el ws b j = if b = v_ad (n_v vs 9) ∧ j = (v_iv (n_v vs 7)).toNat then v_iv (n_v vs 6) else w_el w1 b j) ∧ ∀ b k, w_fd ws b k = w_fd w1 b k := s1
  obtain ⟨f4, hf⟩ := fc_un (show (9 : Nat) < 100 from by decide) hf
  have f4 : n_v vs 9 = w_fd w1 (v_ad (n_v vs 4)) 131 := f4
  obtain ⟨f5, hf⟩ := fc_un (show (20 : Nat) < 100 from by decide) hf
  have f5 : 1 * w_fi w1 (n_v vs 4) 132 + ((-1) * v_iv (n_v vs 3) + 0) ≤ 0 := f5
  obtain ⟨ta2, w2, le2, ⟨_, s2⟩, hf⟩ := fc_us (show ¬ (100 : Nat) < 100 from by decide) hf
  have s2 : (∀ b j, w_el w1 b j = if b = v_ad (n_v vs 8) ∧ j = (v_iv (n_v vs 7)).toNat then v_iv (n_v vs 5) else w_el w2 b j) ∧ ∀ b k, w_fd w1 b k = w_fd w2 b k := s2
  obtain ⟨f7, hf⟩ := fc_un (show (9 : Nat) < 100 from by decide) hf
  have f7 : n_v vs 8 = w_fd w2 (v_ad (n_v vs 4)) 130 := f7
  obtain ⟨f8, hf⟩ := fc_un (show (20 : Nat) < 100 from by decide) hf
  have f8 : 1 * w_fi w2 (n_v vs 4) 132 + ((-1) * v_iv (n_v vs 3) + 0) ≤ 0 := f8
  have q4 : n_v vs 4 = n_v vs 0 := f2.symm
  rw [q4] at f0
  rw [q4] at f1
  rw [q4] at f4
  rw [q4] at f5
  rw [q4] at f7
  rw [q4] at f8
  have ar_0_130_1 : w_ar w1 (n_v vs 0) 130 = w_ar ws (n_v vs 0) 130 := by show v_ad (w_fd w1 _ _) = v_ad (w_fd ws _ _); rw [s1.2]
  have ar_0_130_2 : w_ar w2 (n_v vs 0) 130 = w_ar ws (n_v vs 0) 130 := by rw [← ar_0_130_1]; show v_ad (w_fd w2 _ _) = v_ad (w_fd w1 _ _); rw [s2.2]
  have cr_0_130 : ta (w_ar ws (n_v vs 0) 130) = some 245 := tv_rg (th_fd hD hth r0 (g := GG_150) rfl (k := 130) (t := (2, 0, 0, [245])) rfl rfl)
  have ar_0_131_1 : w_ar w1 (n_v vs 0) 131 = w_ar ws (n_v vs 0) 131 := by show v_ad (w_fd w1 _ _) = v_ad (w_fd ws _ _); rw [s1.2]
  have ar_0_131_2 : w_ar w2 (n_v vs 0) 131 = w_ar ws (n_v vs 0) 131 := by rw [← ar_0_131_1]; show v_ad (w_fd w2 _ _) = v_ad (w_fd w1 _ _); rw [s2.2]
  have cr_0_131 : ta (w_ar ws (n_v vs 0) 131) = some 246 := tv_rg (th_fd hD hth r0 (g := GG_150) rfl (k := 131) (t := (2, 0, 0, [246])) rfl rfl)
  have ad_9 : v_ad (n_v vs 9) = w_ar ws (n_v vs 0) 131 := (congrArg v_ad f4).trans ar_0_131_1
  have ad_8 : v_ad (n_v vs 8) = w_ar ws (n_v vs 0) 130 := (congrArg v_ad f7).trans ar_0_130_2
  have g0 : v_iv (n_v vs 10) = w_fi ws (n_v vs 0) 132 := congrArg v_iv f0
  have fe_0_132_1 : w_fi ws (n_v vs 0) 132 = w_fi w1 (n_v vs 0) 132 := congrArg v_iv (s1.2 _ _)
  have fe_0_132_2 : w_fi w1 (n_v vs 0) 132 = w_fi w2 (n_v vs 0) 132 := congrArg v_iv (s2.2 _ _)
  have kz_0_132 : 0 ≤ w_fi ws (n_v vs 0) 132 ∧ w_fi ws (n_v vs 0) 132 ≤ 40 := tv_rng (th_fd hD hth r0 (g := GG_150) rfl (k := 132) (t := (0, 0, 40, [])) rfl rfl)
  have rf10 : tv_ok ta (0, 0, 39, []) (n_v vs 10) := tv_in t10 (by omega) (by omega)
  refine ⟨List.forall_mem_cons.mpr ⟨rf10, (fun _ h => (by cases h))⟩, [], trivial, ?_, (fun _ h => (by cases h))⟩
  rw [List.append_nil]
  exact (fun _ h => (by cases h))
def o_Mo_gatherOne_3 : or_T := (79, 13, [(0, (2, 0, 0, [150])), (3, (0, 0, 39, [])), (4, (2, 0, 0, [150])), (8, (2, 0, 0, [245])), (9, (2, 0, 0, [246])), (10, (0, 0, 39, [])), (11, (0, 1, 1, [])), (12, (0, 1, 40, []))], [(24, [0, 4], []), (101, [4, 12], [132]), (1, [12, 10, 11], []), (9, [10, 4], [132]), (20, [4, 3], [30, 0, 1, 1, 132, -1, 0, 0]), (100, [9, 7, 6], []), (9, [9, 4], [131]), (20, [4, 3], [30, 0, 1, 1, 132, -1, 0, 0]), (100, [8, 7, 5], []), (9, [8, 4], [130]), (20, [4, 3], [30, 0, 1, 1, 132, -1, 0, 0])], [], [], [(20, [0, 3], [30, 1, 1, 1, 132, -1, 0, 0])], [], [(12, 10, 1, 1)])
theorem oo_Mo_gatherOne_3 {kA : Nat → ClassId} : or_ok kA GG o_Mo_gatherOne_3 := by
  intro A ta ws vs hD hth hl hk hds hf
  have hl : vs.length = 13 := hl
  have hk : ∀ q ∈ ([(0, (2, 0, 0, [150])), (3, (0, 0, 39, [])), (4, (2, 0, 0, [150])), (8, (2, 0, 0, [245])), (9, (2, 0, 0, [246])), (10, (0, 0, 39, [])), (11, (0, 1, 1, [])), (12, (0, 1, 40, []))] : List (Nat × tv_T)), tv_ok ta q.2 (n_v vs q.1) := hk
  obtain ⟨t0, hk⟩ := List.forall_mem_cons.mp hk
  have t0 : tv_ok ta (2, 0, 0, [150]) (n_v vs 0) := t0
  have r0 : ta (v_ad (n_v vs 0)) = some 150 := tv_rg t0
  obtain ⟨t3, hk⟩ := List.forall_mem_cons.mp hk
  have t3 : tv_ok ta (0, 0, 39, []) (n_v vs 3) := t3
  have k3 : 0 ≤ v_iv (n_v vs 3) ∧ v_iv (n_v vs 3) ≤ 39 := tv_rng t3
  obtain ⟨t4, hk⟩ := List.forall_mem_cons.mp hk
  have t4 : tv_ok ta (2, 0, 0, [150]) (n_v vs 4) := t4
  have r4 : ta (v_ad (n_v vs 4)) = some 150 := tv_rg t4
  obtain ⟨t8, hk⟩ := List.forall_mem_cons.mp hk
  have t8 : tv_ok ta (2, 0, 0, [245]) (n_v vs 8) := t8
  have r8 : ta (v_ad (n_v vs 8)) = some 245 := tv_rg t8
  obtain ⟨t9, hk⟩ := List.forall_mem_cons.mp hk
  have t9 : tv_ok ta (2, 0, 0, [246]) (n_v vs 9) := t9
  have r9 : ta (v_ad (n_v vs 9)) = some 246 := tv_rg t9
  obtain ⟨t10, hk⟩ := List.forall_mem_cons.mp hk
  have t10 : tv_ok ta (0, 0, 39, []) (n_v vs 10) := t10
  have k10 : 0 ≤ v_iv (n_v vs 10) ∧ v_iv (n_v vs 10) ≤ 39 := tv_rng t10
  obtain ⟨t11, hk⟩ := List.forall_mem_cons.mp hk
  have t11 : tv_ok ta (0, 1, 1, []) (n_v vs 11) := t11
  have k11 : 1 ≤ v_iv (n_v vs 11) ∧ v_iv (n_v vs 11) ≤ 1 := tv_rng t11
  obtain ⟨t12, hk⟩ := List.forall_mem_cons.mp hk
  have t12 : tv_ok ta (0, 1, 40, []) (n_v vs 12) := t12
  have k12 : 1 ≤ v_iv (n_v vs 12) ∧ v_iv (n_v vs 12) ≤ 40 := tv_rng t12
  have hds : ∀ q ∈ ([(12, 10, 1, 1)] : List of_T), n_iv vs q.2.1 + q.2.2.1 ≤ n_iv vs q.1 ∧ n_iv vs q.1 ≤ n_iv vs q.2.1 + q.2.2.2 := hds
  obtain ⟨d0, hds⟩ := List.forall_mem_cons.mp hds
  have d0 : v_iv (n_v vs 10) + 1 ≤ v_iv (n_v vs 12) ∧ v_iv (n_v vs 12) ≤ v_iv (n_v vs 10) + 1 := d0
  have hf : fc_ok [(24, [0, 4], []), (101, [4, 12], [132]), (1, [12, 10, 11], []), (9, [10, 4], [132]), (20, [4, 3], [30, 0, 1, 1, 132, -1, 0, 0]), (100, [9, 7, 6], []), (9, [9, 4], [131]), (20, [4, 3], [30, 0, 1, 1, 132, -1, 0, 0]), (100, [8, 7, 5], []), (9, [8, 4], [130]), (20, [4, 3], [30, 0, 1, 1, 132, -1, 0, 0])] ta ws vs := hf
  obtain ⟨f0, hf⟩ := fc_un (show (24 : Nat) < 100 from by decide) hf
  have f0 : n_v vs 0 = n_v vs 4 := f0
  obtain ⟨ta1, w1, le1, ⟨_, s1⟩, hf⟩ := fc_us (show ¬ (101 : Nat) < 100 from by decide) hf
  have s1 : (∀ b j, w_el ws b j = w_el w1 b j) ∧ ∀ b j, w_fd ws b j = if b = v_ad (n_v vs 4) ∧ j = 132 then n_v vs 12 else w_fd w1 b j := s1
  obtain ⟨f2, hf⟩ := fc_un (show (1 : Nat) < 100 from by decide) hf
  have f2 : v_iv (n_v vs 12) = v_iv (n_v vs 10) + v_iv (n_v vs 11) := f2
  obtain ⟨f3, hf⟩ := fc_un (show (9 : Nat) < 100 from by decide) hf
  have f3 : n_v vs 10 = w_fd w1 (v_ad (n_v vs 4)) 132 := f3
  obtain ⟨f4, hf⟩ := fc_un (show (20 : Nat) < 100 from by decide) hf
  have f4 : 1 * w_fi w1 (n_v vs 4) 132 + ((-1) * v_iv (n_v vs 3) + 0) ≤ 0 := f4
  obtain ⟨ta2, w2, le2, ⟨_, s2⟩, hf⟩ := fc_us (show ¬ (100 : Nat) < 100 from by decide) hf
  have s2 : (∀ b j, w_el w1 b j = if b = v_ad (n_v vs 9) ∧ j = (v_iv (n_v vs 7)).toNat then v_iv (n_v vs 6) else w_el w2 b j) ∧ ∀ b k, w_fd w1 b k = w_fd w2 b k := s2
  obtain ⟨f6, hf⟩ := fc_un (show (9 : Nat) < 100 from by decide) hf
  have f6 : n_v vs 9 = w_fd w2 (v_ad (n_v vs 4)) 131 := f6
  obtain ⟨f7, hf⟩ := fc_un (show (20 : Nat) < 100 from by decide) hf
  have f7 : 1 * w_fi w2 (n_v vs 4) 132 + ((-1) * v_iv (n_v vs 3) + 0) ≤ 0 := f7
  obtain ⟨ta3, w3, le3, ⟨_, s3⟩, hf⟩ := fc_us (show ¬ (100 : Nat) < 100 from by decide) hf
  have s3 : (∀ b j, w_el w2 b j = if b = v_ad (n_v vs 8) ∧ j = (v_iv (n_v vs 7)).toNat then v_iv (n_v vs 5) else w_el w3 b j) ∧ ∀ b k, w_fd w2 b k = w_fd w3 b k := s3
  obtain ⟨f9, hf⟩ := fc_un (show (9 : Nat) < 100 from by decide) hf
  have f9 : n_v vs 8 = w_fd w3 (v_ad (n_v vs 4)) 130 := f9
  obtain ⟨f10, hf⟩ := fc_un (show (20 : Nat) < 100 from by decide) hf
  have f10 : 1 * w_fi w3 (n_v vs 4) 132 + ((-1) * v_iv (n_v vs 3) + 0) ≤ 0 := f10
  have q4 : n_v vs 4 = n_v vs 0 := f0.symm
  rw [q4] at s1
  rw [q4] at f3
  rw [q4] at f4
  rw [q4] at f6
  rw [q4] at f7
  rw [q4] at f9
  rw [q4] at f10
  have ar_0_130_1 : w_ar w1 (n_v vs 0) 130 = w_ar ws (n_v vs 0) 130 := by show v_ad (w_fd w1 _ _) = v_ad (w_fd ws _ _); rw [s1.2, if_neg (fun e => absurd e.2 (by decide))]
  have ar_0_130_2 : w_ar w2 (n_v vs 0) 130 = w_ar ws (n_v vs 0) 130 := by rw [← ar_0_130_1]; show v_ad (w_fd w2 _ _) = v_ad (w_fd w1 _ _); rw [s2.2]
  have ar_0_130_3 : w_ar w3 (n_v vs 0) 130 = w_ar ws (n_v vs 0) 130 := by rw [← ar_0_130_2]; show v_ad (w_fd w3 _ _) = v_ad (w_fd w2 _ _); rw [s3.2]
  have cr_0_130 : ta (w_ar ws (n_v vs 0) 130) = some 245 := tv_rg (th_fd hD hth r0 (g := GG_150) rfl (k := 130) (t := (2, 0, 0, [245])) rfl rfl)
  have ar_0_131_1 : w_ar w1 (n_v vs 0) 131 = w_ar ws (n_v vs 0) 131 := by show v_ad (w_fd w1 _ _) = v_ad (w_fd ws _ _); rw [s1.2, if_neg (fun e => absurd e.2 (by decide))]
  have ar_0_131_2 : w_ar w2 (n_v vs 0) 131 = w_ar ws (n_v vs 0) 131 := by rw [← ar_0_131_1]; show v_ad (w_fd w2 _ _) = v_ad (w_fd w1 _ _); rw [s2.2]
  have ar_0_131_3 : w_ar w3 (n_v vs 0) 131 = w_ar ws (n_v vs 0) 131 := by rw [← ar_0_131_2]; show v_ad (w_fd w3 _ _) = v_ad (w_fd w2 _ _); rw [s3.2]
  have cr_0_131 : ta (w_ar ws (n_v vs 0) 131) = some 246 := tv_rg (th_fd hD hth r0 (g := GG_150) rfl (k := 131) (t := (2, 0, 0, [246])) rfl rfl)
  have ad_9 : v_ad (n_v vs 9) = w_ar ws (n_v vs 0) 131 := (congrArg v_ad f6).trans ar_0_131_2
  have ad_8 : v_ad (n_v vs 8) = w_ar ws (n_v vs 0) 130 := (congrArg v_ad f9).trans ar_0_130_3
  have g3 : v_iv (n_v vs 10) = w_fi w1 (n_v vs 0) 132 := congrArg v_iv f3
  have fe_0_132_1 : w_fi ws (n_v vs 0) 132 = v_iv (n_v vs 12) := by show v_iv (w_fd _ _ _) = _; rw [s1.2, if_pos ⟨rfl, rfl⟩]
  have fe_0_132_2 : w_fi w1 (n_v vs 0) 132 = w_fi w2 (n_v vs 0) 132 := congrArg v_iv (s2.2 _ _)
  have fe_0_132_3 : w_fi w2 (n_v vs 0) 132 = w_fi w3 (n_v vs 0) 132 := congrArg v_iv (s3.2 _ _)
  have kz_0_132 : 0 ≤ w_fi ws (n_v vs 0) 132 ∧ w_fi ws (n_v vs 0) 132 ≤ 40 := tv_rng (th_fd hD hth r0 (g := GG_150) rfl (k := 132) (t := (0, 0, 40, [])) rfl rfl)
  have nf0 : fc_1 (20, [0, 3], [30, 1, 1, 1, 132, -1, 0, 0]) ws (vs) := by
    refine ⟨fun n hn => ?_, ?_⟩
    · have hn : n ∈ [0, 3] := hn
      rw [hl]
      simp only [List.mem_cons, List.not_mem_nil, or_false] at hn
      show n < 13; omega
    · show 1 * w_fi ws (n_v vs 0) 132 + ((-1) * v_iv (n_v vs 3) + 0) ≤ 1
      omega
  refine ⟨(fun _ h => (by cases h)), [], trivial, ?_, (fun _ h => (by cases h))⟩
  rw [List.append_nil]
  exact List.forall_mem_cons.mpr ⟨⟨show (20 : Nat) < 100 from by decide, nf0⟩, (fun _ h => (by cases h))⟩
def o_Mo_gatherOne_4 : or_T := (74, 14, [(0, (2, 0, 0, [150])), (3, (0, 0, 39, [])), (4, (2, 0, 0, [150])), (8, (2, 0, 0, [246])), (12, (2, 0, 0, [245])), (13, (0, 0, 40, []))], [(9, [13, 4], [132]), (20, [4, 3], [30, 0, 1, 1, 132, -1, 0, 0]), (24, [0, 4], []), (100, [8, 7, 6], []), (9, [8, 4], [131]), (20, [4, 3], [30, 0, 1, 1, 132, -1, 0, 0]), (100, [12, 7, 5], []), (9, [12, 4], [130]), (20, [4, 3], [30, 0, 1, 1, 132, -1, 0, 0])], [(13, (0, 0, 39, []))], [], [], [], [])
theorem oo_Mo_gatherOne_4 {kA : Nat → ClassId} : or_ok kA GG o_Mo_gatherOne_4 := by
  intro A ta ws vs hD hth hl hk hds hf
  have hl : vs.length = 14 := hl
  have hk : ∀ q ∈ ([(0, (2, 0, 0, [150])), (3, (0, 0, 39, [])), (4, (2, 0, 0, [150])), (8, (2, 0, 0, [246])), (12, (2, 0, 0, [245])), (13, (0, 0, 40, []))] : List (Nat × tv_T)), tv_ok ta q.2 (n_v vs q.1) := hk
  obtain ⟨t0, hk⟩ := List.forall_mem_cons.mp hk
  have t0 : tv_ok ta (2, 0, 0, [150]) (n_v vs 0) := t0
  have r0 : ta (v_ad (n_v vs 0)) = some 150 := tv_rg t0
  obtain ⟨t3, hk⟩ := List.forall_mem_cons.mp hk
  have t3 : tv_ok ta (0, 0, 39, []) (n_v vs 3) := t3
  have k3 : 0 ≤ v_iv (n_v vs 3) ∧ v_iv (n_v vs 3) ≤ 39 := tv_rng t3
  obtain ⟨t4, hk⟩ := List.forall_mem_cons.mp hk
  have t4 : tv_ok ta (2, 0, 0, [150]) (n_v vs 4) := t4
  have r4 : ta (v_ad (n_v vs 4)) = some 150 := tv_rg t4
  obtain ⟨t8, hk⟩ := List.forall_mem_cons.mp hk
  have t8 : tv_ok ta (2, 0, 0, [246]) (n_v vs 8) := t8
  have r8 : ta (v_ad (n_v vs 8)) = some 246 := tv_rg t8
  obtain ⟨t12, hk⟩ := List.forall_mem_cons.mp hk
  have t12 : tv_ok ta (2, 0, 0, [245]) (n_v vs 12) := t12
  have r12 : ta (v_ad (n_v vs 12)) = some 245 := tv_rg t12
  obtain ⟨t13, hk⟩ := List.forall_mem_cons.mp hk
  have t13 : tv_ok ta (0, 0, 40, []) (n_v vs 13) := t13
  have k13 : 0 ≤ v_iv (n_v vs 13) ∧ v_iv (n_v vs 13) ≤ 40 := tv_rng t13
  have hf : fc_ok [(9, [13, 4], [132]), (20, [4, 3], [30, 0, 1, 1, 132, -1, 0, 0]), (24, [0, 4], []), (100, [8, 7, 6], []), (9, [8, 4], [131]), (20, [4, 3], [30, 0, 1, 1, 132, -1, 0, 0]), (100, [12, 7, 5], []), (9, [12, 4], [130]), (20, [4, 3], [30, 0, 1, 1, 132, -1, 0, 0])] ta ws vs := hf
  obtain ⟨f0, hf⟩ := fc_un (show (9 : Nat) < 100 from by decide) hf
  have f0 : n_v vs 13 = w_fd ws (v_ad (n_v vs 4)) 132 := f0
  obtain ⟨f1, hf⟩ := fc_un (show (20 : Nat) < 100 from by decide) hf
  have f1 : 1 * w_fi ws (n_v vs 4) 132 + ((-1) * v_iv (n_v vs 3) + 0) ≤ 0 := f1
  obtain ⟨f2, hf⟩ := fc_un (show (24 : Nat) < 100 from by decide) hf
  have f2 : n_v vs 0 = n_v vs 4 := f2
  obtain ⟨ta1, w1, le1, ⟨_, s1⟩, hf⟩ := fc_us (show ¬ (100 : Nat) < 100 from by decide) hf
  have s1 : (∀ b j, w_el ws b j = if b = v_ad (n_v vs 8) ∧ j = (v_iv (n_v vs 7)).toNat then v_iv (n_v vs 6) else w_el w1 b j) ∧ ∀ b k, w_fd ws b k = w_fd w1 b k := s1
  obtain ⟨f4, hf⟩ := fc_un (show (9 : Nat) < 100 from by decide) hf
  have f4 : n_v vs 8 = w_fd w1 (v_ad (n_v vs 4)) 131 := f4
  obtain ⟨f5, hf⟩ := fc_un (show (20 : Nat) < 100 from by decide) hf
  have f5 : 1 * w_fi w1 (n_v vs 4) 132 + ((-1) * v_iv (n_v vs 3) + 0) ≤ 0 := f5
  obtain ⟨ta2, w2, le2, ⟨_, s2⟩, hf⟩ := fc_us (show ¬ (100 : Nat) < 100 from by decide) hf
  have s2 : (∀ b j, w_el w1 b j = if b = v_ad (n_v vs 12) ∧ j = (v_iv (n_v vs 7)).toNat then v_iv (n_v vs 5) else w_el w2 b j) ∧ ∀ b k, w_fd w1 b k = w_fd w2 b k := s2
  obtain ⟨f7, hf⟩ := fc_un (show (9 : Nat) < 100 from by decide) hf
  have f7 : n_v vs 12 = w_fd w2 (v_ad (n_v vs 4)) 130 := f7
  obtain ⟨f8, hf⟩ := fc_un (show (20 : Nat) < 100 from by decide) hf
  have f8 : 1 * w_fi w2 (n_v vs 4) 132 + ((-1) * v_iv (n_v vs 3) + 0) ≤ 0 := f8
  have q4 : n_v vs 4 = n_v vs 0 := f2.symm
  rw [q4] at f0
  rw [q4] at f1
  rw [q4] at f4
  rw [q4] at f5
  rw [q4] at f7
  rw [q4] at f8
  have ar_0_130_1 : w_ar w1 (n_v vs 0) 130 = w_ar ws (n_v vs 0) 130 := by show v_ad (w_fd w1 _ _) = v_ad (w_fd ws _ _); rw [s1.2]
  have ar_0_130_2 : w_ar w2 (n_v vs 0) 130 = w_ar ws (n_v vs 0) 130 := by rw [← ar_0_130_1]; show v_ad (w_fd w2 _ _) = v_ad (w_fd w1 _ _); rw [s2.2]
  have cr_0_130 : ta (w_ar ws (n_v vs 0) 130) = some 245 := tv_rg (th_fd hD hth r0 (g := GG_150) rfl (k := 130) (t := (2, 0, 0, [245])) rfl rfl)
  have ar_0_131_1 : w_ar w1 (n_v vs 0) 131 = w_ar ws (n_v vs 0) 131 := by show v_ad (w_fd w1 _ _) = v_ad (w_fd ws _ _); rw [s1.2]
  have ar_0_131_2 : w_ar w2 (n_v vs 0) 131 = w_ar ws (n_v vs 0) 131 := by rw [← ar_0_131_1]; show v_ad (w_fd w2 _ _) = v_ad (w_fd w1 _ _); rw [s2.2]
  have cr_0_131 : ta (w_ar ws (n_v vs 0) 131) = some 246 := tv_rg (th_fd hD hth r0 (g := GG_150) rfl (k := 131) (t := (2, 0, 0, [246])) rfl rfl)
  have ad_8 : v_ad (n_v vs 8) = w_ar ws (n_v vs 0) 131 := (congrArg v_ad f4).trans ar_0_131_1
  have ad_12 : v_ad (n_v vs 12) = w_ar ws (n_v vs 0) 130 := (congrArg v_ad f7).trans ar_0_130_2
  have g0 : v_iv (n_v vs 13) = w_fi ws (n_v vs 0) 132 := congrArg v_iv f0
  have fe_0_132_1 : w_fi ws (n_v vs 0) 132 = w_fi w1 (n_v vs 0) 132 := congrArg v_iv (s1.2 _ _)
  have fe_0_132_2 : w_fi w1 (n_v vs 0) 132 = w_fi w2 (n_v vs 0) 132 := congrArg v_iv (s2.2 _ _)
  have kz_0_132 : 0 ≤ w_fi ws (n_v vs 0) 132 ∧ w_fi ws (n_v vs 0) 132 ≤ 40 := tv_rng (th_fd hD hth r0 (g := GG_150) rfl (k := 132) (t := (0, 0, 40, [])) rfl rfl)
  have rf13 : tv_ok ta (0, 0, 39, []) (n_v vs 13) := tv_in t13 (by omega) (by omega)
  refine ⟨List.forall_mem_cons.mpr ⟨rf13, (fun _ h => (by cases h))⟩, [], trivial, ?_, (fun _ h => (by cases h))⟩
  rw [List.append_nil]
  exact (fun _ h => (by cases h))
def o_Mo_gatherOne_5 : or_T := (79, 16, [(0, (2, 0, 0, [150])), (3, (0, 0, 39, [])), (4, (2, 0, 0, [150])), (8, (2, 0, 0, [246])), (12, (2, 0, 0, [245])), (13, (0, 0, 39, [])), (14, (0, 1, 1, [])), (15, (0, 1, 40, []))], [(24, [0, 4], []), (101, [4, 15], [132]), (1, [15, 13, 14], []), (9, [13, 4], [132]), (20, [4, 3], [30, 0, 1, 1, 132, -1, 0, 0]), (100, [8, 7, 6], []), (9, [8, 4], [131]), (20, [4, 3], [30, 0, 1, 1, 132, -1, 0, 0]), (100, [12, 7, 5], []), (9, [12, 4], [130]), (20, [4, 3], [30, 0, 1, 1, 132, -1, 0, 0])], [], [], [(20, [0, 3], [30, 1, 1, 1, 132, -1, 0, 0])], [], [(15, 13, 1, 1)])
theorem oo_Mo_gatherOne_5 {kA : Nat → ClassId} : or_ok kA GG o_Mo_gatherOne_5 := by
  intro A ta ws vs hD hth hl hk hds hf
  have hl : vs.length = 16 := hl
  have hk : ∀ q ∈ ([(0, (2, 0, 0, [150])), (3, (0, 0, 39, [])), (4, (2, 0, 0, [150])), (8, (2, 0, 0, [246])), (12, (2, 0, 0, [245])), (13, (0, 0, 39, [])), (14, (0, 1, 1, [])), (15, (0, 1, 40, []))] : List (Nat × tv_T)), tv_ok ta q.2 (n_v vs q.1) := hk
  obtain ⟨t0, hk⟩ := List.forall_mem_cons.mp hk
  have t0 : tv_ok ta (2, 0, 0, [150]) (n_v vs 0) := t0
  have r0 : ta (v_ad (n_v vs 0)) = some 150 := tv_rg t0
  obtain ⟨t3, hk⟩ := List.forall_mem_cons.mp hk
  have t3 : tv_ok ta (0, 0, 39, []) (n_v vs 3) := t3
  have k3 : 0 ≤ v_iv (n_v vs 3) ∧ v_iv (n_v vs 3) ≤ 39 := tv_rng t3
  obtain ⟨t4, hk⟩ := List.forall_mem_cons.mp hk
  have t4 : tv_ok ta (2, 0, 0, [150]) (n_v vs 4) := t4
  have r4 : ta (v_ad (n_v vs 4)) = some 150 := tv_rg t4
  obtain ⟨t8, hk⟩ := List.forall_mem_cons.mp hk
  have t8 : tv_ok ta (2, 0, 0, [246]) (n_v vs 8) := t8
  have r8 : ta (v_ad (n_v vs 8)) = some 246 := tv_rg t8
  obtain ⟨t12, hk⟩ := List.forall_mem_cons.mp hk
  have t12 : tv_ok ta (2, 0, 0, [245]) (n_v vs 12) := t12
  have r12 : ta (v_ad (n_v vs 12)) = some 245 := tv_rg t12
  obtain ⟨t13, hk⟩ := List.forall_mem_cons.mp hk
  have t13 : tv_ok ta (0, 0, 39, []) (n_v vs 13) := t13
  have k13 : 0 ≤ v_iv (n_v vs 13) ∧ v_iv (n_v vs 13) ≤ 39 := tv_rng t13
  obtain ⟨t14, hk⟩ := List.forall_mem_cons.mp hk
  have t14 : tv_ok ta (0, 1, 1, []) (n_v vs 14) := t14
  have k14 : 1 ≤ v_iv (n_v vs 14) ∧ v_iv (n_v vs 14) ≤ 1 := tv_rng t14
  obtain ⟨t15, hk⟩ := List.forall_mem_cons.mp hk
  have t15 : tv_ok ta (0, 1, 40, []) (n_v vs 15) := t15
  have k15 : 1 ≤ v_iv (n_v vs 15) ∧ v_iv (n_v vs 15) ≤ 40 := tv_rng t15
  have hds : ∀ q ∈ ([(15, 13, 1, 1)] : List of_T), n_iv vs q.2.1 + q.2.2.1 ≤ n_iv vs q.1 ∧ n_iv vs q.1 ≤ n_iv vs q.2.1 + q.2.2.2 := hds
  obtain ⟨d0, hds⟩ := List.forall_mem_cons.mp hds
  have d0 : v_iv (n_v vs 13) + 1 ≤ v_iv (n_v vs 15) ∧ v_iv (n_v vs 15) ≤ v_iv (n_v vs 13) + 1 := d0
  have hf : fc_ok [(24, [0, 4], []), (101, [4, 15], [132]), (1, [15, 13, 14], []), (9, [13, 4], [132]), (20, [4, 3], [30, 0, 1, 1, 132, -1, 0, 0]), (100, [8, 7, 6], []), (9, [8, 4], [131]), (20, [4, 3], [30, 0, 1, 1, 132, -1, 0, 0]), (100, [12, 7, 5], []), (9, [12, 4], [130]), (20, [4, 3], [30, 0, 1, 1, 132, -1, 0, 0])] ta ws vs := hf
  obtain ⟨f0, hf⟩ := fc_un (show (24 : Nat) < 100 from by decide) hf
  have f0 : n_v vs 0 = n_v vs 4 := f0
  obtain ⟨ta1, w1, le1, ⟨_, s1⟩, hf⟩ := fc_us (show ¬ (101 : Nat) < 100 from by decide) hf
  have s1 : (∀ b j, w_el ws b j = w_el w1 b j) ∧ ∀ b j, w_fd ws b j = if b = v_ad (n_v vs 4) ∧ j = 132 then n_v vs 15 else w_fd w1 b j := s1
  obtain ⟨f2, hf⟩ := fc_un (show (1 : Nat) < 100 from by decide) hf
  have f2 : v_iv (n_v vs 15) = v_iv (n_v vs 13) + v_iv (n_v vs 14) := f2
  obtain ⟨f3, hf⟩ := fc_un (show (9 : Nat) < 100 from by decide) hf
  have f3 : n_v vs 13 = w_fd w1 (v_ad (n_v vs 4)) 132 := f3
  obtain ⟨f4, hf⟩ := fc_un (show (20 : Nat) < 100 from by decide) hf
  have f4 : 1 * w_fi w1 (n_v vs 4) 132 + ((-1) * v_iv (n_v vs 3) + 0) ≤ 0 := f4
  obtain ⟨ta2, w2, le2, ⟨_, s2⟩, hf⟩ := fc_us (show ¬ (100 : Nat) < 100 from by decide) hf
  have s2 : (∀ b j, w_el w1 b j = if b = v_ad (n_v vs 8) ∧ j = (v_iv (n_v vs 7)).toNat then v_iv (n_v vs 6) else w_el w2 b j) ∧ ∀ b k, w_fd w1 b k = w_fd w2 b k := s2
  obtain ⟨f6, hf⟩ := fc_un (show (9 : Nat) < 100 from by decide) hf
  have f6 : n_v vs 8 = w_fd w2 (v_ad (n_v vs 4)) 131 := f6
  obtain ⟨f7, hf⟩ := fc_un (show (20 : Nat) < 100 from by decide) hf
  have f7 : 1 * w_fi w2 (n_v vs 4) 132 + ((-1) * v_iv (n_v vs 3) + 0) ≤ 0 := f7
  obtain ⟨ta3, w3, le3, ⟨_, s3⟩, hf⟩ := fc_us (show ¬ (100 : Nat) < 100 from by decide) hf
  have s3 : (∀ b j, w_el w2 b j = if b = v_ad (n_v vs 12) ∧ j = (v_iv (n_v vs 7)).toNat then v_iv (n_v vs 5) else w_el w3 b j) ∧ ∀ b k, w_fd w2 b k = w_fd w3 b k := s3
  obtain ⟨f9, hf⟩ := fc_un (show (9 : Nat) < 100 from by decide) hf
  have f9 : n_v vs 12 = w_fd w3 (v_ad (n_v vs 4)) 130 := f9
  obtain ⟨f10, hf⟩ := fc_un (show (20 : Nat) < 100 from by decide) hf
  have f10 : 1 * w_fi w3 (n_v vs 4) 132 + ((-1) * v_iv (n_v vs 3) + 0) ≤ 0 := f10
  have q4 : n_v vs 4 = n_v vs 0 := f0.symm
  rw [q4] at s1
  rw [q4] at f3
  rw [q4] at f4
  rw [q4] at f6
  rw [q4] at f7
  rw [q4] at f9
  rw [q4] at f10
  have ar_0_130_1 : w_ar w1 (n_v vs 0) 130 = w_ar ws (n_v vs 0) 130 := by show v_ad (w_fd w1 _ _) = v_ad (w_fd ws _ _); rw [s1.2, if_neg (fun e => absurd e.2 (by decide))]
  have ar_0_130_2 : w_ar w2 (n_v vs 0) 130 = w_ar ws (n_v vs 0) 130 := by rw [← ar_0_130_1]; show v_ad (w_fd w2 _ _) = v_ad (w_fd w1 _ _); rw [s2.2]
  have ar_0_130_3 : w_ar w3 (n_v vs 0) 130 = w_ar ws (n_v vs 0) 130 := by rw [← ar_0_130_2]; show v_ad (w_fd w3 _ _) = v_ad (w_fd w2 _ _); rw [s3.2]
  have cr_0_130 : ta (w_ar ws (n_v vs 0) 130) = some 245 := tv_rg (th_fd hD hth r0 (g := GG_150) rfl (k := 130) (t := (2, 0, 0, [245])) rfl rfl)
  have ar_0_131_1 : w_ar w1 (n_v vs 0) 131 = w_ar ws (n_v vs 0) 131 := by show v_ad (w_fd w1 _ _) = v_ad (w_fd ws _ _); rw [s1.2, if_neg (fun e => absurd e.2 (by decide))]
  have ar_0_131_2 : w_ar w2 (n_v vs 0) 131 = w_ar ws (n_v vs 0) 131 := by rw [← ar_0_131_1]; show v_ad (w_fd w2 _ _) = v_ad (w_fd w1 _ _); rw [s2.2]
  have ar_0_131_3 : w_ar w3 (n_v vs 0) 131 = w_ar ws (n_v vs 0) 131 := by rw [← ar_0_131_2]; show v_ad (w_fd w3 _ _) = v_ad (w_fd w2 _ _); rw [s3.2]
  have cr_0_131 : ta (w_ar ws (n_v vs 0) 131) = some 246 := tv_rg (th_fd hD hth r0 (g := GG_150) rfl (k := 131) (t := (2, 0, 0, [246])) rfl rfl)
  have ad_8 : v_ad (n_v vs 8) = w_ar ws (n_v vs 0) 131 := (congrArg v_ad f6).trans ar_0_131_2
  have ad_12 : v_ad (n_v vs 12) = w_ar ws (n_v vs 0) 130 := (congrArg v_ad f9).trans ar_0_130_3
  have g3 : v_iv (n_v vs 13) = w_fi w1 (n_v vs 0) 132 := congrArg v_iv f3
  have fe_0_132_1 : w_fi ws (n_v vs 0) 132 = v_iv (n_v vs 15) := by show v_iv (w_fd _ _ _) = _; rw [s1.2, if_pos ⟨rfl, rfl⟩]
  have fe_0_132_2 : w_fi w1 (n_v vs 0) 132 = w_fi w2 (n_v vs 0) 132 := congrArg v_iv (s2.2 _ _)
  have fe_0_132_3 : w_fi w2 (n_v vs 0) 132 = w_fi w3 (n_v vs 0) 132 := congrArg v_iv (s3.2 _ _)
  have kz_0_132 : 0 ≤ w_fi ws (n_v vs 0) 132 ∧ w_fi ws (n_v vs 0) 132 ≤ 40 := tv_rng (th_fd hD hth r0 (g := GG_150) rfl (k := 132) (t := (0, 0, 40, [])) rfl rfl)
  have nf0 : fc_1 (20, [0, 3], [30, 1, 1, 1, 132, -1, 0, 0]) ws (vs) := by
    refine ⟨fun n hn => ?_, ?_⟩
    · have hn : n ∈ [0, 3] := hn
      rw [hl]
      simp only [List.mem_cons, List.not_mem_nil, or_false] at hn
      show n < 16; omega
    · show 1 * w_fi ws (n_v vs 0) 132 + ((-1) * v_iv (n_v vs 3) + 0) ≤ 1
      omega
  refine ⟨(fun _ h => (by cases h)), [], trivial, ?_, (fun _ h => (by cases h))⟩
  rw [List.append_nil]
  exact List.forall_mem_cons.mpr ⟨⟨show (20 : Nat) < 100 from by decide, nf0⟩, (fun _ h => (by cases h))⟩
def n_Mo_gatherOne_an : List an_T := [(5, [(0, (2, 0, 0, [150])), (1, (0, 0, 107, [])), (2, (0, -2147483648, 2147483647, [])), (3, (0, 0, 39, []))], [], (0, 0), [(0, 0, 99995), (2, 7, 0), (0, 0, 100000)], [(1, 3, -1000000000000, 107), (1, 5, -1000000000000, 0), (1, 7, -1000000000000, 107), (2, 6, -1000000000000, 0), (3, 1, -1000000000000, 39), (3, 5, -1000000000000, 39), (3, 7, -1000000000000, 39), (5, 1, -1000000000000, 0), (5, 3, -1000000000000, 107), (5, 7, -1000000000000, 107), (6, 2, -1000000000000, 0), (7, 1, -1000000000000, 39), (7, 3, -1000000000000, 39), (7, 5, -1000000000000, 39)], [], [(2, 0, 0, [150]), (0, 0, 107, []), (0, -2147483648, 2147483647, []), (0, 0, 39, [])], 0, [], [(20, [4, 3], [30, 0, 1, 1, 132, -1, 0, 0]), (24, [0, 4], [])])]
def t_Mo_gatherOne_ct : ct_L := []
set_option maxRecDepth 100000 in
theorem c_Mo_gatherOne {l : Launch} {D : va_G} {kA : Nat → ClassId} : ct_ok l D kA GG y_Mo_gatherOne z_Mo_gatherOne e_Mo_gatherOne := chk_all_ok (FT := [(299, 13, 130), (302, 13, 131), (971, 13, 132)]) (PT := [(971, 13, 132, .int)]) (CT := t_Mo_gatherOne_ct) (KT := []) (NT := []) (AN := n_Mo_gatherOne_an) (OT := [o_Mo_gatherOne_0, o_Mo_gatherOne_1, o_Mo_gatherOne_2, o_Mo_gatherOne_3, o_Mo_gatherOne_4, o_Mo_gatherOne_5]) 3 276 (List.forall_mem_cons.mpr ⟨oo_Mo_gatherOne_0, List.forall_mem_cons.mpr ⟨oo_Mo_gatherOne_1, List.forall_mem_cons.mpr ⟨oo_Mo_gatherOne_2, List.forall_mem_cons.mpr ⟨oo_Mo_gatherOne_3, List.forall_mem_cons.mpr ⟨oo_Mo_gatherOne_4, List.forall_mem_cons.mpr ⟨oo_Mo_gatherOne_5, List.forall_mem_nil _⟩⟩⟩⟩⟩⟩) (by decide +kernel) ⟨List.forall_mem_cons.mpr ⟨gf_Mo_299, List.forall_mem_cons.mpr ⟨gf_Mo_302, List.forall_mem_cons.mpr ⟨gf_Mo_971, List.forall_mem_nil _⟩⟩⟩, List.forall_mem_cons.mpr ⟨pf_Mo_971, List.forall_mem_nil _⟩, List.forall_mem_nil _, List.forall_mem_nil _, List.forall_mem_nil _, GG_pl⟩ (by decide +kernel)
def n_Mo_groupOf_an : List an_T := []
def t_Mo_groupOf_ct : ct_L := []
set_option maxRecDepth 100000 in
theorem c_Mo_groupOf {l : Launch} {D : va_G} {kA : Nat → ClassId} : ct_ok l D kA GG y_Mo_groupOf z_Mo_groupOf e_Mo_groupOf := chk_all_ok (FT := [(16, 13, 2), (391, 13, 5)]) (PT := []) (CT := t_Mo_groupOf_ct) (KT := []) (NT := []) (AN := n_Mo_groupOf_an) (OT := []) 0 200 (List.forall_mem_nil _) (by decide +kernel) ⟨List.forall_mem_cons.mpr ⟨gf_Mo_16, List.forall_mem_cons.mpr ⟨gf_Mo_391, List.forall_mem_nil _⟩⟩, List.forall_mem_nil _, List.forall_mem_nil _, List.forall_mem_nil _, List.forall_mem_nil _, GG_pl⟩ (by decide +kernel)
def o_Mo_groups_0 : or_T := (11, 6, [(0, (2, 0, 0, [150])), (1, (2, 0, 0, [152])), (2, (0, 0, 66297, [])), (3, (0, 2, 2, [])), (4, (0, 2, 66299, [])), (5, (0, 0, 8, []))], [(10, [5, 1, 4], []), (1, [4, 2, 3], []), (9, [2, 0], [5]), (9, [1, 0], [2])], [], [], [(20, [5, 0], [30, 0, 1, 0, 0, -1, 3, 2005002]), (20, [5, 0], [30, 0, -1, 0, 0, 1, 3, 2005002])], [], [(4, 2, 2, 2)])
theorem oo_Mo_groups_0 {kA : Nat → ClassId} : or_ok kA GG o_Mo_groups_0 := by
  intro A ta ws vs hD hth hl hk hds hf
  have hl : vs.length = 6 := hl
  have hk : ∀ q ∈ ([(0, (2, 0, 0, [150])), (1, (2, 0, 0, [152])), (2, (0, 0, 66297, [])), (3, (0, 2, 2, [])), (4, (0, 2, 66299, [])), (5, (0, 0, 8, []))] : List (Nat × tv_T)), tv_ok ta q.2 (n_v vs q.1) := hk
  obtain ⟨t0, hk⟩ := List.forall_mem_cons.mp hk
  have t0 : tv_ok ta (2, 0, 0, [150]) (n_v vs 0) := t0
  have r0 : ta (v_ad (n_v vs 0)) = some 150 := tv_rg t0
  obtain ⟨t1, hk⟩ := List.forall_mem_cons.mp hk
  have t1 : tv_ok ta (2, 0, 0, [152]) (n_v vs 1) := t1
  have r1 : ta (v_ad (n_v vs 1)) = some 152 := tv_rg t1
  obtain ⟨t2, hk⟩ := List.forall_mem_cons.mp hk
  have t2 : tv_ok ta (0, 0, 66297, []) (n_v vs 2) := t2
  have k2 : 0 ≤ v_iv (n_v vs 2) ∧ v_iv (n_v vs 2) ≤ 66297 := tv_rng t2
  obtain ⟨t3, hk⟩ := List.forall_mem_cons.mp hk
  have t3 : tv_ok ta (0, 2, 2, []) (n_v vs 3) := t3
  have k3 : 2 ≤ v_iv (n_v vs 3) ∧ v_iv (n_v vs 3) ≤ 2 := tv_rng t3
  obtain ⟨t4, hk⟩ := List.forall_mem_cons.mp hk
  have t4 : tv_ok ta (0, 2, 66299, []) (n_v vs 4) := t4
  have k4 : 2 ≤ v_iv (n_v vs 4) ∧ v_iv (n_v vs 4) ≤ 66299 := tv_rng t4
  obtain ⟨t5, hk⟩ := List.forall_mem_cons.mp hk
  have t5 : tv_ok ta (0, 0, 8, []) (n_v vs 5) := t5
  have k5 : 0 ≤ v_iv (n_v vs 5) ∧ v_iv (n_v vs 5) ≤ 8 := tv_rng t5
  have hds : ∀ q ∈ ([(4, 2, 2, 2)] : List of_T), n_iv vs q.2.1 + q.2.2.1 ≤ n_iv vs q.1 ∧ n_iv vs q.1 ≤ n_iv vs q.2.1 + q.2.2.2 := hds
  obtain ⟨d0, hds⟩ := List.forall_mem_cons.mp hds
  have d0 : v_iv (n_v vs 2) + 2 ≤ v_iv (n_v vs 4) ∧ v_iv (n_v vs 4) ≤ v_iv (n_v vs 2) + 2 := d0
  have hf : fc_ok [(10, [5, 1, 4], []), (1, [4, 2, 3], []), (9, [2, 0], [5]), (9, [1, 0], [2])] ta ws vs := hf
  obtain ⟨f0, hf⟩ := fc_un (show (10 : Nat) < 100 from by decide) hf
  have f0 : v_iv (n_v vs 5) = w_el ws (v_ad (n_v vs 1)) (v_iv (n_v vs 4)).toNat := f0
  obtain ⟨f1, hf⟩ := fc_un (show (1 : Nat) < 100 from by decide) hf
  have f1 : v_iv (n_v vs 4) = v_iv (n_v vs 2) + v_iv (n_v vs 3) := f1
  obtain ⟨f2, hf⟩ := fc_un (show (9 : Nat) < 100 from by decide) hf
  have f2 : n_v vs 2 = w_fd ws (v_ad (n_v vs 0)) 5 := f2
  obtain ⟨f3, hf⟩ := fc_un (show (9 : Nat) < 100 from by decide) hf
  have f3 : n_v vs 1 = w_fd ws (v_ad (n_v vs 0)) 2 := f3
  have cr_0_2 : ta (w_ar ws (n_v vs 0) 2) = some 152 := tv_rg (th_fd hD hth r0 (g := GG_150) rfl (k := 2) (t := (2, 0, 0, [152])) rfl rfl)
  have ad_1 : v_ad (n_v vs 1) = w_ar ws (n_v vs 0) 2 := congrArg v_ad f3
  rw [ad_1] at f0
  have g2 : v_iv (n_v vs 2) = w_fi ws (n_v vs 0) 5 := congrArg v_iv f2
  have cg0_F5_2 : v_iv (n_v vs 4) = w_fi ws (n_v vs 0) 5 + 2 → w_el ws (w_ar ws (n_v vs 0) 2) (v_iv (n_v vs 4)).toNat = w_el ws (w_ar ws (n_v vs 0) 2) (w_fi ws (n_v vs 0) 5 + 2).toNat := fun h => by rw [h]
  have nf0 : fc_1 (20, [5, 0], [30, 0, 1, 0, 0, -1, 3, 2005002]) ws (vs) := by
    refine ⟨fun n hn => ?_, ?_⟩
    · have hn : n ∈ [5, 0] := hn
      rw [hl]
      simp only [List.mem_cons, List.not_mem_nil, or_false] at hn
      show n < 6; omega
    · show 1 * v_iv (n_v vs 5) + ((-1) * w_el ws (w_ar ws (n_v vs 0) 2) (w_fi ws (n_v vs 0) 5 + 2).toNat + 0) ≤ 0
      omega
  have nf1 : fc_1 (20, [5, 0], [30, 0, -1, 0, 0, 1, 3, 2005002]) ws (vs) := by
    refine ⟨fun n hn => ?_, ?_⟩
    · have hn : n ∈ [5, 0] := hn
      rw [hl]
      simp only [List.mem_cons, List.not_mem_nil, or_false] at hn
      show n < 6; omega
    · show (-1) * v_iv (n_v vs 5) + (1 * w_el ws (w_ar ws (n_v vs 0) 2) (w_fi ws (n_v vs 0) 5 + 2).toNat + 0) ≤ 0
      omega
  refine ⟨(fun _ h => (by cases h)), [], trivial, ?_, (fun _ h => (by cases h))⟩
  rw [List.append_nil]
  exact List.forall_mem_cons.mpr ⟨⟨show (20 : Nat) < 100 from by decide, nf0⟩, List.forall_mem_cons.mpr ⟨⟨show (20 : Nat) < 100 from by decide, nf1⟩, (fun _ h => (by cases h))⟩⟩
def n_Mo_groups_an : List an_T := []
def t_Mo_groups_ct : ct_L := []
set_option maxRecDepth 100000 in
theorem c_Mo_groups {l : Launch} {D : va_G} {kA : Nat → ClassId} : ct_ok l D kA GG y_Mo_groups z_Mo_groups e_Mo_groups := chk_all_ok (FT := [(16, 13, 2), (391, 13, 5)]) (PT := []) (CT := t_Mo_groups_ct) (KT := []) (NT := []) (AN := n_Mo_groups_an) (OT := [o_Mo_groups_0]) 0 200 (List.forall_mem_cons.mpr ⟨oo_Mo_groups_0, List.forall_mem_nil _⟩) (by decide +kernel) ⟨List.forall_mem_cons.mpr ⟨gf_Mo_16, List.forall_mem_cons.mpr ⟨gf_Mo_391, List.forall_mem_nil _⟩⟩, List.forall_mem_nil _, List.forall_mem_nil _, List.forall_mem_nil _, List.forall_mem_nil _, GG_pl⟩ (by decide +kernel)
def n_Mo_in_an : List an_T := []
def t_Mo_in_ct : ct_L := []
set_option maxRecDepth 100000 in
theorem c_Mo_in {l : Launch} {D : va_G} {kA : Nat → ClassId} : ct_ok l D kA GG y_Mo_in z_Mo_in e_Mo_in := chk_all_ok (FT := []) (PT := []) (CT := t_Mo_in_ct) (KT := []) (NT := []) (AN := n_Mo_in_an) (OT := []) 0 200 (List.forall_mem_nil _) (by decide +kernel) ⟨List.forall_mem_nil _, List.forall_mem_nil _, List.forall_mem_nil _, List.forall_mem_nil _, List.forall_mem_nil _, GG_pl⟩ (by decide +kernel)
def n_Mo_isBridge_an : List an_T := [(4, [(0, (2, 0, 0, [150])), (1, (0, 0, 47, [])), (2, (0, -2147483648, 2147483647, [])), (3, (0, 0, 80, []))], [], (0, 0), [(0, 0, 99996), (1, 3, 80), (0, 0, 100000)], [], [], [], 0, [], [])]
def t_Mo_isBridge_ct : ct_L := []
set_option maxRecDepth 100000 in
theorem c_Mo_isBridge {l : Launch} {D : va_G} {kA : Nat → ClassId} : ct_ok l D kA GG y_Mo_isBridge z_Mo_isBridge e_Mo_isBridge := chk_all_ok (FT := [(32, 13, 17), (597, 13, 32)]) (PT := []) (CT := t_Mo_isBridge_ct) (KT := []) (NT := []) (AN := n_Mo_isBridge_an) (OT := []) 3 200 (List.forall_mem_nil _) (by decide +kernel) ⟨List.forall_mem_cons.mpr ⟨gf_Mo_32, List.forall_mem_cons.mpr ⟨gf_Mo_597, List.forall_mem_nil _⟩⟩, List.forall_mem_nil _, List.forall_mem_nil _, List.forall_mem_nil _, List.forall_mem_nil _, GG_pl⟩ (by decide +kernel)
def n_Mo_isEnd_an : List an_T := []
def t_Mo_isEnd_ct : ct_L := []
set_option maxRecDepth 100000 in
theorem c_Mo_isEnd {l : Launch} {D : va_G} {kA : Nat → ClassId} : ct_ok l D kA GG y_Mo_isEnd z_Mo_isEnd e_Mo_isEnd := chk_all_ok (FT := [(96, 13, 50)]) (PT := []) (CT := t_Mo_isEnd_ct) (KT := []) (NT := []) (AN := n_Mo_isEnd_an) (OT := []) 0 200 (List.forall_mem_nil _) (by decide +kernel) ⟨List.forall_mem_cons.mpr ⟨gf_Mo_96, List.forall_mem_nil _⟩, List.forall_mem_nil _, List.forall_mem_nil _, List.forall_mem_nil _, List.forall_mem_nil _, GG_pl⟩ (by decide +kernel)
def n_Mo_isMember_an : List an_T := [(2, [(0, (2, 0, 0, [150])), (1, (0, 0, 23, [])), (2, (0, 0, 26, []))], [], (0, 0), [(0, 0, 99998), (1, 2, 26), (0, 0, 100000)], [], [], [], 0, [], [])]
def t_Mo_isMember_ct : ct_L := []
set_option maxRecDepth 100000 in
theorem c_Mo_isMember {l : Launch} {D : va_G} {kA : Nat → ClassId} : ct_ok l D kA GG y_Mo_isMember z_Mo_isMember e_Mo_isMember := chk_all_ok (FT := [(219, 13, 98), (795, 13, 99)]) (PT := []) (CT := t_Mo_isMember_ct) (KT := []) (NT := []) (AN := n_Mo_isMember_an) (OT := []) 3 200 (List.forall_mem_nil _) (by decide +kernel) ⟨List.forall_mem_cons.mpr ⟨gf_Mo_219, List.forall_mem_cons.mpr ⟨gf_Mo_795, List.forall_mem_nil _⟩⟩, List.forall_mem_nil _, List.forall_mem_nil _, List.forall_mem_nil _, List.forall_mem_nil _, GG_pl⟩ (by decide +kernel)
def n_Mo_isSmall_an : List an_T := [(2, [(0, (2, 0, 0, [150])), (1, (0, 0, 76, []))], [], (0, 0), [(0, 0, 99998), (1, 1, 76), (0, 0, 100000)], [], [], [], 0, [], [])]
def t_Mo_isSmall_ct : ct_L := []
set_option maxRecDepth 100000 in
theorem c_Mo_isSmall {l : Launch} {D : va_G} {kA : Nat → ClassId} : ct_ok l D kA GG y_Mo_isSmall z_Mo_isSmall e_Mo_isSmall := chk_all_ok (FT := [(231, 13, 105), (852, 13, 101)]) (PT := []) (CT := t_Mo_isSmall_ct) (KT := []) (NT := []) (AN := n_Mo_isSmall_an) (OT := []) 3 200 (List.forall_mem_nil _) (by decide +kernel) ⟨List.forall_mem_cons.mpr ⟨gf_Mo_231, List.forall_mem_cons.mpr ⟨gf_Mo_852, List.forall_mem_nil _⟩⟩, List.forall_mem_nil _, List.forall_mem_nil _, List.forall_mem_nil _, List.forall_mem_nil _, GG_pl⟩ (by decide +kernel)
def o_Mo_isWithin_0 : or_T := (2, 3, [(1, (0, -1, 7, []))], [], [], [(0, -1, 8, [])], [(23, [1, 3], [0, 1, -1])], [], [])
theorem oo_Mo_isWithin_0 {kA : Nat → ClassId} : or_ok kA GG o_Mo_isWithin_0 := by
  intro A ta ws vs hD hth hl hk hds hf
  have hl : vs.length = 3 := hl
  have hk : ∀ q ∈ ([(1, (0, -1, 7, []))] : List (Nat × tv_T)), tv_ok ta q.2 (n_v vs q.1) := hk
  obtain ⟨t1, hk⟩ := List.forall_mem_cons.mp hk
  have t1 : tv_ok ta (0, -1, 7, []) (n_v vs 1) := t1
  have k1 : (-1) ≤ v_iv (n_v vs 1) ∧ v_iv (n_v vs 1) ≤ 7 := tv_rng t1
  obtain ⟨x, ex, hx⟩ := iv_ex (ta := ta) (lo := (-1)) (hi := 8) (z := 8) (by omega) (by omega) (by omega) (by omega)
  have ex2 : v_iv (Value.int x) = 8 := ex
  have ex3 : (-1) ≤ v_iv (Value.int x) ∧ v_iv (Value.int x) ≤ 8 := tv_rng hx
  have e_1 : n_v (vs ++ [Value.int x]) 1 = n_v vs 1 := n_v_old (by rw [hl]; decide)
  have e_3 : n_v (vs ++ [Value.int x]) 3 = Value.int x := n_v_new hl
  have nf0 : fc_1 (23, [1, 3], [0, 1, -1]) ws (vs ++ [Value.int x]) := by
    refine ⟨fun n hn => ?_, ?_⟩
    · have hn : n ∈ [1, 3] := hn
      rw [List.length_append, hl]
      simp only [List.mem_cons, List.not_mem_nil, or_false] at hn
      show n < 3 + 1; omega
    · show 1 * v_iv (n_v (vs ++ [Value.int x]) 1) + ((-1) * v_iv (n_v (vs ++ [Value.int x]) 3) + 0) ≤ 0
      rw [e_1]
      rw [e_3]
      omega
  exact ⟨(fun _ h => (by cases h)), [Value.int x], ag_one hx, List.forall_mem_cons.mpr ⟨⟨show (23 : Nat) < 100 from by decide, nf0⟩, (fun _ h => (by cases h))⟩, (fun _ h => (by cases h))⟩
def o_Mo_isWithin_1 : or_T := (26, 11, [(3, (0, 1, 7, [])), (4, (0, -1, 8, [])), (6, (5, 0, 66297, [539])), (7, (0, 531, 531, [])), (8, (0, 531, 66828, [])), (9, (0, 532, 66835, [])), (10, (0, -1, 6, [])), (5, (2, 0, 0, [152]))], [(10, [10, 5, 9], []), (1, [9, 8, 3], []), (1, [8, 6, 7], []), (8, [3], [4]), (23, [3, 4], [0, 1, -1])], [], [], [(23, [10, 3], [-1, 1, -1])], [], [(9, 3, 531, 66828), (9, 8, 1, 7), (9, 6, 532, 538), (8, 6, 531, 531)])
theorem oo_Mo_isWithin_1 {kA : Nat → ClassId} : or_ok kA GG o_Mo_isWithin_1 := by
  intro A ta ws vs hD hth hl hk hds hf
  have hl : vs.length = 11 := hl
  have hk : ∀ q ∈ ([(3, (0, 1, 7, [])), (4, (0, -1, 8, [])), (6, (5, 0, 66297, [539])), (7, (0, 531, 531, [])), (8, (0, 531, 66828, [])), (9, (0, 532, 66835, [])), (10, (0, -1, 6, [])), (5, (2, 0, 0, [152]))] : List (Nat × tv_T)), tv_ok ta q.2 (n_v vs q.1) := hk
  obtain ⟨t3, hk⟩ := List.forall_mem_cons.mp hk
  have t3 : tv_ok ta (0, 1, 7, []) (n_v vs 3) := t3
  have k3 : 1 ≤ v_iv (n_v vs 3) ∧ v_iv (n_v vs 3) ≤ 7 := tv_rng t3
  obtain ⟨t4, hk⟩ := List.forall_mem_cons.mp hk
  have t4 : tv_ok ta (0, -1, 8, []) (n_v vs 4) := t4
  have k4 : (-1) ≤ v_iv (n_v vs 4) ∧ v_iv (n_v vs 4) ≤ 8 := tv_rng t4
  obtain ⟨t6, hk⟩ := List.forall_mem_cons.mp hk
  have t6 : tv_ok ta (5, 0, 66297, [539]) (n_v vs 6) := t6
  obtain ⟨k6, q6_⟩ : (0 ≤ v_iv (n_v vs 6) ∧ v_iv (n_v vs 6) ≤ 66297) ∧ ∃ q : Int, v_iv (n_v vs 6) = 539 * q := tv_dvk t6
  obtain ⟨q6, hq6⟩ := q6_
  obtain ⟨t7, hk⟩ := List.forall_mem_cons.mp hk
  have t7 : tv_ok ta (0, 531, 531, []) (n_v vs 7) := t7
  have k7 : 531 ≤ v_iv (n_v vs 7) ∧ v_iv (n_v vs 7) ≤ 531 := tv_rng t7
  obtain ⟨t8, hk⟩ := List.forall_mem_cons.mp hk
  have t8 : tv_ok ta (0, 531, 66828, []) (n_v vs 8) := t8
  have k8 : 531 ≤ v_iv (n_v vs 8) ∧ v_iv (n_v vs 8) ≤ 66828 := tv_rng t8
  obtain ⟨t9, hk⟩ := List.forall_mem_cons.mp hk
  have t9 : tv_ok ta (0, 532, 66835, []) (n_v vs 9) := t9
  have k9 : 532 ≤ v_iv (n_v vs 9) ∧ v_iv (n_v vs 9) ≤ 66835 := tv_rng t9
  obtain ⟨t10, hk⟩ := List.forall_mem_cons.mp hk
  have t10 : tv_ok ta (0, -1, 6, []) (n_v vs 10) := t10
  have k10 : (-1) ≤ v_iv (n_v vs 10) ∧ v_iv (n_v vs 10) ≤ 6 := tv_rng t10
  obtain ⟨t5, hk⟩ := List.forall_mem_cons.mp hk
  have t5 : tv_ok ta (2, 0, 0, [152]) (n_v vs 5) := t5
  have r5 : ta (v_ad (n_v vs 5)) = some 152 := tv_rg t5
  have hds : ∀ q ∈ ([(9, 3, 531, 66828), (9, 8, 1, 7), (9, 6, 532, 538), (8, 6, 531, 531)] : List of_T), n_iv vs q.2.1 + q.2.2.1 ≤ n_iv vs q.1 ∧ n_iv vs q.1 ≤ n_iv vs q.2.1 + q.2.2.2 := hds
  obtain ⟨d0, hds⟩ := List.forall_mem_cons.mp hds
  have d0 : v_iv (n_v vs 3) + 531 ≤ v_iv (n_v vs 9) ∧ v_iv (n_v vs 9) ≤ v_iv (n_v vs 3) + 66828 := d0
  obtain ⟨d1, hds⟩ := List.forall_mem_cons.mp hds
  have d1 : v_iv (n_v vs 8) + 1 ≤ v_iv (n_v vs 9) ∧ v_iv (n_v vs 9) ≤ v_iv (n_v vs 8) + 7 := d1
  obtain ⟨d2, hds⟩ := List.forall_mem_cons.mp hds
  have d2 : v_iv (n_v vs 6) + 532 ≤ v_iv (n_v vs 9) ∧ v_iv (n_v vs 9) ≤ v_iv (n_v vs 6) + 538 := d2
  obtain ⟨d3, hds⟩ := List.forall_mem_cons.mp hds
  have d3 : v_iv (n_v vs 6) + 531 ≤ v_iv (n_v vs 8) ∧ v_iv (n_v vs 8) ≤ v_iv (n_v vs 6) + 531 := d3
  have hf : fc_ok [(10, [10, 5, 9], []), (1, [9, 8, 3], []), (1, [8, 6, 7], []), (8, [3], [4]), (23, [3, 4], [0, 1, -1])] ta ws vs := hf
  obtain ⟨f0, hf⟩ := fc_un (show (10 : Nat) < 100 from by decide) hf
  have f0 : v_iv (n_v vs 10) = w_el ws (v_ad (n_v vs 5)) (v_iv (n_v vs 9)).toNat := f0
  obtain ⟨f1, hf⟩ := fc_un (show (1 : Nat) < 100 from by decide) hf
  have f1 : v_iv (n_v vs 9) = v_iv (n_v vs 8) + v_iv (n_v vs 3) := f1
  obtain ⟨f2, hf⟩ := fc_un (show (1 : Nat) < 100 from by decide) hf
  have f2 : v_iv (n_v vs 8) = v_iv (n_v vs 6) + v_iv (n_v vs 7) := f2
  obtain ⟨f3, hf⟩ := fc_un (show (8 : Nat) < 100 from by decide) hf
  have f3 : 0 < v_iv (n_v vs 3) := f3
  obtain ⟨f4, hf⟩ := fc_un (show (23 : Nat) < 100 from by decide) hf
  have f4 : 1 * v_iv (n_v vs 3) + ((-1) * v_iv (n_v vs 4) + 0) ≤ 0 := f4
  have e0 := pl_cp hD hth r5 (g := GG_152) rfl rfl rfl pl_M1 (i := (v_iv (n_v vs 9)).toNat) (j := (v_iv (n_v vs 9)).toNat) (by show (v_iv (n_v vs 9)).toNat < 66836; omega) rfl
  rw [← f0] at e0
  have e1 := pl_gin e0 (k := v_iv (n_v vs 3)) (by omega) (by omega) (by omega)
  have nf0 : fc_1 (23, [10, 3], [-1, 1, -1]) ws (vs) := by
    refine ⟨fun n hn => ?_, ?_⟩
    · have hn : n ∈ [10, 3] := hn
      rw [hl]
      simp only [List.mem_cons, List.not_mem_nil, or_false] at hn
      show n < 11; omega
    · show 1 * v_iv (n_v vs 10) + ((-1) * v_iv (n_v vs 3) + 0) ≤ (-1)
      omega
  refine ⟨(fun _ h => (by cases h)), [], trivial, ?_, (fun _ h => (by cases h))⟩
  rw [List.append_nil]
  exact List.forall_mem_cons.mpr ⟨⟨show (23 : Nat) < 100 from by decide, nf0⟩, (fun _ h => (by cases h))⟩
def o_Mo_isWithin_2 : or_T := (27, 11, [(0, (2, 0, 0, [150])), (2, (0, -1, 7, [])), (3, (0, 1, 7, [])), (4, (0, -1, 8, [])), (5, (2, 0, 0, [152])), (6, (0, 0, 66297, [])), (7, (0, 531, 531, [])), (8, (0, 531, 66828, [])), (9, (0, 532, 66835, [])), (10, (0, -1, 6, []))], [(23, [10, 3], [-1, 1, -1]), (10, [10, 5, 9], []), (1, [9, 8, 3], []), (1, [8, 6, 7], []), (9, [6, 0], [5]), (9, [5, 0], [2]), (7, [3, 2], [1]), (8, [3], [4]), (23, [3, 4], [0, 1, -1])], [], [(0, -1, 8, [])], [(23, [10, 11], [-1, 1, -1]), (23, [11], [-1, -1])], [(11, 4, 0, 0)], [(9, 3, 531, 66828), (9, 2, -4294967296, 66836), (9, 8, 1, 7), (9, 6, 532, 538), (8, 6, 531, 531), (2, 3, -4294967296, 8), (3, 2, -4294967296, 8)])
theorem oo_Mo_isWithin_2 {kA : Nat → ClassId} : or_ok kA GG o_Mo_isWithin_2 := by
  intro A ta ws vs hD hth hl hk hds hf
  have hl : vs.length = 11 := hl
  have hk : ∀ q ∈ ([(0, (2, 0, 0, [150])), (2, (0, -1, 7, [])), (3, (0, 1, 7, [])), (4, (0, -1, 8, [])), (5, (2, 0, 0, [152])), (6, (0, 0, 66297, [])), (7, (0, 531, 531, [])), (8, (0, 531, 66828, [])), (9, (0, 532, 66835, [])), (10, (0, -1, 6, []))] : List (Nat × tv_T)), tv_ok ta q.2 (n_v vs q.1) := hk
  obtain ⟨t0, hk⟩ := List.forall_mem_cons.mp hk
  have t0 : tv_ok ta (2, 0, 0, [150]) (n_v vs 0) := t0
  have r0 : ta (v_ad (n_v vs 0)) = some 150 := tv_rg t0
  obtain ⟨t2, hk⟩ := List.forall_mem_cons.mp hk
  have t2 : tv_ok ta (0, -1, 7, []) (n_v vs 2) := t2
  have k2 : (-1) ≤ v_iv (n_v vs 2) ∧ v_iv (n_v vs 2) ≤ 7 := tv_rng t2
  obtain ⟨t3, hk⟩ := List.forall_mem_cons.mp hk
  have t3 : tv_ok ta (0, 1, 7, []) (n_v vs 3) := t3
  have k3 : 1 ≤ v_iv (n_v vs 3) ∧ v_iv (n_v vs 3) ≤ 7 := tv_rng t3
  obtain ⟨t4, hk⟩ := List.forall_mem_cons.mp hk
  have t4 : tv_ok ta (0, -1, 8, []) (n_v vs 4) := t4
  have k4 : (-1) ≤ v_iv (n_v vs 4) ∧ v_iv (n_v vs 4) ≤ 8 := tv_rng t4
  obtain ⟨t5, hk⟩ := List.forall_mem_cons.mp hk
  have t5 : tv_ok ta (2, 0, 0, [152]) (n_v vs 5) := t5
  have r5 : ta (v_ad (n_v vs 5)) = some 152 := tv_rg t5
  obtain ⟨t6, hk⟩ := List.forall_mem_cons.mp hk
  have t6 : tv_ok ta (0, 0, 66297, []) (n_v vs 6) := t6
  have k6 : 0 ≤ v_iv (n_v vs 6) ∧ v_iv (n_v vs 6) ≤ 66297 := tv_rng t6
  obtain ⟨t7, hk⟩ := List.forall_mem_cons.mp hk
  have t7 : tv_ok ta (0, 531, 531, []) (n_v vs 7) := t7
  have k7 : 531 ≤ v_iv (n_v vs 7) ∧ v_iv (n_v vs 7) ≤ 531 := tv_rng t7
  obtain ⟨t8, hk⟩ := List.forall_mem_cons.mp hk
  have t8 : tv_ok ta (0, 531, 66828, []) (n_v vs 8) := t8
  have k8 : 531 ≤ v_iv (n_v vs 8) ∧ v_iv (n_v vs 8) ≤ 66828 := tv_rng t8
  obtain ⟨t9, hk⟩ := List.forall_mem_cons.mp hk
  have t9 : tv_ok ta (0, 532, 66835, []) (n_v vs 9) := t9
  have k9 : 532 ≤ v_iv (n_v vs 9) ∧ v_iv (n_v vs 9) ≤ 66835 := tv_rng t9
  obtain ⟨t10, hk⟩ := List.forall_mem_cons.mp hk
  have t10 : tv_ok ta (0, -1, 6, []) (n_v vs 10) := t10
  have k10 : (-1) ≤ v_iv (n_v vs 10) ∧ v_iv (n_v vs 10) ≤ 6 := tv_rng t10
  have hds : ∀ q ∈ ([(9, 3, 531, 66828), (9, 2, -4294967296, 66836), (9, 8, 1, 7), (9, 6, 532, 538), (8, 6, 531, 531), (2, 3, -4294967296, 8), (3, 2, -4294967296, 8)] : List of_T), n_iv vs q.2.1 + q.2.2.1 ≤ n_iv vs q.1 ∧ n_iv vs q.1 ≤ n_iv vs q.2.1 + q.2.2.2 := hds
  obtain ⟨d0, hds⟩ := List.forall_mem_cons.mp hds
  have d0 : v_iv (n_v vs 3) + 531 ≤ v_iv (n_v vs 9) ∧ v_iv (n_v vs 9) ≤ v_iv (n_v vs 3) + 66828 := d0
  obtain ⟨d1, hds⟩ := List.forall_mem_cons.mp hds
  have d1 : v_iv (n_v vs 2) + (-4294967296) ≤ v_iv (n_v vs 9) ∧ v_iv (n_v vs 9) ≤ v_iv (n_v vs 2) + 66836 := d1
  obtain ⟨d2, hds⟩ := List.forall_mem_cons.mp hds
  have d2 : v_iv (n_v vs 8) + 1 ≤ v_iv (n_v vs 9) ∧ v_iv (n_v vs 9) ≤ v_iv (n_v vs 8) + 7 := d2
  obtain ⟨d3, hds⟩ := List.forall_mem_cons.mp hds
  have d3 : v_iv (n_v vs 6) + 532 ≤ v_iv (n_v vs 9) ∧ v_iv (n_v vs 9) ≤ v_iv (n_v vs 6) + 538 := d3
  obtain ⟨d4, hds⟩ := List.forall_mem_cons.mp hds
  have d4 : v_iv (n_v vs 6) + 531 ≤ v_iv (n_v vs 8) ∧ v_iv (n_v vs 8) ≤ v_iv (n_v vs 6) + 531 := d4
  obtain ⟨d5, hds⟩ := List.forall_mem_cons.mp hds
  have d5 : v_iv (n_v vs 3) + (-4294967296) ≤ v_iv (n_v vs 2) ∧ v_iv (n_v vs 2) ≤ v_iv (n_v vs 3) + 8 := d5
  obtain ⟨d6, hds⟩ := List.forall_mem_cons.mp hds
  have d6 : v_iv (n_v vs 2) + (-4294967296) ≤ v_iv (n_v vs 3) ∧ v_iv (n_v vs 3) ≤ v_iv (n_v vs 2) + 8 := d6
  have hf : fc_ok [(23, [10, 3], [-1, 1, -1]), (10, [10, 5, 9], []), (1, [9, 8, 3], []), (1, [8, 6, 7], []), (9, [6, 0], [5]), (9, [5, 0], [2]), (7, [3, 2], [1]), (8, [3], [4]), (23, [3, 4], [0, 1, -1])] ta ws vs := hf
  obtain ⟨f0, hf⟩ := fc_un (show (23 : Nat) < 100 from by decide) hf
  have f0 : 1 * v_iv (n_v vs 10) + ((-1) * v_iv (n_v vs 3) + 0) ≤ (-1) := f0
  obtain ⟨f1, hf⟩ := fc_un (show (10 : Nat) < 100 from by decide) hf
  have f1 : v_iv (n_v vs 10) = w_el ws (v_ad (n_v vs 5)) (v_iv (n_v vs 9)).toNat := f1
  obtain ⟨f2, hf⟩ := fc_un (show (1 : Nat) < 100 from by decide) hf
  have f2 : v_iv (n_v vs 9) = v_iv (n_v vs 8) + v_iv (n_v vs 3) := f2
  obtain ⟨f3, hf⟩ := fc_un (show (1 : Nat) < 100 from by decide) hf
  have f3 : v_iv (n_v vs 8) = v_iv (n_v vs 6) + v_iv (n_v vs 7) := f3
  obtain ⟨f4, hf⟩ := fc_un (show (9 : Nat) < 100 from by decide) hf
  have f4 : n_v vs 6 = w_fd ws (v_ad (n_v vs 0)) 5 := f4
  obtain ⟨f5, hf⟩ := fc_un (show (9 : Nat) < 100 from by decide) hf
  have f5 : n_v vs 5 = w_fd ws (v_ad (n_v vs 0)) 2 := f5
  obtain ⟨f6, hf⟩ := fc_un (show (7 : Nat) < 100 from by decide) hf
  have f6 : v_iv (n_v vs 3) ≠ v_iv (n_v vs 2) := f6
  obtain ⟨f7, hf⟩ := fc_un (show (8 : Nat) < 100 from by decide) hf
  have f7 : 0 < v_iv (n_v vs 3) := f7
  obtain ⟨f8, hf⟩ := fc_un (show (23 : Nat) < 100 from by decide) hf
  have f8 : 1 * v_iv (n_v vs 3) + ((-1) * v_iv (n_v vs 4) + 0) ≤ 0 := f8
  have cr_0_2 : ta (w_ar ws (n_v vs 0) 2) = some 152 := tv_rg (th_fd hD hth r0 (g := GG_150) rfl (k := 2) (t := (2, 0, 0, [152])) rfl rfl)
  have ad_5 : v_ad (n_v vs 5) = w_ar ws (n_v vs 0) 2 := congrArg v_ad f5
  rw [ad_5] at f1
  have g4 : v_iv (n_v vs 6) = w_fi ws (n_v vs 0) 5 := congrArg v_iv f4
  obtain ⟨x, ex, hx⟩ := iv_ex (ta := ta) (lo := (-1)) (hi := 8) (z := 0 + (1 * v_iv (n_v vs 4) + 0)) (by omega) (by omega) (by omega) (by omega)
  have ex2 : v_iv (Value.int x) = 0 + (1 * v_iv (n_v vs 4) + 0) := ex
  have ex3 : (-1) ≤ v_iv (Value.int x) ∧ v_iv (Value.int x) ≤ 8 := tv_rng hx
  have e_10 : n_v (vs ++ [Value.int x]) 10 = n_v vs 10 := n_v_old (by rw [hl]; decide)
  have e_11 : n_v (vs ++ [Value.int x]) 11 = Value.int x := n_v_new hl
  have nf0 : fc_1 (23, [10, 11], [-1, 1, -1]) ws (vs ++ [Value.int x]) := by
    refine ⟨fun n hn => ?_, ?_⟩
    · have hn : n ∈ [10, 11] := hn
      rw [List.length_append, hl]
      simp only [List.mem_cons, List.not_mem_nil, or_false] at hn
      show n < 11 + 1; omega
    · show 1 * v_iv (n_v (vs ++ [Value.int x]) 10) + ((-1) * v_iv (n_v (vs ++ [Value.int x]) 11) + 0) ≤ (-1)
      rw [e_10]
      rw [e_11]
      omega
  have nf1 : fc_1 (23, [11], [-1, -1]) ws (vs ++ [Value.int x]) := by
    refine ⟨fun n hn => ?_, ?_⟩
    · have hn : n ∈ [11] := hn
      rw [List.length_append, hl]
      simp only [List.mem_cons, List.not_mem_nil, or_false] at hn
      show n < 11 + 1; omega
    · show (-1) * v_iv (n_v (vs ++ [Value.int x]) 11) + 0 ≤ (-1)
      rw [e_11]
      omega
  obtain ⟨x0, e0, _, _⟩ := tv_int t4 rfl
  have e1 : v_iv (n_v vs 4) = x0.toInt := by rw [e0]; rfl
  have ho : sy_ofs (vs ++ [Value.int x]) (11, 4, 0, 0) := by
    refine ⟨x, x0, by rw [List.getElem?_append_right (by rw [hl]; decide), hl]; rfl, ?_, ?_, ?_⟩
    · rw [List.getElem?_append_left (by rw [hl]; decide)]; exact n_v_some (by rw [hl]; decide) e0
    · show x0.toInt + 0 ≤ x.toInt; omega
    · show x.toInt ≤ x0.toInt + 0; omega
  exact ⟨(fun _ h => (by cases h)), [Value.int x], ag_one hx, List.forall_mem_cons.mpr ⟨⟨show (23 : Nat) < 100 from by decide, nf0⟩, List.forall_mem_cons.mpr ⟨⟨show (23 : Nat) < 100 from by decide, nf1⟩, (fun _ h => (by cases h))⟩⟩, List.forall_mem_cons.mpr ⟨ho, (fun _ h => (by cases h))⟩⟩
def o_Mo_isWithin_3 : or_T := (2, 6, [(3, (0, -1, 6, [])), (5, (0, -1, 8, []))], [(23, [3, 5], [-1, 1, -1]), (23, [5], [-1, -1])], [], [(0, -1, 8, [])], [(23, [3, 6], [0, 1, -1])], [(6, 5, -1000000000000, -1)], [])
theorem oo_Mo_isWithin_3 {kA : Nat → ClassId} : or_ok kA GG o_Mo_isWithin_3 := by
  intro A ta ws vs hD hth hl hk hds hf
  have hl : vs.length = 6 := hl
  have hk : ∀ q ∈ ([(3, (0, -1, 6, [])), (5, (0, -1, 8, []))] : List (Nat × tv_T)), tv_ok ta q.2 (n_v vs q.1) := hk
  obtain ⟨t3, hk⟩ := List.forall_mem_cons.mp hk
  have t3 : tv_ok ta (0, -1, 6, []) (n_v vs 3) := t3
  have k3 : (-1) ≤ v_iv (n_v vs 3) ∧ v_iv (n_v vs 3) ≤ 6 := tv_rng t3
  obtain ⟨t5, hk⟩ := List.forall_mem_cons.mp hk
  have t5 : tv_ok ta (0, -1, 8, []) (n_v vs 5) := t5
  have k5 : (-1) ≤ v_iv (n_v vs 5) ∧ v_iv (n_v vs 5) ≤ 8 := tv_rng t5
  have hf : fc_ok [(23, [3, 5], [-1, 1, -1]), (23, [5], [-1, -1])] ta ws vs := hf
  obtain ⟨f0, hf⟩ := fc_un (show (23 : Nat) < 100 from by decide) hf
  have f0 : 1 * v_iv (n_v vs 3) + ((-1) * v_iv (n_v vs 5) + 0) ≤ (-1) := f0
  obtain ⟨f1, hf⟩ := fc_un (show (23 : Nat) < 100 from by decide) hf
  have f1 : (-1) * v_iv (n_v vs 5) + 0 ≤ (-1) := f1
  obtain ⟨x, ex, hx⟩ := iv_ex (ta := ta) (lo := (-1)) (hi := 8) (z := (-1) + (1 * v_iv (n_v vs 5) + 0)) (by omega) (by omega) (by omega) (by omega)
  have ex2 : v_iv (Value.int x) = (-1) + (1 * v_iv (n_v vs 5) + 0) := ex
  have ex3 : (-1) ≤ v_iv (Value.int x) ∧ v_iv (Value.int x) ≤ 8 := tv_rng hx
  have e_3 : n_v (vs ++ [Value.int x]) 3 = n_v vs 3 := n_v_old (by rw [hl]; decide)
  have e_6 : n_v (vs ++ [Value.int x]) 6 = Value.int x := n_v_new hl
  have nf0 : fc_1 (23, [3, 6], [0, 1, -1]) ws (vs ++ [Value.int x]) := by
    refine ⟨fun n hn => ?_, ?_⟩
    · have hn : n ∈ [3, 6] := hn
      rw [List.length_append, hl]
      simp only [List.mem_cons, List.not_mem_nil, or_false] at hn
      show n < 6 + 1; omega
    · show 1 * v_iv (n_v (vs ++ [Value.int x]) 3) + ((-1) * v_iv (n_v (vs ++ [Value.int x]) 6) + 0) ≤ 0
      rw [e_3]
      rw [e_6]
      omega
  obtain ⟨x0, e0, _, _⟩ := tv_int t5 rfl
  have e1 : v_iv (n_v vs 5) = x0.toInt := by rw [e0]; rfl
  have ho : sy_ofs (vs ++ [Value.int x]) (6, 5, -1000000000000, -1) := by
    refine ⟨x, x0, by rw [List.getElem?_append_right (by rw [hl]; decide), hl]; rfl, ?_, ?_, ?_⟩
    · rw [List.getElem?_append_left (by rw [hl]; decide)]; exact n_v_some (by rw [hl]; decide) e0
    · show x0.toInt + (-1000000000000) ≤ x.toInt; omega
    · show x.toInt ≤ x0.toInt + (-1); omega
  exact ⟨(fun _ h => (by cases h)), [Value.int x], ag_one hx, List.forall_mem_cons.mpr ⟨⟨show (23 : Nat) < 100 from by decide, nf0⟩, (fun _ h => (by cases h))⟩, List.forall_mem_cons.mpr ⟨ho, (fun _ h => (by cases h))⟩⟩
def n_Mo_isWithin_an : List an_T := [(2, [(0, (2, 0, 0, [150])), (1, (0, -1, 7, [])), (2, (0, -1, 7, [])), (3, (0, -1, 7, []))], [], (0, 0), [(0, 0, 99998), (2, 4, -1), (0, 0, 100000)], [(1, 2, -1000000000000, 8), (1, 3, -1000000000000, 8), (2, 1, -1000000000000, 8), (2, 3, -1000000000000, 8), (3, 1, -1000000000000, 7), (3, 2, -1000000000000, 8)], [], [], 0, [(0, -1, 8, [])], [(23, [3, 4], [0, 1, -1])]), (27, [(0, (2, 0, 0, [150])), (1, (0, -1, 7, [])), (2, (0, -1, 7, [])), (3, (0, -1, 6, []))], [], (0, 0), [(0, 0, 99998), (2, 5, -1), (0, 0, 99973)], [(1, 2, -1000000000000, 8), (1, 3, -1000000000000, 8), (1, 4, -1000000000000, 7), (2, 1, -1000000000000, 8), (2, 3, -1000000000000, 8), (2, 4, -1000000000000, 7), (3, 1, -1000000000000, 7), (3, 2, -1000000000000, 7), (3, 4, -1000000000000, 6), (4, 1, -1000000000000, 66298), (4, 2, -1000000000000, 66298), (4, 3, -1000000000000, 66298)], [((0, 5), (5, 0, 66297, [539]))], [], 0, [(0, -1, 8, [])], [(23, [3, 5], [-1, 1, -1]), (23, [5], [-1, -1])])]
def t_Mo_isWithin_ct : ct_L := []
set_option maxRecDepth 100000 in
theorem c_Mo_isWithin {l : Launch} {D : va_G} {kA : Nat → ClassId} : ct_ok l D kA GG y_Mo_isWithin z_Mo_isWithin e_Mo_isWithin := chk_all_ok (FT := [(16, 13, 2), (391, 13, 5)]) (PT := []) (CT := t_Mo_isWithin_ct) (KT := []) (NT := []) (AN := n_Mo_isWithin_an) (OT := [o_Mo_isWithin_0, o_Mo_isWithin_1, o_Mo_isWithin_2, o_Mo_isWithin_3]) 3 200 (List.forall_mem_cons.mpr ⟨oo_Mo_isWithin_0, List.forall_mem_cons.mpr ⟨oo_Mo_isWithin_1, List.forall_mem_cons.mpr ⟨oo_Mo_isWithin_2, List.forall_mem_cons.mpr ⟨oo_Mo_isWithin_3, List.forall_mem_nil _⟩⟩⟩⟩) (by decide +kernel) ⟨List.forall_mem_cons.mpr ⟨gf_Mo_16, List.forall_mem_cons.mpr ⟨gf_Mo_391, List.forall_mem_nil _⟩⟩, List.forall_mem_nil _, List.forall_mem_nil _, List.forall_mem_nil _, List.forall_mem_nil _, GG_pl⟩ (by decide +kernel)
def o_Mo_line_0 : or_T := (9, 6, [(0, (2, 0, 0, [150])), (3, (0, 0, 129, [])), (5, (0, 0, 130, []))], [(9, [5, 0], [107]), (20, [0, 3], [30, 0, 1, 1, 107, -1, 0, 0])], [(5, (0, 0, 129, []))], [], [], [], [])
theorem oo_Mo_line_0 {kA : Nat → ClassId} : or_ok kA GG o_Mo_line_0 := by
  intro A ta ws vs hD hth hl hk hds hf
  have hl : vs.length = 6 := hl
  have hk : ∀ q ∈ ([(0, (2, 0, 0, [150])), (3, (0, 0, 129, [])), (5, (0, 0, 130, []))] : List (Nat × tv_T)), tv_ok ta q.2 (n_v vs q.1) := hk
  obtain ⟨t0, hk⟩ := List.forall_mem_cons.mp hk
  have t0 : tv_ok ta (2, 0, 0, [150]) (n_v vs 0) := t0
  have r0 : ta (v_ad (n_v vs 0)) = some 150 := tv_rg t0
  obtain ⟨t3, hk⟩ := List.forall_mem_cons.mp hk
  have t3 : tv_ok ta (0, 0, 129, []) (n_v vs 3) := t3
  have k3 : 0 ≤ v_iv (n_v vs 3) ∧ v_iv (n_v vs 3) ≤ 129 := tv_rng t3
  obtain ⟨t5, hk⟩ := List.forall_mem_cons.mp hk
  have t5 : tv_ok ta (0, 0, 130, []) (n_v vs 5) := t5
  have k5 : 0 ≤ v_iv (n_v vs 5) ∧ v_iv (n_v vs 5) ≤ 130 := tv_rng t5
  have hf : fc_ok [(9, [5, 0], [107]), (20, [0, 3], [30, 0, 1, 1, 107, -1, 0, 0])] ta ws vs := hf
  obtain ⟨f0, hf⟩ := fc_un (show (9 : Nat) < 100 from by decide) hf
  have f0 : n_v vs 5 = w_fd ws (v_ad (n_v vs 0)) 107 := f0
  obtain ⟨f1, hf⟩ := fc_un (show (20 : Nat) < 100 from by decide) hf
  have f1 : 1 * w_fi ws (n_v vs 0) 107 + ((-1) * v_iv (n_v vs 3) + 0) ≤ 0 := f1
  have g0 : v_iv (n_v vs 5) = w_fi ws (n_v vs 0) 107 := congrArg v_iv f0
  have kz_0_107 : 0 ≤ w_fi ws (n_v vs 0) 107 ∧ w_fi ws (n_v vs 0) 107 ≤ 130 := tv_rng (th_fd hD hth r0 (g := GG_150) rfl (k := 107) (t := (0, 0, 130, [])) rfl rfl)
  have rf5 : tv_ok ta (0, 0, 129, []) (n_v vs 5) := tv_in t5 (by omega) (by omega)
  refine ⟨List.forall_mem_cons.mpr ⟨rf5, (fun _ h => (by cases h))⟩, [], trivial, ?_, (fun _ h => (by cases h))⟩
  rw [List.append_nil]
  exact (fun _ h => (by cases h))
def o_Mo_line_1 : or_T := (30, 9, [(0, (2, 0, 0, [150])), (3, (0, 0, 129, [])), (4, (2, 0, 0, [225])), (5, (0, 0, 129, [])), (6, (2, 0, 0, [226])), (7, (0, 1, 1, [])), (8, (0, 1, 130, []))], [(101, [0, 8], [107]), (1, [8, 5, 7], []), (9, [5, 0], [107]), (20, [0, 3], [30, 0, 1, 1, 107, -1, 0, 0]), (100, [6, 5, 2], []), (9, [6, 0], [109]), (20, [0, 3], [30, 0, 1, 1, 107, -1, 0, 0]), (100, [4, 5, 1], []), (9, [4, 0], [108]), (20, [0, 3], [30, 0, 1, 1, 107, -1, 0, 0])], [], [], [(20, [0, 3], [30, 1, 1, 1, 107, -1, 0, 0])], [], [(8, 5, 1, 1)])
theorem oo_Mo_line_1 {kA : Nat → ClassId} : or_ok kA GG o_Mo_line_1 := by
  intro A ta ws vs hD hth hl hk hds hf
  have hl : vs.length = 9 := hl
  have hk : ∀ q ∈ ([(0, (2, 0, 0, [150])), (3, (0, 0, 129, [])), (4, (2, 0, 0, [225])), (5, (0, 0, 129, [])), (6, (2, 0, 0, [226])), (7, (0, 1, 1, [])), (8, (0, 1, 130, []))] : List (Nat × tv_T)), tv_ok ta q.2 (n_v vs q.1) := hk
  obtain ⟨t0, hk⟩ := List.forall_mem_cons.mp hk
  have t0 : tv_ok ta (2, 0, 0, [150]) (n_v vs 0) := t0
  have r0 : ta (v_ad (n_v vs 0)) = some 150 := tv_rg t0
  obtain ⟨t3, hk⟩ := List.forall_mem_cons.mp hk
  have t3 : tv_ok ta (0, 0, 129, []) (n_v vs 3) := t3
  have k3 : 0 ≤ v_iv (n_v vs 3) ∧ v_iv (n_v vs 3) ≤ 129 := tv_rng t3
  obtain ⟨t4, hk⟩ := List.forall_mem_cons.mp hk
  have t4 : tv_ok ta (2, 0, 0, [225]) (n_v vs 4) := t4
  have r4 : ta (v_ad (n_v vs 4)) = some 225 := tv_rg t4
  obtain ⟨t5, hk⟩ := List.forall_mem_cons.mp hk
  have t5 : tv_ok ta (0, 0, 129, []) (n_v vs 5) := t5
  have k5 : 0 ≤ v_iv (n_v vs 5) ∧ v_iv (n_v vs 5) ≤ 129 := tv_rng t5
  obtain ⟨t6, hk⟩ := List.forall_mem_cons.mp hk
  have t6 : tv_ok ta (2, 0, 0, [226]) (n_v vs 6) := t6
  have r6 : ta (v_ad (n_v vs 6)) = some 226 := tv_rg t6
  obtain ⟨t7, hk⟩ := List.forall_mem_cons.mp hk
  have t7 : tv_ok ta (0, 1, 1, []) (n_v vs 7) := t7
  have k7 : 1 ≤ v_iv (n_v vs 7) ∧ v_iv (n_v vs 7) ≤ 1 := tv_rng t7
  obtain ⟨t8, hk⟩ := List.forall_mem_cons.mp hk
  have t8 : tv_ok ta (0, 1, 130, []) (n_v vs 8) := t8
  have k8 : 1 ≤ v_iv (n_v vs 8) ∧ v_iv (n_v vs 8) ≤ 130 := tv_rng t8
  have hds : ∀ q ∈ ([(8, 5, 1, 1)] : List of_T), n_iv vs q.2.1 + q.2.2.1 ≤ n_iv vs q.1 ∧ n_iv vs q.1 ≤ n_iv vs q.2.1 + q.2.2.2 := hds
  obtain ⟨d0, hds⟩ := List.forall_mem_cons.mp hds
  have d0 : v_iv (n_v vs 5) + 1 ≤ v_iv (n_v vs 8) ∧ v_iv (n_v vs 8) ≤ v_iv (n_v vs 5) + 1 := d0
  have hf : fc_ok [(101, [0, 8], [107]), (1, [8, 5, 7], []), (9, [5, 0], [107]), (20, [0, 3], [30, 0, 1, 1, 107, -1, 0, 0]), (100, [6, 5, 2], []), (9, [6, 0], [109]), (20, [0, 3], [30, 0, 1, 1, 107, -1, 0, 0]), (100, [4, 5, 1], []), (9, [4, 0], [108]), (20, [0, 3], [30, 0, 1, 1, 107, -1, 0, 0])] ta ws vs := hf
  obtain ⟨ta1, w1, le1, ⟨_, s1⟩, hf⟩ := fc_us (show ¬ (101 : Nat) < 100 from by decide) hf
  have s1 : (∀ b j, w_el ws b j = w_el w1 b j) ∧ ∀ b j, w_fd ws b j = if b = v_ad (n_v vs 0) ∧ j = 107 then n_v vs 8 else w_fd w1 b j := s1
  obtain ⟨f1, hf⟩ := fc_un (show (1 : Nat) < 100 from by decide) hf
  have f1 : v_iv (n_v vs 8) = v_iv (n_v vs 5) + v_iv (n_v vs 7) := f1
  obtain ⟨f2, hf⟩ := fc_un (show (9 : Nat) < 100 from by decide) hf
  have f2 : n_v vs 5 = w_fd w1 (v_ad (n_v vs 0)) 107 := f2
  obtain ⟨f3, hf⟩ := fc_un (show (20 : Nat) < 100 from by decide) hf
  have f3 : 1 * w_fi w1 (n_v vs 0) 107 + ((-1) * v_iv (n_v vs 3) + 0) ≤ 0 := f3
  obtain ⟨ta2, w2, le2, ⟨_, s2⟩, hf⟩ := fc_us (show ¬ (100 : Nat) < 100 from by decide) hf
  have s2 : (∀ b j, w_el w1 b j = if b = v_ad (n_v vs 6) ∧ j = (v_iv (n_v vs 5)).toNat then v_iv (n_v vs 2) else w_el w2 b j) ∧ ∀ b k, w_fd w1 b k = w_fd w2 b k := s2
  obtain ⟨f5, hf⟩ := fc_un (show (9 : Nat) < 100 from by decide) hf
  have f5 : n_v vs 6 = w_fd w2 (v_ad (n_v vs 0)) 109 := f5
  obtain ⟨f6, hf⟩ := fc_un (show (20 : Nat) < 100 from by decide) hf
  have f6 : 1 * w_fi w2 (n_v vs 0) 107 + ((-1) * v_iv (n_v vs 3) + 0) ≤ 0 := f6
  obtain ⟨ta3, w3, le3, ⟨_, s3⟩, hf⟩ := fc_us (show ¬ (100 : Nat) < 100 from by decide) hf
  have s3 : (∀ b j, w_el w2 b j = if b = v_ad (n_v vs 4) ∧ j = (v_iv (n_v vs 5)).toNat then v_iv (n_v vs 1) else w_el w3 b j) ∧ ∀ b k, w_fd w2 b k = w_fd w3 b k := s3
  obtain ⟨f8, hf⟩ := fc_un (show (9 : Nat) < 100 from by decide) hf
  have f8 : n_v vs 4 = w_fd w3 (v_ad (n_v vs 0)) 108 := f8
  obtain ⟨f9, hf⟩ := fc_un (show (20 : Nat) < 100 from by decide) hf
  have f9 : 1 * w_fi w3 (n_v vs 0) 107 + ((-1) * v_iv (n_v vs 3) + 0) ≤ 0 := f9
  have ar_0_108_1 : w_ar w1 (n_v vs 0) 108 = w_ar ws (n_v vs 0) 108 := by show v_ad (w_fd w1 _ _) = v_ad (w_fd ws _ _); rw [s1.2, if_neg (fun e => absurd e.2 (by decide))]
  have ar_0_108_2 : w_ar w2 (n_v vs 0) 108 = w_ar ws (n_v vs 0) 108 := by rw [← ar_0_108_1]; show v_ad (w_fd w2 _ _) = v_ad (w_fd w1 _ _); rw [s2.2]
  have ar_0_108_3 : w_ar w3 (n_v vs 0) 108 = w_ar ws (n_v vs 0) 108 := by rw [← ar_0_108_2]; show v_ad (w_fd w3 _ _) = v_ad (w_fd w2 _ _); rw [s3.2]
  have cr_0_108 : ta (w_ar ws (n_v vs 0) 108) = some 225 := tv_rg (th_fd hD hth r0 (g := GG_150) rfl (k := 108) (t := (2, 0, 0, [225])) rfl rfl)
  have ar_0_109_1 : w_ar w1 (n_v vs 0) 109 = w_ar ws (n_v vs 0) 109 := by show v_ad (w_fd w1 _ _) = v_ad (w_fd ws _ _); rw [s1.2, if_neg (fun e => absurd e.2 (by decide))]
  have ar_0_109_2 : w_ar w2 (n_v vs 0) 109 = w_ar ws (n_v vs 0) 109 := by rw [← ar_0_109_1]; show v_ad (w_fd w2 _ _) = v_ad (w_fd w1 _ _); rw [s2.2]
  have ar_0_109_3 : w_ar w3 (n_v vs 0) 109 = w_ar ws (n_v vs 0) 109 := by rw [← ar_0_109_2]; show v_ad (w_fd w3 _ _) = v_ad (w_fd w2 _ _); rw [s3.2]
  have cr_0_109 : ta (w_ar ws (n_v vs 0) 109) = some 226 := tv_rg (th_fd hD hth r0 (g := GG_150) rfl (k := 109) (t := (2, 0, 0, [226])) rfl rfl)
  have ad_6 : v_ad (n_v vs 6) = w_ar ws (n_v vs 0) 109 := (congrArg v_ad f5).trans ar_0_109_2
  have ad_4 : v_ad (n_v vs 4) = w_ar ws (n_v vs 0) 108 := (congrArg v_ad f8).trans ar_0_108_3
  have g2 : v_iv (n_v vs 5) = w_fi w1 (n_v vs 0) 107 := congrArg v_iv f2
  have fe_0_107_1 : w_fi ws (n_v vs 0) 107 = v_iv (n_v vs 8) := by show v_iv (w_fd _ _ _) = _; rw [s1.2, if_pos ⟨rfl, rfl⟩]
  have fe_0_107_2 : w_fi w1 (n_v vs 0) 107 = w_fi w2 (n_v vs 0) 107 := congrArg v_iv (s2.2 _ _)
  have fe_0_107_3 : w_fi w2 (n_v vs 0) 107 = w_fi w3 (n_v vs 0) 107 := congrArg v_iv (s3.2 _ _)
  have kz_0_107 : 0 ≤ w_fi ws (n_v vs 0) 107 ∧ w_fi ws (n_v vs 0) 107 ≤ 130 := tv_rng (th_fd hD hth r0 (g := GG_150) rfl (k := 107) (t := (0, 0, 130, [])) rfl rfl)
  have nf0 : fc_1 (20, [0, 3], [30, 1, 1, 1, 107, -1, 0, 0]) ws (vs) := by
    refine ⟨fun n hn => ?_, ?_⟩
    · have hn : n ∈ [0, 3] := hn
      rw [hl]
      simp only [List.mem_cons, List.not_mem_nil, or_false] at hn
      show n < 9; omega
    · show 1 * w_fi ws (n_v vs 0) 107 + ((-1) * v_iv (n_v vs 3) + 0) ≤ 1
      omega
  refine ⟨(fun _ h => (by cases h)), [], trivial, ?_, (fun _ h => (by cases h))⟩
  rw [List.append_nil]
  exact List.forall_mem_cons.mpr ⟨⟨show (20 : Nat) < 100 from by decide, nf0⟩, (fun _ h => (by cases h))⟩
def n_Mo_line_an : List an_T := []
def t_Mo_line_ct : ct_L := []
set_option maxRecDepth 100000 in
theorem c_Mo_line {l : Launch} {D : va_G} {kA : Nat → ClassId} : ct_ok l D kA GG y_Mo_line z_Mo_line e_Mo_line := chk_all_ok (FT := [(237, 13, 108), (240, 13, 109), (847, 13, 107)]) (PT := [(847, 13, 107, .int)]) (CT := t_Mo_line_ct) (KT := []) (NT := []) (AN := n_Mo_line_an) (OT := [o_Mo_line_0, o_Mo_line_1]) 0 200 (List.forall_mem_cons.mpr ⟨oo_Mo_line_0, List.forall_mem_cons.mpr ⟨oo_Mo_line_1, List.forall_mem_nil _⟩⟩) (by decide +kernel) ⟨List.forall_mem_cons.mpr ⟨gf_Mo_237, List.forall_mem_cons.mpr ⟨gf_Mo_240, List.forall_mem_cons.mpr ⟨gf_Mo_847, List.forall_mem_nil _⟩⟩⟩, List.forall_mem_cons.mpr ⟨pf_Mo_847, List.forall_mem_nil _⟩, List.forall_mem_nil _, List.forall_mem_nil _, List.forall_mem_nil _, GG_pl⟩ (by decide +kernel)
def n_Mo_longOf_an : List an_T := []
def t_Mo_longOf_ct : ct_L := []
set_option maxRecDepth 100000 in
theorem c_Mo_longOf {l : Launch} {D : va_G} {kA : Nat → ClassId} : ct_ok l D kA GG y_Mo_longOf z_Mo_longOf e_Mo_longOf := chk_all_ok (FT := [(16, 13, 2), (391, 13, 5)]) (PT := []) (CT := t_Mo_longOf_ct) (KT := []) (NT := []) (AN := n_Mo_longOf_an) (OT := []) 0 200 (List.forall_mem_nil _) (by decide +kernel) ⟨List.forall_mem_cons.mpr ⟨gf_Mo_16, List.forall_mem_cons.mpr ⟨gf_Mo_391, List.forall_mem_nil _⟩⟩, List.forall_mem_nil _, List.forall_mem_nil _, List.forall_mem_nil _, List.forall_mem_nil _, GG_pl⟩ (by decide +kernel)
def n_Mo_low_an : List an_T := []
def t_Mo_low_ct : ct_L := []
set_option maxRecDepth 100000 in
theorem c_Mo_low {l : Launch} {D : va_G} {kA : Nat → ClassId} : ct_ok l D kA GG y_Mo_low z_Mo_low e_Mo_low := chk_all_ok (FT := [(57, 13, 33), (60, 13, 34), (284, 13, 124)]) (PT := []) (CT := t_Mo_low_ct) (KT := []) (NT := []) (AN := n_Mo_low_an) (OT := []) 0 200 (List.forall_mem_nil _) (by decide +kernel) ⟨List.forall_mem_cons.mpr ⟨gf_Mo_57, List.forall_mem_cons.mpr ⟨gf_Mo_60, List.forall_mem_cons.mpr ⟨gf_Mo_284, List.forall_mem_nil _⟩⟩⟩, List.forall_mem_nil _, List.forall_mem_nil _, List.forall_mem_nil _, List.forall_mem_nil _, GG_pl⟩ (by decide +kernel)
def o_Mo_max_0 : or_T := (10, 2, [(0, (0, -2147483648, 2147483647, [])), (1, (0, -2147483648, 2147483647, []))], [(7, [0, 1], [5])], [], [], [(7, [1, 1], [5])], [], [])
theorem oo_Mo_max_0 {kA : Nat → ClassId} : or_ok kA GG o_Mo_max_0 := by
  intro A ta ws vs hD hth hl hk hds hf
  have hl : vs.length = 2 := hl
  have hk : ∀ q ∈ ([(0, (0, -2147483648, 2147483647, [])), (1, (0, -2147483648, 2147483647, []))] : List (Nat × tv_T)), tv_ok ta q.2 (n_v vs q.1) := hk
  obtain ⟨t0, hk⟩ := List.forall_mem_cons.mp hk
  have t0 : tv_ok ta (0, -2147483648, 2147483647, []) (n_v vs 0) := t0
  have k0 : (-2147483648) ≤ v_iv (n_v vs 0) ∧ v_iv (n_v vs 0) ≤ 2147483647 := tv_rng t0
  obtain ⟨t1, hk⟩ := List.forall_mem_cons.mp hk
  have t1 : tv_ok ta (0, -2147483648, 2147483647, []) (n_v vs 1) := t1
  have k1 : (-2147483648) ≤ v_iv (n_v vs 1) ∧ v_iv (n_v vs 1) ≤ 2147483647 := tv_rng t1
  have hf : fc_ok [(7, [0, 1], [5])] ta ws vs := hf
  obtain ⟨f0, hf⟩ := fc_un (show (7 : Nat) < 100 from by decide) hf
  have f0 : v_iv (n_v vs 0) ≤ v_iv (n_v vs 1) := f0
  have nf0 : fc_1 (7, [1, 1], [5]) ws (vs) := by
    refine ⟨fun n hn => ?_, ?_⟩
    · have hn : n ∈ [1, 1] := hn
      rw [hl]
      simp only [List.mem_cons, List.not_mem_nil, or_false] at hn
      show n < 2; omega
    · show v_iv (n_v vs 1) ≤ v_iv (n_v vs 1)
      omega
  refine ⟨(fun _ h => (by cases h)), [], trivial, ?_, (fun _ h => (by cases h))⟩
  rw [List.append_nil]
  exact List.forall_mem_cons.mpr ⟨⟨show (7 : Nat) < 100 from by decide, nf0⟩, (fun _ h => (by cases h))⟩
def o_Mo_max_1 : or_T := (10, 2, [(0, (0, -2147483647, 2147483647, [])), (1, (0, -2147483648, 2147483646, []))], [(7, [0, 1], [4])], [], [], [(7, [0, 0], [5]), (7, [1, 0], [5])], [], [])
theorem oo_Mo_max_1 {kA : Nat → ClassId} : or_ok kA GG o_Mo_max_1 := by
  intro A ta ws vs hD hth hl hk hds hf
  have hl : vs.length = 2 := hl
  have hk : ∀ q ∈ ([(0, (0, -2147483647, 2147483647, [])), (1, (0, -2147483648, 2147483646, []))] : List (Nat × tv_T)), tv_ok ta q.2 (n_v vs q.1) := hk
  obtain ⟨t0, hk⟩ := List.forall_mem_cons.mp hk
  have t0 : tv_ok ta (0, -2147483647, 2147483647, []) (n_v vs 0) := t0
  have k0 : (-2147483647) ≤ v_iv (n_v vs 0) ∧ v_iv (n_v vs 0) ≤ 2147483647 := tv_rng t0
  obtain ⟨t1, hk⟩ := List.forall_mem_cons.mp hk
  have t1 : tv_ok ta (0, -2147483648, 2147483646, []) (n_v vs 1) := t1
  have k1 : (-2147483648) ≤ v_iv (n_v vs 1) ∧ v_iv (n_v vs 1) ≤ 2147483646 := tv_rng t1
  have hf : fc_ok [(7, [0, 1], [4])] ta ws vs := hf
  obtain ⟨f0, hf⟩ := fc_un (show (7 : Nat) < 100 from by decide) hf
  have f0 : v_iv (n_v vs 1) < v_iv (n_v vs 0) := f0
  have nf0 : fc_1 (7, [0, 0], [5]) ws (vs) := by
    refine ⟨fun n hn => ?_, ?_⟩
    · have hn : n ∈ [0, 0] := hn
      rw [hl]
      simp only [List.mem_cons, List.not_mem_nil, or_false] at hn
      show n < 2; omega
    · show v_iv (n_v vs 0) ≤ v_iv (n_v vs 0)
      omega
  have nf1 : fc_1 (7, [1, 0], [5]) ws (vs) := by
    refine ⟨fun n hn => ?_, ?_⟩
    · have hn : n ∈ [1, 0] := hn
      rw [hl]
      simp only [List.mem_cons, List.not_mem_nil, or_false] at hn
      show n < 2; omega
    · show v_iv (n_v vs 1) ≤ v_iv (n_v vs 0)
      omega
  refine ⟨(fun _ h => (by cases h)), [], trivial, ?_, (fun _ h => (by cases h))⟩
  rw [List.append_nil]
  exact List.forall_mem_cons.mpr ⟨⟨show (7 : Nat) < 100 from by decide, nf0⟩, List.forall_mem_cons.mpr ⟨⟨show (7 : Nat) < 100 from by decide, nf1⟩, (fun _ h => (by cases h))⟩⟩
def n_Mo_max_an : List an_T := []
def t_Mo_max_ct : ct_L := []
set_option maxRecDepth 100000 in
theorem c_Mo_max {l : Launch} {D : va_G} {kA : Nat → ClassId} : ct_ok l D kA GG y_Mo_max z_Mo_max e_Mo_max := chk_all_ok (FT := []) (PT := []) (CT := t_Mo_max_ct) (KT := []) (NT := []) (AN := n_Mo_max_an) (OT := [o_Mo_max_0, o_Mo_max_1]) 0 200 (List.forall_mem_cons.mpr ⟨oo_Mo_max_0, List.forall_mem_cons.mpr ⟨oo_Mo_max_1, List.forall_mem_nil _⟩⟩) (by decide +kernel) ⟨List.forall_mem_nil _, List.forall_mem_nil _, List.forall_mem_nil _, List.forall_mem_nil _, List.forall_mem_nil _, GG_pl⟩ (by decide +kernel)
def n_Mo_mayGo_an : List an_T := []
def t_Mo_mayGo_ct : ct_L := []
set_option maxRecDepth 100000 in
theorem c_Mo_mayGo {l : Launch} {D : va_G} {kA : Nat → ClassId} : ct_ok l D kA GG y_Mo_mayGo z_Mo_mayGo e_Mo_mayGo := chk_all_ok (FT := [(84, 13, 43), (87, 13, 44), (649, 13, 49)]) (PT := []) (CT := t_Mo_mayGo_ct) (KT := []) (NT := []) (AN := n_Mo_mayGo_an) (OT := []) 0 200 (List.forall_mem_nil _) (by decide +kernel) ⟨List.forall_mem_cons.mpr ⟨gf_Mo_84, List.forall_mem_cons.mpr ⟨gf_Mo_87, List.forall_mem_cons.mpr ⟨gf_Mo_649, List.forall_mem_nil _⟩⟩⟩, List.forall_mem_nil _, List.forall_mem_nil _, List.forall_mem_nil _, List.forall_mem_nil _, GG_pl⟩ (by decide +kernel)
def o_Mo_min_0 : or_T := (10, 2, [(0, (0, -2147483648, 2147483647, [])), (1, (0, -2147483648, 2147483647, []))], [(7, [0, 1], [3])], [], [], [(7, [1, 0], [5]), (7, [1, 1], [5])], [], [])
theorem oo_Mo_min_0 {kA : Nat → ClassId} : or_ok kA GG o_Mo_min_0 := by
  intro A ta ws vs hD hth hl hk hds hf
  have hl : vs.length = 2 := hl
  have hk : ∀ q ∈ ([(0, (0, -2147483648, 2147483647, [])), (1, (0, -2147483648, 2147483647, []))] : List (Nat × tv_T)), tv_ok ta q.2 (n_v vs q.1) := hk
  obtain ⟨t0, hk⟩ := List.forall_mem_cons.mp hk
  have t0 : tv_ok ta (0, -2147483648, 2147483647, []) (n_v vs 0) := t0
  have k0 : (-2147483648) ≤ v_iv (n_v vs 0) ∧ v_iv (n_v vs 0) ≤ 2147483647 := tv_rng t0
  obtain ⟨t1, hk⟩ := List.forall_mem_cons.mp hk
  have t1 : tv_ok ta (0, -2147483648, 2147483647, []) (n_v vs 1) := t1
  have k1 : (-2147483648) ≤ v_iv (n_v vs 1) ∧ v_iv (n_v vs 1) ≤ 2147483647 := tv_rng t1
  have hf : fc_ok [(7, [0, 1], [3])] ta ws vs := hf
  obtain ⟨f0, hf⟩ := fc_un (show (7 : Nat) < 100 from by decide) hf
  have f0 : v_iv (n_v vs 1) ≤ v_iv (n_v vs 0) := f0
  have nf0 : fc_1 (7, [1, 0], [5]) ws (vs) := by
    refine ⟨fun n hn => ?_, ?_⟩
    · have hn : n ∈ [1, 0] := hn
      rw [hl]
      simp only [List.mem_cons, List.not_mem_nil, or_false] at hn
      show n < 2; omega
    · show v_iv (n_v vs 1) ≤ v_iv (n_v vs 0)
      omega
  have nf1 : fc_1 (7, [1, 1], [5]) ws (vs) := by
    refine ⟨fun n hn => ?_, ?_⟩
    · have hn : n ∈ [1, 1] := hn
      rw [hl]
      simp only [List.mem_cons, List.not_mem_nil, or_false] at hn
      show n < 2; omega
    · show v_iv (n_v vs 1) ≤ v_iv (n_v vs 1)
      omega
  refine ⟨(fun _ h => (by cases h)), [], trivial, ?_, (fun _ h => (by cases h))⟩
  rw [List.append_nil]
  exact List.forall_mem_cons.mpr ⟨⟨show (7 : Nat) < 100 from by decide, nf0⟩, List.forall_mem_cons.mpr ⟨⟨show (7 : Nat) < 100 from by decide, nf1⟩, (fun _ h => (by cases h))⟩⟩
def o_Mo_min_1 : or_T := (10, 2, [(0, (0, -2147483648, 2147483646, [])), (1, (0, -2147483647, 2147483647, []))], [(7, [0, 1], [2])], [], [], [(7, [0, 0], [5]), (7, [0, 1], [5])], [], [])
theorem oo_Mo_min_1 {kA : Nat → ClassId} : or_ok kA GG o_Mo_min_1 := by
  intro A ta ws vs hD hth hl hk hds hf
  have hl : vs.length = 2 := hl
  have hk : ∀ q ∈ ([(0, (0, -2147483648, 2147483646, [])), (1, (0, -2147483647, 2147483647, []))] : List (Nat × tv_T)), tv_ok ta q.2 (n_v vs q.1) := hk
  obtain ⟨t0, hk⟩ := List.forall_mem_cons.mp hk
  have t0 : tv_ok ta (0, -2147483648, 2147483646, []) (n_v vs 0) := t0
  have k0 : (-2147483648) ≤ v_iv (n_v vs 0) ∧ v_iv (n_v vs 0) ≤ 2147483646 := tv_rng t0
  obtain ⟨t1, hk⟩ := List.forall_mem_cons.mp hk
  have t1 : tv_ok ta (0, -2147483647, 2147483647, []) (n_v vs 1) := t1
  have k1 : (-2147483647) ≤ v_iv (n_v vs 1) ∧ v_iv (n_v vs 1) ≤ 2147483647 := tv_rng t1
  have hf : fc_ok [(7, [0, 1], [2])] ta ws vs := hf
  obtain ⟨f0, hf⟩ := fc_un (show (7 : Nat) < 100 from by decide) hf
  have f0 : v_iv (n_v vs 0) < v_iv (n_v vs 1) := f0
  have nf0 : fc_1 (7, [0, 0], [5]) ws (vs) := by
    refine ⟨fun n hn => ?_, ?_⟩
    · have hn : n ∈ [0, 0] := hn
      rw [hl]
      simp only [List.mem_cons, List.not_mem_nil, or_false] at hn
      show n < 2; omega
    · show v_iv (n_v vs 0) ≤ v_iv (n_v vs 0)
      omega
  have nf1 : fc_1 (7, [0, 1], [5]) ws (vs) := by
    refine ⟨fun n hn => ?_, ?_⟩
    · have hn : n ∈ [0, 1] := hn
      rw [hl]
      simp only [List.mem_cons, List.not_mem_nil, or_false] at hn
      show n < 2; omega
    · show v_iv (n_v vs 0) ≤ v_iv (n_v vs 1)
      omega
  refine ⟨(fun _ h => (by cases h)), [], trivial, ?_, (fun _ h => (by cases h))⟩
  rw [List.append_nil]
  exact List.forall_mem_cons.mpr ⟨⟨show (7 : Nat) < 100 from by decide, nf0⟩, List.forall_mem_cons.mpr ⟨⟨show (7 : Nat) < 100 from by decide, nf1⟩, (fun _ h => (by cases h))⟩⟩
def n_Mo_min_an : List an_T := []
def t_Mo_min_ct : ct_L := []
set_option maxRecDepth 100000 in
theorem c_Mo_min {l : Launch} {D : va_G} {kA : Nat → ClassId} : ct_ok l D kA GG y_Mo_min z_Mo_min e_Mo_min := chk_all_ok (FT := []) (PT := []) (CT := t_Mo_min_ct) (KT := []) (NT := []) (AN := n_Mo_min_an) (OT := [o_Mo_min_0, o_Mo_min_1]) 0 200 (List.forall_mem_cons.mpr ⟨oo_Mo_min_0, List.forall_mem_cons.mpr ⟨oo_Mo_min_1, List.forall_mem_nil _⟩⟩) (by decide +kernel) ⟨List.forall_mem_nil _, List.forall_mem_nil _, List.forall_mem_nil _, List.forall_mem_nil _, List.forall_mem_nil _, GG_pl⟩ (by decide +kernel)
def n_Mo_missing_an : List an_T := [(2, [(0, (2, 0, 0, [150])), (1, (0, 0, 80, []))], [], (0, 0), [(0, 0, 99998), (1, 1, 80), (0, 0, 100000)], [], [], [], 0, [], [])]
def t_Mo_missing_ct : ct_L := []
set_option maxRecDepth 100000 in
theorem c_Mo_missing {l : Launch} {D : va_G} {kA : Nat → ClassId} : ct_ok l D kA GG y_Mo_missing z_Mo_missing e_Mo_missing := chk_all_ok (FT := [(84, 13, 43), (597, 13, 32)]) (PT := []) (CT := t_Mo_missing_ct) (KT := []) (NT := []) (AN := n_Mo_missing_an) (OT := []) 3 200 (List.forall_mem_nil _) (by decide +kernel) ⟨List.forall_mem_cons.mpr ⟨gf_Mo_84, List.forall_mem_cons.mpr ⟨gf_Mo_597, List.forall_mem_nil _⟩⟩, List.forall_mem_nil _, List.forall_mem_nil _, List.forall_mem_nil _, List.forall_mem_nil _, GG_pl⟩ (by decide +kernel)
def n_Mo_move_an : List an_T := [(2, [(0, (2, 0, 0, [150])), (1, (0, 0, 33554431, [])), (2, (0, 1, 2, [])), (3, (0, 0, 25, []))], [], (0, 0), [(0, 0, 99998), (1, 3, 25), (0, 0, 100000)], [], [], [], 0, [], [])]
def t_Mo_move_ct : ct_L := []
set_option maxRecDepth 100000 in
theorem c_Mo_move {l : Launch} {D : va_G} {kA : Nat → ClassId} : ct_ok l D kA GG y_Mo_move z_Mo_move e_Mo_move := chk_all_ok (FT := [(159, 13, 74), (594, 13, 31)]) (PT := []) (CT := t_Mo_move_ct) (KT := []) (NT := []) (AN := n_Mo_move_an) (OT := []) 3 200 (List.forall_mem_nil _) (by decide +kernel) ⟨List.forall_mem_cons.mpr ⟨gf_Mo_159, List.forall_mem_cons.mpr ⟨gf_Mo_594, List.forall_mem_nil _⟩⟩, List.forall_mem_nil _, List.forall_mem_nil _, List.forall_mem_nil _, List.forall_mem_nil _, GG_pl⟩ (by decide +kernel)
def o_Mo_nodes_0 : or_T := (9, 4, [(0, (2, 0, 0, [150])), (1, (2, 0, 0, [152])), (2, (0, 0, 66297, [])), (3, (0, 0, 24, []))], [(10, [3, 1, 2], []), (9, [2, 0], [5]), (9, [1, 0], [2])], [], [], [(20, [3, 0], [30, 0, 1, 0, 0, -1, 3, 2005000]), (20, [3, 0], [30, 0, -1, 0, 0, 1, 3, 2005000])], [], [])
theorem oo_Mo_nodes_0 {kA : Nat → ClassId} : or_ok kA GG o_Mo_nodes_0 := by
  intro A ta ws vs hD hth hl hk hds hf
  have hl : vs.length = 4 := hl
  have hk : ∀ q ∈ ([(0, (2, 0, 0, [150])), (1, (2, 0, 0, [152])), (2, (0, 0, 66297, [])), (3, (0, 0, 24, []))] : List (Nat × tv_T)), tv_ok ta q.2 (n_v vs q.1) := hk
  obtain ⟨t0, hk⟩ := List.forall_mem_cons.mp hk
  have t0 : tv_ok ta (2, 0, 0, [150]) (n_v vs 0) := t0
  have r0 : ta (v_ad (n_v vs 0)) = some 150 := tv_rg t0
  obtain ⟨t1, hk⟩ := List.forall_mem_cons.mp hk
  have t1 : tv_ok ta (2, 0, 0, [152]) (n_v vs 1) := t1
  have r1 : ta (v_ad (n_v vs 1)) = some 152 := tv_rg t1
  obtain ⟨t2, hk⟩ := List.forall_mem_cons.mp hk
  have t2 : tv_ok ta (0, 0, 66297, []) (n_v vs 2) := t2
  have k2 : 0 ≤ v_iv (n_v vs 2) ∧ v_iv (n_v vs 2) ≤ 66297 := tv_rng t2
  obtain ⟨t3, hk⟩ := List.forall_mem_cons.mp hk
  have t3 : tv_ok ta (0, 0, 24, []) (n_v vs 3) := t3
  have k3 : 0 ≤ v_iv (n_v vs 3) ∧ v_iv (n_v vs 3) ≤ 24 := tv_rng t3
  have hf : fc_ok [(10, [3, 1, 2], []), (9, [2, 0], [5]), (9, [1, 0], [2])] ta ws vs := hf
  obtain ⟨f0, hf⟩ := fc_un (show (10 : Nat) < 100 from by decide) hf
  have f0 : v_iv (n_v vs 3) = w_el ws (v_ad (n_v vs 1)) (v_iv (n_v vs 2)).toNat := f0
  obtain ⟨f1, hf⟩ := fc_un (show (9 : Nat) < 100 from by decide) hf
  have f1 : n_v vs 2 = w_fd ws (v_ad (n_v vs 0)) 5 := f1
  obtain ⟨f2, hf⟩ := fc_un (show (9 : Nat) < 100 from by decide) hf
  have f2 : n_v vs 1 = w_fd ws (v_ad (n_v vs 0)) 2 := f2
  have cr_0_2 : ta (w_ar ws (n_v vs 0) 2) = some 152 := tv_rg (th_fd hD hth r0 (g := GG_150) rfl (k := 2) (t := (2, 0, 0, [152])) rfl rfl)
  have ad_1 : v_ad (n_v vs 1) = w_ar ws (n_v vs 0) 2 := congrArg v_ad f2
  rw [ad_1] at f0
  have g1 : v_iv (n_v vs 2) = w_fi ws (n_v vs 0) 5 := congrArg v_iv f1
  have cg0_F5_0 : v_iv (n_v vs 2) = w_fi ws (n_v vs 0) 5 + 0 → w_el ws (w_ar ws (n_v vs 0) 2) (v_iv (n_v vs 2)).toNat = w_el ws (w_ar ws (n_v vs 0) 2) (w_fi ws (n_v vs 0) 5 + 0).toNat := fun h => by rw [h]
  have nf0 : fc_1 (20, [3, 0], [30, 0, 1, 0, 0, -1, 3, 2005000]) ws (vs) := by
    refine ⟨fun n hn => ?_, ?_⟩
    · have hn : n ∈ [3, 0] := hn
      rw [hl]
      simp only [List.mem_cons, List.not_mem_nil, or_false] at hn
      show n < 4; omega
    · show 1 * v_iv (n_v vs 3) + ((-1) * w_el ws (w_ar ws (n_v vs 0) 2) (w_fi ws (n_v vs 0) 5 + 0).toNat + 0) ≤ 0
      omega
  have nf1 : fc_1 (20, [3, 0], [30, 0, -1, 0, 0, 1, 3, 2005000]) ws (vs) := by
    refine ⟨fun n hn => ?_, ?_⟩
    · have hn : n ∈ [3, 0] := hn
      rw [hl]
      simp only [List.mem_cons, List.not_mem_nil, or_false] at hn
      show n < 4; omega
    · show (-1) * v_iv (n_v vs 3) + (1 * w_el ws (w_ar ws (n_v vs 0) 2) (w_fi ws (n_v vs 0) 5 + 0).toNat + 0) ≤ 0
      omega
  refine ⟨(fun _ h => (by cases h)), [], trivial, ?_, (fun _ h => (by cases h))⟩
  rw [List.append_nil]
  exact List.forall_mem_cons.mpr ⟨⟨show (20 : Nat) < 100 from by decide, nf0⟩, List.forall_mem_cons.mpr ⟨⟨show (20 : Nat) < 100 from by decide, nf1⟩, (fun _ h => (by cases h))⟩⟩
def n_Mo_nodes_an : List an_T := []
def t_Mo_nodes_ct : ct_L := []
set_option maxRecDepth 100000 in
theorem c_Mo_nodes {l : Launch} {D : va_G} {kA : Nat → ClassId} : ct_ok l D kA GG y_Mo_nodes z_Mo_nodes e_Mo_nodes := chk_all_ok (FT := [(16, 13, 2), (391, 13, 5)]) (PT := []) (CT := t_Mo_nodes_ct) (KT := []) (NT := []) (AN := n_Mo_nodes_an) (OT := [o_Mo_nodes_0]) 0 200 (List.forall_mem_cons.mpr ⟨oo_Mo_nodes_0, List.forall_mem_nil _⟩) (by decide +kernel) ⟨List.forall_mem_cons.mpr ⟨gf_Mo_16, List.forall_mem_cons.mpr ⟨gf_Mo_391, List.forall_mem_nil _⟩⟩, List.forall_mem_nil _, List.forall_mem_nil _, List.forall_mem_nil _, List.forall_mem_nil _, GG_pl⟩ (by decide +kernel)
def n_Mo_one_an : List an_T := []
def t_Mo_one_ct : ct_L := []
set_option maxRecDepth 100000 in
theorem c_Mo_one {l : Launch} {D : va_G} {kA : Nat → ClassId} : ct_ok l D kA GG y_Mo_one z_Mo_one e_Mo_one := chk_all_ok (FT := [(16, 13, 2), (391, 13, 5)]) (PT := []) (CT := t_Mo_one_ct) (KT := []) (NT := []) (AN := n_Mo_one_an) (OT := []) 0 200 (List.forall_mem_nil _) (by decide +kernel) ⟨List.forall_mem_cons.mpr ⟨gf_Mo_16, List.forall_mem_cons.mpr ⟨gf_Mo_391, List.forall_mem_nil _⟩⟩, List.forall_mem_nil _, List.forall_mem_nil _, List.forall_mem_nil _, List.forall_mem_nil _, GG_pl⟩ (by decide +kernel)
def n_Mo_placeIn_an : List an_T := [(2, [(0, (2, 0, 0, [150])), (1, (0, 0, 23, [])), (2, (0, 0, 26, []))], [], (0, 0), [(0, 0, 99998), (1, 2, 26), (0, 0, 100000)], [], [], [], 0, [], [])]
def t_Mo_placeIn_ct : ct_L := []
set_option maxRecDepth 100000 in
theorem c_Mo_placeIn {l : Launch} {D : va_G} {kA : Nat → ClassId} : ct_ok l D kA GG y_Mo_placeIn z_Mo_placeIn e_Mo_placeIn := chk_all_ok (FT := [(216, 13, 97), (795, 13, 99)]) (PT := []) (CT := t_Mo_placeIn_ct) (KT := []) (NT := []) (AN := n_Mo_placeIn_an) (OT := []) 3 200 (List.forall_mem_nil _) (by decide +kernel) ⟨List.forall_mem_cons.mpr ⟨gf_Mo_216, List.forall_mem_cons.mpr ⟨gf_Mo_795, List.forall_mem_nil _⟩⟩, List.forall_mem_nil _, List.forall_mem_nil _, List.forall_mem_nil _, List.forall_mem_nil _, GG_pl⟩ (by decide +kernel)
def o_Mo_putAt_0 : or_T := (6, 7, [(0, (2, 0, 0, [150])), (1, (0, 0, 24, [])), (4, (0, 0, 79, [])), (5, (2, 0, 0, [168])), (6, (0, 0, 80, []))], [(10, [6, 5, 1], []), (9, [5, 0], [36]), (20, [0, 1, 4], [30, 0, 1, 2, 36, -1, 0, 0])], [(6, (0, 0, 79, []))], [], [], [], [])
theorem oo_Mo_putAt_0 {kA : Nat → ClassId} : or_ok kA GG o_Mo_putAt_0 := by
  intro A ta ws vs hD hth hl hk hds hf
  have hl : vs.length = 7 := hl
  have hk : ∀ q ∈ ([(0, (2, 0, 0, [150])), (1, (0, 0, 24, [])), (4, (0, 0, 79, [])), (5, (2, 0, 0, [168])), (6, (0, 0, 80, []))] : List (Nat × tv_T)), tv_ok ta q.2 (n_v vs q.1) := hk
  obtain ⟨t0, hk⟩ := List.forall_mem_cons.mp hk
  have t0 : tv_ok ta (2, 0, 0, [150]) (n_v vs 0) := t0
  have r0 : ta (v_ad (n_v vs 0)) = some 150 := tv_rg t0
  obtain ⟨t1, hk⟩ := List.forall_mem_cons.mp hk
  have t1 : tv_ok ta (0, 0, 24, []) (n_v vs 1) := t1
  have k1 : 0 ≤ v_iv (n_v vs 1) ∧ v_iv (n_v vs 1) ≤ 24 := tv_rng t1
  obtain ⟨t4, hk⟩ := List.forall_mem_cons.mp hk
  have t4 : tv_ok ta (0, 0, 79, []) (n_v vs 4) := t4
  have k4 : 0 ≤ v_iv (n_v vs 4) ∧ v_iv (n_v vs 4) ≤ 79 := tv_rng t4
  obtain ⟨t5, hk⟩ := List.forall_mem_cons.mp hk
  have t5 : tv_ok ta (2, 0, 0, [168]) (n_v vs 5) := t5
  have r5 : ta (v_ad (n_v vs 5)) = some 168 := tv_rg t5
  obtain ⟨t6, hk⟩ := List.forall_mem_cons.mp hk
  have t6 : tv_ok ta (0, 0, 80, []) (n_v vs 6) := t6
  have k6 : 0 ≤ v_iv (n_v vs 6) ∧ v_iv (n_v vs 6) ≤ 80 := tv_rng t6
  have hf : fc_ok [(10, [6, 5, 1], []), (9, [5, 0], [36]), (20, [0, 1, 4], [30, 0, 1, 2, 36, -1, 0, 0])] ta ws vs := hf
  obtain ⟨f0, hf⟩ := fc_un (show (10 : Nat) < 100 from by decide) hf
  have f0 : v_iv (n_v vs 6) = w_el ws (v_ad (n_v vs 5)) (v_iv (n_v vs 1)).toNat := f0
  obtain ⟨f1, hf⟩ := fc_un (show (9 : Nat) < 100 from by decide) hf
  have f1 : n_v vs 5 = w_fd ws (v_ad (n_v vs 0)) 36 := f1
  obtain ⟨f2, hf⟩ := fc_un (show (20 : Nat) < 100 from by decide) hf
  have f2 : 1 * w_el ws (w_ar ws (n_v vs 0) 36) (v_iv (n_v vs 1)).toNat + ((-1) * v_iv (n_v vs 4) + 0) ≤ 0 := f2
  have cr_0_36 : ta (w_ar ws (n_v vs 0) 36) = some 168 := tv_rg (th_fd hD hth r0 (g := GG_150) rfl (k := 36) (t := (2, 0, 0, [168])) rfl rfl)
  have ad_5 : v_ad (n_v vs 5) = w_ar ws (n_v vs 0) 36 := congrArg v_ad f1
  rw [ad_5] at f0
  have rf6 : tv_ok ta (0, 0, 79, []) (n_v vs 6) := tv_in t6 (by omega) (by omega)
  refine ⟨List.forall_mem_cons.mpr ⟨rf6, (fun _ h => (by cases h))⟩, [], trivial, ?_, (fun _ h => (by cases h))⟩
  rw [List.append_nil]
  exact (fun _ h => (by cases h))
def o_Mo_putAt_1 : or_T := (8, 7, [(0, (2, 0, 0, [150])), (1, (0, 0, 24, [])), (4, (0, 0, 79, [])), (5, (2, 0, 0, [168])), (6, (0, 0, 79, []))], [(10, [6, 5, 1], []), (9, [5, 0], [36]), (20, [0, 1, 4], [30, 0, 1, 2, 36, -1, 0, 0])], [], [], [(24, [0, 0], []), (24, [1, 1], [])], [], [])
theorem oo_Mo_putAt_1 {kA : Nat → ClassId} : or_ok kA GG o_Mo_putAt_1 := by
  intro A ta ws vs hD hth hl hk hds hf
  have hl : vs.length = 7 := hl
  have hk : ∀ q ∈ ([(0, (2, 0, 0, [150])), (1, (0, 0, 24, [])), (4, (0, 0, 79, [])), (5, (2, 0, 0, [168])), (6, (0, 0, 79, []))] : List (Nat × tv_T)), tv_ok ta q.2 (n_v vs q.1) := hk
  obtain ⟨t0, hk⟩ := List.forall_mem_cons.mp hk
  have t0 : tv_ok ta (2, 0, 0, [150]) (n_v vs 0) := t0
  have r0 : ta (v_ad (n_v vs 0)) = some 150 := tv_rg t0
  obtain ⟨t1, hk⟩ := List.forall_mem_cons.mp hk
  have t1 : tv_ok ta (0, 0, 24, []) (n_v vs 1) := t1
  have k1 : 0 ≤ v_iv (n_v vs 1) ∧ v_iv (n_v vs 1) ≤ 24 := tv_rng t1
  obtain ⟨t4, hk⟩ := List.forall_mem_cons.mp hk
  have t4 : tv_ok ta (0, 0, 79, []) (n_v vs 4) := t4
  have k4 : 0 ≤ v_iv (n_v vs 4) ∧ v_iv (n_v vs 4) ≤ 79 := tv_rng t4
  obtain ⟨t5, hk⟩ := List.forall_mem_cons.mp hk
  have t5 : tv_ok ta (2, 0, 0, [168]) (n_v vs 5) := t5
  have r5 : ta (v_ad (n_v vs 5)) = some 168 := tv_rg t5
  obtain ⟨t6, hk⟩ := List.forall_mem_cons.mp hk
  have t6 : tv_ok ta (0, 0, 79, []) (n_v vs 6) := t6
  have k6 : 0 ≤ v_iv (n_v vs 6) ∧ v_iv (n_v vs 6) ≤ 79 := tv_rng t6
  have hf : fc_ok [(10, [6, 5, 1], []), (9, [5, 0], [36]), (20, [0, 1, 4], [30, 0, 1, 2, 36, -1, 0, 0])] ta ws vs := hf
  obtain ⟨f0, hf⟩ := fc_un (show (10 : Nat) < 100 from by decide) hf
  have f0 : v_iv (n_v vs 6) = w_el ws (v_ad (n_v vs 5)) (v_iv (n_v vs 1)).toNat := f0
  obtain ⟨f1, hf⟩ := fc_un (show (9 : Nat) < 100 from by decide) hf
  have f1 : n_v vs 5 = w_fd ws (v_ad (n_v vs 0)) 36 := f1
  obtain ⟨f2, hf⟩ := fc_un (show (20 : Nat) < 100 from by decide) hf
  have f2 : 1 * w_el ws (w_ar ws (n_v vs 0) 36) (v_iv (n_v vs 1)).toNat + ((-1) * v_iv (n_v vs 4) + 0) ≤ 0 := f2
  have cr_0_36 : ta (w_ar ws (n_v vs 0) 36) = some 168 := tv_rg (th_fd hD hth r0 (g := GG_150) rfl (k := 36) (t := (2, 0, 0, [168])) rfl rfl)
  have ad_5 : v_ad (n_v vs 5) = w_ar ws (n_v vs 0) 36 := congrArg v_ad f1
  rw [ad_5] at f0
  have nf0 : fc_1 (24, [0, 0], []) ws (vs) := by
    refine ⟨fun n hn => ?_, ?_⟩
    · have hn : n ∈ [0, 0] := hn
      rw [hl]
      simp only [List.mem_cons, List.not_mem_nil, or_false] at hn
      show n < 7; omega
    · show n_v vs 0 = n_v vs 0
      first | rfl | simp only [true_and]
  have nf1 : fc_1 (24, [1, 1], []) ws (vs) := by
    refine ⟨fun n hn => ?_, ?_⟩
    · have hn : n ∈ [1, 1] := hn
      rw [hl]
      simp only [List.mem_cons, List.not_mem_nil, or_false] at hn
      show n < 7; omega
    · show n_v vs 1 = n_v vs 1
      first | rfl | simp only [true_and]
  refine ⟨(fun _ h => (by cases h)), [], trivial, ?_, (fun _ h => (by cases h))⟩
  rw [List.append_nil]
  exact List.forall_mem_cons.mpr ⟨⟨show (24 : Nat) < 100 from by decide, nf0⟩, List.forall_mem_cons.mpr ⟨⟨show (24 : Nat) < 100 from by decide, nf1⟩, (fun _ h => (by cases h))⟩⟩
def o_Mo_putAt_2 : or_T := (65, 16, [(0, (2, 0, 0, [150])), (1, (0, 0, 24, [])), (4, (0, 0, 79, [])), (5, (2, 0, 0, [150])), (6, (0, 0, 24, [])), (10, (2, 0, 0, [169])), (14, (2, 0, 0, [168])), (15, (0, 0, 80, []))], [(10, [15, 14, 6], []), (9, [14, 5], [36]), (20, [5, 6, 4], [30, 0, 1, 2, 36, -1, 0, 0]), (24, [0, 5], []), (24, [1, 6], []), (100, [10, 13, 7], []), (9, [10, 5], [37]), (20, [5, 6, 4], [30, 0, 1, 2, 36, -1, 0, 0])], [(15, (0, 0, 79, []))], [], [], [], [(1, 4, -4294967296, 24), (1, 6, -4294967296, 0), (4, 1, -4294967296, 79), (4, 6, -4294967296, 79), (6, 1, -4294967296, 0), (6, 4, -4294967296, 24)])
theorem oo_Mo_putAt_2 {kA : Nat → ClassId} : or_ok kA GG o_Mo_putAt_2 := by
  intro A ta ws vs hD hth hl hk hds hf
  have hl : vs.length = 16 := hl
  have hk : ∀ q ∈ ([(0, (2, 0, 0, [150])), (1, (0, 0, 24, [])), (4, (0, 0, 79, [])), (5, (2, 0, 0, [150])), (6, (0, 0, 24, [])), (10, (2, 0, 0, [169])), (14, (2, 0, 0, [168])), (15, (0, 0, 80, []))] : List (Nat × tv_T)), tv_ok ta q.2 (n_v vs q.1) := hk
  obtain ⟨t0, hk⟩ := List.forall_mem_cons.mp hk
  have t0 : tv_ok ta (2, 0, 0, [150]) (n_v vs 0) := t0
  have r0 : ta (v_ad (n_v vs 0)) = some 150 := tv_rg t0
  obtain ⟨t1, hk⟩ := List.forall_mem_cons.mp hk
  have t1 : tv_ok ta (0, 0, 24, []) (n_v vs 1) := t1
  have k1 : 0 ≤ v_iv (n_v vs 1) ∧ v_iv (n_v vs 1) ≤ 24 := tv_rng t1
  obtain ⟨t4, hk⟩ := List.forall_mem_cons.mp hk
  have t4 : tv_ok ta (0, 0, 79, []) (n_v vs 4) := t4
  have k4 : 0 ≤ v_iv (n_v vs 4) ∧ v_iv (n_v vs 4) ≤ 79 := tv_rng t4
  obtain ⟨t5, hk⟩ := List.forall_mem_cons.mp hk
  have t5 : tv_ok ta (2, 0, 0, [150]) (n_v vs 5) := t5
  have r5 : ta (v_ad (n_v vs 5)) = some 150 := tv_rg t5
  obtain ⟨t6, hk⟩ := List.forall_mem_cons.mp hk
  have t6 : tv_ok ta (0, 0, 24, []) (n_v vs 6) := t6
  have k6 : 0 ≤ v_iv (n_v vs 6) ∧ v_iv (n_v vs 6) ≤ 24 := tv_rng t6
  obtain ⟨t10, hk⟩ := List.forall_mem_cons.mp hk
  have t10 : tv_ok ta (2, 0, 0, [169]) (n_v vs 10) := t10
  have r10 : ta (v_ad (n_v vs 10)) = some 169 := tv_rg t10
  obtain ⟨t14, hk⟩ := List.forall_mem_cons.mp hk
  have t14 : tv_ok ta (2, 0, 0, [168]) (n_v vs 14) := t14
  have r14 : ta (v_ad (n_v vs 14)) = some 168 := tv_rg t14
  obtain ⟨t15, hk⟩ := List.forall_mem_cons.mp hk
  have t15 : tv_ok ta (0, 0, 80, []) (n_v vs 15) := t15
  have k15 : 0 ≤ v_iv (n_v vs 15) ∧ v_iv (n_v vs 15) ≤ 80 := tv_rng t15
  have hds : ∀ q ∈ ([(1, 4, -4294967296, 24), (1, 6, -4294967296, 0), (4, 1, -4294967296, 79), (4, 6, -4294967296, 79), (6, 1, -4294967296, 0), (6, 4, -4294967296, 24)] : List of_T), n_iv vs q.2.1 + q.2.2.1 ≤ n_iv vs q.1 ∧ n_iv vs q.1 ≤ n_iv vs q.2.1 + q.2.2.2 := hds
  obtain ⟨d0, hds⟩ := List.forall_mem_cons.mp hds
  have d0 : v_iv (n_v vs 4) + (-4294967296) ≤ v_iv (n_v vs 1) ∧ v_iv (n_v vs 1) ≤ v_iv (n_v vs 4) + 24 := d0
  obtain ⟨d1, hds⟩ := List.forall_mem_cons.mp hds
  have d1 : v_iv (n_v vs 6) + (-4294967296) ≤ v_iv (n_v vs 1) ∧ v_iv (n_v vs 1) ≤ v_iv (n_v vs 6) + 0 := d1
  obtain ⟨d2, hds⟩ := List.forall_mem_cons.mp hds
  have d2 : v_iv (n_v vs 1) + (-4294967296) ≤ v_iv (n_v vs 4) ∧ v_iv (n_v vs 4) ≤ v_iv (n_v vs 1) + 79 := d2
  obtain ⟨d3, hds⟩ := List.forall_mem_cons.mp hds
  have d3 : v_iv (n_v vs 6) + (-4294967296) ≤ v_iv (n_v vs 4) ∧ v_iv (n_v vs 4) ≤ v_iv (n_v vs 6) + 79 := d3
  obtain ⟨d4, hds⟩ := List.forall_mem_cons.mp hds
  have d4 : v_iv (n_v vs 1) + (-4294967296) ≤ v_iv (n_v vs 6) ∧ v_iv (n_v vs 6) ≤ v_iv (n_v vs 1) + 0 := d4
  obtain ⟨d5, hds⟩ := List.forall_mem_cons.mp hds
  have d5 : v_iv (n_v vs 4) + (-4294967296) ≤ v_iv (n_v vs 6) ∧ v_iv (n_v vs 6) ≤ v_iv (n_v vs 4) + 24 := d5
  have hf : fc_ok [(10, [15, 14, 6], []), (9, [14, 5], [36]), (20, [5, 6, 4], [30, 0, 1, 2, 36, -1, 0, 0]), (24, [0, 5], []), (24, [1, 6], []), (100, [10, 13, 7], []), (9, [10, 5], [37]), (20, [5, 6, 4], [30, 0, 1, 2, 36, -1, 0, 0])] ta ws vs := hf
  obtain ⟨f0, hf⟩ := fc_un (show (10 : Nat) < 100 from by decide) hf
  have f0 : v_iv (n_v vs 15) = w_el ws (v_ad (n_v vs 14)) (v_iv (n_v vs 6)).toNat := f0
  obtain ⟨f1, hf⟩ := fc_un (show (9 : Nat) < 100 from by decide) hf
  have f1 : n_v vs 14 = w_fd ws (v_ad (n_v vs 5)) 36 := f1
  obtain ⟨f2, hf⟩ := fc_un (show (20 : Nat) < 100 from by decide) hf
  have f2 : 1 * w_el ws (w_ar ws (n_v vs 5) 36) (v_iv (n_v vs 6)).toNat + ((-1) * v_iv (n_v vs 4) + 0) ≤ 0 := f2
  obtain ⟨f3, hf⟩ := fc_un (show (24 : Nat) < 100 from by decide) hf
  have f3 : n_v vs 0 = n_v vs 5 := f3
  obtain ⟨f4, hf⟩ := fc_un (show (24 : Nat) < 100 from by decide) hf
  have f4 : n_v vs 1 = n_v vs 6 := f4
  obtain ⟨ta1, w1, le1, ⟨_, s1⟩, hf⟩ := fc_us (show ¬ (100 : Nat) < 100 from by decide) hf
  have s1 : (∀ b j, w_el ws b j = if b = v_ad (n_v vs 10) ∧ j = (v_iv (n_v vs 13)).toNat then v_iv (n_v vs 7) else w_el w1 b j) ∧ ∀ b k, w_fd ws b k = w_fd w1 b k := s1
  obtain ⟨f6, hf⟩ := fc_un (show (9 : Nat) < 100 from by decide) hf
  have f6 : n_v vs 10 = w_fd w1 (v_ad (n_v vs 5)) 37 := f6
  obtain ⟨f7, hf⟩ := fc_un (show (20 : Nat) < 100 from by decide) hf
  have f7 : 1 * w_el w1 (w_ar w1 (n_v vs 5) 36) (v_iv (n_v vs 6)).toNat + ((-1) * v_iv (n_v vs 4) + 0) ≤ 0 := f7
  have q5 : n_v vs 5 = n_v vs 0 := f3.symm
  have q6 : n_v vs 6 = n_v vs 1 := f4.symm
  rw [q6] at f0
  rw [q5] at f1
  rw [q5] at f2
  rw [q6] at f2
  rw [q5] at f6
  rw [q5] at f7
  rw [q6] at f7
  have ar_0_36_1 : w_ar w1 (n_v vs 0) 36 = w_ar ws (n_v vs 0) 36 := by show v_ad (w_fd w1 _ _) = v_ad (w_fd ws _ _); rw [s1.2]
  have cr_0_36 : ta (w_ar ws (n_v vs 0) 36) = some 168 := tv_rg (th_fd hD hth r0 (g := GG_150) rfl (k := 36) (t := (2, 0, 0, [168])) rfl rfl)
  have ar_0_37_1 : w_ar w1 (n_v vs 0) 37 = w_ar ws (n_v vs 0) 37 := by show v_ad (w_fd w1 _ _) = v_ad (w_fd ws _ _); rw [s1.2]
  have cr_0_37 : ta (w_ar ws (n_v vs 0) 37) = some 169 := tv_rg (th_fd hD hth r0 (g := GG_150) rfl (k := 37) (t := (2, 0, 0, [169])) rfl rfl)
  have ad_14 : v_ad (n_v vs 14) = w_ar ws (n_v vs 0) 36 := congrArg v_ad f1
  have ad_10 : v_ad (n_v vs 10) = w_ar ws (n_v vs 0) 37 := (congrArg v_ad f6).trans ar_0_37_1
  rw [ad_14] at f0
  rw [ar_0_36_1] at f7
  have ee_0_36_1_1 : w_el ws (w_ar ws (n_v vs 0) 36) (v_iv (n_v vs 1)).toNat = w_el w1 (w_ar ws (n_v vs 0) 36) (v_iv (n_v vs 1)).toNat := by rw [s1.1, if_neg (fun e => by have e1 := e.1; rw [← e1] at r10; rw [cr_0_36] at r10; exact absurd (Option.some.inj r10) (by decide))]
  have rf15 : tv_ok ta (0, 0, 79, []) (n_v vs 15) := tv_in t15 (by omega) (by omega)
  refine ⟨List.forall_mem_cons.mpr ⟨rf15, (fun _ h => (by cases h))⟩, [], trivial, ?_, (fun _ h => (by cases h))⟩
  rw [List.append_nil]
  exact (fun _ h => (by cases h))
def o_Mo_putAt_3 : or_T := (68, 18, [(0, (2, 0, 0, [150])), (1, (0, 0, 24, [])), (4, (0, 0, 79, [])), (5, (2, 0, 0, [150])), (6, (0, 0, 24, [])), (10, (2, 0, 0, [169])), (14, (2, 0, 0, [168])), (15, (0, 0, 79, [])), (16, (0, 1, 1, [])), (17, (0, 1, 80, []))], [(24, [0, 5], []), (24, [1, 6], []), (100, [14, 6, 17], []), (1, [17, 15, 16], []), (10, [15, 14, 6], []), (9, [14, 5], [36]), (20, [5, 6, 4], [30, 0, 1, 2, 36, -1, 0, 0]), (100, [10, 13, 7], []), (9, [10, 5], [37]), (20, [5, 6, 4], [30, 0, 1, 2, 36, -1, 0, 0])], [], [], [(20, [0, 1, 4], [30, 1, 1, 2, 36, -1, 0, 0])], [], [(17, 15, 1, 1), (1, 4, -4294967296, 24), (1, 6, -4294967296, 0), (4, 1, -4294967296, 79), (4, 6, -4294967296, 79), (6, 1, -4294967296, 0), (6, 4, -4294967296, 24)])
theorem oo_Mo_putAt_3 {kA : Nat → ClassId} : or_ok kA GG o_Mo_putAt_3 := by
  intro A ta ws vs hD hth hl hk hds hf
  have hl : vs.length = 18 := hl
  have hk : ∀ q ∈ ([(0, (2, 0, 0, [150])), (1, (0, 0, 24, [])), (4, (0, 0, 79, [])), (5, (2, 0, 0, [150])), (6, (0, 0, 24, [])), (10, (2, 0, 0, [169])), (14, (2, 0, 0, [168])), (15, (0, 0, 79, [])), (16, (0, 1, 1, [])), (17, (0, 1, 80, []))] : List (Nat × tv_T)), tv_ok ta q.2 (n_v vs q.1) := hk
  obtain ⟨t0, hk⟩ := List.forall_mem_cons.mp hk
  have t0 : tv_ok ta (2, 0, 0, [150]) (n_v vs 0) := t0
  have r0 : ta (v_ad (n_v vs 0)) = some 150 := tv_rg t0
  obtain ⟨t1, hk⟩ := List.forall_mem_cons.mp hk
  have t1 : tv_ok ta (0, 0, 24, []) (n_v vs 1) := t1
  have k1 : 0 ≤ v_iv (n_v vs 1) ∧ v_iv (n_v vs 1) ≤ 24 := tv_rng t1
  obtain ⟨t4, hk⟩ := List.forall_mem_cons.mp hk
  have t4 : tv_ok ta (0, 0, 79, []) (n_v vs 4) := t4
  have k4 : 0 ≤ v_iv (n_v vs 4) ∧ v_iv (n_v vs 4) ≤ 79 := tv_rng t4
  obtain ⟨t5, hk⟩ := List.forall_mem_cons.mp hk
  have t5 : tv_ok ta (2, 0, 0, [150]) (n_v vs 5) := t5
  have r5 : ta (v_ad (n_v vs 5)) = some 150 := tv_rg t5
  obtain ⟨t6, hk⟩ := List.forall_mem_cons.mp hk
  have t6 : tv_ok ta (0, 0, 24, []) (n_v vs 6) := t6
  have k6 : 0 ≤ v_iv (n_v vs 6) ∧ v_iv (n_v vs 6) ≤ 24 := tv_rng t6
  obtain ⟨t10, hk⟩ := List.forall_mem_cons.mp hk
  have t10 : tv_ok ta (2, 0, 0, [169]) (n_v vs 10) := t10
  have r10 : ta (v_ad (n_v vs 10)) = some 169 := tv_rg t10
  obtain ⟨t14, hk⟩ := List.forall_mem_cons.mp hk
  have t14 : tv_ok ta (2, 0, 0, [168]) (n_v vs 14) := t14
  have r14 : ta (v_ad (n_v vs 14)) = some 168 := tv_rg t14
  obtain ⟨t15, hk⟩ := List.forall_mem_cons.mp hk
  have t15 : tv_ok ta (0, 0, 79, []) (n_v vs 15) := t15
  have k15 : 0 ≤ v_iv (n_v vs 15) ∧ v_iv (n_v vs 15) ≤ 79 := tv_rng t15
  obtain ⟨t16, hk⟩ := List.forall_mem_cons.mp hk
  have t16 : tv_ok ta (0, 1, 1, []) (n_v vs 16) := t16
  have k16 : 1 ≤ v_iv (n_v vs 16) ∧ v_iv (n_v vs 16) ≤ 1 := tv_rng t16
  obtain ⟨t17, hk⟩ := List.forall_mem_cons.mp hk
  have t17 : tv_ok ta (0, 1, 80, []) (n_v vs 17) := t17
  have k17 : 1 ≤ v_iv (n_v vs 17) ∧ v_iv (n_v vs 17) ≤ 80 := tv_rng t17
  have hds : ∀ q ∈ ([(17, 15, 1, 1), (1, 4, -4294967296, 24), (1, 6, -4294967296, 0), (4, 1, -4294967296, 79), (4, 6, -4294967296, 79), (6, 1, -4294967296, 0), (6, 4, -4294967296, 24)] : List of_T), n_iv vs q.2.1 + q.2.2.1 ≤ n_iv vs q.1 ∧ n_iv vs q.1 ≤ n_iv vs q.2.1 + q.2.2.2 := hds
  obtain ⟨d0, hds⟩ := List.forall_mem_cons.mp hds
  have d0 : v_iv (n_v vs 15) + 1 ≤ v_iv (n_v vs 17) ∧ v_iv (n_v vs 17) ≤ v_iv (n_v vs 15) + 1 := d0
  obtain ⟨d1, hds⟩ := List.forall_mem_cons.mp hds
  have d1 : v_iv (n_v vs 4) + (-4294967296) ≤ v_iv (n_v vs 1) ∧ v_iv (n_v vs 1) ≤ v_iv (n_v vs 4) + 24 := d1
  obtain ⟨d2, hds⟩ := List.forall_mem_cons.mp hds
  have d2 : v_iv (n_v vs 6) + (-4294967296) ≤ v_iv (n_v vs 1) ∧ v_iv (n_v vs 1) ≤ v_iv (n_v vs 6) + 0 := d2
  obtain ⟨d3, hds⟩ := List.forall_mem_cons.mp hds
  have d3 : v_iv (n_v vs 1) + (-4294967296) ≤ v_iv (n_v vs 4) ∧ v_iv (n_v vs 4) ≤ v_iv (n_v vs 1) + 79 := d3
  obtain ⟨d4, hds⟩ := List.forall_mem_cons.mp hds
  have d4 : v_iv (n_v vs 6) + (-4294967296) ≤ v_iv (n_v vs 4) ∧ v_iv (n_v vs 4) ≤ v_iv (n_v vs 6) + 79 := d4
  obtain ⟨d5, hds⟩ := List.forall_mem_cons.mp hds
  have d5 : v_iv (n_v vs 1) + (-4294967296) ≤ v_iv (n_v vs 6) ∧ v_iv (n_v vs 6) ≤ v_iv (n_v vs 1) + 0 := d5
  obtain ⟨d6, hds⟩ := List.forall_mem_cons.mp hds
  have d6 : v_iv (n_v vs 4) + (-4294967296) ≤ v_iv (n_v vs 6) ∧ v_iv (n_v vs 6) ≤ v_iv (n_v vs 4) + 24 := d6
  have hf : fc_ok [(24, [0, 5], []), (24, [1, 6], []), (100, [14, 6, 17], []), (1, [17, 15, 16], []), (10, [15, 14, 6], []), (9, [14, 5], [36]), (20, [5, 6, 4], [30, 0, 1, 2, 36, -1, 0, 0]), (100, [10, 13, 7], []), (9, [10, 5], [37]), (20, [5, 6, 4], [30, 0, 1, 2, 36, -1, 0, 0])] ta ws vs := hf
  obtain ⟨f0, hf⟩ := fc_un (show (24 : Nat) < 100 from by decide) hf
  have f0 : n_v vs 0 = n_v vs 5 := f0
  obtain ⟨f1, hf⟩ := fc_un (show (24 : Nat) < 100 from by decide) hf
  have f1 : n_v vs 1 = n_v vs 6 := f1
  obtain ⟨ta1, w1, le1, ⟨_, s1⟩, hf⟩ := fc_us (show ¬ (100 : Nat) < 100 from by decide) hf
  have s1 : (∀ b j, w_el ws b j = if b = v_ad (n_v vs 14) ∧ j = (v_iv (n_v vs 6)).toNat then v_iv (n_v vs 17) else w_el w1 b j) ∧ ∀ b k, w_fd ws b k = w_fd w1 b k := s1
  obtain ⟨f3, hf⟩ := fc_un (show (1 : Nat) < 100 from by decide) hf
  have f3 : v_iv (n_v vs 17) = v_iv (n_v vs 15) + v_iv (n_v vs 16) := f3
  obtain ⟨f4, hf⟩ := fc_un (show (10 : Nat) < 100 from by decide) hf
  have f4 : v_iv (n_v vs 15) = w_el w1 (v_ad (n_v vs 14)) (v_iv (n_v vs 6)).toNat := f4
  obtain ⟨f5, hf⟩ := fc_un (show (9 : Nat) < 100 from by decide) hf
  have f5 : n_v vs 14 = w_fd w1 (v_ad (n_v vs 5)) 36 := f5
  obtain ⟨f6, hf⟩ := fc_un (show (20 : Nat) < 100 from by decide) hf
  have f6 : 1 * w_el w1 (w_ar w1 (n_v vs 5) 36) (v_iv (n_v vs 6)).toNat + ((-1) * v_iv (n_v vs 4) + 0) ≤ 0 := f6
  obtain ⟨ta2, w2, le2, ⟨_, s2⟩, hf⟩ := fc_us (show ¬ (100 : Nat) < 100 from by decide) hf
  have s2 : (∀ b j, w_el w1 b j = if b = v_ad (n_v vs 10) ∧ j = (v_iv (n_v vs 13)).toNat then v_iv (n_v vs 7) else w_el w2 b j) ∧ ∀ b k, w_fd w1 b k = w_fd w2 b k := s2
  obtain ⟨f8, hf⟩ := fc_un (show (9 : Nat) < 100 from by decide) hf
  have f8 : n_v vs 10 = w_fd w2 (v_ad (n_v vs 5)) 37 := f8
  obtain ⟨f9, hf⟩ := fc_un (show (20 : Nat) < 100 from by decide) hf
  have f9 : 1 * w_el w2 (w_ar w2 (n_v vs 5) 36) (v_iv (n_v vs 6)).toNat + ((-1) * v_iv (n_v vs 4) + 0) ≤ 0 := f9
  have q5 : n_v vs 5 = n_v vs 0 := f0.symm
  have q6 : n_v vs 6 = n_v vs 1 := f1.symm
  rw [q6] at s1
  rw [q6] at f4
  rw [q5] at f5
  rw [q5] at f6
  rw [q6] at f6
  rw [q5] at f8
  rw [q5] at f9
  rw [q6] at f9
  have ar_0_36_1 : w_ar w1 (n_v vs 0) 36 = w_ar ws (n_v vs 0) 36 := by show v_ad (w_fd w1 _ _) = v_ad (w_fd ws _ _); rw [s1.2]
  have ar_0_36_2 : w_ar w2 (n_v vs 0) 36 = w_ar ws (n_v vs 0) 36 := by rw [← ar_0_36_1]; show v_ad (w_fd w2 _ _) = v_ad (w_fd w1 _ _); rw [s2.2]
  have cr_0_36 : ta (w_ar ws (n_v vs 0) 36) = some 168 := tv_rg (th_fd hD hth r0 (g := GG_150) rfl (k := 36) (t := (2, 0, 0, [168])) rfl rfl)
  have ar_0_37_1 : w_ar w1 (n_v vs 0) 37 = w_ar ws (n_v vs 0) 37 := by show v_ad (w_fd w1 _ _) = v_ad (w_fd ws _ _); rw [s1.2]
  have ar_0_37_2 : w_ar w2 (n_v vs 0) 37 = w_ar ws (n_v vs 0) 37 := by rw [← ar_0_37_1]; show v_ad (w_fd w2 _ _) = v_ad (w_fd w1 _ _); rw [s2.2]
  have cr_0_37 : ta (w_ar ws (n_v vs 0) 37) = some 169 := tv_rg (th_fd hD hth r0 (g := GG_150) rfl (k := 37) (t := (2, 0, 0, [169])) rfl rfl)
  have ad_14 : v_ad (n_v vs 14) = w_ar ws (n_v vs 0) 36 := (congrArg v_ad f5).trans ar_0_36_1
  have ad_10 : v_ad (n_v vs 10) = w_ar ws (n_v vs 0) 37 := (congrArg v_ad f8).trans ar_0_37_2
  rw [ad_14] at f4
  rw [ar_0_36_1] at f6
  rw [ar_0_36_2] at f9
  have ee_0_36_1_1 : w_el ws (w_ar ws (n_v vs 0) 36) (v_iv (n_v vs 1)).toNat = v_iv (n_v vs 17) := by rw [s1.1, if_pos ⟨ad_14.symm, rfl⟩]
  have ee_0_36_1_2 : w_el w1 (w_ar ws (n_v vs 0) 36) (v_iv (n_v vs 1)).toNat = w_el w2 (w_ar ws (n_v vs 0) 36) (v_iv (n_v vs 1)).toNat := by rw [s2.1, if_neg (fun e => by have e1 := e.1; rw [← e1] at r10; rw [cr_0_36] at r10; exact absurd (Option.some.inj r10) (by decide))]
  have nf0 : fc_1 (20, [0, 1, 4], [30, 1, 1, 2, 36, -1, 0, 0]) ws (vs) := by
    refine ⟨fun n hn => ?_, ?_⟩
    · have hn : n ∈ [0, 1, 4] := hn
      rw [hl]
      simp only [List.mem_cons, List.not_mem_nil, or_false] at hn
      show n < 18; omega
    · show 1 * w_el ws (w_ar ws (n_v vs 0) 36) (v_iv (n_v vs 1)).toNat + ((-1) * v_iv (n_v vs 4) + 0) ≤ 1
      omega
  refine ⟨(fun _ h => (by cases h)), [], trivial, ?_, (fun _ h => (by cases h))⟩
  rw [List.append_nil]
  exact List.forall_mem_cons.mpr ⟨⟨show (20 : Nat) < 100 from by decide, nf0⟩, (fun _ h => (by cases h))⟩
def n_Mo_putAt_an : List an_T := [(8, [(0, (2, 0, 0, [150])), (1, (0, 0, 24, [])), (2, (0, 0, 79, [])), (3, (0, 0, 79, [])), (4, (0, 0, 79, []))], [], (0, 0), [(0, 0, 99992), (2, 9, 0), (0, 0, 100000)], [(1, 2, -1000000000000, 24), (1, 3, -1000000000000, 24), (1, 4, -1000000000000, 24), (1, 6, -1000000000000, 0), (1, 7, -1000000000000, 24), (1, 8, -1000000000000, 24), (1, 9, -1000000000000, 24), (2, 1, -1000000000000, 79), (2, 3, -1000000000000, 79), (2, 4, -1000000000000, 79), (2, 6, -1000000000000, 79), (2, 7, -1000000000000, 0), (2, 8, -1000000000000, 79), (2, 9, -1000000000000, 79), (3, 1, -1000000000000, 79), (3, 2, -1000000000000, 79), (3, 4, -1000000000000, 79), (3, 6, -1000000000000, 79), (3, 7, -1000000000000, 79), (3, 8, -1000000000000, 0), (3, 9, -1000000000000, 79), (4, 1, -1000000000000, 79), (4, 2, -1000000000000, 79), (4, 3, -1000000000000, 79), (4, 6, -1000000000000, 79), (4, 7, -1000000000000, 79), (4, 8, -1000000000000, 79), (4, 9, -1000000000000, 79), (6, 1, -1000000000000, 0), (6, 2, -1000000000000, 24), (6, 3, -1000000000000, 24), (6, 4, -1000000000000, 24), (6, 7, -1000000000000, 24), (6, 8, -1000000000000, 24), (6, 9, -1000000000000, 24), (7, 1, -1000000000000, 79), (7, 2, -1000000000000, 0), (7, 3, -1000000000000, 79), (7, 4, -1000000000000, 79), (7, 6, -1000000000000, 79), (7, 8, -1000000000000, 79), (7, 9, -1000000000000, 79), (8, 1, -1000000000000, 79), (8, 2, -1000000000000, 79), (8, 3, -1000000000000, 0), (8, 4, -1000000000000, 79), (8, 6, -1000000000000, 79), (8, 7, -1000000000000, 79), (8, 9, -1000000000000, 79), (9, 1, -1000000000000, 79), (9, 2, -1000000000000, 79), (9, 3, -1000000000000, 79), (9, 4, -1000000000000, 79), (9, 6, -1000000000000, 79), (9, 7, -1000000000000, 79), (9, 8, -1000000000000, 79)], [], [(2, 0, 0, [150]), (0, 0, 24, []), (0, 0, 79, []), (0, 0, 79, []), (0, 0, 79, [])], 0, [], [(20, [5, 6, 4], [30, 0, 1, 2, 36, -1, 0, 0]), (24, [0, 5], []), (24, [1, 6], [])])]
def t_Mo_putAt_ct : ct_L := []
set_option maxRecDepth 100000 in
theorem c_Mo_putAt {l : Launch} {D : va_G} {kA : Nat → ClassId} : ct_ok l D kA GG y_Mo_putAt z_Mo_putAt e_Mo_putAt := chk_all_ok (FT := [(66, 13, 36), (69, 13, 37)]) (PT := []) (CT := t_Mo_putAt_ct) (KT := []) (NT := []) (AN := n_Mo_putAt_an) (OT := [o_Mo_putAt_0, o_Mo_putAt_1, o_Mo_putAt_2, o_Mo_putAt_3]) 3 200 (List.forall_mem_cons.mpr ⟨oo_Mo_putAt_0, List.forall_mem_cons.mpr ⟨oo_Mo_putAt_1, List.forall_mem_cons.mpr ⟨oo_Mo_putAt_2, List.forall_mem_cons.mpr ⟨oo_Mo_putAt_3, List.forall_mem_nil _⟩⟩⟩⟩) (by decide +kernel) ⟨List.forall_mem_cons.mpr ⟨gf_Mo_66, List.forall_mem_cons.mpr ⟨gf_Mo_69, List.forall_mem_nil _⟩⟩, List.forall_mem_nil _, List.forall_mem_nil _, List.forall_mem_nil _, List.forall_mem_nil _, GG_pl⟩ (by decide +kernel)
def n_Mo_px_an : List an_T := []
def t_Mo_px_ct : ct_L := []
set_option maxRecDepth 100000 in
theorem c_Mo_px {l : Launch} {D : va_G} {kA : Nat → ClassId} : ct_ok l D kA GG y_Mo_px z_Mo_px e_Mo_px := chk_all_ok (FT := [(123, 13, 62), (1020, 13, 139)]) (PT := []) (CT := t_Mo_px_ct) (KT := []) (NT := []) (AN := n_Mo_px_an) (OT := []) 0 200 (List.forall_mem_nil _) (by decide +kernel) ⟨List.forall_mem_cons.mpr ⟨gf_Mo_123, List.forall_mem_cons.mpr ⟨gf_Mo_1020, List.forall_mem_nil _⟩⟩, List.forall_mem_nil _, List.forall_mem_nil _, List.forall_mem_nil _, List.forall_mem_nil _, GG_pl⟩ (by decide +kernel)
def n_Mo_py_an : List an_T := []
def t_Mo_py_ct : ct_L := []
set_option maxRecDepth 100000 in
theorem c_Mo_py {l : Launch} {D : va_G} {kA : Nat → ClassId} : ct_ok l D kA GG y_Mo_py z_Mo_py e_Mo_py := chk_all_ok (FT := [(126, 13, 63), (1020, 13, 139)]) (PT := []) (CT := t_Mo_py_ct) (KT := []) (NT := []) (AN := n_Mo_py_an) (OT := []) 0 200 (List.forall_mem_nil _) (by decide +kernel) ⟨List.forall_mem_cons.mpr ⟨gf_Mo_126, List.forall_mem_cons.mpr ⟨gf_Mo_1020, List.forall_mem_nil _⟩⟩, List.forall_mem_nil _, List.forall_mem_nil _, List.forall_mem_nil _, List.forall_mem_nil _, GG_pl⟩ (by decide +kernel)
def o_Mo_rowOf_0 : or_T := (10, 7, [(0, (0, 0, 3, [])), (1, (0, 0, 30, [])), (2, (0, 539, 539, [])), (3, (0, 31, 31, [])), (4, (0, 0, 93, [])), (5, (0, 0, 123, [])), (6, (0, 0, 66297, []))], [(3, [6, 2, 5], []), (1, [5, 4, 1], []), (3, [4, 3, 0], [])], [], [], [(23, [6, 0, 1], [0, 1, -16709, -539]), (23, [6, 0, 1], [0, -1, 16709, 539])], [], [(5, 1, 0, 93), (5, 4, 0, 30)])
theorem oo_Mo_rowOf_0 {kA : Nat → ClassId} : or_ok kA GG o_Mo_rowOf_0 := by
  intro A ta ws vs hD hth hl hk hds hf
  have hl : vs.length = 7 := hl
  have hk : ∀ q ∈ ([(0, (0, 0, 3, [])), (1, (0, 0, 30, [])), (2, (0, 539, 539, [])), (3, (0, 31, 31, [])), (4, (0, 0, 93, [])), (5, (0, 0, 123, [])), (6, (0, 0, 66297, []))] : List (Nat × tv_T)), tv_ok ta q.2 (n_v vs q.1) := hk
  obtain ⟨t0, hk⟩ := List.forall_mem_cons.mp hk
  have t0 : tv_ok ta (0, 0, 3, []) (n_v vs 0) := t0
  have k0 : 0 ≤ v_iv (n_v vs 0) ∧ v_iv (n_v vs 0) ≤ 3 := tv_rng t0
  obtain ⟨t1, hk⟩ := List.forall_mem_cons.mp hk
  have t1 : tv_ok ta (0, 0, 30, []) (n_v vs 1) := t1
  have k1 : 0 ≤ v_iv (n_v vs 1) ∧ v_iv (n_v vs 1) ≤ 30 := tv_rng t1
  obtain ⟨t2, hk⟩ := List.forall_mem_cons.mp hk
  have t2 : tv_ok ta (0, 539, 539, []) (n_v vs 2) := t2
  have k2 : 539 ≤ v_iv (n_v vs 2) ∧ v_iv (n_v vs 2) ≤ 539 := tv_rng t2
  obtain ⟨t3, hk⟩ := List.forall_mem_cons.mp hk
  have t3 : tv_ok ta (0, 31, 31, []) (n_v vs 3) := t3
  have k3 : 31 ≤ v_iv (n_v vs 3) ∧ v_iv (n_v vs 3) ≤ 31 := tv_rng t3
  obtain ⟨t4, hk⟩ := List.forall_mem_cons.mp hk
  have t4 : tv_ok ta (0, 0, 93, []) (n_v vs 4) := t4
  have k4 : 0 ≤ v_iv (n_v vs 4) ∧ v_iv (n_v vs 4) ≤ 93 := tv_rng t4
  obtain ⟨t5, hk⟩ := List.forall_mem_cons.mp hk
  have t5 : tv_ok ta (0, 0, 123, []) (n_v vs 5) := t5
  have k5 : 0 ≤ v_iv (n_v vs 5) ∧ v_iv (n_v vs 5) ≤ 123 := tv_rng t5
  obtain ⟨t6, hk⟩ := List.forall_mem_cons.mp hk
  have t6 : tv_ok ta (0, 0, 66297, []) (n_v vs 6) := t6
  have k6 : 0 ≤ v_iv (n_v vs 6) ∧ v_iv (n_v vs 6) ≤ 66297 := tv_rng t6
  have hds : ∀ q ∈ ([(5, 1, 0, 93), (5, 4, 0, 30)] : List of_T), n_iv vs q.2.1 + q.2.2.1 ≤ n_iv vs q.1 ∧ n_iv vs q.1 ≤ n_iv vs q.2.1 + q.2.2.2 := hds
  obtain ⟨d0, hds⟩ := List.forall_mem_cons.mp hds
  have d0 : v_iv (n_v vs 1) + 0 ≤ v_iv (n_v vs 5) ∧ v_iv (n_v vs 5) ≤ v_iv (n_v vs 1) + 93 := d0
  obtain ⟨d1, hds⟩ := List.forall_mem_cons.mp hds
  have d1 : v_iv (n_v vs 4) + 0 ≤ v_iv (n_v vs 5) ∧ v_iv (n_v vs 5) ≤ v_iv (n_v vs 4) + 30 := d1
  have hf : fc_ok [(3, [6, 2, 5], []), (1, [5, 4, 1], []), (3, [4, 3, 0], [])] ta ws vs := hf
  obtain ⟨f0, hf⟩ := fc_un (show (3 : Nat) < 100 from by decide) hf
  have f0 : v_iv (n_v vs 6) = v_iv (n_v vs 2) * v_iv (n_v vs 5) := f0
  rw [show v_iv (n_v vs 2) = 539 from by omega] at f0
  obtain ⟨f1, hf⟩ := fc_un (show (1 : Nat) < 100 from by decide) hf
  have f1 : v_iv (n_v vs 5) = v_iv (n_v vs 4) + v_iv (n_v vs 1) := f1
  obtain ⟨f2, hf⟩ := fc_un (show (3 : Nat) < 100 from by decide) hf
  have f2 : v_iv (n_v vs 4) = v_iv (n_v vs 3) * v_iv (n_v vs 0) := f2
  rw [show v_iv (n_v vs 3) = 31 from by omega] at f2
  have nf0 : fc_1 (23, [6, 0, 1], [0, 1, -16709, -539]) ws (vs) := by
    refine ⟨fun n hn => ?_, ?_⟩
    · have hn : n ∈ [6, 0, 1] := hn
      rw [hl]
      simp only [List.mem_cons, List.not_mem_nil, or_false] at hn
      show n < 7; omega
    · show 1 * v_iv (n_v vs 6) + ((-16709) * v_iv (n_v vs 0) + ((-539) * v_iv (n_v vs 1) + 0)) ≤ 0
      omega
  have nf1 : fc_1 (23, [6, 0, 1], [0, -1, 16709, 539]) ws (vs) := by
    refine ⟨fun n hn => ?_, ?_⟩
    · have hn : n ∈ [6, 0, 1] := hn
      rw [hl]
      simp only [List.mem_cons, List.not_mem_nil, or_false] at hn
      show n < 7; omega
    · show (-1) * v_iv (n_v vs 6) + (16709 * v_iv (n_v vs 0) + (539 * v_iv (n_v vs 1) + 0)) ≤ 0
      omega
  refine ⟨(fun _ h => (by cases h)), [], trivial, ?_, (fun _ h => (by cases h))⟩
  rw [List.append_nil]
  exact List.forall_mem_cons.mpr ⟨⟨show (23 : Nat) < 100 from by decide, nf0⟩, List.forall_mem_cons.mpr ⟨⟨show (23 : Nat) < 100 from by decide, nf1⟩, (fun _ h => (by cases h))⟩⟩
def n_Mo_rowOf_an : List an_T := []
def t_Mo_rowOf_ct : ct_L := []
set_option maxRecDepth 100000 in
theorem c_Mo_rowOf {l : Launch} {D : va_G} {kA : Nat → ClassId} : ct_ok l D kA GG y_Mo_rowOf z_Mo_rowOf e_Mo_rowOf := chk_all_ok (FT := []) (PT := []) (CT := t_Mo_rowOf_ct) (KT := []) (NT := []) (AN := n_Mo_rowOf_an) (OT := [o_Mo_rowOf_0]) 0 200 (List.forall_mem_cons.mpr ⟨oo_Mo_rowOf_0, List.forall_mem_nil _⟩) (by decide +kernel) ⟨List.forall_mem_nil _, List.forall_mem_nil _, List.forall_mem_nil _, List.forall_mem_nil _, List.forall_mem_nil _, GG_pl⟩ (by decide +kernel)
def n_Mo_shareNew_an : List an_T := [(44, [(0, (2, 0, 0, [150])), (1, (0, 0, 79, [])), (2, (0, 0, 79, []))], [], (0, 0), [(0, 0, 99956)], [], [], [], 0, [], []), (48, [(0, (2, 0, 0, [150])), (1, (0, 0, 79, [])), (2, (0, 0, 79, []))], [], (0, 0), [(0, 0, 99952)], [], [], [], 0, [], []), (49, [(0, (2, 0, 0, [150])), (1, (0, 0, 79, [])), (2, (0, 0, 79, []))], [(0, 0, 1, [])], (0, 0), [(0, 0, 99951)], [], [], [], 0, [], []), (94, [(0, (2, 0, 0, [150])), (1, (0, 0, 79, [])), (2, (0, 0, 79, [])), (3, (0, 0, 1, []))], [], (0, 0), [(0, 0, 99906)], [], [], [], 0, [], []), (98, [(0, (2, 0, 0, [150])), (1, (0, 0, 79, [])), (2, (0, 0, 79, [])), (3, (0, 0, 1, []))], [], (0, 0), [(0, 0, 99902)], [], [], [], 0, [], []), (99, [(0, (2, 0, 0, [150])), (1, (0, 0, 79, [])), (2, (0, 0, 79, [])), (3, (0, 0, 1, []))], [(0, 0, 1, [])], (0, 0), [(0, 0, 99901)], [], [], [], 0, [], []), (110, [(0, (2, 0, 0, [150])), (1, (0, 0, 79, [])), (2, (0, 0, 79, [])), (3, (0, 0, 1, [])), (4, (0, 0, 1, []))], [], (0, 0), [(0, 0, 99890)], [], [], [], 0, [], []), (115, [(0, (2, 0, 0, [150])), (1, (0, 0, 79, [])), (2, (0, 0, 79, [])), (3, (0, 0, 1, [])), (4, (0, 0, 1, []))], [(0, 0, 1, [])], (0, 0), [(0, 0, 99885)], [], [], [], 0, [], [])]
def t_Mo_shareNew_ct : ct_L := []
set_option maxRecDepth 100000 in
theorem c_Mo_shareNew {l : Launch} {D : va_G} {kA : Nat → ClassId} : ct_ok l D kA GG y_Mo_shareNew z_Mo_shareNew e_Mo_shareNew := chk_all_ok (FT := [(57, 13, 33), (60, 13, 34), (81, 13, 42)]) (PT := []) (CT := t_Mo_shareNew_ct) (KT := []) (NT := []) (AN := n_Mo_shareNew_an) (OT := []) 1 272 (List.forall_mem_nil _) (by decide +kernel) ⟨List.forall_mem_cons.mpr ⟨gf_Mo_57, List.forall_mem_cons.mpr ⟨gf_Mo_60, List.forall_mem_cons.mpr ⟨gf_Mo_81, List.forall_mem_nil _⟩⟩⟩, List.forall_mem_nil _, List.forall_mem_nil _, List.forall_mem_nil _, List.forall_mem_nil _, GG_pl⟩ (by decide +kernel)
def n_Mo_signOf_an : List an_T := []
def t_Mo_signOf_ct : ct_L := []
set_option maxRecDepth 100000 in
theorem c_Mo_signOf {l : Launch} {D : va_G} {kA : Nat → ClassId} : ct_ok l D kA GG y_Mo_signOf z_Mo_signOf e_Mo_signOf := chk_all_ok (FT := []) (PT := []) (CT := t_Mo_signOf_ct) (KT := []) (NT := []) (AN := n_Mo_signOf_an) (OT := []) 0 200 (List.forall_mem_nil _) (by decide +kernel) ⟨List.forall_mem_nil _, List.forall_mem_nil _, List.forall_mem_nil _, List.forall_mem_nil _, List.forall_mem_nil _, GG_pl⟩ (by decide +kernel)
def n_Mo_size_an : List an_T := []
def t_Mo_size_ct : ct_L := []
set_option maxRecDepth 100000 in
theorem c_Mo_size {l : Launch} {D : va_G} {kA : Nat → ClassId} : ct_ok l D kA GG y_Mo_size z_Mo_size e_Mo_size := chk_all_ok (FT := [(16, 13, 2), (391, 13, 5)]) (PT := []) (CT := t_Mo_size_ct) (KT := []) (NT := []) (AN := n_Mo_size_an) (OT := []) 0 200 (List.forall_mem_nil _) (by decide +kernel) ⟨List.forall_mem_cons.mpr ⟨gf_Mo_16, List.forall_mem_cons.mpr ⟨gf_Mo_391, List.forall_mem_nil _⟩⟩, List.forall_mem_nil _, List.forall_mem_nil _, List.forall_mem_nil _, List.forall_mem_nil _, GG_pl⟩ (by decide +kernel)
def n_Mo_toOf_an : List an_T := []
def t_Mo_toOf_ct : ct_L := []
set_option maxRecDepth 100000 in
theorem c_Mo_toOf {l : Launch} {D : va_G} {kA : Nat → ClassId} : ct_ok l D kA GG y_Mo_toOf z_Mo_toOf e_Mo_toOf := chk_all_ok (FT := [(57, 13, 33), (60, 13, 34)]) (PT := []) (CT := t_Mo_toOf_ct) (KT := []) (NT := []) (AN := n_Mo_toOf_an) (OT := []) 0 200 (List.forall_mem_nil _) (by decide +kernel) ⟨List.forall_mem_cons.mpr ⟨gf_Mo_57, List.forall_mem_cons.mpr ⟨gf_Mo_60, List.forall_mem_nil _⟩⟩, List.forall_mem_nil _, List.forall_mem_nil _, List.forall_mem_nil _, List.forall_mem_nil _, GG_pl⟩ (by decide +kernel)
def n_Mo_turnOf_an : List an_T := []
def t_Mo_turnOf_ct : ct_L := []
set_option maxRecDepth 100000 in
theorem c_Mo_turnOf {l : Launch} {D : va_G} {kA : Nat → ClassId} : ct_ok l D kA GG y_Mo_turnOf z_Mo_turnOf e_Mo_turnOf := chk_all_ok (FT := []) (PT := []) (CT := t_Mo_turnOf_ct) (KT := []) (NT := []) (AN := n_Mo_turnOf_an) (OT := []) 0 200 (List.forall_mem_nil _) (by decide +kernel) ⟨List.forall_mem_nil _, List.forall_mem_nil _, List.forall_mem_nil _, List.forall_mem_nil _, List.forall_mem_nil _, GG_pl⟩ (by decide +kernel)
def n_Mo_weight_an : List an_T := []
def t_Mo_weight_ct : ct_L := []
set_option maxRecDepth 100000 in
theorem c_Mo_weight {l : Launch} {D : va_G} {kA : Nat → ClassId} : ct_ok l D kA GG y_Mo_weight z_Mo_weight e_Mo_weight := chk_all_ok (FT := [(16, 13, 2), (391, 13, 5)]) (PT := []) (CT := t_Mo_weight_ct) (KT := []) (NT := []) (AN := n_Mo_weight_an) (OT := []) 0 200 (List.forall_mem_nil _) (by decide +kernel) ⟨List.forall_mem_cons.mpr ⟨gf_Mo_16, List.forall_mem_cons.mpr ⟨gf_Mo_391, List.forall_mem_nil _⟩⟩, List.forall_mem_nil _, List.forall_mem_nil _, List.forall_mem_nil _, List.forall_mem_nil _, GG_pl⟩ (by decide +kernel)
def o_Mo_write1_0 : or_T := (28, 7, [(0, (2, 0, 0, [150])), (2, (0, 0, 99999999, [])), (3, (0, 4000, 100000000, [])), (4, (0, 4000, 4000, [])), (5, (0, 1, 1, [])), (6, (0, 4001, 100000001, []))], [(1, [6, 3, 5], []), (9, [3, 0], [170]), (7, [3, 4], [3]), (20, [0, 2], [30, 0, 1, 1, 170, -1, 0, 0])], [(6, (0, 4001, 100000000, []))], [], [], [], [(6, 3, 1, 1)])
theorem oo_Mo_write1_0 {kA : Nat → ClassId} : or_ok kA GG o_Mo_write1_0 := by
  intro A ta ws vs hD hth hl hk hds hf
  have hl : vs.length = 7 := hl
  have hk : ∀ q ∈ ([(0, (2, 0, 0, [150])), (2, (0, 0, 99999999, [])), (3, (0, 4000, 100000000, [])), (4, (0, 4000, 4000, [])), (5, (0, 1, 1, [])), (6, (0, 4001, 100000001, []))] : List (Nat × tv_T)), tv_ok ta q.2 (n_v vs q.1) := hk
  obtain ⟨t0, hk⟩ := List.forall_mem_cons.mp hk
  have t0 : tv_ok ta (2, 0, 0, [150]) (n_v vs 0) := t0
  have r0 : ta (v_ad (n_v vs 0)) = some 150 := tv_rg t0
  obtain ⟨t2, hk⟩ := List.forall_mem_cons.mp hk
  have t2 : tv_ok ta (0, 0, 99999999, []) (n_v vs 2) := t2
  have k2 : 0 ≤ v_iv (n_v vs 2) ∧ v_iv (n_v vs 2) ≤ 99999999 := tv_rng t2
  obtain ⟨t3, hk⟩ := List.forall_mem_cons.mp hk
  have t3 : tv_ok ta (0, 4000, 100000000, []) (n_v vs 3) := t3
  have k3 : 4000 ≤ v_iv (n_v vs 3) ∧ v_iv (n_v vs 3) ≤ 100000000 := tv_rng t3
  obtain ⟨t4, hk⟩ := List.forall_mem_cons.mp hk
  have t4 : tv_ok ta (0, 4000, 4000, []) (n_v vs 4) := t4
  have k4 : 4000 ≤ v_iv (n_v vs 4) ∧ v_iv (n_v vs 4) ≤ 4000 := tv_rng t4
  obtain ⟨t5, hk⟩ := List.forall_mem_cons.mp hk
  have t5 : tv_ok ta (0, 1, 1, []) (n_v vs 5) := t5
  have k5 : 1 ≤ v_iv (n_v vs 5) ∧ v_iv (n_v vs 5) ≤ 1 := tv_rng t5
  obtain ⟨t6, hk⟩ := List.forall_mem_cons.mp hk
  have t6 : tv_ok ta (0, 4001, 100000001, []) (n_v vs 6) := t6
  have k6 : 4001 ≤ v_iv (n_v vs 6) ∧ v_iv (n_v vs 6) ≤ 100000001 := tv_rng t6
  have hds : ∀ q ∈ ([(6, 3, 1, 1)] : List of_T), n_iv vs q.2.1 + q.2.2.1 ≤ n_iv vs q.1 ∧ n_iv vs q.1 ≤ n_iv vs q.2.1 + q.2.2.2 := hds
  obtain ⟨d0, hds⟩ := List.forall_mem_cons.mp hds
  have d0 : v_iv (n_v vs 3) + 1 ≤ v_iv (n_v vs 6) ∧ v_iv (n_v vs 6) ≤ v_iv (n_v vs 3) + 1 := d0
  have hf : fc_ok [(1, [6, 3, 5], []), (9, [3, 0], [170]), (7, [3, 4], [3]), (20, [0, 2], [30, 0, 1, 1, 170, -1, 0, 0])] ta ws vs := hf
  obtain ⟨f0, hf⟩ := fc_un (show (1 : Nat) < 100 from by decide) hf
  have f0 : v_iv (n_v vs 6) = v_iv (n_v vs 3) + v_iv (n_v vs 5) := f0
  obtain ⟨f1, hf⟩ := fc_un (show (9 : Nat) < 100 from by decide) hf
  have f1 : n_v vs 3 = w_fd ws (v_ad (n_v vs 0)) 170 := f1
  obtain ⟨f2, hf⟩ := fc_un (show (7 : Nat) < 100 from by decide) hf
  have f2 : v_iv (n_v vs 4) ≤ v_iv (n_v vs 3) := f2
  obtain ⟨f3, hf⟩ := fc_un (show (20 : Nat) < 100 from by decide) hf
  have f3 : 1 * w_fi ws (n_v vs 0) 170 + ((-1) * v_iv (n_v vs 2) + 0) ≤ 0 := f3
  have g1 : v_iv (n_v vs 3) = w_fi ws (n_v vs 0) 170 := congrArg v_iv f1
  have kz_0_170 : 0 ≤ w_fi ws (n_v vs 0) 170 ∧ w_fi ws (n_v vs 0) 170 ≤ 100000000 := tv_rng (th_fd hD hth r0 (g := GG_150) rfl (k := 170) (t := (0, 0, 100000000, [])) rfl rfl)
  have rf6 : tv_ok ta (0, 4001, 100000000, []) (n_v vs 6) := tv_in t6 (by omega) (by omega)
  refine ⟨List.forall_mem_cons.mpr ⟨rf6, (fun _ h => (by cases h))⟩, [], trivial, ?_, (fun _ h => (by cases h))⟩
  rw [List.append_nil]
  exact (fun _ h => (by cases h))
def o_Mo_write1_1 : or_T := (31, 7, [(0, (2, 0, 0, [150])), (2, (0, 0, 99999999, [])), (3, (0, 4000, 100000000, [])), (4, (0, 4000, 4000, [])), (5, (0, 1, 1, [])), (6, (0, 4001, 100000000, []))], [(101, [0, 6], [170]), (1, [6, 3, 5], []), (9, [3, 0], [170]), (7, [3, 4], [3]), (20, [0, 2], [30, 0, 1, 1, 170, -1, 0, 0])], [], [], [(20, [0, 2], [30, 1, 1, 1, 170, -1, 0, 0])], [], [(6, 3, 1, 1)])
theorem oo_Mo_write1_1 {kA : Nat → ClassId} : or_ok kA GG o_Mo_write1_1 := by
  intro A ta ws vs hD hth hl hk hds hf
  have hl : vs.length = 7 := hl
  have hk : ∀ q ∈ ([(0, (2, 0, 0, [150])), (2, (0, 0, 99999999, [])), (3, (0, 4000, 100000000, [])), (4, (0, 4000, 4000, [])), (5, (0, 1, 1, [])), (6, (0, 4001, 100000000, []))] : List (Nat × tv_T)), tv_ok ta q.2 (n_v vs q.1) := hk
  obtain ⟨t0, hk⟩ := List.forall_mem_cons.mp hk
  have t0 : tv_ok ta (2, 0, 0, [150]) (n_v vs 0) := t0
  have r0 : ta (v_ad (n_v vs 0)) = some 150 := tv_rg t0
  obtain ⟨t2, hk⟩ := List.forall_mem_cons.mp hk
  have t2 : tv_ok ta (0, 0, 99999999, []) (n_v vs 2) := t2
  have k2 : 0 ≤ v_iv (n_v vs 2) ∧ v_iv (n_v vs 2) ≤ 99999999 := tv_rng t2
  obtain ⟨t3, hk⟩ := List.forall_mem_cons.mp hk
  have t3 : tv_ok ta (0, 4000, 100000000, []) (n_v vs 3) := t3
  have k3 : 4000 ≤ v_iv (n_v vs 3) ∧ v_iv (n_v vs 3) ≤ 100000000 := tv_rng t3
  obtain ⟨t4, hk⟩ := List.forall_mem_cons.mp hk
  have t4 : tv_ok ta (0, 4000, 4000, []) (n_v vs 4) := t4
  have k4 : 4000 ≤ v_iv (n_v vs 4) ∧ v_iv (n_v vs 4) ≤ 4000 := tv_rng t4
  obtain ⟨t5, hk⟩ := List.forall_mem_cons.mp hk
  have t5 : tv_ok ta (0, 1, 1, []) (n_v vs 5) := t5
  have k5 : 1 ≤ v_iv (n_v vs 5) ∧ v_iv (n_v vs 5) ≤ 1 := tv_rng t5
  obtain ⟨t6, hk⟩ := List.forall_mem_cons.mp hk
  have t6 : tv_ok ta (0, 4001, 100000000, []) (n_v vs 6) := t6
  have k6 : 4001 ≤ v_iv (n_v vs 6) ∧ v_iv (n_v vs 6) ≤ 100000000 := tv_rng t6
  have hds : ∀ q ∈ ([(6, 3, 1, 1)] : List of_T), n_iv vs q.2.1 + q.2.2.1 ≤ n_iv vs q.1 ∧ n_iv vs q.1 ≤ n_iv vs q.2.1 + q.2.2.2 := hds
  obtain ⟨d0, hds⟩ := List.forall_mem_cons.mp hds
  have d0 : v_iv (n_v vs 3) + 1 ≤ v_iv (n_v vs 6) ∧ v_iv (n_v vs 6) ≤ v_iv (n_v vs 3) + 1 := d0
  have hf : fc_ok [(101, [0, 6], [170]), (1, [6, 3, 5], []), (9, [3, 0], [170]), (7, [3, 4], [3]), (20, [0, 2], [30, 0, 1, 1, 170, -1, 0, 0])] ta ws vs := hf
  obtain ⟨ta1, w1, le1, ⟨_, s1⟩, hf⟩ := fc_us (show ¬ (101 : Nat) < 100 from by decide) hf
  have s1 : (∀ b j, w_el ws b j = w_el w1 b j) ∧ ∀ b j, w_fd ws b j = if b = v_ad (n_v vs 0) ∧ j = 170 then n_v vs 6 else w_fd w1 b j := s1
  obtain ⟨f1, hf⟩ := fc_un (show (1 : Nat) < 100 from by decide) hf
  have f1 : v_iv (n_v vs 6) = v_iv (n_v vs 3) + v_iv (n_v vs 5) := f1
  obtain ⟨f2, hf⟩ := fc_un (show (9 : Nat) < 100 from by decide) hf
  have f2 : n_v vs 3 = w_fd w1 (v_ad (n_v vs 0)) 170 := f2
  obtain ⟨f3, hf⟩ := fc_un (show (7 : Nat) < 100 from by decide) hf
  have f3 : v_iv (n_v vs 4) ≤ v_iv (n_v vs 3) := f3
  obtain ⟨f4, hf⟩ := fc_un (show (20 : Nat) < 100 from by decide) hf
  have f4 : 1 * w_fi w1 (n_v vs 0) 170 + ((-1) * v_iv (n_v vs 2) + 0) ≤ 0 := f4
  have g2 : v_iv (n_v vs 3) = w_fi w1 (n_v vs 0) 170 := congrArg v_iv f2
  have fe_0_170_1 : w_fi ws (n_v vs 0) 170 = v_iv (n_v vs 6) := by show v_iv (w_fd _ _ _) = _; rw [s1.2, if_pos ⟨rfl, rfl⟩]
  have kz_0_170 : 0 ≤ w_fi ws (n_v vs 0) 170 ∧ w_fi ws (n_v vs 0) 170 ≤ 100000000 := tv_rng (th_fd hD hth r0 (g := GG_150) rfl (k := 170) (t := (0, 0, 100000000, [])) rfl rfl)
  have nf0 : fc_1 (20, [0, 2], [30, 1, 1, 1, 170, -1, 0, 0]) ws (vs) := by
    refine ⟨fun n hn => ?_, ?_⟩
    · have hn : n ∈ [0, 2] := hn
      rw [hl]
      simp only [List.mem_cons, List.not_mem_nil, or_false] at hn
      show n < 7; omega
    · show 1 * w_fi ws (n_v vs 0) 170 + ((-1) * v_iv (n_v vs 2) + 0) ≤ 1
      omega
  refine ⟨(fun _ h => (by cases h)), [], trivial, ?_, (fun _ h => (by cases h))⟩
  rw [List.append_nil]
  exact List.forall_mem_cons.mpr ⟨⟨show (20 : Nat) < 100 from by decide, nf0⟩, (fun _ h => (by cases h))⟩
def o_Mo_write1_2 : or_T := (31, 9, [(0, (2, 0, 0, [150])), (2, (0, 0, 99999999, [])), (3, (0, 0, 3999, [])), (4, (0, 4000, 4000, [])), (7, (0, 1, 1, [])), (8, (0, 1, 4000, []))], [(101, [0, 8], [170]), (1, [8, 3, 7], []), (9, [3, 0], [170]), (20, [0, 2], [30, 0, 1, 1, 170, -1, 0, 0]), (103, [5], []), (7, [3, 4], [2]), (20, [0, 2], [30, 0, 1, 1, 170, -1, 0, 0])], [], [], [(20, [0, 2], [30, 1, 1, 1, 170, -1, 0, 0])], [], [(8, 3, 1, 1)])
theorem oo_Mo_write1_2 {kA : Nat → ClassId} : or_ok kA GG o_Mo_write1_2 := by
  intro A ta ws vs hD hth hl hk hds hf
  have hl : vs.length = 9 := hl
  have hk : ∀ q ∈ ([(0, (2, 0, 0, [150])), (2, (0, 0, 99999999, [])), (3, (0, 0, 3999, [])), (4, (0, 4000, 4000, [])), (7, (0, 1, 1, [])), (8, (0, 1, 4000, []))] : List (Nat × tv_T)), tv_ok ta q.2 (n_v vs q.1) := hk
  obtain ⟨t0, hk⟩ := List.forall_mem_cons.mp hk
  have t0 : tv_ok ta (2, 0, 0, [150]) (n_v vs 0) := t0
  have r0 : ta (v_ad (n_v vs 0)) = some 150 := tv_rg t0
  obtain ⟨t2, hk⟩ := List.forall_mem_cons.mp hk
  have t2 : tv_ok ta (0, 0, 99999999, []) (n_v vs 2) := t2
  have k2 : 0 ≤ v_iv (n_v vs 2) ∧ v_iv (n_v vs 2) ≤ 99999999 := tv_rng t2
  obtain ⟨t3, hk⟩ := List.forall_mem_cons.mp hk
  have t3 : tv_ok ta (0, 0, 3999, []) (n_v vs 3) := t3
  have k3 : 0 ≤ v_iv (n_v vs 3) ∧ v_iv (n_v vs 3) ≤ 3999 := tv_rng t3
  obtain ⟨t4, hk⟩ := List.forall_mem_cons.mp hk
  have t4 : tv_ok ta (0, 4000, 4000, []) (n_v vs 4) := t4
  have k4 : 4000 ≤ v_iv (n_v vs 4) ∧ v_iv (n_v vs 4) ≤ 4000 := tv_rng t4
  obtain ⟨t7, hk⟩ := List.forall_mem_cons.mp hk
  have t7 : tv_ok ta (0, 1, 1, []) (n_v vs 7) := t7
  have k7 : 1 ≤ v_iv (n_v vs 7) ∧ v_iv (n_v vs 7) ≤ 1 := tv_rng t7
  obtain ⟨t8, hk⟩ := List.forall_mem_cons.mp hk
  have t8 : tv_ok ta (0, 1, 4000, []) (n_v vs 8) := t8
  have k8 : 1 ≤ v_iv (n_v vs 8) ∧ v_iv (n_v vs 8) ≤ 4000 := tv_rng t8
  have hds : ∀ q ∈ ([(8, 3, 1, 1)] : List of_T), n_iv vs q.2.1 + q.2.2.1 ≤ n_iv vs q.1 ∧ n_iv vs q.1 ≤ n_iv vs q.2.1 + q.2.2.2 := hds
  obtain ⟨d0, hds⟩ := List.forall_mem_cons.mp hds
  have d0 : v_iv (n_v vs 3) + 1 ≤ v_iv (n_v vs 8) ∧ v_iv (n_v vs 8) ≤ v_iv (n_v vs 3) + 1 := d0
  have hf : fc_ok [(101, [0, 8], [170]), (1, [8, 3, 7], []), (9, [3, 0], [170]), (20, [0, 2], [30, 0, 1, 1, 170, -1, 0, 0]), (103, [5], []), (7, [3, 4], [2]), (20, [0, 2], [30, 0, 1, 1, 170, -1, 0, 0])] ta ws vs := hf
  obtain ⟨ta1, w1, le1, ⟨_, s1⟩, hf⟩ := fc_us (show ¬ (101 : Nat) < 100 from by decide) hf
  have s1 : (∀ b j, w_el ws b j = w_el w1 b j) ∧ ∀ b j, w_fd ws b j = if b = v_ad (n_v vs 0) ∧ j = 170 then n_v vs 8 else w_fd w1 b j := s1
  obtain ⟨f1, hf⟩ := fc_un (show (1 : Nat) < 100 from by decide) hf
  have f1 : v_iv (n_v vs 8) = v_iv (n_v vs 3) + v_iv (n_v vs 7) := f1
  obtain ⟨f2, hf⟩ := fc_un (show (9 : Nat) < 100 from by decide) hf
  have f2 : n_v vs 3 = w_fd w1 (v_ad (n_v vs 0)) 170 := f2
  obtain ⟨f3, hf⟩ := fc_un (show (20 : Nat) < 100 from by decide) hf
  have f3 : 1 * w_fi w1 (n_v vs 0) 170 + ((-1) * v_iv (n_v vs 2) + 0) ≤ 0 := f3
  obtain ⟨ta2, w2, le2, ⟨_, s2⟩, hf⟩ := fc_us (show ¬ (103 : Nat) < 100 from by decide) hf
  obtain ⟨f5, hf⟩ := fc_un (show (7 : Nat) < 100 from by decide) hf
  have f5 : v_iv (n_v vs 3) < v_iv (n_v vs 4) := f5
  obtain ⟨f6, hf⟩ := fc_un (show (20 : Nat) < 100 from by decide) hf
  have f6 : 1 * w_fi w2 (n_v vs 0) 170 + ((-1) * v_iv (n_v vs 2) + 0) ≤ 0 := f6
  have g2 : v_iv (n_v vs 3) = w_fi w1 (n_v vs 0) 170 := congrArg v_iv f2
  have fe_0_170_1 : w_fi ws (n_v vs 0) 170 = v_iv (n_v vs 8) := by show v_iv (w_fd _ _ _) = _; rw [s1.2, if_pos ⟨rfl, rfl⟩]
  have fe_0_170_2 : w_fi w1 (n_v vs 0) 170 = w_fi w2 (n_v vs 0) 170 := congrArg v_iv (s2.2 _ _)
  have kz_0_170 : 0 ≤ w_fi ws (n_v vs 0) 170 ∧ w_fi ws (n_v vs 0) 170 ≤ 100000000 := tv_rng (th_fd hD hth r0 (g := GG_150) rfl (k := 170) (t := (0, 0, 100000000, [])) rfl rfl)
  have nf0 : fc_1 (20, [0, 2], [30, 1, 1, 1, 170, -1, 0, 0]) ws (vs) := by
    refine ⟨fun n hn => ?_, ?_⟩
    · have hn : n ∈ [0, 2] := hn
      rw [hl]
      simp only [List.mem_cons, List.not_mem_nil, or_false] at hn
      show n < 9; omega
    · show 1 * w_fi ws (n_v vs 0) 170 + ((-1) * v_iv (n_v vs 2) + 0) ≤ 1
      omega
  refine ⟨(fun _ h => (by cases h)), [], trivial, ?_, (fun _ h => (by cases h))⟩
  rw [List.append_nil]
  exact List.forall_mem_cons.mpr ⟨⟨show (20 : Nat) < 100 from by decide, nf0⟩, (fun _ h => (by cases h))⟩
def n_Mo_write1_an : List an_T := []
def t_Mo_write1_ct : ct_L := []
set_option maxRecDepth 100000 in
theorem c_Mo_write1 {l : Launch} {D : va_G} {kA : Nat → ClassId} : ct_ok l D kA GG y_Mo_write1 z_Mo_write1 e_Mo_write1 := chk_all_ok (FT := [(366, 13, 172), (1277, 13, 170)]) (PT := [(1277, 13, 170, .int)]) (CT := t_Mo_write1_ct) (KT := []) (NT := []) (AN := n_Mo_write1_an) (OT := [o_Mo_write1_0, o_Mo_write1_1, o_Mo_write1_2]) 0 200 (List.forall_mem_cons.mpr ⟨oo_Mo_write1_0, List.forall_mem_cons.mpr ⟨oo_Mo_write1_1, List.forall_mem_cons.mpr ⟨oo_Mo_write1_2, List.forall_mem_nil _⟩⟩⟩) (by decide +kernel) ⟨List.forall_mem_cons.mpr ⟨gf_Mo_366, List.forall_mem_cons.mpr ⟨gf_Mo_1277, List.forall_mem_nil _⟩⟩, List.forall_mem_cons.mpr ⟨pf_Mo_1277, List.forall_mem_nil _⟩, List.forall_mem_nil _, List.forall_mem_nil _, List.forall_mem_nil _, GG_pl⟩ (by decide +kernel)
def o_Mo_wrong_0 : or_T := (18, 4, [(0, (2, 0, 0, [150])), (1, (0, 1, 5, [])), (3, (0, 0, 0, []))], [(101, [0, 2], [9]), (101, [0, 1], [8]), (8, [3], [5]), (9, [3, 0], [8])], [], [], [(20, [0], [30, -1, -1, 1, 8])], [], [])
theorem oo_Mo_wrong_0 {kA : Nat → ClassId} : or_ok kA GG o_Mo_wrong_0 := by
  intro A ta ws vs hD hth hl hk hds hf
  have hl : vs.length = 4 := hl
  have hk : ∀ q ∈ ([(0, (2, 0, 0, [150])), (1, (0, 1, 5, [])), (3, (0, 0, 0, []))] : List (Nat × tv_T)), tv_ok ta q.2 (n_v vs q.1) := hk
  obtain ⟨t0, hk⟩ := List.forall_mem_cons.mp hk
  have t0 : tv_ok ta (2, 0, 0, [150]) (n_v vs 0) := t0
  have r0 : ta (v_ad (n_v vs 0)) = some 150 := tv_rg t0
  obtain ⟨t1, hk⟩ := List.forall_mem_cons.mp hk
  have t1 : tv_ok ta (0, 1, 5, []) (n_v vs 1) := t1
  have k1 : 1 ≤ v_iv (n_v vs 1) ∧ v_iv (n_v vs 1) ≤ 5 := tv_rng t1
  obtain ⟨t3, hk⟩ := List.forall_mem_cons.mp hk
  have t3 : tv_ok ta (0, 0, 0, []) (n_v vs 3) := t3
  have k3 : 0 ≤ v_iv (n_v vs 3) ∧ v_iv (n_v vs 3) ≤ 0 := tv_rng t3
  have hf : fc_ok [(101, [0, 2], [9]), (101, [0, 1], [8]), (8, [3], [5]), (9, [3, 0], [8])] ta ws vs := hf
  obtain ⟨ta1, w1, le1, ⟨_, s1⟩, hf⟩ := fc_us (show ¬ (101 : Nat) < 100 from by decide) hf
  have s1 : (∀ b j, w_el ws b j = w_el w1 b j) ∧ ∀ b j, w_fd ws b j = if b = v_ad (n_v vs 0) ∧ j = 9 then n_v vs 2 else w_fd w1 b j := s1
  obtain ⟨ta2, w2, le2, ⟨_, s2⟩, hf⟩ := fc_us (show ¬ (101 : Nat) < 100 from by decide) hf
  have s2 : (∀ b j, w_el w1 b j = w_el w2 b j) ∧ ∀ b j, w_fd w1 b j = if b = v_ad (n_v vs 0) ∧ j = 8 then n_v vs 1 else w_fd w2 b j := s2
  obtain ⟨f2, hf⟩ := fc_un (show (8 : Nat) < 100 from by decide) hf
  have f2 : v_iv (n_v vs 3) ≤ 0 := f2
  obtain ⟨f3, hf⟩ := fc_un (show (9 : Nat) < 100 from by decide) hf
  have f3 : n_v vs 3 = w_fd w2 (v_ad (n_v vs 0)) 8 := f3
  have g3 : v_iv (n_v vs 3) = w_fi w2 (n_v vs 0) 8 := congrArg v_iv f3
  have fe_0_8_1 : w_fi ws (n_v vs 0) 8 = w_fi w1 (n_v vs 0) 8 := by show v_iv (w_fd _ _ _) = v_iv (w_fd _ _ _); rw [s1.2, if_neg (fun e => absurd e.2 (by decide))]
  have fe_0_8_2 : w_fi w1 (n_v vs 0) 8 = v_iv (n_v vs 1) := by show v_iv (w_fd _ _ _) = _; rw [s2.2, if_pos ⟨rfl, rfl⟩]
  have kz_0_8 : 0 ≤ w_fi ws (n_v vs 0) 8 ∧ w_fi ws (n_v vs 0) 8 ≤ 5 := tv_rng (th_fd hD hth r0 (g := GG_150) rfl (k := 8) (t := (0, 0, 5, [])) rfl rfl)
  have nf0 : fc_1 (20, [0], [30, -1, -1, 1, 8]) ws (vs) := by
    refine ⟨fun n hn => ?_, ?_⟩
    · have hn : n ∈ [0] := hn
      rw [hl]
      simp only [List.mem_cons, List.not_mem_nil, or_false] at hn
      show n < 4; omega
    · show (-1) * w_fi ws (n_v vs 0) 8 + 0 ≤ (-1)
      omega
  refine ⟨(fun _ h => (by cases h)), [], trivial, ?_, (fun _ h => (by cases h))⟩
  rw [List.append_nil]
  exact List.forall_mem_cons.mpr ⟨⟨show (20 : Nat) < 100 from by decide, nf0⟩, (fun _ h => (by cases h))⟩
def o_Mo_wrong_1 : or_T := (7, 4, [(0, (2, 0, 0, [150])), (3, (0, 1, 5, []))], [(8, [3], [4]), (9, [3, 0], [8])], [], [], [(20, [0], [30, -1, -1, 1, 8])], [], [])
theorem oo_Mo_wrong_1 {kA : Nat → ClassId} : or_ok kA GG o_Mo_wrong_1 := by
  intro A ta ws vs hD hth hl hk hds hf
  have hl : vs.length = 4 := hl
  have hk : ∀ q ∈ ([(0, (2, 0, 0, [150])), (3, (0, 1, 5, []))] : List (Nat × tv_T)), tv_ok ta q.2 (n_v vs q.1) := hk
  obtain ⟨t0, hk⟩ := List.forall_mem_cons.mp hk
  have t0 : tv_ok ta (2, 0, 0, [150]) (n_v vs 0) := t0
  have r0 : ta (v_ad (n_v vs 0)) = some 150 := tv_rg t0
  obtain ⟨t3, hk⟩ := List.forall_mem_cons.mp hk
  have t3 : tv_ok ta (0, 1, 5, []) (n_v vs 3) := t3
  have k3 : 1 ≤ v_iv (n_v vs 3) ∧ v_iv (n_v vs 3) ≤ 5 := tv_rng t3
  have hf : fc_ok [(8, [3], [4]), (9, [3, 0], [8])] ta ws vs := hf
  obtain ⟨f0, hf⟩ := fc_un (show (8 : Nat) < 100 from by decide) hf
  have f0 : 0 < v_iv (n_v vs 3) := f0
  obtain ⟨f1, hf⟩ := fc_un (show (9 : Nat) < 100 from by decide) hf
  have f1 : n_v vs 3 = w_fd ws (v_ad (n_v vs 0)) 8 := f1
  have g1 : v_iv (n_v vs 3) = w_fi ws (n_v vs 0) 8 := congrArg v_iv f1
  have kz_0_8 : 0 ≤ w_fi ws (n_v vs 0) 8 ∧ w_fi ws (n_v vs 0) 8 ≤ 5 := tv_rng (th_fd hD hth r0 (g := GG_150) rfl (k := 8) (t := (0, 0, 5, [])) rfl rfl)
  have nf0 : fc_1 (20, [0], [30, -1, -1, 1, 8]) ws (vs) := by
    refine ⟨fun n hn => ?_, ?_⟩
    · have hn : n ∈ [0] := hn
      rw [hl]
      simp only [List.mem_cons, List.not_mem_nil, or_false] at hn
      show n < 4; omega
    · show (-1) * w_fi ws (n_v vs 0) 8 + 0 ≤ (-1)
      omega
  refine ⟨(fun _ h => (by cases h)), [], trivial, ?_, (fun _ h => (by cases h))⟩
  rw [List.append_nil]
  exact List.forall_mem_cons.mpr ⟨⟨show (20 : Nat) < 100 from by decide, nf0⟩, (fun _ h => (by cases h))⟩
def n_Mo_wrong_an : List an_T := []
def t_Mo_wrong_ct : ct_L := []
set_option maxRecDepth 100000 in
theorem c_Mo_wrong {l : Launch} {D : va_G} {kA : Nat → ClassId} : ct_ok l D kA GG y_Mo_wrong z_Mo_wrong e_Mo_wrong := chk_all_ok (FT := [(413, 13, 8)]) (PT := [(413, 13, 8, .int), (416, 13, 9, .int)]) (CT := t_Mo_wrong_ct) (KT := []) (NT := []) (AN := n_Mo_wrong_an) (OT := [o_Mo_wrong_0, o_Mo_wrong_1]) 0 200 (List.forall_mem_cons.mpr ⟨oo_Mo_wrong_0, List.forall_mem_cons.mpr ⟨oo_Mo_wrong_1, List.forall_mem_nil _⟩⟩) (by decide +kernel) ⟨List.forall_mem_cons.mpr ⟨gf_Mo_413, List.forall_mem_nil _⟩, List.forall_mem_cons.mpr ⟨pf_Mo_413, List.forall_mem_cons.mpr ⟨pf_Mo_416, List.forall_mem_nil _⟩⟩, List.forall_mem_nil _, List.forall_mem_nil _, List.forall_mem_nil _, GG_pl⟩ (by decide +kernel)
def o_Ho_feed_0 : or_T := (23, 11, [(6, (2, 0, 0, [8])), (7, (0, 0, 1980, [])), (8, (0, 20, 20, [])), (9, (0, 20, 2000, [])), (10, (0, 2000, 2000, []))], [(7, [9, 10], [5]), (1, [9, 7, 8], []), (9, [7, 6], [1])], [], [(0, 0, 1996, [])], [(20, [6, 11], [30, 0, 1, 1, 1, -1, 0, 0]), (23, [11], [1980, 1])], [], [(9, 7, 20, 20)])
theorem oo_Ho_feed_0 {kA : Nat → ClassId} : or_ok kA GG o_Ho_feed_0 := by
  intro A ta ws vs hD hth hl hk hds hf
  have hl : vs.length = 11 := hl
  have hk : ∀ q ∈ ([(6, (2, 0, 0, [8])), (7, (0, 0, 1980, [])), (8, (0, 20, 20, [])), (9, (0, 20, 2000, [])), (10, (0, 2000, 2000, []))] : List (Nat × tv_T)), tv_ok ta q.2 (n_v vs q.1) := hk
  obtain ⟨t6, hk⟩ := List.forall_mem_cons.mp hk
  have t6 : tv_ok ta (2, 0, 0, [8]) (n_v vs 6) := t6
  have r6 : ta (v_ad (n_v vs 6)) = some 8 := tv_rg t6
  obtain ⟨t7, hk⟩ := List.forall_mem_cons.mp hk
  have t7 : tv_ok ta (0, 0, 1980, []) (n_v vs 7) := t7
  have k7 : 0 ≤ v_iv (n_v vs 7) ∧ v_iv (n_v vs 7) ≤ 1980 := tv_rng t7
  obtain ⟨t8, hk⟩ := List.forall_mem_cons.mp hk
  have t8 : tv_ok ta (0, 20, 20, []) (n_v vs 8) := t8
  have k8 : 20 ≤ v_iv (n_v vs 8) ∧ v_iv (n_v vs 8) ≤ 20 := tv_rng t8
  obtain ⟨t9, hk⟩ := List.forall_mem_cons.mp hk
  have t9 : tv_ok ta (0, 20, 2000, []) (n_v vs 9) := t9
  have k9 : 20 ≤ v_iv (n_v vs 9) ∧ v_iv (n_v vs 9) ≤ 2000 := tv_rng t9
  obtain ⟨t10, hk⟩ := List.forall_mem_cons.mp hk
  have t10 : tv_ok ta (0, 2000, 2000, []) (n_v vs 10) := t10
  have k10 : 2000 ≤ v_iv (n_v vs 10) ∧ v_iv (n_v vs 10) ≤ 2000 := tv_rng t10
  have hds : ∀ q ∈ ([(9, 7, 20, 20)] : List of_T), n_iv vs q.2.1 + q.2.2.1 ≤ n_iv vs q.1 ∧ n_iv vs q.1 ≤ n_iv vs q.2.1 + q.2.2.2 := hds
  obtain ⟨d0, hds⟩ := List.forall_mem_cons.mp hds
  have d0 : v_iv (n_v vs 7) + 20 ≤ v_iv (n_v vs 9) ∧ v_iv (n_v vs 9) ≤ v_iv (n_v vs 7) + 20 := d0
  have hf : fc_ok [(7, [9, 10], [5]), (1, [9, 7, 8], []), (9, [7, 6], [1])] ta ws vs := hf
  obtain ⟨f0, hf⟩ := fc_un (show (7 : Nat) < 100 from by decide) hf
  have f0 : v_iv (n_v vs 9) ≤ v_iv (n_v vs 10) := f0
  obtain ⟨f1, hf⟩ := fc_un (show (1 : Nat) < 100 from by decide) hf
  have f1 : v_iv (n_v vs 9) = v_iv (n_v vs 7) + v_iv (n_v vs 8) := f1
  obtain ⟨f2, hf⟩ := fc_un (show (9 : Nat) < 100 from by decide) hf
  have f2 : n_v vs 7 = w_fd ws (v_ad (n_v vs 6)) 1 := f2
  have g2 : v_iv (n_v vs 7) = w_fi ws (n_v vs 6) 1 := congrArg v_iv f2
  have kz_6_1 : 0 ≤ w_fi ws (n_v vs 6) 1 ∧ w_fi ws (n_v vs 6) 1 ≤ 2000 := tv_rng (th_fd hD hth r6 (g := GG_8) rfl (k := 1) (t := (0, 0, 2000, [])) rfl rfl)
  have kv0 : 0 ≤ w_fi ws (n_v vs 6) 1 ∧ w_fi ws (n_v vs 6) 1 ≤ 2000 := tv_rng (th_fd hD hth r6 (g := GG_8) rfl (k := 1) (t := (0, 0, 2000, [])) rfl rfl)
  obtain ⟨x, ex, hx⟩ := iv_ex (ta := ta) (lo := 0) (hi := 1996) (z := w_fi ws (n_v vs 6) 1) (by omega) (by omega) (by omega) (by omega)
  have ex2 : v_iv (Value.int x) = w_fi ws (n_v vs 6) 1 := ex
  have ex3 : 0 ≤ v_iv (Value.int x) ∧ v_iv (Value.int x) ≤ 1996 := tv_rng hx
  have e_6 : n_v (vs ++ [Value.int x]) 6 = n_v vs 6 := n_v_old (by rw [hl]; decide)
  have e_11 : n_v (vs ++ [Value.int x]) 11 = Value.int x := n_v_new hl
  have nf0 : fc_1 (20, [6, 11], [30, 0, 1, 1, 1, -1, 0, 0]) ws (vs ++ [Value.int x]) := by
    refine ⟨fun n hn => ?_, ?_⟩
    · have hn : n ∈ [6, 11] := hn
      rw [List.length_append, hl]
      simp only [List.mem_cons, List.not_mem_nil, or_false] at hn
      show n < 11 + 1; omega
    · show 1 * w_fi ws (n_v (vs ++ [Value.int x]) 6) 1 + ((-1) * v_iv (n_v (vs ++ [Value.int x]) 11) + 0) ≤ 0
      rw [e_6]
      rw [e_11]
      omega
  have nf1 : fc_1 (23, [11], [1980, 1]) ws (vs ++ [Value.int x]) := by
    refine ⟨fun n hn => ?_, ?_⟩
    · have hn : n ∈ [11] := hn
      rw [List.length_append, hl]
      simp only [List.mem_cons, List.not_mem_nil, or_false] at hn
      show n < 11 + 1; omega
    · show 1 * v_iv (n_v (vs ++ [Value.int x]) 11) + 0 ≤ 1980
      rw [e_11]
      omega
  exact ⟨(fun _ h => (by cases h)), [Value.int x], ag_one hx, List.forall_mem_cons.mpr ⟨⟨show (20 : Nat) < 100 from by decide, nf0⟩, List.forall_mem_cons.mpr ⟨⟨show (23 : Nat) < 100 from by decide, nf1⟩, (fun _ h => (by cases h))⟩⟩, (fun _ h => (by cases h))⟩
def o_Ho_feed_1 : or_T := (31, 12, [(6, (2, 0, 0, [8])), (11, (0, 0, 1996, []))], [(23, [11], [1980, 1]), (20, [6, 11], [30, 4, 1, 1, 1, -1, 0, 0]), (102, [11], [649037107316853453566312041152512, 8001]), (23, [11], [1980, 1])], [], [(0, 0, 1996, [])], [(20, [6, 12], [30, 0, 1, 1, 1, -1, 0, 0]), (23, [12], [1984, 1])], [], [])
theorem oo_Ho_feed_1 {kA : Nat → ClassId} : or_ok kA GG o_Ho_feed_1 := by
  intro A ta ws vs hD hth hl hk hds hf
  have hl : vs.length = 12 := hl
  have hk : ∀ q ∈ ([(6, (2, 0, 0, [8])), (11, (0, 0, 1996, []))] : List (Nat × tv_T)), tv_ok ta q.2 (n_v vs q.1) := hk
  obtain ⟨t6, hk⟩ := List.forall_mem_cons.mp hk
  have t6 : tv_ok ta (2, 0, 0, [8]) (n_v vs 6) := t6
  have r6 : ta (v_ad (n_v vs 6)) = some 8 := tv_rg t6
  obtain ⟨t11, hk⟩ := List.forall_mem_cons.mp hk
  have t11 : tv_ok ta (0, 0, 1996, []) (n_v vs 11) := t11
  have k11 : 0 ≤ v_iv (n_v vs 11) ∧ v_iv (n_v vs 11) ≤ 1996 := tv_rng t11
  have hf : fc_ok [(23, [11], [1980, 1]), (20, [6, 11], [30, 4, 1, 1, 1, -1, 0, 0]), (102, [11], [649037107316853453566312041152512, 8001]), (23, [11], [1980, 1])] ta ws vs := hf
  obtain ⟨f0, hf⟩ := fc_un (show (23 : Nat) < 100 from by decide) hf
  have f0 : 1 * v_iv (n_v vs 11) + 0 ≤ 1980 := f0
  obtain ⟨f1, hf⟩ := fc_un (show (20 : Nat) < 100 from by decide) hf
  have f1 : 1 * w_fi ws (n_v vs 6) 1 + ((-1) * v_iv (n_v vs 11) + 0) ≤ 4 := f1
  obtain ⟨ta1, w1, le1, ⟨_, s1⟩, hf⟩ := fc_us (show ¬ (102 : Nat) < 100 from by decide) hf
  obtain ⟨f3, hf⟩ := fc_un (show (23 : Nat) < 100 from by decide) hf
  have f3 : 1 * v_iv (n_v vs 11) + 0 ≤ 1980 := f3
  have kz_6_1 : 0 ≤ w_fi ws (n_v vs 6) 1 ∧ w_fi ws (n_v vs 6) 1 ≤ 2000 := tv_rng (th_fd hD hth r6 (g := GG_8) rfl (k := 1) (t := (0, 0, 2000, [])) rfl rfl)
  have kv0 : 0 ≤ w_fi ws (n_v vs 6) 1 ∧ w_fi ws (n_v vs 6) 1 ≤ 2000 := tv_rng (th_fd hD hth r6 (g := GG_8) rfl (k := 1) (t := (0, 0, 2000, [])) rfl rfl)
  obtain ⟨x, ex, hx⟩ := iv_ex (ta := ta) (lo := 0) (hi := 1996) (z := w_fi ws (n_v vs 6) 1) (by omega) (by omega) (by omega) (by omega)
  have ex2 : v_iv (Value.int x) = w_fi ws (n_v vs 6) 1 := ex
  have ex3 : 0 ≤ v_iv (Value.int x) ∧ v_iv (Value.int x) ≤ 1996 := tv_rng hx
  have e_6 : n_v (vs ++ [Value.int x]) 6 = n_v vs 6 := n_v_old (by rw [hl]; decide)
  have e_12 : n_v (vs ++ [Value.int x]) 12 = Value.int x := n_v_new hl
  have nf0 : fc_1 (20, [6, 12], [30, 0, 1, 1, 1, -1, 0, 0]) ws (vs ++ [Value.int x]) := by
    refine ⟨fun n hn => ?_, ?_⟩
    · have hn : n ∈ [6, 12] := hn
      rw [List.length_append, hl]
      simp only [List.mem_cons, List.not_mem_nil, or_false] at hn
      show n < 12 + 1; omega
    · show 1 * w_fi ws (n_v (vs ++ [Value.int x]) 6) 1 + ((-1) * v_iv (n_v (vs ++ [Value.int x]) 12) + 0) ≤ 0
      rw [e_6]
      rw [e_12]
      omega
  have nf1 : fc_1 (23, [12], [1984, 1]) ws (vs ++ [Value.int x]) := by
    refine ⟨fun n hn => ?_, ?_⟩
    · have hn : n ∈ [12] := hn
      rw [List.length_append, hl]
      simp only [List.mem_cons, List.not_mem_nil, or_false] at hn
      show n < 12 + 1; omega
    · show 1 * v_iv (n_v (vs ++ [Value.int x]) 12) + 0 ≤ 1984
      rw [e_12]
      omega
  exact ⟨(fun _ h => (by cases h)), [Value.int x], ag_one hx, List.forall_mem_cons.mpr ⟨⟨show (20 : Nat) < 100 from by decide, nf0⟩, List.forall_mem_cons.mpr ⟨⟨show (23 : Nat) < 100 from by decide, nf1⟩, (fun _ h => (by cases h))⟩⟩, (fun _ h => (by cases h))⟩
def o_Ho_feed_2 : or_T := (39, 13, [(6, (2, 0, 0, [8])), (12, (0, 0, 1996, []))], [(23, [12], [1984, 1]), (20, [6, 12], [30, 4, 1, 1, 1, -1, 0, 0]), (102, [12], [649037107316853453566312041152512, 8001]), (23, [12], [1984, 1])], [], [(0, 0, 1996, [])], [(20, [6, 13], [30, 0, 1, 1, 1, -1, 0, 0]), (23, [13], [1988, 1])], [], [])
theorem oo_Ho_feed_2 {kA : Nat → ClassId} : or_ok kA GG o_Ho_feed_2 := by
  intro A ta ws vs hD hth hl hk hds hf
  have hl : vs.length = 13 := hl
  have hk : ∀ q ∈ ([(6, (2, 0, 0, [8])), (12, (0, 0, 1996, []))] : List (Nat × tv_T)), tv_ok ta q.2 (n_v vs q.1) := hk
  obtain ⟨t6, hk⟩ := List.forall_mem_cons.mp hk
  have t6 : tv_ok ta (2, 0, 0, [8]) (n_v vs 6) := t6
  have r6 : ta (v_ad (n_v vs 6)) = some 8 := tv_rg t6
  obtain ⟨t12, hk⟩ := List.forall_mem_cons.mp hk
  have t12 : tv_ok ta (0, 0, 1996, []) (n_v vs 12) := t12
  have k12 : 0 ≤ v_iv (n_v vs 12) ∧ v_iv (n_v vs 12) ≤ 1996 := tv_rng t12
  have hf : fc_ok [(23, [12], [1984, 1]), (20, [6, 12], [30, 4, 1, 1, 1, -1, 0, 0]), (102, [12], [649037107316853453566312041152512, 8001]), (23, [12], [1984, 1])] ta ws vs := hf
  obtain ⟨f0, hf⟩ := fc_un (show (23 : Nat) < 100 from by decide) hf
  have f0 : 1 * v_iv (n_v vs 12) + 0 ≤ 1984 := f0
  obtain ⟨f1, hf⟩ := fc_un (show (20 : Nat) < 100 from by decide) hf
  have f1 : 1 * w_fi ws (n_v vs 6) 1 + ((-1) * v_iv (n_v vs 12) + 0) ≤ 4 := f1
  obtain ⟨ta1, w1, le1, ⟨_, s1⟩, hf⟩ := fc_us (show ¬ (102 : Nat) < 100 from by decide) hf
  obtain ⟨f3, hf⟩ := fc_un (show (23 : Nat) < 100 from by decide) hf
  have f3 : 1 * v_iv (n_v vs 12) + 0 ≤ 1984 := f3
  have kz_6_1 : 0 ≤ w_fi ws (n_v vs 6) 1 ∧ w_fi ws (n_v vs 6) 1 ≤ 2000 := tv_rng (th_fd hD hth r6 (g := GG_8) rfl (k := 1) (t := (0, 0, 2000, [])) rfl rfl)
  have kv0 : 0 ≤ w_fi ws (n_v vs 6) 1 ∧ w_fi ws (n_v vs 6) 1 ≤ 2000 := tv_rng (th_fd hD hth r6 (g := GG_8) rfl (k := 1) (t := (0, 0, 2000, [])) rfl rfl)
  obtain ⟨x, ex, hx⟩ := iv_ex (ta := ta) (lo := 0) (hi := 1996) (z := w_fi ws (n_v vs 6) 1) (by omega) (by omega) (by omega) (by omega)
  have ex2 : v_iv (Value.int x) = w_fi ws (n_v vs 6) 1 := ex
  have ex3 : 0 ≤ v_iv (Value.int x) ∧ v_iv (Value.int x) ≤ 1996 := tv_rng hx
  have e_6 : n_v (vs ++ [Value.int x]) 6 = n_v vs 6 := n_v_old (by rw [hl]; decide)
  have e_13 : n_v (vs ++ [Value.int x]) 13 = Value.int x := n_v_new hl
  have nf0 : fc_1 (20, [6, 13], [30, 0, 1, 1, 1, -1, 0, 0]) ws (vs ++ [Value.int x]) := by
    refine ⟨fun n hn => ?_, ?_⟩
    · have hn : n ∈ [6, 13] := hn
      rw [List.length_append, hl]
      simp only [List.mem_cons, List.not_mem_nil, or_false] at hn
      show n < 13 + 1; omega
    · show 1 * w_fi ws (n_v (vs ++ [Value.int x]) 6) 1 + ((-1) * v_iv (n_v (vs ++ [Value.int x]) 13) + 0) ≤ 0
      rw [e_6]
      rw [e_13]
      omega
  have nf1 : fc_1 (23, [13], [1988, 1]) ws (vs ++ [Value.int x]) := by
    refine ⟨fun n hn => ?_, ?_⟩
    · have hn : n ∈ [13] := hn
      rw [List.length_append, hl]
      simp only [List.mem_cons, List.not_mem_nil, or_false] at hn
      show n < 13 + 1; omega
    · show 1 * v_iv (n_v (vs ++ [Value.int x]) 13) + 0 ≤ 1988
      rw [e_13]
      omega
  exact ⟨(fun _ h => (by cases h)), [Value.int x], ag_one hx, List.forall_mem_cons.mpr ⟨⟨show (20 : Nat) < 100 from by decide, nf0⟩, List.forall_mem_cons.mpr ⟨⟨show (23 : Nat) < 100 from by decide, nf1⟩, (fun _ h => (by cases h))⟩⟩, (fun _ h => (by cases h))⟩
def o_Ho_feed_3 : or_T := (48, 14, [(6, (2, 0, 0, [8])), (13, (0, 0, 1996, []))], [(23, [13], [1988, 1]), (20, [6, 13], [30, 4, 1, 1, 1, -1, 0, 0]), (102, [13], [649037107316853453566312041152512, 8001]), (23, [13], [1988, 1])], [], [(0, 0, 1996, [])], [(20, [6, 14], [30, 0, 1, 1, 1, -1, 0, 0]), (23, [14], [1992, 1])], [], [])
theorem oo_Ho_feed_3 {kA : Nat → ClassId} : or_ok kA GG o_Ho_feed_3 := by
  intro A ta ws vs hD hth hl hk hds hf
  have hl : vs.length = 14 := hl
  have hk : ∀ q ∈ ([(6, (2, 0, 0, [8])), (13, (0, 0, 1996, []))] : List (Nat × tv_T)), tv_ok ta q.2 (n_v vs q.1) := hk
  obtain ⟨t6, hk⟩ := List.forall_mem_cons.mp hk
  have t6 : tv_ok ta (2, 0, 0, [8]) (n_v vs 6) := t6
  have r6 : ta (v_ad (n_v vs 6)) = some 8 := tv_rg t6
  obtain ⟨t13, hk⟩ := List.forall_mem_cons.mp hk
  have t13 : tv_ok ta (0, 0, 1996, []) (n_v vs 13) := t13
  have k13 : 0 ≤ v_iv (n_v vs 13) ∧ v_iv (n_v vs 13) ≤ 1996 := tv_rng t13
  have hf : fc_ok [(23, [13], [1988, 1]), (20, [6, 13], [30, 4, 1, 1, 1, -1, 0, 0]), (102, [13], [649037107316853453566312041152512, 8001]), (23, [13], [1988, 1])] ta ws vs := hf
  obtain ⟨f0, hf⟩ := fc_un (show (23 : Nat) < 100 from by decide) hf
  have f0 : 1 * v_iv (n_v vs 13) + 0 ≤ 1988 := f0
  obtain ⟨f1, hf⟩ := fc_un (show (20 : Nat) < 100 from by decide) hf
  have f1 : 1 * w_fi ws (n_v vs 6) 1 + ((-1) * v_iv (n_v vs 13) + 0) ≤ 4 := f1
  obtain ⟨ta1, w1, le1, ⟨_, s1⟩, hf⟩ := fc_us (show ¬ (102 : Nat) < 100 from by decide) hf
  obtain ⟨f3, hf⟩ := fc_un (show (23 : Nat) < 100 from by decide) hf
  have f3 : 1 * v_iv (n_v vs 13) + 0 ≤ 1988 := f3
  have kz_6_1 : 0 ≤ w_fi ws (n_v vs 6) 1 ∧ w_fi ws (n_v vs 6) 1 ≤ 2000 := tv_rng (th_fd hD hth r6 (g := GG_8) rfl (k := 1) (t := (0, 0, 2000, [])) rfl rfl)
  have kv0 : 0 ≤ w_fi ws (n_v vs 6) 1 ∧ w_fi ws (n_v vs 6) 1 ≤ 2000 := tv_rng (th_fd hD hth r6 (g := GG_8) rfl (k := 1) (t := (0, 0, 2000, [])) rfl rfl)
  obtain ⟨x, ex, hx⟩ := iv_ex (ta := ta) (lo := 0) (hi := 1996) (z := w_fi ws (n_v vs 6) 1) (by omega) (by omega) (by omega) (by omega)
  have ex2 : v_iv (Value.int x) = w_fi ws (n_v vs 6) 1 := ex
  have ex3 : 0 ≤ v_iv (Value.int x) ∧ v_iv (Value.int x) ≤ 1996 := tv_rng hx
  have e_6 : n_v (vs ++ [Value.int x]) 6 = n_v vs 6 := n_v_old (by rw [hl]; decide)
  have e_14 : n_v (vs ++ [Value.int x]) 14 = Value.int x := n_v_new hl
  have nf0 : fc_1 (20, [6, 14], [30, 0, 1, 1, 1, -1, 0, 0]) ws (vs ++ [Value.int x]) := by
    refine ⟨fun n hn => ?_, ?_⟩
    · have hn : n ∈ [6, 14] := hn
      rw [List.length_append, hl]
      simp only [List.mem_cons, List.not_mem_nil, or_false] at hn
      show n < 14 + 1; omega
    · show 1 * w_fi ws (n_v (vs ++ [Value.int x]) 6) 1 + ((-1) * v_iv (n_v (vs ++ [Value.int x]) 14) + 0) ≤ 0
      rw [e_6]
      rw [e_14]
      omega
  have nf1 : fc_1 (23, [14], [1992, 1]) ws (vs ++ [Value.int x]) := by
    refine ⟨fun n hn => ?_, ?_⟩
    · have hn : n ∈ [14] := hn
      rw [List.length_append, hl]
      simp only [List.mem_cons, List.not_mem_nil, or_false] at hn
      show n < 14 + 1; omega
    · show 1 * v_iv (n_v (vs ++ [Value.int x]) 14) + 0 ≤ 1992
      rw [e_14]
      omega
  exact ⟨(fun _ h => (by cases h)), [Value.int x], ag_one hx, List.forall_mem_cons.mpr ⟨⟨show (20 : Nat) < 100 from by decide, nf0⟩, List.forall_mem_cons.mpr ⟨⟨show (23 : Nat) < 100 from by decide, nf1⟩, (fun _ h => (by cases h))⟩⟩, (fun _ h => (by cases h))⟩
def o_Ho_feed_4 : or_T := (57, 15, [(6, (2, 0, 0, [8])), (14, (0, 0, 1996, []))], [(23, [14], [1992, 1]), (20, [6, 14], [30, 4, 1, 1, 1, -1, 0, 0]), (102, [14], [649037107316853453566312041152512, 8001]), (23, [14], [1992, 1])], [], [(0, 0, 1996, [])], [(20, [6, 15], [30, 0, 1, 1, 1, -1, 0, 0]), (23, [15], [1996, 1])], [], [])
theorem oo_Ho_feed_4 {kA : Nat → ClassId} : or_ok kA GG o_Ho_feed_4 := by
  intro A ta ws vs hD hth hl hk hds hf
  have hl : vs.length = 15 := hl
  have hk : ∀ q ∈ ([(6, (2, 0, 0, [8])), (14, (0, 0, 1996, []))] : List (Nat × tv_T)), tv_ok ta q.2 (n_v vs q.1) := hk
  obtain ⟨t6, hk⟩ := List.forall_mem_cons.mp hk
  have t6 : tv_ok ta (2, 0, 0, [8]) (n_v vs 6) := t6
  have r6 : ta (v_ad (n_v vs 6)) = some 8 := tv_rg t6
  obtain ⟨t14, hk⟩ := List.forall_mem_cons.mp hk
  have t14 : tv_ok ta (0, 0, 1996, []) (n_v vs 14) := t14
  have k14 : 0 ≤ v_iv (n_v vs 14) ∧ v_iv (n_v vs 14) ≤ 1996 := tv_rng t14
  have hf : fc_ok [(23, [14], [1992, 1]), (20, [6, 14], [30, 4, 1, 1, 1, -1, 0, 0]), (102, [14], [649037107316853453566312041152512, 8001]), (23, [14], [1992, 1])] ta ws vs := hf
  obtain ⟨f0, hf⟩ := fc_un (show (23 : Nat) < 100 from by decide) hf
  have f0 : 1 * v_iv (n_v vs 14) + 0 ≤ 1992 := f0
  obtain ⟨f1, hf⟩ := fc_un (show (20 : Nat) < 100 from by decide) hf
  have f1 : 1 * w_fi ws (n_v vs 6) 1 + ((-1) * v_iv (n_v vs 14) + 0) ≤ 4 := f1
  obtain ⟨ta1, w1, le1, ⟨_, s1⟩, hf⟩ := fc_us (show ¬ (102 : Nat) < 100 from by decide) hf
  obtain ⟨f3, hf⟩ := fc_un (show (23 : Nat) < 100 from by decide) hf
  have f3 : 1 * v_iv (n_v vs 14) + 0 ≤ 1992 := f3
  have kz_6_1 : 0 ≤ w_fi ws (n_v vs 6) 1 ∧ w_fi ws (n_v vs 6) 1 ≤ 2000 := tv_rng (th_fd hD hth r6 (g := GG_8) rfl (k := 1) (t := (0, 0, 2000, [])) rfl rfl)
  have kv0 : 0 ≤ w_fi ws (n_v vs 6) 1 ∧ w_fi ws (n_v vs 6) 1 ≤ 2000 := tv_rng (th_fd hD hth r6 (g := GG_8) rfl (k := 1) (t := (0, 0, 2000, [])) rfl rfl)
  obtain ⟨x, ex, hx⟩ := iv_ex (ta := ta) (lo := 0) (hi := 1996) (z := w_fi ws (n_v vs 6) 1) (by omega) (by omega) (by omega) (by omega)
  have ex2 : v_iv (Value.int x) = w_fi ws (n_v vs 6) 1 := ex
  have ex3 : 0 ≤ v_iv (Value.int x) ∧ v_iv (Value.int x) ≤ 1996 := tv_rng hx
  have e_6 : n_v (vs ++ [Value.int x]) 6 = n_v vs 6 := n_v_old (by rw [hl]; decide)
  have e_15 : n_v (vs ++ [Value.int x]) 15 = Value.int x := n_v_new hl
  have nf0 : fc_1 (20, [6, 15], [30, 0, 1, 1, 1, -1, 0, 0]) ws (vs ++ [Value.int x]) := by
    refine ⟨fun n hn => ?_, ?_⟩
    · have hn : n ∈ [6, 15] := hn
      rw [List.length_append, hl]
      simp only [List.mem_cons, List.not_mem_nil, or_false] at hn
      show n < 15 + 1; omega
    · show 1 * w_fi ws (n_v (vs ++ [Value.int x]) 6) 1 + ((-1) * v_iv (n_v (vs ++ [Value.int x]) 15) + 0) ≤ 0
      rw [e_6]
      rw [e_15]
      omega
  have nf1 : fc_1 (23, [15], [1996, 1]) ws (vs ++ [Value.int x]) := by
    refine ⟨fun n hn => ?_, ?_⟩
    · have hn : n ∈ [15] := hn
      rw [List.length_append, hl]
      simp only [List.mem_cons, List.not_mem_nil, or_false] at hn
      show n < 15 + 1; omega
    · show 1 * v_iv (n_v (vs ++ [Value.int x]) 15) + 0 ≤ 1996
      rw [e_15]
      omega
  exact ⟨(fun _ h => (by cases h)), [Value.int x], ag_one hx, List.forall_mem_cons.mpr ⟨⟨show (20 : Nat) < 100 from by decide, nf0⟩, List.forall_mem_cons.mpr ⟨⟨show (23 : Nat) < 100 from by decide, nf1⟩, (fun _ h => (by cases h))⟩⟩, (fun _ h => (by cases h))⟩
def n_Ho_feed_an : List an_T := []
def t_Ho_feed_ct : ct_L := [(1, 111, e_Re_append)]
set_option maxRecDepth 100000 in
theorem c_Ho_feed {l : Launch} {D : va_G} {kA : Nat → ClassId} (h_Re_append : ct_ok l D kA GG y_Re_append z_Re_append e_Re_append) : ct_ok l D kA GG y_Ho_feed z_Ho_feed e_Ho_feed := chk_all_ok (FT := [(38, 12, 4), (108, 8, 1)]) (PT := []) (CT := t_Ho_feed_ct) (KT := []) (NT := []) (AN := n_Ho_feed_an) (OT := [o_Ho_feed_0, o_Ho_feed_1, o_Ho_feed_2, o_Ho_feed_3, o_Ho_feed_4]) 0 200 (List.forall_mem_cons.mpr ⟨oo_Ho_feed_0, List.forall_mem_cons.mpr ⟨oo_Ho_feed_1, List.forall_mem_cons.mpr ⟨oo_Ho_feed_2, List.forall_mem_cons.mpr ⟨oo_Ho_feed_3, List.forall_mem_cons.mpr ⟨oo_Ho_feed_4, List.forall_mem_nil _⟩⟩⟩⟩⟩) (by decide +kernel) ⟨List.forall_mem_cons.mpr ⟨gf_Ho_38, List.forall_mem_cons.mpr ⟨gf_Ho_108, List.forall_mem_nil _⟩⟩, List.forall_mem_nil _, List.forall_mem_cons.mpr ⟨cl_virtual (y := y_Re_append) (ci := 8) rfl rfl ⟨_, _, rfl⟩ (by decide +kernel) h_Re_append wm_626 wm_2 wm_623 wm_624 wm_625 ⟨by decide, by decide, by decide +kernel⟩ (by decide), List.forall_mem_nil _⟩, List.forall_mem_nil _, List.forall_mem_nil _, GG_pl⟩ (by decide +kernel)
def n_Ho_hasDrawing_an : List an_T := []
def t_Ho_hasDrawing_ct : ct_L := [(0, 115, e_Ho_isPlace)]
set_option maxRecDepth 100000 in
theorem c_Ho_hasDrawing {l : Launch} {D : va_G} {kA : Nat → ClassId} (h_Ho_isPlace : ct_ok l D kA GG y_Ho_isPlace z_Ho_isPlace e_Ho_isPlace) : ct_ok l D kA GG y_Ho_hasDrawing z_Ho_hasDrawing e_Ho_hasDrawing := chk_all_ok (FT := [(31, 12, 3), (309, 0, 1)]) (PT := []) (CT := t_Ho_hasDrawing_ct) (KT := []) (NT := []) (AN := n_Ho_hasDrawing_an) (OT := []) 0 200 (List.forall_mem_nil _) (by decide +kernel) ⟨List.forall_mem_cons.mpr ⟨gf_Ho_31, List.forall_mem_cons.mpr ⟨gf_Ho_309, List.forall_mem_nil _⟩⟩, List.forall_mem_nil _, List.forall_mem_cons.mpr ⟨cl_static (y := y_Ho_isPlace) h_Ho_isPlace wm_633 wm_1 wm_631 wm_632 ⟨by decide, by decide, by decide +kernel⟩ (by decide), List.forall_mem_nil _⟩, List.forall_mem_nil _, List.forall_mem_nil _, GG_pl⟩ (by decide +kernel)
def o_Ho_writeName_at_GrgroupName_0 : or_T := (3, 6, [(0, (2, 0, 0, [12])), (4, (0, 0, 99999992, [])), (5, (0, 0, 0, []))], [(20, [0, 4], [30, 0, 1, 1, 12, -1, 0, 0])], [], [], [(20, [0, 4, 5], [30, 0, 1, 1, 12, -1, 0, 0, -1, 0, 0]), (24, [0, 0], [])], [], [])
theorem oo_Ho_writeName_at_GrgroupName_0 {kA : Nat → ClassId} : or_ok kA GG o_Ho_writeName_at_GrgroupName_0 := by
  intro A ta ws vs hD hth hl hk hds hf
  have hl : vs.length = 6 := hl
  have hk : ∀ q ∈ ([(0, (2, 0, 0, [12])), (4, (0, 0, 99999992, [])), (5, (0, 0, 0, []))] : List (Nat × tv_T)), tv_ok ta q.2 (n_v vs q.1) := hk
  obtain ⟨t0, hk⟩ := List.forall_mem_cons.mp hk
  have t0 : tv_ok ta (2, 0, 0, [12]) (n_v vs 0) := t0
  have r0 : ta (v_ad (n_v vs 0)) = some 12 := tv_rg t0
  obtain ⟨t4, hk⟩ := List.forall_mem_cons.mp hk
  have t4 : tv_ok ta (0, 0, 99999992, []) (n_v vs 4) := t4
  have k4 : 0 ≤ v_iv (n_v vs 4) ∧ v_iv (n_v vs 4) ≤ 99999992 := tv_rng t4
  obtain ⟨t5, hk⟩ := List.forall_mem_cons.mp hk
  have t5 : tv_ok ta (0, 0, 0, []) (n_v vs 5) := t5
  have k5 : 0 ≤ v_iv (n_v vs 5) ∧ v_iv (n_v vs 5) ≤ 0 := tv_rng t5
  have hf : fc_ok [(20, [0, 4], [30, 0, 1, 1, 12, -1, 0, 0])] ta ws vs := hf
  obtain ⟨f0, hf⟩ := fc_un (show (20 : Nat) < 100 from by decide) hf
  have f0 : 1 * w_fi ws (n_v vs 0) 12 + ((-1) * v_iv (n_v vs 4) + 0) ≤ 0 := f0
  have kz_0_12 : 0 ≤ w_fi ws (n_v vs 0) 12 ∧ w_fi ws (n_v vs 0) 12 ≤ 100000000 := tv_rng (th_fd hD hth r0 (g := GG_12) rfl (k := 12) (t := (0, 0, 100000000, [])) rfl rfl)
  have nf0 : fc_1 (20, [0, 4, 5], [30, 0, 1, 1, 12, -1, 0, 0, -1, 0, 0]) ws (vs) := by
    refine ⟨fun n hn => ?_, ?_⟩
    · have hn : n ∈ [0, 4, 5] := hn
      rw [hl]
      simp only [List.mem_cons, List.not_mem_nil, or_false] at hn
      show n < 6; omega
    · show 1 * w_fi ws (n_v vs 0) 12 + ((-1) * v_iv (n_v vs 4) + ((-1) * v_iv (n_v vs 5) + 0)) ≤ 0
      omega
  have nf1 : fc_1 (24, [0, 0], []) ws (vs) := by
    refine ⟨fun n hn => ?_, ?_⟩
    · have hn : n ∈ [0, 0] := hn
      rw [hl]
      simp only [List.mem_cons, List.not_mem_nil, or_false] at hn
      show n < 6; omega
    · show n_v vs 0 = n_v vs 0
      first | rfl | simp only [true_and]
  refine ⟨(fun _ h => (by cases h)), [], trivial, ?_, (fun _ h => (by cases h))⟩
  rw [List.append_nil]
  exact List.forall_mem_cons.mpr ⟨⟨show (20 : Nat) < 100 from by decide, nf0⟩, List.forall_mem_cons.mpr ⟨⟨show (24 : Nat) < 100 from by decide, nf1⟩, (fun _ h => (by cases h))⟩⟩
def o_Ho_writeName_at_GrgroupName_1 : or_T := (28, 10, [(0, (2, 0, 0, [12])), (4, (0, 0, 99999992, [])), (5, (2, 0, 0, [12])), (8, (0, 0, 8, [])), (9, (0, 0, 8, []))], [(7, [9, 8], [3]), (20, [5, 4, 9], [30, 0, 1, 1, 12, -1, 0, 0, -1, 0, 0]), (24, [0, 5], [])], [], [], [(20, [0, 4], [30, 8, 1, 1, 12, -1, 0, 0])], [], [(9, 8, 0, 4294967296), (8, 4, -4294967296, 8), (8, 9, -4294967296, 8), (9, 8, -4294967296, 0)])
theorem oo_Ho_writeName_at_GrgroupName_1 {kA : Nat → ClassId} : or_ok kA GG o_Ho_writeName_at_GrgroupName_1 := by
  intro A ta ws vs hD hth hl hk hds hf
  have hl : vs.length = 10 := hl
  have hk : ∀ q ∈ ([(0, (2, 0, 0, [12])), (4, (0, 0, 99999992, [])), (5, (2, 0, 0, [12])), (8, (0, 0, 8, [])), (9, (0, 0, 8, []))] : List (Nat × tv_T)), tv_ok ta q.2 (n_v vs q.1) := hk
  obtain ⟨t0, hk⟩ := List.forall_mem_cons.mp hk
  have t0 : tv_ok ta (2, 0, 0, [12]) (n_v vs 0) := t0
  have r0 : ta (v_ad (n_v vs 0)) = some 12 := tv_rg t0
  obtain ⟨t4, hk⟩ := List.forall_mem_cons.mp hk
  have t4 : tv_ok ta (0, 0, 99999992, []) (n_v vs 4) := t4
  have k4 : 0 ≤ v_iv (n_v vs 4) ∧ v_iv (n_v vs 4) ≤ 99999992 := tv_rng t4
  obtain ⟨t5, hk⟩ := List.forall_mem_cons.mp hk
  have t5 : tv_ok ta (2, 0, 0, [12]) (n_v vs 5) := t5
  have r5 : ta (v_ad (n_v vs 5)) = some 12 := tv_rg t5
  obtain ⟨t8, hk⟩ := List.forall_mem_cons.mp hk
  have t8 : tv_ok ta (0, 0, 8, []) (n_v vs 8) := t8
  have k8 : 0 ≤ v_iv (n_v vs 8) ∧ v_iv (n_v vs 8) ≤ 8 := tv_rng t8
  obtain ⟨t9, hk⟩ := List.forall_mem_cons.mp hk
  have t9 : tv_ok ta (0, 0, 8, []) (n_v vs 9) := t9
  have k9 : 0 ≤ v_iv (n_v vs 9) ∧ v_iv (n_v vs 9) ≤ 8 := tv_rng t9
  have hds : ∀ q ∈ ([(9, 8, 0, 4294967296), (8, 4, -4294967296, 8), (8, 9, -4294967296, 8), (9, 8, -4294967296, 0)] : List of_T), n_iv vs q.2.1 + q.2.2.1 ≤ n_iv vs q.1 ∧ n_iv vs q.1 ≤ n_iv vs q.2.1 + q.2.2.2 := hds
  obtain ⟨d0, hds⟩ := List.forall_mem_cons.mp hds
  have d0 : v_iv (n_v vs 8) + 0 ≤ v_iv (n_v vs 9) ∧ v_iv (n_v vs 9) ≤ v_iv (n_v vs 8) + 4294967296 := d0
  obtain ⟨d1, hds⟩ := List.forall_mem_cons.mp hds
  have d1 : v_iv (n_v vs 4) + (-4294967296) ≤ v_iv (n_v vs 8) ∧ v_iv (n_v vs 8) ≤ v_iv (n_v vs 4) + 8 := d1
  obtain ⟨d2, hds⟩ := List.forall_mem_cons.mp hds
  have d2 : v_iv (n_v vs 9) + (-4294967296) ≤ v_iv (n_v vs 8) ∧ v_iv (n_v vs 8) ≤ v_iv (n_v vs 9) + 8 := d2
  obtain ⟨d3, hds⟩ := List.forall_mem_cons.mp hds
  have d3 : v_iv (n_v vs 8) + (-4294967296) ≤ v_iv (n_v vs 9) ∧ v_iv (n_v vs 9) ≤ v_iv (n_v vs 8) + 0 := d3
  have hf : fc_ok [(7, [9, 8], [3]), (20, [5, 4, 9], [30, 0, 1, 1, 12, -1, 0, 0, -1, 0, 0]), (24, [0, 5], [])] ta ws vs := hf
  obtain ⟨f0, hf⟩ := fc_un (show (7 : Nat) < 100 from by decide) hf
  have f0 : v_iv (n_v vs 8) ≤ v_iv (n_v vs 9) := f0
  obtain ⟨f1, hf⟩ := fc_un (show (20 : Nat) < 100 from by decide) hf
  have f1 : 1 * w_fi ws (n_v vs 5) 12 + ((-1) * v_iv (n_v vs 4) + ((-1) * v_iv (n_v vs 9) + 0)) ≤ 0 := f1
  obtain ⟨f2, hf⟩ := fc_un (show (24 : Nat) < 100 from by decide) hf
  have f2 : n_v vs 0 = n_v vs 5 := f2
  have q5 : n_v vs 5 = n_v vs 0 := f2.symm
  rw [q5] at f1
  have kz_0_12 : 0 ≤ w_fi ws (n_v vs 0) 12 ∧ w_fi ws (n_v vs 0) 12 ≤ 100000000 := tv_rng (th_fd hD hth r0 (g := GG_12) rfl (k := 12) (t := (0, 0, 100000000, [])) rfl rfl)
  have nf0 : fc_1 (20, [0, 4], [30, 8, 1, 1, 12, -1, 0, 0]) ws (vs) := by
    refine ⟨fun n hn => ?_, ?_⟩
    · have hn : n ∈ [0, 4] := hn
      rw [hl]
      simp only [List.mem_cons, List.not_mem_nil, or_false] at hn
      show n < 10; omega
    · show 1 * w_fi ws (n_v vs 0) 12 + ((-1) * v_iv (n_v vs 4) + 0) ≤ 8
      omega
  refine ⟨(fun _ h => (by cases h)), [], trivial, ?_, (fun _ h => (by cases h))⟩
  rw [List.append_nil]
  exact List.forall_mem_cons.mpr ⟨⟨show (20 : Nat) < 100 from by decide, nf0⟩, (fun _ h => (by cases h))⟩
def o_Ho_writeName_at_GrgroupName_2 : or_T := (19, 14, [(0, (2, 0, 0, [12])), (4, (0, 0, 99999992, [])), (5, (2, 0, 0, [12])), (8, (0, 1, 8, [])), (9, (0, 0, 7, []))], [(7, [9, 8], [2]), (20, [5, 4, 9], [30, 0, 1, 1, 12, -1, 0, 0, -1, 0, 0]), (24, [0, 5], [])], [], [(0, 0, 99999999, [])], [(20, [5, 14], [30, 0, 1, 1, 12, -1, 0, 0]), (23, [14, 4, 9], [0, 1, -1, -1])], [], [(9, 8, -4294967296, -1), (8, 4, -4294967296, 8), (8, 9, -4294967296, 8), (9, 8, -4294967296, 0)])
theorem oo_Ho_writeName_at_GrgroupName_2 {kA : Nat → ClassId} : or_ok kA GG o_Ho_writeName_at_GrgroupName_2 := by
  intro A ta ws vs hD hth hl hk hds hf
  have hl : vs.length = 14 := hl
  have hk : ∀ q ∈ ([(0, (2, 0, 0, [12])), (4, (0, 0, 99999992, [])), (5, (2, 0, 0, [12])), (8, (0, 1, 8, [])), (9, (0, 0, 7, []))] : List (Nat × tv_T)), tv_ok ta q.2 (n_v vs q.1) := hk
  obtain ⟨t0, hk⟩ := List.forall_mem_cons.mp hk
  have t0 : tv_ok ta (2, 0, 0, [12]) (n_v vs 0) := t0
  have r0 : ta (v_ad (n_v vs 0)) = some 12 := tv_rg t0
  obtain ⟨t4, hk⟩ := List.forall_mem_cons.mp hk
  have t4 : tv_ok ta (0, 0, 99999992, []) (n_v vs 4) := t4
  have k4 : 0 ≤ v_iv (n_v vs 4) ∧ v_iv (n_v vs 4) ≤ 99999992 := tv_rng t4
  obtain ⟨t5, hk⟩ := List.forall_mem_cons.mp hk
  have t5 : tv_ok ta (2, 0, 0, [12]) (n_v vs 5) := t5
  have r5 : ta (v_ad (n_v vs 5)) = some 12 := tv_rg t5
  obtain ⟨t8, hk⟩ := List.forall_mem_cons.mp hk
  have t8 : tv_ok ta (0, 1, 8, []) (n_v vs 8) := t8
  have k8 : 1 ≤ v_iv (n_v vs 8) ∧ v_iv (n_v vs 8) ≤ 8 := tv_rng t8
  obtain ⟨t9, hk⟩ := List.forall_mem_cons.mp hk
  have t9 : tv_ok ta (0, 0, 7, []) (n_v vs 9) := t9
  have k9 : 0 ≤ v_iv (n_v vs 9) ∧ v_iv (n_v vs 9) ≤ 7 := tv_rng t9
  have hds : ∀ q ∈ ([(9, 8, -4294967296, -1), (8, 4, -4294967296, 8), (8, 9, -4294967296, 8), (9, 8, -4294967296, 0)] : List of_T), n_iv vs q.2.1 + q.2.2.1 ≤ n_iv vs q.1 ∧ n_iv vs q.1 ≤ n_iv vs q.2.1 + q.2.2.2 := hds
  obtain ⟨d0, hds⟩ := List.forall_mem_cons.mp hds
  have d0 : v_iv (n_v vs 8) + (-4294967296) ≤ v_iv (n_v vs 9) ∧ v_iv (n_v vs 9) ≤ v_iv (n_v vs 8) + (-1) := d0
  obtain ⟨d1, hds⟩ := List.forall_mem_cons.mp hds
  have d1 : v_iv (n_v vs 4) + (-4294967296) ≤ v_iv (n_v vs 8) ∧ v_iv (n_v vs 8) ≤ v_iv (n_v vs 4) + 8 := d1
  obtain ⟨d2, hds⟩ := List.forall_mem_cons.mp hds
  have d2 : v_iv (n_v vs 9) + (-4294967296) ≤ v_iv (n_v vs 8) ∧ v_iv (n_v vs 8) ≤ v_iv (n_v vs 9) + 8 := d2
  obtain ⟨d3, hds⟩ := List.forall_mem_cons.mp hds
  have d3 : v_iv (n_v vs 8) + (-4294967296) ≤ v_iv (n_v vs 9) ∧ v_iv (n_v vs 9) ≤ v_iv (n_v vs 8) + 0 := d3
  have hf : fc_ok [(7, [9, 8], [2]), (20, [5, 4, 9], [30, 0, 1, 1, 12, -1, 0, 0, -1, 0, 0]), (24, [0, 5], [])] ta ws vs := hf
  obtain ⟨f0, hf⟩ := fc_un (show (7 : Nat) < 100 from by decide) hf
  have f0 : v_iv (n_v vs 9) < v_iv (n_v vs 8) := f0
  obtain ⟨f1, hf⟩ := fc_un (show (20 : Nat) < 100 from by decide) hf
  have f1 : 1 * w_fi ws (n_v vs 5) 12 + ((-1) * v_iv (n_v vs 4) + ((-1) * v_iv (n_v vs 9) + 0)) ≤ 0 := f1
  obtain ⟨f2, hf⟩ := fc_un (show (24 : Nat) < 100 from by decide) hf
  have f2 : n_v vs 0 = n_v vs 5 := f2
  have q5 : n_v vs 5 = n_v vs 0 := f2.symm
  rw [q5] at f1
  have kz_0_12 : 0 ≤ w_fi ws (n_v vs 0) 12 ∧ w_fi ws (n_v vs 0) 12 ≤ 100000000 := tv_rng (th_fd hD hth r0 (g := GG_12) rfl (k := 12) (t := (0, 0, 100000000, [])) rfl rfl)
  have kv0 : 0 ≤ w_fi ws (n_v vs 0) 12 ∧ w_fi ws (n_v vs 0) 12 ≤ 100000000 := tv_rng (th_fd hD hth r0 (g := GG_12) rfl (k := 12) (t := (0, 0, 100000000, [])) rfl rfl)
  obtain ⟨x, ex, hx⟩ := iv_ex (ta := ta) (lo := 0) (hi := 99999999) (z := w_fi ws (n_v vs 0) 12) (by omega) (by omega) (by omega) (by omega)
  have ex2 : v_iv (Value.int x) = w_fi ws (n_v vs 0) 12 := ex
  have ex3 : 0 ≤ v_iv (Value.int x) ∧ v_iv (Value.int x) ≤ 99999999 := tv_rng hx
  have e_4 : n_v (vs ++ [Value.int x]) 4 = n_v vs 4 := n_v_old (by rw [hl]; decide)
  have e_5 : n_v (vs ++ [Value.int x]) 5 = n_v vs 5 := n_v_old (by rw [hl]; decide)
  have e_9 : n_v (vs ++ [Value.int x]) 9 = n_v vs 9 := n_v_old (by rw [hl]; decide)
  have e_14 : n_v (vs ++ [Value.int x]) 14 = Value.int x := n_v_new hl
  have nf0 : fc_1 (20, [5, 14], [30, 0, 1, 1, 12, -1, 0, 0]) ws (vs ++ [Value.int x]) := by
    refine ⟨fun n hn => ?_, ?_⟩
    · have hn : n ∈ [5, 14] := hn
      rw [List.length_append, hl]
      simp only [List.mem_cons, List.not_mem_nil, or_false] at hn
      show n < 14 + 1; omega
    · show 1 * w_fi ws (n_v (vs ++ [Value.int x]) 5) 12 + ((-1) * v_iv (n_v (vs ++ [Value.int x]) 14) + 0) ≤ 0
      rw [e_5]
      rw [e_14]
      rw [q5]
      omega
  have nf1 : fc_1 (23, [14, 4, 9], [0, 1, -1, -1]) ws (vs ++ [Value.int x]) := by
    refine ⟨fun n hn => ?_, ?_⟩
    · have hn : n ∈ [14, 4, 9] := hn
      rw [List.length_append, hl]
      simp only [List.mem_cons, List.not_mem_nil, or_false] at hn
      show n < 14 + 1; omega
    · show 1 * v_iv (n_v (vs ++ [Value.int x]) 14) + ((-1) * v_iv (n_v (vs ++ [Value.int x]) 4) + ((-1) * v_iv (n_v (vs ++ [Value.int x]) 9) + 0)) ≤ 0
      rw [e_4]
      rw [e_9]
      rw [e_14]
      omega
  exact ⟨(fun _ h => (by cases h)), [Value.int x], ag_one hx, List.forall_mem_cons.mpr ⟨⟨show (20 : Nat) < 100 from by decide, nf0⟩, List.forall_mem_cons.mpr ⟨⟨show (23 : Nat) < 100 from by decide, nf1⟩, (fun _ h => (by cases h))⟩⟩, (fun _ h => (by cases h))⟩
def o_Ho_writeName_at_GrgroupName_3 : or_T := (3, 16, [(0, (2, 0, 0, [12])), (4, (0, 0, 99999992, [])), (5, (2, 0, 0, [12])), (8, (0, 1, 8, [])), (9, (0, 0, 7, [])), (14, (0, 0, 99999999, [])), (15, (0, 1, 8, []))], [(6, [15, 9], [1]), (23, [14, 4, 9], [0, 1, -1, -1]), (24, [0, 5], []), (20, [5, 14], [30, 1, 1, 1, 12, -1, 0, 0]), (102, [14], [261336857795280739939871698507597986398208, 12012]), (23, [14, 4, 9], [0, 1, -1, -1]), (7, [9, 8], [2])], [], [], [(20, [5, 4, 15], [30, 0, 1, 1, 12, -1, 0, 0, -1, 0, 0])], [], [(15, 9, 1, 1), (15, 8, -4294967296, 0), (15, 8, -4294967296, 1), (9, 8, -4294967296, -1), (8, 4, -4294967296, 8), (8, 9, -4294967296, 8), (9, 8, -4294967296, 0)])
theorem oo_Ho_writeName_at_GrgroupName_3 {kA : Nat → ClassId} : or_ok kA GG o_Ho_writeName_at_GrgroupName_3 := by
  intro A ta ws vs hD hth hl hk hds hf
  have hl : vs.length = 16 := hl
  have hk : ∀ q ∈ ([(0, (2, 0, 0, [12])), (4, (0, 0, 99999992, [])), (5, (2, 0, 0, [12])), (8, (0, 1, 8, [])), (9, (0, 0, 7, [])), (14, (0, 0, 99999999, [])), (15, (0, 1, 8, []))] : List (Nat × tv_T)), tv_ok ta q.2 (n_v vs q.1) := hk
  obtain ⟨t0, hk⟩ := List.forall_mem_cons.mp hk
  have t0 : tv_ok ta (2, 0, 0, [12]) (n_v vs 0) := t0
  have r0 : ta (v_ad (n_v vs 0)) = some 12 := tv_rg t0
  obtain ⟨t4, hk⟩ := List.forall_mem_cons.mp hk
  have t4 : tv_ok ta (0, 0, 99999992, []) (n_v vs 4) := t4
  have k4 : 0 ≤ v_iv (n_v vs 4) ∧ v_iv (n_v vs 4) ≤ 99999992 := tv_rng t4
  obtain ⟨t5, hk⟩ := List.forall_mem_cons.mp hk
  have t5 : tv_ok ta (2, 0, 0, [12]) (n_v vs 5) := t5
  have r5 : ta (v_ad (n_v vs 5)) = some 12 := tv_rg t5
  obtain ⟨t8, hk⟩ := List.forall_mem_cons.mp hk
  have t8 : tv_ok ta (0, 1, 8, []) (n_v vs 8) := t8
  have k8 : 1 ≤ v_iv (n_v vs 8) ∧ v_iv (n_v vs 8) ≤ 8 := tv_rng t8
  obtain ⟨t9, hk⟩ := List.forall_mem_cons.mp hk
  have t9 : tv_ok ta (0, 0, 7, []) (n_v vs 9) := t9
  have k9 : 0 ≤ v_iv (n_v vs 9) ∧ v_iv (n_v vs 9) ≤ 7 := tv_rng t9
  obtain ⟨t14, hk⟩ := List.forall_mem_cons.mp hk
  have t14 : tv_ok ta (0, 0, 99999999, []) (n_v vs 14) := t14
  have k14 : 0 ≤ v_iv (n_v vs 14) ∧ v_iv (n_v vs 14) ≤ 99999999 := tv_rng t14
  obtain ⟨t15, hk⟩ := List.forall_mem_cons.mp hk
  have t15 : tv_ok ta (0, 1, 8, []) (n_v vs 15) := t15
  have k15 : 1 ≤ v_iv (n_v vs 15) ∧ v_iv (n_v vs 15) ≤ 8 := tv_rng t15
  have hds : ∀ q ∈ ([(15, 9, 1, 1), (15, 8, -4294967296, 0), (15, 8, -4294967296, 1), (9, 8, -4294967296, -1), (8, 4, -4294967296, 8), (8, 9, -4294967296, 8), (9, 8, -4294967296, 0)] : List of_T), n_iv vs q.2.1 + q.2.2.1 ≤ n_iv vs q.1 ∧ n_iv vs q.1 ≤ n_iv vs q.2.1 + q.2.2.2 := hds
  obtain ⟨d0, hds⟩ := List.forall_mem_cons.mp hds
  have d0 : v_iv (n_v vs 9) + 1 ≤ v_iv (n_v vs 15) ∧ v_iv (n_v vs 15) ≤ v_iv (n_v vs 9) + 1 := d0
  obtain ⟨d1, hds⟩ := List.forall_mem_cons.mp hds
  have d1 : v_iv (n_v vs 8) + (-4294967296) ≤ v_iv (n_v vs 15) ∧ v_iv (n_v vs 15) ≤ v_iv (n_v vs 8) + 0 := d1
  obtain ⟨d2, hds⟩ := List.forall_mem_cons.mp hds
  have d2 : v_iv (n_v vs 8) + (-4294967296) ≤ v_iv (n_v vs 15) ∧ v_iv (n_v vs 15) ≤ v_iv (n_v vs 8) + 1 := d2
  obtain ⟨d3, hds⟩ := List.forall_mem_cons.mp hds
  have d3 : v_iv (n_v vs 8) + (-4294967296) ≤ v_iv (n_v vs 9) ∧ v_iv (n_v vs 9) ≤ v_iv (n_v vs 8) + (-1) := d3
  obtain ⟨d4, hds⟩ := List.forall_mem_cons.mp hds
  have d4 : v_iv (n_v vs 4) + (-4294967296) ≤ v_iv (n_v vs 8) ∧ v_iv (n_v vs 8) ≤ v_iv (n_v vs 4) + 8 := d4
  obtain ⟨d5, hds⟩ := List.forall_mem_cons.mp hds
  have d5 : v_iv (n_v vs 9) + (-4294967296) ≤ v_iv (n_v vs 8) ∧ v_iv (n_v vs 8) ≤ v_iv (n_v vs 9) + 8 := d5
  obtain ⟨d6, hds⟩ := List.forall_mem_cons.mp hds
  have d6 : v_iv (n_v vs 8) + (-4294967296) ≤ v_iv (n_v vs 9) ∧ v_iv (n_v vs 9) ≤ v_iv (n_v vs 8) + 0 := d6
  have hf : fc_ok [(6, [15, 9], [1]), (23, [14, 4, 9], [0, 1, -1, -1]), (24, [0, 5], []), (20, [5, 14], [30, 1, 1, 1, 12, -1, 0, 0]), (102, [14], [261336857795280739939871698507597986398208, 12012]), (23, [14, 4, 9], [0, 1, -1, -1]), (7, [9, 8], [2])] ta ws vs := hf
  obtain ⟨f0, hf⟩ := fc_un (show (6 : Nat) < 100 from by decide) hf
  have f0 : v_iv (n_v vs 15) = v_iv (n_v vs 9) + 1 := f0
  obtain ⟨f1, hf⟩ := fc_un (show (23 : Nat) < 100 from by decide) hf
  have f1 : 1 * v_iv (n_v vs 14) + ((-1) * v_iv (n_v vs 4) + ((-1) * v_iv (n_v vs 9) + 0)) ≤ 0 := f1
  obtain ⟨f2, hf⟩ := fc_un (show (24 : Nat) < 100 from by decide) hf
  have f2 : n_v vs 0 = n_v vs 5 := f2
  obtain ⟨f3, hf⟩ := fc_un (show (20 : Nat) < 100 from by decide) hf
  have f3 : 1 * w_fi ws (n_v vs 5) 12 + ((-1) * v_iv (n_v vs 14) + 0) ≤ 1 := f3
  obtain ⟨ta1, w1, le1, ⟨_, s1⟩, hf⟩ := fc_us (show ¬ (102 : Nat) < 100 from by decide) hf
  obtain ⟨f5, hf⟩ := fc_un (show (23 : Nat) < 100 from by decide) hf
  have f5 : 1 * v_iv (n_v vs 14) + ((-1) * v_iv (n_v vs 4) + ((-1) * v_iv (n_v vs 9) + 0)) ≤ 0 := f5
  obtain ⟨f6, hf⟩ := fc_un (show (7 : Nat) < 100 from by decide) hf
  have f6 : v_iv (n_v vs 9) < v_iv (n_v vs 8) := f6
  have q5 : n_v vs 5 = n_v vs 0 := f2.symm
  rw [q5] at f3
  have kz_0_12 : 0 ≤ w_fi ws (n_v vs 0) 12 ∧ w_fi ws (n_v vs 0) 12 ≤ 100000000 := tv_rng (th_fd hD hth r0 (g := GG_12) rfl (k := 12) (t := (0, 0, 100000000, [])) rfl rfl)
  have nf0 : fc_1 (20, [5, 4, 15], [30, 0, 1, 1, 12, -1, 0, 0, -1, 0, 0]) ws (vs) := by
    refine ⟨fun n hn => ?_, ?_⟩
    · have hn : n ∈ [5, 4, 15] := hn
      rw [hl]
      simp only [List.mem_cons, List.not_mem_nil, or_false] at hn
      show n < 16; omega
    · show 1 * w_fi ws (n_v vs 5) 12 + ((-1) * v_iv (n_v vs 4) + ((-1) * v_iv (n_v vs 15) + 0)) ≤ 0
      rw [q5]
      omega
  refine ⟨(fun _ h => (by cases h)), [], trivial, ?_, (fun _ h => (by cases h))⟩
  rw [List.append_nil]
  exact List.forall_mem_cons.mpr ⟨⟨show (20 : Nat) < 100 from by decide, nf0⟩, (fun _ h => (by cases h))⟩
def n_Ho_writeName_at_GrgroupName_an : List an_T := [(3, [(0, (2, 0, 0, [12])), (1, (2, 0, 0, [57])), (2, (0, 1, 7, [])), (3, (0, 0, 8, [])), (4, (0, 0, 8, []))], [], (0, 0), [(0, 0, 99997), (1, 9, 8), (0, 0, 100000)], [(2, 3, -1000000000000, 7), (2, 4, -1000000000000, 7), (2, 7, -1000000000000, 0), (2, 8, -1000000000000, 7), (2, 9, -1000000000000, 7), (3, 2, -1000000000000, 7), (3, 4, -1000000000000, 8), (3, 7, -1000000000000, 7), (3, 8, -1000000000000, 0), (3, 9, -1000000000000, 8), (7, 2, -1000000000000, 0), (7, 3, -1000000000000, 7), (7, 4, -1000000000000, 7), (7, 8, -1000000000000, 7), (7, 9, -1000000000000, 7), (8, 2, -1000000000000, 7), (8, 3, -1000000000000, 0), (8, 4, -1000000000000, 8), (8, 7, -1000000000000, 7), (8, 9, -1000000000000, 8), (9, 3, -1000000000000, 0), (9, 8, -1000000000000, 0)], [], [(2, 0, 0, [12]), (2, 0, 0, [57]), (0, 1, 7, []), (0, 0, 8, []), (0, 0, 99999992, [])], 0, [], [(20, [5, 4, 9], [30, 0, 1, 1, 12, -1, 0, 0, -1, 0, 0]), (24, [0, 5], [])])]
def t_Ho_writeName_at_GrgroupName_ct : ct_L := [(1, 447, e_Ho_writeByte)]
set_option maxRecDepth 100000 in
theorem c_Ho_writeName_at_GrgroupName {l : Launch} {D : va_G} {kA : Nat → ClassId} (h_Ho_writeByte : ct_ok l D kA GG y_Ho_writeByte z_Ho_writeByte e_Ho_writeByte) : ct_ok l D kA GG y_Ho_writeName_at_GrgroupName z_Ho_writeName_at_GrgroupName e_Ho_writeName_at_GrgroupName := chk_all_ok (FT := []) (PT := []) (CT := t_Ho_writeName_at_GrgroupName_ct) (KT := []) (NT := []) (AN := n_Ho_writeName_at_GrgroupName_an) (OT := [o_Ho_writeName_at_GrgroupName_0, o_Ho_writeName_at_GrgroupName_1, o_Ho_writeName_at_GrgroupName_2, o_Ho_writeName_at_GrgroupName_3]) 3 200 (List.forall_mem_cons.mpr ⟨oo_Ho_writeName_at_GrgroupName_0, List.forall_mem_cons.mpr ⟨oo_Ho_writeName_at_GrgroupName_1, List.forall_mem_cons.mpr ⟨oo_Ho_writeName_at_GrgroupName_2, List.forall_mem_cons.mpr ⟨oo_Ho_writeName_at_GrgroupName_3, List.forall_mem_nil _⟩⟩⟩⟩) (by decide +kernel) ⟨List.forall_mem_nil _, List.forall_mem_nil _, List.forall_mem_cons.mpr ⟨cl_virtual (y := y_Ho_writeByte) (ci := 12) rfl rfl ⟨_, _, rfl⟩ (by decide +kernel) h_Ho_writeByte wm_2345 wm_1 wm_2342 wm_2344 wv_12_0 ⟨by decide, by decide, by decide +kernel⟩ (by decide), List.forall_mem_nil _⟩, List.forall_mem_nil _, List.forall_mem_nil _, GG_pl⟩ (by decide +kernel)
def o_Ho_writeName_at_Grname_0 : or_T := (3, 6, [(0, (2, 0, 0, [12])), (4, (0, 0, 99999992, [])), (5, (0, 0, 0, []))], [(20, [0, 4], [30, 0, 1, 1, 12, -1, 0, 0])], [], [], [(20, [0, 4, 5], [30, 0, 1, 1, 12, -1, 0, 0, -1, 0, 0]), (24, [0, 0], [])], [], [])
theorem oo_Ho_writeName_at_Grname_0 {kA : Nat → ClassId} : or_ok kA GG o_Ho_writeName_at_Grname_0 := by
  intro A ta ws vs hD hth hl hk hds hf
  have hl : vs.length = 6 := hl
  have hk : ∀ q ∈ ([(0, (2, 0, 0, [12])), (4, (0, 0, 99999992, [])), (5, (0, 0, 0, []))] : List (Nat × tv_T)), tv_ok ta q.2 (n_v vs q.1) := hk
  obtain ⟨t0, hk⟩ := List.forall_mem_cons.mp hk
  have t0 : tv_ok ta (2, 0, 0, [12]) (n_v vs 0) := t0
  have r0 : ta (v_ad (n_v vs 0)) = some 12 := tv_rg t0
  obtain ⟨t4, hk⟩ := List.forall_mem_cons.mp hk
  have t4 : tv_ok ta (0, 0, 99999992, []) (n_v vs 4) := t4
  have k4 : 0 ≤ v_iv (n_v vs 4) ∧ v_iv (n_v vs 4) ≤ 99999992 := tv_rng t4
  obtain ⟨t5, hk⟩ := List.forall_mem_cons.mp hk
  have t5 : tv_ok ta (0, 0, 0, []) (n_v vs 5) := t5
  have k5 : 0 ≤ v_iv (n_v vs 5) ∧ v_iv (n_v vs 5) ≤ 0 := tv_rng t5
  have hf : fc_ok [(20, [0, 4], [30, 0, 1, 1, 12, -1, 0, 0])] ta ws vs := hf
  obtain ⟨f0, hf⟩ := fc_un (show (20 : Nat) < 100 from by decide) hf
  have f0 : 1 * w_fi ws (n_v vs 0) 12 + ((-1) * v_iv (n_v vs 4) + 0) ≤ 0 := f0
  have kz_0_12 : 0 ≤ w_fi ws (n_v vs 0) 12 ∧ w_fi ws (n_v vs 0) 12 ≤ 100000000 := tv_rng (th_fd hD hth r0 (g := GG_12) rfl (k := 12) (t := (0, 0, 100000000, [])) rfl rfl)
  have nf0 : fc_1 (20, [0, 4, 5], [30, 0, 1, 1, 12, -1, 0, 0, -1, 0, 0]) ws (vs) := by
    refine ⟨fun n hn => ?_, ?_⟩
    · have hn : n ∈ [0, 4, 5] := hn
      rw [hl]
      simp only [List.mem_cons, List.not_mem_nil, or_false] at hn
      show n < 6; omega
    · show 1 * w_fi ws (n_v vs 0) 12 + ((-1) * v_iv (n_v vs 4) + ((-1) * v_iv (n_v vs 5) + 0)) ≤ 0
      omega
  have nf1 : fc_1 (24, [0, 0], []) ws (vs) := by
    refine ⟨fun n hn => ?_, ?_⟩
    · have hn : n ∈ [0, 0] := hn
      rw [hl]
      simp only [List.mem_cons, List.not_mem_nil, or_false] at hn
      show n < 6; omega
    · show n_v vs 0 = n_v vs 0
      first | rfl | simp only [true_and]
  refine ⟨(fun _ h => (by cases h)), [], trivial, ?_, (fun _ h => (by cases h))⟩
  rw [List.append_nil]
  exact List.forall_mem_cons.mpr ⟨⟨show (20 : Nat) < 100 from by decide, nf0⟩, List.forall_mem_cons.mpr ⟨⟨show (24 : Nat) < 100 from by decide, nf1⟩, (fun _ h => (by cases h))⟩⟩
def o_Ho_writeName_at_Grname_1 : or_T := (28, 10, [(0, (2, 0, 0, [12])), (4, (0, 0, 99999992, [])), (5, (2, 0, 0, [12])), (8, (0, 0, 8, [])), (9, (0, 0, 8, []))], [(7, [9, 8], [3]), (20, [5, 4, 9], [30, 0, 1, 1, 12, -1, 0, 0, -1, 0, 0]), (24, [0, 5], [])], [], [], [(20, [0, 4], [30, 8, 1, 1, 12, -1, 0, 0])], [], [(9, 8, 0, 4294967296), (8, 4, -4294967296, 8), (8, 9, -4294967296, 8), (9, 8, -4294967296, 0)])
theorem oo_Ho_writeName_at_Grname_1 {kA : Nat → ClassId} : or_ok kA GG o_Ho_writeName_at_Grname_1 := by
  intro A ta ws vs hD hth hl hk hds hf
  have hl : vs.length = 10 := hl
  have hk : ∀ q ∈ ([(0, (2, 0, 0, [12])), (4, (0, 0, 99999992, [])), (5, (2, 0, 0, [12])), (8, (0, 0, 8, [])), (9, (0, 0, 8, []))] : List (Nat × tv_T)), tv_ok ta q.2 (n_v vs q.1) := hk
  obtain ⟨t0, hk⟩ := List.forall_mem_cons.mp hk
  have t0 : tv_ok ta (2, 0, 0, [12]) (n_v vs 0) := t0
  have r0 : ta (v_ad (n_v vs 0)) = some 12 := tv_rg t0
  obtain ⟨t4, hk⟩ := List.forall_mem_cons.mp hk
  have t4 : tv_ok ta (0, 0, 99999992, []) (n_v vs 4) := t4
  have k4 : 0 ≤ v_iv (n_v vs 4) ∧ v_iv (n_v vs 4) ≤ 99999992 := tv_rng t4
  obtain ⟨t5, hk⟩ := List.forall_mem_cons.mp hk
  have t5 : tv_ok ta (2, 0, 0, [12]) (n_v vs 5) := t5
  have r5 : ta (v_ad (n_v vs 5)) = some 12 := tv_rg t5
  obtain ⟨t8, hk⟩ := List.forall_mem_cons.mp hk
  have t8 : tv_ok ta (0, 0, 8, []) (n_v vs 8) := t8
  have k8 : 0 ≤ v_iv (n_v vs 8) ∧ v_iv (n_v vs 8) ≤ 8 := tv_rng t8
  obtain ⟨t9, hk⟩ := List.forall_mem_cons.mp hk
  have t9 : tv_ok ta (0, 0, 8, []) (n_v vs 9) := t9
  have k9 : 0 ≤ v_iv (n_v vs 9) ∧ v_iv (n_v vs 9) ≤ 8 := tv_rng t9
  have hds : ∀ q ∈ ([(9, 8, 0, 4294967296), (8, 4, -4294967296, 8), (8, 9, -4294967296, 8), (9, 8, -4294967296, 0)] : List of_T), n_iv vs q.2.1 + q.2.2.1 ≤ n_iv vs q.1 ∧ n_iv vs q.1 ≤ n_iv vs q.2.1 + q.2.2.2 := hds
  obtain ⟨d0, hds⟩ := List.forall_mem_cons.mp hds
  have d0 : v_iv (n_v vs 8) + 0 ≤ v_iv (n_v vs 9) ∧ v_iv (n_v vs 9) ≤ v_iv (n_v vs 8) + 4294967296 := d0
  obtain ⟨d1, hds⟩ := List.forall_mem_cons.mp hds
  have d1 : v_iv (n_v vs 4) + (-4294967296) ≤ v_iv (n_v vs 8) ∧ v_iv (n_v vs 8) ≤ v_iv (n_v vs 4) + 8 := d1
  obtain ⟨d2, hds⟩ := List.forall_mem_cons.mp hds
  have d2 : v_iv (n_v vs 9) + (-4294967296) ≤ v_iv (n_v vs 8) ∧ v_iv (n_v vs 8) ≤ v_iv (n_v vs 9) + 8 := d2
  obtain ⟨d3, hds⟩ := List.forall_mem_cons.mp hds
  have d3 : v_iv (n_v vs 8) + (-4294967296) ≤ v_iv (n_v vs 9) ∧ v_iv (n_v vs 9) ≤ v_iv (n_v vs 8) + 0 := d3
  have hf : fc_ok [(7, [9, 8], [3]), (20, [5, 4, 9], [30, 0, 1, 1, 12, -1, 0, 0, -1, 0, 0]), (24, [0, 5], [])] ta ws vs := hf
  obtain ⟨f0, hf⟩ := fc_un (show (7 : Nat) < 100 from by decide) hf
  have f0 : v_iv (n_v vs 8) ≤ v_iv (n_v vs 9) := f0
  obtain ⟨f1, hf⟩ := fc_un (show (20 : Nat) < 100 from by decide) hf
  have f1 : 1 * w_fi ws (n_v vs 5) 12 + ((-1) * v_iv (n_v vs 4) + ((-1) * v_iv (n_v vs 9) + 0)) ≤ 0 := f1
  obtain ⟨f2, hf⟩ := fc_un (show (24 : Nat) < 100 from by decide) hf
  have f2 : n_v vs 0 = n_v vs 5 := f2
  have q5 : n_v vs 5 = n_v vs 0 := f2.symm
  rw [q5] at f1
  have kz_0_12 : 0 ≤ w_fi ws (n_v vs 0) 12 ∧ w_fi ws (n_v vs 0) 12 ≤ 100000000 := tv_rng (th_fd hD hth r0 (g := GG_12) rfl (k := 12) (t := (0, 0, 100000000, [])) rfl rfl)
  have nf0 : fc_1 (20, [0, 4], [30, 8, 1, 1, 12, -1, 0, 0]) ws (vs) := by
    refine ⟨fun n hn => ?_, ?_⟩
    · have hn : n ∈ [0, 4] := hn
      rw [hl]
      simp only [List.mem_cons, List.not_mem_nil, or_false] at hn
      show n < 10; omega
    · show 1 * w_fi ws (n_v vs 0) 12 + ((-1) * v_iv (n_v vs 4) + 0) ≤ 8
      omega
  refine ⟨(fun _ h => (by cases h)), [], trivial, ?_, (fun _ h => (by cases h))⟩
  rw [List.append_nil]
  exact List.forall_mem_cons.mpr ⟨⟨show (20 : Nat) < 100 from by decide, nf0⟩, (fun _ h => (by cases h))⟩
def o_Ho_writeName_at_Grname_2 : or_T := (19, 14, [(0, (2, 0, 0, [12])), (4, (0, 0, 99999992, [])), (5, (2, 0, 0, [12])), (8, (0, 1, 8, [])), (9, (0, 0, 7, []))], [(7, [9, 8], [2]), (20, [5, 4, 9], [30, 0, 1, 1, 12, -1, 0, 0, -1, 0, 0]), (24, [0, 5], [])], [], [(0, 0, 99999999, [])], [(20, [5, 14], [30, 0, 1, 1, 12, -1, 0, 0]), (23, [14, 4, 9], [0, 1, -1, -1])], [], [(9, 8, -4294967296, -1), (8, 4, -4294967296, 8), (8, 9, -4294967296, 8), (9, 8, -4294967296, 0)])
theorem oo_Ho_writeName_at_Grname_2 {kA : Nat → ClassId} : or_ok kA GG o_Ho_writeName_at_Grname_2 := by
  intro A ta ws vs hD hth hl hk hds hf
  have hl : vs.length = 14 := hl
  have hk : ∀ q ∈ ([(0, (2, 0, 0, [12])), (4, (0, 0, 99999992, [])), (5, (2, 0, 0, [12])), (8, (0, 1, 8, [])), (9, (0, 0, 7, []))] : List (Nat × tv_T)), tv_ok ta q.2 (n_v vs q.1) := hk
  obtain ⟨t0, hk⟩ := List.forall_mem_cons.mp hk
  have t0 : tv_ok ta (2, 0, 0, [12]) (n_v vs 0) := t0
  have r0 : ta (v_ad (n_v vs 0)) = some 12 := tv_rg t0
  obtain ⟨t4, hk⟩ := List.forall_mem_cons.mp hk
  have t4 : tv_ok ta (0, 0, 99999992, []) (n_v vs 4) := t4
  have k4 : 0 ≤ v_iv (n_v vs 4) ∧ v_iv (n_v vs 4) ≤ 99999992 := tv_rng t4
  obtain ⟨t5, hk⟩ := List.forall_mem_cons.mp hk
  have t5 : tv_ok ta (2, 0, 0, [12]) (n_v vs 5) := t5
  have r5 : ta (v_ad (n_v vs 5)) = some 12 := tv_rg t5
  obtain ⟨t8, hk⟩ := List.forall_mem_cons.mp hk
  have t8 : tv_ok ta (0, 1, 8, []) (n_v vs 8) := t8
  have k8 : 1 ≤ v_iv (n_v vs 8) ∧ v_iv (n_v vs 8) ≤ 8 := tv_rng t8
  obtain ⟨t9, hk⟩ := List.forall_mem_cons.mp hk
  have t9 : tv_ok ta (0, 0, 7, []) (n_v vs 9) := t9
  have k9 : 0 ≤ v_iv (n_v vs 9) ∧ v_iv (n_v vs 9) ≤ 7 := tv_rng t9
  have hds : ∀ q ∈ ([(9, 8, -4294967296, -1), (8, 4, -4294967296, 8), (8, 9, -4294967296, 8), (9, 8, -4294967296, 0)] : List of_T), n_iv vs q.2.1 + q.2.2.1 ≤ n_iv vs q.1 ∧ n_iv vs q.1 ≤ n_iv vs q.2.1 + q.2.2.2 := hds
  obtain ⟨d0, hds⟩ := List.forall_mem_cons.mp hds
  have d0 : v_iv (n_v vs 8) + (-4294967296) ≤ v_iv (n_v vs 9) ∧ v_iv (n_v vs 9) ≤ v_iv (n_v vs 8) + (-1) := d0
  obtain ⟨d1, hds⟩ := List.forall_mem_cons.mp hds
  have d1 : v_iv (n_v vs 4) + (-4294967296) ≤ v_iv (n_v vs 8) ∧ v_iv (n_v vs 8) ≤ v_iv (n_v vs 4) + 8 := d1
  obtain ⟨d2, hds⟩ := List.forall_mem_cons.mp hds
  have d2 : v_iv (n_v vs 9) + (-4294967296) ≤ v_iv (n_v vs 8) ∧ v_iv (n_v vs 8) ≤ v_iv (n_v vs 9) + 8 := d2
  obtain ⟨d3, hds⟩ := List.forall_mem_cons.mp hds
  have d3 : v_iv (n_v vs 8) + (-4294967296) ≤ v_iv (n_v vs 9) ∧ v_iv (n_v vs 9) ≤ v_iv (n_v vs 8) + 0 := d3
  have hf : fc_ok [(7, [9, 8], [2]), (20, [5, 4, 9], [30, 0, 1, 1, 12, -1, 0, 0, -1, 0, 0]), (24, [0, 5], [])] ta ws vs := hf
  obtain ⟨f0, hf⟩ := fc_un (show (7 : Nat) < 100 from by decide) hf
  have f0 : v_iv (n_v vs 9) < v_iv (n_v vs 8) := f0
  obtain ⟨f1, hf⟩ := fc_un (show (20 : Nat) < 100 from by decide) hf
  have f1 : 1 * w_fi ws (n_v vs 5) 12 + ((-1) * v_iv (n_v vs 4) + ((-1) * v_iv (n_v vs 9) + 0)) ≤ 0 := f1
  obtain ⟨f2, hf⟩ := fc_un (show (24 : Nat) < 100 from by decide) hf
  have f2 : n_v vs 0 = n_v vs 5 := f2
  have q5 : n_v vs 5 = n_v vs 0 := f2.symm
  rw [q5] at f1
  have kz_0_12 : 0 ≤ w_fi ws (n_v vs 0) 12 ∧ w_fi ws (n_v vs 0) 12 ≤ 100000000 := tv_rng (th_fd hD hth r0 (g := GG_12) rfl (k := 12) (t := (0, 0, 100000000, [])) rfl rfl)
  have kv0 : 0 ≤ w_fi ws (n_v vs 0) 12 ∧ w_fi ws (n_v vs 0) 12 ≤ 100000000 := tv_rng (th_fd hD hth r0 (g := GG_12) rfl (k := 12) (t := (0, 0, 100000000, [])) rfl rfl)
  obtain ⟨x, ex, hx⟩ := iv_ex (ta := ta) (lo := 0) (hi := 99999999) (z := w_fi ws (n_v vs 0) 12) (by omega) (by omega) (by omega) (by omega)
  have ex2 : v_iv (Value.int x) = w_fi ws (n_v vs 0) 12 := ex
  have ex3 : 0 ≤ v_iv (Value.int x) ∧ v_iv (Value.int x) ≤ 99999999 := tv_rng hx
  have e_4 : n_v (vs ++ [Value.int x]) 4 = n_v vs 4 := n_v_old (by rw [hl]; decide)
  have e_5 : n_v (vs ++ [Value.int x]) 5 = n_v vs 5 := n_v_old (by rw [hl]; decide)
  have e_9 : n_v (vs ++ [Value.int x]) 9 = n_v vs 9 := n_v_old (by rw [hl]; decide)
  have e_14 : n_v (vs ++ [Value.int x]) 14 = Value.int x := n_v_new hl
  have nf0 : fc_1 (20, [5, 14], [30, 0, 1, 1, 12, -1, 0, 0]) ws (vs ++ [Value.int x]) := by
    refine ⟨fun n hn => ?_, ?_⟩
    · have hn : n ∈ [5, 14] := hn
      rw [List.length_append, hl]
      simp only [List.mem_cons, List.not_mem_nil, or_false] at hn
      show n < 14 + 1; omega
    · show 1 * w_fi ws (n_v (vs ++ [Value.int x]) 5) 12 + ((-1) * v_iv (n_v (vs ++ [Value.int x]) 14) + 0) ≤ 0
      rw [e_5]
      rw [e_14]
      rw [q5]
      omega
  have nf1 : fc_1 (23, [14, 4, 9], [0, 1, -1, -1]) ws (vs ++ [Value.int x]) := by
    refine ⟨fun n hn => ?_, ?_⟩
    · have hn : n ∈ [14, 4, 9] := hn
      rw [List.length_append, hl]
      simp only [List.mem_cons, List.not_mem_nil, or_false] at hn
      show n < 14 + 1; omega
    · show 1 * v_iv (n_v (vs ++ [Value.int x]) 14) + ((-1) * v_iv (n_v (vs ++ [Value.int x]) 4) + ((-1) * v_iv (n_v (vs ++ [Value.int x]) 9) + 0)) ≤ 0
      rw [e_4]
      rw [e_9]
      rw [e_14]
      omega
  exact ⟨(fun _ h => (by cases h)), [Value.int x], ag_one hx, List.forall_mem_cons.mpr ⟨⟨show (20 : Nat) < 100 from by decide, nf0⟩, List.forall_mem_cons.mpr ⟨⟨show (23 : Nat) < 100 from by decide, nf1⟩, (fun _ h => (by cases h))⟩⟩, (fun _ h => (by cases h))⟩
def o_Ho_writeName_at_Grname_3 : or_T := (3, 16, [(0, (2, 0, 0, [12])), (4, (0, 0, 99999992, [])), (5, (2, 0, 0, [12])), (8, (0, 1, 8, [])), (9, (0, 0, 7, [])), (14, (0, 0, 99999999, [])), (15, (0, 1, 8, []))], [(6, [15, 9], [1]), (23, [14, 4, 9], [0, 1, -1, -1]), (24, [0, 5], []), (20, [5, 14], [30, 1, 1, 1, 12, -1, 0, 0]), (102, [14], [261336857795280739939871698507597986398208, 12012]), (23, [14, 4, 9], [0, 1, -1, -1]), (7, [9, 8], [2])], [], [], [(20, [5, 4, 15], [30, 0, 1, 1, 12, -1, 0, 0, -1, 0, 0])], [], [(15, 9, 1, 1), (15, 8, -4294967296, 0), (15, 8, -4294967296, 1), (9, 8, -4294967296, -1), (8, 4, -4294967296, 8), (8, 9, -4294967296, 8), (9, 8, -4294967296, 0)])
theorem oo_Ho_writeName_at_Grname_3 {kA : Nat → ClassId} : or_ok kA GG o_Ho_writeName_at_Grname_3 := by
  intro A ta ws vs hD hth hl hk hds hf
  have hl : vs.length = 16 := hl
  have hk : ∀ q ∈ ([(0, (2, 0, 0, [12])), (4, (0, 0, 99999992, [])), (5, (2, 0, 0, [12])), (8, (0, 1, 8, [])), (9, (0, 0, 7, [])), (14, (0, 0, 99999999, [])), (15, (0, 1, 8, []))] : List (Nat × tv_T)), tv_ok ta q.2 (n_v vs q.1) := hk
  obtain ⟨t0, hk⟩ := List.forall_mem_cons.mp hk
  have t0 : tv_ok ta (2, 0, 0, [12]) (n_v vs 0) := t0
  have r0 : ta (v_ad (n_v vs 0)) = some 12 := tv_rg t0
  obtain ⟨t4, hk⟩ := List.forall_mem_cons.mp hk
  have t4 : tv_ok ta (0, 0, 99999992, []) (n_v vs 4) := t4
  have k4 : 0 ≤ v_iv (n_v vs 4) ∧ v_iv (n_v vs 4) ≤ 99999992 := tv_rng t4
  obtain ⟨t5, hk⟩ := List.forall_mem_cons.mp hk
  have t5 : tv_ok ta (2, 0, 0, [12]) (n_v vs 5) := t5
  have r5 : ta (v_ad (n_v vs 5)) = some 12 := tv_rg t5
  obtain ⟨t8, hk⟩ := List.forall_mem_cons.mp hk
  have t8 : tv_ok ta (0, 1, 8, []) (n_v vs 8) := t8
  have k8 : 1 ≤ v_iv (n_v vs 8) ∧ v_iv (n_v vs 8) ≤ 8 := tv_rng t8
  obtain ⟨t9, hk⟩ := List.forall_mem_cons.mp hk
  have t9 : tv_ok ta (0, 0, 7, []) (n_v vs 9) := t9
  have k9 : 0 ≤ v_iv (n_v vs 9) ∧ v_iv (n_v vs 9) ≤ 7 := tv_rng t9
  obtain ⟨t14, hk⟩ := List.forall_mem_cons.mp hk
  have t14 : tv_ok ta (0, 0, 99999999, []) (n_v vs 14) := t14
  have k14 : 0 ≤ v_iv (n_v vs 14) ∧ v_iv (n_v vs 14) ≤ 99999999 := tv_rng t14
  obtain ⟨t15, hk⟩ := List.forall_mem_cons.mp hk
  have t15 : tv_ok ta (0, 1, 8, []) (n_v vs 15) := t15
  have k15 : 1 ≤ v_iv (n_v vs 15) ∧ v_iv (n_v vs 15) ≤ 8 := tv_rng t15
  have hds : ∀ q ∈ ([(15, 9, 1, 1), (15, 8, -4294967296, 0), (15, 8, -4294967296, 1), (9, 8, -4294967296, -1), (8, 4, -4294967296, 8), (8, 9, -4294967296, 8), (9, 8, -4294967296, 0)] : List of_T), n_iv vs q.2.1 + q.2.2.1 ≤ n_iv vs q.1 ∧ n_iv vs q.1 ≤ n_iv vs q.2.1 + q.2.2.2 := hds
  obtain ⟨d0, hds⟩ := List.forall_mem_cons.mp hds
  have d0 : v_iv (n_v vs 9) + 1 ≤ v_iv (n_v vs 15) ∧ v_iv (n_v vs 15) ≤ v_iv (n_v vs 9) + 1 := d0
  obtain ⟨d1, hds⟩ := List.forall_mem_cons.mp hds
  have d1 : v_iv (n_v vs 8) + (-4294967296) ≤ v_iv (n_v vs 15) ∧ v_iv (n_v vs 15) ≤ v_iv (n_v vs 8) + 0 := d1
  obtain ⟨d2, hds⟩ := List.forall_mem_cons.mp hds
  have d2 : v_iv (n_v vs 8) + (-4294967296) ≤ v_iv (n_v vs 15) ∧ v_iv (n_v vs 15) ≤ v_iv (n_v vs 8) + 1 := d2
  obtain ⟨d3, hds⟩ := List.forall_mem_cons.mp hds
  have d3 : v_iv (n_v vs 8) + (-4294967296) ≤ v_iv (n_v vs 9) ∧ v_iv (n_v vs 9) ≤ v_iv (n_v vs 8) + (-1) := d3
  obtain ⟨d4, hds⟩ := List.forall_mem_cons.mp hds
  have d4 : v_iv (n_v vs 4) + (-4294967296) ≤ v_iv (n_v vs 8) ∧ v_iv (n_v vs 8) ≤ v_iv (n_v vs 4) + 8 := d4
  obtain ⟨d5, hds⟩ := List.forall_mem_cons.mp hds
  have d5 : v_iv (n_v vs 9) + (-4294967296) ≤ v_iv (n_v vs 8) ∧ v_iv (n_v vs 8) ≤ v_iv (n_v vs 9) + 8 := d5
  obtain ⟨d6, hds⟩ := List.forall_mem_cons.mp hds
  have d6 : v_iv (n_v vs 8) + (-4294967296) ≤ v_iv (n_v vs 9) ∧ v_iv (n_v vs 9) ≤ v_iv (n_v vs 8) + 0 := d6
  have hf : fc_ok [(6, [15, 9], [1]), (23, [14, 4, 9], [0, 1, -1, -1]), (24, [0, 5], []), (20, [5, 14], [30, 1, 1, 1, 12, -1, 0, 0]), (102, [14], [261336857795280739939871698507597986398208, 12012]), (23, [14, 4, 9], [0, 1, -1, -1]), (7, [9, 8], [2])] ta ws vs := hf
  obtain ⟨f0, hf⟩ := fc_un (show (6 : Nat) < 100 from by decide) hf
  have f0 : v_iv (n_v vs 15) = v_iv (n_v vs 9) + 1 := f0
  obtain ⟨f1, hf⟩ := fc_un (show (23 : Nat) < 100 from by decide) hf
  have f1 : 1 * v_iv (n_v vs 14) + ((-1) * v_iv (n_v vs 4) + ((-1) * v_iv (n_v vs 9) + 0)) ≤ 0 := f1
  obtain ⟨f2, hf⟩ := fc_un (show (24 : Nat) < 100 from by decide) hf
  have f2 : n_v vs 0 = n_v vs 5 := f2
  obtain ⟨f3, hf⟩ := fc_un (show (20 : Nat) < 100 from by decide) hf
  have f3 : 1 * w_fi ws (n_v vs 5) 12 + ((-1) * v_iv (n_v vs 14) + 0) ≤ 1 := f3
  obtain ⟨ta1, w1, le1, ⟨_, s1⟩, hf⟩ := fc_us (show ¬ (102 : Nat) < 100 from by decide) hf
  obtain ⟨f5, hf⟩ := fc_un (show (23 : Nat) < 100 from by decide) hf
  have f5 : 1 * v_iv (n_v vs 14) + ((-1) * v_iv (n_v vs 4) + ((-1) * v_iv (n_v vs 9) + 0)) ≤ 0 := f5
  obtain ⟨f6, hf⟩ := fc_un (show (7 : Nat) < 100 from by decide) hf
  have f6 : v_iv (n_v vs 9) < v_iv (n_v vs 8) := f6
  have q5 : n_v vs 5 = n_v vs 0 := f2.symm
  rw [q5] at f3
  have kz_0_12 : 0 ≤ w_fi ws (n_v vs 0) 12 ∧ w_fi ws (n_v vs 0) 12 ≤ 100000000 := tv_rng (th_fd hD hth r0 (g := GG_12) rfl (k := 12) (t := (0, 0, 100000000, [])) rfl rfl)
  have nf0 : fc_1 (20, [5, 4, 15], [30, 0, 1, 1, 12, -1, 0, 0, -1, 0, 0]) ws (vs) := by
    refine ⟨fun n hn => ?_, ?_⟩
    · have hn : n ∈ [5, 4, 15] := hn
      rw [hl]
      simp only [List.mem_cons, List.not_mem_nil, or_false] at hn
      show n < 16; omega
    · show 1 * w_fi ws (n_v vs 5) 12 + ((-1) * v_iv (n_v vs 4) + ((-1) * v_iv (n_v vs 15) + 0)) ≤ 0
      rw [q5]
      omega
  refine ⟨(fun _ h => (by cases h)), [], trivial, ?_, (fun _ h => (by cases h))⟩
  rw [List.append_nil]
  exact List.forall_mem_cons.mpr ⟨⟨show (20 : Nat) < 100 from by decide, nf0⟩, (fun _ h => (by cases h))⟩
def n_Ho_writeName_at_Grname_an : List an_T := [(3, [(0, (2, 0, 0, [12])), (1, (2, 0, 0, [48])), (2, (0, 0, 23, [])), (3, (0, 0, 8, [])), (4, (0, 0, 8, []))], [], (0, 0), [(0, 0, 99997), (1, 9, 8), (0, 0, 100000)], [(2, 3, -1000000000000, 23), (2, 4, -1000000000000, 23), (2, 7, -1000000000000, 0), (2, 8, -1000000000000, 23), (2, 9, -1000000000000, 23), (3, 2, -1000000000000, 8), (3, 4, -1000000000000, 8), (3, 7, -1000000000000, 8), (3, 8, -1000000000000, 0), (3, 9, -1000000000000, 8), (7, 2, -1000000000000, 0), (7, 3, -1000000000000, 23), (7, 4, -1000000000000, 23), (7, 8, -1000000000000, 23), (7, 9, -1000000000000, 23), (8, 2, -1000000000000, 8), (8, 3, -1000000000000, 0), (8, 4, -1000000000000, 8), (8, 7, -1000000000000, 8), (8, 9, -1000000000000, 8), (9, 3, -1000000000000, 0), (9, 8, -1000000000000, 0)], [], [(2, 0, 0, [12]), (2, 0, 0, [48]), (0, 0, 23, []), (0, 0, 8, []), (0, 0, 99999992, [])], 0, [], [(20, [5, 4, 9], [30, 0, 1, 1, 12, -1, 0, 0, -1, 0, 0]), (24, [0, 5], [])])]
def t_Ho_writeName_at_Grname_ct : ct_L := [(1, 447, e_Ho_writeByte)]
set_option maxRecDepth 100000 in
theorem c_Ho_writeName_at_Grname {l : Launch} {D : va_G} {kA : Nat → ClassId} (h_Ho_writeByte : ct_ok l D kA GG y_Ho_writeByte z_Ho_writeByte e_Ho_writeByte) : ct_ok l D kA GG y_Ho_writeName_at_Grname z_Ho_writeName_at_Grname e_Ho_writeName_at_Grname := chk_all_ok (FT := []) (PT := []) (CT := t_Ho_writeName_at_Grname_ct) (KT := []) (NT := []) (AN := n_Ho_writeName_at_Grname_an) (OT := [o_Ho_writeName_at_Grname_0, o_Ho_writeName_at_Grname_1, o_Ho_writeName_at_Grname_2, o_Ho_writeName_at_Grname_3]) 3 200 (List.forall_mem_cons.mpr ⟨oo_Ho_writeName_at_Grname_0, List.forall_mem_cons.mpr ⟨oo_Ho_writeName_at_Grname_1, List.forall_mem_cons.mpr ⟨oo_Ho_writeName_at_Grname_2, List.forall_mem_cons.mpr ⟨oo_Ho_writeName_at_Grname_3, List.forall_mem_nil _⟩⟩⟩⟩) (by decide +kernel) ⟨List.forall_mem_nil _, List.forall_mem_nil _, List.forall_mem_cons.mpr ⟨cl_virtual (y := y_Ho_writeByte) (ci := 12) rfl rfl ⟨_, _, rfl⟩ (by decide +kernel) h_Ho_writeByte wm_2345 wm_1 wm_2342 wm_2344 wv_12_0 ⟨by decide, by decide, by decide +kernel⟩ (by decide), List.forall_mem_nil _⟩, List.forall_mem_nil _, List.forall_mem_nil _, GG_pl⟩ (by decide +kernel)
def n_Dr_countUpward_an : List an_T := [(4, [(0, (2, 0, 0, [0])), (1, (1, -9223372036854775808, 9223372036854775807, [])), (3, (0, 0, 48, []))], [], (0, 0), [(0, 0, 99996), (1, 2, 48), (0, 0, 100000), (0, 0, 0), (0, 0, 0)], [], [], [], 0, [], []), (21, [(0, (2, 0, 0, [0])), (1, (1, -9223372036854775808, 9223372036854775807, [])), (3, (0, 0, 47, [])), (4, (0, 0, 1, [])), (5, (0, 0, 25, []))], [], (0, 0), [(0, 0, 99996), (1, 2, 48), (0, 0, 99979), (1, 4, 25), (0, 0, 100000)], [], [], [], 0, [], [])]
def t_Dr_countUpward_ct : ct_L := [(1, 134, e_Dr_pointY)]
set_option maxRecDepth 100000 in
theorem c_Dr_countUpward {l : Launch} {D : va_G} {kA : Nat → ClassId} (h_Dr_pointY : ct_ok l D kA GG y_Dr_pointY z_Dr_pointY e_Dr_pointY) : ct_ok l D kA GG y_Dr_countUpward z_Dr_countUpward e_Dr_countUpward := chk_all_ok (FT := [(22, 0, 4), (74, 0, 0), (151, 3, 1)]) (PT := []) (CT := t_Dr_countUpward_ct) (KT := []) (NT := []) (AN := n_Dr_countUpward_an) (OT := []) 5 460 (List.forall_mem_nil _) (by decide +kernel) ⟨List.forall_mem_cons.mpr ⟨gf_Dr_22, List.forall_mem_cons.mpr ⟨gf_Dr_74, List.forall_mem_cons.mpr ⟨gf_Dr_151, List.forall_mem_nil _⟩⟩⟩, List.forall_mem_nil _, List.forall_mem_cons.mpr ⟨cl_virtual (y := y_Dr_pointY) (ci := 0) rfl rfl ⟨_, _, rfl⟩ (by decide +kernel) h_Dr_pointY wm_1991 wm_8 wm_1988 wm_1989 wm_1990 ⟨by decide, by decide, by decide +kernel⟩ (by decide), List.forall_mem_nil _⟩, List.forall_mem_nil _, List.forall_mem_nil _, GG_pl⟩ (by decide +kernel)
def n_Dr_dropBends_an : List an_T := []
def t_Dr_dropBends_ct : ct_L := [(18, 78, e_jArr_fill1_v0)]
set_option maxRecDepth 100000 in
theorem c_Dr_dropBends {l : Launch} {D : va_G} {kA : Nat → ClassId} : ct_ok l D kA GG y_Dr_dropBends z_Dr_dropBends e_Dr_dropBends := chk_all_ok (FT := [(22, 0, 4)]) (PT := []) (CT := t_Dr_dropBends_ct) (KT := []) (NT := []) (AN := n_Dr_dropBends_an) (OT := []) 0 200 (List.forall_mem_nil _) (by decide +kernel) ⟨List.forall_mem_cons.mpr ⟨gf_Dr_22, List.forall_mem_nil _⟩, List.forall_mem_nil _, List.forall_mem_cons.mpr ⟨cl_static (y := y_jArr_fill1) c_jArr_fill1_v0 wm_55 wm_4 wm_798 wm_54 ⟨by decide, by decide, by decide +kernel⟩ (by decide), List.forall_mem_nil _⟩, List.forall_mem_nil _, List.forall_mem_nil _, GG_pl⟩ (by decide +kernel)
def n_Dr_scaledX_an : List an_T := []
def t_Dr_scaledX_ct : ct_L := [(63, 157, e_jMath_max1_v1)]
set_option maxRecDepth 100000 in
theorem c_Dr_scaledX {l : Launch} {D : va_G} {kA : Nat → ClassId} : ct_ok l D kA GG y_Dr_scaledX z_Dr_scaledX e_Dr_scaledX := chk_all_ok (FT := [(62, 0, 17), (68, 0, 19)]) (PT := []) (CT := t_Dr_scaledX_ct) (KT := []) (NT := []) (AN := n_Dr_scaledX_an) (OT := []) 0 200 (List.forall_mem_nil _) (by decide +kernel) ⟨List.forall_mem_cons.mpr ⟨gf_Dr_62, List.forall_mem_cons.mpr ⟨gf_Dr_68, List.forall_mem_nil _⟩⟩, List.forall_mem_nil _, List.forall_mem_cons.mpr ⟨cl_static (y := y_jMath_max1) c_jMath_max1_v1 wm_836 wm_10 wm_2025 wm_835 ⟨by decide, by decide, by decide +kernel⟩ (by decide), List.forall_mem_nil _⟩, List.forall_mem_nil _, List.forall_mem_nil _, GG_pl⟩ (by decide +kernel)
def n_Dr_scaledY_an : List an_T := []
def t_Dr_scaledY_ct : ct_L := [(63, 157, e_jMath_max1_v1)]
set_option maxRecDepth 100000 in
theorem c_Dr_scaledY {l : Launch} {D : va_G} {kA : Nat → ClassId} : ct_ok l D kA GG y_Dr_scaledY z_Dr_scaledY e_Dr_scaledY := chk_all_ok (FT := [(65, 0, 18), (71, 0, 20)]) (PT := []) (CT := t_Dr_scaledY_ct) (KT := []) (NT := []) (AN := n_Dr_scaledY_an) (OT := []) 0 200 (List.forall_mem_nil _) (by decide +kernel) ⟨List.forall_mem_cons.mpr ⟨gf_Dr_65, List.forall_mem_cons.mpr ⟨gf_Dr_71, List.forall_mem_nil _⟩⟩, List.forall_mem_nil _, List.forall_mem_cons.mpr ⟨cl_static (y := y_jMath_max1) c_jMath_max1_v1 wm_836 wm_10 wm_2025 wm_835 ⟨by decide, by decide, by decide +kernel⟩ (by decide), List.forall_mem_nil _⟩, List.forall_mem_nil _, List.forall_mem_nil _, GG_pl⟩ (by decide +kernel)
def n_Dr_wipe_an : List an_T := []
def t_Dr_wipe_ct : ct_L := [(33, 78, e_jArr_fill1_v2)]
set_option maxRecDepth 100000 in
theorem c_Dr_wipe {l : Launch} {D : va_G} {kA : Nat → ClassId} : ct_ok l D kA GG y_Dr_wipe z_Dr_wipe e_Dr_wipe := chk_all_ok (FT := [(53, 0, 14)]) (PT := [(9, 0, 1, .int)]) (CT := t_Dr_wipe_ct) (KT := []) (NT := []) (AN := n_Dr_wipe_an) (OT := []) 0 200 (List.forall_mem_nil _) (by decide +kernel) ⟨List.forall_mem_cons.mpr ⟨gf_Dr_53, List.forall_mem_nil _⟩, List.forall_mem_cons.mpr ⟨pf_Dr_9, List.forall_mem_nil _⟩, List.forall_mem_cons.mpr ⟨cl_static (y := y_jArr_fill1) c_jArr_fill1_v2 wm_55 wm_4 wm_798 wm_54 ⟨by decide, by decide, by decide +kernel⟩ (by decide), List.forall_mem_nil _⟩, List.forall_mem_nil _, List.forall_mem_nil _, GG_pl⟩ (by decide +kernel)
def n_Em_drawWay_an : List an_T := [(2, [(0, (2, 0, 0, [1])), (1, (0, 0, 26, []))], [], (0, 0), [(0, 0, 99998), (1, 1, 26), (0, 0, 100000)], [], [((0, 0), (2, 0, 0, [5, 149]))], [], 0, [], [])]
def t_Em_drawWay_ct : ct_L := [(1, 176, e_Ne_edgeBetween)]
set_option maxRecDepth 100000 in
theorem c_Em_drawWay {l : Launch} {D : va_G} {kA : Nat → ClassId} (h_Ne_edgeBetween : ct_ok l D kA GG y_Ne_edgeBetween z_Ne_edgeBetween e_Ne_edgeBetween) : ct_ok l D kA GG y_Em_drawWay z_Em_drawWay e_Em_drawWay := chk_all_ok (FT := [(9, 1, 0), (25, 1, 3), (60, 1, 14), (63, 1, 15)]) (PT := []) (CT := t_Em_drawWay_ct) (KT := []) (NT := []) (AN := n_Em_drawWay_an) (OT := []) 3 200 (List.forall_mem_nil _) (by decide +kernel) ⟨List.forall_mem_cons.mpr ⟨gf_Em_9, List.forall_mem_cons.mpr ⟨gf_Em_25, List.forall_mem_cons.mpr ⟨gf_Em_60, List.forall_mem_cons.mpr ⟨gf_Em_63, List.forall_mem_nil _⟩⟩⟩⟩, List.forall_mem_nil _, List.forall_mem_cons.mpr ⟨cl_virtual (y := y_Ne_edgeBetween) (ci := 5) rfl rfl ⟨_, _, rfl⟩ (by decide +kernel) h_Ne_edgeBetween wm_1089 wm_6 wm_1086 wm_1087 wm_1088 ⟨by decide, by decide, by decide +kernel⟩ (by decide), List.forall_mem_nil _⟩, List.forall_mem_nil _, List.forall_mem_nil _, GG_pl⟩ (by decide +kernel)
def n_Fa_learnBlocksAt_an : List an_T := [(5, [(0, (2, 0, 0, [2])), (1, (2, 0, 0, [3])), (2, (0, 0, 48, []))], [], (0, 0), [(0, 0, 99995), (1, 2, 48), (0, 0, 100000), (0, 0, 0), (0, 0, 0)], [], [], [], 0, [], []), (26, [(0, (2, 0, 0, [2])), (1, (2, 0, 0, [3])), (2, (0, 0, 24, []))], [], (0, 0), [(0, 0, 99974), (1, 2, 24), (0, 0, 100000), (0, 0, 0), (0, 0, 0)], [], [], [], 0, [], []), (39, [(0, (2, 0, 0, [2])), (1, (2, 0, 0, [3])), (2, (0, 0, 23, [])), (3, (1, -9223372036854775808, 9223372036854775807, [])), (5, (0, 0, 48, []))], [], (0, 0), [(0, 0, 99974), (1, 2, 24), (0, 0, 99961), (1, 4, 48), (0, 0, 100000)], [], [], [], 0, [], [])]
def t_Fa_learnBlocksAt_ct : ct_L := [(285, 134, e_jLong_bitCount_v3), (285, 134, e_jLong_bitCount_v4)]
set_option maxRecDepth 100000 in
theorem c_Fa_learnBlocksAt {l : Launch} {D : va_G} {kA : Nat → ClassId} : ct_ok l D kA GG y_Fa_learnBlocksAt z_Fa_learnBlocksAt e_Fa_learnBlocksAt := chk_all_ok (FT := [(29, 2, 5), (38, 2, 8), (64, 3, 0), (69, 3, 1), (72, 3, 7), (75, 3, 8)]) (PT := []) (CT := t_Fa_learnBlocksAt_ct) (KT := []) (NT := []) (AN := n_Fa_learnBlocksAt_an) (OT := []) 5 288 (List.forall_mem_nil _) (by decide +kernel) ⟨List.forall_mem_cons.mpr ⟨gf_Fa_29, List.forall_mem_cons.mpr ⟨gf_Fa_38, List.forall_mem_cons.mpr ⟨gf_Fa_64, List.forall_mem_cons.mpr ⟨gf_Fa_69, List.forall_mem_cons.mpr ⟨gf_Fa_72, List.forall_mem_cons.mpr ⟨gf_Fa_75, List.forall_mem_nil _⟩⟩⟩⟩⟩⟩, List.forall_mem_nil _, List.forall_mem_cons.mpr ⟨cl_static (y := y_jLong_bitCount) c_jLong_bitCount_v3 wm_847 wm_16 wm_845 wm_846 ⟨by decide, by decide, by decide +kernel⟩ (by decide), List.forall_mem_cons.mpr ⟨cl_static (y := y_jLong_bitCount) c_jLong_bitCount_v4 wm_847 wm_16 wm_845 wm_846 ⟨by decide, by decide, by decide +kernel⟩ (by decide), List.forall_mem_nil _⟩⟩, List.forall_mem_nil _, List.forall_mem_nil _, GG_pl⟩ (by decide +kernel)
def n_Fa_lowest_an : List an_T := []
def t_Fa_lowest_ct : ct_L := [(21, 101, e_jInt_bitCount_v5)]
set_option maxRecDepth 100000 in
theorem c_Fa_lowest {l : Launch} {D : va_G} {kA : Nat → ClassId} : ct_ok l D kA GG y_Fa_lowest z_Fa_lowest e_Fa_lowest := chk_all_ok (FT := []) (PT := []) (CT := t_Fa_lowest_ct) (KT := []) (NT := []) (AN := n_Fa_lowest_an) (OT := []) 0 200 (List.forall_mem_nil _) (by decide +kernel) ⟨List.forall_mem_nil _, List.forall_mem_nil _, List.forall_mem_cons.mpr ⟨cl_static (y := y_jInt_bitCount) c_jInt_bitCount_v5 wm_870 wm_17 wm_868 wm_869 ⟨by decide, by decide, by decide +kernel⟩ (by decide), List.forall_mem_nil _⟩, List.forall_mem_nil _, List.forall_mem_nil _, GG_pl⟩ (by decide +kernel)
def n_Fa_numberStrong_an : List an_T := [(2, [(0, (2, 0, 0, [2])), (1, (0, 0, 24, [])), (2, (2, 0, 0, [39, 44])), (3, (0, 0, 24, []))], [], (0, 0), [(0, 0, 99998), (1, 3, 24), (0, 0, 100000), (0, 0, 0), (0, 0, 0)], [(1, 3, -1000000000000, 24), (3, 1, -1000000000000, 0)], [], [], 0, [], []), (10, [(0, (2, 0, 0, [2])), (1, (0, 1, 24, [])), (2, (2, 0, 0, [39, 44])), (3, (0, 0, 23, [])), (4, (0, 0, 24, []))], [], (0, 0), [(0, 0, 99998), (1, 3, 24), (0, 0, 99990), (1, 4, 24), (0, 0, 100000)], [(1, 3, -1000000000000, 24), (1, 4, -1000000000000, 24), (3, 1, -1000000000000, -1), (4, 1, -1000000000000, 0)], [], [], 0, [], []), (68, [(0, (2, 0, 0, [2])), (1, (0, 0, 24, [])), (2, (2, 0, 0, [39, 44])), (3, (0, 0, 24, [])), (4, (0, 0, 24, []))], [], (0, 0), [(0, 0, 99932), (1, 4, 24), (0, 0, 100000), (0, 0, 0), (0, 0, 0)], [(3, 1, -1000000000000, 0), (3, 4, -1000000000000, 0), (4, 1, -1000000000000, 0)], [], [], 0, [], []), (93, [(0, (2, 0, 0, [2])), (1, (0, 1, 24, [])), (2, (2, 0, 0, [39, 44])), (3, (0, 0, 23, [])), (4, (0, 0, 23, [])), (5, (0, 1, 24, []))], [], (0, 0), [(0, 0, 99932), (1, 4, 24), (0, 0, 99907), (1, 5, 24), (0, 0, 100000)], [(3, 1, -1000000000000, -1), (3, 4, -1000000000000, 0), (3, 5, -1000000000000, -1), (4, 1, -1000000000000, -1), (4, 5, -1000000000000, -1), (5, 1, -1000000000000, 0)], [], [], 0, [], [])]
def t_Fa_numberStrong_ct : ct_L := [(189, 139, e_jArr_fill1_v6)]
set_option maxRecDepth 100000 in
theorem c_Fa_numberStrong {l : Launch} {D : va_G} {kA : Nat → ClassId} : ct_ok l D kA GG y_Fa_numberStrong z_Fa_numberStrong e_Fa_numberStrong := chk_all_ok (FT := [(45, 2, 10)]) (PT := []) (CT := t_Fa_numberStrong_ct) (KT := []) (NT := []) (AN := n_Fa_numberStrong_an) (OT := []) 5 388 (List.forall_mem_nil _) (by decide +kernel) ⟨List.forall_mem_cons.mpr ⟨gf_Fa_45, List.forall_mem_nil _⟩, List.forall_mem_nil _, List.forall_mem_cons.mpr ⟨cl_static (y := y_jArr_fill1) c_jArr_fill1_v6 wm_55 wm_4 wm_855 wm_54 ⟨by decide, by decide, by decide +kernel⟩ (by decide), List.forall_mem_nil _⟩, List.forall_mem_nil _, List.forall_mem_nil _, GG_pl⟩ (by decide +kernel)
def n_Fa_peel_an : List an_T := [(6, [(0, (2, 0, 0, [2])), (1, (2, 0, 0, [3])), (2, (0, 0, 16777215, [])), (3, (0, 0, 23, [])), (4, (0, 0, 16777215, [])), (5, (0, 0, 24, []))], [], (0, 0), [(0, 0, 99994), (1, 5, 24), (0, 0, 100000)], [], [], [], 0, [], [])]
def t_Fa_peel_ct : ct_L := [(108, 101, e_jInt_bitCount_v7)]
set_option maxRecDepth 100000 in
theorem c_Fa_peel {l : Launch} {D : va_G} {kA : Nat → ClassId} : ct_ok l D kA GG y_Fa_peel z_Fa_peel e_Fa_peel := chk_all_ok (FT := [(35, 2, 7), (64, 3, 0), (78, 3, 14)]) (PT := []) (CT := t_Fa_peel_ct) (KT := []) (NT := []) (AN := n_Fa_peel_an) (OT := []) 3 200 (List.forall_mem_nil _) (by decide +kernel) ⟨List.forall_mem_cons.mpr ⟨gf_Fa_35, List.forall_mem_cons.mpr ⟨gf_Fa_64, List.forall_mem_cons.mpr ⟨gf_Fa_78, List.forall_mem_nil _⟩⟩⟩, List.forall_mem_nil _, List.forall_mem_cons.mpr ⟨cl_static (y := y_jInt_bitCount) c_jInt_bitCount_v7 wm_870 wm_17 wm_868 wm_869 ⟨by decide, by decide, by decide +kernel⟩ (by decide), List.forall_mem_nil _⟩, List.forall_mem_nil _, List.forall_mem_nil _, GG_pl⟩ (by decide +kernel)
def n_Fa_pickLast_an : List an_T := [(5, [(0, (2, 0, 0, [2])), (1, (2, 0, 0, [3])), (2, (0, 0, 16777215, [])), (3, (0, 8, 24, [])), (4, (0, -1, 23, []))], [], (0, 0), [(0, 0, 99995), (2, 4, -1), (0, 0, 100000)], [], [], [], 0, [], [])]
def t_Fa_pickLast_ct : ct_L := [(0, 186, e_Fa_weights)]
set_option maxRecDepth 100000 in
theorem c_Fa_pickLast {l : Launch} {D : va_G} {kA : Nat → ClassId} (h_Fa_weights : ct_ok l D kA GG y_Fa_weights z_Fa_weights e_Fa_weights) : ct_ok l D kA GG y_Fa_pickLast z_Fa_pickLast e_Fa_pickLast := chk_all_ok (FT := [(54, 2, 13)]) (PT := []) (CT := t_Fa_pickLast_ct) (KT := []) (NT := []) (AN := n_Fa_pickLast_an) (OT := []) 3 200 (List.forall_mem_nil _) (by decide +kernel) ⟨List.forall_mem_cons.mpr ⟨gf_Fa_54, List.forall_mem_nil _⟩, List.forall_mem_nil _, List.forall_mem_cons.mpr ⟨cl_static (y := y_Fa_weights) h_Fa_weights wm_892 wm_7 wm_890 wm_891 ⟨by decide, by decide, by decide +kernel⟩ (by decide), List.forall_mem_nil _⟩, List.forall_mem_nil _, List.forall_mem_nil _, GG_pl⟩ (by decide +kernel)
def n_Fa_spread_at_Grnear_an : List an_T := [(12, [(0, (2, 0, 0, [59])), (1, (0, 1, 24, [])), (2, (0, 1, 8388608, [])), (3, (0, -1, 16777215, [])), (4, (0, 0, 16777215, [])), (5, (0, 0, 16777215, [])), (6, (0, 0, 24, []))], [], (0, 0), [(0, 0, 99988), (1, 6, 24), (0, 0, 100000)], [], [], [], 0, [], [])]
def t_Fa_spread_at_Grnear_ct : ct_L := [(84, 97, e_Fa_nearOf_at_Grnear)]
set_option maxRecDepth 100000 in
theorem c_Fa_spread_at_Grnear {l : Launch} {D : va_G} {kA : Nat → ClassId} (h_Fa_nearOf_at_Grnear : ct_ok l D kA GG y_Fa_nearOf_at_Grnear z_Fa_nearOf_at_Grnear e_Fa_nearOf_at_Grnear) : ct_ok l D kA GG y_Fa_spread_at_Grnear z_Fa_spread_at_Grnear e_Fa_spread_at_Grnear := chk_all_ok (FT := []) (PT := []) (CT := t_Fa_spread_at_Grnear_ct) (KT := []) (NT := []) (AN := n_Fa_spread_at_Grnear_an) (OT := []) 3 200 (List.forall_mem_nil _) (by decide +kernel) ⟨List.forall_mem_nil _, List.forall_mem_nil _, List.forall_mem_cons.mpr ⟨cl_static (y := y_Fa_nearOf_at_Grnear) h_Fa_nearOf_at_Grnear wm_824 wm_7 wm_822 wm_823 ⟨by decide, by decide, by decide +kernel⟩ (by decide), List.forall_mem_nil _⟩, List.forall_mem_nil _, List.forall_mem_nil _, GG_pl⟩ (by decide +kernel)
