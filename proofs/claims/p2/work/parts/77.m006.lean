def n_Mo_between_an : List an_T := [(2, [(0, (2, 0, 0, [150])), (1, (0, 0, 75, [])), (2, (0, 0, 75, [])), (3, (0, 0, 48, []))], [], (0, 0), [(0, 0, 99998), (1, 3, 48), (0, 0, 100000)], [], [], [], 0, [], [])]
def t_Mo_between_ct : ct_L := [(1, 401, e_Mo_edges), (1, 405, e_Mo_has)]
set_option maxRecDepth 100000 in
theorem c_Mo_between {l : Launch} {D : va_G} {kA : Nat → ClassId} (h_Mo_edges : ct_ok l D kA GG y_Mo_edges z_Mo_edges e_Mo_edges) (h_Mo_has : ct_ok l D kA GG y_Mo_has z_Mo_has e_Mo_has) : ct_ok l D kA GG y_Mo_between z_Mo_between e_Mo_between := chk_all_ok (FT := []) (PT := []) (CT := t_Mo_between_ct) (KT := []) (NT := []) (AN := n_Mo_between_an) (OT := []) 3 200 (List.forall_mem_nil _) (by decide +kernel) ⟨List.forall_mem_nil _, List.forall_mem_nil _, List.forall_mem_cons.mpr ⟨cl_virtual (y := y_Mo_edges) (ci := 13) rfl rfl ⟨_, _, rfl⟩ (by decide +kernel) h_Mo_edges wm_3037 wm_9 wm_3034 wm_3036 wv_13_6 ⟨by decide, by decide, by decide +kernel⟩ (by decide), List.forall_mem_cons.mpr ⟨cl_virtual (y := y_Mo_has) (ci := 13) rfl rfl ⟨_, _, rfl⟩ (by decide +kernel) h_Mo_has wm_3041 wm_9 wm_3038 wm_3040 wv_13_7 ⟨by decide, by decide, by decide +kernel⟩ (by decide), List.forall_mem_nil _⟩⟩, List.forall_mem_nil _, List.forall_mem_nil _, GG_pl⟩ (by decide +kernel)
def n_Mo_isDrawn_an : List an_T := []
def t_Mo_isDrawn_ct : ct_L := [(0, 521, e_Mo_isPlace), (1, 527, e_Mo_take)]
set_option maxRecDepth 100000 in
theorem c_Mo_isDrawn {l : Launch} {D : va_G} {kA : Nat → ClassId} (h_Mo_isPlace : ct_ok l D kA GG y_Mo_isPlace z_Mo_isPlace e_Mo_isPlace) (h_Mo_take : ct_ok l D kA GG y_Mo_take z_Mo_take e_Mo_take) : ct_ok l D kA GG y_Mo_isDrawn z_Mo_isDrawn e_Mo_isDrawn := chk_all_ok (FT := [(120, 13, 61)]) (PT := [(1020, 13, 139, .int)]) (CT := t_Mo_isDrawn_ct) (KT := []) (NT := []) (AN := n_Mo_isDrawn_an) (OT := []) 0 200 (List.forall_mem_nil _) (by decide +kernel) ⟨List.forall_mem_cons.mpr ⟨gf_Mo_120, List.forall_mem_nil _⟩, List.forall_mem_cons.mpr ⟨pf_Mo_1020, List.forall_mem_nil _⟩, List.forall_mem_cons.mpr ⟨cl_static (y := y_Mo_isPlace) h_Mo_isPlace wm_2978 wm_9 wm_2976 wm_2977 ⟨by decide, by decide, by decide +kernel⟩ (by decide), List.forall_mem_cons.mpr ⟨cl_virtual (y := y_Mo_take) (ci := 13) rfl rfl ⟨_, _, rfl⟩ (by decide +kernel) h_Mo_take wm_3091 wm_9 wm_3088 wm_3090 wv_14_2 ⟨by decide, by decide, by decide +kernel⟩ (by decide), List.forall_mem_nil _⟩⟩, List.forall_mem_nil _, List.forall_mem_nil _, GG_pl⟩ (by decide +kernel)
def n_Mo_isInBox_an : List an_T := []
def t_Mo_isInBox_ct : ct_L := [(0, 387, e_Mo_in), (1, 478, e_Mo_longOf), (1, 1023, e_Mo_px), (1, 1029, e_Mo_py)]
set_option maxRecDepth 100000 in
theorem c_Mo_isInBox {l : Launch} {D : va_G} {kA : Nat → ClassId} (h_Mo_in : ct_ok l D kA GG y_Mo_in z_Mo_in e_Mo_in) (h_Mo_longOf : ct_ok l D kA GG y_Mo_longOf z_Mo_longOf e_Mo_longOf) (h_Mo_px : ct_ok l D kA GG y_Mo_px z_Mo_px e_Mo_px) (h_Mo_py : ct_ok l D kA GG y_Mo_py z_Mo_py e_Mo_py) : ct_ok l D kA GG y_Mo_isInBox z_Mo_isInBox e_Mo_isInBox := chk_all_ok (FT := []) (PT := []) (CT := t_Mo_isInBox_ct) (KT := []) (NT := []) (AN := n_Mo_isInBox_an) (OT := []) 0 200 (List.forall_mem_nil _) (by decide +kernel) ⟨List.forall_mem_nil _, List.forall_mem_nil _, List.forall_mem_cons.mpr ⟨cl_static (y := y_Mo_in) h_Mo_in wm_2971 wm_9 wm_2969 wm_2970 ⟨by decide, by decide, by decide +kernel⟩ (by decide), List.forall_mem_cons.mpr ⟨cl_virtual (y := y_Mo_longOf) (ci := 13) rfl rfl ⟨_, _, rfl⟩ (by decide +kernel) h_Mo_longOf wm_3029 wm_9 wm_3026 wm_3028 wv_13_4 ⟨by decide, by decide, by decide +kernel⟩ (by decide), List.forall_mem_cons.mpr ⟨cl_virtual (y := y_Mo_px) (ci := 13) rfl rfl ⟨_, _, rfl⟩ (by decide +kernel) h_Mo_px wm_3675 wm_9 wm_3672 wm_3674 wv_21_14 ⟨by decide, by decide, by decide +kernel⟩ (by decide), List.forall_mem_cons.mpr ⟨cl_virtual (y := y_Mo_py) (ci := 13) rfl rfl ⟨_, _, rfl⟩ (by decide +kernel) h_Mo_py wm_3679 wm_9 wm_3676 wm_3678 wv_21_15 ⟨by decide, by decide, by decide +kernel⟩ (by decide), List.forall_mem_nil _⟩⟩⟩⟩, List.forall_mem_nil _, List.forall_mem_nil _, GG_pl⟩ (by decide +kernel)
def n_Mo_neighbours_an : List an_T := [(4, [(0, (2, 0, 0, [150])), (1, (0, 0, 23, [])), (2, (0, -2147483648, 2147483647, [])), (3, (0, 0, 48, []))], [], (0, 0), [(0, 0, 99996), (1, 3, 48), (0, 0, 100000)], [], [], [], 0, [], [])]
def t_Mo_neighbours_ct : ct_L := [(1, 401, e_Mo_edges), (1, 405, e_Mo_has)]
set_option maxRecDepth 100000 in
theorem c_Mo_neighbours {l : Launch} {D : va_G} {kA : Nat → ClassId} (h_Mo_edges : ct_ok l D kA GG y_Mo_edges z_Mo_edges e_Mo_edges) (h_Mo_has : ct_ok l D kA GG y_Mo_has z_Mo_has e_Mo_has) : ct_ok l D kA GG y_Mo_neighbours z_Mo_neighbours e_Mo_neighbours := chk_all_ok (FT := []) (PT := []) (CT := t_Mo_neighbours_ct) (KT := []) (NT := []) (AN := n_Mo_neighbours_an) (OT := []) 3 200 (List.forall_mem_nil _) (by decide +kernel) ⟨List.forall_mem_nil _, List.forall_mem_nil _, List.forall_mem_cons.mpr ⟨cl_virtual (y := y_Mo_edges) (ci := 13) rfl rfl ⟨_, _, rfl⟩ (by decide +kernel) h_Mo_edges wm_3037 wm_9 wm_3034 wm_3036 wv_13_6 ⟨by decide, by decide, by decide +kernel⟩ (by decide), List.forall_mem_cons.mpr ⟨cl_virtual (y := y_Mo_has) (ci := 13) rfl rfl ⟨_, _, rfl⟩ (by decide +kernel) h_Mo_has wm_3041 wm_9 wm_3038 wm_3040 wv_13_7 ⟨by decide, by decide, by decide +kernel⟩ (by decide), List.forall_mem_nil _⟩⟩, List.forall_mem_nil _, List.forall_mem_nil _, GG_pl⟩ (by decide +kernel)
def o_Mo_plane_0 : or_T := (18, 4, [(0, (2, 0, 0, [150])), (1, (0, 0, 24, [])), (2, (0, 0, 48, []))], [(20, [2, 0], [30, 0, 1, 0, 0, -1, 3, 2005001]), (20, [2, 0], [30, 0, -1, 0, 0, 1, 3, 2005001]), (20, [1, 0], [30, 0, 1, 0, 0, -1, 3, 2005000]), (20, [1, 0], [30, 0, -1, 0, 0, 1, 3, 2005000]), (101, [0, 2], [32]), (20, [2, 0], [30, 0, 1, 0, 0, -1, 3, 2005001]), (20, [2, 0], [30, 0, -1, 0, 0, 1, 3, 2005001]), (20, [1, 0], [30, 0, 1, 0, 0, -1, 3, 2005000]), (20, [1, 0], [30, 0, -1, 0, 0, 1, 3, 2005000]), (101, [0, 1], [31]), (20, [1, 0], [30, 0, 1, 0, 0, -1, 3, 2005000]), (20, [1, 0], [30, 0, -1, 0, 0, 1, 3, 2005000])], [], [], [(20, [0], [30, 48, 1, 1, 32]), (20, [0], [30, 24, 1, 1, 31]), (24, [0, 0], [])], [], [])
theorem oo_Mo_plane_0 {kA : Nat → ClassId} : or_ok kA GG o_Mo_plane_0 := by
  intro A ta ws vs hD hth hl hk hds hf
  have hl : vs.length = 4 := hl
  have hk : ∀ q ∈ ([(0, (2, 0, 0, [150])), (1, (0, 0, 24, [])), (2, (0, 0, 48, []))] : List (Nat × tv_T)), tv_ok ta q.2 (n_v vs q.1) := hk
  obtain ⟨t0, hk⟩ := List.forall_mem_cons.mp hk
  have t0 : tv_ok ta (2, 0, 0, [150]) (n_v vs 0) := t0
  have r0 : ta (v_ad (n_v vs 0)) = some 150 := tv_rg t0
  obtain ⟨t1, hk⟩ := List.forall_mem_cons.mp hk
  have t1 : tv_ok ta (0, 0, 24, []) (n_v vs 1) := t1
  have k1 : 0 ≤ v_iv (n_v vs 1) ∧ v_iv (n_v vs 1) ≤ 24 := tv_rng t1
  obtain ⟨t2, hk⟩ := List.forall_mem_cons.mp hk
  have t2 : tv_ok ta (0, 0, 48, []) (n_v vs 2) := t2
  have k2 : 0 ≤ v_iv (n_v vs 2) ∧ v_iv (n_v vs 2) ≤ 48 := tv_rng t2
  have hf : fc_ok [(20, [2, 0], [30, 0, 1, 0, 0, -1, 3, 2005001]), (20, [2, 0], [30, 0, -1, 0, 0, 1, 3, 2005001]), (20, [1, 0], [30, 0, 1, 0, 0, -1, 3, 2005000]), (20, [1, 0], [30, 0, -1, 0, 0, 1, 3, 2005000]), (101, [0, 2], [32]), (20, [2, 0], [30, 0, 1, 0, 0, -1, 3, 2005001]), (20, [2, 0], [30, 0, -1, 0, 0, 1, 3, 2005001]), (20, [1, 0], [30, 0, 1, 0, 0, -1, 3, 2005000]), (20, [1, 0], [30, 0, -1, 0, 0, 1, 3, 2005000]), (101, [0, 1], [31]), (20, [1, 0], [30, 0, 1, 0, 0, -1, 3, 2005000]), (20, [1, 0], [30, 0, -1, 0, 0, 1, 3, 2005000])] ta ws vs := hf
  obtain ⟨f0, hf⟩ := fc_un (show (20 : Nat) < 100 from by decide) hf
  have f0 : 1 * v_iv (n_v vs 2) + ((-1) * w_el ws (w_ar ws (n_v vs 0) 2) (w_fi ws (n_v vs 0) 5 + 1).toNat + 0) ≤ 0 := f0
  obtain ⟨f1, hf⟩ := fc_un (show (20 : Nat) < 100 from by decide) hf
  have f1 : (-1) * v_iv (n_v vs 2) + (1 * w_el ws (w_ar ws (n_v vs 0) 2) (w_fi ws (n_v vs 0) 5 + 1).toNat + 0) ≤ 0 := f1
  obtain ⟨f2, hf⟩ := fc_un (show (20 : Nat) < 100 from by decide) hf
  have f2 : 1 * v_iv (n_v vs 1) + ((-1) * w_el ws (w_ar ws (n_v vs 0) 2) (w_fi ws (n_v vs 0) 5 + 0).toNat + 0) ≤ 0 := f2
  obtain ⟨f3, hf⟩ := fc_un (show (20 : Nat) < 100 from by decide) hf
  have f3 : (-1) * v_iv (n_v vs 1) + (1 * w_el ws (w_ar ws (n_v vs 0) 2) (w_fi ws (n_v vs 0) 5 + 0).toNat + 0) ≤ 0 := f3
  obtain ⟨ta1, w1, le1, ⟨_, s1⟩, hf⟩ := fc_us (show ¬ (101 : Nat) < 100 from by decide) hf
  have s1 : (∀ b j, w_el ws b j = w_el w1 b j) ∧ ∀ b j, w_fd ws b j = if b = v_ad (n_v vs 0) ∧ j = 32 then n_v vs 2 else w_fd w1 b j := s1
  obtain ⟨f5, hf⟩ := fc_un (show (20 : Nat) < 100 from by decide) hf
  have f5 : 1 * v_iv (n_v vs 2) + ((-1) * w_el w1 (w_ar w1 (n_v vs 0) 2) (w_fi w1 (n_v vs 0) 5 + 1).toNat + 0) ≤ 0 := f5
  obtain ⟨f6, hf⟩ := fc_un (show (20 : Nat) < 100 from by decide) hf
  have f6 : (-1) * v_iv (n_v vs 2) + (1 * w_el w1 (w_ar w1 (n_v vs 0) 2) (w_fi w1 (n_v vs 0) 5 + 1).toNat + 0) ≤ 0 := f6
  obtain ⟨f7, hf⟩ := fc_un (show (20 : Nat) < 100 from by decide) hf
  have f7 : 1 * v_iv (n_v vs 1) + ((-1) * w_el w1 (w_ar w1 (n_v vs 0) 2) (w_fi w1 (n_v vs 0) 5 + 0).toNat + 0) ≤ 0 := f7
  obtain ⟨f8, hf⟩ := fc_un (show (20 : Nat) < 100 from by decide) hf
  have f8 : (-1) * v_iv (n_v vs 1) + (1 * w_el w1 (w_ar w1 (n_v vs 0) 2) (w_fi w1 (n_v vs 0) 5 + 0).toNat + 0) ≤ 0 := f8
  obtain ⟨ta2, w2, le2, ⟨_, s2⟩, hf⟩ := fc_us (show ¬ (101 : Nat) < 100 from by decide) hf
  have s2 : (∀ b j, w_el w1 b j = w_el w2 b j) ∧ ∀ b j, w_fd w1 b j = if b = v_ad (n_v vs 0) ∧ j = 31 then n_v vs 1 else w_fd w2 b j := s2
  obtain ⟨f10, hf⟩ := fc_un (show (20 : Nat) < 100 from by decide) hf
  have f10 : 1 * v_iv (n_v vs 1) + ((-1) * w_el w2 (w_ar w2 (n_v vs 0) 2) (w_fi w2 (n_v vs 0) 5 + 0).toNat + 0) ≤ 0 := f10
  obtain ⟨f11, hf⟩ := fc_un (show (20 : Nat) < 100 from by decide) hf
  have f11 : (-1) * v_iv (n_v vs 1) + (1 * w_el w2 (w_ar w2 (n_v vs 0) 2) (w_fi w2 (n_v vs 0) 5 + 0).toNat + 0) ≤ 0 := f11
  have ar_0_2_1 : w_ar w1 (n_v vs 0) 2 = w_ar ws (n_v vs 0) 2 := by show v_ad (w_fd w1 _ _) = v_ad (w_fd ws _ _); rw [s1.2, if_neg (fun e => absurd e.2 (by decide))]
  have ar_0_2_2 : w_ar w2 (n_v vs 0) 2 = w_ar ws (n_v vs 0) 2 := by rw [← ar_0_2_1]; show v_ad (w_fd w2 _ _) = v_ad (w_fd w1 _ _); rw [s2.2, if_neg (fun e => absurd e.2 (by decide))]
  have cr_0_2 : ta (w_ar ws (n_v vs 0) 2) = some 152 := tv_rg (th_fd hD hth r0 (g := GG_150) rfl (k := 2) (t := (2, 0, 0, [152])) rfl rfl)
  have fi_0_5_1 : w_fi w1 (n_v vs 0) 5 = w_fi ws (n_v vs 0) 5 := by show v_iv (w_fd w1 _ _) = v_iv (w_fd ws _ _); rw [s1.2, if_neg (fun e => absurd e.2 (by decide))]
  have fi_0_5_2 : w_fi w2 (n_v vs 0) 5 = w_fi ws (n_v vs 0) 5 := by rw [← fi_0_5_1]; show v_iv (w_fd w2 _ _) = v_iv (w_fd w1 _ _); rw [s2.2, if_neg (fun e => absurd e.2 (by decide))]
  rw [ar_0_2_1] at f5
  rw [fi_0_5_1] at f5
  rw [ar_0_2_1] at f6
  rw [fi_0_5_1] at f6
  rw [ar_0_2_1] at f7
  rw [fi_0_5_1] at f7
  rw [ar_0_2_1] at f8
  rw [fi_0_5_1] at f8
  rw [ar_0_2_2] at f10
  rw [fi_0_5_2] at f10
  rw [ar_0_2_2] at f11
  rw [fi_0_5_2] at f11
  have fe_0_5_1 : w_fi ws (n_v vs 0) 5 = w_fi w1 (n_v vs 0) 5 := by show v_iv (w_fd _ _ _) = v_iv (w_fd _ _ _); rw [s1.2, if_neg (fun e => absurd e.2 (by decide))]
  have fe_0_31_1 : w_fi ws (n_v vs 0) 31 = w_fi w1 (n_v vs 0) 31 := by show v_iv (w_fd _ _ _) = v_iv (w_fd _ _ _); rw [s1.2, if_neg (fun e => absurd e.2 (by decide))]
  have fe_0_32_1 : w_fi ws (n_v vs 0) 32 = v_iv (n_v vs 2) := by show v_iv (w_fd _ _ _) = _; rw [s1.2, if_pos ⟨rfl, rfl⟩]
  have ee_0_2_F5_0_1 : w_el ws (w_ar ws (n_v vs 0) 2) (w_fi ws (n_v vs 0) 5 + 0).toNat = w_el w1 (w_ar ws (n_v vs 0) 2) (w_fi ws (n_v vs 0) 5 + 0).toNat := s1.1 _ _
  have ee_0_2_F5_1_1 : w_el ws (w_ar ws (n_v vs 0) 2) (w_fi ws (n_v vs 0) 5 + 1).toNat = w_el w1 (w_ar ws (n_v vs 0) 2) (w_fi ws (n_v vs 0) 5 + 1).toNat := s1.1 _ _
  have fe_0_5_2 : w_fi w1 (n_v vs 0) 5 = w_fi w2 (n_v vs 0) 5 := by show v_iv (w_fd _ _ _) = v_iv (w_fd _ _ _); rw [s2.2, if_neg (fun e => absurd e.2 (by decide))]
  have fe_0_31_2 : w_fi w1 (n_v vs 0) 31 = v_iv (n_v vs 1) := by show v_iv (w_fd _ _ _) = _; rw [s2.2, if_pos ⟨rfl, rfl⟩]
  have fe_0_32_2 : w_fi w1 (n_v vs 0) 32 = w_fi w2 (n_v vs 0) 32 := by show v_iv (w_fd _ _ _) = v_iv (w_fd _ _ _); rw [s2.2, if_neg (fun e => absurd e.2 (by decide))]
  have ee_0_2_F5_0_2 : w_el w1 (w_ar ws (n_v vs 0) 2) (w_fi ws (n_v vs 0) 5 + 0).toNat = w_el w2 (w_ar ws (n_v vs 0) 2) (w_fi ws (n_v vs 0) 5 + 0).toNat := s2.1 _ _
  have ee_0_2_F5_1_2 : w_el w1 (w_ar ws (n_v vs 0) 2) (w_fi ws (n_v vs 0) 5 + 1).toNat = w_el w2 (w_ar ws (n_v vs 0) 2) (w_fi ws (n_v vs 0) 5 + 1).toNat := s2.1 _ _
  have kz_0_31 : 0 ≤ w_fi ws (n_v vs 0) 31 ∧ w_fi ws (n_v vs 0) 31 ≤ 25 := tv_rng (th_fd hD hth r0 (g := GG_150) rfl (k := 31) (t := (0, 0, 25, [])) rfl rfl)
  have kz_0_32 : 0 ≤ w_fi ws (n_v vs 0) 32 ∧ w_fi ws (n_v vs 0) 32 ≤ 80 := tv_rng (th_fd hD hth r0 (g := GG_150) rfl (k := 32) (t := (0, 0, 80, [])) rfl rfl)
  have nf0 : fc_1 (20, [0], [30, 48, 1, 1, 32]) ws (vs) := by
    refine ⟨fun n hn => ?_, ?_⟩
    · have hn : n ∈ [0] := hn
      rw [hl]
      simp only [List.mem_cons, List.not_mem_nil, or_false] at hn
      show n < 4; omega
    · show 1 * w_fi ws (n_v vs 0) 32 + 0 ≤ 48
      omega
  have nf1 : fc_1 (20, [0], [30, 24, 1, 1, 31]) ws (vs) := by
    refine ⟨fun n hn => ?_, ?_⟩
    · have hn : n ∈ [0] := hn
      rw [hl]
      simp only [List.mem_cons, List.not_mem_nil, or_false] at hn
      show n < 4; omega
    · show 1 * w_fi ws (n_v vs 0) 31 + 0 ≤ 24
      omega
  have nf2 : fc_1 (24, [0, 0], []) ws (vs) := by
    refine ⟨fun n hn => ?_, ?_⟩
    · have hn : n ∈ [0, 0] := hn
      rw [hl]
      simp only [List.mem_cons, List.not_mem_nil, or_false] at hn
      show n < 4; omega
    · show n_v vs 0 = n_v vs 0
      first | rfl | simp only [true_and]
  refine ⟨(fun _ h => (by cases h)), [], trivial, ?_, (fun _ h => (by cases h))⟩
  rw [List.append_nil]
  exact List.forall_mem_cons.mpr ⟨⟨show (20 : Nat) < 100 from by decide, nf0⟩, List.forall_mem_cons.mpr ⟨⟨show (20 : Nat) < 100 from by decide, nf1⟩, List.forall_mem_cons.mpr ⟨⟨show (24 : Nat) < 100 from by decide, nf2⟩, (fun _ h => (by cases h))⟩⟩⟩
def o_Mo_plane_1 : or_T := (61, 4, [(0, (2, 0, 0, [150])), (1, (2, 0, 0, [150])), (2, (0, 0, 48, [])), (3, (0, 0, 48, []))], [(7, [2, 3], [3]), (9, [3, 1], [32]), (20, [1], [30, 48, 1, 1, 32]), (20, [1], [30, 24, 1, 1, 31]), (24, [0, 1], [])], [], [], [(20, [0], [30, 48, 1, 1, 32]), (20, [0], [30, 24, 1, 1, 31])], [], [(2, 3, 0, 4294967296)])
theorem oo_Mo_plane_1 {kA : Nat → ClassId} : or_ok kA GG o_Mo_plane_1 := by
  intro A ta ws vs hD hth hl hk hds hf
  have hl : vs.length = 4 := hl
  have hk : ∀ q ∈ ([(0, (2, 0, 0, [150])), (1, (2, 0, 0, [150])), (2, (0, 0, 48, [])), (3, (0, 0, 48, []))] : List (Nat × tv_T)), tv_ok ta q.2 (n_v vs q.1) := hk
  obtain ⟨t0, hk⟩ := List.forall_mem_cons.mp hk
  have t0 : tv_ok ta (2, 0, 0, [150]) (n_v vs 0) := t0
  have r0 : ta (v_ad (n_v vs 0)) = some 150 := tv_rg t0
  obtain ⟨t1, hk⟩ := List.forall_mem_cons.mp hk
  have t1 : tv_ok ta (2, 0, 0, [150]) (n_v vs 1) := t1
  have r1 : ta (v_ad (n_v vs 1)) = some 150 := tv_rg t1
  obtain ⟨t2, hk⟩ := List.forall_mem_cons.mp hk
  have t2 : tv_ok ta (0, 0, 48, []) (n_v vs 2) := t2
  have k2 : 0 ≤ v_iv (n_v vs 2) ∧ v_iv (n_v vs 2) ≤ 48 := tv_rng t2
  obtain ⟨t3, hk⟩ := List.forall_mem_cons.mp hk
  have t3 : tv_ok ta (0, 0, 48, []) (n_v vs 3) := t3
  have k3 : 0 ≤ v_iv (n_v vs 3) ∧ v_iv (n_v vs 3) ≤ 48 := tv_rng t3
  have hds : ∀ q ∈ ([(2, 3, 0, 4294967296)] : List of_T), n_iv vs q.2.1 + q.2.2.1 ≤ n_iv vs q.1 ∧ n_iv vs q.1 ≤ n_iv vs q.2.1 + q.2.2.2 := hds
  obtain ⟨d0, hds⟩ := List.forall_mem_cons.mp hds
  have d0 : v_iv (n_v vs 3) + 0 ≤ v_iv (n_v vs 2) ∧ v_iv (n_v vs 2) ≤ v_iv (n_v vs 3) + 4294967296 := d0
  have hf : fc_ok [(7, [2, 3], [3]), (9, [3, 1], [32]), (20, [1], [30, 48, 1, 1, 32]), (20, [1], [30, 24, 1, 1, 31]), (24, [0, 1], [])] ta ws vs := hf
  obtain ⟨f0, hf⟩ := fc_un (show (7 : Nat) < 100 from by decide) hf
  have f0 : v_iv (n_v vs 3) ≤ v_iv (n_v vs 2) := f0
  obtain ⟨f1, hf⟩ := fc_un (show (9 : Nat) < 100 from by decide) hf
  have f1 : n_v vs 3 = w_fd ws (v_ad (n_v vs 1)) 32 := f1
  obtain ⟨f2, hf⟩ := fc_un (show (20 : Nat) < 100 from by decide) hf
  have f2 : 1 * w_fi ws (n_v vs 1) 32 + 0 ≤ 48 := f2
  obtain ⟨f3, hf⟩ := fc_un (show (20 : Nat) < 100 from by decide) hf
  have f3 : 1 * w_fi ws (n_v vs 1) 31 + 0 ≤ 24 := f3
  obtain ⟨f4, hf⟩ := fc_un (show (24 : Nat) < 100 from by decide) hf
  have f4 : n_v vs 0 = n_v vs 1 := f4
  have q1 : n_v vs 1 = n_v vs 0 := f4.symm
  rw [q1] at f1
  rw [q1] at f2
  rw [q1] at f3
  have g1 : v_iv (n_v vs 3) = w_fi ws (n_v vs 0) 32 := congrArg v_iv f1
  have kz_0_31 : 0 ≤ w_fi ws (n_v vs 0) 31 ∧ w_fi ws (n_v vs 0) 31 ≤ 25 := tv_rng (th_fd hD hth r0 (g := GG_150) rfl (k := 31) (t := (0, 0, 25, [])) rfl rfl)
  have kz_0_32 : 0 ≤ w_fi ws (n_v vs 0) 32 ∧ w_fi ws (n_v vs 0) 32 ≤ 80 := tv_rng (th_fd hD hth r0 (g := GG_150) rfl (k := 32) (t := (0, 0, 80, [])) rfl rfl)
  have nf0 : fc_1 (20, [0], [30, 48, 1, 1, 32]) ws (vs) := by
    refine ⟨fun n hn => ?_, ?_⟩
    · have hn : n ∈ [0] := hn
      rw [hl]
      simp only [List.mem_cons, List.not_mem_nil, or_false] at hn
      show n < 4; omega
    · show 1 * w_fi ws (n_v vs 0) 32 + 0 ≤ 48
      omega
  have nf1 : fc_1 (20, [0], [30, 24, 1, 1, 31]) ws (vs) := by
    refine ⟨fun n hn => ?_, ?_⟩
    · have hn : n ∈ [0] := hn
      rw [hl]
      simp only [List.mem_cons, List.not_mem_nil, or_false] at hn
      show n < 4; omega
    · show 1 * w_fi ws (n_v vs 0) 31 + 0 ≤ 24
      omega
  refine ⟨(fun _ h => (by cases h)), [], trivial, ?_, (fun _ h => (by cases h))⟩
  rw [List.append_nil]
  exact List.forall_mem_cons.mpr ⟨⟨show (20 : Nat) < 100 from by decide, nf0⟩, List.forall_mem_cons.mpr ⟨⟨show (20 : Nat) < 100 from by decide, nf1⟩, (fun _ h => (by cases h))⟩⟩
def o_Mo_plane_2 : or_T := (33, 5, [(0, (2, 0, 0, [150])), (1, (2, 0, 0, [150])), (2, (0, 0, 48, [])), (3, (0, 1, 80, []))], [(7, [2, 3], [2]), (9, [3, 1], [32]), (20, [1], [30, 48, 1, 1, 32]), (20, [1], [30, 24, 1, 1, 31]), (24, [0, 1], [])], [(2, (0, 0, 47, []))], [], [], [], [(2, 3, -4294967296, -1)])
theorem oo_Mo_plane_2 {kA : Nat → ClassId} : or_ok kA GG o_Mo_plane_2 := by
  intro A ta ws vs hD hth hl hk hds hf
  have hl : vs.length = 5 := hl
  have hk : ∀ q ∈ ([(0, (2, 0, 0, [150])), (1, (2, 0, 0, [150])), (2, (0, 0, 48, [])), (3, (0, 1, 80, []))] : List (Nat × tv_T)), tv_ok ta q.2 (n_v vs q.1) := hk
  obtain ⟨t0, hk⟩ := List.forall_mem_cons.mp hk
  have t0 : tv_ok ta (2, 0, 0, [150]) (n_v vs 0) := t0
  have r0 : ta (v_ad (n_v vs 0)) = some 150 := tv_rg t0
  obtain ⟨t1, hk⟩ := List.forall_mem_cons.mp hk
  have t1 : tv_ok ta (2, 0, 0, [150]) (n_v vs 1) := t1
  have r1 : ta (v_ad (n_v vs 1)) = some 150 := tv_rg t1
  obtain ⟨t2, hk⟩ := List.forall_mem_cons.mp hk
  have t2 : tv_ok ta (0, 0, 48, []) (n_v vs 2) := t2
  have k2 : 0 ≤ v_iv (n_v vs 2) ∧ v_iv (n_v vs 2) ≤ 48 := tv_rng t2
  obtain ⟨t3, hk⟩ := List.forall_mem_cons.mp hk
  have t3 : tv_ok ta (0, 1, 80, []) (n_v vs 3) := t3
  have k3 : 1 ≤ v_iv (n_v vs 3) ∧ v_iv (n_v vs 3) ≤ 80 := tv_rng t3
  have hds : ∀ q ∈ ([(2, 3, -4294967296, -1)] : List of_T), n_iv vs q.2.1 + q.2.2.1 ≤ n_iv vs q.1 ∧ n_iv vs q.1 ≤ n_iv vs q.2.1 + q.2.2.2 := hds
  obtain ⟨d0, hds⟩ := List.forall_mem_cons.mp hds
  have d0 : v_iv (n_v vs 3) + (-4294967296) ≤ v_iv (n_v vs 2) ∧ v_iv (n_v vs 2) ≤ v_iv (n_v vs 3) + (-1) := d0
  have hf : fc_ok [(7, [2, 3], [2]), (9, [3, 1], [32]), (20, [1], [30, 48, 1, 1, 32]), (20, [1], [30, 24, 1, 1, 31]), (24, [0, 1], [])] ta ws vs := hf
  obtain ⟨f0, hf⟩ := fc_un (show (7 : Nat) < 100 from by decide) hf
  have f0 : v_iv (n_v vs 2) < v_iv (n_v vs 3) := f0
  obtain ⟨f1, hf⟩ := fc_un (show (9 : Nat) < 100 from by decide) hf
  have f1 : n_v vs 3 = w_fd ws (v_ad (n_v vs 1)) 32 := f1
  obtain ⟨f2, hf⟩ := fc_un (show (20 : Nat) < 100 from by decide) hf
  have f2 : 1 * w_fi ws (n_v vs 1) 32 + 0 ≤ 48 := f2
  obtain ⟨f3, hf⟩ := fc_un (show (20 : Nat) < 100 from by decide) hf
  have f3 : 1 * w_fi ws (n_v vs 1) 31 + 0 ≤ 24 := f3
  obtain ⟨f4, hf⟩ := fc_un (show (24 : Nat) < 100 from by decide) hf
  have f4 : n_v vs 0 = n_v vs 1 := f4
  have q1 : n_v vs 1 = n_v vs 0 := f4.symm
  rw [q1] at f1
  rw [q1] at f2
  rw [q1] at f3
  have g1 : v_iv (n_v vs 3) = w_fi ws (n_v vs 0) 32 := congrArg v_iv f1
  have kz_0_31 : 0 ≤ w_fi ws (n_v vs 0) 31 ∧ w_fi ws (n_v vs 0) 31 ≤ 25 := tv_rng (th_fd hD hth r0 (g := GG_150) rfl (k := 31) (t := (0, 0, 25, [])) rfl rfl)
  have kz_0_32 : 0 ≤ w_fi ws (n_v vs 0) 32 ∧ w_fi ws (n_v vs 0) 32 ≤ 80 := tv_rng (th_fd hD hth r0 (g := GG_150) rfl (k := 32) (t := (0, 0, 80, [])) rfl rfl)
  have rf2 : tv_ok ta (0, 0, 47, []) (n_v vs 2) := tv_in t2 (by omega) (by omega)
  refine ⟨List.forall_mem_cons.mpr ⟨rf2, (fun _ h => (by cases h))⟩, [], trivial, ?_, (fun _ h => (by cases h))⟩
  rw [List.append_nil]
  exact (fun _ h => (by cases h))
def n_Mo_plane_an : List an_T := [(18, [(0, (2, 0, 0, [150])), (1, (0, 0, 48, []))], [], (0, 0), [(0, 0, 99982), (1, 2, 48), (0, 0, 100000)], [], [], [(2, 0, 0, [150])], 0, [], [(20, [1], [30, 48, 1, 1, 32]), (20, [1], [30, 24, 1, 1, 31]), (24, [0, 1], [])])]
def t_Mo_plane_ct : ct_L := [(1, 394, e_Mo_tail), (1, 398, e_Mo_head), (1, 401, e_Mo_edges), (1, 475, e_Mo_nodes)]
set_option maxRecDepth 100000 in
theorem c_Mo_plane {l : Launch} {D : va_G} {kA : Nat → ClassId} (h_Mo_edges : ct_ok l D kA GG y_Mo_edges z_Mo_edges e_Mo_edges) (h_Mo_head : ct_ok l D kA GG y_Mo_head z_Mo_head e_Mo_head) (h_Mo_nodes : ct_ok l D kA GG y_Mo_nodes z_Mo_nodes e_Mo_nodes) (h_Mo_tail : ct_ok l D kA GG y_Mo_tail z_Mo_tail e_Mo_tail) : ct_ok l D kA GG y_Mo_plane z_Mo_plane e_Mo_plane := chk_all_ok (FT := [(57, 13, 33), (60, 13, 34), (63, 13, 35), (597, 13, 32)]) (PT := [(594, 13, 31, .int), (597, 13, 32, .int)]) (CT := t_Mo_plane_ct) (KT := []) (NT := []) (AN := n_Mo_plane_an) (OT := [o_Mo_plane_0, o_Mo_plane_1, o_Mo_plane_2]) 3 200 (List.forall_mem_cons.mpr ⟨oo_Mo_plane_0, List.forall_mem_cons.mpr ⟨oo_Mo_plane_1, List.forall_mem_cons.mpr ⟨oo_Mo_plane_2, List.forall_mem_nil _⟩⟩⟩) (by decide +kernel) ⟨List.forall_mem_cons.mpr ⟨gf_Mo_57, List.forall_mem_cons.mpr ⟨gf_Mo_60, List.forall_mem_cons.mpr ⟨gf_Mo_63, List.forall_mem_cons.mpr ⟨gf_Mo_597, List.forall_mem_nil _⟩⟩⟩⟩, List.forall_mem_cons.mpr ⟨pf_Mo_594, List.forall_mem_cons.mpr ⟨pf_Mo_597, List.forall_mem_nil _⟩⟩, List.forall_mem_cons.mpr ⟨cl_virtual (y := y_Mo_tail) (ci := 13) rfl rfl ⟨_, _, rfl⟩ (by decide +kernel) h_Mo_tail wm_3045 wm_9 wm_3042 wm_3044 wv_13_8 ⟨by decide, by decide, by decide +kernel⟩ (by decide), List.forall_mem_cons.mpr ⟨cl_virtual (y := y_Mo_head) (ci := 13) rfl rfl ⟨_, _, rfl⟩ (by decide +kernel) h_Mo_head wm_3049 wm_9 wm_3046 wm_3048 wv_13_9 ⟨by decide, by decide, by decide +kernel⟩ (by decide), List.forall_mem_cons.mpr ⟨cl_virtual (y := y_Mo_edges) (ci := 13) rfl rfl ⟨_, _, rfl⟩ (by decide +kernel) h_Mo_edges wm_3037 wm_9 wm_3034 wm_3036 wv_13_6 ⟨by decide, by decide, by decide +kernel⟩ (by decide), List.forall_mem_cons.mpr ⟨cl_virtual (y := y_Mo_nodes) (ci := 13) rfl rfl ⟨_, _, rfl⟩ (by decide +kernel) h_Mo_nodes wm_3025 wm_9 wm_3022 wm_3024 wv_13_3 ⟨by decide, by decide, by decide +kernel⟩ (by decide), List.forall_mem_nil _⟩⟩⟩⟩, List.forall_mem_nil _, List.forall_mem_nil _, GG_pl⟩ (by decide +kernel)
def n_Mo_sizeOfGroup_an : List an_T := [(4, [(0, (2, 0, 0, [150])), (1, (0, -1, 7, [])), (2, (0, -2147483648, 2147483647, [])), (3, (0, 0, 24, []))], [], (0, 0), [(0, 0, 99996), (1, 3, 24), (0, 0, 100000)], [], [], [], 0, [], [])]
def t_Mo_sizeOfGroup_ct : ct_L := [(1, 475, e_Mo_nodes), (1, 723, e_Mo_size), (1, 725, e_Mo_groupOf), (1, 742, e_Mo_isWithin)]
set_option maxRecDepth 100000 in
theorem c_Mo_sizeOfGroup {l : Launch} {D : va_G} {kA : Nat → ClassId} (h_Mo_groupOf : ct_ok l D kA GG y_Mo_groupOf z_Mo_groupOf e_Mo_groupOf) (h_Mo_isWithin : ct_ok l D kA GG y_Mo_isWithin z_Mo_isWithin e_Mo_isWithin) (h_Mo_nodes : ct_ok l D kA GG y_Mo_nodes z_Mo_nodes e_Mo_nodes) (h_Mo_size : ct_ok l D kA GG y_Mo_size z_Mo_size e_Mo_size) : ct_ok l D kA GG y_Mo_sizeOfGroup z_Mo_sizeOfGroup e_Mo_sizeOfGroup := chk_all_ok (FT := []) (PT := []) (CT := t_Mo_sizeOfGroup_ct) (KT := []) (NT := []) (AN := n_Mo_sizeOfGroup_an) (OT := []) 3 200 (List.forall_mem_nil _) (by decide +kernel) ⟨List.forall_mem_nil _, List.forall_mem_nil _, List.forall_mem_cons.mpr ⟨cl_virtual (y := y_Mo_nodes) (ci := 13) rfl rfl ⟨_, _, rfl⟩ (by decide +kernel) h_Mo_nodes wm_3025 wm_9 wm_3022 wm_3024 wv_13_3 ⟨by decide, by decide, by decide +kernel⟩ (by decide), List.forall_mem_cons.mpr ⟨cl_virtual (y := y_Mo_size) (ci := 13) rfl rfl ⟨_, _, rfl⟩ (by decide +kernel) h_Mo_size wm_3307 wm_9 wm_3304 wm_3306 wv_17_0 ⟨by decide, by decide, by decide +kernel⟩ (by decide), List.forall_mem_cons.mpr ⟨cl_virtual (y := y_Mo_groupOf) (ci := 13) rfl rfl ⟨_, _, rfl⟩ (by decide +kernel) h_Mo_groupOf wm_3311 wm_9 wm_3308 wm_3310 wv_17_1 ⟨by decide, by decide, by decide +kernel⟩ (by decide), List.forall_mem_cons.mpr ⟨cl_virtual (y := y_Mo_isWithin) (ci := 13) rfl rfl ⟨_, _, rfl⟩ (by decide +kernel) h_Mo_isWithin wm_3355 wm_9 wm_3352 wm_3354 wv_17_10 ⟨by decide, by decide, by decide +kernel⟩ (by decide), List.forall_mem_nil _⟩⟩⟩⟩, List.forall_mem_nil _, List.forall_mem_nil _, GG_pl⟩ (by decide +kernel)
def n_Mo_touch_an : List an_T := []
def t_Mo_touch_ct : ct_L := [(1, 478, e_Mo_longOf), (1, 1023, e_Mo_px), (1, 1029, e_Mo_py), (42, 1137, e_jMath_abs2_v62), (93, 1137, e_jMath_abs2_v62)]
set_option maxRecDepth 100000 in
theorem c_Mo_touch {l : Launch} {D : va_G} {kA : Nat → ClassId} (h_Mo_longOf : ct_ok l D kA GG y_Mo_longOf z_Mo_longOf e_Mo_longOf) (h_Mo_px : ct_ok l D kA GG y_Mo_px z_Mo_px e_Mo_px) (h_Mo_py : ct_ok l D kA GG y_Mo_py z_Mo_py e_Mo_py) : ct_ok l D kA GG y_Mo_touch z_Mo_touch e_Mo_touch := chk_all_ok (FT := []) (PT := []) (CT := t_Mo_touch_ct) (KT := [(2, 1140, .long (2), (1, 2, 2, []))]) (NT := []) (AN := n_Mo_touch_an) (OT := []) 0 200 (List.forall_mem_nil _) (by decide +kernel) ⟨List.forall_mem_nil _, List.forall_mem_nil _, List.forall_mem_cons.mpr ⟨cl_virtual (y := y_Mo_longOf) (ci := 13) rfl rfl ⟨_, _, rfl⟩ (by decide +kernel) h_Mo_longOf wm_3029 wm_9 wm_3026 wm_3028 wv_13_4 ⟨by decide, by decide, by decide +kernel⟩ (by decide), List.forall_mem_cons.mpr ⟨cl_virtual (y := y_Mo_px) (ci := 13) rfl rfl ⟨_, _, rfl⟩ (by decide +kernel) h_Mo_px wm_3675 wm_9 wm_3672 wm_3674 wv_21_14 ⟨by decide, by decide, by decide +kernel⟩ (by decide), List.forall_mem_cons.mpr ⟨cl_virtual (y := y_Mo_py) (ci := 13) rfl rfl ⟨_, _, rfl⟩ (by decide +kernel) h_Mo_py wm_3679 wm_9 wm_3676 wm_3678 wv_21_15 ⟨by decide, by decide, by decide +kernel⟩ (by decide), List.forall_mem_cons.mpr ⟨cl_static (y := y_jMath_abs2) c_jMath_abs2_v62 wm_2082 wm_10 wm_3769 wm_2081 ⟨by decide, by decide, by decide +kernel⟩ (by decide), List.forall_mem_cons.mpr ⟨cl_static (y := y_jMath_abs2) c_jMath_abs2_v62 wm_2082 wm_10 wm_3769 wm_2081 ⟨by decide, by decide, by decide +kernel⟩ (by decide), List.forall_mem_nil _⟩⟩⟩⟩⟩, List.forall_mem_cons.mpr ⟨⟨kt_mk2 wm_3770, fun _ => Or.inr (Or.inl ⟨rfl, _, rfl, by decide, by decide⟩)⟩, List.forall_mem_nil _⟩, List.forall_mem_nil _, GG_pl⟩ (by decide +kernel)
def o_Ho_searchMap_0 : or_T := (20, 9, [(6, (0, 0, 0, []))], [], [], [], [(20, [3, 6], [8, 0, 23, 0])], [], [])
theorem oo_Ho_searchMap_0 {kA : Nat → ClassId} : or_ok kA GG o_Ho_searchMap_0 := by
  intro A ta ws vs hD hth hl hk hds hf
  have hl : vs.length = 9 := hl
  have hk : ∀ q ∈ ([(6, (0, 0, 0, []))] : List (Nat × tv_T)), tv_ok ta q.2 (n_v vs q.1) := hk
  obtain ⟨t6, hk⟩ := List.forall_mem_cons.mp hk
  have t6 : tv_ok ta (0, 0, 0, []) (n_v vs 6) := t6
  have k6 : 0 ≤ v_iv (n_v vs 6) ∧ v_iv (n_v vs 6) ≤ 0 := tv_rng t6
  have nf0 : fc_1 (20, [3, 6], [8, 0, 23, 0]) ws (vs) := by
    refine ⟨fun n hn => ?_, ?_⟩
    · have hn : n ∈ [3, 6] := hn
      rw [hl]
      simp only [List.mem_cons, List.not_mem_nil, or_false] at hn
      show n < 9; omega
    · show ∀ j : Nat, (j : Int) < v_iv (n_v vs 6) + 0 → 0 ≤ w_el ws (v_ad (n_v vs 3)) j ∧ w_el ws (v_ad (n_v vs 3)) j ≤ 23
      intro j hj
      exfalso; omega
  refine ⟨(fun _ h => (by cases h)), [], trivial, ?_, (fun _ h => (by cases h))⟩
  rw [List.append_nil]
  exact List.forall_mem_cons.mpr ⟨⟨show (20 : Nat) < 100 from by decide, nf0⟩, (fun _ h => (by cases h))⟩
def o_Ho_searchMap_1 : or_T := (144, 13, [(6, (0, 0, 22, [])), (8, (0, 2, 23, []))], [(100, [3, 6, 8], []), (20, [3, 6], [8, 0, 23, 0])], [], [], [(20, [3, 6], [8, 0, 23, 1])], [], [(8, 6, -4294967296, 24)])
theorem oo_Ho_searchMap_1 {kA : Nat → ClassId} : or_ok kA GG o_Ho_searchMap_1 := by
  intro A ta ws vs hD hth hl hk hds hf
  have hl : vs.length = 13 := hl
  have hk : ∀ q ∈ ([(6, (0, 0, 22, [])), (8, (0, 2, 23, []))] : List (Nat × tv_T)), tv_ok ta q.2 (n_v vs q.1) := hk
  obtain ⟨t6, hk⟩ := List.forall_mem_cons.mp hk
  have t6 : tv_ok ta (0, 0, 22, []) (n_v vs 6) := t6
  have k6 : 0 ≤ v_iv (n_v vs 6) ∧ v_iv (n_v vs 6) ≤ 22 := tv_rng t6
  obtain ⟨t8, hk⟩ := List.forall_mem_cons.mp hk
  have t8 : tv_ok ta (0, 2, 23, []) (n_v vs 8) := t8
  have k8 : 2 ≤ v_iv (n_v vs 8) ∧ v_iv (n_v vs 8) ≤ 23 := tv_rng t8
  have hds : ∀ q ∈ ([(8, 6, -4294967296, 24)] : List of_T), n_iv vs q.2.1 + q.2.2.1 ≤ n_iv vs q.1 ∧ n_iv vs q.1 ≤ n_iv vs q.2.1 + q.2.2.2 := hds
  obtain ⟨d0, hds⟩ := List.forall_mem_cons.mp hds
  have d0 : v_iv (n_v vs 6) + (-4294967296) ≤ v_iv (n_v vs 8) ∧ v_iv (n_v vs 8) ≤ v_iv (n_v vs 6) + 24 := d0
  have hf : fc_ok [(100, [3, 6, 8], []), (20, [3, 6], [8, 0, 23, 0])] ta ws vs := hf
  obtain ⟨ta1, w1, le1, ⟨_, s1⟩, hf⟩ := fc_us (show ¬ (100 : Nat) < 100 from by decide) hf
  have s1 : (∀ b j, w_el ws b j = if b = v_ad (n_v vs 3) ∧ j = (v_iv (n_v vs 6)).toNat then v_iv (n_v vs 8) else w_el w1 b j) ∧ ∀ b k, w_fd ws b k = w_fd w1 b k := s1
  obtain ⟨f1, hf⟩ := fc_un (show (20 : Nat) < 100 from by decide) hf
  have f1 : ∀ j : Nat, (j : Int) < v_iv (n_v vs 6) + 0 → 0 ≤ w_el w1 (v_ad (n_v vs 3)) j ∧ w_el w1 (v_ad (n_v vs 3)) j ≤ 23 := f1
  have nf0 : fc_1 (20, [3, 6], [8, 0, 23, 1]) ws (vs) := by
    refine ⟨fun n hn => ?_, ?_⟩
    · have hn : n ∈ [3, 6] := hn
      rw [hl]
      simp only [List.mem_cons, List.not_mem_nil, or_false] at hn
      show n < 13; omega
    · show ∀ j : Nat, (j : Int) < v_iv (n_v vs 6) + 1 → 0 ≤ w_el ws (v_ad (n_v vs 3)) j ∧ w_el ws (v_ad (n_v vs 3)) j ≤ 23
      intro j hj
      by_cases hji : j = (v_iv (n_v vs 6)).toNat
      · rw [s1.1, if_pos ⟨rfl, hji⟩]; first | (constructor <;> omega) | (exfalso; omega)
      · rw [s1.1, if_neg (fun e => hji e.2)]; exact f1 j (by omega)
  refine ⟨(fun _ h => (by cases h)), [], trivial, ?_, (fun _ h => (by cases h))⟩
  rw [List.append_nil]
  exact List.forall_mem_cons.mpr ⟨⟨show (20 : Nat) < 100 from by decide, nf0⟩, (fun _ h => (by cases h))⟩
def o_Ho_searchMap_2 : or_T := (20, 15, [(6, (0, 0, 22, []))], [(20, [3, 6], [8, 0, 23, 1])], [], [], [(20, [3, 6], [8, 0, 23, 0])], [], [])
theorem oo_Ho_searchMap_2 {kA : Nat → ClassId} : or_ok kA GG o_Ho_searchMap_2 := by
  intro A ta ws vs hD hth hl hk hds hf
  have hl : vs.length = 15 := hl
  have hk : ∀ q ∈ ([(6, (0, 0, 22, []))] : List (Nat × tv_T)), tv_ok ta q.2 (n_v vs q.1) := hk
  obtain ⟨t6, hk⟩ := List.forall_mem_cons.mp hk
  have t6 : tv_ok ta (0, 0, 22, []) (n_v vs 6) := t6
  have k6 : 0 ≤ v_iv (n_v vs 6) ∧ v_iv (n_v vs 6) ≤ 22 := tv_rng t6
  have hf : fc_ok [(20, [3, 6], [8, 0, 23, 1])] ta ws vs := hf
  obtain ⟨f0, hf⟩ := fc_un (show (20 : Nat) < 100 from by decide) hf
  have f0 : ∀ j : Nat, (j : Int) < v_iv (n_v vs 6) + 1 → 0 ≤ w_el ws (v_ad (n_v vs 3)) j ∧ w_el ws (v_ad (n_v vs 3)) j ≤ 23 := f0
  have nf0 : fc_1 (20, [3, 6], [8, 0, 23, 0]) ws (vs) := by
    refine ⟨fun n hn => ?_, ?_⟩
    · have hn : n ∈ [3, 6] := hn
      rw [hl]
      simp only [List.mem_cons, List.not_mem_nil, or_false] at hn
      show n < 15; omega
    · show ∀ j : Nat, (j : Int) < v_iv (n_v vs 6) + 0 → 0 ≤ w_el ws (v_ad (n_v vs 3)) j ∧ w_el ws (v_ad (n_v vs 3)) j ≤ 23
      intro j hj
      exact f0 j (by omega)
  refine ⟨(fun _ h => (by cases h)), [], trivial, ?_, (fun _ h => (by cases h))⟩
  rw [List.append_nil]
  exact List.forall_mem_cons.mpr ⟨⟨show (20 : Nat) < 100 from by decide, nf0⟩, (fun _ h => (by cases h))⟩
def o_Ho_searchMap_3 : or_T := (20, 19, [(6, (0, 0, 22, [])), (17, (0, 1, 23, []))], [(6, [17, 6], [1]), (20, [3, 6], [8, 0, 23, 1])], [], [], [(20, [3, 17], [8, 0, 23, 0])], [], [(17, 6, 1, 1)])
theorem oo_Ho_searchMap_3 {kA : Nat → ClassId} : or_ok kA GG o_Ho_searchMap_3 := by
  intro A ta ws vs hD hth hl hk hds hf
  have hl : vs.length = 19 := hl
  have hk : ∀ q ∈ ([(6, (0, 0, 22, [])), (17, (0, 1, 23, []))] : List (Nat × tv_T)), tv_ok ta q.2 (n_v vs q.1) := hk
  obtain ⟨t6, hk⟩ := List.forall_mem_cons.mp hk
  have t6 : tv_ok ta (0, 0, 22, []) (n_v vs 6) := t6
  have k6 : 0 ≤ v_iv (n_v vs 6) ∧ v_iv (n_v vs 6) ≤ 22 := tv_rng t6
  obtain ⟨t17, hk⟩ := List.forall_mem_cons.mp hk
  have t17 : tv_ok ta (0, 1, 23, []) (n_v vs 17) := t17
  have k17 : 1 ≤ v_iv (n_v vs 17) ∧ v_iv (n_v vs 17) ≤ 23 := tv_rng t17
  have hds : ∀ q ∈ ([(17, 6, 1, 1)] : List of_T), n_iv vs q.2.1 + q.2.2.1 ≤ n_iv vs q.1 ∧ n_iv vs q.1 ≤ n_iv vs q.2.1 + q.2.2.2 := hds
  obtain ⟨d0, hds⟩ := List.forall_mem_cons.mp hds
  have d0 : v_iv (n_v vs 6) + 1 ≤ v_iv (n_v vs 17) ∧ v_iv (n_v vs 17) ≤ v_iv (n_v vs 6) + 1 := d0
  have hf : fc_ok [(6, [17, 6], [1]), (20, [3, 6], [8, 0, 23, 1])] ta ws vs := hf
  obtain ⟨f0, hf⟩ := fc_un (show (6 : Nat) < 100 from by decide) hf
  have f0 : v_iv (n_v vs 17) = v_iv (n_v vs 6) + 1 := f0
  obtain ⟨f1, hf⟩ := fc_un (show (20 : Nat) < 100 from by decide) hf
  have f1 : ∀ j : Nat, (j : Int) < v_iv (n_v vs 6) + 1 → 0 ≤ w_el ws (v_ad (n_v vs 3)) j ∧ w_el ws (v_ad (n_v vs 3)) j ≤ 23 := f1
  have nf0 : fc_1 (20, [3, 17], [8, 0, 23, 0]) ws (vs) := by
    refine ⟨fun n hn => ?_, ?_⟩
    · have hn : n ∈ [3, 17] := hn
      rw [hl]
      simp only [List.mem_cons, List.not_mem_nil, or_false] at hn
      show n < 19; omega
    · show ∀ j : Nat, (j : Int) < v_iv (n_v vs 17) + 0 → 0 ≤ w_el ws (v_ad (n_v vs 3)) j ∧ w_el ws (v_ad (n_v vs 3)) j ≤ 23
      intro j hj
      exact f1 j (by omega)
  refine ⟨(fun _ h => (by cases h)), [], trivial, ?_, (fun _ h => (by cases h))⟩
  rw [List.append_nil]
  exact List.forall_mem_cons.mpr ⟨⟨show (20 : Nat) < 100 from by decide, nf0⟩, (fun _ h => (by cases h))⟩
def o_Ho_searchMap_4 : or_T := (20, 12, [(6, (0, 0, 23, [])), (9, (0, -1, -1, [])), (10, (0, -1, 22, []))], [(6, [10, 6], [-1]), (100, [3, 6, 9], []), (20, [3, 6], [8, 0, 23, 0])], [], [], [(20, [3, 10], [8, 0, 23, 0])], [], [(10, 6, -1, -1)])
theorem oo_Ho_searchMap_4 {kA : Nat → ClassId} : or_ok kA GG o_Ho_searchMap_4 := by
  intro A ta ws vs hD hth hl hk hds hf
  have hl : vs.length = 12 := hl
  have hk : ∀ q ∈ ([(6, (0, 0, 23, [])), (9, (0, -1, -1, [])), (10, (0, -1, 22, []))] : List (Nat × tv_T)), tv_ok ta q.2 (n_v vs q.1) := hk
  obtain ⟨t6, hk⟩ := List.forall_mem_cons.mp hk
  have t6 : tv_ok ta (0, 0, 23, []) (n_v vs 6) := t6
  have k6 : 0 ≤ v_iv (n_v vs 6) ∧ v_iv (n_v vs 6) ≤ 23 := tv_rng t6
  obtain ⟨t9, hk⟩ := List.forall_mem_cons.mp hk
  have t9 : tv_ok ta (0, -1, -1, []) (n_v vs 9) := t9
  have k9 : (-1) ≤ v_iv (n_v vs 9) ∧ v_iv (n_v vs 9) ≤ (-1) := tv_rng t9
  obtain ⟨t10, hk⟩ := List.forall_mem_cons.mp hk
  have t10 : tv_ok ta (0, -1, 22, []) (n_v vs 10) := t10
  have k10 : (-1) ≤ v_iv (n_v vs 10) ∧ v_iv (n_v vs 10) ≤ 22 := tv_rng t10
  have hds : ∀ q ∈ ([(10, 6, -1, -1)] : List of_T), n_iv vs q.2.1 + q.2.2.1 ≤ n_iv vs q.1 ∧ n_iv vs q.1 ≤ n_iv vs q.2.1 + q.2.2.2 := hds
  obtain ⟨d0, hds⟩ := List.forall_mem_cons.mp hds
  have d0 : v_iv (n_v vs 6) + (-1) ≤ v_iv (n_v vs 10) ∧ v_iv (n_v vs 10) ≤ v_iv (n_v vs 6) + (-1) := d0
  have hf : fc_ok [(6, [10, 6], [-1]), (100, [3, 6, 9], []), (20, [3, 6], [8, 0, 23, 0])] ta ws vs := hf
  obtain ⟨f0, hf⟩ := fc_un (show (6 : Nat) < 100 from by decide) hf
  have f0 : v_iv (n_v vs 10) = v_iv (n_v vs 6) + (-1) := f0
  obtain ⟨ta1, w1, le1, ⟨_, s1⟩, hf⟩ := fc_us (show ¬ (100 : Nat) < 100 from by decide) hf
  have s1 : (∀ b j, w_el ws b j = if b = v_ad (n_v vs 3) ∧ j = (v_iv (n_v vs 6)).toNat then v_iv (n_v vs 9) else w_el w1 b j) ∧ ∀ b k, w_fd ws b k = w_fd w1 b k := s1
  obtain ⟨f2, hf⟩ := fc_un (show (20 : Nat) < 100 from by decide) hf
  have f2 : ∀ j : Nat, (j : Int) < v_iv (n_v vs 6) + 0 → 0 ≤ w_el w1 (v_ad (n_v vs 3)) j ∧ w_el w1 (v_ad (n_v vs 3)) j ≤ 23 := f2
  have nf0 : fc_1 (20, [3, 10], [8, 0, 23, 0]) ws (vs) := by
    refine ⟨fun n hn => ?_, ?_⟩
    · have hn : n ∈ [3, 10] := hn
      rw [hl]
      simp only [List.mem_cons, List.not_mem_nil, or_false] at hn
      show n < 12; omega
    · show ∀ j : Nat, (j : Int) < v_iv (n_v vs 10) + 0 → 0 ≤ w_el ws (v_ad (n_v vs 3)) j ∧ w_el ws (v_ad (n_v vs 3)) j ≤ 23
      intro j hj
      by_cases hji : j = (v_iv (n_v vs 6)).toNat
      · rw [s1.1, if_pos ⟨rfl, hji⟩]; first | (constructor <;> omega) | (exfalso; omega)
      · rw [s1.1, if_neg (fun e => hji e.2)]; exact f2 j (by omega)
  refine ⟨(fun _ h => (by cases h)), [], trivial, ?_, (fun _ h => (by cases h))⟩
  rw [List.append_nil]
  exact List.forall_mem_cons.mpr ⟨⟨show (20 : Nat) < 100 from by decide, nf0⟩, (fun _ h => (by cases h))⟩
def o_Ho_searchMap_5 : or_T := (144, 16, [(6, (0, 0, 23, [])), (8, (0, 0, 23, []))], [(100, [3, 6, 8], []), (20, [3, 6], [8, 0, 23, 0])], [], [], [(20, [3, 6], [8, 0, 23, 1])], [], [(8, 6, -4294967296, 24)])
theorem oo_Ho_searchMap_5 {kA : Nat → ClassId} : or_ok kA GG o_Ho_searchMap_5 := by
  intro A ta ws vs hD hth hl hk hds hf
  have hl : vs.length = 16 := hl
  have hk : ∀ q ∈ ([(6, (0, 0, 23, [])), (8, (0, 0, 23, []))] : List (Nat × tv_T)), tv_ok ta q.2 (n_v vs q.1) := hk
  obtain ⟨t6, hk⟩ := List.forall_mem_cons.mp hk
  have t6 : tv_ok ta (0, 0, 23, []) (n_v vs 6) := t6
  have k6 : 0 ≤ v_iv (n_v vs 6) ∧ v_iv (n_v vs 6) ≤ 23 := tv_rng t6
  obtain ⟨t8, hk⟩ := List.forall_mem_cons.mp hk
  have t8 : tv_ok ta (0, 0, 23, []) (n_v vs 8) := t8
  have k8 : 0 ≤ v_iv (n_v vs 8) ∧ v_iv (n_v vs 8) ≤ 23 := tv_rng t8
  have hds : ∀ q ∈ ([(8, 6, -4294967296, 24)] : List of_T), n_iv vs q.2.1 + q.2.2.1 ≤ n_iv vs q.1 ∧ n_iv vs q.1 ≤ n_iv vs q.2.1 + q.2.2.2 := hds
  obtain ⟨d0, hds⟩ := List.forall_mem_cons.mp hds
  have d0 : v_iv (n_v vs 6) + (-4294967296) ≤ v_iv (n_v vs 8) ∧ v_iv (n_v vs 8) ≤ v_iv (n_v vs 6) + 24 := d0
  have hf : fc_ok [(100, [3, 6, 8], []), (20, [3, 6], [8, 0, 23, 0])] ta ws vs := hf
  obtain ⟨ta1, w1, le1, ⟨_, s1⟩, hf⟩ := fc_us (show ¬ (100 : Nat) < 100 from by decide) hf
  have s1 : (∀ b j, w_el ws b j = if b = v_ad (n_v vs 3) ∧ j = (v_iv (n_v vs 6)).toNat then v_iv (n_v vs 8) else w_el w1 b j) ∧ ∀ b k, w_fd ws b k = w_fd w1 b k := s1
  obtain ⟨f1, hf⟩ := fc_un (show (20 : Nat) < 100 from by decide) hf
  have f1 : ∀ j : Nat, (j : Int) < v_iv (n_v vs 6) + 0 → 0 ≤ w_el w1 (v_ad (n_v vs 3)) j ∧ w_el w1 (v_ad (n_v vs 3)) j ≤ 23 := f1
  have nf0 : fc_1 (20, [3, 6], [8, 0, 23, 1]) ws (vs) := by
    refine ⟨fun n hn => ?_, ?_⟩
    · have hn : n ∈ [3, 6] := hn
      rw [hl]
      simp only [List.mem_cons, List.not_mem_nil, or_false] at hn
      show n < 16; omega
    · show ∀ j : Nat, (j : Int) < v_iv (n_v vs 6) + 1 → 0 ≤ w_el ws (v_ad (n_v vs 3)) j ∧ w_el ws (v_ad (n_v vs 3)) j ≤ 23
      intro j hj
      by_cases hji : j = (v_iv (n_v vs 6)).toNat
      · rw [s1.1, if_pos ⟨rfl, hji⟩]; first | (constructor <;> omega) | (exfalso; omega)
      · rw [s1.1, if_neg (fun e => hji e.2)]; exact f1 j (by omega)
  refine ⟨(fun _ h => (by cases h)), [], trivial, ?_, (fun _ h => (by cases h))⟩
  rw [List.append_nil]
  exact List.forall_mem_cons.mpr ⟨⟨show (20 : Nat) < 100 from by decide, nf0⟩, (fun _ h => (by cases h))⟩
def o_Ho_searchMap_6 : or_T := (20, 18, [(6, (0, 0, 23, []))], [(20, [3, 6], [8, 0, 23, 1])], [], [], [(20, [3, 6], [8, 0, 23, 0])], [], [])
theorem oo_Ho_searchMap_6 {kA : Nat → ClassId} : or_ok kA GG o_Ho_searchMap_6 := by
  intro A ta ws vs hD hth hl hk hds hf
  have hl : vs.length = 18 := hl
  have hk : ∀ q ∈ ([(6, (0, 0, 23, []))] : List (Nat × tv_T)), tv_ok ta q.2 (n_v vs q.1) := hk
  obtain ⟨t6, hk⟩ := List.forall_mem_cons.mp hk
  have t6 : tv_ok ta (0, 0, 23, []) (n_v vs 6) := t6
  have k6 : 0 ≤ v_iv (n_v vs 6) ∧ v_iv (n_v vs 6) ≤ 23 := tv_rng t6
  have hf : fc_ok [(20, [3, 6], [8, 0, 23, 1])] ta ws vs := hf
  obtain ⟨f0, hf⟩ := fc_un (show (20 : Nat) < 100 from by decide) hf
  have f0 : ∀ j : Nat, (j : Int) < v_iv (n_v vs 6) + 1 → 0 ≤ w_el ws (v_ad (n_v vs 3)) j ∧ w_el ws (v_ad (n_v vs 3)) j ≤ 23 := f0
  have nf0 : fc_1 (20, [3, 6], [8, 0, 23, 0]) ws (vs) := by
    refine ⟨fun n hn => ?_, ?_⟩
    · have hn : n ∈ [3, 6] := hn
      rw [hl]
      simp only [List.mem_cons, List.not_mem_nil, or_false] at hn
      show n < 18; omega
    · show ∀ j : Nat, (j : Int) < v_iv (n_v vs 6) + 0 → 0 ≤ w_el ws (v_ad (n_v vs 3)) j ∧ w_el ws (v_ad (n_v vs 3)) j ≤ 23
      intro j hj
      exact f0 j (by omega)
  refine ⟨(fun _ h => (by cases h)), [], trivial, ?_, (fun _ h => (by cases h))⟩
  rw [List.append_nil]
  exact List.forall_mem_cons.mpr ⟨⟨show (20 : Nat) < 100 from by decide, nf0⟩, (fun _ h => (by cases h))⟩
def o_Ho_searchMap_7 : or_T := (20, 22, [(6, (0, 0, 23, [])), (20, (0, 1, 24, []))], [(6, [20, 6], [1]), (20, [3, 6], [8, 0, 23, 1])], [], [], [(20, [3, 20], [8, 0, 23, 0])], [], [(20, 6, 1, 1)])
theorem oo_Ho_searchMap_7 {kA : Nat → ClassId} : or_ok kA GG o_Ho_searchMap_7 := by
  intro A ta ws vs hD hth hl hk hds hf
  have hl : vs.length = 22 := hl
  have hk : ∀ q ∈ ([(6, (0, 0, 23, [])), (20, (0, 1, 24, []))] : List (Nat × tv_T)), tv_ok ta q.2 (n_v vs q.1) := hk
  obtain ⟨t6, hk⟩ := List.forall_mem_cons.mp hk
  have t6 : tv_ok ta (0, 0, 23, []) (n_v vs 6) := t6
  have k6 : 0 ≤ v_iv (n_v vs 6) ∧ v_iv (n_v vs 6) ≤ 23 := tv_rng t6
  obtain ⟨t20, hk⟩ := List.forall_mem_cons.mp hk
  have t20 : tv_ok ta (0, 1, 24, []) (n_v vs 20) := t20
  have k20 : 1 ≤ v_iv (n_v vs 20) ∧ v_iv (n_v vs 20) ≤ 24 := tv_rng t20
  have hds : ∀ q ∈ ([(20, 6, 1, 1)] : List of_T), n_iv vs q.2.1 + q.2.2.1 ≤ n_iv vs q.1 ∧ n_iv vs q.1 ≤ n_iv vs q.2.1 + q.2.2.2 := hds
  obtain ⟨d0, hds⟩ := List.forall_mem_cons.mp hds
  have d0 : v_iv (n_v vs 6) + 1 ≤ v_iv (n_v vs 20) ∧ v_iv (n_v vs 20) ≤ v_iv (n_v vs 6) + 1 := d0
  have hf : fc_ok [(6, [20, 6], [1]), (20, [3, 6], [8, 0, 23, 1])] ta ws vs := hf
  obtain ⟨f0, hf⟩ := fc_un (show (6 : Nat) < 100 from by decide) hf
  have f0 : v_iv (n_v vs 20) = v_iv (n_v vs 6) + 1 := f0
  obtain ⟨f1, hf⟩ := fc_un (show (20 : Nat) < 100 from by decide) hf
  have f1 : ∀ j : Nat, (j : Int) < v_iv (n_v vs 6) + 1 → 0 ≤ w_el ws (v_ad (n_v vs 3)) j ∧ w_el ws (v_ad (n_v vs 3)) j ≤ 23 := f1
  have nf0 : fc_1 (20, [3, 20], [8, 0, 23, 0]) ws (vs) := by
    refine ⟨fun n hn => ?_, ?_⟩
    · have hn : n ∈ [3, 20] := hn
      rw [hl]
      simp only [List.mem_cons, List.not_mem_nil, or_false] at hn
      show n < 22; omega
    · show ∀ j : Nat, (j : Int) < v_iv (n_v vs 20) + 0 → 0 ≤ w_el ws (v_ad (n_v vs 3)) j ∧ w_el ws (v_ad (n_v vs 3)) j ≤ 23
      intro j hj
      exact f1 j (by omega)
  refine ⟨(fun _ h => (by cases h)), [], trivial, ?_, (fun _ h => (by cases h))⟩
  rw [List.append_nil]
  exact List.forall_mem_cons.mpr ⟨⟨show (20 : Nat) < 100 from by decide, nf0⟩, (fun _ h => (by cases h))⟩
def o_Ho_searchMap_8 : or_T := (20, 15, [(6, (0, 0, 22, [])), (12, (0, -1, -1, [])), (13, (0, -1, 21, []))], [(6, [13, 6], [-1]), (100, [3, 6, 12], []), (20, [3, 6], [8, 0, 23, 0])], [], [], [(20, [3, 13], [8, 0, 23, 0])], [], [(13, 6, -1, -1)])
theorem oo_Ho_searchMap_8 {kA : Nat → ClassId} : or_ok kA GG o_Ho_searchMap_8 := by
  intro A ta ws vs hD hth hl hk hds hf
  have hl : vs.length = 15 := hl
  have hk : ∀ q ∈ ([(6, (0, 0, 22, [])), (12, (0, -1, -1, [])), (13, (0, -1, 21, []))] : List (Nat × tv_T)), tv_ok ta q.2 (n_v vs q.1) := hk
  obtain ⟨t6, hk⟩ := List.forall_mem_cons.mp hk
  have t6 : tv_ok ta (0, 0, 22, []) (n_v vs 6) := t6
  have k6 : 0 ≤ v_iv (n_v vs 6) ∧ v_iv (n_v vs 6) ≤ 22 := tv_rng t6
  obtain ⟨t12, hk⟩ := List.forall_mem_cons.mp hk
  have t12 : tv_ok ta (0, -1, -1, []) (n_v vs 12) := t12
  have k12 : (-1) ≤ v_iv (n_v vs 12) ∧ v_iv (n_v vs 12) ≤ (-1) := tv_rng t12
  obtain ⟨t13, hk⟩ := List.forall_mem_cons.mp hk
  have t13 : tv_ok ta (0, -1, 21, []) (n_v vs 13) := t13
  have k13 : (-1) ≤ v_iv (n_v vs 13) ∧ v_iv (n_v vs 13) ≤ 21 := tv_rng t13
  have hds : ∀ q ∈ ([(13, 6, -1, -1)] : List of_T), n_iv vs q.2.1 + q.2.2.1 ≤ n_iv vs q.1 ∧ n_iv vs q.1 ≤ n_iv vs q.2.1 + q.2.2.2 := hds
  obtain ⟨d0, hds⟩ := List.forall_mem_cons.mp hds
  have d0 : v_iv (n_v vs 6) + (-1) ≤ v_iv (n_v vs 13) ∧ v_iv (n_v vs 13) ≤ v_iv (n_v vs 6) + (-1) := d0
  have hf : fc_ok [(6, [13, 6], [-1]), (100, [3, 6, 12], []), (20, [3, 6], [8, 0, 23, 0])] ta ws vs := hf
  obtain ⟨f0, hf⟩ := fc_un (show (6 : Nat) < 100 from by decide) hf
  have f0 : v_iv (n_v vs 13) = v_iv (n_v vs 6) + (-1) := f0
  obtain ⟨ta1, w1, le1, ⟨_, s1⟩, hf⟩ := fc_us (show ¬ (100 : Nat) < 100 from by decide) hf
  have s1 : (∀ b j, w_el ws b j = if b = v_ad (n_v vs 3) ∧ j = (v_iv (n_v vs 6)).toNat then v_iv (n_v vs 12) else w_el w1 b j) ∧ ∀ b k, w_fd ws b k = w_fd w1 b k := s1
  obtain ⟨f2, hf⟩ := fc_un (show (20 : Nat) < 100 from by decide) hf
  have f2 : ∀ j : Nat, (j : Int) < v_iv (n_v vs 6) + 0 → 0 ≤ w_el w1 (v_ad (n_v vs 3)) j ∧ w_el w1 (v_ad (n_v vs 3)) j ≤ 23 := f2
  have nf0 : fc_1 (20, [3, 13], [8, 0, 23, 0]) ws (vs) := by
    refine ⟨fun n hn => ?_, ?_⟩
    · have hn : n ∈ [3, 13] := hn
      rw [hl]
      simp only [List.mem_cons, List.not_mem_nil, or_false] at hn
      show n < 15; omega
    · show ∀ j : Nat, (j : Int) < v_iv (n_v vs 13) + 0 → 0 ≤ w_el ws (v_ad (n_v vs 3)) j ∧ w_el ws (v_ad (n_v vs 3)) j ≤ 23
      intro j hj
      by_cases hji : j = (v_iv (n_v vs 6)).toNat
      · rw [s1.1, if_pos ⟨rfl, hji⟩]; first | (constructor <;> omega) | (exfalso; omega)
      · rw [s1.1, if_neg (fun e => hji e.2)]; exact f2 j (by omega)
  refine ⟨(fun _ h => (by cases h)), [], trivial, ?_, (fun _ h => (by cases h))⟩
  rw [List.append_nil]
  exact List.forall_mem_cons.mpr ⟨⟨show (20 : Nat) < 100 from by decide, nf0⟩, (fun _ h => (by cases h))⟩
def n_Ho_searchMap_an : List an_T := [(20, [(0, (2, 0, 0, [12])), (1, (2, 0, 0, [3])), (2, (2, 0, 0, [3])), (3, (2, 0, 0, [269])), (4, (0, 0, 24, [])), (5, (0, 0, 16777215, [])), (6, (0, -1, 24, [])), (7, (0, -2147483646, 60000, []))], [], (0, 0), [(0, 0, 99980), (1, 7, 60000), (0, 0, 100000), (0, 0, 0), (0, 0, 0)], [(4, 5, -1000000000000, 24), (4, 6, -1000000000000, 25), (4, 7, -1000000000000, 2147483672), (4, 8, -1000000000000, 25), (5, 4, -1000000000000, 16777214), (5, 7, -1000000000000, 2164260863), (5, 8, -1000000000000, 16777216), (6, 4, -1000000000000, 0), (8, 4, -1000000000000, 20000), (8, 5, -1000000000000, 20000), (8, 6, -1000000000000, 20001), (8, 7, -1000000000000, 2147503648)], [((0, 8), (0, -1, 20000, []))], [], 0, [], [(20, [3, 6], [8, 0, 23, 0])]), (69, [(0, (2, 0, 0, [12])), (1, (2, 0, 0, [3])), (2, (2, 0, 0, [3])), (3, (2, 0, 0, [269])), (4, (0, 1, 24, [])), (5, (0, 0, 16777215, [])), (6, (0, 0, 23, [])), (7, (0, -2147483647, 59999, [])), (8, (0, 0, 24, []))], [], (0, 0), [(0, 0, 99980), (1, 7, 60000), (0, 0, 99931), (1, 8, 24), (0, 0, 100000)], [(4, 5, -1000000000000, 24), (4, 6, -1000000000000, 24), (4, 7, -1000000000000, 2147483672), (4, 8, -1000000000000, 24), (5, 4, -1000000000000, 16777214), (5, 6, -1000000000000, 16777215), (5, 8, -1000000000000, 16777215), (6, 4, -1000000000000, -1), (6, 7, -1000000000000, 2147483671), (8, 4, -1000000000000, 23), (8, 5, -1000000000000, 24), (8, 6, -1000000000000, 24), (8, 7, -1000000000000, 2147483672)], [], [], 0, [], [(20, [3, 6], [8, 0, 23, 0])])]
def t_Ho_searchMap_ct : ct_L := [(0, 431, e_Ho_mayBecome), (45, 375, e_jArr_fill1_v63)]
set_option maxRecDepth 100000 in
theorem c_Ho_searchMap {l : Launch} {D : va_G} {kA : Nat → ClassId} (h_Ho_mayBecome : ct_ok l D kA GG y_Ho_mayBecome z_Ho_mayBecome e_Ho_mayBecome) : ct_ok l D kA GG y_Ho_searchMap z_Ho_searchMap e_Ho_searchMap := chk_all_ok (FT := [(57, 12, 8), (132, 3, 0)]) (PT := [(57, 12, 8, .int)]) (CT := t_Ho_searchMap_ct) (KT := [(1, 430, .int (60000), (0, 60000, 60000, []))]) (NT := []) (AN := n_Ho_searchMap_an) (OT := [o_Ho_searchMap_0, o_Ho_searchMap_1, o_Ho_searchMap_2, o_Ho_searchMap_3, o_Ho_searchMap_4, o_Ho_searchMap_5, o_Ho_searchMap_6, o_Ho_searchMap_7, o_Ho_searchMap_8]) 5 668 (List.forall_mem_cons.mpr ⟨oo_Ho_searchMap_0, List.forall_mem_cons.mpr ⟨oo_Ho_searchMap_1, List.forall_mem_cons.mpr ⟨oo_Ho_searchMap_2, List.forall_mem_cons.mpr ⟨oo_Ho_searchMap_3, List.forall_mem_cons.mpr ⟨oo_Ho_searchMap_4, List.forall_mem_cons.mpr ⟨oo_Ho_searchMap_5, List.forall_mem_cons.mpr ⟨oo_Ho_searchMap_6, List.forall_mem_cons.mpr ⟨oo_Ho_searchMap_7, List.forall_mem_cons.mpr ⟨oo_Ho_searchMap_8, List.forall_mem_nil _⟩⟩⟩⟩⟩⟩⟩⟩⟩) (by decide +kernel) ⟨List.forall_mem_cons.mpr ⟨gf_Ho_57, List.forall_mem_cons.mpr ⟨gf_Ho_132, List.forall_mem_nil _⟩⟩, List.forall_mem_cons.mpr ⟨pf_Ho_57, List.forall_mem_nil _⟩, List.forall_mem_cons.mpr ⟨cl_static (y := y_Ho_mayBecome) h_Ho_mayBecome wm_1035 wm_1 wm_1033 wm_1034 ⟨by decide, by decide, by decide +kernel⟩ (by decide), List.forall_mem_cons.mpr ⟨cl_static (y := y_jArr_fill1) c_jArr_fill1_v63 wm_55 wm_4 wm_1031 wm_54 ⟨by decide, by decide, by decide +kernel⟩ (by decide), List.forall_mem_nil _⟩⟩, List.forall_mem_cons.mpr ⟨kx_Ho_1_430, List.forall_mem_nil _⟩, List.forall_mem_nil _, GG_pl⟩ (by decide +kernel)
def n_Dr_isOnPiece_an : List an_T := []
def t_Dr_isOnPiece_ct : ct_L := [(1, 198, e_Dr_sideOf), (13, 128, e_Dr_pointX_np), (37, 134, e_Dr_pointY_np), (67, 128, e_Dr_pointX_np), (97, 134, e_Dr_pointY_np), (126, 154, e_jMath_min1_v24), (159, 157, e_jMath_max1_v17), (195, 154, e_jMath_min1_v24), (231, 157, e_jMath_max1_v17)]
set_option maxRecDepth 100000 in
theorem c_Dr_isOnPiece {l : Launch} {D : va_G} {kA : Nat → ClassId} (h_Dr_pointX : ct_ok l D kA GG y_Dr_pointX z_Dr_pointX e_Dr_pointX) (h_Dr_pointY : ct_ok l D kA GG y_Dr_pointY z_Dr_pointY e_Dr_pointY) (h_Dr_sideOf : ct_ok l D kA GG y_Dr_sideOf z_Dr_sideOf e_Dr_sideOf) : ct_ok l D kA GG y_Dr_isOnPiece z_Dr_isOnPiece e_Dr_isOnPiece := chk_all_ok (FT := []) (PT := []) (CT := t_Dr_isOnPiece_ct) (KT := []) (NT := []) (AN := n_Dr_isOnPiece_an) (OT := []) 0 260 (List.forall_mem_nil _) (by decide +kernel) ⟨List.forall_mem_nil _, List.forall_mem_nil _, List.forall_mem_cons.mpr ⟨cl_virtual (y := y_Dr_sideOf) (ci := 0) rfl rfl ⟨_, _, rfl⟩ (by decide +kernel) h_Dr_sideOf wm_2030 wm_8 wm_2027 wm_2029 wv_9_14 ⟨by decide, by decide, by decide +kernel⟩ (by decide), List.forall_mem_cons.mpr ⟨cl_nopa (cl_virtual (y := y_Dr_pointX) (ci := 0) rfl rfl ⟨_, _, rfl⟩ (by decide +kernel) h_Dr_pointX wm_1986 wm_8 wm_1983 wm_1984 wm_1985 ⟨by decide, by decide, by decide +kernel⟩ (by decide)), List.forall_mem_cons.mpr ⟨cl_nopa (cl_virtual (y := y_Dr_pointY) (ci := 0) rfl rfl ⟨_, _, rfl⟩ (by decide +kernel) h_Dr_pointY wm_1991 wm_8 wm_1988 wm_1989 wm_1990 ⟨by decide, by decide, by decide +kernel⟩ (by decide)), List.forall_mem_cons.mpr ⟨cl_nopa (cl_virtual (y := y_Dr_pointX) (ci := 0) rfl rfl ⟨_, _, rfl⟩ (by decide +kernel) h_Dr_pointX wm_1986 wm_8 wm_1983 wm_1984 wm_1985 ⟨by decide, by decide, by decide +kernel⟩ (by decide)), List.forall_mem_cons.mpr ⟨cl_nopa (cl_virtual (y := y_Dr_pointY) (ci := 0) rfl rfl ⟨_, _, rfl⟩ (by decide +kernel) h_Dr_pointY wm_1991 wm_8 wm_1988 wm_1989 wm_1990 ⟨by decide, by decide, by decide +kernel⟩ (by decide)), List.forall_mem_cons.mpr ⟨cl_static (y := y_jMath_min1) c_jMath_min1_v24 wm_658 wm_10 wm_2026 wm_657 ⟨by decide, by decide, by decide +kernel⟩ (by decide), List.forall_mem_cons.mpr ⟨cl_static (y := y_jMath_max1) c_jMath_max1_v17 wm_836 wm_10 wm_2025 wm_835 ⟨by decide, by decide, by decide +kernel⟩ (by decide), List.forall_mem_cons.mpr ⟨cl_static (y := y_jMath_min1) c_jMath_min1_v24 wm_658 wm_10 wm_2026 wm_657 ⟨by decide, by decide, by decide +kernel⟩ (by decide), List.forall_mem_cons.mpr ⟨cl_static (y := y_jMath_max1) c_jMath_max1_v17 wm_836 wm_10 wm_2025 wm_835 ⟨by decide, by decide, by decide +kernel⟩ (by decide), List.forall_mem_nil _⟩⟩⟩⟩⟩⟩⟩⟩⟩, List.forall_mem_nil _, List.forall_mem_nil _, GG_pl⟩ (by decide +kernel)
def n_Dr_measure_an : List an_T := [(42, [(0, (2, 0, 0, [0])), (1, (0, 1, 24, []))], [], (0, 0), [(0, 0, 99958), (1, 1, 24), (0, 0, 100000), (0, 0, 0), (0, 0, 0)], [], [], [], 0, [], []), (77, [(0, (2, 0, 0, [0])), (1, (0, 0, 48, []))], [], (0, 0), [(0, 0, 99923), (1, 1, 48), (0, 0, 100000), (0, 0, 0), (0, 0, 0)], [], [], [], 0, [], []), (90, [(0, (2, 0, 0, [0])), (1, (0, 0, 47, [])), (2, (0, 1, 25, []))], [], (0, 0), [(0, 0, 99923), (1, 1, 48), (0, 0, 99910), (1, 2, 25), (0, 0, 100000)], [], [], [], 0, [], [])]
def t_Dr_measure_ct : ct_L := [(1, 128, e_Dr_pointX), (1, 134, e_Dr_pointY), (1, 147, e_Dr_take)]
set_option maxRecDepth 100000 in
theorem c_Dr_measure {l : Launch} {D : va_G} {kA : Nat → ClassId} (h_Dr_pointX : ct_ok l D kA GG y_Dr_pointX z_Dr_pointX e_Dr_pointX) (h_Dr_pointY : ct_ok l D kA GG y_Dr_pointY z_Dr_pointY e_Dr_pointY) (h_Dr_take : ct_ok l D kA GG y_Dr_take z_Dr_take e_Dr_take) : ct_ok l D kA GG y_Dr_measure z_Dr_measure e_Dr_measure := chk_all_ok (FT := [(15, 0, 2), (19, 0, 3), (22, 0, 4), (74, 0, 0), (141, 3, 0), (151, 3, 1)]) (PT := [(62, 0, 17, .int), (65, 0, 18, .int), (68, 0, 19, .int), (71, 0, 20, .int)]) (CT := t_Dr_measure_ct) (KT := []) (NT := []) (AN := n_Dr_measure_an) (OT := []) 5 344 (List.forall_mem_nil _) (by decide +kernel) ⟨List.forall_mem_cons.mpr ⟨gf_Dr_15, List.forall_mem_cons.mpr ⟨gf_Dr_19, List.forall_mem_cons.mpr ⟨gf_Dr_22, List.forall_mem_cons.mpr ⟨gf_Dr_74, List.forall_mem_cons.mpr ⟨gf_Dr_141, List.forall_mem_cons.mpr ⟨gf_Dr_151, List.forall_mem_nil _⟩⟩⟩⟩⟩⟩, List.forall_mem_cons.mpr ⟨pf_Dr_62, List.forall_mem_cons.mpr ⟨pf_Dr_65, List.forall_mem_cons.mpr ⟨pf_Dr_68, List.forall_mem_cons.mpr ⟨pf_Dr_71, List.forall_mem_nil _⟩⟩⟩⟩, List.forall_mem_cons.mpr ⟨cl_virtual (y := y_Dr_pointX) (ci := 0) rfl rfl ⟨_, _, rfl⟩ (by decide +kernel) h_Dr_pointX wm_1986 wm_8 wm_1983 wm_1984 wm_1985 ⟨by decide, by decide, by decide +kernel⟩ (by decide), List.forall_mem_cons.mpr ⟨cl_virtual (y := y_Dr_pointY) (ci := 0) rfl rfl ⟨_, _, rfl⟩ (by decide +kernel) h_Dr_pointY wm_1991 wm_8 wm_1988 wm_1989 wm_1990 ⟨by decide, by decide, by decide +kernel⟩ (by decide), List.forall_mem_cons.mpr ⟨cl_virtual (y := y_Dr_take) (ci := 0) rfl rfl ⟨_, _, rfl⟩ (by decide +kernel) h_Dr_take wm_2070 wm_8 wm_2067 wm_2069 wv_10_7 ⟨by decide, by decide, by decide +kernel⟩ (by decide), List.forall_mem_nil _⟩⟩⟩, List.forall_mem_nil _, List.forall_mem_nil _, GG_pl⟩ (by decide +kernel)
def n_Dr_report_an : List an_T := []
def t_Dr_report_ct : ct_L := [(1, 85, e_Gr_hasNode), (1, 94, e_Dr_reportLayers), (1, 98, e_Dr_reportArea)]
set_option maxRecDepth 100000 in
theorem c_Dr_report {l : Launch} {D : va_G} {kA : Nat → ClassId} (h_Dr_reportArea : ct_ok l D kA GG y_Dr_reportArea z_Dr_reportArea e_Dr_reportArea) (h_Dr_reportLayers : ct_ok l D kA GG y_Dr_reportLayers z_Dr_reportLayers e_Dr_reportLayers) (h_Gr_hasNode : ct_ok l D kA GG y_Gr_hasNode z_Gr_hasNode e_Gr_hasNode) : ct_ok l D kA GG y_Dr_report z_Dr_report e_Dr_report := chk_all_ok (FT := [(9, 0, 1), (31, 0, 7), (37, 0, 9), (47, 0, 12), (74, 0, 0)]) (PT := []) (CT := t_Dr_report_ct) (KT := []) (NT := []) (AN := n_Dr_report_an) (OT := []) 0 288 (List.forall_mem_nil _) (by decide +kernel) ⟨List.forall_mem_cons.mpr ⟨gf_Dr_9, List.forall_mem_cons.mpr ⟨gf_Dr_31, List.forall_mem_cons.mpr ⟨gf_Dr_37, List.forall_mem_cons.mpr ⟨gf_Dr_47, List.forall_mem_cons.mpr ⟨gf_Dr_74, List.forall_mem_nil _⟩⟩⟩⟩⟩, List.forall_mem_nil _, List.forall_mem_cons.mpr ⟨cl_virtual (y := y_Gr_hasNode) (ci := 3) rfl rfl ⟨_, _, rfl⟩ (by decide +kernel) h_Gr_hasNode wm_921 wm_3 wm_1822 wm_919 wm_920 ⟨by decide, by decide, by decide +kernel⟩ (by decide), List.forall_mem_cons.mpr ⟨cl_virtual (y := y_Dr_reportLayers) (ci := 0) rfl rfl ⟨_, _, rfl⟩ (by decide +kernel) h_Dr_reportLayers wm_1836 wm_8 wm_1833 wm_1835 wv_8_13 ⟨by decide, by decide, by decide +kernel⟩ (by decide), List.forall_mem_cons.mpr ⟨cl_virtual (y := y_Dr_reportArea) (ci := 0) rfl rfl ⟨_, _, rfl⟩ (by decide +kernel) h_Dr_reportArea wm_1840 wm_8 wm_1837 wm_1839 wv_8_14 ⟨by decide, by decide, by decide +kernel⟩ (by decide), List.forall_mem_nil _⟩⟩⟩, List.forall_mem_nil _, List.forall_mem_nil _, GG_pl⟩ (by decide +kernel)
def o_Gr_removeNode_0 : or_T := (33, 6, [(0, (2, 0, 0, [3])), (1, (0, 0, 23, [])), (2, (0, 0, 47, [])), (3, (0, 1, 48, [])), (4, (2, 0, 0, [52])), (5, (0, 0, 23, []))], [(7, [5, 1], [0]), (10, [5, 4, 2], []), (9, [4, 0], [7]), (8, [2], [3]), (20, [0], [30, -1, -1, 1, 0]), (20, [1, 0], [30, -1, 1, 0, 0, -1, 1, 0])], [], [], [(7, [2, 3], [2])], [], [(5, 1, 0, 0), (1, 2, -4294967296, 24), (1, 3, -4294967296, 23), (2, 1, -4294967296, 47), (2, 3, -4294967296, -1), (3, 1, -4294967296, 48), (3, 2, -4294967296, 49)])
theorem oo_Gr_removeNode_0 {kA : Nat → ClassId} : or_ok kA GG o_Gr_removeNode_0 := by
  intro A ta ws vs hD hth hl hk hds hf
  have hl : vs.length = 6 := hl
  have hk : ∀ q ∈ ([(0, (2, 0, 0, [3])), (1, (0, 0, 23, [])), (2, (0, 0, 47, [])), (3, (0, 1, 48, [])), (4, (2, 0, 0, [52])), (5, (0, 0, 23, []))] : List (Nat × tv_T)), tv_ok ta q.2 (n_v vs q.1) := hk
  obtain ⟨t0, hk⟩ := List.forall_mem_cons.mp hk
  have t0 : tv_ok ta (2, 0, 0, [3]) (n_v vs 0) := t0
  have r0 : ta (v_ad (n_v vs 0)) = some 3 := tv_rg t0
  obtain ⟨t1, hk⟩ := List.forall_mem_cons.mp hk
  have t1 : tv_ok ta (0, 0, 23, []) (n_v vs 1) := t1
  have k1 : 0 ≤ v_iv (n_v vs 1) ∧ v_iv (n_v vs 1) ≤ 23 := tv_rng t1
  obtain ⟨t2, hk⟩ := List.forall_mem_cons.mp hk
  have t2 : tv_ok ta (0, 0, 47, []) (n_v vs 2) := t2
  have k2 : 0 ≤ v_iv (n_v vs 2) ∧ v_iv (n_v vs 2) ≤ 47 := tv_rng t2
  obtain ⟨t3, hk⟩ := List.forall_mem_cons.mp hk
  have t3 : tv_ok ta (0, 1, 48, []) (n_v vs 3) := t3
  have k3 : 1 ≤ v_iv (n_v vs 3) ∧ v_iv (n_v vs 3) ≤ 48 := tv_rng t3
  obtain ⟨t4, hk⟩ := List.forall_mem_cons.mp hk
  have t4 : tv_ok ta (2, 0, 0, [52]) (n_v vs 4) := t4
  have r4 : ta (v_ad (n_v vs 4)) = some 52 := tv_rg t4
  obtain ⟨t5, hk⟩ := List.forall_mem_cons.mp hk
  have t5 : tv_ok ta (0, 0, 23, []) (n_v vs 5) := t5
  have k5 : 0 ≤ v_iv (n_v vs 5) ∧ v_iv (n_v vs 5) ≤ 23 := tv_rng t5
  have hds : ∀ q ∈ ([(5, 1, 0, 0), (1, 2, -4294967296, 24), (1, 3, -4294967296, 23), (2, 1, -4294967296, 47), (2, 3, -4294967296, -1), (3, 1, -4294967296, 48), (3, 2, -4294967296, 49)] : List of_T), n_iv vs q.2.1 + q.2.2.1 ≤ n_iv vs q.1 ∧ n_iv vs q.1 ≤ n_iv vs q.2.1 + q.2.2.2 := hds
  obtain ⟨d0, hds⟩ := List.forall_mem_cons.mp hds
  have d0 : v_iv (n_v vs 1) + 0 ≤ v_iv (n_v vs 5) ∧ v_iv (n_v vs 5) ≤ v_iv (n_v vs 1) + 0 := d0
  obtain ⟨d1, hds⟩ := List.forall_mem_cons.mp hds
  have d1 : v_iv (n_v vs 2) + (-4294967296) ≤ v_iv (n_v vs 1) ∧ v_iv (n_v vs 1) ≤ v_iv (n_v vs 2) + 24 := d1
  obtain ⟨d2, hds⟩ := List.forall_mem_cons.mp hds
  have d2 : v_iv (n_v vs 3) + (-4294967296) ≤ v_iv (n_v vs 1) ∧ v_iv (n_v vs 1) ≤ v_iv (n_v vs 3) + 23 := d2
  obtain ⟨d3, hds⟩ := List.forall_mem_cons.mp hds
  have d3 : v_iv (n_v vs 1) + (-4294967296) ≤ v_iv (n_v vs 2) ∧ v_iv (n_v vs 2) ≤ v_iv (n_v vs 1) + 47 := d3
  obtain ⟨d4, hds⟩ := List.forall_mem_cons.mp hds
  have d4 : v_iv (n_v vs 3) + (-4294967296) ≤ v_iv (n_v vs 2) ∧ v_iv (n_v vs 2) ≤ v_iv (n_v vs 3) + (-1) := d4
  obtain ⟨d5, hds⟩ := List.forall_mem_cons.mp hds
  have d5 : v_iv (n_v vs 1) + (-4294967296) ≤ v_iv (n_v vs 3) ∧ v_iv (n_v vs 3) ≤ v_iv (n_v vs 1) + 48 := d5
  obtain ⟨d6, hds⟩ := List.forall_mem_cons.mp hds
  have d6 : v_iv (n_v vs 2) + (-4294967296) ≤ v_iv (n_v vs 3) ∧ v_iv (n_v vs 3) ≤ v_iv (n_v vs 2) + 49 := d6
  have hf : fc_ok [(7, [5, 1], [0]), (10, [5, 4, 2], []), (9, [4, 0], [7]), (8, [2], [3]), (20, [0], [30, -1, -1, 1, 0]), (20, [1, 0], [30, -1, 1, 0, 0, -1, 1, 0])] ta ws vs := hf
  obtain ⟨f0, hf⟩ := fc_un (show (7 : Nat) < 100 from by decide) hf
  have f0 : v_iv (n_v vs 5) = v_iv (n_v vs 1) := f0
  obtain ⟨f1, hf⟩ := fc_un (show (10 : Nat) < 100 from by decide) hf
  have f1 : v_iv (n_v vs 5) = w_el ws (v_ad (n_v vs 4)) (v_iv (n_v vs 2)).toNat := f1
  obtain ⟨f2, hf⟩ := fc_un (show (9 : Nat) < 100 from by decide) hf
  have f2 : n_v vs 4 = w_fd ws (v_ad (n_v vs 0)) 7 := f2
  obtain ⟨f3, hf⟩ := fc_un (show (8 : Nat) < 100 from by decide) hf
  have f3 : 0 ≤ v_iv (n_v vs 2) := f3
  obtain ⟨f4, hf⟩ := fc_un (show (20 : Nat) < 100 from by decide) hf
  have f4 : (-1) * w_fi ws (n_v vs 0) 0 + 0 ≤ (-1) := f4
  obtain ⟨f5, hf⟩ := fc_un (show (20 : Nat) < 100 from by decide) hf
  have f5 : 1 * v_iv (n_v vs 1) + ((-1) * w_fi ws (n_v vs 0) 0 + 0) ≤ (-1) := f5
  have cr_0_7 : ta (w_ar ws (n_v vs 0) 7) = some 52 := tv_rg (th_fd hD hth r0 (g := GG_3) rfl (k := 7) (t := (2, 0, 0, [52])) rfl rfl)
  have ad_4 : v_ad (n_v vs 4) = w_ar ws (n_v vs 0) 7 := congrArg v_ad f2
  rw [ad_4] at f1
  have kz_0_0 : 0 ≤ w_fi ws (n_v vs 0) 0 ∧ w_fi ws (n_v vs 0) 0 ≤ 24 := tv_rng (th_fd hD hth r0 (g := GG_3) rfl (k := 0) (t := (0, 0, 24, [])) rfl rfl)
  have nf0 : fc_1 (7, [2, 3], [2]) ws (vs) := by
    refine ⟨fun n hn => ?_, ?_⟩
    · have hn : n ∈ [2, 3] := hn
      rw [hl]
      simp only [List.mem_cons, List.not_mem_nil, or_false] at hn
      show n < 6; omega
    · show v_iv (n_v vs 2) < v_iv (n_v vs 3)
      omega
  refine ⟨(fun _ h => (by cases h)), [], trivial, ?_, (fun _ h => (by cases h))⟩
  rw [List.append_nil]
  exact List.forall_mem_cons.mpr ⟨⟨show (7 : Nat) < 100 from by decide, nf0⟩, (fun _ h => (by cases h))⟩
def o_Gr_removeNode_1 : or_T := (33, 8, [(0, (2, 0, 0, [3])), (1, (0, 0, 23, [])), (2, (0, 0, 47, [])), (3, (0, 1, 48, [])), (4, (2, 0, 0, [52])), (5, (0, 0, 23, [])), (6, (2, 0, 0, [53])), (7, (0, 0, 23, []))], [(7, [7, 1], [0]), (10, [7, 6, 2], []), (9, [6, 0], [8]), (7, [5, 1], [1]), (10, [5, 4, 2], []), (9, [4, 0], [7]), (8, [2], [3]), (20, [0], [30, -1, -1, 1, 0]), (20, [1, 0], [30, -1, 1, 0, 0, -1, 1, 0])], [], [], [(7, [2, 3], [2])], [], [(7, 1, 0, 0), (1, 2, -4294967296, 24), (1, 3, -4294967296, 23), (2, 1, -4294967296, 47), (2, 3, -4294967296, -1), (3, 1, -4294967296, 48), (3, 2, -4294967296, 49)])
theorem oo_Gr_removeNode_1 {kA : Nat → ClassId} : or_ok kA GG o_Gr_removeNode_1 := by
  intro A ta ws vs hD hth hl hk hds hf
  have hl : vs.length = 8 := hl
  have hk : ∀ q ∈ ([(0, (2, 0, 0, [3])), (1, (0, 0, 23, [])), (2, (0, 0, 47, [])), (3, (0, 1, 48, [])), (4, (2, 0, 0, [52])), (5, (0, 0, 23, [])), (6, (2, 0, 0, [53])), (7, (0, 0, 23, []))] : List (Nat × tv_T)), tv_ok ta q.2 (n_v vs q.1) := hk
  obtain ⟨t0, hk⟩ := List.forall_mem_cons.mp hk
  have t0 : tv_ok ta (2, 0, 0, [3]) (n_v vs 0) := t0
  have r0 : ta (v_ad (n_v vs 0)) = some 3 := tv_rg t0
  obtain ⟨t1, hk⟩ := List.forall_mem_cons.mp hk
  have t1 : tv_ok ta (0, 0, 23, []) (n_v vs 1) := t1
  have k1 : 0 ≤ v_iv (n_v vs 1) ∧ v_iv (n_v vs 1) ≤ 23 := tv_rng t1
  obtain ⟨t2, hk⟩ := List.forall_mem_cons.mp hk
  have t2 : tv_ok ta (0, 0, 47, []) (n_v vs 2) := t2
  have k2 : 0 ≤ v_iv (n_v vs 2) ∧ v_iv (n_v vs 2) ≤ 47 := tv_rng t2
  obtain ⟨t3, hk⟩ := List.forall_mem_cons.mp hk
  have t3 : tv_ok ta (0, 1, 48, []) (n_v vs 3) := t3
  have k3 : 1 ≤ v_iv (n_v vs 3) ∧ v_iv (n_v vs 3) ≤ 48 := tv_rng t3
  obtain ⟨t4, hk⟩ := List.forall_mem_cons.mp hk
  have t4 : tv_ok ta (2, 0, 0, [52]) (n_v vs 4) := t4
  have r4 : ta (v_ad (n_v vs 4)) = some 52 := tv_rg t4
  obtain ⟨t5, hk⟩ := List.forall_mem_cons.mp hk
  have t5 : tv_ok ta (0, 0, 23, []) (n_v vs 5) := t5
  have k5 : 0 ≤ v_iv (n_v vs 5) ∧ v_iv (n_v vs 5) ≤ 23 := tv_rng t5
  obtain ⟨t6, hk⟩ := List.forall_mem_cons.mp hk
  have t6 : tv_ok ta (2, 0, 0, [53]) (n_v vs 6) := t6
  have r6 : ta (v_ad (n_v vs 6)) = some 53 := tv_rg t6
  obtain ⟨t7, hk⟩ := List.forall_mem_cons.mp hk
  have t7 : tv_ok ta (0, 0, 23, []) (n_v vs 7) := t7
  have k7 : 0 ≤ v_iv (n_v vs 7) ∧ v_iv (n_v vs 7) ≤ 23 := tv_rng t7
  have hds : ∀ q ∈ ([(7, 1, 0, 0), (1, 2, -4294967296, 24), (1, 3, -4294967296, 23), (2, 1, -4294967296, 47), (2, 3, -4294967296, -1), (3, 1, -4294967296, 48), (3, 2, -4294967296, 49)] : List of_T), n_iv vs q.2.1 + q.2.2.1 ≤ n_iv vs q.1 ∧ n_iv vs q.1 ≤ n_iv vs q.2.1 + q.2.2.2 := hds
  obtain ⟨d0, hds⟩ := List.forall_mem_cons.mp hds
  have d0 : v_iv (n_v vs 1) + 0 ≤ v_iv (n_v vs 7) ∧ v_iv (n_v vs 7) ≤ v_iv (n_v vs 1) + 0 := d0
  obtain ⟨d1, hds⟩ := List.forall_mem_cons.mp hds
  have d1 : v_iv (n_v vs 2) + (-4294967296) ≤ v_iv (n_v vs 1) ∧ v_iv (n_v vs 1) ≤ v_iv (n_v vs 2) + 24 := d1
  obtain ⟨d2, hds⟩ := List.forall_mem_cons.mp hds
  have d2 : v_iv (n_v vs 3) + (-4294967296) ≤ v_iv (n_v vs 1) ∧ v_iv (n_v vs 1) ≤ v_iv (n_v vs 3) + 23 := d2
  obtain ⟨d3, hds⟩ := List.forall_mem_cons.mp hds
  have d3 : v_iv (n_v vs 1) + (-4294967296) ≤ v_iv (n_v vs 2) ∧ v_iv (n_v vs 2) ≤ v_iv (n_v vs 1) + 47 := d3
  obtain ⟨d4, hds⟩ := List.forall_mem_cons.mp hds
  have d4 : v_iv (n_v vs 3) + (-4294967296) ≤ v_iv (n_v vs 2) ∧ v_iv (n_v vs 2) ≤ v_iv (n_v vs 3) + (-1) := d4
  obtain ⟨d5, hds⟩ := List.forall_mem_cons.mp hds
  have d5 : v_iv (n_v vs 1) + (-4294967296) ≤ v_iv (n_v vs 3) ∧ v_iv (n_v vs 3) ≤ v_iv (n_v vs 1) + 48 := d5
  obtain ⟨d6, hds⟩ := List.forall_mem_cons.mp hds
  have d6 : v_iv (n_v vs 2) + (-4294967296) ≤ v_iv (n_v vs 3) ∧ v_iv (n_v vs 3) ≤ v_iv (n_v vs 2) + 49 := d6
  have hf : fc_ok [(7, [7, 1], [0]), (10, [7, 6, 2], []), (9, [6, 0], [8]), (7, [5, 1], [1]), (10, [5, 4, 2], []), (9, [4, 0], [7]), (8, [2], [3]), (20, [0], [30, -1, -1, 1, 0]), (20, [1, 0], [30, -1, 1, 0, 0, -1, 1, 0])] ta ws vs := hf
  obtain ⟨f0, hf⟩ := fc_un (show (7 : Nat) < 100 from by decide) hf
  have f0 : v_iv (n_v vs 7) = v_iv (n_v vs 1) := f0
  obtain ⟨f1, hf⟩ := fc_un (show (10 : Nat) < 100 from by decide) hf
  have f1 : v_iv (n_v vs 7) = w_el ws (v_ad (n_v vs 6)) (v_iv (n_v vs 2)).toNat := f1
  obtain ⟨f2, hf⟩ := fc_un (show (9 : Nat) < 100 from by decide) hf
  have f2 : n_v vs 6 = w_fd ws (v_ad (n_v vs 0)) 8 := f2
  obtain ⟨f3, hf⟩ := fc_un (show (7 : Nat) < 100 from by decide) hf
  have f3 : v_iv (n_v vs 5) ≠ v_iv (n_v vs 1) := f3
  obtain ⟨f4, hf⟩ := fc_un (show (10 : Nat) < 100 from by decide) hf
  have f4 : v_iv (n_v vs 5) = w_el ws (v_ad (n_v vs 4)) (v_iv (n_v vs 2)).toNat := f4
  obtain ⟨f5, hf⟩ := fc_un (show (9 : Nat) < 100 from by decide) hf
  have f5 : n_v vs 4 = w_fd ws (v_ad (n_v vs 0)) 7 := f5
  obtain ⟨f6, hf⟩ := fc_un (show (8 : Nat) < 100 from by decide) hf
  have f6 : 0 ≤ v_iv (n_v vs 2) := f6
  obtain ⟨f7, hf⟩ := fc_un (show (20 : Nat) < 100 from by decide) hf
  have f7 : (-1) * w_fi ws (n_v vs 0) 0 + 0 ≤ (-1) := f7
  obtain ⟨f8, hf⟩ := fc_un (show (20 : Nat) < 100 from by decide) hf
  have f8 : 1 * v_iv (n_v vs 1) + ((-1) * w_fi ws (n_v vs 0) 0 + 0) ≤ (-1) := f8
  have cr_0_7 : ta (w_ar ws (n_v vs 0) 7) = some 52 := tv_rg (th_fd hD hth r0 (g := GG_3) rfl (k := 7) (t := (2, 0, 0, [52])) rfl rfl)
  have cr_0_8 : ta (w_ar ws (n_v vs 0) 8) = some 53 := tv_rg (th_fd hD hth r0 (g := GG_3) rfl (k := 8) (t := (2, 0, 0, [53])) rfl rfl)
  have ad_6 : v_ad (n_v vs 6) = w_ar ws (n_v vs 0) 8 := congrArg v_ad f2
  have ad_4 : v_ad (n_v vs 4) = w_ar ws (n_v vs 0) 7 := congrArg v_ad f5
  rw [ad_6] at f1
  rw [ad_4] at f4
  have kz_0_0 : 0 ≤ w_fi ws (n_v vs 0) 0 ∧ w_fi ws (n_v vs 0) 0 ≤ 24 := tv_rng (th_fd hD hth r0 (g := GG_3) rfl (k := 0) (t := (0, 0, 24, [])) rfl rfl)
  have nf0 : fc_1 (7, [2, 3], [2]) ws (vs) := by
    refine ⟨fun n hn => ?_, ?_⟩
    · have hn : n ∈ [2, 3] := hn
      rw [hl]
      simp only [List.mem_cons, List.not_mem_nil, or_false] at hn
      show n < 8; omega
    · show v_iv (n_v vs 2) < v_iv (n_v vs 3)
      omega
  refine ⟨(fun _ h => (by cases h)), [], trivial, ?_, (fun _ h => (by cases h))⟩
  rw [List.append_nil]
  exact List.forall_mem_cons.mpr ⟨⟨show (7 : Nat) < 100 from by decide, nf0⟩, (fun _ h => (by cases h))⟩
def o_Gr_removeNode_2 : or_T := (110, 5, [(0, (2, 0, 0, [3])), (1, (0, 0, 23, [])), (4, (0, 0, 24, []))], [(9, [4, 0], [0]), (20, [0], [30, -1, -1, 1, 0]), (20, [1, 0], [30, -1, 1, 0, 0, -1, 1, 0])], [(4, (0, 1, 24, []))], [], [], [], [])
theorem oo_Gr_removeNode_2 {kA : Nat → ClassId} : or_ok kA GG o_Gr_removeNode_2 := by
  intro A ta ws vs hD hth hl hk hds hf
  have hl : vs.length = 5 := hl
  have hk : ∀ q ∈ ([(0, (2, 0, 0, [3])), (1, (0, 0, 23, [])), (4, (0, 0, 24, []))] : List (Nat × tv_T)), tv_ok ta q.2 (n_v vs q.1) := hk
  obtain ⟨t0, hk⟩ := List.forall_mem_cons.mp hk
  have t0 : tv_ok ta (2, 0, 0, [3]) (n_v vs 0) := t0
  have r0 : ta (v_ad (n_v vs 0)) = some 3 := tv_rg t0
  obtain ⟨t1, hk⟩ := List.forall_mem_cons.mp hk
  have t1 : tv_ok ta (0, 0, 23, []) (n_v vs 1) := t1
  have k1 : 0 ≤ v_iv (n_v vs 1) ∧ v_iv (n_v vs 1) ≤ 23 := tv_rng t1
  obtain ⟨t4, hk⟩ := List.forall_mem_cons.mp hk
  have t4 : tv_ok ta (0, 0, 24, []) (n_v vs 4) := t4
  have k4 : 0 ≤ v_iv (n_v vs 4) ∧ v_iv (n_v vs 4) ≤ 24 := tv_rng t4
  have hf : fc_ok [(9, [4, 0], [0]), (20, [0], [30, -1, -1, 1, 0]), (20, [1, 0], [30, -1, 1, 0, 0, -1, 1, 0])] ta ws vs := hf
  obtain ⟨f0, hf⟩ := fc_un (show (9 : Nat) < 100 from by decide) hf
  have f0 : n_v vs 4 = w_fd ws (v_ad (n_v vs 0)) 0 := f0
  obtain ⟨f1, hf⟩ := fc_un (show (20 : Nat) < 100 from by decide) hf
  have f1 : (-1) * w_fi ws (n_v vs 0) 0 + 0 ≤ (-1) := f1
  obtain ⟨f2, hf⟩ := fc_un (show (20 : Nat) < 100 from by decide) hf
  have f2 : 1 * v_iv (n_v vs 1) + ((-1) * w_fi ws (n_v vs 0) 0 + 0) ≤ (-1) := f2
  have g0 : v_iv (n_v vs 4) = w_fi ws (n_v vs 0) 0 := congrArg v_iv f0
  have kz_0_0 : 0 ≤ w_fi ws (n_v vs 0) 0 ∧ w_fi ws (n_v vs 0) 0 ≤ 24 := tv_rng (th_fd hD hth r0 (g := GG_3) rfl (k := 0) (t := (0, 0, 24, [])) rfl rfl)
  have rf4 : tv_ok ta (0, 1, 24, []) (n_v vs 4) := tv_in t4 (by omega) (by omega)
  refine ⟨List.forall_mem_cons.mpr ⟨rf4, (fun _ h => (by cases h))⟩, [], trivial, ?_, (fun _ h => (by cases h))⟩
  rw [List.append_nil]
  exact (fun _ h => (by cases h))
def o_Gr_removeNode_3 : or_T := (114, 8, [(0, (2, 0, 0, [3])), (1, (0, 0, 23, [])), (4, (0, 1, 24, [])), (5, (0, -22, 24, [])), (6, (0, 1, 1, [])), (7, (0, -23, 23, []))], [(2, [7, 5, 6], []), (2, [5, 4, 1], []), (9, [4, 0], [0]), (20, [0], [30, -1, -1, 1, 0]), (20, [1, 0], [30, -1, 1, 0, 0, -1, 1, 0])], [(7, (0, 0, 23, []))], [], [], [], [(7, 5, -1, -1), (7, 4, -24, -1), (5, 4, -23, 0)])
theorem oo_Gr_removeNode_3 {kA : Nat → ClassId} : or_ok kA GG o_Gr_removeNode_3 := by
  intro A ta ws vs hD hth hl hk hds hf
  have hl : vs.length = 8 := hl
  have hk : ∀ q ∈ ([(0, (2, 0, 0, [3])), (1, (0, 0, 23, [])), (4, (0, 1, 24, [])), (5, (0, -22, 24, [])), (6, (0, 1, 1, [])), (7, (0, -23, 23, []))] : List (Nat × tv_T)), tv_ok ta q.2 (n_v vs q.1) := hk
  obtain ⟨t0, hk⟩ := List.forall_mem_cons.mp hk
  have t0 : tv_ok ta (2, 0, 0, [3]) (n_v vs 0) := t0
  have r0 : ta (v_ad (n_v vs 0)) = some 3 := tv_rg t0
  obtain ⟨t1, hk⟩ := List.forall_mem_cons.mp hk
  have t1 : tv_ok ta (0, 0, 23, []) (n_v vs 1) := t1
  have k1 : 0 ≤ v_iv (n_v vs 1) ∧ v_iv (n_v vs 1) ≤ 23 := tv_rng t1
  obtain ⟨t4, hk⟩ := List.forall_mem_cons.mp hk
  have t4 : tv_ok ta (0, 1, 24, []) (n_v vs 4) := t4
  have k4 : 1 ≤ v_iv (n_v vs 4) ∧ v_iv (n_v vs 4) ≤ 24 := tv_rng t4
  obtain ⟨t5, hk⟩ := List.forall_mem_cons.mp hk
  have t5 : tv_ok ta (0, -22, 24, []) (n_v vs 5) := t5
  have k5 : (-22) ≤ v_iv (n_v vs 5) ∧ v_iv (n_v vs 5) ≤ 24 := tv_rng t5
  obtain ⟨t6, hk⟩ := List.forall_mem_cons.mp hk
  have t6 : tv_ok ta (0, 1, 1, []) (n_v vs 6) := t6
  have k6 : 1 ≤ v_iv (n_v vs 6) ∧ v_iv (n_v vs 6) ≤ 1 := tv_rng t6
  obtain ⟨t7, hk⟩ := List.forall_mem_cons.mp hk
  have t7 : tv_ok ta (0, -23, 23, []) (n_v vs 7) := t7
  have k7 : (-23) ≤ v_iv (n_v vs 7) ∧ v_iv (n_v vs 7) ≤ 23 := tv_rng t7
  have hds : ∀ q ∈ ([(7, 5, -1, -1), (7, 4, -24, -1), (5, 4, -23, 0)] : List of_T), n_iv vs q.2.1 + q.2.2.1 ≤ n_iv vs q.1 ∧ n_iv vs q.1 ≤ n_iv vs q.2.1 + q.2.2.2 := hds
  obtain ⟨d0, hds⟩ := List.forall_mem_cons.mp hds
  have d0 : v_iv (n_v vs 5) + (-1) ≤ v_iv (n_v vs 7) ∧ v_iv (n_v vs 7) ≤ v_iv (n_v vs 5) + (-1) := d0
  obtain ⟨d1, hds⟩ := List.forall_mem_cons.mp hds
  have d1 : v_iv (n_v vs 4) + (-24) ≤ v_iv (n_v vs 7) ∧ v_iv (n_v vs 7) ≤ v_iv (n_v vs 4) + (-1) := d1
  obtain ⟨d2, hds⟩ := List.forall_mem_cons.mp hds
  have d2 : v_iv (n_v vs 4) + (-23) ≤ v_iv (n_v vs 5) ∧ v_iv (n_v vs 5) ≤ v_iv (n_v vs 4) + 0 := d2
  have hf : fc_ok [(2, [7, 5, 6], []), (2, [5, 4, 1], []), (9, [4, 0], [0]), (20, [0], [30, -1, -1, 1, 0]), (20, [1, 0], [30, -1, 1, 0, 0, -1, 1, 0])] ta ws vs := hf
  obtain ⟨f0, hf⟩ := fc_un (show (2 : Nat) < 100 from by decide) hf
  have f0 : v_iv (n_v vs 7) = v_iv (n_v vs 5) - v_iv (n_v vs 6) := f0
  obtain ⟨f1, hf⟩ := fc_un (show (2 : Nat) < 100 from by decide) hf
  have f1 : v_iv (n_v vs 5) = v_iv (n_v vs 4) - v_iv (n_v vs 1) := f1
  obtain ⟨f2, hf⟩ := fc_un (show (9 : Nat) < 100 from by decide) hf
  have f2 : n_v vs 4 = w_fd ws (v_ad (n_v vs 0)) 0 := f2
  obtain ⟨f3, hf⟩ := fc_un (show (20 : Nat) < 100 from by decide) hf
  have f3 : (-1) * w_fi ws (n_v vs 0) 0 + 0 ≤ (-1) := f3
  obtain ⟨f4, hf⟩ := fc_un (show (20 : Nat) < 100 from by decide) hf
  have f4 : 1 * v_iv (n_v vs 1) + ((-1) * w_fi ws (n_v vs 0) 0 + 0) ≤ (-1) := f4
  have g2 : v_iv (n_v vs 4) = w_fi ws (n_v vs 0) 0 := congrArg v_iv f2
  have kz_0_0 : 0 ≤ w_fi ws (n_v vs 0) 0 ∧ w_fi ws (n_v vs 0) 0 ≤ 24 := tv_rng (th_fd hD hth r0 (g := GG_3) rfl (k := 0) (t := (0, 0, 24, [])) rfl rfl)
  have rf7 : tv_ok ta (0, 0, 23, []) (n_v vs 7) := tv_in t7 (by omega) (by omega)
  refine ⟨List.forall_mem_cons.mpr ⟨rf7, (fun _ h => (by cases h))⟩, [], trivial, ?_, (fun _ h => (by cases h))⟩
  rw [List.append_nil]
  exact (fun _ h => (by cases h))
def o_Gr_removeNode_4 : or_T := (137, 17, [(0, (2, 0, 0, [3])), (1, (0, 0, 23, [])), (4, (0, 1, 24, [])), (5, (0, -22, 24, [])), (6, (0, 1, 1, [])), (7, (0, 0, 23, [])), (9, (0, 1, 1, [])), (10, (0, 1, 24, [])), (11, (0, 8, 8, [])), (12, (0, 8, 192, [])), (13, (0, 8, 8, [])), (14, (0, 0, 184, [])), (15, (0, 8, 8, [])), (16, (0, 0, 184, []))], [(3, [16, 7, 15], []), (3, [14, 1, 13], []), (3, [12, 10, 11], []), (1, [10, 1, 9], []), (2, [7, 5, 6], []), (2, [5, 4, 1], []), (9, [4, 0], [0]), (20, [0], [30, -1, -1, 1, 0]), (20, [1, 0], [30, -1, 1, 0, 0, -1, 1, 0])], [], [], [(21, [12, 16], [192]), (21, [14, 16], [192])], [], [(10, 1, 1, 1), (7, 5, -1, -1), (7, 4, -24, -1), (5, 4, -23, 0)])
theorem oo_Gr_removeNode_4 {kA : Nat → ClassId} : or_ok kA GG o_Gr_removeNode_4 := by
  intro A ta ws vs hD hth hl hk hds hf
  have hl : vs.length = 17 := hl
  have hk : ∀ q ∈ ([(0, (2, 0, 0, [3])), (1, (0, 0, 23, [])), (4, (0, 1, 24, [])), (5, (0, -22, 24, [])), (6, (0, 1, 1, [])), (7, (0, 0, 23, [])), (9, (0, 1, 1, [])), (10, (0, 1, 24, [])), (11, (0, 8, 8, [])), (12, (0, 8, 192, [])), (13, (0, 8, 8, [])), (14, (0, 0, 184, [])), (15, (0, 8, 8, [])), (16, (0, 0, 184, []))] : List (Nat × tv_T)), tv_ok ta q.2 (n_v vs q.1) := hk
  obtain ⟨t0, hk⟩ := List.forall_mem_cons.mp hk
  have t0 : tv_ok ta (2, 0, 0, [3]) (n_v vs 0) := t0
  have r0 : ta (v_ad (n_v vs 0)) = some 3 := tv_rg t0
  obtain ⟨t1, hk⟩ := List.forall_mem_cons.mp hk
  have t1 : tv_ok ta (0, 0, 23, []) (n_v vs 1) := t1
  have k1 : 0 ≤ v_iv (n_v vs 1) ∧ v_iv (n_v vs 1) ≤ 23 := tv_rng t1
  obtain ⟨t4, hk⟩ := List.forall_mem_cons.mp hk
  have t4 : tv_ok ta (0, 1, 24, []) (n_v vs 4) := t4
  have k4 : 1 ≤ v_iv (n_v vs 4) ∧ v_iv (n_v vs 4) ≤ 24 := tv_rng t4
  obtain ⟨t5, hk⟩ := List.forall_mem_cons.mp hk
  have t5 : tv_ok ta (0, -22, 24, []) (n_v vs 5) := t5
  have k5 : (-22) ≤ v_iv (n_v vs 5) ∧ v_iv (n_v vs 5) ≤ 24 := tv_rng t5
  obtain ⟨t6, hk⟩ := List.forall_mem_cons.mp hk
  have t6 : tv_ok ta (0, 1, 1, []) (n_v vs 6) := t6
  have k6 : 1 ≤ v_iv (n_v vs 6) ∧ v_iv (n_v vs 6) ≤ 1 := tv_rng t6
  obtain ⟨t7, hk⟩ := List.forall_mem_cons.mp hk
  have t7 : tv_ok ta (0, 0, 23, []) (n_v vs 7) := t7
  have k7 : 0 ≤ v_iv (n_v vs 7) ∧ v_iv (n_v vs 7) ≤ 23 := tv_rng t7
  obtain ⟨t9, hk⟩ := List.forall_mem_cons.mp hk
  have t9 : tv_ok ta (0, 1, 1, []) (n_v vs 9) := t9
  have k9 : 1 ≤ v_iv (n_v vs 9) ∧ v_iv (n_v vs 9) ≤ 1 := tv_rng t9
  obtain ⟨t10, hk⟩ := List.forall_mem_cons.mp hk
  have t10 : tv_ok ta (0, 1, 24, []) (n_v vs 10) := t10
  have k10 : 1 ≤ v_iv (n_v vs 10) ∧ v_iv (n_v vs 10) ≤ 24 := tv_rng t10
  obtain ⟨t11, hk⟩ := List.forall_mem_cons.mp hk
  have t11 : tv_ok ta (0, 8, 8, []) (n_v vs 11) := t11
  have k11 : 8 ≤ v_iv (n_v vs 11) ∧ v_iv (n_v vs 11) ≤ 8 := tv_rng t11
  obtain ⟨t12, hk⟩ := List.forall_mem_cons.mp hk
  have t12 : tv_ok ta (0, 8, 192, []) (n_v vs 12) := t12
  have k12 : 8 ≤ v_iv (n_v vs 12) ∧ v_iv (n_v vs 12) ≤ 192 := tv_rng t12
  obtain ⟨t13, hk⟩ := List.forall_mem_cons.mp hk
  have t13 : tv_ok ta (0, 8, 8, []) (n_v vs 13) := t13
  have k13 : 8 ≤ v_iv (n_v vs 13) ∧ v_iv (n_v vs 13) ≤ 8 := tv_rng t13
  obtain ⟨t14, hk⟩ := List.forall_mem_cons.mp hk
  have t14 : tv_ok ta (0, 0, 184, []) (n_v vs 14) := t14
  have k14 : 0 ≤ v_iv (n_v vs 14) ∧ v_iv (n_v vs 14) ≤ 184 := tv_rng t14
  obtain ⟨t15, hk⟩ := List.forall_mem_cons.mp hk
  have t15 : tv_ok ta (0, 8, 8, []) (n_v vs 15) := t15
  have k15 : 8 ≤ v_iv (n_v vs 15) ∧ v_iv (n_v vs 15) ≤ 8 := tv_rng t15
  obtain ⟨t16, hk⟩ := List.forall_mem_cons.mp hk
  have t16 : tv_ok ta (0, 0, 184, []) (n_v vs 16) := t16
  have k16 : 0 ≤ v_iv (n_v vs 16) ∧ v_iv (n_v vs 16) ≤ 184 := tv_rng t16
  have hds : ∀ q ∈ ([(10, 1, 1, 1), (7, 5, -1, -1), (7, 4, -24, -1), (5, 4, -23, 0)] : List of_T), n_iv vs q.2.1 + q.2.2.1 ≤ n_iv vs q.1 ∧ n_iv vs q.1 ≤ n_iv vs q.2.1 + q.2.2.2 := hds
  obtain ⟨d0, hds⟩ := List.forall_mem_cons.mp hds
  have d0 : v_iv (n_v vs 1) + 1 ≤ v_iv (n_v vs 10) ∧ v_iv (n_v vs 10) ≤ v_iv (n_v vs 1) + 1 := d0
  obtain ⟨d1, hds⟩ := List.forall_mem_cons.mp hds
  have d1 : v_iv (n_v vs 5) + (-1) ≤ v_iv (n_v vs 7) ∧ v_iv (n_v vs 7) ≤ v_iv (n_v vs 5) + (-1) := d1
  obtain ⟨d2, hds⟩ := List.forall_mem_cons.mp hds
  have d2 : v_iv (n_v vs 4) + (-24) ≤ v_iv (n_v vs 7) ∧ v_iv (n_v vs 7) ≤ v_iv (n_v vs 4) + (-1) := d2
  obtain ⟨d3, hds⟩ := List.forall_mem_cons.mp hds
  have d3 : v_iv (n_v vs 4) + (-23) ≤ v_iv (n_v vs 5) ∧ v_iv (n_v vs 5) ≤ v_iv (n_v vs 4) + 0 := d3
  have hf : fc_ok [(3, [16, 7, 15], []), (3, [14, 1, 13], []), (3, [12, 10, 11], []), (1, [10, 1, 9], []), (2, [7, 5, 6], []), (2, [5, 4, 1], []), (9, [4, 0], [0]), (20, [0], [30, -1, -1, 1, 0]), (20, [1, 0], [30, -1, 1, 0, 0, -1, 1, 0])] ta ws vs := hf
  obtain ⟨f0, hf⟩ := fc_un (show (3 : Nat) < 100 from by decide) hf
  have f0 : v_iv (n_v vs 16) = v_iv (n_v vs 7) * v_iv (n_v vs 15) := f0
  rw [show v_iv (n_v vs 15) = 8 from by omega] at f0
  obtain ⟨f1, hf⟩ := fc_un (show (3 : Nat) < 100 from by decide) hf
  have f1 : v_iv (n_v vs 14) = v_iv (n_v vs 1) * v_iv (n_v vs 13) := f1
  rw [show v_iv (n_v vs 13) = 8 from by omega] at f1
  obtain ⟨f2, hf⟩ := fc_un (show (3 : Nat) < 100 from by decide) hf
  have f2 : v_iv (n_v vs 12) = v_iv (n_v vs 10) * v_iv (n_v vs 11) := f2
  rw [show v_iv (n_v vs 11) = 8 from by omega] at f2
  obtain ⟨f3, hf⟩ := fc_un (show (1 : Nat) < 100 from by decide) hf
  have f3 : v_iv (n_v vs 10) = v_iv (n_v vs 1) + v_iv (n_v vs 9) := f3
  obtain ⟨f4, hf⟩ := fc_un (show (2 : Nat) < 100 from by decide) hf
  have f4 : v_iv (n_v vs 7) = v_iv (n_v vs 5) - v_iv (n_v vs 6) := f4
  obtain ⟨f5, hf⟩ := fc_un (show (2 : Nat) < 100 from by decide) hf
  have f5 : v_iv (n_v vs 5) = v_iv (n_v vs 4) - v_iv (n_v vs 1) := f5
  obtain ⟨f6, hf⟩ := fc_un (show (9 : Nat) < 100 from by decide) hf
  have f6 : n_v vs 4 = w_fd ws (v_ad (n_v vs 0)) 0 := f6
  obtain ⟨f7, hf⟩ := fc_un (show (20 : Nat) < 100 from by decide) hf
  have f7 : (-1) * w_fi ws (n_v vs 0) 0 + 0 ≤ (-1) := f7
  obtain ⟨f8, hf⟩ := fc_un (show (20 : Nat) < 100 from by decide) hf
  have f8 : 1 * v_iv (n_v vs 1) + ((-1) * w_fi ws (n_v vs 0) 0 + 0) ≤ (-1) := f8
  have g6 : v_iv (n_v vs 4) = w_fi ws (n_v vs 0) 0 := congrArg v_iv f6
  have kz_0_0 : 0 ≤ w_fi ws (n_v vs 0) 0 ∧ w_fi ws (n_v vs 0) 0 ≤ 24 := tv_rng (th_fd hD hth r0 (g := GG_3) rfl (k := 0) (t := (0, 0, 24, [])) rfl rfl)
  have nf0 : fc_1 (21, [12, 16], [192]) ws (vs) := by
    refine ⟨fun n hn => ?_, ?_⟩
    · have hn : n ∈ [12, 16] := hn
      rw [hl]
      simp only [List.mem_cons, List.not_mem_nil, or_false] at hn
      show n < 17; omega
    · show v_iv (n_v vs 12) + v_iv (n_v vs 16) ≤ 192
      omega
  have nf1 : fc_1 (21, [14, 16], [192]) ws (vs) := by
    refine ⟨fun n hn => ?_, ?_⟩
    · have hn : n ∈ [14, 16] := hn
      rw [hl]
      simp only [List.mem_cons, List.not_mem_nil, or_false] at hn
      show n < 17; omega
    · show v_iv (n_v vs 14) + v_iv (n_v vs 16) ≤ 192
      omega
  refine ⟨(fun _ h => (by cases h)), [], trivial, ?_, (fun _ h => (by cases h))⟩
  rw [List.append_nil]
  exact List.forall_mem_cons.mpr ⟨⟨show (21 : Nat) < 100 from by decide, nf0⟩, List.forall_mem_cons.mpr ⟨⟨show (21 : Nat) < 100 from by decide, nf1⟩, (fun _ h => (by cases h))⟩⟩
def o_Gr_removeNode_5 : or_T := (153, 20, [(0, (2, 0, 0, [3])), (1, (0, 0, 23, [])), (4, (0, 1, 24, [])), (5, (0, -22, 24, [])), (6, (0, 1, 1, [])), (7, (0, 0, 23, [])), (18, (0, 1, 1, [])), (19, (0, 1, 24, []))], [(1, [19, 1, 18], []), (20, [0], [30, -1, -1, 1, 0]), (20, [1, 0], [30, -1, 1, 0, 0, -1, 1, 0]), (102, [16], [281474976710656]), (2, [7, 5, 6], []), (2, [5, 4, 1], [])], [], [], [(21, [19, 7], [24]), (21, [1, 7], [24])], [], [(19, 1, 1, 1), (7, 5, -1, -1), (7, 4, -24, -1), (5, 4, -23, 0)])
theorem oo_Gr_removeNode_5 {kA : Nat → ClassId} : or_ok kA GG o_Gr_removeNode_5 := by
  intro A ta ws vs hD hth hl hk hds hf
  have hl : vs.length = 20 := hl
  have hk : ∀ q ∈ ([(0, (2, 0, 0, [3])), (1, (0, 0, 23, [])), (4, (0, 1, 24, [])), (5, (0, -22, 24, [])), (6, (0, 1, 1, [])), (7, (0, 0, 23, [])), (18, (0, 1, 1, [])), (19, (0, 1, 24, []))] : List (Nat × tv_T)), tv_ok ta q.2 (n_v vs q.1) := hk
  obtain ⟨t0, hk⟩ := List.forall_mem_cons.mp hk
  have t0 : tv_ok ta (2, 0, 0, [3]) (n_v vs 0) := t0
  have r0 : ta (v_ad (n_v vs 0)) = some 3 := tv_rg t0
  obtain ⟨t1, hk⟩ := List.forall_mem_cons.mp hk
  have t1 : tv_ok ta (0, 0, 23, []) (n_v vs 1) := t1
  have k1 : 0 ≤ v_iv (n_v vs 1) ∧ v_iv (n_v vs 1) ≤ 23 := tv_rng t1
  obtain ⟨t4, hk⟩ := List.forall_mem_cons.mp hk
  have t4 : tv_ok ta (0, 1, 24, []) (n_v vs 4) := t4
  have k4 : 1 ≤ v_iv (n_v vs 4) ∧ v_iv (n_v vs 4) ≤ 24 := tv_rng t4
  obtain ⟨t5, hk⟩ := List.forall_mem_cons.mp hk
  have t5 : tv_ok ta (0, -22, 24, []) (n_v vs 5) := t5
  have k5 : (-22) ≤ v_iv (n_v vs 5) ∧ v_iv (n_v vs 5) ≤ 24 := tv_rng t5
  obtain ⟨t6, hk⟩ := List.forall_mem_cons.mp hk
  have t6 : tv_ok ta (0, 1, 1, []) (n_v vs 6) := t6
  have k6 : 1 ≤ v_iv (n_v vs 6) ∧ v_iv (n_v vs 6) ≤ 1 := tv_rng t6
  obtain ⟨t7, hk⟩ := List.forall_mem_cons.mp hk
  have t7 : tv_ok ta (0, 0, 23, []) (n_v vs 7) := t7
  have k7 : 0 ≤ v_iv (n_v vs 7) ∧ v_iv (n_v vs 7) ≤ 23 := tv_rng t7
  obtain ⟨t18, hk⟩ := List.forall_mem_cons.mp hk
  have t18 : tv_ok ta (0, 1, 1, []) (n_v vs 18) := t18
  have k18 : 1 ≤ v_iv (n_v vs 18) ∧ v_iv (n_v vs 18) ≤ 1 := tv_rng t18
  obtain ⟨t19, hk⟩ := List.forall_mem_cons.mp hk
  have t19 : tv_ok ta (0, 1, 24, []) (n_v vs 19) := t19
  have k19 : 1 ≤ v_iv (n_v vs 19) ∧ v_iv (n_v vs 19) ≤ 24 := tv_rng t19
  have hds : ∀ q ∈ ([(19, 1, 1, 1), (7, 5, -1, -1), (7, 4, -24, -1), (5, 4, -23, 0)] : List of_T), n_iv vs q.2.1 + q.2.2.1 ≤ n_iv vs q.1 ∧ n_iv vs q.1 ≤ n_iv vs q.2.1 + q.2.2.2 := hds
  obtain ⟨d0, hds⟩ := List.forall_mem_cons.mp hds
  have d0 : v_iv (n_v vs 1) + 1 ≤ v_iv (n_v vs 19) ∧ v_iv (n_v vs 19) ≤ v_iv (n_v vs 1) + 1 := d0
  obtain ⟨d1, hds⟩ := List.forall_mem_cons.mp hds
  have d1 : v_iv (n_v vs 5) + (-1) ≤ v_iv (n_v vs 7) ∧ v_iv (n_v vs 7) ≤ v_iv (n_v vs 5) + (-1) := d1
  obtain ⟨d2, hds⟩ := List.forall_mem_cons.mp hds
  have d2 : v_iv (n_v vs 4) + (-24) ≤ v_iv (n_v vs 7) ∧ v_iv (n_v vs 7) ≤ v_iv (n_v vs 4) + (-1) := d2
  obtain ⟨d3, hds⟩ := List.forall_mem_cons.mp hds
  have d3 : v_iv (n_v vs 4) + (-23) ≤ v_iv (n_v vs 5) ∧ v_iv (n_v vs 5) ≤ v_iv (n_v vs 4) + 0 := d3
  have hf : fc_ok [(1, [19, 1, 18], []), (20, [0], [30, -1, -1, 1, 0]), (20, [1, 0], [30, -1, 1, 0, 0, -1, 1, 0]), (102, [16], [281474976710656]), (2, [7, 5, 6], []), (2, [5, 4, 1], [])] ta ws vs := hf
  obtain ⟨f0, hf⟩ := fc_un (show (1 : Nat) < 100 from by decide) hf
  have f0 : v_iv (n_v vs 19) = v_iv (n_v vs 1) + v_iv (n_v vs 18) := f0
  obtain ⟨f1, hf⟩ := fc_un (show (20 : Nat) < 100 from by decide) hf
  have f1 : (-1) * w_fi ws (n_v vs 0) 0 + 0 ≤ (-1) := f1
  obtain ⟨f2, hf⟩ := fc_un (show (20 : Nat) < 100 from by decide) hf
  have f2 : 1 * v_iv (n_v vs 1) + ((-1) * w_fi ws (n_v vs 0) 0 + 0) ≤ (-1) := f2
  obtain ⟨ta1, w1, le1, ⟨_, s1⟩, hf⟩ := fc_us (show ¬ (102 : Nat) < 100 from by decide) hf
  obtain ⟨f4, hf⟩ := fc_un (show (2 : Nat) < 100 from by decide) hf
  have f4 : v_iv (n_v vs 7) = v_iv (n_v vs 5) - v_iv (n_v vs 6) := f4
  obtain ⟨f5, hf⟩ := fc_un (show (2 : Nat) < 100 from by decide) hf
  have f5 : v_iv (n_v vs 5) = v_iv (n_v vs 4) - v_iv (n_v vs 1) := f5
  have kz_0_0 : 0 ≤ w_fi ws (n_v vs 0) 0 ∧ w_fi ws (n_v vs 0) 0 ≤ 24 := tv_rng (th_fd hD hth r0 (g := GG_3) rfl (k := 0) (t := (0, 0, 24, [])) rfl rfl)
  have nf0 : fc_1 (21, [19, 7], [24]) ws (vs) := by
    refine ⟨fun n hn => ?_, ?_⟩
    · have hn : n ∈ [19, 7] := hn
      rw [hl]
      simp only [List.mem_cons, List.not_mem_nil, or_false] at hn
      show n < 20; omega
    · show v_iv (n_v vs 19) + v_iv (n_v vs 7) ≤ 24
      omega
  have nf1 : fc_1 (21, [1, 7], [24]) ws (vs) := by
    refine ⟨fun n hn => ?_, ?_⟩
    · have hn : n ∈ [1, 7] := hn
      rw [hl]
      simp only [List.mem_cons, List.not_mem_nil, or_false] at hn
      show n < 20; omega
    · show v_iv (n_v vs 1) + v_iv (n_v vs 7) ≤ 24
      omega
  refine ⟨(fun _ h => (by cases h)), [], trivial, ?_, (fun _ h => (by cases h))⟩
  rw [List.append_nil]
  exact List.forall_mem_cons.mpr ⟨⟨show (21 : Nat) < 100 from by decide, nf0⟩, List.forall_mem_cons.mpr ⟨⟨show (21 : Nat) < 100 from by decide, nf1⟩, (fun _ h => (by cases h))⟩⟩
def o_Gr_removeNode_6 : or_T := (169, 23, [(0, (2, 0, 0, [3])), (1, (0, 0, 23, [])), (4, (0, 1, 24, [])), (5, (0, -22, 24, [])), (6, (0, 1, 1, [])), (7, (0, 0, 23, [])), (18, (0, 1, 1, [])), (19, (0, 1, 24, [])), (21, (0, 1, 1, [])), (22, (0, 1, 24, []))], [(1, [22, 1, 21], []), (21, [19, 7], [24]), (21, [1, 7], [24]), (20, [0], [30, -1, -1, 1, 0]), (20, [1, 0], [30, -1, 1, 0, 0, -1, 1, 0]), (102, [19], [562949953421312]), (21, [19, 7], [24]), (21, [1, 7], [24]), (1, [19, 1, 18], []), (102, [16], [281474976710656]), (2, [7, 5, 6], []), (2, [5, 4, 1], [])], [], [], [(21, [22, 7], [24])], [], [(22, 1, 1, 1), (19, 1, 1, 1), (7, 5, -1, -1), (7, 4, -24, -1), (5, 4, -23, 0)])
theorem oo_Gr_removeNode_6 {kA : Nat → ClassId} : or_ok kA GG o_Gr_removeNode_6 := by
  intro A ta ws vs hD hth hl hk hds hf
  have hl : vs.length = 23 := hl
  have hk : ∀ q ∈ ([(0, (2, 0, 0, [3])), (1, (0, 0, 23, [])), (4, (0, 1, 24, [])), (5, (0, -22, 24, [])), (6, (0, 1, 1, [])), (7, (0, 0, 23, [])), (18, (0, 1, 1, [])), (19, (0, 1, 24, [])), (21, (0, 1, 1, [])), (22, (0, 1, 24, []))] : List (Nat × tv_T)), tv_ok ta q.2 (n_v vs q.1) := hk
  obtain ⟨t0, hk⟩ := List.forall_mem_cons.mp hk
  have t0 : tv_ok ta (2, 0, 0, [3]) (n_v vs 0) := t0
  have r0 : ta (v_ad (n_v vs 0)) = some 3 := tv_rg t0
  obtain ⟨t1, hk⟩ := List.forall_mem_cons.mp hk
  have t1 : tv_ok ta (0, 0, 23, []) (n_v vs 1) := t1
  have k1 : 0 ≤ v_iv (n_v vs 1) ∧ v_iv (n_v vs 1) ≤ 23 := tv_rng t1
  obtain ⟨t4, hk⟩ := List.forall_mem_cons.mp hk
  have t4 : tv_ok ta (0, 1, 24, []) (n_v vs 4) := t4
  have k4 : 1 ≤ v_iv (n_v vs 4) ∧ v_iv (n_v vs 4) ≤ 24 := tv_rng t4
  obtain ⟨t5, hk⟩ := List.forall_mem_cons.mp hk
  have t5 : tv_ok ta (0, -22, 24, []) (n_v vs 5) := t5
  have k5 : (-22) ≤ v_iv (n_v vs 5) ∧ v_iv (n_v vs 5) ≤ 24 := tv_rng t5
  obtain ⟨t6, hk⟩ := List.forall_mem_cons.mp hk
  have t6 : tv_ok ta (0, 1, 1, []) (n_v vs 6) := t6
  have k6 : 1 ≤ v_iv (n_v vs 6) ∧ v_iv (n_v vs 6) ≤ 1 := tv_rng t6
  obtain ⟨t7, hk⟩ := List.forall_mem_cons.mp hk
  have t7 : tv_ok ta (0, 0, 23, []) (n_v vs 7) := t7
  have k7 : 0 ≤ v_iv (n_v vs 7) ∧ v_iv (n_v vs 7) ≤ 23 := tv_rng t7
  obtain ⟨t18, hk⟩ := List.forall_mem_cons.mp hk
  have t18 : tv_ok ta (0, 1, 1, []) (n_v vs 18) := t18
  have k18 : 1 ≤ v_iv (n_v vs 18) ∧ v_iv (n_v vs 18) ≤ 1 := tv_rng t18
  obtain ⟨t19, hk⟩ := List.forall_mem_cons.mp hk
  have t19 : tv_ok ta (0, 1, 24, []) (n_v vs 19) := t19
  have k19 : 1 ≤ v_iv (n_v vs 19) ∧ v_iv (n_v vs 19) ≤ 24 := tv_rng t19
  obtain ⟨t21, hk⟩ := List.forall_mem_cons.mp hk
  have t21 : tv_ok ta (0, 1, 1, []) (n_v vs 21) := t21
  have k21 : 1 ≤ v_iv (n_v vs 21) ∧ v_iv (n_v vs 21) ≤ 1 := tv_rng t21
  obtain ⟨t22, hk⟩ := List.forall_mem_cons.mp hk
  have t22 : tv_ok ta (0, 1, 24, []) (n_v vs 22) := t22
  have k22 : 1 ≤ v_iv (n_v vs 22) ∧ v_iv (n_v vs 22) ≤ 24 := tv_rng t22
  have hds : ∀ q ∈ ([(22, 1, 1, 1), (19, 1, 1, 1), (7, 5, -1, -1), (7, 4, -24, -1), (5, 4, -23, 0)] : List of_T), n_iv vs q.2.1 + q.2.2.1 ≤ n_iv vs q.1 ∧ n_iv vs q.1 ≤ n_iv vs q.2.1 + q.2.2.2 := hds
  obtain ⟨d0, hds⟩ := List.forall_mem_cons.mp hds
  have d0 : v_iv (n_v vs 1) + 1 ≤ v_iv (n_v vs 22) ∧ v_iv (n_v vs 22) ≤ v_iv (n_v vs 1) + 1 := d0
  obtain ⟨d1, hds⟩ := List.forall_mem_cons.mp hds
  have d1 : v_iv (n_v vs 1) + 1 ≤ v_iv (n_v vs 19) ∧ v_iv (n_v vs 19) ≤ v_iv (n_v vs 1) + 1 := d1
  obtain ⟨d2, hds⟩ := List.forall_mem_cons.mp hds
  have d2 : v_iv (n_v vs 5) + (-1) ≤ v_iv (n_v vs 7) ∧ v_iv (n_v vs 7) ≤ v_iv (n_v vs 5) + (-1) := d2
  obtain ⟨d3, hds⟩ := List.forall_mem_cons.mp hds
  have d3 : v_iv (n_v vs 4) + (-24) ≤ v_iv (n_v vs 7) ∧ v_iv (n_v vs 7) ≤ v_iv (n_v vs 4) + (-1) := d3
  obtain ⟨d4, hds⟩ := List.forall_mem_cons.mp hds
  have d4 : v_iv (n_v vs 4) + (-23) ≤ v_iv (n_v vs 5) ∧ v_iv (n_v vs 5) ≤ v_iv (n_v vs 4) + 0 := d4
  have hf : fc_ok [(1, [22, 1, 21], []), (21, [19, 7], [24]), (21, [1, 7], [24]), (20, [0], [30, -1, -1, 1, 0]), (20, [1, 0], [30, -1, 1, 0, 0, -1, 1, 0]), (102, [19], [562949953421312]), (21, [19, 7], [24]), (21, [1, 7], [24]), (1, [19, 1, 18], []), (102, [16], [281474976710656]), (2, [7, 5, 6], []), (2, [5, 4, 1], [])] ta ws vs := hf
  obtain ⟨f0, hf⟩ := fc_un (show (1 : Nat) < 100 from by decide) hf
  have f0 : v_iv (n_v vs 22) = v_iv (n_v vs 1) + v_iv (n_v vs 21) := f0
  obtain ⟨f1, hf⟩ := fc_un (show (21 : Nat) < 100 from by decide) hf
  have f1 : v_iv (n_v vs 19) + v_iv (n_v vs 7) ≤ 24 := f1
  obtain ⟨f2, hf⟩ := fc_un (show (21 : Nat) < 100 from by decide) hf
  have f2 : v_iv (n_v vs 1) + v_iv (n_v vs 7) ≤ 24 := f2
  obtain ⟨f3, hf⟩ := fc_un (show (20 : Nat) < 100 from by decide) hf
  have f3 : (-1) * w_fi ws (n_v vs 0) 0 + 0 ≤ (-1) := f3
  obtain ⟨f4, hf⟩ := fc_un (show (20 : Nat) < 100 from by decide) hf
  have f4 : 1 * v_iv (n_v vs 1) + ((-1) * w_fi ws (n_v vs 0) 0 + 0) ≤ (-1) := f4
  obtain ⟨ta1, w1, le1, ⟨_, s1⟩, hf⟩ := fc_us (show ¬ (102 : Nat) < 100 from by decide) hf
  obtain ⟨f6, hf⟩ := fc_un (show (21 : Nat) < 100 from by decide) hf
  have f6 : v_iv (n_v vs 19) + v_iv (n_v vs 7) ≤ 24 := f6
  obtain ⟨f7, hf⟩ := fc_un (show (21 : Nat) < 100 from by decide) hf
  have f7 : v_iv (n_v vs 1) + v_iv (n_v vs 7) ≤ 24 := f7
  obtain ⟨f8, hf⟩ := fc_un (show (1 : Nat) < 100 from by decide) hf
  have f8 : v_iv (n_v vs 19) = v_iv (n_v vs 1) + v_iv (n_v vs 18) := f8
  obtain ⟨ta2, w2, le2, ⟨_, s2⟩, hf⟩ := fc_us (show ¬ (102 : Nat) < 100 from by decide) hf
  obtain ⟨f10, hf⟩ := fc_un (show (2 : Nat) < 100 from by decide) hf
  have f10 : v_iv (n_v vs 7) = v_iv (n_v vs 5) - v_iv (n_v vs 6) := f10
  obtain ⟨f11, hf⟩ := fc_un (show (2 : Nat) < 100 from by decide) hf
  have f11 : v_iv (n_v vs 5) = v_iv (n_v vs 4) - v_iv (n_v vs 1) := f11
  have kz_0_0 : 0 ≤ w_fi ws (n_v vs 0) 0 ∧ w_fi ws (n_v vs 0) 0 ≤ 24 := tv_rng (th_fd hD hth r0 (g := GG_3) rfl (k := 0) (t := (0, 0, 24, [])) rfl rfl)
  have nf0 : fc_1 (21, [22, 7], [24]) ws (vs) := by
    refine ⟨fun n hn => ?_, ?_⟩
    · have hn : n ∈ [22, 7] := hn
      rw [hl]
      simp only [List.mem_cons, List.not_mem_nil, or_false] at hn
      show n < 23; omega
    · show v_iv (n_v vs 22) + v_iv (n_v vs 7) ≤ 24
      omega
  refine ⟨(fun _ h => (by cases h)), [], trivial, ?_, (fun _ h => (by cases h))⟩
  rw [List.append_nil]
  exact List.forall_mem_cons.mpr ⟨⟨show (21 : Nat) < 100 from by decide, nf0⟩, (fun _ h => (by cases h))⟩
def o_Gr_removeNode_7 : or_T := (185, 26, [(0, (2, 0, 0, [3])), (1, (0, 0, 23, [])), (4, (0, 1, 24, [])), (5, (0, -22, 24, [])), (6, (0, 1, 1, [])), (7, (0, 0, 23, [])), (18, (0, 1, 1, [])), (19, (0, 1, 24, [])), (21, (0, 1, 1, [])), (22, (0, 1, 24, [])), (24, (0, 1, 1, [])), (25, (0, 1, 24, []))], [(1, [25, 1, 24], []), (21, [22, 7], [24]), (21, [19, 7], [24]), (21, [1, 7], [24]), (20, [0], [30, -1, -1, 1, 0]), (20, [1, 0], [30, -1, 1, 0, 0, -1, 1, 0]), (102, [22], [1125899906842624]), (21, [22, 7], [24]), (1, [22, 1, 21], []), (21, [19, 7], [24]), (21, [1, 7], [24]), (102, [19], [562949953421312]), (21, [19, 7], [24]), (21, [1, 7], [24]), (1, [19, 1, 18], []), (102, [16], [281474976710656]), (2, [7, 5, 6], []), (2, [5, 4, 1], [])], [], [], [(21, [25, 7], [24])], [], [(25, 1, 1, 1), (22, 1, 1, 1), (19, 1, 1, 1), (7, 5, -1, -1), (7, 4, -24, -1), (5, 4, -23, 0)])
theorem oo_Gr_removeNode_7 {kA : Nat → ClassId} : or_ok kA GG o_Gr_removeNode_7 := by
  intro A ta ws vs hD hth hl hk hds hf
  have hl : vs.length = 26 := hl
  have hk : ∀ q ∈ ([(0, (2, 0, 0, [3])), (1, (0, 0, 23, [])), (4, (0, 1, 24, [])), (5, (0, -22, 24, [])), (6, (0, 1, 1, [])), (7, (0, 0, 23, [])), (18, (0, 1, 1, [])), (19, (0, 1, 24, [])), (21, (0, 1, 1, [])), (22, (0, 1, 24, [])), (24, (0, 1, 1, [])), (25, (0, 1, 24, []))] : List (Nat × tv_T)), tv_ok ta q.2 (n_v vs q.1) := hk
  obtain ⟨t0, hk⟩ := List.forall_mem_cons.mp hk
  have t0 : tv_ok ta (2, 0, 0, [3]) (n_v vs 0) := t0
  have r0 : ta (v_ad (n_v vs 0)) = some 3 := tv_rg t0
  obtain ⟨t1, hk⟩ := List.forall_mem_cons.mp hk
  have t1 : tv_ok ta (0, 0, 23, []) (n_v vs 1) := t1
  have k1 : 0 ≤ v_iv (n_v vs 1) ∧ v_iv (n_v vs 1) ≤ 23 := tv_rng t1
  obtain ⟨t4, hk⟩ := List.forall_mem_cons.mp hk
  have t4 : tv_ok ta (0, 1, 24, []) (n_v vs 4) := t4
  have k4 : 1 ≤ v_iv (n_v vs 4) ∧ v_iv (n_v vs 4) ≤ 24 := tv_rng t4
  obtain ⟨t5, hk⟩ := List.forall_mem_cons.mp hk
  have t5 : tv_ok ta (0, -22, 24, []) (n_v vs 5) := t5
  have k5 : (-22) ≤ v_iv (n_v vs 5) ∧ v_iv (n_v vs 5) ≤ 24 := tv_rng t5
  obtain ⟨t6, hk⟩ := List.forall_mem_cons.mp hk
  have t6 : tv_ok ta (0, 1, 1, []) (n_v vs 6) := t6
  have k6 : 1 ≤ v_iv (n_v vs 6) ∧ v_iv (n_v vs 6) ≤ 1 := tv_rng t6
  obtain ⟨t7, hk⟩ := List.forall_mem_cons.mp hk
  have t7 : tv_ok ta (0, 0, 23, []) (n_v vs 7) := t7
  have k7 : 0 ≤ v_iv (n_v vs 7) ∧ v_iv (n_v vs 7) ≤ 23 := tv_rng t7
  obtain ⟨t18, hk⟩ := List.forall_mem_cons.mp hk
  have t18 : tv_ok ta (0, 1, 1, []) (n_v vs 18) := t18
  have k18 : 1 ≤ v_iv (n_v vs 18) ∧ v_iv (n_v vs 18) ≤ 1 := tv_rng t18
  obtain ⟨t19, hk⟩ := List.forall_mem_cons.mp hk
  have t19 : tv_ok ta (0, 1, 24, []) (n_v vs 19) := t19
  have k19 : 1 ≤ v_iv (n_v vs 19) ∧ v_iv (n_v vs 19) ≤ 24 := tv_rng t19
  obtain ⟨t21, hk⟩ := List.forall_mem_cons.mp hk
  have t21 : tv_ok ta (0, 1, 1, []) (n_v vs 21) := t21
  have k21 : 1 ≤ v_iv (n_v vs 21) ∧ v_iv (n_v vs 21) ≤ 1 := tv_rng t21
  obtain ⟨t22, hk⟩ := List.forall_mem_cons.mp hk
  have t22 : tv_ok ta (0, 1, 24, []) (n_v vs 22) := t22
  have k22 : 1 ≤ v_iv (n_v vs 22) ∧ v_iv (n_v vs 22) ≤ 24 := tv_rng t22
  obtain ⟨t24, hk⟩ := List.forall_mem_cons.mp hk
  have t24 : tv_ok ta (0, 1, 1, []) (n_v vs 24) := t24
  have k24 : 1 ≤ v_iv (n_v vs 24) ∧ v_iv (n_v vs 24) ≤ 1 := tv_rng t24
  obtain ⟨t25, hk⟩ := List.forall_mem_cons.mp hk
  have t25 : tv_ok ta (0, 1, 24, []) (n_v vs 25) := t25
  have k25 : 1 ≤ v_iv (n_v vs 25) ∧ v_iv (n_v vs 25) ≤ 24 := tv_rng t25
  have hds : ∀ q ∈ ([(25, 1, 1, 1), (22, 1, 1, 1), (19, 1, 1, 1), (7, 5, -1, -1), (7, 4, -24, -1), (5, 4, -23, 0)] : List of_T), n_iv vs q.2.1 + q.2.2.1 ≤ n_iv vs q.1 ∧ n_iv vs q.1 ≤ n_iv vs q.2.1 + q.2.2.2 := hds
  obtain ⟨d0, hds⟩ := List.forall_mem_cons.mp hds
  have d0 : v_iv (n_v vs 1) + 1 ≤ v_iv (n_v vs 25) ∧ v_iv (n_v vs 25) ≤ v_iv (n_v vs 1) + 1 := d0
  obtain ⟨d1, hds⟩ := List.forall_mem_cons.mp hds
  have d1 : v_iv (n_v vs 1) + 1 ≤ v_iv (n_v vs 22) ∧ v_iv (n_v vs 22) ≤ v_iv (n_v vs 1) + 1 := d1
  obtain ⟨d2, hds⟩ := List.forall_mem_cons.mp hds
  have d2 : v_iv (n_v vs 1) + 1 ≤ v_iv (n_v vs 19) ∧ v_iv (n_v vs 19) ≤ v_iv (n_v vs 1) + 1 := d2
  obtain ⟨d3, hds⟩ := List.forall_mem_cons.mp hds
  have d3 : v_iv (n_v vs 5) + (-1) ≤ v_iv (n_v vs 7) ∧ v_iv (n_v vs 7) ≤ v_iv (n_v vs 5) + (-1) := d3
  obtain ⟨d4, hds⟩ := List.forall_mem_cons.mp hds
  have d4 : v_iv (n_v vs 4) + (-24) ≤ v_iv (n_v vs 7) ∧ v_iv (n_v vs 7) ≤ v_iv (n_v vs 4) + (-1) := d4
  obtain ⟨d5, hds⟩ := List.forall_mem_cons.mp hds
  have d5 : v_iv (n_v vs 4) + (-23) ≤ v_iv (n_v vs 5) ∧ v_iv (n_v vs 5) ≤ v_iv (n_v vs 4) + 0 := d5
  have hf : fc_ok [(1, [25, 1, 24], []), (21, [22, 7], [24]), (21, [19, 7], [24]), (21, [1, 7], [24]), (20, [0], [30, -1, -1, 1, 0]), (20, [1, 0], [30, -1, 1, 0, 0, -1, 1, 0]), (102, [22], [1125899906842624]), (21, [22, 7], [24]), (1, [22, 1, 21], []), (21, [19, 7], [24]), (21, [1, 7], [24]), (102, [19], [562949953421312]), (21, [19, 7], [24]), (21, [1, 7], [24]), (1, [19, 1, 18], []), (102, [16], [281474976710656]), (2, [7, 5, 6], []), (2, [5, 4, 1], [])] ta ws vs := hf
  obtain ⟨f0, hf⟩ := fc_un (show (1 : Nat) < 100 from by decide) hf
  have f0 : v_iv (n_v vs 25) = v_iv (n_v vs 1) + v_iv (n_v vs 24) := f0
  obtain ⟨f1, hf⟩ := fc_un (show (21 : Nat) < 100 from by decide) hf
  have f1 : v_iv (n_v vs 22) + v_iv (n_v vs 7) ≤ 24 := f1
  obtain ⟨f2, hf⟩ := fc_un (show (21 : Nat) < 100 from by decide) hf
  have f2 : v_iv (n_v vs 19) + v_iv (n_v vs 7) ≤ 24 := f2
  obtain ⟨f3, hf⟩ := fc_un (show (21 : Nat) < 100 from by decide) hf
  have f3 : v_iv (n_v vs 1) + v_iv (n_v vs 7) ≤ 24 := f3
  obtain ⟨f4, hf⟩ := fc_un (show (20 : Nat) < 100 from by decide) hf
  have f4 : (-1) * w_fi ws (n_v vs 0) 0 + 0 ≤ (-1) := f4
  obtain ⟨f5, hf⟩ := fc_un (show (20 : Nat) < 100 from by decide) hf
  have f5 : 1 * v_iv (n_v vs 1) + ((-1) * w_fi ws (n_v vs 0) 0 + 0) ≤ (-1) := f5
  obtain ⟨ta1, w1, le1, ⟨_, s1⟩, hf⟩ := fc_us (show ¬ (102 : Nat) < 100 from by decide) hf
  obtain ⟨f7, hf⟩ := fc_un (show (21 : Nat) < 100 from by decide) hf
  have f7 : v_iv (n_v vs 22) + v_iv (n_v vs 7) ≤ 24 := f7
  obtain ⟨f8, hf⟩ := fc_un (show (1 : Nat) < 100 from by decide) hf
  have f8 : v_iv (n_v vs 22) = v_iv (n_v vs 1) + v_iv (n_v vs 21) := f8
  obtain ⟨f9, hf⟩ := fc_un (show (21 : Nat) < 100 from by decide) hf
  have f9 : v_iv (n_v vs 19) + v_iv (n_v vs 7) ≤ 24 := f9
  obtain ⟨f10, hf⟩ := fc_un (show (21 : Nat) < 100 from by decide) hf
  have f10 : v_iv (n_v vs 1) + v_iv (n_v vs 7) ≤ 24 := f10
  obtain ⟨ta2, w2, le2, ⟨_, s2⟩, hf⟩ := fc_us (show ¬ (102 : Nat) < 100 from by decide) hf
  obtain ⟨f12, hf⟩ := fc_un (show (21 : Nat) < 100 from by decide) hf
  have f12 : v_iv (n_v vs 19) + v_iv (n_v vs 7) ≤ 24 := f12
  obtain ⟨f13, hf⟩ := fc_un (show (21 : Nat) < 100 from by decide) hf
  have f13 : v_iv (n_v vs 1) + v_iv (n_v vs 7) ≤ 24 := f13
  obtain ⟨f14, hf⟩ := fc_un (show (1 : Nat) < 100 from by decide) hf
  have f14 : v_iv (n_v vs 19) = v_iv (n_v vs 1) + v_iv (n_v vs 18) := f14
  obtain ⟨ta3, w3, le3, ⟨_, s3⟩, hf⟩ := fc_us (show ¬ (102 : Nat) < 100 from by decide) hf
  obtain ⟨f16, hf⟩ := fc_un (show (2 : Nat) < 100 from by decide) hf
  have f16 : v_iv (n_v vs 7) = v_iv (n_v vs 5) - v_iv (n_v vs 6) := f16
  obtain ⟨f17, hf⟩ := fc_un (show (2 : Nat) < 100 from by decide) hf
  have f17 : v_iv (n_v vs 5) = v_iv (n_v vs 4) - v_iv (n_v vs 1) := f17
  have kz_0_0 : 0 ≤ w_fi ws (n_v vs 0) 0 ∧ w_fi ws (n_v vs 0) 0 ≤ 24 := tv_rng (th_fd hD hth r0 (g := GG_3) rfl (k := 0) (t := (0, 0, 24, [])) rfl rfl)
  have nf0 : fc_1 (21, [25, 7], [24]) ws (vs) := by
    refine ⟨fun n hn => ?_, ?_⟩
    · have hn : n ∈ [25, 7] := hn
      rw [hl]
      simp only [List.mem_cons, List.not_mem_nil, or_false] at hn
      show n < 26; omega
    · show v_iv (n_v vs 25) + v_iv (n_v vs 7) ≤ 24
      omega
  refine ⟨(fun _ h => (by cases h)), [], trivial, ?_, (fun _ h => (by cases h))⟩
  rw [List.append_nil]
  exact List.forall_mem_cons.mpr ⟨⟨show (21 : Nat) < 100 from by decide, nf0⟩, (fun _ h => (by cases h))⟩
def o_Gr_removeNode_8 : or_T := (99, 14, [(0, (2, 0, 0, [3])), (1, (0, 0, 22, [])), (2, (0, 0, 47, [])), (3, (0, 1, 48, [])), (4, (2, 0, 0, [52])), (5, (0, 0, 23, [])), (6, (0, 0, 22, [])), (7, (0, 0, 0, [])), (8, (0, 0, 23, [])), (9, (2, 0, 0, [53])), (10, (0, 0, 23, [])), (11, (0, 1, 23, [])), (12, (0, 1, 1, [])), (13, (0, -1, 22, []))], [(2, [13, 10, 12], []), (7, [11, 1], [4]), (10, [11, 9, 2], []), (9, [9, 0], [8]), (10, [10, 9, 2], []), (20, [0], [30, -1, -1, 1, 0]), (20, [1, 0], [30, -1, 1, 0, 0, -1, 1, 0]), (100, [4, 2, 8], []), (2, [8, 5, 7], []), (7, [6, 1], [5]), (10, [6, 4, 2], []), (9, [4, 0], [7]), (10, [5, 4, 2], []), (7, [2, 3], [2]), (9, [3, 0], [1]), (20, [0], [30, -1, -1, 1, 0]), (20, [1, 0], [30, -1, 1, 0, 0, -1, 1, 0])], [(13, (0, 0, 22, []))], [], [], [], [(13, 10, -1, -1), (11, 1, 1, 4294967296), (8, 5, 0, 0), (6, 1, -4294967296, 0), (2, 3, -4294967296, -1), (1, 2, -4294967296, 23)])
theorem oo_Gr_removeNode_8 {kA : Nat → ClassId} : or_ok kA GG o_Gr_removeNode_8 := by
  intro A ta ws vs hD hth hl hk hds hf
  have hl : vs.length = 14 := hl
  have hk : ∀ q ∈ ([(0, (2, 0, 0, [3])), (1, (0, 0, 22, [])), (2, (0, 0, 47, [])), (3, (0, 1, 48, [])), (4, (2, 0, 0, [52])), (5, (0, 0, 23, [])), (6, (0, 0, 22, [])), (7, (0, 0, 0, [])), (8, (0, 0, 23, [])), (9, (2, 0, 0, [53])), (10, (0, 0, 23, [])), (11, (0, 1, 23, [])), (12, (0, 1, 1, [])), (13, (0, -1, 22, []))] : List (Nat × tv_T)), tv_ok ta q.2 (n_v vs q.1) := hk
  obtain ⟨t0, hk⟩ := List.forall_mem_cons.mp hk
  have t0 : tv_ok ta (2, 0, 0, [3]) (n_v vs 0) := t0
  have r0 : ta (v_ad (n_v vs 0)) = some 3 := tv_rg t0
  obtain ⟨t1, hk⟩ := List.forall_mem_cons.mp hk
  have t1 : tv_ok ta (0, 0, 22, []) (n_v vs 1) := t1
  have k1 : 0 ≤ v_iv (n_v vs 1) ∧ v_iv (n_v vs 1) ≤ 22 := tv_rng t1
  obtain ⟨t2, hk⟩ := List.forall_mem_cons.mp hk
  have t2 : tv_ok ta (0, 0, 47, []) (n_v vs 2) := t2
  have k2 : 0 ≤ v_iv (n_v vs 2) ∧ v_iv (n_v vs 2) ≤ 47 := tv_rng t2
  obtain ⟨t3, hk⟩ := List.forall_mem_cons.mp hk
  have t3 : tv_ok ta (0, 1, 48, []) (n_v vs 3) := t3
  have k3 : 1 ≤ v_iv (n_v vs 3) ∧ v_iv (n_v vs 3) ≤ 48 := tv_rng t3
  obtain ⟨t4, hk⟩ := List.forall_mem_cons.mp hk
  have t4 : tv_ok ta (2, 0, 0, [52]) (n_v vs 4) := t4
  have r4 : ta (v_ad (n_v vs 4)) = some 52 := tv_rg t4
  obtain ⟨t5, hk⟩ := List.forall_mem_cons.mp hk
  have t5 : tv_ok ta (0, 0, 23, []) (n_v vs 5) := t5
  have k5 : 0 ≤ v_iv (n_v vs 5) ∧ v_iv (n_v vs 5) ≤ 23 := tv_rng t5
  obtain ⟨t6, hk⟩ := List.forall_mem_cons.mp hk
  have t6 : tv_ok ta (0, 0, 22, []) (n_v vs 6) := t6
  have k6 : 0 ≤ v_iv (n_v vs 6) ∧ v_iv (n_v vs 6) ≤ 22 := tv_rng t6
  obtain ⟨t7, hk⟩ := List.forall_mem_cons.mp hk
  have t7 : tv_ok ta (0, 0, 0, []) (n_v vs 7) := t7
  have k7 : 0 ≤ v_iv (n_v vs 7) ∧ v_iv (n_v vs 7) ≤ 0 := tv_rng t7
  obtain ⟨t8, hk⟩ := List.forall_mem_cons.mp hk
  have t8 : tv_ok ta (0, 0, 23, []) (n_v vs 8) := t8
  have k8 : 0 ≤ v_iv (n_v vs 8) ∧ v_iv (n_v vs 8) ≤ 23 := tv_rng t8
  obtain ⟨t9, hk⟩ := List.forall_mem_cons.mp hk
  have t9 : tv_ok ta (2, 0, 0, [53]) (n_v vs 9) := t9
  have r9 : ta (v_ad (n_v vs 9)) = some 53 := tv_rg t9
  obtain ⟨t10, hk⟩ := List.forall_mem_cons.mp hk
  have t10 : tv_ok ta (0, 0, 23, []) (n_v vs 10) := t10
  have k10 : 0 ≤ v_iv (n_v vs 10) ∧ v_iv (n_v vs 10) ≤ 23 := tv_rng t10
  obtain ⟨t11, hk⟩ := List.forall_mem_cons.mp hk
  have t11 : tv_ok ta (0, 1, 23, []) (n_v vs 11) := t11
  have k11 : 1 ≤ v_iv (n_v vs 11) ∧ v_iv (n_v vs 11) ≤ 23 := tv_rng t11
  obtain ⟨t12, hk⟩ := List.forall_mem_cons.mp hk
  have t12 : tv_ok ta (0, 1, 1, []) (n_v vs 12) := t12
  have k12 : 1 ≤ v_iv (n_v vs 12) ∧ v_iv (n_v vs 12) ≤ 1 := tv_rng t12
  obtain ⟨t13, hk⟩ := List.forall_mem_cons.mp hk
  have t13 : tv_ok ta (0, -1, 22, []) (n_v vs 13) := t13
  have k13 : (-1) ≤ v_iv (n_v vs 13) ∧ v_iv (n_v vs 13) ≤ 22 := tv_rng t13
  have hds : ∀ q ∈ ([(13, 10, -1, -1), (11, 1, 1, 4294967296), (8, 5, 0, 0), (6, 1, -4294967296, 0), (2, 3, -4294967296, -1), (1, 2, -4294967296, 23)] : List of_T), n_iv vs q.2.1 + q.2.2.1 ≤ n_iv vs q.1 ∧ n_iv vs q.1 ≤ n_iv vs q.2.1 + q.2.2.2 := hds
  obtain ⟨d0, hds⟩ := List.forall_mem_cons.mp hds
  have d0 : v_iv (n_v vs 10) + (-1) ≤ v_iv (n_v vs 13) ∧ v_iv (n_v vs 13) ≤ v_iv (n_v vs 10) + (-1) := d0
  obtain ⟨d1, hds⟩ := List.forall_mem_cons.mp hds
  have d1 : v_iv (n_v vs 1) + 1 ≤ v_iv (n_v vs 11) ∧ v_iv (n_v vs 11) ≤ v_iv (n_v vs 1) + 4294967296 := d1
  obtain ⟨d2, hds⟩ := List.forall_mem_cons.mp hds
  have d2 : v_iv (n_v vs 5) + 0 ≤ v_iv (n_v vs 8) ∧ v_iv (n_v vs 8) ≤ v_iv (n_v vs 5) + 0 := d2
  obtain ⟨d3, hds⟩ := List.forall_mem_cons.mp hds
  have d3 : v_iv (n_v vs 1) + (-4294967296) ≤ v_iv (n_v vs 6) ∧ v_iv (n_v vs 6) ≤ v_iv (n_v vs 1) + 0 := d3
  obtain ⟨d4, hds⟩ := List.forall_mem_cons.mp hds
  have d4 : v_iv (n_v vs 3) + (-4294967296) ≤ v_iv (n_v vs 2) ∧ v_iv (n_v vs 2) ≤ v_iv (n_v vs 3) + (-1) := d4
  obtain ⟨d5, hds⟩ := List.forall_mem_cons.mp hds
  have d5 : v_iv (n_v vs 2) + (-4294967296) ≤ v_iv (n_v vs 1) ∧ v_iv (n_v vs 1) ≤ v_iv (n_v vs 2) + 23 := d5
  have hf : fc_ok [(2, [13, 10, 12], []), (7, [11, 1], [4]), (10, [11, 9, 2], []), (9, [9, 0], [8]), (10, [10, 9, 2], []), (20, [0], [30, -1, -1, 1, 0]), (20, [1, 0], [30, -1, 1, 0, 0, -1, 1, 0]), (100, [4, 2, 8], []), (2, [8, 5, 7], []), (7, [6, 1], [5]), (10, [6, 4, 2], []), (9, [4, 0], [7]), (10, [5, 4, 2], []), (7, [2, 3], [2]), (9, [3, 0], [1]), (20, [0], [30, -1, -1, 1, 0]), (20, [1, 0], [30, -1, 1, 0, 0, -1, 1, 0])] ta ws vs := hf
  obtain ⟨f0, hf⟩ := fc_un (show (2 : Nat) < 100 from by decide) hf
  have f0 : v_iv (n_v vs 13) = v_iv (n_v vs 10) - v_iv (n_v vs 12) := f0
  obtain ⟨f1, hf⟩ := fc_un (show (7 : Nat) < 100 from by decide) hf
  have f1 : v_iv (n_v vs 1) < v_iv (n_v vs 11) := f1
  obtain ⟨f2, hf⟩ := fc_un (show (10 : Nat) < 100 from by decide) hf
  have f2 : v_iv (n_v vs 11) = w_el ws (v_ad (n_v vs 9)) (v_iv (n_v vs 2)).toNat := f2
  obtain ⟨f3, hf⟩ := fc_un (show (9 : Nat) < 100 from by decide) hf
  have f3 : n_v vs 9 = w_fd ws (v_ad (n_v vs 0)) 8 := f3
  obtain ⟨f4, hf⟩ := fc_un (show (10 : Nat) < 100 from by decide) hf
  have f4 : v_iv (n_v vs 10) = w_el ws (v_ad (n_v vs 9)) (v_iv (n_v vs 2)).toNat := f4
  obtain ⟨f5, hf⟩ := fc_un (show (20 : Nat) < 100 from by decide) hf
  have f5 : (-1) * w_fi ws (n_v vs 0) 0 + 0 ≤ (-1) := f5
  obtain ⟨f6, hf⟩ := fc_un (show (20 : Nat) < 100 from by decide) hf
  have f6 : 1 * v_iv (n_v vs 1) + ((-1) * w_fi ws (n_v vs 0) 0 + 0) ≤ (-1) := f6
  obtain ⟨ta1, w1, le1, ⟨_, s1⟩, hf⟩ := fc_us (show ¬ (100 : Nat) < 100 from by decide) hf
  have s1 : (∀ b j, w_el ws b j = if b = v_ad (n_v vs 4) ∧ j = (v_iv (n_v vs 2)).toNat then v_iv (n_v vs 8) else w_el w1 b j) ∧ ∀ b k, w_fd ws b k = w_fd w1 b k := s1
  obtain ⟨f8, hf⟩ := fc_un (show (2 : Nat) < 100 from by decide) hf
  have f8 : v_iv (n_v vs 8) = v_iv (n_v vs 5) - v_iv (n_v vs 7) := f8
  obtain ⟨f9, hf⟩ := fc_un (show (7 : Nat) < 100 from by decide) hf
  have f9 : v_iv (n_v vs 6) ≤ v_iv (n_v vs 1) := f9
  obtain ⟨f10, hf⟩ := fc_un (show (10 : Nat) < 100 from by decide) hf
  have f10 : v_iv (n_v vs 6) = w_el w1 (v_ad (n_v vs 4)) (v_iv (n_v vs 2)).toNat := f10
  obtain ⟨f11, hf⟩ := fc_un (show (9 : Nat) < 100 from by decide) hf
  have f11 : n_v vs 4 = w_fd w1 (v_ad (n_v vs 0)) 7 := f11
  obtain ⟨f12, hf⟩ := fc_un (show (10 : Nat) < 100 from by decide) hf
  have f12 : v_iv (n_v vs 5) = w_el w1 (v_ad (n_v vs 4)) (v_iv (n_v vs 2)).toNat := f12
  obtain ⟨f13, hf⟩ := fc_un (show (7 : Nat) < 100 from by decide) hf
  have f13 : v_iv (n_v vs 2) < v_iv (n_v vs 3) := f13
  obtain ⟨f14, hf⟩ := fc_un (show (9 : Nat) < 100 from by decide) hf
  have f14 : n_v vs 3 = w_fd w1 (v_ad (n_v vs 0)) 1 := f14
  obtain ⟨f15, hf⟩ := fc_un (show (20 : Nat) < 100 from by decide) hf
  have f15 : (-1) * w_fi w1 (n_v vs 0) 0 + 0 ≤ (-1) := f15
  obtain ⟨f16, hf⟩ := fc_un (show (20 : Nat) < 100 from by decide) hf
  have f16 : 1 * v_iv (n_v vs 1) + ((-1) * w_fi w1 (n_v vs 0) 0 + 0) ≤ (-1) := f16
  have ar_0_7_1 : w_ar w1 (n_v vs 0) 7 = w_ar ws (n_v vs 0) 7 := by show v_ad (w_fd w1 _ _) = v_ad (w_fd ws _ _); rw [s1.2]
  have cr_0_7 : ta (w_ar ws (n_v vs 0) 7) = some 52 := tv_rg (th_fd hD hth r0 (g := GG_3) rfl (k := 7) (t := (2, 0, 0, [52])) rfl rfl)
  have ar_0_8_1 : w_ar w1 (n_v vs 0) 8 = w_ar ws (n_v vs 0) 8 := by show v_ad (w_fd w1 _ _) = v_ad (w_fd ws _ _); rw [s1.2]
  have cr_0_8 : ta (w_ar ws (n_v vs 0) 8) = some 53 := tv_rg (th_fd hD hth r0 (g := GG_3) rfl (k := 8) (t := (2, 0, 0, [53])) rfl rfl)
  have ad_9 : v_ad (n_v vs 9) = w_ar ws (n_v vs 0) 8 := congrArg v_ad f3
  have ad_4 : v_ad (n_v vs 4) = w_ar ws (n_v vs 0) 7 := (congrArg v_ad f11).trans ar_0_7_1
  rw [ad_9] at f2
  rw [ad_9] at f4
  rw [ad_4] at f10
  rw [ad_4] at f12
  have g14 : v_iv (n_v vs 3) = w_fi w1 (n_v vs 0) 1 := congrArg v_iv f14
  have fe_0_0_1 : w_fi ws (n_v vs 0) 0 = w_fi w1 (n_v vs 0) 0 := congrArg v_iv (s1.2 _ _)
  have fe_0_1_1 : w_fi ws (n_v vs 0) 1 = w_fi w1 (n_v vs 0) 1 := congrArg v_iv (s1.2 _ _)
  have ee_0_7_2_1 : w_el ws (w_ar ws (n_v vs 0) 7) (v_iv (n_v vs 2)).toNat = v_iv (n_v vs 8) := by rw [s1.1, if_pos ⟨ad_4.symm, rfl⟩]
  have ee_0_8_2_1 : w_el ws (w_ar ws (n_v vs 0) 8) (v_iv (n_v vs 2)).toNat = w_el w1 (w_ar ws (n_v vs 0) 8) (v_iv (n_v vs 2)).toNat := by rw [s1.1, if_neg (fun e => by have e1 := e.1; rw [← e1] at r4; rw [cr_0_8] at r4; exact absurd (Option.some.inj r4) (by decide))]
  have kz_0_0 : 0 ≤ w_fi ws (n_v vs 0) 0 ∧ w_fi ws (n_v vs 0) 0 ≤ 24 := tv_rng (th_fd hD hth r0 (g := GG_3) rfl (k := 0) (t := (0, 0, 24, [])) rfl rfl)
  have kz_0_1 : 0 ≤ w_fi ws (n_v vs 0) 1 ∧ w_fi ws (n_v vs 0) 1 ≤ 48 := tv_rng (th_fd hD hth r0 (g := GG_3) rfl (k := 1) (t := (0, 0, 48, [])) rfl rfl)
  have rf13 : tv_ok ta (0, 0, 22, []) (n_v vs 13) := tv_in t13 (by omega) (by omega)
  refine ⟨List.forall_mem_cons.mpr ⟨rf13, (fun _ h => (by cases h))⟩, [], trivial, ?_, (fun _ h => (by cases h))⟩
  rw [List.append_nil]
  exact (fun _ h => (by cases h))
def o_Gr_removeNode_9 : or_T := (75, 9, [(0, (2, 0, 0, [3])), (1, (0, 0, 22, [])), (2, (0, 0, 47, [])), (3, (0, 1, 48, [])), (4, (2, 0, 0, [52])), (5, (0, 0, 23, [])), (6, (0, 1, 23, [])), (7, (0, 1, 1, [])), (8, (0, -1, 22, []))], [(2, [8, 5, 7], []), (7, [6, 1], [4]), (10, [6, 4, 2], []), (9, [4, 0], [7]), (10, [5, 4, 2], []), (7, [2, 3], [2]), (9, [3, 0], [1]), (20, [0], [30, -1, -1, 1, 0]), (20, [1, 0], [30, -1, 1, 0, 0, -1, 1, 0])], [(8, (0, 0, 22, []))], [], [], [], [(8, 5, -1, -1), (6, 1, 1, 4294967296), (2, 3, -4294967296, -1), (1, 2, -4294967296, 23)])
theorem oo_Gr_removeNode_9 {kA : Nat → ClassId} : or_ok kA GG o_Gr_removeNode_9 := by
  intro A ta ws vs hD hth hl hk hds hf
  have hl : vs.length = 9 := hl
  have hk : ∀ q ∈ ([(0, (2, 0, 0, [3])), (1, (0, 0, 22, [])), (2, (0, 0, 47, [])), (3, (0, 1, 48, [])), (4, (2, 0, 0, [52])), (5, (0, 0, 23, [])), (6, (0, 1, 23, [])), (7, (0, 1, 1, [])), (8, (0, -1, 22, []))] : List (Nat × tv_T)), tv_ok ta q.2 (n_v vs q.1) := hk
  obtain ⟨t0, hk⟩ := List.forall_mem_cons.mp hk
  have t0 : tv_ok ta (2, 0, 0, [3]) (n_v vs 0) := t0
  have r0 : ta (v_ad (n_v vs 0)) = some 3 := tv_rg t0
  obtain ⟨t1, hk⟩ := List.forall_mem_cons.mp hk
  have t1 : tv_ok ta (0, 0, 22, []) (n_v vs 1) := t1
  have k1 : 0 ≤ v_iv (n_v vs 1) ∧ v_iv (n_v vs 1) ≤ 22 := tv_rng t1
  obtain ⟨t2, hk⟩ := List.forall_mem_cons.mp hk
  have t2 : tv_ok ta (0, 0, 47, []) (n_v vs 2) := t2
  have k2 : 0 ≤ v_iv (n_v vs 2) ∧ v_iv (n_v vs 2) ≤ 47 := tv_rng t2
  obtain ⟨t3, hk⟩ := List.forall_mem_cons.mp hk
  have t3 : tv_ok ta (0, 1, 48, []) (n_v vs 3) := t3
  have k3 : 1 ≤ v_iv (n_v vs 3) ∧ v_iv (n_v vs 3) ≤ 48 := tv_rng t3
  obtain ⟨t4, hk⟩ := List.forall_mem_cons.mp hk
  have t4 : tv_ok ta (2, 0, 0, [52]) (n_v vs 4) := t4
  have r4 : ta (v_ad (n_v vs 4)) = some 52 := tv_rg t4
  obtain ⟨t5, hk⟩ := List.forall_mem_cons.mp hk
  have t5 : tv_ok ta (0, 0, 23, []) (n_v vs 5) := t5
  have k5 : 0 ≤ v_iv (n_v vs 5) ∧ v_iv (n_v vs 5) ≤ 23 := tv_rng t5
  obtain ⟨t6, hk⟩ := List.forall_mem_cons.mp hk
  have t6 : tv_ok ta (0, 1, 23, []) (n_v vs 6) := t6
  have k6 : 1 ≤ v_iv (n_v vs 6) ∧ v_iv (n_v vs 6) ≤ 23 := tv_rng t6
  obtain ⟨t7, hk⟩ := List.forall_mem_cons.mp hk
  have t7 : tv_ok ta (0, 1, 1, []) (n_v vs 7) := t7
  have k7 : 1 ≤ v_iv (n_v vs 7) ∧ v_iv (n_v vs 7) ≤ 1 := tv_rng t7
  obtain ⟨t8, hk⟩ := List.forall_mem_cons.mp hk
  have t8 : tv_ok ta (0, -1, 22, []) (n_v vs 8) := t8
  have k8 : (-1) ≤ v_iv (n_v vs 8) ∧ v_iv (n_v vs 8) ≤ 22 := tv_rng t8
  have hds : ∀ q ∈ ([(8, 5, -1, -1), (6, 1, 1, 4294967296), (2, 3, -4294967296, -1), (1, 2, -4294967296, 23)] : List of_T), n_iv vs q.2.1 + q.2.2.1 ≤ n_iv vs q.1 ∧ n_iv vs q.1 ≤ n_iv vs q.2.1 + q.2.2.2 := hds
  obtain ⟨d0, hds⟩ := List.forall_mem_cons.mp hds
  have d0 : v_iv (n_v vs 5) + (-1) ≤ v_iv (n_v vs 8) ∧ v_iv (n_v vs 8) ≤ v_iv (n_v vs 5) + (-1) := d0
  obtain ⟨d1, hds⟩ := List.forall_mem_cons.mp hds
  have d1 : v_iv (n_v vs 1) + 1 ≤ v_iv (n_v vs 6) ∧ v_iv (n_v vs 6) ≤ v_iv (n_v vs 1) + 4294967296 := d1
  obtain ⟨d2, hds⟩ := List.forall_mem_cons.mp hds
  have d2 : v_iv (n_v vs 3) + (-4294967296) ≤ v_iv (n_v vs 2) ∧ v_iv (n_v vs 2) ≤ v_iv (n_v vs 3) + (-1) := d2
  obtain ⟨d3, hds⟩ := List.forall_mem_cons.mp hds
  have d3 : v_iv (n_v vs 2) + (-4294967296) ≤ v_iv (n_v vs 1) ∧ v_iv (n_v vs 1) ≤ v_iv (n_v vs 2) + 23 := d3
  have hf : fc_ok [(2, [8, 5, 7], []), (7, [6, 1], [4]), (10, [6, 4, 2], []), (9, [4, 0], [7]), (10, [5, 4, 2], []), (7, [2, 3], [2]), (9, [3, 0], [1]), (20, [0], [30, -1, -1, 1, 0]), (20, [1, 0], [30, -1, 1, 0, 0, -1, 1, 0])] ta ws vs := hf
  obtain ⟨f0, hf⟩ := fc_un (show (2 : Nat) < 100 from by decide) hf
  have f0 : v_iv (n_v vs 8) = v_iv (n_v vs 5) - v_iv (n_v vs 7) := f0
  obtain ⟨f1, hf⟩ := fc_un (show (7 : Nat) < 100 from by decide) hf
  have f1 : v_iv (n_v vs 1) < v_iv (n_v vs 6) := f1
  obtain ⟨f2, hf⟩ := fc_un (show (10 : Nat) < 100 from by decide) hf
  have f2 : v_iv (n_v vs 6) = w_el ws (v_ad (n_v vs 4)) (v_iv (n_v vs 2)).toNat := f2
  obtain ⟨f3, hf⟩ := fc_un (show (9 : Nat) < 100 from by decide) hf
  have f3 : n_v vs 4 = w_fd ws (v_ad (n_v vs 0)) 7 := f3
  obtain ⟨f4, hf⟩ := fc_un (show (10 : Nat) < 100 from by decide) hf
  have f4 : v_iv (n_v vs 5) = w_el ws (v_ad (n_v vs 4)) (v_iv (n_v vs 2)).toNat := f4
  obtain ⟨f5, hf⟩ := fc_un (show (7 : Nat) < 100 from by decide) hf
  have f5 : v_iv (n_v vs 2) < v_iv (n_v vs 3) := f5
  obtain ⟨f6, hf⟩ := fc_un (show (9 : Nat) < 100 from by decide) hf
  have f6 : n_v vs 3 = w_fd ws (v_ad (n_v vs 0)) 1 := f6
  obtain ⟨f7, hf⟩ := fc_un (show (20 : Nat) < 100 from by decide) hf
  have f7 : (-1) * w_fi ws (n_v vs 0) 0 + 0 ≤ (-1) := f7
  obtain ⟨f8, hf⟩ := fc_un (show (20 : Nat) < 100 from by decide) hf
  have f8 : 1 * v_iv (n_v vs 1) + ((-1) * w_fi ws (n_v vs 0) 0 + 0) ≤ (-1) := f8
  have cr_0_7 : ta (w_ar ws (n_v vs 0) 7) = some 52 := tv_rg (th_fd hD hth r0 (g := GG_3) rfl (k := 7) (t := (2, 0, 0, [52])) rfl rfl)
  have ad_4 : v_ad (n_v vs 4) = w_ar ws (n_v vs 0) 7 := congrArg v_ad f3
  rw [ad_4] at f2
  rw [ad_4] at f4
  have g6 : v_iv (n_v vs 3) = w_fi ws (n_v vs 0) 1 := congrArg v_iv f6
  have kz_0_0 : 0 ≤ w_fi ws (n_v vs 0) 0 ∧ w_fi ws (n_v vs 0) 0 ≤ 24 := tv_rng (th_fd hD hth r0 (g := GG_3) rfl (k := 0) (t := (0, 0, 24, [])) rfl rfl)
  have kz_0_1 : 0 ≤ w_fi ws (n_v vs 0) 1 ∧ w_fi ws (n_v vs 0) 1 ≤ 48 := tv_rng (th_fd hD hth r0 (g := GG_3) rfl (k := 1) (t := (0, 0, 48, [])) rfl rfl)
  have rf8 : tv_ok ta (0, 0, 22, []) (n_v vs 8) := tv_in t8 (by omega) (by omega)
  refine ⟨List.forall_mem_cons.mpr ⟨rf8, (fun _ h => (by cases h))⟩, [], trivial, ?_, (fun _ h => (by cases h))⟩
  rw [List.append_nil]
  exact (fun _ h => (by cases h))
def o_Gr_removeNode_10 : or_T := (99, 14, [(0, (2, 0, 0, [3])), (1, (0, 0, 22, [])), (2, (0, 0, 47, [])), (3, (0, 1, 48, [])), (4, (2, 0, 0, [52])), (5, (0, 0, 23, [])), (6, (0, 1, 23, [])), (7, (0, 1, 1, [])), (8, (0, 0, 22, [])), (9, (2, 0, 0, [53])), (10, (0, 0, 23, [])), (11, (0, 1, 23, [])), (12, (0, 1, 1, [])), (13, (0, -1, 22, []))], [(2, [13, 10, 12], []), (7, [11, 1], [4]), (10, [11, 9, 2], []), (9, [9, 0], [8]), (10, [10, 9, 2], []), (20, [0], [30, -1, -1, 1, 0]), (20, [1, 0], [30, -1, 1, 0, 0, -1, 1, 0]), (100, [4, 2, 8], []), (2, [8, 5, 7], []), (7, [6, 1], [4]), (10, [6, 4, 2], []), (9, [4, 0], [7]), (10, [5, 4, 2], []), (7, [2, 3], [2]), (9, [3, 0], [1]), (20, [0], [30, -1, -1, 1, 0]), (20, [1, 0], [30, -1, 1, 0, 0, -1, 1, 0])], [(13, (0, 0, 22, []))], [], [], [], [(13, 10, -1, -1), (11, 1, 1, 4294967296), (8, 5, -1, -1), (6, 1, 1, 4294967296), (2, 3, -4294967296, -1), (1, 2, -4294967296, 23)])
theorem oo_Gr_removeNode_10 {kA : Nat → ClassId} : or_ok kA GG o_Gr_removeNode_10 := by
  intro A ta ws vs hD hth hl hk hds hf
  have hl : vs.length = 14 := hl
  have hk : ∀ q ∈ ([(0, (2, 0, 0, [3])), (1, (0, 0, 22, [])), (2, (0, 0, 47, [])), (3, (0, 1, 48, [])), (4, (2, 0, 0, [52])), (5, (0, 0, 23, [])), (6, (0, 1, 23, [])), (7, (0, 1, 1, [])), (8, (0, 0, 22, [])), (9, (2, 0, 0, [53])), (10, (0, 0, 23, [])), (11, (0, 1, 23, [])), (12, (0, 1, 1, [])), (13, (0, -1, 22, []))] : List (Nat × tv_T)), tv_ok ta q.2 (n_v vs q.1) := hk
  obtain ⟨t0, hk⟩ := List.forall_mem_cons.mp hk
  have t0 : tv_ok ta (2, 0, 0, [3]) (n_v vs 0) := t0
  have r0 : ta (v_ad (n_v vs 0)) = some 3 := tv_rg t0
  obtain ⟨t1, hk⟩ := List.forall_mem_cons.mp hk
  have t1 : tv_ok ta (0, 0, 22, []) (n_v vs 1) := t1
  have k1 : 0 ≤ v_iv (n_v vs 1) ∧ v_iv (n_v vs 1) ≤ 22 := tv_rng t1
  obtain ⟨t2, hk⟩ := List.forall_mem_cons.mp hk
  have t2 : tv_ok ta (0, 0, 47, []) (n_v vs 2) := t2
  have k2 : 0 ≤ v_iv (n_v vs 2) ∧ v_iv (n_v vs 2) ≤ 47 := tv_rng t2
  obtain ⟨t3, hk⟩ := List.forall_mem_cons.mp hk
  have t3 : tv_ok ta (0, 1, 48, []) (n_v vs 3) := t3
  have k3 : 1 ≤ v_iv (n_v vs 3) ∧ v_iv (n_v vs 3) ≤ 48 := tv_rng t3
  obtain ⟨t4, hk⟩ := List.forall_mem_cons.mp hk
  have t4 : tv_ok ta (2, 0, 0, [52]) (n_v vs 4) := t4
  have r4 : ta (v_ad (n_v vs 4)) = some 52 := tv_rg t4
  obtain ⟨t5, hk⟩ := List.forall_mem_cons.mp hk
  have t5 : tv_ok ta (0, 0, 23, []) (n_v vs 5) := t5
  have k5 : 0 ≤ v_iv (n_v vs 5) ∧ v_iv (n_v vs 5) ≤ 23 := tv_rng t5
  obtain ⟨t6, hk⟩ := List.forall_mem_cons.mp hk
  have t6 : tv_ok ta (0, 1, 23, []) (n_v vs 6) := t6
  have k6 : 1 ≤ v_iv (n_v vs 6) ∧ v_iv (n_v vs 6) ≤ 23 := tv_rng t6
  obtain ⟨t7, hk⟩ := List.forall_mem_cons.mp hk
  have t7 : tv_ok ta (0, 1, 1, []) (n_v vs 7) := t7
  have k7 : 1 ≤ v_iv (n_v vs 7) ∧ v_iv (n_v vs 7) ≤ 1 := tv_rng t7
  obtain ⟨t8, hk⟩ := List.forall_mem_cons.mp hk
  have t8 : tv_ok ta (0, 0, 22, []) (n_v vs 8) := t8
  have k8 : 0 ≤ v_iv (n_v vs 8) ∧ v_iv (n_v vs 8) ≤ 22 := tv_rng t8
  obtain ⟨t9, hk⟩ := List.forall_mem_cons.mp hk
  have t9 : tv_ok ta (2, 0, 0, [53]) (n_v vs 9) := t9
  have r9 : ta (v_ad (n_v vs 9)) = some 53 := tv_rg t9
  obtain ⟨t10, hk⟩ := List.forall_mem_cons.mp hk
  have t10 : tv_ok ta (0, 0, 23, []) (n_v vs 10) := t10
  have k10 : 0 ≤ v_iv (n_v vs 10) ∧ v_iv (n_v vs 10) ≤ 23 := tv_rng t10
  obtain ⟨t11, hk⟩ := List.forall_mem_cons.mp hk
  have t11 : tv_ok ta (0, 1, 23, []) (n_v vs 11) := t11
  have k11 : 1 ≤ v_iv (n_v vs 11) ∧ v_iv (n_v vs 11) ≤ 23 := tv_rng t11
  obtain ⟨t12, hk⟩ := List.forall_mem_cons.mp hk
  have t12 : tv_ok ta (0, 1, 1, []) (n_v vs 12) := t12
  have k12 : 1 ≤ v_iv (n_v vs 12) ∧ v_iv (n_v vs 12) ≤ 1 := tv_rng t12
  obtain ⟨t13, hk⟩ := List.forall_mem_cons.mp hk
  have t13 : tv_ok ta (0, -1, 22, []) (n_v vs 13) := t13
  have k13 : (-1) ≤ v_iv (n_v vs 13) ∧ v_iv (n_v vs 13) ≤ 22 := tv_rng t13
  have hds : ∀ q ∈ ([(13, 10, -1, -1), (11, 1, 1, 4294967296), (8, 5, -1, -1), (6, 1, 1, 4294967296), (2, 3, -4294967296, -1), (1, 2, -4294967296, 23)] : List of_T), n_iv vs q.2.1 + q.2.2.1 ≤ n_iv vs q.1 ∧ n_iv vs q.1 ≤ n_iv vs q.2.1 + q.2.2.2 := hds
  obtain ⟨d0, hds⟩ := List.forall_mem_cons.mp hds
  have d0 : v_iv (n_v vs 10) + (-1) ≤ v_iv (n_v vs 13) ∧ v_iv (n_v vs 13) ≤ v_iv (n_v vs 10) + (-1) := d0
  obtain ⟨d1, hds⟩ := List.forall_mem_cons.mp hds
  have d1 : v_iv (n_v vs 1) + 1 ≤ v_iv (n_v vs 11) ∧ v_iv (n_v vs 11) ≤ v_iv (n_v vs 1) + 4294967296 := d1
  obtain ⟨d2, hds⟩ := List.forall_mem_cons.mp hds
  have d2 : v_iv (n_v vs 5) + (-1) ≤ v_iv (n_v vs 8) ∧ v_iv (n_v vs 8) ≤ v_iv (n_v vs 5) + (-1) := d2
  obtain ⟨d3, hds⟩ := List.forall_mem_cons.mp hds
  have d3 : v_iv (n_v vs 1) + 1 ≤ v_iv (n_v vs 6) ∧ v_iv (n_v vs 6) ≤ v_iv (n_v vs 1) + 4294967296 := d3
  obtain ⟨d4, hds⟩ := List.forall_mem_cons.mp hds
  have d4 : v_iv (n_v vs 3) + (-4294967296) ≤ v_iv (n_v vs 2) ∧ v_iv (n_v vs 2) ≤ v_iv (n_v vs 3) + (-1) := d4
  obtain ⟨d5, hds⟩ := List.forall_mem_cons.mp hds
  have d5 : v_iv (n_v vs 2) + (-4294967296) ≤ v_iv (n_v vs 1) ∧ v_iv (n_v vs 1) ≤ v_iv (n_v vs 2) + 23 := d5
  have hf : fc_ok [(2, [13, 10, 12], []), (7, [11, 1], [4]), (10, [11, 9, 2], []), (9, [9, 0], [8]), (10, [10, 9, 2], []), (20, [0], [30, -1, -1, 1, 0]), (20, [1, 0], [30, -1, 1, 0, 0, -1, 1, 0]), (100, [4, 2, 8], []), (2, [8, 5, 7], []), (7, [6, 1], [4]), (10, [6, 4, 2], []), (9, [4, 0], [7]), (10, [5, 4, 2], []), (7, [2, 3], [2]), (9, [3, 0], [1]), (20, [0], [30, -1, -1, 1, 0]), (20, [1, 0], [30, -1, 1, 0, 0, -1, 1, 0])] ta ws vs := hf
  obtain ⟨f0, hf⟩ := fc_un (show (2 : Nat) < 100 from by decide) hf
  have f0 : v_iv (n_v vs 13) = v_iv (n_v vs 10) - v_iv (n_v vs 12) := f0
  obtain ⟨f1, hf⟩ := fc_un (show (7 : Nat) < 100 from by decide) hf
  have f1 : v_iv (n_v vs 1) < v_iv (n_v vs 11) := f1
  obtain ⟨f2, hf⟩ := fc_un (show (10 : Nat) < 100 from by decide) hf
  have f2 : v_iv (n_v vs 11) = w_el ws (v_ad (n_v vs 9)) (v_iv (n_v vs 2)).toNat := f2
  obtain ⟨f3, hf⟩ := fc_un (show (9 : Nat) < 100 from by decide) hf
  have f3 : n_v vs 9 = w_fd ws (v_ad (n_v vs 0)) 8 := f3
  obtain ⟨f4, hf⟩ := fc_un (show (10 : Nat) < 100 from by decide) hf
  have f4 : v_iv (n_v vs 10) = w_el ws (v_ad (n_v vs 9)) (v_iv (n_v vs 2)).toNat := f4
  obtain ⟨f5, hf⟩ := fc_un (show (20 : Nat) < 100 from by decide) hf
  have f5 : (-1) * w_fi ws (n_v vs 0) 0 + 0 ≤ (-1) := f5
  obtain ⟨f6, hf⟩ := fc_un (show (20 : Nat) < 100 from by decide) hf
  have f6 : 1 * v_iv (n_v vs 1) + ((-1) * w_fi ws (n_v vs 0) 0 + 0) ≤ (-1) := f6
  obtain ⟨ta1, w1, le1, ⟨_, s1⟩, hf⟩ := fc_us (show ¬ (100 : Nat) < 100 from by decide) hf
  have s1 : (∀ b j, w_el ws b j = if b = v_ad (n_v vs 4) ∧ j = (v_iv (n_v vs 2)).toNat then v_iv (n_v vs 8) else w_el w1 b j) ∧ ∀ b k, w_fd ws b k = w_fd w1 b k := s1
  obtain ⟨f8, hf⟩ := fc_un (show (2 : Nat) < 100 from by decide) hf
  have f8 : v_iv (n_v vs 8) = v_iv (n_v vs 5) - v_iv (n_v vs 7) := f8
  obtain ⟨f9, hf⟩ := fc_un (show (7 : Nat) < 100 from by decide) hf
  have f9 : v_iv (n_v vs 1) < v_iv (n_v vs 6) := f9
  obtain ⟨f10, hf⟩ := fc_un (show (10 : Nat) < 100 from by decide) hf
  have f10 : v_iv (n_v vs 6) = w_el w1 (v_ad (n_v vs 4)) (v_iv (n_v vs 2)).toNat := f10
  obtain ⟨f11, hf⟩ := fc_un (show (9 : Nat) < 100 from by decide) hf
  have f11 : n_v vs 4 = w_fd w1 (v_ad (n_v vs 0)) 7 := f11
  obtain ⟨f12, hf⟩ := fc_un (show (10 : Nat) < 100 from by decide) hf
  have f12 : v_iv (n_v vs 5) = w_el w1 (v_ad (n_v vs 4)) (v_iv (n_v vs 2)).toNat := f12
  obtain ⟨f13, hf⟩ := fc_un (show (7 : Nat) < 100 from by decide) hf
  have f13 : v_iv (n_v vs 2) < v_iv (n_v vs 3) := f13
  obtain ⟨f14, hf⟩ := fc_un (show (9 : Nat) < 100 from by decide) hf
  have f14 : n_v vs 3 = w_fd w1 (v_ad (n_v vs 0)) 1 := f14
  obtain ⟨f15, hf⟩ := fc_un (show (20 : Nat) < 100 from by decide) hf
  have f15 : (-1) * w_fi w1 (n_v vs 0) 0 + 0 ≤ (-1) := f15
  obtain ⟨f16, hf⟩ := fc_un (show (20 : Nat) < 100 from by decide) hf
  have f16 : 1 * v_iv (n_v vs 1) + ((-1) * w_fi w1 (n_v vs 0) 0 + 0) ≤ (-1) := f16
  have ar_0_7_1 : w_ar w1 (n_v vs 0) 7 = w_ar ws (n_v vs 0) 7 := by show v_ad (w_fd w1 _ _) = v_ad (w_fd ws _ _); rw [s1.2]
  have cr_0_7 : ta (w_ar ws (n_v vs 0) 7) = some 52 := tv_rg (th_fd hD hth r0 (g := GG_3) rfl (k := 7) (t := (2, 0, 0, [52])) rfl rfl)
  have ar_0_8_1 : w_ar w1 (n_v vs 0) 8 = w_ar ws (n_v vs 0) 8 := by show v_ad (w_fd w1 _ _) = v_ad (w_fd ws _ _); rw [s1.2]
  have cr_0_8 : ta (w_ar ws (n_v vs 0) 8) = some 53 := tv_rg (th_fd hD hth r0 (g := GG_3) rfl (k := 8) (t := (2, 0, 0, [53])) rfl rfl)
  have ad_9 : v_ad (n_v vs 9) = w_ar ws (n_v vs 0) 8 := congrArg v_ad f3
  have ad_4 : v_ad (n_v vs 4) = w_ar ws (n_v vs 0) 7 := (congrArg v_ad f11).trans ar_0_7_1
  rw [ad_9] at f2
  rw [ad_9] at f4
  rw [ad_4] at f10
  rw [ad_4] at f12
  have g14 : v_iv (n_v vs 3) = w_fi w1 (n_v vs 0) 1 := congrArg v_iv f14
  have fe_0_0_1 : w_fi ws (n_v vs 0) 0 = w_fi w1 (n_v vs 0) 0 := congrArg v_iv (s1.2 _ _)
  have fe_0_1_1 : w_fi ws (n_v vs 0) 1 = w_fi w1 (n_v vs 0) 1 := congrArg v_iv (s1.2 _ _)
  have ee_0_7_2_1 : w_el ws (w_ar ws (n_v vs 0) 7) (v_iv (n_v vs 2)).toNat = v_iv (n_v vs 8) := by rw [s1.1, if_pos ⟨ad_4.symm, rfl⟩]
  have ee_0_8_2_1 : w_el ws (w_ar ws (n_v vs 0) 8) (v_iv (n_v vs 2)).toNat = w_el w1 (w_ar ws (n_v vs 0) 8) (v_iv (n_v vs 2)).toNat := by rw [s1.1, if_neg (fun e => by have e1 := e.1; rw [← e1] at r4; rw [cr_0_8] at r4; exact absurd (Option.some.inj r4) (by decide))]
  have kz_0_0 : 0 ≤ w_fi ws (n_v vs 0) 0 ∧ w_fi ws (n_v vs 0) 0 ≤ 24 := tv_rng (th_fd hD hth r0 (g := GG_3) rfl (k := 0) (t := (0, 0, 24, [])) rfl rfl)
  have kz_0_1 : 0 ≤ w_fi ws (n_v vs 0) 1 ∧ w_fi ws (n_v vs 0) 1 ≤ 48 := tv_rng (th_fd hD hth r0 (g := GG_3) rfl (k := 1) (t := (0, 0, 48, [])) rfl rfl)
  have rf13 : tv_ok ta (0, 0, 22, []) (n_v vs 13) := tv_in t13 (by omega) (by omega)
  refine ⟨List.forall_mem_cons.mpr ⟨rf13, (fun _ h => (by cases h))⟩, [], trivial, ?_, (fun _ h => (by cases h))⟩
  rw [List.append_nil]
  exact (fun _ h => (by cases h))
def n_Gr_removeNode_an : List an_T := [(7, [(0, (2, 0, 0, [3])), (1, (0, 0, 23, [])), (2, (0, -1, 47, []))], [], (0, 0), [(0, 0, 99993), (2, 2, -1), (0, 0, 100000)], [(1, 2, -1000000000000, 24), (1, 3, -1000000000000, 23), (2, 1, -1000000000000, 47), (2, 3, -1000000000000, -1), (3, 1, -1000000000000, 48), (3, 2, -1000000000000, 49)], [((0, 1), (0, 0, 48, []))], [], 0, [], [(20, [0], [30, -1, -1, 1, 0]), (20, [1, 0], [30, -1, 1, 0, 0, -1, 1, 0])]), (44, [(0, (2, 0, 0, [3])), (1, (0, 0, 23, [])), (2, (0, 0, 48, []))], [], (0, 0), [(0, 0, 99956), (1, 2, 48), (0, 0, 100000)], [(1, 2, -1000000000000, 23)], [], [], 0, [], [(20, [0], [30, -1, -1, 1, 0]), (20, [1, 0], [30, -1, 1, 0, 0, -1, 1, 0])])]
def t_Gr_removeNode_ct : ct_L := [(1, 83, e_Gr_relink), (1, 140, e_Gr_removeEdge), (414, 77, e_acp_73), (462, 77, e_acp_74), (510, 77, e_acp_75), (558, 77, e_acp_76)]
set_option maxRecDepth 100000 in
theorem c_Gr_removeNode {l : Launch} {D : va_G} {kA : Nat → ClassId} (h_Gr_relink : ct_ok l D kA GG y_Gr_relink z_Gr_relink e_Gr_relink) (h_Gr_removeEdge : ct_ok l D kA GG y_Gr_removeEdge z_Gr_removeEdge e_Gr_removeEdge) : ct_ok l D kA GG y_Gr_removeNode z_Gr_removeNode e_Gr_removeNode := chk_all_ok (FT := [(9, 3, 0), (15, 3, 1), (21, 3, 3), (25, 3, 4), (29, 3, 5), (32, 3, 6), (35, 3, 7), (38, 3, 8)]) (PT := [(9, 3, 0, .int)]) (CT := t_Gr_removeNode_ct) (KT := []) (NT := []) (AN := n_Gr_removeNode_an) (OT := [o_Gr_removeNode_0, o_Gr_removeNode_1, o_Gr_removeNode_2, o_Gr_removeNode_3, o_Gr_removeNode_4, o_Gr_removeNode_5, o_Gr_removeNode_6, o_Gr_removeNode_7, o_Gr_removeNode_8, o_Gr_removeNode_9, o_Gr_removeNode_10]) 3 644 (List.forall_mem_cons.mpr ⟨oo_Gr_removeNode_0, List.forall_mem_cons.mpr ⟨oo_Gr_removeNode_1, List.forall_mem_cons.mpr ⟨oo_Gr_removeNode_2, List.forall_mem_cons.mpr ⟨oo_Gr_removeNode_3, List.forall_mem_cons.mpr ⟨oo_Gr_removeNode_4, List.forall_mem_cons.mpr ⟨oo_Gr_removeNode_5, List.forall_mem_cons.mpr ⟨oo_Gr_removeNode_6, List.forall_mem_cons.mpr ⟨oo_Gr_removeNode_7, List.forall_mem_cons.mpr ⟨oo_Gr_removeNode_8, List.forall_mem_cons.mpr ⟨oo_Gr_removeNode_9, List.forall_mem_cons.mpr ⟨oo_Gr_removeNode_10, List.forall_mem_nil _⟩⟩⟩⟩⟩⟩⟩⟩⟩⟩⟩) (by decide +kernel) ⟨List.forall_mem_cons.mpr ⟨gf_Gr_9, List.forall_mem_cons.mpr ⟨gf_Gr_15, List.forall_mem_cons.mpr ⟨gf_Gr_21, List.forall_mem_cons.mpr ⟨gf_Gr_25, List.forall_mem_cons.mpr ⟨gf_Gr_29, List.forall_mem_cons.mpr ⟨gf_Gr_32, List.forall_mem_cons.mpr ⟨gf_Gr_35, List.forall_mem_cons.mpr ⟨gf_Gr_38, List.forall_mem_nil _⟩⟩⟩⟩⟩⟩⟩⟩, List.forall_mem_cons.mpr ⟨pf_Gr_9, List.forall_mem_nil _⟩, List.forall_mem_cons.mpr ⟨cl_virtual (y := y_Gr_relink) (ci := 3) rfl rfl ⟨_, _, rfl⟩ (by decide +kernel) h_Gr_relink wm_785 wm_3 wm_782 wm_784 wv_1_12 ⟨by decide, by decide, by decide +kernel⟩ (by decide), List.forall_mem_cons.mpr ⟨cl_virtual (y := y_Gr_removeEdge) (ci := 3) rfl rfl ⟨_, _, rfl⟩ (by decide +kernel) h_Gr_removeEdge wm_993 wm_3 wm_990 wm_992 wv_3_1 ⟨by decide, by decide, by decide +kernel⟩ (by decide), List.forall_mem_cons.mpr ⟨cl_copy rfl rfl (by decide) (by decide) (by decide) wm_748 wm_750 wm_749 wm_15, List.forall_mem_cons.mpr ⟨cl_copy rfl rfl (by decide) (by decide) (by decide) wm_748 wm_750 wm_749 wm_15, List.forall_mem_cons.mpr ⟨cl_copy rfl rfl (by decide) (by decide) (by decide) wm_748 wm_750 wm_749 wm_15, List.forall_mem_cons.mpr ⟨cl_copy rfl rfl (by decide) (by decide) (by decide) wm_748 wm_750 wm_749 wm_15, List.forall_mem_nil _⟩⟩⟩⟩⟩⟩, List.forall_mem_nil _, List.forall_mem_nil _, GG_pl⟩ (by decide +kernel)
def n_Pl_endOfRow_an : List an_T := [(21, [(0, (2, 0, 0, [6])), (1, (0, 0, 31, [])), (2, (0, -2147483648, 2147483647, [])), (3, (0, 1, 32, [])), (4, (0, -2147483648, 2147483647, []))], [], (0, 0), [(0, 0, 99979), (1, 3, 32), (0, 0, 100000)], [], [], [], 0, [], [])]
def t_Pl_endOfRow_ct : ct_L := [(1, 204, e_Pl_findWorst)]
set_option maxRecDepth 100000 in
theorem c_Pl_endOfRow {l : Launch} {D : va_G} {kA : Nat → ClassId} (h_Pl_findWorst : ct_ok l D kA GG y_Pl_findWorst z_Pl_findWorst e_Pl_findWorst) : ct_ok l D kA GG y_Pl_endOfRow z_Pl_endOfRow e_Pl_endOfRow := chk_all_ok (FT := [(45, 6, 10), (48, 6, 11), (54, 6, 13), (58, 6, 14)]) (PT := []) (CT := t_Pl_endOfRow_ct) (KT := []) (NT := []) (AN := n_Pl_endOfRow_an) (OT := []) 3 224 (List.forall_mem_nil _) (by decide +kernel) ⟨List.forall_mem_cons.mpr ⟨gf_Pl_45, List.forall_mem_cons.mpr ⟨gf_Pl_48, List.forall_mem_cons.mpr ⟨gf_Pl_54, List.forall_mem_cons.mpr ⟨gf_Pl_58, List.forall_mem_nil _⟩⟩⟩⟩, List.forall_mem_nil _, List.forall_mem_cons.mpr ⟨cl_virtual (y := y_Pl_findWorst) (ci := 6) rfl rfl ⟨_, _, rfl⟩ (by decide +kernel) h_Pl_findWorst wm_1747 wm_21 wm_1744 wm_1746 wv_8_2 ⟨by decide, by decide, by decide +kernel⟩ (by decide), List.forall_mem_nil _⟩, List.forall_mem_nil _, List.forall_mem_nil _, GG_pl⟩ (by decide +kernel)
def o_Pn_cutFace_0 : or_T := (27, 10, [(4, (0, 0, 144, [])), (7, (0, 0, 144, [])), (8, (0, -144, 144, []))], [(2, [8, 7, 4], [])], [], [], [(21, [4, 8], [144])], [], [(8, 7, -144, 0)])
theorem oo_Pn_cutFace_0 {kA : Nat → ClassId} : or_ok kA GG o_Pn_cutFace_0 := by
  intro A ta ws vs hD hth hl hk hds hf
  have hl : vs.length = 10 := hl
  have hk : ∀ q ∈ ([(4, (0, 0, 144, [])), (7, (0, 0, 144, [])), (8, (0, -144, 144, []))] : List (Nat × tv_T)), tv_ok ta q.2 (n_v vs q.1) := hk
  obtain ⟨t4, hk⟩ := List.forall_mem_cons.mp hk
  have t4 : tv_ok ta (0, 0, 144, []) (n_v vs 4) := t4
  have k4 : 0 ≤ v_iv (n_v vs 4) ∧ v_iv (n_v vs 4) ≤ 144 := tv_rng t4
  obtain ⟨t7, hk⟩ := List.forall_mem_cons.mp hk
  have t7 : tv_ok ta (0, 0, 144, []) (n_v vs 7) := t7
  have k7 : 0 ≤ v_iv (n_v vs 7) ∧ v_iv (n_v vs 7) ≤ 144 := tv_rng t7
  obtain ⟨t8, hk⟩ := List.forall_mem_cons.mp hk
  have t8 : tv_ok ta (0, -144, 144, []) (n_v vs 8) := t8
  have k8 : (-144) ≤ v_iv (n_v vs 8) ∧ v_iv (n_v vs 8) ≤ 144 := tv_rng t8
  have hds : ∀ q ∈ ([(8, 7, -144, 0)] : List of_T), n_iv vs q.2.1 + q.2.2.1 ≤ n_iv vs q.1 ∧ n_iv vs q.1 ≤ n_iv vs q.2.1 + q.2.2.2 := hds
  obtain ⟨d0, hds⟩ := List.forall_mem_cons.mp hds
  have d0 : v_iv (n_v vs 7) + (-144) ≤ v_iv (n_v vs 8) ∧ v_iv (n_v vs 8) ≤ v_iv (n_v vs 7) + 0 := d0
  have hf : fc_ok [(2, [8, 7, 4], [])] ta ws vs := hf
  obtain ⟨f0, hf⟩ := fc_un (show (2 : Nat) < 100 from by decide) hf
  have f0 : v_iv (n_v vs 8) = v_iv (n_v vs 7) - v_iv (n_v vs 4) := f0
  have nf0 : fc_1 (21, [4, 8], [144]) ws (vs) := by
    refine ⟨fun n hn => ?_, ?_⟩
    · have hn : n ∈ [4, 8] := hn
      rw [hl]
      simp only [List.mem_cons, List.not_mem_nil, or_false] at hn
      show n < 10; omega
    · show v_iv (n_v vs 4) + v_iv (n_v vs 8) ≤ 144
      omega
  refine ⟨(fun _ h => (by cases h)), [], trivial, ?_, (fun _ h => (by cases h))⟩
  rw [List.append_nil]
  exact List.forall_mem_cons.mpr ⟨⟨show (21 : Nat) < 100 from by decide, nf0⟩, (fun _ h => (by cases h))⟩
def o_Pn_cutFace_1 : or_T := (44, 8, [(1, (0, 0, 143, [])), (2, (0, 0, 144, [])), (3, (0, 1, 144, [])), (4, (0, 0, 143, [])), (7, (0, 0, 287, []))], [(1, [7, 2, 4], []), (7, [4, 3], [2]), (21, [2, 3], [144])], [(7, (0, 0, 143, []))], [], [], [], [(7, 4, 0, 144), (7, 3, -4294967296, 143), (7, 3, -4294967296, 288), (7, 2, 0, 143), (7, 1, -4294967296, 287), (7, 3, -4294967296, 431), (7, 4, -4294967296, 287), (4, 3, -4294967296, -1), (1, 2, -4294967296, 143), (1, 3, -4294967296, 287), (1, 4, -4294967296, 143), (2, 1, -4294967296, 144), (2, 3, -4294967296, 288), (2, 4, -4294967296, 144), (3, 1, -4294967296, 144), (3, 2, -4294967296, 144), (3, 4, -4294967296, 144), (4, 3, -4294967296, 144)])
theorem oo_Pn_cutFace_1 {kA : Nat → ClassId} : or_ok kA GG o_Pn_cutFace_1 := by
  intro A ta ws vs hD hth hl hk hds hf
  have hl : vs.length = 8 := hl
  have hk : ∀ q ∈ ([(1, (0, 0, 143, [])), (2, (0, 0, 144, [])), (3, (0, 1, 144, [])), (4, (0, 0, 143, [])), (7, (0, 0, 287, []))] : List (Nat × tv_T)), tv_ok ta q.2 (n_v vs q.1) := hk
  obtain ⟨t1, hk⟩ := List.forall_mem_cons.mp hk
  have t1 : tv_ok ta (0, 0, 143, []) (n_v vs 1) := t1
  have k1 : 0 ≤ v_iv (n_v vs 1) ∧ v_iv (n_v vs 1) ≤ 143 := tv_rng t1
  obtain ⟨t2, hk⟩ := List.forall_mem_cons.mp hk
  have t2 : tv_ok ta (0, 0, 144, []) (n_v vs 2) := t2
  have k2 : 0 ≤ v_iv (n_v vs 2) ∧ v_iv (n_v vs 2) ≤ 144 := tv_rng t2
  obtain ⟨t3, hk⟩ := List.forall_mem_cons.mp hk
  have t3 : tv_ok ta (0, 1, 144, []) (n_v vs 3) := t3
  have k3 : 1 ≤ v_iv (n_v vs 3) ∧ v_iv (n_v vs 3) ≤ 144 := tv_rng t3
  obtain ⟨t4, hk⟩ := List.forall_mem_cons.mp hk
  have t4 : tv_ok ta (0, 0, 143, []) (n_v vs 4) := t4
  have k4 : 0 ≤ v_iv (n_v vs 4) ∧ v_iv (n_v vs 4) ≤ 143 := tv_rng t4
  obtain ⟨t7, hk⟩ := List.forall_mem_cons.mp hk
  have t7 : tv_ok ta (0, 0, 287, []) (n_v vs 7) := t7
  have k7 : 0 ≤ v_iv (n_v vs 7) ∧ v_iv (n_v vs 7) ≤ 287 := tv_rng t7
  have hds : ∀ q ∈ ([(7, 4, 0, 144), (7, 3, -4294967296, 143), (7, 3, -4294967296, 288), (7, 2, 0, 143), (7, 1, -4294967296, 287), (7, 3, -4294967296, 431), (7, 4, -4294967296, 287), (4, 3, -4294967296, -1), (1, 2, -4294967296, 143), (1, 3, -4294967296, 287), (1, 4, -4294967296, 143), (2, 1, -4294967296, 144), (2, 3, -4294967296, 288), (2, 4, -4294967296, 144), (3, 1, -4294967296, 144), (3, 2, -4294967296, 144), (3, 4, -4294967296, 144), (4, 3, -4294967296, 144)] : List of_T), n_iv vs q.2.1 + q.2.2.1 ≤ n_iv vs q.1 ∧ n_iv vs q.1 ≤ n_iv vs q.2.1 + q.2.2.2 := hds
  obtain ⟨d0, hds⟩ := List.forall_mem_cons.mp hds
  have d0 : v_iv (n_v vs 4) + 0 ≤ v_iv (n_v vs 7) ∧ v_iv (n_v vs 7) ≤ v_iv (n_v vs 4) + 144 := d0
  obtain ⟨d1, hds⟩ := List.forall_mem_cons.mp hds
  have d1 : v_iv (n_v vs 3) + (-4294967296) ≤ v_iv (n_v vs 7) ∧ v_iv (n_v vs 7) ≤ v_iv (n_v vs 3) + 143 := d1
  obtain ⟨d2, hds⟩ := List.forall_mem_cons.mp hds
  have d2 : v_iv (n_v vs 3) + (-4294967296) ≤ v_iv (n_v vs 7) ∧ v_iv (n_v vs 7) ≤ v_iv (n_v vs 3) + 288 := d2
  obtain ⟨d3, hds⟩ := List.forall_mem_cons.mp hds
  have d3 : v_iv (n_v vs 2) + 0 ≤ v_iv (n_v vs 7) ∧ v_iv (n_v vs 7) ≤ v_iv (n_v vs 2) + 143 := d3
  obtain ⟨d4, hds⟩ := List.forall_mem_cons.mp hds
  have d4 : v_iv (n_v vs 1) + (-4294967296) ≤ v_iv (n_v vs 7) ∧ v_iv (n_v vs 7) ≤ v_iv (n_v vs 1) + 287 := d4
  obtain ⟨d5, hds⟩ := List.forall_mem_cons.mp hds
  have d5 : v_iv (n_v vs 3) + (-4294967296) ≤ v_iv (n_v vs 7) ∧ v_iv (n_v vs 7) ≤ v_iv (n_v vs 3) + 431 := d5
  obtain ⟨d6, hds⟩ := List.forall_mem_cons.mp hds
  have d6 : v_iv (n_v vs 4) + (-4294967296) ≤ v_iv (n_v vs 7) ∧ v_iv (n_v vs 7) ≤ v_iv (n_v vs 4) + 287 := d6
  obtain ⟨d7, hds⟩ := List.forall_mem_cons.mp hds
  have d7 : v_iv (n_v vs 3) + (-4294967296) ≤ v_iv (n_v vs 4) ∧ v_iv (n_v vs 4) ≤ v_iv (n_v vs 3) + (-1) := d7
  obtain ⟨d8, hds⟩ := List.forall_mem_cons.mp hds
  have d8 : v_iv (n_v vs 2) + (-4294967296) ≤ v_iv (n_v vs 1) ∧ v_iv (n_v vs 1) ≤ v_iv (n_v vs 2) + 143 := d8
  obtain ⟨d9, hds⟩ := List.forall_mem_cons.mp hds
  have d9 : v_iv (n_v vs 3) + (-4294967296) ≤ v_iv (n_v vs 1) ∧ v_iv (n_v vs 1) ≤ v_iv (n_v vs 3) + 287 := d9
  obtain ⟨d10, hds⟩ := List.forall_mem_cons.mp hds
  have d10 : v_iv (n_v vs 4) + (-4294967296) ≤ v_iv (n_v vs 1) ∧ v_iv (n_v vs 1) ≤ v_iv (n_v vs 4) + 143 := d10
  obtain ⟨d11, hds⟩ := List.forall_mem_cons.mp hds
  have d11 : v_iv (n_v vs 1) + (-4294967296) ≤ v_iv (n_v vs 2) ∧ v_iv (n_v vs 2) ≤ v_iv (n_v vs 1) + 144 := d11
  obtain ⟨d12, hds⟩ := List.forall_mem_cons.mp hds
  have d12 : v_iv (n_v vs 3) + (-4294967296) ≤ v_iv (n_v vs 2) ∧ v_iv (n_v vs 2) ≤ v_iv (n_v vs 3) + 288 := d12
  obtain ⟨d13, hds⟩ := List.forall_mem_cons.mp hds
  have d13 : v_iv (n_v vs 4) + (-4294967296) ≤ v_iv (n_v vs 2) ∧ v_iv (n_v vs 2) ≤ v_iv (n_v vs 4) + 144 := d13
  obtain ⟨d14, hds⟩ := List.forall_mem_cons.mp hds
  have d14 : v_iv (n_v vs 1) + (-4294967296) ≤ v_iv (n_v vs 3) ∧ v_iv (n_v vs 3) ≤ v_iv (n_v vs 1) + 144 := d14
  obtain ⟨d15, hds⟩ := List.forall_mem_cons.mp hds
  have d15 : v_iv (n_v vs 2) + (-4294967296) ≤ v_iv (n_v vs 3) ∧ v_iv (n_v vs 3) ≤ v_iv (n_v vs 2) + 144 := d15
  obtain ⟨d16, hds⟩ := List.forall_mem_cons.mp hds
  have d16 : v_iv (n_v vs 4) + (-4294967296) ≤ v_iv (n_v vs 3) ∧ v_iv (n_v vs 3) ≤ v_iv (n_v vs 4) + 144 := d16
  obtain ⟨d17, hds⟩ := List.forall_mem_cons.mp hds
  have d17 : v_iv (n_v vs 3) + (-4294967296) ≤ v_iv (n_v vs 4) ∧ v_iv (n_v vs 4) ≤ v_iv (n_v vs 3) + 144 := d17
  have hf : fc_ok [(1, [7, 2, 4], []), (7, [4, 3], [2]), (21, [2, 3], [144])] ta ws vs := hf
  obtain ⟨f0, hf⟩ := fc_un (show (1 : Nat) < 100 from by decide) hf
  have f0 : v_iv (n_v vs 7) = v_iv (n_v vs 2) + v_iv (n_v vs 4) := f0
  obtain ⟨f1, hf⟩ := fc_un (show (7 : Nat) < 100 from by decide) hf
  have f1 : v_iv (n_v vs 4) < v_iv (n_v vs 3) := f1
  obtain ⟨f2, hf⟩ := fc_un (show (21 : Nat) < 100 from by decide) hf
  have f2 : v_iv (n_v vs 2) + v_iv (n_v vs 3) ≤ 144 := f2
  have rf7 : tv_ok ta (0, 0, 143, []) (n_v vs 7) := tv_in t7 (by omega) (by omega)
  refine ⟨List.forall_mem_cons.mpr ⟨rf7, (fun _ h => (by cases h))⟩, [], trivial, ?_, (fun _ h => (by cases h))⟩
  rw [List.append_nil]
  exact (fun _ h => (by cases h))
def o_Pn_cutFace_2 : or_T := (62, 13, [(1, (0, 0, 143, [])), (2, (0, 0, 144, [])), (3, (0, 1, 144, [])), (4, (0, 0, 143, [])), (7, (0, 0, 143, [])), (9, (0, 1, 1, [])), (10, (0, 1, 144, [])), (11, (0, 0, 143, [])), (12, (0, 0, 287, []))], [(1, [12, 2, 11], []), (1, [10, 4, 9], []), (1, [7, 2, 4], []), (7, [4, 3], [2]), (21, [2, 3], [144])], [(12, (0, 0, 143, []))], [], [], [], [(12, 11, 0, 144), (12, 3, -4294967295, 143), (12, 1, -4294967296, 287), (12, 2, -4294967296, 287), (12, 4, -4294967296, 287), (12, 2, 0, 143), (12, 3, -4294967296, 431), (11, 3, -4294967295, -1), (11, 1, -4294967296, 143), (11, 2, -4294967296, 143), (11, 4, -4294967296, 143), (10, 4, 1, 1), (10, 3, -4294967296, 0), (10, 3, -4294967296, 145), (7, 4, 0, 144), (7, 3, -4294967296, 143), (7, 3, -4294967296, 288), (7, 2, 0, 143), (7, 1, -4294967296, 287), (7, 3, -4294967296, 431), (7, 4, -4294967296, 287), (4, 3, -4294967296, -1), (1, 2, -4294967296, 143), (1, 3, -4294967296, 287), (1, 4, -4294967296, 143), (2, 1, -4294967296, 144), (2, 3, -4294967296, 288), (2, 4, -4294967296, 144), (3, 1, -4294967296, 144), (3, 2, -4294967296, 144), (3, 4, -4294967296, 144), (4, 3, -4294967296, 144)])
theorem oo_Pn_cutFace_2 {kA : Nat → ClassId} : or_ok kA GG o_Pn_cutFace_2 := by
  intro A ta ws vs hD hth hl hk hds hf
  have hl : vs.length = 13 := hl
  have hk : ∀ q ∈ ([(1, (0, 0, 143, [])), (2, (0, 0, 144, [])), (3, (0, 1, 144, [])), (4, (0, 0, 143, [])), (7, (0, 0, 143, [])), (9, (0, 1, 1, [])), (10, (0, 1, 144, [])), (11, (0, 0, 143, [])), (12, (0, 0, 287, []))] : List (Nat × tv_T)), tv_ok ta q.2 (n_v vs q.1) := hk
  obtain ⟨t1, hk⟩ := List.forall_mem_cons.mp hk
  have t1 : tv_ok ta (0, 0, 143, []) (n_v vs 1) := t1
  have k1 : 0 ≤ v_iv (n_v vs 1) ∧ v_iv (n_v vs 1) ≤ 143 := tv_rng t1
  obtain ⟨t2, hk⟩ := List.forall_mem_cons.mp hk
  have t2 : tv_ok ta (0, 0, 144, []) (n_v vs 2) := t2
  have k2 : 0 ≤ v_iv (n_v vs 2) ∧ v_iv (n_v vs 2) ≤ 144 := tv_rng t2
  obtain ⟨t3, hk⟩ := List.forall_mem_cons.mp hk
  have t3 : tv_ok ta (0, 1, 144, []) (n_v vs 3) := t3
  have k3 : 1 ≤ v_iv (n_v vs 3) ∧ v_iv (n_v vs 3) ≤ 144 := tv_rng t3
  obtain ⟨t4, hk⟩ := List.forall_mem_cons.mp hk
  have t4 : tv_ok ta (0, 0, 143, []) (n_v vs 4) := t4
  have k4 : 0 ≤ v_iv (n_v vs 4) ∧ v_iv (n_v vs 4) ≤ 143 := tv_rng t4
  obtain ⟨t7, hk⟩ := List.forall_mem_cons.mp hk
  have t7 : tv_ok ta (0, 0, 143, []) (n_v vs 7) := t7
  have k7 : 0 ≤ v_iv (n_v vs 7) ∧ v_iv (n_v vs 7) ≤ 143 := tv_rng t7
  obtain ⟨t9, hk⟩ := List.forall_mem_cons.mp hk
  have t9 : tv_ok ta (0, 1, 1, []) (n_v vs 9) := t9
  have k9 : 1 ≤ v_iv (n_v vs 9) ∧ v_iv (n_v vs 9) ≤ 1 := tv_rng t9
  obtain ⟨t10, hk⟩ := List.forall_mem_cons.mp hk
  have t10 : tv_ok ta (0, 1, 144, []) (n_v vs 10) := t10
  have k10 : 1 ≤ v_iv (n_v vs 10) ∧ v_iv (n_v vs 10) ≤ 144 := tv_rng t10
  obtain ⟨t11, hk⟩ := List.forall_mem_cons.mp hk
  have t11 : tv_ok ta (0, 0, 143, []) (n_v vs 11) := t11
  have k11 : 0 ≤ v_iv (n_v vs 11) ∧ v_iv (n_v vs 11) ≤ 143 := tv_rng t11
  obtain ⟨t12, hk⟩ := List.forall_mem_cons.mp hk
  have t12 : tv_ok ta (0, 0, 287, []) (n_v vs 12) := t12
  have k12 : 0 ≤ v_iv (n_v vs 12) ∧ v_iv (n_v vs 12) ≤ 287 := tv_rng t12
  have hds : ∀ q ∈ ([(12, 11, 0, 144), (12, 3, -4294967295, 143), (12, 1, -4294967296, 287), (12, 2, -4294967296, 287), (12, 4, -4294967296, 287), (12, 2, 0, 143), (12, 3, -4294967296, 431), (11, 3, -4294967295, -1), (11, 1, -4294967296, 143), (11, 2, -4294967296, 143), (11, 4, -4294967296, 143), (10, 4, 1, 1), (10, 3, -4294967296, 0), (10, 3, -4294967296, 145), (7, 4, 0, 144), (7, 3, -4294967296, 143), (7, 3, -4294967296, 288), (7, 2, 0, 143), (7, 1, -4294967296, 287), (7, 3, -4294967296, 431), (7, 4, -4294967296, 287), (4, 3, -4294967296, -1), (1, 2, -4294967296, 143), (1, 3, -4294967296, 287), (1, 4, -4294967296, 143), (2, 1, -4294967296, 144), (2, 3, -4294967296, 288), (2, 4, -4294967296, 144), (3, 1, -4294967296, 144), (3, 2, -4294967296, 144), (3, 4, -4294967296, 144), (4, 3, -4294967296, 144)] : List of_T), n_iv vs q.2.1 + q.2.2.1 ≤ n_iv vs q.1 ∧ n_iv vs q.1 ≤ n_iv vs q.2.1 + q.2.2.2 := hds
  obtain ⟨d0, hds⟩ := List.forall_mem_cons.mp hds
  have d0 : v_iv (n_v vs 11) + 0 ≤ v_iv (n_v vs 12) ∧ v_iv (n_v vs 12) ≤ v_iv (n_v vs 11) + 144 := d0
  obtain ⟨d1, hds⟩ := List.forall_mem_cons.mp hds
  have d1 : v_iv (n_v vs 3) + (-4294967295) ≤ v_iv (n_v vs 12) ∧ v_iv (n_v vs 12) ≤ v_iv (n_v vs 3) + 143 := d1
  obtain ⟨d2, hds⟩ := List.forall_mem_cons.mp hds
  have d2 : v_iv (n_v vs 1) + (-4294967296) ≤ v_iv (n_v vs 12) ∧ v_iv (n_v vs 12) ≤ v_iv (n_v vs 1) + 287 := d2
  obtain ⟨d3, hds⟩ := List.forall_mem_cons.mp hds
  have d3 : v_iv (n_v vs 2) + (-4294967296) ≤ v_iv (n_v vs 12) ∧ v_iv (n_v vs 12) ≤ v_iv (n_v vs 2) + 287 := d3
  obtain ⟨d4, hds⟩ := List.forall_mem_cons.mp hds
  have d4 : v_iv (n_v vs 4) + (-4294967296) ≤ v_iv (n_v vs 12) ∧ v_iv (n_v vs 12) ≤ v_iv (n_v vs 4) + 287 := d4
  obtain ⟨d5, hds⟩ := List.forall_mem_cons.mp hds
  have d5 : v_iv (n_v vs 2) + 0 ≤ v_iv (n_v vs 12) ∧ v_iv (n_v vs 12) ≤ v_iv (n_v vs 2) + 143 := d5
  obtain ⟨d6, hds⟩ := List.forall_mem_cons.mp hds
  have d6 : v_iv (n_v vs 3) + (-4294967296) ≤ v_iv (n_v vs 12) ∧ v_iv (n_v vs 12) ≤ v_iv (n_v vs 3) + 431 := d6
  obtain ⟨d7, hds⟩ := List.forall_mem_cons.mp hds
  have d7 : v_iv (n_v vs 3) + (-4294967295) ≤ v_iv (n_v vs 11) ∧ v_iv (n_v vs 11) ≤ v_iv (n_v vs 3) + (-1) := d7
  obtain ⟨d8, hds⟩ := List.forall_mem_cons.mp hds
  have d8 : v_iv (n_v vs 1) + (-4294967296) ≤ v_iv (n_v vs 11) ∧ v_iv (n_v vs 11) ≤ v_iv (n_v vs 1) + 143 := d8
  obtain ⟨d9, hds⟩ := List.forall_mem_cons.mp hds
  have d9 : v_iv (n_v vs 2) + (-4294967296) ≤ v_iv (n_v vs 11) ∧ v_iv (n_v vs 11) ≤ v_iv (n_v vs 2) + 143 := d9
  obtain ⟨d10, hds⟩ := List.forall_mem_cons.mp hds
  have d10 : v_iv (n_v vs 4) + (-4294967296) ≤ v_iv (n_v vs 11) ∧ v_iv (n_v vs 11) ≤ v_iv (n_v vs 4) + 143 := d10
  obtain ⟨d11, hds⟩ := List.forall_mem_cons.mp hds
  have d11 : v_iv (n_v vs 4) + 1 ≤ v_iv (n_v vs 10) ∧ v_iv (n_v vs 10) ≤ v_iv (n_v vs 4) + 1 := d11
  obtain ⟨d12, hds⟩ := List.forall_mem_cons.mp hds
  have d12 : v_iv (n_v vs 3) + (-4294967296) ≤ v_iv (n_v vs 10) ∧ v_iv (n_v vs 10) ≤ v_iv (n_v vs 3) + 0 := d12
  obtain ⟨d13, hds⟩ := List.forall_mem_cons.mp hds
  have d13 : v_iv (n_v vs 3) + (-4294967296) ≤ v_iv (n_v vs 10) ∧ v_iv (n_v vs 10) ≤ v_iv (n_v vs 3) + 145 := d13
  obtain ⟨d14, hds⟩ := List.forall_mem_cons.mp hds
  have d14 : v_iv (n_v vs 4) + 0 ≤ v_iv (n_v vs 7) ∧ v_iv (n_v vs 7) ≤ v_iv (n_v vs 4) + 144 := d14
  obtain ⟨d15, hds⟩ := List.forall_mem_cons.mp hds
  have d15 : v_iv (n_v vs 3) + (-4294967296) ≤ v_iv (n_v vs 7) ∧ v_iv (n_v vs 7) ≤ v_iv (n_v vs 3) + 143 := d15
  obtain ⟨d16, hds⟩ := List.forall_mem_cons.mp hds
  have d16 : v_iv (n_v vs 3) + (-4294967296) ≤ v_iv (n_v vs 7) ∧ v_iv (n_v vs 7) ≤ v_iv (n_v vs 3) + 288 := d16
  obtain ⟨d17, hds⟩ := List.forall_mem_cons.mp hds
  have d17 : v_iv (n_v vs 2) + 0 ≤ v_iv (n_v vs 7) ∧ v_iv (n_v vs 7) ≤ v_iv (n_v vs 2) + 143 := d17
  obtain ⟨d18, hds⟩ := List.forall_mem_cons.mp hds
  have d18 : v_iv (n_v vs 1) + (-4294967296) ≤ v_iv (n_v vs 7) ∧ v_iv (n_v vs 7) ≤ v_iv (n_v vs 1) + 287 := d18
  obtain ⟨d19, hds⟩ := List.forall_mem_cons.mp hds
  have d19 : v_iv (n_v vs 3) + (-4294967296) ≤ v_iv (n_v vs 7) ∧ v_iv (n_v vs 7) ≤ v_iv (n_v vs 3) + 431 := d19
  obtain ⟨d20, hds⟩ := List.forall_mem_cons.mp hds
  have d20 : v_iv (n_v vs 4) + (-4294967296) ≤ v_iv (n_v vs 7) ∧ v_iv (n_v vs 7) ≤ v_iv (n_v vs 4) + 287 := d20
  obtain ⟨d21, hds⟩ := List.forall_mem_cons.mp hds
  have d21 : v_iv (n_v vs 3) + (-4294967296) ≤ v_iv (n_v vs 4) ∧ v_iv (n_v vs 4) ≤ v_iv (n_v vs 3) + (-1) := d21
  obtain ⟨d22, hds⟩ := List.forall_mem_cons.mp hds
  have d22 : v_iv (n_v vs 2) + (-4294967296) ≤ v_iv (n_v vs 1) ∧ v_iv (n_v vs 1) ≤ v_iv (n_v vs 2) + 143 := d22
  obtain ⟨d23, hds⟩ := List.forall_mem_cons.mp hds
  have d23 : v_iv (n_v vs 3) + (-4294967296) ≤ v_iv (n_v vs 1) ∧ v_iv (n_v vs 1) ≤ v_iv (n_v vs 3) + 287 := d23
  obtain ⟨d24, hds⟩ := List.forall_mem_cons.mp hds
  have d24 : v_iv (n_v vs 4) + (-4294967296) ≤ v_iv (n_v vs 1) ∧ v_iv (n_v vs 1) ≤ v_iv (n_v vs 4) + 143 := d24
  obtain ⟨d25, hds⟩ := List.forall_mem_cons.mp hds
  have d25 : v_iv (n_v vs 1) + (-4294967296) ≤ v_iv (n_v vs 2) ∧ v_iv (n_v vs 2) ≤ v_iv (n_v vs 1) + 144 := d25
  obtain ⟨d26, hds⟩ := List.forall_mem_cons.mp hds
  have d26 : v_iv (n_v vs 3) + (-4294967296) ≤ v_iv (n_v vs 2) ∧ v_iv (n_v vs 2) ≤ v_iv (n_v vs 3) + 288 := d26
  obtain ⟨d27, hds⟩ := List.forall_mem_cons.mp hds
  have d27 : v_iv (n_v vs 4) + (-4294967296) ≤ v_iv (n_v vs 2) ∧ v_iv (n_v vs 2) ≤ v_iv (n_v vs 4) + 144 := d27
  obtain ⟨d28, hds⟩ := List.forall_mem_cons.mp hds
  have d28 : v_iv (n_v vs 1) + (-4294967296) ≤ v_iv (n_v vs 3) ∧ v_iv (n_v vs 3) ≤ v_iv (n_v vs 1) + 144 := d28
  obtain ⟨d29, hds⟩ := List.forall_mem_cons.mp hds
  have d29 : v_iv (n_v vs 2) + (-4294967296) ≤ v_iv (n_v vs 3) ∧ v_iv (n_v vs 3) ≤ v_iv (n_v vs 2) + 144 := d29
  obtain ⟨d30, hds⟩ := List.forall_mem_cons.mp hds
  have d30 : v_iv (n_v vs 4) + (-4294967296) ≤ v_iv (n_v vs 3) ∧ v_iv (n_v vs 3) ≤ v_iv (n_v vs 4) + 144 := d30
  obtain ⟨d31, hds⟩ := List.forall_mem_cons.mp hds
  have d31 : v_iv (n_v vs 3) + (-4294967296) ≤ v_iv (n_v vs 4) ∧ v_iv (n_v vs 4) ≤ v_iv (n_v vs 3) + 144 := d31
  have hf : fc_ok [(1, [12, 2, 11], []), (1, [10, 4, 9], []), (1, [7, 2, 4], []), (7, [4, 3], [2]), (21, [2, 3], [144])] ta ws vs := hf
  obtain ⟨f0, hf⟩ := fc_un (show (1 : Nat) < 100 from by decide) hf
  have f0 : v_iv (n_v vs 12) = v_iv (n_v vs 2) + v_iv (n_v vs 11) := f0
  obtain ⟨f1, hf⟩ := fc_un (show (1 : Nat) < 100 from by decide) hf
  have f1 : v_iv (n_v vs 10) = v_iv (n_v vs 4) + v_iv (n_v vs 9) := f1
  obtain ⟨f2, hf⟩ := fc_un (show (1 : Nat) < 100 from by decide) hf
  have f2 : v_iv (n_v vs 7) = v_iv (n_v vs 2) + v_iv (n_v vs 4) := f2
  obtain ⟨f3, hf⟩ := fc_un (show (7 : Nat) < 100 from by decide) hf
  have f3 : v_iv (n_v vs 4) < v_iv (n_v vs 3) := f3
  obtain ⟨f4, hf⟩ := fc_un (show (21 : Nat) < 100 from by decide) hf
  have f4 : v_iv (n_v vs 2) + v_iv (n_v vs 3) ≤ 144 := f4
  have rf12 : tv_ok ta (0, 0, 143, []) (n_v vs 12) := tv_in t12 (by omega) (by omega)
  refine ⟨List.forall_mem_cons.mpr ⟨rf12, (fun _ h => (by cases h))⟩, [], trivial, ?_, (fun _ h => (by cases h))⟩
  rw [List.append_nil]
  exact (fun _ h => (by cases h))
def o_Pn_cutFace_3 : or_T := (80, 18, [(1, (0, 0, 143, [])), (2, (0, 0, 144, [])), (3, (0, 1, 144, [])), (4, (0, 0, 143, [])), (7, (0, 0, 143, [])), (9, (0, 1, 1, [])), (10, (0, 1, 144, [])), (11, (0, 0, 143, [])), (12, (0, 0, 143, [])), (14, (0, 2, 2, [])), (15, (0, 2, 145, [])), (16, (0, 0, 143, [])), (17, (0, 0, 287, []))], [(1, [17, 2, 16], []), (1, [15, 4, 14], []), (1, [12, 2, 11], []), (1, [10, 4, 9], []), (1, [7, 2, 4], []), (7, [4, 3], [2]), (21, [2, 3], [144])], [(17, (0, 0, 143, []))], [], [], [], [(17, 16, 0, 144), (17, 3, -4294967295, 143), (17, 1, -4294967296, 287), (17, 2, -4294967296, 287), (17, 4, -4294967296, 287), (17, 2, 0, 143), (17, 3, -4294967296, 431), (16, 3, -4294967295, -1), (16, 1, -4294967296, 143), (16, 2, -4294967296, 143), (16, 4, -4294967296, 143), (15, 4, 2, 2), (15, 3, -4294967296, 1), (15, 3, -4294967296, 146), (12, 11, 0, 144), (12, 3, -4294967295, 143), (12, 1, -4294967296, 287), (12, 2, -4294967296, 287), (12, 4, -4294967296, 287), (12, 2, 0, 143), (12, 3, -4294967296, 431), (11, 3, -4294967295, -1), (11, 1, -4294967296, 143), (11, 2, -4294967296, 143), (11, 4, -4294967296, 143), (10, 4, 1, 1), (10, 3, -4294967296, 0), (10, 3, -4294967296, 145), (7, 4, 0, 144), (7, 3, -4294967296, 143), (7, 3, -4294967296, 288), (7, 2, 0, 143), (7, 1, -4294967296, 287), (7, 3, -4294967296, 431), (7, 4, -4294967296, 287), (4, 3, -4294967296, -1), (1, 2, -4294967296, 143), (1, 3, -4294967296, 287), (1, 4, -4294967296, 143), (2, 1, -4294967296, 144), (2, 3, -4294967296, 288), (2, 4, -4294967296, 144), (3, 1, -4294967296, 144), (3, 2, -4294967296, 144), (3, 4, -4294967296, 144), (4, 3, -4294967296, 144)])
theorem oo_Pn_cutFace_3 {kA : Nat → ClassId} : or_ok kA GG o_Pn_cutFace_3 := by
  intro A ta ws vs hD hth hl hk hds hf
  have hl : vs.length = 18 := hl
  have hk : ∀ q ∈ ([(1, (0, 0, 143, [])), (2, (0, 0, 144, [])), (3, (0, 1, 144, [])), (4, (0, 0, 143, [])), (7, (0, 0, 143, [])), (9, (0, 1, 1, [])), (10, (0, 1, 144, [])), (11, (0, 0, 143, [])), (12, (0, 0, 143, [])), (14, (0, 2, 2, [])), (15, (0, 2, 145, [])), (16, (0, 0, 143, [])), (17, (0, 0, 287, []))] : List (Nat × tv_T)), tv_ok ta q.2 (n_v vs q.1) := hk
  obtain ⟨t1, hk⟩ := List.forall_mem_cons.mp hk
  have t1 : tv_ok ta (0, 0, 143, []) (n_v vs 1) := t1
  have k1 : 0 ≤ v_iv (n_v vs 1) ∧ v_iv (n_v vs 1) ≤ 143 := tv_rng t1
  obtain ⟨t2, hk⟩ := List.forall_mem_cons.mp hk
  have t2 : tv_ok ta (0, 0, 144, []) (n_v vs 2) := t2
  have k2 : 0 ≤ v_iv (n_v vs 2) ∧ v_iv (n_v vs 2) ≤ 144 := tv_rng t2
  obtain ⟨t3, hk⟩ := List.forall_mem_cons.mp hk
  have t3 : tv_ok ta (0, 1, 144, []) (n_v vs 3) := t3
  have k3 : 1 ≤ v_iv (n_v vs 3) ∧ v_iv (n_v vs 3) ≤ 144 := tv_rng t3
  obtain ⟨t4, hk⟩ := List.forall_mem_cons.mp hk
  have t4 : tv_ok ta (0, 0, 143, []) (n_v vs 4) := t4
  have k4 : 0 ≤ v_iv (n_v vs 4) ∧ v_iv (n_v vs 4) ≤ 143 := tv_rng t4
  obtain ⟨t7, hk⟩ := List.forall_mem_cons.mp hk
  have t7 : tv_ok ta (0, 0, 143, []) (n_v vs 7) := t7
  have k7 : 0 ≤ v_iv (n_v vs 7) ∧ v_iv (n_v vs 7) ≤ 143 := tv_rng t7
  obtain ⟨t9, hk⟩ := List.forall_mem_cons.mp hk
  have t9 : tv_ok ta (0, 1, 1, []) (n_v vs 9) := t9
  have k9 : 1 ≤ v_iv (n_v vs 9) ∧ v_iv (n_v vs 9) ≤ 1 := tv_rng t9
  obtain ⟨t10, hk⟩ := List.forall_mem_cons.mp hk
  have t10 : tv_ok ta (0, 1, 144, []) (n_v vs 10) := t10
  have k10 : 1 ≤ v_iv (n_v vs 10) ∧ v_iv (n_v vs 10) ≤ 144 := tv_rng t10
  obtain ⟨t11, hk⟩ := List.forall_mem_cons.mp hk
  have t11 : tv_ok ta (0, 0, 143, []) (n_v vs 11) := t11
  have k11 : 0 ≤ v_iv (n_v vs 11) ∧ v_iv (n_v vs 11) ≤ 143 := tv_rng t11
  obtain ⟨t12, hk⟩ := List.forall_mem_cons.mp hk
  have t12 : tv_ok ta (0, 0, 143, []) (n_v vs 12) := t12
  have k12 : 0 ≤ v_iv (n_v vs 12) ∧ v_iv (n_v vs 12) ≤ 143 := tv_rng t12
  obtain ⟨t14, hk⟩ := List.forall_mem_cons.mp hk
  have t14 : tv_ok ta (0, 2, 2, []) (n_v vs 14) := t14
  have k14 : 2 ≤ v_iv (n_v vs 14) ∧ v_iv (n_v vs 14) ≤ 2 := tv_rng t14
  obtain ⟨t15, hk⟩ := List.forall_mem_cons.mp hk
  have t15 : tv_ok ta (0, 2, 145, []) (n_v vs 15) := t15
  have k15 : 2 ≤ v_iv (n_v vs 15) ∧ v_iv (n_v vs 15) ≤ 145 := tv_rng t15
  obtain ⟨t16, hk⟩ := List.forall_mem_cons.mp hk
  have t16 : tv_ok ta (0, 0, 143, []) (n_v vs 16) := t16
  have k16 : 0 ≤ v_iv (n_v vs 16) ∧ v_iv (n_v vs 16) ≤ 143 := tv_rng t16
  obtain ⟨t17, hk⟩ := List.forall_mem_cons.mp hk
  have t17 : tv_ok ta (0, 0, 287, []) (n_v vs 17) := t17
  have k17 : 0 ≤ v_iv (n_v vs 17) ∧ v_iv (n_v vs 17) ≤ 287 := tv_rng t17
  have hds : ∀ q ∈ ([(17, 16, 0, 144), (17, 3, -4294967295, 143), (17, 1, -4294967296, 287), (17, 2, -4294967296, 287), (17, 4, -4294967296, 287), (17, 2, 0, 143), (17, 3, -4294967296, 431), (16, 3, -4294967295, -1), (16, 1, -4294967296, 143), (16, 2, -4294967296, 143), (16, 4, -4294967296, 143), (15, 4, 2, 2), (15, 3, -4294967296, 1), (15, 3, -4294967296, 146), (12, 11, 0, 144), (12, 3, -4294967295, 143), (12, 1, -4294967296, 287), (12, 2, -4294967296, 287), (12, 4, -4294967296, 287), (12, 2, 0, 143), (12, 3, -4294967296, 431), (11, 3, -4294967295, -1), (11, 1, -4294967296, 143), (11, 2, -4294967296, 143), (11, 4, -4294967296, 143), (10, 4, 1, 1), (10, 3, -4294967296, 0), (10, 3, -4294967296, 145), (7, 4, 0, 144), (7, 3, -4294967296, 143), (7, 3, -4294967296, 288), (7, 2, 0, 143), (7, 1, -4294967296, 287), (7, 3, -4294967296, 431), (7, 4, -4294967296, 287), (4, 3, -4294967296, -1), (1, 2, -4294967296, 143), (1, 3, -4294967296, 287), (1, 4, -4294967296, 143), (2, 1, -4294967296, 144), (2, 3, -4294967296, 288), (2, 4, -4294967296, 144), (3, 1, -4294967296, 144), (3, 2, -4294967296, 144), (3, 4, -4294967296, 144), (4, 3, -4294967296, 144)] : List of_T), n_iv vs q.2.1 + q.2.2.1 ≤ n_iv vs q.1 ∧ n_iv vs q.1 ≤ n_iv vs q.2.1 + q.2.2.2 := hds
  obtain ⟨d0, hds⟩ := List.forall_mem_cons.mp hds
  have d0 : v_iv (n_v vs 16) + 0 ≤ v_iv (n_v vs 17) ∧ v_iv (n_v vs 17) ≤ v_iv (n_v vs 16) + 144 := d0
  obtain ⟨d1, hds⟩ := List.forall_mem_cons.mp hds
  have d1 : v_iv (n_v vs 3) + (-4294967295) ≤ v_iv (n_v vs 17) ∧ v_iv (n_v vs 17) ≤ v_iv (n_v vs 3) + 143 := d1
  obtain ⟨d2, hds⟩ := List.forall_mem_cons.mp hds
  have d2 : v_iv (n_v vs 1) + (-4294967296) ≤ v_iv (n_v vs 17) ∧ v_iv (n_v vs 17) ≤ v_iv (n_v vs 1) + 287 := d2
  obtain ⟨d3, hds⟩ := List.forall_mem_cons.mp hds
  have d3 : v_iv (n_v vs 2) + (-4294967296) ≤ v_iv (n_v vs 17) ∧ v_iv (n_v vs 17) ≤ v_iv (n_v vs 2) + 287 := d3
  obtain ⟨d4, hds⟩ := List.forall_mem_cons.mp hds
  have d4 : v_iv (n_v vs 4) + (-4294967296) ≤ v_iv (n_v vs 17) ∧ v_iv (n_v vs 17) ≤ v_iv (n_v vs 4) + 287 := d4
  obtain ⟨d5, hds⟩ := List.forall_mem_cons.mp hds
  have d5 : v_iv (n_v vs 2) + 0 ≤ v_iv (n_v vs 17) ∧ v_iv (n_v vs 17) ≤ v_iv (n_v vs 2) + 143 := d5
  obtain ⟨d6, hds⟩ := List.forall_mem_cons.mp hds
  have d6 : v_iv (n_v vs 3) + (-4294967296) ≤ v_iv (n_v vs 17) ∧ v_iv (n_v vs 17) ≤ v_iv (n_v vs 3) + 431 := d6
  obtain ⟨d7, hds⟩ := List.forall_mem_cons.mp hds
  have d7 : v_iv (n_v vs 3) + (-4294967295) ≤ v_iv (n_v vs 16) ∧ v_iv (n_v vs 16) ≤ v_iv (n_v vs 3) + (-1) := d7
  obtain ⟨d8, hds⟩ := List.forall_mem_cons.mp hds
  have d8 : v_iv (n_v vs 1) + (-4294967296) ≤ v_iv (n_v vs 16) ∧ v_iv (n_v vs 16) ≤ v_iv (n_v vs 1) + 143 := d8
  obtain ⟨d9, hds⟩ := List.forall_mem_cons.mp hds
  have d9 : v_iv (n_v vs 2) + (-4294967296) ≤ v_iv (n_v vs 16) ∧ v_iv (n_v vs 16) ≤ v_iv (n_v vs 2) + 143 := d9
  obtain ⟨d10, hds⟩ := List.forall_mem_cons.mp hds
  have d10 : v_iv (n_v vs 4) + (-4294967296) ≤ v_iv (n_v vs 16) ∧ v_iv (n_v vs 16) ≤ v_iv (n_v vs 4) + 143 := d10
  obtain ⟨d11, hds⟩ := List.forall_mem_cons.mp hds
  have d11 : v_iv (n_v vs 4) + 2 ≤ v_iv (n_v vs 15) ∧ v_iv (n_v vs 15) ≤ v_iv (n_v vs 4) + 2 := d11
  obtain ⟨d12, hds⟩ := List.forall_mem_cons.mp hds
  have d12 : v_iv (n_v vs 3) + (-4294967296) ≤ v_iv (n_v vs 15) ∧ v_iv (n_v vs 15) ≤ v_iv (n_v vs 3) + 1 := d12
  obtain ⟨d13, hds⟩ := List.forall_mem_cons.mp hds
  have d13 : v_iv (n_v vs 3) + (-4294967296) ≤ v_iv (n_v vs 15) ∧ v_iv (n_v vs 15) ≤ v_iv (n_v vs 3) + 146 := d13
  obtain ⟨d14, hds⟩ := List.forall_mem_cons.mp hds
  have d14 : v_iv (n_v vs 11) + 0 ≤ v_iv (n_v vs 12) ∧ v_iv (n_v vs 12) ≤ v_iv (n_v vs 11) + 144 := d14
  obtain ⟨d15, hds⟩ := List.forall_mem_cons.mp hds
  have d15 : v_iv (n_v vs 3) + (-4294967295) ≤ v_iv (n_v vs 12) ∧ v_iv (n_v vs 12) ≤ v_iv (n_v vs 3) + 143 := d15
  obtain ⟨d16, hds⟩ := List.forall_mem_cons.mp hds
  have d16 : v_iv (n_v vs 1) + (-4294967296) ≤ v_iv (n_v vs 12) ∧ v_iv (n_v vs 12) ≤ v_iv (n_v vs 1) + 287 := d16
  obtain ⟨d17, hds⟩ := List.forall_mem_cons.mp hds
  have d17 : v_iv (n_v vs 2) + (-4294967296) ≤ v_iv (n_v vs 12) ∧ v_iv (n_v vs 12) ≤ v_iv (n_v vs 2) + 287 := d17
  obtain ⟨d18, hds⟩ := List.forall_mem_cons.mp hds
  have d18 : v_iv (n_v vs 4) + (-4294967296) ≤ v_iv (n_v vs 12) ∧ v_iv (n_v vs 12) ≤ v_iv (n_v vs 4) + 287 := d18
  obtain ⟨d19, hds⟩ := List.forall_mem_cons.mp hds
  have d19 : v_iv (n_v vs 2) + 0 ≤ v_iv (n_v vs 12) ∧ v_iv (n_v vs 12) ≤ v_iv (n_v vs 2) + 143 := d19
  obtain ⟨d20, hds⟩ := List.forall_mem_cons.mp hds
  have d20 : v_iv (n_v vs 3) + (-4294967296) ≤ v_iv (n_v vs 12) ∧ v_iv (n_v vs 12) ≤ v_iv (n_v vs 3) + 431 := d20
  obtain ⟨d21, hds⟩ := List.forall_mem_cons.mp hds
  have d21 : v_iv (n_v vs 3) + (-4294967295) ≤ v_iv (n_v vs 11) ∧ v_iv (n_v vs 11) ≤ v_iv (n_v vs 3) + (-1) := d21
  obtain ⟨d22, hds⟩ := List.forall_mem_cons.mp hds
  have d22 : v_iv (n_v vs 1) + (-4294967296) ≤ v_iv (n_v vs 11) ∧ v_iv (n_v vs 11) ≤ v_iv (n_v vs 1) + 143 := d22
  obtain ⟨d23, hds⟩ := List.forall_mem_cons.mp hds
  have d23 : v_iv (n_v vs 2) + (-4294967296) ≤ v_iv (n_v vs 11) ∧ v_iv (n_v vs 11) ≤ v_iv (n_v vs 2) + 143 := d23
  obtain ⟨d24, hds⟩ := List.forall_mem_cons.mp hds
  have d24 : v_iv (n_v vs 4) + (-4294967296) ≤ v_iv (n_v vs 11) ∧ v_iv (n_v vs 11) ≤ v_iv (n_v vs 4) + 143 := d24
  obtain ⟨d25, hds⟩ := List.forall_mem_cons.mp hds
  have d25 : v_iv (n_v vs 4) + 1 ≤ v_iv (n_v vs 10) ∧ v_iv (n_v vs 10) ≤ v_iv (n_v vs 4) + 1 := d25
  obtain ⟨d26, hds⟩ := List.forall_mem_cons.mp hds
  have d26 : v_iv (n_v vs 3) + (-4294967296) ≤ v_iv (n_v vs 10) ∧ v_iv (n_v vs 10) ≤ v_iv (n_v vs 3) + 0 := d26
  obtain ⟨d27, hds⟩ := List.forall_mem_cons.mp hds
  have d27 : v_iv (n_v vs 3) + (-4294967296) ≤ v_iv (n_v vs 10) ∧ v_iv (n_v vs 10) ≤ v_iv (n_v vs 3) + 145 := d27
  obtain ⟨d28, hds⟩ := List.forall_mem_cons.mp hds
  have d28 : v_iv (n_v vs 4) + 0 ≤ v_iv (n_v vs 7) ∧ v_iv (n_v vs 7) ≤ v_iv (n_v vs 4) + 144 := d28
  obtain ⟨d29, hds⟩ := List.forall_mem_cons.mp hds
  have d29 : v_iv (n_v vs 3) + (-4294967296) ≤ v_iv (n_v vs 7) ∧ v_iv (n_v vs 7) ≤ v_iv (n_v vs 3) + 143 := d29
  obtain ⟨d30, hds⟩ := List.forall_mem_cons.mp hds
  have d30 : v_iv (n_v vs 3) + (-4294967296) ≤ v_iv (n_v vs 7) ∧ v_iv (n_v vs 7) ≤ v_iv (n_v vs 3) + 288 := d30
  obtain ⟨d31, hds⟩ := List.forall_mem_cons.mp hds
  have d31 : v_iv (n_v vs 2) + 0 ≤ v_iv (n_v vs 7) ∧ v_iv (n_v vs 7) ≤ v_iv (n_v vs 2) + 143 := d31
  obtain ⟨d32, hds⟩ := List.forall_mem_cons.mp hds
  have d32 : v_iv (n_v vs 1) + (-4294967296) ≤ v_iv (n_v vs 7) ∧ v_iv (n_v vs 7) ≤ v_iv (n_v vs 1) + 287 := d32
  obtain ⟨d33, hds⟩ := List.forall_mem_cons.mp hds
  have d33 : v_iv (n_v vs 3) + (-4294967296) ≤ v_iv (n_v vs 7) ∧ v_iv (n_v vs 7) ≤ v_iv (n_v vs 3) + 431 := d33
  obtain ⟨d34, hds⟩ := List.forall_mem_cons.mp hds
  have d34 : v_iv (n_v vs 4) + (-4294967296) ≤ v_iv (n_v vs 7) ∧ v_iv (n_v vs 7) ≤ v_iv (n_v vs 4) + 287 := d34
  obtain ⟨d35, hds⟩ := List.forall_mem_cons.mp hds
  have d35 : v_iv (n_v vs 3) + (-4294967296) ≤ v_iv (n_v vs 4) ∧ v_iv (n_v vs 4) ≤ v_iv (n_v vs 3) + (-1) := d35
  obtain ⟨d36, hds⟩ := List.forall_mem_cons.mp hds
  have d36 : v_iv (n_v vs 2) + (-4294967296) ≤ v_iv (n_v vs 1) ∧ v_iv (n_v vs 1) ≤ v_iv (n_v vs 2) + 143 := d36
  obtain ⟨d37, hds⟩ := List.forall_mem_cons.mp hds
  have d37 : v_iv (n_v vs 3) + (-4294967296) ≤ v_iv (n_v vs 1) ∧ v_iv (n_v vs 1) ≤ v_iv (n_v vs 3) + 287 := d37
  obtain ⟨d38, hds⟩ := List.forall_mem_cons.mp hds
  have d38 : v_iv (n_v vs 4) + (-4294967296) ≤ v_iv (n_v vs 1) ∧ v_iv (n_v vs 1) ≤ v_iv (n_v vs 4) + 143 := d38
  obtain ⟨d39, hds⟩ := List.forall_mem_cons.mp hds
  have d39 : v_iv (n_v vs 1) + (-4294967296) ≤ v_iv (n_v vs 2) ∧ v_iv (n_v vs 2) ≤ v_iv (n_v vs 1) + 144 := d39
  obtain ⟨d40, hds⟩ := List.forall_mem_cons.mp hds
  have d40 : v_iv (n_v vs 3) + (-4294967296) ≤ v_iv (n_v vs 2) ∧ v_iv (n_v vs 2) ≤ v_iv (n_v vs 3) + 288 := d40
  obtain ⟨d41, hds⟩ := List.forall_mem_cons.mp hds
  have d41 : v_iv (n_v vs 4) + (-4294967296) ≤ v_iv (n_v vs 2) ∧ v_iv (n_v vs 2) ≤ v_iv (n_v vs 4) + 144 := d41
  obtain ⟨d42, hds⟩ := List.forall_mem_cons.mp hds
  have d42 : v_iv (n_v vs 1) + (-4294967296) ≤ v_iv (n_v vs 3) ∧ v_iv (n_v vs 3) ≤ v_iv (n_v vs 1) + 144 := d42
  obtain ⟨d43, hds⟩ := List.forall_mem_cons.mp hds
  have d43 : v_iv (n_v vs 2) + (-4294967296) ≤ v_iv (n_v vs 3) ∧ v_iv (n_v vs 3) ≤ v_iv (n_v vs 2) + 144 := d43
  obtain ⟨d44, hds⟩ := List.forall_mem_cons.mp hds
  have d44 : v_iv (n_v vs 4) + (-4294967296) ≤ v_iv (n_v vs 3) ∧ v_iv (n_v vs 3) ≤ v_iv (n_v vs 4) + 144 := d44
  obtain ⟨d45, hds⟩ := List.forall_mem_cons.mp hds
  have d45 : v_iv (n_v vs 3) + (-4294967296) ≤ v_iv (n_v vs 4) ∧ v_iv (n_v vs 4) ≤ v_iv (n_v vs 3) + 144 := d45
  have hf : fc_ok [(1, [17, 2, 16], []), (1, [15, 4, 14], []), (1, [12, 2, 11], []), (1, [10, 4, 9], []), (1, [7, 2, 4], []), (7, [4, 3], [2]), (21, [2, 3], [144])] ta ws vs := hf
  obtain ⟨f0, hf⟩ := fc_un (show (1 : Nat) < 100 from by decide) hf
  have f0 : v_iv (n_v vs 17) = v_iv (n_v vs 2) + v_iv (n_v vs 16) := f0
  obtain ⟨f1, hf⟩ := fc_un (show (1 : Nat) < 100 from by decide) hf
  have f1 : v_iv (n_v vs 15) = v_iv (n_v vs 4) + v_iv (n_v vs 14) := f1
  obtain ⟨f2, hf⟩ := fc_un (show (1 : Nat) < 100 from by decide) hf
  have f2 : v_iv (n_v vs 12) = v_iv (n_v vs 2) + v_iv (n_v vs 11) := f2
  obtain ⟨f3, hf⟩ := fc_un (show (1 : Nat) < 100 from by decide) hf
  have f3 : v_iv (n_v vs 10) = v_iv (n_v vs 4) + v_iv (n_v vs 9) := f3
  obtain ⟨f4, hf⟩ := fc_un (show (1 : Nat) < 100 from by decide) hf
  have f4 : v_iv (n_v vs 7) = v_iv (n_v vs 2) + v_iv (n_v vs 4) := f4
  obtain ⟨f5, hf⟩ := fc_un (show (7 : Nat) < 100 from by decide) hf
  have f5 : v_iv (n_v vs 4) < v_iv (n_v vs 3) := f5
  obtain ⟨f6, hf⟩ := fc_un (show (21 : Nat) < 100 from by decide) hf
  have f6 : v_iv (n_v vs 2) + v_iv (n_v vs 3) ≤ 144 := f6
  have rf17 : tv_ok ta (0, 0, 143, []) (n_v vs 17) := tv_in t17 (by omega) (by omega)
  refine ⟨List.forall_mem_cons.mpr ⟨rf17, (fun _ h => (by cases h))⟩, [], trivial, ?_, (fun _ h => (by cases h))⟩
  rw [List.append_nil]
  exact (fun _ h => (by cases h))
def n_Pn_cutFace_an : List an_T := [(27, [(0, (2, 0, 0, [7])), (1, (0, 0, 143, [])), (2, (0, 0, 144, [])), (3, (0, -144, 144, [])), (4, (0, 0, 144, []))], [], (0, 0), [(0, 0, 99973), (1, 4, 144), (0, 0, 100000)], [(1, 2, -1000000000000, 143), (1, 3, -1000000000000, 287), (1, 4, -1000000000000, 143), (2, 1, -1000000000000, 144), (2, 3, -1000000000000, 288), (2, 4, -1000000000000, 144), (3, 1, -1000000000000, 144), (3, 2, -1000000000000, 144), (3, 4, -1000000000000, 144), (4, 3, -1000000000000, 144)], [], [], 0, [], [(21, [2, 3], [144])])]
def t_Pn_cutFace_ct : ct_L := [(1, 134, e_Ne_edgeBetween), (1, 137, e_Ne_insertAhead), (1, 141, e_Ne_insertBehind), (439, 104, e_Ne_join_at_Ne)]
set_option maxRecDepth 100000 in
theorem c_Pn_cutFace {l : Launch} {D : va_G} {kA : Nat → ClassId} (h_Ne_edgeBetween : ct_ok l D kA GG y_Ne_edgeBetween z_Ne_edgeBetween e_Ne_edgeBetween) (h_Ne_insertAhead : ct_ok l D kA GG y_Ne_insertAhead z_Ne_insertAhead e_Ne_insertAhead) (h_Ne_insertBehind : ct_ok l D kA GG y_Ne_insertBehind z_Ne_insertBehind e_Ne_insertBehind) (h_Ne_join_at_Ne : ct_ok l D kA GG y_Ne_join_at_Ne z_Ne_join_at_Ne e_Ne_join_at_Ne) : ct_ok l D kA GG y_Pn_cutFace z_Pn_cutFace e_Pn_cutFace := chk_all_ok (FT := [(12, 7, 0), (125, 5, 14), (128, 5, 15), (131, 5, 9)]) (PT := []) (CT := t_Pn_cutFace_ct) (KT := []) (NT := []) (AN := n_Pn_cutFace_an) (OT := [o_Pn_cutFace_0, o_Pn_cutFace_1, o_Pn_cutFace_2, o_Pn_cutFace_3]) 3 480 (List.forall_mem_cons.mpr ⟨oo_Pn_cutFace_0, List.forall_mem_cons.mpr ⟨oo_Pn_cutFace_1, List.forall_mem_cons.mpr ⟨oo_Pn_cutFace_2, List.forall_mem_cons.mpr ⟨oo_Pn_cutFace_3, List.forall_mem_nil _⟩⟩⟩⟩) (by decide +kernel) ⟨List.forall_mem_cons.mpr ⟨gf_Pn_12, List.forall_mem_cons.mpr ⟨gf_Pn_125, List.forall_mem_cons.mpr ⟨gf_Pn_128, List.forall_mem_cons.mpr ⟨gf_Pn_131, List.forall_mem_nil _⟩⟩⟩⟩, List.forall_mem_nil _, List.forall_mem_cons.mpr ⟨cl_virtual (y := y_Ne_edgeBetween) (ci := 5) rfl rfl ⟨_, _, rfl⟩ (by decide +kernel) h_Ne_edgeBetween wm_1089 wm_6 wm_1544 wm_1087 wm_1088 ⟨by decide, by decide, by decide +kernel⟩ (by decide), List.forall_mem_cons.mpr ⟨cl_virtual (y := y_Ne_insertAhead) (ci := 5) rfl rfl ⟨_, _, rfl⟩ (by decide +kernel) h_Ne_insertAhead wm_1526 wm_6 wm_1545 wm_1524 wm_1525 ⟨by decide, by decide, by decide +kernel⟩ (by decide), List.forall_mem_cons.mpr ⟨cl_virtual (y := y_Ne_insertBehind) (ci := 5) rfl rfl ⟨_, _, rfl⟩ (by decide +kernel) h_Ne_insertBehind wm_1530 wm_6 wm_1546 wm_1528 wm_1529 ⟨by decide, by decide, by decide +kernel⟩ (by decide), List.forall_mem_cons.mpr ⟨cl_virtual (y := y_Ne_join_at_Ne) (ci := 5) rfl rfl ⟨_, _, rfl⟩ (by decide +kernel) h_Ne_join_at_Ne wm_1065 wm_6 wm_1518 wm_1063 wm_1064 ⟨by decide, by decide, by decide +kernel⟩ (by decide), List.forall_mem_nil _⟩⟩⟩⟩, List.forall_mem_nil _, List.forall_mem_nil _, GG_pl⟩ (by decide +kernel)
def n_Pn_placeByOrder_an : List an_T := [(2, [(0, (2, 0, 0, [7])), (1, (2, 0, 0, [0])), (2, (0, 0, 3, []))], [], (0, 0), [(0, 0, 99998), (1, 2, 3), (0, 0, 100000)], [], [], [], 0, [], []), (105, [(0, (2, 0, 0, [7])), (1, (2, 0, 0, [0])), (2, (0, 3, 24, []))], [], (0, 0), [(0, 0, 99895), (1, 2, 24), (0, 0, 100000)], [], [], [], 0, [], [])]
def t_Pn_placeByOrder_ct : ct_L := [(1, 180, e_Pn_placeNext)]
set_option maxRecDepth 100000 in
theorem c_Pn_placeByOrder {l : Launch} {D : va_G} {kA : Nat → ClassId} (h_Pn_placeNext : ct_ok l D kA GG y_Pn_placeNext z_Pn_placeNext e_Pn_placeNext) : ct_ok l D kA GG y_Pn_placeByOrder z_Pn_placeByOrder e_Pn_placeByOrder := chk_all_ok (FT := [(12, 7, 0), (18, 7, 1), (22, 7, 2), (29, 7, 4), (86, 5, 5), (87, 0, 3), (177, 0, 2)]) (PT := [(25, 7, 3, .int)]) (CT := t_Pn_placeByOrder_ct) (KT := []) (NT := []) (AN := n_Pn_placeByOrder_an) (OT := []) 3 448 (List.forall_mem_nil _) (by decide +kernel) ⟨List.forall_mem_cons.mpr ⟨gf_Pn_12, List.forall_mem_cons.mpr ⟨gf_Pn_18, List.forall_mem_cons.mpr ⟨gf_Pn_22, List.forall_mem_cons.mpr ⟨gf_Pn_29, List.forall_mem_cons.mpr ⟨gf_Pn_86, List.forall_mem_cons.mpr ⟨gf_Pn_87, List.forall_mem_cons.mpr ⟨gf_Pn_177, List.forall_mem_nil _⟩⟩⟩⟩⟩⟩⟩, List.forall_mem_cons.mpr ⟨pf_Pn_25, List.forall_mem_nil _⟩, List.forall_mem_cons.mpr ⟨cl_virtual (y := y_Pn_placeNext) (ci := 7) rfl rfl ⟨_, _, rfl⟩ (by decide +kernel) h_Pn_placeNext wm_1573 wm_20 wm_1570 wm_1572 wv_6_14 ⟨by decide, by decide, by decide +kernel⟩ (by decide), List.forall_mem_nil _⟩, List.forall_mem_nil _, List.forall_mem_nil _, GG_pl⟩ (by decide +kernel)
