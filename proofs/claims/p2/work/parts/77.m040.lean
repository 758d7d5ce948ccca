def o_Mo_word_at_s5037_0 : or_T := (54, 5, [(0, (2, 0, 0, [150])), (3, (0, 0, 0, []))], [], [], [], [(20, [3, 0], [50, 1, 1, 1158, 1160, 4, 6, 1, 2, 1, 0, 0, 1, 1, 6, 3, 1, 160, 2, 1, 158, 0, 1]), (24, [0, 0], [])], [], [])
theorem oo_Mo_word_at_s5037_0 {kA : Nat → ClassId} : or_ok kA GG o_Mo_word_at_s5037_0 := by
  intro A ta ws vs hD hth hl hk hds hf
  have hl : vs.length = 5 := hl
  have hk : ∀ q ∈ ([(0, (2, 0, 0, [150])), (3, (0, 0, 0, []))] : List (Nat × tv_T)), tv_ok ta q.2 (n_v vs q.1) := hk
  obtain ⟨t0, hk⟩ := List.forall_mem_cons.mp hk
  have t0 : tv_ok ta (2, 0, 0, [150]) (n_v vs 0) := t0
  have r0 : ta (v_ad (n_v vs 0)) = some 150 := tv_rg t0
  obtain ⟨t3, hk⟩ := List.forall_mem_cons.mp hk
  have t3 : tv_ok ta (0, 0, 0, []) (n_v vs 3) := t3
  have k3 : 0 ≤ v_iv (n_v vs 3) ∧ v_iv (n_v vs 3) ≤ 0 := tv_rng t3
  have cr_0_160 : ta (w_ar ws (n_v vs 0) 160) = some 259 := tv_rg (th_fd hD hth r0 (g := GG_150) rfl (k := 160) (t := (2, 0, 0, [259])) rfl rfl)
  have hK_0_160 : ∀ j : Int, 0 ≤ j → j < 2010 → 0 ≤ w_ei ws (w_ar ws (n_v vs 0) 160) j ∧ w_ei ws (w_ar ws (n_v vs 0) 160) j ≤ 4 := fun j h0 h1 => th_el hD hth cr_0_160 (kd := 0) (n := 2010) (m := 2010) (lo := 0) (hi := 4) (rs := []) (L := []) rfl (by decide) (j := j.toNat) (by omega)
  have kz_0_158 : 0 ≤ w_fi ws (n_v vs 0) 158 ∧ w_fi ws (n_v vs 0) 158 ≤ 2009 := tv_rng (th_fd hD hth r0 (g := GG_150) rfl (k := 158) (t := (0, 0, 2009, [])) rfl rfl)
  have nf0 : fc_1 (20, [3, 0], [50, 1, 1, 1158, 1160, 4, 6, 1, 2, 1, 0, 0, 1, 1, 6, 3, 1, 160, 2, 1, 158, 0, 1]) ws (vs) := by
    refine ⟨fun n hn => ?_, ?_⟩
    · have hn : n ∈ [3, 0] := hn
      rw [hl]
      simp only [List.mem_cons, List.not_mem_nil, or_false] at hn
      show n < 5; omega
    · show (v_iv (n_v vs 3) = 1) → (w_ei ws (w_ar ws (n_v vs 0) 160) (w_fi ws (n_v vs 0) 158) = 1)
      first | omega | grind
  have nf1 : fc_1 (24, [0, 0], []) ws (vs) := by
    refine ⟨fun n hn => ?_, ?_⟩
    · have hn : n ∈ [0, 0] := hn
      rw [hl]
      simp only [List.mem_cons, List.not_mem_nil, or_false] at hn
      show n < 5; omega
    · show n_v vs 0 = n_v vs 0
      first | rfl | simp only [true_and]
  refine ⟨(fun _ h => (by cases h)), [], trivial, ?_, (fun _ h => (by cases h))⟩
  rw [List.append_nil]
  exact List.forall_mem_cons.mpr ⟨⟨show (20 : Nat) < 100 from by decide, nf0⟩, List.forall_mem_cons.mpr ⟨⟨show (24 : Nat) < 100 from by decide, nf1⟩, (fun _ h => (by cases h))⟩⟩
def o_Mo_word_at_s5037_1 : or_T := (54, 9, [(0, (2, 0, 0, [150])), (3, (2, 0, 0, [259])), (4, (0, 0, 2009, [])), (5, (0, 0, 4, [])), (6, (0, 1, 1, [])), (7, (0, 0, 0, []))], [(7, [5, 6], [1]), (10, [5, 3, 4], []), (9, [4, 0], [158]), (9, [3, 0], [160])], [], [], [(20, [7, 0], [50, 1, 1, 1158, 1160, 4, 6, 1, 2, 1, 0, 0, 1, 1, 6, 3, 1, 160, 2, 1, 158, 0, 1]), (24, [0, 0], [])], [], [])
theorem oo_Mo_word_at_s5037_1 {kA : Nat → ClassId} : or_ok kA GG o_Mo_word_at_s5037_1 := by
  intro A ta ws vs hD hth hl hk hds hf
  have hl : vs.length = 9 := hl
  have hk : ∀ q ∈ ([(0, (2, 0, 0, [150])), (3, (2, 0, 0, [259])), (4, (0, 0, 2009, [])), (5, (0, 0, 4, [])), (6, (0, 1, 1, [])), (7, (0, 0, 0, []))] : List (Nat × tv_T)), tv_ok ta q.2 (n_v vs q.1) := hk
  obtain ⟨t0, hk⟩ := List.forall_mem_cons.mp hk
  have t0 : tv_ok ta (2, 0, 0, [150]) (n_v vs 0) := t0
  have r0 : ta (v_ad (n_v vs 0)) = some 150 := tv_rg t0
  obtain ⟨t3, hk⟩ := List.forall_mem_cons.mp hk
  have t3 : tv_ok ta (2, 0, 0, [259]) (n_v vs 3) := t3
  have r3 : ta (v_ad (n_v vs 3)) = some 259 := tv_rg t3
  obtain ⟨t4, hk⟩ := List.forall_mem_cons.mp hk
  have t4 : tv_ok ta (0, 0, 2009, []) (n_v vs 4) := t4
  have k4 : 0 ≤ v_iv (n_v vs 4) ∧ v_iv (n_v vs 4) ≤ 2009 := tv_rng t4
  obtain ⟨t5, hk⟩ := List.forall_mem_cons.mp hk
  have t5 : tv_ok ta (0, 0, 4, []) (n_v vs 5) := t5
  have k5 : 0 ≤ v_iv (n_v vs 5) ∧ v_iv (n_v vs 5) ≤ 4 := tv_rng t5
  obtain ⟨t6, hk⟩ := List.forall_mem_cons.mp hk
  have t6 : tv_ok ta (0, 1, 1, []) (n_v vs 6) := t6
  have k6 : 1 ≤ v_iv (n_v vs 6) ∧ v_iv (n_v vs 6) ≤ 1 := tv_rng t6
  obtain ⟨t7, hk⟩ := List.forall_mem_cons.mp hk
  have t7 : tv_ok ta (0, 0, 0, []) (n_v vs 7) := t7
  have k7 : 0 ≤ v_iv (n_v vs 7) ∧ v_iv (n_v vs 7) ≤ 0 := tv_rng t7
  have hf : fc_ok [(7, [5, 6], [1]), (10, [5, 3, 4], []), (9, [4, 0], [158]), (9, [3, 0], [160])] ta ws vs := hf
  obtain ⟨f0, hf⟩ := fc_un (show (7 : Nat) < 100 from by decide) hf
  have f0 : v_iv (n_v vs 5) ≠ v_iv (n_v vs 6) := f0
  obtain ⟨f1, hf⟩ := fc_un (show (10 : Nat) < 100 from by decide) hf
  have f1 : v_iv (n_v vs 5) = w_el ws (v_ad (n_v vs 3)) (v_iv (n_v vs 4)).toNat := f1
  obtain ⟨f2, hf⟩ := fc_un (show (9 : Nat) < 100 from by decide) hf
  have f2 : n_v vs 4 = w_fd ws (v_ad (n_v vs 0)) 158 := f2
  obtain ⟨f3, hf⟩ := fc_un (show (9 : Nat) < 100 from by decide) hf
  have f3 : n_v vs 3 = w_fd ws (v_ad (n_v vs 0)) 160 := f3
  have cr_0_160 : ta (w_ar ws (n_v vs 0) 160) = some 259 := tv_rg (th_fd hD hth r0 (g := GG_150) rfl (k := 160) (t := (2, 0, 0, [259])) rfl rfl)
  have ad_3 : v_ad (n_v vs 3) = w_ar ws (n_v vs 0) 160 := congrArg v_ad f3
  rw [ad_3] at f1
  have h1 : v_iv (n_v vs 5) = w_ei ws (w_ar ws (n_v vs 0) 160) (v_iv (n_v vs 4)) := f1
  have g2 : v_iv (n_v vs 4) = w_fi ws (n_v vs 0) 158 := congrArg v_iv f2
  have br_0_160_4_0 : w_ei ws (w_ar ws (n_v vs 0) 160) (v_iv (n_v vs 4)) = w_el ws (w_ar ws (n_v vs 0) 160) (v_iv (n_v vs 4)).toNat := rfl
  have hK_0_160 : ∀ j : Int, 0 ≤ j → j < 2010 → 0 ≤ w_ei ws (w_ar ws (n_v vs 0) 160) j ∧ w_ei ws (w_ar ws (n_v vs 0) 160) j ≤ 4 := fun j h0 h1 => th_el hD hth cr_0_160 (kd := 0) (n := 2010) (m := 2010) (lo := 0) (hi := 4) (rs := []) (L := []) rfl (by decide) (j := j.toNat) (by omega)
  have kz_0_158 : 0 ≤ w_fi ws (n_v vs 0) 158 ∧ w_fi ws (n_v vs 0) 158 ≤ 2009 := tv_rng (th_fd hD hth r0 (g := GG_150) rfl (k := 158) (t := (0, 0, 2009, [])) rfl rfl)
  have nf0 : fc_1 (20, [7, 0], [50, 1, 1, 1158, 1160, 4, 6, 1, 2, 1, 0, 0, 1, 1, 6, 3, 1, 160, 2, 1, 158, 0, 1]) ws (vs) := by
    refine ⟨fun n hn => ?_, ?_⟩
    · have hn : n ∈ [7, 0] := hn
      rw [hl]
      simp only [List.mem_cons, List.not_mem_nil, or_false] at hn
      show n < 9; omega
    · show (v_iv (n_v vs 7) = 1) → (w_ei ws (w_ar ws (n_v vs 0) 160) (w_fi ws (n_v vs 0) 158) = 1)
      first | omega | grind
  have nf1 : fc_1 (24, [0, 0], []) ws (vs) := by
    refine ⟨fun n hn => ?_, ?_⟩
    · have hn : n ∈ [0, 0] := hn
      rw [hl]
      simp only [List.mem_cons, List.not_mem_nil, or_false] at hn
      show n < 9; omega
    · show n_v vs 0 = n_v vs 0
      first | rfl | simp only [true_and]
  refine ⟨(fun _ h => (by cases h)), [], trivial, ?_, (fun _ h => (by cases h))⟩
  rw [List.append_nil]
  exact List.forall_mem_cons.mpr ⟨⟨show (20 : Nat) < 100 from by decide, nf0⟩, List.forall_mem_cons.mpr ⟨⟨show (24 : Nat) < 100 from by decide, nf1⟩, (fun _ h => (by cases h))⟩⟩
def o_Mo_word_at_s5037_2 : or_T := (54, 15, [(0, (2, 0, 0, [150])), (3, (2, 0, 0, [259])), (4, (0, 0, 2009, [])), (5, (0, 1, 1, [])), (6, (0, 1, 1, [])), (13, (0, 0, 0, []))], [(9, [4, 0], [158]), (7, [5, 6], [0]), (10, [5, 3, 4], []), (9, [3, 0], [160])], [], [], [(20, [13, 0], [50, 1, 1, 1158, 1160, 4, 6, 1, 2, 1, 0, 0, 1, 1, 6, 3, 1, 160, 2, 1, 158, 0, 1]), (24, [0, 0], [])], [], [])
theorem oo_Mo_word_at_s5037_2 {kA : Nat → ClassId} : or_ok kA GG o_Mo_word_at_s5037_2 := by
  intro A ta ws vs hD hth hl hk hds hf
  have hl : vs.length = 15 := hl
  have hk : ∀ q ∈ ([(0, (2, 0, 0, [150])), (3, (2, 0, 0, [259])), (4, (0, 0, 2009, [])), (5, (0, 1, 1, [])), (6, (0, 1, 1, [])), (13, (0, 0, 0, []))] : List (Nat × tv_T)), tv_ok ta q.2 (n_v vs q.1) := hk
  obtain ⟨t0, hk⟩ := List.forall_mem_cons.mp hk
  have t0 : tv_ok ta (2, 0, 0, [150]) (n_v vs 0) := t0
  have r0 : ta (v_ad (n_v vs 0)) = some 150 := tv_rg t0
  obtain ⟨t3, hk⟩ := List.forall_mem_cons.mp hk
  have t3 : tv_ok ta (2, 0, 0, [259]) (n_v vs 3) := t3
  have r3 : ta (v_ad (n_v vs 3)) = some 259 := tv_rg t3
  obtain ⟨t4, hk⟩ := List.forall_mem_cons.mp hk
  have t4 : tv_ok ta (0, 0, 2009, []) (n_v vs 4) := t4
  have k4 : 0 ≤ v_iv (n_v vs 4) ∧ v_iv (n_v vs 4) ≤ 2009 := tv_rng t4
  obtain ⟨t5, hk⟩ := List.forall_mem_cons.mp hk
  have t5 : tv_ok ta (0, 1, 1, []) (n_v vs 5) := t5
  have k5 : 1 ≤ v_iv (n_v vs 5) ∧ v_iv (n_v vs 5) ≤ 1 := tv_rng t5
  obtain ⟨t6, hk⟩ := List.forall_mem_cons.mp hk
  have t6 : tv_ok ta (0, 1, 1, []) (n_v vs 6) := t6
  have k6 : 1 ≤ v_iv (n_v vs 6) ∧ v_iv (n_v vs 6) ≤ 1 := tv_rng t6
  obtain ⟨t13, hk⟩ := List.forall_mem_cons.mp hk
  have t13 : tv_ok ta (0, 0, 0, []) (n_v vs 13) := t13
  have k13 : 0 ≤ v_iv (n_v vs 13) ∧ v_iv (n_v vs 13) ≤ 0 := tv_rng t13
  have hf : fc_ok [(9, [4, 0], [158]), (7, [5, 6], [0]), (10, [5, 3, 4], []), (9, [3, 0], [160])] ta ws vs := hf
  obtain ⟨f0, hf⟩ := fc_un (show (9 : Nat) < 100 from by decide) hf
  have f0 : n_v vs 4 = w_fd ws (v_ad (n_v vs 0)) 158 := f0
  obtain ⟨f1, hf⟩ := fc_un (show (7 : Nat) < 100 from by decide) hf
  have f1 : v_iv (n_v vs 5) = v_iv (n_v vs 6) := f1
  obtain ⟨f2, hf⟩ := fc_un (show (10 : Nat) < 100 from by decide) hf
  have f2 : v_iv (n_v vs 5) = w_el ws (v_ad (n_v vs 3)) (v_iv (n_v vs 4)).toNat := f2
  obtain ⟨f3, hf⟩ := fc_un (show (9 : Nat) < 100 from by decide) hf
  have f3 : n_v vs 3 = w_fd ws (v_ad (n_v vs 0)) 160 := f3
  have cr_0_160 : ta (w_ar ws (n_v vs 0) 160) = some 259 := tv_rg (th_fd hD hth r0 (g := GG_150) rfl (k := 160) (t := (2, 0, 0, [259])) rfl rfl)
  have ad_3 : v_ad (n_v vs 3) = w_ar ws (n_v vs 0) 160 := congrArg v_ad f3
  have g0 : v_iv (n_v vs 4) = w_fi ws (n_v vs 0) 158 := congrArg v_iv f0
  rw [ad_3] at f2
  have h2 : v_iv (n_v vs 5) = w_ei ws (w_ar ws (n_v vs 0) 160) (v_iv (n_v vs 4)) := f2
  have br_0_160_4_0 : w_ei ws (w_ar ws (n_v vs 0) 160) (v_iv (n_v vs 4)) = w_el ws (w_ar ws (n_v vs 0) 160) (v_iv (n_v vs 4)).toNat := rfl
  have hK_0_160 : ∀ j : Int, 0 ≤ j → j < 2010 → 0 ≤ w_ei ws (w_ar ws (n_v vs 0) 160) j ∧ w_ei ws (w_ar ws (n_v vs 0) 160) j ≤ 4 := fun j h0 h1 => th_el hD hth cr_0_160 (kd := 0) (n := 2010) (m := 2010) (lo := 0) (hi := 4) (rs := []) (L := []) rfl (by decide) (j := j.toNat) (by omega)
  have kz_0_158 : 0 ≤ w_fi ws (n_v vs 0) 158 ∧ w_fi ws (n_v vs 0) 158 ≤ 2009 := tv_rng (th_fd hD hth r0 (g := GG_150) rfl (k := 158) (t := (0, 0, 2009, [])) rfl rfl)
  have nf0 : fc_1 (20, [13, 0], [50, 1, 1, 1158, 1160, 4, 6, 1, 2, 1, 0, 0, 1, 1, 6, 3, 1, 160, 2, 1, 158, 0, 1]) ws (vs) := by
    refine ⟨fun n hn => ?_, ?_⟩
    · have hn : n ∈ [13, 0] := hn
      rw [hl]
      simp only [List.mem_cons, List.not_mem_nil, or_false] at hn
      show n < 15; omega
    · show (v_iv (n_v vs 13) = 1) → (w_ei ws (w_ar ws (n_v vs 0) 160) (w_fi ws (n_v vs 0) 158) = 1)
      first | omega | grind
  have nf1 : fc_1 (24, [0, 0], []) ws (vs) := by
    refine ⟨fun n hn => ?_, ?_⟩
    · have hn : n ∈ [0, 0] := hn
      rw [hl]
      simp only [List.mem_cons, List.not_mem_nil, or_false] at hn
      show n < 15; omega
    · show n_v vs 0 = n_v vs 0
      first | rfl | simp only [true_and]
  refine ⟨(fun _ h => (by cases h)), [], trivial, ?_, (fun _ h => (by cases h))⟩
  rw [List.append_nil]
  exact List.forall_mem_cons.mpr ⟨⟨show (20 : Nat) < 100 from by decide, nf0⟩, List.forall_mem_cons.mpr ⟨⟨show (24 : Nat) < 100 from by decide, nf1⟩, (fun _ h => (by cases h))⟩⟩
def o_Mo_word_at_s5037_3 : or_T := (54, 15, [(0, (2, 0, 0, [150])), (3, (2, 0, 0, [259])), (4, (0, 0, 2009, [])), (5, (0, 1, 1, [])), (6, (0, 1, 1, [])), (13, (0, 1, 1, []))], [(9, [4, 0], [158]), (7, [5, 6], [0]), (10, [5, 3, 4], []), (9, [3, 0], [160])], [], [], [(20, [13, 0], [50, 1, 1, 1158, 1160, 4, 6, 1, 2, 1, 0, 0, 1, 1, 6, 3, 1, 160, 2, 1, 158, 0, 1]), (24, [0, 0], [])], [], [])
theorem oo_Mo_word_at_s5037_3 {kA : Nat → ClassId} : or_ok kA GG o_Mo_word_at_s5037_3 := by
  intro A ta ws vs hD hth hl hk hds hf
  have hl : vs.length = 15 := hl
  have hk : ∀ q ∈ ([(0, (2, 0, 0, [150])), (3, (2, 0, 0, [259])), (4, (0, 0, 2009, [])), (5, (0, 1, 1, [])), (6, (0, 1, 1, [])), (13, (0, 1, 1, []))] : List (Nat × tv_T)), tv_ok ta q.2 (n_v vs q.1) := hk
  obtain ⟨t0, hk⟩ := List.forall_mem_cons.mp hk
  have t0 : tv_ok ta (2, 0, 0, [150]) (n_v vs 0) := t0
  have r0 : ta (v_ad (n_v vs 0)) = some 150 := tv_rg t0
  obtain ⟨t3, hk⟩ := List.forall_mem_cons.mp hk
  have t3 : tv_ok ta (2, 0, 0, [259]) (n_v vs 3) := t3
  have r3 : ta (v_ad (n_v vs 3)) = some 259 := tv_rg t3
  obtain ⟨t4, hk⟩ := List.forall_mem_cons.mp hk
  have t4 : tv_ok ta (0, 0, 2009, []) (n_v vs 4) := t4
  have k4 : 0 ≤ v_iv (n_v vs 4) ∧ v_iv (n_v vs 4) ≤ 2009 := tv_rng t4
  obtain ⟨t5, hk⟩ := List.forall_mem_cons.mp hk
  have t5 : tv_ok ta (0, 1, 1, []) (n_v vs 5) := t5
  have k5 : 1 ≤ v_iv (n_v vs 5) ∧ v_iv (n_v vs 5) ≤ 1 := tv_rng t5
  obtain ⟨t6, hk⟩ := List.forall_mem_cons.mp hk
  have t6 : tv_ok ta (0, 1, 1, []) (n_v vs 6) := t6
  have k6 : 1 ≤ v_iv (n_v vs 6) ∧ v_iv (n_v vs 6) ≤ 1 := tv_rng t6
  obtain ⟨t13, hk⟩ := List.forall_mem_cons.mp hk
  have t13 : tv_ok ta (0, 1, 1, []) (n_v vs 13) := t13
  have k13 : 1 ≤ v_iv (n_v vs 13) ∧ v_iv (n_v vs 13) ≤ 1 := tv_rng t13
  have hf : fc_ok [(9, [4, 0], [158]), (7, [5, 6], [0]), (10, [5, 3, 4], []), (9, [3, 0], [160])] ta ws vs := hf
  obtain ⟨f0, hf⟩ := fc_un (show (9 : Nat) < 100 from by decide) hf
  have f0 : n_v vs 4 = w_fd ws (v_ad (n_v vs 0)) 158 := f0
  obtain ⟨f1, hf⟩ := fc_un (show (7 : Nat) < 100 from by decide) hf
  have f1 : v_iv (n_v vs 5) = v_iv (n_v vs 6) := f1
  obtain ⟨f2, hf⟩ := fc_un (show (10 : Nat) < 100 from by decide) hf
  have f2 : v_iv (n_v vs 5) = w_el ws (v_ad (n_v vs 3)) (v_iv (n_v vs 4)).toNat := f2
  obtain ⟨f3, hf⟩ := fc_un (show (9 : Nat) < 100 from by decide) hf
  have f3 : n_v vs 3 = w_fd ws (v_ad (n_v vs 0)) 160 := f3
  have cr_0_160 : ta (w_ar ws (n_v vs 0) 160) = some 259 := tv_rg (th_fd hD hth r0 (g := GG_150) rfl (k := 160) (t := (2, 0, 0, [259])) rfl rfl)
  have ad_3 : v_ad (n_v vs 3) = w_ar ws (n_v vs 0) 160 := congrArg v_ad f3
  have g0 : v_iv (n_v vs 4) = w_fi ws (n_v vs 0) 158 := congrArg v_iv f0
  rw [ad_3] at f2
  have h2 : v_iv (n_v vs 5) = w_ei ws (w_ar ws (n_v vs 0) 160) (v_iv (n_v vs 4)) := f2
  have br_0_160_4_0 : w_ei ws (w_ar ws (n_v vs 0) 160) (v_iv (n_v vs 4)) = w_el ws (w_ar ws (n_v vs 0) 160) (v_iv (n_v vs 4)).toNat := rfl
  have hK_0_160 : ∀ j : Int, 0 ≤ j → j < 2010 → 0 ≤ w_ei ws (w_ar ws (n_v vs 0) 160) j ∧ w_ei ws (w_ar ws (n_v vs 0) 160) j ≤ 4 := fun j h0 h1 => th_el hD hth cr_0_160 (kd := 0) (n := 2010) (m := 2010) (lo := 0) (hi := 4) (rs := []) (L := []) rfl (by decide) (j := j.toNat) (by omega)
  have kz_0_158 : 0 ≤ w_fi ws (n_v vs 0) 158 ∧ w_fi ws (n_v vs 0) 158 ≤ 2009 := tv_rng (th_fd hD hth r0 (g := GG_150) rfl (k := 158) (t := (0, 0, 2009, [])) rfl rfl)
  have nf0 : fc_1 (20, [13, 0], [50, 1, 1, 1158, 1160, 4, 6, 1, 2, 1, 0, 0, 1, 1, 6, 3, 1, 160, 2, 1, 158, 0, 1]) ws (vs) := by
    refine ⟨fun n hn => ?_, ?_⟩
    · have hn : n ∈ [13, 0] := hn
      rw [hl]
      simp only [List.mem_cons, List.not_mem_nil, or_false] at hn
      show n < 15; omega
    · show (v_iv (n_v vs 13) = 1) → (w_ei ws (w_ar ws (n_v vs 0) 160) (w_fi ws (n_v vs 0) 158) = 1)
      first | omega | grind
  have nf1 : fc_1 (24, [0, 0], []) ws (vs) := by
    refine ⟨fun n hn => ?_, ?_⟩
    · have hn : n ∈ [0, 0] := hn
      rw [hl]
      simp only [List.mem_cons, List.not_mem_nil, or_false] at hn
      show n < 15; omega
    · show n_v vs 0 = n_v vs 0
      first | rfl | simp only [true_and]
  refine ⟨(fun _ h => (by cases h)), [], trivial, ?_, (fun _ h => (by cases h))⟩
  rw [List.append_nil]
  exact List.forall_mem_cons.mpr ⟨⟨show (20 : Nat) < 100 from by decide, nf0⟩, List.forall_mem_cons.mpr ⟨⟨show (24 : Nat) < 100 from by decide, nf1⟩, (fun _ h => (by cases h))⟩⟩
def o_Mo_word_at_s5037_4 : or_T := (102, 7, [(0, (2, 0, 0, [150])), (2, (2, 0, 0, [150])), (4, (0, 0, 1, []))], [(20, [4, 2], [50, 1, 1, 1158, 1160, 4, 6, 1, 2, 1, 0, 0, 1, 1, 6, 3, 1, 160, 2, 1, 158, 0, 1]), (24, [0, 2], [])], [], [], [(20, [4, 0], [50, 1, 1, 1158, 1160, 4, 6, 1, 2, 1, 0, 0, 1, 1, 6, 3, 1, 160, 2, 1, 158, 0, 1])], [], [])
theorem oo_Mo_word_at_s5037_4 {kA : Nat → ClassId} : or_ok kA GG o_Mo_word_at_s5037_4 := by
  intro A ta ws vs hD hth hl hk hds hf
  have hl : vs.length = 7 := hl
  have hk : ∀ q ∈ ([(0, (2, 0, 0, [150])), (2, (2, 0, 0, [150])), (4, (0, 0, 1, []))] : List (Nat × tv_T)), tv_ok ta q.2 (n_v vs q.1) := hk
  obtain ⟨t0, hk⟩ := List.forall_mem_cons.mp hk
  have t0 : tv_ok ta (2, 0, 0, [150]) (n_v vs 0) := t0
  have r0 : ta (v_ad (n_v vs 0)) = some 150 := tv_rg t0
  obtain ⟨t2, hk⟩ := List.forall_mem_cons.mp hk
  have t2 : tv_ok ta (2, 0, 0, [150]) (n_v vs 2) := t2
  have r2 : ta (v_ad (n_v vs 2)) = some 150 := tv_rg t2
  obtain ⟨t4, hk⟩ := List.forall_mem_cons.mp hk
  have t4 : tv_ok ta (0, 0, 1, []) (n_v vs 4) := t4
  have k4 : 0 ≤ v_iv (n_v vs 4) ∧ v_iv (n_v vs 4) ≤ 1 := tv_rng t4
  have hf : fc_ok [(20, [4, 2], [50, 1, 1, 1158, 1160, 4, 6, 1, 2, 1, 0, 0, 1, 1, 6, 3, 1, 160, 2, 1, 158, 0, 1]), (24, [0, 2], [])] ta ws vs := hf
  obtain ⟨f0, hf⟩ := fc_un (show (20 : Nat) < 100 from by decide) hf
  have f0 : (v_iv (n_v vs 4) = 1) → (w_ei ws (w_ar ws (n_v vs 2) 160) (w_fi ws (n_v vs 2) 158) = 1) := f0
  obtain ⟨f1, hf⟩ := fc_un (show (24 : Nat) < 100 from by decide) hf
  have f1 : n_v vs 0 = n_v vs 2 := f1
  have q2 : n_v vs 2 = n_v vs 0 := f1.symm
  rw [q2] at f0
  have cr_0_160 : ta (w_ar ws (n_v vs 0) 160) = some 259 := tv_rg (th_fd hD hth r0 (g := GG_150) rfl (k := 160) (t := (2, 0, 0, [259])) rfl rfl)
  have hK_0_160 : ∀ j : Int, 0 ≤ j → j < 2010 → 0 ≤ w_ei ws (w_ar ws (n_v vs 0) 160) j ∧ w_ei ws (w_ar ws (n_v vs 0) 160) j ≤ 4 := fun j h0 h1 => th_el hD hth cr_0_160 (kd := 0) (n := 2010) (m := 2010) (lo := 0) (hi := 4) (rs := []) (L := []) rfl (by decide) (j := j.toNat) (by omega)
  have kz_0_158 : 0 ≤ w_fi ws (n_v vs 0) 158 ∧ w_fi ws (n_v vs 0) 158 ≤ 2009 := tv_rng (th_fd hD hth r0 (g := GG_150) rfl (k := 158) (t := (0, 0, 2009, [])) rfl rfl)
  have nf0 : fc_1 (20, [4, 0], [50, 1, 1, 1158, 1160, 4, 6, 1, 2, 1, 0, 0, 1, 1, 6, 3, 1, 160, 2, 1, 158, 0, 1]) ws (vs) := by
    refine ⟨fun n hn => ?_, ?_⟩
    · have hn : n ∈ [4, 0] := hn
      rw [hl]
      simp only [List.mem_cons, List.not_mem_nil, or_false] at hn
      show n < 7; omega
    · show (v_iv (n_v vs 4) = 1) → (w_ei ws (w_ar ws (n_v vs 0) 160) (w_fi ws (n_v vs 0) 158) = 1)
      first | omega | grind
  refine ⟨(fun _ h => (by cases h)), [], trivial, ?_, (fun _ h => (by cases h))⟩
  rw [List.append_nil]
  exact List.forall_mem_cons.mpr ⟨⟨show (20 : Nat) < 100 from by decide, nf0⟩, (fun _ h => (by cases h))⟩
def o_Mo_word_at_s5037_5 : or_T := (102, 7, [(0, (2, 0, 0, [150])), (2, (2, 0, 0, [150])), (4, (0, 0, 0, []))], [(8, [4], [0]), (20, [4, 2], [50, 1, 1, 1158, 1160, 4, 6, 1, 2, 1, 0, 0, 1, 1, 6, 3, 1, 160, 2, 1, 158, 0, 1]), (24, [0, 2], [])], [], [], [(20, [4, 0], [50, 1, 1, 1158, 1160, 4, 6, 1, 2, 1, 0, 0, 1, 1, 6, 3, 1, 160, 2, 1, 158, 0, 1])], [], [])
theorem oo_Mo_word_at_s5037_5 {kA : Nat → ClassId} : or_ok kA GG o_Mo_word_at_s5037_5 := by
  intro A ta ws vs hD hth hl hk hds hf
  have hl : vs.length = 7 := hl
  have hk : ∀ q ∈ ([(0, (2, 0, 0, [150])), (2, (2, 0, 0, [150])), (4, (0, 0, 0, []))] : List (Nat × tv_T)), tv_ok ta q.2 (n_v vs q.1) := hk
  obtain ⟨t0, hk⟩ := List.forall_mem_cons.mp hk
  have t0 : tv_ok ta (2, 0, 0, [150]) (n_v vs 0) := t0
  have r0 : ta (v_ad (n_v vs 0)) = some 150 := tv_rg t0
  obtain ⟨t2, hk⟩ := List.forall_mem_cons.mp hk
  have t2 : tv_ok ta (2, 0, 0, [150]) (n_v vs 2) := t2
  have r2 : ta (v_ad (n_v vs 2)) = some 150 := tv_rg t2
  obtain ⟨t4, hk⟩ := List.forall_mem_cons.mp hk
  have t4 : tv_ok ta (0, 0, 0, []) (n_v vs 4) := t4
  have k4 : 0 ≤ v_iv (n_v vs 4) ∧ v_iv (n_v vs 4) ≤ 0 := tv_rng t4
  have hf : fc_ok [(8, [4], [0]), (20, [4, 2], [50, 1, 1, 1158, 1160, 4, 6, 1, 2, 1, 0, 0, 1, 1, 6, 3, 1, 160, 2, 1, 158, 0, 1]), (24, [0, 2], [])] ta ws vs := hf
  obtain ⟨f0, hf⟩ := fc_un (show (8 : Nat) < 100 from by decide) hf
  have f0 : v_iv (n_v vs 4) = 0 := f0
  obtain ⟨f1, hf⟩ := fc_un (show (20 : Nat) < 100 from by decide) hf
  have f1 : (v_iv (n_v vs 4) = 1) → (w_ei ws (w_ar ws (n_v vs 2) 160) (w_fi ws (n_v vs 2) 158) = 1) := f1
  obtain ⟨f2, hf⟩ := fc_un (show (24 : Nat) < 100 from by decide) hf
  have f2 : n_v vs 0 = n_v vs 2 := f2
  have q2 : n_v vs 2 = n_v vs 0 := f2.symm
  rw [q2] at f1
  have cr_0_160 : ta (w_ar ws (n_v vs 0) 160) = some 259 := tv_rg (th_fd hD hth r0 (g := GG_150) rfl (k := 160) (t := (2, 0, 0, [259])) rfl rfl)
  have hK_0_160 : ∀ j : Int, 0 ≤ j → j < 2010 → 0 ≤ w_ei ws (w_ar ws (n_v vs 0) 160) j ∧ w_ei ws (w_ar ws (n_v vs 0) 160) j ≤ 4 := fun j h0 h1 => th_el hD hth cr_0_160 (kd := 0) (n := 2010) (m := 2010) (lo := 0) (hi := 4) (rs := []) (L := []) rfl (by decide) (j := j.toNat) (by omega)
  have kz_0_158 : 0 ≤ w_fi ws (n_v vs 0) 158 ∧ w_fi ws (n_v vs 0) 158 ≤ 2009 := tv_rng (th_fd hD hth r0 (g := GG_150) rfl (k := 158) (t := (0, 0, 2009, [])) rfl rfl)
  have nf0 : fc_1 (20, [4, 0], [50, 1, 1, 1158, 1160, 4, 6, 1, 2, 1, 0, 0, 1, 1, 6, 3, 1, 160, 2, 1, 158, 0, 1]) ws (vs) := by
    refine ⟨fun n hn => ?_, ?_⟩
    · have hn : n ∈ [4, 0] := hn
      rw [hl]
      simp only [List.mem_cons, List.not_mem_nil, or_false] at hn
      show n < 7; omega
    · show (v_iv (n_v vs 4) = 1) → (w_ei ws (w_ar ws (n_v vs 0) 160) (w_fi ws (n_v vs 0) 158) = 1)
      first | omega | grind
  refine ⟨(fun _ h => (by cases h)), [], trivial, ?_, (fun _ h => (by cases h))⟩
  rw [List.append_nil]
  exact List.forall_mem_cons.mpr ⟨⟨show (20 : Nat) < 100 from by decide, nf0⟩, (fun _ h => (by cases h))⟩
def o_Mo_word_at_s5037_6 : or_T := (54, 15, [(0, (2, 0, 0, [150])), (2, (2, 0, 0, [150])), (4, (0, 1, 1, [])), (5, (0, 0, 4, [])), (6, (0, 5, 5, [])), (7, (2, 0, 0, [261])), (8, (0, 0, 2009, [])), (9, (0, 0, 2000, [])), (10, (0, 0, 2004, [])), (11, (0, -1, -1, [])), (12, (0, 0, 65535, [])), (13, (0, 0, 0, [])), (14, (0, 1, 5, []))], [(6, [14, 5], [1]), (7, [11, 12], [1]), (20, [10, 2, 11], [50, 1, 1, 1010, 1001, 4, 11, 0, 6, 4, 2, 1, 0, 0, 1, 2, 1, 10, 1, 2, 1, 2, 9, 5, 3, 1, 1, 1, 0, 0, 256]), (20, [2, 10, 11], [50, 1, 0, 10, 4, 7, 0, 3, 2, 0, 10, 1, 1, 1, 2, 1, 2, 0, -1]), (1, [10, 9, 5], []), (10, [9, 7, 8], []), (9, [8, 2], [158]), (9, [7, 2], [162]), (8, [4], [1]), (7, [5, 6], [2]), (20, [4, 2], [50, 1, 1, 1158, 1160, 4, 6, 1, 2, 1, 0, 0, 1, 1, 6, 3, 1, 160, 2, 1, 158, 0, 1]), (24, [0, 2], [])], [], [], [(20, [13, 2], [50, 1, 1, 1158, 1160, 4, 6, 1, 2, 1, 0, 0, 1, 1, 6, 3, 1, 160, 2, 1, 158, 0, 1])], [], [(14, 5, 1, 1), (10, 5, 0, 2000), (10, 9, 0, 4), (4, 5, -4294967296, 1)])
theorem oo_Mo_word_at_s5037_6 {kA : Nat → ClassId} : or_ok kA GG o_Mo_word_at_s5037_6 := by
  intro A ta ws vs hD hth hl hk hds hf
  have hl : vs.length = 15 := hl
  have hk : ∀ q ∈ ([(0, (2, 0, 0, [150])), (2, (2, 0, 0, [150])), (4, (0, 1, 1, [])), (5, (0, 0, 4, [])), (6, (0, 5, 5, [])), (7, (2, 0, 0, [261])), (8, (0, 0, 2009, [])), (9, (0, 0, 2000, [])), (10, (0, 0, 2004, [])), (11, (0, -1, -1, [])), (12, (0, 0, 65535, [])), (13, (0, 0, 0, [])), (14, (0, 1, 5, []))] : List (Nat × tv_T)), tv_ok ta q.2 (n_v vs q.1) := hk
  obtain ⟨t0, hk⟩ := List.forall_mem_cons.mp hk
  have t0 : tv_ok ta (2, 0, 0, [150]) (n_v vs 0) := t0
  have r0 : ta (v_ad (n_v vs 0)) = some 150 := tv_rg t0
  obtain ⟨t2, hk⟩ := List.forall_mem_cons.mp hk
  have t2 : tv_ok ta (2, 0, 0, [150]) (n_v vs 2) := t2
  have r2 : ta (v_ad (n_v vs 2)) = some 150 := tv_rg t2
  obtain ⟨t4, hk⟩ := List.forall_mem_cons.mp hk
  have t4 : tv_ok ta (0, 1, 1, []) (n_v vs 4) := t4
  have k4 : 1 ≤ v_iv (n_v vs 4) ∧ v_iv (n_v vs 4) ≤ 1 := tv_rng t4
  obtain ⟨t5, hk⟩ := List.forall_mem_cons.mp hk
  have t5 : tv_ok ta (0, 0, 4, []) (n_v vs 5) := t5
  have k5 : 0 ≤ v_iv (n_v vs 5) ∧ v_iv (n_v vs 5) ≤ 4 := tv_rng t5
  obtain ⟨t6, hk⟩ := List.forall_mem_cons.mp hk
  have t6 : tv_ok ta (0, 5, 5, []) (n_v vs 6) := t6
  have k6 : 5 ≤ v_iv (n_v vs 6) ∧ v_iv (n_v vs 6) ≤ 5 := tv_rng t6
  obtain ⟨t7, hk⟩ := List.forall_mem_cons.mp hk
  have t7 : tv_ok ta (2, 0, 0, [261]) (n_v vs 7) := t7
  have r7 : ta (v_ad (n_v vs 7)) = some 261 := tv_rg t7
  obtain ⟨t8, hk⟩ := List.forall_mem_cons.mp hk
  have t8 : tv_ok ta (0, 0, 2009, []) (n_v vs 8) := t8
  have k8 : 0 ≤ v_iv (n_v vs 8) ∧ v_iv (n_v vs 8) ≤ 2009 := tv_rng t8
  obtain ⟨t9, hk⟩ := List.forall_mem_cons.mp hk
  have t9 : tv_ok ta (0, 0, 2000, []) (n_v vs 9) := t9
  have k9 : 0 ≤ v_iv (n_v vs 9) ∧ v_iv (n_v vs 9) ≤ 2000 := tv_rng t9
  obtain ⟨t10, hk⟩ := List.forall_mem_cons.mp hk
  have t10 : tv_ok ta (0, 0, 2004, []) (n_v vs 10) := t10
  have k10 : 0 ≤ v_iv (n_v vs 10) ∧ v_iv (n_v vs 10) ≤ 2004 := tv_rng t10
  obtain ⟨t11, hk⟩ := List.forall_mem_cons.mp hk
  have t11 : tv_ok ta (0, -1, -1, []) (n_v vs 11) := t11
  have k11 : (-1) ≤ v_iv (n_v vs 11) ∧ v_iv (n_v vs 11) ≤ (-1) := tv_rng t11
  obtain ⟨t12, hk⟩ := List.forall_mem_cons.mp hk
  have t12 : tv_ok ta (0, 0, 65535, []) (n_v vs 12) := t12
  have k12 : 0 ≤ v_iv (n_v vs 12) ∧ v_iv (n_v vs 12) ≤ 65535 := tv_rng t12
  obtain ⟨t13, hk⟩ := List.forall_mem_cons.mp hk
  have t13 : tv_ok ta (0, 0, 0, []) (n_v vs 13) := t13
  have k13 : 0 ≤ v_iv (n_v vs 13) ∧ v_iv (n_v vs 13) ≤ 0 := tv_rng t13
  obtain ⟨t14, hk⟩ := List.forall_mem_cons.mp hk
  have t14 : tv_ok ta (0, 1, 5, []) (n_v vs 14) := t14
  have k14 : 1 ≤ v_iv (n_v vs 14) ∧ v_iv (n_v vs 14) ≤ 5 := tv_rng t14
  have hds : ∀ q ∈ ([(14, 5, 1, 1), (10, 5, 0, 2000), (10, 9, 0, 4), (4, 5, -4294967296, 1)] : List of_T), n_iv vs q.2.1 + q.2.2.1 ≤ n_iv vs q.1 ∧ n_iv vs q.1 ≤ n_iv vs q.2.1 + q.2.2.2 := hds
  obtain ⟨d0, hds⟩ := List.forall_mem_cons.mp hds
  have d0 : v_iv (n_v vs 5) + 1 ≤ v_iv (n_v vs 14) ∧ v_iv (n_v vs 14) ≤ v_iv (n_v vs 5) + 1 := d0
  obtain ⟨d1, hds⟩ := List.forall_mem_cons.mp hds
  have d1 : v_iv (n_v vs 5) + 0 ≤ v_iv (n_v vs 10) ∧ v_iv (n_v vs 10) ≤ v_iv (n_v vs 5) + 2000 := d1
  obtain ⟨d2, hds⟩ := List.forall_mem_cons.mp hds
  have d2 : v_iv (n_v vs 9) + 0 ≤ v_iv (n_v vs 10) ∧ v_iv (n_v vs 10) ≤ v_iv (n_v vs 9) + 4 := d2
  obtain ⟨d3, hds⟩ := List.forall_mem_cons.mp hds
  have d3 : v_iv (n_v vs 5) + (-4294967296) ≤ v_iv (n_v vs 4) ∧ v_iv (n_v vs 4) ≤ v_iv (n_v vs 5) + 1 := d3
  have hf : fc_ok [(6, [14, 5], [1]), (7, [11, 12], [1]), (20, [10, 2, 11], [50, 1, 1, 1010, 1001, 4, 11, 0, 6, 4, 2, 1, 0, 0, 1, 2, 1, 10, 1, 2, 1, 2, 9, 5, 3, 1, 1, 1, 0, 0, 256]), (20, [2, 10, 11], [50, 1, 0, 10, 4, 7, 0, 3, 2, 0, 10, 1, 1, 1, 2, 1, 2, 0, -1]), (1, [10, 9, 5], []), (10, [9, 7, 8], []), (9, [8, 2], [158]), (9, [7, 2], [162]), (8, [4], [1]), (7, [5, 6], [2]), (20, [4, 2], [50, 1, 1, 1158, 1160, 4, 6, 1, 2, 1, 0, 0, 1, 1, 6, 3, 1, 160, 2, 1, 158, 0, 1]), (24, [0, 2], [])] ta ws vs := hf
  obtain ⟨f0, hf⟩ := fc_un (show (6 : Nat) < 100 from by decide) hf
  have f0 : v_iv (n_v vs 14) = v_iv (n_v vs 5) + 1 := f0
  obtain ⟨f1, hf⟩ := fc_un (show (7 : Nat) < 100 from by decide) hf
  have f1 : v_iv (n_v vs 11) ≠ v_iv (n_v vs 12) := f1
  obtain ⟨f2, hf⟩ := fc_un (show (20 : Nat) < 100 from by decide) hf
  have f2 : ((v_iv (n_v vs 10) + 1) ≤ w_fi ws (n_v vs 2) 10) → (v_iv (n_v vs 11) = (w_ei ws (w_ar ws (n_v vs 2) 1) (v_iv (n_v vs 10)) % 256)) := f2
  obtain ⟨f3, hf⟩ := fc_un (show (20 : Nat) < 100 from by decide) hf
  have f3 : (w_fi ws (n_v vs 2) 10 ≤ v_iv (n_v vs 10)) → (v_iv (n_v vs 11) = (-1)) := f3
  obtain ⟨f4, hf⟩ := fc_un (show (1 : Nat) < 100 from by decide) hf
  have f4 : v_iv (n_v vs 10) = v_iv (n_v vs 9) + v_iv (n_v vs 5) := f4
  obtain ⟨f5, hf⟩ := fc_un (show (10 : Nat) < 100 from by decide) hf
  have f5 : v_iv (n_v vs 9) = w_el ws (v_ad (n_v vs 7)) (v_iv (n_v vs 8)).toNat := f5
  obtain ⟨f6, hf⟩ := fc_un (show (9 : Nat) < 100 from by decide) hf
  have f6 : n_v vs 8 = w_fd ws (v_ad (n_v vs 2)) 158 := f6
  obtain ⟨f7, hf⟩ := fc_un (show (9 : Nat) < 100 from by decide) hf
  have f7 : n_v vs 7 = w_fd ws (v_ad (n_v vs 2)) 162 := f7
  obtain ⟨f8, hf⟩ := fc_un (show (8 : Nat) < 100 from by decide) hf
  have f8 : v_iv (n_v vs 4) ≠ 0 := f8
  obtain ⟨f9, hf⟩ := fc_un (show (7 : Nat) < 100 from by decide) hf
  have f9 : v_iv (n_v vs 5) < v_iv (n_v vs 6) := f9
  obtain ⟨f10, hf⟩ := fc_un (show (20 : Nat) < 100 from by decide) hf
  have f10 : (v_iv (n_v vs 4) = 1) → (w_ei ws (w_ar ws (n_v vs 2) 160) (w_fi ws (n_v vs 2) 158) = 1) := f10
  obtain ⟨f11, hf⟩ := fc_un (show (24 : Nat) < 100 from by decide) hf
  have f11 : n_v vs 0 = n_v vs 2 := f11
  have q2 : n_v vs 2 = n_v vs 0 := f11.symm
  rw [q2] at f2
  rw [q2] at f3
  rw [q2] at f6
  rw [q2] at f7
  rw [q2] at f10
  have cr_0_1 : ta (w_ar ws (n_v vs 0) 1) = some 151 := tv_rg (th_fd hD hth r0 (g := GG_150) rfl (k := 1) (t := (2, 0, 0, [151])) rfl rfl)
  have cr_0_160 : ta (w_ar ws (n_v vs 0) 160) = some 259 := tv_rg (th_fd hD hth r0 (g := GG_150) rfl (k := 160) (t := (2, 0, 0, [259])) rfl rfl)
  have cr_0_162 : ta (w_ar ws (n_v vs 0) 162) = some 261 := tv_rg (th_fd hD hth r0 (g := GG_150) rfl (k := 162) (t := (2, 0, 0, [261])) rfl rfl)
  have ad_7 : v_ad (n_v vs 7) = w_ar ws (n_v vs 0) 162 := congrArg v_ad f7
  rw [ad_7] at f5
  have g6 : v_iv (n_v vs 8) = w_fi ws (n_v vs 0) 158 := congrArg v_iv f6
  have hK_0_1 : ∀ j : Int, 0 ≤ j → j < 2000 → (-128) ≤ w_ei ws (w_ar ws (n_v vs 0) 1) j ∧ w_ei ws (w_ar ws (n_v vs 0) 1) j ≤ 127 := fun j h0 h1 => th_el hD hth cr_0_1 (kd := 1) (n := 2000) (m := 2000) (lo := (-128)) (hi := 127) (rs := []) (L := []) rfl (by decide) (j := j.toNat) (by omega)
  have hK_0_160 : ∀ j : Int, 0 ≤ j → j < 2010 → 0 ≤ w_ei ws (w_ar ws (n_v vs 0) 160) j ∧ w_ei ws (w_ar ws (n_v vs 0) 160) j ≤ 4 := fun j h0 h1 => th_el hD hth cr_0_160 (kd := 0) (n := 2010) (m := 2010) (lo := 0) (hi := 4) (rs := []) (L := []) rfl (by decide) (j := j.toNat) (by omega)
  have kz_0_10 : 0 ≤ w_fi ws (n_v vs 0) 10 ∧ w_fi ws (n_v vs 0) 10 ≤ 2000 := tv_rng (th_fd hD hth r0 (g := GG_150) rfl (k := 10) (t := (0, 0, 2000, [])) rfl rfl)
  have kz_0_158 : 0 ≤ w_fi ws (n_v vs 0) 158 ∧ w_fi ws (n_v vs 0) 158 ≤ 2009 := tv_rng (th_fd hD hth r0 (g := GG_150) rfl (k := 158) (t := (0, 0, 2009, [])) rfl rfl)
  have nf0 : fc_1 (20, [13, 2], [50, 1, 1, 1158, 1160, 4, 6, 1, 2, 1, 0, 0, 1, 1, 6, 3, 1, 160, 2, 1, 158, 0, 1]) ws (vs) := by
    refine ⟨fun n hn => ?_, ?_⟩
    · have hn : n ∈ [13, 2] := hn
      rw [hl]
      simp only [List.mem_cons, List.not_mem_nil, or_false] at hn
      show n < 15; omega
    · show (v_iv (n_v vs 13) = 1) → (w_ei ws (w_ar ws (n_v vs 2) 160) (w_fi ws (n_v vs 2) 158) = 1)
      rw [q2]
      first | omega | grind
  refine ⟨(fun _ h => (by cases h)), [], trivial, ?_, (fun _ h => (by cases h))⟩
  rw [List.append_nil]
  exact List.forall_mem_cons.mpr ⟨⟨show (20 : Nat) < 100 from by decide, nf0⟩, (fun _ h => (by cases h))⟩
def o_Mo_word_at_s5037_7 : or_T := (54, 15, [(0, (2, 0, 0, [150])), (2, (2, 0, 0, [150])), (4, (0, 1, 1, [])), (5, (0, 0, 4, [])), (6, (0, 5, 5, [])), (7, (2, 0, 0, [261])), (8, (0, 0, 2009, [])), (9, (0, 0, 1999, [])), (10, (0, 0, 1999, [])), (11, (0, 0, 255, [])), (12, (0, 0, 65535, [])), (13, (0, 0, 0, [])), (14, (0, 1, 5, []))], [(6, [14, 5], [1]), (7, [11, 12], [1]), (20, [10, 2, 11], [50, 1, 1, 1010, 1001, 4, 11, 0, 6, 4, 2, 1, 0, 0, 1, 2, 1, 10, 1, 2, 1, 2, 9, 5, 3, 1, 1, 1, 0, 0, 256]), (20, [2, 10, 11], [50, 1, 0, 10, 4, 7, 0, 3, 2, 0, 10, 1, 1, 1, 2, 1, 2, 0, -1]), (1, [10, 9, 5], []), (10, [9, 7, 8], []), (9, [8, 2], [158]), (9, [7, 2], [162]), (8, [4], [1]), (7, [5, 6], [2]), (20, [4, 2], [50, 1, 1, 1158, 1160, 4, 6, 1, 2, 1, 0, 0, 1, 1, 6, 3, 1, 160, 2, 1, 158, 0, 1]), (24, [0, 2], [])], [], [], [(20, [13, 2], [50, 1, 1, 1158, 1160, 4, 6, 1, 2, 1, 0, 0, 1, 1, 6, 3, 1, 160, 2, 1, 158, 0, 1])], [], [(14, 5, 1, 1), (10, 5, 0, 2000), (10, 9, 0, 4), (4, 5, -4294967296, 1)])
theorem oo_Mo_word_at_s5037_7 {kA : Nat → ClassId} : or_ok kA GG o_Mo_word_at_s5037_7 := by
  intro A ta ws vs hD hth hl hk hds hf
  have hl : vs.length = 15 := hl
  have hk : ∀ q ∈ ([(0, (2, 0, 0, [150])), (2, (2, 0, 0, [150])), (4, (0, 1, 1, [])), (5, (0, 0, 4, [])), (6, (0, 5, 5, [])), (7, (2, 0, 0, [261])), (8, (0, 0, 2009, [])), (9, (0, 0, 1999, [])), (10, (0, 0, 1999, [])), (11, (0, 0, 255, [])), (12, (0, 0, 65535, [])), (13, (0, 0, 0, [])), (14, (0, 1, 5, []))] : List (Nat × tv_T)), tv_ok ta q.2 (n_v vs q.1) := hk
  obtain ⟨t0, hk⟩ := List.forall_mem_cons.mp hk
  have t0 : tv_ok ta (2, 0, 0, [150]) (n_v vs 0) := t0
  have r0 : ta (v_ad (n_v vs 0)) = some 150 := tv_rg t0
  obtain ⟨t2, hk⟩ := List.forall_mem_cons.mp hk
  have t2 : tv_ok ta (2, 0, 0, [150]) (n_v vs 2) := t2
  have r2 : ta (v_ad (n_v vs 2)) = some 150 := tv_rg t2
  obtain ⟨t4, hk⟩ := List.forall_mem_cons.mp hk
  have t4 : tv_ok ta (0, 1, 1, []) (n_v vs 4) := t4
  have k4 : 1 ≤ v_iv (n_v vs 4) ∧ v_iv (n_v vs 4) ≤ 1 := tv_rng t4
  obtain ⟨t5, hk⟩ := List.forall_mem_cons.mp hk
  have t5 : tv_ok ta (0, 0, 4, []) (n_v vs 5) := t5
  have k5 : 0 ≤ v_iv (n_v vs 5) ∧ v_iv (n_v vs 5) ≤ 4 := tv_rng t5
  obtain ⟨t6, hk⟩ := List.forall_mem_cons.mp hk
  have t6 : tv_ok ta (0, 5, 5, []) (n_v vs 6) := t6
  have k6 : 5 ≤ v_iv (n_v vs 6) ∧ v_iv (n_v vs 6) ≤ 5 := tv_rng t6
  obtain ⟨t7, hk⟩ := List.forall_mem_cons.mp hk
  have t7 : tv_ok ta (2, 0, 0, [261]) (n_v vs 7) := t7
  have r7 : ta (v_ad (n_v vs 7)) = some 261 := tv_rg t7
  obtain ⟨t8, hk⟩ := List.forall_mem_cons.mp hk
  have t8 : tv_ok ta (0, 0, 2009, []) (n_v vs 8) := t8
  have k8 : 0 ≤ v_iv (n_v vs 8) ∧ v_iv (n_v vs 8) ≤ 2009 := tv_rng t8
  obtain ⟨t9, hk⟩ := List.forall_mem_cons.mp hk
  have t9 : tv_ok ta (0, 0, 1999, []) (n_v vs 9) := t9
  have k9 : 0 ≤ v_iv (n_v vs 9) ∧ v_iv (n_v vs 9) ≤ 1999 := tv_rng t9
  obtain ⟨t10, hk⟩ := List.forall_mem_cons.mp hk
  have t10 : tv_ok ta (0, 0, 1999, []) (n_v vs 10) := t10
  have k10 : 0 ≤ v_iv (n_v vs 10) ∧ v_iv (n_v vs 10) ≤ 1999 := tv_rng t10
  obtain ⟨t11, hk⟩ := List.forall_mem_cons.mp hk
  have t11 : tv_ok ta (0, 0, 255, []) (n_v vs 11) := t11
  have k11 : 0 ≤ v_iv (n_v vs 11) ∧ v_iv (n_v vs 11) ≤ 255 := tv_rng t11
  obtain ⟨t12, hk⟩ := List.forall_mem_cons.mp hk
  have t12 : tv_ok ta (0, 0, 65535, []) (n_v vs 12) := t12
  have k12 : 0 ≤ v_iv (n_v vs 12) ∧ v_iv (n_v vs 12) ≤ 65535 := tv_rng t12
  obtain ⟨t13, hk⟩ := List.forall_mem_cons.mp hk
  have t13 : tv_ok ta (0, 0, 0, []) (n_v vs 13) := t13
  have k13 : 0 ≤ v_iv (n_v vs 13) ∧ v_iv (n_v vs 13) ≤ 0 := tv_rng t13
  obtain ⟨t14, hk⟩ := List.forall_mem_cons.mp hk
  have t14 : tv_ok ta (0, 1, 5, []) (n_v vs 14) := t14
  have k14 : 1 ≤ v_iv (n_v vs 14) ∧ v_iv (n_v vs 14) ≤ 5 := tv_rng t14
  have hds : ∀ q ∈ ([(14, 5, 1, 1), (10, 5, 0, 2000), (10, 9, 0, 4), (4, 5, -4294967296, 1)] : List of_T), n_iv vs q.2.1 + q.2.2.1 ≤ n_iv vs q.1 ∧ n_iv vs q.1 ≤ n_iv vs q.2.1 + q.2.2.2 := hds
  obtain ⟨d0, hds⟩ := List.forall_mem_cons.mp hds
  have d0 : v_iv (n_v vs 5) + 1 ≤ v_iv (n_v vs 14) ∧ v_iv (n_v vs 14) ≤ v_iv (n_v vs 5) + 1 := d0
  obtain ⟨d1, hds⟩ := List.forall_mem_cons.mp hds
  have d1 : v_iv (n_v vs 5) + 0 ≤ v_iv (n_v vs 10) ∧ v_iv (n_v vs 10) ≤ v_iv (n_v vs 5) + 2000 := d1
  obtain ⟨d2, hds⟩ := List.forall_mem_cons.mp hds
  have d2 : v_iv (n_v vs 9) + 0 ≤ v_iv (n_v vs 10) ∧ v_iv (n_v vs 10) ≤ v_iv (n_v vs 9) + 4 := d2
  obtain ⟨d3, hds⟩ := List.forall_mem_cons.mp hds
  have d3 : v_iv (n_v vs 5) + (-4294967296) ≤ v_iv (n_v vs 4) ∧ v_iv (n_v vs 4) ≤ v_iv (n_v vs 5) + 1 := d3
  have hf : fc_ok [(6, [14, 5], [1]), (7, [11, 12], [1]), (20, [10, 2, 11], [50, 1, 1, 1010, 1001, 4, 11, 0, 6, 4, 2, 1, 0, 0, 1, 2, 1, 10, 1, 2, 1, 2, 9, 5, 3, 1, 1, 1, 0, 0, 256]), (20, [2, 10, 11], [50, 1, 0, 10, 4, 7, 0, 3, 2, 0, 10, 1, 1, 1, 2, 1, 2, 0, -1]), (1, [10, 9, 5], []), (10, [9, 7, 8], []), (9, [8, 2], [158]), (9, [7, 2], [162]), (8, [4], [1]), (7, [5, 6], [2]), (20, [4, 2], [50, 1, 1, 1158, 1160, 4, 6, 1, 2, 1, 0, 0, 1, 1, 6, 3, 1, 160, 2, 1, 158, 0, 1]), (24, [0, 2], [])] ta ws vs := hf
  obtain ⟨f0, hf⟩ := fc_un (show (6 : Nat) < 100 from by decide) hf
  have f0 : v_iv (n_v vs 14) = v_iv (n_v vs 5) + 1 := f0
  obtain ⟨f1, hf⟩ := fc_un (show (7 : Nat) < 100 from by decide) hf
  have f1 : v_iv (n_v vs 11) ≠ v_iv (n_v vs 12) := f1
  obtain ⟨f2, hf⟩ := fc_un (show (20 : Nat) < 100 from by decide) hf
  have f2 : ((v_iv (n_v vs 10) + 1) ≤ w_fi ws (n_v vs 2) 10) → (v_iv (n_v vs 11) = (w_ei ws (w_ar ws (n_v vs 2) 1) (v_iv (n_v vs 10)) % 256)) := f2
  obtain ⟨f3, hf⟩ := fc_un (show (20 : Nat) < 100 from by decide) hf
  have f3 : (w_fi ws (n_v vs 2) 10 ≤ v_iv (n_v vs 10)) → (v_iv (n_v vs 11) = (-1)) := f3
  obtain ⟨f4, hf⟩ := fc_un (show (1 : Nat) < 100 from by decide) hf
  have f4 : v_iv (n_v vs 10) = v_iv (n_v vs 9) + v_iv (n_v vs 5) := f4
  obtain ⟨f5, hf⟩ := fc_un (show (10 : Nat) < 100 from by decide) hf
  have f5 : v_iv (n_v vs 9) = w_el ws (v_ad (n_v vs 7)) (v_iv (n_v vs 8)).toNat := f5
  obtain ⟨f6, hf⟩ := fc_un (show (9 : Nat) < 100 from by decide) hf
  have f6 : n_v vs 8 = w_fd ws (v_ad (n_v vs 2)) 158 := f6
  obtain ⟨f7, hf⟩ := fc_un (show (9 : Nat) < 100 from by decide) hf
  have f7 : n_v vs 7 = w_fd ws (v_ad (n_v vs 2)) 162 := f7
  obtain ⟨f8, hf⟩ := fc_un (show (8 : Nat) < 100 from by decide) hf
  have f8 : v_iv (n_v vs 4) ≠ 0 := f8
  obtain ⟨f9, hf⟩ := fc_un (show (7 : Nat) < 100 from by decide) hf
  have f9 : v_iv (n_v vs 5) < v_iv (n_v vs 6) := f9
  obtain ⟨f10, hf⟩ := fc_un (show (20 : Nat) < 100 from by decide) hf
  have f10 : (v_iv (n_v vs 4) = 1) → (w_ei ws (w_ar ws (n_v vs 2) 160) (w_fi ws (n_v vs 2) 158) = 1) := f10
  obtain ⟨f11, hf⟩ := fc_un (show (24 : Nat) < 100 from by decide) hf
  have f11 : n_v vs 0 = n_v vs 2 := f11
  have q2 : n_v vs 2 = n_v vs 0 := f11.symm
  rw [q2] at f2
  rw [q2] at f3
  rw [q2] at f6
  rw [q2] at f7
  rw [q2] at f10
  have cr_0_1 : ta (w_ar ws (n_v vs 0) 1) = some 151 := tv_rg (th_fd hD hth r0 (g := GG_150) rfl (k := 1) (t := (2, 0, 0, [151])) rfl rfl)
  have cr_0_160 : ta (w_ar ws (n_v vs 0) 160) = some 259 := tv_rg (th_fd hD hth r0 (g := GG_150) rfl (k := 160) (t := (2, 0, 0, [259])) rfl rfl)
  have cr_0_162 : ta (w_ar ws (n_v vs 0) 162) = some 261 := tv_rg (th_fd hD hth r0 (g := GG_150) rfl (k := 162) (t := (2, 0, 0, [261])) rfl rfl)
  have ad_7 : v_ad (n_v vs 7) = w_ar ws (n_v vs 0) 162 := congrArg v_ad f7
  rw [ad_7] at f5
  have g6 : v_iv (n_v vs 8) = w_fi ws (n_v vs 0) 158 := congrArg v_iv f6
  have hK_0_1 : ∀ j : Int, 0 ≤ j → j < 2000 → (-128) ≤ w_ei ws (w_ar ws (n_v vs 0) 1) j ∧ w_ei ws (w_ar ws (n_v vs 0) 1) j ≤ 127 := fun j h0 h1 => th_el hD hth cr_0_1 (kd := 1) (n := 2000) (m := 2000) (lo := (-128)) (hi := 127) (rs := []) (L := []) rfl (by decide) (j := j.toNat) (by omega)
  have hK_0_160 : ∀ j : Int, 0 ≤ j → j < 2010 → 0 ≤ w_ei ws (w_ar ws (n_v vs 0) 160) j ∧ w_ei ws (w_ar ws (n_v vs 0) 160) j ≤ 4 := fun j h0 h1 => th_el hD hth cr_0_160 (kd := 0) (n := 2010) (m := 2010) (lo := 0) (hi := 4) (rs := []) (L := []) rfl (by decide) (j := j.toNat) (by omega)
  have kz_0_10 : 0 ≤ w_fi ws (n_v vs 0) 10 ∧ w_fi ws (n_v vs 0) 10 ≤ 2000 := tv_rng (th_fd hD hth r0 (g := GG_150) rfl (k := 10) (t := (0, 0, 2000, [])) rfl rfl)
  have kz_0_158 : 0 ≤ w_fi ws (n_v vs 0) 158 ∧ w_fi ws (n_v vs 0) 158 ≤ 2009 := tv_rng (th_fd hD hth r0 (g := GG_150) rfl (k := 158) (t := (0, 0, 2009, [])) rfl rfl)
  have nf0 : fc_1 (20, [13, 2], [50, 1, 1, 1158, 1160, 4, 6, 1, 2, 1, 0, 0, 1, 1, 6, 3, 1, 160, 2, 1, 158, 0, 1]) ws (vs) := by
    refine ⟨fun n hn => ?_, ?_⟩
    · have hn : n ∈ [13, 2] := hn
      rw [hl]
      simp only [List.mem_cons, List.not_mem_nil, or_false] at hn
      show n < 15; omega
    · show (v_iv (n_v vs 13) = 1) → (w_ei ws (w_ar ws (n_v vs 2) 160) (w_fi ws (n_v vs 2) 158) = 1)
      rw [q2]
      first | omega | grind
  refine ⟨(fun _ h => (by cases h)), [], trivial, ?_, (fun _ h => (by cases h))⟩
  rw [List.append_nil]
  exact List.forall_mem_cons.mpr ⟨⟨show (20 : Nat) < 100 from by decide, nf0⟩, (fun _ h => (by cases h))⟩
def o_Mo_word_at_s5037_8 : or_T := (54, 15, [(0, (2, 0, 0, [150])), (2, (2, 0, 0, [150])), (4, (0, 1, 1, [])), (5, (0, 0, 4, [])), (6, (0, 5, 5, [])), (7, (2, 0, 0, [261])), (8, (0, 0, 2009, [])), (9, (0, 0, 1999, [])), (10, (0, 0, 1999, [])), (11, (0, 0, 255, [])), (12, (0, 0, 255, [])), (13, (0, 1, 1, [])), (14, (0, 1, 5, []))], [(6, [14, 5], [1]), (7, [11, 12], [0]), (20, [10, 2, 11], [50, 1, 1, 1010, 1001, 4, 11, 0, 6, 4, 2, 1, 0, 0, 1, 2, 1, 10, 1, 2, 1, 2, 9, 5, 3, 1, 1, 1, 0, 0, 256]), (20, [2, 10, 11], [50, 1, 0, 10, 4, 7, 0, 3, 2, 0, 10, 1, 1, 1, 2, 1, 2, 0, -1]), (1, [10, 9, 5], []), (10, [9, 7, 8], []), (9, [8, 2], [158]), (9, [7, 2], [162]), (8, [4], [1]), (7, [5, 6], [2]), (20, [4, 2], [50, 1, 1, 1158, 1160, 4, 6, 1, 2, 1, 0, 0, 1, 1, 6, 3, 1, 160, 2, 1, 158, 0, 1]), (24, [0, 2], [])], [], [], [(20, [13, 2], [50, 1, 1, 1158, 1160, 4, 6, 1, 2, 1, 0, 0, 1, 1, 6, 3, 1, 160, 2, 1, 158, 0, 1])], [], [(14, 5, 1, 1), (11, 12, 0, 0), (10, 5, 0, 2000), (10, 9, 0, 4), (4, 5, -4294967296, 1)])
theorem oo_Mo_word_at_s5037_8 {kA : Nat → ClassId} : or_ok kA GG o_Mo_word_at_s5037_8 := by
  intro A ta ws vs hD hth hl hk hds hf
  have hl : vs.length = 15 := hl
  have hk : ∀ q ∈ ([(0, (2, 0, 0, [150])), (2, (2, 0, 0, [150])), (4, (0, 1, 1, [])), (5, (0, 0, 4, [])), (6, (0, 5, 5, [])), (7, (2, 0, 0, [261])), (8, (0, 0, 2009, [])), (9, (0, 0, 1999, [])), (10, (0, 0, 1999, [])), (11, (0, 0, 255, [])), (12, (0, 0, 255, [])), (13, (0, 1, 1, [])), (14, (0, 1, 5, []))] : List (Nat × tv_T)), tv_ok ta q.2 (n_v vs q.1) := hk
  obtain ⟨t0, hk⟩ := List.forall_mem_cons.mp hk
  have t0 : tv_ok ta (2, 0, 0, [150]) (n_v vs 0) := t0
  have r0 : ta (v_ad (n_v vs 0)) = some 150 := tv_rg t0
  obtain ⟨t2, hk⟩ := List.forall_mem_cons.mp hk
  have t2 : tv_ok ta (2, 0, 0, [150]) (n_v vs 2) := t2
  have r2 : ta (v_ad (n_v vs 2)) = some 150 := tv_rg t2
  obtain ⟨t4, hk⟩ := List.forall_mem_cons.mp hk
  have t4 : tv_ok ta (0, 1, 1, []) (n_v vs 4) := t4
  have k4 : 1 ≤ v_iv (n_v vs 4) ∧ v_iv (n_v vs 4) ≤ 1 := tv_rng t4
  obtain ⟨t5, hk⟩ := List.forall_mem_cons.mp hk
  have t5 : tv_ok ta (0, 0, 4, []) (n_v vs 5) := t5
  have k5 : 0 ≤ v_iv (n_v vs 5) ∧ v_iv (n_v vs 5) ≤ 4 := tv_rng t5
  obtain ⟨t6, hk⟩ := List.forall_mem_cons.mp hk
  have t6 : tv_ok ta (0, 5, 5, []) (n_v vs 6) := t6
  have k6 : 5 ≤ v_iv (n_v vs 6) ∧ v_iv (n_v vs 6) ≤ 5 := tv_rng t6
  obtain ⟨t7, hk⟩ := List.forall_mem_cons.mp hk
  have t7 : tv_ok ta (2, 0, 0, [261]) (n_v vs 7) := t7
  have r7 : ta (v_ad (n_v vs 7)) = some 261 := tv_rg t7
  obtain ⟨t8, hk⟩ := List.forall_mem_cons.mp hk
  have t8 : tv_ok ta (0, 0, 2009, []) (n_v vs 8) := t8
  have k8 : 0 ≤ v_iv (n_v vs 8) ∧ v_iv (n_v vs 8) ≤ 2009 := tv_rng t8
  obtain ⟨t9, hk⟩ := List.forall_mem_cons.mp hk
  have t9 : tv_ok ta (0, 0, 1999, []) (n_v vs 9) := t9
  have k9 : 0 ≤ v_iv (n_v vs 9) ∧ v_iv (n_v vs 9) ≤ 1999 := tv_rng t9
  obtain ⟨t10, hk⟩ := List.forall_mem_cons.mp hk
  have t10 : tv_ok ta (0, 0, 1999, []) (n_v vs 10) := t10
  have k10 : 0 ≤ v_iv (n_v vs 10) ∧ v_iv (n_v vs 10) ≤ 1999 := tv_rng t10
  obtain ⟨t11, hk⟩ := List.forall_mem_cons.mp hk
  have t11 : tv_ok ta (0, 0, 255, []) (n_v vs 11) := t11
  have k11 : 0 ≤ v_iv (n_v vs 11) ∧ v_iv (n_v vs 11) ≤ 255 := tv_rng t11
  obtain ⟨t12, hk⟩ := List.forall_mem_cons.mp hk
  have t12 : tv_ok ta (0, 0, 255, []) (n_v vs 12) := t12
  have k12 : 0 ≤ v_iv (n_v vs 12) ∧ v_iv (n_v vs 12) ≤ 255 := tv_rng t12
  obtain ⟨t13, hk⟩ := List.forall_mem_cons.mp hk
  have t13 : tv_ok ta (0, 1, 1, []) (n_v vs 13) := t13
  have k13 : 1 ≤ v_iv (n_v vs 13) ∧ v_iv (n_v vs 13) ≤ 1 := tv_rng t13
  obtain ⟨t14, hk⟩ := List.forall_mem_cons.mp hk
  have t14 : tv_ok ta (0, 1, 5, []) (n_v vs 14) := t14
  have k14 : 1 ≤ v_iv (n_v vs 14) ∧ v_iv (n_v vs 14) ≤ 5 := tv_rng t14
  have hds : ∀ q ∈ ([(14, 5, 1, 1), (11, 12, 0, 0), (10, 5, 0, 2000), (10, 9, 0, 4), (4, 5, -4294967296, 1)] : List of_T), n_iv vs q.2.1 + q.2.2.1 ≤ n_iv vs q.1 ∧ n_iv vs q.1 ≤ n_iv vs q.2.1 + q.2.2.2 := hds
  obtain ⟨d0, hds⟩ := List.forall_mem_cons.mp hds
  have d0 : v_iv (n_v vs 5) + 1 ≤ v_iv (n_v vs 14) ∧ v_iv (n_v vs 14) ≤ v_iv (n_v vs 5) + 1 := d0
  obtain ⟨d1, hds⟩ := List.forall_mem_cons.mp hds
  have d1 : v_iv (n_v vs 12) + 0 ≤ v_iv (n_v vs 11) ∧ v_iv (n_v vs 11) ≤ v_iv (n_v vs 12) + 0 := d1
  obtain ⟨d2, hds⟩ := List.forall_mem_cons.mp hds
  have d2 : v_iv (n_v vs 5) + 0 ≤ v_iv (n_v vs 10) ∧ v_iv (n_v vs 10) ≤ v_iv (n_v vs 5) + 2000 := d2
  obtain ⟨d3, hds⟩ := List.forall_mem_cons.mp hds
  have d3 : v_iv (n_v vs 9) + 0 ≤ v_iv (n_v vs 10) ∧ v_iv (n_v vs 10) ≤ v_iv (n_v vs 9) + 4 := d3
  obtain ⟨d4, hds⟩ := List.forall_mem_cons.mp hds
  have d4 : v_iv (n_v vs 5) + (-4294967296) ≤ v_iv (n_v vs 4) ∧ v_iv (n_v vs 4) ≤ v_iv (n_v vs 5) + 1 := d4
  have hf : fc_ok [(6, [14, 5], [1]), (7, [11, 12], [0]), (20, [10, 2, 11], [50, 1, 1, 1010, 1001, 4, 11, 0, 6, 4, 2, 1, 0, 0, 1, 2, 1, 10, 1, 2, 1, 2, 9, 5, 3, 1, 1, 1, 0, 0, 256]), (20, [2, 10, 11], [50, 1, 0, 10, 4, 7, 0, 3, 2, 0, 10, 1, 1, 1, 2, 1, 2, 0, -1]), (1, [10, 9, 5], []), (10, [9, 7, 8], []), (9, [8, 2], [158]), (9, [7, 2], [162]), (8, [4], [1]), (7, [5, 6], [2]), (20, [4, 2], [50, 1, 1, 1158, 1160, 4, 6, 1, 2, 1, 0, 0, 1, 1, 6, 3, 1, 160, 2, 1, 158, 0, 1]), (24, [0, 2], [])] ta ws vs := hf
  obtain ⟨f0, hf⟩ := fc_un (show (6 : Nat) < 100 from by decide) hf
  have f0 : v_iv (n_v vs 14) = v_iv (n_v vs 5) + 1 := f0
  obtain ⟨f1, hf⟩ := fc_un (show (7 : Nat) < 100 from by decide) hf
  have f1 : v_iv (n_v vs 11) = v_iv (n_v vs 12) := f1
  obtain ⟨f2, hf⟩ := fc_un (show (20 : Nat) < 100 from by decide) hf
  have f2 : ((v_iv (n_v vs 10) + 1) ≤ w_fi ws (n_v vs 2) 10) → (v_iv (n_v vs 11) = (w_ei ws (w_ar ws (n_v vs 2) 1) (v_iv (n_v vs 10)) % 256)) := f2
  obtain ⟨f3, hf⟩ := fc_un (show (20 : Nat) < 100 from by decide) hf
  have f3 : (w_fi ws (n_v vs 2) 10 ≤ v_iv (n_v vs 10)) → (v_iv (n_v vs 11) = (-1)) := f3
  obtain ⟨f4, hf⟩ := fc_un (show (1 : Nat) < 100 from by decide) hf
  have f4 : v_iv (n_v vs 10) = v_iv (n_v vs 9) + v_iv (n_v vs 5) := f4
  obtain ⟨f5, hf⟩ := fc_un (show (10 : Nat) < 100 from by decide) hf
  have f5 : v_iv (n_v vs 9) = w_el ws (v_ad (n_v vs 7)) (v_iv (n_v vs 8)).toNat := f5
  obtain ⟨f6, hf⟩ := fc_un (show (9 : Nat) < 100 from by decide) hf
  have f6 : n_v vs 8 = w_fd ws (v_ad (n_v vs 2)) 158 := f6
  obtain ⟨f7, hf⟩ := fc_un (show (9 : Nat) < 100 from by decide) hf
  have f7 : n_v vs 7 = w_fd ws (v_ad (n_v vs 2)) 162 := f7
  obtain ⟨f8, hf⟩ := fc_un (show (8 : Nat) < 100 from by decide) hf
  have f8 : v_iv (n_v vs 4) ≠ 0 := f8
  obtain ⟨f9, hf⟩ := fc_un (show (7 : Nat) < 100 from by decide) hf
  have f9 : v_iv (n_v vs 5) < v_iv (n_v vs 6) := f9
  obtain ⟨f10, hf⟩ := fc_un (show (20 : Nat) < 100 from by decide) hf
  have f10 : (v_iv (n_v vs 4) = 1) → (w_ei ws (w_ar ws (n_v vs 2) 160) (w_fi ws (n_v vs 2) 158) = 1) := f10
  obtain ⟨f11, hf⟩ := fc_un (show (24 : Nat) < 100 from by decide) hf
  have f11 : n_v vs 0 = n_v vs 2 := f11
  have q2 : n_v vs 2 = n_v vs 0 := f11.symm
  rw [q2] at f2
  rw [q2] at f3
  rw [q2] at f6
  rw [q2] at f7
  rw [q2] at f10
  have cr_0_1 : ta (w_ar ws (n_v vs 0) 1) = some 151 := tv_rg (th_fd hD hth r0 (g := GG_150) rfl (k := 1) (t := (2, 0, 0, [151])) rfl rfl)
  have cr_0_160 : ta (w_ar ws (n_v vs 0) 160) = some 259 := tv_rg (th_fd hD hth r0 (g := GG_150) rfl (k := 160) (t := (2, 0, 0, [259])) rfl rfl)
  have cr_0_162 : ta (w_ar ws (n_v vs 0) 162) = some 261 := tv_rg (th_fd hD hth r0 (g := GG_150) rfl (k := 162) (t := (2, 0, 0, [261])) rfl rfl)
  have ad_7 : v_ad (n_v vs 7) = w_ar ws (n_v vs 0) 162 := congrArg v_ad f7
  rw [ad_7] at f5
  have g6 : v_iv (n_v vs 8) = w_fi ws (n_v vs 0) 158 := congrArg v_iv f6
  have hK_0_1 : ∀ j : Int, 0 ≤ j → j < 2000 → (-128) ≤ w_ei ws (w_ar ws (n_v vs 0) 1) j ∧ w_ei ws (w_ar ws (n_v vs 0) 1) j ≤ 127 := fun j h0 h1 => th_el hD hth cr_0_1 (kd := 1) (n := 2000) (m := 2000) (lo := (-128)) (hi := 127) (rs := []) (L := []) rfl (by decide) (j := j.toNat) (by omega)
  have hK_0_160 : ∀ j : Int, 0 ≤ j → j < 2010 → 0 ≤ w_ei ws (w_ar ws (n_v vs 0) 160) j ∧ w_ei ws (w_ar ws (n_v vs 0) 160) j ≤ 4 := fun j h0 h1 => th_el hD hth cr_0_160 (kd := 0) (n := 2010) (m := 2010) (lo := 0) (hi := 4) (rs := []) (L := []) rfl (by decide) (j := j.toNat) (by omega)
  have kz_0_10 : 0 ≤ w_fi ws (n_v vs 0) 10 ∧ w_fi ws (n_v vs 0) 10 ≤ 2000 := tv_rng (th_fd hD hth r0 (g := GG_150) rfl (k := 10) (t := (0, 0, 2000, [])) rfl rfl)
  have kz_0_158 : 0 ≤ w_fi ws (n_v vs 0) 158 ∧ w_fi ws (n_v vs 0) 158 ≤ 2009 := tv_rng (th_fd hD hth r0 (g := GG_150) rfl (k := 158) (t := (0, 0, 2009, [])) rfl rfl)
  have nf0 : fc_1 (20, [13, 2], [50, 1, 1, 1158, 1160, 4, 6, 1, 2, 1, 0, 0, 1, 1, 6, 3, 1, 160, 2, 1, 158, 0, 1]) ws (vs) := by
    refine ⟨fun n hn => ?_, ?_⟩
    · have hn : n ∈ [13, 2] := hn
      rw [hl]
      simp only [List.mem_cons, List.not_mem_nil, or_false] at hn
      show n < 15; omega
    · show (v_iv (n_v vs 13) = 1) → (w_ei ws (w_ar ws (n_v vs 2) 160) (w_fi ws (n_v vs 2) 158) = 1)
      rw [q2]
      first | omega | grind
  refine ⟨(fun _ h => (by cases h)), [], trivial, ?_, (fun _ h => (by cases h))⟩
  rw [List.append_nil]
  exact List.forall_mem_cons.mpr ⟨⟨show (20 : Nat) < 100 from by decide, nf0⟩, (fun _ h => (by cases h))⟩
def n_Mo_word_at_s5037_an : List an_T := [(54, [(0, (2, 0, 0, [150])), (1, (2, 0, 0, [5037])), (2, (0, 0, 1, [])), (3, (0, 0, 5, []))], [], (0, 0), [(0, 0, 99946), (1, 5, 5), (0, 0, 100000)], [(4, 5, -1000000000000, 1)], [], [(2, 0, 0, [150]), (2, 0, 0, [5037])], 0, [], [(20, [4, 2], [50, 1, 1, 1158, 1160, 4, 6, 1, 2, 1, 0, 0, 1, 1, 6, 3, 1, 160, 2, 1, 158, 0, 1]), (24, [0, 2], [])])]
def t_Mo_word_at_s5037_ct : ct_L := [(1, 425, e_Mo_byteAt), (124, 448, e_jStr_length_v302), (172, 448, e_jStr_length_v302), (253, 453, e_jStr_charAt_v303)]
set_option maxRecDepth 100000 in
theorem c_Mo_word_at_s5037 {l : Launch} {D : va_G} {kA : Nat → ClassId} (h_Mo_byteAt : ct_ok l D kA GG y_Mo_byteAt z_Mo_byteAt e_Mo_byteAt) : ct_ok l D kA GG y_Mo_word_at_s5037 z_Mo_word_at_s5037 e_Mo_word_at_s5037 := chk_all_ok (FT := [(342, 13, 160), (348, 13, 162), (351, 13, 163), (413, 13, 8), (1169, 13, 158)]) (PT := []) (CT := t_Mo_word_at_s5037_ct) (KT := []) (NT := []) (AN := n_Mo_word_at_s5037_an) (OT := [o_Mo_word_at_s5037_0, o_Mo_word_at_s5037_1, o_Mo_word_at_s5037_2, o_Mo_word_at_s5037_3, o_Mo_word_at_s5037_4, o_Mo_word_at_s5037_5, o_Mo_word_at_s5037_6, o_Mo_word_at_s5037_7, o_Mo_word_at_s5037_8]) 3 324 (List.forall_mem_cons.mpr ⟨oo_Mo_word_at_s5037_0, List.forall_mem_cons.mpr ⟨oo_Mo_word_at_s5037_1, List.forall_mem_cons.mpr ⟨oo_Mo_word_at_s5037_2, List.forall_mem_cons.mpr ⟨oo_Mo_word_at_s5037_3, List.forall_mem_cons.mpr ⟨oo_Mo_word_at_s5037_4, List.forall_mem_cons.mpr ⟨oo_Mo_word_at_s5037_5, List.forall_mem_cons.mpr ⟨oo_Mo_word_at_s5037_6, List.forall_mem_cons.mpr ⟨oo_Mo_word_at_s5037_7, List.forall_mem_cons.mpr ⟨oo_Mo_word_at_s5037_8, List.forall_mem_nil _⟩⟩⟩⟩⟩⟩⟩⟩⟩) (by decide +kernel) ⟨List.forall_mem_cons.mpr ⟨gf_Mo_342, List.forall_mem_cons.mpr ⟨gf_Mo_348, List.forall_mem_cons.mpr ⟨gf_Mo_351, List.forall_mem_cons.mpr ⟨gf_Mo_413, List.forall_mem_cons.mpr ⟨gf_Mo_1169, List.forall_mem_nil _⟩⟩⟩⟩⟩, List.forall_mem_nil _, List.forall_mem_cons.mpr ⟨cl_virtual (y := y_Mo_byteAt) (ci := 13) rfl rfl ⟨_, _, rfl⟩ (by decide +kernel) h_Mo_byteAt wm_2986 wm_9 wm_2983 wm_2985 wv_12_12 ⟨by decide, by decide, by decide +kernel⟩ (by decide), List.forall_mem_cons.mpr ⟨cl_string (y := y_jStr_length) (i := 37) rfl rfl (by decide +kernel) rfl c_jStr_length_v302 wm_674 wm_11 wm_3003 wm_672 wm_673 ⟨by decide, by decide, by decide +kernel⟩ (by decide), List.forall_mem_cons.mpr ⟨cl_string (y := y_jStr_length) (i := 37) rfl rfl (by decide +kernel) rfl c_jStr_length_v302 wm_674 wm_11 wm_3003 wm_672 wm_673 ⟨by decide, by decide, by decide +kernel⟩ (by decide), List.forall_mem_cons.mpr ⟨cl_string (y := y_jStr_charAt) (i := 37) rfl rfl (by decide +kernel) rfl c_jStr_charAt_v303 wm_684 wm_11 wm_3004 wm_682 wm_683 ⟨by decide, by decide, by decide +kernel⟩ (by decide), List.forall_mem_nil _⟩⟩⟩⟩, List.forall_mem_nil _, List.forall_mem_nil _, GG_pl⟩ (by decide +kernel)
def o_Mo_word_at_s5038_0 : or_T := (54, 5, [(0, (2, 0, 0, [150])), (3, (0, 0, 0, []))], [], [], [], [(20, [3, 0], [50, 1, 1, 1158, 1160, 4, 6, 1, 2, 1, 0, 0, 1, 1, 6, 3, 1, 160, 2, 1, 158, 0, 1]), (24, [0, 0], [])], [], [])
theorem oo_Mo_word_at_s5038_0 {kA : Nat → ClassId} : or_ok kA GG o_Mo_word_at_s5038_0 := by
  intro A ta ws vs hD hth hl hk hds hf
  have hl : vs.length = 5 := hl
  have hk : ∀ q ∈ ([(0, (2, 0, 0, [150])), (3, (0, 0, 0, []))] : List (Nat × tv_T)), tv_ok ta q.2 (n_v vs q.1) := hk
  obtain ⟨t0, hk⟩ := List.forall_mem_cons.mp hk
  have t0 : tv_ok ta (2, 0, 0, [150]) (n_v vs 0) := t0
  have r0 : ta (v_ad (n_v vs 0)) = some 150 := tv_rg t0
  obtain ⟨t3, hk⟩ := List.forall_mem_cons.mp hk
  have t3 : tv_ok ta (0, 0, 0, []) (n_v vs 3) := t3
  have k3 : 0 ≤ v_iv (n_v vs 3) ∧ v_iv (n_v vs 3) ≤ 0 := tv_rng t3
  have cr_0_160 : ta (w_ar ws (n_v vs 0) 160) = some 259 := tv_rg (th_fd hD hth r0 (g := GG_150) rfl (k := 160) (t := (2, 0, 0, [259])) rfl rfl)
  have hK_0_160 : ∀ j : Int, 0 ≤ j → j < 2010 → 0 ≤ w_ei ws (w_ar ws (n_v vs 0) 160) j ∧ w_ei ws (w_ar ws (n_v vs 0) 160) j ≤ 4 := fun j h0 h1 => th_el hD hth cr_0_160 (kd := 0) (n := 2010) (m := 2010) (lo := 0) (hi := 4) (rs := []) (L := []) rfl (by decide) (j := j.toNat) (by omega)
  have kz_0_158 : 0 ≤ w_fi ws (n_v vs 0) 158 ∧ w_fi ws (n_v vs 0) 158 ≤ 2009 := tv_rng (th_fd hD hth r0 (g := GG_150) rfl (k := 158) (t := (0, 0, 2009, [])) rfl rfl)
  have nf0 : fc_1 (20, [3, 0], [50, 1, 1, 1158, 1160, 4, 6, 1, 2, 1, 0, 0, 1, 1, 6, 3, 1, 160, 2, 1, 158, 0, 1]) ws (vs) := by
    refine ⟨fun n hn => ?_, ?_⟩
    · have hn : n ∈ [3, 0] := hn
      rw [hl]
      simp only [List.mem_cons, List.not_mem_nil, or_false] at hn
      show n < 5; omega
    · show (v_iv (n_v vs 3) = 1) → (w_ei ws (w_ar ws (n_v vs 0) 160) (w_fi ws (n_v vs 0) 158) = 1)
      first | omega | grind
  have nf1 : fc_1 (24, [0, 0], []) ws (vs) := by
    refine ⟨fun n hn => ?_, ?_⟩
    · have hn : n ∈ [0, 0] := hn
      rw [hl]
      simp only [List.mem_cons, List.not_mem_nil, or_false] at hn
      show n < 5; omega
    · show n_v vs 0 = n_v vs 0
      first | rfl | simp only [true_and]
  refine ⟨(fun _ h => (by cases h)), [], trivial, ?_, (fun _ h => (by cases h))⟩
  rw [List.append_nil]
  exact List.forall_mem_cons.mpr ⟨⟨show (20 : Nat) < 100 from by decide, nf0⟩, List.forall_mem_cons.mpr ⟨⟨show (24 : Nat) < 100 from by decide, nf1⟩, (fun _ h => (by cases h))⟩⟩
def o_Mo_word_at_s5038_1 : or_T := (54, 9, [(0, (2, 0, 0, [150])), (3, (2, 0, 0, [259])), (4, (0, 0, 2009, [])), (5, (0, 0, 4, [])), (6, (0, 1, 1, [])), (7, (0, 0, 0, []))], [(7, [5, 6], [1]), (10, [5, 3, 4], []), (9, [4, 0], [158]), (9, [3, 0], [160])], [], [], [(20, [7, 0], [50, 1, 1, 1158, 1160, 4, 6, 1, 2, 1, 0, 0, 1, 1, 6, 3, 1, 160, 2, 1, 158, 0, 1]), (24, [0, 0], [])], [], [])
theorem oo_Mo_word_at_s5038_1 {kA : Nat → ClassId} : or_ok kA GG o_Mo_word_at_s5038_1 := by
  intro A ta ws vs hD hth hl hk hds hf
  have hl : vs.length = 9 := hl
  have hk : ∀ q ∈ ([(0, (2, 0, 0, [150])), (3, (2, 0, 0, [259])), (4, (0, 0, 2009, [])), (5, (0, 0, 4, [])), (6, (0, 1, 1, [])), (7, (0, 0, 0, []))] : List (Nat × tv_T)), tv_ok ta q.2 (n_v vs q.1) := hk
  obtain ⟨t0, hk⟩ := List.forall_mem_cons.mp hk
  have t0 : tv_ok ta (2, 0, 0, [150]) (n_v vs 0) := t0
  have r0 : ta (v_ad (n_v vs 0)) = some 150 := tv_rg t0
  obtain ⟨t3, hk⟩ := List.forall_mem_cons.mp hk
  have t3 : tv_ok ta (2, 0, 0, [259]) (n_v vs 3) := t3
  have r3 : ta (v_ad (n_v vs 3)) = some 259 := tv_rg t3
  obtain ⟨t4, hk⟩ := List.forall_mem_cons.mp hk
  have t4 : tv_ok ta (0, 0, 2009, []) (n_v vs 4) := t4
  have k4 : 0 ≤ v_iv (n_v vs 4) ∧ v_iv (n_v vs 4) ≤ 2009 := tv_rng t4
  obtain ⟨t5, hk⟩ := List.forall_mem_cons.mp hk
  have t5 : tv_ok ta (0, 0, 4, []) (n_v vs 5) := t5
  have k5 : 0 ≤ v_iv (n_v vs 5) ∧ v_iv (n_v vs 5) ≤ 4 := tv_rng t5
  obtain ⟨t6, hk⟩ := List.forall_mem_cons.mp hk
  have t6 : tv_ok ta (0, 1, 1, []) (n_v vs 6) := t6
  have k6 : 1 ≤ v_iv (n_v vs 6) ∧ v_iv (n_v vs 6) ≤ 1 := tv_rng t6
  obtain ⟨t7, hk⟩ := List.forall_mem_cons.mp hk
  have t7 : tv_ok ta (0, 0, 0, []) (n_v vs 7) := t7
  have k7 : 0 ≤ v_iv (n_v vs 7) ∧ v_iv (n_v vs 7) ≤ 0 := tv_rng t7
  have hf : fc_ok [(7, [5, 6], [1]), (10, [5, 3, 4], []), (9, [4, 0], [158]), (9, [3, 0], [160])] ta ws vs := hf
  obtain ⟨f0, hf⟩ := fc_un (show (7 : Nat) < 100 from by decide) hf
  have f0 : v_iv (n_v vs 5) ≠ v_iv (n_v vs 6) := f0
  obtain ⟨f1, hf⟩ := fc_un (show (10 : Nat) < 100 from by decide) hf
  have f1 : v_iv (n_v vs 5) = w_el ws (v_ad (n_v vs 3)) (v_iv (n_v vs 4)).toNat := f1
  obtain ⟨f2, hf⟩ := fc_un (show (9 : Nat) < 100 from by decide) hf
  have f2 : n_v vs 4 = w_fd ws (v_ad (n_v vs 0)) 158 := f2
  obtain ⟨f3, hf⟩ := fc_un (show (9 : Nat) < 100 from by decide) hf
  have f3 : n_v vs 3 = w_fd ws (v_ad (n_v vs 0)) 160 := f3
  have cr_0_160 : ta (w_ar ws (n_v vs 0) 160) = some 259 := tv_rg (th_fd hD hth r0 (g := GG_150) rfl (k := 160) (t := (2, 0, 0, [259])) rfl rfl)
  have ad_3 : v_ad (n_v vs 3) = w_ar ws (n_v vs 0) 160 := congrArg v_ad f3
  rw [ad_3] at f1
  have h1 : v_iv (n_v vs 5) = w_ei ws (w_ar ws (n_v vs 0) 160) (v_iv (n_v vs 4)) := f1
  have g2 : v_iv (n_v vs 4) = w_fi ws (n_v vs 0) 158 := congrArg v_iv f2
  have br_0_160_4_0 : w_ei ws (w_ar ws (n_v vs 0) 160) (v_iv (n_v vs 4)) = w_el ws (w_ar ws (n_v vs 0) 160) (v_iv (n_v vs 4)).toNat := rfl
  have hK_0_160 : ∀ j : Int, 0 ≤ j → j < 2010 → 0 ≤ w_ei ws (w_ar ws (n_v vs 0) 160) j ∧ w_ei ws (w_ar ws (n_v vs 0) 160) j ≤ 4 := fun j h0 h1 => th_el hD hth cr_0_160 (kd := 0) (n := 2010) (m := 2010) (lo := 0) (hi := 4) (rs := []) (L := []) rfl (by decide) (j := j.toNat) (by omega)
  have kz_0_158 : 0 ≤ w_fi ws (n_v vs 0) 158 ∧ w_fi ws (n_v vs 0) 158 ≤ 2009 := tv_rng (th_fd hD hth r0 (g := GG_150) rfl (k := 158) (t := (0, 0, 2009, [])) rfl rfl)
  have nf0 : fc_1 (20, [7, 0], [50, 1, 1, 1158, 1160, 4, 6, 1, 2, 1, 0, 0, 1, 1, 6, 3, 1, 160, 2, 1, 158, 0, 1]) ws (vs) := by
    refine ⟨fun n hn => ?_, ?_⟩
    · have hn : n ∈ [7, 0] := hn
      rw [hl]
      simp only [List.mem_cons, List.not_mem_nil, or_false] at hn
      show n < 9; omega
    · show (v_iv (n_v vs 7) = 1) → (w_ei ws (w_ar ws (n_v vs 0) 160) (w_fi ws (n_v vs 0) 158) = 1)
      first | omega | grind
  have nf1 : fc_1 (24, [0, 0], []) ws (vs) := by
    refine ⟨fun n hn => ?_, ?_⟩
    · have hn : n ∈ [0, 0] := hn
      rw [hl]
      simp only [List.mem_cons, List.not_mem_nil, or_false] at hn
      show n < 9; omega
    · show n_v vs 0 = n_v vs 0
      first | rfl | simp only [true_and]
  refine ⟨(fun _ h => (by cases h)), [], trivial, ?_, (fun _ h => (by cases h))⟩
  rw [List.append_nil]
  exact List.forall_mem_cons.mpr ⟨⟨show (20 : Nat) < 100 from by decide, nf0⟩, List.forall_mem_cons.mpr ⟨⟨show (24 : Nat) < 100 from by decide, nf1⟩, (fun _ h => (by cases h))⟩⟩
def o_Mo_word_at_s5038_2 : or_T := (54, 15, [(0, (2, 0, 0, [150])), (3, (2, 0, 0, [259])), (4, (0, 0, 2009, [])), (5, (0, 1, 1, [])), (6, (0, 1, 1, [])), (13, (0, 0, 0, []))], [(9, [4, 0], [158]), (7, [5, 6], [0]), (10, [5, 3, 4], []), (9, [3, 0], [160])], [], [], [(20, [13, 0], [50, 1, 1, 1158, 1160, 4, 6, 1, 2, 1, 0, 0, 1, 1, 6, 3, 1, 160, 2, 1, 158, 0, 1]), (24, [0, 0], [])], [], [])
theorem oo_Mo_word_at_s5038_2 {kA : Nat → ClassId} : or_ok kA GG o_Mo_word_at_s5038_2 := by
  intro A ta ws vs hD hth hl hk hds hf
  have hl : vs.length = 15 := hl
  have hk : ∀ q ∈ ([(0, (2, 0, 0, [150])), (3, (2, 0, 0, [259])), (4, (0, 0, 2009, [])), (5, (0, 1, 1, [])), (6, (0, 1, 1, [])), (13, (0, 0, 0, []))] : List (Nat × tv_T)), tv_ok ta q.2 (n_v vs q.1) := hk
  obtain ⟨t0, hk⟩ := List.forall_mem_cons.mp hk
  have t0 : tv_ok ta (2, 0, 0, [150]) (n_v vs 0) := t0
  have r0 : ta (v_ad (n_v vs 0)) = some 150 := tv_rg t0
  obtain ⟨t3, hk⟩ := List.forall_mem_cons.mp hk
  have t3 : tv_ok ta (2, 0, 0, [259]) (n_v vs 3) := t3
  have r3 : ta (v_ad (n_v vs 3)) = some 259 := tv_rg t3
  obtain ⟨t4, hk⟩ := List.forall_mem_cons.mp hk
  have t4 : tv_ok ta (0, 0, 2009, []) (n_v vs 4) := t4
  have k4 : 0 ≤ v_iv (n_v vs 4) ∧ v_iv (n_v vs 4) ≤ 2009 := tv_rng t4
  obtain ⟨t5, hk⟩ := List.forall_mem_cons.mp hk
  have t5 : tv_ok ta (0, 1, 1, []) (n_v vs 5) := t5
  have k5 : 1 ≤ v_iv (n_v vs 5) ∧ v_iv (n_v vs 5) ≤ 1 := tv_rng t5
  obtain ⟨t6, hk⟩ := List.forall_mem_cons.mp hk
  have t6 : tv_ok ta (0, 1, 1, []) (n_v vs 6) := t6
  have k6 : 1 ≤ v_iv (n_v vs 6) ∧ v_iv (n_v vs 6) ≤ 1 := tv_rng t6
  obtain ⟨t13, hk⟩ := List.forall_mem_cons.mp hk
  have t13 : tv_ok ta (0, 0, 0, []) (n_v vs 13) := t13
  have k13 : 0 ≤ v_iv (n_v vs 13) ∧ v_iv (n_v vs 13) ≤ 0 := tv_rng t13
  have hf : fc_ok [(9, [4, 0], [158]), (7, [5, 6], [0]), (10, [5, 3, 4], []), (9, [3, 0], [160])] ta ws vs := hf
  obtain ⟨f0, hf⟩ := fc_un (show (9 : Nat) < 100 from by decide) hf
  have f0 : n_v vs 4 = w_fd ws (v_ad (n_v vs 0)) 158 := f0
  obtain ⟨f1, hf⟩ := fc_un (show (7 : Nat) < 100 from by decide) hf
  have f1 : v_iv (n_v vs 5) = v_iv (n_v vs 6) := f1
  obtain ⟨f2, hf⟩ := fc_un (show (10 : Nat) < 100 from by decide) hf
  have f2 : v_iv (n_v vs 5) = w_el ws (v_ad (n_v vs 3)) (v_iv (n_v vs 4)).toNat := f2
  obtain ⟨f3, hf⟩ := fc_un (show (9 : Nat) < 100 from by decide) hf
  have f3 : n_v vs 3 = w_fd ws (v_ad (n_v vs 0)) 160 := f3
  have cr_0_160 : ta (w_ar ws (n_v vs 0) 160) = some 259 := tv_rg (th_fd hD hth r0 (g := GG_150) rfl (k := 160) (t := (2, 0, 0, [259])) rfl rfl)
  have ad_3 : v_ad (n_v vs 3) = w_ar ws (n_v vs 0) 160 := congrArg v_ad f3
  have g0 : v_iv (n_v vs 4) = w_fi ws (n_v vs 0) 158 := congrArg v_iv f0
  rw [ad_3] at f2
  have h2 : v_iv (n_v vs 5) = w_ei ws (w_ar ws (n_v vs 0) 160) (v_iv (n_v vs 4)) := f2
  have br_0_160_4_0 : w_ei ws (w_ar ws (n_v vs 0) 160) (v_iv (n_v vs 4)) = w_el ws (w_ar ws (n_v vs 0) 160) (v_iv (n_v vs 4)).toNat := rfl
  have hK_0_160 : ∀ j : Int, 0 ≤ j → j < 2010 → 0 ≤ w_ei ws (w_ar ws (n_v vs 0) 160) j ∧ w_ei ws (w_ar ws (n_v vs 0) 160) j ≤ 4 := fun j h0 h1 => th_el hD hth cr_0_160 (kd := 0) (n := 2010) (m := 2010) (lo := 0) (hi := 4) (rs := []) (L := []) rfl (by decide) (j := j.toNat) (by omega)
  have kz_0_158 : 0 ≤ w_fi ws (n_v vs 0) 158 ∧ w_fi ws (n_v vs 0) 158 ≤ 2009 := tv_rng (th_fd hD hth r0 (g := GG_150) rfl (k := 158) (t := (0, 0, 2009, [])) rfl rfl)
  have nf0 : fc_1 (20, [13, 0], [50, 1, 1, 1158, 1160, 4, 6, 1, 2, 1, 0, 0, 1, 1, 6, 3, 1, 160, 2, 1, 158, 0, 1]) ws (vs) := by
    refine ⟨fun n hn => ?_, ?_⟩
    · have hn : n ∈ [13, 0] := hn
      rw [hl]
      simp only [List.mem_cons, List.not_mem_nil, or_false] at hn
      show n < 15; omega
    · show (v_iv (n_v vs 13) = 1) → (w_ei ws (w_ar ws (n_v vs 0) 160) (w_fi ws (n_v vs 0) 158) = 1)
      first | omega | grind
  have nf1 : fc_1 (24, [0, 0], []) ws (vs) := by
    refine ⟨fun n hn => ?_, ?_⟩
    · have hn : n ∈ [0, 0] := hn
      rw [hl]
      simp only [List.mem_cons, List.not_mem_nil, or_false] at hn
      show n < 15; omega
    · show n_v vs 0 = n_v vs 0
      first | rfl | simp only [true_and]
  refine ⟨(fun _ h => (by cases h)), [], trivial, ?_, (fun _ h => (by cases h))⟩
  rw [List.append_nil]
  exact List.forall_mem_cons.mpr ⟨⟨show (20 : Nat) < 100 from by decide, nf0⟩, List.forall_mem_cons.mpr ⟨⟨show (24 : Nat) < 100 from by decide, nf1⟩, (fun _ h => (by cases h))⟩⟩
def o_Mo_word_at_s5038_3 : or_T := (54, 15, [(0, (2, 0, 0, [150])), (3, (2, 0, 0, [259])), (4, (0, 0, 2009, [])), (5, (0, 1, 1, [])), (6, (0, 1, 1, [])), (13, (0, 1, 1, []))], [(9, [4, 0], [158]), (7, [5, 6], [0]), (10, [5, 3, 4], []), (9, [3, 0], [160])], [], [], [(20, [13, 0], [50, 1, 1, 1158, 1160, 4, 6, 1, 2, 1, 0, 0, 1, 1, 6, 3, 1, 160, 2, 1, 158, 0, 1]), (24, [0, 0], [])], [], [])
theorem oo_Mo_word_at_s5038_3 {kA : Nat → ClassId} : or_ok kA GG o_Mo_word_at_s5038_3 := by
  intro A ta ws vs hD hth hl hk hds hf
  have hl : vs.length = 15 := hl
  have hk : ∀ q ∈ ([(0, (2, 0, 0, [150])), (3, (2, 0, 0, [259])), (4, (0, 0, 2009, [])), (5, (0, 1, 1, [])), (6, (0, 1, 1, [])), (13, (0, 1, 1, []))] : List (Nat × tv_T)), tv_ok ta q.2 (n_v vs q.1) := hk
  obtain ⟨t0, hk⟩ := List.forall_mem_cons.mp hk
  have t0 : tv_ok ta (2, 0, 0, [150]) (n_v vs 0) := t0
  have r0 : ta (v_ad (n_v vs 0)) = some 150 := tv_rg t0
  obtain ⟨t3, hk⟩ := List.forall_mem_cons.mp hk
  have t3 : tv_ok ta (2, 0, 0, [259]) (n_v vs 3) := t3
  have r3 : ta (v_ad (n_v vs 3)) = some 259 := tv_rg t3
  obtain ⟨t4, hk⟩ := List.forall_mem_cons.mp hk
  have t4 : tv_ok ta (0, 0, 2009, []) (n_v vs 4) := t4
  have k4 : 0 ≤ v_iv (n_v vs 4) ∧ v_iv (n_v vs 4) ≤ 2009 := tv_rng t4
  obtain ⟨t5, hk⟩ := List.forall_mem_cons.mp hk
  have t5 : tv_ok ta (0, 1, 1, []) (n_v vs 5) := t5
  have k5 : 1 ≤ v_iv (n_v vs 5) ∧ v_iv (n_v vs 5) ≤ 1 := tv_rng t5
  obtain ⟨t6, hk⟩ := List.forall_mem_cons.mp hk
  have t6 : tv_ok ta (0, 1, 1, []) (n_v vs 6) := t6
  have k6 : 1 ≤ v_iv (n_v vs 6) ∧ v_iv (n_v vs 6) ≤ 1 := tv_rng t6
  obtain ⟨t13, hk⟩ := List.forall_mem_cons.mp hk
  have t13 : tv_ok ta (0, 1, 1, []) (n_v vs 13) := t13
  have k13 : 1 ≤ v_iv (n_v vs 13) ∧ v_iv (n_v vs 13) ≤ 1 := tv_rng t13
  have hf : fc_ok [(9, [4, 0], [158]), (7, [5, 6], [0]), (10, [5, 3, 4], []), (9, [3, 0], [160])] ta ws vs := hf
  obtain ⟨f0, hf⟩ := fc_un (show (9 : Nat) < 100 from by decide) hf
  have f0 : n_v vs 4 = w_fd ws (v_ad (n_v vs 0)) 158 := f0
  obtain ⟨f1, hf⟩ := fc_un (show (7 : Nat) < 100 from by decide) hf
  have f1 : v_iv (n_v vs 5) = v_iv (n_v vs 6) := f1
  obtain ⟨f2, hf⟩ := fc_un (show (10 : Nat) < 100 from by decide) hf
  have f2 : v_iv (n_v vs 5) = w_el ws (v_ad (n_v vs 3)) (v_iv (n_v vs 4)).toNat := f2
  obtain ⟨f3, hf⟩ := fc_un (show (9 : Nat) < 100 from by decide) hf
  have f3 : n_v vs 3 = w_fd ws (v_ad (n_v vs 0)) 160 := f3
  have cr_0_160 : ta (w_ar ws (n_v vs 0) 160) = some 259 := tv_rg (th_fd hD hth r0 (g := GG_150) rfl (k := 160) (t := (2, 0, 0, [259])) rfl rfl)
  have ad_3 : v_ad (n_v vs 3) = w_ar ws (n_v vs 0) 160 := congrArg v_ad f3
  have g0 : v_iv (n_v vs 4) = w_fi ws (n_v vs 0) 158 := congrArg v_iv f0
  rw [ad_3] at f2
  have h2 : v_iv (n_v vs 5) = w_ei ws (w_ar ws (n_v vs 0) 160) (v_iv (n_v vs 4)) := f2
  have br_0_160_4_0 : w_ei ws (w_ar ws (n_v vs 0) 160) (v_iv (n_v vs 4)) = w_el ws (w_ar ws (n_v vs 0) 160) (v_iv (n_v vs 4)).toNat := rfl
  have hK_0_160 : ∀ j : Int, 0 ≤ j → j < 2010 → 0 ≤ w_ei ws (w_ar ws (n_v vs 0) 160) j ∧ w_ei ws (w_ar ws (n_v vs 0) 160) j ≤ 4 := fun j h0 h1 => th_el hD hth cr_0_160 (kd := 0) (n := 2010) (m := 2010) (lo := 0) (hi := 4) (rs := []) (L := []) rfl (by decide) (j := j.toNat) (by omega)
  have kz_0_158 : 0 ≤ w_fi ws (n_v vs 0) 158 ∧ w_fi ws (n_v vs 0) 158 ≤ 2009 := tv_rng (th_fd hD hth r0 (g := GG_150) rfl (k := 158) (t := (0, 0, 2009, [])) rfl rfl)
  have nf0 : fc_1 (20, [13, 0], [50, 1, 1, 1158, 1160, 4, 6, 1, 2, 1, 0, 0, 1, 1, 6, 3, 1, 160, 2, 1, 158, 0, 1]) ws (vs) := by
    refine ⟨fun n hn => ?_, ?_⟩
    · have hn : n ∈ [13, 0] := hn
      rw [hl]
      simp only [List.mem_cons, List.not_mem_nil, or_false] at hn
      show n < 15; omega
    · show (v_iv (n_v vs 13) = 1) → (w_ei ws (w_ar ws (n_v vs 0) 160) (w_fi ws (n_v vs 0) 158) = 1)
      first | omega | grind
  have nf1 : fc_1 (24, [0, 0], []) ws (vs) := by
    refine ⟨fun n hn => ?_, ?_⟩
    · have hn : n ∈ [0, 0] := hn
      rw [hl]
      simp only [List.mem_cons, List.not_mem_nil, or_false] at hn
      show n < 15; omega
    · show n_v vs 0 = n_v vs 0
      first | rfl | simp only [true_and]
  refine ⟨(fun _ h => (by cases h)), [], trivial, ?_, (fun _ h => (by cases h))⟩
  rw [List.append_nil]
  exact List.forall_mem_cons.mpr ⟨⟨show (20 : Nat) < 100 from by decide, nf0⟩, List.forall_mem_cons.mpr ⟨⟨show (24 : Nat) < 100 from by decide, nf1⟩, (fun _ h => (by cases h))⟩⟩
def o_Mo_word_at_s5038_4 : or_T := (102, 7, [(0, (2, 0, 0, [150])), (2, (2, 0, 0, [150])), (4, (0, 0, 1, []))], [(20, [4, 2], [50, 1, 1, 1158, 1160, 4, 6, 1, 2, 1, 0, 0, 1, 1, 6, 3, 1, 160, 2, 1, 158, 0, 1]), (24, [0, 2], [])], [], [], [(20, [4, 0], [50, 1, 1, 1158, 1160, 4, 6, 1, 2, 1, 0, 0, 1, 1, 6, 3, 1, 160, 2, 1, 158, 0, 1])], [], [])
theorem oo_Mo_word_at_s5038_4 {kA : Nat → ClassId} : or_ok kA GG o_Mo_word_at_s5038_4 := by
  intro A ta ws vs hD hth hl hk hds hf
  have hl : vs.length = 7 := hl
  have hk : ∀ q ∈ ([(0, (2, 0, 0, [150])), (2, (2, 0, 0, [150])), (4, (0, 0, 1, []))] : List (Nat × tv_T)), tv_ok ta q.2 (n_v vs q.1) := hk
  obtain ⟨t0, hk⟩ := List.forall_mem_cons.mp hk
  have t0 : tv_ok ta (2, 0, 0, [150]) (n_v vs 0) := t0
  have r0 : ta (v_ad (n_v vs 0)) = some 150 := tv_rg t0
  obtain ⟨t2, hk⟩ := List.forall_mem_cons.mp hk
  have t2 : tv_ok ta (2, 0, 0, [150]) (n_v vs 2) := t2
  have r2 : ta (v_ad (n_v vs 2)) = some 150 := tv_rg t2
  obtain ⟨t4, hk⟩ := List.forall_mem_cons.mp hk
  have t4 : tv_ok ta (0, 0, 1, []) (n_v vs 4) := t4
  have k4 : 0 ≤ v_iv (n_v vs 4) ∧ v_iv (n_v vs 4) ≤ 1 := tv_rng t4
  have hf : fc_ok [(20, [4, 2], [50, 1, 1, 1158, 1160, 4, 6, 1, 2, 1, 0, 0, 1, 1, 6, 3, 1, 160, 2, 1, 158, 0, 1]), (24, [0, 2], [])] ta ws vs := hf
  obtain ⟨f0, hf⟩ := fc_un (show (20 : Nat) < 100 from by decide) hf
  have f0 : (v_iv (n_v vs 4) = 1) → (w_ei ws (w_ar ws (n_v vs 2) 160) (w_fi ws (n_v vs 2) 158) = 1) := f0
  obtain ⟨f1, hf⟩ := fc_un (show (24 : Nat) < 100 from by decide) hf
  have f1 : n_v vs 0 = n_v vs 2 := f1
  have q2 : n_v vs 2 = n_v vs 0 := f1.symm
  rw [q2] at f0
  have cr_0_160 : ta (w_ar ws (n_v vs 0) 160) = some 259 := tv_rg (th_fd hD hth r0 (g := GG_150) rfl (k := 160) (t := (2, 0, 0, [259])) rfl rfl)
  have hK_0_160 : ∀ j : Int, 0 ≤ j → j < 2010 → 0 ≤ w_ei ws (w_ar ws (n_v vs 0) 160) j ∧ w_ei ws (w_ar ws (n_v vs 0) 160) j ≤ 4 := fun j h0 h1 => th_el hD hth cr_0_160 (kd := 0) (n := 2010) (m := 2010) (lo := 0) (hi := 4) (rs := []) (L := []) rfl (by decide) (j := j.toNat) (by omega)
  have kz_0_158 : 0 ≤ w_fi ws (n_v vs 0) 158 ∧ w_fi ws (n_v vs 0) 158 ≤ 2009 := tv_rng (th_fd hD hth r0 (g := GG_150) rfl (k := 158) (t := (0, 0, 2009, [])) rfl rfl)
  have nf0 : fc_1 (20, [4, 0], [50, 1, 1, 1158, 1160, 4, 6, 1, 2, 1, 0, 0, 1, 1, 6, 3, 1, 160, 2, 1, 158, 0, 1]) ws (vs) := by
    refine ⟨fun n hn => ?_, ?_⟩
    · have hn : n ∈ [4, 0] := hn
      rw [hl]
      simp only [List.mem_cons, List.not_mem_nil, or_false] at hn
      show n < 7; omega
    · show (v_iv (n_v vs 4) = 1) → (w_ei ws (w_ar ws (n_v vs 0) 160) (w_fi ws (n_v vs 0) 158) = 1)
      first | omega | grind
  refine ⟨(fun _ h => (by cases h)), [], trivial, ?_, (fun _ h => (by cases h))⟩
  rw [List.append_nil]
  exact List.forall_mem_cons.mpr ⟨⟨show (20 : Nat) < 100 from by decide, nf0⟩, (fun _ h => (by cases h))⟩
def o_Mo_word_at_s5038_5 : or_T := (102, 7, [(0, (2, 0, 0, [150])), (2, (2, 0, 0, [150])), (4, (0, 0, 0, []))], [(8, [4], [0]), (20, [4, 2], [50, 1, 1, 1158, 1160, 4, 6, 1, 2, 1, 0, 0, 1, 1, 6, 3, 1, 160, 2, 1, 158, 0, 1]), (24, [0, 2], [])], [], [], [(20, [4, 0], [50, 1, 1, 1158, 1160, 4, 6, 1, 2, 1, 0, 0, 1, 1, 6, 3, 1, 160, 2, 1, 158, 0, 1])], [], [])
theorem oo_Mo_word_at_s5038_5 {kA : Nat → ClassId} : or_ok kA GG o_Mo_word_at_s5038_5 := by
  intro A ta ws vs hD hth hl hk hds hf
  have hl : vs.length = 7 := hl
  have hk : ∀ q ∈ ([(0, (2, 0, 0, [150])), (2, (2, 0, 0, [150])), (4, (0, 0, 0, []))] : List (Nat × tv_T)), tv_ok ta q.2 (n_v vs q.1) := hk
  obtain ⟨t0, hk⟩ := List.forall_mem_cons.mp hk
  have t0 : tv_ok ta (2, 0, 0, [150]) (n_v vs 0) := t0
  have r0 : ta (v_ad (n_v vs 0)) = some 150 := tv_rg t0
  obtain ⟨t2, hk⟩ := List.forall_mem_cons.mp hk
  have t2 : tv_ok ta (2, 0, 0, [150]) (n_v vs 2) := t2
  have r2 : ta (v_ad (n_v vs 2)) = some 150 := tv_rg t2
  obtain ⟨t4, hk⟩ := List.forall_mem_cons.mp hk
  have t4 : tv_ok ta (0, 0, 0, []) (n_v vs 4) := t4
  have k4 : 0 ≤ v_iv (n_v vs 4) ∧ v_iv (n_v vs 4) ≤ 0 := tv_rng t4
  have hf : fc_ok [(8, [4], [0]), (20, [4, 2], [50, 1, 1, 1158, 1160, 4, 6, 1, 2, 1, 0, 0, 1, 1, 6, 3, 1, 160, 2, 1, 158, 0, 1]), (24, [0, 2], [])] ta ws vs := hf
  obtain ⟨f0, hf⟩ := fc_un (show (8 : Nat) < 100 from by decide) hf
  have f0 : v_iv (n_v vs 4) = 0 := f0
  obtain ⟨f1, hf⟩ := fc_un (show (20 : Nat) < 100 from by decide) hf
  have f1 : (v_iv (n_v vs 4) = 1) → (w_ei ws (w_ar ws (n_v vs 2) 160) (w_fi ws (n_v vs 2) 158) = 1) := f1
  obtain ⟨f2, hf⟩ := fc_un (show (24 : Nat) < 100 from by decide) hf
  have f2 : n_v vs 0 = n_v vs 2 := f2
  have q2 : n_v vs 2 = n_v vs 0 := f2.symm
  rw [q2] at f1
  have cr_0_160 : ta (w_ar ws (n_v vs 0) 160) = some 259 := tv_rg (th_fd hD hth r0 (g := GG_150) rfl (k := 160) (t := (2, 0, 0, [259])) rfl rfl)
  have hK_0_160 : ∀ j : Int, 0 ≤ j → j < 2010 → 0 ≤ w_ei ws (w_ar ws (n_v vs 0) 160) j ∧ w_ei ws (w_ar ws (n_v vs 0) 160) j ≤ 4 := fun j h0 h1 => th_el hD hth cr_0_160 (kd := 0) (n := 2010) (m := 2010) (lo := 0) (hi := 4) (rs := []) (L := []) rfl (by decide) (j := j.toNat) (by omega)
  have kz_0_158 : 0 ≤ w_fi ws (n_v vs 0) 158 ∧ w_fi ws (n_v vs 0) 158 ≤ 2009 := tv_rng (th_fd hD hth r0 (g := GG_150) rfl (k := 158) (t := (0, 0, 2009, [])) rfl rfl)
  have nf0 : fc_1 (20, [4, 0], [50, 1, 1, 1158, 1160, 4, 6, 1, 2, 1, 0, 0, 1, 1, 6, 3, 1, 160, 2, 1, 158, 0, 1]) ws (vs) := by
    refine ⟨fun n hn => ?_, ?_⟩
    · have hn : n ∈ [4, 0] := hn
      rw [hl]
      simp only [List.mem_cons, List.not_mem_nil, or_false] at hn
      show n < 7; omega
    · show (v_iv (n_v vs 4) = 1) → (w_ei ws (w_ar ws (n_v vs 0) 160) (w_fi ws (n_v vs 0) 158) = 1)
      first | omega | grind
  refine ⟨(fun _ h => (by cases h)), [], trivial, ?_, (fun _ h => (by cases h))⟩
  rw [List.append_nil]
  exact List.forall_mem_cons.mpr ⟨⟨show (20 : Nat) < 100 from by decide, nf0⟩, (fun _ h => (by cases h))⟩
def o_Mo_word_at_s5038_6 : or_T := (54, 15, [(0, (2, 0, 0, [150])), (2, (2, 0, 0, [150])), (4, (0, 1, 1, [])), (5, (0, 0, 3, [])), (6, (0, 4, 4, [])), (7, (2, 0, 0, [261])), (8, (0, 0, 2009, [])), (9, (0, 0, 2000, [])), (10, (0, 0, 2003, [])), (11, (0, -1, -1, [])), (12, (0, 0, 65535, [])), (13, (0, 0, 0, [])), (14, (0, 1, 4, []))], [(6, [14, 5], [1]), (7, [11, 12], [1]), (20, [10, 2, 11], [50, 1, 1, 1010, 1001, 4, 11, 0, 6, 4, 2, 1, 0, 0, 1, 2, 1, 10, 1, 2, 1, 2, 9, 5, 3, 1, 1, 1, 0, 0, 256]), (20, [2, 10, 11], [50, 1, 0, 10, 4, 7, 0, 3, 2, 0, 10, 1, 1, 1, 2, 1, 2, 0, -1]), (1, [10, 9, 5], []), (10, [9, 7, 8], []), (9, [8, 2], [158]), (9, [7, 2], [162]), (8, [4], [1]), (7, [5, 6], [2]), (20, [4, 2], [50, 1, 1, 1158, 1160, 4, 6, 1, 2, 1, 0, 0, 1, 1, 6, 3, 1, 160, 2, 1, 158, 0, 1]), (24, [0, 2], [])], [], [], [(20, [13, 2], [50, 1, 1, 1158, 1160, 4, 6, 1, 2, 1, 0, 0, 1, 1, 6, 3, 1, 160, 2, 1, 158, 0, 1])], [], [(14, 5, 1, 1), (10, 5, 0, 2000), (10, 9, 0, 3), (4, 5, -4294967296, 1)])
theorem oo_Mo_word_at_s5038_6 {kA : Nat → ClassId} : or_ok kA GG o_Mo_word_at_s5038_6 := by
  intro A ta ws vs hD hth hl hk hds hf
  have hl : vs.length = 15 := hl
  have hk : ∀ q ∈ ([(0, (2, 0, 0, [150])), (2, (2, 0, 0, [150])), (4, (0, 1, 1, [])), (5, (0, 0, 3, [])), (6, (0, 4, 4, [])), (7, (2, 0, 0, [261])), (8, (0, 0, 2009, [])), (9, (0, 0, 2000, [])), (10, (0, 0, 2003, [])), (11, (0, -1, -1, [])), (12, (0, 0, 65535, [])), (13, (0, 0, 0, [])), (14, (0, 1, 4, []))] : List (Nat × tv_T)), tv_ok ta q.2 (n_v vs q.1) := hk
  obtain ⟨t0, hk⟩ := List.forall_mem_cons.mp hk
  have t0 : tv_ok ta (2, 0, 0, [150]) (n_v vs 0) := t0
  have r0 : ta (v_ad (n_v vs 0)) = some 150 := tv_rg t0
  obtain ⟨t2, hk⟩ := List.forall_mem_cons.mp hk
  have t2 : tv_ok ta (2, 0, 0, [150]) (n_v vs 2) := t2
  have r2 : ta (v_ad (n_v vs 2)) = some 150 := tv_rg t2
  obtain ⟨t4, hk⟩ := List.forall_mem_cons.mp hk
  have t4 : tv_ok ta (0, 1, 1, []) (n_v vs 4) := t4
  have k4 : 1 ≤ v_iv (n_v vs 4) ∧ v_iv (n_v vs 4) ≤ 1 := tv_rng t4
  obtain ⟨t5, hk⟩ := List.forall_mem_cons.mp hk
  have t5 : tv_ok ta (0, 0, 3, []) (n_v vs 5) := t5
  have k5 : 0 ≤ v_iv (n_v vs 5) ∧ v_iv (n_v vs 5) ≤ 3 := tv_rng t5
  obtain ⟨t6, hk⟩ := List.forall_mem_cons.mp hk
  have t6 : tv_ok ta (0, 4, 4, []) (n_v vs 6) := t6
  have k6 : 4 ≤ v_iv (n_v vs 6) ∧ v_iv (n_v vs 6) ≤ 4 := tv_rng t6
  obtain ⟨t7, hk⟩ := List.forall_mem_cons.mp hk
  have t7 : tv_ok ta (2, 0, 0, [261]) (n_v vs 7) := t7
  have r7 : ta (v_ad (n_v vs 7)) = some 261 := tv_rg t7
  obtain ⟨t8, hk⟩ := List.forall_mem_cons.mp hk
  have t8 : tv_ok ta (0, 0, 2009, []) (n_v vs 8) := t8
  have k8 : 0 ≤ v_iv (n_v vs 8) ∧ v_iv (n_v vs 8) ≤ 2009 := tv_rng t8
  obtain ⟨t9, hk⟩ := List.forall_mem_cons.mp hk
  have t9 : tv_ok ta (0, 0, 2000, []) (n_v vs 9) := t9
  have k9 : 0 ≤ v_iv (n_v vs 9) ∧ v_iv (n_v vs 9) ≤ 2000 := tv_rng t9
  obtain ⟨t10, hk⟩ := List.forall_mem_cons.mp hk
  have t10 : tv_ok ta (0, 0, 2003, []) (n_v vs 10) := t10
  have k10 : 0 ≤ v_iv (n_v vs 10) ∧ v_iv (n_v vs 10) ≤ 2003 := tv_rng t10
  obtain ⟨t11, hk⟩ := List.forall_mem_cons.mp hk
  have t11 : tv_ok ta (0, -1, -1, []) (n_v vs 11) := t11
  have k11 : (-1) ≤ v_iv (n_v vs 11) ∧ v_iv (n_v vs 11) ≤ (-1) := tv_rng t11
  obtain ⟨t12, hk⟩ := List.forall_mem_cons.mp hk
  have t12 : tv_ok ta (0, 0, 65535, []) (n_v vs 12) := t12
  have k12 : 0 ≤ v_iv (n_v vs 12) ∧ v_iv (n_v vs 12) ≤ 65535 := tv_rng t12
  obtain ⟨t13, hk⟩ := List.forall_mem_cons.mp hk
  have t13 : tv_ok ta (0, 0, 0, []) (n_v vs 13) := t13
  have k13 : 0 ≤ v_iv (n_v vs 13) ∧ v_iv (n_v vs 13) ≤ 0 := tv_rng t13
  obtain ⟨t14, hk⟩ := List.forall_mem_cons.mp hk
  have t14 : tv_ok ta (0, 1, 4, []) (n_v vs 14) := t14
  have k14 : 1 ≤ v_iv (n_v vs 14) ∧ v_iv (n_v vs 14) ≤ 4 := tv_rng t14
  have hds : ∀ q ∈ ([(14, 5, 1, 1), (10, 5, 0, 2000), (10, 9, 0, 3), (4, 5, -4294967296, 1)] : List of_T), n_iv vs q.2.1 + q.2.2.1 ≤ n_iv vs q.1 ∧ n_iv vs q.1 ≤ n_iv vs q.2.1 + q.2.2.2 := hds
  obtain ⟨d0, hds⟩ := List.forall_mem_cons.mp hds
  have d0 : v_iv (n_v vs 5) + 1 ≤ v_iv (n_v vs 14) ∧ v_iv (n_v vs 14) ≤ v_iv (n_v vs 5) + 1 := d0
  obtain ⟨d1, hds⟩ := List.forall_mem_cons.mp hds
  have d1 : v_iv (n_v vs 5) + 0 ≤ v_iv (n_v vs 10) ∧ v_iv (n_v vs 10) ≤ v_iv (n_v vs 5) + 2000 := d1
  obtain ⟨d2, hds⟩ := List.forall_mem_cons.mp hds
  have d2 : v_iv (n_v vs 9) + 0 ≤ v_iv (n_v vs 10) ∧ v_iv (n_v vs 10) ≤ v_iv (n_v vs 9) + 3 := d2
  obtain ⟨d3, hds⟩ := List.forall_mem_cons.mp hds
  have d3 : v_iv (n_v vs 5) + (-4294967296) ≤ v_iv (n_v vs 4) ∧ v_iv (n_v vs 4) ≤ v_iv (n_v vs 5) + 1 := d3
  have hf : fc_ok [(6, [14, 5], [1]), (7, [11, 12], [1]), (20, [10, 2, 11], [50, 1, 1, 1010, 1001, 4, 11, 0, 6, 4, 2, 1, 0, 0, 1, 2, 1, 10, 1, 2, 1, 2, 9, 5, 3, 1, 1, 1, 0, 0, 256]), (20, [2, 10, 11], [50, 1, 0, 10, 4, 7, 0, 3, 2, 0, 10, 1, 1, 1, 2, 1, 2, 0, -1]), (1, [10, 9, 5], []), (10, [9, 7, 8], []), (9, [8, 2], [158]), (9, [7, 2], [162]), (8, [4], [1]), (7, [5, 6], [2]), (20, [4, 2], [50, 1, 1, 1158, 1160, 4, 6, 1, 2, 1, 0, 0, 1, 1, 6, 3, 1, 160, 2, 1, 158, 0, 1]), (24, [0, 2], [])] ta ws vs := hf
  obtain ⟨f0, hf⟩ := fc_un (show (6 : Nat) < 100 from by decide) hf
  have f0 : v_iv (n_v vs 14) = v_iv (n_v vs 5) + 1 := f0
  obtain ⟨f1, hf⟩ := fc_un (show (7 : Nat) < 100 from by decide) hf
  have f1 : v_iv (n_v vs 11) ≠ v_iv (n_v vs 12) := f1
  obtain ⟨f2, hf⟩ := fc_un (show (20 : Nat) < 100 from by decide) hf
  have f2 : ((v_iv (n_v vs 10) + 1) ≤ w_fi ws (n_v vs 2) 10) → (v_iv (n_v vs 11) = (w_ei ws (w_ar ws (n_v vs 2) 1) (v_iv (n_v vs 10)) % 256)) := f2
  obtain ⟨f3, hf⟩ := fc_un (show (20 : Nat) < 100 from by decide) hf
  have f3 : (w_fi ws (n_v vs 2) 10 ≤ v_iv (n_v vs 10)) → (v_iv (n_v vs 11) = (-1)) := f3
  obtain ⟨f4, hf⟩ := fc_un (show (1 : Nat) < 100 from by decide) hf
  have f4 : v_iv (n_v vs 10) = v_iv (n_v vs 9) + v_iv (n_v vs 5) := f4
  obtain ⟨f5, hf⟩ := fc_un (show (10 : Nat) < 100 from by decide) hf
  have f5 : v_iv (n_v vs 9) = w_el ws (v_ad (n_v vs 7)) (v_iv (n_v vs 8)).toNat := f5
  obtain ⟨f6, hf⟩ := fc_un (show (9 : Nat) < 100 from by decide) hf
  have f6 : n_v vs 8 = w_fd ws (v_ad (n_v vs 2)) 158 := f6
  obtain ⟨f7, hf⟩ := fc_un (show (9 : Nat) < 100 from by decide) hf
  have f7 : n_v vs 7 = w_fd ws (v_ad (n_v vs 2)) 162 := f7
  obtain ⟨f8, hf⟩ := fc_un (show (8 : Nat) < 100 from by decide) hf
  have f8 : v_iv (n_v vs 4) ≠ 0 := f8
  obtain ⟨f9, hf⟩ := fc_un (show (7 : Nat) < 100 from by decide) hf
  have f9 : v_iv (n_v vs 5) < v_iv (n_v vs 6) := f9
  obtain ⟨f10, hf⟩ := fc_un (show (20 : Nat) < 100 from by decide) hf
  have f10 : (v_iv (n_v vs 4) = 1) → (w_ei ws (w_ar ws (n_v vs 2) 160) (w_fi ws (n_v vs 2) 158) = 1) := f10
  obtain ⟨f11, hf⟩ := fc_un (show (24 : Nat) < 100 from by decide) hf
  have f11 : n_v vs 0 = n_v vs 2 := f11
  have q2 : n_v vs 2 = n_v vs 0 := f11.symm
  rw [q2] at f2
  rw [q2] at f3
  rw [q2] at f6
  rw [q2] at f7
  rw [q2] at f10
  have cr_0_1 : ta (w_ar ws (n_v vs 0) 1) = some 151 := tv_rg (th_fd hD hth r0 (g := GG_150) rfl (k := 1) (t := (2, 0, 0, [151])) rfl rfl)
  have cr_0_160 : ta (w_ar ws (n_v vs 0) 160) = some 259 := tv_rg (th_fd hD hth r0 (g := GG_150) rfl (k := 160) (t := (2, 0, 0, [259])) rfl rfl)
  have cr_0_162 : ta (w_ar ws (n_v vs 0) 162) = some 261 := tv_rg (th_fd hD hth r0 (g := GG_150) rfl (k := 162) (t := (2, 0, 0, [261])) rfl rfl)
  have ad_7 : v_ad (n_v vs 7) = w_ar ws (n_v vs 0) 162 := congrArg v_ad f7
  rw [ad_7] at f5
  have g6 : v_iv (n_v vs 8) = w_fi ws (n_v vs 0) 158 := congrArg v_iv f6
  have hK_0_1 : ∀ j : Int, 0 ≤ j → j < 2000 → (-128) ≤ w_ei ws (w_ar ws (n_v vs 0) 1) j ∧ w_ei ws (w_ar ws (n_v vs 0) 1) j ≤ 127 := fun j h0 h1 => th_el hD hth cr_0_1 (kd := 1) (n := 2000) (m := 2000) (lo := (-128)) (hi := 127) (rs := []) (L := []) rfl (by decide) (j := j.toNat) (by omega)
  have hK_0_160 : ∀ j : Int, 0 ≤ j → j < 2010 → 0 ≤ w_ei ws (w_ar ws (n_v vs 0) 160) j ∧ w_ei ws (w_ar ws (n_v vs 0) 160) j ≤ 4 := fun j h0 h1 => th_el hD hth cr_0_160 (kd := 0) (n := 2010) (m := 2010) (lo := 0) (hi := 4) (rs := []) (L := []) rfl (by decide) (j := j.toNat) (by omega)
  have kz_0_10 : 0 ≤ w_fi ws (n_v vs 0) 10 ∧ w_fi ws (n_v vs 0) 10 ≤ 2000 := tv_rng (th_fd hD hth r0 (g := GG_150) rfl (k := 10) (t := (0, 0, 2000, [])) rfl rfl)
  have kz_0_158 : 0 ≤ w_fi ws (n_v vs 0) 158 ∧ w_fi ws (n_v vs 0) 158 ≤ 2009 := tv_rng (th_fd hD hth r0 (g := GG_150) rfl (k := 158) (t := (0, 0, 2009, [])) rfl rfl)
  have nf0 : fc_1 (20, [13, 2], [50, 1, 1, 1158, 1160, 4, 6, 1, 2, 1, 0, 0, 1, 1, 6, 3, 1, 160, 2, 1, 158, 0, 1]) ws (vs) := by
    refine ⟨fun n hn => ?_, ?_⟩
    · have hn : n ∈ [13, 2] := hn
      rw [hl]
      simp only [List.mem_cons, List.not_mem_nil, or_false] at hn
      show n < 15; omega
    · show (v_iv (n_v vs 13) = 1) → (w_ei ws (w_ar ws (n_v vs 2) 160) (w_fi ws (n_v vs 2) 158) = 1)
      rw [q2]
      first | omega | grind
  refine ⟨(fun _ h => (by cases h)), [], trivial, ?_, (fun _ h => (by cases h))⟩
  rw [List.append_nil]
  exact List.forall_mem_cons.mpr ⟨⟨show (20 : Nat) < 100 from by decide, nf0⟩, (fun _ h => (by cases h))⟩
def o_Mo_word_at_s5038_7 : or_T := (54, 15, [(0, (2, 0, 0, [150])), (2, (2, 0, 0, [150])), (4, (0, 1, 1, [])), (5, (0, 0, 3, [])), (6, (0, 4, 4, [])), (7, (2, 0, 0, [261])), (8, (0, 0, 2009, [])), (9, (0, 0, 1999, [])), (10, (0, 0, 1999, [])), (11, (0, 0, 255, [])), (12, (0, 0, 65535, [])), (13, (0, 0, 0, [])), (14, (0, 1, 4, []))], [(6, [14, 5], [1]), (7, [11, 12], [1]), (20, [10, 2, 11], [50, 1, 1, 1010, 1001, 4, 11, 0, 6, 4, 2, 1, 0, 0, 1, 2, 1, 10, 1, 2, 1, 2, 9, 5, 3, 1, 1, 1, 0, 0, 256]), (20, [2, 10, 11], [50, 1, 0, 10, 4, 7, 0, 3, 2, 0, 10, 1, 1, 1, 2, 1, 2, 0, -1]), (1, [10, 9, 5], []), (10, [9, 7, 8], []), (9, [8, 2], [158]), (9, [7, 2], [162]), (8, [4], [1]), (7, [5, 6], [2]), (20, [4, 2], [50, 1, 1, 1158, 1160, 4, 6, 1, 2, 1, 0, 0, 1, 1, 6, 3, 1, 160, 2, 1, 158, 0, 1]), (24, [0, 2], [])], [], [], [(20, [13, 2], [50, 1, 1, 1158, 1160, 4, 6, 1, 2, 1, 0, 0, 1, 1, 6, 3, 1, 160, 2, 1, 158, 0, 1])], [], [(14, 5, 1, 1), (10, 5, 0, 2000), (10, 9, 0, 3), (4, 5, -4294967296, 1)])
theorem oo_Mo_word_at_s5038_7 {kA : Nat → ClassId} : or_ok kA GG o_Mo_word_at_s5038_7 := by
  intro A ta ws vs hD hth hl hk hds hf
  have hl : vs.length = 15 := hl
  have hk : ∀ q ∈ ([(0, (2, 0, 0, [150])), (2, (2, 0, 0, [150])), (4, (0, 1, 1, [])), (5, (0, 0, 3, [])), (6, (0, 4, 4, [])), (7, (2, 0, 0, [261])), (8, (0, 0, 2009, [])), (9, (0, 0, 1999, [])), (10, (0, 0, 1999, [])), (11, (0, 0, 255, [])), (12, (0, 0, 65535, [])), (13, (0, 0, 0, [])), (14, (0, 1, 4, []))] : List (Nat × tv_T)), tv_ok ta q.2 (n_v vs q.1) := hk
  obtain ⟨t0, hk⟩ := List.forall_mem_cons.mp hk
  have t0 : tv_ok ta (2, 0, 0, [150]) (n_v vs 0) := t0
  have r0 : ta (v_ad (n_v vs 0)) = some 150 := tv_rg t0
  obtain ⟨t2, hk⟩ := List.forall_mem_cons.mp hk
  have t2 : tv_ok ta (2, 0, 0, [150]) (n_v vs 2) := t2
  have r2 : ta (v_ad (n_v vs 2)) = some 150 := tv_rg t2
  obtain ⟨t4, hk⟩ := List.forall_mem_cons.mp hk
  have t4 : tv_ok ta (0, 1, 1, []) (n_v vs 4) := t4
  have k4 : 1 ≤ v_iv (n_v vs 4) ∧ v_iv (n_v vs 4) ≤ 1 := tv_rng t4
  obtain ⟨t5, hk⟩ := List.forall_mem_cons.mp hk
  have t5 : tv_ok ta (0, 0, 3, []) (n_v vs 5) := t5
  have k5 : 0 ≤ v_iv (n_v vs 5) ∧ v_iv (n_v vs 5) ≤ 3 := tv_rng t5
  obtain ⟨t6, hk⟩ := List.forall_mem_cons.mp hk
  have t6 : tv_ok ta (0, 4, 4, []) (n_v vs 6) := t6
  have k6 : 4 ≤ v_iv (n_v vs 6) ∧ v_iv (n_v vs 6) ≤ 4 := tv_rng t6
  obtain ⟨t7, hk⟩ := List.forall_mem_cons.mp hk
  have t7 : tv_ok ta (2, 0, 0, [261]) (n_v vs 7) := t7
  have r7 : ta (v_ad (n_v vs 7)) = some 261 := tv_rg t7
  obtain ⟨t8, hk⟩ := List.forall_mem_cons.mp hk
  have t8 : tv_ok ta (0, 0, 2009, []) (n_v vs 8) := t8
  have k8 : 0 ≤ v_iv (n_v vs 8) ∧ v_iv (n_v vs 8) ≤ 2009 := tv_rng t8
  obtain ⟨t9, hk⟩ := List.forall_mem_cons.mp hk
  have t9 : tv_ok ta (0, 0, 1999, []) (n_v vs 9) := t9
  have k9 : 0 ≤ v_iv (n_v vs 9) ∧ v_iv (n_v vs 9) ≤ 1999 := tv_rng t9
  obtain ⟨t10, hk⟩ := List.forall_mem_cons.mp hk
  have t10 : tv_ok ta (0, 0, 1999, []) (n_v vs 10) := t10
  have k10 : 0 ≤ v_iv (n_v vs 10) ∧ v_iv (n_v vs 10) ≤ 1999 := tv_rng t10
  obtain ⟨t11, hk⟩ := List.forall_mem_cons.mp hk
  have t11 : tv_ok ta (0, 0, 255, []) (n_v vs 11) := t11
  have k11 : 0 ≤ v_iv (n_v vs 11) ∧ v_iv (n_v vs 11) ≤ 255 := tv_rng t11
  obtain ⟨t12, hk⟩ := List.forall_mem_cons.mp hk
  have t12 : tv_ok ta (0, 0, 65535, []) (n_v vs 12) := t12
  have k12 : 0 ≤ v_iv (n_v vs 12) ∧ v_iv (n_v vs 12) ≤ 65535 := tv_rng t12
  obtain ⟨t13, hk⟩ := List.forall_mem_cons.mp hk
  have t13 : tv_ok ta (0, 0, 0, []) (n_v vs 13) := t13
  have k13 : 0 ≤ v_iv (n_v vs 13) ∧ v_iv (n_v vs 13) ≤ 0 := tv_rng t13
  obtain ⟨t14, hk⟩ := List.forall_mem_cons.mp hk
  have t14 : tv_ok ta (0, 1, 4, []) (n_v vs 14) := t14
  have k14 : 1 ≤ v_iv (n_v vs 14) ∧ v_iv (n_v vs 14) ≤ 4 := tv_rng t14
  have hds : ∀ q ∈ ([(14, 5, 1, 1), (10, 5, 0, 2000), (10, 9, 0, 3), (4, 5, -4294967296, 1)] : List of_T), n_iv vs q.2.1 + q.2.2.1 ≤ n_iv vs q.1 ∧ n_iv vs q.1 ≤ n_iv vs q.2.1 + q.2.2.2 := hds
  obtain ⟨d0, hds⟩ := List.forall_mem_cons.mp hds
  have d0 : v_iv (n_v vs 5) + 1 ≤ v_iv (n_v vs 14) ∧ v_iv (n_v vs 14) ≤ v_iv (n_v vs 5) + 1 := d0
  obtain ⟨d1, hds⟩ := List.forall_mem_cons.mp hds
  have d1 : v_iv (n_v vs 5) + 0 ≤ v_iv (n_v vs 10) ∧ v_iv (n_v vs 10) ≤ v_iv (n_v vs 5) + 2000 := d1
  obtain ⟨d2, hds⟩ := List.forall_mem_cons.mp hds
  have d2 : v_iv (n_v vs 9) + 0 ≤ v_iv (n_v vs 10) ∧ v_iv (n_v vs 10) ≤ v_iv (n_v vs 9) + 3 := d2
  obtain ⟨d3, hds⟩ := List.forall_mem_cons.mp hds
  have d3 : v_iv (n_v vs 5) + (-4294967296) ≤ v_iv (n_v vs 4) ∧ v_iv (n_v vs 4) ≤ v_iv (n_v vs 5) + 1 := d3
  have hf : fc_ok [(6, [14, 5], [1]), (7, [11, 12], [1]), (20, [10, 2, 11], [50, 1, 1, 1010, 1001, 4, 11, 0, 6, 4, 2, 1, 0, 0, 1, 2, 1, 10, 1, 2, 1, 2, 9, 5, 3, 1, 1, 1, 0, 0, 256]), (20, [2, 10, 11], [50, 1, 0, 10, 4, 7, 0, 3, 2, 0, 10, 1, 1, 1, 2, 1, 2, 0, -1]), (1, [10, 9, 5], []), (10, [9, 7, 8], []), (9, [8, 2], [158]), (9, [7, 2], [162]), (8, [4], [1]), (7, [5, 6], [2]), (20, [4, 2], [50, 1, 1, 1158, 1160, 4, 6, 1, 2, 1, 0, 0, 1, 1, 6, 3, 1, 160, 2, 1, 158, 0, 1]), (24, [0, 2], [])] ta ws vs := hf
  obtain ⟨f0, hf⟩ := fc_un (show (6 : Nat) < 100 from by decide) hf
  have f0 : v_iv (n_v vs 14) = v_iv (n_v vs 5) + 1 := f0
  obtain ⟨f1, hf⟩ := fc_un (show (7 : Nat) < 100 from by decide) hf
  have f1 : v_iv (n_v vs 11) ≠ v_iv (n_v vs 12) := f1
  obtain ⟨f2, hf⟩ := fc_un (show (20 : Nat) < 100 from by decide) hf
  have f2 : ((v_iv (n_v vs 10) + 1) ≤ w_fi ws (n_v vs 2) 10) → (v_iv (n_v vs 11) = (w_ei ws (w_ar ws (n_v vs 2) 1) (v_iv (n_v vs 10)) % 256)) := f2
  obtain ⟨f3, hf⟩ := fc_un (show (20 : Nat) < 100 from by decide) hf
  have f3 : (w_fi ws (n_v vs 2) 10 ≤ v_iv (n_v vs 10)) → (v_iv (n_v vs 11) = (-1)) := f3
  obtain ⟨f4, hf⟩ := fc_un (show (1 : Nat) < 100 from by decide) hf
  have f4 : v_iv (n_v vs 10) = v_iv (n_v vs 9) + v_iv (n_v vs 5) := f4
  obtain ⟨f5, hf⟩ := fc_un (show (10 : Nat) < 100 from by decide) hf
  have f5 : v_iv (n_v vs 9) = w_el ws (v_ad (n_v vs 7)) (v_iv (n_v vs 8)).toNat := f5
  obtain ⟨f6, hf⟩ := fc_un (show (9 : Nat) < 100 from by decide) hf
  have f6 : n_v vs 8 = w_fd ws (v_ad (n_v vs 2)) 158 := f6
  obtain ⟨f7, hf⟩ := fc_un (show (9 : Nat) < 100 from by decide) hf
  have f7 : n_v vs 7 = w_fd ws (v_ad (n_v vs 2)) 162 := f7
  obtain ⟨f8, hf⟩ := fc_un (show (8 : Nat) < 100 from by decide) hf
  have f8 : v_iv (n_v vs 4) ≠ 0 := f8
  obtain ⟨f9, hf⟩ := fc_un (show (7 : Nat) < 100 from by decide) hf
  have f9 : v_iv (n_v vs 5) < v_iv (n_v vs 6) := f9
  obtain ⟨f10, hf⟩ := fc_un (show (20 : Nat) < 100 from by decide) hf
  have f10 : (v_iv (n_v vs 4) = 1) → (w_ei ws (w_ar ws (n_v vs 2) 160) (w_fi ws (n_v vs 2) 158) = 1) := f10
  obtain ⟨f11, hf⟩ := fc_un (show (24 : Nat) < 100 from by decide) hf
  have f11 : n_v vs 0 = n_v vs 2 := f11
  have q2 : n_v vs 2 = n_v vs 0 := f11.symm
  rw [q2] at f2
  rw [q2] at f3
  rw [q2] at f6
  rw [q2] at f7
  rw [q2] at f10
  have cr_0_1 : ta (w_ar ws (n_v vs 0) 1) = some 151 := tv_rg (th_fd hD hth r0 (g := GG_150) rfl (k := 1) (t := (2, 0, 0, [151])) rfl rfl)
  have cr_0_160 : ta (w_ar ws (n_v vs 0) 160) = some 259 := tv_rg (th_fd hD hth r0 (g := GG_150) rfl (k := 160) (t := (2, 0, 0, [259])) rfl rfl)
  have cr_0_162 : ta (w_ar ws (n_v vs 0) 162) = some 261 := tv_rg (th_fd hD hth r0 (g := GG_150) rfl (k := 162) (t := (2, 0, 0, [261])) rfl rfl)
  have ad_7 : v_ad (n_v vs 7) = w_ar ws (n_v vs 0) 162 := congrArg v_ad f7
  rw [ad_7] at f5
  have g6 : v_iv (n_v vs 8) = w_fi ws (n_v vs 0) 158 := congrArg v_iv f6
  have hK_0_1 : ∀ j : Int, 0 ≤ j → j < 2000 → (-128) ≤ w_ei ws (w_ar ws (n_v vs 0) 1) j ∧ w_ei ws (w_ar ws (n_v vs 0) 1) j ≤ 127 := fun j h0 h1 => th_el hD hth cr_0_1 (kd := 1) (n := 2000) (m := 2000) (lo := (-128)) (hi := 127) (rs := []) (L := []) rfl (by decide) (j := j.toNat) (by omega)
  have hK_0_160 : ∀ j : Int, 0 ≤ j → j < 2010 → 0 ≤ w_ei ws (w_ar ws (n_v vs 0) 160) j ∧ w_ei ws (w_ar ws (n_v vs 0) 160) j ≤ 4 := fun j h0 h1 => th_el hD hth cr_0_160 (kd := 0) (n := 2010) (m := 2010) (lo := 0) (hi := 4) (rs := []) (L := []) rfl (by decide) (j := j.toNat) (by omega)
  have kz_0_10 : 0 ≤ w_fi ws (n_v vs 0) 10 ∧ w_fi ws (n_v vs 0) 10 ≤ 2000 := tv_rng (th_fd hD hth r0 (g := GG_150) rfl (k := 10) (t := (0, 0, 2000, [])) rfl rfl)
  have kz_0_158 : 0 ≤ w_fi ws (n_v vs 0) 158 ∧ w_fi ws (n_v vs 0) 158 ≤ 2009 := tv_rng (th_fd hD hth r0 (g := GG_150) rfl (k := 158) (t := (0, 0, 2009, [])) rfl rfl)
  have nf0 : fc_1 (20, [13, 2], [50, 1, 1, 1158, 1160, 4, 6, 1, 2, 1, 0, 0, 1, 1, 6, 3, 1, 160, 2, 1, 158, 0, 1]) ws (vs) := by
    refine ⟨fun n hn => ?_, ?_⟩
    · have hn : n ∈ [13, 2] := hn
      rw [hl]
      simp only [List.mem_cons, List.not_mem_nil, or_false] at hn
      show n < 15; omega
    · show (v_iv (n_v vs 13) = 1) → (w_ei ws (w_ar ws (n_v vs 2) 160) (w_fi ws (n_v vs 2) 158) = 1)
      rw [q2]
      first | omega | grind
  refine ⟨(fun _ h => (by cases h)), [], trivial, ?_, (fun _ h => (by cases h))⟩
  rw [List.append_nil]
  exact List.forall_mem_cons.mpr ⟨⟨show (20 : Nat) < 100 from by decide, nf0⟩, (fun _ h => (by cases h))⟩
def o_Mo_word_at_s5038_8 : or_T := (54, 15, [(0, (2, 0, 0, [150])), (2, (2, 0, 0, [150])), (4, (0, 1, 1, [])), (5, (0, 0, 3, [])), (6, (0, 4, 4, [])), (7, (2, 0, 0, [261])), (8, (0, 0, 2009, [])), (9, (0, 0, 1999, [])), (10, (0, 0, 1999, [])), (11, (0, 0, 255, [])), (12, (0, 0, 255, [])), (13, (0, 1, 1, [])), (14, (0, 1, 4, []))], [(6, [14, 5], [1]), (7, [11, 12], [0]), (20, [10, 2, 11], [50, 1, 1, 1010, 1001, 4, 11, 0, 6, 4, 2, 1, 0, 0, 1, 2, 1, 10, 1, 2, 1, 2, 9, 5, 3, 1, 1, 1, 0, 0, 256]), (20, [2, 10, 11], [50, 1, 0, 10, 4, 7, 0, 3, 2, 0, 10, 1, 1, 1, 2, 1, 2, 0, -1]), (1, [10, 9, 5], []), (10, [9, 7, 8], []), (9, [8, 2], [158]), (9, [7, 2], [162]), (8, [4], [1]), (7, [5, 6], [2]), (20, [4, 2], [50, 1, 1, 1158, 1160, 4, 6, 1, 2, 1, 0, 0, 1, 1, 6, 3, 1, 160, 2, 1, 158, 0, 1]), (24, [0, 2], [])], [], [], [(20, [13, 2], [50, 1, 1, 1158, 1160, 4, 6, 1, 2, 1, 0, 0, 1, 1, 6, 3, 1, 160, 2, 1, 158, 0, 1])], [], [(14, 5, 1, 1), (11, 12, 0, 0), (10, 5, 0, 2000), (10, 9, 0, 3), (4, 5, -4294967296, 1)])
theorem oo_Mo_word_at_s5038_8 {kA : Nat → ClassId} : or_ok kA GG o_Mo_word_at_s5038_8 := by
  intro A ta ws vs hD hth hl hk hds hf
  have hl : vs.length = 15 := hl
  have hk : ∀ q ∈ ([(0, (2, 0, 0, [150])), (2, (2, 0, 0, [150])), (4, (0, 1, 1, [])), (5, (0, 0, 3, [])), (6, (0, 4, 4, [])), (7, (2, 0, 0, [261])), (8, (0, 0, 2009, [])), (9, (0, 0, 1999, [])), (10, (0, 0, 1999, [])), (11, (0, 0, 255, [])), (12, (0, 0, 255, [])), (13, (0, 1, 1, [])), (14, (0, 1, 4, []))] : List (Nat × tv_T)), tv_ok ta q.2 (n_v vs q.1) := hk
  obtain ⟨t0, hk⟩ := List.forall_mem_cons.mp hk
  have t0 : tv_ok ta (2, 0, 0, [150]) (n_v vs 0) := t0
  have r0 : ta (v_ad (n_v vs 0)) = some 150 := tv_rg t0
  obtain ⟨t2, hk⟩ := List.forall_mem_cons.mp hk
  have t2 : tv_ok ta (2, 0, 0, [150]) (n_v vs 2) := t2
  have r2 : ta (v_ad (n_v vs 2)) = some 150 := tv_rg t2
  obtain ⟨t4, hk⟩ := List.forall_mem_cons.mp hk
  have t4 : tv_ok ta (0, 1, 1, []) (n_v vs 4) := t4
  have k4 : 1 ≤ v_iv (n_v vs 4) ∧ v_iv (n_v vs 4) ≤ 1 := tv_rng t4
  obtain ⟨t5, hk⟩ := List.forall_mem_cons.mp hk
  have t5 : tv_ok ta (0, 0, 3, []) (n_v vs 5) := t5
  have k5 : 0 ≤ v_iv (n_v vs 5) ∧ v_iv (n_v vs 5) ≤ 3 := tv_rng t5
  obtain ⟨t6, hk⟩ := List.forall_mem_cons.mp hk
  have t6 : tv_ok ta (0, 4, 4, []) (n_v vs 6) := t6
  have k6 : 4 ≤ v_iv (n_v vs 6) ∧ v_iv (n_v vs 6) ≤ 4 := tv_rng t6
  obtain ⟨t7, hk⟩ := List.forall_mem_cons.mp hk
  have t7 : tv_ok ta (2, 0, 0, [261]) (n_v vs 7) := t7
  have r7 : ta (v_ad (n_v vs 7)) = some 261 := tv_rg t7
  obtain ⟨t8, hk⟩ := List.forall_mem_cons.mp hk
  have t8 : tv_ok ta (0, 0, 2009, []) (n_v vs 8) := t8
  have k8 : 0 ≤ v_iv (n_v vs 8) ∧ v_iv (n_v vs 8) ≤ 2009 := tv_rng t8
  obtain ⟨t9, hk⟩ := List.forall_mem_cons.mp hk
  have t9 : tv_ok ta (0, 0, 1999, []) (n_v vs 9) := t9
  have k9 : 0 ≤ v_iv (n_v vs 9) ∧ v_iv (n_v vs 9) ≤ 1999 := tv_rng t9
  obtain ⟨t10, hk⟩ := List.forall_mem_cons.mp hk
  have t10 : tv_ok ta (0, 0, 1999, []) (n_v vs 10) := t10
  have k10 : 0 ≤ v_iv (n_v vs 10) ∧ v_iv (n_v vs 10) ≤ 1999 := tv_rng t10
  obtain ⟨t11, hk⟩ := List.forall_mem_cons.mp hk
  have t11 : tv_ok ta (0, 0, 255, []) (n_v vs 11) := t11
  have k11 : 0 ≤ v_iv (n_v vs 11) ∧ v_iv (n_v vs 11) ≤ 255 := tv_rng t11
  obtain ⟨t12, hk⟩ := List.forall_mem_cons.mp hk
  have t12 : tv_ok ta (0, 0, 255, []) (n_v vs 12) := t12
  have k12 : 0 ≤ v_iv (n_v vs 12) ∧ v_iv (n_v vs 12) ≤ 255 := tv_rng t12
  obtain ⟨t13, hk⟩ := List.forall_mem_cons.mp hk
  have t13 : tv_ok ta (0, 1, 1, []) (n_v vs 13) := t13
  have k13 : 1 ≤ v_iv (n_v vs 13) ∧ v_iv (n_v vs 13) ≤ 1 := tv_rng t13
  obtain ⟨t14, hk⟩ := List.forall_mem_cons.mp hk
  have t14 : tv_ok ta (0, 1, 4, []) (n_v vs 14) := t14
  have k14 : 1 ≤ v_iv (n_v vs 14) ∧ v_iv (n_v vs 14) ≤ 4 := tv_rng t14
  have hds : ∀ q ∈ ([(14, 5, 1, 1), (11, 12, 0, 0), (10, 5, 0, 2000), (10, 9, 0, 3), (4, 5, -4294967296, 1)] : List of_T), n_iv vs q.2.1 + q.2.2.1 ≤ n_iv vs q.1 ∧ n_iv vs q.1 ≤ n_iv vs q.2.1 + q.2.2.2 := hds
  obtain ⟨d0, hds⟩ := List.forall_mem_cons.mp hds
  have d0 : v_iv (n_v vs 5) + 1 ≤ v_iv (n_v vs 14) ∧ v_iv (n_v vs 14) ≤ v_iv (n_v vs 5) + 1 := d0
  obtain ⟨d1, hds⟩ := List.forall_mem_cons.mp hds
  have d1 : v_iv (n_v vs 12) + 0 ≤ v_iv (n_v vs 11) ∧ v_iv (n_v vs 11) ≤ v_iv (n_v vs 12) + 0 := d1
  obtain ⟨d2, hds⟩ := List.forall_mem_cons.mp hds
  have d2 : v_iv (n_v vs 5) + 0 ≤ v_iv (n_v vs 10) ∧ v_iv (n_v vs 10) ≤ v_iv (n_v vs 5) + 2000 := d2
  obtain ⟨d3, hds⟩ := List.forall_mem_cons.mp hds
  have d3 : v_iv (n_v vs 9) + 0 ≤ v_iv (n_v vs 10) ∧ v_iv (n_v vs 10) ≤ v_iv (n_v vs 9) + 3 := d3
  obtain ⟨d4, hds⟩ := List.forall_mem_cons.mp hds
  have d4 : v_iv (n_v vs 5) + (-4294967296) ≤ v_iv (n_v vs 4) ∧ v_iv (n_v vs 4) ≤ v_iv (n_v vs 5) + 1 := d4
  have hf : fc_ok [(6, [14, 5], [1]), (7, [11, 12], [0]), (20, [10, 2, 11], [50, 1, 1, 1010, 1001, 4, 11, 0, 6, 4, 2, 1, 0, 0, 1, 2, 1, 10, 1, 2, 1, 2, 9, 5, 3, 1, 1, 1, 0, 0, 256]), (20, [2, 10, 11], [50, 1, 0, 10, 4, 7, 0, 3, 2, 0, 10, 1, 1, 1, 2, 1, 2, 0, -1]), (1, [10, 9, 5], []), (10, [9, 7, 8], []), (9, [8, 2], [158]), (9, [7, 2], [162]), (8, [4], [1]), (7, [5, 6], [2]), (20, [4, 2], [50, 1, 1, 1158, 1160, 4, 6, 1, 2, 1, 0, 0, 1, 1, 6, 3, 1, 160, 2, 1, 158, 0, 1]), (24, [0, 2], [])] ta ws vs := hf
  obtain ⟨f0, hf⟩ := fc_un (show (6 : Nat) < 100 from by decide) hf
  have f0 : v_iv (n_v vs 14) = v_iv (n_v vs 5) + 1 := f0
  obtain ⟨f1, hf⟩ := fc_un (show (7 : Nat) < 100 from by decide) hf
  have f1 : v_iv (n_v vs 11) = v_iv (n_v vs 12) := f1
  obtain ⟨f2, hf⟩ := fc_un (show (20 : Nat) < 100 from by decide) hf
  have f2 : ((v_iv (n_v vs 10) + 1) ≤ w_fi ws (n_v vs 2) 10) → (v_iv (n_v vs 11) = (w_ei ws (w_ar ws (n_v vs 2) 1) (v_iv (n_v vs 10)) % 256)) := f2
  obtain ⟨f3, hf⟩ := fc_un (show (20 : Nat) < 100 from by decide) hf
  have f3 : (w_fi ws (n_v vs 2) 10 ≤ v_iv (n_v vs 10)) → (v_iv (n_v vs 11) = (-1)) := f3
  obtain ⟨f4, hf⟩ := fc_un (show (1 : Nat) < 100 from by decide) hf
  have f4 : v_iv (n_v vs 10) = v_iv (n_v vs 9) + v_iv (n_v vs 5) := f4
  obtain ⟨f5, hf⟩ := fc_un (show (10 : Nat) < 100 from by decide) hf
  have f5 : v_iv (n_v vs 9) = w_el ws (v_ad (n_v vs 7)) (v_iv (n_v vs 8)).toNat := f5
  obtain ⟨f6, hf⟩ := fc_un (show (9 : Nat) < 100 from by decide) hf
  have f6 : n_v vs 8 = w_fd ws (v_ad (n_v vs 2)) 158 := f6
  obtain ⟨f7, hf⟩ := fc_un (show (9 : Nat) < 100 from by decide) hf
  have f7 : n_v vs 7 = w_fd ws (v_ad (n_v vs 2)) 162 := f7
  obtain ⟨f8, hf⟩ := fc_un (show (8 : Nat) < 100 from by decide) hf
  have f8 : v_iv (n_v vs 4) ≠ 0 := f8
  obtain ⟨f9, hf⟩ := fc_un (show (7 : Nat) < 100 from by decide) hf
  have f9 : v_iv (n_v vs 5) < v_iv (n_v vs 6) := f9
  obtain ⟨f10, hf⟩ := fc_un (show (20 : Nat) < 100 from by decide) hf
  have f10 : (v_iv (n_v vs 4) = 1) → (w_ei ws (w_ar ws (n_v vs 2) 160) (w_fi ws (n_v vs 2) 158) = 1) := f10
  obtain ⟨f11, hf⟩ := fc_un (show (24 : Nat) < 100 from by decide) hf
  have f11 : n_v vs 0 = n_v vs 2 := f11
  have q2 : n_v vs 2 = n_v vs 0 := f11.symm
  rw [q2] at f2
  rw [q2] at f3
  rw [q2] at f6
  rw [q2] at f7
  rw [q2] at f10
  have cr_0_1 : ta (w_ar ws (n_v vs 0) 1) = some 151 := tv_rg (th_fd hD hth r0 (g := GG_150) rfl (k := 1) (t := (2, 0, 0, [151])) rfl rfl)
  have cr_0_160 : ta (w_ar ws (n_v vs 0) 160) = some 259 := tv_rg (th_fd hD hth r0 (g := GG_150) rfl (k := 160) (t := (2, 0, 0, [259])) rfl rfl)
  have cr_0_162 : ta (w_ar ws (n_v vs 0) 162) = some 261 := tv_rg (th_fd hD hth r0 (g := GG_150) rfl (k := 162) (t := (2, 0, 0, [261])) rfl rfl)
  have ad_7 : v_ad (n_v vs 7) = w_ar ws (n_v vs 0) 162 := congrArg v_ad f7
  rw [ad_7] at f5
  have g6 : v_iv (n_v vs 8) = w_fi ws (n_v vs 0) 158 := congrArg v_iv f6
  have hK_0_1 : ∀ j : Int, 0 ≤ j → j < 2000 → (-128) ≤ w_ei ws (w_ar ws (n_v vs 0) 1) j ∧ w_ei ws (w_ar ws (n_v vs 0) 1) j ≤ 127 := fun j h0 h1 => th_el hD hth cr_0_1 (kd := 1) (n := 2000) (m := 2000) (lo := (-128)) (hi := 127) (rs := []) (L := []) rfl (by decide) (j := j.toNat) (by omega)
  have hK_0_160 : ∀ j : Int, 0 ≤ j → j < 2010 → 0 ≤ w_ei ws (w_ar ws (n_v vs 0) 160) j ∧ w_ei ws (w_ar ws (n_v vs 0) 160) j ≤ 4 := fun j h0 h1 => th_el hD hth cr_0_160 (kd := 0) (n := 2010) (m := 2010) (lo := 0) (hi := 4) (rs := []) (L := []) rfl (by decide) (j := j.toNat) (by omega)
  have kz_0_10 : 0 ≤ w_fi ws (n_v vs 0) 10 ∧ w_fi ws (n_v vs 0) 10 ≤ 2000 := tv_rng (th_fd hD hth r0 (g := GG_150) rfl (k := 10) (t := (0, 0, 2000, [])) rfl rfl)
  have kz_0_158 : 0 ≤ w_fi ws (n_v vs 0) 158 ∧ w_fi ws (n_v vs 0) 158 ≤ 2009 := tv_rng (th_fd hD hth r0 (g := GG_150) rfl (k := 158) (t := (0, 0, 2009, [])) rfl rfl)
  have nf0 : fc_1 (20, [13, 2], [50, 1, 1, 1158, 1160, 4, 6, 1, 2, 1, 0, 0, 1, 1, 6, 3, 1, 160, 2, 1, 158, 0, 1]) ws (vs) := by
    refine ⟨fun n hn => ?_, ?_⟩
    · have hn : n ∈ [13, 2] := hn
      rw [hl]
      simp only [List.mem_cons, List.not_mem_nil, or_false] at hn
      show n < 15; omega
    · show (v_iv (n_v vs 13) = 1) → (w_ei ws (w_ar ws (n_v vs 2) 160) (w_fi ws (n_v vs 2) 158) = 1)
      rw [q2]
      first | omega | grind
  refine ⟨(fun _ h => (by cases h)), [], trivial, ?_, (fun _ h => (by cases h))⟩
  rw [List.append_nil]
  exact List.forall_mem_cons.mpr ⟨⟨show (20 : Nat) < 100 from by decide, nf0⟩, (fun _ h => (by cases h))⟩
def n_Mo_word_at_s5038_an : List an_T := [(54, [(0, (2, 0, 0, [150])), (1, (2, 0, 0, [5038])), (2, (0, 0, 1, [])), (3, (0, 0, 4, []))], [], (0, 0), [(0, 0, 99946), (1, 5, 4), (0, 0, 100000)], [(4, 5, -1000000000000, 1)], [], [(2, 0, 0, [150]), (2, 0, 0, [5038])], 0, [], [(20, [4, 2], [50, 1, 1, 1158, 1160, 4, 6, 1, 2, 1, 0, 0, 1, 1, 6, 3, 1, 160, 2, 1, 158, 0, 1]), (24, [0, 2], [])])]
def t_Mo_word_at_s5038_ct : ct_L := [(1, 425, e_Mo_byteAt), (124, 448, e_jStr_length_v305), (172, 448, e_jStr_length_v305), (253, 453, e_jStr_charAt_v306)]
set_option maxRecDepth 100000 in
theorem c_Mo_word_at_s5038 {l : Launch} {D : va_G} {kA : Nat → ClassId} (h_Mo_byteAt : ct_ok l D kA GG y_Mo_byteAt z_Mo_byteAt e_Mo_byteAt) : ct_ok l D kA GG y_Mo_word_at_s5038 z_Mo_word_at_s5038 e_Mo_word_at_s5038 := chk_all_ok (FT := [(342, 13, 160), (348, 13, 162), (351, 13, 163), (413, 13, 8), (1169, 13, 158)]) (PT := []) (CT := t_Mo_word_at_s5038_ct) (KT := []) (NT := []) (AN := n_Mo_word_at_s5038_an) (OT := [o_Mo_word_at_s5038_0, o_Mo_word_at_s5038_1, o_Mo_word_at_s5038_2, o_Mo_word_at_s5038_3, o_Mo_word_at_s5038_4, o_Mo_word_at_s5038_5, o_Mo_word_at_s5038_6, o_Mo_word_at_s5038_7, o_Mo_word_at_s5038_8]) 3 324 (List.forall_mem_cons.mpr ⟨oo_Mo_word_at_s5038_0, List.forall_mem_cons.mpr ⟨oo_Mo_word_at_s5038_1, List.forall_mem_cons.mpr ⟨oo_Mo_word_at_s5038_2, List.forall_mem_cons.mpr ⟨oo_Mo_word_at_s5038_3, List.forall_mem_cons.mpr ⟨oo_Mo_word_at_s5038_4, List.forall_mem_cons.mpr ⟨oo_Mo_word_at_s5038_5, List.forall_mem_cons.mpr ⟨oo_Mo_word_at_s5038_6, List.forall_mem_cons.mpr ⟨oo_Mo_word_at_s5038_7, List.forall_mem_cons.mpr ⟨oo_Mo_word_at_s5038_8, List.forall_mem_nil _⟩⟩⟩⟩⟩⟩⟩⟩⟩) (by decide +kernel) ⟨List.forall_mem_cons.mpr ⟨gf_Mo_342, List.forall_mem_cons.mpr ⟨gf_Mo_348, List.forall_mem_cons.mpr ⟨gf_Mo_351, List.forall_mem_cons.mpr ⟨gf_Mo_413, List.forall_mem_cons.mpr ⟨gf_Mo_1169, List.forall_mem_nil _⟩⟩⟩⟩⟩, List.forall_mem_nil _, List.forall_mem_cons.mpr ⟨cl_virtual (y := y_Mo_byteAt) (ci := 13) rfl rfl ⟨_, _, rfl⟩ (by decide +kernel) h_Mo_byteAt wm_2986 wm_9 wm_2983 wm_2985 wv_12_12 ⟨by decide, by decide, by decide +kernel⟩ (by decide), List.forall_mem_cons.mpr ⟨cl_string (y := y_jStr_length) (i := 38) rfl rfl (by decide +kernel) rfl c_jStr_length_v305 wm_674 wm_11 wm_3003 wm_672 wm_673 ⟨by decide, by decide, by decide +kernel⟩ (by decide), List.forall_mem_cons.mpr ⟨cl_string (y := y_jStr_length) (i := 38) rfl rfl (by decide +kernel) rfl c_jStr_length_v305 wm_674 wm_11 wm_3003 wm_672 wm_673 ⟨by decide, by decide, by decide +kernel⟩ (by decide), List.forall_mem_cons.mpr ⟨cl_string (y := y_jStr_charAt) (i := 38) rfl rfl (by decide +kernel) rfl c_jStr_charAt_v306 wm_684 wm_11 wm_3004 wm_682 wm_683 ⟨by decide, by decide, by decide +kernel⟩ (by decide), List.forall_mem_nil _⟩⟩⟩⟩, List.forall_mem_nil _, List.forall_mem_nil _, GG_pl⟩ (by decide +kernel)
def o_Mo_word_at_s5039_0 : or_T := (54, 5, [(0, (2, 0, 0, [150])), (3, (0, 0, 0, []))], [], [], [], [(20, [3, 0], [50, 1, 1, 1158, 1160, 4, 6, 1, 2, 1, 0, 0, 1, 1, 6, 3, 1, 160, 2, 1, 158, 0, 1]), (24, [0, 0], [])], [], [])
theorem oo_Mo_word_at_s5039_0 {kA : Nat → ClassId} : or_ok kA GG o_Mo_word_at_s5039_0 := by
  intro A ta ws vs hD hth hl hk hds hf
  have hl : vs.length = 5 := hl
  have hk : ∀ q ∈ ([(0, (2, 0, 0, [150])), (3, (0, 0, 0, []))] : List (Nat × tv_T)), tv_ok ta q.2 (n_v vs q.1) := hk
  obtain ⟨t0, hk⟩ := List.forall_mem_cons.mp hk
  have t0 : tv_ok ta (2, 0, 0, [150]) (n_v vs 0) := t0
  have r0 : ta (v_ad (n_v vs 0)) = some 150 := tv_rg t0
  obtain ⟨t3, hk⟩ := List.forall_mem_cons.mp hk
  have t3 : tv_ok ta (0, 0, 0, []) (n_v vs 3) := t3
  have k3 : 0 ≤ v_iv (n_v vs 3) ∧ v_iv (n_v vs 3) ≤ 0 := tv_rng t3
  have cr_0_160 : ta (w_ar ws (n_v vs 0) 160) = some 259 := tv_rg (th_fd hD hth r0 (g := GG_150) rfl (k := 160) (t := (2, 0, 0, [259])) rfl rfl)
  have hK_0_160 : ∀ j : Int, 0 ≤ j → j < 2010 → 0 ≤ w_ei ws (w_ar ws (n_v vs 0) 160) j ∧ w_ei ws (w_ar ws (n_v vs 0) 160) j ≤ 4 := fun j h0 h1 => th_el hD hth cr_0_160 (kd := 0) (n := 2010) (m := 2010) (lo := 0) (hi := 4) (rs := []) (L := []) rfl (by decide) (j := j.toNat) (by omega)
  have kz_0_158 : 0 ≤ w_fi ws (n_v vs 0) 158 ∧ w_fi ws (n_v vs 0) 158 ≤ 2009 := tv_rng (th_fd hD hth r0 (g := GG_150) rfl (k := 158) (t := (0, 0, 2009, [])) rfl rfl)
  have nf0 : fc_1 (20, [3, 0], [50, 1, 1, 1158, 1160, 4, 6, 1, 2, 1, 0, 0, 1, 1, 6, 3, 1, 160, 2, 1, 158, 0, 1]) ws (vs) := by
    refine ⟨fun n hn => ?_, ?_⟩
    · have hn : n ∈ [3, 0] := hn
      rw [hl]
      simp only [List.mem_cons, List.not_mem_nil, or_false] at hn
      show n < 5; omega
    · show (v_iv (n_v vs 3) = 1) → (w_ei ws (w_ar ws (n_v vs 0) 160) (w_fi ws (n_v vs 0) 158) = 1)
      first | omega | grind
  have nf1 : fc_1 (24, [0, 0], []) ws (vs) := by
    refine ⟨fun n hn => ?_, ?_⟩
    · have hn : n ∈ [0, 0] := hn
      rw [hl]
      simp only [List.mem_cons, List.not_mem_nil, or_false] at hn
      show n < 5; omega
    · show n_v vs 0 = n_v vs 0
      first | rfl | simp only [true_and]
  refine ⟨(fun _ h => (by cases h)), [], trivial, ?_, (fun _ h => (by cases h))⟩
  rw [List.append_nil]
  exact List.forall_mem_cons.mpr ⟨⟨show (20 : Nat) < 100 from by decide, nf0⟩, List.forall_mem_cons.mpr ⟨⟨show (24 : Nat) < 100 from by decide, nf1⟩, (fun _ h => (by cases h))⟩⟩
def o_Mo_word_at_s5039_1 : or_T := (54, 9, [(0, (2, 0, 0, [150])), (3, (2, 0, 0, [259])), (4, (0, 0, 2009, [])), (5, (0, 0, 4, [])), (6, (0, 1, 1, [])), (7, (0, 0, 0, []))], [(7, [5, 6], [1]), (10, [5, 3, 4], []), (9, [4, 0], [158]), (9, [3, 0], [160])], [], [], [(20, [7, 0], [50, 1, 1, 1158, 1160, 4, 6, 1, 2, 1, 0, 0, 1, 1, 6, 3, 1, 160, 2, 1, 158, 0, 1]), (24, [0, 0], [])], [], [])
theorem oo_Mo_word_at_s5039_1 {kA : Nat → ClassId} : or_ok kA GG o_Mo_word_at_s5039_1 := by
  intro A ta ws vs hD hth hl hk hds hf
  have hl : vs.length = 9 := hl
  have hk : ∀ q ∈ ([(0, (2, 0, 0, [150])), (3, (2, 0, 0, [259])), (4, (0, 0, 2009, [])), (5, (0, 0, 4, [])), (6, (0, 1, 1, [])), (7, (0, 0, 0, []))] : List (Nat × tv_T)), tv_ok ta q.2 (n_v vs q.1) := hk
  obtain ⟨t0, hk⟩ := List.forall_mem_cons.mp hk
  have t0 : tv_ok ta (2, 0, 0, [150]) (n_v vs 0) := t0
  have r0 : ta (v_ad (n_v vs 0)) = some 150 := tv_rg t0
  obtain ⟨t3, hk⟩ := List.forall_mem_cons.mp hk
  have t3 : tv_ok ta (2, 0, 0, [259]) (n_v vs 3) := t3
  have r3 : ta (v_ad (n_v vs 3)) = some 259 := tv_rg t3
  obtain ⟨t4, hk⟩ := List.forall_mem_cons.mp hk
  have t4 : tv_ok ta (0, 0, 2009, []) (n_v vs 4) := t4
  have k4 : 0 ≤ v_iv (n_v vs 4) ∧ v_iv (n_v vs 4) ≤ 2009 := tv_rng t4
  obtain ⟨t5, hk⟩ := List.forall_mem_cons.mp hk
  have t5 : tv_ok ta (0, 0, 4, []) (n_v vs 5) := t5
  have k5 : 0 ≤ v_iv (n_v vs 5) ∧ v_iv (n_v vs 5) ≤ 4 := tv_rng t5
  obtain ⟨t6, hk⟩ := List.forall_mem_cons.mp hk
  have t6 : tv_ok ta (0, 1, 1, []) (n_v vs 6) := t6
  have k6 : 1 ≤ v_iv (n_v vs 6) ∧ v_iv (n_v vs 6) ≤ 1 := tv_rng t6
  obtain ⟨t7, hk⟩ := List.forall_mem_cons.mp hk
  have t7 : tv_ok ta (0, 0, 0, []) (n_v vs 7) := t7
  have k7 : 0 ≤ v_iv (n_v vs 7) ∧ v_iv (n_v vs 7) ≤ 0 := tv_rng t7
  have hf : fc_ok [(7, [5, 6], [1]), (10, [5, 3, 4], []), (9, [4, 0], [158]), (9, [3, 0], [160])] ta ws vs := hf
  obtain ⟨f0, hf⟩ := fc_un (show (7 : Nat) < 100 from by decide) hf
  have f0 : v_iv (n_v vs 5) ≠ v_iv (n_v vs 6) := f0
  obtain ⟨f1, hf⟩ := fc_un (show (10 : Nat) < 100 from by decide) hf
  have f1 : v_iv (n_v vs 5) = w_el ws (v_ad (n_v vs 3)) (v_iv (n_v vs 4)).toNat := f1
  obtain ⟨f2, hf⟩ := fc_un (show (9 : Nat) < 100 from by decide) hf
  have f2 : n_v vs 4 = w_fd ws (v_ad (n_v vs 0)) 158 := f2
  obtain ⟨f3, hf⟩ := fc_un (show (9 : Nat) < 100 from by decide) hf
  have f3 : n_v vs 3 = w_fd ws (v_ad (n_v vs 0)) 160 := f3
  have cr_0_160 : ta (w_ar ws (n_v vs 0) 160) = some 259 := tv_rg (th_fd hD hth r0 (g := GG_150) rfl (k := 160) (t := (2, 0, 0, [259])) rfl rfl)
  have ad_3 : v_ad (n_v vs 3) = w_ar ws (n_v vs 0) 160 := congrArg v_ad f3
  rw [ad_3] at f1
  have h1 : v_iv (n_v vs 5) = w_ei ws (w_ar ws (n_v vs 0) 160) (v_iv (n_v vs 4)) := f1
  have g2 : v_iv (n_v vs 4) = w_fi ws (n_v vs 0) 158 := congrArg v_iv f2
  have br_0_160_4_0 : w_ei ws (w_ar ws (n_v vs 0) 160) (v_iv (n_v vs 4)) = w_el ws (w_ar ws (n_v vs 0) 160) (v_iv (n_v vs 4)).toNat := rfl
  have hK_0_160 : ∀ j : Int, 0 ≤ j → j < 2010 → 0 ≤ w_ei ws (w_ar ws (n_v vs 0) 160) j ∧ w_ei ws (w_ar ws (n_v vs 0) 160) j ≤ 4 := fun j h0 h1 => th_el hD hth cr_0_160 (kd := 0) (n := 2010) (m := 2010) (lo := 0) (hi := 4) (rs := []) (L := []) rfl (by decide) (j := j.toNat) (by omega)
  have kz_0_158 : 0 ≤ w_fi ws (n_v vs 0) 158 ∧ w_fi ws (n_v vs 0) 158 ≤ 2009 := tv_rng (th_fd hD hth r0 (g := GG_150) rfl (k := 158) (t := (0, 0, 2009, [])) rfl rfl)
  have nf0 : fc_1 (20, [7, 0], [50, 1, 1, 1158, 1160, 4, 6, 1, 2, 1, 0, 0, 1, 1, 6, 3, 1, 160, 2, 1, 158, 0, 1]) ws (vs) := by
    refine ⟨fun n hn => ?_, ?_⟩
    · have hn : n ∈ [7, 0] := hn
      rw [hl]
      simp only [List.mem_cons, List.not_mem_nil, or_false] at hn
      show n < 9; omega
    · show (v_iv (n_v vs 7) = 1) → (w_ei ws (w_ar ws (n_v vs 0) 160) (w_fi ws (n_v vs 0) 158) = 1)
      first | omega | grind
  have nf1 : fc_1 (24, [0, 0], []) ws (vs) := by
    refine ⟨fun n hn => ?_, ?_⟩
    · have hn : n ∈ [0, 0] := hn
      rw [hl]
      simp only [List.mem_cons, List.not_mem_nil, or_false] at hn
      show n < 9; omega
    · show n_v vs 0 = n_v vs 0
      first | rfl | simp only [true_and]
  refine ⟨(fun _ h => (by cases h)), [], trivial, ?_, (fun _ h => (by cases h))⟩
  rw [List.append_nil]
  exact List.forall_mem_cons.mpr ⟨⟨show (20 : Nat) < 100 from by decide, nf0⟩, List.forall_mem_cons.mpr ⟨⟨show (24 : Nat) < 100 from by decide, nf1⟩, (fun _ h => (by cases h))⟩⟩
def o_Mo_word_at_s5039_2 : or_T := (54, 15, [(0, (2, 0, 0, [150])), (3, (2, 0, 0, [259])), (4, (0, 0, 2009, [])), (5, (0, 1, 1, [])), (6, (0, 1, 1, [])), (13, (0, 0, 0, []))], [(9, [4, 0], [158]), (7, [5, 6], [0]), (10, [5, 3, 4], []), (9, [3, 0], [160])], [], [], [(20, [13, 0], [50, 1, 1, 1158, 1160, 4, 6, 1, 2, 1, 0, 0, 1, 1, 6, 3, 1, 160, 2, 1, 158, 0, 1]), (24, [0, 0], [])], [], [])
theorem oo_Mo_word_at_s5039_2 {kA : Nat → ClassId} : or_ok kA GG o_Mo_word_at_s5039_2 := by
  intro A ta ws vs hD hth hl hk hds hf
  have hl : vs.length = 15 := hl
  have hk : ∀ q ∈ ([(0, (2, 0, 0, [150])), (3, (2, 0, 0, [259])), (4, (0, 0, 2009, [])), (5, (0, 1, 1, [])), (6, (0, 1, 1, [])), (13, (0, 0, 0, []))] : List (Nat × tv_T)), tv_ok ta q.2 (n_v vs q.1) := hk
  obtain ⟨t0, hk⟩ := List.forall_mem_cons.mp hk
  have t0 : tv_ok ta (2, 0, 0, [150]) (n_v vs 0) := t0
  have r0 : ta (v_ad (n_v vs 0)) = some 150 := tv_rg t0
  obtain ⟨t3, hk⟩ := List.forall_mem_cons.mp hk
  have t3 : tv_ok ta (2, 0, 0, [259]) (n_v vs 3) := t3
  have r3 : ta (v_ad (n_v vs 3)) = some 259 := tv_rg t3
  obtain ⟨t4, hk⟩ := List.forall_mem_cons.mp hk
  have t4 : tv_ok ta (0, 0, 2009, []) (n_v vs 4) := t4
  have k4 : 0 ≤ v_iv (n_v vs 4) ∧ v_iv (n_v vs 4) ≤ 2009 := tv_rng t4
  obtain ⟨t5, hk⟩ := List.forall_mem_cons.mp hk
  have t5 : tv_ok ta (0, 1, 1, []) (n_v vs 5) := t5
  have k5 : 1 ≤ v_iv (n_v vs 5) ∧ v_iv (n_v vs 5) ≤ 1 := tv_rng t5
  obtain ⟨t6, hk⟩ := List.forall_mem_cons.mp hk
  have t6 : tv_ok ta (0, 1, 1, []) (n_v vs 6) := t6
  have k6 : 1 ≤ v_iv (n_v vs 6) ∧ v_iv (n_v vs 6) ≤ 1 := tv_rng t6
  obtain ⟨t13, hk⟩ := List.forall_mem_cons.mp hk
  have t13 : tv_ok ta (0, 0, 0, []) (n_v vs 13) := t13
  have k13 : 0 ≤ v_iv (n_v vs 13) ∧ v_iv (n_v vs 13) ≤ 0 := tv_rng t13
  have hf : fc_ok [(9, [4, 0], [158]), (7, [5, 6], [0]), (10, [5, 3, 4], []), (9, [3, 0], [160])] ta ws vs := hf
  obtain ⟨f0, hf⟩ := fc_un (show (9 : Nat) < 100 from by decide) hf
  have f0 : n_v vs 4 = w_fd ws (v_ad (n_v vs 0)) 158 := f0
  obtain ⟨f1, hf⟩ := fc_un (show (7 : Nat) < 100 from by decide) hf
  have f1 : v_iv (n_v vs 5) = v_iv (n_v vs 6) := f1
  obtain ⟨f2, hf⟩ := fc_un (show (10 : Nat) < 100 from by decide) hf
  have f2 : v_iv (n_v vs 5) = w_el ws (v_ad (n_v vs 3)) (v_iv (n_v vs 4)).toNat := f2
  obtain ⟨f3, hf⟩ := fc_un (show (9 : Nat) < 100 from by decide) hf
  have f3 : n_v vs 3 = w_fd ws (v_ad (n_v vs 0)) 160 := f3
  have cr_0_160 : ta (w_ar ws (n_v vs 0) 160) = some 259 := tv_rg (th_fd hD hth r0 (g := GG_150) rfl (k := 160) (t := (2, 0, 0, [259])) rfl rfl)
  have ad_3 : v_ad (n_v vs 3) = w_ar ws (n_v vs 0) 160 := congrArg v_ad f3
  have g0 : v_iv (n_v vs 4) = w_fi ws (n_v vs 0) 158 := congrArg v_iv f0
  rw [ad_3] at f2
  have h2 : v_iv (n_v vs 5) = w_ei ws (w_ar ws (n_v vs 0) 160) (v_iv (n_v vs 4)) := f2
  have br_0_160_4_0 : w_ei ws (w_ar ws (n_v vs 0) 160) (v_iv (n_v vs 4)) = w_el ws (w_ar ws (n_v vs 0) 160) (v_iv (n_v vs 4)).toNat := rfl
  have hK_0_160 : ∀ j : Int, 0 ≤ j → j < 2010 → 0 ≤ w_ei ws (w_ar ws (n_v vs 0) 160) j ∧ w_ei ws (w_ar ws (n_v vs 0) 160) j ≤ 4 := fun j h0 h1 => th_el hD hth cr_0_160 (kd := 0) (n := 2010) (m := 2010) (lo := 0) (hi := 4) (rs := []) (L := []) rfl (by decide) (j := j.toNat) (by omega)
  have kz_0_158 : 0 ≤ w_fi ws (n_v vs 0) 158 ∧ w_fi ws (n_v vs 0) 158 ≤ 2009 := tv_rng (th_fd hD hth r0 (g := GG_150) rfl (k := 158) (t := (0, 0, 2009, [])) rfl rfl)
  have nf0 : fc_1 (20, [13, 0], [50, 1, 1, 1158, 1160, 4, 6, 1, 2, 1, 0, 0, 1, 1, 6, 3, 1, 160, 2, 1, 158, 0, 1]) ws (vs) := by
    refine ⟨fun n hn => ?_, ?_⟩
    · have hn : n ∈ [13, 0] := hn
      rw [hl]
      simp only [List.mem_cons, List.not_mem_nil, or_false] at hn
      show n < 15; omega
    · show (v_iv (n_v vs 13) = 1) → (w_ei ws (w_ar ws (n_v vs 0) 160) (w_fi ws (n_v vs 0) 158) = 1)
      first | omega | grind
  have nf1 : fc_1 (24, [0, 0], []) ws (vs) := by
    refine ⟨fun n hn => ?_, ?_⟩
    · have hn : n ∈ [0, 0] := hn
      rw [hl]
      simp only [List.mem_cons, List.not_mem_nil, or_false] at hn
      show n < 15; omega
    · show n_v vs 0 = n_v vs 0
      first | rfl | simp only [true_and]
  refine ⟨(fun _ h => (by cases h)), [], trivial, ?_, (fun _ h => (by cases h))⟩
  rw [List.append_nil]
  exact List.forall_mem_cons.mpr ⟨⟨show (20 : Nat) < 100 from by decide, nf0⟩, List.forall_mem_cons.mpr ⟨⟨show (24 : Nat) < 100 from by decide, nf1⟩, (fun _ h => (by cases h))⟩⟩
def o_Mo_word_at_s5039_3 : or_T := (54, 15, [(0, (2, 0, 0, [150])), (3, (2, 0, 0, [259])), (4, (0, 0, 2009, [])), (5, (0, 1, 1, [])), (6, (0, 1, 1, [])), (13, (0, 1, 1, []))], [(9, [4, 0], [158]), (7, [5, 6], [0]), (10, [5, 3, 4], []), (9, [3, 0], [160])], [], [], [(20, [13, 0], [50, 1, 1, 1158, 1160, 4, 6, 1, 2, 1, 0, 0, 1, 1, 6, 3, 1, 160, 2, 1, 158, 0, 1]), (24, [0, 0], [])], [], [])
theorem oo_Mo_word_at_s5039_3 {kA : Nat → ClassId} : or_ok kA GG o_Mo_word_at_s5039_3 := by
  intro A ta ws vs hD hth hl hk hds hf
  have hl : vs.length = 15 := hl
  have hk : ∀ q ∈ ([(0, (2, 0, 0, [150])), (3, (2, 0, 0, [259])), (4, (0, 0, 2009, [])), (5, (0, 1, 1, [])), (6, (0, 1, 1, [])), (13, (0, 1, 1, []))] : List (Nat × tv_T)), tv_ok ta q.2 (n_v vs q.1) := hk
  obtain ⟨t0, hk⟩ := List.forall_mem_cons.mp hk
  have t0 : tv_ok ta (2, 0, 0, [150]) (n_v vs 0) := t0
  have r0 : ta (v_ad (n_v vs 0)) = some 150 := tv_rg t0
  obtain ⟨t3, hk⟩ := List.forall_mem_cons.mp hk
  have t3 : tv_ok ta (2, 0, 0, [259]) (n_v vs 3) := t3
  have r3 : ta (v_ad (n_v vs 3)) = some 259 := tv_rg t3
  obtain ⟨t4, hk⟩ := List.forall_mem_cons.mp hk
  have t4 : tv_ok ta (0, 0, 2009, []) (n_v vs 4) := t4
  have k4 : 0 ≤ v_iv (n_v vs 4) ∧ v_iv (n_v vs 4) ≤ 2009 := tv_rng t4
  obtain ⟨t5, hk⟩ := List.forall_mem_cons.mp hk
  have t5 : tv_ok ta (0, 1, 1, []) (n_v vs 5) := t5
  have k5 : 1 ≤ v_iv (n_v vs 5) ∧ v_iv (n_v vs 5) ≤ 1 := tv_rng t5
  obtain ⟨t6, hk⟩ := List.forall_mem_cons.mp hk
  have t6 : tv_ok ta (0, 1, 1, []) (n_v vs 6) := t6
  have k6 : 1 ≤ v_iv (n_v vs 6) ∧ v_iv (n_v vs 6) ≤ 1 := tv_rng t6
  obtain ⟨t13, hk⟩ := List.forall_mem_cons.mp hk
  have t13 : tv_ok ta (0, 1, 1, []) (n_v vs 13) := t13
  have k13 : 1 ≤ v_iv (n_v vs 13) ∧ v_iv (n_v vs 13) ≤ 1 := tv_rng t13
  have hf : fc_ok [(9, [4, 0], [158]), (7, [5, 6], [0]), (10, [5, 3, 4], []), (9, [3, 0], [160])] ta ws vs := hf
  obtain ⟨f0, hf⟩ := fc_un (show (9 : Nat) < 100 from by decide) hf
  have f0 : n_v vs 4 = w_fd ws (v_ad (n_v vs 0)) 158 := f0
  obtain ⟨f1, hf⟩ := fc_un (show (7 : Nat) < 100 from by decide) hf
  have f1 : v_iv (n_v vs 5) = v_iv (n_v vs 6) := f1
  obtain ⟨f2, hf⟩ := fc_un (show (10 : Nat) < 100 from by decide) hf
  have f2 : v_iv (n_v vs 5) = w_el ws (v_ad (n_v vs 3)) (v_iv (n_v vs 4)).toNat := f2
  obtain ⟨f3, hf⟩ := fc_un (show (9 : Nat) < 100 from by decide) hf
  have f3 : n_v vs 3 = w_fd ws (v_ad (n_v vs 0)) 160 := f3
  have cr_0_160 : ta (w_ar ws (n_v vs 0) 160) = some 259 := tv_rg (th_fd hD hth r0 (g := GG_150) rfl (k := 160) (t := (2, 0, 0, [259])) rfl rfl)
  have ad_3 : v_ad (n_v vs 3) = w_ar ws (n_v vs 0) 160 := congrArg v_ad f3
  have g0 : v_iv (n_v vs 4) = w_fi ws (n_v vs 0) 158 := congrArg v_iv f0
  rw [ad_3] at f2
  have h2 : v_iv (n_v vs 5) = w_ei ws (w_ar ws (n_v vs 0) 160) (v_iv (n_v vs 4)) := f2
  have br_0_160_4_0 : w_ei ws (w_ar ws (n_v vs 0) 160) (v_iv (n_v vs 4)) = w_el ws (w_ar ws (n_v vs 0) 160) (v_iv (n_v vs 4)).toNat := rfl
  have hK_0_160 : ∀ j : Int, 0 ≤ j → j < 2010 → 0 ≤ w_ei ws (w_ar ws (n_v vs 0) 160) j ∧ w_ei ws (w_ar ws (n_v vs 0) 160) j ≤ 4 := fun j h0 h1 => th_el hD hth cr_0_160 (kd := 0) (n := 2010) (m := 2010) (lo := 0) (hi := 4) (rs := []) (L := []) rfl (by decide) (j := j.toNat) (by omega)
  have kz_0_158 : 0 ≤ w_fi ws (n_v vs 0) 158 ∧ w_fi ws (n_v vs 0) 158 ≤ 2009 := tv_rng (th_fd hD hth r0 (g := GG_150) rfl (k := 158) (t := (0, 0, 2009, [])) rfl rfl)
  have nf0 : fc_1 (20, [13, 0], [50, 1, 1, 1158, 1160, 4, 6, 1, 2, 1, 0, 0, 1, 1, 6, 3, 1, 160, 2, 1, 158, 0, 1]) ws (vs) := by
    refine ⟨fun n hn => ?_, ?_⟩
    · have hn : n ∈ [13, 0] := hn
      rw [hl]
      simp only [List.mem_cons, List.not_mem_nil, or_false] at hn
      show n < 15; omega
    · show (v_iv (n_v vs 13) = 1) → (w_ei ws (w_ar ws (n_v vs 0) 160) (w_fi ws (n_v vs 0) 158) = 1)
      first | omega | grind
  have nf1 : fc_1 (24, [0, 0], []) ws (vs) := by
    refine ⟨fun n hn => ?_, ?_⟩
    · have hn : n ∈ [0, 0] := hn
      rw [hl]
      simp only [List.mem_cons, List.not_mem_nil, or_false] at hn
      show n < 15; omega
    · show n_v vs 0 = n_v vs 0
      first | rfl | simp only [true_and]
  refine ⟨(fun _ h => (by cases h)), [], trivial, ?_, (fun _ h => (by cases h))⟩
  rw [List.append_nil]
  exact List.forall_mem_cons.mpr ⟨⟨show (20 : Nat) < 100 from by decide, nf0⟩, List.forall_mem_cons.mpr ⟨⟨show (24 : Nat) < 100 from by decide, nf1⟩, (fun _ h => (by cases h))⟩⟩
def o_Mo_word_at_s5039_4 : or_T := (102, 7, [(0, (2, 0, 0, [150])), (2, (2, 0, 0, [150])), (4, (0, 0, 1, []))], [(20, [4, 2], [50, 1, 1, 1158, 1160, 4, 6, 1, 2, 1, 0, 0, 1, 1, 6, 3, 1, 160, 2, 1, 158, 0, 1]), (24, [0, 2], [])], [], [], [(20, [4, 0], [50, 1, 1, 1158, 1160, 4, 6, 1, 2, 1, 0, 0, 1, 1, 6, 3, 1, 160, 2, 1, 158, 0, 1])], [], [])
theorem oo_Mo_word_at_s5039_4 {kA : Nat → ClassId} : or_ok kA GG o_Mo_word_at_s5039_4 := by
  intro A ta ws vs hD hth hl hk hds hf
  have hl : vs.length = 7 := hl
  have hk : ∀ q ∈ ([(0, (2, 0, 0, [150])), (2, (2, 0, 0, [150])), (4, (0, 0, 1, []))] : List (Nat × tv_T)), tv_ok ta q.2 (n_v vs q.1) := hk
  obtain ⟨t0, hk⟩ := List.forall_mem_cons.mp hk
  have t0 : tv_ok ta (2, 0, 0, [150]) (n_v vs 0) := t0
  have r0 : ta (v_ad (n_v vs 0)) = some 150 := tv_rg t0
  obtain ⟨t2, hk⟩ := List.forall_mem_cons.mp hk
  have t2 : tv_ok ta (2, 0, 0, [150]) (n_v vs 2) := t2
  have r2 : ta (v_ad (n_v vs 2)) = some 150 := tv_rg t2
  obtain ⟨t4, hk⟩ := List.forall_mem_cons.mp hk
  have t4 : tv_ok ta (0, 0, 1, []) (n_v vs 4) := t4
  have k4 : 0 ≤ v_iv (n_v vs 4) ∧ v_iv (n_v vs 4) ≤ 1 := tv_rng t4
  have hf : fc_ok [(20, [4, 2], [50, 1, 1, 1158, 1160, 4, 6, 1, 2, 1, 0, 0, 1, 1, 6, 3, 1, 160, 2, 1, 158, 0, 1]), (24, [0, 2], [])] ta ws vs := hf
  obtain ⟨f0, hf⟩ := fc_un (show (20 : Nat) < 100 from by decide) hf
  have f0 : (v_iv (n_v vs 4) = 1) → (w_ei ws (w_ar ws (n_v vs 2) 160) (w_fi ws (n_v vs 2) 158) = 1) := f0
  obtain ⟨f1, hf⟩ := fc_un (show (24 : Nat) < 100 from by decide) hf
  have f1 : n_v vs 0 = n_v vs 2 := f1
  have q2 : n_v vs 2 = n_v vs 0 := f1.symm
  rw [q2] at f0
  have cr_0_160 : ta (w_ar ws (n_v vs 0) 160) = some 259 := tv_rg (th_fd hD hth r0 (g := GG_150) rfl (k := 160) (t := (2, 0, 0, [259])) rfl rfl)
  have hK_0_160 : ∀ j : Int, 0 ≤ j → j < 2010 → 0 ≤ w_ei ws (w_ar ws (n_v vs 0) 160) j ∧ w_ei ws (w_ar ws (n_v vs 0) 160) j ≤ 4 := fun j h0 h1 => th_el hD hth cr_0_160 (kd := 0) (n := 2010) (m := 2010) (lo := 0) (hi := 4) (rs := []) (L := []) rfl (by decide) (j := j.toNat) (by omega)
  have kz_0_158 : 0 ≤ w_fi ws (n_v vs 0) 158 ∧ w_fi ws (n_v vs 0) 158 ≤ 2009 := tv_rng (th_fd hD hth r0 (g := GG_150) rfl (k := 158) (t := (0, 0, 2009, [])) rfl rfl)
  have nf0 : fc_1 (20, [4, 0], [50, 1, 1, 1158, 1160, 4, 6, 1, 2, 1, 0, 0, 1, 1, 6, 3, 1, 160, 2, 1, 158, 0, 1]) ws (vs) := by
    refine ⟨fun n hn => ?_, ?_⟩
    · have hn : n ∈ [4, 0] := hn
      rw [hl]
      simp only [List.mem_cons, List.not_mem_nil, or_false] at hn
      show n < 7; omega
    · show (v_iv (n_v vs 4) = 1) → (w_ei ws (w_ar ws (n_v vs 0) 160) (w_fi ws (n_v vs 0) 158) = 1)
      first | omega | grind
  refine ⟨(fun _ h => (by cases h)), [], trivial, ?_, (fun _ h => (by cases h))⟩
  rw [List.append_nil]
  exact List.forall_mem_cons.mpr ⟨⟨show (20 : Nat) < 100 from by decide, nf0⟩, (fun _ h => (by cases h))⟩
def o_Mo_word_at_s5039_5 : or_T := (102, 7, [(0, (2, 0, 0, [150])), (2, (2, 0, 0, [150])), (4, (0, 0, 0, []))], [(8, [4], [0]), (20, [4, 2], [50, 1, 1, 1158, 1160, 4, 6, 1, 2, 1, 0, 0, 1, 1, 6, 3, 1, 160, 2, 1, 158, 0, 1]), (24, [0, 2], [])], [], [], [(20, [4, 0], [50, 1, 1, 1158, 1160, 4, 6, 1, 2, 1, 0, 0, 1, 1, 6, 3, 1, 160, 2, 1, 158, 0, 1])], [], [])
theorem oo_Mo_word_at_s5039_5 {kA : Nat → ClassId} : or_ok kA GG o_Mo_word_at_s5039_5 := by
  intro A ta ws vs hD hth hl hk hds hf
  have hl : vs.length = 7 := hl
  have hk : ∀ q ∈ ([(0, (2, 0, 0, [150])), (2, (2, 0, 0, [150])), (4, (0, 0, 0, []))] : List (Nat × tv_T)), tv_ok ta q.2 (n_v vs q.1) := hk
  obtain ⟨t0, hk⟩ := List.forall_mem_cons.mp hk
  have t0 : tv_ok ta (2, 0, 0, [150]) (n_v vs 0) := t0
  have r0 : ta (v_ad (n_v vs 0)) = some 150 := tv_rg t0
  obtain ⟨t2, hk⟩ := List.forall_mem_cons.mp hk
  have t2 : tv_ok ta (2, 0, 0, [150]) (n_v vs 2) := t2
  have r2 : ta (v_ad (n_v vs 2)) = some 150 := tv_rg t2
  obtain ⟨t4, hk⟩ := List.forall_mem_cons.mp hk
  have t4 : tv_ok ta (0, 0, 0, []) (n_v vs 4) := t4
  have k4 : 0 ≤ v_iv (n_v vs 4) ∧ v_iv (n_v vs 4) ≤ 0 := tv_rng t4
  have hf : fc_ok [(8, [4], [0]), (20, [4, 2], [50, 1, 1, 1158, 1160, 4, 6, 1, 2, 1, 0, 0, 1, 1, 6, 3, 1, 160, 2, 1, 158, 0, 1]), (24, [0, 2], [])] ta ws vs := hf
  obtain ⟨f0, hf⟩ := fc_un (show (8 : Nat) < 100 from by decide) hf
  have f0 : v_iv (n_v vs 4) = 0 := f0
  obtain ⟨f1, hf⟩ := fc_un (show (20 : Nat) < 100 from by decide) hf
  have f1 : (v_iv (n_v vs 4) = 1) → (w_ei ws (w_ar ws (n_v vs 2) 160) (w_fi ws (n_v vs 2) 158) = 1) := f1
  obtain ⟨f2, hf⟩ := fc_un (show (24 : Nat) < 100 from by decide) hf
  have f2 : n_v vs 0 = n_v vs 2 := f2
  have q2 : n_v vs 2 = n_v vs 0 := f2.symm
  rw [q2] at f1
  have cr_0_160 : ta (w_ar ws (n_v vs 0) 160) = some 259 := tv_rg (th_fd hD hth r0 (g := GG_150) rfl (k := 160) (t := (2, 0, 0, [259])) rfl rfl)
  have hK_0_160 : ∀ j : Int, 0 ≤ j → j < 2010 → 0 ≤ w_ei ws (w_ar ws (n_v vs 0) 160) j ∧ w_ei ws (w_ar ws (n_v vs 0) 160) j ≤ 4 := fun j h0 h1 => th_el hD hth cr_0_160 (kd := 0) (n := 2010) (m := 2010) (lo := 0) (hi := 4) (rs := []) (L := []) rfl (by decide) (j := j.toNat) (by omega)
  have kz_0_158 : 0 ≤ w_fi ws (n_v vs 0) 158 ∧ w_fi ws (n_v vs 0) 158 ≤ 2009 := tv_rng (th_fd hD hth r0 (g := GG_150) rfl (k := 158) (t := (0, 0, 2009, [])) rfl rfl)
  have nf0 : fc_1 (20, [4, 0], [50, 1, 1, 1158, 1160, 4, 6, 1, 2, 1, 0, 0, 1, 1, 6, 3, 1, 160, 2, 1, 158, 0, 1]) ws (vs) := by
    refine ⟨fun n hn => ?_, ?_⟩
    · have hn : n ∈ [4, 0] := hn
      rw [hl]
      simp only [List.mem_cons, List.not_mem_nil, or_false] at hn
      show n < 7; omega
    · show (v_iv (n_v vs 4) = 1) → (w_ei ws (w_ar ws (n_v vs 0) 160) (w_fi ws (n_v vs 0) 158) = 1)
      first | omega | grind
  refine ⟨(fun _ h => (by cases h)), [], trivial, ?_, (fun _ h => (by cases h))⟩
  rw [List.append_nil]
  exact List.forall_mem_cons.mpr ⟨⟨show (20 : Nat) < 100 from by decide, nf0⟩, (fun _ h => (by cases h))⟩
def o_Mo_word_at_s5039_6 : or_T := (54, 15, [(0, (2, 0, 0, [150])), (2, (2, 0, 0, [150])), (4, (0, 1, 1, [])), (5, (0, 0, 2, [])), (6, (0, 3, 3, [])), (7, (2, 0, 0, [261])), (8, (0, 0, 2009, [])), (9, (0, 0, 2000, [])), (10, (0, 0, 2002, [])), (11, (0, -1, -1, [])), (12, (0, 0, 65535, [])), (13, (0, 0, 0, [])), (14, (0, 1, 3, []))], [(6, [14, 5], [1]), (7, [11, 12], [1]), (20, [10, 2, 11], [50, 1, 1, 1010, 1001, 4, 11, 0, 6, 4, 2, 1, 0, 0, 1, 2, 1, 10, 1, 2, 1, 2, 9, 5, 3, 1, 1, 1, 0, 0, 256]), (20, [2, 10, 11], [50, 1, 0, 10, 4, 7, 0, 3, 2, 0, 10, 1, 1, 1, 2, 1, 2, 0, -1]), (1, [10, 9, 5], []), (10, [9, 7, 8], []), (9, [8, 2], [158]), (9, [7, 2], [162]), (8, [4], [1]), (7, [5, 6], [2]), (20, [4, 2], [50, 1, 1, 1158, 1160, 4, 6, 1, 2, 1, 0, 0, 1, 1, 6, 3, 1, 160, 2, 1, 158, 0, 1]), (24, [0, 2], [])], [], [], [(20, [13, 2], [50, 1, 1, 1158, 1160, 4, 6, 1, 2, 1, 0, 0, 1, 1, 6, 3, 1, 160, 2, 1, 158, 0, 1])], [], [(14, 5, 1, 1), (10, 5, 0, 2000), (10, 9, 0, 2), (4, 5, -4294967296, 1)])
theorem oo_Mo_word_at_s5039_6 {kA : Nat → ClassId} : or_ok kA GG o_Mo_word_at_s5039_6 := by
  intro A ta ws vs hD hth hl hk hds hf
  have hl : vs.length = 15 := hl
  have hk : ∀ q ∈ ([(0, (2, 0, 0, [150])), (2, (2, 0, 0, [150])), (4, (0, 1, 1, [])), (5, (0, 0, 2, [])), (6, (0, 3, 3, [])), (7, (2, 0, 0, [261])), (8, (0, 0, 2009, [])), (9, (0, 0, 2000, [])), (10, (0, 0, 2002, [])), (11, (0, -1, -1, [])), (12, (0, 0, 65535, [])), (13, (0, 0, 0, [])), (14, (0, 1, 3, []))] : List (Nat × tv_T)), tv_ok ta q.2 (n_v vs q.1) := hk
  obtain ⟨t0, hk⟩ := List.forall_mem_cons.mp hk
  have t0 : tv_ok ta (2, 0, 0, [150]) (n_v vs 0) := t0
  have r0 : ta (v_ad (n_v vs 0)) = some 150 := tv_rg t0
  obtain ⟨t2, hk⟩ := List.forall_mem_cons.mp hk
  have t2 : tv_ok ta (2, 0, 0, [150]) (n_v vs 2) := t2
  have r2 : ta (v_ad (n_v vs 2)) = some 150 := tv_rg t2
  obtain ⟨t4, hk⟩ := List.forall_mem_cons.mp hk
  have t4 : tv_ok ta (0, 1, 1, []) (n_v vs 4) := t4
  have k4 : 1 ≤ v_iv (n_v vs 4) ∧ v_iv (n_v vs 4) ≤ 1 := tv_rng t4
  obtain ⟨t5, hk⟩ := List.forall_mem_cons.mp hk
  have t5 : tv_ok ta (0, 0, 2, []) (n_v vs 5) := t5
  have k5 : 0 ≤ v_iv (n_v vs 5) ∧ v_iv (n_v vs 5) ≤ 2 := tv_rng t5
  obtain ⟨t6, hk⟩ := List.forall_mem_cons.mp hk
  have t6 : tv_ok ta (0, 3, 3, []) (n_v vs 6) := t6
  have k6 : 3 ≤ v_iv (n_v vs 6) ∧ v_iv (n_v vs 6) ≤ 3 := tv_rng t6
  obtain ⟨t7, hk⟩ := List.forall_mem_cons.mp hk
  have t7 : tv_ok ta (2, 0, 0, [261]) (n_v vs 7) := t7
  have r7 : ta (v_ad (n_v vs 7)) = some 261 := tv_rg t7
  obtain ⟨t8, hk⟩ := List.forall_mem_cons.mp hk
  have t8 : tv_ok ta (0, 0, 2009, []) (n_v vs 8) := t8
  have k8 : 0 ≤ v_iv (n_v vs 8) ∧ v_iv (n_v vs 8) ≤ 2009 := tv_rng t8
  obtain ⟨t9, hk⟩ := List.forall_mem_cons.mp hk
  have t9 : tv_ok ta (0, 0, 2000, []) (n_v vs 9) := t9
  have k9 : 0 ≤ v_iv (n_v vs 9) ∧ v_iv (n_v vs 9) ≤ 2000 := tv_rng t9
  obtain ⟨t10, hk⟩ := List.forall_mem_cons.mp hk
  have t10 : tv_ok ta (0, 0, 2002, []) (n_v vs 10) := t10
  have k10 : 0 ≤ v_iv (n_v vs 10) ∧ v_iv (n_v vs 10) ≤ 2002 := tv_rng t10
  obtain ⟨t11, hk⟩ := List.forall_mem_cons.mp hk
  have t11 : tv_ok ta (0, -1, -1, []) (n_v vs 11) := t11
  have k11 : (-1) ≤ v_iv (n_v vs 11) ∧ v_iv (n_v vs 11) ≤ (-1) := tv_rng t11
  obtain ⟨t12, hk⟩ := List.forall_mem_cons.mp hk
  have t12 : tv_ok ta (0, 0, 65535, []) (n_v vs 12) := t12
  have k12 : 0 ≤ v_iv (n_v vs 12) ∧ v_iv (n_v vs 12) ≤ 65535 := tv_rng t12
  obtain ⟨t13, hk⟩ := List.forall_mem_cons.mp hk
  have t13 : tv_ok ta (0, 0, 0, []) (n_v vs 13) := t13
  have k13 : 0 ≤ v_iv (n_v vs 13) ∧ v_iv (n_v vs 13) ≤ 0 := tv_rng t13
  obtain ⟨t14, hk⟩ := List.forall_mem_cons.mp hk
  have t14 : tv_ok ta (0, 1, 3, []) (n_v vs 14) := t14
  have k14 : 1 ≤ v_iv (n_v vs 14) ∧ v_iv (n_v vs 14) ≤ 3 := tv_rng t14
  have hds : ∀ q ∈ ([(14, 5, 1, 1), (10, 5, 0, 2000), (10, 9, 0, 2), (4, 5, -4294967296, 1)] : List of_T), n_iv vs q.2.1 + q.2.2.1 ≤ n_iv vs q.1 ∧ n_iv vs q.1 ≤ n_iv vs q.2.1 + q.2.2.2 := hds
  obtain ⟨d0, hds⟩ := List.forall_mem_cons.mp hds
  have d0 : v_iv (n_v vs 5) + 1 ≤ v_iv (n_v vs 14) ∧ v_iv (n_v vs 14) ≤ v_iv (n_v vs 5) + 1 := d0
  obtain ⟨d1, hds⟩ := List.forall_mem_cons.mp hds
  have d1 : v_iv (n_v vs 5) + 0 ≤ v_iv (n_v vs 10) ∧ v_iv (n_v vs 10) ≤ v_iv (n_v vs 5) + 2000 := d1
  obtain ⟨d2, hds⟩ := List.forall_mem_cons.mp hds
  have d2 : v_iv (n_v vs 9) + 0 ≤ v_iv (n_v vs 10) ∧ v_iv (n_v vs 10) ≤ v_iv (n_v vs 9) + 2 := d2
  obtain ⟨d3, hds⟩ := List.forall_mem_cons.mp hds
  have d3 : v_iv (n_v vs 5) + (-4294967296) ≤ v_iv (n_v vs 4) ∧ v_iv (n_v vs 4) ≤ v_iv (n_v vs 5) + 1 := d3
  have hf : fc_ok [(6, [14, 5], [1]), (7, [11, 12], [1]), (20, [10, 2, 11], [50, 1, 1, 1010, 1001, 4, 11, 0, 6, 4, 2, 1, 0, 0, 1, 2, 1, 10, 1, 2, 1, 2, 9, 5, 3, 1, 1, 1, 0, 0, 256]), (20, [2, 10, 11], [50, 1, 0, 10, 4, 7, 0, 3, 2, 0, 10, 1, 1, 1, 2, 1, 2, 0, -1]), (1, [10, 9, 5], []), (10, [9, 7, 8], []), (9, [8, 2], [158]), (9, [7, 2], [162]), (8, [4], [1]), (7, [5, 6], [2]), (20, [4, 2], [50, 1, 1, 1158, 1160, 4, 6, 1, 2, 1, 0, 0, 1, 1, 6, 3, 1, 160, 2, 1, 158, 0, 1]), (24, [0, 2], [])] ta ws vs := hf
  obtain ⟨f0, hf⟩ := fc_un (show (6 : Nat) < 100 from by decide) hf
  have f0 : v_iv (n_v vs 14) = v_iv (n_v vs 5) + 1 := f0
  obtain ⟨f1, hf⟩ := fc_un (show (7 : Nat) < 100 from by decide) hf
  have f1 : v_iv (n_v vs 11) ≠ v_iv (n_v vs 12) := f1
  obtain ⟨f2, hf⟩ := fc_un (show (20 : Nat) < 100 from by decide) hf
  have f2 : ((v_iv (n_v vs 10) + 1) ≤ w_fi ws (n_v vs 2) 10) → (v_iv (n_v vs 11) = (w_ei ws (w_ar ws (n_v vs 2) 1) (v_iv (n_v vs 10)) % 256)) := f2
  obtain ⟨f3, hf⟩ := fc_un (show (20 : Nat) < 100 from by decide) hf
  have f3 : (w_fi ws (n_v vs 2) 10 ≤ v_iv (n_v vs 10)) → (v_iv (n_v vs 11) = (-1)) := f3
  obtain ⟨f4, hf⟩ := fc_un (show (1 : Nat) < 100 from by decide) hf
  have f4 : v_iv (n_v vs 10) = v_iv (n_v vs 9) + v_iv (n_v vs 5) := f4
  obtain ⟨f5, hf⟩ := fc_un (show (10 : Nat) < 100 from by decide) hf
  have f5 : v_iv (n_v vs 9) = w_el ws (v_ad (n_v vs 7)) (v_iv (n_v vs 8)).toNat := f5
  obtain ⟨f6, hf⟩ := fc_un (show (9 : Nat) < 100 from by decide) hf
  have f6 : n_v vs 8 = w_fd ws (v_ad (n_v vs 2)) 158 := f6
  obtain ⟨f7, hf⟩ := fc_un (show (9 : Nat) < 100 from by decide) hf
  have f7 : n_v vs 7 = w_fd ws (v_ad (n_v vs 2)) 162 := f7
  obtain ⟨f8, hf⟩ := fc_un (show (8 : Nat) < 100 from by decide) hf
  have f8 : v_iv (n_v vs 4) ≠ 0 := f8
  obtain ⟨f9, hf⟩ := fc_un (show (7 : Nat) < 100 from by decide) hf
  have f9 : v_iv (n_v vs 5) < v_iv (n_v vs 6) := f9
  obtain ⟨f10, hf⟩ := fc_un (show (20 : Nat) < 100 from by decide) hf
  have f10 : (v_iv (n_v vs 4) = 1) → (w_ei ws (w_ar ws (n_v vs 2) 160) (w_fi ws (n_v vs 2) 158) = 1) := f10
  obtain ⟨f11, hf⟩ := fc_un (show (24 : Nat) < 100 from by decide) hf
  have f11 : n_v vs 0 = n_v vs 2 := f11
  have q2 : n_v vs 2 = n_v vs 0 := f11.symm
  rw [q2] at f2
  rw [q2] at f3
  rw [q2] at f6
  rw [q2] at f7
  rw [q2] at f10
  have cr_0_1 : ta (w_ar ws (n_v vs 0) 1) = some 151 := tv_rg (th_fd hD hth r0 (g := GG_150) rfl (k := 1) (t := (2, 0, 0, [151])) rfl rfl)
  have cr_0_160 : ta (w_ar ws (n_v vs 0) 160) = some 259 := tv_rg (th_fd hD hth r0 (g := GG_150) rfl (k := 160) (t := (2, 0, 0, [259])) rfl rfl)
  have cr_0_162 : ta (w_ar ws (n_v vs 0) 162) = some 261 := tv_rg (th_fd hD hth r0 (g := GG_150) rfl (k := 162) (t := (2, 0, 0, [261])) rfl rfl)
  have ad_7 : v_ad (n_v vs 7) = w_ar ws (n_v vs 0) 162 := congrArg v_ad f7
  rw [ad_7] at f5
  have g6 : v_iv (n_v vs 8) = w_fi ws (n_v vs 0) 158 := congrArg v_iv f6
  have hK_0_1 : ∀ j : Int, 0 ≤ j → j < 2000 → (-128) ≤ w_ei ws (w_ar ws (n_v vs 0) 1) j ∧ w_ei ws (w_ar ws (n_v vs 0) 1) j ≤ 127 := fun j h0 h1 => th_el hD hth cr_0_1 (kd := 1) (n := 2000) (m := 2000) (lo := (-128)) (hi := 127) (rs := []) (L := []) rfl (by decide) (j := j.toNat) (by omega)
  have hK_0_160 : ∀ j : Int, 0 ≤ j → j < 2010 → 0 ≤ w_ei ws (w_ar ws (n_v vs 0) 160) j ∧ w_ei ws (w_ar ws (n_v vs 0) 160) j ≤ 4 := fun j h0 h1 => th_el hD hth cr_0_160 (kd := 0) (n := 2010) (m := 2010) (lo := 0) (hi := 4) (rs := []) (L := []) rfl (by decide) (j := j.toNat) (by omega)
  have kz_0_10 : 0 ≤ w_fi ws (n_v vs 0) 10 ∧ w_fi ws (n_v vs 0) 10 ≤ 2000 := tv_rng (th_fd hD hth r0 (g := GG_150) rfl (k := 10) (t := (0, 0, 2000, [])) rfl rfl)
  have kz_0_158 : 0 ≤ w_fi ws (n_v vs 0) 158 ∧ w_fi ws (n_v vs 0) 158 ≤ 2009 := tv_rng (th_fd hD hth r0 (g := GG_150) rfl (k := 158) (t := (0, 0, 2009, [])) rfl rfl)
  have nf0 : fc_1 (20, [13, 2], [50, 1, 1, 1158, 1160, 4, 6, 1, 2, 1, 0, 0, 1, 1, 6, 3, 1, 160, 2, 1, 158, 0, 1]) ws (vs) := by
    refine ⟨fun n hn => ?_, ?_⟩
    · have hn : n ∈ [13, 2] := hn
      rw [hl]
      simp only [List.mem_cons, List.not_mem_nil, or_false] at hn
      show n < 15; omega
    · show (v_iv (n_v vs 13) = 1) → (w_ei ws (w_ar ws (n_v vs 2) 160) (w_fi ws (n_v vs 2) 158) = 1)
      rw [q2]
      first | omega | grind
  refine ⟨(fun _ h => (by cases h)), [], trivial, ?_, (fun _ h => (by cases h))⟩
  rw [List.append_nil]
  exact List.forall_mem_cons.mpr ⟨⟨show (20 : Nat) < 100 from by decide, nf0⟩, (fun _ h => (by cases h))⟩
def o_Mo_word_at_s5039_7 : or_T := (54, 15, [(0, (2, 0, 0, [150])), (2, (2, 0, 0, [150])), (4, (0, 1, 1, [])), (5, (0, 0, 2, [])), (6, (0, 3, 3, [])), (7, (2, 0, 0, [261])), (8, (0, 0, 2009, [])), (9, (0, 0, 1999, [])), (10, (0, 0, 1999, [])), (11, (0, 0, 255, [])), (12, (0, 0, 65535, [])), (13, (0, 0, 0, [])), (14, (0, 1, 3, []))], [(6, [14, 5], [1]), (7, [11, 12], [1]), (20, [10, 2, 11], [50, 1, 1, 1010, 1001, 4, 11, 0, 6, 4, 2, 1, 0, 0, 1, 2, 1, 10, 1, 2, 1, 2, 9, 5, 3, 1, 1, 1, 0, 0, 256]), (20, [2, 10, 11], [50, 1, 0, 10, 4, 7, 0, 3, 2, 0, 10, 1, 1, 1, 2, 1, 2, 0, -1]), (1, [10, 9, 5], []), (10, [9, 7, 8], []), (9, [8, 2], [158]), (9, [7, 2], [162]), (8, [4], [1]), (7, [5, 6], [2]), (20, [4, 2], [50, 1, 1, 1158, 1160, 4, 6, 1, 2, 1, 0, 0, 1, 1, 6, 3, 1, 160, 2, 1, 158, 0, 1]), (24, [0, 2], [])], [], [], [(20, [13, 2], [50, 1, 1, 1158, 1160, 4, 6, 1, 2, 1, 0, 0, 1, 1, 6, 3, 1, 160, 2, 1, 158, 0, 1])], [], [(14, 5, 1, 1), (10, 5, 0, 2000), (10, 9, 0, 2), (4, 5, -4294967296, 1)])
theorem oo_Mo_word_at_s5039_7 {kA : Nat → ClassId} : or_ok kA GG o_Mo_word_at_s5039_7 := by
  intro A ta ws vs hD hth hl hk hds hf
  have hl : vs.length = 15 := hl
  have hk : ∀ q ∈ ([(0, (2, 0, 0, [150])), (2, (2, 0, 0, [150])), (4, (0, 1, 1, [])), (5, (0, 0, 2, [])), (6, (0, 3, 3, [])), (7, (2, 0, 0, [261])), (8, (0, 0, 2009, [])), (9, (0, 0, 1999, [])), (10, (0, 0, 1999, [])), (11, (0, 0, 255, [])), (12, (0, 0, 65535, [])), (13, (0, 0, 0, [])), (14, (0, 1, 3, []))] : List (Nat × tv_T)), tv_ok ta q.2 (n_v vs q.1) := hk
  obtain ⟨t0, hk⟩ := List.forall_mem_cons.mp hk
  have t0 : tv_ok ta (2, 0, 0, [150]) (n_v vs 0) := t0
  have r0 : ta (v_ad (n_v vs 0)) = some 150 := tv_rg t0
  obtain ⟨t2, hk⟩ := List.forall_mem_cons.mp hk
  have t2 : tv_ok ta (2, 0, 0, [150]) (n_v vs 2) := t2
  have r2 : ta (v_ad (n_v vs 2)) = some 150 := tv_rg t2
  obtain ⟨t4, hk⟩ := List.forall_mem_cons.mp hk
  have t4 : tv_ok ta (0, 1, 1, []) (n_v vs 4) := t4
  have k4 : 1 ≤ v_iv (n_v vs 4) ∧ v_iv (n_v vs 4) ≤ 1 := tv_rng t4
  obtain ⟨t5, hk⟩ := List.forall_mem_cons.mp hk
  have t5 : tv_ok ta (0, 0, 2, []) (n_v vs 5) := t5
  have k5 : 0 ≤ v_iv (n_v vs 5) ∧ v_iv (n_v vs 5) ≤ 2 := tv_rng t5
  obtain ⟨t6, hk⟩ := List.forall_mem_cons.mp hk
  have t6 : tv_ok ta (0, 3, 3, []) (n_v vs 6) := t6
  have k6 : 3 ≤ v_iv (n_v vs 6) ∧ v_iv (n_v vs 6) ≤ 3 := tv_rng t6
  obtain ⟨t7, hk⟩ := List.forall_mem_cons.mp hk
  have t7 : tv_ok ta (2, 0, 0, [261]) (n_v vs 7) := t7
  have r7 : ta (v_ad (n_v vs 7)) = some 261 := tv_rg t7
  obtain ⟨t8, hk⟩ := List.forall_mem_cons.mp hk
  have t8 : tv_ok ta (0, 0, 2009, []) (n_v vs 8) := t8
  have k8 : 0 ≤ v_iv (n_v vs 8) ∧ v_iv (n_v vs 8) ≤ 2009 := tv_rng t8
  obtain ⟨t9, hk⟩ := List.forall_mem_cons.mp hk
  have t9 : tv_ok ta (0, 0, 1999, []) (n_v vs 9) := t9
  have k9 : 0 ≤ v_iv (n_v vs 9) ∧ v_iv (n_v vs 9) ≤ 1999 := tv_rng t9
  obtain ⟨t10, hk⟩ := List.forall_mem_cons.mp hk
  have t10 : tv_ok ta (0, 0, 1999, []) (n_v vs 10) := t10
  have k10 : 0 ≤ v_iv (n_v vs 10) ∧ v_iv (n_v vs 10) ≤ 1999 := tv_rng t10
  obtain ⟨t11, hk⟩ := List.forall_mem_cons.mp hk
  have t11 : tv_ok ta (0, 0, 255, []) (n_v vs 11) := t11
  have k11 : 0 ≤ v_iv (n_v vs 11) ∧ v_iv (n_v vs 11) ≤ 255 := tv_rng t11
  obtain ⟨t12, hk⟩ := List.forall_mem_cons.mp hk
  have t12 : tv_ok ta (0, 0, 65535, []) (n_v vs 12) := t12
  have k12 : 0 ≤ v_iv (n_v vs 12) ∧ v_iv (n_v vs 12) ≤ 65535 := tv_rng t12
  obtain ⟨t13, hk⟩ := List.forall_mem_cons.mp hk
  have t13 : tv_ok ta (0, 0, 0, []) (n_v vs 13) := t13
  have k13 : 0 ≤ v_iv (n_v vs 13) ∧ v_iv (n_v vs 13) ≤ 0 := tv_rng t13
  obtain ⟨t14, hk⟩ := List.forall_mem_cons.mp hk
  have t14 : tv_ok ta (0, 1, 3, []) (n_v vs 14) := t14
  have k14 : 1 ≤ v_iv (n_v vs 14) ∧ v_iv (n_v vs 14) ≤ 3 := tv_rng t14
  have hds : ∀ q ∈ ([(14, 5, 1, 1), (10, 5, 0, 2000), (10, 9, 0, 2), (4, 5, -4294967296, 1)] : List of_T), n_iv vs q.2.1 + q.2.2.1 ≤ n_iv vs q.1 ∧ n_iv vs q.1 ≤ n_iv vs q.2.1 + q.2.2.2 := hds
  obtain ⟨d0, hds⟩ := List.forall_mem_cons.mp hds
  have d0 : v_iv (n_v vs 5) + 1 ≤ v_iv (n_v vs 14) ∧ v_iv (n_v vs 14) ≤ v_iv (n_v vs 5) + 1 := d0
  obtain ⟨d1, hds⟩ := List.forall_mem_cons.mp hds
  have d1 : v_iv (n_v vs 5) + 0 ≤ v_iv (n_v vs 10) ∧ v_iv (n_v vs 10) ≤ v_iv (n_v vs 5) + 2000 := d1
  obtain ⟨d2, hds⟩ := List.forall_mem_cons.mp hds
  have d2 : v_iv (n_v vs 9) + 0 ≤ v_iv (n_v vs 10) ∧ v_iv (n_v vs 10) ≤ v_iv (n_v vs 9) + 2 := d2
  obtain ⟨d3, hds⟩ := List.forall_mem_cons.mp hds
  have d3 : v_iv (n_v vs 5) + (-4294967296) ≤ v_iv (n_v vs 4) ∧ v_iv (n_v vs 4) ≤ v_iv (n_v vs 5) + 1 := d3
  have hf : fc_ok [(6, [14, 5], [1]), (7, [11, 12], [1]), (20, [10, 2, 11], [50, 1, 1, 1010, 1001, 4, 11, 0, 6, 4, 2, 1, 0, 0, 1, 2, 1, 10, 1, 2, 1, 2, 9, 5, 3, 1, 1, 1, 0, 0, 256]), (20, [2, 10, 11], [50, 1, 0, 10, 4, 7, 0, 3, 2, 0, 10, 1, 1, 1, 2, 1, 2, 0, -1]), (1, [10, 9, 5], []), (10, [9, 7, 8], []), (9, [8, 2], [158]), (9, [7, 2], [162]), (8, [4], [1]), (7, [5, 6], [2]), (20, [4, 2], [50, 1, 1, 1158, 1160, 4, 6, 1, 2, 1, 0, 0, 1, 1, 6, 3, 1, 160, 2, 1, 158, 0, 1]), (24, [0, 2], [])] ta ws vs := hf
  obtain ⟨f0, hf⟩ := fc_un (show (6 : Nat) < 100 from by decide) hf
  have f0 : v_iv (n_v vs 14) = v_iv (n_v vs 5) + 1 := f0
  obtain ⟨f1, hf⟩ := fc_un (show (7 : Nat) < 100 from by decide) hf
  have f1 : v_iv (n_v vs 11) ≠ v_iv (n_v vs 12) := f1
  obtain ⟨f2, hf⟩ := fc_un (show (20 : Nat) < 100 from by decide) hf
  have f2 : ((v_iv (n_v vs 10) + 1) ≤ w_fi ws (n_v vs 2) 10) → (v_iv (n_v vs 11) = (w_ei ws (w_ar ws (n_v vs 2) 1) (v_iv (n_v vs 10)) % 256)) := f2
  obtain ⟨f3, hf⟩ := fc_un (show (20 : Nat) < 100 from by decide) hf
  have f3 : (w_fi ws (n_v vs 2) 10 ≤ v_iv (n_v vs 10)) → (v_iv (n_v vs 11) = (-1)) := f3
  obtain ⟨f4, hf⟩ := fc_un (show (1 : Nat) < 100 from by decide) hf
  have f4 : v_iv (n_v vs 10) = v_iv (n_v vs 9) + v_iv (n_v vs 5) := f4
  obtain ⟨f5, hf⟩ := fc_un (show (10 : Nat) < 100 from by decide) hf
  have f5 : v_iv (n_v vs 9) = w_el ws (v_ad (n_v vs 7)) (v_iv (n_v vs 8)).toNat := f5
  obtain ⟨f6, hf⟩ := fc_un (show (9 : Nat) < 100 from by decide) hf
  have f6 : n_v vs 8 = w_fd ws (v_ad (n_v vs 2)) 158 := f6
  obtain ⟨f7, hf⟩ := fc_un (show (9 : Nat) < 100 from by decide) hf
  have f7 : n_v vs 7 = w_fd ws (v_ad (n_v vs 2)) 162 := f7
  obtain ⟨f8, hf⟩ := fc_un (show (8 : Nat) < 100 from by decide) hf
  have f8 : v_iv (n_v vs 4) ≠ 0 := f8
  obtain ⟨f9, hf⟩ := fc_un (show (7 : Nat) < 100 from by decide) hf
  have f9 : v_iv (n_v vs 5) < v_iv (n_v vs 6) := f9
  obtain ⟨f10, hf⟩ := fc_un (show (20 : Nat) < 100 from by decide) hf
  have f10 : (v_iv (n_v vs 4) = 1) → (w_ei ws (w_ar ws (n_v vs 2) 160) (w_fi ws (n_v vs 2) 158) = 1) := f10
  obtain ⟨f11, hf⟩ := fc_un (show (24 : Nat) < 100 from by decide) hf
  have f11 : n_v vs 0 = n_v vs 2 := f11
  have q2 : n_v vs 2 = n_v vs 0 := f11.symm
  rw [q2] at f2
  rw [q2] at f3
  rw [q2] at f6
  rw [q2] at f7
  rw [q2] at f10
  have cr_0_1 : ta (w_ar ws (n_v vs 0) 1) = some 151 := tv_rg (th_fd hD hth r0 (g := GG_150) rfl (k := 1) (t := (2, 0, 0, [151])) rfl rfl)
  have cr_0_160 : ta (w_ar ws (n_v vs 0) 160) = some 259 := tv_rg (th_fd hD hth r0 (g := GG_150) rfl (k := 160) (t := (2, 0, 0, [259])) rfl rfl)
  have cr_0_162 : ta (w_ar ws (n_v vs 0) 162) = some 261 := tv_rg (th_fd hD hth r0 (g := GG_150) rfl (k := 162) (t := (2, 0, 0, [261])) rfl rfl)
  have ad_7 : v_ad (n_v vs 7) = w_ar ws (n_v vs 0) 162 := congrArg v_ad f7
  rw [ad_7] at f5
  have g6 : v_iv (n_v vs 8) = w_fi ws (n_v vs 0) 158 := congrArg v_iv f6
  have hK_0_1 : ∀ j : Int, 0 ≤ j → j < 2000 → (-128) ≤ w_ei ws (w_ar ws (n_v vs 0) 1) j ∧ w_ei ws (w_ar ws (n_v vs 0) 1) j ≤ 127 := fun j h0 h1 => th_el hD hth cr_0_1 (kd := 1) (n := 2000) (m := 2000) (lo := (-128)) (hi := 127) (rs := []) (L := []) rfl (by decide) (j := j.toNat) (by omega)
  have hK_0_160 : ∀ j : Int, 0 ≤ j → j < 2010 → 0 ≤ w_ei ws (w_ar ws (n_v vs 0) 160) j ∧ w_ei ws (w_ar ws (n_v vs 0) 160) j ≤ 4 := fun j h0 h1 => th_el hD hth cr_0_160 (kd := 0) (n := 2010) (m := 2010) (lo := 0) (hi := 4) (rs := []) (L := []) rfl (by decide) (j := j.toNat) (by omega)
  have kz_0_10 : 0 ≤ w_fi ws (n_v vs 0) 10 ∧ w_fi ws (n_v vs 0) 10 ≤ 2000 := tv_rng (th_fd hD hth r0 (g := GG_150) rfl (k := 10) (t := (0, 0, 2000, [])) rfl rfl)
  have kz_0_158 : 0 ≤ w_fi ws (n_v vs 0) 158 ∧ w_fi ws (n_v vs 0) 158 ≤ 2009 := tv_rng (th_fd hD hth r0 (g := GG_150) rfl (k := 158) (t := (0, 0, 2009, [])) rfl rfl)
  have nf0 : fc_1 (20, [13, 2], [50, 1, 1, 1158, 1160, 4, 6, 1, 2, 1, 0, 0, 1, 1, 6, 3, 1, 160, 2, 1, 158, 0, 1]) ws (vs) := by
    refine ⟨fun n hn => ?_, ?_⟩
    · have hn : n ∈ [13, 2] := hn
      rw [hl]
      simp only [List.mem_cons, List.not_mem_nil, or_false] at hn
      show n < 15; omega
    · show (v_iv (n_v vs 13) = 1) → (w_ei ws (w_ar ws (n_v vs 2) 160) (w_fi ws (n_v vs 2) 158) = 1)
      rw [q2]
      first | omega | grind
  refine ⟨(fun _ h => (by cases h)), [], trivial, ?_, (fun _ h => (by cases h))⟩
  rw [List.append_nil]
  exact List.forall_mem_cons.mpr ⟨⟨show (20 : Nat) < 100 from by decide, nf0⟩, (fun _ h => (by cases h))⟩
def o_Mo_word_at_s5039_8 : or_T := (54, 15, [(0, (2, 0, 0, [150])), (2, (2, 0, 0, [150])), (4, (0, 1, 1, [])), (5, (0, 0, 2, [])), (6, (0, 3, 3, [])), (7, (2, 0, 0, [261])), (8, (0, 0, 2009, [])), (9, (0, 0, 1999, [])), (10, (0, 0, 1999, [])), (11, (0, 0, 255, [])), (12, (0, 0, 255, [])), (13, (0, 1, 1, [])), (14, (0, 1, 3, []))], [(6, [14, 5], [1]), (7, [11, 12], [0]), (20, [10, 2, 11], [50, 1, 1, 1010, 1001, 4, 11, 0, 6, 4, 2, 1, 0, 0, 1, 2, 1, 10, 1, 2, 1, 2, 9, 5, 3, 1, 1, 1, 0, 0, 256]), (20, [2, 10, 11], [50, 1, 0, 10, 4, 7, 0, 3, 2, 0, 10, 1, 1, 1, 2, 1, 2, 0, -1]), (1, [10, 9, 5], []), (10, [9, 7, 8], []), (9, [8, 2], [158]), (9, [7, 2], [162]), (8, [4], [1]), (7, [5, 6], [2]), (20, [4, 2], [50, 1, 1, 1158, 1160, 4, 6, 1, 2, 1, 0, 0, 1, 1, 6, 3, 1, 160, 2, 1, 158, 0, 1]), (24, [0, 2], [])], [], [], [(20, [13, 2], [50, 1, 1, 1158, 1160, 4, 6, 1, 2, 1, 0, 0, 1, 1, 6, 3, 1, 160, 2, 1, 158, 0, 1])], [], [(14, 5, 1, 1), (11, 12, 0, 0), (10, 5, 0, 2000), (10, 9, 0, 2), (4, 5, -4294967296, 1)])
theorem oo_Mo_word_at_s5039_8 {kA : Nat → ClassId} : or_ok kA GG o_Mo_word_at_s5039_8 := by
  intro A ta ws vs hD hth hl hk hds hf
  have hl : vs.length = 15 := hl
  have hk : ∀ q ∈ ([(0, (2, 0, 0, [150])), (2, (2, 0, 0, [150])), (4, (0, 1, 1, [])), (5, (0, 0, 2, [])), (6, (0, 3, 3, [])), (7, (2, 0, 0, [261])), (8, (0, 0, 2009, [])), (9, (0, 0, 1999, [])), (10, (0, 0, 1999, [])), (11, (0, 0, 255, [])), (12, (0, 0, 255, [])), (13, (0, 1, 1, [])), (14, (0, 1, 3, []))] : List (Nat × tv_T)), tv_ok ta q.2 (n_v vs q.1) := hk
  obtain ⟨t0, hk⟩ := List.forall_mem_cons.mp hk
  have t0 : tv_ok ta (2, 0, 0, [150]) (n_v vs 0) := t0
  have r0 : ta (v_ad (n_v vs 0)) = some 150 := tv_rg t0
  obtain ⟨t2, hk⟩ := List.forall_mem_cons.mp hk
  have t2 : tv_ok ta (2, 0, 0, [150]) (n_v vs 2) := t2
  have r2 : ta (v_ad (n_v vs 2)) = some 150 := tv_rg t2
  obtain ⟨t4, hk⟩ := List.forall_mem_cons.mp hk
  have t4 : tv_ok ta (0, 1, 1, []) (n_v vs 4) := t4
  have k4 : 1 ≤ v_iv (n_v vs 4) ∧ v_iv (n_v vs 4) ≤ 1 := tv_rng t4
  obtain ⟨t5, hk⟩ := List.forall_mem_cons.mp hk
  have t5 : tv_ok ta (0, 0, 2, []) (n_v vs 5) := t5
  have k5 : 0 ≤ v_iv (n_v vs 5) ∧ v_iv (n_v vs 5) ≤ 2 := tv_rng t5
  obtain ⟨t6, hk⟩ := List.forall_mem_cons.mp hk
  have t6 : tv_ok ta (0, 3, 3, []) (n_v vs 6) := t6
  have k6 : 3 ≤ v_iv (n_v vs 6) ∧ v_iv (n_v vs 6) ≤ 3 := tv_rng t6
  obtain ⟨t7, hk⟩ := List.forall_mem_cons.mp hk
  have t7 : tv_ok ta (2, 0, 0, [261]) (n_v vs 7) := t7
  have r7 : ta (v_ad (n_v vs 7)) = some 261 := tv_rg t7
  obtain ⟨t8, hk⟩ := List.forall_mem_cons.mp hk
  have t8 : tv_ok ta (0, 0, 2009, []) (n_v vs 8) := t8
  have k8 : 0 ≤ v_iv (n_v vs 8) ∧ v_iv (n_v vs 8) ≤ 2009 := tv_rng t8
  obtain ⟨t9, hk⟩ := List.forall_mem_cons.mp hk
  have t9 : tv_ok ta (0, 0, 1999, []) (n_v vs 9) := t9
  have k9 : 0 ≤ v_iv (n_v vs 9) ∧ v_iv (n_v vs 9) ≤ 1999 := tv_rng t9
  obtain ⟨t10, hk⟩ := List.forall_mem_cons.mp hk
  have t10 : tv_ok ta (0, 0, 1999, []) (n_v vs 10) := t10
  have k10 : 0 ≤ v_iv (n_v vs 10) ∧ v_iv (n_v vs 10) ≤ 1999 := tv_rng t10
  obtain ⟨t11, hk⟩ := List.forall_mem_cons.mp hk
  have t11 : tv_ok ta (0, 0, 255, []) (n_v vs 11) := t11
  have k11 : 0 ≤ v_iv (n_v vs 11) ∧ v_iv (n_v vs 11) ≤ 255 := tv_rng t11
  obtain ⟨t12, hk⟩ := List.forall_mem_cons.mp hk
  have t12 : tv_ok ta (0, 0, 255, []) (n_v vs 12) := t12
  have k12 : 0 ≤ v_iv (n_v vs 12) ∧ v_iv (n_v vs 12) ≤ 255 := tv_rng t12
  obtain ⟨t13, hk⟩ := List.forall_mem_cons.mp hk
  have t13 : tv_ok ta (0, 1, 1, []) (n_v vs 13) := t13
  have k13 : 1 ≤ v_iv (n_v vs 13) ∧ v_iv (n_v vs 13) ≤ 1 := tv_rng t13
  obtain ⟨t14, hk⟩ := List.forall_mem_cons.mp hk
  have t14 : tv_ok ta (0, 1, 3, []) (n_v vs 14) := t14
  have k14 : 1 ≤ v_iv (n_v vs 14) ∧ v_iv (n_v vs 14) ≤ 3 := tv_rng t14
  have hds : ∀ q ∈ ([(14, 5, 1, 1), (11, 12, 0, 0), (10, 5, 0, 2000), (10, 9, 0, 2), (4, 5, -4294967296, 1)] : List of_T), n_iv vs q.2.1 + q.2.2.1 ≤ n_iv vs q.1 ∧ n_iv vs q.1 ≤ n_iv vs q.2.1 + q.2.2.2 := hds
  obtain ⟨d0, hds⟩ := List.forall_mem_cons.mp hds
  have d0 : v_iv (n_v vs 5) + 1 ≤ v_iv (n_v vs 14) ∧ v_iv (n_v vs 14) ≤ v_iv (n_v vs 5) + 1 := d0
  obtain ⟨d1, hds⟩ := List.forall_mem_cons.mp hds
  have d1 : v_iv (n_v vs 12) + 0 ≤ v_iv (n_v vs 11) ∧ v_iv (n_v vs 11) ≤ v_iv (n_v vs 12) + 0 := d1
  obtain ⟨d2, hds⟩ := List.forall_mem_cons.mp hds
  have d2 : v_iv (n_v vs 5) + 0 ≤ v_iv (n_v vs 10) ∧ v_iv (n_v vs 10) ≤ v_iv (n_v vs 5) + 2000 := d2
  obtain ⟨d3, hds⟩ := List.forall_mem_cons.mp hds
  have d3 : v_iv (n_v vs 9) + 0 ≤ v_iv (n_v vs 10) ∧ v_iv (n_v vs 10) ≤ v_iv (n_v vs 9) + 2 := d3
  obtain ⟨d4, hds⟩ := List.forall_mem_cons.mp hds
  have d4 : v_iv (n_v vs 5) + (-4294967296) ≤ v_iv (n_v vs 4) ∧ v_iv (n_v vs 4) ≤ v_iv (n_v vs 5) + 1 := d4
  have hf : fc_ok [(6, [14, 5], [1]), (7, [11, 12], [0]), (20, [10, 2, 11], [50, 1, 1, 1010, 1001, 4, 11, 0, 6, 4, 2, 1, 0, 0, 1, 2, 1, 10, 1, 2, 1, 2, 9, 5, 3, 1, 1, 1, 0, 0, 256]), (20, [2, 10, 11], [50, 1, 0, 10, 4, 7, 0, 3, 2, 0, 10, 1, 1, 1, 2, 1, 2, 0, -1]), (1, [10, 9, 5], []), (10, [9, 7, 8], []), (9, [8, 2], [158]), (9, [7, 2], [162]), (8, [4], [1]), (7, [5, 6], [2]), (20, [4, 2], [50, 1, 1, 1158, 1160, 4, 6, 1, 2, 1, 0, 0, 1, 1, 6, 3, 1, 160, 2, 1, 158, 0, 1]), (24, [0, 2], [])] ta ws vs := hf
  obtain ⟨f0, hf⟩ := fc_un (show (6 : Nat) < 100 from by decide) hf
  have f0 : v_iv (n_v vs 14) = v_iv (n_v vs 5) + 1 := f0
  obtain ⟨f1, hf⟩ := fc_un (show (7 : Nat) < 100 from by decide) hf
  have f1 : v_iv (n_v vs 11) = v_iv (n_v vs 12) := f1
  obtain ⟨f2, hf⟩ := fc_un (show (20 : Nat) < 100 from by decide) hf
  have f2 : ((v_iv (n_v vs 10) + 1) ≤ w_fi ws (n_v vs 2) 10) → (v_iv (n_v vs 11) = (w_ei ws (w_ar ws (n_v vs 2) 1) (v_iv (n_v vs 10)) % 256)) := f2
  obtain ⟨f3, hf⟩ := fc_un (show (20 : Nat) < 100 from by decide) hf
  have f3 : (w_fi ws (n_v vs 2) 10 ≤ v_iv (n_v vs 10)) → (v_iv (n_v vs 11) = (-1)) := f3
  obtain ⟨f4, hf⟩ := fc_un (show (1 : Nat) < 100 from by decide) hf
  have f4 : v_iv (n_v vs 10) = v_iv (n_v vs 9) + v_iv (n_v vs 5) := f4
  obtain ⟨f5, hf⟩ := fc_un (show (10 : Nat) < 100 from by decide) hf
  have f5 : v_iv (n_v vs 9) = w_el ws (v_ad (n_v vs 7)) (v_iv (n_v vs 8)).toNat := f5
  obtain ⟨f6, hf⟩ := fc_un (show (9 : Nat) < 100 from by decide) hf
  have f6 : n_v vs 8 = w_fd ws (v_ad (n_v vs 2)) 158 := f6
  obtain ⟨f7, hf⟩ := fc_un (show (9 : Nat) < 100 from by decide) hf
  have f7 : n_v vs 7 = w_fd ws (v_ad (n_v vs 2)) 162 := f7
  obtain ⟨f8, hf⟩ := fc_un (show (8 : Nat) < 100 from by decide) hf
  have f8 : v_iv (n_v vs 4) ≠ 0 := f8
  obtain ⟨f9, hf⟩ := fc_un (show (7 : Nat) < 100 from by decide) hf
  have f9 : v_iv (n_v vs 5) < v_iv (n_v vs 6) := f9
  obtain ⟨f10, hf⟩ := fc_un (show (20 : Nat) < 100 from by decide) hf
  have f10 : (v_iv (n_v vs 4) = 1) → (w_ei ws (w_ar ws (n_v vs 2) 160) (w_fi ws (n_v vs 2) 158) = 1) := f10
  obtain ⟨f11, hf⟩ := fc_un (show (24 : Nat) < 100 from by decide) hf
  have f11 : n_v vs 0 = n_v vs 2 := f11
  have q2 : n_v vs 2 = n_v vs 0 := f11.symm
  rw [q2] at f2
  rw [q2] at f3
  rw [q2] at f6
  rw [q2] at f7
  rw [q2] at f10
  have cr_0_1 : ta (w_ar ws (n_v vs 0) 1) = some 151 := tv_rg (th_fd hD hth r0 (g := GG_150) rfl (k := 1) (t := (2, 0, 0, [151])) rfl rfl)
  have cr_0_160 : ta (w_ar ws (n_v vs 0) 160) = some 259 := tv_rg (th_fd hD hth r0 (g := GG_150) rfl (k := 160) (t := (2, 0, 0, [259])) rfl rfl)
  have cr_0_162 : ta (w_ar ws (n_v vs 0) 162) = some 261 := tv_rg (th_fd hD hth r0 (g := GG_150) rfl (k := 162) (t := (2, 0, 0, [261])) rfl rfl)
  have ad_7 : v_ad (n_v vs 7) = w_ar ws (n_v vs 0) 162 := congrArg v_ad f7
  rw [ad_7] at f5
  have g6 : v_iv (n_v vs 8) = w_fi ws (n_v vs 0) 158 := congrArg v_iv f6
  have hK_0_1 : ∀ j : Int, 0 ≤ j → j < 2000 → (-128) ≤ w_ei ws (w_ar ws (n_v vs 0) 1) j ∧ w_ei ws (w_ar ws (n_v vs 0) 1) j ≤ 127 := fun j h0 h1 => th_el hD hth cr_0_1 (kd := 1) (n := 2000) (m := 2000) (lo := (-128)) (hi := 127) (rs := []) (L := []) rfl (by decide) (j := j.toNat) (by omega)
  have hK_0_160 : ∀ j : Int, 0 ≤ j → j < 2010 → 0 ≤ w_ei ws (w_ar ws (n_v vs 0) 160) j ∧ w_ei ws (w_ar ws (n_v vs 0) 160) j ≤ 4 := fun j h0 h1 => th_el hD hth cr_0_160 (kd := 0) (n := 2010) (m := 2010) (lo := 0) (hi := 4) (rs := []) (L := []) rfl (by decide) (j := j.toNat) (by omega)
  have kz_0_10 : 0 ≤ w_fi ws (n_v vs 0) 10 ∧ w_fi ws (n_v vs 0) 10 ≤ 2000 := tv_rng (th_fd hD hth r0 (g := GG_150) rfl (k := 10) (t := (0, 0, 2000, [])) rfl rfl)
  have kz_0_158 : 0 ≤ w_fi ws (n_v vs 0) 158 ∧ w_fi ws (n_v vs 0) 158 ≤ 2009 := tv_rng (th_fd hD hth r0 (g := GG_150) rfl (k := 158) (t := (0, 0, 2009, [])) rfl rfl)
  have nf0 : fc_1 (20, [13, 2], [50, 1, 1, 1158, 1160, 4, 6, 1, 2, 1, 0, 0, 1, 1, 6, 3, 1, 160, 2, 1, 158, 0, 1]) ws (vs) := by
    refine ⟨fun n hn => ?_, ?_⟩
    · have hn : n ∈ [13, 2] := hn
      rw [hl]
      simp only [List.mem_cons, List.not_mem_nil, or_false] at hn
      show n < 15; omega
    · show (v_iv (n_v vs 13) = 1) → (w_ei ws (w_ar ws (n_v vs 2) 160) (w_fi ws (n_v vs 2) 158) = 1)
      rw [q2]
      first | omega | grind
  refine ⟨(fun _ h => (by cases h)), [], trivial, ?_, (fun _ h => (by cases h))⟩
  rw [List.append_nil]
  exact List.forall_mem_cons.mpr ⟨⟨show (20 : Nat) < 100 from by decide, nf0⟩, (fun _ h => (by cases h))⟩
def n_Mo_word_at_s5039_an : List an_T := [(54, [(0, (2, 0, 0, [150])), (1, (2, 0, 0, [5039])), (2, (0, 0, 1, [])), (3, (0, 0, 3, []))], [], (0, 0), [(0, 0, 99946), (1, 5, 3), (0, 0, 100000)], [(4, 5, -1000000000000, 1)], [], [(2, 0, 0, [150]), (2, 0, 0, [5039])], 0, [], [(20, [4, 2], [50, 1, 1, 1158, 1160, 4, 6, 1, 2, 1, 0, 0, 1, 1, 6, 3, 1, 160, 2, 1, 158, 0, 1]), (24, [0, 2], [])])]
def t_Mo_word_at_s5039_ct : ct_L := [(1, 425, e_Mo_byteAt), (124, 448, e_jStr_length_v308), (172, 448, e_jStr_length_v308), (253, 453, e_jStr_charAt_v309)]
set_option maxRecDepth 100000 in
theorem c_Mo_word_at_s5039 {l : Launch} {D : va_G} {kA : Nat → ClassId} (h_Mo_byteAt : ct_ok l D kA GG y_Mo_byteAt z_Mo_byteAt e_Mo_byteAt) : ct_ok l D kA GG y_Mo_word_at_s5039 z_Mo_word_at_s5039 e_Mo_word_at_s5039 := chk_all_ok (FT := [(342, 13, 160), (348, 13, 162), (351, 13, 163), (413, 13, 8), (1169, 13, 158)]) (PT := []) (CT := t_Mo_word_at_s5039_ct) (KT := []) (NT := []) (AN := n_Mo_word_at_s5039_an) (OT := [o_Mo_word_at_s5039_0, o_Mo_word_at_s5039_1, o_Mo_word_at_s5039_2, o_Mo_word_at_s5039_3, o_Mo_word_at_s5039_4, o_Mo_word_at_s5039_5, o_Mo_word_at_s5039_6, o_Mo_word_at_s5039_7, o_Mo_word_at_s5039_8]) 3 324 (List.forall_mem_cons.mpr ⟨oo_Mo_word_at_s5039_0, List.forall_mem_cons.mpr ⟨oo_Mo_word_at_s5039_1, List.forall_mem_cons.mpr ⟨oo_Mo_word_at_s5039_2, List.forall_mem_cons.mpr ⟨oo_Mo_word_at_s5039_3, List.forall_mem_cons.mpr ⟨oo_Mo_word_at_s5039_4, List.forall_mem_cons.mpr ⟨oo_Mo_word_at_s5039_5, List.forall_mem_cons.mpr ⟨oo_Mo_word_at_s5039_6, List.forall_mem_cons.mpr ⟨oo_Mo_word_at_s5039_7, List.forall_mem_cons.mpr ⟨oo_Mo_word_at_s5039_8, List.forall_mem_nil _⟩⟩⟩⟩⟩⟩⟩⟩⟩) (by decide +kernel) ⟨List.forall_mem_cons.mpr ⟨gf_Mo_342, List.forall_mem_cons.mpr ⟨gf_Mo_348, List.forall_mem_cons.mpr ⟨gf_Mo_351, List.forall_mem_cons.mpr ⟨gf_Mo_413, List.forall_mem_cons.mpr ⟨gf_Mo_1169, List.forall_mem_nil _⟩⟩⟩⟩⟩, List.forall_mem_nil _, List.forall_mem_cons.mpr ⟨cl_virtual (y := y_Mo_byteAt) (ci := 13) rfl rfl ⟨_, _, rfl⟩ (by decide +kernel) h_Mo_byteAt wm_2986 wm_9 wm_2983 wm_2985 wv_12_12 ⟨by decide, by decide, by decide +kernel⟩ (by decide), List.forall_mem_cons.mpr ⟨cl_string (y := y_jStr_length) (i := 39) rfl rfl (by decide +kernel) rfl c_jStr_length_v308 wm_674 wm_11 wm_3003 wm_672 wm_673 ⟨by decide, by decide, by decide +kernel⟩ (by decide), List.forall_mem_cons.mpr ⟨cl_string (y := y_jStr_length) (i := 39) rfl rfl (by decide +kernel) rfl c_jStr_length_v308 wm_674 wm_11 wm_3003 wm_672 wm_673 ⟨by decide, by decide, by decide +kernel⟩ (by decide), List.forall_mem_cons.mpr ⟨cl_string (y := y_jStr_charAt) (i := 39) rfl rfl (by decide +kernel) rfl c_jStr_charAt_v309 wm_684 wm_11 wm_3004 wm_682 wm_683 ⟨by decide, by decide, by decide +kernel⟩ (by decide), List.forall_mem_nil _⟩⟩⟩⟩, List.forall_mem_nil _, List.forall_mem_nil _, GG_pl⟩ (by decide +kernel)
def o_Mo_word_at_s5040_0 : or_T := (54, 5, [(0, (2, 0, 0, [150])), (3, (0, 0, 0, []))], [], [], [], [(20, [3, 0], [50, 1, 1, 1158, 1160, 4, 6, 1, 2, 1, 0, 0, 1, 1, 6, 3, 1, 160, 2, 1, 158, 0, 1]), (24, [0, 0], [])], [], [])
theorem oo_Mo_word_at_s5040_0 {kA : Nat → ClassId} : or_ok kA GG o_Mo_word_at_s5040_0 := by
  intro A ta ws vs hD hth hl hk hds hf
  have hl : vs.length = 5 := hl
  have hk : ∀ q ∈ ([(0, (2, 0, 0, [150])), (3, (0, 0, 0, []))] : List (Nat × tv_T)), tv_ok ta q.2 (n_v vs q.1) := hk
  obtain ⟨t0, hk⟩ := List.forall_mem_cons.mp hk
  have t0 : tv_ok ta (2, 0, 0, [150]) (n_v vs 0) := t0
  have r0 : ta (v_ad (n_v vs 0)) = some 150 := tv_rg t0
  obtain ⟨t3, hk⟩ := List.forall_mem_cons.mp hk
  have t3 : tv_ok ta (0, 0, 0, []) (n_v vs 3) := t3
  have k3 : 0 ≤ v_iv (n_v vs 3) ∧ v_iv (n_v vs 3) ≤ 0 := tv_rng t3
  have cr_0_160 : ta (w_ar ws (n_v vs 0) 160) = some 259 := tv_rg (th_fd hD hth r0 (g := GG_150) rfl (k := 160) (t := (2, 0, 0, [259])) rfl rfl)
  have hK_0_160 : ∀ j : Int, 0 ≤ j → j < 2010 → 0 ≤ w_ei ws (w_ar ws (n_v vs 0) 160) j ∧ w_ei ws (w_ar ws (n_v vs 0) 160) j ≤ 4 := fun j h0 h1 => th_el hD hth cr_0_160 (kd := 0) (n := 2010) (m := 2010) (lo := 0) (hi := 4) (rs := []) (L := []) rfl (by decide) (j := j.toNat) (by omega)
  have kz_0_158 : 0 ≤ w_fi ws (n_v vs 0) 158 ∧ w_fi ws (n_v vs 0) 158 ≤ 2009 := tv_rng (th_fd hD hth r0 (g := GG_150) rfl (k := 158) (t := (0, 0, 2009, [])) rfl rfl)
  have nf0 : fc_1 (20, [3, 0], [50, 1, 1, 1158, 1160, 4, 6, 1, 2, 1, 0, 0, 1, 1, 6, 3, 1, 160, 2, 1, 158, 0, 1]) ws (vs) := by
    refine ⟨fun n hn => ?_, ?_⟩
    · have hn : n ∈ [3, 0] := hn
      rw [hl]
      simp only [List.mem_cons, List.not_mem_nil, or_false] at hn
      show n < 5; omega
    · show (v_iv (n_v vs 3) = 1) → (w_ei ws (w_ar ws (n_v vs 0) 160) (w_fi ws (n_v vs 0) 158) = 1)
      first | omega | grind
  have nf1 : fc_1 (24, [0, 0], []) ws (vs) := by
    refine ⟨fun n hn => ?_, ?_⟩
    · have hn : n ∈ [0, 0] := hn
      rw [hl]
      simp only [List.mem_cons, List.not_mem_nil, or_false] at hn
      show n < 5; omega
    · show n_v vs 0 = n_v vs 0
      first | rfl | simp only [true_and]
  refine ⟨(fun _ h => (by cases h)), [], trivial, ?_, (fun _ h => (by cases h))⟩
  rw [List.append_nil]
  exact List.forall_mem_cons.mpr ⟨⟨show (20 : Nat) < 100 from by decide, nf0⟩, List.forall_mem_cons.mpr ⟨⟨show (24 : Nat) < 100 from by decide, nf1⟩, (fun _ h => (by cases h))⟩⟩
def o_Mo_word_at_s5040_1 : or_T := (54, 9, [(0, (2, 0, 0, [150])), (3, (2, 0, 0, [259])), (4, (0, 0, 2009, [])), (5, (0, 0, 4, [])), (6, (0, 1, 1, [])), (7, (0, 0, 0, []))], [(7, [5, 6], [1]), (10, [5, 3, 4], []), (9, [4, 0], [158]), (9, [3, 0], [160])], [], [], [(20, [7, 0], [50, 1, 1, 1158, 1160, 4, 6, 1, 2, 1, 0, 0, 1, 1, 6, 3, 1, 160, 2, 1, 158, 0, 1]), (24, [0, 0], [])], [], [])
theorem oo_Mo_word_at_s5040_1 {kA : Nat → ClassId} : or_ok kA GG o_Mo_word_at_s5040_1 := by
  intro A ta ws vs hD hth hl hk hds hf
  have hl : vs.length = 9 := hl
  have hk : ∀ q ∈ ([(0, (2, 0, 0, [150])), (3, (2, 0, 0, [259])), (4, (0, 0, 2009, [])), (5, (0, 0, 4, [])), (6, (0, 1, 1, [])), (7, (0, 0, 0, []))] : List (Nat × tv_T)), tv_ok ta q.2 (n_v vs q.1) := hk
  obtain ⟨t0, hk⟩ := List.forall_mem_cons.mp hk
  have t0 : tv_ok ta (2, 0, 0, [150]) (n_v vs 0) := t0
  have r0 : ta (v_ad (n_v vs 0)) = some 150 := tv_rg t0
  obtain ⟨t3, hk⟩ := List.forall_mem_cons.mp hk
  have t3 : tv_ok ta (2, 0, 0, [259]) (n_v vs 3) := t3
  have r3 : ta (v_ad (n_v vs 3)) = some 259 := tv_rg t3
  obtain ⟨t4, hk⟩ := List.forall_mem_cons.mp hk
  have t4 : tv_ok ta (0, 0, 2009, []) (n_v vs 4) := t4
  have k4 : 0 ≤ v_iv (n_v vs 4) ∧ v_iv (n_v vs 4) ≤ 2009 := tv_rng t4
  obtain ⟨t5, hk⟩ := List.forall_mem_cons.mp hk
  have t5 : tv_ok ta (0, 0, 4, []) (n_v vs 5) := t5
  have k5 : 0 ≤ v_iv (n_v vs 5) ∧ v_iv (n_v vs 5) ≤ 4 := tv_rng t5
  obtain ⟨t6, hk⟩ := List.forall_mem_cons.mp hk
  have t6 : tv_ok ta (0, 1, 1, []) (n_v vs 6) := t6
  have k6 : 1 ≤ v_iv (n_v vs 6) ∧ v_iv (n_v vs 6) ≤ 1 := tv_rng t6
  obtain ⟨t7, hk⟩ := List.forall_mem_cons.mp hk
  have t7 : tv_ok ta (0, 0, 0, []) (n_v vs 7) := t7
  have k7 : 0 ≤ v_iv (n_v vs 7) ∧ v_iv (n_v vs 7) ≤ 0 := tv_rng t7
  have hf : fc_ok [(7, [5, 6], [1]), (10, [5, 3, 4], []), (9, [4, 0], [158]), (9, [3, 0], [160])] ta ws vs := hf
  obtain ⟨f0, hf⟩ := fc_un (show (7 : Nat) < 100 from by decide) hf
  have f0 : v_iv (n_v vs 5) ≠ v_iv (n_v vs 6) := f0
  obtain ⟨f1, hf⟩ := fc_un (show (10 : Nat) < 100 from by decide) hf
  have f1 : v_iv (n_v vs 5) = w_el ws (v_ad (n_v vs 3)) (v_iv (n_v vs 4)).toNat := f1
  obtain ⟨f2, hf⟩ := fc_un (show (9 : Nat) < 100 from by decide) hf
  have f2 : n_v vs 4 = w_fd ws (v_ad (n_v vs 0)) 158 := f2
  obtain ⟨f3, hf⟩ := fc_un (show (9 : Nat) < 100 from by decide) hf
  have f3 : n_v vs 3 = w_fd ws (v_ad (n_v vs 0)) 160 := f3
  have cr_0_160 : ta (w_ar ws (n_v vs 0) 160) = some 259 := tv_rg (th_fd hD hth r0 (g := GG_150) rfl (k := 160) (t := (2, 0, 0, [259])) rfl rfl)
  have ad_3 : v_ad (n_v vs 3) = w_ar ws (n_v vs 0) 160 := congrArg v_ad f3
  rw [ad_3] at f1
  have h1 : v_iv (n_v vs 5) = w_ei ws (w_ar ws (n_v vs 0) 160) (v_iv (n_v vs 4)) := f1
  have g2 : v_iv (n_v vs 4) = w_fi ws (n_v vs 0) 158 := congrArg v_iv f2
  have br_0_160_4_0 : w_ei ws (w_ar ws (n_v vs 0) 160) (v_iv (n_v vs 4)) = w_el ws (w_ar ws (n_v vs 0) 160) (v_iv (n_v vs 4)).toNat := rfl
  have hK_0_160 : ∀ j : Int, 0 ≤ j → j < 2010 → 0 ≤ w_ei ws (w_ar ws (n_v vs 0) 160) j ∧ w_ei ws (w_ar ws (n_v vs 0) 160) j ≤ 4 := fun j h0 h1 => th_el hD hth cr_0_160 (kd := 0) (n := 2010) (m := 2010) (lo := 0) (hi := 4) (rs := []) (L := []) rfl (by decide) (j := j.toNat) (by omega)
  have kz_0_158 : 0 ≤ w_fi ws (n_v vs 0) 158 ∧ w_fi ws (n_v vs 0) 158 ≤ 2009 := tv_rng (th_fd hD hth r0 (g := GG_150) rfl (k := 158) (t := (0, 0, 2009, [])) rfl rfl)
  have nf0 : fc_1 (20, [7, 0], [50, 1, 1, 1158, 1160, 4, 6, 1, 2, 1, 0, 0, 1, 1, 6, 3, 1, 160, 2, 1, 158, 0, 1]) ws (vs) := by
    refine ⟨fun n hn => ?_, ?_⟩
    · have hn : n ∈ [7, 0] := hn
      rw [hl]
      simp only [List.mem_cons, List.not_mem_nil, or_false] at hn
      show n < 9; omega
    · show (v_iv (n_v vs 7) = 1) → (w_ei ws (w_ar ws (n_v vs 0) 160) (w_fi ws (n_v vs 0) 158) = 1)
      first | omega | grind
  have nf1 : fc_1 (24, [0, 0], []) ws (vs) := by
    refine ⟨fun n hn => ?_, ?_⟩
    · have hn : n ∈ [0, 0] := hn
      rw [hl]
      simp only [List.mem_cons, List.not_mem_nil, or_false] at hn
      show n < 9; omega
    · show n_v vs 0 = n_v vs 0
      first | rfl | simp only [true_and]
  refine ⟨(fun _ h => (by cases h)), [], trivial, ?_, (fun _ h => (by cases h))⟩
  rw [List.append_nil]
  exact List.forall_mem_cons.mpr ⟨⟨show (20 : Nat) < 100 from by decide, nf0⟩, List.forall_mem_cons.mpr ⟨⟨show (24 : Nat) < 100 from by decide, nf1⟩, (fun _ h => (by cases h))⟩⟩
def o_Mo_word_at_s5040_2 : or_T := (54, 15, [(0, (2, 0, 0, [150])), (3, (2, 0, 0, [259])), (4, (0, 0, 2009, [])), (5, (0, 1, 1, [])), (6, (0, 1, 1, [])), (13, (0, 0, 0, []))], [(9, [4, 0], [158]), (7, [5, 6], [0]), (10, [5, 3, 4], []), (9, [3, 0], [160])], [], [], [(20, [13, 0], [50, 1, 1, 1158, 1160, 4, 6, 1, 2, 1, 0, 0, 1, 1, 6, 3, 1, 160, 2, 1, 158, 0, 1]), (24, [0, 0], [])], [], [])
theorem oo_Mo_word_at_s5040_2 {kA : Nat → ClassId} : or_ok kA GG o_Mo_word_at_s5040_2 := by
  intro A ta ws vs hD hth hl hk hds hf
  have hl : vs.length = 15 := hl
  have hk : ∀ q ∈ ([(0, (2, 0, 0, [150])), (3, (2, 0, 0, [259])), (4, (0, 0, 2009, [])), (5, (0, 1, 1, [])), (6, (0, 1, 1, [])), (13, (0, 0, 0, []))] : List (Nat × tv_T)), tv_ok ta q.2 (n_v vs q.1) := hk
  obtain ⟨t0, hk⟩ := List.forall_mem_cons.mp hk
  have t0 : tv_ok ta (2, 0, 0, [150]) (n_v vs 0) := t0
  have r0 : ta (v_ad (n_v vs 0)) = some 150 := tv_rg t0
  obtain ⟨t3, hk⟩ := List.forall_mem_cons.mp hk
  have t3 : tv_ok ta (2, 0, 0, [259]) (n_v vs 3) := t3
  have r3 : ta (v_ad (n_v vs 3)) = some 259 := tv_rg t3
  obtain ⟨t4, hk⟩ := List.forall_mem_cons.mp hk
  have t4 : tv_ok ta (0, 0, 2009, []) (n_v vs 4) := t4
  have k4 : 0 ≤ v_iv (n_v vs 4) ∧ v_iv (n_v vs 4) ≤ 2009 := tv_rng t4
  obtain ⟨t5, hk⟩ := List.forall_mem_cons.mp hk
  have t5 : tv_ok ta (0, 1, 1, []) (n_v vs 5) := t5
  have k5 : 1 ≤ v_iv (n_v vs 5) ∧ v_iv (n_v vs 5) ≤ 1 := tv_rng t5
  obtain ⟨t6, hk⟩ := List.forall_mem_cons.mp hk
  have t6 : tv_ok ta (0, 1, 1, []) (n_v vs 6) := t6
  have k6 : 1 ≤ v_iv (n_v vs 6) ∧ v_iv (n_v vs 6) ≤ 1 := tv_rng t6
  obtain ⟨t13, hk⟩ := List.forall_mem_cons.mp hk
  have t13 : tv_ok ta (0, 0, 0, []) (n_v vs 13) := t13
  have k13 : 0 ≤ v_iv (n_v vs 13) ∧ v_iv (n_v vs 13) ≤ 0 := tv_rng t13
  have hf : fc_ok [(9, [4, 0], [158]), (7, [5, 6], [0]), (10, [5, 3, 4], []), (9, [3, 0], [160])] ta ws vs := hf
  obtain ⟨f0, hf⟩ := fc_un (show (9 : Nat) < 100 from by decide) hf
  have f0 : n_v vs 4 = w_fd ws (v_ad (n_v vs 0)) 158 := f0
  obtain ⟨f1, hf⟩ := fc_un (show (7 : Nat) < 100 from by decide) hf
  have f1 : v_iv (n_v vs 5) = v_iv (n_v vs 6) := f1
  obtain ⟨f2, hf⟩ := fc_un (show (10 : Nat) < 100 from by decide) hf
  have f2 : v_iv (n_v vs 5) = w_el ws (v_ad (n_v vs 3)) (v_iv (n_v vs 4)).toNat := f2
  obtain ⟨f3, hf⟩ := fc_un (show (9 : Nat) < 100 from by decide) hf
  have f3 : n_v vs 3 = w_fd ws (v_ad (n_v vs 0)) 160 := f3
  have cr_0_160 : ta (w_ar ws (n_v vs 0) 160) = some 259 := tv_rg (th_fd hD hth r0 (g := GG_150) rfl (k := 160) (t := (2, 0, 0, [259])) rfl rfl)
  have ad_3 : v_ad (n_v vs 3) = w_ar ws (n_v vs 0) 160 := congrArg v_ad f3
  have g0 : v_iv (n_v vs 4) = w_fi ws (n_v vs 0) 158 := congrArg v_iv f0
  rw [ad_3] at f2
  have h2 : v_iv (n_v vs 5) = w_ei ws (w_ar ws (n_v vs 0) 160) (v_iv (n_v vs 4)) := f2
  have br_0_160_4_0 : w_ei ws (w_ar ws (n_v vs 0) 160) (v_iv (n_v vs 4)) = w_el ws (w_ar ws (n_v vs 0) 160) (v_iv (n_v vs 4)).toNat := rfl
  have hK_0_160 : ∀ j : Int, 0 ≤ j → j < 2010 → 0 ≤ w_ei ws (w_ar ws (n_v vs 0) 160) j ∧ w_ei ws (w_ar ws (n_v vs 0) 160) j ≤ 4 := fun j h0 h1 => th_el hD hth cr_0_160 (kd := 0) (n := 2010) (m := 2010) (lo := 0) (hi := 4) (rs := []) (L := []) rfl (by decide) (j := j.toNat) (by omega)
  have kz_0_158 : 0 ≤ w_fi ws (n_v vs 0) 158 ∧ w_fi ws (n_v vs 0) 158 ≤ 2009 := tv_rng (th_fd hD hth r0 (g := GG_150) rfl (k := 158) (t := (0, 0, 2009, [])) rfl rfl)
  have nf0 : fc_1 (20, [13, 0], [50, 1, 1, 1158, 1160, 4, 6, 1, 2, 1, 0, 0, 1, 1, 6, 3, 1, 160, 2, 1, 158, 0, 1]) ws (vs) := by
    refine ⟨fun n hn => ?_, ?_⟩
    · have hn : n ∈ [13, 0] := hn
      rw [hl]
      simp only [List.mem_cons, List.not_mem_nil, or_false] at hn
      show n < 15; omega
    · show (v_iv (n_v vs 13) = 1) → (w_ei ws (w_ar ws (n_v vs 0) 160) (w_fi ws (n_v vs 0) 158) = 1)
      first | omega | grind
  have nf1 : fc_1 (24, [0, 0], []) ws (vs) := by
    refine ⟨fun n hn => ?_, ?_⟩
    · have hn : n ∈ [0, 0] := hn
      rw [hl]
      simp only [List.mem_cons, List.not_mem_nil, or_false] at hn
      show n < 15; omega
    · show n_v vs 0 = n_v vs 0
      first | rfl | simp only [true_and]
  refine ⟨(fun _ h => (by cases h)), [], trivial, ?_, (fun _ h => (by cases h))⟩
  rw [List.append_nil]
  exact List.forall_mem_cons.mpr ⟨⟨show (20 : Nat) < 100 from by decide, nf0⟩, List.forall_mem_cons.mpr ⟨⟨show (24 : Nat) < 100 from by decide, nf1⟩, (fun _ h => (by cases h))⟩⟩
def o_Mo_word_at_s5040_3 : or_T := (54, 15, [(0, (2, 0, 0, [150])), (3, (2, 0, 0, [259])), (4, (0, 0, 2009, [])), (5, (0, 1, 1, [])), (6, (0, 1, 1, [])), (13, (0, 1, 1, []))], [(9, [4, 0], [158]), (7, [5, 6], [0]), (10, [5, 3, 4], []), (9, [3, 0], [160])], [], [], [(20, [13, 0], [50, 1, 1, 1158, 1160, 4, 6, 1, 2, 1, 0, 0, 1, 1, 6, 3, 1, 160, 2, 1, 158, 0, 1]), (24, [0, 0], [])], [], [])
theorem oo_Mo_word_at_s5040_3 {kA : Nat → ClassId} : or_ok kA GG o_Mo_word_at_s5040_3 := by
  intro A ta ws vs hD hth hl hk hds hf
  have hl : vs.length = 15 := hl
  have hk : ∀ q ∈ ([(0, (2, 0, 0, [150])), (3, (2, 0, 0, [259])), (4, (0, 0, 2009, [])), (5, (0, 1, 1, [])), (6, (0, 1, 1, [])), (13, (0, 1, 1, []))] : List (Nat × tv_T)), tv_ok ta q.2 (n_v vs q.1) := hk
  obtain ⟨t0, hk⟩ := List.forall_mem_cons.mp hk
  have t0 : tv_ok ta (2, 0, 0, [150]) (n_v vs 0) := t0
  have r0 : ta (v_ad (n_v vs 0)) = some 150 := tv_rg t0
  obtain ⟨t3, hk⟩ := List.forall_mem_cons.mp hk
  have t3 : tv_ok ta (2, 0, 0, [259]) (n_v vs 3) := t3
  have r3 : ta (v_ad (n_v vs 3)) = some 259 := tv_rg t3
  obtain ⟨t4, hk⟩ := List.forall_mem_cons.mp hk
  have t4 : tv_ok ta (0, 0, 2009, []) (n_v vs 4) := t4
  have k4 : 0 ≤ v_iv (n_v vs 4) ∧ v_iv (n_v vs 4) ≤ 2009 := tv_rng t4
  obtain ⟨t5, hk⟩ := List.forall_mem_cons.mp hk
  have t5 : tv_ok ta (0, 1, 1, []) (n_v vs 5) := t5
  have k5 : 1 ≤ v_iv (n_v vs 5) ∧ v_iv (n_v vs 5) ≤ 1 := tv_rng t5
  obtain ⟨t6, hk⟩ := List.forall_mem_cons.mp hk
  have t6 : tv_ok ta (0, 1, 1, []) (n_v vs 6) := t6
  have k6 : 1 ≤ v_iv (n_v vs 6) ∧ v_iv (n_v vs 6) ≤ 1 := tv_rng t6
  obtain ⟨t13, hk⟩ := List.forall_mem_cons.mp hk
  have t13 : tv_ok ta (0, 1, 1, []) (n_v vs 13) := t13
  have k13 : 1 ≤ v_iv (n_v vs 13) ∧ v_iv (n_v vs 13) ≤ 1 := tv_rng t13
  have hf : fc_ok [(9, [4, 0], [158]), (7, [5, 6], [0]), (10, [5, 3, 4], []), (9, [3, 0], [160])] ta ws vs := hf
  obtain ⟨f0, hf⟩ := fc_un (show (9 : Nat) < 100 from by decide) hf
  have f0 : n_v vs 4 = w_fd ws (v_ad (n_v vs 0)) 158 := f0
  obtain ⟨f1, hf⟩ := fc_un (show (7 : Nat) < 100 from by decide) hf
  have f1 : v_iv (n_v vs 5) = v_iv (n_v vs 6) := f1
  obtain ⟨f2, hf⟩ := fc_un (show (10 : Nat) < 100 from by decide) hf
  have f2 : v_iv (n_v vs 5) = w_el ws (v_ad (n_v vs 3)) (v_iv (n_v vs 4)).toNat := f2
  obtain ⟨f3, hf⟩ := fc_un (show (9 : Nat) < 100 from by decide) hf
  have f3 : n_v vs 3 = w_fd ws (v_ad (n_v vs 0)) 160 := f3
  have cr_0_160 : ta (w_ar ws (n_v vs 0) 160) = some 259 := tv_rg (th_fd hD hth r0 (g := GG_150) rfl (k := 160) (t := (2, 0, 0, [259])) rfl rfl)
  have ad_3 : v_ad (n_v vs 3) = w_ar ws (n_v vs 0) 160 := congrArg v_ad f3
  have g0 : v_iv (n_v vs 4) = w_fi ws (n_v vs 0) 158 := congrArg v_iv f0
  rw [ad_3] at f2
  have h2 : v_iv (n_v vs 5) = w_ei ws (w_ar ws (n_v vs 0) 160) (v_iv (n_v vs 4)) := f2
  have br_0_160_4_0 : w_ei ws (w_ar ws (n_v vs 0) 160) (v_iv (n_v vs 4)) = w_el ws (w_ar ws (n_v vs 0) 160) (v_iv (n_v vs 4)).toNat := rfl
  have hK_0_160 : ∀ j : Int, 0 ≤ j → j < 2010 → 0 ≤ w_ei ws (w_ar ws (n_v vs 0) 160) j ∧ w_ei ws (w_ar ws (n_v vs 0) 160) j ≤ 4 := fun j h0 h1 => th_el hD hth cr_0_160 (kd := 0) (n := 2010) (m := 2010) (lo := 0) (hi := 4) (rs := []) (L := []) rfl (by decide) (j := j.toNat) (by omega)
  have kz_0_158 : 0 ≤ w_fi ws (n_v vs 0) 158 ∧ w_fi ws (n_v vs 0) 158 ≤ 2009 := tv_rng (th_fd hD hth r0 (g := GG_150) rfl (k := 158) (t := (0, 0, 2009, [])) rfl rfl)
  have nf0 : fc_1 (20, [13, 0], [50, 1, 1, 1158, 1160, 4, 6, 1, 2, 1, 0, 0, 1, 1, 6, 3, 1, 160, 2, 1, 158, 0, 1]) ws (vs) := by
    refine ⟨fun n hn => ?_, ?_⟩
    · have hn : n ∈ [13, 0] := hn
      rw [hl]
      simp only [List.mem_cons, List.not_mem_nil, or_false] at hn
      show n < 15; omega
    · show (v_iv (n_v vs 13) = 1) → (w_ei ws (w_ar ws (n_v vs 0) 160) (w_fi ws (n_v vs 0) 158) = 1)
      first | omega | grind
  have nf1 : fc_1 (24, [0, 0], []) ws (vs) := by
    refine ⟨fun n hn => ?_, ?_⟩
    · have hn : n ∈ [0, 0] := hn
      rw [hl]
      simp only [List.mem_cons, List.not_mem_nil, or_false] at hn
      show n < 15; omega
    · show n_v vs 0 = n_v vs 0
      first | rfl | simp only [true_and]
  refine ⟨(fun _ h => (by cases h)), [], trivial, ?_, (fun _ h => (by cases h))⟩
  rw [List.append_nil]
  exact List.forall_mem_cons.mpr ⟨⟨show (20 : Nat) < 100 from by decide, nf0⟩, List.forall_mem_cons.mpr ⟨⟨show (24 : Nat) < 100 from by decide, nf1⟩, (fun _ h => (by cases h))⟩⟩
def o_Mo_word_at_s5040_4 : or_T := (102, 7, [(0, (2, 0, 0, [150])), (2, (2, 0, 0, [150])), (4, (0, 0, 1, []))], [(20, [4, 2], [50, 1, 1, 1158, 1160, 4, 6, 1, 2, 1, 0, 0, 1, 1, 6, 3, 1, 160, 2, 1, 158, 0, 1]), (24, [0, 2], [])], [], [], [(20, [4, 0], [50, 1, 1, 1158, 1160, 4, 6, 1, 2, 1, 0, 0, 1, 1, 6, 3, 1, 160, 2, 1, 158, 0, 1])], [], [])
theorem oo_Mo_word_at_s5040_4 {kA : Nat → ClassId} : or_ok kA GG o_Mo_word_at_s5040_4 := by
  intro A ta ws vs hD hth hl hk hds hf
  have hl : vs.length = 7 := hl
  have hk : ∀ q ∈ ([(0, (2, 0, 0, [150])), (2, (2, 0, 0, [150])), (4, (0, 0, 1, []))] : List (Nat × tv_T)), tv_ok ta q.2 (n_v vs q.1) := hk
  obtain ⟨t0, hk⟩ := List.forall_mem_cons.mp hk
  have t0 : tv_ok ta (2, 0, 0, [150]) (n_v vs 0) := t0
  have r0 : ta (v_ad (n_v vs 0)) = some 150 := tv_rg t0
  obtain ⟨t2, hk⟩ := List.forall_mem_cons.mp hk
  have t2 : tv_ok ta (2, 0, 0, [150]) (n_v vs 2) := t2
  have r2 : ta (v_ad (n_v vs 2)) = some 150 := tv_rg t2
  obtain ⟨t4, hk⟩ := List.forall_mem_cons.mp hk
  have t4 : tv_ok ta (0, 0, 1, []) (n_v vs 4) := t4
  have k4 : 0 ≤ v_iv (n_v vs 4) ∧ v_iv (n_v vs 4) ≤ 1 := tv_rng t4
  have hf : fc_ok [(20, [4, 2], [50, 1, 1, 1158, 1160, 4, 6, 1, 2, 1, 0, 0, 1, 1, 6, 3, 1, 160, 2, 1, 158, 0, 1]), (24, [0, 2], [])] ta ws vs := hf
  obtain ⟨f0, hf⟩ := fc_un (show (20 : Nat) < 100 from by decide) hf
  have f0 : (v_iv (n_v vs 4) = 1) → (w_ei ws (w_ar ws (n_v vs 2) 160) (w_fi ws (n_v vs 2) 158) = 1) := f0
  obtain ⟨f1, hf⟩ := fc_un (show (24 : Nat) < 100 from by decide) hf
  have f1 : n_v vs 0 = n_v vs 2 := f1
  have q2 : n_v vs 2 = n_v vs 0 := f1.symm
  rw [q2] at f0
  have cr_0_160 : ta (w_ar ws (n_v vs 0) 160) = some 259 := tv_rg (th_fd hD hth r0 (g := GG_150) rfl (k := 160) (t := (2, 0, 0, [259])) rfl rfl)
  have hK_0_160 : ∀ j : Int, 0 ≤ j → j < 2010 → 0 ≤ w_ei ws (w_ar ws (n_v vs 0) 160) j ∧ w_ei ws (w_ar ws (n_v vs 0) 160) j ≤ 4 := fun j h0 h1 => th_el hD hth cr_0_160 (kd := 0) (n := 2010) (m := 2010) (lo := 0) (hi := 4) (rs := []) (L := []) rfl (by decide) (j := j.toNat) (by omega)
  have kz_0_158 : 0 ≤ w_fi ws (n_v vs 0) 158 ∧ w_fi ws (n_v vs 0) 158 ≤ 2009 := tv_rng (th_fd hD hth r0 (g := GG_150) rfl (k := 158) (t := (0, 0, 2009, [])) rfl rfl)
  have nf0 : fc_1 (20, [4, 0], [50, 1, 1, 1158, 1160, 4, 6, 1, 2, 1, 0, 0, 1, 1, 6, 3, 1, 160, 2, 1, 158, 0, 1]) ws (vs) := by
    refine ⟨fun n hn => ?_, ?_⟩
    · have hn : n ∈ [4, 0] := hn
      rw [hl]
      simp only [List.mem_cons, List.not_mem_nil, or_false] at hn
      show n < 7; omega
    · show (v_iv (n_v vs 4) = 1) → (w_ei ws (w_ar ws (n_v vs 0) 160) (w_fi ws (n_v vs 0) 158) = 1)
      first | omega | grind
  refine ⟨(fun _ h => (by cases h)), [], trivial, ?_, (fun _ h => (by cases h))⟩
  rw [List.append_nil]
  exact List.forall_mem_cons.mpr ⟨⟨show (20 : Nat) < 100 from by decide, nf0⟩, (fun _ h => (by cases h))⟩
def o_Mo_word_at_s5040_5 : or_T := (102, 7, [(0, (2, 0, 0, [150])), (2, (2, 0, 0, [150])), (4, (0, 0, 0, []))], [(8, [4], [0]), (20, [4, 2], [50, 1, 1, 1158, 1160, 4, 6, 1, 2, 1, 0, 0, 1, 1, 6, 3, 1, 160, 2, 1, 158, 0, 1]), (24, [0, 2], [])], [], [], [(20, [4, 0], [50, 1, 1, 1158, 1160, 4, 6, 1, 2, 1, 0, 0, 1, 1, 6, 3, 1, 160, 2, 1, 158, 0, 1])], [], [])
theorem oo_Mo_word_at_s5040_5 {kA : Nat → ClassId} : or_ok kA GG o_Mo_word_at_s5040_5 := by
  intro A ta ws vs hD hth hl hk hds hf
  have hl : vs.length = 7 := hl
  have hk : ∀ q ∈ ([(0, (2, 0, 0, [150])), (2, (2, 0, 0, [150])), (4, (0, 0, 0, []))] : List (Nat × tv_T)), tv_ok ta q.2 (n_v vs q.1) := hk
  obtain ⟨t0, hk⟩ := List.forall_mem_cons.mp hk
  have t0 : tv_ok ta (2, 0, 0, [150]) (n_v vs 0) := t0
  have r0 : ta (v_ad (n_v vs 0)) = some 150 := tv_rg t0
  obtain ⟨t2, hk⟩ := List.forall_mem_cons.mp hk
  have t2 : tv_ok ta (2, 0, 0, [150]) (n_v vs 2) := t2
  have r2 : ta (v_ad (n_v vs 2)) = some 150 := tv_rg t2
  obtain ⟨t4, hk⟩ := List.forall_mem_cons.mp hk
  have t4 : tv_ok ta (0, 0, 0, []) (n_v vs 4) := t4
  have k4 : 0 ≤ v_iv (n_v vs 4) ∧ v_iv (n_v vs 4) ≤ 0 := tv_rng t4
  have hf : fc_ok [(8, [4], [0]), (20, [4, 2], [50, 1, 1, 1158, 1160, 4, 6, 1, 2, 1, 0, 0, 1, 1, 6, 3, 1, 160, 2, 1, 158, 0, 1]), (24, [0, 2], [])] ta ws vs := hf
  obtain ⟨f0, hf⟩ := fc_un (show (8 : Nat) < 100 from by decide) hf
  have f0 : v_iv (n_v vs 4) = 0 := f0
  obtain ⟨f1, hf⟩ := fc_un (show (20 : Nat) < 100 from by decide) hf
  have f1 : (v_iv (n_v vs 4) = 1) → (w_ei ws (w_ar ws (n_v vs 2) 160) (w_fi ws (n_v vs 2) 158) = 1) := f1
  obtain ⟨f2, hf⟩ := fc_un (show (24 : Nat) < 100 from by decide) hf
  have f2 : n_v vs 0 = n_v vs 2 := f2
  have q2 : n_v vs 2 = n_v vs 0 := f2.symm
  rw [q2] at f1
  have cr_0_160 : ta (w_ar ws (n_v vs 0) 160) = some 259 := tv_rg (th_fd hD hth r0 (g := GG_150) rfl (k := 160) (t := (2, 0, 0, [259])) rfl rfl)
  have hK_0_160 : ∀ j : Int, 0 ≤ j → j < 2010 → 0 ≤ w_ei ws (w_ar ws (n_v vs 0) 160) j ∧ w_ei ws (w_ar ws (n_v vs 0) 160) j ≤ 4 := fun j h0 h1 => th_el hD hth cr_0_160 (kd := 0) (n := 2010) (m := 2010) (lo := 0) (hi := 4) (rs := []) (L := []) rfl (by decide) (j := j.toNat) (by omega)
  have kz_0_158 : 0 ≤ w_fi ws (n_v vs 0) 158 ∧ w_fi ws (n_v vs 0) 158 ≤ 2009 := tv_rng (th_fd hD hth r0 (g := GG_150) rfl (k := 158) (t := (0, 0, 2009, [])) rfl rfl)
  have nf0 : fc_1 (20, [4, 0], [50, 1, 1, 1158, 1160, 4, 6, 1, 2, 1, 0, 0, 1, 1, 6, 3, 1, 160, 2, 1, 158, 0, 1]) ws (vs) := by
    refine ⟨fun n hn => ?_, ?_⟩
    · have hn : n ∈ [4, 0] := hn
      rw [hl]
      simp only [List.mem_cons, List.not_mem_nil, or_false] at hn
      show n < 7; omega
    · show (v_iv (n_v vs 4) = 1) → (w_ei ws (w_ar ws (n_v vs 0) 160) (w_fi ws (n_v vs 0) 158) = 1)
      first | omega | grind
  refine ⟨(fun _ h => (by cases h)), [], trivial, ?_, (fun _ h => (by cases h))⟩
  rw [List.append_nil]
  exact List.forall_mem_cons.mpr ⟨⟨show (20 : Nat) < 100 from by decide, nf0⟩, (fun _ h => (by cases h))⟩
def o_Mo_word_at_s5040_6 : or_T := (54, 15, [(0, (2, 0, 0, [150])), (2, (2, 0, 0, [150])), (4, (0, 1, 1, [])), (5, (0, 0, 2, [])), (6, (0, 3, 3, [])), (7, (2, 0, 0, [261])), (8, (0, 0, 2009, [])), (9, (0, 0, 2000, [])), (10, (0, 0, 2002, [])), (11, (0, -1, -1, [])), (12, (0, 0, 65535, [])), (13, (0, 0, 0, [])), (14, (0, 1, 3, []))], [(6, [14, 5], [1]), (7, [11, 12], [1]), (20, [10, 2, 11], [50, 1, 1, 1010, 1001, 4, 11, 0, 6, 4, 2, 1, 0, 0, 1, 2, 1, 10, 1, 2, 1, 2, 9, 5, 3, 1, 1, 1, 0, 0, 256]), (20, [2, 10, 11], [50, 1, 0, 10, 4, 7, 0, 3, 2, 0, 10, 1, 1, 1, 2, 1, 2, 0, -1]), (1, [10, 9, 5], []), (10, [9, 7, 8], []), (9, [8, 2], [158]), (9, [7, 2], [162]), (8, [4], [1]), (7, [5, 6], [2]), (20, [4, 2], [50, 1, 1, 1158, 1160, 4, 6, 1, 2, 1, 0, 0, 1, 1, 6, 3, 1, 160, 2, 1, 158, 0, 1]), (24, [0, 2], [])], [], [], [(20, [13, 2], [50, 1, 1, 1158, 1160, 4, 6, 1, 2, 1, 0, 0, 1, 1, 6, 3, 1, 160, 2, 1, 158, 0, 1])], [], [(14, 5, 1, 1), (10, 5, 0, 2000), (10, 9, 0, 2), (4, 5, -4294967296, 1)])
theorem oo_Mo_word_at_s5040_6 {kA : Nat → ClassId} : or_ok kA GG o_Mo_word_at_s5040_6 := by
  intro A ta ws vs hD hth hl hk hds hf
  have hl : vs.length = 15 := hl
  have hk : ∀ q ∈ ([(0, (2, 0, 0, [150])), (2, (2, 0, 0, [150])), (4, (0, 1, 1, [])), (5, (0, 0, 2, [])), (6, (0, 3, 3, [])), (7, (2, 0, 0, [261])), (8, (0, 0, 2009, [])), (9, (0, 0, 2000, [])), (10, (0, 0, 2002, [])), (11, (0, -1, -1, [])), (12, (0, 0, 65535, [])), (13, (0, 0, 0, [])), (14, (0, 1, 3, []))] : List (Nat × tv_T)), tv_ok ta q.2 (n_v vs q.1) := hk
  obtain ⟨t0, hk⟩ := List.forall_mem_cons.mp hk
  have t0 : tv_ok ta (2, 0, 0, [150]) (n_v vs 0) := t0
  have r0 : ta (v_ad (n_v vs 0)) = some 150 := tv_rg t0
  obtain ⟨t2, hk⟩ := List.forall_mem_cons.mp hk
  have t2 : tv_ok ta (2, 0, 0, [150]) (n_v vs 2) := t2
  have r2 : ta (v_ad (n_v vs 2)) = some 150 := tv_rg t2
  obtain ⟨t4, hk⟩ := List.forall_mem_cons.mp hk
  have t4 : tv_ok ta (0, 1, 1, []) (n_v vs 4) := t4
  have k4 : 1 ≤ v_iv (n_v vs 4) ∧ v_iv (n_v vs 4) ≤ 1 := tv_rng t4
  obtain ⟨t5, hk⟩ := List.forall_mem_cons.mp hk
  have t5 : tv_ok ta (0, 0, 2, []) (n_v vs 5) := t5
  have k5 : 0 ≤ v_iv (n_v vs 5) ∧ v_iv (n_v vs 5) ≤ 2 := tv_rng t5
  obtain ⟨t6, hk⟩ := List.forall_mem_cons.mp hk
  have t6 : tv_ok ta (0, 3, 3, []) (n_v vs 6) := t6
  have k6 : 3 ≤ v_iv (n_v vs 6) ∧ v_iv (n_v vs 6) ≤ 3 := tv_rng t6
  obtain ⟨t7, hk⟩ := List.forall_mem_cons.mp hk
  have t7 : tv_ok ta (2, 0, 0, [261]) (n_v vs 7) := t7
  have r7 : ta (v_ad (n_v vs 7)) = some 261 := tv_rg t7
  obtain ⟨t8, hk⟩ := List.forall_mem_cons.mp hk
  have t8 : tv_ok ta (0, 0, 2009, []) (n_v vs 8) := t8
  have k8 : 0 ≤ v_iv (n_v vs 8) ∧ v_iv (n_v vs 8) ≤ 2009 := tv_rng t8
  obtain ⟨t9, hk⟩ := List.forall_mem_cons.mp hk
  have t9 : tv_ok ta (0, 0, 2000, []) (n_v vs 9) := t9
  have k9 : 0 ≤ v_iv (n_v vs 9) ∧ v_iv (n_v vs 9) ≤ 2000 := tv_rng t9
  obtain ⟨t10, hk⟩ := List.forall_mem_cons.mp hk
  have t10 : tv_ok ta (0, 0, 2002, []) (n_v vs 10) := t10
  have k10 : 0 ≤ v_iv (n_v vs 10) ∧ v_iv (n_v vs 10) ≤ 2002 := tv_rng t10
  obtain ⟨t11, hk⟩ := List.forall_mem_cons.mp hk
  have t11 : tv_ok ta (0, -1, -1, []) (n_v vs 11) := t11
  have k11 : (-1) ≤ v_iv (n_v vs 11) ∧ v_iv (n_v vs 11) ≤ (-1) := tv_rng t11
  obtain ⟨t12, hk⟩ := List.forall_mem_cons.mp hk
  have t12 : tv_ok ta (0, 0, 65535, []) (n_v vs 12) := t12
  have k12 : 0 ≤ v_iv (n_v vs 12) ∧ v_iv (n_v vs 12) ≤ 65535 := tv_rng t12
  obtain ⟨t13, hk⟩ := List.forall_mem_cons.mp hk
  have t13 : tv_ok ta (0, 0, 0, []) (n_v vs 13) := t13
  have k13 : 0 ≤ v_iv (n_v vs 13) ∧ v_iv (n_v vs 13) ≤ 0 := tv_rng t13
  obtain ⟨t14, hk⟩ := List.forall_mem_cons.mp hk
  have t14 : tv_ok ta (0, 1, 3, []) (n_v vs 14) := t14
  have k14 : 1 ≤ v_iv (n_v vs 14) ∧ v_iv (n_v vs 14) ≤ 3 := tv_rng t14
  have hds : ∀ q ∈ ([(14, 5, 1, 1), (10, 5, 0, 2000), (10, 9, 0, 2), (4, 5, -4294967296, 1)] : List of_T), n_iv vs q.2.1 + q.2.2.1 ≤ n_iv vs q.1 ∧ n_iv vs q.1 ≤ n_iv vs q.2.1 + q.2.2.2 := hds
  obtain ⟨d0, hds⟩ := List.forall_mem_cons.mp hds
  have d0 : v_iv (n_v vs 5) + 1 ≤ v_iv (n_v vs 14) ∧ v_iv (n_v vs 14) ≤ v_iv (n_v vs 5) + 1 := d0
  obtain ⟨d1, hds⟩ := List.forall_mem_cons.mp hds
  have d1 : v_iv (n_v vs 5) + 0 ≤ v_iv (n_v vs 10) ∧ v_iv (n_v vs 10) ≤ v_iv (n_v vs 5) + 2000 := d1
  obtain ⟨d2, hds⟩ := List.forall_mem_cons.mp hds
  have d2 : v_iv (n_v vs 9) + 0 ≤ v_iv (n_v vs 10) ∧ v_iv (n_v vs 10) ≤ v_iv (n_v vs 9) + 2 := d2
  obtain ⟨d3, hds⟩ := List.forall_mem_cons.mp hds
  have d3 : v_iv (n_v vs 5) + (-4294967296) ≤ v_iv (n_v vs 4) ∧ v_iv (n_v vs 4) ≤ v_iv (n_v vs 5) + 1 := d3
  have hf : fc_ok [(6, [14, 5], [1]), (7, [11, 12], [1]), (20, [10, 2, 11], [50, 1, 1, 1010, 1001, 4, 11, 0, 6, 4, 2, 1, 0, 0, 1, 2, 1, 10, 1, 2, 1, 2, 9, 5, 3, 1, 1, 1, 0, 0, 256]), (20, [2, 10, 11], [50, 1, 0, 10, 4, 7, 0, 3, 2, 0, 10, 1, 1, 1, 2, 1, 2, 0, -1]), (1, [10, 9, 5], []), (10, [9, 7, 8], []), (9, [8, 2], [158]), (9, [7, 2], [162]), (8, [4], [1]), (7, [5, 6], [2]), (20, [4, 2], [50, 1, 1, 1158, 1160, 4, 6, 1, 2, 1, 0, 0, 1, 1, 6, 3, 1, 160, 2, 1, 158, 0, 1]), (24, [0, 2], [])] ta ws vs := hf
  obtain ⟨f0, hf⟩ := fc_un (show (6 : Nat) < 100 from by decide) hf
  have f0 : v_iv (n_v vs 14) = v_iv (n_v vs 5) + 1 := f0
  obtain ⟨f1, hf⟩ := fc_un (show (7 : Nat) < 100 from by decide) hf
  have f1 : v_iv (n_v vs 11) ≠ v_iv (n_v vs 12) := f1
  obtain ⟨f2, hf⟩ := fc_un (show (20 : Nat) < 100 from by decide) hf
  have f2 : ((v_iv (n_v vs 10) + 1) ≤ w_fi ws (n_v vs 2) 10) → (v_iv (n_v vs 11) = (w_ei ws (w_ar ws (n_v vs 2) 1) (v_iv (n_v vs 10)) % 256)) := f2
  obtain ⟨f3, hf⟩ := fc_un (show (20 : Nat) < 100 from by decide) hf
  have f3 : (w_fi ws (n_v vs 2) 10 ≤ v_iv (n_v vs 10)) → (v_iv (n_v vs 11) = (-1)) := f3
  obtain ⟨f4, hf⟩ := fc_un (show (1 : Nat) < 100 from by decide) hf
  have f4 : v_iv (n_v vs 10) = v_iv (n_v vs 9) + v_iv (n_v vs 5) := f4
  obtain ⟨f5, hf⟩ := fc_un (show (10 : Nat) < 100 from by decide) hf
  have f5 : v_iv (n_v vs 9) = w_el ws (v_ad (n_v vs 7)) (v_iv (n_v vs 8)).toNat := f5
  obtain ⟨f6, hf⟩ := fc_un (show (9 : Nat) < 100 from by decide) hf
  have f6 : n_v vs 8 = w_fd ws (v_ad (n_v vs 2)) 158 := f6
  obtain ⟨f7, hf⟩ := fc_un (show (9 : Nat) < 100 from by decide) hf
  have f7 : n_v vs 7 = w_fd ws (v_ad (n_v vs 2)) 162 := f7
  obtain ⟨f8, hf⟩ := fc_un (show (8 : Nat) < 100 from by decide) hf
  have f8 : v_iv (n_v vs 4) ≠ 0 := f8
  obtain ⟨f9, hf⟩ := fc_un (show (7 : Nat) < 100 from by decide) hf
  have f9 : v_iv (n_v vs 5) < v_iv (n_v vs 6) := f9
  obtain ⟨f10, hf⟩ := fc_un (show (20 : Nat) < 100 from by decide) hf
  have f10 : (v_iv (n_v vs 4) = 1) → (w_ei ws (w_ar ws (n_v vs 2) 160) (w_fi ws (n_v vs 2) 158) = 1) := f10
  obtain ⟨f11, hf⟩ := fc_un (show (24 : Nat) < 100 from by decide) hf
  have f11 : n_v vs 0 = n_v vs 2 := f11
  have q2 : n_v vs 2 = n_v vs 0 := f11.symm
  rw [q2] at f2
  rw [q2] at f3
  rw [q2] at f6
  rw [q2] at f7
  rw [q2] at f10
  have cr_0_1 : ta (w_ar ws (n_v vs 0) 1) = some 151 := tv_rg (th_fd hD hth r0 (g := GG_150) rfl (k := 1) (t := (2, 0, 0, [151])) rfl rfl)
  have cr_0_160 : ta (w_ar ws (n_v vs 0) 160) = some 259 := tv_rg (th_fd hD hth r0 (g := GG_150) rfl (k := 160) (t := (2, 0, 0, [259])) rfl rfl)
  have cr_0_162 : ta (w_ar ws (n_v vs 0) 162) = some 261 := tv_rg (th_fd hD hth r0 (g := GG_150) rfl (k := 162) (t := (2, 0, 0, [261])) rfl rfl)
  have ad_7 : v_ad (n_v vs 7) = w_ar ws (n_v vs 0) 162 := congrArg v_ad f7
  rw [ad_7] at f5
  have g6 : v_iv (n_v vs 8) = w_fi ws (n_v vs 0) 158 := congrArg v_iv f6
  have hK_0_1 : ∀ j : Int, 0 ≤ j → j < 2000 → (-128) ≤ w_ei ws (w_ar ws (n_v vs 0) 1) j ∧ w_ei ws (w_ar ws (n_v vs 0) 1) j ≤ 127 := fun j h0 h1 => th_el hD hth cr_0_1 (kd := 1) (n := 2000) (m := 2000) (lo := (-128)) (hi := 127) (rs := []) (L := []) rfl (by decide) (j := j.toNat) (by omega)
  have hK_0_160 : ∀ j : Int, 0 ≤ j → j < 2010 → 0 ≤ w_ei ws (w_ar ws (n_v vs 0) 160) j ∧ w_ei ws (w_ar ws (n_v vs 0) 160) j ≤ 4 := fun j h0 h1 => th_el hD hth cr_0_160 (kd := 0) (n := 2010) (m := 2010) (lo := 0) (hi := 4) (rs := []) (L := []) rfl (by decide) (j := j.toNat) (by omega)
  have kz_0_10 : 0 ≤ w_fi ws (n_v vs 0) 10 ∧ w_fi ws (n_v vs 0) 10 ≤ 2000 := tv_rng (th_fd hD hth r0 (g := GG_150) rfl (k := 10) (t := (0, 0, 2000, [])) rfl rfl)
  have kz_0_158 : 0 ≤ w_fi ws (n_v vs 0) 158 ∧ w_fi ws (n_v vs 0) 158 ≤ 2009 := tv_rng (th_fd hD hth r0 (g := GG_150) rfl (k := 158) (t := (0, 0, 2009, [])) rfl rfl)
  have nf0 : fc_1 (20, [13, 2], [50, 1, 1, 1158, 1160, 4, 6, 1, 2, 1, 0, 0, 1, 1, 6, 3, 1, 160, 2, 1, 158, 0, 1]) ws (vs) := by
    refine ⟨fun n hn => ?_, ?_⟩
    · have hn : n ∈ [13, 2] := hn
      rw [hl]
      simp only [List.mem_cons, List.not_mem_nil, or_false] at hn
      show n < 15; omega
    · show (v_iv (n_v vs 13) = 1) → (w_ei ws (w_ar ws (n_v vs 2) 160) (w_fi ws (n_v vs 2) 158) = 1)
      rw [q2]
      first | omega | grind
  refine ⟨(fun _ h => (by cases h)), [], trivial, ?_, (fun _ h => (by cases h))⟩
  rw [List.append_nil]
  exact List.forall_mem_cons.mpr ⟨⟨show (20 : Nat) < 100 from by decide, nf0⟩, (fun _ h => (by cases h))⟩
def o_Mo_word_at_s5040_7 : or_T := (54, 15, [(0, (2, 0, 0, [150])), (2, (2, 0, 0, [150])), (4, (0, 1, 1, [])), (5, (0, 0, 2, [])), (6, (0, 3, 3, [])), (7, (2, 0, 0, [261])), (8, (0, 0, 2009, [])), (9, (0, 0, 1999, [])), (10, (0, 0, 1999, [])), (11, (0, 0, 255, [])), (12, (0, 0, 65535, [])), (13, (0, 0, 0, [])), (14, (0, 1, 3, []))], [(6, [14, 5], [1]), (7, [11, 12], [1]), (20, [10, 2, 11], [50, 1, 1, 1010, 1001, 4, 11, 0, 6, 4, 2, 1, 0, 0, 1, 2, 1, 10, 1, 2, 1, 2, 9, 5, 3, 1, 1, 1, 0, 0, 256]), (20, [2, 10, 11], [50, 1, 0, 10, 4, 7, 0, 3, 2, 0, 10, 1, 1, 1, 2, 1, 2, 0, -1]), (1, [10, 9, 5], []), (10, [9, 7, 8], []), (9, [8, 2], [158]), (9, [7, 2], [162]), (8, [4], [1]), (7, [5, 6], [2]), (20, [4, 2], [50, 1, 1, 1158, 1160, 4, 6, 1, 2, 1, 0, 0, 1, 1, 6, 3, 1, 160, 2, 1, 158, 0, 1]), (24, [0, 2], [])], [], [], [(20, [13, 2], [50, 1, 1, 1158, 1160, 4, 6, 1, 2, 1, 0, 0, 1, 1, 6, 3, 1, 160, 2, 1, 158, 0, 1])], [], [(14, 5, 1, 1), (10, 5, 0, 2000), (10, 9, 0, 2), (4, 5, -4294967296, 1)])
theorem oo_Mo_word_at_s5040_7 {kA : Nat → ClassId} : or_ok kA GG o_Mo_word_at_s5040_7 := by
  intro A ta ws vs hD hth hl hk hds hf
  have hl : vs.length = 15 := hl
  have hk : ∀ q ∈ ([(0, (2, 0, 0, [150])), (2, (2, 0, 0, [150])), (4, (0, 1, 1, [])), (5, (0, 0, 2, [])), (6, (0, 3, 3, [])), (7, (2, 0, 0, [261])), (8, (0, 0, 2009, [])), (9, (0, 0, 1999, [])), (10, (0, 0, 1999, [])), (11, (0, 0, 255, [])), (12, (0, 0, 65535, [])), (13, (0, 0, 0, [])), (14, (0, 1, 3, []))] : List (Nat × tv_T)), tv_ok ta q.2 (n_v vs q.1) := hk
  obtain ⟨t0, hk⟩ := List.forall_mem_cons.mp hk
  have t0 : tv_ok ta (2, 0, 0, [150]) (n_v vs 0) := t0
  have r0 : ta (v_ad (n_v vs 0)) = some 150 := tv_rg t0
  obtain ⟨t2, hk⟩ := List.forall_mem_cons.mp hk
  have t2 : tv_ok ta (2, 0, 0, [150]) (n_v vs 2) := t2
  have r2 : ta (v_ad (n_v vs 2)) = some 150 := tv_rg t2
  obtain ⟨t4, hk⟩ := List.forall_mem_cons.mp hk
  have t4 : tv_ok ta (0, 1, 1, []) (n_v vs 4) := t4
  have k4 : 1 ≤ v_iv (n_v vs 4) ∧ v_iv (n_v vs 4) ≤ 1 := tv_rng t4
  obtain ⟨t5, hk⟩ := List.forall_mem_cons.mp hk
  have t5 : tv_ok ta (0, 0, 2, []) (n_v vs 5) := t5
  have k5 : 0 ≤ v_iv (n_v vs 5) ∧ v_iv (n_v vs 5) ≤ 2 := tv_rng t5
  obtain ⟨t6, hk⟩ := List.forall_mem_cons.mp hk
  have t6 : tv_ok ta (0, 3, 3, []) (n_v vs 6) := t6
  have k6 : 3 ≤ v_iv (n_v vs 6) ∧ v_iv (n_v vs 6) ≤ 3 := tv_rng t6
  obtain ⟨t7, hk⟩ := List.forall_mem_cons.mp hk
  have t7 : tv_ok ta (2, 0, 0, [261]) (n_v vs 7) := t7
  have r7 : ta (v_ad (n_v vs 7)) = some 261 := tv_rg t7
  obtain ⟨t8, hk⟩ := List.forall_mem_cons.mp hk
  have t8 : tv_ok ta (0, 0, 2009, []) (n_v vs 8) := t8
  have k8 : 0 ≤ v_iv (n_v vs 8) ∧ v_iv (n_v vs 8) ≤ 2009 := tv_rng t8
  obtain ⟨t9, hk⟩ := List.forall_mem_cons.mp hk
  have t9 : tv_ok ta (0, 0, 1999, []) (n_v vs 9) := t9
  have k9 : 0 ≤ v_iv (n_v vs 9) ∧ v_iv (n_v vs 9) ≤ 1999 := tv_rng t9
  obtain ⟨t10, hk⟩ := List.forall_mem_cons.mp hk
  have t10 : tv_ok ta (0, 0, 1999, []) (n_v vs 10) := t10
  have k10 : 0 ≤ v_iv (n_v vs 10) ∧ v_iv (n_v vs 10) ≤ 1999 := tv_rng t10
  obtain ⟨t11, hk⟩ := List.forall_mem_cons.mp hk
  have t11 : tv_ok ta (0, 0, 255, []) (n_v vs 11) := t11
  have k11 : 0 ≤ v_iv (n_v vs 11) ∧ v_iv (n_v vs 11) ≤ 255 := tv_rng t11
  obtain ⟨t12, hk⟩ := List.forall_mem_cons.mp hk
  have t12 : tv_ok ta (0, 0, 65535, []) (n_v vs 12) := t12
  have k12 : 0 ≤ v_iv (n_v vs 12) ∧ v_iv (n_v vs 12) ≤ 65535 := tv_rng t12
  obtain ⟨t13, hk⟩ := List.forall_mem_cons.mp hk
  have t13 : tv_ok ta (0, 0, 0, []) (n_v vs 13) := t13
  have k13 : 0 ≤ v_iv (n_v vs 13) ∧ v_iv (n_v vs 13) ≤ 0 := tv_rng t13
  obtain ⟨t14, hk⟩ := List.forall_mem_cons.mp hk
  have t14 : tv_ok ta (0, 1, 3, []) (n_v vs 14) := t14
  have k14 : 1 ≤ v_iv (n_v vs 14) ∧ v_iv (n_v vs 14) ≤ 3 := tv_rng t14
  have hds : ∀ q ∈ ([(14, 5, 1, 1), (10, 5, 0, 2000), (10, 9, 0, 2), (4, 5, -4294967296, 1)] : List of_T), n_iv vs q.2.1 + q.2.2.1 ≤ n_iv vs q.1 ∧ n_iv vs q.1 ≤ n_iv vs q.2.1 + q.2.2.2 := hds
  obtain ⟨d0, hds⟩ := List.forall_mem_cons.mp hds
  have d0 : v_iv (n_v vs 5) + 1 ≤ v_iv (n_v vs 14) ∧ v_iv (n_v vs 14) ≤ v_iv (n_v vs 5) + 1 := d0
  obtain ⟨d1, hds⟩ := List.forall_mem_cons.mp hds
  have d1 : v_iv (n_v vs 5) + 0 ≤ v_iv (n_v vs 10) ∧ v_iv (n_v vs 10) ≤ v_iv (n_v vs 5) + 2000 := d1
  obtain ⟨d2, hds⟩ := List.forall_mem_cons.mp hds
  have d2 : v_iv (n_v vs 9) + 0 ≤ v_iv (n_v vs 10) ∧ v_iv (n_v vs 10) ≤ v_iv (n_v vs 9) + 2 := d2
  obtain ⟨d3, hds⟩ := List.forall_mem_cons.mp hds
  have d3 : v_iv (n_v vs 5) + (-4294967296) ≤ v_iv (n_v vs 4) ∧ v_iv (n_v vs 4) ≤ v_iv (n_v vs 5) + 1 := d3
  have hf : fc_ok [(6, [14, 5], [1]), (7, [11, 12], [1]), (20, [10, 2, 11], [50, 1, 1, 1010, 1001, 4, 11, 0, 6, 4, 2, 1, 0, 0, 1, 2, 1, 10, 1, 2, 1, 2, 9, 5, 3, 1, 1, 1, 0, 0, 256]), (20, [2, 10, 11], [50, 1, 0, 10, 4, 7, 0, 3, 2, 0, 10, 1, 1, 1, 2, 1, 2, 0, -1]), (1, [10, 9, 5], []), (10, [9, 7, 8], []), (9, [8, 2], [158]), (9, [7, 2], [162]), (8, [4], [1]), (7, [5, 6], [2]), (20, [4, 2], [50, 1, 1, 1158, 1160, 4, 6, 1, 2, 1, 0, 0, 1, 1, 6, 3, 1, 160, 2, 1, 158, 0, 1]), (24, [0, 2], [])] ta ws vs := hf
  obtain ⟨f0, hf⟩ := fc_un (show (6 : Nat) < 100 from by decide) hf
  have f0 : v_iv (n_v vs 14) = v_iv (n_v vs 5) + 1 := f0
  obtain ⟨f1, hf⟩ := fc_un (show (7 : Nat) < 100 from by decide) hf
  have f1 : v_iv (n_v vs 11) ≠ v_iv (n_v vs 12) := f1
  obtain ⟨f2, hf⟩ := fc_un (show (20 : Nat) < 100 from by decide) hf
  have f2 : ((v_iv (n_v vs 10) + 1) ≤ w_fi ws (n_v vs 2) 10) → (v_iv (n_v vs 11) = (w_ei ws (w_ar ws (n_v vs 2) 1) (v_iv (n_v vs 10)) % 256)) := f2
  obtain ⟨f3, hf⟩ := fc_un (show (20 : Nat) < 100 from by decide) hf
  have f3 : (w_fi ws (n_v vs 2) 10 ≤ v_iv (n_v vs 10)) → (v_iv (n_v vs 11) = (-1)) := f3
  obtain ⟨f4, hf⟩ := fc_un (show (1 : Nat) < 100 from by decide) hf
  have f4 : v_iv (n_v vs 10) = v_iv (n_v vs 9) + v_iv (n_v vs 5) := f4
  obtain ⟨f5, hf⟩ := fc_un (show (10 : Nat) < 100 from by decide) hf
  have f5 : v_iv (n_v vs 9) = w_el ws (v_ad (n_v vs 7)) (v_iv (n_v vs 8)).toNat := f5
  obtain ⟨f6, hf⟩ := fc_un (show (9 : Nat) < 100 from by decide) hf
  have f6 : n_v vs 8 = w_fd ws (v_ad (n_v vs 2)) 158 := f6
  obtain ⟨f7, hf⟩ := fc_un (show (9 : Nat) < 100 from by decide) hf
  have f7 : n_v vs 7 = w_fd ws (v_ad (n_v vs 2)) 162 := f7
  obtain ⟨f8, hf⟩ := fc_un (show (8 : Nat) < 100 from by decide) hf
  have f8 : v_iv (n_v vs 4) ≠ 0 := f8
  obtain ⟨f9, hf⟩ := fc_un (show (7 : Nat) < 100 from by decide) hf
  have f9 : v_iv (n_v vs 5) < v_iv (n_v vs 6) := f9
  obtain ⟨f10, hf⟩ := fc_un (show (20 : Nat) < 100 from by decide) hf
  have f10 : (v_iv (n_v vs 4) = 1) → (w_ei ws (w_ar ws (n_v vs 2) 160) (w_fi ws (n_v vs 2) 158) = 1) := f10
  obtain ⟨f11, hf⟩ := fc_un (show (24 : Nat) < 100 from by decide) hf
  have f11 : n_v vs 0 = n_v vs 2 := f11
  have q2 : n_v vs 2 = n_v vs 0 := f11.symm
  rw [q2] at f2
  rw [q2] at f3
  rw [q2] at f6
  rw [q2] at f7
  rw [q2] at f10
  have cr_0_1 : ta (w_ar ws (n_v vs 0) 1) = some 151 := tv_rg (th_fd hD hth r0 (g := GG_150) rfl (k := 1) (t := (2, 0, 0, [151])) rfl rfl)
  have cr_0_160 : ta (w_ar ws (n_v vs 0) 160) = some 259 := tv_rg (th_fd hD hth r0 (g := GG_150) rfl (k := 160) (t := (2, 0, 0, [259])) rfl rfl)
  have cr_0_162 : ta (w_ar ws (n_v vs 0) 162) = some 261 := tv_rg (th_fd hD hth r0 (g := GG_150) rfl (k := 162) (t := (2, 0, 0, [261])) rfl rfl)
  have ad_7 : v_ad (n_v vs 7) = w_ar ws (n_v vs 0) 162 := congrArg v_ad f7
  rw [ad_7] at f5
  have g6 : v_iv (n_v vs 8) = w_fi ws (n_v vs 0) 158 := congrArg v_iv f6
  have hK_0_1 : ∀ j : Int, 0 ≤ j → j < 2000 → (-128) ≤ w_ei ws (w_ar ws (n_v vs 0) 1) j ∧ w_ei ws (w_ar ws (n_v vs 0) 1) j ≤ 127 := fun j h0 h1 => th_el hD hth cr_0_1 (kd := 1) (n := 2000) (m := 2000) (lo := (-128)) (hi := 127) (rs := []) (L := []) rfl (by decide) (j := j.toNat) (by omega)
  have hK_0_160 : ∀ j : Int, 0 ≤ j → j < 2010 → 0 ≤ w_ei ws (w_ar ws (n_v vs 0) 160) j ∧ w_ei ws (w_ar ws (n_v vs 0) 160) j ≤ 4 := fun j h0 h1 => th_el hD hth cr_0_160 (kd := 0) (n := 2010) (m := 2010) (lo := 0) (hi := 4) (rs := []) (L := []) rfl (by decide) (j := j.toNat) (by omega)
  have kz_0_10 : 0 ≤ w_fi ws (n_v vs 0) 10 ∧ w_fi ws (n_v vs 0) 10 ≤ 2000 := tv_rng (th_fd hD hth r0 (g := GG_150) rfl (k := 10) (t := (0, 0, 2000, [])) rfl rfl)
  have kz_0_158 : 0 ≤ w_fi ws (n_v vs 0) 158 ∧ w_fi ws (n_v vs 0) 158 ≤ 2009 := tv_rng (th_fd hD hth r0 (g := GG_150) rfl (k := 158) (t := (0, 0, 2009, [])) rfl rfl)
  have nf0 : fc_1 (20, [13, 2], [50, 1, 1, 1158, 1160, 4, 6, 1, 2, 1, 0, 0, 1, 1, 6, 3, 1, 160, 2, 1, 158, 0, 1]) ws (vs) := by
    refine ⟨fun n hn => ?_, ?_⟩
    · have hn : n ∈ [13, 2] := hn
      rw [hl]
      simp only [List.mem_cons, List.not_mem_nil, or_false] at hn
      show n < 15; omega
    · show (v_iv (n_v vs 13) = 1) → (w_ei ws (w_ar ws (n_v vs 2) 160) (w_fi ws (n_v vs 2) 158) = 1)
      rw [q2]
      first | omega | grind
  refine ⟨(fun _ h => (by cases h)), [], trivial, ?_, (fun _ h => (by cases h))⟩
  rw [List.append_nil]
  exact List.forall_mem_cons.mpr ⟨⟨show (20 : Nat) < 100 from by decide, nf0⟩, (fun _ h => (by cases h))⟩
def o_Mo_word_at_s5040_8 : or_T := (54, 15, [(0, (2, 0, 0, [150])), (2, (2, 0, 0, [150])), (4, (0, 1, 1, [])), (5, (0, 0, 2, [])), (6, (0, 3, 3, [])), (7, (2, 0, 0, [261])), (8, (0, 0, 2009, [])), (9, (0, 0, 1999, [])), (10, (0, 0, 1999, [])), (11, (0, 0, 255, [])), (12, (0, 0, 255, [])), (13, (0, 1, 1, [])), (14, (0, 1, 3, []))], [(6, [14, 5], [1]), (7, [11, 12], [0]), (20, [10, 2, 11], [50, 1, 1, 1010, 1001, 4, 11, 0, 6, 4, 2, 1, 0, 0, 1, 2, 1, 10, 1, 2, 1, 2, 9, 5, 3, 1, 1, 1, 0, 0, 256]), (20, [2, 10, 11], [50, 1, 0, 10, 4, 7, 0, 3, 2, 0, 10, 1, 1, 1, 2, 1, 2, 0, -1]), (1, [10, 9, 5], []), (10, [9, 7, 8], []), (9, [8, 2], [158]), (9, [7, 2], [162]), (8, [4], [1]), (7, [5, 6], [2]), (20, [4, 2], [50, 1, 1, 1158, 1160, 4, 6, 1, 2, 1, 0, 0, 1, 1, 6, 3, 1, 160, 2, 1, 158, 0, 1]), (24, [0, 2], [])], [], [], [(20, [13, 2], [50, 1, 1, 1158, 1160, 4, 6, 1, 2, 1, 0, 0, 1, 1, 6, 3, 1, 160, 2, 1, 158, 0, 1])], [], [(14, 5, 1, 1), (11, 12, 0, 0), (10, 5, 0, 2000), (10, 9, 0, 2), (4, 5, -4294967296, 1)])
theorem oo_Mo_word_at_s5040_8 {kA : Nat → ClassId} : or_ok kA GG o_Mo_word_at_s5040_8 := by
  intro A ta ws vs hD hth hl hk hds hf
  have hl : vs.length = 15 := hl
  have hk : ∀ q ∈ ([(0, (2, 0, 0, [150])), (2, (2, 0, 0, [150])), (4, (0, 1, 1, [])), (5, (0, 0, 2, [])), (6, (0, 3, 3, [])), (7, (2, 0, 0, [261])), (8, (0, 0, 2009, [])), (9, (0, 0, 1999, [])), (10, (0, 0, 1999, [])), (11, (0, 0, 255, [])), (12, (0, 0, 255, [])), (13, (0, 1, 1, [])), (14, (0, 1, 3, []))] : List (Nat × tv_T)), tv_ok ta q.2 (n_v vs q.1) := hk
  obtain ⟨t0, hk⟩ := List.forall_mem_cons.mp hk
  have t0 : tv_ok ta (2, 0, 0, [150]) (n_v vs 0) := t0
  have r0 : ta (v_ad (n_v vs 0)) = some 150 := tv_rg t0
  obtain ⟨t2, hk⟩ := List.forall_mem_cons.mp hk
  have t2 : tv_ok ta (2, 0, 0, [150]) (n_v vs 2) := t2
  have r2 : ta (v_ad (n_v vs 2)) = some 150 := tv_rg t2
  obtain ⟨t4, hk⟩ := List.forall_mem_cons.mp hk
  have t4 : tv_ok ta (0, 1, 1, []) (n_v vs 4) := t4
  have k4 : 1 ≤ v_iv (n_v vs 4) ∧ v_iv (n_v vs 4) ≤ 1 := tv_rng t4
  obtain ⟨t5, hk⟩ := List.forall_mem_cons.mp hk
  have t5 : tv_ok ta (0, 0, 2, []) (n_v vs 5) := t5
  have k5 : 0 ≤ v_iv (n_v vs 5) ∧ v_iv (n_v vs 5) ≤ 2 := tv_rng t5
  obtain ⟨t6, hk⟩ := List.forall_mem_cons.mp hk
  have t6 : tv_ok ta (0, 3, 3, []) (n_v vs 6) := t6
  have k6 : 3 ≤ v_iv (n_v vs 6) ∧ v_iv (n_v vs 6) ≤ 3 := tv_rng t6
  obtain ⟨t7, hk⟩ := List.forall_mem_cons.mp hk
  have t7 : tv_ok ta (2, 0, 0, [261]) (n_v vs 7) := t7
  have r7 : ta (v_ad (n_v vs 7)) = some 261 := tv_rg t7
  obtain ⟨t8, hk⟩ := List.forall_mem_cons.mp hk
  have t8 : tv_ok ta (0, 0, 2009, []) (n_v vs 8) := t8
  have k8 : 0 ≤ v_iv (n_v vs 8) ∧ v_iv (n_v vs 8) ≤ 2009 := tv_rng t8
  obtain ⟨t9, hk⟩ := List.forall_mem_cons.mp hk
  have t9 : tv_ok ta (0, 0, 1999, []) (n_v vs 9) := t9
  have k9 : 0 ≤ v_iv (n_v vs 9) ∧ v_iv (n_v vs 9) ≤ 1999 := tv_rng t9
  obtain ⟨t10, hk⟩ := List.forall_mem_cons.mp hk
  have t10 : tv_ok ta (0, 0, 1999, []) (n_v vs 10) := t10
  have k10 : 0 ≤ v_iv (n_v vs 10) ∧ v_iv (n_v vs 10) ≤ 1999 := tv_rng t10
  obtain ⟨t11, hk⟩ := List.forall_mem_cons.mp hk
  have t11 : tv_ok ta (0, 0, 255, []) (n_v vs 11) := t11
  have k11 : 0 ≤ v_iv (n_v vs 11) ∧ v_iv (n_v vs 11) ≤ 255 := tv_rng t11
  obtain ⟨t12, hk⟩ := List.forall_mem_cons.mp hk
  have t12 : tv_ok ta (0, 0, 255, []) (n_v vs 12) := t12
  have k12 : 0 ≤ v_iv (n_v vs 12) ∧ v_iv (n_v vs 12) ≤ 255 := tv_rng t12
  obtain ⟨t13, hk⟩ := List.forall_mem_cons.mp hk
  have t13 : tv_ok ta (0, 1, 1, []) (n_v vs 13) := t13
  have k13 : 1 ≤ v_iv (n_v vs 13) ∧ v_iv (n_v vs 13) ≤ 1 := tv_rng t13
  obtain ⟨t14, hk⟩ := List.forall_mem_cons.mp hk
  have t14 : tv_ok ta (0, 1, 3, []) (n_v vs 14) := t14
  have k14 : 1 ≤ v_iv (n_v vs 14) ∧ v_iv (n_v vs 14) ≤ 3 := tv_rng t14
  have hds : ∀ q ∈ ([(14, 5, 1, 1), (11, 12, 0, 0), (10, 5, 0, 2000), (10, 9, 0, 2), (4, 5, -4294967296, 1)] : List of_T), n_iv vs q.2.1 + q.2.2.1 ≤ n_iv vs q.1 ∧ n_iv vs q.1 ≤ n_iv vs q.2.1 + q.2.2.2 := hds
  obtain ⟨d0, hds⟩ := List.forall_mem_cons.mp hds
  have d0 : v_iv (n_v vs 5) + 1 ≤ v_iv (n_v vs 14) ∧ v_iv (n_v vs 14) ≤ v_iv (n_v vs 5) + 1 := d0
  obtain ⟨d1, hds⟩ := List.forall_mem_cons.mp hds
  have d1 : v_iv (n_v vs 12) + 0 ≤ v_iv (n_v vs 11) ∧ v_iv (n_v vs 11) ≤ v_iv (n_v vs 12) + 0 := d1
  obtain ⟨d2, hds⟩ := List.forall_mem_cons.mp hds
  have d2 : v_iv (n_v vs 5) + 0 ≤ v_iv (n_v vs 10) ∧ v_iv (n_v vs 10) ≤ v_iv (n_v vs 5) + 2000 := d2
  obtain ⟨d3, hds⟩ := List.forall_mem_cons.mp hds
  have d3 : v_iv (n_v vs 9) + 0 ≤ v_iv (n_v vs 10) ∧ v_iv (n_v vs 10) ≤ v_iv (n_v vs 9) + 2 := d3
  obtain ⟨d4, hds⟩ := List.forall_mem_cons.mp hds
  have d4 : v_iv (n_v vs 5) + (-4294967296) ≤ v_iv (n_v vs 4) ∧ v_iv (n_v vs 4) ≤ v_iv (n_v vs 5) + 1 := d4
  have hf : fc_ok [(6, [14, 5], [1]), (7, [11, 12], [0]), (20, [10, 2, 11], [50, 1, 1, 1010, 1001, 4, 11, 0, 6, 4, 2, 1, 0, 0, 1, 2, 1, 10, 1, 2, 1, 2, 9, 5, 3, 1, 1, 1, 0, 0, 256]), (20, [2, 10, 11], [50, 1, 0, 10, 4, 7, 0, 3, 2, 0, 10, 1, 1, 1, 2, 1, 2, 0, -1]), (1, [10, 9, 5], []), (10, [9, 7, 8], []), (9, [8, 2], [158]), (9, [7, 2], [162]), (8, [4], [1]), (7, [5, 6], [2]), (20, [4, 2], [50, 1, 1, 1158, 1160, 4, 6, 1, 2, 1, 0, 0, 1, 1, 6, 3, 1, 160, 2, 1, 158, 0, 1]), (24, [0, 2], [])] ta ws vs := hf
  obtain ⟨f0, hf⟩ := fc_un (show (6 : Nat) < 100 from by decide) hf
  have f0 : v_iv (n_v vs 14) = v_iv (n_v vs 5) + 1 := f0
  obtain ⟨f1, hf⟩ := fc_un (show (7 : Nat) < 100 from by decide) hf
  have f1 : v_iv (n_v vs 11) = v_iv (n_v vs 12) := f1
  obtain ⟨f2, hf⟩ := fc_un (show (20 : Nat) < 100 from by decide) hf
  have f2 : ((v_iv (n_v vs 10) + 1) ≤ w_fi ws (n_v vs 2) 10) → (v_iv (n_v vs 11) = (w_ei ws (w_ar ws (n_v vs 2) 1) (v_iv (n_v vs 10)) % 256)) := f2
  obtain ⟨f3, hf⟩ := fc_un (show (20 : Nat) < 100 from by decide) hf
  have f3 : (w_fi ws (n_v vs 2) 10 ≤ v_iv (n_v vs 10)) → (v_iv (n_v vs 11) = (-1)) := f3
  obtain ⟨f4, hf⟩ := fc_un (show (1 : Nat) < 100 from by decide) hf
  have f4 : v_iv (n_v vs 10) = v_iv (n_v vs 9) + v_iv (n_v vs 5) := f4
  obtain ⟨f5, hf⟩ := fc_un (show (10 : Nat) < 100 from by decide) hf
  have f5 : v_iv (n_v vs 9) = w_el ws (v_ad (n_v vs 7)) (v_iv (n_v vs 8)).toNat := f5
  obtain ⟨f6, hf⟩ := fc_un (show (9 : Nat) < 100 from by decide) hf
  have f6 : n_v vs 8 = w_fd ws (v_ad (n_v vs 2)) 158 := f6
  obtain ⟨f7, hf⟩ := fc_un (show (9 : Nat) < 100 from by decide) hf
  have f7 : n_v vs 7 = w_fd ws (v_ad (n_v vs 2)) 162 := f7
  obtain ⟨f8, hf⟩ := fc_un (show (8 : Nat) < 100 from by decide) hf
  have f8 : v_iv (n_v vs 4) ≠ 0 := f8
  obtain ⟨f9, hf⟩ := fc_un (show (7 : Nat) < 100 from by decide) hf
  have f9 : v_iv (n_v vs 5) < v_iv (n_v vs 6) := f9
  obtain ⟨f10, hf⟩ := fc_un (show (20 : Nat) < 100 from by decide) hf
  have f10 : (v_iv (n_v vs 4) = 1) → (w_ei ws (w_ar ws (n_v vs 2) 160) (w_fi ws (n_v vs 2) 158) = 1) := f10
  obtain ⟨f11, hf⟩ := fc_un (show (24 : Nat) < 100 from by decide) hf
  have f11 : n_v vs 0 = n_v vs 2 := f11
  have q2 : n_v vs 2 = n_v vs 0 := f11.symm
  rw [q2] at f2
  rw [q2] at f3
  rw [q2] at f6
  rw [q2] at f7
  rw [q2] at f10
  have cr_0_1 : ta (w_ar ws (n_v vs 0) 1) = some 151 := tv_rg (th_fd hD hth r0 (g := GG_150) rfl (k := 1) (t := (2, 0, 0, [151])) rfl rfl)
  have cr_0_160 : ta (w_ar ws (n_v vs 0) 160) = some 259 := tv_rg (th_fd hD hth r0 (g := GG_150) rfl (k := 160) (t := (2, 0, 0, [259])) rfl rfl)
  have cr_0_162 : ta (w_ar ws (n_v vs 0) 162) = some 261 := tv_rg (th_fd hD hth r0 (g := GG_150) rfl (k := 162) (t := (2, 0, 0, [261])) rfl rfl)
  have ad_7 : v_ad (n_v vs 7) = w_ar ws (n_v vs 0) 162 := congrArg v_ad f7
  rw [ad_7] at f5
  have g6 : v_iv (n_v vs 8) = w_fi ws (n_v vs 0) 158 := congrArg v_iv f6
  have hK_0_1 : ∀ j : Int, 0 ≤ j → j < 2000 → (-128) ≤ w_ei ws (w_ar ws (n_v vs 0) 1) j ∧ w_ei ws (w_ar ws (n_v vs 0) 1) j ≤ 127 := fun j h0 h1 => th_el hD hth cr_0_1 (kd := 1) (n := 2000) (m := 2000) (lo := (-128)) (hi := 127) (rs := []) (L := []) rfl (by decide) (j := j.toNat) (by omega)
  have hK_0_160 : ∀ j : Int, 0 ≤ j → j < 2010 → 0 ≤ w_ei ws (w_ar ws (n_v vs 0) 160) j ∧ w_ei ws (w_ar ws (n_v vs 0) 160) j ≤ 4 := fun j h0 h1 => th_el hD hth cr_0_160 (kd := 0) (n := 2010) (m := 2010) (lo := 0) (hi := 4) (rs := []) (L := []) rfl (by decide) (j := j.toNat) (by omega)
  have kz_0_10 : 0 ≤ w_fi ws (n_v vs 0) 10 ∧ w_fi ws (n_v vs 0) 10 ≤ 2000 := tv_rng (th_fd hD hth r0 (g := GG_150) rfl (k := 10) (t := (0, 0, 2000, [])) rfl rfl)
  have kz_0_158 : 0 ≤ w_fi ws (n_v vs 0) 158 ∧ w_fi ws (n_v vs 0) 158 ≤ 2009 := tv_rng (th_fd hD hth r0 (g := GG_150) rfl (k := 158) (t := (0, 0, 2009, [])) rfl rfl)
  have nf0 : fc_1 (20, [13, 2], [50, 1, 1, 1158, 1160, 4, 6, 1, 2, 1, 0, 0, 1, 1, 6, 3, 1, 160, 2, 1, 158, 0, 1]) ws (vs) := by
    refine ⟨fun n hn => ?_, ?_⟩
    · have hn : n ∈ [13, 2] := hn
      rw [hl]
      simp only [List.mem_cons, List.not_mem_nil, or_false] at hn
      show n < 15; omega
    · show (v_iv (n_v vs 13) = 1) → (w_ei ws (w_ar ws (n_v vs 2) 160) (w_fi ws (n_v vs 2) 158) = 1)
      rw [q2]
      first | omega | grind
  refine ⟨(fun _ h => (by cases h)), [], trivial, ?_, (fun _ h => (by cases h))⟩
  rw [List.append_nil]
  exact List.forall_mem_cons.mpr ⟨⟨show (20 : Nat) < 100 from by decide, nf0⟩, (fun _ h => (by cases h))⟩
def n_Mo_word_at_s5040_an : List an_T := [(54, [(0, (2, 0, 0, [150])), (1, (2, 0, 0, [5040])), (2, (0, 0, 1, [])), (3, (0, 0, 3, []))], [], (0, 0), [(0, 0, 99946), (1, 5, 3), (0, 0, 100000)], [(4, 5, -1000000000000, 1)], [], [(2, 0, 0, [150]), (2, 0, 0, [5040])], 0, [], [(20, [4, 2], [50, 1, 1, 1158, 1160, 4, 6, 1, 2, 1, 0, 0, 1, 1, 6, 3, 1, 160, 2, 1, 158, 0, 1]), (24, [0, 2], [])])]
def t_Mo_word_at_s5040_ct : ct_L := [(1, 425, e_Mo_byteAt), (124, 448, e_jStr_length_v311), (172, 448, e_jStr_length_v311), (253, 453, e_jStr_charAt_v312)]
set_option maxRecDepth 100000 in
theorem c_Mo_word_at_s5040 {l : Launch} {D : va_G} {kA : Nat → ClassId} (h_Mo_byteAt : ct_ok l D kA GG y_Mo_byteAt z_Mo_byteAt e_Mo_byteAt) : ct_ok l D kA GG y_Mo_word_at_s5040 z_Mo_word_at_s5040 e_Mo_word_at_s5040 := chk_all_ok (FT := [(342, 13, 160), (348, 13, 162), (351, 13, 163), (413, 13, 8), (1169, 13, 158)]) (PT := []) (CT := t_Mo_word_at_s5040_ct) (KT := []) (NT := []) (AN := n_Mo_word_at_s5040_an) (OT := [o_Mo_word_at_s5040_0, o_Mo_word_at_s5040_1, o_Mo_word_at_s5040_2, o_Mo_word_at_s5040_3, o_Mo_word_at_s5040_4, o_Mo_word_at_s5040_5, o_Mo_word_at_s5040_6, o_Mo_word_at_s5040_7, o_Mo_word_at_s5040_8]) 3 324 (List.forall_mem_cons.mpr ⟨oo_Mo_word_at_s5040_0, List.forall_mem_cons.mpr ⟨oo_Mo_word_at_s5040_1, List.forall_mem_cons.mpr ⟨oo_Mo_word_at_s5040_2, List.forall_mem_cons.mpr ⟨oo_Mo_word_at_s5040_3, List.forall_mem_cons.mpr ⟨oo_Mo_word_at_s5040_4, List.forall_mem_cons.mpr ⟨oo_Mo_word_at_s5040_5, List.forall_mem_cons.mpr ⟨oo_Mo_word_at_s5040_6, List.forall_mem_cons.mpr ⟨oo_Mo_word_at_s5040_7, List.forall_mem_cons.mpr ⟨oo_Mo_word_at_s5040_8, List.forall_mem_nil _⟩⟩⟩⟩⟩⟩⟩⟩⟩) (by decide +kernel) ⟨List.forall_mem_cons.mpr ⟨gf_Mo_342, List.forall_mem_cons.mpr ⟨gf_Mo_348, List.forall_mem_cons.mpr ⟨gf_Mo_351, List.forall_mem_cons.mpr ⟨gf_Mo_413, List.forall_mem_cons.mpr ⟨gf_Mo_1169, List.forall_mem_nil _⟩⟩⟩⟩⟩, List.forall_mem_nil _, List.forall_mem_cons.mpr ⟨cl_virtual (y := y_Mo_byteAt) (ci := 13) rfl rfl ⟨_, _, rfl⟩ (by decide +kernel) h_Mo_byteAt wm_2986 wm_9 wm_2983 wm_2985 wv_12_12 ⟨by decide, by decide, by decide +kernel⟩ (by decide), List.forall_mem_cons.mpr ⟨cl_string (y := y_jStr_length) (i := 40) rfl rfl (by decide +kernel) rfl c_jStr_length_v311 wm_674 wm_11 wm_3003 wm_672 wm_673 ⟨by decide, by decide, by decide +kernel⟩ (by decide), List.forall_mem_cons.mpr ⟨cl_string (y := y_jStr_length) (i := 40) rfl rfl (by decide +kernel) rfl c_jStr_length_v311 wm_674 wm_11 wm_3003 wm_672 wm_673 ⟨by decide, by decide, by decide +kernel⟩ (by decide), List.forall_mem_cons.mpr ⟨cl_string (y := y_jStr_charAt) (i := 40) rfl rfl (by decide +kernel) rfl c_jStr_charAt_v312 wm_684 wm_11 wm_3004 wm_682 wm_683 ⟨by decide, by decide, by decide +kernel⟩ (by decide), List.forall_mem_nil _⟩⟩⟩⟩, List.forall_mem_nil _, List.forall_mem_nil _, GG_pl⟩ (by decide +kernel)
def o_Mo_word_at_s5041_0 : or_T := (54, 5, [(0, (2, 0, 0, [150])), (3, (0, 0, 0, []))], [], [], [], [(20, [3, 0], [50, 1, 1, 1158, 1160, 4, 6, 1, 2, 1, 0, 0, 1, 1, 6, 3, 1, 160, 2, 1, 158, 0, 1]), (24, [0, 0], [])], [], [])
theorem oo_Mo_word_at_s5041_0 {kA : Nat → ClassId} : or_ok kA GG o_Mo_word_at_s5041_0 := by
  intro A ta ws vs hD hth hl hk hds hf
  have hl : vs.length = 5 := hl
  have hk : ∀ q ∈ ([(0, (2, 0, 0, [150])), (3, (0, 0, 0, []))] : List (Nat × tv_T)), tv_ok ta q.2 (n_v vs q.1) := hk
  obtain ⟨t0, hk⟩ := List.forall_mem_cons.mp hk
  have t0 : tv_ok ta (2, 0, 0, [150]) (n_v vs 0) := t0
  have r0 : ta (v_ad (n_v vs 0)) = some 150 := tv_rg t0
  obtain ⟨t3, hk⟩ := List.forall_mem_cons.mp hk
  have t3 : tv_ok ta (0, 0, 0, []) (n_v vs 3) := t3
  have k3 : 0 ≤ v_iv (n_v vs 3) ∧ v_iv (n_v vs 3) ≤ 0 := tv_rng t3
  have cr_0_160 : ta (w_ar ws (n_v vs 0) 160) = some 259 := tv_rg (th_fd hD hth r0 (g := GG_150) rfl (k := 160) (t := (2, 0, 0, [259])) rfl rfl)
  have hK_0_160 : ∀ j : Int, 0 ≤ j → j < 2010 → 0 ≤ w_ei ws (w_ar ws (n_v vs 0) 160) j ∧ w_ei ws (w_ar ws (n_v vs 0) 160) j ≤ 4 := fun j h0 h1 => th_el hD hth cr_0_160 (kd := 0) (n := 2010) (m := 2010) (lo := 0) (hi := 4) (rs := []) (L := []) rfl (by decide) (j := j.toNat) (by omega)
  have kz_0_158 : 0 ≤ w_fi ws (n_v vs 0) 158 ∧ w_fi ws (n_v vs 0) 158 ≤ 2009 := tv_rng (th_fd hD hth r0 (g := GG_150) rfl (k := 158) (t := (0, 0, 2009, [])) rfl rfl)
  have nf0 : fc_1 (20, [3, 0], [50, 1, 1, 1158, 1160, 4, 6, 1, 2, 1, 0, 0, 1, 1, 6, 3, 1, 160, 2, 1, 158, 0, 1]) ws (vs) := by
    refine ⟨fun n hn => ?_, ?_⟩
    · have hn : n ∈ [3, 0] := hn
      rw [hl]
      simp only [List.mem_cons, List.not_mem_nil, or_false] at hn
      show n < 5; omega
    · show (v_iv (n_v vs 3) = 1) → (w_ei ws (w_ar ws (n_v vs 0) 160) (w_fi ws (n_v vs 0) 158) = 1)
      first | omega | grind
  have nf1 : fc_1 (24, [0, 0], []) ws (vs) := by
    refine ⟨fun n hn => ?_, ?_⟩
    · have hn : n ∈ [0, 0] := hn
      rw [hl]
      simp only [List.mem_cons, List.not_mem_nil, or_false] at hn
      show n < 5; omega
    · show n_v vs 0 = n_v vs 0
      first | rfl | simp only [true_and]
  refine ⟨(fun _ h => (by cases h)), [], trivial, ?_, (fun _ h => (by cases h))⟩
  rw [List.append_nil]
  exact List.forall_mem_cons.mpr ⟨⟨show (20 : Nat) < 100 from by decide, nf0⟩, List.forall_mem_cons.mpr ⟨⟨show (24 : Nat) < 100 from by decide, nf1⟩, (fun _ h => (by cases h))⟩⟩
def o_Mo_word_at_s5041_1 : or_T := (54, 9, [(0, (2, 0, 0, [150])), (3, (2, 0, 0, [259])), (4, (0, 0, 2009, [])), (5, (0, 0, 4, [])), (6, (0, 1, 1, [])), (7, (0, 0, 0, []))], [(7, [5, 6], [1]), (10, [5, 3, 4], []), (9, [4, 0], [158]), (9, [3, 0], [160])], [], [], [(20, [7, 0], [50, 1, 1, 1158, 1160, 4, 6, 1, 2, 1, 0, 0, 1, 1, 6, 3, 1, 160, 2, 1, 158, 0, 1]), (24, [0, 0], [])], [], [])
theorem oo_Mo_word_at_s5041_1 {kA : Nat → ClassId} : or_ok kA GG o_Mo_word_at_s5041_1 := by
  intro A ta ws vs hD hth hl hk hds hf
  have hl : vs.length = 9 := hl
  have hk : ∀ q ∈ ([(0, (2, 0, 0, [150])), (3, (2, 0, 0, [259])), (4, (0, 0, 2009, [])), (5, (0, 0, 4, [])), (6, (0, 1, 1, [])), (7, (0, 0, 0, []))] : List (Nat × tv_T)), tv_ok ta q.2 (n_v vs q.1) := hk
  obtain ⟨t0, hk⟩ := List.forall_mem_cons.mp hk
  have t0 : tv_ok ta (2, 0, 0, [150]) (n_v vs 0) := t0
  have r0 : ta (v_ad (n_v vs 0)) = some 150 := tv_rg t0
  obtain ⟨t3, hk⟩ := List.forall_mem_cons.mp hk
  have t3 : tv_ok ta (2, 0, 0, [259]) (n_v vs 3) := t3
  have r3 : ta (v_ad (n_v vs 3)) = some 259 := tv_rg t3
  obtain ⟨t4, hk⟩ := List.forall_mem_cons.mp hk
  have t4 : tv_ok ta (0, 0, 2009, []) (n_v vs 4) := t4
  have k4 : 0 ≤ v_iv (n_v vs 4) ∧ v_iv (n_v vs 4) ≤ 2009 := tv_rng t4
  obtain ⟨t5, hk⟩ := List.forall_mem_cons.mp hk
  have t5 : tv_ok ta (0, 0, 4, []) (n_v vs 5) := t5
  have k5 : 0 ≤ v_iv (n_v vs 5) ∧ v_iv (n_v vs 5) ≤ 4 := tv_rng t5
  obtain ⟨t6, hk⟩ := List.forall_mem_cons.mp hk
  have t6 : tv_ok ta (0, 1, 1, []) (n_v vs 6) := t6
  have k6 : 1 ≤ v_iv (n_v vs 6) ∧ v_iv (n_v vs 6) ≤ 1 := tv_rng t6
  obtain ⟨t7, hk⟩ := List.forall_mem_cons.mp hk
  have t7 : tv_ok ta (0, 0, 0, []) (n_v vs 7) := t7
  have k7 : 0 ≤ v_iv (n_v vs 7) ∧ v_iv (n_v vs 7) ≤ 0 := tv_rng t7
  have hf : fc_ok [(7, [5, 6], [1]), (10, [5, 3, 4], []), (9, [4, 0], [158]), (9, [3, 0], [160])] ta ws vs := hf
  obtain ⟨f0, hf⟩ := fc_un (show (7 : Nat) < 100 from by decide) hf
  have f0 : v_iv (n_v vs 5) ≠ v_iv (n_v vs 6) := f0
  obtain ⟨f1, hf⟩ := fc_un (show (10 : Nat) < 100 from by decide) hf
  have f1 : v_iv (n_v vs 5) = w_el ws (v_ad (n_v vs 3)) (v_iv (n_v vs 4)).toNat := f1
  obtain ⟨f2, hf⟩ := fc_un (show (9 : Nat) < 100 from by decide) hf
  have f2 : n_v vs 4 = w_fd ws (v_ad (n_v vs 0)) 158 := f2
  obtain ⟨f3, hf⟩ := fc_un (show (9 : Nat) < 100 from by decide) hf
  have f3 : n_v vs 3 = w_fd ws (v_ad (n_v vs 0)) 160 := f3
  have cr_0_160 : ta (w_ar ws (n_v vs 0) 160) = some 259 := tv_rg (th_fd hD hth r0 (g := GG_150) rfl (k := 160) (t := (2, 0, 0, [259])) rfl rfl)
  have ad_3 : v_ad (n_v vs 3) = w_ar ws (n_v vs 0) 160 := congrArg v_ad f3
  rw [ad_3] at f1
  have h1 : v_iv (n_v vs 5) = w_ei ws (w_ar ws (n_v vs 0) 160) (v_iv (n_v vs 4)) := f1
  have g2 : v_iv (n_v vs 4) = w_fi ws (n_v vs 0) 158 := congrArg v_iv f2
  have br_0_160_4_0 : w_ei ws (w_ar ws (n_v vs 0) 160) (v_iv (n_v vs 4)) = w_el ws (w_ar ws (n_v vs 0) 160) (v_iv (n_v vs 4)).toNat := rfl
  have hK_0_160 : ∀ j : Int, 0 ≤ j → j < 2010 → 0 ≤ w_ei ws (w_ar ws (n_v vs 0) 160) j ∧ w_ei ws (w_ar ws (n_v vs 0) 160) j ≤ 4 := fun j h0 h1 => th_el hD hth cr_0_160 (kd := 0) (n := 2010) (m := 2010) (lo := 0) (hi := 4) (rs := []) (L := []) rfl (by decide) (j := j.toNat) (by omega)
  have kz_0_158 : 0 ≤ w_fi ws (n_v vs 0) 158 ∧ w_fi ws (n_v vs 0) 158 ≤ 2009 := tv_rng (th_fd hD hth r0 (g := GG_150) rfl (k := 158) (t := (0, 0, 2009, [])) rfl rfl)
  have nf0 : fc_1 (20, [7, 0], [50, 1, 1, 1158, 1160, 4, 6, 1, 2, 1, 0, 0, 1, 1, 6, 3, 1, 160, 2, 1, 158, 0, 1]) ws (vs) := by
    refine ⟨fun n hn => ?_, ?_⟩
    · have hn : n ∈ [7, 0] := hn
      rw [hl]
      simp only [List.mem_cons, List.not_mem_nil, or_false] at hn
      show n < 9; omega
    · show (v_iv (n_v vs 7) = 1) → (w_ei ws (w_ar ws (n_v vs 0) 160) (w_fi ws (n_v vs 0) 158) = 1)
      first | omega | grind
  have nf1 : fc_1 (24, [0, 0], []) ws (vs) := by
    refine ⟨fun n hn => ?_, ?_⟩
    · have hn : n ∈ [0, 0] := hn
      rw [hl]
      simp only [List.mem_cons, List.not_mem_nil, or_false] at hn
      show n < 9; omega
    · show n_v vs 0 = n_v vs 0
      first | rfl | simp only [true_and]
  refine ⟨(fun _ h => (by cases h)), [], trivial, ?_, (fun _ h => (by cases h))⟩
  rw [List.append_nil]
  exact List.forall_mem_cons.mpr ⟨⟨show (20 : Nat) < 100 from by decide, nf0⟩, List.forall_mem_cons.mpr ⟨⟨show (24 : Nat) < 100 from by decide, nf1⟩, (fun _ h => (by cases h))⟩⟩
def o_Mo_word_at_s5041_2 : or_T := (54, 15, [(0, (2, 0, 0, [150])), (3, (2, 0, 0, [259])), (4, (0, 0, 2009, [])), (5, (0, 1, 1, [])), (6, (0, 1, 1, [])), (13, (0, 0, 0, []))], [(9, [4, 0], [158]), (7, [5, 6], [0]), (10, [5, 3, 4], []), (9, [3, 0], [160])], [], [], [(20, [13, 0], [50, 1, 1, 1158, 1160, 4, 6, 1, 2, 1, 0, 0, 1, 1, 6, 3, 1, 160, 2, 1, 158, 0, 1]), (24, [0, 0], [])], [], [])
theorem oo_Mo_word_at_s5041_2 {kA : Nat → ClassId} : or_ok kA GG o_Mo_word_at_s5041_2 := by
  intro A ta ws vs hD hth hl hk hds hf
  have hl : vs.length = 15 := hl
  have hk : ∀ q ∈ ([(0, (2, 0, 0, [150])), (3, (2, 0, 0, [259])), (4, (0, 0, 2009, [])), (5, (0, 1, 1, [])), (6, (0, 1, 1, [])), (13, (0, 0, 0, []))] : List (Nat × tv_T)), tv_ok ta q.2 (n_v vs q.1) := hk
  obtain ⟨t0, hk⟩ := List.forall_mem_cons.mp hk
  have t0 : tv_ok ta (2, 0, 0, [150]) (n_v vs 0) := t0
  have r0 : ta (v_ad (n_v vs 0)) = some 150 := tv_rg t0
  obtain ⟨t3, hk⟩ := List.forall_mem_cons.mp hk
  have t3 : tv_ok ta (2, 0, 0, [259]) (n_v vs 3) := t3
  have r3 : ta (v_ad (n_v vs 3)) = some 259 := tv_rg t3
  obtain ⟨t4, hk⟩ := List.forall_mem_cons.mp hk
  have t4 : tv_ok ta (0, 0, 2009, []) (n_v vs 4) := t4
  have k4 : 0 ≤ v_iv (n_v vs 4) ∧ v_iv (n_v vs 4) ≤ 2009 := tv_rng t4
  obtain ⟨t5, hk⟩ := List.forall_mem_cons.mp hk
  have t5 : tv_ok ta (0, 1, 1, []) (n_v vs 5) := t5
  have k5 : 1 ≤ v_iv (n_v vs 5) ∧ v_iv (n_v vs 5) ≤ 1 := tv_rng t5
  obtain ⟨t6, hk⟩ := List.forall_mem_cons.mp hk
  have t6 : tv_ok ta (0, 1, 1, []) (n_v vs 6) := t6
  have k6 : 1 ≤ v_iv (n_v vs 6) ∧ v_iv (n_v vs 6) ≤ 1 := tv_rng t6
  obtain ⟨t13, hk⟩ := List.forall_mem_cons.mp hk
  have t13 : tv_ok ta (0, 0, 0, []) (n_v vs 13) := t13
  have k13 : 0 ≤ v_iv (n_v vs 13) ∧ v_iv (n_v vs 13) ≤ 0 := tv_rng t13
  have hf : fc_ok [(9, [4, 0], [158]), (7, [5, 6], [0]), (10, [5, 3, 4], []), (9, [3, 0], [160])] ta ws vs := hf
  obtain ⟨f0, hf⟩ := fc_un (show (9 : Nat) < 100 from by decide) hf
  have f0 : n_v vs 4 = w_fd ws (v_ad (n_v vs 0)) 158 := f0
  obtain ⟨f1, hf⟩ := fc_un (show (7 : Nat) < 100 from by decide) hf
  have f1 : v_iv (n_v vs 5) = v_iv (n_v vs 6) := f1
  obtain ⟨f2, hf⟩ := fc_un (show (10 : Nat) < 100 from by decide) hf
  have f2 : v_iv (n_v vs 5) = w_el ws (v_ad (n_v vs 3)) (v_iv (n_v vs 4)).toNat := f2
  obtain ⟨f3, hf⟩ := fc_un (show (9 : Nat) < 100 from by decide) hf
  have f3 : n_v vs 3 = w_fd ws (v_ad (n_v vs 0)) 160 := f3
  have cr_0_160 : ta (w_ar ws (n_v vs 0) 160) = some 259 := tv_rg (th_fd hD hth r0 (g := GG_150) rfl (k := 160) (t := (2, 0, 0, [259])) rfl rfl)
  have ad_3 : v_ad (n_v vs 3) = w_ar ws (n_v vs 0) 160 := congrArg v_ad f3
  have g0 : v_iv (n_v vs 4) = w_fi ws (n_v vs 0) 158 := congrArg v_iv f0
  rw [ad_3] at f2
  have h2 : v_iv (n_v vs 5) = w_ei ws (w_ar ws (n_v vs 0) 160) (v_iv (n_v vs 4)) := f2
  have br_0_160_4_0 : w_ei ws (w_ar ws (n_v vs 0) 160) (v_iv (n_v vs 4)) = w_el ws (w_ar ws (n_v vs 0) 160) (v_iv (n_v vs 4)).toNat := rfl
  have hK_0_160 : ∀ j : Int, 0 ≤ j → j < 2010 → 0 ≤ w_ei ws (w_ar ws (n_v vs 0) 160) j ∧ w_ei ws (w_ar ws (n_v vs 0) 160) j ≤ 4 := fun j h0 h1 => th_el hD hth cr_0_160 (kd := 0) (n := 2010) (m := 2010) (lo := 0) (hi := 4) (rs := []) (L := []) rfl (by decide) (j := j.toNat) (by omega)
  have kz_0_158 : 0 ≤ w_fi ws (n_v vs 0) 158 ∧ w_fi ws (n_v vs 0) 158 ≤ 2009 := tv_rng (th_fd hD hth r0 (g := GG_150) rfl (k := 158) (t := (0, 0, 2009, [])) rfl rfl)
  have nf0 : fc_1 (20, [13, 0], [50, 1, 1, 1158, 1160, 4, 6, 1, 2, 1, 0, 0, 1, 1, 6, 3, 1, 160, 2, 1, 158, 0, 1]) ws (vs) := by
    refine ⟨fun n hn => ?_, ?_⟩
    · have hn : n ∈ [13, 0] := hn
      rw [hl]
      simp only [List.mem_cons, List.not_mem_nil, or_false] at hn
      show n < 15; omega
    · show (v_iv (n_v vs 13) = 1) → (w_ei ws (w_ar ws (n_v vs 0) 160) (w_fi ws (n_v vs 0) 158) = 1)
      first | omega | grind
  have nf1 : fc_1 (24, [0, 0], []) ws (vs) := by
    refine ⟨fun n hn => ?_, ?_⟩
    · have hn : n ∈ [0, 0] := hn
      rw [hl]
      simp only [List.mem_cons, List.not_mem_nil, or_false] at hn
      show n < 15; omega
    · show n_v vs 0 = n_v vs 0
      first | rfl | simp only [true_and]
  refine ⟨(fun _ h => (by cases h)), [], trivial, ?_, (fun _ h => (by cases h))⟩
  rw [List.append_nil]
  exact List.forall_mem_cons.mpr ⟨⟨show (20 : Nat) < 100 from by decide, nf0⟩, List.forall_mem_cons.mpr ⟨⟨show (24 : Nat) < 100 from by decide, nf1⟩, (fun _ h => (by cases h))⟩⟩
def o_Mo_word_at_s5041_3 : or_T := (54, 15, [(0, (2, 0, 0, [150])), (3, (2, 0, 0, [259])), (4, (0, 0, 2009, [])), (5, (0, 1, 1, [])), (6, (0, 1, 1, [])), (13, (0, 1, 1, []))], [(9, [4, 0], [158]), (7, [5, 6], [0]), (10, [5, 3, 4], []), (9, [3, 0], [160])], [], [], [(20, [13, 0], [50, 1, 1, 1158, 1160, 4, 6, 1, 2, 1, 0, 0, 1, 1, 6, 3, 1, 160, 2, 1, 158, 0, 1]), (24, [0, 0], [])], [], [])
theorem oo_Mo_word_at_s5041_3 {kA : Nat → ClassId} : or_ok kA GG o_Mo_word_at_s5041_3 := by
  intro A ta ws vs hD hth hl hk hds hf
  have hl : vs.length = 15 := hl
  have hk : ∀ q ∈ ([(0, (2, 0, 0, [150])), (3, (2, 0, 0, [259])), (4, (0, 0, 2009, [])), (5, (0, 1, 1, [])), (6, (0, 1, 1, [])), (13, (0, 1, 1, []))] : List (Nat × tv_T)), tv_ok ta q.2 (n_v vs q.1) := hk
  obtain ⟨t0, hk⟩ := List.forall_mem_cons.mp hk
  have t0 : tv_ok ta (2, 0, 0, [150]) (n_v vs 0) := t0
  have r0 : ta (v_ad (n_v vs 0)) = some 150 := tv_rg t0
  obtain ⟨t3, hk⟩ := List.forall_mem_cons.mp hk
  have t3 : tv_ok ta (2, 0, 0, [259]) (n_v vs 3) := t3
  have r3 : ta (v_ad (n_v vs 3)) = some 259 := tv_rg t3
  obtain ⟨t4, hk⟩ := List.forall_mem_cons.mp hk
  have t4 : tv_ok ta (0, 0, 2009, []) (n_v vs 4) := t4
  have k4 : 0 ≤ v_iv (n_v vs 4) ∧ v_iv (n_v vs 4) ≤ 2009 := tv_rng t4
  obtain ⟨t5, hk⟩ := List.forall_mem_cons.mp hk
  have t5 : tv_ok ta (0, 1, 1, []) (n_v vs 5) := t5
  have k5 : 1 ≤ v_iv (n_v vs 5) ∧ v_iv (n_v vs 5) ≤ 1 := tv_rng t5
  obtain ⟨t6, hk⟩ := List.forall_mem_cons.mp hk
  have t6 : tv_ok ta (0, 1, 1, []) (n_v vs 6) := t6
  have k6 : 1 ≤ v_iv (n_v vs 6) ∧ v_iv (n_v vs 6) ≤ 1 := tv_rng t6
  obtain ⟨t13, hk⟩ := List.forall_mem_cons.mp hk
  have t13 : tv_ok ta (0, 1, 1, []) (n_v vs 13) := t13
  have k13 : 1 ≤ v_iv (n_v vs 13) ∧ v_iv (n_v vs 13) ≤ 1 := tv_rng t13
  have hf : fc_ok [(9, [4, 0], [158]), (7, [5, 6], [0]), (10, [5, 3, 4], []), (9, [3, 0], [160])] ta ws vs := hf
  obtain ⟨f0, hf⟩ := fc_un (show (9 : Nat) < 100 from by decide) hf
  have f0 : n_v vs 4 = w_fd ws (v_ad (n_v vs 0)) 158 := f0
  obtain ⟨f1, hf⟩ := fc_un (show (7 : Nat) < 100 from by decide) hf
  have f1 : v_iv (n_v vs 5) = v_iv (n_v vs 6) := f1
  obtain ⟨f2, hf⟩ := fc_un (show (10 : Nat) < 100 from by decide) hf
  have f2 : v_iv (n_v vs 5) = w_el ws (v_ad (n_v vs 3)) (v_iv (n_v vs 4)).toNat := f2
  obtain ⟨f3, hf⟩ := fc_un (show (9 : Nat) < 100 from by decide) hf
  have f3 : n_v vs 3 = w_fd ws (v_ad (n_v vs 0)) 160 := f3
  have cr_0_160 : ta (w_ar ws (n_v vs 0) 160) = some 259 := tv_rg (th_fd hD hth r0 (g := GG_150) rfl (k := 160) (t := (2, 0, 0, [259])) rfl rfl)
  have ad_3 : v_ad (n_v vs 3) = w_ar ws (n_v vs 0) 160 := congrArg v_ad f3
  have g0 : v_iv (n_v vs 4) = w_fi ws (n_v vs 0) 158 := congrArg v_iv f0
  rw [ad_3] at f2
  have h2 : v_iv (n_v vs 5) = w_ei ws (w_ar ws (n_v vs 0) 160) (v_iv (n_v vs 4)) := f2
  have br_0_160_4_0 : w_ei ws (w_ar ws (n_v vs 0) 160) (v_iv (n_v vs 4)) = w_el ws (w_ar ws (n_v vs 0) 160) (v_iv (n_v vs 4)).toNat := rfl
  have hK_0_160 : ∀ j : Int, 0 ≤ j → j < 2010 → 0 ≤ w_ei ws (w_ar ws (n_v vs 0) 160) j ∧ w_ei ws (w_ar ws (n_v vs 0) 160) j ≤ 4 := fun j h0 h1 => th_el hD hth cr_0_160 (kd := 0) (n := 2010) (m := 2010) (lo := 0) (hi := 4) (rs := []) (L := []) rfl (by decide) (j := j.toNat) (by omega)
  have kz_0_158 : 0 ≤ w_fi ws (n_v vs 0) 158 ∧ w_fi ws (n_v vs 0) 158 ≤ 2009 := tv_rng (th_fd hD hth r0 (g := GG_150) rfl (k := 158) (t := (0, 0, 2009, [])) rfl rfl)
  have nf0 : fc_1 (20, [13, 0], [50, 1, 1, 1158, 1160, 4, 6, 1, 2, 1, 0, 0, 1, 1, 6, 3, 1, 160, 2, 1, 158, 0, 1]) ws (vs) := by
    refine ⟨fun n hn => ?_, ?_⟩
    · have hn : n ∈ [13, 0] := hn
      rw [hl]
      simp only [List.mem_cons, List.not_mem_nil, or_false] at hn
      show n < 15; omega
    · show (v_iv (n_v vs 13) = 1) → (w_ei ws (w_ar ws (n_v vs 0) 160) (w_fi ws (n_v vs 0) 158) = 1)
      first | omega | grind
  have nf1 : fc_1 (24, [0, 0], []) ws (vs) := by
    refine ⟨fun n hn => ?_, ?_⟩
    · have hn : n ∈ [0, 0] := hn
      rw [hl]
      simp only [List.mem_cons, List.not_mem_nil, or_false] at hn
      show n < 15; omega
    · show n_v vs 0 = n_v vs 0
      first | rfl | simp only [true_and]
  refine ⟨(fun _ h => (by cases h)), [], trivial, ?_, (fun _ h => (by cases h))⟩
  rw [List.append_nil]
  exact List.forall_mem_cons.mpr ⟨⟨show (20 : Nat) < 100 from by decide, nf0⟩, List.forall_mem_cons.mpr ⟨⟨show (24 : Nat) < 100 from by decide, nf1⟩, (fun _ h => (by cases h))⟩⟩
def o_Mo_word_at_s5041_4 : or_T := (102, 7, [(0, (2, 0, 0, [150])), (2, (2, 0, 0, [150])), (4, (0, 0, 1, []))], [(20, [4, 2], [50, 1, 1, 1158, 1160, 4, 6, 1, 2, 1, 0, 0, 1, 1, 6, 3, 1, 160, 2, 1, 158, 0, 1]), (24, [0, 2], [])], [], [], [(20, [4, 0], [50, 1, 1, 1158, 1160, 4, 6, 1, 2, 1, 0, 0, 1, 1, 6, 3, 1, 160, 2, 1, 158, 0, 1])], [], [])
theorem oo_Mo_word_at_s5041_4 {kA : Nat → ClassId} : or_ok kA GG o_Mo_word_at_s5041_4 := by
  intro A ta ws vs hD hth hl hk hds hf
  have hl : vs.length = 7 := hl
  have hk : ∀ q ∈ ([(0, (2, 0, 0, [150])), (2, (2, 0, 0, [150])), (4, (0, 0, 1, []))] : List (Nat × tv_T)), tv_ok ta q.2 (n_v vs q.1) := hk
  obtain ⟨t0, hk⟩ := List.forall_mem_cons.mp hk
  have t0 : tv_ok ta (2, 0, 0, [150]) (n_v vs 0) := t0
  have r0 : ta (v_ad (n_v vs 0)) = some 150 := tv_rg t0
  obtain ⟨t2, hk⟩ := List.forall_mem_cons.mp hk
  have t2 : tv_ok ta (2, 0, 0, [150]) (n_v vs 2) := t2
  have r2 : ta (v_ad (n_v vs 2)) = some 150 := tv_rg t2
  obtain ⟨t4, hk⟩ := List.forall_mem_cons.mp hk
  have t4 : tv_ok ta (0, 0, 1, []) (n_v vs 4) := t4
  have k4 : 0 ≤ v_iv (n_v vs 4) ∧ v_iv (n_v vs 4) ≤ 1 := tv_rng t4
  have hf : fc_ok [(20, [4, 2], [50, 1, 1, 1158, 1160, 4, 6, 1, 2, 1, 0, 0, 1, 1, 6, 3, 1, 160, 2, 1, 158, 0, 1]), (24, [0, 2], [])] ta ws vs := hf
  obtain ⟨f0, hf⟩ := fc_un (show (20 : Nat) < 100 from by decide) hf
  have f0 : (v_iv (n_v vs 4) = 1) → (w_ei ws (w_ar ws (n_v vs 2) 160) (w_fi ws (n_v vs 2) 158) = 1) := f0
  obtain ⟨f1, hf⟩ := fc_un (show (24 : Nat) < 100 from by decide) hf
  have f1 : n_v vs 0 = n_v vs 2 := f1
  have q2 : n_v vs 2 = n_v vs 0 := f1.symm
  rw [q2] at f0
  have cr_0_160 : ta (w_ar ws (n_v vs 0) 160) = some 259 := tv_rg (th_fd hD hth r0 (g := GG_150) rfl (k := 160) (t := (2, 0, 0, [259])) rfl rfl)
  have hK_0_160 : ∀ j : Int, 0 ≤ j → j < 2010 → 0 ≤ w_ei ws (w_ar ws (n_v vs 0) 160) j ∧ w_ei ws (w_ar ws (n_v vs 0) 160) j ≤ 4 := fun j h0 h1 => th_el hD hth cr_0_160 (kd := 0) (n := 2010) (m := 2010) (lo := 0) (hi := 4) (rs := []) (L := []) rfl (by decide) (j := j.toNat) (by omega)
  have kz_0_158 : 0 ≤ w_fi ws (n_v vs 0) 158 ∧ w_fi ws (n_v vs 0) 158 ≤ 2009 := tv_rng (th_fd hD hth r0 (g := GG_150) rfl (k := 158) (t := (0, 0, 2009, [])) rfl rfl)
  have nf0 : fc_1 (20, [4, 0], [50, 1, 1, 1158, 1160, 4, 6, 1, 2, 1, 0, 0, 1, 1, 6, 3, 1, 160, 2, 1, 158, 0, 1]) ws (vs) := by
    refine ⟨fun n hn => ?_, ?_⟩
    · have hn : n ∈ [4, 0] := hn
      rw [hl]
      simp only [List.mem_cons, List.not_mem_nil, or_false] at hn
      show n < 7; omega
    · show (v_iv (n_v vs 4) = 1) → (w_ei ws (w_ar ws (n_v vs 0) 160) (w_fi ws (n_v vs 0) 158) = 1)
      first | omega | grind
  refine ⟨(fun _ h => (by cases h)), [], trivial, ?_, (fun _ h => (by cases h))⟩
  rw [List.append_nil]
  exact List.forall_mem_cons.mpr ⟨⟨show (20 : Nat) < 100 from by decide, nf0⟩, (fun _ h => (by cases h))⟩
def o_Mo_word_at_s5041_5 : or_T := (102, 7, [(0, (2, 0, 0, [150])), (2, (2, 0, 0, [150])), (4, (0, 0, 0, []))], [(8, [4], [0]), (20, [4, 2], [50, 1, 1, 1158, 1160, 4, 6, 1, 2, 1, 0, 0, 1, 1, 6, 3, 1, 160, 2, 1, 158, 0, 1]), (24, [0, 2], [])], [], [], [(20, [4, 0], [50, 1, 1, 1158, 1160, 4, 6, 1, 2, 1, 0, 0, 1, 1, 6, 3, 1, 160, 2, 1, 158, 0, 1])], [], [])
theorem oo_Mo_word_at_s5041_5 {kA : Nat → ClassId} : or_ok kA GG o_Mo_word_at_s5041_5 := by
  intro A ta ws vs hD hth hl hk hds hf
  have hl : vs.length = 7 := hl
  have hk : ∀ q ∈ ([(0, (2, 0, 0, [150])), (2, (2, 0, 0, [150])), (4, (0, 0, 0, []))] : List (Nat × tv_T)), tv_ok ta q.2 (n_v vs q.1) := hk
  obtain ⟨t0, hk⟩ := List.forall_mem_cons.mp hk
  have t0 : tv_ok ta (2, 0, 0, [150]) (n_v vs 0) := t0
  have r0 : ta (v_ad (n_v vs 0)) = some 150 := tv_rg t0
  obtain ⟨t2, hk⟩ := List.forall_mem_cons.mp hk
  have t2 : tv_ok ta (2, 0, 0, [150]) (n_v vs 2) := t2
  have r2 : ta (v_ad (n_v vs 2)) = some 150 := tv_rg t2
  obtain ⟨t4, hk⟩ := List.forall_mem_cons.mp hk
  have t4 : tv_ok ta (0, 0, 0, []) (n_v vs 4) := t4
  have k4 : 0 ≤ v_iv (n_v vs 4) ∧ v_iv (n_v vs 4) ≤ 0 := tv_rng t4
  have hf : fc_ok [(8, [4], [0]), (20, [4, 2], [50, 1, 1, 1158, 1160, 4, 6, 1, 2, 1, 0, 0, 1, 1, 6, 3, 1, 160, 2, 1, 158, 0, 1]), (24, [0, 2], [])] ta ws vs := hf
  obtain ⟨f0, hf⟩ := fc_un (show (8 : Nat) < 100 from by decide) hf
  have f0 : v_iv (n_v vs 4) = 0 := f0
  obtain ⟨f1, hf⟩ := fc_un (show (20 : Nat) < 100 from by decide) hf
  have f1 : (v_iv (n_v vs 4) = 1) → (w_ei ws (w_ar ws (n_v vs 2) 160) (w_fi ws (n_v vs 2) 158) = 1) := f1
  obtain ⟨f2, hf⟩ := fc_un (show (24 : Nat) < 100 from by decide) hf
  have f2 : n_v vs 0 = n_v vs 2 := f2
  have q2 : n_v vs 2 = n_v vs 0 := f2.symm
  rw [q2] at f1
  have cr_0_160 : ta (w_ar ws (n_v vs 0) 160) = some 259 := tv_rg (th_fd hD hth r0 (g := GG_150) rfl (k := 160) (t := (2, 0, 0, [259])) rfl rfl)
  have hK_0_160 : ∀ j : Int, 0 ≤ j → j < 2010 → 0 ≤ w_ei ws (w_ar ws (n_v vs 0) 160) j ∧ w_ei ws (w_ar ws (n_v vs 0) 160) j ≤ 4 := fun j h0 h1 => th_el hD hth cr_0_160 (kd := 0) (n := 2010) (m := 2010) (lo := 0) (hi := 4) (rs := []) (L := []) rfl (by decide) (j := j.toNat) (by omega)
  have kz_0_158 : 0 ≤ w_fi ws (n_v vs 0) 158 ∧ w_fi ws (n_v vs 0) 158 ≤ 2009 := tv_rng (th_fd hD hth r0 (g := GG_150) rfl (k := 158) (t := (0, 0, 2009, [])) rfl rfl)
  have nf0 : fc_1 (20, [4, 0], [50, 1, 1, 1158, 1160, 4, 6, 1, 2, 1, 0, 0, 1, 1, 6, 3, 1, 160, 2, 1, 158, 0, 1]) ws (vs) := by
    refine ⟨fun n hn => ?_, ?_⟩
    · have hn : n ∈ [4, 0] := hn
      rw [hl]
      simp only [List.mem_cons, List.not_mem_nil, or_false] at hn
      show n < 7; omega
    · show (v_iv (n_v vs 4) = 1) → (w_ei ws (w_ar ws (n_v vs 0) 160) (w_fi ws (n_v vs 0) 158) = 1)
      first | omega | grind
  refine ⟨(fun _ h => (by cases h)), [], trivial, ?_, (fun _ h => (by cases h))⟩
  rw [List.append_nil]
  exact List.forall_mem_cons.mpr ⟨⟨show (20 : Nat) < 100 from by decide, nf0⟩, (fun _ h => (by cases h))⟩
def o_Mo_word_at_s5041_6 : or_T := (54, 15, [(0, (2, 0, 0, [150])), (2, (2, 0, 0, [150])), (4, (0, 1, 1, [])), (5, (0, 0, 1, [])), (6, (0, 2, 2, [])), (7, (2, 0, 0, [261])), (8, (0, 0, 2009, [])), (9, (0, 0, 2000, [])), (10, (0, 0, 2001, [])), (11, (0, -1, -1, [])), (12, (0, 0, 65535, [])), (13, (0, 0, 0, [])), (14, (0, 1, 2, []))], [(6, [14, 5], [1]), (7, [11, 12], [1]), (20, [10, 2, 11], [50, 1, 1, 1010, 1001, 4, 11, 0, 6, 4, 2, 1, 0, 0, 1, 2, 1, 10, 1, 2, 1, 2, 9, 5, 3, 1, 1, 1, 0, 0, 256]), (20, [2, 10, 11], [50, 1, 0, 10, 4, 7, 0, 3, 2, 0, 10, 1, 1, 1, 2, 1, 2, 0, -1]), (1, [10, 9, 5], []), (10, [9, 7, 8], []), (9, [8, 2], [158]), (9, [7, 2], [162]), (8, [4], [1]), (7, [5, 6], [2]), (20, [4, 2], [50, 1, 1, 1158, 1160, 4, 6, 1, 2, 1, 0, 0, 1, 1, 6, 3, 1, 160, 2, 1, 158, 0, 1]), (24, [0, 2], [])], [], [], [(20, [13, 2], [50, 1, 1, 1158, 1160, 4, 6, 1, 2, 1, 0, 0, 1, 1, 6, 3, 1, 160, 2, 1, 158, 0, 1])], [], [(14, 5, 1, 1), (14, 4, -4294967296, 3), (10, 5, 0, 2000), (10, 4, -4294967296, 2002), (10, 9, 0, 1), (4, 5, -4294967296, 1), (5, 4, -4294967296, 2)])
theorem oo_Mo_word_at_s5041_6 {kA : Nat → ClassId} : or_ok kA GG o_Mo_word_at_s5041_6 := by
  intro A ta ws vs hD hth hl hk hds hf
  have hl : vs.length = 15 := hl
  have hk : ∀ q ∈ ([(0, (2, 0, 0, [150])), (2, (2, 0, 0, [150])), (4, (0, 1, 1, [])), (5, (0, 0, 1, [])), (6, (0, 2, 2, [])), (7, (2, 0, 0, [261])), (8, (0, 0, 2009, [])), (9, (0, 0, 2000, [])), (10, (0, 0, 2001, [])), (11, (0, -1, -1, [])), (12, (0, 0, 65535, [])), (13, (0, 0, 0, [])), (14, (0, 1, 2, []))] : List (Nat × tv_T)), tv_ok ta q.2 (n_v vs q.1) := hk
  obtain ⟨t0, hk⟩ := List.forall_mem_cons.mp hk
  have t0 : tv_ok ta (2, 0, 0, [150]) (n_v vs 0) := t0
  have r0 : ta (v_ad (n_v vs 0)) = some 150 := tv_rg t0
  obtain ⟨t2, hk⟩ := List.forall_mem_cons.mp hk
  have t2 : tv_ok ta (2, 0, 0, [150]) (n_v vs 2) := t2
  have r2 : ta (v_ad (n_v vs 2)) = some 150 := tv_rg t2
  obtain ⟨t4, hk⟩ := List.forall_mem_cons.mp hk
  have t4 : tv_ok ta (0, 1, 1, []) (n_v vs 4) := t4
  have k4 : 1 ≤ v_iv (n_v vs 4) ∧ v_iv (n_v vs 4) ≤ 1 := tv_rng t4
  obtain ⟨t5, hk⟩ := List.forall_mem_cons.mp hk
  have t5 : tv_ok ta (0, 0, 1, []) (n_v vs 5) := t5
  have k5 : 0 ≤ v_iv (n_v vs 5) ∧ v_iv (n_v vs 5) ≤ 1 := tv_rng t5
  obtain ⟨t6, hk⟩ := List.forall_mem_cons.mp hk
  have t6 : tv_ok ta (0, 2, 2, []) (n_v vs 6) := t6
  have k6 : 2 ≤ v_iv (n_v vs 6) ∧ v_iv (n_v vs 6) ≤ 2 := tv_rng t6
  obtain ⟨t7, hk⟩ := List.forall_mem_cons.mp hk
  have t7 : tv_ok ta (2, 0, 0, [261]) (n_v vs 7) := t7
  have r7 : ta (v_ad (n_v vs 7)) = some 261 := tv_rg t7
  obtain ⟨t8, hk⟩ := List.forall_mem_cons.mp hk
  have t8 : tv_ok ta (0, 0, 2009, []) (n_v vs 8) := t8
  have k8 : 0 ≤ v_iv (n_v vs 8) ∧ v_iv (n_v vs 8) ≤ 2009 := tv_rng t8
  obtain ⟨t9, hk⟩ := List.forall_mem_cons.mp hk
  have t9 : tv_ok ta (0, 0, 2000, []) (n_v vs 9) := t9
  have k9 : 0 ≤ v_iv (n_v vs 9) ∧ v_iv (n_v vs 9) ≤ 2000 := tv_rng t9
  obtain ⟨t10, hk⟩ := List.forall_mem_cons.mp hk
  have t10 : tv_ok ta (0, 0, 2001, []) (n_v vs 10) := t10
  have k10 : 0 ≤ v_iv (n_v vs 10) ∧ v_iv (n_v vs 10) ≤ 2001 := tv_rng t10
  obtain ⟨t11, hk⟩ := List.forall_mem_cons.mp hk
  have t11 : tv_ok ta (0, -1, -1, []) (n_v vs 11) := t11
  have k11 : (-1) ≤ v_iv (n_v vs 11) ∧ v_iv (n_v vs 11) ≤ (-1) := tv_rng t11
  obtain ⟨t12, hk⟩ := List.forall_mem_cons.mp hk
  have t12 : tv_ok ta (0, 0, 65535, []) (n_v vs 12) := t12
  have k12 : 0 ≤ v_iv (n_v vs 12) ∧ v_iv (n_v vs 12) ≤ 65535 := tv_rng t12
  obtain ⟨t13, hk⟩ := List.forall_mem_cons.mp hk
  have t13 : tv_ok ta (0, 0, 0, []) (n_v vs 13) := t13
  have k13 : 0 ≤ v_iv (n_v vs 13) ∧ v_iv (n_v vs 13) ≤ 0 := tv_rng t13
  obtain ⟨t14, hk⟩ := List.forall_mem_cons.mp hk
  have t14 : tv_ok ta (0, 1, 2, []) (n_v vs 14) := t14
  have k14 : 1 ≤ v_iv (n_v vs 14) ∧ v_iv (n_v vs 14) ≤ 2 := tv_rng t14
  have hds : ∀ q ∈ ([(14, 5, 1, 1), (14, 4, -4294967296, 3), (10, 5, 0, 2000), (10, 4, -4294967296, 2002), (10, 9, 0, 1), (4, 5, -4294967296, 1), (5, 4, -4294967296, 2)] : List of_T), n_iv vs q.2.1 + q.2.2.1 ≤ n_iv vs q.1 ∧ n_iv vs q.1 ≤ n_iv vs q.2.1 + q.2.2.2 := hds
  obtain ⟨d0, hds⟩ := List.forall_mem_cons.mp hds
  have d0 : v_iv (n_v vs 5) + 1 ≤ v_iv (n_v vs 14) ∧ v_iv (n_v vs 14) ≤ v_iv (n_v vs 5) + 1 := d0
  obtain ⟨d1, hds⟩ := List.forall_mem_cons.mp hds
  have d1 : v_iv (n_v vs 4) + (-4294967296) ≤ v_iv (n_v vs 14) ∧ v_iv (n_v vs 14) ≤ v_iv (n_v vs 4) + 3 := d1
  obtain ⟨d2, hds⟩ := List.forall_mem_cons.mp hds
  have d2 : v_iv (n_v vs 5) + 0 ≤ v_iv (n_v vs 10) ∧ v_iv (n_v vs 10) ≤ v_iv (n_v vs 5) + 2000 := d2
  obtain ⟨d3, hds⟩ := List.forall_mem_cons.mp hds
  have d3 : v_iv (n_v vs 4) + (-4294967296) ≤ v_iv (n_v vs 10) ∧ v_iv (n_v vs 10) ≤ v_iv (n_v vs 4) + 2002 := d3
  obtain ⟨d4, hds⟩ := List.forall_mem_cons.mp hds
  have d4 : v_iv (n_v vs 9) + 0 ≤ v_iv (n_v vs 10) ∧ v_iv (n_v vs 10) ≤ v_iv (n_v vs 9) + 1 := d4
  obtain ⟨d5, hds⟩ := List.forall_mem_cons.mp hds
  have d5 : v_iv (n_v vs 5) + (-4294967296) ≤ v_iv (n_v vs 4) ∧ v_iv (n_v vs 4) ≤ v_iv (n_v vs 5) + 1 := d5
  obtain ⟨d6, hds⟩ := List.forall_mem_cons.mp hds
  have d6 : v_iv (n_v vs 4) + (-4294967296) ≤ v_iv (n_v vs 5) ∧ v_iv (n_v vs 5) ≤ v_iv (n_v vs 4) + 2 := d6
  have hf : fc_ok [(6, [14, 5], [1]), (7, [11, 12], [1]), (20, [10, 2, 11], [50, 1, 1, 1010, 1001, 4, 11, 0, 6, 4, 2, 1, 0, 0, 1, 2, 1, 10, 1, 2, 1, 2, 9, 5, 3, 1, 1, 1, 0, 0, 256]), (20, [2, 10, 11], [50, 1, 0, 10, 4, 7, 0, 3, 2, 0, 10, 1, 1, 1, 2, 1, 2, 0, -1]), (1, [10, 9, 5], []), (10, [9, 7, 8], []), (9, [8, 2], [158]), (9, [7, 2], [162]), (8, [4], [1]), (7, [5, 6], [2]), (20, [4, 2], [50, 1, 1, 1158, 1160, 4, 6, 1, 2, 1, 0, 0, 1, 1, 6, 3, 1, 160, 2, 1, 158, 0, 1]), (24, [0, 2], [])] ta ws vs := hf
  obtain ⟨f0, hf⟩ := fc_un (show (6 : Nat) < 100 from by decide) hf
  have f0 : v_iv (n_v vs 14) = v_iv (n_v vs 5) + 1 := f0
  obtain ⟨f1, hf⟩ := fc_un (show (7 : Nat) < 100 from by decide) hf
  have f1 : v_iv (n_v vs 11) ≠ v_iv (n_v vs 12) := f1
  obtain ⟨f2, hf⟩ := fc_un (show (20 : Nat) < 100 from by decide) hf
  have f2 : ((v_iv (n_v vs 10) + 1) ≤ w_fi ws (n_v vs 2) 10) → (v_iv (n_v vs 11) = (w_ei ws (w_ar ws (n_v vs 2) 1) (v_iv (n_v vs 10)) % 256)) := f2
  obtain ⟨f3, hf⟩ := fc_un (show (20 : Nat) < 100 from by decide) hf
  have f3 : (w_fi ws (n_v vs 2) 10 ≤ v_iv (n_v vs 10)) → (v_iv (n_v vs 11) = (-1)) := f3
  obtain ⟨f4, hf⟩ := fc_un (show (1 : Nat) < 100 from by decide) hf
  have f4 : v_iv (n_v vs 10) = v_iv (n_v vs 9) + v_iv (n_v vs 5) := f4
  obtain ⟨f5, hf⟩ := fc_un (show (10 : Nat) < 100 from by decide) hf
  have f5 : v_iv (n_v vs 9) = w_el ws (v_ad (n_v vs 7)) (v_iv (n_v vs 8)).toNat := f5
  obtain ⟨f6, hf⟩ := fc_un (show (9 : Nat) < 100 from by decide) hf
  have f6 : n_v vs 8 = w_fd ws (v_ad (n_v vs 2)) 158 := f6
  obtain ⟨f7, hf⟩ := fc_un (show (9 : Nat) < 100 from by decide) hf
  have f7 : n_v vs 7 = w_fd ws (v_ad (n_v vs 2)) 162 := f7
  obtain ⟨f8, hf⟩ := fc_un (show (8 : Nat) < 100 from by decide) hf
  have f8 : v_iv (n_v vs 4) ≠ 0 := f8
  obtain ⟨f9, hf⟩ := fc_un (show (7 : Nat) < 100 from by decide) hf
  have f9 : v_iv (n_v vs 5) < v_iv (n_v vs 6) := f9
  obtain ⟨f10, hf⟩ := fc_un (show (20 : Nat) < 100 from by decide) hf
  have f10 : (v_iv (n_v vs 4) = 1) → (w_ei ws (w_ar ws (n_v vs 2) 160) (w_fi ws (n_v vs 2) 158) = 1) := f10
  obtain ⟨f11, hf⟩ := fc_un (show (24 : Nat) < 100 from by decide) hf
  have f11 : n_v vs 0 = n_v vs 2 := f11
  have q2 : n_v vs 2 = n_v vs 0 := f11.symm
  rw [q2] at f2
  rw [q2] at f3
  rw [q2] at f6
  rw [q2] at f7
  rw [q2] at f10
  have cr_0_1 : ta (w_ar ws (n_v vs 0) 1) = some 151 := tv_rg (th_fd hD hth r0 (g := GG_150) rfl (k := 1) (t := (2, 0, 0, [151])) rfl rfl)
  have cr_0_160 : ta (w_ar ws (n_v vs 0) 160) = some 259 := tv_rg (th_fd hD hth r0 (g := GG_150) rfl (k := 160) (t := (2, 0, 0, [259])) rfl rfl)
  have cr_0_162 : ta (w_ar ws (n_v vs 0) 162) = some 261 := tv_rg (th_fd hD hth r0 (g := GG_150) rfl (k := 162) (t := (2, 0, 0, [261])) rfl rfl)
  have ad_7 : v_ad (n_v vs 7) = w_ar ws (n_v vs 0) 162 := congrArg v_ad f7
  rw [ad_7] at f5
  have g6 : v_iv (n_v vs 8) = w_fi ws (n_v vs 0) 158 := congrArg v_iv f6
  have hK_0_1 : ∀ j : Int, 0 ≤ j → j < 2000 → (-128) ≤ w_ei ws (w_ar ws (n_v vs 0) 1) j ∧ w_ei ws (w_ar ws (n_v vs 0) 1) j ≤ 127 := fun j h0 h1 => th_el hD hth cr_0_1 (kd := 1) (n := 2000) (m := 2000) (lo := (-128)) (hi := 127) (rs := []) (L := []) rfl (by decide) (j := j.toNat) (by omega)
  have hK_0_160 : ∀ j : Int, 0 ≤ j → j < 2010 → 0 ≤ w_ei ws (w_ar ws (n_v vs 0) 160) j ∧ w_ei ws (w_ar ws (n_v vs 0) 160) j ≤ 4 := fun j h0 h1 => th_el hD hth cr_0_160 (kd := 0) (n := 2010) (m := 2010) (lo := 0) (hi := 4) (rs := []) (L := []) rfl (by decide) (j := j.toNat) (by omega)
  have kz_0_10 : 0 ≤ w_fi ws (n_v vs 0) 10 ∧ w_fi ws (n_v vs 0) 10 ≤ 2000 := tv_rng (th_fd hD hth r0 (g := GG_150) rfl (k := 10) (t := (0, 0, 2000, [])) rfl rfl)
  have kz_0_158 : 0 ≤ w_fi ws (n_v vs 0) 158 ∧ w_fi ws (n_v vs 0) 158 ≤ 2009 := tv_rng (th_fd hD hth r0 (g := GG_150) rfl (k := 158) (t := (0, 0, 2009, [])) rfl rfl)
  have nf0 : fc_1 (20, [13, 2], [50, 1, 1, 1158, 1160, 4, 6, 1, 2, 1, 0, 0, 1, 1, 6, 3, 1, 160, 2, 1, 158, 0, 1]) ws (vs) := by
    refine ⟨fun n hn => ?_, ?_⟩
    · have hn : n ∈ [13, 2] := hn
      rw [hl]
      simp only [List.mem_cons, List.not_mem_nil, or_false] at hn
      show n < 15; omega
    · show (v_iv (n_v vs 13) = 1) → (w_ei ws (w_ar ws (n_v vs 2) 160) (w_fi ws (n_v vs 2) 158) = 1)
      rw [q2]
      first | omega | grind
  refine ⟨(fun _ h => (by cases h)), [], trivial, ?_, (fun _ h => (by cases h))⟩
  rw [List.append_nil]
  exact List.forall_mem_cons.mpr ⟨⟨show (20 : Nat) < 100 from by decide, nf0⟩, (fun _ h => (by cases h))⟩
def o_Mo_word_at_s5041_7 : or_T := (54, 15, [(0, (2, 0, 0, [150])), (2, (2, 0, 0, [150])), (4, (0, 1, 1, [])), (5, (0, 0, 1, [])), (6, (0, 2, 2, [])), (7, (2, 0, 0, [261])), (8, (0, 0, 2009, [])), (9, (0, 0, 1999, [])), (10, (0, 0, 1999, [])), (11, (0, 0, 255, [])), (12, (0, 0, 65535, [])), (13, (0, 0, 0, [])), (14, (0, 1, 2, []))], [(6, [14, 5], [1]), (7, [11, 12], [1]), (20, [10, 2, 11], [50, 1, 1, 1010, 1001, 4, 11, 0, 6, 4, 2, 1, 0, 0, 1, 2, 1, 10, 1, 2, 1, 2, 9, 5, 3, 1, 1, 1, 0, 0, 256]), (20, [2, 10, 11], [50, 1, 0, 10, 4, 7, 0, 3, 2, 0, 10, 1, 1, 1, 2, 1, 2, 0, -1]), (1, [10, 9, 5], []), (10, [9, 7, 8], []), (9, [8, 2], [158]), (9, [7, 2], [162]), (8, [4], [1]), (7, [5, 6], [2]), (20, [4, 2], [50, 1, 1, 1158, 1160, 4, 6, 1, 2, 1, 0, 0, 1, 1, 6, 3, 1, 160, 2, 1, 158, 0, 1]), (24, [0, 2], [])], [], [], [(20, [13, 2], [50, 1, 1, 1158, 1160, 4, 6, 1, 2, 1, 0, 0, 1, 1, 6, 3, 1, 160, 2, 1, 158, 0, 1])], [], [(14, 5, 1, 1), (14, 4, -4294967296, 3), (10, 5, 0, 2000), (10, 4, -4294967296, 2002), (10, 9, 0, 1), (4, 5, -4294967296, 1), (5, 4, -4294967296, 2)])
theorem oo_Mo_word_at_s5041_7 {kA : Nat → ClassId} : or_ok kA GG o_Mo_word_at_s5041_7 := by
  intro A ta ws vs hD hth hl hk hds hf
  have hl : vs.length = 15 := hl
  have hk : ∀ q ∈ ([(0, (2, 0, 0, [150])), (2, (2, 0, 0, [150])), (4, (0, 1, 1, [])), (5, (0, 0, 1, [])), (6, (0, 2, 2, [])), (7, (2, 0, 0, [261])), (8, (0, 0, 2009, [])), (9, (0, 0, 1999, [])), (10, (0, 0, 1999, [])), (11, (0, 0, 255, [])), (12, (0, 0, 65535, [])), (13, (0, 0, 0, [])), (14, (0, 1, 2, []))] : List (Nat × tv_T)), tv_ok ta q.2 (n_v vs q.1) := hk
  obtain ⟨t0, hk⟩ := List.forall_mem_cons.mp hk
  have t0 : tv_ok ta (2, 0, 0, [150]) (n_v vs 0) := t0
  have r0 : ta (v_ad (n_v vs 0)) = some 150 := tv_rg t0
  obtain ⟨t2, hk⟩ := List.forall_mem_cons.mp hk
  have t2 : tv_ok ta (2, 0, 0, [150]) (n_v vs 2) := t2
  have r2 : ta (v_ad (n_v vs 2)) = some 150 := tv_rg t2
  obtain ⟨t4, hk⟩ := List.forall_mem_cons.mp hk
  have t4 : tv_ok ta (0, 1, 1, []) (n_v vs 4) := t4
  have k4 : 1 ≤ v_iv (n_v vs 4) ∧ v_iv (n_v vs 4) ≤ 1 := tv_rng t4
  obtain ⟨t5, hk⟩ := List.forall_mem_cons.mp hk
  have t5 : tv_ok ta (0, 0, 1, []) (n_v vs 5) := t5
  have k5 : 0 ≤ v_iv (n_v vs 5) ∧ v_iv (n_v vs 5) ≤ 1 := tv_rng t5
  obtain ⟨t6, hk⟩ := List.forall_mem_cons.mp hk
  have t6 : tv_ok ta (0, 2, 2, []) (n_v vs 6) := t6
  have k6 : 2 ≤ v_iv (n_v vs 6) ∧ v_iv (n_v vs 6) ≤ 2 := tv_rng t6
  obtain ⟨t7, hk⟩ := List.forall_mem_cons.mp hk
  have t7 : tv_ok ta (2, 0, 0, [261]) (n_v vs 7) := t7
  have r7 : ta (v_ad (n_v vs 7)) = some 261 := tv_rg t7
  obtain ⟨t8, hk⟩ := List.forall_mem_cons.mp hk
  have t8 : tv_ok ta (0, 0, 2009, []) (n_v vs 8) := t8
  have k8 : 0 ≤ v_iv (n_v vs 8) ∧ v_iv (n_v vs 8) ≤ 2009 := tv_rng t8
  obtain ⟨t9, hk⟩ := List.forall_mem_cons.mp hk
  have t9 : tv_ok ta (0, 0, 1999, []) (n_v vs 9) := t9
  have k9 : 0 ≤ v_iv (n_v vs 9) ∧ v_iv (n_v vs 9) ≤ 1999 := tv_rng t9
  obtain ⟨t10, hk⟩ := List.forall_mem_cons.mp hk
  have t10 : tv_ok ta (0, 0, 1999, []) (n_v vs 10) := t10
  have k10 : 0 ≤ v_iv (n_v vs 10) ∧ v_iv (n_v vs 10) ≤ 1999 := tv_rng t10
  obtain ⟨t11, hk⟩ := List.forall_mem_cons.mp hk
  have t11 : tv_ok ta (0, 0, 255, []) (n_v vs 11) := t11
  have k11 : 0 ≤ v_iv (n_v vs 11) ∧ v_iv (n_v vs 11) ≤ 255 := tv_rng t11
  obtain ⟨t12, hk⟩ := List.forall_mem_cons.mp hk
  have t12 : tv_ok ta (0, 0, 65535, []) (n_v vs 12) := t12
  have k12 : 0 ≤ v_iv (n_v vs 12) ∧ v_iv (n_v vs 12) ≤ 65535 := tv_rng t12
  obtain ⟨t13, hk⟩ := List.forall_mem_cons.mp hk
  have t13 : tv_ok ta (0, 0, 0, []) (n_v vs 13) := t13
  have k13 : 0 ≤ v_iv (n_v vs 13) ∧ v_iv (n_v vs 13) ≤ 0 := tv_rng t13
  obtain ⟨t14, hk⟩ := List.forall_mem_cons.mp hk
  have t14 : tv_ok ta (0, 1, 2, []) (n_v vs 14) := t14
  have k14 : 1 ≤ v_iv (n_v vs 14) ∧ v_iv (n_v vs 14) ≤ 2 := tv_rng t14
  have hds : ∀ q ∈ ([(14, 5, 1, 1), (14, 4, -4294967296, 3), (10, 5, 0, 2000), (10, 4, -4294967296, 2002), (10, 9, 0, 1), (4, 5, -4294967296, 1), (5, 4, -4294967296, 2)] : List of_T), n_iv vs q.2.1 + q.2.2.1 ≤ n_iv vs q.1 ∧ n_iv vs q.1 ≤ n_iv vs q.2.1 + q.2.2.2 := hds
  obtain ⟨d0, hds⟩ := List.forall_mem_cons.mp hds
  have d0 : v_iv (n_v vs 5) + 1 ≤ v_iv (n_v vs 14) ∧ v_iv (n_v vs 14) ≤ v_iv (n_v vs 5) + 1 := d0
  obtain ⟨d1, hds⟩ := List.forall_mem_cons.mp hds
  have d1 : v_iv (n_v vs 4) + (-4294967296) ≤ v_iv (n_v vs 14) ∧ v_iv (n_v vs 14) ≤ v_iv (n_v vs 4) + 3 := d1
  obtain ⟨d2, hds⟩ := List.forall_mem_cons.mp hds
  have d2 : v_iv (n_v vs 5) + 0 ≤ v_iv (n_v vs 10) ∧ v_iv (n_v vs 10) ≤ v_iv (n_v vs 5) + 2000 := d2
  obtain ⟨d3, hds⟩ := List.forall_mem_cons.mp hds
  have d3 : v_iv (n_v vs 4) + (-4294967296) ≤ v_iv (n_v vs 10) ∧ v_iv (n_v vs 10) ≤ v_iv (n_v vs 4) + 2002 := d3
  obtain ⟨d4, hds⟩ := List.forall_mem_cons.mp hds
  have d4 : v_iv (n_v vs 9) + 0 ≤ v_iv (n_v vs 10) ∧ v_iv (n_v vs 10) ≤ v_iv (n_v vs 9) + 1 := d4
  obtain ⟨d5, hds⟩ := List.forall_mem_cons.mp hds
  have d5 : v_iv (n_v vs 5) + (-4294967296) ≤ v_iv (n_v vs 4) ∧ v_iv (n_v vs 4) ≤ v_iv (n_v vs 5) + 1 := d5
  obtain ⟨d6, hds⟩ := List.forall_mem_cons.mp hds
  have d6 : v_iv (n_v vs 4) + (-4294967296) ≤ v_iv (n_v vs 5) ∧ v_iv (n_v vs 5) ≤ v_iv (n_v vs 4) + 2 := d6
  have hf : fc_ok [(6, [14, 5], [1]), (7, [11, 12], [1]), (20, [10, 2, 11], [50, 1, 1, 1010, 1001, 4, 11, 0, 6, 4, 2, 1, 0, 0, 1, 2, 1, 10, 1, 2, 1, 2, 9, 5, 3, 1, 1, 1, 0, 0, 256]), (20, [2, 10, 11], [50, 1, 0, 10, 4, 7, 0, 3, 2, 0, 10, 1, 1, 1, 2, 1, 2, 0, -1]), (1, [10, 9, 5], []), (10, [9, 7, 8], []), (9, [8, 2], [158]), (9, [7, 2], [162]), (8, [4], [1]), (7, [5, 6], [2]), (20, [4, 2], [50, 1, 1, 1158, 1160, 4, 6, 1, 2, 1, 0, 0, 1, 1, 6, 3, 1, 160, 2, 1, 158, 0, 1]), (24, [0, 2], [])] ta ws vs := hf
  obtain ⟨f0, hf⟩ := fc_un (show (6 : Nat) < 100 from by decide) hf
  have f0 : v_iv (n_v vs 14) = v_iv (n_v vs 5) + 1 := f0
  obtain ⟨f1, hf⟩ := fc_un (show (7 : Nat) < 100 from by decide) hf
  have f1 : v_iv (n_v vs 11) ≠ v_iv (n_v vs 12) := f1
  obtain ⟨f2, hf⟩ := fc_un (show (20 : Nat) < 100 from by decide) hf
  have f2 : ((v_iv (n_v vs 10) + 1) ≤ w_fi ws (n_v vs 2) 10) → (v_iv (n_v vs 11) = (w_ei ws (w_ar ws (n_v vs 2) 1) (v_iv (n_v vs 10)) % 256)) := f2
  obtain ⟨f3, hf⟩ := fc_un (show (20 : Nat) < 100 from by decide) hf
  have f3 : (w_fi ws (n_v vs 2) 10 ≤ v_iv (n_v vs 10)) → (v_iv (n_v vs 11) = (-1)) := f3
  obtain ⟨f4, hf⟩ := fc_un (show (1 : Nat) < 100 from by decide) hf
  have f4 : v_iv (n_v vs 10) = v_iv (n_v vs 9) + v_iv (n_v vs 5) := f4
  obtain ⟨f5, hf⟩ := fc_un (show (10 : Nat) < 100 from by decide) hf
  have f5 : v_iv (n_v vs 9) = w_el ws (v_ad (n_v vs 7)) (v_iv (n_v vs 8)).toNat := f5
  obtain ⟨f6, hf⟩ := fc_un (show (9 : Nat) < 100 from by decide) hf
  have f6 : n_v vs 8 = w_fd ws (v_ad (n_v vs 2)) 158 := f6
  obtain ⟨f7, hf⟩ := fc_un (show (9 : Nat) < 100 from by decide) hf
  have f7 : n_v vs 7 = w_fd ws (v_ad (n_v vs 2)) 162 := f7
  obtain ⟨f8, hf⟩ := fc_un (show (8 : Nat) < 100 from by decide) hf
  have f8 : v_iv (n_v vs 4) ≠ 0 := f8
  obtain ⟨f9, hf⟩ := fc_un (show (7 : Nat) < 100 from by decide) hf
  have f9 : v_iv (n_v vs 5) < v_iv (n_v vs 6) := f9
  obtain ⟨f10, hf⟩ := fc_un (show (20 : Nat) < 100 from by decide) hf
  have f10 : (v_iv (n_v vs 4) = 1) → (w_ei ws (w_ar ws (n_v vs 2) 160) (w_fi ws (n_v vs 2) 158) = 1) := f10
  obtain ⟨f11, hf⟩ := fc_un (show (24 : Nat) < 100 from by decide) hf
  have f11 : n_v vs 0 = n_v vs 2 := f11
  have q2 : n_v vs 2 = n_v vs 0 := f11.symm
  rw [q2] at f2
  rw [q2] at f3
  rw [q2] at f6
  rw [q2] at f7
  rw [q2] at f10
  have cr_0_1 : ta (w_ar ws (n_v vs 0) 1) = some 151 := tv_rg (th_fd hD hth r0 (g := GG_150) rfl (k := 1) (t := (2, 0, 0, [151])) rfl rfl)
  have cr_0_160 : ta (w_ar ws (n_v vs 0) 160) = some 259 := tv_rg (th_fd hD hth r0 (g := GG_150) rfl (k := 160) (t := (2, 0, 0, [259])) rfl rfl)
  have cr_0_162 : ta (w_ar ws (n_v vs 0) 162) = some 261 := tv_rg (th_fd hD hth r0 (g := GG_150) rfl (k := 162) (t := (2, 0, 0, [261])) rfl rfl)
  have ad_7 : v_ad (n_v vs 7) = w_ar ws (n_v vs 0) 162 := congrArg v_ad f7
  rw [ad_7] at f5
  have g6 : v_iv (n_v vs 8) = w_fi ws (n_v vs 0) 158 := congrArg v_iv f6
  have hK_0_1 : ∀ j : Int, 0 ≤ j → j < 2000 → (-128) ≤ w_ei ws (w_ar ws (n_v vs 0) 1) j ∧ w_ei ws (w_ar ws (n_v vs 0) 1) j ≤ 127 := fun j h0 h1 => th_el hD hth cr_0_1 (kd := 1) (n := 2000) (m := 2000) (lo := (-128)) (hi := 127) (rs := []) (L := []) rfl (by decide) (j := j.toNat) (by omega)
  have hK_0_160 : ∀ j : Int, 0 ≤ j → j < 2010 → 0 ≤ w_ei ws (w_ar ws (n_v vs 0) 160) j ∧ w_ei ws (w_ar ws (n_v vs 0) 160) j ≤ 4 := fun j h0 h1 => th_el hD hth cr_0_160 (kd := 0) (n := 2010) (m := 2010) (lo := 0) (hi := 4) (rs := []) (L := []) rfl (by decide) (j := j.toNat) (by omega)
  have kz_0_10 : 0 ≤ w_fi ws (n_v vs 0) 10 ∧ w_fi ws (n_v vs 0) 10 ≤ 2000 := tv_rng (th_fd hD hth r0 (g := GG_150) rfl (k := 10) (t := (0, 0, 2000, [])) rfl rfl)
  have kz_0_158 : 0 ≤ w_fi ws (n_v vs 0) 158 ∧ w_fi ws (n_v vs 0) 158 ≤ 2009 := tv_rng (th_fd hD hth r0 (g := GG_150) rfl (k := 158) (t := (0, 0, 2009, [])) rfl rfl)
  have nf0 : fc_1 (20, [13, 2], [50, 1, 1, 1158, 1160, 4, 6, 1, 2, 1, 0, 0, 1, 1, 6, 3, 1, 160, 2, 1, 158, 0, 1]) ws (vs) := by
    refine ⟨fun n hn => ?_, ?_⟩
    · have hn : n ∈ [13, 2] := hn
      rw [hl]
      simp only [List.mem_cons, List.not_mem_nil, or_false] at hn
      show n < 15; omega
    · show (v_iv (n_v vs 13) = 1) → (w_ei ws (w_ar ws (n_v vs 2) 160) (w_fi ws (n_v vs 2) 158) = 1)
      rw [q2]
      first | omega | grind
  refine ⟨(fun _ h => (by cases h)), [], trivial, ?_, (fun _ h => (by cases h))⟩
  rw [List.append_nil]
  exact List.forall_mem_cons.mpr ⟨⟨show (20 : Nat) < 100 from by decide, nf0⟩, (fun _ h => (by cases h))⟩
def o_Mo_word_at_s5041_8 : or_T := (54, 15, [(0, (2, 0, 0, [150])), (2, (2, 0, 0, [150])), (4, (0, 1, 1, [])), (5, (0, 0, 1, [])), (6, (0, 2, 2, [])), (7, (2, 0, 0, [261])), (8, (0, 0, 2009, [])), (9, (0, 0, 1999, [])), (10, (0, 0, 1999, [])), (11, (0, 0, 255, [])), (12, (0, 0, 255, [])), (13, (0, 1, 1, [])), (14, (0, 1, 2, []))], [(6, [14, 5], [1]), (7, [11, 12], [0]), (20, [10, 2, 11], [50, 1, 1, 1010, 1001, 4, 11, 0, 6, 4, 2, 1, 0, 0, 1, 2, 1, 10, 1, 2, 1, 2, 9, 5, 3, 1, 1, 1, 0, 0, 256]), (20, [2, 10, 11], [50, 1, 0, 10, 4, 7, 0, 3, 2, 0, 10, 1, 1, 1, 2, 1, 2, 0, -1]), (1, [10, 9, 5], []), (10, [9, 7, 8], []), (9, [8, 2], [158]), (9, [7, 2], [162]), (8, [4], [1]), (7, [5, 6], [2]), (20, [4, 2], [50, 1, 1, 1158, 1160, 4, 6, 1, 2, 1, 0, 0, 1, 1, 6, 3, 1, 160, 2, 1, 158, 0, 1]), (24, [0, 2], [])], [], [], [(20, [13, 2], [50, 1, 1, 1158, 1160, 4, 6, 1, 2, 1, 0, 0, 1, 1, 6, 3, 1, 160, 2, 1, 158, 0, 1])], [], [(14, 5, 1, 1), (14, 4, -4294967296, 3), (11, 12, 0, 0), (10, 5, 0, 2000), (10, 4, -4294967296, 2002), (10, 9, 0, 1), (4, 5, -4294967296, 1), (5, 4, -4294967296, 2)])
theorem oo_Mo_word_at_s5041_8 {kA : Nat → ClassId} : or_ok kA GG o_Mo_word_at_s5041_8 := by
  intro A ta ws vs hD hth hl hk hds hf
  have hl : vs.length = 15 := hl
  have hk : ∀ q ∈ ([(0, (2, 0, 0, [150])), (2, (2, 0, 0, [150])), (4, (0, 1, 1, [])), (5, (0, 0, 1, [])), (6, (0, 2, 2, [])), (7, (2, 0, 0, [261])), (8, (0, 0, 2009, [])), (9, (0, 0, 1999, [])), (10, (0, 0, 1999, [])), (11, (0, 0, 255, [])), (12, (0, 0, 255, [])), (13, (0, 1, 1, [])), (14, (0, 1, 2, []))] : List (Nat × tv_T)), tv_ok ta q.2 (n_v vs q.1) := hk
  obtain ⟨t0, hk⟩ := List.forall_mem_cons.mp hk
  have t0 : tv_ok ta (2, 0, 0, [150]) (n_v vs 0) := t0
  have r0 : ta (v_ad (n_v vs 0)) = some 150 := tv_rg t0
  obtain ⟨t2, hk⟩ := List.forall_mem_cons.mp hk
  have t2 : tv_ok ta (2, 0, 0, [150]) (n_v vs 2) := t2
  have r2 : ta (v_ad (n_v vs 2)) = some 150 := tv_rg t2
  obtain ⟨t4, hk⟩ := List.forall_mem_cons.mp hk
  have t4 : tv_ok ta (0, 1, 1, []) (n_v vs 4) := t4
  have k4 : 1 ≤ v_iv (n_v vs 4) ∧ v_iv (n_v vs 4) ≤ 1 := tv_rng t4
  obtain ⟨t5, hk⟩ := List.forall_mem_cons.mp hk
  have t5 : tv_ok ta (0, 0, 1, []) (n_v vs 5) := t5
  have k5 : 0 ≤ v_iv (n_v vs 5) ∧ v_iv (n_v vs 5) ≤ 1 := tv_rng t5
  obtain ⟨t6, hk⟩ := List.forall_mem_cons.mp hk
  have t6 : tv_ok ta (0, 2, 2, []) (n_v vs 6) := t6
  have k6 : 2 ≤ v_iv (n_v vs 6) ∧ v_iv (n_v vs 6) ≤ 2 := tv_rng t6
  obtain ⟨t7, hk⟩ := List.forall_mem_cons.mp hk
  have t7 : tv_ok ta (2, 0, 0, [261]) (n_v vs 7) := t7
  have r7 : ta (v_ad (n_v vs 7)) = some 261 := tv_rg t7
  obtain ⟨t8, hk⟩ := List.forall_mem_cons.mp hk
  have t8 : tv_ok ta (0, 0, 2009, []) (n_v vs 8) := t8
  have k8 : 0 ≤ v_iv (n_v vs 8) ∧ v_iv (n_v vs 8) ≤ 2009 := tv_rng t8
  obtain ⟨t9, hk⟩ := List.forall_mem_cons.mp hk
  have t9 : tv_ok ta (0, 0, 1999, []) (n_v vs 9) := t9
  have k9 : 0 ≤ v_iv (n_v vs 9) ∧ v_iv (n_v vs 9) ≤ 1999 := tv_rng t9
  obtain ⟨t10, hk⟩ := List.forall_mem_cons.mp hk
  have t10 : tv_ok ta (0, 0, 1999, []) (n_v vs 10) := t10
  have k10 : 0 ≤ v_iv (n_v vs 10) ∧ v_iv (n_v vs 10) ≤ 1999 := tv_rng t10
  obtain ⟨t11, hk⟩ := List.forall_mem_cons.mp hk
  have t11 : tv_ok ta (0, 0, 255, []) (n_v vs 11) := t11
  have k11 : 0 ≤ v_iv (n_v vs 11) ∧ v_iv (n_v vs 11) ≤ 255 := tv_rng t11
  obtain ⟨t12, hk⟩ := List.forall_mem_cons.mp hk
  have t12 : tv_ok ta (0, 0, 255, []) (n_v vs 12) := t12
  have k12 : 0 ≤ v_iv (n_v vs 12) ∧ v_iv (n_v vs 12) ≤ 255 := tv_rng t12
  obtain ⟨t13, hk⟩ := List.forall_mem_cons.mp hk
  have t13 : tv_ok ta (0, 1, 1, []) (n_v vs 13) := t13
  have k13 : 1 ≤ v_iv (n_v vs 13) ∧ v_iv (n_v vs 13) ≤ 1 := tv_rng t13
  obtain ⟨t14, hk⟩ := List.forall_mem_cons.mp hk
  have t14 : tv_ok ta (0, 1, 2, []) (n_v vs 14) := t14
  have k14 : 1 ≤ v_iv (n_v vs 14) ∧ v_iv (n_v vs 14) ≤ 2 := tv_rng t14
  have hds : ∀ q ∈ ([(14, 5, 1, 1), (14, 4, -4294967296, 3), (11, 12, 0, 0), (10, 5, 0, 2000), (10, 4, -4294967296, 2002), (10, 9, 0, 1), (4, 5, -4294967296, 1), (5, 4, -4294967296, 2)] : List of_T), n_iv vs q.2.1 + q.2.2.1 ≤ n_iv vs q.1 ∧ n_iv vs q.1 ≤ n_iv vs q.2.1 + q.2.2.2 := hds
  obtain ⟨d0, hds⟩ := List.forall_mem_cons.mp hds
  have d0 : v_iv (n_v vs 5) + 1 ≤ v_iv (n_v vs 14) ∧ v_iv (n_v vs 14) ≤ v_iv (n_v vs 5) + 1 := d0
  obtain ⟨d1, hds⟩ := List.forall_mem_cons.mp hds
  have d1 : v_iv (n_v vs 4) + (-4294967296) ≤ v_iv (n_v vs 14) ∧ v_iv (n_v vs 14) ≤ v_iv (n_v vs 4) + 3 := d1
  obtain ⟨d2, hds⟩ := List.forall_mem_cons.mp hds
  have d2 : v_iv (n_v vs 12) + 0 ≤ v_iv (n_v vs 11) ∧ v_iv (n_v vs 11) ≤ v_iv (n_v vs 12) + 0 := d2
  obtain ⟨d3, hds⟩ := List.forall_mem_cons.mp hds
  have d3 : v_iv (n_v vs 5) + 0 ≤ v_iv (n_v vs 10) ∧ v_iv (n_v vs 10) ≤ v_iv (n_v vs 5) + 2000 := d3
  obtain ⟨d4, hds⟩ := List.forall_mem_cons.mp hds
  have d4 : v_iv (n_v vs 4) + (-4294967296) ≤ v_iv (n_v vs 10) ∧ v_iv (n_v vs 10) ≤ v_iv (n_v vs 4) + 2002 := d4
  obtain ⟨d5, hds⟩ := List.forall_mem_cons.mp hds
  have d5 : v_iv (n_v vs 9) + 0 ≤ v_iv (n_v vs 10) ∧ v_iv (n_v vs 10) ≤ v_iv (n_v vs 9) + 1 := d5
  obtain ⟨d6, hds⟩ := List.forall_mem_cons.mp hds
  have d6 : v_iv (n_v vs 5) + (-4294967296) ≤ v_iv (n_v vs 4) ∧ v_iv (n_v vs 4) ≤ v_iv (n_v vs 5) + 1 := d6
  obtain ⟨d7, hds⟩ := List.forall_mem_cons.mp hds
  have d7 : v_iv (n_v vs 4) + (-4294967296) ≤ v_iv (n_v vs 5) ∧ v_iv (n_v vs 5) ≤ v_iv (n_v vs 4) + 2 := d7
  have hf : fc_ok [(6, [14, 5], [1]), (7, [11, 12], [0]), (20, [10, 2, 11], [50, 1, 1, 1010, 1001, 4, 11, 0, 6, 4, 2, 1, 0, 0, 1, 2, 1, 10, 1, 2, 1, 2, 9, 5, 3, 1, 1, 1, 0, 0, 256]), (20, [2, 10, 11], [50, 1, 0, 10, 4, 7, 0, 3, 2, 0, 10, 1, 1, 1, 2, 1, 2, 0, -1]), (1, [10, 9, 5], []), (10, [9, 7, 8], []), (9, [8, 2], [158]), (9, [7, 2], [162]), (8, [4], [1]), (7, [5, 6], [2]), (20, [4, 2], [50, 1, 1, 1158, 1160, 4, 6, 1, 2, 1, 0, 0, 1, 1, 6, 3, 1, 160, 2, 1, 158, 0, 1]), (24, [0, 2], [])] ta ws vs := hf
  obtain ⟨f0, hf⟩ := fc_un (show (6 : Nat) < 100 from by decide) hf
  have f0 : v_iv (n_v vs 14) = v_iv (n_v vs 5) + 1 := f0
  obtain ⟨f1, hf⟩ := fc_un (show (7 : Nat) < 100 from by decide) hf
  have f1 : v_iv (n_v vs 11) = v_iv (n_v vs 12) := f1
  obtain ⟨f2, hf⟩ := fc_un (show (20 : Nat) < 100 from by decide) hf
  have f2 : ((v_iv (n_v vs 10) + 1) ≤ w_fi ws (n_v vs 2) 10) → (v_iv (n_v vs 11) = (w_ei ws (w_ar ws (n_v vs 2) 1) (v_iv (n_v vs 10)) % 256)) := f2
  obtain ⟨f3, hf⟩ := fc_un (show (20 : Nat) < 100 from by decide) hf
  have f3 : (w_fi ws (n_v vs 2) 10 ≤ v_iv (n_v vs 10)) → (v_iv (n_v vs 11) = (-1)) := f3
  obtain ⟨f4, hf⟩ := fc_un (show (1 : Nat) < 100 from by decide) hf
  have f4 : v_iv (n_v vs 10) = v_iv (n_v vs 9) + v_iv (n_v vs 5) := f4
  obtain ⟨f5, hf⟩ := fc_un (show (10 : Nat) < 100 from by decide) hf
  have f5 : v_iv (n_v vs 9) = w_el ws (v_ad (n_v vs 7)) (v_iv (n_v vs 8)).toNat := f5
  obtain ⟨f6, hf⟩ := fc_un (show (9 : Nat) < 100 from by decide) hf
  have f6 : n_v vs 8 = w_fd ws (v_ad (n_v vs 2)) 158 := f6
  obtain ⟨f7, hf⟩ := fc_un (show (9 : Nat) < 100 from by decide) hf
  have f7 : n_v vs 7 = w_fd ws (v_ad (n_v vs 2)) 162 := f7
  obtain ⟨f8, hf⟩ := fc_un (show (8 : Nat) < 100 from by decide) hf
  have f8 : v_iv (n_v vs 4) ≠ 0 := f8
  obtain ⟨f9, hf⟩ := fc_un (show (7 : Nat) < 100 from by decide) hf
  have f9 : v_iv (n_v vs 5) < v_iv (n_v vs 6) := f9
  obtain ⟨f10, hf⟩ := fc_un (show (20 : Nat) < 100 from by decide) hf
  have f10 : (v_iv (n_v vs 4) = 1) → (w_ei ws (w_ar ws (n_v vs 2) 160) (w_fi ws (n_v vs 2) 158) = 1) := f10
  obtain ⟨f11, hf⟩ := fc_un (show (24 : Nat) < 100 from by decide) hf
  have f11 : n_v vs 0 = n_v vs 2 := f11
  have q2 : n_v vs 2 = n_v vs 0 := f11.symm
  rw [q2] at f2
  rw [q2] at f3
  rw [q2] at f6
  rw [q2] at f7
  rw [q2] at f10
  have cr_0_1 : ta (w_ar ws (n_v vs 0) 1) = some 151 := tv_rg (th_fd hD hth r0 (g := GG_150) rfl (k := 1) (t := (2, 0, 0, [151])) rfl rfl)
  have cr_0_160 : ta (w_ar ws (n_v vs 0) 160) = some 259 := tv_rg (th_fd hD hth r0 (g := GG_150) rfl (k := 160) (t := (2, 0, 0, [259])) rfl rfl)
  have cr_0_162 : ta (w_ar ws (n_v vs 0) 162) = some 261 := tv_rg (th_fd hD hth r0 (g := GG_150) rfl (k := 162) (t := (2, 0, 0, [261])) rfl rfl)
  have ad_7 : v_ad (n_v vs 7) = w_ar ws (n_v vs 0) 162 := congrArg v_ad f7
  rw [ad_7] at f5
  have g6 : v_iv (n_v vs 8) = w_fi ws (n_v vs 0) 158 := congrArg v_iv f6
  have hK_0_1 : ∀ j : Int, 0 ≤ j → j < 2000 → (-128) ≤ w_ei ws (w_ar ws (n_v vs 0) 1) j ∧ w_ei ws (w_ar ws (n_v vs 0) 1) j ≤ 127 := fun j h0 h1 => th_el hD hth cr_0_1 (kd := 1) (n := 2000) (m := 2000) (lo := (-128)) (hi := 127) (rs := []) (L := []) rfl (by decide) (j := j.toNat) (by omega)
  have hK_0_160 : ∀ j : Int, 0 ≤ j → j < 2010 → 0 ≤ w_ei ws (w_ar ws (n_v vs 0) 160) j ∧ w_ei ws (w_ar ws (n_v vs 0) 160) j ≤ 4 := fun j h0 h1 => th_el hD hth cr_0_160 (kd := 0) (n := 2010) (m := 2010) (lo := 0) (hi := 4) (rs := []) (L := []) rfl (by decide) (j := j.toNat) (by omega)
  have kz_0_10 : 0 ≤ w_fi ws (n_v vs 0) 10 ∧ w_fi ws (n_v vs 0) 10 ≤ 2000 := tv_rng (th_fd hD hth r0 (g := GG_150) rfl (k := 10) (t := (0, 0, 2000, [])) rfl rfl)
  have kz_0_158 : 0 ≤ w_fi ws (n_v vs 0) 158 ∧ w_fi ws (n_v vs 0) 158 ≤ 2009 := tv_rng (th_fd hD hth r0 (g := GG_150) rfl (k := 158) (t := (0, 0, 2009, [])) rfl rfl)
  have nf0 : fc_1 (20, [13, 2], [50, 1, 1, 1158, 1160, 4, 6, 1, 2, 1, 0, 0, 1, 1, 6, 3, 1, 160, 2, 1, 158, 0, 1]) ws (vs) := by
    refine ⟨fun n hn => ?_, ?_⟩
    · have hn : n ∈ [13, 2] := hn
      rw [hl]
      simp only [List.mem_cons, List.not_mem_nil, or_false] at hn
      show n < 15; omega
    · show (v_iv (n_v vs 13) = 1) → (w_ei ws (w_ar ws (n_v vs 2) 160) (w_fi ws (n_v vs 2) 158) = 1)
      rw [q2]
      first | omega | grind
  refine ⟨(fun _ h => (by cases h)), [], trivial, ?_, (fun _ h => (by cases h))⟩
  rw [List.append_nil]
  exact List.forall_mem_cons.mpr ⟨⟨show (20 : Nat) < 100 from by decide, nf0⟩, (fun _ h => (by cases h))⟩
def n_Mo_word_at_s5041_an : List an_T := [(54, [(0, (2, 0, 0, [150])), (1, (2, 0, 0, [5041])), (2, (0, 0, 1, [])), (3, (0, 0, 2, []))], [], (0, 0), [(0, 0, 99946), (1, 5, 2), (0, 0, 100000)], [(4, 5, -1000000000000, 1), (5, 4, -1000000000000, 2)], [], [(2, 0, 0, [150]), (2, 0, 0, [5041])], 0, [], [(20, [4, 2], [50, 1, 1, 1158, 1160, 4, 6, 1, 2, 1, 0, 0, 1, 1, 6, 3, 1, 160, 2, 1, 158, 0, 1]), (24, [0, 2], [])])]
def t_Mo_word_at_s5041_ct : ct_L := [(1, 425, e_Mo_byteAt), (124, 448, e_jStr_length_v314), (172, 448, e_jStr_length_v314), (253, 453, e_jStr_charAt_v315)]
set_option maxRecDepth 100000 in
theorem c_Mo_word_at_s5041 {l : Launch} {D : va_G} {kA : Nat → ClassId} (h_Mo_byteAt : ct_ok l D kA GG y_Mo_byteAt z_Mo_byteAt e_Mo_byteAt) : ct_ok l D kA GG y_Mo_word_at_s5041 z_Mo_word_at_s5041 e_Mo_word_at_s5041 := chk_all_ok (FT := [(342, 13, 160), (348, 13, 162), (351, 13, 163), (413, 13, 8), (1169, 13, 158)]) (PT := []) (CT := t_Mo_word_at_s5041_ct) (KT := []) (NT := []) (AN := n_Mo_word_at_s5041_an) (OT := [o_Mo_word_at_s5041_0, o_Mo_word_at_s5041_1, o_Mo_word_at_s5041_2, o_Mo_word_at_s5041_3, o_Mo_word_at_s5041_4, o_Mo_word_at_s5041_5, o_Mo_word_at_s5041_6, o_Mo_word_at_s5041_7, o_Mo_word_at_s5041_8]) 3 324 (List.forall_mem_cons.mpr ⟨oo_Mo_word_at_s5041_0, List.forall_mem_cons.mpr ⟨oo_Mo_word_at_s5041_1, List.forall_mem_cons.mpr ⟨oo_Mo_word_at_s5041_2, List.forall_mem_cons.mpr ⟨oo_Mo_word_at_s5041_3, List.forall_mem_cons.mpr ⟨oo_Mo_word_at_s5041_4, List.forall_mem_cons.mpr ⟨oo_Mo_word_at_s5041_5, List.forall_mem_cons.mpr ⟨oo_Mo_word_at_s5041_6, List.forall_mem_cons.mpr ⟨oo_Mo_word_at_s5041_7, List.forall_mem_cons.mpr ⟨oo_Mo_word_at_s5041_8, List.forall_mem_nil _⟩⟩⟩⟩⟩⟩⟩⟩⟩) (by decide +kernel) ⟨List.forall_mem_cons.mpr ⟨gf_Mo_342, List.forall_mem_cons.mpr ⟨gf_Mo_348, List.forall_mem_cons.mpr ⟨gf_Mo_351, List.forall_mem_cons.mpr ⟨gf_Mo_413, List.forall_mem_cons.mpr ⟨gf_Mo_1169, List.forall_mem_nil _⟩⟩⟩⟩⟩, List.forall_mem_nil _, List.forall_mem_cons.mpr ⟨cl_virtual (y := y_Mo_byteAt) (ci := 13) rfl rfl ⟨_, _, rfl⟩ (by decide +kernel) h_Mo_byteAt wm_2986 wm_9 wm_2983 wm_2985 wv_12_12 ⟨by decide, by decide, by decide +kernel⟩ (by decide), List.forall_mem_cons.mpr ⟨cl_string (y := y_jStr_length) (i := 41) rfl rfl (by decide +kernel) rfl c_jStr_length_v314 wm_674 wm_11 wm_3003 wm_672 wm_673 ⟨by decide, by decide, by decide +kernel⟩ (by decide), List.forall_mem_cons.mpr ⟨cl_string (y := y_jStr_length) (i := 41) rfl rfl (by decide +kernel) rfl c_jStr_length_v314 wm_674 wm_11 wm_3003 wm_672 wm_673 ⟨by decide, by decide, by decide +kernel⟩ (by decide), List.forall_mem_cons.mpr ⟨cl_string (y := y_jStr_charAt) (i := 41) rfl rfl (by decide +kernel) rfl c_jStr_charAt_v315 wm_684 wm_11 wm_3004 wm_682 wm_683 ⟨by decide, by decide, by decide +kernel⟩ (by decide), List.forall_mem_nil _⟩⟩⟩⟩, List.forall_mem_nil _, List.forall_mem_nil _, GG_pl⟩ (by decide +kernel)
def o_Mo_word_at_s5042_0 : or_T := (54, 5, [(0, (2, 0, 0, [150])), (3, (0, 0, 0, []))], [], [], [], [(20, [3, 0], [50, 1, 1, 1158, 1160, 4, 6, 1, 2, 1, 0, 0, 1, 1, 6, 3, 1, 160, 2, 1, 158, 0, 1]), (24, [0, 0], [])], [], [])
theorem oo_Mo_word_at_s5042_0 {kA : Nat → ClassId} : or_ok kA GG o_Mo_word_at_s5042_0 := by
  intro A ta ws vs hD hth hl hk hds hf
  have hl : vs.length = 5 := hl
  have hk : ∀ q ∈ ([(0, (2, 0, 0, [150])), (3, (0, 0, 0, []))] : List (Nat × tv_T)), tv_ok ta q.2 (n_v vs q.1) := hk
  obtain ⟨t0, hk⟩ := List.forall_mem_cons.mp hk
  have t0 : tv_ok ta (2, 0, 0, [150]) (n_v vs 0) := t0
  have r0 : ta (v_ad (n_v vs 0)) = some 150 := tv_rg t0
  obtain ⟨t3, hk⟩ := List.forall_mem_cons.mp hk
  have t3 : tv_ok ta (0, 0, 0, []) (n_v vs 3) := t3
  have k3 : 0 ≤ v_iv (n_v vs 3) ∧ v_iv (n_v vs 3) ≤ 0 := tv_rng t3
  have cr_0_160 : ta (w_ar ws (n_v vs 0) 160) = some 259 := tv_rg (th_fd hD hth r0 (g := GG_150) rfl (k := 160) (t := (2, 0, 0, [259])) rfl rfl)
  have hK_0_160 : ∀ j : Int, 0 ≤ j → j < 2010 → 0 ≤ w_ei ws (w_ar ws (n_v vs 0) 160) j ∧ w_ei ws (w_ar ws (n_v vs 0) 160) j ≤ 4 := fun j h0 h1 => th_el hD hth cr_0_160 (kd := 0) (n := 2010) (m := 2010) (lo := 0) (hi := 4) (rs := []) (L := []) rfl (by decide) (j := j.toNat) (by omega)
  have kz_0_158 : 0 ≤ w_fi ws (n_v vs 0) 158 ∧ w_fi ws (n_v vs 0) 158 ≤ 2009 := tv_rng (th_fd hD hth r0 (g := GG_150) rfl (k := 158) (t := (0, 0, 2009, [])) rfl rfl)
  have nf0 : fc_1 (20, [3, 0], [50, 1, 1, 1158, 1160, 4, 6, 1, 2, 1, 0, 0, 1, 1, 6, 3, 1, 160, 2, 1, 158, 0, 1]) ws (vs) := by
    refine ⟨fun n hn => ?_, ?_⟩
    · have hn : n ∈ [3, 0] := hn
      rw [hl]
      simp only [List.mem_cons, List.not_mem_nil, or_false] at hn
      show n < 5; omega
    · show (v_iv (n_v vs 3) = 1) → (w_ei ws (w_ar ws (n_v vs 0) 160) (w_fi ws (n_v vs 0) 158) = 1)
      first | omega | grind
  have nf1 : fc_1 (24, [0, 0], []) ws (vs) := by
    refine ⟨fun n hn => ?_, ?_⟩
    · have hn : n ∈ [0, 0] := hn
      rw [hl]
      simp only [List.mem_cons, List.not_mem_nil, or_false] at hn
      show n < 5; omega
    · show n_v vs 0 = n_v vs 0
      first | rfl | simp only [true_and]
  refine ⟨(fun _ h => (by cases h)), [], trivial, ?_, (fun _ h => (by cases h))⟩
  rw [List.append_nil]
  exact List.forall_mem_cons.mpr ⟨⟨show (20 : Nat) < 100 from by decide, nf0⟩, List.forall_mem_cons.mpr ⟨⟨show (24 : Nat) < 100 from by decide, nf1⟩, (fun _ h => (by cases h))⟩⟩
def o_Mo_word_at_s5042_1 : or_T := (54, 9, [(0, (2, 0, 0, [150])), (3, (2, 0, 0, [259])), (4, (0, 0, 2009, [])), (5, (0, 0, 4, [])), (6, (0, 1, 1, [])), (7, (0, 0, 0, []))], [(7, [5, 6], [1]), (10, [5, 3, 4], []), (9, [4, 0], [158]), (9, [3, 0], [160])], [], [], [(20, [7, 0], [50, 1, 1, 1158, 1160, 4, 6, 1, 2, 1, 0, 0, 1, 1, 6, 3, 1, 160, 2, 1, 158, 0, 1]), (24, [0, 0], [])], [], [])
theorem oo_Mo_word_at_s5042_1 {kA : Nat → ClassId} : or_ok kA GG o_Mo_word_at_s5042_1 := by
  intro A ta ws vs hD hth hl hk hds hf
  have hl : vs.length = 9 := hl
  have hk : ∀ q ∈ ([(0, (2, 0, 0, [150])), (3, (2, 0, 0, [259])), (4, (0, 0, 2009, [])), (5, (0, 0, 4, [])), (6, (0, 1, 1, [])), (7, (0, 0, 0, []))] : List (Nat × tv_T)), tv_ok ta q.2 (n_v vs q.1) := hk
  obtain ⟨t0, hk⟩ := List.forall_mem_cons.mp hk
  have t0 : tv_ok ta (2, 0, 0, [150]) (n_v vs 0) := t0
  have r0 : ta (v_ad (n_v vs 0)) = some 150 := tv_rg t0
  obtain ⟨t3, hk⟩ := List.forall_mem_cons.mp hk
  have t3 : tv_ok ta (2, 0, 0, [259]) (n_v vs 3) := t3
  have r3 : ta (v_ad (n_v vs 3)) = some 259 := tv_rg t3
  obtain ⟨t4, hk⟩ := List.forall_mem_cons.mp hk
  have t4 : tv_ok ta (0, 0, 2009, []) (n_v vs 4) := t4
  have k4 : 0 ≤ v_iv (n_v vs 4) ∧ v_iv (n_v vs 4) ≤ 2009 := tv_rng t4
  obtain ⟨t5, hk⟩ := List.forall_mem_cons.mp hk
  have t5 : tv_ok ta (0, 0, 4, []) (n_v vs 5) := t5
  have k5 : 0 ≤ v_iv (n_v vs 5) ∧ v_iv (n_v vs 5) ≤ 4 := tv_rng t5
  obtain ⟨t6, hk⟩ := List.forall_mem_cons.mp hk
  have t6 : tv_ok ta (0, 1, 1, []) (n_v vs 6) := t6
  have k6 : 1 ≤ v_iv (n_v vs 6) ∧ v_iv (n_v vs 6) ≤ 1 := tv_rng t6
  obtain ⟨t7, hk⟩ := List.forall_mem_cons.mp hk
  have t7 : tv_ok ta (0, 0, 0, []) (n_v vs 7) := t7
  have k7 : 0 ≤ v_iv (n_v vs 7) ∧ v_iv (n_v vs 7) ≤ 0 := tv_rng t7
  have hf : fc_ok [(7, [5, 6], [1]), (10, [5, 3, 4], []), (9, [4, 0], [158]), (9, [3, 0], [160])] ta ws vs := hf
  obtain ⟨f0, hf⟩ := fc_un (show (7 : Nat) < 100 from by decide) hf
  have f0 : v_iv (n_v vs 5) ≠ v_iv (n_v vs 6) := f0
  obtain ⟨f1, hf⟩ := fc_un (show (10 : Nat) < 100 from by decide) hf
  have f1 : v_iv (n_v vs 5) = w_el ws (v_ad (n_v vs 3)) (v_iv (n_v vs 4)).toNat := f1
  obtain ⟨f2, hf⟩ := fc_un (show (9 : Nat) < 100 from by decide) hf
  have f2 : n_v vs 4 = w_fd ws (v_ad (n_v vs 0)) 158 := f2
  obtain ⟨f3, hf⟩ := fc_un (show (9 : Nat) < 100 from by decide) hf
  have f3 : n_v vs 3 = w_fd ws (v_ad (n_v vs 0)) 160 := f3
  have cr_0_160 : ta (w_ar ws (n_v vs 0) 160) = some 259 := tv_rg (th_fd hD hth r0 (g := GG_150) rfl (k := 160) (t := (2, 0, 0, [259])) rfl rfl)
  have ad_3 : v_ad (n_v vs 3) = w_ar ws (n_v vs 0) 160 := congrArg v_ad f3
  rw [ad_3] at f1
  have h1 : v_iv (n_v vs 5) = w_ei ws (w_ar ws (n_v vs 0) 160) (v_iv (n_v vs 4)) := f1
  have g2 : v_iv (n_v vs 4) = w_fi ws (n_v vs 0) 158 := congrArg v_iv f2
  have br_0_160_4_0 : w_ei ws (w_ar ws (n_v vs 0) 160) (v_iv (n_v vs 4)) = w_el ws (w_ar ws (n_v vs 0) 160) (v_iv (n_v vs 4)).toNat := rfl
  have hK_0_160 : ∀ j : Int, 0 ≤ j → j < 2010 → 0 ≤ w_ei ws (w_ar ws (n_v vs 0) 160) j ∧ w_ei ws (w_ar ws (n_v vs 0) 160) j ≤ 4 := fun j h0 h1 => th_el hD hth cr_0_160 (kd := 0) (n := 2010) (m := 2010) (lo := 0) (hi := 4) (rs := []) (L := []) rfl (by decide) (j := j.toNat) (by omega)
  have kz_0_158 : 0 ≤ w_fi ws (n_v vs 0) 158 ∧ w_fi ws (n_v vs 0) 158 ≤ 2009 := tv_rng (th_fd hD hth r0 (g := GG_150) rfl (k := 158) (t := (0, 0, 2009, [])) rfl rfl)
  have nf0 : fc_1 (20, [7, 0], [50, 1, 1, 1158, 1160, 4, 6, 1, 2, 1, 0, 0, 1, 1, 6, 3, 1, 160, 2, 1, 158, 0, 1]) ws (vs) := by
    refine ⟨fun n hn => ?_, ?_⟩
    · have hn : n ∈ [7, 0] := hn
      rw [hl]
      simp only [List.mem_cons, List.not_mem_nil, or_false] at hn
      show n < 9; omega
    · show (v_iv (n_v vs 7) = 1) → (w_ei ws (w_ar ws (n_v vs 0) 160) (w_fi ws (n_v vs 0) 158) = 1)
      first | omega | grind
  have nf1 : fc_1 (24, [0, 0], []) ws (vs) := by
    refine ⟨fun n hn => ?_, ?_⟩
    · have hn : n ∈ [0, 0] := hn
      rw [hl]
      simp only [List.mem_cons, List.not_mem_nil, or_false] at hn
      show n < 9; omega
    · show n_v vs 0 = n_v vs 0
      first | rfl | simp only [true_and]
  refine ⟨(fun _ h => (by cases h)), [], trivial, ?_, (fun _ h => (by cases h))⟩
  rw [List.append_nil]
  exact List.forall_mem_cons.mpr ⟨⟨show (20 : Nat) < 100 from by decide, nf0⟩, List.forall_mem_cons.mpr ⟨⟨show (24 : Nat) < 100 from by decide, nf1⟩, (fun _ h => (by cases h))⟩⟩
def o_Mo_word_at_s5042_2 : or_T := (54, 15, [(0, (2, 0, 0, [150])), (3, (2, 0, 0, [259])), (4, (0, 0, 2009, [])), (5, (0, 1, 1, [])), (6, (0, 1, 1, [])), (13, (0, 0, 0, []))], [(9, [4, 0], [158]), (7, [5, 6], [0]), (10, [5, 3, 4], []), (9, [3, 0], [160])], [], [], [(20, [13, 0], [50, 1, 1, 1158, 1160, 4, 6, 1, 2, 1, 0, 0, 1, 1, 6, 3, 1, 160, 2, 1, 158, 0, 1]), (24, [0, 0], [])], [], [])
theorem oo_Mo_word_at_s5042_2 {kA : Nat → ClassId} : or_ok kA GG o_Mo_word_at_s5042_2 := by
  intro A ta ws vs hD hth hl hk hds hf
  have hl : vs.length = 15 := hl
  have hk : ∀ q ∈ ([(0, (2, 0, 0, [150])), (3, (2, 0, 0, [259])), (4, (0, 0, 2009, [])), (5, (0, 1, 1, [])), (6, (0, 1, 1, [])), (13, (0, 0, 0, []))] : List (Nat × tv_T)), tv_ok ta q.2 (n_v vs q.1) := hk
  obtain ⟨t0, hk⟩ := List.forall_mem_cons.mp hk
  have t0 : tv_ok ta (2, 0, 0, [150]) (n_v vs 0) := t0
  have r0 : ta (v_ad (n_v vs 0)) = some 150 := tv_rg t0
  obtain ⟨t3, hk⟩ := List.forall_mem_cons.mp hk
  have t3 : tv_ok ta (2, 0, 0, [259]) (n_v vs 3) := t3
  have r3 : ta (v_ad (n_v vs 3)) = some 259 := tv_rg t3
  obtain ⟨t4, hk⟩ := List.forall_mem_cons.mp hk
  have t4 : tv_ok ta (0, 0, 2009, []) (n_v vs 4) := t4
  have k4 : 0 ≤ v_iv (n_v vs 4) ∧ v_iv (n_v vs 4) ≤ 2009 := tv_rng t4
  obtain ⟨t5, hk⟩ := List.forall_mem_cons.mp hk
  have t5 : tv_ok ta (0, 1, 1, []) (n_v vs 5) := t5
  have k5 : 1 ≤ v_iv (n_v vs 5) ∧ v_iv (n_v vs 5) ≤ 1 := tv_rng t5
  obtain ⟨t6, hk⟩ := List.forall_mem_cons.mp hk
  have t6 : tv_ok ta (0, 1, 1, []) (n_v vs 6) := t6
  have k6 : 1 ≤ v_iv (n_v vs 6) ∧ v_iv (n_v vs 6) ≤ 1 := tv_rng t6
  obtain ⟨t13, hk⟩ := List.forall_mem_cons.mp hk
  have t13 : tv_ok ta (0, 0, 0, []) (n_v vs 13) := t13
  have k13 : 0 ≤ v_iv (n_v vs 13) ∧ v_iv (n_v vs 13) ≤ 0 := tv_rng t13
  have hf : fc_ok [(9, [4, 0], [158]), (7, [5, 6], [0]), (10, [5, 3, 4], []), (9, [3, 0], [160])] ta ws vs := hf
  obtain ⟨f0, hf⟩ := fc_un (show (9 : Nat) < 100 from by decide) hf
  have f0 : n_v vs 4 = w_fd ws (v_ad (n_v vs 0)) 158 := f0
  obtain ⟨f1, hf⟩ := fc_un (show (7 : Nat) < 100 from by decide) hf
  have f1 : v_iv (n_v vs 5) = v_iv (n_v vs 6) := f1
  obtain ⟨f2, hf⟩ := fc_un (show (10 : Nat) < 100 from by decide) hf
  have f2 : v_iv (n_v vs 5) = w_el ws (v_ad (n_v vs 3)) (v_iv (n_v vs 4)).toNat := f2
  obtain ⟨f3, hf⟩ := fc_un (show (9 : Nat) < 100 from by decide) hf
  have f3 : n_v vs 3 = w_fd ws (v_ad (n_v vs 0)) 160 := f3
  have cr_0_160 : ta (w_ar ws (n_v vs 0) 160) = some 259 := tv_rg (th_fd hD hth r0 (g := GG_150) rfl (k := 160) (t := (2, 0, 0, [259])) rfl rfl)
  have ad_3 : v_ad (n_v vs 3) = w_ar ws (n_v vs 0) 160 := congrArg v_ad f3
  have g0 : v_iv (n_v vs 4) = w_fi ws (n_v vs 0) 158 := congrArg v_iv f0
  rw [ad_3] at f2
  have h2 : v_iv (n_v vs 5) = w_ei ws (w_ar ws (n_v vs 0) 160) (v_iv (n_v vs 4)) := f2
  have br_0_160_4_0 : w_ei ws (w_ar ws (n_v vs 0) 160) (v_iv (n_v vs 4)) = w_el ws (w_ar ws (n_v vs 0) 160) (v_iv (n_v vs 4)).toNat := rfl
  have hK_0_160 : ∀ j : Int, 0 ≤ j → j < 2010 → 0 ≤ w_ei ws (w_ar ws (n_v vs 0) 160) j ∧ w_ei ws (w_ar ws (n_v vs 0) 160) j ≤ 4 := fun j h0 h1 => th_el hD hth cr_0_160 (kd := 0) (n := 2010) (m := 2010) (lo := 0) (hi := 4) (rs := []) (L := []) rfl (by decide) (j := j.toNat) (by omega)
  have kz_0_158 : 0 ≤ w_fi ws (n_v vs 0) 158 ∧ w_fi ws (n_v vs 0) 158 ≤ 2009 := tv_rng (th_fd hD hth r0 (g := GG_150) rfl (k := 158) (t := (0, 0, 2009, [])) rfl rfl)
  have nf0 : fc_1 (20, [13, 0], [50, 1, 1, 1158, 1160, 4, 6, 1, 2, 1, 0, 0, 1, 1, 6, 3, 1, 160, 2, 1, 158, 0, 1]) ws (vs) := by
    refine ⟨fun n hn => ?_, ?_⟩
    · have hn : n ∈ [13, 0] := hn
      rw [hl]
      simp only [List.mem_cons, List.not_mem_nil, or_false] at hn
      show n < 15; omega
    · show (v_iv (n_v vs 13) = 1) → (w_ei ws (w_ar ws (n_v vs 0) 160) (w_fi ws (n_v vs 0) 158) = 1)
      first | omega | grind
  have nf1 : fc_1 (24, [0, 0], []) ws (vs) := by
    refine ⟨fun n hn => ?_, ?_⟩
    · have hn : n ∈ [0, 0] := hn
      rw [hl]
      simp only [List.mem_cons, List.not_mem_nil, or_false] at hn
      show n < 15; omega
    · show n_v vs 0 = n_v vs 0
      first | rfl | simp only [true_and]
  refine ⟨(fun _ h => (by cases h)), [], trivial, ?_, (fun _ h => (by cases h))⟩
  rw [List.append_nil]
  exact List.forall_mem_cons.mpr ⟨⟨show (20 : Nat) < 100 from by decide, nf0⟩, List.forall_mem_cons.mpr ⟨⟨show (24 : Nat) < 100 from by decide, nf1⟩, (fun _ h => (by cases h))⟩⟩
def o_Mo_word_at_s5042_3 : or_T := (54, 15, [(0, (2, 0, 0, [150])), (3, (2, 0, 0, [259])), (4, (0, 0, 2009, [])), (5, (0, 1, 1, [])), (6, (0, 1, 1, [])), (13, (0, 1, 1, []))], [(9, [4, 0], [158]), (7, [5, 6], [0]), (10, [5, 3, 4], []), (9, [3, 0], [160])], [], [], [(20, [13, 0], [50, 1, 1, 1158, 1160, 4, 6, 1, 2, 1, 0, 0, 1, 1, 6, 3, 1, 160, 2, 1, 158, 0, 1]), (24, [0, 0], [])], [], [])
theorem oo_Mo_word_at_s5042_3 {kA : Nat → ClassId} : or_ok kA GG o_Mo_word_at_s5042_3 := by
  intro A ta ws vs hD hth hl hk hds hf
  have hl : vs.length = 15 := hl
  have hk : ∀ q ∈ ([(0, (2, 0, 0, [150])), (3, (2, 0, 0, [259])), (4, (0, 0, 2009, [])), (5, (0, 1, 1, [])), (6, (0, 1, 1, [])), (13, (0, 1, 1, []))] : List (Nat × tv_T)), tv_ok ta q.2 (n_v vs q.1) := hk
  obtain ⟨t0, hk⟩ := List.forall_mem_cons.mp hk
  have t0 : tv_ok ta (2, 0, 0, [150]) (n_v vs 0) := t0
  have r0 : ta (v_ad (n_v vs 0)) = some 150 := tv_rg t0
  obtain ⟨t3, hk⟩ := List.forall_mem_cons.mp hk
  have t3 : tv_ok ta (2, 0, 0, [259]) (n_v vs 3) := t3
  have r3 : ta (v_ad (n_v vs 3)) = some 259 := tv_rg t3
  obtain ⟨t4, hk⟩ := List.forall_mem_cons.mp hk
  have t4 : tv_ok ta (0, 0, 2009, []) (n_v vs 4) := t4
  have k4 : 0 ≤ v_iv (n_v vs 4) ∧ v_iv (n_v vs 4) ≤ 2009 := tv_rng t4
  obtain ⟨t5, hk⟩ := List.forall_mem_cons.mp hk
  have t5 : tv_ok ta (0, 1, 1, []) (n_v vs 5) := t5
  have k5 : 1 ≤ v_iv (n_v vs 5) ∧ v_iv (n_v vs 5) ≤ 1 := tv_rng t5
  obtain ⟨t6, hk⟩ := List.forall_mem_cons.mp hk
  have t6 : tv_ok ta (0, 1, 1, []) (n_v vs 6) := t6
  have k6 : 1 ≤ v_iv (n_v vs 6) ∧ v_iv (n_v vs 6) ≤ 1 := tv_rng t6
  obtain ⟨t13, hk⟩ := List.forall_mem_cons.mp hk
  have t13 : tv_ok ta (0, 1, 1, []) (n_v vs 13) := t13
  have k13 : 1 ≤ v_iv (n_v vs 13) ∧ v_iv (n_v vs 13) ≤ 1 := tv_rng t13
  have hf : fc_ok [(9, [4, 0], [158]), (7, [5, 6], [0]), (10, [5, 3, 4], []), (9, [3, 0], [160])] ta ws vs := hf
  obtain ⟨f0, hf⟩ := fc_un (show (9 : Nat) < 100 from by decide) hf
  have f0 : n_v vs 4 = w_fd ws (v_ad (n_v vs 0)) 158 := f0
  obtain ⟨f1, hf⟩ := fc_un (show (7 : Nat) < 100 from by decide) hf
  have f1 : v_iv (n_v vs 5) = v_iv (n_v vs 6) := f1
  obtain ⟨f2, hf⟩ := fc_un (show (10 : Nat) < 100 from by decide) hf
  have f2 : v_iv (n_v vs 5) = w_el ws (v_ad (n_v vs 3)) (v_iv (n_v vs 4)).toNat := f2
  obtain ⟨f3, hf⟩ := fc_un (show (9 : Nat) < 100 from by decide) hf
  have f3 : n_v vs 3 = w_fd ws (v_ad (n_v vs 0)) 160 := f3
  have cr_0_160 : ta (w_ar ws (n_v vs 0) 160) = some 259 := tv_rg (th_fd hD hth r0 (g := GG_150) rfl (k := 160) (t := (2, 0, 0, [259])) rfl rfl)
  have ad_3 : v_ad (n_v vs 3) = w_ar ws (n_v vs 0) 160 := congrArg v_ad f3
  have g0 : v_iv (n_v vs 4) = w_fi ws (n_v vs 0) 158 := congrArg v_iv f0
  rw [ad_3] at f2
  have h2 : v_iv (n_v vs 5) = w_ei ws (w_ar ws (n_v vs 0) 160) (v_iv (n_v vs 4)) := f2
  have br_0_160_4_0 : w_ei ws (w_ar ws (n_v vs 0) 160) (v_iv (n_v vs 4)) = w_el ws (w_ar ws (n_v vs 0) 160) (v_iv (n_v vs 4)).toNat := rfl
  have hK_0_160 : ∀ j : Int, 0 ≤ j → j < 2010 → 0 ≤ w_ei ws (w_ar ws (n_v vs 0) 160) j ∧ w_ei ws (w_ar ws (n_v vs 0) 160) j ≤ 4 := fun j h0 h1 => th_el hD hth cr_0_160 (kd := 0) (n := 2010) (m := 2010) (lo := 0) (hi := 4) (rs := []) (L := []) rfl (by decide) (j := j.toNat) (by omega)
  have kz_0_158 : 0 ≤ w_fi ws (n_v vs 0) 158 ∧ w_fi ws (n_v vs 0) 158 ≤ 2009 := tv_rng (th_fd hD hth r0 (g := GG_150) rfl (k := 158) (t := (0, 0, 2009, [])) rfl rfl)
  have nf0 : fc_1 (20, [13, 0], [50, 1, 1, 1158, 1160, 4, 6, 1, 2, 1, 0, 0, 1, 1, 6, 3, 1, 160, 2, 1, 158, 0, 1]) ws (vs) := by
    refine ⟨fun n hn => ?_, ?_⟩
    · have hn : n ∈ [13, 0] := hn
      rw [hl]
      simp only [List.mem_cons, List.not_mem_nil, or_false] at hn
      show n < 15; omega
    · show (v_iv (n_v vs 13) = 1) → (w_ei ws (w_ar ws (n_v vs 0) 160) (w_fi ws (n_v vs 0) 158) = 1)
      first | omega | grind
  have nf1 : fc_1 (24, [0, 0], []) ws (vs) := by
    refine ⟨fun n hn => ?_, ?_⟩
    · have hn : n ∈ [0, 0] := hn
      rw [hl]
      simp only [List.mem_cons, List.not_mem_nil, or_false] at hn
      show n < 15; omega
    · show n_v vs 0 = n_v vs 0
      first | rfl | simp only [true_and]
  refine ⟨(fun _ h => (by cases h)), [], trivial, ?_, (fun _ h => (by cases h))⟩
  rw [List.append_nil]
  exact List.forall_mem_cons.mpr ⟨⟨show (20 : Nat) < 100 from by decide, nf0⟩, List.forall_mem_cons.mpr ⟨⟨show (24 : Nat) < 100 from by decide, nf1⟩, (fun _ h => (by cases h))⟩⟩
def o_Mo_word_at_s5042_4 : or_T := (102, 7, [(0, (2, 0, 0, [150])), (2, (2, 0, 0, [150])), (4, (0, 0, 1, []))], [(20, [4, 2], [50, 1, 1, 1158, 1160, 4, 6, 1, 2, 1, 0, 0, 1, 1, 6, 3, 1, 160, 2, 1, 158, 0, 1]), (24, [0, 2], [])], [], [], [(20, [4, 0], [50, 1, 1, 1158, 1160, 4, 6, 1, 2, 1, 0, 0, 1, 1, 6, 3, 1, 160, 2, 1, 158, 0, 1])], [], [])
theorem oo_Mo_word_at_s5042_4 {kA : Nat → ClassId} : or_ok kA GG o_Mo_word_at_s5042_4 := by
  intro A ta ws vs hD hth hl hk hds hf
  have hl : vs.length = 7 := hl
  have hk : ∀ q ∈ ([(0, (2, 0, 0, [150])), (2, (2, 0, 0, [150])), (4, (0, 0, 1, []))] : List (Nat × tv_T)), tv_ok ta q.2 (n_v vs q.1) := hk
  obtain ⟨t0, hk⟩ := List.forall_mem_cons.mp hk
  have t0 : tv_ok ta (2, 0, 0, [150]) (n_v vs 0) := t0
  have r0 : ta (v_ad (n_v vs 0)) = some 150 := tv_rg t0
  obtain ⟨t2, hk⟩ := List.forall_mem_cons.mp hk
  have t2 : tv_ok ta (2, 0, 0, [150]) (n_v vs 2) := t2
  have r2 : ta (v_ad (n_v vs 2)) = some 150 := tv_rg t2
  obtain ⟨t4, hk⟩ := List.forall_mem_cons.mp hk
  have t4 : tv_ok ta (0, 0, 1, []) (n_v vs 4) := t4
  have k4 : 0 ≤ v_iv (n_v vs 4) ∧ v_iv (n_v vs 4) ≤ 1 := tv_rng t4
  have hf : fc_ok [(20, [4, 2], [50, 1, 1, 1158, 1160, 4, 6, 1, 2, 1, 0, 0, 1, 1, 6, 3, 1, 160, 2, 1, 158, 0, 1]), (24, [0, 2], [])] ta ws vs := hf
  obtain ⟨f0, hf⟩ := fc_un (show (20 : Nat) < 100 from by decide) hf
  have f0 : (v_iv (n_v vs 4) = 1) → (w_ei ws (w_ar ws (n_v vs 2) 160) (w_fi ws (n_v vs 2) 158) = 1) := f0
  obtain ⟨f1, hf⟩ := fc_un (show (24 : Nat) < 100 from by decide) hf
  have f1 : n_v vs 0 = n_v vs 2 := f1
  have q2 : n_v vs 2 = n_v vs 0 := f1.symm
  rw [q2] at f0
  have cr_0_160 : ta (w_ar ws (n_v vs 0) 160) = some 259 := tv_rg (th_fd hD hth r0 (g := GG_150) rfl (k := 160) (t := (2, 0, 0, [259])) rfl rfl)
  have hK_0_160 : ∀ j : Int, 0 ≤ j → j < 2010 → 0 ≤ w_ei ws (w_ar ws (n_v vs 0) 160) j ∧ w_ei ws (w_ar ws (n_v vs 0) 160) j ≤ 4 := fun j h0 h1 => th_el hD hth cr_0_160 (kd := 0) (n := 2010) (m := 2010) (lo := 0) (hi := 4) (rs := []) (L := []) rfl (by decide) (j := j.toNat) (by omega)
  have kz_0_158 : 0 ≤ w_fi ws (n_v vs 0) 158 ∧ w_fi ws (n_v vs 0) 158 ≤ 2009 := tv_rng (th_fd hD hth r0 (g := GG_150) rfl (k := 158) (t := (0, 0, 2009, [])) rfl rfl)
  have nf0 : fc_1 (20, [4, 0], [50, 1, 1, 1158, 1160, 4, 6, 1, 2, 1, 0, 0, 1, 1, 6, 3, 1, 160, 2, 1, 158, 0, 1]) ws (vs) := by
    refine ⟨fun n hn => ?_, ?_⟩
    · have hn : n ∈ [4, 0] := hn
      rw [hl]
      simp only [List.mem_cons, List.not_mem_nil, or_false] at hn
      show n < 7; omega
    · show (v_iv (n_v vs 4) = 1) → (w_ei ws (w_ar ws (n_v vs 0) 160) (w_fi ws (n_v vs 0) 158) = 1)
      first | omega | grind
  refine ⟨(fun _ h => (by cases h)), [], trivial, ?_, (fun _ h => (by cases h))⟩
  rw [List.append_nil]
  exact List.forall_mem_cons.mpr ⟨⟨show (20 : Nat) < 100 from by decide, nf0⟩, (fun _ h => (by cases h))⟩
def o_Mo_word_at_s5042_5 : or_T := (102, 7, [(0, (2, 0, 0, [150])), (2, (2, 0, 0, [150])), (4, (0, 0, 0, []))], [(8, [4], [0]), (20, [4, 2], [50, 1, 1, 1158, 1160, 4, 6, 1, 2, 1, 0, 0, 1, 1, 6, 3, 1, 160, 2, 1, 158, 0, 1]), (24, [0, 2], [])], [], [], [(20, [4, 0], [50, 1, 1, 1158, 1160, 4, 6, 1, 2, 1, 0, 0, 1, 1, 6, 3, 1, 160, 2, 1, 158, 0, 1])], [], [])
theorem oo_Mo_word_at_s5042_5 {kA : Nat → ClassId} : or_ok kA GG o_Mo_word_at_s5042_5 := by
  intro A ta ws vs hD hth hl hk hds hf
  have hl : vs.length = 7 := hl
  have hk : ∀ q ∈ ([(0, (2, 0, 0, [150])), (2, (2, 0, 0, [150])), (4, (0, 0, 0, []))] : List (Nat × tv_T)), tv_ok ta q.2 (n_v vs q.1) := hk
  obtain ⟨t0, hk⟩ := List.forall_mem_cons.mp hk
  have t0 : tv_ok ta (2, 0, 0, [150]) (n_v vs 0) := t0
  have r0 : ta (v_ad (n_v vs 0)) = some 150 := tv_rg t0
  obtain ⟨t2, hk⟩ := List.forall_mem_cons.mp hk
  have t2 : tv_ok ta (2, 0, 0, [150]) (n_v vs 2) := t2
  have r2 : ta (v_ad (n_v vs 2)) = some 150 := tv_rg t2
  obtain ⟨t4, hk⟩ := List.forall_mem_cons.mp hk
  have t4 : tv_ok ta (0, 0, 0, []) (n_v vs 4) := t4
  have k4 : 0 ≤ v_iv (n_v vs 4) ∧ v_iv (n_v vs 4) ≤ 0 := tv_rng t4
  have hf : fc_ok [(8, [4], [0]), (20, [4, 2], [50, 1, 1, 1158, 1160, 4, 6, 1, 2, 1, 0, 0, 1, 1, 6, 3, 1, 160, 2, 1, 158, 0, 1]), (24, [0, 2], [])] ta ws vs := hf
  obtain ⟨f0, hf⟩ := fc_un (show (8 : Nat) < 100 from by decide) hf
  have f0 : v_iv (n_v vs 4) = 0 := f0
  obtain ⟨f1, hf⟩ := fc_un (show (20 : Nat) < 100 from by decide) hf
  have f1 : (v_iv (n_v vs 4) = 1) → (w_ei ws (w_ar ws (n_v vs 2) 160) (w_fi ws (n_v vs 2) 158) = 1) := f1
  obtain ⟨f2, hf⟩ := fc_un (show (24 : Nat) < 100 from by decide) hf
  have f2 : n_v vs 0 = n_v vs 2 := f2
  have q2 : n_v vs 2 = n_v vs 0 := f2.symm
  rw [q2] at f1
  have cr_0_160 : ta (w_ar ws (n_v vs 0) 160) = some 259 := tv_rg (th_fd hD hth r0 (g := GG_150) rfl (k := 160) (t := (2, 0, 0, [259])) rfl rfl)
  have hK_0_160 : ∀ j : Int, 0 ≤ j → j < 2010 → 0 ≤ w_ei ws (w_ar ws (n_v vs 0) 160) j ∧ w_ei ws (w_ar ws (n_v vs 0) 160) j ≤ 4 := fun j h0 h1 => th_el hD hth cr_0_160 (kd := 0) (n := 2010) (m := 2010) (lo := 0) (hi := 4) (rs := []) (L := []) rfl (by decide) (j := j.toNat) (by omega)
  have kz_0_158 : 0 ≤ w_fi ws (n_v vs 0) 158 ∧ w_fi ws (n_v vs 0) 158 ≤ 2009 := tv_rng (th_fd hD hth r0 (g := GG_150) rfl (k := 158) (t := (0, 0, 2009, [])) rfl rfl)
  have nf0 : fc_1 (20, [4, 0], [50, 1, 1, 1158, 1160, 4, 6, 1, 2, 1, 0, 0, 1, 1, 6, 3, 1, 160, 2, 1, 158, 0, 1]) ws (vs) := by
    refine ⟨fun n hn => ?_, ?_⟩
    · have hn : n ∈ [4, 0] := hn
      rw [hl]
      simp only [List.mem_cons, List.not_mem_nil, or_false] at hn
      show n < 7; omega
    · show (v_iv (n_v vs 4) = 1) → (w_ei ws (w_ar ws (n_v vs 0) 160) (w_fi ws (n_v vs 0) 158) = 1)
      first | omega | grind
  refine ⟨(fun _ h => (by cases h)), [], trivial, ?_, (fun _ h => (by cases h))⟩
  rw [List.append_nil]
  exact List.forall_mem_cons.mpr ⟨⟨show (20 : Nat) < 100 from by decide, nf0⟩, (fun _ h => (by cases h))⟩
def o_Mo_word_at_s5042_6 : or_T := (54, 15, [(0, (2, 0, 0, [150])), (2, (2, 0, 0, [150])), (4, (0, 1, 1, [])), (5, (0, 0, 4, [])), (6, (0, 5, 5, [])), (7, (2, 0, 0, [261])), (8, (0, 0, 2009, [])), (9, (0, 0, 2000, [])), (10, (0, 0, 2004, [])), (11, (0, -1, -1, [])), (12, (0, 0, 65535, [])), (13, (0, 0, 0, [])), (14, (0, 1, 5, []))], [(6, [14, 5], [1]), (7, [11, 12], [1]), (20, [10, 2, 11], [50, 1, 1, 1010, 1001, 4, 11, 0, 6, 4, 2, 1, 0, 0, 1, 2, 1, 10, 1, 2, 1, 2, 9, 5, 3, 1, 1, 1, 0, 0, 256]), (20, [2, 10, 11], [50, 1, 0, 10, 4, 7, 0, 3, 2, 0, 10, 1, 1, 1, 2, 1, 2, 0, -1]), (1, [10, 9, 5], []), (10, [9, 7, 8], []), (9, [8, 2], [158]), (9, [7, 2], [162]), (8, [4], [1]), (7, [5, 6], [2]), (20, [4, 2], [50, 1, 1, 1158, 1160, 4, 6, 1, 2, 1, 0, 0, 1, 1, 6, 3, 1, 160, 2, 1, 158, 0, 1]), (24, [0, 2], [])], [], [], [(20, [13, 2], [50, 1, 1, 1158, 1160, 4, 6, 1, 2, 1, 0, 0, 1, 1, 6, 3, 1, 160, 2, 1, 158, 0, 1])], [], [(14, 5, 1, 1), (10, 5, 0, 2000), (10, 9, 0, 4), (4, 5, -4294967296, 1)])
theorem oo_Mo_word_at_s5042_6 {kA : Nat → ClassId} : or_ok kA GG o_Mo_word_at_s5042_6 := by
  intro A ta ws vs hD hth hl hk hds hf
  have hl : vs.length = 15 := hl
  have hk : ∀ q ∈ ([(0, (2, 0, 0, [150])), (2, (2, 0, 0, [150])), (4, (0, 1, 1, [])), (5, (0, 0, 4, [])), (6, (0, 5, 5, [])), (7, (2, 0, 0, [261])), (8, (0, 0, 2009, [])), (9, (0, 0, 2000, [])), (10, (0, 0, 2004, [])), (11, (0, -1, -1, [])), (12, (0, 0, 65535, [])), (13, (0, 0, 0, [])), (14, (0, 1, 5, []))] : List (Nat × tv_T)), tv_ok ta q.2 (n_v vs q.1) := hk
  obtain ⟨t0, hk⟩ := List.forall_mem_cons.mp hk
  have t0 : tv_ok ta (2, 0, 0, [150]) (n_v vs 0) := t0
  have r0 : ta (v_ad (n_v vs 0)) = some 150 := tv_rg t0
  obtain ⟨t2, hk⟩ := List.forall_mem_cons.mp hk
  have t2 : tv_ok ta (2, 0, 0, [150]) (n_v vs 2) := t2
  have r2 : ta (v_ad (n_v vs 2)) = some 150 := tv_rg t2
  obtain ⟨t4, hk⟩ := List.forall_mem_cons.mp hk
  have t4 : tv_ok ta (0, 1, 1, []) (n_v vs 4) := t4
  have k4 : 1 ≤ v_iv (n_v vs 4) ∧ v_iv (n_v vs 4) ≤ 1 := tv_rng t4
  obtain ⟨t5, hk⟩ := List.forall_mem_cons.mp hk
  have t5 : tv_ok ta (0, 0, 4, []) (n_v vs 5) := t5
  have k5 : 0 ≤ v_iv (n_v vs 5) ∧ v_iv (n_v vs 5) ≤ 4 := tv_rng t5
  obtain ⟨t6, hk⟩ := List.forall_mem_cons.mp hk
  have t6 : tv_ok ta (0, 5, 5, []) (n_v vs 6) := t6
  have k6 : 5 ≤ v_iv (n_v vs 6) ∧ v_iv (n_v vs 6) ≤ 5 := tv_rng t6
  obtain ⟨t7, hk⟩ := List.forall_mem_cons.mp hk
  have t7 : tv_ok ta (2, 0, 0, [261]) (n_v vs 7) := t7
  have r7 : ta (v_ad (n_v vs 7)) = some 261 := tv_rg t7
  obtain ⟨t8, hk⟩ := List.forall_mem_cons.mp hk
  have t8 : tv_ok ta (0, 0, 2009, []) (n_v vs 8) := t8
  have k8 : 0 ≤ v_iv (n_v vs 8) ∧ v_iv (n_v vs 8) ≤ 2009 := tv_rng t8
  obtain ⟨t9, hk⟩ := List.forall_mem_cons.mp hk
  have t9 : tv_ok ta (0, 0, 2000, []) (n_v vs 9) := t9
  have k9 : 0 ≤ v_iv (n_v vs 9) ∧ v_iv (n_v vs 9) ≤ 2000 := tv_rng t9
  obtain ⟨t10, hk⟩ := List.forall_mem_cons.mp hk
  have t10 : tv_ok ta (0, 0, 2004, []) (n_v vs 10) := t10
  have k10 : 0 ≤ v_iv (n_v vs 10) ∧ v_iv (n_v vs 10) ≤ 2004 := tv_rng t10
  obtain ⟨t11, hk⟩ := List.forall_mem_cons.mp hk
  have t11 : tv_ok ta (0, -1, -1, []) (n_v vs 11) := t11
  have k11 : (-1) ≤ v_iv (n_v vs 11) ∧ v_iv (n_v vs 11) ≤ (-1) := tv_rng t11
  obtain ⟨t12, hk⟩ := List.forall_mem_cons.mp hk
  have t12 : tv_ok ta (0, 0, 65535, []) (n_v vs 12) := t12
  have k12 : 0 ≤ v_iv (n_v vs 12) ∧ v_iv (n_v vs 12) ≤ 65535 := tv_rng t12
  obtain ⟨t13, hk⟩ := List.forall_mem_cons.mp hk
  have t13 : tv_ok ta (0, 0, 0, []) (n_v vs 13) := t13
  have k13 : 0 ≤ v_iv (n_v vs 13) ∧ v_iv (n_v vs 13) ≤ 0 := tv_rng t13
  obtain ⟨t14, hk⟩ := List.forall_mem_cons.mp hk
  have t14 : tv_ok ta (0, 1, 5, []) (n_v vs 14) := t14
  have k14 : 1 ≤ v_iv (n_v vs 14) ∧ v_iv (n_v vs 14) ≤ 5 := tv_rng t14
  have hds : ∀ q ∈ ([(14, 5, 1, 1), (10, 5, 0, 2000), (10, 9, 0, 4), (4, 5, -4294967296, 1)] : List of_T), n_iv vs q.2.1 + q.2.2.1 ≤ n_iv vs q.1 ∧ n_iv vs q.1 ≤ n_iv vs q.2.1 + q.2.2.2 := hds
  obtain ⟨d0, hds⟩ := List.forall_mem_cons.mp hds
  have d0 : v_iv (n_v vs 5) + 1 ≤ v_iv (n_v vs 14) ∧ v_iv (n_v vs 14) ≤ v_iv (n_v vs 5) + 1 := d0
  obtain ⟨d1, hds⟩ := List.forall_mem_cons.mp hds
  have d1 : v_iv (n_v vs 5) + 0 ≤ v_iv (n_v vs 10) ∧ v_iv (n_v vs 10) ≤ v_iv (n_v vs 5) + 2000 := d1
  obtain ⟨d2, hds⟩ := List.forall_mem_cons.mp hds
  have d2 : v_iv (n_v vs 9) + 0 ≤ v_iv (n_v vs 10) ∧ v_iv (n_v vs 10) ≤ v_iv (n_v vs 9) + 4 := d2
  obtain ⟨d3, hds⟩ := List.forall_mem_cons.mp hds
  have d3 : v_iv (n_v vs 5) + (-4294967296) ≤ v_iv (n_v vs 4) ∧ v_iv (n_v vs 4) ≤ v_iv (n_v vs 5) + 1 := d3
  have hf : fc_ok [(6, [14, 5], [1]), (7, [11, 12], [1]), (20, [10, 2, 11], [50, 1, 1, 1010, 1001, 4, 11, 0, 6, 4, 2, 1, 0, 0, 1, 2, 1, 10, 1, 2, 1, 2, 9, 5, 3, 1, 1, 1, 0, 0, 256]), (20, [2, 10, 11], [50, 1, 0, 10, 4, 7, 0, 3, 2, 0, 10, 1, 1, 1, 2, 1, 2, 0, -1]), (1, [10, 9, 5], []), (10, [9, 7, 8], []), (9, [8, 2], [158]), (9, [7, 2], [162]), (8, [4], [1]), (7, [5, 6], [2]), (20, [4, 2], [50, 1, 1, 1158, 1160, 4, 6, 1, 2, 1, 0, 0, 1, 1, 6, 3, 1, 160, 2, 1, 158, 0, 1]), (24, [0, 2], [])] ta ws vs := hf
  obtain ⟨f0, hf⟩ := fc_un (show (6 : Nat) < 100 from by decide) hf
  have f0 : v_iv (n_v vs 14) = v_iv (n_v vs 5) + 1 := f0
  obtain ⟨f1, hf⟩ := fc_un (show (7 : Nat) < 100 from by decide) hf
  have f1 : v_iv (n_v vs 11) ≠ v_iv (n_v vs 12) := f1
  obtain ⟨f2, hf⟩ := fc_un (show (20 : Nat) < 100 from by decide) hf
  have f2 : ((v_iv (n_v vs 10) + 1) ≤ w_fi ws (n_v vs 2) 10) → (v_iv (n_v vs 11) = (w_ei ws (w_ar ws (n_v vs 2) 1) (v_iv (n_v vs 10)) % 256)) := f2
  obtain ⟨f3, hf⟩ := fc_un (show (20 : Nat) < 100 from by decide) hf
  have f3 : (w_fi ws (n_v vs 2) 10 ≤ v_iv (n_v vs 10)) → (v_iv (n_v vs 11) = (-1)) := f3
  obtain ⟨f4, hf⟩ := fc_un (show (1 : Nat) < 100 from by decide) hf
  have f4 : v_iv (n_v vs 10) = v_iv (n_v vs 9) + v_iv (n_v vs 5) := f4
  obtain ⟨f5, hf⟩ := fc_un (show (10 : Nat) < 100 from by decide) hf
  have f5 : v_iv (n_v vs 9) = w_el ws (v_ad (n_v vs 7)) (v_iv (n_v vs 8)).toNat := f5
  obtain ⟨f6, hf⟩ := fc_un (show (9 : Nat) < 100 from by decide) hf
  have f6 : n_v vs 8 = w_fd ws (v_ad (n_v vs 2)) 158 := f6
  obtain ⟨f7, hf⟩ := fc_un (show (9 : Nat) < 100 from by decide) hf
  have f7 : n_v vs 7 = w_fd ws (v_ad (n_v vs 2)) 162 := f7
  obtain ⟨f8, hf⟩ := fc_un (show (8 : Nat) < 100 from by decide) hf
  have f8 : v_iv (n_v vs 4) ≠ 0 := f8
  obtain ⟨f9, hf⟩ := fc_un (show (7 : Nat) < 100 from by decide) hf
  have f9 : v_iv (n_v vs 5) < v_iv (n_v vs 6) := f9
  obtain ⟨f10, hf⟩ := fc_un (show (20 : Nat) < 100 from by decide) hf
  have f10 : (v_iv (n_v vs 4) = 1) → (w_ei ws (w_ar ws (n_v vs 2) 160) (w_fi ws (n_v vs 2) 158) = 1) := f10
  obtain ⟨f11, hf⟩ := fc_un (show (24 : Nat) < 100 from by decide) hf
  have f11 : n_v vs 0 = n_v vs 2 := f11
  have q2 : n_v vs 2 = n_v vs 0 := f11.symm
  rw [q2] at f2
  rw [q2] at f3
  rw [q2] at f6
  rw [q2] at f7
  rw [q2] at f10
  have cr_0_1 : ta (w_ar ws (n_v vs 0) 1) = some 151 := tv_rg (th_fd hD hth r0 (g := GG_150) rfl (k := 1) (t := (2, 0, 0, [151])) rfl rfl)
  have cr_0_160 : ta (w_ar ws (n_v vs 0) 160) = some 259 := tv_rg (th_fd hD hth r0 (g := GG_150) rfl (k := 160) (t := (2, 0, 0, [259])) rfl rfl)
  have cr_0_162 : ta (w_ar ws (n_v vs 0) 162) = some 261 := tv_rg (th_fd hD hth r0 (g := GG_150) rfl (k := 162) (t := (2, 0, 0, [261])) rfl rfl)
  have ad_7 : v_ad (n_v vs 7) = w_ar ws (n_v vs 0) 162 := congrArg v_ad f7
  rw [ad_7] at f5
  have g6 : v_iv (n_v vs 8) = w_fi ws (n_v vs 0) 158 := congrArg v_iv f6
  have hK_0_1 : ∀ j : Int, 0 ≤ j → j < 2000 → (-128) ≤ w_ei ws (w_ar ws (n_v vs 0) 1) j ∧ w_ei ws (w_ar ws (n_v vs 0) 1) j ≤ 127 := fun j h0 h1 => th_el hD hth cr_0_1 (kd := 1) (n := 2000) (m := 2000) (lo := (-128)) (hi := 127) (rs := []) (L := []) rfl (by decide) (j := j.toNat) (by omega)
  have hK_0_160 : ∀ j : Int, 0 ≤ j → j < 2010 → 0 ≤ w_ei ws (w_ar ws (n_v vs 0) 160) j ∧ w_ei ws (w_ar ws (n_v vs 0) 160) j ≤ 4 := fun j h0 h1 => th_el hD hth cr_0_160 (kd := 0) (n := 2010) (m := 2010) (lo := 0) (hi := 4) (rs := []) (L := []) rfl (by decide) (j := j.toNat) (by omega)
  have kz_0_10 : 0 ≤ w_fi ws (n_v vs 0) 10 ∧ w_fi ws (n_v vs 0) 10 ≤ 2000 := tv_rng (th_fd hD hth r0 (g := GG_150) rfl (k := 10) (t := (0, 0, 2000, [])) rfl rfl)
  have kz_0_158 : 0 ≤ w_fi ws (n_v vs 0) 158 ∧ w_fi ws (n_v vs 0) 158 ≤ 2009 := tv_rng (th_fd hD hth r0 (g := GG_150) rfl (k := 158) (t := (0, 0, 2009, [])) rfl rfl)
  have nf0 : fc_1 (20, [13, 2], [50, 1, 1, 1158, 1160, 4, 6, 1, 2, 1, 0, 0, 1, 1, 6, 3, 1, 160, 2, 1, 158, 0, 1]) ws (vs) := by
    refine ⟨fun n hn => ?_, ?_⟩
    · have hn : n ∈ [13, 2] := hn
      rw [hl]
      simp only [List.mem_cons, List.not_mem_nil, or_false] at hn
      show n < 15; omega
    · show (v_iv (n_v vs 13) = 1) → (w_ei ws (w_ar ws (n_v vs 2) 160) (w_fi ws (n_v vs 2) 158) = 1)
      rw [q2]
      first | omega | grind
  refine ⟨(fun _ h => (by cases h)), [], trivial, ?_, (fun _ h => (by cases h))⟩
  rw [List.append_nil]
  exact List.forall_mem_cons.mpr ⟨⟨show (20 : Nat) < 100 from by decide, nf0⟩, (fun _ h => (by cases h))⟩
def o_Mo_word_at_s5042_7 : or_T := (54, 15, [(0, (2, 0, 0, [150])), (2, (2, 0, 0, [150])), (4, (0, 1, 1, [])), (5, (0, 0, 4, [])), (6, (0, 5, 5, [])), (7, (2, 0, 0, [261])), (8, (0, 0, 2009, [])), (9, (0, 0, 1999, [])), (10, (0, 0, 1999, [])), (11, (0, 0, 255, [])), (12, (0, 0, 65535, [])), (13, (0, 0, 0, [])), (14, (0, 1, 5, []))], [(6, [14, 5], [1]), (7, [11, 12], [1]), (20, [10, 2, 11], [50, 1, 1, 1010, 1001, 4, 11, 0, 6, 4, 2, 1, 0, 0, 1, 2, 1, 10, 1, 2, 1, 2, 9, 5, 3, 1, 1, 1, 0, 0, 256]), (20, [2, 10, 11], [50, 1, 0, 10, 4, 7, 0, 3, 2, 0, 10, 1, 1, 1, 2, 1, 2, 0, -1]), (1, [10, 9, 5], []), (10, [9, 7, 8], []), (9, [8, 2], [158]), (9, [7, 2], [162]), (8, [4], [1]), (7, [5, 6], [2]), (20, [4, 2], [50, 1, 1, 1158, 1160, 4, 6, 1, 2, 1, 0, 0, 1, 1, 6, 3, 1, 160, 2, 1, 158, 0, 1]), (24, [0, 2], [])], [], [], [(20, [13, 2], [50, 1, 1, 1158, 1160, 4, 6, 1, 2, 1, 0, 0, 1, 1, 6, 3, 1, 160, 2, 1, 158, 0, 1])], [], [(14, 5, 1, 1), (10, 5, 0, 2000), (10, 9, 0, 4), (4, 5, -4294967296, 1)])
theorem oo_Mo_word_at_s5042_7 {kA : Nat → ClassId} : or_ok kA GG o_Mo_word_at_s5042_7 := by
  intro A ta ws vs hD hth hl hk hds hf
  have hl : vs.length = 15 := hl
  have hk : ∀ q ∈ ([(0, (2, 0, 0, [150])), (2, (2, 0, 0, [150])), (4, (0, 1, 1, [])), (5, (0, 0, 4, [])), (6, (0, 5, 5, [])), (7, (2, 0, 0, [261])), (8, (0, 0, 2009, [])), (9, (0, 0, 1999, [])), (10, (0, 0, 1999, [])), (11, (0, 0, 255, [])), (12, (0, 0, 65535, [])), (13, (0, 0, 0, [])), (14, (0, 1, 5, []))] : List (Nat × tv_T)), tv_ok ta q.2 (n_v vs q.1) := hk
  obtain ⟨t0, hk⟩ := List.forall_mem_cons.mp hk
  have t0 : tv_ok ta (2, 0, 0, [150]) (n_v vs 0) := t0
  have r0 : ta (v_ad (n_v vs 0)) = some 150 := tv_rg t0
  obtain ⟨t2, hk⟩ := List.forall_mem_cons.mp hk
  have t2 : tv_ok ta (2, 0, 0, [150]) (n_v vs 2) := t2
  have r2 : ta (v_ad (n_v vs 2)) = some 150 := tv_rg t2
  obtain ⟨t4, hk⟩ := List.forall_mem_cons.mp hk
  have t4 : tv_ok ta (0, 1, 1, []) (n_v vs 4) := t4
  have k4 : 1 ≤ v_iv (n_v vs 4) ∧ v_iv (n_v vs 4) ≤ 1 := tv_rng t4
  obtain ⟨t5, hk⟩ := List.forall_mem_cons.mp hk
  have t5 : tv_ok ta (0, 0, 4, []) (n_v vs 5) := t5
  have k5 : 0 ≤ v_iv (n_v vs 5) ∧ v_iv (n_v vs 5) ≤ 4 := tv_rng t5
  obtain ⟨t6, hk⟩ := List.forall_mem_cons.mp hk
  have t6 : tv_ok ta (0, 5, 5, []) (n_v vs 6) := t6
  have k6 : 5 ≤ v_iv (n_v vs 6) ∧ v_iv (n_v vs 6) ≤ 5 := tv_rng t6
  obtain ⟨t7, hk⟩ := List.forall_mem_cons.mp hk
  have t7 : tv_ok ta (2, 0, 0, [261]) (n_v vs 7) := t7
  have r7 : ta (v_ad (n_v vs 7)) = some 261 := tv_rg t7
  obtain ⟨t8, hk⟩ := List.forall_mem_cons.mp hk
  have t8 : tv_ok ta (0, 0, 2009, []) (n_v vs 8) := t8
  have k8 : 0 ≤ v_iv (n_v vs 8) ∧ v_iv (n_v vs 8) ≤ 2009 := tv_rng t8
  obtain ⟨t9, hk⟩ := List.forall_mem_cons.mp hk
  have t9 : tv_ok ta (0, 0, 1999, []) (n_v vs 9) := t9
  have k9 : 0 ≤ v_iv (n_v vs 9) ∧ v_iv (n_v vs 9) ≤ 1999 := tv_rng t9
  obtain ⟨t10, hk⟩ := List.forall_mem_cons.mp hk
  have t10 : tv_ok ta (0, 0, 1999, []) (n_v vs 10) := t10
  have k10 : 0 ≤ v_iv (n_v vs 10) ∧ v_iv (n_v vs 10) ≤ 1999 := tv_rng t10
  obtain ⟨t11, hk⟩ := List.forall_mem_cons.mp hk
  have t11 : tv_ok ta (0, 0, 255, []) (n_v vs 11) := t11
  have k11 : 0 ≤ v_iv (n_v vs 11) ∧ v_iv (n_v vs 11) ≤ 255 := tv_rng t11
  obtain ⟨t12, hk⟩ := List.forall_mem_cons.mp hk
  have t12 : tv_ok ta (0, 0, 65535, []) (n_v vs 12) := t12
  have k12 : 0 ≤ v_iv (n_v vs 12) ∧ v_iv (n_v vs 12) ≤ 65535 := tv_rng t12
  obtain ⟨t13, hk⟩ := List.forall_mem_cons.mp hk
  have t13 : tv_ok ta (0, 0, 0, []) (n_v vs 13) := t13
  have k13 : 0 ≤ v_iv (n_v vs 13) ∧ v_iv (n_v vs 13) ≤ 0 := tv_rng t13
  obtain ⟨t14, hk⟩ := List.forall_mem_cons.mp hk
  have t14 : tv_ok ta (0, 1, 5, []) (n_v vs 14) := t14
  have k14 : 1 ≤ v_iv (n_v vs 14) ∧ v_iv (n_v vs 14) ≤ 5 := tv_rng t14
  have hds : ∀ q ∈ ([(14, 5, 1, 1), (10, 5, 0, 2000), (10, 9, 0, 4), (4, 5, -4294967296, 1)] : List of_T), n_iv vs q.2.1 + q.2.2.1 ≤ n_iv vs q.1 ∧ n_iv vs q.1 ≤ n_iv vs q.2.1 + q.2.2.2 := hds
  obtain ⟨d0, hds⟩ := List.forall_mem_cons.mp hds
  have d0 : v_iv (n_v vs 5) + 1 ≤ v_iv (n_v vs 14) ∧ v_iv (n_v vs 14) ≤ v_iv (n_v vs 5) + 1 := d0
  obtain ⟨d1, hds⟩ := List.forall_mem_cons.mp hds
  have d1 : v_iv (n_v vs 5) + 0 ≤ v_iv (n_v vs 10) ∧ v_iv (n_v vs 10) ≤ v_iv (n_v vs 5) + 2000 := d1
  obtain ⟨d2, hds⟩ := List.forall_mem_cons.mp hds
  have d2 : v_iv (n_v vs 9) + 0 ≤ v_iv (n_v vs 10) ∧ v_iv (n_v vs 10) ≤ v_iv (n_v vs 9) + 4 := d2
  obtain ⟨d3, hds⟩ := List.forall_mem_cons.mp hds
  have d3 : v_iv (n_v vs 5) + (-4294967296) ≤ v_iv (n_v vs 4) ∧ v_iv (n_v vs 4) ≤ v_iv (n_v vs 5) + 1 := d3
  have hf : fc_ok [(6, [14, 5], [1]), (7, [11, 12], [1]), (20, [10, 2, 11], [50, 1, 1, 1010, 1001, 4, 11, 0, 6, 4, 2, 1, 0, 0, 1, 2, 1, 10, 1, 2, 1, 2, 9, 5, 3, 1, 1, 1, 0, 0, 256]), (20, [2, 10, 11], [50, 1, 0, 10, 4, 7, 0, 3, 2, 0, 10, 1, 1, 1, 2, 1, 2, 0, -1]), (1, [10, 9, 5], []), (10, [9, 7, 8], []), (9, [8, 2], [158]), (9, [7, 2], [162]), (8, [4], [1]), (7, [5, 6], [2]), (20, [4, 2], [50, 1, 1, 1158, 1160, 4, 6, 1, 2, 1, 0, 0, 1, 1, 6, 3, 1, 160, 2, 1, 158, 0, 1]), (24, [0, 2], [])] ta ws vs := hf
  obtain ⟨f0, hf⟩ := fc_un (show (6 : Nat) < 100 from by decide) hf
  have f0 : v_iv (n_v vs 14) = v_iv (n_v vs 5) + 1 := f0
  obtain ⟨f1, hf⟩ := fc_un (show (7 : Nat) < 100 from by decide) hf
  have f1 : v_iv (n_v vs 11) ≠ v_iv (n_v vs 12) := f1
  obtain ⟨f2, hf⟩ := fc_un (show (20 : Nat) < 100 from by decide) hf
  have f2 : ((v_iv (n_v vs 10) + 1) ≤ w_fi ws (n_v vs 2) 10) → (v_iv (n_v vs 11) = (w_ei ws (w_ar ws (n_v vs 2) 1) (v_iv (n_v vs 10)) % 256)) := f2
  obtain ⟨f3, hf⟩ := fc_un (show (20 : Nat) < 100 from by decide) hf
  have f3 : (w_fi ws (n_v vs 2) 10 ≤ v_iv (n_v vs 10)) → (v_iv (n_v vs 11) = (-1)) := f3
  obtain ⟨f4, hf⟩ := fc_un (show (1 : Nat) < 100 from by decide) hf
  have f4 : v_iv (n_v vs 10) = v_iv (n_v vs 9) + v_iv (n_v vs 5) := f4
  obtain ⟨f5, hf⟩ := fc_un (show (10 : Nat) < 100 from by decide) hf
  have f5 : v_iv (n_v vs 9) = w_el ws (v_ad (n_v vs 7)) (v_iv (n_v vs 8)).toNat := f5
  obtain ⟨f6, hf⟩ := fc_un (show (9 : Nat) < 100 from by decide) hf
  have f6 : n_v vs 8 = w_fd ws (v_ad (n_v vs 2)) 158 := f6
  obtain ⟨f7, hf⟩ := fc_un (show (9 : Nat) < 100 from by decide) hf
  have f7 : n_v vs 7 = w_fd ws (v_ad (n_v vs 2)) 162 := f7
  obtain ⟨f8, hf⟩ := fc_un (show (8 : Nat) < 100 from by decide) hf
  have f8 : v_iv (n_v vs 4) ≠ 0 := f8
  obtain ⟨f9, hf⟩ := fc_un (show (7 : Nat) < 100 from by decide) hf
  have f9 : v_iv (n_v vs 5) < v_iv (n_v vs 6) := f9
  obtain ⟨f10, hf⟩ := fc_un (show (20 : Nat) < 100 from by decide) hf
  have f10 : (v_iv (n_v vs 4) = 1) → (w_ei ws (w_ar ws (n_v vs 2) 160) (w_fi ws (n_v vs 2) 158) = 1) := f10
  obtain ⟨f11, hf⟩ := fc_un (show (24 : Nat) < 100 from by decide) hf
  have f11 : n_v vs 0 = n_v vs 2 := f11
  have q2 : n_v vs 2 = n_v vs 0 := f11.symm
  rw [q2] at f2
  rw [q2] at f3
  rw [q2] at f6
  rw [q2] at f7
  rw [q2] at f10
  have cr_0_1 : ta (w_ar ws (n_v vs 0) 1) = some 151 := tv_rg (th_fd hD hth r0 (g := GG_150) rfl (k := 1) (t := (2, 0, 0, [151])) rfl rfl)
  have cr_0_160 : ta (w_ar ws (n_v vs 0) 160) = some 259 := tv_rg (th_fd hD hth r0 (g := GG_150) rfl (k := 160) (t := (2, 0, 0, [259])) rfl rfl)
  have cr_0_162 : ta (w_ar ws (n_v vs 0) 162) = some 261 := tv_rg (th_fd hD hth r0 (g := GG_150) rfl (k := 162) (t := (2, 0, 0, [261])) rfl rfl)
  have ad_7 : v_ad (n_v vs 7) = w_ar ws (n_v vs 0) 162 := congrArg v_ad f7
  rw [ad_7] at f5
  have g6 : v_iv (n_v vs 8) = w_fi ws (n_v vs 0) 158 := congrArg v_iv f6
  have hK_0_1 : ∀ j : Int, 0 ≤ j → j < 2000 → (-128) ≤ w_ei ws (w_ar ws (n_v vs 0) 1) j ∧ w_ei ws (w_ar ws (n_v vs 0) 1) j ≤ 127 := fun j h0 h1 => th_el hD hth cr_0_1 (kd := 1) (n := 2000) (m := 2000) (lo := (-128)) (hi := 127) (rs := []) (L := []) rfl (by decide) (j := j.toNat) (by omega)
  have hK_0_160 : ∀ j : Int, 0 ≤ j → j < 2010 → 0 ≤ w_ei ws (w_ar ws (n_v vs 0) 160) j ∧ w_ei ws (w_ar ws (n_v vs 0) 160) j ≤ 4 := fun j h0 h1 => th_el hD hth cr_0_160 (kd := 0) (n := 2010) (m := 2010) (lo := 0) (hi := 4) (rs := []) (L := []) rfl (by decide) (j := j.toNat) (by omega)
  have kz_0_10 : 0 ≤ w_fi ws (n_v vs 0) 10 ∧ w_fi ws (n_v vs 0) 10 ≤ 2000 := tv_rng (th_fd hD hth r0 (g := GG_150) rfl (k := 10) (t := (0, 0, 2000, [])) rfl rfl)
  have kz_0_158 : 0 ≤ w_fi ws (n_v vs 0) 158 ∧ w_fi ws (n_v vs 0) 158 ≤ 2009 := tv_rng (th_fd hD hth r0 (g := GG_150) rfl (k := 158) (t := (0, 0, 2009, [])) rfl rfl)
  have nf0 : fc_1 (20, [13, 2], [50, 1, 1, 1158, 1160, 4, 6, 1, 2, 1, 0, 0, 1, 1, 6, 3, 1, 160, 2, 1, 158, 0, 1]) ws (vs) := by
    refine ⟨fun n hn => ?_, ?_⟩
    · have hn : n ∈ [13, 2] := hn
      rw [hl]
      simp only [List.mem_cons, List.not_mem_nil, or_false] at hn
      show n < 15; omega
    · show (v_iv (n_v vs 13) = 1) → (w_ei ws (w_ar ws (n_v vs 2) 160) (w_fi ws (n_v vs 2) 158) = 1)
      rw [q2]
      first | omega | grind
  refine ⟨(fun _ h => (by cases h)), [], trivial, ?_, (fun _ h => (by cases h))⟩
  rw [List.append_nil]
  exact List.forall_mem_cons.mpr ⟨⟨show (20 : Nat) < 100 from by decide, nf0⟩, (fun _ h => (by cases h))⟩
def o_Mo_word_at_s5042_8 : or_T := (54, 15, [(0, (2, 0, 0, [150])), (2, (2, 0, 0, [150])), (4, (0, 1, 1, [])), (5, (0, 0, 4, [])), (6, (0, 5, 5, [])), (7, (2, 0, 0, [261])), (8, (0, 0, 2009, [])), (9, (0, 0, 1999, [])), (10, (0, 0, 1999, [])), (11, (0, 0, 255, [])), (12, (0, 0, 255, [])), (13, (0, 1, 1, [])), (14, (0, 1, 5, []))], [(6, [14, 5], [1]), (7, [11, 12], [0]), (20, [10, 2, 11], [50, 1, 1, 1010, 1001, 4, 11, 0, 6, 4, 2, 1, 0, 0, 1, 2, 1, 10, 1, 2, 1, 2, 9, 5, 3, 1, 1, 1, 0, 0, 256]), (20, [2, 10, 11], [50, 1, 0, 10, 4, 7, 0, 3, 2, 0, 10, 1, 1, 1, 2, 1, 2, 0, -1]), (1, [10, 9, 5], []), (10, [9, 7, 8], []), (9, [8, 2], [158]), (9, [7, 2], [162]), (8, [4], [1]), (7, [5, 6], [2]), (20, [4, 2], [50, 1, 1, 1158, 1160, 4, 6, 1, 2, 1, 0, 0, 1, 1, 6, 3, 1, 160, 2, 1, 158, 0, 1]), (24, [0, 2], [])], [], [], [(20, [13, 2], [50, 1, 1, 1158, 1160, 4, 6, 1, 2, 1, 0, 0, 1, 1, 6, 3, 1, 160, 2, 1, 158, 0, 1])], [], [(14, 5, 1, 1), (11, 12, 0, 0), (10, 5, 0, 2000), (10, 9, 0, 4), (4, 5, -4294967296, 1)])
theorem oo_Mo_word_at_s5042_8 {kA : Nat → ClassId} : or_ok kA GG o_Mo_word_at_s5042_8 := by
  intro A ta ws vs hD hth hl hk hds hf
  have hl : vs.length = 15 := hl
  have hk : ∀ q ∈ ([(0, (2, 0, 0, [150])), (2, (2, 0, 0, [150])), (4, (0, 1, 1, [])), (5, (0, 0, 4, [])), (6, (0, 5, 5, [])), (7, (2, 0, 0, [261])), (8, (0, 0, 2009, [])), (9, (0, 0, 1999, [])), (10, (0, 0, 1999, [])), (11, (0, 0, 255, [])), (12, (0, 0, 255, [])), (13, (0, 1, 1, [])), (14, (0, 1, 5, []))] : List (Nat × tv_T)), tv_ok ta q.2 (n_v vs q.1) := hk
  obtain ⟨t0, hk⟩ := List.forall_mem_cons.mp hk
  have t0 : tv_ok ta (2, 0, 0, [150]) (n_v vs 0) := t0
  have r0 : ta (v_ad (n_v vs 0)) = some 150 := tv_rg t0
  obtain ⟨t2, hk⟩ := List.forall_mem_cons.mp hk
  have t2 : tv_ok ta (2, 0, 0, [150]) (n_v vs 2) := t2
  have r2 : ta (v_ad (n_v vs 2)) = some 150 := tv_rg t2
  obtain ⟨t4, hk⟩ := List.forall_mem_cons.mp hk
  have t4 : tv_ok ta (0, 1, 1, []) (n_v vs 4) := t4
  have k4 : 1 ≤ v_iv (n_v vs 4) ∧ v_iv (n_v vs 4) ≤ 1 := tv_rng t4
  obtain ⟨t5, hk⟩ := List.forall_mem_cons.mp hk
  have t5 : tv_ok ta (0, 0, 4, []) (n_v vs 5) := t5
  have k5 : 0 ≤ v_iv (n_v vs 5) ∧ v_iv (n_v vs 5) ≤ 4 := tv_rng t5
  obtain ⟨t6, hk⟩ := List.forall_mem_cons.mp hk
  have t6 : tv_ok ta (0, 5, 5, []) (n_v vs 6) := t6
  have k6 : 5 ≤ v_iv (n_v vs 6) ∧ v_iv (n_v vs 6) ≤ 5 := tv_rng t6
  obtain ⟨t7, hk⟩ := List.forall_mem_cons.mp hk
  have t7 : tv_ok ta (2, 0, 0, [261]) (n_v vs 7) := t7
  have r7 : ta (v_ad (n_v vs 7)) = some 261 := tv_rg t7
  obtain ⟨t8, hk⟩ := List.forall_mem_cons.mp hk
  have t8 : tv_ok ta (0, 0, 2009, []) (n_v vs 8) := t8
  have k8 : 0 ≤ v_iv (n_v vs 8) ∧ v_iv (n_v vs 8) ≤ 2009 := tv_rng t8
  obtain ⟨t9, hk⟩ := List.forall_mem_cons.mp hk
  have t9 : tv_ok ta (0, 0, 1999, []) (n_v vs 9) := t9
  have k9 : 0 ≤ v_iv (n_v vs 9) ∧ v_iv (n_v vs 9) ≤ 1999 := tv_rng t9
  obtain ⟨t10, hk⟩ := List.forall_mem_cons.mp hk
  have t10 : tv_ok ta (0, 0, 1999, []) (n_v vs 10) := t10
  have k10 : 0 ≤ v_iv (n_v vs 10) ∧ v_iv (n_v vs 10) ≤ 1999 := tv_rng t10
  obtain ⟨t11, hk⟩ := List.forall_mem_cons.mp hk
  have t11 : tv_ok ta (0, 0, 255, []) (n_v vs 11) := t11
  have k11 : 0 ≤ v_iv (n_v vs 11) ∧ v_iv (n_v vs 11) ≤ 255 := tv_rng t11
  obtain ⟨t12, hk⟩ := List.forall_mem_cons.mp hk
  have t12 : tv_ok ta (0, 0, 255, []) (n_v vs 12) := t12
  have k12 : 0 ≤ v_iv (n_v vs 12) ∧ v_iv (n_v vs 12) ≤ 255 := tv_rng t12
  obtain ⟨t13, hk⟩ := List.forall_mem_cons.mp hk
  have t13 : tv_ok ta (0, 1, 1, []) (n_v vs 13) := t13
  have k13 : 1 ≤ v_iv (n_v vs 13) ∧ v_iv (n_v vs 13) ≤ 1 := tv_rng t13
  obtain ⟨t14, hk⟩ := List.forall_mem_cons.mp hk
  have t14 : tv_ok ta (0, 1, 5, []) (n_v vs 14) := t14
  have k14 : 1 ≤ v_iv (n_v vs 14) ∧ v_iv (n_v vs 14) ≤ 5 := tv_rng t14
  have hds : ∀ q ∈ ([(14, 5, 1, 1), (11, 12, 0, 0), (10, 5, 0, 2000), (10, 9, 0, 4), (4, 5, -4294967296, 1)] : List of_T), n_iv vs q.2.1 + q.2.2.1 ≤ n_iv vs q.1 ∧ n_iv vs q.1 ≤ n_iv vs q.2.1 + q.2.2.2 := hds
  obtain ⟨d0, hds⟩ := List.forall_mem_cons.mp hds
  have d0 : v_iv (n_v vs 5) + 1 ≤ v_iv (n_v vs 14) ∧ v_iv (n_v vs 14) ≤ v_iv (n_v vs 5) + 1 := d0
  obtain ⟨d1, hds⟩ := List.forall_mem_cons.mp hds
  have d1 : v_iv (n_v vs 12) + 0 ≤ v_iv (n_v vs 11) ∧ v_iv (n_v vs 11) ≤ v_iv (n_v vs 12) + 0 := d1
  obtain ⟨d2, hds⟩ := List.forall_mem_cons.mp hds
  have d2 : v_iv (n_v vs 5) + 0 ≤ v_iv (n_v vs 10) ∧ v_iv (n_v vs 10) ≤ v_iv (n_v vs 5) + 2000 := d2
  obtain ⟨d3, hds⟩ := List.forall_mem_cons.mp hds
  have d3 : v_iv (n_v vs 9) + 0 ≤ v_iv (n_v vs 10) ∧ v_iv (n_v vs 10) ≤ v_iv (n_v vs 9) + 4 := d3
  obtain ⟨d4, hds⟩ := List.forall_mem_cons.mp hds
  have d4 : v_iv (n_v vs 5) + (-4294967296) ≤ v_iv (n_v vs 4) ∧ v_iv (n_v vs 4) ≤ v_iv (n_v vs 5) + 1 := d4
  have hf : fc_ok [(6, [14, 5], [1]), (7, [11, 12], [0]), (20, [10, 2, 11], [50, 1, 1, 1010, 1001, 4, 11, 0, 6, 4, 2, 1, 0, 0, 1, 2, 1, 10, 1, 2, 1, 2, 9, 5, 3, 1, 1, 1, 0, 0, 256]), (20, [2, 10, 11], [50, 1, 0, 10, 4, 7, 0, 3, 2, 0, 10, 1, 1, 1, 2, 1, 2, 0, -1]), (1, [10, 9, 5], []), (10, [9, 7, 8], []), (9, [8, 2], [158]), (9, [7, 2], [162]), (8, [4], [1]), (7, [5, 6], [2]), (20, [4, 2], [50, 1, 1, 1158, 1160, 4, 6, 1, 2, 1, 0, 0, 1, 1, 6, 3, 1, 160, 2, 1, 158, 0, 1]), (24, [0, 2], [])] ta ws vs := hf
  obtain ⟨f0, hf⟩ := fc_un (show (6 : Nat) < 100 from by decide) hf
  have f0 : v_iv (n_v vs 14) = v_iv (n_v vs 5) + 1 := f0
  obtain ⟨f1, hf⟩ := fc_un (show (7 : Nat) < 100 from by decide) hf
  have f1 : v_iv (n_v vs 11) = v_iv (n_v vs 12) := f1
  obtain ⟨f2, hf⟩ := fc_un (show (20 : Nat) < 100 from by decide) hf
  have f2 : ((v_iv (n_v vs 10) + 1) ≤ w_fi ws (n_v vs 2) 10) → (v_iv (n_v vs 11) = (w_ei ws (w_ar ws (n_v vs 2) 1) (v_iv (n_v vs 10)) % 256)) := f2
  obtain ⟨f3, hf⟩ := fc_un (show (20 : Nat) < 100 from by decide) hf
  have f3 : (w_fi ws (n_v vs 2) 10 ≤ v_iv (n_v vs 10)) → (v_iv (n_v vs 11) = (-1)) := f3
  obtain ⟨f4, hf⟩ := fc_un (show (1 : Nat) < 100 from by decide) hf
  have f4 : v_iv (n_v vs 10) = v_iv (n_v vs 9) + v_iv (n_v vs 5) := f4
  obtain ⟨f5, hf⟩ := fc_un (show (10 : Nat) < 100 from by decide) hf
  have f5 : v_iv (n_v vs 9) = w_el ws (v_ad (n_v vs 7)) (v_iv (n_v vs 8)).toNat := f5
  obtain ⟨f6, hf⟩ := fc_un (show (9 : Nat) < 100 from by decide) hf
  have f6 : n_v vs 8 = w_fd ws (v_ad (n_v vs 2)) 158 := f6
  obtain ⟨f7, hf⟩ := fc_un (show (9 : Nat) < 100 from by decide) hf
  have f7 : n_v vs 7 = w_fd ws (v_ad (n_v vs 2)) 162 := f7
  obtain ⟨f8, hf⟩ := fc_un (show (8 : Nat) < 100 from by decide) hf
  have f8 : v_iv (n_v vs 4) ≠ 0 := f8
  obtain ⟨f9, hf⟩ := fc_un (show (7 : Nat) < 100 from by decide) hf
  have f9 : v_iv (n_v vs 5) < v_iv (n_v vs 6) := f9
  obtain ⟨f10, hf⟩ := fc_un (show (20 : Nat) < 100 from by decide) hf
  have f10 : (v_iv (n_v vs 4) = 1) → (w_ei ws (w_ar ws (n_v vs 2) 160) (w_fi ws (n_v vs 2) 158) = 1) := f10
  obtain ⟨f11, hf⟩ := fc_un (show (24 : Nat) < 100 from by decide) hf
  have f11 : n_v vs 0 = n_v vs 2 := f11
  have q2 : n_v vs 2 = n_v vs 0 := f11.symm
  rw [q2] at f2
  rw [q2] at f3
  rw [q2] at f6
  rw [q2] at f7
  rw [q2] at f10
  have cr_0_1 : ta (w_ar ws (n_v vs 0) 1) = some 151 := tv_rg (th_fd hD hth r0 (g := GG_150) rfl (k := 1) (t := (2, 0, 0, [151])) rfl rfl)
  have cr_0_160 : ta (w_ar ws (n_v vs 0) 160) = some 259 := tv_rg (th_fd hD hth r0 (g := GG_150) rfl (k := 160) (t := (2, 0, 0, [259])) rfl rfl)
  have cr_0_162 : ta (w_ar ws (n_v vs 0) 162) = some 261 := tv_rg (th_fd hD hth r0 (g := GG_150) rfl (k := 162) (t := (2, 0, 0, [261])) rfl rfl)
  have ad_7 : v_ad (n_v vs 7) = w_ar ws (n_v vs 0) 162 := congrArg v_ad f7
  rw [ad_7] at f5
  have g6 : v_iv (n_v vs 8) = w_fi ws (n_v vs 0) 158 := congrArg v_iv f6
  have hK_0_1 : ∀ j : Int, 0 ≤ j → j < 2000 → (-128) ≤ w_ei ws (w_ar ws (n_v vs 0) 1) j ∧ w_ei ws (w_ar ws (n_v vs 0) 1) j ≤ 127 := fun j h0 h1 => th_el hD hth cr_0_1 (kd := 1) (n := 2000) (m := 2000) (lo := (-128)) (hi := 127) (rs := []) (L := []) rfl (by decide) (j := j.toNat) (by omega)
  have hK_0_160 : ∀ j : Int, 0 ≤ j → j < 2010 → 0 ≤ w_ei ws (w_ar ws (n_v vs 0) 160) j ∧ w_ei ws (w_ar ws (n_v vs 0) 160) j ≤ 4 := fun j h0 h1 => th_el hD hth cr_0_160 (kd := 0) (n := 2010) (m := 2010) (lo := 0) (hi := 4) (rs := []) (L := []) rfl (by decide) (j := j.toNat) (by omega)
  have kz_0_10 : 0 ≤ w_fi ws (n_v vs 0) 10 ∧ w_fi ws (n_v vs 0) 10 ≤ 2000 := tv_rng (th_fd hD hth r0 (g := GG_150) rfl (k := 10) (t := (0, 0, 2000, [])) rfl rfl)
  have kz_0_158 : 0 ≤ w_fi ws (n_v vs 0) 158 ∧ w_fi ws (n_v vs 0) 158 ≤ 2009 := tv_rng (th_fd hD hth r0 (g := GG_150) rfl (k := 158) (t := (0, 0, 2009, [])) rfl rfl)
  have nf0 : fc_1 (20, [13, 2], [50, 1, 1, 1158, 1160, 4, 6, 1, 2, 1, 0, 0, 1, 1, 6, 3, 1, 160, 2, 1, 158, 0, 1]) ws (vs) := by
    refine ⟨fun n hn => ?_, ?_⟩
    · have hn : n ∈ [13, 2] := hn
      rw [hl]
      simp only [List.mem_cons, List.not_mem_nil, or_false] at hn
      show n < 15; omega
    · show (v_iv (n_v vs 13) = 1) → (w_ei ws (w_ar ws (n_v vs 2) 160) (w_fi ws (n_v vs 2) 158) = 1)
      rw [q2]
      first | omega | grind
  refine ⟨(fun _ h => (by cases h)), [], trivial, ?_, (fun _ h => (by cases h))⟩
  rw [List.append_nil]
  exact List.forall_mem_cons.mpr ⟨⟨show (20 : Nat) < 100 from by decide, nf0⟩, (fun _ h => (by cases h))⟩
def n_Mo_word_at_s5042_an : List an_T := [(54, [(0, (2, 0, 0, [150])), (1, (2, 0, 0, [5042])), (2, (0, 0, 1, [])), (3, (0, 0, 5, []))], [], (0, 0), [(0, 0, 99946), (1, 5, 5), (0, 0, 100000)], [(4, 5, -1000000000000, 1)], [], [(2, 0, 0, [150]), (2, 0, 0, [5042])], 0, [], [(20, [4, 2], [50, 1, 1, 1158, 1160, 4, 6, 1, 2, 1, 0, 0, 1, 1, 6, 3, 1, 160, 2, 1, 158, 0, 1]), (24, [0, 2], [])])]
def t_Mo_word_at_s5042_ct : ct_L := [(1, 425, e_Mo_byteAt), (124, 448, e_jStr_length_v317), (172, 448, e_jStr_length_v317), (253, 453, e_jStr_charAt_v318)]
set_option maxRecDepth 100000 in
theorem c_Mo_word_at_s5042 {l : Launch} {D : va_G} {kA : Nat → ClassId} (h_Mo_byteAt : ct_ok l D kA GG y_Mo_byteAt z_Mo_byteAt e_Mo_byteAt) : ct_ok l D kA GG y_Mo_word_at_s5042 z_Mo_word_at_s5042 e_Mo_word_at_s5042 := chk_all_ok (FT := [(342, 13, 160), (348, 13, 162), (351, 13, 163), (413, 13, 8), (1169, 13, 158)]) (PT := []) (CT := t_Mo_word_at_s5042_ct) (KT := []) (NT := []) (AN := n_Mo_word_at_s5042_an) (OT := [o_Mo_word_at_s5042_0, o_Mo_word_at_s5042_1, o_Mo_word_at_s5042_2, o_Mo_word_at_s5042_3, o_Mo_word_at_s5042_4, o_Mo_word_at_s5042_5, o_Mo_word_at_s5042_6, o_Mo_word_at_s5042_7, o_Mo_word_at_s5042_8]) 3 324 (List.forall_mem_cons.mpr ⟨oo_Mo_word_at_s5042_0, List.forall_mem_cons.mpr ⟨oo_Mo_word_at_s5042_1, List.forall_mem_cons.mpr ⟨oo_Mo_word_at_s5042_2, List.forall_mem_cons.mpr ⟨oo_Mo_word_at_s5042_3, List.forall_mem_cons.mpr ⟨oo_Mo_word_at_s5042_4, List.forall_mem_cons.mpr ⟨oo_Mo_word_at_s5042_5, List.forall_mem_cons.mpr ⟨oo_Mo_word_at_s5042_6, List.forall_mem_cons.mpr ⟨oo_Mo_word_at_s5042_7, List.forall_mem_cons.mpr ⟨oo_Mo_word_at_s5042_8, List.forall_mem_nil _⟩⟩⟩⟩⟩⟩⟩⟩⟩) (by decide +kernel) ⟨List.forall_mem_cons.mpr ⟨gf_Mo_342, List.forall_mem_cons.mpr ⟨gf_Mo_348, List.forall_mem_cons.mpr ⟨gf_Mo_351, List.forall_mem_cons.mpr ⟨gf_Mo_413, List.forall_mem_cons.mpr ⟨gf_Mo_1169, List.forall_mem_nil _⟩⟩⟩⟩⟩, List.forall_mem_nil _, List.forall_mem_cons.mpr ⟨cl_virtual (y := y_Mo_byteAt) (ci := 13) rfl rfl ⟨_, _, rfl⟩ (by decide +kernel) h_Mo_byteAt wm_2986 wm_9 wm_2983 wm_2985 wv_12_12 ⟨by decide, by decide, by decide +kernel⟩ (by decide), List.forall_mem_cons.mpr ⟨cl_string (y := y_jStr_length) (i := 42) rfl rfl (by decide +kernel) rfl c_jStr_length_v317 wm_674 wm_11 wm_3003 wm_672 wm_673 ⟨by decide, by decide, by decide +kernel⟩ (by decide), List.forall_mem_cons.mpr ⟨cl_string (y := y_jStr_length) (i := 42) rfl rfl (by decide +kernel) rfl c_jStr_length_v317 wm_674 wm_11 wm_3003 wm_672 wm_673 ⟨by decide, by decide, by decide +kernel⟩ (by decide), List.forall_mem_cons.mpr ⟨cl_string (y := y_jStr_charAt) (i := 42) rfl rfl (by decide +kernel) rfl c_jStr_charAt_v318 wm_684 wm_11 wm_3004 wm_682 wm_683 ⟨by decide, by decide, by decide +kernel⟩ (by decide), List.forall_mem_nil _⟩⟩⟩⟩, List.forall_mem_nil _, List.forall_mem_nil _, GG_pl⟩ (by decide +kernel)
