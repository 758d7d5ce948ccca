def o_Mo_word_at_s5043_0 : or_T := (54, 5, [(0, (2, 0, 0, [150])), (3, (0, 0, 0, []))], [], [], [], [(20, [3, 0], [50, 1, 1, 1158, 1160, 4, 6, 1, 2, 1, 0, 0, 1, 1, 6, 3, 1, 160, 2, 1, 158, 0, 1]), (24, [0, 0], [])], [], [])
theorem oo_Mo_word_at_s5043_0 {kA : Nat → ClassId} : or_ok kA GG o_Mo_word_at_s5043_0 := by
  intro A ta ws vs hD hth hl hk hds hf
  have hl : vs.length = 5 := hl
  have hk : ∀ q ∈ ([(0, (2, 0, 0, [150])), (3, (0, 0, 0, []))] : List (Nat × tv_T)), tv_ok ta q.2 (n_v vs q.1) := hk
  obtain ⟨t0, hk⟩ := List.forall_mem_cons.mp hk
  have t0 : tv_ok ta (2, 0, 0, [150]) (n_v vs 0) := t0
  have r0 : ta (v_ad (n_v vs 0)) = some 150 := tv_rg t0
  obtain ⟨t3, hk⟩ := List.forall_mem_cons.mp hk
  have t3 : tv_ok ta (0, 0, 0, []) (n_v vs 3) := t3
  have k3 : 0 ≤ v_iv (n_v vs 3) ∧ v_iv (n_v vs 3) ≤ 0 := tv_rng t3
  have cr_0_160 : ta (w_ar ws (n_v vs 0) 160) = some 259 := tv_rg (th_fd hD hth r0 (g := GG_150) rfl (k := 160) (t := (2, 0, 0, [259])) rfl rfl)
  have hK_0_160 : ∀ j : Int, 0 ≤ j → j < 2010 → 0 ≤ w_ei ws (w_ar ws (n_v vs 0) 160) j ∧ w_ei ws (w_ar ws (n_v vs 0) 160) j ≤ 4 := fun j h0 h1 => th_el hD hth cr_0_160 (kd := 0) (n := 2010) (m := 2010) (lo := 0) (hi := 4) (rs := []) (L := []) rfl (by decide) (j := j.toNat) (by omega)
  have kz_0_158 : 0 ≤ w_fi ws (n_v vs 0) 158 ∧ w_fi ws (n_v vs 0) 158 ≤ 2009 := tv_rng (th_fd hD hth r0 (g := GG_150) rfl (k := 158) (t := (0, 0, 2009, [])) rfl rfl)
  have nf0 : fc_1 (20, [3, 0], [50, 1, 1, 1158, 1160, 4, 6, 1, 2, 1, 0, 0, 1, 1, 6, 3, 1, 160, 2, 1, 158, 0, 1]) ws (vs) := by
    refine ⟨fun n hn => ?_, ?_⟩
    · have hn : n ∈ [3, 0] := hn
      rw [hl]
      simp only [List.mem_cons, List.not_mem_nil, or_false] at hn
      show n < 5; omega
    · show (v_iv (n_v vs 3) = 1) → (w_ei ws (w_ar ws (n_v vs 0) 160) (w_fi ws (n_v vs 0) 158) = 1)
      first | omega | grind
  have nf1 : fc_1 (24, [0, 0], []) ws (vs) := by
    refine ⟨fun n hn => ?_, ?_⟩
    · have hn : n ∈ [0, 0] := hn
      rw [hl]
      simp only [List.mem_cons, List.not_mem_nil, or_false] at hn
      show n < 5; omega
    · show n_v vs 0 = n_v vs 0
      first | rfl | simp only [true_and]
  refine ⟨(fun _ h => (by cases h)), [], trivial, ?_, (fun _ h => (by cases h))⟩
  rw [List.append_nil]
  exact List.forall_mem_cons.mpr ⟨⟨show (20 : Nat) < 100 from by decide, nf0⟩, List.forall_mem_cons.mpr ⟨⟨show (24 : Nat) < 100 from by decide, nf1⟩, (fun _ h => (by cases h))⟩⟩
def o_Mo_word_at_s5043_1 : or_T := (54, 9, [(0, (2, 0, 0, [150])), (3, (2, 0, 0, [259])), (4, (0, 0, 2009, [])), (5, (0, 0, 4, [])), (6, (0, 1, 1, [])), (7, (0, 0, 0, []))], [(7, [5, 6], [1]), (10, [5, 3, 4], []), (9, [4, 0], [158]), (9, [3, 0], [160])], [], [], [(20, [7, 0], [50, 1, 1, 1158, 1160, 4, 6, 1, 2, 1, 0, 0, 1, 1, 6, 3, 1, 160, 2, 1, 158, 0, 1]), (24, [0, 0], [])], [], [])
theorem oo_Mo_word_at_s5043_1 {kA : Nat → ClassId} : or_ok kA GG o_Mo_word_at_s5043_1 := by
  intro A ta ws vs hD hth hl hk hds hf
  have hl : vs.length = 9 := hl
  have hk : ∀ q ∈ ([(0, (2, 0, 0, [150])), (3, (2, 0, 0, [259])), (4, (0, 0, 2009, [])), (5, (0, 0, 4, [])), (6, (0, 1, 1, [])), (7, (0, 0, 0, []))] : List (Nat × tv_T)), tv_ok ta q.2 (n_v vs q.1) := hk
  obtain ⟨t0, hk⟩ := List.forall_mem_cons.mp hk
  have t0 : tv_ok ta (2, 0, 0, [150]) (n_v vs 0) := t0
  have r0 : ta (v_ad (n_v vs 0)) = some 150 := tv_rg t0
  obtain ⟨t3, hk⟩ := List.forall_mem_cons.mp hk
  have t3 : tv_ok ta (2, 0, 0, [259]) (n_v vs 3) := t3
  have r3 : ta (v_ad (n_v vs 3)) = some 259 := tv_rg t3
  obtain ⟨t4, hk⟩ := List.forall_mem_cons.mp hk
  have t4 : tv_ok ta (0, 0, 2009, []) (n_v vs 4) := t4
  have k4 : 0 ≤ v_iv (n_v vs 4) ∧ v_iv (n_v vs 4) ≤ 2009 := tv_rng t4
  obtain ⟨t5, hk⟩ := List.forall_mem_cons.mp hk
  have t5 : tv_ok ta (0, 0, 4, []) (n_v vs 5) := t5
  have k5 : 0 ≤ v_iv (n_v vs 5) ∧ v_iv (n_v vs 5) ≤ 4 := tv_rng t5
  obtain ⟨t6, hk⟩ := List.forall_mem_cons.mp hk
  have t6 : tv_ok ta (0, 1, 1, []) (n_v vs 6) := t6
  have k6 : 1 ≤ v_iv (n_v vs 6) ∧ v_iv (n_v vs 6) ≤ 1 := tv_rng t6
  obtain ⟨t7, hk⟩ := List.forall_mem_cons.mp hk
  have t7 : tv_ok ta (0, 0, 0, []) (n_v vs 7) := t7
  have k7 : 0 ≤ v_iv (n_v vs 7) ∧ v_iv (n_v vs 7) ≤ 0 := tv_rng t7
  have hf : fc_ok [(7, [5, 6], [1]), (10, [5, 3, 4], []), (9, [4, 0], [158]), (9, [3, 0], [160])] ta ws vs := hf
  obtain ⟨f0, hf⟩ := fc_un (show (7 : Nat) < 100 from by decide) hf
  have f0 : v_iv (n_v vs 5) ≠ v_iv (n_v vs 6) := f0
  obtain ⟨f1, hf⟩ := fc_un (show (10 : Nat) < 100 from by decide) hf
  have f1 : v_iv (n_v vs 5) = w_el ws (v_ad (n_v vs 3)) (v_iv (n_v vs 4)).toNat := f1
  obtain ⟨f2, hf⟩ := fc_un (show (9 : Nat) < 100 from by decide) hf
  have f2 : n_v vs 4 = w_fd ws (v_ad (n_v vs 0)) 158 := f2
  obtain ⟨f3, hf⟩ := fc_un (show (9 : Nat) < 100 from by decide) hf
  have f3 : n_v vs 3 = w_fd ws (v_ad (n_v vs 0)) 160 := f3
  have cr_0_160 : ta (w_ar ws (n_v vs 0) 160) = some 259 := tv_rg (th_fd hD hth r0 (g := GG_150) rfl (k := 160) (t := (2, 0, 0, [259])) rfl rfl)
  have ad_3 : v_ad (n_v vs 3) = w_ar ws (n_v vs 0) 160 := congrArg v_ad f3
  rw [ad_3] at f1
  have h1 : v_iv (n_v vs 5) = w_ei ws (w_ar ws (n_v vs 0) 160) (v_iv (n_v vs 4)) := f1
  have g2 : v_iv (n_v vs 4) = w_fi ws (n_v vs 0) 158 := congrArg v_iv f2
  have br_0_160_4_0 : w_ei ws (w_ar ws (n_v vs 0) 160) (v_iv (n_v vs 4)) = w_el ws (w_ar ws (n_v vs 0) 160) (v_iv (n_v vs 4)).toNat := rfl
  have hK_0_160 : ∀ j : Int, 0 ≤ j → j < 2010 → 0 ≤ w_ei ws (w_ar ws (n_v vs 0) 160) j ∧ w_ei ws (w_ar ws (n_v vs 0) 160) j ≤ 4 := fun j h0 h1 => th_el hD hth cr_0_160 (kd := 0) (n := 2010) (m := 2010) (lo := 0) (hi := 4) (rs := []) (L := []) rfl (by decide) (j := j.toNat) (by omega)
  have kz_0_158 : 0 ≤ w_fi ws (n_v vs 0) 158 ∧ w_fi ws (n_v vs 0) 158 ≤ 2009 := tv_rng (th_fd hD hth r0 (g := GG_150) rfl (k := 158) (t := (0, 0, 2009, [])) rfl rfl)
  have nf0 : fc_1 (20, [7, 0], [50, 1, 1, 1158, 1160, 4, 6, 1, 2, 1, 0, 0, 1, 1, 6, 3, 1, 160, 2, 1, 158, 0, 1]) ws (vs) := by
    refine ⟨fun n hn => ?_, ?_⟩
    · have hn : n ∈ [7, 0] := hn
      rw [hl]
      simp only [List.mem_cons, List.not_mem_nil, or_false] at hn
      show n < 9; omega
    · show (v_iv (n_v vs 7) = 1) → (w_ei ws (w_ar ws (n_v vs 0) 160) (w_fi ws (n_v vs 0) 158) = 1)
      first | omega | grind
  have nf1 : fc_1 (24, [0, 0], []) ws (vs) := by
    refine ⟨fun n hn => ?_, ?_⟩
    · have hn : n ∈ [0, 0] := hn
      rw [hl]
      simp only [List.mem_cons, List.not_mem_nil, or_false] at hn
      show n < 9; omega
    · show n_v vs 0 = n_v vs 0
      first | rfl | simp only [true_and]
  refine ⟨(fun _ h => (by cases h)), [], trivial, ?_, (fun _ h => (by cases h))⟩
  rw [List.append_nil]
  exact List.forall_mem_cons.mpr ⟨⟨show (20 : Nat) < 100 from by decide, nf0⟩, List.forall_mem_cons.mpr ⟨⟨show (24 : Nat) < 100 from by decide, nf1⟩, (fun _ h => (by cases h))⟩⟩
def o_Mo_word_at_s5043_2 : or_T := (54, 15, [(0, (2, 0, 0, [150])), (3, (2, 0, 0, [259])), (4, (0, 0, 2009, [])), (5, (0, 1, 1, [])), (6, (0, 1, 1, [])), (13, (0, 0, 0, []))], [(9, [4, 0], [158]), (7, [5, 6], [0]), (10, [5, 3, 4], []), (9, [3, 0], [160])], [], [], [(20, [13, 0], [50, 1, 1, 1158, 1160, 4, 6, 1, 2, 1, 0, 0, 1, 1, 6, 3, 1, 160, 2, 1, 158, 0, 1]), (24, [0, 0], [])], [], [])
theorem oo_Mo_word_at_s5043_2 {kA : Nat → ClassId} : or_ok kA GG o_Mo_word_at_s5043_2 := by
  intro A ta ws vs hD hth hl hk hds hf
  have hl : vs.length = 15 := hl
  have hk : ∀ q ∈ ([(0, (2, 0, 0, [150])), (3, (2, 0, 0, [259])), (4, (0, 0, 2009, [])), (5, (0, 1, 1, [])), (6, (0, 1, 1, [])), (13, (0, 0, 0, []))] : List (Nat × tv_T)), tv_ok ta q.2 (n_v vs q.1) := hk
  obtain ⟨t0, hk⟩ := List.forall_mem_cons.mp hk
  have t0 : tv_ok ta (2, 0, 0, [150]) (n_v vs 0) := t0
  have r0 : ta (v_ad (n_v vs 0)) = some 150 := tv_rg t0
  obtain ⟨t3, hk⟩ := List.forall_mem_cons.mp hk
  have t3 : tv_ok ta (2, 0, 0, [259]) (n_v vs 3) := t3
  have r3 : ta (v_ad (n_v vs 3)) = some 259 := tv_rg t3
  obtain ⟨t4, hk⟩ := List.forall_mem_cons.mp hk
  have t4 : tv_ok ta (0, 0, 2009, []) (n_v vs 4) := t4
  have k4 : 0 ≤ v_iv (n_v vs 4) ∧ v_iv (n_v vs 4) ≤ 2009 := tv_rng t4
  obtain ⟨t5, hk⟩ := List.forall_mem_cons.mp hk
  have t5 : tv_ok ta (0, 1, 1, []) (n_v vs 5) := t5
  have k5 : 1 ≤ v_iv (n_v vs 5) ∧ v_iv (n_v vs 5) ≤ 1 := tv_rng t5
  obtain ⟨t6, hk⟩ := List.forall_mem_cons.mp hk
  have t6 : tv_ok ta (0, 1, 1, []) (n_v vs 6) := t6
  have k6 : 1 ≤ v_iv (n_v vs 6) ∧ v_iv (n_v vs 6) ≤ 1 := tv_rng t6
  obtain ⟨t13, hk⟩ := List.forall_mem_cons.mp hk
  have t13 : tv_ok ta (0, 0, 0, []) (n_v vs 13) := t13
  have k13 : 0 ≤ v_iv (n_v vs 13) ∧ v_iv (n_v vs 13) ≤ 0 := tv_rng t13
  have hf : fc_ok [(9, [4, 0], [158]), (7, [5, 6], [0]), (10, [5, 3, 4], []), (9, [3, 0], [160])] ta ws vs := hf
  obtain ⟨f0, hf⟩ := fc_un (show (9 : Nat) < 100 from by decide) hf
  have f0 : n_v vs 4 = w_fd ws (v_ad (n_v vs 0)) 158 := f0
  obtain ⟨f1, hf⟩ := fc_un (show (7 : Nat) < 100 from by decide) hf
  have f1 : v_iv (n_v vs 5) = v_iv (n_v vs 6) := f1
  obtain ⟨f2, hf⟩ := fc_un (show (10 : Nat) < 100 from by decide) hf
  have f2 : v_iv (n_v vs 5) = w_el ws (v_ad (n_v vs 3)) (v_iv (n_v vs 4)).toNat := f2
  obtain ⟨f3, hf⟩ := fc_un (show (9 : Nat) < 100 from by decide) hf
  have f3 : n_v vs 3 = w_fd ws (v_ad (n_v vs 0)) 160 := f3
  have cr_0_160 : ta (w_ar ws (n_v vs 0) 160) = some 259 := tv_rg (th_fd hD hth r0 (g := GG_150) rfl (k := 160) (t := (2, 0, 0, [259])) rfl rfl)
  have ad_3 : v_ad (n_v vs 3) = w_ar ws (n_v vs 0) 160 := congrArg v_ad f3
  have g0 : v_iv (n_v vs 4) = w_fi ws (n_v vs 0) 158 := congrArg v_iv f0
  rw [ad_3] at f2
  have h2 : v_iv (n_v vs 5) = w_ei ws (w_ar ws (n_v vs 0) 160) (v_iv (n_v vs 4)) := f2
  have br_0_160_4_0 : w_ei ws (w_ar ws (n_v vs 0) 160) (v_iv (n_v vs 4)) = w_el ws (w_ar ws (n_v vs 0) 160) (v_iv (n_v vs 4)).toNat := rfl
  have hK_0_160 : ∀ j : Int, 0 ≤ j → j < 2010 → 0 ≤ w_ei ws (w_ar ws (n_v vs 0) 160) j ∧ w_ei ws (w_ar ws (n_v vs 0) 160) j ≤ 4 := fun j h0 h1 => th_el hD hth cr_0_160 (kd := 0) (n := 2010) (m := 2010) (lo := 0) (hi := 4) (rs := []) (L := []) rfl (by decide) (j := j.toNat) (by omega)
  have kz_0_158 : 0 ≤ w_fi ws (n_v vs 0) 158 ∧ w_fi ws (n_v vs 0) 158 ≤ 2009 := tv_rng (th_fd hD hth r0 (g := GG_150) rfl (k := 158) (t := (0, 0, 2009, [])) rfl rfl)
  have nf0 : fc_1 (20, [13, 0], [50, 1, 1, 1158, 1160, 4, 6, 1, 2, 1, 0, 0, 1, 1, 6, 3, 1, 160, 2, 1, 158, 0, 1]) ws (vs) := by
    refine ⟨fun n hn => ?_, ?_⟩
    · have hn : n ∈ [13, 0] := hn
      rw [hl]
      simp only [List.mem_cons, List.not_mem_nil, or_false] at hn
      show n < 15; omega
    · show (v_iv (n_v vs 13) = 1) → (w_ei ws (w_ar ws (n_v vs 0) 160) (w_fi ws (n_v vs 0) 158) = 1)
      first | omega | grind
  have nf1 : fc_1 (24, [0, 0], []) ws (vs) := by
    refine ⟨fun n hn => ?_, ?_⟩
    · have hn : n ∈ [0, 0] := hn
      rw [hl]
      simp only [List.mem_cons, List.not_mem_nil, or_false] at hn
      show n < 15; omega
    · show n_v vs 0 = n_v vs 0
      first | rfl | simp only [true_and]
  refine ⟨(fun _ h => (by cases h)), [], trivial, ?_, (fun _ h => (by cases h))⟩
  rw [List.append_nil]
  exact List.forall_mem_cons.mpr ⟨⟨show (20 : Nat) < 100 from by decide, nf0⟩, List.forall_mem_cons.mpr ⟨⟨show (24 : Nat) < 100 from by decide, nf1⟩, (fun _ h => (by cases h))⟩⟩
def o_Mo_word_at_s5043_3 : or_T := (54, 15, [(0, (2, 0, 0, [150])), (3, (2, 0, 0, [259])), (4, (0, 0, 2009, [])), (5, (0, 1, 1, [])), (6, (0, 1, 1, [])), (13, (0, 1, 1, []))], [(9, [4, 0], [158]), (7, [5, 6], [0]), (10, [5, 3, 4], []), (9, [3, 0], [160])], [], [], [(20, [13, 0], [50, 1, 1, 1158, 1160, 4, 6, 1, 2, 1, 0, 0, 1, 1, 6, 3, 1, 160, 2, 1, 158, 0, 1]), (24, [0, 0], [])], [], [])
theorem oo_Mo_word_at_s5043_3 {kA : Nat → ClassId} : or_ok kA GG o_Mo_word_at_s5043_3 := by
  intro A ta ws vs hD hth hl hk hds hf
  have hl : vs.length = 15 := hl
  have hk : ∀ q ∈ ([(0, (2, 0, 0, [150])), (3, (2, 0, 0, [259])), (4, (0, 0, 2009, [])), (5, (0, 1, 1, [])), (6, (0, 1, 1, [])), (13, (0, 1, 1, []))] : List (Nat × tv_T)), tv_ok ta q.2 (n_v vs q.1) := hk
  obtain ⟨t0, hk⟩ := List.forall_mem_cons.mp hk
  have t0 : tv_ok ta (2, 0, 0, [150]) (n_v vs 0) := t0
  have r0 : ta (v_ad (n_v vs 0)) = some 150 := tv_rg t0
  obtain ⟨t3, hk⟩ := List.forall_mem_cons.mp hk
  have t3 : tv_ok ta (2, 0, 0, [259]) (n_v vs 3) := t3
  have r3 : ta (v_ad (n_v vs 3)) = some 259 := tv_rg t3
  obtain ⟨t4, hk⟩ := List.forall_mem_cons.mp hk
  have t4 : tv_ok ta (0, 0, 2009, []) (n_v vs 4) := t4
  have k4 : 0 ≤ v_iv (n_v vs 4) ∧ v_iv (n_v vs 4) ≤ 2009 := tv_rng t4
  obtain ⟨t5, hk⟩ := List.forall_mem_cons.mp hk
  have t5 : tv_ok ta (0, 1, 1, []) (n_v vs 5) := t5
  have k5 : 1 ≤ v_iv (n_v vs 5) ∧ v_iv (n_v vs 5) ≤ 1 := tv_rng t5
  obtain ⟨t6, hk⟩ := List.forall_mem_cons.mp hk
  have t6 : tv_ok ta (0, 1, 1, []) (n_v vs 6) := t6
  have k6 : 1 ≤ v_iv (n_v vs 6) ∧ v_iv (n_v vs 6) ≤ 1 := tv_rng t6
  obtain ⟨t13, hk⟩ := List.forall_mem_cons.mp hk
  have t13 : tv_ok ta (0, 1, 1, []) (n_v vs 13) := t13
  have k13 : 1 ≤ v_iv (n_v vs 13) ∧ v_iv (n_v vs 13) ≤ 1 := tv_rng t13
  have hf : fc_ok [(9, [4, 0], [158]), (7, [5, 6], [0]), (10, [5, 3, 4], []), (9, [3, 0], [160])] ta ws vs := hf
  obtain ⟨f0, hf⟩ := fc_un (show (9 : Nat) < 100 from by decide) hf
  have f0 : n_v vs 4 = w_fd ws (v_ad (n_v vs 0)) 158 := f0
  obtain ⟨f1, hf⟩ := fc_un (show (7 : Nat) < 100 from by decide) hf
  have f1 : v_iv (n_v vs 5) = v_iv (n_v vs 6) := f1
  obtain ⟨f2, hf⟩ := fc_un (show (10 : Nat) < 100 from by decide) hf
  have f2 : v_iv (n_v vs 5) = w_el ws (v_ad (n_v vs 3)) (v_iv (n_v vs 4)).toNat := f2
  obtain ⟨f3, hf⟩ := fc_un (show (9 : Nat) < 100 from by decide) hf
  have f3 : n_v vs 3 = w_fd ws (v_ad (n_v vs 0)) 160 := f3
  have cr_0_160 : ta (w_ar ws (n_v vs 0) 160) = some 259 := tv_rg (th_fd hD hth r0 (g := GG_150) rfl (k := 160) (t := (2, 0, 0, [259])) rfl rfl)
  have ad_3 : v_ad (n_v vs 3) = w_ar ws (n_v vs 0) 160 := congrArg v_ad f3
  have g0 : v_iv (n_v vs 4) = w_fi ws (n_v vs 0) 158 := congrArg v_iv f0
  rw [ad_3] at f2
  have h2 : v_iv (n_v vs 5) = w_ei ws (w_ar ws (n_v vs 0) 160) (v_iv (n_v vs 4)) := f2
  have br_0_160_4_0 : w_ei ws (w_ar ws (n_v vs 0) 160) (v_iv (n_v vs 4)) = w_el ws (w_ar ws (n_v vs 0) 160) (v_iv (n_v vs 4)).toNat := rfl
  have hK_0_160 : ∀ j : Int, 0 ≤ j → j < 2010 → 0 ≤ w_ei ws (w_ar ws (n_v vs 0) 160) j ∧ w_ei ws (w_ar ws (n_v vs 0) 160) j ≤ 4 := fun j h0 h1 => th_el hD hth cr_0_160 (kd := 0) (n := 2010) (m := 2010) (lo := 0) (hi := 4) (rs := []) (L := []) rfl (by decide) (j := j.toNat) (by omega)
  have kz_0_158 : 0 ≤ w_fi ws (n_v vs 0) 158 ∧ w_fi ws (n_v vs 0) 158 ≤ 2009 := tv_rng (th_fd hD hth r0 (g := GG_150) rfl (k := 158) (t := (0, 0, 2009, [])) rfl rfl)
  have nf0 : fc_1 (20, [13, 0], [50, 1, 1, 1158, 1160, 4, 6, 1, 2, 1, 0, 0, 1, 1, 6, 3, 1, 160, 2, 1, 158, 0, 1]) ws (vs) := by
    refine ⟨fun n hn => ?_, ?_⟩
    · have hn : n ∈ [13, 0] := hn
      rw [hl]
      simp only [List.mem_cons, List.not_mem_nil, or_false] at hn
      show n < 15; omega
    · show (v_iv (n_v vs 13) = 1) → (w_ei ws (w_ar ws (n_v vs 0) 160) (w_fi ws (n_v vs 0) 158) = 1)
      first | omega | grind
  have nf1 : fc_1 (24, [0, 0], []) ws (vs) := by
    refine ⟨fun n hn => ?_, ?_⟩
    · have hn : n ∈ [0, 0] := hn
      rw [hl]
      simp only [List.mem_cons, List.not_mem_nil, or_false] at hn
      show n < 15; omega
    · show n_v vs 0 = n_v vs 0
      first | rfl | simp only [true_and]
  refine ⟨(fun _ h => (by cases h)), [], trivial, ?_, (fun _ h => (by cases h))⟩
  rw [List.append_nil]
  exact List.forall_mem_cons.mpr ⟨⟨show (20 : Nat) < 100 from by decide, nf0⟩, List.forall_mem_cons.mpr ⟨⟨show (24 : Nat) < 100 from by decide, nf1⟩, (fun _ h => (by cases h))⟩⟩
def o_Mo_word_at_s5043_4 : or_T := (102, 7, [(0, (2, 0, 0, [150])), (2, (2, 0, 0, [150])), (4, (0, 0, 1, []))], [(20, [4, 2], [50, 1, 1, 1158, 1160, 4, 6, 1, 2, 1, 0, 0, 1, 1, 6, 3, 1, 160, 2, 1, 158, 0, 1]), (24, [0, 2], [])], [], [], [(20, [4, 0], [50, 1, 1, 1158, 1160, 4, 6, 1, 2, 1, 0, 0, 1, 1, 6, 3, 1, 160, 2, 1, 158, 0, 1])], [], [])
theorem oo_Mo_word_at_s5043_4 {kA : Nat → ClassId} : or_ok kA GG o_Mo_word_at_s5043_4 := by
  intro A ta ws vs hD hth hl hk hds hf
  have hl : vs.length = 7 := hl
  have hk : ∀ q ∈ ([(0, (2, 0, 0, [150])), (2, (2, 0, 0, [150])), (4, (0, 0, 1, []))] : List (Nat × tv_T)), tv_ok ta q.2 (n_v vs q.1) := hk
  obtain ⟨t0, hk⟩ := List.forall_mem_cons.mp hk
  have t0 : tv_ok ta (2, 0, 0, [150]) (n_v vs 0) := t0
  have r0 : ta (v_ad (n_v vs 0)) = some 150 := tv_rg t0
  obtain ⟨t2, hk⟩ := List.forall_mem_cons.mp hk
  have t2 : tv_ok ta (2, 0, 0, [150]) (n_v vs 2) := t2
  have r2 : ta (v_ad (n_v vs 2)) = some 150 := tv_rg t2
  obtain ⟨t4, hk⟩ := List.forall_mem_cons.mp hk
  have t4 : tv_ok ta (0, 0, 1, []) (n_v vs 4) := t4
  have k4 : 0 ≤ v_iv (n_v vs 4) ∧ v_iv (n_v vs 4) ≤ 1 := tv_rng t4
  have hf : fc_ok [(20, [4, 2], [50, 1, 1, 1158, 1160, 4, 6, 1, 2, 1, 0, 0, 1, 1, 6, 3, 1, 160, 2, 1, 158, 0, 1]), (24, [0, 2], [])] ta ws vs := hf
  obtain ⟨f0, hf⟩ := fc_un (show (20 : Nat) < 100 from by decide) hf
  have f0 : (v_iv (n_v vs 4) = 1) → (w_ei ws (w_ar ws (n_v vs 2) 160) (w_fi ws (n_v vs 2) 158) = 1) := f0
  obtain ⟨f1, hf⟩ := fc_un (show (24 : Nat) < 100 from by decide) hf
  have f1 : n_v vs 0 = n_v vs 2 := f1
  have q2 : n_v vs 2 = n_v vs 0 := f1.symm
  rw [q2] at f0
  have cr_0_160 : ta (w_ar ws (n_v vs 0) 160) = some 259 := tv_rg (th_fd hD hth r0 (g := GG_150) rfl (k := 160) (t := (2, 0, 0, [259])) rfl rfl)
  have hK_0_160 : ∀ j : Int, 0 ≤ j → j < 2010 → 0 ≤ w_ei ws (w_ar ws (n_v vs 0) 160) j ∧ w_ei ws (w_ar ws (n_v vs 0) 160) j ≤ 4 := fun j h0 h1 => th_el hD hth cr_0_160 (kd := 0) (n := 2010) (m := 2010) (lo := 0) (hi := 4) (rs := []) (L := []) rfl (by decide) (j := j.toNat) (by omega)
  have kz_0_158 : 0 ≤ w_fi ws (n_v vs 0) 158 ∧ w_fi ws (n_v vs 0) 158 ≤ 2009 := tv_rng (th_fd hD hth r0 (g := GG_150) rfl (k := 158) (t := (0, 0, 2009, [])) rfl rfl)
  have nf0 : fc_1 (20, [4, 0], [50, 1, 1, 1158, 1160, 4, 6, 1, 2, 1, 0, 0, 1, 1, 6, 3, 1, 160, 2, 1, 158, 0, 1]) ws (vs) := by
    refine ⟨fun n hn => ?_, ?_⟩
    · have hn : n ∈ [4, 0] := hn
      rw [hl]
      simp only [List.mem_cons, List.not_mem_nil, or_false] at hn
      show n < 7; omega
    · show (v_iv (n_v vs 4) = 1) → (w_ei ws (w_ar ws (n_v vs 0) 160) (w_fi ws (n_v vs 0) 158) = 1)
      first | omega | grind
  refine ⟨(fun _ h => (by cases h)), [], trivial, ?_, (fun _ h => (by cases h))⟩
  rw [List.append_nil]
  exact List.forall_mem_cons.mpr ⟨⟨show (20 : Nat) < 100 from by decide, nf0⟩, (fun _ h => (by cases h))⟩
def o_Mo_word_at_s5043_5 : or_T := (102, 7, [(0, (2, 0, 0, [150])), (2, (2, 0, 0, [150])), (4, (0, 0, 0, []))], [(8, [4], [0]), (20, [4, 2], [50, 1, 1, 1158, 1160, 4, 6, 1, 2, 1, 0, 0, 1, 1, 6, 3, 1, 160, 2, 1, 158, 0, 1]), (24, [0, 2], [])], [], [], [(20, [4, 0], [50, 1, 1, 1158, 1160, 4, 6, 1, 2, 1, 0, 0, 1, 1, 6, 3, 1, 160, 2, 1, 158, 0, 1])], [], [])
theorem oo_Mo_word_at_s5043_5 {kA : Nat → ClassId} : or_ok kA GG o_Mo_word_at_s5043_5 := by
  intro A ta ws vs hD hth hl hk hds hf
  have hl : vs.length = 7 := hl
  have hk : ∀ q ∈ ([(0, (2, 0, 0, [150])), (2, (2, 0, 0, [150])), (4, (0, 0, 0, []))] : List (Nat × tv_T)), tv_ok ta q.2 (n_v vs q.1) := hk
  obtain ⟨t0, hk⟩ := List.forall_mem_cons.mp hk
  have t0 : tv_ok ta (2, 0, 0, [150]) (n_v vs 0) := t0
  have r0 : ta (v_ad (n_v vs 0)) = some 150 := tv_rg t0
  obtain ⟨t2, hk⟩ := List.forall_mem_cons.mp hk
  have t2 : tv_ok ta (2, 0, 0, [150]) (n_v vs 2) := t2
  have r2 : ta (v_ad (n_v vs 2)) = some 150 := tv_rg t2
  obtain ⟨t4, hk⟩ := List.forall_mem_cons.mp hk
  have t4 : tv_ok ta (0, 0, 0, []) (n_v vs 4) := t4
  have k4 : 0 ≤ v_iv (n_v vs 4) ∧ v_iv (n_v vs 4) ≤ 0 := tv_rng t4
  have hf : fc_ok [(8, [4], [0]), (20, [4, 2], [50, 1, 1, 1158, 1160, 4, 6, 1, 2, 1, 0, 0, 1, 1, 6, 3, 1, 160, 2, 1, 158, 0, 1]), (24, [0, 2], [])] ta ws vs := hf
  obtain ⟨f0, hf⟩ := fc_un (show (8 : Nat) < 100 from by decide) hf
  have f0 : v_iv (n_v vs 4) = 0 := f0
  obtain ⟨f1, hf⟩ := fc_un (show (20 : Nat) < 100 from by decide) hf
  have f1 : (v_iv (n_v vs 4) = 1) → (w_ei ws (w_ar ws (n_v vs 2) 160) (w_fi ws (n_v vs 2) 158) = 1) := f1
  obtain ⟨f2, hf⟩ := fc_un (show (24 : Nat) < 100 from by decide) hf
  have f2 : n_v vs 0 = n_v vs 2 := f2
  have q2 : n_v vs 2 = n_v vs 0 := f2.symm
  rw [q2] at f1
  have cr_0_160 : ta (w_ar ws (n_v vs 0) 160) = some 259 := tv_rg (th_fd hD hth r0 (g := GG_150) rfl (k := 160) (t := (2, 0, 0, [259])) rfl rfl)
  have hK_0_160 : ∀ j : Int, 0 ≤ j → j < 2010 → 0 ≤ w_ei ws (w_ar ws (n_v vs 0) 160) j ∧ w_ei ws (w_ar ws (n_v vs 0) 160) j ≤ 4 := fun j h0 h1 => th_el hD hth cr_0_160 (kd := 0) (n := 2010) (m := 2010) (lo := 0) (hi := 4) (rs := []) (L := []) rfl (by decide) (j := j.toNat) (by omega)
  have kz_0_158 : 0 ≤ w_fi ws (n_v vs 0) 158 ∧ w_fi ws (n_v vs 0) 158 ≤ 2009 := tv_rng (th_fd hD hth r0 (g := GG_150) rfl (k := 158) (t := (0, 0, 2009, [])) rfl rfl)
  have nf0 : fc_1 (20, [4, 0], [50, 1, 1, 1158, 1160, 4, 6, 1, 2, 1, 0, 0, 1, 1, 6, 3, 1, 160, 2, 1, 158, 0, 1]) ws (vs) := by
    refine ⟨fun n hn => ?_, ?_⟩
    · have hn : n ∈ [4, 0] := hn
      rw [hl]
      simp only [List.mem_cons, List.not_mem_nil, or_false] at hn
      show n < 7; omega
    · show (v_iv (n_v vs 4) = 1) → (w_ei ws (w_ar ws (n_v vs 0) 160) (w_fi ws (n_v vs 0) 158) = 1)
      first | omega | grind
  refine ⟨(fun _ h => (by cases h)), [], trivial, ?_, (fun _ h => (by cases h))⟩
  rw [List.append_nil]
  exact List.forall_mem_cons.mpr ⟨⟨show (20 : Nat) < 100 from by decide, nf0⟩, (fun _ h => (by cases h))⟩
def o_Mo_word_at_s5043_6 : or_T := (54, 15, [(0, (2, 0, 0, [150])), (2, (2, 0, 0, [150])), (4, (0, 1, 1, [])), (5, (0, 0, 4, [])), (6, (0, 5, 5, [])), (7, (2, 0, 0, [261])), (8, (0, 0, 2009, [])), (9, (0, 0, 2000, [])), (10, (0, 0, 2004, [])), (11, (0, -1, -1, [])), (12, (0, 0, 65535, [])), (13, (0, 0, 0, [])), (14, (0, 1, 5, []))], [(6, [14, 5], [1]), (7, [11, 12], [1]), (20, [10, 2, 11], [50, 1, 1, 1010, 1001, 4, 11, 0, 6, 4, 2, 1, 0, 0, 1, 2, 1, 10, 1, 2, 1, 2, 9, 5, 3, 1, 1, 1, 0, 0, 256]), (20, [2, 10, 11], [50, 1, 0, 10, 4, 7, 0, 3, 2, 0, 10, 1, 1, 1, 2, 1, 2, 0, -1]), (1, [10, 9, 5], []), (10, [9, 7, 8], []), (9, [8, 2], [158]), (9, [7, 2], [162]), (8, [4], [1]), (7, [5, 6], [2]), (20, [4, 2], [50, 1, 1, 1158, 1160, 4, 6, 1, 2, 1, 0, 0, 1, 1, 6, 3, 1, 160, 2, 1, 158, 0, 1]), (24, [0, 2], [])], [], [], [(20, [13, 2], [50, 1, 1, 1158, 1160, 4, 6, 1, 2, 1, 0, 0, 1, 1, 6, 3, 1, 160, 2, 1, 158, 0, 1])], [], [(14, 5, 1, 1), (10, 5, 0, 2000), (10, 9, 0, 4), (4, 5, -4294967296, 1)])
theorem oo_Mo_word_at_s5043_6 {kA : Nat → ClassId} : or_ok kA GG o_Mo_word_at_s5043_6 := by
  intro A ta ws vs hD hth hl hk hds hf
  have hl : vs.length = 15 := hl
  have hk : ∀ q ∈ ([(0, (2, 0, 0, [150])), (2, (2, 0, 0, [150])), (4, (0, 1, 1, [])), (5, (0, 0, 4, [])), (6, (0, 5, 5, [])), (7, (2, 0, 0, [261])), (8, (0, 0, 2009, [])), (9, (0, 0, 2000, [])), (10, (0, 0, 2004, [])), (11, (0, -1, -1, [])), (12, (0, 0, 65535, [])), (13, (0, 0, 0, [])), (14, (0, 1, 5, []))] : List (Nat × tv_T)), tv_ok ta q.2 (n_v vs q.1) := hk
  obtain ⟨t0, hk⟩ := List.forall_mem_cons.mp hk
  have t0 : tv_ok ta (2, 0, 0, [150]) (n_v vs 0) := t0
  have r0 : ta (v_ad (n_v vs 0)) = some 150 := tv_rg t0
  obtain ⟨t2, hk⟩ := List.forall_mem_cons.mp hk
  have t2 : tv_ok ta (2, 0, 0, [150]) (n_v vs 2) := t2
  have r2 : ta (v_ad (n_v vs 2)) = some 150 := tv_rg t2
  obtain ⟨t4, hk⟩ := List.forall_mem_cons.mp hk
  have t4 : tv_ok ta (0, 1, 1, []) (n_v vs 4) := t4
  have k4 : 1 ≤ v_iv (n_v vs 4) ∧ v_iv (n_v vs 4) ≤ 1 := tv_rng t4
  obtain ⟨t5, hk⟩ := List.forall_mem_cons.mp hk
  have t5 : tv_ok ta (0, 0, 4, []) (n_v vs 5) := t5
  have k5 : 0 ≤ v_iv (n_v vs 5) ∧ v_iv (n_v vs 5) ≤ 4 := tv_rng t5
  obtain ⟨t6, hk⟩ := List.forall_mem_cons.mp hk
  have t6 : tv_ok ta (0, 5, 5, []) (n_v vs 6) := t6
  have k6 : 5 ≤ v_iv (n_v vs 6) ∧ v_iv (n_v vs 6) ≤ 5 := tv_rng t6
  obtain ⟨t7, hk⟩ := List.forall_mem_cons.mp hk
  have t7 : tv_ok ta (2, 0, 0, [261]) (n_v vs 7) := t7
  have r7 : ta (v_ad (n_v vs 7)) = some 261 := tv_rg t7
  obtain ⟨t8, hk⟩ := List.forall_mem_cons.mp hk
  have t8 : tv_ok ta (0, 0, 2009, []) (n_v vs 8) := t8
  have k8 : 0 ≤ v_iv (n_v vs 8) ∧ v_iv (n_v vs 8) ≤ 2009 := tv_rng t8
  obtain ⟨t9, hk⟩ := List.forall_mem_cons.mp hk
  have t9 : tv_ok ta (0, 0, 2000, []) (n_v vs 9) := t9
  have k9 : 0 ≤ v_iv (n_v vs 9) ∧ v_iv (n_v vs 9) ≤ 2000 := tv_rng t9
  obtain ⟨t10, hk⟩ := List.forall_mem_cons.mp hk
  have t10 : tv_ok ta (0, 0, 2004, []) (n_v vs 10) := t10
  have k10 : 0 ≤ v_iv (n_v vs 10) ∧ v_iv (n_v vs 10) ≤ 2004 := tv_rng t10
  obtain ⟨t11, hk⟩ := List.forall_mem_cons.mp hk
  have t11 : tv_ok ta (0, -1, -1, []) (n_v vs 11) := t11
  have k11 : (-1) ≤ v_iv (n_v vs 11) ∧ v_iv (n_v vs 11) ≤ (-1) := tv_rng t11
  obtain ⟨t12, hk⟩ := List.forall_mem_cons.mp hk
  have t12 : tv_ok ta (0, 0, 65535, []) (n_v vs 12) := t12
  have k12 : 0 ≤ v_iv (n_v vs 12) ∧ v_iv (n_v vs 12) ≤ 65535 := tv_rng t12
  obtain ⟨t13, hk⟩ := List.forall_mem_cons.mp hk
  have t13 : tv_ok ta (0, 0, 0, []) (n_v vs 13) := t13
  have k13 : 0 ≤ v_iv (n_v vs 13) ∧ v_iv (n_v vs 13) ≤ 0 := tv_rng t13
  obtain ⟨t14, hk⟩ := List.forall_mem_cons.mp hk
  have t14 : tv_ok ta (0, 1, 5, []) (n_v vs 14) := t14
  have k14 : 1 ≤ v_iv (n_v vs 14) ∧ v_iv (n_v vs 14) ≤ 5 := tv_rng t14
  have hds : ∀ q ∈ ([(14, 5, 1, 1), (10, 5, 0, 2000), (10, 9, 0, 4), (4, 5, -4294967296, 1)] : List of_T), n_iv vs q.2.1 + q.2.2.1 ≤ n_iv vs q.1 ∧ n_iv vs q.1 ≤ n_iv vs q.2.1 + q.2.2.2 := hds
  obtain ⟨d0, hds⟩ := List.forall_mem_cons.mp hds
  have d0 : v_iv (n_v vs 5) + 1 ≤ v_iv (n_v vs 14) ∧ v_iv (n_v vs 14) ≤ v_iv (n_v vs 5) + 1 := d0
  obtain ⟨d1, hds⟩ := List.forall_mem_cons.mp hds
  have d1 : v_iv (n_v vs 5) + 0 ≤ v_iv (n_v vs 10) ∧ v_iv (n_v vs 10) ≤ v_iv (n_v vs 5) + 2000 := d1
  obtain ⟨d2, hds⟩ := List.forall_mem_cons.mp hds
  have d2 : v_iv (n_v vs 9) + 0 ≤ v_iv (n_v vs 10) ∧ v_iv (n_v vs 10) ≤ v_iv (n_v vs 9) + 4 := d2
  obtain ⟨d3, hds⟩ := List.forall_mem_cons.mp hds
  have d3 : v_iv (n_v vs 5) + (-4294967296) ≤ v_iv (n_v vs 4) ∧ v_iv (n_v vs 4) ≤ v_iv (n_v vs 5) + 1 := d3
  have hf : fc_ok [(6, [14, 5], [1]), (7, [11, 12], [1]), (20, [10, 2, 11], [50, 1, 1, 1010, 1001, 4, 11, 0, 6, 4, 2, 1, 0, 0, 1, 2, 1, 10, 1, 2, 1, 2, 9, 5, 3, 1, 1, 1, 0, 0, 256]), (20, [2, 10, 11], [50, 1, 0, 10, 4, 7, 0, 3, 2, 0, 10, 1, 1, 1, 2, 1, 2, 0, -1]), (1, [10, 9, 5], []), (10, [9, 7, 8], []), (9, [8, 2], [158]), (9, [7, 2], [162]), (8, [4], [1]), (7, [5, 6], [2]), (20, [4, 2], [50, 1, 1, 1158, 1160, 4, 6, 1, 2, 1, 0, 0, 1, 1, 6, 3, 1, 160, 2, 1, 158, 0, 1]), (24, [0, 2], [])] ta ws vs := hf
  obtain ⟨f0, hf⟩ := fc_un (show (6 : Nat) < 100 from by decide) hf
  have f0 : v_iv (n_v vs 14) = v_iv (n_v vs 5) + 1 := f0
  obtain ⟨f1, hf⟩ := fc_un (show (7 : Nat) < 100 from by decide) hf
  have f1 : v_iv (n_v vs 11) ≠ v_iv (n_v vs 12) := f1
  obtain ⟨f2, hf⟩ := fc_un (show (20 : Nat) < 100 from by decide) hf
  have f2 : ((v_iv (n_v vs 10) + 1) ≤ w_fi ws (n_v vs 2) 10) → (v_iv (n_v vs 11) = (w_ei ws (w_ar ws (n_v vs 2) 1) (v_iv (n_v vs 10)) % 256)) := f2
  obtain ⟨f3, hf⟩ := fc_un (show (20 : Nat) < 100 from by decide) hf
  have f3 : (w_fi ws (n_v vs 2) 10 ≤ v_iv (n_v vs 10)) → (v_iv (n_v vs 11) = (-1)) := f3
  obtain ⟨f4, hf⟩ := fc_un (show (1 : Nat) < 100 from by decide) hf
  have f4 : v_iv (n_v vs 10) = v_iv (n_v vs 9) + v_iv (n_v vs 5) := f4
  obtain ⟨f5, hf⟩ := fc_un (show (10 : Nat) < 100 from by decide) hf
  have f5 : v_iv (n_v vs 9) = w_el ws (v_ad (n_v vs 7)) (v_iv (n_v vs 8)).toNat := f5
  obtain ⟨f6, hf⟩ := fc_un (show (9 : Nat) < 100 from by decide) hf
  have f6 : n_v vs 8 = w_fd ws (v_ad (n_v vs 2)) 158 := f6
  obtain ⟨f7, hf⟩ := fc_un (show (9 : Nat) < 100 from by decide) hf
  have f7 : n_v vs 7 = w_fd ws (v_ad (n_v vs 2)) 162 := f7
  obtain ⟨f8, hf⟩ := fc_un (show (8 : Nat) < 100 from by decide) hf
  have f8 : v_iv (n_v vs 4) ≠ 0 := f8
  obtain ⟨f9, hf⟩ := fc_un (show (7 : Nat) < 100 from by decide) hf
  have f9 : v_iv (n_v vs 5) < v_iv (n_v vs 6) := f9
  obtain ⟨f10, hf⟩ := fc_un (show (20 : Nat) < 100 from by decide) hf
  have f10 : (v_iv (n_v vs 4) = 1) → (w_ei ws (w_ar ws (n_v vs 2) 160) (w_fi ws (n_v vs 2) 158) = 1) := f10
  obtain ⟨f11, hf⟩ := fc_un (show (24 : Nat) < 100 from by decide) hf
  have f11 : n_v vs 0 = n_v vs 2 := f11
  have q2 : n_v vs 2 = n_v vs 0 := f11.symm
  rw [q2] at f2
  rw [q2] at f3
  rw [q2] at f6
  rw [q2] at f7
  rw [q2] at f10
  have cr_0_1 : ta (w_ar ws (n_v vs 0) 1) = some 151 := tv_rg (th_fd hD hth r0 (g := GG_150) rfl (k := 1) (t := (2, 0, 0, [151])) rfl rfl)
  have cr_0_160 : ta (w_ar ws (n_v vs 0) 160) = some 259 := tv_rg (th_fd hD hth r0 (g := GG_150) rfl (k := 160) (t := (2, 0, 0, [259])) rfl rfl)
  have cr_0_162 : ta (w_ar ws (n_v vs 0) 162) = some 261 := tv_rg (th_fd hD hth r0 (g := GG_150) rfl (k := 162) (t := (2, 0, 0, [261])) rfl rfl)
  have ad_7 : v_ad (n_v vs 7) = w_ar ws (n_v vs 0) 162 := congrArg v_ad f7
  rw [ad_7] at f5
  have g6 : v_iv (n_v vs 8) = w_fi ws (n_v vs 0) 158 := congrArg v_iv f6
  have hK_0_1 : ∀ j : Int, 0 ≤ j → j < 2000 → (-128) ≤ w_ei ws (w_ar ws (n_v vs 0) 1) j ∧ w_ei ws (w_ar ws (n_v vs 0) 1) j ≤ 127 := fun j h0 h1 => th_el hD hth cr_0_1 (kd := 1) (n := 2000) (m := 2000) (lo := (-128)) (hi := 127) (rs := []) (L := []) rfl (by decide) (j := j.toNat) (by omega)
  have hK_0_160 : ∀ j : Int, 0 ≤ j → j < 2010 → 0 ≤ w_ei ws (w_ar ws (n_v vs 0) 160) j ∧ w_ei ws (w_ar ws (n_v vs 0) 160) j ≤ 4 := fun j h0 h1 => th_el hD hth cr_0_160 (kd := 0) (n := 2010) (m := 2010) (lo := 0) (hi := 4) (rs := []) (L := []) rfl (by decide) (j := j.toNat) (by omega)
  have kz_0_10 : 0 ≤ w_fi ws (n_v vs 0) 10 ∧ w_fi ws (n_v vs 0) 10 ≤ 2000 := tv_rng (th_fd hD hth r0 (g := GG_150) rfl (k := 10) (t := (0, 0, 2000, [])) rfl rfl)
  have kz_0_158 : 0 ≤ w_fi ws (n_v vs 0) 158 ∧ w_fi ws (n_v vs 0) 158 ≤ 2009 := tv_rng (th_fd hD hth r0 (g := GG_150) rfl (k := 158) (t := (0, 0, 2009, [])) rfl rfl)
  have nf0 : fc_1 (20, [13, 2], [50, 1, 1, 1158, 1160, 4, 6, 1, 2, 1, 0, 0, 1, 1, 6, 3, 1, 160, 2, 1, 158, 0, 1]) ws (vs) := by
    refine ⟨fun n hn => ?_, ?_⟩
    · have hn : n ∈ [13, 2] := hn
      rw [hl]
      simp only [List.mem_cons, List.not_mem_nil, or_false] at hn
      show n < 15; omega
    · show (v_iv (n_v vs 13) = 1) → (w_ei ws (w_ar ws (n_v vs 2) 160) (w_fi ws (n_v vs 2) 158) = 1)
      rw [q2]
      first | omega | grind
  refine ⟨(fun _ h => (by cases h)), [], trivial, ?_, (fun _ h => (by cases h))⟩
  rw [List.append_nil]
  exact List.forall_mem_cons.mpr ⟨⟨show (20 : Nat) < 100 from by decide, nf0⟩, (fun _ h => (by cases h))⟩
def o_Mo_word_at_s5043_7 : or_T := (54, 15, [(0, (2, 0, 0, [150])), (2, (2, 0, 0, [150])), (4, (0, 1, 1, [])), (5, (0, 0, 4, [])), (6, (0, 5, 5, [])), (7, (2, 0, 0, [261])), (8, (0, 0, 2009, [])), (9, (0, 0, 1999, [])), (10, (0, 0, 1999, [])), (11, (0, 0, 255, [])), (12, (0, 0, 65535, [])), (13, (0, 0, 0, [])), (14, (0, 1, 5, []))], [(6, [14, 5], [1]), (7, [11, 12], [1]), (20, [10, 2, 11], [50, 1, 1, 1010, 1001, 4, 11, 0, 6, 4, 2, 1, 0, 0, 1, 2, 1, 10, 1, 2, 1, 2, 9, 5, 3, 1, 1, 1, 0, 0, 256]), (20, [2, 10, 11], [50, 1, 0, 10, 4, 7, 0, 3, 2, 0, 10, 1, 1, 1, 2, 1, 2, 0, -1]), (1, [10, 9, 5], []), (10, [9, 7, 8], []), (9, [8, 2], [158]), (9, [7, 2], [162]), (8, [4], [1]), (7, [5, 6], [2]), (20, [4, 2], [50, 1, 1, 1158, 1160, 4, 6, 1, 2, 1, 0, 0, 1, 1, 6, 3, 1, 160, 2, 1, 158, 0, 1]), (24, [0, 2], [])], [], [], [(20, [13, 2], [50, 1, 1, 1158, 1160, 4, 6, 1, 2, 1, 0, 0, 1, 1, 6, 3, 1, 160, 2, 1, 158, 0, 1])], [], [(14, 5, 1, 1), (10, 5, 0, 2000), (10, 9, 0, 4), (4, 5, -4294967296, 1)])
theorem oo_Mo_word_at_s5043_7 {kA : Nat → ClassId} : or_ok kA GG o_Mo_word_at_s5043_7 := by
  intro A ta ws vs hD hth hl hk hds hf
  have hl : vs.length = 15 := hl
  have hk : ∀ q ∈ ([(0, (2, 0, 0, [150])), (2, (2, 0, 0, [150])), (4, (0, 1, 1, [])), (5, (0, 0, 4, [])), (6, (0, 5, 5, [])), (7, (2, 0, 0, [261])), (8, (0, 0, 2009, [])), (9, (0, 0, 1999, [])), (10, (0, 0, 1999, [])), (11, (0, 0, 255, [])), (12, (0, 0, 65535, [])), (13, (0, 0, 0, [])), (14, (0, 1, 5, []))] : List (Nat × tv_T)), tv_ok ta q.2 (n_v vs q.1) := hk
  obtain ⟨t0, hk⟩ := List.forall_mem_cons.mp hk
  have t0 : tv_ok ta (2, 0, 0, [150]) (n_v vs 0) := t0
  have r0 : ta (v_ad (n_v vs 0)) = some 150 := tv_rg t0
  obtain ⟨t2, hk⟩ := List.forall_mem_cons.mp hk
  have t2 : tv_ok ta (2, 0, 0, [150]) (n_v vs 2) := t2
  have r2 : ta (v_ad (n_v vs 2)) = some 150 := tv_rg t2
  obtain ⟨t4, hk⟩ := List.forall_mem_cons.mp hk
  have t4 : tv_ok ta (0, 1, 1, []) (n_v vs 4) := t4
  have k4 : 1 ≤ v_iv (n_v vs 4) ∧ v_iv (n_v vs 4) ≤ 1 := tv_rng t4
  obtain ⟨t5, hk⟩ := List.forall_mem_cons.mp hk
  have t5 : tv_ok ta (0, 0, 4, []) (n_v vs 5) := t5
  have k5 : 0 ≤ v_iv (n_v vs 5) ∧ v_iv (n_v vs 5) ≤ 4 := tv_rng t5
  obtain ⟨t6, hk⟩ := List.forall_mem_cons.mp hk
  have t6 : tv_ok ta (0, 5, 5, []) (n_v vs 6) := t6
  have k6 : 5 ≤ v_iv (n_v vs 6) ∧ v_iv (n_v vs 6) ≤ 5 := tv_rng t6
  obtain ⟨t7, hk⟩ := List.forall_mem_cons.mp hk
  have t7 : tv_ok ta (2, 0, 0, [261]) (n_v vs 7) := t7
  have r7 : ta (v_ad (n_v vs 7)) = some 261 := tv_rg t7
  obtain ⟨t8, hk⟩ := List.forall_mem_cons.mp hk
  have t8 : tv_ok ta (0, 0, 2009, []) (n_v vs 8) := t8
  have k8 : 0 ≤ v_iv (n_v vs 8) ∧ v_iv (n_v vs 8) ≤ 2009 := tv_rng t8
  obtain ⟨t9, hk⟩ := List.forall_mem_cons.mp hk
  have t9 : tv_ok ta (0, 0, 1999, []) (n_v vs 9) := t9
  have k9 : 0 ≤ v_iv (n_v vs 9) ∧ v_iv (n_v vs 9) ≤ 1999 := tv_rng t9
  obtain ⟨t10, hk⟩ := List.forall_mem_cons.mp hk
  have t10 : tv_ok ta (0, 0, 1999, []) (n_v vs 10) := t10
  have k10 : 0 ≤ v_iv (n_v vs 10) ∧ v_iv (n_v vs 10) ≤ 1999 := tv_rng t10
  obtain ⟨t11, hk⟩ := List.forall_mem_cons.mp hk
  have t11 : tv_ok ta (0, 0, 255, []) (n_v vs 11) := t11
  have k11 : 0 ≤ v_iv (n_v vs 11) ∧ v_iv (n_v vs 11) ≤ 255 := tv_rng t11
  obtain ⟨t12, hk⟩ := List.forall_mem_cons.mp hk
  have t12 : tv_ok ta (0, 0, 65535, []) (n_v vs 12) := t12
  have k12 : 0 ≤ v_iv (n_v vs 12) ∧ v_iv (n_v vs 12) ≤ 65535 := tv_rng t12
  obtain ⟨t13, hk⟩ := List.forall_mem_cons.mp hk
  have t13 : tv_ok ta (0, 0, 0, []) (n_v vs 13) := t13
  have k13 : 0 ≤ v_iv (n_v vs 13) ∧ v_iv (n_v vs 13) ≤ 0 := tv_rng t13
  obtain ⟨t14, hk⟩ := List.forall_mem_cons.mp hk
  have t14 : tv_ok ta (0, 1, 5, []) (n_v vs 14) := t14
  have k14 : 1 ≤ v_iv (n_v vs 14) ∧ v_iv (n_v vs 14) ≤ 5 := tv_rng t14
  have hds : ∀ q ∈ ([(14, 5, 1, 1), (10, 5, 0, 2000), (10, 9, 0, 4), (4, 5, -4294967296, 1)] : List of_T), n_iv vs q.2.1 + q.2.2.1 ≤ n_iv vs q.1 ∧ n_iv vs q.1 ≤ n_iv vs q.2.1 + q.2.2.2 := hds
  obtain ⟨d0, hds⟩ := List.forall_mem_cons.mp hds
  have d0 : v_iv (n_v vs 5) + 1 ≤ v_iv (n_v vs 14) ∧ v_iv (n_v vs 14) ≤ v_iv (n_v vs 5) + 1 := d0
  obtain ⟨d1, hds⟩ := List.forall_mem_cons.mp hds
  have d1 : v_iv (n_v vs 5) + 0 ≤ v_iv (n_v vs 10) ∧ v_iv (n_v vs 10) ≤ v_iv (n_v vs 5) + 2000 := d1
  obtain ⟨d2, hds⟩ := List.forall_mem_cons.mp hds
  have d2 : v_iv (n_v vs 9) + 0 ≤ v_iv (n_v vs 10) ∧ v_iv (n_v vs 10) ≤ v_iv (n_v vs 9) + 4 := d2
  obtain ⟨d3, hds⟩ := List.forall_mem_cons.mp hds
  have d3 : v_iv (n_v vs 5) + (-4294967296) ≤ v_iv (n_v vs 4) ∧ v_iv (n_v vs 4) ≤ v_iv (n_v vs 5) + 1 := d3
  have hf : fc_ok [(6, [14, 5], [1]), (7, [11, 12], [1]), (20, [10, 2, 11], [50, 1, 1, 1010, 1001, 4, 11, 0, 6, 4, 2, 1, 0, 0, 1, 2, 1, 10, 1, 2, 1, 2, 9, 5, 3, 1, 1, 1, 0, 0, 256]), (20, [2, 10, 11], [50, 1, 0, 10, 4, 7, 0, 3, 2, 0, 10, 1, 1, 1, 2, 1, 2, 0, -1]), (1, [10, 9, 5], []), (10, [9, 7, 8], []), (9, [8, 2], [158]), (9, [7, 2], [162]), (8, [4], [1]), (7, [5, 6], [2]), (20, [4, 2], [50, 1, 1, 1158, 1160, 4, 6, 1, 2, 1, 0, 0, 1, 1, 6, 3, 1, 160, 2, 1, 158, 0, 1]), (24, [0, 2], [])] ta ws vs := hf
  obtain ⟨f0, hf⟩ := fc_un (show (6 : Nat) < 100 from by decide) hf
  have f0 : v_iv (n_v vs 14) = v_iv (n_v vs 5) + 1 := f0
  obtain ⟨f1, hf⟩ := fc_un (show (7 : Nat) < 100 from by decide) hf
  have f1 : v_iv (n_v vs 11) ≠ v_iv (n_v vs 12) := f1
  obtain ⟨f2, hf⟩ := fc_un (show (20 : Nat) < 100 from by decide) hf
  have f2 : ((v_iv (n_v vs 10) + 1) ≤ w_fi ws (n_v vs 2) 10) → (v_iv (n_v vs 11) = (w_ei ws (w_ar ws (n_v vs 2) 1) (v_iv (n_v vs 10)) % 256)) := f2
  obtain ⟨f3, hf⟩ := fc_un (show (20 : Nat) < 100 from by decide) hf
  have f3 : (w_fi ws (n_v vs 2) 10 ≤ v_iv (n_v vs 10)) → (v_iv (n_v vs 11) = (-1)) := f3
  obtain ⟨f4, hf⟩ := fc_un (show (1 : Nat) < 100 from by decide) hf
  have f4 : v_iv (n_v vs 10) = v_iv (n_v vs 9) + v_iv (n_v vs 5) := f4
  obtain ⟨f5, hf⟩ := fc_un (show (10 : Nat) < 100 from by decide) hf
  have f5 : v_iv (n_v vs 9) = w_el ws (v_ad (n_v vs 7)) (v_iv (n_v vs 8)).toNat := f5
  obtain ⟨f6, hf⟩ := fc_un (show (9 : Nat) < 100 from by decide) hf
  have f6 : n_v vs 8 = w_fd ws (v_ad (n_v vs 2)) 158 := f6
  obtain ⟨f7, hf⟩ := fc_un (show (9 : Nat) < 100 from by decide) hf
  have f7 : n_v vs 7 = w_fd ws (v_ad (n_v vs 2)) 162 := f7
  obtain ⟨f8, hf⟩ := fc_un (show (8 : Nat) < 100 from by decide) hf
  have f8 : v_iv (n_v vs 4) ≠ 0 := f8
  obtain ⟨f9, hf⟩ := fc_un (show (7 : Nat) < 100 from by decide) hf
  have f9 : v_iv (n_v vs 5) < v_iv (n_v vs 6) := f9
  obtain ⟨f10, hf⟩ := fc_un (show (20 : Nat) < 100 from by decide) hf
  have f10 : (v_iv (n_v vs 4) = 1) → (w_ei ws (w_ar ws (n_v vs 2) 160) (w_fi ws (n_v vs 2) 158) = 1) := f10
  obtain ⟨f11, hf⟩ := fc_un (show (24 : Nat) < 100 from by decide) hf
  have f11 : n_v vs 0 = n_v vs 2 := f11
  have q2 : n_v vs 2 = n_v vs 0 := f11.symm
  rw [q2] at f2
  rw [q2] at f3
  rw [q2] at f6
  rw [q2] at f7
  rw [q2] at f10
  have cr_0_1 : ta (w_ar ws (n_v vs 0) 1) = some 151 := tv_rg (th_fd hD hth r0 (g := GG_150) rfl (k := 1) (t := (2, 0, 0, [151])) rfl rfl)
  have cr_0_160 : ta (w_ar ws (n_v vs 0) 160) = some 259 := tv_rg (th_fd hD hth r0 (g := GG_150) rfl (k := 160) (t := (2, 0, 0, [259])) rfl rfl)
  have cr_0_162 : ta (w_ar ws (n_v vs 0) 162) = some 261 := tv_rg (th_fd hD hth r0 (g := GG_150) rfl (k := 162) (t := (2, 0, 0, [261])) rfl rfl)
  have ad_7 : v_ad (n_v vs 7) = w_ar ws (n_v vs 0) 162 := congrArg v_ad f7
  rw [ad_7] at f5
  have g6 : v_iv (n_v vs 8) = w_fi ws (n_v vs 0) 158 := congrArg v_iv f6
  have hK_0_1 : ∀ j : Int, 0 ≤ j → j < 2000 → (-128) ≤ w_ei ws (w_ar ws (n_v vs 0) 1) j ∧ w_ei ws (w_ar ws (n_v vs 0) 1) j ≤ 127 := fun j h0 h1 => th_el hD hth cr_0_1 (kd := 1) (n := 2000) (m := 2000) (lo := (-128)) (hi := 127) (rs := []) (L := []) rfl (by decide) (j := j.toNat) (by omega)
  have hK_0_160 : ∀ j : Int, 0 ≤ j → j < 2010 → 0 ≤ w_ei ws (w_ar ws (n_v vs 0) 160) j ∧ w_ei ws (w_ar ws (n_v vs 0) 160) j ≤ 4 := fun j h0 h1 => th_el hD hth cr_0_160 (kd := 0) (n := 2010) (m := 2010) (lo := 0) (hi := 4) (rs := []) (L := []) rfl (by decide) (j := j.toNat) (by omega)
  have kz_0_10 : 0 ≤ w_fi ws (n_v vs 0) 10 ∧ w_fi ws (n_v vs 0) 10 ≤ 2000 := tv_rng (th_fd hD hth r0 (g := GG_150) rfl (k := 10) (t := (0, 0, 2000, [])) rfl rfl)
  have kz_0_158 : 0 ≤ w_fi ws (n_v vs 0) 158 ∧ w_fi ws (n_v vs 0) 158 ≤ 2009 := tv_rng (th_fd hD hth r0 (g := GG_150) rfl (k := 158) (t := (0, 0, 2009, [])) rfl rfl)
  have nf0 : fc_1 (20, [13, 2], [50, 1, 1, 1158, 1160, 4, 6, 1, 2, 1, 0, 0, 1, 1, 6, 3, 1, 160, 2, 1, 158, 0, 1]) ws (vs) := by
    refine ⟨fun n hn => ?_, ?_⟩
    · have hn : n ∈ [13, 2] := hn
      rw [hl]
      simp only [List.mem_cons, List.not_mem_nil, or_false] at hn
      show n < 15; omega
    · show (v_iv (n_v vs 13) = 1) → (w_ei ws (w_ar ws (n_v vs 2) 160) (w_fi ws (n_v vs 2) 158) = 1)
      rw [q2]
      first | omega | grind
  refine ⟨(fun _ h => (by cases h)), [], trivial, ?_, (fun _ h => (by cases h))⟩
  rw [List.append_nil]
  exact List.forall_mem_cons.mpr ⟨⟨show (20 : Nat) < 100 from by decide, nf0⟩, (fun _ h => (by cases h))⟩
def o_Mo_word_at_s5043_8 : or_T := (54, 15, [(0, (2, 0, 0, [150])), (2, (2, 0, 0, [150])), (4, (0, 1, 1, [])), (5, (0, 0, 4, [])), (6, (0, 5, 5, [])), (7, (2, 0, 0, [261])), (8, (0, 0, 2009, [])), (9, (0, 0, 1999, [])), (10, (0, 0, 1999, [])), (11, (0, 0, 255, [])), (12, (0, 0, 255, [])), (13, (0, 1, 1, [])), (14, (0, 1, 5, []))], [(6, [14, 5], [1]), (7, [11, 12], [0]), (20, [10, 2, 11], [50, 1, 1, 1010, 1001, 4, 11, 0, 6, 4, 2, 1, 0, 0, 1, 2, 1, 10, 1, 2, 1, 2, 9, 5, 3, 1, 1, 1, 0, 0, 256]), (20, [2, 10, 11], [50, 1, 0, 10, 4, 7, 0, 3, 2, 0, 10, 1, 1, 1, 2, 1, 2, 0, -1]), (1, [10, 9, 5], []), (10, [9, 7, 8], []), (9, [8, 2], [158]), (9, [7, 2], [162]), (8, [4], [1]), (7, [5, 6], [2]), (20, [4, 2], [50, 1, 1, 1158, 1160, 4, 6, 1, 2, 1, 0, 0, 1, 1, 6, 3, 1, 160, 2, 1, 158, 0, 1]), (24, [0, 2], [])], [], [], [(20, [13, 2], [50, 1, 1, 1158, 1160, 4, 6, 1, 2, 1, 0, 0, 1, 1, 6, 3, 1, 160, 2, 1, 158, 0, 1])], [], [(14, 5, 1, 1), (11, 12, 0, 0), (10, 5, 0, 2000), (10, 9, 0, 4), (4, 5, -4294967296, 1)])
theorem oo_Mo_word_at_s5043_8 {kA : Nat → ClassId} : or_ok kA GG o_Mo_word_at_s5043_8 := by
  intro A ta ws vs hD hth hl hk hds hf
  have hl : vs.length = 15 := hl
  have hk : ∀ q ∈ ([(0, (2, 0, 0, [150])), (2, (2, 0, 0, [150])), (4, (0, 1, 1, [])), (5, (0, 0, 4, [])), (6, (0, 5, 5, [])), (7, (2, 0, 0, [261])), (8, (0, 0, 2009, [])), (9, (0, 0, 1999, [])), (10, (0, 0, 1999, [])), (11, (0, 0, 255, [])), (12, (0, 0, 255, [])), (13, (0, 1, 1, [])), (14, (0, 1, 5, []))] : List (Nat × tv_T)), tv_ok ta q.2 (n_v vs q.1) := hk
  obtain ⟨t0, hk⟩ := List.forall_mem_cons.mp hk
  have t0 : tv_ok ta (2, 0, 0, [150]) (n_v vs 0) := t0
  have r0 : ta (v_ad (n_v vs 0)) = some 150 := tv_rg t0
  obtain ⟨t2, hk⟩ := List.forall_mem_cons.mp hk
  have t2 : tv_ok ta (2, 0, 0, [150]) (n_v vs 2) := t2
  have r2 : ta (v_ad (n_v vs 2)) = some 150 := tv_rg t2
  obtain ⟨t4, hk⟩ := List.forall_mem_cons.mp hk
  have t4 : tv_ok ta (0, 1, 1, []) (n_v vs 4) := t4
  have k4 : 1 ≤ v_iv (n_v vs 4) ∧ v_iv (n_v vs 4) ≤ 1 := tv_rng t4
  obtain ⟨t5, hk⟩ := List.forall_mem_cons.mp hk
  have t5 : tv_ok ta (0, 0, 4, []) (n_v vs 5) := t5
  have k5 : 0 ≤ v_iv (n_v vs 5) ∧ v_iv (n_v vs 5) ≤ 4 := tv_rng t5
  obtain ⟨t6, hk⟩ := List.forall_mem_cons.mp hk
  have t6 : tv_ok ta (0, 5, 5, []) (n_v vs 6) := t6
  have k6 : 5 ≤ v_iv (n_v vs 6) ∧ v_iv (n_v vs 6) ≤ 5 := tv_rng t6
  obtain ⟨t7, hk⟩ := List.forall_mem_cons.mp hk
  have t7 : tv_ok ta (2, 0, 0, [261]) (n_v vs 7) := t7
  have r7 : ta (v_ad (n_v vs 7)) = some 261 := tv_rg t7
  obtain ⟨t8, hk⟩ := List.forall_mem_cons.mp hk
  have t8 : tv_ok ta (0, 0, 2009, []) (n_v vs 8) := t8
  have k8 : 0 ≤ v_iv (n_v vs 8) ∧ v_iv (n_v vs 8) ≤ 2009 := tv_rng t8
  obtain ⟨t9, hk⟩ := List.forall_mem_cons.mp hk
  have t9 : tv_ok ta (0, 0, 1999, []) (n_v vs 9) := t9
  have k9 : 0 ≤ v_iv (n_v vs 9) ∧ v_iv (n_v vs 9) ≤ 1999 := tv_rng t9
  obtain ⟨t10, hk⟩ := List.forall_mem_cons.mp hk
  have t10 : tv_ok ta (0, 0, 1999, []) (n_v vs 10) := t10
  have k10 : 0 ≤ v_iv (n_v vs 10) ∧ v_iv (n_v vs 10) ≤ 1999 := tv_rng t10
  obtain ⟨t11, hk⟩ := List.forall_mem_cons.mp hk
  have t11 : tv_ok ta (0, 0, 255, []) (n_v vs 11) := t11
  have k11 : 0 ≤ v_iv (n_v vs 11) ∧ v_iv (n_v vs 11) ≤ 255 := tv_rng t11
  obtain ⟨t12, hk⟩ := List.forall_mem_cons.mp hk
  have t12 : tv_ok ta (0, 0, 255, []) (n_v vs 12) := t12
  have k12 : 0 ≤ v_iv (n_v vs 12) ∧ v_iv (n_v vs 12) ≤ 255 := tv_rng t12
  obtain ⟨t13, hk⟩ := List.forall_mem_cons.mp hk
  have t13 : tv_ok ta (0, 1, 1, []) (n_v vs 13) := t13
  have k13 : 1 ≤ v_iv (n_v vs 13) ∧ v_iv (n_v vs 13) ≤ 1 := tv_rng t13
  obtain ⟨t14, hk⟩ := List.forall_mem_cons.mp hk
  have t14 : tv_ok ta (0, 1, 5, []) (n_v vs 14) := t14
  have k14 : 1 ≤ v_iv (n_v vs 14) ∧ v_iv (n_v vs 14) ≤ 5 := tv_rng t14
  have hds : ∀ q ∈ ([(14, 5, 1, 1), (11, 12, 0, 0), (10, 5, 0, 2000), (10, 9, 0, 4), (4, 5, -4294967296, 1)] : List of_T), n_iv vs q.2.1 + q.2.2.1 ≤ n_iv vs q.1 ∧ n_iv vs q.1 ≤ n_iv vs q.2.1 + q.2.2.2 := hds
  obtain ⟨d0, hds⟩ := List.forall_mem_cons.mp hds
  have d0 : v_iv (n_v vs 5) + 1 ≤ v_iv (n_v vs 14) ∧ v_iv (n_v vs 14) ≤ v_iv (n_v vs 5) + 1 := d0
  obtain ⟨d1, hds⟩ := List.forall_mem_cons.mp hds
  have d1 : v_iv (n_v vs 12) + 0 ≤ v_iv (n_v vs 11) ∧ v_iv (n_v vs 11) ≤ v_iv (n_v vs 12) + 0 := d1
  obtain ⟨d2, hds⟩ := List.forall_mem_cons.mp hds
  have d2 : v_iv (n_v vs 5) + 0 ≤ v_iv (n_v vs 10) ∧ v_iv (n_v vs 10) ≤ v_iv (n_v vs 5) + 2000 := d2
  obtain ⟨d3, hds⟩ := List.forall_mem_cons.mp hds
  have d3 : v_iv (n_v vs 9) + 0 ≤ v_iv (n_v vs 10) ∧ v_iv (n_v vs 10) ≤ v_iv (n_v vs 9) + 4 := d3
  obtain ⟨d4, hds⟩ := List.forall_mem_cons.mp hds
  have d4 : v_iv (n_v vs 5) + (-4294967296) ≤ v_iv (n_v vs 4) ∧ v_iv (n_v vs 4) ≤ v_iv (n_v vs 5) + 1 := d4
  have hf : fc_ok [(6, [14, 5], [1]), (7, [11, 12], [0]), (20, [10, 2, 11], [50, 1, 1, 1010, 1001, 4, 11, 0, 6, 4, 2, 1, 0, 0, 1, 2, 1, 10, 1, 2, 1, 2, 9, 5, 3, 1, 1, 1, 0, 0, 256]), (20, [2, 10, 11], [50, 1, 0, 10, 4, 7, 0, 3, 2, 0, 10, 1, 1, 1, 2, 1, 2, 0, -1]), (1, [10, 9, 5], []), (10, [9, 7, 8], []), (9, [8, 2], [158]), (9, [7, 2], [162]), (8, [4], [1]), (7, [5, 6], [2]), (20, [4, 2], [50, 1, 1, 1158, 1160, 4, 6, 1, 2, 1, 0, 0, 1, 1, 6, 3, 1, 160, 2, 1, 158, 0, 1]), (24, [0, 2], [])] ta ws vs := hf
  obtain ⟨f0, hf⟩ := fc_un (show (6 : Nat) < 100 from by decide) hf
  have f0 : v_iv (n_v vs 14) = v_iv (n_v vs 5) + 1 := f0
  obtain ⟨f1, hf⟩ := fc_un (show (7 : Nat) < 100 from by decide) hf
  have f1 : v_iv (n_v vs 11) = v_iv (n_v vs 12) := f1
  obtain ⟨f2, hf⟩ := fc_un (show (20 : Nat) < 100 from by decide) hf
  have f2 : ((v_iv (n_v vs 10) + 1) ≤ w_fi ws (n_v vs 2) 10) → (v_iv (n_v vs 11) = (w_ei ws (w_ar ws (n_v vs 2) 1) (v_iv (n_v vs 10)) % 256)) := f2
  obtain ⟨f3, hf⟩ := fc_un (show (20 : Nat) < 100 from by decide) hf
  have f3 : (w_fi ws (n_v vs 2) 10 ≤ v_iv (n_v vs 10)) → (v_iv (n_v vs 11) = (-1)) := f3
  obtain ⟨f4, hf⟩ := fc_un (show (1 : Nat) < 100 from by decide) hf
  have f4 : v_iv (n_v vs 10) = v_iv (n_v vs 9) + v_iv (n_v vs 5) := f4
  obtain ⟨f5, hf⟩ := fc_un (show (10 : Nat) < 100 from by decide) hf
  have f5 : v_iv (n_v vs 9) = w_el ws (v_ad (n_v vs 7)) (v_iv (n_v vs 8)).toNat := f5
  obtain ⟨f6, hf⟩ := fc_un (show (9 : Nat) < 100 from by decide) hf
  have f6 : n_v vs 8 = w_fd ws (v_ad (n_v vs 2)) 158 := f6
  obtain ⟨f7, hf⟩ := fc_un (show (9 : Nat) < 100 from by decide) hf
  have f7 : n_v vs 7 = w_fd ws (v_ad (n_v vs 2)) 162 := f7
  obtain ⟨f8, hf⟩ := fc_un (show (8 : Nat) < 100 from by decide) hf
  have f8 : v_iv (n_v vs 4) ≠ 0 := f8
  obtain ⟨f9, hf⟩ := fc_un (show (7 : Nat) < 100 from by decide) hf
  have f9 : v_iv (n_v vs 5) < v_iv (n_v vs 6) := f9
  obtain ⟨f10, hf⟩ := fc_un (show (20 : Nat) < 100 from by decide) hf
  have f10 : (v_iv (n_v vs 4) = 1) → (w_ei ws (w_ar ws (n_v vs 2) 160) (w_fi ws (n_v vs 2) 158) = 1) := f10
  obtain ⟨f11, hf⟩ := fc_un (show (24 : Nat) < 100 from by decide) hf
  have f11 : n_v vs 0 = n_v vs 2 := f11
  have q2 : n_v vs 2 = n_v vs 0 := f11.symm
  rw [q2] at f2
  rw [q2] at f3
  rw [q2] at f6
  rw [q2] at f7
  rw [q2] at f10
  have cr_0_1 : ta (w_ar ws (n_v vs 0) 1) = some 151 := tv_rg (th_fd hD hth r0 (g := GG_150) rfl (k := 1) (t := (2, 0, 0, [151])) rfl rfl)
  have cr_0_160 : ta (w_ar ws (n_v vs 0) 160) = some 259 := tv_rg (th_fd hD hth r0 (g := GG_150) rfl (k := 160) (t := (2, 0, 0, [259])) rfl rfl)
  have cr_0_162 : ta (w_ar ws (n_v vs 0) 162) = some 261 := tv_rg (th_fd hD hth r0 (g := GG_150) rfl (k := 162) (t := (2, 0, 0, [261])) rfl rfl)
  have ad_7 : v_ad (n_v vs 7) = w_ar ws (n_v vs 0) 162 := congrArg v_ad f7
  rw [ad_7] at f5
  have g6 : v_iv (n_v vs 8) = w_fi ws (n_v vs 0) 158 := congrArg v_iv f6
  have hK_0_1 : ∀ j : Int, 0 ≤ j → j < 2000 → (-128) ≤ w_ei ws (w_ar ws (n_v vs 0) 1) j ∧ w_ei ws (w_ar ws (n_v vs 0) 1) j ≤ 127 := fun j h0 h1 => th_el hD hth cr_0_1 (kd := 1) (n := 2000) (m := 2000) (lo := (-128)) (hi := 127) (rs := []) (L := []) rfl (by decide) (j := j.toNat) (by omega)
  have hK_0_160 : ∀ j : Int, 0 ≤ j → j < 2010 → 0 ≤ w_ei ws (w_ar ws (n_v vs 0) 160) j ∧ w_ei ws (w_ar ws (n_v vs 0) 160) j ≤ 4 := fun j h0 h1 => th_el hD hth cr_0_160 (kd := 0) (n := 2010) (m := 2010) (lo := 0) (hi := 4) (rs := []) (L := []) rfl (by decide) (j := j.toNat) (by omega)
  have kz_0_10 : 0 ≤ w_fi ws (n_v vs 0) 10 ∧ w_fi ws (n_v vs 0) 10 ≤ 2000 := tv_rng (th_fd hD hth r0 (g := GG_150) rfl (k := 10) (t := (0, 0, 2000, [])) rfl rfl)
  have kz_0_158 : 0 ≤ w_fi ws (n_v vs 0) 158 ∧ w_fi ws (n_v vs 0) 158 ≤ 2009 := tv_rng (th_fd hD hth r0 (g := GG_150) rfl (k := 158) (t := (0, 0, 2009, [])) rfl rfl)
  have nf0 : fc_1 (20, [13, 2], [50, 1, 1, 1158, 1160, 4, 6, 1, 2, 1, 0, 0, 1, 1, 6, 3, 1, 160, 2, 1, 158, 0, 1]) ws (vs) := by
    refine ⟨fun n hn => ?_, ?_⟩
    · have hn : n ∈ [13, 2] := hn
      rw [hl]
      simp only [List.mem_cons, List.not_mem_nil, or_false] at hn
      show n < 15; omega
    · show (v_iv (n_v vs 13) = 1) → (w_ei ws (w_ar ws (n_v vs 2) 160) (w_fi ws (n_v vs 2) 158) = 1)
      rw [q2]
      first | omega | grind
  refine ⟨(fun _ h => (by cases h)), [], trivial, ?_, (fun _ h => (by cases h))⟩
  rw [List.append_nil]
  exact List.forall_mem_cons.mpr ⟨⟨show (20 : Nat) < 100 from by decide, nf0⟩, (fun _ h => (by cases h))⟩
def n_Mo_word_at_s5043_an : List an_T := [(54, [(0, (2, 0, 0, [150])), (1, (2, 0, 0, [5043])), (2, (0, 0, 1, [])), (3, (0, 0, 5, []))], [], (0, 0), [(0, 0, 99946), (1, 5, 5), (0, 0, 100000)], [(4, 5, -1000000000000, 1)], [], [(2, 0, 0, [150]), (2, 0, 0, [5043])], 0, [], [(20, [4, 2], [50, 1, 1, 1158, 1160, 4, 6, 1, 2, 1, 0, 0, 1, 1, 6, 3, 1, 160, 2, 1, 158, 0, 1]), (24, [0, 2], [])])]
def t_Mo_word_at_s5043_ct : ct_L := [(1, 425, e_Mo_byteAt), (124, 448, e_jStr_length_v320), (172, 448, e_jStr_length_v320), (253, 453, e_jStr_charAt_v321)]
set_option maxRecDepth 100000 in
theorem c_Mo_word_at_s5043 {l : Launch} {D : va_G} {kA : Nat → ClassId} (h_Mo_byteAt : ct_ok l D kA GG y_Mo_byteAt z_Mo_byteAt e_Mo_byteAt) : ct_ok l D kA GG y_Mo_word_at_s5043 z_Mo_word_at_s5043 e_Mo_word_at_s5043 := chk_all_ok (FT := [(342, 13, 160), (348, 13, 162), (351, 13, 163), (413, 13, 8), (1169, 13, 158)]) (PT := []) (CT := t_Mo_word_at_s5043_ct) (KT := []) (NT := []) (AN := n_Mo_word_at_s5043_an) (OT := [o_Mo_word_at_s5043_0, o_Mo_word_at_s5043_1, o_Mo_word_at_s5043_2, o_Mo_word_at_s5043_3, o_Mo_word_at_s5043_4, o_Mo_word_at_s5043_5, o_Mo_word_at_s5043_6, o_Mo_word_at_s5043_7, o_Mo_word_at_s5043_8]) 3 324 (List.forall_mem_cons.mpr ⟨oo_Mo_word_at_s5043_0, List.forall_mem_cons.mpr ⟨oo_Mo_word_at_s5043_1, List.forall_mem_cons.mpr ⟨oo_Mo_word_at_s5043_2, List.forall_mem_cons.mpr ⟨oo_Mo_word_at_s5043_3, List.forall_mem_cons.mpr ⟨oo_Mo_word_at_s5043_4, List.forall_mem_cons.mpr ⟨oo_Mo_word_at_s5043_5, List.forall_mem_cons.mpr ⟨oo_Mo_word_at_s5043_6, List.forall_mem_cons.mpr ⟨oo_Mo_word_at_s5043_7, List.forall_mem_cons.mpr ⟨oo_Mo_word_at_s5043_8, List.forall_mem_nil _⟩⟩⟩⟩⟩⟩⟩⟩⟩) (by decide +kernel) ⟨List.forall_mem_cons.mpr ⟨gf_Mo_342, List.forall_mem_cons.mpr ⟨gf_Mo_348, List.forall_mem_cons.mpr ⟨gf_Mo_351, List.forall_mem_cons.mpr ⟨gf_Mo_413, List.forall_mem_cons.mpr ⟨gf_Mo_1169, List.forall_mem_nil _⟩⟩⟩⟩⟩, List.forall_mem_nil _, List.forall_mem_cons.mpr ⟨cl_virtual (y := y_Mo_byteAt) (ci := 13) rfl rfl ⟨_, _, rfl⟩ (by decide +kernel) h_Mo_byteAt wm_2986 wm_9 wm_2983 wm_2985 wv_12_12 ⟨by decide, by decide, by decide +kernel⟩ (by decide), List.forall_mem_cons.mpr ⟨cl_string (y := y_jStr_length) (i := 43) rfl rfl (by decide +kernel) rfl c_jStr_length_v320 wm_674 wm_11 wm_3003 wm_672 wm_673 ⟨by decide, by decide, by decide +kernel⟩ (by decide), List.forall_mem_cons.mpr ⟨cl_string (y := y_jStr_length) (i := 43) rfl rfl (by decide +kernel) rfl c_jStr_length_v320 wm_674 wm_11 wm_3003 wm_672 wm_673 ⟨by decide, by decide, by decide +kernel⟩ (by decide), List.forall_mem_cons.mpr ⟨cl_string (y := y_jStr_charAt) (i := 43) rfl rfl (by decide +kernel) rfl c_jStr_charAt_v321 wm_684 wm_11 wm_3004 wm_682 wm_683 ⟨by decide, by decide, by decide +kernel⟩ (by decide), List.forall_mem_nil _⟩⟩⟩⟩, List.forall_mem_nil _, List.forall_mem_nil _, GG_pl⟩ (by decide +kernel)
def o_Mo_word_at_s5044_0 : or_T := (54, 5, [(0, (2, 0, 0, [150])), (3, (0, 0, 0, []))], [], [], [], [(20, [3, 0], [50, 1, 1, 1158, 1160, 4, 6, 1, 2, 1, 0, 0, 1, 1, 6, 3, 1, 160, 2, 1, 158, 0, 1]), (24, [0, 0], [])], [], [])
theorem oo_Mo_word_at_s5044_0 {kA : Nat → ClassId} : or_ok kA GG o_Mo_word_at_s5044_0 := by
  intro A ta ws vs hD hth hl hk hds hf
  have hl : vs.length = 5 := hl
  have hk : ∀ q ∈ ([(0, (2, 0, 0, [150])), (3, (0, 0, 0, []))] : List (Nat × tv_T)), tv_ok ta q.2 (n_v vs q.1) := hk
  obtain ⟨t0, hk⟩ := List.forall_mem_cons.mp hk
  have t0 : tv_ok ta (2, 0, 0, [150]) (n_v vs 0) := t0
  have r0 : ta (v_ad (n_v vs 0)) = some 150 := tv_rg t0
  obtain ⟨t3, hk⟩ := List.forall_mem_cons.mp hk
  have t3 : tv_ok ta (0, 0, 0, []) (n_v vs 3) := t3
  have k3 : 0 ≤ v_iv (n_v vs 3) ∧ v_iv (n_v vs 3) ≤ 0 := tv_rng t3
  have cr_0_160 : ta (w_ar ws (n_v vs 0) 160) = some 259 := tv_rg (th_fd hD hth r0 (g := GG_150) rfl (k := 160) (t := (2, 0, 0, [259])) rfl rfl)
  have hK_0_160 : ∀ j : Int, 0 ≤ j → j < 2010 → 0 ≤ w_ei ws (w_ar ws (n_v vs 0) 160) j ∧ w_ei ws (w_ar ws (n_v vs 0) 160) j ≤ 4 := fun j h0 h1 => th_el hD hth cr_0_160 (kd := 0) (n := 2010) (m := 2010) (lo := 0) (hi := 4) (rs := []) (L := []) rfl (by decide) (j := j.toNat) (by omega)
  have kz_0_158 : 0 ≤ w_fi ws (n_v vs 0) 158 ∧ w_fi ws (n_v vs 0) 158 ≤ 2009 := tv_rng (th_fd hD hth r0 (g := GG_150) rfl (k := 158) (t := (0, 0, 2009, [])) rfl rfl)
  have nf0 : fc_1 (20, [3, 0], [50, 1, 1, 1158, 1160, 4, 6, 1, 2, 1, 0, 0, 1, 1, 6, 3, 1, 160, 2, 1, 158, 0, 1]) ws (vs) := by
    refine ⟨fun n hn => ?_, ?_⟩
    · have hn : n ∈ [3, 0] := hn
      rw [hl]
      simp only [List.mem_cons, List.not_mem_nil, or_false] at hn
      show n < 5; omega
    · show (v_iv (n_v vs 3) = 1) → (w_ei ws (w_ar ws (n_v vs 0) 160) (w_fi ws (n_v vs 0) 158) = 1)
      first | omega | grind
  have nf1 : fc_1 (24, [0, 0], []) ws (vs) := by
    refine ⟨fun n hn => ?_, ?_⟩
    · have hn : n ∈ [0, 0] := hn
      rw [hl]
      simp only [List.mem_cons, List.not_mem_nil, or_false] at hn
      show n < 5; omega
    · show n_v vs 0 = n_v vs 0
      first | rfl | simp only [true_and]
  refine ⟨(fun _ h => (by cases h)), [], trivial, ?_, (fun _ h => (by cases h))⟩
  rw [List.append_nil]
  exact List.forall_mem_cons.mpr ⟨⟨show (20 : Nat) < 100 from by decide, nf0⟩, List.forall_mem_cons.mpr ⟨⟨show (24 : Nat) < 100 from by decide, nf1⟩, (fun _ h => (by cases h))⟩⟩
def o_Mo_word_at_s5044_1 : or_T := (54, 9, [(0, (2, 0, 0, [150])), (3, (2, 0, 0, [259])), (4, (0, 0, 2009, [])), (5, (0, 0, 4, [])), (6, (0, 1, 1, [])), (7, (0, 0, 0, []))], [(7, [5, 6], [1]), (10, [5, 3, 4], []), (9, [4, 0], [158]), (9, [3, 0], [160])], [], [], [(20, [7, 0], [50, 1, 1, 1158, 1160, 4, 6, 1, 2, 1, 0, 0, 1, 1, 6, 3, 1, 160, 2, 1, 158, 0, 1]), (24, [0, 0], [])], [], [])
theorem oo_Mo_word_at_s5044_1 {kA : Nat → ClassId} : or_ok kA GG o_Mo_word_at_s5044_1 := by
  intro A ta ws vs hD hth hl hk hds hf
  have hl : vs.length = 9 := hl
  have hk : ∀ q ∈ ([(0, (2, 0, 0, [150])), (3, (2, 0, 0, [259])), (4, (0, 0, 2009, [])), (5, (0, 0, 4, [])), (6, (0, 1, 1, [])), (7, (0, 0, 0, []))] : List (Nat × tv_T)), tv_ok ta q.2 (n_v vs q.1) := hk
  obtain ⟨t0, hk⟩ := List.forall_mem_cons.mp hk
  have t0 : tv_ok ta (2, 0, 0, [150]) (n_v vs 0) := t0
  have r0 : ta (v_ad (n_v vs 0)) = some 150 := tv_rg t0
  obtain ⟨t3, hk⟩ := List.forall_mem_cons.mp hk
  have t3 : tv_ok ta (2, 0, 0, [259]) (n_v vs 3) := t3
  have r3 : ta (v_ad (n_v vs 3)) = some 259 := tv_rg t3
  obtain ⟨t4, hk⟩ := List.forall_mem_cons.mp hk
  have t4 : tv_ok ta (0, 0, 2009, []) (n_v vs 4) := t4
  have k4 : 0 ≤ v_iv (n_v vs 4) ∧ v_iv (n_v vs 4) ≤ 2009 := tv_rng t4
  obtain ⟨t5, hk⟩ := List.forall_mem_cons.mp hk
  have t5 : tv_ok ta (0, 0, 4, []) (n_v vs 5) := t5
  have k5 : 0 ≤ v_iv (n_v vs 5) ∧ v_iv (n_v vs 5) ≤ 4 := tv_rng t5
  obtain ⟨t6, hk⟩ := List.forall_mem_cons.mp hk
  have t6 : tv_ok ta (0, 1, 1, []) (n_v vs 6) := t6
  have k6 : 1 ≤ v_iv (n_v vs 6) ∧ v_iv (n_v vs 6) ≤ 1 := tv_rng t6
  obtain ⟨t7, hk⟩ := List.forall_mem_cons.mp hk
  have t7 : tv_ok ta (0, 0, 0, []) (n_v vs 7) := t7
  have k7 : 0 ≤ v_iv (n_v vs 7) ∧ v_iv (n_v vs 7) ≤ 0 := tv_rng t7
  have hf : fc_ok [(7, [5, 6], [1]), (10, [5, 3, 4], []), (9, [4, 0], [158]), (9, [3, 0], [160])] ta ws vs := hf
  obtain ⟨f0, hf⟩ := fc_un (show (7 : Nat) < 100 from by decide) hf
  have f0 : v_iv (n_v vs 5) ≠ v_iv (n_v vs 6) := f0
  obtain ⟨f1, hf⟩ := fc_un (show (10 : Nat) < 100 from by decide) hf
  have f1 : v_iv (n_v vs 5) = w_el ws (v_ad (n_v vs 3)) (v_iv (n_v vs 4)).toNat := f1
  obtain ⟨f2, hf⟩ := fc_un (show (9 : Nat) < 100 from by decide) hf
  have f2 : n_v vs 4 = w_fd ws (v_ad (n_v vs 0)) 158 := f2
  obtain ⟨f3, hf⟩ := fc_un (show (9 : Nat) < 100 from by decide) hf
  have f3 : n_v vs 3 = w_fd ws (v_ad (n_v vs 0)) 160 := f3
  have cr_0_160 : ta (w_ar ws (n_v vs 0) 160) = some 259 := tv_rg (th_fd hD hth r0 (g := GG_150) rfl (k := 160) (t := (2, 0, 0, [259])) rfl rfl)
  have ad_3 : v_ad (n_v vs 3) = w_ar ws (n_v vs 0) 160 := congrArg v_ad f3
  rw [ad_3] at f1
  have h1 : v_iv (n_v vs 5) = w_ei ws (w_ar ws (n_v vs 0) 160) (v_iv (n_v vs 4)) := f1
  have g2 : v_iv (n_v vs 4) = w_fi ws (n_v vs 0) 158 := congrArg v_iv f2
  have br_0_160_4_0 : w_ei ws (w_ar ws (n_v vs 0) 160) (v_iv (n_v vs 4)) = w_el ws (w_ar ws (n_v vs 0) 160) (v_iv (n_v vs 4)).toNat := rfl
  have hK_0_160 : ∀ j : Int, 0 ≤ j → j < 2010 → 0 ≤ w_ei ws (w_ar ws (n_v vs 0) 160) j ∧ w_ei ws (w_ar ws (n_v vs 0) 160) j ≤ 4 := fun j h0 h1 => th_el hD hth cr_0_160 (kd := 0) (n := 2010) (m := 2010) (lo := 0) (hi := 4) (rs := []) (L := []) rfl (by decide) (j := j.toNat) (by omega)
  have kz_0_158 : 0 ≤ w_fi ws (n_v vs 0) 158 ∧ w_fi ws (n_v vs 0) 158 ≤ 2009 := tv_rng (th_fd hD hth r0 (g := GG_150) rfl (k := 158) (t := (0, 0, 2009, [])) rfl rfl)
  have nf0 : fc_1 (20, [7, 0], [50, 1, 1, 1158, 1160, 4, 6, 1, 2, 1, 0, 0, 1, 1, 6, 3, 1, 160, 2, 1, 158, 0, 1]) ws (vs) := by
    refine ⟨fun n hn => ?_, ?_⟩
    · have hn : n ∈ [7, 0] := hn
      rw [hl]
      simp only [List.mem_cons, List.not_mem_nil, or_false] at hn
      show n < 9; omega
    · show (v_iv (n_v vs 7) = 1) → (w_ei ws (w_ar ws (n_v vs 0) 160) (w_fi ws (n_v vs 0) 158) = 1)
      first | omega | grind
  have nf1 : fc_1 (24, [0, 0], []) ws (vs) := by
    refine ⟨fun n hn => ?_, ?_⟩
    · have hn : n ∈ [0, 0] := hn
      rw [hl]
      simp only [List.mem_cons, List.not_mem_nil, or_false] at hn
      show n < 9; omega
    · show n_v vs 0 = n_v vs 0
      first | rfl | simp only [true_and]
  refine ⟨(fun _ h => (by cases h)), [], trivial, ?_, (fun _ h => (by cases h))⟩
  rw [List.append_nil]
  exact List.forall_mem_cons.mpr ⟨⟨show (20 : Nat) < 100 from by decide, nf0⟩, List.forall_mem_cons.mpr ⟨⟨show (24 : Nat) < 100 from by decide, nf1⟩, (fun _ h => (by cases h))⟩⟩
def o_Mo_word_at_s5044_2 : or_T := (54, 15, [(0, (2, 0, 0, [150])), (3, (2, 0, 0, [259])), (4, (0, 0, 2009, [])), (5, (0, 1, 1, [])), (6, (0, 1, 1, [])), (13, (0, 0, 0, []))], [(9, [4, 0], [158]), (7, [5, 6], [0]), (10, [5, 3, 4], []), (9, [3, 0], [160])], [], [], [(20, [13, 0], [50, 1, 1, 1158, 1160, 4, 6, 1, 2, 1, 0, 0, 1, 1, 6, 3, 1, 160, 2, 1, 158, 0, 1]), (24, [0, 0], [])], [], [])
theorem oo_Mo_word_at_s5044_2 {kA : Nat → ClassId} : or_ok kA GG o_Mo_word_at_s5044_2 := by
  intro A ta ws vs hD hth hl hk hds hf
  have hl : vs.length = 15 := hl
  have hk : ∀ q ∈ ([(0, (2, 0, 0, [150])), (3, (2, 0, 0, [259])), (4, (0, 0, 2009, [])), (5, (0, 1, 1, [])), (6, (0, 1, 1, [])), (13, (0, 0, 0, []))] : List (Nat × tv_T)), tv_ok ta q.2 (n_v vs q.1) := hk
  obtain ⟨t0, hk⟩ := List.forall_mem_cons.mp hk
  have t0 : tv_ok ta (2, 0, 0, [150]) (n_v vs 0) := t0
  have r0 : ta (v_ad (n_v vs 0)) = some 150 := tv_rg t0
  obtain ⟨t3, hk⟩ := List.forall_mem_cons.mp hk
  have t3 : tv_ok ta (2, 0, 0, [259]) (n_v vs 3) := t3
  have r3 : ta (v_ad (n_v vs 3)) = some 259 := tv_rg t3
  obtain ⟨t4, hk⟩ := List.forall_mem_cons.mp hk
  have t4 : tv_ok ta (0, 0, 2009, []) (n_v vs 4) := t4
  have k4 : 0 ≤ v_iv (n_v vs 4) ∧ v_iv (n_v vs 4) ≤ 2009 := tv_rng t4
  obtain ⟨t5, hk⟩ := List.forall_mem_cons.mp hk
  have t5 : tv_ok ta (0, 1, 1, []) (n_v vs 5) := t5
  have k5 : 1 ≤ v_iv (n_v vs 5) ∧ v_iv (n_v vs 5) ≤ 1 := tv_rng t5
  obtain ⟨t6, hk⟩ := List.forall_mem_cons.mp hk
  have t6 : tv_ok ta (0, 1, 1, []) (n_v vs 6) := t6
  have k6 : 1 ≤ v_iv (n_v vs 6) ∧ v_iv (n_v vs 6) ≤ 1 := tv_rng t6
  obtain ⟨t13, hk⟩ := List.forall_mem_cons.mp hk
  have t13 : tv_ok ta (0, 0, 0, []) (n_v vs 13) := t13
  have k13 : 0 ≤ v_iv (n_v vs 13) ∧ v_iv (n_v vs 13) ≤ 0 := tv_rng t13
  have hf : fc_ok [(9, [4, 0], [158]), (7, [5, 6], [0]), (10, [5, 3, 4], []), (9, [3, 0], [160])] ta ws vs := hf
  obtain ⟨f0, hf⟩ := fc_un (show (9 : Nat) < 100 from by decide) hf
  have f0 : n_v vs 4 = w_fd ws (v_ad (n_v vs 0)) 158 := f0
  obtain ⟨f1, hf⟩ := fc_un (show (7 : Nat) < 100 from by decide) hf
  have f1 : v_iv (n_v vs 5) = v_iv (n_v vs 6) := f1
  obtain ⟨f2, hf⟩ := fc_un (show (10 : Nat) < 100 from by decide) hf
  have f2 : v_iv (n_v vs 5) = w_el ws (v_ad (n_v vs 3)) (v_iv (n_v vs 4)).toNat := f2
  obtain ⟨f3, hf⟩ := fc_un (show (9 : Nat) < 100 from by decide) hf
  have f3 : n_v vs 3 = w_fd ws (v_ad (n_v vs 0)) 160 := f3
  have cr_0_160 : ta (w_ar ws (n_v vs 0) 160) = some 259 := tv_rg (th_fd hD hth r0 (g := GG_150) rfl (k := 160) (t := (2, 0, 0, [259])) rfl rfl)
  have ad_3 : v_ad (n_v vs 3) = w_ar ws (n_v vs 0) 160 := congrArg v_ad f3
  have g0 : v_iv (n_v vs 4) = w_fi ws (n_v vs 0) 158 := congrArg v_iv f0
  rw [ad_3] at f2
  have h2 : v_iv (n_v vs 5) = w_ei ws (w_ar ws (n_v vs 0) 160) (v_iv (n_v vs 4)) := f2
  have br_0_160_4_0 : w_ei ws (w_ar ws (n_v vs 0) 160) (v_iv (n_v vs 4)) = w_el ws (w_ar ws (n_v vs 0) 160) (v_iv (n_v vs 4)).toNat := rfl
  have hK_0_160 : ∀ j : Int, 0 ≤ j → j < 2010 → 0 ≤ w_ei ws (w_ar ws (n_v vs 0) 160) j ∧ w_ei ws (w_ar ws (n_v vs 0) 160) j ≤ 4 := fun j h0 h1 => th_el hD hth cr_0_160 (kd := 0) (n := 2010) (m := 2010) (lo := 0) (hi := 4) (rs := []) (L := []) rfl (by decide) (j := j.toNat) (by omega)
  have kz_0_158 : 0 ≤ w_fi ws (n_v vs 0) 158 ∧ w_fi ws (n_v vs 0) 158 ≤ 2009 := tv_rng (th_fd hD hth r0 (g := GG_150) rfl (k := 158) (t := (0, 0, 2009, [])) rfl rfl)
  have nf0 : fc_1 (20, [13, 0], [50, 1, 1, 1158, 1160, 4, 6, 1, 2, 1, 0, 0, 1, 1, 6, 3, 1, 160, 2, 1, 158, 0, 1]) ws (vs) := by
    refine ⟨fun n hn => ?_, ?_⟩
    · have hn : n ∈ [13, 0] := hn
      rw [hl]
      simp only [List.mem_cons, List.not_mem_nil, or_false] at hn
      show n < 15; omega
    · show (v_iv (n_v vs 13) = 1) → (w_ei ws (w_ar ws (n_v vs 0) 160) (w_fi ws (n_v vs 0) 158) = 1)
      first | omega | grind
  have nf1 : fc_1 (24, [0, 0], []) ws (vs) := by
    refine ⟨fun n hn => ?_, ?_⟩
    · have hn : n ∈ [0, 0] := hn
      rw [hl]
      simp only [List.mem_cons, List.not_mem_nil, or_false] at hn
      show n < 15; omega
    · show n_v vs 0 = n_v vs 0
      first | rfl | simp only [true_and]
  refine ⟨(fun _ h => (by cases h)), [], trivial, ?_, (fun _ h => (by cases h))⟩
  rw [List.append_nil]
  exact List.forall_mem_cons.mpr ⟨⟨show (20 : Nat) < 100 from by decide, nf0⟩, List.forall_mem_cons.mpr ⟨⟨show (24 : Nat) < 100 from by decide, nf1⟩, (fun _ h => (by cases h))⟩⟩
def o_Mo_word_at_s5044_3 : or_T := (54, 15, [(0, (2, 0, 0, [150])), (3, (2, 0, 0, [259])), (4, (0, 0, 2009, [])), (5, (0, 1, 1, [])), (6, (0, 1, 1, [])), (13, (0, 1, 1, []))], [(9, [4, 0], [158]), (7, [5, 6], [0]), (10, [5, 3, 4], []), (9, [3, 0], [160])], [], [], [(20, [13, 0], [50, 1, 1, 1158, 1160, 4, 6, 1, 2, 1, 0, 0, 1, 1, 6, 3, 1, 160, 2, 1, 158, 0, 1]), (24, [0, 0], [])], [], [])
theorem oo_Mo_word_at_s5044_3 {kA : Nat → ClassId} : or_ok kA GG o_Mo_word_at_s5044_3 := by
  intro A ta ws vs hD hth hl hk hds hf
  have hl : vs.length = 15 := hl
  have hk : ∀ q ∈ ([(0, (2, 0, 0, [150])), (3, (2, 0, 0, [259])), (4, (0, 0, 2009, [])), (5, (0, 1, 1, [])), (6, (0, 1, 1, [])), (13, (0, 1, 1, []))] : List (Nat × tv_T)), tv_ok ta q.2 (n_v vs q.1) := hk
  obtain ⟨t0, hk⟩ := List.forall_mem_cons.mp hk
  have t0 : tv_ok ta (2, 0, 0, [150]) (n_v vs 0) := t0
  have r0 : ta (v_ad (n_v vs 0)) = some 150 := tv_rg t0
  obtain ⟨t3, hk⟩ := List.forall_mem_cons.mp hk
  have t3 : tv_ok ta (2, 0, 0, [259]) (n_v vs 3) := t3
  have r3 : ta (v_ad (n_v vs 3)) = some 259 := tv_rg t3
  obtain ⟨t4, hk⟩ := List.forall_mem_cons.mp hk
  have t4 : tv_ok ta (0, 0, 2009, []) (n_v vs 4) := t4
  have k4 : 0 ≤ v_iv (n_v vs 4) ∧ v_iv (n_v vs 4) ≤ 2009 := tv_rng t4
  obtain ⟨t5, hk⟩ := List.forall_mem_cons.mp hk
  have t5 : tv_ok ta (0, 1, 1, []) (n_v vs 5) := t5
  have k5 : 1 ≤ v_iv (n_v vs 5) ∧ v_iv (n_v vs 5) ≤ 1 := tv_rng t5
  obtain ⟨t6, hk⟩ := List.forall_mem_cons.mp hk
  have t6 : tv_ok ta (0, 1, 1, []) (n_v vs 6) := t6
  have k6 : 1 ≤ v_iv (n_v vs 6) ∧ v_iv (n_v vs 6) ≤ 1 := tv_rng t6
  obtain ⟨t13, hk⟩ := List.forall_mem_cons.mp hk
  have t13 : tv_ok ta (0, 1, 1, []) (n_v vs 13) := t13
  have k13 : 1 ≤ v_iv (n_v vs 13) ∧ v_iv (n_v vs 13) ≤ 1 := tv_rng t13
  have hf : fc_ok [(9, [4, 0], [158]), (7, [5, 6], [0]), (10, [5, 3, 4], []), (9, [3, 0], [160])] ta ws vs := hf
  obtain ⟨f0, hf⟩ := fc_un (show (9 : Nat) < 100 from by decide) hf
  have f0 : n_v vs 4 = w_fd ws (v_ad (n_v vs 0)) 158 := f0
  obtain ⟨f1, hf⟩ := fc_un (show (7 : Nat) < 100 from by decide) hf
  have f1 : v_iv (n_v vs 5) = v_iv (n_v vs 6) := f1
  obtain ⟨f2, hf⟩ := fc_un (show (10 : Nat) < 100 from by decide) hf
  have f2 : v_iv (n_v vs 5) = w_el ws (v_ad (n_v vs 3)) (v_iv (n_v vs 4)).toNat := f2
  obtain ⟨f3, hf⟩ := fc_un (show (9 : Nat) < 100 from by decide) hf
  have f3 : n_v vs 3 = w_fd ws (v_ad (n_v vs 0)) 160 := f3
  have cr_0_160 : ta (w_ar ws (n_v vs 0) 160) = some 259 := tv_rg (th_fd hD hth r0 (g := GG_150) rfl (k := 160) (t := (2, 0, 0, [259])) rfl rfl)
  have ad_3 : v_ad (n_v vs 3) = w_ar ws (n_v vs 0) 160 := congrArg v_ad f3
  have g0 : v_iv (n_v vs 4) = w_fi ws (n_v vs 0) 158 := congrArg v_iv f0
  rw [ad_3] at f2
  have h2 : v_iv (n_v vs 5) = w_ei ws (w_ar ws (n_v vs 0) 160) (v_iv (n_v vs 4)) := f2
  have br_0_160_4_0 : w_ei ws (w_ar ws (n_v vs 0) 160) (v_iv (n_v vs 4)) = w_el ws (w_ar ws (n_v vs 0) 160) (v_iv (n_v vs 4)).toNat := rfl
  have hK_0_160 : ∀ j : Int, 0 ≤ j → j < 2010 → 0 ≤ w_ei ws (w_ar ws (n_v vs 0) 160) j ∧ w_ei ws (w_ar ws (n_v vs 0) 160) j ≤ 4 := fun j h0 h1 => th_el hD hth cr_0_160 (kd := 0) (n := 2010) (m := 2010) (lo := 0) (hi := 4) (rs := []) (L := []) rfl (by decide) (j := j.toNat) (by omega)
  have kz_0_158 : 0 ≤ w_fi ws (n_v vs 0) 158 ∧ w_fi ws (n_v vs 0) 158 ≤ 2009 := tv_rng (th_fd hD hth r0 (g := GG_150) rfl (k := 158) (t := (0, 0, 2009, [])) rfl rfl)
  have nf0 : fc_1 (20, [13, 0], [50, 1, 1, 1158, 1160, 4, 6, 1, 2, 1, 0, 0, 1, 1, 6, 3, 1, 160, 2, 1, 158, 0, 1]) ws (vs) := by
    refine ⟨fun n hn => ?_, ?_⟩
    · have hn : n ∈ [13, 0] := hn
      rw [hl]
      simp only [List.mem_cons, List.not_mem_nil, or_false] at hn
      show n < 15; omega
    · show (v_iv (n_v vs 13) = 1) → (w_ei ws (w_ar ws (n_v vs 0) 160) (w_fi ws (n_v vs 0) 158) = 1)
      first | omega | grind
  have nf1 : fc_1 (24, [0, 0], []) ws (vs) := by
    refine ⟨fun n hn => ?_, ?_⟩
    · have hn : n ∈ [0, 0] := hn
      rw [hl]
      simp only [List.mem_cons, List.not_mem_nil, or_false] at hn
      show n < 15; omega
    · show n_v vs 0 = n_v vs 0
      first | rfl | simp only [true_and]
  refine ⟨(fun _ h => (by cases h)), [], trivial, ?_, (fun _ h => (by cases h))⟩
  rw [List.append_nil]
  exact List.forall_mem_cons.mpr ⟨⟨show (20 : Nat) < 100 from by decide, nf0⟩, List.forall_mem_cons.mpr ⟨⟨show (24 : Nat) < 100 from by decide, nf1⟩, (fun _ h => (by cases h))⟩⟩
def o_Mo_word_at_s5044_4 : or_T := (102, 7, [(0, (2, 0, 0, [150])), (2, (2, 0, 0, [150])), (4, (0, 0, 1, []))], [(20, [4, 2], [50, 1, 1, 1158, 1160, 4, 6, 1, 2, 1, 0, 0, 1, 1, 6, 3, 1, 160, 2, 1, 158, 0, 1]), (24, [0, 2], [])], [], [], [(20, [4, 0], [50, 1, 1, 1158, 1160, 4, 6, 1, 2, 1, 0, 0, 1, 1, 6, 3, 1, 160, 2, 1, 158, 0, 1])], [], [])
theorem oo_Mo_word_at_s5044_4 {kA : Nat → ClassId} : or_ok kA GG o_Mo_word_at_s5044_4 := by
  intro A ta ws vs hD hth hl hk hds hf
  have hl : vs.length = 7 := hl
  have hk : ∀ q ∈ ([(0, (2, 0, 0, [150])), (2, (2, 0, 0, [150])), (4, (0, 0, 1, []))] : List (Nat × tv_T)), tv_ok ta q.2 (n_v vs q.1) := hk
  obtain ⟨t0, hk⟩ := List.forall_mem_cons.mp hk
  have t0 : tv_ok ta (2, 0, 0, [150]) (n_v vs 0) := t0
  have r0 : ta (v_ad (n_v vs 0)) = some 150 := tv_rg t0
  obtain ⟨t2, hk⟩ := List.forall_mem_cons.mp hk
  have t2 : tv_ok ta (2, 0, 0, [150]) (n_v vs 2) := t2
  have r2 : ta (v_ad (n_v vs 2)) = some 150 := tv_rg t2
  obtain ⟨t4, hk⟩ := List.forall_mem_cons.mp hk
  have t4 : tv_ok ta (0, 0, 1, []) (n_v vs 4) := t4
  have k4 : 0 ≤ v_iv (n_v vs 4) ∧ v_iv (n_v vs 4) ≤ 1 := tv_rng t4
  have hf : fc_ok [(20, [4, 2], [50, 1, 1, 1158, 1160, 4, 6, 1, 2, 1, 0, 0, 1, 1, 6, 3, 1, 160, 2, 1, 158, 0, 1]), (24, [0, 2], [])] ta ws vs := hf
  obtain ⟨f0, hf⟩ := fc_un (show (20 : Nat) < 100 from by decide) hf
  have f0 : (v_iv (n_v vs 4) = 1) → (w_ei ws (w_ar ws (n_v vs 2) 160) (w_fi ws (n_v vs 2) 158) = 1) := f0
  obtain ⟨f1, hf⟩ := fc_un (show (24 : Nat) < 100 from by decide) hf
  have f1 : n_v vs 0 = n_v vs 2 := f1
  have q2 : n_v vs 2 = n_v vs 0 := f1.symm
  rw [q2] at f0
  have cr_0_160 : ta (w_ar ws (n_v vs 0) 160) = some 259 := tv_rg (th_fd hD hth r0 (g := GG_150) rfl (k := 160) (t := (2, 0, 0, [259])) rfl rfl)
  have hK_0_160 : ∀ j : Int, 0 ≤ j → j < 2010 → 0 ≤ w_ei ws (w_ar ws (n_v vs 0) 160) j ∧ w_ei ws (w_ar ws (n_v vs 0) 160) j ≤ 4 := fun j h0 h1 => th_el hD hth cr_0_160 (kd := 0) (n := 2010) (m := 2010) (lo := 0) (hi := 4) (rs := []) (L := []) rfl (by decide) (j := j.toNat) (by omega)
  have kz_0_158 : 0 ≤ w_fi ws (n_v vs 0) 158 ∧ w_fi ws (n_v vs 0) 158 ≤ 2009 := tv_rng (th_fd hD hth r0 (g := GG_150) rfl (k := 158) (t := (0, 0, 2009, [])) rfl rfl)
  have nf0 : fc_1 (20, [4, 0], [50, 1, 1, 1158, 1160, 4, 6, 1, 2, 1, 0, 0, 1, 1, 6, 3, 1, 160, 2, 1, 158, 0, 1]) ws (vs) := by
    refine ⟨fun n hn => ?_, ?_⟩
    · have hn : n ∈ [4, 0] := hn
      rw [hl]
      simp only [List.mem_cons, List.not_mem_nil, or_false] at hn
      show n < 7; omega
    · show (v_iv (n_v vs 4) = 1) → (w_ei ws (w_ar ws (n_v vs 0) 160) (w_fi ws (n_v vs 0) 158) = 1)
      first | omega | grind
  refine ⟨(fun _ h => (by cases h)), [], trivial, ?_, (fun _ h => (by cases h))⟩
  rw [List.append_nil]
  exact List.forall_mem_cons.mpr ⟨⟨show (20 : Nat) < 100 from by decide, nf0⟩, (fun _ h => (by cases h))⟩
def o_Mo_word_at_s5044_5 : or_T := (102, 7, [(0, (2, 0, 0, [150])), (2, (2, 0, 0, [150])), (4, (0, 0, 0, []))], [(8, [4], [0]), (20, [4, 2], [50, 1, 1, 1158, 1160, 4, 6, 1, 2, 1, 0, 0, 1, 1, 6, 3, 1, 160, 2, 1, 158, 0, 1]), (24, [0, 2], [])], [], [], [(20, [4, 0], [50, 1, 1, 1158, 1160, 4, 6, 1, 2, 1, 0, 0, 1, 1, 6, 3, 1, 160, 2, 1, 158, 0, 1])], [], [])
theorem oo_Mo_word_at_s5044_5 {kA : Nat → ClassId} : or_ok kA GG o_Mo_word_at_s5044_5 := by
  intro A ta ws vs hD hth hl hk hds hf
  have hl : vs.length = 7 := hl
  have hk : ∀ q ∈ ([(0, (2, 0, 0, [150])), (2, (2, 0, 0, [150])), (4, (0, 0, 0, []))] : List (Nat × tv_T)), tv_ok ta q.2 (n_v vs q.1) := hk
  obtain ⟨t0, hk⟩ := List.forall_mem_cons.mp hk
  have t0 : tv_ok ta (2, 0, 0, [150]) (n_v vs 0) := t0
  have r0 : ta (v_ad (n_v vs 0)) = some 150 := tv_rg t0
  obtain ⟨t2, hk⟩ := List.forall_mem_cons.mp hk
  have t2 : tv_ok ta (2, 0, 0, [150]) (n_v vs 2) := t2
  have r2 : ta (v_ad (n_v vs 2)) = some 150 := tv_rg t2
  obtain ⟨t4, hk⟩ := List.forall_mem_cons.mp hk
  have t4 : tv_ok ta (0, 0, 0, []) (n_v vs 4) := t4
  have k4 : 0 ≤ v_iv (n_v vs 4) ∧ v_iv (n_v vs 4) ≤ 0 := tv_rng t4
  have hf : fc_ok [(8, [4], [0]), (20, [4, 2], [50, 1, 1, 1158, 1160, 4, 6, 1, 2, 1, 0, 0, 1, 1, 6, 3, 1, 160, 2, 1, 158, 0, 1]), (24, [0, 2], [])] ta ws vs := hf
  obtain ⟨f0, hf⟩ := fc_un (show (8 : Nat) < 100 from by decide) hf
  have f0 : v_iv (n_v vs 4) = 0 := f0
  obtain ⟨f1, hf⟩ := fc_un (show (20 : Nat) < 100 from by decide) hf
  have f1 : (v_iv (n_v vs 4) = 1) → (w_ei ws (w_ar ws (n_v vs 2) 160) (w_fi ws (n_v vs 2) 158) = 1) := f1
  obtain ⟨f2, hf⟩ := fc_un (show (24 : Nat) < 100 from by decide) hf
  have f2 : n_v vs 0 = n_v vs 2 := f2
  have q2 : n_v vs 2 = n_v vs 0 := f2.symm
  rw [q2] at f1
  have cr_0_160 : ta (w_ar ws (n_v vs 0) 160) = some 259 := tv_rg (th_fd hD hth r0 (g := GG_150) rfl (k := 160) (t := (2, 0, 0, [259])) rfl rfl)
  have hK_0_160 : ∀ j : Int, 0 ≤ j → j < 2010 → 0 ≤ w_ei ws (w_ar ws (n_v vs 0) 160) j ∧ w_ei ws (w_ar ws (n_v vs 0) 160) j ≤ 4 := fun j h0 h1 => th_el hD hth cr_0_160 (kd := 0) (n := 2010) (m := 2010) (lo := 0) (hi := 4) (rs := []) (L := []) rfl (by decide) (j := j.toNat) (by omega)
  have kz_0_158 : 0 ≤ w_fi ws (n_v vs 0) 158 ∧ w_fi ws (n_v vs 0) 158 ≤ 2009 := tv_rng (th_fd hD hth r0 (g := GG_150) rfl (k := 158) (t := (0, 0, 2009, [])) rfl rfl)
  have nf0 : fc_1 (20, [4, 0], [50, 1, 1, 1158, 1160, 4, 6, 1, 2, 1, 0, 0, 1, 1, 6, 3, 1, 160, 2, 1, 158, 0, 1]) ws (vs) := by
    refine ⟨fun n hn => ?_, ?_⟩
    · have hn : n ∈ [4, 0] := hn
      rw [hl]
      simp only [List.mem_cons, List.not_mem_nil, or_false] at hn
      show n < 7; omega
    · show (v_iv (n_v vs 4) = 1) → (w_ei ws (w_ar ws (n_v vs 0) 160) (w_fi ws (n_v vs 0) 158) = 1)
      first | omega | grind
  refine ⟨(fun _ h => (by cases h)), [], trivial, ?_, (fun _ h => (by cases h))⟩
  rw [List.append_nil]
  exact List.forall_mem_cons.mpr ⟨⟨show (20 : Nat) < 100 from by decide, nf0⟩, (fun _ h => (by cases h))⟩
def o_Mo_word_at_s5044_6 : or_T := (54, 15, [(0, (2, 0, 0, [150])), (2, (2, 0, 0, [150])), (4, (0, 1, 1, [])), (5, (0, 0, 3, [])), (6, (0, 4, 4, [])), (7, (2, 0, 0, [261])), (8, (0, 0, 2009, [])), (9, (0, 0, 2000, [])), (10, (0, 0, 2003, [])), (11, (0, -1, -1, [])), (12, (0, 0, 65535, [])), (13, (0, 0, 0, [])), (14, (0, 1, 4, []))], [(6, [14, 5], [1]), (7, [11, 12], [1]), (20, [10, 2, 11], [50, 1, 1, 1010, 1001, 4, 11, 0, 6, 4, 2, 1, 0, 0, 1, 2, 1, 10, 1, 2, 1, 2, 9, 5, 3, 1, 1, 1, 0, 0, 256]), (20, [2, 10, 11], [50, 1, 0, 10, 4, 7, 0, 3, 2, 0, 10, 1, 1, 1, 2, 1, 2, 0, -1]), (1, [10, 9, 5], []), (10, [9, 7, 8], []), (9, [8, 2], [158]), (9, [7, 2], [162]), (8, [4], [1]), (7, [5, 6], [2]), (20, [4, 2], [50, 1, 1, 1158, 1160, 4, 6, 1, 2, 1, 0, 0, 1, 1, 6, 3, 1, 160, 2, 1, 158, 0, 1]), (24, [0, 2], [])], [], [], [(20, [13, 2], [50, 1, 1, 1158, 1160, 4, 6, 1, 2, 1, 0, 0, 1, 1, 6, 3, 1, 160, 2, 1, 158, 0, 1])], [], [(14, 5, 1, 1), (10, 5, 0, 2000), (10, 9, 0, 3), (4, 5, -4294967296, 1)])
theorem oo_Mo_word_at_s5044_6 {kA : Nat → ClassId} : or_ok kA GG o_Mo_word_at_s5044_6 := by
  intro A ta ws vs hD hth hl hk hds hf
  have hl : vs.length = 15 := hl
  have hk : ∀ q ∈ ([(0, (2, 0, 0, [150])), (2, (2, 0, 0, [150])), (4, (0, 1, 1, [])), (5, (0, 0, 3, [])), (6, (0, 4, 4, [])), (7, (2, 0, 0, [261])), (8, (0, 0, 2009, [])), (9, (0, 0, 2000, [])), (10, (0, 0, 2003, [])), (11, (0, -1, -1, [])), (12, (0, 0, 65535, [])), (13, (0, 0, 0, [])), (14, (0, 1, 4, []))] : List (Nat × tv_T)), tv_ok ta q.2 (n_v vs q.1) := hk
  obtain ⟨t0, hk⟩ := List.forall_mem_cons.mp hk
  have t0 : tv_ok ta (2, 0, 0, [150]) (n_v vs 0) := t0
  have r0 : ta (v_ad (n_v vs 0)) = some 150 := tv_rg t0
  obtain ⟨t2, hk⟩ := List.forall_mem_cons.mp hk
  have t2 : tv_ok ta (2, 0, 0, [150]) (n_v vs 2) := t2
  have r2 : ta (v_ad (n_v vs 2)) = some 150 := tv_rg t2
  obtain ⟨t4, hk⟩ := List.forall_mem_cons.mp hk
  have t4 : tv_ok ta (0, 1, 1, []) (n_v vs 4) := t4
  have k4 : 1 ≤ v_iv (n_v vs 4) ∧ v_iv (n_v vs 4) ≤ 1 := tv_rng t4
  obtain ⟨t5, hk⟩ := List.forall_mem_cons.mp hk
  have t5 : tv_ok ta (0, 0, 3, []) (n_v vs 5) := t5
  have k5 : 0 ≤ v_iv (n_v vs 5) ∧ v_iv (n_v vs 5) ≤ 3 := tv_rng t5
  obtain ⟨t6, hk⟩ := List.forall_mem_cons.mp hk
  have t6 : tv_ok ta (0, 4, 4, []) (n_v vs 6) := t6
  have k6 : 4 ≤ v_iv (n_v vs 6) ∧ v_iv (n_v vs 6) ≤ 4 := tv_rng t6
  obtain ⟨t7, hk⟩ := List.forall_mem_cons.mp hk
  have t7 : tv_ok ta (2, 0, 0, [261]) (n_v vs 7) := t7
  have r7 : ta (v_ad (n_v vs 7)) = some 261 := tv_rg t7
  obtain ⟨t8, hk⟩ := List.forall_mem_cons.mp hk
  have t8 : tv_ok ta (0, 0, 2009, []) (n_v vs 8) := t8
  have k8 : 0 ≤ v_iv (n_v vs 8) ∧ v_iv (n_v vs 8) ≤ 2009 := tv_rng t8
  obtain ⟨t9, hk⟩ := List.forall_mem_cons.mp hk
  have t9 : tv_ok ta (0, 0, 2000, []) (n_v vs 9) := t9
  have k9 : 0 ≤ v_iv (n_v vs 9) ∧ v_iv (n_v vs 9) ≤ 2000 := tv_rng t9
  obtain ⟨t10, hk⟩ := List.forall_mem_cons.mp hk
  have t10 : tv_ok ta (0, 0, 2003, []) (n_v vs 10) := t10
  have k10 : 0 ≤ v_iv (n_v vs 10) ∧ v_iv (n_v vs 10) ≤ 2003 := tv_rng t10
  obtain ⟨t11, hk⟩ := List.forall_mem_cons.mp hk
  have t11 : tv_ok ta (0, -1, -1, []) (n_v vs 11) := t11
  have k11 : (-1) ≤ v_iv (n_v vs 11) ∧ v_iv (n_v vs 11) ≤ (-1) := tv_rng t11
  obtain ⟨t12, hk⟩ := List.forall_mem_cons.mp hk
  have t12 : tv_ok ta (0, 0, 65535, []) (n_v vs 12) := t12
  have k12 : 0 ≤ v_iv (n_v vs 12) ∧ v_iv (n_v vs 12) ≤ 65535 := tv_rng t12
  obtain ⟨t13, hk⟩ := List.forall_mem_cons.mp hk
  have t13 : tv_ok ta (0, 0, 0, []) (n_v vs 13) := t13
  have k13 : 0 ≤ v_iv (n_v vs 13) ∧ v_iv (n_v vs 13) ≤ 0 := tv_rng t13
  obtain ⟨t14, hk⟩ := List.forall_mem_cons.mp hk
  have t14 : tv_ok ta (0, 1, 4, []) (n_v vs 14) := t14
  have k14 : 1 ≤ v_iv (n_v vs 14) ∧ v_iv (n_v vs 14) ≤ 4 := tv_rng t14
  have hds : ∀ q ∈ ([(14, 5, 1, 1), (10, 5, 0, 2000), (10, 9, 0, 3), (4, 5, -4294967296, 1)] : List of_T), n_iv vs q.2.1 + q.2.2.1 ≤ n_iv vs q.1 ∧ n_iv vs q.1 ≤ n_iv vs q.2.1 + q.2.2.2 := hds
  obtain ⟨d0, hds⟩ := List.forall_mem_cons.mp hds
  have d0 : v_iv (n_v vs 5) + 1 ≤ v_iv (n_v vs 14) ∧ v_iv (n_v vs 14) ≤ v_iv (n_v vs 5) + 1 := d0
  obtain ⟨d1, hds⟩ := List.forall_mem_cons.mp hds
  have d1 : v_iv (n_v vs 5) + 0 ≤ v_iv (n_v vs 10) ∧ v_iv (n_v vs 10) ≤ v_iv (n_v vs 5) + 2000 := d1
  obtain ⟨d2, hds⟩ := List.forall_mem_cons.mp hds
  have d2 : v_iv (n_v vs 9) + 0 ≤ v_iv (n_v vs 10) ∧ v_iv (n_v vs 10) ≤ v_iv (n_v vs 9) + 3 := d2
  obtain ⟨d3, hds⟩ := List.forall_mem_cons.mp hds
  have d3 : v_iv (n_v vs 5) + (-4294967296) ≤ v_iv (n_v vs 4) ∧ v_iv (n_v vs 4) ≤ v_iv (n_v vs 5) + 1 := d3
  have hf : fc_ok [(6, [14, 5], [1]), (7, [11, 12], [1]), (20, [10, 2, 11], [50, 1, 1, 1010, 1001, 4, 11, 0, 6, 4, 2, 1, 0, 0, 1, 2, 1, 10, 1, 2, 1, 2, 9, 5, 3, 1, 1, 1, 0, 0, 256]), (20, [2, 10, 11], [50, 1, 0, 10, 4, 7, 0, 3, 2, 0, 10, 1, 1, 1, 2, 1, 2, 0, -1]), (1, [10, 9, 5], []), (10, [9, 7, 8], []), (9, [8, 2], [158]), (9, [7, 2], [162]), (8, [4], [1]), (7, [5, 6], [2]), (20, [4, 2], [50, 1, 1, 1158, 1160, 4, 6, 1, 2, 1, 0, 0, 1, 1, 6, 3, 1, 160, 2, 1, 158, 0, 1]), (24, [0, 2], [])] ta ws vs := hf
  obtain ⟨f0, hf⟩ := fc_un (show (6 : Nat) < 100 from by decide) hf
  have f0 : v_iv (n_v vs 14) = v_iv (n_v vs 5) + 1 := f0
  obtain ⟨f1, hf⟩ := fc_un (show (7 : Nat) < 100 from by decide) hf
  have f1 : v_iv (n_v vs 11) ≠ v_iv (n_v vs 12) := f1
  obtain ⟨f2, hf⟩ := fc_un (show (20 : Nat) < 100 from by decide) hf
  have f2 : ((v_iv (n_v vs 10) + 1) ≤ w_fi ws (n_v vs 2) 10) → (v_iv (n_v vs 11) = (w_ei ws (w_ar ws (n_v vs 2) 1) (v_iv (n_v vs 10)) % 256)) := f2
  obtain ⟨f3, hf⟩ := fc_un (show (20 : Nat) < 100 from by decide) hf
  have f3 : (w_fi ws (n_v vs 2) 10 ≤ v_iv (n_v vs 10)) → (v_iv (n_v vs 11) = (-1)) := f3
  obtain ⟨f4, hf⟩ := fc_un (show (1 : Nat) < 100 from by decide) hf
  have f4 : v_iv (n_v vs 10) = v_iv (n_v vs 9) + v_iv (n_v vs 5) := f4
  obtain ⟨f5, hf⟩ := fc_un (show (10 : Nat) < 100 from by decide) hf
  have f5 : v_iv (n_v vs 9) = w_el ws (v_ad (n_v vs 7)) (v_iv (n_v vs 8)).toNat := f5
  obtain ⟨f6, hf⟩ := fc_un (show (9 : Nat) < 100 from by decide) hf
  have f6 : n_v vs 8 = w_fd ws (v_ad (n_v vs 2)) 158 := f6
  obtain ⟨f7, hf⟩ := fc_un (show (9 : Nat) < 100 from by decide) hf
  have f7 : n_v vs 7 = w_fd ws (v_ad (n_v vs 2)) 162 := f7
  obtain ⟨f8, hf⟩ := fc_un (show (8 : Nat) < 100 from by decide) hf
  have f8 : v_iv (n_v vs 4) ≠ 0 := f8
  obtain ⟨f9, hf⟩ := fc_un (show (7 : Nat) < 100 from by decide) hf
  have f9 : v_iv (n_v vs 5) < v_iv (n_v vs 6) := f9
  obtain ⟨f10, hf⟩ := fc_un (show (20 : Nat) < 100 from by decide) hf
  have f10 : (v_iv (n_v vs 4) = 1) → (w_ei ws (w_ar ws (n_v vs 2) 160) (w_fi ws (n_v vs 2) 158) = 1) := f10
  obtain ⟨f11, hf⟩ := fc_un (show (24 : Nat) < 100 from by decide) hf
  have f11 : n_v vs 0 = n_v vs 2 := f11
  have q2 : n_v vs 2 = n_v vs 0 := f11.symm
  rw [q2] at f2
  rw [q2] at f3
  rw [q2] at f6
  rw [q2] at f7
  rw [q2] at f10
  have cr_0_1 : ta (w_ar ws (n_v vs 0) 1) = some 151 := tv_rg (th_fd hD hth r0 (g := GG_150) rfl (k := 1) (t := (2, 0, 0, [151])) rfl rfl)
  have cr_0_160 : ta (w_ar ws (n_v vs 0) 160) = some 259 := tv_rg (th_fd hD hth r0 (g := GG_150) rfl (k := 160) (t := (2, 0, 0, [259])) rfl rfl)
  have cr_0_162 : ta (w_ar ws (n_v vs 0) 162) = some 261 := tv_rg (th_fd hD hth r0 (g := GG_150) rfl (k := 162) (t := (2, 0, 0, [261])) rfl rfl)
  have ad_7 : v_ad (n_v vs 7) = w_ar ws (n_v vs 0) 162 := congrArg v_ad f7
  rw [ad_7] at f5
  have g6 : v_iv (n_v vs 8) = w_fi ws (n_v vs 0) 158 := congrArg v_iv f6
  have hK_0_1 : ∀ j : Int, 0 ≤ j → j < 2000 → (-128) ≤ w_ei ws (w_ar ws (n_v vs 0) 1) j ∧ w_ei ws (w_ar ws (n_v vs 0) 1) j ≤ 127 := fun j h0 h1 => th_el hD hth cr_0_1 (kd := 1) (n := 2000) (m := 2000) (lo := (-128)) (hi := 127) (rs := []) (L := []) rfl (by decide) (j := j.toNat) (by omega)
  have hK_0_160 : ∀ j : Int, 0 ≤ j → j < 2010 → 0 ≤ w_ei ws (w_ar ws (n_v vs 0) 160) j ∧ w_ei ws (w_ar ws (n_v vs 0) 160) j ≤ 4 := fun j h0 h1 => th_el hD hth cr_0_160 (kd := 0) (n := 2010) (m := 2010) (lo := 0) (hi := 4) (rs := []) (L := []) rfl (by decide) (j := j.toNat) (by omega)
  have kz_0_10 : 0 ≤ w_fi ws (n_v vs 0) 10 ∧ w_fi ws (n_v vs 0) 10 ≤ 2000 := tv_rng (th_fd hD hth r0 (g := GG_150) rfl (k := 10) (t := (0, 0, 2000, [])) rfl rfl)
  have kz_0_158 : 0 ≤ w_fi ws (n_v vs 0) 158 ∧ w_fi ws (n_v vs 0) 158 ≤ 2009 := tv_rng (th_fd hD hth r0 (g := GG_150) rfl (k := 158) (t := (0, 0, 2009, [])) rfl rfl)
  have nf0 : fc_1 (20, [13, 2], [50, 1, 1, 1158, 1160, 4, 6, 1, 2, 1, 0, 0, 1, 1, 6, 3, 1, 160, 2, 1, 158, 0, 1]) ws (vs) := by
    refine ⟨fun n hn => ?_, ?_⟩
    · have hn : n ∈ [13, 2] := hn
      rw [hl]
      simp only [List.mem_cons, List.not_mem_nil, or_false] at hn
      show n < 15; omega
    · show (v_iv (n_v vs 13) = 1) → (w_ei ws (w_ar ws (n_v vs 2) 160) (w_fi ws (n_v vs 2) 158) = 1)
      rw [q2]
      first | omega | grind
  refine ⟨(fun _ h => (by cases h)), [], trivial, ?_, (fun _ h => (by cases h))⟩
  rw [List.append_nil]
  exact List.forall_mem_cons.mpr ⟨⟨show (20 : Nat) < 100 from by decide, nf0⟩, (fun _ h => (by cases h))⟩
def o_Mo_word_at_s5044_7 : or_T := (54, 15, [(0, (2, 0, 0, [150])), (2, (2, 0, 0, [150])), (4, (0, 1, 1, [])), (5, (0, 0, 3, [])), (6, (0, 4, 4, [])), (7, (2, 0, 0, [261])), (8, (0, 0, 2009, [])), (9, (0, 0, 1999, [])), (10, (0, 0, 1999, [])), (11, (0, 0, 255, [])), (12, (0, 0, 65535, [])), (13, (0, 0, 0, [])), (14, (0, 1, 4, []))], [(6, [14, 5], [1]), (7, [11, 12], [1]), (20, [10, 2, 11], [50, 1, 1, 1010, 1001, 4, 11, 0, 6, 4, 2, 1, 0, 0, 1, 2, 1, 10, 1, 2, 1, 2, 9, 5, 3, 1, 1, 1, 0, 0, 256]), (20, [2, 10, 11], [50, 1, 0, 10, 4, 7, 0, 3, 2, 0, 10, 1, 1, 1, 2, 1, 2, 0, -1]), (1, [10, 9, 5], []), (10, [9, 7, 8], []), (9, [8, 2], [158]), (9, [7, 2], [162]), (8, [4], [1]), (7, [5, 6], [2]), (20, [4, 2], [50, 1, 1, 1158, 1160, 4, 6, 1, 2, 1, 0, 0, 1, 1, 6, 3, 1, 160, 2, 1, 158, 0, 1]), (24, [0, 2], [])], [], [], [(20, [13, 2], [50, 1, 1, 1158, 1160, 4, 6, 1, 2, 1, 0, 0, 1, 1, 6, 3, 1, 160, 2, 1, 158, 0, 1])], [], [(14, 5, 1, 1), (10, 5, 0, 2000), (10, 9, 0, 3), (4, 5, -4294967296, 1)])
theorem oo_Mo_word_at_s5044_7 {kA : Nat → ClassId} : or_ok kA GG o_Mo_word_at_s5044_7 := by
  intro A ta ws vs hD hth hl hk hds hf
  have hl : vs.length = 15 := hl
  have hk : ∀ q ∈ ([(0, (2, 0, 0, [150])), (2, (2, 0, 0, [150])), (4, (0, 1, 1, [])), (5, (0, 0, 3, [])), (6, (0, 4, 4, [])), (7, (2, 0, 0, [261])), (8, (0, 0, 2009, [])), (9, (0, 0, 1999, [])), (10, (0, 0, 1999, [])), (11, (0, 0, 255, [])), (12, (0, 0, 65535, [])), (13, (0, 0, 0, [])), (14, (0, 1, 4, []))] : List (Nat × tv_T)), tv_ok ta q.2 (n_v vs q.1) := hk
  obtain ⟨t0, hk⟩ := List.forall_mem_cons.mp hk
  have t0 : tv_ok ta (2, 0, 0, [150]) (n_v vs 0) := t0
  have r0 : ta (v_ad (n_v vs 0)) = some 150 := tv_rg t0
  obtain ⟨t2, hk⟩ := List.forall_mem_cons.mp hk
  have t2 : tv_ok ta (2, 0, 0, [150]) (n_v vs 2) := t2
  have r2 : ta (v_ad (n_v vs 2)) = some 150 := tv_rg t2
  obtain ⟨t4, hk⟩ := List.forall_mem_cons.mp hk
  have t4 : tv_ok ta (0, 1, 1, []) (n_v vs 4) := t4
  have k4 : 1 ≤ v_iv (n_v vs 4) ∧ v_iv (n_v vs 4) ≤ 1 := tv_rng t4
  obtain ⟨t5, hk⟩ := List.forall_mem_cons.mp hk
  have t5 : tv_ok ta (0, 0, 3, []) (n_v vs 5) := t5
  have k5 : 0 ≤ v_iv (n_v vs 5) ∧ v_iv (n_v vs 5) ≤ 3 := tv_rng t5
  obtain ⟨t6, hk⟩ := List.forall_mem_cons.mp hk
  have t6 : tv_ok ta (0, 4, 4, []) (n_v vs 6) := t6
  have k6 : 4 ≤ v_iv (n_v vs 6) ∧ v_iv (n_v vs 6) ≤ 4 := tv_rng t6
  obtain ⟨t7, hk⟩ := List.forall_mem_cons.mp hk
  have t7 : tv_ok ta (2, 0, 0, [261]) (n_v vs 7) := t7
  have r7 : ta (v_ad (n_v vs 7)) = some 261 := tv_rg t7
  obtain ⟨t8, hk⟩ := List.forall_mem_cons.mp hk
  have t8 : tv_ok ta (0, 0, 2009, []) (n_v vs 8) := t8
  have k8 : 0 ≤ v_iv (n_v vs 8) ∧ v_iv (n_v vs 8) ≤ 2009 := tv_rng t8
  obtain ⟨t9, hk⟩ := List.forall_mem_cons.mp hk
  have t9 : tv_ok ta (0, 0, 1999, []) (n_v vs 9) := t9
  have k9 : 0 ≤ v_iv (n_v vs 9) ∧ v_iv (n_v vs 9) ≤ 1999 := tv_rng t9
  obtain ⟨t10, hk⟩ := List.forall_mem_cons.mp hk
  have t10 : tv_ok ta (0, 0, 1999, []) (n_v vs 10) := t10
  have k10 : 0 ≤ v_iv (n_v vs 10) ∧ v_iv (n_v vs 10) ≤ 1999 := tv_rng t10
  obtain ⟨t11, hk⟩ := List.forall_mem_cons.mp hk
  have t11 : tv_ok ta (0, 0, 255, []) (n_v vs 11) := t11
  have k11 : 0 ≤ v_iv (n_v vs 11) ∧ v_iv (n_v vs 11) ≤ 255 := tv_rng t11
  obtain ⟨t12, hk⟩ := List.forall_mem_cons.mp hk
  have t12 : tv_ok ta (0, 0, 65535, []) (n_v vs 12) := t12
  have k12 : 0 ≤ v_iv (n_v vs 12) ∧ v_iv (n_v vs 12) ≤ 65535 := tv_rng t12
  obtain ⟨t13, hk⟩ := List.forall_mem_cons.mp hk
  have t13 : tv_ok ta (0, 0, 0, []) (n_v vs 13) := t13
  have k13 : 0 ≤ v_iv (n_v vs 13) ∧ v_iv (n_v vs 13) ≤ 0 := tv_rng t13
  obtain ⟨t14, hk⟩ := List.forall_mem_cons.mp hk
  have t14 : tv_ok ta (0, 1, 4, []) (n_v vs 14) := t14
  have k14 : 1 ≤ v_iv (n_v vs 14) ∧ v_iv (n_v vs 14) ≤ 4 := tv_rng t14
  have hds : ∀ q ∈ ([(14, 5, 1, 1), (10, 5, 0, 2000), (10, 9, 0, 3), (4, 5, -4294967296, 1)] : List of_T), n_iv vs q.2.1 + q.2.2.1 ≤ n_iv vs q.1 ∧ n_iv vs q.1 ≤ n_iv vs q.2.1 + q.2.2.2 := hds
  obtain ⟨d0, hds⟩ := List.forall_mem_cons.mp hds
  have d0 : v_iv (n_v vs 5) + 1 ≤ v_iv (n_v vs 14) ∧ v_iv (n_v vs 14) ≤ v_iv (n_v vs 5) + 1 := d0
  obtain ⟨d1, hds⟩ := List.forall_mem_cons.mp hds
  have d1 : v_iv (n_v vs 5) + 0 ≤ v_iv (n_v vs 10) ∧ v_iv (n_v vs 10) ≤ v_iv (n_v vs 5) + 2000 := d1
  obtain ⟨d2, hds⟩ := List.forall_mem_cons.mp hds
  have d2 : v_iv (n_v vs 9) + 0 ≤ v_iv (n_v vs 10) ∧ v_iv (n_v vs 10) ≤ v_iv (n_v vs 9) + 3 := d2
  obtain ⟨d3, hds⟩ := List.forall_mem_cons.mp hds
  have d3 : v_iv (n_v vs 5) + (-4294967296) ≤ v_iv (n_v vs 4) ∧ v_iv (n_v vs 4) ≤ v_iv (n_v vs 5) + 1 := d3
  have hf : fc_ok [(6, [14, 5], [1]), (7, [11, 12], [1]), (20, [10, 2, 11], [50, 1, 1, 1010, 1001, 4, 11, 0, 6, 4, 2, 1, 0, 0, 1, 2, 1, 10, 1, 2, 1, 2, 9, 5, 3, 1, 1, 1, 0, 0, 256]), (20, [2, 10, 11], [50, 1, 0, 10, 4, 7, 0, 3, 2, 0, 10, 1, 1, 1, 2, 1, 2, 0, -1]), (1, [10, 9, 5], []), (10, [9, 7, 8], []), (9, [8, 2], [158]), (9, [7, 2], [162]), (8, [4], [1]), (7, [5, 6], [2]), (20, [4, 2], [50, 1, 1, 1158, 1160, 4, 6, 1, 2, 1, 0, 0, 1, 1, 6, 3, 1, 160, 2, 1, 158, 0, 1]), (24, [0, 2], [])] ta ws vs := hf
  obtain ⟨f0, hf⟩ := fc_un (show (6 : Nat) < 100 from by decide) hf
  have f0 : v_iv (n_v vs 14) = v_iv (n_v vs 5) + 1 := f0
  obtain ⟨f1, hf⟩ := fc_un (show (7 : Nat) < 100 from by decide) hf
  have f1 : v_iv (n_v vs 11) ≠ v_iv (n_v vs 12) := f1
  obtain ⟨f2, hf⟩ := fc_un (show (20 : Nat) < 100 from by decide) hf
  have f2 : ((v_iv (n_v vs 10) + 1) ≤ w_fi ws (n_v vs 2) 10) → (v_iv (n_v vs 11) = (w_ei ws (w_ar ws (n_v vs 2) 1) (v_iv (n_v vs 10)) % 256)) := f2
  obtain ⟨f3, hf⟩ := fc_un (show (20 : Nat) < 100 from by decide) hf
  have f3 : (w_fi ws (n_v vs 2) 10 ≤ v_iv (n_v vs 10)) → (v_iv (n_v vs 11) = (-1)) := f3
  obtain ⟨f4, hf⟩ := fc_un (show (1 : Nat) < 100 from by decide) hf
  have f4 : v_iv (n_v vs 10) = v_iv (n_v vs 9) + v_iv (n_v vs 5) := f4
  obtain ⟨f5, hf⟩ := fc_un (show (10 : Nat) < 100 from by decide) hf
  have f5 : v_iv (n_v vs 9) = w_el ws (v_ad (n_v vs 7)) (v_iv (n_v vs 8)).toNat := f5
  obtain ⟨f6, hf⟩ := fc_un (show (9 : Nat) < 100 from by decide) hf
  have f6 : n_v vs 8 = w_fd ws (v_ad (n_v vs 2)) 158 := f6
  obtain ⟨f7, hf⟩ := fc_un (show (9 : Nat) < 100 from by decide) hf
  have f7 : n_v vs 7 = w_fd ws (v_ad (n_v vs 2)) 162 := f7
  obtain ⟨f8, hf⟩ := fc_un (show (8 : Nat) < 100 from by decide) hf
  have f8 : v_iv (n_v vs 4) ≠ 0 := f8
  obtain ⟨f9, hf⟩ := fc_un (show (7 : Nat) < 100 from by decide) hf
  have f9 : v_iv (n_v vs 5) < v_iv (n_v vs 6) := f9
  obtain ⟨f10, hf⟩ := fc_un (show (20 : Nat) < 100 from by decide) hf
  have f10 : (v_iv (n_v vs 4) = 1) → (w_ei ws (w_ar ws (n_v vs 2) 160) (w_fi ws (n_v vs 2) 158) = 1) := f10
  obtain ⟨f11, hf⟩ := fc_un (show (24 : Nat) < 100 from by decide) hf
  have f11 : n_v vs 0 = n_v vs 2 := f11
  have q2 : n_v vs 2 = n_v vs 0 := f11.symm
  rw [q2] at f2
  rw [q2] at f3
  rw [q2] at f6
  rw [q2] at f7
  rw [q2] at f10
  have cr_0_1 : ta (w_ar ws (n_v vs 0) 1) = some 151 := tv_rg (th_fd hD hth r0 (g := GG_150) rfl (k := 1) (t := (2, 0, 0, [151])) rfl rfl)
  have cr_0_160 : ta (w_ar ws (n_v vs 0) 160) = some 259 := tv_rg (th_fd hD hth r0 (g := GG_150) rfl (k := 160) (t := (2, 0, 0, [259])) rfl rfl)
  have cr_0_162 : ta (w_ar ws (n_v vs 0) 162) = some 261 := tv_rg (th_fd hD hth r0 (g := GG_150) rfl (k := 162) (t := (2, 0, 0, [261])) rfl rfl)
  have ad_7 : v_ad (n_v vs 7) = w_ar ws (n_v vs 0) 162 := congrArg v_ad f7
  rw [ad_7] at f5
  have g6 : v_iv (n_v vs 8) = w_fi ws (n_v vs 0) 158 := congrArg v_iv f6
  have hK_0_1 : ∀ j : Int, 0 ≤ j → j < 2000 → (-128) ≤ w_ei ws (w_ar ws (n_v vs 0) 1) j ∧ w_ei ws (w_ar ws (n_v vs 0) 1) j ≤ 127 := fun j h0 h1 => th_el hD hth cr_0_1 (kd := 1) (n := 2000) (m := 2000) (lo := (-128)) (hi := 127) (rs := []) (L := []) rfl (by decide) (j := j.toNat) (by omega)
  have hK_0_160 : ∀ j : Int, 0 ≤ j → j < 2010 → 0 ≤ w_ei ws (w_ar ws (n_v vs 0) 160) j ∧ w_ei ws (w_ar ws (n_v vs 0) 160) j ≤ 4 := fun j h0 h1 => th_el hD hth cr_0_160 (kd := 0) (n := 2010) (m := 2010) (lo := 0) (hi := 4) (rs := []) (L := []) rfl (by decide) (j := j.toNat) (by omega)
  have kz_0_10 : 0 ≤ w_fi ws (n_v vs 0) 10 ∧ w_fi ws (n_v vs 0) 10 ≤ 2000 := tv_rng (th_fd hD hth r0 (g := GG_150) rfl (k := 10) (t := (0, 0, 2000, [])) rfl rfl)
  have kz_0_158 : 0 ≤ w_fi ws (n_v vs 0) 158 ∧ w_fi ws (n_v vs 0) 158 ≤ 2009 := tv_rng (th_fd hD hth r0 (g := GG_150) rfl (k := 158) (t := (0, 0, 2009, [])) rfl rfl)
  have nf0 : fc_1 (20, [13, 2], [50, 1, 1, 1158, 1160, 4, 6, 1, 2, 1, 0, 0, 1, 1, 6, 3, 1, 160, 2, 1, 158, 0, 1]) ws (vs) := by
    refine ⟨fun n hn => ?_, ?_⟩
    · have hn : n ∈ [13, 2] := hn
      rw [hl]
      simp only [List.mem_cons, List.not_mem_nil, or_false] at hn
      show n < 15; omega
    · show (v_iv (n_v vs 13) = 1) → (w_ei ws (w_ar ws (n_v vs 2) 160) (w_fi ws (n_v vs 2) 158) = 1)
      rw [q2]
      first | omega | grind
  refine ⟨(fun _ h => (by cases h)), [], trivial, ?_, (fun _ h => (by cases h))⟩
  rw [List.append_nil]
  exact List.forall_mem_cons.mpr ⟨⟨show (20 : Nat) < 100 from by decide, nf0⟩, (fun _ h => (by cases h))⟩
def o_Mo_word_at_s5044_8 : or_T := (54, 15, [(0, (2, 0, 0, [150])), (2, (2, 0, 0, [150])), (4, (0, 1, 1, [])), (5, (0, 0, 3, [])), (6, (0, 4, 4, [])), (7, (2, 0, 0, [261])), (8, (0, 0, 2009, [])), (9, (0, 0, 1999, [])), (10, (0, 0, 1999, [])), (11, (0, 0, 255, [])), (12, (0, 0, 255, [])), (13, (0, 1, 1, [])), (14, (0, 1, 4, []))], [(6, [14, 5], [1]), (7, [11, 12], [0]), (20, [10, 2, 11], [50, 1, 1, 1010, 1001, 4, 11, 0, 6, 4, 2, 1, 0, 0, 1, 2, 1, 10, 1, 2, 1, 2, 9, 5, 3, 1, 1, 1, 0, 0, 256]), (20, [2, 10, 11], [50, 1, 0, 10, 4, 7, 0, 3, 2, 0, 10, 1, 1, 1, 2, 1, 2, 0, -1]), (1, [10, 9, 5], []), (10, [9, 7, 8], []), (9, [8, 2], [158]), (9, [7, 2], [162]), (8, [4], [1]), (7, [5, 6], [2]), (20, [4, 2], [50, 1, 1, 1158, 1160, 4, 6, 1, 2, 1, 0, 0, 1, 1, 6, 3, 1, 160, 2, 1, 158, 0, 1]), (24, [0, 2], [])], [], [], [(20, [13, 2], [50, 1, 1, 1158, 1160, 4, 6, 1, 2, 1, 0, 0, 1, 1, 6, 3, 1, 160, 2, 1, 158, 0, 1])], [], [(14, 5, 1, 1), (11, 12, 0, 0), (10, 5, 0, 2000), (10, 9, 0, 3), (4, 5, -4294967296, 1)])
theorem oo_Mo_word_at_s5044_8 {kA : Nat → ClassId} : or_ok kA GG o_Mo_word_at_s5044_8 := by
  intro A ta ws vs hD hth hl hk hds hf
  have hl : vs.length = 15 := hl
  have hk : ∀ q ∈ ([(0, (2, 0, 0, [150])), (2, (2, 0, 0, [150])), (4, (0, 1, 1, [])), (5, (0, 0, 3, [])), (6, (0, 4, 4, [])), (7, (2, 0, 0, [261])), (8, (0, 0, 2009, [])), (9, (0, 0, 1999, [])), (10, (0, 0, 1999, [])), (11, (0, 0, 255, [])), (12, (0, 0, 255, [])), (13, (0, 1, 1, [])), (14, (0, 1, 4, []))] : List (Nat × tv_T)), tv_ok ta q.2 (n_v vs q.1) := hk
  obtain ⟨t0, hk⟩ := List.forall_mem_cons.mp hk
  have t0 : tv_ok ta (2, 0, 0, [150]) (n_v vs 0) := t0
  have r0 : ta (v_ad (n_v vs 0)) = some 150 := tv_rg t0
  obtain ⟨t2, hk⟩ := List.forall_mem_cons.mp hk
  have t2 : tv_ok ta (2, 0, 0, [150]) (n_v vs 2) := t2
  have r2 : ta (v_ad (n_v vs 2)) = some 150 := tv_rg t2
  obtain ⟨t4, hk⟩ := List.forall_mem_cons.mp hk
  have t4 : tv_ok ta (0, 1, 1, []) (n_v vs 4) := t4
  have k4 : 1 ≤ v_iv (n_v vs 4) ∧ v_iv (n_v vs 4) ≤ 1 := tv_rng t4
  obtain ⟨t5, hk⟩ := List.forall_mem_cons.mp hk
  have t5 : tv_ok ta (0, 0, 3, []) (n_v vs 5) := t5
  have k5 : 0 ≤ v_iv (n_v vs 5) ∧ v_iv (n_v vs 5) ≤ 3 := tv_rng t5
  obtain ⟨t6, hk⟩ := List.forall_mem_cons.mp hk
  have t6 : tv_ok ta (0, 4, 4, []) (n_v vs 6) := t6
  have k6 : 4 ≤ v_iv (n_v vs 6) ∧ v_iv (n_v vs 6) ≤ 4 := tv_rng t6
  obtain ⟨t7, hk⟩ := List.forall_mem_cons.mp hk
  have t7 : tv_ok ta (2, 0, 0, [261]) (n_v vs 7) := t7
  have r7 : ta (v_ad (n_v vs 7)) = some 261 := tv_rg t7
  obtain ⟨t8, hk⟩ := List.forall_mem_cons.mp hk
  have t8 : tv_ok ta (0, 0, 2009, []) (n_v vs 8) := t8
  have k8 : 0 ≤ v_iv (n_v vs 8) ∧ v_iv (n_v vs 8) ≤ 2009 := tv_rng t8
  obtain ⟨t9, hk⟩ := List.forall_mem_cons.mp hk
  have t9 : tv_ok ta (0, 0, 1999, []) (n_v vs 9) := t9
  have k9 : 0 ≤ v_iv (n_v vs 9) ∧ v_iv (n_v vs 9) ≤ 1999 := tv_rng t9
  obtain ⟨t10, hk⟩ := List.forall_mem_cons.mp hk
  have t10 : tv_ok ta (0, 0, 1999, []) (n_v vs 10) := t10
  have k10 : 0 ≤ v_iv (n_v vs 10) ∧ v_iv (n_v vs 10) ≤ 1999 := tv_rng t10
  obtain ⟨t11, hk⟩ := List.forall_mem_cons.mp hk
  have t11 : tv_ok ta (0, 0, 255, []) (n_v vs 11) := t11
  have k11 : 0 ≤ v_iv (n_v vs 11) ∧ v_iv (n_v vs 11) ≤ 255 := tv_rng t11
  obtain ⟨t12, hk⟩ := List.forall_mem_cons.mp hk
  have t12 : tv_ok ta (0, 0, 255, []) (n_v vs 12) := t12
  have k12 : 0 ≤ v_iv (n_v vs 12) ∧ v_iv (n_v vs 12) ≤ 255 := tv_rng t12
  obtain ⟨t13, hk⟩ := List.forall_mem_cons.mp hk
  have t13 : tv_ok ta (0, 1, 1, []) (n_v vs 13) := t13
  have k13 : 1 ≤ v_iv (n_v vs 13) ∧ v_iv (n_v vs 13) ≤ 1 := tv_rng t13
  obtain ⟨t14, hk⟩ := List.forall_mem_cons.mp hk
  have t14 : tv_ok ta (0, 1, 4, []) (n_v vs 14) := t14
  have k14 : 1 ≤ v_iv (n_v vs 14) ∧ v_iv (n_v vs 14) ≤ 4 := tv_rng t14
  have hds : ∀ q ∈ ([(14, 5, 1, 1), (11, 12, 0, 0), (10, 5, 0, 2000), (10, 9, 0, 3), (4, 5, -4294967296, 1)] : List of_T), n_iv vs q.2.1 + q.2.2.1 ≤ n_iv vs q.1 ∧ n_iv vs q.1 ≤ n_iv vs q.2.1 + q.2.2.2 := hds
  obtain ⟨d0, hds⟩ := List.forall_mem_cons.mp hds
  have d0 : v_iv (n_v vs 5) + 1 ≤ v_iv (n_v vs 14) ∧ v_iv (n_v vs 14) ≤ v_iv (n_v vs 5) + 1 := d0
  obtain ⟨d1, hds⟩ := List.forall_mem_cons.mp hds
  have d1 : v_iv (n_v vs 12) + 0 ≤ v_iv (n_v vs 11) ∧ v_iv (n_v vs 11) ≤ v_iv (n_v vs 12) + 0 := d1
  obtain ⟨d2, hds⟩ := List.forall_mem_cons.mp hds
  have d2 : v_iv (n_v vs 5) + 0 ≤ v_iv (n_v vs 10) ∧ v_iv (n_v vs 10) ≤ v_iv (n_v vs 5) + 2000 := d2
  obtain ⟨d3, hds⟩ := List.forall_mem_cons.mp hds
  have d3 : v_iv (n_v vs 9) + 0 ≤ v_iv (n_v vs 10) ∧ v_iv (n_v vs 10) ≤ v_iv (n_v vs 9) + 3 := d3
  obtain ⟨d4, hds⟩ := List.forall_mem_cons.mp hds
  have d4 : v_iv (n_v vs 5) + (-4294967296) ≤ v_iv (n_v vs 4) ∧ v_iv (n_v vs 4) ≤ v_iv (n_v vs 5) + 1 := d4
  have hf : fc_ok [(6, [14, 5], [1]), (7, [11, 12], [0]), (20, [10, 2, 11], [50, 1, 1, 1010, 1001, 4, 11, 0, 6, 4, 2, 1, 0, 0, 1, 2, 1, 10, 1, 2, 1, 2, 9, 5, 3, 1, 1, 1, 0, 0, 256]), (20, [2, 10, 11], [50, 1, 0, 10, 4, 7, 0, 3, 2, 0, 10, 1, 1, 1, 2, 1, 2, 0, -1]), (1, [10, 9, 5], []), (10, [9, 7, 8], []), (9, [8, 2], [158]), (9, [7, 2], [162]), (8, [4], [1]), (7, [5, 6], [2]), (20, [4, 2], [50, 1, 1, 1158, 1160, 4, 6, 1, 2, 1, 0, 0, 1, 1, 6, 3, 1, 160, 2, 1, 158, 0, 1]), (24, [0, 2], [])] ta ws vs := hf
  obtain ⟨f0, hf⟩ := fc_un (show (6 : Nat) < 100 from by decide) hf
  have f0 : v_iv (n_v vs 14) = v_iv (n_v vs 5) + 1 := f0
  obtain ⟨f1, hf⟩ := fc_un (show (7 : Nat) < 100 from by decide) hf
  have f1 : v_iv (n_v vs 11) = v_iv (n_v vs 12) := f1
  obtain ⟨f2, hf⟩ := fc_un (show (20 : Nat) < 100 from by decide) hf
  have f2 : ((v_iv (n_v vs 10) + 1) ≤ w_fi ws (n_v vs 2) 10) → (v_iv (n_v vs 11) = (w_ei ws (w_ar ws (n_v vs 2) 1) (v_iv (n_v vs 10)) % 256)) := f2
  obtain ⟨f3, hf⟩ := fc_un (show (20 : Nat) < 100 from by decide) hf
  have f3 : (w_fi ws (n_v vs 2) 10 ≤ v_iv (n_v vs 10)) → (v_iv (n_v vs 11) = (-1)) := f3
  obtain ⟨f4, hf⟩ := fc_un (show (1 : Nat) < 100 from by decide) hf
  have f4 : v_iv (n_v vs 10) = v_iv (n_v vs 9) + v_iv (n_v vs 5) := f4
  obtain ⟨f5, hf⟩ := fc_un (show (10 : Nat) < 100 from by decide) hf
  have f5 : v_iv (n_v vs 9) = w_el ws (v_ad (n_v vs 7)) (v_iv (n_v vs 8)).toNat := f5
  obtain ⟨f6, hf⟩ := fc_un (show (9 : Nat) < 100 from by decide) hf
  have f6 : n_v vs 8 = w_fd ws (v_ad (n_v vs 2)) 158 := f6
  obtain ⟨f7, hf⟩ := fc_un (show (9 : Nat) < 100 from by decide) hf
  have f7 : n_v vs 7 = w_fd ws (v_ad (n_v vs 2)) 162 := f7
  obtain ⟨f8, hf⟩ := fc_un (show (8 : Nat) < 100 from by decide) hf
  have f8 : v_iv (n_v vs 4) ≠ 0 := f8
  obtain ⟨f9, hf⟩ := fc_un (show (7 : Nat) < 100 from by decide) hf
  have f9 : v_iv (n_v vs 5) < v_iv (n_v vs 6) := f9
  obtain ⟨f10, hf⟩ := fc_un (show (20 : Nat) < 100 from by decide) hf
  have f10 : (v_iv (n_v vs 4) = 1) → (w_ei ws (w_ar ws (n_v vs 2) 160) (w_fi ws (n_v vs 2) 158) = 1) := f10
  obtain ⟨f11, hf⟩ := fc_un (show (24 : Nat) < 100 from by decide) hf
  have f11 : n_v vs 0 = n_v vs 2 := f11
  have q2 : n_v vs 2 = n_v vs 0 := f11.symm
  rw [q2] at f2
  rw [q2] at f3
  rw [q2] at f6
  rw [q2] at f7
  rw [q2] at f10
  have cr_0_1 : ta (w_ar ws (n_v vs 0) 1) = some 151 := tv_rg (th_fd hD hth r0 (g := GG_150) rfl (k := 1) (t := (2, 0, 0, [151])) rfl rfl)
  have cr_0_160 : ta (w_ar ws (n_v vs 0) 160) = some 259 := tv_rg (th_fd hD hth r0 (g := GG_150) rfl (k := 160) (t := (2, 0, 0, [259])) rfl rfl)
  have cr_0_162 : ta (w_ar ws (n_v vs 0) 162) = some 261 := tv_rg (th_fd hD hth r0 (g := GG_150) rfl (k := 162) (t := (2, 0, 0, [261])) rfl rfl)
  have ad_7 : v_ad (n_v vs 7) = w_ar ws (n_v vs 0) 162 := congrArg v_ad f7
  rw [ad_7] at f5
  have g6 : v_iv (n_v vs 8) = w_fi ws (n_v vs 0) 158 := congrArg v_iv f6
  have hK_0_1 : ∀ j : Int, 0 ≤ j → j < 2000 → (-128) ≤ w_ei ws (w_ar ws (n_v vs 0) 1) j ∧ w_ei ws (w_ar ws (n_v vs 0) 1) j ≤ 127 := fun j h0 h1 => th_el hD hth cr_0_1 (kd := 1) (n := 2000) (m := 2000) (lo := (-128)) (hi := 127) (rs := []) (L := []) rfl (by decide) (j := j.toNat) (by omega)
  have hK_0_160 : ∀ j : Int, 0 ≤ j → j < 2010 → 0 ≤ w_ei ws (w_ar ws (n_v vs 0) 160) j ∧ w_ei ws (w_ar ws (n_v vs 0) 160) j ≤ 4 := fun j h0 h1 => th_el hD hth cr_0_160 (kd := 0) (n := 2010) (m := 2010) (lo := 0) (hi := 4) (rs := []) (L := []) rfl (by decide) (j := j.toNat) (by omega)
  have kz_0_10 : 0 ≤ w_fi ws (n_v vs 0) 10 ∧ w_fi ws (n_v vs 0) 10 ≤ 2000 := tv_rng (th_fd hD hth r0 (g := GG_150) rfl (k := 10) (t := (0, 0, 2000, [])) rfl rfl)
  have kz_0_158 : 0 ≤ w_fi ws (n_v vs 0) 158 ∧ w_fi ws (n_v vs 0) 158 ≤ 2009 := tv_rng (th_fd hD hth r0 (g := GG_150) rfl (k := 158) (t := (0, 0, 2009, [])) rfl rfl)
  have nf0 : fc_1 (20, [13, 2], [50, 1, 1, 1158, 1160, 4, 6, 1, 2, 1, 0, 0, 1, 1, 6, 3, 1, 160, 2, 1, 158, 0, 1]) ws (vs) := by
    refine ⟨fun n hn => ?_, ?_⟩
    · have hn : n ∈ [13, 2] := hn
      rw [hl]
      simp only [List.mem_cons, List.not_mem_nil, or_false] at hn
      show n < 15; omega
    · show (v_iv (n_v vs 13) = 1) → (w_ei ws (w_ar ws (n_v vs 2) 160) (w_fi ws (n_v vs 2) 158) = 1)
      rw [q2]
      first | omega | grind
  refine ⟨(fun _ h => (by cases h)), [], trivial, ?_, (fun _ h => (by cases h))⟩
  rw [List.append_nil]
  exact List.forall_mem_cons.mpr ⟨⟨show (20 : Nat) < 100 from by decide, nf0⟩, (fun _ h => (by cases h))⟩
def n_Mo_word_at_s5044_an : List an_T := [(54, [(0, (2, 0, 0, [150])), (1, (2, 0, 0, [5044])), (2, (0, 0, 1, [])), (3, (0, 0, 4, []))], [], (0, 0), [(0, 0, 99946), (1, 5, 4), (0, 0, 100000)], [(4, 5, -1000000000000, 1)], [], [(2, 0, 0, [150]), (2, 0, 0, [5044])], 0, [], [(20, [4, 2], [50, 1, 1, 1158, 1160, 4, 6, 1, 2, 1, 0, 0, 1, 1, 6, 3, 1, 160, 2, 1, 158, 0, 1]), (24, [0, 2], [])])]
def t_Mo_word_at_s5044_ct : ct_L := [(1, 425, e_Mo_byteAt), (124, 448, e_jStr_length_v323), (172, 448, e_jStr_length_v323), (253, 453, e_jStr_charAt_v324)]
set_option maxRecDepth 100000 in
theorem c_Mo_word_at_s5044 {l : Launch} {D : va_G} {kA : Nat → ClassId} (h_Mo_byteAt : ct_ok l D kA GG y_Mo_byteAt z_Mo_byteAt e_Mo_byteAt) : ct_ok l D kA GG y_Mo_word_at_s5044 z_Mo_word_at_s5044 e_Mo_word_at_s5044 := chk_all_ok (FT := [(342, 13, 160), (348, 13, 162), (351, 13, 163), (413, 13, 8), (1169, 13, 158)]) (PT := []) (CT := t_Mo_word_at_s5044_ct) (KT := []) (NT := []) (AN := n_Mo_word_at_s5044_an) (OT := [o_Mo_word_at_s5044_0, o_Mo_word_at_s5044_1, o_Mo_word_at_s5044_2, o_Mo_word_at_s5044_3, o_Mo_word_at_s5044_4, o_Mo_word_at_s5044_5, o_Mo_word_at_s5044_6, o_Mo_word_at_s5044_7, o_Mo_word_at_s5044_8]) 3 324 (List.forall_mem_cons.mpr ⟨oo_Mo_word_at_s5044_0, List.forall_mem_cons.mpr ⟨oo_Mo_word_at_s5044_1, List.forall_mem_cons.mpr ⟨oo_Mo_word_at_s5044_2, List.forall_mem_cons.mpr ⟨oo_Mo_word_at_s5044_3, List.forall_mem_cons.mpr ⟨oo_Mo_word_at_s5044_4, List.forall_mem_cons.mpr ⟨oo_Mo_word_at_s5044_5, List.forall_mem_cons.mpr ⟨oo_Mo_word_at_s5044_6, List.forall_mem_cons.mpr ⟨oo_Mo_word_at_s5044_7, List.forall_mem_cons.mpr ⟨oo_Mo_word_at_s5044_8, List.forall_mem_nil _⟩⟩⟩⟩⟩⟩⟩⟩⟩) (by decide +kernel) ⟨List.forall_mem_cons.mpr ⟨gf_Mo_342, List.forall_mem_cons.mpr ⟨gf_Mo_348, List.forall_mem_cons.mpr ⟨gf_Mo_351, List.forall_mem_cons.mpr ⟨gf_Mo_413, List.forall_mem_cons.mpr ⟨gf_Mo_1169, List.forall_mem_nil _⟩⟩⟩⟩⟩, List.forall_mem_nil _, List.forall_mem_cons.mpr ⟨cl_virtual (y := y_Mo_byteAt) (ci := 13) rfl rfl ⟨_, _, rfl⟩ (by decide +kernel) h_Mo_byteAt wm_2986 wm_9 wm_2983 wm_2985 wv_12_12 ⟨by decide, by decide, by decide +kernel⟩ (by decide), List.forall_mem_cons.mpr ⟨cl_string (y := y_jStr_length) (i := 44) rfl rfl (by decide +kernel) rfl c_jStr_length_v323 wm_674 wm_11 wm_3003 wm_672 wm_673 ⟨by decide, by decide, by decide +kernel⟩ (by decide), List.forall_mem_cons.mpr ⟨cl_string (y := y_jStr_length) (i := 44) rfl rfl (by decide +kernel) rfl c_jStr_length_v323 wm_674 wm_11 wm_3003 wm_672 wm_673 ⟨by decide, by decide, by decide +kernel⟩ (by decide), List.forall_mem_cons.mpr ⟨cl_string (y := y_jStr_charAt) (i := 44) rfl rfl (by decide +kernel) rfl c_jStr_charAt_v324 wm_684 wm_11 wm_3004 wm_682 wm_683 ⟨by decide, by decide, by decide +kernel⟩ (by decide), List.forall_mem_nil _⟩⟩⟩⟩, List.forall_mem_nil _, List.forall_mem_nil _, GG_pl⟩ (by decide +kernel)
def o_Mo_isName_0 : or_T := (33, 4, [(0, (2, 0, 0, [150])), (1, (0, 0, 4, [])), (2, (0, 1, 1, [])), (3, (0, 0, 0, []))], [(7, [1, 2], [1]), (9, [1, 0], [12])], [], [], [(20, [3, 0], [50, 1, 0, 1012, 4, 6, 1, 2, 1, 0, 0, 1, 1, 3, 2, 1, 12, 0, 1])], [], [])
theorem oo_Mo_isName_0 {kA : Nat → ClassId} : or_ok kA GG o_Mo_isName_0 := by
  intro A ta ws vs hD hth hl hk hds hf
  have hl : vs.length = 4 := hl
  have hk : ∀ q ∈ ([(0, (2, 0, 0, [150])), (1, (0, 0, 4, [])), (2, (0, 1, 1, [])), (3, (0, 0, 0, []))] : List (Nat × tv_T)), tv_ok ta q.2 (n_v vs q.1) := hk
  obtain ⟨t0, hk⟩ := List.forall_mem_cons.mp hk
  have t0 : tv_ok ta (2, 0, 0, [150]) (n_v vs 0) := t0
  have r0 : ta (v_ad (n_v vs 0)) = some 150 := tv_rg t0
  obtain ⟨t1, hk⟩ := List.forall_mem_cons.mp hk
  have t1 : tv_ok ta (0, 0, 4, []) (n_v vs 1) := t1
  have k1 : 0 ≤ v_iv (n_v vs 1) ∧ v_iv (n_v vs 1) ≤ 4 := tv_rng t1
  obtain ⟨t2, hk⟩ := List.forall_mem_cons.mp hk
  have t2 : tv_ok ta (0, 1, 1, []) (n_v vs 2) := t2
  have k2 : 1 ≤ v_iv (n_v vs 2) ∧ v_iv (n_v vs 2) ≤ 1 := tv_rng t2
  obtain ⟨t3, hk⟩ := List.forall_mem_cons.mp hk
  have t3 : tv_ok ta (0, 0, 0, []) (n_v vs 3) := t3
  have k3 : 0 ≤ v_iv (n_v vs 3) ∧ v_iv (n_v vs 3) ≤ 0 := tv_rng t3
  have hf : fc_ok [(7, [1, 2], [1]), (9, [1, 0], [12])] ta ws vs := hf
  obtain ⟨f0, hf⟩ := fc_un (show (7 : Nat) < 100 from by decide) hf
  have f0 : v_iv (n_v vs 1) ≠ v_iv (n_v vs 2) := f0
  obtain ⟨f1, hf⟩ := fc_un (show (9 : Nat) < 100 from by decide) hf
  have f1 : n_v vs 1 = w_fd ws (v_ad (n_v vs 0)) 12 := f1
  have g1 : v_iv (n_v vs 1) = w_fi ws (n_v vs 0) 12 := congrArg v_iv f1
  have kz_0_12 : 0 ≤ w_fi ws (n_v vs 0) 12 ∧ w_fi ws (n_v vs 0) 12 ≤ 4 := tv_rng (th_fd hD hth r0 (g := GG_150) rfl (k := 12) (t := (0, 0, 4, [])) rfl rfl)
  have nf0 : fc_1 (20, [3, 0], [50, 1, 0, 1012, 4, 6, 1, 2, 1, 0, 0, 1, 1, 3, 2, 1, 12, 0, 1]) ws (vs) := by
    refine ⟨fun n hn => ?_, ?_⟩
    · have hn : n ∈ [3, 0] := hn
      rw [hl]
      simp only [List.mem_cons, List.not_mem_nil, or_false] at hn
      show n < 4; omega
    · show (v_iv (n_v vs 3) = 1) → (w_fi ws (n_v vs 0) 12 = 1)
      first | omega | grind
  refine ⟨(fun _ h => (by cases h)), [], trivial, ?_, (fun _ h => (by cases h))⟩
  rw [List.append_nil]
  exact List.forall_mem_cons.mpr ⟨⟨show (20 : Nat) < 100 from by decide, nf0⟩, (fun _ h => (by cases h))⟩
def o_Mo_isName_1 : or_T := (8, 3, [(0, (2, 0, 0, [150])), (1, (0, 1, 1, [])), (2, (0, 1, 1, []))], [(7, [1, 2], [0]), (9, [1, 0], [12])], [], [], [(20, [0], [50, 1, 0, 12, 1, 3, 2, 0, 12, 0, 1])], [], [])
theorem oo_Mo_isName_1 {kA : Nat → ClassId} : or_ok kA GG o_Mo_isName_1 := by
  intro A ta ws vs hD hth hl hk hds hf
  have hl : vs.length = 3 := hl
  have hk : ∀ q ∈ ([(0, (2, 0, 0, [150])), (1, (0, 1, 1, [])), (2, (0, 1, 1, []))] : List (Nat × tv_T)), tv_ok ta q.2 (n_v vs q.1) := hk
  obtain ⟨t0, hk⟩ := List.forall_mem_cons.mp hk
  have t0 : tv_ok ta (2, 0, 0, [150]) (n_v vs 0) := t0
  have r0 : ta (v_ad (n_v vs 0)) = some 150 := tv_rg t0
  obtain ⟨t1, hk⟩ := List.forall_mem_cons.mp hk
  have t1 : tv_ok ta (0, 1, 1, []) (n_v vs 1) := t1
  have k1 : 1 ≤ v_iv (n_v vs 1) ∧ v_iv (n_v vs 1) ≤ 1 := tv_rng t1
  obtain ⟨t2, hk⟩ := List.forall_mem_cons.mp hk
  have t2 : tv_ok ta (0, 1, 1, []) (n_v vs 2) := t2
  have k2 : 1 ≤ v_iv (n_v vs 2) ∧ v_iv (n_v vs 2) ≤ 1 := tv_rng t2
  have hf : fc_ok [(7, [1, 2], [0]), (9, [1, 0], [12])] ta ws vs := hf
  obtain ⟨f0, hf⟩ := fc_un (show (7 : Nat) < 100 from by decide) hf
  have f0 : v_iv (n_v vs 1) = v_iv (n_v vs 2) := f0
  obtain ⟨f1, hf⟩ := fc_un (show (9 : Nat) < 100 from by decide) hf
  have f1 : n_v vs 1 = w_fd ws (v_ad (n_v vs 0)) 12 := f1
  have g1 : v_iv (n_v vs 1) = w_fi ws (n_v vs 0) 12 := congrArg v_iv f1
  have kz_0_12 : 0 ≤ w_fi ws (n_v vs 0) 12 ∧ w_fi ws (n_v vs 0) 12 ≤ 4 := tv_rng (th_fd hD hth r0 (g := GG_150) rfl (k := 12) (t := (0, 0, 4, [])) rfl rfl)
  have nf0 : fc_1 (20, [0], [50, 1, 0, 12, 1, 3, 2, 0, 12, 0, 1]) ws (vs) := by
    refine ⟨fun n hn => ?_, ?_⟩
    · have hn : n ∈ [0] := hn
      rw [hl]
      simp only [List.mem_cons, List.not_mem_nil, or_false] at hn
      show n < 3; omega
    · show w_fi ws (n_v vs 0) 12 = 1
      first | omega | grind
  refine ⟨(fun _ h => (by cases h)), [], trivial, ?_, (fun _ h => (by cases h))⟩
  rw [List.append_nil]
  exact List.forall_mem_cons.mpr ⟨⟨show (20 : Nat) < 100 from by decide, nf0⟩, (fun _ h => (by cases h))⟩
def o_Mo_isName_2 : or_T := (33, 6, [(0, (2, 0, 0, [150])), (4, (0, 1, 1, [])), (5, (0, 0, 0, []))], [(8, [4], [1]), (20, [0], [50, 1, 0, 12, 1, 3, 2, 0, 12, 0, 1]), (20, [4, 0], [50, 1, 0, 1012, 4, 6, 1, 2, 1, 0, 0, 1, 1, 3, 2, 1, 12, 0, 1])], [], [], [(20, [5, 0], [50, 1, 0, 1012, 4, 6, 1, 2, 1, 0, 0, 1, 1, 3, 2, 1, 12, 0, 1])], [], [])
theorem oo_Mo_isName_2 {kA : Nat → ClassId} : or_ok kA GG o_Mo_isName_2 := by
  intro A ta ws vs hD hth hl hk hds hf
  have hl : vs.length = 6 := hl
  have hk : ∀ q ∈ ([(0, (2, 0, 0, [150])), (4, (0, 1, 1, [])), (5, (0, 0, 0, []))] : List (Nat × tv_T)), tv_ok ta q.2 (n_v vs q.1) := hk
  obtain ⟨t0, hk⟩ := List.forall_mem_cons.mp hk
  have t0 : tv_ok ta (2, 0, 0, [150]) (n_v vs 0) := t0
  have r0 : ta (v_ad (n_v vs 0)) = some 150 := tv_rg t0
  obtain ⟨t4, hk⟩ := List.forall_mem_cons.mp hk
  have t4 : tv_ok ta (0, 1, 1, []) (n_v vs 4) := t4
  have k4 : 1 ≤ v_iv (n_v vs 4) ∧ v_iv (n_v vs 4) ≤ 1 := tv_rng t4
  obtain ⟨t5, hk⟩ := List.forall_mem_cons.mp hk
  have t5 : tv_ok ta (0, 0, 0, []) (n_v vs 5) := t5
  have k5 : 0 ≤ v_iv (n_v vs 5) ∧ v_iv (n_v vs 5) ≤ 0 := tv_rng t5
  have hf : fc_ok [(8, [4], [1]), (20, [0], [50, 1, 0, 12, 1, 3, 2, 0, 12, 0, 1]), (20, [4, 0], [50, 1, 0, 1012, 4, 6, 1, 2, 1, 0, 0, 1, 1, 3, 2, 1, 12, 0, 1])] ta ws vs := hf
  obtain ⟨f0, hf⟩ := fc_un (show (8 : Nat) < 100 from by decide) hf
  have f0 : v_iv (n_v vs 4) ≠ 0 := f0
  obtain ⟨f1, hf⟩ := fc_un (show (20 : Nat) < 100 from by decide) hf
  have f1 : w_fi ws (n_v vs 0) 12 = 1 := f1
  obtain ⟨f2, hf⟩ := fc_un (show (20 : Nat) < 100 from by decide) hf
  have f2 : (v_iv (n_v vs 4) = 1) → (w_fi ws (n_v vs 0) 12 = 1) := f2
  have kz_0_12 : 0 ≤ w_fi ws (n_v vs 0) 12 ∧ w_fi ws (n_v vs 0) 12 ≤ 4 := tv_rng (th_fd hD hth r0 (g := GG_150) rfl (k := 12) (t := (0, 0, 4, [])) rfl rfl)
  have nf0 : fc_1 (20, [5, 0], [50, 1, 0, 1012, 4, 6, 1, 2, 1, 0, 0, 1, 1, 3, 2, 1, 12, 0, 1]) ws (vs) := by
    refine ⟨fun n hn => ?_, ?_⟩
    · have hn : n ∈ [5, 0] := hn
      rw [hl]
      simp only [List.mem_cons, List.not_mem_nil, or_false] at hn
      show n < 6; omega
    · show (v_iv (n_v vs 5) = 1) → (w_fi ws (n_v vs 0) 12 = 1)
      first | omega | grind
  refine ⟨(fun _ h => (by cases h)), [], trivial, ?_, (fun _ h => (by cases h))⟩
  rw [List.append_nil]
  exact List.forall_mem_cons.mpr ⟨⟨show (20 : Nat) < 100 from by decide, nf0⟩, (fun _ h => (by cases h))⟩
def o_Mo_isName_3 : or_T := (33, 8, [(0, (2, 0, 0, [150])), (4, (0, 0, 0, [])), (6, (0, 1, 1, [])), (7, (0, 0, 0, []))], [(8, [6], [1]), (20, [0], [50, 1, 0, 12, 1, 3, 2, 0, 12, 0, 1]), (20, [4, 0], [50, 1, 0, 1012, 4, 6, 1, 2, 1, 0, 0, 1, 1, 3, 2, 1, 12, 0, 1]), (20, [6, 0], [50, 1, 0, 1012, 4, 6, 1, 2, 1, 0, 0, 1, 1, 3, 2, 1, 12, 0, 1]), (102, [5], [0]), (8, [4], [0])], [], [], [(20, [7, 0], [50, 1, 0, 1012, 4, 6, 1, 2, 1, 0, 0, 1, 1, 3, 2, 1, 12, 0, 1])], [], [])
theorem oo_Mo_isName_3 {kA : Nat → ClassId} : or_ok kA GG o_Mo_isName_3 := by
  intro A ta ws vs hD hth hl hk hds hf
  have hl : vs.length = 8 := hl
  have hk : ∀ q ∈ ([(0, (2, 0, 0, [150])), (4, (0, 0, 0, [])), (6, (0, 1, 1, [])), (7, (0, 0, 0, []))] : List (Nat × tv_T)), tv_ok ta q.2 (n_v vs q.1) := hk
  obtain ⟨t0, hk⟩ := List.forall_mem_cons.mp hk
  have t0 : tv_ok ta (2, 0, 0, [150]) (n_v vs 0) := t0
  have r0 : ta (v_ad (n_v vs 0)) = some 150 := tv_rg t0
  obtain ⟨t4, hk⟩ := List.forall_mem_cons.mp hk
  have t4 : tv_ok ta (0, 0, 0, []) (n_v vs 4) := t4
  have k4 : 0 ≤ v_iv (n_v vs 4) ∧ v_iv (n_v vs 4) ≤ 0 := tv_rng t4
  obtain ⟨t6, hk⟩ := List.forall_mem_cons.mp hk
  have t6 : tv_ok ta (0, 1, 1, []) (n_v vs 6) := t6
  have k6 : 1 ≤ v_iv (n_v vs 6) ∧ v_iv (n_v vs 6) ≤ 1 := tv_rng t6
  obtain ⟨t7, hk⟩ := List.forall_mem_cons.mp hk
  have t7 : tv_ok ta (0, 0, 0, []) (n_v vs 7) := t7
  have k7 : 0 ≤ v_iv (n_v vs 7) ∧ v_iv (n_v vs 7) ≤ 0 := tv_rng t7
  have hf : fc_ok [(8, [6], [1]), (20, [0], [50, 1, 0, 12, 1, 3, 2, 0, 12, 0, 1]), (20, [4, 0], [50, 1, 0, 1012, 4, 6, 1, 2, 1, 0, 0, 1, 1, 3, 2, 1, 12, 0, 1]), (20, [6, 0], [50, 1, 0, 1012, 4, 6, 1, 2, 1, 0, 0, 1, 1, 3, 2, 1, 12, 0, 1]), (102, [5], [0]), (8, [4], [0])] ta ws vs := hf
  obtain ⟨f0, hf⟩ := fc_un (show (8 : Nat) < 100 from by decide) hf
  have f0 : v_iv (n_v vs 6) ≠ 0 := f0
  obtain ⟨f1, hf⟩ := fc_un (show (20 : Nat) < 100 from by decide) hf
  have f1 : w_fi ws (n_v vs 0) 12 = 1 := f1
  obtain ⟨f2, hf⟩ := fc_un (show (20 : Nat) < 100 from by decide) hf
  have f2 : (v_iv (n_v vs 4) = 1) → (w_fi ws (n_v vs 0) 12 = 1) := f2
  obtain ⟨f3, hf⟩ := fc_un (show (20 : Nat) < 100 from by decide) hf
  have f3 : (v_iv (n_v vs 6) = 1) → (w_fi ws (n_v vs 0) 12 = 1) := f3
  obtain ⟨ta1, w1, le1, ⟨_, s1⟩, hf⟩ := fc_us (show ¬ (102 : Nat) < 100 from by decide) hf
  obtain ⟨f5, hf⟩ := fc_un (show (8 : Nat) < 100 from by decide) hf
  have f5 : v_iv (n_v vs 4) = 0 := f5
  have kz_0_12 : 0 ≤ w_fi ws (n_v vs 0) 12 ∧ w_fi ws (n_v vs 0) 12 ≤ 4 := tv_rng (th_fd hD hth r0 (g := GG_150) rfl (k := 12) (t := (0, 0, 4, [])) rfl rfl)
  have nf0 : fc_1 (20, [7, 0], [50, 1, 0, 1012, 4, 6, 1, 2, 1, 0, 0, 1, 1, 3, 2, 1, 12, 0, 1]) ws (vs) := by
    refine ⟨fun n hn => ?_, ?_⟩
    · have hn : n ∈ [7, 0] := hn
      rw [hl]
      simp only [List.mem_cons, List.not_mem_nil, or_false] at hn
      show n < 8; omega
    · show (v_iv (n_v vs 7) = 1) → (w_fi ws (n_v vs 0) 12 = 1)
      first | omega | grind
  refine ⟨(fun _ h => (by cases h)), [], trivial, ?_, (fun _ h => (by cases h))⟩
  rw [List.append_nil]
  exact List.forall_mem_cons.mpr ⟨⟨show (20 : Nat) < 100 from by decide, nf0⟩, (fun _ h => (by cases h))⟩
def o_Mo_isName_4 : or_T := (33, 8, [(0, (2, 0, 0, [150])), (4, (0, 0, 0, [])), (6, (0, 0, 0, [])), (7, (0, 1, 1, []))], [(8, [6], [0]), (20, [0], [50, 1, 0, 12, 1, 3, 2, 0, 12, 0, 1]), (20, [4, 0], [50, 1, 0, 1012, 4, 6, 1, 2, 1, 0, 0, 1, 1, 3, 2, 1, 12, 0, 1]), (20, [6, 0], [50, 1, 0, 1012, 4, 6, 1, 2, 1, 0, 0, 1, 1, 3, 2, 1, 12, 0, 1]), (102, [5], [0]), (8, [4], [0])], [], [], [(20, [7, 0], [50, 1, 0, 1012, 4, 6, 1, 2, 1, 0, 0, 1, 1, 3, 2, 1, 12, 0, 1])], [], [])
theorem oo_Mo_isName_4 {kA : Nat → ClassId} : or_ok kA GG o_Mo_isName_4 := by
  intro A ta ws vs hD hth hl hk hds hf
  have hl : vs.length = 8 := hl
  have hk : ∀ q ∈ ([(0, (2, 0, 0, [150])), (4, (0, 0, 0, [])), (6, (0, 0, 0, [])), (7, (0, 1, 1, []))] : List (Nat × tv_T)), tv_ok ta q.2 (n_v vs q.1) := hk
  obtain ⟨t0, hk⟩ := List.forall_mem_cons.mp hk
  have t0 : tv_ok ta (2, 0, 0, [150]) (n_v vs 0) := t0
  have r0 : ta (v_ad (n_v vs 0)) = some 150 := tv_rg t0
  obtain ⟨t4, hk⟩ := List.forall_mem_cons.mp hk
  have t4 : tv_ok ta (0, 0, 0, []) (n_v vs 4) := t4
  have k4 : 0 ≤ v_iv (n_v vs 4) ∧ v_iv (n_v vs 4) ≤ 0 := tv_rng t4
  obtain ⟨t6, hk⟩ := List.forall_mem_cons.mp hk
  have t6 : tv_ok ta (0, 0, 0, []) (n_v vs 6) := t6
  have k6 : 0 ≤ v_iv (n_v vs 6) ∧ v_iv (n_v vs 6) ≤ 0 := tv_rng t6
  obtain ⟨t7, hk⟩ := List.forall_mem_cons.mp hk
  have t7 : tv_ok ta (0, 1, 1, []) (n_v vs 7) := t7
  have k7 : 1 ≤ v_iv (n_v vs 7) ∧ v_iv (n_v vs 7) ≤ 1 := tv_rng t7
  have hf : fc_ok [(8, [6], [0]), (20, [0], [50, 1, 0, 12, 1, 3, 2, 0, 12, 0, 1]), (20, [4, 0], [50, 1, 0, 1012, 4, 6, 1, 2, 1, 0, 0, 1, 1, 3, 2, 1, 12, 0, 1]), (20, [6, 0], [50, 1, 0, 1012, 4, 6, 1, 2, 1, 0, 0, 1, 1, 3, 2, 1, 12, 0, 1]), (102, [5], [0]), (8, [4], [0])] ta ws vs := hf
  obtain ⟨f0, hf⟩ := fc_un (show (8 : Nat) < 100 from by decide) hf
  have f0 : v_iv (n_v vs 6) = 0 := f0
  obtain ⟨f1, hf⟩ := fc_un (show (20 : Nat) < 100 from by decide) hf
  have f1 : w_fi ws (n_v vs 0) 12 = 1 := f1
  obtain ⟨f2, hf⟩ := fc_un (show (20 : Nat) < 100 from by decide) hf
  have f2 : (v_iv (n_v vs 4) = 1) → (w_fi ws (n_v vs 0) 12 = 1) := f2
  obtain ⟨f3, hf⟩ := fc_un (show (20 : Nat) < 100 from by decide) hf
  have f3 : (v_iv (n_v vs 6) = 1) → (w_fi ws (n_v vs 0) 12 = 1) := f3
  obtain ⟨ta1, w1, le1, ⟨_, s1⟩, hf⟩ := fc_us (show ¬ (102 : Nat) < 100 from by decide) hf
  obtain ⟨f5, hf⟩ := fc_un (show (8 : Nat) < 100 from by decide) hf
  have f5 : v_iv (n_v vs 4) = 0 := f5
  have kz_0_12 : 0 ≤ w_fi ws (n_v vs 0) 12 ∧ w_fi ws (n_v vs 0) 12 ≤ 4 := tv_rng (th_fd hD hth r0 (g := GG_150) rfl (k := 12) (t := (0, 0, 4, [])) rfl rfl)
  have nf0 : fc_1 (20, [7, 0], [50, 1, 0, 1012, 4, 6, 1, 2, 1, 0, 0, 1, 1, 3, 2, 1, 12, 0, 1]) ws (vs) := by
    refine ⟨fun n hn => ?_, ?_⟩
    · have hn : n ∈ [7, 0] := hn
      rw [hl]
      simp only [List.mem_cons, List.not_mem_nil, or_false] at hn
      show n < 8; omega
    · show (v_iv (n_v vs 7) = 1) → (w_fi ws (n_v vs 0) 12 = 1)
      first | omega | grind
  refine ⟨(fun _ h => (by cases h)), [], trivial, ?_, (fun _ h => (by cases h))⟩
  rw [List.append_nil]
  exact List.forall_mem_cons.mpr ⟨⟨show (20 : Nat) < 100 from by decide, nf0⟩, (fun _ h => (by cases h))⟩
def n_Mo_isName_an : List an_T := []
def t_Mo_isName_ct : ct_L := [(40, 469, e_Mo_isWord_at_s5000), (70, 469, e_Mo_isWord_at_s5001), (1000001, 467, en_ro [] (2, 0, 0, [5000])), (1000001, 473, en_ro [] (2, 0, 0, [5001]))]
set_option maxRecDepth 100000 in
theorem c_Mo_isName {l : Launch} {D : va_G} {kA : Nat → ClassId} (h_Mo_isWord_at_s5000 : ct_ok l D kA GG y_Mo_isWord_at_s5000 z_Mo_isWord_at_s5000 e_Mo_isWord_at_s5000) (h_Mo_isWord_at_s5001 : ct_ok l D kA GG y_Mo_isWord_at_s5001 z_Mo_isWord_at_s5001 e_Mo_isWord_at_s5001) : ct_ok l D kA GG y_Mo_isName z_Mo_isName e_Mo_isName := chk_all_ok (FT := [(434, 13, 12)]) (PT := []) (CT := t_Mo_isName_ct) (KT := []) (NT := []) (AN := n_Mo_isName_an) (OT := [o_Mo_isName_0, o_Mo_isName_1, o_Mo_isName_2, o_Mo_isName_3, o_Mo_isName_4]) 0 200 (List.forall_mem_cons.mpr ⟨oo_Mo_isName_0, List.forall_mem_cons.mpr ⟨oo_Mo_isName_1, List.forall_mem_cons.mpr ⟨oo_Mo_isName_2, List.forall_mem_cons.mpr ⟨oo_Mo_isName_3, List.forall_mem_cons.mpr ⟨oo_Mo_isName_4, List.forall_mem_nil _⟩⟩⟩⟩⟩) (by decide +kernel) ⟨List.forall_mem_cons.mpr ⟨gf_Mo_434, List.forall_mem_nil _⟩, List.forall_mem_nil _, List.forall_mem_cons.mpr ⟨cl_virtual (y := y_Mo_isWord_at_s5000) (ci := 13) rfl rfl ⟨_, _, rfl⟩ (by decide +kernel) h_Mo_isWord_at_s5000 wm_3002 wm_9 wm_2999 wm_3001 wv_12_14 ⟨by decide, by decide, by decide +kernel⟩ (by decide), List.forall_mem_cons.mpr ⟨cl_virtual (y := y_Mo_isWord_at_s5001) (ci := 13) rfl rfl ⟨_, _, rfl⟩ (by decide +kernel) h_Mo_isWord_at_s5001 wm_3002 wm_9 wm_2999 wm_3001 wv_12_14 ⟨by decide, by decide, by decide +kernel⟩ (by decide), List.forall_mem_cons.mpr ⟨cl_ldcw (own := "DrawingHouseModel") (idx := 467) (i := 0) (tx := "node") (by decide +kernel) (by decide +kernel) (by decide +kernel), List.forall_mem_cons.mpr ⟨cl_ldcw (own := "DrawingHouseModel") (idx := 473) (i := 1) (tx := "group") (by decide +kernel) (by decide +kernel) (by decide +kernel), List.forall_mem_nil _⟩⟩⟩⟩, List.forall_mem_nil _, List.forall_mem_nil _, GG_pl⟩ (by decide +kernel)
def o_Mo_writeDrawing_0 : or_T := (2, 3, [(0, (2, 0, 0, [150])), (1, (0, 0, 99965512, [])), (2, (0, 0, 0, []))], [(20, [0, 1], [30, 0, 1, 1, 170, -1, 0, 0])], [], [], [(20, [0, 1, 2], [30, 0, 1, 1, 170, -1, 0, 0, -37, 0, 0]), (24, [0, 0], [])], [], [])
theorem oo_Mo_writeDrawing_0 {kA : Nat → ClassId} : or_ok kA GG o_Mo_writeDrawing_0 := by
  intro A ta ws vs hD hth hl hk hds hf
  have hl : vs.length = 3 := hl
  have hk : ∀ q ∈ ([(0, (2, 0, 0, [150])), (1, (0, 0, 99965512, [])), (2, (0, 0, 0, []))] : List (Nat × tv_T)), tv_ok ta q.2 (n_v vs q.1) := hk
  obtain ⟨t0, hk⟩ := List.forall_mem_cons.mp hk
  have t0 : tv_ok ta (2, 0, 0, [150]) (n_v vs 0) := t0
  have r0 : ta (v_ad (n_v vs 0)) = some 150 := tv_rg t0
  obtain ⟨t1, hk⟩ := List.forall_mem_cons.mp hk
  have t1 : tv_ok ta (0, 0, 99965512, []) (n_v vs 1) := t1
  have k1 : 0 ≤ v_iv (n_v vs 1) ∧ v_iv (n_v vs 1) ≤ 99965512 := tv_rng t1
  obtain ⟨t2, hk⟩ := List.forall_mem_cons.mp hk
  have t2 : tv_ok ta (0, 0, 0, []) (n_v vs 2) := t2
  have k2 : 0 ≤ v_iv (n_v vs 2) ∧ v_iv (n_v vs 2) ≤ 0 := tv_rng t2
  have hf : fc_ok [(20, [0, 1], [30, 0, 1, 1, 170, -1, 0, 0])] ta ws vs := hf
  obtain ⟨f0, hf⟩ := fc_un (show (20 : Nat) < 100 from by decide) hf
  have f0 : 1 * w_fi ws (n_v vs 0) 170 + ((-1) * v_iv (n_v vs 1) + 0) ≤ 0 := f0
  have kz_0_170 : 0 ≤ w_fi ws (n_v vs 0) 170 ∧ w_fi ws (n_v vs 0) 170 ≤ 100000000 := tv_rng (th_fd hD hth r0 (g := GG_150) rfl (k := 170) (t := (0, 0, 100000000, [])) rfl rfl)
  have nf0 : fc_1 (20, [0, 1, 2], [30, 0, 1, 1, 170, -1, 0, 0, -37, 0, 0]) ws (vs) := by
    refine ⟨fun n hn => ?_, ?_⟩
    · have hn : n ∈ [0, 1, 2] := hn
      rw [hl]
      simp only [List.mem_cons, List.not_mem_nil, or_false] at hn
      show n < 3; omega
    · show 1 * w_fi ws (n_v vs 0) 170 + ((-1) * v_iv (n_v vs 1) + ((-37) * v_iv (n_v vs 2) + 0)) ≤ 0
      omega
  have nf1 : fc_1 (24, [0, 0], []) ws (vs) := by
    refine ⟨fun n hn => ?_, ?_⟩
    · have hn : n ∈ [0, 0] := hn
      rw [hl]
      simp only [List.mem_cons, List.not_mem_nil, or_false] at hn
      show n < 3; omega
    · show n_v vs 0 = n_v vs 0
      first | rfl | simp only [true_and]
  refine ⟨(fun _ h => (by cases h)), [], trivial, ?_, (fun _ h => (by cases h))⟩
  rw [List.append_nil]
  exact List.forall_mem_cons.mpr ⟨⟨show (20 : Nat) < 100 from by decide, nf0⟩, List.forall_mem_cons.mpr ⟨⟨show (24 : Nat) < 100 from by decide, nf1⟩, (fun _ h => (by cases h))⟩⟩
def o_Mo_writeDrawing_1 : or_T := (59, 6, [(0, (2, 0, 0, [150])), (1, (0, 0, 99965512, [])), (2, (2, 0, 0, [150])), (3, (0, 0, 24, [])), (4, (0, 0, 24, [])), (5, (0, 0, 0, []))], [(7, [3, 4], [3]), (20, [4, 2], [30, 0, 1, 0, 0, -1, 3, 2005000]), (20, [4, 2], [30, 0, -1, 0, 0, 1, 3, 2005000]), (20, [2, 1, 3], [30, 0, 1, 1, 170, -1, 0, 0, -37, 0, 0]), (24, [0, 2], [])], [], [], [(20, [2, 1, 5], [30, 888, 1, 1, 170, -1, 0, 0, -700, 0, 0])], [], [(3, 4, 0, 4294967296)])
theorem oo_Mo_writeDrawing_1 {kA : Nat → ClassId} : or_ok kA GG o_Mo_writeDrawing_1 := by
  intro A ta ws vs hD hth hl hk hds hf
  have hl : vs.length = 6 := hl
  have hk : ∀ q ∈ ([(0, (2, 0, 0, [150])), (1, (0, 0, 99965512, [])), (2, (2, 0, 0, [150])), (3, (0, 0, 24, [])), (4, (0, 0, 24, [])), (5, (0, 0, 0, []))] : List (Nat × tv_T)), tv_ok ta q.2 (n_v vs q.1) := hk
  obtain ⟨t0, hk⟩ := List.forall_mem_cons.mp hk
  have t0 : tv_ok ta (2, 0, 0, [150]) (n_v vs 0) := t0
  have r0 : ta (v_ad (n_v vs 0)) = some 150 := tv_rg t0
  obtain ⟨t1, hk⟩ := List.forall_mem_cons.mp hk
  have t1 : tv_ok ta (0, 0, 99965512, []) (n_v vs 1) := t1
  have k1 : 0 ≤ v_iv (n_v vs 1) ∧ v_iv (n_v vs 1) ≤ 99965512 := tv_rng t1
  obtain ⟨t2, hk⟩ := List.forall_mem_cons.mp hk
  have t2 : tv_ok ta (2, 0, 0, [150]) (n_v vs 2) := t2
  have r2 : ta (v_ad (n_v vs 2)) = some 150 := tv_rg t2
  obtain ⟨t3, hk⟩ := List.forall_mem_cons.mp hk
  have t3 : tv_ok ta (0, 0, 24, []) (n_v vs 3) := t3
  have k3 : 0 ≤ v_iv (n_v vs 3) ∧ v_iv (n_v vs 3) ≤ 24 := tv_rng t3
  obtain ⟨t4, hk⟩ := List.forall_mem_cons.mp hk
  have t4 : tv_ok ta (0, 0, 24, []) (n_v vs 4) := t4
  have k4 : 0 ≤ v_iv (n_v vs 4) ∧ v_iv (n_v vs 4) ≤ 24 := tv_rng t4
  obtain ⟨t5, hk⟩ := List.forall_mem_cons.mp hk
  have t5 : tv_ok ta (0, 0, 0, []) (n_v vs 5) := t5
  have k5 : 0 ≤ v_iv (n_v vs 5) ∧ v_iv (n_v vs 5) ≤ 0 := tv_rng t5
  have hds : ∀ q ∈ ([(3, 4, 0, 4294967296)] : List of_T), n_iv vs q.2.1 + q.2.2.1 ≤ n_iv vs q.1 ∧ n_iv vs q.1 ≤ n_iv vs q.2.1 + q.2.2.2 := hds
  obtain ⟨d0, hds⟩ := List.forall_mem_cons.mp hds
  have d0 : v_iv (n_v vs 4) + 0 ≤ v_iv (n_v vs 3) ∧ v_iv (n_v vs 3) ≤ v_iv (n_v vs 4) + 4294967296 := d0
  have hf : fc_ok [(7, [3, 4], [3]), (20, [4, 2], [30, 0, 1, 0, 0, -1, 3, 2005000]), (20, [4, 2], [30, 0, -1, 0, 0, 1, 3, 2005000]), (20, [2, 1, 3], [30, 0, 1, 1, 170, -1, 0, 0, -37, 0, 0]), (24, [0, 2], [])] ta ws vs := hf
  obtain ⟨f0, hf⟩ := fc_un (show (7 : Nat) < 100 from by decide) hf
  have f0 : v_iv (n_v vs 4) ≤ v_iv (n_v vs 3) := f0
  obtain ⟨f1, hf⟩ := fc_un (show (20 : Nat) < 100 from by decide) hf
  have f1 : 1 * v_iv (n_v vs 4) + ((-1) * w_el ws (w_ar ws (n_v vs 2) 2) (w_fi ws (n_v vs 2) 5 + 0).toNat + 0) ≤ 0 := f1
  obtain ⟨f2, hf⟩ := fc_un (show (20 : Nat) < 100 from by decide) hf
  have f2 : (-1) * v_iv (n_v vs 4) + (1 * w_el ws (w_ar ws (n_v vs 2) 2) (w_fi ws (n_v vs 2) 5 + 0).toNat + 0) ≤ 0 := f2
  obtain ⟨f3, hf⟩ := fc_un (show (20 : Nat) < 100 from by decide) hf
  have f3 : 1 * w_fi ws (n_v vs 2) 170 + ((-1) * v_iv (n_v vs 1) + ((-37) * v_iv (n_v vs 3) + 0)) ≤ 0 := f3
  obtain ⟨f4, hf⟩ := fc_un (show (24 : Nat) < 100 from by decide) hf
  have f4 : n_v vs 0 = n_v vs 2 := f4
  have q2 : n_v vs 2 = n_v vs 0 := f4.symm
  rw [q2] at f1
  rw [q2] at f2
  rw [q2] at f3
  have cr_0_2 : ta (w_ar ws (n_v vs 0) 2) = some 152 := tv_rg (th_fd hD hth r0 (g := GG_150) rfl (k := 2) (t := (2, 0, 0, [152])) rfl rfl)
  have kz_0_170 : 0 ≤ w_fi ws (n_v vs 0) 170 ∧ w_fi ws (n_v vs 0) 170 ≤ 100000000 := tv_rng (th_fd hD hth r0 (g := GG_150) rfl (k := 170) (t := (0, 0, 100000000, [])) rfl rfl)
  have nf0 : fc_1 (20, [2, 1, 5], [30, 888, 1, 1, 170, -1, 0, 0, -700, 0, 0]) ws (vs) := by
    refine ⟨fun n hn => ?_, ?_⟩
    · have hn : n ∈ [2, 1, 5] := hn
      rw [hl]
      simp only [List.mem_cons, List.not_mem_nil, or_false] at hn
      show n < 6; omega
    · show 1 * w_fi ws (n_v vs 2) 170 + ((-1) * v_iv (n_v vs 1) + ((-700) * v_iv (n_v vs 5) + 0)) ≤ 888
      rw [q2]
      omega
  refine ⟨(fun _ h => (by cases h)), [], trivial, ?_, (fun _ h => (by cases h))⟩
  rw [List.append_nil]
  exact List.forall_mem_cons.mpr ⟨⟨show (20 : Nat) < 100 from by decide, nf0⟩, (fun _ h => (by cases h))⟩
def o_Mo_writeDrawing_2 : or_T := (12, 5, [(0, (2, 0, 0, [150])), (1, (0, 0, 99965512, [])), (2, (2, 0, 0, [150])), (3, (0, 0, 23, [])), (4, (0, 1, 24, []))], [(7, [3, 4], [2]), (20, [4, 2], [30, 0, 1, 0, 0, -1, 3, 2005000]), (20, [4, 2], [30, 0, -1, 0, 0, 1, 3, 2005000]), (20, [2, 1, 3], [30, 0, 1, 1, 170, -1, 0, 0, -37, 0, 0]), (24, [0, 2], [])], [], [(0, 0, 99999992, [])], [(20, [2, 5], [30, 0, 1, 1, 170, -1, 0, 0]), (23, [5, 1, 3], [0, 1, -1, -37])], [], [(3, 4, -4294967296, -1)])
theorem oo_Mo_writeDrawing_2 {kA : Nat → ClassId} : or_ok kA GG o_Mo_writeDrawing_2 := by
  intro A ta ws vs hD hth hl hk hds hf
  have hl : vs.length = 5 := hl
  have hk : ∀ q ∈ ([(0, (2, 0, 0, [150])), (1, (0, 0, 99965512, [])), (2, (2, 0, 0, [150])), (3, (0, 0, 23, [])), (4, (0, 1, 24, []))] : List (Nat × tv_T)), tv_ok ta q.2 (n_v vs q.1) := hk
  obtain ⟨t0, hk⟩ := List.forall_mem_cons.mp hk
  have t0 : tv_ok ta (2, 0, 0, [150]) (n_v vs 0) := t0
  have r0 : ta (v_ad (n_v vs 0)) = some 150 := tv_rg t0
  obtain ⟨t1, hk⟩ := List.forall_mem_cons.mp hk
  have t1 : tv_ok ta (0, 0, 99965512, []) (n_v vs 1) := t1
  have k1 : 0 ≤ v_iv (n_v vs 1) ∧ v_iv (n_v vs 1) ≤ 99965512 := tv_rng t1
  obtain ⟨t2, hk⟩ := List.forall_mem_cons.mp hk
  have t2 : tv_ok ta (2, 0, 0, [150]) (n_v vs 2) := t2
  have r2 : ta (v_ad (n_v vs 2)) = some 150 := tv_rg t2
  obtain ⟨t3, hk⟩ := List.forall_mem_cons.mp hk
  have t3 : tv_ok ta (0, 0, 23, []) (n_v vs 3) := t3
  have k3 : 0 ≤ v_iv (n_v vs 3) ∧ v_iv (n_v vs 3) ≤ 23 := tv_rng t3
  obtain ⟨t4, hk⟩ := List.forall_mem_cons.mp hk
  have t4 : tv_ok ta (0, 1, 24, []) (n_v vs 4) := t4
  have k4 : 1 ≤ v_iv (n_v vs 4) ∧ v_iv (n_v vs 4) ≤ 24 := tv_rng t4
  have hds : ∀ q ∈ ([(3, 4, -4294967296, -1)] : List of_T), n_iv vs q.2.1 + q.2.2.1 ≤ n_iv vs q.1 ∧ n_iv vs q.1 ≤ n_iv vs q.2.1 + q.2.2.2 := hds
  obtain ⟨d0, hds⟩ := List.forall_mem_cons.mp hds
  have d0 : v_iv (n_v vs 4) + (-4294967296) ≤ v_iv (n_v vs 3) ∧ v_iv (n_v vs 3) ≤ v_iv (n_v vs 4) + (-1) := d0
  have hf : fc_ok [(7, [3, 4], [2]), (20, [4, 2], [30, 0, 1, 0, 0, -1, 3, 2005000]), (20, [4, 2], [30, 0, -1, 0, 0, 1, 3, 2005000]), (20, [2, 1, 3], [30, 0, 1, 1, 170, -1, 0, 0, -37, 0, 0]), (24, [0, 2], [])] ta ws vs := hf
  obtain ⟨f0, hf⟩ := fc_un (show (7 : Nat) < 100 from by decide) hf
  have f0 : v_iv (n_v vs 3) < v_iv (n_v vs 4) := f0
  obtain ⟨f1, hf⟩ := fc_un (show (20 : Nat) < 100 from by decide) hf
  have f1 : 1 * v_iv (n_v vs 4) + ((-1) * w_el ws (w_ar ws (n_v vs 2) 2) (w_fi ws (n_v vs 2) 5 + 0).toNat + 0) ≤ 0 := f1
  obtain ⟨f2, hf⟩ := fc_un (show (20 : Nat) < 100 from by decide) hf
  have f2 : (-1) * v_iv (n_v vs 4) + (1 * w_el ws (w_ar ws (n_v vs 2) 2) (w_fi ws (n_v vs 2) 5 + 0).toNat + 0) ≤ 0 := f2
  obtain ⟨f3, hf⟩ := fc_un (show (20 : Nat) < 100 from by decide) hf
  have f3 : 1 * w_fi ws (n_v vs 2) 170 + ((-1) * v_iv (n_v vs 1) + ((-37) * v_iv (n_v vs 3) + 0)) ≤ 0 := f3
  obtain ⟨f4, hf⟩ := fc_un (show (24 : Nat) < 100 from by decide) hf
  have f4 : n_v vs 0 = n_v vs 2 := f4
  have q2 : n_v vs 2 = n_v vs 0 := f4.symm
  rw [q2] at f1
  rw [q2] at f2
  rw [q2] at f3
  have cr_0_2 : ta (w_ar ws (n_v vs 0) 2) = some 152 := tv_rg (th_fd hD hth r0 (g := GG_150) rfl (k := 2) (t := (2, 0, 0, [152])) rfl rfl)
  have kz_0_170 : 0 ≤ w_fi ws (n_v vs 0) 170 ∧ w_fi ws (n_v vs 0) 170 ≤ 100000000 := tv_rng (th_fd hD hth r0 (g := GG_150) rfl (k := 170) (t := (0, 0, 100000000, [])) rfl rfl)
  have kv0 : 0 ≤ w_fi ws (n_v vs 0) 170 ∧ w_fi ws (n_v vs 0) 170 ≤ 100000000 := tv_rng (th_fd hD hth r0 (g := GG_150) rfl (k := 170) (t := (0, 0, 100000000, [])) rfl rfl)
  obtain ⟨x, ex, hx⟩ := iv_ex (ta := ta) (lo := 0) (hi := 99999992) (z := w_fi ws (n_v vs 0) 170) (by omega) (by omega) (by omega) (by omega)
  have ex2 : v_iv (Value.int x) = w_fi ws (n_v vs 0) 170 := ex
  have ex3 : 0 ≤ v_iv (Value.int x) ∧ v_iv (Value.int x) ≤ 99999992 := tv_rng hx
  have e_1 : n_v (vs ++ [Value.int x]) 1 = n_v vs 1 := n_v_old (by rw [hl]; decide)
  have e_2 : n_v (vs ++ [Value.int x]) 2 = n_v vs 2 := n_v_old (by rw [hl]; decide)
  have e_3 : n_v (vs ++ [Value.int x]) 3 = n_v vs 3 := n_v_old (by rw [hl]; decide)
  have e_5 : n_v (vs ++ [Value.int x]) 5 = Value.int x := n_v_new hl
  have nf0 : fc_1 (20, [2, 5], [30, 0, 1, 1, 170, -1, 0, 0]) ws (vs ++ [Value.int x]) := by
    refine ⟨fun n hn => ?_, ?_⟩
    · have hn : n ∈ [2, 5] := hn
      rw [List.length_append, hl]
      simp only [List.mem_cons, List.not_mem_nil, or_false] at hn
      show n < 5 + 1; omega
    · show 1 * w_fi ws (n_v (vs ++ [Value.int x]) 2) 170 + ((-1) * v_iv (n_v (vs ++ [Value.int x]) 5) + 0) ≤ 0
      rw [e_2]
      rw [e_5]
      rw [q2]
      omega
  have nf1 : fc_1 (23, [5, 1, 3], [0, 1, -1, -37]) ws (vs ++ [Value.int x]) := by
    refine ⟨fun n hn => ?_, ?_⟩
    · have hn : n ∈ [5, 1, 3] := hn
      rw [List.length_append, hl]
      simp only [List.mem_cons, List.not_mem_nil, or_false] at hn
      show n < 5 + 1; omega
    · show 1 * v_iv (n_v (vs ++ [Value.int x]) 5) + ((-1) * v_iv (n_v (vs ++ [Value.int x]) 1) + ((-37) * v_iv (n_v (vs ++ [Value.int x]) 3) + 0)) ≤ 0
      rw [e_1]
      rw [e_3]
      rw [e_5]
      omega
  exact ⟨(fun _ h => (by cases h)), [Value.int x], ag_one hx, List.forall_mem_cons.mpr ⟨⟨show (20 : Nat) < 100 from by decide, nf0⟩, List.forall_mem_cons.mpr ⟨⟨show (23 : Nat) < 100 from by decide, nf1⟩, (fun _ h => (by cases h))⟩⟩, (fun _ h => (by cases h))⟩
def o_Mo_writeDrawing_3 : or_T := (18, 7, [(0, (2, 0, 0, [150])), (1, (0, 0, 99965512, [])), (2, (2, 0, 0, [150])), (3, (0, 0, 23, [])), (4, (0, 1, 24, [])), (5, (0, 0, 99999992, []))], [(23, [5, 1, 3], [0, 1, -1, -37]), (20, [4, 2], [30, 0, 1, 0, 0, -1, 3, 2005000]), (20, [4, 2], [30, 0, -1, 0, 0, 1, 3, 2005000]), (24, [0, 2], []), (20, [2, 5], [30, 8, 1, 1, 170, -1, 0, 0]), (102, [5], [237142198758023568227473377297792835283496928595231875152809132048206089502588928, 13170]), (23, [5, 1, 3], [0, 1, -1, -37]), (7, [3, 4], [2])], [], [(0, 0, 99999999, [])], [(20, [2, 7], [30, 0, 1, 1, 170, -1, 0, 0]), (23, [7, 1, 3], [8, 1, -1, -37])], [], [(3, 4, -4294967296, -1)])
theorem oo_Mo_writeDrawing_3 {kA : Nat → ClassId} : or_ok kA GG o_Mo_writeDrawing_3 := by
  intro A ta ws vs hD hth hl hk hds hf
  have hl : vs.length = 7 := hl
  have hk : ∀ q ∈ ([(0, (2, 0, 0, [150])), (1, (0, 0, 99965512, [])), (2, (2, 0, 0, [150])), (3, (0, 0, 23, [])), (4, (0, 1, 24, [])), (5, (0, 0, 99999992, []))] : List (Nat × tv_T)), tv_ok ta q.2 (n_v vs q.1) := hk
  obtain ⟨t0, hk⟩ := List.forall_mem_cons.mp hk
  have t0 : tv_ok ta (2, 0, 0, [150]) (n_v vs 0) := t0
  have r0 : ta (v_ad (n_v vs 0)) = some 150 := tv_rg t0
  obtain ⟨t1, hk⟩ := List.forall_mem_cons.mp hk
  have t1 : tv_ok ta (0, 0, 99965512, []) (n_v vs 1) := t1
  have k1 : 0 ≤ v_iv (n_v vs 1) ∧ v_iv (n_v vs 1) ≤ 99965512 := tv_rng t1
  obtain ⟨t2, hk⟩ := List.forall_mem_cons.mp hk
  have t2 : tv_ok ta (2, 0, 0, [150]) (n_v vs 2) := t2
  have r2 : ta (v_ad (n_v vs 2)) = some 150 := tv_rg t2
  obtain ⟨t3, hk⟩ := List.forall_mem_cons.mp hk
  have t3 : tv_ok ta (0, 0, 23, []) (n_v vs 3) := t3
  have k3 : 0 ≤ v_iv (n_v vs 3) ∧ v_iv (n_v vs 3) ≤ 23 := tv_rng t3
  obtain ⟨t4, hk⟩ := List.forall_mem_cons.mp hk
  have t4 : tv_ok ta (0, 1, 24, []) (n_v vs 4) := t4
  have k4 : 1 ≤ v_iv (n_v vs 4) ∧ v_iv (n_v vs 4) ≤ 24 := tv_rng t4
  obtain ⟨t5, hk⟩ := List.forall_mem_cons.mp hk
  have t5 : tv_ok ta (0, 0, 99999992, []) (n_v vs 5) := t5
  have k5 : 0 ≤ v_iv (n_v vs 5) ∧ v_iv (n_v vs 5) ≤ 99999992 := tv_rng t5
  have hds : ∀ q ∈ ([(3, 4, -4294967296, -1)] : List of_T), n_iv vs q.2.1 + q.2.2.1 ≤ n_iv vs q.1 ∧ n_iv vs q.1 ≤ n_iv vs q.2.1 + q.2.2.2 := hds
  obtain ⟨d0, hds⟩ := List.forall_mem_cons.mp hds
  have d0 : v_iv (n_v vs 4) + (-4294967296) ≤ v_iv (n_v vs 3) ∧ v_iv (n_v vs 3) ≤ v_iv (n_v vs 4) + (-1) := d0
  have hf : fc_ok [(23, [5, 1, 3], [0, 1, -1, -37]), (20, [4, 2], [30, 0, 1, 0, 0, -1, 3, 2005000]), (20, [4, 2], [30, 0, -1, 0, 0, 1, 3, 2005000]), (24, [0, 2], []), (20, [2, 5], [30, 8, 1, 1, 170, -1, 0, 0]), (102, [5], [237142198758023568227473377297792835283496928595231875152809132048206089502588928, 13170]), (23, [5, 1, 3], [0, 1, -1, -37]), (7, [3, 4], [2])] ta ws vs := hf
  obtain ⟨f0, hf⟩ := fc_un (show (23 : Nat) < 100 from by decide) hf
  have f0 : 1 * v_iv (n_v vs 5) + ((-1) * v_iv (n_v vs 1) + ((-37) * v_iv (n_v vs 3) + 0)) ≤ 0 := f0
  obtain ⟨f1, hf⟩ := fc_un (show (20 : Nat) < 100 from by decide) hf
  have f1 : 1 * v_iv (n_v vs 4) + ((-1) * w_el ws (w_ar ws (n_v vs 2) 2) (w_fi ws (n_v vs 2) 5 + 0).toNat + 0) ≤ 0 := f1
  obtain ⟨f2, hf⟩ := fc_un (show (20 : Nat) < 100 from by decide) hf
  have f2 : (-1) * v_iv (n_v vs 4) + (1 * w_el ws (w_ar ws (n_v vs 2) 2) (w_fi ws (n_v vs 2) 5 + 0).toNat + 0) ≤ 0 := f2
  obtain ⟨f3, hf⟩ := fc_un (show (24 : Nat) < 100 from by decide) hf
  have f3 : n_v vs 0 = n_v vs 2 := f3
  obtain ⟨f4, hf⟩ := fc_un (show (20 : Nat) < 100 from by decide) hf
  have f4 : 1 * w_fi ws (n_v vs 2) 170 + ((-1) * v_iv (n_v vs 5) + 0) ≤ 8 := f4
  obtain ⟨ta1, w1, le1, ⟨_, s1⟩, hf⟩ := fc_us (show ¬ (102 : Nat) < 100 from by decide) hf
  obtain ⟨f6, hf⟩ := fc_un (show (23 : Nat) < 100 from by decide) hf
  have f6 : 1 * v_iv (n_v vs 5) + ((-1) * v_iv (n_v vs 1) + ((-37) * v_iv (n_v vs 3) + 0)) ≤ 0 := f6
  obtain ⟨f7, hf⟩ := fc_un (show (7 : Nat) < 100 from by decide) hf
  have f7 : v_iv (n_v vs 3) < v_iv (n_v vs 4) := f7
  have q2 : n_v vs 2 = n_v vs 0 := f3.symm
  rw [q2] at f1
  rw [q2] at f2
  rw [q2] at f4
  have cr_0_2 : ta (w_ar ws (n_v vs 0) 2) = some 152 := tv_rg (th_fd hD hth r0 (g := GG_150) rfl (k := 2) (t := (2, 0, 0, [152])) rfl rfl)
  have kz_0_170 : 0 ≤ w_fi ws (n_v vs 0) 170 ∧ w_fi ws (n_v vs 0) 170 ≤ 100000000 := tv_rng (th_fd hD hth r0 (g := GG_150) rfl (k := 170) (t := (0, 0, 100000000, [])) rfl rfl)
  have kv0 : 0 ≤ w_fi ws (n_v vs 0) 170 ∧ w_fi ws (n_v vs 0) 170 ≤ 100000000 := tv_rng (th_fd hD hth r0 (g := GG_150) rfl (k := 170) (t := (0, 0, 100000000, [])) rfl rfl)
  obtain ⟨x, ex, hx⟩ := iv_ex (ta := ta) (lo := 0) (hi := 99999999) (z := w_fi ws (n_v vs 0) 170) (by omega) (by omega) (by omega) (by omega)
  have ex2 : v_iv (Value.int x) = w_fi ws (n_v vs 0) 170 := ex
  have ex3 : 0 ≤ v_iv (Value.int x) ∧ v_iv (Value.int x) ≤ 99999999 := tv_rng hx
  have e_1 : n_v (vs ++ [Value.int x]) 1 = n_v vs 1 := n_v_old (by rw [hl]; decide)
  have e_2 : n_v (vs ++ [Value.int x]) 2 = n_v vs 2 := n_v_old (by rw [hl]; decide)
  have e_3 : n_v (vs ++ [Value.int x]) 3 = n_v vs 3 := n_v_old (by rw [hl]; decide)
  have e_7 : n_v (vs ++ [Value.int x]) 7 = Value.int x := n_v_new hl
  have nf0 : fc_1 (20, [2, 7], [30, 0, 1, 1, 170, -1, 0, 0]) ws (vs ++ [Value.int x]) := by
    refine ⟨fun n hn => ?_, ?_⟩
    · have hn : n ∈ [2, 7] := hn
      rw [List.length_append, hl]
      simp only [List.mem_cons, List.not_mem_nil, or_false] at hn
      show n < 7 + 1; omega
    · show 1 * w_fi ws (n_v (vs ++ [Value.int x]) 2) 170 + ((-1) * v_iv (n_v (vs ++ [Value.int x]) 7) + 0) ≤ 0
      rw [e_2]
      rw [e_7]
      rw [q2]
      omega
  have nf1 : fc_1 (23, [7, 1, 3], [8, 1, -1, -37]) ws (vs ++ [Value.int x]) := by
    refine ⟨fun n hn => ?_, ?_⟩
    · have hn : n ∈ [7, 1, 3] := hn
      rw [List.length_append, hl]
      simp only [List.mem_cons, List.not_mem_nil, or_false] at hn
      show n < 7 + 1; omega
    · show 1 * v_iv (n_v (vs ++ [Value.int x]) 7) + ((-1) * v_iv (n_v (vs ++ [Value.int x]) 1) + ((-37) * v_iv (n_v (vs ++ [Value.int x]) 3) + 0)) ≤ 8
      rw [e_1]
      rw [e_3]
      rw [e_7]
      omega
  exact ⟨(fun _ h => (by cases h)), [Value.int x], ag_one hx, List.forall_mem_cons.mpr ⟨⟨show (20 : Nat) < 100 from by decide, nf0⟩, List.forall_mem_cons.mpr ⟨⟨show (23 : Nat) < 100 from by decide, nf1⟩, (fun _ h => (by cases h))⟩⟩, (fun _ h => (by cases h))⟩
def o_Mo_writeDrawing_4 : or_T := (27, 9, [(0, (2, 0, 0, [150])), (1, (0, 0, 99965512, [])), (2, (2, 0, 0, [150])), (3, (0, 0, 23, [])), (4, (0, 1, 24, [])), (5, (0, 0, 99999992, [])), (7, (0, 0, 99999999, []))], [(23, [7, 1, 3], [8, 1, -1, -37]), (23, [5, 1, 3], [0, 1, -1, -37]), (20, [4, 2], [30, 0, 1, 0, 0, -1, 3, 2005000]), (20, [4, 2], [30, 0, -1, 0, 0, 1, 3, 2005000]), (24, [0, 2], []), (20, [2, 7], [30, 1, 1, 1, 170, -1, 0, 0]), (102, [7], [237142198758023568227473377297792835283496928595231875152809132048206089502588928, 13170]), (23, [7, 1, 3], [8, 1, -1, -37]), (23, [5, 1, 3], [0, 1, -1, -37]), (102, [5], [237142198758023568227473377297792835283496928595231875152809132048206089502588928, 13170]), (23, [5, 1, 3], [0, 1, -1, -37]), (7, [3, 4], [2])], [], [(0, 0, 99999987, [])], [(20, [2, 9], [30, 0, 1, 1, 170, -1, 0, 0]), (23, [9, 1, 3], [9, 1, -1, -37])], [], [(3, 4, -4294967296, -1)])
theorem oo_Mo_writeDrawing_4 {kA : Nat → ClassId} : or_ok kA GG o_Mo_writeDrawing_4 := by
  intro A ta ws vs hD hth hl hk hds hf
  have hl : vs.length = 9 := hl
  have hk : ∀ q ∈ ([(0, (2, 0, 0, [150])), (1, (0, 0, 99965512, [])), (2, (2, 0, 0, [150])), (3, (0, 0, 23, [])), (4, (0, 1, 24, [])), (5, (0, 0, 99999992, [])), (7, (0, 0, 99999999, []))] : List (Nat × tv_T)), tv_ok ta q.2 (n_v vs q.1) := hk
  obtain ⟨t0, hk⟩ := List.forall_mem_cons.mp hk
  have t0 : tv_ok ta (2, 0, 0, [150]) (n_v vs 0) := t0
  have r0 : ta (v_ad (n_v vs 0)) = some 150 := tv_rg t0
  obtain ⟨t1, hk⟩ := List.forall_mem_cons.mp hk
  have t1 : tv_ok ta (0, 0, 99965512, []) (n_v vs 1) := t1
  have k1 : 0 ≤ v_iv (n_v vs 1) ∧ v_iv (n_v vs 1) ≤ 99965512 := tv_rng t1
  obtain ⟨t2, hk⟩ := List.forall_mem_cons.mp hk
  have t2 : tv_ok ta (2, 0, 0, [150]) (n_v vs 2) := t2
  have r2 : ta (v_ad (n_v vs 2)) = some 150 := tv_rg t2
  obtain ⟨t3, hk⟩ := List.forall_mem_cons.mp hk
  have t3 : tv_ok ta (0, 0, 23, []) (n_v vs 3) := t3
  have k3 : 0 ≤ v_iv (n_v vs 3) ∧ v_iv (n_v vs 3) ≤ 23 := tv_rng t3
  obtain ⟨t4, hk⟩ := List.forall_mem_cons.mp hk
  have t4 : tv_ok ta (0, 1, 24, []) (n_v vs 4) := t4
  have k4 : 1 ≤ v_iv (n_v vs 4) ∧ v_iv (n_v vs 4) ≤ 24 := tv_rng t4
  obtain ⟨t5, hk⟩ := List.forall_mem_cons.mp hk
  have t5 : tv_ok ta (0, 0, 99999992, []) (n_v vs 5) := t5
  have k5 : 0 ≤ v_iv (n_v vs 5) ∧ v_iv (n_v vs 5) ≤ 99999992 := tv_rng t5
  obtain ⟨t7, hk⟩ := List.forall_mem_cons.mp hk
  have t7 : tv_ok ta (0, 0, 99999999, []) (n_v vs 7) := t7
  have k7 : 0 ≤ v_iv (n_v vs 7) ∧ v_iv (n_v vs 7) ≤ 99999999 := tv_rng t7
  have hds : ∀ q ∈ ([(3, 4, -4294967296, -1)] : List of_T), n_iv vs q.2.1 + q.2.2.1 ≤ n_iv vs q.1 ∧ n_iv vs q.1 ≤ n_iv vs q.2.1 + q.2.2.2 := hds
  obtain ⟨d0, hds⟩ := List.forall_mem_cons.mp hds
  have d0 : v_iv (n_v vs 4) + (-4294967296) ≤ v_iv (n_v vs 3) ∧ v_iv (n_v vs 3) ≤ v_iv (n_v vs 4) + (-1) := d0
  have hf : fc_ok [(23, [7, 1, 3], [8, 1, -1, -37]), (23, [5, 1, 3], [0, 1, -1, -37]), (20, [4, 2], [30, 0, 1, 0, 0, -1, 3, 2005000]), (20, [4, 2], [30, 0, -1, 0, 0, 1, 3, 2005000]), (24, [0, 2], []), (20, [2, 7], [30, 1, 1, 1, 170, -1, 0, 0]), (102, [7], [237142198758023568227473377297792835283496928595231875152809132048206089502588928, 13170]), (23, [7, 1, 3], [8, 1, -1, -37]), (23, [5, 1, 3], [0, 1, -1, -37]), (102, [5], [237142198758023568227473377297792835283496928595231875152809132048206089502588928, 13170]), (23, [5, 1, 3], [0, 1, -1, -37]), (7, [3, 4], [2])] ta ws vs := hf
  obtain ⟨f0, hf⟩ := fc_un (show (23 : Nat) < 100 from by decide) hf
  have f0 : 1 * v_iv (n_v vs 7) + ((-1) * v_iv (n_v vs 1) + ((-37) * v_iv (n_v vs 3) + 0)) ≤ 8 := f0
  obtain ⟨f1, hf⟩ := fc_un (show (23 : Nat) < 100 from by decide) hf
  have f1 : 1 * v_iv (n_v vs 5) + ((-1) * v_iv (n_v vs 1) + ((-37) * v_iv (n_v vs 3) + 0)) ≤ 0 := f1
  obtain ⟨f2, hf⟩ := fc_un (show (20 : Nat) < 100 from by decide) hf
  have f2 : 1 * v_iv (n_v vs 4) + ((-1) * w_el ws (w_ar ws (n_v vs 2) 2) (w_fi ws (n_v vs 2) 5 + 0).toNat + 0) ≤ 0 := f2
  obtain ⟨f3, hf⟩ := fc_un (show (20 : Nat) < 100 from by decide) hf
  have f3 : (-1) * v_iv (n_v vs 4) + (1 * w_el ws (w_ar ws (n_v vs 2) 2) (w_fi ws (n_v vs 2) 5 + 0).toNat + 0) ≤ 0 := f3
  obtain ⟨f4, hf⟩ := fc_un (show (24 : Nat) < 100 from by decide) hf
  have f4 : n_v vs 0 = n_v vs 2 := f4
  obtain ⟨f5, hf⟩ := fc_un (show (20 : Nat) < 100 from by decide) hf
  have f5 : 1 * w_fi ws (n_v vs 2) 170 + ((-1) * v_iv (n_v vs 7) + 0) ≤ 1 := f5
  obtain ⟨ta1, w1, le1, ⟨_, s1⟩, hf⟩ := fc_us (show ¬ (102 : Nat) < 100 from by decide) hf
  obtain ⟨f7, hf⟩ := fc_un (show (23 : Nat) < 100 from by decide) hf
  have f7 : 1 * v_iv (n_v vs 7) + ((-1) * v_iv (n_v vs 1) + ((-37) * v_iv (n_v vs 3) + 0)) ≤ 8 := f7
  obtain ⟨f8, hf⟩ := fc_un (show (23 : Nat) < 100 from by decide) hf
  have f8 : 1 * v_iv (n_v vs 5) + ((-1) * v_iv (n_v vs 1) + ((-37) * v_iv (n_v vs 3) + 0)) ≤ 0 := f8
  obtain ⟨ta2, w2, le2, ⟨_, s2⟩, hf⟩ := fc_us (show ¬ (102 : Nat) < 100 from by decide) hf
  obtain ⟨f10, hf⟩ := fc_un (show (23 : Nat) < 100 from by decide) hf
  have f10 : 1 * v_iv (n_v vs 5) + ((-1) * v_iv (n_v vs 1) + ((-37) * v_iv (n_v vs 3) + 0)) ≤ 0 := f10
  obtain ⟨f11, hf⟩ := fc_un (show (7 : Nat) < 100 from by decide) hf
  have f11 : v_iv (n_v vs 3) < v_iv (n_v vs 4) := f11
  have q2 : n_v vs 2 = n_v vs 0 := f4.symm
  rw [q2] at f2
  rw [q2] at f3
  rw [q2] at f5
  have cr_0_2 : ta (w_ar ws (n_v vs 0) 2) = some 152 := tv_rg (th_fd hD hth r0 (g := GG_150) rfl (k := 2) (t := (2, 0, 0, [152])) rfl rfl)
  have kz_0_170 : 0 ≤ w_fi ws (n_v vs 0) 170 ∧ w_fi ws (n_v vs 0) 170 ≤ 100000000 := tv_rng (th_fd hD hth r0 (g := GG_150) rfl (k := 170) (t := (0, 0, 100000000, [])) rfl rfl)
  have kv0 : 0 ≤ w_fi ws (n_v vs 0) 170 ∧ w_fi ws (n_v vs 0) 170 ≤ 100000000 := tv_rng (th_fd hD hth r0 (g := GG_150) rfl (k := 170) (t := (0, 0, 100000000, [])) rfl rfl)
  obtain ⟨x, ex, hx⟩ := iv_ex (ta := ta) (lo := 0) (hi := 99999987) (z := w_fi ws (n_v vs 0) 170) (by omega) (by omega) (by omega) (by omega)
  have ex2 : v_iv (Value.int x) = w_fi ws (n_v vs 0) 170 := ex
  have ex3 : 0 ≤ v_iv (Value.int x) ∧ v_iv (Value.int x) ≤ 99999987 := tv_rng hx
  have e_1 : n_v (vs ++ [Value.int x]) 1 = n_v vs 1 := n_v_old (by rw [hl]; decide)
  have e_2 : n_v (vs ++ [Value.int x]) 2 = n_v vs 2 := n_v_old (by rw [hl]; decide)
  have e_3 : n_v (vs ++ [Value.int x]) 3 = n_v vs 3 := n_v_old (by rw [hl]; decide)
  have e_9 : n_v (vs ++ [Value.int x]) 9 = Value.int x := n_v_new hl
  have nf0 : fc_1 (20, [2, 9], [30, 0, 1, 1, 170, -1, 0, 0]) ws (vs ++ [Value.int x]) := by
    refine ⟨fun n hn => ?_, ?_⟩
    · have hn : n ∈ [2, 9] := hn
      rw [List.length_append, hl]
      simp only [List.mem_cons, List.not_mem_nil, or_false] at hn
      show n < 9 + 1; omega
    · show 1 * w_fi ws (n_v (vs ++ [Value.int x]) 2) 170 + ((-1) * v_iv (n_v (vs ++ [Value.int x]) 9) + 0) ≤ 0
      rw [e_2]
      rw [e_9]
      rw [q2]
      omega
  have nf1 : fc_1 (23, [9, 1, 3], [9, 1, -1, -37]) ws (vs ++ [Value.int x]) := by
    refine ⟨fun n hn => ?_, ?_⟩
    · have hn : n ∈ [9, 1, 3] := hn
      rw [List.length_append, hl]
      simp only [List.mem_cons, List.not_mem_nil, or_false] at hn
      show n < 9 + 1; omega
    · show 1 * v_iv (n_v (vs ++ [Value.int x]) 9) + ((-1) * v_iv (n_v (vs ++ [Value.int x]) 1) + ((-37) * v_iv (n_v (vs ++ [Value.int x]) 3) + 0)) ≤ 9
      rw [e_1]
      rw [e_3]
      rw [e_9]
      omega
  exact ⟨(fun _ h => (by cases h)), [Value.int x], ag_one hx, List.forall_mem_cons.mpr ⟨⟨show (20 : Nat) < 100 from by decide, nf0⟩, List.forall_mem_cons.mpr ⟨⟨show (23 : Nat) < 100 from by decide, nf1⟩, (fun _ h => (by cases h))⟩⟩, (fun _ h => (by cases h))⟩
def o_Mo_writeDrawing_5 : or_T := (33, 11, [(0, (2, 0, 0, [150])), (1, (0, 0, 99965512, [])), (2, (2, 0, 0, [150])), (3, (0, 0, 23, [])), (4, (0, 1, 24, [])), (5, (0, 0, 99999992, [])), (7, (0, 0, 99999999, [])), (9, (0, 0, 99999987, []))], [(23, [9, 1, 3], [9, 1, -1, -37]), (23, [7, 1, 3], [8, 1, -1, -37]), (23, [5, 1, 3], [0, 1, -1, -37]), (20, [4, 2], [30, 0, 1, 0, 0, -1, 3, 2005000]), (20, [4, 2], [30, 0, -1, 0, 0, 1, 3, 2005000]), (24, [0, 2], []), (20, [2, 9], [30, 13, 1, 1, 170, -1, 0, 0]), (102, [9], [237142198758023568227473377297792835283496928595231875152809132048206089502588928, 13170]), (23, [9, 1, 3], [9, 1, -1, -37]), (23, [7, 1, 3], [8, 1, -1, -37]), (23, [5, 1, 3], [0, 1, -1, -37]), (102, [7], [237142198758023568227473377297792835283496928595231875152809132048206089502588928, 13170]), (23, [7, 1, 3], [8, 1, -1, -37]), (23, [5, 1, 3], [0, 1, -1, -37]), (102, [5], [237142198758023568227473377297792835283496928595231875152809132048206089502588928, 13170]), (23, [5, 1, 3], [0, 1, -1, -37]), (7, [3, 4], [2])], [], [(0, 0, 99999999, [])], [(20, [2, 11], [30, 0, 1, 1, 170, -1, 0, 0]), (23, [11, 1, 3], [22, 1, -1, -37])], [], [(3, 4, -4294967296, -1)])
theorem oo_Mo_writeDrawing_5 {kA : Nat → ClassId} : or_ok kA GG o_Mo_writeDrawing_5 := by
  intro A ta ws vs hD hth hl hk hds hf
  have hl : vs.length = 11 := hl
  have hk : ∀ q ∈ ([(0, (2, 0, 0, [150])), (1, (0, 0, 99965512, [])), (2, (2, 0, 0, [150])), (3, (0, 0, 23, [])), (4, (0, 1, 24, [])), (5, (0, 0, 99999992, [])), (7, (0, 0, 99999999, [])), (9, (0, 0, 99999987, []))] : List (Nat × tv_T)), tv_ok ta q.2 (n_v vs q.1) := hk
  obtain ⟨t0, hk⟩ := List.forall_mem_cons.mp hk
  have t0 : tv_ok ta (2, 0, 0, [150]) (n_v vs 0) := t0
  have r0 : ta (v_ad (n_v vs 0)) = some 150 := tv_rg t0
  obtain ⟨t1, hk⟩ := List.forall_mem_cons.mp hk
  have t1 : tv_ok ta (0, 0, 99965512, []) (n_v vs 1) := t1
  have k1 : 0 ≤ v_iv (n_v vs 1) ∧ v_iv (n_v vs 1) ≤ 99965512 := tv_rng t1
  obtain ⟨t2, hk⟩ := List.forall_mem_cons.mp hk
  have t2 : tv_ok ta (2, 0, 0, [150]) (n_v vs 2) := t2
  have r2 : ta (v_ad (n_v vs 2)) = some 150 := tv_rg t2
  obtain ⟨t3, hk⟩ := List.forall_mem_cons.mp hk
  have t3 : tv_ok ta (0, 0, 23, []) (n_v vs 3) := t3
  have k3 : 0 ≤ v_iv (n_v vs 3) ∧ v_iv (n_v vs 3) ≤ 23 := tv_rng t3
  obtain ⟨t4, hk⟩ := List.forall_mem_cons.mp hk
  have t4 : tv_ok ta (0, 1, 24, []) (n_v vs 4) := t4
  have k4 : 1 ≤ v_iv (n_v vs 4) ∧ v_iv (n_v vs 4) ≤ 24 := tv_rng t4
  obtain ⟨t5, hk⟩ := List.forall_mem_cons.mp hk
  have t5 : tv_ok ta (0, 0, 99999992, []) (n_v vs 5) := t5
  have k5 : 0 ≤ v_iv (n_v vs 5) ∧ v_iv (n_v vs 5) ≤ 99999992 := tv_rng t5
  obtain ⟨t7, hk⟩ := List.forall_mem_cons.mp hk
  have t7 : tv_ok ta (0, 0, 99999999, []) (n_v vs 7) := t7
  have k7 : 0 ≤ v_iv (n_v vs 7) ∧ v_iv (n_v vs 7) ≤ 99999999 := tv_rng t7
  obtain ⟨t9, hk⟩ := List.forall_mem_cons.mp hk
  have t9 : tv_ok ta (0, 0, 99999987, []) (n_v vs 9) := t9
  have k9 : 0 ≤ v_iv (n_v vs 9) ∧ v_iv (n_v vs 9) ≤ 99999987 := tv_rng t9
  have hds : ∀ q ∈ ([(3, 4, -4294967296, -1)] : List of_T), n_iv vs q.2.1 + q.2.2.1 ≤ n_iv vs q.1 ∧ n_iv vs q.1 ≤ n_iv vs q.2.1 + q.2.2.2 := hds
  obtain ⟨d0, hds⟩ := List.forall_mem_cons.mp hds
  have d0 : v_iv (n_v vs 4) + (-4294967296) ≤ v_iv (n_v vs 3) ∧ v_iv (n_v vs 3) ≤ v_iv (n_v vs 4) + (-1) := d0
  have hf : fc_ok [(23, [9, 1, 3], [9, 1, -1, -37]), (23, [7, 1, 3], [8, 1, -1, -37]), (23, [5, 1, 3], [0, 1, -1, -37]), (20, [4, 2], [30, 0, 1, 0, 0, -1, 3, 2005000]), (20, [4, 2], [30, 0, -1, 0, 0, 1, 3, 2005000]), (24, [0, 2], []), (20, [2, 9], [30, 13, 1, 1, 170, -1, 0, 0]), (102, [9], [237142198758023568227473377297792835283496928595231875152809132048206089502588928, 13170]), (23, [9, 1, 3], [9, 1, -1, -37]), (23, [7, 1, 3], [8, 1, -1, -37]), (23, [5, 1, 3], [0, 1, -1, -37]), (102, [7], [237142198758023568227473377297792835283496928595231875152809132048206089502588928, 13170]), (23, [7, 1, 3], [8, 1, -1, -37]), (23, [5, 1, 3], [0, 1, -1, -37]), (102, [5], [237142198758023568227473377297792835283496928595231875152809132048206089502588928, 13170]), (23, [5, 1, 3], [0, 1, -1, -37]), (7, [3, 4], [2])] ta ws vs := hf
  obtain ⟨f0, hf⟩ := fc_un (show (23 : Nat) < 100 from by decide) hf
  have f0 : 1 * v_iv (n_v vs 9) + ((-1) * v_iv (n_v vs 1) + ((-37) * v_iv (n_v vs 3) + 0)) ≤ 9 := f0
  obtain ⟨f1, hf⟩ := fc_un (show (23 : Nat) < 100 from by decide) hf
  have f1 : 1 * v_iv (n_v vs 7) + ((-1) * v_iv (n_v vs 1) + ((-37) * v_iv (n_v vs 3) + 0)) ≤ 8 := f1
  obtain ⟨f2, hf⟩ := fc_un (show (23 : Nat) < 100 from by decide) hf
  have f2 : 1 * v_iv (n_v vs 5) + ((-1) * v_iv (n_v vs 1) + ((-37) * v_iv (n_v vs 3) + 0)) ≤ 0 := f2
  obtain ⟨f3, hf⟩ := fc_un (show (20 : Nat) < 100 from by decide) hf
  have f3 : 1 * v_iv (n_v vs 4) + ((-1) * w_el ws (w_ar ws (n_v vs 2) 2) (w_fi ws (n_v vs 2) 5 + 0).toNat + 0) ≤ 0 := f3
  obtain ⟨f4, hf⟩ := fc_un (show (20 : Nat) < 100 from by decide) hf
  have f4 : (-1) * v_iv (n_v vs 4) + (1 * w_el ws (w_ar ws (n_v vs 2) 2) (w_fi ws (n_v vs 2) 5 + 0).toNat + 0) ≤ 0 := f4
  obtain ⟨f5, hf⟩ := fc_un (show (24 : Nat) < 100 from by decide) hf
  have f5 : n_v vs 0 = n_v vs 2 := f5
  obtain ⟨f6, hf⟩ := fc_un (show (20 : Nat) < 100 from by decide) hf
  have f6 : 1 * w_fi ws (n_v vs 2) 170 + ((-1) * v_iv (n_v vs 9) + 0) ≤ 13 := f6
  obtain ⟨ta1, w1, le1, ⟨_, s1⟩, hf⟩ := fc_us (show ¬ (102 : Nat) < 100 from by decide) hf
  obtain ⟨f8, hf⟩ := fc_un (show (23 : Nat) < 100 from by decide) hf
  have f8 : 1 * v_iv (n_v vs 9) + ((-1) * v_iv (n_v vs 1) + ((-37) * v_iv (n_v vs 3) + 0)) ≤ 9 := f8
  obtain ⟨f9, hf⟩ := fc_un (show (23 : Nat) < 100 from by decide) hf
  have f9 : 1 * v_iv (n_v vs 7) + ((-1) * v_iv (n_v vs 1) + ((-37) * v_iv (n_v vs 3) + 0)) ≤ 8 := f9
  obtain ⟨f10, hf⟩ := fc_un (show (23 : Nat) < 100 from by decide) hf
  have f10 : 1 * v_iv (n_v vs 5) + ((-1) * v_iv (n_v vs 1) + ((-37) * v_iv (n_v vs 3) + 0)) ≤ 0 := f10
  obtain ⟨ta2, w2, le2, ⟨_, s2⟩, hf⟩ := fc_us (show ¬ (102 : Nat) < 100 from by decide) hf
  obtain ⟨f12, hf⟩ := fc_un (show (23 : Nat) < 100 from by decide) hf
  have f12 : 1 * v_iv (n_v vs 7) + ((-1) * v_iv (n_v vs 1) + ((-37) * v_iv (n_v vs 3) + 0)) ≤ 8 := f12
  obtain ⟨f13, hf⟩ := fc_un (show (23 : Nat) < 100 from by decide) hf
  have f13 : 1 * v_iv (n_v vs 5) + ((-1) * v_iv (n_v vs 1) + ((-37) * v_iv (n_v vs 3) + 0)) ≤ 0 := f13
  obtain ⟨ta3, w3, le3, ⟨_, s3⟩, hf⟩ := fc_us (show ¬ (102 : Nat) < 100 from by decide) hf
  obtain ⟨f15, hf⟩ := fc_un (show (23 : Nat) < 100 from by decide) hf
  have f15 : 1 * v_iv (n_v vs 5) + ((-1) * v_iv (n_v vs 1) + ((-37) * v_iv (n_v vs 3) + 0)) ≤ 0 := f15
  obtain ⟨f16, hf⟩ := fc_un (show (7 : Nat) < 100 from by decide) hf
  have f16 : v_iv (n_v vs 3) < v_iv (n_v vs 4) := f16
  have q2 : n_v vs 2 = n_v vs 0 := f5.symm
  rw [q2] at f3
  rw [q2] at f4
  rw [q2] at f6
  have cr_0_2 : ta (w_ar ws (n_v vs 0) 2) = some 152 := tv_rg (th_fd hD hth r0 (g := GG_150) rfl (k := 2) (t := (2, 0, 0, [152])) rfl rfl)
  have kz_0_170 : 0 ≤ w_fi ws (n_v vs 0) 170 ∧ w_fi ws (n_v vs 0) 170 ≤ 100000000 := tv_rng (th_fd hD hth r0 (g := GG_150) rfl (k := 170) (t := (0, 0, 100000000, [])) rfl rfl)
  have kv0 : 0 ≤ w_fi ws (n_v vs 0) 170 ∧ w_fi ws (n_v vs 0) 170 ≤ 100000000 := tv_rng (th_fd hD hth r0 (g := GG_150) rfl (k := 170) (t := (0, 0, 100000000, [])) rfl rfl)
  obtain ⟨x, ex, hx⟩ := iv_ex (ta := ta) (lo := 0) (hi := 99999999) (z := w_fi ws (n_v vs 0) 170) (by omega) (by omega) (by omega) (by omega)
  have ex2 : v_iv (Value.int x) = w_fi ws (n_v vs 0) 170 := ex
  have ex3 : 0 ≤ v_iv (Value.int x) ∧ v_iv (Value.int x) ≤ 99999999 := tv_rng hx
  have e_1 : n_v (vs ++ [Value.int x]) 1 = n_v vs 1 := n_v_old (by rw [hl]; decide)
  have e_2 : n_v (vs ++ [Value.int x]) 2 = n_v vs 2 := n_v_old (by rw [hl]; decide)
  have e_3 : n_v (vs ++ [Value.int x]) 3 = n_v vs 3 := n_v_old (by rw [hl]; decide)
  have e_11 : n_v (vs ++ [Value.int x]) 11 = Value.int x := n_v_new hl
  have nf0 : fc_1 (20, [2, 11], [30, 0, 1, 1, 170, -1, 0, 0]) ws (vs ++ [Value.int x]) := by
    refine ⟨fun n hn => ?_, ?_⟩
    · have hn : n ∈ [2, 11] := hn
      rw [List.length_append, hl]
      simp only [List.mem_cons, List.not_mem_nil, or_false] at hn
      show n < 11 + 1; omega
    · show 1 * w_fi ws (n_v (vs ++ [Value.int x]) 2) 170 + ((-1) * v_iv (n_v (vs ++ [Value.int x]) 11) + 0) ≤ 0
      rw [e_2]
      rw [e_11]
      rw [q2]
      omega
  have nf1 : fc_1 (23, [11, 1, 3], [22, 1, -1, -37]) ws (vs ++ [Value.int x]) := by
    refine ⟨fun n hn => ?_, ?_⟩
    · have hn : n ∈ [11, 1, 3] := hn
      rw [List.length_append, hl]
      simp only [List.mem_cons, List.not_mem_nil, or_false] at hn
      show n < 11 + 1; omega
    · show 1 * v_iv (n_v (vs ++ [Value.int x]) 11) + ((-1) * v_iv (n_v (vs ++ [Value.int x]) 1) + ((-37) * v_iv (n_v (vs ++ [Value.int x]) 3) + 0)) ≤ 22
      rw [e_1]
      rw [e_3]
      rw [e_11]
      omega
  exact ⟨(fun _ h => (by cases h)), [Value.int x], ag_one hx, List.forall_mem_cons.mpr ⟨⟨show (20 : Nat) < 100 from by decide, nf0⟩, List.forall_mem_cons.mpr ⟨⟨show (23 : Nat) < 100 from by decide, nf1⟩, (fun _ h => (by cases h))⟩⟩, (fun _ h => (by cases h))⟩
def o_Mo_writeDrawing_6 : or_T := (42, 13, [(0, (2, 0, 0, [150])), (1, (0, 0, 99965512, [])), (2, (2, 0, 0, [150])), (3, (0, 0, 23, [])), (4, (0, 1, 24, [])), (5, (0, 0, 99999992, [])), (7, (0, 0, 99999999, [])), (9, (0, 0, 99999987, [])), (11, (0, 0, 99999999, []))], [(23, [11, 1, 3], [22, 1, -1, -37]), (23, [9, 1, 3], [9, 1, -1, -37]), (23, [7, 1, 3], [8, 1, -1, -37]), (23, [5, 1, 3], [0, 1, -1, -37]), (20, [4, 2], [30, 0, 1, 0, 0, -1, 3, 2005000]), (20, [4, 2], [30, 0, -1, 0, 0, 1, 3, 2005000]), (24, [0, 2], []), (20, [2, 11], [30, 1, 1, 1, 170, -1, 0, 0]), (102, [11], [237142198758023568227473377297792835283496928595231875152809132048206089502588928, 13170]), (23, [11, 1, 3], [22, 1, -1, -37]), (23, [9, 1, 3], [9, 1, -1, -37]), (23, [7, 1, 3], [8, 1, -1, -37]), (23, [5, 1, 3], [0, 1, -1, -37]), (102, [9], [237142198758023568227473377297792835283496928595231875152809132048206089502588928, 13170]), (23, [9, 1, 3], [9, 1, -1, -37]), (23, [7, 1, 3], [8, 1, -1, -37]), (23, [5, 1, 3], [0, 1, -1, -37]), (102, [7], [237142198758023568227473377297792835283496928595231875152809132048206089502588928, 13170]), (23, [7, 1, 3], [8, 1, -1, -37]), (23, [5, 1, 3], [0, 1, -1, -37]), (102, [5], [237142198758023568227473377297792835283496928595231875152809132048206089502588928, 13170]), (23, [5, 1, 3], [0, 1, -1, -37]), (7, [3, 4], [2])], [], [(0, 0, 99999987, [])], [(20, [2, 13], [30, 0, 1, 1, 170, -1, 0, 0]), (23, [13, 1, 3], [23, 1, -1, -37])], [], [(3, 4, -4294967296, -1)])
theorem oo_Mo_writeDrawing_6 {kA : Nat → ClassId} : or_ok kA GG o_Mo_writeDrawing_6 := by
  intro A ta ws vs hD hth hl hk hds hf
  have hl : vs.length = 13 := hl
  have hk : ∀ q ∈ ([(0, (2, 0, 0, [150])), (1, (0, 0, 99965512, [])), (2, (2, 0, 0, [150])), (3, (0, 0, 23, [])), (4, (0, 1, 24, [])), (5, (0, 0, 99999992, [])), (7, (0, 0, 99999999, [])), (9, (0, 0, 99999987, [])), (11, (0, 0, 99999999, []))] : List (Nat × tv_T)), tv_ok ta q.2 (n_v vs q.1) := hk
  obtain ⟨t0, hk⟩ := List.forall_mem_cons.mp hk
  have t0 : tv_ok ta (2, 0, 0, [150]) (n_v vs 0) := t0
  have r0 : ta (v_ad (n_v vs 0)) = some 150 := tv_rg t0
  obtain ⟨t1, hk⟩ := List.forall_mem_cons.mp hk
  have t1 : tv_ok ta (0, 0, 99965512, []) (n_v vs 1) := t1
  have k1 : 0 ≤ v_iv (n_v vs 1) ∧ v_iv (n_v vs 1) ≤ 99965512 := tv_rng t1
  obtain ⟨t2, hk⟩ := List.forall_mem_cons.mp hk
  have t2 : tv_ok ta (2, 0, 0, [150]) (n_v vs 2) := t2
  have r2 : ta (v_ad (n_v vs 2)) = some 150 := tv_rg t2
  obtain ⟨t3, hk⟩ := List.forall_mem_cons.mp hk
  have t3 : tv_ok ta (0, 0, 23, []) (n_v vs 3) := t3
  have k3 : 0 ≤ v_iv (n_v vs 3) ∧ v_iv (n_v vs 3) ≤ 23 := tv_rng t3
  obtain ⟨t4, hk⟩ := List.forall_mem_cons.mp hk
  have t4 : tv_ok ta (0, 1, 24, []) (n_v vs 4) := t4
  have k4 : 1 ≤ v_iv (n_v vs 4) ∧ v_iv (n_v vs 4) ≤ 24 := tv_rng t4
  obtain ⟨t5, hk⟩ := List.forall_mem_cons.mp hk
  have t5 : tv_ok ta (0, 0, 99999992, []) (n_v vs 5) := t5
  have k5 : 0 ≤ v_iv (n_v vs 5) ∧ v_iv (n_v vs 5) ≤ 99999992 := tv_rng t5
  obtain ⟨t7, hk⟩ := List.forall_mem_cons.mp hk
  have t7 : tv_ok ta (0, 0, 99999999, []) (n_v vs 7) := t7
  have k7 : 0 ≤ v_iv (n_v vs 7) ∧ v_iv (n_v vs 7) ≤ 99999999 := tv_rng t7
  obtain ⟨t9, hk⟩ := List.forall_mem_cons.mp hk
  have t9 : tv_ok ta (0, 0, 99999987, []) (n_v vs 9) := t9
  have k9 : 0 ≤ v_iv (n_v vs 9) ∧ v_iv (n_v vs 9) ≤ 99999987 := tv_rng t9
  obtain ⟨t11, hk⟩ := List.forall_mem_cons.mp hk
  have t11 : tv_ok ta (0, 0, 99999999, []) (n_v vs 11) := t11
  have k11 : 0 ≤ v_iv (n_v vs 11) ∧ v_iv (n_v vs 11) ≤ 99999999 := tv_rng t11
  have hds : ∀ q ∈ ([(3, 4, -4294967296, -1)] : List of_T), n_iv vs q.2.1 + q.2.2.1 ≤ n_iv vs q.1 ∧ n_iv vs q.1 ≤ n_iv vs q.2.1 + q.2.2.2 := hds
  obtain ⟨d0, hds⟩ := List.forall_mem_cons.mp hds
  have d0 : v_iv (n_v vs 4) + (-4294967296) ≤ v_iv (n_v vs 3) ∧ v_iv (n_v vs 3) ≤ v_iv (n_v vs 4) + (-1) := d0
  have hf : fc_ok [(23, [11, 1, 3], [22, 1, -1, -37]), (23, [9, 1, 3], [9, 1, -1, -37]), (23, [7, 1, 3], [8, 1, -1, -37]), (23, [5, 1, 3], [0, 1, -1, -37]), (20, [4, 2], [30, 0, 1, 0, 0, -1, 3, 2005000]), (20, [4, 2], [30, 0, -1, 0, 0, 1, 3, 2005000]), (24, [0, 2], []), (20, [2, 11], [30, 1, 1, 1, 170, -1, 0, 0]), (102, [11], [237142198758023568227473377297792835283496928595231875152809132048206089502588928, 13170]), (23, [11, 1, 3], [22, 1, -1, -37]), (23, [9, 1, 3], [9, 1, -1, -37]), (23, [7, 1, 3], [8, 1, -1, -37]), (23, [5, 1, 3], [0, 1, -1, -37]), (102, [9], [237142198758023568227473377297792835283496928595231875152809132048206089502588928, 13170]), (23, [9, 1, 3], [9, 1, -1, -37]), (23, [7, 1, 3], [8, 1, -1, -37]), (23, [5, 1, 3], [0, 1, -1, -37]), (102, [7], [237142198758023568227473377297792835283496928595231875152809132048206089502588928, 13170]), (23, [7, 1, 3], [8, 1, -1, -37]), (23, [5, 1, 3], [0, 1, -1, -37]), (102, [5], [237142198758023568227473377297792835283496928595231875152809132048206089502588928, 13170]), (23, [5, 1, 3], [0, 1, -1, -37]), (7, [3, 4], [2])] ta ws vs := hf
  obtain ⟨f0, hf⟩ := fc_un (show (23 : Nat) < 100 from by decide) hf
  have f0 : 1 * v_iv (n_v vs 11) + ((-1) * v_iv (n_v vs 1) + ((-37) * v_iv (n_v vs 3) + 0)) ≤ 22 := f0
  obtain ⟨f1, hf⟩ := fc_un (show (23 : Nat) < 100 from by decide) hf
  have f1 : 1 * v_iv (n_v vs 9) + ((-1) * v_iv (n_v vs 1) + ((-37) * v_iv (n_v vs 3) + 0)) ≤ 9 := f1
  obtain ⟨f2, hf⟩ := fc_un (show (23 : Nat) < 100 from by decide) hf
  have f2 : 1 * v_iv (n_v vs 7) + ((-1) * v_iv (n_v vs 1) + ((-37) * v_iv (n_v vs 3) + 0)) ≤ 8 := f2
  obtain ⟨f3, hf⟩ := fc_un (show (23 : Nat) < 100 from by decide) hf
  have f3 : 1 * v_iv (n_v vs 5) + ((-1) * v_iv (n_v vs 1) + ((-37) * v_iv (n_v vs 3) + 0)) ≤ 0 := f3
  obtain ⟨f4, hf⟩ := fc_un (show (20 : Nat) < 100 from by decide) hf
  have f4 : 1 * v_iv (n_v vs 4) + ((-1) * w_el ws (w_ar ws (n_v vs 2) 2) (w_fi ws (n_v vs 2) 5 + 0).toNat + 0) ≤ 0 := f4
  obtain ⟨f5, hf⟩ := fc_un (show (20 : Nat) < 100 from by decide) hf
  have f5 : (-1) * v_iv (n_v vs 4) + (1 * w_el ws (w_ar ws (n_v vs 2) 2) (w_fi ws (n_v vs 2) 5 + 0).toNat + 0) ≤ 0 := f5
  obtain ⟨f6, hf⟩ := fc_un (show (24 : Nat) < 100 from by decide) hf
  have f6 : n_v vs 0 = n_v vs 2 := f6
  obtain ⟨f7, hf⟩ := fc_un (show (20 : Nat) < 100 from by decide) hf
  have f7 : 1 * w_fi ws (n_v vs 2) 170 + ((-1) * v_iv (n_v vs 11) + 0) ≤ 1 := f7
  obtain ⟨ta1, w1, le1, ⟨_, s1⟩, hf⟩ := fc_us (show ¬ (102 : Nat) < 100 from by decide) hf
  obtain ⟨f9, hf⟩ := fc_un (show (23 : Nat) < 100 from by decide) hf
  have f9 : 1 * v_iv (n_v vs 11) + ((-1) * v_iv (n_v vs 1) + ((-37) * v_iv (n_v vs 3) + 0)) ≤ 22 := f9
  obtain ⟨f10, hf⟩ := fc_un (show (23 : Nat) < 100 from by decide) hf
  have f10 : 1 * v_iv (n_v vs 9) + ((-1) * v_iv (n_v vs 1) + ((-37) * v_iv (n_v vs 3) + 0)) ≤ 9 := f10
  obtain ⟨f11, hf⟩ := fc_un (show (23 : Nat) < 100 from by decide) hf
  have f11 : 1 * v_iv (n_v vs 7) + ((-1) * v_iv (n_v vs 1) + ((-37) * v_iv (n_v vs 3) + 0)) ≤ 8 := f11
  obtain ⟨f12, hf⟩ := fc_un (show (23 : Nat) < 100 from by decide) hf
  have f12 : 1 * v_iv (n_v vs 5) + ((-1) * v_iv (n_v vs 1) + ((-37) * v_iv (n_v vs 3) + 0)) ≤ 0 := f12
  obtain ⟨ta2, w2, le2, ⟨_, s2⟩, hf⟩ := fc_us (show ¬ (102 : Nat) < 100 from by decide) hf
  obtain ⟨f14, hf⟩ := fc_un (show (23 : Nat) < 100 from by decide) hf
  have f14 : 1 * v_iv (n_v vs 9) + ((-1) * v_iv (n_v vs 1) + ((-37) * v_iv (n_v vs 3) + 0)) ≤ 9 := f14
  obtain ⟨f15, hf⟩ := fc_un (show (23 : Nat) < 100 from by decide) hf
  have f15 : 1 * v_iv (n_v vs 7) + ((-1) * v_iv (n_v vs 1) + ((-37) * v_iv (n_v vs 3) + 0)) ≤ 8 := f15
  obtain ⟨f16, hf⟩ := fc_un (show (23 : Nat) < 100 from by decide) hf
  have f16 : 1 * v_iv (n_v vs 5) + ((-1) * v_iv (n_v vs 1) + ((-37) * v_iv (n_v vs 3) + 0)) ≤ 0 := f16
  obtain ⟨ta3, w3, le3, ⟨_, s3⟩, hf⟩ := fc_us (show ¬ (102 : Nat) < 100 from by decide) hf
  obtain ⟨f18, hf⟩ := fc_un (show (23 : Nat) < 100 from by decide) hf
  have f18 : 1 * v_iv (n_v vs 7) + ((-1) * v_iv (n_v vs 1) + ((-37) * v_iv (n_v vs 3) + 0)) ≤ 8 := f18
  obtain ⟨f19, hf⟩ := fc_un (show (23 : Nat) < 100 from by decide) hf
  have f19 : 1 * v_iv (n_v vs 5) + ((-1) * v_iv (n_v vs 1) + ((-37) * v_iv (n_v vs 3) + 0)) ≤ 0 := f19
  obtain ⟨ta4, w4, le4, ⟨_, s4⟩, hf⟩ := fc_us (show ¬ (102 : Nat) < 100 from by decide) hf
  obtain ⟨f21, hf⟩ := fc_un (show (23 : Nat) < 100 from by decide) hf
  have f21 : 1 * v_iv (n_v vs 5) + ((-1) * v_iv (n_v vs 1) + ((-37) * v_iv (n_v vs 3) + 0)) ≤ 0 := f21
  obtain ⟨f22, hf⟩ := fc_un (show (7 : Nat) < 100 from by decide) hf
  have f22 : v_iv (n_v vs 3) < v_iv (n_v vs 4) := f22
  have q2 : n_v vs 2 = n_v vs 0 := f6.symm
  rw [q2] at f4
  rw [q2] at f5
  rw [q2] at f7
  have cr_0_2 : ta (w_ar ws (n_v vs 0) 2) = some 152 := tv_rg (th_fd hD hth r0 (g := GG_150) rfl (k := 2) (t := (2, 0, 0, [152])) rfl rfl)
  have kz_0_170 : 0 ≤ w_fi ws (n_v vs 0) 170 ∧ w_fi ws (n_v vs 0) 170 ≤ 100000000 := tv_rng (th_fd hD hth r0 (g := GG_150) rfl (k := 170) (t := (0, 0, 100000000, [])) rfl rfl)
  have kv0 : 0 ≤ w_fi ws (n_v vs 0) 170 ∧ w_fi ws (n_v vs 0) 170 ≤ 100000000 := tv_rng (th_fd hD hth r0 (g := GG_150) rfl (k := 170) (t := (0, 0, 100000000, [])) rfl rfl)
  obtain ⟨x, ex, hx⟩ := iv_ex (ta := ta) (lo := 0) (hi := 99999987) (z := w_fi ws (n_v vs 0) 170) (by omega) (by omega) (by omega) (by omega)
  have ex2 : v_iv (Value.int x) = w_fi ws (n_v vs 0) 170 := ex
  have ex3 : 0 ≤ v_iv (Value.int x) ∧ v_iv (Value.int x) ≤ 99999987 := tv_rng hx
  have e_1 : n_v (vs ++ [Value.int x]) 1 = n_v vs 1 := n_v_old (by rw [hl]; decide)
  have e_2 : n_v (vs ++ [Value.int x]) 2 = n_v vs 2 := n_v_old (by rw [hl]; decide)
  have e_3 : n_v (vs ++ [Value.int x]) 3 = n_v vs 3 := n_v_old (by rw [hl]; decide)
  have e_13 : n_v (vs ++ [Value.int x]) 13 = Value.int x := n_v_new hl
  have nf0 : fc_1 (20, [2, 13], [30, 0, 1, 1, 170, -1, 0, 0]) ws (vs ++ [Value.int x]) := by
    refine ⟨fun n hn => ?_, ?_⟩
    · have hn : n ∈ [2, 13] := hn
      rw [List.length_append, hl]
      simp only [List.mem_cons, List.not_mem_nil, or_false] at hn
      show n < 13 + 1; omega
    · show 1 * w_fi ws (n_v (vs ++ [Value.int x]) 2) 170 + ((-1) * v_iv (n_v (vs ++ [Value.int x]) 13) + 0) ≤ 0
      rw [e_2]
      rw [e_13]
      rw [q2]
      omega
  have nf1 : fc_1 (23, [13, 1, 3], [23, 1, -1, -37]) ws (vs ++ [Value.int x]) := by
    refine ⟨fun n hn => ?_, ?_⟩
    · have hn : n ∈ [13, 1, 3] := hn
      rw [List.length_append, hl]
      simp only [List.mem_cons, List.not_mem_nil, or_false] at hn
      show n < 13 + 1; omega
    · show 1 * v_iv (n_v (vs ++ [Value.int x]) 13) + ((-1) * v_iv (n_v (vs ++ [Value.int x]) 1) + ((-37) * v_iv (n_v (vs ++ [Value.int x]) 3) + 0)) ≤ 23
      rw [e_1]
      rw [e_3]
      rw [e_13]
      omega
  exact ⟨(fun _ h => (by cases h)), [Value.int x], ag_one hx, List.forall_mem_cons.mpr ⟨⟨show (20 : Nat) < 100 from by decide, nf0⟩, List.forall_mem_cons.mpr ⟨⟨show (23 : Nat) < 100 from by decide, nf1⟩, (fun _ h => (by cases h))⟩⟩, (fun _ h => (by cases h))⟩
def o_Mo_writeDrawing_7 : or_T := (48, 15, [(0, (2, 0, 0, [150])), (1, (0, 0, 99965512, [])), (2, (2, 0, 0, [150])), (3, (0, 0, 23, [])), (4, (0, 1, 24, [])), (5, (0, 0, 99999992, [])), (7, (0, 0, 99999999, [])), (9, (0, 0, 99999987, [])), (11, (0, 0, 99999999, [])), (13, (0, 0, 99999987, []))], [(23, [13, 1, 3], [23, 1, -1, -37]), (23, [11, 1, 3], [22, 1, -1, -37]), (23, [9, 1, 3], [9, 1, -1, -37]), (23, [7, 1, 3], [8, 1, -1, -37]), (23, [5, 1, 3], [0, 1, -1, -37]), (20, [4, 2], [30, 0, 1, 0, 0, -1, 3, 2005000]), (20, [4, 2], [30, 0, -1, 0, 0, 1, 3, 2005000]), (24, [0, 2], []), (20, [2, 13], [30, 13, 1, 1, 170, -1, 0, 0]), (102, [13], [237142198758023568227473377297792835283496928595231875152809132048206089502588928, 13170]), (23, [13, 1, 3], [23, 1, -1, -37]), (23, [11, 1, 3], [22, 1, -1, -37]), (23, [9, 1, 3], [9, 1, -1, -37]), (23, [7, 1, 3], [8, 1, -1, -37]), (23, [5, 1, 3], [0, 1, -1, -37]), (102, [11], [237142198758023568227473377297792835283496928595231875152809132048206089502588928, 13170]), (23, [11, 1, 3], [22, 1, -1, -37]), (23, [9, 1, 3], [9, 1, -1, -37]), (23, [7, 1, 3], [8, 1, -1, -37]), (23, [5, 1, 3], [0, 1, -1, -37]), (102, [9], [237142198758023568227473377297792835283496928595231875152809132048206089502588928, 13170]), (23, [9, 1, 3], [9, 1, -1, -37]), (23, [7, 1, 3], [8, 1, -1, -37]), (23, [5, 1, 3], [0, 1, -1, -37]), (102, [7], [237142198758023568227473377297792835283496928595231875152809132048206089502588928, 13170]), (23, [7, 1, 3], [8, 1, -1, -37]), (23, [5, 1, 3], [0, 1, -1, -37]), (102, [5], [237142198758023568227473377297792835283496928595231875152809132048206089502588928, 13170]), (23, [5, 1, 3], [0, 1, -1, -37]), (7, [3, 4], [2])], [], [(0, 0, 99999999, [])], [(20, [2, 15], [30, 0, 1, 1, 170, -1, 0, 0]), (23, [15, 1, 3], [36, 1, -1, -37])], [], [(3, 4, -4294967296, -1)])
theorem oo_Mo_writeDrawing_7 {kA : Nat → ClassId} : or_ok kA GG o_Mo_writeDrawing_7 := by
  intro A ta ws vs hD hth hl hk hds hf
  have hl : vs.length = 15 := hl
  have hk : ∀ q ∈ ([(0, (2, 0, 0, [150])), (1, (0, 0, 99965512, [])), (2, (2, 0, 0, [150])), (3, (0, 0, 23, [])), (4, (0, 1, 24, [])), (5, (0, 0, 99999992, [])), (7, (0, 0, 99999999, [])), (9, (0, 0, 99999987, [])), (11, (0, 0, 99999999, [])), (13, (0, 0, 99999987, []))] : List (Nat × tv_T)), tv_ok ta q.2 (n_v vs q.1) := hk
  obtain ⟨t0, hk⟩ := List.forall_mem_cons.mp hk
  have t0 : tv_ok ta (2, 0, 0, [150]) (n_v vs 0) := t0
  have r0 : ta (v_ad (n_v vs 0)) = some 150 := tv_rg t0
  obtain ⟨t1, hk⟩ := List.forall_mem_cons.mp hk
  have t1 : tv_ok ta (0, 0, 99965512, []) (n_v vs 1) := t1
  have k1 : 0 ≤ v_iv (n_v vs 1) ∧ v_iv (n_v vs 1) ≤ 99965512 := tv_rng t1
  obtain ⟨t2, hk⟩ := List.forall_mem_cons.mp hk
  have t2 : tv_ok ta (2, 0, 0, [150]) (n_v vs 2) := t2
  have r2 : ta (v_ad (n_v vs 2)) = some 150 := tv_rg t2
  obtain ⟨t3, hk⟩ := List.forall_mem_cons.mp hk
  have t3 : tv_ok ta (0, 0, 23, []) (n_v vs 3) := t3
  have k3 : 0 ≤ v_iv (n_v vs 3) ∧ v_iv (n_v vs 3) ≤ 23 := tv_rng t3
  obtain ⟨t4, hk⟩ := List.forall_mem_cons.mp hk
  have t4 : tv_ok ta (0, 1, 24, []) (n_v vs 4) := t4
  have k4 : 1 ≤ v_iv (n_v vs 4) ∧ v_iv (n_v vs 4) ≤ 24 := tv_rng t4
  obtain ⟨t5, hk⟩ := List.forall_mem_cons.mp hk
  have t5 : tv_ok ta (0, 0, 99999992, []) (n_v vs 5) := t5
  have k5 : 0 ≤ v_iv (n_v vs 5) ∧ v_iv (n_v vs 5) ≤ 99999992 := tv_rng t5
  obtain ⟨t7, hk⟩ := List.forall_mem_cons.mp hk
  have t7 : tv_ok ta (0, 0, 99999999, []) (n_v vs 7) := t7
  have k7 : 0 ≤ v_iv (n_v vs 7) ∧ v_iv (n_v vs 7) ≤ 99999999 := tv_rng t7
  obtain ⟨t9, hk⟩ := List.forall_mem_cons.mp hk
  have t9 : tv_ok ta (0, 0, 99999987, []) (n_v vs 9) := t9
  have k9 : 0 ≤ v_iv (n_v vs 9) ∧ v_iv (n_v vs 9) ≤ 99999987 := tv_rng t9
  obtain ⟨t11, hk⟩ := List.forall_mem_cons.mp hk
  have t11 : tv_ok ta (0, 0, 99999999, []) (n_v vs 11) := t11
  have k11 : 0 ≤ v_iv (n_v vs 11) ∧ v_iv (n_v vs 11) ≤ 99999999 := tv_rng t11
  obtain ⟨t13, hk⟩ := List.forall_mem_cons.mp hk
  have t13 : tv_ok ta (0, 0, 99999987, []) (n_v vs 13) := t13
  have k13 : 0 ≤ v_iv (n_v vs 13) ∧ v_iv (n_v vs 13) ≤ 99999987 := tv_rng t13
  have hds : ∀ q ∈ ([(3, 4, -4294967296, -1)] : List of_T), n_iv vs q.2.1 + q.2.2.1 ≤ n_iv vs q.1 ∧ n_iv vs q.1 ≤ n_iv vs q.2.1 + q.2.2.2 := hds
  obtain ⟨d0, hds⟩ := List.forall_mem_cons.mp hds
  have d0 : v_iv (n_v vs 4) + (-4294967296) ≤ v_iv (n_v vs 3) ∧ v_iv (n_v vs 3) ≤ v_iv (n_v vs 4) + (-1) := d0
  have hf : fc_ok [(23, [13, 1, 3], [23, 1, -1, -37]), (23, [11, 1, 3], [22, 1, -1, -37]), (23, [9, 1, 3], [9, 1, -1, -37]), (23, [7, 1, 3], [8, 1, -1, -37]), (23, [5, 1, 3], [0, 1, -1, -37]), (20, [4, 2], [30, 0, 1, 0, 0, -1, 3, 2005000]), (20, [4, 2], [30, 0, -1, 0, 0, 1, 3, 2005000]), (24, [0, 2], []), (20, [2, 13], [30, 13, 1, 1, 170, -1, 0, 0]), (102, [13], [237142198758023568227473377297792835283496928595231875152809132048206089502588928, 13170]), (23, [13, 1, 3], [23, 1, -1, -37]), (23, [11, 1, 3], [22, 1, -1, -37]), (23, [9, 1, 3], [9, 1, -1, -37]), (23, [7, 1, 3], [8, 1, -1, -37]), (23, [5, 1, 3], [0, 1, -1, -37]), (102, [11], [237142198758023568227473377297792835283496928595231875152809132048206089502588928, 13170]), (23, [11, 1, 3], [22, 1, -1, -37]), (23, [9, 1, 3], [9, 1, -1, -37]), (23, [7, 1, 3], [8, 1, -1, -37]), (23, [5, 1, 3], [0, 1, -1, -37]), (102, [9], [237142198758023568227473377297792835283496928595231875152809132048206089502588928, 13170]), (23, [9, 1, 3], [9, 1, -1, -37]), (23, [7, 1, 3], [8, 1, -1, -37]), (23, [5, 1, 3], [0, 1, -1, -37]), (102, [7], [237142198758023568227473377297792835283496928595231875152809132048206089502588928, 13170]), (23, [7, 1, 3], [8, 1, -1, -37]), (23, [5, 1, 3], [0, 1, -1, -37]), (102, [5], [237142198758023568227473377297792835283496928595231875152809132048206089502588928, 13170]), (23, [5, 1, 3], [0, 1, -1, -37]), (7, [3, 4], [2])] ta ws vs := hf
  obtain ⟨f0, hf⟩ := fc_un (show (23 : Nat) < 100 from by decide) hf
  have f0 : 1 * v_iv (n_v vs 13) + ((-1) * v_iv (n_v vs 1) + ((-37) * v_iv (n_v vs 3) + 0)) ≤ 23 := f0
  obtain ⟨f1, hf⟩ := fc_un (show (23 : Nat) < 100 from by decide) hf
  have f1 : 1 * v_iv (n_v vs 11) + ((-1) * v_iv (n_v vs 1) + ((-37) * v_iv (n_v vs 3) + 0)) ≤ 22 := f1
  obtain ⟨f2, hf⟩ := fc_un (show (23 : Nat) < 100 from by decide) hf
  have f2 : 1 * v_iv (n_v vs 9) + ((-1) * v_iv (n_v vs 1) + ((-37) * v_iv (n_v vs 3) + 0)) ≤ 9 := f2
  obtain ⟨f3, hf⟩ := fc_un (show (23 : Nat) < 100 from by decide) hf
  have f3 : 1 * v_iv (n_v vs 7) + ((-1) * v_iv (n_v vs 1) + ((-37) * v_iv (n_v vs 3) + 0)) ≤ 8 := f3
  obtain ⟨f4, hf⟩ := fc_un (show (23 : Nat) < 100 from by decide) hf
  have f4 : 1 * v_iv (n_v vs 5) + ((-1) * v_iv (n_v vs 1) + ((-37) * v_iv (n_v vs 3) + 0)) ≤ 0 := f4
  obtain ⟨f5, hf⟩ := fc_un (show (20 : Nat) < 100 from by decide) hf
  have f5 : 1 * v_iv (n_v vs 4) + ((-1) * w_el ws (w_ar ws (n_v vs 2) 2) (w_fi ws (n_v vs 2) 5 + 0).toNat + 0) ≤ 0 := f5
  obtain ⟨f6, hf⟩ := fc_un (show (20 : Nat) < 100 from by decide) hf
  have f6 : (-1) * v_iv (n_v vs 4) + (1 * w_el ws (w_ar ws (n_v vs 2) 2) (w_fi ws (n_v vs 2) 5 + 0).toNat + 0) ≤ 0 := f6
  obtain ⟨f7, hf⟩ := fc_un (show (24 : Nat) < 100 from by decide) hf
  have f7 : n_v vs 0 = n_v vs 2 := f7
  obtain ⟨f8, hf⟩ := fc_un (show (20 : Nat) < 100 from by decide) hf
  have f8 : 1 * w_fi ws (n_v vs 2) 170 + ((-1) * v_iv (n_v vs 13) + 0) ≤ 13 := f8
  obtain ⟨ta1, w1, le1, ⟨_, s1⟩, hf⟩ := fc_us (show ¬ (102 : Nat) < 100 from by decide) hf
  obtain ⟨f10, hf⟩ := fc_un (show (23 : Nat) < 100 from by decide) hf
  have f10 : 1 * v_iv (n_v vs 13) + ((-1) * v_iv (n_v vs 1) + ((-37) * v_iv (n_v vs 3) + 0)) ≤ 23 := f10
  obtain ⟨f11, hf⟩ := fc_un (show (23 : Nat) < 100 from by decide) hf
  have f11 : 1 * v_iv (n_v vs 11) + ((-1) * v_iv (n_v vs 1) + ((-37) * v_iv (n_v vs 3) + 0)) ≤ 22 := f11
  obtain ⟨f12, hf⟩ := fc_un (show (23 : Nat) < 100 from by decide) hf
  have f12 : 1 * v_iv (n_v vs 9) + ((-1) * v_iv (n_v vs 1) + ((-37) * v_iv (n_v vs 3) + 0)) ≤ 9 := f12
  obtain ⟨f13, hf⟩ := fc_un (show (23 : Nat) < 100 from by decide) hf
  have f13 : 1 * v_iv (n_v vs 7) + ((-1) * v_iv (n_v vs 1) + ((-37) * v_iv (n_v vs 3) + 0)) ≤ 8 := f13
  obtain ⟨f14, hf⟩ := fc_un (show (23 : Nat) < 100 from by decide) hf
  have f14 : 1 * v_iv (n_v vs 5) + ((-1) * v_iv (n_v vs 1) + ((-37) * v_iv (n_v vs 3) + 0)) ≤ 0 := f14
  obtain ⟨ta2, w2, le2, ⟨_, s2⟩, hf⟩ := fc_us (show ¬ (102 : Nat) < 100 from by decide) hf
  obtain ⟨f16, hf⟩ := fc_un (show (23 : Nat) < 100 from by decide) hf
  have f16 : 1 * v_iv (n_v vs 11) + ((-1) * v_iv (n_v vs 1) + ((-37) * v_iv (n_v vs 3) + 0)) ≤ 22 := f16
  obtain ⟨f17, hf⟩ := fc_un (show (23 : Nat) < 100 from by decide) hf
  have f17 : 1 * v_iv (n_v vs 9) + ((-1) * v_iv (n_v vs 1) + ((-37) * v_iv (n_v vs 3) + 0)) ≤ 9 := f17
  obtain ⟨f18, hf⟩ := fc_un (show (23 : Nat) < 100 from by decide) hf
  have f18 : 1 * v_iv (n_v vs 7) + ((-1) * v_iv (n_v vs 1) + ((-37) * v_iv (n_v vs 3) + 0)) ≤ 8 := f18
  obtain ⟨f19, hf⟩ := fc_un (show (23 : Nat) < 100 from by decide) hf
  have f19 : 1 * v_iv (n_v vs 5) + ((-1) * v_iv (n_v vs 1) + ((-37) * v_iv (n_v vs 3) + 0)) ≤ 0 := f19
  obtain ⟨ta3, w3, le3, ⟨_, s3⟩, hf⟩ := fc_us (show ¬ (102 : Nat) < 100 from by decide) hf
  obtain ⟨f21, hf⟩ := fc_un (show (23 : Nat) < 100 from by decide) hf
  have f21 : 1 * v_iv (n_v vs 9) + ((-1) * v_iv (n_v vs 1) + ((-37) * v_iv (n_v vs 3) + 0)) ≤ 9 := f21
  obtain ⟨f22, hf⟩ := fc_un (show (23 : Nat) < 100 from by decide) hf
  have f22 : 1 * v_iv (n_v vs 7) + ((-1) * v_iv (n_v vs 1) + ((-37) * v_iv (n_v vs 3) + 0)) ≤ 8 := f22
  obtain ⟨f23, hf⟩ := fc_un (show (23 : Nat) < 100 from by decide) hf
  have f23 : 1 * v_iv (n_v vs 5) + ((-1) * v_iv (n_v vs 1) + ((-37) * v_iv (n_v vs 3) + 0)) ≤ 0 := f23
  obtain ⟨ta4, w4, le4, ⟨_, s4⟩, hf⟩ := fc_us (show ¬ (102 : Nat) < 100 from by decide) hf
  obtain ⟨f25, hf⟩ := fc_un (show (23 : Nat) < 100 from by decide) hf
  have f25 : 1 * v_iv (n_v vs 7) + ((-1) * v_iv (n_v vs 1) + ((-37) * v_iv (n_v vs 3) + 0)) ≤ 8 := f25
  obtain ⟨f26, hf⟩ := fc_un (show (23 : Nat) < 100 from by decide) hf
  have f26 : 1 * v_iv (n_v vs 5) + ((-1) * v_iv (n_v vs 1) + ((-37) * v_iv (n_v vs 3) + 0)) ≤ 0 := f26
  obtain ⟨ta5, w5, le5, ⟨_, s5⟩, hf⟩ := fc_us (show ¬ (102 : Nat) < 100 from by decide) hf
  obtain ⟨f28, hf⟩ := fc_un (show (23 : Nat) < 100 from by decide) hf
  have f28 : 1 * v_iv (n_v vs 5) + ((-1) * v_iv (n_v vs 1) + ((-37) * v_iv (n_v vs 3) + 0)) ≤ 0 := f28
  obtain ⟨f29, hf⟩ := fc_un (show (7 : Nat) < 100 from by decide) hf
  have f29 : v_iv (n_v vs 3) < v_iv (n_v vs 4) := f29
  have q2 : n_v vs 2 = n_v vs 0 := f7.symm
  rw [q2] at f5
  rw [q2] at f6
  rw [q2] at f8
  have cr_0_2 : ta (w_ar ws (n_v vs 0) 2) = some 152 := tv_rg (th_fd hD hth r0 (g := GG_150) rfl (k := 2) (t := (2, 0, 0, [152])) rfl rfl)
  have kz_0_170 : 0 ≤ w_fi ws (n_v vs 0) 170 ∧ w_fi ws (n_v vs 0) 170 ≤ 100000000 := tv_rng (th_fd hD hth r0 (g := GG_150) rfl (k := 170) (t := (0, 0, 100000000, [])) rfl rfl)
  have kv0 : 0 ≤ w_fi ws (n_v vs 0) 170 ∧ w_fi ws (n_v vs 0) 170 ≤ 100000000 := tv_rng (th_fd hD hth r0 (g := GG_150) rfl (k := 170) (t := (0, 0, 100000000, [])) rfl rfl)
  obtain ⟨x, ex, hx⟩ := iv_ex (ta := ta) (lo := 0) (hi := 99999999) (z := w_fi ws (n_v vs 0) 170) (by omega) (by omega) (by omega) (by omega)
  have ex2 : v_iv (Value.int x) = w_fi ws (n_v vs 0) 170 := ex
  have ex3 : 0 ≤ v_iv (Value.int x) ∧ v_iv (Value.int x) ≤ 99999999 := tv_rng hx
  have e_1 : n_v (vs ++ [Value.int x]) 1 = n_v vs 1 := n_v_old (by rw [hl]; decide)
  have e_2 : n_v (vs ++ [Value.int x]) 2 = n_v vs 2 := n_v_old (by rw [hl]; decide)
  have e_3 : n_v (vs ++ [Value.int x]) 3 = n_v vs 3 := n_v_old (by rw [hl]; decide)
  have e_15 : n_v (vs ++ [Value.int x]) 15 = Value.int x := n_v_new hl
  have nf0 : fc_1 (20, [2, 15], [30, 0, 1, 1, 170, -1, 0, 0]) ws (vs ++ [Value.int x]) := by
    refine ⟨fun n hn => ?_, ?_⟩
    · have hn : n ∈ [2, 15] := hn
      rw [List.length_append, hl]
      simp only [List.mem_cons, List.not_mem_nil, or_false] at hn
      show n < 15 + 1; omega
    · show 1 * w_fi ws (n_v (vs ++ [Value.int x]) 2) 170 + ((-1) * v_iv (n_v (vs ++ [Value.int x]) 15) + 0) ≤ 0
      rw [e_2]
      rw [e_15]
      rw [q2]
      omega
  have nf1 : fc_1 (23, [15, 1, 3], [36, 1, -1, -37]) ws (vs ++ [Value.int x]) := by
    refine ⟨fun n hn => ?_, ?_⟩
    · have hn : n ∈ [15, 1, 3] := hn
      rw [List.length_append, hl]
      simp only [List.mem_cons, List.not_mem_nil, or_false] at hn
      show n < 15 + 1; omega
    · show 1 * v_iv (n_v (vs ++ [Value.int x]) 15) + ((-1) * v_iv (n_v (vs ++ [Value.int x]) 1) + ((-37) * v_iv (n_v (vs ++ [Value.int x]) 3) + 0)) ≤ 36
      rw [e_1]
      rw [e_3]
      rw [e_15]
      omega
  exact ⟨(fun _ h => (by cases h)), [Value.int x], ag_one hx, List.forall_mem_cons.mpr ⟨⟨show (20 : Nat) < 100 from by decide, nf0⟩, List.forall_mem_cons.mpr ⟨⟨show (23 : Nat) < 100 from by decide, nf1⟩, (fun _ h => (by cases h))⟩⟩, (fun _ h => (by cases h))⟩
def o_Mo_writeDrawing_8 : or_T := (2, 17, [(0, (2, 0, 0, [150])), (1, (0, 0, 99965512, [])), (2, (2, 0, 0, [150])), (3, (0, 0, 23, [])), (4, (0, 1, 24, [])), (5, (0, 0, 99999992, [])), (7, (0, 0, 99999999, [])), (9, (0, 0, 99999987, [])), (11, (0, 0, 99999999, [])), (13, (0, 0, 99999987, [])), (15, (0, 0, 99999999, [])), (16, (0, 1, 24, []))], [(6, [16, 3], [1]), (23, [15, 1, 3], [36, 1, -1, -37]), (23, [13, 1, 3], [23, 1, -1, -37]), (23, [11, 1, 3], [22, 1, -1, -37]), (23, [9, 1, 3], [9, 1, -1, -37]), (23, [7, 1, 3], [8, 1, -1, -37]), (23, [5, 1, 3], [0, 1, -1, -37]), (20, [4, 2], [30, 0, 1, 0, 0, -1, 3, 2005000]), (20, [4, 2], [30, 0, -1, 0, 0, 1, 3, 2005000]), (24, [0, 2], []), (20, [2, 15], [30, 1, 1, 1, 170, -1, 0, 0]), (102, [15], [237142198758023568227473377297792835283496928595231875152809132048206089502588928, 13170]), (23, [15, 1, 3], [36, 1, -1, -37]), (23, [13, 1, 3], [23, 1, -1, -37]), (23, [11, 1, 3], [22, 1, -1, -37]), (23, [9, 1, 3], [9, 1, -1, -37]), (23, [7, 1, 3], [8, 1, -1, -37]), (23, [5, 1, 3], [0, 1, -1, -37]), (102, [13], [237142198758023568227473377297792835283496928595231875152809132048206089502588928, 13170]), (23, [13, 1, 3], [23, 1, -1, -37]), (23, [11, 1, 3], [22, 1, -1, -37]), (23, [9, 1, 3], [9, 1, -1, -37]), (23, [7, 1, 3], [8, 1, -1, -37]), (23, [5, 1, 3], [0, 1, -1, -37]), (102, [11], [237142198758023568227473377297792835283496928595231875152809132048206089502588928, 13170]), (23, [11, 1, 3], [22, 1, -1, -37]), (23, [9, 1, 3], [9, 1, -1, -37]), (23, [7, 1, 3], [8, 1, -1, -37]), (23, [5, 1, 3], [0, 1, -1, -37]), (102, [9], [237142198758023568227473377297792835283496928595231875152809132048206089502588928, 13170]), (23, [9, 1, 3], [9, 1, -1, -37]), (23, [7, 1, 3], [8, 1, -1, -37]), (23, [5, 1, 3], [0, 1, -1, -37]), (102, [7], [237142198758023568227473377297792835283496928595231875152809132048206089502588928, 13170]), (23, [7, 1, 3], [8, 1, -1, -37]), (23, [5, 1, 3], [0, 1, -1, -37]), (102, [5], [237142198758023568227473377297792835283496928595231875152809132048206089502588928, 13170]), (23, [5, 1, 3], [0, 1, -1, -37]), (7, [3, 4], [2])], [], [], [(20, [2, 1, 16], [30, 0, 1, 1, 170, -1, 0, 0, -37, 0, 0])], [], [(16, 3, 1, 1), (16, 4, -4294967296, 0), (3, 4, -4294967296, -1)])
theorem oo_Mo_writeDrawing_8 {kA : Nat → ClassId} : or_ok kA GG o_Mo_writeDrawing_8 := by
  intro A ta ws vs hD hth hl hk hds hf
  have hl : vs.length = 17 := hl
  have hk : ∀ q ∈ ([(0, (2, 0, 0, [150])), (1, (0, 0, 99965512, [])), (2, (2, 0, 0, [150])), (3, (0, 0, 23, [])), (4, (0, 1, 24, [])), (5, (0, 0, 99999992, [])), (7, (0, 0, 99999999, [])), (9, (0, 0, 99999987, [])), (11, (0, 0, 99999999, [])), (13, (0, 0, 99999987, [])), (15, (0, 0, 99999999, [])), (16, (0, 1, 24, []))] : List (Nat × tv_T)), tv_ok ta q.2 (n_v vs q.1) := hk
  obtain ⟨t0, hk⟩ := List.forall_mem_cons.mp hk
  have t0 : tv_ok ta (2, 0, 0, [150]) (n_v vs 0) := t0
  have r0 : ta (v_ad (n_v vs 0)) = some 150 := tv_rg t0
  obtain ⟨t1, hk⟩ := List.forall_mem_cons.mp hk
  have t1 : tv_ok ta (0, 0, 99965512, []) (n_v vs 1) := t1
  have k1 : 0 ≤ v_iv (n_v vs 1) ∧ v_iv (n_v vs 1) ≤ 99965512 := tv_rng t1
  obtain ⟨t2, hk⟩ := List.forall_mem_cons.mp hk
  have t2 : tv_ok ta (2, 0, 0, [150]) (n_v vs 2) := t2
  have r2 : ta (v_ad (n_v vs 2)) = some 150 := tv_rg t2
  obtain ⟨t3, hk⟩ := List.forall_mem_cons.mp hk
  have t3 : tv_ok ta (0, 0, 23, []) (n_v vs 3) := t3
  have k3 : 0 ≤ v_iv (n_v vs 3) ∧ v_iv (n_v vs 3) ≤ 23 := tv_rng t3
  obtain ⟨t4, hk⟩ := List.forall_mem_cons.mp hk
  have t4 : tv_ok ta (0, 1, 24, []) (n_v vs 4) := t4
  have k4 : 1 ≤ v_iv (n_v vs 4) ∧ v_iv (n_v vs 4) ≤ 24 := tv_rng t4
  obtain ⟨t5, hk⟩ := List.forall_mem_cons.mp hk
  have t5 : tv_ok ta (0, 0, 99999992, []) (n_v vs 5) := t5
  have k5 : 0 ≤ v_iv (n_v vs 5) ∧ v_iv (n_v vs 5) ≤ 99999992 := tv_rng t5
  obtain ⟨t7, hk⟩ := List.forall_mem_cons.mp hk
  have t7 : tv_ok ta (0, 0, 99999999, []) (n_v vs 7) := t7
  have k7 : 0 ≤ v_iv (n_v vs 7) ∧ v_iv (n_v vs 7) ≤ 99999999 := tv_rng t7
  obtain ⟨t9, hk⟩ := List.forall_mem_cons.mp hk
  have t9 : tv_ok ta (0, 0, 99999987, []) (n_v vs 9) := t9
  have k9 : 0 ≤ v_iv (n_v vs 9) ∧ v_iv (n_v vs 9) ≤ 99999987 := tv_rng t9
  obtain ⟨t11, hk⟩ := List.forall_mem_cons.mp hk
  have t11 : tv_ok ta (0, 0, 99999999, []) (n_v vs 11) := t11
  have k11 : 0 ≤ v_iv (n_v vs 11) ∧ v_iv (n_v vs 11) ≤ 99999999 := tv_rng t11
  obtain ⟨t13, hk⟩ := List.forall_mem_cons.mp hk
  have t13 : tv_ok ta (0, 0, 99999987, []) (n_v vs 13) := t13
  have k13 : 0 ≤ v_iv (n_v vs 13) ∧ v_iv (n_v vs 13) ≤ 99999987 := tv_rng t13
  obtain ⟨t15, hk⟩ := List.forall_mem_cons.mp hk
  have t15 : tv_ok ta (0, 0, 99999999, []) (n_v vs 15) := t15
  have k15 : 0 ≤ v_iv (n_v vs 15) ∧ v_iv (n_v vs 15) ≤ 99999999 := tv_rng t15
  obtain ⟨t16, hk⟩ := List.forall_mem_cons.mp hk
  have t16 : tv_ok ta (0, 1, 24, []) (n_v vs 16) := t16
  have k16 : 1 ≤ v_iv (n_v vs 16) ∧ v_iv (n_v vs 16) ≤ 24 := tv_rng t16
  have hds : ∀ q ∈ ([(16, 3, 1, 1), (16, 4, -4294967296, 0), (3, 4, -4294967296, -1)] : List of_T), n_iv vs q.2.1 + q.2.2.1 ≤ n_iv vs q.1 ∧ n_iv vs q.1 ≤ n_iv vs q.2.1 + q.2.2.2 := hds
  obtain ⟨d0, hds⟩ := List.forall_mem_cons.mp hds
  have d0 : v_iv (n_v vs 3) + 1 ≤ v_iv (n_v vs 16) ∧ v_iv (n_v vs 16) ≤ v_iv (n_v vs 3) + 1 := d0
  obtain ⟨d1, hds⟩ := List.forall_mem_cons.mp hds
  have d1 : v_iv (n_v vs 4) + (-4294967296) ≤ v_iv (n_v vs 16) ∧ v_iv (n_v vs 16) ≤ v_iv (n_v vs 4) + 0 := d1
  obtain ⟨d2, hds⟩ := List.forall_mem_cons.mp hds
  have d2 : v_iv (n_v vs 4) + (-4294967296) ≤ v_iv (n_v vs 3) ∧ v_iv (n_v vs 3) ≤ v_iv (n_v vs 4) + (-1) := d2
  have hf : fc_ok [(6, [16, 3], [1]), (23, [15, 1, 3], [36, 1, -1, -37]), (23, [13, 1, 3], [23, 1, -1, -37]), (23, [11, 1, 3], [22, 1, -1, -37]), (23, [9, 1, 3], [9, 1, -1, -37]), (23, [7, 1, 3], [8, 1, -1, -37]), (23, [5, 1, 3], [0, 1, -1, -37]), (20, [4, 2], [30, 0, 1, 0, 0, -1, 3, 2005000]), (20, [4, 2], [30, 0, -1, 0, 0, 1, 3, 2005000]), (24, [0, 2], []), (20, [2, 15], [30, 1, 1, 1, 170, -1, 0, 0]), (102, [15], [237142198758023568227473377297792835283496928595231875152809132048206089502588928, 13170]), (23, [15, 1, 3], [36, 1, -1, -37]), (23, [13, 1, 3], [23, 1, -1, -37]), (23, [11, 1, 3], [22, 1, -1, -37]), (23, [9, 1, 3], [9, 1, -1, -37]), (23, [7, 1, 3], [8, 1, -1, -37]), (23, [5, 1, 3], [0, 1, -1, -37]), (102, [13], [237142198758023568227473377297792835283496928595231875152809132048206089502588928, 13170]), (23, [13, 1, 3], [23, 1, -1, -37]), (23, [11, 1, 3], [22, 1, -1, -37]), (23, [9, 1, 3], [9, 1, -1, -37]), (23, [7, 1, 3], [8, 1, -1, -37]), (23, [5, 1, 3], [0, 1, -1, -37]), (102, [11], [237142198758023568227473377297792835283496928595231875152809132048206089502588928, 13170]), (23, [11, 1, 3], [22, 1, -1, -37]), (23, [9, 1, 3], [9, 1, -1, -37]), (23, [7, 1, 3], [8, 1, -1, -37]), (23, [5, 1, 3], [0, 1, -1, -37]), (102, [9], [237142198758023568227473377297792835283496928595231875152809132048206089502588928, 13170]), (23, [9, 1, 3], [9, 1, -1, -37]), (23, [7, 1, 3], [8, 1, -1, -37]), (23, [5, 1, 3], [0, 1, -1, -37]), (102, [7], [237142198758023568227473377297792835283496928595231875152809132048206089502588928, 13170]), (23, [7, 1, 3], [8, 1, -1, -37]), (23, [5, 1, 3], [0, 1, -1, -37]), (102, [5], [237142198758023568227473377297792835283496928595231875152809132048206089502588928, 13170]), (23, [5, 1, 3], [0, 1, -1, -37]), (7, [3, 4], [2])] ta ws vs := hf
  obtain ⟨f0, hf⟩ := fc_un (show (6 : Nat) < 100 from by decide) hf
  have f0 : v_iv (n_v vs 16) = v_iv (n_v vs 3) + 1 := f0
  obtain ⟨f1, hf⟩ := fc_un (show (23 : Nat) < 100 from by decide) hf
  have f1 : 1 * v_iv (n_v vs 15) + ((-1) * v_iv (n_v vs 1) + ((-37) * v_iv (n_v vs 3) + 0)) ≤ 36 := f1
  obtain ⟨f2, hf⟩ := fc_un (show (23 : Nat) < 100 from by decide) hf
  have f2 : 1 * v_iv (n_v vs 13) + ((-1) * v_iv (n_v vs 1) + ((-37) * v_iv (n_v vs 3) + 0)) ≤ 23 := f2
  obtain ⟨f3, hf⟩ := fc_un (show (23 : Nat) < 100 from by decide) hf
  have f3 : 1 * v_iv (n_v vs 11) + ((-1) * v_iv (n_v vs 1) + ((-37) * v_iv (n_v vs 3) + 0)) ≤ 22 := f3
  obtain ⟨f4, hf⟩ := fc_un (show (23 : Nat) < 100 from by decide) hf
  have f4 : 1 * v_iv (n_v vs 9) + ((-1) * v_iv (n_v vs 1) + ((-37) * v_iv (n_v vs 3) + 0)) ≤ 9 := f4
  obtain ⟨f5, hf⟩ := fc_un (show (23 : Nat) < 100 from by decide) hf
  have f5 : 1 * v_iv (n_v vs 7) + ((-1) * v_iv (n_v vs 1) + ((-37) * v_iv (n_v vs 3) + 0)) ≤ 8 := f5
  obtain ⟨f6, hf⟩ := fc_un (show (23 : Nat) < 100 from by decide) hf
  have f6 : 1 * v_iv (n_v vs 5) + ((-1) * v_iv (n_v vs 1) + ((-37) * v_iv (n_v vs 3) + 0)) ≤ 0 := f6
  obtain ⟨f7, hf⟩ := fc_un (show (20 : Nat) < 100 from by decide) hf
  have f7 : 1 * v_iv (n_v vs 4) + ((-1) * w_el ws (w_ar ws (n_v vs 2) 2) (w_fi ws (n_v vs 2) 5 + 0).toNat + 0) ≤ 0 := f7
  obtain ⟨f8, hf⟩ := fc_un (show (20 : Nat) < 100 from by decide) hf
  have f8 : (-1) * v_iv (n_v vs 4) + (1 * w_el ws (w_ar ws (n_v vs 2) 2) (w_fi ws (n_v vs 2) 5 + 0).toNat + 0) ≤ 0 := f8
  obtain ⟨f9, hf⟩ := fc_un (show (24 : Nat) < 100 from by decide) hf
  have f9 : n_v vs 0 = n_v vs 2 := f9
  obtain ⟨f10, hf⟩ := fc_un (show (20 : Nat) < 100 from by decide) hf
  have f10 : 1 * w_fi ws (n_v vs 2) 170 + ((-1) * v_iv (n_v vs 15) + 0) ≤ 1 := f10
  obtain ⟨ta1, w1, le1, ⟨_, s1⟩, hf⟩ := fc_us (show ¬ (102 : Nat) < 100 from by decide) hf
  obtain ⟨f12, hf⟩ := fc_un (show (23 : Nat) < 100 from by decide) hf
  have f12 : 1 * v_iv (n_v vs 15) + ((-1) * v_iv (n_v vs 1) + ((-37) * v_iv (n_v vs 3) + 0)) ≤ 36 := f12
  obtain ⟨f13, hf⟩ := fc_un (show (23 : Nat) < 100 from by decide) hf
  have f13 : 1 * v_iv (n_v vs 13) + ((-1) * v_iv (n_v vs 1) + ((-37) * v_iv (n_v vs 3) + 0)) ≤ 23 := f13
  obtain ⟨f14, hf⟩ := fc_un (show (23 : Nat) < 100 from by decide) hf
  have f14 : 1 * v_iv (n_v vs 11) + ((-1) * v_iv (n_v vs 1) + ((-37) * v_iv (n_v vs 3) + 0)) ≤ 22 := f14
  obtain ⟨f15, hf⟩ := fc_un (show (23 : Nat) < 100 from by decide) hf
  have f15 : 1 * v_iv (n_v vs 9) + ((-1) * v_iv (n_v vs 1) + ((-37) * v_iv (n_v vs 3) + 0)) ≤ 9 := f15
  obtain ⟨f16, hf⟩ := fc_un (show (23 : Nat) < 100 from by decide) hf
  have f16 : 1 * v_iv (n_v vs 7) + ((-1) * v_iv (n_v vs 1) + ((-37) * v_iv (n_v vs 3) + 0)) ≤ 8 := f16
  obtain ⟨f17, hf⟩ := fc_un (show (23 : Nat) < 100 from by decide) hf
  have f17 : 1 * v_iv (n_v vs 5) + ((-1) * v_iv (n_v vs 1) + ((-37) * v_iv (n_v vs 3) + 0)) ≤ 0 := f17
  obtain ⟨ta2, w2, le2, ⟨_, s2⟩, hf⟩ := fc_us (show ¬ (102 : Nat) < 100 from by decide) hf
  obtain ⟨f19, hf⟩ := fc_un (show (23 : Nat) < 100 from by decide) hf
  have f19 : 1 * v_iv (n_v vs 13) + ((-1) * v_iv (n_v vs 1) + ((-37) * v_iv (n_v vs 3) + 0)) ≤ 23 := f19
  obtain ⟨f20, hf⟩ := fc_un (show (23 : Nat) < 100 from by decide) hf
  have f20 : 1 * v_iv (n_v vs 11) + ((-1) * v_iv (n_v vs 1) + ((-37) * v_iv (n_v vs 3) + 0)) ≤ 22 := f20
  obtain ⟨f21, hf⟩ := fc_un (show (23 : Nat) < 100 from by decide) hf
  have f21 : 1 * v_iv (n_v vs 9) + ((-1) * v_iv (n_v vs 1) + ((-37) * v_iv (n_v vs 3) + 0)) ≤ 9 := f21
  obtain ⟨f22, hf⟩ := fc_un (show (23 : Nat) < 100 from by decide) hf
  have f22 : 1 * v_iv (n_v vs 7) + ((-1) * v_iv (n_v vs 1) + ((-37) * v_iv (n_v vs 3) + 0)) ≤ 8 := f22
  obtain ⟨f23, hf⟩ := fc_un (show (23 : Nat) < 100 from by decide) hf
  have f23 : 1 * v_iv (n_v vs 5) + ((-1) * v_iv (n_v vs 1) + ((-37) * v_iv (n_v vs 3) + 0)) ≤ 0 := f23
  obtain ⟨ta3, w3, le3, ⟨_, s3⟩, hf⟩ := fc_us (show ¬ (102 : Nat) < 100 from by decide) hf
  obtain ⟨f25, hf⟩ := fc_un (show (23 : Nat) < 100 from by decide) hf
  have f25 : 1 * v_iv (n_v vs 11) + ((-1) * v_iv (n_v vs 1) + ((-37) * v_iv (n_v vs 3) + 0)) ≤ 22 := f25
  obtain ⟨f26, hf⟩ := fc_un (show (23 : Nat) < 100 from by decide) hf
  have f26 : 1 * v_iv (n_v vs 9) + ((-1) * v_iv (n_v vs 1) + ((-37) * v_iv (n_v vs 3) + 0)) ≤ 9 := f26
  obtain ⟨f27, hf⟩ := fc_un (show (23 : Nat) < 100 from by decide) hf
  have f27 : 1 * v_iv (n_v vs 7) + ((-1) * v_iv (n_v vs 1) + ((-37) * v_iv (n_v vs 3) + 0)) ≤ 8 := f27
  obtain ⟨f28, hf⟩ := fc_un (show (23 : Nat) < 100 from by decide) hf
  have f28 : 1 * v_iv (n_v vs 5) + ((-1) * v_iv (n_v vs 1) + ((-37) * v_iv (n_v vs 3) + 0)) ≤ 0 := f28
  obtain ⟨ta4, w4, le4, ⟨_, s4⟩, hf⟩ := fc_us (show ¬ (102 : Nat) < 100 from by decide) hf
  obtain ⟨f30, hf⟩ := fc_un (show (23 : Nat) < 100 from by decide) hf
  have f30 : 1 * v_iv (n_v vs 9) + ((-1) * v_iv (n_v vs 1) + ((-37) * v_iv (n_v vs 3) + 0)) ≤ 9 := f30
  obtain ⟨f31, hf⟩ := fc_un (show (23 : Nat) < 100 from by decide) hf
  have f31 : 1 * v_iv (n_v vs 7) + ((-1) * v_iv (n_v vs 1) + ((-37) * v_iv (n_v vs 3) + 0)) ≤ 8 := f31
  obtain ⟨f32, hf⟩ := fc_un (show (23 : Nat) < 100 from by decide) hf
  have f32 : 1 * v_iv (n_v vs 5) + ((-1) * v_iv (n_v vs 1) + ((-37) * v_iv (n_v vs 3) + 0)) ≤ 0 := f32
  obtain ⟨ta5, w5, le5, ⟨_, s5⟩, hf⟩ := fc_us (show ¬ (102 : Nat) < 100 from by decide) hf
  obtain ⟨f34, hf⟩ := fc_un (show (23 : Nat) < 100 from by decide) hf
  have f34 : 1 * v_iv (n_v vs 7) + ((-1) * v_iv (n_v vs 1) + ((-37) * v_iv (n_v vs 3) + 0)) ≤ 8 := f34
  obtain ⟨f35, hf⟩ := fc_un (show (23 : Nat) < 100 from by decide) hf
  have f35 : 1 * v_iv (n_v vs 5) + ((-1) * v_iv (n_v vs 1) + ((-37) * v_iv (n_v vs 3) + 0)) ≤ 0 := f35
  obtain ⟨ta6, w6, le6, ⟨_, s6⟩, hf⟩ := fc_us (show ¬ (102 : Nat) < 100 from by decide) hf
  obtain ⟨f37, hf⟩ := fc_un (show (23 : Nat) < 100 from by decide) hf
  have f37 : 1 * v_iv (n_v vs 5) + ((-1) * v_iv (n_v vs 1) + ((-37) * v_iv (n_v vs 3) + 0)) ≤ 0 := f37
  obtain ⟨f38, hf⟩ := fc_un (show (7 : Nat) < 100 from by decide) hf
  have f38 : v_iv (n_v vs 3) < v_iv (n_v vs 4) := f38
  have q2 : n_v vs 2 = n_v vs 0 := f9.symm
  rw [q2] at f7
  rw [q2] at f8
  rw [q2] at f10
  have cr_0_2 : ta (w_ar ws (n_v vs 0) 2) = some 152 := tv_rg (th_fd hD hth r0 (g := GG_150) rfl (k := 2) (t := (2, 0, 0, [152])) rfl rfl)
  have kz_0_170 : 0 ≤ w_fi ws (n_v vs 0) 170 ∧ w_fi ws (n_v vs 0) 170 ≤ 100000000 := tv_rng (th_fd hD hth r0 (g := GG_150) rfl (k := 170) (t := (0, 0, 100000000, [])) rfl rfl)
  have nf0 : fc_1 (20, [2, 1, 16], [30, 0, 1, 1, 170, -1, 0, 0, -37, 0, 0]) ws (vs) := by
    refine ⟨fun n hn => ?_, ?_⟩
    · have hn : n ∈ [2, 1, 16] := hn
      rw [hl]
      simp only [List.mem_cons, List.not_mem_nil, or_false] at hn
      show n < 17; omega
    · show 1 * w_fi ws (n_v vs 2) 170 + ((-1) * v_iv (n_v vs 1) + ((-37) * v_iv (n_v vs 16) + 0)) ≤ 0
      rw [q2]
      omega
  refine ⟨(fun _ h => (by cases h)), [], trivial, ?_, (fun _ h => (by cases h))⟩
  rw [List.append_nil]
  exact List.forall_mem_cons.mpr ⟨⟨show (20 : Nat) < 100 from by decide, nf0⟩, (fun _ h => (by cases h))⟩
def o_Mo_writeDrawing_9 : or_T := (154, 5, [(0, (2, 0, 0, [150])), (1, (0, 0, 99965512, [])), (2, (2, 0, 0, [150])), (3, (0, 0, 48, [])), (4, (0, 0, 48, []))], [(7, [3, 4], [3]), (20, [4, 2], [30, 0, 1, 0, 0, -1, 3, 2005001]), (20, [4, 2], [30, 0, -1, 0, 0, 1, 3, 2005001]), (20, [2, 1, 3], [30, 888, 1, 1, 170, -1, 0, 0, -700, 0, 0]), (24, [0, 2], [])], [], [], [(20, [0, 1], [30, 34488, 1, 1, 170, -1, 0, 0])], [], [(3, 4, 0, 4294967296)])
theorem oo_Mo_writeDrawing_9 {kA : Nat → ClassId} : or_ok kA GG o_Mo_writeDrawing_9 := by
  intro A ta ws vs hD hth hl hk hds hf
  have hl : vs.length = 5 := hl
  have hk : ∀ q ∈ ([(0, (2, 0, 0, [150])), (1, (0, 0, 99965512, [])), (2, (2, 0, 0, [150])), (3, (0, 0, 48, [])), (4, (0, 0, 48, []))] : List (Nat × tv_T)), tv_ok ta q.2 (n_v vs q.1) := hk
  obtain ⟨t0, hk⟩ := List.forall_mem_cons.mp hk
  have t0 : tv_ok ta (2, 0, 0, [150]) (n_v vs 0) := t0
  have r0 : ta (v_ad (n_v vs 0)) = some 150 := tv_rg t0
  obtain ⟨t1, hk⟩ := List.forall_mem_cons.mp hk
  have t1 : tv_ok ta (0, 0, 99965512, []) (n_v vs 1) := t1
  have k1 : 0 ≤ v_iv (n_v vs 1) ∧ v_iv (n_v vs 1) ≤ 99965512 := tv_rng t1
  obtain ⟨t2, hk⟩ := List.forall_mem_cons.mp hk
  have t2 : tv_ok ta (2, 0, 0, [150]) (n_v vs 2) := t2
  have r2 : ta (v_ad (n_v vs 2)) = some 150 := tv_rg t2
  obtain ⟨t3, hk⟩ := List.forall_mem_cons.mp hk
  have t3 : tv_ok ta (0, 0, 48, []) (n_v vs 3) := t3
  have k3 : 0 ≤ v_iv (n_v vs 3) ∧ v_iv (n_v vs 3) ≤ 48 := tv_rng t3
  obtain ⟨t4, hk⟩ := List.forall_mem_cons.mp hk
  have t4 : tv_ok ta (0, 0, 48, []) (n_v vs 4) := t4
  have k4 : 0 ≤ v_iv (n_v vs 4) ∧ v_iv (n_v vs 4) ≤ 48 := tv_rng t4
  have hds : ∀ q ∈ ([(3, 4, 0, 4294967296)] : List of_T), n_iv vs q.2.1 + q.2.2.1 ≤ n_iv vs q.1 ∧ n_iv vs q.1 ≤ n_iv vs q.2.1 + q.2.2.2 := hds
  obtain ⟨d0, hds⟩ := List.forall_mem_cons.mp hds
  have d0 : v_iv (n_v vs 4) + 0 ≤ v_iv (n_v vs 3) ∧ v_iv (n_v vs 3) ≤ v_iv (n_v vs 4) + 4294967296 := d0
  have hf : fc_ok [(7, [3, 4], [3]), (20, [4, 2], [30, 0, 1, 0, 0, -1, 3, 2005001]), (20, [4, 2], [30, 0, -1, 0, 0, 1, 3, 2005001]), (20, [2, 1, 3], [30, 888, 1, 1, 170, -1, 0, 0, -700, 0, 0]), (24, [0, 2], [])] ta ws vs := hf
  obtain ⟨f0, hf⟩ := fc_un (show (7 : Nat) < 100 from by decide) hf
  have f0 : v_iv (n_v vs 4) ≤ v_iv (n_v vs 3) := f0
  obtain ⟨f1, hf⟩ := fc_un (show (20 : Nat) < 100 from by decide) hf
  have f1 : 1 * v_iv (n_v vs 4) + ((-1) * w_el ws (w_ar ws (n_v vs 2) 2) (w_fi ws (n_v vs 2) 5 + 1).toNat + 0) ≤ 0 := f1
  obtain ⟨f2, hf⟩ := fc_un (show (20 : Nat) < 100 from by decide) hf
  have f2 : (-1) * v_iv (n_v vs 4) + (1 * w_el ws (w_ar ws (n_v vs 2) 2) (w_fi ws (n_v vs 2) 5 + 1).toNat + 0) ≤ 0 := f2
  obtain ⟨f3, hf⟩ := fc_un (show (20 : Nat) < 100 from by decide) hf
  have f3 : 1 * w_fi ws (n_v vs 2) 170 + ((-1) * v_iv (n_v vs 1) + ((-700) * v_iv (n_v vs 3) + 0)) ≤ 888 := f3
  obtain ⟨f4, hf⟩ := fc_un (show (24 : Nat) < 100 from by decide) hf
  have f4 : n_v vs 0 = n_v vs 2 := f4
  have q2 : n_v vs 2 = n_v vs 0 := f4.symm
  rw [q2] at f1
  rw [q2] at f2
  rw [q2] at f3
  have cr_0_2 : ta (w_ar ws (n_v vs 0) 2) = some 152 := tv_rg (th_fd hD hth r0 (g := GG_150) rfl (k := 2) (t := (2, 0, 0, [152])) rfl rfl)
  have kz_0_170 : 0 ≤ w_fi ws (n_v vs 0) 170 ∧ w_fi ws (n_v vs 0) 170 ≤ 100000000 := tv_rng (th_fd hD hth r0 (g := GG_150) rfl (k := 170) (t := (0, 0, 100000000, [])) rfl rfl)
  have nf0 : fc_1 (20, [0, 1], [30, 34488, 1, 1, 170, -1, 0, 0]) ws (vs) := by
    refine ⟨fun n hn => ?_, ?_⟩
    · have hn : n ∈ [0, 1] := hn
      rw [hl]
      simp only [List.mem_cons, List.not_mem_nil, or_false] at hn
      show n < 5; omega
    · show 1 * w_fi ws (n_v vs 0) 170 + ((-1) * v_iv (n_v vs 1) + 0) ≤ 34488
      omega
  refine ⟨(fun _ h => (by cases h)), [], trivial, ?_, (fun _ h => (by cases h))⟩
  rw [List.append_nil]
  exact List.forall_mem_cons.mpr ⟨⟨show (20 : Nat) < 100 from by decide, nf0⟩, (fun _ h => (by cases h))⟩
def o_Mo_writeDrawing_10 : or_T := (73, 6, [(0, (2, 0, 0, [150])), (1, (0, 0, 99965512, [])), (2, (2, 0, 0, [150])), (3, (0, 0, 47, [])), (4, (0, 1, 48, [])), (5, (0, 0, 23, []))], [(20, [5, 2, 3], [50, 1, 1, 1005, 1002, 1, 2, 1, 0, 3, 1, 2, 4, 7, 4, 3, 2, 1, 5, 0, 267, 1, 2]), (7, [3, 4], [2]), (20, [4, 2], [30, 0, 1, 0, 0, -1, 3, 2005001]), (20, [4, 2], [30, 0, -1, 0, 0, 1, 3, 2005001]), (20, [2, 1, 3], [30, 888, 1, 1, 170, -1, 0, 0, -700, 0, 0]), (24, [0, 2], [])], [], [(0, 0, 99999987, [])], [(20, [2, 6], [30, 0, 1, 1, 170, -1, 0, 0]), (23, [6, 1, 3], [888, 1, -1, -700])], [], [(3, 4, -4294967296, -1)])
theorem oo_Mo_writeDrawing_10 {kA : Nat → ClassId} : or_ok kA GG o_Mo_writeDrawing_10 := by
  intro A ta ws vs hD hth hl hk hds hf
  have hl : vs.length = 6 := hl
  have hk : ∀ q ∈ ([(0, (2, 0, 0, [150])), (1, (0, 0, 99965512, [])), (2, (2, 0, 0, [150])), (3, (0, 0, 47, [])), (4, (0, 1, 48, [])), (5, (0, 0, 23, []))] : List (Nat × tv_T)), tv_ok ta q.2 (n_v vs q.1) := hk
  obtain ⟨t0, hk⟩ := List.forall_mem_cons.mp hk
  have t0 : tv_ok ta (2, 0, 0, [150]) (n_v vs 0) := t0
  have r0 : ta (v_ad (n_v vs 0)) = some 150 := tv_rg t0
  obtain ⟨t1, hk⟩ := List.forall_mem_cons.mp hk
  have t1 : tv_ok ta (0, 0, 99965512, []) (n_v vs 1) := t1
  have k1 : 0 ≤ v_iv (n_v vs 1) ∧ v_iv (n_v vs 1) ≤ 99965512 := tv_rng t1
  obtain ⟨t2, hk⟩ := List.forall_mem_cons.mp hk
  have t2 : tv_ok ta (2, 0, 0, [150]) (n_v vs 2) := t2
  have r2 : ta (v_ad (n_v vs 2)) = some 150 := tv_rg t2
  obtain ⟨t3, hk⟩ := List.forall_mem_cons.mp hk
  have t3 : tv_ok ta (0, 0, 47, []) (n_v vs 3) := t3
  have k3 : 0 ≤ v_iv (n_v vs 3) ∧ v_iv (n_v vs 3) ≤ 47 := tv_rng t3
  obtain ⟨t4, hk⟩ := List.forall_mem_cons.mp hk
  have t4 : tv_ok ta (0, 1, 48, []) (n_v vs 4) := t4
  have k4 : 1 ≤ v_iv (n_v vs 4) ∧ v_iv (n_v vs 4) ≤ 48 := tv_rng t4
  obtain ⟨t5, hk⟩ := List.forall_mem_cons.mp hk
  have t5 : tv_ok ta (0, 0, 23, []) (n_v vs 5) := t5
  have k5 : 0 ≤ v_iv (n_v vs 5) ∧ v_iv (n_v vs 5) ≤ 23 := tv_rng t5
  have hds : ∀ q ∈ ([(3, 4, -4294967296, -1)] : List of_T), n_iv vs q.2.1 + q.2.2.1 ≤ n_iv vs q.1 ∧ n_iv vs q.1 ≤ n_iv vs q.2.1 + q.2.2.2 := hds
  obtain ⟨d0, hds⟩ := List.forall_mem_cons.mp hds
  have d0 : v_iv (n_v vs 4) + (-4294967296) ≤ v_iv (n_v vs 3) ∧ v_iv (n_v vs 3) ≤ v_iv (n_v vs 4) + (-1) := d0
  have hf : fc_ok [(20, [5, 2, 3], [50, 1, 1, 1005, 1002, 1, 2, 1, 0, 3, 1, 2, 4, 7, 4, 3, 2, 1, 5, 0, 267, 1, 2]), (7, [3, 4], [2]), (20, [4, 2], [30, 0, 1, 0, 0, -1, 3, 2005001]), (20, [4, 2], [30, 0, -1, 0, 0, 1, 3, 2005001]), (20, [2, 1, 3], [30, 888, 1, 1, 170, -1, 0, 0, -700, 0, 0]), (24, [0, 2], [])] ta ws vs := hf
  obtain ⟨f0, hf⟩ := fc_un (show (20 : Nat) < 100 from by decide) hf
  have f0 : v_iv (n_v vs 5) = w_ei ws (w_ar ws (n_v vs 2) 2) (((w_fi ws (n_v vs 2) 5 + 267) + v_iv (n_v vs 3))) := f0
  obtain ⟨f1, hf⟩ := fc_un (show (7 : Nat) < 100 from by decide) hf
  have f1 : v_iv (n_v vs 3) < v_iv (n_v vs 4) := f1
  obtain ⟨f2, hf⟩ := fc_un (show (20 : Nat) < 100 from by decide) hf
  have f2 : 1 * v_iv (n_v vs 4) + ((-1) * w_el ws (w_ar ws (n_v vs 2) 2) (w_fi ws (n_v vs 2) 5 + 1).toNat + 0) ≤ 0 := f2
  obtain ⟨f3, hf⟩ := fc_un (show (20 : Nat) < 100 from by decide) hf
  have f3 : (-1) * v_iv (n_v vs 4) + (1 * w_el ws (w_ar ws (n_v vs 2) 2) (w_fi ws (n_v vs 2) 5 + 1).toNat + 0) ≤ 0 := f3
  obtain ⟨f4, hf⟩ := fc_un (show (20 : Nat) < 100 from by decide) hf
  have f4 : 1 * w_fi ws (n_v vs 2) 170 + ((-1) * v_iv (n_v vs 1) + ((-700) * v_iv (n_v vs 3) + 0)) ≤ 888 := f4
  obtain ⟨f5, hf⟩ := fc_un (show (24 : Nat) < 100 from by decide) hf
  have f5 : n_v vs 0 = n_v vs 2 := f5
  have q2 : n_v vs 2 = n_v vs 0 := f5.symm
  rw [q2] at f0
  rw [q2] at f2
  rw [q2] at f3
  rw [q2] at f4
  have cr_0_2 : ta (w_ar ws (n_v vs 0) 2) = some 152 := tv_rg (th_fd hD hth r0 (g := GG_150) rfl (k := 2) (t := (2, 0, 0, [152])) rfl rfl)
  have br_0_2_F5_1_0 : w_ei ws (w_ar ws (n_v vs 0) 2) (w_fi ws (n_v vs 0) 5 + 1) = w_el ws (w_ar ws (n_v vs 0) 2) (w_fi ws (n_v vs 0) 5 + 1).toNat := rfl
  have kz_0_170 : 0 ≤ w_fi ws (n_v vs 0) 170 ∧ w_fi ws (n_v vs 0) 170 ≤ 100000000 := tv_rng (th_fd hD hth r0 (g := GG_150) rfl (k := 170) (t := (0, 0, 100000000, [])) rfl rfl)
  have kv0 : 0 ≤ w_fi ws (n_v vs 0) 170 ∧ w_fi ws (n_v vs 0) 170 ≤ 100000000 := tv_rng (th_fd hD hth r0 (g := GG_150) rfl (k := 170) (t := (0, 0, 100000000, [])) rfl rfl)
  obtain ⟨x, ex, hx⟩ := iv_ex (ta := ta) (lo := 0) (hi := 99999987) (z := w_fi ws (n_v vs 0) 170) (by omega) (by omega) (by omega) (by omega)
  have ex2 : v_iv (Value.int x) = w_fi ws (n_v vs 0) 170 := ex
  have ex3 : 0 ≤ v_iv (Value.int x) ∧ v_iv (Value.int x) ≤ 99999987 := tv_rng hx
  have e_1 : n_v (vs ++ [Value.int x]) 1 = n_v vs 1 := n_v_old (by rw [hl]; decide)
  have e_2 : n_v (vs ++ [Value.int x]) 2 = n_v vs 2 := n_v_old (by rw [hl]; decide)
  have e_3 : n_v (vs ++ [Value.int x]) 3 = n_v vs 3 := n_v_old (by rw [hl]; decide)
  have e_6 : n_v (vs ++ [Value.int x]) 6 = Value.int x := n_v_new hl
  have nf0 : fc_1 (20, [2, 6], [30, 0, 1, 1, 170, -1, 0, 0]) ws (vs ++ [Value.int x]) := by
    refine ⟨fun n hn => ?_, ?_⟩
    · have hn : n ∈ [2, 6] := hn
      rw [List.length_append, hl]
      simp only [List.mem_cons, List.not_mem_nil, or_false] at hn
      show n < 6 + 1; omega
    · show 1 * w_fi ws (n_v (vs ++ [Value.int x]) 2) 170 + ((-1) * v_iv (n_v (vs ++ [Value.int x]) 6) + 0) ≤ 0
      rw [e_2]
      rw [e_6]
      rw [q2]
      omega
  have nf1 : fc_1 (23, [6, 1, 3], [888, 1, -1, -700]) ws (vs ++ [Value.int x]) := by
    refine ⟨fun n hn => ?_, ?_⟩
    · have hn : n ∈ [6, 1, 3] := hn
      rw [List.length_append, hl]
      simp only [List.mem_cons, List.not_mem_nil, or_false] at hn
      show n < 6 + 1; omega
    · show 1 * v_iv (n_v (vs ++ [Value.int x]) 6) + ((-1) * v_iv (n_v (vs ++ [Value.int x]) 1) + ((-700) * v_iv (n_v (vs ++ [Value.int x]) 3) + 0)) ≤ 888
      rw [e_1]
      rw [e_3]
      rw [e_6]
      omega
  exact ⟨(fun _ h => (by cases h)), [Value.int x], ag_one hx, List.forall_mem_cons.mpr ⟨⟨show (20 : Nat) < 100 from by decide, nf0⟩, List.forall_mem_cons.mpr ⟨⟨show (23 : Nat) < 100 from by decide, nf1⟩, (fun _ h => (by cases h))⟩⟩, (fun _ h => (by cases h))⟩
def o_Mo_writeDrawing_11 : or_T := (79, 8, [(0, (2, 0, 0, [150])), (1, (0, 0, 99965512, [])), (2, (2, 0, 0, [150])), (3, (0, 0, 47, [])), (4, (0, 1, 48, [])), (5, (0, 0, 23, [])), (6, (0, 0, 99999987, []))], [(23, [6, 1, 3], [888, 1, -1, -700]), (20, [5, 2, 3], [50, 1, 1, 1005, 1002, 1, 2, 1, 0, 3, 1, 2, 4, 7, 4, 3, 2, 1, 5, 0, 267, 1, 2]), (20, [4, 2], [30, 0, 1, 0, 0, -1, 3, 2005001]), (20, [4, 2], [30, 0, -1, 0, 0, 1, 3, 2005001]), (24, [0, 2], []), (20, [2, 6], [30, 13, 1, 1, 170, -1, 0, 0]), (102, [6], [237142198758023568227473377297792835283496928595231875152809132048206089502588928, 13170]), (23, [6, 1, 3], [888, 1, -1, -700]), (7, [3, 4], [2])], [], [(0, 0, 99999999, [])], [(20, [2, 8], [30, 0, 1, 1, 170, -1, 0, 0]), (23, [8, 1, 3], [901, 1, -1, -700])], [], [(3, 4, -4294967296, -1)])
theorem oo_Mo_writeDrawing_11 {kA : Nat → ClassId} : or_ok kA GG o_Mo_writeDrawing_11 := by
  intro A ta ws vs hD hth hl hk hds hf
  have hl : vs.length = 8 := hl
  have hk : ∀ q ∈ ([(0, (2, 0, 0, [150])), (1, (0, 0, 99965512, [])), (2, (2, 0, 0, [150])), (3, (0, 0, 47, [])), (4, (0, 1, 48, [])), (5, (0, 0, 23, [])), (6, (0, 0, 99999987, []))] : List (Nat × tv_T)), tv_ok ta q.2 (n_v vs q.1) := hk
  obtain ⟨t0, hk⟩ := List.forall_mem_cons.mp hk
  have t0 : tv_ok ta (2, 0, 0, [150]) (n_v vs 0) := t0
  have r0 : ta (v_ad (n_v vs 0)) = some 150 := tv_rg t0
  obtain ⟨t1, hk⟩ := List.forall_mem_cons.mp hk
  have t1 : tv_ok ta (0, 0, 99965512, []) (n_v vs 1) := t1
  have k1 : 0 ≤ v_iv (n_v vs 1) ∧ v_iv (n_v vs 1) ≤ 99965512 := tv_rng t1
  obtain ⟨t2, hk⟩ := List.forall_mem_cons.mp hk
  have t2 : tv_ok ta (2, 0, 0, [150]) (n_v vs 2) := t2
  have r2 : ta (v_ad (n_v vs 2)) = some 150 := tv_rg t2
  obtain ⟨t3, hk⟩ := List.forall_mem_cons.mp hk
  have t3 : tv_ok ta (0, 0, 47, []) (n_v vs 3) := t3
  have k3 : 0 ≤ v_iv (n_v vs 3) ∧ v_iv (n_v vs 3) ≤ 47 := tv_rng t3
  obtain ⟨t4, hk⟩ := List.forall_mem_cons.mp hk
  have t4 : tv_ok ta (0, 1, 48, []) (n_v vs 4) := t4
  have k4 : 1 ≤ v_iv (n_v vs 4) ∧ v_iv (n_v vs 4) ≤ 48 := tv_rng t4
  obtain ⟨t5, hk⟩ := List.forall_mem_cons.mp hk
  have t5 : tv_ok ta (0, 0, 23, []) (n_v vs 5) := t5
  have k5 : 0 ≤ v_iv (n_v vs 5) ∧ v_iv (n_v vs 5) ≤ 23 := tv_rng t5
  obtain ⟨t6, hk⟩ := List.forall_mem_cons.mp hk
  have t6 : tv_ok ta (0, 0, 99999987, []) (n_v vs 6) := t6
  have k6 : 0 ≤ v_iv (n_v vs 6) ∧ v_iv (n_v vs 6) ≤ 99999987 := tv_rng t6
  have hds : ∀ q ∈ ([(3, 4, -4294967296, -1)] : List of_T), n_iv vs q.2.1 + q.2.2.1 ≤ n_iv vs q.1 ∧ n_iv vs q.1 ≤ n_iv vs q.2.1 + q.2.2.2 := hds
  obtain ⟨d0, hds⟩ := List.forall_mem_cons.mp hds
  have d0 : v_iv (n_v vs 4) + (-4294967296) ≤ v_iv (n_v vs 3) ∧ v_iv (n_v vs 3) ≤ v_iv (n_v vs 4) + (-1) := d0
  have hf : fc_ok [(23, [6, 1, 3], [888, 1, -1, -700]), (20, [5, 2, 3], [50, 1, 1, 1005, 1002, 1, 2, 1, 0, 3, 1, 2, 4, 7, 4, 3, 2, 1, 5, 0, 267, 1, 2]), (20, [4, 2], [30, 0, 1, 0, 0, -1, 3, 2005001]), (20, [4, 2], [30, 0, -1, 0, 0, 1, 3, 2005001]), (24, [0, 2], []), (20, [2, 6], [30, 13, 1, 1, 170, -1, 0, 0]), (102, [6], [237142198758023568227473377297792835283496928595231875152809132048206089502588928, 13170]), (23, [6, 1, 3], [888, 1, -1, -700]), (7, [3, 4], [2])] ta ws vs := hf
  obtain ⟨f0, hf⟩ := fc_un (show (23 : Nat) < 100 from by decide) hf
  have f0 : 1 * v_iv (n_v vs 6) + ((-1) * v_iv (n_v vs 1) + ((-700) * v_iv (n_v vs 3) + 0)) ≤ 888 := f0
  obtain ⟨f1, hf⟩ := fc_un (show (20 : Nat) < 100 from by decide) hf
  have f1 : v_iv (n_v vs 5) = w_ei ws (w_ar ws (n_v vs 2) 2) (((w_fi ws (n_v vs 2) 5 + 267) + v_iv (n_v vs 3))) := f1
  obtain ⟨f2, hf⟩ := fc_un (show (20 : Nat) < 100 from by decide) hf
  have f2 : 1 * v_iv (n_v vs 4) + ((-1) * w_el ws (w_ar ws (n_v vs 2) 2) (w_fi ws (n_v vs 2) 5 + 1).toNat + 0) ≤ 0 := f2
  obtain ⟨f3, hf⟩ := fc_un (show (20 : Nat) < 100 from by decide) hf
  have f3 : (-1) * v_iv (n_v vs 4) + (1 * w_el ws (w_ar ws (n_v vs 2) 2) (w_fi ws (n_v vs 2) 5 + 1).toNat + 0) ≤ 0 := f3
  obtain ⟨f4, hf⟩ := fc_un (show (24 : Nat) < 100 from by decide) hf
  have f4 : n_v vs 0 = n_v vs 2 := f4
  obtain ⟨f5, hf⟩ := fc_un (show (20 : Nat) < 100 from by decide) hf
  have f5 : 1 * w_fi ws (n_v vs 2) 170 + ((-1) * v_iv (n_v vs 6) + 0) ≤ 13 := f5
  obtain ⟨ta1, w1, le1, ⟨_, s1⟩, hf⟩ := fc_us (show ¬ (102 : Nat) < 100 from by decide) hf
  obtain ⟨f7, hf⟩ := fc_un (show (23 : Nat) < 100 from by decide) hf
  have f7 : 1 * v_iv (n_v vs 6) + ((-1) * v_iv (n_v vs 1) + ((-700) * v_iv (n_v vs 3) + 0)) ≤ 888 := f7
  obtain ⟨f8, hf⟩ := fc_un (show (7 : Nat) < 100 from by decide) hf
  have f8 : v_iv (n_v vs 3) < v_iv (n_v vs 4) := f8
  have q2 : n_v vs 2 = n_v vs 0 := f4.symm
  rw [q2] at f1
  rw [q2] at f2
  rw [q2] at f3
  rw [q2] at f5
  have cr_0_2 : ta (w_ar ws (n_v vs 0) 2) = some 152 := tv_rg (th_fd hD hth r0 (g := GG_150) rfl (k := 2) (t := (2, 0, 0, [152])) rfl rfl)
  have br_0_2_F5_1_0 : w_ei ws (w_ar ws (n_v vs 0) 2) (w_fi ws (n_v vs 0) 5 + 1) = w_el ws (w_ar ws (n_v vs 0) 2) (w_fi ws (n_v vs 0) 5 + 1).toNat := rfl
  have kz_0_170 : 0 ≤ w_fi ws (n_v vs 0) 170 ∧ w_fi ws (n_v vs 0) 170 ≤ 100000000 := tv_rng (th_fd hD hth r0 (g := GG_150) rfl (k := 170) (t := (0, 0, 100000000, [])) rfl rfl)
  have kv0 : 0 ≤ w_fi ws (n_v vs 0) 170 ∧ w_fi ws (n_v vs 0) 170 ≤ 100000000 := tv_rng (th_fd hD hth r0 (g := GG_150) rfl (k := 170) (t := (0, 0, 100000000, [])) rfl rfl)
  obtain ⟨x, ex, hx⟩ := iv_ex (ta := ta) (lo := 0) (hi := 99999999) (z := w_fi ws (n_v vs 0) 170) (by omega) (by omega) (by omega) (by omega)
  have ex2 : v_iv (Value.int x) = w_fi ws (n_v vs 0) 170 := ex
  have ex3 : 0 ≤ v_iv (Value.int x) ∧ v_iv (Value.int x) ≤ 99999999 := tv_rng hx
  have e_1 : n_v (vs ++ [Value.int x]) 1 = n_v vs 1 := n_v_old (by rw [hl]; decide)
  have e_2 : n_v (vs ++ [Value.int x]) 2 = n_v vs 2 := n_v_old (by rw [hl]; decide)
  have e_3 : n_v (vs ++ [Value.int x]) 3 = n_v vs 3 := n_v_old (by rw [hl]; decide)
  have e_8 : n_v (vs ++ [Value.int x]) 8 = Value.int x := n_v_new hl
  have nf0 : fc_1 (20, [2, 8], [30, 0, 1, 1, 170, -1, 0, 0]) ws (vs ++ [Value.int x]) := by
    refine ⟨fun n hn => ?_, ?_⟩
    · have hn : n ∈ [2, 8] := hn
      rw [List.length_append, hl]
      simp only [List.mem_cons, List.not_mem_nil, or_false] at hn
      show n < 8 + 1; omega
    · show 1 * w_fi ws (n_v (vs ++ [Value.int x]) 2) 170 + ((-1) * v_iv (n_v (vs ++ [Value.int x]) 8) + 0) ≤ 0
      rw [e_2]
      rw [e_8]
      rw [q2]
      omega
  have nf1 : fc_1 (23, [8, 1, 3], [901, 1, -1, -700]) ws (vs ++ [Value.int x]) := by
    refine ⟨fun n hn => ?_, ?_⟩
    · have hn : n ∈ [8, 1, 3] := hn
      rw [List.length_append, hl]
      simp only [List.mem_cons, List.not_mem_nil, or_false] at hn
      show n < 8 + 1; omega
    · show 1 * v_iv (n_v (vs ++ [Value.int x]) 8) + ((-1) * v_iv (n_v (vs ++ [Value.int x]) 1) + ((-700) * v_iv (n_v (vs ++ [Value.int x]) 3) + 0)) ≤ 901
      rw [e_1]
      rw [e_3]
      rw [e_8]
      omega
  exact ⟨(fun _ h => (by cases h)), [Value.int x], ag_one hx, List.forall_mem_cons.mpr ⟨⟨show (20 : Nat) < 100 from by decide, nf0⟩, List.forall_mem_cons.mpr ⟨⟨show (23 : Nat) < 100 from by decide, nf1⟩, (fun _ h => (by cases h))⟩⟩, (fun _ h => (by cases h))⟩
def o_Mo_writeDrawing_12 : or_T := (88, 10, [(0, (2, 0, 0, [150])), (1, (0, 0, 99965512, [])), (2, (2, 0, 0, [150])), (3, (0, 0, 47, [])), (4, (0, 1, 48, [])), (5, (0, 0, 23, [])), (6, (0, 0, 99999987, [])), (8, (0, 0, 99999999, [])), (9, (0, 0, 23, []))], [(20, [9, 2, 3], [50, 1, 1, 1005, 1002, 1, 2, 1, 0, 3, 1, 2, 4, 7, 4, 3, 2, 1, 5, 0, 315, 1, 2]), (23, [8, 1, 3], [901, 1, -1, -700]), (23, [6, 1, 3], [888, 1, -1, -700]), (20, [5, 2, 3], [50, 1, 1, 1005, 1002, 1, 2, 1, 0, 3, 1, 2, 4, 7, 4, 3, 2, 1, 5, 0, 267, 1, 2]), (20, [4, 2], [30, 0, 1, 0, 0, -1, 3, 2005001]), (20, [4, 2], [30, 0, -1, 0, 0, 1, 3, 2005001]), (24, [0, 2], []), (20, [2, 8], [30, 1, 1, 1, 170, -1, 0, 0]), (102, [8], [237142198758023568227473377297792835283496928595231875152809132048206089502588928, 13170]), (23, [8, 1, 3], [901, 1, -1, -700]), (23, [6, 1, 3], [888, 1, -1, -700]), (102, [6], [237142198758023568227473377297792835283496928595231875152809132048206089502588928, 13170]), (23, [6, 1, 3], [888, 1, -1, -700]), (7, [3, 4], [2])], [], [(0, 0, 99999987, [])], [(20, [2, 10], [30, 0, 1, 1, 170, -1, 0, 0]), (23, [10, 1, 3], [902, 1, -1, -700])], [], [(3, 4, -4294967296, -1)])
theorem oo_Mo_writeDrawing_12 {kA : Nat → ClassId} : or_ok kA GG o_Mo_writeDrawing_12 := by
  intro A ta ws vs hD hth hl hk hds hf
  have hl : vs.length = 10 := hl
  have hk : ∀ q ∈ ([(0, (2, 0, 0, [150])), (1, (0, 0, 99965512, [])), (2, (2, 0, 0, [150])), (3, (0, 0, 47, [])), (4, (0, 1, 48, [])), (5, (0, 0, 23, [])), (6, (0, 0, 99999987, [])), (8, (0, 0, 99999999, [])), (9, (0, 0, 23, []))] : List (Nat × tv_T)), tv_ok ta q.2 (n_v vs q.1) := hk
  obtain ⟨t0, hk⟩ := List.forall_mem_cons.mp hk
  have t0 : tv_ok ta (2, 0, 0, [150]) (n_v vs 0) := t0
  have r0 : ta (v_ad (n_v vs 0)) = some 150 := tv_rg t0
  obtain ⟨t1, hk⟩ := List.forall_mem_cons.mp hk
  have t1 : tv_ok ta (0, 0, 99965512, []) (n_v vs 1) := t1
  have k1 : 0 ≤ v_iv (n_v vs 1) ∧ v_iv (n_v vs 1) ≤ 99965512 := tv_rng t1
  obtain ⟨t2, hk⟩ := List.forall_mem_cons.mp hk
  have t2 : tv_ok ta (2, 0, 0, [150]) (n_v vs 2) := t2
  have r2 : ta (v_ad (n_v vs 2)) = some 150 := tv_rg t2
  obtain ⟨t3, hk⟩ := List.forall_mem_cons.mp hk
  have t3 : tv_ok ta (0, 0, 47, []) (n_v vs 3) := t3
  have k3 : 0 ≤ v_iv (n_v vs 3) ∧ v_iv (n_v vs 3) ≤ 47 := tv_rng t3
  obtain ⟨t4, hk⟩ := List.forall_mem_cons.mp hk
  have t4 : tv_ok ta (0, 1, 48, []) (n_v vs 4) := t4
  have k4 : 1 ≤ v_iv (n_v vs 4) ∧ v_iv (n_v vs 4) ≤ 48 := tv_rng t4
  obtain ⟨t5, hk⟩ := List.forall_mem_cons.mp hk
  have t5 : tv_ok ta (0, 0, 23, []) (n_v vs 5) := t5
  have k5 : 0 ≤ v_iv (n_v vs 5) ∧ v_iv (n_v vs 5) ≤ 23 := tv_rng t5
  obtain ⟨t6, hk⟩ := List.forall_mem_cons.mp hk
  have t6 : tv_ok ta (0, 0, 99999987, []) (n_v vs 6) := t6
  have k6 : 0 ≤ v_iv (n_v vs 6) ∧ v_iv (n_v vs 6) ≤ 99999987 := tv_rng t6
  obtain ⟨t8, hk⟩ := List.forall_mem_cons.mp hk
  have t8 : tv_ok ta (0, 0, 99999999, []) (n_v vs 8) := t8
  have k8 : 0 ≤ v_iv (n_v vs 8) ∧ v_iv (n_v vs 8) ≤ 99999999 := tv_rng t8
  obtain ⟨t9, hk⟩ := List.forall_mem_cons.mp hk
  have t9 : tv_ok ta (0, 0, 23, []) (n_v vs 9) := t9
  have k9 : 0 ≤ v_iv (n_v vs 9) ∧ v_iv (n_v vs 9) ≤ 23 := tv_rng t9
  have hds : ∀ q ∈ ([(3, 4, -4294967296, -1)] : List of_T), n_iv vs q.2.1 + q.2.2.1 ≤ n_iv vs q.1 ∧ n_iv vs q.1 ≤ n_iv vs q.2.1 + q.2.2.2 := hds
  obtain ⟨d0, hds⟩ := List.forall_mem_cons.mp hds
  have d0 : v_iv (n_v vs 4) + (-4294967296) ≤ v_iv (n_v vs 3) ∧ v_iv (n_v vs 3) ≤ v_iv (n_v vs 4) + (-1) := d0
  have hf : fc_ok [(20, [9, 2, 3], [50, 1, 1, 1005, 1002, 1, 2, 1, 0, 3, 1, 2, 4, 7, 4, 3, 2, 1, 5, 0, 315, 1, 2]), (23, [8, 1, 3], [901, 1, -1, -700]), (23, [6, 1, 3], [888, 1, -1, -700]), (20, [5, 2, 3], [50, 1, 1, 1005, 1002, 1, 2, 1, 0, 3, 1, 2, 4, 7, 4, 3, 2, 1, 5, 0, 267, 1, 2]), (20, [4, 2], [30, 0, 1, 0, 0, -1, 3, 2005001]), (20, [4, 2], [30, 0, -1, 0, 0, 1, 3, 2005001]), (24, [0, 2], []), (20, [2, 8], [30, 1, 1, 1, 170, -1, 0, 0]), (102, [8], [237142198758023568227473377297792835283496928595231875152809132048206089502588928, 13170]), (23, [8, 1, 3], [901, 1, -1, -700]), (23, [6, 1, 3], [888, 1, -1, -700]), (102, [6], [237142198758023568227473377297792835283496928595231875152809132048206089502588928, 13170]), (23, [6, 1, 3], [888, 1, -1, -700]), (7, [3, 4], [2])] ta ws vs := hf
  obtain ⟨f0, hf⟩ := fc_un (show (20 : Nat) < 100 from by decide) hf
  have f0 : v_iv (n_v vs 9) = w_ei ws (w_ar ws (n_v vs 2) 2) (((w_fi ws (n_v vs 2) 5 + 315) + v_iv (n_v vs 3))) := f0
  obtain ⟨f1, hf⟩ := fc_un (show (23 : Nat) < 100 from by decide) hf
  have f1 : 1 * v_iv (n_v vs 8) + ((-1) * v_iv (n_v vs 1) + ((-700) * v_iv (n_v vs 3) + 0)) ≤ 901 := f1
  obtain ⟨f2, hf⟩ := fc_un (show (23 : Nat) < 100 from by decide) hf
  have f2 : 1 * v_iv (n_v vs 6) + ((-1) * v_iv (n_v vs 1) + ((-700) * v_iv (n_v vs 3) + 0)) ≤ 888 := f2
  obtain ⟨f3, hf⟩ := fc_un (show (20 : Nat) < 100 from by decide) hf
  have f3 : v_iv (n_v vs 5) = w_ei ws (w_ar ws (n_v vs 2) 2) (((w_fi ws (n_v vs 2) 5 + 267) + v_iv (n_v vs 3))) := f3
  obtain ⟨f4, hf⟩ := fc_un (show (20 : Nat) < 100 from by decide) hf
  have f4 : 1 * v_iv (n_v vs 4) + ((-1) * w_el ws (w_ar ws (n_v vs 2) 2) (w_fi ws (n_v vs 2) 5 + 1).toNat + 0) ≤ 0 := f4
  obtain ⟨f5, hf⟩ := fc_un (show (20 : Nat) < 100 from by decide) hf
  have f5 : (-1) * v_iv (n_v vs 4) + (1 * w_el ws (w_ar ws (n_v vs 2) 2) (w_fi ws (n_v vs 2) 5 + 1).toNat + 0) ≤ 0 := f5
  obtain ⟨f6, hf⟩ := fc_un (show (24 : Nat) < 100 from by decide) hf
  have f6 : n_v vs 0 = n_v vs 2 := f6
  obtain ⟨f7, hf⟩ := fc_un (show (20 : Nat) < 100 from by decide) hf
  have f7 : 1 * w_fi ws (n_v vs 2) 170 + ((-1) * v_iv (n_v vs 8) + 0) ≤ 1 := f7
  obtain ⟨ta1, w1, le1, ⟨_, s1⟩, hf⟩ := fc_us (show ¬ (102 : Nat) < 100 from by decide) hf
  obtain ⟨f9, hf⟩ := fc_un (show (23 : Nat) < 100 from by decide) hf
  have f9 : 1 * v_iv (n_v vs 8) + ((-1) * v_iv (n_v vs 1) + ((-700) * v_iv (n_v vs 3) + 0)) ≤ 901 := f9
  obtain ⟨f10, hf⟩ := fc_un (show (23 : Nat) < 100 from by decide) hf
  have f10 : 1 * v_iv (n_v vs 6) + ((-1) * v_iv (n_v vs 1) + ((-700) * v_iv (n_v vs 3) + 0)) ≤ 888 := f10
  obtain ⟨ta2, w2, le2, ⟨_, s2⟩, hf⟩ := fc_us (show ¬ (102 : Nat) < 100 from by decide) hf
  obtain ⟨f12, hf⟩ := fc_un (show (23 : Nat) < 100 from by decide) hf
  have f12 : 1 * v_iv (n_v vs 6) + ((-1) * v_iv (n_v vs 1) + ((-700) * v_iv (n_v vs 3) + 0)) ≤ 888 := f12
  obtain ⟨f13, hf⟩ := fc_un (show (7 : Nat) < 100 from by decide) hf
  have f13 : v_iv (n_v vs 3) < v_iv (n_v vs 4) := f13
  have q2 : n_v vs 2 = n_v vs 0 := f6.symm
  rw [q2] at f0
  rw [q2] at f3
  rw [q2] at f4
  rw [q2] at f5
  rw [q2] at f7
  have cr_0_2 : ta (w_ar ws (n_v vs 0) 2) = some 152 := tv_rg (th_fd hD hth r0 (g := GG_150) rfl (k := 2) (t := (2, 0, 0, [152])) rfl rfl)
  have br_0_2_F5_1_0 : w_ei ws (w_ar ws (n_v vs 0) 2) (w_fi ws (n_v vs 0) 5 + 1) = w_el ws (w_ar ws (n_v vs 0) 2) (w_fi ws (n_v vs 0) 5 + 1).toNat := rfl
  have kz_0_170 : 0 ≤ w_fi ws (n_v vs 0) 170 ∧ w_fi ws (n_v vs 0) 170 ≤ 100000000 := tv_rng (th_fd hD hth r0 (g := GG_150) rfl (k := 170) (t := (0, 0, 100000000, [])) rfl rfl)
  have kv0 : 0 ≤ w_fi ws (n_v vs 0) 170 ∧ w_fi ws (n_v vs 0) 170 ≤ 100000000 := tv_rng (th_fd hD hth r0 (g := GG_150) rfl (k := 170) (t := (0, 0, 100000000, [])) rfl rfl)
  obtain ⟨x, ex, hx⟩ := iv_ex (ta := ta) (lo := 0) (hi := 99999987) (z := w_fi ws (n_v vs 0) 170) (by omega) (by omega) (by omega) (by omega)
  have ex2 : v_iv (Value.int x) = w_fi ws (n_v vs 0) 170 := ex
  have ex3 : 0 ≤ v_iv (Value.int x) ∧ v_iv (Value.int x) ≤ 99999987 := tv_rng hx
  have e_1 : n_v (vs ++ [Value.int x]) 1 = n_v vs 1 := n_v_old (by rw [hl]; decide)
  have e_2 : n_v (vs ++ [Value.int x]) 2 = n_v vs 2 := n_v_old (by rw [hl]; decide)
  have e_3 : n_v (vs ++ [Value.int x]) 3 = n_v vs 3 := n_v_old (by rw [hl]; decide)
  have e_10 : n_v (vs ++ [Value.int x]) 10 = Value.int x := n_v_new hl
  have nf0 : fc_1 (20, [2, 10], [30, 0, 1, 1, 170, -1, 0, 0]) ws (vs ++ [Value.int x]) := by
    refine ⟨fun n hn => ?_, ?_⟩
    · have hn : n ∈ [2, 10] := hn
      rw [List.length_append, hl]
      simp only [List.mem_cons, List.not_mem_nil, or_false] at hn
      show n < 10 + 1; omega
    · show 1 * w_fi ws (n_v (vs ++ [Value.int x]) 2) 170 + ((-1) * v_iv (n_v (vs ++ [Value.int x]) 10) + 0) ≤ 0
      rw [e_2]
      rw [e_10]
      rw [q2]
      omega
  have nf1 : fc_1 (23, [10, 1, 3], [902, 1, -1, -700]) ws (vs ++ [Value.int x]) := by
    refine ⟨fun n hn => ?_, ?_⟩
    · have hn : n ∈ [10, 1, 3] := hn
      rw [List.length_append, hl]
      simp only [List.mem_cons, List.not_mem_nil, or_false] at hn
      show n < 10 + 1; omega
    · show 1 * v_iv (n_v (vs ++ [Value.int x]) 10) + ((-1) * v_iv (n_v (vs ++ [Value.int x]) 1) + ((-700) * v_iv (n_v (vs ++ [Value.int x]) 3) + 0)) ≤ 902
      rw [e_1]
      rw [e_3]
      rw [e_10]
      omega
  exact ⟨(fun _ h => (by cases h)), [Value.int x], ag_one hx, List.forall_mem_cons.mpr ⟨⟨show (20 : Nat) < 100 from by decide, nf0⟩, List.forall_mem_cons.mpr ⟨⟨show (23 : Nat) < 100 from by decide, nf1⟩, (fun _ h => (by cases h))⟩⟩, (fun _ h => (by cases h))⟩
def o_Mo_writeDrawing_13 : or_T := (93, 12, [(0, (2, 0, 0, [150])), (1, (0, 0, 99965512, [])), (2, (2, 0, 0, [150])), (3, (0, 0, 47, [])), (4, (0, 1, 48, [])), (5, (0, 0, 23, [])), (6, (0, 0, 99999987, [])), (8, (0, 0, 99999999, [])), (9, (0, 0, 23, [])), (10, (0, 0, 99999987, [])), (11, (0, 1, 1, []))], [(23, [10, 1, 3], [902, 1, -1, -700]), (20, [9, 2, 3], [50, 1, 1, 1005, 1002, 1, 2, 1, 0, 3, 1, 2, 4, 7, 4, 3, 2, 1, 5, 0, 315, 1, 2]), (23, [8, 1, 3], [901, 1, -1, -700]), (23, [6, 1, 3], [888, 1, -1, -700]), (20, [5, 2, 3], [50, 1, 1, 1005, 1002, 1, 2, 1, 0, 3, 1, 2, 4, 7, 4, 3, 2, 1, 5, 0, 267, 1, 2]), (20, [4, 2], [30, 0, 1, 0, 0, -1, 3, 2005001]), (20, [4, 2], [30, 0, -1, 0, 0, 1, 3, 2005001]), (24, [0, 2], []), (20, [2, 10], [30, 13, 1, 1, 170, -1, 0, 0]), (102, [10], [237142198758023568227473377297792835283496928595231875152809132048206089502588928, 13170]), (23, [10, 1, 3], [902, 1, -1, -700]), (23, [8, 1, 3], [901, 1, -1, -700]), (23, [6, 1, 3], [888, 1, -1, -700]), (102, [8], [237142198758023568227473377297792835283496928595231875152809132048206089502588928, 13170]), (23, [8, 1, 3], [901, 1, -1, -700]), (23, [6, 1, 3], [888, 1, -1, -700]), (102, [6], [237142198758023568227473377297792835283496928595231875152809132048206089502588928, 13170]), (23, [6, 1, 3], [888, 1, -1, -700]), (7, [3, 4], [2])], [], [], [(20, [2, 1, 3, 11], [30, 887, 1, 1, 170, -1, 0, 0, -700, 0, 0, -28, 0, 0])], [], [(3, 4, -4294967296, -1)])
theorem oo_Mo_writeDrawing_13 {kA : Nat → ClassId} : or_ok kA GG o_Mo_writeDrawing_13 := by
  intro A ta ws vs hD hth hl hk hds hf
  have hl : vs.length = 12 := hl
  have hk : ∀ q ∈ ([(0, (2, 0, 0, [150])), (1, (0, 0, 99965512, [])), (2, (2, 0, 0, [150])), (3, (0, 0, 47, [])), (4, (0, 1, 48, [])), (5, (0, 0, 23, [])), (6, (0, 0, 99999987, [])), (8, (0, 0, 99999999, [])), (9, (0, 0, 23, [])), (10, (0, 0, 99999987, [])), (11, (0, 1, 1, []))] : List (Nat × tv_T)), tv_ok ta q.2 (n_v vs q.1) := hk
  obtain ⟨t0, hk⟩ := List.forall_mem_cons.mp hk
  have t0 : tv_ok ta (2, 0, 0, [150]) (n_v vs 0) := t0
  have r0 : ta (v_ad (n_v vs 0)) = some 150 := tv_rg t0
  obtain ⟨t1, hk⟩ := List.forall_mem_cons.mp hk
  have t1 : tv_ok ta (0, 0, 99965512, []) (n_v vs 1) := t1
  have k1 : 0 ≤ v_iv (n_v vs 1) ∧ v_iv (n_v vs 1) ≤ 99965512 := tv_rng t1
  obtain ⟨t2, hk⟩ := List.forall_mem_cons.mp hk
  have t2 : tv_ok ta (2, 0, 0, [150]) (n_v vs 2) := t2
  have r2 : ta (v_ad (n_v vs 2)) = some 150 := tv_rg t2
  obtain ⟨t3, hk⟩ := List.forall_mem_cons.mp hk
  have t3 : tv_ok ta (0, 0, 47, []) (n_v vs 3) := t3
  have k3 : 0 ≤ v_iv (n_v vs 3) ∧ v_iv (n_v vs 3) ≤ 47 := tv_rng t3
  obtain ⟨t4, hk⟩ := List.forall_mem_cons.mp hk
  have t4 : tv_ok ta (0, 1, 48, []) (n_v vs 4) := t4
  have k4 : 1 ≤ v_iv (n_v vs 4) ∧ v_iv (n_v vs 4) ≤ 48 := tv_rng t4
  obtain ⟨t5, hk⟩ := List.forall_mem_cons.mp hk
  have t5 : tv_ok ta (0, 0, 23, []) (n_v vs 5) := t5
  have k5 : 0 ≤ v_iv (n_v vs 5) ∧ v_iv (n_v vs 5) ≤ 23 := tv_rng t5
  obtain ⟨t6, hk⟩ := List.forall_mem_cons.mp hk
  have t6 : tv_ok ta (0, 0, 99999987, []) (n_v vs 6) := t6
  have k6 : 0 ≤ v_iv (n_v vs 6) ∧ v_iv (n_v vs 6) ≤ 99999987 := tv_rng t6
  obtain ⟨t8, hk⟩ := List.forall_mem_cons.mp hk
  have t8 : tv_ok ta (0, 0, 99999999, []) (n_v vs 8) := t8
  have k8 : 0 ≤ v_iv (n_v vs 8) ∧ v_iv (n_v vs 8) ≤ 99999999 := tv_rng t8
  obtain ⟨t9, hk⟩ := List.forall_mem_cons.mp hk
  have t9 : tv_ok ta (0, 0, 23, []) (n_v vs 9) := t9
  have k9 : 0 ≤ v_iv (n_v vs 9) ∧ v_iv (n_v vs 9) ≤ 23 := tv_rng t9
  obtain ⟨t10, hk⟩ := List.forall_mem_cons.mp hk
  have t10 : tv_ok ta (0, 0, 99999987, []) (n_v vs 10) := t10
  have k10 : 0 ≤ v_iv (n_v vs 10) ∧ v_iv (n_v vs 10) ≤ 99999987 := tv_rng t10
  obtain ⟨t11, hk⟩ := List.forall_mem_cons.mp hk
  have t11 : tv_ok ta (0, 1, 1, []) (n_v vs 11) := t11
  have k11 : 1 ≤ v_iv (n_v vs 11) ∧ v_iv (n_v vs 11) ≤ 1 := tv_rng t11
  have hds : ∀ q ∈ ([(3, 4, -4294967296, -1)] : List of_T), n_iv vs q.2.1 + q.2.2.1 ≤ n_iv vs q.1 ∧ n_iv vs q.1 ≤ n_iv vs q.2.1 + q.2.2.2 := hds
  obtain ⟨d0, hds⟩ := List.forall_mem_cons.mp hds
  have d0 : v_iv (n_v vs 4) + (-4294967296) ≤ v_iv (n_v vs 3) ∧ v_iv (n_v vs 3) ≤ v_iv (n_v vs 4) + (-1) := d0
  have hf : fc_ok [(23, [10, 1, 3], [902, 1, -1, -700]), (20, [9, 2, 3], [50, 1, 1, 1005, 1002, 1, 2, 1, 0, 3, 1, 2, 4, 7, 4, 3, 2, 1, 5, 0, 315, 1, 2]), (23, [8, 1, 3], [901, 1, -1, -700]), (23, [6, 1, 3], [888, 1, -1, -700]), (20, [5, 2, 3], [50, 1, 1, 1005, 1002, 1, 2, 1, 0, 3, 1, 2, 4, 7, 4, 3, 2, 1, 5, 0, 267, 1, 2]), (20, [4, 2], [30, 0, 1, 0, 0, -1, 3, 2005001]), (20, [4, 2], [30, 0, -1, 0, 0, 1, 3, 2005001]), (24, [0, 2], []), (20, [2, 10], [30, 13, 1, 1, 170, -1, 0, 0]), (102, [10], [237142198758023568227473377297792835283496928595231875152809132048206089502588928, 13170]), (23, [10, 1, 3], [902, 1, -1, -700]), (23, [8, 1, 3], [901, 1, -1, -700]), (23, [6, 1, 3], [888, 1, -1, -700]), (102, [8], [237142198758023568227473377297792835283496928595231875152809132048206089502588928, 13170]), (23, [8, 1, 3], [901, 1, -1, -700]), (23, [6, 1, 3], [888, 1, -1, -700]), (102, [6], [237142198758023568227473377297792835283496928595231875152809132048206089502588928, 13170]), (23, [6, 1, 3], [888, 1, -1, -700]), (7, [3, 4], [2])] ta ws vs := hf
  obtain ⟨f0, hf⟩ := fc_un (show (23 : Nat) < 100 from by decide) hf
  have f0 : 1 * v_iv (n_v vs 10) + ((-1) * v_iv (n_v vs 1) + ((-700) * v_iv (n_v vs 3) + 0)) ≤ 902 := f0
  obtain ⟨f1, hf⟩ := fc_un (show (20 : Nat) < 100 from by decide) hf
  have f1 : v_iv (n_v vs 9) = w_ei ws (w_ar ws (n_v vs 2) 2) (((w_fi ws (n_v vs 2) 5 + 315) + v_iv (n_v vs 3))) := f1
  obtain ⟨f2, hf⟩ := fc_un (show (23 : Nat) < 100 from by decide) hf
  have f2 : 1 * v_iv (n_v vs 8) + ((-1) * v_iv (n_v vs 1) + ((-700) * v_iv (n_v vs 3) + 0)) ≤ 901 := f2
  obtain ⟨f3, hf⟩ := fc_un (show (23 : Nat) < 100 from by decide) hf
  have f3 : 1 * v_iv (n_v vs 6) + ((-1) * v_iv (n_v vs 1) + ((-700) * v_iv (n_v vs 3) + 0)) ≤ 888 := f3
  obtain ⟨f4, hf⟩ := fc_un (show (20 : Nat) < 100 from by decide) hf
  have f4 : v_iv (n_v vs 5) = w_ei ws (w_ar ws (n_v vs 2) 2) (((w_fi ws (n_v vs 2) 5 + 267) + v_iv (n_v vs 3))) := f4
  obtain ⟨f5, hf⟩ := fc_un (show (20 : Nat) < 100 from by decide) hf
  have f5 : 1 * v_iv (n_v vs 4) + ((-1) * w_el ws (w_ar ws (n_v vs 2) 2) (w_fi ws (n_v vs 2) 5 + 1).toNat + 0) ≤ 0 := f5
  obtain ⟨f6, hf⟩ := fc_un (show (20 : Nat) < 100 from by decide) hf
  have f6 : (-1) * v_iv (n_v vs 4) + (1 * w_el ws (w_ar ws (n_v vs 2) 2) (w_fi ws (n_v vs 2) 5 + 1).toNat + 0) ≤ 0 := f6
  obtain ⟨f7, hf⟩ := fc_un (show (24 : Nat) < 100 from by decide) hf
  have f7 : n_v vs 0 = n_v vs 2 := f7
  obtain ⟨f8, hf⟩ := fc_un (show (20 : Nat) < 100 from by decide) hf
  have f8 : 1 * w_fi ws (n_v vs 2) 170 + ((-1) * v_iv (n_v vs 10) + 0) ≤ 13 := f8
  obtain ⟨ta1, w1, le1, ⟨_, s1⟩, hf⟩ := fc_us (show ¬ (102 : Nat) < 100 from by decide) hf
  obtain ⟨f10, hf⟩ := fc_un (show (23 : Nat) < 100 from by decide) hf
  have f10 : 1 * v_iv (n_v vs 10) + ((-1) * v_iv (n_v vs 1) + ((-700) * v_iv (n_v vs 3) + 0)) ≤ 902 := f10
  obtain ⟨f11, hf⟩ := fc_un (show (23 : Nat) < 100 from by decide) hf
  have f11 : 1 * v_iv (n_v vs 8) + ((-1) * v_iv (n_v vs 1) + ((-700) * v_iv (n_v vs 3) + 0)) ≤ 901 := f11
  obtain ⟨f12, hf⟩ := fc_un (show (23 : Nat) < 100 from by decide) hf
  have f12 : 1 * v_iv (n_v vs 6) + ((-1) * v_iv (n_v vs 1) + ((-700) * v_iv (n_v vs 3) + 0)) ≤ 888 := f12
  obtain ⟨ta2, w2, le2, ⟨_, s2⟩, hf⟩ := fc_us (show ¬ (102 : Nat) < 100 from by decide) hf
  obtain ⟨f14, hf⟩ := fc_un (show (23 : Nat) < 100 from by decide) hf
  have f14 : 1 * v_iv (n_v vs 8) + ((-1) * v_iv (n_v vs 1) + ((-700) * v_iv (n_v vs 3) + 0)) ≤ 901 := f14
  obtain ⟨f15, hf⟩ := fc_un (show (23 : Nat) < 100 from by decide) hf
  have f15 : 1 * v_iv (n_v vs 6) + ((-1) * v_iv (n_v vs 1) + ((-700) * v_iv (n_v vs 3) + 0)) ≤ 888 := f15
  obtain ⟨ta3, w3, le3, ⟨_, s3⟩, hf⟩ := fc_us (show ¬ (102 : Nat) < 100 from by decide) hf
  obtain ⟨f17, hf⟩ := fc_un (show (23 : Nat) < 100 from by decide) hf
  have f17 : 1 * v_iv (n_v vs 6) + ((-1) * v_iv (n_v vs 1) + ((-700) * v_iv (n_v vs 3) + 0)) ≤ 888 := f17
  obtain ⟨f18, hf⟩ := fc_un (show (7 : Nat) < 100 from by decide) hf
  have f18 : v_iv (n_v vs 3) < v_iv (n_v vs 4) := f18
  have q2 : n_v vs 2 = n_v vs 0 := f7.symm
  rw [q2] at f1
  rw [q2] at f4
  rw [q2] at f5
  rw [q2] at f6
  rw [q2] at f8
  have cr_0_2 : ta (w_ar ws (n_v vs 0) 2) = some 152 := tv_rg (th_fd hD hth r0 (g := GG_150) rfl (k := 2) (t := (2, 0, 0, [152])) rfl rfl)
  have br_0_2_F5_1_0 : w_ei ws (w_ar ws (n_v vs 0) 2) (w_fi ws (n_v vs 0) 5 + 1) = w_el ws (w_ar ws (n_v vs 0) 2) (w_fi ws (n_v vs 0) 5 + 1).toNat := rfl
  have kz_0_170 : 0 ≤ w_fi ws (n_v vs 0) 170 ∧ w_fi ws (n_v vs 0) 170 ≤ 100000000 := tv_rng (th_fd hD hth r0 (g := GG_150) rfl (k := 170) (t := (0, 0, 100000000, [])) rfl rfl)
  have nf0 : fc_1 (20, [2, 1, 3, 11], [30, 887, 1, 1, 170, -1, 0, 0, -700, 0, 0, -28, 0, 0]) ws (vs) := by
    refine ⟨fun n hn => ?_, ?_⟩
    · have hn : n ∈ [2, 1, 3, 11] := hn
      rw [hl]
      simp only [List.mem_cons, List.not_mem_nil, or_false] at hn
      show n < 12; omega
    · show 1 * w_fi ws (n_v vs 2) 170 + ((-1) * v_iv (n_v vs 1) + ((-700) * v_iv (n_v vs 3) + ((-28) * v_iv (n_v vs 11) + 0))) ≤ 887
      rw [q2]
      omega
  refine ⟨(fun _ h => (by cases h)), [], trivial, ?_, (fun _ h => (by cases h))⟩
  rw [List.append_nil]
  exact List.forall_mem_cons.mpr ⟨⟨show (20 : Nat) < 100 from by decide, nf0⟩, (fun _ h => (by cases h))⟩
def o_Mo_writeDrawing_14 : or_T := (145, 9, [(0, (2, 0, 0, [150])), (1, (0, 0, 99965512, [])), (2, (2, 0, 0, [150])), (3, (0, 0, 47, [])), (4, (0, 1, 25, [])), (5, (0, 1, 1, [])), (6, (0, 2, 26, [])), (7, (0, 2, 26, []))], [(7, [6, 7], [3]), (20, [7, 2, 3], [50, 1, 1, 1139, 1064, 1, 2, 1, 0, 4, 14, 3, 1, 64, 4, 7, 6, 2, 0, 48, 2, 1, 139, 1, 2, 0, 2]), (1, [6, 4, 5], []), (20, [2, 1, 3, 4], [30, 887, 1, 1, 170, -1, 0, 0, -700, 0, 0, -28, 0, 0]), (24, [0, 2], [])], [], [(0, 0, 99999999, [])], [(20, [2, 9], [30, 0, 1, 1, 170, -1, 0, 0]), (23, [9, 1, 3], [1587, 1, -1, -700])], [], [(6, 7, 0, 4294967296), (6, 4, 1, 1)])
theorem oo_Mo_writeDrawing_14 {kA : Nat → ClassId} : or_ok kA GG o_Mo_writeDrawing_14 := by
  intro A ta ws vs hD hth hl hk hds hf
  have hl : vs.length = 9 := hl
  have hk : ∀ q ∈ ([(0, (2, 0, 0, [150])), (1, (0, 0, 99965512, [])), (2, (2, 0, 0, [150])), (3, (0, 0, 47, [])), (4, (0, 1, 25, [])), (5, (0, 1, 1, [])), (6, (0, 2, 26, [])), (7, (0, 2, 26, []))] : List (Nat × tv_T)), tv_ok ta q.2 (n_v vs q.1) := hk
  obtain ⟨t0, hk⟩ := List.forall_mem_cons.mp hk
  have t0 : tv_ok ta (2, 0, 0, [150]) (n_v vs 0) := t0
  have r0 : ta (v_ad (n_v vs 0)) = some 150 := tv_rg t0
  obtain ⟨t1, hk⟩ := List.forall_mem_cons.mp hk
  have t1 : tv_ok ta (0, 0, 99965512, []) (n_v vs 1) := t1
  have k1 : 0 ≤ v_iv (n_v vs 1) ∧ v_iv (n_v vs 1) ≤ 99965512 := tv_rng t1
  obtain ⟨t2, hk⟩ := List.forall_mem_cons.mp hk
  have t2 : tv_ok ta (2, 0, 0, [150]) (n_v vs 2) := t2
  have r2 : ta (v_ad (n_v vs 2)) = some 150 := tv_rg t2
  obtain ⟨t3, hk⟩ := List.forall_mem_cons.mp hk
  have t3 : tv_ok ta (0, 0, 47, []) (n_v vs 3) := t3
  have k3 : 0 ≤ v_iv (n_v vs 3) ∧ v_iv (n_v vs 3) ≤ 47 := tv_rng t3
  obtain ⟨t4, hk⟩ := List.forall_mem_cons.mp hk
  have t4 : tv_ok ta (0, 1, 25, []) (n_v vs 4) := t4
  have k4 : 1 ≤ v_iv (n_v vs 4) ∧ v_iv (n_v vs 4) ≤ 25 := tv_rng t4
  obtain ⟨t5, hk⟩ := List.forall_mem_cons.mp hk
  have t5 : tv_ok ta (0, 1, 1, []) (n_v vs 5) := t5
  have k5 : 1 ≤ v_iv (n_v vs 5) ∧ v_iv (n_v vs 5) ≤ 1 := tv_rng t5
  obtain ⟨t6, hk⟩ := List.forall_mem_cons.mp hk
  have t6 : tv_ok ta (0, 2, 26, []) (n_v vs 6) := t6
  have k6 : 2 ≤ v_iv (n_v vs 6) ∧ v_iv (n_v vs 6) ≤ 26 := tv_rng t6
  obtain ⟨t7, hk⟩ := List.forall_mem_cons.mp hk
  have t7 : tv_ok ta (0, 2, 26, []) (n_v vs 7) := t7
  have k7 : 2 ≤ v_iv (n_v vs 7) ∧ v_iv (n_v vs 7) ≤ 26 := tv_rng t7
  have hds : ∀ q ∈ ([(6, 7, 0, 4294967296), (6, 4, 1, 1)] : List of_T), n_iv vs q.2.1 + q.2.2.1 ≤ n_iv vs q.1 ∧ n_iv vs q.1 ≤ n_iv vs q.2.1 + q.2.2.2 := hds
  obtain ⟨d0, hds⟩ := List.forall_mem_cons.mp hds
  have d0 : v_iv (n_v vs 7) + 0 ≤ v_iv (n_v vs 6) ∧ v_iv (n_v vs 6) ≤ v_iv (n_v vs 7) + 4294967296 := d0
  obtain ⟨d1, hds⟩ := List.forall_mem_cons.mp hds
  have d1 : v_iv (n_v vs 4) + 1 ≤ v_iv (n_v vs 6) ∧ v_iv (n_v vs 6) ≤ v_iv (n_v vs 4) + 1 := d1
  have hf : fc_ok [(7, [6, 7], [3]), (20, [7, 2, 3], [50, 1, 1, 1139, 1064, 1, 2, 1, 0, 4, 14, 3, 1, 64, 4, 7, 6, 2, 0, 48, 2, 1, 139, 1, 2, 0, 2]), (1, [6, 4, 5], []), (20, [2, 1, 3, 4], [30, 887, 1, 1, 170, -1, 0, 0, -700, 0, 0, -28, 0, 0]), (24, [0, 2], [])] ta ws vs := hf
  obtain ⟨f0, hf⟩ := fc_un (show (7 : Nat) < 100 from by decide) hf
  have f0 : v_iv (n_v vs 7) ≤ v_iv (n_v vs 6) := f0
  obtain ⟨f1, hf⟩ := fc_un (show (20 : Nat) < 100 from by decide) hf
  have f1 : v_iv (n_v vs 7) = (w_ei ws (w_ar ws (n_v vs 2) 64) (((48 * w_fi ws (n_v vs 2) 139) + v_iv (n_v vs 3))) + 2) := f1
  obtain ⟨f2, hf⟩ := fc_un (show (1 : Nat) < 100 from by decide) hf
  have f2 : v_iv (n_v vs 6) = v_iv (n_v vs 4) + v_iv (n_v vs 5) := f2
  obtain ⟨f3, hf⟩ := fc_un (show (20 : Nat) < 100 from by decide) hf
  have f3 : 1 * w_fi ws (n_v vs 2) 170 + ((-1) * v_iv (n_v vs 1) + ((-700) * v_iv (n_v vs 3) + ((-28) * v_iv (n_v vs 4) + 0))) ≤ 887 := f3
  obtain ⟨f4, hf⟩ := fc_un (show (24 : Nat) < 100 from by decide) hf
  have f4 : n_v vs 0 = n_v vs 2 := f4
  have q2 : n_v vs 2 = n_v vs 0 := f4.symm
  rw [q2] at f1
  rw [q2] at f3
  have cr_0_64 : ta (w_ar ws (n_v vs 0) 64) = some 189 := tv_rg (th_fd hD hth r0 (g := GG_150) rfl (k := 64) (t := (2, 0, 0, [189])) rfl rfl)
  have hK_0_64 : ∀ j : Int, 0 ≤ j → j < 192 → 0 ≤ w_ei ws (w_ar ws (n_v vs 0) 64) j ∧ w_ei ws (w_ar ws (n_v vs 0) 64) j ≤ 24 := fun j h0 h1 => th_el hD hth cr_0_64 (kd := 0) (n := 192) (m := 192) (lo := 0) (hi := 24) (rs := []) (L := []) rfl (by decide) (j := j.toNat) (by omega)
  have kz_0_139 : 0 ≤ w_fi ws (n_v vs 0) 139 ∧ w_fi ws (n_v vs 0) 139 ≤ 3 := tv_rng (th_fd hD hth r0 (g := GG_150) rfl (k := 139) (t := (0, 0, 3, [])) rfl rfl)
  have kz_0_170 : 0 ≤ w_fi ws (n_v vs 0) 170 ∧ w_fi ws (n_v vs 0) 170 ≤ 100000000 := tv_rng (th_fd hD hth r0 (g := GG_150) rfl (k := 170) (t := (0, 0, 100000000, [])) rfl rfl)
  have kv0 : 0 ≤ w_fi ws (n_v vs 0) 170 ∧ w_fi ws (n_v vs 0) 170 ≤ 100000000 := tv_rng (th_fd hD hth r0 (g := GG_150) rfl (k := 170) (t := (0, 0, 100000000, [])) rfl rfl)
  obtain ⟨x, ex, hx⟩ := iv_ex (ta := ta) (lo := 0) (hi := 99999999) (z := w_fi ws (n_v vs 0) 170) (by omega) (by omega) (by omega) (by omega)
  have ex2 : v_iv (Value.int x) = w_fi ws (n_v vs 0) 170 := ex
  have ex3 : 0 ≤ v_iv (Value.int x) ∧ v_iv (Value.int x) ≤ 99999999 := tv_rng hx
  have e_1 : n_v (vs ++ [Value.int x]) 1 = n_v vs 1 := n_v_old (by rw [hl]; decide)
  have e_2 : n_v (vs ++ [Value.int x]) 2 = n_v vs 2 := n_v_old (by rw [hl]; decide)
  have e_3 : n_v (vs ++ [Value.int x]) 3 = n_v vs 3 := n_v_old (by rw [hl]; decide)
  have e_9 : n_v (vs ++ [Value.int x]) 9 = Value.int x := n_v_new hl
  have nf0 : fc_1 (20, [2, 9], [30, 0, 1, 1, 170, -1, 0, 0]) ws (vs ++ [Value.int x]) := by
    refine ⟨fun n hn => ?_, ?_⟩
    · have hn : n ∈ [2, 9] := hn
      rw [List.length_append, hl]
      simp only [List.mem_cons, List.not_mem_nil, or_false] at hn
      show n < 9 + 1; omega
    · show 1 * w_fi ws (n_v (vs ++ [Value.int x]) 2) 170 + ((-1) * v_iv (n_v (vs ++ [Value.int x]) 9) + 0) ≤ 0
      rw [e_2]
      rw [e_9]
      rw [q2]
      omega
  have nf1 : fc_1 (23, [9, 1, 3], [1587, 1, -1, -700]) ws (vs ++ [Value.int x]) := by
    refine ⟨fun n hn => ?_, ?_⟩
    · have hn : n ∈ [9, 1, 3] := hn
      rw [List.length_append, hl]
      simp only [List.mem_cons, List.not_mem_nil, or_false] at hn
      show n < 9 + 1; omega
    · show 1 * v_iv (n_v (vs ++ [Value.int x]) 9) + ((-1) * v_iv (n_v (vs ++ [Value.int x]) 1) + ((-700) * v_iv (n_v (vs ++ [Value.int x]) 3) + 0)) ≤ 1587
      rw [e_1]
      rw [e_3]
      rw [e_9]
      omega
  exact ⟨(fun _ h => (by cases h)), [Value.int x], ag_one hx, List.forall_mem_cons.mpr ⟨⟨show (20 : Nat) < 100 from by decide, nf0⟩, List.forall_mem_cons.mpr ⟨⟨show (23 : Nat) < 100 from by decide, nf1⟩, (fun _ h => (by cases h))⟩⟩, (fun _ h => (by cases h))⟩
def o_Mo_writeDrawing_15 : or_T := (59, 11, [(0, (2, 0, 0, [150])), (1, (0, 0, 99965512, [])), (2, (2, 0, 0, [150])), (3, (0, 0, 47, [])), (4, (0, 1, 25, [])), (5, (0, 1, 1, [])), (6, (0, 2, 26, [])), (7, (0, 2, 26, [])), (9, (0, 0, 99999999, [])), (10, (0, 1, 48, []))], [(6, [10, 3], [1]), (23, [9, 1, 3], [1587, 1, -1, -700]), (20, [7, 2, 3], [50, 1, 1, 1139, 1064, 1, 2, 1, 0, 4, 14, 3, 1, 64, 4, 7, 6, 2, 0, 48, 2, 1, 139, 1, 2, 0, 2]), (24, [0, 2], []), (20, [2, 9], [30, 1, 1, 1, 170, -1, 0, 0]), (102, [9], [237142198758023568227473377297792835283496928595231875152809132048206089502588928, 13170]), (23, [9, 1, 3], [1587, 1, -1, -700]), (7, [6, 7], [3]), (1, [6, 4, 5], [])], [], [], [(20, [2, 1, 10], [30, 888, 1, 1, 170, -1, 0, 0, -700, 0, 0])], [], [(10, 3, 1, 1), (6, 7, 0, 4294967296), (6, 4, 1, 1)])
theorem oo_Mo_writeDrawing_15 {kA : Nat → ClassId} : or_ok kA GG o_Mo_writeDrawing_15 := by
  intro A ta ws vs hD hth hl hk hds hf
  have hl : vs.length = 11 := hl
  have hk : ∀ q ∈ ([(0, (2, 0, 0, [150])), (1, (0, 0, 99965512, [])), (2, (2, 0, 0, [150])), (3, (0, 0, 47, [])), (4, (0, 1, 25, [])), (5, (0, 1, 1, [])), (6, (0, 2, 26, [])), (7, (0, 2, 26, [])), (9, (0, 0, 99999999, [])), (10, (0, 1, 48, []))] : List (Nat × tv_T)), tv_ok ta q.2 (n_v vs q.1) := hk
  obtain ⟨t0, hk⟩ := List.forall_mem_cons.mp hk
  have t0 : tv_ok ta (2, 0, 0, [150]) (n_v vs 0) := t0
  have r0 : ta (v_ad (n_v vs 0)) = some 150 := tv_rg t0
  obtain ⟨t1, hk⟩ := List.forall_mem_cons.mp hk
  have t1 : tv_ok ta (0, 0, 99965512, []) (n_v vs 1) := t1
  have k1 : 0 ≤ v_iv (n_v vs 1) ∧ v_iv (n_v vs 1) ≤ 99965512 := tv_rng t1
  obtain ⟨t2, hk⟩ := List.forall_mem_cons.mp hk
  have t2 : tv_ok ta (2, 0, 0, [150]) (n_v vs 2) := t2
  have r2 : ta (v_ad (n_v vs 2)) = some 150 := tv_rg t2
  obtain ⟨t3, hk⟩ := List.forall_mem_cons.mp hk
  have t3 : tv_ok ta (0, 0, 47, []) (n_v vs 3) := t3
  have k3 : 0 ≤ v_iv (n_v vs 3) ∧ v_iv (n_v vs 3) ≤ 47 := tv_rng t3
  obtain ⟨t4, hk⟩ := List.forall_mem_cons.mp hk
  have t4 : tv_ok ta (0, 1, 25, []) (n_v vs 4) := t4
  have k4 : 1 ≤ v_iv (n_v vs 4) ∧ v_iv (n_v vs 4) ≤ 25 := tv_rng t4
  obtain ⟨t5, hk⟩ := List.forall_mem_cons.mp hk
  have t5 : tv_ok ta (0, 1, 1, []) (n_v vs 5) := t5
  have k5 : 1 ≤ v_iv (n_v vs 5) ∧ v_iv (n_v vs 5) ≤ 1 := tv_rng t5
  obtain ⟨t6, hk⟩ := List.forall_mem_cons.mp hk
  have t6 : tv_ok ta (0, 2, 26, []) (n_v vs 6) := t6
  have k6 : 2 ≤ v_iv (n_v vs 6) ∧ v_iv (n_v vs 6) ≤ 26 := tv_rng t6
  obtain ⟨t7, hk⟩ := List.forall_mem_cons.mp hk
  have t7 : tv_ok ta (0, 2, 26, []) (n_v vs 7) := t7
  have k7 : 2 ≤ v_iv (n_v vs 7) ∧ v_iv (n_v vs 7) ≤ 26 := tv_rng t7
  obtain ⟨t9, hk⟩ := List.forall_mem_cons.mp hk
  have t9 : tv_ok ta (0, 0, 99999999, []) (n_v vs 9) := t9
  have k9 : 0 ≤ v_iv (n_v vs 9) ∧ v_iv (n_v vs 9) ≤ 99999999 := tv_rng t9
  obtain ⟨t10, hk⟩ := List.forall_mem_cons.mp hk
  have t10 : tv_ok ta (0, 1, 48, []) (n_v vs 10) := t10
  have k10 : 1 ≤ v_iv (n_v vs 10) ∧ v_iv (n_v vs 10) ≤ 48 := tv_rng t10
  have hds : ∀ q ∈ ([(10, 3, 1, 1), (6, 7, 0, 4294967296), (6, 4, 1, 1)] : List of_T), n_iv vs q.2.1 + q.2.2.1 ≤ n_iv vs q.1 ∧ n_iv vs q.1 ≤ n_iv vs q.2.1 + q.2.2.2 := hds
  obtain ⟨d0, hds⟩ := List.forall_mem_cons.mp hds
  have d0 : v_iv (n_v vs 3) + 1 ≤ v_iv (n_v vs 10) ∧ v_iv (n_v vs 10) ≤ v_iv (n_v vs 3) + 1 := d0
  obtain ⟨d1, hds⟩ := List.forall_mem_cons.mp hds
  have d1 : v_iv (n_v vs 7) + 0 ≤ v_iv (n_v vs 6) ∧ v_iv (n_v vs 6) ≤ v_iv (n_v vs 7) + 4294967296 := d1
  obtain ⟨d2, hds⟩ := List.forall_mem_cons.mp hds
  have d2 : v_iv (n_v vs 4) + 1 ≤ v_iv (n_v vs 6) ∧ v_iv (n_v vs 6) ≤ v_iv (n_v vs 4) + 1 := d2
  have hf : fc_ok [(6, [10, 3], [1]), (23, [9, 1, 3], [1587, 1, -1, -700]), (20, [7, 2, 3], [50, 1, 1, 1139, 1064, 1, 2, 1, 0, 4, 14, 3, 1, 64, 4, 7, 6, 2, 0, 48, 2, 1, 139, 1, 2, 0, 2]), (24, [0, 2], []), (20, [2, 9], [30, 1, 1, 1, 170, -1, 0, 0]), (102, [9], [237142198758023568227473377297792835283496928595231875152809132048206089502588928, 13170]), (23, [9, 1, 3], [1587, 1, -1, -700]), (7, [6, 7], [3]), (1, [6, 4, 5], [])] ta ws vs := hf
  obtain ⟨f0, hf⟩ := fc_un (show (6 : Nat) < 100 from by decide) hf
  have f0 : v_iv (n_v vs 10) = v_iv (n_v vs 3) + 1 := f0
  obtain ⟨f1, hf⟩ := fc_un (show (23 : Nat) < 100 from by decide) hf
  have f1 : 1 * v_iv (n_v vs 9) + ((-1) * v_iv (n_v vs 1) + ((-700) * v_iv (n_v vs 3) + 0)) ≤ 1587 := f1
  obtain ⟨f2, hf⟩ := fc_un (show (20 : Nat) < 100 from by decide) hf
  have f2 : v_iv (n_v vs 7) = (w_ei ws (w_ar ws (n_v vs 2) 64) (((48 * w_fi ws (n_v vs 2) 139) + v_iv (n_v vs 3))) + 2) := f2
  obtain ⟨f3, hf⟩ := fc_un (show (24 : Nat) < 100 from by decide) hf
  have f3 : n_v vs 0 = n_v vs 2 := f3
  obtain ⟨f4, hf⟩ := fc_un (show (20 : Nat) < 100 from by decide) hf
  have f4 : 1 * w_fi ws (n_v vs 2) 170 + ((-1) * v_iv (n_v vs 9) + 0) ≤ 1 := f4
  obtain ⟨ta1, w1, le1, ⟨_, s1⟩, hf⟩ := fc_us (show ¬ (102 : Nat) < 100 from by decide) hf
  obtain ⟨f6, hf⟩ := fc_un (show (23 : Nat) < 100 from by decide) hf
  have f6 : 1 * v_iv (n_v vs 9) + ((-1) * v_iv (n_v vs 1) + ((-700) * v_iv (n_v vs 3) + 0)) ≤ 1587 := f6
  obtain ⟨f7, hf⟩ := fc_un (show (7 : Nat) < 100 from by decide) hf
  have f7 : v_iv (n_v vs 7) ≤ v_iv (n_v vs 6) := f7
  obtain ⟨f8, hf⟩ := fc_un (show (1 : Nat) < 100 from by decide) hf
  have f8 : v_iv (n_v vs 6) = v_iv (n_v vs 4) + v_iv (n_v vs 5) := f8
  have q2 : n_v vs 2 = n_v vs 0 := f3.symm
  rw [q2] at f2
  rw [q2] at f4
  have cr_0_64 : ta (w_ar ws (n_v vs 0) 64) = some 189 := tv_rg (th_fd hD hth r0 (g := GG_150) rfl (k := 64) (t := (2, 0, 0, [189])) rfl rfl)
  have hK_0_64 : ∀ j : Int, 0 ≤ j → j < 192 → 0 ≤ w_ei ws (w_ar ws (n_v vs 0) 64) j ∧ w_ei ws (w_ar ws (n_v vs 0) 64) j ≤ 24 := fun j h0 h1 => th_el hD hth cr_0_64 (kd := 0) (n := 192) (m := 192) (lo := 0) (hi := 24) (rs := []) (L := []) rfl (by decide) (j := j.toNat) (by omega)
  have kz_0_139 : 0 ≤ w_fi ws (n_v vs 0) 139 ∧ w_fi ws (n_v vs 0) 139 ≤ 3 := tv_rng (th_fd hD hth r0 (g := GG_150) rfl (k := 139) (t := (0, 0, 3, [])) rfl rfl)
  have kz_0_170 : 0 ≤ w_fi ws (n_v vs 0) 170 ∧ w_fi ws (n_v vs 0) 170 ≤ 100000000 := tv_rng (th_fd hD hth r0 (g := GG_150) rfl (k := 170) (t := (0, 0, 100000000, [])) rfl rfl)
  have nf0 : fc_1 (20, [2, 1, 10], [30, 888, 1, 1, 170, -1, 0, 0, -700, 0, 0]) ws (vs) := by
    refine ⟨fun n hn => ?_, ?_⟩
    · have hn : n ∈ [2, 1, 10] := hn
      rw [hl]
      simp only [List.mem_cons, List.not_mem_nil, or_false] at hn
      show n < 11; omega
    · show 1 * w_fi ws (n_v vs 2) 170 + ((-1) * v_iv (n_v vs 1) + ((-700) * v_iv (n_v vs 10) + 0)) ≤ 888
      rw [q2]
      omega
  refine ⟨(fun _ h => (by cases h)), [], trivial, ?_, (fun _ h => (by cases h))⟩
  rw [List.append_nil]
  exact List.forall_mem_cons.mpr ⟨⟨show (20 : Nat) < 100 from by decide, nf0⟩, (fun _ h => (by cases h))⟩
def o_Mo_writeDrawing_16 : or_T := (107, 9, [(0, (2, 0, 0, [150])), (1, (0, 0, 99965512, [])), (2, (2, 0, 0, [150])), (3, (0, 0, 47, [])), (4, (0, 1, 24, [])), (5, (0, 1, 1, [])), (6, (0, 2, 25, [])), (7, (0, 3, 26, []))], [(7, [6, 7], [2]), (20, [7, 2, 3], [50, 1, 1, 1139, 1064, 1, 2, 1, 0, 4, 14, 3, 1, 64, 4, 7, 6, 2, 0, 48, 2, 1, 139, 1, 2, 0, 2]), (1, [6, 4, 5], []), (20, [2, 1, 3, 4], [30, 887, 1, 1, 170, -1, 0, 0, -700, 0, 0, -28, 0, 0]), (24, [0, 2], [])], [], [(0, 0, 99999999, [])], [(20, [2, 9], [30, 0, 1, 1, 170, -1, 0, 0]), (23, [9, 1, 3, 4], [887, 1, -1, -700, -28])], [], [(6, 7, -4294967296, -1), (6, 4, 1, 1)])
theorem oo_Mo_writeDrawing_16 {kA : Nat → ClassId} : or_ok kA GG o_Mo_writeDrawing_16 := by
  intro A ta ws vs hD hth hl hk hds hf
  have hl : vs.length = 9 := hl
  have hk : ∀ q ∈ ([(0, (2, 0, 0, [150])), (1, (0, 0, 99965512, [])), (2, (2, 0, 0, [150])), (3, (0, 0, 47, [])), (4, (0, 1, 24, [])), (5, (0, 1, 1, [])), (6, (0, 2, 25, [])), (7, (0, 3, 26, []))] : List (Nat × tv_T)), tv_ok ta q.2 (n_v vs q.1) := hk
  obtain ⟨t0, hk⟩ := List.forall_mem_cons.mp hk
  have t0 : tv_ok ta (2, 0, 0, [150]) (n_v vs 0) := t0
  have r0 : ta (v_ad (n_v vs 0)) = some 150 := tv_rg t0
  obtain ⟨t1, hk⟩ := List.forall_mem_cons.mp hk
  have t1 : tv_ok ta (0, 0, 99965512, []) (n_v vs 1) := t1
  have k1 : 0 ≤ v_iv (n_v vs 1) ∧ v_iv (n_v vs 1) ≤ 99965512 := tv_rng t1
  obtain ⟨t2, hk⟩ := List.forall_mem_cons.mp hk
  have t2 : tv_ok ta (2, 0, 0, [150]) (n_v vs 2) := t2
  have r2 : ta (v_ad (n_v vs 2)) = some 150 := tv_rg t2
  obtain ⟨t3, hk⟩ := List.forall_mem_cons.mp hk
  have t3 : tv_ok ta (0, 0, 47, []) (n_v vs 3) := t3
  have k3 : 0 ≤ v_iv (n_v vs 3) ∧ v_iv (n_v vs 3) ≤ 47 := tv_rng t3
  obtain ⟨t4, hk⟩ := List.forall_mem_cons.mp hk
  have t4 : tv_ok ta (0, 1, 24, []) (n_v vs 4) := t4
  have k4 : 1 ≤ v_iv (n_v vs 4) ∧ v_iv (n_v vs 4) ≤ 24 := tv_rng t4
  obtain ⟨t5, hk⟩ := List.forall_mem_cons.mp hk
  have t5 : tv_ok ta (0, 1, 1, []) (n_v vs 5) := t5
  have k5 : 1 ≤ v_iv (n_v vs 5) ∧ v_iv (n_v vs 5) ≤ 1 := tv_rng t5
  obtain ⟨t6, hk⟩ := List.forall_mem_cons.mp hk
  have t6 : tv_ok ta (0, 2, 25, []) (n_v vs 6) := t6
  have k6 : 2 ≤ v_iv (n_v vs 6) ∧ v_iv (n_v vs 6) ≤ 25 := tv_rng t6
  obtain ⟨t7, hk⟩ := List.forall_mem_cons.mp hk
  have t7 : tv_ok ta (0, 3, 26, []) (n_v vs 7) := t7
  have k7 : 3 ≤ v_iv (n_v vs 7) ∧ v_iv (n_v vs 7) ≤ 26 := tv_rng t7
  have hds : ∀ q ∈ ([(6, 7, -4294967296, -1), (6, 4, 1, 1)] : List of_T), n_iv vs q.2.1 + q.2.2.1 ≤ n_iv vs q.1 ∧ n_iv vs q.1 ≤ n_iv vs q.2.1 + q.2.2.2 := hds
  obtain ⟨d0, hds⟩ := List.forall_mem_cons.mp hds
  have d0 : v_iv (n_v vs 7) + (-4294967296) ≤ v_iv (n_v vs 6) ∧ v_iv (n_v vs 6) ≤ v_iv (n_v vs 7) + (-1) := d0
  obtain ⟨d1, hds⟩ := List.forall_mem_cons.mp hds
  have d1 : v_iv (n_v vs 4) + 1 ≤ v_iv (n_v vs 6) ∧ v_iv (n_v vs 6) ≤ v_iv (n_v vs 4) + 1 := d1
  have hf : fc_ok [(7, [6, 7], [2]), (20, [7, 2, 3], [50, 1, 1, 1139, 1064, 1, 2, 1, 0, 4, 14, 3, 1, 64, 4, 7, 6, 2, 0, 48, 2, 1, 139, 1, 2, 0, 2]), (1, [6, 4, 5], []), (20, [2, 1, 3, 4], [30, 887, 1, 1, 170, -1, 0, 0, -700, 0, 0, -28, 0, 0]), (24, [0, 2], [])] ta ws vs := hf
  obtain ⟨f0, hf⟩ := fc_un (show (7 : Nat) < 100 from by decide) hf
  have f0 : v_iv (n_v vs 6) < v_iv (n_v vs 7) := f0
  obtain ⟨f1, hf⟩ := fc_un (show (20 : Nat) < 100 from by decide) hf
  have f1 : v_iv (n_v vs 7) = (w_ei ws (w_ar ws (n_v vs 2) 64) (((48 * w_fi ws (n_v vs 2) 139) + v_iv (n_v vs 3))) + 2) := f1
  obtain ⟨f2, hf⟩ := fc_un (show (1 : Nat) < 100 from by decide) hf
  have f2 : v_iv (n_v vs 6) = v_iv (n_v vs 4) + v_iv (n_v vs 5) := f2
  obtain ⟨f3, hf⟩ := fc_un (show (20 : Nat) < 100 from by decide) hf
  have f3 : 1 * w_fi ws (n_v vs 2) 170 + ((-1) * v_iv (n_v vs 1) + ((-700) * v_iv (n_v vs 3) + ((-28) * v_iv (n_v vs 4) + 0))) ≤ 887 := f3
  obtain ⟨f4, hf⟩ := fc_un (show (24 : Nat) < 100 from by decide) hf
  have f4 : n_v vs 0 = n_v vs 2 := f4
  have q2 : n_v vs 2 = n_v vs 0 := f4.symm
  rw [q2] at f1
  rw [q2] at f3
  have cr_0_64 : ta (w_ar ws (n_v vs 0) 64) = some 189 := tv_rg (th_fd hD hth r0 (g := GG_150) rfl (k := 64) (t := (2, 0, 0, [189])) rfl rfl)
  have hK_0_64 : ∀ j : Int, 0 ≤ j → j < 192 → 0 ≤ w_ei ws (w_ar ws (n_v vs 0) 64) j ∧ w_ei ws (w_ar ws (n_v vs 0) 64) j ≤ 24 := fun j h0 h1 => th_el hD hth cr_0_64 (kd := 0) (n := 192) (m := 192) (lo := 0) (hi := 24) (rs := []) (L := []) rfl (by decide) (j := j.toNat) (by omega)
  have kz_0_139 : 0 ≤ w_fi ws (n_v vs 0) 139 ∧ w_fi ws (n_v vs 0) 139 ≤ 3 := tv_rng (th_fd hD hth r0 (g := GG_150) rfl (k := 139) (t := (0, 0, 3, [])) rfl rfl)
  have kz_0_170 : 0 ≤ w_fi ws (n_v vs 0) 170 ∧ w_fi ws (n_v vs 0) 170 ≤ 100000000 := tv_rng (th_fd hD hth r0 (g := GG_150) rfl (k := 170) (t := (0, 0, 100000000, [])) rfl rfl)
  have kv0 : 0 ≤ w_fi ws (n_v vs 0) 170 ∧ w_fi ws (n_v vs 0) 170 ≤ 100000000 := tv_rng (th_fd hD hth r0 (g := GG_150) rfl (k := 170) (t := (0, 0, 100000000, [])) rfl rfl)
  obtain ⟨x, ex, hx⟩ := iv_ex (ta := ta) (lo := 0) (hi := 99999999) (z := w_fi ws (n_v vs 0) 170) (by omega) (by omega) (by omega) (by omega)
  have ex2 : v_iv (Value.int x) = w_fi ws (n_v vs 0) 170 := ex
  have ex3 : 0 ≤ v_iv (Value.int x) ∧ v_iv (Value.int x) ≤ 99999999 := tv_rng hx
  have e_1 : n_v (vs ++ [Value.int x]) 1 = n_v vs 1 := n_v_old (by rw [hl]; decide)
  have e_2 : n_v (vs ++ [Value.int x]) 2 = n_v vs 2 := n_v_old (by rw [hl]; decide)
  have e_3 : n_v (vs ++ [Value.int x]) 3 = n_v vs 3 := n_v_old (by rw [hl]; decide)
  have e_4 : n_v (vs ++ [Value.int x]) 4 = n_v vs 4 := n_v_old (by rw [hl]; decide)
  have e_9 : n_v (vs ++ [Value.int x]) 9 = Value.int x := n_v_new hl
  have nf0 : fc_1 (20, [2, 9], [30, 0, 1, 1, 170, -1, 0, 0]) ws (vs ++ [Value.int x]) := by
    refine ⟨fun n hn => ?_, ?_⟩
    · have hn : n ∈ [2, 9] := hn
      rw [List.length_append, hl]
      simp only [List.mem_cons, List.not_mem_nil, or_false] at hn
      show n < 9 + 1; omega
    · show 1 * w_fi ws (n_v (vs ++ [Value.int x]) 2) 170 + ((-1) * v_iv (n_v (vs ++ [Value.int x]) 9) + 0) ≤ 0
      rw [e_2]
      rw [e_9]
      rw [q2]
      omega
  have nf1 : fc_1 (23, [9, 1, 3, 4], [887, 1, -1, -700, -28]) ws (vs ++ [Value.int x]) := by
    refine ⟨fun n hn => ?_, ?_⟩
    · have hn : n ∈ [9, 1, 3, 4] := hn
      rw [List.length_append, hl]
      simp only [List.mem_cons, List.not_mem_nil, or_false] at hn
      show n < 9 + 1; omega
    · show 1 * v_iv (n_v (vs ++ [Value.int x]) 9) + ((-1) * v_iv (n_v (vs ++ [Value.int x]) 1) + ((-700) * v_iv (n_v (vs ++ [Value.int x]) 3) + ((-28) * v_iv (n_v (vs ++ [Value.int x]) 4) + 0))) ≤ 887
      rw [e_1]
      rw [e_3]
      rw [e_4]
      rw [e_9]
      omega
  exact ⟨(fun _ h => (by cases h)), [Value.int x], ag_one hx, List.forall_mem_cons.mpr ⟨⟨show (20 : Nat) < 100 from by decide, nf0⟩, List.forall_mem_cons.mpr ⟨⟨show (23 : Nat) < 100 from by decide, nf1⟩, (fun _ h => (by cases h))⟩⟩, (fun _ h => (by cases h))⟩
def o_Mo_writeDrawing_17 : or_T := (114, 10, [(0, (2, 0, 0, [150])), (1, (0, 0, 99965512, [])), (2, (2, 0, 0, [150])), (3, (0, 0, 47, [])), (4, (0, 1, 24, [])), (5, (0, 1, 1, [])), (6, (0, 2, 25, [])), (7, (0, 3, 26, [])), (9, (0, 0, 99999999, []))], [(23, [9, 1, 3, 4], [887, 1, -1, -700, -28]), (20, [7, 2, 3], [50, 1, 1, 1139, 1064, 1, 2, 1, 0, 4, 14, 3, 1, 64, 4, 7, 6, 2, 0, 48, 2, 1, 139, 1, 2, 0, 2]), (24, [0, 2], []), (20, [2, 9], [30, 1, 1, 1, 170, -1, 0, 0]), (102, [9], [237142198758023568227473377297792835283496928595231875152809132048206089502588928, 13170]), (23, [9, 1, 3, 4], [887, 1, -1, -700, -28]), (7, [6, 7], [2]), (1, [6, 4, 5], [])], [], [], [(20, [4, 2, 3], [50, 1, 1, 1139, 1064, 0, 2, 1, 0, 4, 14, 3, 1, 64, 4, 7, 6, 2, 0, 48, 2, 1, 139, 1, 2, 0, 1])], [], [(6, 7, -4294967296, -1), (6, 4, 1, 1)])
theorem oo_Mo_writeDrawing_17 {kA : Nat → ClassId} : or_ok kA GG o_Mo_writeDrawing_17 := by
  intro A ta ws vs hD hth hl hk hds hf
  have hl : vs.length = 10 := hl
  have hk : ∀ q ∈ ([(0, (2, 0, 0, [150])), (1, (0, 0, 99965512, [])), (2, (2, 0, 0, [150])), (3, (0, 0, 47, [])), (4, (0, 1, 24, [])), (5, (0, 1, 1, [])), (6, (0, 2, 25, [])), (7, (0, 3, 26, [])), (9, (0, 0, 99999999, []))] : List (Nat × tv_T)), tv_ok ta q.2 (n_v vs q.1) := hk
  obtain ⟨t0, hk⟩ := List.forall_mem_cons.mp hk
  have t0 : tv_ok ta (2, 0, 0, [150]) (n_v vs 0) := t0
  have r0 : ta (v_ad (n_v vs 0)) = some 150 := tv_rg t0
  obtain ⟨t1, hk⟩ := List.forall_mem_cons.mp hk
  have t1 : tv_ok ta (0, 0, 99965512, []) (n_v vs 1) := t1
  have k1 : 0 ≤ v_iv (n_v vs 1) ∧ v_iv (n_v vs 1) ≤ 99965512 := tv_rng t1
  obtain ⟨t2, hk⟩ := List.forall_mem_cons.mp hk
  have t2 : tv_ok ta (2, 0, 0, [150]) (n_v vs 2) := t2
  have r2 : ta (v_ad (n_v vs 2)) = some 150 := tv_rg t2
  obtain ⟨t3, hk⟩ := List.forall_mem_cons.mp hk
  have t3 : tv_ok ta (0, 0, 47, []) (n_v vs 3) := t3
  have k3 : 0 ≤ v_iv (n_v vs 3) ∧ v_iv (n_v vs 3) ≤ 47 := tv_rng t3
  obtain ⟨t4, hk⟩ := List.forall_mem_cons.mp hk
  have t4 : tv_ok ta (0, 1, 24, []) (n_v vs 4) := t4
  have k4 : 1 ≤ v_iv (n_v vs 4) ∧ v_iv (n_v vs 4) ≤ 24 := tv_rng t4
  obtain ⟨t5, hk⟩ := List.forall_mem_cons.mp hk
  have t5 : tv_ok ta (0, 1, 1, []) (n_v vs 5) := t5
  have k5 : 1 ≤ v_iv (n_v vs 5) ∧ v_iv (n_v vs 5) ≤ 1 := tv_rng t5
  obtain ⟨t6, hk⟩ := List.forall_mem_cons.mp hk
  have t6 : tv_ok ta (0, 2, 25, []) (n_v vs 6) := t6
  have k6 : 2 ≤ v_iv (n_v vs 6) ∧ v_iv (n_v vs 6) ≤ 25 := tv_rng t6
  obtain ⟨t7, hk⟩ := List.forall_mem_cons.mp hk
  have t7 : tv_ok ta (0, 3, 26, []) (n_v vs 7) := t7
  have k7 : 3 ≤ v_iv (n_v vs 7) ∧ v_iv (n_v vs 7) ≤ 26 := tv_rng t7
  obtain ⟨t9, hk⟩ := List.forall_mem_cons.mp hk
  have t9 : tv_ok ta (0, 0, 99999999, []) (n_v vs 9) := t9
  have k9 : 0 ≤ v_iv (n_v vs 9) ∧ v_iv (n_v vs 9) ≤ 99999999 := tv_rng t9
  have hds : ∀ q ∈ ([(6, 7, -4294967296, -1), (6, 4, 1, 1)] : List of_T), n_iv vs q.2.1 + q.2.2.1 ≤ n_iv vs q.1 ∧ n_iv vs q.1 ≤ n_iv vs q.2.1 + q.2.2.2 := hds
  obtain ⟨d0, hds⟩ := List.forall_mem_cons.mp hds
  have d0 : v_iv (n_v vs 7) + (-4294967296) ≤ v_iv (n_v vs 6) ∧ v_iv (n_v vs 6) ≤ v_iv (n_v vs 7) + (-1) := d0
  obtain ⟨d1, hds⟩ := List.forall_mem_cons.mp hds
  have d1 : v_iv (n_v vs 4) + 1 ≤ v_iv (n_v vs 6) ∧ v_iv (n_v vs 6) ≤ v_iv (n_v vs 4) + 1 := d1
  have hf : fc_ok [(23, [9, 1, 3, 4], [887, 1, -1, -700, -28]), (20, [7, 2, 3], [50, 1, 1, 1139, 1064, 1, 2, 1, 0, 4, 14, 3, 1, 64, 4, 7, 6, 2, 0, 48, 2, 1, 139, 1, 2, 0, 2]), (24, [0, 2], []), (20, [2, 9], [30, 1, 1, 1, 170, -1, 0, 0]), (102, [9], [237142198758023568227473377297792835283496928595231875152809132048206089502588928, 13170]), (23, [9, 1, 3, 4], [887, 1, -1, -700, -28]), (7, [6, 7], [2]), (1, [6, 4, 5], [])] ta ws vs := hf
  obtain ⟨f0, hf⟩ := fc_un (show (23 : Nat) < 100 from by decide) hf
  have f0 : 1 * v_iv (n_v vs 9) + ((-1) * v_iv (n_v vs 1) + ((-700) * v_iv (n_v vs 3) + ((-28) * v_iv (n_v vs 4) + 0))) ≤ 887 := f0
  obtain ⟨f1, hf⟩ := fc_un (show (20 : Nat) < 100 from by decide) hf
  have f1 : v_iv (n_v vs 7) = (w_ei ws (w_ar ws (n_v vs 2) 64) (((48 * w_fi ws (n_v vs 2) 139) + v_iv (n_v vs 3))) + 2) := f1
  obtain ⟨f2, hf⟩ := fc_un (show (24 : Nat) < 100 from by decide) hf
  have f2 : n_v vs 0 = n_v vs 2 := f2
  obtain ⟨f3, hf⟩ := fc_un (show (20 : Nat) < 100 from by decide) hf
  have f3 : 1 * w_fi ws (n_v vs 2) 170 + ((-1) * v_iv (n_v vs 9) + 0) ≤ 1 := f3
  obtain ⟨ta1, w1, le1, ⟨_, s1⟩, hf⟩ := fc_us (show ¬ (102 : Nat) < 100 from by decide) hf
  obtain ⟨f5, hf⟩ := fc_un (show (23 : Nat) < 100 from by decide) hf
  have f5 : 1 * v_iv (n_v vs 9) + ((-1) * v_iv (n_v vs 1) + ((-700) * v_iv (n_v vs 3) + ((-28) * v_iv (n_v vs 4) + 0))) ≤ 887 := f5
  obtain ⟨f6, hf⟩ := fc_un (show (7 : Nat) < 100 from by decide) hf
  have f6 : v_iv (n_v vs 6) < v_iv (n_v vs 7) := f6
  obtain ⟨f7, hf⟩ := fc_un (show (1 : Nat) < 100 from by decide) hf
  have f7 : v_iv (n_v vs 6) = v_iv (n_v vs 4) + v_iv (n_v vs 5) := f7
  have q2 : n_v vs 2 = n_v vs 0 := f2.symm
  rw [q2] at f1
  rw [q2] at f3
  have cr_0_64 : ta (w_ar ws (n_v vs 0) 64) = some 189 := tv_rg (th_fd hD hth r0 (g := GG_150) rfl (k := 64) (t := (2, 0, 0, [189])) rfl rfl)
  have hK_0_64 : ∀ j : Int, 0 ≤ j → j < 192 → 0 ≤ w_ei ws (w_ar ws (n_v vs 0) 64) j ∧ w_ei ws (w_ar ws (n_v vs 0) 64) j ≤ 24 := fun j h0 h1 => th_el hD hth cr_0_64 (kd := 0) (n := 192) (m := 192) (lo := 0) (hi := 24) (rs := []) (L := []) rfl (by decide) (j := j.toNat) (by omega)
  have kz_0_139 : 0 ≤ w_fi ws (n_v vs 0) 139 ∧ w_fi ws (n_v vs 0) 139 ≤ 3 := tv_rng (th_fd hD hth r0 (g := GG_150) rfl (k := 139) (t := (0, 0, 3, [])) rfl rfl)
  have kz_0_170 : 0 ≤ w_fi ws (n_v vs 0) 170 ∧ w_fi ws (n_v vs 0) 170 ≤ 100000000 := tv_rng (th_fd hD hth r0 (g := GG_150) rfl (k := 170) (t := (0, 0, 100000000, [])) rfl rfl)
  have nf0 : fc_1 (20, [4, 2, 3], [50, 1, 1, 1139, 1064, 0, 2, 1, 0, 4, 14, 3, 1, 64, 4, 7, 6, 2, 0, 48, 2, 1, 139, 1, 2, 0, 1]) ws (vs) := by
    refine ⟨fun n hn => ?_, ?_⟩
    · have hn : n ∈ [4, 2, 3] := hn
      rw [hl]
      simp only [List.mem_cons, List.not_mem_nil, or_false] at hn
      show n < 10; omega
    · show v_iv (n_v vs 4) ≤ (w_ei ws (w_ar ws (n_v vs 2) 64) (((48 * w_fi ws (n_v vs 2) 139) + v_iv (n_v vs 3))) + 1)
      rw [q2]
      first | omega | grind
  refine ⟨(fun _ h => (by cases h)), [], trivial, ?_, (fun _ h => (by cases h))⟩
  rw [List.append_nil]
  exact List.forall_mem_cons.mpr ⟨⟨show (20 : Nat) < 100 from by decide, nf0⟩, (fun _ h => (by cases h))⟩
def o_Mo_writeDrawing_18 : or_T := (117, 11, [(0, (2, 0, 0, [150])), (1, (0, 0, 99965512, [])), (2, (2, 0, 0, [150])), (3, (0, 0, 47, [])), (4, (0, 1, 24, [])), (5, (0, 1, 1, [])), (6, (0, 2, 25, [])), (7, (0, 3, 26, [])), (9, (0, 0, 99999999, []))], [(20, [4, 2, 3], [50, 1, 1, 1139, 1064, 0, 2, 1, 0, 4, 14, 3, 1, 64, 4, 7, 6, 2, 0, 48, 2, 1, 139, 1, 2, 0, 1]), (23, [9, 1, 3, 4], [887, 1, -1, -700, -28]), (20, [7, 2, 3], [50, 1, 1, 1139, 1064, 1, 2, 1, 0, 4, 14, 3, 1, 64, 4, 7, 6, 2, 0, 48, 2, 1, 139, 1, 2, 0, 2]), (24, [0, 2], []), (20, [2, 9], [30, 1, 1, 1, 170, -1, 0, 0]), (102, [9], [237142198758023568227473377297792835283496928595231875152809132048206089502588928, 13170]), (23, [9, 1, 3, 4], [887, 1, -1, -700, -28]), (7, [6, 7], [2]), (1, [6, 4, 5], [])], [], [(0, 0, 99999987, [])], [(20, [2, 11], [30, 0, 1, 1, 170, -1, 0, 0]), (23, [11, 1, 3, 4], [888, 1, -1, -700, -28])], [], [(6, 7, -4294967296, -1), (6, 4, 1, 1)])
theorem oo_Mo_writeDrawing_18 {kA : Nat → ClassId} : or_ok kA GG o_Mo_writeDrawing_18 := by
  intro A ta ws vs hD hth hl hk hds hf
  have hl : vs.length = 11 := hl
  have hk : ∀ q ∈ ([(0, (2, 0, 0, [150])), (1, (0, 0, 99965512, [])), (2, (2, 0, 0, [150])), (3, (0, 0, 47, [])), (4, (0, 1, 24, [])), (5, (0, 1, 1, [])), (6, (0, 2, 25, [])), (7, (0, 3, 26, [])), (9, (0, 0, 99999999, []))] : List (Nat × tv_T)), tv_ok ta q.2 (n_v vs q.1) := hk
  obtain ⟨t0, hk⟩ := List.forall_mem_cons.mp hk
  have t0 : tv_ok ta (2, 0, 0, [150]) (n_v vs 0) := t0
  have r0 : ta (v_ad (n_v vs 0)) = some 150 := tv_rg t0
  obtain ⟨t1, hk⟩ := List.forall_mem_cons.mp hk
  have t1 : tv_ok ta (0, 0, 99965512, []) (n_v vs 1) := t1
  have k1 : 0 ≤ v_iv (n_v vs 1) ∧ v_iv (n_v vs 1) ≤ 99965512 := tv_rng t1
  obtain ⟨t2, hk⟩ := List.forall_mem_cons.mp hk
  have t2 : tv_ok ta (2, 0, 0, [150]) (n_v vs 2) := t2
  have r2 : ta (v_ad (n_v vs 2)) = some 150 := tv_rg t2
  obtain ⟨t3, hk⟩ := List.forall_mem_cons.mp hk
  have t3 : tv_ok ta (0, 0, 47, []) (n_v vs 3) := t3
  have k3 : 0 ≤ v_iv (n_v vs 3) ∧ v_iv (n_v vs 3) ≤ 47 := tv_rng t3
  obtain ⟨t4, hk⟩ := List.forall_mem_cons.mp hk
  have t4 : tv_ok ta (0, 1, 24, []) (n_v vs 4) := t4
  have k4 : 1 ≤ v_iv (n_v vs 4) ∧ v_iv (n_v vs 4) ≤ 24 := tv_rng t4
  obtain ⟨t5, hk⟩ := List.forall_mem_cons.mp hk
  have t5 : tv_ok ta (0, 1, 1, []) (n_v vs 5) := t5
  have k5 : 1 ≤ v_iv (n_v vs 5) ∧ v_iv (n_v vs 5) ≤ 1 := tv_rng t5
  obtain ⟨t6, hk⟩ := List.forall_mem_cons.mp hk
  have t6 : tv_ok ta (0, 2, 25, []) (n_v vs 6) := t6
  have k6 : 2 ≤ v_iv (n_v vs 6) ∧ v_iv (n_v vs 6) ≤ 25 := tv_rng t6
  obtain ⟨t7, hk⟩ := List.forall_mem_cons.mp hk
  have t7 : tv_ok ta (0, 3, 26, []) (n_v vs 7) := t7
  have k7 : 3 ≤ v_iv (n_v vs 7) ∧ v_iv (n_v vs 7) ≤ 26 := tv_rng t7
  obtain ⟨t9, hk⟩ := List.forall_mem_cons.mp hk
  have t9 : tv_ok ta (0, 0, 99999999, []) (n_v vs 9) := t9
  have k9 : 0 ≤ v_iv (n_v vs 9) ∧ v_iv (n_v vs 9) ≤ 99999999 := tv_rng t9
  have hds : ∀ q ∈ ([(6, 7, -4294967296, -1), (6, 4, 1, 1)] : List of_T), n_iv vs q.2.1 + q.2.2.1 ≤ n_iv vs q.1 ∧ n_iv vs q.1 ≤ n_iv vs q.2.1 + q.2.2.2 := hds
  obtain ⟨d0, hds⟩ := List.forall_mem_cons.mp hds
  have d0 : v_iv (n_v vs 7) + (-4294967296) ≤ v_iv (n_v vs 6) ∧ v_iv (n_v vs 6) ≤ v_iv (n_v vs 7) + (-1) := d0
  obtain ⟨d1, hds⟩ := List.forall_mem_cons.mp hds
  have d1 : v_iv (n_v vs 4) + 1 ≤ v_iv (n_v vs 6) ∧ v_iv (n_v vs 6) ≤ v_iv (n_v vs 4) + 1 := d1
  have hf : fc_ok [(20, [4, 2, 3], [50, 1, 1, 1139, 1064, 0, 2, 1, 0, 4, 14, 3, 1, 64, 4, 7, 6, 2, 0, 48, 2, 1, 139, 1, 2, 0, 1]), (23, [9, 1, 3, 4], [887, 1, -1, -700, -28]), (20, [7, 2, 3], [50, 1, 1, 1139, 1064, 1, 2, 1, 0, 4, 14, 3, 1, 64, 4, 7, 6, 2, 0, 48, 2, 1, 139, 1, 2, 0, 2]), (24, [0, 2], []), (20, [2, 9], [30, 1, 1, 1, 170, -1, 0, 0]), (102, [9], [237142198758023568227473377297792835283496928595231875152809132048206089502588928, 13170]), (23, [9, 1, 3, 4], [887, 1, -1, -700, -28]), (7, [6, 7], [2]), (1, [6, 4, 5], [])] ta ws vs := hf
  obtain ⟨f0, hf⟩ := fc_un (show (20 : Nat) < 100 from by decide) hf
  have f0 : v_iv (n_v vs 4) ≤ (w_ei ws (w_ar ws (n_v vs 2) 64) (((48 * w_fi ws (n_v vs 2) 139) + v_iv (n_v vs 3))) + 1) := f0
  obtain ⟨f1, hf⟩ := fc_un (show (23 : Nat) < 100 from by decide) hf
  have f1 : 1 * v_iv (n_v vs 9) + ((-1) * v_iv (n_v vs 1) + ((-700) * v_iv (n_v vs 3) + ((-28) * v_iv (n_v vs 4) + 0))) ≤ 887 := f1
  obtain ⟨f2, hf⟩ := fc_un (show (20 : Nat) < 100 from by decide) hf
  have f2 : v_iv (n_v vs 7) = (w_ei ws (w_ar ws (n_v vs 2) 64) (((48 * w_fi ws (n_v vs 2) 139) + v_iv (n_v vs 3))) + 2) := f2
  obtain ⟨f3, hf⟩ := fc_un (show (24 : Nat) < 100 from by decide) hf
  have f3 : n_v vs 0 = n_v vs 2 := f3
  obtain ⟨f4, hf⟩ := fc_un (show (20 : Nat) < 100 from by decide) hf
  have f4 : 1 * w_fi ws (n_v vs 2) 170 + ((-1) * v_iv (n_v vs 9) + 0) ≤ 1 := f4
  obtain ⟨ta1, w1, le1, ⟨_, s1⟩, hf⟩ := fc_us (show ¬ (102 : Nat) < 100 from by decide) hf
  obtain ⟨f6, hf⟩ := fc_un (show (23 : Nat) < 100 from by decide) hf
  have f6 : 1 * v_iv (n_v vs 9) + ((-1) * v_iv (n_v vs 1) + ((-700) * v_iv (n_v vs 3) + ((-28) * v_iv (n_v vs 4) + 0))) ≤ 887 := f6
  obtain ⟨f7, hf⟩ := fc_un (show (7 : Nat) < 100 from by decide) hf
  have f7 : v_iv (n_v vs 6) < v_iv (n_v vs 7) := f7
  obtain ⟨f8, hf⟩ := fc_un (show (1 : Nat) < 100 from by decide) hf
  have f8 : v_iv (n_v vs 6) = v_iv (n_v vs 4) + v_iv (n_v vs 5) := f8
  have q2 : n_v vs 2 = n_v vs 0 := f3.symm
  rw [q2] at f0
  rw [q2] at f2
  rw [q2] at f4
  have cr_0_64 : ta (w_ar ws (n_v vs 0) 64) = some 189 := tv_rg (th_fd hD hth r0 (g := GG_150) rfl (k := 64) (t := (2, 0, 0, [189])) rfl rfl)
  have hK_0_64 : ∀ j : Int, 0 ≤ j → j < 192 → 0 ≤ w_ei ws (w_ar ws (n_v vs 0) 64) j ∧ w_ei ws (w_ar ws (n_v vs 0) 64) j ≤ 24 := fun j h0 h1 => th_el hD hth cr_0_64 (kd := 0) (n := 192) (m := 192) (lo := 0) (hi := 24) (rs := []) (L := []) rfl (by decide) (j := j.toNat) (by omega)
  have kz_0_139 : 0 ≤ w_fi ws (n_v vs 0) 139 ∧ w_fi ws (n_v vs 0) 139 ≤ 3 := tv_rng (th_fd hD hth r0 (g := GG_150) rfl (k := 139) (t := (0, 0, 3, [])) rfl rfl)
  have kz_0_170 : 0 ≤ w_fi ws (n_v vs 0) 170 ∧ w_fi ws (n_v vs 0) 170 ≤ 100000000 := tv_rng (th_fd hD hth r0 (g := GG_150) rfl (k := 170) (t := (0, 0, 100000000, [])) rfl rfl)
  have kv0 : 0 ≤ w_fi ws (n_v vs 0) 170 ∧ w_fi ws (n_v vs 0) 170 ≤ 100000000 := tv_rng (th_fd hD hth r0 (g := GG_150) rfl (k := 170) (t := (0, 0, 100000000, [])) rfl rfl)
  obtain ⟨x, ex, hx⟩ := iv_ex (ta := ta) (lo := 0) (hi := 99999987) (z := w_fi ws (n_v vs 0) 170) (by omega) (by omega) (by omega) (by omega)
  have ex2 : v_iv (Value.int x) = w_fi ws (n_v vs 0) 170 := ex
  have ex3 : 0 ≤ v_iv (Value.int x) ∧ v_iv (Value.int x) ≤ 99999987 := tv_rng hx
  have e_1 : n_v (vs ++ [Value.int x]) 1 = n_v vs 1 := n_v_old (by rw [hl]; decide)
  have e_2 : n_v (vs ++ [Value.int x]) 2 = n_v vs 2 := n_v_old (by rw [hl]; decide)
  have e_3 : n_v (vs ++ [Value.int x]) 3 = n_v vs 3 := n_v_old (by rw [hl]; decide)
  have e_4 : n_v (vs ++ [Value.int x]) 4 = n_v vs 4 := n_v_old (by rw [hl]; decide)
  have e_11 : n_v (vs ++ [Value.int x]) 11 = Value.int x := n_v_new hl
  have nf0 : fc_1 (20, [2, 11], [30, 0, 1, 1, 170, -1, 0, 0]) ws (vs ++ [Value.int x]) := by
    refine ⟨fun n hn => ?_, ?_⟩
    · have hn : n ∈ [2, 11] := hn
      rw [List.length_append, hl]
      simp only [List.mem_cons, List.not_mem_nil, or_false] at hn
      show n < 11 + 1; omega
    · show 1 * w_fi ws (n_v (vs ++ [Value.int x]) 2) 170 + ((-1) * v_iv (n_v (vs ++ [Value.int x]) 11) + 0) ≤ 0
      rw [e_2]
      rw [e_11]
      rw [q2]
      omega
  have nf1 : fc_1 (23, [11, 1, 3, 4], [888, 1, -1, -700, -28]) ws (vs ++ [Value.int x]) := by
    refine ⟨fun n hn => ?_, ?_⟩
    · have hn : n ∈ [11, 1, 3, 4] := hn
      rw [List.length_append, hl]
      simp only [List.mem_cons, List.not_mem_nil, or_false] at hn
      show n < 11 + 1; omega
    · show 1 * v_iv (n_v (vs ++ [Value.int x]) 11) + ((-1) * v_iv (n_v (vs ++ [Value.int x]) 1) + ((-700) * v_iv (n_v (vs ++ [Value.int x]) 3) + ((-28) * v_iv (n_v (vs ++ [Value.int x]) 4) + 0))) ≤ 888
      rw [e_1]
      rw [e_3]
      rw [e_4]
      rw [e_11]
      omega
  exact ⟨(fun _ h => (by cases h)), [Value.int x], ag_one hx, List.forall_mem_cons.mpr ⟨⟨show (20 : Nat) < 100 from by decide, nf0⟩, List.forall_mem_cons.mpr ⟨⟨show (23 : Nat) < 100 from by decide, nf1⟩, (fun _ h => (by cases h))⟩⟩, (fun _ h => (by cases h))⟩
def o_Mo_writeDrawing_19 : or_T := (123, 13, [(0, (2, 0, 0, [150])), (1, (0, 0, 99965512, [])), (2, (2, 0, 0, [150])), (3, (0, 0, 47, [])), (4, (0, 1, 24, [])), (5, (0, 1, 1, [])), (6, (0, 2, 25, [])), (7, (0, 3, 26, [])), (9, (0, 0, 99999999, [])), (11, (0, 0, 99999987, []))], [(23, [11, 1, 3, 4], [888, 1, -1, -700, -28]), (20, [4, 2, 3], [50, 1, 1, 1139, 1064, 0, 2, 1, 0, 4, 14, 3, 1, 64, 4, 7, 6, 2, 0, 48, 2, 1, 139, 1, 2, 0, 1]), (23, [9, 1, 3, 4], [887, 1, -1, -700, -28]), (20, [7, 2, 3], [50, 1, 1, 1139, 1064, 1, 2, 1, 0, 4, 14, 3, 1, 64, 4, 7, 6, 2, 0, 48, 2, 1, 139, 1, 2, 0, 2]), (24, [0, 2], []), (20, [2, 11], [30, 13, 1, 1, 170, -1, 0, 0]), (102, [11], [237142198758023568227473377297792835283496928595231875152809132048206089502588928, 13170]), (23, [11, 1, 3, 4], [888, 1, -1, -700, -28]), (23, [9, 1, 3, 4], [887, 1, -1, -700, -28]), (102, [9], [237142198758023568227473377297792835283496928595231875152809132048206089502588928, 13170]), (23, [9, 1, 3, 4], [887, 1, -1, -700, -28]), (7, [6, 7], [2]), (1, [6, 4, 5], [])], [], [(0, 0, 99999999, [])], [(20, [2, 13], [30, 0, 1, 1, 170, -1, 0, 0]), (23, [13, 1, 3, 4], [901, 1, -1, -700, -28])], [], [(6, 7, -4294967296, -1), (6, 4, 1, 1)])
theorem oo_Mo_writeDrawing_19 {kA : Nat → ClassId} : or_ok kA GG o_Mo_writeDrawing_19 := by
  intro A ta ws vs hD hth hl hk hds hf
  have hl : vs.length = 13 := hl
  have hk : ∀ q ∈ ([(0, (2, 0, 0, [150])), (1, (0, 0, 99965512, [])), (2, (2, 0, 0, [150])), (3, (0, 0, 47, [])), (4, (0, 1, 24, [])), (5, (0, 1, 1, [])), (6, (0, 2, 25, [])), (7, (0, 3, 26, [])), (9, (0, 0, 99999999, [])), (11, (0, 0, 99999987, []))] : List (Nat × tv_T)), tv_ok ta q.2 (n_v vs q.1) := hk
  obtain ⟨t0, hk⟩ := List.forall_mem_cons.mp hk
  have t0 : tv_ok ta (2, 0, 0, [150]) (n_v vs 0) := t0
  have r0 : ta (v_ad (n_v vs 0)) = some 150 := tv_rg t0
  obtain ⟨t1, hk⟩ := List.forall_mem_cons.mp hk
  have t1 : tv_ok ta (0, 0, 99965512, []) (n_v vs 1) := t1
  have k1 : 0 ≤ v_iv (n_v vs 1) ∧ v_iv (n_v vs 1) ≤ 99965512 := tv_rng t1
  obtain ⟨t2, hk⟩ := List.forall_mem_cons.mp hk
  have t2 : tv_ok ta (2, 0, 0, [150]) (n_v vs 2) := t2
  have r2 : ta (v_ad (n_v vs 2)) = some 150 := tv_rg t2
  obtain ⟨t3, hk⟩ := List.forall_mem_cons.mp hk
  have t3 : tv_ok ta (0, 0, 47, []) (n_v vs 3) := t3
  have k3 : 0 ≤ v_iv (n_v vs 3) ∧ v_iv (n_v vs 3) ≤ 47 := tv_rng t3
  obtain ⟨t4, hk⟩ := List.forall_mem_cons.mp hk
  have t4 : tv_ok ta (0, 1, 24, []) (n_v vs 4) := t4
  have k4 : 1 ≤ v_iv (n_v vs 4) ∧ v_iv (n_v vs 4) ≤ 24 := tv_rng t4
  obtain ⟨t5, hk⟩ := List.forall_mem_cons.mp hk
  have t5 : tv_ok ta (0, 1, 1, []) (n_v vs 5) := t5
  have k5 : 1 ≤ v_iv (n_v vs 5) ∧ v_iv (n_v vs 5) ≤ 1 := tv_rng t5
  obtain ⟨t6, hk⟩ := List.forall_mem_cons.mp hk
  have t6 : tv_ok ta (0, 2, 25, []) (n_v vs 6) := t6
  have k6 : 2 ≤ v_iv (n_v vs 6) ∧ v_iv (n_v vs 6) ≤ 25 := tv_rng t6
  obtain ⟨t7, hk⟩ := List.forall_mem_cons.mp hk
  have t7 : tv_ok ta (0, 3, 26, []) (n_v vs 7) := t7
  have k7 : 3 ≤ v_iv (n_v vs 7) ∧ v_iv (n_v vs 7) ≤ 26 := tv_rng t7
  obtain ⟨t9, hk⟩ := List.forall_mem_cons.mp hk
  have t9 : tv_ok ta (0, 0, 99999999, []) (n_v vs 9) := t9
  have k9 : 0 ≤ v_iv (n_v vs 9) ∧ v_iv (n_v vs 9) ≤ 99999999 := tv_rng t9
  obtain ⟨t11, hk⟩ := List.forall_mem_cons.mp hk
  have t11 : tv_ok ta (0, 0, 99999987, []) (n_v vs 11) := t11
  have k11 : 0 ≤ v_iv (n_v vs 11) ∧ v_iv (n_v vs 11) ≤ 99999987 := tv_rng t11
  have hds : ∀ q ∈ ([(6, 7, -4294967296, -1), (6, 4, 1, 1)] : List of_T), n_iv vs q.2.1 + q.2.2.1 ≤ n_iv vs q.1 ∧ n_iv vs q.1 ≤ n_iv vs q.2.1 + q.2.2.2 := hds
  obtain ⟨d0, hds⟩ := List.forall_mem_cons.mp hds
  have d0 : v_iv (n_v vs 7) + (-4294967296) ≤ v_iv (n_v vs 6) ∧ v_iv (n_v vs 6) ≤ v_iv (n_v vs 7) + (-1) := d0
  obtain ⟨d1, hds⟩ := List.forall_mem_cons.mp hds
  have d1 : v_iv (n_v vs 4) + 1 ≤ v_iv (n_v vs 6) ∧ v_iv (n_v vs 6) ≤ v_iv (n_v vs 4) + 1 := d1
  have hf : fc_ok [(23, [11, 1, 3, 4], [888, 1, -1, -700, -28]), (20, [4, 2, 3], [50, 1, 1, 1139, 1064, 0, 2, 1, 0, 4, 14, 3, 1, 64, 4, 7, 6, 2, 0, 48, 2, 1, 139, 1, 2, 0, 1]), (23, [9, 1, 3, 4], [887, 1, -1, -700, -28]), (20, [7, 2, 3], [50, 1, 1, 1139, 1064, 1, 2, 1, 0, 4, 14, 3, 1, 64, 4, 7, 6, 2, 0, 48, 2, 1, 139, 1, 2, 0, 2]), (24, [0, 2], []), (20, [2, 11], [30, 13, 1, 1, 170, -1, 0, 0]), (102, [11], [237142198758023568227473377297792835283496928595231875152809132048206089502588928, 13170]), (23, [11, 1, 3, 4], [888, 1, -1, -700, -28]), (23, [9, 1, 3, 4], [887, 1, -1, -700, -28]), (102, [9], [237142198758023568227473377297792835283496928595231875152809132048206089502588928, 13170]), (23, [9, 1, 3, 4], [887, 1, -1, -700, -28]), (7, [6, 7], [2]), (1, [6, 4, 5], [])] ta ws vs := hf
  obtain ⟨f0, hf⟩ := fc_un (show (23 : Nat) < 100 from by decide) hf
  have f0 : 1 * v_iv (n_v vs 11) + ((-1) * v_iv (n_v vs 1) + ((-700) * v_iv (n_v vs 3) + ((-28) * v_iv (n_v vs 4) + 0))) ≤ 888 := f0
  obtain ⟨f1, hf⟩ := fc_un (show (20 : Nat) < 100 from by decide) hf
  have f1 : v_iv (n_v vs 4) ≤ (w_ei ws (w_ar ws (n_v vs 2) 64) (((48 * w_fi ws (n_v vs 2) 139) + v_iv (n_v vs 3))) + 1) := f1
  obtain ⟨f2, hf⟩ := fc_un (show (23 : Nat) < 100 from by decide) hf
  have f2 : 1 * v_iv (n_v vs 9) + ((-1) * v_iv (n_v vs 1) + ((-700) * v_iv (n_v vs 3) + ((-28) * v_iv (n_v vs 4) + 0))) ≤ 887 := f2
  obtain ⟨f3, hf⟩ := fc_un (show (20 : Nat) < 100 from by decide) hf
  have f3 : v_iv (n_v vs 7) = (w_ei ws (w_ar ws (n_v vs 2) 64) (((48 * w_fi ws (n_v vs 2) 139) + v_iv (n_v vs 3))) + 2) := f3
  obtain ⟨f4, hf⟩ := fc_un (show (24 : Nat) < 100 from by decide) hf
  have f4 : n_v vs 0 = n_v vs 2 := f4
  obtain ⟨f5, hf⟩ := fc_un (show (20 : Nat) < 100 from by decide) hf
  have f5 : 1 * w_fi ws (n_v vs 2) 170 + ((-1) * v_iv (n_v vs 11) + 0) ≤ 13 := f5
  obtain ⟨ta1, w1, le1, ⟨_, s1⟩, hf⟩ := fc_us (show ¬ (102 : Nat) < 100 from by decide) hf
  obtain ⟨f7, hf⟩ := fc_un (show (23 : Nat) < 100 from by decide) hf
  have f7 : 1 * v_iv (n_v vs 11) + ((-1) * v_iv (n_v vs 1) + ((-700) * v_iv (n_v vs 3) + ((-28) * v_iv (n_v vs 4) + 0))) ≤ 888 := f7
  obtain ⟨f8, hf⟩ := fc_un (show (23 : Nat) < 100 from by decide) hf
  have f8 : 1 * v_iv (n_v vs 9) + ((-1) * v_iv (n_v vs 1) + ((-700) * v_iv (n_v vs 3) + ((-28) * v_iv (n_v vs 4) + 0))) ≤ 887 := f8
  obtain ⟨ta2, w2, le2, ⟨_, s2⟩, hf⟩ := fc_us (show ¬ (102 : Nat) < 100 from by decide) hf
  obtain ⟨f10, hf⟩ := fc_un (show (23 : Nat) < 100 from by decide) hf
  have f10 : 1 * v_iv (n_v vs 9) + ((-1) * v_iv (n_v vs 1) + ((-700) * v_iv (n_v vs 3) + ((-28) * v_iv (n_v vs 4) + 0))) ≤ 887 := f10
  obtain ⟨f11, hf⟩ := fc_un (show (7 : Nat) < 100 from by decide) hf
  have f11 : v_iv (n_v vs 6) < v_iv (n_v vs 7) := f11
  obtain ⟨f12, hf⟩ := fc_un (show (1 : Nat) < 100 from by decide) hf
  have f12 : v_iv (n_v vs 6) = v_iv (n_v vs 4) + v_iv (n_v vs 5) := f12
  have q2 : n_v vs 2 = n_v vs 0 := f4.symm
  rw [q2] at f1
  rw [q2] at f3
  rw [q2] at f5
  have cr_0_64 : ta (w_ar ws (n_v vs 0) 64) = some 189 := tv_rg (th_fd hD hth r0 (g := GG_150) rfl (k := 64) (t := (2, 0, 0, [189])) rfl rfl)
  have hK_0_64 : ∀ j : Int, 0 ≤ j → j < 192 → 0 ≤ w_ei ws (w_ar ws (n_v vs 0) 64) j ∧ w_ei ws (w_ar ws (n_v vs 0) 64) j ≤ 24 := fun j h0 h1 => th_el hD hth cr_0_64 (kd := 0) (n := 192) (m := 192) (lo := 0) (hi := 24) (rs := []) (L := []) rfl (by decide) (j := j.toNat) (by omega)
  have kz_0_139 : 0 ≤ w_fi ws (n_v vs 0) 139 ∧ w_fi ws (n_v vs 0) 139 ≤ 3 := tv_rng (th_fd hD hth r0 (g := GG_150) rfl (k := 139) (t := (0, 0, 3, [])) rfl rfl)
  have kz_0_170 : 0 ≤ w_fi ws (n_v vs 0) 170 ∧ w_fi ws (n_v vs 0) 170 ≤ 100000000 := tv_rng (th_fd hD hth r0 (g := GG_150) rfl (k := 170) (t := (0, 0, 100000000, [])) rfl rfl)
  have kv0 : 0 ≤ w_fi ws (n_v vs 0) 170 ∧ w_fi ws (n_v vs 0) 170 ≤ 100000000 := tv_rng (th_fd hD hth r0 (g := GG_150) rfl (k := 170) (t := (0, 0, 100000000, [])) rfl rfl)
  obtain ⟨x, ex, hx⟩ := iv_ex (ta := ta) (lo := 0) (hi := 99999999) (z := w_fi ws (n_v vs 0) 170) (by omega) (by omega) (by omega) (by omega)
  have ex2 : v_iv (Value.int x) = w_fi ws (n_v vs 0) 170 := ex
  have ex3 : 0 ≤ v_iv (Value.int x) ∧ v_iv (Value.int x) ≤ 99999999 := tv_rng hx
  have e_1 : n_v (vs ++ [Value.int x]) 1 = n_v vs 1 := n_v_old (by rw [hl]; decide)
  have e_2 : n_v (vs ++ [Value.int x]) 2 = n_v vs 2 := n_v_old (by rw [hl]; decide)
  have e_3 : n_v (vs ++ [Value.int x]) 3 = n_v vs 3 := n_v_old (by rw [hl]; decide)
  have e_4 : n_v (vs ++ [Value.int x]) 4 = n_v vs 4 := n_v_old (by rw [hl]; decide)
  have e_13 : n_v (vs ++ [Value.int x]) 13 = Value.int x := n_v_new hl
  have nf0 : fc_1 (20, [2, 13], [30, 0, 1, 1, 170, -1, 0, 0]) ws (vs ++ [Value.int x]) := by
    refine ⟨fun n hn => ?_, ?_⟩
    · have hn : n ∈ [2, 13] := hn
      rw [List.length_append, hl]
      simp only [List.mem_cons, List.not_mem_nil, or_false] at hn
      show n < 13 + 1; omega
    · show 1 * w_fi ws (n_v (vs ++ [Value.int x]) 2) 170 + ((-1) * v_iv (n_v (vs ++ [Value.int x]) 13) + 0) ≤ 0
      rw [e_2]
      rw [e_13]
      rw [q2]
      omega
  have nf1 : fc_1 (23, [13, 1, 3, 4], [901, 1, -1, -700, -28]) ws (vs ++ [Value.int x]) := by
    refine ⟨fun n hn => ?_, ?_⟩
    · have hn : n ∈ [13, 1, 3, 4] := hn
      rw [List.length_append, hl]
      simp only [List.mem_cons, List.not_mem_nil, or_false] at hn
      show n < 13 + 1; omega
    · show 1 * v_iv (n_v (vs ++ [Value.int x]) 13) + ((-1) * v_iv (n_v (vs ++ [Value.int x]) 1) + ((-700) * v_iv (n_v (vs ++ [Value.int x]) 3) + ((-28) * v_iv (n_v (vs ++ [Value.int x]) 4) + 0))) ≤ 901
      rw [e_1]
      rw [e_3]
      rw [e_4]
      rw [e_13]
      omega
  exact ⟨(fun _ h => (by cases h)), [Value.int x], ag_one hx, List.forall_mem_cons.mpr ⟨⟨show (20 : Nat) < 100 from by decide, nf0⟩, List.forall_mem_cons.mpr ⟨⟨show (23 : Nat) < 100 from by decide, nf1⟩, (fun _ h => (by cases h))⟩⟩, (fun _ h => (by cases h))⟩
def o_Mo_writeDrawing_20 : or_T := (133, 15, [(0, (2, 0, 0, [150])), (1, (0, 0, 99965512, [])), (2, (2, 0, 0, [150])), (3, (0, 0, 47, [])), (4, (0, 1, 24, [])), (5, (0, 1, 1, [])), (6, (0, 2, 25, [])), (7, (0, 3, 26, [])), (9, (0, 0, 99999999, [])), (11, (0, 0, 99999987, [])), (13, (0, 0, 99999999, []))], [(23, [13, 1, 3, 4], [901, 1, -1, -700, -28]), (23, [11, 1, 3, 4], [888, 1, -1, -700, -28]), (20, [4, 2, 3], [50, 1, 1, 1139, 1064, 0, 2, 1, 0, 4, 14, 3, 1, 64, 4, 7, 6, 2, 0, 48, 2, 1, 139, 1, 2, 0, 1]), (23, [9, 1, 3, 4], [887, 1, -1, -700, -28]), (20, [7, 2, 3], [50, 1, 1, 1139, 1064, 1, 2, 1, 0, 4, 14, 3, 1, 64, 4, 7, 6, 2, 0, 48, 2, 1, 139, 1, 2, 0, 2]), (24, [0, 2], []), (20, [2, 13], [30, 1, 1, 1, 170, -1, 0, 0]), (102, [13], [237142198758023568227473377297792835283496928595231875152809132048206089502588928, 13170]), (23, [13, 1, 3, 4], [901, 1, -1, -700, -28]), (23, [11, 1, 3, 4], [888, 1, -1, -700, -28]), (23, [9, 1, 3, 4], [887, 1, -1, -700, -28]), (102, [11], [237142198758023568227473377297792835283496928595231875152809132048206089502588928, 13170]), (23, [11, 1, 3, 4], [888, 1, -1, -700, -28]), (23, [9, 1, 3, 4], [887, 1, -1, -700, -28]), (102, [9], [237142198758023568227473377297792835283496928595231875152809132048206089502588928, 13170]), (23, [9, 1, 3, 4], [887, 1, -1, -700, -28]), (7, [6, 7], [2]), (1, [6, 4, 5], [])], [], [(0, 0, 99999987, [])], [(20, [2, 15], [30, 0, 1, 1, 170, -1, 0, 0]), (23, [15, 1, 3, 4], [902, 1, -1, -700, -28])], [], [(6, 7, -4294967296, -1), (6, 4, 1, 1)])
theorem oo_Mo_writeDrawing_20 {kA : Nat → ClassId} : or_ok kA GG o_Mo_writeDrawing_20 := by
  intro A ta ws vs hD hth hl hk hds hf
  have hl : vs.length = 15 := hl
  have hk : ∀ q ∈ ([(0, (2, 0, 0, [150])), (1, (0, 0, 99965512, [])), (2, (2, 0, 0, [150])), (3, (0, 0, 47, [])), (4, (0, 1, 24, [])), (5, (0, 1, 1, [])), (6, (0, 2, 25, [])), (7, (0, 3, 26, [])), (9, (0, 0, 99999999, [])), (11, (0, 0, 99999987, [])), (13, (0, 0, 99999999, []))] : List (Nat × tv_T)), tv_ok ta q.2 (n_v vs q.1) := hk
  obtain ⟨t0, hk⟩ := List.forall_mem_cons.mp hk
  have t0 : tv_ok ta (2, 0, 0, [150]) (n_v vs 0) := t0
  have r0 : ta (v_ad (n_v vs 0)) = some 150 := tv_rg t0
  obtain ⟨t1, hk⟩ := List.forall_mem_cons.mp hk
  have t1 : tv_ok ta (0, 0, 99965512, []) (n_v vs 1) := t1
  have k1 : 0 ≤ v_iv (n_v vs 1) ∧ v_iv (n_v vs 1) ≤ 99965512 := tv_rng t1
  obtain ⟨t2, hk⟩ := List.forall_mem_cons.mp hk
  have t2 : tv_ok ta (2, 0, 0, [150]) (n_v vs 2) := t2
  have r2 : ta (v_ad (n_v vs 2)) = some 150 := tv_rg t2
  obtain ⟨t3, hk⟩ := List.forall_mem_cons.mp hk
  have t3 : tv_ok ta (0, 0, 47, []) (n_v vs 3) := t3
  have k3 : 0 ≤ v_iv (n_v vs 3) ∧ v_iv (n_v vs 3) ≤ 47 := tv_rng t3
  obtain ⟨t4, hk⟩ := List.forall_mem_cons.mp hk
  have t4 : tv_ok ta (0, 1, 24, []) (n_v vs 4) := t4
  have k4 : 1 ≤ v_iv (n_v vs 4) ∧ v_iv (n_v vs 4) ≤ 24 := tv_rng t4
  obtain ⟨t5, hk⟩ := List.forall_mem_cons.mp hk
  have t5 : tv_ok ta (0, 1, 1, []) (n_v vs 5) := t5
  have k5 : 1 ≤ v_iv (n_v vs 5) ∧ v_iv (n_v vs 5) ≤ 1 := tv_rng t5
  obtain ⟨t6, hk⟩ := List.forall_mem_cons.mp hk
  have t6 : tv_ok ta (0, 2, 25, []) (n_v vs 6) := t6
  have k6 : 2 ≤ v_iv (n_v vs 6) ∧ v_iv (n_v vs 6) ≤ 25 := tv_rng t6
  obtain ⟨t7, hk⟩ := List.forall_mem_cons.mp hk
  have t7 : tv_ok ta (0, 3, 26, []) (n_v vs 7) := t7
  have k7 : 3 ≤ v_iv (n_v vs 7) ∧ v_iv (n_v vs 7) ≤ 26 := tv_rng t7
  obtain ⟨t9, hk⟩ := List.forall_mem_cons.mp hk
  have t9 : tv_ok ta (0, 0, 99999999, []) (n_v vs 9) := t9
  have k9 : 0 ≤ v_iv (n_v vs 9) ∧ v_iv (n_v vs 9) ≤ 99999999 := tv_rng t9
  obtain ⟨t11, hk⟩ := List.forall_mem_cons.mp hk
  have t11 : tv_ok ta (0, 0, 99999987, []) (n_v vs 11) := t11
  have k11 : 0 ≤ v_iv (n_v vs 11) ∧ v_iv (n_v vs 11) ≤ 99999987 := tv_rng t11
  obtain ⟨t13, hk⟩ := List.forall_mem_cons.mp hk
  have t13 : tv_ok ta (0, 0, 99999999, []) (n_v vs 13) := t13
  have k13 : 0 ≤ v_iv (n_v vs 13) ∧ v_iv (n_v vs 13) ≤ 99999999 := tv_rng t13
  have hds : ∀ q ∈ ([(6, 7, -4294967296, -1), (6, 4, 1, 1)] : List of_T), n_iv vs q.2.1 + q.2.2.1 ≤ n_iv vs q.1 ∧ n_iv vs q.1 ≤ n_iv vs q.2.1 + q.2.2.2 := hds
  obtain ⟨d0, hds⟩ := List.forall_mem_cons.mp hds
  have d0 : v_iv (n_v vs 7) + (-4294967296) ≤ v_iv (n_v vs 6) ∧ v_iv (n_v vs 6) ≤ v_iv (n_v vs 7) + (-1) := d0
  obtain ⟨d1, hds⟩ := List.forall_mem_cons.mp hds
  have d1 : v_iv (n_v vs 4) + 1 ≤ v_iv (n_v vs 6) ∧ v_iv (n_v vs 6) ≤ v_iv (n_v vs 4) + 1 := d1
  have hf : fc_ok [(23, [13, 1, 3, 4], [901, 1, -1, -700, -28]), (23, [11, 1, 3, 4], [888, 1, -1, -700, -28]), (20, [4, 2, 3], [50, 1, 1, 1139, 1064, 0, 2, 1, 0, 4, 14, 3, 1, 64, 4, 7, 6, 2, 0, 48, 2, 1, 139, 1, 2, 0, 1]), (23, [9, 1, 3, 4], [887, 1, -1, -700, -28]), (20, [7, 2, 3], [50, 1, 1, 1139, 1064, 1, 2, 1, 0, 4, 14, 3, 1, 64, 4, 7, 6, 2, 0, 48, 2, 1, 139, 1, 2, 0, 2]), (24, [0, 2], []), (20, [2, 13], [30, 1, 1, 1, 170, -1, 0, 0]), (102, [13], [237142198758023568227473377297792835283496928595231875152809132048206089502588928, 13170]), (23, [13, 1, 3, 4], [901, 1, -1, -700, -28]), (23, [11, 1, 3, 4], [888, 1, -1, -700, -28]), (23, [9, 1, 3, 4], [887, 1, -1, -700, -28]), (102, [11], [237142198758023568227473377297792835283496928595231875152809132048206089502588928, 13170]), (23, [11, 1, 3, 4], [888, 1, -1, -700, -28]), (23, [9, 1, 3, 4], [887, 1, -1, -700, -28]), (102, [9], [237142198758023568227473377297792835283496928595231875152809132048206089502588928, 13170]), (23, [9, 1, 3, 4], [887, 1, -1, -700, -28]), (7, [6, 7], [2]), (1, [6, 4, 5], [])] ta ws vs := hf
  obtain ⟨f0, hf⟩ := fc_un (show (23 : Nat) < 100 from by decide) hf
  have f0 : 1 * v_iv (n_v vs 13) + ((-1) * v_iv (n_v vs 1) + ((-700) * v_iv (n_v vs 3) + ((-28) * v_iv (n_v vs 4) + 0))) ≤ 901 := f0
  obtain ⟨f1, hf⟩ := fc_un (show (23 : Nat) < 100 from by decide) hf
  have f1 : 1 * v_iv (n_v vs 11) + ((-1) * v_iv (n_v vs 1) + ((-700) * v_iv (n_v vs 3) + ((-28) * v_iv (n_v vs 4) + 0))) ≤ 888 := f1
  obtain ⟨f2, hf⟩ := fc_un (show (20 : Nat) < 100 from by decide) hf
  have f2 : v_iv (n_v vs 4) ≤ (w_ei ws (w_ar ws (n_v vs 2) 64) (((48 * w_fi ws (n_v vs 2) 139) + v_iv (n_v vs 3))) + 1) := f2
  obtain ⟨f3, hf⟩ := fc_un (show (23 : Nat) < 100 from by decide) hf
  have f3 : 1 * v_iv (n_v vs 9) + ((-1) * v_iv (n_v vs 1) + ((-700) * v_iv (n_v vs 3) + ((-28) * v_iv (n_v vs 4) + 0))) ≤ 887 := f3
  obtain ⟨f4, hf⟩ := fc_un (show (20 : Nat) < 100 from by decide) hf
  have f4 : v_iv (n_v vs 7) = (w_ei ws (w_ar ws (n_v vs 2) 64) (((48 * w_fi ws (n_v vs 2) 139) + v_iv (n_v vs 3))) + 2) := f4
  obtain ⟨f5, hf⟩ := fc_un (show (24 : Nat) < 100 from by decide) hf
  have f5 : n_v vs 0 = n_v vs 2 := f5
  obtain ⟨f6, hf⟩ := fc_un (show (20 : Nat) < 100 from by decide) hf
  have f6 : 1 * w_fi ws (n_v vs 2) 170 + ((-1) * v_iv (n_v vs 13) + 0) ≤ 1 := f6
  obtain ⟨ta1, w1, le1, ⟨_, s1⟩, hf⟩ := fc_us (show ¬ (102 : Nat) < 100 from by decide) hf
  obtain ⟨f8, hf⟩ := fc_un (show (23 : Nat) < 100 from by decide) hf
  have f8 : 1 * v_iv (n_v vs 13) + ((-1) * v_iv (n_v vs 1) + ((-700) * v_iv (n_v vs 3) + ((-28) * v_iv (n_v vs 4) + 0))) ≤ 901 := f8
  obtain ⟨f9, hf⟩ := fc_un (show (23 : Nat) < 100 from by decide) hf
  have f9 : 1 * v_iv (n_v vs 11) + ((-1) * v_iv (n_v vs 1) + ((-700) * v_iv (n_v vs 3) + ((-28) * v_iv (n_v vs 4) + 0))) ≤ 888 := f9
  obtain ⟨f10, hf⟩ := fc_un (show (23 : Nat) < 100 from by decide) hf
  have f10 : 1 * v_iv (n_v vs 9) + ((-1) * v_iv (n_v vs 1) + ((-700) * v_iv (n_v vs 3) + ((-28) * v_iv (n_v vs 4) + 0))) ≤ 887 := f10
  obtain ⟨ta2, w2, le2, ⟨_, s2⟩, hf⟩ := fc_us (show ¬ (102 : Nat) < 100 from by decide) hf
  obtain ⟨f12, hf⟩ := fc_un (show (23 : Nat) < 100 from by decide) hf
  have f12 : 1 * v_iv (n_v vs 11) + ((-1) * v_iv (n_v vs 1) + ((-700) * v_iv (n_v vs 3) + ((-28) * v_iv (n_v vs 4) + 0))) ≤ 888 := f12
  obtain ⟨f13, hf⟩ := fc_un (show (23 : Nat) < 100 from by decide) hf
  have f13 : 1 * v_iv (n_v vs 9) + ((-1) * v_iv (n_v vs 1) + ((-700) * v_iv (n_v vs 3) + ((-28) * v_iv (n_v vs 4) + 0))) ≤ 887 := f13
  obtain ⟨ta3, w3, le3, ⟨_, s3⟩, hf⟩ := fc_us (show ¬ (102 : Nat) < 100 from by decide) hf
  obtain ⟨f15, hf⟩ := fc_un (show (23 : Nat) < 100 from by decide) hf
  have f15 : 1 * v_iv (n_v vs 9) + ((-1) * v_iv (n_v vs 1) + ((-700) * v_iv (n_v vs 3) + ((-28) * v_iv (n_v vs 4) + 0))) ≤ 887 := f15
  obtain ⟨f16, hf⟩ := fc_un (show (7 : Nat) < 100 from by decide) hf
  have f16 : v_iv (n_v vs 6) < v_iv (n_v vs 7) := f16
  obtain ⟨f17, hf⟩ := fc_un (show (1 : Nat) < 100 from by decide) hf
  have f17 : v_iv (n_v vs 6) = v_iv (n_v vs 4) + v_iv (n_v vs 5) := f17
  have q2 : n_v vs 2 = n_v vs 0 := f5.symm
  rw [q2] at f2
  rw [q2] at f4
  rw [q2] at f6
  have cr_0_64 : ta (w_ar ws (n_v vs 0) 64) = some 189 := tv_rg (th_fd hD hth r0 (g := GG_150) rfl (k := 64) (t := (2, 0, 0, [189])) rfl rfl)
  have hK_0_64 : ∀ j : Int, 0 ≤ j → j < 192 → 0 ≤ w_ei ws (w_ar ws (n_v vs 0) 64) j ∧ w_ei ws (w_ar ws (n_v vs 0) 64) j ≤ 24 := fun j h0 h1 => th_el hD hth cr_0_64 (kd := 0) (n := 192) (m := 192) (lo := 0) (hi := 24) (rs := []) (L := []) rfl (by decide) (j := j.toNat) (by omega)
  have kz_0_139 : 0 ≤ w_fi ws (n_v vs 0) 139 ∧ w_fi ws (n_v vs 0) 139 ≤ 3 := tv_rng (th_fd hD hth r0 (g := GG_150) rfl (k := 139) (t := (0, 0, 3, [])) rfl rfl)
  have kz_0_170 : 0 ≤ w_fi ws (n_v vs 0) 170 ∧ w_fi ws (n_v vs 0) 170 ≤ 100000000 := tv_rng (th_fd hD hth r0 (g := GG_150) rfl (k := 170) (t := (0, 0, 100000000, [])) rfl rfl)
  have kv0 : 0 ≤ w_fi ws (n_v vs 0) 170 ∧ w_fi ws (n_v vs 0) 170 ≤ 100000000 := tv_rng (th_fd hD hth r0 (g := GG_150) rfl (k := 170) (t := (0, 0, 100000000, [])) rfl rfl)
  obtain ⟨x, ex, hx⟩ := iv_ex (ta := ta) (lo := 0) (hi := 99999987) (z := w_fi ws (n_v vs 0) 170) (by omega) (by omega) (by omega) (by omega)
  have ex2 : v_iv (Value.int x) = w_fi ws (n_v vs 0) 170 := ex
  have ex3 : 0 ≤ v_iv (Value.int x) ∧ v_iv (Value.int x) ≤ 99999987 := tv_rng hx
  have e_1 : n_v (vs ++ [Value.int x]) 1 = n_v vs 1 := n_v_old (by rw [hl]; decide)
  have e_2 : n_v (vs ++ [Value.int x]) 2 = n_v vs 2 := n_v_old (by rw [hl]; decide)
  have e_3 : n_v (vs ++ [Value.int x]) 3 = n_v vs 3 := n_v_old (by rw [hl]; decide)
  have e_4 : n_v (vs ++ [Value.int x]) 4 = n_v vs 4 := n_v_old (by rw [hl]; decide)
  have e_15 : n_v (vs ++ [Value.int x]) 15 = Value.int x := n_v_new hl
  have nf0 : fc_1 (20, [2, 15], [30, 0, 1, 1, 170, -1, 0, 0]) ws (vs ++ [Value.int x]) := by
    refine ⟨fun n hn => ?_, ?_⟩
    · have hn : n ∈ [2, 15] := hn
      rw [List.length_append, hl]
      simp only [List.mem_cons, List.not_mem_nil, or_false] at hn
      show n < 15 + 1; omega
    · show 1 * w_fi ws (n_v (vs ++ [Value.int x]) 2) 170 + ((-1) * v_iv (n_v (vs ++ [Value.int x]) 15) + 0) ≤ 0
      rw [e_2]
      rw [e_15]
      rw [q2]
      omega
  have nf1 : fc_1 (23, [15, 1, 3, 4], [902, 1, -1, -700, -28]) ws (vs ++ [Value.int x]) := by
    refine ⟨fun n hn => ?_, ?_⟩
    · have hn : n ∈ [15, 1, 3, 4] := hn
      rw [List.length_append, hl]
      simp only [List.mem_cons, List.not_mem_nil, or_false] at hn
      show n < 15 + 1; omega
    · show 1 * v_iv (n_v (vs ++ [Value.int x]) 15) + ((-1) * v_iv (n_v (vs ++ [Value.int x]) 1) + ((-700) * v_iv (n_v (vs ++ [Value.int x]) 3) + ((-28) * v_iv (n_v (vs ++ [Value.int x]) 4) + 0))) ≤ 902
      rw [e_1]
      rw [e_3]
      rw [e_4]
      rw [e_15]
      omega
  exact ⟨(fun _ h => (by cases h)), [Value.int x], ag_one hx, List.forall_mem_cons.mpr ⟨⟨show (20 : Nat) < 100 from by decide, nf0⟩, List.forall_mem_cons.mpr ⟨⟨show (23 : Nat) < 100 from by decide, nf1⟩, (fun _ h => (by cases h))⟩⟩, (fun _ h => (by cases h))⟩
def o_Mo_writeDrawing_21 : or_T := (93, 17, [(0, (2, 0, 0, [150])), (1, (0, 0, 99965512, [])), (2, (2, 0, 0, [150])), (3, (0, 0, 47, [])), (4, (0, 1, 24, [])), (5, (0, 1, 1, [])), (6, (0, 2, 25, [])), (7, (0, 3, 26, [])), (9, (0, 0, 99999999, [])), (11, (0, 0, 99999987, [])), (13, (0, 0, 99999999, [])), (15, (0, 0, 99999987, [])), (16, (0, 2, 25, []))], [(6, [16, 4], [1]), (23, [15, 1, 3, 4], [902, 1, -1, -700, -28]), (23, [13, 1, 3, 4], [901, 1, -1, -700, -28]), (23, [11, 1, 3, 4], [888, 1, -1, -700, -28]), (20, [4, 2, 3], [50, 1, 1, 1139, 1064, 0, 2, 1, 0, 4, 14, 3, 1, 64, 4, 7, 6, 2, 0, 48, 2, 1, 139, 1, 2, 0, 1]), (23, [9, 1, 3, 4], [887, 1, -1, -700, -28]), (20, [7, 2, 3], [50, 1, 1, 1139, 1064, 1, 2, 1, 0, 4, 14, 3, 1, 64, 4, 7, 6, 2, 0, 48, 2, 1, 139, 1, 2, 0, 2]), (24, [0, 2], []), (20, [2, 15], [30, 13, 1, 1, 170, -1, 0, 0]), (102, [15], [237142198758023568227473377297792835283496928595231875152809132048206089502588928, 13170]), (23, [15, 1, 3, 4], [902, 1, -1, -700, -28]), (23, [13, 1, 3, 4], [901, 1, -1, -700, -28]), (23, [11, 1, 3, 4], [888, 1, -1, -700, -28]), (23, [9, 1, 3, 4], [887, 1, -1, -700, -28]), (102, [13], [237142198758023568227473377297792835283496928595231875152809132048206089502588928, 13170]), (23, [13, 1, 3, 4], [901, 1, -1, -700, -28]), (23, [11, 1, 3, 4], [888, 1, -1, -700, -28]), (23, [9, 1, 3, 4], [887, 1, -1, -700, -28]), (102, [11], [237142198758023568227473377297792835283496928595231875152809132048206089502588928, 13170]), (23, [11, 1, 3, 4], [888, 1, -1, -700, -28]), (23, [9, 1, 3, 4], [887, 1, -1, -700, -28]), (102, [9], [237142198758023568227473377297792835283496928595231875152809132048206089502588928, 13170]), (23, [9, 1, 3, 4], [887, 1, -1, -700, -28]), (7, [6, 7], [2]), (1, [6, 4, 5], [])], [], [], [(20, [2, 1, 3, 16], [30, 887, 1, 1, 170, -1, 0, 0, -700, 0, 0, -28, 0, 0])], [], [(16, 4, 1, 1), (6, 7, -4294967296, -1), (6, 4, 1, 1)])
theorem oo_Mo_writeDrawing_21 {kA : Nat → ClassId} : or_ok kA GG o_Mo_writeDrawing_21 := by
  intro A ta ws vs hD hth hl hk hds hf
  have hl : vs.length = 17 := hl
  have hk : ∀ q ∈ ([(0, (2, 0, 0, [150])), (1, (0, 0, 99965512, [])), (2, (2, 0, 0, [150])), (3, (0, 0, 47, [])), (4, (0, 1, 24, [])), (5, (0, 1, 1, [])), (6, (0, 2, 25, [])), (7, (0, 3, 26, [])), (9, (0, 0, 99999999, [])), (11, (0, 0, 99999987, [])), (13, (0, 0, 99999999, [])), (15, (0, 0, 99999987, [])), (16, (0, 2, 25, []))] : List (Nat × tv_T)), tv_ok ta q.2 (n_v vs q.1) := hk
  obtain ⟨t0, hk⟩ := List.forall_mem_cons.mp hk
  have t0 : tv_ok ta (2, 0, 0, [150]) (n_v vs 0) := t0
  have r0 : ta (v_ad (n_v vs 0)) = some 150 := tv_rg t0
  obtain ⟨t1, hk⟩ := List.forall_mem_cons.mp hk
  have t1 : tv_ok ta (0, 0, 99965512, []) (n_v vs 1) := t1
  have k1 : 0 ≤ v_iv (n_v vs 1) ∧ v_iv (n_v vs 1) ≤ 99965512 := tv_rng t1
  obtain ⟨t2, hk⟩ := List.forall_mem_cons.mp hk
  have t2 : tv_ok ta (2, 0, 0, [150]) (n_v vs 2) := t2
  have r2 : ta (v_ad (n_v vs 2)) = some 150 := tv_rg t2
  obtain ⟨t3, hk⟩ := List.forall_mem_cons.mp hk
  have t3 : tv_ok ta (0, 0, 47, []) (n_v vs 3) := t3
  have k3 : 0 ≤ v_iv (n_v vs 3) ∧ v_iv (n_v vs 3) ≤ 47 := tv_rng t3
  obtain ⟨t4, hk⟩ := List.forall_mem_cons.mp hk
  have t4 : tv_ok ta (0, 1, 24, []) (n_v vs 4) := t4
  have k4 : 1 ≤ v_iv (n_v vs 4) ∧ v_iv (n_v vs 4) ≤ 24 := tv_rng t4
  obtain ⟨t5, hk⟩ := List.forall_mem_cons.mp hk
  have t5 : tv_ok ta (0, 1, 1, []) (n_v vs 5) := t5
  have k5 : 1 ≤ v_iv (n_v vs 5) ∧ v_iv (n_v vs 5) ≤ 1 := tv_rng t5
  obtain ⟨t6, hk⟩ := List.forall_mem_cons.mp hk
  have t6 : tv_ok ta (0, 2, 25, []) (n_v vs 6) := t6
  have k6 : 2 ≤ v_iv (n_v vs 6) ∧ v_iv (n_v vs 6) ≤ 25 := tv_rng t6
  obtain ⟨t7, hk⟩ := List.forall_mem_cons.mp hk
  have t7 : tv_ok ta (0, 3, 26, []) (n_v vs 7) := t7
  have k7 : 3 ≤ v_iv (n_v vs 7) ∧ v_iv (n_v vs 7) ≤ 26 := tv_rng t7
  obtain ⟨t9, hk⟩ := List.forall_mem_cons.mp hk
  have t9 : tv_ok ta (0, 0, 99999999, []) (n_v vs 9) := t9
  have k9 : 0 ≤ v_iv (n_v vs 9) ∧ v_iv (n_v vs 9) ≤ 99999999 := tv_rng t9
  obtain ⟨t11, hk⟩ := List.forall_mem_cons.mp hk
  have t11 : tv_ok ta (0, 0, 99999987, []) (n_v vs 11) := t11
  have k11 : 0 ≤ v_iv (n_v vs 11) ∧ v_iv (n_v vs 11) ≤ 99999987 := tv_rng t11
  obtain ⟨t13, hk⟩ := List.forall_mem_cons.mp hk
  have t13 : tv_ok ta (0, 0, 99999999, []) (n_v vs 13) := t13
  have k13 : 0 ≤ v_iv (n_v vs 13) ∧ v_iv (n_v vs 13) ≤ 99999999 := tv_rng t13
  obtain ⟨t15, hk⟩ := List.forall_mem_cons.mp hk
  have t15 : tv_ok ta (0, 0, 99999987, []) (n_v vs 15) := t15
  have k15 : 0 ≤ v_iv (n_v vs 15) ∧ v_iv (n_v vs 15) ≤ 99999987 := tv_rng t15
  obtain ⟨t16, hk⟩ := List.forall_mem_cons.mp hk
  have t16 : tv_ok ta (0, 2, 25, []) (n_v vs 16) := t16
  have k16 : 2 ≤ v_iv (n_v vs 16) ∧ v_iv (n_v vs 16) ≤ 25 := tv_rng t16
  have hds : ∀ q ∈ ([(16, 4, 1, 1), (6, 7, -4294967296, -1), (6, 4, 1, 1)] : List of_T), n_iv vs q.2.1 + q.2.2.1 ≤ n_iv vs q.1 ∧ n_iv vs q.1 ≤ n_iv vs q.2.1 + q.2.2.2 := hds
  obtain ⟨d0, hds⟩ := List.forall_mem_cons.mp hds
  have d0 : v_iv (n_v vs 4) + 1 ≤ v_iv (n_v vs 16) ∧ v_iv (n_v vs 16) ≤ v_iv (n_v vs 4) + 1 := d0
  obtain ⟨d1, hds⟩ := List.forall_mem_cons.mp hds
  have d1 : v_iv (n_v vs 7) + (-4294967296) ≤ v_iv (n_v vs 6) ∧ v_iv (n_v vs 6) ≤ v_iv (n_v vs 7) + (-1) := d1
  obtain ⟨d2, hds⟩ := List.forall_mem_cons.mp hds
  have d2 : v_iv (n_v vs 4) + 1 ≤ v_iv (n_v vs 6) ∧ v_iv (n_v vs 6) ≤ v_iv (n_v vs 4) + 1 := d2
  have hf : fc_ok [(6, [16, 4], [1]), (23, [15, 1, 3, 4], [902, 1, -1, -700, -28]), (23, [13, 1, 3, 4], [901, 1, -1, -700, -28]), (23, [11, 1, 3, 4], [888, 1, -1, -700, -28]), (20, [4, 2, 3], [50, 1, 1, 1139, 1064, 0, 2, 1, 0, 4, 14, 3, 1, 64, 4, 7, 6, 2, 0, 48, 2, 1, 139, 1, 2, 0, 1]), (23, [9, 1, 3, 4], [887, 1, -1, -700, -28]), (20, [7, 2, 3], [50, 1, 1, 1139, 1064, 1, 2, 1, 0, 4, 14, 3, 1, 64, 4, 7, 6, 2, 0, 48, 2, 1, 139, 1, 2, 0, 2]), (24, [0, 2], []), (20, [2, 15], [30, 13, 1, 1, 170, -1, 0, 0]), (102, [15], [237142198758023568227473377297792835283496928595231875152809132048206089502588928, 13170]), (23, [15, 1, 3, 4], [902, 1, -1, -700, -28]), (23, [13, 1, 3, 4], [901, 1, -1, -700, -28]), (23, [11, 1, 3, 4], [888, 1, -1, -700, -28]), (23, [9, 1, 3, 4], [887, 1, -1, -700, -28]), (102, [13], [237142198758023568227473377297792835283496928595231875152809132048206089502588928, 13170]), (23, [13, 1, 3, 4], [901, 1, -1, -700, -28]), (23, [11, 1, 3, 4], [888, 1, -1, -700, -28]), (23, [9, 1, 3, 4], [887, 1, -1, -700, -28]), (102, [11], [237142198758023568227473377297792835283496928595231875152809132048206089502588928, 13170]), (23, [11, 1, 3, 4], [888, 1, -1, -700, -28]), (23, [9, 1, 3, 4], [887, 1, -1, -700, -28]), (102, [9], [237142198758023568227473377297792835283496928595231875152809132048206089502588928, 13170]), (23, [9, 1, 3, 4], [887, 1, -1, -700, -28]), (7, [6, 7], [2]), (1, [6, 4, 5], [])] ta ws vs := hf
  obtain ⟨f0, hf⟩ := fc_un (show (6 : Nat) < 100 from by decide) hf
  have f0 : v_iv (n_v vs 16) = v_iv (n_v vs 4) + 1 := f0
  obtain ⟨f1, hf⟩ := fc_un (show (23 : Nat) < 100 from by decide) hf
  have f1 : 1 * v_iv (n_v vs 15) + ((-1) * v_iv (n_v vs 1) + ((-700) * v_iv (n_v vs 3) + ((-28) * v_iv (n_v vs 4) + 0))) ≤ 902 := f1
  obtain ⟨f2, hf⟩ := fc_un (show (23 : Nat) < 100 from by decide) hf
  have f2 : 1 * v_iv (n_v vs 13) + ((-1) * v_iv (n_v vs 1) + ((-700) * v_iv (n_v vs 3) + ((-28) * v_iv (n_v vs 4) + 0))) ≤ 901 := f2
  obtain ⟨f3, hf⟩ := fc_un (show (23 : Nat) < 100 from by decide) hf
  have f3 : 1 * v_iv (n_v vs 11) + ((-1) * v_iv (n_v vs 1) + ((-700) * v_iv (n_v vs 3) + ((-28) * v_iv (n_v vs 4) + 0))) ≤ 888 := f3
  obtain ⟨f4, hf⟩ := fc_un (show (20 : Nat) < 100 from by decide) hf
  have f4 : v_iv (n_v vs 4) ≤ (w_ei ws (w_ar ws (n_v vs 2) 64) (((48 * w_fi ws (n_v vs 2) 139) + v_iv (n_v vs 3))) + 1) := f4
  obtain ⟨f5, hf⟩ := fc_un (show (23 : Nat) < 100 from by decide) hf
  have f5 : 1 * v_iv (n_v vs 9) + ((-1) * v_iv (n_v vs 1) + ((-700) * v_iv (n_v vs 3) + ((-28) * v_iv (n_v vs 4) + 0))) ≤ 887 := f5
  obtain ⟨f6, hf⟩ := fc_un (show (20 : Nat) < 100 from by decide) hf
  have f6 : v_iv (n_v vs 7) = (w_ei ws (w_ar ws (n_v vs 2) 64) (((48 * w_fi ws (n_v vs 2) 139) + v_iv (n_v vs 3))) + 2) := f6
  obtain ⟨f7, hf⟩ := fc_un (show (24 : Nat) < 100 from by decide) hf
  have f7 : n_v vs 0 = n_v vs 2 := f7
  obtain ⟨f8, hf⟩ := fc_un (show (20 : Nat) < 100 from by decide) hf
  have f8 : 1 * w_fi ws (n_v vs 2) 170 + ((-1) * v_iv (n_v vs 15) + 0) ≤ 13 := f8
  obtain ⟨ta1, w1, le1, ⟨_, s1⟩, hf⟩ := fc_us (show ¬ (102 : Nat) < 100 from by decide) hf
  obtain ⟨f10, hf⟩ := fc_un (show (23 : Nat) < 100 from by decide) hf
  have f10 : 1 * v_iv (n_v vs 15) + ((-1) * v_iv (n_v vs 1) + ((-700) * v_iv (n_v vs 3) + ((-28) * v_iv (n_v vs 4) + 0))) ≤ 902 := f10
  obtain ⟨f11, hf⟩ := fc_un (show (23 : Nat) < 100 from by decide) hf
  have f11 : 1 * v_iv (n_v vs 13) + ((-1) * v_iv (n_v vs 1) + ((-700) * v_iv (n_v vs 3) + ((-28) * v_iv (n_v vs 4) + 0))) ≤ 901 := f11
  obtain ⟨f12, hf⟩ := fc_un (show (23 : Nat) < 100 from by decide) hf
  have f12 : 1 * v_iv (n_v vs 11) + ((-1) * v_iv (n_v vs 1) + ((-700) * v_iv (n_v vs 3) + ((-28) * v_iv (n_v vs 4) + 0))) ≤ 888 := f12
  obtain ⟨f13, hf⟩ := fc_un (show (23 : Nat) < 100 from by decide) hf
  have f13 : 1 * v_iv (n_v vs 9) + ((-1) * v_iv (n_v vs 1) + ((-700) * v_iv (n_v vs 3) + ((-28) * v_iv (n_v vs 4) + 0))) ≤ 887 := f13
  obtain ⟨ta2, w2, le2, ⟨_, s2⟩, hf⟩ := fc_us (show ¬ (102 : Nat) < 100 from by decide) hf
  obtain ⟨f15, hf⟩ := fc_un (show (23 : Nat) < 100 from by decide) hf
  have f15 : 1 * v_iv (n_v vs 13) + ((-1) * v_iv (n_v vs 1) + ((-700) * v_iv (n_v vs 3) + ((-28) * v_iv (n_v vs 4) + 0))) ≤ 901 := f15
  obtain ⟨f16, hf⟩ := fc_un (show (23 : Nat) < 100 from by decide) hf
  have f16 : 1 * v_iv (n_v vs 11) + ((-1) * v_iv (n_v vs 1) + ((-700) * v_iv (n_v vs 3) + ((-28) * v_iv (n_v vs 4) + 0))) ≤ 888 := f16
  obtain ⟨f17, hf⟩ := fc_un (show (23 : Nat) < 100 from by decide) hf
  have f17 : 1 * v_iv (n_v vs 9) + ((-1) * v_iv (n_v vs 1) + ((-700) * v_iv (n_v vs 3) + ((-28) * v_iv (n_v vs 4) + 0))) ≤ 887 := f17
  obtain ⟨ta3, w3, le3, ⟨_, s3⟩, hf⟩ := fc_us (show ¬ (102 : Nat) < 100 from by decide) hf
  obtain ⟨f19, hf⟩ := fc_un (show (23 : Nat) < 100 from by decide) hf
  have f19 : 1 * v_iv (n_v vs 11) + ((-1) * v_iv (n_v vs 1) + ((-700) * v_iv (n_v vs 3) + ((-28) * v_iv (n_v vs 4) + 0))) ≤ 888 := f19
  obtain ⟨f20, hf⟩ := fc_un (show (23 : Nat) < 100 from by decide) hf
  have f20 : 1 * v_iv (n_v vs 9) + ((-1) * v_iv (n_v vs 1) + ((-700) * v_iv (n_v vs 3) + ((-28) * v_iv (n_v vs 4) + 0))) ≤ 887 := f20
  obtain ⟨ta4, w4, le4, ⟨_, s4⟩, hf⟩ := fc_us (show ¬ (102 : Nat) < 100 from by decide) hf
  obtain ⟨f22, hf⟩ := fc_un (show (23 : Nat) < 100 from by decide) hf
  have f22 : 1 * v_iv (n_v vs 9) + ((-1) * v_iv (n_v vs 1) + ((-700) * v_iv (n_v vs 3) + ((-28) * v_iv (n_v vs 4) + 0))) ≤ 887 := f22
  obtain ⟨f23, hf⟩ := fc_un (show (7 : Nat) < 100 from by decide) hf
  have f23 : v_iv (n_v vs 6) < v_iv (n_v vs 7) := f23
  obtain ⟨f24, hf⟩ := fc_un (show (1 : Nat) < 100 from by decide) hf
  have f24 : v_iv (n_v vs 6) = v_iv (n_v vs 4) + v_iv (n_v vs 5) := f24
  have q2 : n_v vs 2 = n_v vs 0 := f7.symm
  rw [q2] at f4
  rw [q2] at f6
  rw [q2] at f8
  have cr_0_64 : ta (w_ar ws (n_v vs 0) 64) = some 189 := tv_rg (th_fd hD hth r0 (g := GG_150) rfl (k := 64) (t := (2, 0, 0, [189])) rfl rfl)
  have hK_0_64 : ∀ j : Int, 0 ≤ j → j < 192 → 0 ≤ w_ei ws (w_ar ws (n_v vs 0) 64) j ∧ w_ei ws (w_ar ws (n_v vs 0) 64) j ≤ 24 := fun j h0 h1 => th_el hD hth cr_0_64 (kd := 0) (n := 192) (m := 192) (lo := 0) (hi := 24) (rs := []) (L := []) rfl (by decide) (j := j.toNat) (by omega)
  have kz_0_139 : 0 ≤ w_fi ws (n_v vs 0) 139 ∧ w_fi ws (n_v vs 0) 139 ≤ 3 := tv_rng (th_fd hD hth r0 (g := GG_150) rfl (k := 139) (t := (0, 0, 3, [])) rfl rfl)
  have kz_0_170 : 0 ≤ w_fi ws (n_v vs 0) 170 ∧ w_fi ws (n_v vs 0) 170 ≤ 100000000 := tv_rng (th_fd hD hth r0 (g := GG_150) rfl (k := 170) (t := (0, 0, 100000000, [])) rfl rfl)
  have nf0 : fc_1 (20, [2, 1, 3, 16], [30, 887, 1, 1, 170, -1, 0, 0, -700, 0, 0, -28, 0, 0]) ws (vs) := by
    refine ⟨fun n hn => ?_, ?_⟩
    · have hn : n ∈ [2, 1, 3, 16] := hn
      rw [hl]
      simp only [List.mem_cons, List.not_mem_nil, or_false] at hn
      show n < 17; omega
    · show 1 * w_fi ws (n_v vs 2) 170 + ((-1) * v_iv (n_v vs 1) + ((-700) * v_iv (n_v vs 3) + ((-28) * v_iv (n_v vs 16) + 0))) ≤ 887
      rw [q2]
      omega
  refine ⟨(fun _ h => (by cases h)), [], trivial, ?_, (fun _ h => (by cases h))⟩
  rw [List.append_nil]
  exact List.forall_mem_cons.mpr ⟨⟨show (20 : Nat) < 100 from by decide, nf0⟩, (fun _ h => (by cases h))⟩
def n_Mo_writeDrawing_an : List an_T := [(2, [(0, (2, 0, 0, [150])), (1, (0, 0, 24, []))], [], (0, 0), [(0, 0, 99998), (1, 3, 24), (0, 0, 100000), (0, 0, 0), (0, 0, 0)], [], [], [(2, 0, 0, [150]), (0, 0, 99965512, [])], 0, [], [(20, [2, 1, 3], [30, 0, 1, 1, 170, -1, 0, 0, -37, 0, 0]), (24, [0, 2], [])]), (59, [(0, (2, 0, 0, [150])), (1, (0, 0, 48, []))], [], (0, 0), [(0, 0, 99941), (1, 3, 48), (0, 0, 100000), (0, 0, 0), (0, 0, 0)], [], [], [(2, 0, 0, [150]), (0, 0, 99965512, [])], 0, [], [(20, [2, 1, 3], [30, 888, 1, 1, 170, -1, 0, 0, -700, 0, 0]), (24, [0, 2], [])]), (93, [(0, (2, 0, 0, [150])), (1, (0, 0, 47, [])), (2, (0, 1, 25, []))], [], (0, 0), [(0, 0, 99941), (1, 3, 48), (0, 0, 99907), (1, 4, 25), (0, 0, 100000)], [], [], [(2, 0, 0, [150]), (0, 0, 99965512, [])], 0, [], [(20, [2, 1, 3, 4], [30, 887, 1, 1, 170, -1, 0, 0, -700, 0, 0, -28, 0, 0]), (24, [0, 2], [])])]
def t_Mo_writeDrawing_ct : ct_L := [(1, 394, e_Mo_tail), (1, 398, e_Mo_head), (1, 401, e_Mo_edges), (1, 475, e_Mo_nodes), (1, 1023, e_Mo_px), (1, 1026, e_Mo_pointsOf), (1, 1029, e_Mo_py), (1, 1085, e_Mo_ex), (1, 1088, e_Mo_ey), (1, 1293, e_Mo_writeNode), (1, 1298, e_Mo_writeNumber), (58, 1280, e_Mo_write1), (103, 1280, e_Mo_write1), (148, 1280, e_Mo_write1), (241, 1280, e_Mo_write1), (325, 1280, e_Mo_write1), (373, 1280, e_Mo_write1), (439, 1280, e_Mo_write1)]
set_option maxRecDepth 100000 in
theorem c_Mo_writeDrawing {l : Launch} {D : va_G} {kA : Nat → ClassId} (h_Mo_edges : ct_ok l D kA GG y_Mo_edges z_Mo_edges e_Mo_edges) (h_Mo_ex : ct_ok l D kA GG y_Mo_ex z_Mo_ex e_Mo_ex) (h_Mo_ey : ct_ok l D kA GG y_Mo_ey z_Mo_ey e_Mo_ey) (h_Mo_head : ct_ok l D kA GG y_Mo_head z_Mo_head e_Mo_head) (h_Mo_nodes : ct_ok l D kA GG y_Mo_nodes z_Mo_nodes e_Mo_nodes) (h_Mo_pointsOf : ct_ok l D kA GG y_Mo_pointsOf z_Mo_pointsOf e_Mo_pointsOf) (h_Mo_px : ct_ok l D kA GG y_Mo_px z_Mo_px e_Mo_px) (h_Mo_py : ct_ok l D kA GG y_Mo_py z_Mo_py e_Mo_py) (h_Mo_tail : ct_ok l D kA GG y_Mo_tail z_Mo_tail e_Mo_tail) (h_Mo_write1 : ct_ok l D kA GG y_Mo_write1 z_Mo_write1 e_Mo_write1) (h_Mo_writeNode : ct_ok l D kA GG y_Mo_writeNode z_Mo_writeNode e_Mo_writeNode) (h_Mo_writeNumber : ct_ok l D kA GG y_Mo_writeNumber z_Mo_writeNumber e_Mo_writeNumber) : ct_ok l D kA GG y_Mo_writeDrawing z_Mo_writeDrawing e_Mo_writeDrawing := chk_all_ok (FT := []) (PT := []) (CT := t_Mo_writeDrawing_ct) (KT := []) (NT := []) (AN := n_Mo_writeDrawing_an) (OT := [o_Mo_writeDrawing_0, o_Mo_writeDrawing_1, o_Mo_writeDrawing_2, o_Mo_writeDrawing_3, o_Mo_writeDrawing_4, o_Mo_writeDrawing_5, o_Mo_writeDrawing_6, o_Mo_writeDrawing_7, o_Mo_writeDrawing_8, o_Mo_writeDrawing_9, o_Mo_writeDrawing_10, o_Mo_writeDrawing_11, o_Mo_writeDrawing_12, o_Mo_writeDrawing_13, o_Mo_writeDrawing_14, o_Mo_writeDrawing_15, o_Mo_writeDrawing_16, o_Mo_writeDrawing_17, o_Mo_writeDrawing_18, o_Mo_writeDrawing_19, o_Mo_writeDrawing_20, o_Mo_writeDrawing_21]) 5 336 (List.forall_mem_cons.mpr ⟨oo_Mo_writeDrawing_0, List.forall_mem_cons.mpr ⟨oo_Mo_writeDrawing_1, List.forall_mem_cons.mpr ⟨oo_Mo_writeDrawing_2, List.forall_mem_cons.mpr ⟨oo_Mo_writeDrawing_3, List.forall_mem_cons.mpr ⟨oo_Mo_writeDrawing_4, List.forall_mem_cons.mpr ⟨oo_Mo_writeDrawing_5, List.forall_mem_cons.mpr ⟨oo_Mo_writeDrawing_6, List.forall_mem_cons.mpr ⟨oo_Mo_writeDrawing_7, List.forall_mem_cons.mpr ⟨oo_Mo_writeDrawing_8, List.forall_mem_cons.mpr ⟨oo_Mo_writeDrawing_9, List.forall_mem_cons.mpr ⟨oo_Mo_writeDrawing_10, List.forall_mem_cons.mpr ⟨oo_Mo_writeDrawing_11, List.forall_mem_cons.mpr ⟨oo_Mo_writeDrawing_12, List.forall_mem_cons.mpr ⟨oo_Mo_writeDrawing_13, List.forall_mem_cons.mpr ⟨oo_Mo_writeDrawing_14, List.forall_mem_cons.mpr ⟨oo_Mo_writeDrawing_15, List.forall_mem_cons.mpr ⟨oo_Mo_writeDrawing_16, List.forall_mem_cons.mpr ⟨oo_Mo_writeDrawing_17, List.forall_mem_cons.mpr ⟨oo_Mo_writeDrawing_18, List.forall_mem_cons.mpr ⟨oo_Mo_writeDrawing_19, List.forall_mem_cons.mpr ⟨oo_Mo_writeDrawing_20, List.forall_mem_cons.mpr ⟨oo_Mo_writeDrawing_21, List.forall_mem_nil _⟩⟩⟩⟩⟩⟩⟩⟩⟩⟩⟩⟩⟩⟩⟩⟩⟩⟩⟩⟩⟩⟩) (by decide +kernel) ⟨List.forall_mem_nil _, List.forall_mem_nil _, List.forall_mem_cons.mpr ⟨cl_virtual (y := y_Mo_tail) (ci := 13) rfl rfl ⟨_, _, rfl⟩ (by decide +kernel) h_Mo_tail wm_3045 wm_9 wm_3042 wm_3044 wv_13_8 ⟨by decide, by decide, by decide +kernel⟩ (by decide), List.forall_mem_cons.mpr ⟨cl_virtual (y := y_Mo_head) (ci := 13) rfl rfl ⟨_, _, rfl⟩ (by decide +kernel) h_Mo_head wm_3049 wm_9 wm_3046 wm_3048 wv_13_9 ⟨by decide, by decide, by decide +kernel⟩ (by decide), List.forall_mem_cons.mpr ⟨cl_virtual (y := y_Mo_edges) (ci := 13) rfl rfl ⟨_, _, rfl⟩ (by decide +kernel) h_Mo_edges wm_3037 wm_9 wm_3034 wm_3036 wv_13_6 ⟨by decide, by decide, by decide +kernel⟩ (by decide), List.forall_mem_cons.mpr ⟨cl_virtual (y := y_Mo_nodes) (ci := 13) rfl rfl ⟨_, _, rfl⟩ (by decide +kernel) h_Mo_nodes wm_3025 wm_9 wm_3022 wm_3024 wv_13_3 ⟨by decide, by decide, by decide +kernel⟩ (by decide), List.forall_mem_cons.mpr ⟨cl_virtual (y := y_Mo_px) (ci := 13) rfl rfl ⟨_, _, rfl⟩ (by decide +kernel) h_Mo_px wm_3675 wm_9 wm_3672 wm_3674 wv_21_14 ⟨by decide, by decide, by decide +kernel⟩ (by decide), List.forall_mem_cons.mpr ⟨cl_virtual (y := y_Mo_pointsOf) (ci := 13) rfl rfl ⟨_, _, rfl⟩ (by decide +kernel) h_Mo_pointsOf wm_3726 wm_9 wm_3723 wm_3725 wv_22_8 ⟨by decide, by decide, by decide +kernel⟩ (by decide), List.forall_mem_cons.mpr ⟨cl_virtual (y := y_Mo_py) (ci := 13) rfl rfl ⟨_, _, rfl⟩ (by decide +kernel) h_Mo_py wm_3679 wm_9 wm_3676 wm_3678 wv_21_15 ⟨by decide, by decide, by decide +kernel⟩ (by decide), List.forall_mem_cons.mpr ⟨cl_virtual (y := y_Mo_ex) (ci := 13) rfl rfl ⟨_, _, rfl⟩ (by decide +kernel) h_Mo_ex wm_3730 wm_9 wm_3727 wm_3729 wv_22_9 ⟨by decide, by decide, by decide +kernel⟩ (by decide), List.forall_mem_cons.mpr ⟨cl_virtual (y := y_Mo_ey) (ci := 13) rfl rfl ⟨_, _, rfl⟩ (by decide +kernel) h_Mo_ey wm_3734 wm_9 wm_3731 wm_3733 wv_22_10 ⟨by decide, by decide, by decide +kernel⟩ (by decide), List.forall_mem_cons.mpr ⟨cl_virtual (y := y_Mo_writeNode) (ci := 13) rfl rfl ⟨_, _, rfl⟩ (by decide +kernel) h_Mo_writeNode wm_3918 wm_9 wm_3915 wm_3917 wv_24_9 ⟨by decide, by decide, by decide +kernel⟩ (by decide), List.forall_mem_cons.mpr ⟨cl_virtual (y := y_Mo_writeNumber) (ci := 13) rfl rfl ⟨_, _, rfl⟩ (by decide +kernel) h_Mo_writeNumber wm_3927 wm_9 wm_3924 wm_3926 wv_24_11 ⟨by decide, by decide, by decide +kernel⟩ (by decide), List.forall_mem_cons.mpr ⟨cl_virtual (y := y_Mo_write1) (ci := 13) rfl rfl ⟨_, _, rfl⟩ (by decide +kernel) h_Mo_write1 wm_3914 wm_9 wm_3911 wm_3913 wv_24_8 ⟨by decide, by decide, by decide +kernel⟩ (by decide), List.forall_mem_cons.mpr ⟨cl_virtual (y := y_Mo_write1) (ci := 13) rfl rfl ⟨_, _, rfl⟩ (by decide +kernel) h_Mo_write1 wm_3914 wm_9 wm_3911 wm_3913 wv_24_8 ⟨by decide, by decide, by decide +kernel⟩ (by decide), List.forall_mem_cons.mpr ⟨cl_virtual (y := y_Mo_write1) (ci := 13) rfl rfl ⟨_, _, rfl⟩ (by decide +kernel) h_Mo_write1 wm_3914 wm_9 wm_3911 wm_3913 wv_24_8 ⟨by decide, by decide, by decide +kernel⟩ (by decide), List.forall_mem_cons.mpr ⟨cl_virtual (y := y_Mo_write1) (ci := 13) rfl rfl ⟨_, _, rfl⟩ (by decide +kernel) h_Mo_write1 wm_3914 wm_9 wm_3911 wm_3913 wv_24_8 ⟨by decide, by decide, by decide +kernel⟩ (by decide), List.forall_mem_cons.mpr ⟨cl_virtual (y := y_Mo_write1) (ci := 13) rfl rfl ⟨_, _, rfl⟩ (by decide +kernel) h_Mo_write1 wm_3914 wm_9 wm_3911 wm_3913 wv_24_8 ⟨by decide, by decide, by decide +kernel⟩ (by decide), List.forall_mem_cons.mpr ⟨cl_virtual (y := y_Mo_write1) (ci := 13) rfl rfl ⟨_, _, rfl⟩ (by decide +kernel) h_Mo_write1 wm_3914 wm_9 wm_3911 wm_3913 wv_24_8 ⟨by decide, by decide, by decide +kernel⟩ (by decide), List.forall_mem_cons.mpr ⟨cl_virtual (y := y_Mo_write1) (ci := 13) rfl rfl ⟨_, _, rfl⟩ (by decide +kernel) h_Mo_write1 wm_3914 wm_9 wm_3911 wm_3913 wv_24_8 ⟨by decide, by decide, by decide +kernel⟩ (by decide), List.forall_mem_nil _⟩⟩⟩⟩⟩⟩⟩⟩⟩⟩⟩⟩⟩⟩⟩⟩⟩⟩, List.forall_mem_nil _, List.forall_mem_nil _, GG_pl⟩ (by decide +kernel)
def o_Mo_meets_0 : or_T := (3, 5, [(0, (2, 0, 0, [150])), (1, (0, 0, 47, [])), (2, (0, 0, 24, [])), (3, (0, 0, 47, [])), (4, (0, 0, 24, []))], [(20, [2, 0, 1], [50, 1, 1, 1139, 1064, 0, 2, 1, 0, 3, 1, 64, 4, 7, 6, 2, 0, 48, 2, 1, 139, 1, 2]), (20, [4, 0, 3], [50, 1, 1, 1139, 1064, 0, 2, 1, 0, 3, 1, 64, 4, 7, 6, 2, 0, 48, 2, 1, 139, 1, 2])], [], [], [(20, [2, 0, 1], [50, 1, 1, 1139, 1064, 0, 2, 1, 0, 4, 14, 3, 1, 64, 4, 7, 6, 2, 0, 48, 2, 1, 139, 1, 2, 0, 1])], [], [])
theorem oo_Mo_meets_0 {kA : Nat → ClassId} : or_ok kA GG o_Mo_meets_0 := by
  intro A ta ws vs hD hth hl hk hds hf
  have hl : vs.length = 5 := hl
  have hk : ∀ q ∈ ([(0, (2, 0, 0, [150])), (1, (0, 0, 47, [])), (2, (0, 0, 24, [])), (3, (0, 0, 47, [])), (4, (0, 0, 24, []))] : List (Nat × tv_T)), tv_ok ta q.2 (n_v vs q.1) := hk
  obtain ⟨t0, hk⟩ := List.forall_mem_cons.mp hk
  have t0 : tv_ok ta (2, 0, 0, [150]) (n_v vs 0) := t0
  have r0 : ta (v_ad (n_v vs 0)) = some 150 := tv_rg t0
  obtain ⟨t1, hk⟩ := List.forall_mem_cons.mp hk
  have t1 : tv_ok ta (0, 0, 47, []) (n_v vs 1) := t1
  have k1 : 0 ≤ v_iv (n_v vs 1) ∧ v_iv (n_v vs 1) ≤ 47 := tv_rng t1
  obtain ⟨t2, hk⟩ := List.forall_mem_cons.mp hk
  have t2 : tv_ok ta (0, 0, 24, []) (n_v vs 2) := t2
  have k2 : 0 ≤ v_iv (n_v vs 2) ∧ v_iv (n_v vs 2) ≤ 24 := tv_rng t2
  obtain ⟨t3, hk⟩ := List.forall_mem_cons.mp hk
  have t3 : tv_ok ta (0, 0, 47, []) (n_v vs 3) := t3
  have k3 : 0 ≤ v_iv (n_v vs 3) ∧ v_iv (n_v vs 3) ≤ 47 := tv_rng t3
  obtain ⟨t4, hk⟩ := List.forall_mem_cons.mp hk
  have t4 : tv_ok ta (0, 0, 24, []) (n_v vs 4) := t4
  have k4 : 0 ≤ v_iv (n_v vs 4) ∧ v_iv (n_v vs 4) ≤ 24 := tv_rng t4
  have hf : fc_ok [(20, [2, 0, 1], [50, 1, 1, 1139, 1064, 0, 2, 1, 0, 3, 1, 64, 4, 7, 6, 2, 0, 48, 2, 1, 139, 1, 2]), (20, [4, 0, 3], [50, 1, 1, 1139, 1064, 0, 2, 1, 0, 3, 1, 64, 4, 7, 6, 2, 0, 48, 2, 1, 139, 1, 2])] ta ws vs := hf
  obtain ⟨f0, hf⟩ := fc_un (show (20 : Nat) < 100 from by decide) hf
  have f0 : v_iv (n_v vs 2) ≤ w_ei ws (w_ar ws (n_v vs 0) 64) (((48 * w_fi ws (n_v vs 0) 139) + v_iv (n_v vs 1))) := f0
  obtain ⟨f1, hf⟩ := fc_un (show (20 : Nat) < 100 from by decide) hf
  have f1 : v_iv (n_v vs 4) ≤ w_ei ws (w_ar ws (n_v vs 0) 64) (((48 * w_fi ws (n_v vs 0) 139) + v_iv (n_v vs 3))) := f1
  have cr_0_64 : ta (w_ar ws (n_v vs 0) 64) = some 189 := tv_rg (th_fd hD hth r0 (g := GG_150) rfl (k := 64) (t := (2, 0, 0, [189])) rfl rfl)
  have hK_0_64 : ∀ j : Int, 0 ≤ j → j < 192 → 0 ≤ w_ei ws (w_ar ws (n_v vs 0) 64) j ∧ w_ei ws (w_ar ws (n_v vs 0) 64) j ≤ 24 := fun j h0 h1 => th_el hD hth cr_0_64 (kd := 0) (n := 192) (m := 192) (lo := 0) (hi := 24) (rs := []) (L := []) rfl (by decide) (j := j.toNat) (by omega)
  have kz_0_139 : 0 ≤ w_fi ws (n_v vs 0) 139 ∧ w_fi ws (n_v vs 0) 139 ≤ 3 := tv_rng (th_fd hD hth r0 (g := GG_150) rfl (k := 139) (t := (0, 0, 3, [])) rfl rfl)
  have nf0 : fc_1 (20, [2, 0, 1], [50, 1, 1, 1139, 1064, 0, 2, 1, 0, 4, 14, 3, 1, 64, 4, 7, 6, 2, 0, 48, 2, 1, 139, 1, 2, 0, 1]) ws (vs) := by
    refine ⟨fun n hn => ?_, ?_⟩
    · have hn : n ∈ [2, 0, 1] := hn
      rw [hl]
      simp only [List.mem_cons, List.not_mem_nil, or_false] at hn
      show n < 5; omega
    · show v_iv (n_v vs 2) ≤ (w_ei ws (w_ar ws (n_v vs 0) 64) (((48 * w_fi ws (n_v vs 0) 139) + v_iv (n_v vs 1))) + 1)
      first | omega | grind
  refine ⟨(fun _ h => (by cases h)), [], trivial, ?_, (fun _ h => (by cases h))⟩
  rw [List.append_nil]
  exact List.forall_mem_cons.mpr ⟨⟨show (20 : Nat) < 100 from by decide, nf0⟩, (fun _ h => (by cases h))⟩
def o_Mo_meets_1 : or_T := (23, 11, [(0, (2, 0, 0, [150])), (1, (0, 0, 47, [])), (2, (0, 0, 24, [])), (3, (0, 0, 47, [])), (4, (0, 0, 24, [])), (9, (0, 1, 1, [])), (10, (0, 1, 25, []))], [(1, [10, 2, 9], []), (20, [2, 0, 1], [50, 1, 1, 1139, 1064, 0, 2, 1, 0, 4, 14, 3, 1, 64, 4, 7, 6, 2, 0, 48, 2, 1, 139, 1, 2, 0, 1]), (20, [2, 0, 1], [50, 1, 1, 1139, 1064, 0, 2, 1, 0, 3, 1, 64, 4, 7, 6, 2, 0, 48, 2, 1, 139, 1, 2]), (20, [4, 0, 3], [50, 1, 1, 1139, 1064, 0, 2, 1, 0, 3, 1, 64, 4, 7, 6, 2, 0, 48, 2, 1, 139, 1, 2])], [], [], [(20, [10, 0, 1], [50, 1, 1, 1139, 1064, 0, 2, 1, 0, 4, 14, 3, 1, 64, 4, 7, 6, 2, 0, 48, 2, 1, 139, 1, 2, 0, 1])], [], [(10, 2, 1, 1)])
theorem oo_Mo_meets_1 {kA : Nat → ClassId} : or_ok kA GG o_Mo_meets_1 := by
  intro A ta ws vs hD hth hl hk hds hf
  have hl : vs.length = 11 := hl
  have hk : ∀ q ∈ ([(0, (2, 0, 0, [150])), (1, (0, 0, 47, [])), (2, (0, 0, 24, [])), (3, (0, 0, 47, [])), (4, (0, 0, 24, [])), (9, (0, 1, 1, [])), (10, (0, 1, 25, []))] : List (Nat × tv_T)), tv_ok ta q.2 (n_v vs q.1) := hk
  obtain ⟨t0, hk⟩ := List.forall_mem_cons.mp hk
  have t0 : tv_ok ta (2, 0, 0, [150]) (n_v vs 0) := t0
  have r0 : ta (v_ad (n_v vs 0)) = some 150 := tv_rg t0
  obtain ⟨t1, hk⟩ := List.forall_mem_cons.mp hk
  have t1 : tv_ok ta (0, 0, 47, []) (n_v vs 1) := t1
  have k1 : 0 ≤ v_iv (n_v vs 1) ∧ v_iv (n_v vs 1) ≤ 47 := tv_rng t1
  obtain ⟨t2, hk⟩ := List.forall_mem_cons.mp hk
  have t2 : tv_ok ta (0, 0, 24, []) (n_v vs 2) := t2
  have k2 : 0 ≤ v_iv (n_v vs 2) ∧ v_iv (n_v vs 2) ≤ 24 := tv_rng t2
  obtain ⟨t3, hk⟩ := List.forall_mem_cons.mp hk
  have t3 : tv_ok ta (0, 0, 47, []) (n_v vs 3) := t3
  have k3 : 0 ≤ v_iv (n_v vs 3) ∧ v_iv (n_v vs 3) ≤ 47 := tv_rng t3
  obtain ⟨t4, hk⟩ := List.forall_mem_cons.mp hk
  have t4 : tv_ok ta (0, 0, 24, []) (n_v vs 4) := t4
  have k4 : 0 ≤ v_iv (n_v vs 4) ∧ v_iv (n_v vs 4) ≤ 24 := tv_rng t4
  obtain ⟨t9, hk⟩ := List.forall_mem_cons.mp hk
  have t9 : tv_ok ta (0, 1, 1, []) (n_v vs 9) := t9
  have k9 : 1 ≤ v_iv (n_v vs 9) ∧ v_iv (n_v vs 9) ≤ 1 := tv_rng t9
  obtain ⟨t10, hk⟩ := List.forall_mem_cons.mp hk
  have t10 : tv_ok ta (0, 1, 25, []) (n_v vs 10) := t10
  have k10 : 1 ≤ v_iv (n_v vs 10) ∧ v_iv (n_v vs 10) ≤ 25 := tv_rng t10
  have hds : ∀ q ∈ ([(10, 2, 1, 1)] : List of_T), n_iv vs q.2.1 + q.2.2.1 ≤ n_iv vs q.1 ∧ n_iv vs q.1 ≤ n_iv vs q.2.1 + q.2.2.2 := hds
  obtain ⟨d0, hds⟩ := List.forall_mem_cons.mp hds
  have d0 : v_iv (n_v vs 2) + 1 ≤ v_iv (n_v vs 10) ∧ v_iv (n_v vs 10) ≤ v_iv (n_v vs 2) + 1 := d0
  have hf : fc_ok [(1, [10, 2, 9], []), (20, [2, 0, 1], [50, 1, 1, 1139, 1064, 0, 2, 1, 0, 4, 14, 3, 1, 64, 4, 7, 6, 2, 0, 48, 2, 1, 139, 1, 2, 0, 1]), (20, [2, 0, 1], [50, 1, 1, 1139, 1064, 0, 2, 1, 0, 3, 1, 64, 4, 7, 6, 2, 0, 48, 2, 1, 139, 1, 2]), (20, [4, 0, 3], [50, 1, 1, 1139, 1064, 0, 2, 1, 0, 3, 1, 64, 4, 7, 6, 2, 0, 48, 2, 1, 139, 1, 2])] ta ws vs := hf
  obtain ⟨f0, hf⟩ := fc_un (show (1 : Nat) < 100 from by decide) hf
  have f0 : v_iv (n_v vs 10) = v_iv (n_v vs 2) + v_iv (n_v vs 9) := f0
  obtain ⟨f1, hf⟩ := fc_un (show (20 : Nat) < 100 from by decide) hf
  have f1 : v_iv (n_v vs 2) ≤ (w_ei ws (w_ar ws (n_v vs 0) 64) (((48 * w_fi ws (n_v vs 0) 139) + v_iv (n_v vs 1))) + 1) := f1
  obtain ⟨f2, hf⟩ := fc_un (show (20 : Nat) < 100 from by decide) hf
  have f2 : v_iv (n_v vs 2) ≤ w_ei ws (w_ar ws (n_v vs 0) 64) (((48 * w_fi ws (n_v vs 0) 139) + v_iv (n_v vs 1))) := f2
  obtain ⟨f3, hf⟩ := fc_un (show (20 : Nat) < 100 from by decide) hf
  have f3 : v_iv (n_v vs 4) ≤ w_ei ws (w_ar ws (n_v vs 0) 64) (((48 * w_fi ws (n_v vs 0) 139) + v_iv (n_v vs 3))) := f3
  have cr_0_64 : ta (w_ar ws (n_v vs 0) 64) = some 189 := tv_rg (th_fd hD hth r0 (g := GG_150) rfl (k := 64) (t := (2, 0, 0, [189])) rfl rfl)
  have hK_0_64 : ∀ j : Int, 0 ≤ j → j < 192 → 0 ≤ w_ei ws (w_ar ws (n_v vs 0) 64) j ∧ w_ei ws (w_ar ws (n_v vs 0) 64) j ≤ 24 := fun j h0 h1 => th_el hD hth cr_0_64 (kd := 0) (n := 192) (m := 192) (lo := 0) (hi := 24) (rs := []) (L := []) rfl (by decide) (j := j.toNat) (by omega)
  have kz_0_139 : 0 ≤ w_fi ws (n_v vs 0) 139 ∧ w_fi ws (n_v vs 0) 139 ≤ 3 := tv_rng (th_fd hD hth r0 (g := GG_150) rfl (k := 139) (t := (0, 0, 3, [])) rfl rfl)
  have nf0 : fc_1 (20, [10, 0, 1], [50, 1, 1, 1139, 1064, 0, 2, 1, 0, 4, 14, 3, 1, 64, 4, 7, 6, 2, 0, 48, 2, 1, 139, 1, 2, 0, 1]) ws (vs) := by
    refine ⟨fun n hn => ?_, ?_⟩
    · have hn : n ∈ [10, 0, 1] := hn
      rw [hl]
      simp only [List.mem_cons, List.not_mem_nil, or_false] at hn
      show n < 11; omega
    · show v_iv (n_v vs 10) ≤ (w_ei ws (w_ar ws (n_v vs 0) 64) (((48 * w_fi ws (n_v vs 0) 139) + v_iv (n_v vs 1))) + 1)
      first | omega | grind
  refine ⟨(fun _ h => (by cases h)), [], trivial, ?_, (fun _ h => (by cases h))⟩
  rw [List.append_nil]
  exact List.forall_mem_cons.mpr ⟨⟨show (20 : Nat) < 100 from by decide, nf0⟩, (fun _ h => (by cases h))⟩
def o_Mo_meets_2 : or_T := (34, 15, [(0, (2, 0, 0, [150])), (1, (0, 0, 47, [])), (2, (0, 0, 24, [])), (3, (0, 0, 47, [])), (4, (0, 0, 24, [])), (9, (0, 1, 1, [])), (10, (0, 1, 25, [])), (13, (0, 1, 1, [])), (14, (0, 1, 25, []))], [(1, [14, 2, 13], []), (20, [10, 0, 1], [50, 1, 1, 1139, 1064, 0, 2, 1, 0, 4, 14, 3, 1, 64, 4, 7, 6, 2, 0, 48, 2, 1, 139, 1, 2, 0, 1]), (1, [10, 2, 9], []), (20, [2, 0, 1], [50, 1, 1, 1139, 1064, 0, 2, 1, 0, 4, 14, 3, 1, 64, 4, 7, 6, 2, 0, 48, 2, 1, 139, 1, 2, 0, 1]), (20, [2, 0, 1], [50, 1, 1, 1139, 1064, 0, 2, 1, 0, 3, 1, 64, 4, 7, 6, 2, 0, 48, 2, 1, 139, 1, 2]), (20, [4, 0, 3], [50, 1, 1, 1139, 1064, 0, 2, 1, 0, 3, 1, 64, 4, 7, 6, 2, 0, 48, 2, 1, 139, 1, 2])], [], [], [(20, [14, 0, 1], [50, 1, 1, 1139, 1064, 0, 2, 1, 0, 4, 14, 3, 1, 64, 4, 7, 6, 2, 0, 48, 2, 1, 139, 1, 2, 0, 1])], [], [(14, 2, 1, 1), (10, 2, 1, 1)])
theorem oo_Mo_meets_2 {kA : Nat → ClassId} : or_ok kA GG o_Mo_meets_2 := by
  intro A ta ws vs hD hth hl hk hds hf
  have hl : vs.length = 15 := hl
  have hk : ∀ q ∈ ([(0, (2, 0, 0, [150])), (1, (0, 0, 47, [])), (2, (0, 0, 24, [])), (3, (0, 0, 47, [])), (4, (0, 0, 24, [])), (9, (0, 1, 1, [])), (10, (0, 1, 25, [])), (13, (0, 1, 1, [])), (14, (0, 1, 25, []))] : List (Nat × tv_T)), tv_ok ta q.2 (n_v vs q.1) := hk
  obtain ⟨t0, hk⟩ := List.forall_mem_cons.mp hk
  have t0 : tv_ok ta (2, 0, 0, [150]) (n_v vs 0) := t0
  have r0 : ta (v_ad (n_v vs 0)) = some 150 := tv_rg t0
  obtain ⟨t1, hk⟩ := List.forall_mem_cons.mp hk
  have t1 : tv_ok ta (0, 0, 47, []) (n_v vs 1) := t1
  have k1 : 0 ≤ v_iv (n_v vs 1) ∧ v_iv (n_v vs 1) ≤ 47 := tv_rng t1
  obtain ⟨t2, hk⟩ := List.forall_mem_cons.mp hk
  have t2 : tv_ok ta (0, 0, 24, []) (n_v vs 2) := t2
  have k2 : 0 ≤ v_iv (n_v vs 2) ∧ v_iv (n_v vs 2) ≤ 24 := tv_rng t2
  obtain ⟨t3, hk⟩ := List.forall_mem_cons.mp hk
  have t3 : tv_ok ta (0, 0, 47, []) (n_v vs 3) := t3
  have k3 : 0 ≤ v_iv (n_v vs 3) ∧ v_iv (n_v vs 3) ≤ 47 := tv_rng t3
  obtain ⟨t4, hk⟩ := List.forall_mem_cons.mp hk
  have t4 : tv_ok ta (0, 0, 24, []) (n_v vs 4) := t4
  have k4 : 0 ≤ v_iv (n_v vs 4) ∧ v_iv (n_v vs 4) ≤ 24 := tv_rng t4
  obtain ⟨t9, hk⟩ := List.forall_mem_cons.mp hk
  have t9 : tv_ok ta (0, 1, 1, []) (n_v vs 9) := t9
  have k9 : 1 ≤ v_iv (n_v vs 9) ∧ v_iv (n_v vs 9) ≤ 1 := tv_rng t9
  obtain ⟨t10, hk⟩ := List.forall_mem_cons.mp hk
  have t10 : tv_ok ta (0, 1, 25, []) (n_v vs 10) := t10
  have k10 : 1 ≤ v_iv (n_v vs 10) ∧ v_iv (n_v vs 10) ≤ 25 := tv_rng t10
  obtain ⟨t13, hk⟩ := List.forall_mem_cons.mp hk
  have t13 : tv_ok ta (0, 1, 1, []) (n_v vs 13) := t13
  have k13 : 1 ≤ v_iv (n_v vs 13) ∧ v_iv (n_v vs 13) ≤ 1 := tv_rng t13
  obtain ⟨t14, hk⟩ := List.forall_mem_cons.mp hk
  have t14 : tv_ok ta (0, 1, 25, []) (n_v vs 14) := t14
  have k14 : 1 ≤ v_iv (n_v vs 14) ∧ v_iv (n_v vs 14) ≤ 25 := tv_rng t14
  have hds : ∀ q ∈ ([(14, 2, 1, 1), (10, 2, 1, 1)] : List of_T), n_iv vs q.2.1 + q.2.2.1 ≤ n_iv vs q.1 ∧ n_iv vs q.1 ≤ n_iv vs q.2.1 + q.2.2.2 := hds
  obtain ⟨d0, hds⟩ := List.forall_mem_cons.mp hds
  have d0 : v_iv (n_v vs 2) + 1 ≤ v_iv (n_v vs 14) ∧ v_iv (n_v vs 14) ≤ v_iv (n_v vs 2) + 1 := d0
  obtain ⟨d1, hds⟩ := List.forall_mem_cons.mp hds
  have d1 : v_iv (n_v vs 2) + 1 ≤ v_iv (n_v vs 10) ∧ v_iv (n_v vs 10) ≤ v_iv (n_v vs 2) + 1 := d1
  have hf : fc_ok [(1, [14, 2, 13], []), (20, [10, 0, 1], [50, 1, 1, 1139, 1064, 0, 2, 1, 0, 4, 14, 3, 1, 64, 4, 7, 6, 2, 0, 48, 2, 1, 139, 1, 2, 0, 1]), (1, [10, 2, 9], []), (20, [2, 0, 1], [50, 1, 1, 1139, 1064, 0, 2, 1, 0, 4, 14, 3, 1, 64, 4, 7, 6, 2, 0, 48, 2, 1, 139, 1, 2, 0, 1]), (20, [2, 0, 1], [50, 1, 1, 1139, 1064, 0, 2, 1, 0, 3, 1, 64, 4, 7, 6, 2, 0, 48, 2, 1, 139, 1, 2]), (20, [4, 0, 3], [50, 1, 1, 1139, 1064, 0, 2, 1, 0, 3, 1, 64, 4, 7, 6, 2, 0, 48, 2, 1, 139, 1, 2])] ta ws vs := hf
  obtain ⟨f0, hf⟩ := fc_un (show (1 : Nat) < 100 from by decide) hf
  have f0 : v_iv (n_v vs 14) = v_iv (n_v vs 2) + v_iv (n_v vs 13) := f0
  obtain ⟨f1, hf⟩ := fc_un (show (20 : Nat) < 100 from by decide) hf
  have f1 : v_iv (n_v vs 10) ≤ (w_ei ws (w_ar ws (n_v vs 0) 64) (((48 * w_fi ws (n_v vs 0) 139) + v_iv (n_v vs 1))) + 1) := f1
  obtain ⟨f2, hf⟩ := fc_un (show (1 : Nat) < 100 from by decide) hf
  have f2 : v_iv (n_v vs 10) = v_iv (n_v vs 2) + v_iv (n_v vs 9) := f2
  obtain ⟨f3, hf⟩ := fc_un (show (20 : Nat) < 100 from by decide) hf
  have f3 : v_iv (n_v vs 2) ≤ (w_ei ws (w_ar ws (n_v vs 0) 64) (((48 * w_fi ws (n_v vs 0) 139) + v_iv (n_v vs 1))) + 1) := f3
  obtain ⟨f4, hf⟩ := fc_un (show (20 : Nat) < 100 from by decide) hf
  have f4 : v_iv (n_v vs 2) ≤ w_ei ws (w_ar ws (n_v vs 0) 64) (((48 * w_fi ws (n_v vs 0) 139) + v_iv (n_v vs 1))) := f4
  obtain ⟨f5, hf⟩ := fc_un (show (20 : Nat) < 100 from by decide) hf
  have f5 : v_iv (n_v vs 4) ≤ w_ei ws (w_ar ws (n_v vs 0) 64) (((48 * w_fi ws (n_v vs 0) 139) + v_iv (n_v vs 3))) := f5
  have cr_0_64 : ta (w_ar ws (n_v vs 0) 64) = some 189 := tv_rg (th_fd hD hth r0 (g := GG_150) rfl (k := 64) (t := (2, 0, 0, [189])) rfl rfl)
  have hK_0_64 : ∀ j : Int, 0 ≤ j → j < 192 → 0 ≤ w_ei ws (w_ar ws (n_v vs 0) 64) j ∧ w_ei ws (w_ar ws (n_v vs 0) 64) j ≤ 24 := fun j h0 h1 => th_el hD hth cr_0_64 (kd := 0) (n := 192) (m := 192) (lo := 0) (hi := 24) (rs := []) (L := []) rfl (by decide) (j := j.toNat) (by omega)
  have kz_0_139 : 0 ≤ w_fi ws (n_v vs 0) 139 ∧ w_fi ws (n_v vs 0) 139 ≤ 3 := tv_rng (th_fd hD hth r0 (g := GG_150) rfl (k := 139) (t := (0, 0, 3, [])) rfl rfl)
  have nf0 : fc_1 (20, [14, 0, 1], [50, 1, 1, 1139, 1064, 0, 2, 1, 0, 4, 14, 3, 1, 64, 4, 7, 6, 2, 0, 48, 2, 1, 139, 1, 2, 0, 1]) ws (vs) := by
    refine ⟨fun n hn => ?_, ?_⟩
    · have hn : n ∈ [14, 0, 1] := hn
      rw [hl]
      simp only [List.mem_cons, List.not_mem_nil, or_false] at hn
      show n < 15; omega
    · show v_iv (n_v vs 14) ≤ (w_ei ws (w_ar ws (n_v vs 0) 64) (((48 * w_fi ws (n_v vs 0) 139) + v_iv (n_v vs 1))) + 1)
      first | omega | grind
  refine ⟨(fun _ h => (by cases h)), [], trivial, ?_, (fun _ h => (by cases h))⟩
  rw [List.append_nil]
  exact List.forall_mem_cons.mpr ⟨⟨show (20 : Nat) < 100 from by decide, nf0⟩, (fun _ h => (by cases h))⟩
def o_Mo_meets_3 : or_T := (44, 17, [(0, (2, 0, 0, [150])), (1, (0, 0, 47, [])), (2, (0, 0, 24, [])), (3, (0, 0, 47, [])), (4, (0, 0, 24, [])), (9, (0, 1, 1, [])), (10, (0, 1, 25, [])), (13, (0, 1, 1, [])), (14, (0, 1, 25, []))], [(20, [14, 0, 1], [50, 1, 1, 1139, 1064, 0, 2, 1, 0, 4, 14, 3, 1, 64, 4, 7, 6, 2, 0, 48, 2, 1, 139, 1, 2, 0, 1]), (1, [14, 2, 13], []), (20, [10, 0, 1], [50, 1, 1, 1139, 1064, 0, 2, 1, 0, 4, 14, 3, 1, 64, 4, 7, 6, 2, 0, 48, 2, 1, 139, 1, 2, 0, 1]), (1, [10, 2, 9], []), (20, [2, 0, 1], [50, 1, 1, 1139, 1064, 0, 2, 1, 0, 4, 14, 3, 1, 64, 4, 7, 6, 2, 0, 48, 2, 1, 139, 1, 2, 0, 1]), (20, [2, 0, 1], [50, 1, 1, 1139, 1064, 0, 2, 1, 0, 3, 1, 64, 4, 7, 6, 2, 0, 48, 2, 1, 139, 1, 2]), (20, [4, 0, 3], [50, 1, 1, 1139, 1064, 0, 2, 1, 0, 3, 1, 64, 4, 7, 6, 2, 0, 48, 2, 1, 139, 1, 2])], [], [], [(20, [4, 0, 3], [50, 1, 1, 1139, 1064, 0, 2, 1, 0, 4, 14, 3, 1, 64, 4, 7, 6, 2, 0, 48, 2, 1, 139, 1, 2, 0, 1])], [], [(14, 2, 1, 1), (10, 2, 1, 1)])
theorem oo_Mo_meets_3 {kA : Nat → ClassId} : or_ok kA GG o_Mo_meets_3 := by
  intro A ta ws vs hD hth hl hk hds hf
  have hl : vs.length = 17 := hl
  have hk : ∀ q ∈ ([(0, (2, 0, 0, [150])), (1, (0, 0, 47, [])), (2, (0, 0, 24, [])), (3, (0, 0, 47, [])), (4, (0, 0, 24, [])), (9, (0, 1, 1, [])), (10, (0, 1, 25, [])), (13, (0, 1, 1, [])), (14, (0, 1, 25, []))] : List (Nat × tv_T)), tv_ok ta q.2 (n_v vs q.1) := hk
  obtain ⟨t0, hk⟩ := List.forall_mem_cons.mp hk
  have t0 : tv_ok ta (2, 0, 0, [150]) (n_v vs 0) := t0
  have r0 : ta (v_ad (n_v vs 0)) = some 150 := tv_rg t0
  obtain ⟨t1, hk⟩ := List.forall_mem_cons.mp hk
  have t1 : tv_ok ta (0, 0, 47, []) (n_v vs 1) := t1
  have k1 : 0 ≤ v_iv (n_v vs 1) ∧ v_iv (n_v vs 1) ≤ 47 := tv_rng t1
  obtain ⟨t2, hk⟩ := List.forall_mem_cons.mp hk
  have t2 : tv_ok ta (0, 0, 24, []) (n_v vs 2) := t2
  have k2 : 0 ≤ v_iv (n_v vs 2) ∧ v_iv (n_v vs 2) ≤ 24 := tv_rng t2
  obtain ⟨t3, hk⟩ := List.forall_mem_cons.mp hk
  have t3 : tv_ok ta (0, 0, 47, []) (n_v vs 3) := t3
  have k3 : 0 ≤ v_iv (n_v vs 3) ∧ v_iv (n_v vs 3) ≤ 47 := tv_rng t3
  obtain ⟨t4, hk⟩ := List.forall_mem_cons.mp hk
  have t4 : tv_ok ta (0, 0, 24, []) (n_v vs 4) := t4
  have k4 : 0 ≤ v_iv (n_v vs 4) ∧ v_iv (n_v vs 4) ≤ 24 := tv_rng t4
  obtain ⟨t9, hk⟩ := List.forall_mem_cons.mp hk
  have t9 : tv_ok ta (0, 1, 1, []) (n_v vs 9) := t9
  have k9 : 1 ≤ v_iv (n_v vs 9) ∧ v_iv (n_v vs 9) ≤ 1 := tv_rng t9
  obtain ⟨t10, hk⟩ := List.forall_mem_cons.mp hk
  have t10 : tv_ok ta (0, 1, 25, []) (n_v vs 10) := t10
  have k10 : 1 ≤ v_iv (n_v vs 10) ∧ v_iv (n_v vs 10) ≤ 25 := tv_rng t10
  obtain ⟨t13, hk⟩ := List.forall_mem_cons.mp hk
  have t13 : tv_ok ta (0, 1, 1, []) (n_v vs 13) := t13
  have k13 : 1 ≤ v_iv (n_v vs 13) ∧ v_iv (n_v vs 13) ≤ 1 := tv_rng t13
  obtain ⟨t14, hk⟩ := List.forall_mem_cons.mp hk
  have t14 : tv_ok ta (0, 1, 25, []) (n_v vs 14) := t14
  have k14 : 1 ≤ v_iv (n_v vs 14) ∧ v_iv (n_v vs 14) ≤ 25 := tv_rng t14
  have hds : ∀ q ∈ ([(14, 2, 1, 1), (10, 2, 1, 1)] : List of_T), n_iv vs q.2.1 + q.2.2.1 ≤ n_iv vs q.1 ∧ n_iv vs q.1 ≤ n_iv vs q.2.1 + q.2.2.2 := hds
  obtain ⟨d0, hds⟩ := List.forall_mem_cons.mp hds
  have d0 : v_iv (n_v vs 2) + 1 ≤ v_iv (n_v vs 14) ∧ v_iv (n_v vs 14) ≤ v_iv (n_v vs 2) + 1 := d0
  obtain ⟨d1, hds⟩ := List.forall_mem_cons.mp hds
  have d1 : v_iv (n_v vs 2) + 1 ≤ v_iv (n_v vs 10) ∧ v_iv (n_v vs 10) ≤ v_iv (n_v vs 2) + 1 := d1
  have hf : fc_ok [(20, [14, 0, 1], [50, 1, 1, 1139, 1064, 0, 2, 1, 0, 4, 14, 3, 1, 64, 4, 7, 6, 2, 0, 48, 2, 1, 139, 1, 2, 0, 1]), (1, [14, 2, 13], []), (20, [10, 0, 1], [50, 1, 1, 1139, 1064, 0, 2, 1, 0, 4, 14, 3, 1, 64, 4, 7, 6, 2, 0, 48, 2, 1, 139, 1, 2, 0, 1]), (1, [10, 2, 9], []), (20, [2, 0, 1], [50, 1, 1, 1139, 1064, 0, 2, 1, 0, 4, 14, 3, 1, 64, 4, 7, 6, 2, 0, 48, 2, 1, 139, 1, 2, 0, 1]), (20, [2, 0, 1], [50, 1, 1, 1139, 1064, 0, 2, 1, 0, 3, 1, 64, 4, 7, 6, 2, 0, 48, 2, 1, 139, 1, 2]), (20, [4, 0, 3], [50, 1, 1, 1139, 1064, 0, 2, 1, 0, 3, 1, 64, 4, 7, 6, 2, 0, 48, 2, 1, 139, 1, 2])] ta ws vs := hf
  obtain ⟨f0, hf⟩ := fc_un (show (20 : Nat) < 100 from by decide) hf
  have f0 : v_iv (n_v vs 14) ≤ (w_ei ws (w_ar ws (n_v vs 0) 64) (((48 * w_fi ws (n_v vs 0) 139) + v_iv (n_v vs 1))) + 1) := f0
  obtain ⟨f1, hf⟩ := fc_un (show (1 : Nat) < 100 from by decide) hf
  have f1 : v_iv (n_v vs 14) = v_iv (n_v vs 2) + v_iv (n_v vs 13) := f1
  obtain ⟨f2, hf⟩ := fc_un (show (20 : Nat) < 100 from by decide) hf
  have f2 : v_iv (n_v vs 10) ≤ (w_ei ws (w_ar ws (n_v vs 0) 64) (((48 * w_fi ws (n_v vs 0) 139) + v_iv (n_v vs 1))) + 1) := f2
  obtain ⟨f3, hf⟩ := fc_un (show (1 : Nat) < 100 from by decide) hf
  have f3 : v_iv (n_v vs 10) = v_iv (n_v vs 2) + v_iv (n_v vs 9) := f3
  obtain ⟨f4, hf⟩ := fc_un (show (20 : Nat) < 100 from by decide) hf
  have f4 : v_iv (n_v vs 2) ≤ (w_ei ws (w_ar ws (n_v vs 0) 64) (((48 * w_fi ws (n_v vs 0) 139) + v_iv (n_v vs 1))) + 1) := f4
  obtain ⟨f5, hf⟩ := fc_un (show (20 : Nat) < 100 from by decide) hf
  have f5 : v_iv (n_v vs 2) ≤ w_ei ws (w_ar ws (n_v vs 0) 64) (((48 * w_fi ws (n_v vs 0) 139) + v_iv (n_v vs 1))) := f5
  obtain ⟨f6, hf⟩ := fc_un (show (20 : Nat) < 100 from by decide) hf
  have f6 : v_iv (n_v vs 4) ≤ w_ei ws (w_ar ws (n_v vs 0) 64) (((48 * w_fi ws (n_v vs 0) 139) + v_iv (n_v vs 3))) := f6
  have cr_0_64 : ta (w_ar ws (n_v vs 0) 64) = some 189 := tv_rg (th_fd hD hth r0 (g := GG_150) rfl (k := 64) (t := (2, 0, 0, [189])) rfl rfl)
  have hK_0_64 : ∀ j : Int, 0 ≤ j → j < 192 → 0 ≤ w_ei ws (w_ar ws (n_v vs 0) 64) j ∧ w_ei ws (w_ar ws (n_v vs 0) 64) j ≤ 24 := fun j h0 h1 => th_el hD hth cr_0_64 (kd := 0) (n := 192) (m := 192) (lo := 0) (hi := 24) (rs := []) (L := []) rfl (by decide) (j := j.toNat) (by omega)
  have kz_0_139 : 0 ≤ w_fi ws (n_v vs 0) 139 ∧ w_fi ws (n_v vs 0) 139 ≤ 3 := tv_rng (th_fd hD hth r0 (g := GG_150) rfl (k := 139) (t := (0, 0, 3, [])) rfl rfl)
  have nf0 : fc_1 (20, [4, 0, 3], [50, 1, 1, 1139, 1064, 0, 2, 1, 0, 4, 14, 3, 1, 64, 4, 7, 6, 2, 0, 48, 2, 1, 139, 1, 2, 0, 1]) ws (vs) := by
    refine ⟨fun n hn => ?_, ?_⟩
    · have hn : n ∈ [4, 0, 3] := hn
      rw [hl]
      simp only [List.mem_cons, List.not_mem_nil, or_false] at hn
      show n < 17; omega
    · show v_iv (n_v vs 4) ≤ (w_ei ws (w_ar ws (n_v vs 0) 64) (((48 * w_fi ws (n_v vs 0) 139) + v_iv (n_v vs 3))) + 1)
      first | omega | grind
  refine ⟨(fun _ h => (by cases h)), [], trivial, ?_, (fun _ h => (by cases h))⟩
  rw [List.append_nil]
  exact List.forall_mem_cons.mpr ⟨⟨show (20 : Nat) < 100 from by decide, nf0⟩, (fun _ h => (by cases h))⟩
def o_Mo_meets_4 : or_T := (66, 23, [(0, (2, 0, 0, [150])), (1, (0, 0, 47, [])), (2, (0, 0, 24, [])), (3, (0, 0, 47, [])), (4, (0, 0, 24, [])), (9, (0, 1, 1, [])), (10, (0, 1, 25, [])), (13, (0, 1, 1, [])), (14, (0, 1, 25, [])), (21, (0, 1, 1, [])), (22, (0, 1, 25, []))], [(1, [22, 4, 21], []), (20, [4, 0, 3], [50, 1, 1, 1139, 1064, 0, 2, 1, 0, 4, 14, 3, 1, 64, 4, 7, 6, 2, 0, 48, 2, 1, 139, 1, 2, 0, 1]), (20, [14, 0, 1], [50, 1, 1, 1139, 1064, 0, 2, 1, 0, 4, 14, 3, 1, 64, 4, 7, 6, 2, 0, 48, 2, 1, 139, 1, 2, 0, 1]), (1, [14, 2, 13], []), (20, [10, 0, 1], [50, 1, 1, 1139, 1064, 0, 2, 1, 0, 4, 14, 3, 1, 64, 4, 7, 6, 2, 0, 48, 2, 1, 139, 1, 2, 0, 1]), (1, [10, 2, 9], []), (20, [2, 0, 1], [50, 1, 1, 1139, 1064, 0, 2, 1, 0, 4, 14, 3, 1, 64, 4, 7, 6, 2, 0, 48, 2, 1, 139, 1, 2, 0, 1]), (20, [2, 0, 1], [50, 1, 1, 1139, 1064, 0, 2, 1, 0, 3, 1, 64, 4, 7, 6, 2, 0, 48, 2, 1, 139, 1, 2]), (20, [4, 0, 3], [50, 1, 1, 1139, 1064, 0, 2, 1, 0, 3, 1, 64, 4, 7, 6, 2, 0, 48, 2, 1, 139, 1, 2])], [], [], [(20, [22, 0, 3], [50, 1, 1, 1139, 1064, 0, 2, 1, 0, 4, 14, 3, 1, 64, 4, 7, 6, 2, 0, 48, 2, 1, 139, 1, 2, 0, 1])], [], [(22, 4, 1, 1), (14, 2, 1, 1), (10, 2, 1, 1)])
theorem oo_Mo_meets_4 {kA : Nat → ClassId} : or_ok kA GG o_Mo_meets_4 := by
  intro A ta ws vs hD hth hl hk hds hf
  have hl : vs.length = 23 := hl
  have hk : ∀ q ∈ ([(0, (2, 0, 0, [150])), (1, (0, 0, 47, [])), (2, (0, 0, 24, [])), (3, (0, 0, 47, [])), (4, (0, 0, 24, [])), (9, (0, 1, 1, [])), (10, (0, 1, 25, [])), (13, (0, 1, 1, [])), (14, (0, 1, 25, [])), (21, (0, 1, 1, [])), (22, (0, 1, 25, []))] : List (Nat × tv_T)), tv_ok ta q.2 (n_v vs q.1) := hk
  obtain ⟨t0, hk⟩ := List.forall_mem_cons.mp hk
  have t0 : tv_ok ta (2, 0, 0, [150]) (n_v vs 0) := t0
  have r0 : ta (v_ad (n_v vs 0)) = some 150 := tv_rg t0
  obtain ⟨t1, hk⟩ := List.forall_mem_cons.mp hk
  have t1 : tv_ok ta (0, 0, 47, []) (n_v vs 1) := t1
  have k1 : 0 ≤ v_iv (n_v vs 1) ∧ v_iv (n_v vs 1) ≤ 47 := tv_rng t1
  obtain ⟨t2, hk⟩ := List.forall_mem_cons.mp hk
  have t2 : tv_ok ta (0, 0, 24, []) (n_v vs 2) := t2
  have k2 : 0 ≤ v_iv (n_v vs 2) ∧ v_iv (n_v vs 2) ≤ 24 := tv_rng t2
  obtain ⟨t3, hk⟩ := List.forall_mem_cons.mp hk
  have t3 : tv_ok ta (0, 0, 47, []) (n_v vs 3) := t3
  have k3 : 0 ≤ v_iv (n_v vs 3) ∧ v_iv (n_v vs 3) ≤ 47 := tv_rng t3
  obtain ⟨t4, hk⟩ := List.forall_mem_cons.mp hk
  have t4 : tv_ok ta (0, 0, 24, []) (n_v vs 4) := t4
  have k4 : 0 ≤ v_iv (n_v vs 4) ∧ v_iv (n_v vs 4) ≤ 24 := tv_rng t4
  obtain ⟨t9, hk⟩ := List.forall_mem_cons.mp hk
  have t9 : tv_ok ta (0, 1, 1, []) (n_v vs 9) := t9
  have k9 : 1 ≤ v_iv (n_v vs 9) ∧ v_iv (n_v vs 9) ≤ 1 := tv_rng t9
  obtain ⟨t10, hk⟩ := List.forall_mem_cons.mp hk
  have t10 : tv_ok ta (0, 1, 25, []) (n_v vs 10) := t10
  have k10 : 1 ≤ v_iv (n_v vs 10) ∧ v_iv (n_v vs 10) ≤ 25 := tv_rng t10
  obtain ⟨t13, hk⟩ := List.forall_mem_cons.mp hk
  have t13 : tv_ok ta (0, 1, 1, []) (n_v vs 13) := t13
  have k13 : 1 ≤ v_iv (n_v vs 13) ∧ v_iv (n_v vs 13) ≤ 1 := tv_rng t13
  obtain ⟨t14, hk⟩ := List.forall_mem_cons.mp hk
  have t14 : tv_ok ta (0, 1, 25, []) (n_v vs 14) := t14
  have k14 : 1 ≤ v_iv (n_v vs 14) ∧ v_iv (n_v vs 14) ≤ 25 := tv_rng t14
  obtain ⟨t21, hk⟩ := List.forall_mem_cons.mp hk
  have t21 : tv_ok ta (0, 1, 1, []) (n_v vs 21) := t21
  have k21 : 1 ≤ v_iv (n_v vs 21) ∧ v_iv (n_v vs 21) ≤ 1 := tv_rng t21
  obtain ⟨t22, hk⟩ := List.forall_mem_cons.mp hk
  have t22 : tv_ok ta (0, 1, 25, []) (n_v vs 22) := t22
  have k22 : 1 ≤ v_iv (n_v vs 22) ∧ v_iv (n_v vs 22) ≤ 25 := tv_rng t22
  have hds : ∀ q ∈ ([(22, 4, 1, 1), (14, 2, 1, 1), (10, 2, 1, 1)] : List of_T), n_iv vs q.2.1 + q.2.2.1 ≤ n_iv vs q.1 ∧ n_iv vs q.1 ≤ n_iv vs q.2.1 + q.2.2.2 := hds
  obtain ⟨d0, hds⟩ := List.forall_mem_cons.mp hds
  have d0 : v_iv (n_v vs 4) + 1 ≤ v_iv (n_v vs 22) ∧ v_iv (n_v vs 22) ≤ v_iv (n_v vs 4) + 1 := d0
  obtain ⟨d1, hds⟩ := List.forall_mem_cons.mp hds
  have d1 : v_iv (n_v vs 2) + 1 ≤ v_iv (n_v vs 14) ∧ v_iv (n_v vs 14) ≤ v_iv (n_v vs 2) + 1 := d1
  obtain ⟨d2, hds⟩ := List.forall_mem_cons.mp hds
  have d2 : v_iv (n_v vs 2) + 1 ≤ v_iv (n_v vs 10) ∧ v_iv (n_v vs 10) ≤ v_iv (n_v vs 2) + 1 := d2
  have hf : fc_ok [(1, [22, 4, 21], []), (20, [4, 0, 3], [50, 1, 1, 1139, 1064, 0, 2, 1, 0, 4, 14, 3, 1, 64, 4, 7, 6, 2, 0, 48, 2, 1, 139, 1, 2, 0, 1]), (20, [14, 0, 1], [50, 1, 1, 1139, 1064, 0, 2, 1, 0, 4, 14, 3, 1, 64, 4, 7, 6, 2, 0, 48, 2, 1, 139, 1, 2, 0, 1]), (1, [14, 2, 13], []), (20, [10, 0, 1], [50, 1, 1, 1139, 1064, 0, 2, 1, 0, 4, 14, 3, 1, 64, 4, 7, 6, 2, 0, 48, 2, 1, 139, 1, 2, 0, 1]), (1, [10, 2, 9], []), (20, [2, 0, 1], [50, 1, 1, 1139, 1064, 0, 2, 1, 0, 4, 14, 3, 1, 64, 4, 7, 6, 2, 0, 48, 2, 1, 139, 1, 2, 0, 1]), (20, [2, 0, 1], [50, 1, 1, 1139, 1064, 0, 2, 1, 0, 3, 1, 64, 4, 7, 6, 2, 0, 48, 2, 1, 139, 1, 2]), (20, [4, 0, 3], [50, 1, 1, 1139, 1064, 0, 2, 1, 0, 3, 1, 64, 4, 7, 6, 2, 0, 48, 2, 1, 139, 1, 2])] ta ws vs := hf
  obtain ⟨f0, hf⟩ := fc_un (show (1 : Nat) < 100 from by decide) hf
  have f0 : v_iv (n_v vs 22) = v_iv (n_v vs 4) + v_iv (n_v vs 21) := f0
  obtain ⟨f1, hf⟩ := fc_un (show (20 : Nat) < 100 from by decide) hf
  have f1 : v_iv (n_v vs 4) ≤ (w_ei ws (w_ar ws (n_v vs 0) 64) (((48 * w_fi ws (n_v vs 0) 139) + v_iv (n_v vs 3))) + 1) := f1
  obtain ⟨f2, hf⟩ := fc_un (show (20 : Nat) < 100 from by decide) hf
  have f2 : v_iv (n_v vs 14) ≤ (w_ei ws (w_ar ws (n_v vs 0) 64) (((48 * w_fi ws (n_v vs 0) 139) + v_iv (n_v vs 1))) + 1) := f2
  obtain ⟨f3, hf⟩ := fc_un (show (1 : Nat) < 100 from by decide) hf
  have f3 : v_iv (n_v vs 14) = v_iv (n_v vs 2) + v_iv (n_v vs 13) := f3
  obtain ⟨f4, hf⟩ := fc_un (show (20 : Nat) < 100 from by decide) hf
  have f4 : v_iv (n_v vs 10) ≤ (w_ei ws (w_ar ws (n_v vs 0) 64) (((48 * w_fi ws (n_v vs 0) 139) + v_iv (n_v vs 1))) + 1) := f4
  obtain ⟨f5, hf⟩ := fc_un (show (1 : Nat) < 100 from by decide) hf
  have f5 : v_iv (n_v vs 10) = v_iv (n_v vs 2) + v_iv (n_v vs 9) := f5
  obtain ⟨f6, hf⟩ := fc_un (show (20 : Nat) < 100 from by decide) hf
  have f6 : v_iv (n_v vs 2) ≤ (w_ei ws (w_ar ws (n_v vs 0) 64) (((48 * w_fi ws (n_v vs 0) 139) + v_iv (n_v vs 1))) + 1) := f6
  obtain ⟨f7, hf⟩ := fc_un (show (20 : Nat) < 100 from by decide) hf
  have f7 : v_iv (n_v vs 2) ≤ w_ei ws (w_ar ws (n_v vs 0) 64) (((48 * w_fi ws (n_v vs 0) 139) + v_iv (n_v vs 1))) := f7
  obtain ⟨f8, hf⟩ := fc_un (show (20 : Nat) < 100 from by decide) hf
  have f8 : v_iv (n_v vs 4) ≤ w_ei ws (w_ar ws (n_v vs 0) 64) (((48 * w_fi ws (n_v vs 0) 139) + v_iv (n_v vs 3))) := f8
  have cr_0_64 : ta (w_ar ws (n_v vs 0) 64) = some 189 := tv_rg (th_fd hD hth r0 (g := GG_150) rfl (k := 64) (t := (2, 0, 0, [189])) rfl rfl)
  have hK_0_64 : ∀ j : Int, 0 ≤ j → j < 192 → 0 ≤ w_ei ws (w_ar ws (n_v vs 0) 64) j ∧ w_ei ws (w_ar ws (n_v vs 0) 64) j ≤ 24 := fun j h0 h1 => th_el hD hth cr_0_64 (kd := 0) (n := 192) (m := 192) (lo := 0) (hi := 24) (rs := []) (L := []) rfl (by decide) (j := j.toNat) (by omega)
  have kz_0_139 : 0 ≤ w_fi ws (n_v vs 0) 139 ∧ w_fi ws (n_v vs 0) 139 ≤ 3 := tv_rng (th_fd hD hth r0 (g := GG_150) rfl (k := 139) (t := (0, 0, 3, [])) rfl rfl)
  have nf0 : fc_1 (20, [22, 0, 3], [50, 1, 1, 1139, 1064, 0, 2, 1, 0, 4, 14, 3, 1, 64, 4, 7, 6, 2, 0, 48, 2, 1, 139, 1, 2, 0, 1]) ws (vs) := by
    refine ⟨fun n hn => ?_, ?_⟩
    · have hn : n ∈ [22, 0, 3] := hn
      rw [hl]
      simp only [List.mem_cons, List.not_mem_nil, or_false] at hn
      show n < 23; omega
    · show v_iv (n_v vs 22) ≤ (w_ei ws (w_ar ws (n_v vs 0) 64) (((48 * w_fi ws (n_v vs 0) 139) + v_iv (n_v vs 3))) + 1)
      first | omega | grind
  refine ⟨(fun _ h => (by cases h)), [], trivial, ?_, (fun _ h => (by cases h))⟩
  rw [List.append_nil]
  exact List.forall_mem_cons.mpr ⟨⟨show (20 : Nat) < 100 from by decide, nf0⟩, (fun _ h => (by cases h))⟩
def o_Mo_meets_5 : or_T := (78, 27, [(0, (2, 0, 0, [150])), (1, (0, 0, 47, [])), (2, (0, 0, 24, [])), (3, (0, 0, 47, [])), (4, (0, 0, 24, [])), (9, (0, 1, 1, [])), (10, (0, 1, 25, [])), (13, (0, 1, 1, [])), (14, (0, 1, 25, [])), (21, (0, 1, 1, [])), (22, (0, 1, 25, [])), (25, (0, 1, 1, [])), (26, (0, 1, 25, []))], [(1, [26, 4, 25], []), (20, [22, 0, 3], [50, 1, 1, 1139, 1064, 0, 2, 1, 0, 4, 14, 3, 1, 64, 4, 7, 6, 2, 0, 48, 2, 1, 139, 1, 2, 0, 1]), (1, [22, 4, 21], []), (20, [4, 0, 3], [50, 1, 1, 1139, 1064, 0, 2, 1, 0, 4, 14, 3, 1, 64, 4, 7, 6, 2, 0, 48, 2, 1, 139, 1, 2, 0, 1]), (20, [14, 0, 1], [50, 1, 1, 1139, 1064, 0, 2, 1, 0, 4, 14, 3, 1, 64, 4, 7, 6, 2, 0, 48, 2, 1, 139, 1, 2, 0, 1]), (1, [14, 2, 13], []), (20, [10, 0, 1], [50, 1, 1, 1139, 1064, 0, 2, 1, 0, 4, 14, 3, 1, 64, 4, 7, 6, 2, 0, 48, 2, 1, 139, 1, 2, 0, 1]), (1, [10, 2, 9], []), (20, [2, 0, 1], [50, 1, 1, 1139, 1064, 0, 2, 1, 0, 4, 14, 3, 1, 64, 4, 7, 6, 2, 0, 48, 2, 1, 139, 1, 2, 0, 1]), (20, [2, 0, 1], [50, 1, 1, 1139, 1064, 0, 2, 1, 0, 3, 1, 64, 4, 7, 6, 2, 0, 48, 2, 1, 139, 1, 2]), (20, [4, 0, 3], [50, 1, 1, 1139, 1064, 0, 2, 1, 0, 3, 1, 64, 4, 7, 6, 2, 0, 48, 2, 1, 139, 1, 2])], [], [], [(20, [26, 0, 3], [50, 1, 1, 1139, 1064, 0, 2, 1, 0, 4, 14, 3, 1, 64, 4, 7, 6, 2, 0, 48, 2, 1, 139, 1, 2, 0, 1])], [], [(26, 4, 1, 1), (22, 4, 1, 1), (14, 2, 1, 1), (10, 2, 1, 1)])
theorem oo_Mo_meets_5 {kA : Nat → ClassId} : or_ok kA GG o_Mo_meets_5 := by
  intro A ta ws vs hD hth hl hk hds hf
  have hl : vs.length = 27 := hl
  have hk : ∀ q ∈ ([(0, (2, 0, 0, [150])), (1, (0, 0, 47, [])), (2, (0, 0, 24, [])), (3, (0, 0, 47, [])), (4, (0, 0, 24, [])), (9, (0, 1, 1, [])), (10, (0, 1, 25, [])), (13, (0, 1, 1, [])), (14, (0, 1, 25, [])), (21, (0, 1, 1, [])), (22, (0, 1, 25, [])), (25, (0, 1, 1, [])), (26, (0, 1, 25, []))] : List (Nat × tv_T)), tv_ok ta q.2 (n_v vs q.1) := hk
  obtain ⟨t0, hk⟩ := List.forall_mem_cons.mp hk
  have t0 : tv_ok ta (2, 0, 0, [150]) (n_v vs 0) := t0
  have r0 : ta (v_ad (n_v vs 0)) = some 150 := tv_rg t0
  obtain ⟨t1, hk⟩ := List.forall_mem_cons.mp hk
  have t1 : tv_ok ta (0, 0, 47, []) (n_v vs 1) := t1
  have k1 : 0 ≤ v_iv (n_v vs 1) ∧ v_iv (n_v vs 1) ≤ 47 := tv_rng t1
  obtain ⟨t2, hk⟩ := List.forall_mem_cons.mp hk
  have t2 : tv_ok ta (0, 0, 24, []) (n_v vs 2) := t2
  have k2 : 0 ≤ v_iv (n_v vs 2) ∧ v_iv (n_v vs 2) ≤ 24 := tv_rng t2
  obtain ⟨t3, hk⟩ := List.forall_mem_cons.mp hk
  have t3 : tv_ok ta (0, 0, 47, []) (n_v vs 3) := t3
  have k3 : 0 ≤ v_iv (n_v vs 3) ∧ v_iv (n_v vs 3) ≤ 47 := tv_rng t3
  obtain ⟨t4, hk⟩ := List.forall_mem_cons.mp hk
  have t4 : tv_ok ta (0, 0, 24, []) (n_v vs 4) := t4
  have k4 : 0 ≤ v_iv (n_v vs 4) ∧ v_iv (n_v vs 4) ≤ 24 := tv_rng t4
  obtain ⟨t9, hk⟩ := List.forall_mem_cons.mp hk
  have t9 : tv_ok ta (0, 1, 1, []) (n_v vs 9) := t9
  have k9 : 1 ≤ v_iv (n_v vs 9) ∧ v_iv (n_v vs 9) ≤ 1 := tv_rng t9
  obtain ⟨t10, hk⟩ := List.forall_mem_cons.mp hk
  have t10 : tv_ok ta (0, 1, 25, []) (n_v vs 10) := t10
  have k10 : 1 ≤ v_iv (n_v vs 10) ∧ v_iv (n_v vs 10) ≤ 25 := tv_rng t10
  obtain ⟨t13, hk⟩ := List.forall_mem_cons.mp hk
  have t13 : tv_ok ta (0, 1, 1, []) (n_v vs 13) := t13
  have k13 : 1 ≤ v_iv (n_v vs 13) ∧ v_iv (n_v vs 13) ≤ 1 := tv_rng t13
  obtain ⟨t14, hk⟩ := List.forall_mem_cons.mp hk
  have t14 : tv_ok ta (0, 1, 25, []) (n_v vs 14) := t14
  have k14 : 1 ≤ v_iv (n_v vs 14) ∧ v_iv (n_v vs 14) ≤ 25 := tv_rng t14
  obtain ⟨t21, hk⟩ := List.forall_mem_cons.mp hk
  have t21 : tv_ok ta (0, 1, 1, []) (n_v vs 21) := t21
  have k21 : 1 ≤ v_iv (n_v vs 21) ∧ v_iv (n_v vs 21) ≤ 1 := tv_rng t21
  obtain ⟨t22, hk⟩ := List.forall_mem_cons.mp hk
  have t22 : tv_ok ta (0, 1, 25, []) (n_v vs 22) := t22
  have k22 : 1 ≤ v_iv (n_v vs 22) ∧ v_iv (n_v vs 22) ≤ 25 := tv_rng t22
  obtain ⟨t25, hk⟩ := List.forall_mem_cons.mp hk
  have t25 : tv_ok ta (0, 1, 1, []) (n_v vs 25) := t25
  have k25 : 1 ≤ v_iv (n_v vs 25) ∧ v_iv (n_v vs 25) ≤ 1 := tv_rng t25
  obtain ⟨t26, hk⟩ := List.forall_mem_cons.mp hk
  have t26 : tv_ok ta (0, 1, 25, []) (n_v vs 26) := t26
  have k26 : 1 ≤ v_iv (n_v vs 26) ∧ v_iv (n_v vs 26) ≤ 25 := tv_rng t26
  have hds : ∀ q ∈ ([(26, 4, 1, 1), (22, 4, 1, 1), (14, 2, 1, 1), (10, 2, 1, 1)] : List of_T), n_iv vs q.2.1 + q.2.2.1 ≤ n_iv vs q.1 ∧ n_iv vs q.1 ≤ n_iv vs q.2.1 + q.2.2.2 := hds
  obtain ⟨d0, hds⟩ := List.forall_mem_cons.mp hds
  have d0 : v_iv (n_v vs 4) + 1 ≤ v_iv (n_v vs 26) ∧ v_iv (n_v vs 26) ≤ v_iv (n_v vs 4) + 1 := d0
  obtain ⟨d1, hds⟩ := List.forall_mem_cons.mp hds
  have d1 : v_iv (n_v vs 4) + 1 ≤ v_iv (n_v vs 22) ∧ v_iv (n_v vs 22) ≤ v_iv (n_v vs 4) + 1 := d1
  obtain ⟨d2, hds⟩ := List.forall_mem_cons.mp hds
  have d2 : v_iv (n_v vs 2) + 1 ≤ v_iv (n_v vs 14) ∧ v_iv (n_v vs 14) ≤ v_iv (n_v vs 2) + 1 := d2
  obtain ⟨d3, hds⟩ := List.forall_mem_cons.mp hds
  have d3 : v_iv (n_v vs 2) + 1 ≤ v_iv (n_v vs 10) ∧ v_iv (n_v vs 10) ≤ v_iv (n_v vs 2) + 1 := d3
  have hf : fc_ok [(1, [26, 4, 25], []), (20, [22, 0, 3], [50, 1, 1, 1139, 1064, 0, 2, 1, 0, 4, 14, 3, 1, 64, 4, 7, 6, 2, 0, 48, 2, 1, 139, 1, 2, 0, 1]), (1, [22, 4, 21], []), (20, [4, 0, 3], [50, 1, 1, 1139, 1064, 0, 2, 1, 0, 4, 14, 3, 1, 64, 4, 7, 6, 2, 0, 48, 2, 1, 139, 1, 2, 0, 1]), (20, [14, 0, 1], [50, 1, 1, 1139, 1064, 0, 2, 1, 0, 4, 14, 3, 1, 64, 4, 7, 6, 2, 0, 48, 2, 1, 139, 1, 2, 0, 1]), (1, [14, 2, 13], []), (20, [10, 0, 1], [50, 1, 1, 1139, 1064, 0, 2, 1, 0, 4, 14, 3, 1, 64, 4, 7, 6, 2, 0, 48, 2, 1, 139, 1, 2, 0, 1]), (1, [10, 2, 9], []), (20, [2, 0, 1], [50, 1, 1, 1139, 1064, 0, 2, 1, 0, 4, 14, 3, 1, 64, 4, 7, 6, 2, 0, 48, 2, 1, 139, 1, 2, 0, 1]), (20, [2, 0, 1], [50, 1, 1, 1139, 1064, 0, 2, 1, 0, 3, 1, 64, 4, 7, 6, 2, 0, 48, 2, 1, 139, 1, 2]), (20, [4, 0, 3], [50, 1, 1, 1139, 1064, 0, 2, 1, 0, 3, 1, 64, 4, 7, 6, 2, 0, 48, 2, 1, 139, 1, 2])] ta ws vs := hf
  obtain ⟨f0, hf⟩ := fc_un (show (1 : Nat) < 100 from by decide) hf
  have f0 : v_iv (n_v vs 26) = v_iv (n_v vs 4) + v_iv (n_v vs 25) := f0
  obtain ⟨f1, hf⟩ := fc_un (show (20 : Nat) < 100 from by decide) hf
  have f1 : v_iv (n_v vs 22) ≤ (w_ei ws (w_ar ws (n_v vs 0) 64) (((48 * w_fi ws (n_v vs 0) 139) + v_iv (n_v vs 3))) + 1) := f1
  obtain ⟨f2, hf⟩ := fc_un (show (1 : Nat) < 100 from by decide) hf
  have f2 : v_iv (n_v vs 22) = v_iv (n_v vs 4) + v_iv (n_v vs 21) := f2
  obtain ⟨f3, hf⟩ := fc_un (show (20 : Nat) < 100 from by decide) hf
  have f3 : v_iv (n_v vs 4) ≤ (w_ei ws (w_ar ws (n_v vs 0) 64) (((48 * w_fi ws (n_v vs 0) 139) + v_iv (n_v vs 3))) + 1) := f3
  obtain ⟨f4, hf⟩ := fc_un (show (20 : Nat) < 100 from by decide) hf
  have f4 : v_iv (n_v vs 14) ≤ (w_ei ws (w_ar ws (n_v vs 0) 64) (((48 * w_fi ws (n_v vs 0) 139) + v_iv (n_v vs 1))) + 1) := f4
  obtain ⟨f5, hf⟩ := fc_un (show (1 : Nat) < 100 from by decide) hf
  have f5 : v_iv (n_v vs 14) = v_iv (n_v vs 2) + v_iv (n_v vs 13) := f5
  obtain ⟨f6, hf⟩ := fc_un (show (20 : Nat) < 100 from by decide) hf
  have f6 : v_iv (n_v vs 10) ≤ (w_ei ws (w_ar ws (n_v vs 0) 64) (((48 * w_fi ws (n_v vs 0) 139) + v_iv (n_v vs 1))) + 1) := f6
  obtain ⟨f7, hf⟩ := fc_un (show (1 : Nat) < 100 from by decide) hf
  have f7 : v_iv (n_v vs 10) = v_iv (n_v vs 2) + v_iv (n_v vs 9) := f7
  obtain ⟨f8, hf⟩ := fc_un (show (20 : Nat) < 100 from by decide) hf
  have f8 : v_iv (n_v vs 2) ≤ (w_ei ws (w_ar ws (n_v vs 0) 64) (((48 * w_fi ws (n_v vs 0) 139) + v_iv (n_v vs 1))) + 1) := f8
  obtain ⟨f9, hf⟩ := fc_un (show (20 : Nat) < 100 from by decide) hf
  have f9 : v_iv (n_v vs 2) ≤ w_ei ws (w_ar ws (n_v vs 0) 64) (((48 * w_fi ws (n_v vs 0) 139) + v_iv (n_v vs 1))) := f9
  obtain ⟨f10, hf⟩ := fc_un (show (20 : Nat) < 100 from by decide) hf
  have f10 : v_iv (n_v vs 4) ≤ w_ei ws (w_ar ws (n_v vs 0) 64) (((48 * w_fi ws (n_v vs 0) 139) + v_iv (n_v vs 3))) := f10
  have cr_0_64 : ta (w_ar ws (n_v vs 0) 64) = some 189 := tv_rg (th_fd hD hth r0 (g := GG_150) rfl (k := 64) (t := (2, 0, 0, [189])) rfl rfl)
  have hK_0_64 : ∀ j : Int, 0 ≤ j → j < 192 → 0 ≤ w_ei ws (w_ar ws (n_v vs 0) 64) j ∧ w_ei ws (w_ar ws (n_v vs 0) 64) j ≤ 24 := fun j h0 h1 => th_el hD hth cr_0_64 (kd := 0) (n := 192) (m := 192) (lo := 0) (hi := 24) (rs := []) (L := []) rfl (by decide) (j := j.toNat) (by omega)
  have kz_0_139 : 0 ≤ w_fi ws (n_v vs 0) 139 ∧ w_fi ws (n_v vs 0) 139 ≤ 3 := tv_rng (th_fd hD hth r0 (g := GG_150) rfl (k := 139) (t := (0, 0, 3, [])) rfl rfl)
  have nf0 : fc_1 (20, [26, 0, 3], [50, 1, 1, 1139, 1064, 0, 2, 1, 0, 4, 14, 3, 1, 64, 4, 7, 6, 2, 0, 48, 2, 1, 139, 1, 2, 0, 1]) ws (vs) := by
    refine ⟨fun n hn => ?_, ?_⟩
    · have hn : n ∈ [26, 0, 3] := hn
      rw [hl]
      simp only [List.mem_cons, List.not_mem_nil, or_false] at hn
      show n < 27; omega
    · show v_iv (n_v vs 26) ≤ (w_ei ws (w_ar ws (n_v vs 0) 64) (((48 * w_fi ws (n_v vs 0) 139) + v_iv (n_v vs 3))) + 1)
      first | omega | grind
  refine ⟨(fun _ h => (by cases h)), [], trivial, ?_, (fun _ h => (by cases h))⟩
  rw [List.append_nil]
  exact List.forall_mem_cons.mpr ⟨⟨show (20 : Nat) < 100 from by decide, nf0⟩, (fun _ h => (by cases h))⟩
def n_Mo_meets_an : List an_T := [(210, [(0, (2, 0, 0, [150])), (1, (0, 0, 47, [])), (2, (0, 0, 24, [])), (3, (0, 0, 47, [])), (4, (0, 0, 24, [])), (5, (1, -2147483648, 2147483647, [])), (7, (1, -2147483648, 2147483647, [])), (9, (1, -2147483648, 2147483647, [])), (11, (1, -2147483648, 2147483647, [])), (13, (1, -2147483648, 2147483647, [])), (15, (1, -2147483648, 2147483647, [])), (17, (1, -2147483648, 2147483647, [])), (19, (1, -2147483648, 2147483647, [])), (21, (0, -1, 1, [])), (22, (0, -1, 1, [])), (23, (0, -1, 1, [])), (24, (0, -1, 1, []))], [(0, 0, 1, [])], (0, 0), [(0, 0, 99790)], [(1, 2, -1000000000000, 47), (1, 3, -1000000000000, 47), (1, 4, -1000000000000, 47), (1, 13, -1000000000000, 48), (1, 14, -1000000000000, 48), (1, 15, -1000000000000, 48), (1, 16, -1000000000000, 48), (1, 17, -1000000000000, 47), (2, 1, -1000000000000, 24), (2, 3, -1000000000000, 24), (2, 4, -1000000000000, 24), (2, 13, -1000000000000, 25), (2, 14, -1000000000000, 25), (2, 15, -1000000000000, 25), (2, 16, -1000000000000, 25), (2, 17, -1000000000000, 24), (3, 1, -1000000000000, 47), (3, 2, -1000000000000, 47), (3, 4, -1000000000000, 47), (3, 13, -1000000000000, 48), (3, 14, -1000000000000, 48), (3, 15, -1000000000000, 48), (3, 16, -1000000000000, 48), (3, 17, -1000000000000, 47), (4, 1, -1000000000000, 24), (4, 2, -1000000000000, 24), (4, 3, -1000000000000, 24), (4, 13, -1000000000000, 25), (4, 14, -1000000000000, 25), (4, 15, -1000000000000, 25), (4, 16, -1000000000000, 25), (4, 17, -1000000000000, 24), (13, 1, -1000000000000, 1), (13, 2, -1000000000000, 1), (13, 3, -1000000000000, 1), (13, 4, -1000000000000, 1), (13, 14, -1000000000000, 2), (13, 15, -1000000000000, 2), (13, 16, -1000000000000, 2), (13, 17, -1000000000000, 1), (14, 1, -1000000000000, 1), (14, 2, -1000000000000, 1), (14, 3, -1000000000000, 1), (14, 4, -1000000000000, 1), (14, 13, -1000000000000, 2), (14, 15, -1000000000000, 2), (14, 16, -1000000000000, 2), (14, 17, -1000000000000, 1), (15, 1, -1000000000000, 1), (15, 2, -1000000000000, 1), (15, 3, -1000000000000, 1), (15, 4, -1000000000000, 1), (15, 13, -1000000000000, 2), (15, 14, -1000000000000, 2), (15, 16, -1000000000000, 2), (15, 17, -1000000000000, 1), (16, 1, -1000000000000, 1), (16, 2, -1000000000000, 1), (16, 3, -1000000000000, 1), (16, 4, -1000000000000, 1), (16, 13, -1000000000000, 2), (16, 14, -1000000000000, 2), (16, 15, -1000000000000, 2), (16, 17, -1000000000000, 1), (17, 1, -1000000000000, 1), (17, 2, -1000000000000, 1), (17, 3, -1000000000000, 1), (17, 4, -1000000000000, 1), (17, 13, -1000000000000, 2), (17, 14, -1000000000000, 2), (17, 15, -1000000000000, 2), (17, 16, -1000000000000, 2)], [], [], 0, [], []), (211, [(0, (2, 0, 0, [150])), (1, (0, 0, 47, [])), (2, (0, 0, 24, [])), (3, (0, 0, 47, [])), (4, (0, 0, 24, [])), (5, (1, -2147483648, 2147483647, [])), (7, (1, -2147483648, 2147483647, [])), (9, (1, -2147483648, 2147483647, [])), (11, (1, -2147483648, 2147483647, [])), (13, (1, -2147483648, 2147483647, [])), (15, (1, -2147483648, 2147483647, [])), (17, (1, -2147483648, 2147483647, [])), (19, (1, -2147483648, 2147483647, [])), (21, (0, -1, 1, [])), (22, (0, -1, 1, [])), (23, (0, -1, 1, [])), (24, (0, -1, 1, []))], [], (0, 0), [(0, 0, 99789)], [(1, 2, -1000000000000, 47), (1, 3, -1000000000000, 47), (1, 4, -1000000000000, 47), (1, 13, -1000000000000, 48), (1, 14, -1000000000000, 48), (1, 15, -1000000000000, 48), (1, 16, -1000000000000, 48), (2, 1, -1000000000000, 24), (2, 3, -1000000000000, 24), (2, 4, -1000000000000, 24), (2, 13, -1000000000000, 25), (2, 14, -1000000000000, 25), (2, 15, -1000000000000, 25), (2, 16, -1000000000000, 25), (3, 1, -1000000000000, 47), (3, 2, -1000000000000, 47), (3, 4, -1000000000000, 47), (3, 13, -1000000000000, 48), (3, 14, -1000000000000, 48), (3, 15, -1000000000000, 48), (3, 16, -1000000000000, 48), (4, 1, -1000000000000, 24), (4, 2, -1000000000000, 24), (4, 3, -1000000000000, 24), (4, 13, -1000000000000, 25), (4, 14, -1000000000000, 25), (4, 15, -1000000000000, 25), (4, 16, -1000000000000, 25), (13, 1, -1000000000000, 1), (13, 2, -1000000000000, 1), (13, 3, -1000000000000, 1), (13, 4, -1000000000000, 1), (13, 14, -1000000000000, 2), (13, 15, -1000000000000, 2), (13, 16, -1000000000000, 2), (14, 1, -1000000000000, 1), (14, 2, -1000000000000, 1), (14, 3, -1000000000000, 1), (14, 4, -1000000000000, 1), (14, 13, -1000000000000, 2), (14, 15, -1000000000000, 2), (14, 16, -1000000000000, 2), (15, 1, -1000000000000, 1), (15, 2, -1000000000000, 1), (15, 3, -1000000000000, 1), (15, 4, -1000000000000, 1), (15, 13, -1000000000000, 2), (15, 14, -1000000000000, 2), (15, 16, -1000000000000, 2), (16, 1, -1000000000000, 1), (16, 2, -1000000000000, 1), (16, 3, -1000000000000, 1), (16, 4, -1000000000000, 1), (16, 13, -1000000000000, 2), (16, 14, -1000000000000, 2), (16, 15, -1000000000000, 2)], [], [], 0, [], []), (246, [(0, (2, 0, 0, [150])), (1, (0, 0, 47, [])), (2, (0, 0, 24, [])), (3, (0, 0, 47, [])), (4, (0, 0, 24, [])), (5, (1, -2147483648, 2147483647, [])), (7, (1, -2147483648, 2147483647, [])), (9, (1, -2147483648, 2147483647, [])), (11, (1, -2147483648, 2147483647, [])), (13, (1, -2147483648, 2147483647, [])), (15, (1, -2147483648, 2147483647, [])), (17, (1, -2147483648, 2147483647, [])), (19, (1, -2147483648, 2147483647, [])), (21, (0, -1, 1, [])), (22, (0, -1, 1, [])), (23, (0, -1, 1, [])), (24, (0, -1, 1, []))], [], (0, 0), [(0, 0, 99754)], [(1, 2, -1000000000000, 47), (1, 3, -1000000000000, 47), (1, 4, -1000000000000, 47), (1, 13, -1000000000000, 48), (1, 14, -1000000000000, 48), (1, 15, -1000000000000, 48), (1, 16, -1000000000000, 48), (2, 1, -1000000000000, 24), (2, 3, -1000000000000, 24), (2, 4, -1000000000000, 24), (2, 13, -1000000000000, 25), (2, 14, -1000000000000, 25), (2, 15, -1000000000000, 25), (2, 16, -1000000000000, 25), (3, 1, -1000000000000, 47), (3, 2, -1000000000000, 47), (3, 4, -1000000000000, 47), (3, 13, -1000000000000, 48), (3, 14, -1000000000000, 48), (3, 15, -1000000000000, 48), (3, 16, -1000000000000, 48), (4, 1, -1000000000000, 24), (4, 2, -1000000000000, 24), (4, 3, -1000000000000, 24), (4, 13, -1000000000000, 25), (4, 14, -1000000000000, 25), (4, 15, -1000000000000, 25), (4, 16, -1000000000000, 25), (13, 1, -1000000000000, 1), (13, 2, -1000000000000, 1), (13, 3, -1000000000000, 1), (13, 4, -1000000000000, 1), (13, 14, -1000000000000, 2), (13, 15, -1000000000000, 2), (13, 16, -1000000000000, 2), (14, 1, -1000000000000, 1), (14, 2, -1000000000000, 1), (14, 3, -1000000000000, 1), (14, 4, -1000000000000, 1), (14, 13, -1000000000000, 2), (14, 15, -1000000000000, 2), (14, 16, -1000000000000, 2), (15, 1, -1000000000000, 1), (15, 2, -1000000000000, 1), (15, 3, -1000000000000, 1), (15, 4, -1000000000000, 1), (15, 13, -1000000000000, 2), (15, 14, -1000000000000, 2), (15, 16, -1000000000000, 2), (16, 1, -1000000000000, 1), (16, 2, -1000000000000, 1), (16, 3, -1000000000000, 1), (16, 4, -1000000000000, 1), (16, 13, -1000000000000, 2), (16, 14, -1000000000000, 2), (16, 15, -1000000000000, 2)], [], [], 0, [], []), (247, [(0, (2, 0, 0, [150])), (1, (0, 0, 47, [])), (2, (0, 0, 24, [])), (3, (0, 0, 47, [])), (4, (0, 0, 24, [])), (5, (1, -2147483648, 2147483647, [])), (7, (1, -2147483648, 2147483647, [])), (9, (1, -2147483648, 2147483647, [])), (11, (1, -2147483648, 2147483647, [])), (13, (1, -2147483648, 2147483647, [])), (15, (1, -2147483648, 2147483647, [])), (17, (1, -2147483648, 2147483647, [])), (19, (1, -2147483648, 2147483647, [])), (21, (0, -1, 1, [])), (22, (0, -1, 1, [])), (23, (0, -1, 1, [])), (24, (0, -1, 1, []))], [(0, 0, 1, [])], (0, 0), [(0, 0, 99753)], [(1, 2, -1000000000000, 47), (1, 3, -1000000000000, 47), (1, 4, -1000000000000, 47), (1, 13, -1000000000000, 48), (1, 14, -1000000000000, 48), (1, 15, -1000000000000, 48), (1, 16, -1000000000000, 48), (1, 17, -1000000000000, 47), (2, 1, -1000000000000, 24), (2, 3, -1000000000000, 24), (2, 4, -1000000000000, 24), (2, 13, -1000000000000, 25), (2, 14, -1000000000000, 25), (2, 15, -1000000000000, 25), (2, 16, -1000000000000, 25), (2, 17, -1000000000000, 24), (3, 1, -1000000000000, 47), (3, 2, -1000000000000, 47), (3, 4, -1000000000000, 47), (3, 13, -1000000000000, 48), (3, 14, -1000000000000, 48), (3, 15, -1000000000000, 48), (3, 16, -1000000000000, 48), (3, 17, -1000000000000, 47), (4, 1, -1000000000000, 24), (4, 2, -1000000000000, 24), (4, 3, -1000000000000, 24), (4, 13, -1000000000000, 25), (4, 14, -1000000000000, 25), (4, 15, -1000000000000, 25), (4, 16, -1000000000000, 25), (4, 17, -1000000000000, 24), (13, 1, -1000000000000, 1), (13, 2, -1000000000000, 1), (13, 3, -1000000000000, 1), (13, 4, -1000000000000, 1), (13, 14, -1000000000000, 2), (13, 15, -1000000000000, 2), (13, 16, -1000000000000, 2), (13, 17, -1000000000000, 1), (14, 1, -1000000000000, 1), (14, 2, -1000000000000, 1), (14, 3, -1000000000000, 1), (14, 4, -1000000000000, 1), (14, 13, -1000000000000, 2), (14, 15, -1000000000000, 2), (14, 16, -1000000000000, 2), (14, 17, -1000000000000, 1), (15, 1, -1000000000000, 1), (15, 2, -1000000000000, 1), (15, 3, -1000000000000, 1), (15, 4, -1000000000000, 1), (15, 13, -1000000000000, 2), (15, 14, -1000000000000, 2), (15, 16, -1000000000000, 2), (15, 17, -1000000000000, 1), (16, 1, -1000000000000, 1), (16, 2, -1000000000000, 1), (16, 3, -1000000000000, 1), (16, 4, -1000000000000, 1), (16, 13, -1000000000000, 2), (16, 14, -1000000000000, 2), (16, 15, -1000000000000, 2), (16, 17, -1000000000000, 1), (17, 1, -1000000000000, 1), (17, 2, -1000000000000, 1), (17, 3, -1000000000000, 1), (17, 4, -1000000000000, 1), (17, 13, -1000000000000, 2), (17, 14, -1000000000000, 2), (17, 15, -1000000000000, 2), (17, 16, -1000000000000, 2)], [], [], 0, [], []), (284, [(0, (2, 0, 0, [150])), (1, (0, 0, 47, [])), (2, (0, 0, 24, [])), (3, (0, 0, 47, [])), (4, (0, 0, 24, [])), (5, (1, -2147483648, 2147483647, [])), (7, (1, -2147483648, 2147483647, [])), (9, (1, -2147483648, 2147483647, [])), (11, (1, -2147483648, 2147483647, [])), (13, (1, -2147483648, 2147483647, [])), (15, (1, -2147483648, 2147483647, [])), (17, (1, -2147483648, 2147483647, [])), (19, (1, -2147483648, 2147483647, [])), (21, (0, -1, 1, [])), (22, (0, -1, 1, [])), (23, (0, -1, 1, [])), (24, (0, -1, 1, [])), (25, (0, 0, 1, []))], [], (0, 0), [(0, 0, 99716)], [(1, 2, -1000000000000, 47), (1, 3, -1000000000000, 47), (1, 4, -1000000000000, 47), (1, 13, -1000000000000, 48), (1, 14, -1000000000000, 48), (1, 15, -1000000000000, 48), (1, 16, -1000000000000, 48), (1, 17, -1000000000000, 47), (2, 1, -1000000000000, 24), (2, 3, -1000000000000, 24), (2, 4, -1000000000000, 24), (2, 13, -1000000000000, 25), (2, 14, -1000000000000, 25), (2, 15, -1000000000000, 25), (2, 16, -1000000000000, 25), (2, 17, -1000000000000, 24), (3, 1, -1000000000000, 47), (3, 2, -1000000000000, 47), (3, 4, -1000000000000, 47), (3, 13, -1000000000000, 48), (3, 14, -1000000000000, 48), (3, 15, -1000000000000, 48), (3, 16, -1000000000000, 48), (3, 17, -1000000000000, 47), (4, 1, -1000000000000, 24), (4, 2, -1000000000000, 24), (4, 3, -1000000000000, 24), (4, 13, -1000000000000, 25), (4, 14, -1000000000000, 25), (4, 15, -1000000000000, 25), (4, 16, -1000000000000, 25), (4, 17, -1000000000000, 24), (13, 1, -1000000000000, 1), (13, 2, -1000000000000, 1), (13, 3, -1000000000000, 1), (13, 4, -1000000000000, 1), (13, 14, -1000000000000, 2), (13, 15, -1000000000000, 2), (13, 16, -1000000000000, 2), (13, 17, -1000000000000, 1), (14, 1, -1000000000000, 1), (14, 2, -1000000000000, 1), (14, 3, -1000000000000, 1), (14, 4, -1000000000000, 1), (14, 13, -1000000000000, 2), (14, 15, -1000000000000, 2), (14, 16, -1000000000000, 2), (14, 17, -1000000000000, 1), (15, 1, -1000000000000, 1), (15, 2, -1000000000000, 1), (15, 3, -1000000000000, 1), (15, 4, -1000000000000, 1), (15, 13, -1000000000000, 2), (15, 14, -1000000000000, 2), (15, 16, -1000000000000, 2), (15, 17, -1000000000000, 1), (16, 1, -1000000000000, 1), (16, 2, -1000000000000, 1), (16, 3, -1000000000000, 1), (16, 4, -1000000000000, 1), (16, 13, -1000000000000, 2), (16, 14, -1000000000000, 2), (16, 15, -1000000000000, 2), (16, 17, -1000000000000, 1), (17, 1, -1000000000000, 1), (17, 2, -1000000000000, 1), (17, 3, -1000000000000, 1), (17, 4, -1000000000000, 1), (17, 13, -1000000000000, 2), (17, 14, -1000000000000, 2), (17, 15, -1000000000000, 2), (17, 16, -1000000000000, 2)], [], [], 0, [], []), (285, [(0, (2, 0, 0, [150])), (1, (0, 0, 47, [])), (2, (0, 0, 24, [])), (3, (0, 0, 47, [])), (4, (0, 0, 24, [])), (5, (1, -2147483648, 2147483647, [])), (7, (1, -2147483648, 2147483647, [])), (9, (1, -2147483648, 2147483647, [])), (11, (1, -2147483648, 2147483647, [])), (13, (1, -2147483648, 2147483647, [])), (15, (1, -2147483648, 2147483647, [])), (17, (1, -2147483648, 2147483647, [])), (19, (1, -2147483648, 2147483647, [])), (21, (0, -1, 1, [])), (22, (0, -1, 1, [])), (23, (0, -1, 1, [])), (24, (0, -1, 1, [])), (25, (0, 0, 1, []))], [(0, 0, 1, [])], (0, 0), [(0, 0, 99715)], [(1, 2, -1000000000000, 47), (1, 3, -1000000000000, 47), (1, 4, -1000000000000, 47), (1, 13, -1000000000000, 48), (1, 14, -1000000000000, 48), (1, 15, -1000000000000, 48), (1, 16, -1000000000000, 48), (1, 17, -1000000000000, 47), (1, 18, -1000000000000, 47), (2, 1, -1000000000000, 24), (2, 3, -1000000000000, 24), (2, 4, -1000000000000, 24), (2, 13, -1000000000000, 25), (2, 14, -1000000000000, 25), (2, 15, -1000000000000, 25), (2, 16, -1000000000000, 25), (2, 17, -1000000000000, 24), (2, 18, -1000000000000, 24), (3, 1, -1000000000000, 47), (3, 2, -1000000000000, 47), (3, 4, -1000000000000, 47), (3, 13, -1000000000000, 48), (3, 14, -1000000000000, 48), (3, 15, -1000000000000, 48), (3, 16, -1000000000000, 48), (3, 17, -1000000000000, 47), (3, 18, -1000000000000, 47), (4, 1, -1000000000000, 24), (4, 2, -1000000000000, 24), (4, 3, -1000000000000, 24), (4, 13, -1000000000000, 25), (4, 14, -1000000000000, 25), (4, 15, -1000000000000, 25), (4, 16, -1000000000000, 25), (4, 17, -1000000000000, 24), (4, 18, -1000000000000, 24), (13, 1, -1000000000000, 1), (13, 2, -1000000000000, 1), (13, 3, -1000000000000, 1), (13, 4, -1000000000000, 1), (13, 14, -1000000000000, 2), (13, 15, -1000000000000, 2), (13, 16, -1000000000000, 2), (13, 17, -1000000000000, 1), (13, 18, -1000000000000, 1), (14, 1, -1000000000000, 1), (14, 2, -1000000000000, 1), (14, 3, -1000000000000, 1), (14, 4, -1000000000000, 1), (14, 13, -1000000000000, 2), (14, 15, -1000000000000, 2), (14, 16, -1000000000000, 2), (14, 17, -1000000000000, 1), (14, 18, -1000000000000, 1), (15, 1, -1000000000000, 1), (15, 2, -1000000000000, 1), (15, 3, -1000000000000, 1), (15, 4, -1000000000000, 1), (15, 13, -1000000000000, 2), (15, 14, -1000000000000, 2), (15, 16, -1000000000000, 2), (15, 17, -1000000000000, 1), (15, 18, -1000000000000, 1), (16, 1, -1000000000000, 1), (16, 2, -1000000000000, 1), (16, 3, -1000000000000, 1), (16, 4, -1000000000000, 1), (16, 13, -1000000000000, 2), (16, 14, -1000000000000, 2), (16, 15, -1000000000000, 2), (16, 17, -1000000000000, 1), (16, 18, -1000000000000, 1), (17, 1, -1000000000000, 1), (17, 2, -1000000000000, 1), (17, 3, -1000000000000, 1), (17, 4, -1000000000000, 1), (17, 13, -1000000000000, 2), (17, 14, -1000000000000, 2), (17, 15, -1000000000000, 2), (17, 16, -1000000000000, 2), (17, 18, -1000000000000, 1), (18, 1, -1000000000000, 1), (18, 2, -1000000000000, 1), (18, 3, -1000000000000, 1), (18, 4, -1000000000000, 1), (18, 13, -1000000000000, 2), (18, 14, -1000000000000, 2), (18, 15, -1000000000000, 2), (18, 16, -1000000000000, 2), (18, 17, -1000000000000, 1)], [], [], 0, [], []), (322, [(0, (2, 0, 0, [150])), (1, (0, 0, 47, [])), (2, (0, 0, 24, [])), (3, (0, 0, 47, [])), (4, (0, 0, 24, [])), (5, (1, -2147483648, 2147483647, [])), (7, (1, -2147483648, 2147483647, [])), (9, (1, -2147483648, 2147483647, [])), (11, (1, -2147483648, 2147483647, [])), (13, (1, -2147483648, 2147483647, [])), (15, (1, -2147483648, 2147483647, [])), (17, (1, -2147483648, 2147483647, [])), (19, (1, -2147483648, 2147483647, [])), (21, (0, -1, 1, [])), (22, (0, -1, 1, [])), (23, (0, -1, 1, [])), (24, (0, -1, 1, [])), (25, (0, 0, 1, [])), (26, (0, 0, 1, []))], [], (0, 0), [(0, 0, 99678)], [(1, 2, -1000000000000, 47), (1, 3, -1000000000000, 47), (1, 4, -1000000000000, 47), (1, 13, -1000000000000, 48), (1, 14, -1000000000000, 48), (1, 15, -1000000000000, 48), (1, 16, -1000000000000, 48), (1, 17, -1000000000000, 47), (1, 18, -1000000000000, 47), (2, 1, -1000000000000, 24), (2, 3, -1000000000000, 24), (2, 4, -1000000000000, 24), (2, 13, -1000000000000, 25), (2, 14, -1000000000000, 25), (2, 15, -1000000000000, 25), (2, 16, -1000000000000, 25), (2, 17, -1000000000000, 24), (2, 18, -1000000000000, 24), (3, 1, -1000000000000, 47), (3, 2, -1000000000000, 47), (3, 4, -1000000000000, 47), (3, 13, -1000000000000, 48), (3, 14, -1000000000000, 48), (3, 15, -1000000000000, 48), (3, 16, -1000000000000, 48), (3, 17, -1000000000000, 47), (3, 18, -1000000000000, 47), (4, 1, -1000000000000, 24), (4, 2, -1000000000000, 24), (4, 3, -1000000000000, 24), (4, 13, -1000000000000, 25), (4, 14, -1000000000000, 25), (4, 15, -1000000000000, 25), (4, 16, -1000000000000, 25), (4, 17, -1000000000000, 24), (4, 18, -1000000000000, 24), (13, 1, -1000000000000, 1), (13, 2, -1000000000000, 1), (13, 3, -1000000000000, 1), (13, 4, -1000000000000, 1), (13, 14, -1000000000000, 2), (13, 15, -1000000000000, 2), (13, 16, -1000000000000, 2), (13, 17, -1000000000000, 1), (13, 18, -1000000000000, 1), (14, 1, -1000000000000, 1), (14, 2, -1000000000000, 1), (14, 3, -1000000000000, 1), (14, 4, -1000000000000, 1), (14, 13, -1000000000000, 2), (14, 15, -1000000000000, 2), (14, 16, -1000000000000, 2), (14, 17, -1000000000000, 1), (14, 18, -1000000000000, 1), (15, 1, -1000000000000, 1), (15, 2, -1000000000000, 1), (15, 3, -1000000000000, 1), (15, 4, -1000000000000, 1), (15, 13, -1000000000000, 2), (15, 14, -1000000000000, 2), (15, 16, -1000000000000, 2), (15, 17, -1000000000000, 1), (15, 18, -1000000000000, 1), (16, 1, -1000000000000, 1), (16, 2, -1000000000000, 1), (16, 3, -1000000000000, 1), (16, 4, -1000000000000, 1), (16, 13, -1000000000000, 2), (16, 14, -1000000000000, 2), (16, 15, -1000000000000, 2), (16, 17, -1000000000000, 1), (16, 18, -1000000000000, 1), (17, 1, -1000000000000, 1), (17, 2, -1000000000000, 1), (17, 3, -1000000000000, 1), (17, 4, -1000000000000, 1), (17, 13, -1000000000000, 2), (17, 14, -1000000000000, 2), (17, 15, -1000000000000, 2), (17, 16, -1000000000000, 2), (17, 18, -1000000000000, 1), (18, 1, -1000000000000, 1), (18, 2, -1000000000000, 1), (18, 3, -1000000000000, 1), (18, 4, -1000000000000, 1), (18, 13, -1000000000000, 2), (18, 14, -1000000000000, 2), (18, 15, -1000000000000, 2), (18, 16, -1000000000000, 2), (18, 17, -1000000000000, 1)], [], [], 0, [], []), (323, [(0, (2, 0, 0, [150])), (1, (0, 0, 47, [])), (2, (0, 0, 24, [])), (3, (0, 0, 47, [])), (4, (0, 0, 24, [])), (5, (1, -2147483648, 2147483647, [])), (7, (1, -2147483648, 2147483647, [])), (9, (1, -2147483648, 2147483647, [])), (11, (1, -2147483648, 2147483647, [])), (13, (1, -2147483648, 2147483647, [])), (15, (1, -2147483648, 2147483647, [])), (17, (1, -2147483648, 2147483647, [])), (19, (1, -2147483648, 2147483647, [])), (21, (0, -1, 1, [])), (22, (0, -1, 1, [])), (23, (0, -1, 1, [])), (24, (0, -1, 1, [])), (25, (0, 0, 1, [])), (26, (0, 0, 1, []))], [(0, 0, 1, [])], (0, 0), [(0, 0, 99677)], [(1, 2, -1000000000000, 47), (1, 3, -1000000000000, 47), (1, 4, -1000000000000, 47), (1, 13, -1000000000000, 48), (1, 14, -1000000000000, 48), (1, 15, -1000000000000, 48), (1, 16, -1000000000000, 48), (1, 17, -1000000000000, 47), (1, 18, -1000000000000, 47), (1, 19, -1000000000000, 47), (2, 1, -1000000000000, 24), (2, 3, -1000000000000, 24), (2, 4, -1000000000000, 24), (2, 13, -1000000000000, 25), (2, 14, -1000000000000, 25), (2, 15, -1000000000000, 25), (2, 16, -1000000000000, 25), (2, 17, -1000000000000, 24), (2, 18, -1000000000000, 24), (2, 19, -1000000000000, 24), (3, 1, -1000000000000, 47), (3, 2, -1000000000000, 47), (3, 4, -1000000000000, 47), (3, 13, -1000000000000, 48), (3, 14, -1000000000000, 48), (3, 15, -1000000000000, 48), (3, 16, -1000000000000, 48), (3, 17, -1000000000000, 47), (3, 18, -1000000000000, 47), (3, 19, -1000000000000, 47), (4, 1, -1000000000000, 24), (4, 2, -1000000000000, 24), (4, 3, -1000000000000, 24), (4, 13, -1000000000000, 25), (4, 14, -1000000000000, 25), (4, 15, -1000000000000, 25), (4, 16, -1000000000000, 25), (4, 17, -1000000000000, 24), (4, 18, -1000000000000, 24), (4, 19, -1000000000000, 24), (13, 1, -1000000000000, 1), (13, 2, -1000000000000, 1), (13, 3, -1000000000000, 1), (13, 4, -1000000000000, 1), (13, 14, -1000000000000, 2), (13, 15, -1000000000000, 2), (13, 16, -1000000000000, 2), (13, 17, -1000000000000, 1), (13, 18, -1000000000000, 1), (13, 19, -1000000000000, 1), (14, 1, -1000000000000, 1), (14, 2, -1000000000000, 1), (14, 3, -1000000000000, 1), (14, 4, -1000000000000, 1), (14, 13, -1000000000000, 2), (14, 15, -1000000000000, 2), (14, 16, -1000000000000, 2), (14, 17, -1000000000000, 1), (14, 18, -1000000000000, 1), (14, 19, -1000000000000, 1), (15, 1, -1000000000000, 1), (15, 2, -1000000000000, 1), (15, 3, -1000000000000, 1), (15, 4, -1000000000000, 1), (15, 13, -1000000000000, 2), (15, 14, -1000000000000, 2), (15, 16, -1000000000000, 2), (15, 17, -1000000000000, 1), (15, 18, -1000000000000, 1), (15, 19, -1000000000000, 1), (16, 1, -1000000000000, 1), (16, 2, -1000000000000, 1), (16, 3, -1000000000000, 1), (16, 4, -1000000000000, 1), (16, 13, -1000000000000, 2), (16, 14, -1000000000000, 2), (16, 15, -1000000000000, 2), (16, 17, -1000000000000, 1), (16, 18, -1000000000000, 1), (16, 19, -1000000000000, 1), (17, 1, -1000000000000, 1), (17, 2, -1000000000000, 1), (17, 3, -1000000000000, 1), (17, 4, -1000000000000, 1), (17, 13, -1000000000000, 2), (17, 14, -1000000000000, 2), (17, 15, -1000000000000, 2), (17, 16, -1000000000000, 2), (17, 18, -1000000000000, 1), (17, 19, -1000000000000, 1), (18, 1, -1000000000000, 1), (18, 2, -1000000000000, 1), (18, 3, -1000000000000, 1), (18, 4, -1000000000000, 1), (18, 13, -1000000000000, 2), (18, 14, -1000000000000, 2), (18, 15, -1000000000000, 2), (18, 16, -1000000000000, 2), (18, 17, -1000000000000, 1), (18, 19, -1000000000000, 1), (19, 1, -1000000000000, 1), (19, 2, -1000000000000, 1), (19, 3, -1000000000000, 1), (19, 4, -1000000000000, 1), (19, 13, -1000000000000, 2), (19, 14, -1000000000000, 2), (19, 15, -1000000000000, 2), (19, 16, -1000000000000, 2), (19, 17, -1000000000000, 1), (19, 18, -1000000000000, 1)], [], [], 0, [], []), (360, [(0, (2, 0, 0, [150])), (1, (0, 0, 47, [])), (2, (0, 0, 24, [])), (3, (0, 0, 47, [])), (4, (0, 0, 24, [])), (5, (1, -2147483648, 2147483647, [])), (7, (1, -2147483648, 2147483647, [])), (9, (1, -2147483648, 2147483647, [])), (11, (1, -2147483648, 2147483647, [])), (13, (1, -2147483648, 2147483647, [])), (15, (1, -2147483648, 2147483647, [])), (17, (1, -2147483648, 2147483647, [])), (19, (1, -2147483648, 2147483647, [])), (21, (0, -1, 1, [])), (22, (0, -1, 1, [])), (23, (0, -1, 1, [])), (24, (0, -1, 1, [])), (25, (0, 0, 1, [])), (26, (0, 0, 1, [])), (27, (0, 0, 1, []))], [], (0, 0), [(0, 0, 99640)], [(1, 2, -1000000000000, 47), (1, 3, -1000000000000, 47), (1, 4, -1000000000000, 47), (1, 13, -1000000000000, 48), (1, 14, -1000000000000, 48), (1, 15, -1000000000000, 48), (1, 16, -1000000000000, 48), (1, 17, -1000000000000, 47), (1, 18, -1000000000000, 47), (1, 19, -1000000000000, 47), (2, 1, -1000000000000, 24), (2, 3, -1000000000000, 24), (2, 4, -1000000000000, 24), (2, 13, -1000000000000, 25), (2, 14, -1000000000000, 25), (2, 15, -1000000000000, 25), (2, 16, -1000000000000, 25), (2, 17, -1000000000000, 24), (2, 18, -1000000000000, 24), (2, 19, -1000000000000, 24), (3, 1, -1000000000000, 47), (3, 2, -1000000000000, 47), (3, 4, -1000000000000, 47), (3, 13, -1000000000000, 48), (3, 14, -1000000000000, 48), (3, 15, -1000000000000, 48), (3, 16, -1000000000000, 48), (3, 17, -1000000000000, 47), (3, 18, -1000000000000, 47), (3, 19, -1000000000000, 47), (4, 1, -1000000000000, 24), (4, 2, -1000000000000, 24), (4, 3, -1000000000000, 24), (4, 13, -1000000000000, 25), (4, 14, -1000000000000, 25), (4, 15, -1000000000000, 25), (4, 16, -1000000000000, 25), (4, 17, -1000000000000, 24), (4, 18, -1000000000000, 24), (4, 19, -1000000000000, 24), (13, 1, -1000000000000, 1), (13, 2, -1000000000000, 1), (13, 3, -1000000000000, 1), (13, 4, -1000000000000, 1), (13, 14, -1000000000000, 2), (13, 15, -1000000000000, 2), (13, 16, -1000000000000, 2), (13, 17, -1000000000000, 1), (13, 18, -1000000000000, 1), (13, 19, -1000000000000, 1), (14, 1, -1000000000000, 1), (14, 2, -1000000000000, 1), (14, 3, -1000000000000, 1), (14, 4, -1000000000000, 1), (14, 13, -1000000000000, 2), (14, 15, -1000000000000, 2), (14, 16, -1000000000000, 2), (14, 17, -1000000000000, 1), (14, 18, -1000000000000, 1), (14, 19, -1000000000000, 1), (15, 1, -1000000000000, 1), (15, 2, -1000000000000, 1), (15, 3, -1000000000000, 1), (15, 4, -1000000000000, 1), (15, 13, -1000000000000, 2), (15, 14, -1000000000000, 2), (15, 16, -1000000000000, 2), (15, 17, -1000000000000, 1), (15, 18, -1000000000000, 1), (15, 19, -1000000000000, 1), (16, 1, -1000000000000, 1), (16, 2, -1000000000000, 1), (16, 3, -1000000000000, 1), (16, 4, -1000000000000, 1), (16, 13, -1000000000000, 2), (16, 14, -1000000000000, 2), (16, 15, -1000000000000, 2), (16, 17, -1000000000000, 1), (16, 18, -1000000000000, 1), (16, 19, -1000000000000, 1), (17, 1, -1000000000000, 1), (17, 2, -1000000000000, 1), (17, 3, -1000000000000, 1), (17, 4, -1000000000000, 1), (17, 13, -1000000000000, 2), (17, 14, -1000000000000, 2), (17, 15, -1000000000000, 2), (17, 16, -1000000000000, 2), (17, 18, -1000000000000, 1), (17, 19, -1000000000000, 1), (18, 1, -1000000000000, 1), (18, 2, -1000000000000, 1), (18, 3, -1000000000000, 1), (18, 4, -1000000000000, 1), (18, 13, -1000000000000, 2), (18, 14, -1000000000000, 2), (18, 15, -1000000000000, 2), (18, 16, -1000000000000, 2), (18, 17, -1000000000000, 1), (18, 19, -1000000000000, 1), (19, 1, -1000000000000, 1), (19, 2, -1000000000000, 1), (19, 3, -1000000000000, 1), (19, 4, -1000000000000, 1), (19, 13, -1000000000000, 2), (19, 14, -1000000000000, 2), (19, 15, -1000000000000, 2), (19, 16, -1000000000000, 2), (19, 17, -1000000000000, 1), (19, 18, -1000000000000, 1)], [], [], 0, [], []), (361, [(0, (2, 0, 0, [150])), (1, (0, 0, 47, [])), (2, (0, 0, 24, [])), (3, (0, 0, 47, [])), (4, (0, 0, 24, [])), (5, (1, -2147483648, 2147483647, [])), (7, (1, -2147483648, 2147483647, [])), (9, (1, -2147483648, 2147483647, [])), (11, (1, -2147483648, 2147483647, [])), (13, (1, -2147483648, 2147483647, [])), (15, (1, -2147483648, 2147483647, [])), (17, (1, -2147483648, 2147483647, [])), (19, (1, -2147483648, 2147483647, [])), (21, (0, -1, 1, [])), (22, (0, -1, 1, [])), (23, (0, -1, 1, [])), (24, (0, -1, 1, [])), (25, (0, 0, 1, [])), (26, (0, 0, 1, [])), (27, (0, 0, 1, []))], [(0, 0, 1, [])], (0, 0), [(0, 0, 99639)], [(1, 2, -1000000000000, 47), (1, 3, -1000000000000, 47), (1, 4, -1000000000000, 47), (1, 13, -1000000000000, 48), (1, 14, -1000000000000, 48), (1, 15, -1000000000000, 48), (1, 16, -1000000000000, 48), (1, 17, -1000000000000, 47), (1, 18, -1000000000000, 47), (1, 19, -1000000000000, 47), (1, 20, -1000000000000, 47), (2, 1, -1000000000000, 24), (2, 3, -1000000000000, 24), (2, 4, -1000000000000, 24), (2, 13, -1000000000000, 25), (2, 14, -1000000000000, 25), (2, 15, -1000000000000, 25), (2, 16, -1000000000000, 25), (2, 17, -1000000000000, 24), (2, 18, -1000000000000, 24), (2, 19, -1000000000000, 24), (2, 20, -1000000000000, 24), (3, 1, -1000000000000, 47), (3, 2, -1000000000000, 47), (3, 4, -1000000000000, 47), (3, 13, -1000000000000, 48), (3, 14, -1000000000000, 48), (3, 15, -1000000000000, 48), (3, 16, -1000000000000, 48), (3, 17, -1000000000000, 47), (3, 18, -1000000000000, 47), (3, 19, -1000000000000, 47), (3, 20, -1000000000000, 47), (4, 1, -1000000000000, 24), (4, 2, -1000000000000, 24), (4, 3, -1000000000000, 24), (4, 13, -1000000000000, 25), (4, 14, -1000000000000, 25), (4, 15, -1000000000000, 25), (4, 16, -1000000000000, 25), (4, 17, -1000000000000, 24), (4, 18, -1000000000000, 24), (4, 19, -1000000000000, 24), (4, 20, -1000000000000, 24), (13, 1, -1000000000000, 1), (13, 2, -1000000000000, 1), (13, 3, -1000000000000, 1), (13, 4, -1000000000000, 1), (13, 14, -1000000000000, 2), (13, 15, -1000000000000, 2), (13, 16, -1000000000000, 2), (13, 17, -1000000000000, 1), (13, 18, -1000000000000, 1), (13, 19, -1000000000000, 1), (13, 20, -1000000000000, 1), (14, 1, -1000000000000, 1), (14, 2, -1000000000000, 1), (14, 3, -1000000000000, 1), (14, 4, -1000000000000, 1), (14, 13, -1000000000000, 2), (14, 15, -1000000000000, 2), (14, 16, -1000000000000, 2), (14, 17, -1000000000000, 1), (14, 18, -1000000000000, 1), (14, 19, -1000000000000, 1), (14, 20, -1000000000000, 1), (15, 1, -1000000000000, 1), (15, 2, -1000000000000, 1), (15, 3, -1000000000000, 1), (15, 4, -1000000000000, 1), (15, 13, -1000000000000, 2), (15, 14, -1000000000000, 2), (15, 16, -1000000000000, 2), (15, 17, -1000000000000, 1), (15, 18, -1000000000000, 1), (15, 19, -1000000000000, 1), (15, 20, -1000000000000, 1), (16, 1, -1000000000000, 1), (16, 2, -1000000000000, 1), (16, 3, -1000000000000, 1), (16, 4, -1000000000000, 1), (16, 13, -1000000000000, 2), (16, 14, -1000000000000, 2), (16, 15, -1000000000000, 2), (16, 17, -1000000000000, 1), (16, 18, -1000000000000, 1), (16, 19, -1000000000000, 1), (16, 20, -1000000000000, 1), (17, 1, -1000000000000, 1), (17, 2, -1000000000000, 1), (17, 3, -1000000000000, 1), (17, 4, -1000000000000, 1), (17, 13, -1000000000000, 2), (17, 14, -1000000000000, 2), (17, 15, -1000000000000, 2), (17, 16, -1000000000000, 2), (17, 18, -1000000000000, 1), (17, 19, -1000000000000, 1), (17, 20, -1000000000000, 1), (18, 1, -1000000000000, 1), (18, 2, -1000000000000, 1), (18, 3, -1000000000000, 1), (18, 4, -1000000000000, 1), (18, 13, -1000000000000, 2), (18, 14, -1000000000000, 2), (18, 15, -1000000000000, 2), (18, 16, -1000000000000, 2), (18, 17, -1000000000000, 1), (18, 19, -1000000000000, 1), (18, 20, -1000000000000, 1), (19, 1, -1000000000000, 1), (19, 2, -1000000000000, 1), (19, 3, -1000000000000, 1), (19, 4, -1000000000000, 1), (19, 13, -1000000000000, 2), (19, 14, -1000000000000, 2), (19, 15, -1000000000000, 2), (19, 16, -1000000000000, 2), (19, 17, -1000000000000, 1), (19, 18, -1000000000000, 1), (19, 20, -1000000000000, 1), (20, 1, -1000000000000, 1), (20, 2, -1000000000000, 1), (20, 3, -1000000000000, 1), (20, 4, -1000000000000, 1), (20, 13, -1000000000000, 2), (20, 14, -1000000000000, 2), (20, 15, -1000000000000, 2), (20, 16, -1000000000000, 2), (20, 17, -1000000000000, 1), (20, 18, -1000000000000, 1), (20, 19, -1000000000000, 1)], [], [], 0, [], []), (383, [(0, (2, 0, 0, [150])), (1, (0, 0, 47, [])), (2, (0, 0, 24, [])), (3, (0, 0, 47, [])), (4, (0, 0, 24, [])), (5, (1, -2147483648, 2147483647, [])), (7, (1, -2147483648, 2147483647, [])), (9, (1, -2147483648, 2147483647, [])), (11, (1, -2147483648, 2147483647, [])), (13, (1, -2147483648, 2147483647, [])), (15, (1, -2147483648, 2147483647, [])), (17, (1, -2147483648, 2147483647, [])), (19, (1, -2147483648, 2147483647, [])), (21, (0, -1, 1, [])), (22, (0, -1, 1, [])), (23, (0, -1, 1, [])), (24, (0, -1, 1, [])), (25, (0, 0, 1, [])), (26, (0, 0, 1, [])), (27, (0, 0, 1, [])), (28, (0, 0, 1, []))], [], (0, 0), [(0, 0, 99617)], [(1, 2, -1000000000000, 47), (1, 3, -1000000000000, 47), (1, 4, -1000000000000, 47), (1, 13, -1000000000000, 48), (1, 14, -1000000000000, 48), (1, 15, -1000000000000, 48), (1, 16, -1000000000000, 48), (1, 17, -1000000000000, 47), (1, 18, -1000000000000, 47), (1, 19, -1000000000000, 47), (1, 20, -1000000000000, 47), (2, 1, -1000000000000, 24), (2, 3, -1000000000000, 24), (2, 4, -1000000000000, 24), (2, 13, -1000000000000, 25), (2, 14, -1000000000000, 25), (2, 15, -1000000000000, 25), (2, 16, -1000000000000, 25), (2, 17, -1000000000000, 24), (2, 18, -1000000000000, 24), (2, 19, -1000000000000, 24), (2, 20, -1000000000000, 24), (3, 1, -1000000000000, 47), (3, 2, -1000000000000, 47), (3, 4, -1000000000000, 47), (3, 13, -1000000000000, 48), (3, 14, -1000000000000, 48), (3, 15, -1000000000000, 48), (3, 16, -1000000000000, 48), (3, 17, -1000000000000, 47), (3, 18, -1000000000000, 47), (3, 19, -1000000000000, 47), (3, 20, -1000000000000, 47), (4, 1, -1000000000000, 24), (4, 2, -1000000000000, 24), (4, 3, -1000000000000, 24), (4, 13, -1000000000000, 25), (4, 14, -1000000000000, 25), (4, 15, -1000000000000, 25), (4, 16, -1000000000000, 25), (4, 17, -1000000000000, 24), (4, 18, -1000000000000, 24), (4, 19, -1000000000000, 24), (4, 20, -1000000000000, 24), (13, 1, -1000000000000, 1), (13, 2, -1000000000000, 1), (13, 3, -1000000000000, 1), (13, 4, -1000000000000, 1), (13, 14, -1000000000000, 2), (13, 15, -1000000000000, 2), (13, 16, -1000000000000, 2), (13, 17, -1000000000000, 1), (13, 18, -1000000000000, 1), (13, 19, -1000000000000, 1), (13, 20, -1000000000000, 1), (14, 1, -1000000000000, 1), (14, 2, -1000000000000, 1), (14, 3, -1000000000000, 1), (14, 4, -1000000000000, 1), (14, 13, -1000000000000, 2), (14, 15, -1000000000000, 2), (14, 16, -1000000000000, 2), (14, 17, -1000000000000, 1), (14, 18, -1000000000000, 1), (14, 19, -1000000000000, 1), (14, 20, -1000000000000, 1), (15, 1, -1000000000000, 1), (15, 2, -1000000000000, 1), (15, 3, -1000000000000, 1), (15, 4, -1000000000000, 1), (15, 13, -1000000000000, 2), (15, 14, -1000000000000, 2), (15, 16, -1000000000000, 2), (15, 17, -1000000000000, 1), (15, 18, -1000000000000, 1), (15, 19, -1000000000000, 1), (15, 20, -1000000000000, 1), (16, 1, -1000000000000, 1), (16, 2, -1000000000000, 1), (16, 3, -1000000000000, 1), (16, 4, -1000000000000, 1), (16, 13, -1000000000000, 2), (16, 14, -1000000000000, 2), (16, 15, -1000000000000, 2), (16, 17, -1000000000000, 1), (16, 18, -1000000000000, 1), (16, 19, -1000000000000, 1), (16, 20, -1000000000000, 1), (17, 1, -1000000000000, 1), (17, 2, -1000000000000, 1), (17, 3, -1000000000000, 1), (17, 4, -1000000000000, 1), (17, 13, -1000000000000, 2), (17, 14, -1000000000000, 2), (17, 15, -1000000000000, 2), (17, 16, -1000000000000, 2), (17, 18, -1000000000000, 1), (17, 19, -1000000000000, 1), (17, 20, -1000000000000, 1), (18, 1, -1000000000000, 1), (18, 2, -1000000000000, 1), (18, 3, -1000000000000, 1), (18, 4, -1000000000000, 1), (18, 13, -1000000000000, 2), (18, 14, -1000000000000, 2), (18, 15, -1000000000000, 2), (18, 16, -1000000000000, 2), (18, 17, -1000000000000, 1), (18, 19, -1000000000000, 1), (18, 20, -1000000000000, 1), (19, 1, -1000000000000, 1), (19, 2, -1000000000000, 1), (19, 3, -1000000000000, 1), (19, 4, -1000000000000, 1), (19, 13, -1000000000000, 2), (19, 14, -1000000000000, 2), (19, 15, -1000000000000, 2), (19, 16, -1000000000000, 2), (19, 17, -1000000000000, 1), (19, 18, -1000000000000, 1), (19, 20, -1000000000000, 1), (20, 1, -1000000000000, 1), (20, 2, -1000000000000, 1), (20, 3, -1000000000000, 1), (20, 4, -1000000000000, 1), (20, 13, -1000000000000, 2), (20, 14, -1000000000000, 2), (20, 15, -1000000000000, 2), (20, 16, -1000000000000, 2), (20, 17, -1000000000000, 1), (20, 18, -1000000000000, 1), (20, 19, -1000000000000, 1)], [], [], 0, [], [])]
def t_Mo_meets_ct : ct_L := [(0, 1115, e_Mo_isLonger), (1, 1103, e_Mo_crossAtShared), (1, 1111, e_Mo_isShared), (13, 1085, e_Mo_ex_np), (40, 1088, e_Mo_ey_np), (73, 1085, e_Mo_ex_np), (106, 1088, e_Mo_ey_np), (136, 1085, e_Mo_ex_np), (166, 1088, e_Mo_ey_np), (202, 1085, e_Mo_ex_np), (238, 1088, e_Mo_ey_np), (291, 1091, e_Mo_turnOf_np), (300, 1099, e_Mo_signOf_np), (351, 1091, e_Mo_turnOf_np), (360, 1099, e_Mo_signOf_np), (411, 1091, e_Mo_turnOf_np), (420, 1099, e_Mo_signOf_np), (471, 1091, e_Mo_turnOf_np), (480, 1099, e_Mo_signOf_np), (672, 1107, e_Mo_isOn_np), (786, 1107, e_Mo_isOn_np), (900, 1107, e_Mo_isOn_np), (1014, 1107, e_Mo_isOn_np)]
set_option maxRecDepth 100000 in
theorem c_Mo_meets {l : Launch} {D : va_G} {kA : Nat → ClassId} (h_Mo_crossAtShared : ct_ok l D kA GG y_Mo_crossAtShared z_Mo_crossAtShared e_Mo_crossAtShared) (h_Mo_ex : ct_ok l D kA GG y_Mo_ex z_Mo_ex e_Mo_ex) (h_Mo_ey : ct_ok l D kA GG y_Mo_ey z_Mo_ey e_Mo_ey) (h_Mo_isLonger : ct_ok l D kA GG y_Mo_isLonger z_Mo_isLonger e_Mo_isLonger) (h_Mo_isOn : ct_ok l D kA GG y_Mo_isOn z_Mo_isOn e_Mo_isOn) (h_Mo_isShared : ct_ok l D kA GG y_Mo_isShared z_Mo_isShared e_Mo_isShared) (h_Mo_signOf : ct_ok l D kA GG y_Mo_signOf z_Mo_signOf e_Mo_signOf) (h_Mo_turnOf : ct_ok l D kA GG y_Mo_turnOf z_Mo_turnOf e_Mo_turnOf) : ct_ok l D kA GG y_Mo_meets z_Mo_meets e_Mo_meets := chk_all_ok (FT := []) (PT := []) (CT := t_Mo_meets_ct) (KT := []) (NT := []) (AN := n_Mo_meets_an) (OT := [o_Mo_meets_0, o_Mo_meets_1, o_Mo_meets_2, o_Mo_meets_3, o_Mo_meets_4, o_Mo_meets_5]) 1 852 (List.forall_mem_cons.mpr ⟨oo_Mo_meets_0, List.forall_mem_cons.mpr ⟨oo_Mo_meets_1, List.forall_mem_cons.mpr ⟨oo_Mo_meets_2, List.forall_mem_cons.mpr ⟨oo_Mo_meets_3, List.forall_mem_cons.mpr ⟨oo_Mo_meets_4, List.forall_mem_cons.mpr ⟨oo_Mo_meets_5, List.forall_mem_nil _⟩⟩⟩⟩⟩⟩) (by decide +kernel) ⟨List.forall_mem_nil _, List.forall_mem_nil _, List.forall_mem_cons.mpr ⟨cl_static (y := y_Mo_isLonger) h_Mo_isLonger wm_3764 wm_9 wm_3762 wm_3763 ⟨by decide, by decide, by decide +kernel⟩ (by decide), List.forall_mem_cons.mpr ⟨cl_virtual (y := y_Mo_crossAtShared) (ci := 13) rfl rfl ⟨_, _, rfl⟩ (by decide +kernel) h_Mo_crossAtShared wm_3752 wm_9 wm_3749 wm_3751 wv_22_12 ⟨by decide, by decide, by decide +kernel⟩ (by decide), List.forall_mem_cons.mpr ⟨cl_virtual (y := y_Mo_isShared) (ci := 13) rfl rfl ⟨_, _, rfl⟩ (by decide +kernel) h_Mo_isShared wm_3761 wm_9 wm_3758 wm_3760 wv_22_13 ⟨by decide, by decide, by decide +kernel⟩ (by decide), List.forall_mem_cons.mpr ⟨cl_nopa (cl_virtual (y := y_Mo_ex) (ci := 13) rfl rfl ⟨_, _, rfl⟩ (by decide +kernel) h_Mo_ex wm_3730 wm_9 wm_3727 wm_3729 wv_22_9 ⟨by decide, by decide, by decide +kernel⟩ (by decide)), List.forall_mem_cons.mpr ⟨cl_nopa (cl_virtual (y := y_Mo_ey) (ci := 13) rfl rfl ⟨_, _, rfl⟩ (by decide +kernel) h_Mo_ey wm_3734 wm_9 wm_3731 wm_3733 wv_22_10 ⟨by decide, by decide, by decide +kernel⟩ (by decide)), List.forall_mem_cons.mpr ⟨cl_nopa (cl_virtual (y := y_Mo_ex) (ci := 13) rfl rfl ⟨_, _, rfl⟩ (by decide +kernel) h_Mo_ex wm_3730 wm_9 wm_3727 wm_3729 wv_22_9 ⟨by decide, by decide, by decide +kernel⟩ (by decide)), List.forall_mem_cons.mpr ⟨cl_nopa (cl_virtual (y := y_Mo_ey) (ci := 13) rfl rfl ⟨_, _, rfl⟩ (by decide +kernel) h_Mo_ey wm_3734 wm_9 wm_3731 wm_3733 wv_22_10 ⟨by decide, by decide, by decide +kernel⟩ (by decide)), List.forall_mem_cons.mpr ⟨cl_nopa (cl_virtual (y := y_Mo_ex) (ci := 13) rfl rfl ⟨_, _, rfl⟩ (by decide +kernel) h_Mo_ex wm_3730 wm_9 wm_3727 wm_3729 wv_22_9 ⟨by decide, by decide, by decide +kernel⟩ (by decide)), List.forall_mem_cons.mpr ⟨cl_nopa (cl_virtual (y := y_Mo_ey) (ci := 13) rfl rfl ⟨_, _, rfl⟩ (by decide +kernel) h_Mo_ey wm_3734 wm_9 wm_3731 wm_3733 wv_22_10 ⟨by decide, by decide, by decide +kernel⟩ (by decide)), List.forall_mem_cons.mpr ⟨cl_nopa (cl_virtual (y := y_Mo_ex) (ci := 13) rfl rfl ⟨_, _, rfl⟩ (by decide +kernel) h_Mo_ex wm_3730 wm_9 wm_3727 wm_3729 wv_22_9 ⟨by decide, by decide, by decide +kernel⟩ (by decide)), List.forall_mem_cons.mpr ⟨cl_nopa (cl_virtual (y := y_Mo_ey) (ci := 13) rfl rfl ⟨_, _, rfl⟩ (by decide +kernel) h_Mo_ey wm_3734 wm_9 wm_3731 wm_3733 wv_22_10 ⟨by decide, by decide, by decide +kernel⟩ (by decide)), List.forall_mem_cons.mpr ⟨cl_nopa (cl_static (y := y_Mo_turnOf) h_Mo_turnOf wm_3745 wm_9 wm_3743 wm_3744 ⟨by decide, by decide, by decide +kernel⟩ (by decide)), List.forall_mem_cons.mpr ⟨cl_nopa (cl_static (y := y_Mo_signOf) h_Mo_signOf wm_3748 wm_9 wm_3746 wm_3747 ⟨by decide, by decide, by decide +kernel⟩ (by decide)), List.forall_mem_cons.mpr ⟨cl_nopa (cl_static (y := y_Mo_turnOf) h_Mo_turnOf wm_3745 wm_9 wm_3743 wm_3744 ⟨by decide, by decide, by decide +kernel⟩ (by decide)), List.forall_mem_cons.mpr ⟨cl_nopa (cl_static (y := y_Mo_signOf) h_Mo_signOf wm_3748 wm_9 wm_3746 wm_3747 ⟨by decide, by decide, by decide +kernel⟩ (by decide)), List.forall_mem_cons.mpr ⟨cl_nopa (cl_static (y := y_Mo_turnOf) h_Mo_turnOf wm_3745 wm_9 wm_3743 wm_3744 ⟨by decide, by decide, by decide +kernel⟩ (by decide)), List.forall_mem_cons.mpr ⟨cl_nopa (cl_static (y := y_Mo_signOf) h_Mo_signOf wm_3748 wm_9 wm_3746 wm_3747 ⟨by decide, by decide, by decide +kernel⟩ (by decide)), List.forall_mem_cons.mpr ⟨cl_nopa (cl_static (y := y_Mo_turnOf) h_Mo_turnOf wm_3745 wm_9 wm_3743 wm_3744 ⟨by decide, by decide, by decide +kernel⟩ (by decide)), List.forall_mem_cons.mpr ⟨cl_nopa (cl_static (y := y_Mo_signOf) h_Mo_signOf wm_3748 wm_9 wm_3746 wm_3747 ⟨by decide, by decide, by decide +kernel⟩ (by decide)), List.forall_mem_cons.mpr ⟨cl_nopa (cl_static (y := y_Mo_isOn) h_Mo_isOn wm_3755 wm_9 wm_3753 wm_3754 ⟨by decide, by decide, by decide +kernel⟩ (by decide)), List.forall_mem_cons.mpr ⟨cl_nopa (cl_static (y := y_Mo_isOn) h_Mo_isOn wm_3755 wm_9 wm_3753 wm_3754 ⟨by decide, by decide, by decide +kernel⟩ (by decide)), List.forall_mem_cons.mpr ⟨cl_nopa (cl_static (y := y_Mo_isOn) h_Mo_isOn wm_3755 wm_9 wm_3753 wm_3754 ⟨by decide, by decide, by decide +kernel⟩ (by decide)), List.forall_mem_cons.mpr ⟨cl_nopa (cl_static (y := y_Mo_isOn) h_Mo_isOn wm_3755 wm_9 wm_3753 wm_3754 ⟨by decide, by decide, by decide +kernel⟩ (by decide)), List.forall_mem_nil _⟩⟩⟩⟩⟩⟩⟩⟩⟩⟩⟩⟩⟩⟩⟩⟩⟩⟩⟩⟩⟩⟩⟩, List.forall_mem_nil _, List.forall_mem_nil _, GG_pl⟩ (by decide +kernel)
