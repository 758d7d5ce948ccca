def o_Mo_groupItem_at_k2_0 : or_T := (23, 8, [(0, (2, 0, 0, [150])), (1, (0, 0, 7, [])), (3, (0, 0, 2000, [])), (4, (0, 8, 8, [])), (5, (0, 8, 8, []))], [(20, [4, 0], [30, 0, 1, 0, 0, -1, 3, 2005002]), (20, [4, 0], [30, 0, -1, 0, 0, 1, 3, 2005002]), (20, [0, 0], [30, 0, 1, 1, 15, -1, 1, 11]), (20, [0], [50, 3, 0, 12, 11, 15, 2, 21, 4, 7, 1, 3, 2, 0, 12, 0, 1, 0, 3, 2, 0, 11, 4, 3, 2, 0, 15, 0, 8, 3, 7, 1, 3, 2, 0, 12, 0, 0, 0, 7, 4, 3, 2, 0, 15, 0, 1, 2, 0, 11]), (20, [3, 0], [30, 0, 1, 0, 0, -1, 1, 11]), (20, [1, 0], [50, 1, 1, 1005, 1002, 0, 6, 4, 2, 1, 0, 0, 1, 3, 1, 2, 4, 3, 2, 1, 5, 0, 2]), (20, [0], [30, -1, -1, 1, 8]), (102, [7], [0, 13008, 13009]), (7, [4, 5], [0])], [], [], [(20, [0, 3], [50, 2, 0, 8, 11, 3, 7, 0, 2, 0, 1, 2, 0, 8, 0, 6, 4, 2, 1, 1, 0, 1, 2, 0, 11])], [], [])
theorem oo_Mo_groupItem_at_k2_0 {kA : Nat → ClassId} : or_ok kA GG o_Mo_groupItem_at_k2_0 := by
  intro A ta ws vs hD hth hl hk hds hf
  have hl : vs.length = 8 := hl
  have hk : ∀ q ∈ ([(0, (2, 0, 0, [150])), (1, (0, 0, 7, [])), (3, (0, 0, 2000, [])), (4, (0, 8, 8, [])), (5, (0, 8, 8, []))] : List (Nat × tv_T)), tv_ok ta q.2 (n_v vs q.1) := hk
  obtain ⟨t0, hk⟩ := List.forall_mem_cons.mp hk
  have t0 : tv_ok ta (2, 0, 0, [150]) (n_v vs 0) := t0
  have r0 : ta (v_ad (n_v vs 0)) = some 150 := tv_rg t0
  obtain ⟨t1, hk⟩ := List.forall_mem_cons.mp hk
  have t1 : tv_ok ta (0, 0, 7, []) (n_v vs 1) := t1
  have k1 : 0 ≤ v_iv (n_v vs 1) ∧ v_iv (n_v vs 1) ≤ 7 := tv_rng t1
  obtain ⟨t3, hk⟩ := List.forall_mem_cons.mp hk
  have t3 : tv_ok ta (0, 0, 2000, []) (n_v vs 3) := t3
  have k3 : 0 ≤ v_iv (n_v vs 3) ∧ v_iv (n_v vs 3) ≤ 2000 := tv_rng t3
  obtain ⟨t4, hk⟩ := List.forall_mem_cons.mp hk
  have t4 : tv_ok ta (0, 8, 8, []) (n_v vs 4) := t4
  have k4 : 8 ≤ v_iv (n_v vs 4) ∧ v_iv (n_v vs 4) ≤ 8 := tv_rng t4
  obtain ⟨t5, hk⟩ := List.forall_mem_cons.mp hk
  have t5 : tv_ok ta (0, 8, 8, []) (n_v vs 5) := t5
  have k5 : 8 ≤ v_iv (n_v vs 5) ∧ v_iv (n_v vs 5) ≤ 8 := tv_rng t5
  have hf : fc_ok [(20, [4, 0], [30, 0, 1, 0, 0, -1, 3, 2005002]), (20, [4, 0], [30, 0, -1, 0, 0, 1, 3, 2005002]), (20, [0, 0], [30, 0, 1, 1, 15, -1, 1, 11]), (20, [0], [50, 3, 0, 12, 11, 15, 2, 21, 4, 7, 1, 3, 2, 0, 12, 0, 1, 0, 3, 2, 0, 11, 4, 3, 2, 0, 15, 0, 8, 3, 7, 1, 3, 2, 0, 12, 0, 0, 0, 7, 4, 3, 2, 0, 15, 0, 1, 2, 0, 11]), (20, [3, 0], [30, 0, 1, 0, 0, -1, 1, 11]), (20, [1, 0], [50, 1, 1, 1005, 1002, 0, 6, 4, 2, 1, 0, 0, 1, 3, 1, 2, 4, 3, 2, 1, 5, 0, 2]), (20, [0], [30, -1, -1, 1, 8]), (102, [7], [0, 13008, 13009]), (7, [4, 5], [0])] ta ws vs := hf
  obtain ⟨f0, hf⟩ := fc_un (show (20 : Nat) < 100 from by decide) hf
  have f0 : 1 * v_iv (n_v vs 4) + ((-1) * w_el ws (w_ar ws (n_v vs 0) 2) (w_fi ws (n_v vs 0) 5 + 2).toNat + 0) ≤ 0 := f0
  obtain ⟨f1, hf⟩ := fc_un (show (20 : Nat) < 100 from by decide) hf
  have f1 : (-1) * v_iv (n_v vs 4) + (1 * w_el ws (w_ar ws (n_v vs 0) 2) (w_fi ws (n_v vs 0) 5 + 2).toNat + 0) ≤ 0 := f1
  obtain ⟨f2, hf⟩ := fc_un (show (20 : Nat) < 100 from by decide) hf
  have f2 : 1 * w_fi ws (n_v vs 0) 15 + ((-1) * w_fi ws (n_v vs 0) 11 + 0) ≤ 0 := f2
  obtain ⟨f3, hf⟩ := fc_un (show (20 : Nat) < 100 from by decide) hf
  have f3 : ((w_fi ws (n_v vs 0) 12 = 1) → (w_fi ws (n_v vs 0) 11 ≤ (w_fi ws (n_v vs 0) 15 + 8))) ∧ ((w_fi ws (n_v vs 0) 12 = 0) ∨ ((w_fi ws (n_v vs 0) 15 + 1) ≤ w_fi ws (n_v vs 0) 11)) := f3
  obtain ⟨f4, hf⟩ := fc_un (show (20 : Nat) < 100 from by decide) hf
  have f4 : 1 * v_iv (n_v vs 3) + ((-1) * w_fi ws (n_v vs 0) 11 + 0) ≤ 0 := f4
  obtain ⟨f5, hf⟩ := fc_un (show (20 : Nat) < 100 from by decide) hf
  have f5 : (v_iv (n_v vs 1) + 1) ≤ w_ei ws (w_ar ws (n_v vs 0) 2) ((w_fi ws (n_v vs 0) 5 + 2)) := f5
  obtain ⟨f6, hf⟩ := fc_un (show (20 : Nat) < 100 from by decide) hf
  have f6 : (-1) * w_fi ws (n_v vs 0) 8 + 0 ≤ (-1) := f6
  obtain ⟨ta1, w1, le1, ⟨_, s1⟩, hf⟩ := fc_us (show ¬ (102 : Nat) < 100 from by decide) hf
  obtain ⟨f8, hf⟩ := fc_un (show (7 : Nat) < 100 from by decide) hf
  have f8 : v_iv (n_v vs 4) = v_iv (n_v vs 5) := f8
  have cr_0_2 : ta (w_ar ws (n_v vs 0) 2) = some 152 := tv_rg (th_fd hD hth r0 (g := GG_150) rfl (k := 2) (t := (2, 0, 0, [152])) rfl rfl)
  have br_0_2_F5_2_0 : w_ei ws (w_ar ws (n_v vs 0) 2) (w_fi ws (n_v vs 0) 5 + 2) = w_el ws (w_ar ws (n_v vs 0) 2) (w_fi ws (n_v vs 0) 5 + 2).toNat := rfl
  have kz_0_8 : 0 ≤ w_fi ws (n_v vs 0) 8 ∧ w_fi ws (n_v vs 0) 8 ≤ 5 := tv_rng (th_fd hD hth r0 (g := GG_150) rfl (k := 8) (t := (0, 0, 5, [])) rfl rfl)
  have kz_0_11 : 0 ≤ w_fi ws (n_v vs 0) 11 ∧ w_fi ws (n_v vs 0) 11 ≤ 2000 := tv_rng (th_fd hD hth r0 (g := GG_150) rfl (k := 11) (t := (0, 0, 2000, [])) rfl rfl)
  have kz_0_12 : 0 ≤ w_fi ws (n_v vs 0) 12 ∧ w_fi ws (n_v vs 0) 12 ≤ 4 := tv_rng (th_fd hD hth r0 (g := GG_150) rfl (k := 12) (t := (0, 0, 4, [])) rfl rfl)
  have kz_0_15 : 0 ≤ w_fi ws (n_v vs 0) 15 ∧ w_fi ws (n_v vs 0) 15 ≤ 2000 := tv_rng (th_fd hD hth r0 (g := GG_150) rfl (k := 15) (t := (0, 0, 2000, [])) rfl rfl)
  have nf0 : fc_1 (20, [0, 3], [50, 2, 0, 8, 11, 3, 7, 0, 2, 0, 1, 2, 0, 8, 0, 6, 4, 2, 1, 1, 0, 1, 2, 0, 11]) ws (vs) := by
    refine ⟨fun n hn => ?_, ?_⟩
    · have hn : n ∈ [0, 3] := hn
      rw [hl]
      simp only [List.mem_cons, List.not_mem_nil, or_false] at hn
      show n < 8; omega
    · show (1 ≤ w_fi ws (n_v vs 0) 8) ∨ ((v_iv (n_v vs 3) + 1) ≤ w_fi ws (n_v vs 0) 11)
      first | omega | grind
  refine ⟨(fun _ h => (by cases h)), [], trivial, ?_, (fun _ h => (by cases h))⟩
  rw [List.append_nil]
  exact List.forall_mem_cons.mpr ⟨⟨show (20 : Nat) < 100 from by decide, nf0⟩, (fun _ h => (by cases h))⟩
def o_Mo_groupItem_at_k2_1 : or_T := (25, 7, [(0, (2, 0, 0, [150])), (1, (0, 0, 7, [])), (3, (0, 0, 2000, [])), (4, (0, 0, 7, [])), (5, (0, 8, 8, []))], [(7, [4, 5], [1]), (20, [4, 0], [30, 0, 1, 0, 0, -1, 3, 2005002]), (20, [4, 0], [30, 0, -1, 0, 0, 1, 3, 2005002]), (20, [0, 0], [30, 0, 1, 1, 15, -1, 1, 11]), (20, [0], [50, 3, 0, 12, 11, 15, 2, 21, 4, 7, 1, 3, 2, 0, 12, 0, 1, 0, 3, 2, 0, 11, 4, 3, 2, 0, 15, 0, 8, 3, 7, 1, 3, 2, 0, 12, 0, 0, 0, 7, 4, 3, 2, 0, 15, 0, 1, 2, 0, 11]), (20, [3, 0], [30, 0, 1, 0, 0, -1, 1, 11]), (20, [1, 0], [50, 1, 1, 1005, 1002, 0, 6, 4, 2, 1, 0, 0, 1, 3, 1, 2, 4, 3, 2, 1, 5, 0, 2])], [], [(0, 0, 2000, [])], [(23, [7, 3], [0, 1, -1]), (23, [7, 3], [0, -1, 1]), (20, [7, 0], [30, 0, 1, 0, 0, -1, 1, 11])], [], [])
theorem oo_Mo_groupItem_at_k2_1 {kA : Nat → ClassId} : or_ok kA GG o_Mo_groupItem_at_k2_1 := by
  intro A ta ws vs hD hth hl hk hds hf
  have hl : vs.length = 7 := hl
  have hk : ∀ q ∈ ([(0, (2, 0, 0, [150])), (1, (0, 0, 7, [])), (3, (0, 0, 2000, [])), (4, (0, 0, 7, [])), (5, (0, 8, 8, []))] : List (Nat × tv_T)), tv_ok ta q.2 (n_v vs q.1) := hk
  obtain ⟨t0, hk⟩ := List.forall_mem_cons.mp hk
  have t0 : tv_ok ta (2, 0, 0, [150]) (n_v vs 0) := t0
  have r0 : ta (v_ad (n_v vs 0)) = some 150 := tv_rg t0
  obtain ⟨t1, hk⟩ := List.forall_mem_cons.mp hk
  have t1 : tv_ok ta (0, 0, 7, []) (n_v vs 1) := t1
  have k1 : 0 ≤ v_iv (n_v vs 1) ∧ v_iv (n_v vs 1) ≤ 7 := tv_rng t1
  obtain ⟨t3, hk⟩ := List.forall_mem_cons.mp hk
  have t3 : tv_ok ta (0, 0, 2000, []) (n_v vs 3) := t3
  have k3 : 0 ≤ v_iv (n_v vs 3) ∧ v_iv (n_v vs 3) ≤ 2000 := tv_rng t3
  obtain ⟨t4, hk⟩ := List.forall_mem_cons.mp hk
  have t4 : tv_ok ta (0, 0, 7, []) (n_v vs 4) := t4
  have k4 : 0 ≤ v_iv (n_v vs 4) ∧ v_iv (n_v vs 4) ≤ 7 := tv_rng t4
  obtain ⟨t5, hk⟩ := List.forall_mem_cons.mp hk
  have t5 : tv_ok ta (0, 8, 8, []) (n_v vs 5) := t5
  have k5 : 8 ≤ v_iv (n_v vs 5) ∧ v_iv (n_v vs 5) ≤ 8 := tv_rng t5
  have hf : fc_ok [(7, [4, 5], [1]), (20, [4, 0], [30, 0, 1, 0, 0, -1, 3, 2005002]), (20, [4, 0], [30, 0, -1, 0, 0, 1, 3, 2005002]), (20, [0, 0], [30, 0, 1, 1, 15, -1, 1, 11]), (20, [0], [50, 3, 0, 12, 11, 15, 2, 21, 4, 7, 1, 3, 2, 0, 12, 0, 1, 0, 3, 2, 0, 11, 4, 3, 2, 0, 15, 0, 8, 3, 7, 1, 3, 2, 0, 12, 0, 0, 0, 7, 4, 3, 2, 0, 15, 0, 1, 2, 0, 11]), (20, [3, 0], [30, 0, 1, 0, 0, -1, 1, 11]), (20, [1, 0], [50, 1, 1, 1005, 1002, 0, 6, 4, 2, 1, 0, 0, 1, 3, 1, 2, 4, 3, 2, 1, 5, 0, 2])] ta ws vs := hf
  obtain ⟨f0, hf⟩ := fc_un (show (7 : Nat) < 100 from by decide) hf
  have f0 : v_iv (n_v vs 4) ≠ v_iv (n_v vs 5) := f0
  obtain ⟨f1, hf⟩ := fc_un (show (20 : Nat) < 100 from by decide) hf
  have f1 : 1 * v_iv (n_v vs 4) + ((-1) * w_el ws (w_ar ws (n_v vs 0) 2) (w_fi ws (n_v vs 0) 5 + 2).toNat + 0) ≤ 0 := f1
  obtain ⟨f2, hf⟩ := fc_un (show (20 : Nat) < 100 from by decide) hf
  have f2 : (-1) * v_iv (n_v vs 4) + (1 * w_el ws (w_ar ws (n_v vs 0) 2) (w_fi ws (n_v vs 0) 5 + 2).toNat + 0) ≤ 0 := f2
  obtain ⟨f3, hf⟩ := fc_un (show (20 : Nat) < 100 from by decide) hf
  have f3 : 1 * w_fi ws (n_v vs 0) 15 + ((-1) * w_fi ws (n_v vs 0) 11 + 0) ≤ 0 := f3
  obtain ⟨f4, hf⟩ := fc_un (show (20 : Nat) < 100 from by decide) hf
  have f4 : ((w_fi ws (n_v vs 0) 12 = 1) → (w_fi ws (n_v vs 0) 11 ≤ (w_fi ws (n_v vs 0) 15 + 8))) ∧ ((w_fi ws (n_v vs 0) 12 = 0) ∨ ((w_fi ws (n_v vs 0) 15 + 1) ≤ w_fi ws (n_v vs 0) 11)) := f4
  obtain ⟨f5, hf⟩ := fc_un (show (20 : Nat) < 100 from by decide) hf
  have f5 : 1 * v_iv (n_v vs 3) + ((-1) * w_fi ws (n_v vs 0) 11 + 0) ≤ 0 := f5
  obtain ⟨f6, hf⟩ := fc_un (show (20 : Nat) < 100 from by decide) hf
  have f6 : (v_iv (n_v vs 1) + 1) ≤ w_ei ws (w_ar ws (n_v vs 0) 2) ((w_fi ws (n_v vs 0) 5 + 2)) := f6
  have cr_0_2 : ta (w_ar ws (n_v vs 0) 2) = some 152 := tv_rg (th_fd hD hth r0 (g := GG_150) rfl (k := 2) (t := (2, 0, 0, [152])) rfl rfl)
  have br_0_2_F5_2_0 : w_ei ws (w_ar ws (n_v vs 0) 2) (w_fi ws (n_v vs 0) 5 + 2) = w_el ws (w_ar ws (n_v vs 0) 2) (w_fi ws (n_v vs 0) 5 + 2).toNat := rfl
  have kz_0_11 : 0 ≤ w_fi ws (n_v vs 0) 11 ∧ w_fi ws (n_v vs 0) 11 ≤ 2000 := tv_rng (th_fd hD hth r0 (g := GG_150) rfl (k := 11) (t := (0, 0, 2000, [])) rfl rfl)
  have kz_0_12 : 0 ≤ w_fi ws (n_v vs 0) 12 ∧ w_fi ws (n_v vs 0) 12 ≤ 4 := tv_rng (th_fd hD hth r0 (g := GG_150) rfl (k := 12) (t := (0, 0, 4, [])) rfl rfl)
  have kz_0_15 : 0 ≤ w_fi ws (n_v vs 0) 15 ∧ w_fi ws (n_v vs 0) 15 ≤ 2000 := tv_rng (th_fd hD hth r0 (g := GG_150) rfl (k := 15) (t := (0, 0, 2000, [])) rfl rfl)
  obtain ⟨x, ex, hx⟩ := iv_ex (ta := ta) (lo := 0) (hi := 2000) (z := v_iv (n_v vs 3)) (by omega) (by omega) (by omega) (by omega)
  have ex2 : v_iv (Value.int x) = v_iv (n_v vs 3) := ex
  have ex3 : 0 ≤ v_iv (Value.int x) ∧ v_iv (Value.int x) ≤ 2000 := tv_rng hx
  have e_0 : n_v (vs ++ [Value.int x]) 0 = n_v vs 0 := n_v_old (by rw [hl]; decide)
  have e_3 : n_v (vs ++ [Value.int x]) 3 = n_v vs 3 := n_v_old (by rw [hl]; decide)
  have e_7 : n_v (vs ++ [Value.int x]) 7 = Value.int x := n_v_new hl
  have nf0 : fc_1 (23, [7, 3], [0, 1, -1]) ws (vs ++ [Value.int x]) := by
    refine ⟨fun n hn => ?_, ?_⟩
    · have hn : n ∈ [7, 3] := hn
      rw [List.length_append, hl]
      simp only [List.mem_cons, List.not_mem_nil, or_false] at hn
      show n < 7 + 1; omega
    · show 1 * v_iv (n_v (vs ++ [Value.int x]) 7) + ((-1) * v_iv (n_v (vs ++ [Value.int x]) 3) + 0) ≤ 0
      rw [e_3]
      rw [e_7]
      omega
  have nf1 : fc_1 (23, [7, 3], [0, -1, 1]) ws (vs ++ [Value.int x]) := by
    refine ⟨fun n hn => ?_, ?_⟩
    · have hn : n ∈ [7, 3] := hn
      rw [List.length_append, hl]
      simp only [List.mem_cons, List.not_mem_nil, or_false] at hn
      show n < 7 + 1; omega
    · show (-1) * v_iv (n_v (vs ++ [Value.int x]) 7) + (1 * v_iv (n_v (vs ++ [Value.int x]) 3) + 0) ≤ 0
      rw [e_3]
      rw [e_7]
      omega
  have nf2 : fc_1 (20, [7, 0], [30, 0, 1, 0, 0, -1, 1, 11]) ws (vs ++ [Value.int x]) := by
    refine ⟨fun n hn => ?_, ?_⟩
    · have hn : n ∈ [7, 0] := hn
      rw [List.length_append, hl]
      simp only [List.mem_cons, List.not_mem_nil, or_false] at hn
      show n < 7 + 1; omega
    · show 1 * v_iv (n_v (vs ++ [Value.int x]) 7) + ((-1) * w_fi ws (n_v (vs ++ [Value.int x]) 0) 11 + 0) ≤ 0
      rw [e_0]
      rw [e_7]
      omega
  exact ⟨(fun _ h => (by cases h)), [Value.int x], ag_one hx, List.forall_mem_cons.mpr ⟨⟨show (23 : Nat) < 100 from by decide, nf0⟩, List.forall_mem_cons.mpr ⟨⟨show (23 : Nat) < 100 from by decide, nf1⟩, List.forall_mem_cons.mpr ⟨⟨show (20 : Nat) < 100 from by decide, nf2⟩, (fun _ h => (by cases h))⟩⟩⟩, (fun _ h => (by cases h))⟩
def o_Mo_groupItem_at_k2_2 : or_T := (49, 10, [(0, (2, 0, 0, [150])), (1, (0, 0, 7, [])), (3, (0, 0, 2000, [])), (4, (0, 0, 7, [])), (5, (0, 8, 8, [])), (7, (0, 0, 2000, [])), (8, (0, 1, 1, [])), (9, (0, 0, 8, []))], [(20, [9, 0], [30, 0, 1, 0, 0, -1, 3, 2005002]), (20, [9, 0], [30, 0, -1, 0, 0, 1, 3, 2005002]), (8, [8], [1]), (23, [7, 3], [0, 1, -1]), (23, [7, 3], [0, -1, 1]), (20, [4, 0], [30, 0, 1, 0, 0, -1, 3, 2005002]), (20, [4, 0], [30, 0, -1, 0, 0, 1, 3, 2005002]), (20, [1, 0], [50, 1, 1, 1005, 1002, 0, 6, 4, 2, 1, 0, 0, 1, 3, 1, 2, 4, 3, 2, 1, 5, 0, 2]), (20, [0, 0], [30, 0, 1, 1, 15, -1, 1, 11]), (20, [0], [50, 3, 0, 12, 11, 15, 2, 21, 4, 7, 1, 3, 2, 0, 12, 0, 1, 0, 3, 2, 0, 11, 4, 3, 2, 0, 15, 0, 8, 3, 7, 1, 3, 2, 0, 12, 0, 0, 0, 7, 4, 3, 2, 0, 15, 0, 1, 2, 0, 11]), (20, [7, 0], [30, 0, 1, 0, 0, -1, 1, 15]), (20, [8, 0], [50, 1, 0, 1012, 4, 6, 1, 2, 1, 0, 0, 1, 1, 3, 2, 1, 12, 0, 1]), (102, [7], [0]), (23, [7, 3], [0, 1, -1]), (23, [7, 3], [0, -1, 1]), (102, [7], [0, 13011, 13012, 13013, 13014, 13015]), (23, [7, 3], [0, 1, -1]), (23, [7, 3], [0, -1, 1]), (7, [4, 5], [1])], [(9, (0, 0, 7, []))], [], [], [], [])
theorem oo_Mo_groupItem_at_k2_2 {kA : Nat → ClassId} : or_ok kA GG o_Mo_groupItem_at_k2_2 := by
  intro A ta ws vs hD hth hl hk hds hf
  have hl : vs.length = 10 := hl
  have hk : ∀ q ∈ ([(0, (2, 0, 0, [150])), (1, (0, 0, 7, [])), (3, (0, 0, 2000, [])), (4, (0, 0, 7, [])), (5, (0, 8, 8, [])), (7, (0, 0, 2000, [])), (8, (0, 1, 1, [])), (9, (0, 0, 8, []))] : List (Nat × tv_T)), tv_ok ta q.2 (n_v vs q.1) := hk
  obtain ⟨t0, hk⟩ := List.forall_mem_cons.mp hk
  have t0 : tv_ok ta (2, 0, 0, [150]) (n_v vs 0) := t0
  have r0 : ta (v_ad (n_v vs 0)) = some 150 := tv_rg t0
  obtain ⟨t1, hk⟩ := List.forall_mem_cons.mp hk
  have t1 : tv_ok ta (0, 0, 7, []) (n_v vs 1) := t1
  have k1 : 0 ≤ v_iv (n_v vs 1) ∧ v_iv (n_v vs 1) ≤ 7 := tv_rng t1
  obtain ⟨t3, hk⟩ := List.forall_mem_cons.mp hk
  have t3 : tv_ok ta (0, 0, 2000, []) (n_v vs 3) := t3
  have k3 : 0 ≤ v_iv (n_v vs 3) ∧ v_iv (n_v vs 3) ≤ 2000 := tv_rng t3
  obtain ⟨t4, hk⟩ := List.forall_mem_cons.mp hk
  have t4 : tv_ok ta (0, 0, 7, []) (n_v vs 4) := t4
  have k4 : 0 ≤ v_iv (n_v vs 4) ∧ v_iv (n_v vs 4) ≤ 7 := tv_rng t4
  obtain ⟨t5, hk⟩ := List.forall_mem_cons.mp hk
  have t5 : tv_ok ta (0, 8, 8, []) (n_v vs 5) := t5
  have k5 : 8 ≤ v_iv (n_v vs 5) ∧ v_iv (n_v vs 5) ≤ 8 := tv_rng t5
  obtain ⟨t7, hk⟩ := List.forall_mem_cons.mp hk
  have t7 : tv_ok ta (0, 0, 2000, []) (n_v vs 7) := t7
  have k7 : 0 ≤ v_iv (n_v vs 7) ∧ v_iv (n_v vs 7) ≤ 2000 := tv_rng t7
  obtain ⟨t8, hk⟩ := List.forall_mem_cons.mp hk
  have t8 : tv_ok ta (0, 1, 1, []) (n_v vs 8) := t8
  have k8 : 1 ≤ v_iv (n_v vs 8) ∧ v_iv (n_v vs 8) ≤ 1 := tv_rng t8
  obtain ⟨t9, hk⟩ := List.forall_mem_cons.mp hk
  have t9 : tv_ok ta (0, 0, 8, []) (n_v vs 9) := t9
  have k9 : 0 ≤ v_iv (n_v vs 9) ∧ v_iv (n_v vs 9) ≤ 8 := tv_rng t9
  have hf : fc_ok [(20, [9, 0], [30, 0, 1, 0, 0, -1, 3, 2005002]), (20, [9, 0], [30, 0, -1, 0, 0, 1, 3, 2005002]), (8, [8], [1]), (23, [7, 3], [0, 1, -1]), (23, [7, 3], [0, -1, 1]), (20, [4, 0], [30, 0, 1, 0, 0, -1, 3, 2005002]), (20, [4, 0], [30, 0, -1, 0, 0, 1, 3, 2005002]), (20, [1, 0], [50, 1, 1, 1005, 1002, 0, 6, 4, 2, 1, 0, 0, 1, 3, 1, 2, 4, 3, 2, 1, 5, 0, 2]), (20, [0, 0], [30, 0, 1, 1, 15, -1, 1, 11]), (20, [0], [50, 3, 0, 12, 11, 15, 2, 21, 4, 7, 1, 3, 2, 0, 12, 0, 1, 0, 3, 2, 0, 11, 4, 3, 2, 0, 15, 0, 8, 3, 7, 1, 3, 2, 0, 12, 0, 0, 0, 7, 4, 3, 2, 0, 15, 0, 1, 2, 0, 11]), (20, [7, 0], [30, 0, 1, 0, 0, -1, 1, 15]), (20, [8, 0], [50, 1, 0, 1012, 4, 6, 1, 2, 1, 0, 0, 1, 1, 3, 2, 1, 12, 0, 1]), (102, [7], [0]), (23, [7, 3], [0, 1, -1]), (23, [7, 3], [0, -1, 1]), (102, [7], [0, 13011, 13012, 13013, 13014, 13015]), (23, [7, 3], [0, 1, -1]), (23, [7, 3], [0, -1, 1]), (7, [4, 5], [1])] ta ws vs := hf
  obtain ⟨f0, hf⟩ := fc_un (show (20 : Nat) < 100 from by decide) hf
  have f0 : 1 * v_iv (n_v vs 9) + ((-1) * w_el ws (w_ar ws (n_v vs 0) 2) (w_fi ws (n_v vs 0) 5 + 2).toNat + 0) ≤ 0 := f0
  obtain ⟨f1, hf⟩ := fc_un (show (20 : Nat) < 100 from by decide) hf
  have f1 : (-1) * v_iv (n_v vs 9) + (1 * w_el ws (w_ar ws (n_v vs 0) 2) (w_fi ws (n_v vs 0) 5 + 2).toNat + 0) ≤ 0 := f1
  obtain ⟨f2, hf⟩ := fc_un (show (8 : Nat) < 100 from by decide) hf
  have f2 : v_iv (n_v vs 8) ≠ 0 := f2
  obtain ⟨f3, hf⟩ := fc_un (show (23 : Nat) < 100 from by decide) hf
  have f3 : 1 * v_iv (n_v vs 7) + ((-1) * v_iv (n_v vs 3) + 0) ≤ 0 := f3
  obtain ⟨f4, hf⟩ := fc_un (show (23 : Nat) < 100 from by decide) hf
  have f4 : (-1) * v_iv (n_v vs 7) + (1 * v_iv (n_v vs 3) + 0) ≤ 0 := f4
  obtain ⟨f5, hf⟩ := fc_un (show (20 : Nat) < 100 from by decide) hf
  have f5 : 1 * v_iv (n_v vs 4) + ((-1) * w_el ws (w_ar ws (n_v vs 0) 2) (w_fi ws (n_v vs 0) 5 + 2).toNat + 0) ≤ 0 := f5
  obtain ⟨f6, hf⟩ := fc_un (show (20 : Nat) < 100 from by decide) hf
  have f6 : (-1) * v_iv (n_v vs 4) + (1 * w_el ws (w_ar ws (n_v vs 0) 2) (w_fi ws (n_v vs 0) 5 + 2).toNat + 0) ≤ 0 := f6
  obtain ⟨f7, hf⟩ := fc_un (show (20 : Nat) < 100 from by decide) hf
  have f7 : (v_iv (n_v vs 1) + 1) ≤ w_ei ws (w_ar ws (n_v vs 0) 2) ((w_fi ws (n_v vs 0) 5 + 2)) := f7
  obtain ⟨f8, hf⟩ := fc_un (show (20 : Nat) < 100 from by decide) hf
  have f8 : 1 * w_fi ws (n_v vs 0) 15 + ((-1) * w_fi ws (n_v vs 0) 11 + 0) ≤ 0 := f8
  obtain ⟨f9, hf⟩ := fc_un (show (20 : Nat) < 100 from by decide) hf
  have f9 : ((w_fi ws (n_v vs 0) 12 = 1) → (w_fi ws (n_v vs 0) 11 ≤ (w_fi ws (n_v vs 0) 15 + 8))) ∧ ((w_fi ws (n_v vs 0) 12 = 0) ∨ ((w_fi ws (n_v vs 0) 15 + 1) ≤ w_fi ws (n_v vs 0) 11)) := f9
  obtain ⟨f10, hf⟩ := fc_un (show (20 : Nat) < 100 from by decide) hf
  have f10 : 1 * v_iv (n_v vs 7) + ((-1) * w_fi ws (n_v vs 0) 15 + 0) ≤ 0 := f10
  obtain ⟨f11, hf⟩ := fc_un (show (20 : Nat) < 100 from by decide) hf
  have f11 : (v_iv (n_v vs 8) = 1) → (w_fi ws (n_v vs 0) 12 = 1) := f11
  obtain ⟨ta1, w1, le1, ⟨_, s1⟩, hf⟩ := fc_us (show ¬ (102 : Nat) < 100 from by decide) hf
  obtain ⟨f13, hf⟩ := fc_un (show (23 : Nat) < 100 from by decide) hf
  have f13 : 1 * v_iv (n_v vs 7) + ((-1) * v_iv (n_v vs 3) + 0) ≤ 0 := f13
  obtain ⟨f14, hf⟩ := fc_un (show (23 : Nat) < 100 from by decide) hf
  have f14 : (-1) * v_iv (n_v vs 7) + (1 * v_iv (n_v vs 3) + 0) ≤ 0 := f14
  obtain ⟨ta2, w2, le2, ⟨_, s2⟩, hf⟩ := fc_us (show ¬ (102 : Nat) < 100 from by decide) hf
  obtain ⟨f16, hf⟩ := fc_un (show (23 : Nat) < 100 from by decide) hf
  have f16 : 1 * v_iv (n_v vs 7) + ((-1) * v_iv (n_v vs 3) + 0) ≤ 0 := f16
  obtain ⟨f17, hf⟩ := fc_un (show (23 : Nat) < 100 from by decide) hf
  have f17 : (-1) * v_iv (n_v vs 7) + (1 * v_iv (n_v vs 3) + 0) ≤ 0 := f17
  obtain ⟨f18, hf⟩ := fc_un (show (7 : Nat) < 100 from by decide) hf
  have f18 : v_iv (n_v vs 4) ≠ v_iv (n_v vs 5) := f18
  have cr_0_2 : ta (w_ar ws (n_v vs 0) 2) = some 152 := tv_rg (th_fd hD hth r0 (g := GG_150) rfl (k := 2) (t := (2, 0, 0, [152])) rfl rfl)
  have br_0_2_F5_2_0 : w_ei ws (w_ar ws (n_v vs 0) 2) (w_fi ws (n_v vs 0) 5 + 2) = w_el ws (w_ar ws (n_v vs 0) 2) (w_fi ws (n_v vs 0) 5 + 2).toNat := rfl
  have kz_0_11 : 0 ≤ w_fi ws (n_v vs 0) 11 ∧ w_fi ws (n_v vs 0) 11 ≤ 2000 := tv_rng (th_fd hD hth r0 (g := GG_150) rfl (k := 11) (t := (0, 0, 2000, [])) rfl rfl)
  have kz_0_12 : 0 ≤ w_fi ws (n_v vs 0) 12 ∧ w_fi ws (n_v vs 0) 12 ≤ 4 := tv_rng (th_fd hD hth r0 (g := GG_150) rfl (k := 12) (t := (0, 0, 4, [])) rfl rfl)
  have kz_0_15 : 0 ≤ w_fi ws (n_v vs 0) 15 ∧ w_fi ws (n_v vs 0) 15 ≤ 2000 := tv_rng (th_fd hD hth r0 (g := GG_150) rfl (k := 15) (t := (0, 0, 2000, [])) rfl rfl)
  have rf9 : tv_ok ta (0, 0, 7, []) (n_v vs 9) := tv_in t9 (by first | omega | grind) (by first | omega | grind)
  refine ⟨List.forall_mem_cons.mpr ⟨rf9, (fun _ h => (by cases h))⟩, [], trivial, ?_, (fun _ h => (by cases h))⟩
  rw [List.append_nil]
  exact (fun _ h => (by cases h))
def o_Mo_groupItem_at_k2_3 : or_T := (64, 17, [(0, (2, 0, 0, [150])), (1, (0, 0, 7, [])), (3, (0, 0, 2000, [])), (4, (0, 0, 7, [])), (5, (0, 8, 8, [])), (7, (0, 0, 2000, [])), (8, (0, 1, 1, [])), (9, (0, 0, 7, [])), (10, (2, 0, 0, [152])), (11, (0, 0, 66297, [])), (12, (0, 2, 2, [])), (13, (0, 2, 66299, [])), (14, (0, 0, 8, [])), (15, (0, 1, 1, [])), (16, (0, 1, 9, []))], [(1, [16, 14, 15], []), (10, [14, 10, 13], []), (1, [13, 11, 12], []), (9, [11, 0], [5]), (9, [10, 0], [2]), (20, [9, 0], [30, 0, 1, 0, 0, -1, 3, 2005002]), (20, [9, 0], [30, 0, -1, 0, 0, 1, 3, 2005002]), (8, [8], [1]), (23, [7, 3], [0, 1, -1]), (23, [7, 3], [0, -1, 1]), (20, [4, 0], [30, 0, 1, 0, 0, -1, 3, 2005002]), (20, [4, 0], [30, 0, -1, 0, 0, 1, 3, 2005002]), (20, [1, 0], [50, 1, 1, 1005, 1002, 0, 6, 4, 2, 1, 0, 0, 1, 3, 1, 2, 4, 3, 2, 1, 5, 0, 2]), (20, [0, 0], [30, 0, 1, 1, 15, -1, 1, 11]), (20, [0], [50, 3, 0, 12, 11, 15, 2, 21, 4, 7, 1, 3, 2, 0, 12, 0, 1, 0, 3, 2, 0, 11, 4, 3, 2, 0, 15, 0, 8, 3, 7, 1, 3, 2, 0, 12, 0, 0, 0, 7, 4, 3, 2, 0, 15, 0, 1, 2, 0, 11]), (20, [7, 0], [30, 0, 1, 0, 0, -1, 1, 15]), (20, [8, 0], [50, 1, 0, 1012, 4, 6, 1, 2, 1, 0, 0, 1, 1, 3, 2, 1, 12, 0, 1]), (102, [7], [0]), (23, [7, 3], [0, 1, -1]), (23, [7, 3], [0, -1, 1]), (102, [7], [0, 13011, 13012, 13013, 13014, 13015]), (23, [7, 3], [0, 1, -1]), (23, [7, 3], [0, -1, 1]), (7, [4, 5], [1])], [(16, (0, 1, 8, []))], [], [], [], [(16, 14, 1, 1), (13, 11, 2, 2)])
theorem oo_Mo_groupItem_at_k2_3 {kA : Nat → ClassId} : or_ok kA GG o_Mo_groupItem_at_k2_3 := by
  intro A ta ws vs hD hth hl hk hds hf
  have hl : vs.length = 17 := hl
  have hk : ∀ q ∈ ([(0, (2, 0, 0, [150])), (1, (0, 0, 7, [])), (3, (0, 0, 2000, [])), (4, (0, 0, 7, [])), (5, (0, 8, 8, [])), (7, (0, 0, 2000, [])), (8, (0, 1, 1, [])), (9, (0, 0, 7, [])), (10, (2, 0, 0, [152])), (11, (0, 0, 66297, [])), (12, (0, 2, 2, [])), (13, (0, 2, 66299, [])), (14, (0, 0, 8, [])), (15, (0, 1, 1, [])), (16, (0, 1, 9, []))] : List (Nat × tv_T)), tv_ok ta q.2 (n_v vs q.1) := hk
  obtain ⟨t0, hk⟩ := List.forall_mem_cons.mp hk
  have t0 : tv_ok ta (2, 0, 0, [150]) (n_v vs 0) := t0
  have r0 : ta (v_ad (n_v vs 0)) = some 150 := tv_rg t0
  obtain ⟨t1, hk⟩ := List.forall_mem_cons.mp hk
  have t1 : tv_ok ta (0, 0, 7, []) (n_v vs 1) := t1
  have k1 : 0 ≤ v_iv (n_v vs 1) ∧ v_iv (n_v vs 1) ≤ 7 := tv_rng t1
  obtain ⟨t3, hk⟩ := List.forall_mem_cons.mp hk
  have t3 : tv_ok ta (0, 0, 2000, []) (n_v vs 3) := t3
  have k3 : 0 ≤ v_iv (n_v vs 3) ∧ v_iv (n_v vs 3) ≤ 2000 := tv_rng t3
  obtain ⟨t4, hk⟩ := List.forall_mem_cons.mp hk
  have t4 : tv_ok ta (0, 0, 7, []) (n_v vs 4) := t4
  have k4 : 0 ≤ v_iv (n_v vs 4) ∧ v_iv (n_v vs 4) ≤ 7 := tv_rng t4
  obtain ⟨t5, hk⟩ := List.forall_mem_cons.mp hk
  have t5 : tv_ok ta (0, 8, 8, []) (n_v vs 5) := t5
  have k5 : 8 ≤ v_iv (n_v vs 5) ∧ v_iv (n_v vs 5) ≤ 8 := tv_rng t5
  obtain ⟨t7, hk⟩ := List.forall_mem_cons.mp hk
  have t7 : tv_ok ta (0, 0, 2000, []) (n_v vs 7) := t7
  have k7 : 0 ≤ v_iv (n_v vs 7) ∧ v_iv (n_v vs 7) ≤ 2000 := tv_rng t7
  obtain ⟨t8, hk⟩ := List.forall_mem_cons.mp hk
  have t8 : tv_ok ta (0, 1, 1, []) (n_v vs 8) := t8
  have k8 : 1 ≤ v_iv (n_v vs 8) ∧ v_iv (n_v vs 8) ≤ 1 := tv_rng t8
  obtain ⟨t9, hk⟩ := List.forall_mem_cons.mp hk
  have t9 : tv_ok ta (0, 0, 7, []) (n_v vs 9) := t9
  have k9 : 0 ≤ v_iv (n_v vs 9) ∧ v_iv (n_v vs 9) ≤ 7 := tv_rng t9
  obtain ⟨t10, hk⟩ := List.forall_mem_cons.mp hk
  have t10 : tv_ok ta (2, 0, 0, [152]) (n_v vs 10) := t10
  have r10 : ta (v_ad (n_v vs 10)) = some 152 := tv_rg t10
  obtain ⟨t11, hk⟩ := List.forall_mem_cons.mp hk
  have t11 : tv_ok ta (0, 0, 66297, []) (n_v vs 11) := t11
  have k11 : 0 ≤ v_iv (n_v vs 11) ∧ v_iv (n_v vs 11) ≤ 66297 := tv_rng t11
  obtain ⟨t12, hk⟩ := List.forall_mem_cons.mp hk
  have t12 : tv_ok ta (0, 2, 2, []) (n_v vs 12) := t12
  have k12 : 2 ≤ v_iv (n_v vs 12) ∧ v_iv (n_v vs 12) ≤ 2 := tv_rng t12
  obtain ⟨t13, hk⟩ := List.forall_mem_cons.mp hk
  have t13 : tv_ok ta (0, 2, 66299, []) (n_v vs 13) := t13
  have k13 : 2 ≤ v_iv (n_v vs 13) ∧ v_iv (n_v vs 13) ≤ 66299 := tv_rng t13
  obtain ⟨t14, hk⟩ := List.forall_mem_cons.mp hk
  have t14 : tv_ok ta (0, 0, 8, []) (n_v vs 14) := t14
  have k14 : 0 ≤ v_iv (n_v vs 14) ∧ v_iv (n_v vs 14) ≤ 8 := tv_rng t14
  obtain ⟨t15, hk⟩ := List.forall_mem_cons.mp hk
  have t15 : tv_ok ta (0, 1, 1, []) (n_v vs 15) := t15
  have k15 : 1 ≤ v_iv (n_v vs 15) ∧ v_iv (n_v vs 15) ≤ 1 := tv_rng t15
  obtain ⟨t16, hk⟩ := List.forall_mem_cons.mp hk
  have t16 : tv_ok ta (0, 1, 9, []) (n_v vs 16) := t16
  have k16 : 1 ≤ v_iv (n_v vs 16) ∧ v_iv (n_v vs 16) ≤ 9 := tv_rng t16
  have hds : ∀ q ∈ ([(16, 14, 1, 1), (13, 11, 2, 2)] : List of_T), n_iv vs q.2.1 + q.2.2.1 ≤ n_iv vs q.1 ∧ n_iv vs q.1 ≤ n_iv vs q.2.1 + q.2.2.2 := hds
  obtain ⟨d0, hds⟩ := List.forall_mem_cons.mp hds
  have d0 : v_iv (n_v vs 14) + 1 ≤ v_iv (n_v vs 16) ∧ v_iv (n_v vs 16) ≤ v_iv (n_v vs 14) + 1 := d0
  obtain ⟨d1, hds⟩ := List.forall_mem_cons.mp hds
  have d1 : v_iv (n_v vs 11) + 2 ≤ v_iv (n_v vs 13) ∧ v_iv (n_v vs 13) ≤ v_iv (n_v vs 11) + 2 := d1
  have hf : fc_ok [(1, [16, 14, 15], []), (10, [14, 10, 13], []), (1, [13, 11, 12], []), (9, [11, 0], [5]), (9, [10, 0], [2]), (20, [9, 0], [30, 0, 1, 0, 0, -1, 3, 2005002]), (20, [9, 0], [30, 0, -1, 0, 0, 1, 3, 2005002]), (8, [8], [1]), (23, [7, 3], [0, 1, -1]), (23, [7, 3], [0, -1, 1]), (20, [4, 0], [30, 0, 1, 0, 0, -1, 3, 2005002]), (20, [4, 0], [30, 0, -1, 0, 0, 1, 3, 2005002]), (20, [1, 0], [50, 1, 1, 1005, 1002, 0, 6, 4, 2, 1, 0, 0, 1, 3, 1, 2, 4, 3, 2, 1, 5, 0, 2]), (20, [0, 0], [30, 0, 1, 1, 15, -1, 1, 11]), (20, [0], [50, 3, 0, 12, 11, 15, 2, 21, 4, 7, 1, 3, 2, 0, 12, 0, 1, 0, 3, 2, 0, 11, 4, 3, 2, 0, 15, 0, 8, 3, 7, 1, 3, 2, 0, 12, 0, 0, 0, 7, 4, 3, 2, 0, 15, 0, 1, 2, 0, 11]), (20, [7, 0], [30, 0, 1, 0, 0, -1, 1, 15]), (20, [8, 0], [50, 1, 0, 1012, 4, 6, 1, 2, 1, 0, 0, 1, 1, 3, 2, 1, 12, 0, 1]), (102, [7], [0]), (23, [7, 3], [0, 1, -1]), (23, [7, 3], [0, -1, 1]), (102, [7], [0, 13011, 13012, 13013, 13014, 13015]), (23, [7, 3], [0, 1, -1]), (23, [7, 3], [0, -1, 1]), (7, [4, 5], [1])] ta ws vs := hf
  obtain ⟨f0, hf⟩ := fc_un (show (1 : Nat) < 100 from by decide) hf
  have f0 : v_iv (n_v vs 16) = v_iv (n_v vs 14) + v_iv (n_v vs 15) := f0
  obtain ⟨f1, hf⟩ := fc_un (show (10 : Nat) < 100 from by decide) hf
  have f1 : v_iv (n_v vs 14) = w_el ws (v_ad (n_v vs 10)) (v_iv (n_v vs 13)).toNat := f1
  obtain ⟨f2, hf⟩ := fc_un (show (1 : Nat) < 100 from by decide) hf
  have f2 : v_iv (n_v vs 13) = v_iv (n_v vs 11) + v_iv (n_v vs 12) := f2
  obtain ⟨f3, hf⟩ := fc_un (show (9 : Nat) < 100 from by decide) hf
  have f3 : n_v vs 11 = w_fd ws (v_ad (n_v vs 0)) 5 := f3
  obtain ⟨f4, hf⟩ := fc_un (show (9 : Nat) < 100 from by decide) hf
  have f4 : n_v vs 10 = w_fd ws (v_ad (n_v vs 0)) 2 := f4
  obtain ⟨f5, hf⟩ := fc_un (show (20 : Nat) < 100 from by decide) hf
  have f5 : 1 * v_iv (n_v vs 9) + ((-1) * w_el ws (w_ar ws (n_v vs 0) 2) (w_fi ws (n_v vs 0) 5 + 2).toNat + 0) ≤ 0 := f5
  obtain ⟨f6, hf⟩ := fc_un (show (20 : Nat) < 100 from by decide) hf
  have f6 : (-1) * v_iv (n_v vs 9) + (1 * w_el ws (w_ar ws (n_v vs 0) 2) (w_fi ws (n_v vs 0) 5 + 2).toNat + 0) ≤ 0 := f6
  obtain ⟨f7, hf⟩ := fc_un (show (8 : Nat) < 100 from by decide) hf
  have f7 : v_iv (n_v vs 8) ≠ 0 := f7
  obtain ⟨f8, hf⟩ := fc_un (show (23 : Nat) < 100 from by decide) hf
  have f8 : 1 * v_iv (n_v vs 7) + ((-1) * v_iv (n_v vs 3) + 0) ≤ 0 := f8
  obtain ⟨f9, hf⟩ := fc_un (show (23 : Nat) < 100 from by decide) hf
  have f9 : (-1) * v_iv (n_v vs 7) + (1 * v_iv (n_v vs 3) + 0) ≤ 0 := f9
  obtain ⟨f10, hf⟩ := fc_un (show (20 : Nat) < 100 from by decide) hf
  have f10 : 1 * v_iv (n_v vs 4) + ((-1) * w_el ws (w_ar ws (n_v vs 0) 2) (w_fi ws (n_v vs 0) 5 + 2).toNat + 0) ≤ 0 := f10
  obtain ⟨f11, hf⟩ := fc_un (show (20 : Nat) < 100 from by decide) hf
  have f11 : (-1) * v_iv (n_v vs 4) + (1 * w_el ws (w_ar ws (n_v vs 0) 2) (w_fi ws (n_v vs 0) 5 + 2).toNat + 0) ≤ 0 := f11
  obtain ⟨f12, hf⟩ := fc_un (show (20 : Nat) < 100 from by decide) hf
  have f12 : (v_iv (n_v vs 1) + 1) ≤ w_ei ws (w_ar ws (n_v vs 0) 2) ((w_fi ws (n_v vs 0) 5 + 2)) := f12
  obtain ⟨f13, hf⟩ := fc_un (show (20 : Nat) < 100 from by decide) hf
  have f13 : 1 * w_fi ws (n_v vs 0) 15 + ((-1) * w_fi ws (n_v vs 0) 11 + 0) ≤ 0 := f13
  obtain ⟨f14, hf⟩ := fc_un (show (20 : Nat) < 100 from by decide) hf
  have f14 : ((w_fi ws (n_v vs 0) 12 = 1) → (w_fi ws (n_v vs 0) 11 ≤ (w_fi ws (n_v vs 0) 15 + 8))) ∧ ((w_fi ws (n_v vs 0) 12 = 0) ∨ ((w_fi ws (n_v vs 0) 15 + 1) ≤ w_fi ws (n_v vs 0) 11)) := f14
  obtain ⟨f15, hf⟩ := fc_un (show (20 : Nat) < 100 from by decide) hf
  have f15 : 1 * v_iv (n_v vs 7) + ((-1) * w_fi ws (n_v vs 0) 15 + 0) ≤ 0 := f15
  obtain ⟨f16, hf⟩ := fc_un (show (20 : Nat) < 100 from by decide) hf
  have f16 : (v_iv (n_v vs 8) = 1) → (w_fi ws (n_v vs 0) 12 = 1) := f16
  obtain ⟨ta1, w1, le1, ⟨_, s1⟩, hf⟩ := fc_us (show ¬ (102 : Nat) < 100 from by decide) hf
  obtain ⟨f18, hf⟩ := fc_un (show (23 : Nat) < 100 from by decide) hf
  have f18 : 1 * v_iv (n_v vs 7) + ((-1) * v_iv (n_v vs 3) + 0) ≤ 0 := f18
  obtain ⟨f19, hf⟩ := fc_un (show (23 : Nat) < 100 from by decide) hf
  have f19 : (-1) * v_iv (n_v vs 7) + (1 * v_iv (n_v vs 3) + 0) ≤ 0 := f19
  obtain ⟨ta2, w2, le2, ⟨_, s2⟩, hf⟩ := fc_us (show ¬ (102 : Nat) < 100 from by decide) hf
  obtain ⟨f21, hf⟩ := fc_un (show (23 : Nat) < 100 from by decide) hf
  have f21 : 1 * v_iv (n_v vs 7) + ((-1) * v_iv (n_v vs 3) + 0) ≤ 0 := f21
  obtain ⟨f22, hf⟩ := fc_un (show (23 : Nat) < 100 from by decide) hf
  have f22 : (-1) * v_iv (n_v vs 7) + (1 * v_iv (n_v vs 3) + 0) ≤ 0 := f22
  obtain ⟨f23, hf⟩ := fc_un (show (7 : Nat) < 100 from by decide) hf
  have f23 : v_iv (n_v vs 4) ≠ v_iv (n_v vs 5) := f23
  have cr_0_2 : ta (w_ar ws (n_v vs 0) 2) = some 152 := tv_rg (th_fd hD hth r0 (g := GG_150) rfl (k := 2) (t := (2, 0, 0, [152])) rfl rfl)
  have ad_10 : v_ad (n_v vs 10) = w_ar ws (n_v vs 0) 2 := congrArg v_ad f4
  rw [ad_10] at f1
  have h1 : v_iv (n_v vs 14) = w_ei ws (w_ar ws (n_v vs 0) 2) (v_iv (n_v vs 13)) := f1
  have g3 : v_iv (n_v vs 11) = w_fi ws (n_v vs 0) 5 := congrArg v_iv f3
  have cg1_F5_2 : v_iv (n_v vs 13) = w_fi ws (n_v vs 0) 5 + 2 → w_el ws (w_ar ws (n_v vs 0) 2) (v_iv (n_v vs 13)).toNat = w_el ws (w_ar ws (n_v vs 0) 2) (w_fi ws (n_v vs 0) 5 + 2).toNat := fun h => by rw [h]
  have br_0_2_F5_2_0 : w_ei ws (w_ar ws (n_v vs 0) 2) (w_fi ws (n_v vs 0) 5 + 2) = w_el ws (w_ar ws (n_v vs 0) 2) (w_fi ws (n_v vs 0) 5 + 2).toNat := rfl
  have br_0_2_13_0 : w_ei ws (w_ar ws (n_v vs 0) 2) (v_iv (n_v vs 13)) = w_el ws (w_ar ws (n_v vs 0) 2) (v_iv (n_v vs 13)).toNat := rfl
  have kz_0_11 : 0 ≤ w_fi ws (n_v vs 0) 11 ∧ w_fi ws (n_v vs 0) 11 ≤ 2000 := tv_rng (th_fd hD hth r0 (g := GG_150) rfl (k := 11) (t := (0, 0, 2000, [])) rfl rfl)
  have kz_0_12 : 0 ≤ w_fi ws (n_v vs 0) 12 ∧ w_fi ws (n_v vs 0) 12 ≤ 4 := tv_rng (th_fd hD hth r0 (g := GG_150) rfl (k := 12) (t := (0, 0, 4, [])) rfl rfl)
  have kz_0_15 : 0 ≤ w_fi ws (n_v vs 0) 15 ∧ w_fi ws (n_v vs 0) 15 ≤ 2000 := tv_rng (th_fd hD hth r0 (g := GG_150) rfl (k := 15) (t := (0, 0, 2000, [])) rfl rfl)
  have rf16 : tv_ok ta (0, 1, 8, []) (n_v vs 16) := tv_in t16 (by first | omega | grind) (by first | omega | grind)
  refine ⟨List.forall_mem_cons.mpr ⟨rf16, (fun _ h => (by cases h))⟩, [], trivial, ?_, (fun _ h => (by cases h))⟩
  rw [List.append_nil]
  exact (fun _ h => (by cases h))
def o_Mo_groupItem_at_k2_4 : or_T := (65, 17, [(0, (2, 0, 0, [150])), (1, (0, 0, 7, [])), (3, (0, 0, 2000, [])), (4, (0, 0, 7, [])), (5, (0, 8, 8, [])), (7, (0, 0, 2000, [])), (8, (0, 1, 1, [])), (9, (0, 0, 7, [])), (10, (2, 0, 0, [152])), (11, (0, 0, 66297, [])), (12, (0, 2, 2, [])), (13, (0, 2, 66299, [])), (14, (0, 0, 8, [])), (15, (0, 1, 1, [])), (16, (0, 1, 8, []))], [(23, [7, 3], [0, 1, -1]), (23, [7, 3], [0, -1, 1]), (20, [0, 0], [30, 0, 1, 1, 15, -1, 1, 11]), (20, [0], [50, 3, 0, 12, 11, 15, 2, 21, 4, 7, 1, 3, 2, 0, 12, 0, 1, 0, 3, 2, 0, 11, 4, 3, 2, 0, 15, 0, 8, 3, 7, 1, 3, 2, 0, 12, 0, 0, 0, 7, 4, 3, 2, 0, 15, 0, 1, 2, 0, 11]), (20, [7, 0], [30, 0, 1, 0, 0, -1, 1, 15]), (20, [8, 0], [50, 1, 0, 1012, 4, 6, 1, 2, 1, 0, 0, 1, 1, 3, 2, 1, 12, 0, 1]), (100, [10, 13, 16], []), (1, [16, 14, 15], []), (10, [14, 10, 13], []), (1, [13, 11, 12], []), (9, [11, 0], [5]), (9, [10, 0], [2]), (20, [9, 0], [30, 0, 1, 0, 0, -1, 3, 2005002]), (20, [9, 0], [30, 0, -1, 0, 0, 1, 3, 2005002]), (8, [8], [1]), (23, [7, 3], [0, 1, -1]), (23, [7, 3], [0, -1, 1]), (20, [4, 0], [30, 0, 1, 0, 0, -1, 3, 2005002]), (20, [4, 0], [30, 0, -1, 0, 0, 1, 3, 2005002]), (20, [1, 0], [50, 1, 1, 1005, 1002, 0, 6, 4, 2, 1, 0, 0, 1, 3, 1, 2, 4, 3, 2, 1, 5, 0, 2]), (20, [0, 0], [30, 0, 1, 1, 15, -1, 1, 11]), (20, [0], [50, 3, 0, 12, 11, 15, 2, 21, 4, 7, 1, 3, 2, 0, 12, 0, 1, 0, 3, 2, 0, 11, 4, 3, 2, 0, 15, 0, 8, 3, 7, 1, 3, 2, 0, 12, 0, 0, 0, 7, 4, 3, 2, 0, 15, 0, 1, 2, 0, 11]), (20, [7, 0], [30, 0, 1, 0, 0, -1, 1, 15]), (20, [8, 0], [50, 1, 0, 1012, 4, 6, 1, 2, 1, 0, 0, 1, 1, 3, 2, 1, 12, 0, 1]), (102, [7], [0]), (23, [7, 3], [0, 1, -1]), (23, [7, 3], [0, -1, 1]), (102, [7], [0, 13011, 13012, 13013, 13014, 13015]), (23, [7, 3], [0, 1, -1]), (23, [7, 3], [0, -1, 1]), (7, [4, 5], [1])], [], [], [(23, [1, 9], [-1, 1, -1])], [], [(16, 14, 1, 1), (13, 11, 2, 2)])
theorem oo_Mo_groupItem_at_k2_4 {kA : Nat → ClassId} : or_ok kA GG o_Mo_groupItem_at_k2_4 := by
  intro A ta ws vs hD hth hl hk hds hf
  have hl : vs.length = 17 := hl
  have hk : ∀ q ∈ ([(0, (2, 0, 0, [150])), (1, (0, 0, 7, [])), (3, (0, 0, 2000, [])), (4, (0, 0, 7, [])), (5, (0, 8, 8, [])), (7, (0, 0, 2000, [])), (8, (0, 1, 1, [])), (9, (0, 0, 7, [])), (10, (2, 0, 0, [152])), (11, (0, 0, 66297, [])), (12, (0, 2, 2, [])), (13, (0, 2, 66299, [])), (14, (0, 0, 8, [])), (15, (0, 1, 1, [])), (16, (0, 1, 8, []))] : List (Nat × tv_T)), tv_ok ta q.2 (n_v vs q.1) := hk
  obtain ⟨t0, hk⟩ := List.forall_mem_cons.mp hk
  have t0 : tv_ok ta (2, 0, 0, [150]) (n_v vs 0) := t0
  have r0 : ta (v_ad (n_v vs 0)) = some 150 := tv_rg t0
  obtain ⟨t1, hk⟩ := List.forall_mem_cons.mp hk
  have t1 : tv_ok ta (0, 0, 7, []) (n_v vs 1) := t1
  have k1 : 0 ≤ v_iv (n_v vs 1) ∧ v_iv (n_v vs 1) ≤ 7 := tv_rng t1
  obtain ⟨t3, hk⟩ := List.forall_mem_cons.mp hk
  have t3 : tv_ok ta (0, 0, 2000, []) (n_v vs 3) := t3
  have k3 : 0 ≤ v_iv (n_v vs 3) ∧ v_iv (n_v vs 3) ≤ 2000 := tv_rng t3
  obtain ⟨t4, hk⟩ := List.forall_mem_cons.mp hk
  have t4 : tv_ok ta (0, 0, 7, []) (n_v vs 4) := t4
  have k4 : 0 ≤ v_iv (n_v vs 4) ∧ v_iv (n_v vs 4) ≤ 7 := tv_rng t4
  obtain ⟨t5, hk⟩ := List.forall_mem_cons.mp hk
  have t5 : tv_ok ta (0, 8, 8, []) (n_v vs 5) := t5
  have k5 : 8 ≤ v_iv (n_v vs 5) ∧ v_iv (n_v vs 5) ≤ 8 := tv_rng t5
  obtain ⟨t7, hk⟩ := List.forall_mem_cons.mp hk
  have t7 : tv_ok ta (0, 0, 2000, []) (n_v vs 7) := t7
  have k7 : 0 ≤ v_iv (n_v vs 7) ∧ v_iv (n_v vs 7) ≤ 2000 := tv_rng t7
  obtain ⟨t8, hk⟩ := List.forall_mem_cons.mp hk
  have t8 : tv_ok ta (0, 1, 1, []) (n_v vs 8) := t8
  have k8 : 1 ≤ v_iv (n_v vs 8) ∧ v_iv (n_v vs 8) ≤ 1 := tv_rng t8
  obtain ⟨t9, hk⟩ := List.forall_mem_cons.mp hk
  have t9 : tv_ok ta (0, 0, 7, []) (n_v vs 9) := t9
  have k9 : 0 ≤ v_iv (n_v vs 9) ∧ v_iv (n_v vs 9) ≤ 7 := tv_rng t9
  obtain ⟨t10, hk⟩ := List.forall_mem_cons.mp hk
  have t10 : tv_ok ta (2, 0, 0, [152]) (n_v vs 10) := t10
  have r10 : ta (v_ad (n_v vs 10)) = some 152 := tv_rg t10
  obtain ⟨t11, hk⟩ := List.forall_mem_cons.mp hk
  have t11 : tv_ok ta (0, 0, 66297, []) (n_v vs 11) := t11
  have k11 : 0 ≤ v_iv (n_v vs 11) ∧ v_iv (n_v vs 11) ≤ 66297 := tv_rng t11
  obtain ⟨t12, hk⟩ := List.forall_mem_cons.mp hk
  have t12 : tv_ok ta (0, 2, 2, []) (n_v vs 12) := t12
  have k12 : 2 ≤ v_iv (n_v vs 12) ∧ v_iv (n_v vs 12) ≤ 2 := tv_rng t12
  obtain ⟨t13, hk⟩ := List.forall_mem_cons.mp hk
  have t13 : tv_ok ta (0, 2, 66299, []) (n_v vs 13) := t13
  have k13 : 2 ≤ v_iv (n_v vs 13) ∧ v_iv (n_v vs 13) ≤ 66299 := tv_rng t13
  obtain ⟨t14, hk⟩ := List.forall_mem_cons.mp hk
  have t14 : tv_ok ta (0, 0, 8, []) (n_v vs 14) := t14
  have k14 : 0 ≤ v_iv (n_v vs 14) ∧ v_iv (n_v vs 14) ≤ 8 := tv_rng t14
  obtain ⟨t15, hk⟩ := List.forall_mem_cons.mp hk
  have t15 : tv_ok ta (0, 1, 1, []) (n_v vs 15) := t15
  have k15 : 1 ≤ v_iv (n_v vs 15) ∧ v_iv (n_v vs 15) ≤ 1 := tv_rng t15
  obtain ⟨t16, hk⟩ := List.forall_mem_cons.mp hk
  have t16 : tv_ok ta (0, 1, 8, []) (n_v vs 16) := t16
  have k16 : 1 ≤ v_iv (n_v vs 16) ∧ v_iv (n_v vs 16) ≤ 8 := tv_rng t16
  have hds : ∀ q ∈ ([(16, 14, 1, 1), (13, 11, 2, 2)] : List of_T), n_iv vs q.2.1 + q.2.2.1 ≤ n_iv vs q.1 ∧ n_iv vs q.1 ≤ n_iv vs q.2.1 + q.2.2.2 := hds
  obtain ⟨d0, hds⟩ := List.forall_mem_cons.mp hds
  have d0 : v_iv (n_v vs 14) + 1 ≤ v_iv (n_v vs 16) ∧ v_iv (n_v vs 16) ≤ v_iv (n_v vs 14) + 1 := d0
  obtain ⟨d1, hds⟩ := List.forall_mem_cons.mp hds
  have d1 : v_iv (n_v vs 11) + 2 ≤ v_iv (n_v vs 13) ∧ v_iv (n_v vs 13) ≤ v_iv (n_v vs 11) + 2 := d1
  have hf : fc_ok [(23, [7, 3], [0, 1, -1]), (23, [7, 3], [0, -1, 1]), (20, [0, 0], [30, 0, 1, 1, 15, -1, 1, 11]), (20, [0], [50, 3, 0, 12, 11, 15, 2, 21, 4, 7, 1, 3, 2, 0, 12, 0, 1, 0, 3, 2, 0, 11, 4, 3, 2, 0, 15, 0, 8, 3, 7, 1, 3, 2, 0, 12, 0, 0, 0, 7, 4, 3, 2, 0, 15, 0, 1, 2, 0, 11]), (20, [7, 0], [30, 0, 1, 0, 0, -1, 1, 15]), (20, [8, 0], [50, 1, 0, 1012, 4, 6, 1, 2, 1, 0, 0, 1, 1, 3, 2, 1, 12, 0, 1]), (100, [10, 13, 16], []), (1, [16, 14, 15], []), (10, [14, 10, 13], []), (1, [13, 11, 12], []), (9, [11, 0], [5]), (9, [10, 0], [2]), (20, [9, 0], [30, 0, 1, 0, 0, -1, 3, 2005002]), (20, [9, 0], [30, 0, -1, 0, 0, 1, 3, 2005002]), (8, [8], [1]), (23, [7, 3], [0, 1, -1]), (23, [7, 3], [0, -1, 1]), (20, [4, 0], [30, 0, 1, 0, 0, -1, 3, 2005002]), (20, [4, 0], [30, 0, -1, 0, 0, 1, 3, 2005002]), (20, [1, 0], [50, 1, 1, 1005, 1002, 0, 6, 4, 2, 1, 0, 0, 1, 3, 1, 2, 4, 3, 2, 1, 5, 0, 2]), (20, [0, 0], [30, 0, 1, 1, 15, -1, 1, 11]), (20, [0], [50, 3, 0, 12, 11, 15, 2, 21, 4, 7, 1, 3, 2, 0, 12, 0, 1, 0, 3, 2, 0, 11, 4, 3, 2, 0, 15, 0, 8, 3, 7, 1, 3, 2, 0, 12, 0, 0, 0, 7, 4, 3, 2, 0, 15, 0, 1, 2, 0, 11]), (20, [7, 0], [30, 0, 1, 0, 0, -1, 1, 15]), (20, [8, 0], [50, 1, 0, 1012, 4, 6, 1, 2, 1, 0, 0, 1, 1, 3, 2, 1, 12, 0, 1]), (102, [7], [0]), (23, [7, 3], [0, 1, -1]), (23, [7, 3], [0, -1, 1]), (102, [7], [0, 13011, 13012, 13013, 13014, 13015]), (23, [7, 3], [0, 1, -1]), (23, [7, 3], [0, -1, 1]), (7, [4, 5], [1])] ta ws vs := hf
  obtain ⟨f0, hf⟩ := fc_un (show (23 : Nat) < 100 from by decide) hf
  have f0 : 1 * v_iv (n_v vs 7) + ((-1) * v_iv (n_v vs 3) + 0) ≤ 0 := f0
  obtain ⟨f1, hf⟩ := fc_un (show (23 : Nat) < 100 from by decide) hf
  have f1 : (-1) * v_iv (n_v vs 7) + (1 * v_iv (n_v vs 3) + 0) ≤ 0 := f1
  obtain ⟨f2, hf⟩ := fc_un (show (20 : Nat) < 100 from by decide) hf
  have f2 : 1 * w_fi ws (n_v vs 0) 15 + ((-1) * w_fi ws (n_v vs 0) 11 + 0) ≤ 0 := f2
  obtain ⟨f3, hf⟩ := fc_un (show (20 : Nat) < 100 from by decide) hf
  have f3 : ((w_fi ws (n_v vs 0) 12 = 1) → (w_fi ws (n_v vs 0) 11 ≤ (w_fi ws (n_v vs 0) 15 + 8))) ∧ ((w_fi ws (n_v vs 0) 12 = 0) ∨ ((w_fi ws (n_v vs 0) 15 + 1) ≤ w_fi ws (n_v vs 0) 11)) := f3
  obtain ⟨f4, hf⟩ := fc_un (show (20 : Nat) < 100 from by decide) hf
  have f4 : 1 * v_iv (n_v vs 7) + ((-1) * w_fi ws (n_v vs 0) 15 + 0) ≤ 0 := f4
  obtain ⟨f5, hf⟩ := fc_un (show (20 : Nat) < 100 from by decide) hf
  have f5 : (v_iv (n_v vs 8) = 1) → (w_fi ws (n_v vs 0) 12 = 1) := f5
  obtain ⟨ta1, w1, le1, ⟨_, s1⟩, hf⟩ := fc_us (show ¬ (100 : Nat) < 100 from by decide) hf
  have s1 : (∀ b j, w_el ws b j = if b = v_ad (n_v vs 10) ∧ j = (v_iv (n_v vs 13)).toNat then v_iv (n_v vs 16) else w_el w1 b j) ∧ ∀ b k, w_fd ws b k = w_fd w1 b k := s1
  obtain ⟨f7, hf⟩ := fc_un (show (1 : Nat) < 100 from by decide) hf
  have f7 : v_iv (n_v vs 16) = v_iv (n_v vs 14) + v_iv (n_v vs 15) := f7
  obtain ⟨f8, hf⟩ := fc_un (show (10 : Nat) < 100 from by decide) hf
  have f8 : v_iv (n_v vs 14) = w_el w1 (v_ad (n_v vs 10)) (v_iv (n_v vs 13)).toNat := f8
  obtain ⟨f9, hf⟩ := fc_un (show (1 : Nat) < 100 from by decide) hf
  have f9 : v_iv (n_v vs 13) = v_iv (n_v vs 11) + v_iv (n_v vs 12) := f9
  obtain ⟨f10, hf⟩ := fc_un (show (9 : Nat) < 100 from by decide) hf
  have f10 : n_v vs 11 = w_fd w1 (v_ad (n_v vs 0)) 5 := f10
  obtain ⟨f11, hf⟩ := fc_un (show (9 : Nat) < 100 from by decide) hf
  have f11 : n_v vs 10 = w_fd w1 (v_ad (n_v vs 0)) 2 := f11
  obtain ⟨f12, hf⟩ := fc_un (show (20 : Nat) < 100 from by decide) hf
  have f12 : 1 * v_iv (n_v vs 9) + ((-1) * w_el w1 (w_ar w1 (n_v vs 0) 2) (w_fi w1 (n_v vs 0) 5 + 2).toNat + 0) ≤ 0 := f12
  obtain ⟨f13, hf⟩ := fc_un (show (20 : Nat) < 100 from by decide) hf
  have f13 : (-1) * v_iv (n_v vs 9) + (1 * w_el w1 (w_ar w1 (n_v vs 0) 2) (w_fi w1 (n_v vs 0) 5 + 2).toNat + 0) ≤ 0 := f13
  obtain ⟨f14, hf⟩ := fc_un (show (8 : Nat) < 100 from by decide) hf
  have f14 : v_iv (n_v vs 8) ≠ 0 := f14
  obtain ⟨f15, hf⟩ := fc_un (show (23 : Nat) < 100 from by decide) hf
  have f15 : 1 * v_iv (n_v vs 7) + ((-1) * v_iv (n_v vs 3) + 0) ≤ 0 := f15
  obtain ⟨f16, hf⟩ := fc_un (show (23 : Nat) < 100 from by decide) hf
  have f16 : (-1) * v_iv (n_v vs 7) + (1 * v_iv (n_v vs 3) + 0) ≤ 0 := f16
  obtain ⟨f17, hf⟩ := fc_un (show (20 : Nat) < 100 from by decide) hf
  have f17 : 1 * v_iv (n_v vs 4) + ((-1) * w_el w1 (w_ar w1 (n_v vs 0) 2) (w_fi w1 (n_v vs 0) 5 + 2).toNat + 0) ≤ 0 := f17
  obtain ⟨f18, hf⟩ := fc_un (show (20 : Nat) < 100 from by decide) hf
  have f18 : (-1) * v_iv (n_v vs 4) + (1 * w_el w1 (w_ar w1 (n_v vs 0) 2) (w_fi w1 (n_v vs 0) 5 + 2).toNat + 0) ≤ 0 := f18
  obtain ⟨f19, hf⟩ := fc_un (show (20 : Nat) < 100 from by decide) hf
  have f19 : (v_iv (n_v vs 1) + 1) ≤ w_ei w1 (w_ar w1 (n_v vs 0) 2) ((w_fi w1 (n_v vs 0) 5 + 2)) := f19
  obtain ⟨f20, hf⟩ := fc_un (show (20 : Nat) < 100 from by decide) hf
  have f20 : 1 * w_fi w1 (n_v vs 0) 15 + ((-1) * w_fi w1 (n_v vs 0) 11 + 0) ≤ 0 := f20
  obtain ⟨f21, hf⟩ := fc_un (show (20 : Nat) < 100 from by decide) hf
  have f21 : ((w_fi w1 (n_v vs 0) 12 = 1) → (w_fi w1 (n_v vs 0) 11 ≤ (w_fi w1 (n_v vs 0) 15 + 8))) ∧ ((w_fi w1 (n_v vs 0) 12 = 0) ∨ ((w_fi w1 (n_v vs 0) 15 + 1) ≤ w_fi w1 (n_v vs 0) 11)) := f21
  obtain ⟨f22, hf⟩ := fc_un (show (20 : Nat) < 100 from by decide) hf
  have f22 : 1 * v_iv (n_v vs 7) + ((-1) * w_fi w1 (n_v vs 0) 15 + 0) ≤ 0 := f22
  obtain ⟨f23, hf⟩ := fc_un (show (20 : Nat) < 100 from by decide) hf
  have f23 : (v_iv (n_v vs 8) = 1) → (w_fi w1 (n_v vs 0) 12 = 1) := f23
  obtain ⟨ta2, w2, le2, ⟨_, s2⟩, hf⟩ := fc_us (show ¬ (102 : Nat) < 100 from by decide) hf
  obtain ⟨f25, hf⟩ := fc_un (show (23 : Nat) < 100 from by decide) hf
  have f25 : 1 * v_iv (n_v vs 7) + ((-1) * v_iv (n_v vs 3) + 0) ≤ 0 := f25
  obtain ⟨f26, hf⟩ := fc_un (show (23 : Nat) < 100 from by decide) hf
  have f26 : (-1) * v_iv (n_v vs 7) + (1 * v_iv (n_v vs 3) + 0) ≤ 0 := f26
  obtain ⟨ta3, w3, le3, ⟨_, s3⟩, hf⟩ := fc_us (show ¬ (102 : Nat) < 100 from by decide) hf
  obtain ⟨f28, hf⟩ := fc_un (show (23 : Nat) < 100 from by decide) hf
  have f28 : 1 * v_iv (n_v vs 7) + ((-1) * v_iv (n_v vs 3) + 0) ≤ 0 := f28
  obtain ⟨f29, hf⟩ := fc_un (show (23 : Nat) < 100 from by decide) hf
  have f29 : (-1) * v_iv (n_v vs 7) + (1 * v_iv (n_v vs 3) + 0) ≤ 0 := f29
  obtain ⟨f30, hf⟩ := fc_un (show (7 : Nat) < 100 from by decide) hf
  have f30 : v_iv (n_v vs 4) ≠ v_iv (n_v vs 5) := f30
  have ar_0_2_1 : w_ar w1 (n_v vs 0) 2 = w_ar ws (n_v vs 0) 2 := by show v_ad (w_fd w1 _ _) = v_ad (w_fd ws _ _); rw [s1.2]
  have cr_0_2 : ta (w_ar ws (n_v vs 0) 2) = some 152 := tv_rg (th_fd hD hth r0 (g := GG_150) rfl (k := 2) (t := (2, 0, 0, [152])) rfl rfl)
  have fi_0_5_1 : w_fi w1 (n_v vs 0) 5 = w_fi ws (n_v vs 0) 5 := by show v_iv (w_fd w1 _ _) = v_iv (w_fd ws _ _); rw [s1.2]
  have ad_10 : v_ad (n_v vs 10) = w_ar ws (n_v vs 0) 2 := (congrArg v_ad f11).trans ar_0_2_1
  rw [ad_10] at f8
  have h8 : v_iv (n_v vs 14) = w_ei w1 (w_ar ws (n_v vs 0) 2) (v_iv (n_v vs 13)) := f8
  have g10 : v_iv (n_v vs 11) = w_fi w1 (n_v vs 0) 5 := congrArg v_iv f10
  rw [ar_0_2_1] at f12
  rw [fi_0_5_1] at f12
  rw [ar_0_2_1] at f13
  rw [fi_0_5_1] at f13
  rw [ar_0_2_1] at f17
  rw [fi_0_5_1] at f17
  rw [ar_0_2_1] at f18
  rw [fi_0_5_1] at f18
  rw [ar_0_2_1] at f19
  have cg8_F5_2 : v_iv (n_v vs 13) = w_fi ws (n_v vs 0) 5 + 2 → w_el w1 (w_ar ws (n_v vs 0) 2) (v_iv (n_v vs 13)).toNat = w_el w1 (w_ar ws (n_v vs 0) 2) (w_fi ws (n_v vs 0) 5 + 2).toNat := fun h => by rw [h]
  have fe_0_5_1 : w_fi ws (n_v vs 0) 5 = w_fi w1 (n_v vs 0) 5 := congrArg v_iv (s1.2 _ _)
  have fe_0_11_1 : w_fi ws (n_v vs 0) 11 = w_fi w1 (n_v vs 0) 11 := congrArg v_iv (s1.2 _ _)
  have fe_0_12_1 : w_fi ws (n_v vs 0) 12 = w_fi w1 (n_v vs 0) 12 := congrArg v_iv (s1.2 _ _)
  have fe_0_15_1 : w_fi ws (n_v vs 0) 15 = w_fi w1 (n_v vs 0) 15 := congrArg v_iv (s1.2 _ _)
  first | (have ee_0_2_F5_2_1 : w_el ws (w_ar ws (n_v vs 0) 2) (w_fi ws (n_v vs 0) 5 + 2).toNat = w_el w1 (w_ar ws (n_v vs 0) 2) (w_fi ws (n_v vs 0) 5 + 2).toNat := by rw [s1.1, if_neg (fun e => absurd e.2 (by omega))]) | have ee_0_2_F5_2_1 : ((w_fi ws (n_v vs 0) 5 + 2).toNat = (v_iv (n_v vs 13)).toNat → w_el ws (w_ar ws (n_v vs 0) 2) (w_fi ws (n_v vs 0) 5 + 2).toNat = v_iv (n_v vs 16)) ∧ ((w_fi ws (n_v vs 0) 5 + 2).toNat ≠ (v_iv (n_v vs 13)).toNat → w_el ws (w_ar ws (n_v vs 0) 2) (w_fi ws (n_v vs 0) 5 + 2).toNat = w_el w1 (w_ar ws (n_v vs 0) 2) (w_fi ws (n_v vs 0) 5 + 2).toNat) := ⟨fun h => by rw [s1.1, if_pos ⟨ad_10.symm, h⟩], fun h => by rw [s1.1, if_neg (fun e => h e.2)]⟩
  have ee_0_2_13_1 : w_el ws (w_ar ws (n_v vs 0) 2) (v_iv (n_v vs 13)).toNat = v_iv (n_v vs 16) := by rw [s1.1, if_pos ⟨ad_10.symm, rfl⟩]
  have br_0_2_F5_2_0 : w_ei ws (w_ar ws (n_v vs 0) 2) (w_fi ws (n_v vs 0) 5 + 2) = w_el ws (w_ar ws (n_v vs 0) 2) (w_fi ws (n_v vs 0) 5 + 2).toNat := rfl
  have br_0_2_F5_2_1 : w_ei w1 (w_ar ws (n_v vs 0) 2) (w_fi ws (n_v vs 0) 5 + 2) = w_el w1 (w_ar ws (n_v vs 0) 2) (w_fi ws (n_v vs 0) 5 + 2).toNat := rfl
  have br_0_2_13_0 : w_ei ws (w_ar ws (n_v vs 0) 2) (v_iv (n_v vs 13)) = w_el ws (w_ar ws (n_v vs 0) 2) (v_iv (n_v vs 13)).toNat := rfl
  have br_0_2_13_1 : w_ei w1 (w_ar ws (n_v vs 0) 2) (v_iv (n_v vs 13)) = w_el w1 (w_ar ws (n_v vs 0) 2) (v_iv (n_v vs 13)).toNat := rfl
  have hE_0_2_1 : ∀ j : Int, 0 ≤ j → (j = v_iv (n_v vs 13) → w_ei ws (w_ar ws (n_v vs 0) 2) j = v_iv (n_v vs 16)) ∧ (j ≠ v_iv (n_v vs 13) → w_ei ws (w_ar ws (n_v vs 0) 2) j = w_ei w1 (w_ar ws (n_v vs 0) 2) j) := fun j hj => ⟨fun h => by unfold w_ei; rw [s1.1, if_pos ⟨ad_10.symm, by rw [h]⟩], fun h => by unfold w_ei; rw [s1.1, if_neg (fun e => h (by have := e.2; omega))]⟩
  have kz_0_11 : 0 ≤ w_fi ws (n_v vs 0) 11 ∧ w_fi ws (n_v vs 0) 11 ≤ 2000 := tv_rng (th_fd hD hth r0 (g := GG_150) rfl (k := 11) (t := (0, 0, 2000, [])) rfl rfl)
  have kz_0_12 : 0 ≤ w_fi ws (n_v vs 0) 12 ∧ w_fi ws (n_v vs 0) 12 ≤ 4 := tv_rng (th_fd hD hth r0 (g := GG_150) rfl (k := 12) (t := (0, 0, 4, [])) rfl rfl)
  have kz_0_15 : 0 ≤ w_fi ws (n_v vs 0) 15 ∧ w_fi ws (n_v vs 0) 15 ≤ 2000 := tv_rng (th_fd hD hth r0 (g := GG_150) rfl (k := 15) (t := (0, 0, 2000, [])) rfl rfl)
  first | have hJ0 : w_ei w1 (w_ar ws (n_v vs 0) 2) ((w_fi w1 (n_v vs 0) 5 + 2)) = w_ei w1 (w_ar ws (n_v vs 0) 2) ((w_fi ws (n_v vs 0) 5 + 2)) := congrArg _ (show ((w_fi w1 (n_v vs 0) 5 + 2) : Int) = (w_fi ws (n_v vs 0) 5 + 2) from by omega) | skip
  first | have hI1 := (hE_0_2_1 ((w_fi ws (n_v vs 0) 5 + 2)) (by omega)).2 (by omega) | have hI1 := (hE_0_2_1 ((w_fi ws (n_v vs 0) 5 + 2)) (by omega)).1 (by omega) | skip
  have nf0 : fc_1 (23, [1, 9], [-1, 1, -1]) ws (vs) := by
    refine ⟨fun n hn => ?_, ?_⟩
    · have hn : n ∈ [1, 9] := hn
      rw [hl]
      simp only [List.mem_cons, List.not_mem_nil, or_false] at hn
      show n < 17; omega
    · show 1 * v_iv (n_v vs 1) + ((-1) * v_iv (n_v vs 9) + 0) ≤ (-1)
      omega
  refine ⟨(fun _ h => (by cases h)), [], trivial, ?_, (fun _ h => (by cases h))⟩
  rw [List.append_nil]
  exact List.forall_mem_cons.mpr ⟨⟨show (23 : Nat) < 100 from by decide, nf0⟩, (fun _ h => (by cases h))⟩
def o_Mo_groupItem_at_k2_5 : or_T := (80, 20, [(1, (0, 0, 7, [])), (9, (0, 0, 7, [])), (11, (5, 0, 66297, [539])), (17, (0, 531, 531, [])), (18, (0, 531, 66828, [])), (19, (0, 531, 66835, []))], [(1, [19, 18, 9], []), (1, [18, 11, 17], []), (23, [1, 9], [-1, 1, -1])], [], [], [(18, [19, 1], [1])], [], [(19, 9, 531, 66828), (19, 18, 0, 7), (19, 11, 531, 538), (18, 11, 531, 531)])
theorem oo_Mo_groupItem_at_k2_5 {kA : Nat → ClassId} : or_ok kA GG o_Mo_groupItem_at_k2_5 := by
  intro A ta ws vs hD hth hl hk hds hf
  have hl : vs.length = 20 := hl
  have hk : ∀ q ∈ ([(1, (0, 0, 7, [])), (9, (0, 0, 7, [])), (11, (5, 0, 66297, [539])), (17, (0, 531, 531, [])), (18, (0, 531, 66828, [])), (19, (0, 531, 66835, []))] : List (Nat × tv_T)), tv_ok ta q.2 (n_v vs q.1) := hk
  obtain ⟨t1, hk⟩ := List.forall_mem_cons.mp hk
  have t1 : tv_ok ta (0, 0, 7, []) (n_v vs 1) := t1
  have k1 : 0 ≤ v_iv (n_v vs 1) ∧ v_iv (n_v vs 1) ≤ 7 := tv_rng t1
  obtain ⟨t9, hk⟩ := List.forall_mem_cons.mp hk
  have t9 : tv_ok ta (0, 0, 7, []) (n_v vs 9) := t9
  have k9 : 0 ≤ v_iv (n_v vs 9) ∧ v_iv (n_v vs 9) ≤ 7 := tv_rng t9
  obtain ⟨t11, hk⟩ := List.forall_mem_cons.mp hk
  have t11 : tv_ok ta (5, 0, 66297, [539]) (n_v vs 11) := t11
  obtain ⟨k11, q11_⟩ : (0 ≤ v_iv (n_v vs 11) ∧ v_iv (n_v vs 11) ≤ 66297) ∧ ∃ q : Int, v_iv (n_v vs 11) = 539 * q := tv_dvk t11
  obtain ⟨q11, hq11⟩ := q11_
  obtain ⟨t17, hk⟩ := List.forall_mem_cons.mp hk
  have t17 : tv_ok ta (0, 531, 531, []) (n_v vs 17) := t17
  have k17 : 531 ≤ v_iv (n_v vs 17) ∧ v_iv (n_v vs 17) ≤ 531 := tv_rng t17
  obtain ⟨t18, hk⟩ := List.forall_mem_cons.mp hk
  have t18 : tv_ok ta (0, 531, 66828, []) (n_v vs 18) := t18
  have k18 : 531 ≤ v_iv (n_v vs 18) ∧ v_iv (n_v vs 18) ≤ 66828 := tv_rng t18
  obtain ⟨t19, hk⟩ := List.forall_mem_cons.mp hk
  have t19 : tv_ok ta (0, 531, 66835, []) (n_v vs 19) := t19
  have k19 : 531 ≤ v_iv (n_v vs 19) ∧ v_iv (n_v vs 19) ≤ 66835 := tv_rng t19
  have hds : ∀ q ∈ ([(19, 9, 531, 66828), (19, 18, 0, 7), (19, 11, 531, 538), (18, 11, 531, 531)] : List of_T), n_iv vs q.2.1 + q.2.2.1 ≤ n_iv vs q.1 ∧ n_iv vs q.1 ≤ n_iv vs q.2.1 + q.2.2.2 := hds
  obtain ⟨d0, hds⟩ := List.forall_mem_cons.mp hds
  have d0 : v_iv (n_v vs 9) + 531 ≤ v_iv (n_v vs 19) ∧ v_iv (n_v vs 19) ≤ v_iv (n_v vs 9) + 66828 := d0
  obtain ⟨d1, hds⟩ := List.forall_mem_cons.mp hds
  have d1 : v_iv (n_v vs 18) + 0 ≤ v_iv (n_v vs 19) ∧ v_iv (n_v vs 19) ≤ v_iv (n_v vs 18) + 7 := d1
  obtain ⟨d2, hds⟩ := List.forall_mem_cons.mp hds
  have d2 : v_iv (n_v vs 11) + 531 ≤ v_iv (n_v vs 19) ∧ v_iv (n_v vs 19) ≤ v_iv (n_v vs 11) + 538 := d2
  obtain ⟨d3, hds⟩ := List.forall_mem_cons.mp hds
  have d3 : v_iv (n_v vs 11) + 531 ≤ v_iv (n_v vs 18) ∧ v_iv (n_v vs 18) ≤ v_iv (n_v vs 11) + 531 := d3
  have hf : fc_ok [(1, [19, 18, 9], []), (1, [18, 11, 17], []), (23, [1, 9], [-1, 1, -1])] ta ws vs := hf
  obtain ⟨f0, hf⟩ := fc_un (show (1 : Nat) < 100 from by decide) hf
  have f0 : v_iv (n_v vs 19) = v_iv (n_v vs 18) + v_iv (n_v vs 9) := f0
  obtain ⟨f1, hf⟩ := fc_un (show (1 : Nat) < 100 from by decide) hf
  have f1 : v_iv (n_v vs 18) = v_iv (n_v vs 11) + v_iv (n_v vs 17) := f1
  obtain ⟨f2, hf⟩ := fc_un (show (23 : Nat) < 100 from by decide) hf
  have f2 : 1 * v_iv (n_v vs 1) + ((-1) * v_iv (n_v vs 9) + 0) ≤ (-1) := f2
  have nf0 : fc_1 (18, [19, 1], [1]) ws (vs) := by
    refine ⟨fun n hn => ?_, ?_⟩
    · have hn : n ∈ [19, 1] := hn
      rw [hl]
      simp only [List.mem_cons, List.not_mem_nil, or_false] at hn
      show n < 20; omega
    · show pl_ok 1 (v_iv (n_v vs 19)).toNat (v_iv (n_v vs 1))
      exact pl_ginS (k := v_iv (n_v vs 9)) (by omega) (by omega) (by omega) (by omega) (by omega)
  refine ⟨(fun _ h => (by cases h)), [], trivial, ?_, (fun _ h => (by cases h))⟩
  rw [List.append_nil]
  exact List.forall_mem_cons.mpr ⟨⟨show (18 : Nat) < 100 from by decide, nf0⟩, (fun _ h => (by cases h))⟩
def o_Mo_groupItem_at_k2_6 : or_T := (104, 26, [(0, (2, 0, 0, [150])), (1, (0, 0, 7, [])), (3, (0, 0, 2000, [])), (4, (0, 0, 7, [])), (5, (0, 8, 8, [])), (7, (0, 0, 2000, [])), (8, (0, 1, 1, [])), (9, (0, 0, 7, [])), (10, (2, 0, 0, [152])), (11, (0, 0, 66297, [])), (12, (0, 2, 2, [])), (13, (0, 2, 66299, [])), (14, (0, 0, 8, [])), (15, (0, 1, 1, [])), (16, (0, 1, 8, [])), (17, (0, 531, 531, [])), (18, (0, 531, 66828, [])), (19, (0, 531, 66835, [])), (23, (0, 0, 2000, [])), (24, (0, 0, 2000, [])), (25, (0, -2000, 2000, []))], [(2, [25, 23, 24], []), (9, [24, 0], [15]), (9, [23, 0], [11]), (9, [11, 0], [5]), (9, [10, 0], [2]), (23, [1, 9], [-1, 1, -1]), (23, [7, 3], [0, 1, -1]), (23, [7, 3], [0, -1, 1]), (20, [0, 0], [30, 0, 1, 1, 15, -1, 1, 11]), (20, [0], [50, 3, 0, 12, 11, 15, 2, 21, 4, 7, 1, 3, 2, 0, 12, 0, 1, 0, 3, 2, 0, 11, 4, 3, 2, 0, 15, 0, 8, 3, 7, 1, 3, 2, 0, 12, 0, 0, 0, 7, 4, 3, 2, 0, 15, 0, 1, 2, 0, 11]), (20, [7, 0], [30, 0, 1, 0, 0, -1, 1, 15]), (20, [8, 0], [50, 1, 0, 1012, 4, 6, 1, 2, 1, 0, 0, 1, 1, 3, 2, 1, 12, 0, 1]), (100, [10, 19, 1], []), (1, [19, 18, 9], []), (1, [18, 11, 17], []), (23, [1, 9], [-1, 1, -1]), (23, [7, 3], [0, 1, -1]), (23, [7, 3], [0, -1, 1]), (20, [0, 0], [30, 0, 1, 1, 15, -1, 1, 11]), (20, [0], [50, 3, 0, 12, 11, 15, 2, 21, 4, 7, 1, 3, 2, 0, 12, 0, 1, 0, 3, 2, 0, 11, 4, 3, 2, 0, 15, 0, 8, 3, 7, 1, 3, 2, 0, 12, 0, 0, 0, 7, 4, 3, 2, 0, 15, 0, 1, 2, 0, 11]), (20, [7, 0], [30, 0, 1, 0, 0, -1, 1, 15]), (20, [8, 0], [50, 1, 0, 1012, 4, 6, 1, 2, 1, 0, 0, 1, 1, 3, 2, 1, 12, 0, 1]), (100, [10, 13, 16], []), (1, [16, 14, 15], []), (10, [14, 10, 13], []), (1, [13, 11, 12], []), (20, [9, 0], [30, 0, 1, 0, 0, -1, 3, 2005002]), (20, [9, 0], [30, 0, -1, 0, 0, 1, 3, 2005002]), (8, [8], [1]), (23, [7, 3], [0, 1, -1]), (23, [7, 3], [0, -1, 1]), (20, [4, 0], [30, 0, 1, 0, 0, -1, 3, 2005002]), (20, [4, 0], [30, 0, -1, 0, 0, 1, 3, 2005002]), (20, [1, 0], [50, 1, 1, 1005, 1002, 0, 6, 4, 2, 1, 0, 0, 1, 3, 1, 2, 4, 3, 2, 1, 5, 0, 2]), (20, [0, 0], [30, 0, 1, 1, 15, -1, 1, 11]), (20, [0], [50, 3, 0, 12, 11, 15, 2, 21, 4, 7, 1, 3, 2, 0, 12, 0, 1, 0, 3, 2, 0, 11, 4, 3, 2, 0, 15, 0, 8, 3, 7, 1, 3, 2, 0, 12, 0, 0, 0, 7, 4, 3, 2, 0, 15, 0, 1, 2, 0, 11]), (20, [7, 0], [30, 0, 1, 0, 0, -1, 1, 15]), (20, [8, 0], [50, 1, 0, 1012, 4, 6, 1, 2, 1, 0, 0, 1, 1, 3, 2, 1, 12, 0, 1]), (102, [7], [0]), (23, [7, 3], [0, 1, -1]), (23, [7, 3], [0, -1, 1]), (102, [7], [0, 13011, 13012, 13013, 13014, 13015]), (23, [7, 3], [0, 1, -1]), (23, [7, 3], [0, -1, 1]), (7, [4, 5], [1])], [(25, (0, 0, 8, []))], [], [], [], [(25, 23, -2000, 0), (19, 9, 531, 66828), (19, 18, 0, 7), (19, 11, 531, 538), (18, 11, 531, 531), (16, 14, 1, 1), (13, 11, 2, 2)])
theorem oo_Mo_groupItem_at_k2_6 {kA : Nat → ClassId} : or_ok kA GG o_Mo_groupItem_at_k2_6 := by
  intro A ta ws vs hD hth hl hk hds hf
  have hl : vs.length = 26 := hl
  have hk : ∀ q ∈ ([(0, (2, 0, 0, [150])), (1, (0, 0, 7, [])), (3, (0, 0, 2000, [])), (4, (0, 0, 7, [])), (5, (0, 8, 8, [])), (7, (0, 0, 2000, [])), (8, (0, 1, 1, [])), (9, (0, 0, 7, [])), (10, (2, 0, 0, [152])), (11, (0, 0, 66297, [])), (12, (0, 2, 2, [])), (13, (0, 2, 66299, [])), (14, (0, 0, 8, [])), (15, (0, 1, 1, [])), (16, (0, 1, 8, [])), (17, (0, 531, 531, [])), (18, (0, 531, 66828, [])), (19, (0, 531, 66835, [])), (23, (0, 0, 2000, [])), (24, (0, 0, 2000, [])), (25, (0, -2000, 2000, []))] : List (Nat × tv_T)), tv_ok ta q.2 (n_v vs q.1) := hk
  obtain ⟨t0, hk⟩ := List.forall_mem_cons.mp hk
  have t0 : tv_ok ta (2, 0, 0, [150]) (n_v vs 0) := t0
  have r0 : ta (v_ad (n_v vs 0)) = some 150 := tv_rg t0
  obtain ⟨t1, hk⟩ := List.forall_mem_cons.mp hk
  have t1 : tv_ok ta (0, 0, 7, []) (n_v vs 1) := t1
  have k1 : 0 ≤ v_iv (n_v vs 1) ∧ v_iv (n_v vs 1) ≤ 7 := tv_rng t1
  obtain ⟨t3, hk⟩ := List.forall_mem_cons.mp hk
  have t3 : tv_ok ta (0, 0, 2000, []) (n_v vs 3) := t3
  have k3 : 0 ≤ v_iv (n_v vs 3) ∧ v_iv (n_v vs 3) ≤ 2000 := tv_rng t3
  obtain ⟨t4, hk⟩ := List.forall_mem_cons.mp hk
  have t4 : tv_ok ta (0, 0, 7, []) (n_v vs 4) := t4
  have k4 : 0 ≤ v_iv (n_v vs 4) ∧ v_iv (n_v vs 4) ≤ 7 := tv_rng t4
  obtain ⟨t5, hk⟩ := List.forall_mem_cons.mp hk
  have t5 : tv_ok ta (0, 8, 8, []) (n_v vs 5) := t5
  have k5 : 8 ≤ v_iv (n_v vs 5) ∧ v_iv (n_v vs 5) ≤ 8 := tv_rng t5
  obtain ⟨t7, hk⟩ := List.forall_mem_cons.mp hk
  have t7 : tv_ok ta (0, 0, 2000, []) (n_v vs 7) := t7
  have k7 : 0 ≤ v_iv (n_v vs 7) ∧ v_iv (n_v vs 7) ≤ 2000 := tv_rng t7
  obtain ⟨t8, hk⟩ := List.forall_mem_cons.mp hk
  have t8 : tv_ok ta (0, 1, 1, []) (n_v vs 8) := t8
  have k8 : 1 ≤ v_iv (n_v vs 8) ∧ v_iv (n_v vs 8) ≤ 1 := tv_rng t8
  obtain ⟨t9, hk⟩ := List.forall_mem_cons.mp hk
  have t9 : tv_ok ta (0, 0, 7, []) (n_v vs 9) := t9
  have k9 : 0 ≤ v_iv (n_v vs 9) ∧ v_iv (n_v vs 9) ≤ 7 := tv_rng t9
  obtain ⟨t10, hk⟩ := List.forall_mem_cons.mp hk
  have t10 : tv_ok ta (2, 0, 0, [152]) (n_v vs 10) := t10
  have r10 : ta (v_ad (n_v vs 10)) = some 152 := tv_rg t10
  obtain ⟨t11, hk⟩ := List.forall_mem_cons.mp hk
  have t11 : tv_ok ta (0, 0, 66297, []) (n_v vs 11) := t11
  have k11 : 0 ≤ v_iv (n_v vs 11) ∧ v_iv (n_v vs 11) ≤ 66297 := tv_rng t11
  obtain ⟨t12, hk⟩ := List.forall_mem_cons.mp hk
  have t12 : tv_ok ta (0, 2, 2, []) (n_v vs 12) := t12
  have k12 : 2 ≤ v_iv (n_v vs 12) ∧ v_iv (n_v vs 12) ≤ 2 := tv_rng t12
  obtain ⟨t13, hk⟩ := List.forall_mem_cons.mp hk
  have t13 : tv_ok ta (0, 2, 66299, []) (n_v vs 13) := t13
  have k13 : 2 ≤ v_iv (n_v vs 13) ∧ v_iv (n_v vs 13) ≤ 66299 := tv_rng t13
  obtain ⟨t14, hk⟩ := List.forall_mem_cons.mp hk
  have t14 : tv_ok ta (0, 0, 8, []) (n_v vs 14) := t14
  have k14 : 0 ≤ v_iv (n_v vs 14) ∧ v_iv (n_v vs 14) ≤ 8 := tv_rng t14
  obtain ⟨t15, hk⟩ := List.forall_mem_cons.mp hk
  have t15 : tv_ok ta (0, 1, 1, []) (n_v vs 15) := t15
  have k15 : 1 ≤ v_iv (n_v vs 15) ∧ v_iv (n_v vs 15) ≤ 1 := tv_rng t15
  obtain ⟨t16, hk⟩ := List.forall_mem_cons.mp hk
  have t16 : tv_ok ta (0, 1, 8, []) (n_v vs 16) := t16
  have k16 : 1 ≤ v_iv (n_v vs 16) ∧ v_iv (n_v vs 16) ≤ 8 := tv_rng t16
  obtain ⟨t17, hk⟩ := List.forall_mem_cons.mp hk
  have t17 : tv_ok ta (0, 531, 531, []) (n_v vs 17) := t17
  have k17 : 531 ≤ v_iv (n_v vs 17) ∧ v_iv (n_v vs 17) ≤ 531 := tv_rng t17
  obtain ⟨t18, hk⟩ := List.forall_mem_cons.mp hk
  have t18 : tv_ok ta (0, 531, 66828, []) (n_v vs 18) := t18
  have k18 : 531 ≤ v_iv (n_v vs 18) ∧ v_iv (n_v vs 18) ≤ 66828 := tv_rng t18
  obtain ⟨t19, hk⟩ := List.forall_mem_cons.mp hk
  have t19 : tv_ok ta (0, 531, 66835, []) (n_v vs 19) := t19
  have k19 : 531 ≤ v_iv (n_v vs 19) ∧ v_iv (n_v vs 19) ≤ 66835 := tv_rng t19
  obtain ⟨t23, hk⟩ := List.forall_mem_cons.mp hk
  have t23 : tv_ok ta (0, 0, 2000, []) (n_v vs 23) := t23
  have k23 : 0 ≤ v_iv (n_v vs 23) ∧ v_iv (n_v vs 23) ≤ 2000 := tv_rng t23
  obtain ⟨t24, hk⟩ := List.forall_mem_cons.mp hk
  have t24 : tv_ok ta (0, 0, 2000, []) (n_v vs 24) := t24
  have k24 : 0 ≤ v_iv (n_v vs 24) ∧ v_iv (n_v vs 24) ≤ 2000 := tv_rng t24
  obtain ⟨t25, hk⟩ := List.forall_mem_cons.mp hk
  have t25 : tv_ok ta (0, -2000, 2000, []) (n_v vs 25) := t25
  have k25 : (-2000) ≤ v_iv (n_v vs 25) ∧ v_iv (n_v vs 25) ≤ 2000 := tv_rng t25
  have hds : ∀ q ∈ ([(25, 23, -2000, 0), (19, 9, 531, 66828), (19, 18, 0, 7), (19, 11, 531, 538), (18, 11, 531, 531), (16, 14, 1, 1), (13, 11, 2, 2)] : List of_T), n_iv vs q.2.1 + q.2.2.1 ≤ n_iv vs q.1 ∧ n_iv vs q.1 ≤ n_iv vs q.2.1 + q.2.2.2 := hds
  obtain ⟨d0, hds⟩ := List.forall_mem_cons.mp hds
  have d0 : v_iv (n_v vs 23) + (-2000) ≤ v_iv (n_v vs 25) ∧ v_iv (n_v vs 25) ≤ v_iv (n_v vs 23) + 0 := d0
  obtain ⟨d1, hds⟩ := List.forall_mem_cons.mp hds
  have d1 : v_iv (n_v vs 9) + 531 ≤ v_iv (n_v vs 19) ∧ v_iv (n_v vs 19) ≤ v_iv (n_v vs 9) + 66828 := d1
  obtain ⟨d2, hds⟩ := List.forall_mem_cons.mp hds
  have d2 : v_iv (n_v vs 18) + 0 ≤ v_iv (n_v vs 19) ∧ v_iv (n_v vs 19) ≤ v_iv (n_v vs 18) + 7 := d2
  obtain ⟨d3, hds⟩ := List.forall_mem_cons.mp hds
  have d3 : v_iv (n_v vs 11) + 531 ≤ v_iv (n_v vs 19) ∧ v_iv (n_v vs 19) ≤ v_iv (n_v vs 11) + 538 := d3
  obtain ⟨d4, hds⟩ := List.forall_mem_cons.mp hds
  have d4 : v_iv (n_v vs 11) + 531 ≤ v_iv (n_v vs 18) ∧ v_iv (n_v vs 18) ≤ v_iv (n_v vs 11) + 531 := d4
  obtain ⟨d5, hds⟩ := List.forall_mem_cons.mp hds
  have d5 : v_iv (n_v vs 14) + 1 ≤ v_iv (n_v vs 16) ∧ v_iv (n_v vs 16) ≤ v_iv (n_v vs 14) + 1 := d5
  obtain ⟨d6, hds⟩ := List.forall_mem_cons.mp hds
  have d6 : v_iv (n_v vs 11) + 2 ≤ v_iv (n_v vs 13) ∧ v_iv (n_v vs 13) ≤ v_iv (n_v vs 11) + 2 := d6
  have hf : fc_ok [(2, [25, 23, 24], []), (9, [24, 0], [15]), (9, [23, 0], [11]), (9, [11, 0], [5]), (9, [10, 0], [2]), (23, [1, 9], [-1, 1, -1]), (23, [7, 3], [0, 1, -1]), (23, [7, 3], [0, -1, 1]), (20, [0, 0], [30, 0, 1, 1, 15, -1, 1, 11]), (20, [0], [50, 3, 0, 12, 11, 15, 2, 21, 4, 7, 1, 3, 2, 0, 12, 0, 1, 0, 3, 2, 0, 11, 4, 3, 2, 0, 15, 0, 8, 3, 7, 1, 3, 2, 0, 12, 0, 0, 0, 7, 4, 3, 2, 0, 15, 0, 1, 2, 0, 11]), (20, [7, 0], [30, 0, 1, 0, 0, -1, 1, 15]), (20, [8, 0], [50, 1, 0, 1012, 4, 6, 1, 2, 1, 0, 0, 1, 1, 3, 2, 1, 12, 0, 1]), (100, [10, 19, 1], []), (1, [19, 18, 9], []), (1, [18, 11, 17], []), (23, [1, 9], [-1, 1, -1]), (23, [7, 3], [0, 1, -1]), (23, [7, 3], [0, -1, 1]), (20, [0, 0], [30, 0, 1, 1, 15, -1, 1, 11]), (20, [0], [50, 3, 0, 12, 11, 15, 2, 21, 4, 7, 1, 3, 2, 0, 12, 0, 1, 0, 3, 2, 0, 11, 4, 3, 2, 0, 15, 0, 8, 3, 7, 1, 3, 2, 0, 12, 0, 0, 0, 7, 4, 3, 2, 0, 15, 0, 1, 2, 0, 11]), (20, [7, 0], [30, 0, 1, 0, 0, -1, 1, 15]), (20, [8, 0], [50, 1, 0, 1012, 4, 6, 1, 2, 1, 0, 0, 1, 1, 3, 2, 1, 12, 0, 1]), (100, [10, 13, 16], []), (1, [16, 14, 15], []), (10, [14, 10, 13], []), (1, [13, 11, 12], []), (20, [9, 0], [30, 0, 1, 0, 0, -1, 3, 2005002]), (20, [9, 0], [30, 0, -1, 0, 0, 1, 3, 2005002]), (8, [8], [1]), (23, [7, 3], [0, 1, -1]), (23, [7, 3], [0, -1, 1]), (20, [4, 0], [30, 0, 1, 0, 0, -1, 3, 2005002]), (20, [4, 0], [30, 0, -1, 0, 0, 1, 3, 2005002]), (20, [1, 0], [50, 1, 1, 1005, 1002, 0, 6, 4, 2, 1, 0, 0, 1, 3, 1, 2, 4, 3, 2, 1, 5, 0, 2]), (20, [0, 0], [30, 0, 1, 1, 15, -1, 1, 11]), (20, [0], [50, 3, 0, 12, 11, 15, 2, 21, 4, 7, 1, 3, 2, 0, 12, 0, 1, 0, 3, 2, 0, 11, 4, 3, 2, 0, 15, 0, 8, 3, 7, 1, 3, 2, 0, 12, 0, 0, 0, 7, 4, 3, 2, 0, 15, 0, 1, 2, 0, 11]), (20, [7, 0], [30, 0, 1, 0, 0, -1, 1, 15]), (20, [8, 0], [50, 1, 0, 1012, 4, 6, 1, 2, 1, 0, 0, 1, 1, 3, 2, 1, 12, 0, 1]), (102, [7], [0]), (23, [7, 3], [0, 1, -1]), (23, [7, 3], [0, -1, 1]), (102, [7], [0, 13011, 13012, 13013, 13014, 13015]), (23, [7, 3], [0, 1, -1]), (23, [7, 3], [0, -1, 1]), (7, [4, 5], [1])] ta ws vs := hf
  obtain ⟨f0, hf⟩ := fc_un (show (2 : Nat) < 100 from by decide) hf
  have f0 : v_iv (n_v vs 25) = v_iv (n_v vs 23) - v_iv (n_v vs 24) := f0
  obtain ⟨f1, hf⟩ := fc_un (show (9 : Nat) < 100 from by decide) hf
  have f1 : n_v vs 24 = w_fd ws (v_ad (n_v vs 0)) 15 := f1
  obtain ⟨f2, hf⟩ := fc_un (show (9 : Nat) < 100 from by decide) hf
  have f2 : n_v vs 23 = w_fd ws (v_ad (n_v vs 0)) 11 := f2
  obtain ⟨f3, hf⟩ := fc_un (show (9 : Nat) < 100 from by decide) hf
  have f3 : n_v vs 11 = w_fd ws (v_ad (n_v vs 0)) 5 := f3
  obtain ⟨f4, hf⟩ := fc_un (show (9 : Nat) < 100 from by decide) hf
  have f4 : n_v vs 10 = w_fd ws (v_ad (n_v vs 0)) 2 := f4
  obtain ⟨f5, hf⟩ := fc_un (show (23 : Nat) < 100 from by decide) hf
  have f5 : 1 * v_iv (n_v vs 1) + ((-1) * v_iv (n_v vs 9) + 0) ≤ (-1) := f5
  obtain ⟨f6, hf⟩ := fc_un (show (23 : Nat) < 100 from by decide) hf
  have f6 : 1 * v_iv (n_v vs 7) + ((-1) * v_iv (n_v vs 3) + 0) ≤ 0 := f6
  obtain ⟨f7, hf⟩ := fc_un (show (23 : Nat) < 100 from by decide) hf
  have f7 : (-1) * v_iv (n_v vs 7) + (1 * v_iv (n_v vs 3) + 0) ≤ 0 := f7
  obtain ⟨f8, hf⟩ := fc_un (show (20 : Nat) < 100 from by decide) hf
  have f8 : 1 * w_fi ws (n_v vs 0) 15 + ((-1) * w_fi ws (n_v vs 0) 11 + 0) ≤ 0 := f8
  obtain ⟨f9, hf⟩ := fc_un (show (20 : Nat) < 100 from by decide) hf
  have f9 : ((w_fi ws (n_v vs 0) 12 = 1) → (w_fi ws (n_v vs 0) 11 ≤ (w_fi ws (n_v vs 0) 15 + 8))) ∧ ((w_fi ws (n_v vs 0) 12 = 0) ∨ ((w_fi ws (n_v vs 0) 15 + 1) ≤ w_fi ws (n_v vs 0) 11)) := f9
  obtain ⟨f10, hf⟩ := fc_un (show (20 : Nat) < 100 from by decide) hf
  have f10 : 1 * v_iv (n_v vs 7) + ((-1) * w_fi ws (n_v vs 0) 15 + 0) ≤ 0 := f10
  obtain ⟨f11, hf⟩ := fc_un (show (20 : Nat) < 100 from by decide) hf
  have f11 : (v_iv (n_v vs 8) = 1) → (w_fi ws (n_v vs 0) 12 = 1) := f11
  obtain ⟨ta1, w1, le1, ⟨_, s1⟩, hf⟩ := fc_us (show ¬ (100 : Nat) < 100 from by decide) hf
  have s1 : (∀ b j, w_el ws b j = if b = v_ad (n_v vs 10) ∧ j = (v_iv (n_v vs 19)).toNat then v_iv (n_v vs 1) else w_el w1 b j) ∧ ∀ b k, w_fd ws b k = w_fd w1 b k := s1
  obtain ⟨f13, hf⟩ := fc_un (show (1 : Nat) < 100 from by decide) hf
  have f13 : v_iv (n_v vs 19) = v_iv (n_v vs 18) + v_iv (n_v vs 9) := f13
  obtain ⟨f14, hf⟩ := fc_un (show (1 : Nat) < 100 from by decide) hf
  have f14 : v_iv (n_v vs 18) = v_iv (n_v vs 11) + v_iv (n_v vs 17) := f14
  obtain ⟨f15, hf⟩ := fc_un (show (23 : Nat) < 100 from by decide) hf
  have f15 : 1 * v_iv (n_v vs 1) + ((-1) * v_iv (n_v vs 9) + 0) ≤ (-1) := f15
  obtain ⟨f16, hf⟩ := fc_un (show (23 : Nat) < 100 from by decide) hf
  have f16 : 1 * v_iv (n_v vs 7) + ((-1) * v_iv (n_v vs 3) + 0) ≤ 0 := f16
  obtain ⟨f17, hf⟩ := fc_un (show (23 : Nat) < 100 from by decide) hf
  have f17 : (-1) * v_iv (n_v vs 7) + (1 * v_iv (n_v vs 3) + 0) ≤ 0 := f17
  obtain ⟨f18, hf⟩ := fc_un (show (20 : Nat) < 100 from by decide) hf
  have f18 : 1 * w_fi w1 (n_v vs 0) 15 + ((-1) * w_fi w1 (n_v vs 0) 11 + 0) ≤ 0 := f18
  obtain ⟨f19, hf⟩ := fc_un (show (20 : Nat) < 100 from by decide) hf
  have f19 : ((w_fi w1 (n_v vs 0) 12 = 1) → (w_fi w1 (n_v vs 0) 11 ≤ (w_fi w1 (n_v vs 0) 15 + 8))) ∧ ((w_fi w1 (n_v vs 0) 12 = 0) ∨ ((w_fi w1 (n_v vs 0) 15 + 1) ≤ w_fi w1 (n_v vs 0) 11)) := f19
  obtain ⟨f20, hf⟩ := fc_un (show (20 : Nat) < 100 from by decide) hf
  have f20 : 1 * v_iv (n_v vs 7) + ((-1) * w_fi w1 (n_v vs 0) 15 + 0) ≤ 0 := f20
  obtain ⟨f21, hf⟩ := fc_un (show (20 : Nat) < 100 from by decide) hf
  have f21 : (v_iv (n_v vs 8) = 1) → (w_fi w1 (n_v vs 0) 12 = 1) := f21
  obtain ⟨ta2, w2, le2, ⟨_, s2⟩, hf⟩ := fc_us (show ¬ (100 : Nat) < 100 from by decide) hf
  have s2 : (∀ b j, w_el w1 b j = if b = v_ad (n_v vs 10) ∧ j = (v_iv (n_v vs 13)).toNat then v_iv (n_v vs 16) else w_el w2 b j) ∧ ∀ b k, w_fd w1 b k = w_fd w2 b k := s2
  obtain ⟨f23, hf⟩ := fc_un (show (1 : Nat) < 100 from by decide) hf
  have f23 : v_iv (n_v vs 16) = v_iv (n_v vs 14) + v_iv (n_v vs 15) := f23
  obtain ⟨f24, hf⟩ := fc_un (show (10 : Nat) < 100 from by decide) hf
  have f24 : v_iv (n_v vs 14) = w_el w2 (v_ad (n_v vs 10)) (v_iv (n_v vs 13)).toNat := f24
  obtain ⟨f25, hf⟩ := fc_un (show (1 : Nat) < 100 from by decide) hf
  have f25 : v_iv (n_v vs 13) = v_iv (n_v vs 11) + v_iv (n_v vs 12) := f25
  obtain ⟨f26, hf⟩ := fc_un (show (20 : Nat) < 100 from by decide) hf
  have f26 : 1 * v_iv (n_v vs 9) + ((-1) * w_el w2 (w_ar w2 (n_v vs 0) 2) (w_fi w2 (n_v vs 0) 5 + 2).toNat + 0) ≤ 0 := f26
  obtain ⟨f27, hf⟩ := fc_un (show (20 : Nat) < 100 from by decide) hf
  have f27 : (-1) * v_iv (n_v vs 9) + (1 * w_el w2 (w_ar w2 (n_v vs 0) 2) (w_fi w2 (n_v vs 0) 5 + 2).toNat + 0) ≤ 0 := f27
  obtain ⟨f28, hf⟩ := fc_un (show (8 : Nat) < 100 from by decide) hf
  have f28 : v_iv (n_v vs 8) ≠ 0 := f28
  obtain ⟨f29, hf⟩ := fc_un (show (23 : Nat) < 100 from by decide) hf
  have f29 : 1 * v_iv (n_v vs 7) + ((-1) * v_iv (n_v vs 3) + 0) ≤ 0 := f29
  obtain ⟨f30, hf⟩ := fc_un (show (23 : Nat) < 100 from by decide) hf
  have f30 : (-1) * v_iv (n_v vs 7) + (1 * v_iv (n_v vs 3) + 0) ≤ 0 := f30
  obtain ⟨f31, hf⟩ := fc_un (show (20 : Nat) < 100 from by decide) hf
  have f31 : 1 * v_iv (n_v vs 4) + ((-1) * w_el w2 (w_ar w2 (n_v vs 0) 2) (w_fi w2 (n_v vs 0) 5 + 2).toNat + 0) ≤ 0 := f31
  obtain ⟨f32, hf⟩ := fc_un (show (20 : Nat) < 100 from by decide) hf
  have f32 : (-1) * v_iv (n_v vs 4) + (1 * w_el w2 (w_ar w2 (n_v vs 0) 2) (w_fi w2 (n_v vs 0) 5 + 2).toNat + 0) ≤ 0 := f32
  obtain ⟨f33, hf⟩ := fc_un (show (20 : Nat) < 100 from by decide) hf
  have f33 : (v_iv (n_v vs 1) + 1) ≤ w_ei w2 (w_ar w2 (n_v vs 0) 2) ((w_fi w2 (n_v vs 0) 5 + 2)) := f33
  obtain ⟨f34, hf⟩ := fc_un (show (20 : Nat) < 100 from by decide) hf
  have f34 : 1 * w_fi w2 (n_v vs 0) 15 + ((-1) * w_fi w2 (n_v vs 0) 11 + 0) ≤ 0 := f34
  obtain ⟨f35, hf⟩ := fc_un (show (20 : Nat) < 100 from by decide) hf
  have f35 : ((w_fi w2 (n_v vs 0) 12 = 1) → (w_fi w2 (n_v vs 0) 11 ≤ (w_fi w2 (n_v vs 0) 15 + 8))) ∧ ((w_fi w2 (n_v vs 0) 12 = 0) ∨ ((w_fi w2 (n_v vs 0) 15 + 1) ≤ w_fi w2 (n_v vs 0) 11)) := f35
  obtain ⟨f36, hf⟩ := fc_un (show (20 : Nat) < 100 from by decide) hf
  have f36 : 1 * v_iv (n_v vs 7) + ((-1) * w_fi w2 (n_v vs 0) 15 + 0) ≤ 0 := f36
  obtain ⟨f37, hf⟩ := fc_un (show (20 : Nat) < 100 from by decide) hf
  have f37 : (v_iv (n_v vs 8) = 1) → (w_fi w2 (n_v vs 0) 12 = 1) := f37
  obtain ⟨ta3, w3, le3, ⟨_, s3⟩, hf⟩ := fc_us (show ¬ (102 : Nat) < 100 from by decide) hf
  obtain ⟨f39, hf⟩ := fc_un (show (23 : Nat) < 100 from by decide) hf
  have f39 : 1 * v_iv (n_v vs 7) + ((-1) * v_iv (n_v vs 3) + 0) ≤ 0 := f39
  obtain ⟨f40, hf⟩ := fc_un (show (23 : Nat) < 100 from by decide) hf
  have f40 : (-1) * v_iv (n_v vs 7) + (1 * v_iv (n_v vs 3) + 0) ≤ 0 := f40
  obtain ⟨ta4, w4, le4, ⟨_, s4⟩, hf⟩ := fc_us (show ¬ (102 : Nat) < 100 from by decide) hf
  obtain ⟨f42, hf⟩ := fc_un (show (23 : Nat) < 100 from by decide) hf
  have f42 : 1 * v_iv (n_v vs 7) + ((-1) * v_iv (n_v vs 3) + 0) ≤ 0 := f42
  obtain ⟨f43, hf⟩ := fc_un (show (23 : Nat) < 100 from by decide) hf
  have f43 : (-1) * v_iv (n_v vs 7) + (1 * v_iv (n_v vs 3) + 0) ≤ 0 := f43
  obtain ⟨f44, hf⟩ := fc_un (show (7 : Nat) < 100 from by decide) hf
  have f44 : v_iv (n_v vs 4) ≠ v_iv (n_v vs 5) := f44
  have ar_0_2_1 : w_ar w1 (n_v vs 0) 2 = w_ar ws (n_v vs 0) 2 := by show v_ad (w_fd w1 _ _) = v_ad (w_fd ws _ _); rw [s1.2]
  have ar_0_2_2 : w_ar w2 (n_v vs 0) 2 = w_ar ws (n_v vs 0) 2 := by rw [← ar_0_2_1]; show v_ad (w_fd w2 _ _) = v_ad (w_fd w1 _ _); rw [s2.2]
  have cr_0_2 : ta (w_ar ws (n_v vs 0) 2) = some 152 := tv_rg (th_fd hD hth r0 (g := GG_150) rfl (k := 2) (t := (2, 0, 0, [152])) rfl rfl)
  have fi_0_5_1 : w_fi w1 (n_v vs 0) 5 = w_fi ws (n_v vs 0) 5 := by show v_iv (w_fd w1 _ _) = v_iv (w_fd ws _ _); rw [s1.2]
  have fi_0_5_2 : w_fi w2 (n_v vs 0) 5 = w_fi ws (n_v vs 0) 5 := by rw [← fi_0_5_1]; show v_iv (w_fd w2 _ _) = v_iv (w_fd w1 _ _); rw [s2.2]
  have ad_10 : v_ad (n_v vs 10) = w_ar ws (n_v vs 0) 2 := congrArg v_ad f4
  have g1 : v_iv (n_v vs 24) = w_fi ws (n_v vs 0) 15 := congrArg v_iv f1
  have g2 : v_iv (n_v vs 23) = w_fi ws (n_v vs 0) 11 := congrArg v_iv f2
  have g3 : v_iv (n_v vs 11) = w_fi ws (n_v vs 0) 5 := congrArg v_iv f3
  rw [ad_10] at f24
  have h24 : v_iv (n_v vs 14) = w_ei w2 (w_ar ws (n_v vs 0) 2) (v_iv (n_v vs 13)) := f24
  rw [ar_0_2_2] at f26
  rw [fi_0_5_2] at f26
  rw [ar_0_2_2] at f27
  rw [fi_0_5_2] at f27
  rw [ar_0_2_2] at f31
  rw [fi_0_5_2] at f31
  rw [ar_0_2_2] at f32
  rw [fi_0_5_2] at f32
  rw [ar_0_2_2] at f33
  have cg24_F5_2 : v_iv (n_v vs 13) = w_fi ws (n_v vs 0) 5 + 2 → w_el w2 (w_ar ws (n_v vs 0) 2) (v_iv (n_v vs 13)).toNat = w_el w2 (w_ar ws (n_v vs 0) 2) (w_fi ws (n_v vs 0) 5 + 2).toNat := fun h => by rw [h]
  have fe_0_5_1 : w_fi ws (n_v vs 0) 5 = w_fi w1 (n_v vs 0) 5 := congrArg v_iv (s1.2 _ _)
  have fe_0_11_1 : w_fi ws (n_v vs 0) 11 = w_fi w1 (n_v vs 0) 11 := congrArg v_iv (s1.2 _ _)
  have fe_0_12_1 : w_fi ws (n_v vs 0) 12 = w_fi w1 (n_v vs 0) 12 := congrArg v_iv (s1.2 _ _)
  have fe_0_15_1 : w_fi ws (n_v vs 0) 15 = w_fi w1 (n_v vs 0) 15 := congrArg v_iv (s1.2 _ _)
  first | (have ee_0_2_F5_2_1 : w_el ws (w_ar ws (n_v vs 0) 2) (w_fi ws (n_v vs 0) 5 + 2).toNat = w_el w1 (w_ar ws (n_v vs 0) 2) (w_fi ws (n_v vs 0) 5 + 2).toNat := by rw [s1.1, if_neg (fun e => absurd e.2 (by omega))]) | have ee_0_2_F5_2_1 : ((w_fi ws (n_v vs 0) 5 + 2).toNat = (v_iv (n_v vs 19)).toNat → w_el ws (w_ar ws (n_v vs 0) 2) (w_fi ws (n_v vs 0) 5 + 2).toNat = v_iv (n_v vs 1)) ∧ ((w_fi ws (n_v vs 0) 5 + 2).toNat ≠ (v_iv (n_v vs 19)).toNat → w_el ws (w_ar ws (n_v vs 0) 2) (w_fi ws (n_v vs 0) 5 + 2).toNat = w_el w1 (w_ar ws (n_v vs 0) 2) (w_fi ws (n_v vs 0) 5 + 2).toNat) := ⟨fun h => by rw [s1.1, if_pos ⟨ad_10.symm, h⟩], fun h => by rw [s1.1, if_neg (fun e => h e.2)]⟩
  have ee_0_2_13_1 : ((v_iv (n_v vs 13)).toNat = (v_iv (n_v vs 19)).toNat → w_el ws (w_ar ws (n_v vs 0) 2) (v_iv (n_v vs 13)).toNat = v_iv (n_v vs 1)) ∧ ((v_iv (n_v vs 13)).toNat ≠ (v_iv (n_v vs 19)).toNat → w_el ws (w_ar ws (n_v vs 0) 2) (v_iv (n_v vs 13)).toNat = w_el w1 (w_ar ws (n_v vs 0) 2) (v_iv (n_v vs 13)).toNat) := ⟨fun h => by rw [s1.1, if_pos ⟨ad_10.symm, h⟩], fun h => by rw [s1.1, if_neg (fun e => h e.2)]⟩
  have fe_0_5_2 : w_fi w1 (n_v vs 0) 5 = w_fi w2 (n_v vs 0) 5 := congrArg v_iv (s2.2 _ _)
  have fe_0_11_2 : w_fi w1 (n_v vs 0) 11 = w_fi w2 (n_v vs 0) 11 := congrArg v_iv (s2.2 _ _)
  have fe_0_12_2 : w_fi w1 (n_v vs 0) 12 = w_fi w2 (n_v vs 0) 12 := congrArg v_iv (s2.2 _ _)
  have fe_0_15_2 : w_fi w1 (n_v vs 0) 15 = w_fi w2 (n_v vs 0) 15 := congrArg v_iv (s2.2 _ _)
  first | (have ee_0_2_F5_2_2 : w_el w1 (w_ar ws (n_v vs 0) 2) (w_fi ws (n_v vs 0) 5 + 2).toNat = w_el w2 (w_ar ws (n_v vs 0) 2) (w_fi ws (n_v vs 0) 5 + 2).toNat := by rw [s2.1, if_neg (fun e => absurd e.2 (by omega))]) | have ee_0_2_F5_2_2 : ((w_fi ws (n_v vs 0) 5 + 2).toNat = (v_iv (n_v vs 13)).toNat → w_el w1 (w_ar ws (n_v vs 0) 2) (w_fi ws (n_v vs 0) 5 + 2).toNat = v_iv (n_v vs 16)) ∧ ((w_fi ws (n_v vs 0) 5 + 2).toNat ≠ (v_iv (n_v vs 13)).toNat → w_el w1 (w_ar ws (n_v vs 0) 2) (w_fi ws (n_v vs 0) 5 + 2).toNat = w_el w2 (w_ar ws (n_v vs 0) 2) (w_fi ws (n_v vs 0) 5 + 2).toNat) := ⟨fun h => by rw [s2.1, if_pos ⟨ad_10.symm, h⟩], fun h => by rw [s2.1, if_neg (fun e => h e.2)]⟩
  have ee_0_2_13_2 : w_el w1 (w_ar ws (n_v vs 0) 2) (v_iv (n_v vs 13)).toNat = v_iv (n_v vs 16) := by rw [s2.1, if_pos ⟨ad_10.symm, rfl⟩]
  have br_0_2_F5_2_0 : w_ei ws (w_ar ws (n_v vs 0) 2) (w_fi ws (n_v vs 0) 5 + 2) = w_el ws (w_ar ws (n_v vs 0) 2) (w_fi ws (n_v vs 0) 5 + 2).toNat := rfl
  have br_0_2_F5_2_1 : w_ei w1 (w_ar ws (n_v vs 0) 2) (w_fi ws (n_v vs 0) 5 + 2) = w_el w1 (w_ar ws (n_v vs 0) 2) (w_fi ws (n_v vs 0) 5 + 2).toNat := rfl
  have br_0_2_F5_2_2 : w_ei w2 (w_ar ws (n_v vs 0) 2) (w_fi ws (n_v vs 0) 5 + 2) = w_el w2 (w_ar ws (n_v vs 0) 2) (w_fi ws (n_v vs 0) 5 + 2).toNat := rfl
  have br_0_2_13_0 : w_ei ws (w_ar ws (n_v vs 0) 2) (v_iv (n_v vs 13)) = w_el ws (w_ar ws (n_v vs 0) 2) (v_iv (n_v vs 13)).toNat := rfl
  have br_0_2_13_1 : w_ei w1 (w_ar ws (n_v vs 0) 2) (v_iv (n_v vs 13)) = w_el w1 (w_ar ws (n_v vs 0) 2) (v_iv (n_v vs 13)).toNat := rfl
  have br_0_2_13_2 : w_ei w2 (w_ar ws (n_v vs 0) 2) (v_iv (n_v vs 13)) = w_el w2 (w_ar ws (n_v vs 0) 2) (v_iv (n_v vs 13)).toNat := rfl
  have hE_0_2_1 : ∀ j : Int, 0 ≤ j → (j = v_iv (n_v vs 19) → w_ei ws (w_ar ws (n_v vs 0) 2) j = v_iv (n_v vs 1)) ∧ (j ≠ v_iv (n_v vs 19) → w_ei ws (w_ar ws (n_v vs 0) 2) j = w_ei w1 (w_ar ws (n_v vs 0) 2) j) := fun j hj => ⟨fun h => by unfold w_ei; rw [s1.1, if_pos ⟨ad_10.symm, by rw [h]⟩], fun h => by unfold w_ei; rw [s1.1, if_neg (fun e => h (by have := e.2; omega))]⟩
  have hE_0_2_2 : ∀ j : Int, 0 ≤ j → (j = v_iv (n_v vs 13) → w_ei w1 (w_ar ws (n_v vs 0) 2) j = v_iv (n_v vs 16)) ∧ (j ≠ v_iv (n_v vs 13) → w_ei w1 (w_ar ws (n_v vs 0) 2) j = w_ei w2 (w_ar ws (n_v vs 0) 2) j) := fun j hj => ⟨fun h => by unfold w_ei; rw [s2.1, if_pos ⟨ad_10.symm, by rw [h]⟩], fun h => by unfold w_ei; rw [s2.1, if_neg (fun e => h (by have := e.2; omega))]⟩
  have kz_0_11 : 0 ≤ w_fi ws (n_v vs 0) 11 ∧ w_fi ws (n_v vs 0) 11 ≤ 2000 := tv_rng (th_fd hD hth r0 (g := GG_150) rfl (k := 11) (t := (0, 0, 2000, [])) rfl rfl)
  have kz_0_12 : 0 ≤ w_fi ws (n_v vs 0) 12 ∧ w_fi ws (n_v vs 0) 12 ≤ 4 := tv_rng (th_fd hD hth r0 (g := GG_150) rfl (k := 12) (t := (0, 0, 4, [])) rfl rfl)
  have kz_0_15 : 0 ≤ w_fi ws (n_v vs 0) 15 ∧ w_fi ws (n_v vs 0) 15 ≤ 2000 := tv_rng (th_fd hD hth r0 (g := GG_150) rfl (k := 15) (t := (0, 0, 2000, [])) rfl rfl)
  first | have hJ0 : w_ei w2 (w_ar ws (n_v vs 0) 2) ((w_fi w2 (n_v vs 0) 5 + 2)) = w_ei w2 (w_ar ws (n_v vs 0) 2) ((w_fi ws (n_v vs 0) 5 + 2)) := congrArg _ (show ((w_fi w2 (n_v vs 0) 5 + 2) : Int) = (w_fi ws (n_v vs 0) 5 + 2) from by omega) | skip
  first | have hI1 := (hE_0_2_1 ((w_fi ws (n_v vs 0) 5 + 2)) (by omega)).2 (by omega) | have hI1 := (hE_0_2_1 ((w_fi ws (n_v vs 0) 5 + 2)) (by omega)).1 (by omega) | skip
  first | have hI2 := (hE_0_2_2 ((w_fi ws (n_v vs 0) 5 + 2)) (by omega)).2 (by omega) | have hI2 := (hE_0_2_2 ((w_fi ws (n_v vs 0) 5 + 2)) (by omega)).1 (by omega) | skip
  have rf25 : tv_ok ta (0, 0, 8, []) (n_v vs 25) := tv_in t25 (by first | omega | grind) (by first | omega | grind)
  refine ⟨List.forall_mem_cons.mpr ⟨rf25, (fun _ h => (by cases h))⟩, [], trivial, ?_, (fun _ h => (by cases h))⟩
  rw [List.append_nil]
  exact (fun _ h => (by cases h))
def o_Mo_groupItem_at_k2_7 : or_T := (108, 27, [(0, (2, 0, 0, [150])), (1, (0, 0, 7, [])), (3, (0, 0, 2000, [])), (4, (0, 0, 7, [])), (5, (0, 8, 8, [])), (7, (0, 0, 2000, [])), (8, (0, 1, 1, [])), (9, (0, 0, 7, [])), (10, (2, 0, 0, [152])), (11, (0, 0, 66297, [])), (12, (0, 2, 2, [])), (13, (0, 2, 66299, [])), (14, (0, 0, 8, [])), (15, (0, 1, 1, [])), (16, (0, 1, 8, [])), (17, (0, 531, 531, [])), (18, (0, 531, 66828, [])), (19, (0, 531, 66835, [])), (20, (0, 523, 523, [])), (21, (0, 523, 66820, [])), (22, (0, 523, 66827, [])), (23, (0, 0, 2000, [])), (24, (0, 0, 2000, [])), (25, (0, 0, 8, []))], [(23, [1, 9], [-1, 1, -1]), (23, [7, 3], [0, 1, -1]), (23, [7, 3], [0, -1, 1]), (20, [0, 0], [30, 0, 1, 1, 15, -1, 1, 11]), (20, [0], [50, 3, 0, 12, 11, 15, 2, 21, 4, 7, 1, 3, 2, 0, 12, 0, 1, 0, 3, 2, 0, 11, 4, 3, 2, 0, 15, 0, 8, 3, 7, 1, 3, 2, 0, 12, 0, 0, 0, 7, 4, 3, 2, 0, 15, 0, 1, 2, 0, 11]), (20, [7, 0], [30, 0, 1, 0, 0, -1, 1, 15]), (20, [8, 0], [50, 1, 0, 1012, 4, 6, 1, 2, 1, 0, 0, 1, 1, 3, 2, 1, 12, 0, 1]), (100, [10, 22, 25], []), (2, [25, 23, 24], []), (9, [24, 0], [15]), (9, [23, 0], [11]), (1, [22, 21, 9], []), (1, [21, 11, 20], []), (9, [11, 0], [5]), (9, [10, 0], [2]), (23, [1, 9], [-1, 1, -1]), (23, [7, 3], [0, 1, -1]), (23, [7, 3], [0, -1, 1]), (20, [0, 0], [30, 0, 1, 1, 15, -1, 1, 11]), (20, [0], [50, 3, 0, 12, 11, 15, 2, 21, 4, 7, 1, 3, 2, 0, 12, 0, 1, 0, 3, 2, 0, 11, 4, 3, 2, 0, 15, 0, 8, 3, 7, 1, 3, 2, 0, 12, 0, 0, 0, 7, 4, 3, 2, 0, 15, 0, 1, 2, 0, 11]), (20, [7, 0], [30, 0, 1, 0, 0, -1, 1, 15]), (20, [8, 0], [50, 1, 0, 1012, 4, 6, 1, 2, 1, 0, 0, 1, 1, 3, 2, 1, 12, 0, 1]), (100, [10, 19, 1], []), (1, [19, 18, 9], []), (1, [18, 11, 17], []), (23, [1, 9], [-1, 1, -1]), (23, [7, 3], [0, 1, -1]), (23, [7, 3], [0, -1, 1]), (20, [0, 0], [30, 0, 1, 1, 15, -1, 1, 11]), (20, [0], [50, 3, 0, 12, 11, 15, 2, 21, 4, 7, 1, 3, 2, 0, 12, 0, 1, 0, 3, 2, 0, 11, 4, 3, 2, 0, 15, 0, 8, 3, 7, 1, 3, 2, 0, 12, 0, 0, 0, 7, 4, 3, 2, 0, 15, 0, 1, 2, 0, 11]), (20, [7, 0], [30, 0, 1, 0, 0, -1, 1, 15]), (20, [8, 0], [50, 1, 0, 1012, 4, 6, 1, 2, 1, 0, 0, 1, 1, 3, 2, 1, 12, 0, 1]), (100, [10, 13, 16], []), (1, [16, 14, 15], []), (10, [14, 10, 13], []), (1, [13, 11, 12], []), (20, [9, 0], [30, 0, 1, 0, 0, -1, 3, 2005002]), (20, [9, 0], [30, 0, -1, 0, 0, 1, 3, 2005002]), (8, [8], [1]), (23, [7, 3], [0, 1, -1]), (23, [7, 3], [0, -1, 1]), (20, [4, 0], [30, 0, 1, 0, 0, -1, 3, 2005002]), (20, [4, 0], [30, 0, -1, 0, 0, 1, 3, 2005002]), (20, [1, 0], [50, 1, 1, 1005, 1002, 0, 6, 4, 2, 1, 0, 0, 1, 3, 1, 2, 4, 3, 2, 1, 5, 0, 2]), (20, [0, 0], [30, 0, 1, 1, 15, -1, 1, 11]), (20, [0], [50, 3, 0, 12, 11, 15, 2, 21, 4, 7, 1, 3, 2, 0, 12, 0, 1, 0, 3, 2, 0, 11, 4, 3, 2, 0, 15, 0, 8, 3, 7, 1, 3, 2, 0, 12, 0, 0, 0, 7, 4, 3, 2, 0, 15, 0, 1, 2, 0, 11]), (20, [7, 0], [30, 0, 1, 0, 0, -1, 1, 15]), (20, [8, 0], [50, 1, 0, 1012, 4, 6, 1, 2, 1, 0, 0, 1, 1, 3, 2, 1, 12, 0, 1]), (102, [7], [0]), (23, [7, 3], [0, 1, -1]), (23, [7, 3], [0, -1, 1]), (102, [7], [0, 13011, 13012, 13013, 13014, 13015]), (23, [7, 3], [0, 1, -1]), (23, [7, 3], [0, -1, 1]), (7, [4, 5], [1])], [], [], [(20, [3, 0], [30, -1, 1, 0, 0, -1, 1, 11]), (20, [0], [50, 1, 0, 12, 1, 3, 2, 0, 12, 0, 1]), (20, [9, 0], [50, 1, 1, 1005, 1002, 0, 6, 4, 2, 1, 0, 0, 1, 3, 1, 2, 4, 3, 2, 1, 5, 0, 2]), (24, [0, 0], []), (24, [1, 1], [])], [], [(25, 23, -2000, 0), (22, 9, 523, 66820), (22, 21, 0, 7), (22, 11, 523, 530), (21, 11, 523, 523), (19, 9, 531, 66828), (19, 18, 0, 7), (19, 11, 531, 538), (18, 11, 531, 531), (16, 14, 1, 1), (13, 11, 2, 2)])
theorem oo_Mo_groupItem_at_k2_7 {kA : Nat → ClassId} : or_ok kA GG o_Mo_groupItem_at_k2_7 := by
  intro A ta ws vs hD hth hl hk hds hf
  have hl : vs.length = 27 := hl
  have hk : ∀ q ∈ ([(0, (2, 0, 0, [150])), (1, (0, 0, 7, [])), (3, (0, 0, 2000, [])), (4, (0, 0, 7, [])), (5, (0, 8, 8, [])), (7, (0, 0, 2000, [])), (8, (0, 1, 1, [])), (9, (0, 0, 7, [])), (10, (2, 0, 0, [152])), (11, (0, 0, 66297, [])), (12, (0, 2, 2, [])), (13, (0, 2, 66299, [])), (14, (0, 0, 8, [])), (15, (0, 1, 1, [])), (16, (0, 1, 8, [])), (17, (0, 531, 531, [])), (18, (0, 531, 66828, [])), (19, (0, 531, 66835, [])), (20, (0, 523, 523, [])), (21, (0, 523, 66820, [])), (22, (0, 523, 66827, [])), (23, (0, 0, 2000, [])), (24, (0, 0, 2000, [])), (25, (0, 0, 8, []))] : List (Nat × tv_T)), tv_ok ta q.2 (n_v vs q.1) := hk
  obtain ⟨t0, hk⟩ := List.forall_mem_cons.mp hk
  have t0 : tv_ok ta (2, 0, 0, [150]) (n_v vs 0) := t0
  have r0 : ta (v_ad (n_v vs 0)) = some 150 := tv_rg t0
  obtain ⟨t1, hk⟩ := List.forall_mem_cons.mp hk
  have t1 : tv_ok ta (0, 0, 7, []) (n_v vs 1) := t1
  have k1 : 0 ≤ v_iv (n_v vs 1) ∧ v_iv (n_v vs 1) ≤ 7 := tv_rng t1
  obtain ⟨t3, hk⟩ := List.forall_mem_cons.mp hk
  have t3 : tv_ok ta (0, 0, 2000, []) (n_v vs 3) := t3
  have k3 : 0 ≤ v_iv (n_v vs 3) ∧ v_iv (n_v vs 3) ≤ 2000 := tv_rng t3
  obtain ⟨t4, hk⟩ := List.forall_mem_cons.mp hk
  have t4 : tv_ok ta (0, 0, 7, []) (n_v vs 4) := t4
  have k4 : 0 ≤ v_iv (n_v vs 4) ∧ v_iv (n_v vs 4) ≤ 7 := tv_rng t4
  obtain ⟨t5, hk⟩ := List.forall_mem_cons.mp hk
  have t5 : tv_ok ta (0, 8, 8, []) (n_v vs 5) := t5
  have k5 : 8 ≤ v_iv (n_v vs 5) ∧ v_iv (n_v vs 5) ≤ 8 := tv_rng t5
  obtain ⟨t7, hk⟩ := List.forall_mem_cons.mp hk
  have t7 : tv_ok ta (0, 0, 2000, []) (n_v vs 7) := t7
  have k7 : 0 ≤ v_iv (n_v vs 7) ∧ v_iv (n_v vs 7) ≤ 2000 := tv_rng t7
  obtain ⟨t8, hk⟩ := List.forall_mem_cons.mp hk
  have t8 : tv_ok ta (0, 1, 1, []) (n_v vs 8) := t8
  have k8 : 1 ≤ v_iv (n_v vs 8) ∧ v_iv (n_v vs 8) ≤ 1 := tv_rng t8
  obtain ⟨t9, hk⟩ := List.forall_mem_cons.mp hk
  have t9 : tv_ok ta (0, 0, 7, []) (n_v vs 9) := t9
  have k9 : 0 ≤ v_iv (n_v vs 9) ∧ v_iv (n_v vs 9) ≤ 7 := tv_rng t9
  obtain ⟨t10, hk⟩ := List.forall_mem_cons.mp hk
  have t10 : tv_ok ta (2, 0, 0, [152]) (n_v vs 10) := t10
  have r10 : ta (v_ad (n_v vs 10)) = some 152 := tv_rg t10
  obtain ⟨t11, hk⟩ := List.forall_mem_cons.mp hk
  have t11 : tv_ok ta (0, 0, 66297, []) (n_v vs 11) := t11
  have k11 : 0 ≤ v_iv (n_v vs 11) ∧ v_iv (n_v vs 11) ≤ 66297 := tv_rng t11
  obtain ⟨t12, hk⟩ := List.forall_mem_cons.mp hk
  have t12 : tv_ok ta (0, 2, 2, []) (n_v vs 12) := t12
  have k12 : 2 ≤ v_iv (n_v vs 12) ∧ v_iv (n_v vs 12) ≤ 2 := tv_rng t12
  obtain ⟨t13, hk⟩ := List.forall_mem_cons.mp hk
  have t13 : tv_ok ta (0, 2, 66299, []) (n_v vs 13) := t13
  have k13 : 2 ≤ v_iv (n_v vs 13) ∧ v_iv (n_v vs 13) ≤ 66299 := tv_rng t13
  obtain ⟨t14, hk⟩ := List.forall_mem_cons.mp hk
  have t14 : tv_ok ta (0, 0, 8, []) (n_v vs 14) := t14
  have k14 : 0 ≤ v_iv (n_v vs 14) ∧ v_iv (n_v vs 14) ≤ 8 := tv_rng t14
  obtain ⟨t15, hk⟩ := List.forall_mem_cons.mp hk
  have t15 : tv_ok ta (0, 1, 1, []) (n_v vs 15) := t15
  have k15 : 1 ≤ v_iv (n_v vs 15) ∧ v_iv (n_v vs 15) ≤ 1 := tv_rng t15
  obtain ⟨t16, hk⟩ := List.forall_mem_cons.mp hk
  have t16 : tv_ok ta (0, 1, 8, []) (n_v vs 16) := t16
  have k16 : 1 ≤ v_iv (n_v vs 16) ∧ v_iv (n_v vs 16) ≤ 8 := tv_rng t16
  obtain ⟨t17, hk⟩ := List.forall_mem_cons.mp hk
  have t17 : tv_ok ta (0, 531, 531, []) (n_v vs 17) := t17
  have k17 : 531 ≤ v_iv (n_v vs 17) ∧ v_iv (n_v vs 17) ≤ 531 := tv_rng t17
  obtain ⟨t18, hk⟩ := List.forall_mem_cons.mp hk
  have t18 : tv_ok ta (0, 531, 66828, []) (n_v vs 18) := t18
  have k18 : 531 ≤ v_iv (n_v vs 18) ∧ v_iv (n_v vs 18) ≤ 66828 := tv_rng t18
  obtain ⟨t19, hk⟩ := List.forall_mem_cons.mp hk
  have t19 : tv_ok ta (0, 531, 66835, []) (n_v vs 19) := t19
  have k19 : 531 ≤ v_iv (n_v vs 19) ∧ v_iv (n_v vs 19) ≤ 66835 := tv_rng t19
  obtain ⟨t20, hk⟩ := List.forall_mem_cons.mp hk
  have t20 : tv_ok ta (0, 523, 523, []) (n_v vs 20) := t20
  have k20 : 523 ≤ v_iv (n_v vs 20) ∧ v_iv (n_v vs 20) ≤ 523 := tv_rng t20
  obtain ⟨t21, hk⟩ := List.forall_mem_cons.mp hk
  have t21 : tv_ok ta (0, 523, 66820, []) (n_v vs 21) := t21
  have k21 : 523 ≤ v_iv (n_v vs 21) ∧ v_iv (n_v vs 21) ≤ 66820 := tv_rng t21
  obtain ⟨t22, hk⟩ := List.forall_mem_cons.mp hk
  have t22 : tv_ok ta (0, 523, 66827, []) (n_v vs 22) := t22
  have k22 : 523 ≤ v_iv (n_v vs 22) ∧ v_iv (n_v vs 22) ≤ 66827 := tv_rng t22
  obtain ⟨t23, hk⟩ := List.forall_mem_cons.mp hk
  have t23 : tv_ok ta (0, 0, 2000, []) (n_v vs 23) := t23
  have k23 : 0 ≤ v_iv (n_v vs 23) ∧ v_iv (n_v vs 23) ≤ 2000 := tv_rng t23
  obtain ⟨t24, hk⟩ := List.forall_mem_cons.mp hk
  have t24 : tv_ok ta (0, 0, 2000, []) (n_v vs 24) := t24
  have k24 : 0 ≤ v_iv (n_v vs 24) ∧ v_iv (n_v vs 24) ≤ 2000 := tv_rng t24
  obtain ⟨t25, hk⟩ := List.forall_mem_cons.mp hk
  have t25 : tv_ok ta (0, 0, 8, []) (n_v vs 25) := t25
  have k25 : 0 ≤ v_iv (n_v vs 25) ∧ v_iv (n_v vs 25) ≤ 8 := tv_rng t25
  have hds : ∀ q ∈ ([(25, 23, -2000, 0), (22, 9, 523, 66820), (22, 21, 0, 7), (22, 11, 523, 530), (21, 11, 523, 523), (19, 9, 531, 66828), (19, 18, 0, 7), (19, 11, 531, 538), (18, 11, 531, 531), (16, 14, 1, 1), (13, 11, 2, 2)] : List of_T), n_iv vs q.2.1 + q.2.2.1 ≤ n_iv vs q.1 ∧ n_iv vs q.1 ≤ n_iv vs q.2.1 + q.2.2.2 := hds
  obtain ⟨d0, hds⟩ := List.forall_mem_cons.mp hds
  have d0 : v_iv (n_v vs 23) + (-2000) ≤ v_iv (n_v vs 25) ∧ v_iv (n_v vs 25) ≤ v_iv (n_v vs 23) + 0 := d0
  obtain ⟨d1, hds⟩ := List.forall_mem_cons.mp hds
  have d1 : v_iv (n_v vs 9) + 523 ≤ v_iv (n_v vs 22) ∧ v_iv (n_v vs 22) ≤ v_iv (n_v vs 9) + 66820 := d1
  obtain ⟨d2, hds⟩ := List.forall_mem_cons.mp hds
  have d2 : v_iv (n_v vs 21) + 0 ≤ v_iv (n_v vs 22) ∧ v_iv (n_v vs 22) ≤ v_iv (n_v vs 21) + 7 := d2
  obtain ⟨d3, hds⟩ := List.forall_mem_cons.mp hds
  have d3 : v_iv (n_v vs 11) + 523 ≤ v_iv (n_v vs 22) ∧ v_iv (n_v vs 22) ≤ v_iv (n_v vs 11) + 530 := d3
  obtain ⟨d4, hds⟩ := List.forall_mem_cons.mp hds
  have d4 : v_iv (n_v vs 11) + 523 ≤ v_iv (n_v vs 21) ∧ v_iv (n_v vs 21) ≤ v_iv (n_v vs 11) + 523 := d4
  obtain ⟨d5, hds⟩ := List.forall_mem_cons.mp hds
  have d5 : v_iv (n_v vs 9) + 531 ≤ v_iv (n_v vs 19) ∧ v_iv (n_v vs 19) ≤ v_iv (n_v vs 9) + 66828 := d5
  obtain ⟨d6, hds⟩ := List.forall_mem_cons.mp hds
  have d6 : v_iv (n_v vs 18) + 0 ≤ v_iv (n_v vs 19) ∧ v_iv (n_v vs 19) ≤ v_iv (n_v vs 18) + 7 := d6
  obtain ⟨d7, hds⟩ := List.forall_mem_cons.mp hds
  have d7 : v_iv (n_v vs 11) + 531 ≤ v_iv (n_v vs 19) ∧ v_iv (n_v vs 19) ≤ v_iv (n_v vs 11) + 538 := d7
  obtain ⟨d8, hds⟩ := List.forall_mem_cons.mp hds
  have d8 : v_iv (n_v vs 11) + 531 ≤ v_iv (n_v vs 18) ∧ v_iv (n_v vs 18) ≤ v_iv (n_v vs 11) + 531 := d8
  obtain ⟨d9, hds⟩ := List.forall_mem_cons.mp hds
  have d9 : v_iv (n_v vs 14) + 1 ≤ v_iv (n_v vs 16) ∧ v_iv (n_v vs 16) ≤ v_iv (n_v vs 14) + 1 := d9
  obtain ⟨d10, hds⟩ := List.forall_mem_cons.mp hds
  have d10 : v_iv (n_v vs 11) + 2 ≤ v_iv (n_v vs 13) ∧ v_iv (n_v vs 13) ≤ v_iv (n_v vs 11) + 2 := d10
  have hf : fc_ok [(23, [1, 9], [-1, 1, -1]), (23, [7, 3], [0, 1, -1]), (23, [7, 3], [0, -1, 1]), (20, [0, 0], [30, 0, 1, 1, 15, -1, 1, 11]), (20, [0], [50, 3, 0, 12, 11, 15, 2, 21, 4, 7, 1, 3, 2, 0, 12, 0, 1, 0, 3, 2, 0, 11, 4, 3, 2, 0, 15, 0, 8, 3, 7, 1, 3, 2, 0, 12, 0, 0, 0, 7, 4, 3, 2, 0, 15, 0, 1, 2, 0, 11]), (20, [7, 0], [30, 0, 1, 0, 0, -1, 1, 15]), (20, [8, 0], [50, 1, 0, 1012, 4, 6, 1, 2, 1, 0, 0, 1, 1, 3, 2, 1, 12, 0, 1]), (100, [10, 22, 25], []), (2, [25, 23, 24], []), (9, [24, 0], [15]), (9, [23, 0], [11]), (1, [22, 21, 9], []), (1, [21, 11, 20], []), (9, [11, 0], [5]), (9, [10, 0], [2]), (23, [1, 9], [-1, 1, -1]), (23, [7, 3], [0, 1, -1]), (23, [7, 3], [0, -1, 1]), (20, [0, 0], [30, 0, 1, 1, 15, -1, 1, 11]), (20, [0], [50, 3, 0, 12, 11, 15, 2, 21, 4, 7, 1, 3, 2, 0, 12, 0, 1, 0, 3, 2, 0, 11, 4, 3, 2, 0, 15, 0, 8, 3, 7, 1, 3, 2, 0, 12, 0, 0, 0, 7, 4, 3, 2, 0, 15, 0, 1, 2, 0, 11]), (20, [7, 0], [30, 0, 1, 0, 0, -1, 1, 15]), (20, [8, 0], [50, 1, 0, 1012, 4, 6, 1, 2, 1, 0, 0, 1, 1, 3, 2, 1, 12, 0, 1]), (100, [10, 19, 1], []), (1, [19, 18, 9], []), (1, [18, 11, 17], []), (23, [1, 9], [-1, 1, -1]), (23, [7, 3], [0, 1, -1]), (23, [7, 3], [0, -1, 1]), (20, [0, 0], [30, 0, 1, 1, 15, -1, 1, 11]), (20, [0], [50, 3, 0, 12, 11, 15, 2, 21, 4, 7, 1, 3, 2, 0, 12, 0, 1, 0, 3, 2, 0, 11, 4, 3, 2, 0, 15, 0, 8, 3, 7, 1, 3, 2, 0, 12, 0, 0, 0, 7, 4, 3, 2, 0, 15, 0, 1, 2, 0, 11]), (20, [7, 0], [30, 0, 1, 0, 0, -1, 1, 15]), (20, [8, 0], [50, 1, 0, 1012, 4, 6, 1, 2, 1, 0, 0, 1, 1, 3, 2, 1, 12, 0, 1]), (100, [10, 13, 16], []), (1, [16, 14, 15], []), (10, [14, 10, 13], []), (1, [13, 11, 12], []), (20, [9, 0], [30, 0, 1, 0, 0, -1, 3, 2005002]), (20, [9, 0], [30, 0, -1, 0, 0, 1, 3, 2005002]), (8, [8], [1]), (23, [7, 3], [0, 1, -1]), (23, [7, 3], [0, -1, 1]), (20, [4, 0], [30, 0, 1, 0, 0, -1, 3, 2005002]), (20, [4, 0], [30, 0, -1, 0, 0, 1, 3, 2005002]), (20, [1, 0], [50, 1, 1, 1005, 1002, 0, 6, 4, 2, 1, 0, 0, 1, 3, 1, 2, 4, 3, 2, 1, 5, 0, 2]), (20, [0, 0], [30, 0, 1, 1, 15, -1, 1, 11]), (20, [0], [50, 3, 0, 12, 11, 15, 2, 21, 4, 7, 1, 3, 2, 0, 12, 0, 1, 0, 3, 2, 0, 11, 4, 3, 2, 0, 15, 0, 8, 3, 7, 1, 3, 2, 0, 12, 0, 0, 0, 7, 4, 3, 2, 0, 15, 0, 1, 2, 0, 11]), (20, [7, 0], [30, 0, 1, 0, 0, -1, 1, 15]), (20, [8, 0], [50, 1, 0, 1012, 4, 6, 1, 2, 1, 0, 0, 1, 1, 3, 2, 1, 12, 0, 1]), (102, [7], [0]), (23, [7, 3], [0, 1, -1]), (23, [7, 3], [0, -1, 1]), (102, [7], [0, 13011, 13012, 13013, 13014, 13015]), (23, [7, 3], [0, 1, -1]), (23, [7, 3], [0, -1, 1]), (7, [4, 5], [1])] ta ws vs := hf
  obtain ⟨f0, hf⟩ := fc_un (show (23 : Nat) < 100 from by decide) hf
  have f0 : 1 * v_iv (n_v vs 1) + ((-1) * v_iv (n_v vs 9) + 0) ≤ (-1) := f0
  obtain ⟨f1, hf⟩ := fc_un (show (23 : Nat) < 100 from by decide) hf
  have f1 : 1 * v_iv (n_v vs 7) + ((-1) * v_iv (n_v vs 3) + 0) ≤ 0 := f1
  obtain ⟨f2, hf⟩ := fc_un (show (23 : Nat) < 100 from by decide) hf
  have f2 : (-1) * v_iv (n_v vs 7) + (1 * v_iv (n_v vs 3) + 0) ≤ 0 := f2
  obtain ⟨f3, hf⟩ := fc_un (show (20 : Nat) < 100 from by decide) hf
  have f3 : 1 * w_fi ws (n_v vs 0) 15 + ((-1) * w_fi ws (n_v vs 0) 11 + 0) ≤ 0 := f3
  obtain ⟨f4, hf⟩ := fc_un (show (20 : Nat) < 100 from by decide) hf
  have f4 : ((w_fi ws (n_v vs 0) 12 = 1) → (w_fi ws (n_v vs 0) 11 ≤ (w_fi ws (n_v vs 0) 15 + 8))) ∧ ((w_fi ws (n_v vs 0) 12 = 0) ∨ ((w_fi ws (n_v vs 0) 15 + 1) ≤ w_fi ws (n_v vs 0) 11)) := f4
  obtain ⟨f5, hf⟩ := fc_un (show (20 : Nat) < 100 from by decide) hf
  have f5 : 1 * v_iv (n_v vs 7) + ((-1) * w_fi ws (n_v vs 0) 15 + 0) ≤ 0 := f5
  obtain ⟨f6, hf⟩ := fc_un (show (20 : Nat) < 100 from by decide) hf
  have f6 : (v_iv (n_v vs 8) = 1) → (w_fi ws (n_v vs 0) 12 = 1) := f6
  obtain ⟨ta1, w1, le1, ⟨_, s1⟩, hf⟩ := fc_us (show ¬ (100 : Nat) < 100 from by decide) hf
  have s1 : (∀ b j, w_el ws b j = if b = v_ad (n_v vs 10) ∧ j = (v_iv (n_v vs 22)).toNat then v_iv (n_v vs 25) else w_el w1 b j) ∧ ∀ b k, w_fd ws b k = w_fd w1 b k := s1
  obtain ⟨f8, hf⟩ := fc_un (show (2 : Nat) < 100 from by decide) hf
  have f8 : v_iv (n_v vs 25) = v_iv (n_v vs 23) - v_iv (n_v vs 24) := f8
  obtain ⟨f9, hf⟩ := fc_un (show (9 : Nat) < 100 from by decide) hf
  have f9 : n_v vs 24 = w_fd w1 (v_ad (n_v vs 0)) 15 := f9
  obtain ⟨f10, hf⟩ := fc_un (show (9 : Nat) < 100 from by decide) hf
  have f10 : n_v vs 23 = w_fd w1 (v_ad (n_v vs 0)) 11 := f10
  obtain ⟨f11, hf⟩ := fc_un (show (1 : Nat) < 100 from by decide) hf
  have f11 : v_iv (n_v vs 22) = v_iv (n_v vs 21) + v_iv (n_v vs 9) := f11
  obtain ⟨f12, hf⟩ := fc_un (show (1 : Nat) < 100 from by decide) hf
  have f12 : v_iv (n_v vs 21) = v_iv (n_v vs 11) + v_iv (n_v vs 20) := f12
  obtain ⟨f13, hf⟩ := fc_un (show (9 : Nat) < 100 from by decide) hf
  have f13 : n_v vs 11 = w_fd w1 (v_ad (n_v vs 0)) 5 := f13
  obtain ⟨f14, hf⟩ := fc_un (show (9 : Nat) < 100 from by decide) hf
  have f14 : n_v vs 10 = w_fd w1 (v_ad (n_v vs 0)) 2 := f14
  obtain ⟨f15, hf⟩ := fc_un (show (23 : Nat) < 100 from by decide) hf
  have f15 : 1 * v_iv (n_v vs 1) + ((-1) * v_iv (n_v vs 9) + 0) ≤ (-1) := f15
  obtain ⟨f16, hf⟩ := fc_un (show (23 : Nat) < 100 from by decide) hf
  have f16 : 1 * v_iv (n_v vs 7) + ((-1) * v_iv (n_v vs 3) + 0) ≤ 0 := f16
  obtain ⟨f17, hf⟩ := fc_un (show (23 : Nat) < 100 from by decide) hf
  have f17 : (-1) * v_iv (n_v vs 7) + (1 * v_iv (n_v vs 3) + 0) ≤ 0 := f17
  obtain ⟨f18, hf⟩ := fc_un (show (20 : Nat) < 100 from by decide) hf
  have f18 : 1 * w_fi w1 (n_v vs 0) 15 + ((-1) * w_fi w1 (n_v vs 0) 11 + 0) ≤ 0 := f18
  obtain ⟨f19, hf⟩ := fc_un (show (20 : Nat) < 100 from by decide) hf
  have f19 : ((w_fi w1 (n_v vs 0) 12 = 1) → (w_fi w1 (n_v vs 0) 11 ≤ (w_fi w1 (n_v vs 0) 15 + 8))) ∧ ((w_fi w1 (n_v vs 0) 12 = 0) ∨ ((w_fi w1 (n_v vs 0) 15 + 1) ≤ w_fi w1 (n_v vs 0) 11)) := f19
  obtain ⟨f20, hf⟩ := fc_un (show (20 : Nat) < 100 from by decide) hf
  have f20 : 1 * v_iv (n_v vs 7) + ((-1) * w_fi w1 (n_v vs 0) 15 + 0) ≤ 0 := f20
  obtain ⟨f21, hf⟩ := fc_un (show (20 : Nat) < 100 from by decide) hf
  have f21 : (v_iv (n_v vs 8) = 1) → (w_fi w1 (n_v vs 0) 12 = 1) := f21
  obtain ⟨ta2, w2, le2, ⟨_, s2⟩, hf⟩ := fc_us (show ¬ (100 : Nat) < 100 from by decide) hf
  have s2 : (∀ b j, w_el w1 b j = if b = v_ad (n_v vs 10) ∧ j = (v_iv (n_v vs 19)).toNat then v_iv (n_v vs 1) else w_el w2 b j) ∧ ∀ b k, w_fd w1 b k = w_fd w2 b k := s2
  obtain ⟨f23, hf⟩ := fc_un (show (1 : Nat) < 100 from by decide) hf
  have f23 : v_iv (n_v vs 19) = v_iv (n_v vs 18) + v_iv (n_v vs 9) := f23
  obtain ⟨f24, hf⟩ := fc_un (show (1 : Nat) < 100 from by decide) hf
  have f24 : v_iv (n_v vs 18) = v_iv (n_v vs 11) + v_iv (n_v vs 17) := f24
  obtain ⟨f25, hf⟩ := fc_un (show (23 : Nat) < 100 from by decide) hf
  have f25 : 1 * v_iv (n_v vs 1) + ((-1) * v_iv (n_v vs 9) + 0) ≤ (-1) := f25
  obtain ⟨f26, hf⟩ := fc_un (show (23 : Nat) < 100 from by decide) hf
  have f26 : 1 * v_iv (n_v vs 7) + ((-1) * v_iv (n_v vs 3) + 0) ≤ 0 := f26
  obtain ⟨f27, hf⟩ := fc_un (show (23 : Nat) < 100 from by decide) hf
  have f27 : (-1) * v_iv (n_v vs 7) + (1 * v_iv (n_v vs 3) + 0) ≤ 0 := f27
  obtain ⟨f28, hf⟩ := fc_un (show (20 : Nat) < 100 from by decide) hf
  have f28 : 1 * w_fi w2 (n_v vs 0) 15 + ((-1) * w_fi w2 (n_v vs 0) 11 + 0) ≤ 0 := f28
  obtain ⟨f29, hf⟩ := fc_un (show (20 : Nat) < 100 from by decide) hf
  have f29 : ((w_fi w2 (n_v vs 0) 12 = 1) → (w_fi w2 (n_v vs 0) 11 ≤ (w_fi w2 (n_v vs 0) 15 + 8))) ∧ ((w_fi w2 (n_v vs 0) 12 = 0) ∨ ((w_fi w2 (n_v vs 0) 15 + 1) ≤ w_fi w2 (n_v vs 0) 11)) := f29
  obtain ⟨f30, hf⟩ := fc_un (show (20 : Nat) < 100 from by decide) hf
  have f30 : 1 * v_iv (n_v vs 7) + ((-1) * w_fi w2 (n_v vs 0) 15 + 0) ≤ 0 := f30
  obtain ⟨f31, hf⟩ := fc_un (show (20 : Nat) < 100 from by decide) hf
  have f31 : (v_iv (n_v vs 8) = 1) → (w_fi w2 (n_v vs 0) 12 = 1) := f31
  obtain ⟨ta3, w3, le3, ⟨_, s3⟩, hf⟩ := fc_us (show ¬ (100 : Nat) < 100 from by decide) hf
  have s3 : (∀ b j, w_el w2 b j = if b = v_ad (n_v vs 10) ∧ j = (v_iv (n_v vs 13)).toNat then v_iv (n_v vs 16) else w_el w3 b j) ∧ ∀ b k, w_fd w2 b k = w_fd w3 b k := s3
  obtain ⟨f33, hf⟩ := fc_un (show (1 : Nat) < 100 from by decide) hf
  have f33 : v_iv (n_v vs 16) = v_iv (n_v vs 14) + v_iv (n_v vs 15) := f33
  obtain ⟨f34, hf⟩ := fc_un (show (10 : Nat) < 100 from by decide) hf
  have f34 : v_iv (n_v vs 14) = w_el w3 (v_ad (n_v vs 10)) (v_iv (n_v vs 13)).toNat := f34
  obtain ⟨f35, hf⟩ := fc_un (show (1 : Nat) < 100 from by decide) hf
  have f35 : v_iv (n_v vs 13) = v_iv (n_v vs 11) + v_iv (n_v vs 12) := f35
  obtain ⟨f36, hf⟩ := fc_un (show (20 : Nat) < 100 from by decide) hf
  have f36 : 1 * v_iv (n_v vs 9) + ((-1) * w_el w3 (w_ar w3 (n_v vs 0) 2) (w_fi w3 (n_v vs 0) 5 + 2).toNat + 0) ≤ 0 := f36
  obtain ⟨f37, hf⟩ := fc_un (show (20 : Nat) < 100 from by decide) hf
  have f37 : (-1) * v_iv (n_v vs 9) + (1 * w_el w3 (w_ar w3 (n_v vs 0) 2) (w_fi w3 (n_v vs 0) 5 + 2).toNat + 0) ≤ 0 := f37
  obtain ⟨f38, hf⟩ := fc_un (show (8 : Nat) < 100 from by decide) hf
  have f38 : v_iv (n_v vs 8) ≠ 0 := f38
  obtain ⟨f39, hf⟩ := fc_un (show (23 : Nat) < 100 from by decide) hf
  have f39 : 1 * v_iv (n_v vs 7) + ((-1) * v_iv (n_v vs 3) + 0) ≤ 0 := f39
  obtain ⟨f40, hf⟩ := fc_un (show (23 : Nat) < 100 from by decide) hf
  have f40 : (-1) * v_iv (n_v vs 7) + (1 * v_iv (n_v vs 3) + 0) ≤ 0 := f40
  obtain ⟨f41, hf⟩ := fc_un (show (20 : Nat) < 100 from by decide) hf
  have f41 : 1 * v_iv (n_v vs 4) + ((-1) * w_el w3 (w_ar w3 (n_v vs 0) 2) (w_fi w3 (n_v vs 0) 5 + 2).toNat + 0) ≤ 0 := f41
  obtain ⟨f42, hf⟩ := fc_un (show (20 : Nat) < 100 from by decide) hf
  have f42 : (-1) * v_iv (n_v vs 4) + (1 * w_el w3 (w_ar w3 (n_v vs 0) 2) (w_fi w3 (n_v vs 0) 5 + 2).toNat + 0) ≤ 0 := f42
  obtain ⟨f43, hf⟩ := fc_un (show (20 : Nat) < 100 from by decide) hf
  have f43 : (v_iv (n_v vs 1) + 1) ≤ w_ei w3 (w_ar w3 (n_v vs 0) 2) ((w_fi w3 (n_v vs 0) 5 + 2)) := f43
  obtain ⟨f44, hf⟩ := fc_un (show (20 : Nat) < 100 from by decide) hf
  have f44 : 1 * w_fi w3 (n_v vs 0) 15 + ((-1) * w_fi w3 (n_v vs 0) 11 + 0) ≤ 0 := f44
  obtain ⟨f45, hf⟩ := fc_un (show (20 : Nat) < 100 from by decide) hf
  have f45 : ((w_fi w3 (n_v vs 0) 12 = 1) → (w_fi w3 (n_v vs 0) 11 ≤ (w_fi w3 (n_v vs 0) 15 + 8))) ∧ ((w_fi w3 (n_v vs 0) 12 = 0) ∨ ((w_fi w3 (n_v vs 0) 15 + 1) ≤ w_fi w3 (n_v vs 0) 11)) := f45
  obtain ⟨f46, hf⟩ := fc_un (show (20 : Nat) < 100 from by decide) hf
  have f46 : 1 * v_iv (n_v vs 7) + ((-1) * w_fi w3 (n_v vs 0) 15 + 0) ≤ 0 := f46
  obtain ⟨f47, hf⟩ := fc_un (show (20 : Nat) < 100 from by decide) hf
  have f47 : (v_iv (n_v vs 8) = 1) → (w_fi w3 (n_v vs 0) 12 = 1) := f47
  obtain ⟨ta4, w4, le4, ⟨_, s4⟩, hf⟩ := fc_us (show ¬ (102 : Nat) < 100 from by decide) hf
  obtain ⟨f49, hf⟩ := fc_un (show (23 : Nat) < 100 from by decide) hf
  have f49 : 1 * v_iv (n_v vs 7) + ((-1) * v_iv (n_v vs 3) + 0) ≤ 0 := f49
  obtain ⟨f50, hf⟩ := fc_un (show (23 : Nat) < 100 from by decide) hf
  have f50 : (-1) * v_iv (n_v vs 7) + (1 * v_iv (n_v vs 3) + 0) ≤ 0 := f50
  obtain ⟨ta5, w5, le5, ⟨_, s5⟩, hf⟩ := fc_us (show ¬ (102 : Nat) < 100 from by decide) hf
  obtain ⟨f52, hf⟩ := fc_un (show (23 : Nat) < 100 from by decide) hf
  have f52 : 1 * v_iv (n_v vs 7) + ((-1) * v_iv (n_v vs 3) + 0) ≤ 0 := f52
  obtain ⟨f53, hf⟩ := fc_un (show (23 : Nat) < 100 from by decide) hf
  have f53 : (-1) * v_iv (n_v vs 7) + (1 * v_iv (n_v vs 3) + 0) ≤ 0 := f53
  obtain ⟨f54, hf⟩ := fc_un (show (7 : Nat) < 100 from by decide) hf
  have f54 : v_iv (n_v vs 4) ≠ v_iv (n_v vs 5) := f54
  have ar_0_2_1 : w_ar w1 (n_v vs 0) 2 = w_ar ws (n_v vs 0) 2 := by show v_ad (w_fd w1 _ _) = v_ad (w_fd ws _ _); rw [s1.2]
  have ar_0_2_2 : w_ar w2 (n_v vs 0) 2 = w_ar ws (n_v vs 0) 2 := by rw [← ar_0_2_1]; show v_ad (w_fd w2 _ _) = v_ad (w_fd w1 _ _); rw [s2.2]
  have ar_0_2_3 : w_ar w3 (n_v vs 0) 2 = w_ar ws (n_v vs 0) 2 := by rw [← ar_0_2_2]; show v_ad (w_fd w3 _ _) = v_ad (w_fd w2 _ _); rw [s3.2]
  have cr_0_2 : ta (w_ar ws (n_v vs 0) 2) = some 152 := tv_rg (th_fd hD hth r0 (g := GG_150) rfl (k := 2) (t := (2, 0, 0, [152])) rfl rfl)
  have fi_0_5_1 : w_fi w1 (n_v vs 0) 5 = w_fi ws (n_v vs 0) 5 := by show v_iv (w_fd w1 _ _) = v_iv (w_fd ws _ _); rw [s1.2]
  have fi_0_5_2 : w_fi w2 (n_v vs 0) 5 = w_fi ws (n_v vs 0) 5 := by rw [← fi_0_5_1]; show v_iv (w_fd w2 _ _) = v_iv (w_fd w1 _ _); rw [s2.2]
  have fi_0_5_3 : w_fi w3 (n_v vs 0) 5 = w_fi ws (n_v vs 0) 5 := by rw [← fi_0_5_2]; show v_iv (w_fd w3 _ _) = v_iv (w_fd w2 _ _); rw [s3.2]
  have ad_10 : v_ad (n_v vs 10) = w_ar ws (n_v vs 0) 2 := (congrArg v_ad f14).trans ar_0_2_1
  have g9 : v_iv (n_v vs 24) = w_fi w1 (n_v vs 0) 15 := congrArg v_iv f9
  have g10 : v_iv (n_v vs 23) = w_fi w1 (n_v vs 0) 11 := congrArg v_iv f10
  have g13 : v_iv (n_v vs 11) = w_fi w1 (n_v vs 0) 5 := congrArg v_iv f13
  rw [ad_10] at f34
  have h34 : v_iv (n_v vs 14) = w_ei w3 (w_ar ws (n_v vs 0) 2) (v_iv (n_v vs 13)) := f34
  rw [ar_0_2_3] at f36
  rw [fi_0_5_3] at f36
  rw [ar_0_2_3] at f37
  rw [fi_0_5_3] at f37
  rw [ar_0_2_3] at f41
  rw [fi_0_5_3] at f41
  rw [ar_0_2_3] at f42
  rw [fi_0_5_3] at f42
  rw [ar_0_2_3] at f43
  have cg34_F5_2 : v_iv (n_v vs 13) = w_fi ws (n_v vs 0) 5 + 2 → w_el w3 (w_ar ws (n_v vs 0) 2) (v_iv (n_v vs 13)).toNat = w_el w3 (w_ar ws (n_v vs 0) 2) (w_fi ws (n_v vs 0) 5 + 2).toNat := fun h => by rw [h]
  have fe_0_5_1 : w_fi ws (n_v vs 0) 5 = w_fi w1 (n_v vs 0) 5 := congrArg v_iv (s1.2 _ _)
  have fe_0_11_1 : w_fi ws (n_v vs 0) 11 = w_fi w1 (n_v vs 0) 11 := congrArg v_iv (s1.2 _ _)
  have fe_0_12_1 : w_fi ws (n_v vs 0) 12 = w_fi w1 (n_v vs 0) 12 := congrArg v_iv (s1.2 _ _)
  have fe_0_15_1 : w_fi ws (n_v vs 0) 15 = w_fi w1 (n_v vs 0) 15 := congrArg v_iv (s1.2 _ _)
  first | (have ee_0_2_F5_2_1 : w_el ws (w_ar ws (n_v vs 0) 2) (w_fi ws (n_v vs 0) 5 + 2).toNat = w_el w1 (w_ar ws (n_v vs 0) 2) (w_fi ws (n_v vs 0) 5 + 2).toNat := by rw [s1.1, if_neg (fun e => absurd e.2 (by omega))]) | have ee_0_2_F5_2_1 : ((w_fi ws (n_v vs 0) 5 + 2).toNat = (v_iv (n_v vs 22)).toNat → w_el ws (w_ar ws (n_v vs 0) 2) (w_fi ws (n_v vs 0) 5 + 2).toNat = v_iv (n_v vs 25)) ∧ ((w_fi ws (n_v vs 0) 5 + 2).toNat ≠ (v_iv (n_v vs 22)).toNat → w_el ws (w_ar ws (n_v vs 0) 2) (w_fi ws (n_v vs 0) 5 + 2).toNat = w_el w1 (w_ar ws (n_v vs 0) 2) (w_fi ws (n_v vs 0) 5 + 2).toNat) := ⟨fun h => by rw [s1.1, if_pos ⟨ad_10.symm, h⟩], fun h => by rw [s1.1, if_neg (fun e => h e.2)]⟩
  have ee_0_2_13_1 : ((v_iv (n_v vs 13)).toNat = (v_iv (n_v vs 22)).toNat → w_el ws (w_ar ws (n_v vs 0) 2) (v_iv (n_v vs 13)).toNat = v_iv (n_v vs 25)) ∧ ((v_iv (n_v vs 13)).toNat ≠ (v_iv (n_v vs 22)).toNat → w_el ws (w_ar ws (n_v vs 0) 2) (v_iv (n_v vs 13)).toNat = w_el w1 (w_ar ws (n_v vs 0) 2) (v_iv (n_v vs 13)).toNat) := ⟨fun h => by rw [s1.1, if_pos ⟨ad_10.symm, h⟩], fun h => by rw [s1.1, if_neg (fun e => h e.2)]⟩
  have fe_0_5_2 : w_fi w1 (n_v vs 0) 5 = w_fi w2 (n_v vs 0) 5 := congrArg v_iv (s2.2 _ _)
  have fe_0_11_2 : w_fi w1 (n_v vs 0) 11 = w_fi w2 (n_v vs 0) 11 := congrArg v_iv (s2.2 _ _)
  have fe_0_12_2 : w_fi w1 (n_v vs 0) 12 = w_fi w2 (n_v vs 0) 12 := congrArg v_iv (s2.2 _ _)
  have fe_0_15_2 : w_fi w1 (n_v vs 0) 15 = w_fi w2 (n_v vs 0) 15 := congrArg v_iv (s2.2 _ _)
  first | (have ee_0_2_F5_2_2 : w_el w1 (w_ar ws (n_v vs 0) 2) (w_fi ws (n_v vs 0) 5 + 2).toNat = w_el w2 (w_ar ws (n_v vs 0) 2) (w_fi ws (n_v vs 0) 5 + 2).toNat := by rw [s2.1, if_neg (fun e => absurd e.2 (by omega))]) | have ee_0_2_F5_2_2 : ((w_fi ws (n_v vs 0) 5 + 2).toNat = (v_iv (n_v vs 19)).toNat → w_el w1 (w_ar ws (n_v vs 0) 2) (w_fi ws (n_v vs 0) 5 + 2).toNat = v_iv (n_v vs 1)) ∧ ((w_fi ws (n_v vs 0) 5 + 2).toNat ≠ (v_iv (n_v vs 19)).toNat → w_el w1 (w_ar ws (n_v vs 0) 2) (w_fi ws (n_v vs 0) 5 + 2).toNat = w_el w2 (w_ar ws (n_v vs 0) 2) (w_fi ws (n_v vs 0) 5 + 2).toNat) := ⟨fun h => by rw [s2.1, if_pos ⟨ad_10.symm, h⟩], fun h => by rw [s2.1, if_neg (fun e => h e.2)]⟩
  have ee_0_2_13_2 : ((v_iv (n_v vs 13)).toNat = (v_iv (n_v vs 19)).toNat → w_el w1 (w_ar ws (n_v vs 0) 2) (v_iv (n_v vs 13)).toNat = v_iv (n_v vs 1)) ∧ ((v_iv (n_v vs 13)).toNat ≠ (v_iv (n_v vs 19)).toNat → w_el w1 (w_ar ws (n_v vs 0) 2) (v_iv (n_v vs 13)).toNat = w_el w2 (w_ar ws (n_v vs 0) 2) (v_iv (n_v vs 13)).toNat) := ⟨fun h => by rw [s2.1, if_pos ⟨ad_10.symm, h⟩], fun h => by rw [s2.1, if_neg (fun e => h e.2)]⟩
  have fe_0_5_3 : w_fi w2 (n_v vs 0) 5 = w_fi w3 (n_v vs 0) 5 := congrArg v_iv (s3.2 _ _)
  have fe_0_11_3 : w_fi w2 (n_v vs 0) 11 = w_fi w3 (n_v vs 0) 11 := congrArg v_iv (s3.2 _ _)
  have fe_0_12_3 : w_fi w2 (n_v vs 0) 12 = w_fi w3 (n_v vs 0) 12 := congrArg v_iv (s3.2 _ _)
  have fe_0_15_3 : w_fi w2 (n_v vs 0) 15 = w_fi w3 (n_v vs 0) 15 := congrArg v_iv (s3.2 _ _)
  first | (have ee_0_2_F5_2_3 : w_el w2 (w_ar ws (n_v vs 0) 2) (w_fi ws (n_v vs 0) 5 + 2).toNat = w_el w3 (w_ar ws (n_v vs 0) 2) (w_fi ws (n_v vs 0) 5 + 2).toNat := by rw [s3.1, if_neg (fun e => absurd e.2 (by omega))]) | have ee_0_2_F5_2_3 : ((w_fi ws (n_v vs 0) 5 + 2).toNat = (v_iv (n_v vs 13)).toNat → w_el w2 (w_ar ws (n_v vs 0) 2) (w_fi ws (n_v vs 0) 5 + 2).toNat = v_iv (n_v vs 16)) ∧ ((w_fi ws (n_v vs 0) 5 + 2).toNat ≠ (v_iv (n_v vs 13)).toNat → w_el w2 (w_ar ws (n_v vs 0) 2) (w_fi ws (n_v vs 0) 5 + 2).toNat = w_el w3 (w_ar ws (n_v vs 0) 2) (w_fi ws (n_v vs 0) 5 + 2).toNat) := ⟨fun h => by rw [s3.1, if_pos ⟨ad_10.symm, h⟩], fun h => by rw [s3.1, if_neg (fun e => h e.2)]⟩
  have ee_0_2_13_3 : w_el w2 (w_ar ws (n_v vs 0) 2) (v_iv (n_v vs 13)).toNat = v_iv (n_v vs 16) := by rw [s3.1, if_pos ⟨ad_10.symm, rfl⟩]
  have br_0_2_F5_2_0 : w_ei ws (w_ar ws (n_v vs 0) 2) (w_fi ws (n_v vs 0) 5 + 2) = w_el ws (w_ar ws (n_v vs 0) 2) (w_fi ws (n_v vs 0) 5 + 2).toNat := rfl
  have br_0_2_F5_2_1 : w_ei w1 (w_ar ws (n_v vs 0) 2) (w_fi ws (n_v vs 0) 5 + 2) = w_el w1 (w_ar ws (n_v vs 0) 2) (w_fi ws (n_v vs 0) 5 + 2).toNat := rfl
  have br_0_2_F5_2_2 : w_ei w2 (w_ar ws (n_v vs 0) 2) (w_fi ws (n_v vs 0) 5 + 2) = w_el w2 (w_ar ws (n_v vs 0) 2) (w_fi ws (n_v vs 0) 5 + 2).toNat := rfl
  have br_0_2_F5_2_3 : w_ei w3 (w_ar ws (n_v vs 0) 2) (w_fi ws (n_v vs 0) 5 + 2) = w_el w3 (w_ar ws (n_v vs 0) 2) (w_fi ws (n_v vs 0) 5 + 2).toNat := rfl
  have br_0_2_13_0 : w_ei ws (w_ar ws (n_v vs 0) 2) (v_iv (n_v vs 13)) = w_el ws (w_ar ws (n_v vs 0) 2) (v_iv (n_v vs 13)).toNat := rfl
  have br_0_2_13_1 : w_ei w1 (w_ar ws (n_v vs 0) 2) (v_iv (n_v vs 13)) = w_el w1 (w_ar ws (n_v vs 0) 2) (v_iv (n_v vs 13)).toNat := rfl
  have br_0_2_13_2 : w_ei w2 (w_ar ws (n_v vs 0) 2) (v_iv (n_v vs 13)) = w_el w2 (w_ar ws (n_v vs 0) 2) (v_iv (n_v vs 13)).toNat := rfl
  have br_0_2_13_3 : w_ei w3 (w_ar ws (n_v vs 0) 2) (v_iv (n_v vs 13)) = w_el w3 (w_ar ws (n_v vs 0) 2) (v_iv (n_v vs 13)).toNat := rfl
  have hE_0_2_1 : ∀ j : Int, 0 ≤ j → (j = v_iv (n_v vs 22) → w_ei ws (w_ar ws (n_v vs 0) 2) j = v_iv (n_v vs 25)) ∧ (j ≠ v_iv (n_v vs 22) → w_ei ws (w_ar ws (n_v vs 0) 2) j = w_ei w1 (w_ar ws (n_v vs 0) 2) j) := fun j hj => ⟨fun h => by unfold w_ei; rw [s1.1, if_pos ⟨ad_10.symm, by rw [h]⟩], fun h => by unfold w_ei; rw [s1.1, if_neg (fun e => h (by have := e.2; omega))]⟩
  have hE_0_2_2 : ∀ j : Int, 0 ≤ j → (j = v_iv (n_v vs 19) → w_ei w1 (w_ar ws (n_v vs 0) 2) j = v_iv (n_v vs 1)) ∧ (j ≠ v_iv (n_v vs 19) → w_ei w1 (w_ar ws (n_v vs 0) 2) j = w_ei w2 (w_ar ws (n_v vs 0) 2) j) := fun j hj => ⟨fun h => by unfold w_ei; rw [s2.1, if_pos ⟨ad_10.symm, by rw [h]⟩], fun h => by unfold w_ei; rw [s2.1, if_neg (fun e => h (by have := e.2; omega))]⟩
  have hE_0_2_3 : ∀ j : Int, 0 ≤ j → (j = v_iv (n_v vs 13) → w_ei w2 (w_ar ws (n_v vs 0) 2) j = v_iv (n_v vs 16)) ∧ (j ≠ v_iv (n_v vs 13) → w_ei w2 (w_ar ws (n_v vs 0) 2) j = w_ei w3 (w_ar ws (n_v vs 0) 2) j) := fun j hj => ⟨fun h => by unfold w_ei; rw [s3.1, if_pos ⟨ad_10.symm, by rw [h]⟩], fun h => by unfold w_ei; rw [s3.1, if_neg (fun e => h (by have := e.2; omega))]⟩
  have kz_0_11 : 0 ≤ w_fi ws (n_v vs 0) 11 ∧ w_fi ws (n_v vs 0) 11 ≤ 2000 := tv_rng (th_fd hD hth r0 (g := GG_150) rfl (k := 11) (t := (0, 0, 2000, [])) rfl rfl)
  have kz_0_12 : 0 ≤ w_fi ws (n_v vs 0) 12 ∧ w_fi ws (n_v vs 0) 12 ≤ 4 := tv_rng (th_fd hD hth r0 (g := GG_150) rfl (k := 12) (t := (0, 0, 4, [])) rfl rfl)
  have kz_0_15 : 0 ≤ w_fi ws (n_v vs 0) 15 ∧ w_fi ws (n_v vs 0) 15 ≤ 2000 := tv_rng (th_fd hD hth r0 (g := GG_150) rfl (k := 15) (t := (0, 0, 2000, [])) rfl rfl)
  first | have hJ0 : w_ei w3 (w_ar ws (n_v vs 0) 2) ((w_fi w3 (n_v vs 0) 5 + 2)) = w_ei w3 (w_ar ws (n_v vs 0) 2) ((w_fi ws (n_v vs 0) 5 + 2)) := congrArg _ (show ((w_fi w3 (n_v vs 0) 5 + 2) : Int) = (w_fi ws (n_v vs 0) 5 + 2) from by omega) | skip
  first | have hI1 := (hE_0_2_1 ((w_fi ws (n_v vs 0) 5 + 2)) (by omega)).2 (by omega) | have hI1 := (hE_0_2_1 ((w_fi ws (n_v vs 0) 5 + 2)) (by omega)).1 (by omega) | skip
  first | have hI2 := (hE_0_2_2 ((w_fi ws (n_v vs 0) 5 + 2)) (by omega)).2 (by omega) | have hI2 := (hE_0_2_2 ((w_fi ws (n_v vs 0) 5 + 2)) (by omega)).1 (by omega) | skip
  first | have hI3 := (hE_0_2_3 ((w_fi ws (n_v vs 0) 5 + 2)) (by omega)).2 (by omega) | have hI3 := (hE_0_2_3 ((w_fi ws (n_v vs 0) 5 + 2)) (by omega)).1 (by omega) | skip
  have nf0 : fc_1 (20, [3, 0], [30, -1, 1, 0, 0, -1, 1, 11]) ws (vs) := by
    refine ⟨fun n hn => ?_, ?_⟩
    · have hn : n ∈ [3, 0] := hn
      rw [hl]
      simp only [List.mem_cons, List.not_mem_nil, or_false] at hn
      show n < 27; omega
    · show 1 * v_iv (n_v vs 3) + ((-1) * w_fi ws (n_v vs 0) 11 + 0) ≤ (-1)
      omega
  have nf1 : fc_1 (20, [0], [50, 1, 0, 12, 1, 3, 2, 0, 12, 0, 1]) ws (vs) := by
    refine ⟨fun n hn => ?_, ?_⟩
    · have hn : n ∈ [0] := hn
      rw [hl]
      simp only [List.mem_cons, List.not_mem_nil, or_false] at hn
      show n < 27; omega
    · show w_fi ws (n_v vs 0) 12 = 1
      first | omega | grind
  have nf2 : fc_1 (20, [9, 0], [50, 1, 1, 1005, 1002, 0, 6, 4, 2, 1, 0, 0, 1, 3, 1, 2, 4, 3, 2, 1, 5, 0, 2]) ws (vs) := by
    refine ⟨fun n hn => ?_, ?_⟩
    · have hn : n ∈ [9, 0] := hn
      rw [hl]
      simp only [List.mem_cons, List.not_mem_nil, or_false] at hn
      show n < 27; omega
    · show (v_iv (n_v vs 9) + 1) ≤ w_ei ws (w_ar ws (n_v vs 0) 2) ((w_fi ws (n_v vs 0) 5 + 2))
      first | omega | grind
  have nf3 : fc_1 (24, [0, 0], []) ws (vs) := by
    refine ⟨fun n hn => ?_, ?_⟩
    · have hn : n ∈ [0, 0] := hn
      rw [hl]
      simp only [List.mem_cons, List.not_mem_nil, or_false] at hn
      show n < 27; omega
    · show n_v vs 0 = n_v vs 0
      first | rfl | simp only [true_and]
  have nf4 : fc_1 (24, [1, 1], []) ws (vs) := by
    refine ⟨fun n hn => ?_, ?_⟩
    · have hn : n ∈ [1, 1] := hn
      rw [hl]
      simp only [List.mem_cons, List.not_mem_nil, or_false] at hn
      show n < 27; omega
    · show n_v vs 1 = n_v vs 1
      first | rfl | simp only [true_and]
  refine ⟨(fun _ h => (by cases h)), [], trivial, ?_, (fun _ h => (by cases h))⟩
  rw [List.append_nil]
  exact List.forall_mem_cons.mpr ⟨⟨show (20 : Nat) < 100 from by decide, nf0⟩, List.forall_mem_cons.mpr ⟨⟨show (20 : Nat) < 100 from by decide, nf1⟩, List.forall_mem_cons.mpr ⟨⟨show (20 : Nat) < 100 from by decide, nf2⟩, List.forall_mem_cons.mpr ⟨⟨show (24 : Nat) < 100 from by decide, nf3⟩, List.forall_mem_cons.mpr ⟨⟨show (24 : Nat) < 100 from by decide, nf4⟩, (fun _ h => (by cases h))⟩⟩⟩⟩⟩
def o_Mo_groupItem_at_k2_8 : or_T := (44, 11, [(0, (2, 0, 0, [150])), (1, (0, 0, 7, [])), (3, (0, 0, 2000, [])), (4, (0, 0, 7, [])), (5, (0, 8, 8, [])), (7, (0, 0, 2000, [])), (8, (0, 0, 0, []))], [(23, [7, 3], [0, 1, -1]), (23, [7, 3], [0, -1, 1]), (20, [4, 0], [30, 0, 1, 0, 0, -1, 3, 2005002]), (20, [4, 0], [30, 0, -1, 0, 0, 1, 3, 2005002]), (20, [1, 0], [50, 1, 1, 1005, 1002, 0, 6, 4, 2, 1, 0, 0, 1, 3, 1, 2, 4, 3, 2, 1, 5, 0, 2]), (20, [0, 0], [30, 0, 1, 1, 15, -1, 1, 11]), (20, [0], [50, 3, 0, 12, 11, 15, 2, 21, 4, 7, 1, 3, 2, 0, 12, 0, 1, 0, 3, 2, 0, 11, 4, 3, 2, 0, 15, 0, 8, 3, 7, 1, 3, 2, 0, 12, 0, 0, 0, 7, 4, 3, 2, 0, 15, 0, 1, 2, 0, 11]), (20, [7, 0], [30, 0, 1, 0, 0, -1, 1, 15]), (20, [8, 0], [50, 1, 0, 1012, 4, 6, 1, 2, 1, 0, 0, 1, 1, 3, 2, 1, 12, 0, 1]), (20, [0], [30, -1, -1, 1, 8]), (102, [10], [0, 13008, 13009]), (8, [8], [0]), (23, [7, 3], [0, 1, -1]), (23, [7, 3], [0, -1, 1]), (102, [7], [0]), (23, [7, 3], [0, 1, -1]), (23, [7, 3], [0, -1, 1]), (102, [7], [0, 13011, 13012, 13013, 13014, 13015]), (23, [7, 3], [0, 1, -1]), (23, [7, 3], [0, -1, 1]), (7, [4, 5], [1])], [], [], [(20, [3, 0], [30, 0, 1, 0, 0, -1, 1, 11]), (20, [0, 3], [50, 2, 0, 8, 11, 3, 7, 0, 2, 0, 1, 2, 0, 8, 0, 6, 4, 2, 1, 1, 0, 1, 2, 0, 11])], [], [])
theorem oo_Mo_groupItem_at_k2_8 {kA : Nat → ClassId} : or_ok kA GG o_Mo_groupItem_at_k2_8 := by
  intro A ta ws vs hD hth hl hk hds hf
  have hl : vs.length = 11 := hl
  have hk : ∀ q ∈ ([(0, (2, 0, 0, [150])), (1, (0, 0, 7, [])), (3, (0, 0, 2000, [])), (4, (0, 0, 7, [])), (5, (0, 8, 8, [])), (7, (0, 0, 2000, [])), (8, (0, 0, 0, []))] : List (Nat × tv_T)), tv_ok ta q.2 (n_v vs q.1) := hk
  obtain ⟨t0, hk⟩ := List.forall_mem_cons.mp hk
  have t0 : tv_ok ta (2, 0, 0, [150]) (n_v vs 0) := t0
  have r0 : ta (v_ad (n_v vs 0)) = some 150 := tv_rg t0
  obtain ⟨t1, hk⟩ := List.forall_mem_cons.mp hk
  have t1 : tv_ok ta (0, 0, 7, []) (n_v vs 1) := t1
  have k1 : 0 ≤ v_iv (n_v vs 1) ∧ v_iv (n_v vs 1) ≤ 7 := tv_rng t1
  obtain ⟨t3, hk⟩ := List.forall_mem_cons.mp hk
  have t3 : tv_ok ta (0, 0, 2000, []) (n_v vs 3) := t3
  have k3 : 0 ≤ v_iv (n_v vs 3) ∧ v_iv (n_v vs 3) ≤ 2000 := tv_rng t3
  obtain ⟨t4, hk⟩ := List.forall_mem_cons.mp hk
  have t4 : tv_ok ta (0, 0, 7, []) (n_v vs 4) := t4
  have k4 : 0 ≤ v_iv (n_v vs 4) ∧ v_iv (n_v vs 4) ≤ 7 := tv_rng t4
  obtain ⟨t5, hk⟩ := List.forall_mem_cons.mp hk
  have t5 : tv_ok ta (0, 8, 8, []) (n_v vs 5) := t5
  have k5 : 8 ≤ v_iv (n_v vs 5) ∧ v_iv (n_v vs 5) ≤ 8 := tv_rng t5
  obtain ⟨t7, hk⟩ := List.forall_mem_cons.mp hk
  have t7 : tv_ok ta (0, 0, 2000, []) (n_v vs 7) := t7
  have k7 : 0 ≤ v_iv (n_v vs 7) ∧ v_iv (n_v vs 7) ≤ 2000 := tv_rng t7
  obtain ⟨t8, hk⟩ := List.forall_mem_cons.mp hk
  have t8 : tv_ok ta (0, 0, 0, []) (n_v vs 8) := t8
  have k8 : 0 ≤ v_iv (n_v vs 8) ∧ v_iv (n_v vs 8) ≤ 0 := tv_rng t8
  have hf : fc_ok [(23, [7, 3], [0, 1, -1]), (23, [7, 3], [0, -1, 1]), (20, [4, 0], [30, 0, 1, 0, 0, -1, 3, 2005002]), (20, [4, 0], [30, 0, -1, 0, 0, 1, 3, 2005002]), (20, [1, 0], [50, 1, 1, 1005, 1002, 0, 6, 4, 2, 1, 0, 0, 1, 3, 1, 2, 4, 3, 2, 1, 5, 0, 2]), (20, [0, 0], [30, 0, 1, 1, 15, -1, 1, 11]), (20, [0], [50, 3, 0, 12, 11, 15, 2, 21, 4, 7, 1, 3, 2, 0, 12, 0, 1, 0, 3, 2, 0, 11, 4, 3, 2, 0, 15, 0, 8, 3, 7, 1, 3, 2, 0, 12, 0, 0, 0, 7, 4, 3, 2, 0, 15, 0, 1, 2, 0, 11]), (20, [7, 0], [30, 0, 1, 0, 0, -1, 1, 15]), (20, [8, 0], [50, 1, 0, 1012, 4, 6, 1, 2, 1, 0, 0, 1, 1, 3, 2, 1, 12, 0, 1]), (20, [0], [30, -1, -1, 1, 8]), (102, [10], [0, 13008, 13009]), (8, [8], [0]), (23, [7, 3], [0, 1, -1]), (23, [7, 3], [0, -1, 1]), (102, [7], [0]), (23, [7, 3], [0, 1, -1]), (23, [7, 3], [0, -1, 1]), (102, [7], [0, 13011, 13012, 13013, 13014, 13015]), (23, [7, 3], [0, 1, -1]), (23, [7, 3], [0, -1, 1]), (7, [4, 5], [1])] ta ws vs := hf
  obtain ⟨f0, hf⟩ := fc_un (show (23 : Nat) < 100 from by decide) hf
  have f0 : 1 * v_iv (n_v vs 7) + ((-1) * v_iv (n_v vs 3) + 0) ≤ 0 := f0
  obtain ⟨f1, hf⟩ := fc_un (show (23 : Nat) < 100 from by decide) hf
  have f1 : (-1) * v_iv (n_v vs 7) + (1 * v_iv (n_v vs 3) + 0) ≤ 0 := f1
  obtain ⟨f2, hf⟩ := fc_un (show (20 : Nat) < 100 from by decide) hf
  have f2 : 1 * v_iv (n_v vs 4) + ((-1) * w_el ws (w_ar ws (n_v vs 0) 2) (w_fi ws (n_v vs 0) 5 + 2).toNat + 0) ≤ 0 := f2
  obtain ⟨f3, hf⟩ := fc_un (show (20 : Nat) < 100 from by decide) hf
  have f3 : (-1) * v_iv (n_v vs 4) + (1 * w_el ws (w_ar ws (n_v vs 0) 2) (w_fi ws (n_v vs 0) 5 + 2).toNat + 0) ≤ 0 := f3
  obtain ⟨f4, hf⟩ := fc_un (show (20 : Nat) < 100 from by decide) hf
  have f4 : (v_iv (n_v vs 1) + 1) ≤ w_ei ws (w_ar ws (n_v vs 0) 2) ((w_fi ws (n_v vs 0) 5 + 2)) := f4
  obtain ⟨f5, hf⟩ := fc_un (show (20 : Nat) < 100 from by decide) hf
  have f5 : 1 * w_fi ws (n_v vs 0) 15 + ((-1) * w_fi ws (n_v vs 0) 11 + 0) ≤ 0 := f5
  obtain ⟨f6, hf⟩ := fc_un (show (20 : Nat) < 100 from by decide) hf
  have f6 : ((w_fi ws (n_v vs 0) 12 = 1) → (w_fi ws (n_v vs 0) 11 ≤ (w_fi ws (n_v vs 0) 15 + 8))) ∧ ((w_fi ws (n_v vs 0) 12 = 0) ∨ ((w_fi ws (n_v vs 0) 15 + 1) ≤ w_fi ws (n_v vs 0) 11)) := f6
  obtain ⟨f7, hf⟩ := fc_un (show (20 : Nat) < 100 from by decide) hf
  have f7 : 1 * v_iv (n_v vs 7) + ((-1) * w_fi ws (n_v vs 0) 15 + 0) ≤ 0 := f7
  obtain ⟨f8, hf⟩ := fc_un (show (20 : Nat) < 100 from by decide) hf
  have f8 : (v_iv (n_v vs 8) = 1) → (w_fi ws (n_v vs 0) 12 = 1) := f8
  obtain ⟨f9, hf⟩ := fc_un (show (20 : Nat) < 100 from by decide) hf
  have f9 : (-1) * w_fi ws (n_v vs 0) 8 + 0 ≤ (-1) := f9
  obtain ⟨ta1, w1, le1, ⟨_, s1⟩, hf⟩ := fc_us (show ¬ (102 : Nat) < 100 from by decide) hf
  obtain ⟨f11, hf⟩ := fc_un (show (8 : Nat) < 100 from by decide) hf
  have f11 : v_iv (n_v vs 8) = 0 := f11
  obtain ⟨f12, hf⟩ := fc_un (show (23 : Nat) < 100 from by decide) hf
  have f12 : 1 * v_iv (n_v vs 7) + ((-1) * v_iv (n_v vs 3) + 0) ≤ 0 := f12
  obtain ⟨f13, hf⟩ := fc_un (show (23 : Nat) < 100 from by decide) hf
  have f13 : (-1) * v_iv (n_v vs 7) + (1 * v_iv (n_v vs 3) + 0) ≤ 0 := f13
  obtain ⟨ta2, w2, le2, ⟨_, s2⟩, hf⟩ := fc_us (show ¬ (102 : Nat) < 100 from by decide) hf
  obtain ⟨f15, hf⟩ := fc_un (show (23 : Nat) < 100 from by decide) hf
  have f15 : 1 * v_iv (n_v vs 7) + ((-1) * v_iv (n_v vs 3) + 0) ≤ 0 := f15
  obtain ⟨f16, hf⟩ := fc_un (show (23 : Nat) < 100 from by decide) hf
  have f16 : (-1) * v_iv (n_v vs 7) + (1 * v_iv (n_v vs 3) + 0) ≤ 0 := f16
  obtain ⟨ta3, w3, le3, ⟨_, s3⟩, hf⟩ := fc_us (show ¬ (102 : Nat) < 100 from by decide) hf
  obtain ⟨f18, hf⟩ := fc_un (show (23 : Nat) < 100 from by decide) hf
  have f18 : 1 * v_iv (n_v vs 7) + ((-1) * v_iv (n_v vs 3) + 0) ≤ 0 := f18
  obtain ⟨f19, hf⟩ := fc_un (show (23 : Nat) < 100 from by decide) hf
  have f19 : (-1) * v_iv (n_v vs 7) + (1 * v_iv (n_v vs 3) + 0) ≤ 0 := f19
  obtain ⟨f20, hf⟩ := fc_un (show (7 : Nat) < 100 from by decide) hf
  have f20 : v_iv (n_v vs 4) ≠ v_iv (n_v vs 5) := f20
  have cr_0_2 : ta (w_ar ws (n_v vs 0) 2) = some 152 := tv_rg (th_fd hD hth r0 (g := GG_150) rfl (k := 2) (t := (2, 0, 0, [152])) rfl rfl)
  have br_0_2_F5_2_0 : w_ei ws (w_ar ws (n_v vs 0) 2) (w_fi ws (n_v vs 0) 5 + 2) = w_el ws (w_ar ws (n_v vs 0) 2) (w_fi ws (n_v vs 0) 5 + 2).toNat := rfl
  have kz_0_8 : 0 ≤ w_fi ws (n_v vs 0) 8 ∧ w_fi ws (n_v vs 0) 8 ≤ 5 := tv_rng (th_fd hD hth r0 (g := GG_150) rfl (k := 8) (t := (0, 0, 5, [])) rfl rfl)
  have kz_0_11 : 0 ≤ w_fi ws (n_v vs 0) 11 ∧ w_fi ws (n_v vs 0) 11 ≤ 2000 := tv_rng (th_fd hD hth r0 (g := GG_150) rfl (k := 11) (t := (0, 0, 2000, [])) rfl rfl)
  have kz_0_12 : 0 ≤ w_fi ws (n_v vs 0) 12 ∧ w_fi ws (n_v vs 0) 12 ≤ 4 := tv_rng (th_fd hD hth r0 (g := GG_150) rfl (k := 12) (t := (0, 0, 4, [])) rfl rfl)
  have kz_0_15 : 0 ≤ w_fi ws (n_v vs 0) 15 ∧ w_fi ws (n_v vs 0) 15 ≤ 2000 := tv_rng (th_fd hD hth r0 (g := GG_150) rfl (k := 15) (t := (0, 0, 2000, [])) rfl rfl)
  have nf0 : fc_1 (20, [3, 0], [30, 0, 1, 0, 0, -1, 1, 11]) ws (vs) := by
    refine ⟨fun n hn => ?_, ?_⟩
    · have hn : n ∈ [3, 0] := hn
      rw [hl]
      simp only [List.mem_cons, List.not_mem_nil, or_false] at hn
      show n < 11; omega
    · show 1 * v_iv (n_v vs 3) + ((-1) * w_fi ws (n_v vs 0) 11 + 0) ≤ 0
      omega
  have nf1 : fc_1 (20, [0, 3], [50, 2, 0, 8, 11, 3, 7, 0, 2, 0, 1, 2, 0, 8, 0, 6, 4, 2, 1, 1, 0, 1, 2, 0, 11]) ws (vs) := by
    refine ⟨fun n hn => ?_, ?_⟩
    · have hn : n ∈ [0, 3] := hn
      rw [hl]
      simp only [List.mem_cons, List.not_mem_nil, or_false] at hn
      show n < 11; omega
    · show (1 ≤ w_fi ws (n_v vs 0) 8) ∨ ((v_iv (n_v vs 3) + 1) ≤ w_fi ws (n_v vs 0) 11)
      first | omega | grind
  refine ⟨(fun _ h => (by cases h)), [], trivial, ?_, (fun _ h => (by cases h))⟩
  rw [List.append_nil]
  exact List.forall_mem_cons.mpr ⟨⟨show (20 : Nat) < 100 from by decide, nf0⟩, List.forall_mem_cons.mpr ⟨⟨show (20 : Nat) < 100 from by decide, nf1⟩, (fun _ h => (by cases h))⟩⟩
def o_Mo_groupItem_at_k2_9 : or_T := (161, 12, [(0, (2, 0, 0, [150])), (1, (0, 0, 7, [])), (3, (0, 0, 2000, [])), (4, (2, 0, 0, [150])), (5, (0, 0, 7, [])), (7, (0, 0, 7, [])), (8, (0, 0, 8, [])), (9, (0, 0, 2000, [])), (10, (0, 0, 2000, [])), (11, (0, -2000, 8, []))], [(7, [8, 11], [3]), (2, [11, 9, 10], []), (9, [10, 4], [15]), (9, [9, 4], [11]), (20, [4, 4], [30, 0, 1, 1, 15, -1, 1, 11]), (20, [4], [50, 3, 0, 12, 11, 15, 2, 21, 4, 7, 1, 3, 2, 0, 12, 0, 1, 0, 3, 2, 0, 11, 4, 3, 2, 0, 15, 0, 8, 3, 7, 1, 3, 2, 0, 12, 0, 0, 0, 7, 4, 3, 2, 0, 15, 0, 1, 2, 0, 11]), (20, [3, 4], [30, -1, 1, 0, 0, -1, 1, 11]), (20, [4], [50, 1, 0, 12, 1, 3, 2, 0, 12, 0, 1]), (20, [7, 4], [50, 1, 1, 1005, 1002, 0, 6, 4, 2, 1, 0, 0, 1, 3, 1, 2, 4, 3, 2, 1, 5, 0, 2]), (23, [5, 7], [-1, 1, -1]), (24, [0, 4], []), (24, [1, 5], [])], [], [(0, 0, 2000, [])], [(20, [12, 4], [30, 0, 1, 0, 0, -1, 1, 11]), (23, [3, 12], [-1, 1, -1])], [], [(8, 11, 0, 4294967296), (11, 9, -2000, 0), (1, 3, -4294967296, 7), (1, 5, -4294967296, 0), (1, 7, -4294967296, 7), (1, 8, -4294967296, 7), (3, 1, -4294967296, 2000), (3, 5, -4294967296, 2000), (3, 7, -4294967296, 2000), (3, 8, -4294967296, 2000), (5, 1, -4294967296, 0), (5, 3, -4294967296, 7), (5, 7, -4294967296, 7), (5, 8, -4294967296, 7), (7, 1, -4294967296, 7), (7, 3, -4294967296, 7), (7, 5, -4294967296, 7), (7, 8, -4294967296, 7)])
theorem oo_Mo_groupItem_at_k2_9 {kA : Nat → ClassId} : or_ok kA GG o_Mo_groupItem_at_k2_9 := by
  intro A ta ws vs hD hth hl hk hds hf
  have hl : vs.length = 12 := hl
  have hk : ∀ q ∈ ([(0, (2, 0, 0, [150])), (1, (0, 0, 7, [])), (3, (0, 0, 2000, [])), (4, (2, 0, 0, [150])), (5, (0, 0, 7, [])), (7, (0, 0, 7, [])), (8, (0, 0, 8, [])), (9, (0, 0, 2000, [])), (10, (0, 0, 2000, [])), (11, (0, -2000, 8, []))] : List (Nat × tv_T)), tv_ok ta q.2 (n_v vs q.1) := hk
  obtain ⟨t0, hk⟩ := List.forall_mem_cons.mp hk
  have t0 : tv_ok ta (2, 0, 0, [150]) (n_v vs 0) := t0
  have r0 : ta (v_ad (n_v vs 0)) = some 150 := tv_rg t0
  obtain ⟨t1, hk⟩ := List.forall_mem_cons.mp hk
  have t1 : tv_ok ta (0, 0, 7, []) (n_v vs 1) := t1
  have k1 : 0 ≤ v_iv (n_v vs 1) ∧ v_iv (n_v vs 1) ≤ 7 := tv_rng t1
  obtain ⟨t3, hk⟩ := List.forall_mem_cons.mp hk
  have t3 : tv_ok ta (0, 0, 2000, []) (n_v vs 3) := t3
  have k3 : 0 ≤ v_iv (n_v vs 3) ∧ v_iv (n_v vs 3) ≤ 2000 := tv_rng t3
  obtain ⟨t4, hk⟩ := List.forall_mem_cons.mp hk
  have t4 : tv_ok ta (2, 0, 0, [150]) (n_v vs 4) := t4
  have r4 : ta (v_ad (n_v vs 4)) = some 150 := tv_rg t4
  obtain ⟨t5, hk⟩ := List.forall_mem_cons.mp hk
  have t5 : tv_ok ta (0, 0, 7, []) (n_v vs 5) := t5
  have k5 : 0 ≤ v_iv (n_v vs 5) ∧ v_iv (n_v vs 5) ≤ 7 := tv_rng t5
  obtain ⟨t7, hk⟩ := List.forall_mem_cons.mp hk
  have t7 : tv_ok ta (0, 0, 7, []) (n_v vs 7) := t7
  have k7 : 0 ≤ v_iv (n_v vs 7) ∧ v_iv (n_v vs 7) ≤ 7 := tv_rng t7
  obtain ⟨t8, hk⟩ := List.forall_mem_cons.mp hk
  have t8 : tv_ok ta (0, 0, 8, []) (n_v vs 8) := t8
  have k8 : 0 ≤ v_iv (n_v vs 8) ∧ v_iv (n_v vs 8) ≤ 8 := tv_rng t8
  obtain ⟨t9, hk⟩ := List.forall_mem_cons.mp hk
  have t9 : tv_ok ta (0, 0, 2000, []) (n_v vs 9) := t9
  have k9 : 0 ≤ v_iv (n_v vs 9) ∧ v_iv (n_v vs 9) ≤ 2000 := tv_rng t9
  obtain ⟨t10, hk⟩ := List.forall_mem_cons.mp hk
  have t10 : tv_ok ta (0, 0, 2000, []) (n_v vs 10) := t10
  have k10 : 0 ≤ v_iv (n_v vs 10) ∧ v_iv (n_v vs 10) ≤ 2000 := tv_rng t10
  obtain ⟨t11, hk⟩ := List.forall_mem_cons.mp hk
  have t11 : tv_ok ta (0, -2000, 8, []) (n_v vs 11) := t11
  have k11 : (-2000) ≤ v_iv (n_v vs 11) ∧ v_iv (n_v vs 11) ≤ 8 := tv_rng t11
  have hds : ∀ q ∈ ([(8, 11, 0, 4294967296), (11, 9, -2000, 0), (1, 3, -4294967296, 7), (1, 5, -4294967296, 0), (1, 7, -4294967296, 7), (1, 8, -4294967296, 7), (3, 1, -4294967296, 2000), (3, 5, -4294967296, 2000), (3, 7, -4294967296, 2000), (3, 8, -4294967296, 2000), (5, 1, -4294967296, 0), (5, 3, -4294967296, 7), (5, 7, -4294967296, 7), (5, 8, -4294967296, 7), (7, 1, -4294967296, 7), (7, 3, -4294967296, 7), (7, 5, -4294967296, 7), (7, 8, -4294967296, 7)] : List of_T), n_iv vs q.2.1 + q.2.2.1 ≤ n_iv vs q.1 ∧ n_iv vs q.1 ≤ n_iv vs q.2.1 + q.2.2.2 := hds
  obtain ⟨d0, hds⟩ := List.forall_mem_cons.mp hds
  have d0 : v_iv (n_v vs 11) + 0 ≤ v_iv (n_v vs 8) ∧ v_iv (n_v vs 8) ≤ v_iv (n_v vs 11) + 4294967296 := d0
  obtain ⟨d1, hds⟩ := List.forall_mem_cons.mp hds
  have d1 : v_iv (n_v vs 9) + (-2000) ≤ v_iv (n_v vs 11) ∧ v_iv (n_v vs 11) ≤ v_iv (n_v vs 9) + 0 := d1
  obtain ⟨d2, hds⟩ := List.forall_mem_cons.mp hds
  have d2 : v_iv (n_v vs 3) + (-4294967296) ≤ v_iv (n_v vs 1) ∧ v_iv (n_v vs 1) ≤ v_iv (n_v vs 3) + 7 := d2
  obtain ⟨d3, hds⟩ := List.forall_mem_cons.mp hds
  have d3 : v_iv (n_v vs 5) + (-4294967296) ≤ v_iv (n_v vs 1) ∧ v_iv (n_v vs 1) ≤ v_iv (n_v vs 5) + 0 := d3
  obtain ⟨d4, hds⟩ := List.forall_mem_cons.mp hds
  have d4 : v_iv (n_v vs 7) + (-4294967296) ≤ v_iv (n_v vs 1) ∧ v_iv (n_v vs 1) ≤ v_iv (n_v vs 7) + 7 := d4
  obtain ⟨d5, hds⟩ := List.forall_mem_cons.mp hds
  have d5 : v_iv (n_v vs 8) + (-4294967296) ≤ v_iv (n_v vs 1) ∧ v_iv (n_v vs 1) ≤ v_iv (n_v vs 8) + 7 := d5
  obtain ⟨d6, hds⟩ := List.forall_mem_cons.mp hds
  have d6 : v_iv (n_v vs 1) + (-4294967296) ≤ v_iv (n_v vs 3) ∧ v_iv (n_v vs 3) ≤ v_iv (n_v vs 1) + 2000 := d6
  obtain ⟨d7, hds⟩ := List.forall_mem_cons.mp hds
  have d7 : v_iv (n_v vs 5) + (-4294967296) ≤ v_iv (n_v vs 3) ∧ v_iv (n_v vs 3) ≤ v_iv (n_v vs 5) + 2000 := d7
  obtain ⟨d8, hds⟩ := List.forall_mem_cons.mp hds
  have d8 : v_iv (n_v vs 7) + (-4294967296) ≤ v_iv (n_v vs 3) ∧ v_iv (n_v vs 3) ≤ v_iv (n_v vs 7) + 2000 := d8
  obtain ⟨d9, hds⟩ := List.forall_mem_cons.mp hds
  have d9 : v_iv (n_v vs 8) + (-4294967296) ≤ v_iv (n_v vs 3) ∧ v_iv (n_v vs 3) ≤ v_iv (n_v vs 8) + 2000 := d9
  obtain ⟨d10, hds⟩ := List.forall_mem_cons.mp hds
  have d10 : v_iv (n_v vs 1) + (-4294967296) ≤ v_iv (n_v vs 5) ∧ v_iv (n_v vs 5) ≤ v_iv (n_v vs 1) + 0 := d10
  obtain ⟨d11, hds⟩ := List.forall_mem_cons.mp hds
  have d11 : v_iv (n_v vs 3) + (-4294967296) ≤ v_iv (n_v vs 5) ∧ v_iv (n_v vs 5) ≤ v_iv (n_v vs 3) + 7 := d11
  obtain ⟨d12, hds⟩ := List.forall_mem_cons.mp hds
  have d12 : v_iv (n_v vs 7) + (-4294967296) ≤ v_iv (n_v vs 5) ∧ v_iv (n_v vs 5) ≤ v_iv (n_v vs 7) + 7 := d12
  obtain ⟨d13, hds⟩ := List.forall_mem_cons.mp hds
  have d13 : v_iv (n_v vs 8) + (-4294967296) ≤ v_iv (n_v vs 5) ∧ v_iv (n_v vs 5) ≤ v_iv (n_v vs 8) + 7 := d13
  obtain ⟨d14, hds⟩ := List.forall_mem_cons.mp hds
  have d14 : v_iv (n_v vs 1) + (-4294967296) ≤ v_iv (n_v vs 7) ∧ v_iv (n_v vs 7) ≤ v_iv (n_v vs 1) + 7 := d14
  obtain ⟨d15, hds⟩ := List.forall_mem_cons.mp hds
  have d15 : v_iv (n_v vs 3) + (-4294967296) ≤ v_iv (n_v vs 7) ∧ v_iv (n_v vs 7) ≤ v_iv (n_v vs 3) + 7 := d15
  obtain ⟨d16, hds⟩ := List.forall_mem_cons.mp hds
  have d16 : v_iv (n_v vs 5) + (-4294967296) ≤ v_iv (n_v vs 7) ∧ v_iv (n_v vs 7) ≤ v_iv (n_v vs 5) + 7 := d16
  obtain ⟨d17, hds⟩ := List.forall_mem_cons.mp hds
  have d17 : v_iv (n_v vs 8) + (-4294967296) ≤ v_iv (n_v vs 7) ∧ v_iv (n_v vs 7) ≤ v_iv (n_v vs 8) + 7 := d17
  have hf : fc_ok [(7, [8, 11], [3]), (2, [11, 9, 10], []), (9, [10, 4], [15]), (9, [9, 4], [11]), (20, [4, 4], [30, 0, 1, 1, 15, -1, 1, 11]), (20, [4], [50, 3, 0, 12, 11, 15, 2, 21, 4, 7, 1, 3, 2, 0, 12, 0, 1, 0, 3, 2, 0, 11, 4, 3, 2, 0, 15, 0, 8, 3, 7, 1, 3, 2, 0, 12, 0, 0, 0, 7, 4, 3, 2, 0, 15, 0, 1, 2, 0, 11]), (20, [3, 4], [30, -1, 1, 0, 0, -1, 1, 11]), (20, [4], [50, 1, 0, 12, 1, 3, 2, 0, 12, 0, 1]), (20, [7, 4], [50, 1, 1, 1005, 1002, 0, 6, 4, 2, 1, 0, 0, 1, 3, 1, 2, 4, 3, 2, 1, 5, 0, 2]), (23, [5, 7], [-1, 1, -1]), (24, [0, 4], []), (24, [1, 5], [])] ta ws vs := hf
  obtain ⟨f0, hf⟩ := fc_un (show (7 : Nat) < 100 from by decide) hf
  have f0 : v_iv (n_v vs 11) ≤ v_iv (n_v vs 8) := f0
  obtain ⟨f1, hf⟩ := fc_un (show (2 : Nat) < 100 from by decide) hf
  have f1 : v_iv (n_v vs 11) = v_iv (n_v vs 9) - v_iv (n_v vs 10) := f1
  obtain ⟨f2, hf⟩ := fc_un (show (9 : Nat) < 100 from by decide) hf
  have f2 : n_v vs 10 = w_fd ws (v_ad (n_v vs 4)) 15 := f2
  obtain ⟨f3, hf⟩ := fc_un (show (9 : Nat) < 100 from by decide) hf
  have f3 : n_v vs 9 = w_fd ws (v_ad (n_v vs 4)) 11 := f3
  obtain ⟨f4, hf⟩ := fc_un (show (20 : Nat) < 100 from by decide) hf
  have f4 : 1 * w_fi ws (n_v vs 4) 15 + ((-1) * w_fi ws (n_v vs 4) 11 + 0) ≤ 0 := f4
  obtain ⟨f5, hf⟩ := fc_un (show (20 : Nat) < 100 from by decide) hf
  have f5 : ((w_fi ws (n_v vs 4) 12 = 1) → (w_fi ws (n_v vs 4) 11 ≤ (w_fi ws (n_v vs 4) 15 + 8))) ∧ ((w_fi ws (n_v vs 4) 12 = 0) ∨ ((w_fi ws (n_v vs 4) 15 + 1) ≤ w_fi ws (n_v vs 4) 11)) := f5
  obtain ⟨f6, hf⟩ := fc_un (show (20 : Nat) < 100 from by decide) hf
  have f6 : 1 * v_iv (n_v vs 3) + ((-1) * w_fi ws (n_v vs 4) 11 + 0) ≤ (-1) := f6
  obtain ⟨f7, hf⟩ := fc_un (show (20 : Nat) < 100 from by decide) hf
  have f7 : w_fi ws (n_v vs 4) 12 = 1 := f7
  obtain ⟨f8, hf⟩ := fc_un (show (20 : Nat) < 100 from by decide) hf
  have f8 : (v_iv (n_v vs 7) + 1) ≤ w_ei ws (w_ar ws (n_v vs 4) 2) ((w_fi ws (n_v vs 4) 5 + 2)) := f8
  obtain ⟨f9, hf⟩ := fc_un (show (23 : Nat) < 100 from by decide) hf
  have f9 : 1 * v_iv (n_v vs 5) + ((-1) * v_iv (n_v vs 7) + 0) ≤ (-1) := f9
  obtain ⟨f10, hf⟩ := fc_un (show (24 : Nat) < 100 from by decide) hf
  have f10 : n_v vs 0 = n_v vs 4 := f10
  obtain ⟨f11, hf⟩ := fc_un (show (24 : Nat) < 100 from by decide) hf
  have f11 : n_v vs 1 = n_v vs 5 := f11
  have q4 : n_v vs 4 = n_v vs 0 := f10.symm
  have q5 : n_v vs 5 = n_v vs 1 := f11.symm
  rw [q4] at f2
  rw [q4] at f3
  rw [q4] at f4
  rw [q4] at f5
  rw [q4] at f6
  rw [q4] at f7
  rw [q4] at f8
  rw [q5] at f9
  have cr_0_2 : ta (w_ar ws (n_v vs 0) 2) = some 152 := tv_rg (th_fd hD hth r0 (g := GG_150) rfl (k := 2) (t := (2, 0, 0, [152])) rfl rfl)
  have g2 : v_iv (n_v vs 10) = w_fi ws (n_v vs 0) 15 := congrArg v_iv f2
  have g3 : v_iv (n_v vs 9) = w_fi ws (n_v vs 0) 11 := congrArg v_iv f3
  have kz_0_11 : 0 ≤ w_fi ws (n_v vs 0) 11 ∧ w_fi ws (n_v vs 0) 11 ≤ 2000 := tv_rng (th_fd hD hth r0 (g := GG_150) rfl (k := 11) (t := (0, 0, 2000, [])) rfl rfl)
  have kz_0_12 : 0 ≤ w_fi ws (n_v vs 0) 12 ∧ w_fi ws (n_v vs 0) 12 ≤ 4 := tv_rng (th_fd hD hth r0 (g := GG_150) rfl (k := 12) (t := (0, 0, 4, [])) rfl rfl)
  have kz_0_15 : 0 ≤ w_fi ws (n_v vs 0) 15 ∧ w_fi ws (n_v vs 0) 15 ≤ 2000 := tv_rng (th_fd hD hth r0 (g := GG_150) rfl (k := 15) (t := (0, 0, 2000, [])) rfl rfl)
  have kv0 : 0 ≤ w_fi ws (n_v vs 0) 11 ∧ w_fi ws (n_v vs 0) 11 ≤ 2000 := tv_rng (th_fd hD hth r0 (g := GG_150) rfl (k := 11) (t := (0, 0, 2000, [])) rfl rfl)
  obtain ⟨x, ex, hx⟩ := iv_ex (ta := ta) (lo := 0) (hi := 2000) (z := w_fi ws (n_v vs 0) 11) (by omega) (by omega) (by omega) (by omega)
  have ex2 : v_iv (Value.int x) = w_fi ws (n_v vs 0) 11 := ex
  have ex3 : 0 ≤ v_iv (Value.int x) ∧ v_iv (Value.int x) ≤ 2000 := tv_rng hx
  have e_3 : n_v (vs ++ [Value.int x]) 3 = n_v vs 3 := n_v_old (by rw [hl]; decide)
  have e_4 : n_v (vs ++ [Value.int x]) 4 = n_v vs 4 := n_v_old (by rw [hl]; decide)
  have e_12 : n_v (vs ++ [Value.int x]) 12 = Value.int x := n_v_new hl
  have nf0 : fc_1 (20, [12, 4], [30, 0, 1, 0, 0, -1, 1, 11]) ws (vs ++ [Value.int x]) := by
    refine ⟨fun n hn => ?_, ?_⟩
    · have hn : n ∈ [12, 4] := hn
      rw [List.length_append, hl]
      simp only [List.mem_cons, List.not_mem_nil, or_false] at hn
      show n < 12 + 1; omega
    · show 1 * v_iv (n_v (vs ++ [Value.int x]) 12) + ((-1) * w_fi ws (n_v (vs ++ [Value.int x]) 4) 11 + 0) ≤ 0
      rw [e_4]
      rw [e_12]
      rw [q4]
      omega
  have nf1 : fc_1 (23, [3, 12], [-1, 1, -1]) ws (vs ++ [Value.int x]) := by
    refine ⟨fun n hn => ?_, ?_⟩
    · have hn : n ∈ [3, 12] := hn
      rw [List.length_append, hl]
      simp only [List.mem_cons, List.not_mem_nil, or_false] at hn
      show n < 12 + 1; omega
    · show 1 * v_iv (n_v (vs ++ [Value.int x]) 3) + ((-1) * v_iv (n_v (vs ++ [Value.int x]) 12) + 0) ≤ (-1)
      rw [e_3]
      rw [e_12]
      omega
  exact ⟨(fun _ h => (by cases h)), [Value.int x], ag_one hx, List.forall_mem_cons.mpr ⟨⟨show (20 : Nat) < 100 from by decide, nf0⟩, List.forall_mem_cons.mpr ⟨⟨show (23 : Nat) < 100 from by decide, nf1⟩, (fun _ h => (by cases h))⟩⟩, (fun _ h => (by cases h))⟩
def o_Mo_groupItem_at_k2_10 : or_T := (167, 14, [(0, (2, 0, 0, [150])), (1, (0, 0, 7, [])), (3, (0, 0, 2000, [])), (4, (2, 0, 0, [150])), (5, (0, 0, 7, [])), (7, (0, 0, 7, [])), (12, (0, 0, 2000, []))], [(23, [3, 12], [-1, 1, -1]), (20, [7, 4], [50, 1, 1, 1005, 1002, 0, 6, 4, 2, 1, 0, 0, 1, 3, 1, 2, 4, 3, 2, 1, 5, 0, 2]), (23, [5, 7], [-1, 1, -1]), (24, [0, 4], []), (24, [1, 5], []), (20, [4, 4], [30, 0, 1, 1, 15, -1, 1, 11]), (20, [4], [50, 3, 0, 12, 11, 15, 2, 21, 4, 7, 1, 3, 2, 0, 12, 0, 1, 0, 3, 2, 0, 11, 4, 3, 2, 0, 15, 0, 8, 3, 7, 1, 3, 2, 0, 12, 0, 0, 0, 7, 4, 3, 2, 0, 15, 0, 1, 2, 0, 11]), (20, [12, 4], [30, 0, 1, 0, 0, -1, 1, 15]), (102, [12], [0, 13011, 13012, 13013, 13014, 13015]), (23, [3, 12], [-1, 1, -1]), (23, [5, 7], [-1, 1, -1])], [], [(0, 0, 2000, [])], [(23, [14, 3], [0, 1, -1]), (23, [14, 3], [0, -1, 1]), (20, [4, 4], [30, 0, 1, 1, 15, -1, 1, 11]), (20, [4], [50, 3, 0, 12, 11, 15, 2, 21, 4, 7, 1, 3, 2, 0, 12, 0, 1, 0, 3, 2, 0, 11, 4, 3, 2, 0, 15, 0, 8, 3, 7, 1, 3, 2, 0, 12, 0, 0, 0, 7, 4, 3, 2, 0, 15, 0, 1, 2, 0, 11]), (20, [14, 4], [30, 0, 1, 0, 0, -1, 1, 11]), (20, [4, 14], [50, 3, 0, 8, 12, 11, 3, 7, 0, 2, 0, 1, 2, 0, 8, 3, 7, 1, 3, 2, 0, 12, 0, 0, 0, 6, 4, 2, 1, 1, 0, 1, 2, 0, 11])], [], [(1, 3, -4294967296, 7), (1, 5, -4294967296, 0), (1, 7, -4294967296, 7), (3, 1, -4294967296, 2000), (3, 5, -4294967296, 2000), (3, 7, -4294967296, 2000), (5, 1, -4294967296, 0), (5, 3, -4294967296, 7), (5, 7, -4294967296, 7), (7, 1, -4294967296, 7), (7, 3, -4294967296, 7), (7, 5, -4294967296, 7)])
theorem oo_Mo_groupItem_at_k2_10 {kA : Nat → ClassId} : or_ok kA GG o_Mo_groupItem_at_k2_10 := by
  intro A ta ws vs hD hth hl hk hds hf
  have hl : vs.length = 14 := hl
  have hk : ∀ q ∈ ([(0, (2, 0, 0, [150])), (1, (0, 0, 7, [])), (3, (0, 0, 2000, [])), (4, (2, 0, 0, [150])), (5, (0, 0, 7, [])), (7, (0, 0, 7, [])), (12, (0, 0, 2000, []))] : List (Nat × tv_T)), tv_ok ta q.2 (n_v vs q.1) := hk
  obtain ⟨t0, hk⟩ := List.forall_mem_cons.mp hk
  have t0 : tv_ok ta (2, 0, 0, [150]) (n_v vs 0) := t0
  have r0 : ta (v_ad (n_v vs 0)) = some 150 := tv_rg t0
  obtain ⟨t1, hk⟩ := List.forall_mem_cons.mp hk
  have t1 : tv_ok ta (0, 0, 7, []) (n_v vs 1) := t1
  have k1 : 0 ≤ v_iv (n_v vs 1) ∧ v_iv (n_v vs 1) ≤ 7 := tv_rng t1
  obtain ⟨t3, hk⟩ := List.forall_mem_cons.mp hk
  have t3 : tv_ok ta (0, 0, 2000, []) (n_v vs 3) := t3
  have k3 : 0 ≤ v_iv (n_v vs 3) ∧ v_iv (n_v vs 3) ≤ 2000 := tv_rng t3
  obtain ⟨t4, hk⟩ := List.forall_mem_cons.mp hk
  have t4 : tv_ok ta (2, 0, 0, [150]) (n_v vs 4) := t4
  have r4 : ta (v_ad (n_v vs 4)) = some 150 := tv_rg t4
  obtain ⟨t5, hk⟩ := List.forall_mem_cons.mp hk
  have t5 : tv_ok ta (0, 0, 7, []) (n_v vs 5) := t5
  have k5 : 0 ≤ v_iv (n_v vs 5) ∧ v_iv (n_v vs 5) ≤ 7 := tv_rng t5
  obtain ⟨t7, hk⟩ := List.forall_mem_cons.mp hk
  have t7 : tv_ok ta (0, 0, 7, []) (n_v vs 7) := t7
  have k7 : 0 ≤ v_iv (n_v vs 7) ∧ v_iv (n_v vs 7) ≤ 7 := tv_rng t7
  obtain ⟨t12, hk⟩ := List.forall_mem_cons.mp hk
  have t12 : tv_ok ta (0, 0, 2000, []) (n_v vs 12) := t12
  have k12 : 0 ≤ v_iv (n_v vs 12) ∧ v_iv (n_v vs 12) ≤ 2000 := tv_rng t12
  have hds : ∀ q ∈ ([(1, 3, -4294967296, 7), (1, 5, -4294967296, 0), (1, 7, -4294967296, 7), (3, 1, -4294967296, 2000), (3, 5, -4294967296, 2000), (3, 7, -4294967296, 2000), (5, 1, -4294967296, 0), (5, 3, -4294967296, 7), (5, 7, -4294967296, 7), (7, 1, -4294967296, 7), (7, 3, -4294967296, 7), (7, 5, -4294967296, 7)] : List of_T), n_iv vs q.2.1 + q.2.2.1 ≤ n_iv vs q.1 ∧ n_iv vs q.1 ≤ n_iv vs q.2.1 + q.2.2.2 := hds
  obtain ⟨d0, hds⟩ := List.forall_mem_cons.mp hds
  have d0 : v_iv (n_v vs 3) + (-4294967296) ≤ v_iv (n_v vs 1) ∧ v_iv (n_v vs 1) ≤ v_iv (n_v vs 3) + 7 := d0
  obtain ⟨d1, hds⟩ := List.forall_mem_cons.mp hds
  have d1 : v_iv (n_v vs 5) + (-4294967296) ≤ v_iv (n_v vs 1) ∧ v_iv (n_v vs 1) ≤ v_iv (n_v vs 5) + 0 := d1
  obtain ⟨d2, hds⟩ := List.forall_mem_cons.mp hds
  have d2 : v_iv (n_v vs 7) + (-4294967296) ≤ v_iv (n_v vs 1) ∧ v_iv (n_v vs 1) ≤ v_iv (n_v vs 7) + 7 := d2
  obtain ⟨d3, hds⟩ := List.forall_mem_cons.mp hds
  have d3 : v_iv (n_v vs 1) + (-4294967296) ≤ v_iv (n_v vs 3) ∧ v_iv (n_v vs 3) ≤ v_iv (n_v vs 1) + 2000 := d3
  obtain ⟨d4, hds⟩ := List.forall_mem_cons.mp hds
  have d4 : v_iv (n_v vs 5) + (-4294967296) ≤ v_iv (n_v vs 3) ∧ v_iv (n_v vs 3) ≤ v_iv (n_v vs 5) + 2000 := d4
  obtain ⟨d5, hds⟩ := List.forall_mem_cons.mp hds
  have d5 : v_iv (n_v vs 7) + (-4294967296) ≤ v_iv (n_v vs 3) ∧ v_iv (n_v vs 3) ≤ v_iv (n_v vs 7) + 2000 := d5
  obtain ⟨d6, hds⟩ := List.forall_mem_cons.mp hds
  have d6 : v_iv (n_v vs 1) + (-4294967296) ≤ v_iv (n_v vs 5) ∧ v_iv (n_v vs 5) ≤ v_iv (n_v vs 1) + 0 := d6
  obtain ⟨d7, hds⟩ := List.forall_mem_cons.mp hds
  have d7 : v_iv (n_v vs 3) + (-4294967296) ≤ v_iv (n_v vs 5) ∧ v_iv (n_v vs 5) ≤ v_iv (n_v vs 3) + 7 := d7
  obtain ⟨d8, hds⟩ := List.forall_mem_cons.mp hds
  have d8 : v_iv (n_v vs 7) + (-4294967296) ≤ v_iv (n_v vs 5) ∧ v_iv (n_v vs 5) ≤ v_iv (n_v vs 7) + 7 := d8
  obtain ⟨d9, hds⟩ := List.forall_mem_cons.mp hds
  have d9 : v_iv (n_v vs 1) + (-4294967296) ≤ v_iv (n_v vs 7) ∧ v_iv (n_v vs 7) ≤ v_iv (n_v vs 1) + 7 := d9
  obtain ⟨d10, hds⟩ := List.forall_mem_cons.mp hds
  have d10 : v_iv (n_v vs 3) + (-4294967296) ≤ v_iv (n_v vs 7) ∧ v_iv (n_v vs 7) ≤ v_iv (n_v vs 3) + 7 := d10
  obtain ⟨d11, hds⟩ := List.forall_mem_cons.mp hds
  have d11 : v_iv (n_v vs 5) + (-4294967296) ≤ v_iv (n_v vs 7) ∧ v_iv (n_v vs 7) ≤ v_iv (n_v vs 5) + 7 := d11
  have hf : fc_ok [(23, [3, 12], [-1, 1, -1]), (20, [7, 4], [50, 1, 1, 1005, 1002, 0, 6, 4, 2, 1, 0, 0, 1, 3, 1, 2, 4, 3, 2, 1, 5, 0, 2]), (23, [5, 7], [-1, 1, -1]), (24, [0, 4], []), (24, [1, 5], []), (20, [4, 4], [30, 0, 1, 1, 15, -1, 1, 11]), (20, [4], [50, 3, 0, 12, 11, 15, 2, 21, 4, 7, 1, 3, 2, 0, 12, 0, 1, 0, 3, 2, 0, 11, 4, 3, 2, 0, 15, 0, 8, 3, 7, 1, 3, 2, 0, 12, 0, 0, 0, 7, 4, 3, 2, 0, 15, 0, 1, 2, 0, 11]), (20, [12, 4], [30, 0, 1, 0, 0, -1, 1, 15]), (102, [12], [0, 13011, 13012, 13013, 13014, 13015]), (23, [3, 12], [-1, 1, -1]), (23, [5, 7], [-1, 1, -1])] ta ws vs := hf
  obtain ⟨f0, hf⟩ := fc_un (show (23 : Nat) < 100 from by decide) hf
  have f0 : 1 * v_iv (n_v vs 3) + ((-1) * v_iv (n_v vs 12) + 0) ≤ (-1) := f0
  obtain ⟨f1, hf⟩ := fc_un (show (20 : Nat) < 100 from by decide) hf
  have f1 : (v_iv (n_v vs 7) + 1) ≤ w_ei ws (w_ar ws (n_v vs 4) 2) ((w_fi ws (n_v vs 4) 5 + 2)) := f1
  obtain ⟨f2, hf⟩ := fc_un (show (23 : Nat) < 100 from by decide) hf
  have f2 : 1 * v_iv (n_v vs 5) + ((-1) * v_iv (n_v vs 7) + 0) ≤ (-1) := f2
  obtain ⟨f3, hf⟩ := fc_un (show (24 : Nat) < 100 from by decide) hf
  have f3 : n_v vs 0 = n_v vs 4 := f3
  obtain ⟨f4, hf⟩ := fc_un (show (24 : Nat) < 100 from by decide) hf
  have f4 : n_v vs 1 = n_v vs 5 := f4
  obtain ⟨f5, hf⟩ := fc_un (show (20 : Nat) < 100 from by decide) hf
  have f5 : 1 * w_fi ws (n_v vs 4) 15 + ((-1) * w_fi ws (n_v vs 4) 11 + 0) ≤ 0 := f5
  obtain ⟨f6, hf⟩ := fc_un (show (20 : Nat) < 100 from by decide) hf
  have f6 : ((w_fi ws (n_v vs 4) 12 = 1) → (w_fi ws (n_v vs 4) 11 ≤ (w_fi ws (n_v vs 4) 15 + 8))) ∧ ((w_fi ws (n_v vs 4) 12 = 0) ∨ ((w_fi ws (n_v vs 4) 15 + 1) ≤ w_fi ws (n_v vs 4) 11)) := f6
  obtain ⟨f7, hf⟩ := fc_un (show (20 : Nat) < 100 from by decide) hf
  have f7 : 1 * v_iv (n_v vs 12) + ((-1) * w_fi ws (n_v vs 4) 15 + 0) ≤ 0 := f7
  obtain ⟨ta1, w1, le1, ⟨_, s1⟩, hf⟩ := fc_us (show ¬ (102 : Nat) < 100 from by decide) hf
  obtain ⟨f9, hf⟩ := fc_un (show (23 : Nat) < 100 from by decide) hf
  have f9 : 1 * v_iv (n_v vs 3) + ((-1) * v_iv (n_v vs 12) + 0) ≤ (-1) := f9
  obtain ⟨f10, hf⟩ := fc_un (show (23 : Nat) < 100 from by decide) hf
  have f10 : 1 * v_iv (n_v vs 5) + ((-1) * v_iv (n_v vs 7) + 0) ≤ (-1) := f10
  have q4 : n_v vs 4 = n_v vs 0 := f3.symm
  have q5 : n_v vs 5 = n_v vs 1 := f4.symm
  rw [q4] at f1
  rw [q5] at f2
  rw [q4] at f5
  rw [q4] at f6
  rw [q4] at f7
  rw [q5] at f10
  have cr_0_2 : ta (w_ar ws (n_v vs 0) 2) = some 152 := tv_rg (th_fd hD hth r0 (g := GG_150) rfl (k := 2) (t := (2, 0, 0, [152])) rfl rfl)
  have kz_0_8 : 0 ≤ w_fi ws (n_v vs 0) 8 ∧ w_fi ws (n_v vs 0) 8 ≤ 5 := tv_rng (th_fd hD hth r0 (g := GG_150) rfl (k := 8) (t := (0, 0, 5, [])) rfl rfl)
  have kz_0_11 : 0 ≤ w_fi ws (n_v vs 0) 11 ∧ w_fi ws (n_v vs 0) 11 ≤ 2000 := tv_rng (th_fd hD hth r0 (g := GG_150) rfl (k := 11) (t := (0, 0, 2000, [])) rfl rfl)
  have kz_0_12 : 0 ≤ w_fi ws (n_v vs 0) 12 ∧ w_fi ws (n_v vs 0) 12 ≤ 4 := tv_rng (th_fd hD hth r0 (g := GG_150) rfl (k := 12) (t := (0, 0, 4, [])) rfl rfl)
  have kz_0_15 : 0 ≤ w_fi ws (n_v vs 0) 15 ∧ w_fi ws (n_v vs 0) 15 ≤ 2000 := tv_rng (th_fd hD hth r0 (g := GG_150) rfl (k := 15) (t := (0, 0, 2000, [])) rfl rfl)
  obtain ⟨x, ex, hx⟩ := iv_ex (ta := ta) (lo := 0) (hi := 2000) (z := v_iv (n_v vs 3)) (by omega) (by omega) (by omega) (by omega)
  have ex2 : v_iv (Value.int x) = v_iv (n_v vs 3) := ex
  have ex3 : 0 ≤ v_iv (Value.int x) ∧ v_iv (Value.int x) ≤ 2000 := tv_rng hx
  have e_3 : n_v (vs ++ [Value.int x]) 3 = n_v vs 3 := n_v_old (by rw [hl]; decide)
  have e_4 : n_v (vs ++ [Value.int x]) 4 = n_v vs 4 := n_v_old (by rw [hl]; decide)
  have e_14 : n_v (vs ++ [Value.int x]) 14 = Value.int x := n_v_new hl
  have nf0 : fc_1 (23, [14, 3], [0, 1, -1]) ws (vs ++ [Value.int x]) := by
    refine ⟨fun n hn => ?_, ?_⟩
    · have hn : n ∈ [14, 3] := hn
      rw [List.length_append, hl]
      simp only [List.mem_cons, List.not_mem_nil, or_false] at hn
      show n < 14 + 1; omega
    · show 1 * v_iv (n_v (vs ++ [Value.int x]) 14) + ((-1) * v_iv (n_v (vs ++ [Value.int x]) 3) + 0) ≤ 0
      rw [e_3]
      rw [e_14]
      omega
  have nf1 : fc_1 (23, [14, 3], [0, -1, 1]) ws (vs ++ [Value.int x]) := by
    refine ⟨fun n hn => ?_, ?_⟩
    · have hn : n ∈ [14, 3] := hn
      rw [List.length_append, hl]
      simp only [List.mem_cons, List.not_mem_nil, or_false] at hn
      show n < 14 + 1; omega
    · show (-1) * v_iv (n_v (vs ++ [Value.int x]) 14) + (1 * v_iv (n_v (vs ++ [Value.int x]) 3) + 0) ≤ 0
      rw [e_3]
      rw [e_14]
      omega
  have nf2 : fc_1 (20, [4, 4], [30, 0, 1, 1, 15, -1, 1, 11]) ws (vs ++ [Value.int x]) := by
    refine ⟨fun n hn => ?_, ?_⟩
    · have hn : n ∈ [4, 4] := hn
      rw [List.length_append, hl]
      simp only [List.mem_cons, List.not_mem_nil, or_false] at hn
      show n < 14 + 1; omega
    · show 1 * w_fi ws (n_v (vs ++ [Value.int x]) 4) 15 + ((-1) * w_fi ws (n_v (vs ++ [Value.int x]) 4) 11 + 0) ≤ 0
      rw [e_4]
      rw [q4]
      omega
  have nf3 : fc_1 (20, [4], [50, 3, 0, 12, 11, 15, 2, 21, 4, 7, 1, 3, 2, 0, 12, 0, 1, 0, 3, 2, 0, 11, 4, 3, 2, 0, 15, 0, 8, 3, 7, 1, 3, 2, 0, 12, 0, 0, 0, 7, 4, 3, 2, 0, 15, 0, 1, 2, 0, 11]) ws (vs ++ [Value.int x]) := by
    refine ⟨fun n hn => ?_, ?_⟩
    · have hn : n ∈ [4] := hn
      rw [List.length_append, hl]
      simp only [List.mem_cons, List.not_mem_nil, or_false] at hn
      show n < 14 + 1; omega
    · show ((w_fi ws (n_v (vs ++ [Value.int x]) 4) 12 = 1) → (w_fi ws (n_v (vs ++ [Value.int x]) 4) 11 ≤ (w_fi ws (n_v (vs ++ [Value.int x]) 4) 15 + 8))) ∧ ((w_fi ws (n_v (vs ++ [Value.int x]) 4) 12 = 0) ∨ ((w_fi ws (n_v (vs ++ [Value.int x]) 4) 15 + 1) ≤ w_fi ws (n_v (vs ++ [Value.int x]) 4) 11))
      rw [e_4]
      rw [q4]
      first | omega | grind
  have nf4 : fc_1 (20, [14, 4], [30, 0, 1, 0, 0, -1, 1, 11]) ws (vs ++ [Value.int x]) := by
    refine ⟨fun n hn => ?_, ?_⟩
    · have hn : n ∈ [14, 4] := hn
      rw [List.length_append, hl]
      simp only [List.mem_cons, List.not_mem_nil, or_false] at hn
      show n < 14 + 1; omega
    · show 1 * v_iv (n_v (vs ++ [Value.int x]) 14) + ((-1) * w_fi ws (n_v (vs ++ [Value.int x]) 4) 11 + 0) ≤ 0
      rw [e_4]
      rw [e_14]
      rw [q4]
      omega
  have nf5 : fc_1 (20, [4, 14], [50, 3, 0, 8, 12, 11, 3, 7, 0, 2, 0, 1, 2, 0, 8, 3, 7, 1, 3, 2, 0, 12, 0, 0, 0, 6, 4, 2, 1, 1, 0, 1, 2, 0, 11]) ws (vs ++ [Value.int x]) := by
    refine ⟨fun n hn => ?_, ?_⟩
    · have hn : n ∈ [4, 14] := hn
      rw [List.length_append, hl]
      simp only [List.mem_cons, List.not_mem_nil, or_false] at hn
      show n < 14 + 1; omega
    · show (1 ≤ w_fi ws (n_v (vs ++ [Value.int x]) 4) 8) ∨ ((w_fi ws (n_v (vs ++ [Value.int x]) 4) 12 = 0) ∨ ((v_iv (n_v (vs ++ [Value.int x]) 14) + 1) ≤ w_fi ws (n_v (vs ++ [Value.int x]) 4) 11))
      rw [e_4]
      rw [e_14]
      rw [q4]
      first | omega | grind
  exact ⟨(fun _ h => (by cases h)), [Value.int x], ag_one hx, List.forall_mem_cons.mpr ⟨⟨show (23 : Nat) < 100 from by decide, nf0⟩, List.forall_mem_cons.mpr ⟨⟨show (23 : Nat) < 100 from by decide, nf1⟩, List.forall_mem_cons.mpr ⟨⟨show (20 : Nat) < 100 from by decide, nf2⟩, List.forall_mem_cons.mpr ⟨⟨show (20 : Nat) < 100 from by decide, nf3⟩, List.forall_mem_cons.mpr ⟨⟨show (20 : Nat) < 100 from by decide, nf4⟩, List.forall_mem_cons.mpr ⟨⟨show (20 : Nat) < 100 from by decide, nf5⟩, (fun _ h => (by cases h))⟩⟩⟩⟩⟩⟩, (fun _ h => (by cases h))⟩
def o_Mo_groupItem_at_k2_11 : or_T := (170, 15, [(0, (2, 0, 0, [150])), (1, (0, 0, 7, [])), (3, (0, 0, 2000, [])), (4, (2, 0, 0, [150])), (5, (0, 0, 7, [])), (7, (0, 0, 7, [])), (12, (0, 0, 2000, [])), (14, (0, 0, 2000, []))], [(23, [14, 3], [0, 1, -1]), (23, [14, 3], [0, -1, 1]), (23, [3, 12], [-1, 1, -1]), (20, [7, 4], [50, 1, 1, 1005, 1002, 0, 6, 4, 2, 1, 0, 0, 1, 3, 1, 2, 4, 3, 2, 1, 5, 0, 2]), (23, [5, 7], [-1, 1, -1]), (24, [0, 4], []), (24, [1, 5], []), (20, [4, 4], [30, 0, 1, 1, 15, -1, 1, 11]), (20, [4], [50, 3, 0, 12, 11, 15, 2, 21, 4, 7, 1, 3, 2, 0, 12, 0, 1, 0, 3, 2, 0, 11, 4, 3, 2, 0, 15, 0, 8, 3, 7, 1, 3, 2, 0, 12, 0, 0, 0, 7, 4, 3, 2, 0, 15, 0, 1, 2, 0, 11]), (20, [14, 4], [30, 0, 1, 0, 0, -1, 1, 11]), (20, [4, 14], [50, 2, 0, 8, 11, 3, 7, 0, 2, 0, 1, 2, 0, 8, 0, 6, 4, 2, 1, 1, 0, 1, 2, 0, 11]), (102, [14], [0, 13008, 13009, 13011, 13012, 13013, 13014, 13015]), (23, [14, 3], [0, 1, -1]), (23, [14, 3], [0, -1, 1]), (23, [3, 12], [-1, 1, -1]), (23, [5, 7], [-1, 1, -1]), (102, [12], [0, 13011, 13012, 13013, 13014, 13015]), (23, [3, 12], [-1, 1, -1]), (23, [5, 7], [-1, 1, -1])], [], [(0, 0, 2005, [])], [(20, [4, 4], [30, 0, 1, 1, 15, -1, 1, 11]), (20, [4], [50, 3, 0, 12, 11, 15, 2, 21, 4, 7, 1, 3, 2, 0, 12, 0, 1, 0, 3, 2, 0, 11, 4, 3, 2, 0, 15, 0, 8, 3, 7, 1, 3, 2, 0, 12, 0, 0, 0, 7, 4, 3, 2, 0, 15, 0, 1, 2, 0, 11]), (20, [3, 4], [30, 0, 1, 0, 0, -1, 1, 11]), (20, [4, 3], [50, 2, 0, 8, 11, 3, 7, 0, 2, 0, 1, 2, 0, 8, 0, 6, 4, 2, 1, 1, 0, 1, 2, 0, 11]), (20, [7, 4], [50, 1, 1, 1005, 1002, 0, 6, 4, 2, 1, 0, 0, 1, 3, 1, 2, 4, 3, 2, 1, 5, 0, 2]), (23, [5, 7], [-1, 1, -1]), (24, [0, 4], []), (24, [1, 5], []), (20, [15, 4, 4], [30, 2005, 1, 0, 0, 1, 1, 11, 1, 1, 8]), (20, [15, 4, 4], [30, -2005, -1, 0, 0, -1, 1, 11, -1, 1, 8])], [], [(1, 3, -4294967296, 7), (1, 5, -4294967296, 0), (1, 7, -4294967296, 7), (3, 1, -4294967296, 2000), (3, 5, -4294967296, 2000), (3, 7, -4294967296, 2000), (5, 1, -4294967296, 0), (5, 3, -4294967296, 7), (5, 7, -4294967296, 7), (7, 1, -4294967296, 7), (7, 3, -4294967296, 7), (7, 5, -4294967296, 7)])
theorem oo_Mo_groupItem_at_k2_11 {kA : Nat → ClassId} : or_ok kA GG o_Mo_groupItem_at_k2_11 := by
  intro A ta ws vs hD hth hl hk hds hf
  have hl : vs.length = 15 := hl
  have hk : ∀ q ∈ ([(0, (2, 0, 0, [150])), (1, (0, 0, 7, [])), (3, (0, 0, 2000, [])), (4, (2, 0, 0, [150])), (5, (0, 0, 7, [])), (7, (0, 0, 7, [])), (12, (0, 0, 2000, [])), (14, (0, 0, 2000, []))] : List (Nat × tv_T)), tv_ok ta q.2 (n_v vs q.1) := hk
  obtain ⟨t0, hk⟩ := List.forall_mem_cons.mp hk
  have t0 : tv_ok ta (2, 0, 0, [150]) (n_v vs 0) := t0
  have r0 : ta (v_ad (n_v vs 0)) = some 150 := tv_rg t0
  obtain ⟨t1, hk⟩ := List.forall_mem_cons.mp hk
  have t1 : tv_ok ta (0, 0, 7, []) (n_v vs 1) := t1
  have k1 : 0 ≤ v_iv (n_v vs 1) ∧ v_iv (n_v vs 1) ≤ 7 := tv_rng t1
  obtain ⟨t3, hk⟩ := List.forall_mem_cons.mp hk
  have t3 : tv_ok ta (0, 0, 2000, []) (n_v vs 3) := t3
  have k3 : 0 ≤ v_iv (n_v vs 3) ∧ v_iv (n_v vs 3) ≤ 2000 := tv_rng t3
  obtain ⟨t4, hk⟩ := List.forall_mem_cons.mp hk
  have t4 : tv_ok ta (2, 0, 0, [150]) (n_v vs 4) := t4
  have r4 : ta (v_ad (n_v vs 4)) = some 150 := tv_rg t4
  obtain ⟨t5, hk⟩ := List.forall_mem_cons.mp hk
  have t5 : tv_ok ta (0, 0, 7, []) (n_v vs 5) := t5
  have k5 : 0 ≤ v_iv (n_v vs 5) ∧ v_iv (n_v vs 5) ≤ 7 := tv_rng t5
  obtain ⟨t7, hk⟩ := List.forall_mem_cons.mp hk
  have t7 : tv_ok ta (0, 0, 7, []) (n_v vs 7) := t7
  have k7 : 0 ≤ v_iv (n_v vs 7) ∧ v_iv (n_v vs 7) ≤ 7 := tv_rng t7
  obtain ⟨t12, hk⟩ := List.forall_mem_cons.mp hk
  have t12 : tv_ok ta (0, 0, 2000, []) (n_v vs 12) := t12
  have k12 : 0 ≤ v_iv (n_v vs 12) ∧ v_iv (n_v vs 12) ≤ 2000 := tv_rng t12
  obtain ⟨t14, hk⟩ := List.forall_mem_cons.mp hk
  have t14 : tv_ok ta (0, 0, 2000, []) (n_v vs 14) := t14
  have k14 : 0 ≤ v_iv (n_v vs 14) ∧ v_iv (n_v vs 14) ≤ 2000 := tv_rng t14
  have hds : ∀ q ∈ ([(1, 3, -4294967296, 7), (1, 5, -4294967296, 0), (1, 7, -4294967296, 7), (3, 1, -4294967296, 2000), (3, 5, -4294967296, 2000), (3, 7, -4294967296, 2000), (5, 1, -4294967296, 0), (5, 3, -4294967296, 7), (5, 7, -4294967296, 7), (7, 1, -4294967296, 7), (7, 3, -4294967296, 7), (7, 5, -4294967296, 7)] : List of_T), n_iv vs q.2.1 + q.2.2.1 ≤ n_iv vs q.1 ∧ n_iv vs q.1 ≤ n_iv vs q.2.1 + q.2.2.2 := hds
  obtain ⟨d0, hds⟩ := List.forall_mem_cons.mp hds
  have d0 : v_iv (n_v vs 3) + (-4294967296) ≤ v_iv (n_v vs 1) ∧ v_iv (n_v vs 1) ≤ v_iv (n_v vs 3) + 7 := d0
  obtain ⟨d1, hds⟩ := List.forall_mem_cons.mp hds
  have d1 : v_iv (n_v vs 5) + (-4294967296) ≤ v_iv (n_v vs 1) ∧ v_iv (n_v vs 1) ≤ v_iv (n_v vs 5) + 0 := d1
  obtain ⟨d2, hds⟩ := List.forall_mem_cons.mp hds
  have d2 : v_iv (n_v vs 7) + (-4294967296) ≤ v_iv (n_v vs 1) ∧ v_iv (n_v vs 1) ≤ v_iv (n_v vs 7) + 7 := d2
  obtain ⟨d3, hds⟩ := List.forall_mem_cons.mp hds
  have d3 : v_iv (n_v vs 1) + (-4294967296) ≤ v_iv (n_v vs 3) ∧ v_iv (n_v vs 3) ≤ v_iv (n_v vs 1) + 2000 := d3
  obtain ⟨d4, hds⟩ := List.forall_mem_cons.mp hds
  have d4 : v_iv (n_v vs 5) + (-4294967296) ≤ v_iv (n_v vs 3) ∧ v_iv (n_v vs 3) ≤ v_iv (n_v vs 5) + 2000 := d4
  obtain ⟨d5, hds⟩ := List.forall_mem_cons.mp hds
  have d5 : v_iv (n_v vs 7) + (-4294967296) ≤ v_iv (n_v vs 3) ∧ v_iv (n_v vs 3) ≤ v_iv (n_v vs 7) + 2000 := d5
  obtain ⟨d6, hds⟩ := List.forall_mem_cons.mp hds
  have d6 : v_iv (n_v vs 1) + (-4294967296) ≤ v_iv (n_v vs 5) ∧ v_iv (n_v vs 5) ≤ v_iv (n_v vs 1) + 0 := d6
  obtain ⟨d7, hds⟩ := List.forall_mem_cons.mp hds
  have d7 : v_iv (n_v vs 3) + (-4294967296) ≤ v_iv (n_v vs 5) ∧ v_iv (n_v vs 5) ≤ v_iv (n_v vs 3) + 7 := d7
  obtain ⟨d8, hds⟩ := List.forall_mem_cons.mp hds
  have d8 : v_iv (n_v vs 7) + (-4294967296) ≤ v_iv (n_v vs 5) ∧ v_iv (n_v vs 5) ≤ v_iv (n_v vs 7) + 7 := d8
  obtain ⟨d9, hds⟩ := List.forall_mem_cons.mp hds
  have d9 : v_iv (n_v vs 1) + (-4294967296) ≤ v_iv (n_v vs 7) ∧ v_iv (n_v vs 7) ≤ v_iv (n_v vs 1) + 7 := d9
  obtain ⟨d10, hds⟩ := List.forall_mem_cons.mp hds
  have d10 : v_iv (n_v vs 3) + (-4294967296) ≤ v_iv (n_v vs 7) ∧ v_iv (n_v vs 7) ≤ v_iv (n_v vs 3) + 7 := d10
  obtain ⟨d11, hds⟩ := List.forall_mem_cons.mp hds
  have d11 : v_iv (n_v vs 5) + (-4294967296) ≤ v_iv (n_v vs 7) ∧ v_iv (n_v vs 7) ≤ v_iv (n_v vs 5) + 7 := d11
  have hf : fc_ok [(23, [14, 3], [0, 1, -1]), (23, [14, 3], [0, -1, 1]), (23, [3, 12], [-1, 1, -1]), (20, [7, 4], [50, 1, 1, 1005, 1002, 0, 6, 4, 2, 1, 0, 0, 1, 3, 1, 2, 4, 3, 2, 1, 5, 0, 2]), (23, [5, 7], [-1, 1, -1]), (24, [0, 4], []), (24, [1, 5], []), (20, [4, 4], [30, 0, 1, 1, 15, -1, 1, 11]), (20, [4], [50, 3, 0, 12, 11, 15, 2, 21, 4, 7, 1, 3, 2, 0, 12, 0, 1, 0, 3, 2, 0, 11, 4, 3, 2, 0, 15, 0, 8, 3, 7, 1, 3, 2, 0, 12, 0, 0, 0, 7, 4, 3, 2, 0, 15, 0, 1, 2, 0, 11]), (20, [14, 4], [30, 0, 1, 0, 0, -1, 1, 11]), (20, [4, 14], [50, 2, 0, 8, 11, 3, 7, 0, 2, 0, 1, 2, 0, 8, 0, 6, 4, 2, 1, 1, 0, 1, 2, 0, 11]), (102, [14], [0, 13008, 13009, 13011, 13012, 13013, 13014, 13015]), (23, [14, 3], [0, 1, -1]), (23, [14, 3], [0, -1, 1]), (23, [3, 12], [-1, 1, -1]), (23, [5, 7], [-1, 1, -1]), (102, [12], [0, 13011, 13012, 13013, 13014, 13015]), (23, [3, 12], [-1, 1, -1]), (23, [5, 7], [-1, 1, -1])] ta ws vs := hf
  obtain ⟨f0, hf⟩ := fc_un (show (23 : Nat) < 100 from by decide) hf
  have f0 : 1 * v_iv (n_v vs 14) + ((-1) * v_iv (n_v vs 3) + 0) ≤ 0 := f0
  obtain ⟨f1, hf⟩ := fc_un (show (23 : Nat) < 100 from by decide) hf
  have f1 : (-1) * v_iv (n_v vs 14) + (1 * v_iv (n_v vs 3) + 0) ≤ 0 := f1
  obtain ⟨f2, hf⟩ := fc_un (show (23 : Nat) < 100 from by decide) hf
  have f2 : 1 * v_iv (n_v vs 3) + ((-1) * v_iv (n_v vs 12) + 0) ≤ (-1) := f2
  obtain ⟨f3, hf⟩ := fc_un (show (20 : Nat) < 100 from by decide) hf
  have f3 : (v_iv (n_v vs 7) + 1) ≤ w_ei ws (w_ar ws (n_v vs 4) 2) ((w_fi ws (n_v vs 4) 5 + 2)) := f3
  obtain ⟨f4, hf⟩ := fc_un (show (23 : Nat) < 100 from by decide) hf
  have f4 : 1 * v_iv (n_v vs 5) + ((-1) * v_iv (n_v vs 7) + 0) ≤ (-1) := f4
  obtain ⟨f5, hf⟩ := fc_un (show (24 : Nat) < 100 from by decide) hf
  have f5 : n_v vs 0 = n_v vs 4 := f5
  obtain ⟨f6, hf⟩ := fc_un (show (24 : Nat) < 100 from by decide) hf
  have f6 : n_v vs 1 = n_v vs 5 := f6
  obtain ⟨f7, hf⟩ := fc_un (show (20 : Nat) < 100 from by decide) hf
  have f7 : 1 * w_fi ws (n_v vs 4) 15 + ((-1) * w_fi ws (n_v vs 4) 11 + 0) ≤ 0 := f7
  obtain ⟨f8, hf⟩ := fc_un (show (20 : Nat) < 100 from by decide) hf
  have f8 : ((w_fi ws (n_v vs 4) 12 = 1) → (w_fi ws (n_v vs 4) 11 ≤ (w_fi ws (n_v vs 4) 15 + 8))) ∧ ((w_fi ws (n_v vs 4) 12 = 0) ∨ ((w_fi ws (n_v vs 4) 15 + 1) ≤ w_fi ws (n_v vs 4) 11)) := f8
  obtain ⟨f9, hf⟩ := fc_un (show (20 : Nat) < 100 from by decide) hf
  have f9 : 1 * v_iv (n_v vs 14) + ((-1) * w_fi ws (n_v vs 4) 11 + 0) ≤ 0 := f9
  obtain ⟨f10, hf⟩ := fc_un (show (20 : Nat) < 100 from by decide) hf
  have f10 : (1 ≤ w_fi ws (n_v vs 4) 8) ∨ ((v_iv (n_v vs 14) + 1) ≤ w_fi ws (n_v vs 4) 11) := f10
  obtain ⟨ta1, w1, le1, ⟨_, s1⟩, hf⟩ := fc_us (show ¬ (102 : Nat) < 100 from by decide) hf
  obtain ⟨f12, hf⟩ := fc_un (show (23 : Nat) < 100 from by decide) hf
  have f12 : 1 * v_iv (n_v vs 14) + ((-1) * v_iv (n_v vs 3) + 0) ≤ 0 := f12
  obtain ⟨f13, hf⟩ := fc_un (show (23 : Nat) < 100 from by decide) hf
  have f13 : (-1) * v_iv (n_v vs 14) + (1 * v_iv (n_v vs 3) + 0) ≤ 0 := f13
  obtain ⟨f14, hf⟩ := fc_un (show (23 : Nat) < 100 from by decide) hf
  have f14 : 1 * v_iv (n_v vs 3) + ((-1) * v_iv (n_v vs 12) + 0) ≤ (-1) := f14
  obtain ⟨f15, hf⟩ := fc_un (show (23 : Nat) < 100 from by decide) hf
  have f15 : 1 * v_iv (n_v vs 5) + ((-1) * v_iv (n_v vs 7) + 0) ≤ (-1) := f15
  obtain ⟨ta2, w2, le2, ⟨_, s2⟩, hf⟩ := fc_us (show ¬ (102 : Nat) < 100 from by decide) hf
  obtain ⟨f17, hf⟩ := fc_un (show (23 : Nat) < 100 from by decide) hf
  have f17 : 1 * v_iv (n_v vs 3) + ((-1) * v_iv (n_v vs 12) + 0) ≤ (-1) := f17
  obtain ⟨f18, hf⟩ := fc_un (show (23 : Nat) < 100 from by decide) hf
  have f18 : 1 * v_iv (n_v vs 5) + ((-1) * v_iv (n_v vs 7) + 0) ≤ (-1) := f18
  have q4 : n_v vs 4 = n_v vs 0 := f5.symm
  have q5 : n_v vs 5 = n_v vs 1 := f6.symm
  rw [q4] at f3
  rw [q5] at f4
  rw [q4] at f7
  rw [q4] at f8
  rw [q4] at f9
  rw [q4] at f10
  rw [q5] at f15
  rw [q5] at f18
  have cr_0_2 : ta (w_ar ws (n_v vs 0) 2) = some 152 := tv_rg (th_fd hD hth r0 (g := GG_150) rfl (k := 2) (t := (2, 0, 0, [152])) rfl rfl)
  have kz_0_8 : 0 ≤ w_fi ws (n_v vs 0) 8 ∧ w_fi ws (n_v vs 0) 8 ≤ 5 := tv_rng (th_fd hD hth r0 (g := GG_150) rfl (k := 8) (t := (0, 0, 5, [])) rfl rfl)
  have kz_0_11 : 0 ≤ w_fi ws (n_v vs 0) 11 ∧ w_fi ws (n_v vs 0) 11 ≤ 2000 := tv_rng (th_fd hD hth r0 (g := GG_150) rfl (k := 11) (t := (0, 0, 2000, [])) rfl rfl)
  have kz_0_12 : 0 ≤ w_fi ws (n_v vs 0) 12 ∧ w_fi ws (n_v vs 0) 12 ≤ 4 := tv_rng (th_fd hD hth r0 (g := GG_150) rfl (k := 12) (t := (0, 0, 4, [])) rfl rfl)
  have kz_0_15 : 0 ≤ w_fi ws (n_v vs 0) 15 ∧ w_fi ws (n_v vs 0) 15 ≤ 2000 := tv_rng (th_fd hD hth r0 (g := GG_150) rfl (k := 15) (t := (0, 0, 2000, [])) rfl rfl)
  have kb_0_8 : 0 ≤ w_fi ws (n_v vs 0) 8 ∧ w_fi ws (n_v vs 0) 8 ≤ 5 := tv_rng (th_fd hD hth r0 (g := GG_150) rfl (k := 8) (t := (0, 0, 5, [])) rfl rfl)
  have kb_0_11 : 0 ≤ w_fi ws (n_v vs 0) 11 ∧ w_fi ws (n_v vs 0) 11 ≤ 2000 := tv_rng (th_fd hD hth r0 (g := GG_150) rfl (k := 11) (t := (0, 0, 2000, [])) rfl rfl)
  obtain ⟨x, ex, hx⟩ := iv_ex (ta := ta) (lo := 0) (hi := 2005) (z := 2005 + ((-1) * w_fi ws (n_v vs 0) 11 + ((-1) * w_fi ws (n_v vs 0) 8 + 0))) (by omega) (by omega) (by omega) (by omega)
  have ex2 : v_iv (Value.int x) = 2005 + ((-1) * w_fi ws (n_v vs 0) 11 + ((-1) * w_fi ws (n_v vs 0) 8 + 0)) := ex
  have ex3 : 0 ≤ v_iv (Value.int x) ∧ v_iv (Value.int x) ≤ 2005 := tv_rng hx
  have e_0 : n_v (vs ++ [Value.int x]) 0 = n_v vs 0 := n_v_old (by rw [hl]; decide)
  have e_1 : n_v (vs ++ [Value.int x]) 1 = n_v vs 1 := n_v_old (by rw [hl]; decide)
  have e_3 : n_v (vs ++ [Value.int x]) 3 = n_v vs 3 := n_v_old (by rw [hl]; decide)
  have e_4 : n_v (vs ++ [Value.int x]) 4 = n_v vs 4 := n_v_old (by rw [hl]; decide)
  have e_5 : n_v (vs ++ [Value.int x]) 5 = n_v vs 5 := n_v_old (by rw [hl]; decide)
  have e_7 : n_v (vs ++ [Value.int x]) 7 = n_v vs 7 := n_v_old (by rw [hl]; decide)
  have e_15 : n_v (vs ++ [Value.int x]) 15 = Value.int x := n_v_new hl
  have nf0 : fc_1 (20, [4, 4], [30, 0, 1, 1, 15, -1, 1, 11]) ws (vs ++ [Value.int x]) := by
    refine ⟨fun n hn => ?_, ?_⟩
    · have hn : n ∈ [4, 4] := hn
      rw [List.length_append, hl]
      simp only [List.mem_cons, List.not_mem_nil, or_false] at hn
      show n < 15 + 1; omega
    · show 1 * w_fi ws (n_v (vs ++ [Value.int x]) 4) 15 + ((-1) * w_fi ws (n_v (vs ++ [Value.int x]) 4) 11 + 0) ≤ 0
      rw [e_4]
      rw [q4]
      omega
  have nf1 : fc_1 (20, [4], [50, 3, 0, 12, 11, 15, 2, 21, 4, 7, 1, 3, 2, 0, 12, 0, 1, 0, 3, 2, 0, 11, 4, 3, 2, 0, 15, 0, 8, 3, 7, 1, 3, 2, 0, 12, 0, 0, 0, 7, 4, 3, 2, 0, 15, 0, 1, 2, 0, 11]) ws (vs ++ [Value.int x]) := by
    refine ⟨fun n hn => ?_, ?_⟩
    · have hn : n ∈ [4] := hn
      rw [List.length_append, hl]
      simp only [List.mem_cons, List.not_mem_nil, or_false] at hn
      show n < 15 + 1; omega
    · show ((w_fi ws (n_v (vs ++ [Value.int x]) 4) 12 = 1) → (w_fi ws (n_v (vs ++ [Value.int x]) 4) 11 ≤ (w_fi ws (n_v (vs ++ [Value.int x]) 4) 15 + 8))) ∧ ((w_fi ws (n_v (vs ++ [Value.int x]) 4) 12 = 0) ∨ ((w_fi ws (n_v (vs ++ [Value.int x]) 4) 15 + 1) ≤ w_fi ws (n_v (vs ++ [Value.int x]) 4) 11))
      rw [e_4]
      rw [q4]
      first | omega | grind
  have nf2 : fc_1 (20, [3, 4], [30, 0, 1, 0, 0, -1, 1, 11]) ws (vs ++ [Value.int x]) := by
    refine ⟨fun n hn => ?_, ?_⟩
    · have hn : n ∈ [3, 4] := hn
      rw [List.length_append, hl]
      simp only [List.mem_cons, List.not_mem_nil, or_false] at hn
      show n < 15 + 1; omega
    · show 1 * v_iv (n_v (vs ++ [Value.int x]) 3) + ((-1) * w_fi ws (n_v (vs ++ [Value.int x]) 4) 11 + 0) ≤ 0
      rw [e_3]
      rw [e_4]
      rw [q4]
      omega
  have nf3 : fc_1 (20, [4, 3], [50, 2, 0, 8, 11, 3, 7, 0, 2, 0, 1, 2, 0, 8, 0, 6, 4, 2, 1, 1, 0, 1, 2, 0, 11]) ws (vs ++ [Value.int x]) := by
    refine ⟨fun n hn => ?_, ?_⟩
    · have hn : n ∈ [4, 3] := hn
      rw [List.length_append, hl]
      simp only [List.mem_cons, List.not_mem_nil, or_false] at hn
      show n < 15 + 1; omega
    · show (1 ≤ w_fi ws (n_v (vs ++ [Value.int x]) 4) 8) ∨ ((v_iv (n_v (vs ++ [Value.int x]) 3) + 1) ≤ w_fi ws (n_v (vs ++ [Value.int x]) 4) 11)
      rw [e_3]
      rw [e_4]
      rw [q4]
      first | omega | grind
  have nf4 : fc_1 (20, [7, 4], [50, 1, 1, 1005, 1002, 0, 6, 4, 2, 1, 0, 0, 1, 3, 1, 2, 4, 3, 2, 1, 5, 0, 2]) ws (vs ++ [Value.int x]) := by
    refine ⟨fun n hn => ?_, ?_⟩
    · have hn : n ∈ [7, 4] := hn
      rw [List.length_append, hl]
      simp only [List.mem_cons, List.not_mem_nil, or_false] at hn
      show n < 15 + 1; omega
    · show (v_iv (n_v (vs ++ [Value.int x]) 7) + 1) ≤ w_ei ws (w_ar ws (n_v (vs ++ [Value.int x]) 4) 2) ((w_fi ws (n_v (vs ++ [Value.int x]) 4) 5 + 2))
      rw [e_4]
      rw [e_7]
      rw [q4]
      first | omega | grind
  have nf5 : fc_1 (23, [5, 7], [-1, 1, -1]) ws (vs ++ [Value.int x]) := by
    refine ⟨fun n hn => ?_, ?_⟩
    · have hn : n ∈ [5, 7] := hn
      rw [List.length_append, hl]
      simp only [List.mem_cons, List.not_mem_nil, or_false] at hn
      show n < 15 + 1; omega
    · show 1 * v_iv (n_v (vs ++ [Value.int x]) 5) + ((-1) * v_iv (n_v (vs ++ [Value.int x]) 7) + 0) ≤ (-1)
      rw [e_5]
      rw [e_7]
      rw [q5]
      omega
  have nf6 : fc_1 (24, [0, 4], []) ws (vs ++ [Value.int x]) := by
    refine ⟨fun n hn => ?_, ?_⟩
    · have hn : n ∈ [0, 4] := hn
      rw [List.length_append, hl]
      simp only [List.mem_cons, List.not_mem_nil, or_false] at hn
      show n < 15 + 1; omega
    · show n_v (vs ++ [Value.int x]) 0 = n_v (vs ++ [Value.int x]) 4
      first | rfl | simp only [e_0, e_4, q4, q5]
  have nf7 : fc_1 (24, [1, 5], []) ws (vs ++ [Value.int x]) := by
    refine ⟨fun n hn => ?_, ?_⟩
    · have hn : n ∈ [1, 5] := hn
      rw [List.length_append, hl]
      simp only [List.mem_cons, List.not_mem_nil, or_false] at hn
      show n < 15 + 1; omega
    · show n_v (vs ++ [Value.int x]) 1 = n_v (vs ++ [Value.int x]) 5
      first | rfl | simp only [e_1, e_5, q4, q5]
  have nf8 : fc_1 (20, [15, 4, 4], [30, 2005, 1, 0, 0, 1, 1, 11, 1, 1, 8]) ws (vs ++ [Value.int x]) := by
    refine ⟨fun n hn => ?_, ?_⟩
    · have hn : n ∈ [15, 4, 4] := hn
      rw [List.length_append, hl]
      simp only [List.mem_cons, List.not_mem_nil, or_false] at hn
      show n < 15 + 1; omega
    · show 1 * v_iv (n_v (vs ++ [Value.int x]) 15) + (1 * w_fi ws (n_v (vs ++ [Value.int x]) 4) 11 + (1 * w_fi ws (n_v (vs ++ [Value.int x]) 4) 8 + 0)) ≤ 2005
      rw [e_4]
      rw [e_15]
      rw [q4]
      omega
  have nf9 : fc_1 (20, [15, 4, 4], [30, -2005, -1, 0, 0, -1, 1, 11, -1, 1, 8]) ws (vs ++ [Value.int x]) := by
    refine ⟨fun n hn => ?_, ?_⟩
    · have hn : n ∈ [15, 4, 4] := hn
      rw [List.length_append, hl]
      simp only [List.mem_cons, List.not_mem_nil, or_false] at hn
      show n < 15 + 1; omega
    · show (-1) * v_iv (n_v (vs ++ [Value.int x]) 15) + ((-1) * w_fi ws (n_v (vs ++ [Value.int x]) 4) 11 + ((-1) * w_fi ws (n_v (vs ++ [Value.int x]) 4) 8 + 0)) ≤ (-2005)
      rw [e_4]
      rw [e_15]
      rw [q4]
      omega
  exact ⟨(fun _ h => (by cases h)), [Value.int x], ag_one hx, List.forall_mem_cons.mpr ⟨⟨show (20 : Nat) < 100 from by decide, nf0⟩, List.forall_mem_cons.mpr ⟨⟨show (20 : Nat) < 100 from by decide, nf1⟩, List.forall_mem_cons.mpr ⟨⟨show (20 : Nat) < 100 from by decide, nf2⟩, List.forall_mem_cons.mpr ⟨⟨show (20 : Nat) < 100 from by decide, nf3⟩, List.forall_mem_cons.mpr ⟨⟨show (20 : Nat) < 100 from by decide, nf4⟩, List.forall_mem_cons.mpr ⟨⟨show (23 : Nat) < 100 from by decide, nf5⟩, List.forall_mem_cons.mpr ⟨⟨show (24 : Nat) < 100 from by decide, nf6⟩, List.forall_mem_cons.mpr ⟨⟨show (24 : Nat) < 100 from by decide, nf7⟩, List.forall_mem_cons.mpr ⟨⟨show (20 : Nat) < 100 from by decide, nf8⟩, List.forall_mem_cons.mpr ⟨⟨show (20 : Nat) < 100 from by decide, nf9⟩, (fun _ h => (by cases h))⟩⟩⟩⟩⟩⟩⟩⟩⟩⟩, (fun _ h => (by cases h))⟩
def o_Mo_groupItem_at_k2_12 : or_T := (141, 19, [(0, (2, 0, 0, [150])), (1, (0, 0, 7, [])), (3, (0, 0, 2000, [])), (4, (2, 0, 0, [150])), (5, (0, 0, 7, [])), (7, (0, 0, 7, [])), (8, (0, 0, 8, [])), (9, (0, 1, 2000, [])), (10, (0, 0, 2000, [])), (11, (0, 1, 2000, [])), (12, (2, 0, 0, [152])), (13, (0, 0, 66297, []))], [(9, [13, 4], [5]), (9, [12, 4], [2]), (7, [8, 11], [2]), (2, [11, 9, 10], []), (9, [10, 4], [15]), (9, [9, 4], [11]), (20, [4, 4], [30, 0, 1, 1, 15, -1, 1, 11]), (20, [4], [50, 3, 0, 12, 11, 15, 2, 21, 4, 7, 1, 3, 2, 0, 12, 0, 1, 0, 3, 2, 0, 11, 4, 3, 2, 0, 15, 0, 8, 3, 7, 1, 3, 2, 0, 12, 0, 0, 0, 7, 4, 3, 2, 0, 15, 0, 1, 2, 0, 11]), (20, [3, 4], [30, -1, 1, 0, 0, -1, 1, 11]), (20, [4], [50, 1, 0, 12, 1, 3, 2, 0, 12, 0, 1]), (20, [7, 4], [50, 1, 1, 1005, 1002, 0, 6, 4, 2, 1, 0, 0, 1, 3, 1, 2, 4, 3, 2, 1, 5, 0, 2]), (23, [5, 7], [-1, 1, -1]), (24, [0, 4], []), (24, [1, 5], [])], [(8, (0, 0, 7, []))], [], [], [], [(8, 11, -4294967296, -1), (11, 9, -2000, 0), (1, 3, -4294967296, 7), (1, 5, -4294967296, 0), (1, 7, -4294967296, 7), (1, 8, -4294967296, 7), (3, 1, -4294967296, 2000), (3, 5, -4294967296, 2000), (3, 7, -4294967296, 2000), (3, 8, -4294967296, 2000), (5, 1, -4294967296, 0), (5, 3, -4294967296, 7), (5, 7, -4294967296, 7), (5, 8, -4294967296, 7), (7, 1, -4294967296, 7), (7, 3, -4294967296, 7), (7, 5, -4294967296, 7), (7, 8, -4294967296, 7)])
theorem oo_Mo_groupItem_at_k2_12 {kA : Nat → ClassId} : or_ok kA GG o_Mo_groupItem_at_k2_12 := by
  intro A ta ws vs hD hth hl hk hds hf
  have hl : vs.length = 19 := hl
  have hk : ∀ q ∈ ([(0, (2, 0, 0, [150])), (1, (0, 0, 7, [])), (3, (0, 0, 2000, [])), (4, (2, 0, 0, [150])), (5, (0, 0, 7, [])), (7, (0, 0, 7, [])), (8, (0, 0, 8, [])), (9, (0, 1, 2000, [])), (10, (0, 0, 2000, [])), (11, (0, 1, 2000, [])), (12, (2, 0, 0, [152])), (13, (0, 0, 66297, []))] : List (Nat × tv_T)), tv_ok ta q.2 (n_v vs q.1) := hk
  obtain ⟨t0, hk⟩ := List.forall_mem_cons.mp hk
  have t0 : tv_ok ta (2, 0, 0, [150]) (n_v vs 0) := t0
  have r0 : ta (v_ad (n_v vs 0)) = some 150 := tv_rg t0
  obtain ⟨t1, hk⟩ := List.forall_mem_cons.mp hk
  have t1 : tv_ok ta (0, 0, 7, []) (n_v vs 1) := t1
  have k1 : 0 ≤ v_iv (n_v vs 1) ∧ v_iv (n_v vs 1) ≤ 7 := tv_rng t1
  obtain ⟨t3, hk⟩ := List.forall_mem_cons.mp hk
  have t3 : tv_ok ta (0, 0, 2000, []) (n_v vs 3) := t3
  have k3 : 0 ≤ v_iv (n_v vs 3) ∧ v_iv (n_v vs 3) ≤ 2000 := tv_rng t3
  obtain ⟨t4, hk⟩ := List.forall_mem_cons.mp hk
  have t4 : tv_ok ta (2, 0, 0, [150]) (n_v vs 4) := t4
  have r4 : ta (v_ad (n_v vs 4)) = some 150 := tv_rg t4
  obtain ⟨t5, hk⟩ := List.forall_mem_cons.mp hk
  have t5 : tv_ok ta (0, 0, 7, []) (n_v vs 5) := t5
  have k5 : 0 ≤ v_iv (n_v vs 5) ∧ v_iv (n_v vs 5) ≤ 7 := tv_rng t5
  obtain ⟨t7, hk⟩ := List.forall_mem_cons.mp hk
  have t7 : tv_ok ta (0, 0, 7, []) (n_v vs 7) := t7
  have k7 : 0 ≤ v_iv (n_v vs 7) ∧ v_iv (n_v vs 7) ≤ 7 := tv_rng t7
  obtain ⟨t8, hk⟩ := List.forall_mem_cons.mp hk
  have t8 : tv_ok ta (0, 0, 8, []) (n_v vs 8) := t8
  have k8 : 0 ≤ v_iv (n_v vs 8) ∧ v_iv (n_v vs 8) ≤ 8 := tv_rng t8
  obtain ⟨t9, hk⟩ := List.forall_mem_cons.mp hk
  have t9 : tv_ok ta (0, 1, 2000, []) (n_v vs 9) := t9
  have k9 : 1 ≤ v_iv (n_v vs 9) ∧ v_iv (n_v vs 9) ≤ 2000 := tv_rng t9
  obtain ⟨t10, hk⟩ := List.forall_mem_cons.mp hk
  have t10 : tv_ok ta (0, 0, 2000, []) (n_v vs 10) := t10
  have k10 : 0 ≤ v_iv (n_v vs 10) ∧ v_iv (n_v vs 10) ≤ 2000 := tv_rng t10
  obtain ⟨t11, hk⟩ := List.forall_mem_cons.mp hk
  have t11 : tv_ok ta (0, 1, 2000, []) (n_v vs 11) := t11
  have k11 : 1 ≤ v_iv (n_v vs 11) ∧ v_iv (n_v vs 11) ≤ 2000 := tv_rng t11
  obtain ⟨t12, hk⟩ := List.forall_mem_cons.mp hk
  have t12 : tv_ok ta (2, 0, 0, [152]) (n_v vs 12) := t12
  have r12 : ta (v_ad (n_v vs 12)) = some 152 := tv_rg t12
  obtain ⟨t13, hk⟩ := List.forall_mem_cons.mp hk
  have t13 : tv_ok ta (0, 0, 66297, []) (n_v vs 13) := t13
  have k13 : 0 ≤ v_iv (n_v vs 13) ∧ v_iv (n_v vs 13) ≤ 66297 := tv_rng t13
  have hds : ∀ q ∈ ([(8, 11, -4294967296, -1), (11, 9, -2000, 0), (1, 3, -4294967296, 7), (1, 5, -4294967296, 0), (1, 7, -4294967296, 7), (1, 8, -4294967296, 7), (3, 1, -4294967296, 2000), (3, 5, -4294967296, 2000), (3, 7, -4294967296, 2000), (3, 8, -4294967296, 2000), (5, 1, -4294967296, 0), (5, 3, -4294967296, 7), (5, 7, -4294967296, 7), (5, 8, -4294967296, 7), (7, 1, -4294967296, 7), (7, 3, -4294967296, 7), (7, 5, -4294967296, 7), (7, 8, -4294967296, 7)] : List of_T), n_iv vs q.2.1 + q.2.2.1 ≤ n_iv vs q.1 ∧ n_iv vs q.1 ≤ n_iv vs q.2.1 + q.2.2.2 := hds
  obtain ⟨d0, hds⟩ := List.forall_mem_cons.mp hds
  have d0 : v_iv (n_v vs 11) + (-4294967296) ≤ v_iv (n_v vs 8) ∧ v_iv (n_v vs 8) ≤ v_iv (n_v vs 11) + (-1) := d0
  obtain ⟨d1, hds⟩ := List.forall_mem_cons.mp hds
  have d1 : v_iv (n_v vs 9) + (-2000) ≤ v_iv (n_v vs 11) ∧ v_iv (n_v vs 11) ≤ v_iv (n_v vs 9) + 0 := d1
  obtain ⟨d2, hds⟩ := List.forall_mem_cons.mp hds
  have d2 : v_iv (n_v vs 3) + (-4294967296) ≤ v_iv (n_v vs 1) ∧ v_iv (n_v vs 1) ≤ v_iv (n_v vs 3) + 7 := d2
  obtain ⟨d3, hds⟩ := List.forall_mem_cons.mp hds
  have d3 : v_iv (n_v vs 5) + (-4294967296) ≤ v_iv (n_v vs 1) ∧ v_iv (n_v vs 1) ≤ v_iv (n_v vs 5) + 0 := d3
  obtain ⟨d4, hds⟩ := List.forall_mem_cons.mp hds
  have d4 : v_iv (n_v vs 7) + (-4294967296) ≤ v_iv (n_v vs 1) ∧ v_iv (n_v vs 1) ≤ v_iv (n_v vs 7) + 7 := d4
  obtain ⟨d5, hds⟩ := List.forall_mem_cons.mp hds
  have d5 : v_iv (n_v vs 8) + (-4294967296) ≤ v_iv (n_v vs 1) ∧ v_iv (n_v vs 1) ≤ v_iv (n_v vs 8) + 7 := d5
  obtain ⟨d6, hds⟩ := List.forall_mem_cons.mp hds
  have d6 : v_iv (n_v vs 1) + (-4294967296) ≤ v_iv (n_v vs 3) ∧ v_iv (n_v vs 3) ≤ v_iv (n_v vs 1) + 2000 := d6
  obtain ⟨d7, hds⟩ := List.forall_mem_cons.mp hds
  have d7 : v_iv (n_v vs 5) + (-4294967296) ≤ v_iv (n_v vs 3) ∧ v_iv (n_v vs 3) ≤ v_iv (n_v vs 5) + 2000 := d7
  obtain ⟨d8, hds⟩ := List.forall_mem_cons.mp hds
  have d8 : v_iv (n_v vs 7) + (-4294967296) ≤ v_iv (n_v vs 3) ∧ v_iv (n_v vs 3) ≤ v_iv (n_v vs 7) + 2000 := d8
  obtain ⟨d9, hds⟩ := List.forall_mem_cons.mp hds
  have d9 : v_iv (n_v vs 8) + (-4294967296) ≤ v_iv (n_v vs 3) ∧ v_iv (n_v vs 3) ≤ v_iv (n_v vs 8) + 2000 := d9
  obtain ⟨d10, hds⟩ := List.forall_mem_cons.mp hds
  have d10 : v_iv (n_v vs 1) + (-4294967296) ≤ v_iv (n_v vs 5) ∧ v_iv (n_v vs 5) ≤ v_iv (n_v vs 1) + 0 := d10
  obtain ⟨d11, hds⟩ := List.forall_mem_cons.mp hds
  have d11 : v_iv (n_v vs 3) + (-4294967296) ≤ v_iv (n_v vs 5) ∧ v_iv (n_v vs 5) ≤ v_iv (n_v vs 3) + 7 := d11
  obtain ⟨d12, hds⟩ := List.forall_mem_cons.mp hds
  have d12 : v_iv (n_v vs 7) + (-4294967296) ≤ v_iv (n_v vs 5) ∧ v_iv (n_v vs 5) ≤ v_iv (n_v vs 7) + 7 := d12
  obtain ⟨d13, hds⟩ := List.forall_mem_cons.mp hds
  have d13 : v_iv (n_v vs 8) + (-4294967296) ≤ v_iv (n_v vs 5) ∧ v_iv (n_v vs 5) ≤ v_iv (n_v vs 8) + 7 := d13
  obtain ⟨d14, hds⟩ := List.forall_mem_cons.mp hds
  have d14 : v_iv (n_v vs 1) + (-4294967296) ≤ v_iv (n_v vs 7) ∧ v_iv (n_v vs 7) ≤ v_iv (n_v vs 1) + 7 := d14
  obtain ⟨d15, hds⟩ := List.forall_mem_cons.mp hds
  have d15 : v_iv (n_v vs 3) + (-4294967296) ≤ v_iv (n_v vs 7) ∧ v_iv (n_v vs 7) ≤ v_iv (n_v vs 3) + 7 := d15
  obtain ⟨d16, hds⟩ := List.forall_mem_cons.mp hds
  have d16 : v_iv (n_v vs 5) + (-4294967296) ≤ v_iv (n_v vs 7) ∧ v_iv (n_v vs 7) ≤ v_iv (n_v vs 5) + 7 := d16
  obtain ⟨d17, hds⟩ := List.forall_mem_cons.mp hds
  have d17 : v_iv (n_v vs 8) + (-4294967296) ≤ v_iv (n_v vs 7) ∧ v_iv (n_v vs 7) ≤ v_iv (n_v vs 8) + 7 := d17
  have hf : fc_ok [(9, [13, 4], [5]), (9, [12, 4], [2]), (7, [8, 11], [2]), (2, [11, 9, 10], []), (9, [10, 4], [15]), (9, [9, 4], [11]), (20, [4, 4], [30, 0, 1, 1, 15, -1, 1, 11]), (20, [4], [50, 3, 0, 12, 11, 15, 2, 21, 4, 7, 1, 3, 2, 0, 12, 0, 1, 0, 3, 2, 0, 11, 4, 3, 2, 0, 15, 0, 8, 3, 7, 1, 3, 2, 0, 12, 0, 0, 0, 7, 4, 3, 2, 0, 15, 0, 1, 2, 0, 11]), (20, [3, 4], [30, -1, 1, 0, 0, -1, 1, 11]), (20, [4], [50, 1, 0, 12, 1, 3, 2, 0, 12, 0, 1]), (20, [7, 4], [50, 1, 1, 1005, 1002, 0, 6, 4, 2, 1, 0, 0, 1, 3, 1, 2, 4, 3, 2, 1, 5, 0, 2]), (23, [5, 7], [-1, 1, -1]), (24, [0, 4], []), (24, [1, 5], [])] ta ws vs := hf
  obtain ⟨f0, hf⟩ := fc_un (show (9 : Nat) < 100 from by decide) hf
  have f0 : n_v vs 13 = w_fd ws (v_ad (n_v vs 4)) 5 := f0
  obtain ⟨f1, hf⟩ := fc_un (show (9 : Nat) < 100 from by decide) hf
  have f1 : n_v vs 12 = w_fd ws (v_ad (n_v vs 4)) 2 := f1
  obtain ⟨f2, hf⟩ := fc_un (show (7 : Nat) < 100 from by decide) hf
  have f2 : v_iv (n_v vs 8) < v_iv (n_v vs 11) := f2
  obtain ⟨f3, hf⟩ := fc_un (show (2 : Nat) < 100 from by decide) hf
  have f3 : v_iv (n_v vs 11) = v_iv (n_v vs 9) - v_iv (n_v vs 10) := f3
  obtain ⟨f4, hf⟩ := fc_un (show (9 : Nat) < 100 from by decide) hf
  have f4 : n_v vs 10 = w_fd ws (v_ad (n_v vs 4)) 15 := f4
  obtain ⟨f5, hf⟩ := fc_un (show (9 : Nat) < 100 from by decide) hf
  have f5 : n_v vs 9 = w_fd ws (v_ad (n_v vs 4)) 11 := f5
  obtain ⟨f6, hf⟩ := fc_un (show (20 : Nat) < 100 from by decide) hf
  have f6 : 1 * w_fi ws (n_v vs 4) 15 + ((-1) * w_fi ws (n_v vs 4) 11 + 0) ≤ 0 := f6
  obtain ⟨f7, hf⟩ := fc_un (show (20 : Nat) < 100 from by decide) hf
  have f7 : ((w_fi ws (n_v vs 4) 12 = 1) → (w_fi ws (n_v vs 4) 11 ≤ (w_fi ws (n_v vs 4) 15 + 8))) ∧ ((w_fi ws (n_v vs 4) 12 = 0) ∨ ((w_fi ws (n_v vs 4) 15 + 1) ≤ w_fi ws (n_v vs 4) 11)) := f7
  obtain ⟨f8, hf⟩ := fc_un (show (20 : Nat) < 100 from by decide) hf
  have f8 : 1 * v_iv (n_v vs 3) + ((-1) * w_fi ws (n_v vs 4) 11 + 0) ≤ (-1) := f8
  obtain ⟨f9, hf⟩ := fc_un (show (20 : Nat) < 100 from by decide) hf
  have f9 : w_fi ws (n_v vs 4) 12 = 1 := f9
  obtain ⟨f10, hf⟩ := fc_un (show (20 : Nat) < 100 from by decide) hf
  have f10 : (v_iv (n_v vs 7) + 1) ≤ w_ei ws (w_ar ws (n_v vs 4) 2) ((w_fi ws (n_v vs 4) 5 + 2)) := f10
  obtain ⟨f11, hf⟩ := fc_un (show (23 : Nat) < 100 from by decide) hf
  have f11 : 1 * v_iv (n_v vs 5) + ((-1) * v_iv (n_v vs 7) + 0) ≤ (-1) := f11
  obtain ⟨f12, hf⟩ := fc_un (show (24 : Nat) < 100 from by decide) hf
  have f12 : n_v vs 0 = n_v vs 4 := f12
  obtain ⟨f13, hf⟩ := fc_un (show (24 : Nat) < 100 from by decide) hf
  have f13 : n_v vs 1 = n_v vs 5 := f13
  have q4 : n_v vs 4 = n_v vs 0 := f12.symm
  have q5 : n_v vs 5 = n_v vs 1 := f13.symm
  rw [q4] at f0
  rw [q4] at f1
  rw [q4] at f4
  rw [q4] at f5
  rw [q4] at f6
  rw [q4] at f7
  rw [q4] at f8
  rw [q4] at f9
  rw [q4] at f10
  rw [q5] at f11
  have cr_0_2 : ta (w_ar ws (n_v vs 0) 2) = some 152 := tv_rg (th_fd hD hth r0 (g := GG_150) rfl (k := 2) (t := (2, 0, 0, [152])) rfl rfl)
  have ad_12 : v_ad (n_v vs 12) = w_ar ws (n_v vs 0) 2 := congrArg v_ad f1
  have g0 : v_iv (n_v vs 13) = w_fi ws (n_v vs 0) 5 := congrArg v_iv f0
  have g4 : v_iv (n_v vs 10) = w_fi ws (n_v vs 0) 15 := congrArg v_iv f4
  have g5 : v_iv (n_v vs 9) = w_fi ws (n_v vs 0) 11 := congrArg v_iv f5
  have kz_0_11 : 0 ≤ w_fi ws (n_v vs 0) 11 ∧ w_fi ws (n_v vs 0) 11 ≤ 2000 := tv_rng (th_fd hD hth r0 (g := GG_150) rfl (k := 11) (t := (0, 0, 2000, [])) rfl rfl)
  have kz_0_12 : 0 ≤ w_fi ws (n_v vs 0) 12 ∧ w_fi ws (n_v vs 0) 12 ≤ 4 := tv_rng (th_fd hD hth r0 (g := GG_150) rfl (k := 12) (t := (0, 0, 4, [])) rfl rfl)
  have kz_0_15 : 0 ≤ w_fi ws (n_v vs 0) 15 ∧ w_fi ws (n_v vs 0) 15 ≤ 2000 := tv_rng (th_fd hD hth r0 (g := GG_150) rfl (k := 15) (t := (0, 0, 2000, [])) rfl rfl)
  have rf8 : tv_ok ta (0, 0, 7, []) (n_v vs 8) := tv_in t8 (by first | omega | grind) (by first | omega | grind)
  refine ⟨List.forall_mem_cons.mpr ⟨rf8, (fun _ h => (by cases h))⟩, [], trivial, ?_, (fun _ h => (by cases h))⟩
  rw [List.append_nil]
  exact (fun _ h => (by cases h))
def o_Mo_groupItem_at_k2_13 : or_T := (153, 22, [(7, (0, 0, 7, [])), (8, (0, 0, 7, [])), (13, (5, 0, 66297, [539])), (14, (0, 459, 459, [])), (15, (0, 459, 66756, [])), (16, (0, 8, 8, [])), (17, (0, 0, 56, [])), (18, (0, 459, 66812, [])), (19, (0, 459, 66819, [])), (21, (0, -1, -1, []))], [(1, [19, 18, 8], []), (1, [18, 15, 17], []), (3, [17, 16, 7], []), (1, [15, 13, 14], [])], [], [], [(18, [19, 21], [1])], [], [(19, 8, 459, 66812), (19, 18, 0, 7), (19, 17, 459, 66763), (19, 15, 0, 63), (19, 13, 459, 522), (18, 17, 459, 66756), (18, 15, 0, 56), (18, 13, 459, 515), (15, 13, 459, 459), (7, 8, -4294967296, 7)])
theorem oo_Mo_groupItem_at_k2_13 {kA : Nat → ClassId} : or_ok kA GG o_Mo_groupItem_at_k2_13 := by
  intro A ta ws vs hD hth hl hk hds hf
  have hl : vs.length = 22 := hl
  have hk : ∀ q ∈ ([(7, (0, 0, 7, [])), (8, (0, 0, 7, [])), (13, (5, 0, 66297, [539])), (14, (0, 459, 459, [])), (15, (0, 459, 66756, [])), (16, (0, 8, 8, [])), (17, (0, 0, 56, [])), (18, (0, 459, 66812, [])), (19, (0, 459, 66819, [])), (21, (0, -1, -1, []))] : List (Nat × tv_T)), tv_ok ta q.2 (n_v vs q.1) := hk
  obtain ⟨t7, hk⟩ := List.forall_mem_cons.mp hk
  have t7 : tv_ok ta (0, 0, 7, []) (n_v vs 7) := t7
  have k7 : 0 ≤ v_iv (n_v vs 7) ∧ v_iv (n_v vs 7) ≤ 7 := tv_rng t7
  obtain ⟨t8, hk⟩ := List.forall_mem_cons.mp hk
  have t8 : tv_ok ta (0, 0, 7, []) (n_v vs 8) := t8
  have k8 : 0 ≤ v_iv (n_v vs 8) ∧ v_iv (n_v vs 8) ≤ 7 := tv_rng t8
  obtain ⟨t13, hk⟩ := List.forall_mem_cons.mp hk
  have t13 : tv_ok ta (5, 0, 66297, [539]) (n_v vs 13) := t13
  obtain ⟨k13, q13_⟩ : (0 ≤ v_iv (n_v vs 13) ∧ v_iv (n_v vs 13) ≤ 66297) ∧ ∃ q : Int, v_iv (n_v vs 13) = 539 * q := tv_dvk t13
  obtain ⟨q13, hq13⟩ := q13_
  obtain ⟨t14, hk⟩ := List.forall_mem_cons.mp hk
  have t14 : tv_ok ta (0, 459, 459, []) (n_v vs 14) := t14
  have k14 : 459 ≤ v_iv (n_v vs 14) ∧ v_iv (n_v vs 14) ≤ 459 := tv_rng t14
  obtain ⟨t15, hk⟩ := List.forall_mem_cons.mp hk
  have t15 : tv_ok ta (0, 459, 66756, []) (n_v vs 15) := t15
  have k15 : 459 ≤ v_iv (n_v vs 15) ∧ v_iv (n_v vs 15) ≤ 66756 := tv_rng t15
  obtain ⟨t16, hk⟩ := List.forall_mem_cons.mp hk
  have t16 : tv_ok ta (0, 8, 8, []) (n_v vs 16) := t16
  have k16 : 8 ≤ v_iv (n_v vs 16) ∧ v_iv (n_v vs 16) ≤ 8 := tv_rng t16
  obtain ⟨t17, hk⟩ := List.forall_mem_cons.mp hk
  have t17 : tv_ok ta (0, 0, 56, []) (n_v vs 17) := t17
  have k17 : 0 ≤ v_iv (n_v vs 17) ∧ v_iv (n_v vs 17) ≤ 56 := tv_rng t17
  obtain ⟨t18, hk⟩ := List.forall_mem_cons.mp hk
  have t18 : tv_ok ta (0, 459, 66812, []) (n_v vs 18) := t18
  have k18 : 459 ≤ v_iv (n_v vs 18) ∧ v_iv (n_v vs 18) ≤ 66812 := tv_rng t18
  obtain ⟨t19, hk⟩ := List.forall_mem_cons.mp hk
  have t19 : tv_ok ta (0, 459, 66819, []) (n_v vs 19) := t19
  have k19 : 459 ≤ v_iv (n_v vs 19) ∧ v_iv (n_v vs 19) ≤ 66819 := tv_rng t19
  obtain ⟨t21, hk⟩ := List.forall_mem_cons.mp hk
  have t21 : tv_ok ta (0, -1, -1, []) (n_v vs 21) := t21
  have k21 : (-1) ≤ v_iv (n_v vs 21) ∧ v_iv (n_v vs 21) ≤ (-1) := tv_rng t21
  have hds : ∀ q ∈ ([(19, 8, 459, 66812), (19, 18, 0, 7), (19, 17, 459, 66763), (19, 15, 0, 63), (19, 13, 459, 522), (18, 17, 459, 66756), (18, 15, 0, 56), (18, 13, 459, 515), (15, 13, 459, 459), (7, 8, -4294967296, 7)] : List of_T), n_iv vs q.2.1 + q.2.2.1 ≤ n_iv vs q.1 ∧ n_iv vs q.1 ≤ n_iv vs q.2.1 + q.2.2.2 := hds
  obtain ⟨d0, hds⟩ := List.forall_mem_cons.mp hds
  have d0 : v_iv (n_v vs 8) + 459 ≤ v_iv (n_v vs 19) ∧ v_iv (n_v vs 19) ≤ v_iv (n_v vs 8) + 66812 := d0
  obtain ⟨d1, hds⟩ := List.forall_mem_cons.mp hds
  have d1 : v_iv (n_v vs 18) + 0 ≤ v_iv (n_v vs 19) ∧ v_iv (n_v vs 19) ≤ v_iv (n_v vs 18) + 7 := d1
  obtain ⟨d2, hds⟩ := List.forall_mem_cons.mp hds
  have d2 : v_iv (n_v vs 17) + 459 ≤ v_iv (n_v vs 19) ∧ v_iv (n_v vs 19) ≤ v_iv (n_v vs 17) + 66763 := d2
  obtain ⟨d3, hds⟩ := List.forall_mem_cons.mp hds
  have d3 : v_iv (n_v vs 15) + 0 ≤ v_iv (n_v vs 19) ∧ v_iv (n_v vs 19) ≤ v_iv (n_v vs 15) + 63 := d3
  obtain ⟨d4, hds⟩ := List.forall_mem_cons.mp hds
  have d4 : v_iv (n_v vs 13) + 459 ≤ v_iv (n_v vs 19) ∧ v_iv (n_v vs 19) ≤ v_iv (n_v vs 13) + 522 := d4
  obtain ⟨d5, hds⟩ := List.forall_mem_cons.mp hds
  have d5 : v_iv (n_v vs 17) + 459 ≤ v_iv (n_v vs 18) ∧ v_iv (n_v vs 18) ≤ v_iv (n_v vs 17) + 66756 := d5
  obtain ⟨d6, hds⟩ := List.forall_mem_cons.mp hds
  have d6 : v_iv (n_v vs 15) + 0 ≤ v_iv (n_v vs 18) ∧ v_iv (n_v vs 18) ≤ v_iv (n_v vs 15) + 56 := d6
  obtain ⟨d7, hds⟩ := List.forall_mem_cons.mp hds
  have d7 : v_iv (n_v vs 13) + 459 ≤ v_iv (n_v vs 18) ∧ v_iv (n_v vs 18) ≤ v_iv (n_v vs 13) + 515 := d7
  obtain ⟨d8, hds⟩ := List.forall_mem_cons.mp hds
  have d8 : v_iv (n_v vs 13) + 459 ≤ v_iv (n_v vs 15) ∧ v_iv (n_v vs 15) ≤ v_iv (n_v vs 13) + 459 := d8
  obtain ⟨d9, hds⟩ := List.forall_mem_cons.mp hds
  have d9 : v_iv (n_v vs 8) + (-4294967296) ≤ v_iv (n_v vs 7) ∧ v_iv (n_v vs 7) ≤ v_iv (n_v vs 8) + 7 := d9
  have hf : fc_ok [(1, [19, 18, 8], []), (1, [18, 15, 17], []), (3, [17, 16, 7], []), (1, [15, 13, 14], [])] ta ws vs := hf
  obtain ⟨f0, hf⟩ := fc_un (show (1 : Nat) < 100 from by decide) hf
  have f0 : v_iv (n_v vs 19) = v_iv (n_v vs 18) + v_iv (n_v vs 8) := f0
  obtain ⟨f1, hf⟩ := fc_un (show (1 : Nat) < 100 from by decide) hf
  have f1 : v_iv (n_v vs 18) = v_iv (n_v vs 15) + v_iv (n_v vs 17) := f1
  obtain ⟨f2, hf⟩ := fc_un (show (3 : Nat) < 100 from by decide) hf
  have f2 : v_iv (n_v vs 17) = v_iv (n_v vs 16) * v_iv (n_v vs 7) := f2
  rw [show v_iv (n_v vs 16) = 8 from by omega] at f2
  obtain ⟨f3, hf⟩ := fc_un (show (1 : Nat) < 100 from by decide) hf
  have f3 : v_iv (n_v vs 15) = v_iv (n_v vs 13) + v_iv (n_v vs 14) := f3
  have nf0 : fc_1 (18, [19, 21], [1]) ws (vs) := by
    refine ⟨fun n hn => ?_, ?_⟩
    · have hn : n ∈ [19, 21] := hn
      rw [hl]
      simp only [List.mem_cons, List.not_mem_nil, or_false] at hn
      show n < 22; omega
    · show pl_ok 1 (v_iv (n_v vs 19)).toNat (v_iv (n_v vs 21))
      exact pl_in pl_M1 (lo := 459) (hi := 522) (a := (-1)) (b := (-1)) (by decide +kernel) (by omega) (by omega) (by omega) (by omega)
  refine ⟨(fun _ h => (by cases h)), [], trivial, ?_, (fun _ h => (by cases h))⟩
  rw [List.append_nil]
  exact List.forall_mem_cons.mpr ⟨⟨show (18 : Nat) < 100 from by decide, nf0⟩, (fun _ h => (by cases h))⟩
def o_Mo_groupItem_at_k2_14 : or_T := (108, 23, [(0, (2, 0, 0, [150])), (1, (0, 0, 7, [])), (3, (0, 0, 2000, [])), (4, (2, 0, 0, [150])), (5, (0, 0, 7, [])), (7, (0, 0, 7, [])), (8, (0, 0, 7, [])), (9, (0, 1, 2000, [])), (10, (0, 0, 2000, [])), (11, (0, 1, 2000, [])), (12, (2, 0, 0, [152])), (13, (0, 0, 66297, [])), (14, (0, 459, 459, [])), (15, (0, 459, 66756, [])), (16, (0, 8, 8, [])), (17, (0, 0, 56, [])), (18, (0, 459, 66812, [])), (19, (0, 459, 66819, [])), (20, (0, 0, 2007, [])), (21, (0, -1, -1, [])), (22, (0, 1, 8, []))], [(6, [22, 8], [1]), (20, [20, 4, 21], [50, 1, 1, 1010, 1001, 4, 11, 0, 6, 4, 2, 1, 0, 0, 1, 2, 1, 10, 1, 2, 1, 2, 9, 5, 3, 1, 1, 1, 0, 0, 256]), (20, [4, 20, 21], [50, 1, 0, 10, 4, 7, 0, 3, 2, 0, 10, 1, 1, 1, 2, 1, 2, 0, -1]), (20, [4, 4], [30, 0, 1, 1, 15, -1, 1, 11]), (20, [4], [50, 3, 0, 12, 11, 15, 2, 21, 4, 7, 1, 3, 2, 0, 12, 0, 1, 0, 3, 2, 0, 11, 4, 3, 2, 0, 15, 0, 8, 3, 7, 1, 3, 2, 0, 12, 0, 0, 0, 7, 4, 3, 2, 0, 15, 0, 1, 2, 0, 11]), (20, [3, 4], [30, -1, 1, 0, 0, -1, 1, 11]), (20, [4], [50, 1, 0, 12, 1, 3, 2, 0, 12, 0, 1]), (23, [5, 7], [-1, 1, -1]), (24, [0, 4], []), (24, [1, 5], []), (100, [12, 19, 21], []), (20, [20, 4, 21], [50, 1, 1, 1010, 1001, 4, 11, 0, 6, 4, 2, 1, 0, 0, 1, 2, 1, 10, 1, 2, 1, 2, 9, 5, 3, 1, 1, 1, 0, 0, 256]), (20, [4, 20, 21], [50, 1, 0, 10, 4, 7, 0, 3, 2, 0, 10, 1, 1, 1, 2, 1, 2, 0, -1]), (1, [20, 10, 8], []), (9, [10, 4], [15]), (1, [19, 18, 8], []), (1, [18, 15, 17], []), (3, [17, 16, 7], []), (1, [15, 13, 14], []), (9, [13, 4], [5]), (9, [12, 4], [2]), (7, [8, 11], [2]), (2, [11, 9, 10], []), (9, [9, 4], [11]), (20, [4, 4], [30, 0, 1, 1, 15, -1, 1, 11]), (20, [4], [50, 3, 0, 12, 11, 15, 2, 21, 4, 7, 1, 3, 2, 0, 12, 0, 1, 0, 3, 2, 0, 11, 4, 3, 2, 0, 15, 0, 8, 3, 7, 1, 3, 2, 0, 12, 0, 0, 0, 7, 4, 3, 2, 0, 15, 0, 1, 2, 0, 11]), (20, [3, 4], [30, -1, 1, 0, 0, -1, 1, 11]), (20, [4], [50, 1, 0, 12, 1, 3, 2, 0, 12, 0, 1]), (20, [7, 4], [50, 1, 1, 1005, 1002, 0, 6, 4, 2, 1, 0, 0, 1, 3, 1, 2, 4, 3, 2, 1, 5, 0, 2]), (23, [5, 7], [-1, 1, -1])], [], [], [(20, [7, 4], [50, 1, 1, 1005, 1002, 0, 6, 4, 2, 1, 0, 0, 1, 3, 1, 2, 4, 3, 2, 1, 5, 0, 2])], [], [(22, 8, 1, 1), (22, 11, -4294967296, 0), (20, 8, 0, 2000), (20, 11, -4294967296, 1999), (20, 10, 0, 7), (19, 8, 459, 66812), (19, 11, -4294967296, 66811), (19, 18, 0, 7), (19, 17, 459, 66763), (19, 15, 0, 63), (19, 13, 459, 522), (18, 17, 459, 66756), (18, 15, 0, 56), (18, 13, 459, 515), (15, 13, 459, 459), (8, 11, -4294967296, -1), (11, 9, -2000, 0), (1, 3, -4294967296, 7), (1, 5, -4294967296, 0), (1, 7, -4294967296, 7), (1, 8, -4294967296, 7), (3, 1, -4294967296, 2000), (3, 5, -4294967296, 2000), (3, 7, -4294967296, 2000), (3, 8, -4294967296, 2000), (5, 1, -4294967296, 0), (5, 3, -4294967296, 7), (5, 7, -4294967296, 7), (5, 8, -4294967296, 7), (7, 1, -4294967296, 7), (7, 3, -4294967296, 7), (7, 5, -4294967296, 7), (7, 8, -4294967296, 7)])
theorem oo_Mo_groupItem_at_k2_14 {kA : Nat → ClassId} : or_ok kA GG o_Mo_groupItem_at_k2_14 := by
  intro A ta ws vs hD hth hl hk hds hf
  have hl : vs.length = 23 := hl
  have hk : ∀ q ∈ ([(0, (2, 0, 0, [150])), (1, (0, 0, 7, [])), (3, (0, 0, 2000, [])), (4, (2, 0, 0, [150])), (5, (0, 0, 7, [])), (7, (0, 0, 7, [])), (8, (0, 0, 7, [])), (9, (0, 1, 2000, [])), (10, (0, 0, 2000, [])), (11, (0, 1, 2000, [])), (12, (2, 0, 0, [152])), (13, (0, 0, 66297, [])), (14, (0, 459, 459, [])), (15, (0, 459, 66756, [])), (16, (0, 8, 8, [])), (17, (0, 0, 56, [])), (18, (0, 459, 66812, [])), (19, (0, 459, 66819, [])), (20, (0, 0, 2007, [])), (21, (0, -1, -1, [])), (22, (0, 1, 8, []))] : List (Nat × tv_T)), tv_ok ta q.2 (n_v vs q.1) := hk
  obtain ⟨t0, hk⟩ := List.forall_mem_cons.mp hk
  have t0 : tv_ok ta (2, 0, 0, [150]) (n_v vs 0) := t0
  have r0 : ta (v_ad (n_v vs 0)) = some 150 := tv_rg t0
  obtain ⟨t1, hk⟩ := List.forall_mem_cons.mp hk
  have t1 : tv_ok ta (0, 0, 7, []) (n_v vs 1) := t1
  have k1 : 0 ≤ v_iv (n_v vs 1) ∧ v_iv (n_v vs 1) ≤ 7 := tv_rng t1
  obtain ⟨t3, hk⟩ := List.forall_mem_cons.mp hk
  have t3 : tv_ok ta (0, 0, 2000, []) (n_v vs 3) := t3
  have k3 : 0 ≤ v_iv (n_v vs 3) ∧ v_iv (n_v vs 3) ≤ 2000 := tv_rng t3
  obtain ⟨t4, hk⟩ := List.forall_mem_cons.mp hk
  have t4 : tv_ok ta (2, 0, 0, [150]) (n_v vs 4) := t4
  have r4 : ta (v_ad (n_v vs 4)) = some 150 := tv_rg t4
  obtain ⟨t5, hk⟩ := List.forall_mem_cons.mp hk
  have t5 : tv_ok ta (0, 0, 7, []) (n_v vs 5) := t5
  have k5 : 0 ≤ v_iv (n_v vs 5) ∧ v_iv (n_v vs 5) ≤ 7 := tv_rng t5
  obtain ⟨t7, hk⟩ := List.forall_mem_cons.mp hk
  have t7 : tv_ok ta (0, 0, 7, []) (n_v vs 7) := t7
  have k7 : 0 ≤ v_iv (n_v vs 7) ∧ v_iv (n_v vs 7) ≤ 7 := tv_rng t7
  obtain ⟨t8, hk⟩ := List.forall_mem_cons.mp hk
  have t8 : tv_ok ta (0, 0, 7, []) (n_v vs 8) := t8
  have k8 : 0 ≤ v_iv (n_v vs 8) ∧ v_iv (n_v vs 8) ≤ 7 := tv_rng t8
  obtain ⟨t9, hk⟩ := List.forall_mem_cons.mp hk
  have t9 : tv_ok ta (0, 1, 2000, []) (n_v vs 9) := t9
  have k9 : 1 ≤ v_iv (n_v vs 9) ∧ v_iv (n_v vs 9) ≤ 2000 := tv_rng t9
  obtain ⟨t10, hk⟩ := List.forall_mem_cons.mp hk
  have t10 : tv_ok ta (0, 0, 2000, []) (n_v vs 10) := t10
  have k10 : 0 ≤ v_iv (n_v vs 10) ∧ v_iv (n_v vs 10) ≤ 2000 := tv_rng t10
  obtain ⟨t11, hk⟩ := List.forall_mem_cons.mp hk
  have t11 : tv_ok ta (0, 1, 2000, []) (n_v vs 11) := t11
  have k11 : 1 ≤ v_iv (n_v vs 11) ∧ v_iv (n_v vs 11) ≤ 2000 := tv_rng t11
  obtain ⟨t12, hk⟩ := List.forall_mem_cons.mp hk
  have t12 : tv_ok ta (2, 0, 0, [152]) (n_v vs 12) := t12
  have r12 : ta (v_ad (n_v vs 12)) = some 152 := tv_rg t12
  obtain ⟨t13, hk⟩ := List.forall_mem_cons.mp hk
  have t13 : tv_ok ta (0, 0, 66297, []) (n_v vs 13) := t13
  have k13 : 0 ≤ v_iv (n_v vs 13) ∧ v_iv (n_v vs 13) ≤ 66297 := tv_rng t13
  obtain ⟨t14, hk⟩ := List.forall_mem_cons.mp hk
  have t14 : tv_ok ta (0, 459, 459, []) (n_v vs 14) := t14
  have k14 : 459 ≤ v_iv (n_v vs 14) ∧ v_iv (n_v vs 14) ≤ 459 := tv_rng t14
  obtain ⟨t15, hk⟩ := List.forall_mem_cons.mp hk
  have t15 : tv_ok ta (0, 459, 66756, []) (n_v vs 15) := t15
  have k15 : 459 ≤ v_iv (n_v vs 15) ∧ v_iv (n_v vs 15) ≤ 66756 := tv_rng t15
  obtain ⟨t16, hk⟩ := List.forall_mem_cons.mp hk
  have t16 : tv_ok ta (0, 8, 8, []) (n_v vs 16) := t16
  have k16 : 8 ≤ v_iv (n_v vs 16) ∧ v_iv (n_v vs 16) ≤ 8 := tv_rng t16
  obtain ⟨t17, hk⟩ := List.forall_mem_cons.mp hk
  have t17 : tv_ok ta (0, 0, 56, []) (n_v vs 17) := t17
  have k17 : 0 ≤ v_iv (n_v vs 17) ∧ v_iv (n_v vs 17) ≤ 56 := tv_rng t17
  obtain ⟨t18, hk⟩ := List.forall_mem_cons.mp hk
  have t18 : tv_ok ta (0, 459, 66812, []) (n_v vs 18) := t18
  have k18 : 459 ≤ v_iv (n_v vs 18) ∧ v_iv (n_v vs 18) ≤ 66812 := tv_rng t18
  obtain ⟨t19, hk⟩ := List.forall_mem_cons.mp hk
  have t19 : tv_ok ta (0, 459, 66819, []) (n_v vs 19) := t19
  have k19 : 459 ≤ v_iv (n_v vs 19) ∧ v_iv (n_v vs 19) ≤ 66819 := tv_rng t19
  obtain ⟨t20, hk⟩ := List.forall_mem_cons.mp hk
  have t20 : tv_ok ta (0, 0, 2007, []) (n_v vs 20) := t20
  have k20 : 0 ≤ v_iv (n_v vs 20) ∧ v_iv (n_v vs 20) ≤ 2007 := tv_rng t20
  obtain ⟨t21, hk⟩ := List.forall_mem_cons.mp hk
  have t21 : tv_ok ta (0, -1, -1, []) (n_v vs 21) := t21
  have k21 : (-1) ≤ v_iv (n_v vs 21) ∧ v_iv (n_v vs 21) ≤ (-1) := tv_rng t21
  obtain ⟨t22, hk⟩ := List.forall_mem_cons.mp hk
  have t22 : tv_ok ta (0, 1, 8, []) (n_v vs 22) := t22
  have k22 : 1 ≤ v_iv (n_v vs 22) ∧ v_iv (n_v vs 22) ≤ 8 := tv_rng t22
  have hds : ∀ q ∈ ([(22, 8, 1, 1), (22, 11, -4294967296, 0), (20, 8, 0, 2000), (20, 11, -4294967296, 1999), (20, 10, 0, 7), (19, 8, 459, 66812), (19, 11, -4294967296, 66811), (19, 18, 0, 7), (19, 17, 459, 66763), (19, 15, 0, 63), (19, 13, 459, 522), (18, 17, 459, 66756), (18, 15, 0, 56), (18, 13, 459, 515), (15, 13, 459, 459), (8, 11, -4294967296, -1), (11, 9, -2000, 0), (1, 3, -4294967296, 7), (1, 5, -4294967296, 0), (1, 7, -4294967296, 7), (1, 8, -4294967296, 7), (3, 1, -4294967296, 2000), (3, 5, -4294967296, 2000), (3, 7, -4294967296, 2000), (3, 8, -4294967296, 2000), (5, 1, -4294967296, 0), (5, 3, -4294967296, 7), (5, 7, -4294967296, 7), (5, 8, -4294967296, 7), (7, 1, -4294967296, 7), (7, 3, -4294967296, 7), (7, 5, -4294967296, 7), (7, 8, -4294967296, 7)] : List of_T), n_iv vs q.2.1 + q.2.2.1 ≤ n_iv vs q.1 ∧ n_iv vs q.1 ≤ n_iv vs q.2.1 + q.2.2.2 := hds
  obtain ⟨d0, hds⟩ := List.forall_mem_cons.mp hds
  have d0 : v_iv (n_v vs 8) + 1 ≤ v_iv (n_v vs 22) ∧ v_iv (n_v vs 22) ≤ v_iv (n_v vs 8) + 1 := d0
  obtain ⟨d1, hds⟩ := List.forall_mem_cons.mp hds
  have d1 : v_iv (n_v vs 11) + (-4294967296) ≤ v_iv (n_v vs 22) ∧ v_iv (n_v vs 22) ≤ v_iv (n_v vs 11) + 0 := d1
  obtain ⟨d2, hds⟩ := List.forall_mem_cons.mp hds
  have d2 : v_iv (n_v vs 8) + 0 ≤ v_iv (n_v vs 20) ∧ v_iv (n_v vs 20) ≤ v_iv (n_v vs 8) + 2000 := d2
  obtain ⟨d3, hds⟩ := List.forall_mem_cons.mp hds
  have d3 : v_iv (n_v vs 11) + (-4294967296) ≤ v_iv (n_v vs 20) ∧ v_iv (n_v vs 20) ≤ v_iv (n_v vs 11) + 1999 := d3
  obtain ⟨d4, hds⟩ := List.forall_mem_cons.mp hds
  have d4 : v_iv (n_v vs 10) + 0 ≤ v_iv (n_v vs 20) ∧ v_iv (n_v vs 20) ≤ v_iv (n_v vs 10) + 7 := d4
  obtain ⟨d5, hds⟩ := List.forall_mem_cons.mp hds
  have d5 : v_iv (n_v vs 8) + 459 ≤ v_iv (n_v vs 19) ∧ v_iv (n_v vs 19) ≤ v_iv (n_v vs 8) + 66812 := d5
  obtain ⟨d6, hds⟩ := List.forall_mem_cons.mp hds
  have d6 : v_iv (n_v vs 11) + (-4294967296) ≤ v_iv (n_v vs 19) ∧ v_iv (n_v vs 19) ≤ v_iv (n_v vs 11) + 66811 := d6
  obtain ⟨d7, hds⟩ := List.forall_mem_cons.mp hds
  have d7 : v_iv (n_v vs 18) + 0 ≤ v_iv (n_v vs 19) ∧ v_iv (n_v vs 19) ≤ v_iv (n_v vs 18) + 7 := d7
  obtain ⟨d8, hds⟩ := List.forall_mem_cons.mp hds
  have d8 : v_iv (n_v vs 17) + 459 ≤ v_iv (n_v vs 19) ∧ v_iv (n_v vs 19) ≤ v_iv (n_v vs 17) + 66763 := d8
  obtain ⟨d9, hds⟩ := List.forall_mem_cons.mp hds
  have d9 : v_iv (n_v vs 15) + 0 ≤ v_iv (n_v vs 19) ∧ v_iv (n_v vs 19) ≤ v_iv (n_v vs 15) + 63 := d9
  obtain ⟨d10, hds⟩ := List.forall_mem_cons.mp hds
  have d10 : v_iv (n_v vs 13) + 459 ≤ v_iv (n_v vs 19) ∧ v_iv (n_v vs 19) ≤ v_iv (n_v vs 13) + 522 := d10
  obtain ⟨d11, hds⟩ := List.forall_mem_cons.mp hds
  have d11 : v_iv (n_v vs 17) + 459 ≤ v_iv (n_v vs 18) ∧ v_iv (n_v vs 18) ≤ v_iv (n_v vs 17) + 66756 := d11
  obtain ⟨d12, hds⟩ := List.forall_mem_cons.mp hds
  have d12 : v_iv (n_v vs 15) + 0 ≤ v_iv (n_v vs 18) ∧ v_iv (n_v vs 18) ≤ v_iv (n_v vs 15) + 56 := d12
  obtain ⟨d13, hds⟩ := List.forall_mem_cons.mp hds
  have d13 : v_iv (n_v vs 13) + 459 ≤ v_iv (n_v vs 18) ∧ v_iv (n_v vs 18) ≤ v_iv (n_v vs 13) + 515 := d13
  obtain ⟨d14, hds⟩ := List.forall_mem_cons.mp hds
  have d14 : v_iv (n_v vs 13) + 459 ≤ v_iv (n_v vs 15) ∧ v_iv (n_v vs 15) ≤ v_iv (n_v vs 13) + 459 := d14
  obtain ⟨d15, hds⟩ := List.forall_mem_cons.mp hds
  have d15 : v_iv (n_v vs 11) + (-4294967296) ≤ v_iv (n_v vs 8) ∧ v_iv (n_v vs 8) ≤ v_iv (n_v vs 11) + (-1) := d15
  obtain ⟨d16, hds⟩ := List.forall_mem_cons.mp hds
  have d16 : v_iv (n_v vs 9) + (-2000) ≤ v_iv (n_v vs 11) ∧ v_iv (n_v vs 11) ≤ v_iv (n_v vs 9) + 0 := d16
  obtain ⟨d17, hds⟩ := List.forall_mem_cons.mp hds
  have d17 : v_iv (n_v vs 3) + (-4294967296) ≤ v_iv (n_v vs 1) ∧ v_iv (n_v vs 1) ≤ v_iv (n_v vs 3) + 7 := d17
  obtain ⟨d18, hds⟩ := List.forall_mem_cons.mp hds
  have d18 : v_iv (n_v vs 5) + (-4294967296) ≤ v_iv (n_v vs 1) ∧ v_iv (n_v vs 1) ≤ v_iv (n_v vs 5) + 0 := d18
  obtain ⟨d19, hds⟩ := List.forall_mem_cons.mp hds
  have d19 : v_iv (n_v vs 7) + (-4294967296) ≤ v_iv (n_v vs 1) ∧ v_iv (n_v vs 1) ≤ v_iv (n_v vs 7) + 7 := d19
  obtain ⟨d20, hds⟩ := List.forall_mem_cons.mp hds
  have d20 : v_iv (n_v vs 8) + (-4294967296) ≤ v_iv (n_v vs 1) ∧ v_iv (n_v vs 1) ≤ v_iv (n_v vs 8) + 7 := d20
  obtain ⟨d21, hds⟩ := List.forall_mem_cons.mp hds
  have d21 : v_iv (n_v vs 1) + (-4294967296) ≤ v_iv (n_v vs 3) ∧ v_iv (n_v vs 3) ≤ v_iv (n_v vs 1) + 2000 := d21
  obtain ⟨d22, hds⟩ := List.forall_mem_cons.mp hds
  have d22 : v_iv (n_v vs 5) + (-4294967296) ≤ v_iv (n_v vs 3) ∧ v_iv (n_v vs 3) ≤ v_iv (n_v vs 5) + 2000 := d22
  obtain ⟨d23, hds⟩ := List.forall_mem_cons.mp hds
  have d23 : v_iv (n_v vs 7) + (-4294967296) ≤ v_iv (n_v vs 3) ∧ v_iv (n_v vs 3) ≤ v_iv (n_v vs 7) + 2000 := d23
  obtain ⟨d24, hds⟩ := List.forall_mem_cons.mp hds
  have d24 : v_iv (n_v vs 8) + (-4294967296) ≤ v_iv (n_v vs 3) ∧ v_iv (n_v vs 3) ≤ v_iv (n_v vs 8) + 2000 := d24
  obtain ⟨d25, hds⟩ := List.forall_mem_cons.mp hds
  have d25 : v_iv (n_v vs 1) + (-4294967296) ≤ v_iv (n_v vs 5) ∧ v_iv (n_v vs 5) ≤ v_iv (n_v vs 1) + 0 := d25
  obtain ⟨d26, hds⟩ := List.forall_mem_cons.mp hds
  have d26 : v_iv (n_v vs 3) + (-4294967296) ≤ v_iv (n_v vs 5) ∧ v_iv (n_v vs 5) ≤ v_iv (n_v vs 3) + 7 := d26
  obtain ⟨d27, hds⟩ := List.forall_mem_cons.mp hds
  have d27 : v_iv (n_v vs 7) + (-4294967296) ≤ v_iv (n_v vs 5) ∧ v_iv (n_v vs 5) ≤ v_iv (n_v vs 7) + 7 := d27
  obtain ⟨d28, hds⟩ := List.forall_mem_cons.mp hds
  have d28 : v_iv (n_v vs 8) + (-4294967296) ≤ v_iv (n_v vs 5) ∧ v_iv (n_v vs 5) ≤ v_iv (n_v vs 8) + 7 := d28
  obtain ⟨d29, hds⟩ := List.forall_mem_cons.mp hds
  have d29 : v_iv (n_v vs 1) + (-4294967296) ≤ v_iv (n_v vs 7) ∧ v_iv (n_v vs 7) ≤ v_iv (n_v vs 1) + 7 := d29
  obtain ⟨d30, hds⟩ := List.forall_mem_cons.mp hds
  have d30 : v_iv (n_v vs 3) + (-4294967296) ≤ v_iv (n_v vs 7) ∧ v_iv (n_v vs 7) ≤ v_iv (n_v vs 3) + 7 := d30
  obtain ⟨d31, hds⟩ := List.forall_mem_cons.mp hds
  have d31 : v_iv (n_v vs 5) + (-4294967296) ≤ v_iv (n_v vs 7) ∧ v_iv (n_v vs 7) ≤ v_iv (n_v vs 5) + 7 := d31
  obtain ⟨d32, hds⟩ := List.forall_mem_cons.mp hds
  have d32 : v_iv (n_v vs 8) + (-4294967296) ≤ v_iv (n_v vs 7) ∧ v_iv (n_v vs 7) ≤ v_iv (n_v vs 8) + 7 := d32
  have hf : fc_ok [(6, [22, 8], [1]), (20, [20, 4, 21], [50, 1, 1, 1010, 1001, 4, 11, 0, 6, 4, 2, 1, 0, 0, 1, 2, 1, 10, 1, 2, 1, 2, 9, 5, 3, 1, 1, 1, 0, 0, 256]), (20, [4, 20, 21], [50, 1, 0, 10, 4, 7, 0, 3, 2, 0, 10, 1, 1, 1, 2, 1, 2, 0, -1]), (20, [4, 4], [30, 0, 1, 1, 15, -1, 1, 11]), (20, [4], [50, 3, 0, 12, 11, 15, 2, 21, 4, 7, 1, 3, 2, 0, 12, 0, 1, 0, 3, 2, 0, 11, 4, 3, 2, 0, 15, 0, 8, 3, 7, 1, 3, 2, 0, 12, 0, 0, 0, 7, 4, 3, 2, 0, 15, 0, 1, 2, 0, 11]), (20, [3, 4], [30, -1, 1, 0, 0, -1, 1, 11]), (20, [4], [50, 1, 0, 12, 1, 3, 2, 0, 12, 0, 1]), (23, [5, 7], [-1, 1, -1]), (24, [0, 4], []), (24, [1, 5], []), (100, [12, 19, 21], []), (20, [20, 4, 21], [50, 1, 1, 1010, 1001, 4, 11, 0, 6, 4, 2, 1, 0, 0, 1, 2, 1, 10, 1, 2, 1, 2, 9, 5, 3, 1, 1, 1, 0, 0, 256]), (20, [4, 20, 21], [50, 1, 0, 10, 4, 7, 0, 3, 2, 0, 10, 1, 1, 1, 2, 1, 2, 0, -1]), (1, [20, 10, 8], []), (9, [10, 4], [15]), (1, [19, 18, 8], []), (1, [18, 15, 17], []), (3, [17, 16, 7], []), (1, [15, 13, 14], []), (9, [13, 4], [5]), (9, [12, 4], [2]), (7, [8, 11], [2]), (2, [11, 9, 10], []), (9, [9, 4], [11]), (20, [4, 4], [30, 0, 1, 1, 15, -1, 1, 11]), (20, [4], [50, 3, 0, 12, 11, 15, 2, 21, 4, 7, 1, 3, 2, 0, 12, 0, 1, 0, 3, 2, 0, 11, 4, 3, 2, 0, 15, 0, 8, 3, 7, 1, 3, 2, 0, 12, 0, 0, 0, 7, 4, 3, 2, 0, 15, 0, 1, 2, 0, 11]), (20, [3, 4], [30, -1, 1, 0, 0, -1, 1, 11]), (20, [4], [50, 1, 0, 12, 1, 3, 2, 0, 12, 0, 1]), (20, [7, 4], [50, 1, 1, 1005, 1002, 0, 6, 4, 2, 1, 0, 0, 1, 3, 1, 2, 4, 3, 2, 1, 5, 0, 2]), (23, [5, 7], [-1, 1, -1])] ta ws vs := hf
  obtain ⟨f0, hf⟩ := fc_un (show (6 : Nat) < 100 from by decide) hf
  have f0 : v_iv (n_v vs 22) = v_iv (n_v vs 8) + 1 := f0
  obtain ⟨f1, hf⟩ := fc_un (show (20 : Nat) < 100 from by decide) hf
  have f1 : ((v_iv (n_v vs 20) + 1) ≤ w_fi ws (n_v vs 4) 10) → (v_iv (n_v vs 21) = (w_ei ws (w_ar ws (n_v vs 4) 1) (v_iv (n_v vs 20)) % 256)) := f1
  obtain ⟨f2, hf⟩ := fc_un (show (20 : Nat) < 100 from by decide) hf
  have f2 : (w_fi ws (n_v vs 4) 10 ≤ v_iv (n_v vs 20)) → (v_iv (n_v vs 21) = (-1)) := f2
  obtain ⟨f3, hf⟩ := fc_un (show (20 : Nat) < 100 from by decide) hf
  have f3 : 1 * w_fi ws (n_v vs 4) 15 + ((-1) * w_fi ws (n_v vs 4) 11 + 0) ≤ 0 := f3
  obtain ⟨f4, hf⟩ := fc_un (show (20 : Nat) < 100 from by decide) hf
  have f4 : ((w_fi ws (n_v vs 4) 12 = 1) → (w_fi ws (n_v vs 4) 11 ≤ (w_fi ws (n_v vs 4) 15 + 8))) ∧ ((w_fi ws (n_v vs 4) 12 = 0) ∨ ((w_fi ws (n_v vs 4) 15 + 1) ≤ w_fi ws (n_v vs 4) 11)) := f4
  obtain ⟨f5, hf⟩ := fc_un (show (20 : Nat) < 100 from by decide) hf
  have f5 : 1 * v_iv (n_v vs 3) + ((-1) * w_fi ws (n_v vs 4) 11 + 0) ≤ (-1) := f5
  obtain ⟨f6, hf⟩ := fc_un (show (20 : Nat) < 100 from by decide) hf
  have f6 : w_fi ws (n_v vs 4) 12 = 1 := f6
  obtain ⟨f7, hf⟩ := fc_un (show (23 : Nat) < 100 from by decide) hf
  have f7 : 1 * v_iv (n_v vs 5) + ((-1) * v_iv (n_v vs 7) + 0) ≤ (-1) := f7
  obtain ⟨f8, hf⟩ := fc_un (show (24 : Nat) < 100 from by decide) hf
  have f8 : n_v vs 0 = n_v vs 4 := f8
  obtain ⟨f9, hf⟩ := fc_un (show (24 : Nat) < 100 from by decide) hf
  have f9 : n_v vs 1 = n_v vs 5 := f9
  obtain ⟨ta1, w1, le1, ⟨_, s1⟩, hf⟩ := fc_us (show ¬ (100 : Nat) < 100 from by decide) hf
  have s1 : (∀ b j, w_el ws b j = if b = v_ad (n_v vs 12) ∧ j = (v_iv (n_v vs 19)).toNat then v_iv (n_v vs 21) else w_el w1 b j) ∧ ∀ b k, w_fd ws b k = w_fd w1 b k := s1
  obtain ⟨f11, hf⟩ := fc_un (show (20 : Nat) < 100 from by decide) hf
  have f11 : ((v_iv (n_v vs 20) + 1) ≤ w_fi w1 (n_v vs 4) 10) → (v_iv (n_v vs 21) = (w_ei w1 (w_ar w1 (n_v vs 4) 1) (v_iv (n_v vs 20)) % 256)) := f11
  obtain ⟨f12, hf⟩ := fc_un (show (20 : Nat) < 100 from by decide) hf
  have f12 : (w_fi w1 (n_v vs 4) 10 ≤ v_iv (n_v vs 20)) → (v_iv (n_v vs 21) = (-1)) := f12
  obtain ⟨f13, hf⟩ := fc_un (show (1 : Nat) < 100 from by decide) hf
  have f13 : v_iv (n_v vs 20) = v_iv (n_v vs 10) + v_iv (n_v vs 8) := f13
  obtain ⟨f14, hf⟩ := fc_un (show (9 : Nat) < 100 from by decide) hf
  have f14 : n_v vs 10 = w_fd w1 (v_ad (n_v vs 4)) 15 := f14
  obtain ⟨f15, hf⟩ := fc_un (show (1 : Nat) < 100 from by decide) hf
  have f15 : v_iv (n_v vs 19) = v_iv (n_v vs 18) + v_iv (n_v vs 8) := f15
  obtain ⟨f16, hf⟩ := fc_un (show (1 : Nat) < 100 from by decide) hf
  have f16 : v_iv (n_v vs 18) = v_iv (n_v vs 15) + v_iv (n_v vs 17) := f16
  obtain ⟨f17, hf⟩ := fc_un (show (3 : Nat) < 100 from by decide) hf
  have f17 : v_iv (n_v vs 17) = v_iv (n_v vs 16) * v_iv (n_v vs 7) := f17
  rw [show v_iv (n_v vs 16) = 8 from by omega] at f17
  obtain ⟨f18, hf⟩ := fc_un (show (1 : Nat) < 100 from by decide) hf
  have f18 : v_iv (n_v vs 15) = v_iv (n_v vs 13) + v_iv (n_v vs 14) := f18
  obtain ⟨f19, hf⟩ := fc_un (show (9 : Nat) < 100 from by decide) hf
  have f19 : n_v vs 13 = w_fd w1 (v_ad (n_v vs 4)) 5 := f19
  obtain ⟨f20, hf⟩ := fc_un (show (9 : Nat) < 100 from by decide) hf
  have f20 : n_v vs 12 = w_fd w1 (v_ad (n_v vs 4)) 2 := f20
  obtain ⟨f21, hf⟩ := fc_un (show (7 : Nat) < 100 from by decide) hf
  have f21 : v_iv (n_v vs 8) < v_iv (n_v vs 11) := f21
  obtain ⟨f22, hf⟩ := fc_un (show (2 : Nat) < 100 from by decide) hf
  have f22 : v_iv (n_v vs 11) = v_iv (n_v vs 9) - v_iv (n_v vs 10) := f22
  obtain ⟨f23, hf⟩ := fc_un (show (9 : Nat) < 100 from by decide) hf
  have f23 : n_v vs 9 = w_fd w1 (v_ad (n_v vs 4)) 11 := f23
  obtain ⟨f24, hf⟩ := fc_un (show (20 : Nat) < 100 from by decide) hf
  have f24 : 1 * w_fi w1 (n_v vs 4) 15 + ((-1) * w_fi w1 (n_v vs 4) 11 + 0) ≤ 0 := f24
  obtain ⟨f25, hf⟩ := fc_un (show (20 : Nat) < 100 from by decide) hf
  have f25 : ((w_fi w1 (n_v vs 4) 12 = 1) → (w_fi w1 (n_v vs 4) 11 ≤ (w_fi w1 (n_v vs 4) 15 + 8))) ∧ ((w_fi w1 (n_v vs 4) 12 = 0) ∨ ((w_fi w1 (n_v vs 4) 15 + 1) ≤ w_fi w1 (n_v vs 4) 11)) := f25
  obtain ⟨f26, hf⟩ := fc_un (show (20 : Nat) < 100 from by decide) hf
  have f26 : 1 * v_iv (n_v vs 3) + ((-1) * w_fi w1 (n_v vs 4) 11 + 0) ≤ (-1) := f26
  obtain ⟨f27, hf⟩ := fc_un (show (20 : Nat) < 100 from by decide) hf
  have f27 : w_fi w1 (n_v vs 4) 12 = 1 := f27
  obtain ⟨f28, hf⟩ := fc_un (show (20 : Nat) < 100 from by decide) hf
  have f28 : (v_iv (n_v vs 7) + 1) ≤ w_ei w1 (w_ar w1 (n_v vs 4) 2) ((w_fi w1 (n_v vs 4) 5 + 2)) := f28
  obtain ⟨f29, hf⟩ := fc_un (show (23 : Nat) < 100 from by decide) hf
  have f29 : 1 * v_iv (n_v vs 5) + ((-1) * v_iv (n_v vs 7) + 0) ≤ (-1) := f29
  have q4 : n_v vs 4 = n_v vs 0 := f8.symm
  have q5 : n_v vs 5 = n_v vs 1 := f9.symm
  rw [q4] at f1
  rw [q4] at f2
  rw [q4] at f3
  rw [q4] at f4
  rw [q4] at f5
  rw [q4] at f6
  rw [q5] at f7
  rw [q4] at f11
  rw [q4] at f12
  rw [q4] at f14
  rw [q4] at f19
  rw [q4] at f20
  rw [q4] at f23
  rw [q4] at f24
  rw [q4] at f25
  rw [q4] at f26
  rw [q4] at f27
  rw [q4] at f28
  rw [q5] at f29
  have ar_0_1_1 : w_ar w1 (n_v vs 0) 1 = w_ar ws (n_v vs 0) 1 := by show v_ad (w_fd w1 _ _) = v_ad (w_fd ws _ _); rw [s1.2]
  have cr_0_1 : ta (w_ar ws (n_v vs 0) 1) = some 151 := tv_rg (th_fd hD hth r0 (g := GG_150) rfl (k := 1) (t := (2, 0, 0, [151])) rfl rfl)
  have ar_0_2_1 : w_ar w1 (n_v vs 0) 2 = w_ar ws (n_v vs 0) 2 := by show v_ad (w_fd w1 _ _) = v_ad (w_fd ws _ _); rw [s1.2]
  have cr_0_2 : ta (w_ar ws (n_v vs 0) 2) = some 152 := tv_rg (th_fd hD hth r0 (g := GG_150) rfl (k := 2) (t := (2, 0, 0, [152])) rfl rfl)
  have ad_12 : v_ad (n_v vs 12) = w_ar ws (n_v vs 0) 2 := (congrArg v_ad f20).trans ar_0_2_1
  rw [ar_0_1_1] at f11
  have g14 : v_iv (n_v vs 10) = w_fi w1 (n_v vs 0) 15 := congrArg v_iv f14
  have g19 : v_iv (n_v vs 13) = w_fi w1 (n_v vs 0) 5 := congrArg v_iv f19
  have g23 : v_iv (n_v vs 9) = w_fi w1 (n_v vs 0) 11 := congrArg v_iv f23
  rw [ar_0_2_1] at f28
  have fe_0_5_1 : w_fi ws (n_v vs 0) 5 = w_fi w1 (n_v vs 0) 5 := congrArg v_iv (s1.2 _ _)
  have fe_0_10_1 : w_fi ws (n_v vs 0) 10 = w_fi w1 (n_v vs 0) 10 := congrArg v_iv (s1.2 _ _)
  have fe_0_11_1 : w_fi ws (n_v vs 0) 11 = w_fi w1 (n_v vs 0) 11 := congrArg v_iv (s1.2 _ _)
  have fe_0_12_1 : w_fi ws (n_v vs 0) 12 = w_fi w1 (n_v vs 0) 12 := congrArg v_iv (s1.2 _ _)
  have fe_0_15_1 : w_fi ws (n_v vs 0) 15 = w_fi w1 (n_v vs 0) 15 := congrArg v_iv (s1.2 _ _)
  have hE_0_1_1 : ∀ j : Int, w_ei ws (w_ar ws (n_v vs 0) 1) j = w_ei w1 (w_ar ws (n_v vs 0) 1) j := fun j => by unfold w_ei; rw [s1.1, if_neg (fun e => by have e1 := e.1; rw [← e1] at r12; rw [cr_0_1] at r12; exact absurd (Option.some.inj r12) (by decide))]
  have hK_0_1 : ∀ j : Int, 0 ≤ j → j < 2000 → (-128) ≤ w_ei ws (w_ar ws (n_v vs 0) 1) j ∧ w_ei ws (w_ar ws (n_v vs 0) 1) j ≤ 127 := fun j h0 h1 => th_el hD hth cr_0_1 (kd := 1) (n := 2000) (m := 2000) (lo := (-128)) (hi := 127) (rs := []) (L := []) rfl (by decide) (j := j.toNat) (by omega)
  have hE_0_2_1 : ∀ j : Int, 0 ≤ j → (j = v_iv (n_v vs 19) → w_ei ws (w_ar ws (n_v vs 0) 2) j = v_iv (n_v vs 21)) ∧ (j ≠ v_iv (n_v vs 19) → w_ei ws (w_ar ws (n_v vs 0) 2) j = w_ei w1 (w_ar ws (n_v vs 0) 2) j) := fun j hj => ⟨fun h => by unfold w_ei; rw [s1.1, if_pos ⟨ad_12.symm, by rw [h]⟩], fun h => by unfold w_ei; rw [s1.1, if_neg (fun e => h (by have := e.2; omega))]⟩
  have kz_0_10 : 0 ≤ w_fi ws (n_v vs 0) 10 ∧ w_fi ws (n_v vs 0) 10 ≤ 2000 := tv_rng (th_fd hD hth r0 (g := GG_150) rfl (k := 10) (t := (0, 0, 2000, [])) rfl rfl)
  have kz_0_11 : 0 ≤ w_fi ws (n_v vs 0) 11 ∧ w_fi ws (n_v vs 0) 11 ≤ 2000 := tv_rng (th_fd hD hth r0 (g := GG_150) rfl (k := 11) (t := (0, 0, 2000, [])) rfl rfl)
  have kz_0_12 : 0 ≤ w_fi ws (n_v vs 0) 12 ∧ w_fi ws (n_v vs 0) 12 ≤ 4 := tv_rng (th_fd hD hth r0 (g := GG_150) rfl (k := 12) (t := (0, 0, 4, [])) rfl rfl)
  have kz_0_15 : 0 ≤ w_fi ws (n_v vs 0) 15 ∧ w_fi ws (n_v vs 0) 15 ≤ 2000 := tv_rng (th_fd hD hth r0 (g := GG_150) rfl (k := 15) (t := (0, 0, 2000, [])) rfl rfl)
  first | have hJ0 : w_ei w1 (w_ar ws (n_v vs 0) 2) ((w_fi w1 (n_v vs 0) 5 + 2)) = w_ei w1 (w_ar ws (n_v vs 0) 2) ((w_fi ws (n_v vs 0) 5 + 2)) := congrArg _ (show ((w_fi w1 (n_v vs 0) 5 + 2) : Int) = (w_fi ws (n_v vs 0) 5 + 2) from by omega) | skip
  have hI1 := hE_0_1_1 (v_iv (n_v vs 20))
  first | have hI2 := (hE_0_2_1 ((w_fi ws (n_v vs 0) 5 + 2)) (by omega)).2 (by omega) | have hI2 := (hE_0_2_1 ((w_fi ws (n_v vs 0) 5 + 2)) (by omega)).1 (by omega) | skip
  have nf0 : fc_1 (20, [7, 4], [50, 1, 1, 1005, 1002, 0, 6, 4, 2, 1, 0, 0, 1, 3, 1, 2, 4, 3, 2, 1, 5, 0, 2]) ws (vs) := by
    refine ⟨fun n hn => ?_, ?_⟩
    · have hn : n ∈ [7, 4] := hn
      rw [hl]
      simp only [List.mem_cons, List.not_mem_nil, or_false] at hn
      show n < 23; omega
    · show (v_iv (n_v vs 7) + 1) ≤ w_ei ws (w_ar ws (n_v vs 4) 2) ((w_fi ws (n_v vs 4) 5 + 2))
      rw [q4]
      first | omega | grind
  refine ⟨(fun _ h => (by cases h)), [], trivial, ?_, (fun _ h => (by cases h))⟩
  rw [List.append_nil]
  exact List.forall_mem_cons.mpr ⟨⟨show (20 : Nat) < 100 from by decide, nf0⟩, (fun _ h => (by cases h))⟩
def o_Mo_groupItem_at_k2_15 : or_T := (153, 22, [(7, (0, 0, 7, [])), (8, (0, 0, 7, [])), (13, (5, 0, 66297, [539])), (14, (0, 459, 459, [])), (15, (0, 459, 66756, [])), (16, (0, 8, 8, [])), (17, (0, 0, 56, [])), (18, (0, 459, 66812, [])), (19, (0, 459, 66819, [])), (21, (0, 0, 255, []))], [(1, [19, 18, 8], []), (1, [18, 15, 17], []), (3, [17, 16, 7], []), (1, [15, 13, 14], [])], [], [], [(18, [19, 21], [1])], [], [(19, 8, 459, 66812), (19, 18, 0, 7), (19, 17, 459, 66763), (19, 15, 0, 63), (19, 13, 459, 522), (18, 17, 459, 66756), (18, 15, 0, 56), (18, 13, 459, 515), (15, 13, 459, 459), (7, 8, -4294967296, 7)])
theorem oo_Mo_groupItem_at_k2_15 {kA : Nat → ClassId} : or_ok kA GG o_Mo_groupItem_at_k2_15 := by
  intro A ta ws vs hD hth hl hk hds hf
  have hl : vs.length = 22 := hl
  have hk : ∀ q ∈ ([(7, (0, 0, 7, [])), (8, (0, 0, 7, [])), (13, (5, 0, 66297, [539])), (14, (0, 459, 459, [])), (15, (0, 459, 66756, [])), (16, (0, 8, 8, [])), (17, (0, 0, 56, [])), (18, (0, 459, 66812, [])), (19, (0, 459, 66819, [])), (21, (0, 0, 255, []))] : List (Nat × tv_T)), tv_ok ta q.2 (n_v vs q.1) := hk
  obtain ⟨t7, hk⟩ := List.forall_mem_cons.mp hk
  have t7 : tv_ok ta (0, 0, 7, []) (n_v vs 7) := t7
  have k7 : 0 ≤ v_iv (n_v vs 7) ∧ v_iv (n_v vs 7) ≤ 7 := tv_rng t7
  obtain ⟨t8, hk⟩ := List.forall_mem_cons.mp hk
  have t8 : tv_ok ta (0, 0, 7, []) (n_v vs 8) := t8
  have k8 : 0 ≤ v_iv (n_v vs 8) ∧ v_iv (n_v vs 8) ≤ 7 := tv_rng t8
  obtain ⟨t13, hk⟩ := List.forall_mem_cons.mp hk
  have t13 : tv_ok ta (5, 0, 66297, [539]) (n_v vs 13) := t13
  obtain ⟨k13, q13_⟩ : (0 ≤ v_iv (n_v vs 13) ∧ v_iv (n_v vs 13) ≤ 66297) ∧ ∃ q : Int, v_iv (n_v vs 13) = 539 * q := tv_dvk t13
  obtain ⟨q13, hq13⟩ := q13_
  obtain ⟨t14, hk⟩ := List.forall_mem_cons.mp hk
  have t14 : tv_ok ta (0, 459, 459, []) (n_v vs 14) := t14
  have k14 : 459 ≤ v_iv (n_v vs 14) ∧ v_iv (n_v vs 14) ≤ 459 := tv_rng t14
  obtain ⟨t15, hk⟩ := List.forall_mem_cons.mp hk
  have t15 : tv_ok ta (0, 459, 66756, []) (n_v vs 15) := t15
  have k15 : 459 ≤ v_iv (n_v vs 15) ∧ v_iv (n_v vs 15) ≤ 66756 := tv_rng t15
  obtain ⟨t16, hk⟩ := List.forall_mem_cons.mp hk
  have t16 : tv_ok ta (0, 8, 8, []) (n_v vs 16) := t16
  have k16 : 8 ≤ v_iv (n_v vs 16) ∧ v_iv (n_v vs 16) ≤ 8 := tv_rng t16
  obtain ⟨t17, hk⟩ := List.forall_mem_cons.mp hk
  have t17 : tv_ok ta (0, 0, 56, []) (n_v vs 17) := t17
  have k17 : 0 ≤ v_iv (n_v vs 17) ∧ v_iv (n_v vs 17) ≤ 56 := tv_rng t17
  obtain ⟨t18, hk⟩ := List.forall_mem_cons.mp hk
  have t18 : tv_ok ta (0, 459, 66812, []) (n_v vs 18) := t18
  have k18 : 459 ≤ v_iv (n_v vs 18) ∧ v_iv (n_v vs 18) ≤ 66812 := tv_rng t18
  obtain ⟨t19, hk⟩ := List.forall_mem_cons.mp hk
  have t19 : tv_ok ta (0, 459, 66819, []) (n_v vs 19) := t19
  have k19 : 459 ≤ v_iv (n_v vs 19) ∧ v_iv (n_v vs 19) ≤ 66819 := tv_rng t19
  obtain ⟨t21, hk⟩ := List.forall_mem_cons.mp hk
  have t21 : tv_ok ta (0, 0, 255, []) (n_v vs 21) := t21
  have k21 : 0 ≤ v_iv (n_v vs 21) ∧ v_iv (n_v vs 21) ≤ 255 := tv_rng t21
  have hds : ∀ q ∈ ([(19, 8, 459, 66812), (19, 18, 0, 7), (19, 17, 459, 66763), (19, 15, 0, 63), (19, 13, 459, 522), (18, 17, 459, 66756), (18, 15, 0, 56), (18, 13, 459, 515), (15, 13, 459, 459), (7, 8, -4294967296, 7)] : List of_T), n_iv vs q.2.1 + q.2.2.1 ≤ n_iv vs q.1 ∧ n_iv vs q.1 ≤ n_iv vs q.2.1 + q.2.2.2 := hds
  obtain ⟨d0, hds⟩ := List.forall_mem_cons.mp hds
  have d0 : v_iv (n_v vs 8) + 459 ≤ v_iv (n_v vs 19) ∧ v_iv (n_v vs 19) ≤ v_iv (n_v vs 8) + 66812 := d0
  obtain ⟨d1, hds⟩ := List.forall_mem_cons.mp hds
  have d1 : v_iv (n_v vs 18) + 0 ≤ v_iv (n_v vs 19) ∧ v_iv (n_v vs 19) ≤ v_iv (n_v vs 18) + 7 := d1
  obtain ⟨d2, hds⟩ := List.forall_mem_cons.mp hds
  have d2 : v_iv (n_v vs 17) + 459 ≤ v_iv (n_v vs 19) ∧ v_iv (n_v vs 19) ≤ v_iv (n_v vs 17) + 66763 := d2
  obtain ⟨d3, hds⟩ := List.forall_mem_cons.mp hds
  have d3 : v_iv (n_v vs 15) + 0 ≤ v_iv (n_v vs 19) ∧ v_iv (n_v vs 19) ≤ v_iv (n_v vs 15) + 63 := d3
  obtain ⟨d4, hds⟩ := List.forall_mem_cons.mp hds
  have d4 : v_iv (n_v vs 13) + 459 ≤ v_iv (n_v vs 19) ∧ v_iv (n_v vs 19) ≤ v_iv (n_v vs 13) + 522 := d4
  obtain ⟨d5, hds⟩ := List.forall_mem_cons.mp hds
  have d5 : v_iv (n_v vs 17) + 459 ≤ v_iv (n_v vs 18) ∧ v_iv (n_v vs 18) ≤ v_iv (n_v vs 17) + 66756 := d5
  obtain ⟨d6, hds⟩ := List.forall_mem_cons.mp hds
  have d6 : v_iv (n_v vs 15) + 0 ≤ v_iv (n_v vs 18) ∧ v_iv (n_v vs 18) ≤ v_iv (n_v vs 15) + 56 := d6
  obtain ⟨d7, hds⟩ := List.forall_mem_cons.mp hds
  have d7 : v_iv (n_v vs 13) + 459 ≤ v_iv (n_v vs 18) ∧ v_iv (n_v vs 18) ≤ v_iv (n_v vs 13) + 515 := d7
  obtain ⟨d8, hds⟩ := List.forall_mem_cons.mp hds
  have d8 : v_iv (n_v vs 13) + 459 ≤ v_iv (n_v vs 15) ∧ v_iv (n_v vs 15) ≤ v_iv (n_v vs 13) + 459 := d8
  obtain ⟨d9, hds⟩ := List.forall_mem_cons.mp hds
  have d9 : v_iv (n_v vs 8) + (-4294967296) ≤ v_iv (n_v vs 7) ∧ v_iv (n_v vs 7) ≤ v_iv (n_v vs 8) + 7 := d9
  have hf : fc_ok [(1, [19, 18, 8], []), (1, [18, 15, 17], []), (3, [17, 16, 7], []), (1, [15, 13, 14], [])] ta ws vs := hf
  obtain ⟨f0, hf⟩ := fc_un (show (1 : Nat) < 100 from by decide) hf
  have f0 : v_iv (n_v vs 19) = v_iv (n_v vs 18) + v_iv (n_v vs 8) := f0
  obtain ⟨f1, hf⟩ := fc_un (show (1 : Nat) < 100 from by decide) hf
  have f1 : v_iv (n_v vs 18) = v_iv (n_v vs 15) + v_iv (n_v vs 17) := f1
  obtain ⟨f2, hf⟩ := fc_un (show (3 : Nat) < 100 from by decide) hf
  have f2 : v_iv (n_v vs 17) = v_iv (n_v vs 16) * v_iv (n_v vs 7) := f2
  rw [show v_iv (n_v vs 16) = 8 from by omega] at f2
  obtain ⟨f3, hf⟩ := fc_un (show (1 : Nat) < 100 from by decide) hf
  have f3 : v_iv (n_v vs 15) = v_iv (n_v vs 13) + v_iv (n_v vs 14) := f3
  have nf0 : fc_1 (18, [19, 21], [1]) ws (vs) := by
    refine ⟨fun n hn => ?_, ?_⟩
    · have hn : n ∈ [19, 21] := hn
      rw [hl]
      simp only [List.mem_cons, List.not_mem_nil, or_false] at hn
      show n < 22; omega
    · show pl_ok 1 (v_iv (n_v vs 19)).toNat (v_iv (n_v vs 21))
      exact pl_in pl_M1 (lo := 459) (hi := 522) (a := 0) (b := 255) (by decide +kernel) (by omega) (by omega) (by omega) (by omega)
  refine ⟨(fun _ h => (by cases h)), [], trivial, ?_, (fun _ h => (by cases h))⟩
  rw [List.append_nil]
  exact List.forall_mem_cons.mpr ⟨⟨show (18 : Nat) < 100 from by decide, nf0⟩, (fun _ h => (by cases h))⟩
def o_Mo_groupItem_at_k2_16 : or_T := (108, 23, [(0, (2, 0, 0, [150])), (1, (0, 0, 7, [])), (3, (0, 0, 2000, [])), (4, (2, 0, 0, [150])), (5, (0, 0, 7, [])), (7, (0, 0, 7, [])), (8, (0, 0, 7, [])), (9, (0, 1, 2000, [])), (10, (0, 0, 1999, [])), (11, (0, 1, 2000, [])), (12, (2, 0, 0, [152])), (13, (0, 0, 66297, [])), (14, (0, 459, 459, [])), (15, (0, 459, 66756, [])), (16, (0, 8, 8, [])), (17, (0, 0, 56, [])), (18, (0, 459, 66812, [])), (19, (0, 459, 66819, [])), (20, (0, 0, 1999, [])), (21, (0, 0, 255, [])), (22, (0, 1, 8, []))], [(6, [22, 8], [1]), (20, [20, 4, 21], [50, 1, 1, 1010, 1001, 4, 11, 0, 6, 4, 2, 1, 0, 0, 1, 2, 1, 10, 1, 2, 1, 2, 9, 5, 3, 1, 1, 1, 0, 0, 256]), (20, [4, 20, 21], [50, 1, 0, 10, 4, 7, 0, 3, 2, 0, 10, 1, 1, 1, 2, 1, 2, 0, -1]), (20, [4, 4], [30, 0, 1, 1, 15, -1, 1, 11]), (20, [4], [50, 3, 0, 12, 11, 15, 2, 21, 4, 7, 1, 3, 2, 0, 12, 0, 1, 0, 3, 2, 0, 11, 4, 3, 2, 0, 15, 0, 8, 3, 7, 1, 3, 2, 0, 12, 0, 0, 0, 7, 4, 3, 2, 0, 15, 0, 1, 2, 0, 11]), (20, [3, 4], [30, -1, 1, 0, 0, -1, 1, 11]), (20, [4], [50, 1, 0, 12, 1, 3, 2, 0, 12, 0, 1]), (23, [5, 7], [-1, 1, -1]), (24, [0, 4], []), (24, [1, 5], []), (100, [12, 19, 21], []), (20, [20, 4, 21], [50, 1, 1, 1010, 1001, 4, 11, 0, 6, 4, 2, 1, 0, 0, 1, 2, 1, 10, 1, 2, 1, 2, 9, 5, 3, 1, 1, 1, 0, 0, 256]), (20, [4, 20, 21], [50, 1, 0, 10, 4, 7, 0, 3, 2, 0, 10, 1, 1, 1, 2, 1, 2, 0, -1]), (1, [20, 10, 8], []), (9, [10, 4], [15]), (1, [19, 18, 8], []), (1, [18, 15, 17], []), (3, [17, 16, 7], []), (1, [15, 13, 14], []), (9, [13, 4], [5]), (9, [12, 4], [2]), (7, [8, 11], [2]), (2, [11, 9, 10], []), (9, [9, 4], [11]), (20, [4, 4], [30, 0, 1, 1, 15, -1, 1, 11]), (20, [4], [50, 3, 0, 12, 11, 15, 2, 21, 4, 7, 1, 3, 2, 0, 12, 0, 1, 0, 3, 2, 0, 11, 4, 3, 2, 0, 15, 0, 8, 3, 7, 1, 3, 2, 0, 12, 0, 0, 0, 7, 4, 3, 2, 0, 15, 0, 1, 2, 0, 11]), (20, [3, 4], [30, -1, 1, 0, 0, -1, 1, 11]), (20, [4], [50, 1, 0, 12, 1, 3, 2, 0, 12, 0, 1]), (20, [7, 4], [50, 1, 1, 1005, 1002, 0, 6, 4, 2, 1, 0, 0, 1, 3, 1, 2, 4, 3, 2, 1, 5, 0, 2]), (23, [5, 7], [-1, 1, -1])], [], [], [(20, [7, 4], [50, 1, 1, 1005, 1002, 0, 6, 4, 2, 1, 0, 0, 1, 3, 1, 2, 4, 3, 2, 1, 5, 0, 2])], [], [(22, 8, 1, 1), (22, 11, -4294967296, 0), (20, 8, 0, 2000), (20, 11, -4294967296, 1999), (20, 10, 0, 7), (19, 8, 459, 66812), (19, 11, -4294967296, 66811), (19, 18, 0, 7), (19, 17, 459, 66763), (19, 15, 0, 63), (19, 13, 459, 522), (18, 17, 459, 66756), (18, 15, 0, 56), (18, 13, 459, 515), (15, 13, 459, 459), (8, 11, -4294967296, -1), (11, 9, -2000, 0), (1, 3, -4294967296, 7), (1, 5, -4294967296, 0), (1, 7, -4294967296, 7), (1, 8, -4294967296, 7), (3, 1, -4294967296, 2000), (3, 5, -4294967296, 2000), (3, 7, -4294967296, 2000), (3, 8, -4294967296, 2000), (5, 1, -4294967296, 0), (5, 3, -4294967296, 7), (5, 7, -4294967296, 7), (5, 8, -4294967296, 7), (7, 1, -4294967296, 7), (7, 3, -4294967296, 7), (7, 5, -4294967296, 7), (7, 8, -4294967296, 7)])
theorem oo_Mo_groupItem_at_k2_16 {kA : Nat → ClassId} : or_ok kA GG o_Mo_groupItem_at_k2_16 := by
  intro A ta ws vs hD hth hl hk hds hf
  have hl : vs.length = 23 := hl
  have hk : ∀ q ∈ ([(0, (2, 0, 0, [150])), (1, (0, 0, 7, [])), (3, (0, 0, 2000, [])), (4, (2, 0, 0, [150])), (5, (0, 0, 7, [])), (7, (0, 0, 7, [])), (8, (0, 0, 7, [])), (9, (0, 1, 2000, [])), (10, (0, 0, 1999, [])), (11, (0, 1, 2000, [])), (12, (2, 0, 0, [152])), (13, (0, 0, 66297, [])), (14, (0, 459, 459, [])), (15, (0, 459, 66756, [])), (16, (0, 8, 8, [])), (17, (0, 0, 56, [])), (18, (0, 459, 66812, [])), (19, (0, 459, 66819, [])), (20, (0, 0, 1999, [])), (21, (0, 0, 255, [])), (22, (0, 1, 8, []))] : List (Nat × tv_T)), tv_ok ta q.2 (n_v vs q.1) := hk
  obtain ⟨t0, hk⟩ := List.forall_mem_cons.mp hk
  have t0 : tv_ok ta (2, 0, 0, [150]) (n_v vs 0) := t0
  have r0 : ta (v_ad (n_v vs 0)) = some 150 := tv_rg t0
  obtain ⟨t1, hk⟩ := List.forall_mem_cons.mp hk
  have t1 : tv_ok ta (0, 0, 7, []) (n_v vs 1) := t1
  have k1 : 0 ≤ v_iv (n_v vs 1) ∧ v_iv (n_v vs 1) ≤ 7 := tv_rng t1
  obtain ⟨t3, hk⟩ := List.forall_mem_cons.mp hk
  have t3 : tv_ok ta (0, 0, 2000, []) (n_v vs 3) := t3
  have k3 : 0 ≤ v_iv (n_v vs 3) ∧ v_iv (n_v vs 3) ≤ 2000 := tv_rng t3
  obtain ⟨t4, hk⟩ := List.forall_mem_cons.mp hk
  have t4 : tv_ok ta (2, 0, 0, [150]) (n_v vs 4) := t4
  have r4 : ta (v_ad (n_v vs 4)) = some 150 := tv_rg t4
  obtain ⟨t5, hk⟩ := List.forall_mem_cons.mp hk
  have t5 : tv_ok ta (0, 0, 7, []) (n_v vs 5) := t5
  have k5 : 0 ≤ v_iv (n_v vs 5) ∧ v_iv (n_v vs 5) ≤ 7 := tv_rng t5
  obtain ⟨t7, hk⟩ := List.forall_mem_cons.mp hk
  have t7 : tv_ok ta (0, 0, 7, []) (n_v vs 7) := t7
  have k7 : 0 ≤ v_iv (n_v vs 7) ∧ v_iv (n_v vs 7) ≤ 7 := tv_rng t7
  obtain ⟨t8, hk⟩ := List.forall_mem_cons.mp hk
  have t8 : tv_ok ta (0, 0, 7, []) (n_v vs 8) := t8
  have k8 : 0 ≤ v_iv (n_v vs 8) ∧ v_iv (n_v vs 8) ≤ 7 := tv_rng t8
  obtain ⟨t9, hk⟩ := List.forall_mem_cons.mp hk
  have t9 : tv_ok ta (0, 1, 2000, []) (n_v vs 9) := t9
  have k9 : 1 ≤ v_iv (n_v vs 9) ∧ v_iv (n_v vs 9) ≤ 2000 := tv_rng t9
  obtain ⟨t10, hk⟩ := List.forall_mem_cons.mp hk
  have t10 : tv_ok ta (0, 0, 1999, []) (n_v vs 10) := t10
  have k10 : 0 ≤ v_iv (n_v vs 10) ∧ v_iv (n_v vs 10) ≤ 1999 := tv_rng t10
  obtain ⟨t11, hk⟩ := List.forall_mem_cons.mp hk
  have t11 : tv_ok ta (0, 1, 2000, []) (n_v vs 11) := t11
  have k11 : 1 ≤ v_iv (n_v vs 11) ∧ v_iv (n_v vs 11) ≤ 2000 := tv_rng t11
  obtain ⟨t12, hk⟩ := List.forall_mem_cons.mp hk
  have t12 : tv_ok ta (2, 0, 0, [152]) (n_v vs 12) := t12
  have r12 : ta (v_ad (n_v vs 12)) = some 152 := tv_rg t12
  obtain ⟨t13, hk⟩ := List.forall_mem_cons.mp hk
  have t13 : tv_ok ta (0, 0, 66297, []) (n_v vs 13) := t13
  have k13 : 0 ≤ v_iv (n_v vs 13) ∧ v_iv (n_v vs 13) ≤ 66297 := tv_rng t13
  obtain ⟨t14, hk⟩ := List.forall_mem_cons.mp hk
  have t14 : tv_ok ta (0, 459, 459, []) (n_v vs 14) := t14
  have k14 : 459 ≤ v_iv (n_v vs 14) ∧ v_iv (n_v vs 14) ≤ 459 := tv_rng t14
  obtain ⟨t15, hk⟩ := List.forall_mem_cons.mp hk
  have t15 : tv_ok ta (0, 459, 66756, []) (n_v vs 15) := t15
  have k15 : 459 ≤ v_iv (n_v vs 15) ∧ v_iv (n_v vs 15) ≤ 66756 := tv_rng t15
  obtain ⟨t16, hk⟩ := List.forall_mem_cons.mp hk
  have t16 : tv_ok ta (0, 8, 8, []) (n_v vs 16) := t16
  have k16 : 8 ≤ v_iv (n_v vs 16) ∧ v_iv (n_v vs 16) ≤ 8 := tv_rng t16
  obtain ⟨t17, hk⟩ := List.forall_mem_cons.mp hk
  have t17 : tv_ok ta (0, 0, 56, []) (n_v vs 17) := t17
  have k17 : 0 ≤ v_iv (n_v vs 17) ∧ v_iv (n_v vs 17) ≤ 56 := tv_rng t17
  obtain ⟨t18, hk⟩ := List.forall_mem_cons.mp hk
  have t18 : tv_ok ta (0, 459, 66812, []) (n_v vs 18) := t18
  have k18 : 459 ≤ v_iv (n_v vs 18) ∧ v_iv (n_v vs 18) ≤ 66812 := tv_rng t18
  obtain ⟨t19, hk⟩ := List.forall_mem_cons.mp hk
  have t19 : tv_ok ta (0, 459, 66819, []) (n_v vs 19) := t19
  have k19 : 459 ≤ v_iv (n_v vs 19) ∧ v_iv (n_v vs 19) ≤ 66819 := tv_rng t19
  obtain ⟨t20, hk⟩ := List.forall_mem_cons.mp hk
  have t20 : tv_ok ta (0, 0, 1999, []) (n_v vs 20) := t20
  have k20 : 0 ≤ v_iv (n_v vs 20) ∧ v_iv (n_v vs 20) ≤ 1999 := tv_rng t20
  obtain ⟨t21, hk⟩ := List.forall_mem_cons.mp hk
  have t21 : tv_ok ta (0, 0, 255, []) (n_v vs 21) := t21
  have k21 : 0 ≤ v_iv (n_v vs 21) ∧ v_iv (n_v vs 21) ≤ 255 := tv_rng t21
  obtain ⟨t22, hk⟩ := List.forall_mem_cons.mp hk
  have t22 : tv_ok ta (0, 1, 8, []) (n_v vs 22) := t22
  have k22 : 1 ≤ v_iv (n_v vs 22) ∧ v_iv (n_v vs 22) ≤ 8 := tv_rng t22
  have hds : ∀ q ∈ ([(22, 8, 1, 1), (22, 11, -4294967296, 0), (20, 8, 0, 2000), (20, 11, -4294967296, 1999), (20, 10, 0, 7), (19, 8, 459, 66812), (19, 11, -4294967296, 66811), (19, 18, 0, 7), (19, 17, 459, 66763), (19, 15, 0, 63), (19, 13, 459, 522), (18, 17, 459, 66756), (18, 15, 0, 56), (18, 13, 459, 515), (15, 13, 459, 459), (8, 11, -4294967296, -1), (11, 9, -2000, 0), (1, 3, -4294967296, 7), (1, 5, -4294967296, 0), (1, 7, -4294967296, 7), (1, 8, -4294967296, 7), (3, 1, -4294967296, 2000), (3, 5, -4294967296, 2000), (3, 7, -4294967296, 2000), (3, 8, -4294967296, 2000), (5, 1, -4294967296, 0), (5, 3, -4294967296, 7), (5, 7, -4294967296, 7), (5, 8, -4294967296, 7), (7, 1, -4294967296, 7), (7, 3, -4294967296, 7), (7, 5, -4294967296, 7), (7, 8, -4294967296, 7)] : List of_T), n_iv vs q.2.1 + q.2.2.1 ≤ n_iv vs q.1 ∧ n_iv vs q.1 ≤ n_iv vs q.2.1 + q.2.2.2 := hds
  obtain ⟨d0, hds⟩ := List.forall_mem_cons.mp hds
  have d0 : v_iv (n_v vs 8) + 1 ≤ v_iv (n_v vs 22) ∧ v_iv (n_v vs 22) ≤ v_iv (n_v vs 8) + 1 := d0
  obtain ⟨d1, hds⟩ := List.forall_mem_cons.mp hds
  have d1 : v_iv (n_v vs 11) + (-4294967296) ≤ v_iv (n_v vs 22) ∧ v_iv (n_v vs 22) ≤ v_iv (n_v vs 11) + 0 := d1
  obtain ⟨d2, hds⟩ := List.forall_mem_cons.mp hds
  have d2 : v_iv (n_v vs 8) + 0 ≤ v_iv (n_v vs 20) ∧ v_iv (n_v vs 20) ≤ v_iv (n_v vs 8) + 2000 := d2
  obtain ⟨d3, hds⟩ := List.forall_mem_cons.mp hds
  have d3 : v_iv (n_v vs 11) + (-4294967296) ≤ v_iv (n_v vs 20) ∧ v_iv (n_v vs 20) ≤ v_iv (n_v vs 11) + 1999 := d3
  obtain ⟨d4, hds⟩ := List.forall_mem_cons.mp hds
  have d4 : v_iv (n_v vs 10) + 0 ≤ v_iv (n_v vs 20) ∧ v_iv (n_v vs 20) ≤ v_iv (n_v vs 10) + 7 := d4
  obtain ⟨d5, hds⟩ := List.forall_mem_cons.mp hds
  have d5 : v_iv (n_v vs 8) + 459 ≤ v_iv (n_v vs 19) ∧ v_iv (n_v vs 19) ≤ v_iv (n_v vs 8) + 66812 := d5
  obtain ⟨d6, hds⟩ := List.forall_mem_cons.mp hds
  have d6 : v_iv (n_v vs 11) + (-4294967296) ≤ v_iv (n_v vs 19) ∧ v_iv (n_v vs 19) ≤ v_iv (n_v vs 11) + 66811 := d6
  obtain ⟨d7, hds⟩ := List.forall_mem_cons.mp hds
  have d7 : v_iv (n_v vs 18) + 0 ≤ v_iv (n_v vs 19) ∧ v_iv (n_v vs 19) ≤ v_iv (n_v vs 18) + 7 := d7
  obtain ⟨d8, hds⟩ := List.forall_mem_cons.mp hds
  have d8 : v_iv (n_v vs 17) + 459 ≤ v_iv (n_v vs 19) ∧ v_iv (n_v vs 19) ≤ v_iv (n_v vs 17) + 66763 := d8
  obtain ⟨d9, hds⟩ := List.forall_mem_cons.mp hds
  have d9 : v_iv (n_v vs 15) + 0 ≤ v_iv (n_v vs 19) ∧ v_iv (n_v vs 19) ≤ v_iv (n_v vs 15) + 63 := d9
  obtain ⟨d10, hds⟩ := List.forall_mem_cons.mp hds
  have d10 : v_iv (n_v vs 13) + 459 ≤ v_iv (n_v vs 19) ∧ v_iv (n_v vs 19) ≤ v_iv (n_v vs 13) + 522 := d10
  obtain ⟨d11, hds⟩ := List.forall_mem_cons.mp hds
  have d11 : v_iv (n_v vs 17) + 459 ≤ v_iv (n_v vs 18) ∧ v_iv (n_v vs 18) ≤ v_iv (n_v vs 17) + 66756 := d11
  obtain ⟨d12, hds⟩ := List.forall_mem_cons.mp hds
  have d12 : v_iv (n_v vs 15) + 0 ≤ v_iv (n_v vs 18) ∧ v_iv (n_v vs 18) ≤ v_iv (n_v vs 15) + 56 := d12
  obtain ⟨d13, hds⟩ := List.forall_mem_cons.mp hds
  have d13 : v_iv (n_v vs 13) + 459 ≤ v_iv (n_v vs 18) ∧ v_iv (n_v vs 18) ≤ v_iv (n_v vs 13) + 515 := d13
  obtain ⟨d14, hds⟩ := List.forall_mem_cons.mp hds
  have d14 : v_iv (n_v vs 13) + 459 ≤ v_iv (n_v vs 15) ∧ v_iv (n_v vs 15) ≤ v_iv (n_v vs 13) + 459 := d14
  obtain ⟨d15, hds⟩ := List.forall_mem_cons.mp hds
  have d15 : v_iv (n_v vs 11) + (-4294967296) ≤ v_iv (n_v vs 8) ∧ v_iv (n_v vs 8) ≤ v_iv (n_v vs 11) + (-1) := d15
  obtain ⟨d16, hds⟩ := List.forall_mem_cons.mp hds
  have d16 : v_iv (n_v vs 9) + (-2000) ≤ v_iv (n_v vs 11) ∧ v_iv (n_v vs 11) ≤ v_iv (n_v vs 9) + 0 := d16
  obtain ⟨d17, hds⟩ := List.forall_mem_cons.mp hds
  have d17 : v_iv (n_v vs 3) + (-4294967296) ≤ v_iv (n_v vs 1) ∧ v_iv (n_v vs 1) ≤ v_iv (n_v vs 3) + 7 := d17
  obtain ⟨d18, hds⟩ := List.forall_mem_cons.mp hds
  have d18 : v_iv (n_v vs 5) + (-4294967296) ≤ v_iv (n_v vs 1) ∧ v_iv (n_v vs 1) ≤ v_iv (n_v vs 5) + 0 := d18
  obtain ⟨d19, hds⟩ := List.forall_mem_cons.mp hds
  have d19 : v_iv (n_v vs 7) + (-4294967296) ≤ v_iv (n_v vs 1) ∧ v_iv (n_v vs 1) ≤ v_iv (n_v vs 7) + 7 := d19
  obtain ⟨d20, hds⟩ := List.forall_mem_cons.mp hds
  have d20 : v_iv (n_v vs 8) + (-4294967296) ≤ v_iv (n_v vs 1) ∧ v_iv (n_v vs 1) ≤ v_iv (n_v vs 8) + 7 := d20
  obtain ⟨d21, hds⟩ := List.forall_mem_cons.mp hds
  have d21 : v_iv (n_v vs 1) + (-4294967296) ≤ v_iv (n_v vs 3) ∧ v_iv (n_v vs 3) ≤ v_iv (n_v vs 1) + 2000 := d21
  obtain ⟨d22, hds⟩ := List.forall_mem_cons.mp hds
  have d22 : v_iv (n_v vs 5) + (-4294967296) ≤ v_iv (n_v vs 3) ∧ v_iv (n_v vs 3) ≤ v_iv (n_v vs 5) + 2000 := d22
  obtain ⟨d23, hds⟩ := List.forall_mem_cons.mp hds
  have d23 : v_iv (n_v vs 7) + (-4294967296) ≤ v_iv (n_v vs 3) ∧ v_iv (n_v vs 3) ≤ v_iv (n_v vs 7) + 2000 := d23
  obtain ⟨d24, hds⟩ := List.forall_mem_cons.mp hds
  have d24 : v_iv (n_v vs 8) + (-4294967296) ≤ v_iv (n_v vs 3) ∧ v_iv (n_v vs 3) ≤ v_iv (n_v vs 8) + 2000 := d24
  obtain ⟨d25, hds⟩ := List.forall_mem_cons.mp hds
  have d25 : v_iv (n_v vs 1) + (-4294967296) ≤ v_iv (n_v vs 5) ∧ v_iv (n_v vs 5) ≤ v_iv (n_v vs 1) + 0 := d25
  obtain ⟨d26, hds⟩ := List.forall_mem_cons.mp hds
  have d26 : v_iv (n_v vs 3) + (-4294967296) ≤ v_iv (n_v vs 5) ∧ v_iv (n_v vs 5) ≤ v_iv (n_v vs 3) + 7 := d26
  obtain ⟨d27, hds⟩ := List.forall_mem_cons.mp hds
  have d27 : v_iv (n_v vs 7) + (-4294967296) ≤ v_iv (n_v vs 5) ∧ v_iv (n_v vs 5) ≤ v_iv (n_v vs 7) + 7 := d27
  obtain ⟨d28, hds⟩ := List.forall_mem_cons.mp hds
  have d28 : v_iv (n_v vs 8) + (-4294967296) ≤ v_iv (n_v vs 5) ∧ v_iv (n_v vs 5) ≤ v_iv (n_v vs 8) + 7 := d28
  obtain ⟨d29, hds⟩ := List.forall_mem_cons.mp hds
  have d29 : v_iv (n_v vs 1) + (-4294967296) ≤ v_iv (n_v vs 7) ∧ v_iv (n_v vs 7) ≤ v_iv (n_v vs 1) + 7 := d29
  obtain ⟨d30, hds⟩ := List.forall_mem_cons.mp hds
  have d30 : v_iv (n_v vs 3) + (-4294967296) ≤ v_iv (n_v vs 7) ∧ v_iv (n_v vs 7) ≤ v_iv (n_v vs 3) + 7 := d30
  obtain ⟨d31, hds⟩ := List.forall_mem_cons.mp hds
  have d31 : v_iv (n_v vs 5) + (-4294967296) ≤ v_iv (n_v vs 7) ∧ v_iv (n_v vs 7) ≤ v_iv (n_v vs 5) + 7 := d31
  obtain ⟨d32, hds⟩ := List.forall_mem_cons.mp hds
  have d32 : v_iv (n_v vs 8) + (-4294967296) ≤ v_iv (n_v vs 7) ∧ v_iv (n_v vs 7) ≤ v_iv (n_v vs 8) + 7 := d32
  have hf : fc_ok [(6, [22, 8], [1]), (20, [20, 4, 21], [50, 1, 1, 1010, 1001, 4, 11, 0, 6, 4, 2, 1, 0, 0, 1, 2, 1, 10, 1, 2, 1, 2, 9, 5, 3, 1, 1, 1, 0, 0, 256]), (20, [4, 20, 21], [50, 1, 0, 10, 4, 7, 0, 3, 2, 0, 10, 1, 1, 1, 2, 1, 2, 0, -1]), (20, [4, 4], [30, 0, 1, 1, 15, -1, 1, 11]), (20, [4], [50, 3, 0, 12, 11, 15, 2, 21, 4, 7, 1, 3, 2, 0, 12, 0, 1, 0, 3, 2, 0, 11, 4, 3, 2, 0, 15, 0, 8, 3, 7, 1, 3, 2, 0, 12, 0, 0, 0, 7, 4, 3, 2, 0, 15, 0, 1, 2, 0, 11]), (20, [3, 4], [30, -1, 1, 0, 0, -1, 1, 11]), (20, [4], [50, 1, 0, 12, 1, 3, 2, 0, 12, 0, 1]), (23, [5, 7], [-1, 1, -1]), (24, [0, 4], []), (24, [1, 5], []), (100, [12, 19, 21], []), (20, [20, 4, 21], [50, 1, 1, 1010, 1001, 4, 11, 0, 6, 4, 2, 1, 0, 0, 1, 2, 1, 10, 1, 2, 1, 2, 9, 5, 3, 1, 1, 1, 0, 0, 256]), (20, [4, 20, 21], [50, 1, 0, 10, 4, 7, 0, 3, 2, 0, 10, 1, 1, 1, 2, 1, 2, 0, -1]), (1, [20, 10, 8], []), (9, [10, 4], [15]), (1, [19, 18, 8], []), (1, [18, 15, 17], []), (3, [17, 16, 7], []), (1, [15, 13, 14], []), (9, [13, 4], [5]), (9, [12, 4], [2]), (7, [8, 11], [2]), (2, [11, 9, 10], []), (9, [9, 4], [11]), (20, [4, 4], [30, 0, 1, 1, 15, -1, 1, 11]), (20, [4], [50, 3, 0, 12, 11, 15, 2, 21, 4, 7, 1, 3, 2, 0, 12, 0, 1, 0, 3, 2, 0, 11, 4, 3, 2, 0, 15, 0, 8, 3, 7, 1, 3, 2, 0, 12, 0, 0, 0, 7, 4, 3, 2, 0, 15, 0, 1, 2, 0, 11]), (20, [3, 4], [30, -1, 1, 0, 0, -1, 1, 11]), (20, [4], [50, 1, 0, 12, 1, 3, 2, 0, 12, 0, 1]), (20, [7, 4], [50, 1, 1, 1005, 1002, 0, 6, 4, 2, 1, 0, 0, 1, 3, 1, 2, 4, 3, 2, 1, 5, 0, 2]), (23, [5, 7], [-1, 1, -1])] ta ws vs := hf
  obtain ⟨f0, hf⟩ := fc_un (show (6 : Nat) < 100 from by decide) hf
  have f0 : v_iv (n_v vs 22) = v_iv (n_v vs 8) + 1 := f0
  obtain ⟨f1, hf⟩ := fc_un (show (20 : Nat) < 100 from by decide) hf
  have f1 : ((v_iv (n_v vs 20) + 1) ≤ w_fi ws (n_v vs 4) 10) → (v_iv (n_v vs 21) = (w_ei ws (w_ar ws (n_v vs 4) 1) (v_iv (n_v vs 20)) % 256)) := f1
  obtain ⟨f2, hf⟩ := fc_un (show (20 : Nat) < 100 from by decide) hf
  have f2 : (w_fi ws (n_v vs 4) 10 ≤ v_iv (n_v vs 20)) → (v_iv (n_v vs 21) = (-1)) := f2
  obtain ⟨f3, hf⟩ := fc_un (show (20 : Nat) < 100 from by decide) hf
  have f3 : 1 * w_fi ws (n_v vs 4) 15 + ((-1) * w_fi ws (n_v vs 4) 11 + 0) ≤ 0 := f3
  obtain ⟨f4, hf⟩ := fc_un (show (20 : Nat) < 100 from by decide) hf
  have f4 : ((w_fi ws (n_v vs 4) 12 = 1) → (w_fi ws (n_v vs 4) 11 ≤ (w_fi ws (n_v vs 4) 15 + 8))) ∧ ((w_fi ws (n_v vs 4) 12 = 0) ∨ ((w_fi ws (n_v vs 4) 15 + 1) ≤ w_fi ws (n_v vs 4) 11)) := f4
  obtain ⟨f5, hf⟩ := fc_un (show (20 : Nat) < 100 from by decide) hf
  have f5 : 1 * v_iv (n_v vs 3) + ((-1) * w_fi ws (n_v vs 4) 11 + 0) ≤ (-1) := f5
  obtain ⟨f6, hf⟩ := fc_un (show (20 : Nat) < 100 from by decide) hf
  have f6 : w_fi ws (n_v vs 4) 12 = 1 := f6
  obtain ⟨f7, hf⟩ := fc_un (show (23 : Nat) < 100 from by decide) hf
  have f7 : 1 * v_iv (n_v vs 5) + ((-1) * v_iv (n_v vs 7) + 0) ≤ (-1) := f7
  obtain ⟨f8, hf⟩ := fc_un (show (24 : Nat) < 100 from by decide) hf
  have f8 : n_v vs 0 = n_v vs 4 := f8
  obtain ⟨f9, hf⟩ := fc_un (show (24 : Nat) < 100 from by decide) hf
  have f9 : n_v vs 1 = n_v vs 5 := f9
  obtain ⟨ta1, w1, le1, ⟨_, s1⟩, hf⟩ := fc_us (show ¬ (100 : Nat) < 100 from by decide) hf
  have s1 : (∀ b j, w_el ws b j = if b = v_ad (n_v vs 12) ∧ j = (v_iv (n_v vs 19)).toNat then v_iv (n_v vs 21) else w_el w1 b j) ∧ ∀ b k, w_fd ws b k = w_fd w1 b k := s1
  obtain ⟨f11, hf⟩ := fc_un (show (20 : Nat) < 100 from by decide) hf
  have f11 : ((v_iv (n_v vs 20) + 1) ≤ w_fi w1 (n_v vs 4) 10) → (v_iv (n_v vs 21) = (w_ei w1 (w_ar w1 (n_v vs 4) 1) (v_iv (n_v vs 20)) % 256)) := f11
  obtain ⟨f12, hf⟩ := fc_un (show (20 : Nat) < 100 from by decide) hf
  have f12 : (w_fi w1 (n_v vs 4) 10 ≤ v_iv (n_v vs 20)) → (v_iv (n_v vs 21) = (-1)) := f12
  obtain ⟨f13, hf⟩ := fc_un (show (1 : Nat) < 100 from by decide) hf
  have f13 : v_iv (n_v vs 20) = v_iv (n_v vs 10) + v_iv (n_v vs 8) := f13
  obtain ⟨f14, hf⟩ := fc_un (show (9 : Nat) < 100 from by decide) hf
  have f14 : n_v vs 10 = w_fd w1 (v_ad (n_v vs 4)) 15 := f14
  obtain ⟨f15, hf⟩ := fc_un (show (1 : Nat) < 100 from by decide) hf
  have f15 : v_iv (n_v vs 19) = v_iv (n_v vs 18) + v_iv (n_v vs 8) := f15
  obtain ⟨f16, hf⟩ := fc_un (show (1 : Nat) < 100 from by decide) hf
  have f16 : v_iv (n_v vs 18) = v_iv (n_v vs 15) + v_iv (n_v vs 17) := f16
  obtain ⟨f17, hf⟩ := fc_un (show (3 : Nat) < 100 from by decide) hf
  have f17 : v_iv (n_v vs 17) = v_iv (n_v vs 16) * v_iv (n_v vs 7) := f17
  rw [show v_iv (n_v vs 16) = 8 from by omega] at f17
  obtain ⟨f18, hf⟩ := fc_un (show (1 : Nat) < 100 from by decide) hf
  have f18 : v_iv (n_v vs 15) = v_iv (n_v vs 13) + v_iv (n_v vs 14) := f18
  obtain ⟨f19, hf⟩ := fc_un (show (9 : Nat) < 100 from by decide) hf
  have f19 : n_v vs 13 = w_fd w1 (v_ad (n_v vs 4)) 5 := f19
  obtain ⟨f20, hf⟩ := fc_un (show (9 : Nat) < 100 from by decide) hf
  have f20 : n_v vs 12 = w_fd w1 (v_ad (n_v vs 4)) 2 := f20
  obtain ⟨f21, hf⟩ := fc_un (show (7 : Nat) < 100 from by decide) hf
  have f21 : v_iv (n_v vs 8) < v_iv (n_v vs 11) := f21
  obtain ⟨f22, hf⟩ := fc_un (show (2 : Nat) < 100 from by decide) hf
  have f22 : v_iv (n_v vs 11) = v_iv (n_v vs 9) - v_iv (n_v vs 10) := f22
  obtain ⟨f23, hf⟩ := fc_un (show (9 : Nat) < 100 from by decide) hf
  have f23 : n_v vs 9 = w_fd w1 (v_ad (n_v vs 4)) 11 := f23
  obtain ⟨f24, hf⟩ := fc_un (show (20 : Nat) < 100 from by decide) hf
  have f24 : 1 * w_fi w1 (n_v vs 4) 15 + ((-1) * w_fi w1 (n_v vs 4) 11 + 0) ≤ 0 := f24
  obtain ⟨f25, hf⟩ := fc_un (show (20 : Nat) < 100 from by decide) hf
  have f25 : ((w_fi w1 (n_v vs 4) 12 = 1) → (w_fi w1 (n_v vs 4) 11 ≤ (w_fi w1 (n_v vs 4) 15 + 8))) ∧ ((w_fi w1 (n_v vs 4) 12 = 0) ∨ ((w_fi w1 (n_v vs 4) 15 + 1) ≤ w_fi w1 (n_v vs 4) 11)) := f25
  obtain ⟨f26, hf⟩ := fc_un (show (20 : Nat) < 100 from by decide) hf
  have f26 : 1 * v_iv (n_v vs 3) + ((-1) * w_fi w1 (n_v vs 4) 11 + 0) ≤ (-1) := f26
  obtain ⟨f27, hf⟩ := fc_un (show (20 : Nat) < 100 from by decide) hf
  have f27 : w_fi w1 (n_v vs 4) 12 = 1 := f27
  obtain ⟨f28, hf⟩ := fc_un (show (20 : Nat) < 100 from by decide) hf
  have f28 : (v_iv (n_v vs 7) + 1) ≤ w_ei w1 (w_ar w1 (n_v vs 4) 2) ((w_fi w1 (n_v vs 4) 5 + 2)) := f28
  obtain ⟨f29, hf⟩ := fc_un (show (23 : Nat) < 100 from by decide) hf
  have f29 : 1 * v_iv (n_v vs 5) + ((-1) * v_iv (n_v vs 7) + 0) ≤ (-1) := f29
  have q4 : n_v vs 4 = n_v vs 0 := f8.symm
  have q5 : n_v vs 5 = n_v vs 1 := f9.symm
  rw [q4] at f1
  rw [q4] at f2
  rw [q4] at f3
  rw [q4] at f4
  rw [q4] at f5
  rw [q4] at f6
  rw [q5] at f7
  rw [q4] at f11
  rw [q4] at f12
  rw [q4] at f14
  rw [q4] at f19
  rw [q4] at f20
  rw [q4] at f23
  rw [q4] at f24
  rw [q4] at f25
  rw [q4] at f26
  rw [q4] at f27
  rw [q4] at f28
  rw [q5] at f29
  have ar_0_1_1 : w_ar w1 (n_v vs 0) 1 = w_ar ws (n_v vs 0) 1 := by show v_ad (w_fd w1 _ _) = v_ad (w_fd ws _ _); rw [s1.2]
  have cr_0_1 : ta (w_ar ws (n_v vs 0) 1) = some 151 := tv_rg (th_fd hD hth r0 (g := GG_150) rfl (k := 1) (t := (2, 0, 0, [151])) rfl rfl)
  have ar_0_2_1 : w_ar w1 (n_v vs 0) 2 = w_ar ws (n_v vs 0) 2 := by show v_ad (w_fd w1 _ _) = v_ad (w_fd ws _ _); rw [s1.2]
  have cr_0_2 : ta (w_ar ws (n_v vs 0) 2) = some 152 := tv_rg (th_fd hD hth r0 (g := GG_150) rfl (k := 2) (t := (2, 0, 0, [152])) rfl rfl)
  have ad_12 : v_ad (n_v vs 12) = w_ar ws (n_v vs 0) 2 := (congrArg v_ad f20).trans ar_0_2_1
  rw [ar_0_1_1] at f11
  have g14 : v_iv (n_v vs 10) = w_fi w1 (n_v vs 0) 15 := congrArg v_iv f14
  have g19 : v_iv (n_v vs 13) = w_fi w1 (n_v vs 0) 5 := congrArg v_iv f19
  have g23 : v_iv (n_v vs 9) = w_fi w1 (n_v vs 0) 11 := congrArg v_iv f23
  rw [ar_0_2_1] at f28
  have fe_0_5_1 : w_fi ws (n_v vs 0) 5 = w_fi w1 (n_v vs 0) 5 := congrArg v_iv (s1.2 _ _)
  have fe_0_10_1 : w_fi ws (n_v vs 0) 10 = w_fi w1 (n_v vs 0) 10 := congrArg v_iv (s1.2 _ _)
  have fe_0_11_1 : w_fi ws (n_v vs 0) 11 = w_fi w1 (n_v vs 0) 11 := congrArg v_iv (s1.2 _ _)
  have fe_0_12_1 : w_fi ws (n_v vs 0) 12 = w_fi w1 (n_v vs 0) 12 := congrArg v_iv (s1.2 _ _)
  have fe_0_15_1 : w_fi ws (n_v vs 0) 15 = w_fi w1 (n_v vs 0) 15 := congrArg v_iv (s1.2 _ _)
  have hE_0_1_1 : ∀ j : Int, w_ei ws (w_ar ws (n_v vs 0) 1) j = w_ei w1 (w_ar ws (n_v vs 0) 1) j := fun j => by unfold w_ei; rw [s1.1, if_neg (fun e => by have e1 := e.1; rw [← e1] at r12; rw [cr_0_1] at r12; exact absurd (Option.some.inj r12) (by decide))]
  have hK_0_1 : ∀ j : Int, 0 ≤ j → j < 2000 → (-128) ≤ w_ei ws (w_ar ws (n_v vs 0) 1) j ∧ w_ei ws (w_ar ws (n_v vs 0) 1) j ≤ 127 := fun j h0 h1 => th_el hD hth cr_0_1 (kd := 1) (n := 2000) (m := 2000) (lo := (-128)) (hi := 127) (rs := []) (L := []) rfl (by decide) (j := j.toNat) (by omega)
  have hE_0_2_1 : ∀ j : Int, 0 ≤ j → (j = v_iv (n_v vs 19) → w_ei ws (w_ar ws (n_v vs 0) 2) j = v_iv (n_v vs 21)) ∧ (j ≠ v_iv (n_v vs 19) → w_ei ws (w_ar ws (n_v vs 0) 2) j = w_ei w1 (w_ar ws (n_v vs 0) 2) j) := fun j hj => ⟨fun h => by unfold w_ei; rw [s1.1, if_pos ⟨ad_12.symm, by rw [h]⟩], fun h => by unfold w_ei; rw [s1.1, if_neg (fun e => h (by have := e.2; omega))]⟩
  have kz_0_10 : 0 ≤ w_fi ws (n_v vs 0) 10 ∧ w_fi ws (n_v vs 0) 10 ≤ 2000 := tv_rng (th_fd hD hth r0 (g := GG_150) rfl (k := 10) (t := (0, 0, 2000, [])) rfl rfl)
  have kz_0_11 : 0 ≤ w_fi ws (n_v vs 0) 11 ∧ w_fi ws (n_v vs 0) 11 ≤ 2000 := tv_rng (th_fd hD hth r0 (g := GG_150) rfl (k := 11) (t := (0, 0, 2000, [])) rfl rfl)
  have kz_0_12 : 0 ≤ w_fi ws (n_v vs 0) 12 ∧ w_fi ws (n_v vs 0) 12 ≤ 4 := tv_rng (th_fd hD hth r0 (g := GG_150) rfl (k := 12) (t := (0, 0, 4, [])) rfl rfl)
  have kz_0_15 : 0 ≤ w_fi ws (n_v vs 0) 15 ∧ w_fi ws (n_v vs 0) 15 ≤ 2000 := tv_rng (th_fd hD hth r0 (g := GG_150) rfl (k := 15) (t := (0, 0, 2000, [])) rfl rfl)
  first | have hJ0 : w_ei w1 (w_ar ws (n_v vs 0) 2) ((w_fi w1 (n_v vs 0) 5 + 2)) = w_ei w1 (w_ar ws (n_v vs 0) 2) ((w_fi ws (n_v vs 0) 5 + 2)) := congrArg _ (show ((w_fi w1 (n_v vs 0) 5 + 2) : Int) = (w_fi ws (n_v vs 0) 5 + 2) from by omega) | skip
  have hI1 := hE_0_1_1 (v_iv (n_v vs 20))
  first | have hI2 := (hE_0_2_1 ((w_fi ws (n_v vs 0) 5 + 2)) (by omega)).2 (by omega) | have hI2 := (hE_0_2_1 ((w_fi ws (n_v vs 0) 5 + 2)) (by omega)).1 (by omega) | skip
  have nf0 : fc_1 (20, [7, 4], [50, 1, 1, 1005, 1002, 0, 6, 4, 2, 1, 0, 0, 1, 3, 1, 2, 4, 3, 2, 1, 5, 0, 2]) ws (vs) := by
    refine ⟨fun n hn => ?_, ?_⟩
    · have hn : n ∈ [7, 4] := hn
      rw [hl]
      simp only [List.mem_cons, List.not_mem_nil, or_false] at hn
      show n < 23; omega
    · show (v_iv (n_v vs 7) + 1) ≤ w_ei ws (w_ar ws (n_v vs 4) 2) ((w_fi ws (n_v vs 4) 5 + 2))
      rw [q4]
      first | omega | grind
  refine ⟨(fun _ h => (by cases h)), [], trivial, ?_, (fun _ h => (by cases h))⟩
  rw [List.append_nil]
  exact List.forall_mem_cons.mpr ⟨⟨show (20 : Nat) < 100 from by decide, nf0⟩, (fun _ h => (by cases h))⟩
def o_Mo_groupItem_at_k2_17 : or_T := (200, 12, [(0, (2, 0, 0, [150])), (1, (0, 0, 7, [])), (3, (0, 0, 2000, [])), (4, (2, 0, 0, [150])), (5, (0, 0, 7, [])), (7, (0, 0, 7, [])), (9, (0, 0, 2005, [])), (10, (0, 1, 5, []))], [(8, [10], [1]), (9, [10, 4], [8]), (20, [4, 4], [30, 0, 1, 1, 15, -1, 1, 11]), (20, [4], [50, 3, 0, 12, 11, 15, 2, 21, 4, 7, 1, 3, 2, 0, 12, 0, 1, 0, 3, 2, 0, 11, 4, 3, 2, 0, 15, 0, 8, 3, 7, 1, 3, 2, 0, 12, 0, 0, 0, 7, 4, 3, 2, 0, 15, 0, 1, 2, 0, 11]), (20, [3, 4], [30, 0, 1, 0, 0, -1, 1, 11]), (20, [4, 3], [50, 2, 0, 8, 11, 3, 7, 0, 2, 0, 1, 2, 0, 8, 0, 6, 4, 2, 1, 1, 0, 1, 2, 0, 11]), (20, [7, 4], [50, 1, 1, 1005, 1002, 0, 6, 4, 2, 1, 0, 0, 1, 3, 1, 2, 4, 3, 2, 1, 5, 0, 2]), (23, [5, 7], [-1, 1, -1]), (24, [0, 4], []), (24, [1, 5], []), (20, [9, 4, 4], [30, 2005, 1, 0, 0, 1, 1, 11, 1, 1, 8]), (20, [9, 4, 4], [30, -2005, -1, 0, 0, -1, 1, 11, -1, 1, 8])], [], [(0, 0, 2000, [])], [(23, [12, 3], [0, 1, -1]), (23, [12, 3], [0, -1, 1]), (20, [4, 4], [30, 0, 1, 1, 15, -1, 1, 11]), (20, [4], [50, 3, 0, 12, 11, 15, 2, 21, 4, 7, 1, 3, 2, 0, 12, 0, 1, 0, 3, 2, 0, 11, 4, 3, 2, 0, 15, 0, 8, 3, 7, 1, 3, 2, 0, 12, 0, 0, 0, 7, 4, 3, 2, 0, 15, 0, 1, 2, 0, 11]), (20, [12, 4], [30, 0, 1, 0, 0, -1, 1, 11]), (20, [4, 12], [50, 3, 0, 8, 12, 11, 3, 7, 0, 2, 0, 1, 2, 0, 8, 3, 7, 1, 3, 2, 0, 12, 0, 0, 0, 6, 4, 2, 1, 1, 0, 1, 2, 0, 11])], [], [(1, 3, -4294967296, 7), (1, 5, -4294967296, 0), (1, 7, -4294967296, 7), (3, 1, -4294967296, 2000), (3, 5, -4294967296, 2000), (3, 7, -4294967296, 2000), (5, 1, -4294967296, 0), (5, 3, -4294967296, 7), (5, 7, -4294967296, 7), (7, 1, -4294967296, 7), (7, 3, -4294967296, 7), (7, 5, -4294967296, 7)])
theorem oo_Mo_groupItem_at_k2_17 {kA : Nat → ClassId} : or_ok kA GG o_Mo_groupItem_at_k2_17 := by
  intro A ta ws vs hD hth hl hk hds hf
  have hl : vs.length = 12 := hl
  have hk : ∀ q ∈ ([(0, (2, 0, 0, [150])), (1, (0, 0, 7, [])), (3, (0, 0, 2000, [])), (4, (2, 0, 0, [150])), (5, (0, 0, 7, [])), (7, (0, 0, 7, [])), (9, (0, 0, 2005, [])), (10, (0, 1, 5, []))] : List (Nat × tv_T)), tv_ok ta q.2 (n_v vs q.1) := hk
  obtain ⟨t0, hk⟩ := List.forall_mem_cons.mp hk
  have t0 : tv_ok ta (2, 0, 0, [150]) (n_v vs 0) := t0
  have r0 : ta (v_ad (n_v vs 0)) = some 150 := tv_rg t0
  obtain ⟨t1, hk⟩ := List.forall_mem_cons.mp hk
  have t1 : tv_ok ta (0, 0, 7, []) (n_v vs 1) := t1
  have k1 : 0 ≤ v_iv (n_v vs 1) ∧ v_iv (n_v vs 1) ≤ 7 := tv_rng t1
  obtain ⟨t3, hk⟩ := List.forall_mem_cons.mp hk
  have t3 : tv_ok ta (0, 0, 2000, []) (n_v vs 3) := t3
  have k3 : 0 ≤ v_iv (n_v vs 3) ∧ v_iv (n_v vs 3) ≤ 2000 := tv_rng t3
  obtain ⟨t4, hk⟩ := List.forall_mem_cons.mp hk
  have t4 : tv_ok ta (2, 0, 0, [150]) (n_v vs 4) := t4
  have r4 : ta (v_ad (n_v vs 4)) = some 150 := tv_rg t4
  obtain ⟨t5, hk⟩ := List.forall_mem_cons.mp hk
  have t5 : tv_ok ta (0, 0, 7, []) (n_v vs 5) := t5
  have k5 : 0 ≤ v_iv (n_v vs 5) ∧ v_iv (n_v vs 5) ≤ 7 := tv_rng t5
  obtain ⟨t7, hk⟩ := List.forall_mem_cons.mp hk
  have t7 : tv_ok ta (0, 0, 7, []) (n_v vs 7) := t7
  have k7 : 0 ≤ v_iv (n_v vs 7) ∧ v_iv (n_v vs 7) ≤ 7 := tv_rng t7
  obtain ⟨t9, hk⟩ := List.forall_mem_cons.mp hk
  have t9 : tv_ok ta (0, 0, 2005, []) (n_v vs 9) := t9
  have k9 : 0 ≤ v_iv (n_v vs 9) ∧ v_iv (n_v vs 9) ≤ 2005 := tv_rng t9
  obtain ⟨t10, hk⟩ := List.forall_mem_cons.mp hk
  have t10 : tv_ok ta (0, 1, 5, []) (n_v vs 10) := t10
  have k10 : 1 ≤ v_iv (n_v vs 10) ∧ v_iv (n_v vs 10) ≤ 5 := tv_rng t10
  have hds : ∀ q ∈ ([(1, 3, -4294967296, 7), (1, 5, -4294967296, 0), (1, 7, -4294967296, 7), (3, 1, -4294967296, 2000), (3, 5, -4294967296, 2000), (3, 7, -4294967296, 2000), (5, 1, -4294967296, 0), (5, 3, -4294967296, 7), (5, 7, -4294967296, 7), (7, 1, -4294967296, 7), (7, 3, -4294967296, 7), (7, 5, -4294967296, 7)] : List of_T), n_iv vs q.2.1 + q.2.2.1 ≤ n_iv vs q.1 ∧ n_iv vs q.1 ≤ n_iv vs q.2.1 + q.2.2.2 := hds
  obtain ⟨d0, hds⟩ := List.forall_mem_cons.mp hds
  have d0 : v_iv (n_v vs 3) + (-4294967296) ≤ v_iv (n_v vs 1) ∧ v_iv (n_v vs 1) ≤ v_iv (n_v vs 3) + 7 := d0
  obtain ⟨d1, hds⟩ := List.forall_mem_cons.mp hds
  have d1 : v_iv (n_v vs 5) + (-4294967296) ≤ v_iv (n_v vs 1) ∧ v_iv (n_v vs 1) ≤ v_iv (n_v vs 5) + 0 := d1
  obtain ⟨d2, hds⟩ := List.forall_mem_cons.mp hds
  have d2 : v_iv (n_v vs 7) + (-4294967296) ≤ v_iv (n_v vs 1) ∧ v_iv (n_v vs 1) ≤ v_iv (n_v vs 7) + 7 := d2
  obtain ⟨d3, hds⟩ := List.forall_mem_cons.mp hds
  have d3 : v_iv (n_v vs 1) + (-4294967296) ≤ v_iv (n_v vs 3) ∧ v_iv (n_v vs 3) ≤ v_iv (n_v vs 1) + 2000 := d3
  obtain ⟨d4, hds⟩ := List.forall_mem_cons.mp hds
  have d4 : v_iv (n_v vs 5) + (-4294967296) ≤ v_iv (n_v vs 3) ∧ v_iv (n_v vs 3) ≤ v_iv (n_v vs 5) + 2000 := d4
  obtain ⟨d5, hds⟩ := List.forall_mem_cons.mp hds
  have d5 : v_iv (n_v vs 7) + (-4294967296) ≤ v_iv (n_v vs 3) ∧ v_iv (n_v vs 3) ≤ v_iv (n_v vs 7) + 2000 := d5
  obtain ⟨d6, hds⟩ := List.forall_mem_cons.mp hds
  have d6 : v_iv (n_v vs 1) + (-4294967296) ≤ v_iv (n_v vs 5) ∧ v_iv (n_v vs 5) ≤ v_iv (n_v vs 1) + 0 := d6
  obtain ⟨d7, hds⟩ := List.forall_mem_cons.mp hds
  have d7 : v_iv (n_v vs 3) + (-4294967296) ≤ v_iv (n_v vs 5) ∧ v_iv (n_v vs 5) ≤ v_iv (n_v vs 3) + 7 := d7
  obtain ⟨d8, hds⟩ := List.forall_mem_cons.mp hds
  have d8 : v_iv (n_v vs 7) + (-4294967296) ≤ v_iv (n_v vs 5) ∧ v_iv (n_v vs 5) ≤ v_iv (n_v vs 7) + 7 := d8
  obtain ⟨d9, hds⟩ := List.forall_mem_cons.mp hds
  have d9 : v_iv (n_v vs 1) + (-4294967296) ≤ v_iv (n_v vs 7) ∧ v_iv (n_v vs 7) ≤ v_iv (n_v vs 1) + 7 := d9
  obtain ⟨d10, hds⟩ := List.forall_mem_cons.mp hds
  have d10 : v_iv (n_v vs 3) + (-4294967296) ≤ v_iv (n_v vs 7) ∧ v_iv (n_v vs 7) ≤ v_iv (n_v vs 3) + 7 := d10
  obtain ⟨d11, hds⟩ := List.forall_mem_cons.mp hds
  have d11 : v_iv (n_v vs 5) + (-4294967296) ≤ v_iv (n_v vs 7) ∧ v_iv (n_v vs 7) ≤ v_iv (n_v vs 5) + 7 := d11
  have hf : fc_ok [(8, [10], [1]), (9, [10, 4], [8]), (20, [4, 4], [30, 0, 1, 1, 15, -1, 1, 11]), (20, [4], [50, 3, 0, 12, 11, 15, 2, 21, 4, 7, 1, 3, 2, 0, 12, 0, 1, 0, 3, 2, 0, 11, 4, 3, 2, 0, 15, 0, 8, 3, 7, 1, 3, 2, 0, 12, 0, 0, 0, 7, 4, 3, 2, 0, 15, 0, 1, 2, 0, 11]), (20, [3, 4], [30, 0, 1, 0, 0, -1, 1, 11]), (20, [4, 3], [50, 2, 0, 8, 11, 3, 7, 0, 2, 0, 1, 2, 0, 8, 0, 6, 4, 2, 1, 1, 0, 1, 2, 0, 11]), (20, [7, 4], [50, 1, 1, 1005, 1002, 0, 6, 4, 2, 1, 0, 0, 1, 3, 1, 2, 4, 3, 2, 1, 5, 0, 2]), (23, [5, 7], [-1, 1, -1]), (24, [0, 4], []), (24, [1, 5], []), (20, [9, 4, 4], [30, 2005, 1, 0, 0, 1, 1, 11, 1, 1, 8]), (20, [9, 4, 4], [30, -2005, -1, 0, 0, -1, 1, 11, -1, 1, 8])] ta ws vs := hf
  obtain ⟨f0, hf⟩ := fc_un (show (8 : Nat) < 100 from by decide) hf
  have f0 : v_iv (n_v vs 10) ≠ 0 := f0
  obtain ⟨f1, hf⟩ := fc_un (show (9 : Nat) < 100 from by decide) hf
  have f1 : n_v vs 10 = w_fd ws (v_ad (n_v vs 4)) 8 := f1
  obtain ⟨f2, hf⟩ := fc_un (show (20 : Nat) < 100 from by decide) hf
  have f2 : 1 * w_fi ws (n_v vs 4) 15 + ((-1) * w_fi ws (n_v vs 4) 11 + 0) ≤ 0 := f2
  obtain ⟨f3, hf⟩ := fc_un (show (20 : Nat) < 100 from by decide) hf
  have f3 : ((w_fi ws (n_v vs 4) 12 = 1) → (w_fi ws (n_v vs 4) 11 ≤ (w_fi ws (n_v vs 4) 15 + 8))) ∧ ((w_fi ws (n_v vs 4) 12 = 0) ∨ ((w_fi ws (n_v vs 4) 15 + 1) ≤ w_fi ws (n_v vs 4) 11)) := f3
  obtain ⟨f4, hf⟩ := fc_un (show (20 : Nat) < 100 from by decide) hf
  have f4 : 1 * v_iv (n_v vs 3) + ((-1) * w_fi ws (n_v vs 4) 11 + 0) ≤ 0 := f4
  obtain ⟨f5, hf⟩ := fc_un (show (20 : Nat) < 100 from by decide) hf
  have f5 : (1 ≤ w_fi ws (n_v vs 4) 8) ∨ ((v_iv (n_v vs 3) + 1) ≤ w_fi ws (n_v vs 4) 11) := f5
  obtain ⟨f6, hf⟩ := fc_un (show (20 : Nat) < 100 from by decide) hf
  have f6 : (v_iv (n_v vs 7) + 1) ≤ w_ei ws (w_ar ws (n_v vs 4) 2) ((w_fi ws (n_v vs 4) 5 + 2)) := f6
  obtain ⟨f7, hf⟩ := fc_un (show (23 : Nat) < 100 from by decide) hf
  have f7 : 1 * v_iv (n_v vs 5) + ((-1) * v_iv (n_v vs 7) + 0) ≤ (-1) := f7
  obtain ⟨f8, hf⟩ := fc_un (show (24 : Nat) < 100 from by decide) hf
  have f8 : n_v vs 0 = n_v vs 4 := f8
  obtain ⟨f9, hf⟩ := fc_un (show (24 : Nat) < 100 from by decide) hf
  have f9 : n_v vs 1 = n_v vs 5 := f9
  obtain ⟨f10, hf⟩ := fc_un (show (20 : Nat) < 100 from by decide) hf
  have f10 : 1 * v_iv (n_v vs 9) + (1 * w_fi ws (n_v vs 4) 11 + (1 * w_fi ws (n_v vs 4) 8 + 0)) ≤ 2005 := f10
  obtain ⟨f11, hf⟩ := fc_un (show (20 : Nat) < 100 from by decide) hf
  have f11 : (-1) * v_iv (n_v vs 9) + ((-1) * w_fi ws (n_v vs 4) 11 + ((-1) * w_fi ws (n_v vs 4) 8 + 0)) ≤ (-2005) := f11
  have q4 : n_v vs 4 = n_v vs 0 := f8.symm
  have q5 : n_v vs 5 = n_v vs 1 := f9.symm
  rw [q4] at f1
  rw [q4] at f2
  rw [q4] at f3
  rw [q4] at f4
  rw [q4] at f5
  rw [q4] at f6
  rw [q5] at f7
  rw [q4] at f10
  rw [q4] at f11
  have cr_0_2 : ta (w_ar ws (n_v vs 0) 2) = some 152 := tv_rg (th_fd hD hth r0 (g := GG_150) rfl (k := 2) (t := (2, 0, 0, [152])) rfl rfl)
  have g1 : v_iv (n_v vs 10) = w_fi ws (n_v vs 0) 8 := congrArg v_iv f1
  have kz_0_8 : 0 ≤ w_fi ws (n_v vs 0) 8 ∧ w_fi ws (n_v vs 0) 8 ≤ 5 := tv_rng (th_fd hD hth r0 (g := GG_150) rfl (k := 8) (t := (0, 0, 5, [])) rfl rfl)
  have kz_0_11 : 0 ≤ w_fi ws (n_v vs 0) 11 ∧ w_fi ws (n_v vs 0) 11 ≤ 2000 := tv_rng (th_fd hD hth r0 (g := GG_150) rfl (k := 11) (t := (0, 0, 2000, [])) rfl rfl)
  have kz_0_12 : 0 ≤ w_fi ws (n_v vs 0) 12 ∧ w_fi ws (n_v vs 0) 12 ≤ 4 := tv_rng (th_fd hD hth r0 (g := GG_150) rfl (k := 12) (t := (0, 0, 4, [])) rfl rfl)
  have kz_0_15 : 0 ≤ w_fi ws (n_v vs 0) 15 ∧ w_fi ws (n_v vs 0) 15 ≤ 2000 := tv_rng (th_fd hD hth r0 (g := GG_150) rfl (k := 15) (t := (0, 0, 2000, [])) rfl rfl)
  obtain ⟨x, ex, hx⟩ := iv_ex (ta := ta) (lo := 0) (hi := 2000) (z := v_iv (n_v vs 3)) (by omega) (by omega) (by omega) (by omega)
  have ex2 : v_iv (Value.int x) = v_iv (n_v vs 3) := ex
  have ex3 : 0 ≤ v_iv (Value.int x) ∧ v_iv (Value.int x) ≤ 2000 := tv_rng hx
  have e_3 : n_v (vs ++ [Value.int x]) 3 = n_v vs 3 := n_v_old (by rw [hl]; decide)
  have e_4 : n_v (vs ++ [Value.int x]) 4 = n_v vs 4 := n_v_old (by rw [hl]; decide)
  have e_12 : n_v (vs ++ [Value.int x]) 12 = Value.int x := n_v_new hl
  have nf0 : fc_1 (23, [12, 3], [0, 1, -1]) ws (vs ++ [Value.int x]) := by
    refine ⟨fun n hn => ?_, ?_⟩
    · have hn : n ∈ [12, 3] := hn
      rw [List.length_append, hl]
      simp only [List.mem_cons, List.not_mem_nil, or_false] at hn
      show n < 12 + 1; omega
    · show 1 * v_iv (n_v (vs ++ [Value.int x]) 12) + ((-1) * v_iv (n_v (vs ++ [Value.int x]) 3) + 0) ≤ 0
      rw [e_3]
      rw [e_12]
      omega
  have nf1 : fc_1 (23, [12, 3], [0, -1, 1]) ws (vs ++ [Value.int x]) := by
    refine ⟨fun n hn => ?_, ?_⟩
    · have hn : n ∈ [12, 3] := hn
      rw [List.length_append, hl]
      simp only [List.mem_cons, List.not_mem_nil, or_false] at hn
      show n < 12 + 1; omega
    · show (-1) * v_iv (n_v (vs ++ [Value.int x]) 12) + (1 * v_iv (n_v (vs ++ [Value.int x]) 3) + 0) ≤ 0
      rw [e_3]
      rw [e_12]
      omega
  have nf2 : fc_1 (20, [4, 4], [30, 0, 1, 1, 15, -1, 1, 11]) ws (vs ++ [Value.int x]) := by
    refine ⟨fun n hn => ?_, ?_⟩
    · have hn : n ∈ [4, 4] := hn
      rw [List.length_append, hl]
      simp only [List.mem_cons, List.not_mem_nil, or_false] at hn
      show n < 12 + 1; omega
    · show 1 * w_fi ws (n_v (vs ++ [Value.int x]) 4) 15 + ((-1) * w_fi ws (n_v (vs ++ [Value.int x]) 4) 11 + 0) ≤ 0
      rw [e_4]
      rw [q4]
      omega
  have nf3 : fc_1 (20, [4], [50, 3, 0, 12, 11, 15, 2, 21, 4, 7, 1, 3, 2, 0, 12, 0, 1, 0, 3, 2, 0, 11, 4, 3, 2, 0, 15, 0, 8, 3, 7, 1, 3, 2, 0, 12, 0, 0, 0, 7, 4, 3, 2, 0, 15, 0, 1, 2, 0, 11]) ws (vs ++ [Value.int x]) := by
    refine ⟨fun n hn => ?_, ?_⟩
    · have hn : n ∈ [4] := hn
      rw [List.length_append, hl]
      simp only [List.mem_cons, List.not_mem_nil, or_false] at hn
      show n < 12 + 1; omega
    · show ((w_fi ws (n_v (vs ++ [Value.int x]) 4) 12 = 1) → (w_fi ws (n_v (vs ++ [Value.int x]) 4) 11 ≤ (w_fi ws (n_v (vs ++ [Value.int x]) 4) 15 + 8))) ∧ ((w_fi ws (n_v (vs ++ [Value.int x]) 4) 12 = 0) ∨ ((w_fi ws (n_v (vs ++ [Value.int x]) 4) 15 + 1) ≤ w_fi ws (n_v (vs ++ [Value.int x]) 4) 11))
      rw [e_4]
      rw [q4]
      first | omega | grind
  have nf4 : fc_1 (20, [12, 4], [30, 0, 1, 0, 0, -1, 1, 11]) ws (vs ++ [Value.int x]) := by
    refine ⟨fun n hn => ?_, ?_⟩
    · have hn : n ∈ [12, 4] := hn
      rw [List.length_append, hl]
      simp only [List.mem_cons, List.not_mem_nil, or_false] at hn
      show n < 12 + 1; omega
    · show 1 * v_iv (n_v (vs ++ [Value.int x]) 12) + ((-1) * w_fi ws (n_v (vs ++ [Value.int x]) 4) 11 + 0) ≤ 0
      rw [e_4]
      rw [e_12]
      rw [q4]
      omega
  have nf5 : fc_1 (20, [4, 12], [50, 3, 0, 8, 12, 11, 3, 7, 0, 2, 0, 1, 2, 0, 8, 3, 7, 1, 3, 2, 0, 12, 0, 0, 0, 6, 4, 2, 1, 1, 0, 1, 2, 0, 11]) ws (vs ++ [Value.int x]) := by
    refine ⟨fun n hn => ?_, ?_⟩
    · have hn : n ∈ [4, 12] := hn
      rw [List.length_append, hl]
      simp only [List.mem_cons, List.not_mem_nil, or_false] at hn
      show n < 12 + 1; omega
    · show (1 ≤ w_fi ws (n_v (vs ++ [Value.int x]) 4) 8) ∨ ((w_fi ws (n_v (vs ++ [Value.int x]) 4) 12 = 0) ∨ ((v_iv (n_v (vs ++ [Value.int x]) 12) + 1) ≤ w_fi ws (n_v (vs ++ [Value.int x]) 4) 11))
      rw [e_4]
      rw [e_12]
      rw [q4]
      first | omega | grind
  exact ⟨(fun _ h => (by cases h)), [Value.int x], ag_one hx, List.forall_mem_cons.mpr ⟨⟨show (23 : Nat) < 100 from by decide, nf0⟩, List.forall_mem_cons.mpr ⟨⟨show (23 : Nat) < 100 from by decide, nf1⟩, List.forall_mem_cons.mpr ⟨⟨show (20 : Nat) < 100 from by decide, nf2⟩, List.forall_mem_cons.mpr ⟨⟨show (20 : Nat) < 100 from by decide, nf3⟩, List.forall_mem_cons.mpr ⟨⟨show (20 : Nat) < 100 from by decide, nf4⟩, List.forall_mem_cons.mpr ⟨⟨show (20 : Nat) < 100 from by decide, nf5⟩, (fun _ h => (by cases h))⟩⟩⟩⟩⟩⟩, (fun _ h => (by cases h))⟩
def o_Mo_groupItem_at_k2_18 : or_T := (203, 13, [(0, (2, 0, 0, [150])), (1, (0, 0, 7, [])), (3, (0, 0, 2000, [])), (4, (2, 0, 0, [150])), (5, (0, 0, 7, [])), (7, (0, 0, 7, [])), (12, (0, 0, 2000, []))], [(23, [12, 3], [0, 1, -1]), (23, [12, 3], [0, -1, 1]), (20, [7, 4], [50, 1, 1, 1005, 1002, 0, 6, 4, 2, 1, 0, 0, 1, 3, 1, 2, 4, 3, 2, 1, 5, 0, 2]), (23, [5, 7], [-1, 1, -1]), (24, [0, 4], []), (24, [1, 5], []), (20, [4, 4], [30, 0, 1, 1, 15, -1, 1, 11]), (20, [4], [50, 3, 0, 12, 11, 15, 2, 21, 4, 7, 1, 3, 2, 0, 12, 0, 1, 0, 3, 2, 0, 11, 4, 3, 2, 0, 15, 0, 8, 3, 7, 1, 3, 2, 0, 12, 0, 0, 0, 7, 4, 3, 2, 0, 15, 0, 1, 2, 0, 11]), (20, [12, 4], [30, 0, 1, 0, 0, -1, 1, 11]), (20, [4, 12], [50, 2, 0, 8, 11, 3, 7, 0, 2, 0, 1, 2, 0, 8, 0, 6, 4, 2, 1, 1, 0, 1, 2, 0, 11]), (102, [12], [0, 13008, 13009, 13011, 13012, 13013, 13014, 13015]), (23, [12, 3], [0, 1, -1]), (23, [12, 3], [0, -1, 1]), (23, [5, 7], [-1, 1, -1])], [], [], [(20, [0, 0], [30, 0, 1, 1, 15, -1, 1, 11]), (20, [0], [50, 3, 0, 12, 11, 15, 2, 21, 4, 7, 1, 3, 2, 0, 12, 0, 1, 0, 3, 2, 0, 11, 4, 3, 2, 0, 15, 0, 8, 3, 7, 1, 3, 2, 0, 12, 0, 0, 0, 7, 4, 3, 2, 0, 15, 0, 1, 2, 0, 11]), (20, [3, 0], [30, 0, 1, 0, 0, -1, 1, 11]), (20, [0, 3], [50, 2, 0, 8, 11, 3, 7, 0, 2, 0, 1, 2, 0, 8, 0, 6, 4, 2, 1, 1, 0, 1, 2, 0, 11]), (20, [1, 0], [50, 1, 1, 1005, 1002, 0, 6, 4, 2, 1, 0, 0, 1, 3, 1, 2, 4, 3, 2, 1, 5, 0, 2])], [], [(1, 3, -4294967296, 7), (1, 5, -4294967296, 0), (1, 7, -4294967296, 7), (3, 1, -4294967296, 2000), (3, 5, -4294967296, 2000), (3, 7, -4294967296, 2000), (5, 1, -4294967296, 0), (5, 3, -4294967296, 7), (5, 7, -4294967296, 7), (7, 1, -4294967296, 7), (7, 3, -4294967296, 7), (7, 5, -4294967296, 7)])
theorem oo_Mo_groupItem_at_k2_18 {kA : Nat → ClassId} : or_ok kA GG o_Mo_groupItem_at_k2_18 := by
  intro A ta ws vs hD hth hl hk hds hf
  have hl : vs.length = 13 := hl
  have hk : ∀ q ∈ ([(0, (2, 0, 0, [150])), (1, (0, 0, 7, [])), (3, (0, 0, 2000, [])), (4, (2, 0, 0, [150])), (5, (0, 0, 7, [])), (7, (0, 0, 7, [])), (12, (0, 0, 2000, []))] : List (Nat × tv_T)), tv_ok ta q.2 (n_v vs q.1) := hk
  obtain ⟨t0, hk⟩ := List.forall_mem_cons.mp hk
  have t0 : tv_ok ta (2, 0, 0, [150]) (n_v vs 0) := t0
  have r0 : ta (v_ad (n_v vs 0)) = some 150 := tv_rg t0
  obtain ⟨t1, hk⟩ := List.forall_mem_cons.mp hk
  have t1 : tv_ok ta (0, 0, 7, []) (n_v vs 1) := t1
  have k1 : 0 ≤ v_iv (n_v vs 1) ∧ v_iv (n_v vs 1) ≤ 7 := tv_rng t1
  obtain ⟨t3, hk⟩ := List.forall_mem_cons.mp hk
  have t3 : tv_ok ta (0, 0, 2000, []) (n_v vs 3) := t3
  have k3 : 0 ≤ v_iv (n_v vs 3) ∧ v_iv (n_v vs 3) ≤ 2000 := tv_rng t3
  obtain ⟨t4, hk⟩ := List.forall_mem_cons.mp hk
  have t4 : tv_ok ta (2, 0, 0, [150]) (n_v vs 4) := t4
  have r4 : ta (v_ad (n_v vs 4)) = some 150 := tv_rg t4
  obtain ⟨t5, hk⟩ := List.forall_mem_cons.mp hk
  have t5 : tv_ok ta (0, 0, 7, []) (n_v vs 5) := t5
  have k5 : 0 ≤ v_iv (n_v vs 5) ∧ v_iv (n_v vs 5) ≤ 7 := tv_rng t5
  obtain ⟨t7, hk⟩ := List.forall_mem_cons.mp hk
  have t7 : tv_ok ta (0, 0, 7, []) (n_v vs 7) := t7
  have k7 : 0 ≤ v_iv (n_v vs 7) ∧ v_iv (n_v vs 7) ≤ 7 := tv_rng t7
  obtain ⟨t12, hk⟩ := List.forall_mem_cons.mp hk
  have t12 : tv_ok ta (0, 0, 2000, []) (n_v vs 12) := t12
  have k12 : 0 ≤ v_iv (n_v vs 12) ∧ v_iv (n_v vs 12) ≤ 2000 := tv_rng t12
  have hds : ∀ q ∈ ([(1, 3, -4294967296, 7), (1, 5, -4294967296, 0), (1, 7, -4294967296, 7), (3, 1, -4294967296, 2000), (3, 5, -4294967296, 2000), (3, 7, -4294967296, 2000), (5, 1, -4294967296, 0), (5, 3, -4294967296, 7), (5, 7, -4294967296, 7), (7, 1, -4294967296, 7), (7, 3, -4294967296, 7), (7, 5, -4294967296, 7)] : List of_T), n_iv vs q.2.1 + q.2.2.1 ≤ n_iv vs q.1 ∧ n_iv vs q.1 ≤ n_iv vs q.2.1 + q.2.2.2 := hds
  obtain ⟨d0, hds⟩ := List.forall_mem_cons.mp hds
  have d0 : v_iv (n_v vs 3) + (-4294967296) ≤ v_iv (n_v vs 1) ∧ v_iv (n_v vs 1) ≤ v_iv (n_v vs 3) + 7 := d0
  obtain ⟨d1, hds⟩ := List.forall_mem_cons.mp hds
  have d1 : v_iv (n_v vs 5) + (-4294967296) ≤ v_iv (n_v vs 1) ∧ v_iv (n_v vs 1) ≤ v_iv (n_v vs 5) + 0 := d1
  obtain ⟨d2, hds⟩ := List.forall_mem_cons.mp hds
  have d2 : v_iv (n_v vs 7) + (-4294967296) ≤ v_iv (n_v vs 1) ∧ v_iv (n_v vs 1) ≤ v_iv (n_v vs 7) + 7 := d2
  obtain ⟨d3, hds⟩ := List.forall_mem_cons.mp hds
  have d3 : v_iv (n_v vs 1) + (-4294967296) ≤ v_iv (n_v vs 3) ∧ v_iv (n_v vs 3) ≤ v_iv (n_v vs 1) + 2000 := d3
  obtain ⟨d4, hds⟩ := List.forall_mem_cons.mp hds
  have d4 : v_iv (n_v vs 5) + (-4294967296) ≤ v_iv (n_v vs 3) ∧ v_iv (n_v vs 3) ≤ v_iv (n_v vs 5) + 2000 := d4
  obtain ⟨d5, hds⟩ := List.forall_mem_cons.mp hds
  have d5 : v_iv (n_v vs 7) + (-4294967296) ≤ v_iv (n_v vs 3) ∧ v_iv (n_v vs 3) ≤ v_iv (n_v vs 7) + 2000 := d5
  obtain ⟨d6, hds⟩ := List.forall_mem_cons.mp hds
  have d6 : v_iv (n_v vs 1) + (-4294967296) ≤ v_iv (n_v vs 5) ∧ v_iv (n_v vs 5) ≤ v_iv (n_v vs 1) + 0 := d6
  obtain ⟨d7, hds⟩ := List.forall_mem_cons.mp hds
  have d7 : v_iv (n_v vs 3) + (-4294967296) ≤ v_iv (n_v vs 5) ∧ v_iv (n_v vs 5) ≤ v_iv (n_v vs 3) + 7 := d7
  obtain ⟨d8, hds⟩ := List.forall_mem_cons.mp hds
  have d8 : v_iv (n_v vs 7) + (-4294967296) ≤ v_iv (n_v vs 5) ∧ v_iv (n_v vs 5) ≤ v_iv (n_v vs 7) + 7 := d8
  obtain ⟨d9, hds⟩ := List.forall_mem_cons.mp hds
  have d9 : v_iv (n_v vs 1) + (-4294967296) ≤ v_iv (n_v vs 7) ∧ v_iv (n_v vs 7) ≤ v_iv (n_v vs 1) + 7 := d9
  obtain ⟨d10, hds⟩ := List.forall_mem_cons.mp hds
  have d10 : v_iv (n_v vs 3) + (-4294967296) ≤ v_iv (n_v vs 7) ∧ v_iv (n_v vs 7) ≤ v_iv (n_v vs 3) + 7 := d10
  obtain ⟨d11, hds⟩ := List.forall_mem_cons.mp hds
  have d11 : v_iv (n_v vs 5) + (-4294967296) ≤ v_iv (n_v vs 7) ∧ v_iv (n_v vs 7) ≤ v_iv (n_v vs 5) + 7 := d11
  have hf : fc_ok [(23, [12, 3], [0, 1, -1]), (23, [12, 3], [0, -1, 1]), (20, [7, 4], [50, 1, 1, 1005, 1002, 0, 6, 4, 2, 1, 0, 0, 1, 3, 1, 2, 4, 3, 2, 1, 5, 0, 2]), (23, [5, 7], [-1, 1, -1]), (24, [0, 4], []), (24, [1, 5], []), (20, [4, 4], [30, 0, 1, 1, 15, -1, 1, 11]), (20, [4], [50, 3, 0, 12, 11, 15, 2, 21, 4, 7, 1, 3, 2, 0, 12, 0, 1, 0, 3, 2, 0, 11, 4, 3, 2, 0, 15, 0, 8, 3, 7, 1, 3, 2, 0, 12, 0, 0, 0, 7, 4, 3, 2, 0, 15, 0, 1, 2, 0, 11]), (20, [12, 4], [30, 0, 1, 0, 0, -1, 1, 11]), (20, [4, 12], [50, 2, 0, 8, 11, 3, 7, 0, 2, 0, 1, 2, 0, 8, 0, 6, 4, 2, 1, 1, 0, 1, 2, 0, 11]), (102, [12], [0, 13008, 13009, 13011, 13012, 13013, 13014, 13015]), (23, [12, 3], [0, 1, -1]), (23, [12, 3], [0, -1, 1]), (23, [5, 7], [-1, 1, -1])] ta ws vs := hf
  obtain ⟨f0, hf⟩ := fc_un (show (23 : Nat) < 100 from by decide) hf
  have f0 : 1 * v_iv (n_v vs 12) + ((-1) * v_iv (n_v vs 3) + 0) ≤ 0 := f0
  obtain ⟨f1, hf⟩ := fc_un (show (23 : Nat) < 100 from by decide) hf
  have f1 : (-1) * v_iv (n_v vs 12) + (1 * v_iv (n_v vs 3) + 0) ≤ 0 := f1
  obtain ⟨f2, hf⟩ := fc_un (show (20 : Nat) < 100 from by decide) hf
  have f2 : (v_iv (n_v vs 7) + 1) ≤ w_ei ws (w_ar ws (n_v vs 4) 2) ((w_fi ws (n_v vs 4) 5 + 2)) := f2
  obtain ⟨f3, hf⟩ := fc_un (show (23 : Nat) < 100 from by decide) hf
  have f3 : 1 * v_iv (n_v vs 5) + ((-1) * v_iv (n_v vs 7) + 0) ≤ (-1) := f3
  obtain ⟨f4, hf⟩ := fc_un (show (24 : Nat) < 100 from by decide) hf
  have f4 : n_v vs 0 = n_v vs 4 := f4
  obtain ⟨f5, hf⟩ := fc_un (show (24 : Nat) < 100 from by decide) hf
  have f5 : n_v vs 1 = n_v vs 5 := f5
  obtain ⟨f6, hf⟩ := fc_un (show (20 : Nat) < 100 from by decide) hf
  have f6 : 1 * w_fi ws (n_v vs 4) 15 + ((-1) * w_fi ws (n_v vs 4) 11 + 0) ≤ 0 := f6
  obtain ⟨f7, hf⟩ := fc_un (show (20 : Nat) < 100 from by decide) hf
  have f7 : ((w_fi ws (n_v vs 4) 12 = 1) → (w_fi ws (n_v vs 4) 11 ≤ (w_fi ws (n_v vs 4) 15 + 8))) ∧ ((w_fi ws (n_v vs 4) 12 = 0) ∨ ((w_fi ws (n_v vs 4) 15 + 1) ≤ w_fi ws (n_v vs 4) 11)) := f7
  obtain ⟨f8, hf⟩ := fc_un (show (20 : Nat) < 100 from by decide) hf
  have f8 : 1 * v_iv (n_v vs 12) + ((-1) * w_fi ws (n_v vs 4) 11 + 0) ≤ 0 := f8
  obtain ⟨f9, hf⟩ := fc_un (show (20 : Nat) < 100 from by decide) hf
  have f9 : (1 ≤ w_fi ws (n_v vs 4) 8) ∨ ((v_iv (n_v vs 12) + 1) ≤ w_fi ws (n_v vs 4) 11) := f9
  obtain ⟨ta1, w1, le1, ⟨_, s1⟩, hf⟩ := fc_us (show ¬ (102 : Nat) < 100 from by decide) hf
  obtain ⟨f11, hf⟩ := fc_un (show (23 : Nat) < 100 from by decide) hf
  have f11 : 1 * v_iv (n_v vs 12) + ((-1) * v_iv (n_v vs 3) + 0) ≤ 0 := f11
  obtain ⟨f12, hf⟩ := fc_un (show (23 : Nat) < 100 from by decide) hf
  have f12 : (-1) * v_iv (n_v vs 12) + (1 * v_iv (n_v vs 3) + 0) ≤ 0 := f12
  obtain ⟨f13, hf⟩ := fc_un (show (23 : Nat) < 100 from by decide) hf
  have f13 : 1 * v_iv (n_v vs 5) + ((-1) * v_iv (n_v vs 7) + 0) ≤ (-1) := f13
  have q4 : n_v vs 4 = n_v vs 0 := f4.symm
  have q5 : n_v vs 5 = n_v vs 1 := f5.symm
  rw [q4] at f2
  rw [q5] at f3
  rw [q4] at f6
  rw [q4] at f7
  rw [q4] at f8
  rw [q4] at f9
  rw [q5] at f13
  have cr_0_2 : ta (w_ar ws (n_v vs 0) 2) = some 152 := tv_rg (th_fd hD hth r0 (g := GG_150) rfl (k := 2) (t := (2, 0, 0, [152])) rfl rfl)
  have kz_0_8 : 0 ≤ w_fi ws (n_v vs 0) 8 ∧ w_fi ws (n_v vs 0) 8 ≤ 5 := tv_rng (th_fd hD hth r0 (g := GG_150) rfl (k := 8) (t := (0, 0, 5, [])) rfl rfl)
  have kz_0_11 : 0 ≤ w_fi ws (n_v vs 0) 11 ∧ w_fi ws (n_v vs 0) 11 ≤ 2000 := tv_rng (th_fd hD hth r0 (g := GG_150) rfl (k := 11) (t := (0, 0, 2000, [])) rfl rfl)
  have kz_0_12 : 0 ≤ w_fi ws (n_v vs 0) 12 ∧ w_fi ws (n_v vs 0) 12 ≤ 4 := tv_rng (th_fd hD hth r0 (g := GG_150) rfl (k := 12) (t := (0, 0, 4, [])) rfl rfl)
  have kz_0_15 : 0 ≤ w_fi ws (n_v vs 0) 15 ∧ w_fi ws (n_v vs 0) 15 ≤ 2000 := tv_rng (th_fd hD hth r0 (g := GG_150) rfl (k := 15) (t := (0, 0, 2000, [])) rfl rfl)
  have nf0 : fc_1 (20, [0, 0], [30, 0, 1, 1, 15, -1, 1, 11]) ws (vs) := by
    refine ⟨fun n hn => ?_, ?_⟩
    · have hn : n ∈ [0, 0] := hn
      rw [hl]
      simp only [List.mem_cons, List.not_mem_nil, or_false] at hn
      show n < 13; omega
    · show 1 * w_fi ws (n_v vs 0) 15 + ((-1) * w_fi ws (n_v vs 0) 11 + 0) ≤ 0
      omega
  have nf1 : fc_1 (20, [0], [50, 3, 0, 12, 11, 15, 2, 21, 4, 7, 1, 3, 2, 0, 12, 0, 1, 0, 3, 2, 0, 11, 4, 3, 2, 0, 15, 0, 8, 3, 7, 1, 3, 2, 0, 12, 0, 0, 0, 7, 4, 3, 2, 0, 15, 0, 1, 2, 0, 11]) ws (vs) := by
    refine ⟨fun n hn => ?_, ?_⟩
    · have hn : n ∈ [0] := hn
      rw [hl]
      simp only [List.mem_cons, List.not_mem_nil, or_false] at hn
      show n < 13; omega
    · show ((w_fi ws (n_v vs 0) 12 = 1) → (w_fi ws (n_v vs 0) 11 ≤ (w_fi ws (n_v vs 0) 15 + 8))) ∧ ((w_fi ws (n_v vs 0) 12 = 0) ∨ ((w_fi ws (n_v vs 0) 15 + 1) ≤ w_fi ws (n_v vs 0) 11))
      first | omega | grind
  have nf2 : fc_1 (20, [3, 0], [30, 0, 1, 0, 0, -1, 1, 11]) ws (vs) := by
    refine ⟨fun n hn => ?_, ?_⟩
    · have hn : n ∈ [3, 0] := hn
      rw [hl]
      simp only [List.mem_cons, List.not_mem_nil, or_false] at hn
      show n < 13; omega
    · show 1 * v_iv (n_v vs 3) + ((-1) * w_fi ws (n_v vs 0) 11 + 0) ≤ 0
      omega
  have nf3 : fc_1 (20, [0, 3], [50, 2, 0, 8, 11, 3, 7, 0, 2, 0, 1, 2, 0, 8, 0, 6, 4, 2, 1, 1, 0, 1, 2, 0, 11]) ws (vs) := by
    refine ⟨fun n hn => ?_, ?_⟩
    · have hn : n ∈ [0, 3] := hn
      rw [hl]
      simp only [List.mem_cons, List.not_mem_nil, or_false] at hn
      show n < 13; omega
    · show (1 ≤ w_fi ws (n_v vs 0) 8) ∨ ((v_iv (n_v vs 3) + 1) ≤ w_fi ws (n_v vs 0) 11)
      first | omega | grind
  have nf4 : fc_1 (20, [1, 0], [50, 1, 1, 1005, 1002, 0, 6, 4, 2, 1, 0, 0, 1, 3, 1, 2, 4, 3, 2, 1, 5, 0, 2]) ws (vs) := by
    refine ⟨fun n hn => ?_, ?_⟩
    · have hn : n ∈ [1, 0] := hn
      rw [hl]
      simp only [List.mem_cons, List.not_mem_nil, or_false] at hn
      show n < 13; omega
    · show (v_iv (n_v vs 1) + 1) ≤ w_ei ws (w_ar ws (n_v vs 0) 2) ((w_fi ws (n_v vs 0) 5 + 2))
      first | omega | grind
  refine ⟨(fun _ h => (by cases h)), [], trivial, ?_, (fun _ h => (by cases h))⟩
  rw [List.append_nil]
  exact List.forall_mem_cons.mpr ⟨⟨show (20 : Nat) < 100 from by decide, nf0⟩, List.forall_mem_cons.mpr ⟨⟨show (20 : Nat) < 100 from by decide, nf1⟩, List.forall_mem_cons.mpr ⟨⟨show (20 : Nat) < 100 from by decide, nf2⟩, List.forall_mem_cons.mpr ⟨⟨show (20 : Nat) < 100 from by decide, nf3⟩, List.forall_mem_cons.mpr ⟨⟨show (20 : Nat) < 100 from by decide, nf4⟩, (fun _ h => (by cases h))⟩⟩⟩⟩⟩
def o_Mo_groupItem_at_k2_19 : or_T := (191, 15, [(0, (2, 0, 0, [150])), (1, (0, 0, 7, [])), (3, (0, 0, 2000, [])), (4, (2, 0, 0, [150])), (5, (0, 0, 7, [])), (7, (0, 0, 7, [])), (9, (0, 0, 2005, [])), (10, (0, 0, 0, [])), (12, (0, 0, 0, []))], [(8, [12], [0]), (20, [12, 4], [50, 2, 0, 1012, 1008, 4, 6, 1, 2, 1, 0, 0, 1, 2, 7, 1, 3, 2, 1, 12, 0, 3, 1, 3, 2, 1, 8, 0, 0]), (8, [10], [0]), (9, [10, 4], [8]), (20, [4, 4], [30, 0, 1, 1, 15, -1, 1, 11]), (20, [4], [50, 3, 0, 12, 11, 15, 2, 21, 4, 7, 1, 3, 2, 0, 12, 0, 1, 0, 3, 2, 0, 11, 4, 3, 2, 0, 15, 0, 8, 3, 7, 1, 3, 2, 0, 12, 0, 0, 0, 7, 4, 3, 2, 0, 15, 0, 1, 2, 0, 11]), (20, [3, 4], [30, 0, 1, 0, 0, -1, 1, 11]), (20, [4, 3], [50, 2, 0, 8, 11, 3, 7, 0, 2, 0, 1, 2, 0, 8, 0, 6, 4, 2, 1, 1, 0, 1, 2, 0, 11]), (20, [7, 4], [50, 1, 1, 1005, 1002, 0, 6, 4, 2, 1, 0, 0, 1, 3, 1, 2, 4, 3, 2, 1, 5, 0, 2]), (23, [5, 7], [-1, 1, -1]), (24, [0, 4], []), (24, [1, 5], []), (20, [9, 4, 4], [30, 2005, 1, 0, 0, 1, 1, 11, 1, 1, 8]), (20, [9, 4, 4], [30, -2005, -1, 0, 0, -1, 1, 11, -1, 1, 8])], [], [(0, 0, 2000, [])], [(20, [4, 4], [30, 0, 1, 1, 15, -1, 1, 11]), (20, [4], [50, 3, 0, 12, 11, 15, 2, 21, 4, 7, 1, 3, 2, 0, 12, 0, 1, 0, 3, 2, 0, 11, 4, 3, 2, 0, 15, 0, 8, 3, 7, 1, 3, 2, 0, 12, 0, 0, 0, 7, 4, 3, 2, 0, 15, 0, 1, 2, 0, 11]), (20, [15, 4], [30, 0, 1, 0, 0, -1, 1, 11]), (20, [7, 4], [50, 1, 1, 1005, 1002, 0, 6, 4, 2, 1, 0, 0, 1, 3, 1, 2, 4, 3, 2, 1, 5, 0, 2]), (23, [3, 15], [-1, 1, -1]), (23, [9, 15], [-2005, -1, -1])], [], [(1, 3, -4294967296, 7), (1, 5, -4294967296, 0), (1, 7, -4294967296, 7), (3, 1, -4294967296, 2000), (3, 5, -4294967296, 2000), (3, 7, -4294967296, 2000), (5, 1, -4294967296, 0), (5, 3, -4294967296, 7), (5, 7, -4294967296, 7), (7, 1, -4294967296, 7), (7, 3, -4294967296, 7), (7, 5, -4294967296, 7)])
theorem oo_Mo_groupItem_at_k2_19 {kA : Nat → ClassId} : or_ok kA GG o_Mo_groupItem_at_k2_19 := by
  intro A ta ws vs hD hth hl hk hds hf
  have hl : vs.length = 15 := hl
  have hk : ∀ q ∈ ([(0, (2, 0, 0, [150])), (1, (0, 0, 7, [])), (3, (0, 0, 2000, [])), (4, (2, 0, 0, [150])), (5, (0, 0, 7, [])), (7, (0, 0, 7, [])), (9, (0, 0, 2005, [])), (10, (0, 0, 0, [])), (12, (0, 0, 0, []))] : List (Nat × tv_T)), tv_ok ta q.2 (n_v vs q.1) := hk
  obtain ⟨t0, hk⟩ := List.forall_mem_cons.mp hk
  have t0 : tv_ok ta (2, 0, 0, [150]) (n_v vs 0) := t0
  have r0 : ta (v_ad (n_v vs 0)) = some 150 := tv_rg t0
  obtain ⟨t1, hk⟩ := List.forall_mem_cons.mp hk
  have t1 : tv_ok ta (0, 0, 7, []) (n_v vs 1) := t1
  have k1 : 0 ≤ v_iv (n_v vs 1) ∧ v_iv (n_v vs 1) ≤ 7 := tv_rng t1
  obtain ⟨t3, hk⟩ := List.forall_mem_cons.mp hk
  have t3 : tv_ok ta (0, 0, 2000, []) (n_v vs 3) := t3
  have k3 : 0 ≤ v_iv (n_v vs 3) ∧ v_iv (n_v vs 3) ≤ 2000 := tv_rng t3
  obtain ⟨t4, hk⟩ := List.forall_mem_cons.mp hk
  have t4 : tv_ok ta (2, 0, 0, [150]) (n_v vs 4) := t4
  have r4 : ta (v_ad (n_v vs 4)) = some 150 := tv_rg t4
  obtain ⟨t5, hk⟩ := List.forall_mem_cons.mp hk
  have t5 : tv_ok ta (0, 0, 7, []) (n_v vs 5) := t5
  have k5 : 0 ≤ v_iv (n_v vs 5) ∧ v_iv (n_v vs 5) ≤ 7 := tv_rng t5
  obtain ⟨t7, hk⟩ := List.forall_mem_cons.mp hk
  have t7 : tv_ok ta (0, 0, 7, []) (n_v vs 7) := t7
  have k7 : 0 ≤ v_iv (n_v vs 7) ∧ v_iv (n_v vs 7) ≤ 7 := tv_rng t7
  obtain ⟨t9, hk⟩ := List.forall_mem_cons.mp hk
  have t9 : tv_ok ta (0, 0, 2005, []) (n_v vs 9) := t9
  have k9 : 0 ≤ v_iv (n_v vs 9) ∧ v_iv (n_v vs 9) ≤ 2005 := tv_rng t9
  obtain ⟨t10, hk⟩ := List.forall_mem_cons.mp hk
  have t10 : tv_ok ta (0, 0, 0, []) (n_v vs 10) := t10
  have k10 : 0 ≤ v_iv (n_v vs 10) ∧ v_iv (n_v vs 10) ≤ 0 := tv_rng t10
  obtain ⟨t12, hk⟩ := List.forall_mem_cons.mp hk
  have t12 : tv_ok ta (0, 0, 0, []) (n_v vs 12) := t12
  have k12 : 0 ≤ v_iv (n_v vs 12) ∧ v_iv (n_v vs 12) ≤ 0 := tv_rng t12
  have hds : ∀ q ∈ ([(1, 3, -4294967296, 7), (1, 5, -4294967296, 0), (1, 7, -4294967296, 7), (3, 1, -4294967296, 2000), (3, 5, -4294967296, 2000), (3, 7, -4294967296, 2000), (5, 1, -4294967296, 0), (5, 3, -4294967296, 7), (5, 7, -4294967296, 7), (7, 1, -4294967296, 7), (7, 3, -4294967296, 7), (7, 5, -4294967296, 7)] : List of_T), n_iv vs q.2.1 + q.2.2.1 ≤ n_iv vs q.1 ∧ n_iv vs q.1 ≤ n_iv vs q.2.1 + q.2.2.2 := hds
  obtain ⟨d0, hds⟩ := List.forall_mem_cons.mp hds
  have d0 : v_iv (n_v vs 3) + (-4294967296) ≤ v_iv (n_v vs 1) ∧ v_iv (n_v vs 1) ≤ v_iv (n_v vs 3) + 7 := d0
  obtain ⟨d1, hds⟩ := List.forall_mem_cons.mp hds
  have d1 : v_iv (n_v vs 5) + (-4294967296) ≤ v_iv (n_v vs 1) ∧ v_iv (n_v vs 1) ≤ v_iv (n_v vs 5) + 0 := d1
  obtain ⟨d2, hds⟩ := List.forall_mem_cons.mp hds
  have d2 : v_iv (n_v vs 7) + (-4294967296) ≤ v_iv (n_v vs 1) ∧ v_iv (n_v vs 1) ≤ v_iv (n_v vs 7) + 7 := d2
  obtain ⟨d3, hds⟩ := List.forall_mem_cons.mp hds
  have d3 : v_iv (n_v vs 1) + (-4294967296) ≤ v_iv (n_v vs 3) ∧ v_iv (n_v vs 3) ≤ v_iv (n_v vs 1) + 2000 := d3
  obtain ⟨d4, hds⟩ := List.forall_mem_cons.mp hds
  have d4 : v_iv (n_v vs 5) + (-4294967296) ≤ v_iv (n_v vs 3) ∧ v_iv (n_v vs 3) ≤ v_iv (n_v vs 5) + 2000 := d4
  obtain ⟨d5, hds⟩ := List.forall_mem_cons.mp hds
  have d5 : v_iv (n_v vs 7) + (-4294967296) ≤ v_iv (n_v vs 3) ∧ v_iv (n_v vs 3) ≤ v_iv (n_v vs 7) + 2000 := d5
  obtain ⟨d6, hds⟩ := List.forall_mem_cons.mp hds
  have d6 : v_iv (n_v vs 1) + (-4294967296) ≤ v_iv (n_v vs 5) ∧ v_iv (n_v vs 5) ≤ v_iv (n_v vs 1) + 0 := d6
  obtain ⟨d7, hds⟩ := List.forall_mem_cons.mp hds
  have d7 : v_iv (n_v vs 3) + (-4294967296) ≤ v_iv (n_v vs 5) ∧ v_iv (n_v vs 5) ≤ v_iv (n_v vs 3) + 7 := d7
  obtain ⟨d8, hds⟩ := List.forall_mem_cons.mp hds
  have d8 : v_iv (n_v vs 7) + (-4294967296) ≤ v_iv (n_v vs 5) ∧ v_iv (n_v vs 5) ≤ v_iv (n_v vs 7) + 7 := d8
  obtain ⟨d9, hds⟩ := List.forall_mem_cons.mp hds
  have d9 : v_iv (n_v vs 1) + (-4294967296) ≤ v_iv (n_v vs 7) ∧ v_iv (n_v vs 7) ≤ v_iv (n_v vs 1) + 7 := d9
  obtain ⟨d10, hds⟩ := List.forall_mem_cons.mp hds
  have d10 : v_iv (n_v vs 3) + (-4294967296) ≤ v_iv (n_v vs 7) ∧ v_iv (n_v vs 7) ≤ v_iv (n_v vs 3) + 7 := d10
  obtain ⟨d11, hds⟩ := List.forall_mem_cons.mp hds
  have d11 : v_iv (n_v vs 5) + (-4294967296) ≤ v_iv (n_v vs 7) ∧ v_iv (n_v vs 7) ≤ v_iv (n_v vs 5) + 7 := d11
  have hf : fc_ok [(8, [12], [0]), (20, [12, 4], [50, 2, 0, 1012, 1008, 4, 6, 1, 2, 1, 0, 0, 1, 2, 7, 1, 3, 2, 1, 12, 0, 3, 1, 3, 2, 1, 8, 0, 0]), (8, [10], [0]), (9, [10, 4], [8]), (20, [4, 4], [30, 0, 1, 1, 15, -1, 1, 11]), (20, [4], [50, 3, 0, 12, 11, 15, 2, 21, 4, 7, 1, 3, 2, 0, 12, 0, 1, 0, 3, 2, 0, 11, 4, 3, 2, 0, 15, 0, 8, 3, 7, 1, 3, 2, 0, 12, 0, 0, 0, 7, 4, 3, 2, 0, 15, 0, 1, 2, 0, 11]), (20, [3, 4], [30, 0, 1, 0, 0, -1, 1, 11]), (20, [4, 3], [50, 2, 0, 8, 11, 3, 7, 0, 2, 0, 1, 2, 0, 8, 0, 6, 4, 2, 1, 1, 0, 1, 2, 0, 11]), (20, [7, 4], [50, 1, 1, 1005, 1002, 0, 6, 4, 2, 1, 0, 0, 1, 3, 1, 2, 4, 3, 2, 1, 5, 0, 2]), (23, [5, 7], [-1, 1, -1]), (24, [0, 4], []), (24, [1, 5], []), (20, [9, 4, 4], [30, 2005, 1, 0, 0, 1, 1, 11, 1, 1, 8]), (20, [9, 4, 4], [30, -2005, -1, 0, 0, -1, 1, 11, -1, 1, 8])] ta ws vs := hf
  obtain ⟨f0, hf⟩ := fc_un (show (8 : Nat) < 100 from by decide) hf
  have f0 : v_iv (n_v vs 12) = 0 := f0
  obtain ⟨f1, hf⟩ := fc_un (show (20 : Nat) < 100 from by decide) hf
  have f1 : (v_iv (n_v vs 12) = 1) → ((w_fi ws (n_v vs 4) 12 = 3) ∧ (w_fi ws (n_v vs 4) 8 = 0)) := f1
  obtain ⟨f2, hf⟩ := fc_un (show (8 : Nat) < 100 from by decide) hf
  have f2 : v_iv (n_v vs 10) = 0 := f2
  obtain ⟨f3, hf⟩ := fc_un (show (9 : Nat) < 100 from by decide) hf
  have f3 : n_v vs 10 = w_fd ws (v_ad (n_v vs 4)) 8 := f3
  obtain ⟨f4, hf⟩ := fc_un (show (20 : Nat) < 100 from by decide) hf
  have f4 : 1 * w_fi ws (n_v vs 4) 15 + ((-1) * w_fi ws (n_v vs 4) 11 + 0) ≤ 0 := f4
  obtain ⟨f5, hf⟩ := fc_un (show (20 : Nat) < 100 from by decide) hf
  have f5 : ((w_fi ws (n_v vs 4) 12 = 1) → (w_fi ws (n_v vs 4) 11 ≤ (w_fi ws (n_v vs 4) 15 + 8))) ∧ ((w_fi ws (n_v vs 4) 12 = 0) ∨ ((w_fi ws (n_v vs 4) 15 + 1) ≤ w_fi ws (n_v vs 4) 11)) := f5
  obtain ⟨f6, hf⟩ := fc_un (show (20 : Nat) < 100 from by decide) hf
  have f6 : 1 * v_iv (n_v vs 3) + ((-1) * w_fi ws (n_v vs 4) 11 + 0) ≤ 0 := f6
  obtain ⟨f7, hf⟩ := fc_un (show (20 : Nat) < 100 from by decide) hf
  have f7 : (1 ≤ w_fi ws (n_v vs 4) 8) ∨ ((v_iv (n_v vs 3) + 1) ≤ w_fi ws (n_v vs 4) 11) := f7
  obtain ⟨f8, hf⟩ := fc_un (show (20 : Nat) < 100 from by decide) hf
  have f8 : (v_iv (n_v vs 7) + 1) ≤ w_ei ws (w_ar ws (n_v vs 4) 2) ((w_fi ws (n_v vs 4) 5 + 2)) := f8
  obtain ⟨f9, hf⟩ := fc_un (show (23 : Nat) < 100 from by decide) hf
  have f9 : 1 * v_iv (n_v vs 5) + ((-1) * v_iv (n_v vs 7) + 0) ≤ (-1) := f9
  obtain ⟨f10, hf⟩ := fc_un (show (24 : Nat) < 100 from by decide) hf
  have f10 : n_v vs 0 = n_v vs 4 := f10
  obtain ⟨f11, hf⟩ := fc_un (show (24 : Nat) < 100 from by decide) hf
  have f11 : n_v vs 1 = n_v vs 5 := f11
  obtain ⟨f12, hf⟩ := fc_un (show (20 : Nat) < 100 from by decide) hf
  have f12 : 1 * v_iv (n_v vs 9) + (1 * w_fi ws (n_v vs 4) 11 + (1 * w_fi ws (n_v vs 4) 8 + 0)) ≤ 2005 := f12
  obtain ⟨f13, hf⟩ := fc_un (show (20 : Nat) < 100 from by decide) hf
  have f13 : (-1) * v_iv (n_v vs 9) + ((-1) * w_fi ws (n_v vs 4) 11 + ((-1) * w_fi ws (n_v vs 4) 8 + 0)) ≤ (-2005) := f13
  have q4 : n_v vs 4 = n_v vs 0 := f10.symm
  have q5 : n_v vs 5 = n_v vs 1 := f11.symm
  rw [q4] at f1
  rw [q4] at f3
  rw [q4] at f4
  rw [q4] at f5
  rw [q4] at f6
  rw [q4] at f7
  rw [q4] at f8
  rw [q5] at f9
  rw [q4] at f12
  rw [q4] at f13
  have cr_0_2 : ta (w_ar ws (n_v vs 0) 2) = some 152 := tv_rg (th_fd hD hth r0 (g := GG_150) rfl (k := 2) (t := (2, 0, 0, [152])) rfl rfl)
  have g3 : v_iv (n_v vs 10) = w_fi ws (n_v vs 0) 8 := congrArg v_iv f3
  have kz_0_8 : 0 ≤ w_fi ws (n_v vs 0) 8 ∧ w_fi ws (n_v vs 0) 8 ≤ 5 := tv_rng (th_fd hD hth r0 (g := GG_150) rfl (k := 8) (t := (0, 0, 5, [])) rfl rfl)
  have kz_0_11 : 0 ≤ w_fi ws (n_v vs 0) 11 ∧ w_fi ws (n_v vs 0) 11 ≤ 2000 := tv_rng (th_fd hD hth r0 (g := GG_150) rfl (k := 11) (t := (0, 0, 2000, [])) rfl rfl)
  have kz_0_12 : 0 ≤ w_fi ws (n_v vs 0) 12 ∧ w_fi ws (n_v vs 0) 12 ≤ 4 := tv_rng (th_fd hD hth r0 (g := GG_150) rfl (k := 12) (t := (0, 0, 4, [])) rfl rfl)
  have kz_0_15 : 0 ≤ w_fi ws (n_v vs 0) 15 ∧ w_fi ws (n_v vs 0) 15 ≤ 2000 := tv_rng (th_fd hD hth r0 (g := GG_150) rfl (k := 15) (t := (0, 0, 2000, [])) rfl rfl)
  have kv0 : 0 ≤ w_fi ws (n_v vs 0) 11 ∧ w_fi ws (n_v vs 0) 11 ≤ 2000 := tv_rng (th_fd hD hth r0 (g := GG_150) rfl (k := 11) (t := (0, 0, 2000, [])) rfl rfl)
  obtain ⟨x, ex, hx⟩ := iv_ex (ta := ta) (lo := 0) (hi := 2000) (z := w_fi ws (n_v vs 0) 11) (by omega) (by omega) (by omega) (by omega)
  have ex2 : v_iv (Value.int x) = w_fi ws (n_v vs 0) 11 := ex
  have ex3 : 0 ≤ v_iv (Value.int x) ∧ v_iv (Value.int x) ≤ 2000 := tv_rng hx
  have e_3 : n_v (vs ++ [Value.int x]) 3 = n_v vs 3 := n_v_old (by rw [hl]; decide)
  have e_4 : n_v (vs ++ [Value.int x]) 4 = n_v vs 4 := n_v_old (by rw [hl]; decide)
  have e_7 : n_v (vs ++ [Value.int x]) 7 = n_v vs 7 := n_v_old (by rw [hl]; decide)
  have e_9 : n_v (vs ++ [Value.int x]) 9 = n_v vs 9 := n_v_old (by rw [hl]; decide)
  have e_15 : n_v (vs ++ [Value.int x]) 15 = Value.int x := n_v_new hl
  have nf0 : fc_1 (20, [4, 4], [30, 0, 1, 1, 15, -1, 1, 11]) ws (vs ++ [Value.int x]) := by
    refine ⟨fun n hn => ?_, ?_⟩
    · have hn : n ∈ [4, 4] := hn
      rw [List.length_append, hl]
      simp only [List.mem_cons, List.not_mem_nil, or_false] at hn
      show n < 15 + 1; omega
    · show 1 * w_fi ws (n_v (vs ++ [Value.int x]) 4) 15 + ((-1) * w_fi ws (n_v (vs ++ [Value.int x]) 4) 11 + 0) ≤ 0
      rw [e_4]
      rw [q4]
      omega
  have nf1 : fc_1 (20, [4], [50, 3, 0, 12, 11, 15, 2, 21, 4, 7, 1, 3, 2, 0, 12, 0, 1, 0, 3, 2, 0, 11, 4, 3, 2, 0, 15, 0, 8, 3, 7, 1, 3, 2, 0, 12, 0, 0, 0, 7, 4, 3, 2, 0, 15, 0, 1, 2, 0, 11]) ws (vs ++ [Value.int x]) := by
    refine ⟨fun n hn => ?_, ?_⟩
    · have hn : n ∈ [4] := hn
      rw [List.length_append, hl]
      simp only [List.mem_cons, List.not_mem_nil, or_false] at hn
      show n < 15 + 1; omega
    · show ((w_fi ws (n_v (vs ++ [Value.int x]) 4) 12 = 1) → (w_fi ws (n_v (vs ++ [Value.int x]) 4) 11 ≤ (w_fi ws (n_v (vs ++ [Value.int x]) 4) 15 + 8))) ∧ ((w_fi ws (n_v (vs ++ [Value.int x]) 4) 12 = 0) ∨ ((w_fi ws (n_v (vs ++ [Value.int x]) 4) 15 + 1) ≤ w_fi ws (n_v (vs ++ [Value.int x]) 4) 11))
      rw [e_4]
      rw [q4]
      first | omega | grind
  have nf2 : fc_1 (20, [15, 4], [30, 0, 1, 0, 0, -1, 1, 11]) ws (vs ++ [Value.int x]) := by
    refine ⟨fun n hn => ?_, ?_⟩
    · have hn : n ∈ [15, 4] := hn
      rw [List.length_append, hl]
      simp only [List.mem_cons, List.not_mem_nil, or_false] at hn
      show n < 15 + 1; omega
    · show 1 * v_iv (n_v (vs ++ [Value.int x]) 15) + ((-1) * w_fi ws (n_v (vs ++ [Value.int x]) 4) 11 + 0) ≤ 0
      rw [e_4]
      rw [e_15]
      rw [q4]
      omega
  have nf3 : fc_1 (20, [7, 4], [50, 1, 1, 1005, 1002, 0, 6, 4, 2, 1, 0, 0, 1, 3, 1, 2, 4, 3, 2, 1, 5, 0, 2]) ws (vs ++ [Value.int x]) := by
    refine ⟨fun n hn => ?_, ?_⟩
    · have hn : n ∈ [7, 4] := hn
      rw [List.length_append, hl]
      simp only [List.mem_cons, List.not_mem_nil, or_false] at hn
      show n < 15 + 1; omega
    · show (v_iv (n_v (vs ++ [Value.int x]) 7) + 1) ≤ w_ei ws (w_ar ws (n_v (vs ++ [Value.int x]) 4) 2) ((w_fi ws (n_v (vs ++ [Value.int x]) 4) 5 + 2))
      rw [e_4]
      rw [e_7]
      rw [q4]
      first | omega | grind
  have nf4 : fc_1 (23, [3, 15], [-1, 1, -1]) ws (vs ++ [Value.int x]) := by
    refine ⟨fun n hn => ?_, ?_⟩
    · have hn : n ∈ [3, 15] := hn
      rw [List.length_append, hl]
      simp only [List.mem_cons, List.not_mem_nil, or_false] at hn
      show n < 15 + 1; omega
    · show 1 * v_iv (n_v (vs ++ [Value.int x]) 3) + ((-1) * v_iv (n_v (vs ++ [Value.int x]) 15) + 0) ≤ (-1)
      rw [e_3]
      rw [e_15]
      omega
  have nf5 : fc_1 (23, [9, 15], [-2005, -1, -1]) ws (vs ++ [Value.int x]) := by
    refine ⟨fun n hn => ?_, ?_⟩
    · have hn : n ∈ [9, 15] := hn
      rw [List.length_append, hl]
      simp only [List.mem_cons, List.not_mem_nil, or_false] at hn
      show n < 15 + 1; omega
    · show (-1) * v_iv (n_v (vs ++ [Value.int x]) 9) + ((-1) * v_iv (n_v (vs ++ [Value.int x]) 15) + 0) ≤ (-2005)
      rw [e_9]
      rw [e_15]
      omega
  exact ⟨(fun _ h => (by cases h)), [Value.int x], ag_one hx, List.forall_mem_cons.mpr ⟨⟨show (20 : Nat) < 100 from by decide, nf0⟩, List.forall_mem_cons.mpr ⟨⟨show (20 : Nat) < 100 from by decide, nf1⟩, List.forall_mem_cons.mpr ⟨⟨show (20 : Nat) < 100 from by decide, nf2⟩, List.forall_mem_cons.mpr ⟨⟨show (20 : Nat) < 100 from by decide, nf3⟩, List.forall_mem_cons.mpr ⟨⟨show (23 : Nat) < 100 from by decide, nf4⟩, List.forall_mem_cons.mpr ⟨⟨show (23 : Nat) < 100 from by decide, nf5⟩, (fun _ h => (by cases h))⟩⟩⟩⟩⟩⟩, (fun _ h => (by cases h))⟩
def o_Mo_groupItem_at_k2_20 : or_T := (194, 16, [(0, (2, 0, 0, [150])), (1, (0, 0, 7, [])), (3, (0, 0, 2000, [])), (4, (2, 0, 0, [150])), (5, (0, 0, 7, [])), (7, (0, 0, 7, [])), (9, (0, 0, 2005, [])), (15, (0, 0, 2000, []))], [(23, [3, 15], [-1, 1, -1]), (23, [9, 15], [-2005, -1, -1]), (23, [5, 7], [-1, 1, -1]), (24, [0, 4], []), (24, [1, 5], []), (20, [4, 4], [30, 0, 1, 1, 15, -1, 1, 11]), (20, [4], [50, 3, 0, 12, 11, 15, 2, 21, 4, 7, 1, 3, 2, 0, 12, 0, 1, 0, 3, 2, 0, 11, 4, 3, 2, 0, 15, 0, 8, 3, 7, 1, 3, 2, 0, 12, 0, 0, 0, 7, 4, 3, 2, 0, 15, 0, 1, 2, 0, 11]), (20, [15, 4], [30, 0, 1, 0, 0, -1, 1, 11]), (20, [4, 15], [50, 2, 0, 8, 11, 3, 7, 0, 2, 0, 1, 2, 0, 8, 0, 6, 4, 2, 1, 1, 0, 1, 2, 0, 11]), (20, [7, 4], [50, 1, 1, 1005, 1002, 0, 6, 4, 2, 1, 0, 0, 1, 3, 1, 2, 4, 3, 2, 1, 5, 0, 2]), (102, [15], [5708990770823839524233143877797980545530986496, 13008, 13009, 13011, 13012, 13013, 13014, 13015]), (23, [3, 15], [-1, 1, -1]), (23, [9, 15], [-2005, -1, -1]), (23, [5, 7], [-1, 1, -1])], [], [(0, 0, 2005, [])], [(20, [4, 4], [30, 0, 1, 1, 15, -1, 1, 11]), (20, [4], [50, 3, 0, 12, 11, 15, 2, 21, 4, 7, 1, 3, 2, 0, 12, 0, 1, 0, 3, 2, 0, 11, 4, 3, 2, 0, 15, 0, 8, 3, 7, 1, 3, 2, 0, 12, 0, 0, 0, 7, 4, 3, 2, 0, 15, 0, 1, 2, 0, 11]), (20, [3, 4], [30, 0, 1, 0, 0, -1, 1, 11]), (20, [4, 3], [50, 2, 0, 8, 11, 3, 7, 0, 2, 0, 1, 2, 0, 8, 0, 6, 4, 2, 1, 1, 0, 1, 2, 0, 11]), (20, [7, 4], [50, 1, 1, 1005, 1002, 0, 6, 4, 2, 1, 0, 0, 1, 3, 1, 2, 4, 3, 2, 1, 5, 0, 2]), (23, [5, 7], [-1, 1, -1]), (20, [16, 4, 4], [30, -2006, -1, 0, 0, -1, 1, 11, -1, 1, 8]), (24, [0, 4], []), (24, [1, 5], [])], [(16, 9, 0, 0)], [(1, 3, -4294967296, 7), (1, 5, -4294967296, 0), (1, 7, -4294967296, 7), (3, 1, -4294967296, 2000), (3, 5, -4294967296, 2000), (3, 7, -4294967296, 2000), (5, 1, -4294967296, 0), (5, 3, -4294967296, 7), (5, 7, -4294967296, 7), (7, 1, -4294967296, 7), (7, 3, -4294967296, 7), (7, 5, -4294967296, 7)])
theorem oo_Mo_groupItem_at_k2_20 {kA : Nat → ClassId} : or_ok kA GG o_Mo_groupItem_at_k2_20 := by
  intro A ta ws vs hD hth hl hk hds hf
  have hl : vs.length = 16 := hl
  have hk : ∀ q ∈ ([(0, (2, 0, 0, [150])), (1, (0, 0, 7, [])), (3, (0, 0, 2000, [])), (4, (2, 0, 0, [150])), (5, (0, 0, 7, [])), (7, (0, 0, 7, [])), (9, (0, 0, 2005, [])), (15, (0, 0, 2000, []))] : List (Nat × tv_T)), tv_ok ta q.2 (n_v vs q.1) := hk
  obtain ⟨t0, hk⟩ := List.forall_mem_cons.mp hk
  have t0 : tv_ok ta (2, 0, 0, [150]) (n_v vs 0) := t0
  have r0 : ta (v_ad (n_v vs 0)) = some 150 := tv_rg t0
  obtain ⟨t1, hk⟩ := List.forall_mem_cons.mp hk
  have t1 : tv_ok ta (0, 0, 7, []) (n_v vs 1) := t1
  have k1 : 0 ≤ v_iv (n_v vs 1) ∧ v_iv (n_v vs 1) ≤ 7 := tv_rng t1
  obtain ⟨t3, hk⟩ := List.forall_mem_cons.mp hk
  have t3 : tv_ok ta (0, 0, 2000, []) (n_v vs 3) := t3
  have k3 : 0 ≤ v_iv (n_v vs 3) ∧ v_iv (n_v vs 3) ≤ 2000 := tv_rng t3
  obtain ⟨t4, hk⟩ := List.forall_mem_cons.mp hk
  have t4 : tv_ok ta (2, 0, 0, [150]) (n_v vs 4) := t4
  have r4 : ta (v_ad (n_v vs 4)) = some 150 := tv_rg t4
  obtain ⟨t5, hk⟩ := List.forall_mem_cons.mp hk
  have t5 : tv_ok ta (0, 0, 7, []) (n_v vs 5) := t5
  have k5 : 0 ≤ v_iv (n_v vs 5) ∧ v_iv (n_v vs 5) ≤ 7 := tv_rng t5
  obtain ⟨t7, hk⟩ := List.forall_mem_cons.mp hk
  have t7 : tv_ok ta (0, 0, 7, []) (n_v vs 7) := t7
  have k7 : 0 ≤ v_iv (n_v vs 7) ∧ v_iv (n_v vs 7) ≤ 7 := tv_rng t7
  obtain ⟨t9, hk⟩ := List.forall_mem_cons.mp hk
  have t9 : tv_ok ta (0, 0, 2005, []) (n_v vs 9) := t9
  have k9 : 0 ≤ v_iv (n_v vs 9) ∧ v_iv (n_v vs 9) ≤ 2005 := tv_rng t9
  obtain ⟨t15, hk⟩ := List.forall_mem_cons.mp hk
  have t15 : tv_ok ta (0, 0, 2000, []) (n_v vs 15) := t15
  have k15 : 0 ≤ v_iv (n_v vs 15) ∧ v_iv (n_v vs 15) ≤ 2000 := tv_rng t15
  have hds : ∀ q ∈ ([(1, 3, -4294967296, 7), (1, 5, -4294967296, 0), (1, 7, -4294967296, 7), (3, 1, -4294967296, 2000), (3, 5, -4294967296, 2000), (3, 7, -4294967296, 2000), (5, 1, -4294967296, 0), (5, 3, -4294967296, 7), (5, 7, -4294967296, 7), (7, 1, -4294967296, 7), (7, 3, -4294967296, 7), (7, 5, -4294967296, 7)] : List of_T), n_iv vs q.2.1 + q.2.2.1 ≤ n_iv vs q.1 ∧ n_iv vs q.1 ≤ n_iv vs q.2.1 + q.2.2.2 := hds
  obtain ⟨d0, hds⟩ := List.forall_mem_cons.mp hds
  have d0 : v_iv (n_v vs 3) + (-4294967296) ≤ v_iv (n_v vs 1) ∧ v_iv (n_v vs 1) ≤ v_iv (n_v vs 3) + 7 := d0
  obtain ⟨d1, hds⟩ := List.forall_mem_cons.mp hds
  have d1 : v_iv (n_v vs 5) + (-4294967296) ≤ v_iv (n_v vs 1) ∧ v_iv (n_v vs 1) ≤ v_iv (n_v vs 5) + 0 := d1
  obtain ⟨d2, hds⟩ := List.forall_mem_cons.mp hds
  have d2 : v_iv (n_v vs 7) + (-4294967296) ≤ v_iv (n_v vs 1) ∧ v_iv (n_v vs 1) ≤ v_iv (n_v vs 7) + 7 := d2
  obtain ⟨d3, hds⟩ := List.forall_mem_cons.mp hds
  have d3 : v_iv (n_v vs 1) + (-4294967296) ≤ v_iv (n_v vs 3) ∧ v_iv (n_v vs 3) ≤ v_iv (n_v vs 1) + 2000 := d3
  obtain ⟨d4, hds⟩ := List.forall_mem_cons.mp hds
  have d4 : v_iv (n_v vs 5) + (-4294967296) ≤ v_iv (n_v vs 3) ∧ v_iv (n_v vs 3) ≤ v_iv (n_v vs 5) + 2000 := d4
  obtain ⟨d5, hds⟩ := List.forall_mem_cons.mp hds
  have d5 : v_iv (n_v vs 7) + (-4294967296) ≤ v_iv (n_v vs 3) ∧ v_iv (n_v vs 3) ≤ v_iv (n_v vs 7) + 2000 := d5
  obtain ⟨d6, hds⟩ := List.forall_mem_cons.mp hds
  have d6 : v_iv (n_v vs 1) + (-4294967296) ≤ v_iv (n_v vs 5) ∧ v_iv (n_v vs 5) ≤ v_iv (n_v vs 1) + 0 := d6
  obtain ⟨d7, hds⟩ := List.forall_mem_cons.mp hds
  have d7 : v_iv (n_v vs 3) + (-4294967296) ≤ v_iv (n_v vs 5) ∧ v_iv (n_v vs 5) ≤ v_iv (n_v vs 3) + 7 := d7
  obtain ⟨d8, hds⟩ := List.forall_mem_cons.mp hds
  have d8 : v_iv (n_v vs 7) + (-4294967296) ≤ v_iv (n_v vs 5) ∧ v_iv (n_v vs 5) ≤ v_iv (n_v vs 7) + 7 := d8
  obtain ⟨d9, hds⟩ := List.forall_mem_cons.mp hds
  have d9 : v_iv (n_v vs 1) + (-4294967296) ≤ v_iv (n_v vs 7) ∧ v_iv (n_v vs 7) ≤ v_iv (n_v vs 1) + 7 := d9
  obtain ⟨d10, hds⟩ := List.forall_mem_cons.mp hds
  have d10 : v_iv (n_v vs 3) + (-4294967296) ≤ v_iv (n_v vs 7) ∧ v_iv (n_v vs 7) ≤ v_iv (n_v vs 3) + 7 := d10
  obtain ⟨d11, hds⟩ := List.forall_mem_cons.mp hds
  have d11 : v_iv (n_v vs 5) + (-4294967296) ≤ v_iv (n_v vs 7) ∧ v_iv (n_v vs 7) ≤ v_iv (n_v vs 5) + 7 := d11
  have hf : fc_ok [(23, [3, 15], [-1, 1, -1]), (23, [9, 15], [-2005, -1, -1]), (23, [5, 7], [-1, 1, -1]), (24, [0, 4], []), (24, [1, 5], []), (20, [4, 4], [30, 0, 1, 1, 15, -1, 1, 11]), (20, [4], [50, 3, 0, 12, 11, 15, 2, 21, 4, 7, 1, 3, 2, 0, 12, 0, 1, 0, 3, 2, 0, 11, 4, 3, 2, 0, 15, 0, 8, 3, 7, 1, 3, 2, 0, 12, 0, 0, 0, 7, 4, 3, 2, 0, 15, 0, 1, 2, 0, 11]), (20, [15, 4], [30, 0, 1, 0, 0, -1, 1, 11]), (20, [4, 15], [50, 2, 0, 8, 11, 3, 7, 0, 2, 0, 1, 2, 0, 8, 0, 6, 4, 2, 1, 1, 0, 1, 2, 0, 11]), (20, [7, 4], [50, 1, 1, 1005, 1002, 0, 6, 4, 2, 1, 0, 0, 1, 3, 1, 2, 4, 3, 2, 1, 5, 0, 2]), (102, [15], [5708990770823839524233143877797980545530986496, 13008, 13009, 13011, 13012, 13013, 13014, 13015]), (23, [3, 15], [-1, 1, -1]), (23, [9, 15], [-2005, -1, -1]), (23, [5, 7], [-1, 1, -1])] ta ws vs := hf
  obtain ⟨f0, hf⟩ := fc_un (show (23 : Nat) < 100 from by decide) hf
  have f0 : 1 * v_iv (n_v vs 3) + ((-1) * v_iv (n_v vs 15) + 0) ≤ (-1) := f0
  obtain ⟨f1, hf⟩ := fc_un (show (23 : Nat) < 100 from by decide) hf
  have f1 : (-1) * v_iv (n_v vs 9) + ((-1) * v_iv (n_v vs 15) + 0) ≤ (-2005) := f1
  obtain ⟨f2, hf⟩ := fc_un (show (23 : Nat) < 100 from by decide) hf
  have f2 : 1 * v_iv (n_v vs 5) + ((-1) * v_iv (n_v vs 7) + 0) ≤ (-1) := f2
  obtain ⟨f3, hf⟩ := fc_un (show (24 : Nat) < 100 from by decide) hf
  have f3 : n_v vs 0 = n_v vs 4 := f3
  obtain ⟨f4, hf⟩ := fc_un (show (24 : Nat) < 100 from by decide) hf
  have f4 : n_v vs 1 = n_v vs 5 := f4
  obtain ⟨f5, hf⟩ := fc_un (show (20 : Nat) < 100 from by decide) hf
  have f5 : 1 * w_fi ws (n_v vs 4) 15 + ((-1) * w_fi ws (n_v vs 4) 11 + 0) ≤ 0 := f5
  obtain ⟨f6, hf⟩ := fc_un (show (20 : Nat) < 100 from by decide) hf
  have f6 : ((w_fi ws (n_v vs 4) 12 = 1) → (w_fi ws (n_v vs 4) 11 ≤ (w_fi ws (n_v vs 4) 15 + 8))) ∧ ((w_fi ws (n_v vs 4) 12 = 0) ∨ ((w_fi ws (n_v vs 4) 15 + 1) ≤ w_fi ws (n_v vs 4) 11)) := f6
  obtain ⟨f7, hf⟩ := fc_un (show (20 : Nat) < 100 from by decide) hf
  have f7 : 1 * v_iv (n_v vs 15) + ((-1) * w_fi ws (n_v vs 4) 11 + 0) ≤ 0 := f7
  obtain ⟨f8, hf⟩ := fc_un (show (20 : Nat) < 100 from by decide) hf
  have f8 : (1 ≤ w_fi ws (n_v vs 4) 8) ∨ ((v_iv (n_v vs 15) + 1) ≤ w_fi ws (n_v vs 4) 11) := f8
  obtain ⟨f9, hf⟩ := fc_un (show (20 : Nat) < 100 from by decide) hf
  have f9 : (v_iv (n_v vs 7) + 1) ≤ w_ei ws (w_ar ws (n_v vs 4) 2) ((w_fi ws (n_v vs 4) 5 + 2)) := f9
  obtain ⟨ta1, w1, le1, ⟨_, s1⟩, hf⟩ := fc_us (show ¬ (102 : Nat) < 100 from by decide) hf
  obtain ⟨f11, hf⟩ := fc_un (show (23 : Nat) < 100 from by decide) hf
  have f11 : 1 * v_iv (n_v vs 3) + ((-1) * v_iv (n_v vs 15) + 0) ≤ (-1) := f11
  obtain ⟨f12, hf⟩ := fc_un (show (23 : Nat) < 100 from by decide) hf
  have f12 : (-1) * v_iv (n_v vs 9) + ((-1) * v_iv (n_v vs 15) + 0) ≤ (-2005) := f12
  obtain ⟨f13, hf⟩ := fc_un (show (23 : Nat) < 100 from by decide) hf
  have f13 : 1 * v_iv (n_v vs 5) + ((-1) * v_iv (n_v vs 7) + 0) ≤ (-1) := f13
  have q4 : n_v vs 4 = n_v vs 0 := f3.symm
  have q5 : n_v vs 5 = n_v vs 1 := f4.symm
  rw [q5] at f2
  rw [q4] at f5
  rw [q4] at f6
  rw [q4] at f7
  rw [q4] at f8
  rw [q4] at f9
  rw [q5] at f13
  have cr_0_2 : ta (w_ar ws (n_v vs 0) 2) = some 152 := tv_rg (th_fd hD hth r0 (g := GG_150) rfl (k := 2) (t := (2, 0, 0, [152])) rfl rfl)
  have kz_0_8 : 0 ≤ w_fi ws (n_v vs 0) 8 ∧ w_fi ws (n_v vs 0) 8 ≤ 5 := tv_rng (th_fd hD hth r0 (g := GG_150) rfl (k := 8) (t := (0, 0, 5, [])) rfl rfl)
  have kz_0_11 : 0 ≤ w_fi ws (n_v vs 0) 11 ∧ w_fi ws (n_v vs 0) 11 ≤ 2000 := tv_rng (th_fd hD hth r0 (g := GG_150) rfl (k := 11) (t := (0, 0, 2000, [])) rfl rfl)
  have kz_0_12 : 0 ≤ w_fi ws (n_v vs 0) 12 ∧ w_fi ws (n_v vs 0) 12 ≤ 4 := tv_rng (th_fd hD hth r0 (g := GG_150) rfl (k := 12) (t := (0, 0, 4, [])) rfl rfl)
  have kz_0_15 : 0 ≤ w_fi ws (n_v vs 0) 15 ∧ w_fi ws (n_v vs 0) 15 ≤ 2000 := tv_rng (th_fd hD hth r0 (g := GG_150) rfl (k := 15) (t := (0, 0, 2000, [])) rfl rfl)
  obtain ⟨x, ex, hx⟩ := iv_ex (ta := ta) (lo := 0) (hi := 2005) (z := 0 + (1 * v_iv (n_v vs 9) + 0)) (by omega) (by omega) (by omega) (by omega)
  have ex2 : v_iv (Value.int x) = 0 + (1 * v_iv (n_v vs 9) + 0) := ex
  have ex3 : 0 ≤ v_iv (Value.int x) ∧ v_iv (Value.int x) ≤ 2005 := tv_rng hx
  have e_0 : n_v (vs ++ [Value.int x]) 0 = n_v vs 0 := n_v_old (by rw [hl]; decide)
  have e_1 : n_v (vs ++ [Value.int x]) 1 = n_v vs 1 := n_v_old (by rw [hl]; decide)
  have e_3 : n_v (vs ++ [Value.int x]) 3 = n_v vs 3 := n_v_old (by rw [hl]; decide)
  have e_4 : n_v (vs ++ [Value.int x]) 4 = n_v vs 4 := n_v_old (by rw [hl]; decide)
  have e_5 : n_v (vs ++ [Value.int x]) 5 = n_v vs 5 := n_v_old (by rw [hl]; decide)
  have e_7 : n_v (vs ++ [Value.int x]) 7 = n_v vs 7 := n_v_old (by rw [hl]; decide)
  have e_16 : n_v (vs ++ [Value.int x]) 16 = Value.int x := n_v_new hl
  have nf0 : fc_1 (20, [4, 4], [30, 0, 1, 1, 15, -1, 1, 11]) ws (vs ++ [Value.int x]) := by
    refine ⟨fun n hn => ?_, ?_⟩
    · have hn : n ∈ [4, 4] := hn
      rw [List.length_append, hl]
      simp only [List.mem_cons, List.not_mem_nil, or_false] at hn
      show n < 16 + 1; omega
    · show 1 * w_fi ws (n_v (vs ++ [Value.int x]) 4) 15 + ((-1) * w_fi ws (n_v (vs ++ [Value.int x]) 4) 11 + 0) ≤ 0
      rw [e_4]
      rw [q4]
      omega
  have nf1 : fc_1 (20, [4], [50, 3, 0, 12, 11, 15, 2, 21, 4, 7, 1, 3, 2, 0, 12, 0, 1, 0, 3, 2, 0, 11, 4, 3, 2, 0, 15, 0, 8, 3, 7, 1, 3, 2, 0, 12, 0, 0, 0, 7, 4, 3, 2, 0, 15, 0, 1, 2, 0, 11]) ws (vs ++ [Value.int x]) := by
    refine ⟨fun n hn => ?_, ?_⟩
    · have hn : n ∈ [4] := hn
      rw [List.length_append, hl]
      simp only [List.mem_cons, List.not_mem_nil, or_false] at hn
      show n < 16 + 1; omega
    · show ((w_fi ws (n_v (vs ++ [Value.int x]) 4) 12 = 1) → (w_fi ws (n_v (vs ++ [Value.int x]) 4) 11 ≤ (w_fi ws (n_v (vs ++ [Value.int x]) 4) 15 + 8))) ∧ ((w_fi ws (n_v (vs ++ [Value.int x]) 4) 12 = 0) ∨ ((w_fi ws (n_v (vs ++ [Value.int x]) 4) 15 + 1) ≤ w_fi ws (n_v (vs ++ [Value.int x]) 4) 11))
      rw [e_4]
      rw [q4]
      first | omega | grind
  have nf2 : fc_1 (20, [3, 4], [30, 0, 1, 0, 0, -1, 1, 11]) ws (vs ++ [Value.int x]) := by
    refine ⟨fun n hn => ?_, ?_⟩
    · have hn : n ∈ [3, 4] := hn
      rw [List.length_append, hl]
      simp only [List.mem_cons, List.not_mem_nil, or_false] at hn
      show n < 16 + 1; omega
    · show 1 * v_iv (n_v (vs ++ [Value.int x]) 3) + ((-1) * w_fi ws (n_v (vs ++ [Value.int x]) 4) 11 + 0) ≤ 0
      rw [e_3]
      rw [e_4]
      rw [q4]
      omega
  have nf3 : fc_1 (20, [4, 3], [50, 2, 0, 8, 11, 3, 7, 0, 2, 0, 1, 2, 0, 8, 0, 6, 4, 2, 1, 1, 0, 1, 2, 0, 11]) ws (vs ++ [Value.int x]) := by
    refine ⟨fun n hn => ?_, ?_⟩
    · have hn : n ∈ [4, 3] := hn
      rw [List.length_append, hl]
      simp only [List.mem_cons, List.not_mem_nil, or_false] at hn
      show n < 16 + 1; omega
    · show (1 ≤ w_fi ws (n_v (vs ++ [Value.int x]) 4) 8) ∨ ((v_iv (n_v (vs ++ [Value.int x]) 3) + 1) ≤ w_fi ws (n_v (vs ++ [Value.int x]) 4) 11)
      rw [e_3]
      rw [e_4]
      rw [q4]
      first | omega | grind
  have nf4 : fc_1 (20, [7, 4], [50, 1, 1, 1005, 1002, 0, 6, 4, 2, 1, 0, 0, 1, 3, 1, 2, 4, 3, 2, 1, 5, 0, 2]) ws (vs ++ [Value.int x]) := by
    refine ⟨fun n hn => ?_, ?_⟩
    · have hn : n ∈ [7, 4] := hn
      rw [List.length_append, hl]
      simp only [List.mem_cons, List.not_mem_nil, or_false] at hn
      show n < 16 + 1; omega
    · show (v_iv (n_v (vs ++ [Value.int x]) 7) + 1) ≤ w_ei ws (w_ar ws (n_v (vs ++ [Value.int x]) 4) 2) ((w_fi ws (n_v (vs ++ [Value.int x]) 4) 5 + 2))
      rw [e_4]
      rw [e_7]
      rw [q4]
      first | omega | grind
  have nf5 : fc_1 (23, [5, 7], [-1, 1, -1]) ws (vs ++ [Value.int x]) := by
    refine ⟨fun n hn => ?_, ?_⟩
    · have hn : n ∈ [5, 7] := hn
      rw [List.length_append, hl]
      simp only [List.mem_cons, List.not_mem_nil, or_false] at hn
      show n < 16 + 1; omega
    · show 1 * v_iv (n_v (vs ++ [Value.int x]) 5) + ((-1) * v_iv (n_v (vs ++ [Value.int x]) 7) + 0) ≤ (-1)
      rw [e_5]
      rw [e_7]
      rw [q5]
      omega
  have nf6 : fc_1 (20, [16, 4, 4], [30, -2006, -1, 0, 0, -1, 1, 11, -1, 1, 8]) ws (vs ++ [Value.int x]) := by
    refine ⟨fun n hn => ?_, ?_⟩
    · have hn : n ∈ [16, 4, 4] := hn
      rw [List.length_append, hl]
      simp only [List.mem_cons, List.not_mem_nil, or_false] at hn
      show n < 16 + 1; omega
    · show (-1) * v_iv (n_v (vs ++ [Value.int x]) 16) + ((-1) * w_fi ws (n_v (vs ++ [Value.int x]) 4) 11 + ((-1) * w_fi ws (n_v (vs ++ [Value.int x]) 4) 8 + 0)) ≤ (-2006)
      rw [e_4]
      rw [e_16]
      rw [q4]
      omega
  have nf7 : fc_1 (24, [0, 4], []) ws (vs ++ [Value.int x]) := by
    refine ⟨fun n hn => ?_, ?_⟩
    · have hn : n ∈ [0, 4] := hn
      rw [List.length_append, hl]
      simp only [List.mem_cons, List.not_mem_nil, or_false] at hn
      show n < 16 + 1; omega
    · show n_v (vs ++ [Value.int x]) 0 = n_v (vs ++ [Value.int x]) 4
      first | rfl | simp only [e_0, e_4, q4, q5]
  have nf8 : fc_1 (24, [1, 5], []) ws (vs ++ [Value.int x]) := by
    refine ⟨fun n hn => ?_, ?_⟩
    · have hn : n ∈ [1, 5] := hn
      rw [List.length_append, hl]
      simp only [List.mem_cons, List.not_mem_nil, or_false] at hn
      show n < 16 + 1; omega
    · show n_v (vs ++ [Value.int x]) 1 = n_v (vs ++ [Value.int x]) 5
      first | rfl | simp only [e_1, e_5, q4, q5]
  obtain ⟨x0, e0, _, _⟩ := tv_int t9 rfl
  have e1 : v_iv (n_v vs 9) = x0.toInt := by rw [e0]; rfl
  have ho : sy_ofs (vs ++ [Value.int x]) (16, 9, 0, 0) := by
    refine ⟨x, x0, by rw [List.getElem?_append_right (by rw [hl]; decide), hl]; rfl, ?_, ?_, ?_⟩
    · rw [List.getElem?_append_left (by rw [hl]; decide)]; exact n_v_some (by rw [hl]; decide) e0
    · show x0.toInt + 0 ≤ x.toInt; omega
    · show x.toInt ≤ x0.toInt + 0; omega
  exact ⟨(fun _ h => (by cases h)), [Value.int x], ag_one hx, List.forall_mem_cons.mpr ⟨⟨show (20 : Nat) < 100 from by decide, nf0⟩, List.forall_mem_cons.mpr ⟨⟨show (20 : Nat) < 100 from by decide, nf1⟩, List.forall_mem_cons.mpr ⟨⟨show (20 : Nat) < 100 from by decide, nf2⟩, List.forall_mem_cons.mpr ⟨⟨show (20 : Nat) < 100 from by decide, nf3⟩, List.forall_mem_cons.mpr ⟨⟨show (20 : Nat) < 100 from by decide, nf4⟩, List.forall_mem_cons.mpr ⟨⟨show (23 : Nat) < 100 from by decide, nf5⟩, List.forall_mem_cons.mpr ⟨⟨show (20 : Nat) < 100 from by decide, nf6⟩, List.forall_mem_cons.mpr ⟨⟨show (24 : Nat) < 100 from by decide, nf7⟩, List.forall_mem_cons.mpr ⟨⟨show (24 : Nat) < 100 from by decide, nf8⟩, (fun _ h => (by cases h))⟩⟩⟩⟩⟩⟩⟩⟩⟩, List.forall_mem_cons.mpr ⟨ho, (fun _ h => (by cases h))⟩⟩
def o_Mo_groupItem_at_k2_21 : or_T := (200, 14, [(0, (2, 0, 0, [150])), (1, (0, 0, 7, [])), (3, (0, 0, 2000, [])), (4, (2, 0, 0, [150])), (5, (0, 0, 7, [])), (7, (0, 0, 7, [])), (9, (0, 0, 2005, [])), (10, (0, 0, 0, [])), (12, (0, 1, 1, []))], [(8, [12], [1]), (20, [12, 4], [50, 2, 0, 1012, 1008, 4, 6, 1, 2, 1, 0, 0, 1, 2, 7, 1, 3, 2, 1, 12, 0, 3, 1, 3, 2, 1, 8, 0, 0]), (8, [10], [0]), (9, [10, 4], [8]), (20, [4, 4], [30, 0, 1, 1, 15, -1, 1, 11]), (20, [4], [50, 3, 0, 12, 11, 15, 2, 21, 4, 7, 1, 3, 2, 0, 12, 0, 1, 0, 3, 2, 0, 11, 4, 3, 2, 0, 15, 0, 8, 3, 7, 1, 3, 2, 0, 12, 0, 0, 0, 7, 4, 3, 2, 0, 15, 0, 1, 2, 0, 11]), (20, [3, 4], [30, 0, 1, 0, 0, -1, 1, 11]), (20, [4, 3], [50, 2, 0, 8, 11, 3, 7, 0, 2, 0, 1, 2, 0, 8, 0, 6, 4, 2, 1, 1, 0, 1, 2, 0, 11]), (20, [7, 4], [50, 1, 1, 1005, 1002, 0, 6, 4, 2, 1, 0, 0, 1, 3, 1, 2, 4, 3, 2, 1, 5, 0, 2]), (23, [5, 7], [-1, 1, -1]), (24, [0, 4], []), (24, [1, 5], []), (20, [9, 4, 4], [30, 2005, 1, 0, 0, 1, 1, 11, 1, 1, 8]), (20, [9, 4, 4], [30, -2005, -1, 0, 0, -1, 1, 11, -1, 1, 8])], [], [(0, 0, 2000, [])], [(23, [14, 3], [0, 1, -1]), (23, [14, 3], [0, -1, 1]), (20, [4, 4], [30, 0, 1, 1, 15, -1, 1, 11]), (20, [4], [50, 3, 0, 12, 11, 15, 2, 21, 4, 7, 1, 3, 2, 0, 12, 0, 1, 0, 3, 2, 0, 11, 4, 3, 2, 0, 15, 0, 8, 3, 7, 1, 3, 2, 0, 12, 0, 0, 0, 7, 4, 3, 2, 0, 15, 0, 1, 2, 0, 11]), (20, [14, 4], [30, 0, 1, 0, 0, -1, 1, 11]), (20, [4, 14], [50, 3, 0, 8, 12, 11, 3, 7, 0, 2, 0, 1, 2, 0, 8, 3, 7, 1, 3, 2, 0, 12, 0, 0, 0, 6, 4, 2, 1, 1, 0, 1, 2, 0, 11])], [], [(1, 3, -4294967296, 7), (1, 5, -4294967296, 0), (1, 7, -4294967296, 7), (3, 1, -4294967296, 2000), (3, 5, -4294967296, 2000), (3, 7, -4294967296, 2000), (5, 1, -4294967296, 0), (5, 3, -4294967296, 7), (5, 7, -4294967296, 7), (7, 1, -4294967296, 7), (7, 3, -4294967296, 7), (7, 5, -4294967296, 7)])
theorem oo_Mo_groupItem_at_k2_21 {kA : Nat → ClassId} : or_ok kA GG o_Mo_groupItem_at_k2_21 := by
  intro A ta ws vs hD hth hl hk hds hf
  have hl : vs.length = 14 := hl
  have hk : ∀ q ∈ ([(0, (2, 0, 0, [150])), (1, (0, 0, 7, [])), (3, (0, 0, 2000, [])), (4, (2, 0, 0, [150])), (5, (0, 0, 7, [])), (7, (0, 0, 7, [])), (9, (0, 0, 2005, [])), (10, (0, 0, 0, [])), (12, (0, 1, 1, []))] : List (Nat × tv_T)), tv_ok ta q.2 (n_v vs q.1) := hk
  obtain ⟨t0, hk⟩ := List.forall_mem_cons.mp hk
  have t0 : tv_ok ta (2, 0, 0, [150]) (n_v vs 0) := t0
  have r0 : ta (v_ad (n_v vs 0)) = some 150 := tv_rg t0
  obtain ⟨t1, hk⟩ := List.forall_mem_cons.mp hk
  have t1 : tv_ok ta (0, 0, 7, []) (n_v vs 1) := t1
  have k1 : 0 ≤ v_iv (n_v vs 1) ∧ v_iv (n_v vs 1) ≤ 7 := tv_rng t1
  obtain ⟨t3, hk⟩ := List.forall_mem_cons.mp hk
  have t3 : tv_ok ta (0, 0, 2000, []) (n_v vs 3) := t3
  have k3 : 0 ≤ v_iv (n_v vs 3) ∧ v_iv (n_v vs 3) ≤ 2000 := tv_rng t3
  obtain ⟨t4, hk⟩ := List.forall_mem_cons.mp hk
  have t4 : tv_ok ta (2, 0, 0, [150]) (n_v vs 4) := t4
  have r4 : ta (v_ad (n_v vs 4)) = some 150 := tv_rg t4
  obtain ⟨t5, hk⟩ := List.forall_mem_cons.mp hk
  have t5 : tv_ok ta (0, 0, 7, []) (n_v vs 5) := t5
  have k5 : 0 ≤ v_iv (n_v vs 5) ∧ v_iv (n_v vs 5) ≤ 7 := tv_rng t5
  obtain ⟨t7, hk⟩ := List.forall_mem_cons.mp hk
  have t7 : tv_ok ta (0, 0, 7, []) (n_v vs 7) := t7
  have k7 : 0 ≤ v_iv (n_v vs 7) ∧ v_iv (n_v vs 7) ≤ 7 := tv_rng t7
  obtain ⟨t9, hk⟩ := List.forall_mem_cons.mp hk
  have t9 : tv_ok ta (0, 0, 2005, []) (n_v vs 9) := t9
  have k9 : 0 ≤ v_iv (n_v vs 9) ∧ v_iv (n_v vs 9) ≤ 2005 := tv_rng t9
  obtain ⟨t10, hk⟩ := List.forall_mem_cons.mp hk
  have t10 : tv_ok ta (0, 0, 0, []) (n_v vs 10) := t10
  have k10 : 0 ≤ v_iv (n_v vs 10) ∧ v_iv (n_v vs 10) ≤ 0 := tv_rng t10
  obtain ⟨t12, hk⟩ := List.forall_mem_cons.mp hk
  have t12 : tv_ok ta (0, 1, 1, []) (n_v vs 12) := t12
  have k12 : 1 ≤ v_iv (n_v vs 12) ∧ v_iv (n_v vs 12) ≤ 1 := tv_rng t12
  have hds : ∀ q ∈ ([(1, 3, -4294967296, 7), (1, 5, -4294967296, 0), (1, 7, -4294967296, 7), (3, 1, -4294967296, 2000), (3, 5, -4294967296, 2000), (3, 7, -4294967296, 2000), (5, 1, -4294967296, 0), (5, 3, -4294967296, 7), (5, 7, -4294967296, 7), (7, 1, -4294967296, 7), (7, 3, -4294967296, 7), (7, 5, -4294967296, 7)] : List of_T), n_iv vs q.2.1 + q.2.2.1 ≤ n_iv vs q.1 ∧ n_iv vs q.1 ≤ n_iv vs q.2.1 + q.2.2.2 := hds
  obtain ⟨d0, hds⟩ := List.forall_mem_cons.mp hds
  have d0 : v_iv (n_v vs 3) + (-4294967296) ≤ v_iv (n_v vs 1) ∧ v_iv (n_v vs 1) ≤ v_iv (n_v vs 3) + 7 := d0
  obtain ⟨d1, hds⟩ := List.forall_mem_cons.mp hds
  have d1 : v_iv (n_v vs 5) + (-4294967296) ≤ v_iv (n_v vs 1) ∧ v_iv (n_v vs 1) ≤ v_iv (n_v vs 5) + 0 := d1
  obtain ⟨d2, hds⟩ := List.forall_mem_cons.mp hds
  have d2 : v_iv (n_v vs 7) + (-4294967296) ≤ v_iv (n_v vs 1) ∧ v_iv (n_v vs 1) ≤ v_iv (n_v vs 7) + 7 := d2
  obtain ⟨d3, hds⟩ := List.forall_mem_cons.mp hds
  have d3 : v_iv (n_v vs 1) + (-4294967296) ≤ v_iv (n_v vs 3) ∧ v_iv (n_v vs 3) ≤ v_iv (n_v vs 1) + 2000 := d3
  obtain ⟨d4, hds⟩ := List.forall_mem_cons.mp hds
  have d4 : v_iv (n_v vs 5) + (-4294967296) ≤ v_iv (n_v vs 3) ∧ v_iv (n_v vs 3) ≤ v_iv (n_v vs 5) + 2000 := d4
  obtain ⟨d5, hds⟩ := List.forall_mem_cons.mp hds
  have d5 : v_iv (n_v vs 7) + (-4294967296) ≤ v_iv (n_v vs 3) ∧ v_iv (n_v vs 3) ≤ v_iv (n_v vs 7) + 2000 := d5
  obtain ⟨d6, hds⟩ := List.forall_mem_cons.mp hds
  have d6 : v_iv (n_v vs 1) + (-4294967296) ≤ v_iv (n_v vs 5) ∧ v_iv (n_v vs 5) ≤ v_iv (n_v vs 1) + 0 := d6
  obtain ⟨d7, hds⟩ := List.forall_mem_cons.mp hds
  have d7 : v_iv (n_v vs 3) + (-4294967296) ≤ v_iv (n_v vs 5) ∧ v_iv (n_v vs 5) ≤ v_iv (n_v vs 3) + 7 := d7
  obtain ⟨d8, hds⟩ := List.forall_mem_cons.mp hds
  have d8 : v_iv (n_v vs 7) + (-4294967296) ≤ v_iv (n_v vs 5) ∧ v_iv (n_v vs 5) ≤ v_iv (n_v vs 7) + 7 := d8
  obtain ⟨d9, hds⟩ := List.forall_mem_cons.mp hds
  have d9 : v_iv (n_v vs 1) + (-4294967296) ≤ v_iv (n_v vs 7) ∧ v_iv (n_v vs 7) ≤ v_iv (n_v vs 1) + 7 := d9
  obtain ⟨d10, hds⟩ := List.forall_mem_cons.mp hds
  have d10 : v_iv (n_v vs 3) + (-4294967296) ≤ v_iv (n_v vs 7) ∧ v_iv (n_v vs 7) ≤ v_iv (n_v vs 3) + 7 := d10
  obtain ⟨d11, hds⟩ := List.forall_mem_cons.mp hds
  have d11 : v_iv (n_v vs 5) + (-4294967296) ≤ v_iv (n_v vs 7) ∧ v_iv (n_v vs 7) ≤ v_iv (n_v vs 5) + 7 := d11
  have hf : fc_ok [(8, [12], [1]), (20, [12, 4], [50, 2, 0, 1012, 1008, 4, 6, 1, 2, 1, 0, 0, 1, 2, 7, 1, 3, 2, 1, 12, 0, 3, 1, 3, 2, 1, 8, 0, 0]), (8, [10], [0]), (9, [10, 4], [8]), (20, [4, 4], [30, 0, 1, 1, 15, -1, 1, 11]), (20, [4], [50, 3, 0, 12, 11, 15, 2, 21, 4, 7, 1, 3, 2, 0, 12, 0, 1, 0, 3, 2, 0, 11, 4, 3, 2, 0, 15, 0, 8, 3, 7, 1, 3, 2, 0, 12, 0, 0, 0, 7, 4, 3, 2, 0, 15, 0, 1, 2, 0, 11]), (20, [3, 4], [30, 0, 1, 0, 0, -1, 1, 11]), (20, [4, 3], [50, 2, 0, 8, 11, 3, 7, 0, 2, 0, 1, 2, 0, 8, 0, 6, 4, 2, 1, 1, 0, 1, 2, 0, 11]), (20, [7, 4], [50, 1, 1, 1005, 1002, 0, 6, 4, 2, 1, 0, 0, 1, 3, 1, 2, 4, 3, 2, 1, 5, 0, 2]), (23, [5, 7], [-1, 1, -1]), (24, [0, 4], []), (24, [1, 5], []), (20, [9, 4, 4], [30, 2005, 1, 0, 0, 1, 1, 11, 1, 1, 8]), (20, [9, 4, 4], [30, -2005, -1, 0, 0, -1, 1, 11, -1, 1, 8])] ta ws vs := hf
  obtain ⟨f0, hf⟩ := fc_un (show (8 : Nat) < 100 from by decide) hf
  have f0 : v_iv (n_v vs 12) ≠ 0 := f0
  obtain ⟨f1, hf⟩ := fc_un (show (20 : Nat) < 100 from by decide) hf
  have f1 : (v_iv (n_v vs 12) = 1) → ((w_fi ws (n_v vs 4) 12 = 3) ∧ (w_fi ws (n_v vs 4) 8 = 0)) := f1
  obtain ⟨f2, hf⟩ := fc_un (show (8 : Nat) < 100 from by decide) hf
  have f2 : v_iv (n_v vs 10) = 0 := f2
  obtain ⟨f3, hf⟩ := fc_un (show (9 : Nat) < 100 from by decide) hf
  have f3 : n_v vs 10 = w_fd ws (v_ad (n_v vs 4)) 8 := f3
  obtain ⟨f4, hf⟩ := fc_un (show (20 : Nat) < 100 from by decide) hf
  have f4 : 1 * w_fi ws (n_v vs 4) 15 + ((-1) * w_fi ws (n_v vs 4) 11 + 0) ≤ 0 := f4
  obtain ⟨f5, hf⟩ := fc_un (show (20 : Nat) < 100 from by decide) hf
  have f5 : ((w_fi ws (n_v vs 4) 12 = 1) → (w_fi ws (n_v vs 4) 11 ≤ (w_fi ws (n_v vs 4) 15 + 8))) ∧ ((w_fi ws (n_v vs 4) 12 = 0) ∨ ((w_fi ws (n_v vs 4) 15 + 1) ≤ w_fi ws (n_v vs 4) 11)) := f5
  obtain ⟨f6, hf⟩ := fc_un (show (20 : Nat) < 100 from by decide) hf
  have f6 : 1 * v_iv (n_v vs 3) + ((-1) * w_fi ws (n_v vs 4) 11 + 0) ≤ 0 := f6
  obtain ⟨f7, hf⟩ := fc_un (show (20 : Nat) < 100 from by decide) hf
  have f7 : (1 ≤ w_fi ws (n_v vs 4) 8) ∨ ((v_iv (n_v vs 3) + 1) ≤ w_fi ws (n_v vs 4) 11) := f7
  obtain ⟨f8, hf⟩ := fc_un (show (20 : Nat) < 100 from by decide) hf
  have f8 : (v_iv (n_v vs 7) + 1) ≤ w_ei ws (w_ar ws (n_v vs 4) 2) ((w_fi ws (n_v vs 4) 5 + 2)) := f8
  obtain ⟨f9, hf⟩ := fc_un (show (23 : Nat) < 100 from by decide) hf
  have f9 : 1 * v_iv (n_v vs 5) + ((-1) * v_iv (n_v vs 7) + 0) ≤ (-1) := f9
  obtain ⟨f10, hf⟩ := fc_un (show (24 : Nat) < 100 from by decide) hf
  have f10 : n_v vs 0 = n_v vs 4 := f10
  obtain ⟨f11, hf⟩ := fc_un (show (24 : Nat) < 100 from by decide) hf
  have f11 : n_v vs 1 = n_v vs 5 := f11
  obtain ⟨f12, hf⟩ := fc_un (show (20 : Nat) < 100 from by decide) hf
  have f12 : 1 * v_iv (n_v vs 9) + (1 * w_fi ws (n_v vs 4) 11 + (1 * w_fi ws (n_v vs 4) 8 + 0)) ≤ 2005 := f12
  obtain ⟨f13, hf⟩ := fc_un (show (20 : Nat) < 100 from by decide) hf
  have f13 : (-1) * v_iv (n_v vs 9) + ((-1) * w_fi ws (n_v vs 4) 11 + ((-1) * w_fi ws (n_v vs 4) 8 + 0)) ≤ (-2005) := f13
  have q4 : n_v vs 4 = n_v vs 0 := f10.symm
  have q5 : n_v vs 5 = n_v vs 1 := f11.symm
  rw [q4] at f1
  rw [q4] at f3
  rw [q4] at f4
  rw [q4] at f5
  rw [q4] at f6
  rw [q4] at f7
  rw [q4] at f8
  rw [q5] at f9
  rw [q4] at f12
  rw [q4] at f13
  have cr_0_2 : ta (w_ar ws (n_v vs 0) 2) = some 152 := tv_rg (th_fd hD hth r0 (g := GG_150) rfl (k := 2) (t := (2, 0, 0, [152])) rfl rfl)
  have g3 : v_iv (n_v vs 10) = w_fi ws (n_v vs 0) 8 := congrArg v_iv f3
  have kz_0_8 : 0 ≤ w_fi ws (n_v vs 0) 8 ∧ w_fi ws (n_v vs 0) 8 ≤ 5 := tv_rng (th_fd hD hth r0 (g := GG_150) rfl (k := 8) (t := (0, 0, 5, [])) rfl rfl)
  have kz_0_11 : 0 ≤ w_fi ws (n_v vs 0) 11 ∧ w_fi ws (n_v vs 0) 11 ≤ 2000 := tv_rng (th_fd hD hth r0 (g := GG_150) rfl (k := 11) (t := (0, 0, 2000, [])) rfl rfl)
  have kz_0_12 : 0 ≤ w_fi ws (n_v vs 0) 12 ∧ w_fi ws (n_v vs 0) 12 ≤ 4 := tv_rng (th_fd hD hth r0 (g := GG_150) rfl (k := 12) (t := (0, 0, 4, [])) rfl rfl)
  have kz_0_15 : 0 ≤ w_fi ws (n_v vs 0) 15 ∧ w_fi ws (n_v vs 0) 15 ≤ 2000 := tv_rng (th_fd hD hth r0 (g := GG_150) rfl (k := 15) (t := (0, 0, 2000, [])) rfl rfl)
  obtain ⟨x, ex, hx⟩ := iv_ex (ta := ta) (lo := 0) (hi := 2000) (z := v_iv (n_v vs 3)) (by omega) (by omega) (by omega) (by omega)
  have ex2 : v_iv (Value.int x) = v_iv (n_v vs 3) := ex
  have ex3 : 0 ≤ v_iv (Value.int x) ∧ v_iv (Value.int x) ≤ 2000 := tv_rng hx
  have e_3 : n_v (vs ++ [Value.int x]) 3 = n_v vs 3 := n_v_old (by rw [hl]; decide)
  have e_4 : n_v (vs ++ [Value.int x]) 4 = n_v vs 4 := n_v_old (by rw [hl]; decide)
  have e_14 : n_v (vs ++ [Value.int x]) 14 = Value.int x := n_v_new hl
  have nf0 : fc_1 (23, [14, 3], [0, 1, -1]) ws (vs ++ [Value.int x]) := by
    refine ⟨fun n hn => ?_, ?_⟩
    · have hn : n ∈ [14, 3] := hn
      rw [List.length_append, hl]
      simp only [List.mem_cons, List.not_mem_nil, or_false] at hn
      show n < 14 + 1; omega
    · show 1 * v_iv (n_v (vs ++ [Value.int x]) 14) + ((-1) * v_iv (n_v (vs ++ [Value.int x]) 3) + 0) ≤ 0
      rw [e_3]
      rw [e_14]
      omega
  have nf1 : fc_1 (23, [14, 3], [0, -1, 1]) ws (vs ++ [Value.int x]) := by
    refine ⟨fun n hn => ?_, ?_⟩
    · have hn : n ∈ [14, 3] := hn
      rw [List.length_append, hl]
      simp only [List.mem_cons, List.not_mem_nil, or_false] at hn
      show n < 14 + 1; omega
    · show (-1) * v_iv (n_v (vs ++ [Value.int x]) 14) + (1 * v_iv (n_v (vs ++ [Value.int x]) 3) + 0) ≤ 0
      rw [e_3]
      rw [e_14]
      omega
  have nf2 : fc_1 (20, [4, 4], [30, 0, 1, 1, 15, -1, 1, 11]) ws (vs ++ [Value.int x]) := by
    refine ⟨fun n hn => ?_, ?_⟩
    · have hn : n ∈ [4, 4] := hn
      rw [List.length_append, hl]
      simp only [List.mem_cons, List.not_mem_nil, or_false] at hn
      show n < 14 + 1; omega
    · show 1 * w_fi ws (n_v (vs ++ [Value.int x]) 4) 15 + ((-1) * w_fi ws (n_v (vs ++ [Value.int x]) 4) 11 + 0) ≤ 0
      rw [e_4]
      rw [q4]
      omega
  have nf3 : fc_1 (20, [4], [50, 3, 0, 12, 11, 15, 2, 21, 4, 7, 1, 3, 2, 0, 12, 0, 1, 0, 3, 2, 0, 11, 4, 3, 2, 0, 15, 0, 8, 3, 7, 1, 3, 2, 0, 12, 0, 0, 0, 7, 4, 3, 2, 0, 15, 0, 1, 2, 0, 11]) ws (vs ++ [Value.int x]) := by
    refine ⟨fun n hn => ?_, ?_⟩
    · have hn : n ∈ [4] := hn
      rw [List.length_append, hl]
      simp only [List.mem_cons, List.not_mem_nil, or_false] at hn
      show n < 14 + 1; omega
    · show ((w_fi ws (n_v (vs ++ [Value.int x]) 4) 12 = 1) → (w_fi ws (n_v (vs ++ [Value.int x]) 4) 11 ≤ (w_fi ws (n_v (vs ++ [Value.int x]) 4) 15 + 8))) ∧ ((w_fi ws (n_v (vs ++ [Value.int x]) 4) 12 = 0) ∨ ((w_fi ws (n_v (vs ++ [Value.int x]) 4) 15 + 1) ≤ w_fi ws (n_v (vs ++ [Value.int x]) 4) 11))
      rw [e_4]
      rw [q4]
      first | omega | grind
  have nf4 : fc_1 (20, [14, 4], [30, 0, 1, 0, 0, -1, 1, 11]) ws (vs ++ [Value.int x]) := by
    refine ⟨fun n hn => ?_, ?_⟩
    · have hn : n ∈ [14, 4] := hn
      rw [List.length_append, hl]
      simp only [List.mem_cons, List.not_mem_nil, or_false] at hn
      show n < 14 + 1; omega
    · show 1 * v_iv (n_v (vs ++ [Value.int x]) 14) + ((-1) * w_fi ws (n_v (vs ++ [Value.int x]) 4) 11 + 0) ≤ 0
      rw [e_4]
      rw [e_14]
      rw [q4]
      omega
  have nf5 : fc_1 (20, [4, 14], [50, 3, 0, 8, 12, 11, 3, 7, 0, 2, 0, 1, 2, 0, 8, 3, 7, 1, 3, 2, 0, 12, 0, 0, 0, 6, 4, 2, 1, 1, 0, 1, 2, 0, 11]) ws (vs ++ [Value.int x]) := by
    refine ⟨fun n hn => ?_, ?_⟩
    · have hn : n ∈ [4, 14] := hn
      rw [List.length_append, hl]
      simp only [List.mem_cons, List.not_mem_nil, or_false] at hn
      show n < 14 + 1; omega
    · show (1 ≤ w_fi ws (n_v (vs ++ [Value.int x]) 4) 8) ∨ ((w_fi ws (n_v (vs ++ [Value.int x]) 4) 12 = 0) ∨ ((v_iv (n_v (vs ++ [Value.int x]) 14) + 1) ≤ w_fi ws (n_v (vs ++ [Value.int x]) 4) 11))
      rw [e_4]
      rw [e_14]
      rw [q4]
      first | omega | grind
  exact ⟨(fun _ h => (by cases h)), [Value.int x], ag_one hx, List.forall_mem_cons.mpr ⟨⟨show (23 : Nat) < 100 from by decide, nf0⟩, List.forall_mem_cons.mpr ⟨⟨show (23 : Nat) < 100 from by decide, nf1⟩, List.forall_mem_cons.mpr ⟨⟨show (20 : Nat) < 100 from by decide, nf2⟩, List.forall_mem_cons.mpr ⟨⟨show (20 : Nat) < 100 from by decide, nf3⟩, List.forall_mem_cons.mpr ⟨⟨show (20 : Nat) < 100 from by decide, nf4⟩, List.forall_mem_cons.mpr ⟨⟨show (20 : Nat) < 100 from by decide, nf5⟩, (fun _ h => (by cases h))⟩⟩⟩⟩⟩⟩, (fun _ h => (by cases h))⟩
def o_Mo_groupItem_at_k2_22 : or_T := (203, 15, [(0, (2, 0, 0, [150])), (1, (0, 0, 7, [])), (3, (0, 0, 2000, [])), (4, (2, 0, 0, [150])), (5, (0, 0, 7, [])), (7, (0, 0, 7, [])), (14, (0, 0, 2000, []))], [(23, [14, 3], [0, 1, -1]), (23, [14, 3], [0, -1, 1]), (20, [7, 4], [50, 1, 1, 1005, 1002, 0, 6, 4, 2, 1, 0, 0, 1, 3, 1, 2, 4, 3, 2, 1, 5, 0, 2]), (23, [5, 7], [-1, 1, -1]), (24, [0, 4], []), (24, [1, 5], []), (20, [4, 4], [30, 0, 1, 1, 15, -1, 1, 11]), (20, [4], [50, 3, 0, 12, 11, 15, 2, 21, 4, 7, 1, 3, 2, 0, 12, 0, 1, 0, 3, 2, 0, 11, 4, 3, 2, 0, 15, 0, 8, 3, 7, 1, 3, 2, 0, 12, 0, 0, 0, 7, 4, 3, 2, 0, 15, 0, 1, 2, 0, 11]), (20, [14, 4], [30, 0, 1, 0, 0, -1, 1, 11]), (20, [4, 14], [50, 2, 0, 8, 11, 3, 7, 0, 2, 0, 1, 2, 0, 8, 0, 6, 4, 2, 1, 1, 0, 1, 2, 0, 11]), (102, [14], [0, 13008, 13009, 13011, 13012, 13013, 13014, 13015]), (23, [14, 3], [0, 1, -1]), (23, [14, 3], [0, -1, 1]), (23, [5, 7], [-1, 1, -1])], [], [], [(20, [0, 0], [30, 0, 1, 1, 15, -1, 1, 11]), (20, [0], [50, 3, 0, 12, 11, 15, 2, 21, 4, 7, 1, 3, 2, 0, 12, 0, 1, 0, 3, 2, 0, 11, 4, 3, 2, 0, 15, 0, 8, 3, 7, 1, 3, 2, 0, 12, 0, 0, 0, 7, 4, 3, 2, 0, 15, 0, 1, 2, 0, 11]), (20, [3, 0], [30, 0, 1, 0, 0, -1, 1, 11]), (20, [0, 3], [50, 2, 0, 8, 11, 3, 7, 0, 2, 0, 1, 2, 0, 8, 0, 6, 4, 2, 1, 1, 0, 1, 2, 0, 11]), (20, [1, 0], [50, 1, 1, 1005, 1002, 0, 6, 4, 2, 1, 0, 0, 1, 3, 1, 2, 4, 3, 2, 1, 5, 0, 2])], [], [(1, 3, -4294967296, 7), (1, 5, -4294967296, 0), (1, 7, -4294967296, 7), (3, 1, -4294967296, 2000), (3, 5, -4294967296, 2000), (3, 7, -4294967296, 2000), (5, 1, -4294967296, 0), (5, 3, -4294967296, 7), (5, 7, -4294967296, 7), (7, 1, -4294967296, 7), (7, 3, -4294967296, 7), (7, 5, -4294967296, 7)])
theorem oo_Mo_groupItem_at_k2_22 {kA : Nat → ClassId} : or_ok kA GG o_Mo_groupItem_at_k2_22 := by
  intro A ta ws vs hD hth hl hk hds hf
  have hl : vs.length = 15 := hl
  have hk : ∀ q ∈ ([(0, (2, 0, 0, [150])), (1, (0, 0, 7, [])), (3, (0, 0, 2000, [])), (4, (2, 0, 0, [150])), (5, (0, 0, 7, [])), (7, (0, 0, 7, [])), (14, (0, 0, 2000, []))] : List (Nat × tv_T)), tv_ok ta q.2 (n_v vs q.1) := hk
  obtain ⟨t0, hk⟩ := List.forall_mem_cons.mp hk
  have t0 : tv_ok ta (2, 0, 0, [150]) (n_v vs 0) := t0
  have r0 : ta (v_ad (n_v vs 0)) = some 150 := tv_rg t0
  obtain ⟨t1, hk⟩ := List.forall_mem_cons.mp hk
  have t1 : tv_ok ta (0, 0, 7, []) (n_v vs 1) := t1
  have k1 : 0 ≤ v_iv (n_v vs 1) ∧ v_iv (n_v vs 1) ≤ 7 := tv_rng t1
  obtain ⟨t3, hk⟩ := List.forall_mem_cons.mp hk
  have t3 : tv_ok ta (0, 0, 2000, []) (n_v vs 3) := t3
  have k3 : 0 ≤ v_iv (n_v vs 3) ∧ v_iv (n_v vs 3) ≤ 2000 := tv_rng t3
  obtain ⟨t4, hk⟩ := List.forall_mem_cons.mp hk
  have t4 : tv_ok ta (2, 0, 0, [150]) (n_v vs 4) := t4
  have r4 : ta (v_ad (n_v vs 4)) = some 150 := tv_rg t4
  obtain ⟨t5, hk⟩ := List.forall_mem_cons.mp hk
  have t5 : tv_ok ta (0, 0, 7, []) (n_v vs 5) := t5
  have k5 : 0 ≤ v_iv (n_v vs 5) ∧ v_iv (n_v vs 5) ≤ 7 := tv_rng t5
  obtain ⟨t7, hk⟩ := List.forall_mem_cons.mp hk
  have t7 : tv_ok ta (0, 0, 7, []) (n_v vs 7) := t7
  have k7 : 0 ≤ v_iv (n_v vs 7) ∧ v_iv (n_v vs 7) ≤ 7 := tv_rng t7
  obtain ⟨t14, hk⟩ := List.forall_mem_cons.mp hk
  have t14 : tv_ok ta (0, 0, 2000, []) (n_v vs 14) := t14
  have k14 : 0 ≤ v_iv (n_v vs 14) ∧ v_iv (n_v vs 14) ≤ 2000 := tv_rng t14
  have hds : ∀ q ∈ ([(1, 3, -4294967296, 7), (1, 5, -4294967296, 0), (1, 7, -4294967296, 7), (3, 1, -4294967296, 2000), (3, 5, -4294967296, 2000), (3, 7, -4294967296, 2000), (5, 1, -4294967296, 0), (5, 3, -4294967296, 7), (5, 7, -4294967296, 7), (7, 1, -4294967296, 7), (7, 3, -4294967296, 7), (7, 5, -4294967296, 7)] : List of_T), n_iv vs q.2.1 + q.2.2.1 ≤ n_iv vs q.1 ∧ n_iv vs q.1 ≤ n_iv vs q.2.1 + q.2.2.2 := hds
  obtain ⟨d0, hds⟩ := List.forall_mem_cons.mp hds
  have d0 : v_iv (n_v vs 3) + (-4294967296) ≤ v_iv (n_v vs 1) ∧ v_iv (n_v vs 1) ≤ v_iv (n_v vs 3) + 7 := d0
  obtain ⟨d1, hds⟩ := List.forall_mem_cons.mp hds
  have d1 : v_iv (n_v vs 5) + (-4294967296) ≤ v_iv (n_v vs 1) ∧ v_iv (n_v vs 1) ≤ v_iv (n_v vs 5) + 0 := d1
  obtain ⟨d2, hds⟩ := List.forall_mem_cons.mp hds
  have d2 : v_iv (n_v vs 7) + (-4294967296) ≤ v_iv (n_v vs 1) ∧ v_iv (n_v vs 1) ≤ v_iv (n_v vs 7) + 7 := d2
  obtain ⟨d3, hds⟩ := List.forall_mem_cons.mp hds
  have d3 : v_iv (n_v vs 1) + (-4294967296) ≤ v_iv (n_v vs 3) ∧ v_iv (n_v vs 3) ≤ v_iv (n_v vs 1) + 2000 := d3
  obtain ⟨d4, hds⟩ := List.forall_mem_cons.mp hds
  have d4 : v_iv (n_v vs 5) + (-4294967296) ≤ v_iv (n_v vs 3) ∧ v_iv (n_v vs 3) ≤ v_iv (n_v vs 5) + 2000 := d4
  obtain ⟨d5, hds⟩ := List.forall_mem_cons.mp hds
  have d5 : v_iv (n_v vs 7) + (-4294967296) ≤ v_iv (n_v vs 3) ∧ v_iv (n_v vs 3) ≤ v_iv (n_v vs 7) + 2000 := d5
  obtain ⟨d6, hds⟩ := List.forall_mem_cons.mp hds
  have d6 : v_iv (n_v vs 1) + (-4294967296) ≤ v_iv (n_v vs 5) ∧ v_iv (n_v vs 5) ≤ v_iv (n_v vs 1) + 0 := d6
  obtain ⟨d7, hds⟩ := List.forall_mem_cons.mp hds
  have d7 : v_iv (n_v vs 3) + (-4294967296) ≤ v_iv (n_v vs 5) ∧ v_iv (n_v vs 5) ≤ v_iv (n_v vs 3) + 7 := d7
  obtain ⟨d8, hds⟩ := List.forall_mem_cons.mp hds
  have d8 : v_iv (n_v vs 7) + (-4294967296) ≤ v_iv (n_v vs 5) ∧ v_iv (n_v vs 5) ≤ v_iv (n_v vs 7) + 7 := d8
  obtain ⟨d9, hds⟩ := List.forall_mem_cons.mp hds
  have d9 : v_iv (n_v vs 1) + (-4294967296) ≤ v_iv (n_v vs 7) ∧ v_iv (n_v vs 7) ≤ v_iv (n_v vs 1) + 7 := d9
  obtain ⟨d10, hds⟩ := List.forall_mem_cons.mp hds
  have d10 : v_iv (n_v vs 3) + (-4294967296) ≤ v_iv (n_v vs 7) ∧ v_iv (n_v vs 7) ≤ v_iv (n_v vs 3) + 7 := d10
  obtain ⟨d11, hds⟩ := List.forall_mem_cons.mp hds
  have d11 : v_iv (n_v vs 5) + (-4294967296) ≤ v_iv (n_v vs 7) ∧ v_iv (n_v vs 7) ≤ v_iv (n_v vs 5) + 7 := d11
  have hf : fc_ok [(23, [14, 3], [0, 1, -1]), (23, [14, 3], [0, -1, 1]), (20, [7, 4], [50, 1, 1, 1005, 1002, 0, 6, 4, 2, 1, 0, 0, 1, 3, 1, 2, 4, 3, 2, 1, 5, 0, 2]), (23, [5, 7], [-1, 1, -1]), (24, [0, 4], []), (24, [1, 5], []), (20, [4, 4], [30, 0, 1, 1, 15, -1, 1, 11]), (20, [4], [50, 3, 0, 12, 11, 15, 2, 21, 4, 7, 1, 3, 2, 0, 12, 0, 1, 0, 3, 2, 0, 11, 4, 3, 2, 0, 15, 0, 8, 3, 7, 1, 3, 2, 0, 12, 0, 0, 0, 7, 4, 3, 2, 0, 15, 0, 1, 2, 0, 11]), (20, [14, 4], [30, 0, 1, 0, 0, -1, 1, 11]), (20, [4, 14], [50, 2, 0, 8, 11, 3, 7, 0, 2, 0, 1, 2, 0, 8, 0, 6, 4, 2, 1, 1, 0, 1, 2, 0, 11]), (102, [14], [0, 13008, 13009, 13011, 13012, 13013, 13014, 13015]), (23, [14, 3], [0, 1, -1]), (23, [14, 3], [0, -1, 1]), (23, [5, 7], [-1, 1, -1])] ta ws vs := hf
  obtain ⟨f0, hf⟩ := fc_un (show (23 : Nat) < 100 from by decide) hf
  have f0 : 1 * v_iv (n_v vs 14) + ((-1) * v_iv (n_v vs 3) + 0) ≤ 0 := f0
  obtain ⟨f1, hf⟩ := fc_un (show (23 : Nat) < 100 from by decide) hf
  have f1 : (-1) * v_iv (n_v vs 14) + (1 * v_iv (n_v vs 3) + 0) ≤ 0 := f1
  obtain ⟨f2, hf⟩ := fc_un (show (20 : Nat) < 100 from by decide) hf
  have f2 : (v_iv (n_v vs 7) + 1) ≤ w_ei ws (w_ar ws (n_v vs 4) 2) ((w_fi ws (n_v vs 4) 5 + 2)) := f2
  obtain ⟨f3, hf⟩ := fc_un (show (23 : Nat) < 100 from by decide) hf
  have f3 : 1 * v_iv (n_v vs 5) + ((-1) * v_iv (n_v vs 7) + 0) ≤ (-1) := f3
  obtain ⟨f4, hf⟩ := fc_un (show (24 : Nat) < 100 from by decide) hf
  have f4 : n_v vs 0 = n_v vs 4 := f4
  obtain ⟨f5, hf⟩ := fc_un (show (24 : Nat) < 100 from by decide) hf
  have f5 : n_v vs 1 = n_v vs 5 := f5
  obtain ⟨f6, hf⟩ := fc_un (show (20 : Nat) < 100 from by decide) hf
  have f6 : 1 * w_fi ws (n_v vs 4) 15 + ((-1) * w_fi ws (n_v vs 4) 11 + 0) ≤ 0 := f6
  obtain ⟨f7, hf⟩ := fc_un (show (20 : Nat) < 100 from by decide) hf
  have f7 : ((w_fi ws (n_v vs 4) 12 = 1) → (w_fi ws (n_v vs 4) 11 ≤ (w_fi ws (n_v vs 4) 15 + 8))) ∧ ((w_fi ws (n_v vs 4) 12 = 0) ∨ ((w_fi ws (n_v vs 4) 15 + 1) ≤ w_fi ws (n_v vs 4) 11)) := f7
  obtain ⟨f8, hf⟩ := fc_un (show (20 : Nat) < 100 from by decide) hf
  have f8 : 1 * v_iv (n_v vs 14) + ((-1) * w_fi ws (n_v vs 4) 11 + 0) ≤ 0 := f8
  obtain ⟨f9, hf⟩ := fc_un (show (20 : Nat) < 100 from by decide) hf
  have f9 : (1 ≤ w_fi ws (n_v vs 4) 8) ∨ ((v_iv (n_v vs 14) + 1) ≤ w_fi ws (n_v vs 4) 11) := f9
  obtain ⟨ta1, w1, le1, ⟨_, s1⟩, hf⟩ := fc_us (show ¬ (102 : Nat) < 100 from by decide) hf
  obtain ⟨f11, hf⟩ := fc_un (show (23 : Nat) < 100 from by decide) hf
  have f11 : 1 * v_iv (n_v vs 14) + ((-1) * v_iv (n_v vs 3) + 0) ≤ 0 := f11
  obtain ⟨f12, hf⟩ := fc_un (show (23 : Nat) < 100 from by decide) hf
  have f12 : (-1) * v_iv (n_v vs 14) + (1 * v_iv (n_v vs 3) + 0) ≤ 0 := f12
  obtain ⟨f13, hf⟩ := fc_un (show (23 : Nat) < 100 from by decide) hf
  have f13 : 1 * v_iv (n_v vs 5) + ((-1) * v_iv (n_v vs 7) + 0) ≤ (-1) := f13
  have q4 : n_v vs 4 = n_v vs 0 := f4.symm
  have q5 : n_v vs 5 = n_v vs 1 := f5.symm
  rw [q4] at f2
  rw [q5] at f3
  rw [q4] at f6
  rw [q4] at f7
  rw [q4] at f8
  rw [q4] at f9
  rw [q5] at f13
  have cr_0_2 : ta (w_ar ws (n_v vs 0) 2) = some 152 := tv_rg (th_fd hD hth r0 (g := GG_150) rfl (k := 2) (t := (2, 0, 0, [152])) rfl rfl)
  have kz_0_8 : 0 ≤ w_fi ws (n_v vs 0) 8 ∧ w_fi ws (n_v vs 0) 8 ≤ 5 := tv_rng (th_fd hD hth r0 (g := GG_150) rfl (k := 8) (t := (0, 0, 5, [])) rfl rfl)
  have kz_0_11 : 0 ≤ w_fi ws (n_v vs 0) 11 ∧ w_fi ws (n_v vs 0) 11 ≤ 2000 := tv_rng (th_fd hD hth r0 (g := GG_150) rfl (k := 11) (t := (0, 0, 2000, [])) rfl rfl)
  have kz_0_12 : 0 ≤ w_fi ws (n_v vs 0) 12 ∧ w_fi ws (n_v vs 0) 12 ≤ 4 := tv_rng (th_fd hD hth r0 (g := GG_150) rfl (k := 12) (t := (0, 0, 4, [])) rfl rfl)
  have kz_0_15 : 0 ≤ w_fi ws (n_v vs 0) 15 ∧ w_fi ws (n_v vs 0) 15 ≤ 2000 := tv_rng (th_fd hD hth r0 (g := GG_150) rfl (k := 15) (t := (0, 0, 2000, [])) rfl rfl)
  have nf0 : fc_1 (20, [0, 0], [30, 0, 1, 1, 15, -1, 1, 11]) ws (vs) := by
    refine ⟨fun n hn => ?_, ?_⟩
    · have hn : n ∈ [0, 0] := hn
      rw [hl]
      simp only [List.mem_cons, List.not_mem_nil, or_false] at hn
      show n < 15; omega
    · show 1 * w_fi ws (n_v vs 0) 15 + ((-1) * w_fi ws (n_v vs 0) 11 + 0) ≤ 0
      omega
  have nf1 : fc_1 (20, [0], [50, 3, 0, 12, 11, 15, 2, 21, 4, 7, 1, 3, 2, 0, 12, 0, 1, 0, 3, 2, 0, 11, 4, 3, 2, 0, 15, 0, 8, 3, 7, 1, 3, 2, 0, 12, 0, 0, 0, 7, 4, 3, 2, 0, 15, 0, 1, 2, 0, 11]) ws (vs) := by
    refine ⟨fun n hn => ?_, ?_⟩
    · have hn : n ∈ [0] := hn
      rw [hl]
      simp only [List.mem_cons, List.not_mem_nil, or_false] at hn
      show n < 15; omega
    · show ((w_fi ws (n_v vs 0) 12 = 1) → (w_fi ws (n_v vs 0) 11 ≤ (w_fi ws (n_v vs 0) 15 + 8))) ∧ ((w_fi ws (n_v vs 0) 12 = 0) ∨ ((w_fi ws (n_v vs 0) 15 + 1) ≤ w_fi ws (n_v vs 0) 11))
      first | omega | grind
  have nf2 : fc_1 (20, [3, 0], [30, 0, 1, 0, 0, -1, 1, 11]) ws (vs) := by
    refine ⟨fun n hn => ?_, ?_⟩
    · have hn : n ∈ [3, 0] := hn
      rw [hl]
      simp only [List.mem_cons, List.not_mem_nil, or_false] at hn
      show n < 15; omega
    · show 1 * v_iv (n_v vs 3) + ((-1) * w_fi ws (n_v vs 0) 11 + 0) ≤ 0
      omega
  have nf3 : fc_1 (20, [0, 3], [50, 2, 0, 8, 11, 3, 7, 0, 2, 0, 1, 2, 0, 8, 0, 6, 4, 2, 1, 1, 0, 1, 2, 0, 11]) ws (vs) := by
    refine ⟨fun n hn => ?_, ?_⟩
    · have hn : n ∈ [0, 3] := hn
      rw [hl]
      simp only [List.mem_cons, List.not_mem_nil, or_false] at hn
      show n < 15; omega
    · show (1 ≤ w_fi ws (n_v vs 0) 8) ∨ ((v_iv (n_v vs 3) + 1) ≤ w_fi ws (n_v vs 0) 11)
      first | omega | grind
  have nf4 : fc_1 (20, [1, 0], [50, 1, 1, 1005, 1002, 0, 6, 4, 2, 1, 0, 0, 1, 3, 1, 2, 4, 3, 2, 1, 5, 0, 2]) ws (vs) := by
    refine ⟨fun n hn => ?_, ?_⟩
    · have hn : n ∈ [1, 0] := hn
      rw [hl]
      simp only [List.mem_cons, List.not_mem_nil, or_false] at hn
      show n < 15; omega
    · show (v_iv (n_v vs 1) + 1) ≤ w_ei ws (w_ar ws (n_v vs 0) 2) ((w_fi ws (n_v vs 0) 5 + 2))
      first | omega | grind
  refine ⟨(fun _ h => (by cases h)), [], trivial, ?_, (fun _ h => (by cases h))⟩
  rw [List.append_nil]
  exact List.forall_mem_cons.mpr ⟨⟨show (20 : Nat) < 100 from by decide, nf0⟩, List.forall_mem_cons.mpr ⟨⟨show (20 : Nat) < 100 from by decide, nf1⟩, List.forall_mem_cons.mpr ⟨⟨show (20 : Nat) < 100 from by decide, nf2⟩, List.forall_mem_cons.mpr ⟨⟨show (20 : Nat) < 100 from by decide, nf3⟩, List.forall_mem_cons.mpr ⟨⟨show (20 : Nat) < 100 from by decide, nf4⟩, (fun _ h => (by cases h))⟩⟩⟩⟩⟩
def o_Mo_groupItem_at_k2_23 : or_T := (170, 10, [(0, (2, 0, 0, [150])), (1, (0, 0, 7, [])), (3, (0, 0, 2000, [])), (4, (2, 0, 0, [150])), (5, (0, 0, 7, [])), (7, (0, 0, 7, [])), (9, (0, 0, 2005, []))], [(20, [4, 4], [30, 0, 1, 1, 15, -1, 1, 11]), (20, [4], [50, 3, 0, 12, 11, 15, 2, 21, 4, 7, 1, 3, 2, 0, 12, 0, 1, 0, 3, 2, 0, 11, 4, 3, 2, 0, 15, 0, 8, 3, 7, 1, 3, 2, 0, 12, 0, 0, 0, 7, 4, 3, 2, 0, 15, 0, 1, 2, 0, 11]), (20, [3, 4], [30, 0, 1, 0, 0, -1, 1, 11]), (20, [4, 3], [50, 2, 0, 8, 11, 3, 7, 0, 2, 0, 1, 2, 0, 8, 0, 6, 4, 2, 1, 1, 0, 1, 2, 0, 11]), (20, [7, 4], [50, 1, 1, 1005, 1002, 0, 6, 4, 2, 1, 0, 0, 1, 3, 1, 2, 4, 3, 2, 1, 5, 0, 2]), (23, [5, 7], [-1, 1, -1]), (20, [9, 4, 4], [30, -2006, -1, 0, 0, -1, 1, 11, -1, 1, 8]), (24, [0, 4], []), (24, [1, 5], [])], [], [(0, 0, 2005, [])], [(20, [4, 4], [30, 0, 1, 1, 15, -1, 1, 11]), (20, [4], [50, 3, 0, 12, 11, 15, 2, 21, 4, 7, 1, 3, 2, 0, 12, 0, 1, 0, 3, 2, 0, 11, 4, 3, 2, 0, 15, 0, 8, 3, 7, 1, 3, 2, 0, 12, 0, 0, 0, 7, 4, 3, 2, 0, 15, 0, 1, 2, 0, 11]), (20, [3, 4], [30, 0, 1, 0, 0, -1, 1, 11]), (20, [4, 3], [50, 2, 0, 8, 11, 3, 7, 0, 2, 0, 1, 2, 0, 8, 0, 6, 4, 2, 1, 1, 0, 1, 2, 0, 11]), (20, [7, 4], [50, 1, 1, 1005, 1002, 0, 6, 4, 2, 1, 0, 0, 1, 3, 1, 2, 4, 3, 2, 1, 5, 0, 2]), (23, [5, 7], [-1, 1, -1]), (24, [0, 4], []), (24, [1, 5], []), (20, [10, 4, 4], [30, 2005, 1, 0, 0, 1, 1, 11, 1, 1, 8]), (20, [10, 4, 4], [30, -2005, -1, 0, 0, -1, 1, 11, -1, 1, 8])], [(10, 9, -1000000000000, -1)], [(1, 3, -4294967296, 7), (1, 5, -4294967296, 0), (1, 7, -4294967296, 7), (3, 1, -4294967296, 2000), (3, 5, -4294967296, 2000), (3, 7, -4294967296, 2000), (5, 1, -4294967296, 0), (5, 3, -4294967296, 7), (5, 7, -4294967296, 7), (7, 1, -4294967296, 7), (7, 3, -4294967296, 7), (7, 5, -4294967296, 7)])
theorem oo_Mo_groupItem_at_k2_23 {kA : Nat → ClassId} : or_ok kA GG o_Mo_groupItem_at_k2_23 := by
  intro A ta ws vs hD hth hl hk hds hf
  have hl : vs.length = 10 := hl
  have hk : ∀ q ∈ ([(0, (2, 0, 0, [150])), (1, (0, 0, 7, [])), (3, (0, 0, 2000, [])), (4, (2, 0, 0, [150])), (5, (0, 0, 7, [])), (7, (0, 0, 7, [])), (9, (0, 0, 2005, []))] : List (Nat × tv_T)), tv_ok ta q.2 (n_v vs q.1) := hk
  obtain ⟨t0, hk⟩ := List.forall_mem_cons.mp hk
  have t0 : tv_ok ta (2, 0, 0, [150]) (n_v vs 0) := t0
  have r0 : ta (v_ad (n_v vs 0)) = some 150 := tv_rg t0
  obtain ⟨t1, hk⟩ := List.forall_mem_cons.mp hk
  have t1 : tv_ok ta (0, 0, 7, []) (n_v vs 1) := t1
  have k1 : 0 ≤ v_iv (n_v vs 1) ∧ v_iv (n_v vs 1) ≤ 7 := tv_rng t1
  obtain ⟨t3, hk⟩ := List.forall_mem_cons.mp hk
  have t3 : tv_ok ta (0, 0, 2000, []) (n_v vs 3) := t3
  have k3 : 0 ≤ v_iv (n_v vs 3) ∧ v_iv (n_v vs 3) ≤ 2000 := tv_rng t3
  obtain ⟨t4, hk⟩ := List.forall_mem_cons.mp hk
  have t4 : tv_ok ta (2, 0, 0, [150]) (n_v vs 4) := t4
  have r4 : ta (v_ad (n_v vs 4)) = some 150 := tv_rg t4
  obtain ⟨t5, hk⟩ := List.forall_mem_cons.mp hk
  have t5 : tv_ok ta (0, 0, 7, []) (n_v vs 5) := t5
  have k5 : 0 ≤ v_iv (n_v vs 5) ∧ v_iv (n_v vs 5) ≤ 7 := tv_rng t5
  obtain ⟨t7, hk⟩ := List.forall_mem_cons.mp hk
  have t7 : tv_ok ta (0, 0, 7, []) (n_v vs 7) := t7
  have k7 : 0 ≤ v_iv (n_v vs 7) ∧ v_iv (n_v vs 7) ≤ 7 := tv_rng t7
  obtain ⟨t9, hk⟩ := List.forall_mem_cons.mp hk
  have t9 : tv_ok ta (0, 0, 2005, []) (n_v vs 9) := t9
  have k9 : 0 ≤ v_iv (n_v vs 9) ∧ v_iv (n_v vs 9) ≤ 2005 := tv_rng t9
  have hds : ∀ q ∈ ([(1, 3, -4294967296, 7), (1, 5, -4294967296, 0), (1, 7, -4294967296, 7), (3, 1, -4294967296, 2000), (3, 5, -4294967296, 2000), (3, 7, -4294967296, 2000), (5, 1, -4294967296, 0), (5, 3, -4294967296, 7), (5, 7, -4294967296, 7), (7, 1, -4294967296, 7), (7, 3, -4294967296, 7), (7, 5, -4294967296, 7)] : List of_T), n_iv vs q.2.1 + q.2.2.1 ≤ n_iv vs q.1 ∧ n_iv vs q.1 ≤ n_iv vs q.2.1 + q.2.2.2 := hds
  obtain ⟨d0, hds⟩ := List.forall_mem_cons.mp hds
  have d0 : v_iv (n_v vs 3) + (-4294967296) ≤ v_iv (n_v vs 1) ∧ v_iv (n_v vs 1) ≤ v_iv (n_v vs 3) + 7 := d0
  obtain ⟨d1, hds⟩ := List.forall_mem_cons.mp hds
  have d1 : v_iv (n_v vs 5) + (-4294967296) ≤ v_iv (n_v vs 1) ∧ v_iv (n_v vs 1) ≤ v_iv (n_v vs 5) + 0 := d1
  obtain ⟨d2, hds⟩ := List.forall_mem_cons.mp hds
  have d2 : v_iv (n_v vs 7) + (-4294967296) ≤ v_iv (n_v vs 1) ∧ v_iv (n_v vs 1) ≤ v_iv (n_v vs 7) + 7 := d2
  obtain ⟨d3, hds⟩ := List.forall_mem_cons.mp hds
  have d3 : v_iv (n_v vs 1) + (-4294967296) ≤ v_iv (n_v vs 3) ∧ v_iv (n_v vs 3) ≤ v_iv (n_v vs 1) + 2000 := d3
  obtain ⟨d4, hds⟩ := List.forall_mem_cons.mp hds
  have d4 : v_iv (n_v vs 5) + (-4294967296) ≤ v_iv (n_v vs 3) ∧ v_iv (n_v vs 3) ≤ v_iv (n_v vs 5) + 2000 := d4
  obtain ⟨d5, hds⟩ := List.forall_mem_cons.mp hds
  have d5 : v_iv (n_v vs 7) + (-4294967296) ≤ v_iv (n_v vs 3) ∧ v_iv (n_v vs 3) ≤ v_iv (n_v vs 7) + 2000 := d5
  obtain ⟨d6, hds⟩ := List.forall_mem_cons.mp hds
  have d6 : v_iv (n_v vs 1) + (-4294967296) ≤ v_iv (n_v vs 5) ∧ v_iv (n_v vs 5) ≤ v_iv (n_v vs 1) + 0 := d6
  obtain ⟨d7, hds⟩ := List.forall_mem_cons.mp hds
  have d7 : v_iv (n_v vs 3) + (-4294967296) ≤ v_iv (n_v vs 5) ∧ v_iv (n_v vs 5) ≤ v_iv (n_v vs 3) + 7 := d7
  obtain ⟨d8, hds⟩ := List.forall_mem_cons.mp hds
  have d8 : v_iv (n_v vs 7) + (-4294967296) ≤ v_iv (n_v vs 5) ∧ v_iv (n_v vs 5) ≤ v_iv (n_v vs 7) + 7 := d8
  obtain ⟨d9, hds⟩ := List.forall_mem_cons.mp hds
  have d9 : v_iv (n_v vs 1) + (-4294967296) ≤ v_iv (n_v vs 7) ∧ v_iv (n_v vs 7) ≤ v_iv (n_v vs 1) + 7 := d9
  obtain ⟨d10, hds⟩ := List.forall_mem_cons.mp hds
  have d10 : v_iv (n_v vs 3) + (-4294967296) ≤ v_iv (n_v vs 7) ∧ v_iv (n_v vs 7) ≤ v_iv (n_v vs 3) + 7 := d10
  obtain ⟨d11, hds⟩ := List.forall_mem_cons.mp hds
  have d11 : v_iv (n_v vs 5) + (-4294967296) ≤ v_iv (n_v vs 7) ∧ v_iv (n_v vs 7) ≤ v_iv (n_v vs 5) + 7 := d11
  have hf : fc_ok [(20, [4, 4], [30, 0, 1, 1, 15, -1, 1, 11]), (20, [4], [50, 3, 0, 12, 11, 15, 2, 21, 4, 7, 1, 3, 2, 0, 12, 0, 1, 0, 3, 2, 0, 11, 4, 3, 2, 0, 15, 0, 8, 3, 7, 1, 3, 2, 0, 12, 0, 0, 0, 7, 4, 3, 2, 0, 15, 0, 1, 2, 0, 11]), (20, [3, 4], [30, 0, 1, 0, 0, -1, 1, 11]), (20, [4, 3], [50, 2, 0, 8, 11, 3, 7, 0, 2, 0, 1, 2, 0, 8, 0, 6, 4, 2, 1, 1, 0, 1, 2, 0, 11]), (20, [7, 4], [50, 1, 1, 1005, 1002, 0, 6, 4, 2, 1, 0, 0, 1, 3, 1, 2, 4, 3, 2, 1, 5, 0, 2]), (23, [5, 7], [-1, 1, -1]), (20, [9, 4, 4], [30, -2006, -1, 0, 0, -1, 1, 11, -1, 1, 8]), (24, [0, 4], []), (24, [1, 5], [])] ta ws vs := hf
  obtain ⟨f0, hf⟩ := fc_un (show (20 : Nat) < 100 from by decide) hf
  have f0 : 1 * w_fi ws (n_v vs 4) 15 + ((-1) * w_fi ws (n_v vs 4) 11 + 0) ≤ 0 := f0
  obtain ⟨f1, hf⟩ := fc_un (show (20 : Nat) < 100 from by decide) hf
  have f1 : ((w_fi ws (n_v vs 4) 12 = 1) → (w_fi ws (n_v vs 4) 11 ≤ (w_fi ws (n_v vs 4) 15 + 8))) ∧ ((w_fi ws (n_v vs 4) 12 = 0) ∨ ((w_fi ws (n_v vs 4) 15 + 1) ≤ w_fi ws (n_v vs 4) 11)) := f1
  obtain ⟨f2, hf⟩ := fc_un (show (20 : Nat) < 100 from by decide) hf
  have f2 : 1 * v_iv (n_v vs 3) + ((-1) * w_fi ws (n_v vs 4) 11 + 0) ≤ 0 := f2
  obtain ⟨f3, hf⟩ := fc_un (show (20 : Nat) < 100 from by decide) hf
  have f3 : (1 ≤ w_fi ws (n_v vs 4) 8) ∨ ((v_iv (n_v vs 3) + 1) ≤ w_fi ws (n_v vs 4) 11) := f3
  obtain ⟨f4, hf⟩ := fc_un (show (20 : Nat) < 100 from by decide) hf
  have f4 : (v_iv (n_v vs 7) + 1) ≤ w_ei ws (w_ar ws (n_v vs 4) 2) ((w_fi ws (n_v vs 4) 5 + 2)) := f4
  obtain ⟨f5, hf⟩ := fc_un (show (23 : Nat) < 100 from by decide) hf
  have f5 : 1 * v_iv (n_v vs 5) + ((-1) * v_iv (n_v vs 7) + 0) ≤ (-1) := f5
  obtain ⟨f6, hf⟩ := fc_un (show (20 : Nat) < 100 from by decide) hf
  have f6 : (-1) * v_iv (n_v vs 9) + ((-1) * w_fi ws (n_v vs 4) 11 + ((-1) * w_fi ws (n_v vs 4) 8 + 0)) ≤ (-2006) := f6
  obtain ⟨f7, hf⟩ := fc_un (show (24 : Nat) < 100 from by decide) hf
  have f7 : n_v vs 0 = n_v vs 4 := f7
  obtain ⟨f8, hf⟩ := fc_un (show (24 : Nat) < 100 from by decide) hf
  have f8 : n_v vs 1 = n_v vs 5 := f8
  have q4 : n_v vs 4 = n_v vs 0 := f7.symm
  have q5 : n_v vs 5 = n_v vs 1 := f8.symm
  rw [q4] at f0
  rw [q4] at f1
  rw [q4] at f2
  rw [q4] at f3
  rw [q4] at f4
  rw [q5] at f5
  rw [q4] at f6
  have cr_0_2 : ta (w_ar ws (n_v vs 0) 2) = some 152 := tv_rg (th_fd hD hth r0 (g := GG_150) rfl (k := 2) (t := (2, 0, 0, [152])) rfl rfl)
  have kz_0_8 : 0 ≤ w_fi ws (n_v vs 0) 8 ∧ w_fi ws (n_v vs 0) 8 ≤ 5 := tv_rng (th_fd hD hth r0 (g := GG_150) rfl (k := 8) (t := (0, 0, 5, [])) rfl rfl)
  have kz_0_11 : 0 ≤ w_fi ws (n_v vs 0) 11 ∧ w_fi ws (n_v vs 0) 11 ≤ 2000 := tv_rng (th_fd hD hth r0 (g := GG_150) rfl (k := 11) (t := (0, 0, 2000, [])) rfl rfl)
  have kz_0_12 : 0 ≤ w_fi ws (n_v vs 0) 12 ∧ w_fi ws (n_v vs 0) 12 ≤ 4 := tv_rng (th_fd hD hth r0 (g := GG_150) rfl (k := 12) (t := (0, 0, 4, [])) rfl rfl)
  have kz_0_15 : 0 ≤ w_fi ws (n_v vs 0) 15 ∧ w_fi ws (n_v vs 0) 15 ≤ 2000 := tv_rng (th_fd hD hth r0 (g := GG_150) rfl (k := 15) (t := (0, 0, 2000, [])) rfl rfl)
  have kb_0_8 : 0 ≤ w_fi ws (n_v vs 0) 8 ∧ w_fi ws (n_v vs 0) 8 ≤ 5 := tv_rng (th_fd hD hth r0 (g := GG_150) rfl (k := 8) (t := (0, 0, 5, [])) rfl rfl)
  have kb_0_11 : 0 ≤ w_fi ws (n_v vs 0) 11 ∧ w_fi ws (n_v vs 0) 11 ≤ 2000 := tv_rng (th_fd hD hth r0 (g := GG_150) rfl (k := 11) (t := (0, 0, 2000, [])) rfl rfl)
  obtain ⟨x, ex, hx⟩ := iv_ex (ta := ta) (lo := 0) (hi := 2005) (z := 2005 + ((-1) * w_fi ws (n_v vs 0) 11 + ((-1) * w_fi ws (n_v vs 0) 8 + 0))) (by omega) (by omega) (by omega) (by omega)
  have ex2 : v_iv (Value.int x) = 2005 + ((-1) * w_fi ws (n_v vs 0) 11 + ((-1) * w_fi ws (n_v vs 0) 8 + 0)) := ex
  have ex3 : 0 ≤ v_iv (Value.int x) ∧ v_iv (Value.int x) ≤ 2005 := tv_rng hx
  have e_0 : n_v (vs ++ [Value.int x]) 0 = n_v vs 0 := n_v_old (by rw [hl]; decide)
  have e_1 : n_v (vs ++ [Value.int x]) 1 = n_v vs 1 := n_v_old (by rw [hl]; decide)
  have e_3 : n_v (vs ++ [Value.int x]) 3 = n_v vs 3 := n_v_old (by rw [hl]; decide)
  have e_4 : n_v (vs ++ [Value.int x]) 4 = n_v vs 4 := n_v_old (by rw [hl]; decide)
  have e_5 : n_v (vs ++ [Value.int x]) 5 = n_v vs 5 := n_v_old (by rw [hl]; decide)
  have e_7 : n_v (vs ++ [Value.int x]) 7 = n_v vs 7 := n_v_old (by rw [hl]; decide)
  have e_10 : n_v (vs ++ [Value.int x]) 10 = Value.int x := n_v_new hl
  have nf0 : fc_1 (20, [4, 4], [30, 0, 1, 1, 15, -1, 1, 11]) ws (vs ++ [Value.int x]) := by
    refine ⟨fun n hn => ?_, ?_⟩
    · have hn : n ∈ [4, 4] := hn
      rw [List.length_append, hl]
      simp only [List.mem_cons, List.not_mem_nil, or_false] at hn
      show n < 10 + 1; omega
    · show 1 * w_fi ws (n_v (vs ++ [Value.int x]) 4) 15 + ((-1) * w_fi ws (n_v (vs ++ [Value.int x]) 4) 11 + 0) ≤ 0
      rw [e_4]
      rw [q4]
      omega
  have nf1 : fc_1 (20, [4], [50, 3, 0, 12, 11, 15, 2, 21, 4, 7, 1, 3, 2, 0, 12, 0, 1, 0, 3, 2, 0, 11, 4, 3, 2, 0, 15, 0, 8, 3, 7, 1, 3, 2, 0, 12, 0, 0, 0, 7, 4, 3, 2, 0, 15, 0, 1, 2, 0, 11]) ws (vs ++ [Value.int x]) := by
    refine ⟨fun n hn => ?_, ?_⟩
    · have hn : n ∈ [4] := hn
      rw [List.length_append, hl]
      simp only [List.mem_cons, List.not_mem_nil, or_false] at hn
      show n < 10 + 1; omega
    · show ((w_fi ws (n_v (vs ++ [Value.int x]) 4) 12 = 1) → (w_fi ws (n_v (vs ++ [Value.int x]) 4) 11 ≤ (w_fi ws (n_v (vs ++ [Value.int x]) 4) 15 + 8))) ∧ ((w_fi ws (n_v (vs ++ [Value.int x]) 4) 12 = 0) ∨ ((w_fi ws (n_v (vs ++ [Value.int x]) 4) 15 + 1) ≤ w_fi ws (n_v (vs ++ [Value.int x]) 4) 11))
      rw [e_4]
      rw [q4]
      first | omega | grind
  have nf2 : fc_1 (20, [3, 4], [30, 0, 1, 0, 0, -1, 1, 11]) ws (vs ++ [Value.int x]) := by
    refine ⟨fun n hn => ?_, ?_⟩
    · have hn : n ∈ [3, 4] := hn
      rw [List.length_append, hl]
      simp only [List.mem_cons, List.not_mem_nil, or_false] at hn
      show n < 10 + 1; omega
    · show 1 * v_iv (n_v (vs ++ [Value.int x]) 3) + ((-1) * w_fi ws (n_v (vs ++ [Value.int x]) 4) 11 + 0) ≤ 0
      rw [e_3]
      rw [e_4]
      rw [q4]
      omega
  have nf3 : fc_1 (20, [4, 3], [50, 2, 0, 8, 11, 3, 7, 0, 2, 0, 1, 2, 0, 8, 0, 6, 4, 2, 1, 1, 0, 1, 2, 0, 11]) ws (vs ++ [Value.int x]) := by
    refine ⟨fun n hn => ?_, ?_⟩
    · have hn : n ∈ [4, 3] := hn
      rw [List.length_append, hl]
      simp only [List.mem_cons, List.not_mem_nil, or_false] at hn
      show n < 10 + 1; omega
    · show (1 ≤ w_fi ws (n_v (vs ++ [Value.int x]) 4) 8) ∨ ((v_iv (n_v (vs ++ [Value.int x]) 3) + 1) ≤ w_fi ws (n_v (vs ++ [Value.int x]) 4) 11)
      rw [e_3]
      rw [e_4]
      rw [q4]
      first | omega | grind
  have nf4 : fc_1 (20, [7, 4], [50, 1, 1, 1005, 1002, 0, 6, 4, 2, 1, 0, 0, 1, 3, 1, 2, 4, 3, 2, 1, 5, 0, 2]) ws (vs ++ [Value.int x]) := by
    refine ⟨fun n hn => ?_, ?_⟩
    · have hn : n ∈ [7, 4] := hn
      rw [List.length_append, hl]
      simp only [List.mem_cons, List.not_mem_nil, or_false] at hn
      show n < 10 + 1; omega
    · show (v_iv (n_v (vs ++ [Value.int x]) 7) + 1) ≤ w_ei ws (w_ar ws (n_v (vs ++ [Value.int x]) 4) 2) ((w_fi ws (n_v (vs ++ [Value.int x]) 4) 5 + 2))
      rw [e_4]
      rw [e_7]
      rw [q4]
      first | omega | grind
  have nf5 : fc_1 (23, [5, 7], [-1, 1, -1]) ws (vs ++ [Value.int x]) := by
    refine ⟨fun n hn => ?_, ?_⟩
    · have hn : n ∈ [5, 7] := hn
      rw [List.length_append, hl]
      simp only [List.mem_cons, List.not_mem_nil, or_false] at hn
      show n < 10 + 1; omega
    · show 1 * v_iv (n_v (vs ++ [Value.int x]) 5) + ((-1) * v_iv (n_v (vs ++ [Value.int x]) 7) + 0) ≤ (-1)
      rw [e_5]
      rw [e_7]
      rw [q5]
      omega
  have nf6 : fc_1 (24, [0, 4], []) ws (vs ++ [Value.int x]) := by
    refine ⟨fun n hn => ?_, ?_⟩
    · have hn : n ∈ [0, 4] := hn
      rw [List.length_append, hl]
      simp only [List.mem_cons, List.not_mem_nil, or_false] at hn
      show n < 10 + 1; omega
    · show n_v (vs ++ [Value.int x]) 0 = n_v (vs ++ [Value.int x]) 4
      first | rfl | simp only [e_0, e_4, q4, q5]
  have nf7 : fc_1 (24, [1, 5], []) ws (vs ++ [Value.int x]) := by
    refine ⟨fun n hn => ?_, ?_⟩
    · have hn : n ∈ [1, 5] := hn
      rw [List.length_append, hl]
      simp only [List.mem_cons, List.not_mem_nil, or_false] at hn
      show n < 10 + 1; omega
    · show n_v (vs ++ [Value.int x]) 1 = n_v (vs ++ [Value.int x]) 5
      first | rfl | simp only [e_1, e_5, q4, q5]
  have nf8 : fc_1 (20, [10, 4, 4], [30, 2005, 1, 0, 0, 1, 1, 11, 1, 1, 8]) ws (vs ++ [Value.int x]) := by
    refine ⟨fun n hn => ?_, ?_⟩
    · have hn : n ∈ [10, 4, 4] := hn
      rw [List.length_append, hl]
      simp only [List.mem_cons, List.not_mem_nil, or_false] at hn
      show n < 10 + 1; omega
    · show 1 * v_iv (n_v (vs ++ [Value.int x]) 10) + (1 * w_fi ws (n_v (vs ++ [Value.int x]) 4) 11 + (1 * w_fi ws (n_v (vs ++ [Value.int x]) 4) 8 + 0)) ≤ 2005
      rw [e_4]
      rw [e_10]
      rw [q4]
      omega
  have nf9 : fc_1 (20, [10, 4, 4], [30, -2005, -1, 0, 0, -1, 1, 11, -1, 1, 8]) ws (vs ++ [Value.int x]) := by
    refine ⟨fun n hn => ?_, ?_⟩
    · have hn : n ∈ [10, 4, 4] := hn
      rw [List.length_append, hl]
      simp only [List.mem_cons, List.not_mem_nil, or_false] at hn
      show n < 10 + 1; omega
    · show (-1) * v_iv (n_v (vs ++ [Value.int x]) 10) + ((-1) * w_fi ws (n_v (vs ++ [Value.int x]) 4) 11 + ((-1) * w_fi ws (n_v (vs ++ [Value.int x]) 4) 8 + 0)) ≤ (-2005)
      rw [e_4]
      rw [e_10]
      rw [q4]
      omega
  obtain ⟨x0, e0, _, _⟩ := tv_int t9 rfl
  have e1 : v_iv (n_v vs 9) = x0.toInt := by rw [e0]; rfl
  have ho : sy_ofs (vs ++ [Value.int x]) (10, 9, -1000000000000, -1) := by
    refine ⟨x, x0, by rw [List.getElem?_append_right (by rw [hl]; decide), hl]; rfl, ?_, ?_, ?_⟩
    · rw [List.getElem?_append_left (by rw [hl]; decide)]; exact n_v_some (by rw [hl]; decide) e0
    · show x0.toInt + (-1000000000000) ≤ x.toInt; omega
    · show x.toInt ≤ x0.toInt + (-1); omega
  exact ⟨(fun _ h => (by cases h)), [Value.int x], ag_one hx, List.forall_mem_cons.mpr ⟨⟨show (20 : Nat) < 100 from by decide, nf0⟩, List.forall_mem_cons.mpr ⟨⟨show (20 : Nat) < 100 from by decide, nf1⟩, List.forall_mem_cons.mpr ⟨⟨show (20 : Nat) < 100 from by decide, nf2⟩, List.forall_mem_cons.mpr ⟨⟨show (20 : Nat) < 100 from by decide, nf3⟩, List.forall_mem_cons.mpr ⟨⟨show (20 : Nat) < 100 from by decide, nf4⟩, List.forall_mem_cons.mpr ⟨⟨show (23 : Nat) < 100 from by decide, nf5⟩, List.forall_mem_cons.mpr ⟨⟨show (24 : Nat) < 100 from by decide, nf6⟩, List.forall_mem_cons.mpr ⟨⟨show (24 : Nat) < 100 from by decide, nf7⟩, List.forall_mem_cons.mpr ⟨⟨show (20 : Nat) < 100 from by decide, nf8⟩, List.forall_mem_cons.mpr ⟨⟨show (20 : Nat) < 100 from by decide, nf9⟩, (fun _ h => (by cases h))⟩⟩⟩⟩⟩⟩⟩⟩⟩⟩, List.forall_mem_cons.mpr ⟨ho, (fun _ h => (by cases h))⟩⟩
def n_Mo_groupItem_at_k2_an : List an_T := [(108, [(0, (2, 0, 0, [150])), (1, (0, 0, 7, [])), (2, (0, 2, 2, [])), (3, (0, 0, 7, [])), (4, (0, 0, 8, []))], [], (0, 0), [(0, 0, 99892), (1, 8, 8), (0, 0, 100000)], [(1, 2, -1000000000000, 5), (1, 3, -1000000000000, 7), (1, 5, -1000000000000, 0), (1, 6, -1000000000000, 5), (1, 7, -1000000000000, 7), (1, 8, -1000000000000, 7), (2, 1, -1000000000000, 2), (2, 3, -1000000000000, 2), (2, 5, -1000000000000, 2), (2, 6, -1000000000000, 0), (2, 7, -1000000000000, 2), (2, 8, -1000000000000, 2), (3, 1, -1000000000000, 2000), (3, 2, -1000000000000, 1998), (3, 5, -1000000000000, 2000), (3, 6, -1000000000000, 1998), (3, 7, -1000000000000, 2000), (3, 8, -1000000000000, 2000), (5, 1, -1000000000000, 0), (5, 2, -1000000000000, 5), (5, 3, -1000000000000, 7), (5, 6, -1000000000000, 5), (5, 7, -1000000000000, 7), (5, 8, -1000000000000, 7), (6, 1, -1000000000000, 2), (6, 2, -1000000000000, 0), (6, 3, -1000000000000, 2), (6, 5, -1000000000000, 2), (6, 7, -1000000000000, 2), (6, 8, -1000000000000, 2), (7, 1, -1000000000000, 7), (7, 2, -1000000000000, 5), (7, 3, -1000000000000, 7), (7, 5, -1000000000000, 7), (7, 6, -1000000000000, 5), (7, 8, -1000000000000, 7)], [], [(2, 0, 0, [150]), (0, 0, 7, []), (0, 2, 2, []), (0, 0, 2000, [])], 0, [], [(20, [4, 4], [30, 0, 1, 1, 15, -1, 1, 11]), (20, [4], [50, 3, 0, 12, 11, 15, 2, 21, 4, 7, 1, 3, 2, 0, 12, 0, 1, 0, 3, 2, 0, 11, 4, 3, 2, 0, 15, 0, 8, 3, 7, 1, 3, 2, 0, 12, 0, 0, 0, 7, 4, 3, 2, 0, 15, 0, 1, 2, 0, 11]), (20, [3, 4], [30, -1, 1, 0, 0, -1, 1, 11]), (20, [4], [50, 1, 0, 12, 1, 3, 2, 0, 12, 0, 1]), (20, [7, 4], [50, 1, 1, 1005, 1002, 0, 6, 4, 2, 1, 0, 0, 1, 3, 1, 2, 4, 3, 2, 1, 5, 0, 2]), (23, [5, 7], [-1, 1, -1]), (24, [0, 4], []), (24, [1, 5], [])]), (170, [(0, (2, 0, 0, [150])), (1, (0, 0, 7, [])), (2, (0, 2, 2, [])), (3, (0, 0, 7, [])), (4, (0, 0, 8, []))], [], (0, 0), [(0, 0, 99830), (2, 9, 0), (0, 0, 100000)], [(1, 2, -1000000000000, 5), (1, 3, -1000000000000, 7), (1, 5, -1000000000000, 0), (1, 6, -1000000000000, 5), (1, 7, -1000000000000, 7), (1, 8, -1000000000000, 7), (2, 1, -1000000000000, 2), (2, 3, -1000000000000, 2), (2, 5, -1000000000000, 2), (2, 6, -1000000000000, 0), (2, 7, -1000000000000, 2), (2, 8, -1000000000000, 2), (3, 1, -1000000000000, 2000), (3, 2, -1000000000000, 1998), (3, 5, -1000000000000, 2000), (3, 6, -1000000000000, 1998), (3, 7, -1000000000000, 2000), (3, 8, -1000000000000, 2000), (5, 1, -1000000000000, 0), (5, 2, -1000000000000, 5), (5, 3, -1000000000000, 7), (5, 6, -1000000000000, 5), (5, 7, -1000000000000, 7), (5, 8, -1000000000000, 7), (6, 1, -1000000000000, 2), (6, 2, -1000000000000, 0), (6, 3, -1000000000000, 2), (6, 5, -1000000000000, 2), (6, 7, -1000000000000, 2), (6, 8, -1000000000000, 2), (7, 1, -1000000000000, 7), (7, 2, -1000000000000, 5), (7, 3, -1000000000000, 7), (7, 5, -1000000000000, 7), (7, 6, -1000000000000, 5), (7, 8, -1000000000000, 7)], [], [(2, 0, 0, [150]), (0, 0, 7, []), (0, 2, 2, []), (0, 0, 2000, [])], 0, [(0, 0, 2005, [])], [(20, [4, 4], [30, 0, 1, 1, 15, -1, 1, 11]), (20, [4], [50, 3, 0, 12, 11, 15, 2, 21, 4, 7, 1, 3, 2, 0, 12, 0, 1, 0, 3, 2, 0, 11, 4, 3, 2, 0, 15, 0, 8, 3, 7, 1, 3, 2, 0, 12, 0, 0, 0, 7, 4, 3, 2, 0, 15, 0, 1, 2, 0, 11]), (20, [3, 4], [30, 0, 1, 0, 0, -1, 1, 11]), (20, [4, 3], [50, 2, 0, 8, 11, 3, 7, 0, 2, 0, 1, 2, 0, 8, 0, 6, 4, 2, 1, 1, 0, 1, 2, 0, 11]), (20, [7, 4], [50, 1, 1, 1005, 1002, 0, 6, 4, 2, 1, 0, 0, 1, 3, 1, 2, 4, 3, 2, 1, 5, 0, 2]), (23, [5, 7], [-1, 1, -1]), (24, [0, 4], []), (24, [1, 5], []), (20, [9, 4, 4], [30, 2005, 1, 0, 0, 1, 1, 11, 1, 1, 8]), (20, [9, 4, 4], [30, -2005, -1, 0, 0, -1, 1, 11, -1, 1, 8])]), (194, [(0, (2, 0, 0, [150])), (1, (0, 0, 7, [])), (2, (0, 2, 2, [])), (3, (0, 0, 7, [])), (4, (0, 0, 8, []))], [], (0, 0), [(0, 0, 99830), (2, 9, 0), (0, 0, 99806)], [(1, 2, -1000000000000, 5), (1, 3, -1000000000000, 7), (1, 5, -1000000000000, 0), (1, 6, -1000000000000, 5), (1, 7, -1000000000000, 7), (1, 8, -1000000000000, 7), (2, 1, -1000000000000, 2), (2, 3, -1000000000000, 2), (2, 5, -1000000000000, 2), (2, 6, -1000000000000, 0), (2, 7, -1000000000000, 2), (2, 8, -1000000000000, 2), (3, 1, -1000000000000, 2000), (3, 2, -1000000000000, 1998), (3, 5, -1000000000000, 2000), (3, 6, -1000000000000, 1998), (3, 7, -1000000000000, 2000), (3, 8, -1000000000000, 2000), (5, 1, -1000000000000, 0), (5, 2, -1000000000000, 5), (5, 3, -1000000000000, 7), (5, 6, -1000000000000, 5), (5, 7, -1000000000000, 7), (5, 8, -1000000000000, 7), (6, 1, -1000000000000, 2), (6, 2, -1000000000000, 0), (6, 3, -1000000000000, 2), (6, 5, -1000000000000, 2), (6, 7, -1000000000000, 2), (6, 8, -1000000000000, 2), (7, 1, -1000000000000, 7), (7, 2, -1000000000000, 5), (7, 3, -1000000000000, 7), (7, 5, -1000000000000, 7), (7, 6, -1000000000000, 5), (7, 8, -1000000000000, 7)], [], [(2, 0, 0, [150]), (0, 0, 7, []), (0, 2, 2, []), (0, 0, 2000, [])], 0, [(0, 0, 2005, [])], [(20, [4, 4], [30, 0, 1, 1, 15, -1, 1, 11]), (20, [4], [50, 3, 0, 12, 11, 15, 2, 21, 4, 7, 1, 3, 2, 0, 12, 0, 1, 0, 3, 2, 0, 11, 4, 3, 2, 0, 15, 0, 8, 3, 7, 1, 3, 2, 0, 12, 0, 0, 0, 7, 4, 3, 2, 0, 15, 0, 1, 2, 0, 11]), (20, [3, 4], [30, 0, 1, 0, 0, -1, 1, 11]), (20, [4, 3], [50, 2, 0, 8, 11, 3, 7, 0, 2, 0, 1, 2, 0, 8, 0, 6, 4, 2, 1, 1, 0, 1, 2, 0, 11]), (20, [7, 4], [50, 1, 1, 1005, 1002, 0, 6, 4, 2, 1, 0, 0, 1, 3, 1, 2, 4, 3, 2, 1, 5, 0, 2]), (23, [5, 7], [-1, 1, -1]), (20, [9, 4, 4], [30, -2006, -1, 0, 0, -1, 1, 11, -1, 1, 8]), (24, [0, 4], []), (24, [1, 5], [])])]
def t_Mo_groupItem_at_k2_ct : ct_L := [(1, 425, e_Mo_byteAt), (1, 457, e_Mo_sign), (1, 460, e_Mo_next), (1, 463, e_Mo_wrong), (1, 481, e_Mo_isName), (1, 491, e_Mo_need), (1, 509, e_Mo_groups), (577, 512, e_Mo_item_at_k3)]
set_option maxRecDepth 100000 in
theorem c_Mo_groupItem_at_k2 {l : Launch} {D : va_G} {kA : Nat → ClassId} (h_Mo_byteAt : ct_ok l D kA GG y_Mo_byteAt z_Mo_byteAt e_Mo_byteAt) (h_Mo_groups : ct_ok l D kA GG y_Mo_groups z_Mo_groups e_Mo_groups) (h_Mo_isName : ct_ok l D kA GG y_Mo_isName z_Mo_isName e_Mo_isName) (h_Mo_item_at_k3 : ct_ok l D kA GG y_Mo_item_at_k3 z_Mo_item_at_k3 e_Mo_item_at_k3) (h_Mo_need : ct_ok l D kA GG y_Mo_need z_Mo_need e_Mo_need) (h_Mo_next : ct_ok l D kA GG y_Mo_next z_Mo_next e_Mo_next) (h_Mo_sign : ct_ok l D kA GG y_Mo_sign z_Mo_sign e_Mo_sign) (h_Mo_wrong : ct_ok l D kA GG y_Mo_wrong z_Mo_wrong e_Mo_wrong) : ct_ok l D kA GG y_Mo_groupItem_at_k2 z_Mo_groupItem_at_k2 e_Mo_groupItem_at_k2 := chk_all_ok (FT := [(16, 13, 2), (391, 13, 5), (413, 13, 8), (422, 13, 11), (428, 13, 13), (431, 13, 15)]) (PT := []) (CT := t_Mo_groupItem_at_k2_ct) (KT := []) (NT := []) (AN := n_Mo_groupItem_at_k2_an) (OT := [o_Mo_groupItem_at_k2_0, o_Mo_groupItem_at_k2_1, o_Mo_groupItem_at_k2_2, o_Mo_groupItem_at_k2_3, o_Mo_groupItem_at_k2_4, o_Mo_groupItem_at_k2_5, o_Mo_groupItem_at_k2_6, o_Mo_groupItem_at_k2_7, o_Mo_groupItem_at_k2_8, o_Mo_groupItem_at_k2_9, o_Mo_groupItem_at_k2_10, o_Mo_groupItem_at_k2_11, o_Mo_groupItem_at_k2_12, o_Mo_groupItem_at_k2_13, o_Mo_groupItem_at_k2_14, o_Mo_groupItem_at_k2_15, o_Mo_groupItem_at_k2_16, o_Mo_groupItem_at_k2_17, o_Mo_groupItem_at_k2_18, o_Mo_groupItem_at_k2_19, o_Mo_groupItem_at_k2_20, o_Mo_groupItem_at_k2_21, o_Mo_groupItem_at_k2_22, o_Mo_groupItem_at_k2_23]) 3 492 (List.forall_mem_cons.mpr ⟨oo_Mo_groupItem_at_k2_0, List.forall_mem_cons.mpr ⟨oo_Mo_groupItem_at_k2_1, List.forall_mem_cons.mpr ⟨oo_Mo_groupItem_at_k2_2, List.forall_mem_cons.mpr ⟨oo_Mo_groupItem_at_k2_3, List.forall_mem_cons.mpr ⟨oo_Mo_groupItem_at_k2_4, List.forall_mem_cons.mpr ⟨oo_Mo_groupItem_at_k2_5, List.forall_mem_cons.mpr ⟨oo_Mo_groupItem_at_k2_6, List.forall_mem_cons.mpr ⟨oo_Mo_groupItem_at_k2_7, List.forall_mem_cons.mpr ⟨oo_Mo_groupItem_at_k2_8, List.forall_mem_cons.mpr ⟨oo_Mo_groupItem_at_k2_9, List.forall_mem_cons.mpr ⟨oo_Mo_groupItem_at_k2_10, List.forall_mem_cons.mpr ⟨oo_Mo_groupItem_at_k2_11, List.forall_mem_cons.mpr ⟨oo_Mo_groupItem_at_k2_12, List.forall_mem_cons.mpr ⟨oo_Mo_groupItem_at_k2_13, List.forall_mem_cons.mpr ⟨oo_Mo_groupItem_at_k2_14, List.forall_mem_cons.mpr ⟨oo_Mo_groupItem_at_k2_15, List.forall_mem_cons.mpr ⟨oo_Mo_groupItem_at_k2_16, List.forall_mem_cons.mpr ⟨oo_Mo_groupItem_at_k2_17, List.forall_mem_cons.mpr ⟨oo_Mo_groupItem_at_k2_18, List.forall_mem_cons.mpr ⟨oo_Mo_groupItem_at_k2_19, List.forall_mem_cons.mpr ⟨oo_Mo_groupItem_at_k2_20, List.forall_mem_cons.mpr ⟨oo_Mo_groupItem_at_k2_21, List.forall_mem_cons.mpr ⟨oo_Mo_groupItem_at_k2_22, List.forall_mem_cons.mpr ⟨oo_Mo_groupItem_at_k2_23, List.forall_mem_nil _⟩⟩⟩⟩⟩⟩⟩⟩⟩⟩⟩⟩⟩⟩⟩⟩⟩⟩⟩⟩⟩⟩⟩⟩) (by decide +kernel) ⟨List.forall_mem_cons.mpr ⟨gf_Mo_16, List.forall_mem_cons.mpr ⟨gf_Mo_391, List.forall_mem_cons.mpr ⟨gf_Mo_413, List.forall_mem_cons.mpr ⟨gf_Mo_422, List.forall_mem_cons.mpr ⟨gf_Mo_428, List.forall_mem_cons.mpr ⟨gf_Mo_431, List.forall_mem_nil _⟩⟩⟩⟩⟩⟩, List.forall_mem_nil _, List.forall_mem_cons.mpr ⟨cl_virtual (y := y_Mo_byteAt) (ci := 13) rfl rfl ⟨_, _, rfl⟩ (by decide +kernel) h_Mo_byteAt wm_2986 wm_9 wm_2983 wm_2985 wv_12_12 ⟨by decide, by decide, by decide +kernel⟩ (by decide), List.forall_mem_cons.mpr ⟨cl_virtual (y := y_Mo_sign) (ci := 13) rfl rfl ⟨_, _, rfl⟩ (by decide +kernel) h_Mo_sign wm_3058 wm_9 wm_3055 wm_3057 wv_13_11 ⟨by decide, by decide, by decide +kernel⟩ (by decide), List.forall_mem_cons.mpr ⟨cl_virtual (y := y_Mo_next) (ci := 13) rfl rfl ⟨_, _, rfl⟩ (by decide +kernel) h_Mo_next wm_2982 wm_9 wm_2979 wm_2981 wv_12_11 ⟨by decide, by decide, by decide +kernel⟩ (by decide), List.forall_mem_cons.mpr ⟨cl_virtual (y := y_Mo_wrong) (ci := 13) rfl rfl ⟨_, _, rfl⟩ (by decide +kernel) h_Mo_wrong wm_3017 wm_9 wm_3014 wm_3016 wv_13_1 ⟨by decide, by decide, by decide +kernel⟩ (by decide), List.forall_mem_cons.mpr ⟨cl_virtual (y := y_Mo_isName) (ci := 13) rfl rfl ⟨_, _, rfl⟩ (by decide +kernel) h_Mo_isName wm_3012 wm_9 wm_3009 wm_3011 wv_13_0 ⟨by decide, by decide, by decide +kernel⟩ (by decide), List.forall_mem_cons.mpr ⟨cl_virtual (y := y_Mo_need) (ci := 13) rfl rfl ⟨_, _, rfl⟩ (by decide +kernel) h_Mo_need wm_3062 wm_9 wm_3059 wm_3061 wv_13_12 ⟨by decide, by decide, by decide +kernel⟩ (by decide), List.forall_mem_cons.mpr ⟨cl_virtual (y := y_Mo_groups) (ci := 13) rfl rfl ⟨_, _, rfl⟩ (by decide +kernel) h_Mo_groups wm_3070 wm_9 wm_3067 wm_3069 wv_13_14 ⟨by decide, by decide, by decide +kernel⟩ (by decide), List.forall_mem_cons.mpr ⟨cl_virtual (y := y_Mo_item_at_k3) (ci := 13) rfl rfl ⟨_, _, rfl⟩ (by decide +kernel) h_Mo_item_at_k3 wm_2997 wm_9 wm_2994 wm_2996 wv_12_13 ⟨by decide, by decide, by decide +kernel⟩ (by decide), List.forall_mem_nil _⟩⟩⟩⟩⟩⟩⟩⟩, List.forall_mem_nil _, List.forall_mem_nil _, GG_pl⟩ (by decide +kernel)
