def o_Mo_item_at_k0_0 : or_T := (91, 8, [(0, (2, 0, 0, [150])), (1, (0, 0, 0, [])), (3, (0, 0, 2000, [])), (5, (0, 0, 0, [])), (7, (0, 0, 0, []))], [(8, [7], [0]), (20, [0, 0], [30, 0, 1, 1, 15, -1, 1, 11]), (20, [0], [50, 3, 0, 12, 11, 15, 2, 21, 4, 7, 1, 3, 2, 0, 12, 0, 1, 0, 3, 2, 0, 11, 4, 3, 2, 0, 15, 0, 8, 3, 7, 1, 3, 2, 0, 12, 0, 0, 0, 7, 4, 3, 2, 0, 15, 0, 1, 2, 0, 11]), (20, [3, 0], [30, 0, 1, 0, 0, -1, 1, 11]), (20, [1, 0], [50, 1, 1, 1005, 1002, 0, 6, 4, 2, 1, 0, 0, 1, 3, 1, 2, 4, 3, 2, 1, 5, 0, 2]), (20, [5, 0], [50, 1, 0, 1012, 4, 6, 1, 2, 1, 0, 0, 1, 1, 3, 2, 1, 12, 0, 1]), (20, [7, 0], [50, 1, 0, 1012, 4, 6, 1, 2, 1, 0, 0, 1, 1, 3, 2, 1, 12, 0, 1]), (102, [6], [0]), (8, [5], [0])], [], [(0, 0, 2000, [])], [(23, [8, 3], [0, 1, -1]), (23, [8, 3], [0, -1, 1]), (20, [0, 0], [30, 0, 1, 1, 15, -1, 1, 11]), (20, [0], [50, 3, 0, 12, 11, 15, 2, 21, 4, 7, 1, 3, 2, 0, 12, 0, 1, 0, 3, 2, 0, 11, 4, 3, 2, 0, 15, 0, 8, 3, 7, 1, 3, 2, 0, 12, 0, 0, 0, 7, 4, 3, 2, 0, 15, 0, 1, 2, 0, 11]), (20, [8, 0], [30, 0, 1, 0, 0, -1, 1, 11]), (20, [1, 0], [50, 1, 1, 1005, 1002, 0, 6, 4, 2, 1, 0, 0, 1, 3, 1, 2, 4, 3, 2, 1, 5, 0, 2])], [], [])
theorem oo_Mo_item_at_k0_0 {kA : Nat → ClassId} : or_ok kA GG o_Mo_item_at_k0_0 := by
  intro A ta ws vs hD hth hl hk hds hf
  have hl : vs.length = 8 := hl
  have hk : ∀ q ∈ ([(0, (2, 0, 0, [150])), (1, (0, 0, 0, [])), (3, (0, 0, 2000, [])), (5, (0, 0, 0, [])), (7, (0, 0, 0, []))] : List (Nat × tv_T)), tv_ok ta q.2 (n_v vs q.1) := hk
  obtain ⟨t0, hk⟩ := List.forall_mem_cons.mp hk
  have t0 : tv_ok ta (2, 0, 0, [150]) (n_v vs 0) := t0
  have r0 : ta (v_ad (n_v vs 0)) = some 150 := tv_rg t0
  obtain ⟨t1, hk⟩ := List.forall_mem_cons.mp hk
  have t1 : tv_ok ta (0, 0, 0, []) (n_v vs 1) := t1
  have k1 : 0 ≤ v_iv (n_v vs 1) ∧ v_iv (n_v vs 1) ≤ 0 := tv_rng t1
  obtain ⟨t3, hk⟩ := List.forall_mem_cons.mp hk
  have t3 : tv_ok ta (0, 0, 2000, []) (n_v vs 3) := t3
  have k3 : 0 ≤ v_iv (n_v vs 3) ∧ v_iv (n_v vs 3) ≤ 2000 := tv_rng t3
  obtain ⟨t5, hk⟩ := List.forall_mem_cons.mp hk
  have t5 : tv_ok ta (0, 0, 0, []) (n_v vs 5) := t5
  have k5 : 0 ≤ v_iv (n_v vs 5) ∧ v_iv (n_v vs 5) ≤ 0 := tv_rng t5
  obtain ⟨t7, hk⟩ := List.forall_mem_cons.mp hk
  have t7 : tv_ok ta (0, 0, 0, []) (n_v vs 7) := t7
  have k7 : 0 ≤ v_iv (n_v vs 7) ∧ v_iv (n_v vs 7) ≤ 0 := tv_rng t7
  have hf : fc_ok [(8, [7], [0]), (20, [0, 0], [30, 0, 1, 1, 15, -1, 1, 11]), (20, [0], [50, 3, 0, 12, 11, 15, 2, 21, 4, 7, 1, 3, 2, 0, 12, 0, 1, 0, 3, 2, 0, 11, 4, 3, 2, 0, 15, 0, 8, 3, 7, 1, 3, 2, 0, 12, 0, 0, 0, 7, 4, 3, 2, 0, 15, 0, 1, 2, 0, 11]), (20, [3, 0], [30, 0, 1, 0, 0, -1, 1, 11]), (20, [1, 0], [50, 1, 1, 1005, 1002, 0, 6, 4, 2, 1, 0, 0, 1, 3, 1, 2, 4, 3, 2, 1, 5, 0, 2]), (20, [5, 0], [50, 1, 0, 1012, 4, 6, 1, 2, 1, 0, 0, 1, 1, 3, 2, 1, 12, 0, 1]), (20, [7, 0], [50, 1, 0, 1012, 4, 6, 1, 2, 1, 0, 0, 1, 1, 3, 2, 1, 12, 0, 1]), (102, [6], [0]), (8, [5], [0])] ta ws vs := hf
  obtain ⟨f0, hf⟩ := fc_un (show (8 : Nat) < 100 from by decide) hf
  have f0 : v_iv (n_v vs 7) = 0 := f0
  obtain ⟨f1, hf⟩ := fc_un (show (20 : Nat) < 100 from by decide) hf
  have f1 : 1 * w_fi ws (n_v vs 0) 15 + ((-1) * w_fi ws (n_v vs 0) 11 + 0) ≤ 0 := f1
  obtain ⟨f2, hf⟩ := fc_un (show (20 : Nat) < 100 from by decide) hf
  have f2 : ((w_fi ws (n_v vs 0) 12 = 1) → (w_fi ws (n_v vs 0) 11 ≤ (w_fi ws (n_v vs 0) 15 + 8))) ∧ ((w_fi ws (n_v vs 0) 12 = 0) ∨ ((w_fi ws (n_v vs 0) 15 + 1) ≤ w_fi ws (n_v vs 0) 11)) := f2
  obtain ⟨f3, hf⟩ := fc_un (show (20 : Nat) < 100 from by decide) hf
  have f3 : 1 * v_iv (n_v vs 3) + ((-1) * w_fi ws (n_v vs 0) 11 + 0) ≤ 0 := f3
  obtain ⟨f4, hf⟩ := fc_un (show (20 : Nat) < 100 from by decide) hf
  have f4 : (v_iv (n_v vs 1) + 1) ≤ w_ei ws (w_ar ws (n_v vs 0) 2) ((w_fi ws (n_v vs 0) 5 + 2)) := f4
  obtain ⟨f5, hf⟩ := fc_un (show (20 : Nat) < 100 from by decide) hf
  have f5 : (v_iv (n_v vs 5) = 1) → (w_fi ws (n_v vs 0) 12 = 1) := f5
  obtain ⟨f6, hf⟩ := fc_un (show (20 : Nat) < 100 from by decide) hf
  have f6 : (v_iv (n_v vs 7) = 1) → (w_fi ws (n_v vs 0) 12 = 1) := f6
  obtain ⟨ta1, w1, le1, ⟨_, s1⟩, hf⟩ := fc_us (show ¬ (102 : Nat) < 100 from by decide) hf
  obtain ⟨f8, hf⟩ := fc_un (show (8 : Nat) < 100 from by decide) hf
  have f8 : v_iv (n_v vs 5) = 0 := f8
  have cr_0_2 : ta (w_ar ws (n_v vs 0) 2) = some 152 := tv_rg (th_fd hD hth r0 (g := GG_150) rfl (k := 2) (t := (2, 0, 0, [152])) rfl rfl)
  have kz_0_11 : 0 ≤ w_fi ws (n_v vs 0) 11 ∧ w_fi ws (n_v vs 0) 11 ≤ 2000 := tv_rng (th_fd hD hth r0 (g := GG_150) rfl (k := 11) (t := (0, 0, 2000, [])) rfl rfl)
  have kz_0_12 : 0 ≤ w_fi ws (n_v vs 0) 12 ∧ w_fi ws (n_v vs 0) 12 ≤ 4 := tv_rng (th_fd hD hth r0 (g := GG_150) rfl (k := 12) (t := (0, 0, 4, [])) rfl rfl)
  have kz_0_15 : 0 ≤ w_fi ws (n_v vs 0) 15 ∧ w_fi ws (n_v vs 0) 15 ≤ 2000 := tv_rng (th_fd hD hth r0 (g := GG_150) rfl (k := 15) (t := (0, 0, 2000, [])) rfl rfl)
  obtain ⟨x, ex, hx⟩ := iv_ex (ta := ta) (lo := 0) (hi := 2000) (z := v_iv (n_v vs 3)) (by omega) (by omega) (by omega) (by omega)
  have ex2 : v_iv (Value.int x) = v_iv (n_v vs 3) := ex
  have ex3 : 0 ≤ v_iv (Value.int x) ∧ v_iv (Value.int x) ≤ 2000 := tv_rng hx
  have e_0 : n_v (vs ++ [Value.int x]) 0 = n_v vs 0 := n_v_old (by rw [hl]; decide)
  have e_1 : n_v (vs ++ [Value.int x]) 1 = n_v vs 1 := n_v_old (by rw [hl]; decide)
  have e_3 : n_v (vs ++ [Value.int x]) 3 = n_v vs 3 := n_v_old (by rw [hl]; decide)
  have e_8 : n_v (vs ++ [Value.int x]) 8 = Value.int x := n_v_new hl
  have nf0 : fc_1 (23, [8, 3], [0, 1, -1]) ws (vs ++ [Value.int x]) := by
    refine ⟨fun n hn => ?_, ?_⟩
    · have hn : n ∈ [8, 3] := hn
      rw [List.length_append, hl]
      simp only [List.mem_cons, List.not_mem_nil, or_false] at hn
      show n < 8 + 1; omega
    · show 1 * v_iv (n_v (vs ++ [Value.int x]) 8) + ((-1) * v_iv (n_v (vs ++ [Value.int x]) 3) + 0) ≤ 0
      rw [e_3]
      rw [e_8]
      omega
  have nf1 : fc_1 (23, [8, 3], [0, -1, 1]) ws (vs ++ [Value.int x]) := by
    refine ⟨fun n hn => ?_, ?_⟩
    · have hn : n ∈ [8, 3] := hn
      rw [List.length_append, hl]
      simp only [List.mem_cons, List.not_mem_nil, or_false] at hn
      show n < 8 + 1; omega
    · show (-1) * v_iv (n_v (vs ++ [Value.int x]) 8) + (1 * v_iv (n_v (vs ++ [Value.int x]) 3) + 0) ≤ 0
      rw [e_3]
      rw [e_8]
      omega
  have nf2 : fc_1 (20, [0, 0], [30, 0, 1, 1, 15, -1, 1, 11]) ws (vs ++ [Value.int x]) := by
    refine ⟨fun n hn => ?_, ?_⟩
    · have hn : n ∈ [0, 0] := hn
      rw [List.length_append, hl]
      simp only [List.mem_cons, List.not_mem_nil, or_false] at hn
      show n < 8 + 1; omega
    · show 1 * w_fi ws (n_v (vs ++ [Value.int x]) 0) 15 + ((-1) * w_fi ws (n_v (vs ++ [Value.int x]) 0) 11 + 0) ≤ 0
      rw [e_0]
      omega
  have nf3 : fc_1 (20, [0], [50, 3, 0, 12, 11, 15, 2, 21, 4, 7, 1, 3, 2, 0, 12, 0, 1, 0, 3, 2, 0, 11, 4, 3, 2, 0, 15, 0, 8, 3, 7, 1, 3, 2, 0, 12, 0, 0, 0, 7, 4, 3, 2, 0, 15, 0, 1, 2, 0, 11]) ws (vs ++ [Value.int x]) := by
    refine ⟨fun n hn => ?_, ?_⟩
    · have hn : n ∈ [0] := hn
      rw [List.length_append, hl]
      simp only [List.mem_cons, List.not_mem_nil, or_false] at hn
      show n < 8 + 1; omega
    · show ((w_fi ws (n_v (vs ++ [Value.int x]) 0) 12 = 1) → (w_fi ws (n_v (vs ++ [Value.int x]) 0) 11 ≤ (w_fi ws (n_v (vs ++ [Value.int x]) 0) 15 + 8))) ∧ ((w_fi ws (n_v (vs ++ [Value.int x]) 0) 12 = 0) ∨ ((w_fi ws (n_v (vs ++ [Value.int x]) 0) 15 + 1) ≤ w_fi ws (n_v (vs ++ [Value.int x]) 0) 11))
      rw [e_0]
      first | omega | grind
  have nf4 : fc_1 (20, [8, 0], [30, 0, 1, 0, 0, -1, 1, 11]) ws (vs ++ [Value.int x]) := by
    refine ⟨fun n hn => ?_, ?_⟩
    · have hn : n ∈ [8, 0] := hn
      rw [List.length_append, hl]
      simp only [List.mem_cons, List.not_mem_nil, or_false] at hn
      show n < 8 + 1; omega
    · show 1 * v_iv (n_v (vs ++ [Value.int x]) 8) + ((-1) * w_fi ws (n_v (vs ++ [Value.int x]) 0) 11 + 0) ≤ 0
      rw [e_0]
      rw [e_8]
      omega
  have nf5 : fc_1 (20, [1, 0], [50, 1, 1, 1005, 1002, 0, 6, 4, 2, 1, 0, 0, 1, 3, 1, 2, 4, 3, 2, 1, 5, 0, 2]) ws (vs ++ [Value.int x]) := by
    refine ⟨fun n hn => ?_, ?_⟩
    · have hn : n ∈ [1, 0] := hn
      rw [List.length_append, hl]
      simp only [List.mem_cons, List.not_mem_nil, or_false] at hn
      show n < 8 + 1; omega
    · show (v_iv (n_v (vs ++ [Value.int x]) 1) + 1) ≤ w_ei ws (w_ar ws (n_v (vs ++ [Value.int x]) 0) 2) ((w_fi ws (n_v (vs ++ [Value.int x]) 0) 5 + 2))
      rw [e_0]
      rw [e_1]
      first | omega | grind
  exact ⟨(fun _ h => (by cases h)), [Value.int x], ag_one hx, List.forall_mem_cons.mpr ⟨⟨show (23 : Nat) < 100 from by decide, nf0⟩, List.forall_mem_cons.mpr ⟨⟨show (23 : Nat) < 100 from by decide, nf1⟩, List.forall_mem_cons.mpr ⟨⟨show (20 : Nat) < 100 from by decide, nf2⟩, List.forall_mem_cons.mpr ⟨⟨show (20 : Nat) < 100 from by decide, nf3⟩, List.forall_mem_cons.mpr ⟨⟨show (20 : Nat) < 100 from by decide, nf4⟩, List.forall_mem_cons.mpr ⟨⟨show (20 : Nat) < 100 from by decide, nf5⟩, (fun _ h => (by cases h))⟩⟩⟩⟩⟩⟩, (fun _ h => (by cases h))⟩
def o_Mo_item_at_k0_1 : or_T := (94, 9, [(0, (2, 0, 0, [150])), (1, (0, 0, 0, [])), (3, (0, 0, 2000, [])), (8, (0, 0, 2000, []))], [(23, [8, 3], [0, 1, -1]), (23, [8, 3], [0, -1, 1]), (20, [0, 0], [30, 0, 1, 1, 15, -1, 1, 11]), (20, [0], [50, 3, 0, 12, 11, 15, 2, 21, 4, 7, 1, 3, 2, 0, 12, 0, 1, 0, 3, 2, 0, 11, 4, 3, 2, 0, 15, 0, 8, 3, 7, 1, 3, 2, 0, 12, 0, 0, 0, 7, 4, 3, 2, 0, 15, 0, 1, 2, 0, 11]), (20, [8, 0], [30, 0, 1, 0, 0, -1, 1, 11]), (20, [0, 8], [50, 2, 0, 8, 11, 3, 7, 0, 2, 0, 1, 2, 0, 8, 0, 6, 4, 2, 1, 1, 0, 1, 2, 0, 11]), (20, [1, 0], [50, 1, 1, 1005, 1002, 0, 6, 4, 2, 1, 0, 0, 1, 3, 1, 2, 4, 3, 2, 1, 5, 0, 2]), (102, [8], [5708990770823839524233143877797980545530986496, 13008, 13009, 13011, 13012, 13013, 13014, 13015]), (23, [8, 3], [0, 1, -1]), (23, [8, 3], [0, -1, 1])], [], [], [(20, [3, 0], [30, 0, 1, 0, 0, -1, 1, 11]), (20, [0, 3], [50, 2, 0, 8, 11, 3, 7, 0, 2, 0, 1, 2, 0, 8, 0, 6, 4, 2, 1, 1, 0, 1, 2, 0, 11])], [], [])
theorem oo_Mo_item_at_k0_1 {kA : Nat → ClassId} : or_ok kA GG o_Mo_item_at_k0_1 := by
  intro A ta ws vs hD hth hl hk hds hf
  have hl : vs.length = 9 := hl
  have hk : ∀ q ∈ ([(0, (2, 0, 0, [150])), (1, (0, 0, 0, [])), (3, (0, 0, 2000, [])), (8, (0, 0, 2000, []))] : List (Nat × tv_T)), tv_ok ta q.2 (n_v vs q.1) := hk
  obtain ⟨t0, hk⟩ := List.forall_mem_cons.mp hk
  have t0 : tv_ok ta (2, 0, 0, [150]) (n_v vs 0) := t0
  have r0 : ta (v_ad (n_v vs 0)) = some 150 := tv_rg t0
  obtain ⟨t1, hk⟩ := List.forall_mem_cons.mp hk
  have t1 : tv_ok ta (0, 0, 0, []) (n_v vs 1) := t1
  have k1 : 0 ≤ v_iv (n_v vs 1) ∧ v_iv (n_v vs 1) ≤ 0 := tv_rng t1
  obtain ⟨t3, hk⟩ := List.forall_mem_cons.mp hk
  have t3 : tv_ok ta (0, 0, 2000, []) (n_v vs 3) := t3
  have k3 : 0 ≤ v_iv (n_v vs 3) ∧ v_iv (n_v vs 3) ≤ 2000 := tv_rng t3
  obtain ⟨t8, hk⟩ := List.forall_mem_cons.mp hk
  have t8 : tv_ok ta (0, 0, 2000, []) (n_v vs 8) := t8
  have k8 : 0 ≤ v_iv (n_v vs 8) ∧ v_iv (n_v vs 8) ≤ 2000 := tv_rng t8
  have hf : fc_ok [(23, [8, 3], [0, 1, -1]), (23, [8, 3], [0, -1, 1]), (20, [0, 0], [30, 0, 1, 1, 15, -1, 1, 11]), (20, [0], [50, 3, 0, 12, 11, 15, 2, 21, 4, 7, 1, 3, 2, 0, 12, 0, 1, 0, 3, 2, 0, 11, 4, 3, 2, 0, 15, 0, 8, 3, 7, 1, 3, 2, 0, 12, 0, 0, 0, 7, 4, 3, 2, 0, 15, 0, 1, 2, 0, 11]), (20, [8, 0], [30, 0, 1, 0, 0, -1, 1, 11]), (20, [0, 8], [50, 2, 0, 8, 11, 3, 7, 0, 2, 0, 1, 2, 0, 8, 0, 6, 4, 2, 1, 1, 0, 1, 2, 0, 11]), (20, [1, 0], [50, 1, 1, 1005, 1002, 0, 6, 4, 2, 1, 0, 0, 1, 3, 1, 2, 4, 3, 2, 1, 5, 0, 2]), (102, [8], [5708990770823839524233143877797980545530986496, 13008, 13009, 13011, 13012, 13013, 13014, 13015]), (23, [8, 3], [0, 1, -1]), (23, [8, 3], [0, -1, 1])] ta ws vs := hf
  obtain ⟨f0, hf⟩ := fc_un (show (23 : Nat) < 100 from by decide) hf
  have f0 : 1 * v_iv (n_v vs 8) + ((-1) * v_iv (n_v vs 3) + 0) ≤ 0 := f0
  obtain ⟨f1, hf⟩ := fc_un (show (23 : Nat) < 100 from by decide) hf
  have f1 : (-1) * v_iv (n_v vs 8) + (1 * v_iv (n_v vs 3) + 0) ≤ 0 := f1
  obtain ⟨f2, hf⟩ := fc_un (show (20 : Nat) < 100 from by decide) hf
  have f2 : 1 * w_fi ws (n_v vs 0) 15 + ((-1) * w_fi ws (n_v vs 0) 11 + 0) ≤ 0 := f2
  obtain ⟨f3, hf⟩ := fc_un (show (20 : Nat) < 100 from by decide) hf
  have f3 : ((w_fi ws (n_v vs 0) 12 = 1) → (w_fi ws (n_v vs 0) 11 ≤ (w_fi ws (n_v vs 0) 15 + 8))) ∧ ((w_fi ws (n_v vs 0) 12 = 0) ∨ ((w_fi ws (n_v vs 0) 15 + 1) ≤ w_fi ws (n_v vs 0) 11)) := f3
  obtain ⟨f4, hf⟩ := fc_un (show (20 : Nat) < 100 from by decide) hf
  have f4 : 1 * v_iv (n_v vs 8) + ((-1) * w_fi ws (n_v vs 0) 11 + 0) ≤ 0 := f4
  obtain ⟨f5, hf⟩ := fc_un (show (20 : Nat) < 100 from by decide) hf
  have f5 : (1 ≤ w_fi ws (n_v vs 0) 8) ∨ ((v_iv (n_v vs 8) + 1) ≤ w_fi ws (n_v vs 0) 11) := f5
  obtain ⟨f6, hf⟩ := fc_un (show (20 : Nat) < 100 from by decide) hf
  have f6 : (v_iv (n_v vs 1) + 1) ≤ w_ei ws (w_ar ws (n_v vs 0) 2) ((w_fi ws (n_v vs 0) 5 + 2)) := f6
  obtain ⟨ta1, w1, le1, ⟨_, s1⟩, hf⟩ := fc_us (show ¬ (102 : Nat) < 100 from by decide) hf
  obtain ⟨f8, hf⟩ := fc_un (show (23 : Nat) < 100 from by decide) hf
  have f8 : 1 * v_iv (n_v vs 8) + ((-1) * v_iv (n_v vs 3) + 0) ≤ 0 := f8
  obtain ⟨f9, hf⟩ := fc_un (show (23 : Nat) < 100 from by decide) hf
  have f9 : (-1) * v_iv (n_v vs 8) + (1 * v_iv (n_v vs 3) + 0) ≤ 0 := f9
  have cr_0_2 : ta (w_ar ws (n_v vs 0) 2) = some 152 := tv_rg (th_fd hD hth r0 (g := GG_150) rfl (k := 2) (t := (2, 0, 0, [152])) rfl rfl)
  have kz_0_8 : 0 ≤ w_fi ws (n_v vs 0) 8 ∧ w_fi ws (n_v vs 0) 8 ≤ 5 := tv_rng (th_fd hD hth r0 (g := GG_150) rfl (k := 8) (t := (0, 0, 5, [])) rfl rfl)
  have kz_0_11 : 0 ≤ w_fi ws (n_v vs 0) 11 ∧ w_fi ws (n_v vs 0) 11 ≤ 2000 := tv_rng (th_fd hD hth r0 (g := GG_150) rfl (k := 11) (t := (0, 0, 2000, [])) rfl rfl)
  have kz_0_12 : 0 ≤ w_fi ws (n_v vs 0) 12 ∧ w_fi ws (n_v vs 0) 12 ≤ 4 := tv_rng (th_fd hD hth r0 (g := GG_150) rfl (k := 12) (t := (0, 0, 4, [])) rfl rfl)
  have kz_0_15 : 0 ≤ w_fi ws (n_v vs 0) 15 ∧ w_fi ws (n_v vs 0) 15 ≤ 2000 := tv_rng (th_fd hD hth r0 (g := GG_150) rfl (k := 15) (t := (0, 0, 2000, [])) rfl rfl)
  have nf0 : fc_1 (20, [3, 0], [30, 0, 1, 0, 0, -1, 1, 11]) ws (vs) := by
    refine ⟨fun n hn => ?_, ?_⟩
    · have hn : n ∈ [3, 0] := hn
      rw [hl]
      simp only [List.mem_cons, List.not_mem_nil, or_false] at hn
      show n < 9; omega
    · show 1 * v_iv (n_v vs 3) + ((-1) * w_fi ws (n_v vs 0) 11 + 0) ≤ 0
      omega
  have nf1 : fc_1 (20, [0, 3], [50, 2, 0, 8, 11, 3, 7, 0, 2, 0, 1, 2, 0, 8, 0, 6, 4, 2, 1, 1, 0, 1, 2, 0, 11]) ws (vs) := by
    refine ⟨fun n hn => ?_, ?_⟩
    · have hn : n ∈ [0, 3] := hn
      rw [hl]
      simp only [List.mem_cons, List.not_mem_nil, or_false] at hn
      show n < 9; omega
    · show (1 ≤ w_fi ws (n_v vs 0) 8) ∨ ((v_iv (n_v vs 3) + 1) ≤ w_fi ws (n_v vs 0) 11)
      first | omega | grind
  refine ⟨(fun _ h => (by cases h)), [], trivial, ?_, (fun _ h => (by cases h))⟩
  rw [List.append_nil]
  exact List.forall_mem_cons.mpr ⟨⟨show (20 : Nat) < 100 from by decide, nf0⟩, List.forall_mem_cons.mpr ⟨⟨show (20 : Nat) < 100 from by decide, nf1⟩, (fun _ h => (by cases h))⟩⟩
def o_Mo_item_at_k0_2 : or_T := (83, 8, [(0, (2, 0, 0, [150])), (1, (0, 0, 0, [])), (3, (0, 0, 2000, [])), (5, (0, 0, 0, [])), (7, (0, 1, 1, []))], [(8, [7], [1]), (20, [0, 0], [30, 0, 1, 1, 15, -1, 1, 11]), (20, [0], [50, 3, 0, 12, 11, 15, 2, 21, 4, 7, 1, 3, 2, 0, 12, 0, 1, 0, 3, 2, 0, 11, 4, 3, 2, 0, 15, 0, 8, 3, 7, 1, 3, 2, 0, 12, 0, 0, 0, 7, 4, 3, 2, 0, 15, 0, 1, 2, 0, 11]), (20, [3, 0], [30, 0, 1, 0, 0, -1, 1, 11]), (20, [1, 0], [50, 1, 1, 1005, 1002, 0, 6, 4, 2, 1, 0, 0, 1, 3, 1, 2, 4, 3, 2, 1, 5, 0, 2]), (20, [5, 0], [50, 1, 0, 1012, 4, 6, 1, 2, 1, 0, 0, 1, 1, 3, 2, 1, 12, 0, 1]), (20, [7, 0], [50, 1, 0, 1012, 4, 6, 1, 2, 1, 0, 0, 1, 1, 3, 2, 1, 12, 0, 1]), (102, [6], [0]), (8, [5], [0])], [], [(0, 0, 2000, [])], [(23, [8, 3], [0, 1, -1]), (23, [8, 3], [0, -1, 1]), (20, [0, 0], [30, 0, 1, 1, 15, -1, 1, 11]), (20, [0], [50, 3, 0, 12, 11, 15, 2, 21, 4, 7, 1, 3, 2, 0, 12, 0, 1, 0, 3, 2, 0, 11, 4, 3, 2, 0, 15, 0, 8, 3, 7, 1, 3, 2, 0, 12, 0, 0, 0, 7, 4, 3, 2, 0, 15, 0, 1, 2, 0, 11]), (20, [8, 0], [30, 0, 1, 0, 0, -1, 1, 11]), (20, [1, 0], [50, 1, 1, 1005, 1002, 0, 6, 4, 2, 1, 0, 0, 1, 3, 1, 2, 4, 3, 2, 1, 5, 0, 2])], [], [])
theorem oo_Mo_item_at_k0_2 {kA : Nat → ClassId} : or_ok kA GG o_Mo_item_at_k0_2 := by
  intro A ta ws vs hD hth hl hk hds hf
  have hl : vs.length = 8 := hl
  have hk : ∀ q ∈ ([(0, (2, 0, 0, [150])), (1, (0, 0, 0, [])), (3, (0, 0, 2000, [])), (5, (0, 0, 0, [])), (7, (0, 1, 1, []))] : List (Nat × tv_T)), tv_ok ta q.2 (n_v vs q.1) := hk
  obtain ⟨t0, hk⟩ := List.forall_mem_cons.mp hk
  have t0 : tv_ok ta (2, 0, 0, [150]) (n_v vs 0) := t0
  have r0 : ta (v_ad (n_v vs 0)) = some 150 := tv_rg t0
  obtain ⟨t1, hk⟩ := List.forall_mem_cons.mp hk
  have t1 : tv_ok ta (0, 0, 0, []) (n_v vs 1) := t1
  have k1 : 0 ≤ v_iv (n_v vs 1) ∧ v_iv (n_v vs 1) ≤ 0 := tv_rng t1
  obtain ⟨t3, hk⟩ := List.forall_mem_cons.mp hk
  have t3 : tv_ok ta (0, 0, 2000, []) (n_v vs 3) := t3
  have k3 : 0 ≤ v_iv (n_v vs 3) ∧ v_iv (n_v vs 3) ≤ 2000 := tv_rng t3
  obtain ⟨t5, hk⟩ := List.forall_mem_cons.mp hk
  have t5 : tv_ok ta (0, 0, 0, []) (n_v vs 5) := t5
  have k5 : 0 ≤ v_iv (n_v vs 5) ∧ v_iv (n_v vs 5) ≤ 0 := tv_rng t5
  obtain ⟨t7, hk⟩ := List.forall_mem_cons.mp hk
  have t7 : tv_ok ta (0, 1, 1, []) (n_v vs 7) := t7
  have k7 : 1 ≤ v_iv (n_v vs 7) ∧ v_iv (n_v vs 7) ≤ 1 := tv_rng t7
  have hf : fc_ok [(8, [7], [1]), (20, [0, 0], [30, 0, 1, 1, 15, -1, 1, 11]), (20, [0], [50, 3, 0, 12, 11, 15, 2, 21, 4, 7, 1, 3, 2, 0, 12, 0, 1, 0, 3, 2, 0, 11, 4, 3, 2, 0, 15, 0, 8, 3, 7, 1, 3, 2, 0, 12, 0, 0, 0, 7, 4, 3, 2, 0, 15, 0, 1, 2, 0, 11]), (20, [3, 0], [30, 0, 1, 0, 0, -1, 1, 11]), (20, [1, 0], [50, 1, 1, 1005, 1002, 0, 6, 4, 2, 1, 0, 0, 1, 3, 1, 2, 4, 3, 2, 1, 5, 0, 2]), (20, [5, 0], [50, 1, 0, 1012, 4, 6, 1, 2, 1, 0, 0, 1, 1, 3, 2, 1, 12, 0, 1]), (20, [7, 0], [50, 1, 0, 1012, 4, 6, 1, 2, 1, 0, 0, 1, 1, 3, 2, 1, 12, 0, 1]), (102, [6], [0]), (8, [5], [0])] ta ws vs := hf
  obtain ⟨f0, hf⟩ := fc_un (show (8 : Nat) < 100 from by decide) hf
  have f0 : v_iv (n_v vs 7) ≠ 0 := f0
  obtain ⟨f1, hf⟩ := fc_un (show (20 : Nat) < 100 from by decide) hf
  have f1 : 1 * w_fi ws (n_v vs 0) 15 + ((-1) * w_fi ws (n_v vs 0) 11 + 0) ≤ 0 := f1
  obtain ⟨f2, hf⟩ := fc_un (show (20 : Nat) < 100 from by decide) hf
  have f2 : ((w_fi ws (n_v vs 0) 12 = 1) → (w_fi ws (n_v vs 0) 11 ≤ (w_fi ws (n_v vs 0) 15 + 8))) ∧ ((w_fi ws (n_v vs 0) 12 = 0) ∨ ((w_fi ws (n_v vs 0) 15 + 1) ≤ w_fi ws (n_v vs 0) 11)) := f2
  obtain ⟨f3, hf⟩ := fc_un (show (20 : Nat) < 100 from by decide) hf
  have f3 : 1 * v_iv (n_v vs 3) + ((-1) * w_fi ws (n_v vs 0) 11 + 0) ≤ 0 := f3
  obtain ⟨f4, hf⟩ := fc_un (show (20 : Nat) < 100 from by decide) hf
  have f4 : (v_iv (n_v vs 1) + 1) ≤ w_ei ws (w_ar ws (n_v vs 0) 2) ((w_fi ws (n_v vs 0) 5 + 2)) := f4
  obtain ⟨f5, hf⟩ := fc_un (show (20 : Nat) < 100 from by decide) hf
  have f5 : (v_iv (n_v vs 5) = 1) → (w_fi ws (n_v vs 0) 12 = 1) := f5
  obtain ⟨f6, hf⟩ := fc_un (show (20 : Nat) < 100 from by decide) hf
  have f6 : (v_iv (n_v vs 7) = 1) → (w_fi ws (n_v vs 0) 12 = 1) := f6
  obtain ⟨ta1, w1, le1, ⟨_, s1⟩, hf⟩ := fc_us (show ¬ (102 : Nat) < 100 from by decide) hf
  obtain ⟨f8, hf⟩ := fc_un (show (8 : Nat) < 100 from by decide) hf
  have f8 : v_iv (n_v vs 5) = 0 := f8
  have cr_0_2 : ta (w_ar ws (n_v vs 0) 2) = some 152 := tv_rg (th_fd hD hth r0 (g := GG_150) rfl (k := 2) (t := (2, 0, 0, [152])) rfl rfl)
  have kz_0_11 : 0 ≤ w_fi ws (n_v vs 0) 11 ∧ w_fi ws (n_v vs 0) 11 ≤ 2000 := tv_rng (th_fd hD hth r0 (g := GG_150) rfl (k := 11) (t := (0, 0, 2000, [])) rfl rfl)
  have kz_0_12 : 0 ≤ w_fi ws (n_v vs 0) 12 ∧ w_fi ws (n_v vs 0) 12 ≤ 4 := tv_rng (th_fd hD hth r0 (g := GG_150) rfl (k := 12) (t := (0, 0, 4, [])) rfl rfl)
  have kz_0_15 : 0 ≤ w_fi ws (n_v vs 0) 15 ∧ w_fi ws (n_v vs 0) 15 ≤ 2000 := tv_rng (th_fd hD hth r0 (g := GG_150) rfl (k := 15) (t := (0, 0, 2000, [])) rfl rfl)
  obtain ⟨x, ex, hx⟩ := iv_ex (ta := ta) (lo := 0) (hi := 2000) (z := v_iv (n_v vs 3)) (by omega) (by omega) (by omega) (by omega)
  have ex2 : v_iv (Value.int x) = v_iv (n_v vs 3) := ex
  have ex3 : 0 ≤ v_iv (Value.int x) ∧ v_iv (Value.int x) ≤ 2000 := tv_rng hx
  have e_0 : n_v (vs ++ [Value.int x]) 0 = n_v vs 0 := n_v_old (by rw [hl]; decide)
  have e_1 : n_v (vs ++ [Value.int x]) 1 = n_v vs 1 := n_v_old (by rw [hl]; decide)
  have e_3 : n_v (vs ++ [Value.int x]) 3 = n_v vs 3 := n_v_old (by rw [hl]; decide)
  have e_8 : n_v (vs ++ [Value.int x]) 8 = Value.int x := n_v_new hl
  have nf0 : fc_1 (23, [8, 3], [0, 1, -1]) ws (vs ++ [Value.int x]) := by
    refine ⟨fun n hn => ?_, ?_⟩
    · have hn : n ∈ [8, 3] := hn
      rw [List.length_append, hl]
      simp only [List.mem_cons, List.not_mem_nil, or_false] at hn
      show n < 8 + 1; omega
    · show 1 * v_iv (n_v (vs ++ [Value.int x]) 8) + ((-1) * v_iv (n_v (vs ++ [Value.int x]) 3) + 0) ≤ 0
      rw [e_3]
      rw [e_8]
      omega
  have nf1 : fc_1 (23, [8, 3], [0, -1, 1]) ws (vs ++ [Value.int x]) := by
    refine ⟨fun n hn => ?_, ?_⟩
    · have hn : n ∈ [8, 3] := hn
      rw [List.length_append, hl]
      simp only [List.mem_cons, List.not_mem_nil, or_false] at hn
      show n < 8 + 1; omega
    · show (-1) * v_iv (n_v (vs ++ [Value.int x]) 8) + (1 * v_iv (n_v (vs ++ [Value.int x]) 3) + 0) ≤ 0
      rw [e_3]
      rw [e_8]
      omega
  have nf2 : fc_1 (20, [0, 0], [30, 0, 1, 1, 15, -1, 1, 11]) ws (vs ++ [Value.int x]) := by
    refine ⟨fun n hn => ?_, ?_⟩
    · have hn : n ∈ [0, 0] := hn
      rw [List.length_append, hl]
      simp only [List.mem_cons, List.not_mem_nil, or_false] at hn
      show n < 8 + 1; omega
    · show 1 * w_fi ws (n_v (vs ++ [Value.int x]) 0) 15 + ((-1) * w_fi ws (n_v (vs ++ [Value.int x]) 0) 11 + 0) ≤ 0
      rw [e_0]
      omega
  have nf3 : fc_1 (20, [0], [50, 3, 0, 12, 11, 15, 2, 21, 4, 7, 1, 3, 2, 0, 12, 0, 1, 0, 3, 2, 0, 11, 4, 3, 2, 0, 15, 0, 8, 3, 7, 1, 3, 2, 0, 12, 0, 0, 0, 7, 4, 3, 2, 0, 15, 0, 1, 2, 0, 11]) ws (vs ++ [Value.int x]) := by
    refine ⟨fun n hn => ?_, ?_⟩
    · have hn : n ∈ [0] := hn
      rw [List.length_append, hl]
      simp only [List.mem_cons, List.not_mem_nil, or_false] at hn
      show n < 8 + 1; omega
    · show ((w_fi ws (n_v (vs ++ [Value.int x]) 0) 12 = 1) → (w_fi ws (n_v (vs ++ [Value.int x]) 0) 11 ≤ (w_fi ws (n_v (vs ++ [Value.int x]) 0) 15 + 8))) ∧ ((w_fi ws (n_v (vs ++ [Value.int x]) 0) 12 = 0) ∨ ((w_fi ws (n_v (vs ++ [Value.int x]) 0) 15 + 1) ≤ w_fi ws (n_v (vs ++ [Value.int x]) 0) 11))
      rw [e_0]
      first | omega | grind
  have nf4 : fc_1 (20, [8, 0], [30, 0, 1, 0, 0, -1, 1, 11]) ws (vs ++ [Value.int x]) := by
    refine ⟨fun n hn => ?_, ?_⟩
    · have hn : n ∈ [8, 0] := hn
      rw [List.length_append, hl]
      simp only [List.mem_cons, List.not_mem_nil, or_false] at hn
      show n < 8 + 1; omega
    · show 1 * v_iv (n_v (vs ++ [Value.int x]) 8) + ((-1) * w_fi ws (n_v (vs ++ [Value.int x]) 0) 11 + 0) ≤ 0
      rw [e_0]
      rw [e_8]
      omega
  have nf5 : fc_1 (20, [1, 0], [50, 1, 1, 1005, 1002, 0, 6, 4, 2, 1, 0, 0, 1, 3, 1, 2, 4, 3, 2, 1, 5, 0, 2]) ws (vs ++ [Value.int x]) := by
    refine ⟨fun n hn => ?_, ?_⟩
    · have hn : n ∈ [1, 0] := hn
      rw [List.length_append, hl]
      simp only [List.mem_cons, List.not_mem_nil, or_false] at hn
      show n < 8 + 1; omega
    · show (v_iv (n_v (vs ++ [Value.int x]) 1) + 1) ≤ w_ei ws (w_ar ws (n_v (vs ++ [Value.int x]) 0) 2) ((w_fi ws (n_v (vs ++ [Value.int x]) 0) 5 + 2))
      rw [e_0]
      rw [e_1]
      first | omega | grind
  exact ⟨(fun _ h => (by cases h)), [Value.int x], ag_one hx, List.forall_mem_cons.mpr ⟨⟨show (23 : Nat) < 100 from by decide, nf0⟩, List.forall_mem_cons.mpr ⟨⟨show (23 : Nat) < 100 from by decide, nf1⟩, List.forall_mem_cons.mpr ⟨⟨show (20 : Nat) < 100 from by decide, nf2⟩, List.forall_mem_cons.mpr ⟨⟨show (20 : Nat) < 100 from by decide, nf3⟩, List.forall_mem_cons.mpr ⟨⟨show (20 : Nat) < 100 from by decide, nf4⟩, List.forall_mem_cons.mpr ⟨⟨show (20 : Nat) < 100 from by decide, nf5⟩, (fun _ h => (by cases h))⟩⟩⟩⟩⟩⟩, (fun _ h => (by cases h))⟩
def o_Mo_item_at_k0_3 : or_T := (11, 6, [(0, (2, 0, 0, [150])), (1, (0, 0, 0, [])), (3, (0, 0, 2000, [])), (5, (0, 1, 1, []))], [(8, [5], [1]), (20, [0, 0], [30, 0, 1, 1, 15, -1, 1, 11]), (20, [0], [50, 3, 0, 12, 11, 15, 2, 21, 4, 7, 1, 3, 2, 0, 12, 0, 1, 0, 3, 2, 0, 11, 4, 3, 2, 0, 15, 0, 8, 3, 7, 1, 3, 2, 0, 12, 0, 0, 0, 7, 4, 3, 2, 0, 15, 0, 1, 2, 0, 11]), (20, [3, 0], [30, 0, 1, 0, 0, -1, 1, 11]), (20, [1, 0], [50, 1, 1, 1005, 1002, 0, 6, 4, 2, 1, 0, 0, 1, 3, 1, 2, 4, 3, 2, 1, 5, 0, 2]), (20, [5, 0], [50, 1, 0, 1012, 4, 6, 1, 2, 1, 0, 0, 1, 1, 3, 2, 1, 12, 0, 1])], [], [(0, 0, 2000, [])], [(23, [6, 3], [0, 1, -1]), (23, [6, 3], [0, -1, 1]), (20, [6, 0], [30, 0, 1, 0, 0, -1, 1, 11])], [], [])
theorem oo_Mo_item_at_k0_3 {kA : Nat → ClassId} : or_ok kA GG o_Mo_item_at_k0_3 := by
  intro A ta ws vs hD hth hl hk hds hf
  have hl : vs.length = 6 := hl
  have hk : ∀ q ∈ ([(0, (2, 0, 0, [150])), (1, (0, 0, 0, [])), (3, (0, 0, 2000, [])), (5, (0, 1, 1, []))] : List (Nat × tv_T)), tv_ok ta q.2 (n_v vs q.1) := hk
  obtain ⟨t0, hk⟩ := List.forall_mem_cons.mp hk
  have t0 : tv_ok ta (2, 0, 0, [150]) (n_v vs 0) := t0
  have r0 : ta (v_ad (n_v vs 0)) = some 150 := tv_rg t0
  obtain ⟨t1, hk⟩ := List.forall_mem_cons.mp hk
  have t1 : tv_ok ta (0, 0, 0, []) (n_v vs 1) := t1
  have k1 : 0 ≤ v_iv (n_v vs 1) ∧ v_iv (n_v vs 1) ≤ 0 := tv_rng t1
  obtain ⟨t3, hk⟩ := List.forall_mem_cons.mp hk
  have t3 : tv_ok ta (0, 0, 2000, []) (n_v vs 3) := t3
  have k3 : 0 ≤ v_iv (n_v vs 3) ∧ v_iv (n_v vs 3) ≤ 2000 := tv_rng t3
  obtain ⟨t5, hk⟩ := List.forall_mem_cons.mp hk
  have t5 : tv_ok ta (0, 1, 1, []) (n_v vs 5) := t5
  have k5 : 1 ≤ v_iv (n_v vs 5) ∧ v_iv (n_v vs 5) ≤ 1 := tv_rng t5
  have hf : fc_ok [(8, [5], [1]), (20, [0, 0], [30, 0, 1, 1, 15, -1, 1, 11]), (20, [0], [50, 3, 0, 12, 11, 15, 2, 21, 4, 7, 1, 3, 2, 0, 12, 0, 1, 0, 3, 2, 0, 11, 4, 3, 2, 0, 15, 0, 8, 3, 7, 1, 3, 2, 0, 12, 0, 0, 0, 7, 4, 3, 2, 0, 15, 0, 1, 2, 0, 11]), (20, [3, 0], [30, 0, 1, 0, 0, -1, 1, 11]), (20, [1, 0], [50, 1, 1, 1005, 1002, 0, 6, 4, 2, 1, 0, 0, 1, 3, 1, 2, 4, 3, 2, 1, 5, 0, 2]), (20, [5, 0], [50, 1, 0, 1012, 4, 6, 1, 2, 1, 0, 0, 1, 1, 3, 2, 1, 12, 0, 1])] ta ws vs := hf
  obtain ⟨f0, hf⟩ := fc_un (show (8 : Nat) < 100 from by decide) hf
  have f0 : v_iv (n_v vs 5) ≠ 0 := f0
  obtain ⟨f1, hf⟩ := fc_un (show (20 : Nat) < 100 from by decide) hf
  have f1 : 1 * w_fi ws (n_v vs 0) 15 + ((-1) * w_fi ws (n_v vs 0) 11 + 0) ≤ 0 := f1
  obtain ⟨f2, hf⟩ := fc_un (show (20 : Nat) < 100 from by decide) hf
  have f2 : ((w_fi ws (n_v vs 0) 12 = 1) → (w_fi ws (n_v vs 0) 11 ≤ (w_fi ws (n_v vs 0) 15 + 8))) ∧ ((w_fi ws (n_v vs 0) 12 = 0) ∨ ((w_fi ws (n_v vs 0) 15 + 1) ≤ w_fi ws (n_v vs 0) 11)) := f2
  obtain ⟨f3, hf⟩ := fc_un (show (20 : Nat) < 100 from by decide) hf
  have f3 : 1 * v_iv (n_v vs 3) + ((-1) * w_fi ws (n_v vs 0) 11 + 0) ≤ 0 := f3
  obtain ⟨f4, hf⟩ := fc_un (show (20 : Nat) < 100 from by decide) hf
  have f4 : (v_iv (n_v vs 1) + 1) ≤ w_ei ws (w_ar ws (n_v vs 0) 2) ((w_fi ws (n_v vs 0) 5 + 2)) := f4
  obtain ⟨f5, hf⟩ := fc_un (show (20 : Nat) < 100 from by decide) hf
  have f5 : (v_iv (n_v vs 5) = 1) → (w_fi ws (n_v vs 0) 12 = 1) := f5
  have cr_0_2 : ta (w_ar ws (n_v vs 0) 2) = some 152 := tv_rg (th_fd hD hth r0 (g := GG_150) rfl (k := 2) (t := (2, 0, 0, [152])) rfl rfl)
  have kz_0_11 : 0 ≤ w_fi ws (n_v vs 0) 11 ∧ w_fi ws (n_v vs 0) 11 ≤ 2000 := tv_rng (th_fd hD hth r0 (g := GG_150) rfl (k := 11) (t := (0, 0, 2000, [])) rfl rfl)
  have kz_0_12 : 0 ≤ w_fi ws (n_v vs 0) 12 ∧ w_fi ws (n_v vs 0) 12 ≤ 4 := tv_rng (th_fd hD hth r0 (g := GG_150) rfl (k := 12) (t := (0, 0, 4, [])) rfl rfl)
  have kz_0_15 : 0 ≤ w_fi ws (n_v vs 0) 15 ∧ w_fi ws (n_v vs 0) 15 ≤ 2000 := tv_rng (th_fd hD hth r0 (g := GG_150) rfl (k := 15) (t := (0, 0, 2000, [])) rfl rfl)
  obtain ⟨x, ex, hx⟩ := iv_ex (ta := ta) (lo := 0) (hi := 2000) (z := v_iv (n_v vs 3)) (by omega) (by omega) (by omega) (by omega)
  have ex2 : v_iv (Value.int x) = v_iv (n_v vs 3) := ex
  have ex3 : 0 ≤ v_iv (Value.int x) ∧ v_iv (Value.int x) ≤ 2000 := tv_rng hx
  have e_0 : n_v (vs ++ [Value.int x]) 0 = n_v vs 0 := n_v_old (by rw [hl]; decide)
  have e_3 : n_v (vs ++ [Value.int x]) 3 = n_v vs 3 := n_v_old (by rw [hl]; decide)
  have e_6 : n_v (vs ++ [Value.int x]) 6 = Value.int x := n_v_new hl
  have nf0 : fc_1 (23, [6, 3], [0, 1, -1]) ws (vs ++ [Value.int x]) := by
    refine ⟨fun n hn => ?_, ?_⟩
    · have hn : n ∈ [6, 3] := hn
      rw [List.length_append, hl]
      simp only [List.mem_cons, List.not_mem_nil, or_false] at hn
      show n < 6 + 1; omega
    · show 1 * v_iv (n_v (vs ++ [Value.int x]) 6) + ((-1) * v_iv (n_v (vs ++ [Value.int x]) 3) + 0) ≤ 0
      rw [e_3]
      rw [e_6]
      omega
  have nf1 : fc_1 (23, [6, 3], [0, -1, 1]) ws (vs ++ [Value.int x]) := by
    refine ⟨fun n hn => ?_, ?_⟩
    · have hn : n ∈ [6, 3] := hn
      rw [List.length_append, hl]
      simp only [List.mem_cons, List.not_mem_nil, or_false] at hn
      show n < 6 + 1; omega
    · show (-1) * v_iv (n_v (vs ++ [Value.int x]) 6) + (1 * v_iv (n_v (vs ++ [Value.int x]) 3) + 0) ≤ 0
      rw [e_3]
      rw [e_6]
      omega
  have nf2 : fc_1 (20, [6, 0], [30, 0, 1, 0, 0, -1, 1, 11]) ws (vs ++ [Value.int x]) := by
    refine ⟨fun n hn => ?_, ?_⟩
    · have hn : n ∈ [6, 0] := hn
      rw [List.length_append, hl]
      simp only [List.mem_cons, List.not_mem_nil, or_false] at hn
      show n < 6 + 1; omega
    · show 1 * v_iv (n_v (vs ++ [Value.int x]) 6) + ((-1) * w_fi ws (n_v (vs ++ [Value.int x]) 0) 11 + 0) ≤ 0
      rw [e_0]
      rw [e_6]
      omega
  exact ⟨(fun _ h => (by cases h)), [Value.int x], ag_one hx, List.forall_mem_cons.mpr ⟨⟨show (23 : Nat) < 100 from by decide, nf0⟩, List.forall_mem_cons.mpr ⟨⟨show (23 : Nat) < 100 from by decide, nf1⟩, List.forall_mem_cons.mpr ⟨⟨show (20 : Nat) < 100 from by decide, nf2⟩, (fun _ h => (by cases h))⟩⟩⟩, (fun _ h => (by cases h))⟩
def o_Mo_item_at_k0_4 : or_T := (17, 8, [(0, (2, 0, 0, [150])), (1, (0, 0, 0, [])), (3, (0, 0, 2000, [])), (6, (0, 0, 2000, []))], [(23, [6, 3], [0, 1, -1]), (23, [6, 3], [0, -1, 1]), (20, [1, 0], [50, 1, 1, 1005, 1002, 0, 6, 4, 2, 1, 0, 0, 1, 3, 1, 2, 4, 3, 2, 1, 5, 0, 2]), (20, [0, 0], [30, 0, 1, 1, 15, -1, 1, 11]), (20, [0], [50, 3, 0, 12, 11, 15, 2, 21, 4, 7, 1, 3, 2, 0, 12, 0, 1, 0, 3, 2, 0, 11, 4, 3, 2, 0, 15, 0, 8, 3, 7, 1, 3, 2, 0, 12, 0, 0, 0, 7, 4, 3, 2, 0, 15, 0, 1, 2, 0, 11]), (20, [6, 0], [30, 0, 1, 0, 0, -1, 1, 15]), (102, [6], [0, 13011, 13012, 13013, 13014, 13015]), (23, [6, 3], [0, 1, -1]), (23, [6, 3], [0, -1, 1])], [], [(0, 0, 2000, []), (0, 0, 2000, [])], [(23, [8, 3], [0, 1, -1]), (23, [8, 3], [0, -1, 1]), (20, [0, 0], [30, 0, 1, 1, 15, -1, 1, 11]), (20, [0], [50, 3, 0, 12, 11, 15, 2, 21, 4, 7, 1, 3, 2, 0, 12, 0, 1, 0, 3, 2, 0, 11, 4, 3, 2, 0, 15, 0, 8, 3, 7, 1, 3, 2, 0, 12, 0, 0, 0, 7, 4, 3, 2, 0, 15, 0, 1, 2, 0, 11]), (20, [8, 0], [30, 0, 1, 0, 0, -1, 1, 11]), (20, [0, 9], [50, 2, 0, 12, 11, 3, 7, 1, 3, 2, 0, 12, 0, 0, 0, 6, 4, 2, 1, 1, 0, 1, 2, 0, 11]), (20, [1, 0], [50, 1, 1, 1005, 1002, 0, 6, 4, 2, 1, 0, 0, 1, 3, 1, 2, 4, 3, 2, 1, 5, 0, 2])], [], [])
theorem oo_Mo_item_at_k0_4 {kA : Nat → ClassId} : or_ok kA GG o_Mo_item_at_k0_4 := by
  intro A ta ws vs hD hth hl hk hds hf
  have hl : vs.length = 8 := hl
  have hk : ∀ q ∈ ([(0, (2, 0, 0, [150])), (1, (0, 0, 0, [])), (3, (0, 0, 2000, [])), (6, (0, 0, 2000, []))] : List (Nat × tv_T)), tv_ok ta q.2 (n_v vs q.1) := hk
  obtain ⟨t0, hk⟩ := List.forall_mem_cons.mp hk
  have t0 : tv_ok ta (2, 0, 0, [150]) (n_v vs 0) := t0
  have r0 : ta (v_ad (n_v vs 0)) = some 150 := tv_rg t0
  obtain ⟨t1, hk⟩ := List.forall_mem_cons.mp hk
  have t1 : tv_ok ta (0, 0, 0, []) (n_v vs 1) := t1
  have k1 : 0 ≤ v_iv (n_v vs 1) ∧ v_iv (n_v vs 1) ≤ 0 := tv_rng t1
  obtain ⟨t3, hk⟩ := List.forall_mem_cons.mp hk
  have t3 : tv_ok ta (0, 0, 2000, []) (n_v vs 3) := t3
  have k3 : 0 ≤ v_iv (n_v vs 3) ∧ v_iv (n_v vs 3) ≤ 2000 := tv_rng t3
  obtain ⟨t6, hk⟩ := List.forall_mem_cons.mp hk
  have t6 : tv_ok ta (0, 0, 2000, []) (n_v vs 6) := t6
  have k6 : 0 ≤ v_iv (n_v vs 6) ∧ v_iv (n_v vs 6) ≤ 2000 := tv_rng t6
  have hf : fc_ok [(23, [6, 3], [0, 1, -1]), (23, [6, 3], [0, -1, 1]), (20, [1, 0], [50, 1, 1, 1005, 1002, 0, 6, 4, 2, 1, 0, 0, 1, 3, 1, 2, 4, 3, 2, 1, 5, 0, 2]), (20, [0, 0], [30, 0, 1, 1, 15, -1, 1, 11]), (20, [0], [50, 3, 0, 12, 11, 15, 2, 21, 4, 7, 1, 3, 2, 0, 12, 0, 1, 0, 3, 2, 0, 11, 4, 3, 2, 0, 15, 0, 8, 3, 7, 1, 3, 2, 0, 12, 0, 0, 0, 7, 4, 3, 2, 0, 15, 0, 1, 2, 0, 11]), (20, [6, 0], [30, 0, 1, 0, 0, -1, 1, 15]), (102, [6], [0, 13011, 13012, 13013, 13014, 13015]), (23, [6, 3], [0, 1, -1]), (23, [6, 3], [0, -1, 1])] ta ws vs := hf
  obtain ⟨f0, hf⟩ := fc_un (show (23 : Nat) < 100 from by decide) hf
  have f0 : 1 * v_iv (n_v vs 6) + ((-1) * v_iv (n_v vs 3) + 0) ≤ 0 := f0
  obtain ⟨f1, hf⟩ := fc_un (show (23 : Nat) < 100 from by decide) hf
  have f1 : (-1) * v_iv (n_v vs 6) + (1 * v_iv (n_v vs 3) + 0) ≤ 0 := f1
  obtain ⟨f2, hf⟩ := fc_un (show (20 : Nat) < 100 from by decide) hf
  have f2 : (v_iv (n_v vs 1) + 1) ≤ w_ei ws (w_ar ws (n_v vs 0) 2) ((w_fi ws (n_v vs 0) 5 + 2)) := f2
  obtain ⟨f3, hf⟩ := fc_un (show (20 : Nat) < 100 from by decide) hf
  have f3 : 1 * w_fi ws (n_v vs 0) 15 + ((-1) * w_fi ws (n_v vs 0) 11 + 0) ≤ 0 := f3
  obtain ⟨f4, hf⟩ := fc_un (show (20 : Nat) < 100 from by decide) hf
  have f4 : ((w_fi ws (n_v vs 0) 12 = 1) → (w_fi ws (n_v vs 0) 11 ≤ (w_fi ws (n_v vs 0) 15 + 8))) ∧ ((w_fi ws (n_v vs 0) 12 = 0) ∨ ((w_fi ws (n_v vs 0) 15 + 1) ≤ w_fi ws (n_v vs 0) 11)) := f4
  obtain ⟨f5, hf⟩ := fc_un (show (20 : Nat) < 100 from by decide) hf
  have f5 : 1 * v_iv (n_v vs 6) + ((-1) * w_fi ws (n_v vs 0) 15 + 0) ≤ 0 := f5
  obtain ⟨ta1, w1, le1, ⟨_, s1⟩, hf⟩ := fc_us (show ¬ (102 : Nat) < 100 from by decide) hf
  obtain ⟨f7, hf⟩ := fc_un (show (23 : Nat) < 100 from by decide) hf
  have f7 : 1 * v_iv (n_v vs 6) + ((-1) * v_iv (n_v vs 3) + 0) ≤ 0 := f7
  obtain ⟨f8, hf⟩ := fc_un (show (23 : Nat) < 100 from by decide) hf
  have f8 : (-1) * v_iv (n_v vs 6) + (1 * v_iv (n_v vs 3) + 0) ≤ 0 := f8
  have cr_0_2 : ta (w_ar ws (n_v vs 0) 2) = some 152 := tv_rg (th_fd hD hth r0 (g := GG_150) rfl (k := 2) (t := (2, 0, 0, [152])) rfl rfl)
  have kz_0_11 : 0 ≤ w_fi ws (n_v vs 0) 11 ∧ w_fi ws (n_v vs 0) 11 ≤ 2000 := tv_rng (th_fd hD hth r0 (g := GG_150) rfl (k := 11) (t := (0, 0, 2000, [])) rfl rfl)
  have kz_0_12 : 0 ≤ w_fi ws (n_v vs 0) 12 ∧ w_fi ws (n_v vs 0) 12 ≤ 4 := tv_rng (th_fd hD hth r0 (g := GG_150) rfl (k := 12) (t := (0, 0, 4, [])) rfl rfl)
  have kz_0_15 : 0 ≤ w_fi ws (n_v vs 0) 15 ∧ w_fi ws (n_v vs 0) 15 ≤ 2000 := tv_rng (th_fd hD hth r0 (g := GG_150) rfl (k := 15) (t := (0, 0, 2000, [])) rfl rfl)
  obtain ⟨x, ex, hx⟩ := iv_ex (ta := ta) (lo := 0) (hi := 2000) (z := v_iv (n_v vs 3)) (by omega) (by omega) (by omega) (by omega)
  have ex2 : v_iv (Value.int x) = v_iv (n_v vs 3) := ex
  have ex3 : 0 ≤ v_iv (Value.int x) ∧ v_iv (Value.int x) ≤ 2000 := tv_rng hx
  have kv1 : 0 ≤ w_fi ws (n_v vs 0) 15 ∧ w_fi ws (n_v vs 0) 15 ≤ 2000 := tv_rng (th_fd hD hth r0 (g := GG_150) rfl (k := 15) (t := (0, 0, 2000, [])) rfl rfl)
  obtain ⟨y, ey, hy⟩ := iv_ex (ta := ta) (lo := 0) (hi := 2000) (z := w_fi ws (n_v vs 0) 15) (by omega) (by omega) (by omega) (by omega)
  have ey2 : v_iv (Value.int y) = w_fi ws (n_v vs 0) 15 := ey
  have ey3 : 0 ≤ v_iv (Value.int y) ∧ v_iv (Value.int y) ≤ 2000 := tv_rng hy
  have e_0 : n_v (vs ++ [Value.int x, Value.int y]) 0 = n_v vs 0 := n_v_old (by rw [hl]; decide)
  have e_1 : n_v (vs ++ [Value.int x, Value.int y]) 1 = n_v vs 1 := n_v_old (by rw [hl]; decide)
  have e_3 : n_v (vs ++ [Value.int x, Value.int y]) 3 = n_v vs 3 := n_v_old (by rw [hl]; decide)
  have e_8 : n_v (vs ++ [Value.int x, Value.int y]) 8 = Value.int x := n_v_new0 hl
  have e_9 : n_v (vs ++ [Value.int x, Value.int y]) 9 = Value.int y := n_v_new1 hl
  have nf0 : fc_1 (23, [8, 3], [0, 1, -1]) ws (vs ++ [Value.int x, Value.int y]) := by
    refine ⟨fun n hn => ?_, ?_⟩
    · have hn : n ∈ [8, 3] := hn
      rw [List.length_append, hl]
      simp only [List.mem_cons, List.not_mem_nil, or_false] at hn
      show n < 8 + 2; omega
    · show 1 * v_iv (n_v (vs ++ [Value.int x, Value.int y]) 8) + ((-1) * v_iv (n_v (vs ++ [Value.int x, Value.int y]) 3) + 0) ≤ 0
      rw [e_3]
      rw [e_8]
      omega
  have nf1 : fc_1 (23, [8, 3], [0, -1, 1]) ws (vs ++ [Value.int x, Value.int y]) := by
    refine ⟨fun n hn => ?_, ?_⟩
    · have hn : n ∈ [8, 3] := hn
      rw [List.length_append, hl]
      simp only [List.mem_cons, List.not_mem_nil, or_false] at hn
      show n < 8 + 2; omega
    · show (-1) * v_iv (n_v (vs ++ [Value.int x, Value.int y]) 8) + (1 * v_iv (n_v (vs ++ [Value.int x, Value.int y]) 3) + 0) ≤ 0
      rw [e_3]
      rw [e_8]
      omega
  have nf2 : fc_1 (20, [0, 0], [30, 0, 1, 1, 15, -1, 1, 11]) ws (vs ++ [Value.int x, Value.int y]) := by
    refine ⟨fun n hn => ?_, ?_⟩
    · have hn : n ∈ [0, 0] := hn
      rw [List.length_append, hl]
      simp only [List.mem_cons, List.not_mem_nil, or_false] at hn
      show n < 8 + 2; omega
    · show 1 * w_fi ws (n_v (vs ++ [Value.int x, Value.int y]) 0) 15 + ((-1) * w_fi ws (n_v (vs ++ [Value.int x, Value.int y]) 0) 11 + 0) ≤ 0
      rw [e_0]
      omega
  have nf3 : fc_1 (20, [0], [50, 3, 0, 12, 11, 15, 2, 21, 4, 7, 1, 3, 2, 0, 12, 0, 1, 0, 3, 2, 0, 11, 4, 3, 2, 0, 15, 0, 8, 3, 7, 1, 3, 2, 0, 12, 0, 0, 0, 7, 4, 3, 2, 0, 15, 0, 1, 2, 0, 11]) ws (vs ++ [Value.int x, Value.int y]) := by
    refine ⟨fun n hn => ?_, ?_⟩
    · have hn : n ∈ [0] := hn
      rw [List.length_append, hl]
      simp only [List.mem_cons, List.not_mem_nil, or_false] at hn
      show n < 8 + 2; omega
    · show ((w_fi ws (n_v (vs ++ [Value.int x, Value.int y]) 0) 12 = 1) → (w_fi ws (n_v (vs ++ [Value.int x, Value.int y]) 0) 11 ≤ (w_fi ws (n_v (vs ++ [Value.int x, Value.int y]) 0) 15 + 8))) ∧ ((w_fi ws (n_v (vs ++ [Value.int x, Value.int y]) 0) 12 = 0) ∨ ((w_fi ws (n_v (vs ++ [Value.int x, Value.int y]) 0) 15 + 1) ≤ w_fi ws (n_v (vs ++ [Value.int x, Value.int y]) 0) 11))
      rw [e_0]
      first | omega | grind
  have nf4 : fc_1 (20, [8, 0], [30, 0, 1, 0, 0, -1, 1, 11]) ws (vs ++ [Value.int x, Value.int y]) := by
    refine ⟨fun n hn => ?_, ?_⟩
    · have hn : n ∈ [8, 0] := hn
      rw [List.length_append, hl]
      simp only [List.mem_cons, List.not_mem_nil, or_false] at hn
      show n < 8 + 2; omega
    · show 1 * v_iv (n_v (vs ++ [Value.int x, Value.int y]) 8) + ((-1) * w_fi ws (n_v (vs ++ [Value.int x, Value.int y]) 0) 11 + 0) ≤ 0
      rw [e_0]
      rw [e_8]
      omega
  have nf5 : fc_1 (20, [0, 9], [50, 2, 0, 12, 11, 3, 7, 1, 3, 2, 0, 12, 0, 0, 0, 6, 4, 2, 1, 1, 0, 1, 2, 0, 11]) ws (vs ++ [Value.int x, Value.int y]) := by
    refine ⟨fun n hn => ?_, ?_⟩
    · have hn : n ∈ [0, 9] := hn
      rw [List.length_append, hl]
      simp only [List.mem_cons, List.not_mem_nil, or_false] at hn
      show n < 8 + 2; omega
    · show (w_fi ws (n_v (vs ++ [Value.int x, Value.int y]) 0) 12 = 0) ∨ ((v_iv (n_v (vs ++ [Value.int x, Value.int y]) 9) + 1) ≤ w_fi ws (n_v (vs ++ [Value.int x, Value.int y]) 0) 11)
      rw [e_0]
      rw [e_9]
      first | omega | grind
  have nf6 : fc_1 (20, [1, 0], [50, 1, 1, 1005, 1002, 0, 6, 4, 2, 1, 0, 0, 1, 3, 1, 2, 4, 3, 2, 1, 5, 0, 2]) ws (vs ++ [Value.int x, Value.int y]) := by
    refine ⟨fun n hn => ?_, ?_⟩
    · have hn : n ∈ [1, 0] := hn
      rw [List.length_append, hl]
      simp only [List.mem_cons, List.not_mem_nil, or_false] at hn
      show n < 8 + 2; omega
    · show (v_iv (n_v (vs ++ [Value.int x, Value.int y]) 1) + 1) ≤ w_ei ws (w_ar ws (n_v (vs ++ [Value.int x, Value.int y]) 0) 2) ((w_fi ws (n_v (vs ++ [Value.int x, Value.int y]) 0) 5 + 2))
      rw [e_0]
      rw [e_1]
      first | omega | grind
  exact ⟨(fun _ h => (by cases h)), [Value.int x, Value.int y], ag_two hx hy, List.forall_mem_cons.mpr ⟨⟨show (23 : Nat) < 100 from by decide, nf0⟩, List.forall_mem_cons.mpr ⟨⟨show (23 : Nat) < 100 from by decide, nf1⟩, List.forall_mem_cons.mpr ⟨⟨show (20 : Nat) < 100 from by decide, nf2⟩, List.forall_mem_cons.mpr ⟨⟨show (20 : Nat) < 100 from by decide, nf3⟩, List.forall_mem_cons.mpr ⟨⟨show (20 : Nat) < 100 from by decide, nf4⟩, List.forall_mem_cons.mpr ⟨⟨show (20 : Nat) < 100 from by decide, nf5⟩, List.forall_mem_cons.mpr ⟨⟨show (20 : Nat) < 100 from by decide, nf6⟩, (fun _ h => (by cases h))⟩⟩⟩⟩⟩⟩⟩, (fun _ h => (by cases h))⟩
def o_Mo_item_at_k0_5 : or_T := (27, 13, [(0, (2, 0, 0, [150])), (1, (0, 0, 0, [])), (3, (0, 0, 2000, [])), (6, (0, 0, 2000, [])), (7, (0, -1, -1, [])), (8, (0, 0, 2000, [])), (9, (0, 0, 2000, [])), (10, (0, -1, 23, []))], [(23, [8, 3], [0, 1, -1]), (23, [8, 3], [0, -1, 1]), (23, [6, 3], [0, 1, -1]), (23, [6, 3], [0, -1, 1]), (20, [0, 0], [30, 0, 1, 1, 15, -1, 1, 11]), (20, [0], [50, 3, 0, 12, 11, 15, 2, 21, 4, 7, 1, 3, 2, 0, 12, 0, 1, 0, 3, 2, 0, 11, 4, 3, 2, 0, 15, 0, 8, 3, 7, 1, 3, 2, 0, 12, 0, 0, 0, 7, 4, 3, 2, 0, 15, 0, 1, 2, 0, 11]), (20, [8, 0], [30, 0, 1, 0, 0, -1, 1, 11]), (20, [0, 8], [50, 3, 0, 8, 12, 11, 3, 7, 0, 2, 0, 1, 2, 0, 8, 3, 7, 1, 3, 2, 0, 12, 0, 0, 0, 6, 4, 2, 1, 1, 0, 1, 2, 0, 11]), (20, [0, 9], [50, 2, 0, 8, 11, 3, 7, 0, 2, 0, 1, 2, 0, 8, 0, 6, 4, 2, 1, 1, 0, 1, 2, 0, 11]), (20, [0, 10], [31, 1, -1, -1, 1, 8, 0, -1, 0, 0]), (20, [0, 7], [50, 2, 1, 8, 5, 2, 3, 7, 0, 2, 0, 1, 2, 0, 8, 3, 6, 0, 2, 1, 1, 0, -1, 0, 10, 3, 0, 2, 4, 3, 2, 0, 5, 0, 1, 0, 47]), (20, [1, 0], [50, 1, 1, 1005, 1002, 0, 6, 4, 2, 1, 0, 0, 1, 3, 1, 2, 4, 3, 2, 1, 5, 0, 2]), (102, [9], [5708990770823839524233143877797980545530986496, 13008, 13009, 13011, 13012, 13013, 13014, 13015]), (23, [8, 3], [0, 1, -1]), (23, [8, 3], [0, -1, 1]), (23, [6, 3], [0, 1, -1]), (23, [6, 3], [0, -1, 1]), (102, [6], [0, 13011, 13012, 13013, 13014, 13015]), (23, [6, 3], [0, 1, -1]), (23, [6, 3], [0, -1, 1])], [], [(0, 0, 2000, []), (0, -1, 48, [])], [(23, [13, 3], [0, 1, -1]), (23, [13, 3], [0, -1, 1]), (23, [14, 10], [0, 1, -1]), (23, [14, 10], [0, -1, 1]), (20, [0, 0], [30, 0, 1, 1, 15, -1, 1, 11]), (20, [0], [50, 3, 0, 12, 11, 15, 2, 21, 4, 7, 1, 3, 2, 0, 12, 0, 1, 0, 3, 2, 0, 11, 4, 3, 2, 0, 15, 0, 8, 3, 7, 1, 3, 2, 0, 12, 0, 0, 0, 7, 4, 3, 2, 0, 15, 0, 1, 2, 0, 11]), (20, [13, 0], [30, 0, 1, 0, 0, -1, 1, 11]), (20, [0, 13], [50, 3, 0, 8, 12, 11, 3, 7, 0, 2, 0, 1, 2, 0, 8, 3, 7, 1, 3, 2, 0, 12, 0, 0, 0, 6, 4, 2, 1, 1, 0, 1, 2, 0, 11]), (20, [0, 14], [50, 1, 0, 8, 3, 7, 0, 2, 0, 1, 2, 0, 8, 0, 2, 0, 0, 1, 1])], [], [])
theorem oo_Mo_item_at_k0_5 {kA : Nat → ClassId} : or_ok kA GG o_Mo_item_at_k0_5 := by
  intro A ta ws vs hD hth hl hk hds hf
  have hl : vs.length = 13 := hl
  have hk : ∀ q ∈ ([(0, (2, 0, 0, [150])), (1, (0, 0, 0, [])), (3, (0, 0, 2000, [])), (6, (0, 0, 2000, [])), (7, (0, -1, -1, [])), (8, (0, 0, 2000, [])), (9, (0, 0, 2000, [])), (10, (0, -1, 23, []))] : List (Nat × tv_T)), tv_ok ta q.2 (n_v vs q.1) := hk
  obtain ⟨t0, hk⟩ := List.forall_mem_cons.mp hk
  have t0 : tv_ok ta (2, 0, 0, [150]) (n_v vs 0) := t0
  have r0 : ta (v_ad (n_v vs 0)) = some 150 := tv_rg t0
  obtain ⟨t1, hk⟩ := List.forall_mem_cons.mp hk
  have t1 : tv_ok ta (0, 0, 0, []) (n_v vs 1) := t1
  have k1 : 0 ≤ v_iv (n_v vs 1) ∧ v_iv (n_v vs 1) ≤ 0 := tv_rng t1
  obtain ⟨t3, hk⟩ := List.forall_mem_cons.mp hk
  have t3 : tv_ok ta (0, 0, 2000, []) (n_v vs 3) := t3
  have k3 : 0 ≤ v_iv (n_v vs 3) ∧ v_iv (n_v vs 3) ≤ 2000 := tv_rng t3
  obtain ⟨t6, hk⟩ := List.forall_mem_cons.mp hk
  have t6 : tv_ok ta (0, 0, 2000, []) (n_v vs 6) := t6
  have k6 : 0 ≤ v_iv (n_v vs 6) ∧ v_iv (n_v vs 6) ≤ 2000 := tv_rng t6
  obtain ⟨t7, hk⟩ := List.forall_mem_cons.mp hk
  have t7 : tv_ok ta (0, -1, -1, []) (n_v vs 7) := t7
  have k7 : (-1) ≤ v_iv (n_v vs 7) ∧ v_iv (n_v vs 7) ≤ (-1) := tv_rng t7
  obtain ⟨t8, hk⟩ := List.forall_mem_cons.mp hk
  have t8 : tv_ok ta (0, 0, 2000, []) (n_v vs 8) := t8
  have k8 : 0 ≤ v_iv (n_v vs 8) ∧ v_iv (n_v vs 8) ≤ 2000 := tv_rng t8
  obtain ⟨t9, hk⟩ := List.forall_mem_cons.mp hk
  have t9 : tv_ok ta (0, 0, 2000, []) (n_v vs 9) := t9
  have k9 : 0 ≤ v_iv (n_v vs 9) ∧ v_iv (n_v vs 9) ≤ 2000 := tv_rng t9
  obtain ⟨t10, hk⟩ := List.forall_mem_cons.mp hk
  have t10 : tv_ok ta (0, -1, 23, []) (n_v vs 10) := t10
  have k10 : (-1) ≤ v_iv (n_v vs 10) ∧ v_iv (n_v vs 10) ≤ 23 := tv_rng t10
  have hf : fc_ok [(23, [8, 3], [0, 1, -1]), (23, [8, 3], [0, -1, 1]), (23, [6, 3], [0, 1, -1]), (23, [6, 3], [0, -1, 1]), (20, [0, 0], [30, 0, 1, 1, 15, -1, 1, 11]), (20, [0], [50, 3, 0, 12, 11, 15, 2, 21, 4, 7, 1, 3, 2, 0, 12, 0, 1, 0, 3, 2, 0, 11, 4, 3, 2, 0, 15, 0, 8, 3, 7, 1, 3, 2, 0, 12, 0, 0, 0, 7, 4, 3, 2, 0, 15, 0, 1, 2, 0, 11]), (20, [8, 0], [30, 0, 1, 0, 0, -1, 1, 11]), (20, [0, 8], [50, 3, 0, 8, 12, 11, 3, 7, 0, 2, 0, 1, 2, 0, 8, 3, 7, 1, 3, 2, 0, 12, 0, 0, 0, 6, 4, 2, 1, 1, 0, 1, 2, 0, 11]), (20, [0, 9], [50, 2, 0, 8, 11, 3, 7, 0, 2, 0, 1, 2, 0, 8, 0, 6, 4, 2, 1, 1, 0, 1, 2, 0, 11]), (20, [0, 10], [31, 1, -1, -1, 1, 8, 0, -1, 0, 0]), (20, [0, 7], [50, 2, 1, 8, 5, 2, 3, 7, 0, 2, 0, 1, 2, 0, 8, 3, 6, 0, 2, 1, 1, 0, -1, 0, 10, 3, 0, 2, 4, 3, 2, 0, 5, 0, 1, 0, 47]), (20, [1, 0], [50, 1, 1, 1005, 1002, 0, 6, 4, 2, 1, 0, 0, 1, 3, 1, 2, 4, 3, 2, 1, 5, 0, 2]), (102, [9], [5708990770823839524233143877797980545530986496, 13008, 13009, 13011, 13012, 13013, 13014, 13015]), (23, [8, 3], [0, 1, -1]), (23, [8, 3], [0, -1, 1]), (23, [6, 3], [0, 1, -1]), (23, [6, 3], [0, -1, 1]), (102, [6], [0, 13011, 13012, 13013, 13014, 13015]), (23, [6, 3], [0, 1, -1]), (23, [6, 3], [0, -1, 1])] ta ws vs := hf
  obtain ⟨f0, hf⟩ := fc_un (show (23 : Nat) < 100 from by decide) hf
  have f0 : 1 * v_iv (n_v vs 8) + ((-1) * v_iv (n_v vs 3) + 0) ≤ 0 := f0
  obtain ⟨f1, hf⟩ := fc_un (show (23 : Nat) < 100 from by decide) hf
  have f1 : (-1) * v_iv (n_v vs 8) + (1 * v_iv (n_v vs 3) + 0) ≤ 0 := f1
  obtain ⟨f2, hf⟩ := fc_un (show (23 : Nat) < 100 from by decide) hf
  have f2 : 1 * v_iv (n_v vs 6) + ((-1) * v_iv (n_v vs 3) + 0) ≤ 0 := f2
  obtain ⟨f3, hf⟩ := fc_un (show (23 : Nat) < 100 from by decide) hf
  have f3 : (-1) * v_iv (n_v vs 6) + (1 * v_iv (n_v vs 3) + 0) ≤ 0 := f3
  obtain ⟨f4, hf⟩ := fc_un (show (20 : Nat) < 100 from by decide) hf
  have f4 : 1 * w_fi ws (n_v vs 0) 15 + ((-1) * w_fi ws (n_v vs 0) 11 + 0) ≤ 0 := f4
  obtain ⟨f5, hf⟩ := fc_un (show (20 : Nat) < 100 from by decide) hf
  have f5 : ((w_fi ws (n_v vs 0) 12 = 1) → (w_fi ws (n_v vs 0) 11 ≤ (w_fi ws (n_v vs 0) 15 + 8))) ∧ ((w_fi ws (n_v vs 0) 12 = 0) ∨ ((w_fi ws (n_v vs 0) 15 + 1) ≤ w_fi ws (n_v vs 0) 11)) := f5
  obtain ⟨f6, hf⟩ := fc_un (show (20 : Nat) < 100 from by decide) hf
  have f6 : 1 * v_iv (n_v vs 8) + ((-1) * w_fi ws (n_v vs 0) 11 + 0) ≤ 0 := f6
  obtain ⟨f7, hf⟩ := fc_un (show (20 : Nat) < 100 from by decide) hf
  have f7 : (1 ≤ w_fi ws (n_v vs 0) 8) ∨ ((w_fi ws (n_v vs 0) 12 = 0) ∨ ((v_iv (n_v vs 8) + 1) ≤ w_fi ws (n_v vs 0) 11)) := f7
  obtain ⟨f8, hf⟩ := fc_un (show (20 : Nat) < 100 from by decide) hf
  have f8 : (1 ≤ w_fi ws (n_v vs 0) 8) ∨ ((v_iv (n_v vs 9) + 1) ≤ w_fi ws (n_v vs 0) 11) := f8
  obtain ⟨f9, hf⟩ := fc_un (show (20 : Nat) < 100 from by decide) hf
  have f9 : ((-1) * w_fi ws (n_v vs 0) 8 + 0 ≤ (-1)) ∨ ((-1) * v_iv (n_v vs 10) + 0 ≤ 0) := f9
  obtain ⟨f10, hf⟩ := fc_un (show (20 : Nat) < 100 from by decide) hf
  have f10 : (1 ≤ w_fi ws (n_v vs 0) 8) ∨ ((v_iv (n_v vs 7) ≤ (-1)) ∨ (w_ei ws (w_ar ws (n_v vs 0) 2) ((w_fi ws (n_v vs 0) 5 + 1)) ≤ 47)) := f10
  obtain ⟨f11, hf⟩ := fc_un (show (20 : Nat) < 100 from by decide) hf
  have f11 : (v_iv (n_v vs 1) + 1) ≤ w_ei ws (w_ar ws (n_v vs 0) 2) ((w_fi ws (n_v vs 0) 5 + 2)) := f11
  obtain ⟨ta1, w1, le1, ⟨_, s1⟩, hf⟩ := fc_us (show ¬ (102 : Nat) < 100 from by decide) hf
  obtain ⟨f13, hf⟩ := fc_un (show (23 : Nat) < 100 from by decide) hf
  have f13 : 1 * v_iv (n_v vs 8) + ((-1) * v_iv (n_v vs 3) + 0) ≤ 0 := f13
  obtain ⟨f14, hf⟩ := fc_un (show (23 : Nat) < 100 from by decide) hf
  have f14 : (-1) * v_iv (n_v vs 8) + (1 * v_iv (n_v vs 3) + 0) ≤ 0 := f14
  obtain ⟨f15, hf⟩ := fc_un (show (23 : Nat) < 100 from by decide) hf
  have f15 : 1 * v_iv (n_v vs 6) + ((-1) * v_iv (n_v vs 3) + 0) ≤ 0 := f15
  obtain ⟨f16, hf⟩ := fc_un (show (23 : Nat) < 100 from by decide) hf
  have f16 : (-1) * v_iv (n_v vs 6) + (1 * v_iv (n_v vs 3) + 0) ≤ 0 := f16
  obtain ⟨ta2, w2, le2, ⟨_, s2⟩, hf⟩ := fc_us (show ¬ (102 : Nat) < 100 from by decide) hf
  obtain ⟨f18, hf⟩ := fc_un (show (23 : Nat) < 100 from by decide) hf
  have f18 : 1 * v_iv (n_v vs 6) + ((-1) * v_iv (n_v vs 3) + 0) ≤ 0 := f18
  obtain ⟨f19, hf⟩ := fc_un (show (23 : Nat) < 100 from by decide) hf
  have f19 : (-1) * v_iv (n_v vs 6) + (1 * v_iv (n_v vs 3) + 0) ≤ 0 := f19
  have cr_0_2 : ta (w_ar ws (n_v vs 0) 2) = some 152 := tv_rg (th_fd hD hth r0 (g := GG_150) rfl (k := 2) (t := (2, 0, 0, [152])) rfl rfl)
  have kz_0_8 : 0 ≤ w_fi ws (n_v vs 0) 8 ∧ w_fi ws (n_v vs 0) 8 ≤ 5 := tv_rng (th_fd hD hth r0 (g := GG_150) rfl (k := 8) (t := (0, 0, 5, [])) rfl rfl)
  have kz_0_11 : 0 ≤ w_fi ws (n_v vs 0) 11 ∧ w_fi ws (n_v vs 0) 11 ≤ 2000 := tv_rng (th_fd hD hth r0 (g := GG_150) rfl (k := 11) (t := (0, 0, 2000, [])) rfl rfl)
  have kz_0_12 : 0 ≤ w_fi ws (n_v vs 0) 12 ∧ w_fi ws (n_v vs 0) 12 ≤ 4 := tv_rng (th_fd hD hth r0 (g := GG_150) rfl (k := 12) (t := (0, 0, 4, [])) rfl rfl)
  have kz_0_15 : 0 ≤ w_fi ws (n_v vs 0) 15 ∧ w_fi ws (n_v vs 0) 15 ≤ 2000 := tv_rng (th_fd hD hth r0 (g := GG_150) rfl (k := 15) (t := (0, 0, 2000, [])) rfl rfl)
  obtain ⟨x, ex, hx⟩ := iv_ex (ta := ta) (lo := 0) (hi := 2000) (z := v_iv (n_v vs 3)) (by omega) (by omega) (by omega) (by omega)
  have ex2 : v_iv (Value.int x) = v_iv (n_v vs 3) := ex
  have ex3 : 0 ≤ v_iv (Value.int x) ∧ v_iv (Value.int x) ≤ 2000 := tv_rng hx
  obtain ⟨y, ey, hy⟩ := iv_ex (ta := ta) (lo := (-1)) (hi := 48) (z := v_iv (n_v vs 10)) (by omega) (by omega) (by omega) (by omega)
  have ey2 : v_iv (Value.int y) = v_iv (n_v vs 10) := ey
  have ey3 : (-1) ≤ v_iv (Value.int y) ∧ v_iv (Value.int y) ≤ 48 := tv_rng hy
  have e_0 : n_v (vs ++ [Value.int x, Value.int y]) 0 = n_v vs 0 := n_v_old (by rw [hl]; decide)
  have e_3 : n_v (vs ++ [Value.int x, Value.int y]) 3 = n_v vs 3 := n_v_old (by rw [hl]; decide)
  have e_10 : n_v (vs ++ [Value.int x, Value.int y]) 10 = n_v vs 10 := n_v_old (by rw [hl]; decide)
  have e_13 : n_v (vs ++ [Value.int x, Value.int y]) 13 = Value.int x := n_v_new0 hl
  have e_14 : n_v (vs ++ [Value.int x, Value.int y]) 14 = Value.int y := n_v_new1 hl
  have nf0 : fc_1 (23, [13, 3], [0, 1, -1]) ws (vs ++ [Value.int x, Value.int y]) := by
    refine ⟨fun n hn => ?_, ?_⟩
    · have hn : n ∈ [13, 3] := hn
      rw [List.length_append, hl]
      simp only [List.mem_cons, List.not_mem_nil, or_false] at hn
      show n < 13 + 2; omega
    · show 1 * v_iv (n_v (vs ++ [Value.int x, Value.int y]) 13) + ((-1) * v_iv (n_v (vs ++ [Value.int x, Value.int y]) 3) + 0) ≤ 0
      rw [e_3]
      rw [e_13]
      omega
  have nf1 : fc_1 (23, [13, 3], [0, -1, 1]) ws (vs ++ [Value.int x, Value.int y]) := by
    refine ⟨fun n hn => ?_, ?_⟩
    · have hn : n ∈ [13, 3] := hn
      rw [List.length_append, hl]
      simp only [List.mem_cons, List.not_mem_nil, or_false] at hn
      show n < 13 + 2; omega
    · show (-1) * v_iv (n_v (vs ++ [Value.int x, Value.int y]) 13) + (1 * v_iv (n_v (vs ++ [Value.int x, Value.int y]) 3) + 0) ≤ 0
      rw [e_3]
      rw [e_13]
      omega
  have nf2 : fc_1 (23, [14, 10], [0, 1, -1]) ws (vs ++ [Value.int x, Value.int y]) := by
    refine ⟨fun n hn => ?_, ?_⟩
    · have hn : n ∈ [14, 10] := hn
      rw [List.length_append, hl]
      simp only [List.mem_cons, List.not_mem_nil, or_false] at hn
      show n < 13 + 2; omega
    · show 1 * v_iv (n_v (vs ++ [Value.int x, Value.int y]) 14) + ((-1) * v_iv (n_v (vs ++ [Value.int x, Value.int y]) 10) + 0) ≤ 0
      rw [e_10]
      rw [e_14]
      omega
  have nf3 : fc_1 (23, [14, 10], [0, -1, 1]) ws (vs ++ [Value.int x, Value.int y]) := by
    refine ⟨fun n hn => ?_, ?_⟩
    · have hn : n ∈ [14, 10] := hn
      rw [List.length_append, hl]
      simp only [List.mem_cons, List.not_mem_nil, or_false] at hn
      show n < 13 + 2; omega
    · show (-1) * v_iv (n_v (vs ++ [Value.int x, Value.int y]) 14) + (1 * v_iv (n_v (vs ++ [Value.int x, Value.int y]) 10) + 0) ≤ 0
      rw [e_10]
      rw [e_14]
      omega
  have nf4 : fc_1 (20, [0, 0], [30, 0, 1, 1, 15, -1, 1, 11]) ws (vs ++ [Value.int x, Value.int y]) := by
    refine ⟨fun n hn => ?_, ?_⟩
    · have hn : n ∈ [0, 0] := hn
      rw [List.length_append, hl]
      simp only [List.mem_cons, List.not_mem_nil, or_false] at hn
      show n < 13 + 2; omega
    · show 1 * w_fi ws (n_v (vs ++ [Value.int x, Value.int y]) 0) 15 + ((-1) * w_fi ws (n_v (vs ++ [Value.int x, Value.int y]) 0) 11 + 0) ≤ 0
      rw [e_0]
      omega
  have nf5 : fc_1 (20, [0], [50, 3, 0, 12, 11, 15, 2, 21, 4, 7, 1, 3, 2, 0, 12, 0, 1, 0, 3, 2, 0, 11, 4, 3, 2, 0, 15, 0, 8, 3, 7, 1, 3, 2, 0, 12, 0, 0, 0, 7, 4, 3, 2, 0, 15, 0, 1, 2, 0, 11]) ws (vs ++ [Value.int x, Value.int y]) := by
    refine ⟨fun n hn => ?_, ?_⟩
    · have hn : n ∈ [0] := hn
      rw [List.length_append, hl]
      simp only [List.mem_cons, List.not_mem_nil, or_false] at hn
      show n < 13 + 2; omega
    · show ((w_fi ws (n_v (vs ++ [Value.int x, Value.int y]) 0) 12 = 1) → (w_fi ws (n_v (vs ++ [Value.int x, Value.int y]) 0) 11 ≤ (w_fi ws (n_v (vs ++ [Value.int x, Value.int y]) 0) 15 + 8))) ∧ ((w_fi ws (n_v (vs ++ [Value.int x, Value.int y]) 0) 12 = 0) ∨ ((w_fi ws (n_v (vs ++ [Value.int x, Value.int y]) 0) 15 + 1) ≤ w_fi ws (n_v (vs ++ [Value.int x, Value.int y]) 0) 11))
      rw [e_0]
      first | omega | grind
  have nf6 : fc_1 (20, [13, 0], [30, 0, 1, 0, 0, -1, 1, 11]) ws (vs ++ [Value.int x, Value.int y]) := by
    refine ⟨fun n hn => ?_, ?_⟩
    · have hn : n ∈ [13, 0] := hn
      rw [List.length_append, hl]
      simp only [List.mem_cons, List.not_mem_nil, or_false] at hn
      show n < 13 + 2; omega
    · show 1 * v_iv (n_v (vs ++ [Value.int x, Value.int y]) 13) + ((-1) * w_fi ws (n_v (vs ++ [Value.int x, Value.int y]) 0) 11 + 0) ≤ 0
      rw [e_0]
      rw [e_13]
      omega
  have nf7 : fc_1 (20, [0, 13], [50, 3, 0, 8, 12, 11, 3, 7, 0, 2, 0, 1, 2, 0, 8, 3, 7, 1, 3, 2, 0, 12, 0, 0, 0, 6, 4, 2, 1, 1, 0, 1, 2, 0, 11]) ws (vs ++ [Value.int x, Value.int y]) := by
    refine ⟨fun n hn => ?_, ?_⟩
    · have hn : n ∈ [0, 13] := hn
      rw [List.length_append, hl]
      simp only [List.mem_cons, List.not_mem_nil, or_false] at hn
      show n < 13 + 2; omega
    · show (1 ≤ w_fi ws (n_v (vs ++ [Value.int x, Value.int y]) 0) 8) ∨ ((w_fi ws (n_v (vs ++ [Value.int x, Value.int y]) 0) 12 = 0) ∨ ((v_iv (n_v (vs ++ [Value.int x, Value.int y]) 13) + 1) ≤ w_fi ws (n_v (vs ++ [Value.int x, Value.int y]) 0) 11))
      rw [e_0]
      rw [e_13]
      first | omega | grind
  have nf8 : fc_1 (20, [0, 14], [50, 1, 0, 8, 3, 7, 0, 2, 0, 1, 2, 0, 8, 0, 2, 0, 0, 1, 1]) ws (vs ++ [Value.int x, Value.int y]) := by
    refine ⟨fun n hn => ?_, ?_⟩
    · have hn : n ∈ [0, 14] := hn
      rw [List.length_append, hl]
      simp only [List.mem_cons, List.not_mem_nil, or_false] at hn
      show n < 13 + 2; omega
    · show (1 ≤ w_fi ws (n_v (vs ++ [Value.int x, Value.int y]) 0) 8) ∨ (0 ≤ v_iv (n_v (vs ++ [Value.int x, Value.int y]) 14))
      rw [e_0]
      rw [e_14]
      first | omega | grind
  exact ⟨(fun _ h => (by cases h)), [Value.int x, Value.int y], ag_two hx hy, List.forall_mem_cons.mpr ⟨⟨show (23 : Nat) < 100 from by decide, nf0⟩, List.forall_mem_cons.mpr ⟨⟨show (23 : Nat) < 100 from by decide, nf1⟩, List.forall_mem_cons.mpr ⟨⟨show (23 : Nat) < 100 from by decide, nf2⟩, List.forall_mem_cons.mpr ⟨⟨show (23 : Nat) < 100 from by decide, nf3⟩, List.forall_mem_cons.mpr ⟨⟨show (20 : Nat) < 100 from by decide, nf4⟩, List.forall_mem_cons.mpr ⟨⟨show (20 : Nat) < 100 from by decide, nf5⟩, List.forall_mem_cons.mpr ⟨⟨show (20 : Nat) < 100 from by decide, nf6⟩, List.forall_mem_cons.mpr ⟨⟨show (20 : Nat) < 100 from by decide, nf7⟩, List.forall_mem_cons.mpr ⟨⟨show (20 : Nat) < 100 from by decide, nf8⟩, (fun _ h => (by cases h))⟩⟩⟩⟩⟩⟩⟩⟩⟩, (fun _ h => (by cases h))⟩
def o_Mo_item_at_k0_6 : or_T := (64, 18, [(0, (2, 0, 0, [150])), (1, (0, 0, 0, [])), (3, (0, 0, 2000, [])), (6, (0, 0, 2000, [])), (8, (0, 0, 2000, [])), (10, (0, -1, 23, [])), (12, (0, 99, 99, [])), (13, (0, 0, 2000, [])), (14, (0, -1, 48, [])), (15, (0, -2147483648, 2147483647, [])), (16, (0, 1, 5, []))], [(8, [16], [1]), (9, [16, 0], [8]), (23, [13, 3], [0, 1, -1]), (23, [13, 3], [0, -1, 1]), (23, [14, 10], [0, 1, -1]), (23, [14, 10], [0, -1, 1]), (23, [8, 3], [0, 1, -1]), (23, [8, 3], [0, -1, 1]), (23, [6, 3], [0, 1, -1]), (23, [6, 3], [0, -1, 1]), (20, [1, 0], [50, 1, 1, 1005, 1002, 0, 6, 4, 2, 1, 0, 0, 1, 3, 1, 2, 4, 3, 2, 1, 5, 0, 2]), (20, [0, 0], [30, 0, 1, 1, 15, -1, 1, 11]), (20, [0], [50, 3, 0, 12, 11, 15, 2, 21, 4, 7, 1, 3, 2, 0, 12, 0, 1, 0, 3, 2, 0, 11, 4, 3, 2, 0, 15, 0, 8, 3, 7, 1, 3, 2, 0, 12, 0, 0, 0, 7, 4, 3, 2, 0, 15, 0, 1, 2, 0, 11]), (20, [13, 0], [30, 0, 1, 0, 0, -1, 1, 11]), (20, [0, 13], [50, 3, 0, 8, 12, 11, 3, 7, 0, 2, 0, 1, 2, 0, 8, 3, 7, 1, 3, 2, 0, 12, 0, 0, 0, 6, 4, 2, 1, 1, 0, 1, 2, 0, 11]), (20, [0, 14], [50, 1, 0, 8, 3, 7, 0, 2, 0, 1, 2, 0, 8, 0, 2, 0, 0, 1, 1]), (20, [15, 12], [30, 0, 1, 0, 0, -1, 0, 0]), (20, [15], [30, 0, -1, 0, 0]), (102, [14], [0, 13008, 13009, 13011, 13012, 13013, 13014, 13015]), (23, [13, 3], [0, 1, -1]), (23, [13, 3], [0, -1, 1]), (23, [14, 10], [0, 1, -1]), (23, [14, 10], [0, -1, 1]), (23, [8, 3], [0, 1, -1]), (23, [8, 3], [0, -1, 1]), (23, [6, 3], [0, 1, -1]), (23, [6, 3], [0, -1, 1]), (102, [9], [5708990770823839524233143877797980545530986496, 13008, 13009, 13011, 13012, 13013, 13014, 13015]), (23, [8, 3], [0, 1, -1]), (23, [8, 3], [0, -1, 1]), (23, [6, 3], [0, 1, -1]), (23, [6, 3], [0, -1, 1]), (102, [6], [0, 13011, 13012, 13013, 13014, 13015]), (23, [6, 3], [0, 1, -1]), (23, [6, 3], [0, -1, 1])], [], [(0, 0, 2000, [])], [(23, [18, 3], [0, 1, -1]), (23, [18, 3], [0, -1, 1]), (20, [0, 0], [30, 0, 1, 1, 15, -1, 1, 11]), (20, [0], [50, 3, 0, 12, 11, 15, 2, 21, 4, 7, 1, 3, 2, 0, 12, 0, 1, 0, 3, 2, 0, 11, 4, 3, 2, 0, 15, 0, 8, 3, 7, 1, 3, 2, 0, 12, 0, 0, 0, 7, 4, 3, 2, 0, 15, 0, 1, 2, 0, 11]), (20, [18, 0], [30, 0, 1, 0, 0, -1, 1, 11]), (20, [0, 18], [50, 3, 0, 8, 12, 11, 3, 7, 0, 2, 0, 1, 2, 0, 8, 3, 7, 1, 3, 2, 0, 12, 0, 0, 0, 6, 4, 2, 1, 1, 0, 1, 2, 0, 11])], [], [])
theorem oo_Mo_item_at_k0_6 {kA : Nat → ClassId} : or_ok kA GG o_Mo_item_at_k0_6 := by
  intro A ta ws vs hD hth hl hk hds hf
  have hl : vs.length = 18 := hl
  have hk : ∀ q ∈ ([(0, (2, 0, 0, [150])), (1, (0, 0, 0, [])), (3, (0, 0, 2000, [])), (6, (0, 0, 2000, [])), (8, (0, 0, 2000, [])), (10, (0, -1, 23, [])), (12, (0, 99, 99, [])), (13, (0, 0, 2000, [])), (14, (0, -1, 48, [])), (15, (0, -2147483648, 2147483647, [])), (16, (0, 1, 5, []))] : List (Nat × tv_T)), tv_ok ta q.2 (n_v vs q.1) := hk
  obtain ⟨t0, hk⟩ := List.forall_mem_cons.mp hk
  have t0 : tv_ok ta (2, 0, 0, [150]) (n_v vs 0) := t0
  have r0 : ta (v_ad (n_v vs 0)) = some 150 := tv_rg t0
  obtain ⟨t1, hk⟩ := List.forall_mem_cons.mp hk
  have t1 : tv_ok ta (0, 0, 0, []) (n_v vs 1) := t1
  have k1 : 0 ≤ v_iv (n_v vs 1) ∧ v_iv (n_v vs 1) ≤ 0 := tv_rng t1
  obtain ⟨t3, hk⟩ := List.forall_mem_cons.mp hk
  have t3 : tv_ok ta (0, 0, 2000, []) (n_v vs 3) := t3
  have k3 : 0 ≤ v_iv (n_v vs 3) ∧ v_iv (n_v vs 3) ≤ 2000 := tv_rng t3
  obtain ⟨t6, hk⟩ := List.forall_mem_cons.mp hk
  have t6 : tv_ok ta (0, 0, 2000, []) (n_v vs 6) := t6
  have k6 : 0 ≤ v_iv (n_v vs 6) ∧ v_iv (n_v vs 6) ≤ 2000 := tv_rng t6
  obtain ⟨t8, hk⟩ := List.forall_mem_cons.mp hk
  have t8 : tv_ok ta (0, 0, 2000, []) (n_v vs 8) := t8
  have k8 : 0 ≤ v_iv (n_v vs 8) ∧ v_iv (n_v vs 8) ≤ 2000 := tv_rng t8
  obtain ⟨t10, hk⟩ := List.forall_mem_cons.mp hk
  have t10 : tv_ok ta (0, -1, 23, []) (n_v vs 10) := t10
  have k10 : (-1) ≤ v_iv (n_v vs 10) ∧ v_iv (n_v vs 10) ≤ 23 := tv_rng t10
  obtain ⟨t12, hk⟩ := List.forall_mem_cons.mp hk
  have t12 : tv_ok ta (0, 99, 99, []) (n_v vs 12) := t12
  have k12 : 99 ≤ v_iv (n_v vs 12) ∧ v_iv (n_v vs 12) ≤ 99 := tv_rng t12
  obtain ⟨t13, hk⟩ := List.forall_mem_cons.mp hk
  have t13 : tv_ok ta (0, 0, 2000, []) (n_v vs 13) := t13
  have k13 : 0 ≤ v_iv (n_v vs 13) ∧ v_iv (n_v vs 13) ≤ 2000 := tv_rng t13
  obtain ⟨t14, hk⟩ := List.forall_mem_cons.mp hk
  have t14 : tv_ok ta (0, -1, 48, []) (n_v vs 14) := t14
  have k14 : (-1) ≤ v_iv (n_v vs 14) ∧ v_iv (n_v vs 14) ≤ 48 := tv_rng t14
  obtain ⟨t15, hk⟩ := List.forall_mem_cons.mp hk
  have t15 : tv_ok ta (0, -2147483648, 2147483647, []) (n_v vs 15) := t15
  have k15 : (-2147483648) ≤ v_iv (n_v vs 15) ∧ v_iv (n_v vs 15) ≤ 2147483647 := tv_rng t15
  obtain ⟨t16, hk⟩ := List.forall_mem_cons.mp hk
  have t16 : tv_ok ta (0, 1, 5, []) (n_v vs 16) := t16
  have k16 : 1 ≤ v_iv (n_v vs 16) ∧ v_iv (n_v vs 16) ≤ 5 := tv_rng t16
  have hf : fc_ok [(8, [16], [1]), (9, [16, 0], [8]), (23, [13, 3], [0, 1, -1]), (23, [13, 3], [0, -1, 1]), (23, [14, 10], [0, 1, -1]), (23, [14, 10], [0, -1, 1]), (23, [8, 3], [0, 1, -1]), (23, [8, 3], [0, -1, 1]), (23, [6, 3], [0, 1, -1]), (23, [6, 3], [0, -1, 1]), (20, [1, 0], [50, 1, 1, 1005, 1002, 0, 6, 4, 2, 1, 0, 0, 1, 3, 1, 2, 4, 3, 2, 1, 5, 0, 2]), (20, [0, 0], [30, 0, 1, 1, 15, -1, 1, 11]), (20, [0], [50, 3, 0, 12, 11, 15, 2, 21, 4, 7, 1, 3, 2, 0, 12, 0, 1, 0, 3, 2, 0, 11, 4, 3, 2, 0, 15, 0, 8, 3, 7, 1, 3, 2, 0, 12, 0, 0, 0, 7, 4, 3, 2, 0, 15, 0, 1, 2, 0, 11]), (20, [13, 0], [30, 0, 1, 0, 0, -1, 1, 11]), (20, [0, 13], [50, 3, 0, 8, 12, 11, 3, 7, 0, 2, 0, 1, 2, 0, 8, 3, 7, 1, 3, 2, 0, 12, 0, 0, 0, 6, 4, 2, 1, 1, 0, 1, 2, 0, 11]), (20, [0, 14], [50, 1, 0, 8, 3, 7, 0, 2, 0, 1, 2, 0, 8, 0, 2, 0, 0, 1, 1]), (20, [15, 12], [30, 0, 1, 0, 0, -1, 0, 0]), (20, [15], [30, 0, -1, 0, 0]), (102, [14], [0, 13008, 13009, 13011, 13012, 13013, 13014, 13015]), (23, [13, 3], [0, 1, -1]), (23, [13, 3], [0, -1, 1]), (23, [14, 10], [0, 1, -1]), (23, [14, 10], [0, -1, 1]), (23, [8, 3], [0, 1, -1]), (23, [8, 3], [0, -1, 1]), (23, [6, 3], [0, 1, -1]), (23, [6, 3], [0, -1, 1]), (102, [9], [5708990770823839524233143877797980545530986496, 13008, 13009, 13011, 13012, 13013, 13014, 13015]), (23, [8, 3], [0, 1, -1]), (23, [8, 3], [0, -1, 1]), (23, [6, 3], [0, 1, -1]), (23, [6, 3], [0, -1, 1]), (102, [6], [0, 13011, 13012, 13013, 13014, 13015]), (23, [6, 3], [0, 1, -1]), (23, [6, 3], [0, -1, 1])] ta ws vs := hf
  obtain ⟨f0, hf⟩ := fc_un (show (8 : Nat) < 100 from by decide) hf
  have f0 : v_iv (n_v vs 16) ≠ 0 := f0
  obtain ⟨f1, hf⟩ := fc_un (show (9 : Nat) < 100 from by decide) hf
  have f1 : n_v vs 16 = w_fd ws (v_ad (n_v vs 0)) 8 := f1
  obtain ⟨f2, hf⟩ := fc_un (show (23 : Nat) < 100 from by decide) hf
  have f2 : 1 * v_iv (n_v vs 13) + ((-1) * v_iv (n_v vs 3) + 0) ≤ 0 := f2
  obtain ⟨f3, hf⟩ := fc_un (show (23 : Nat) < 100 from by decide) hf
  have f3 : (-1) * v_iv (n_v vs 13) + (1 * v_iv (n_v vs 3) + 0) ≤ 0 := f3
  obtain ⟨f4, hf⟩ := fc_un (show (23 : Nat) < 100 from by decide) hf
  have f4 : 1 * v_iv (n_v vs 14) + ((-1) * v_iv (n_v vs 10) + 0) ≤ 0 := f4
  obtain ⟨f5, hf⟩ := fc_un (show (23 : Nat) < 100 from by decide) hf
  have f5 : (-1) * v_iv (n_v vs 14) + (1 * v_iv (n_v vs 10) + 0) ≤ 0 := f5
  obtain ⟨f6, hf⟩ := fc_un (show (23 : Nat) < 100 from by decide) hf
  have f6 : 1 * v_iv (n_v vs 8) + ((-1) * v_iv (n_v vs 3) + 0) ≤ 0 := f6
  obtain ⟨f7, hf⟩ := fc_un (show (23 : Nat) < 100 from by decide) hf
  have f7 : (-1) * v_iv (n_v vs 8) + (1 * v_iv (n_v vs 3) + 0) ≤ 0 := f7
  obtain ⟨f8, hf⟩ := fc_un (show (23 : Nat) < 100 from by decide) hf
  have f8 : 1 * v_iv (n_v vs 6) + ((-1) * v_iv (n_v vs 3) + 0) ≤ 0 := f8
  obtain ⟨f9, hf⟩ := fc_un (show (23 : Nat) < 100 from by decide) hf
  have f9 : (-1) * v_iv (n_v vs 6) + (1 * v_iv (n_v vs 3) + 0) ≤ 0 := f9
  obtain ⟨f10, hf⟩ := fc_un (show (20 : Nat) < 100 from by decide) hf
  have f10 : (v_iv (n_v vs 1) + 1) ≤ w_ei ws (w_ar ws (n_v vs 0) 2) ((w_fi ws (n_v vs 0) 5 + 2)) := f10
  obtain ⟨f11, hf⟩ := fc_un (show (20 : Nat) < 100 from by decide) hf
  have f11 : 1 * w_fi ws (n_v vs 0) 15 + ((-1) * w_fi ws (n_v vs 0) 11 + 0) ≤ 0 := f11
  obtain ⟨f12, hf⟩ := fc_un (show (20 : Nat) < 100 from by decide) hf
  have f12 : ((w_fi ws (n_v vs 0) 12 = 1) → (w_fi ws (n_v vs 0) 11 ≤ (w_fi ws (n_v vs 0) 15 + 8))) ∧ ((w_fi ws (n_v vs 0) 12 = 0) ∨ ((w_fi ws (n_v vs 0) 15 + 1) ≤ w_fi ws (n_v vs 0) 11)) := f12
  obtain ⟨f13, hf⟩ := fc_un (show (20 : Nat) < 100 from by decide) hf
  have f13 : 1 * v_iv (n_v vs 13) + ((-1) * w_fi ws (n_v vs 0) 11 + 0) ≤ 0 := f13
  obtain ⟨f14, hf⟩ := fc_un (show (20 : Nat) < 100 from by decide) hf
  have f14 : (1 ≤ w_fi ws (n_v vs 0) 8) ∨ ((w_fi ws (n_v vs 0) 12 = 0) ∨ ((v_iv (n_v vs 13) + 1) ≤ w_fi ws (n_v vs 0) 11)) := f14
  obtain ⟨f15, hf⟩ := fc_un (show (20 : Nat) < 100 from by decide) hf
  have f15 : (1 ≤ w_fi ws (n_v vs 0) 8) ∨ (0 ≤ v_iv (n_v vs 14)) := f15
  obtain ⟨f16, hf⟩ := fc_un (show (20 : Nat) < 100 from by decide) hf
  have f16 : 1 * v_iv (n_v vs 15) + ((-1) * v_iv (n_v vs 12) + 0) ≤ 0 := f16
  obtain ⟨f17, hf⟩ := fc_un (show (20 : Nat) < 100 from by decide) hf
  have f17 : (-1) * v_iv (n_v vs 15) + 0 ≤ 0 := f17
  obtain ⟨ta1, w1, le1, ⟨_, s1⟩, hf⟩ := fc_us (show ¬ (102 : Nat) < 100 from by decide) hf
  obtain ⟨f19, hf⟩ := fc_un (show (23 : Nat) < 100 from by decide) hf
  have f19 : 1 * v_iv (n_v vs 13) + ((-1) * v_iv (n_v vs 3) + 0) ≤ 0 := f19
  obtain ⟨f20, hf⟩ := fc_un (show (23 : Nat) < 100 from by decide) hf
  have f20 : (-1) * v_iv (n_v vs 13) + (1 * v_iv (n_v vs 3) + 0) ≤ 0 := f20
  obtain ⟨f21, hf⟩ := fc_un (show (23 : Nat) < 100 from by decide) hf
  have f21 : 1 * v_iv (n_v vs 14) + ((-1) * v_iv (n_v vs 10) + 0) ≤ 0 := f21
  obtain ⟨f22, hf⟩ := fc_un (show (23 : Nat) < 100 from by decide) hf
  have f22 : (-1) * v_iv (n_v vs 14) + (1 * v_iv (n_v vs 10) + 0) ≤ 0 := f22
  obtain ⟨f23, hf⟩ := fc_un (show (23 : Nat) < 100 from by decide) hf
  have f23 : 1 * v_iv (n_v vs 8) + ((-1) * v_iv (n_v vs 3) + 0) ≤ 0 := f23
  obtain ⟨f24, hf⟩ := fc_un (show (23 : Nat) < 100 from by decide) hf
  have f24 : (-1) * v_iv (n_v vs 8) + (1 * v_iv (n_v vs 3) + 0) ≤ 0 := f24
  obtain ⟨f25, hf⟩ := fc_un (show (23 : Nat) < 100 from by decide) hf
  have f25 : 1 * v_iv (n_v vs 6) + ((-1) * v_iv (n_v vs 3) + 0) ≤ 0 := f25
  obtain ⟨f26, hf⟩ := fc_un (show (23 : Nat) < 100 from by decide) hf
  have f26 : (-1) * v_iv (n_v vs 6) + (1 * v_iv (n_v vs 3) + 0) ≤ 0 := f26
  obtain ⟨ta2, w2, le2, ⟨_, s2⟩, hf⟩ := fc_us (show ¬ (102 : Nat) < 100 from by decide) hf
  obtain ⟨f28, hf⟩ := fc_un (show (23 : Nat) < 100 from by decide) hf
  have f28 : 1 * v_iv (n_v vs 8) + ((-1) * v_iv (n_v vs 3) + 0) ≤ 0 := f28
  obtain ⟨f29, hf⟩ := fc_un (show (23 : Nat) < 100 from by decide) hf
  have f29 : (-1) * v_iv (n_v vs 8) + (1 * v_iv (n_v vs 3) + 0) ≤ 0 := f29
  obtain ⟨f30, hf⟩ := fc_un (show (23 : Nat) < 100 from by decide) hf
  have f30 : 1 * v_iv (n_v vs 6) + ((-1) * v_iv (n_v vs 3) + 0) ≤ 0 := f30
  obtain ⟨f31, hf⟩ := fc_un (show (23 : Nat) < 100 from by decide) hf
  have f31 : (-1) * v_iv (n_v vs 6) + (1 * v_iv (n_v vs 3) + 0) ≤ 0 := f31
  obtain ⟨ta3, w3, le3, ⟨_, s3⟩, hf⟩ := fc_us (show ¬ (102 : Nat) < 100 from by decide) hf
  obtain ⟨f33, hf⟩ := fc_un (show (23 : Nat) < 100 from by decide) hf
  have f33 : 1 * v_iv (n_v vs 6) + ((-1) * v_iv (n_v vs 3) + 0) ≤ 0 := f33
  obtain ⟨f34, hf⟩ := fc_un (show (23 : Nat) < 100 from by decide) hf
  have f34 : (-1) * v_iv (n_v vs 6) + (1 * v_iv (n_v vs 3) + 0) ≤ 0 := f34
  have cr_0_2 : ta (w_ar ws (n_v vs 0) 2) = some 152 := tv_rg (th_fd hD hth r0 (g := GG_150) rfl (k := 2) (t := (2, 0, 0, [152])) rfl rfl)
  have g1 : v_iv (n_v vs 16) = w_fi ws (n_v vs 0) 8 := congrArg v_iv f1
  have kz_0_8 : 0 ≤ w_fi ws (n_v vs 0) 8 ∧ w_fi ws (n_v vs 0) 8 ≤ 5 := tv_rng (th_fd hD hth r0 (g := GG_150) rfl (k := 8) (t := (0, 0, 5, [])) rfl rfl)
  have kz_0_11 : 0 ≤ w_fi ws (n_v vs 0) 11 ∧ w_fi ws (n_v vs 0) 11 ≤ 2000 := tv_rng (th_fd hD hth r0 (g := GG_150) rfl (k := 11) (t := (0, 0, 2000, [])) rfl rfl)
  have kz_0_12 : 0 ≤ w_fi ws (n_v vs 0) 12 ∧ w_fi ws (n_v vs 0) 12 ≤ 4 := tv_rng (th_fd hD hth r0 (g := GG_150) rfl (k := 12) (t := (0, 0, 4, [])) rfl rfl)
  have kz_0_15 : 0 ≤ w_fi ws (n_v vs 0) 15 ∧ w_fi ws (n_v vs 0) 15 ≤ 2000 := tv_rng (th_fd hD hth r0 (g := GG_150) rfl (k := 15) (t := (0, 0, 2000, [])) rfl rfl)
  obtain ⟨x, ex, hx⟩ := iv_ex (ta := ta) (lo := 0) (hi := 2000) (z := v_iv (n_v vs 3)) (by omega) (by omega) (by omega) (by omega)
  have ex2 : v_iv (Value.int x) = v_iv (n_v vs 3) := ex
  have ex3 : 0 ≤ v_iv (Value.int x) ∧ v_iv (Value.int x) ≤ 2000 := tv_rng hx
  have e_0 : n_v (vs ++ [Value.int x]) 0 = n_v vs 0 := n_v_old (by rw [hl]; decide)
  have e_3 : n_v (vs ++ [Value.int x]) 3 = n_v vs 3 := n_v_old (by rw [hl]; decide)
  have e_18 : n_v (vs ++ [Value.int x]) 18 = Value.int x := n_v_new hl
  have nf0 : fc_1 (23, [18, 3], [0, 1, -1]) ws (vs ++ [Value.int x]) := by
    refine ⟨fun n hn => ?_, ?_⟩
    · have hn : n ∈ [18, 3] := hn
      rw [List.length_append, hl]
      simp only [List.mem_cons, List.not_mem_nil, or_false] at hn
      show n < 18 + 1; omega
    · show 1 * v_iv (n_v (vs ++ [Value.int x]) 18) + ((-1) * v_iv (n_v (vs ++ [Value.int x]) 3) + 0) ≤ 0
      rw [e_3]
      rw [e_18]
      omega
  have nf1 : fc_1 (23, [18, 3], [0, -1, 1]) ws (vs ++ [Value.int x]) := by
    refine ⟨fun n hn => ?_, ?_⟩
    · have hn : n ∈ [18, 3] := hn
      rw [List.length_append, hl]
      simp only [List.mem_cons, List.not_mem_nil, or_false] at hn
      show n < 18 + 1; omega
    · show (-1) * v_iv (n_v (vs ++ [Value.int x]) 18) + (1 * v_iv (n_v (vs ++ [Value.int x]) 3) + 0) ≤ 0
      rw [e_3]
      rw [e_18]
      omega
  have nf2 : fc_1 (20, [0, 0], [30, 0, 1, 1, 15, -1, 1, 11]) ws (vs ++ [Value.int x]) := by
    refine ⟨fun n hn => ?_, ?_⟩
    · have hn : n ∈ [0, 0] := hn
      rw [List.length_append, hl]
      simp only [List.mem_cons, List.not_mem_nil, or_false] at hn
      show n < 18 + 1; omega
    · show 1 * w_fi ws (n_v (vs ++ [Value.int x]) 0) 15 + ((-1) * w_fi ws (n_v (vs ++ [Value.int x]) 0) 11 + 0) ≤ 0
      rw [e_0]
      omega
  have nf3 : fc_1 (20, [0], [50, 3, 0, 12, 11, 15, 2, 21, 4, 7, 1, 3, 2, 0, 12, 0, 1, 0, 3, 2, 0, 11, 4, 3, 2, 0, 15, 0, 8, 3, 7, 1, 3, 2, 0, 12, 0, 0, 0, 7, 4, 3, 2, 0, 15, 0, 1, 2, 0, 11]) ws (vs ++ [Value.int x]) := by
    refine ⟨fun n hn => ?_, ?_⟩
    · have hn : n ∈ [0] := hn
      rw [List.length_append, hl]
      simp only [List.mem_cons, List.not_mem_nil, or_false] at hn
      show n < 18 + 1; omega
    · show ((w_fi ws (n_v (vs ++ [Value.int x]) 0) 12 = 1) → (w_fi ws (n_v (vs ++ [Value.int x]) 0) 11 ≤ (w_fi ws (n_v (vs ++ [Value.int x]) 0) 15 + 8))) ∧ ((w_fi ws (n_v (vs ++ [Value.int x]) 0) 12 = 0) ∨ ((w_fi ws (n_v (vs ++ [Value.int x]) 0) 15 + 1) ≤ w_fi ws (n_v (vs ++ [Value.int x]) 0) 11))
      rw [e_0]
      first | omega | grind
  have nf4 : fc_1 (20, [18, 0], [30, 0, 1, 0, 0, -1, 1, 11]) ws (vs ++ [Value.int x]) := by
    refine ⟨fun n hn => ?_, ?_⟩
    · have hn : n ∈ [18, 0] := hn
      rw [List.length_append, hl]
      simp only [List.mem_cons, List.not_mem_nil, or_false] at hn
      show n < 18 + 1; omega
    · show 1 * v_iv (n_v (vs ++ [Value.int x]) 18) + ((-1) * w_fi ws (n_v (vs ++ [Value.int x]) 0) 11 + 0) ≤ 0
      rw [e_0]
      rw [e_18]
      omega
  have nf5 : fc_1 (20, [0, 18], [50, 3, 0, 8, 12, 11, 3, 7, 0, 2, 0, 1, 2, 0, 8, 3, 7, 1, 3, 2, 0, 12, 0, 0, 0, 6, 4, 2, 1, 1, 0, 1, 2, 0, 11]) ws (vs ++ [Value.int x]) := by
    refine ⟨fun n hn => ?_, ?_⟩
    · have hn : n ∈ [0, 18] := hn
      rw [List.length_append, hl]
      simp only [List.mem_cons, List.not_mem_nil, or_false] at hn
      show n < 18 + 1; omega
    · show (1 ≤ w_fi ws (n_v (vs ++ [Value.int x]) 0) 8) ∨ ((w_fi ws (n_v (vs ++ [Value.int x]) 0) 12 = 0) ∨ ((v_iv (n_v (vs ++ [Value.int x]) 18) + 1) ≤ w_fi ws (n_v (vs ++ [Value.int x]) 0) 11))
      rw [e_0]
      rw [e_18]
      first | omega | grind
  exact ⟨(fun _ h => (by cases h)), [Value.int x], ag_one hx, List.forall_mem_cons.mpr ⟨⟨show (23 : Nat) < 100 from by decide, nf0⟩, List.forall_mem_cons.mpr ⟨⟨show (23 : Nat) < 100 from by decide, nf1⟩, List.forall_mem_cons.mpr ⟨⟨show (20 : Nat) < 100 from by decide, nf2⟩, List.forall_mem_cons.mpr ⟨⟨show (20 : Nat) < 100 from by decide, nf3⟩, List.forall_mem_cons.mpr ⟨⟨show (20 : Nat) < 100 from by decide, nf4⟩, List.forall_mem_cons.mpr ⟨⟨show (20 : Nat) < 100 from by decide, nf5⟩, (fun _ h => (by cases h))⟩⟩⟩⟩⟩⟩, (fun _ h => (by cases h))⟩
def o_Mo_item_at_k0_7 : or_T := (94, 19, [(0, (2, 0, 0, [150])), (1, (0, 0, 0, [])), (3, (0, 0, 2000, [])), (6, (0, 0, 2000, [])), (8, (0, 0, 2000, [])), (12, (0, 99, 99, [])), (13, (0, 0, 2000, [])), (15, (0, -2147483648, 2147483647, [])), (18, (0, 0, 2000, []))], [(23, [18, 3], [0, 1, -1]), (23, [18, 3], [0, -1, 1]), (23, [13, 3], [0, 1, -1]), (23, [13, 3], [0, -1, 1]), (23, [8, 3], [0, 1, -1]), (23, [8, 3], [0, -1, 1]), (23, [6, 3], [0, 1, -1]), (23, [6, 3], [0, -1, 1]), (20, [1, 0], [50, 1, 1, 1005, 1002, 0, 6, 4, 2, 1, 0, 0, 1, 3, 1, 2, 4, 3, 2, 1, 5, 0, 2]), (20, [15, 12], [30, 0, 1, 0, 0, -1, 0, 0]), (20, [15], [30, 0, -1, 0, 0]), (20, [0, 0], [30, 0, 1, 1, 15, -1, 1, 11]), (20, [0], [50, 3, 0, 12, 11, 15, 2, 21, 4, 7, 1, 3, 2, 0, 12, 0, 1, 0, 3, 2, 0, 11, 4, 3, 2, 0, 15, 0, 8, 3, 7, 1, 3, 2, 0, 12, 0, 0, 0, 7, 4, 3, 2, 0, 15, 0, 1, 2, 0, 11]), (20, [18, 0], [30, 0, 1, 0, 0, -1, 1, 11]), (20, [0, 18], [50, 2, 0, 8, 11, 3, 7, 0, 2, 0, 1, 2, 0, 8, 0, 6, 4, 2, 1, 1, 0, 1, 2, 0, 11]), (102, [18], [0, 13008, 13009, 13011, 13012, 13013, 13014, 13015]), (23, [18, 3], [0, 1, -1]), (23, [18, 3], [0, -1, 1]), (23, [13, 3], [0, 1, -1]), (23, [13, 3], [0, -1, 1]), (23, [8, 3], [0, 1, -1]), (23, [8, 3], [0, -1, 1]), (23, [6, 3], [0, 1, -1]), (23, [6, 3], [0, -1, 1]), (102, [14], [0, 13008, 13009, 13011, 13012, 13013, 13014, 13015]), (23, [13, 3], [0, 1, -1]), (23, [13, 3], [0, -1, 1]), (23, [8, 3], [0, 1, -1]), (23, [8, 3], [0, -1, 1]), (23, [6, 3], [0, 1, -1]), (23, [6, 3], [0, -1, 1]), (102, [9], [5708990770823839524233143877797980545530986496, 13008, 13009, 13011, 13012, 13013, 13014, 13015]), (23, [8, 3], [0, 1, -1]), (23, [8, 3], [0, -1, 1]), (23, [6, 3], [0, 1, -1]), (23, [6, 3], [0, -1, 1]), (102, [6], [0, 13011, 13012, 13013, 13014, 13015]), (23, [6, 3], [0, 1, -1]), (23, [6, 3], [0, -1, 1])], [], [], [(20, [3, 0], [30, 0, 1, 0, 0, -1, 1, 11]), (20, [0, 3], [50, 2, 0, 8, 11, 3, 7, 0, 2, 0, 1, 2, 0, 8, 0, 6, 4, 2, 1, 1, 0, 1, 2, 0, 11])], [], [])
theorem oo_Mo_item_at_k0_7 {kA : Nat → ClassId} : or_ok kA GG o_Mo_item_at_k0_7 := by
  intro A ta ws vs hD hth hl hk hds hf
  have hl : vs.length = 19 := hl
  have hk : ∀ q ∈ ([(0, (2, 0, 0, [150])), (1, (0, 0, 0, [])), (3, (0, 0, 2000, [])), (6, (0, 0, 2000, [])), (8, (0, 0, 2000, [])), (12, (0, 99, 99, [])), (13, (0, 0, 2000, [])), (15, (0, -2147483648, 2147483647, [])), (18, (0, 0, 2000, []))] : List (Nat × tv_T)), tv_ok ta q.2 (n_v vs q.1) := hk
  obtain ⟨t0, hk⟩ := List.forall_mem_cons.mp hk
  have t0 : tv_ok ta (2, 0, 0, [150]) (n_v vs 0) := t0
  have r0 : ta (v_ad (n_v vs 0)) = some 150 := tv_rg t0
  obtain ⟨t1, hk⟩ := List.forall_mem_cons.mp hk
  have t1 : tv_ok ta (0, 0, 0, []) (n_v vs 1) := t1
  have k1 : 0 ≤ v_iv (n_v vs 1) ∧ v_iv (n_v vs 1) ≤ 0 := tv_rng t1
  obtain ⟨t3, hk⟩ := List.forall_mem_cons.mp hk
  have t3 : tv_ok ta (0, 0, 2000, []) (n_v vs 3) := t3
  have k3 : 0 ≤ v_iv (n_v vs 3) ∧ v_iv (n_v vs 3) ≤ 2000 := tv_rng t3
  obtain ⟨t6, hk⟩ := List.forall_mem_cons.mp hk
  have t6 : tv_ok ta (0, 0, 2000, []) (n_v vs 6) := t6
  have k6 : 0 ≤ v_iv (n_v vs 6) ∧ v_iv (n_v vs 6) ≤ 2000 := tv_rng t6
  obtain ⟨t8, hk⟩ := List.forall_mem_cons.mp hk
  have t8 : tv_ok ta (0, 0, 2000, []) (n_v vs 8) := t8
  have k8 : 0 ≤ v_iv (n_v vs 8) ∧ v_iv (n_v vs 8) ≤ 2000 := tv_rng t8
  obtain ⟨t12, hk⟩ := List.forall_mem_cons.mp hk
  have t12 : tv_ok ta (0, 99, 99, []) (n_v vs 12) := t12
  have k12 : 99 ≤ v_iv (n_v vs 12) ∧ v_iv (n_v vs 12) ≤ 99 := tv_rng t12
  obtain ⟨t13, hk⟩ := List.forall_mem_cons.mp hk
  have t13 : tv_ok ta (0, 0, 2000, []) (n_v vs 13) := t13
  have k13 : 0 ≤ v_iv (n_v vs 13) ∧ v_iv (n_v vs 13) ≤ 2000 := tv_rng t13
  obtain ⟨t15, hk⟩ := List.forall_mem_cons.mp hk
  have t15 : tv_ok ta (0, -2147483648, 2147483647, []) (n_v vs 15) := t15
  have k15 : (-2147483648) ≤ v_iv (n_v vs 15) ∧ v_iv (n_v vs 15) ≤ 2147483647 := tv_rng t15
  obtain ⟨t18, hk⟩ := List.forall_mem_cons.mp hk
  have t18 : tv_ok ta (0, 0, 2000, []) (n_v vs 18) := t18
  have k18 : 0 ≤ v_iv (n_v vs 18) ∧ v_iv (n_v vs 18) ≤ 2000 := tv_rng t18
  have hf : fc_ok [(23, [18, 3], [0, 1, -1]), (23, [18, 3], [0, -1, 1]), (23, [13, 3], [0, 1, -1]), (23, [13, 3], [0, -1, 1]), (23, [8, 3], [0, 1, -1]), (23, [8, 3], [0, -1, 1]), (23, [6, 3], [0, 1, -1]), (23, [6, 3], [0, -1, 1]), (20, [1, 0], [50, 1, 1, 1005, 1002, 0, 6, 4, 2, 1, 0, 0, 1, 3, 1, 2, 4, 3, 2, 1, 5, 0, 2]), (20, [15, 12], [30, 0, 1, 0, 0, -1, 0, 0]), (20, [15], [30, 0, -1, 0, 0]), (20, [0, 0], [30, 0, 1, 1, 15, -1, 1, 11]), (20, [0], [50, 3, 0, 12, 11, 15, 2, 21, 4, 7, 1, 3, 2, 0, 12, 0, 1, 0, 3, 2, 0, 11, 4, 3, 2, 0, 15, 0, 8, 3, 7, 1, 3, 2, 0, 12, 0, 0, 0, 7, 4, 3, 2, 0, 15, 0, 1, 2, 0, 11]), (20, [18, 0], [30, 0, 1, 0, 0, -1, 1, 11]), (20, [0, 18], [50, 2, 0, 8, 11, 3, 7, 0, 2, 0, 1, 2, 0, 8, 0, 6, 4, 2, 1, 1, 0, 1, 2, 0, 11]), (102, [18], [0, 13008, 13009, 13011, 13012, 13013, 13014, 13015]), (23, [18, 3], [0, 1, -1]), (23, [18, 3], [0, -1, 1]), (23, [13, 3], [0, 1, -1]), (23, [13, 3], [0, -1, 1]), (23, [8, 3], [0, 1, -1]), (23, [8, 3], [0, -1, 1]), (23, [6, 3], [0, 1, -1]), (23, [6, 3], [0, -1, 1]), (102, [14], [0, 13008, 13009, 13011, 13012, 13013, 13014, 13015]), (23, [13, 3], [0, 1, -1]), (23, [13, 3], [0, -1, 1]), (23, [8, 3], [0, 1, -1]), (23, [8, 3], [0, -1, 1]), (23, [6, 3], [0, 1, -1]), (23, [6, 3], [0, -1, 1]), (102, [9], [5708990770823839524233143877797980545530986496, 13008, 13009, 13011, 13012, 13013, 13014, 13015]), (23, [8, 3], [0, 1, -1]), (23, [8, 3], [0, -1, 1]), (23, [6, 3], [0, 1, -1]), (23, [6, 3], [0, -1, 1]), (102, [6], [0, 13011, 13012, 13013, 13014, 13015]), (23, [6, 3], [0, 1, -1]), (23, [6, 3], [0, -1, 1])] ta ws vs := hf
  obtain ⟨f0, hf⟩ := fc_un (show (23 : Nat) < 100 from by decide) hf
  have f0 : 1 * v_iv (n_v vs 18) + ((-1) * v_iv (n_v vs 3) + 0) ≤ 0 := f0
  obtain ⟨f1, hf⟩ := fc_un (show (23 : Nat) < 100 from by decide) hf
  have f1 : (-1) * v_iv (n_v vs 18) + (1 * v_iv (n_v vs 3) + 0) ≤ 0 := f1
  obtain ⟨f2, hf⟩ := fc_un (show (23 : Nat) < 100 from by decide) hf
  have f2 : 1 * v_iv (n_v vs 13) + ((-1) * v_iv (n_v vs 3) + 0) ≤ 0 := f2
  obtain ⟨f3, hf⟩ := fc_un (show (23 : Nat) < 100 from by decide) hf
  have f3 : (-1) * v_iv (n_v vs 13) + (1 * v_iv (n_v vs 3) + 0) ≤ 0 := f3
  obtain ⟨f4, hf⟩ := fc_un (show (23 : Nat) < 100 from by decide) hf
  have f4 : 1 * v_iv (n_v vs 8) + ((-1) * v_iv (n_v vs 3) + 0) ≤ 0 := f4
  obtain ⟨f5, hf⟩ := fc_un (show (23 : Nat) < 100 from by decide) hf
  have f5 : (-1) * v_iv (n_v vs 8) + (1 * v_iv (n_v vs 3) + 0) ≤ 0 := f5
  obtain ⟨f6, hf⟩ := fc_un (show (23 : Nat) < 100 from by decide) hf
  have f6 : 1 * v_iv (n_v vs 6) + ((-1) * v_iv (n_v vs 3) + 0) ≤ 0 := f6
  obtain ⟨f7, hf⟩ := fc_un (show (23 : Nat) < 100 from by decide) hf
  have f7 : (-1) * v_iv (n_v vs 6) + (1 * v_iv (n_v vs 3) + 0) ≤ 0 := f7
  obtain ⟨f8, hf⟩ := fc_un (show (20 : Nat) < 100 from by decide) hf
  have f8 : (v_iv (n_v vs 1) + 1) ≤ w_ei ws (w_ar ws (n_v vs 0) 2) ((w_fi ws (n_v vs 0) 5 + 2)) := f8
  obtain ⟨f9, hf⟩ := fc_un (show (20 : Nat) < 100 from by decide) hf
  have f9 : 1 * v_iv (n_v vs 15) + ((-1) * v_iv (n_v vs 12) + 0) ≤ 0 := f9
  obtain ⟨f10, hf⟩ := fc_un (show (20 : Nat) < 100 from by decide) hf
  have f10 : (-1) * v_iv (n_v vs 15) + 0 ≤ 0 := f10
  obtain ⟨f11, hf⟩ := fc_un (show (20 : Nat) < 100 from by decide) hf
  have f11 : 1 * w_fi ws (n_v vs 0) 15 + ((-1) * w_fi ws (n_v vs 0) 11 + 0) ≤ 0 := f11
  obtain ⟨f12, hf⟩ := fc_un (show (20 : Nat) < 100 from by decide) hf
  have f12 : ((w_fi ws (n_v vs 0) 12 = 1) → (w_fi ws (n_v vs 0) 11 ≤ (w_fi ws (n_v vs 0) 15 + 8))) ∧ ((w_fi ws (n_v vs 0) 12 = 0) ∨ ((w_fi ws (n_v vs 0) 15 + 1) ≤ w_fi ws (n_v vs 0) 11)) := f12
  obtain ⟨f13, hf⟩ := fc_un (show (20 : Nat) < 100 from by decide) hf
  have f13 : 1 * v_iv (n_v vs 18) + ((-1) * w_fi ws (n_v vs 0) 11 + 0) ≤ 0 := f13
  obtain ⟨f14, hf⟩ := fc_un (show (20 : Nat) < 100 from by decide) hf
  have f14 : (1 ≤ w_fi ws (n_v vs 0) 8) ∨ ((v_iv (n_v vs 18) + 1) ≤ w_fi ws (n_v vs 0) 11) := f14
  obtain ⟨ta1, w1, le1, ⟨_, s1⟩, hf⟩ := fc_us (show ¬ (102 : Nat) < 100 from by decide) hf
  obtain ⟨f16, hf⟩ := fc_un (show (23 : Nat) < 100 from by decide) hf
  have f16 : 1 * v_iv (n_v vs 18) + ((-1) * v_iv (n_v vs 3) + 0) ≤ 0 := f16
  obtain ⟨f17, hf⟩ := fc_un (show (23 : Nat) < 100 from by decide) hf
  have f17 : (-1) * v_iv (n_v vs 18) + (1 * v_iv (n_v vs 3) + 0) ≤ 0 := f17
  obtain ⟨f18, hf⟩ := fc_un (show (23 : Nat) < 100 from by decide) hf
  have f18 : 1 * v_iv (n_v vs 13) + ((-1) * v_iv (n_v vs 3) + 0) ≤ 0 := f18
  obtain ⟨f19, hf⟩ := fc_un (show (23 : Nat) < 100 from by decide) hf
  have f19 : (-1) * v_iv (n_v vs 13) + (1 * v_iv (n_v vs 3) + 0) ≤ 0 := f19
  obtain ⟨f20, hf⟩ := fc_un (show (23 : Nat) < 100 from by decide) hf
  have f20 : 1 * v_iv (n_v vs 8) + ((-1) * v_iv (n_v vs 3) + 0) ≤ 0 := f20
  obtain ⟨f21, hf⟩ := fc_un (show (23 : Nat) < 100 from by decide) hf
  have f21 : (-1) * v_iv (n_v vs 8) + (1 * v_iv (n_v vs 3) + 0) ≤ 0 := f21
  obtain ⟨f22, hf⟩ := fc_un (show (23 : Nat) < 100 from by decide) hf
  have f22 : 1 * v_iv (n_v vs 6) + ((-1) * v_iv (n_v vs 3) + 0) ≤ 0 := f22
  obtain ⟨f23, hf⟩ := fc_un (show (23 : Nat) < 100 from by decide) hf
  have f23 : (-1) * v_iv (n_v vs 6) + (1 * v_iv (n_v vs 3) + 0) ≤ 0 := f23
  obtain ⟨ta2, w2, le2, ⟨_, s2⟩, hf⟩ := fc_us (show ¬ (102 : Nat) < 100 from by decide) hf
  obtain ⟨f25, hf⟩ := fc_un (show (23 : Nat) < 100 from by decide) hf
  have f25 : 1 * v_iv (n_v vs 13) + ((-1) * v_iv (n_v vs 3) + 0) ≤ 0 := f25
  obtain ⟨f26, hf⟩ := fc_un (show (23 : Nat) < 100 from by decide) hf
  have f26 : (-1) * v_iv (n_v vs 13) + (1 * v_iv (n_v vs 3) + 0) ≤ 0 := f26
  obtain ⟨f27, hf⟩ := fc_un (show (23 : Nat) < 100 from by decide) hf
  have f27 : 1 * v_iv (n_v vs 8) + ((-1) * v_iv (n_v vs 3) + 0) ≤ 0 := f27
  obtain ⟨f28, hf⟩ := fc_un (show (23 : Nat) < 100 from by decide) hf
  have f28 : (-1) * v_iv (n_v vs 8) + (1 * v_iv (n_v vs 3) + 0) ≤ 0 := f28
  obtain ⟨f29, hf⟩ := fc_un (show (23 : Nat) < 100 from by decide) hf
  have f29 : 1 * v_iv (n_v vs 6) + ((-1) * v_iv (n_v vs 3) + 0) ≤ 0 := f29
  obtain ⟨f30, hf⟩ := fc_un (show (23 : Nat) < 100 from by decide) hf
  have f30 : (-1) * v_iv (n_v vs 6) + (1 * v_iv (n_v vs 3) + 0) ≤ 0 := f30
  obtain ⟨ta3, w3, le3, ⟨_, s3⟩, hf⟩ := fc_us (show ¬ (102 : Nat) < 100 from by decide) hf
  obtain ⟨f32, hf⟩ := fc_un (show (23 : Nat) < 100 from by decide) hf
  have f32 : 1 * v_iv (n_v vs 8) + ((-1) * v_iv (n_v vs 3) + 0) ≤ 0 := f32
  obtain ⟨f33, hf⟩ := fc_un (show (23 : Nat) < 100 from by decide) hf
  have f33 : (-1) * v_iv (n_v vs 8) + (1 * v_iv (n_v vs 3) + 0) ≤ 0 := f33
  obtain ⟨f34, hf⟩ := fc_un (show (23 : Nat) < 100 from by decide) hf
  have f34 : 1 * v_iv (n_v vs 6) + ((-1) * v_iv (n_v vs 3) + 0) ≤ 0 := f34
  obtain ⟨f35, hf⟩ := fc_un (show (23 : Nat) < 100 from by decide) hf
  have f35 : (-1) * v_iv (n_v vs 6) + (1 * v_iv (n_v vs 3) + 0) ≤ 0 := f35
  obtain ⟨ta4, w4, le4, ⟨_, s4⟩, hf⟩ := fc_us (show ¬ (102 : Nat) < 100 from by decide) hf
  obtain ⟨f37, hf⟩ := fc_un (show (23 : Nat) < 100 from by decide) hf
  have f37 : 1 * v_iv (n_v vs 6) + ((-1) * v_iv (n_v vs 3) + 0) ≤ 0 := f37
  obtain ⟨f38, hf⟩ := fc_un (show (23 : Nat) < 100 from by decide) hf
  have f38 : (-1) * v_iv (n_v vs 6) + (1 * v_iv (n_v vs 3) + 0) ≤ 0 := f38
  have cr_0_2 : ta (w_ar ws (n_v vs 0) 2) = some 152 := tv_rg (th_fd hD hth r0 (g := GG_150) rfl (k := 2) (t := (2, 0, 0, [152])) rfl rfl)
  have kz_0_8 : 0 ≤ w_fi ws (n_v vs 0) 8 ∧ w_fi ws (n_v vs 0) 8 ≤ 5 := tv_rng (th_fd hD hth r0 (g := GG_150) rfl (k := 8) (t := (0, 0, 5, [])) rfl rfl)
  have kz_0_11 : 0 ≤ w_fi ws (n_v vs 0) 11 ∧ w_fi ws (n_v vs 0) 11 ≤ 2000 := tv_rng (th_fd hD hth r0 (g := GG_150) rfl (k := 11) (t := (0, 0, 2000, [])) rfl rfl)
  have kz_0_12 : 0 ≤ w_fi ws (n_v vs 0) 12 ∧ w_fi ws (n_v vs 0) 12 ≤ 4 := tv_rng (th_fd hD hth r0 (g := GG_150) rfl (k := 12) (t := (0, 0, 4, [])) rfl rfl)
  have kz_0_15 : 0 ≤ w_fi ws (n_v vs 0) 15 ∧ w_fi ws (n_v vs 0) 15 ≤ 2000 := tv_rng (th_fd hD hth r0 (g := GG_150) rfl (k := 15) (t := (0, 0, 2000, [])) rfl rfl)
  have nf0 : fc_1 (20, [3, 0], [30, 0, 1, 0, 0, -1, 1, 11]) ws (vs) := by
    refine ⟨fun n hn => ?_, ?_⟩
    · have hn : n ∈ [3, 0] := hn
      rw [hl]
      simp only [List.mem_cons, List.not_mem_nil, or_false] at hn
      show n < 19; omega
    · show 1 * v_iv (n_v vs 3) + ((-1) * w_fi ws (n_v vs 0) 11 + 0) ≤ 0
      omega
  have nf1 : fc_1 (20, [0, 3], [50, 2, 0, 8, 11, 3, 7, 0, 2, 0, 1, 2, 0, 8, 0, 6, 4, 2, 1, 1, 0, 1, 2, 0, 11]) ws (vs) := by
    refine ⟨fun n hn => ?_, ?_⟩
    · have hn : n ∈ [0, 3] := hn
      rw [hl]
      simp only [List.mem_cons, List.not_mem_nil, or_false] at hn
      show n < 19; omega
    · show (1 ≤ w_fi ws (n_v vs 0) 8) ∨ ((v_iv (n_v vs 3) + 1) ≤ w_fi ws (n_v vs 0) 11)
      first | omega | grind
  refine ⟨(fun _ h => (by cases h)), [], trivial, ?_, (fun _ h => (by cases h))⟩
  rw [List.append_nil]
  exact List.forall_mem_cons.mpr ⟨⟨show (20 : Nat) < 100 from by decide, nf0⟩, List.forall_mem_cons.mpr ⟨⟨show (20 : Nat) < 100 from by decide, nf1⟩, (fun _ h => (by cases h))⟩⟩
def o_Mo_item_at_k0_8 : or_T := (64, 18, [(0, (2, 0, 0, [150])), (1, (0, 0, 0, [])), (3, (0, 0, 2000, [])), (6, (0, 0, 2000, [])), (8, (0, 0, 2000, [])), (10, (0, -1, 23, [])), (12, (0, 99, 99, [])), (13, (0, 0, 2000, [])), (14, (0, -1, 48, [])), (15, (0, -2147483648, 0, [])), (16, (0, 0, 0, []))], [(8, [15], [5]), (8, [16], [0]), (9, [16, 0], [8]), (23, [13, 3], [0, 1, -1]), (23, [13, 3], [0, -1, 1]), (23, [14, 10], [0, 1, -1]), (23, [14, 10], [0, -1, 1]), (23, [8, 3], [0, 1, -1]), (23, [8, 3], [0, -1, 1]), (23, [6, 3], [0, 1, -1]), (23, [6, 3], [0, -1, 1]), (20, [1, 0], [50, 1, 1, 1005, 1002, 0, 6, 4, 2, 1, 0, 0, 1, 3, 1, 2, 4, 3, 2, 1, 5, 0, 2]), (20, [0, 0], [30, 0, 1, 1, 15, -1, 1, 11]), (20, [0], [50, 3, 0, 12, 11, 15, 2, 21, 4, 7, 1, 3, 2, 0, 12, 0, 1, 0, 3, 2, 0, 11, 4, 3, 2, 0, 15, 0, 8, 3, 7, 1, 3, 2, 0, 12, 0, 0, 0, 7, 4, 3, 2, 0, 15, 0, 1, 2, 0, 11]), (20, [13, 0], [30, 0, 1, 0, 0, -1, 1, 11]), (20, [0, 13], [50, 3, 0, 8, 12, 11, 3, 7, 0, 2, 0, 1, 2, 0, 8, 3, 7, 1, 3, 2, 0, 12, 0, 0, 0, 6, 4, 2, 1, 1, 0, 1, 2, 0, 11]), (20, [0, 14], [50, 1, 0, 8, 3, 7, 0, 2, 0, 1, 2, 0, 8, 0, 2, 0, 0, 1, 1]), (20, [15, 12], [30, 0, 1, 0, 0, -1, 0, 0]), (20, [15], [30, 0, -1, 0, 0]), (102, [14], [0, 13008, 13009, 13011, 13012, 13013, 13014, 13015]), (23, [13, 3], [0, 1, -1]), (23, [13, 3], [0, -1, 1]), (23, [14, 10], [0, 1, -1]), (23, [14, 10], [0, -1, 1]), (23, [8, 3], [0, 1, -1]), (23, [8, 3], [0, -1, 1]), (23, [6, 3], [0, 1, -1]), (23, [6, 3], [0, -1, 1]), (102, [9], [5708990770823839524233143877797980545530986496, 13008, 13009, 13011, 13012, 13013, 13014, 13015]), (23, [8, 3], [0, 1, -1]), (23, [8, 3], [0, -1, 1]), (23, [6, 3], [0, 1, -1]), (23, [6, 3], [0, -1, 1]), (102, [6], [0, 13011, 13012, 13013, 13014, 13015]), (23, [6, 3], [0, 1, -1]), (23, [6, 3], [0, -1, 1])], [], [(0, 0, 2000, [])], [(23, [18, 3], [0, 1, -1]), (23, [18, 3], [0, -1, 1]), (20, [0, 0], [30, 0, 1, 1, 15, -1, 1, 11]), (20, [0], [50, 3, 0, 12, 11, 15, 2, 21, 4, 7, 1, 3, 2, 0, 12, 0, 1, 0, 3, 2, 0, 11, 4, 3, 2, 0, 15, 0, 8, 3, 7, 1, 3, 2, 0, 12, 0, 0, 0, 7, 4, 3, 2, 0, 15, 0, 1, 2, 0, 11]), (20, [18, 0], [30, 0, 1, 0, 0, -1, 1, 11]), (20, [0, 18], [50, 3, 0, 8, 12, 11, 3, 7, 0, 2, 0, 1, 2, 0, 8, 3, 7, 1, 3, 2, 0, 12, 0, 0, 0, 6, 4, 2, 1, 1, 0, 1, 2, 0, 11])], [], [])
theorem oo_Mo_item_at_k0_8 {kA : Nat → ClassId} : or_ok kA GG o_Mo_item_at_k0_8 := by
  intro A ta ws vs hD hth hl hk hds hf
  have hl : vs.length = 18 := hl
  have hk : ∀ q ∈ ([(0, (2, 0, 0, [150])), (1, (0, 0, 0, [])), (3, (0, 0, 2000, [])), (6, (0, 0, 2000, [])), (8, (0, 0, 2000, [])), (10, (0, -1, 23, [])), (12, (0, 99, 99, [])), (13, (0, 0, 2000, [])), (14, (0, -1, 48, [])), (15, (0, -2147483648, 0, [])), (16, (0, 0, 0, []))] : List (Nat × tv_T)), tv_ok ta q.2 (n_v vs q.1) := hk
  obtain ⟨t0, hk⟩ := List.forall_mem_cons.mp hk
  have t0 : tv_ok ta (2, 0, 0, [150]) (n_v vs 0) := t0
  have r0 : ta (v_ad (n_v vs 0)) = some 150 := tv_rg t0
  obtain ⟨t1, hk⟩ := List.forall_mem_cons.mp hk
  have t1 : tv_ok ta (0, 0, 0, []) (n_v vs 1) := t1
  have k1 : 0 ≤ v_iv (n_v vs 1) ∧ v_iv (n_v vs 1) ≤ 0 := tv_rng t1
  obtain ⟨t3, hk⟩ := List.forall_mem_cons.mp hk
  have t3 : tv_ok ta (0, 0, 2000, []) (n_v vs 3) := t3
  have k3 : 0 ≤ v_iv (n_v vs 3) ∧ v_iv (n_v vs 3) ≤ 2000 := tv_rng t3
  obtain ⟨t6, hk⟩ := List.forall_mem_cons.mp hk
  have t6 : tv_ok ta (0, 0, 2000, []) (n_v vs 6) := t6
  have k6 : 0 ≤ v_iv (n_v vs 6) ∧ v_iv (n_v vs 6) ≤ 2000 := tv_rng t6
  obtain ⟨t8, hk⟩ := List.forall_mem_cons.mp hk
  have t8 : tv_ok ta (0, 0, 2000, []) (n_v vs 8) := t8
  have k8 : 0 ≤ v_iv (n_v vs 8) ∧ v_iv (n_v vs 8) ≤ 2000 := tv_rng t8
  obtain ⟨t10, hk⟩ := List.forall_mem_cons.mp hk
  have t10 : tv_ok ta (0, -1, 23, []) (n_v vs 10) := t10
  have k10 : (-1) ≤ v_iv (n_v vs 10) ∧ v_iv (n_v vs 10) ≤ 23 := tv_rng t10
  obtain ⟨t12, hk⟩ := List.forall_mem_cons.mp hk
  have t12 : tv_ok ta (0, 99, 99, []) (n_v vs 12) := t12
  have k12 : 99 ≤ v_iv (n_v vs 12) ∧ v_iv (n_v vs 12) ≤ 99 := tv_rng t12
  obtain ⟨t13, hk⟩ := List.forall_mem_cons.mp hk
  have t13 : tv_ok ta (0, 0, 2000, []) (n_v vs 13) := t13
  have k13 : 0 ≤ v_iv (n_v vs 13) ∧ v_iv (n_v vs 13) ≤ 2000 := tv_rng t13
  obtain ⟨t14, hk⟩ := List.forall_mem_cons.mp hk
  have t14 : tv_ok ta (0, -1, 48, []) (n_v vs 14) := t14
  have k14 : (-1) ≤ v_iv (n_v vs 14) ∧ v_iv (n_v vs 14) ≤ 48 := tv_rng t14
  obtain ⟨t15, hk⟩ := List.forall_mem_cons.mp hk
  have t15 : tv_ok ta (0, -2147483648, 0, []) (n_v vs 15) := t15
  have k15 : (-2147483648) ≤ v_iv (n_v vs 15) ∧ v_iv (n_v vs 15) ≤ 0 := tv_rng t15
  obtain ⟨t16, hk⟩ := List.forall_mem_cons.mp hk
  have t16 : tv_ok ta (0, 0, 0, []) (n_v vs 16) := t16
  have k16 : 0 ≤ v_iv (n_v vs 16) ∧ v_iv (n_v vs 16) ≤ 0 := tv_rng t16
  have hf : fc_ok [(8, [15], [5]), (8, [16], [0]), (9, [16, 0], [8]), (23, [13, 3], [0, 1, -1]), (23, [13, 3], [0, -1, 1]), (23, [14, 10], [0, 1, -1]), (23, [14, 10], [0, -1, 1]), (23, [8, 3], [0, 1, -1]), (23, [8, 3], [0, -1, 1]), (23, [6, 3], [0, 1, -1]), (23, [6, 3], [0, -1, 1]), (20, [1, 0], [50, 1, 1, 1005, 1002, 0, 6, 4, 2, 1, 0, 0, 1, 3, 1, 2, 4, 3, 2, 1, 5, 0, 2]), (20, [0, 0], [30, 0, 1, 1, 15, -1, 1, 11]), (20, [0], [50, 3, 0, 12, 11, 15, 2, 21, 4, 7, 1, 3, 2, 0, 12, 0, 1, 0, 3, 2, 0, 11, 4, 3, 2, 0, 15, 0, 8, 3, 7, 1, 3, 2, 0, 12, 0, 0, 0, 7, 4, 3, 2, 0, 15, 0, 1, 2, 0, 11]), (20, [13, 0], [30, 0, 1, 0, 0, -1, 1, 11]), (20, [0, 13], [50, 3, 0, 8, 12, 11, 3, 7, 0, 2, 0, 1, 2, 0, 8, 3, 7, 1, 3, 2, 0, 12, 0, 0, 0, 6, 4, 2, 1, 1, 0, 1, 2, 0, 11]), (20, [0, 14], [50, 1, 0, 8, 3, 7, 0, 2, 0, 1, 2, 0, 8, 0, 2, 0, 0, 1, 1]), (20, [15, 12], [30, 0, 1, 0, 0, -1, 0, 0]), (20, [15], [30, 0, -1, 0, 0]), (102, [14], [0, 13008, 13009, 13011, 13012, 13013, 13014, 13015]), (23, [13, 3], [0, 1, -1]), (23, [13, 3], [0, -1, 1]), (23, [14, 10], [0, 1, -1]), (23, [14, 10], [0, -1, 1]), (23, [8, 3], [0, 1, -1]), (23, [8, 3], [0, -1, 1]), (23, [6, 3], [0, 1, -1]), (23, [6, 3], [0, -1, 1]), (102, [9], [5708990770823839524233143877797980545530986496, 13008, 13009, 13011, 13012, 13013, 13014, 13015]), (23, [8, 3], [0, 1, -1]), (23, [8, 3], [0, -1, 1]), (23, [6, 3], [0, 1, -1]), (23, [6, 3], [0, -1, 1]), (102, [6], [0, 13011, 13012, 13013, 13014, 13015]), (23, [6, 3], [0, 1, -1]), (23, [6, 3], [0, -1, 1])] ta ws vs := hf
  obtain ⟨f0, hf⟩ := fc_un (show (8 : Nat) < 100 from by decide) hf
  have f0 : v_iv (n_v vs 15) ≤ 0 := f0
  obtain ⟨f1, hf⟩ := fc_un (show (8 : Nat) < 100 from by decide) hf
  have f1 : v_iv (n_v vs 16) = 0 := f1
  obtain ⟨f2, hf⟩ := fc_un (show (9 : Nat) < 100 from by decide) hf
  have f2 : n_v vs 16 = w_fd ws (v_ad (n_v vs 0)) 8 := f2
  obtain ⟨f3, hf⟩ := fc_un (show (23 : Nat) < 100 from by decide) hf
  have f3 : 1 * v_iv (n_v vs 13) + ((-1) * v_iv (n_v vs 3) + 0) ≤ 0 := f3
  obtain ⟨f4, hf⟩ := fc_un (show (23 : Nat) < 100 from by decide) hf
  have f4 : (-1) * v_iv (n_v vs 13) + (1 * v_iv (n_v vs 3) + 0) ≤ 0 := f4
  obtain ⟨f5, hf⟩ := fc_un (show (23 : Nat) < 100 from by decide) hf
  have f5 : 1 * v_iv (n_v vs 14) + ((-1) * v_iv (n_v vs 10) + 0) ≤ 0 := f5
  obtain ⟨f6, hf⟩ := fc_un (show (23 : Nat) < 100 from by decide) hf
  have f6 : (-1) * v_iv (n_v vs 14) + (1 * v_iv (n_v vs 10) + 0) ≤ 0 := f6
  obtain ⟨f7, hf⟩ := fc_un (show (23 : Nat) < 100 from by decide) hf
  have f7 : 1 * v_iv (n_v vs 8) + ((-1) * v_iv (n_v vs 3) + 0) ≤ 0 := f7
  obtain ⟨f8, hf⟩ := fc_un (show (23 : Nat) < 100 from by decide) hf
  have f8 : (-1) * v_iv (n_v vs 8) + (1 * v_iv (n_v vs 3) + 0) ≤ 0 := f8
  obtain ⟨f9, hf⟩ := fc_un (show (23 : Nat) < 100 from by decide) hf
  have f9 : 1 * v_iv (n_v vs 6) + ((-1) * v_iv (n_v vs 3) + 0) ≤ 0 := f9
  obtain ⟨f10, hf⟩ := fc_un (show (23 : Nat) < 100 from by decide) hf
  have f10 : (-1) * v_iv (n_v vs 6) + (1 * v_iv (n_v vs 3) + 0) ≤ 0 := f10
  obtain ⟨f11, hf⟩ := fc_un (show (20 : Nat) < 100 from by decide) hf
  have f11 : (v_iv (n_v vs 1) + 1) ≤ w_ei ws (w_ar ws (n_v vs 0) 2) ((w_fi ws (n_v vs 0) 5 + 2)) := f11
  obtain ⟨f12, hf⟩ := fc_un (show (20 : Nat) < 100 from by decide) hf
  have f12 : 1 * w_fi ws (n_v vs 0) 15 + ((-1) * w_fi ws (n_v vs 0) 11 + 0) ≤ 0 := f12
  obtain ⟨f13, hf⟩ := fc_un (show (20 : Nat) < 100 from by decide) hf
  have f13 : ((w_fi ws (n_v vs 0) 12 = 1) → (w_fi ws (n_v vs 0) 11 ≤ (w_fi ws (n_v vs 0) 15 + 8))) ∧ ((w_fi ws (n_v vs 0) 12 = 0) ∨ ((w_fi ws (n_v vs 0) 15 + 1) ≤ w_fi ws (n_v vs 0) 11)) := f13
  obtain ⟨f14, hf⟩ := fc_un (show (20 : Nat) < 100 from by decide) hf
  have f14 : 1 * v_iv (n_v vs 13) + ((-1) * w_fi ws (n_v vs 0) 11 + 0) ≤ 0 := f14
  obtain ⟨f15, hf⟩ := fc_un (show (20 : Nat) < 100 from by decide) hf
  have f15 : (1 ≤ w_fi ws (n_v vs 0) 8) ∨ ((w_fi ws (n_v vs 0) 12 = 0) ∨ ((v_iv (n_v vs 13) + 1) ≤ w_fi ws (n_v vs 0) 11)) := f15
  obtain ⟨f16, hf⟩ := fc_un (show (20 : Nat) < 100 from by decide) hf
  have f16 : (1 ≤ w_fi ws (n_v vs 0) 8) ∨ (0 ≤ v_iv (n_v vs 14)) := f16
  obtain ⟨f17, hf⟩ := fc_un (show (20 : Nat) < 100 from by decide) hf
  have f17 : 1 * v_iv (n_v vs 15) + ((-1) * v_iv (n_v vs 12) + 0) ≤ 0 := f17
  obtain ⟨f18, hf⟩ := fc_un (show (20 : Nat) < 100 from by decide) hf
  have f18 : (-1) * v_iv (n_v vs 15) + 0 ≤ 0 := f18
  obtain ⟨ta1, w1, le1, ⟨_, s1⟩, hf⟩ := fc_us (show ¬ (102 : Nat) < 100 from by decide) hf
  obtain ⟨f20, hf⟩ := fc_un (show (23 : Nat) < 100 from by decide) hf
  have f20 : 1 * v_iv (n_v vs 13) + ((-1) * v_iv (n_v vs 3) + 0) ≤ 0 := f20
  obtain ⟨f21, hf⟩ := fc_un (show (23 : Nat) < 100 from by decide) hf
  have f21 : (-1) * v_iv (n_v vs 13) + (1 * v_iv (n_v vs 3) + 0) ≤ 0 := f21
  obtain ⟨f22, hf⟩ := fc_un (show (23 : Nat) < 100 from by decide) hf
  have f22 : 1 * v_iv (n_v vs 14) + ((-1) * v_iv (n_v vs 10) + 0) ≤ 0 := f22
  obtain ⟨f23, hf⟩ := fc_un (show (23 : Nat) < 100 from by decide) hf
  have f23 : (-1) * v_iv (n_v vs 14) + (1 * v_iv (n_v vs 10) + 0) ≤ 0 := f23
  obtain ⟨f24, hf⟩ := fc_un (show (23 : Nat) < 100 from by decide) hf
  have f24 : 1 * v_iv (n_v vs 8) + ((-1) * v_iv (n_v vs 3) + 0) ≤ 0 := f24
  obtain ⟨f25, hf⟩ := fc_un (show (23 : Nat) < 100 from by decide) hf
  have f25 : (-1) * v_iv (n_v vs 8) + (1 * v_iv (n_v vs 3) + 0) ≤ 0 := f25
  obtain ⟨f26, hf⟩ := fc_un (show (23 : Nat) < 100 from by decide) hf
  have f26 : 1 * v_iv (n_v vs 6) + ((-1) * v_iv (n_v vs 3) + 0) ≤ 0 := f26
  obtain ⟨f27, hf⟩ := fc_un (show (23 : Nat) < 100 from by decide) hf
  have f27 : (-1) * v_iv (n_v vs 6) + (1 * v_iv (n_v vs 3) + 0) ≤ 0 := f27
  obtain ⟨ta2, w2, le2, ⟨_, s2⟩, hf⟩ := fc_us (show ¬ (102 : Nat) < 100 from by decide) hf
  obtain ⟨f29, hf⟩ := fc_un (show (23 : Nat) < 100 from by decide) hf
  have f29 : 1 * v_iv (n_v vs 8) + ((-1) * v_iv (n_v vs 3) + 0) ≤ 0 := f29
  obtain ⟨f30, hf⟩ := fc_un (show (23 : Nat) < 100 from by decide) hf
  have f30 : (-1) * v_iv (n_v vs 8) + (1 * v_iv (n_v vs 3) + 0) ≤ 0 := f30
  obtain ⟨f31, hf⟩ := fc_un (show (23 : Nat) < 100 from by decide) hf
  have f31 : 1 * v_iv (n_v vs 6) + ((-1) * v_iv (n_v vs 3) + 0) ≤ 0 := f31
  obtain ⟨f32, hf⟩ := fc_un (show (23 : Nat) < 100 from by decide) hf
  have f32 : (-1) * v_iv (n_v vs 6) + (1 * v_iv (n_v vs 3) + 0) ≤ 0 := f32
  obtain ⟨ta3, w3, le3, ⟨_, s3⟩, hf⟩ := fc_us (show ¬ (102 : Nat) < 100 from by decide) hf
  obtain ⟨f34, hf⟩ := fc_un (show (23 : Nat) < 100 from by decide) hf
  have f34 : 1 * v_iv (n_v vs 6) + ((-1) * v_iv (n_v vs 3) + 0) ≤ 0 := f34
  obtain ⟨f35, hf⟩ := fc_un (show (23 : Nat) < 100 from by decide) hf
  have f35 : (-1) * v_iv (n_v vs 6) + (1 * v_iv (n_v vs 3) + 0) ≤ 0 := f35
  have cr_0_2 : ta (w_ar ws (n_v vs 0) 2) = some 152 := tv_rg (th_fd hD hth r0 (g := GG_150) rfl (k := 2) (t := (2, 0, 0, [152])) rfl rfl)
  have g2 : v_iv (n_v vs 16) = w_fi ws (n_v vs 0) 8 := congrArg v_iv f2
  have kz_0_8 : 0 ≤ w_fi ws (n_v vs 0) 8 ∧ w_fi ws (n_v vs 0) 8 ≤ 5 := tv_rng (th_fd hD hth r0 (g := GG_150) rfl (k := 8) (t := (0, 0, 5, [])) rfl rfl)
  have kz_0_11 : 0 ≤ w_fi ws (n_v vs 0) 11 ∧ w_fi ws (n_v vs 0) 11 ≤ 2000 := tv_rng (th_fd hD hth r0 (g := GG_150) rfl (k := 11) (t := (0, 0, 2000, [])) rfl rfl)
  have kz_0_12 : 0 ≤ w_fi ws (n_v vs 0) 12 ∧ w_fi ws (n_v vs 0) 12 ≤ 4 := tv_rng (th_fd hD hth r0 (g := GG_150) rfl (k := 12) (t := (0, 0, 4, [])) rfl rfl)
  have kz_0_15 : 0 ≤ w_fi ws (n_v vs 0) 15 ∧ w_fi ws (n_v vs 0) 15 ≤ 2000 := tv_rng (th_fd hD hth r0 (g := GG_150) rfl (k := 15) (t := (0, 0, 2000, [])) rfl rfl)
  obtain ⟨x, ex, hx⟩ := iv_ex (ta := ta) (lo := 0) (hi := 2000) (z := v_iv (n_v vs 3)) (by omega) (by omega) (by omega) (by omega)
  have ex2 : v_iv (Value.int x) = v_iv (n_v vs 3) := ex
  have ex3 : 0 ≤ v_iv (Value.int x) ∧ v_iv (Value.int x) ≤ 2000 := tv_rng hx
  have e_0 : n_v (vs ++ [Value.int x]) 0 = n_v vs 0 := n_v_old (by rw [hl]; decide)
  have e_3 : n_v (vs ++ [Value.int x]) 3 = n_v vs 3 := n_v_old (by rw [hl]; decide)
  have e_18 : n_v (vs ++ [Value.int x]) 18 = Value.int x := n_v_new hl
  have nf0 : fc_1 (23, [18, 3], [0, 1, -1]) ws (vs ++ [Value.int x]) := by
    refine ⟨fun n hn => ?_, ?_⟩
    · have hn : n ∈ [18, 3] := hn
      rw [List.length_append, hl]
      simp only [List.mem_cons, List.not_mem_nil, or_false] at hn
      show n < 18 + 1; omega
    · show 1 * v_iv (n_v (vs ++ [Value.int x]) 18) + ((-1) * v_iv (n_v (vs ++ [Value.int x]) 3) + 0) ≤ 0
      rw [e_3]
      rw [e_18]
      omega
  have nf1 : fc_1 (23, [18, 3], [0, -1, 1]) ws (vs ++ [Value.int x]) := by
    refine ⟨fun n hn => ?_, ?_⟩
    · have hn : n ∈ [18, 3] := hn
      rw [List.length_append, hl]
      simp only [List.mem_cons, List.not_mem_nil, or_false] at hn
      show n < 18 + 1; omega
    · show (-1) * v_iv (n_v (vs ++ [Value.int x]) 18) + (1 * v_iv (n_v (vs ++ [Value.int x]) 3) + 0) ≤ 0
      rw [e_3]
      rw [e_18]
      omega
  have nf2 : fc_1 (20, [0, 0], [30, 0, 1, 1, 15, -1, 1, 11]) ws (vs ++ [Value.int x]) := by
    refine ⟨fun n hn => ?_, ?_⟩
    · have hn : n ∈ [0, 0] := hn
      rw [List.length_append, hl]
      simp only [List.mem_cons, List.not_mem_nil, or_false] at hn
      show n < 18 + 1; omega
    · show 1 * w_fi ws (n_v (vs ++ [Value.int x]) 0) 15 + ((-1) * w_fi ws (n_v (vs ++ [Value.int x]) 0) 11 + 0) ≤ 0
      rw [e_0]
      omega
  have nf3 : fc_1 (20, [0], [50, 3, 0, 12, 11, 15, 2, 21, 4, 7, 1, 3, 2, 0, 12, 0, 1, 0, 3, 2, 0, 11, 4, 3, 2, 0, 15, 0, 8, 3, 7, 1, 3, 2, 0, 12, 0, 0, 0, 7, 4, 3, 2, 0, 15, 0, 1, 2, 0, 11]) ws (vs ++ [Value.int x]) := by
    refine ⟨fun n hn => ?_, ?_⟩
    · have hn : n ∈ [0] := hn
      rw [List.length_append, hl]
      simp only [List.mem_cons, List.not_mem_nil, or_false] at hn
      show n < 18 + 1; omega
    · show ((w_fi ws (n_v (vs ++ [Value.int x]) 0) 12 = 1) → (w_fi ws (n_v (vs ++ [Value.int x]) 0) 11 ≤ (w_fi ws (n_v (vs ++ [Value.int x]) 0) 15 + 8))) ∧ ((w_fi ws (n_v (vs ++ [Value.int x]) 0) 12 = 0) ∨ ((w_fi ws (n_v (vs ++ [Value.int x]) 0) 15 + 1) ≤ w_fi ws (n_v (vs ++ [Value.int x]) 0) 11))
      rw [e_0]
      first | omega | grind
  have nf4 : fc_1 (20, [18, 0], [30, 0, 1, 0, 0, -1, 1, 11]) ws (vs ++ [Value.int x]) := by
    refine ⟨fun n hn => ?_, ?_⟩
    · have hn : n ∈ [18, 0] := hn
      rw [List.length_append, hl]
      simp only [List.mem_cons, List.not_mem_nil, or_false] at hn
      show n < 18 + 1; omega
    · show 1 * v_iv (n_v (vs ++ [Value.int x]) 18) + ((-1) * w_fi ws (n_v (vs ++ [Value.int x]) 0) 11 + 0) ≤ 0
      rw [e_0]
      rw [e_18]
      omega
  have nf5 : fc_1 (20, [0, 18], [50, 3, 0, 8, 12, 11, 3, 7, 0, 2, 0, 1, 2, 0, 8, 3, 7, 1, 3, 2, 0, 12, 0, 0, 0, 6, 4, 2, 1, 1, 0, 1, 2, 0, 11]) ws (vs ++ [Value.int x]) := by
    refine ⟨fun n hn => ?_, ?_⟩
    · have hn : n ∈ [0, 18] := hn
      rw [List.length_append, hl]
      simp only [List.mem_cons, List.not_mem_nil, or_false] at hn
      show n < 18 + 1; omega
    · show (1 ≤ w_fi ws (n_v (vs ++ [Value.int x]) 0) 8) ∨ ((w_fi ws (n_v (vs ++ [Value.int x]) 0) 12 = 0) ∨ ((v_iv (n_v (vs ++ [Value.int x]) 18) + 1) ≤ w_fi ws (n_v (vs ++ [Value.int x]) 0) 11))
      rw [e_0]
      rw [e_18]
      first | omega | grind
  exact ⟨(fun _ h => (by cases h)), [Value.int x], ag_one hx, List.forall_mem_cons.mpr ⟨⟨show (23 : Nat) < 100 from by decide, nf0⟩, List.forall_mem_cons.mpr ⟨⟨show (23 : Nat) < 100 from by decide, nf1⟩, List.forall_mem_cons.mpr ⟨⟨show (20 : Nat) < 100 from by decide, nf2⟩, List.forall_mem_cons.mpr ⟨⟨show (20 : Nat) < 100 from by decide, nf3⟩, List.forall_mem_cons.mpr ⟨⟨show (20 : Nat) < 100 from by decide, nf4⟩, List.forall_mem_cons.mpr ⟨⟨show (20 : Nat) < 100 from by decide, nf5⟩, (fun _ h => (by cases h))⟩⟩⟩⟩⟩⟩, (fun _ h => (by cases h))⟩
def o_Mo_item_at_k0_9 : or_T := (94, 19, [(0, (2, 0, 0, [150])), (1, (0, 0, 0, [])), (3, (0, 0, 2000, [])), (6, (0, 0, 2000, [])), (8, (0, 0, 2000, [])), (12, (0, 99, 99, [])), (13, (0, 0, 2000, [])), (15, (0, -2147483648, 0, [])), (18, (0, 0, 2000, []))], [(23, [18, 3], [0, 1, -1]), (23, [18, 3], [0, -1, 1]), (23, [13, 3], [0, 1, -1]), (23, [13, 3], [0, -1, 1]), (23, [8, 3], [0, 1, -1]), (23, [8, 3], [0, -1, 1]), (23, [6, 3], [0, 1, -1]), (23, [6, 3], [0, -1, 1]), (20, [1, 0], [50, 1, 1, 1005, 1002, 0, 6, 4, 2, 1, 0, 0, 1, 3, 1, 2, 4, 3, 2, 1, 5, 0, 2]), (20, [15, 12], [30, 0, 1, 0, 0, -1, 0, 0]), (20, [15], [30, 0, -1, 0, 0]), (20, [0, 0], [30, 0, 1, 1, 15, -1, 1, 11]), (20, [0], [50, 3, 0, 12, 11, 15, 2, 21, 4, 7, 1, 3, 2, 0, 12, 0, 1, 0, 3, 2, 0, 11, 4, 3, 2, 0, 15, 0, 8, 3, 7, 1, 3, 2, 0, 12, 0, 0, 0, 7, 4, 3, 2, 0, 15, 0, 1, 2, 0, 11]), (20, [18, 0], [30, 0, 1, 0, 0, -1, 1, 11]), (20, [0, 18], [50, 2, 0, 8, 11, 3, 7, 0, 2, 0, 1, 2, 0, 8, 0, 6, 4, 2, 1, 1, 0, 1, 2, 0, 11]), (102, [18], [0, 13008, 13009, 13011, 13012, 13013, 13014, 13015]), (23, [18, 3], [0, 1, -1]), (23, [18, 3], [0, -1, 1]), (8, [15], [5]), (23, [13, 3], [0, 1, -1]), (23, [13, 3], [0, -1, 1]), (23, [8, 3], [0, 1, -1]), (23, [8, 3], [0, -1, 1]), (23, [6, 3], [0, 1, -1]), (23, [6, 3], [0, -1, 1]), (102, [14], [0, 13008, 13009, 13011, 13012, 13013, 13014, 13015]), (23, [13, 3], [0, 1, -1]), (23, [13, 3], [0, -1, 1]), (23, [8, 3], [0, 1, -1]), (23, [8, 3], [0, -1, 1]), (23, [6, 3], [0, 1, -1]), (23, [6, 3], [0, -1, 1]), (102, [9], [5708990770823839524233143877797980545530986496, 13008, 13009, 13011, 13012, 13013, 13014, 13015]), (23, [8, 3], [0, 1, -1]), (23, [8, 3], [0, -1, 1]), (23, [6, 3], [0, 1, -1]), (23, [6, 3], [0, -1, 1]), (102, [6], [0, 13011, 13012, 13013, 13014, 13015]), (23, [6, 3], [0, 1, -1]), (23, [6, 3], [0, -1, 1])], [], [], [(20, [3, 0], [30, 0, 1, 0, 0, -1, 1, 11]), (20, [0, 3], [50, 2, 0, 8, 11, 3, 7, 0, 2, 0, 1, 2, 0, 8, 0, 6, 4, 2, 1, 1, 0, 1, 2, 0, 11])], [], [])
theorem oo_Mo_item_at_k0_9 {kA : Nat → ClassId} : or_ok kA GG o_Mo_item_at_k0_9 := by
  intro A ta ws vs hD hth hl hk hds hf
  have hl : vs.length = 19 := hl
  have hk : ∀ q ∈ ([(0, (2, 0, 0, [150])), (1, (0, 0, 0, [])), (3, (0, 0, 2000, [])), (6, (0, 0, 2000, [])), (8, (0, 0, 2000, [])), (12, (0, 99, 99, [])), (13, (0, 0, 2000, [])), (15, (0, -2147483648, 0, [])), (18, (0, 0, 2000, []))] : List (Nat × tv_T)), tv_ok ta q.2 (n_v vs q.1) := hk
  obtain ⟨t0, hk⟩ := List.forall_mem_cons.mp hk
  have t0 : tv_ok ta (2, 0, 0, [150]) (n_v vs 0) := t0
  have r0 : ta (v_ad (n_v vs 0)) = some 150 := tv_rg t0
  obtain ⟨t1, hk⟩ := List.forall_mem_cons.mp hk
  have t1 : tv_ok ta (0, 0, 0, []) (n_v vs 1) := t1
  have k1 : 0 ≤ v_iv (n_v vs 1) ∧ v_iv (n_v vs 1) ≤ 0 := tv_rng t1
  obtain ⟨t3, hk⟩ := List.forall_mem_cons.mp hk
  have t3 : tv_ok ta (0, 0, 2000, []) (n_v vs 3) := t3
  have k3 : 0 ≤ v_iv (n_v vs 3) ∧ v_iv (n_v vs 3) ≤ 2000 := tv_rng t3
  obtain ⟨t6, hk⟩ := List.forall_mem_cons.mp hk
  have t6 : tv_ok ta (0, 0, 2000, []) (n_v vs 6) := t6
  have k6 : 0 ≤ v_iv (n_v vs 6) ∧ v_iv (n_v vs 6) ≤ 2000 := tv_rng t6
  obtain ⟨t8, hk⟩ := List.forall_mem_cons.mp hk
  have t8 : tv_ok ta (0, 0, 2000, []) (n_v vs 8) := t8
  have k8 : 0 ≤ v_iv (n_v vs 8) ∧ v_iv (n_v vs 8) ≤ 2000 := tv_rng t8
  obtain ⟨t12, hk⟩ := List.forall_mem_cons.mp hk
  have t12 : tv_ok ta (0, 99, 99, []) (n_v vs 12) := t12
  have k12 : 99 ≤ v_iv (n_v vs 12) ∧ v_iv (n_v vs 12) ≤ 99 := tv_rng t12
  obtain ⟨t13, hk⟩ := List.forall_mem_cons.mp hk
  have t13 : tv_ok ta (0, 0, 2000, []) (n_v vs 13) := t13
  have k13 : 0 ≤ v_iv (n_v vs 13) ∧ v_iv (n_v vs 13) ≤ 2000 := tv_rng t13
  obtain ⟨t15, hk⟩ := List.forall_mem_cons.mp hk
  have t15 : tv_ok ta (0, -2147483648, 0, []) (n_v vs 15) := t15
  have k15 : (-2147483648) ≤ v_iv (n_v vs 15) ∧ v_iv (n_v vs 15) ≤ 0 := tv_rng t15
  obtain ⟨t18, hk⟩ := List.forall_mem_cons.mp hk
  have t18 : tv_ok ta (0, 0, 2000, []) (n_v vs 18) := t18
  have k18 : 0 ≤ v_iv (n_v vs 18) ∧ v_iv (n_v vs 18) ≤ 2000 := tv_rng t18
  have hf : fc_ok [(23, [18, 3], [0, 1, -1]), (23, [18, 3], [0, -1, 1]), (23, [13, 3], [0, 1, -1]), (23, [13, 3], [0, -1, 1]), (23, [8, 3], [0, 1, -1]), (23, [8, 3], [0, -1, 1]), (23, [6, 3], [0, 1, -1]), (23, [6, 3], [0, -1, 1]), (20, [1, 0], [50, 1, 1, 1005, 1002, 0, 6, 4, 2, 1, 0, 0, 1, 3, 1, 2, 4, 3, 2, 1, 5, 0, 2]), (20, [15, 12], [30, 0, 1, 0, 0, -1, 0, 0]), (20, [15], [30, 0, -1, 0, 0]), (20, [0, 0], [30, 0, 1, 1, 15, -1, 1, 11]), (20, [0], [50, 3, 0, 12, 11, 15, 2, 21, 4, 7, 1, 3, 2, 0, 12, 0, 1, 0, 3, 2, 0, 11, 4, 3, 2, 0, 15, 0, 8, 3, 7, 1, 3, 2, 0, 12, 0, 0, 0, 7, 4, 3, 2, 0, 15, 0, 1, 2, 0, 11]), (20, [18, 0], [30, 0, 1, 0, 0, -1, 1, 11]), (20, [0, 18], [50, 2, 0, 8, 11, 3, 7, 0, 2, 0, 1, 2, 0, 8, 0, 6, 4, 2, 1, 1, 0, 1, 2, 0, 11]), (102, [18], [0, 13008, 13009, 13011, 13012, 13013, 13014, 13015]), (23, [18, 3], [0, 1, -1]), (23, [18, 3], [0, -1, 1]), (8, [15], [5]), (23, [13, 3], [0, 1, -1]), (23, [13, 3], [0, -1, 1]), (23, [8, 3], [0, 1, -1]), (23, [8, 3], [0, -1, 1]), (23, [6, 3], [0, 1, -1]), (23, [6, 3], [0, -1, 1]), (102, [14], [0, 13008, 13009, 13011, 13012, 13013, 13014, 13015]), (23, [13, 3], [0, 1, -1]), (23, [13, 3], [0, -1, 1]), (23, [8, 3], [0, 1, -1]), (23, [8, 3], [0, -1, 1]), (23, [6, 3], [0, 1, -1]), (23, [6, 3], [0, -1, 1]), (102, [9], [5708990770823839524233143877797980545530986496, 13008, 13009, 13011, 13012, 13013, 13014, 13015]), (23, [8, 3], [0, 1, -1]), (23, [8, 3], [0, -1, 1]), (23, [6, 3], [0, 1, -1]), (23, [6, 3], [0, -1, 1]), (102, [6], [0, 13011, 13012, 13013, 13014, 13015]), (23, [6, 3], [0, 1, -1]), (23, [6, 3], [0, -1, 1])] ta ws vs := hf
  obtain ⟨f0, hf⟩ := fc_un (show (23 : Nat) < 100 from by decide) hf
  have f0 : 1 * v_iv (n_v vs 18) + ((-1) * v_iv (n_v vs 3) + 0) ≤ 0 := f0
  obtain ⟨f1, hf⟩ := fc_un (show (23 : Nat) < 100 from by decide) hf
  have f1 : (-1) * v_iv (n_v vs 18) + (1 * v_iv (n_v vs 3) + 0) ≤ 0 := f1
  obtain ⟨f2, hf⟩ := fc_un (show (23 : Nat) < 100 from by decide) hf
  have f2 : 1 * v_iv (n_v vs 13) + ((-1) * v_iv (n_v vs 3) + 0) ≤ 0 := f2
  obtain ⟨f3, hf⟩ := fc_un (show (23 : Nat) < 100 from by decide) hf
  have f3 : (-1) * v_iv (n_v vs 13) + (1 * v_iv (n_v vs 3) + 0) ≤ 0 := f3
  obtain ⟨f4, hf⟩ := fc_un (show (23 : Nat) < 100 from by decide) hf
  have f4 : 1 * v_iv (n_v vs 8) + ((-1) * v_iv (n_v vs 3) + 0) ≤ 0 := f4
  obtain ⟨f5, hf⟩ := fc_un (show (23 : Nat) < 100 from by decide) hf
  have f5 : (-1) * v_iv (n_v vs 8) + (1 * v_iv (n_v vs 3) + 0) ≤ 0 := f5
  obtain ⟨f6, hf⟩ := fc_un (show (23 : Nat) < 100 from by decide) hf
  have f6 : 1 * v_iv (n_v vs 6) + ((-1) * v_iv (n_v vs 3) + 0) ≤ 0 := f6
  obtain ⟨f7, hf⟩ := fc_un (show (23 : Nat) < 100 from by decide) hf
  have f7 : (-1) * v_iv (n_v vs 6) + (1 * v_iv (n_v vs 3) + 0) ≤ 0 := f7
  obtain ⟨f8, hf⟩ := fc_un (show (20 : Nat) < 100 from by decide) hf
  have f8 : (v_iv (n_v vs 1) + 1) ≤ w_ei ws (w_ar ws (n_v vs 0) 2) ((w_fi ws (n_v vs 0) 5 + 2)) := f8
  obtain ⟨f9, hf⟩ := fc_un (show (20 : Nat) < 100 from by decide) hf
  have f9 : 1 * v_iv (n_v vs 15) + ((-1) * v_iv (n_v vs 12) + 0) ≤ 0 := f9
  obtain ⟨f10, hf⟩ := fc_un (show (20 : Nat) < 100 from by decide) hf
  have f10 : (-1) * v_iv (n_v vs 15) + 0 ≤ 0 := f10
  obtain ⟨f11, hf⟩ := fc_un (show (20 : Nat) < 100 from by decide) hf
  have f11 : 1 * w_fi ws (n_v vs 0) 15 + ((-1) * w_fi ws (n_v vs 0) 11 + 0) ≤ 0 := f11
  obtain ⟨f12, hf⟩ := fc_un (show (20 : Nat) < 100 from by decide) hf
  have f12 : ((w_fi ws (n_v vs 0) 12 = 1) → (w_fi ws (n_v vs 0) 11 ≤ (w_fi ws (n_v vs 0) 15 + 8))) ∧ ((w_fi ws (n_v vs 0) 12 = 0) ∨ ((w_fi ws (n_v vs 0) 15 + 1) ≤ w_fi ws (n_v vs 0) 11)) := f12
  obtain ⟨f13, hf⟩ := fc_un (show (20 : Nat) < 100 from by decide) hf
  have f13 : 1 * v_iv (n_v vs 18) + ((-1) * w_fi ws (n_v vs 0) 11 + 0) ≤ 0 := f13
  obtain ⟨f14, hf⟩ := fc_un (show (20 : Nat) < 100 from by decide) hf
  have f14 : (1 ≤ w_fi ws (n_v vs 0) 8) ∨ ((v_iv (n_v vs 18) + 1) ≤ w_fi ws (n_v vs 0) 11) := f14
  obtain ⟨ta1, w1, le1, ⟨_, s1⟩, hf⟩ := fc_us (show ¬ (102 : Nat) < 100 from by decide) hf
  obtain ⟨f16, hf⟩ := fc_un (show (23 : Nat) < 100 from by decide) hf
  have f16 : 1 * v_iv (n_v vs 18) + ((-1) * v_iv (n_v vs 3) + 0) ≤ 0 := f16
  obtain ⟨f17, hf⟩ := fc_un (show (23 : Nat) < 100 from by decide) hf
  have f17 : (-1) * v_iv (n_v vs 18) + (1 * v_iv (n_v vs 3) + 0) ≤ 0 := f17
  obtain ⟨f18, hf⟩ := fc_un (show (8 : Nat) < 100 from by decide) hf
  have f18 : v_iv (n_v vs 15) ≤ 0 := f18
  obtain ⟨f19, hf⟩ := fc_un (show (23 : Nat) < 100 from by decide) hf
  have f19 : 1 * v_iv (n_v vs 13) + ((-1) * v_iv (n_v vs 3) + 0) ≤ 0 := f19
  obtain ⟨f20, hf⟩ := fc_un (show (23 : Nat) < 100 from by decide) hf
  have f20 : (-1) * v_iv (n_v vs 13) + (1 * v_iv (n_v vs 3) + 0) ≤ 0 := f20
  obtain ⟨f21, hf⟩ := fc_un (show (23 : Nat) < 100 from by decide) hf
  have f21 : 1 * v_iv (n_v vs 8) + ((-1) * v_iv (n_v vs 3) + 0) ≤ 0 := f21
  obtain ⟨f22, hf⟩ := fc_un (show (23 : Nat) < 100 from by decide) hf
  have f22 : (-1) * v_iv (n_v vs 8) + (1 * v_iv (n_v vs 3) + 0) ≤ 0 := f22
  obtain ⟨f23, hf⟩ := fc_un (show (23 : Nat) < 100 from by decide) hf
  have f23 : 1 * v_iv (n_v vs 6) + ((-1) * v_iv (n_v vs 3) + 0) ≤ 0 := f23
  obtain ⟨f24, hf⟩ := fc_un (show (23 : Nat) < 100 from by decide) hf
  have f24 : (-1) * v_iv (n_v vs 6) + (1 * v_iv (n_v vs 3) + 0) ≤ 0 := f24
  obtain ⟨ta2, w2, le2, ⟨_, s2⟩, hf⟩ := fc_us (show ¬ (102 : Nat) < 100 from by decide) hf
  obtain ⟨f26, hf⟩ := fc_un (show (23 : Nat) < 100 from by decide) hf
  have f26 : 1 * v_iv (n_v vs 13) + ((-1) * v_iv (n_v vs 3) + 0) ≤ 0 := f26
  obtain ⟨f27, hf⟩ := fc_un (show (23 : Nat) < 100 from by decide) hf
  have f27 : (-1) * v_iv (n_v vs 13) + (1 * v_iv (n_v vs 3) + 0) ≤ 0 := f27
  obtain ⟨f28, hf⟩ := fc_un (show (23 : Nat) < 100 from by decide) hf
  have f28 : 1 * v_iv (n_v vs 8) + ((-1) * v_iv (n_v vs 3) + 0) ≤ 0 := f28
  obtain ⟨f29, hf⟩ := fc_un (show (23 : Nat) < 100 from by decide) hf
  have f29 : (-1) * v_iv (n_v vs 8) + (1 * v_iv (n_v vs 3) + 0) ≤ 0 := f29
  obtain ⟨f30, hf⟩ := fc_un (show (23 : Nat) < 100 from by decide) hf
  have f30 : 1 * v_iv (n_v vs 6) + ((-1) * v_iv (n_v vs 3) + 0) ≤ 0 := f30
  obtain ⟨f31, hf⟩ := fc_un (show (23 : Nat) < 100 from by decide) hf
  have f31 : (-1) * v_iv (n_v vs 6) + (1 * v_iv (n_v vs 3) + 0) ≤ 0 := f31
  obtain ⟨ta3, w3, le3, ⟨_, s3⟩, hf⟩ := fc_us (show ¬ (102 : Nat) < 100 from by decide) hf
  obtain ⟨f33, hf⟩ := fc_un (show (23 : Nat) < 100 from by decide) hf
  have f33 : 1 * v_iv (n_v vs 8) + ((-1) * v_iv (n_v vs 3) + 0) ≤ 0 := f33
  obtain ⟨f34, hf⟩ := fc_un (show (23 : Nat) < 100 from by decide) hf
  have f34 : (-1) * v_iv (n_v vs 8) + (1 * v_iv (n_v vs 3) + 0) ≤ 0 := f34
  obtain ⟨f35, hf⟩ := fc_un (show (23 : Nat) < 100 from by decide) hf
  have f35 : 1 * v_iv (n_v vs 6) + ((-1) * v_iv (n_v vs 3) + 0) ≤ 0 := f35
  obtain ⟨f36, hf⟩ := fc_un (show (23 : Nat) < 100 from by decide) hf
  have f36 : (-1) * v_iv (n_v vs 6) + (1 * v_iv (n_v vs 3) + 0) ≤ 0 := f36
  obtain ⟨ta4, w4, le4, ⟨_, s4⟩, hf⟩ := fc_us (show ¬ (102 : Nat) < 100 from by decide) hf
  obtain ⟨f38, hf⟩ := fc_un (show (23 : Nat) < 100 from by decide) hf
  have f38 : 1 * v_iv (n_v vs 6) + ((-1) * v_iv (n_v vs 3) + 0) ≤ 0 := f38
  obtain ⟨f39, hf⟩ := fc_un (show (23 : Nat) < 100 from by decide) hf
  have f39 : (-1) * v_iv (n_v vs 6) + (1 * v_iv (n_v vs 3) + 0) ≤ 0 := f39
  have cr_0_2 : ta (w_ar ws (n_v vs 0) 2) = some 152 := tv_rg (th_fd hD hth r0 (g := GG_150) rfl (k := 2) (t := (2, 0, 0, [152])) rfl rfl)
  have kz_0_8 : 0 ≤ w_fi ws (n_v vs 0) 8 ∧ w_fi ws (n_v vs 0) 8 ≤ 5 := tv_rng (th_fd hD hth r0 (g := GG_150) rfl (k := 8) (t := (0, 0, 5, [])) rfl rfl)
  have kz_0_11 : 0 ≤ w_fi ws (n_v vs 0) 11 ∧ w_fi ws (n_v vs 0) 11 ≤ 2000 := tv_rng (th_fd hD hth r0 (g := GG_150) rfl (k := 11) (t := (0, 0, 2000, [])) rfl rfl)
  have kz_0_12 : 0 ≤ w_fi ws (n_v vs 0) 12 ∧ w_fi ws (n_v vs 0) 12 ≤ 4 := tv_rng (th_fd hD hth r0 (g := GG_150) rfl (k := 12) (t := (0, 0, 4, [])) rfl rfl)
  have kz_0_15 : 0 ≤ w_fi ws (n_v vs 0) 15 ∧ w_fi ws (n_v vs 0) 15 ≤ 2000 := tv_rng (th_fd hD hth r0 (g := GG_150) rfl (k := 15) (t := (0, 0, 2000, [])) rfl rfl)
  have nf0 : fc_1 (20, [3, 0], [30, 0, 1, 0, 0, -1, 1, 11]) ws (vs) := by
    refine ⟨fun n hn => ?_, ?_⟩
    · have hn : n ∈ [3, 0] := hn
      rw [hl]
      simp only [List.mem_cons, List.not_mem_nil, or_false] at hn
      show n < 19; omega
    · show 1 * v_iv (n_v vs 3) + ((-1) * w_fi ws (n_v vs 0) 11 + 0) ≤ 0
      omega
  have nf1 : fc_1 (20, [0, 3], [50, 2, 0, 8, 11, 3, 7, 0, 2, 0, 1, 2, 0, 8, 0, 6, 4, 2, 1, 1, 0, 1, 2, 0, 11]) ws (vs) := by
    refine ⟨fun n hn => ?_, ?_⟩
    · have hn : n ∈ [0, 3] := hn
      rw [hl]
      simp only [List.mem_cons, List.not_mem_nil, or_false] at hn
      show n < 19; omega
    · show (1 ≤ w_fi ws (n_v vs 0) 8) ∨ ((v_iv (n_v vs 3) + 1) ≤ w_fi ws (n_v vs 0) 11)
      first | omega | grind
  refine ⟨(fun _ h => (by cases h)), [], trivial, ?_, (fun _ h => (by cases h))⟩
  rw [List.append_nil]
  exact List.forall_mem_cons.mpr ⟨⟨show (20 : Nat) < 100 from by decide, nf0⟩, List.forall_mem_cons.mpr ⟨⟨show (20 : Nat) < 100 from by decide, nf1⟩, (fun _ h => (by cases h))⟩⟩
def o_Mo_item_at_k0_10 : or_T := (57, 21, [(0, (2, 0, 0, [150])), (1, (0, 0, 0, [])), (3, (0, 0, 2000, [])), (6, (0, 0, 2000, [])), (8, (0, 0, 2000, [])), (10, (0, -1, 23, [])), (12, (0, 99, 99, [])), (13, (0, 0, 2000, [])), (14, (0, -1, 48, [])), (15, (0, 1, 2147483647, [])), (16, (0, 0, 0, [])), (17, (2, 0, 0, [152])), (18, (0, 0, 66297, []))], [(9, [18, 0], [5]), (9, [17, 0], [2]), (8, [15], [4]), (8, [16], [0]), (9, [16, 0], [8]), (23, [13, 3], [0, 1, -1]), (23, [13, 3], [0, -1, 1]), (23, [14, 10], [0, 1, -1]), (23, [14, 10], [0, -1, 1]), (23, [8, 3], [0, 1, -1]), (23, [8, 3], [0, -1, 1]), (23, [6, 3], [0, 1, -1]), (23, [6, 3], [0, -1, 1]), (20, [1, 0], [50, 1, 1, 1005, 1002, 0, 6, 4, 2, 1, 0, 0, 1, 3, 1, 2, 4, 3, 2, 1, 5, 0, 2]), (20, [0, 0], [30, 0, 1, 1, 15, -1, 1, 11]), (20, [0], [50, 3, 0, 12, 11, 15, 2, 21, 4, 7, 1, 3, 2, 0, 12, 0, 1, 0, 3, 2, 0, 11, 4, 3, 2, 0, 15, 0, 8, 3, 7, 1, 3, 2, 0, 12, 0, 0, 0, 7, 4, 3, 2, 0, 15, 0, 1, 2, 0, 11]), (20, [13, 0], [30, 0, 1, 0, 0, -1, 1, 11]), (20, [0, 13], [50, 3, 0, 8, 12, 11, 3, 7, 0, 2, 0, 1, 2, 0, 8, 3, 7, 1, 3, 2, 0, 12, 0, 0, 0, 6, 4, 2, 1, 1, 0, 1, 2, 0, 11]), (20, [0, 14], [50, 1, 0, 8, 3, 7, 0, 2, 0, 1, 2, 0, 8, 0, 2, 0, 0, 1, 1]), (20, [15, 12], [30, 0, 1, 0, 0, -1, 0, 0]), (20, [15], [30, 0, -1, 0, 0]), (102, [14], [0, 13008, 13009, 13011, 13012, 13013, 13014, 13015]), (23, [13, 3], [0, 1, -1]), (23, [13, 3], [0, -1, 1]), (23, [14, 10], [0, 1, -1]), (23, [14, 10], [0, -1, 1]), (23, [8, 3], [0, 1, -1]), (23, [8, 3], [0, -1, 1]), (23, [6, 3], [0, 1, -1]), (23, [6, 3], [0, -1, 1]), (102, [9], [5708990770823839524233143877797980545530986496, 13008, 13009, 13011, 13012, 13013, 13014, 13015]), (23, [8, 3], [0, 1, -1]), (23, [8, 3], [0, -1, 1]), (23, [6, 3], [0, 1, -1]), (23, [6, 3], [0, -1, 1]), (102, [6], [0, 13011, 13012, 13013, 13014, 13015]), (23, [6, 3], [0, 1, -1]), (23, [6, 3], [0, -1, 1])], [(10, (0, 0, 23, []))], [], [], [], [])
theorem oo_Mo_item_at_k0_10 {kA : Nat → ClassId} : or_ok kA GG o_Mo_item_at_k0_10 := by
  intro A ta ws vs hD hth hl hk hds hf
  have hl : vs.length = 21 := hl
  have hk : ∀ q ∈ ([(0, (2, 0, 0, [150])), (1, (0, 0, 0, [])), (3, (0, 0, 2000, [])), (6, (0, 0, 2000, [])), (8, (0, 0, 2000, [])), (10, (0, -1, 23, [])), (12, (0, 99, 99, [])), (13, (0, 0, 2000, [])), (14, (0, -1, 48, [])), (15, (0, 1, 2147483647, [])), (16, (0, 0, 0, [])), (17, (2, 0, 0, [152])), (18, (0, 0, 66297, []))] : List (Nat × tv_T)), tv_ok ta q.2 (n_v vs q.1) := hk
  obtain ⟨t0, hk⟩ := List.forall_mem_cons.mp hk
  have t0 : tv_ok ta (2, 0, 0, [150]) (n_v vs 0) := t0
  have r0 : ta (v_ad (n_v vs 0)) = some 150 := tv_rg t0
  obtain ⟨t1, hk⟩ := List.forall_mem_cons.mp hk
  have t1 : tv_ok ta (0, 0, 0, []) (n_v vs 1) := t1
  have k1 : 0 ≤ v_iv (n_v vs 1) ∧ v_iv (n_v vs 1) ≤ 0 := tv_rng t1
  obtain ⟨t3, hk⟩ := List.forall_mem_cons.mp hk
  have t3 : tv_ok ta (0, 0, 2000, []) (n_v vs 3) := t3
  have k3 : 0 ≤ v_iv (n_v vs 3) ∧ v_iv (n_v vs 3) ≤ 2000 := tv_rng t3
  obtain ⟨t6, hk⟩ := List.forall_mem_cons.mp hk
  have t6 : tv_ok ta (0, 0, 2000, []) (n_v vs 6) := t6
  have k6 : 0 ≤ v_iv (n_v vs 6) ∧ v_iv (n_v vs 6) ≤ 2000 := tv_rng t6
  obtain ⟨t8, hk⟩ := List.forall_mem_cons.mp hk
  have t8 : tv_ok ta (0, 0, 2000, []) (n_v vs 8) := t8
  have k8 : 0 ≤ v_iv (n_v vs 8) ∧ v_iv (n_v vs 8) ≤ 2000 := tv_rng t8
  obtain ⟨t10, hk⟩ := List.forall_mem_cons.mp hk
  have t10 : tv_ok ta (0, -1, 23, []) (n_v vs 10) := t10
  have k10 : (-1) ≤ v_iv (n_v vs 10) ∧ v_iv (n_v vs 10) ≤ 23 := tv_rng t10
  obtain ⟨t12, hk⟩ := List.forall_mem_cons.mp hk
  have t12 : tv_ok ta (0, 99, 99, []) (n_v vs 12) := t12
  have k12 : 99 ≤ v_iv (n_v vs 12) ∧ v_iv (n_v vs 12) ≤ 99 := tv_rng t12
  obtain ⟨t13, hk⟩ := List.forall_mem_cons.mp hk
  have t13 : tv_ok ta (0, 0, 2000, []) (n_v vs 13) := t13
  have k13 : 0 ≤ v_iv (n_v vs 13) ∧ v_iv (n_v vs 13) ≤ 2000 := tv_rng t13
  obtain ⟨t14, hk⟩ := List.forall_mem_cons.mp hk
  have t14 : tv_ok ta (0, -1, 48, []) (n_v vs 14) := t14
  have k14 : (-1) ≤ v_iv (n_v vs 14) ∧ v_iv (n_v vs 14) ≤ 48 := tv_rng t14
  obtain ⟨t15, hk⟩ := List.forall_mem_cons.mp hk
  have t15 : tv_ok ta (0, 1, 2147483647, []) (n_v vs 15) := t15
  have k15 : 1 ≤ v_iv (n_v vs 15) ∧ v_iv (n_v vs 15) ≤ 2147483647 := tv_rng t15
  obtain ⟨t16, hk⟩ := List.forall_mem_cons.mp hk
  have t16 : tv_ok ta (0, 0, 0, []) (n_v vs 16) := t16
  have k16 : 0 ≤ v_iv (n_v vs 16) ∧ v_iv (n_v vs 16) ≤ 0 := tv_rng t16
  obtain ⟨t17, hk⟩ := List.forall_mem_cons.mp hk
  have t17 : tv_ok ta (2, 0, 0, [152]) (n_v vs 17) := t17
  have r17 : ta (v_ad (n_v vs 17)) = some 152 := tv_rg t17
  obtain ⟨t18, hk⟩ := List.forall_mem_cons.mp hk
  have t18 : tv_ok ta (0, 0, 66297, []) (n_v vs 18) := t18
  have k18 : 0 ≤ v_iv (n_v vs 18) ∧ v_iv (n_v vs 18) ≤ 66297 := tv_rng t18
  have hf : fc_ok [(9, [18, 0], [5]), (9, [17, 0], [2]), (8, [15], [4]), (8, [16], [0]), (9, [16, 0], [8]), (23, [13, 3], [0, 1, -1]), (23, [13, 3], [0, -1, 1]), (23, [14, 10], [0, 1, -1]), (23, [14, 10], [0, -1, 1]), (23, [8, 3], [0, 1, -1]), (23, [8, 3], [0, -1, 1]), (23, [6, 3], [0, 1, -1]), (23, [6, 3], [0, -1, 1]), (20, [1, 0], [50, 1, 1, 1005, 1002, 0, 6, 4, 2, 1, 0, 0, 1, 3, 1, 2, 4, 3, 2, 1, 5, 0, 2]), (20, [0, 0], [30, 0, 1, 1, 15, -1, 1, 11]), (20, [0], [50, 3, 0, 12, 11, 15, 2, 21, 4, 7, 1, 3, 2, 0, 12, 0, 1, 0, 3, 2, 0, 11, 4, 3, 2, 0, 15, 0, 8, 3, 7, 1, 3, 2, 0, 12, 0, 0, 0, 7, 4, 3, 2, 0, 15, 0, 1, 2, 0, 11]), (20, [13, 0], [30, 0, 1, 0, 0, -1, 1, 11]), (20, [0, 13], [50, 3, 0, 8, 12, 11, 3, 7, 0, 2, 0, 1, 2, 0, 8, 3, 7, 1, 3, 2, 0, 12, 0, 0, 0, 6, 4, 2, 1, 1, 0, 1, 2, 0, 11]), (20, [0, 14], [50, 1, 0, 8, 3, 7, 0, 2, 0, 1, 2, 0, 8, 0, 2, 0, 0, 1, 1]), (20, [15, 12], [30, 0, 1, 0, 0, -1, 0, 0]), (20, [15], [30, 0, -1, 0, 0]), (102, [14], [0, 13008, 13009, 13011, 13012, 13013, 13014, 13015]), (23, [13, 3], [0, 1, -1]), (23, [13, 3], [0, -1, 1]), (23, [14, 10], [0, 1, -1]), (23, [14, 10], [0, -1, 1]), (23, [8, 3], [0, 1, -1]), (23, [8, 3], [0, -1, 1]), (23, [6, 3], [0, 1, -1]), (23, [6, 3], [0, -1, 1]), (102, [9], [5708990770823839524233143877797980545530986496, 13008, 13009, 13011, 13012, 13013, 13014, 13015]), (23, [8, 3], [0, 1, -1]), (23, [8, 3], [0, -1, 1]), (23, [6, 3], [0, 1, -1]), (23, [6, 3], [0, -1, 1]), (102, [6], [0, 13011, 13012, 13013, 13014, 13015]), (23, [6, 3], [0, 1, -1]), (23, [6, 3], [0, -1, 1])] ta ws vs := hf
  obtain ⟨f0, hf⟩ := fc_un (show (9 : Nat) < 100 from by decide) hf
  have f0 : n_v vs 18 = w_fd ws (v_ad (n_v vs 0)) 5 := f0
  obtain ⟨f1, hf⟩ := fc_un (show (9 : Nat) < 100 from by decide) hf
  have f1 : n_v vs 17 = w_fd ws (v_ad (n_v vs 0)) 2 := f1
  obtain ⟨f2, hf⟩ := fc_un (show (8 : Nat) < 100 from by decide) hf
  have f2 : 0 < v_iv (n_v vs 15) := f2
  obtain ⟨f3, hf⟩ := fc_un (show (8 : Nat) < 100 from by decide) hf
  have f3 : v_iv (n_v vs 16) = 0 := f3
  obtain ⟨f4, hf⟩ := fc_un (show (9 : Nat) < 100 from by decide) hf
  have f4 : n_v vs 16 = w_fd ws (v_ad (n_v vs 0)) 8 := f4
  obtain ⟨f5, hf⟩ := fc_un (show (23 : Nat) < 100 from by decide) hf
  have f5 : 1 * v_iv (n_v vs 13) + ((-1) * v_iv (n_v vs 3) + 0) ≤ 0 := f5
  obtain ⟨f6, hf⟩ := fc_un (show (23 : Nat) < 100 from by decide) hf
  have f6 : (-1) * v_iv (n_v vs 13) + (1 * v_iv (n_v vs 3) + 0) ≤ 0 := f6
  obtain ⟨f7, hf⟩ := fc_un (show (23 : Nat) < 100 from by decide) hf
  have f7 : 1 * v_iv (n_v vs 14) + ((-1) * v_iv (n_v vs 10) + 0) ≤ 0 := f7
  obtain ⟨f8, hf⟩ := fc_un (show (23 : Nat) < 100 from by decide) hf
  have f8 : (-1) * v_iv (n_v vs 14) + (1 * v_iv (n_v vs 10) + 0) ≤ 0 := f8
  obtain ⟨f9, hf⟩ := fc_un (show (23 : Nat) < 100 from by decide) hf
  have f9 : 1 * v_iv (n_v vs 8) + ((-1) * v_iv (n_v vs 3) + 0) ≤ 0 := f9
  obtain ⟨f10, hf⟩ := fc_un (show (23 : Nat) < 100 from by decide) hf
  have f10 : (-1) * v_iv (n_v vs 8) + (1 * v_iv (n_v vs 3) + 0) ≤ 0 := f10
  obtain ⟨f11, hf⟩ := fc_un (show (23 : Nat) < 100 from by decide) hf
  have f11 : 1 * v_iv (n_v vs 6) + ((-1) * v_iv (n_v vs 3) + 0) ≤ 0 := f11
  obtain ⟨f12, hf⟩ := fc_un (show (23 : Nat) < 100 from by decide) hf
  have f12 : (-1) * v_iv (n_v vs 6) + (1 * v_iv (n_v vs 3) + 0) ≤ 0 := f12
  obtain ⟨f13, hf⟩ := fc_un (show (20 : Nat) < 100 from by decide) hf
  have f13 : (v_iv (n_v vs 1) + 1) ≤ w_ei ws (w_ar ws (n_v vs 0) 2) ((w_fi ws (n_v vs 0) 5 + 2)) := f13
  obtain ⟨f14, hf⟩ := fc_un (show (20 : Nat) < 100 from by decide) hf
  have f14 : 1 * w_fi ws (n_v vs 0) 15 + ((-1) * w_fi ws (n_v vs 0) 11 + 0) ≤ 0 := f14
  obtain ⟨f15, hf⟩ := fc_un (show (20 : Nat) < 100 from by decide) hf
  have f15 : ((w_fi ws (n_v vs 0) 12 = 1) → (w_fi ws (n_v vs 0) 11 ≤ (w_fi ws (n_v vs 0) 15 + 8))) ∧ ((w_fi ws (n_v vs 0) 12 = 0) ∨ ((w_fi ws (n_v vs 0) 15 + 1) ≤ w_fi ws (n_v vs 0) 11)) := f15
  obtain ⟨f16, hf⟩ := fc_un (show (20 : Nat) < 100 from by decide) hf
  have f16 : 1 * v_iv (n_v vs 13) + ((-1) * w_fi ws (n_v vs 0) 11 + 0) ≤ 0 := f16
  obtain ⟨f17, hf⟩ := fc_un (show (20 : Nat) < 100 from by decide) hf
  have f17 : (1 ≤ w_fi ws (n_v vs 0) 8) ∨ ((w_fi ws (n_v vs 0) 12 = 0) ∨ ((v_iv (n_v vs 13) + 1) ≤ w_fi ws (n_v vs 0) 11)) := f17
  obtain ⟨f18, hf⟩ := fc_un (show (20 : Nat) < 100 from by decide) hf
  have f18 : (1 ≤ w_fi ws (n_v vs 0) 8) ∨ (0 ≤ v_iv (n_v vs 14)) := f18
  obtain ⟨f19, hf⟩ := fc_un (show (20 : Nat) < 100 from by decide) hf
  have f19 : 1 * v_iv (n_v vs 15) + ((-1) * v_iv (n_v vs 12) + 0) ≤ 0 := f19
  obtain ⟨f20, hf⟩ := fc_un (show (20 : Nat) < 100 from by decide) hf
  have f20 : (-1) * v_iv (n_v vs 15) + 0 ≤ 0 := f20
  obtain ⟨ta1, w1, le1, ⟨_, s1⟩, hf⟩ := fc_us (show ¬ (102 : Nat) < 100 from by decide) hf
  obtain ⟨f22, hf⟩ := fc_un (show (23 : Nat) < 100 from by decide) hf
  have f22 : 1 * v_iv (n_v vs 13) + ((-1) * v_iv (n_v vs 3) + 0) ≤ 0 := f22
  obtain ⟨f23, hf⟩ := fc_un (show (23 : Nat) < 100 from by decide) hf
  have f23 : (-1) * v_iv (n_v vs 13) + (1 * v_iv (n_v vs 3) + 0) ≤ 0 := f23
  obtain ⟨f24, hf⟩ := fc_un (show (23 : Nat) < 100 from by decide) hf
  have f24 : 1 * v_iv (n_v vs 14) + ((-1) * v_iv (n_v vs 10) + 0) ≤ 0 := f24
  obtain ⟨f25, hf⟩ := fc_un (show (23 : Nat) < 100 from by decide) hf
  have f25 : (-1) * v_iv (n_v vs 14) + (1 * v_iv (n_v vs 10) + 0) ≤ 0 := f25
  obtain ⟨f26, hf⟩ := fc_un (show (23 : Nat) < 100 from by decide) hf
  have f26 : 1 * v_iv (n_v vs 8) + ((-1) * v_iv (n_v vs 3) + 0) ≤ 0 := f26
  obtain ⟨f27, hf⟩ := fc_un (show (23 : Nat) < 100 from by decide) hf
  have f27 : (-1) * v_iv (n_v vs 8) + (1 * v_iv (n_v vs 3) + 0) ≤ 0 := f27
  obtain ⟨f28, hf⟩ := fc_un (show (23 : Nat) < 100 from by decide) hf
  have f28 : 1 * v_iv (n_v vs 6) + ((-1) * v_iv (n_v vs 3) + 0) ≤ 0 := f28
  obtain ⟨f29, hf⟩ := fc_un (show (23 : Nat) < 100 from by decide) hf
  have f29 : (-1) * v_iv (n_v vs 6) + (1 * v_iv (n_v vs 3) + 0) ≤ 0 := f29
  obtain ⟨ta2, w2, le2, ⟨_, s2⟩, hf⟩ := fc_us (show ¬ (102 : Nat) < 100 from by decide) hf
  obtain ⟨f31, hf⟩ := fc_un (show (23 : Nat) < 100 from by decide) hf
  have f31 : 1 * v_iv (n_v vs 8) + ((-1) * v_iv (n_v vs 3) + 0) ≤ 0 := f31
  obtain ⟨f32, hf⟩ := fc_un (show (23 : Nat) < 100 from by decide) hf
  have f32 : (-1) * v_iv (n_v vs 8) + (1 * v_iv (n_v vs 3) + 0) ≤ 0 := f32
  obtain ⟨f33, hf⟩ := fc_un (show (23 : Nat) < 100 from by decide) hf
  have f33 : 1 * v_iv (n_v vs 6) + ((-1) * v_iv (n_v vs 3) + 0) ≤ 0 := f33
  obtain ⟨f34, hf⟩ := fc_un (show (23 : Nat) < 100 from by decide) hf
  have f34 : (-1) * v_iv (n_v vs 6) + (1 * v_iv (n_v vs 3) + 0) ≤ 0 := f34
  obtain ⟨ta3, w3, le3, ⟨_, s3⟩, hf⟩ := fc_us (show ¬ (102 : Nat) < 100 from by decide) hf
  obtain ⟨f36, hf⟩ := fc_un (show (23 : Nat) < 100 from by decide) hf
  have f36 : 1 * v_iv (n_v vs 6) + ((-1) * v_iv (n_v vs 3) + 0) ≤ 0 := f36
  obtain ⟨f37, hf⟩ := fc_un (show (23 : Nat) < 100 from by decide) hf
  have f37 : (-1) * v_iv (n_v vs 6) + (1 * v_iv (n_v vs 3) + 0) ≤ 0 := f37
  have cr_0_2 : ta (w_ar ws (n_v vs 0) 2) = some 152 := tv_rg (th_fd hD hth r0 (g := GG_150) rfl (k := 2) (t := (2, 0, 0, [152])) rfl rfl)
  have ad_17 : v_ad (n_v vs 17) = w_ar ws (n_v vs 0) 2 := congrArg v_ad f1
  have g0 : v_iv (n_v vs 18) = w_fi ws (n_v vs 0) 5 := congrArg v_iv f0
  have g4 : v_iv (n_v vs 16) = w_fi ws (n_v vs 0) 8 := congrArg v_iv f4
  have kz_0_8 : 0 ≤ w_fi ws (n_v vs 0) 8 ∧ w_fi ws (n_v vs 0) 8 ≤ 5 := tv_rng (th_fd hD hth r0 (g := GG_150) rfl (k := 8) (t := (0, 0, 5, [])) rfl rfl)
  have kz_0_11 : 0 ≤ w_fi ws (n_v vs 0) 11 ∧ w_fi ws (n_v vs 0) 11 ≤ 2000 := tv_rng (th_fd hD hth r0 (g := GG_150) rfl (k := 11) (t := (0, 0, 2000, [])) rfl rfl)
  have kz_0_12 : 0 ≤ w_fi ws (n_v vs 0) 12 ∧ w_fi ws (n_v vs 0) 12 ≤ 4 := tv_rng (th_fd hD hth r0 (g := GG_150) rfl (k := 12) (t := (0, 0, 4, [])) rfl rfl)
  have kz_0_15 : 0 ≤ w_fi ws (n_v vs 0) 15 ∧ w_fi ws (n_v vs 0) 15 ≤ 2000 := tv_rng (th_fd hD hth r0 (g := GG_150) rfl (k := 15) (t := (0, 0, 2000, [])) rfl rfl)
  have rf10 : tv_ok ta (0, 0, 23, []) (n_v vs 10) := tv_in t10 (by first | omega | grind) (by first | omega | grind)
  refine ⟨List.forall_mem_cons.mpr ⟨rf10, (fun _ h => (by cases h))⟩, [], trivial, ?_, (fun _ h => (by cases h))⟩
  rw [List.append_nil]
  exact (fun _ h => (by cases h))
def o_Mo_item_at_k0_11 : or_T := (60, 22, [(0, (2, 0, 0, [150])), (1, (0, 0, 0, [])), (3, (0, 0, 2000, [])), (6, (0, 0, 2000, [])), (8, (0, 0, 2000, [])), (10, (0, 0, 23, [])), (12, (0, 99, 99, [])), (13, (0, 0, 2000, [])), (14, (0, -1, 48, [])), (15, (0, 1, 2147483647, [])), (16, (0, 0, 0, [])), (17, (2, 0, 0, [152])), (18, (0, 0, 66297, []))], [(9, [18, 0], [5]), (9, [17, 0], [2]), (8, [15], [4]), (8, [16], [0]), (9, [16, 0], [8]), (23, [13, 3], [0, 1, -1]), (23, [13, 3], [0, -1, 1]), (23, [14, 10], [0, 1, -1]), (23, [14, 10], [0, -1, 1]), (23, [8, 3], [0, 1, -1]), (23, [8, 3], [0, -1, 1]), (23, [6, 3], [0, 1, -1]), (23, [6, 3], [0, -1, 1]), (20, [1, 0], [50, 1, 1, 1005, 1002, 0, 6, 4, 2, 1, 0, 0, 1, 3, 1, 2, 4, 3, 2, 1, 5, 0, 2]), (20, [0, 0], [30, 0, 1, 1, 15, -1, 1, 11]), (20, [0], [50, 3, 0, 12, 11, 15, 2, 21, 4, 7, 1, 3, 2, 0, 12, 0, 1, 0, 3, 2, 0, 11, 4, 3, 2, 0, 15, 0, 8, 3, 7, 1, 3, 2, 0, 12, 0, 0, 0, 7, 4, 3, 2, 0, 15, 0, 1, 2, 0, 11]), (20, [13, 0], [30, 0, 1, 0, 0, -1, 1, 11]), (20, [0, 13], [50, 3, 0, 8, 12, 11, 3, 7, 0, 2, 0, 1, 2, 0, 8, 3, 7, 1, 3, 2, 0, 12, 0, 0, 0, 6, 4, 2, 1, 1, 0, 1, 2, 0, 11]), (20, [0, 14], [50, 1, 0, 8, 3, 7, 0, 2, 0, 1, 2, 0, 8, 0, 2, 0, 0, 1, 1]), (20, [15, 12], [30, 0, 1, 0, 0, -1, 0, 0]), (20, [15], [30, 0, -1, 0, 0]), (102, [14], [0, 13008, 13009, 13011, 13012, 13013, 13014, 13015]), (23, [13, 3], [0, 1, -1]), (23, [13, 3], [0, -1, 1]), (23, [14, 10], [0, 1, -1]), (23, [14, 10], [0, -1, 1]), (23, [8, 3], [0, 1, -1]), (23, [8, 3], [0, -1, 1]), (23, [6, 3], [0, 1, -1]), (23, [6, 3], [0, -1, 1]), (102, [9], [5708990770823839524233143877797980545530986496, 13008, 13009, 13011, 13012, 13013, 13014, 13015]), (23, [8, 3], [0, 1, -1]), (23, [8, 3], [0, -1, 1]), (23, [6, 3], [0, 1, -1]), (23, [6, 3], [0, -1, 1]), (102, [6], [0, 13011, 13012, 13013, 13014, 13015]), (23, [6, 3], [0, 1, -1]), (23, [6, 3], [0, -1, 1])], [(15, (0, 1, 99, []))], [], [], [], [])
theorem oo_Mo_item_at_k0_11 {kA : Nat → ClassId} : or_ok kA GG o_Mo_item_at_k0_11 := by
  intro A ta ws vs hD hth hl hk hds hf
  have hl : vs.length = 22 := hl
  have hk : ∀ q ∈ ([(0, (2, 0, 0, [150])), (1, (0, 0, 0, [])), (3, (0, 0, 2000, [])), (6, (0, 0, 2000, [])), (8, (0, 0, 2000, [])), (10, (0, 0, 23, [])), (12, (0, 99, 99, [])), (13, (0, 0, 2000, [])), (14, (0, -1, 48, [])), (15, (0, 1, 2147483647, [])), (16, (0, 0, 0, [])), (17, (2, 0, 0, [152])), (18, (0, 0, 66297, []))] : List (Nat × tv_T)), tv_ok ta q.2 (n_v vs q.1) := hk
  obtain ⟨t0, hk⟩ := List.forall_mem_cons.mp hk
  have t0 : tv_ok ta (2, 0, 0, [150]) (n_v vs 0) := t0
  have r0 : ta (v_ad (n_v vs 0)) = some 150 := tv_rg t0
  obtain ⟨t1, hk⟩ := List.forall_mem_cons.mp hk
  have t1 : tv_ok ta (0, 0, 0, []) (n_v vs 1) := t1
  have k1 : 0 ≤ v_iv (n_v vs 1) ∧ v_iv (n_v vs 1) ≤ 0 := tv_rng t1
  obtain ⟨t3, hk⟩ := List.forall_mem_cons.mp hk
  have t3 : tv_ok ta (0, 0, 2000, []) (n_v vs 3) := t3
  have k3 : 0 ≤ v_iv (n_v vs 3) ∧ v_iv (n_v vs 3) ≤ 2000 := tv_rng t3
  obtain ⟨t6, hk⟩ := List.forall_mem_cons.mp hk
  have t6 : tv_ok ta (0, 0, 2000, []) (n_v vs 6) := t6
  have k6 : 0 ≤ v_iv (n_v vs 6) ∧ v_iv (n_v vs 6) ≤ 2000 := tv_rng t6
  obtain ⟨t8, hk⟩ := List.forall_mem_cons.mp hk
  have t8 : tv_ok ta (0, 0, 2000, []) (n_v vs 8) := t8
  have k8 : 0 ≤ v_iv (n_v vs 8) ∧ v_iv (n_v vs 8) ≤ 2000 := tv_rng t8
  obtain ⟨t10, hk⟩ := List.forall_mem_cons.mp hk
  have t10 : tv_ok ta (0, 0, 23, []) (n_v vs 10) := t10
  have k10 : 0 ≤ v_iv (n_v vs 10) ∧ v_iv (n_v vs 10) ≤ 23 := tv_rng t10
  obtain ⟨t12, hk⟩ := List.forall_mem_cons.mp hk
  have t12 : tv_ok ta (0, 99, 99, []) (n_v vs 12) := t12
  have k12 : 99 ≤ v_iv (n_v vs 12) ∧ v_iv (n_v vs 12) ≤ 99 := tv_rng t12
  obtain ⟨t13, hk⟩ := List.forall_mem_cons.mp hk
  have t13 : tv_ok ta (0, 0, 2000, []) (n_v vs 13) := t13
  have k13 : 0 ≤ v_iv (n_v vs 13) ∧ v_iv (n_v vs 13) ≤ 2000 := tv_rng t13
  obtain ⟨t14, hk⟩ := List.forall_mem_cons.mp hk
  have t14 : tv_ok ta (0, -1, 48, []) (n_v vs 14) := t14
  have k14 : (-1) ≤ v_iv (n_v vs 14) ∧ v_iv (n_v vs 14) ≤ 48 := tv_rng t14
  obtain ⟨t15, hk⟩ := List.forall_mem_cons.mp hk
  have t15 : tv_ok ta (0, 1, 2147483647, []) (n_v vs 15) := t15
  have k15 : 1 ≤ v_iv (n_v vs 15) ∧ v_iv (n_v vs 15) ≤ 2147483647 := tv_rng t15
  obtain ⟨t16, hk⟩ := List.forall_mem_cons.mp hk
  have t16 : tv_ok ta (0, 0, 0, []) (n_v vs 16) := t16
  have k16 : 0 ≤ v_iv (n_v vs 16) ∧ v_iv (n_v vs 16) ≤ 0 := tv_rng t16
  obtain ⟨t17, hk⟩ := List.forall_mem_cons.mp hk
  have t17 : tv_ok ta (2, 0, 0, [152]) (n_v vs 17) := t17
  have r17 : ta (v_ad (n_v vs 17)) = some 152 := tv_rg t17
  obtain ⟨t18, hk⟩ := List.forall_mem_cons.mp hk
  have t18 : tv_ok ta (0, 0, 66297, []) (n_v vs 18) := t18
  have k18 : 0 ≤ v_iv (n_v vs 18) ∧ v_iv (n_v vs 18) ≤ 66297 := tv_rng t18
  have hf : fc_ok [(9, [18, 0], [5]), (9, [17, 0], [2]), (8, [15], [4]), (8, [16], [0]), (9, [16, 0], [8]), (23, [13, 3], [0, 1, -1]), (23, [13, 3], [0, -1, 1]), (23, [14, 10], [0, 1, -1]), (23, [14, 10], [0, -1, 1]), (23, [8, 3], [0, 1, -1]), (23, [8, 3], [0, -1, 1]), (23, [6, 3], [0, 1, -1]), (23, [6, 3], [0, -1, 1]), (20, [1, 0], [50, 1, 1, 1005, 1002, 0, 6, 4, 2, 1, 0, 0, 1, 3, 1, 2, 4, 3, 2, 1, 5, 0, 2]), (20, [0, 0], [30, 0, 1, 1, 15, -1, 1, 11]), (20, [0], [50, 3, 0, 12, 11, 15, 2, 21, 4, 7, 1, 3, 2, 0, 12, 0, 1, 0, 3, 2, 0, 11, 4, 3, 2, 0, 15, 0, 8, 3, 7, 1, 3, 2, 0, 12, 0, 0, 0, 7, 4, 3, 2, 0, 15, 0, 1, 2, 0, 11]), (20, [13, 0], [30, 0, 1, 0, 0, -1, 1, 11]), (20, [0, 13], [50, 3, 0, 8, 12, 11, 3, 7, 0, 2, 0, 1, 2, 0, 8, 3, 7, 1, 3, 2, 0, 12, 0, 0, 0, 6, 4, 2, 1, 1, 0, 1, 2, 0, 11]), (20, [0, 14], [50, 1, 0, 8, 3, 7, 0, 2, 0, 1, 2, 0, 8, 0, 2, 0, 0, 1, 1]), (20, [15, 12], [30, 0, 1, 0, 0, -1, 0, 0]), (20, [15], [30, 0, -1, 0, 0]), (102, [14], [0, 13008, 13009, 13011, 13012, 13013, 13014, 13015]), (23, [13, 3], [0, 1, -1]), (23, [13, 3], [0, -1, 1]), (23, [14, 10], [0, 1, -1]), (23, [14, 10], [0, -1, 1]), (23, [8, 3], [0, 1, -1]), (23, [8, 3], [0, -1, 1]), (23, [6, 3], [0, 1, -1]), (23, [6, 3], [0, -1, 1]), (102, [9], [5708990770823839524233143877797980545530986496, 13008, 13009, 13011, 13012, 13013, 13014, 13015]), (23, [8, 3], [0, 1, -1]), (23, [8, 3], [0, -1, 1]), (23, [6, 3], [0, 1, -1]), (23, [6, 3], [0, -1, 1]), (102, [6], [0, 13011, 13012, 13013, 13014, 13015]), (23, [6, 3], [0, 1, -1]), (23, [6, 3], [0, -1, 1])] ta ws vs := hf
  obtain ⟨f0, hf⟩ := fc_un (show (9 : Nat) < 100 from by decide) hf
  have f0 : n_v vs 18 = w_fd ws (v_ad (n_v vs 0)) 5 := f0
  obtain ⟨f1, hf⟩ := fc_un (show (9 : Nat) < 100 from by decide) hf
  have f1 : n_v vs 17 = w_fd ws (v_ad (n_v vs 0)) 2 := f1
  obtain ⟨f2, hf⟩ := fc_un (show (8 : Nat) < 100 from by decide) hf
  have f2 : 0 < v_iv (n_v vs 15) := f2
  obtain ⟨f3, hf⟩ := fc_un (show (8 : Nat) < 100 from by decide) hf
  have f3 : v_iv (n_v vs 16) = 0 := f3
  obtain ⟨f4, hf⟩ := fc_un (show (9 : Nat) < 100 from by decide) hf
  have f4 : n_v vs 16 = w_fd ws (v_ad (n_v vs 0)) 8 := f4
  obtain ⟨f5, hf⟩ := fc_un (show (23 : Nat) < 100 from by decide) hf
  have f5 : 1 * v_iv (n_v vs 13) + ((-1) * v_iv (n_v vs 3) + 0) ≤ 0 := f5
  obtain ⟨f6, hf⟩ := fc_un (show (23 : Nat) < 100 from by decide) hf
  have f6 : (-1) * v_iv (n_v vs 13) + (1 * v_iv (n_v vs 3) + 0) ≤ 0 := f6
  obtain ⟨f7, hf⟩ := fc_un (show (23 : Nat) < 100 from by decide) hf
  have f7 : 1 * v_iv (n_v vs 14) + ((-1) * v_iv (n_v vs 10) + 0) ≤ 0 := f7
  obtain ⟨f8, hf⟩ := fc_un (show (23 : Nat) < 100 from by decide) hf
  have f8 : (-1) * v_iv (n_v vs 14) + (1 * v_iv (n_v vs 10) + 0) ≤ 0 := f8
  obtain ⟨f9, hf⟩ := fc_un (show (23 : Nat) < 100 from by decide) hf
  have f9 : 1 * v_iv (n_v vs 8) + ((-1) * v_iv (n_v vs 3) + 0) ≤ 0 := f9
  obtain ⟨f10, hf⟩ := fc_un (show (23 : Nat) < 100 from by decide) hf
  have f10 : (-1) * v_iv (n_v vs 8) + (1 * v_iv (n_v vs 3) + 0) ≤ 0 := f10
  obtain ⟨f11, hf⟩ := fc_un (show (23 : Nat) < 100 from by decide) hf
  have f11 : 1 * v_iv (n_v vs 6) + ((-1) * v_iv (n_v vs 3) + 0) ≤ 0 := f11
  obtain ⟨f12, hf⟩ := fc_un (show (23 : Nat) < 100 from by decide) hf
  have f12 : (-1) * v_iv (n_v vs 6) + (1 * v_iv (n_v vs 3) + 0) ≤ 0 := f12
  obtain ⟨f13, hf⟩ := fc_un (show (20 : Nat) < 100 from by decide) hf
  have f13 : (v_iv (n_v vs 1) + 1) ≤ w_ei ws (w_ar ws (n_v vs 0) 2) ((w_fi ws (n_v vs 0) 5 + 2)) := f13
  obtain ⟨f14, hf⟩ := fc_un (show (20 : Nat) < 100 from by decide) hf
  have f14 : 1 * w_fi ws (n_v vs 0) 15 + ((-1) * w_fi ws (n_v vs 0) 11 + 0) ≤ 0 := f14
  obtain ⟨f15, hf⟩ := fc_un (show (20 : Nat) < 100 from by decide) hf
  have f15 : ((w_fi ws (n_v vs 0) 12 = 1) → (w_fi ws (n_v vs 0) 11 ≤ (w_fi ws (n_v vs 0) 15 + 8))) ∧ ((w_fi ws (n_v vs 0) 12 = 0) ∨ ((w_fi ws (n_v vs 0) 15 + 1) ≤ w_fi ws (n_v vs 0) 11)) := f15
  obtain ⟨f16, hf⟩ := fc_un (show (20 : Nat) < 100 from by decide) hf
  have f16 : 1 * v_iv (n_v vs 13) + ((-1) * w_fi ws (n_v vs 0) 11 + 0) ≤ 0 := f16
  obtain ⟨f17, hf⟩ := fc_un (show (20 : Nat) < 100 from by decide) hf
  have f17 : (1 ≤ w_fi ws (n_v vs 0) 8) ∨ ((w_fi ws (n_v vs 0) 12 = 0) ∨ ((v_iv (n_v vs 13) + 1) ≤ w_fi ws (n_v vs 0) 11)) := f17
  obtain ⟨f18, hf⟩ := fc_un (show (20 : Nat) < 100 from by decide) hf
  have f18 : (1 ≤ w_fi ws (n_v vs 0) 8) ∨ (0 ≤ v_iv (n_v vs 14)) := f18
  obtain ⟨f19, hf⟩ := fc_un (show (20 : Nat) < 100 from by decide) hf
  have f19 : 1 * v_iv (n_v vs 15) + ((-1) * v_iv (n_v vs 12) + 0) ≤ 0 := f19
  obtain ⟨f20, hf⟩ := fc_un (show (20 : Nat) < 100 from by decide) hf
  have f20 : (-1) * v_iv (n_v vs 15) + 0 ≤ 0 := f20
  obtain ⟨ta1, w1, le1, ⟨_, s1⟩, hf⟩ := fc_us (show ¬ (102 : Nat) < 100 from by decide) hf
  obtain ⟨f22, hf⟩ := fc_un (show (23 : Nat) < 100 from by decide) hf
  have f22 : 1 * v_iv (n_v vs 13) + ((-1) * v_iv (n_v vs 3) + 0) ≤ 0 := f22
  obtain ⟨f23, hf⟩ := fc_un (show (23 : Nat) < 100 from by decide) hf
  have f23 : (-1) * v_iv (n_v vs 13) + (1 * v_iv (n_v vs 3) + 0) ≤ 0 := f23
  obtain ⟨f24, hf⟩ := fc_un (show (23 : Nat) < 100 from by decide) hf
  have f24 : 1 * v_iv (n_v vs 14) + ((-1) * v_iv (n_v vs 10) + 0) ≤ 0 := f24
  obtain ⟨f25, hf⟩ := fc_un (show (23 : Nat) < 100 from by decide) hf
  have f25 : (-1) * v_iv (n_v vs 14) + (1 * v_iv (n_v vs 10) + 0) ≤ 0 := f25
  obtain ⟨f26, hf⟩ := fc_un (show (23 : Nat) < 100 from by decide) hf
  have f26 : 1 * v_iv (n_v vs 8) + ((-1) * v_iv (n_v vs 3) + 0) ≤ 0 := f26
  obtain ⟨f27, hf⟩ := fc_un (show (23 : Nat) < 100 from by decide) hf
  have f27 : (-1) * v_iv (n_v vs 8) + (1 * v_iv (n_v vs 3) + 0) ≤ 0 := f27
  obtain ⟨f28, hf⟩ := fc_un (show (23 : Nat) < 100 from by decide) hf
  have f28 : 1 * v_iv (n_v vs 6) + ((-1) * v_iv (n_v vs 3) + 0) ≤ 0 := f28
  obtain ⟨f29, hf⟩ := fc_un (show (23 : Nat) < 100 from by decide) hf
  have f29 : (-1) * v_iv (n_v vs 6) + (1 * v_iv (n_v vs 3) + 0) ≤ 0 := f29
  obtain ⟨ta2, w2, le2, ⟨_, s2⟩, hf⟩ := fc_us (show ¬ (102 : Nat) < 100 from by decide) hf
  obtain ⟨f31, hf⟩ := fc_un (show (23 : Nat) < 100 from by decide) hf
  have f31 : 1 * v_iv (n_v vs 8) + ((-1) * v_iv (n_v vs 3) + 0) ≤ 0 := f31
  obtain ⟨f32, hf⟩ := fc_un (show (23 : Nat) < 100 from by decide) hf
  have f32 : (-1) * v_iv (n_v vs 8) + (1 * v_iv (n_v vs 3) + 0) ≤ 0 := f32
  obtain ⟨f33, hf⟩ := fc_un (show (23 : Nat) < 100 from by decide) hf
  have f33 : 1 * v_iv (n_v vs 6) + ((-1) * v_iv (n_v vs 3) + 0) ≤ 0 := f33
  obtain ⟨f34, hf⟩ := fc_un (show (23 : Nat) < 100 from by decide) hf
  have f34 : (-1) * v_iv (n_v vs 6) + (1 * v_iv (n_v vs 3) + 0) ≤ 0 := f34
  obtain ⟨ta3, w3, le3, ⟨_, s3⟩, hf⟩ := fc_us (show ¬ (102 : Nat) < 100 from by decide) hf
  obtain ⟨f36, hf⟩ := fc_un (show (23 : Nat) < 100 from by decide) hf
  have f36 : 1 * v_iv (n_v vs 6) + ((-1) * v_iv (n_v vs 3) + 0) ≤ 0 := f36
  obtain ⟨f37, hf⟩ := fc_un (show (23 : Nat) < 100 from by decide) hf
  have f37 : (-1) * v_iv (n_v vs 6) + (1 * v_iv (n_v vs 3) + 0) ≤ 0 := f37
  have cr_0_2 : ta (w_ar ws (n_v vs 0) 2) = some 152 := tv_rg (th_fd hD hth r0 (g := GG_150) rfl (k := 2) (t := (2, 0, 0, [152])) rfl rfl)
  have ad_17 : v_ad (n_v vs 17) = w_ar ws (n_v vs 0) 2 := congrArg v_ad f1
  have g0 : v_iv (n_v vs 18) = w_fi ws (n_v vs 0) 5 := congrArg v_iv f0
  have g4 : v_iv (n_v vs 16) = w_fi ws (n_v vs 0) 8 := congrArg v_iv f4
  have kz_0_8 : 0 ≤ w_fi ws (n_v vs 0) 8 ∧ w_fi ws (n_v vs 0) 8 ≤ 5 := tv_rng (th_fd hD hth r0 (g := GG_150) rfl (k := 8) (t := (0, 0, 5, [])) rfl rfl)
  have kz_0_11 : 0 ≤ w_fi ws (n_v vs 0) 11 ∧ w_fi ws (n_v vs 0) 11 ≤ 2000 := tv_rng (th_fd hD hth r0 (g := GG_150) rfl (k := 11) (t := (0, 0, 2000, [])) rfl rfl)
  have kz_0_12 : 0 ≤ w_fi ws (n_v vs 0) 12 ∧ w_fi ws (n_v vs 0) 12 ≤ 4 := tv_rng (th_fd hD hth r0 (g := GG_150) rfl (k := 12) (t := (0, 0, 4, [])) rfl rfl)
  have kz_0_15 : 0 ≤ w_fi ws (n_v vs 0) 15 ∧ w_fi ws (n_v vs 0) 15 ≤ 2000 := tv_rng (th_fd hD hth r0 (g := GG_150) rfl (k := 15) (t := (0, 0, 2000, [])) rfl rfl)
  have rf15 : tv_ok ta (0, 1, 99, []) (n_v vs 15) := tv_in t15 (by first | omega | grind) (by first | omega | grind)
  refine ⟨List.forall_mem_cons.mpr ⟨rf15, (fun _ h => (by cases h))⟩, [], trivial, ?_, (fun _ h => (by cases h))⟩
  rw [List.append_nil]
  exact (fun _ h => (by cases h))
def o_Mo_item_at_k0_12 : or_T := (64, 23, [(0, (2, 0, 0, [150])), (1, (0, 0, 0, [])), (3, (0, 0, 2000, [])), (6, (0, 0, 2000, [])), (8, (0, 0, 2000, [])), (10, (0, 0, 23, [])), (12, (0, 99, 99, [])), (13, (0, 0, 2000, [])), (14, (0, -1, 48, [])), (15, (0, 1, 99, [])), (16, (0, 0, 0, [])), (17, (2, 0, 0, [152])), (18, (0, 0, 66297, [])), (19, (0, 219, 219, [])), (20, (0, 219, 66516, [])), (21, (0, 219, 66539, []))], [(23, [13, 3], [0, 1, -1]), (23, [13, 3], [0, -1, 1]), (23, [14, 10], [0, 1, -1]), (23, [14, 10], [0, -1, 1]), (23, [8, 3], [0, 1, -1]), (23, [8, 3], [0, -1, 1]), (23, [6, 3], [0, 1, -1]), (23, [6, 3], [0, -1, 1]), (20, [0, 0], [30, 0, 1, 1, 15, -1, 1, 11]), (20, [0], [50, 3, 0, 12, 11, 15, 2, 21, 4, 7, 1, 3, 2, 0, 12, 0, 1, 0, 3, 2, 0, 11, 4, 3, 2, 0, 15, 0, 8, 3, 7, 1, 3, 2, 0, 12, 0, 0, 0, 7, 4, 3, 2, 0, 15, 0, 1, 2, 0, 11]), (20, [13, 0], [30, 0, 1, 0, 0, -1, 1, 11]), (20, [0, 13], [50, 3, 0, 8, 12, 11, 3, 7, 0, 2, 0, 1, 2, 0, 8, 3, 7, 1, 3, 2, 0, 12, 0, 0, 0, 6, 4, 2, 1, 1, 0, 1, 2, 0, 11]), (20, [0, 14], [50, 1, 0, 8, 3, 7, 0, 2, 0, 1, 2, 0, 8, 0, 2, 0, 0, 1, 1]), (20, [15, 12], [30, 0, 1, 0, 0, -1, 0, 0]), (20, [15], [30, 0, -1, 0, 0]), (100, [17, 21, 15], []), (1, [21, 20, 10], []), (1, [20, 18, 19], []), (9, [18, 0], [5]), (9, [17, 0], [2]), (8, [15], [4]), (8, [16], [0]), (9, [16, 0], [8]), (23, [13, 3], [0, 1, -1]), (23, [13, 3], [0, -1, 1]), (23, [14, 10], [0, 1, -1]), (23, [14, 10], [0, -1, 1]), (23, [8, 3], [0, 1, -1]), (23, [8, 3], [0, -1, 1]), (23, [6, 3], [0, 1, -1]), (23, [6, 3], [0, -1, 1]), (20, [1, 0], [50, 1, 1, 1005, 1002, 0, 6, 4, 2, 1, 0, 0, 1, 3, 1, 2, 4, 3, 2, 1, 5, 0, 2]), (20, [0, 0], [30, 0, 1, 1, 15, -1, 1, 11]), (20, [0], [50, 3, 0, 12, 11, 15, 2, 21, 4, 7, 1, 3, 2, 0, 12, 0, 1, 0, 3, 2, 0, 11, 4, 3, 2, 0, 15, 0, 8, 3, 7, 1, 3, 2, 0, 12, 0, 0, 0, 7, 4, 3, 2, 0, 15, 0, 1, 2, 0, 11]), (20, [13, 0], [30, 0, 1, 0, 0, -1, 1, 11]), (20, [0, 13], [50, 3, 0, 8, 12, 11, 3, 7, 0, 2, 0, 1, 2, 0, 8, 3, 7, 1, 3, 2, 0, 12, 0, 0, 0, 6, 4, 2, 1, 1, 0, 1, 2, 0, 11]), (20, [0, 14], [50, 1, 0, 8, 3, 7, 0, 2, 0, 1, 2, 0, 8, 0, 2, 0, 0, 1, 1]), (20, [15, 12], [30, 0, 1, 0, 0, -1, 0, 0]), (20, [15], [30, 0, -1, 0, 0]), (102, [14], [0, 13008, 13009, 13011, 13012, 13013, 13014, 13015]), (23, [13, 3], [0, 1, -1]), (23, [13, 3], [0, -1, 1]), (23, [14, 10], [0, 1, -1]), (23, [14, 10], [0, -1, 1]), (23, [8, 3], [0, 1, -1]), (23, [8, 3], [0, -1, 1]), (23, [6, 3], [0, 1, -1]), (23, [6, 3], [0, -1, 1]), (102, [9], [5708990770823839524233143877797980545530986496, 13008, 13009, 13011, 13012, 13013, 13014, 13015]), (23, [8, 3], [0, 1, -1]), (23, [8, 3], [0, -1, 1]), (23, [6, 3], [0, 1, -1]), (23, [6, 3], [0, -1, 1]), (102, [6], [0, 13011, 13012, 13013, 13014, 13015]), (23, [6, 3], [0, 1, -1]), (23, [6, 3], [0, -1, 1])], [], [(0, 0, 2000, [])], [(20, [1, 0], [50, 1, 1, 1005, 1002, 0, 6, 4, 2, 1, 0, 0, 1, 3, 1, 2, 4, 3, 2, 1, 5, 0, 2]), (23, [23, 3], [0, 1, -1]), (23, [23, 3], [0, -1, 1]), (20, [0, 0], [30, 0, 1, 1, 15, -1, 1, 11]), (20, [0], [50, 3, 0, 12, 11, 15, 2, 21, 4, 7, 1, 3, 2, 0, 12, 0, 1, 0, 3, 2, 0, 11, 4, 3, 2, 0, 15, 0, 8, 3, 7, 1, 3, 2, 0, 12, 0, 0, 0, 7, 4, 3, 2, 0, 15, 0, 1, 2, 0, 11]), (20, [23, 0], [30, 0, 1, 0, 0, -1, 1, 11]), (20, [0, 23], [50, 3, 0, 8, 12, 11, 3, 7, 0, 2, 0, 1, 2, 0, 8, 3, 7, 1, 3, 2, 0, 12, 0, 0, 0, 6, 4, 2, 1, 1, 0, 1, 2, 0, 11])], [], [(21, 10, 219, 66516), (21, 20, 0, 23), (21, 18, 219, 242), (20, 18, 219, 219)])
theorem oo_Mo_item_at_k0_12 {kA : Nat → ClassId} : or_ok kA GG o_Mo_item_at_k0_12 := by
  intro A ta ws vs hD hth hl hk hds hf
  have hl : vs.length = 23 := hl
  have hk : ∀ q ∈ ([(0, (2, 0, 0, [150])), (1, (0, 0, 0, [])), (3, (0, 0, 2000, [])), (6, (0, 0, 2000, [])), (8, (0, 0, 2000, [])), (10, (0, 0, 23, [])), (12, (0, 99, 99, [])), (13, (0, 0, 2000, [])), (14, (0, -1, 48, [])), (15, (0, 1, 99, [])), (16, (0, 0, 0, [])), (17, (2, 0, 0, [152])), (18, (0, 0, 66297, [])), (19, (0, 219, 219, [])), (20, (0, 219, 66516, [])), (21, (0, 219, 66539, []))] : List (Nat × tv_T)), tv_ok ta q.2 (n_v vs q.1) := hk
  obtain ⟨t0, hk⟩ := List.forall_mem_cons.mp hk
  have t0 : tv_ok ta (2, 0, 0, [150]) (n_v vs 0) := t0
  have r0 : ta (v_ad (n_v vs 0)) = some 150 := tv_rg t0
  obtain ⟨t1, hk⟩ := List.forall_mem_cons.mp hk
  have t1 : tv_ok ta (0, 0, 0, []) (n_v vs 1) := t1
  have k1 : 0 ≤ v_iv (n_v vs 1) ∧ v_iv (n_v vs 1) ≤ 0 := tv_rng t1
  obtain ⟨t3, hk⟩ := List.forall_mem_cons.mp hk
  have t3 : tv_ok ta (0, 0, 2000, []) (n_v vs 3) := t3
  have k3 : 0 ≤ v_iv (n_v vs 3) ∧ v_iv (n_v vs 3) ≤ 2000 := tv_rng t3
  obtain ⟨t6, hk⟩ := List.forall_mem_cons.mp hk
  have t6 : tv_ok ta (0, 0, 2000, []) (n_v vs 6) := t6
  have k6 : 0 ≤ v_iv (n_v vs 6) ∧ v_iv (n_v vs 6) ≤ 2000 := tv_rng t6
  obtain ⟨t8, hk⟩ := List.forall_mem_cons.mp hk
  have t8 : tv_ok ta (0, 0, 2000, []) (n_v vs 8) := t8
  have k8 : 0 ≤ v_iv (n_v vs 8) ∧ v_iv (n_v vs 8) ≤ 2000 := tv_rng t8
  obtain ⟨t10, hk⟩ := List.forall_mem_cons.mp hk
  have t10 : tv_ok ta (0, 0, 23, []) (n_v vs 10) := t10
  have k10 : 0 ≤ v_iv (n_v vs 10) ∧ v_iv (n_v vs 10) ≤ 23 := tv_rng t10
  obtain ⟨t12, hk⟩ := List.forall_mem_cons.mp hk
  have t12 : tv_ok ta (0, 99, 99, []) (n_v vs 12) := t12
  have k12 : 99 ≤ v_iv (n_v vs 12) ∧ v_iv (n_v vs 12) ≤ 99 := tv_rng t12
  obtain ⟨t13, hk⟩ := List.forall_mem_cons.mp hk
  have t13 : tv_ok ta (0, 0, 2000, []) (n_v vs 13) := t13
  have k13 : 0 ≤ v_iv (n_v vs 13) ∧ v_iv (n_v vs 13) ≤ 2000 := tv_rng t13
  obtain ⟨t14, hk⟩ := List.forall_mem_cons.mp hk
  have t14 : tv_ok ta (0, -1, 48, []) (n_v vs 14) := t14
  have k14 : (-1) ≤ v_iv (n_v vs 14) ∧ v_iv (n_v vs 14) ≤ 48 := tv_rng t14
  obtain ⟨t15, hk⟩ := List.forall_mem_cons.mp hk
  have t15 : tv_ok ta (0, 1, 99, []) (n_v vs 15) := t15
  have k15 : 1 ≤ v_iv (n_v vs 15) ∧ v_iv (n_v vs 15) ≤ 99 := tv_rng t15
  obtain ⟨t16, hk⟩ := List.forall_mem_cons.mp hk
  have t16 : tv_ok ta (0, 0, 0, []) (n_v vs 16) := t16
  have k16 : 0 ≤ v_iv (n_v vs 16) ∧ v_iv (n_v vs 16) ≤ 0 := tv_rng t16
  obtain ⟨t17, hk⟩ := List.forall_mem_cons.mp hk
  have t17 : tv_ok ta (2, 0, 0, [152]) (n_v vs 17) := t17
  have r17 : ta (v_ad (n_v vs 17)) = some 152 := tv_rg t17
  obtain ⟨t18, hk⟩ := List.forall_mem_cons.mp hk
  have t18 : tv_ok ta (0, 0, 66297, []) (n_v vs 18) := t18
  have k18 : 0 ≤ v_iv (n_v vs 18) ∧ v_iv (n_v vs 18) ≤ 66297 := tv_rng t18
  obtain ⟨t19, hk⟩ := List.forall_mem_cons.mp hk
  have t19 : tv_ok ta (0, 219, 219, []) (n_v vs 19) := t19
  have k19 : 219 ≤ v_iv (n_v vs 19) ∧ v_iv (n_v vs 19) ≤ 219 := tv_rng t19
  obtain ⟨t20, hk⟩ := List.forall_mem_cons.mp hk
  have t20 : tv_ok ta (0, 219, 66516, []) (n_v vs 20) := t20
  have k20 : 219 ≤ v_iv (n_v vs 20) ∧ v_iv (n_v vs 20) ≤ 66516 := tv_rng t20
  obtain ⟨t21, hk⟩ := List.forall_mem_cons.mp hk
  have t21 : tv_ok ta (0, 219, 66539, []) (n_v vs 21) := t21
  have k21 : 219 ≤ v_iv (n_v vs 21) ∧ v_iv (n_v vs 21) ≤ 66539 := tv_rng t21
  have hds : ∀ q ∈ ([(21, 10, 219, 66516), (21, 20, 0, 23), (21, 18, 219, 242), (20, 18, 219, 219)] : List of_T), n_iv vs q.2.1 + q.2.2.1 ≤ n_iv vs q.1 ∧ n_iv vs q.1 ≤ n_iv vs q.2.1 + q.2.2.2 := hds
  obtain ⟨d0, hds⟩ := List.forall_mem_cons.mp hds
  have d0 : v_iv (n_v vs 10) + 219 ≤ v_iv (n_v vs 21) ∧ v_iv (n_v vs 21) ≤ v_iv (n_v vs 10) + 66516 := d0
  obtain ⟨d1, hds⟩ := List.forall_mem_cons.mp hds
  have d1 : v_iv (n_v vs 20) + 0 ≤ v_iv (n_v vs 21) ∧ v_iv (n_v vs 21) ≤ v_iv (n_v vs 20) + 23 := d1
  obtain ⟨d2, hds⟩ := List.forall_mem_cons.mp hds
  have d2 : v_iv (n_v vs 18) + 219 ≤ v_iv (n_v vs 21) ∧ v_iv (n_v vs 21) ≤ v_iv (n_v vs 18) + 242 := d2
  obtain ⟨d3, hds⟩ := List.forall_mem_cons.mp hds
  have d3 : v_iv (n_v vs 18) + 219 ≤ v_iv (n_v vs 20) ∧ v_iv (n_v vs 20) ≤ v_iv (n_v vs 18) + 219 := d3
  have hf : fc_ok [(23, [13, 3], [0, 1, -1]), (23, [13, 3], [0, -1, 1]), (23, [14, 10], [0, 1, -1]), (23, [14, 10], [0, -1, 1]), (23, [8, 3], [0, 1, -1]), (23, [8, 3], [0, -1, 1]), (23, [6, 3], [0, 1, -1]), (23, [6, 3], [0, -1, 1]), (20, [0, 0], [30, 0, 1, 1, 15, -1, 1, 11]), (20, [0], [50, 3, 0, 12, 11, 15, 2, 21, 4, 7, 1, 3, 2, 0, 12, 0, 1, 0, 3, 2, 0, 11, 4, 3, 2, 0, 15, 0, 8, 3, 7, 1, 3, 2, 0, 12, 0, 0, 0, 7, 4, 3, 2, 0, 15, 0, 1, 2, 0, 11]), (20, [13, 0], [30, 0, 1, 0, 0, -1, 1, 11]), (20, [0, 13], [50, 3, 0, 8, 12, 11, 3, 7, 0, 2, 0, 1, 2, 0, 8, 3, 7, 1, 3, 2, 0, 12, 0, 0, 0, 6, 4, 2, 1, 1, 0, 1, 2, 0, 11]), (20, [0, 14], [50, 1, 0, 8, 3, 7, 0, 2, 0, 1, 2, 0, 8, 0, 2, 0, 0, 1, 1]), (20, [15, 12], [30, 0, 1, 0, 0, -1, 0, 0]), (20, [15], [30, 0, -1, 0, 0]), (100, [17, 21, 15], []), (1, [21, 20, 10], []), (1, [20, 18, 19], []), (9, [18, 0], [5]), (9, [17, 0], [2]), (8, [15], [4]), (8, [16], [0]), (9, [16, 0], [8]), (23, [13, 3], [0, 1, -1]), (23, [13, 3], [0, -1, 1]), (23, [14, 10], [0, 1, -1]), (23, [14, 10], [0, -1, 1]), (23, [8, 3], [0, 1, -1]), (23, [8, 3], [0, -1, 1]), (23, [6, 3], [0, 1, -1]), (23, [6, 3], [0, -1, 1]), (20, [1, 0], [50, 1, 1, 1005, 1002, 0, 6, 4, 2, 1, 0, 0, 1, 3, 1, 2, 4, 3, 2, 1, 5, 0, 2]), (20, [0, 0], [30, 0, 1, 1, 15, -1, 1, 11]), (20, [0], [50, 3, 0, 12, 11, 15, 2, 21, 4, 7, 1, 3, 2, 0, 12, 0, 1, 0, 3, 2, 0, 11, 4, 3, 2, 0, 15, 0, 8, 3, 7, 1, 3, 2, 0, 12, 0, 0, 0, 7, 4, 3, 2, 0, 15, 0, 1, 2, 0, 11]), (20, [13, 0], [30, 0, 1, 0, 0, -1, 1, 11]), (20, [0, 13], [50, 3, 0, 8, 12, 11, 3, 7, 0, 2, 0, 1, 2, 0, 8, 3, 7, 1, 3, 2, 0, 12, 0, 0, 0, 6, 4, 2, 1, 1, 0, 1, 2, 0, 11]), (20, [0, 14], [50, 1, 0, 8, 3, 7, 0, 2, 0, 1, 2, 0, 8, 0, 2, 0, 0, 1, 1]), (20, [15, 12], [30, 0, 1, 0, 0, -1, 0, 0]), (20, [15], [30, 0, -1, 0, 0]), (102, [14], [0, 13008, 13009, 13011, 13012, 13013, 13014, 13015]), (23, [13, 3], [0, 1, -1]), (23, [13, 3], [0, -1, 1]), (23, [14, 10], [0, 1, -1]), (23, [14, 10], [0, -1, 1]), (23, [8, 3], [0, 1, -1]), (23, [8, 3], [0, -1, 1]), (23, [6, 3], [0, 1, -1]), (23, [6, 3], [0, -1, 1]), (102, [9], [5708990770823839524233143877797980545530986496, 13008, 13009, 13011, 13012, 13013, 13014, 13015]), (23, [8, 3], [0, 1, -1]), (23, [8, 3], [0, -1, 1]), (23, [6, 3], [0, 1, -1]), (23, [6, 3], [0, -1, 1]), (102, [6], [0, 13011, 13012, 13013, 13014, 13015]), (23, [6, 3], [0, 1, -1]), (23, [6, 3], [0, -1, 1])] ta ws vs := hf
  obtain ⟨f0, hf⟩ := fc_un (show (23 : Nat) < 100 from by decide) hf
  have f0 : 1 * v_iv (n_v vs 13) + ((-1) * v_iv (n_v vs 3) + 0) ≤ 0 := f0
  obtain ⟨f1, hf⟩ := fc_un (show (23 : Nat) < 100 from by decide) hf
  have f1 : (-1) * v_iv (n_v vs 13) + (1 * v_iv (n_v vs 3) + 0) ≤ 0 := f1
  obtain ⟨f2, hf⟩ := fc_un (show (23 : Nat) < 100 from by decide) hf
  have f2 : 1 * v_iv (n_v vs 14) + ((-1) * v_iv (n_v vs 10) + 0) ≤ 0 := f2
  obtain ⟨f3, hf⟩ := fc_un (show (23 : Nat) < 100 from by decide) hf
  have f3 : (-1) * v_iv (n_v vs 14) + (1 * v_iv (n_v vs 10) + 0) ≤ 0 := f3
  obtain ⟨f4, hf⟩ := fc_un (show (23 : Nat) < 100 from by decide) hf
  have f4 : 1 * v_iv (n_v vs 8) + ((-1) * v_iv (n_v vs 3) + 0) ≤ 0 := f4
  obtain ⟨f5, hf⟩ := fc_un (show (23 : Nat) < 100 from by decide) hf
  have f5 : (-1) * v_iv (n_v vs 8) + (1 * v_iv (n_v vs 3) + 0) ≤ 0 := f5
  obtain ⟨f6, hf⟩ := fc_un (show (23 : Nat) < 100 from by decide) hf
  have f6 : 1 * v_iv (n_v vs 6) + ((-1) * v_iv (n_v vs 3) + 0) ≤ 0 := f6
  obtain ⟨f7, hf⟩ := fc_un (show (23 : Nat) < 100 from by decide) hf
  have f7 : (-1) * v_iv (n_v vs 6) + (1 * v_iv (n_v vs 3) + 0) ≤ 0 := f7
  obtain ⟨f8, hf⟩ := fc_un (show (20 : Nat) < 100 from by decide) hf
  have f8 : 1 * w_fi ws (n_v vs 0) 15 + ((-1) * w_fi ws (n_v vs 0) 11 + 0) ≤ 0 := f8
  obtain ⟨f9, hf⟩ := fc_un (show (20 : Nat) < 100 from by decide) hf
  have f9 : ((w_fi ws (n_v vs 0) 12 = 1) → (w_fi ws (n_v vs 0) 11 ≤ (w_fi ws (n_v vs 0) 15 + 8))) ∧ ((w_fi ws (n_v vs 0) 12 = 0) ∨ ((w_fi ws (n_v vs 0) 15 + 1) ≤ w_fi ws (n_v vs 0) 11)) := f9
  obtain ⟨f10, hf⟩ := fc_un (show (20 : Nat) < 100 from by decide) hf
  have f10 : 1 * v_iv (n_v vs 13) + ((-1) * w_fi ws (n_v vs 0) 11 + 0) ≤ 0 := f10
  obtain ⟨f11, hf⟩ := fc_un (show (20 : Nat) < 100 from by decide) hf
  have f11 : (1 ≤ w_fi ws (n_v vs 0) 8) ∨ ((w_fi ws (n_v vs 0) 12 = 0) ∨ ((v_iv (n_v vs 13) + 1) ≤ w_fi ws (n_v vs 0) 11)) := f11
  obtain ⟨f12, hf⟩ := fc_un (show (20 : Nat) < 100 from by decide) hf
  have f12 : (1 ≤ w_fi ws (n_v vs 0) 8) ∨ (0 ≤ v_iv (n_v vs 14)) := f12
  obtain ⟨f13, hf⟩ := fc_un (show (20 : Nat) < 100 from by decide) hf
  have f13 : 1 * v_iv (n_v vs 15) + ((-1) * v_iv (n_v vs 12) + 0) ≤ 0 := f13
  obtain ⟨f14, hf⟩ := fc_un (show (20 : Nat) < 100 from by decide) hf
  have f14 : (-1) * v_iv (n_v vs 15) + 0 ≤ 0 := f14
  obtain ⟨ta1, w1, le1, ⟨_, s1⟩, hf⟩ := fc_us (show ¬ (100 : Nat) < 100 from by decide) hf
  have s1 : (∀ b j, w_el ws b j = if b = v_ad (n_v vs 17) ∧ j = (v_iv (n_v vs 21)).toNat then v_iv (n_v vs 15) else w_el w1 b j) ∧ ∀ b k, w_fd ws b k = w_fd w1 b k := s1
  obtain ⟨f16, hf⟩ := fc_un (show (1 : Nat) < 100 from by decide) hf
  have f16 : v_iv (n_v vs 21) = v_iv (n_v vs 20) + v_iv (n_v vs 10) := f16
  obtain ⟨f17, hf⟩ := fc_un (show (1 : Nat) < 100 from by decide) hf
  have f17 : v_iv (n_v vs 20) = v_iv (n_v vs 18) + v_iv (n_v vs 19) := f17
  obtain ⟨f18, hf⟩ := fc_un (show (9 : Nat) < 100 from by decide) hf
  have f18 : n_v vs 18 = w_fd w1 (v_ad (n_v vs 0)) 5 := f18
  obtain ⟨f19, hf⟩ := fc_un (show (9 : Nat) < 100 from by decide) hf
  have f19 : n_v vs 17 = w_fd w1 (v_ad (n_v vs 0)) 2 := f19
  obtain ⟨f20, hf⟩ := fc_un (show (8 : Nat) < 100 from by decide) hf
  have f20 : 0 < v_iv (n_v vs 15) := f20
  obtain ⟨f21, hf⟩ := fc_un (show (8 : Nat) < 100 from by decide) hf
  have f21 : v_iv (n_v vs 16) = 0 := f21
  obtain ⟨f22, hf⟩ := fc_un (show (9 : Nat) < 100 from by decide) hf
  have f22 : n_v vs 16 = w_fd w1 (v_ad (n_v vs 0)) 8 := f22
  obtain ⟨f23, hf⟩ := fc_un (show (23 : Nat) < 100 from by decide) hf
  have f23 : 1 * v_iv (n_v vs 13) + ((-1) * v_iv (n_v vs 3) + 0) ≤ 0 := f23
  obtain ⟨f24, hf⟩ := fc_un (show (23 : Nat) < 100 from by decide) hf
  have f24 : (-1) * v_iv (n_v vs 13) + (1 * v_iv (n_v vs 3) + 0) ≤ 0 := f24
  obtain ⟨f25, hf⟩ := fc_un (show (23 : Nat) < 100 from by decide) hf
  have f25 : 1 * v_iv (n_v vs 14) + ((-1) * v_iv (n_v vs 10) + 0) ≤ 0 := f25
  obtain ⟨f26, hf⟩ := fc_un (show (23 : Nat) < 100 from by decide) hf
  have f26 : (-1) * v_iv (n_v vs 14) + (1 * v_iv (n_v vs 10) + 0) ≤ 0 := f26
  obtain ⟨f27, hf⟩ := fc_un (show (23 : Nat) < 100 from by decide) hf
  have f27 : 1 * v_iv (n_v vs 8) + ((-1) * v_iv (n_v vs 3) + 0) ≤ 0 := f27
  obtain ⟨f28, hf⟩ := fc_un (show (23 : Nat) < 100 from by decide) hf
  have f28 : (-1) * v_iv (n_v vs 8) + (1 * v_iv (n_v vs 3) + 0) ≤ 0 := f28
  obtain ⟨f29, hf⟩ := fc_un (show (23 : Nat) < 100 from by decide) hf
  have f29 : 1 * v_iv (n_v vs 6) + ((-1) * v_iv (n_v vs 3) + 0) ≤ 0 := f29
  obtain ⟨f30, hf⟩ := fc_un (show (23 : Nat) < 100 from by decide) hf
  have f30 : (-1) * v_iv (n_v vs 6) + (1 * v_iv (n_v vs 3) + 0) ≤ 0 := f30
  obtain ⟨f31, hf⟩ := fc_un (show (20 : Nat) < 100 from by decide) hf
  have f31 : (v_iv (n_v vs 1) + 1) ≤ w_ei w1 (w_ar w1 (n_v vs 0) 2) ((w_fi w1 (n_v vs 0) 5 + 2)) := f31
  obtain ⟨f32, hf⟩ := fc_un (show (20 : Nat) < 100 from by decide) hf
  have f32 : 1 * w_fi w1 (n_v vs 0) 15 + ((-1) * w_fi w1 (n_v vs 0) 11 + 0) ≤ 0 := f32
  obtain ⟨f33, hf⟩ := fc_un (show (20 : Nat) < 100 from by decide) hf
  have f33 : ((w_fi w1 (n_v vs 0) 12 = 1) → (w_fi w1 (n_v vs 0) 11 ≤ (w_fi w1 (n_v vs 0) 15 + 8))) ∧ ((w_fi w1 (n_v vs 0) 12 = 0) ∨ ((w_fi w1 (n_v vs 0) 15 + 1) ≤ w_fi w1 (n_v vs 0) 11)) := f33
  obtain ⟨f34, hf⟩ := fc_un (show (20 : Nat) < 100 from by decide) hf
  have f34 : 1 * v_iv (n_v vs 13) + ((-1) * w_fi w1 (n_v vs 0) 11 + 0) ≤ 0 := f34
  obtain ⟨f35, hf⟩ := fc_un (show (20 : Nat) < 100 from by decide) hf
  have f35 : (1 ≤ w_fi w1 (n_v vs 0) 8) ∨ ((w_fi w1 (n_v vs 0) 12 = 0) ∨ ((v_iv (n_v vs 13) + 1) ≤ w_fi w1 (n_v vs 0) 11)) := f35
  obtain ⟨f36, hf⟩ := fc_un (show (20 : Nat) < 100 from by decide) hf
  have f36 : (1 ≤ w_fi w1 (n_v vs 0) 8) ∨ (0 ≤ v_iv (n_v vs 14)) := f36
  obtain ⟨f37, hf⟩ := fc_un (show (20 : Nat) < 100 from by decide) hf
  have f37 : 1 * v_iv (n_v vs 15) + ((-1) * v_iv (n_v vs 12) + 0) ≤ 0 := f37
  obtain ⟨f38, hf⟩ := fc_un (show (20 : Nat) < 100 from by decide) hf
  have f38 : (-1) * v_iv (n_v vs 15) + 0 ≤ 0 := f38
  obtain ⟨ta2, w2, le2, ⟨_, s2⟩, hf⟩ := fc_us (show ¬ (102 : Nat) < 100 from by decide) hf
  obtain ⟨f40, hf⟩ := fc_un (show (23 : Nat) < 100 from by decide) hf
  have f40 : 1 * v_iv (n_v vs 13) + ((-1) * v_iv (n_v vs 3) + 0) ≤ 0 := f40
  obtain ⟨f41, hf⟩ := fc_un (show (23 : Nat) < 100 from by decide) hf
  have f41 : (-1) * v_iv (n_v vs 13) + (1 * v_iv (n_v vs 3) + 0) ≤ 0 := f41
  obtain ⟨f42, hf⟩ := fc_un (show (23 : Nat) < 100 from by decide) hf
  have f42 : 1 * v_iv (n_v vs 14) + ((-1) * v_iv (n_v vs 10) + 0) ≤ 0 := f42
  obtain ⟨f43, hf⟩ := fc_un (show (23 : Nat) < 100 from by decide) hf
  have f43 : (-1) * v_iv (n_v vs 14) + (1 * v_iv (n_v vs 10) + 0) ≤ 0 := f43
  obtain ⟨f44, hf⟩ := fc_un (show (23 : Nat) < 100 from by decide) hf
  have f44 : 1 * v_iv (n_v vs 8) + ((-1) * v_iv (n_v vs 3) + 0) ≤ 0 := f44
  obtain ⟨f45, hf⟩ := fc_un (show (23 : Nat) < 100 from by decide) hf
  have f45 : (-1) * v_iv (n_v vs 8) + (1 * v_iv (n_v vs 3) + 0) ≤ 0 := f45
  obtain ⟨f46, hf⟩ := fc_un (show (23 : Nat) < 100 from by decide) hf
  have f46 : 1 * v_iv (n_v vs 6) + ((-1) * v_iv (n_v vs 3) + 0) ≤ 0 := f46
  obtain ⟨f47, hf⟩ := fc_un (show (23 : Nat) < 100 from by decide) hf
  have f47 : (-1) * v_iv (n_v vs 6) + (1 * v_iv (n_v vs 3) + 0) ≤ 0 := f47
  obtain ⟨ta3, w3, le3, ⟨_, s3⟩, hf⟩ := fc_us (show ¬ (102 : Nat) < 100 from by decide) hf
  obtain ⟨f49, hf⟩ := fc_un (show (23 : Nat) < 100 from by decide) hf
  have f49 : 1 * v_iv (n_v vs 8) + ((-1) * v_iv (n_v vs 3) + 0) ≤ 0 := f49
  obtain ⟨f50, hf⟩ := fc_un (show (23 : Nat) < 100 from by decide) hf
  have f50 : (-1) * v_iv (n_v vs 8) + (1 * v_iv (n_v vs 3) + 0) ≤ 0 := f50
  obtain ⟨f51, hf⟩ := fc_un (show (23 : Nat) < 100 from by decide) hf
  have f51 : 1 * v_iv (n_v vs 6) + ((-1) * v_iv (n_v vs 3) + 0) ≤ 0 := f51
  obtain ⟨f52, hf⟩ := fc_un (show (23 : Nat) < 100 from by decide) hf
  have f52 : (-1) * v_iv (n_v vs 6) + (1 * v_iv (n_v vs 3) + 0) ≤ 0 := f52
  obtain ⟨ta4, w4, le4, ⟨_, s4⟩, hf⟩ := fc_us (show ¬ (102 : Nat) < 100 from by decide) hf
  obtain ⟨f54, hf⟩ := fc_un (show (23 : Nat) < 100 from by decide) hf
  have f54 : 1 * v_iv (n_v vs 6) + ((-1) * v_iv (n_v vs 3) + 0) ≤ 0 := f54
  obtain ⟨f55, hf⟩ := fc_un (show (23 : Nat) < 100 from by decide) hf
  have f55 : (-1) * v_iv (n_v vs 6) + (1 * v_iv (n_v vs 3) + 0) ≤ 0 := f55
  have ar_0_2_1 : w_ar w1 (n_v vs 0) 2 = w_ar ws (n_v vs 0) 2 := by show v_ad (w_fd w1 _ _) = v_ad (w_fd ws _ _); rw [s1.2]
  have cr_0_2 : ta (w_ar ws (n_v vs 0) 2) = some 152 := tv_rg (th_fd hD hth r0 (g := GG_150) rfl (k := 2) (t := (2, 0, 0, [152])) rfl rfl)
  have ad_17 : v_ad (n_v vs 17) = w_ar ws (n_v vs 0) 2 := (congrArg v_ad f19).trans ar_0_2_1
  have g18 : v_iv (n_v vs 18) = w_fi w1 (n_v vs 0) 5 := congrArg v_iv f18
  have g22 : v_iv (n_v vs 16) = w_fi w1 (n_v vs 0) 8 := congrArg v_iv f22
  rw [ar_0_2_1] at f31
  have fe_0_5_1 : w_fi ws (n_v vs 0) 5 = w_fi w1 (n_v vs 0) 5 := congrArg v_iv (s1.2 _ _)
  have fe_0_8_1 : w_fi ws (n_v vs 0) 8 = w_fi w1 (n_v vs 0) 8 := congrArg v_iv (s1.2 _ _)
  have fe_0_11_1 : w_fi ws (n_v vs 0) 11 = w_fi w1 (n_v vs 0) 11 := congrArg v_iv (s1.2 _ _)
  have fe_0_12_1 : w_fi ws (n_v vs 0) 12 = w_fi w1 (n_v vs 0) 12 := congrArg v_iv (s1.2 _ _)
  have fe_0_15_1 : w_fi ws (n_v vs 0) 15 = w_fi w1 (n_v vs 0) 15 := congrArg v_iv (s1.2 _ _)
  have hE_0_2_1 : ∀ j : Int, 0 ≤ j → (j = v_iv (n_v vs 21) → w_ei ws (w_ar ws (n_v vs 0) 2) j = v_iv (n_v vs 15)) ∧ (j ≠ v_iv (n_v vs 21) → w_ei ws (w_ar ws (n_v vs 0) 2) j = w_ei w1 (w_ar ws (n_v vs 0) 2) j) := fun j hj => ⟨fun h => by unfold w_ei; rw [s1.1, if_pos ⟨ad_17.symm, by rw [h]⟩], fun h => by unfold w_ei; rw [s1.1, if_neg (fun e => h (by have := e.2; omega))]⟩
  have kz_0_8 : 0 ≤ w_fi ws (n_v vs 0) 8 ∧ w_fi ws (n_v vs 0) 8 ≤ 5 := tv_rng (th_fd hD hth r0 (g := GG_150) rfl (k := 8) (t := (0, 0, 5, [])) rfl rfl)
  have kz_0_11 : 0 ≤ w_fi ws (n_v vs 0) 11 ∧ w_fi ws (n_v vs 0) 11 ≤ 2000 := tv_rng (th_fd hD hth r0 (g := GG_150) rfl (k := 11) (t := (0, 0, 2000, [])) rfl rfl)
  have kz_0_12 : 0 ≤ w_fi ws (n_v vs 0) 12 ∧ w_fi ws (n_v vs 0) 12 ≤ 4 := tv_rng (th_fd hD hth r0 (g := GG_150) rfl (k := 12) (t := (0, 0, 4, [])) rfl rfl)
  have kz_0_15 : 0 ≤ w_fi ws (n_v vs 0) 15 ∧ w_fi ws (n_v vs 0) 15 ≤ 2000 := tv_rng (th_fd hD hth r0 (g := GG_150) rfl (k := 15) (t := (0, 0, 2000, [])) rfl rfl)
  first | have hJ0 : w_ei w1 (w_ar ws (n_v vs 0) 2) ((w_fi w1 (n_v vs 0) 5 + 2)) = w_ei w1 (w_ar ws (n_v vs 0) 2) ((w_fi ws (n_v vs 0) 5 + 2)) := congrArg _ (show ((w_fi w1 (n_v vs 0) 5 + 2) : Int) = (w_fi ws (n_v vs 0) 5 + 2) from by omega) | skip
  first | have hI1 := (hE_0_2_1 ((w_fi ws (n_v vs 0) 5 + 2)) (by omega)).2 (by omega) | have hI1 := (hE_0_2_1 ((w_fi ws (n_v vs 0) 5 + 2)) (by omega)).1 (by omega) | skip
  obtain ⟨x, ex, hx⟩ := iv_ex (ta := ta) (lo := 0) (hi := 2000) (z := v_iv (n_v vs 3)) (by omega) (by omega) (by omega) (by omega)
  have ex2 : v_iv (Value.int x) = v_iv (n_v vs 3) := ex
  have ex3 : 0 ≤ v_iv (Value.int x) ∧ v_iv (Value.int x) ≤ 2000 := tv_rng hx
  have e_0 : n_v (vs ++ [Value.int x]) 0 = n_v vs 0 := n_v_old (by rw [hl]; decide)
  have e_1 : n_v (vs ++ [Value.int x]) 1 = n_v vs 1 := n_v_old (by rw [hl]; decide)
  have e_3 : n_v (vs ++ [Value.int x]) 3 = n_v vs 3 := n_v_old (by rw [hl]; decide)
  have e_23 : n_v (vs ++ [Value.int x]) 23 = Value.int x := n_v_new hl
  have nf0 : fc_1 (20, [1, 0], [50, 1, 1, 1005, 1002, 0, 6, 4, 2, 1, 0, 0, 1, 3, 1, 2, 4, 3, 2, 1, 5, 0, 2]) ws (vs ++ [Value.int x]) := by
    refine ⟨fun n hn => ?_, ?_⟩
    · have hn : n ∈ [1, 0] := hn
      rw [List.length_append, hl]
      simp only [List.mem_cons, List.not_mem_nil, or_false] at hn
      show n < 23 + 1; omega
    · show (v_iv (n_v (vs ++ [Value.int x]) 1) + 1) ≤ w_ei ws (w_ar ws (n_v (vs ++ [Value.int x]) 0) 2) ((w_fi ws (n_v (vs ++ [Value.int x]) 0) 5 + 2))
      rw [e_0]
      rw [e_1]
      first | omega | grind
  have nf1 : fc_1 (23, [23, 3], [0, 1, -1]) ws (vs ++ [Value.int x]) := by
    refine ⟨fun n hn => ?_, ?_⟩
    · have hn : n ∈ [23, 3] := hn
      rw [List.length_append, hl]
      simp only [List.mem_cons, List.not_mem_nil, or_false] at hn
      show n < 23 + 1; omega
    · show 1 * v_iv (n_v (vs ++ [Value.int x]) 23) + ((-1) * v_iv (n_v (vs ++ [Value.int x]) 3) + 0) ≤ 0
      rw [e_3]
      rw [e_23]
      omega
  have nf2 : fc_1 (23, [23, 3], [0, -1, 1]) ws (vs ++ [Value.int x]) := by
    refine ⟨fun n hn => ?_, ?_⟩
    · have hn : n ∈ [23, 3] := hn
      rw [List.length_append, hl]
      simp only [List.mem_cons, List.not_mem_nil, or_false] at hn
      show n < 23 + 1; omega
    · show (-1) * v_iv (n_v (vs ++ [Value.int x]) 23) + (1 * v_iv (n_v (vs ++ [Value.int x]) 3) + 0) ≤ 0
      rw [e_3]
      rw [e_23]
      omega
  have nf3 : fc_1 (20, [0, 0], [30, 0, 1, 1, 15, -1, 1, 11]) ws (vs ++ [Value.int x]) := by
    refine ⟨fun n hn => ?_, ?_⟩
    · have hn : n ∈ [0, 0] := hn
      rw [List.length_append, hl]
      simp only [List.mem_cons, List.not_mem_nil, or_false] at hn
      show n < 23 + 1; omega
    · show 1 * w_fi ws (n_v (vs ++ [Value.int x]) 0) 15 + ((-1) * w_fi ws (n_v (vs ++ [Value.int x]) 0) 11 + 0) ≤ 0
      rw [e_0]
      omega
  have nf4 : fc_1 (20, [0], [50, 3, 0, 12, 11, 15, 2, 21, 4, 7, 1, 3, 2, 0, 12, 0, 1, 0, 3, 2, 0, 11, 4, 3, 2, 0, 15, 0, 8, 3, 7, 1, 3, 2, 0, 12, 0, 0, 0, 7, 4, 3, 2, 0, 15, 0, 1, 2, 0, 11]) ws (vs ++ [Value.int x]) := by
    refine ⟨fun n hn => ?_, ?_⟩
    · have hn : n ∈ [0] := hn
      rw [List.length_append, hl]
      simp only [List.mem_cons, List.not_mem_nil, or_false] at hn
      show n < 23 + 1; omega
    · show ((w_fi ws (n_v (vs ++ [Value.int x]) 0) 12 = 1) → (w_fi ws (n_v (vs ++ [Value.int x]) 0) 11 ≤ (w_fi ws (n_v (vs ++ [Value.int x]) 0) 15 + 8))) ∧ ((w_fi ws (n_v (vs ++ [Value.int x]) 0) 12 = 0) ∨ ((w_fi ws (n_v (vs ++ [Value.int x]) 0) 15 + 1) ≤ w_fi ws (n_v (vs ++ [Value.int x]) 0) 11))
      rw [e_0]
      first | omega | grind
  have nf5 : fc_1 (20, [23, 0], [30, 0, 1, 0, 0, -1, 1, 11]) ws (vs ++ [Value.int x]) := by
    refine ⟨fun n hn => ?_, ?_⟩
    · have hn : n ∈ [23, 0] := hn
      rw [List.length_append, hl]
      simp only [List.mem_cons, List.not_mem_nil, or_false] at hn
      show n < 23 + 1; omega
    · show 1 * v_iv (n_v (vs ++ [Value.int x]) 23) + ((-1) * w_fi ws (n_v (vs ++ [Value.int x]) 0) 11 + 0) ≤ 0
      rw [e_0]
      rw [e_23]
      omega
  have nf6 : fc_1 (20, [0, 23], [50, 3, 0, 8, 12, 11, 3, 7, 0, 2, 0, 1, 2, 0, 8, 3, 7, 1, 3, 2, 0, 12, 0, 0, 0, 6, 4, 2, 1, 1, 0, 1, 2, 0, 11]) ws (vs ++ [Value.int x]) := by
    refine ⟨fun n hn => ?_, ?_⟩
    · have hn : n ∈ [0, 23] := hn
      rw [List.length_append, hl]
      simp only [List.mem_cons, List.not_mem_nil, or_false] at hn
      show n < 23 + 1; omega
    · show (1 ≤ w_fi ws (n_v (vs ++ [Value.int x]) 0) 8) ∨ ((w_fi ws (n_v (vs ++ [Value.int x]) 0) 12 = 0) ∨ ((v_iv (n_v (vs ++ [Value.int x]) 23) + 1) ≤ w_fi ws (n_v (vs ++ [Value.int x]) 0) 11))
      rw [e_0]
      rw [e_23]
      first | omega | grind
  exact ⟨(fun _ h => (by cases h)), [Value.int x], ag_one hx, List.forall_mem_cons.mpr ⟨⟨show (20 : Nat) < 100 from by decide, nf0⟩, List.forall_mem_cons.mpr ⟨⟨show (23 : Nat) < 100 from by decide, nf1⟩, List.forall_mem_cons.mpr ⟨⟨show (23 : Nat) < 100 from by decide, nf2⟩, List.forall_mem_cons.mpr ⟨⟨show (20 : Nat) < 100 from by decide, nf3⟩, List.forall_mem_cons.mpr ⟨⟨show (20 : Nat) < 100 from by decide, nf4⟩, List.forall_mem_cons.mpr ⟨⟨show (20 : Nat) < 100 from by decide, nf5⟩, List.forall_mem_cons.mpr ⟨⟨show (20 : Nat) < 100 from by decide, nf6⟩, (fun _ h => (by cases h))⟩⟩⟩⟩⟩⟩⟩, (fun _ h => (by cases h))⟩
def o_Mo_item_at_k0_13 : or_T := (94, 24, [(0, (2, 0, 0, [150])), (1, (0, 0, 0, [])), (3, (0, 0, 2000, [])), (6, (0, 0, 2000, [])), (8, (0, 0, 2000, [])), (12, (0, 99, 99, [])), (13, (0, 0, 2000, [])), (15, (0, 1, 99, [])), (17, (2, 0, 0, [152])), (23, (0, 0, 2000, []))], [(20, [1, 0], [50, 1, 1, 1005, 1002, 0, 6, 4, 2, 1, 0, 0, 1, 3, 1, 2, 4, 3, 2, 1, 5, 0, 2]), (23, [23, 3], [0, 1, -1]), (23, [23, 3], [0, -1, 1]), (23, [13, 3], [0, 1, -1]), (23, [13, 3], [0, -1, 1]), (23, [8, 3], [0, 1, -1]), (23, [8, 3], [0, -1, 1]), (23, [6, 3], [0, 1, -1]), (23, [6, 3], [0, -1, 1]), (20, [15, 12], [30, 0, 1, 0, 0, -1, 0, 0]), (20, [15], [30, 0, -1, 0, 0]), (20, [0, 0], [30, 0, 1, 1, 15, -1, 1, 11]), (20, [0], [50, 3, 0, 12, 11, 15, 2, 21, 4, 7, 1, 3, 2, 0, 12, 0, 1, 0, 3, 2, 0, 11, 4, 3, 2, 0, 15, 0, 8, 3, 7, 1, 3, 2, 0, 12, 0, 0, 0, 7, 4, 3, 2, 0, 15, 0, 1, 2, 0, 11]), (20, [23, 0], [30, 0, 1, 0, 0, -1, 1, 11]), (20, [0, 23], [50, 2, 0, 8, 11, 3, 7, 0, 2, 0, 1, 2, 0, 8, 0, 6, 4, 2, 1, 1, 0, 1, 2, 0, 11]), (102, [23], [0, 13008, 13009, 13011, 13012, 13013, 13014, 13015]), (23, [23, 3], [0, 1, -1]), (23, [23, 3], [0, -1, 1]), (23, [13, 3], [0, 1, -1]), (23, [13, 3], [0, -1, 1]), (23, [8, 3], [0, 1, -1]), (23, [8, 3], [0, -1, 1]), (23, [6, 3], [0, 1, -1]), (23, [6, 3], [0, -1, 1]), (100, [17, 21, 15], []), (8, [15], [4]), (23, [13, 3], [0, 1, -1]), (23, [13, 3], [0, -1, 1]), (23, [8, 3], [0, 1, -1]), (23, [8, 3], [0, -1, 1]), (23, [6, 3], [0, 1, -1]), (23, [6, 3], [0, -1, 1]), (102, [14], [0, 13008, 13009, 13011, 13012, 13013, 13014, 13015]), (23, [13, 3], [0, 1, -1]), (23, [13, 3], [0, -1, 1]), (23, [8, 3], [0, 1, -1]), (23, [8, 3], [0, -1, 1]), (23, [6, 3], [0, 1, -1]), (23, [6, 3], [0, -1, 1]), (102, [9], [5708990770823839524233143877797980545530986496, 13008, 13009, 13011, 13012, 13013, 13014, 13015]), (23, [8, 3], [0, 1, -1]), (23, [8, 3], [0, -1, 1]), (23, [6, 3], [0, 1, -1]), (23, [6, 3], [0, -1, 1]), (102, [6], [0, 13011, 13012, 13013, 13014, 13015]), (23, [6, 3], [0, 1, -1]), (23, [6, 3], [0, -1, 1])], [], [], [(20, [3, 0], [30, 0, 1, 0, 0, -1, 1, 11]), (20, [0, 3], [50, 2, 0, 8, 11, 3, 7, 0, 2, 0, 1, 2, 0, 8, 0, 6, 4, 2, 1, 1, 0, 1, 2, 0, 11])], [], [])
theorem oo_Mo_item_at_k0_13 {kA : Nat → ClassId} : or_ok kA GG o_Mo_item_at_k0_13 := by
  intro A ta ws vs hD hth hl hk hds hf
  have hl : vs.length = 24 := hl
  have hk : ∀ q ∈ ([(0, (2, 0, 0, [150])), (1, (0, 0, 0, [])), (3, (0, 0, 2000, [])), (6, (0, 0, 2000, [])), (8, (0, 0, 2000, [])), (12, (0, 99, 99, [])), (13, (0, 0, 2000, [])), (15, (0, 1, 99, [])), (17, (2, 0, 0, [152])), (23, (0, 0, 2000, []))] : List (Nat × tv_T)), tv_ok ta q.2 (n_v vs q.1) := hk
  obtain ⟨t0, hk⟩ := List.forall_mem_cons.mp hk
  have t0 : tv_ok ta (2, 0, 0, [150]) (n_v vs 0) := t0
  have r0 : ta (v_ad (n_v vs 0)) = some 150 := tv_rg t0
  obtain ⟨t1, hk⟩ := List.forall_mem_cons.mp hk
  have t1 : tv_ok ta (0, 0, 0, []) (n_v vs 1) := t1
  have k1 : 0 ≤ v_iv (n_v vs 1) ∧ v_iv (n_v vs 1) ≤ 0 := tv_rng t1
  obtain ⟨t3, hk⟩ := List.forall_mem_cons.mp hk
  have t3 : tv_ok ta (0, 0, 2000, []) (n_v vs 3) := t3
  have k3 : 0 ≤ v_iv (n_v vs 3) ∧ v_iv (n_v vs 3) ≤ 2000 := tv_rng t3
  obtain ⟨t6, hk⟩ := List.forall_mem_cons.mp hk
  have t6 : tv_ok ta (0, 0, 2000, []) (n_v vs 6) := t6
  have k6 : 0 ≤ v_iv (n_v vs 6) ∧ v_iv (n_v vs 6) ≤ 2000 := tv_rng t6
  obtain ⟨t8, hk⟩ := List.forall_mem_cons.mp hk
  have t8 : tv_ok ta (0, 0, 2000, []) (n_v vs 8) := t8
  have k8 : 0 ≤ v_iv (n_v vs 8) ∧ v_iv (n_v vs 8) ≤ 2000 := tv_rng t8
  obtain ⟨t12, hk⟩ := List.forall_mem_cons.mp hk
  have t12 : tv_ok ta (0, 99, 99, []) (n_v vs 12) := t12
  have k12 : 99 ≤ v_iv (n_v vs 12) ∧ v_iv (n_v vs 12) ≤ 99 := tv_rng t12
  obtain ⟨t13, hk⟩ := List.forall_mem_cons.mp hk
  have t13 : tv_ok ta (0, 0, 2000, []) (n_v vs 13) := t13
  have k13 : 0 ≤ v_iv (n_v vs 13) ∧ v_iv (n_v vs 13) ≤ 2000 := tv_rng t13
  obtain ⟨t15, hk⟩ := List.forall_mem_cons.mp hk
  have t15 : tv_ok ta (0, 1, 99, []) (n_v vs 15) := t15
  have k15 : 1 ≤ v_iv (n_v vs 15) ∧ v_iv (n_v vs 15) ≤ 99 := tv_rng t15
  obtain ⟨t17, hk⟩ := List.forall_mem_cons.mp hk
  have t17 : tv_ok ta (2, 0, 0, [152]) (n_v vs 17) := t17
  have r17 : ta (v_ad (n_v vs 17)) = some 152 := tv_rg t17
  obtain ⟨t23, hk⟩ := List.forall_mem_cons.mp hk
  have t23 : tv_ok ta (0, 0, 2000, []) (n_v vs 23) := t23
  have k23 : 0 ≤ v_iv (n_v vs 23) ∧ v_iv (n_v vs 23) ≤ 2000 := tv_rng t23
  have hf : fc_ok [(20, [1, 0], [50, 1, 1, 1005, 1002, 0, 6, 4, 2, 1, 0, 0, 1, 3, 1, 2, 4, 3, 2, 1, 5, 0, 2]), (23, [23, 3], [0, 1, -1]), (23, [23, 3], [0, -1, 1]), (23, [13, 3], [0, 1, -1]), (23, [13, 3], [0, -1, 1]), (23, [8, 3], [0, 1, -1]), (23, [8, 3], [0, -1, 1]), (23, [6, 3], [0, 1, -1]), (23, [6, 3], [0, -1, 1]), (20, [15, 12], [30, 0, 1, 0, 0, -1, 0, 0]), (20, [15], [30, 0, -1, 0, 0]), (20, [0, 0], [30, 0, 1, 1, 15, -1, 1, 11]), (20, [0], [50, 3, 0, 12, 11, 15, 2, 21, 4, 7, 1, 3, 2, 0, 12, 0, 1, 0, 3, 2, 0, 11, 4, 3, 2, 0, 15, 0, 8, 3, 7, 1, 3, 2, 0, 12, 0, 0, 0, 7, 4, 3, 2, 0, 15, 0, 1, 2, 0, 11]), (20, [23, 0], [30, 0, 1, 0, 0, -1, 1, 11]), (20, [0, 23], [50, 2, 0, 8, 11, 3, 7, 0, 2, 0, 1, 2, 0, 8, 0, 6, 4, 2, 1, 1, 0, 1, 2, 0, 11]), (102, [23], [0, 13008, 13009, 13011, 13012, 13013, 13014, 13015]), (23, [23, 3], [0, 1, -1]), (23, [23, 3], [0, -1, 1]), (23, [13, 3], [0, 1, -1]), (23, [13, 3], [0, -1, 1]), (23, [8, 3], [0, 1, -1]), (23, [8, 3], [0, -1, 1]), (23, [6, 3], [0, 1, -1]), (23, [6, 3], [0, -1, 1]), (100, [17, 21, 15], []), (8, [15], [4]), (23, [13, 3], [0, 1, -1]), (23, [13, 3], [0, -1, 1]), (23, [8, 3], [0, 1, -1]), (23, [8, 3], [0, -1, 1]), (23, [6, 3], [0, 1, -1]), (23, [6, 3], [0, -1, 1]), (102, [14], [0, 13008, 13009, 13011, 13012, 13013, 13014, 13015]), (23, [13, 3], [0, 1, -1]), (23, [13, 3], [0, -1, 1]), (23, [8, 3], [0, 1, -1]), (23, [8, 3], [0, -1, 1]), (23, [6, 3], [0, 1, -1]), (23, [6, 3], [0, -1, 1]), (102, [9], [5708990770823839524233143877797980545530986496, 13008, 13009, 13011, 13012, 13013, 13014, 13015]), (23, [8, 3], [0, 1, -1]), (23, [8, 3], [0, -1, 1]), (23, [6, 3], [0, 1, -1]), (23, [6, 3], [0, -1, 1]), (102, [6], [0, 13011, 13012, 13013, 13014, 13015]), (23, [6, 3], [0, 1, -1]), (23, [6, 3], [0, -1, 1])] ta ws vs := hf
  obtain ⟨f0, hf⟩ := fc_un (show (20 : Nat) < 100 from by decide) hf
  have f0 : (v_iv (n_v vs 1) + 1) ≤ w_ei ws (w_ar ws (n_v vs 0) 2) ((w_fi ws (n_v vs 0) 5 + 2)) := f0
  obtain ⟨f1, hf⟩ := fc_un (show (23 : Nat) < 100 from by decide) hf
  have f1 : 1 * v_iv (n_v vs 23) + ((-1) * v_iv (n_v vs 3) + 0) ≤ 0 := f1
  obtain ⟨f2, hf⟩ := fc_un (show (23 : Nat) < 100 from by decide) hf
  have f2 : (-1) * v_iv (n_v vs 23) + (1 * v_iv (n_v vs 3) + 0) ≤ 0 := f2
  obtain ⟨f3, hf⟩ := fc_un (show (23 : Nat) < 100 from by decide) hf
  have f3 : 1 * v_iv (n_v vs 13) + ((-1) * v_iv (n_v vs 3) + 0) ≤ 0 := f3
  obtain ⟨f4, hf⟩ := fc_un (show (23 : Nat) < 100 from by decide) hf
  have f4 : (-1) * v_iv (n_v vs 13) + (1 * v_iv (n_v vs 3) + 0) ≤ 0 := f4
  obtain ⟨f5, hf⟩ := fc_un (show (23 : Nat) < 100 from by decide) hf
  have f5 : 1 * v_iv (n_v vs 8) + ((-1) * v_iv (n_v vs 3) + 0) ≤ 0 := f5
  obtain ⟨f6, hf⟩ := fc_un (show (23 : Nat) < 100 from by decide) hf
  have f6 : (-1) * v_iv (n_v vs 8) + (1 * v_iv (n_v vs 3) + 0) ≤ 0 := f6
  obtain ⟨f7, hf⟩ := fc_un (show (23 : Nat) < 100 from by decide) hf
  have f7 : 1 * v_iv (n_v vs 6) + ((-1) * v_iv (n_v vs 3) + 0) ≤ 0 := f7
  obtain ⟨f8, hf⟩ := fc_un (show (23 : Nat) < 100 from by decide) hf
  have f8 : (-1) * v_iv (n_v vs 6) + (1 * v_iv (n_v vs 3) + 0) ≤ 0 := f8
  obtain ⟨f9, hf⟩ := fc_un (show (20 : Nat) < 100 from by decide) hf
  have f9 : 1 * v_iv (n_v vs 15) + ((-1) * v_iv (n_v vs 12) + 0) ≤ 0 := f9
  obtain ⟨f10, hf⟩ := fc_un (show (20 : Nat) < 100 from by decide) hf
  have f10 : (-1) * v_iv (n_v vs 15) + 0 ≤ 0 := f10
  obtain ⟨f11, hf⟩ := fc_un (show (20 : Nat) < 100 from by decide) hf
  have f11 : 1 * w_fi ws (n_v vs 0) 15 + ((-1) * w_fi ws (n_v vs 0) 11 + 0) ≤ 0 := f11
  obtain ⟨f12, hf⟩ := fc_un (show (20 : Nat) < 100 from by decide) hf
  have f12 : ((w_fi ws (n_v vs 0) 12 = 1) → (w_fi ws (n_v vs 0) 11 ≤ (w_fi ws (n_v vs 0) 15 + 8))) ∧ ((w_fi ws (n_v vs 0) 12 = 0) ∨ ((w_fi ws (n_v vs 0) 15 + 1) ≤ w_fi ws (n_v vs 0) 11)) := f12
  obtain ⟨f13, hf⟩ := fc_un (show (20 : Nat) < 100 from by decide) hf
  have f13 : 1 * v_iv (n_v vs 23) + ((-1) * w_fi ws (n_v vs 0) 11 + 0) ≤ 0 := f13
  obtain ⟨f14, hf⟩ := fc_un (show (20 : Nat) < 100 from by decide) hf
  have f14 : (1 ≤ w_fi ws (n_v vs 0) 8) ∨ ((v_iv (n_v vs 23) + 1) ≤ w_fi ws (n_v vs 0) 11) := f14
  obtain ⟨ta1, w1, le1, ⟨_, s1⟩, hf⟩ := fc_us (show ¬ (102 : Nat) < 100 from by decide) hf
  obtain ⟨f16, hf⟩ := fc_un (show (23 : Nat) < 100 from by decide) hf
  have f16 : 1 * v_iv (n_v vs 23) + ((-1) * v_iv (n_v vs 3) + 0) ≤ 0 := f16
  obtain ⟨f17, hf⟩ := fc_un (show (23 : Nat) < 100 from by decide) hf
  have f17 : (-1) * v_iv (n_v vs 23) + (1 * v_iv (n_v vs 3) + 0) ≤ 0 := f17
  obtain ⟨f18, hf⟩ := fc_un (show (23 : Nat) < 100 from by decide) hf
  have f18 : 1 * v_iv (n_v vs 13) + ((-1) * v_iv (n_v vs 3) + 0) ≤ 0 := f18
  obtain ⟨f19, hf⟩ := fc_un (show (23 : Nat) < 100 from by decide) hf
  have f19 : (-1) * v_iv (n_v vs 13) + (1 * v_iv (n_v vs 3) + 0) ≤ 0 := f19
  obtain ⟨f20, hf⟩ := fc_un (show (23 : Nat) < 100 from by decide) hf
  have f20 : 1 * v_iv (n_v vs 8) + ((-1) * v_iv (n_v vs 3) + 0) ≤ 0 := f20
  obtain ⟨f21, hf⟩ := fc_un (show (23 : Nat) < 100 from by decide) hf
  have f21 : (-1) * v_iv (n_v vs 8) + (1 * v_iv (n_v vs 3) + 0) ≤ 0 := f21
  obtain ⟨f22, hf⟩ := fc_un (show (23 : Nat) < 100 from by decide) hf
  have f22 : 1 * v_iv (n_v vs 6) + ((-1) * v_iv (n_v vs 3) + 0) ≤ 0 := f22
  obtain ⟨f23, hf⟩ := fc_un (show (23 : Nat) < 100 from by decide) hf
  have f23 : (-1) * v_iv (n_v vs 6) + (1 * v_iv (n_v vs 3) + 0) ≤ 0 := f23
  obtain ⟨ta2, w2, le2, ⟨_, s2⟩, hf⟩ := fc_us (show ¬ (100 : Nat) < 100 from by decide) hf
  have s2 : (∀ b j, w_el w1 b j = if b = v_ad (n_v vs 17) ∧ j = (v_iv (n_v vs 21)).toNat then v_iv (n_v vs 15) else w_el w2 b j) ∧ ∀ b k, w_fd w1 b k = w_fd w2 b k := s2
  obtain ⟨f25, hf⟩ := fc_un (show (8 : Nat) < 100 from by decide) hf
  have f25 : 0 < v_iv (n_v vs 15) := f25
  obtain ⟨f26, hf⟩ := fc_un (show (23 : Nat) < 100 from by decide) hf
  have f26 : 1 * v_iv (n_v vs 13) + ((-1) * v_iv (n_v vs 3) + 0) ≤ 0 := f26
  obtain ⟨f27, hf⟩ := fc_un (show (23 : Nat) < 100 from by decide) hf
  have f27 : (-1) * v_iv (n_v vs 13) + (1 * v_iv (n_v vs 3) + 0) ≤ 0 := f27
  obtain ⟨f28, hf⟩ := fc_un (show (23 : Nat) < 100 from by decide) hf
  have f28 : 1 * v_iv (n_v vs 8) + ((-1) * v_iv (n_v vs 3) + 0) ≤ 0 := f28
  obtain ⟨f29, hf⟩ := fc_un (show (23 : Nat) < 100 from by decide) hf
  have f29 : (-1) * v_iv (n_v vs 8) + (1 * v_iv (n_v vs 3) + 0) ≤ 0 := f29
  obtain ⟨f30, hf⟩ := fc_un (show (23 : Nat) < 100 from by decide) hf
  have f30 : 1 * v_iv (n_v vs 6) + ((-1) * v_iv (n_v vs 3) + 0) ≤ 0 := f30
  obtain ⟨f31, hf⟩ := fc_un (show (23 : Nat) < 100 from by decide) hf
  have f31 : (-1) * v_iv (n_v vs 6) + (1 * v_iv (n_v vs 3) + 0) ≤ 0 := f31
  obtain ⟨ta3, w3, le3, ⟨_, s3⟩, hf⟩ := fc_us (show ¬ (102 : Nat) < 100 from by decide) hf
  obtain ⟨f33, hf⟩ := fc_un (show (23 : Nat) < 100 from by decide) hf
  have f33 : 1 * v_iv (n_v vs 13) + ((-1) * v_iv (n_v vs 3) + 0) ≤ 0 := f33
  obtain ⟨f34, hf⟩ := fc_un (show (23 : Nat) < 100 from by decide) hf
  have f34 : (-1) * v_iv (n_v vs 13) + (1 * v_iv (n_v vs 3) + 0) ≤ 0 := f34
  obtain ⟨f35, hf⟩ := fc_un (show (23 : Nat) < 100 from by decide) hf
  have f35 : 1 * v_iv (n_v vs 8) + ((-1) * v_iv (n_v vs 3) + 0) ≤ 0 := f35
  obtain ⟨f36, hf⟩ := fc_un (show (23 : Nat) < 100 from by decide) hf
  have f36 : (-1) * v_iv (n_v vs 8) + (1 * v_iv (n_v vs 3) + 0) ≤ 0 := f36
  obtain ⟨f37, hf⟩ := fc_un (show (23 : Nat) < 100 from by decide) hf
  have f37 : 1 * v_iv (n_v vs 6) + ((-1) * v_iv (n_v vs 3) + 0) ≤ 0 := f37
  obtain ⟨f38, hf⟩ := fc_un (show (23 : Nat) < 100 from by decide) hf
  have f38 : (-1) * v_iv (n_v vs 6) + (1 * v_iv (n_v vs 3) + 0) ≤ 0 := f38
  obtain ⟨ta4, w4, le4, ⟨_, s4⟩, hf⟩ := fc_us (show ¬ (102 : Nat) < 100 from by decide) hf
  obtain ⟨f40, hf⟩ := fc_un (show (23 : Nat) < 100 from by decide) hf
  have f40 : 1 * v_iv (n_v vs 8) + ((-1) * v_iv (n_v vs 3) + 0) ≤ 0 := f40
  obtain ⟨f41, hf⟩ := fc_un (show (23 : Nat) < 100 from by decide) hf
  have f41 : (-1) * v_iv (n_v vs 8) + (1 * v_iv (n_v vs 3) + 0) ≤ 0 := f41
  obtain ⟨f42, hf⟩ := fc_un (show (23 : Nat) < 100 from by decide) hf
  have f42 : 1 * v_iv (n_v vs 6) + ((-1) * v_iv (n_v vs 3) + 0) ≤ 0 := f42
  obtain ⟨f43, hf⟩ := fc_un (show (23 : Nat) < 100 from by decide) hf
  have f43 : (-1) * v_iv (n_v vs 6) + (1 * v_iv (n_v vs 3) + 0) ≤ 0 := f43
  obtain ⟨ta5, w5, le5, ⟨_, s5⟩, hf⟩ := fc_us (show ¬ (102 : Nat) < 100 from by decide) hf
  obtain ⟨f45, hf⟩ := fc_un (show (23 : Nat) < 100 from by decide) hf
  have f45 : 1 * v_iv (n_v vs 6) + ((-1) * v_iv (n_v vs 3) + 0) ≤ 0 := f45
  obtain ⟨f46, hf⟩ := fc_un (show (23 : Nat) < 100 from by decide) hf
  have f46 : (-1) * v_iv (n_v vs 6) + (1 * v_iv (n_v vs 3) + 0) ≤ 0 := f46
  have cr_0_2 : ta (w_ar ws (n_v vs 0) 2) = some 152 := tv_rg (th_fd hD hth r0 (g := GG_150) rfl (k := 2) (t := (2, 0, 0, [152])) rfl rfl)
  have kz_0_8 : 0 ≤ w_fi ws (n_v vs 0) 8 ∧ w_fi ws (n_v vs 0) 8 ≤ 5 := tv_rng (th_fd hD hth r0 (g := GG_150) rfl (k := 8) (t := (0, 0, 5, [])) rfl rfl)
  have kz_0_11 : 0 ≤ w_fi ws (n_v vs 0) 11 ∧ w_fi ws (n_v vs 0) 11 ≤ 2000 := tv_rng (th_fd hD hth r0 (g := GG_150) rfl (k := 11) (t := (0, 0, 2000, [])) rfl rfl)
  have kz_0_12 : 0 ≤ w_fi ws (n_v vs 0) 12 ∧ w_fi ws (n_v vs 0) 12 ≤ 4 := tv_rng (th_fd hD hth r0 (g := GG_150) rfl (k := 12) (t := (0, 0, 4, [])) rfl rfl)
  have kz_0_15 : 0 ≤ w_fi ws (n_v vs 0) 15 ∧ w_fi ws (n_v vs 0) 15 ≤ 2000 := tv_rng (th_fd hD hth r0 (g := GG_150) rfl (k := 15) (t := (0, 0, 2000, [])) rfl rfl)
  have nf0 : fc_1 (20, [3, 0], [30, 0, 1, 0, 0, -1, 1, 11]) ws (vs) := by
    refine ⟨fun n hn => ?_, ?_⟩
    · have hn : n ∈ [3, 0] := hn
      rw [hl]
      simp only [List.mem_cons, List.not_mem_nil, or_false] at hn
      show n < 24; omega
    · show 1 * v_iv (n_v vs 3) + ((-1) * w_fi ws (n_v vs 0) 11 + 0) ≤ 0
      omega
  have nf1 : fc_1 (20, [0, 3], [50, 2, 0, 8, 11, 3, 7, 0, 2, 0, 1, 2, 0, 8, 0, 6, 4, 2, 1, 1, 0, 1, 2, 0, 11]) ws (vs) := by
    refine ⟨fun n hn => ?_, ?_⟩
    · have hn : n ∈ [0, 3] := hn
      rw [hl]
      simp only [List.mem_cons, List.not_mem_nil, or_false] at hn
      show n < 24; omega
    · show (1 ≤ w_fi ws (n_v vs 0) 8) ∨ ((v_iv (n_v vs 3) + 1) ≤ w_fi ws (n_v vs 0) 11)
      first | omega | grind
  refine ⟨(fun _ h => (by cases h)), [], trivial, ?_, (fun _ h => (by cases h))⟩
  rw [List.append_nil]
  exact List.forall_mem_cons.mpr ⟨⟨show (20 : Nat) < 100 from by decide, nf0⟩, List.forall_mem_cons.mpr ⟨⟨show (20 : Nat) < 100 from by decide, nf1⟩, (fun _ h => (by cases h))⟩⟩
def n_Mo_item_at_k0_an : List an_T := []
def t_Mo_item_at_k0_ct : ct_L := [(1, 460, e_Mo_next), (1, 491, e_Mo_need), (1, 494, e_Mo_met), (1, 506, e_Mo_edgeItem), (16, 469, e_Mo_isWord_at_s5000), (85, 499, e_Mo_of_at_s5002), (226, 469, e_Mo_isWord_at_s5001), (253, 503, e_Mo_groupItem_at_k0), (1000001, 467, en_ro [] (2, 0, 0, [5000])), (1000001, 473, en_ro [] (2, 0, 0, [5001])), (1000001, 497, en_ro [] (2, 0, 0, [5002]))]
set_option maxRecDepth 100000 in
theorem c_Mo_item_at_k0 {l : Launch} {D : va_G} {kA : Nat → ClassId} (h_Mo_edgeItem : ct_ok l D kA GG y_Mo_edgeItem z_Mo_edgeItem e_Mo_edgeItem) (h_Mo_groupItem_at_k0 : ct_ok l D kA GG y_Mo_groupItem_at_k0 z_Mo_groupItem_at_k0 e_Mo_groupItem_at_k0) (h_Mo_isWord_at_s5000 : ct_ok l D kA GG y_Mo_isWord_at_s5000 z_Mo_isWord_at_s5000 e_Mo_isWord_at_s5000) (h_Mo_isWord_at_s5001 : ct_ok l D kA GG y_Mo_isWord_at_s5001 z_Mo_isWord_at_s5001 e_Mo_isWord_at_s5001) (h_Mo_met : ct_ok l D kA GG y_Mo_met z_Mo_met e_Mo_met) (h_Mo_need : ct_ok l D kA GG y_Mo_need z_Mo_need e_Mo_need) (h_Mo_next : ct_ok l D kA GG y_Mo_next z_Mo_next e_Mo_next) (h_Mo_of_at_s5002 : ct_ok l D kA GG y_Mo_of_at_s5002 z_Mo_of_at_s5002 e_Mo_of_at_s5002) : ct_ok l D kA GG y_Mo_item_at_k0 z_Mo_item_at_k0 e_Mo_item_at_k0 := chk_all_ok (FT := [(16, 13, 2), (391, 13, 5), (413, 13, 8)]) (PT := []) (CT := t_Mo_item_at_k0_ct) (KT := []) (NT := []) (AN := n_Mo_item_at_k0_an) (OT := [o_Mo_item_at_k0_0, o_Mo_item_at_k0_1, o_Mo_item_at_k0_2, o_Mo_item_at_k0_3, o_Mo_item_at_k0_4, o_Mo_item_at_k0_5, o_Mo_item_at_k0_6, o_Mo_item_at_k0_7, o_Mo_item_at_k0_8, o_Mo_item_at_k0_9, o_Mo_item_at_k0_10, o_Mo_item_at_k0_11, o_Mo_item_at_k0_12, o_Mo_item_at_k0_13]) 0 240 (List.forall_mem_cons.mpr ⟨oo_Mo_item_at_k0_0, List.forall_mem_cons.mpr ⟨oo_Mo_item_at_k0_1, List.forall_mem_cons.mpr ⟨oo_Mo_item_at_k0_2, List.forall_mem_cons.mpr ⟨oo_Mo_item_at_k0_3, List.forall_mem_cons.mpr ⟨oo_Mo_item_at_k0_4, List.forall_mem_cons.mpr ⟨oo_Mo_item_at_k0_5, List.forall_mem_cons.mpr ⟨oo_Mo_item_at_k0_6, List.forall_mem_cons.mpr ⟨oo_Mo_item_at_k0_7, List.forall_mem_cons.mpr ⟨oo_Mo_item_at_k0_8, List.forall_mem_cons.mpr ⟨oo_Mo_item_at_k0_9, List.forall_mem_cons.mpr ⟨oo_Mo_item_at_k0_10, List.forall_mem_cons.mpr ⟨oo_Mo_item_at_k0_11, List.forall_mem_cons.mpr ⟨oo_Mo_item_at_k0_12, List.forall_mem_cons.mpr ⟨oo_Mo_item_at_k0_13, List.forall_mem_nil _⟩⟩⟩⟩⟩⟩⟩⟩⟩⟩⟩⟩⟩⟩) (by decide +kernel) ⟨List.forall_mem_cons.mpr ⟨gf_Mo_16, List.forall_mem_cons.mpr ⟨gf_Mo_391, List.forall_mem_cons.mpr ⟨gf_Mo_413, List.forall_mem_nil _⟩⟩⟩, List.forall_mem_nil _, List.forall_mem_cons.mpr ⟨cl_virtual (y := y_Mo_next) (ci := 13) rfl rfl ⟨_, _, rfl⟩ (by decide +kernel) h_Mo_next wm_2982 wm_9 wm_2979 wm_2981 wv_12_11 ⟨by decide, by decide, by decide +kernel⟩ (by decide), List.forall_mem_cons.mpr ⟨cl_virtual (y := y_Mo_need) (ci := 13) rfl rfl ⟨_, _, rfl⟩ (by decide +kernel) h_Mo_need wm_3062 wm_9 wm_3059 wm_3061 wv_13_12 ⟨by decide, by decide, by decide +kernel⟩ (by decide), List.forall_mem_cons.mpr ⟨cl_virtual (y := y_Mo_met) (ci := 13) rfl rfl ⟨_, _, rfl⟩ (by decide +kernel) h_Mo_met wm_3008 wm_9 wm_3005 wm_3007 wv_12_15 ⟨by decide, by decide, by decide +kernel⟩ (by decide), List.forall_mem_cons.mpr ⟨cl_virtual (y := y_Mo_edgeItem) (ci := 13) rfl rfl ⟨_, _, rfl⟩ (by decide +kernel) h_Mo_edgeItem wm_3074 wm_9 wm_3071 wm_3073 wv_13_15 ⟨by decide, by decide, by decide +kernel⟩ (by decide), List.forall_mem_cons.mpr ⟨cl_virtual (y := y_Mo_isWord_at_s5000) (ci := 13) rfl rfl ⟨_, _, rfl⟩ (by decide +kernel) h_Mo_isWord_at_s5000 wm_3002 wm_9 wm_2999 wm_3001 wv_12_14 ⟨by decide, by decide, by decide +kernel⟩ (by decide), List.forall_mem_cons.mpr ⟨cl_virtual (y := y_Mo_of_at_s5002) (ci := 13) rfl rfl ⟨_, _, rfl⟩ (by decide +kernel) h_Mo_of_at_s5002 wm_3054 wm_9 wm_3051 wm_3053 wv_13_10 ⟨by decide, by decide, by decide +kernel⟩ (by decide), List.forall_mem_cons.mpr ⟨cl_virtual (y := y_Mo_isWord_at_s5001) (ci := 13) rfl rfl ⟨_, _, rfl⟩ (by decide +kernel) h_Mo_isWord_at_s5001 wm_3002 wm_9 wm_2999 wm_3001 wv_12_14 ⟨by decide, by decide, by decide +kernel⟩ (by decide), List.forall_mem_cons.mpr ⟨cl_virtual (y := y_Mo_groupItem_at_k0) (ci := 13) rfl rfl ⟨_, _, rfl⟩ (by decide +kernel) h_Mo_groupItem_at_k0 wm_3066 wm_9 wm_3063 wm_3065 wv_13_13 ⟨by decide, by decide, by decide +kernel⟩ (by decide), List.forall_mem_cons.mpr ⟨cl_ldcw (own := "DrawingHouseModel") (idx := 467) (i := 0) (tx := "node") (by decide +kernel) (by decide +kernel) (by decide +kernel), List.forall_mem_cons.mpr ⟨cl_ldcw (own := "DrawingHouseModel") (idx := 473) (i := 1) (tx := "group") (by decide +kernel) (by decide +kernel) (by decide +kernel), List.forall_mem_cons.mpr ⟨cl_ldcw (own := "DrawingHouseModel") (idx := 497) (i := 2) (tx := "size") (by decide +kernel) (by decide +kernel) (by decide +kernel), List.forall_mem_nil _⟩⟩⟩⟩⟩⟩⟩⟩⟩⟩⟩, List.forall_mem_nil _, List.forall_mem_nil _, GG_pl⟩ (by decide +kernel)
def o_Mo_item_at_k1_0 : or_T := (91, 8, [(0, (2, 0, 0, [150])), (1, (0, 0, 7, [])), (3, (0, 0, 2000, [])), (5, (0, 0, 0, [])), (7, (0, 0, 0, []))], [(8, [7], [0]), (20, [0, 0], [30, 0, 1, 1, 15, -1, 1, 11]), (20, [0], [50, 3, 0, 12, 11, 15, 2, 21, 4, 7, 1, 3, 2, 0, 12, 0, 1, 0, 3, 2, 0, 11, 4, 3, 2, 0, 15, 0, 8, 3, 7, 1, 3, 2, 0, 12, 0, 0, 0, 7, 4, 3, 2, 0, 15, 0, 1, 2, 0, 11]), (20, [3, 0], [30, 0, 1, 0, 0, -1, 1, 11]), (20, [1, 0], [50, 1, 1, 1005, 1002, 0, 6, 4, 2, 1, 0, 0, 1, 3, 1, 2, 4, 3, 2, 1, 5, 0, 2]), (20, [5, 0], [50, 1, 0, 1012, 4, 6, 1, 2, 1, 0, 0, 1, 1, 3, 2, 1, 12, 0, 1]), (20, [7, 0], [50, 1, 0, 1012, 4, 6, 1, 2, 1, 0, 0, 1, 1, 3, 2, 1, 12, 0, 1]), (102, [6], [0]), (8, [5], [0])], [], [(0, 0, 2000, [])], [(23, [8, 3], [0, 1, -1]), (23, [8, 3], [0, -1, 1]), (20, [0, 0], [30, 0, 1, 1, 15, -1, 1, 11]), (20, [0], [50, 3, 0, 12, 11, 15, 2, 21, 4, 7, 1, 3, 2, 0, 12, 0, 1, 0, 3, 2, 0, 11, 4, 3, 2, 0, 15, 0, 8, 3, 7, 1, 3, 2, 0, 12, 0, 0, 0, 7, 4, 3, 2, 0, 15, 0, 1, 2, 0, 11]), (20, [8, 0], [30, 0, 1, 0, 0, -1, 1, 11]), (20, [1, 0], [50, 1, 1, 1005, 1002, 0, 6, 4, 2, 1, 0, 0, 1, 3, 1, 2, 4, 3, 2, 1, 5, 0, 2])], [], [])
theorem oo_Mo_item_at_k1_0 {kA : Nat → ClassId} : or_ok kA GG o_Mo_item_at_k1_0 := by
  intro A ta ws vs hD hth hl hk hds hf
  have hl : vs.length = 8 := hl
  have hk : ∀ q ∈ ([(0, (2, 0, 0, [150])), (1, (0, 0, 7, [])), (3, (0, 0, 2000, [])), (5, (0, 0, 0, [])), (7, (0, 0, 0, []))] : List (Nat × tv_T)), tv_ok ta q.2 (n_v vs q.1) := hk
  obtain ⟨t0, hk⟩ := List.forall_mem_cons.mp hk
  have t0 : tv_ok ta (2, 0, 0, [150]) (n_v vs 0) := t0
  have r0 : ta (v_ad (n_v vs 0)) = some 150 := tv_rg t0
  obtain ⟨t1, hk⟩ := List.forall_mem_cons.mp hk
  have t1 : tv_ok ta (0, 0, 7, []) (n_v vs 1) := t1
  have k1 : 0 ≤ v_iv (n_v vs 1) ∧ v_iv (n_v vs 1) ≤ 7 := tv_rng t1
  obtain ⟨t3, hk⟩ := List.forall_mem_cons.mp hk
  have t3 : tv_ok ta (0, 0, 2000, []) (n_v vs 3) := t3
  have k3 : 0 ≤ v_iv (n_v vs 3) ∧ v_iv (n_v vs 3) ≤ 2000 := tv_rng t3
  obtain ⟨t5, hk⟩ := List.forall_mem_cons.mp hk
  have t5 : tv_ok ta (0, 0, 0, []) (n_v vs 5) := t5
  have k5 : 0 ≤ v_iv (n_v vs 5) ∧ v_iv (n_v vs 5) ≤ 0 := tv_rng t5
  obtain ⟨t7, hk⟩ := List.forall_mem_cons.mp hk
  have t7 : tv_ok ta (0, 0, 0, []) (n_v vs 7) := t7
  have k7 : 0 ≤ v_iv (n_v vs 7) ∧ v_iv (n_v vs 7) ≤ 0 := tv_rng t7
  have hf : fc_ok [(8, [7], [0]), (20, [0, 0], [30, 0, 1, 1, 15, -1, 1, 11]), (20, [0], [50, 3, 0, 12, 11, 15, 2, 21, 4, 7, 1, 3, 2, 0, 12, 0, 1, 0, 3, 2, 0, 11, 4, 3, 2, 0, 15, 0, 8, 3, 7, 1, 3, 2, 0, 12, 0, 0, 0, 7, 4, 3, 2, 0, 15, 0, 1, 2, 0, 11]), (20, [3, 0], [30, 0, 1, 0, 0, -1, 1, 11]), (20, [1, 0], [50, 1, 1, 1005, 1002, 0, 6, 4, 2, 1, 0, 0, 1, 3, 1, 2, 4, 3, 2, 1, 5, 0, 2]), (20, [5, 0], [50, 1, 0, 1012, 4, 6, 1, 2, 1, 0, 0, 1, 1, 3, 2, 1, 12, 0, 1]), (20, [7, 0], [50, 1, 0, 1012, 4, 6, 1, 2, 1, 0, 0, 1, 1, 3, 2, 1, 12, 0, 1]), (102, [6], [0]), (8, [5], [0])] ta ws vs := hf
  obtain ⟨f0, hf⟩ := fc_un (show (8 : Nat) < 100 from by decide) hf
  have f0 : v_iv (n_v vs 7) = 0 := f0
  obtain ⟨f1, hf⟩ := fc_un (show (20 : Nat) < 100 from by decide) hf
  have f1 : 1 * w_fi ws (n_v vs 0) 15 + ((-1) * w_fi ws (n_v vs 0) 11 + 0) ≤ 0 := f1
  obtain ⟨f2, hf⟩ := fc_un (show (20 : Nat) < 100 from by decide) hf
  have f2 : ((w_fi ws (n_v vs 0) 12 = 1) → (w_fi ws (n_v vs 0) 11 ≤ (w_fi ws (n_v vs 0) 15 + 8))) ∧ ((w_fi ws (n_v vs 0) 12 = 0) ∨ ((w_fi ws (n_v vs 0) 15 + 1) ≤ w_fi ws (n_v vs 0) 11)) := f2
  obtain ⟨f3, hf⟩ := fc_un (show (20 : Nat) < 100 from by decide) hf
  have f3 : 1 * v_iv (n_v vs 3) + ((-1) * w_fi ws (n_v vs 0) 11 + 0) ≤ 0 := f3
  obtain ⟨f4, hf⟩ := fc_un (show (20 : Nat) < 100 from by decide) hf
  have f4 : (v_iv (n_v vs 1) + 1) ≤ w_ei ws (w_ar ws (n_v vs 0) 2) ((w_fi ws (n_v vs 0) 5 + 2)) := f4
  obtain ⟨f5, hf⟩ := fc_un (show (20 : Nat) < 100 from by decide) hf
  have f5 : (v_iv (n_v vs 5) = 1) → (w_fi ws (n_v vs 0) 12 = 1) := f5
  obtain ⟨f6, hf⟩ := fc_un (show (20 : Nat) < 100 from by decide) hf
  have f6 : (v_iv (n_v vs 7) = 1) → (w_fi ws (n_v vs 0) 12 = 1) := f6
  obtain ⟨ta1, w1, le1, ⟨_, s1⟩, hf⟩ := fc_us (show ¬ (102 : Nat) < 100 from by decide) hf
  obtain ⟨f8, hf⟩ := fc_un (show (8 : Nat) < 100 from by decide) hf
  have f8 : v_iv (n_v vs 5) = 0 := f8
  have cr_0_2 : ta (w_ar ws (n_v vs 0) 2) = some 152 := tv_rg (th_fd hD hth r0 (g := GG_150) rfl (k := 2) (t := (2, 0, 0, [152])) rfl rfl)
  have kz_0_11 : 0 ≤ w_fi ws (n_v vs 0) 11 ∧ w_fi ws (n_v vs 0) 11 ≤ 2000 := tv_rng (th_fd hD hth r0 (g := GG_150) rfl (k := 11) (t := (0, 0, 2000, [])) rfl rfl)
  have kz_0_12 : 0 ≤ w_fi ws (n_v vs 0) 12 ∧ w_fi ws (n_v vs 0) 12 ≤ 4 := tv_rng (th_fd hD hth r0 (g := GG_150) rfl (k := 12) (t := (0, 0, 4, [])) rfl rfl)
  have kz_0_15 : 0 ≤ w_fi ws (n_v vs 0) 15 ∧ w_fi ws (n_v vs 0) 15 ≤ 2000 := tv_rng (th_fd hD hth r0 (g := GG_150) rfl (k := 15) (t := (0, 0, 2000, [])) rfl rfl)
  obtain ⟨x, ex, hx⟩ := iv_ex (ta := ta) (lo := 0) (hi := 2000) (z := v_iv (n_v vs 3)) (by omega) (by omega) (by omega) (by omega)
  have ex2 : v_iv (Value.int x) = v_iv (n_v vs 3) := ex
  have ex3 : 0 ≤ v_iv (Value.int x) ∧ v_iv (Value.int x) ≤ 2000 := tv_rng hx
  have e_0 : n_v (vs ++ [Value.int x]) 0 = n_v vs 0 := n_v_old (by rw [hl]; decide)
  have e_1 : n_v (vs ++ [Value.int x]) 1 = n_v vs 1 := n_v_old (by rw [hl]; decide)
  have e_3 : n_v (vs ++ [Value.int x]) 3 = n_v vs 3 := n_v_old (by rw [hl]; decide)
  have e_8 : n_v (vs ++ [Value.int x]) 8 = Value.int x := n_v_new hl
  have nf0 : fc_1 (23, [8, 3], [0, 1, -1]) ws (vs ++ [Value.int x]) := by
    refine ⟨fun n hn => ?_, ?_⟩
    · have hn : n ∈ [8, 3] := hn
      rw [List.length_append, hl]
      simp only [List.mem_cons, List.not_mem_nil, or_false] at hn
      show n < 8 + 1; omega
    · show 1 * v_iv (n_v (vs ++ [Value.int x]) 8) + ((-1) * v_iv (n_v (vs ++ [Value.int x]) 3) + 0) ≤ 0
      rw [e_3]
      rw [e_8]
      omega
  have nf1 : fc_1 (23, [8, 3], [0, -1, 1]) ws (vs ++ [Value.int x]) := by
    refine ⟨fun n hn => ?_, ?_⟩
    · have hn : n ∈ [8, 3] := hn
      rw [List.length_append, hl]
      simp only [List.mem_cons, List.not_mem_nil, or_false] at hn
      show n < 8 + 1; omega
    · show (-1) * v_iv (n_v (vs ++ [Value.int x]) 8) + (1 * v_iv (n_v (vs ++ [Value.int x]) 3) + 0) ≤ 0
      rw [e_3]
      rw [e_8]
      omega
  have nf2 : fc_1 (20, [0, 0], [30, 0, 1, 1, 15, -1, 1, 11]) ws (vs ++ [Value.int x]) := by
    refine ⟨fun n hn => ?_, ?_⟩
    · have hn : n ∈ [0, 0] := hn
      rw [List.length_append, hl]
      simp only [List.mem_cons, List.not_mem_nil, or_false] at hn
      show n < 8 + 1; omega
    · show 1 * w_fi ws (n_v (vs ++ [Value.int x]) 0) 15 + ((-1) * w_fi ws (n_v (vs ++ [Value.int x]) 0) 11 + 0) ≤ 0
      rw [e_0]
      omega
  have nf3 : fc_1 (20, [0], [50, 3, 0, 12, 11, 15, 2, 21, 4, 7, 1, 3, 2, 0, 12, 0, 1, 0, 3, 2, 0, 11, 4, 3, 2, 0, 15, 0, 8, 3, 7, 1, 3, 2, 0, 12, 0, 0, 0, 7, 4, 3, 2, 0, 15, 0, 1, 2, 0, 11]) ws (vs ++ [Value.int x]) := by
    refine ⟨fun n hn => ?_, ?_⟩
    · have hn : n ∈ [0] := hn
      rw [List.length_append, hl]
      simp only [List.mem_cons, List.not_mem_nil, or_false] at hn
      show n < 8 + 1; omega
    · show ((w_fi ws (n_v (vs ++ [Value.int x]) 0) 12 = 1) → (w_fi ws (n_v (vs ++ [Value.int x]) 0) 11 ≤ (w_fi ws (n_v (vs ++ [Value.int x]) 0) 15 + 8))) ∧ ((w_fi ws (n_v (vs ++ [Value.int x]) 0) 12 = 0) ∨ ((w_fi ws (n_v (vs ++ [Value.int x]) 0) 15 + 1) ≤ w_fi ws (n_v (vs ++ [Value.int x]) 0) 11))
      rw [e_0]
      first | omega | grind
  have nf4 : fc_1 (20, [8, 0], [30, 0, 1, 0, 0, -1, 1, 11]) ws (vs ++ [Value.int x]) := by
    refine ⟨fun n hn => ?_, ?_⟩
    · have hn : n ∈ [8, 0] := hn
      rw [List.length_append, hl]
      simp only [List.mem_cons, List.not_mem_nil, or_false] at hn
      show n < 8 + 1; omega
    · show 1 * v_iv (n_v (vs ++ [Value.int x]) 8) + ((-1) * w_fi ws (n_v (vs ++ [Value.int x]) 0) 11 + 0) ≤ 0
      rw [e_0]
      rw [e_8]
      omega
  have nf5 : fc_1 (20, [1, 0], [50, 1, 1, 1005, 1002, 0, 6, 4, 2, 1, 0, 0, 1, 3, 1, 2, 4, 3, 2, 1, 5, 0, 2]) ws (vs ++ [Value.int x]) := by
    refine ⟨fun n hn => ?_, ?_⟩
    · have hn : n ∈ [1, 0] := hn
      rw [List.length_append, hl]
      simp only [List.mem_cons, List.not_mem_nil, or_false] at hn
      show n < 8 + 1; omega
    · show (v_iv (n_v (vs ++ [Value.int x]) 1) + 1) ≤ w_ei ws (w_ar ws (n_v (vs ++ [Value.int x]) 0) 2) ((w_fi ws (n_v (vs ++ [Value.int x]) 0) 5 + 2))
      rw [e_0]
      rw [e_1]
      first | omega | grind
  exact ⟨(fun _ h => (by cases h)), [Value.int x], ag_one hx, List.forall_mem_cons.mpr ⟨⟨show (23 : Nat) < 100 from by decide, nf0⟩, List.forall_mem_cons.mpr ⟨⟨show (23 : Nat) < 100 from by decide, nf1⟩, List.forall_mem_cons.mpr ⟨⟨show (20 : Nat) < 100 from by decide, nf2⟩, List.forall_mem_cons.mpr ⟨⟨show (20 : Nat) < 100 from by decide, nf3⟩, List.forall_mem_cons.mpr ⟨⟨show (20 : Nat) < 100 from by decide, nf4⟩, List.forall_mem_cons.mpr ⟨⟨show (20 : Nat) < 100 from by decide, nf5⟩, (fun _ h => (by cases h))⟩⟩⟩⟩⟩⟩, (fun _ h => (by cases h))⟩
def o_Mo_item_at_k1_1 : or_T := (94, 9, [(0, (2, 0, 0, [150])), (1, (0, 0, 7, [])), (3, (0, 0, 2000, [])), (8, (0, 0, 2000, []))], [(23, [8, 3], [0, 1, -1]), (23, [8, 3], [0, -1, 1]), (20, [0, 0], [30, 0, 1, 1, 15, -1, 1, 11]), (20, [0], [50, 3, 0, 12, 11, 15, 2, 21, 4, 7, 1, 3, 2, 0, 12, 0, 1, 0, 3, 2, 0, 11, 4, 3, 2, 0, 15, 0, 8, 3, 7, 1, 3, 2, 0, 12, 0, 0, 0, 7, 4, 3, 2, 0, 15, 0, 1, 2, 0, 11]), (20, [8, 0], [30, 0, 1, 0, 0, -1, 1, 11]), (20, [0, 8], [50, 2, 0, 8, 11, 3, 7, 0, 2, 0, 1, 2, 0, 8, 0, 6, 4, 2, 1, 1, 0, 1, 2, 0, 11]), (20, [1, 0], [50, 1, 1, 1005, 1002, 0, 6, 4, 2, 1, 0, 0, 1, 3, 1, 2, 4, 3, 2, 1, 5, 0, 2]), (102, [8], [5708990770823839524233143877797980545530986496, 13008, 13009, 13011, 13012, 13013, 13014, 13015]), (23, [8, 3], [0, 1, -1]), (23, [8, 3], [0, -1, 1])], [], [], [(20, [3, 0], [30, 0, 1, 0, 0, -1, 1, 11]), (20, [0, 3], [50, 2, 0, 8, 11, 3, 7, 0, 2, 0, 1, 2, 0, 8, 0, 6, 4, 2, 1, 1, 0, 1, 2, 0, 11])], [], [])
theorem oo_Mo_item_at_k1_1 {kA : Nat → ClassId} : or_ok kA GG o_Mo_item_at_k1_1 := by
  intro A ta ws vs hD hth hl hk hds hf
  have hl : vs.length = 9 := hl
  have hk : ∀ q ∈ ([(0, (2, 0, 0, [150])), (1, (0, 0, 7, [])), (3, (0, 0, 2000, [])), (8, (0, 0, 2000, []))] : List (Nat × tv_T)), tv_ok ta q.2 (n_v vs q.1) := hk
  obtain ⟨t0, hk⟩ := List.forall_mem_cons.mp hk
  have t0 : tv_ok ta (2, 0, 0, [150]) (n_v vs 0) := t0
  have r0 : ta (v_ad (n_v vs 0)) = some 150 := tv_rg t0
  obtain ⟨t1, hk⟩ := List.forall_mem_cons.mp hk
  have t1 : tv_ok ta (0, 0, 7, []) (n_v vs 1) := t1
  have k1 : 0 ≤ v_iv (n_v vs 1) ∧ v_iv (n_v vs 1) ≤ 7 := tv_rng t1
  obtain ⟨t3, hk⟩ := List.forall_mem_cons.mp hk
  have t3 : tv_ok ta (0, 0, 2000, []) (n_v vs 3) := t3
  have k3 : 0 ≤ v_iv (n_v vs 3) ∧ v_iv (n_v vs 3) ≤ 2000 := tv_rng t3
  obtain ⟨t8, hk⟩ := List.forall_mem_cons.mp hk
  have t8 : tv_ok ta (0, 0, 2000, []) (n_v vs 8) := t8
  have k8 : 0 ≤ v_iv (n_v vs 8) ∧ v_iv (n_v vs 8) ≤ 2000 := tv_rng t8
  have hf : fc_ok [(23, [8, 3], [0, 1, -1]), (23, [8, 3], [0, -1, 1]), (20, [0, 0], [30, 0, 1, 1, 15, -1, 1, 11]), (20, [0], [50, 3, 0, 12, 11, 15, 2, 21, 4, 7, 1, 3, 2, 0, 12, 0, 1, 0, 3, 2, 0, 11, 4, 3, 2, 0, 15, 0, 8, 3, 7, 1, 3, 2, 0, 12, 0, 0, 0, 7, 4, 3, 2, 0, 15, 0, 1, 2, 0, 11]), (20, [8, 0], [30, 0, 1, 0, 0, -1, 1, 11]), (20, [0, 8], [50, 2, 0, 8, 11, 3, 7, 0, 2, 0, 1, 2, 0, 8, 0, 6, 4, 2, 1, 1, 0, 1, 2, 0, 11]), (20, [1, 0], [50, 1, 1, 1005, 1002, 0, 6, 4, 2, 1, 0, 0, 1, 3, 1, 2, 4, 3, 2, 1, 5, 0, 2]), (102, [8], [5708990770823839524233143877797980545530986496, 13008, 13009, 13011, 13012, 13013, 13014, 13015]), (23, [8, 3], [0, 1, -1]), (23, [8, 3], [0, -1, 1])] ta ws vs := hf
  obtain ⟨f0, hf⟩ := fc_un (show (23 : Nat) < 100 from by decide) hf
  have f0 : 1 * v_iv (n_v vs 8) + ((-1) * v_iv (n_v vs 3) + 0) ≤ 0 := f0
  obtain ⟨f1, hf⟩ := fc_un (show (23 : Nat) < 100 from by decide) hf
  have f1 : (-1) * v_iv (n_v vs 8) + (1 * v_iv (n_v vs 3) + 0) ≤ 0 := f1
  obtain ⟨f2, hf⟩ := fc_un (show (20 : Nat) < 100 from by decide) hf
  have f2 : 1 * w_fi ws (n_v vs 0) 15 + ((-1) * w_fi ws (n_v vs 0) 11 + 0) ≤ 0 := f2
  obtain ⟨f3, hf⟩ := fc_un (show (20 : Nat) < 100 from by decide) hf
  have f3 : ((w_fi ws (n_v vs 0) 12 = 1) → (w_fi ws (n_v vs 0) 11 ≤ (w_fi ws (n_v vs 0) 15 + 8))) ∧ ((w_fi ws (n_v vs 0) 12 = 0) ∨ ((w_fi ws (n_v vs 0) 15 + 1) ≤ w_fi ws (n_v vs 0) 11)) := f3
  obtain ⟨f4, hf⟩ := fc_un (show (20 : Nat) < 100 from by decide) hf
  have f4 : 1 * v_iv (n_v vs 8) + ((-1) * w_fi ws (n_v vs 0) 11 + 0) ≤ 0 := f4
  obtain ⟨f5, hf⟩ := fc_un (show (20 : Nat) < 100 from by decide) hf
  have f5 : (1 ≤ w_fi ws (n_v vs 0) 8) ∨ ((v_iv (n_v vs 8) + 1) ≤ w_fi ws (n_v vs 0) 11) := f5
  obtain ⟨f6, hf⟩ := fc_un (show (20 : Nat) < 100 from by decide) hf
  have f6 : (v_iv (n_v vs 1) + 1) ≤ w_ei ws (w_ar ws (n_v vs 0) 2) ((w_fi ws (n_v vs 0) 5 + 2)) := f6
  obtain ⟨ta1, w1, le1, ⟨_, s1⟩, hf⟩ := fc_us (show ¬ (102 : Nat) < 100 from by decide) hf
  obtain ⟨f8, hf⟩ := fc_un (show (23 : Nat) < 100 from by decide) hf
  have f8 : 1 * v_iv (n_v vs 8) + ((-1) * v_iv (n_v vs 3) + 0) ≤ 0 := f8
  obtain ⟨f9, hf⟩ := fc_un (show (23 : Nat) < 100 from by decide) hf
  have f9 : (-1) * v_iv (n_v vs 8) + (1 * v_iv (n_v vs 3) + 0) ≤ 0 := f9
  have cr_0_2 : ta (w_ar ws (n_v vs 0) 2) = some 152 := tv_rg (th_fd hD hth r0 (g := GG_150) rfl (k := 2) (t := (2, 0, 0, [152])) rfl rfl)
  have kz_0_8 : 0 ≤ w_fi ws (n_v vs 0) 8 ∧ w_fi ws (n_v vs 0) 8 ≤ 5 := tv_rng (th_fd hD hth r0 (g := GG_150) rfl (k := 8) (t := (0, 0, 5, [])) rfl rfl)
  have kz_0_11 : 0 ≤ w_fi ws (n_v vs 0) 11 ∧ w_fi ws (n_v vs 0) 11 ≤ 2000 := tv_rng (th_fd hD hth r0 (g := GG_150) rfl (k := 11) (t := (0, 0, 2000, [])) rfl rfl)
  have kz_0_12 : 0 ≤ w_fi ws (n_v vs 0) 12 ∧ w_fi ws (n_v vs 0) 12 ≤ 4 := tv_rng (th_fd hD hth r0 (g := GG_150) rfl (k := 12) (t := (0, 0, 4, [])) rfl rfl)
  have kz_0_15 : 0 ≤ w_fi ws (n_v vs 0) 15 ∧ w_fi ws (n_v vs 0) 15 ≤ 2000 := tv_rng (th_fd hD hth r0 (g := GG_150) rfl (k := 15) (t := (0, 0, 2000, [])) rfl rfl)
  have nf0 : fc_1 (20, [3, 0], [30, 0, 1, 0, 0, -1, 1, 11]) ws (vs) := by
    refine ⟨fun n hn => ?_, ?_⟩
    · have hn : n ∈ [3, 0] := hn
      rw [hl]
      simp only [List.mem_cons, List.not_mem_nil, or_false] at hn
      show n < 9; omega
    · show 1 * v_iv (n_v vs 3) + ((-1) * w_fi ws (n_v vs 0) 11 + 0) ≤ 0
      omega
  have nf1 : fc_1 (20, [0, 3], [50, 2, 0, 8, 11, 3, 7, 0, 2, 0, 1, 2, 0, 8, 0, 6, 4, 2, 1, 1, 0, 1, 2, 0, 11]) ws (vs) := by
    refine ⟨fun n hn => ?_, ?_⟩
    · have hn : n ∈ [0, 3] := hn
      rw [hl]
      simp only [List.mem_cons, List.not_mem_nil, or_false] at hn
      show n < 9; omega
    · show (1 ≤ w_fi ws (n_v vs 0) 8) ∨ ((v_iv (n_v vs 3) + 1) ≤ w_fi ws (n_v vs 0) 11)
      first | omega | grind
  refine ⟨(fun _ h => (by cases h)), [], trivial, ?_, (fun _ h => (by cases h))⟩
  rw [List.append_nil]
  exact List.forall_mem_cons.mpr ⟨⟨show (20 : Nat) < 100 from by decide, nf0⟩, List.forall_mem_cons.mpr ⟨⟨show (20 : Nat) < 100 from by decide, nf1⟩, (fun _ h => (by cases h))⟩⟩
def o_Mo_item_at_k1_2 : or_T := (83, 8, [(0, (2, 0, 0, [150])), (1, (0, 0, 7, [])), (3, (0, 0, 2000, [])), (5, (0, 0, 0, [])), (7, (0, 1, 1, []))], [(8, [7], [1]), (20, [0, 0], [30, 0, 1, 1, 15, -1, 1, 11]), (20, [0], [50, 3, 0, 12, 11, 15, 2, 21, 4, 7, 1, 3, 2, 0, 12, 0, 1, 0, 3, 2, 0, 11, 4, 3, 2, 0, 15, 0, 8, 3, 7, 1, 3, 2, 0, 12, 0, 0, 0, 7, 4, 3, 2, 0, 15, 0, 1, 2, 0, 11]), (20, [3, 0], [30, 0, 1, 0, 0, -1, 1, 11]), (20, [1, 0], [50, 1, 1, 1005, 1002, 0, 6, 4, 2, 1, 0, 0, 1, 3, 1, 2, 4, 3, 2, 1, 5, 0, 2]), (20, [5, 0], [50, 1, 0, 1012, 4, 6, 1, 2, 1, 0, 0, 1, 1, 3, 2, 1, 12, 0, 1]), (20, [7, 0], [50, 1, 0, 1012, 4, 6, 1, 2, 1, 0, 0, 1, 1, 3, 2, 1, 12, 0, 1]), (102, [6], [0]), (8, [5], [0])], [], [(0, 0, 2000, [])], [(23, [8, 3], [0, 1, -1]), (23, [8, 3], [0, -1, 1]), (20, [0, 0], [30, 0, 1, 1, 15, -1, 1, 11]), (20, [0], [50, 3, 0, 12, 11, 15, 2, 21, 4, 7, 1, 3, 2, 0, 12, 0, 1, 0, 3, 2, 0, 11, 4, 3, 2, 0, 15, 0, 8, 3, 7, 1, 3, 2, 0, 12, 0, 0, 0, 7, 4, 3, 2, 0, 15, 0, 1, 2, 0, 11]), (20, [8, 0], [30, 0, 1, 0, 0, -1, 1, 11]), (20, [1, 0], [50, 1, 1, 1005, 1002, 0, 6, 4, 2, 1, 0, 0, 1, 3, 1, 2, 4, 3, 2, 1, 5, 0, 2])], [], [])
theorem oo_Mo_item_at_k1_2 {kA : Nat → ClassId} : or_ok kA GG o_Mo_item_at_k1_2 := by
  intro A ta ws vs hD hth hl hk hds hf
  have hl : vs.length = 8 := hl
  have hk : ∀ q ∈ ([(0, (2, 0, 0, [150])), (1, (0, 0, 7, [])), (3, (0, 0, 2000, [])), (5, (0, 0, 0, [])), (7, (0, 1, 1, []))] : List (Nat × tv_T)), tv_ok ta q.2 (n_v vs q.1) := hk
  obtain ⟨t0, hk⟩ := List.forall_mem_cons.mp hk
  have t0 : tv_ok ta (2, 0, 0, [150]) (n_v vs 0) := t0
  have r0 : ta (v_ad (n_v vs 0)) = some 150 := tv_rg t0
  obtain ⟨t1, hk⟩ := List.forall_mem_cons.mp hk
  have t1 : tv_ok ta (0, 0, 7, []) (n_v vs 1) := t1
  have k1 : 0 ≤ v_iv (n_v vs 1) ∧ v_iv (n_v vs 1) ≤ 7 := tv_rng t1
  obtain ⟨t3, hk⟩ := List.forall_mem_cons.mp hk
  have t3 : tv_ok ta (0, 0, 2000, []) (n_v vs 3) := t3
  have k3 : 0 ≤ v_iv (n_v vs 3) ∧ v_iv (n_v vs 3) ≤ 2000 := tv_rng t3
  obtain ⟨t5, hk⟩ := List.forall_mem_cons.mp hk
  have t5 : tv_ok ta (0, 0, 0, []) (n_v vs 5) := t5
  have k5 : 0 ≤ v_iv (n_v vs 5) ∧ v_iv (n_v vs 5) ≤ 0 := tv_rng t5
  obtain ⟨t7, hk⟩ := List.forall_mem_cons.mp hk
  have t7 : tv_ok ta (0, 1, 1, []) (n_v vs 7) := t7
  have k7 : 1 ≤ v_iv (n_v vs 7) ∧ v_iv (n_v vs 7) ≤ 1 := tv_rng t7
  have hf : fc_ok [(8, [7], [1]), (20, [0, 0], [30, 0, 1, 1, 15, -1, 1, 11]), (20, [0], [50, 3, 0, 12, 11, 15, 2, 21, 4, 7, 1, 3, 2, 0, 12, 0, 1, 0, 3, 2, 0, 11, 4, 3, 2, 0, 15, 0, 8, 3, 7, 1, 3, 2, 0, 12, 0, 0, 0, 7, 4, 3, 2, 0, 15, 0, 1, 2, 0, 11]), (20, [3, 0], [30, 0, 1, 0, 0, -1, 1, 11]), (20, [1, 0], [50, 1, 1, 1005, 1002, 0, 6, 4, 2, 1, 0, 0, 1, 3, 1, 2, 4, 3, 2, 1, 5, 0, 2]), (20, [5, 0], [50, 1, 0, 1012, 4, 6, 1, 2, 1, 0, 0, 1, 1, 3, 2, 1, 12, 0, 1]), (20, [7, 0], [50, 1, 0, 1012, 4, 6, 1, 2, 1, 0, 0, 1, 1, 3, 2, 1, 12, 0, 1]), (102, [6], [0]), (8, [5], [0])] ta ws vs := hf
  obtain ⟨f0, hf⟩ := fc_un (show (8 : Nat) < 100 from by decide) hf
  have f0 : v_iv (n_v vs 7) ≠ 0 := f0
  obtain ⟨f1, hf⟩ := fc_un (show (20 : Nat) < 100 from by decide) hf
  have f1 : 1 * w_fi ws (n_v vs 0) 15 + ((-1) * w_fi ws (n_v vs 0) 11 + 0) ≤ 0 := f1
  obtain ⟨f2, hf⟩ := fc_un (show (20 : Nat) < 100 from by decide) hf
  have f2 : ((w_fi ws (n_v vs 0) 12 = 1) → (w_fi ws (n_v vs 0) 11 ≤ (w_fi ws (n_v vs 0) 15 + 8))) ∧ ((w_fi ws (n_v vs 0) 12 = 0) ∨ ((w_fi ws (n_v vs 0) 15 + 1) ≤ w_fi ws (n_v vs 0) 11)) := f2
  obtain ⟨f3, hf⟩ := fc_un (show (20 : Nat) < 100 from by decide) hf
  have f3 : 1 * v_iv (n_v vs 3) + ((-1) * w_fi ws (n_v vs 0) 11 + 0) ≤ 0 := f3
  obtain ⟨f4, hf⟩ := fc_un (show (20 : Nat) < 100 from by decide) hf
  have f4 : (v_iv (n_v vs 1) + 1) ≤ w_ei ws (w_ar ws (n_v vs 0) 2) ((w_fi ws (n_v vs 0) 5 + 2)) := f4
  obtain ⟨f5, hf⟩ := fc_un (show (20 : Nat) < 100 from by decide) hf
  have f5 : (v_iv (n_v vs 5) = 1) → (w_fi ws (n_v vs 0) 12 = 1) := f5
  obtain ⟨f6, hf⟩ := fc_un (show (20 : Nat) < 100 from by decide) hf
  have f6 : (v_iv (n_v vs 7) = 1) → (w_fi ws (n_v vs 0) 12 = 1) := f6
  obtain ⟨ta1, w1, le1, ⟨_, s1⟩, hf⟩ := fc_us (show ¬ (102 : Nat) < 100 from by decide) hf
  obtain ⟨f8, hf⟩ := fc_un (show (8 : Nat) < 100 from by decide) hf
  have f8 : v_iv (n_v vs 5) = 0 := f8
  have cr_0_2 : ta (w_ar ws (n_v vs 0) 2) = some 152 := tv_rg (th_fd hD hth r0 (g := GG_150) rfl (k := 2) (t := (2, 0, 0, [152])) rfl rfl)
  have kz_0_11 : 0 ≤ w_fi ws (n_v vs 0) 11 ∧ w_fi ws (n_v vs 0) 11 ≤ 2000 := tv_rng (th_fd hD hth r0 (g := GG_150) rfl (k := 11) (t := (0, 0, 2000, [])) rfl rfl)
  have kz_0_12 : 0 ≤ w_fi ws (n_v vs 0) 12 ∧ w_fi ws (n_v vs 0) 12 ≤ 4 := tv_rng (th_fd hD hth r0 (g := GG_150) rfl (k := 12) (t := (0, 0, 4, [])) rfl rfl)
  have kz_0_15 : 0 ≤ w_fi ws (n_v vs 0) 15 ∧ w_fi ws (n_v vs 0) 15 ≤ 2000 := tv_rng (th_fd hD hth r0 (g := GG_150) rfl (k := 15) (t := (0, 0, 2000, [])) rfl rfl)
  obtain ⟨x, ex, hx⟩ := iv_ex (ta := ta) (lo := 0) (hi := 2000) (z := v_iv (n_v vs 3)) (by omega) (by omega) (by omega) (by omega)
  have ex2 : v_iv (Value.int x) = v_iv (n_v vs 3) := ex
  have ex3 : 0 ≤ v_iv (Value.int x) ∧ v_iv (Value.int x) ≤ 2000 := tv_rng hx
  have e_0 : n_v (vs ++ [Value.int x]) 0 = n_v vs 0 := n_v_old (by rw [hl]; decide)
  have e_1 : n_v (vs ++ [Value.int x]) 1 = n_v vs 1 := n_v_old (by rw [hl]; decide)
  have e_3 : n_v (vs ++ [Value.int x]) 3 = n_v vs 3 := n_v_old (by rw [hl]; decide)
  have e_8 : n_v (vs ++ [Value.int x]) 8 = Value.int x := n_v_new hl
  have nf0 : fc_1 (23, [8, 3], [0, 1, -1]) ws (vs ++ [Value.int x]) := by
    refine ⟨fun n hn => ?_, ?_⟩
    · have hn : n ∈ [8, 3] := hn
      rw [List.length_append, hl]
      simp only [List.mem_cons, List.not_mem_nil, or_false] at hn
      show n < 8 + 1; omega
    · show 1 * v_iv (n_v (vs ++ [Value.int x]) 8) + ((-1) * v_iv (n_v (vs ++ [Value.int x]) 3) + 0) ≤ 0
      rw [e_3]
      rw [e_8]
      omega
  have nf1 : fc_1 (23, [8, 3], [0, -1, 1]) ws (vs ++ [Value.int x]) := by
    refine ⟨fun n hn => ?_, ?_⟩
    · have hn : n ∈ [8, 3] := hn
      rw [List.length_append, hl]
      simp only [List.mem_cons, List.not_mem_nil, or_false] at hn
      show n < 8 + 1; omega
    · show (-1) * v_iv (n_v (vs ++ [Value.int x]) 8) + (1 * v_iv (n_v (vs ++ [Value.int x]) 3) + 0) ≤ 0
      rw [e_3]
      rw [e_8]
      omega
  have nf2 : fc_1 (20, [0, 0], [30, 0, 1, 1, 15, -1, 1, 11]) ws (vs ++ [Value.int x]) := by
    refine ⟨fun n hn => ?_, ?_⟩
    · have hn : n ∈ [0, 0] := hn
      rw [List.length_append, hl]
      simp only [List.mem_cons, List.not_mem_nil, or_false] at hn
      show n < 8 + 1; omega
    · show 1 * w_fi ws (n_v (vs ++ [Value.int x]) 0) 15 + ((-1) * w_fi ws (n_v (vs ++ [Value.int x]) 0) 11 + 0) ≤ 0
      rw [e_0]
      omega
  have nf3 : fc_1 (20, [0], [50, 3, 0, 12, 11, 15, 2, 21, 4, 7, 1, 3, 2, 0, 12, 0, 1, 0, 3, 2, 0, 11, 4, 3, 2, 0, 15, 0, 8, 3, 7, 1, 3, 2, 0, 12, 0, 0, 0, 7, 4, 3, 2, 0, 15, 0, 1, 2, 0, 11]) ws (vs ++ [Value.int x]) := by
    refine ⟨fun n hn => ?_, ?_⟩
    · have hn : n ∈ [0] := hn
      rw [List.length_append, hl]
      simp only [List.mem_cons, List.not_mem_nil, or_false] at hn
      show n < 8 + 1; omega
    · show ((w_fi ws (n_v (vs ++ [Value.int x]) 0) 12 = 1) → (w_fi ws (n_v (vs ++ [Value.int x]) 0) 11 ≤ (w_fi ws (n_v (vs ++ [Value.int x]) 0) 15 + 8))) ∧ ((w_fi ws (n_v (vs ++ [Value.int x]) 0) 12 = 0) ∨ ((w_fi ws (n_v (vs ++ [Value.int x]) 0) 15 + 1) ≤ w_fi ws (n_v (vs ++ [Value.int x]) 0) 11))
      rw [e_0]
      first | omega | grind
  have nf4 : fc_1 (20, [8, 0], [30, 0, 1, 0, 0, -1, 1, 11]) ws (vs ++ [Value.int x]) := by
    refine ⟨fun n hn => ?_, ?_⟩
    · have hn : n ∈ [8, 0] := hn
      rw [List.length_append, hl]
      simp only [List.mem_cons, List.not_mem_nil, or_false] at hn
      show n < 8 + 1; omega
    · show 1 * v_iv (n_v (vs ++ [Value.int x]) 8) + ((-1) * w_fi ws (n_v (vs ++ [Value.int x]) 0) 11 + 0) ≤ 0
      rw [e_0]
      rw [e_8]
      omega
  have nf5 : fc_1 (20, [1, 0], [50, 1, 1, 1005, 1002, 0, 6, 4, 2, 1, 0, 0, 1, 3, 1, 2, 4, 3, 2, 1, 5, 0, 2]) ws (vs ++ [Value.int x]) := by
    refine ⟨fun n hn => ?_, ?_⟩
    · have hn : n ∈ [1, 0] := hn
      rw [List.length_append, hl]
      simp only [List.mem_cons, List.not_mem_nil, or_false] at hn
      show n < 8 + 1; omega
    · show (v_iv (n_v (vs ++ [Value.int x]) 1) + 1) ≤ w_ei ws (w_ar ws (n_v (vs ++ [Value.int x]) 0) 2) ((w_fi ws (n_v (vs ++ [Value.int x]) 0) 5 + 2))
      rw [e_0]
      rw [e_1]
      first | omega | grind
  exact ⟨(fun _ h => (by cases h)), [Value.int x], ag_one hx, List.forall_mem_cons.mpr ⟨⟨show (23 : Nat) < 100 from by decide, nf0⟩, List.forall_mem_cons.mpr ⟨⟨show (23 : Nat) < 100 from by decide, nf1⟩, List.forall_mem_cons.mpr ⟨⟨show (20 : Nat) < 100 from by decide, nf2⟩, List.forall_mem_cons.mpr ⟨⟨show (20 : Nat) < 100 from by decide, nf3⟩, List.forall_mem_cons.mpr ⟨⟨show (20 : Nat) < 100 from by decide, nf4⟩, List.forall_mem_cons.mpr ⟨⟨show (20 : Nat) < 100 from by decide, nf5⟩, (fun _ h => (by cases h))⟩⟩⟩⟩⟩⟩, (fun _ h => (by cases h))⟩
def o_Mo_item_at_k1_3 : or_T := (11, 6, [(0, (2, 0, 0, [150])), (1, (0, 0, 7, [])), (3, (0, 0, 2000, [])), (5, (0, 1, 1, []))], [(8, [5], [1]), (20, [0, 0], [30, 0, 1, 1, 15, -1, 1, 11]), (20, [0], [50, 3, 0, 12, 11, 15, 2, 21, 4, 7, 1, 3, 2, 0, 12, 0, 1, 0, 3, 2, 0, 11, 4, 3, 2, 0, 15, 0, 8, 3, 7, 1, 3, 2, 0, 12, 0, 0, 0, 7, 4, 3, 2, 0, 15, 0, 1, 2, 0, 11]), (20, [3, 0], [30, 0, 1, 0, 0, -1, 1, 11]), (20, [1, 0], [50, 1, 1, 1005, 1002, 0, 6, 4, 2, 1, 0, 0, 1, 3, 1, 2, 4, 3, 2, 1, 5, 0, 2]), (20, [5, 0], [50, 1, 0, 1012, 4, 6, 1, 2, 1, 0, 0, 1, 1, 3, 2, 1, 12, 0, 1])], [], [(0, 0, 2000, [])], [(23, [6, 3], [0, 1, -1]), (23, [6, 3], [0, -1, 1]), (20, [6, 0], [30, 0, 1, 0, 0, -1, 1, 11])], [], [])
theorem oo_Mo_item_at_k1_3 {kA : Nat → ClassId} : or_ok kA GG o_Mo_item_at_k1_3 := by
  intro A ta ws vs hD hth hl hk hds hf
  have hl : vs.length = 6 := hl
  have hk : ∀ q ∈ ([(0, (2, 0, 0, [150])), (1, (0, 0, 7, [])), (3, (0, 0, 2000, [])), (5, (0, 1, 1, []))] : List (Nat × tv_T)), tv_ok ta q.2 (n_v vs q.1) := hk
  obtain ⟨t0, hk⟩ := List.forall_mem_cons.mp hk
  have t0 : tv_ok ta (2, 0, 0, [150]) (n_v vs 0) := t0
  have r0 : ta (v_ad (n_v vs 0)) = some 150 := tv_rg t0
  obtain ⟨t1, hk⟩ := List.forall_mem_cons.mp hk
  have t1 : tv_ok ta (0, 0, 7, []) (n_v vs 1) := t1
  have k1 : 0 ≤ v_iv (n_v vs 1) ∧ v_iv (n_v vs 1) ≤ 7 := tv_rng t1
  obtain ⟨t3, hk⟩ := List.forall_mem_cons.mp hk
  have t3 : tv_ok ta (0, 0, 2000, []) (n_v vs 3) := t3
  have k3 : 0 ≤ v_iv (n_v vs 3) ∧ v_iv (n_v vs 3) ≤ 2000 := tv_rng t3
  obtain ⟨t5, hk⟩ := List.forall_mem_cons.mp hk
  have t5 : tv_ok ta (0, 1, 1, []) (n_v vs 5) := t5
  have k5 : 1 ≤ v_iv (n_v vs 5) ∧ v_iv (n_v vs 5) ≤ 1 := tv_rng t5
  have hf : fc_ok [(8, [5], [1]), (20, [0, 0], [30, 0, 1, 1, 15, -1, 1, 11]), (20, [0], [50, 3, 0, 12, 11, 15, 2, 21, 4, 7, 1, 3, 2, 0, 12, 0, 1, 0, 3, 2, 0, 11, 4, 3, 2, 0, 15, 0, 8, 3, 7, 1, 3, 2, 0, 12, 0, 0, 0, 7, 4, 3, 2, 0, 15, 0, 1, 2, 0, 11]), (20, [3, 0], [30, 0, 1, 0, 0, -1, 1, 11]), (20, [1, 0], [50, 1, 1, 1005, 1002, 0, 6, 4, 2, 1, 0, 0, 1, 3, 1, 2, 4, 3, 2, 1, 5, 0, 2]), (20, [5, 0], [50, 1, 0, 1012, 4, 6, 1, 2, 1, 0, 0, 1, 1, 3, 2, 1, 12, 0, 1])] ta ws vs := hf
  obtain ⟨f0, hf⟩ := fc_un (show (8 : Nat) < 100 from by decide) hf
  have f0 : v_iv (n_v vs 5) ≠ 0 := f0
  obtain ⟨f1, hf⟩ := fc_un (show (20 : Nat) < 100 from by decide) hf
  have f1 : 1 * w_fi ws (n_v vs 0) 15 + ((-1) * w_fi ws (n_v vs 0) 11 + 0) ≤ 0 := f1
  obtain ⟨f2, hf⟩ := fc_un (show (20 : Nat) < 100 from by decide) hf
  have f2 : ((w_fi ws (n_v vs 0) 12 = 1) → (w_fi ws (n_v vs 0) 11 ≤ (w_fi ws (n_v vs 0) 15 + 8))) ∧ ((w_fi ws (n_v vs 0) 12 = 0) ∨ ((w_fi ws (n_v vs 0) 15 + 1) ≤ w_fi ws (n_v vs 0) 11)) := f2
  obtain ⟨f3, hf⟩ := fc_un (show (20 : Nat) < 100 from by decide) hf
  have f3 : 1 * v_iv (n_v vs 3) + ((-1) * w_fi ws (n_v vs 0) 11 + 0) ≤ 0 := f3
  obtain ⟨f4, hf⟩ := fc_un (show (20 : Nat) < 100 from by decide) hf
  have f4 : (v_iv (n_v vs 1) + 1) ≤ w_ei ws (w_ar ws (n_v vs 0) 2) ((w_fi ws (n_v vs 0) 5 + 2)) := f4
  obtain ⟨f5, hf⟩ := fc_un (show (20 : Nat) < 100 from by decide) hf
  have f5 : (v_iv (n_v vs 5) = 1) → (w_fi ws (n_v vs 0) 12 = 1) := f5
  have cr_0_2 : ta (w_ar ws (n_v vs 0) 2) = some 152 := tv_rg (th_fd hD hth r0 (g := GG_150) rfl (k := 2) (t := (2, 0, 0, [152])) rfl rfl)
  have kz_0_11 : 0 ≤ w_fi ws (n_v vs 0) 11 ∧ w_fi ws (n_v vs 0) 11 ≤ 2000 := tv_rng (th_fd hD hth r0 (g := GG_150) rfl (k := 11) (t := (0, 0, 2000, [])) rfl rfl)
  have kz_0_12 : 0 ≤ w_fi ws (n_v vs 0) 12 ∧ w_fi ws (n_v vs 0) 12 ≤ 4 := tv_rng (th_fd hD hth r0 (g := GG_150) rfl (k := 12) (t := (0, 0, 4, [])) rfl rfl)
  have kz_0_15 : 0 ≤ w_fi ws (n_v vs 0) 15 ∧ w_fi ws (n_v vs 0) 15 ≤ 2000 := tv_rng (th_fd hD hth r0 (g := GG_150) rfl (k := 15) (t := (0, 0, 2000, [])) rfl rfl)
  obtain ⟨x, ex, hx⟩ := iv_ex (ta := ta) (lo := 0) (hi := 2000) (z := v_iv (n_v vs 3)) (by omega) (by omega) (by omega) (by omega)
  have ex2 : v_iv (Value.int x) = v_iv (n_v vs 3) := ex
  have ex3 : 0 ≤ v_iv (Value.int x) ∧ v_iv (Value.int x) ≤ 2000 := tv_rng hx
  have e_0 : n_v (vs ++ [Value.int x]) 0 = n_v vs 0 := n_v_old (by rw [hl]; decide)
  have e_3 : n_v (vs ++ [Value.int x]) 3 = n_v vs 3 := n_v_old (by rw [hl]; decide)
  have e_6 : n_v (vs ++ [Value.int x]) 6 = Value.int x := n_v_new hl
  have nf0 : fc_1 (23, [6, 3], [0, 1, -1]) ws (vs ++ [Value.int x]) := by
    refine ⟨fun n hn => ?_, ?_⟩
    · have hn : n ∈ [6, 3] := hn
      rw [List.length_append, hl]
      simp only [List.mem_cons, List.not_mem_nil, or_false] at hn
      show n < 6 + 1; omega
    · show 1 * v_iv (n_v (vs ++ [Value.int x]) 6) + ((-1) * v_iv (n_v (vs ++ [Value.int x]) 3) + 0) ≤ 0
      rw [e_3]
      rw [e_6]
      omega
  have nf1 : fc_1 (23, [6, 3], [0, -1, 1]) ws (vs ++ [Value.int x]) := by
    refine ⟨fun n hn => ?_, ?_⟩
    · have hn : n ∈ [6, 3] := hn
      rw [List.length_append, hl]
      simp only [List.mem_cons, List.not_mem_nil, or_false] at hn
      show n < 6 + 1; omega
    · show (-1) * v_iv (n_v (vs ++ [Value.int x]) 6) + (1 * v_iv (n_v (vs ++ [Value.int x]) 3) + 0) ≤ 0
      rw [e_3]
      rw [e_6]
      omega
  have nf2 : fc_1 (20, [6, 0], [30, 0, 1, 0, 0, -1, 1, 11]) ws (vs ++ [Value.int x]) := by
    refine ⟨fun n hn => ?_, ?_⟩
    · have hn : n ∈ [6, 0] := hn
      rw [List.length_append, hl]
      simp only [List.mem_cons, List.not_mem_nil, or_false] at hn
      show n < 6 + 1; omega
    · show 1 * v_iv (n_v (vs ++ [Value.int x]) 6) + ((-1) * w_fi ws (n_v (vs ++ [Value.int x]) 0) 11 + 0) ≤ 0
      rw [e_0]
      rw [e_6]
      omega
  exact ⟨(fun _ h => (by cases h)), [Value.int x], ag_one hx, List.forall_mem_cons.mpr ⟨⟨show (23 : Nat) < 100 from by decide, nf0⟩, List.forall_mem_cons.mpr ⟨⟨show (23 : Nat) < 100 from by decide, nf1⟩, List.forall_mem_cons.mpr ⟨⟨show (20 : Nat) < 100 from by decide, nf2⟩, (fun _ h => (by cases h))⟩⟩⟩, (fun _ h => (by cases h))⟩
def o_Mo_item_at_k1_4 : or_T := (17, 8, [(0, (2, 0, 0, [150])), (1, (0, 0, 7, [])), (3, (0, 0, 2000, [])), (6, (0, 0, 2000, []))], [(23, [6, 3], [0, 1, -1]), (23, [6, 3], [0, -1, 1]), (20, [1, 0], [50, 1, 1, 1005, 1002, 0, 6, 4, 2, 1, 0, 0, 1, 3, 1, 2, 4, 3, 2, 1, 5, 0, 2]), (20, [0, 0], [30, 0, 1, 1, 15, -1, 1, 11]), (20, [0], [50, 3, 0, 12, 11, 15, 2, 21, 4, 7, 1, 3, 2, 0, 12, 0, 1, 0, 3, 2, 0, 11, 4, 3, 2, 0, 15, 0, 8, 3, 7, 1, 3, 2, 0, 12, 0, 0, 0, 7, 4, 3, 2, 0, 15, 0, 1, 2, 0, 11]), (20, [6, 0], [30, 0, 1, 0, 0, -1, 1, 15]), (102, [6], [0, 13011, 13012, 13013, 13014, 13015]), (23, [6, 3], [0, 1, -1]), (23, [6, 3], [0, -1, 1])], [], [(0, 0, 2000, []), (0, 0, 2000, [])], [(23, [8, 3], [0, 1, -1]), (23, [8, 3], [0, -1, 1]), (20, [0, 0], [30, 0, 1, 1, 15, -1, 1, 11]), (20, [0], [50, 3, 0, 12, 11, 15, 2, 21, 4, 7, 1, 3, 2, 0, 12, 0, 1, 0, 3, 2, 0, 11, 4, 3, 2, 0, 15, 0, 8, 3, 7, 1, 3, 2, 0, 12, 0, 0, 0, 7, 4, 3, 2, 0, 15, 0, 1, 2, 0, 11]), (20, [8, 0], [30, 0, 1, 0, 0, -1, 1, 11]), (20, [0, 9], [50, 2, 0, 12, 11, 3, 7, 1, 3, 2, 0, 12, 0, 0, 0, 6, 4, 2, 1, 1, 0, 1, 2, 0, 11]), (20, [1, 0], [50, 1, 1, 1005, 1002, 0, 6, 4, 2, 1, 0, 0, 1, 3, 1, 2, 4, 3, 2, 1, 5, 0, 2])], [], [])
theorem oo_Mo_item_at_k1_4 {kA : Nat → ClassId} : or_ok kA GG o_Mo_item_at_k1_4 := by
  intro A ta ws vs hD hth hl hk hds hf
  have hl : vs.length = 8 := hl
  have hk : ∀ q ∈ ([(0, (2, 0, 0, [150])), (1, (0, 0, 7, [])), (3, (0, 0, 2000, [])), (6, (0, 0, 2000, []))] : List (Nat × tv_T)), tv_ok ta q.2 (n_v vs q.1) := hk
  obtain ⟨t0, hk⟩ := List.forall_mem_cons.mp hk
  have t0 : tv_ok ta (2, 0, 0, [150]) (n_v vs 0) := t0
  have r0 : ta (v_ad (n_v vs 0)) = some 150 := tv_rg t0
  obtain ⟨t1, hk⟩ := List.forall_mem_cons.mp hk
  have t1 : tv_ok ta (0, 0, 7, []) (n_v vs 1) := t1
  have k1 : 0 ≤ v_iv (n_v vs 1) ∧ v_iv (n_v vs 1) ≤ 7 := tv_rng t1
  obtain ⟨t3, hk⟩ := List.forall_mem_cons.mp hk
  have t3 : tv_ok ta (0, 0, 2000, []) (n_v vs 3) := t3
  have k3 : 0 ≤ v_iv (n_v vs 3) ∧ v_iv (n_v vs 3) ≤ 2000 := tv_rng t3
  obtain ⟨t6, hk⟩ := List.forall_mem_cons.mp hk
  have t6 : tv_ok ta (0, 0, 2000, []) (n_v vs 6) := t6
  have k6 : 0 ≤ v_iv (n_v vs 6) ∧ v_iv (n_v vs 6) ≤ 2000 := tv_rng t6
  have hf : fc_ok [(23, [6, 3], [0, 1, -1]), (23, [6, 3], [0, -1, 1]), (20, [1, 0], [50, 1, 1, 1005, 1002, 0, 6, 4, 2, 1, 0, 0, 1, 3, 1, 2, 4, 3, 2, 1, 5, 0, 2]), (20, [0, 0], [30, 0, 1, 1, 15, -1, 1, 11]), (20, [0], [50, 3, 0, 12, 11, 15, 2, 21, 4, 7, 1, 3, 2, 0, 12, 0, 1, 0, 3, 2, 0, 11, 4, 3, 2, 0, 15, 0, 8, 3, 7, 1, 3, 2, 0, 12, 0, 0, 0, 7, 4, 3, 2, 0, 15, 0, 1, 2, 0, 11]), (20, [6, 0], [30, 0, 1, 0, 0, -1, 1, 15]), (102, [6], [0, 13011, 13012, 13013, 13014, 13015]), (23, [6, 3], [0, 1, -1]), (23, [6, 3], [0, -1, 1])] ta ws vs := hf
  obtain ⟨f0, hf⟩ := fc_un (show (23 : Nat) < 100 from by decide) hf
  have f0 : 1 * v_iv (n_v vs 6) + ((-1) * v_iv (n_v vs 3) + 0) ≤ 0 := f0
  obtain ⟨f1, hf⟩ := fc_un (show (23 : Nat) < 100 from by decide) hf
  have f1 : (-1) * v_iv (n_v vs 6) + (1 * v_iv (n_v vs 3) + 0) ≤ 0 := f1
  obtain ⟨f2, hf⟩ := fc_un (show (20 : Nat) < 100 from by decide) hf
  have f2 : (v_iv (n_v vs 1) + 1) ≤ w_ei ws (w_ar ws (n_v vs 0) 2) ((w_fi ws (n_v vs 0) 5 + 2)) := f2
  obtain ⟨f3, hf⟩ := fc_un (show (20 : Nat) < 100 from by decide) hf
  have f3 : 1 * w_fi ws (n_v vs 0) 15 + ((-1) * w_fi ws (n_v vs 0) 11 + 0) ≤ 0 := f3
  obtain ⟨f4, hf⟩ := fc_un (show (20 : Nat) < 100 from by decide) hf
  have f4 : ((w_fi ws (n_v vs 0) 12 = 1) → (w_fi ws (n_v vs 0) 11 ≤ (w_fi ws (n_v vs 0) 15 + 8))) ∧ ((w_fi ws (n_v vs 0) 12 = 0) ∨ ((w_fi ws (n_v vs 0) 15 + 1) ≤ w_fi ws (n_v vs 0) 11)) := f4
  obtain ⟨f5, hf⟩ := fc_un (show (20 : Nat) < 100 from by decide) hf
  have f5 : 1 * v_iv (n_v vs 6) + ((-1) * w_fi ws (n_v vs 0) 15 + 0) ≤ 0 := f5
  obtain ⟨ta1, w1, le1, ⟨_, s1⟩, hf⟩ := fc_us (show ¬ (102 : Nat) < 100 from by decide) hf
  obtain ⟨f7, hf⟩ := fc_un (show (23 : Nat) < 100 from by decide) hf
  have f7 : 1 * v_iv (n_v vs 6) + ((-1) * v_iv (n_v vs 3) + 0) ≤ 0 := f7
  obtain ⟨f8, hf⟩ := fc_un (show (23 : Nat) < 100 from by decide) hf
  have f8 : (-1) * v_iv (n_v vs 6) + (1 * v_iv (n_v vs 3) + 0) ≤ 0 := f8
  have cr_0_2 : ta (w_ar ws (n_v vs 0) 2) = some 152 := tv_rg (th_fd hD hth r0 (g := GG_150) rfl (k := 2) (t := (2, 0, 0, [152])) rfl rfl)
  have kz_0_11 : 0 ≤ w_fi ws (n_v vs 0) 11 ∧ w_fi ws (n_v vs 0) 11 ≤ 2000 := tv_rng (th_fd hD hth r0 (g := GG_150) rfl (k := 11) (t := (0, 0, 2000, [])) rfl rfl)
  have kz_0_12 : 0 ≤ w_fi ws (n_v vs 0) 12 ∧ w_fi ws (n_v vs 0) 12 ≤ 4 := tv_rng (th_fd hD hth r0 (g := GG_150) rfl (k := 12) (t := (0, 0, 4, [])) rfl rfl)
  have kz_0_15 : 0 ≤ w_fi ws (n_v vs 0) 15 ∧ w_fi ws (n_v vs 0) 15 ≤ 2000 := tv_rng (th_fd hD hth r0 (g := GG_150) rfl (k := 15) (t := (0, 0, 2000, [])) rfl rfl)
  obtain ⟨x, ex, hx⟩ := iv_ex (ta := ta) (lo := 0) (hi := 2000) (z := v_iv (n_v vs 3)) (by omega) (by omega) (by omega) (by omega)
  have ex2 : v_iv (Value.int x) = v_iv (n_v vs 3) := ex
  have ex3 : 0 ≤ v_iv (Value.int x) ∧ v_iv (Value.int x) ≤ 2000 := tv_rng hx
  have kv1 : 0 ≤ w_fi ws (n_v vs 0) 15 ∧ w_fi ws (n_v vs 0) 15 ≤ 2000 := tv_rng (th_fd hD hth r0 (g := GG_150) rfl (k := 15) (t := (0, 0, 2000, [])) rfl rfl)
  obtain ⟨y, ey, hy⟩ := iv_ex (ta := ta) (lo := 0) (hi := 2000) (z := w_fi ws (n_v vs 0) 15) (by omega) (by omega) (by omega) (by omega)
  have ey2 : v_iv (Value.int y) = w_fi ws (n_v vs 0) 15 := ey
  have ey3 : 0 ≤ v_iv (Value.int y) ∧ v_iv (Value.int y) ≤ 2000 := tv_rng hy
  have e_0 : n_v (vs ++ [Value.int x, Value.int y]) 0 = n_v vs 0 := n_v_old (by rw [hl]; decide)
  have e_1 : n_v (vs ++ [Value.int x, Value.int y]) 1 = n_v vs 1 := n_v_old (by rw [hl]; decide)
  have e_3 : n_v (vs ++ [Value.int x, Value.int y]) 3 = n_v vs 3 := n_v_old (by rw [hl]; decide)
  have e_8 : n_v (vs ++ [Value.int x, Value.int y]) 8 = Value.int x := n_v_new0 hl
  have e_9 : n_v (vs ++ [Value.int x, Value.int y]) 9 = Value.int y := n_v_new1 hl
  have nf0 : fc_1 (23, [8, 3], [0, 1, -1]) ws (vs ++ [Value.int x, Value.int y]) := by
    refine ⟨fun n hn => ?_, ?_⟩
    · have hn : n ∈ [8, 3] := hn
      rw [List.length_append, hl]
      simp only [List.mem_cons, List.not_mem_nil, or_false] at hn
      show n < 8 + 2; omega
    · show 1 * v_iv (n_v (vs ++ [Value.int x, Value.int y]) 8) + ((-1) * v_iv (n_v (vs ++ [Value.int x, Value.int y]) 3) + 0) ≤ 0
      rw [e_3]
      rw [e_8]
      omega
  have nf1 : fc_1 (23, [8, 3], [0, -1, 1]) ws (vs ++ [Value.int x, Value.int y]) := by
    refine ⟨fun n hn => ?_, ?_⟩
    · have hn : n ∈ [8, 3] := hn
      rw [List.length_append, hl]
      simp only [List.mem_cons, List.not_mem_nil, or_false] at hn
      show n < 8 + 2; omega
    · show (-1) * v_iv (n_v (vs ++ [Value.int x, Value.int y]) 8) + (1 * v_iv (n_v (vs ++ [Value.int x, Value.int y]) 3) + 0) ≤ 0
      rw [e_3]
      rw [e_8]
      omega
  have nf2 : fc_1 (20, [0, 0], [30, 0, 1, 1, 15, -1, 1, 11]) ws (vs ++ [Value.int x, Value.int y]) := by
    refine ⟨fun n hn => ?_, ?_⟩
    · have hn : n ∈ [0, 0] := hn
      rw [List.length_append, hl]
      simp only [List.mem_cons, List.not_mem_nil, or_false] at hn
      show n < 8 + 2; omega
    · show 1 * w_fi ws (n_v (vs ++ [Value.int x, Value.int y]) 0) 15 + ((-1) * w_fi ws (n_v (vs ++ [Value.int x, Value.int y]) 0) 11 + 0) ≤ 0
      rw [e_0]
      omega
  have nf3 : fc_1 (20, [0], [50, 3, 0, 12, 11, 15, 2, 21, 4, 7, 1, 3, 2, 0, 12, 0, 1, 0, 3, 2, 0, 11, 4, 3, 2, 0, 15, 0, 8, 3, 7, 1, 3, 2, 0, 12, 0, 0, 0, 7, 4, 3, 2, 0, 15, 0, 1, 2, 0, 11]) ws (vs ++ [Value.int x, Value.int y]) := by
    refine ⟨fun n hn => ?_, ?_⟩
    · have hn : n ∈ [0] := hn
      rw [List.length_append, hl]
      simp only [List.mem_cons, List.not_mem_nil, or_false] at hn
      show n < 8 + 2; omega
    · show ((w_fi ws (n_v (vs ++ [Value.int x, Value.int y]) 0) 12 = 1) → (w_fi ws (n_v (vs ++ [Value.int x, Value.int y]) 0) 11 ≤ (w_fi ws (n_v (vs ++ [Value.int x, Value.int y]) 0) 15 + 8))) ∧ ((w_fi ws (n_v (vs ++ [Value.int x, Value.int y]) 0) 12 = 0) ∨ ((w_fi ws (n_v (vs ++ [Value.int x, Value.int y]) 0) 15 + 1) ≤ w_fi ws (n_v (vs ++ [Value.int x, Value.int y]) 0) 11))
      rw [e_0]
      first | omega | grind
  have nf4 : fc_1 (20, [8, 0], [30, 0, 1, 0, 0, -1, 1, 11]) ws (vs ++ [Value.int x, Value.int y]) := by
    refine ⟨fun n hn => ?_, ?_⟩
    · have hn : n ∈ [8, 0] := hn
      rw [List.length_append, hl]
      simp only [List.mem_cons, List.not_mem_nil, or_false] at hn
      show n < 8 + 2; omega
    · show 1 * v_iv (n_v (vs ++ [Value.int x, Value.int y]) 8) + ((-1) * w_fi ws (n_v (vs ++ [Value.int x, Value.int y]) 0) 11 + 0) ≤ 0
      rw [e_0]
      rw [e_8]
      omega
  have nf5 : fc_1 (20, [0, 9], [50, 2, 0, 12, 11, 3, 7, 1, 3, 2, 0, 12, 0, 0, 0, 6, 4, 2, 1, 1, 0, 1, 2, 0, 11]) ws (vs ++ [Value.int x, Value.int y]) := by
    refine ⟨fun n hn => ?_, ?_⟩
    · have hn : n ∈ [0, 9] := hn
      rw [List.length_append, hl]
      simp only [List.mem_cons, List.not_mem_nil, or_false] at hn
      show n < 8 + 2; omega
    · show (w_fi ws (n_v (vs ++ [Value.int x, Value.int y]) 0) 12 = 0) ∨ ((v_iv (n_v (vs ++ [Value.int x, Value.int y]) 9) + 1) ≤ w_fi ws (n_v (vs ++ [Value.int x, Value.int y]) 0) 11)
      rw [e_0]
      rw [e_9]
      first | omega | grind
  have nf6 : fc_1 (20, [1, 0], [50, 1, 1, 1005, 1002, 0, 6, 4, 2, 1, 0, 0, 1, 3, 1, 2, 4, 3, 2, 1, 5, 0, 2]) ws (vs ++ [Value.int x, Value.int y]) := by
    refine ⟨fun n hn => ?_, ?_⟩
    · have hn : n ∈ [1, 0] := hn
      rw [List.length_append, hl]
      simp only [List.mem_cons, List.not_mem_nil, or_false] at hn
      show n < 8 + 2; omega
    · show (v_iv (n_v (vs ++ [Value.int x, Value.int y]) 1) + 1) ≤ w_ei ws (w_ar ws (n_v (vs ++ [Value.int x, Value.int y]) 0) 2) ((w_fi ws (n_v (vs ++ [Value.int x, Value.int y]) 0) 5 + 2))
      rw [e_0]
      rw [e_1]
      first | omega | grind
  exact ⟨(fun _ h => (by cases h)), [Value.int x, Value.int y], ag_two hx hy, List.forall_mem_cons.mpr ⟨⟨show (23 : Nat) < 100 from by decide, nf0⟩, List.forall_mem_cons.mpr ⟨⟨show (23 : Nat) < 100 from by decide, nf1⟩, List.forall_mem_cons.mpr ⟨⟨show (20 : Nat) < 100 from by decide, nf2⟩, List.forall_mem_cons.mpr ⟨⟨show (20 : Nat) < 100 from by decide, nf3⟩, List.forall_mem_cons.mpr ⟨⟨show (20 : Nat) < 100 from by decide, nf4⟩, List.forall_mem_cons.mpr ⟨⟨show (20 : Nat) < 100 from by decide, nf5⟩, List.forall_mem_cons.mpr ⟨⟨show (20 : Nat) < 100 from by decide, nf6⟩, (fun _ h => (by cases h))⟩⟩⟩⟩⟩⟩⟩, (fun _ h => (by cases h))⟩
def o_Mo_item_at_k1_5 : or_T := (27, 13, [(0, (2, 0, 0, [150])), (1, (0, 0, 7, [])), (3, (0, 0, 2000, [])), (6, (0, 0, 2000, [])), (7, (0, -1, -1, [])), (8, (0, 0, 2000, [])), (9, (0, 0, 2000, [])), (10, (0, -1, 23, []))], [(23, [8, 3], [0, 1, -1]), (23, [8, 3], [0, -1, 1]), (23, [6, 3], [0, 1, -1]), (23, [6, 3], [0, -1, 1]), (20, [0, 0], [30, 0, 1, 1, 15, -1, 1, 11]), (20, [0], [50, 3, 0, 12, 11, 15, 2, 21, 4, 7, 1, 3, 2, 0, 12, 0, 1, 0, 3, 2, 0, 11, 4, 3, 2, 0, 15, 0, 8, 3, 7, 1, 3, 2, 0, 12, 0, 0, 0, 7, 4, 3, 2, 0, 15, 0, 1, 2, 0, 11]), (20, [8, 0], [30, 0, 1, 0, 0, -1, 1, 11]), (20, [0, 8], [50, 3, 0, 8, 12, 11, 3, 7, 0, 2, 0, 1, 2, 0, 8, 3, 7, 1, 3, 2, 0, 12, 0, 0, 0, 6, 4, 2, 1, 1, 0, 1, 2, 0, 11]), (20, [0, 9], [50, 2, 0, 8, 11, 3, 7, 0, 2, 0, 1, 2, 0, 8, 0, 6, 4, 2, 1, 1, 0, 1, 2, 0, 11]), (20, [0, 10], [31, 1, -1, -1, 1, 8, 0, -1, 0, 0]), (20, [0, 7], [50, 2, 1, 8, 5, 2, 3, 7, 0, 2, 0, 1, 2, 0, 8, 3, 6, 0, 2, 1, 1, 0, -1, 0, 10, 3, 0, 2, 4, 3, 2, 0, 5, 0, 1, 0, 47]), (20, [1, 0], [50, 1, 1, 1005, 1002, 0, 6, 4, 2, 1, 0, 0, 1, 3, 1, 2, 4, 3, 2, 1, 5, 0, 2]), (102, [9], [5708990770823839524233143877797980545530986496, 13008, 13009, 13011, 13012, 13013, 13014, 13015]), (23, [8, 3], [0, 1, -1]), (23, [8, 3], [0, -1, 1]), (23, [6, 3], [0, 1, -1]), (23, [6, 3], [0, -1, 1]), (102, [6], [0, 13011, 13012, 13013, 13014, 13015]), (23, [6, 3], [0, 1, -1]), (23, [6, 3], [0, -1, 1])], [], [(0, 0, 2000, []), (0, -1, 48, [])], [(23, [13, 3], [0, 1, -1]), (23, [13, 3], [0, -1, 1]), (23, [14, 10], [0, 1, -1]), (23, [14, 10], [0, -1, 1]), (20, [0, 0], [30, 0, 1, 1, 15, -1, 1, 11]), (20, [0], [50, 3, 0, 12, 11, 15, 2, 21, 4, 7, 1, 3, 2, 0, 12, 0, 1, 0, 3, 2, 0, 11, 4, 3, 2, 0, 15, 0, 8, 3, 7, 1, 3, 2, 0, 12, 0, 0, 0, 7, 4, 3, 2, 0, 15, 0, 1, 2, 0, 11]), (20, [13, 0], [30, 0, 1, 0, 0, -1, 1, 11]), (20, [0, 13], [50, 3, 0, 8, 12, 11, 3, 7, 0, 2, 0, 1, 2, 0, 8, 3, 7, 1, 3, 2, 0, 12, 0, 0, 0, 6, 4, 2, 1, 1, 0, 1, 2, 0, 11]), (20, [0, 14], [50, 1, 0, 8, 3, 7, 0, 2, 0, 1, 2, 0, 8, 0, 2, 0, 0, 1, 1])], [], [])
theorem oo_Mo_item_at_k1_5 {kA : Nat → ClassId} : or_ok kA GG o_Mo_item_at_k1_5 := by
  intro A ta ws vs hD hth hl hk hds hf
  have hl : vs.length = 13 := hl
  have hk : ∀ q ∈ ([(0, (2, 0, 0, [150])), (1, (0, 0, 7, [])), (3, (0, 0, 2000, [])), (6, (0, 0, 2000, [])), (7, (0, -1, -1, [])), (8, (0, 0, 2000, [])), (9, (0, 0, 2000, [])), (10, (0, -1, 23, []))] : List (Nat × tv_T)), tv_ok ta q.2 (n_v vs q.1) := hk
  obtain ⟨t0, hk⟩ := List.forall_mem_cons.mp hk
  have t0 : tv_ok ta (2, 0, 0, [150]) (n_v vs 0) := t0
  have r0 : ta (v_ad (n_v vs 0)) = some 150 := tv_rg t0
  obtain ⟨t1, hk⟩ := List.forall_mem_cons.mp hk
  have t1 : tv_ok ta (0, 0, 7, []) (n_v vs 1) := t1
  have k1 : 0 ≤ v_iv (n_v vs 1) ∧ v_iv (n_v vs 1) ≤ 7 := tv_rng t1
  obtain ⟨t3, hk⟩ := List.forall_mem_cons.mp hk
  have t3 : tv_ok ta (0, 0, 2000, []) (n_v vs 3) := t3
  have k3 : 0 ≤ v_iv (n_v vs 3) ∧ v_iv (n_v vs 3) ≤ 2000 := tv_rng t3
  obtain ⟨t6, hk⟩ := List.forall_mem_cons.mp hk
  have t6 : tv_ok ta (0, 0, 2000, []) (n_v vs 6) := t6
  have k6 : 0 ≤ v_iv (n_v vs 6) ∧ v_iv (n_v vs 6) ≤ 2000 := tv_rng t6
  obtain ⟨t7, hk⟩ := List.forall_mem_cons.mp hk
  have t7 : tv_ok ta (0, -1, -1, []) (n_v vs 7) := t7
  have k7 : (-1) ≤ v_iv (n_v vs 7) ∧ v_iv (n_v vs 7) ≤ (-1) := tv_rng t7
  obtain ⟨t8, hk⟩ := List.forall_mem_cons.mp hk
  have t8 : tv_ok ta (0, 0, 2000, []) (n_v vs 8) := t8
  have k8 : 0 ≤ v_iv (n_v vs 8) ∧ v_iv (n_v vs 8) ≤ 2000 := tv_rng t8
  obtain ⟨t9, hk⟩ := List.forall_mem_cons.mp hk
  have t9 : tv_ok ta (0, 0, 2000, []) (n_v vs 9) := t9
  have k9 : 0 ≤ v_iv (n_v vs 9) ∧ v_iv (n_v vs 9) ≤ 2000 := tv_rng t9
  obtain ⟨t10, hk⟩ := List.forall_mem_cons.mp hk
  have t10 : tv_ok ta (0, -1, 23, []) (n_v vs 10) := t10
  have k10 : (-1) ≤ v_iv (n_v vs 10) ∧ v_iv (n_v vs 10) ≤ 23 := tv_rng t10
  have hf : fc_ok [(23, [8, 3], [0, 1, -1]), (23, [8, 3], [0, -1, 1]), (23, [6, 3], [0, 1, -1]), (23, [6, 3], [0, -1, 1]), (20, [0, 0], [30, 0, 1, 1, 15, -1, 1, 11]), (20, [0], [50, 3, 0, 12, 11, 15, 2, 21, 4, 7, 1, 3, 2, 0, 12, 0, 1, 0, 3, 2, 0, 11, 4, 3, 2, 0, 15, 0, 8, 3, 7, 1, 3, 2, 0, 12, 0, 0, 0, 7, 4, 3, 2, 0, 15, 0, 1, 2, 0, 11]), (20, [8, 0], [30, 0, 1, 0, 0, -1, 1, 11]), (20, [0, 8], [50, 3, 0, 8, 12, 11, 3, 7, 0, 2, 0, 1, 2, 0, 8, 3, 7, 1, 3, 2, 0, 12, 0, 0, 0, 6, 4, 2, 1, 1, 0, 1, 2, 0, 11]), (20, [0, 9], [50, 2, 0, 8, 11, 3, 7, 0, 2, 0, 1, 2, 0, 8, 0, 6, 4, 2, 1, 1, 0, 1, 2, 0, 11]), (20, [0, 10], [31, 1, -1, -1, 1, 8, 0, -1, 0, 0]), (20, [0, 7], [50, 2, 1, 8, 5, 2, 3, 7, 0, 2, 0, 1, 2, 0, 8, 3, 6, 0, 2, 1, 1, 0, -1, 0, 10, 3, 0, 2, 4, 3, 2, 0, 5, 0, 1, 0, 47]), (20, [1, 0], [50, 1, 1, 1005, 1002, 0, 6, 4, 2, 1, 0, 0, 1, 3, 1, 2, 4, 3, 2, 1, 5, 0, 2]), (102, [9], [5708990770823839524233143877797980545530986496, 13008, 13009, 13011, 13012, 13013, 13014, 13015]), (23, [8, 3], [0, 1, -1]), (23, [8, 3], [0, -1, 1]), (23, [6, 3], [0, 1, -1]), (23, [6, 3], [0, -1, 1]), (102, [6], [0, 13011, 13012, 13013, 13014, 13015]), (23, [6, 3], [0, 1, -1]), (23, [6, 3], [0, -1, 1])] ta ws vs := hf
  obtain ⟨f0, hf⟩ := fc_un (show (23 : Nat) < 100 from by decide) hf
  have f0 : 1 * v_iv (n_v vs 8) + ((-1) * v_iv (n_v vs 3) + 0) ≤ 0 := f0
  obtain ⟨f1, hf⟩ := fc_un (show (23 : Nat) < 100 from by decide) hf
  have f1 : (-1) * v_iv (n_v vs 8) + (1 * v_iv (n_v vs 3) + 0) ≤ 0 := f1
  obtain ⟨f2, hf⟩ := fc_un (show (23 : Nat) < 100 from by decide) hf
  have f2 : 1 * v_iv (n_v vs 6) + ((-1) * v_iv (n_v vs 3) + 0) ≤ 0 := f2
  obtain ⟨f3, hf⟩ := fc_un (show (23 : Nat) < 100 from by decide) hf
  have f3 : (-1) * v_iv (n_v vs 6) + (1 * v_iv (n_v vs 3) + 0) ≤ 0 := f3
  obtain ⟨f4, hf⟩ := fc_un (show (20 : Nat) < 100 from by decide) hf
  have f4 : 1 * w_fi ws (n_v vs 0) 15 + ((-1) * w_fi ws (n_v vs 0) 11 + 0) ≤ 0 := f4
  obtain ⟨f5, hf⟩ := fc_un (show (20 : Nat) < 100 from by decide) hf
  have f5 : ((w_fi ws (n_v vs 0) 12 = 1) → (w_fi ws (n_v vs 0) 11 ≤ (w_fi ws (n_v vs 0) 15 + 8))) ∧ ((w_fi ws (n_v vs 0) 12 = 0) ∨ ((w_fi ws (n_v vs 0) 15 + 1) ≤ w_fi ws (n_v vs 0) 11)) := f5
  obtain ⟨f6, hf⟩ := fc_un (show (20 : Nat) < 100 from by decide) hf
  have f6 : 1 * v_iv (n_v vs 8) + ((-1) * w_fi ws (n_v vs 0) 11 + 0) ≤ 0 := f6
  obtain ⟨f7, hf⟩ := fc_un (show (20 : Nat) < 100 from by decide) hf
  have f7 : (1 ≤ w_fi ws (n_v vs 0) 8) ∨ ((w_fi ws (n_v vs 0) 12 = 0) ∨ ((v_iv (n_v vs 8) + 1) ≤ w_fi ws (n_v vs 0) 11)) := f7
  obtain ⟨f8, hf⟩ := fc_un (show (20 : Nat) < 100 from by decide) hf
  have f8 : (1 ≤ w_fi ws (n_v vs 0) 8) ∨ ((v_iv (n_v vs 9) + 1) ≤ w_fi ws (n_v vs 0) 11) := f8
  obtain ⟨f9, hf⟩ := fc_un (show (20 : Nat) < 100 from by decide) hf
  have f9 : ((-1) * w_fi ws (n_v vs 0) 8 + 0 ≤ (-1)) ∨ ((-1) * v_iv (n_v vs 10) + 0 ≤ 0) := f9
  obtain ⟨f10, hf⟩ := fc_un (show (20 : Nat) < 100 from by decide) hf
  have f10 : (1 ≤ w_fi ws (n_v vs 0) 8) ∨ ((v_iv (n_v vs 7) ≤ (-1)) ∨ (w_ei ws (w_ar ws (n_v vs 0) 2) ((w_fi ws (n_v vs 0) 5 + 1)) ≤ 47)) := f10
  obtain ⟨f11, hf⟩ := fc_un (show (20 : Nat) < 100 from by decide) hf
  have f11 : (v_iv (n_v vs 1) + 1) ≤ w_ei ws (w_ar ws (n_v vs 0) 2) ((w_fi ws (n_v vs 0) 5 + 2)) := f11
  obtain ⟨ta1, w1, le1, ⟨_, s1⟩, hf⟩ := fc_us (show ¬ (102 : Nat) < 100 from by decide) hf
  obtain ⟨f13, hf⟩ := fc_un (show (23 : Nat) < 100 from by decide) hf
  have f13 : 1 * v_iv (n_v vs 8) + ((-1) * v_iv (n_v vs 3) + 0) ≤ 0 := f13
  obtain ⟨f14, hf⟩ := fc_un (show (23 : Nat) < 100 from by decide) hf
  have f14 : (-1) * v_iv (n_v vs 8) + (1 * v_iv (n_v vs 3) + 0) ≤ 0 := f14
  obtain ⟨f15, hf⟩ := fc_un (show (23 : Nat) < 100 from by decide) hf
  have f15 : 1 * v_iv (n_v vs 6) + ((-1) * v_iv (n_v vs 3) + 0) ≤ 0 := f15
  obtain ⟨f16, hf⟩ := fc_un (show (23 : Nat) < 100 from by decide) hf
  have f16 : (-1) * v_iv (n_v vs 6) + (1 * v_iv (n_v vs 3) + 0) ≤ 0 := f16
  obtain ⟨ta2, w2, le2, ⟨_, s2⟩, hf⟩ := fc_us (show ¬ (102 : Nat) < 100 from by decide) hf
  obtain ⟨f18, hf⟩ := fc_un (show (23 : Nat) < 100 from by decide) hf
  have f18 : 1 * v_iv (n_v vs 6) + ((-1) * v_iv (n_v vs 3) + 0) ≤ 0 := f18
  obtain ⟨f19, hf⟩ := fc_un (show (23 : Nat) < 100 from by decide) hf
  have f19 : (-1) * v_iv (n_v vs 6) + (1 * v_iv (n_v vs 3) + 0) ≤ 0 := f19
  have cr_0_2 : ta (w_ar ws (n_v vs 0) 2) = some 152 := tv_rg (th_fd hD hth r0 (g := GG_150) rfl (k := 2) (t := (2, 0, 0, [152])) rfl rfl)
  have kz_0_8 : 0 ≤ w_fi ws (n_v vs 0) 8 ∧ w_fi ws (n_v vs 0) 8 ≤ 5 := tv_rng (th_fd hD hth r0 (g := GG_150) rfl (k := 8) (t := (0, 0, 5, [])) rfl rfl)
  have kz_0_11 : 0 ≤ w_fi ws (n_v vs 0) 11 ∧ w_fi ws (n_v vs 0) 11 ≤ 2000 := tv_rng (th_fd hD hth r0 (g := GG_150) rfl (k := 11) (t := (0, 0, 2000, [])) rfl rfl)
  have kz_0_12 : 0 ≤ w_fi ws (n_v vs 0) 12 ∧ w_fi ws (n_v vs 0) 12 ≤ 4 := tv_rng (th_fd hD hth r0 (g := GG_150) rfl (k := 12) (t := (0, 0, 4, [])) rfl rfl)
  have kz_0_15 : 0 ≤ w_fi ws (n_v vs 0) 15 ∧ w_fi ws (n_v vs 0) 15 ≤ 2000 := tv_rng (th_fd hD hth r0 (g := GG_150) rfl (k := 15) (t := (0, 0, 2000, [])) rfl rfl)
  obtain ⟨x, ex, hx⟩ := iv_ex (ta := ta) (lo := 0) (hi := 2000) (z := v_iv (n_v vs 3)) (by omega) (by omega) (by omega) (by omega)
  have ex2 : v_iv (Value.int x) = v_iv (n_v vs 3) := ex
  have ex3 : 0 ≤ v_iv (Value.int x) ∧ v_iv (Value.int x) ≤ 2000 := tv_rng hx
  obtain ⟨y, ey, hy⟩ := iv_ex (ta := ta) (lo := (-1)) (hi := 48) (z := v_iv (n_v vs 10)) (by omega) (by omega) (by omega) (by omega)
  have ey2 : v_iv (Value.int y) = v_iv (n_v vs 10) := ey
  have ey3 : (-1) ≤ v_iv (Value.int y) ∧ v_iv (Value.int y) ≤ 48 := tv_rng hy
  have e_0 : n_v (vs ++ [Value.int x, Value.int y]) 0 = n_v vs 0 := n_v_old (by rw [hl]; decide)
  have e_3 : n_v (vs ++ [Value.int x, Value.int y]) 3 = n_v vs 3 := n_v_old (by rw [hl]; decide)
  have e_10 : n_v (vs ++ [Value.int x, Value.int y]) 10 = n_v vs 10 := n_v_old (by rw [hl]; decide)
  have e_13 : n_v (vs ++ [Value.int x, Value.int y]) 13 = Value.int x := n_v_new0 hl
  have e_14 : n_v (vs ++ [Value.int x, Value.int y]) 14 = Value.int y := n_v_new1 hl
  have nf0 : fc_1 (23, [13, 3], [0, 1, -1]) ws (vs ++ [Value.int x, Value.int y]) := by
    refine ⟨fun n hn => ?_, ?_⟩
    · have hn : n ∈ [13, 3] := hn
      rw [List.length_append, hl]
      simp only [List.mem_cons, List.not_mem_nil, or_false] at hn
      show n < 13 + 2; omega
    · show 1 * v_iv (n_v (vs ++ [Value.int x, Value.int y]) 13) + ((-1) * v_iv (n_v (vs ++ [Value.int x, Value.int y]) 3) + 0) ≤ 0
      rw [e_3]
      rw [e_13]
      omega
  have nf1 : fc_1 (23, [13, 3], [0, -1, 1]) ws (vs ++ [Value.int x, Value.int y]) := by
    refine ⟨fun n hn => ?_, ?_⟩
    · have hn : n ∈ [13, 3] := hn
      rw [List.length_append, hl]
      simp only [List.mem_cons, List.not_mem_nil, or_false] at hn
      show n < 13 + 2; omega
    · show (-1) * v_iv (n_v (vs ++ [Value.int x, Value.int y]) 13) + (1 * v_iv (n_v (vs ++ [Value.int x, Value.int y]) 3) + 0) ≤ 0
      rw [e_3]
      rw [e_13]
      omega
  have nf2 : fc_1 (23, [14, 10], [0, 1, -1]) ws (vs ++ [Value.int x, Value.int y]) := by
    refine ⟨fun n hn => ?_, ?_⟩
    · have hn : n ∈ [14, 10] := hn
      rw [List.length_append, hl]
      simp only [List.mem_cons, List.not_mem_nil, or_false] at hn
      show n < 13 + 2; omega
    · show 1 * v_iv (n_v (vs ++ [Value.int x, Value.int y]) 14) + ((-1) * v_iv (n_v (vs ++ [Value.int x, Value.int y]) 10) + 0) ≤ 0
      rw [e_10]
      rw [e_14]
      omega
  have nf3 : fc_1 (23, [14, 10], [0, -1, 1]) ws (vs ++ [Value.int x, Value.int y]) := by
    refine ⟨fun n hn => ?_, ?_⟩
    · have hn : n ∈ [14, 10] := hn
      rw [List.length_append, hl]
      simp only [List.mem_cons, List.not_mem_nil, or_false] at hn
      show n < 13 + 2; omega
    · show (-1) * v_iv (n_v (vs ++ [Value.int x, Value.int y]) 14) + (1 * v_iv (n_v (vs ++ [Value.int x, Value.int y]) 10) + 0) ≤ 0
      rw [e_10]
      rw [e_14]
      omega
  have nf4 : fc_1 (20, [0, 0], [30, 0, 1, 1, 15, -1, 1, 11]) ws (vs ++ [Value.int x, Value.int y]) := by
    refine ⟨fun n hn => ?_, ?_⟩
    · have hn : n ∈ [0, 0] := hn
      rw [List.length_append, hl]
      simp only [List.mem_cons, List.not_mem_nil, or_false] at hn
      show n < 13 + 2; omega
    · show 1 * w_fi ws (n_v (vs ++ [Value.int x, Value.int y]) 0) 15 + ((-1) * w_fi ws (n_v (vs ++ [Value.int x, Value.int y]) 0) 11 + 0) ≤ 0
      rw [e_0]
      omega
  have nf5 : fc_1 (20, [0], [50, 3, 0, 12, 11, 15, 2, 21, 4, 7, 1, 3, 2, 0, 12, 0, 1, 0, 3, 2, 0, 11, 4, 3, 2, 0, 15, 0, 8, 3, 7, 1, 3, 2, 0, 12, 0, 0, 0, 7, 4, 3, 2, 0, 15, 0, 1, 2, 0, 11]) ws (vs ++ [Value.int x, Value.int y]) := by
    refine ⟨fun n hn => ?_, ?_⟩
    · have hn : n ∈ [0] := hn
      rw [List.length_append, hl]
      simp only [List.mem_cons, List.not_mem_nil, or_false] at hn
      show n < 13 + 2; omega
    · show ((w_fi ws (n_v (vs ++ [Value.int x, Value.int y]) 0) 12 = 1) → (w_fi ws (n_v (vs ++ [Value.int x, Value.int y]) 0) 11 ≤ (w_fi ws (n_v (vs ++ [Value.int x, Value.int y]) 0) 15 + 8))) ∧ ((w_fi ws (n_v (vs ++ [Value.int x, Value.int y]) 0) 12 = 0) ∨ ((w_fi ws (n_v (vs ++ [Value.int x, Value.int y]) 0) 15 + 1) ≤ w_fi ws (n_v (vs ++ [Value.int x, Value.int y]) 0) 11))
      rw [e_0]
      first | omega | grind
  have nf6 : fc_1 (20, [13, 0], [30, 0, 1, 0, 0, -1, 1, 11]) ws (vs ++ [Value.int x, Value.int y]) := by
    refine ⟨fun n hn => ?_, ?_⟩
    · have hn : n ∈ [13, 0] := hn
      rw [List.length_append, hl]
      simp only [List.mem_cons, List.not_mem_nil, or_false] at hn
      show n < 13 + 2; omega
    · show 1 * v_iv (n_v (vs ++ [Value.int x, Value.int y]) 13) + ((-1) * w_fi ws (n_v (vs ++ [Value.int x, Value.int y]) 0) 11 + 0) ≤ 0
      rw [e_0]
      rw [e_13]
      omega
  have nf7 : fc_1 (20, [0, 13], [50, 3, 0, 8, 12, 11, 3, 7, 0, 2, 0, 1, 2, 0, 8, 3, 7, 1, 3, 2, 0, 12, 0, 0, 0, 6, 4, 2, 1, 1, 0, 1, 2, 0, 11]) ws (vs ++ [Value.int x, Value.int y]) := by
    refine ⟨fun n hn => ?_, ?_⟩
    · have hn : n ∈ [0, 13] := hn
      rw [List.length_append, hl]
      simp only [List.mem_cons, List.not_mem_nil, or_false] at hn
      show n < 13 + 2; omega
    · show (1 ≤ w_fi ws (n_v (vs ++ [Value.int x, Value.int y]) 0) 8) ∨ ((w_fi ws (n_v (vs ++ [Value.int x, Value.int y]) 0) 12 = 0) ∨ ((v_iv (n_v (vs ++ [Value.int x, Value.int y]) 13) + 1) ≤ w_fi ws (n_v (vs ++ [Value.int x, Value.int y]) 0) 11))
      rw [e_0]
      rw [e_13]
      first | omega | grind
  have nf8 : fc_1 (20, [0, 14], [50, 1, 0, 8, 3, 7, 0, 2, 0, 1, 2, 0, 8, 0, 2, 0, 0, 1, 1]) ws (vs ++ [Value.int x, Value.int y]) := by
    refine ⟨fun n hn => ?_, ?_⟩
    · have hn : n ∈ [0, 14] := hn
      rw [List.length_append, hl]
      simp only [List.mem_cons, List.not_mem_nil, or_false] at hn
      show n < 13 + 2; omega
    · show (1 ≤ w_fi ws (n_v (vs ++ [Value.int x, Value.int y]) 0) 8) ∨ (0 ≤ v_iv (n_v (vs ++ [Value.int x, Value.int y]) 14))
      rw [e_0]
      rw [e_14]
      first | omega | grind
  exact ⟨(fun _ h => (by cases h)), [Value.int x, Value.int y], ag_two hx hy, List.forall_mem_cons.mpr ⟨⟨show (23 : Nat) < 100 from by decide, nf0⟩, List.forall_mem_cons.mpr ⟨⟨show (23 : Nat) < 100 from by decide, nf1⟩, List.forall_mem_cons.mpr ⟨⟨show (23 : Nat) < 100 from by decide, nf2⟩, List.forall_mem_cons.mpr ⟨⟨show (23 : Nat) < 100 from by decide, nf3⟩, List.forall_mem_cons.mpr ⟨⟨show (20 : Nat) < 100 from by decide, nf4⟩, List.forall_mem_cons.mpr ⟨⟨show (20 : Nat) < 100 from by decide, nf5⟩, List.forall_mem_cons.mpr ⟨⟨show (20 : Nat) < 100 from by decide, nf6⟩, List.forall_mem_cons.mpr ⟨⟨show (20 : Nat) < 100 from by decide, nf7⟩, List.forall_mem_cons.mpr ⟨⟨show (20 : Nat) < 100 from by decide, nf8⟩, (fun _ h => (by cases h))⟩⟩⟩⟩⟩⟩⟩⟩⟩, (fun _ h => (by cases h))⟩
def o_Mo_item_at_k1_6 : or_T := (64, 18, [(0, (2, 0, 0, [150])), (1, (0, 0, 7, [])), (3, (0, 0, 2000, [])), (6, (0, 0, 2000, [])), (8, (0, 0, 2000, [])), (10, (0, -1, 23, [])), (12, (0, 99, 99, [])), (13, (0, 0, 2000, [])), (14, (0, -1, 48, [])), (15, (0, -2147483648, 2147483647, [])), (16, (0, 1, 5, []))], [(8, [16], [1]), (9, [16, 0], [8]), (23, [13, 3], [0, 1, -1]), (23, [13, 3], [0, -1, 1]), (23, [14, 10], [0, 1, -1]), (23, [14, 10], [0, -1, 1]), (23, [8, 3], [0, 1, -1]), (23, [8, 3], [0, -1, 1]), (23, [6, 3], [0, 1, -1]), (23, [6, 3], [0, -1, 1]), (20, [1, 0], [50, 1, 1, 1005, 1002, 0, 6, 4, 2, 1, 0, 0, 1, 3, 1, 2, 4, 3, 2, 1, 5, 0, 2]), (20, [0, 0], [30, 0, 1, 1, 15, -1, 1, 11]), (20, [0], [50, 3, 0, 12, 11, 15, 2, 21, 4, 7, 1, 3, 2, 0, 12, 0, 1, 0, 3, 2, 0, 11, 4, 3, 2, 0, 15, 0, 8, 3, 7, 1, 3, 2, 0, 12, 0, 0, 0, 7, 4, 3, 2, 0, 15, 0, 1, 2, 0, 11]), (20, [13, 0], [30, 0, 1, 0, 0, -1, 1, 11]), (20, [0, 13], [50, 3, 0, 8, 12, 11, 3, 7, 0, 2, 0, 1, 2, 0, 8, 3, 7, 1, 3, 2, 0, 12, 0, 0, 0, 6, 4, 2, 1, 1, 0, 1, 2, 0, 11]), (20, [0, 14], [50, 1, 0, 8, 3, 7, 0, 2, 0, 1, 2, 0, 8, 0, 2, 0, 0, 1, 1]), (20, [15, 12], [30, 0, 1, 0, 0, -1, 0, 0]), (20, [15], [30, 0, -1, 0, 0]), (102, [14], [0, 13008, 13009, 13011, 13012, 13013, 13014, 13015]), (23, [13, 3], [0, 1, -1]), (23, [13, 3], [0, -1, 1]), (23, [14, 10], [0, 1, -1]), (23, [14, 10], [0, -1, 1]), (23, [8, 3], [0, 1, -1]), (23, [8, 3], [0, -1, 1]), (23, [6, 3], [0, 1, -1]), (23, [6, 3], [0, -1, 1]), (102, [9], [5708990770823839524233143877797980545530986496, 13008, 13009, 13011, 13012, 13013, 13014, 13015]), (23, [8, 3], [0, 1, -1]), (23, [8, 3], [0, -1, 1]), (23, [6, 3], [0, 1, -1]), (23, [6, 3], [0, -1, 1]), (102, [6], [0, 13011, 13012, 13013, 13014, 13015]), (23, [6, 3], [0, 1, -1]), (23, [6, 3], [0, -1, 1])], [], [(0, 0, 2000, [])], [(23, [18, 3], [0, 1, -1]), (23, [18, 3], [0, -1, 1]), (20, [0, 0], [30, 0, 1, 1, 15, -1, 1, 11]), (20, [0], [50, 3, 0, 12, 11, 15, 2, 21, 4, 7, 1, 3, 2, 0, 12, 0, 1, 0, 3, 2, 0, 11, 4, 3, 2, 0, 15, 0, 8, 3, 7, 1, 3, 2, 0, 12, 0, 0, 0, 7, 4, 3, 2, 0, 15, 0, 1, 2, 0, 11]), (20, [18, 0], [30, 0, 1, 0, 0, -1, 1, 11]), (20, [0, 18], [50, 3, 0, 8, 12, 11, 3, 7, 0, 2, 0, 1, 2, 0, 8, 3, 7, 1, 3, 2, 0, 12, 0, 0, 0, 6, 4, 2, 1, 1, 0, 1, 2, 0, 11])], [], [])
theorem oo_Mo_item_at_k1_6 {kA : Nat → ClassId} : or_ok kA GG o_Mo_item_at_k1_6 := by
  intro A ta ws vs hD hth hl hk hds hf
  have hl : vs.length = 18 := hl
  have hk : ∀ q ∈ ([(0, (2, 0, 0, [150])), (1, (0, 0, 7, [])), (3, (0, 0, 2000, [])), (6, (0, 0, 2000, [])), (8, (0, 0, 2000, [])), (10, (0, -1, 23, [])), (12, (0, 99, 99, [])), (13, (0, 0, 2000, [])), (14, (0, -1, 48, [])), (15, (0, -2147483648, 2147483647, [])), (16, (0, 1, 5, []))] : List (Nat × tv_T)), tv_ok ta q.2 (n_v vs q.1) := hk
  obtain ⟨t0, hk⟩ := List.forall_mem_cons.mp hk
  have t0 : tv_ok ta (2, 0, 0, [150]) (n_v vs 0) := t0
  have r0 : ta (v_ad (n_v vs 0)) = some 150 := tv_rg t0
  obtain ⟨t1, hk⟩ := List.forall_mem_cons.mp hk
  have t1 : tv_ok ta (0, 0, 7, []) (n_v vs 1) := t1
  have k1 : 0 ≤ v_iv (n_v vs 1) ∧ v_iv (n_v vs 1) ≤ 7 := tv_rng t1
  obtain ⟨t3, hk⟩ := List.forall_mem_cons.mp hk
  have t3 : tv_ok ta (0, 0, 2000, []) (n_v vs 3) := t3
  have k3 : 0 ≤ v_iv (n_v vs 3) ∧ v_iv (n_v vs 3) ≤ 2000 := tv_rng t3
  obtain ⟨t6, hk⟩ := List.forall_mem_cons.mp hk
  have t6 : tv_ok ta (0, 0, 2000, []) (n_v vs 6) := t6
  have k6 : 0 ≤ v_iv (n_v vs 6) ∧ v_iv (n_v vs 6) ≤ 2000 := tv_rng t6
  obtain ⟨t8, hk⟩ := List.forall_mem_cons.mp hk
  have t8 : tv_ok ta (0, 0, 2000, []) (n_v vs 8) := t8
  have k8 : 0 ≤ v_iv (n_v vs 8) ∧ v_iv (n_v vs 8) ≤ 2000 := tv_rng t8
  obtain ⟨t10, hk⟩ := List.forall_mem_cons.mp hk
  have t10 : tv_ok ta (0, -1, 23, []) (n_v vs 10) := t10
  have k10 : (-1) ≤ v_iv (n_v vs 10) ∧ v_iv (n_v vs 10) ≤ 23 := tv_rng t10
  obtain ⟨t12, hk⟩ := List.forall_mem_cons.mp hk
  have t12 : tv_ok ta (0, 99, 99, []) (n_v vs 12) := t12
  have k12 : 99 ≤ v_iv (n_v vs 12) ∧ v_iv (n_v vs 12) ≤ 99 := tv_rng t12
  obtain ⟨t13, hk⟩ := List.forall_mem_cons.mp hk
  have t13 : tv_ok ta (0, 0, 2000, []) (n_v vs 13) := t13
  have k13 : 0 ≤ v_iv (n_v vs 13) ∧ v_iv (n_v vs 13) ≤ 2000 := tv_rng t13
  obtain ⟨t14, hk⟩ := List.forall_mem_cons.mp hk
  have t14 : tv_ok ta (0, -1, 48, []) (n_v vs 14) := t14
  have k14 : (-1) ≤ v_iv (n_v vs 14) ∧ v_iv (n_v vs 14) ≤ 48 := tv_rng t14
  obtain ⟨t15, hk⟩ := List.forall_mem_cons.mp hk
  have t15 : tv_ok ta (0, -2147483648, 2147483647, []) (n_v vs 15) := t15
  have k15 : (-2147483648) ≤ v_iv (n_v vs 15) ∧ v_iv (n_v vs 15) ≤ 2147483647 := tv_rng t15
  obtain ⟨t16, hk⟩ := List.forall_mem_cons.mp hk
  have t16 : tv_ok ta (0, 1, 5, []) (n_v vs 16) := t16
  have k16 : 1 ≤ v_iv (n_v vs 16) ∧ v_iv (n_v vs 16) ≤ 5 := tv_rng t16
  have hf : fc_ok [(8, [16], [1]), (9, [16, 0], [8]), (23, [13, 3], [0, 1, -1]), (23, [13, 3], [0, -1, 1]), (23, [14, 10], [0, 1, -1]), (23, [14, 10], [0, -1, 1]), (23, [8, 3], [0, 1, -1]), (23, [8, 3], [0, -1, 1]), (23, [6, 3], [0, 1, -1]), (23, [6, 3], [0, -1, 1]), (20, [1, 0], [50, 1, 1, 1005, 1002, 0, 6, 4, 2, 1, 0, 0, 1, 3, 1, 2, 4, 3, 2, 1, 5, 0, 2]), (20, [0, 0], [30, 0, 1, 1, 15, -1, 1, 11]), (20, [0], [50, 3, 0, 12, 11, 15, 2, 21, 4, 7, 1, 3, 2, 0, 12, 0, 1, 0, 3, 2, 0, 11, 4, 3, 2, 0, 15, 0, 8, 3, 7, 1, 3, 2, 0, 12, 0, 0, 0, 7, 4, 3, 2, 0, 15, 0, 1, 2, 0, 11]), (20, [13, 0], [30, 0, 1, 0, 0, -1, 1, 11]), (20, [0, 13], [50, 3, 0, 8, 12, 11, 3, 7, 0, 2, 0, 1, 2, 0, 8, 3, 7, 1, 3, 2, 0, 12, 0, 0, 0, 6, 4, 2, 1, 1, 0, 1, 2, 0, 11]), (20, [0, 14], [50, 1, 0, 8, 3, 7, 0, 2, 0, 1, 2, 0, 8, 0, 2, 0, 0, 1, 1]), (20, [15, 12], [30, 0, 1, 0, 0, -1, 0, 0]), (20, [15], [30, 0, -1, 0, 0]), (102, [14], [0, 13008, 13009, 13011, 13012, 13013, 13014, 13015]), (23, [13, 3], [0, 1, -1]), (23, [13, 3], [0, -1, 1]), (23, [14, 10], [0, 1, -1]), (23, [14, 10], [0, -1, 1]), (23, [8, 3], [0, 1, -1]), (23, [8, 3], [0, -1, 1]), (23, [6, 3], [0, 1, -1]), (23, [6, 3], [0, -1, 1]), (102, [9], [5708990770823839524233143877797980545530986496, 13008, 13009, 13011, 13012, 13013, 13014, 13015]), (23, [8, 3], [0, 1, -1]), (23, [8, 3], [0, -1, 1]), (23, [6, 3], [0, 1, -1]), (23, [6, 3], [0, -1, 1]), (102, [6], [0, 13011, 13012, 13013, 13014, 13015]), (23, [6, 3], [0, 1, -1]), (23, [6, 3], [0, -1, 1])] ta ws vs := hf
  obtain ⟨f0, hf⟩ := fc_un (show (8 : Nat) < 100 from by decide) hf
  have f0 : v_iv (n_v vs 16) ≠ 0 := f0
  obtain ⟨f1, hf⟩ := fc_un (show (9 : Nat) < 100 from by decide) hf
  have f1 : n_v vs 16 = w_fd ws (v_ad (n_v vs 0)) 8 := f1
  obtain ⟨f2, hf⟩ := fc_un (show (23 : Nat) < 100 from by decide) hf
  have f2 : 1 * v_iv (n_v vs 13) + ((-1) * v_iv (n_v vs 3) + 0) ≤ 0 := f2
  obtain ⟨f3, hf⟩ := fc_un (show (23 : Nat) < 100 from by decide) hf
  have f3 : (-1) * v_iv (n_v vs 13) + (1 * v_iv (n_v vs 3) + 0) ≤ 0 := f3
  obtain ⟨f4, hf⟩ := fc_un (show (23 : Nat) < 100 from by decide) hf
  have f4 : 1 * v_iv (n_v vs 14) + ((-1) * v_iv (n_v vs 10) + 0) ≤ 0 := f4
  obtain ⟨f5, hf⟩ := fc_un (show (23 : Nat) < 100 from by decide) hf
  have f5 : (-1) * v_iv (n_v vs 14) + (1 * v_iv (n_v vs 10) + 0) ≤ 0 := f5
  obtain ⟨f6, hf⟩ := fc_un (show (23 : Nat) < 100 from by decide) hf
  have f6 : 1 * v_iv (n_v vs 8) + ((-1) * v_iv (n_v vs 3) + 0) ≤ 0 := f6
  obtain ⟨f7, hf⟩ := fc_un (show (23 : Nat) < 100 from by decide) hf
  have f7 : (-1) * v_iv (n_v vs 8) + (1 * v_iv (n_v vs 3) + 0) ≤ 0 := f7
  obtain ⟨f8, hf⟩ := fc_un (show (23 : Nat) < 100 from by decide) hf
  have f8 : 1 * v_iv (n_v vs 6) + ((-1) * v_iv (n_v vs 3) + 0) ≤ 0 := f8
  obtain ⟨f9, hf⟩ := fc_un (show (23 : Nat) < 100 from by decide) hf
  have f9 : (-1) * v_iv (n_v vs 6) + (1 * v_iv (n_v vs 3) + 0) ≤ 0 := f9
  obtain ⟨f10, hf⟩ := fc_un (show (20 : Nat) < 100 from by decide) hf
  have f10 : (v_iv (n_v vs 1) + 1) ≤ w_ei ws (w_ar ws (n_v vs 0) 2) ((w_fi ws (n_v vs 0) 5 + 2)) := f10
  obtain ⟨f11, hf⟩ := fc_un (show (20 : Nat) < 100 from by decide) hf
  have f11 : 1 * w_fi ws (n_v vs 0) 15 + ((-1) * w_fi ws (n_v vs 0) 11 + 0) ≤ 0 := f11
  obtain ⟨f12, hf⟩ := fc_un (show (20 : Nat) < 100 from by decide) hf
  have f12 : ((w_fi ws (n_v vs 0) 12 = 1) → (w_fi ws (n_v vs 0) 11 ≤ (w_fi ws (n_v vs 0) 15 + 8))) ∧ ((w_fi ws (n_v vs 0) 12 = 0) ∨ ((w_fi ws (n_v vs 0) 15 + 1) ≤ w_fi ws (n_v vs 0) 11)) := f12
  obtain ⟨f13, hf⟩ := fc_un (show (20 : Nat) < 100 from by decide) hf
  have f13 : 1 * v_iv (n_v vs 13) + ((-1) * w_fi ws (n_v vs 0) 11 + 0) ≤ 0 := f13
  obtain ⟨f14, hf⟩ := fc_un (show (20 : Nat) < 100 from by decide) hf
  have f14 : (1 ≤ w_fi ws (n_v vs 0) 8) ∨ ((w_fi ws (n_v vs 0) 12 = 0) ∨ ((v_iv (n_v vs 13) + 1) ≤ w_fi ws (n_v vs 0) 11)) := f14
  obtain ⟨f15, hf⟩ := fc_un (show (20 : Nat) < 100 from by decide) hf
  have f15 : (1 ≤ w_fi ws (n_v vs 0) 8) ∨ (0 ≤ v_iv (n_v vs 14)) := f15
  obtain ⟨f16, hf⟩ := fc_un (show (20 : Nat) < 100 from by decide) hf
  have f16 : 1 * v_iv (n_v vs 15) + ((-1) * v_iv (n_v vs 12) + 0) ≤ 0 := f16
  obtain ⟨f17, hf⟩ := fc_un (show (20 : Nat) < 100 from by decide) hf
  have f17 : (-1) * v_iv (n_v vs 15) + 0 ≤ 0 := f17
  obtain ⟨ta1, w1, le1, ⟨_, s1⟩, hf⟩ := fc_us (show ¬ (102 : Nat) < 100 from by decide) hf
  obtain ⟨f19, hf⟩ := fc_un (show (23 : Nat) < 100 from by decide) hf
  have f19 : 1 * v_iv (n_v vs 13) + ((-1) * v_iv (n_v vs 3) + 0) ≤ 0 := f19
  obtain ⟨f20, hf⟩ := fc_un (show (23 : Nat) < 100 from by decide) hf
  have f20 : (-1) * v_iv (n_v vs 13) + (1 * v_iv (n_v vs 3) + 0) ≤ 0 := f20
  obtain ⟨f21, hf⟩ := fc_un (show (23 : Nat) < 100 from by decide) hf
  have f21 : 1 * v_iv (n_v vs 14) + ((-1) * v_iv (n_v vs 10) + 0) ≤ 0 := f21
  obtain ⟨f22, hf⟩ := fc_un (show (23 : Nat) < 100 from by decide) hf
  have f22 : (-1) * v_iv (n_v vs 14) + (1 * v_iv (n_v vs 10) + 0) ≤ 0 := f22
  obtain ⟨f23, hf⟩ := fc_un (show (23 : Nat) < 100 from by decide) hf
  have f23 : 1 * v_iv (n_v vs 8) + ((-1) * v_iv (n_v vs 3) + 0) ≤ 0 := f23
  obtain ⟨f24, hf⟩ := fc_un (show (23 : Nat) < 100 from by decide) hf
  have f24 : (-1) * v_iv (n_v vs 8) + (1 * v_iv (n_v vs 3) + 0) ≤ 0 := f24
  obtain ⟨f25, hf⟩ := fc_un (show (23 : Nat) < 100 from by decide) hf
  have f25 : 1 * v_iv (n_v vs 6) + ((-1) * v_iv (n_v vs 3) + 0) ≤ 0 := f25
  obtain ⟨f26, hf⟩ := fc_un (show (23 : Nat) < 100 from by decide) hf
  have f26 : (-1) * v_iv (n_v vs 6) + (1 * v_iv (n_v vs 3) + 0) ≤ 0 := f26
  obtain ⟨ta2, w2, le2, ⟨_, s2⟩, hf⟩ := fc_us (show ¬ (102 : Nat) < 100 from by decide) hf
  obtain ⟨f28, hf⟩ := fc_un (show (23 : Nat) < 100 from by decide) hf
  have f28 : 1 * v_iv (n_v vs 8) + ((-1) * v_iv (n_v vs 3) + 0) ≤ 0 := f28
  obtain ⟨f29, hf⟩ := fc_un (show (23 : Nat) < 100 from by decide) hf
  have f29 : (-1) * v_iv (n_v vs 8) + (1 * v_iv (n_v vs 3) + 0) ≤ 0 := f29
  obtain ⟨f30, hf⟩ := fc_un (show (23 : Nat) < 100 from by decide) hf
  have f30 : 1 * v_iv (n_v vs 6) + ((-1) * v_iv (n_v vs 3) + 0) ≤ 0 := f30
  obtain ⟨f31, hf⟩ := fc_un (show (23 : Nat) < 100 from by decide) hf
  have f31 : (-1) * v_iv (n_v vs 6) + (1 * v_iv (n_v vs 3) + 0) ≤ 0 := f31
  obtain ⟨ta3, w3, le3, ⟨_, s3⟩, hf⟩ := fc_us (show ¬ (102 : Nat) < 100 from by decide) hf
  obtain ⟨f33, hf⟩ := fc_un (show (23 : Nat) < 100 from by decide) hf
  have f33 : 1 * v_iv (n_v vs 6) + ((-1) * v_iv (n_v vs 3) + 0) ≤ 0 := f33
  obtain ⟨f34, hf⟩ := fc_un (show (23 : Nat) < 100 from by decide) hf
  have f34 : (-1) * v_iv (n_v vs 6) + (1 * v_iv (n_v vs 3) + 0) ≤ 0 := f34
  have cr_0_2 : ta (w_ar ws (n_v vs 0) 2) = some 152 := tv_rg (th_fd hD hth r0 (g := GG_150) rfl (k := 2) (t := (2, 0, 0, [152])) rfl rfl)
  have g1 : v_iv (n_v vs 16) = w_fi ws (n_v vs 0) 8 := congrArg v_iv f1
  have kz_0_8 : 0 ≤ w_fi ws (n_v vs 0) 8 ∧ w_fi ws (n_v vs 0) 8 ≤ 5 := tv_rng (th_fd hD hth r0 (g := GG_150) rfl (k := 8) (t := (0, 0, 5, [])) rfl rfl)
  have kz_0_11 : 0 ≤ w_fi ws (n_v vs 0) 11 ∧ w_fi ws (n_v vs 0) 11 ≤ 2000 := tv_rng (th_fd hD hth r0 (g := GG_150) rfl (k := 11) (t := (0, 0, 2000, [])) rfl rfl)
  have kz_0_12 : 0 ≤ w_fi ws (n_v vs 0) 12 ∧ w_fi ws (n_v vs 0) 12 ≤ 4 := tv_rng (th_fd hD hth r0 (g := GG_150) rfl (k := 12) (t := (0, 0, 4, [])) rfl rfl)
  have kz_0_15 : 0 ≤ w_fi ws (n_v vs 0) 15 ∧ w_fi ws (n_v vs 0) 15 ≤ 2000 := tv_rng (th_fd hD hth r0 (g := GG_150) rfl (k := 15) (t := (0, 0, 2000, [])) rfl rfl)
  obtain ⟨x, ex, hx⟩ := iv_ex (ta := ta) (lo := 0) (hi := 2000) (z := v_iv (n_v vs 3)) (by omega) (by omega) (by omega) (by omega)
  have ex2 : v_iv (Value.int x) = v_iv (n_v vs 3) := ex
  have ex3 : 0 ≤ v_iv (Value.int x) ∧ v_iv (Value.int x) ≤ 2000 := tv_rng hx
  have e_0 : n_v (vs ++ [Value.int x]) 0 = n_v vs 0 := n_v_old (by rw [hl]; decide)
  have e_3 : n_v (vs ++ [Value.int x]) 3 = n_v vs 3 := n_v_old (by rw [hl]; decide)
  have e_18 : n_v (vs ++ [Value.int x]) 18 = Value.int x := n_v_new hl
  have nf0 : fc_1 (23, [18, 3], [0, 1, -1]) ws (vs ++ [Value.int x]) := by
    refine ⟨fun n hn => ?_, ?_⟩
    · have hn : n ∈ [18, 3] := hn
      rw [List.length_append, hl]
      simp only [List.mem_cons, List.not_mem_nil, or_false] at hn
      show n < 18 + 1; omega
    · show 1 * v_iv (n_v (vs ++ [Value.int x]) 18) + ((-1) * v_iv (n_v (vs ++ [Value.int x]) 3) + 0) ≤ 0
      rw [e_3]
      rw [e_18]
      omega
  have nf1 : fc_1 (23, [18, 3], [0, -1, 1]) ws (vs ++ [Value.int x]) := by
    refine ⟨fun n hn => ?_, ?_⟩
    · have hn : n ∈ [18, 3] := hn
      rw [List.length_append, hl]
      simp only [List.mem_cons, List.not_mem_nil, or_false] at hn
      show n < 18 + 1; omega
    · show (-1) * v_iv (n_v (vs ++ [Value.int x]) 18) + (1 * v_iv (n_v (vs ++ [Value.int x]) 3) + 0) ≤ 0
      rw [e_3]
      rw [e_18]
      omega
  have nf2 : fc_1 (20, [0, 0], [30, 0, 1, 1, 15, -1, 1, 11]) ws (vs ++ [Value.int x]) := by
    refine ⟨fun n hn => ?_, ?_⟩
    · have hn : n ∈ [0, 0] := hn
      rw [List.length_append, hl]
      simp only [List.mem_cons, List.not_mem_nil, or_false] at hn
      show n < 18 + 1; omega
    · show 1 * w_fi ws (n_v (vs ++ [Value.int x]) 0) 15 + ((-1) * w_fi ws (n_v (vs ++ [Value.int x]) 0) 11 + 0) ≤ 0
      rw [e_0]
      omega
  have nf3 : fc_1 (20, [0], [50, 3, 0, 12, 11, 15, 2, 21, 4, 7, 1, 3, 2, 0, 12, 0, 1, 0, 3, 2, 0, 11, 4, 3, 2, 0, 15, 0, 8, 3, 7, 1, 3, 2, 0, 12, 0, 0, 0, 7, 4, 3, 2, 0, 15, 0, 1, 2, 0, 11]) ws (vs ++ [Value.int x]) := by
    refine ⟨fun n hn => ?_, ?_⟩
    · have hn : n ∈ [0] := hn
      rw [List.length_append, hl]
      simp only [List.mem_cons, List.not_mem_nil, or_false] at hn
      show n < 18 + 1; omega
    · show ((w_fi ws (n_v (vs ++ [Value.int x]) 0) 12 = 1) → (w_fi ws (n_v (vs ++ [Value.int x]) 0) 11 ≤ (w_fi ws (n_v (vs ++ [Value.int x]) 0) 15 + 8))) ∧ ((w_fi ws (n_v (vs ++ [Value.int x]) 0) 12 = 0) ∨ ((w_fi ws (n_v (vs ++ [Value.int x]) 0) 15 + 1) ≤ w_fi ws (n_v (vs ++ [Value.int x]) 0) 11))
      rw [e_0]
      first | omega | grind
  have nf4 : fc_1 (20, [18, 0], [30, 0, 1, 0, 0, -1, 1, 11]) ws (vs ++ [Value.int x]) := by
    refine ⟨fun n hn => ?_, ?_⟩
    · have hn : n ∈ [18, 0] := hn
      rw [List.length_append, hl]
      simp only [List.mem_cons, List.not_mem_nil, or_false] at hn
      show n < 18 + 1; omega
    · show 1 * v_iv (n_v (vs ++ [Value.int x]) 18) + ((-1) * w_fi ws (n_v (vs ++ [Value.int x]) 0) 11 + 0) ≤ 0
      rw [e_0]
      rw [e_18]
      omega
  have nf5 : fc_1 (20, [0, 18], [50, 3, 0, 8, 12, 11, 3, 7, 0, 2, 0, 1, 2, 0, 8, 3, 7, 1, 3, 2, 0, 12, 0, 0, 0, 6, 4, 2, 1, 1, 0, 1, 2, 0, 11]) ws (vs ++ [Value.int x]) := by
    refine ⟨fun n hn => ?_, ?_⟩
    · have hn : n ∈ [0, 18] := hn
      rw [List.length_append, hl]
      simp only [List.mem_cons, List.not_mem_nil, or_false] at hn
      show n < 18 + 1; omega
    · show (1 ≤ w_fi ws (n_v (vs ++ [Value.int x]) 0) 8) ∨ ((w_fi ws (n_v (vs ++ [Value.int x]) 0) 12 = 0) ∨ ((v_iv (n_v (vs ++ [Value.int x]) 18) + 1) ≤ w_fi ws (n_v (vs ++ [Value.int x]) 0) 11))
      rw [e_0]
      rw [e_18]
      first | omega | grind
  exact ⟨(fun _ h => (by cases h)), [Value.int x], ag_one hx, List.forall_mem_cons.mpr ⟨⟨show (23 : Nat) < 100 from by decide, nf0⟩, List.forall_mem_cons.mpr ⟨⟨show (23 : Nat) < 100 from by decide, nf1⟩, List.forall_mem_cons.mpr ⟨⟨show (20 : Nat) < 100 from by decide, nf2⟩, List.forall_mem_cons.mpr ⟨⟨show (20 : Nat) < 100 from by decide, nf3⟩, List.forall_mem_cons.mpr ⟨⟨show (20 : Nat) < 100 from by decide, nf4⟩, List.forall_mem_cons.mpr ⟨⟨show (20 : Nat) < 100 from by decide, nf5⟩, (fun _ h => (by cases h))⟩⟩⟩⟩⟩⟩, (fun _ h => (by cases h))⟩
def o_Mo_item_at_k1_7 : or_T := (94, 19, [(0, (2, 0, 0, [150])), (1, (0, 0, 7, [])), (3, (0, 0, 2000, [])), (6, (0, 0, 2000, [])), (8, (0, 0, 2000, [])), (12, (0, 99, 99, [])), (13, (0, 0, 2000, [])), (15, (0, -2147483648, 2147483647, [])), (18, (0, 0, 2000, []))], [(23, [18, 3], [0, 1, -1]), (23, [18, 3], [0, -1, 1]), (23, [13, 3], [0, 1, -1]), (23, [13, 3], [0, -1, 1]), (23, [8, 3], [0, 1, -1]), (23, [8, 3], [0, -1, 1]), (23, [6, 3], [0, 1, -1]), (23, [6, 3], [0, -1, 1]), (20, [1, 0], [50, 1, 1, 1005, 1002, 0, 6, 4, 2, 1, 0, 0, 1, 3, 1, 2, 4, 3, 2, 1, 5, 0, 2]), (20, [15, 12], [30, 0, 1, 0, 0, -1, 0, 0]), (20, [15], [30, 0, -1, 0, 0]), (20, [0, 0], [30, 0, 1, 1, 15, -1, 1, 11]), (20, [0], [50, 3, 0, 12, 11, 15, 2, 21, 4, 7, 1, 3, 2, 0, 12, 0, 1, 0, 3, 2, 0, 11, 4, 3, 2, 0, 15, 0, 8, 3, 7, 1, 3, 2, 0, 12, 0, 0, 0, 7, 4, 3, 2, 0, 15, 0, 1, 2, 0, 11]), (20, [18, 0], [30, 0, 1, 0, 0, -1, 1, 11]), (20, [0, 18], [50, 2, 0, 8, 11, 3, 7, 0, 2, 0, 1, 2, 0, 8, 0, 6, 4, 2, 1, 1, 0, 1, 2, 0, 11]), (102, [18], [0, 13008, 13009, 13011, 13012, 13013, 13014, 13015]), (23, [18, 3], [0, 1, -1]), (23, [18, 3], [0, -1, 1]), (23, [13, 3], [0, 1, -1]), (23, [13, 3], [0, -1, 1]), (23, [8, 3], [0, 1, -1]), (23, [8, 3], [0, -1, 1]), (23, [6, 3], [0, 1, -1]), (23, [6, 3], [0, -1, 1]), (102, [14], [0, 13008, 13009, 13011, 13012, 13013, 13014, 13015]), (23, [13, 3], [0, 1, -1]), (23, [13, 3], [0, -1, 1]), (23, [8, 3], [0, 1, -1]), (23, [8, 3], [0, -1, 1]), (23, [6, 3], [0, 1, -1]), (23, [6, 3], [0, -1, 1]), (102, [9], [5708990770823839524233143877797980545530986496, 13008, 13009, 13011, 13012, 13013, 13014, 13015]), (23, [8, 3], [0, 1, -1]), (23, [8, 3], [0, -1, 1]), (23, [6, 3], [0, 1, -1]), (23, [6, 3], [0, -1, 1]), (102, [6], [0, 13011, 13012, 13013, 13014, 13015]), (23, [6, 3], [0, 1, -1]), (23, [6, 3], [0, -1, 1])], [], [], [(20, [3, 0], [30, 0, 1, 0, 0, -1, 1, 11]), (20, [0, 3], [50, 2, 0, 8, 11, 3, 7, 0, 2, 0, 1, 2, 0, 8, 0, 6, 4, 2, 1, 1, 0, 1, 2, 0, 11])], [], [])
theorem oo_Mo_item_at_k1_7 {kA : Nat → ClassId} : or_ok kA GG o_Mo_item_at_k1_7 := by
  intro A ta ws vs hD hth hl hk hds hf
  have hl : vs.length = 19 := hl
  have hk : ∀ q ∈ ([(0, (2, 0, 0, [150])), (1, (0, 0, 7, [])), (3, (0, 0, 2000, [])), (6, (0, 0, 2000, [])), (8, (0, 0, 2000, [])), (12, (0, 99, 99, [])), (13, (0, 0, 2000, [])), (15, (0, -2147483648, 2147483647, [])), (18, (0, 0, 2000, []))] : List (Nat × tv_T)), tv_ok ta q.2 (n_v vs q.1) := hk
  obtain ⟨t0, hk⟩ := List.forall_mem_cons.mp hk
  have t0 : tv_ok ta (2, 0, 0, [150]) (n_v vs 0) := t0
  have r0 : ta (v_ad (n_v vs 0)) = some 150 := tv_rg t0
  obtain ⟨t1, hk⟩ := List.forall_mem_cons.mp hk
  have t1 : tv_ok ta (0, 0, 7, []) (n_v vs 1) := t1
  have k1 : 0 ≤ v_iv (n_v vs 1) ∧ v_iv (n_v vs 1) ≤ 7 := tv_rng t1
  obtain ⟨t3, hk⟩ := List.forall_mem_cons.mp hk
  have t3 : tv_ok ta (0, 0, 2000, []) (n_v vs 3) := t3
  have k3 : 0 ≤ v_iv (n_v vs 3) ∧ v_iv (n_v vs 3) ≤ 2000 := tv_rng t3
  obtain ⟨t6, hk⟩ := List.forall_mem_cons.mp hk
  have t6 : tv_ok ta (0, 0, 2000, []) (n_v vs 6) := t6
  have k6 : 0 ≤ v_iv (n_v vs 6) ∧ v_iv (n_v vs 6) ≤ 2000 := tv_rng t6
  obtain ⟨t8, hk⟩ := List.forall_mem_cons.mp hk
  have t8 : tv_ok ta (0, 0, 2000, []) (n_v vs 8) := t8
  have k8 : 0 ≤ v_iv (n_v vs 8) ∧ v_iv (n_v vs 8) ≤ 2000 := tv_rng t8
  obtain ⟨t12, hk⟩ := List.forall_mem_cons.mp hk
  have t12 : tv_ok ta (0, 99, 99, []) (n_v vs 12) := t12
  have k12 : 99 ≤ v_iv (n_v vs 12) ∧ v_iv (n_v vs 12) ≤ 99 := tv_rng t12
  obtain ⟨t13, hk⟩ := List.forall_mem_cons.mp hk
  have t13 : tv_ok ta (0, 0, 2000, []) (n_v vs 13) := t13
  have k13 : 0 ≤ v_iv (n_v vs 13) ∧ v_iv (n_v vs 13) ≤ 2000 := tv_rng t13
  obtain ⟨t15, hk⟩ := List.forall_mem_cons.mp hk
  have t15 : tv_ok ta (0, -2147483648, 2147483647, []) (n_v vs 15) := t15
  have k15 : (-2147483648) ≤ v_iv (n_v vs 15) ∧ v_iv (n_v vs 15) ≤ 2147483647 := tv_rng t15
  obtain ⟨t18, hk⟩ := List.forall_mem_cons.mp hk
  have t18 : tv_ok ta (0, 0, 2000, []) (n_v vs 18) := t18
  have k18 : 0 ≤ v_iv (n_v vs 18) ∧ v_iv (n_v vs 18) ≤ 2000 := tv_rng t18
  have hf : fc_ok [(23, [18, 3], [0, 1, -1]), (23, [18, 3], [0, -1, 1]), (23, [13, 3], [0, 1, -1]), (23, [13, 3], [0, -1, 1]), (23, [8, 3], [0, 1, -1]), (23, [8, 3], [0, -1, 1]), (23, [6, 3], [0, 1, -1]), (23, [6, 3], [0, -1, 1]), (20, [1, 0], [50, 1, 1, 1005, 1002, 0, 6, 4, 2, 1, 0, 0, 1, 3, 1, 2, 4, 3, 2, 1, 5, 0, 2]), (20, [15, 12], [30, 0, 1, 0, 0, -1, 0, 0]), (20, [15], [30, 0, -1, 0, 0]), (20, [0, 0], [30, 0, 1, 1, 15, -1, 1, 11]), (20, [0], [50, 3, 0, 12, 11, 15, 2, 21, 4, 7, 1, 3, 2, 0, 12, 0, 1, 0, 3, 2, 0, 11, 4, 3, 2, 0, 15, 0, 8, 3, 7, 1, 3, 2, 0, 12, 0, 0, 0, 7, 4, 3, 2, 0, 15, 0, 1, 2, 0, 11]), (20, [18, 0], [30, 0, 1, 0, 0, -1, 1, 11]), (20, [0, 18], [50, 2, 0, 8, 11, 3, 7, 0, 2, 0, 1, 2, 0, 8, 0, 6, 4, 2, 1, 1, 0, 1, 2, 0, 11]), (102, [18], [0, 13008, 13009, 13011, 13012, 13013, 13014, 13015]), (23, [18, 3], [0, 1, -1]), (23, [18, 3], [0, -1, 1]), (23, [13, 3], [0, 1, -1]), (23, [13, 3], [0, -1, 1]), (23, [8, 3], [0, 1, -1]), (23, [8, 3], [0, -1, 1]), (23, [6, 3], [0, 1, -1]), (23, [6, 3], [0, -1, 1]), (102, [14], [0, 13008, 13009, 13011, 13012, 13013, 13014, 13015]), (23, [13, 3], [0, 1, -1]), (23, [13, 3], [0, -1, 1]), (23, [8, 3], [0, 1, -1]), (23, [8, 3], [0, -1, 1]), (23, [6, 3], [0, 1, -1]), (23, [6, 3], [0, -1, 1]), (102, [9], [5708990770823839524233143877797980545530986496, 13008, 13009, 13011, 13012, 13013, 13014, 13015]), (23, [8, 3], [0, 1, -1]), (23, [8, 3], [0, -1, 1]), (23, [6, 3], [0, 1, -1]), (23, [6, 3], [0, -1, 1]), (102, [6], [0, 13011, 13012, 13013, 13014, 13015]), (23, [6, 3], [0, 1, -1]), (23, [6, 3], [0, -1, 1])] ta ws vs := hf
  obtain ⟨f0, hf⟩ := fc_un (show (23 : Nat) < 100 from by decide) hf
  have f0 : 1 * v_iv (n_v vs 18) + ((-1) * v_iv (n_v vs 3) + 0) ≤ 0 := f0
  obtain ⟨f1, hf⟩ := fc_un (show (23 : Nat) < 100 from by decide) hf
  have f1 : (-1) * v_iv (n_v vs 18) + (1 * v_iv (n_v vs 3) + 0) ≤ 0 := f1
  obtain ⟨f2, hf⟩ := fc_un (show (23 : Nat) < 100 from by decide) hf
  have f2 : 1 * v_iv (n_v vs 13) + ((-1) * v_iv (n_v vs 3) + 0) ≤ 0 := f2
  obtain ⟨f3, hf⟩ := fc_un (show (23 : Nat) < 100 from by decide) hf
  have f3 : (-1) * v_iv (n_v vs 13) + (1 * v_iv (n_v vs 3) + 0) ≤ 0 := f3
  obtain ⟨f4, hf⟩ := fc_un (show (23 : Nat) < 100 from by decide) hf
  have f4 : 1 * v_iv (n_v vs 8) + ((-1) * v_iv (n_v vs 3) + 0) ≤ 0 := f4
  obtain ⟨f5, hf⟩ := fc_un (show (23 : Nat) < 100 from by decide) hf
  have f5 : (-1) * v_iv (n_v vs 8) + (1 * v_iv (n_v vs 3) + 0) ≤ 0 := f5
  obtain ⟨f6, hf⟩ := fc_un (show (23 : Nat) < 100 from by decide) hf
  have f6 : 1 * v_iv (n_v vs 6) + ((-1) * v_iv (n_v vs 3) + 0) ≤ 0 := f6
  obtain ⟨f7, hf⟩ := fc_un (show (23 : Nat) < 100 from by decide) hf
  have f7 : (-1) * v_iv (n_v vs 6) + (1 * v_iv (n_v vs 3) + 0) ≤ 0 := f7
  obtain ⟨f8, hf⟩ := fc_un (show (20 : Nat) < 100 from by decide) hf
  have f8 : (v_iv (n_v vs 1) + 1) ≤ w_ei ws (w_ar ws (n_v vs 0) 2) ((w_fi ws (n_v vs 0) 5 + 2)) := f8
  obtain ⟨f9, hf⟩ := fc_un (show (20 : Nat) < 100 from by decide) hf
  have f9 : 1 * v_iv (n_v vs 15) + ((-1) * v_iv (n_v vs 12) + 0) ≤ 0 := f9
  obtain ⟨f10, hf⟩ := fc_un (show (20 : Nat) < 100 from by decide) hf
  have f10 : (-1) * v_iv (n_v vs 15) + 0 ≤ 0 := f10
  obtain ⟨f11, hf⟩ := fc_un (show (20 : Nat) < 100 from by decide) hf
  have f11 : 1 * w_fi ws (n_v vs 0) 15 + ((-1) * w_fi ws (n_v vs 0) 11 + 0) ≤ 0 := f11
  obtain ⟨f12, hf⟩ := fc_un (show (20 : Nat) < 100 from by decide) hf
  have f12 : ((w_fi ws (n_v vs 0) 12 = 1) → (w_fi ws (n_v vs 0) 11 ≤ (w_fi ws (n_v vs 0) 15 + 8))) ∧ ((w_fi ws (n_v vs 0) 12 = 0) ∨ ((w_fi ws (n_v vs 0) 15 + 1) ≤ w_fi ws (n_v vs 0) 11)) := f12
  obtain ⟨f13, hf⟩ := fc_un (show (20 : Nat) < 100 from by decide) hf
  have f13 : 1 * v_iv (n_v vs 18) + ((-1) * w_fi ws (n_v vs 0) 11 + 0) ≤ 0 := f13
  obtain ⟨f14, hf⟩ := fc_un (show (20 : Nat) < 100 from by decide) hf
  have f14 : (1 ≤ w_fi ws (n_v vs 0) 8) ∨ ((v_iv (n_v vs 18) + 1) ≤ w_fi ws (n_v vs 0) 11) := f14
  obtain ⟨ta1, w1, le1, ⟨_, s1⟩, hf⟩ := fc_us (show ¬ (102 : Nat) < 100 from by decide) hf
  obtain ⟨f16, hf⟩ := fc_un (show (23 : Nat) < 100 from by decide) hf
  have f16 : 1 * v_iv (n_v vs 18) + ((-1) * v_iv (n_v vs 3) + 0) ≤ 0 := f16
  obtain ⟨f17, hf⟩ := fc_un (show (23 : Nat) < 100 from by decide) hf
  have f17 : (-1) * v_iv (n_v vs 18) + (1 * v_iv (n_v vs 3) + 0) ≤ 0 := f17
  obtain ⟨f18, hf⟩ := fc_un (show (23 : Nat) < 100 from by decide) hf
  have f18 : 1 * v_iv (n_v vs 13) + ((-1) * v_iv (n_v vs 3) + 0) ≤ 0 := f18
  obtain ⟨f19, hf⟩ := fc_un (show (23 : Nat) < 100 from by decide) hf
  have f19 : (-1) * v_iv (n_v vs 13) + (1 * v_iv (n_v vs 3) + 0) ≤ 0 := f19
  obtain ⟨f20, hf⟩ := fc_un (show (23 : Nat) < 100 from by decide) hf
  have f20 : 1 * v_iv (n_v vs 8) + ((-1) * v_iv (n_v vs 3) + 0) ≤ 0 := f20
  obtain ⟨f21, hf⟩ := fc_un (show (23 : Nat) < 100 from by decide) hf
  have f21 : (-1) * v_iv (n_v vs 8) + (1 * v_iv (n_v vs 3) + 0) ≤ 0 := f21
  obtain ⟨f22, hf⟩ := fc_un (show (23 : Nat) < 100 from by decide) hf
  have f22 : 1 * v_iv (n_v vs 6) + ((-1) * v_iv (n_v vs 3) + 0) ≤ 0 := f22
  obtain ⟨f23, hf⟩ := fc_un (show (23 : Nat) < 100 from by decide) hf
  have f23 : (-1) * v_iv (n_v vs 6) + (1 * v_iv (n_v vs 3) + 0) ≤ 0 := f23
  obtain ⟨ta2, w2, le2, ⟨_, s2⟩, hf⟩ := fc_us (show ¬ (102 : Nat) < 100 from by decide) hf
  obtain ⟨f25, hf⟩ := fc_un (show (23 : Nat) < 100 from by decide) hf
  have f25 : 1 * v_iv (n_v vs 13) + ((-1) * v_iv (n_v vs 3) + 0) ≤ 0 := f25
  obtain ⟨f26, hf⟩ := fc_un (show (23 : Nat) < 100 from by decide) hf
  have f26 : (-1) * v_iv (n_v vs 13) + (1 * v_iv (n_v vs 3) + 0) ≤ 0 := f26
  obtain ⟨f27, hf⟩ := fc_un (show (23 : Nat) < 100 from by decide) hf
  have f27 : 1 * v_iv (n_v vs 8) + ((-1) * v_iv (n_v vs 3) + 0) ≤ 0 := f27
  obtain ⟨f28, hf⟩ := fc_un (show (23 : Nat) < 100 from by decide) hf
  have f28 : (-1) * v_iv (n_v vs 8) + (1 * v_iv (n_v vs 3) + 0) ≤ 0 := f28
  obtain ⟨f29, hf⟩ := fc_un (show (23 : Nat) < 100 from by decide) hf
  have f29 : 1 * v_iv (n_v vs 6) + ((-1) * v_iv (n_v vs 3) + 0) ≤ 0 := f29
  obtain ⟨f30, hf⟩ := fc_un (show (23 : Nat) < 100 from by decide) hf
  have f30 : (-1) * v_iv (n_v vs 6) + (1 * v_iv (n_v vs 3) + 0) ≤ 0 := f30
  obtain ⟨ta3, w3, le3, ⟨_, s3⟩, hf⟩ := fc_us (show ¬ (102 : Nat) < 100 from by decide) hf
  obtain ⟨f32, hf⟩ := fc_un (show (23 : Nat) < 100 from by decide) hf
  have f32 : 1 * v_iv (n_v vs 8) + ((-1) * v_iv (n_v vs 3) + 0) ≤ 0 := f32
  obtain ⟨f33, hf⟩ := fc_un (show (23 : Nat) < 100 from by decide) hf
  have f33 : (-1) * v_iv (n_v vs 8) + (1 * v_iv (n_v vs 3) + 0) ≤ 0 := f33
  obtain ⟨f34, hf⟩ := fc_un (show (23 : Nat) < 100 from by decide) hf
  have f34 : 1 * v_iv (n_v vs 6) + ((-1) * v_iv (n_v vs 3) + 0) ≤ 0 := f34
  obtain ⟨f35, hf⟩ := fc_un (show (23 : Nat) < 100 from by decide) hf
  have f35 : (-1) * v_iv (n_v vs 6) + (1 * v_iv (n_v vs 3) + 0) ≤ 0 := f35
  obtain ⟨ta4, w4, le4, ⟨_, s4⟩, hf⟩ := fc_us (show ¬ (102 : Nat) < 100 from by decide) hf
  obtain ⟨f37, hf⟩ := fc_un (show (23 : Nat) < 100 from by decide) hf
  have f37 : 1 * v_iv (n_v vs 6) + ((-1) * v_iv (n_v vs 3) + 0) ≤ 0 := f37
  obtain ⟨f38, hf⟩ := fc_un (show (23 : Nat) < 100 from by decide) hf
  have f38 : (-1) * v_iv (n_v vs 6) + (1 * v_iv (n_v vs 3) + 0) ≤ 0 := f38
  have cr_0_2 : ta (w_ar ws (n_v vs 0) 2) = some 152 := tv_rg (th_fd hD hth r0 (g := GG_150) rfl (k := 2) (t := (2, 0, 0, [152])) rfl rfl)
  have kz_0_8 : 0 ≤ w_fi ws (n_v vs 0) 8 ∧ w_fi ws (n_v vs 0) 8 ≤ 5 := tv_rng (th_fd hD hth r0 (g := GG_150) rfl (k := 8) (t := (0, 0, 5, [])) rfl rfl)
  have kz_0_11 : 0 ≤ w_fi ws (n_v vs 0) 11 ∧ w_fi ws (n_v vs 0) 11 ≤ 2000 := tv_rng (th_fd hD hth r0 (g := GG_150) rfl (k := 11) (t := (0, 0, 2000, [])) rfl rfl)
  have kz_0_12 : 0 ≤ w_fi ws (n_v vs 0) 12 ∧ w_fi ws (n_v vs 0) 12 ≤ 4 := tv_rng (th_fd hD hth r0 (g := GG_150) rfl (k := 12) (t := (0, 0, 4, [])) rfl rfl)
  have kz_0_15 : 0 ≤ w_fi ws (n_v vs 0) 15 ∧ w_fi ws (n_v vs 0) 15 ≤ 2000 := tv_rng (th_fd hD hth r0 (g := GG_150) rfl (k := 15) (t := (0, 0, 2000, [])) rfl rfl)
  have nf0 : fc_1 (20, [3, 0], [30, 0, 1, 0, 0, -1, 1, 11]) ws (vs) := by
    refine ⟨fun n hn => ?_, ?_⟩
    · have hn : n ∈ [3, 0] := hn
      rw [hl]
      simp only [List.mem_cons, List.not_mem_nil, or_false] at hn
      show n < 19; omega
    · show 1 * v_iv (n_v vs 3) + ((-1) * w_fi ws (n_v vs 0) 11 + 0) ≤ 0
      omega
  have nf1 : fc_1 (20, [0, 3], [50, 2, 0, 8, 11, 3, 7, 0, 2, 0, 1, 2, 0, 8, 0, 6, 4, 2, 1, 1, 0, 1, 2, 0, 11]) ws (vs) := by
    refine ⟨fun n hn => ?_, ?_⟩
    · have hn : n ∈ [0, 3] := hn
      rw [hl]
      simp only [List.mem_cons, List.not_mem_nil, or_false] at hn
      show n < 19; omega
    · show (1 ≤ w_fi ws (n_v vs 0) 8) ∨ ((v_iv (n_v vs 3) + 1) ≤ w_fi ws (n_v vs 0) 11)
      first | omega | grind
  refine ⟨(fun _ h => (by cases h)), [], trivial, ?_, (fun _ h => (by cases h))⟩
  rw [List.append_nil]
  exact List.forall_mem_cons.mpr ⟨⟨show (20 : Nat) < 100 from by decide, nf0⟩, List.forall_mem_cons.mpr ⟨⟨show (20 : Nat) < 100 from by decide, nf1⟩, (fun _ h => (by cases h))⟩⟩
def o_Mo_item_at_k1_8 : or_T := (64, 18, [(0, (2, 0, 0, [150])), (1, (0, 0, 7, [])), (3, (0, 0, 2000, [])), (6, (0, 0, 2000, [])), (8, (0, 0, 2000, [])), (10, (0, -1, 23, [])), (12, (0, 99, 99, [])), (13, (0, 0, 2000, [])), (14, (0, -1, 48, [])), (15, (0, -2147483648, 0, [])), (16, (0, 0, 0, []))], [(8, [15], [5]), (8, [16], [0]), (9, [16, 0], [8]), (23, [13, 3], [0, 1, -1]), (23, [13, 3], [0, -1, 1]), (23, [14, 10], [0, 1, -1]), (23, [14, 10], [0, -1, 1]), (23, [8, 3], [0, 1, -1]), (23, [8, 3], [0, -1, 1]), (23, [6, 3], [0, 1, -1]), (23, [6, 3], [0, -1, 1]), (20, [1, 0], [50, 1, 1, 1005, 1002, 0, 6, 4, 2, 1, 0, 0, 1, 3, 1, 2, 4, 3, 2, 1, 5, 0, 2]), (20, [0, 0], [30, 0, 1, 1, 15, -1, 1, 11]), (20, [0], [50, 3, 0, 12, 11, 15, 2, 21, 4, 7, 1, 3, 2, 0, 12, 0, 1, 0, 3, 2, 0, 11, 4, 3, 2, 0, 15, 0, 8, 3, 7, 1, 3, 2, 0, 12, 0, 0, 0, 7, 4, 3, 2, 0, 15, 0, 1, 2, 0, 11]), (20, [13, 0], [30, 0, 1, 0, 0, -1, 1, 11]), (20, [0, 13], [50, 3, 0, 8, 12, 11, 3, 7, 0, 2, 0, 1, 2, 0, 8, 3, 7, 1, 3, 2, 0, 12, 0, 0, 0, 6, 4, 2, 1, 1, 0, 1, 2, 0, 11]), (20, [0, 14], [50, 1, 0, 8, 3, 7, 0, 2, 0, 1, 2, 0, 8, 0, 2, 0, 0, 1, 1]), (20, [15, 12], [30, 0, 1, 0, 0, -1, 0, 0]), (20, [15], [30, 0, -1, 0, 0]), (102, [14], [0, 13008, 13009, 13011, 13012, 13013, 13014, 13015]), (23, [13, 3], [0, 1, -1]), (23, [13, 3], [0, -1, 1]), (23, [14, 10], [0, 1, -1]), (23, [14, 10], [0, -1, 1]), (23, [8, 3], [0, 1, -1]), (23, [8, 3], [0, -1, 1]), (23, [6, 3], [0, 1, -1]), (23, [6, 3], [0, -1, 1]), (102, [9], [5708990770823839524233143877797980545530986496, 13008, 13009, 13011, 13012, 13013, 13014, 13015]), (23, [8, 3], [0, 1, -1]), (23, [8, 3], [0, -1, 1]), (23, [6, 3], [0, 1, -1]), (23, [6, 3], [0, -1, 1]), (102, [6], [0, 13011, 13012, 13013, 13014, 13015]), (23, [6, 3], [0, 1, -1]), (23, [6, 3], [0, -1, 1])], [], [(0, 0, 2000, [])], [(23, [18, 3], [0, 1, -1]), (23, [18, 3], [0, -1, 1]), (20, [0, 0], [30, 0, 1, 1, 15, -1, 1, 11]), (20, [0], [50, 3, 0, 12, 11, 15, 2, 21, 4, 7, 1, 3, 2, 0, 12, 0, 1, 0, 3, 2, 0, 11, 4, 3, 2, 0, 15, 0, 8, 3, 7, 1, 3, 2, 0, 12, 0, 0, 0, 7, 4, 3, 2, 0, 15, 0, 1, 2, 0, 11]), (20, [18, 0], [30, 0, 1, 0, 0, -1, 1, 11]), (20, [0, 18], [50, 3, 0, 8, 12, 11, 3, 7, 0, 2, 0, 1, 2, 0, 8, 3, 7, 1, 3, 2, 0, 12, 0, 0, 0, 6, 4, 2, 1, 1, 0, 1, 2, 0, 11])], [], [])
theorem oo_Mo_item_at_k1_8 {kA : Nat → ClassId} : or_ok kA GG o_Mo_item_at_k1_8 := by
  intro A ta ws vs hD hth hl hk hds hf
  have hl : vs.length = 18 := hl
  have hk : ∀ q ∈ ([(0, (2, 0, 0, [150])), (1, (0, 0, 7, [])), (3, (0, 0, 2000, [])), (6, (0, 0, 2000, [])), (8, (0, 0, 2000, [])), (10, (0, -1, 23, [])), (12, (0, 99, 99, [])), (13, (0, 0, 2000, [])), (14, (0, -1, 48, [])), (15, (0, -2147483648, 0, [])), (16, (0, 0, 0, []))] : List (Nat × tv_T)), tv_ok ta q.2 (n_v vs q.1) := hk
  obtain ⟨t0, hk⟩ := List.forall_mem_cons.mp hk
  have t0 : tv_ok ta (2, 0, 0, [150]) (n_v vs 0) := t0
  have r0 : ta (v_ad (n_v vs 0)) = some 150 := tv_rg t0
  obtain ⟨t1, hk⟩ := List.forall_mem_cons.mp hk
  have t1 : tv_ok ta (0, 0, 7, []) (n_v vs 1) := t1
  have k1 : 0 ≤ v_iv (n_v vs 1) ∧ v_iv (n_v vs 1) ≤ 7 := tv_rng t1
  obtain ⟨t3, hk⟩ := List.forall_mem_cons.mp hk
  have t3 : tv_ok ta (0, 0, 2000, []) (n_v vs 3) := t3
  have k3 : 0 ≤ v_iv (n_v vs 3) ∧ v_iv (n_v vs 3) ≤ 2000 := tv_rng t3
  obtain ⟨t6, hk⟩ := List.forall_mem_cons.mp hk
  have t6 : tv_ok ta (0, 0, 2000, []) (n_v vs 6) := t6
  have k6 : 0 ≤ v_iv (n_v vs 6) ∧ v_iv (n_v vs 6) ≤ 2000 := tv_rng t6
  obtain ⟨t8, hk⟩ := List.forall_mem_cons.mp hk
  have t8 : tv_ok ta (0, 0, 2000, []) (n_v vs 8) := t8
  have k8 : 0 ≤ v_iv (n_v vs 8) ∧ v_iv (n_v vs 8) ≤ 2000 := tv_rng t8
  obtain ⟨t10, hk⟩ := List.forall_mem_cons.mp hk
  have t10 : tv_ok ta (0, -1, 23, []) (n_v vs 10) := t10
  have k10 : (-1) ≤ v_iv (n_v vs 10) ∧ v_iv (n_v vs 10) ≤ 23 := tv_rng t10
  obtain ⟨t12, hk⟩ := List.forall_mem_cons.mp hk
  have t12 : tv_ok ta (0, 99, 99, []) (n_v vs 12) := t12
  have k12 : 99 ≤ v_iv (n_v vs 12) ∧ v_iv (n_v vs 12) ≤ 99 := tv_rng t12
  obtain ⟨t13, hk⟩ := List.forall_mem_cons.mp hk
  have t13 : tv_ok ta (0, 0, 2000, []) (n_v vs 13) := t13
  have k13 : 0 ≤ v_iv (n_v vs 13) ∧ v_iv (n_v vs 13) ≤ 2000 := tv_rng t13
  obtain ⟨t14, hk⟩ := List.forall_mem_cons.mp hk
  have t14 : tv_ok ta (0, -1, 48, []) (n_v vs 14) := t14
  have k14 : (-1) ≤ v_iv (n_v vs 14) ∧ v_iv (n_v vs 14) ≤ 48 := tv_rng t14
  obtain ⟨t15, hk⟩ := List.forall_mem_cons.mp hk
  have t15 : tv_ok ta (0, -2147483648, 0, []) (n_v vs 15) := t15
  have k15 : (-2147483648) ≤ v_iv (n_v vs 15) ∧ v_iv (n_v vs 15) ≤ 0 := tv_rng t15
  obtain ⟨t16, hk⟩ := List.forall_mem_cons.mp hk
  have t16 : tv_ok ta (0, 0, 0, []) (n_v vs 16) := t16
  have k16 : 0 ≤ v_iv (n_v vs 16) ∧ v_iv (n_v vs 16) ≤ 0 := tv_rng t16
  have hf : fc_ok [(8, [15], [5]), (8, [16], [0]), (9, [16, 0], [8]), (23, [13, 3], [0, 1, -1]), (23, [13, 3], [0, -1, 1]), (23, [14, 10], [0, 1, -1]), (23, [14, 10], [0, -1, 1]), (23, [8, 3], [0, 1, -1]), (23, [8, 3], [0, -1, 1]), (23, [6, 3], [0, 1, -1]), (23, [6, 3], [0, -1, 1]), (20, [1, 0], [50, 1, 1, 1005, 1002, 0, 6, 4, 2, 1, 0, 0, 1, 3, 1, 2, 4, 3, 2, 1, 5, 0, 2]), (20, [0, 0], [30, 0, 1, 1, 15, -1, 1, 11]), (20, [0], [50, 3, 0, 12, 11, 15, 2, 21, 4, 7, 1, 3, 2, 0, 12, 0, 1, 0, 3, 2, 0, 11, 4, 3, 2, 0, 15, 0, 8, 3, 7, 1, 3, 2, 0, 12, 0, 0, 0, 7, 4, 3, 2, 0, 15, 0, 1, 2, 0, 11]), (20, [13, 0], [30, 0, 1, 0, 0, -1, 1, 11]), (20, [0, 13], [50, 3, 0, 8, 12, 11, 3, 7, 0, 2, 0, 1, 2, 0, 8, 3, 7, 1, 3, 2, 0, 12, 0, 0, 0, 6, 4, 2, 1, 1, 0, 1, 2, 0, 11]), (20, [0, 14], [50, 1, 0, 8, 3, 7, 0, 2, 0, 1, 2, 0, 8, 0, 2, 0, 0, 1, 1]), (20, [15, 12], [30, 0, 1, 0, 0, -1, 0, 0]), (20, [15], [30, 0, -1, 0, 0]), (102, [14], [0, 13008, 13009, 13011, 13012, 13013, 13014, 13015]), (23, [13, 3], [0, 1, -1]), (23, [13, 3], [0, -1, 1]), (23, [14, 10], [0, 1, -1]), (23, [14, 10], [0, -1, 1]), (23, [8, 3], [0, 1, -1]), (23, [8, 3], [0, -1, 1]), (23, [6, 3], [0, 1, -1]), (23, [6, 3], [0, -1, 1]), (102, [9], [5708990770823839524233143877797980545530986496, 13008, 13009, 13011, 13012, 13013, 13014, 13015]), (23, [8, 3], [0, 1, -1]), (23, [8, 3], [0, -1, 1]), (23, [6, 3], [0, 1, -1]), (23, [6, 3], [0, -1, 1]), (102, [6], [0, 13011, 13012, 13013, 13014, 13015]), (23, [6, 3], [0, 1, -1]), (23, [6, 3], [0, -1, 1])] ta ws vs := hf
  obtain ⟨f0, hf⟩ := fc_un (show (8 : Nat) < 100 from by decide) hf
  have f0 : v_iv (n_v vs 15) ≤ 0 := f0
  obtain ⟨f1, hf⟩ := fc_un (show (8 : Nat) < 100 from by decide) hf
  have f1 : v_iv (n_v vs 16) = 0 := f1
  obtain ⟨f2, hf⟩ := fc_un (show (9 : Nat) < 100 from by decide) hf
  have f2 : n_v vs 16 = w_fd ws (v_ad (n_v vs 0)) 8 := f2
  obtain ⟨f3, hf⟩ := fc_un (show (23 : Nat) < 100 from by decide) hf
  have f3 : 1 * v_iv (n_v vs 13) + ((-1) * v_iv (n_v vs 3) + 0) ≤ 0 := f3
  obtain ⟨f4, hf⟩ := fc_un (show (23 : Nat) < 100 from by decide) hf
  have f4 : (-1) * v_iv (n_v vs 13) + (1 * v_iv (n_v vs 3) + 0) ≤ 0 := f4
  obtain ⟨f5, hf⟩ := fc_un (show (23 : Nat) < 100 from by decide) hf
  have f5 : 1 * v_iv (n_v vs 14) + ((-1) * v_iv (n_v vs 10) + 0) ≤ 0 := f5
  obtain ⟨f6, hf⟩ := fc_un (show (23 : Nat) < 100 from by decide) hf
  have f6 : (-1) * v_iv (n_v vs 14) + (1 * v_iv (n_v vs 10) + 0) ≤ 0 := f6
  obtain ⟨f7, hf⟩ := fc_un (show (23 : Nat) < 100 from by decide) hf
  have f7 : 1 * v_iv (n_v vs 8) + ((-1) * v_iv (n_v vs 3) + 0) ≤ 0 := f7
  obtain ⟨f8, hf⟩ := fc_un (show (23 : Nat) < 100 from by decide) hf
  have f8 : (-1) * v_iv (n_v vs 8) + (1 * v_iv (n_v vs 3) + 0) ≤ 0 := f8
  obtain ⟨f9, hf⟩ := fc_un (show (23 : Nat) < 100 from by decide) hf
  have f9 : 1 * v_iv (n_v vs 6) + ((-1) * v_iv (n_v vs 3) + 0) ≤ 0 := f9
  obtain ⟨f10, hf⟩ := fc_un (show (23 : Nat) < 100 from by decide) hf
  have f10 : (-1) * v_iv (n_v vs 6) + (1 * v_iv (n_v vs 3) + 0) ≤ 0 := f10
  obtain ⟨f11, hf⟩ := fc_un (show (20 : Nat) < 100 from by decide) hf
  have f11 : (v_iv (n_v vs 1) + 1) ≤ w_ei ws (w_ar ws (n_v vs 0) 2) ((w_fi ws (n_v vs 0) 5 + 2)) := f11
  obtain ⟨f12, hf⟩ := fc_un (show (20 : Nat) < 100 from by decide) hf
  have f12 : 1 * w_fi ws (n_v vs 0) 15 + ((-1) * w_fi ws (n_v vs 0) 11 + 0) ≤ 0 := f12
  obtain ⟨f13, hf⟩ := fc_un (show (20 : Nat) < 100 from by decide) hf
  have f13 : ((w_fi ws (n_v vs 0) 12 = 1) → (w_fi ws (n_v vs 0) 11 ≤ (w_fi ws (n_v vs 0) 15 + 8))) ∧ ((w_fi ws (n_v vs 0) 12 = 0) ∨ ((w_fi ws (n_v vs 0) 15 + 1) ≤ w_fi ws (n_v vs 0) 11)) := f13
  obtain ⟨f14, hf⟩ := fc_un (show (20 : Nat) < 100 from by decide) hf
  have f14 : 1 * v_iv (n_v vs 13) + ((-1) * w_fi ws (n_v vs 0) 11 + 0) ≤ 0 := f14
  obtain ⟨f15, hf⟩ := fc_un (show (20 : Nat) < 100 from by decide) hf
  have f15 : (1 ≤ w_fi ws (n_v vs 0) 8) ∨ ((w_fi ws (n_v vs 0) 12 = 0) ∨ ((v_iv (n_v vs 13) + 1) ≤ w_fi ws (n_v vs 0) 11)) := f15
  obtain ⟨f16, hf⟩ := fc_un (show (20 : Nat) < 100 from by decide) hf
  have f16 : (1 ≤ w_fi ws (n_v vs 0) 8) ∨ (0 ≤ v_iv (n_v vs 14)) := f16
  obtain ⟨f17, hf⟩ := fc_un (show (20 : Nat) < 100 from by decide) hf
  have f17 : 1 * v_iv (n_v vs 15) + ((-1) * v_iv (n_v vs 12) + 0) ≤ 0 := f17
  obtain ⟨f18, hf⟩ := fc_un (show (20 : Nat) < 100 from by decide) hf
  have f18 : (-1) * v_iv (n_v vs 15) + 0 ≤ 0 := f18
  obtain ⟨ta1, w1, le1, ⟨_, s1⟩, hf⟩ := fc_us (show ¬ (102 : Nat) < 100 from by decide) hf
  obtain ⟨f20, hf⟩ := fc_un (show (23 : Nat) < 100 from by decide) hf
  have f20 : 1 * v_iv (n_v vs 13) + ((-1) * v_iv (n_v vs 3) + 0) ≤ 0 := f20
  obtain ⟨f21, hf⟩ := fc_un (show (23 : Nat) < 100 from by decide) hf
  have f21 : (-1) * v_iv (n_v vs 13) + (1 * v_iv (n_v vs 3) + 0) ≤ 0 := f21
  obtain ⟨f22, hf⟩ := fc_un (show (23 : Nat) < 100 from by decide) hf
  have f22 : 1 * v_iv (n_v vs 14) + ((-1) * v_iv (n_v vs 10) + 0) ≤ 0 := f22
  obtain ⟨f23, hf⟩ := fc_un (show (23 : Nat) < 100 from by decide) hf
  have f23 : (-1) * v_iv (n_v vs 14) + (1 * v_iv (n_v vs 10) + 0) ≤ 0 := f23
  obtain ⟨f24, hf⟩ := fc_un (show (23 : Nat) < 100 from by decide) hf
  have f24 : 1 * v_iv (n_v vs 8) + ((-1) * v_iv (n_v vs 3) + 0) ≤ 0 := f24
  obtain ⟨f25, hf⟩ := fc_un (show (23 : Nat) < 100 from by decide) hf
  have f25 : (-1) * v_iv (n_v vs 8) + (1 * v_iv (n_v vs 3) + 0) ≤ 0 := f25
  obtain ⟨f26, hf⟩ := fc_un (show (23 : Nat) < 100 from by decide) hf
  have f26 : 1 * v_iv (n_v vs 6) + ((-1) * v_iv (n_v vs 3) + 0) ≤ 0 := f26
  obtain ⟨f27, hf⟩ := fc_un (show (23 : Nat) < 100 from by decide) hf
  have f27 : (-1) * v_iv (n_v vs 6) + (1 * v_iv (n_v vs 3) + 0) ≤ 0 := f27
  obtain ⟨ta2, w2, le2, ⟨_, s2⟩, hf⟩ := fc_us (show ¬ (102 : Nat) < 100 from by decide) hf
  obtain ⟨f29, hf⟩ := fc_un (show (23 : Nat) < 100 from by decide) hf
  have f29 : 1 * v_iv (n_v vs 8) + ((-1) * v_iv (n_v vs 3) + 0) ≤ 0 := f29
  obtain ⟨f30, hf⟩ := fc_un (show (23 : Nat) < 100 from by decide) hf
  have f30 : (-1) * v_iv (n_v vs 8) + (1 * v_iv (n_v vs 3) + 0) ≤ 0 := f30
  obtain ⟨f31, hf⟩ := fc_un (show (23 : Nat) < 100 from by decide) hf
  have f31 : 1 * v_iv (n_v vs 6) + ((-1) * v_iv (n_v vs 3) + 0) ≤ 0 := f31
  obtain ⟨f32, hf⟩ := fc_un (show (23 : Nat) < 100 from by decide) hf
  have f32 : (-1) * v_iv (n_v vs 6) + (1 * v_iv (n_v vs 3) + 0) ≤ 0 := f32
  obtain ⟨ta3, w3, le3, ⟨_, s3⟩, hf⟩ := fc_us (show ¬ (102 : Nat) < 100 from by decide) hf
  obtain ⟨f34, hf⟩ := fc_un (show (23 : Nat) < 100 from by decide) hf
  have f34 : 1 * v_iv (n_v vs 6) + ((-1) * v_iv (n_v vs 3) + 0) ≤ 0 := f34
  obtain ⟨f35, hf⟩ := fc_un (show (23 : Nat) < 100 from by decide) hf
  have f35 : (-1) * v_iv (n_v vs 6) + (1 * v_iv (n_v vs 3) + 0) ≤ 0 := f35
  have cr_0_2 : ta (w_ar ws (n_v vs 0) 2) = some 152 := tv_rg (th_fd hD hth r0 (g := GG_150) rfl (k := 2) (t := (2, 0, 0, [152])) rfl rfl)
  have g2 : v_iv (n_v vs 16) = w_fi ws (n_v vs 0) 8 := congrArg v_iv f2
  have kz_0_8 : 0 ≤ w_fi ws (n_v vs 0) 8 ∧ w_fi ws (n_v vs 0) 8 ≤ 5 := tv_rng (th_fd hD hth r0 (g := GG_150) rfl (k := 8) (t := (0, 0, 5, [])) rfl rfl)
  have kz_0_11 : 0 ≤ w_fi ws (n_v vs 0) 11 ∧ w_fi ws (n_v vs 0) 11 ≤ 2000 := tv_rng (th_fd hD hth r0 (g := GG_150) rfl (k := 11) (t := (0, 0, 2000, [])) rfl rfl)
  have kz_0_12 : 0 ≤ w_fi ws (n_v vs 0) 12 ∧ w_fi ws (n_v vs 0) 12 ≤ 4 := tv_rng (th_fd hD hth r0 (g := GG_150) rfl (k := 12) (t := (0, 0, 4, [])) rfl rfl)
  have kz_0_15 : 0 ≤ w_fi ws (n_v vs 0) 15 ∧ w_fi ws (n_v vs 0) 15 ≤ 2000 := tv_rng (th_fd hD hth r0 (g := GG_150) rfl (k := 15) (t := (0, 0, 2000, [])) rfl rfl)
  obtain ⟨x, ex, hx⟩ := iv_ex (ta := ta) (lo := 0) (hi := 2000) (z := v_iv (n_v vs 3)) (by omega) (by omega) (by omega) (by omega)
  have ex2 : v_iv (Value.int x) = v_iv (n_v vs 3) := ex
  have ex3 : 0 ≤ v_iv (Value.int x) ∧ v_iv (Value.int x) ≤ 2000 := tv_rng hx
  have e_0 : n_v (vs ++ [Value.int x]) 0 = n_v vs 0 := n_v_old (by rw [hl]; decide)
  have e_3 : n_v (vs ++ [Value.int x]) 3 = n_v vs 3 := n_v_old (by rw [hl]; decide)
  have e_18 : n_v (vs ++ [Value.int x]) 18 = Value.int x := n_v_new hl
  have nf0 : fc_1 (23, [18, 3], [0, 1, -1]) ws (vs ++ [Value.int x]) := by
    refine ⟨fun n hn => ?_, ?_⟩
    · have hn : n ∈ [18, 3] := hn
      rw [List.length_append, hl]
      simp only [List.mem_cons, List.not_mem_nil, or_false] at hn
      show n < 18 + 1; omega
    · show 1 * v_iv (n_v (vs ++ [Value.int x]) 18) + ((-1) * v_iv (n_v (vs ++ [Value.int x]) 3) + 0) ≤ 0
      rw [e_3]
      rw [e_18]
      omega
  have nf1 : fc_1 (23, [18, 3], [0, -1, 1]) ws (vs ++ [Value.int x]) := by
    refine ⟨fun n hn => ?_, ?_⟩
    · have hn : n ∈ [18, 3] := hn
      rw [List.length_append, hl]
      simp only [List.mem_cons, List.not_mem_nil, or_false] at hn
      show n < 18 + 1; omega
    · show (-1) * v_iv (n_v (vs ++ [Value.int x]) 18) + (1 * v_iv (n_v (vs ++ [Value.int x]) 3) + 0) ≤ 0
      rw [e_3]
      rw [e_18]
      omega
  have nf2 : fc_1 (20, [0, 0], [30, 0, 1, 1, 15, -1, 1, 11]) ws (vs ++ [Value.int x]) := by
    refine ⟨fun n hn => ?_, ?_⟩
    · have hn : n ∈ [0, 0] := hn
      rw [List.length_append, hl]
      simp only [List.mem_cons, List.not_mem_nil, or_false] at hn
      show n < 18 + 1; omega
    · show 1 * w_fi ws (n_v (vs ++ [Value.int x]) 0) 15 + ((-1) * w_fi ws (n_v (vs ++ [Value.int x]) 0) 11 + 0) ≤ 0
      rw [e_0]
      omega
  have nf3 : fc_1 (20, [0], [50, 3, 0, 12, 11, 15, 2, 21, 4, 7, 1, 3, 2, 0, 12, 0, 1, 0, 3, 2, 0, 11, 4, 3, 2, 0, 15, 0, 8, 3, 7, 1, 3, 2, 0, 12, 0, 0, 0, 7, 4, 3, 2, 0, 15, 0, 1, 2, 0, 11]) ws (vs ++ [Value.int x]) := by
    refine ⟨fun n hn => ?_, ?_⟩
    · have hn : n ∈ [0] := hn
      rw [List.length_append, hl]
      simp only [List.mem_cons, List.not_mem_nil, or_false] at hn
      show n < 18 + 1; omega
    · show ((w_fi ws (n_v (vs ++ [Value.int x]) 0) 12 = 1) → (w_fi ws (n_v (vs ++ [Value.int x]) 0) 11 ≤ (w_fi ws (n_v (vs ++ [Value.int x]) 0) 15 + 8))) ∧ ((w_fi ws (n_v (vs ++ [Value.int x]) 0) 12 = 0) ∨ ((w_fi ws (n_v (vs ++ [Value.int x]) 0) 15 + 1) ≤ w_fi ws (n_v (vs ++ [Value.int x]) 0) 11))
      rw [e_0]
      first | omega | grind
  have nf4 : fc_1 (20, [18, 0], [30, 0, 1, 0, 0, -1, 1, 11]) ws (vs ++ [Value.int x]) := by
    refine ⟨fun n hn => ?_, ?_⟩
    · have hn : n ∈ [18, 0] := hn
      rw [List.length_append, hl]
      simp only [List.mem_cons, List.not_mem_nil, or_false] at hn
      show n < 18 + 1; omega
    · show 1 * v_iv (n_v (vs ++ [Value.int x]) 18) + ((-1) * w_fi ws (n_v (vs ++ [Value.int x]) 0) 11 + 0) ≤ 0
      rw [e_0]
      rw [e_18]
      omega
  have nf5 : fc_1 (20, [0, 18], [50, 3, 0, 8, 12, 11, 3, 7, 0, 2, 0, 1, 2, 0, 8, 3, 7, 1, 3, 2, 0, 12, 0, 0, 0, 6, 4, 2, 1, 1, 0, 1, 2, 0, 11]) ws (vs ++ [Value.int x]) := by
    refine ⟨fun n hn => ?_, ?_⟩
    · have hn : n ∈ [0, 18] := hn
      rw [List.length_append, hl]
      simp only [List.mem_cons, List.not_mem_nil, or_false] at hn
      show n < 18 + 1; omega
    · show (1 ≤ w_fi ws (n_v (vs ++ [Value.int x]) 0) 8) ∨ ((w_fi ws (n_v (vs ++ [Value.int x]) 0) 12 = 0) ∨ ((v_iv (n_v (vs ++ [Value.int x]) 18) + 1) ≤ w_fi ws (n_v (vs ++ [Value.int x]) 0) 11))
      rw [e_0]
      rw [e_18]
      first | omega | grind
  exact ⟨(fun _ h => (by cases h)), [Value.int x], ag_one hx, List.forall_mem_cons.mpr ⟨⟨show (23 : Nat) < 100 from by decide, nf0⟩, List.forall_mem_cons.mpr ⟨⟨show (23 : Nat) < 100 from by decide, nf1⟩, List.forall_mem_cons.mpr ⟨⟨show (20 : Nat) < 100 from by decide, nf2⟩, List.forall_mem_cons.mpr ⟨⟨show (20 : Nat) < 100 from by decide, nf3⟩, List.forall_mem_cons.mpr ⟨⟨show (20 : Nat) < 100 from by decide, nf4⟩, List.forall_mem_cons.mpr ⟨⟨show (20 : Nat) < 100 from by decide, nf5⟩, (fun _ h => (by cases h))⟩⟩⟩⟩⟩⟩, (fun _ h => (by cases h))⟩
def o_Mo_item_at_k1_9 : or_T := (94, 19, [(0, (2, 0, 0, [150])), (1, (0, 0, 7, [])), (3, (0, 0, 2000, [])), (6, (0, 0, 2000, [])), (8, (0, 0, 2000, [])), (12, (0, 99, 99, [])), (13, (0, 0, 2000, [])), (15, (0, -2147483648, 0, [])), (18, (0, 0, 2000, []))], [(23, [18, 3], [0, 1, -1]), (23, [18, 3], [0, -1, 1]), (23, [13, 3], [0, 1, -1]), (23, [13, 3], [0, -1, 1]), (23, [8, 3], [0, 1, -1]), (23, [8, 3], [0, -1, 1]), (23, [6, 3], [0, 1, -1]), (23, [6, 3], [0, -1, 1]), (20, [1, 0], [50, 1, 1, 1005, 1002, 0, 6, 4, 2, 1, 0, 0, 1, 3, 1, 2, 4, 3, 2, 1, 5, 0, 2]), (20, [15, 12], [30, 0, 1, 0, 0, -1, 0, 0]), (20, [15], [30, 0, -1, 0, 0]), (20, [0, 0], [30, 0, 1, 1, 15, -1, 1, 11]), (20, [0], [50, 3, 0, 12, 11, 15, 2, 21, 4, 7, 1, 3, 2, 0, 12, 0, 1, 0, 3, 2, 0, 11, 4, 3, 2, 0, 15, 0, 8, 3, 7, 1, 3, 2, 0, 12, 0, 0, 0, 7, 4, 3, 2, 0, 15, 0, 1, 2, 0, 11]), (20, [18, 0], [30, 0, 1, 0, 0, -1, 1, 11]), (20, [0, 18], [50, 2, 0, 8, 11, 3, 7, 0, 2, 0, 1, 2, 0, 8, 0, 6, 4, 2, 1, 1, 0, 1, 2, 0, 11]), (102, [18], [0, 13008, 13009, 13011, 13012, 13013, 13014, 13015]), (23, [18, 3], [0, 1, -1]), (23, [18, 3], [0, -1, 1]), (8, [15], [5]), (23, [13, 3], [0, 1, -1]), (23, [13, 3], [0, -1, 1]), (23, [8, 3], [0, 1, -1]), (23, [8, 3], [0, -1, 1]), (23, [6, 3], [0, 1, -1]), (23, [6, 3], [0, -1, 1]), (102, [14], [0, 13008, 13009, 13011, 13012, 13013, 13014, 13015]), (23, [13, 3], [0, 1, -1]), (23, [13, 3], [0, -1, 1]), (23, [8, 3], [0, 1, -1]), (23, [8, 3], [0, -1, 1]), (23, [6, 3], [0, 1, -1]), (23, [6, 3], [0, -1, 1]), (102, [9], [5708990770823839524233143877797980545530986496, 13008, 13009, 13011, 13012, 13013, 13014, 13015]), (23, [8, 3], [0, 1, -1]), (23, [8, 3], [0, -1, 1]), (23, [6, 3], [0, 1, -1]), (23, [6, 3], [0, -1, 1]), (102, [6], [0, 13011, 13012, 13013, 13014, 13015]), (23, [6, 3], [0, 1, -1]), (23, [6, 3], [0, -1, 1])], [], [], [(20, [3, 0], [30, 0, 1, 0, 0, -1, 1, 11]), (20, [0, 3], [50, 2, 0, 8, 11, 3, 7, 0, 2, 0, 1, 2, 0, 8, 0, 6, 4, 2, 1, 1, 0, 1, 2, 0, 11])], [], [])
theorem oo_Mo_item_at_k1_9 {kA : Nat → ClassId} : or_ok kA GG o_Mo_item_at_k1_9 := by
  intro A ta ws vs hD hth hl hk hds hf
  have hl : vs.length = 19 := hl
  have hk : ∀ q ∈ ([(0, (2, 0, 0, [150])), (1, (0, 0, 7, [])), (3, (0, 0, 2000, [])), (6, (0, 0, 2000, [])), (8, (0, 0, 2000, [])), (12, (0, 99, 99, [])), (13, (0, 0, 2000, [])), (15, (0, -2147483648, 0, [])), (18, (0, 0, 2000, []))] : List (Nat × tv_T)), tv_ok ta q.2 (n_v vs q.1) := hk
  obtain ⟨t0, hk⟩ := List.forall_mem_cons.mp hk
  have t0 : tv_ok ta (2, 0, 0, [150]) (n_v vs 0) := t0
  have r0 : ta (v_ad (n_v vs 0)) = some 150 := tv_rg t0
  obtain ⟨t1, hk⟩ := List.forall_mem_cons.mp hk
  have t1 : tv_ok ta (0, 0, 7, []) (n_v vs 1) := t1
  have k1 : 0 ≤ v_iv (n_v vs 1) ∧ v_iv (n_v vs 1) ≤ 7 := tv_rng t1
  obtain ⟨t3, hk⟩ := List.forall_mem_cons.mp hk
  have t3 : tv_ok ta (0, 0, 2000, []) (n_v vs 3) := t3
  have k3 : 0 ≤ v_iv (n_v vs 3) ∧ v_iv (n_v vs 3) ≤ 2000 := tv_rng t3
  obtain ⟨t6, hk⟩ := List.forall_mem_cons.mp hk
  have t6 : tv_ok ta (0, 0, 2000, []) (n_v vs 6) := t6
  have k6 : 0 ≤ v_iv (n_v vs 6) ∧ v_iv (n_v vs 6) ≤ 2000 := tv_rng t6
  obtain ⟨t8, hk⟩ := List.forall_mem_cons.mp hk
  have t8 : tv_ok ta (0, 0, 2000, []) (n_v vs 8) := t8
  have k8 : 0 ≤ v_iv (n_v vs 8) ∧ v_iv (n_v vs 8) ≤ 2000 := tv_rng t8
  obtain ⟨t12, hk⟩ := List.forall_mem_cons.mp hk
  have t12 : tv_ok ta (0, 99, 99, []) (n_v vs 12) := t12
  have k12 : 99 ≤ v_iv (n_v vs 12) ∧ v_iv (n_v vs 12) ≤ 99 := tv_rng t12
  obtain ⟨t13, hk⟩ := List.forall_mem_cons.mp hk
  have t13 : tv_ok ta (0, 0, 2000, []) (n_v vs 13) := t13
  have k13 : 0 ≤ v_iv (n_v vs 13) ∧ v_iv (n_v vs 13) ≤ 2000 := tv_rng t13
  obtain ⟨t15, hk⟩ := List.forall_mem_cons.mp hk
  have t15 : tv_ok ta (0, -2147483648, 0, []) (n_v vs 15) := t15
  have k15 : (-2147483648) ≤ v_iv (n_v vs 15) ∧ v_iv (n_v vs 15) ≤ 0 := tv_rng t15
  obtain ⟨t18, hk⟩ := List.forall_mem_cons.mp hk
  have t18 : tv_ok ta (0, 0, 2000, []) (n_v vs 18) := t18
  have k18 : 0 ≤ v_iv (n_v vs 18) ∧ v_iv (n_v vs 18) ≤ 2000 := tv_rng t18
  have hf : fc_ok [(23, [18, 3], [0, 1, -1]), (23, [18, 3], [0, -1, 1]), (23, [13, 3], [0, 1, -1]), (23, [13, 3], [0, -1, 1]), (23, [8, 3], [0, 1, -1]), (23, [8, 3], [0, -1, 1]), (23, [6, 3], [0, 1, -1]), (23, [6, 3], [0, -1, 1]), (20, [1, 0], [50, 1, 1, 1005, 1002, 0, 6, 4, 2, 1, 0, 0, 1, 3, 1, 2, 4, 3, 2, 1, 5, 0, 2]), (20, [15, 12], [30, 0, 1, 0, 0, -1, 0, 0]), (20, [15], [30, 0, -1, 0, 0]), (20, [0, 0], [30, 0, 1, 1, 15, -1, 1, 11]), (20, [0], [50, 3, 0, 12, 11, 15, 2, 21, 4, 7, 1, 3, 2, 0, 12, 0, 1, 0, 3, 2, 0, 11, 4, 3, 2, 0, 15, 0, 8, 3, 7, 1, 3, 2, 0, 12, 0, 0, 0, 7, 4, 3, 2, 0, 15, 0, 1, 2, 0, 11]), (20, [18, 0], [30, 0, 1, 0, 0, -1, 1, 11]), (20, [0, 18], [50, 2, 0, 8, 11, 3, 7, 0, 2, 0, 1, 2, 0, 8, 0, 6, 4, 2, 1, 1, 0, 1, 2, 0, 11]), (102, [18], [0, 13008, 13009, 13011, 13012, 13013, 13014, 13015]), (23, [18, 3], [0, 1, -1]), (23, [18, 3], [0, -1, 1]), (8, [15], [5]), (23, [13, 3], [0, 1, -1]), (23, [13, 3], [0, -1, 1]), (23, [8, 3], [0, 1, -1]), (23, [8, 3], [0, -1, 1]), (23, [6, 3], [0, 1, -1]), (23, [6, 3], [0, -1, 1]), (102, [14], [0, 13008, 13009, 13011, 13012, 13013, 13014, 13015]), (23, [13, 3], [0, 1, -1]), (23, [13, 3], [0, -1, 1]), (23, [8, 3], [0, 1, -1]), (23, [8, 3], [0, -1, 1]), (23, [6, 3], [0, 1, -1]), (23, [6, 3], [0, -1, 1]), (102, [9], [5708990770823839524233143877797980545530986496, 13008, 13009, 13011, 13012, 13013, 13014, 13015]), (23, [8, 3], [0, 1, -1]), (23, [8, 3], [0, -1, 1]), (23, [6, 3], [0, 1, -1]), (23, [6, 3], [0, -1, 1]), (102, [6], [0, 13011, 13012, 13013, 13014, 13015]), (23, [6, 3], [0, 1, -1]), (23, [6, 3], [0, -1, 1])] ta ws vs := hf
  obtain ⟨f0, hf⟩ := fc_un (show (23 : Nat) < 100 from by decide) hf
  have f0 : 1 * v_iv (n_v vs 18) + ((-1) * v_iv (n_v vs 3) + 0) ≤ 0 := f0
  obtain ⟨f1, hf⟩ := fc_un (show (23 : Nat) < 100 from by decide) hf
  have f1 : (-1) * v_iv (n_v vs 18) + (1 * v_iv (n_v vs 3) + 0) ≤ 0 := f1
  obtain ⟨f2, hf⟩ := fc_un (show (23 : Nat) < 100 from by decide) hf
  have f2 : 1 * v_iv (n_v vs 13) + ((-1) * v_iv (n_v vs 3) + 0) ≤ 0 := f2
  obtain ⟨f3, hf⟩ := fc_un (show (23 : Nat) < 100 from by decide) hf
  have f3 : (-1) * v_iv (n_v vs 13) + (1 * v_iv (n_v vs 3) + 0) ≤ 0 := f3
  obtain ⟨f4, hf⟩ := fc_un (show (23 : Nat) < 100 from by decide) hf
  have f4 : 1 * v_iv (n_v vs 8) + ((-1) * v_iv (n_v vs 3) + 0) ≤ 0 := f4
  obtain ⟨f5, hf⟩ := fc_un (show (23 : Nat) < 100 from by decide) hf
  have f5 : (-1) * v_iv (n_v vs 8) + (1 * v_iv (n_v vs 3) + 0) ≤ 0 := f5
  obtain ⟨f6, hf⟩ := fc_un (show (23 : Nat) < 100 from by decide) hf
  have f6 : 1 * v_iv (n_v vs 6) + ((-1) * v_iv (n_v vs 3) + 0) ≤ 0 := f6
  obtain ⟨f7, hf⟩ := fc_un (show (23 : Nat) < 100 from by decide) hf
  have f7 : (-1) * v_iv (n_v vs 6) + (1 * v_iv (n_v vs 3) + 0) ≤ 0 := f7
  obtain ⟨f8, hf⟩ := fc_un (show (20 : Nat) < 100 from by decide) hf
  have f8 : (v_iv (n_v vs 1) + 1) ≤ w_ei ws (w_ar ws (n_v vs 0) 2) ((w_fi ws (n_v vs 0) 5 + 2)) := f8
  obtain ⟨f9, hf⟩ := fc_un (show (20 : Nat) < 100 from by decide) hf
  have f9 : 1 * v_iv (n_v vs 15) + ((-1) * v_iv (n_v vs 12) + 0) ≤ 0 := f9
  obtain ⟨f10, hf⟩ := fc_un (show (20 : Nat) < 100 from by decide) hf
  have f10 : (-1) * v_iv (n_v vs 15) + 0 ≤ 0 := f10
  obtain ⟨f11, hf⟩ := fc_un (show (20 : Nat) < 100 from by decide) hf
  have f11 : 1 * w_fi ws (n_v vs 0) 15 + ((-1) * w_fi ws (n_v vs 0) 11 + 0) ≤ 0 := f11
  obtain ⟨f12, hf⟩ := fc_un (show (20 : Nat) < 100 from by decide) hf
  have f12 : ((w_fi ws (n_v vs 0) 12 = 1) → (w_fi ws (n_v vs 0) 11 ≤ (w_fi ws (n_v vs 0) 15 + 8))) ∧ ((w_fi ws (n_v vs 0) 12 = 0) ∨ ((w_fi ws (n_v vs 0) 15 + 1) ≤ w_fi ws (n_v vs 0) 11)) := f12
  obtain ⟨f13, hf⟩ := fc_un (show (20 : Nat) < 100 from by decide) hf
  have f13 : 1 * v_iv (n_v vs 18) + ((-1) * w_fi ws (n_v vs 0) 11 + 0) ≤ 0 := f13
  obtain ⟨f14, hf⟩ := fc_un (show (20 : Nat) < 100 from by decide) hf
  have f14 : (1 ≤ w_fi ws (n_v vs 0) 8) ∨ ((v_iv (n_v vs 18) + 1) ≤ w_fi ws (n_v vs 0) 11) := f14
  obtain ⟨ta1, w1, le1, ⟨_, s1⟩, hf⟩ := fc_us (show ¬ (102 : Nat) < 100 from by decide) hf
  obtain ⟨f16, hf⟩ := fc_un (show (23 : Nat) < 100 from by decide) hf
  have f16 : 1 * v_iv (n_v vs 18) + ((-1) * v_iv (n_v vs 3) + 0) ≤ 0 := f16
  obtain ⟨f17, hf⟩ := fc_un (show (23 : Nat) < 100 from by decide) hf
  have f17 : (-1) * v_iv (n_v vs 18) + (1 * v_iv (n_v vs 3) + 0) ≤ 0 := f17
  obtain ⟨f18, hf⟩ := fc_un (show (8 : Nat) < 100 from by decide) hf
  have f18 : v_iv (n_v vs 15) ≤ 0 := f18
  obtain ⟨f19, hf⟩ := fc_un (show (23 : Nat) < 100 from by decide) hf
  have f19 : 1 * v_iv (n_v vs 13) + ((-1) * v_iv (n_v vs 3) + 0) ≤ 0 := f19
  obtain ⟨f20, hf⟩ := fc_un (show (23 : Nat) < 100 from by decide) hf
  have f20 : (-1) * v_iv (n_v vs 13) + (1 * v_iv (n_v vs 3) + 0) ≤ 0 := f20
  obtain ⟨f21, hf⟩ := fc_un (show (23 : Nat) < 100 from by decide) hf
  have f21 : 1 * v_iv (n_v vs 8) + ((-1) * v_iv (n_v vs 3) + 0) ≤ 0 := f21
  obtain ⟨f22, hf⟩ := fc_un (show (23 : Nat) < 100 from by decide) hf
  have f22 : (-1) * v_iv (n_v vs 8) + (1 * v_iv (n_v vs 3) + 0) ≤ 0 := f22
  obtain ⟨f23, hf⟩ := fc_un (show (23 : Nat) < 100 from by decide) hf
  have f23 : 1 * v_iv (n_v vs 6) + ((-1) * v_iv (n_v vs 3) + 0) ≤ 0 := f23
  obtain ⟨f24, hf⟩ := fc_un (show (23 : Nat) < 100 from by decide) hf
  have f24 : (-1) * v_iv (n_v vs 6) + (1 * v_iv (n_v vs 3) + 0) ≤ 0 := f24
  obtain ⟨ta2, w2, le2, ⟨_, s2⟩, hf⟩ := fc_us (show ¬ (102 : Nat) < 100 from by decide) hf
  obtain ⟨f26, hf⟩ := fc_un (show (23 : Nat) < 100 from by decide) hf
  have f26 : 1 * v_iv (n_v vs 13) + ((-1) * v_iv (n_v vs 3) + 0) ≤ 0 := f26
  obtain ⟨f27, hf⟩ := fc_un (show (23 : Nat) < 100 from by decide) hf
  have f27 : (-1) * v_iv (n_v vs 13) + (1 * v_iv (n_v vs 3) + 0) ≤ 0 := f27
  obtain ⟨f28, hf⟩ := fc_un (show (23 : Nat) < 100 from by decide) hf
  have f28 : 1 * v_iv (n_v vs 8) + ((-1) * v_iv (n_v vs 3) + 0) ≤ 0 := f28
  obtain ⟨f29, hf⟩ := fc_un (show (23 : Nat) < 100 from by decide) hf
  have f29 : (-1) * v_iv (n_v vs 8) + (1 * v_iv (n_v vs 3) + 0) ≤ 0 := f29
  obtain ⟨f30, hf⟩ := fc_un (show (23 : Nat) < 100 from by decide) hf
  have f30 : 1 * v_iv (n_v vs 6) + ((-1) * v_iv (n_v vs 3) + 0) ≤ 0 := f30
  obtain ⟨f31, hf⟩ := fc_un (show (23 : Nat) < 100 from by decide) hf
  have f31 : (-1) * v_iv (n_v vs 6) + (1 * v_iv (n_v vs 3) + 0) ≤ 0 := f31
  obtain ⟨ta3, w3, le3, ⟨_, s3⟩, hf⟩ := fc_us (show ¬ (102 : Nat) < 100 from by decide) hf
  obtain ⟨f33, hf⟩ := fc_un (show (23 : Nat) < 100 from by decide) hf
  have f33 : 1 * v_iv (n_v vs 8) + ((-1) * v_iv (n_v vs 3) + 0) ≤ 0 := f33
  obtain ⟨f34, hf⟩ := fc_un (show (23 : Nat) < 100 from by decide) hf
  have f34 : (-1) * v_iv (n_v vs 8) + (1 * v_iv (n_v vs 3) + 0) ≤ 0 := f34
  obtain ⟨f35, hf⟩ := fc_un (show (23 : Nat) < 100 from by decide) hf
  have f35 : 1 * v_iv (n_v vs 6) + ((-1) * v_iv (n_v vs 3) + 0) ≤ 0 := f35
  obtain ⟨f36, hf⟩ := fc_un (show (23 : Nat) < 100 from by decide) hf
  have f36 : (-1) * v_iv (n_v vs 6) + (1 * v_iv (n_v vs 3) + 0) ≤ 0 := f36
  obtain ⟨ta4, w4, le4, ⟨_, s4⟩, hf⟩ := fc_us (show ¬ (102 : Nat) < 100 from by decide) hf
  obtain ⟨f38, hf⟩ := fc_un (show (23 : Nat) < 100 from by decide) hf
  have f38 : 1 * v_iv (n_v vs 6) + ((-1) * v_iv (n_v vs 3) + 0) ≤ 0 := f38
  obtain ⟨f39, hf⟩ := fc_un (show (23 : Nat) < 100 from by decide) hf
  have f39 : (-1) * v_iv (n_v vs 6) + (1 * v_iv (n_v vs 3) + 0) ≤ 0 := f39
  have cr_0_2 : ta (w_ar ws (n_v vs 0) 2) = some 152 := tv_rg (th_fd hD hth r0 (g := GG_150) rfl (k := 2) (t := (2, 0, 0, [152])) rfl rfl)
  have kz_0_8 : 0 ≤ w_fi ws (n_v vs 0) 8 ∧ w_fi ws (n_v vs 0) 8 ≤ 5 := tv_rng (th_fd hD hth r0 (g := GG_150) rfl (k := 8) (t := (0, 0, 5, [])) rfl rfl)
  have kz_0_11 : 0 ≤ w_fi ws (n_v vs 0) 11 ∧ w_fi ws (n_v vs 0) 11 ≤ 2000 := tv_rng (th_fd hD hth r0 (g := GG_150) rfl (k := 11) (t := (0, 0, 2000, [])) rfl rfl)
  have kz_0_12 : 0 ≤ w_fi ws (n_v vs 0) 12 ∧ w_fi ws (n_v vs 0) 12 ≤ 4 := tv_rng (th_fd hD hth r0 (g := GG_150) rfl (k := 12) (t := (0, 0, 4, [])) rfl rfl)
  have kz_0_15 : 0 ≤ w_fi ws (n_v vs 0) 15 ∧ w_fi ws (n_v vs 0) 15 ≤ 2000 := tv_rng (th_fd hD hth r0 (g := GG_150) rfl (k := 15) (t := (0, 0, 2000, [])) rfl rfl)
  have nf0 : fc_1 (20, [3, 0], [30, 0, 1, 0, 0, -1, 1, 11]) ws (vs) := by
    refine ⟨fun n hn => ?_, ?_⟩
    · have hn : n ∈ [3, 0] := hn
      rw [hl]
      simp only [List.mem_cons, List.not_mem_nil, or_false] at hn
      show n < 19; omega
    · show 1 * v_iv (n_v vs 3) + ((-1) * w_fi ws (n_v vs 0) 11 + 0) ≤ 0
      omega
  have nf1 : fc_1 (20, [0, 3], [50, 2, 0, 8, 11, 3, 7, 0, 2, 0, 1, 2, 0, 8, 0, 6, 4, 2, 1, 1, 0, 1, 2, 0, 11]) ws (vs) := by
    refine ⟨fun n hn => ?_, ?_⟩
    · have hn : n ∈ [0, 3] := hn
      rw [hl]
      simp only [List.mem_cons, List.not_mem_nil, or_false] at hn
      show n < 19; omega
    · show (1 ≤ w_fi ws (n_v vs 0) 8) ∨ ((v_iv (n_v vs 3) + 1) ≤ w_fi ws (n_v vs 0) 11)
      first | omega | grind
  refine ⟨(fun _ h => (by cases h)), [], trivial, ?_, (fun _ h => (by cases h))⟩
  rw [List.append_nil]
  exact List.forall_mem_cons.mpr ⟨⟨show (20 : Nat) < 100 from by decide, nf0⟩, List.forall_mem_cons.mpr ⟨⟨show (20 : Nat) < 100 from by decide, nf1⟩, (fun _ h => (by cases h))⟩⟩
def o_Mo_item_at_k1_10 : or_T := (57, 21, [(0, (2, 0, 0, [150])), (1, (0, 0, 7, [])), (3, (0, 0, 2000, [])), (6, (0, 0, 2000, [])), (8, (0, 0, 2000, [])), (10, (0, -1, 23, [])), (12, (0, 99, 99, [])), (13, (0, 0, 2000, [])), (14, (0, -1, 48, [])), (15, (0, 1, 2147483647, [])), (16, (0, 0, 0, [])), (17, (2, 0, 0, [152])), (18, (0, 0, 66297, []))], [(9, [18, 0], [5]), (9, [17, 0], [2]), (8, [15], [4]), (8, [16], [0]), (9, [16, 0], [8]), (23, [13, 3], [0, 1, -1]), (23, [13, 3], [0, -1, 1]), (23, [14, 10], [0, 1, -1]), (23, [14, 10], [0, -1, 1]), (23, [8, 3], [0, 1, -1]), (23, [8, 3], [0, -1, 1]), (23, [6, 3], [0, 1, -1]), (23, [6, 3], [0, -1, 1]), (20, [1, 0], [50, 1, 1, 1005, 1002, 0, 6, 4, 2, 1, 0, 0, 1, 3, 1, 2, 4, 3, 2, 1, 5, 0, 2]), (20, [0, 0], [30, 0, 1, 1, 15, -1, 1, 11]), (20, [0], [50, 3, 0, 12, 11, 15, 2, 21, 4, 7, 1, 3, 2, 0, 12, 0, 1, 0, 3, 2, 0, 11, 4, 3, 2, 0, 15, 0, 8, 3, 7, 1, 3, 2, 0, 12, 0, 0, 0, 7, 4, 3, 2, 0, 15, 0, 1, 2, 0, 11]), (20, [13, 0], [30, 0, 1, 0, 0, -1, 1, 11]), (20, [0, 13], [50, 3, 0, 8, 12, 11, 3, 7, 0, 2, 0, 1, 2, 0, 8, 3, 7, 1, 3, 2, 0, 12, 0, 0, 0, 6, 4, 2, 1, 1, 0, 1, 2, 0, 11]), (20, [0, 14], [50, 1, 0, 8, 3, 7, 0, 2, 0, 1, 2, 0, 8, 0, 2, 0, 0, 1, 1]), (20, [15, 12], [30, 0, 1, 0, 0, -1, 0, 0]), (20, [15], [30, 0, -1, 0, 0]), (102, [14], [0, 13008, 13009, 13011, 13012, 13013, 13014, 13015]), (23, [13, 3], [0, 1, -1]), (23, [13, 3], [0, -1, 1]), (23, [14, 10], [0, 1, -1]), (23, [14, 10], [0, -1, 1]), (23, [8, 3], [0, 1, -1]), (23, [8, 3], [0, -1, 1]), (23, [6, 3], [0, 1, -1]), (23, [6, 3], [0, -1, 1]), (102, [9], [5708990770823839524233143877797980545530986496, 13008, 13009, 13011, 13012, 13013, 13014, 13015]), (23, [8, 3], [0, 1, -1]), (23, [8, 3], [0, -1, 1]), (23, [6, 3], [0, 1, -1]), (23, [6, 3], [0, -1, 1]), (102, [6], [0, 13011, 13012, 13013, 13014, 13015]), (23, [6, 3], [0, 1, -1]), (23, [6, 3], [0, -1, 1])], [(10, (0, 0, 23, []))], [], [], [], [])
theorem oo_Mo_item_at_k1_10 {kA : Nat → ClassId} : or_ok kA GG o_Mo_item_at_k1_10 := by
  intro A ta ws vs hD hth hl hk hds hf
  have hl : vs.length = 21 := hl
  have hk : ∀ q ∈ ([(0, (2, 0, 0, [150])), (1, (0, 0, 7, [])), (3, (0, 0, 2000, [])), (6, (0, 0, 2000, [])), (8, (0, 0, 2000, [])), (10, (0, -1, 23, [])), (12, (0, 99, 99, [])), (13, (0, 0, 2000, [])), (14, (0, -1, 48, [])), (15, (0, 1, 2147483647, [])), (16, (0, 0, 0, [])), (17, (2, 0, 0, [152])), (18, (0, 0, 66297, []))] : List (Nat × tv_T)), tv_ok ta q.2 (n_v vs q.1) := hk
  obtain ⟨t0, hk⟩ := List.forall_mem_cons.mp hk
  have t0 : tv_ok ta (2, 0, 0, [150]) (n_v vs 0) := t0
  have r0 : ta (v_ad (n_v vs 0)) = some 150 := tv_rg t0
  obtain ⟨t1, hk⟩ := List.forall_mem_cons.mp hk
  have t1 : tv_ok ta (0, 0, 7, []) (n_v vs 1) := t1
  have k1 : 0 ≤ v_iv (n_v vs 1) ∧ v_iv (n_v vs 1) ≤ 7 := tv_rng t1
  obtain ⟨t3, hk⟩ := List.forall_mem_cons.mp hk
  have t3 : tv_ok ta (0, 0, 2000, []) (n_v vs 3) := t3
  have k3 : 0 ≤ v_iv (n_v vs 3) ∧ v_iv (n_v vs 3) ≤ 2000 := tv_rng t3
  obtain ⟨t6, hk⟩ := List.forall_mem_cons.mp hk
  have t6 : tv_ok ta (0, 0, 2000, []) (n_v vs 6) := t6
  have k6 : 0 ≤ v_iv (n_v vs 6) ∧ v_iv (n_v vs 6) ≤ 2000 := tv_rng t6
  obtain ⟨t8, hk⟩ := List.forall_mem_cons.mp hk
  have t8 : tv_ok ta (0, 0, 2000, []) (n_v vs 8) := t8
  have k8 : 0 ≤ v_iv (n_v vs 8) ∧ v_iv (n_v vs 8) ≤ 2000 := tv_rng t8
  obtain ⟨t10, hk⟩ := List.forall_mem_cons.mp hk
  have t10 : tv_ok ta (0, -1, 23, []) (n_v vs 10) := t10
  have k10 : (-1) ≤ v_iv (n_v vs 10) ∧ v_iv (n_v vs 10) ≤ 23 := tv_rng t10
  obtain ⟨t12, hk⟩ := List.forall_mem_cons.mp hk
  have t12 : tv_ok ta (0, 99, 99, []) (n_v vs 12) := t12
  have k12 : 99 ≤ v_iv (n_v vs 12) ∧ v_iv (n_v vs 12) ≤ 99 := tv_rng t12
  obtain ⟨t13, hk⟩ := List.forall_mem_cons.mp hk
  have t13 : tv_ok ta (0, 0, 2000, []) (n_v vs 13) := t13
  have k13 : 0 ≤ v_iv (n_v vs 13) ∧ v_iv (n_v vs 13) ≤ 2000 := tv_rng t13
  obtain ⟨t14, hk⟩ := List.forall_mem_cons.mp hk
  have t14 : tv_ok ta (0, -1, 48, []) (n_v vs 14) := t14
  have k14 : (-1) ≤ v_iv (n_v vs 14) ∧ v_iv (n_v vs 14) ≤ 48 := tv_rng t14
  obtain ⟨t15, hk⟩ := List.forall_mem_cons.mp hk
  have t15 : tv_ok ta (0, 1, 2147483647, []) (n_v vs 15) := t15
  have k15 : 1 ≤ v_iv (n_v vs 15) ∧ v_iv (n_v vs 15) ≤ 2147483647 := tv_rng t15
  obtain ⟨t16, hk⟩ := List.forall_mem_cons.mp hk
  have t16 : tv_ok ta (0, 0, 0, []) (n_v vs 16) := t16
  have k16 : 0 ≤ v_iv (n_v vs 16) ∧ v_iv (n_v vs 16) ≤ 0 := tv_rng t16
  obtain ⟨t17, hk⟩ := List.forall_mem_cons.mp hk
  have t17 : tv_ok ta (2, 0, 0, [152]) (n_v vs 17) := t17
  have r17 : ta (v_ad (n_v vs 17)) = some 152 := tv_rg t17
  obtain ⟨t18, hk⟩ := List.forall_mem_cons.mp hk
  have t18 : tv_ok ta (0, 0, 66297, []) (n_v vs 18) := t18
  have k18 : 0 ≤ v_iv (n_v vs 18) ∧ v_iv (n_v vs 18) ≤ 66297 := tv_rng t18
  have hf : fc_ok [(9, [18, 0], [5]), (9, [17, 0], [2]), (8, [15], [4]), (8, [16], [0]), (9, [16, 0], [8]), (23, [13, 3], [0, 1, -1]), (23, [13, 3], [0, -1, 1]), (23, [14, 10], [0, 1, -1]), (23, [14, 10], [0, -1, 1]), (23, [8, 3], [0, 1, -1]), (23, [8, 3], [0, -1, 1]), (23, [6, 3], [0, 1, -1]), (23, [6, 3], [0, -1, 1]), (20, [1, 0], [50, 1, 1, 1005, 1002, 0, 6, 4, 2, 1, 0, 0, 1, 3, 1, 2, 4, 3, 2, 1, 5, 0, 2]), (20, [0, 0], [30, 0, 1, 1, 15, -1, 1, 11]), (20, [0], [50, 3, 0, 12, 11, 15, 2, 21, 4, 7, 1, 3, 2, 0, 12, 0, 1, 0, 3, 2, 0, 11, 4, 3, 2, 0, 15, 0, 8, 3, 7, 1, 3, 2, 0, 12, 0, 0, 0, 7, 4, 3, 2, 0, 15, 0, 1, 2, 0, 11]), (20, [13, 0], [30, 0, 1, 0, 0, -1, 1, 11]), (20, [0, 13], [50, 3, 0, 8, 12, 11, 3, 7, 0, 2, 0, 1, 2, 0, 8, 3, 7, 1, 3, 2, 0, 12, 0, 0, 0, 6, 4, 2, 1, 1, 0, 1, 2, 0, 11]), (20, [0, 14], [50, 1, 0, 8, 3, 7, 0, 2, 0, 1, 2, 0, 8, 0, 2, 0, 0, 1, 1]), (20, [15, 12], [30, 0, 1, 0, 0, -1, 0, 0]), (20, [15], [30, 0, -1, 0, 0]), (102, [14], [0, 13008, 13009, 13011, 13012, 13013, 13014, 13015]), (23, [13, 3], [0, 1, -1]), (23, [13, 3], [0, -1, 1]), (23, [14, 10], [0, 1, -1]), (23, [14, 10], [0, -1, 1]), (23, [8, 3], [0, 1, -1]), (23, [8, 3], [0, -1, 1]), (23, [6, 3], [0, 1, -1]), (23, [6, 3], [0, -1, 1]), (102, [9], [5708990770823839524233143877797980545530986496, 13008, 13009, 13011, 13012, 13013, 13014, 13015]), (23, [8, 3], [0, 1, -1]), (23, [8, 3], [0, -1, 1]), (23, [6, 3], [0, 1, -1]), (23, [6, 3], [0, -1, 1]), (102, [6], [0, 13011, 13012, 13013, 13014, 13015]), (23, [6, 3], [0, 1, -1]), (23, [6, 3], [0, -1, 1])] ta ws vs := hf
  obtain ⟨f0, hf⟩ := fc_un (show (9 : Nat) < 100 from by decide) hf
  have f0 : n_v vs 18 = w_fd ws (v_ad (n_v vs 0)) 5 := f0
  obtain ⟨f1, hf⟩ := fc_un (show (9 : Nat) < 100 from by decide) hf
  have f1 : n_v vs 17 = w_fd ws (v_ad (n_v vs 0)) 2 := f1
  obtain ⟨f2, hf⟩ := fc_un (show (8 : Nat) < 100 from by decide) hf
  have f2 : 0 < v_iv (n_v vs 15) := f2
  obtain ⟨f3, hf⟩ := fc_un (show (8 : Nat) < 100 from by decide) hf
  have f3 : v_iv (n_v vs 16) = 0 := f3
  obtain ⟨f4, hf⟩ := fc_un (show (9 : Nat) < 100 from by decide) hf
  have f4 : n_v vs 16 = w_fd ws (v_ad (n_v vs 0)) 8 := f4
  obtain ⟨f5, hf⟩ := fc_un (show (23 : Nat) < 100 from by decide) hf
  have f5 : 1 * v_iv (n_v vs 13) + ((-1) * v_iv (n_v vs 3) + 0) ≤ 0 := f5
  obtain ⟨f6, hf⟩ := fc_un (show (23 : Nat) < 100 from by decide) hf
  have f6 : (-1) * v_iv (n_v vs 13) + (1 * v_iv (n_v vs 3) + 0) ≤ 0 := f6
  obtain ⟨f7, hf⟩ := fc_un (show (23 : Nat) < 100 from by decide) hf
  have f7 : 1 * v_iv (n_v vs 14) + ((-1) * v_iv (n_v vs 10) + 0) ≤ 0 := f7
  obtain ⟨f8, hf⟩ := fc_un (show (23 : Nat) < 100 from by decide) hf
  have f8 : (-1) * v_iv (n_v vs 14) + (1 * v_iv (n_v vs 10) + 0) ≤ 0 := f8
  obtain ⟨f9, hf⟩ := fc_un (show (23 : Nat) < 100 from by decide) hf
  have f9 : 1 * v_iv (n_v vs 8) + ((-1) * v_iv (n_v vs 3) + 0) ≤ 0 := f9
  obtain ⟨f10, hf⟩ := fc_un (show (23 : Nat) < 100 from by decide) hf
  have f10 : (-1) * v_iv (n_v vs 8) + (1 * v_iv (n_v vs 3) + 0) ≤ 0 := f10
  obtain ⟨f11, hf⟩ := fc_un (show (23 : Nat) < 100 from by decide) hf
  have f11 : 1 * v_iv (n_v vs 6) + ((-1) * v_iv (n_v vs 3) + 0) ≤ 0 := f11
  obtain ⟨f12, hf⟩ := fc_un (show (23 : Nat) < 100 from by decide) hf
  have f12 : (-1) * v_iv (n_v vs 6) + (1 * v_iv (n_v vs 3) + 0) ≤ 0 := f12
  obtain ⟨f13, hf⟩ := fc_un (show (20 : Nat) < 100 from by decide) hf
  have f13 : (v_iv (n_v vs 1) + 1) ≤ w_ei ws (w_ar ws (n_v vs 0) 2) ((w_fi ws (n_v vs 0) 5 + 2)) := f13
  obtain ⟨f14, hf⟩ := fc_un (show (20 : Nat) < 100 from by decide) hf
  have f14 : 1 * w_fi ws (n_v vs 0) 15 + ((-1) * w_fi ws (n_v vs 0) 11 + 0) ≤ 0 := f14
  obtain ⟨f15, hf⟩ := fc_un (show (20 : Nat) < 100 from by decide) hf
  have f15 : ((w_fi ws (n_v vs 0) 12 = 1) → (w_fi ws (n_v vs 0) 11 ≤ (w_fi ws (n_v vs 0) 15 + 8))) ∧ ((w_fi ws (n_v vs 0) 12 = 0) ∨ ((w_fi ws (n_v vs 0) 15 + 1) ≤ w_fi ws (n_v vs 0) 11)) := f15
  obtain ⟨f16, hf⟩ := fc_un (show (20 : Nat) < 100 from by decide) hf
  have f16 : 1 * v_iv (n_v vs 13) + ((-1) * w_fi ws (n_v vs 0) 11 + 0) ≤ 0 := f16
  obtain ⟨f17, hf⟩ := fc_un (show (20 : Nat) < 100 from by decide) hf
  have f17 : (1 ≤ w_fi ws (n_v vs 0) 8) ∨ ((w_fi ws (n_v vs 0) 12 = 0) ∨ ((v_iv (n_v vs 13) + 1) ≤ w_fi ws (n_v vs 0) 11)) := f17
  obtain ⟨f18, hf⟩ := fc_un (show (20 : Nat) < 100 from by decide) hf
  have f18 : (1 ≤ w_fi ws (n_v vs 0) 8) ∨ (0 ≤ v_iv (n_v vs 14)) := f18
  obtain ⟨f19, hf⟩ := fc_un (show (20 : Nat) < 100 from by decide) hf
  have f19 : 1 * v_iv (n_v vs 15) + ((-1) * v_iv (n_v vs 12) + 0) ≤ 0 := f19
  obtain ⟨f20, hf⟩ := fc_un (show (20 : Nat) < 100 from by decide) hf
  have f20 : (-1) * v_iv (n_v vs 15) + 0 ≤ 0 := f20
  obtain ⟨ta1, w1, le1, ⟨_, s1⟩, hf⟩ := fc_us (show ¬ (102 : Nat) < 100 from by decide) hf
  obtain ⟨f22, hf⟩ := fc_un (show (23 : Nat) < 100 from by decide) hf
  have f22 : 1 * v_iv (n_v vs 13) + ((-1) * v_iv (n_v vs 3) + 0) ≤ 0 := f22
  obtain ⟨f23, hf⟩ := fc_un (show (23 : Nat) < 100 from by decide) hf
  have f23 : (-1) * v_iv (n_v vs 13) + (1 * v_iv (n_v vs 3) + 0) ≤ 0 := f23
  obtain ⟨f24, hf⟩ := fc_un (show (23 : Nat) < 100 from by decide) hf
  have f24 : 1 * v_iv (n_v vs 14) + ((-1) * v_iv (n_v vs 10) + 0) ≤ 0 := f24
  obtain ⟨f25, hf⟩ := fc_un (show (23 : Nat) < 100 from by decide) hf
  have f25 : (-1) * v_iv (n_v vs 14) + (1 * v_iv (n_v vs 10) + 0) ≤ 0 := f25
  obtain ⟨f26, hf⟩ := fc_un (show (23 : Nat) < 100 from by decide) hf
  have f26 : 1 * v_iv (n_v vs 8) + ((-1) * v_iv (n_v vs 3) + 0) ≤ 0 := f26
  obtain ⟨f27, hf⟩ := fc_un (show (23 : Nat) < 100 from by decide) hf
  have f27 : (-1) * v_iv (n_v vs 8) + (1 * v_iv (n_v vs 3) + 0) ≤ 0 := f27
  obtain ⟨f28, hf⟩ := fc_un (show (23 : Nat) < 100 from by decide) hf
  have f28 : 1 * v_iv (n_v vs 6) + ((-1) * v_iv (n_v vs 3) + 0) ≤ 0 := f28
  obtain ⟨f29, hf⟩ := fc_un (show (23 : Nat) < 100 from by decide) hf
  have f29 : (-1) * v_iv (n_v vs 6) + (1 * v_iv (n_v vs 3) + 0) ≤ 0 := f29
  obtain ⟨ta2, w2, le2, ⟨_, s2⟩, hf⟩ := fc_us (show ¬ (102 : Nat) < 100 from by decide) hf
  obtain ⟨f31, hf⟩ := fc_un (show (23 : Nat) < 100 from by decide) hf
  have f31 : 1 * v_iv (n_v vs 8) + ((-1) * v_iv (n_v vs 3) + 0) ≤ 0 := f31
  obtain ⟨f32, hf⟩ := fc_un (show (23 : Nat) < 100 from by decide) hf
  have f32 : (-1) * v_iv (n_v vs 8) + (1 * v_iv (n_v vs 3) + 0) ≤ 0 := f32
  obtain ⟨f33, hf⟩ := fc_un (show (23 : Nat) < 100 from by decide) hf
  have f33 : 1 * v_iv (n_v vs 6) + ((-1) * v_iv (n_v vs 3) + 0) ≤ 0 := f33
  obtain ⟨f34, hf⟩ := fc_un (show (23 : Nat) < 100 from by decide) hf
  have f34 : (-1) * v_iv (n_v vs 6) + (1 * v_iv (n_v vs 3) + 0) ≤ 0 := f34
  obtain ⟨ta3, w3, le3, ⟨_, s3⟩, hf⟩ := fc_us (show ¬ (102 : Nat) < 100 from by decide) hf
  obtain ⟨f36, hf⟩ := fc_un (show (23 : Nat) < 100 from by decide) hf
  have f36 : 1 * v_iv (n_v vs 6) + ((-1) * v_iv (n_v vs 3) + 0) ≤ 0 := f36
  obtain ⟨f37, hf⟩ := fc_un (show (23 : Nat) < 100 from by decide) hf
  have f37 : (-1) * v_iv (n_v vs 6) + (1 * v_iv (n_v vs 3) + 0) ≤ 0 := f37
  have cr_0_2 : ta (w_ar ws (n_v vs 0) 2) = some 152 := tv_rg (th_fd hD hth r0 (g := GG_150) rfl (k := 2) (t := (2, 0, 0, [152])) rfl rfl)
  have ad_17 : v_ad (n_v vs 17) = w_ar ws (n_v vs 0) 2 := congrArg v_ad f1
  have g0 : v_iv (n_v vs 18) = w_fi ws (n_v vs 0) 5 := congrArg v_iv f0
  have g4 : v_iv (n_v vs 16) = w_fi ws (n_v vs 0) 8 := congrArg v_iv f4
  have kz_0_8 : 0 ≤ w_fi ws (n_v vs 0) 8 ∧ w_fi ws (n_v vs 0) 8 ≤ 5 := tv_rng (th_fd hD hth r0 (g := GG_150) rfl (k := 8) (t := (0, 0, 5, [])) rfl rfl)
  have kz_0_11 : 0 ≤ w_fi ws (n_v vs 0) 11 ∧ w_fi ws (n_v vs 0) 11 ≤ 2000 := tv_rng (th_fd hD hth r0 (g := GG_150) rfl (k := 11) (t := (0, 0, 2000, [])) rfl rfl)
  have kz_0_12 : 0 ≤ w_fi ws (n_v vs 0) 12 ∧ w_fi ws (n_v vs 0) 12 ≤ 4 := tv_rng (th_fd hD hth r0 (g := GG_150) rfl (k := 12) (t := (0, 0, 4, [])) rfl rfl)
  have kz_0_15 : 0 ≤ w_fi ws (n_v vs 0) 15 ∧ w_fi ws (n_v vs 0) 15 ≤ 2000 := tv_rng (th_fd hD hth r0 (g := GG_150) rfl (k := 15) (t := (0, 0, 2000, [])) rfl rfl)
  have rf10 : tv_ok ta (0, 0, 23, []) (n_v vs 10) := tv_in t10 (by first | omega | grind) (by first | omega | grind)
  refine ⟨List.forall_mem_cons.mpr ⟨rf10, (fun _ h => (by cases h))⟩, [], trivial, ?_, (fun _ h => (by cases h))⟩
  rw [List.append_nil]
  exact (fun _ h => (by cases h))
def o_Mo_item_at_k1_11 : or_T := (60, 22, [(0, (2, 0, 0, [150])), (1, (0, 0, 7, [])), (3, (0, 0, 2000, [])), (6, (0, 0, 2000, [])), (8, (0, 0, 2000, [])), (10, (0, 0, 23, [])), (12, (0, 99, 99, [])), (13, (0, 0, 2000, [])), (14, (0, -1, 48, [])), (15, (0, 1, 2147483647, [])), (16, (0, 0, 0, [])), (17, (2, 0, 0, [152])), (18, (0, 0, 66297, []))], [(9, [18, 0], [5]), (9, [17, 0], [2]), (8, [15], [4]), (8, [16], [0]), (9, [16, 0], [8]), (23, [13, 3], [0, 1, -1]), (23, [13, 3], [0, -1, 1]), (23, [14, 10], [0, 1, -1]), (23, [14, 10], [0, -1, 1]), (23, [8, 3], [0, 1, -1]), (23, [8, 3], [0, -1, 1]), (23, [6, 3], [0, 1, -1]), (23, [6, 3], [0, -1, 1]), (20, [1, 0], [50, 1, 1, 1005, 1002, 0, 6, 4, 2, 1, 0, 0, 1, 3, 1, 2, 4, 3, 2, 1, 5, 0, 2]), (20, [0, 0], [30, 0, 1, 1, 15, -1, 1, 11]), (20, [0], [50, 3, 0, 12, 11, 15, 2, 21, 4, 7, 1, 3, 2, 0, 12, 0, 1, 0, 3, 2, 0, 11, 4, 3, 2, 0, 15, 0, 8, 3, 7, 1, 3, 2, 0, 12, 0, 0, 0, 7, 4, 3, 2, 0, 15, 0, 1, 2, 0, 11]), (20, [13, 0], [30, 0, 1, 0, 0, -1, 1, 11]), (20, [0, 13], [50, 3, 0, 8, 12, 11, 3, 7, 0, 2, 0, 1, 2, 0, 8, 3, 7, 1, 3, 2, 0, 12, 0, 0, 0, 6, 4, 2, 1, 1, 0, 1, 2, 0, 11]), (20, [0, 14], [50, 1, 0, 8, 3, 7, 0, 2, 0, 1, 2, 0, 8, 0, 2, 0, 0, 1, 1]), (20, [15, 12], [30, 0, 1, 0, 0, -1, 0, 0]), (20, [15], [30, 0, -1, 0, 0]), (102, [14], [0, 13008, 13009, 13011, 13012, 13013, 13014, 13015]), (23, [13, 3], [0, 1, -1]), (23, [13, 3], [0, -1, 1]), (23, [14, 10], [0, 1, -1]), (23, [14, 10], [0, -1, 1]), (23, [8, 3], [0, 1, -1]), (23, [8, 3], [0, -1, 1]), (23, [6, 3], [0, 1, -1]), (23, [6, 3], [0, -1, 1]), (102, [9], [5708990770823839524233143877797980545530986496, 13008, 13009, 13011, 13012, 13013, 13014, 13015]), (23, [8, 3], [0, 1, -1]), (23, [8, 3], [0, -1, 1]), (23, [6, 3], [0, 1, -1]), (23, [6, 3], [0, -1, 1]), (102, [6], [0, 13011, 13012, 13013, 13014, 13015]), (23, [6, 3], [0, 1, -1]), (23, [6, 3], [0, -1, 1])], [(15, (0, 1, 99, []))], [], [], [], [])
theorem oo_Mo_item_at_k1_11 {kA : Nat → ClassId} : or_ok kA GG o_Mo_item_at_k1_11 := by
  intro A ta ws vs hD hth hl hk hds hf
  have hl : vs.length = 22 := hl
  have hk : ∀ q ∈ ([(0, (2, 0, 0, [150])), (1, (0, 0, 7, [])), (3, (0, 0, 2000, [])), (6, (0, 0, 2000, [])), (8, (0, 0, 2000, [])), (10, (0, 0, 23, [])), (12, (0, 99, 99, [])), (13, (0, 0, 2000, [])), (14, (0, -1, 48, [])), (15, (0, 1, 2147483647, [])), (16, (0, 0, 0, [])), (17, (2, 0, 0, [152])), (18, (0, 0, 66297, []))] : List (Nat × tv_T)), tv_ok ta q.2 (n_v vs q.1) := hk
  obtain ⟨t0, hk⟩ := List.forall_mem_cons.mp hk
  have t0 : tv_ok ta (2, 0, 0, [150]) (n_v vs 0) := t0
  have r0 : ta (v_ad (n_v vs 0)) = some 150 := tv_rg t0
  obtain ⟨t1, hk⟩ := List.forall_mem_cons.mp hk
  have t1 : tv_ok ta (0, 0, 7, []) (n_v vs 1) := t1
  have k1 : 0 ≤ v_iv (n_v vs 1) ∧ v_iv (n_v vs 1) ≤ 7 := tv_rng t1
  obtain ⟨t3, hk⟩ := List.forall_mem_cons.mp hk
  have t3 : tv_ok ta (0, 0, 2000, []) (n_v vs 3) := t3
  have k3 : 0 ≤ v_iv (n_v vs 3) ∧ v_iv (n_v vs 3) ≤ 2000 := tv_rng t3
  obtain ⟨t6, hk⟩ := List.forall_mem_cons.mp hk
  have t6 : tv_ok ta (0, 0, 2000, []) (n_v vs 6) := t6
  have k6 : 0 ≤ v_iv (n_v vs 6) ∧ v_iv (n_v vs 6) ≤ 2000 := tv_rng t6
  obtain ⟨t8, hk⟩ := List.forall_mem_cons.mp hk
  have t8 : tv_ok ta (0, 0, 2000, []) (n_v vs 8) := t8
  have k8 : 0 ≤ v_iv (n_v vs 8) ∧ v_iv (n_v vs 8) ≤ 2000 := tv_rng t8
  obtain ⟨t10, hk⟩ := List.forall_mem_cons.mp hk
  have t10 : tv_ok ta (0, 0, 23, []) (n_v vs 10) := t10
  have k10 : 0 ≤ v_iv (n_v vs 10) ∧ v_iv (n_v vs 10) ≤ 23 := tv_rng t10
  obtain ⟨t12, hk⟩ := List.forall_mem_cons.mp hk
  have t12 : tv_ok ta (0, 99, 99, []) (n_v vs 12) := t12
  have k12 : 99 ≤ v_iv (n_v vs 12) ∧ v_iv (n_v vs 12) ≤ 99 := tv_rng t12
  obtain ⟨t13, hk⟩ := List.forall_mem_cons.mp hk
  have t13 : tv_ok ta (0, 0, 2000, []) (n_v vs 13) := t13
  have k13 : 0 ≤ v_iv (n_v vs 13) ∧ v_iv (n_v vs 13) ≤ 2000 := tv_rng t13
  obtain ⟨t14, hk⟩ := List.forall_mem_cons.mp hk
  have t14 : tv_ok ta (0, -1, 48, []) (n_v vs 14) := t14
  have k14 : (-1) ≤ v_iv (n_v vs 14) ∧ v_iv (n_v vs 14) ≤ 48 := tv_rng t14
  obtain ⟨t15, hk⟩ := List.forall_mem_cons.mp hk
  have t15 : tv_ok ta (0, 1, 2147483647, []) (n_v vs 15) := t15
  have k15 : 1 ≤ v_iv (n_v vs 15) ∧ v_iv (n_v vs 15) ≤ 2147483647 := tv_rng t15
  obtain ⟨t16, hk⟩ := List.forall_mem_cons.mp hk
  have t16 : tv_ok ta (0, 0, 0, []) (n_v vs 16) := t16
  have k16 : 0 ≤ v_iv (n_v vs 16) ∧ v_iv (n_v vs 16) ≤ 0 := tv_rng t16
  obtain ⟨t17, hk⟩ := List.forall_mem_cons.mp hk
  have t17 : tv_ok ta (2, 0, 0, [152]) (n_v vs 17) := t17
  have r17 : ta (v_ad (n_v vs 17)) = some 152 := tv_rg t17
  obtain ⟨t18, hk⟩ := List.forall_mem_cons.mp hk
  have t18 : tv_ok ta (0, 0, 66297, []) (n_v vs 18) := t18
  have k18 : 0 ≤ v_iv (n_v vs 18) ∧ v_iv (n_v vs 18) ≤ 66297 := tv_rng t18
  have hf : fc_ok [(9, [18, 0], [5]), (9, [17, 0], [2]), (8, [15], [4]), (8, [16], [0]), (9, [16, 0], [8]), (23, [13, 3], [0, 1, -1]), (23, [13, 3], [0, -1, 1]), (23, [14, 10], [0, 1, -1]), (23, [14, 10], [0, -1, 1]), (23, [8, 3], [0, 1, -1]), (23, [8, 3], [0, -1, 1]), (23, [6, 3], [0, 1, -1]), (23, [6, 3], [0, -1, 1]), (20, [1, 0], [50, 1, 1, 1005, 1002, 0, 6, 4, 2, 1, 0, 0, 1, 3, 1, 2, 4, 3, 2, 1, 5, 0, 2]), (20, [0, 0], [30, 0, 1, 1, 15, -1, 1, 11]), (20, [0], [50, 3, 0, 12, 11, 15, 2, 21, 4, 7, 1, 3, 2, 0, 12, 0, 1, 0, 3, 2, 0, 11, 4, 3, 2, 0, 15, 0, 8, 3, 7, 1, 3, 2, 0, 12, 0, 0, 0, 7, 4, 3, 2, 0, 15, 0, 1, 2, 0, 11]), (20, [13, 0], [30, 0, 1, 0, 0, -1, 1, 11]), (20, [0, 13], [50, 3, 0, 8, 12, 11, 3, 7, 0, 2, 0, 1, 2, 0, 8, 3, 7, 1, 3, 2, 0, 12, 0, 0, 0, 6, 4, 2, 1, 1, 0, 1, 2, 0, 11]), (20, [0, 14], [50, 1, 0, 8, 3, 7, 0, 2, 0, 1, 2, 0, 8, 0, 2, 0, 0, 1, 1]), (20, [15, 12], [30, 0, 1, 0, 0, -1, 0, 0]), (20, [15], [30, 0, -1, 0, 0]), (102, [14], [0, 13008, 13009, 13011, 13012, 13013, 13014, 13015]), (23, [13, 3], [0, 1, -1]), (23, [13, 3], [0, -1, 1]), (23, [14, 10], [0, 1, -1]), (23, [14, 10], [0, -1, 1]), (23, [8, 3], [0, 1, -1]), (23, [8, 3], [0, -1, 1]), (23, [6, 3], [0, 1, -1]), (23, [6, 3], [0, -1, 1]), (102, [9], [5708990770823839524233143877797980545530986496, 13008, 13009, 13011, 13012, 13013, 13014, 13015]), (23, [8, 3], [0, 1, -1]), (23, [8, 3], [0, -1, 1]), (23, [6, 3], [0, 1, -1]), (23, [6, 3], [0, -1, 1]), (102, [6], [0, 13011, 13012, 13013, 13014, 13015]), (23, [6, 3], [0, 1, -1]), (23, [6, 3], [0, -1, 1])] ta ws vs := hf
  obtain ⟨f0, hf⟩ := fc_un (show (9 : Nat) < 100 from by decide) hf
  have f0 : n_v vs 18 = w_fd ws (v_ad (n_v vs 0)) 5 := f0
  obtain ⟨f1, hf⟩ := fc_un (show (9 : Nat) < 100 from by decide) hf
  have f1 : n_v vs 17 = w_fd ws (v_ad (n_v vs 0)) 2 := f1
  obtain ⟨f2, hf⟩ := fc_un (show (8 : Nat) < 100 from by decide) hf
  have f2 : 0 < v_iv (n_v vs 15) := f2
  obtain ⟨f3, hf⟩ := fc_un (show (8 : Nat) < 100 from by decide) hf
  have f3 : v_iv (n_v vs 16) = 0 := f3
  obtain ⟨f4, hf⟩ := fc_un (show (9 : Nat) < 100 from by decide) hf
  have f4 : n_v vs 16 = w_fd ws (v_ad (n_v vs 0)) 8 := f4
  obtain ⟨f5, hf⟩ := fc_un (show (23 : Nat) < 100 from by decide) hf
  have f5 : 1 * v_iv (n_v vs 13) + ((-1) * v_iv (n_v vs 3) + 0) ≤ 0 := f5
  obtain ⟨f6, hf⟩ := fc_un (show (23 : Nat) < 100 from by decide) hf
  have f6 : (-1) * v_iv (n_v vs 13) + (1 * v_iv (n_v vs 3) + 0) ≤ 0 := f6
  obtain ⟨f7, hf⟩ := fc_un (show (23 : Nat) < 100 from by decide) hf
  have f7 : 1 * v_iv (n_v vs 14) + ((-1) * v_iv (n_v vs 10) + 0) ≤ 0 := f7
  obtain ⟨f8, hf⟩ := fc_un (show (23 : Nat) < 100 from by decide) hf
  have f8 : (-1) * v_iv (n_v vs 14) + (1 * v_iv (n_v vs 10) + 0) ≤ 0 := f8
  obtain ⟨f9, hf⟩ := fc_un (show (23 : Nat) < 100 from by decide) hf
  have f9 : 1 * v_iv (n_v vs 8) + ((-1) * v_iv (n_v vs 3) + 0) ≤ 0 := f9
  obtain ⟨f10, hf⟩ := fc_un (show (23 : Nat) < 100 from by decide) hf
  have f10 : (-1) * v_iv (n_v vs 8) + (1 * v_iv (n_v vs 3) + 0) ≤ 0 := f10
  obtain ⟨f11, hf⟩ := fc_un (show (23 : Nat) < 100 from by decide) hf
  have f11 : 1 * v_iv (n_v vs 6) + ((-1) * v_iv (n_v vs 3) + 0) ≤ 0 := f11
  obtain ⟨f12, hf⟩ := fc_un (show (23 : Nat) < 100 from by decide) hf
  have f12 : (-1) * v_iv (n_v vs 6) + (1 * v_iv (n_v vs 3) + 0) ≤ 0 := f12
  obtain ⟨f13, hf⟩ := fc_un (show (20 : Nat) < 100 from by decide) hf
  have f13 : (v_iv (n_v vs 1) + 1) ≤ w_ei ws (w_ar ws (n_v vs 0) 2) ((w_fi ws (n_v vs 0) 5 + 2)) := f13
  obtain ⟨f14, hf⟩ := fc_un (show (20 : Nat) < 100 from by decide) hf
  have f14 : 1 * w_fi ws (n_v vs 0) 15 + ((-1) * w_fi ws (n_v vs 0) 11 + 0) ≤ 0 := f14
  obtain ⟨f15, hf⟩ := fc_un (show (20 : Nat) < 100 from by decide) hf
  have f15 : ((w_fi ws (n_v vs 0) 12 = 1) → (w_fi ws (n_v vs 0) 11 ≤ (w_fi ws (n_v vs 0) 15 + 8))) ∧ ((w_fi ws (n_v vs 0) 12 = 0) ∨ ((w_fi ws (n_v vs 0) 15 + 1) ≤ w_fi ws (n_v vs 0) 11)) := f15
  obtain ⟨f16, hf⟩ := fc_un (show (20 : Nat) < 100 from by decide) hf
  have f16 : 1 * v_iv (n_v vs 13) + ((-1) * w_fi ws (n_v vs 0) 11 + 0) ≤ 0 := f16
  obtain ⟨f17, hf⟩ := fc_un (show (20 : Nat) < 100 from by decide) hf
  have f17 : (1 ≤ w_fi ws (n_v vs 0) 8) ∨ ((w_fi ws (n_v vs 0) 12 = 0) ∨ ((v_iv (n_v vs 13) + 1) ≤ w_fi ws (n_v vs 0) 11)) := f17
  obtain ⟨f18, hf⟩ := fc_un (show (20 : Nat) < 100 from by decide) hf
  have f18 : (1 ≤ w_fi ws (n_v vs 0) 8) ∨ (0 ≤ v_iv (n_v vs 14)) := f18
  obtain ⟨f19, hf⟩ := fc_un (show (20 : Nat) < 100 from by decide) hf
  have f19 : 1 * v_iv (n_v vs 15) + ((-1) * v_iv (n_v vs 12) + 0) ≤ 0 := f19
  obtain ⟨f20, hf⟩ := fc_un (show (20 : Nat) < 100 from by decide) hf
  have f20 : (-1) * v_iv (n_v vs 15) + 0 ≤ 0 := f20
  obtain ⟨ta1, w1, le1, ⟨_, s1⟩, hf⟩ := fc_us (show ¬ (102 : Nat) < 100 from by decide) hf
  obtain ⟨f22, hf⟩ := fc_un (show (23 : Nat) < 100 from by decide) hf
  have f22 : 1 * v_iv (n_v vs 13) + ((-1) * v_iv (n_v vs 3) + 0) ≤ 0 := f22
  obtain ⟨f23, hf⟩ := fc_un (show (23 : Nat) < 100 from by decide) hf
  have f23 : (-1) * v_iv (n_v vs 13) + (1 * v_iv (n_v vs 3) + 0) ≤ 0 := f23
  obtain ⟨f24, hf⟩ := fc_un (show (23 : Nat) < 100 from by decide) hf
  have f24 : 1 * v_iv (n_v vs 14) + ((-1) * v_iv (n_v vs 10) + 0) ≤ 0 := f24
  obtain ⟨f25, hf⟩ := fc_un (show (23 : Nat) < 100 from by decide) hf
  have f25 : (-1) * v_iv (n_v vs 14) + (1 * v_iv (n_v vs 10) + 0) ≤ 0 := f25
  obtain ⟨f26, hf⟩ := fc_un (show (23 : Nat) < 100 from by decide) hf
  have f26 : 1 * v_iv (n_v vs 8) + ((-1) * v_iv (n_v vs 3) + 0) ≤ 0 := f26
  obtain ⟨f27, hf⟩ := fc_un (show (23 : Nat) < 100 from by decide) hf
  have f27 : (-1) * v_iv (n_v vs 8) + (1 * v_iv (n_v vs 3) + 0) ≤ 0 := f27
  obtain ⟨f28, hf⟩ := fc_un (show (23 : Nat) < 100 from by decide) hf
  have f28 : 1 * v_iv (n_v vs 6) + ((-1) * v_iv (n_v vs 3) + 0) ≤ 0 := f28
  obtain ⟨f29, hf⟩ := fc_un (show (23 : Nat) < 100 from by decide) hf
  have f29 : (-1) * v_iv (n_v vs 6) + (1 * v_iv (n_v vs 3) + 0) ≤ 0 := f29
  obtain ⟨ta2, w2, le2, ⟨_, s2⟩, hf⟩ := fc_us (show ¬ (102 : Nat) < 100 from by decide) hf
  obtain ⟨f31, hf⟩ := fc_un (show (23 : Nat) < 100 from by decide) hf
  have f31 : 1 * v_iv (n_v vs 8) + ((-1) * v_iv (n_v vs 3) + 0) ≤ 0 := f31
  obtain ⟨f32, hf⟩ := fc_un (show (23 : Nat) < 100 from by decide) hf
  have f32 : (-1) * v_iv (n_v vs 8) + (1 * v_iv (n_v vs 3) + 0) ≤ 0 := f32
  obtain ⟨f33, hf⟩ := fc_un (show (23 : Nat) < 100 from by decide) hf
  have f33 : 1 * v_iv (n_v vs 6) + ((-1) * v_iv (n_v vs 3) + 0) ≤ 0 := f33
  obtain ⟨f34, hf⟩ := fc_un (show (23 : Nat) < 100 from by decide) hf
  have f34 : (-1) * v_iv (n_v vs 6) + (1 * v_iv (n_v vs 3) + 0) ≤ 0 := f34
  obtain ⟨ta3, w3, le3, ⟨_, s3⟩, hf⟩ := fc_us (show ¬ (102 : Nat) < 100 from by decide) hf
  obtain ⟨f36, hf⟩ := fc_un (show (23 : Nat) < 100 from by decide) hf
  have f36 : 1 * v_iv (n_v vs 6) + ((-1) * v_iv (n_v vs 3) + 0) ≤ 0 := f36
  obtain ⟨f37, hf⟩ := fc_un (show (23 : Nat) < 100 from by decide) hf
  have f37 : (-1) * v_iv (n_v vs 6) + (1 * v_iv (n_v vs 3) + 0) ≤ 0 := f37
  have cr_0_2 : ta (w_ar ws (n_v vs 0) 2) = some 152 := tv_rg (th_fd hD hth r0 (g := GG_150) rfl (k := 2) (t := (2, 0, 0, [152])) rfl rfl)
  have ad_17 : v_ad (n_v vs 17) = w_ar ws (n_v vs 0) 2 := congrArg v_ad f1
  have g0 : v_iv (n_v vs 18) = w_fi ws (n_v vs 0) 5 := congrArg v_iv f0
  have g4 : v_iv (n_v vs 16) = w_fi ws (n_v vs 0) 8 := congrArg v_iv f4
  have kz_0_8 : 0 ≤ w_fi ws (n_v vs 0) 8 ∧ w_fi ws (n_v vs 0) 8 ≤ 5 := tv_rng (th_fd hD hth r0 (g := GG_150) rfl (k := 8) (t := (0, 0, 5, [])) rfl rfl)
  have kz_0_11 : 0 ≤ w_fi ws (n_v vs 0) 11 ∧ w_fi ws (n_v vs 0) 11 ≤ 2000 := tv_rng (th_fd hD hth r0 (g := GG_150) rfl (k := 11) (t := (0, 0, 2000, [])) rfl rfl)
  have kz_0_12 : 0 ≤ w_fi ws (n_v vs 0) 12 ∧ w_fi ws (n_v vs 0) 12 ≤ 4 := tv_rng (th_fd hD hth r0 (g := GG_150) rfl (k := 12) (t := (0, 0, 4, [])) rfl rfl)
  have kz_0_15 : 0 ≤ w_fi ws (n_v vs 0) 15 ∧ w_fi ws (n_v vs 0) 15 ≤ 2000 := tv_rng (th_fd hD hth r0 (g := GG_150) rfl (k := 15) (t := (0, 0, 2000, [])) rfl rfl)
  have rf15 : tv_ok ta (0, 1, 99, []) (n_v vs 15) := tv_in t15 (by first | omega | grind) (by first | omega | grind)
  refine ⟨List.forall_mem_cons.mpr ⟨rf15, (fun _ h => (by cases h))⟩, [], trivial, ?_, (fun _ h => (by cases h))⟩
  rw [List.append_nil]
  exact (fun _ h => (by cases h))
def o_Mo_item_at_k1_12 : or_T := (64, 23, [(0, (2, 0, 0, [150])), (1, (0, 0, 7, [])), (3, (0, 0, 2000, [])), (6, (0, 0, 2000, [])), (8, (0, 0, 2000, [])), (10, (0, 0, 23, [])), (12, (0, 99, 99, [])), (13, (0, 0, 2000, [])), (14, (0, -1, 48, [])), (15, (0, 1, 99, [])), (16, (0, 0, 0, [])), (17, (2, 0, 0, [152])), (18, (0, 0, 66297, [])), (19, (0, 219, 219, [])), (20, (0, 219, 66516, [])), (21, (0, 219, 66539, []))], [(23, [13, 3], [0, 1, -1]), (23, [13, 3], [0, -1, 1]), (23, [14, 10], [0, 1, -1]), (23, [14, 10], [0, -1, 1]), (23, [8, 3], [0, 1, -1]), (23, [8, 3], [0, -1, 1]), (23, [6, 3], [0, 1, -1]), (23, [6, 3], [0, -1, 1]), (20, [0, 0], [30, 0, 1, 1, 15, -1, 1, 11]), (20, [0], [50, 3, 0, 12, 11, 15, 2, 21, 4, 7, 1, 3, 2, 0, 12, 0, 1, 0, 3, 2, 0, 11, 4, 3, 2, 0, 15, 0, 8, 3, 7, 1, 3, 2, 0, 12, 0, 0, 0, 7, 4, 3, 2, 0, 15, 0, 1, 2, 0, 11]), (20, [13, 0], [30, 0, 1, 0, 0, -1, 1, 11]), (20, [0, 13], [50, 3, 0, 8, 12, 11, 3, 7, 0, 2, 0, 1, 2, 0, 8, 3, 7, 1, 3, 2, 0, 12, 0, 0, 0, 6, 4, 2, 1, 1, 0, 1, 2, 0, 11]), (20, [0, 14], [50, 1, 0, 8, 3, 7, 0, 2, 0, 1, 2, 0, 8, 0, 2, 0, 0, 1, 1]), (20, [15, 12], [30, 0, 1, 0, 0, -1, 0, 0]), (20, [15], [30, 0, -1, 0, 0]), (100, [17, 21, 15], []), (1, [21, 20, 10], []), (1, [20, 18, 19], []), (9, [18, 0], [5]), (9, [17, 0], [2]), (8, [15], [4]), (8, [16], [0]), (9, [16, 0], [8]), (23, [13, 3], [0, 1, -1]), (23, [13, 3], [0, -1, 1]), (23, [14, 10], [0, 1, -1]), (23, [14, 10], [0, -1, 1]), (23, [8, 3], [0, 1, -1]), (23, [8, 3], [0, -1, 1]), (23, [6, 3], [0, 1, -1]), (23, [6, 3], [0, -1, 1]), (20, [1, 0], [50, 1, 1, 1005, 1002, 0, 6, 4, 2, 1, 0, 0, 1, 3, 1, 2, 4, 3, 2, 1, 5, 0, 2]), (20, [0, 0], [30, 0, 1, 1, 15, -1, 1, 11]), (20, [0], [50, 3, 0, 12, 11, 15, 2, 21, 4, 7, 1, 3, 2, 0, 12, 0, 1, 0, 3, 2, 0, 11, 4, 3, 2, 0, 15, 0, 8, 3, 7, 1, 3, 2, 0, 12, 0, 0, 0, 7, 4, 3, 2, 0, 15, 0, 1, 2, 0, 11]), (20, [13, 0], [30, 0, 1, 0, 0, -1, 1, 11]), (20, [0, 13], [50, 3, 0, 8, 12, 11, 3, 7, 0, 2, 0, 1, 2, 0, 8, 3, 7, 1, 3, 2, 0, 12, 0, 0, 0, 6, 4, 2, 1, 1, 0, 1, 2, 0, 11]), (20, [0, 14], [50, 1, 0, 8, 3, 7, 0, 2, 0, 1, 2, 0, 8, 0, 2, 0, 0, 1, 1]), (20, [15, 12], [30, 0, 1, 0, 0, -1, 0, 0]), (20, [15], [30, 0, -1, 0, 0]), (102, [14], [0, 13008, 13009, 13011, 13012, 13013, 13014, 13015]), (23, [13, 3], [0, 1, -1]), (23, [13, 3], [0, -1, 1]), (23, [14, 10], [0, 1, -1]), (23, [14, 10], [0, -1, 1]), (23, [8, 3], [0, 1, -1]), (23, [8, 3], [0, -1, 1]), (23, [6, 3], [0, 1, -1]), (23, [6, 3], [0, -1, 1]), (102, [9], [5708990770823839524233143877797980545530986496, 13008, 13009, 13011, 13012, 13013, 13014, 13015]), (23, [8, 3], [0, 1, -1]), (23, [8, 3], [0, -1, 1]), (23, [6, 3], [0, 1, -1]), (23, [6, 3], [0, -1, 1]), (102, [6], [0, 13011, 13012, 13013, 13014, 13015]), (23, [6, 3], [0, 1, -1]), (23, [6, 3], [0, -1, 1])], [], [(0, 0, 2000, [])], [(20, [1, 0], [50, 1, 1, 1005, 1002, 0, 6, 4, 2, 1, 0, 0, 1, 3, 1, 2, 4, 3, 2, 1, 5, 0, 2]), (23, [23, 3], [0, 1, -1]), (23, [23, 3], [0, -1, 1]), (20, [0, 0], [30, 0, 1, 1, 15, -1, 1, 11]), (20, [0], [50, 3, 0, 12, 11, 15, 2, 21, 4, 7, 1, 3, 2, 0, 12, 0, 1, 0, 3, 2, 0, 11, 4, 3, 2, 0, 15, 0, 8, 3, 7, 1, 3, 2, 0, 12, 0, 0, 0, 7, 4, 3, 2, 0, 15, 0, 1, 2, 0, 11]), (20, [23, 0], [30, 0, 1, 0, 0, -1, 1, 11]), (20, [0, 23], [50, 3, 0, 8, 12, 11, 3, 7, 0, 2, 0, 1, 2, 0, 8, 3, 7, 1, 3, 2, 0, 12, 0, 0, 0, 6, 4, 2, 1, 1, 0, 1, 2, 0, 11])], [], [(21, 10, 219, 66516), (21, 20, 0, 23), (21, 18, 219, 242), (20, 18, 219, 219)])
theorem oo_Mo_item_at_k1_12 {kA : Nat → ClassId} : or_ok kA GG o_Mo_item_at_k1_12 := by
  intro A ta ws vs hD hth hl hk hds hf
  have hl : vs.length = 23 := hl
  have hk : ∀ q ∈ ([(0, (2, 0, 0, [150])), (1, (0, 0, 7, [])), (3, (0, 0, 2000, [])), (6, (0, 0, 2000, [])), (8, (0, 0, 2000, [])), (10, (0, 0, 23, [])), (12, (0, 99, 99, [])), (13, (0, 0, 2000, [])), (14, (0, -1, 48, [])), (15, (0, 1, 99, [])), (16, (0, 0, 0, [])), (17, (2, 0, 0, [152])), (18, (0, 0, 66297, [])), (19, (0, 219, 219, [])), (20, (0, 219, 66516, [])), (21, (0, 219, 66539, []))] : List (Nat × tv_T)), tv_ok ta q.2 (n_v vs q.1) := hk
  obtain ⟨t0, hk⟩ := List.forall_mem_cons.mp hk
  have t0 : tv_ok ta (2, 0, 0, [150]) (n_v vs 0) := t0
  have r0 : ta (v_ad (n_v vs 0)) = some 150 := tv_rg t0
  obtain ⟨t1, hk⟩ := List.forall_mem_cons.mp hk
  have t1 : tv_ok ta (0, 0, 7, []) (n_v vs 1) := t1
  have k1 : 0 ≤ v_iv (n_v vs 1) ∧ v_iv (n_v vs 1) ≤ 7 := tv_rng t1
  obtain ⟨t3, hk⟩ := List.forall_mem_cons.mp hk
  have t3 : tv_ok ta (0, 0, 2000, []) (n_v vs 3) := t3
  have k3 : 0 ≤ v_iv (n_v vs 3) ∧ v_iv (n_v vs 3) ≤ 2000 := tv_rng t3
  obtain ⟨t6, hk⟩ := List.forall_mem_cons.mp hk
  have t6 : tv_ok ta (0, 0, 2000, []) (n_v vs 6) := t6
  have k6 : 0 ≤ v_iv (n_v vs 6) ∧ v_iv (n_v vs 6) ≤ 2000 := tv_rng t6
  obtain ⟨t8, hk⟩ := List.forall_mem_cons.mp hk
  have t8 : tv_ok ta (0, 0, 2000, []) (n_v vs 8) := t8
  have k8 : 0 ≤ v_iv (n_v vs 8) ∧ v_iv (n_v vs 8) ≤ 2000 := tv_rng t8
  obtain ⟨t10, hk⟩ := List.forall_mem_cons.mp hk
  have t10 : tv_ok ta (0, 0, 23, []) (n_v vs 10) := t10
  have k10 : 0 ≤ v_iv (n_v vs 10) ∧ v_iv (n_v vs 10) ≤ 23 := tv_rng t10
  obtain ⟨t12, hk⟩ := List.forall_mem_cons.mp hk
  have t12 : tv_ok ta (0, 99, 99, []) (n_v vs 12) := t12
  have k12 : 99 ≤ v_iv (n_v vs 12) ∧ v_iv (n_v vs 12) ≤ 99 := tv_rng t12
  obtain ⟨t13, hk⟩ := List.forall_mem_cons.mp hk
  have t13 : tv_ok ta (0, 0, 2000, []) (n_v vs 13) := t13
  have k13 : 0 ≤ v_iv (n_v vs 13) ∧ v_iv (n_v vs 13) ≤ 2000 := tv_rng t13
  obtain ⟨t14, hk⟩ := List.forall_mem_cons.mp hk
  have t14 : tv_ok ta (0, -1, 48, []) (n_v vs 14) := t14
  have k14 : (-1) ≤ v_iv (n_v vs 14) ∧ v_iv (n_v vs 14) ≤ 48 := tv_rng t14
  obtain ⟨t15, hk⟩ := List.forall_mem_cons.mp hk
  have t15 : tv_ok ta (0, 1, 99, []) (n_v vs 15) := t15
  have k15 : 1 ≤ v_iv (n_v vs 15) ∧ v_iv (n_v vs 15) ≤ 99 := tv_rng t15
  obtain ⟨t16, hk⟩ := List.forall_mem_cons.mp hk
  have t16 : tv_ok ta (0, 0, 0, []) (n_v vs 16) := t16
  have k16 : 0 ≤ v_iv (n_v vs 16) ∧ v_iv (n_v vs 16) ≤ 0 := tv_rng t16
  obtain ⟨t17, hk⟩ := List.forall_mem_cons.mp hk
  have t17 : tv_ok ta (2, 0, 0, [152]) (n_v vs 17) := t17
  have r17 : ta (v_ad (n_v vs 17)) = some 152 := tv_rg t17
  obtain ⟨t18, hk⟩ := List.forall_mem_cons.mp hk
  have t18 : tv_ok ta (0, 0, 66297, []) (n_v vs 18) := t18
  have k18 : 0 ≤ v_iv (n_v vs 18) ∧ v_iv (n_v vs 18) ≤ 66297 := tv_rng t18
  obtain ⟨t19, hk⟩ := List.forall_mem_cons.mp hk
  have t19 : tv_ok ta (0, 219, 219, []) (n_v vs 19) := t19
  have k19 : 219 ≤ v_iv (n_v vs 19) ∧ v_iv (n_v vs 19) ≤ 219 := tv_rng t19
  obtain ⟨t20, hk⟩ := List.forall_mem_cons.mp hk
  have t20 : tv_ok ta (0, 219, 66516, []) (n_v vs 20) := t20
  have k20 : 219 ≤ v_iv (n_v vs 20) ∧ v_iv (n_v vs 20) ≤ 66516 := tv_rng t20
  obtain ⟨t21, hk⟩ := List.forall_mem_cons.mp hk
  have t21 : tv_ok ta (0, 219, 66539, []) (n_v vs 21) := t21
  have k21 : 219 ≤ v_iv (n_v vs 21) ∧ v_iv (n_v vs 21) ≤ 66539 := tv_rng t21
  have hds : ∀ q ∈ ([(21, 10, 219, 66516), (21, 20, 0, 23), (21, 18, 219, 242), (20, 18, 219, 219)] : List of_T), n_iv vs q.2.1 + q.2.2.1 ≤ n_iv vs q.1 ∧ n_iv vs q.1 ≤ n_iv vs q.2.1 + q.2.2.2 := hds
  obtain ⟨d0, hds⟩ := List.forall_mem_cons.mp hds
  have d0 : v_iv (n_v vs 10) + 219 ≤ v_iv (n_v vs 21) ∧ v_iv (n_v vs 21) ≤ v_iv (n_v vs 10) + 66516 := d0
  obtain ⟨d1, hds⟩ := List.forall_mem_cons.mp hds
  have d1 : v_iv (n_v vs 20) + 0 ≤ v_iv (n_v vs 21) ∧ v_iv (n_v vs 21) ≤ v_iv (n_v vs 20) + 23 := d1
  obtain ⟨d2, hds⟩ := List.forall_mem_cons.mp hds
  have d2 : v_iv (n_v vs 18) + 219 ≤ v_iv (n_v vs 21) ∧ v_iv (n_v vs 21) ≤ v_iv (n_v vs 18) + 242 := d2
  obtain ⟨d3, hds⟩ := List.forall_mem_cons.mp hds
  have d3 : v_iv (n_v vs 18) + 219 ≤ v_iv (n_v vs 20) ∧ v_iv (n_v vs 20) ≤ v_iv (n_v vs 18) + 219 := d3
  have hf : fc_ok [(23, [13, 3], [0, 1, -1]), (23, [13, 3], [0, -1, 1]), (23, [14, 10], [0, 1, -1]), (23, [14, 10], [0, -1, 1]), (23, [8, 3], [0, 1, -1]), (23, [8, 3], [0, -1, 1]), (23, [6, 3], [0, 1, -1]), (23, [6, 3], [0, -1, 1]), (20, [0, 0], [30, 0, 1, 1, 15, -1, 1, 11]), (20, [0], [50, 3, 0, 12, 11, 15, 2, 21, 4, 7, 1, 3, 2, 0, 12, 0, 1, 0, 3, 2, 0, 11, 4, 3, 2, 0, 15, 0, 8, 3, 7, 1, 3, 2, 0, 12, 0, 0, 0, 7, 4, 3, 2, 0, 15, 0, 1, 2, 0, 11]), (20, [13, 0], [30, 0, 1, 0, 0, -1, 1, 11]), (20, [0, 13], [50, 3, 0, 8, 12, 11, 3, 7, 0, 2, 0, 1, 2, 0, 8, 3, 7, 1, 3, 2, 0, 12, 0, 0, 0, 6, 4, 2, 1, 1, 0, 1, 2, 0, 11]), (20, [0, 14], [50, 1, 0, 8, 3, 7, 0, 2, 0, 1, 2, 0, 8, 0, 2, 0, 0, 1, 1]), (20, [15, 12], [30, 0, 1, 0, 0, -1, 0, 0]), (20, [15], [30, 0, -1, 0, 0]), (100, [17, 21, 15], []), (1, [21, 20, 10], []), (1, [20, 18, 19], []), (9, [18, 0], [5]), (9, [17, 0], [2]), (8, [15], [4]), (8, [16], [0]), (9, [16, 0], [8]), (23, [13, 3], [0, 1, -1]), (23, [13, 3], [0, -1, 1]), (23, [14, 10], [0, 1, -1]), (23, [14, 10], [0, -1, 1]), (23, [8, 3], [0, 1, -1]), (23, [8, 3], [0, -1, 1]), (23, [6, 3], [0, 1, -1]), (23, [6, 3], [0, -1, 1]), (20, [1, 0], [50, 1, 1, 1005, 1002, 0, 6, 4, 2, 1, 0, 0, 1, 3, 1, 2, 4, 3, 2, 1, 5, 0, 2]), (20, [0, 0], [30, 0, 1, 1, 15, -1, 1, 11]), (20, [0], [50, 3, 0, 12, 11, 15, 2, 21, 4, 7, 1, 3, 2, 0, 12, 0, 1, 0, 3, 2, 0, 11, 4, 3, 2, 0, 15, 0, 8, 3, 7, 1, 3, 2, 0, 12, 0, 0, 0, 7, 4, 3, 2, 0, 15, 0, 1, 2, 0, 11]), (20, [13, 0], [30, 0, 1, 0, 0, -1, 1, 11]), (20, [0, 13], [50, 3, 0, 8, 12, 11, 3, 7, 0, 2, 0, 1, 2, 0, 8, 3, 7, 1, 3, 2, 0, 12, 0, 0, 0, 6, 4, 2, 1, 1, 0, 1, 2, 0, 11]), (20, [0, 14], [50, 1, 0, 8, 3, 7, 0, 2, 0, 1, 2, 0, 8, 0, 2, 0, 0, 1, 1]), (20, [15, 12], [30, 0, 1, 0, 0, -1, 0, 0]), (20, [15], [30, 0, -1, 0, 0]), (102, [14], [0, 13008, 13009, 13011, 13012, 13013, 13014, 13015]), (23, [13, 3], [0, 1, -1]), (23, [13, 3], [0, -1, 1]), (23, [14, 10], [0, 1, -1]), (23, [14, 10], [0, -1, 1]), (23, [8, 3], [0, 1, -1]), (23, [8, 3], [0, -1, 1]), (23, [6, 3], [0, 1, -1]), (23, [6, 3], [0, -1, 1]), (102, [9], [5708990770823839524233143877797980545530986496, 13008, 13009, 13011, 13012, 13013, 13014, 13015]), (23, [8, 3], [0, 1, -1]), (23, [8, 3], [0, -1, 1]), (23, [6, 3], [0, 1, -1]), (23, [6, 3], [0, -1, 1]), (102, [6], [0, 13011, 13012, 13013, 13014, 13015]), (23, [6, 3], [0, 1, -1]), (23, [6, 3], [0, -1, 1])] ta ws vs := hf
  obtain ⟨f0, hf⟩ := fc_un (show (23 : Nat) < 100 from by decide) hf
  have f0 : 1 * v_iv (n_v vs 13) + ((-1) * v_iv (n_v vs 3) + 0) ≤ 0 := f0
  obtain ⟨f1, hf⟩ := fc_un (show (23 : Nat) < 100 from by decide) hf
  have f1 : (-1) * v_iv (n_v vs 13) + (1 * v_iv (n_v vs 3) + 0) ≤ 0 := f1
  obtain ⟨f2, hf⟩ := fc_un (show (23 : Nat) < 100 from by decide) hf
  have f2 : 1 * v_iv (n_v vs 14) + ((-1) * v_iv (n_v vs 10) + 0) ≤ 0 := f2
  obtain ⟨f3, hf⟩ := fc_un (show (23 : Nat) < 100 from by decide) hf
  have f3 : (-1) * v_iv (n_v vs 14) + (1 * v_iv (n_v vs 10) + 0) ≤ 0 := f3
  obtain ⟨f4, hf⟩ := fc_un (show (23 : Nat) < 100 from by decide) hf
  have f4 : 1 * v_iv (n_v vs 8) + ((-1) * v_iv (n_v vs 3) + 0) ≤ 0 := f4
  obtain ⟨f5, hf⟩ := fc_un (show (23 : Nat) < 100 from by decide) hf
  have f5 : (-1) * v_iv (n_v vs 8) + (1 * v_iv (n_v vs 3) + 0) ≤ 0 := f5
  obtain ⟨f6, hf⟩ := fc_un (show (23 : Nat) < 100 from by decide) hf
  have f6 : 1 * v_iv (n_v vs 6) + ((-1) * v_iv (n_v vs 3) + 0) ≤ 0 := f6
  obtain ⟨f7, hf⟩ := fc_un (show (23 : Nat) < 100 from by decide) hf
  have f7 : (-1) * v_iv (n_v vs 6) + (1 * v_iv (n_v vs 3) + 0) ≤ 0 := f7
  obtain ⟨f8, hf⟩ := fc_un (show (20 : Nat) < 100 from by decide) hf
  have f8 : 1 * w_fi ws (n_v vs 0) 15 + ((-1) * w_fi ws (n_v vs 0) 11 + 0) ≤ 0 := f8
  obtain ⟨f9, hf⟩ := fc_un (show (20 : Nat) < 100 from by decide) hf
  have f9 : ((w_fi ws (n_v vs 0) 12 = 1) → (w_fi ws (n_v vs 0) 11 ≤ (w_fi ws (n_v vs 0) 15 + 8))) ∧ ((w_fi ws (n_v vs 0) 12 = 0) ∨ ((w_fi ws (n_v vs 0) 15 + 1) ≤ w_fi ws (n_v vs 0) 11)) := f9
  obtain ⟨f10, hf⟩ := fc_un (show (20 : Nat) < 100 from by decide) hf
  have f10 : 1 * v_iv (n_v vs 13) + ((-1) * w_fi ws (n_v vs 0) 11 + 0) ≤ 0 := f10
  obtain ⟨f11, hf⟩ := fc_un (show (20 : Nat) < 100 from by decide) hf
  have f11 : (1 ≤ w_fi ws (n_v vs 0) 8) ∨ ((w_fi ws (n_v vs 0) 12 = 0) ∨ ((v_iv (n_v vs 13) + 1) ≤ w_fi ws (n_v vs 0) 11)) := f11
  obtain ⟨f12, hf⟩ := fc_un (show (20 : Nat) < 100 from by decide) hf
  have f12 : (1 ≤ w_fi ws (n_v vs 0) 8) ∨ (0 ≤ v_iv (n_v vs 14)) := f12
  obtain ⟨f13, hf⟩ := fc_un (show (20 : Nat) < 100 from by decide) hf
  have f13 : 1 * v_iv (n_v vs 15) + ((-1) * v_iv (n_v vs 12) + 0) ≤ 0 := f13
  obtain ⟨f14, hf⟩ := fc_un (show (20 : Nat) < 100 from by decide) hf
  have f14 : (-1) * v_iv (n_v vs 15) + 0 ≤ 0 := f14
  obtain ⟨ta1, w1, le1, ⟨_, s1⟩, hf⟩ := fc_us (show ¬ (100 : Nat) < 100 from by decide) hf
  have s1 : (∀ b j, w_el ws b j = if b = v_ad (n_v vs 17) ∧ j = (v_iv (n_v vs 21)).toNat then v_iv (n_v vs 15) else w_el w1 b j) ∧ ∀ b k, w_fd ws b k = w_fd w1 b k := s1
  obtain ⟨f16, hf⟩ := fc_un (show (1 : Nat) < 100 from by decide) hf
  have f16 : v_iv (n_v vs 21) = v_iv (n_v vs 20) + v_iv (n_v vs 10) := f16
  obtain ⟨f17, hf⟩ := fc_un (show (1 : Nat) < 100 from by decide) hf
  have f17 : v_iv (n_v vs 20) = v_iv (n_v vs 18) + v_iv (n_v vs 19) := f17
  obtain ⟨f18, hf⟩ := fc_un (show (9 : Nat) < 100 from by decide) hf
  have f18 : n_v vs 18 = w_fd w1 (v_ad (n_v vs 0)) 5 := f18
  obtain ⟨f19, hf⟩ := fc_un (show (9 : Nat) < 100 from by decide) hf
  have f19 : n_v vs 17 = w_fd w1 (v_ad (n_v vs 0)) 2 := f19
  obtain ⟨f20, hf⟩ := fc_un (show (8 : Nat) < 100 from by decide) hf
  have f20 : 0 < v_iv (n_v vs 15) := f20
  obtain ⟨f21, hf⟩ := fc_un (show (8 : Nat) < 100 from by decide) hf
  have f21 : v_iv (n_v vs 16) = 0 := f21
  obtain ⟨f22, hf⟩ := fc_un (show (9 : Nat) < 100 from by decide) hf
  have f22 : n_v vs 16 = w_fd w1 (v_ad (n_v vs 0)) 8 := f22
  obtain ⟨f23, hf⟩ := fc_un (show (23 : Nat) < 100 from by decide) hf
  have f23 : 1 * v_iv (n_v vs 13) + ((-1) * v_iv (n_v vs 3) + 0) ≤ 0 := f23
  obtain ⟨f24, hf⟩ := fc_un (show (23 : Nat) < 100 from by decide) hf
  have f24 : (-1) * v_iv (n_v vs 13) + (1 * v_iv (n_v vs 3) + 0) ≤ 0 := f24
  obtain ⟨f25, hf⟩ := fc_un (show (23 : Nat) < 100 from by decide) hf
  have f25 : 1 * v_iv (n_v vs 14) + ((-1) * v_iv (n_v vs 10) + 0) ≤ 0 := f25
  obtain ⟨f26, hf⟩ := fc_un (show (23 : Nat) < 100 from by decide) hf
  have f26 : (-1) * v_iv (n_v vs 14) + (1 * v_iv (n_v vs 10) + 0) ≤ 0 := f26
  obtain ⟨f27, hf⟩ := fc_un (show (23 : Nat) < 100 from by decide) hf
  have f27 : 1 * v_iv (n_v vs 8) + ((-1) * v_iv (n_v vs 3) + 0) ≤ 0 := f27
  obtain ⟨f28, hf⟩ := fc_un (show (23 : Nat) < 100 from by decide) hf
  have f28 : (-1) * v_iv (n_v vs 8) + (1 * v_iv (n_v vs 3) + 0) ≤ 0 := f28
  obtain ⟨f29, hf⟩ := fc_un (show (23 : Nat) < 100 from by decide) hf
  have f29 : 1 * v_iv (n_v vs 6) + ((-1) * v_iv (n_v vs 3) + 0) ≤ 0 := f29
  obtain ⟨f30, hf⟩ := fc_un (show (23 : Nat) < 100 from by decide) hf
  have f30 : (-1) * v_iv (n_v vs 6) + (1 * v_iv (n_v vs 3) + 0) ≤ 0 := f30
  obtain ⟨f31, hf⟩ := fc_un (show (20 : Nat) < 100 from by decide) hf
  have f31 : (v_iv (n_v vs 1) + 1) ≤ w_ei w1 (w_ar w1 (n_v vs 0) 2) ((w_fi w1 (n_v vs 0) 5 + 2)) := f31
  obtain ⟨f32, hf⟩ := fc_un (show (20 : Nat) < 100 from by decide) hf
  have f32 : 1 * w_fi w1 (n_v vs 0) 15 + ((-1) * w_fi w1 (n_v vs 0) 11 + 0) ≤ 0 := f32
  obtain ⟨f33, hf⟩ := fc_un (show (20 : Nat) < 100 from by decide) hf
  have f33 : ((w_fi w1 (n_v vs 0) 12 = 1) → (w_fi w1 (n_v vs 0) 11 ≤ (w_fi w1 (n_v vs 0) 15 + 8))) ∧ ((w_fi w1 (n_v vs 0) 12 = 0) ∨ ((w_fi w1 (n_v vs 0) 15 + 1) ≤ w_fi w1 (n_v vs 0) 11)) := f33
  obtain ⟨f34, hf⟩ := fc_un (show (20 : Nat) < 100 from by decide) hf
  have f34 : 1 * v_iv (n_v vs 13) + ((-1) * w_fi w1 (n_v vs 0) 11 + 0) ≤ 0 := f34
  obtain ⟨f35, hf⟩ := fc_un (show (20 : Nat) < 100 from by decide) hf
  have f35 : (1 ≤ w_fi w1 (n_v vs 0) 8) ∨ ((w_fi w1 (n_v vs 0) 12 = 0) ∨ ((v_iv (n_v vs 13) + 1) ≤ w_fi w1 (n_v vs 0) 11)) := f35
  obtain ⟨f36, hf⟩ := fc_un (show (20 : Nat) < 100 from by decide) hf
  have f36 : (1 ≤ w_fi w1 (n_v vs 0) 8) ∨ (0 ≤ v_iv (n_v vs 14)) := f36
  obtain ⟨f37, hf⟩ := fc_un (show (20 : Nat) < 100 from by decide) hf
  have f37 : 1 * v_iv (n_v vs 15) + ((-1) * v_iv (n_v vs 12) + 0) ≤ 0 := f37
  obtain ⟨f38, hf⟩ := fc_un (show (20 : Nat) < 100 from by decide) hf
  have f38 : (-1) * v_iv (n_v vs 15) + 0 ≤ 0 := f38
  obtain ⟨ta2, w2, le2, ⟨_, s2⟩, hf⟩ := fc_us (show ¬ (102 : Nat) < 100 from by decide) hf
  obtain ⟨f40, hf⟩ := fc_un (show (23 : Nat) < 100 from by decide) hf
  have f40 : 1 * v_iv (n_v vs 13) + ((-1) * v_iv (n_v vs 3) + 0) ≤ 0 := f40
  obtain ⟨f41, hf⟩ := fc_un (show (23 : Nat) < 100 from by decide) hf
  have f41 : (-1) * v_iv (n_v vs 13) + (1 * v_iv (n_v vs 3) + 0) ≤ 0 := f41
  obtain ⟨f42, hf⟩ := fc_un (show (23 : Nat) < 100 from by decide) hf
  have f42 : 1 * v_iv (n_v vs 14) + ((-1) * v_iv (n_v vs 10) + 0) ≤ 0 := f42
  obtain ⟨f43, hf⟩ := fc_un (show (23 : Nat) < 100 from by decide) hf
  have f43 : (-1) * v_iv (n_v vs 14) + (1 * v_iv (n_v vs 10) + 0) ≤ 0 := f43
  obtain ⟨f44, hf⟩ := fc_un (show (23 : Nat) < 100 from by decide) hf
  have f44 : 1 * v_iv (n_v vs 8) + ((-1) * v_iv (n_v vs 3) + 0) ≤ 0 := f44
  obtain ⟨f45, hf⟩ := fc_un (show (23 : Nat) < 100 from by decide) hf
  have f45 : (-1) * v_iv (n_v vs 8) + (1 * v_iv (n_v vs 3) + 0) ≤ 0 := f45
  obtain ⟨f46, hf⟩ := fc_un (show (23 : Nat) < 100 from by decide) hf
  have f46 : 1 * v_iv (n_v vs 6) + ((-1) * v_iv (n_v vs 3) + 0) ≤ 0 := f46
  obtain ⟨f47, hf⟩ := fc_un (show (23 : Nat) < 100 from by decide) hf
  have f47 : (-1) * v_iv (n_v vs 6) + (1 * v_iv (n_v vs 3) + 0) ≤ 0 := f47
  obtain ⟨ta3, w3, le3, ⟨_, s3⟩, hf⟩ := fc_us (show ¬ (102 : Nat) < 100 from by decide) hf
  obtain ⟨f49, hf⟩ := fc_un (show (23 : Nat) < 100 from by decide) hf
  have f49 : 1 * v_iv (n_v vs 8) + ((-1) * v_iv (n_v vs 3) + 0) ≤ 0 := f49
  obtain ⟨f50, hf⟩ := fc_un (show (23 : Nat) < 100 from by decide) hf
  have f50 : (-1) * v_iv (n_v vs 8) + (1 * v_iv (n_v vs 3) + 0) ≤ 0 := f50
  obtain ⟨f51, hf⟩ := fc_un (show (23 : Nat) < 100 from by decide) hf
  have f51 : 1 * v_iv (n_v vs 6) + ((-1) * v_iv (n_v vs 3) + 0) ≤ 0 := f51
  obtain ⟨f52, hf⟩ := fc_un (show (23 : Nat) < 100 from by decide) hf
  have f52 : (-1) * v_iv (n_v vs 6) + (1 * v_iv (n_v vs 3) + 0) ≤ 0 := f52
  obtain ⟨ta4, w4, le4, ⟨_, s4⟩, hf⟩ := fc_us (show ¬ (102 : Nat) < 100 from by decide) hf
  obtain ⟨f54, hf⟩ := fc_un (show (23 : Nat) < 100 from by decide) hf
  have f54 : 1 * v_iv (n_v vs 6) + ((-1) * v_iv (n_v vs 3) + 0) ≤ 0 := f54
  obtain ⟨f55, hf⟩ := fc_un (show (23 : Nat) < 100 from by decide) hf
  have f55 : (-1) * v_iv (n_v vs 6) + (1 * v_iv (n_v vs 3) + 0) ≤ 0 := f55
  have ar_0_2_1 : w_ar w1 (n_v vs 0) 2 = w_ar ws (n_v vs 0) 2 := by show v_ad (w_fd w1 _ _) = v_ad (w_fd ws _ _); rw [s1.2]
  have cr_0_2 : ta (w_ar ws (n_v vs 0) 2) = some 152 := tv_rg (th_fd hD hth r0 (g := GG_150) rfl (k := 2) (t := (2, 0, 0, [152])) rfl rfl)
  have ad_17 : v_ad (n_v vs 17) = w_ar ws (n_v vs 0) 2 := (congrArg v_ad f19).trans ar_0_2_1
  have g18 : v_iv (n_v vs 18) = w_fi w1 (n_v vs 0) 5 := congrArg v_iv f18
  have g22 : v_iv (n_v vs 16) = w_fi w1 (n_v vs 0) 8 := congrArg v_iv f22
  rw [ar_0_2_1] at f31
  have fe_0_5_1 : w_fi ws (n_v vs 0) 5 = w_fi w1 (n_v vs 0) 5 := congrArg v_iv (s1.2 _ _)
  have fe_0_8_1 : w_fi ws (n_v vs 0) 8 = w_fi w1 (n_v vs 0) 8 := congrArg v_iv (s1.2 _ _)
  have fe_0_11_1 : w_fi ws (n_v vs 0) 11 = w_fi w1 (n_v vs 0) 11 := congrArg v_iv (s1.2 _ _)
  have fe_0_12_1 : w_fi ws (n_v vs 0) 12 = w_fi w1 (n_v vs 0) 12 := congrArg v_iv (s1.2 _ _)
  have fe_0_15_1 : w_fi ws (n_v vs 0) 15 = w_fi w1 (n_v vs 0) 15 := congrArg v_iv (s1.2 _ _)
  have hE_0_2_1 : ∀ j : Int, 0 ≤ j → (j = v_iv (n_v vs 21) → w_ei ws (w_ar ws (n_v vs 0) 2) j = v_iv (n_v vs 15)) ∧ (j ≠ v_iv (n_v vs 21) → w_ei ws (w_ar ws (n_v vs 0) 2) j = w_ei w1 (w_ar ws (n_v vs 0) 2) j) := fun j hj => ⟨fun h => by unfold w_ei; rw [s1.1, if_pos ⟨ad_17.symm, by rw [h]⟩], fun h => by unfold w_ei; rw [s1.1, if_neg (fun e => h (by have := e.2; omega))]⟩
  have kz_0_8 : 0 ≤ w_fi ws (n_v vs 0) 8 ∧ w_fi ws (n_v vs 0) 8 ≤ 5 := tv_rng (th_fd hD hth r0 (g := GG_150) rfl (k := 8) (t := (0, 0, 5, [])) rfl rfl)
  have kz_0_11 : 0 ≤ w_fi ws (n_v vs 0) 11 ∧ w_fi ws (n_v vs 0) 11 ≤ 2000 := tv_rng (th_fd hD hth r0 (g := GG_150) rfl (k := 11) (t := (0, 0, 2000, [])) rfl rfl)
  have kz_0_12 : 0 ≤ w_fi ws (n_v vs 0) 12 ∧ w_fi ws (n_v vs 0) 12 ≤ 4 := tv_rng (th_fd hD hth r0 (g := GG_150) rfl (k := 12) (t := (0, 0, 4, [])) rfl rfl)
  have kz_0_15 : 0 ≤ w_fi ws (n_v vs 0) 15 ∧ w_fi ws (n_v vs 0) 15 ≤ 2000 := tv_rng (th_fd hD hth r0 (g := GG_150) rfl (k := 15) (t := (0, 0, 2000, [])) rfl rfl)
  first | have hJ0 : w_ei w1 (w_ar ws (n_v vs 0) 2) ((w_fi w1 (n_v vs 0) 5 + 2)) = w_ei w1 (w_ar ws (n_v vs 0) 2) ((w_fi ws (n_v vs 0) 5 + 2)) := congrArg _ (show ((w_fi w1 (n_v vs 0) 5 + 2) : Int) = (w_fi ws (n_v vs 0) 5 + 2) from by omega) | skip
  first | have hI1 := (hE_0_2_1 ((w_fi ws (n_v vs 0) 5 + 2)) (by omega)).2 (by omega) | have hI1 := (hE_0_2_1 ((w_fi ws (n_v vs 0) 5 + 2)) (by omega)).1 (by omega) | skip
  obtain ⟨x, ex, hx⟩ := iv_ex (ta := ta) (lo := 0) (hi := 2000) (z := v_iv (n_v vs 3)) (by omega) (by omega) (by omega) (by omega)
  have ex2 : v_iv (Value.int x) = v_iv (n_v vs 3) := ex
  have ex3 : 0 ≤ v_iv (Value.int x) ∧ v_iv (Value.int x) ≤ 2000 := tv_rng hx
  have e_0 : n_v (vs ++ [Value.int x]) 0 = n_v vs 0 := n_v_old (by rw [hl]; decide)
  have e_1 : n_v (vs ++ [Value.int x]) 1 = n_v vs 1 := n_v_old (by rw [hl]; decide)
  have e_3 : n_v (vs ++ [Value.int x]) 3 = n_v vs 3 := n_v_old (by rw [hl]; decide)
  have e_23 : n_v (vs ++ [Value.int x]) 23 = Value.int x := n_v_new hl
  have nf0 : fc_1 (20, [1, 0], [50, 1, 1, 1005, 1002, 0, 6, 4, 2, 1, 0, 0, 1, 3, 1, 2, 4, 3, 2, 1, 5, 0, 2]) ws (vs ++ [Value.int x]) := by
    refine ⟨fun n hn => ?_, ?_⟩
    · have hn : n ∈ [1, 0] := hn
      rw [List.length_append, hl]
      simp only [List.mem_cons, List.not_mem_nil, or_false] at hn
      show n < 23 + 1; omega
    · show (v_iv (n_v (vs ++ [Value.int x]) 1) + 1) ≤ w_ei ws (w_ar ws (n_v (vs ++ [Value.int x]) 0) 2) ((w_fi ws (n_v (vs ++ [Value.int x]) 0) 5 + 2))
      rw [e_0]
      rw [e_1]
      first | omega | grind
  have nf1 : fc_1 (23, [23, 3], [0, 1, -1]) ws (vs ++ [Value.int x]) := by
    refine ⟨fun n hn => ?_, ?_⟩
    · have hn : n ∈ [23, 3] := hn
      rw [List.length_append, hl]
      simp only [List.mem_cons, List.not_mem_nil, or_false] at hn
      show n < 23 + 1; omega
    · show 1 * v_iv (n_v (vs ++ [Value.int x]) 23) + ((-1) * v_iv (n_v (vs ++ [Value.int x]) 3) + 0) ≤ 0
      rw [e_3]
      rw [e_23]
      omega
  have nf2 : fc_1 (23, [23, 3], [0, -1, 1]) ws (vs ++ [Value.int x]) := by
    refine ⟨fun n hn => ?_, ?_⟩
    · have hn : n ∈ [23, 3] := hn
      rw [List.length_append, hl]
      simp only [List.mem_cons, List.not_mem_nil, or_false] at hn
      show n < 23 + 1; omega
    · show (-1) * v_iv (n_v (vs ++ [Value.int x]) 23) + (1 * v_iv (n_v (vs ++ [Value.int x]) 3) + 0) ≤ 0
      rw [e_3]
      rw [e_23]
      omega
  have nf3 : fc_1 (20, [0, 0], [30, 0, 1, 1, 15, -1, 1, 11]) ws (vs ++ [Value.int x]) := by
    refine ⟨fun n hn => ?_, ?_⟩
    · have hn : n ∈ [0, 0] := hn
      rw [List.length_append, hl]
      simp only [List.mem_cons, List.not_mem_nil, or_false] at hn
      show n < 23 + 1; omega
    · show 1 * w_fi ws (n_v (vs ++ [Value.int x]) 0) 15 + ((-1) * w_fi ws (n_v (vs ++ [Value.int x]) 0) 11 + 0) ≤ 0
      rw [e_0]
      omega
  have nf4 : fc_1 (20, [0], [50, 3, 0, 12, 11, 15, 2, 21, 4, 7, 1, 3, 2, 0, 12, 0, 1, 0, 3, 2, 0, 11, 4, 3, 2, 0, 15, 0, 8, 3, 7, 1, 3, 2, 0, 12, 0, 0, 0, 7, 4, 3, 2, 0, 15, 0, 1, 2, 0, 11]) ws (vs ++ [Value.int x]) := by
    refine ⟨fun n hn => ?_, ?_⟩
    · have hn : n ∈ [0] := hn
      rw [List.length_append, hl]
      simp only [List.mem_cons, List.not_mem_nil, or_false] at hn
      show n < 23 + 1; omega
    · show ((w_fi ws (n_v (vs ++ [Value.int x]) 0) 12 = 1) → (w_fi ws (n_v (vs ++ [Value.int x]) 0) 11 ≤ (w_fi ws (n_v (vs ++ [Value.int x]) 0) 15 + 8))) ∧ ((w_fi ws (n_v (vs ++ [Value.int x]) 0) 12 = 0) ∨ ((w_fi ws (n_v (vs ++ [Value.int x]) 0) 15 + 1) ≤ w_fi ws (n_v (vs ++ [Value.int x]) 0) 11))
      rw [e_0]
      first | omega | grind
  have nf5 : fc_1 (20, [23, 0], [30, 0, 1, 0, 0, -1, 1, 11]) ws (vs ++ [Value.int x]) := by
    refine ⟨fun n hn => ?_, ?_⟩
    · have hn : n ∈ [23, 0] := hn
      rw [List.length_append, hl]
      simp only [List.mem_cons, List.not_mem_nil, or_false] at hn
      show n < 23 + 1; omega
    · show 1 * v_iv (n_v (vs ++ [Value.int x]) 23) + ((-1) * w_fi ws (n_v (vs ++ [Value.int x]) 0) 11 + 0) ≤ 0
      rw [e_0]
      rw [e_23]
      omega
  have nf6 : fc_1 (20, [0, 23], [50, 3, 0, 8, 12, 11, 3, 7, 0, 2, 0, 1, 2, 0, 8, 3, 7, 1, 3, 2, 0, 12, 0, 0, 0, 6, 4, 2, 1, 1, 0, 1, 2, 0, 11]) ws (vs ++ [Value.int x]) := by
    refine ⟨fun n hn => ?_, ?_⟩
    · have hn : n ∈ [0, 23] := hn
      rw [List.length_append, hl]
      simp only [List.mem_cons, List.not_mem_nil, or_false] at hn
      show n < 23 + 1; omega
    · show (1 ≤ w_fi ws (n_v (vs ++ [Value.int x]) 0) 8) ∨ ((w_fi ws (n_v (vs ++ [Value.int x]) 0) 12 = 0) ∨ ((v_iv (n_v (vs ++ [Value.int x]) 23) + 1) ≤ w_fi ws (n_v (vs ++ [Value.int x]) 0) 11))
      rw [e_0]
      rw [e_23]
      first | omega | grind
  exact ⟨(fun _ h => (by cases h)), [Value.int x], ag_one hx, List.forall_mem_cons.mpr ⟨⟨show (20 : Nat) < 100 from by decide, nf0⟩, List.forall_mem_cons.mpr ⟨⟨show (23 : Nat) < 100 from by decide, nf1⟩, List.forall_mem_cons.mpr ⟨⟨show (23 : Nat) < 100 from by decide, nf2⟩, List.forall_mem_cons.mpr ⟨⟨show (20 : Nat) < 100 from by decide, nf3⟩, List.forall_mem_cons.mpr ⟨⟨show (20 : Nat) < 100 from by decide, nf4⟩, List.forall_mem_cons.mpr ⟨⟨show (20 : Nat) < 100 from by decide, nf5⟩, List.forall_mem_cons.mpr ⟨⟨show (20 : Nat) < 100 from by decide, nf6⟩, (fun _ h => (by cases h))⟩⟩⟩⟩⟩⟩⟩, (fun _ h => (by cases h))⟩
def o_Mo_item_at_k1_13 : or_T := (94, 24, [(0, (2, 0, 0, [150])), (1, (0, 0, 7, [])), (3, (0, 0, 2000, [])), (6, (0, 0, 2000, [])), (8, (0, 0, 2000, [])), (12, (0, 99, 99, [])), (13, (0, 0, 2000, [])), (15, (0, 1, 99, [])), (17, (2, 0, 0, [152])), (23, (0, 0, 2000, []))], [(20, [1, 0], [50, 1, 1, 1005, 1002, 0, 6, 4, 2, 1, 0, 0, 1, 3, 1, 2, 4, 3, 2, 1, 5, 0, 2]), (23, [23, 3], [0, 1, -1]), (23, [23, 3], [0, -1, 1]), (23, [13, 3], [0, 1, -1]), (23, [13, 3], [0, -1, 1]), (23, [8, 3], [0, 1, -1]), (23, [8, 3], [0, -1, 1]), (23, [6, 3], [0, 1, -1]), (23, [6, 3], [0, -1, 1]), (20, [15, 12], [30, 0, 1, 0, 0, -1, 0, 0]), (20, [15], [30, 0, -1, 0, 0]), (20, [0, 0], [30, 0, 1, 1, 15, -1, 1, 11]), (20, [0], [50, 3, 0, 12, 11, 15, 2, 21, 4, 7, 1, 3, 2, 0, 12, 0, 1, 0, 3, 2, 0, 11, 4, 3, 2, 0, 15, 0, 8, 3, 7, 1, 3, 2, 0, 12, 0, 0, 0, 7, 4, 3, 2, 0, 15, 0, 1, 2, 0, 11]), (20, [23, 0], [30, 0, 1, 0, 0, -1, 1, 11]), (20, [0, 23], [50, 2, 0, 8, 11, 3, 7, 0, 2, 0, 1, 2, 0, 8, 0, 6, 4, 2, 1, 1, 0, 1, 2, 0, 11]), (102, [23], [0, 13008, 13009, 13011, 13012, 13013, 13014, 13015]), (23, [23, 3], [0, 1, -1]), (23, [23, 3], [0, -1, 1]), (23, [13, 3], [0, 1, -1]), (23, [13, 3], [0, -1, 1]), (23, [8, 3], [0, 1, -1]), (23, [8, 3], [0, -1, 1]), (23, [6, 3], [0, 1, -1]), (23, [6, 3], [0, -1, 1]), (100, [17, 21, 15], []), (8, [15], [4]), (23, [13, 3], [0, 1, -1]), (23, [13, 3], [0, -1, 1]), (23, [8, 3], [0, 1, -1]), (23, [8, 3], [0, -1, 1]), (23, [6, 3], [0, 1, -1]), (23, [6, 3], [0, -1, 1]), (102, [14], [0, 13008, 13009, 13011, 13012, 13013, 13014, 13015]), (23, [13, 3], [0, 1, -1]), (23, [13, 3], [0, -1, 1]), (23, [8, 3], [0, 1, -1]), (23, [8, 3], [0, -1, 1]), (23, [6, 3], [0, 1, -1]), (23, [6, 3], [0, -1, 1]), (102, [9], [5708990770823839524233143877797980545530986496, 13008, 13009, 13011, 13012, 13013, 13014, 13015]), (23, [8, 3], [0, 1, -1]), (23, [8, 3], [0, -1, 1]), (23, [6, 3], [0, 1, -1]), (23, [6, 3], [0, -1, 1]), (102, [6], [0, 13011, 13012, 13013, 13014, 13015]), (23, [6, 3], [0, 1, -1]), (23, [6, 3], [0, -1, 1])], [], [], [(20, [3, 0], [30, 0, 1, 0, 0, -1, 1, 11]), (20, [0, 3], [50, 2, 0, 8, 11, 3, 7, 0, 2, 0, 1, 2, 0, 8, 0, 6, 4, 2, 1, 1, 0, 1, 2, 0, 11])], [], [])
theorem oo_Mo_item_at_k1_13 {kA : Nat → ClassId} : or_ok kA GG o_Mo_item_at_k1_13 := by
  intro A ta ws vs hD hth hl hk hds hf
  have hl : vs.length = 24 := hl
  have hk : ∀ q ∈ ([(0, (2, 0, 0, [150])), (1, (0, 0, 7, [])), (3, (0, 0, 2000, [])), (6, (0, 0, 2000, [])), (8, (0, 0, 2000, [])), (12, (0, 99, 99, [])), (13, (0, 0, 2000, [])), (15, (0, 1, 99, [])), (17, (2, 0, 0, [152])), (23, (0, 0, 2000, []))] : List (Nat × tv_T)), tv_ok ta q.2 (n_v vs q.1) := hk
  obtain ⟨t0, hk⟩ := List.forall_mem_cons.mp hk
  have t0 : tv_ok ta (2, 0, 0, [150]) (n_v vs 0) := t0
  have r0 : ta (v_ad (n_v vs 0)) = some 150 := tv_rg t0
  obtain ⟨t1, hk⟩ := List.forall_mem_cons.mp hk
  have t1 : tv_ok ta (0, 0, 7, []) (n_v vs 1) := t1
  have k1 : 0 ≤ v_iv (n_v vs 1) ∧ v_iv (n_v vs 1) ≤ 7 := tv_rng t1
  obtain ⟨t3, hk⟩ := List.forall_mem_cons.mp hk
  have t3 : tv_ok ta (0, 0, 2000, []) (n_v vs 3) := t3
  have k3 : 0 ≤ v_iv (n_v vs 3) ∧ v_iv (n_v vs 3) ≤ 2000 := tv_rng t3
  obtain ⟨t6, hk⟩ := List.forall_mem_cons.mp hk
  have t6 : tv_ok ta (0, 0, 2000, []) (n_v vs 6) := t6
  have k6 : 0 ≤ v_iv (n_v vs 6) ∧ v_iv (n_v vs 6) ≤ 2000 := tv_rng t6
  obtain ⟨t8, hk⟩ := List.forall_mem_cons.mp hk
  have t8 : tv_ok ta (0, 0, 2000, []) (n_v vs 8) := t8
  have k8 : 0 ≤ v_iv (n_v vs 8) ∧ v_iv (n_v vs 8) ≤ 2000 := tv_rng t8
  obtain ⟨t12, hk⟩ := List.forall_mem_cons.mp hk
  have t12 : tv_ok ta (0, 99, 99, []) (n_v vs 12) := t12
  have k12 : 99 ≤ v_iv (n_v vs 12) ∧ v_iv (n_v vs 12) ≤ 99 := tv_rng t12
  obtain ⟨t13, hk⟩ := List.forall_mem_cons.mp hk
  have t13 : tv_ok ta (0, 0, 2000, []) (n_v vs 13) := t13
  have k13 : 0 ≤ v_iv (n_v vs 13) ∧ v_iv (n_v vs 13) ≤ 2000 := tv_rng t13
  obtain ⟨t15, hk⟩ := List.forall_mem_cons.mp hk
  have t15 : tv_ok ta (0, 1, 99, []) (n_v vs 15) := t15
  have k15 : 1 ≤ v_iv (n_v vs 15) ∧ v_iv (n_v vs 15) ≤ 99 := tv_rng t15
  obtain ⟨t17, hk⟩ := List.forall_mem_cons.mp hk
  have t17 : tv_ok ta (2, 0, 0, [152]) (n_v vs 17) := t17
  have r17 : ta (v_ad (n_v vs 17)) = some 152 := tv_rg t17
  obtain ⟨t23, hk⟩ := List.forall_mem_cons.mp hk
  have t23 : tv_ok ta (0, 0, 2000, []) (n_v vs 23) := t23
  have k23 : 0 ≤ v_iv (n_v vs 23) ∧ v_iv (n_v vs 23) ≤ 2000 := tv_rng t23
  have hf : fc_ok [(20, [1, 0], [50, 1, 1, 1005, 1002, 0, 6, 4, 2, 1, 0, 0, 1, 3, 1, 2, 4, 3, 2, 1, 5, 0, 2]), (23, [23, 3], [0, 1, -1]), (23, [23, 3], [0, -1, 1]), (23, [13, 3], [0, 1, -1]), (23, [13, 3], [0, -1, 1]), (23, [8, 3], [0, 1, -1]), (23, [8, 3], [0, -1, 1]), (23, [6, 3], [0, 1, -1]), (23, [6, 3], [0, -1, 1]), (20, [15, 12], [30, 0, 1, 0, 0, -1, 0, 0]), (20, [15], [30, 0, -1, 0, 0]), (20, [0, 0], [30, 0, 1, 1, 15, -1, 1, 11]), (20, [0], [50, 3, 0, 12, 11, 15, 2, 21, 4, 7, 1, 3, 2, 0, 12, 0, 1, 0, 3, 2, 0, 11, 4, 3, 2, 0, 15, 0, 8, 3, 7, 1, 3, 2, 0, 12, 0, 0, 0, 7, 4, 3, 2, 0, 15, 0, 1, 2, 0, 11]), (20, [23, 0], [30, 0, 1, 0, 0, -1, 1, 11]), (20, [0, 23], [50, 2, 0, 8, 11, 3, 7, 0, 2, 0, 1, 2, 0, 8, 0, 6, 4, 2, 1, 1, 0, 1, 2, 0, 11]), (102, [23], [0, 13008, 13009, 13011, 13012, 13013, 13014, 13015]), (23, [23, 3], [0, 1, -1]), (23, [23, 3], [0, -1, 1]), (23, [13, 3], [0, 1, -1]), (23, [13, 3], [0, -1, 1]), (23, [8, 3], [0, 1, -1]), (23, [8, 3], [0, -1, 1]), (23, [6, 3], [0, 1, -1]), (23, [6, 3], [0, -1, 1]), (100, [17, 21, 15], []), (8, [15], [4]), (23, [13, 3], [0, 1, -1]), (23, [13, 3], [0, -1, 1]), (23, [8, 3], [0, 1, -1]), (23, [8, 3], [0, -1, 1]), (23, [6, 3], [0, 1, -1]), (23, [6, 3], [0, -1, 1]), (102, [14], [0, 13008, 13009, 13011, 13012, 13013, 13014, 13015]), (23, [13, 3], [0, 1, -1]), (23, [13, 3], [0, -1, 1]), (23, [8, 3], [0, 1, -1]), (23, [8, 3], [0, -1, 1]), (23, [6, 3], [0, 1, -1]), (23, [6, 3], [0, -1, 1]), (102, [9], [5708990770823839524233143877797980545530986496, 13008, 13009, 13011, 13012, 13013, 13014, 13015]), (23, [8, 3], [0, 1, -1]), (23, [8, 3], [0, -1, 1]), (23, [6, 3], [0, 1, -1]), (23, [6, 3], [0, -1, 1]), (102, [6], [0, 13011, 13012, 13013, 13014, 13015]), (23, [6, 3], [0, 1, -1]), (23, [6, 3], [0, -1, 1])] ta ws vs := hf
  obtain ⟨f0, hf⟩ := fc_un (show (20 : Nat) < 100 from by decide) hf
  have f0 : (v_iv (n_v vs 1) + 1) ≤ w_ei ws (w_ar ws (n_v vs 0) 2) ((w_fi ws (n_v vs 0) 5 + 2)) := f0
  obtain ⟨f1, hf⟩ := fc_un (show (23 : Nat) < 100 from by decide) hf
  have f1 : 1 * v_iv (n_v vs 23) + ((-1) * v_iv (n_v vs 3) + 0) ≤ 0 := f1
  obtain ⟨f2, hf⟩ := fc_un (show (23 : Nat) < 100 from by decide) hf
  have f2 : (-1) * v_iv (n_v vs 23) + (1 * v_iv (n_v vs 3) + 0) ≤ 0 := f2
  obtain ⟨f3, hf⟩ := fc_un (show (23 : Nat) < 100 from by decide) hf
  have f3 : 1 * v_iv (n_v vs 13) + ((-1) * v_iv (n_v vs 3) + 0) ≤ 0 := f3
  obtain ⟨f4, hf⟩ := fc_un (show (23 : Nat) < 100 from by decide) hf
  have f4 : (-1) * v_iv (n_v vs 13) + (1 * v_iv (n_v vs 3) + 0) ≤ 0 := f4
  obtain ⟨f5, hf⟩ := fc_un (show (23 : Nat) < 100 from by decide) hf
  have f5 : 1 * v_iv (n_v vs 8) + ((-1) * v_iv (n_v vs 3) + 0) ≤ 0 := f5
  obtain ⟨f6, hf⟩ := fc_un (show (23 : Nat) < 100 from by decide) hf
  have f6 : (-1) * v_iv (n_v vs 8) + (1 * v_iv (n_v vs 3) + 0) ≤ 0 := f6
  obtain ⟨f7, hf⟩ := fc_un (show (23 : Nat) < 100 from by decide) hf
  have f7 : 1 * v_iv (n_v vs 6) + ((-1) * v_iv (n_v vs 3) + 0) ≤ 0 := f7
  obtain ⟨f8, hf⟩ := fc_un (show (23 : Nat) < 100 from by decide) hf
  have f8 : (-1) * v_iv (n_v vs 6) + (1 * v_iv (n_v vs 3) + 0) ≤ 0 := f8
  obtain ⟨f9, hf⟩ := fc_un (show (20 : Nat) < 100 from by decide) hf
  have f9 : 1 * v_iv (n_v vs 15) + ((-1) * v_iv (n_v vs 12) + 0) ≤ 0 := f9
  obtain ⟨f10, hf⟩ := fc_un (show (20 : Nat) < 100 from by decide) hf
  have f10 : (-1) * v_iv (n_v vs 15) + 0 ≤ 0 := f10
  obtain ⟨f11, hf⟩ := fc_un (show (20 : Nat) < 100 from by decide) hf
  have f11 : 1 * w_fi ws (n_v vs 0) 15 + ((-1) * w_fi ws (n_v vs 0) 11 + 0) ≤ 0 := f11
  obtain ⟨f12, hf⟩ := fc_un (show (20 : Nat) < 100 from by decide) hf
  have f12 : ((w_fi ws (n_v vs 0) 12 = 1) → (w_fi ws (n_v vs 0) 11 ≤ (w_fi ws (n_v vs 0) 15 + 8))) ∧ ((w_fi ws (n_v vs 0) 12 = 0) ∨ ((w_fi ws (n_v vs 0) 15 + 1) ≤ w_fi ws (n_v vs 0) 11)) := f12
  obtain ⟨f13, hf⟩ := fc_un (show (20 : Nat) < 100 from by decide) hf
  have f13 : 1 * v_iv (n_v vs 23) + ((-1) * w_fi ws (n_v vs 0) 11 + 0) ≤ 0 := f13
  obtain ⟨f14, hf⟩ := fc_un (show (20 : Nat) < 100 from by decide) hf
  have f14 : (1 ≤ w_fi ws (n_v vs 0) 8) ∨ ((v_iv (n_v vs 23) + 1) ≤ w_fi ws (n_v vs 0) 11) := f14
  obtain ⟨ta1, w1, le1, ⟨_, s1⟩, hf⟩ := fc_us (show ¬ (102 : Nat) < 100 from by decide) hf
  obtain ⟨f16, hf⟩ := fc_un (show (23 : Nat) < 100 from by decide) hf
  have f16 : 1 * v_iv (n_v vs 23) + ((-1) * v_iv (n_v vs 3) + 0) ≤ 0 := f16
  obtain ⟨f17, hf⟩ := fc_un (show (23 : Nat) < 100 from by decide) hf
  have f17 : (-1) * v_iv (n_v vs 23) + (1 * v_iv (n_v vs 3) + 0) ≤ 0 := f17
  obtain ⟨f18, hf⟩ := fc_un (show (23 : Nat) < 100 from by decide) hf
  have f18 : 1 * v_iv (n_v vs 13) + ((-1) * v_iv (n_v vs 3) + 0) ≤ 0 := f18
  obtain ⟨f19, hf⟩ := fc_un (show (23 : Nat) < 100 from by decide) hf
  have f19 : (-1) * v_iv (n_v vs 13) + (1 * v_iv (n_v vs 3) + 0) ≤ 0 := f19
  obtain ⟨f20, hf⟩ := fc_un (show (23 : Nat) < 100 from by decide) hf
  have f20 : 1 * v_iv (n_v vs 8) + ((-1) * v_iv (n_v vs 3) + 0) ≤ 0 := f20
  obtain ⟨f21, hf⟩ := fc_un (show (23 : Nat) < 100 from by decide) hf
  have f21 : (-1) * v_iv (n_v vs 8) + (1 * v_iv (n_v vs 3) + 0) ≤ 0 := f21
  obtain ⟨f22, hf⟩ := fc_un (show (23 : Nat) < 100 from by decide) hf
  have f22 : 1 * v_iv (n_v vs 6) + ((-1) * v_iv (n_v vs 3) + 0) ≤ 0 := f22
  obtain ⟨f23, hf⟩ := fc_un (show (23 : Nat) < 100 from by decide) hf
  have f23 : (-1) * v_iv (n_v vs 6) + (1 * v_iv (n_v vs 3) + 0) ≤ 0 := f23
  obtain ⟨ta2, w2, le2, ⟨_, s2⟩, hf⟩ := fc_us (show ¬ (100 : Nat) < 100 from by decide) hf
  have s2 : (∀ b j, w_el w1 b j = if b = v_ad (n_v vs 17) ∧ j = (v_iv (n_v vs 21)).toNat then v_iv (n_v vs 15) else w_el w2 b j) ∧ ∀ b k, w_fd w1 b k = w_fd w2 b k := s2
  obtain ⟨f25, hf⟩ := fc_un (show (8 : Nat) < 100 from by decide) hf
  have f25 : 0 < v_iv (n_v vs 15) := f25
  obtain ⟨f26, hf⟩ := fc_un (show (23 : Nat) < 100 from by decide) hf
  have f26 : 1 * v_iv (n_v vs 13) + ((-1) * v_iv (n_v vs 3) + 0) ≤ 0 := f26
  obtain ⟨f27, hf⟩ := fc_un (show (23 : Nat) < 100 from by decide) hf
  have f27 : (-1) * v_iv (n_v vs 13) + (1 * v_iv (n_v vs 3) + 0) ≤ 0 := f27
  obtain ⟨f28, hf⟩ := fc_un (show (23 : Nat) < 100 from by decide) hf
  have f28 : 1 * v_iv (n_v vs 8) + ((-1) * v_iv (n_v vs 3) + 0) ≤ 0 := f28
  obtain ⟨f29, hf⟩ := fc_un (show (23 : Nat) < 100 from by decide) hf
  have f29 : (-1) * v_iv (n_v vs 8) + (1 * v_iv (n_v vs 3) + 0) ≤ 0 := f29
  obtain ⟨f30, hf⟩ := fc_un (show (23 : Nat) < 100 from by decide) hf
  have f30 : 1 * v_iv (n_v vs 6) + ((-1) * v_iv (n_v vs 3) + 0) ≤ 0 := f30
  obtain ⟨f31, hf⟩ := fc_un (show (23 : Nat) < 100 from by decide) hf
  have f31 : (-1) * v_iv (n_v vs 6) + (1 * v_iv (n_v vs 3) + 0) ≤ 0 := f31
  obtain ⟨ta3, w3, le3, ⟨_, s3⟩, hf⟩ := fc_us (show ¬ (102 : Nat) < 100 from by decide) hf
  obtain ⟨f33, hf⟩ := fc_un (show (23 : Nat) < 100 from by decide) hf
  have f33 : 1 * v_iv (n_v vs 13) + ((-1) * v_iv (n_v vs 3) + 0) ≤ 0 := f33
  obtain ⟨f34, hf⟩ := fc_un (show (23 : Nat) < 100 from by decide) hf
  have f34 : (-1) * v_iv (n_v vs 13) + (1 * v_iv (n_v vs 3) + 0) ≤ 0 := f34
  obtain ⟨f35, hf⟩ := fc_un (show (23 : Nat) < 100 from by decide) hf
  have f35 : 1 * v_iv (n_v vs 8) + ((-1) * v_iv (n_v vs 3) + 0) ≤ 0 := f35
  obtain ⟨f36, hf⟩ := fc_un (show (23 : Nat) < 100 from by decide) hf
  have f36 : (-1) * v_iv (n_v vs 8) + (1 * v_iv (n_v vs 3) + 0) ≤ 0 := f36
  obtain ⟨f37, hf⟩ := fc_un (show (23 : Nat) < 100 from by decide) hf
  have f37 : 1 * v_iv (n_v vs 6) + ((-1) * v_iv (n_v vs 3) + 0) ≤ 0 := f37
  obtain ⟨f38, hf⟩ := fc_un (show (23 : Nat) < 100 from by decide) hf
  have f38 : (-1) * v_iv (n_v vs 6) + (1 * v_iv (n_v vs 3) + 0) ≤ 0 := f38
  obtain ⟨ta4, w4, le4, ⟨_, s4⟩, hf⟩ := fc_us (show ¬ (102 : Nat) < 100 from by decide) hf
  obtain ⟨f40, hf⟩ := fc_un (show (23 : Nat) < 100 from by decide) hf
  have f40 : 1 * v_iv (n_v vs 8) + ((-1) * v_iv (n_v vs 3) + 0) ≤ 0 := f40
  obtain ⟨f41, hf⟩ := fc_un (show (23 : Nat) < 100 from by decide) hf
  have f41 : (-1) * v_iv (n_v vs 8) + (1 * v_iv (n_v vs 3) + 0) ≤ 0 := f41
  obtain ⟨f42, hf⟩ := fc_un (show (23 : Nat) < 100 from by decide) hf
  have f42 : 1 * v_iv (n_v vs 6) + ((-1) * v_iv (n_v vs 3) + 0) ≤ 0 := f42
  obtain ⟨f43, hf⟩ := fc_un (show (23 : Nat) < 100 from by decide) hf
  have f43 : (-1) * v_iv (n_v vs 6) + (1 * v_iv (n_v vs 3) + 0) ≤ 0 := f43
  obtain ⟨ta5, w5, le5, ⟨_, s5⟩, hf⟩ := fc_us (show ¬ (102 : Nat) < 100 from by decide) hf
  obtain ⟨f45, hf⟩ := fc_un (show (23 : Nat) < 100 from by decide) hf
  have f45 : 1 * v_iv (n_v vs 6) + ((-1) * v_iv (n_v vs 3) + 0) ≤ 0 := f45
  obtain ⟨f46, hf⟩ := fc_un (show (23 : Nat) < 100 from by decide) hf
  have f46 : (-1) * v_iv (n_v vs 6) + (1 * v_iv (n_v vs 3) + 0) ≤ 0 := f46
  have cr_0_2 : ta (w_ar ws (n_v vs 0) 2) = some 152 := tv_rg (th_fd hD hth r0 (g := GG_150) rfl (k := 2) (t := (2, 0, 0, [152])) rfl rfl)
  have kz_0_8 : 0 ≤ w_fi ws (n_v vs 0) 8 ∧ w_fi ws (n_v vs 0) 8 ≤ 5 := tv_rng (th_fd hD hth r0 (g := GG_150) rfl (k := 8) (t := (0, 0, 5, [])) rfl rfl)
  have kz_0_11 : 0 ≤ w_fi ws (n_v vs 0) 11 ∧ w_fi ws (n_v vs 0) 11 ≤ 2000 := tv_rng (th_fd hD hth r0 (g := GG_150) rfl (k := 11) (t := (0, 0, 2000, [])) rfl rfl)
  have kz_0_12 : 0 ≤ w_fi ws (n_v vs 0) 12 ∧ w_fi ws (n_v vs 0) 12 ≤ 4 := tv_rng (th_fd hD hth r0 (g := GG_150) rfl (k := 12) (t := (0, 0, 4, [])) rfl rfl)
  have kz_0_15 : 0 ≤ w_fi ws (n_v vs 0) 15 ∧ w_fi ws (n_v vs 0) 15 ≤ 2000 := tv_rng (th_fd hD hth r0 (g := GG_150) rfl (k := 15) (t := (0, 0, 2000, [])) rfl rfl)
  have nf0 : fc_1 (20, [3, 0], [30, 0, 1, 0, 0, -1, 1, 11]) ws (vs) := by
    refine ⟨fun n hn => ?_, ?_⟩
    · have hn : n ∈ [3, 0] := hn
      rw [hl]
      simp only [List.mem_cons, List.not_mem_nil, or_false] at hn
      show n < 24; omega
    · show 1 * v_iv (n_v vs 3) + ((-1) * w_fi ws (n_v vs 0) 11 + 0) ≤ 0
      omega
  have nf1 : fc_1 (20, [0, 3], [50, 2, 0, 8, 11, 3, 7, 0, 2, 0, 1, 2, 0, 8, 0, 6, 4, 2, 1, 1, 0, 1, 2, 0, 11]) ws (vs) := by
    refine ⟨fun n hn => ?_, ?_⟩
    · have hn : n ∈ [0, 3] := hn
      rw [hl]
      simp only [List.mem_cons, List.not_mem_nil, or_false] at hn
      show n < 24; omega
    · show (1 ≤ w_fi ws (n_v vs 0) 8) ∨ ((v_iv (n_v vs 3) + 1) ≤ w_fi ws (n_v vs 0) 11)
      first | omega | grind
  refine ⟨(fun _ h => (by cases h)), [], trivial, ?_, (fun _ h => (by cases h))⟩
  rw [List.append_nil]
  exact List.forall_mem_cons.mpr ⟨⟨show (20 : Nat) < 100 from by decide, nf0⟩, List.forall_mem_cons.mpr ⟨⟨show (20 : Nat) < 100 from by decide, nf1⟩, (fun _ h => (by cases h))⟩⟩
def n_Mo_item_at_k1_an : List an_T := []
def t_Mo_item_at_k1_ct : ct_L := [(1, 460, e_Mo_next), (1, 491, e_Mo_need), (1, 494, e_Mo_met), (1, 506, e_Mo_edgeItem), (16, 469, e_Mo_isWord_at_s5000), (85, 499, e_Mo_of_at_s5002), (226, 469, e_Mo_isWord_at_s5001), (253, 503, e_Mo_groupItem_at_k1), (1000001, 467, en_ro [] (2, 0, 0, [5000])), (1000001, 473, en_ro [] (2, 0, 0, [5001])), (1000001, 497, en_ro [] (2, 0, 0, [5002]))]
set_option maxRecDepth 100000 in
theorem c_Mo_item_at_k1 {l : Launch} {D : va_G} {kA : Nat → ClassId} (h_Mo_edgeItem : ct_ok l D kA GG y_Mo_edgeItem z_Mo_edgeItem e_Mo_edgeItem) (h_Mo_groupItem_at_k1 : ct_ok l D kA GG y_Mo_groupItem_at_k1 z_Mo_groupItem_at_k1 e_Mo_groupItem_at_k1) (h_Mo_isWord_at_s5000 : ct_ok l D kA GG y_Mo_isWord_at_s5000 z_Mo_isWord_at_s5000 e_Mo_isWord_at_s5000) (h_Mo_isWord_at_s5001 : ct_ok l D kA GG y_Mo_isWord_at_s5001 z_Mo_isWord_at_s5001 e_Mo_isWord_at_s5001) (h_Mo_met : ct_ok l D kA GG y_Mo_met z_Mo_met e_Mo_met) (h_Mo_need : ct_ok l D kA GG y_Mo_need z_Mo_need e_Mo_need) (h_Mo_next : ct_ok l D kA GG y_Mo_next z_Mo_next e_Mo_next) (h_Mo_of_at_s5002 : ct_ok l D kA GG y_Mo_of_at_s5002 z_Mo_of_at_s5002 e_Mo_of_at_s5002) : ct_ok l D kA GG y_Mo_item_at_k1 z_Mo_item_at_k1 e_Mo_item_at_k1 := chk_all_ok (FT := [(16, 13, 2), (391, 13, 5), (413, 13, 8)]) (PT := []) (CT := t_Mo_item_at_k1_ct) (KT := []) (NT := []) (AN := n_Mo_item_at_k1_an) (OT := [o_Mo_item_at_k1_0, o_Mo_item_at_k1_1, o_Mo_item_at_k1_2, o_Mo_item_at_k1_3, o_Mo_item_at_k1_4, o_Mo_item_at_k1_5, o_Mo_item_at_k1_6, o_Mo_item_at_k1_7, o_Mo_item_at_k1_8, o_Mo_item_at_k1_9, o_Mo_item_at_k1_10, o_Mo_item_at_k1_11, o_Mo_item_at_k1_12, o_Mo_item_at_k1_13]) 0 240 (List.forall_mem_cons.mpr ⟨oo_Mo_item_at_k1_0, List.forall_mem_cons.mpr ⟨oo_Mo_item_at_k1_1, List.forall_mem_cons.mpr ⟨oo_Mo_item_at_k1_2, List.forall_mem_cons.mpr ⟨oo_Mo_item_at_k1_3, List.forall_mem_cons.mpr ⟨oo_Mo_item_at_k1_4, List.forall_mem_cons.mpr ⟨oo_Mo_item_at_k1_5, List.forall_mem_cons.mpr ⟨oo_Mo_item_at_k1_6, List.forall_mem_cons.mpr ⟨oo_Mo_item_at_k1_7, List.forall_mem_cons.mpr ⟨oo_Mo_item_at_k1_8, List.forall_mem_cons.mpr ⟨oo_Mo_item_at_k1_9, List.forall_mem_cons.mpr ⟨oo_Mo_item_at_k1_10, List.forall_mem_cons.mpr ⟨oo_Mo_item_at_k1_11, List.forall_mem_cons.mpr ⟨oo_Mo_item_at_k1_12, List.forall_mem_cons.mpr ⟨oo_Mo_item_at_k1_13, List.forall_mem_nil _⟩⟩⟩⟩⟩⟩⟩⟩⟩⟩⟩⟩⟩⟩) (by decide +kernel) ⟨List.forall_mem_cons.mpr ⟨gf_Mo_16, List.forall_mem_cons.mpr ⟨gf_Mo_391, List.forall_mem_cons.mpr ⟨gf_Mo_413, List.forall_mem_nil _⟩⟩⟩, List.forall_mem_nil _, List.forall_mem_cons.mpr ⟨cl_virtual (y := y_Mo_next) (ci := 13) rfl rfl ⟨_, _, rfl⟩ (by decide +kernel) h_Mo_next wm_2982 wm_9 wm_2979 wm_2981 wv_12_11 ⟨by decide, by decide, by decide +kernel⟩ (by decide), List.forall_mem_cons.mpr ⟨cl_virtual (y := y_Mo_need) (ci := 13) rfl rfl ⟨_, _, rfl⟩ (by decide +kernel) h_Mo_need wm_3062 wm_9 wm_3059 wm_3061 wv_13_12 ⟨by decide, by decide, by decide +kernel⟩ (by decide), List.forall_mem_cons.mpr ⟨cl_virtual (y := y_Mo_met) (ci := 13) rfl rfl ⟨_, _, rfl⟩ (by decide +kernel) h_Mo_met wm_3008 wm_9 wm_3005 wm_3007 wv_12_15 ⟨by decide, by decide, by decide +kernel⟩ (by decide), List.forall_mem_cons.mpr ⟨cl_virtual (y := y_Mo_edgeItem) (ci := 13) rfl rfl ⟨_, _, rfl⟩ (by decide +kernel) h_Mo_edgeItem wm_3074 wm_9 wm_3071 wm_3073 wv_13_15 ⟨by decide, by decide, by decide +kernel⟩ (by decide), List.forall_mem_cons.mpr ⟨cl_virtual (y := y_Mo_isWord_at_s5000) (ci := 13) rfl rfl ⟨_, _, rfl⟩ (by decide +kernel) h_Mo_isWord_at_s5000 wm_3002 wm_9 wm_2999 wm_3001 wv_12_14 ⟨by decide, by decide, by decide +kernel⟩ (by decide), List.forall_mem_cons.mpr ⟨cl_virtual (y := y_Mo_of_at_s5002) (ci := 13) rfl rfl ⟨_, _, rfl⟩ (by decide +kernel) h_Mo_of_at_s5002 wm_3054 wm_9 wm_3051 wm_3053 wv_13_10 ⟨by decide, by decide, by decide +kernel⟩ (by decide), List.forall_mem_cons.mpr ⟨cl_virtual (y := y_Mo_isWord_at_s5001) (ci := 13) rfl rfl ⟨_, _, rfl⟩ (by decide +kernel) h_Mo_isWord_at_s5001 wm_3002 wm_9 wm_2999 wm_3001 wv_12_14 ⟨by decide, by decide, by decide +kernel⟩ (by decide), List.forall_mem_cons.mpr ⟨cl_virtual (y := y_Mo_groupItem_at_k1) (ci := 13) rfl rfl ⟨_, _, rfl⟩ (by decide +kernel) h_Mo_groupItem_at_k1 wm_3066 wm_9 wm_3063 wm_3065 wv_13_13 ⟨by decide, by decide, by decide +kernel⟩ (by decide), List.forall_mem_cons.mpr ⟨cl_ldcw (own := "DrawingHouseModel") (idx := 467) (i := 0) (tx := "node") (by decide +kernel) (by decide +kernel) (by decide +kernel), List.forall_mem_cons.mpr ⟨cl_ldcw (own := "DrawingHouseModel") (idx := 473) (i := 1) (tx := "group") (by decide +kernel) (by decide +kernel) (by decide +kernel), List.forall_mem_cons.mpr ⟨cl_ldcw (own := "DrawingHouseModel") (idx := 497) (i := 2) (tx := "size") (by decide +kernel) (by decide +kernel) (by decide +kernel), List.forall_mem_nil _⟩⟩⟩⟩⟩⟩⟩⟩⟩⟩⟩, List.forall_mem_nil _, List.forall_mem_nil _, GG_pl⟩ (by decide +kernel)
