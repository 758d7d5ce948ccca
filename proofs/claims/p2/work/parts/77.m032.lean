def o_Mo_styleTokens_0 : or_T := (17, 5, [(0, (2, 0, 0, [150])), (2, (0, 0, 0, [])), (3, (0, 0, 0, [])), (4, (0, 1, 1, []))], [(101, [0, 3], [11]), (101, [0, 1], [10]), (101, [0, 2], [157])], [], [(0, 0, 4001, [])], [(20, [0, 4], [50, 2, 1, 157, 11, 160, 2, 16, 0, 7, 4, 3, 2, 0, 157, 1, 1, 4, 3, 2, 0, 11, 0, 1, 3, 6, 1, 2, 1, 1, 0, 1, 2, 7, 0, 2, 0, 1, 2, 0, 157, 3, 14, 1, 10, 3, 0, 160, 5, 3, 2, 0, 157, 0, 1, 0, 0, 1, 10, 3, 0, 160, 5, 3, 2, 0, 157, 0, 1, 0, 4]), (24, [0, 0], []), (20, [5, 0, 4], [30, 4000, 1, 0, 0, 2, 1, 11, -1, 0, 0]), (20, [5, 0, 4], [30, -4000, -1, 0, 0, -2, 1, 11, 1, 0, 0])], [], [])
theorem oo_Mo_styleTokens_0 {kA : Nat → ClassId} : or_ok kA GG o_Mo_styleTokens_0 := by
  intro A ta ws vs hD hth hl hk hds hf
  have hl : vs.length = 5 := hl
  have hk : ∀ q ∈ ([(0, (2, 0, 0, [150])), (2, (0, 0, 0, [])), (3, (0, 0, 0, [])), (4, (0, 1, 1, []))] : List (Nat × tv_T)), tv_ok ta q.2 (n_v vs q.1) := hk
  obtain ⟨t0, hk⟩ := List.forall_mem_cons.mp hk
  have t0 : tv_ok ta (2, 0, 0, [150]) (n_v vs 0) := t0
  have r0 : ta (v_ad (n_v vs 0)) = some 150 := tv_rg t0
  obtain ⟨t2, hk⟩ := List.forall_mem_cons.mp hk
  have t2 : tv_ok ta (0, 0, 0, []) (n_v vs 2) := t2
  have k2 : 0 ≤ v_iv (n_v vs 2) ∧ v_iv (n_v vs 2) ≤ 0 := tv_rng t2
  obtain ⟨t3, hk⟩ := List.forall_mem_cons.mp hk
  have t3 : tv_ok ta (0, 0, 0, []) (n_v vs 3) := t3
  have k3 : 0 ≤ v_iv (n_v vs 3) ∧ v_iv (n_v vs 3) ≤ 0 := tv_rng t3
  obtain ⟨t4, hk⟩ := List.forall_mem_cons.mp hk
  have t4 : tv_ok ta (0, 1, 1, []) (n_v vs 4) := t4
  have k4 : 1 ≤ v_iv (n_v vs 4) ∧ v_iv (n_v vs 4) ≤ 1 := tv_rng t4
  have hf : fc_ok [(101, [0, 3], [11]), (101, [0, 1], [10]), (101, [0, 2], [157])] ta ws vs := hf
  obtain ⟨ta1, w1, le1, ⟨_, s1⟩, hf⟩ := fc_us (show ¬ (101 : Nat) < 100 from by decide) hf
  have s1 : (∀ b j, w_el ws b j = w_el w1 b j) ∧ ∀ b j, w_fd ws b j = if b = v_ad (n_v vs 0) ∧ j = 11 then n_v vs 3 else w_fd w1 b j := s1
  obtain ⟨ta2, w2, le2, ⟨_, s2⟩, hf⟩ := fc_us (show ¬ (101 : Nat) < 100 from by decide) hf
  have s2 : (∀ b j, w_el w1 b j = w_el w2 b j) ∧ ∀ b j, w_fd w1 b j = if b = v_ad (n_v vs 0) ∧ j = 10 then n_v vs 1 else w_fd w2 b j := s2
  obtain ⟨ta3, w3, le3, ⟨_, s3⟩, hf⟩ := fc_us (show ¬ (101 : Nat) < 100 from by decide) hf
  have s3 : (∀ b j, w_el w2 b j = w_el w3 b j) ∧ ∀ b j, w_fd w2 b j = if b = v_ad (n_v vs 0) ∧ j = 157 then n_v vs 2 else w_fd w3 b j := s3
  have ar_0_160_1 : w_ar w1 (n_v vs 0) 160 = w_ar ws (n_v vs 0) 160 := by show v_ad (w_fd w1 _ _) = v_ad (w_fd ws _ _); rw [s1.2, if_neg (fun e => absurd e.2 (by decide))]
  have ar_0_160_2 : w_ar w2 (n_v vs 0) 160 = w_ar ws (n_v vs 0) 160 := by rw [← ar_0_160_1]; show v_ad (w_fd w2 _ _) = v_ad (w_fd w1 _ _); rw [s2.2, if_neg (fun e => absurd e.2 (by decide))]
  have ar_0_160_3 : w_ar w3 (n_v vs 0) 160 = w_ar ws (n_v vs 0) 160 := by rw [← ar_0_160_2]; show v_ad (w_fd w3 _ _) = v_ad (w_fd w2 _ _); rw [s3.2, if_neg (fun e => absurd e.2 (by decide))]
  have cr_0_160 : ta (w_ar ws (n_v vs 0) 160) = some 259 := tv_rg (th_fd hD hth r0 (g := GG_150) rfl (k := 160) (t := (2, 0, 0, [259])) rfl rfl)
  have fe_0_11_1 : w_fi ws (n_v vs 0) 11 = v_iv (n_v vs 3) := by show v_iv (w_fd _ _ _) = _; rw [s1.2, if_pos ⟨rfl, rfl⟩]
  have fe_0_157_1 : w_fi ws (n_v vs 0) 157 = w_fi w1 (n_v vs 0) 157 := by show v_iv (w_fd _ _ _) = v_iv (w_fd _ _ _); rw [s1.2, if_neg (fun e => absurd e.2 (by decide))]
  have fe_0_11_2 : w_fi w1 (n_v vs 0) 11 = w_fi w2 (n_v vs 0) 11 := by show v_iv (w_fd _ _ _) = v_iv (w_fd _ _ _); rw [s2.2, if_neg (fun e => absurd e.2 (by decide))]
  have fe_0_157_2 : w_fi w1 (n_v vs 0) 157 = w_fi w2 (n_v vs 0) 157 := by show v_iv (w_fd _ _ _) = v_iv (w_fd _ _ _); rw [s2.2, if_neg (fun e => absurd e.2 (by decide))]
  have fe_0_11_3 : w_fi w2 (n_v vs 0) 11 = w_fi w3 (n_v vs 0) 11 := by show v_iv (w_fd _ _ _) = v_iv (w_fd _ _ _); rw [s3.2, if_neg (fun e => absurd e.2 (by decide))]
  have fe_0_157_3 : w_fi w2 (n_v vs 0) 157 = v_iv (n_v vs 2) := by show v_iv (w_fd _ _ _) = _; rw [s3.2, if_pos ⟨rfl, rfl⟩]
  have hE_0_160_1 : ∀ j : Int, w_ei ws (w_ar ws (n_v vs 0) 160) j = w_ei w1 (w_ar ws (n_v vs 0) 160) j := fun j => s1.1 _ _
  have hE_0_160_2 : ∀ j : Int, w_ei w1 (w_ar ws (n_v vs 0) 160) j = w_ei w2 (w_ar ws (n_v vs 0) 160) j := fun j => s2.1 _ _
  have hE_0_160_3 : ∀ j : Int, w_ei w2 (w_ar ws (n_v vs 0) 160) j = w_ei w3 (w_ar ws (n_v vs 0) 160) j := fun j => s3.1 _ _
  have hK_0_160 : ∀ j : Int, 0 ≤ j → j < 2010 → 0 ≤ w_ei ws (w_ar ws (n_v vs 0) 160) j ∧ w_ei ws (w_ar ws (n_v vs 0) 160) j ≤ 4 := fun j h0 h1 => th_el hD hth cr_0_160 (kd := 0) (n := 2010) (m := 2010) (lo := 0) (hi := 4) (rs := []) (L := []) rfl (by decide) (j := j.toNat) (by omega)
  have kz_0_11 : 0 ≤ w_fi ws (n_v vs 0) 11 ∧ w_fi ws (n_v vs 0) 11 ≤ 2000 := tv_rng (th_fd hD hth r0 (g := GG_150) rfl (k := 11) (t := (0, 0, 2000, [])) rfl rfl)
  have kz_0_157 : 0 ≤ w_fi ws (n_v vs 0) 157 ∧ w_fi ws (n_v vs 0) 157 ≤ 2010 := tv_rng (th_fd hD hth r0 (g := GG_150) rfl (k := 157) (t := (0, 0, 2010, [])) rfl rfl)
  have kb_0_11 : 0 ≤ w_fi ws (n_v vs 0) 11 ∧ w_fi ws (n_v vs 0) 11 ≤ 2000 := tv_rng (th_fd hD hth r0 (g := GG_150) rfl (k := 11) (t := (0, 0, 2000, [])) rfl rfl)
  obtain ⟨x, ex, hx⟩ := iv_ex (ta := ta) (lo := 0) (hi := 4001) (z := 4000 + ((-2) * w_fi ws (n_v vs 0) 11 + (1 * v_iv (n_v vs 4) + 0))) (by omega) (by omega) (by omega) (by omega)
  have ex2 : v_iv (Value.int x) = 4000 + ((-2) * w_fi ws (n_v vs 0) 11 + (1 * v_iv (n_v vs 4) + 0)) := ex
  have ex3 : 0 ≤ v_iv (Value.int x) ∧ v_iv (Value.int x) ≤ 4001 := tv_rng hx
  have e_0 : n_v (vs ++ [Value.int x]) 0 = n_v vs 0 := n_v_old (by rw [hl]; decide)
  have e_4 : n_v (vs ++ [Value.int x]) 4 = n_v vs 4 := n_v_old (by rw [hl]; decide)
  have e_5 : n_v (vs ++ [Value.int x]) 5 = Value.int x := n_v_new hl
  have nf0 : fc_1 (20, [0, 4], [50, 2, 1, 157, 11, 160, 2, 16, 0, 7, 4, 3, 2, 0, 157, 1, 1, 4, 3, 2, 0, 11, 0, 1, 3, 6, 1, 2, 1, 1, 0, 1, 2, 7, 0, 2, 0, 1, 2, 0, 157, 3, 14, 1, 10, 3, 0, 160, 5, 3, 2, 0, 157, 0, 1, 0, 0, 1, 10, 3, 0, 160, 5, 3, 2, 0, 157, 0, 1, 0, 4]) ws (vs ++ [Value.int x]) := by
    refine ⟨fun n hn => ?_, ?_⟩
    · have hn : n ∈ [0, 4] := hn
      rw [List.length_append, hl]
      simp only [List.mem_cons, List.not_mem_nil, or_false] at hn
      show n < 5 + 1; omega
    · show ((w_fi ws (n_v (vs ++ [Value.int x]) 0) 157 + v_iv (n_v (vs ++ [Value.int x]) 4)) ≤ (w_fi ws (n_v (vs ++ [Value.int x]) 0) 11 + 1)) ∧ ((v_iv (n_v (vs ++ [Value.int x]) 4) = 1) ∨ ((1 ≤ w_fi ws (n_v (vs ++ [Value.int x]) 0) 157) ∧ ((w_ei ws (w_ar ws (n_v (vs ++ [Value.int x]) 0) 160) ((w_fi ws (n_v (vs ++ [Value.int x]) 0) 157 - 1)) = 0) ∨ (w_ei ws (w_ar ws (n_v (vs ++ [Value.int x]) 0) 160) ((w_fi ws (n_v (vs ++ [Value.int x]) 0) 157 - 1)) = 4))))
      rw [e_0]
      rw [e_4]
      first | omega | grind
  have nf1 : fc_1 (24, [0, 0], []) ws (vs ++ [Value.int x]) := by
    refine ⟨fun n hn => ?_, ?_⟩
    · have hn : n ∈ [0, 0] := hn
      rw [List.length_append, hl]
      simp only [List.mem_cons, List.not_mem_nil, or_false] at hn
      show n < 5 + 1; omega
    · show n_v (vs ++ [Value.int x]) 0 = n_v (vs ++ [Value.int x]) 0
      first | rfl | simp only [e_0]
  have nf2 : fc_1 (20, [5, 0, 4], [30, 4000, 1, 0, 0, 2, 1, 11, -1, 0, 0]) ws (vs ++ [Value.int x]) := by
    refine ⟨fun n hn => ?_, ?_⟩
    · have hn : n ∈ [5, 0, 4] := hn
      rw [List.length_append, hl]
      simp only [List.mem_cons, List.not_mem_nil, or_false] at hn
      show n < 5 + 1; omega
    · show 1 * v_iv (n_v (vs ++ [Value.int x]) 5) + (2 * w_fi ws (n_v (vs ++ [Value.int x]) 0) 11 + ((-1) * v_iv (n_v (vs ++ [Value.int x]) 4) + 0)) ≤ 4000
      rw [e_0]
      rw [e_4]
      rw [e_5]
      omega
  have nf3 : fc_1 (20, [5, 0, 4], [30, -4000, -1, 0, 0, -2, 1, 11, 1, 0, 0]) ws (vs ++ [Value.int x]) := by
    refine ⟨fun n hn => ?_, ?_⟩
    · have hn : n ∈ [5, 0, 4] := hn
      rw [List.length_append, hl]
      simp only [List.mem_cons, List.not_mem_nil, or_false] at hn
      show n < 5 + 1; omega
    · show (-1) * v_iv (n_v (vs ++ [Value.int x]) 5) + ((-2) * w_fi ws (n_v (vs ++ [Value.int x]) 0) 11 + (1 * v_iv (n_v (vs ++ [Value.int x]) 4) + 0)) ≤ (-4000)
      rw [e_0]
      rw [e_4]
      rw [e_5]
      omega
  exact ⟨(fun _ h => (by cases h)), [Value.int x], ag_one hx, List.forall_mem_cons.mpr ⟨⟨show (20 : Nat) < 100 from by decide, nf0⟩, List.forall_mem_cons.mpr ⟨⟨show (24 : Nat) < 100 from by decide, nf1⟩, List.forall_mem_cons.mpr ⟨⟨show (20 : Nat) < 100 from by decide, nf2⟩, List.forall_mem_cons.mpr ⟨⟨show (20 : Nat) < 100 from by decide, nf3⟩, (fun _ h => (by cases h))⟩⟩⟩⟩, (fun _ h => (by cases h))⟩
def o_Mo_styleTokens_1 : or_T := (439, 8, [(0, (2, 0, 0, [150])), (2, (2, 0, 0, [150])), (4, (0, 0, 0, [])), (7, (0, 0, 4001, []))], [(8, [4], [0]), (20, [2, 4], [50, 2, 1, 157, 11, 160, 2, 16, 0, 7, 4, 3, 2, 0, 157, 1, 1, 4, 3, 2, 0, 11, 0, 1, 3, 6, 1, 2, 1, 1, 0, 1, 2, 7, 0, 2, 0, 1, 2, 0, 157, 3, 14, 1, 10, 3, 0, 160, 5, 3, 2, 0, 157, 0, 1, 0, 0, 1, 10, 3, 0, 160, 5, 3, 2, 0, 157, 0, 1, 0, 4]), (24, [0, 2], []), (20, [7, 2, 4], [30, 4000, 1, 0, 0, 2, 1, 11, -1, 0, 0]), (20, [7, 2, 4], [30, -4000, -1, 0, 0, -2, 1, 11, 1, 0, 0])], [], [], [(20, [0], [50, 1, 1, 157, 160, 2, 7, 0, 2, 0, 1, 2, 0, 157, 3, 14, 1, 10, 3, 0, 160, 5, 3, 2, 0, 157, 0, 1, 0, 0, 1, 10, 3, 0, 160, 5, 3, 2, 0, 157, 0, 1, 0, 4]), (20, [0], [30, 2001, 1, 1, 157])], [], [])
theorem oo_Mo_styleTokens_1 {kA : Nat → ClassId} : or_ok kA GG o_Mo_styleTokens_1 := by
  intro A ta ws vs hD hth hl hk hds hf
  have hl : vs.length = 8 := hl
  have hk : ∀ q ∈ ([(0, (2, 0, 0, [150])), (2, (2, 0, 0, [150])), (4, (0, 0, 0, [])), (7, (0, 0, 4001, []))] : List (Nat × tv_T)), tv_ok ta q.2 (n_v vs q.1) := hk
  obtain ⟨t0, hk⟩ := List.forall_mem_cons.mp hk
  have t0 : tv_ok ta (2, 0, 0, [150]) (n_v vs 0) := t0
  have r0 : ta (v_ad (n_v vs 0)) = some 150 := tv_rg t0
  obtain ⟨t2, hk⟩ := List.forall_mem_cons.mp hk
  have t2 : tv_ok ta (2, 0, 0, [150]) (n_v vs 2) := t2
  have r2 : ta (v_ad (n_v vs 2)) = some 150 := tv_rg t2
  obtain ⟨t4, hk⟩ := List.forall_mem_cons.mp hk
  have t4 : tv_ok ta (0, 0, 0, []) (n_v vs 4) := t4
  have k4 : 0 ≤ v_iv (n_v vs 4) ∧ v_iv (n_v vs 4) ≤ 0 := tv_rng t4
  obtain ⟨t7, hk⟩ := List.forall_mem_cons.mp hk
  have t7 : tv_ok ta (0, 0, 4001, []) (n_v vs 7) := t7
  have k7 : 0 ≤ v_iv (n_v vs 7) ∧ v_iv (n_v vs 7) ≤ 4001 := tv_rng t7
  have hf : fc_ok [(8, [4], [0]), (20, [2, 4], [50, 2, 1, 157, 11, 160, 2, 16, 0, 7, 4, 3, 2, 0, 157, 1, 1, 4, 3, 2, 0, 11, 0, 1, 3, 6, 1, 2, 1, 1, 0, 1, 2, 7, 0, 2, 0, 1, 2, 0, 157, 3, 14, 1, 10, 3, 0, 160, 5, 3, 2, 0, 157, 0, 1, 0, 0, 1, 10, 3, 0, 160, 5, 3, 2, 0, 157, 0, 1, 0, 4]), (24, [0, 2], []), (20, [7, 2, 4], [30, 4000, 1, 0, 0, 2, 1, 11, -1, 0, 0]), (20, [7, 2, 4], [30, -4000, -1, 0, 0, -2, 1, 11, 1, 0, 0])] ta ws vs := hf
  obtain ⟨f0, hf⟩ := fc_un (show (8 : Nat) < 100 from by decide) hf
  have f0 : v_iv (n_v vs 4) = 0 := f0
  obtain ⟨f1, hf⟩ := fc_un (show (20 : Nat) < 100 from by decide) hf
  have f1 : ((w_fi ws (n_v vs 2) 157 + v_iv (n_v vs 4)) ≤ (w_fi ws (n_v vs 2) 11 + 1)) ∧ ((v_iv (n_v vs 4) = 1) ∨ ((1 ≤ w_fi ws (n_v vs 2) 157) ∧ ((w_ei ws (w_ar ws (n_v vs 2) 160) ((w_fi ws (n_v vs 2) 157 - 1)) = 0) ∨ (w_ei ws (w_ar ws (n_v vs 2) 160) ((w_fi ws (n_v vs 2) 157 - 1)) = 4)))) := f1
  obtain ⟨f2, hf⟩ := fc_un (show (24 : Nat) < 100 from by decide) hf
  have f2 : n_v vs 0 = n_v vs 2 := f2
  obtain ⟨f3, hf⟩ := fc_un (show (20 : Nat) < 100 from by decide) hf
  have f3 : 1 * v_iv (n_v vs 7) + (2 * w_fi ws (n_v vs 2) 11 + ((-1) * v_iv (n_v vs 4) + 0)) ≤ 4000 := f3
  obtain ⟨f4, hf⟩ := fc_un (show (20 : Nat) < 100 from by decide) hf
  have f4 : (-1) * v_iv (n_v vs 7) + ((-2) * w_fi ws (n_v vs 2) 11 + (1 * v_iv (n_v vs 4) + 0)) ≤ (-4000) := f4
  have q2 : n_v vs 2 = n_v vs 0 := f2.symm
  rw [q2] at f1
  rw [q2] at f3
  rw [q2] at f4
  have cr_0_160 : ta (w_ar ws (n_v vs 0) 160) = some 259 := tv_rg (th_fd hD hth r0 (g := GG_150) rfl (k := 160) (t := (2, 0, 0, [259])) rfl rfl)
  have hK_0_160 : ∀ j : Int, 0 ≤ j → j < 2010 → 0 ≤ w_ei ws (w_ar ws (n_v vs 0) 160) j ∧ w_ei ws (w_ar ws (n_v vs 0) 160) j ≤ 4 := fun j h0 h1 => th_el hD hth cr_0_160 (kd := 0) (n := 2010) (m := 2010) (lo := 0) (hi := 4) (rs := []) (L := []) rfl (by decide) (j := j.toNat) (by omega)
  have kz_0_11 : 0 ≤ w_fi ws (n_v vs 0) 11 ∧ w_fi ws (n_v vs 0) 11 ≤ 2000 := tv_rng (th_fd hD hth r0 (g := GG_150) rfl (k := 11) (t := (0, 0, 2000, [])) rfl rfl)
  have kz_0_157 : 0 ≤ w_fi ws (n_v vs 0) 157 ∧ w_fi ws (n_v vs 0) 157 ≤ 2010 := tv_rng (th_fd hD hth r0 (g := GG_150) rfl (k := 157) (t := (0, 0, 2010, [])) rfl rfl)
  have nf0 : fc_1 (20, [0], [50, 1, 1, 157, 160, 2, 7, 0, 2, 0, 1, 2, 0, 157, 3, 14, 1, 10, 3, 0, 160, 5, 3, 2, 0, 157, 0, 1, 0, 0, 1, 10, 3, 0, 160, 5, 3, 2, 0, 157, 0, 1, 0, 4]) ws (vs) := by
    refine ⟨fun n hn => ?_, ?_⟩
    · have hn : n ∈ [0] := hn
      rw [hl]
      simp only [List.mem_cons, List.not_mem_nil, or_false] at hn
      show n < 8; omega
    · show (1 ≤ w_fi ws (n_v vs 0) 157) ∧ ((w_ei ws (w_ar ws (n_v vs 0) 160) ((w_fi ws (n_v vs 0) 157 - 1)) = 0) ∨ (w_ei ws (w_ar ws (n_v vs 0) 160) ((w_fi ws (n_v vs 0) 157 - 1)) = 4))
      first | omega | grind
  have nf1 : fc_1 (20, [0], [30, 2001, 1, 1, 157]) ws (vs) := by
    refine ⟨fun n hn => ?_, ?_⟩
    · have hn : n ∈ [0] := hn
      rw [hl]
      simp only [List.mem_cons, List.not_mem_nil, or_false] at hn
      show n < 8; omega
    · show 1 * w_fi ws (n_v vs 0) 157 + 0 ≤ 2001
      omega
  refine ⟨(fun _ h => (by cases h)), [], trivial, ?_, (fun _ h => (by cases h))⟩
  rw [List.append_nil]
  exact List.forall_mem_cons.mpr ⟨⟨show (20 : Nat) < 100 from by decide, nf0⟩, List.forall_mem_cons.mpr ⟨⟨show (20 : Nat) < 100 from by decide, nf1⟩, (fun _ h => (by cases h))⟩⟩
def o_Mo_styleTokens_2 : or_T := (21, 8, [(0, (2, 0, 0, [150])), (2, (2, 0, 0, [150])), (4, (0, 1, 1, [])), (7, (0, 0, 4001, []))], [(8, [4], [1]), (20, [2, 4], [50, 2, 1, 157, 11, 160, 2, 16, 0, 7, 4, 3, 2, 0, 157, 1, 1, 4, 3, 2, 0, 11, 0, 1, 3, 6, 1, 2, 1, 1, 0, 1, 2, 7, 0, 2, 0, 1, 2, 0, 157, 3, 14, 1, 10, 3, 0, 160, 5, 3, 2, 0, 157, 0, 1, 0, 0, 1, 10, 3, 0, 160, 5, 3, 2, 0, 157, 0, 1, 0, 4]), (24, [0, 2], []), (20, [7, 2, 4], [30, 4000, 1, 0, 0, 2, 1, 11, -1, 0, 0]), (20, [7, 2, 4], [30, -4000, -1, 0, 0, -2, 1, 11, 1, 0, 0])], [], [(0, 0, 4001, [])], [(20, [2], [50, 2, 0, 157, 11, 0, 3, 2, 0, 157, 2, 0, 11]), (20, [8, 2], [30, -4001, -1, 0, 0, -2, 1, 11]), (24, [0, 2], [])], [(8, 7, 0, 0)], [])
theorem oo_Mo_styleTokens_2 {kA : Nat → ClassId} : or_ok kA GG o_Mo_styleTokens_2 := by
  intro A ta ws vs hD hth hl hk hds hf
  have hl : vs.length = 8 := hl
  have hk : ∀ q ∈ ([(0, (2, 0, 0, [150])), (2, (2, 0, 0, [150])), (4, (0, 1, 1, [])), (7, (0, 0, 4001, []))] : List (Nat × tv_T)), tv_ok ta q.2 (n_v vs q.1) := hk
  obtain ⟨t0, hk⟩ := List.forall_mem_cons.mp hk
  have t0 : tv_ok ta (2, 0, 0, [150]) (n_v vs 0) := t0
  have r0 : ta (v_ad (n_v vs 0)) = some 150 := tv_rg t0
  obtain ⟨t2, hk⟩ := List.forall_mem_cons.mp hk
  have t2 : tv_ok ta (2, 0, 0, [150]) (n_v vs 2) := t2
  have r2 : ta (v_ad (n_v vs 2)) = some 150 := tv_rg t2
  obtain ⟨t4, hk⟩ := List.forall_mem_cons.mp hk
  have t4 : tv_ok ta (0, 1, 1, []) (n_v vs 4) := t4
  have k4 : 1 ≤ v_iv (n_v vs 4) ∧ v_iv (n_v vs 4) ≤ 1 := tv_rng t4
  obtain ⟨t7, hk⟩ := List.forall_mem_cons.mp hk
  have t7 : tv_ok ta (0, 0, 4001, []) (n_v vs 7) := t7
  have k7 : 0 ≤ v_iv (n_v vs 7) ∧ v_iv (n_v vs 7) ≤ 4001 := tv_rng t7
  have hf : fc_ok [(8, [4], [1]), (20, [2, 4], [50, 2, 1, 157, 11, 160, 2, 16, 0, 7, 4, 3, 2, 0, 157, 1, 1, 4, 3, 2, 0, 11, 0, 1, 3, 6, 1, 2, 1, 1, 0, 1, 2, 7, 0, 2, 0, 1, 2, 0, 157, 3, 14, 1, 10, 3, 0, 160, 5, 3, 2, 0, 157, 0, 1, 0, 0, 1, 10, 3, 0, 160, 5, 3, 2, 0, 157, 0, 1, 0, 4]), (24, [0, 2], []), (20, [7, 2, 4], [30, 4000, 1, 0, 0, 2, 1, 11, -1, 0, 0]), (20, [7, 2, 4], [30, -4000, -1, 0, 0, -2, 1, 11, 1, 0, 0])] ta ws vs := hf
  obtain ⟨f0, hf⟩ := fc_un (show (8 : Nat) < 100 from by decide) hf
  have f0 : v_iv (n_v vs 4) ≠ 0 := f0
  obtain ⟨f1, hf⟩ := fc_un (show (20 : Nat) < 100 from by decide) hf
  have f1 : ((w_fi ws (n_v vs 2) 157 + v_iv (n_v vs 4)) ≤ (w_fi ws (n_v vs 2) 11 + 1)) ∧ ((v_iv (n_v vs 4) = 1) ∨ ((1 ≤ w_fi ws (n_v vs 2) 157) ∧ ((w_ei ws (w_ar ws (n_v vs 2) 160) ((w_fi ws (n_v vs 2) 157 - 1)) = 0) ∨ (w_ei ws (w_ar ws (n_v vs 2) 160) ((w_fi ws (n_v vs 2) 157 - 1)) = 4)))) := f1
  obtain ⟨f2, hf⟩ := fc_un (show (24 : Nat) < 100 from by decide) hf
  have f2 : n_v vs 0 = n_v vs 2 := f2
  obtain ⟨f3, hf⟩ := fc_un (show (20 : Nat) < 100 from by decide) hf
  have f3 : 1 * v_iv (n_v vs 7) + (2 * w_fi ws (n_v vs 2) 11 + ((-1) * v_iv (n_v vs 4) + 0)) ≤ 4000 := f3
  obtain ⟨f4, hf⟩ := fc_un (show (20 : Nat) < 100 from by decide) hf
  have f4 : (-1) * v_iv (n_v vs 7) + ((-2) * w_fi ws (n_v vs 2) 11 + (1 * v_iv (n_v vs 4) + 0)) ≤ (-4000) := f4
  have q2 : n_v vs 2 = n_v vs 0 := f2.symm
  rw [q2] at f1
  rw [q2] at f3
  rw [q2] at f4
  have cr_0_160 : ta (w_ar ws (n_v vs 0) 160) = some 259 := tv_rg (th_fd hD hth r0 (g := GG_150) rfl (k := 160) (t := (2, 0, 0, [259])) rfl rfl)
  have hK_0_160 : ∀ j : Int, 0 ≤ j → j < 2010 → 0 ≤ w_ei ws (w_ar ws (n_v vs 0) 160) j ∧ w_ei ws (w_ar ws (n_v vs 0) 160) j ≤ 4 := fun j h0 h1 => th_el hD hth cr_0_160 (kd := 0) (n := 2010) (m := 2010) (lo := 0) (hi := 4) (rs := []) (L := []) rfl (by decide) (j := j.toNat) (by omega)
  have kz_0_11 : 0 ≤ w_fi ws (n_v vs 0) 11 ∧ w_fi ws (n_v vs 0) 11 ≤ 2000 := tv_rng (th_fd hD hth r0 (g := GG_150) rfl (k := 11) (t := (0, 0, 2000, [])) rfl rfl)
  have kz_0_157 : 0 ≤ w_fi ws (n_v vs 0) 157 ∧ w_fi ws (n_v vs 0) 157 ≤ 2010 := tv_rng (th_fd hD hth r0 (g := GG_150) rfl (k := 157) (t := (0, 0, 2010, [])) rfl rfl)
  obtain ⟨x, ex, hx⟩ := iv_ex (ta := ta) (lo := 0) (hi := 4001) (z := 0 + (1 * v_iv (n_v vs 7) + 0)) (by omega) (by omega) (by omega) (by omega)
  have ex2 : v_iv (Value.int x) = 0 + (1 * v_iv (n_v vs 7) + 0) := ex
  have ex3 : 0 ≤ v_iv (Value.int x) ∧ v_iv (Value.int x) ≤ 4001 := tv_rng hx
  have e_0 : n_v (vs ++ [Value.int x]) 0 = n_v vs 0 := n_v_old (by rw [hl]; decide)
  have e_2 : n_v (vs ++ [Value.int x]) 2 = n_v vs 2 := n_v_old (by rw [hl]; decide)
  have e_8 : n_v (vs ++ [Value.int x]) 8 = Value.int x := n_v_new hl
  have nf0 : fc_1 (20, [2], [50, 2, 0, 157, 11, 0, 3, 2, 0, 157, 2, 0, 11]) ws (vs ++ [Value.int x]) := by
    refine ⟨fun n hn => ?_, ?_⟩
    · have hn : n ∈ [2] := hn
      rw [List.length_append, hl]
      simp only [List.mem_cons, List.not_mem_nil, or_false] at hn
      show n < 8 + 1; omega
    · show w_fi ws (n_v (vs ++ [Value.int x]) 2) 157 ≤ w_fi ws (n_v (vs ++ [Value.int x]) 2) 11
      rw [e_2]
      rw [q2]
      first | omega | grind
  have nf1 : fc_1 (20, [8, 2], [30, -4001, -1, 0, 0, -2, 1, 11]) ws (vs ++ [Value.int x]) := by
    refine ⟨fun n hn => ?_, ?_⟩
    · have hn : n ∈ [8, 2] := hn
      rw [List.length_append, hl]
      simp only [List.mem_cons, List.not_mem_nil, or_false] at hn
      show n < 8 + 1; omega
    · show (-1) * v_iv (n_v (vs ++ [Value.int x]) 8) + ((-2) * w_fi ws (n_v (vs ++ [Value.int x]) 2) 11 + 0) ≤ (-4001)
      rw [e_2]
      rw [e_8]
      rw [q2]
      omega
  have nf2 : fc_1 (24, [0, 2], []) ws (vs ++ [Value.int x]) := by
    refine ⟨fun n hn => ?_, ?_⟩
    · have hn : n ∈ [0, 2] := hn
      rw [List.length_append, hl]
      simp only [List.mem_cons, List.not_mem_nil, or_false] at hn
      show n < 8 + 1; omega
    · show n_v (vs ++ [Value.int x]) 0 = n_v (vs ++ [Value.int x]) 2
      first | rfl | simp only [e_0, e_2, q2]
  obtain ⟨x0, e0, _, _⟩ := tv_int t7 rfl
  have e1 : v_iv (n_v vs 7) = x0.toInt := by rw [e0]; rfl
  have ho : sy_ofs (vs ++ [Value.int x]) (8, 7, 0, 0) := by
    refine ⟨x, x0, by rw [List.getElem?_append_right (by rw [hl]; decide), hl]; rfl, ?_, ?_, ?_⟩
    · rw [List.getElem?_append_left (by rw [hl]; decide)]; exact n_v_some (by rw [hl]; decide) e0
    · show x0.toInt + 0 ≤ x.toInt; omega
    · show x.toInt ≤ x0.toInt + 0; omega
  exact ⟨(fun _ h => (by cases h)), [Value.int x], ag_one hx, List.forall_mem_cons.mpr ⟨⟨show (20 : Nat) < 100 from by decide, nf0⟩, List.forall_mem_cons.mpr ⟨⟨show (20 : Nat) < 100 from by decide, nf1⟩, List.forall_mem_cons.mpr ⟨⟨show (24 : Nat) < 100 from by decide, nf2⟩, (fun _ h => (by cases h))⟩⟩⟩, List.forall_mem_cons.mpr ⟨ho, (fun _ h => (by cases h))⟩⟩
def o_Mo_styleTokens_3 : or_T := (60, 11, [(0, (2, 0, 0, [150])), (2, (2, 0, 0, [150])), (5, (0, 0, 2000, [])), (6, (0, 0, 4001, [])), (7, (0, -1, -1, [])), (8, (0, 32, 32, [])), (9, (0, -1, -1, [])), (10, (0, 10, 10, []))], [(7, [9, 10], [1]), (20, [5, 2, 9], [50, 1, 1, 1010, 1001, 4, 11, 0, 6, 4, 2, 1, 0, 0, 1, 2, 1, 10, 1, 2, 1, 2, 9, 5, 3, 1, 1, 1, 0, 0, 256]), (20, [2, 5, 9], [50, 1, 0, 10, 4, 7, 0, 3, 2, 0, 10, 1, 1, 1, 2, 1, 2, 0, -1]), (9, [5, 2], [11]), (7, [7, 8], [1]), (20, [5, 2, 7], [50, 1, 1, 1010, 1001, 4, 11, 0, 6, 4, 2, 1, 0, 0, 1, 2, 1, 10, 1, 2, 1, 2, 9, 5, 3, 1, 1, 1, 0, 0, 256]), (20, [2, 5, 7], [50, 1, 0, 10, 4, 7, 0, 3, 2, 0, 10, 1, 1, 1, 2, 1, 2, 0, -1]), (20, [2], [50, 2, 0, 157, 11, 0, 3, 2, 0, 157, 2, 0, 11]), (20, [6, 2], [30, -4001, -1, 0, 0, -2, 1, 11]), (24, [0, 2], [])], [], [(0, 0, 4001, [])], [(20, [2], [50, 2, 0, 157, 11, 0, 3, 2, 0, 157, 2, 0, 11]), (20, [11, 2], [30, -4001, -1, 0, 0, -2, 1, 11]), (24, [0, 2], [])], [(11, 6, 0, 0)], [])
theorem oo_Mo_styleTokens_3 {kA : Nat → ClassId} : or_ok kA GG o_Mo_styleTokens_3 := by
  intro A ta ws vs hD hth hl hk hds hf
  have hl : vs.length = 11 := hl
  have hk : ∀ q ∈ ([(0, (2, 0, 0, [150])), (2, (2, 0, 0, [150])), (5, (0, 0, 2000, [])), (6, (0, 0, 4001, [])), (7, (0, -1, -1, [])), (8, (0, 32, 32, [])), (9, (0, -1, -1, [])), (10, (0, 10, 10, []))] : List (Nat × tv_T)), tv_ok ta q.2 (n_v vs q.1) := hk
  obtain ⟨t0, hk⟩ := List.forall_mem_cons.mp hk
  have t0 : tv_ok ta (2, 0, 0, [150]) (n_v vs 0) := t0
  have r0 : ta (v_ad (n_v vs 0)) = some 150 := tv_rg t0
  obtain ⟨t2, hk⟩ := List.forall_mem_cons.mp hk
  have t2 : tv_ok ta (2, 0, 0, [150]) (n_v vs 2) := t2
  have r2 : ta (v_ad (n_v vs 2)) = some 150 := tv_rg t2
  obtain ⟨t5, hk⟩ := List.forall_mem_cons.mp hk
  have t5 : tv_ok ta (0, 0, 2000, []) (n_v vs 5) := t5
  have k5 : 0 ≤ v_iv (n_v vs 5) ∧ v_iv (n_v vs 5) ≤ 2000 := tv_rng t5
  obtain ⟨t6, hk⟩ := List.forall_mem_cons.mp hk
  have t6 : tv_ok ta (0, 0, 4001, []) (n_v vs 6) := t6
  have k6 : 0 ≤ v_iv (n_v vs 6) ∧ v_iv (n_v vs 6) ≤ 4001 := tv_rng t6
  obtain ⟨t7, hk⟩ := List.forall_mem_cons.mp hk
  have t7 : tv_ok ta (0, -1, -1, []) (n_v vs 7) := t7
  have k7 : (-1) ≤ v_iv (n_v vs 7) ∧ v_iv (n_v vs 7) ≤ (-1) := tv_rng t7
  obtain ⟨t8, hk⟩ := List.forall_mem_cons.mp hk
  have t8 : tv_ok ta (0, 32, 32, []) (n_v vs 8) := t8
  have k8 : 32 ≤ v_iv (n_v vs 8) ∧ v_iv (n_v vs 8) ≤ 32 := tv_rng t8
  obtain ⟨t9, hk⟩ := List.forall_mem_cons.mp hk
  have t9 : tv_ok ta (0, -1, -1, []) (n_v vs 9) := t9
  have k9 : (-1) ≤ v_iv (n_v vs 9) ∧ v_iv (n_v vs 9) ≤ (-1) := tv_rng t9
  obtain ⟨t10, hk⟩ := List.forall_mem_cons.mp hk
  have t10 : tv_ok ta (0, 10, 10, []) (n_v vs 10) := t10
  have k10 : 10 ≤ v_iv (n_v vs 10) ∧ v_iv (n_v vs 10) ≤ 10 := tv_rng t10
  have hf : fc_ok [(7, [9, 10], [1]), (20, [5, 2, 9], [50, 1, 1, 1010, 1001, 4, 11, 0, 6, 4, 2, 1, 0, 0, 1, 2, 1, 10, 1, 2, 1, 2, 9, 5, 3, 1, 1, 1, 0, 0, 256]), (20, [2, 5, 9], [50, 1, 0, 10, 4, 7, 0, 3, 2, 0, 10, 1, 1, 1, 2, 1, 2, 0, -1]), (9, [5, 2], [11]), (7, [7, 8], [1]), (20, [5, 2, 7], [50, 1, 1, 1010, 1001, 4, 11, 0, 6, 4, 2, 1, 0, 0, 1, 2, 1, 10, 1, 2, 1, 2, 9, 5, 3, 1, 1, 1, 0, 0, 256]), (20, [2, 5, 7], [50, 1, 0, 10, 4, 7, 0, 3, 2, 0, 10, 1, 1, 1, 2, 1, 2, 0, -1]), (20, [2], [50, 2, 0, 157, 11, 0, 3, 2, 0, 157, 2, 0, 11]), (20, [6, 2], [30, -4001, -1, 0, 0, -2, 1, 11]), (24, [0, 2], [])] ta ws vs := hf
  obtain ⟨f0, hf⟩ := fc_un (show (7 : Nat) < 100 from by decide) hf
  have f0 : v_iv (n_v vs 9) ≠ v_iv (n_v vs 10) := f0
  obtain ⟨f1, hf⟩ := fc_un (show (20 : Nat) < 100 from by decide) hf
  have f1 : ((v_iv (n_v vs 5) + 1) ≤ w_fi ws (n_v vs 2) 10) → (v_iv (n_v vs 9) = (w_ei ws (w_ar ws (n_v vs 2) 1) (v_iv (n_v vs 5)) % 256)) := f1
  obtain ⟨f2, hf⟩ := fc_un (show (20 : Nat) < 100 from by decide) hf
  have f2 : (w_fi ws (n_v vs 2) 10 ≤ v_iv (n_v vs 5)) → (v_iv (n_v vs 9) = (-1)) := f2
  obtain ⟨f3, hf⟩ := fc_un (show (9 : Nat) < 100 from by decide) hf
  have f3 : n_v vs 5 = w_fd ws (v_ad (n_v vs 2)) 11 := f3
  obtain ⟨f4, hf⟩ := fc_un (show (7 : Nat) < 100 from by decide) hf
  have f4 : v_iv (n_v vs 7) ≠ v_iv (n_v vs 8) := f4
  obtain ⟨f5, hf⟩ := fc_un (show (20 : Nat) < 100 from by decide) hf
  have f5 : ((v_iv (n_v vs 5) + 1) ≤ w_fi ws (n_v vs 2) 10) → (v_iv (n_v vs 7) = (w_ei ws (w_ar ws (n_v vs 2) 1) (v_iv (n_v vs 5)) % 256)) := f5
  obtain ⟨f6, hf⟩ := fc_un (show (20 : Nat) < 100 from by decide) hf
  have f6 : (w_fi ws (n_v vs 2) 10 ≤ v_iv (n_v vs 5)) → (v_iv (n_v vs 7) = (-1)) := f6
  obtain ⟨f7, hf⟩ := fc_un (show (20 : Nat) < 100 from by decide) hf
  have f7 : w_fi ws (n_v vs 2) 157 ≤ w_fi ws (n_v vs 2) 11 := f7
  obtain ⟨f8, hf⟩ := fc_un (show (20 : Nat) < 100 from by decide) hf
  have f8 : (-1) * v_iv (n_v vs 6) + ((-2) * w_fi ws (n_v vs 2) 11 + 0) ≤ (-4001) := f8
  obtain ⟨f9, hf⟩ := fc_un (show (24 : Nat) < 100 from by decide) hf
  have f9 : n_v vs 0 = n_v vs 2 := f9
  have q2 : n_v vs 2 = n_v vs 0 := f9.symm
  rw [q2] at f1
  rw [q2] at f2
  rw [q2] at f3
  rw [q2] at f5
  rw [q2] at f6
  rw [q2] at f7
  rw [q2] at f8
  have cr_0_1 : ta (w_ar ws (n_v vs 0) 1) = some 151 := tv_rg (th_fd hD hth r0 (g := GG_150) rfl (k := 1) (t := (2, 0, 0, [151])) rfl rfl)
  have g3 : v_iv (n_v vs 5) = w_fi ws (n_v vs 0) 11 := congrArg v_iv f3
  have hK_0_1 : ∀ j : Int, 0 ≤ j → j < 2000 → (-128) ≤ w_ei ws (w_ar ws (n_v vs 0) 1) j ∧ w_ei ws (w_ar ws (n_v vs 0) 1) j ≤ 127 := fun j h0 h1 => th_el hD hth cr_0_1 (kd := 1) (n := 2000) (m := 2000) (lo := (-128)) (hi := 127) (rs := []) (L := []) rfl (by decide) (j := j.toNat) (by omega)
  have kz_0_10 : 0 ≤ w_fi ws (n_v vs 0) 10 ∧ w_fi ws (n_v vs 0) 10 ≤ 2000 := tv_rng (th_fd hD hth r0 (g := GG_150) rfl (k := 10) (t := (0, 0, 2000, [])) rfl rfl)
  have kz_0_11 : 0 ≤ w_fi ws (n_v vs 0) 11 ∧ w_fi ws (n_v vs 0) 11 ≤ 2000 := tv_rng (th_fd hD hth r0 (g := GG_150) rfl (k := 11) (t := (0, 0, 2000, [])) rfl rfl)
  have kz_0_157 : 0 ≤ w_fi ws (n_v vs 0) 157 ∧ w_fi ws (n_v vs 0) 157 ≤ 2010 := tv_rng (th_fd hD hth r0 (g := GG_150) rfl (k := 157) (t := (0, 0, 2010, [])) rfl rfl)
  obtain ⟨x, ex, hx⟩ := iv_ex (ta := ta) (lo := 0) (hi := 4001) (z := 0 + (1 * v_iv (n_v vs 6) + 0)) (by omega) (by omega) (by omega) (by omega)
  have ex2 : v_iv (Value.int x) = 0 + (1 * v_iv (n_v vs 6) + 0) := ex
  have ex3 : 0 ≤ v_iv (Value.int x) ∧ v_iv (Value.int x) ≤ 4001 := tv_rng hx
  have e_0 : n_v (vs ++ [Value.int x]) 0 = n_v vs 0 := n_v_old (by rw [hl]; decide)
  have e_2 : n_v (vs ++ [Value.int x]) 2 = n_v vs 2 := n_v_old (by rw [hl]; decide)
  have e_11 : n_v (vs ++ [Value.int x]) 11 = Value.int x := n_v_new hl
  have nf0 : fc_1 (20, [2], [50, 2, 0, 157, 11, 0, 3, 2, 0, 157, 2, 0, 11]) ws (vs ++ [Value.int x]) := by
    refine ⟨fun n hn => ?_, ?_⟩
    · have hn : n ∈ [2] := hn
      rw [List.length_append, hl]
      simp only [List.mem_cons, List.not_mem_nil, or_false] at hn
      show n < 11 + 1; omega
    · show w_fi ws (n_v (vs ++ [Value.int x]) 2) 157 ≤ w_fi ws (n_v (vs ++ [Value.int x]) 2) 11
      rw [e_2]
      rw [q2]
      first | omega | grind
  have nf1 : fc_1 (20, [11, 2], [30, -4001, -1, 0, 0, -2, 1, 11]) ws (vs ++ [Value.int x]) := by
    refine ⟨fun n hn => ?_, ?_⟩
    · have hn : n ∈ [11, 2] := hn
      rw [List.length_append, hl]
      simp only [List.mem_cons, List.not_mem_nil, or_false] at hn
      show n < 11 + 1; omega
    · show (-1) * v_iv (n_v (vs ++ [Value.int x]) 11) + ((-2) * w_fi ws (n_v (vs ++ [Value.int x]) 2) 11 + 0) ≤ (-4001)
      rw [e_2]
      rw [e_11]
      rw [q2]
      omega
  have nf2 : fc_1 (24, [0, 2], []) ws (vs ++ [Value.int x]) := by
    refine ⟨fun n hn => ?_, ?_⟩
    · have hn : n ∈ [0, 2] := hn
      rw [List.length_append, hl]
      simp only [List.mem_cons, List.not_mem_nil, or_false] at hn
      show n < 11 + 1; omega
    · show n_v (vs ++ [Value.int x]) 0 = n_v (vs ++ [Value.int x]) 2
      first | rfl | simp only [e_0, e_2, q2]
  obtain ⟨x0, e0, _, _⟩ := tv_int t6 rfl
  have e1 : v_iv (n_v vs 6) = x0.toInt := by rw [e0]; rfl
  have ho : sy_ofs (vs ++ [Value.int x]) (11, 6, 0, 0) := by
    refine ⟨x, x0, by rw [List.getElem?_append_right (by rw [hl]; decide), hl]; rfl, ?_, ?_, ?_⟩
    · rw [List.getElem?_append_left (by rw [hl]; decide)]; exact n_v_some (by rw [hl]; decide) e0
    · show x0.toInt + 0 ≤ x.toInt; omega
    · show x.toInt ≤ x0.toInt + 0; omega
  exact ⟨(fun _ h => (by cases h)), [Value.int x], ag_one hx, List.forall_mem_cons.mpr ⟨⟨show (20 : Nat) < 100 from by decide, nf0⟩, List.forall_mem_cons.mpr ⟨⟨show (20 : Nat) < 100 from by decide, nf1⟩, List.forall_mem_cons.mpr ⟨⟨show (24 : Nat) < 100 from by decide, nf2⟩, (fun _ h => (by cases h))⟩⟩⟩, List.forall_mem_cons.mpr ⟨ho, (fun _ h => (by cases h))⟩⟩
def o_Mo_styleTokens_4 : or_T := (60, 11, [(0, (2, 0, 0, [150])), (2, (2, 0, 0, [150])), (5, (0, 0, 1999, [])), (6, (0, 0, 4001, [])), (7, (0, -1, -1, [])), (8, (0, 32, 32, [])), (9, (0, 0, 255, [])), (10, (0, 10, 10, []))], [(7, [9, 10], [1]), (20, [5, 2, 9], [50, 1, 1, 1010, 1001, 4, 11, 0, 6, 4, 2, 1, 0, 0, 1, 2, 1, 10, 1, 2, 1, 2, 9, 5, 3, 1, 1, 1, 0, 0, 256]), (20, [2, 5, 9], [50, 1, 0, 10, 4, 7, 0, 3, 2, 0, 10, 1, 1, 1, 2, 1, 2, 0, -1]), (9, [5, 2], [11]), (7, [7, 8], [1]), (20, [5, 2, 7], [50, 1, 1, 1010, 1001, 4, 11, 0, 6, 4, 2, 1, 0, 0, 1, 2, 1, 10, 1, 2, 1, 2, 9, 5, 3, 1, 1, 1, 0, 0, 256]), (20, [2, 5, 7], [50, 1, 0, 10, 4, 7, 0, 3, 2, 0, 10, 1, 1, 1, 2, 1, 2, 0, -1]), (20, [2], [50, 2, 0, 157, 11, 0, 3, 2, 0, 157, 2, 0, 11]), (20, [6, 2], [30, -4001, -1, 0, 0, -2, 1, 11]), (24, [0, 2], [])], [], [(0, 0, 4001, [])], [(20, [2], [50, 2, 0, 157, 11, 0, 3, 2, 0, 157, 2, 0, 11]), (20, [11, 2], [30, -4001, -1, 0, 0, -2, 1, 11]), (24, [0, 2], [])], [(11, 6, 0, 0)], [])
theorem oo_Mo_styleTokens_4 {kA : Nat → ClassId} : or_ok kA GG o_Mo_styleTokens_4 := by
  intro A ta ws vs hD hth hl hk hds hf
  have hl : vs.length = 11 := hl
  have hk : ∀ q ∈ ([(0, (2, 0, 0, [150])), (2, (2, 0, 0, [150])), (5, (0, 0, 1999, [])), (6, (0, 0, 4001, [])), (7, (0, -1, -1, [])), (8, (0, 32, 32, [])), (9, (0, 0, 255, [])), (10, (0, 10, 10, []))] : List (Nat × tv_T)), tv_ok ta q.2 (n_v vs q.1) := hk
  obtain ⟨t0, hk⟩ := List.forall_mem_cons.mp hk
  have t0 : tv_ok ta (2, 0, 0, [150]) (n_v vs 0) := t0
  have r0 : ta (v_ad (n_v vs 0)) = some 150 := tv_rg t0
  obtain ⟨t2, hk⟩ := List.forall_mem_cons.mp hk
  have t2 : tv_ok ta (2, 0, 0, [150]) (n_v vs 2) := t2
  have r2 : ta (v_ad (n_v vs 2)) = some 150 := tv_rg t2
  obtain ⟨t5, hk⟩ := List.forall_mem_cons.mp hk
  have t5 : tv_ok ta (0, 0, 1999, []) (n_v vs 5) := t5
  have k5 : 0 ≤ v_iv (n_v vs 5) ∧ v_iv (n_v vs 5) ≤ 1999 := tv_rng t5
  obtain ⟨t6, hk⟩ := List.forall_mem_cons.mp hk
  have t6 : tv_ok ta (0, 0, 4001, []) (n_v vs 6) := t6
  have k6 : 0 ≤ v_iv (n_v vs 6) ∧ v_iv (n_v vs 6) ≤ 4001 := tv_rng t6
  obtain ⟨t7, hk⟩ := List.forall_mem_cons.mp hk
  have t7 : tv_ok ta (0, -1, -1, []) (n_v vs 7) := t7
  have k7 : (-1) ≤ v_iv (n_v vs 7) ∧ v_iv (n_v vs 7) ≤ (-1) := tv_rng t7
  obtain ⟨t8, hk⟩ := List.forall_mem_cons.mp hk
  have t8 : tv_ok ta (0, 32, 32, []) (n_v vs 8) := t8
  have k8 : 32 ≤ v_iv (n_v vs 8) ∧ v_iv (n_v vs 8) ≤ 32 := tv_rng t8
  obtain ⟨t9, hk⟩ := List.forall_mem_cons.mp hk
  have t9 : tv_ok ta (0, 0, 255, []) (n_v vs 9) := t9
  have k9 : 0 ≤ v_iv (n_v vs 9) ∧ v_iv (n_v vs 9) ≤ 255 := tv_rng t9
  obtain ⟨t10, hk⟩ := List.forall_mem_cons.mp hk
  have t10 : tv_ok ta (0, 10, 10, []) (n_v vs 10) := t10
  have k10 : 10 ≤ v_iv (n_v vs 10) ∧ v_iv (n_v vs 10) ≤ 10 := tv_rng t10
  have hf : fc_ok [(7, [9, 10], [1]), (20, [5, 2, 9], [50, 1, 1, 1010, 1001, 4, 11, 0, 6, 4, 2, 1, 0, 0, 1, 2, 1, 10, 1, 2, 1, 2, 9, 5, 3, 1, 1, 1, 0, 0, 256]), (20, [2, 5, 9], [50, 1, 0, 10, 4, 7, 0, 3, 2, 0, 10, 1, 1, 1, 2, 1, 2, 0, -1]), (9, [5, 2], [11]), (7, [7, 8], [1]), (20, [5, 2, 7], [50, 1, 1, 1010, 1001, 4, 11, 0, 6, 4, 2, 1, 0, 0, 1, 2, 1, 10, 1, 2, 1, 2, 9, 5, 3, 1, 1, 1, 0, 0, 256]), (20, [2, 5, 7], [50, 1, 0, 10, 4, 7, 0, 3, 2, 0, 10, 1, 1, 1, 2, 1, 2, 0, -1]), (20, [2], [50, 2, 0, 157, 11, 0, 3, 2, 0, 157, 2, 0, 11]), (20, [6, 2], [30, -4001, -1, 0, 0, -2, 1, 11]), (24, [0, 2], [])] ta ws vs := hf
  obtain ⟨f0, hf⟩ := fc_un (show (7 : Nat) < 100 from by decide) hf
  have f0 : v_iv (n_v vs 9) ≠ v_iv (n_v vs 10) := f0
  obtain ⟨f1, hf⟩ := fc_un (show (20 : Nat) < 100 from by decide) hf
  have f1 : ((v_iv (n_v vs 5) + 1) ≤ w_fi ws (n_v vs 2) 10) → (v_iv (n_v vs 9) = (w_ei ws (w_ar ws (n_v vs 2) 1) (v_iv (n_v vs 5)) % 256)) := f1
  obtain ⟨f2, hf⟩ := fc_un (show (20 : Nat) < 100 from by decide) hf
  have f2 : (w_fi ws (n_v vs 2) 10 ≤ v_iv (n_v vs 5)) → (v_iv (n_v vs 9) = (-1)) := f2
  obtain ⟨f3, hf⟩ := fc_un (show (9 : Nat) < 100 from by decide) hf
  have f3 : n_v vs 5 = w_fd ws (v_ad (n_v vs 2)) 11 := f3
  obtain ⟨f4, hf⟩ := fc_un (show (7 : Nat) < 100 from by decide) hf
  have f4 : v_iv (n_v vs 7) ≠ v_iv (n_v vs 8) := f4
  obtain ⟨f5, hf⟩ := fc_un (show (20 : Nat) < 100 from by decide) hf
  have f5 : ((v_iv (n_v vs 5) + 1) ≤ w_fi ws (n_v vs 2) 10) → (v_iv (n_v vs 7) = (w_ei ws (w_ar ws (n_v vs 2) 1) (v_iv (n_v vs 5)) % 256)) := f5
  obtain ⟨f6, hf⟩ := fc_un (show (20 : Nat) < 100 from by decide) hf
  have f6 : (w_fi ws (n_v vs 2) 10 ≤ v_iv (n_v vs 5)) → (v_iv (n_v vs 7) = (-1)) := f6
  obtain ⟨f7, hf⟩ := fc_un (show (20 : Nat) < 100 from by decide) hf
  have f7 : w_fi ws (n_v vs 2) 157 ≤ w_fi ws (n_v vs 2) 11 := f7
  obtain ⟨f8, hf⟩ := fc_un (show (20 : Nat) < 100 from by decide) hf
  have f8 : (-1) * v_iv (n_v vs 6) + ((-2) * w_fi ws (n_v vs 2) 11 + 0) ≤ (-4001) := f8
  obtain ⟨f9, hf⟩ := fc_un (show (24 : Nat) < 100 from by decide) hf
  have f9 : n_v vs 0 = n_v vs 2 := f9
  have q2 : n_v vs 2 = n_v vs 0 := f9.symm
  rw [q2] at f1
  rw [q2] at f2
  rw [q2] at f3
  rw [q2] at f5
  rw [q2] at f6
  rw [q2] at f7
  rw [q2] at f8
  have cr_0_1 : ta (w_ar ws (n_v vs 0) 1) = some 151 := tv_rg (th_fd hD hth r0 (g := GG_150) rfl (k := 1) (t := (2, 0, 0, [151])) rfl rfl)
  have g3 : v_iv (n_v vs 5) = w_fi ws (n_v vs 0) 11 := congrArg v_iv f3
  have hK_0_1 : ∀ j : Int, 0 ≤ j → j < 2000 → (-128) ≤ w_ei ws (w_ar ws (n_v vs 0) 1) j ∧ w_ei ws (w_ar ws (n_v vs 0) 1) j ≤ 127 := fun j h0 h1 => th_el hD hth cr_0_1 (kd := 1) (n := 2000) (m := 2000) (lo := (-128)) (hi := 127) (rs := []) (L := []) rfl (by decide) (j := j.toNat) (by omega)
  have kz_0_10 : 0 ≤ w_fi ws (n_v vs 0) 10 ∧ w_fi ws (n_v vs 0) 10 ≤ 2000 := tv_rng (th_fd hD hth r0 (g := GG_150) rfl (k := 10) (t := (0, 0, 2000, [])) rfl rfl)
  have kz_0_11 : 0 ≤ w_fi ws (n_v vs 0) 11 ∧ w_fi ws (n_v vs 0) 11 ≤ 2000 := tv_rng (th_fd hD hth r0 (g := GG_150) rfl (k := 11) (t := (0, 0, 2000, [])) rfl rfl)
  have kz_0_157 : 0 ≤ w_fi ws (n_v vs 0) 157 ∧ w_fi ws (n_v vs 0) 157 ≤ 2010 := tv_rng (th_fd hD hth r0 (g := GG_150) rfl (k := 157) (t := (0, 0, 2010, [])) rfl rfl)
  obtain ⟨x, ex, hx⟩ := iv_ex (ta := ta) (lo := 0) (hi := 4001) (z := 0 + (1 * v_iv (n_v vs 6) + 0)) (by omega) (by omega) (by omega) (by omega)
  have ex2 : v_iv (Value.int x) = 0 + (1 * v_iv (n_v vs 6) + 0) := ex
  have ex3 : 0 ≤ v_iv (Value.int x) ∧ v_iv (Value.int x) ≤ 4001 := tv_rng hx
  have e_0 : n_v (vs ++ [Value.int x]) 0 = n_v vs 0 := n_v_old (by rw [hl]; decide)
  have e_2 : n_v (vs ++ [Value.int x]) 2 = n_v vs 2 := n_v_old (by rw [hl]; decide)
  have e_11 : n_v (vs ++ [Value.int x]) 11 = Value.int x := n_v_new hl
  have nf0 : fc_1 (20, [2], [50, 2, 0, 157, 11, 0, 3, 2, 0, 157, 2, 0, 11]) ws (vs ++ [Value.int x]) := by
    refine ⟨fun n hn => ?_, ?_⟩
    · have hn : n ∈ [2] := hn
      rw [List.length_append, hl]
      simp only [List.mem_cons, List.not_mem_nil, or_false] at hn
      show n < 11 + 1; omega
    · show w_fi ws (n_v (vs ++ [Value.int x]) 2) 157 ≤ w_fi ws (n_v (vs ++ [Value.int x]) 2) 11
      rw [e_2]
      rw [q2]
      first | omega | grind
  have nf1 : fc_1 (20, [11, 2], [30, -4001, -1, 0, 0, -2, 1, 11]) ws (vs ++ [Value.int x]) := by
    refine ⟨fun n hn => ?_, ?_⟩
    · have hn : n ∈ [11, 2] := hn
      rw [List.length_append, hl]
      simp only [List.mem_cons, List.not_mem_nil, or_false] at hn
      show n < 11 + 1; omega
    · show (-1) * v_iv (n_v (vs ++ [Value.int x]) 11) + ((-2) * w_fi ws (n_v (vs ++ [Value.int x]) 2) 11 + 0) ≤ (-4001)
      rw [e_2]
      rw [e_11]
      rw [q2]
      omega
  have nf2 : fc_1 (24, [0, 2], []) ws (vs ++ [Value.int x]) := by
    refine ⟨fun n hn => ?_, ?_⟩
    · have hn : n ∈ [0, 2] := hn
      rw [List.length_append, hl]
      simp only [List.mem_cons, List.not_mem_nil, or_false] at hn
      show n < 11 + 1; omega
    · show n_v (vs ++ [Value.int x]) 0 = n_v (vs ++ [Value.int x]) 2
      first | rfl | simp only [e_0, e_2, q2]
  obtain ⟨x0, e0, _, _⟩ := tv_int t6 rfl
  have e1 : v_iv (n_v vs 6) = x0.toInt := by rw [e0]; rfl
  have ho : sy_ofs (vs ++ [Value.int x]) (11, 6, 0, 0) := by
    refine ⟨x, x0, by rw [List.getElem?_append_right (by rw [hl]; decide), hl]; rfl, ?_, ?_, ?_⟩
    · rw [List.getElem?_append_left (by rw [hl]; decide)]; exact n_v_some (by rw [hl]; decide) e0
    · show x0.toInt + 0 ≤ x.toInt; omega
    · show x.toInt ≤ x0.toInt + 0; omega
  exact ⟨(fun _ h => (by cases h)), [Value.int x], ag_one hx, List.forall_mem_cons.mpr ⟨⟨show (20 : Nat) < 100 from by decide, nf0⟩, List.forall_mem_cons.mpr ⟨⟨show (20 : Nat) < 100 from by decide, nf1⟩, List.forall_mem_cons.mpr ⟨⟨show (24 : Nat) < 100 from by decide, nf2⟩, (fun _ h => (by cases h))⟩⟩⟩, List.forall_mem_cons.mpr ⟨ho, (fun _ h => (by cases h))⟩⟩
def o_Mo_styleTokens_5 : or_T := (21, 13, [(0, (2, 0, 0, [150])), (2, (2, 0, 0, [150])), (5, (0, 0, 1999, [])), (6, (0, 0, 4001, [])), (7, (0, -1, -1, [])), (8, (0, 32, 32, [])), (9, (0, 10, 10, [])), (10, (0, 10, 10, [])), (11, (0, 1, 1, [])), (12, (0, 1, 2000, []))], [(20, [5, 2, 9], [50, 1, 1, 1010, 1001, 4, 11, 0, 6, 4, 2, 1, 0, 0, 1, 2, 1, 10, 1, 2, 1, 2, 9, 5, 3, 1, 1, 1, 0, 0, 256]), (20, [2, 5, 9], [50, 1, 0, 10, 4, 7, 0, 3, 2, 0, 10, 1, 1, 1, 2, 1, 2, 0, -1]), (20, [5, 2, 7], [50, 1, 1, 1010, 1001, 4, 11, 0, 6, 4, 2, 1, 0, 0, 1, 2, 1, 10, 1, 2, 1, 2, 9, 5, 3, 1, 1, 1, 0, 0, 256]), (20, [2, 5, 7], [50, 1, 0, 10, 4, 7, 0, 3, 2, 0, 10, 1, 1, 1, 2, 1, 2, 0, -1]), (24, [0, 2], []), (101, [2, 12], [11]), (1, [12, 5, 11], []), (9, [5, 2], [11]), (7, [9, 10], [0]), (20, [5, 2, 9], [50, 1, 1, 1010, 1001, 4, 11, 0, 6, 4, 2, 1, 0, 0, 1, 2, 1, 10, 1, 2, 1, 2, 9, 5, 3, 1, 1, 1, 0, 0, 256]), (20, [2, 5, 9], [50, 1, 0, 10, 4, 7, 0, 3, 2, 0, 10, 1, 1, 1, 2, 1, 2, 0, -1]), (7, [7, 8], [1]), (20, [5, 2, 7], [50, 1, 1, 1010, 1001, 4, 11, 0, 6, 4, 2, 1, 0, 0, 1, 2, 1, 10, 1, 2, 1, 2, 9, 5, 3, 1, 1, 1, 0, 0, 256]), (20, [2, 5, 7], [50, 1, 0, 10, 4, 7, 0, 3, 2, 0, 10, 1, 1, 1, 2, 1, 2, 0, -1]), (20, [2], [50, 2, 0, 157, 11, 0, 3, 2, 0, 157, 2, 0, 11]), (20, [6, 2], [30, -4001, -1, 0, 0, -2, 1, 11])], [], [], [(20, [2], [50, 2, 0, 157, 11, 0, 3, 2, 0, 157, 2, 0, 11]), (20, [6, 2], [30, -4001, -1, 0, 0, -2, 1, 11])], [], [(12, 5, 1, 1)])
theorem oo_Mo_styleTokens_5 {kA : Nat → ClassId} : or_ok kA GG o_Mo_styleTokens_5 := by
  intro A ta ws vs hD hth hl hk hds hf
  have hl : vs.length = 13 := hl
  have hk : ∀ q ∈ ([(0, (2, 0, 0, [150])), (2, (2, 0, 0, [150])), (5, (0, 0, 1999, [])), (6, (0, 0, 4001, [])), (7, (0, -1, -1, [])), (8, (0, 32, 32, [])), (9, (0, 10, 10, [])), (10, (0, 10, 10, [])), (11, (0, 1, 1, [])), (12, (0, 1, 2000, []))] : List (Nat × tv_T)), tv_ok ta q.2 (n_v vs q.1) := hk
  obtain ⟨t0, hk⟩ := List.forall_mem_cons.mp hk
  have t0 : tv_ok ta (2, 0, 0, [150]) (n_v vs 0) := t0
  have r0 : ta (v_ad (n_v vs 0)) = some 150 := tv_rg t0
  obtain ⟨t2, hk⟩ := List.forall_mem_cons.mp hk
  have t2 : tv_ok ta (2, 0, 0, [150]) (n_v vs 2) := t2
  have r2 : ta (v_ad (n_v vs 2)) = some 150 := tv_rg t2
  obtain ⟨t5, hk⟩ := List.forall_mem_cons.mp hk
  have t5 : tv_ok ta (0, 0, 1999, []) (n_v vs 5) := t5
  have k5 : 0 ≤ v_iv (n_v vs 5) ∧ v_iv (n_v vs 5) ≤ 1999 := tv_rng t5
  obtain ⟨t6, hk⟩ := List.forall_mem_cons.mp hk
  have t6 : tv_ok ta (0, 0, 4001, []) (n_v vs 6) := t6
  have k6 : 0 ≤ v_iv (n_v vs 6) ∧ v_iv (n_v vs 6) ≤ 4001 := tv_rng t6
  obtain ⟨t7, hk⟩ := List.forall_mem_cons.mp hk
  have t7 : tv_ok ta (0, -1, -1, []) (n_v vs 7) := t7
  have k7 : (-1) ≤ v_iv (n_v vs 7) ∧ v_iv (n_v vs 7) ≤ (-1) := tv_rng t7
  obtain ⟨t8, hk⟩ := List.forall_mem_cons.mp hk
  have t8 : tv_ok ta (0, 32, 32, []) (n_v vs 8) := t8
  have k8 : 32 ≤ v_iv (n_v vs 8) ∧ v_iv (n_v vs 8) ≤ 32 := tv_rng t8
  obtain ⟨t9, hk⟩ := List.forall_mem_cons.mp hk
  have t9 : tv_ok ta (0, 10, 10, []) (n_v vs 9) := t9
  have k9 : 10 ≤ v_iv (n_v vs 9) ∧ v_iv (n_v vs 9) ≤ 10 := tv_rng t9
  obtain ⟨t10, hk⟩ := List.forall_mem_cons.mp hk
  have t10 : tv_ok ta (0, 10, 10, []) (n_v vs 10) := t10
  have k10 : 10 ≤ v_iv (n_v vs 10) ∧ v_iv (n_v vs 10) ≤ 10 := tv_rng t10
  obtain ⟨t11, hk⟩ := List.forall_mem_cons.mp hk
  have t11 : tv_ok ta (0, 1, 1, []) (n_v vs 11) := t11
  have k11 : 1 ≤ v_iv (n_v vs 11) ∧ v_iv (n_v vs 11) ≤ 1 := tv_rng t11
  obtain ⟨t12, hk⟩ := List.forall_mem_cons.mp hk
  have t12 : tv_ok ta (0, 1, 2000, []) (n_v vs 12) := t12
  have k12 : 1 ≤ v_iv (n_v vs 12) ∧ v_iv (n_v vs 12) ≤ 2000 := tv_rng t12
  have hds : ∀ q ∈ ([(12, 5, 1, 1)] : List of_T), n_iv vs q.2.1 + q.2.2.1 ≤ n_iv vs q.1 ∧ n_iv vs q.1 ≤ n_iv vs q.2.1 + q.2.2.2 := hds
  obtain ⟨d0, hds⟩ := List.forall_mem_cons.mp hds
  have d0 : v_iv (n_v vs 5) + 1 ≤ v_iv (n_v vs 12) ∧ v_iv (n_v vs 12) ≤ v_iv (n_v vs 5) + 1 := d0
  have hf : fc_ok [(20, [5, 2, 9], [50, 1, 1, 1010, 1001, 4, 11, 0, 6, 4, 2, 1, 0, 0, 1, 2, 1, 10, 1, 2, 1, 2, 9, 5, 3, 1, 1, 1, 0, 0, 256]), (20, [2, 5, 9], [50, 1, 0, 10, 4, 7, 0, 3, 2, 0, 10, 1, 1, 1, 2, 1, 2, 0, -1]), (20, [5, 2, 7], [50, 1, 1, 1010, 1001, 4, 11, 0, 6, 4, 2, 1, 0, 0, 1, 2, 1, 10, 1, 2, 1, 2, 9, 5, 3, 1, 1, 1, 0, 0, 256]), (20, [2, 5, 7], [50, 1, 0, 10, 4, 7, 0, 3, 2, 0, 10, 1, 1, 1, 2, 1, 2, 0, -1]), (24, [0, 2], []), (101, [2, 12], [11]), (1, [12, 5, 11], []), (9, [5, 2], [11]), (7, [9, 10], [0]), (20, [5, 2, 9], [50, 1, 1, 1010, 1001, 4, 11, 0, 6, 4, 2, 1, 0, 0, 1, 2, 1, 10, 1, 2, 1, 2, 9, 5, 3, 1, 1, 1, 0, 0, 256]), (20, [2, 5, 9], [50, 1, 0, 10, 4, 7, 0, 3, 2, 0, 10, 1, 1, 1, 2, 1, 2, 0, -1]), (7, [7, 8], [1]), (20, [5, 2, 7], [50, 1, 1, 1010, 1001, 4, 11, 0, 6, 4, 2, 1, 0, 0, 1, 2, 1, 10, 1, 2, 1, 2, 9, 5, 3, 1, 1, 1, 0, 0, 256]), (20, [2, 5, 7], [50, 1, 0, 10, 4, 7, 0, 3, 2, 0, 10, 1, 1, 1, 2, 1, 2, 0, -1]), (20, [2], [50, 2, 0, 157, 11, 0, 3, 2, 0, 157, 2, 0, 11]), (20, [6, 2], [30, -4001, -1, 0, 0, -2, 1, 11])] ta ws vs := hf
  obtain ⟨f0, hf⟩ := fc_un (show (20 : Nat) < 100 from by decide) hf
  have f0 : ((v_iv (n_v vs 5) + 1) ≤ w_fi ws (n_v vs 2) 10) → (v_iv (n_v vs 9) = (w_ei ws (w_ar ws (n_v vs 2) 1) (v_iv (n_v vs 5)) % 256)) := f0
  obtain ⟨f1, hf⟩ := fc_un (show (20 : Nat) < 100 from by decide) hf
  have f1 : (w_fi ws (n_v vs 2) 10 ≤ v_iv (n_v vs 5)) → (v_iv (n_v vs 9) = (-1)) := f1
  obtain ⟨f2, hf⟩ := fc_un (show (20 : Nat) < 100 from by decide) hf
  have f2 : ((v_iv (n_v vs 5) + 1) ≤ w_fi ws (n_v vs 2) 10) → (v_iv (n_v vs 7) = (w_ei ws (w_ar ws (n_v vs 2) 1) (v_iv (n_v vs 5)) % 256)) := f2
  obtain ⟨f3, hf⟩ := fc_un (show (20 : Nat) < 100 from by decide) hf
  have f3 : (w_fi ws (n_v vs 2) 10 ≤ v_iv (n_v vs 5)) → (v_iv (n_v vs 7) = (-1)) := f3
  obtain ⟨f4, hf⟩ := fc_un (show (24 : Nat) < 100 from by decide) hf
  have f4 : n_v vs 0 = n_v vs 2 := f4
  obtain ⟨ta1, w1, le1, ⟨_, s1⟩, hf⟩ := fc_us (show ¬ (101 : Nat) < 100 from by decide) hf
  have s1 : (∀ b j, w_el ws b j = w_el w1 b j) ∧ ∀ b j, w_fd ws b j = if b = v_ad (n_v vs 2) ∧ j = 11 then n_v vs 12 else w_fd w1 b j := s1
  obtain ⟨f6, hf⟩ := fc_un (show (1 : Nat) < 100 from by decide) hf
  have f6 : v_iv (n_v vs 12) = v_iv (n_v vs 5) + v_iv (n_v vs 11) := f6
  obtain ⟨f7, hf⟩ := fc_un (show (9 : Nat) < 100 from by decide) hf
  have f7 : n_v vs 5 = w_fd w1 (v_ad (n_v vs 2)) 11 := f7
  obtain ⟨f8, hf⟩ := fc_un (show (7 : Nat) < 100 from by decide) hf
  have f8 : v_iv (n_v vs 9) = v_iv (n_v vs 10) := f8
  obtain ⟨f9, hf⟩ := fc_un (show (20 : Nat) < 100 from by decide) hf
  have f9 : ((v_iv (n_v vs 5) + 1) ≤ w_fi w1 (n_v vs 2) 10) → (v_iv (n_v vs 9) = (w_ei w1 (w_ar w1 (n_v vs 2) 1) (v_iv (n_v vs 5)) % 256)) := f9
  obtain ⟨f10, hf⟩ := fc_un (show (20 : Nat) < 100 from by decide) hf
  have f10 : (w_fi w1 (n_v vs 2) 10 ≤ v_iv (n_v vs 5)) → (v_iv (n_v vs 9) = (-1)) := f10
  obtain ⟨f11, hf⟩ := fc_un (show (7 : Nat) < 100 from by decide) hf
  have f11 : v_iv (n_v vs 7) ≠ v_iv (n_v vs 8) := f11
  obtain ⟨f12, hf⟩ := fc_un (show (20 : Nat) < 100 from by decide) hf
  have f12 : ((v_iv (n_v vs 5) + 1) ≤ w_fi w1 (n_v vs 2) 10) → (v_iv (n_v vs 7) = (w_ei w1 (w_ar w1 (n_v vs 2) 1) (v_iv (n_v vs 5)) % 256)) := f12
  obtain ⟨f13, hf⟩ := fc_un (show (20 : Nat) < 100 from by decide) hf
  have f13 : (w_fi w1 (n_v vs 2) 10 ≤ v_iv (n_v vs 5)) → (v_iv (n_v vs 7) = (-1)) := f13
  obtain ⟨f14, hf⟩ := fc_un (show (20 : Nat) < 100 from by decide) hf
  have f14 : w_fi w1 (n_v vs 2) 157 ≤ w_fi w1 (n_v vs 2) 11 := f14
  obtain ⟨f15, hf⟩ := fc_un (show (20 : Nat) < 100 from by decide) hf
  have f15 : (-1) * v_iv (n_v vs 6) + ((-2) * w_fi w1 (n_v vs 2) 11 + 0) ≤ (-4001) := f15
  have q2 : n_v vs 2 = n_v vs 0 := f4.symm
  rw [q2] at f0
  rw [q2] at f1
  rw [q2] at f2
  rw [q2] at f3
  rw [q2] at s1
  rw [q2] at f7
  rw [q2] at f9
  rw [q2] at f10
  rw [q2] at f12
  rw [q2] at f13
  rw [q2] at f14
  rw [q2] at f15
  have ar_0_1_1 : w_ar w1 (n_v vs 0) 1 = w_ar ws (n_v vs 0) 1 := by show v_ad (w_fd w1 _ _) = v_ad (w_fd ws _ _); rw [s1.2, if_neg (fun e => absurd e.2 (by decide))]
  have cr_0_1 : ta (w_ar ws (n_v vs 0) 1) = some 151 := tv_rg (th_fd hD hth r0 (g := GG_150) rfl (k := 1) (t := (2, 0, 0, [151])) rfl rfl)
  have g7 : v_iv (n_v vs 5) = w_fi w1 (n_v vs 0) 11 := congrArg v_iv f7
  rw [ar_0_1_1] at f9
  rw [ar_0_1_1] at f12
  have fe_0_10_1 : w_fi ws (n_v vs 0) 10 = w_fi w1 (n_v vs 0) 10 := by show v_iv (w_fd _ _ _) = v_iv (w_fd _ _ _); rw [s1.2, if_neg (fun e => absurd e.2 (by decide))]
  have fe_0_11_1 : w_fi ws (n_v vs 0) 11 = v_iv (n_v vs 12) := by show v_iv (w_fd _ _ _) = _; rw [s1.2, if_pos ⟨rfl, rfl⟩]
  have fe_0_157_1 : w_fi ws (n_v vs 0) 157 = w_fi w1 (n_v vs 0) 157 := by show v_iv (w_fd _ _ _) = v_iv (w_fd _ _ _); rw [s1.2, if_neg (fun e => absurd e.2 (by decide))]
  have hE_0_1_1 : ∀ j : Int, w_ei ws (w_ar ws (n_v vs 0) 1) j = w_ei w1 (w_ar ws (n_v vs 0) 1) j := fun j => s1.1 _ _
  have hK_0_1 : ∀ j : Int, 0 ≤ j → j < 2000 → (-128) ≤ w_ei ws (w_ar ws (n_v vs 0) 1) j ∧ w_ei ws (w_ar ws (n_v vs 0) 1) j ≤ 127 := fun j h0 h1 => th_el hD hth cr_0_1 (kd := 1) (n := 2000) (m := 2000) (lo := (-128)) (hi := 127) (rs := []) (L := []) rfl (by decide) (j := j.toNat) (by omega)
  have kz_0_10 : 0 ≤ w_fi ws (n_v vs 0) 10 ∧ w_fi ws (n_v vs 0) 10 ≤ 2000 := tv_rng (th_fd hD hth r0 (g := GG_150) rfl (k := 10) (t := (0, 0, 2000, [])) rfl rfl)
  have kz_0_11 : 0 ≤ w_fi ws (n_v vs 0) 11 ∧ w_fi ws (n_v vs 0) 11 ≤ 2000 := tv_rng (th_fd hD hth r0 (g := GG_150) rfl (k := 11) (t := (0, 0, 2000, [])) rfl rfl)
  have kz_0_157 : 0 ≤ w_fi ws (n_v vs 0) 157 ∧ w_fi ws (n_v vs 0) 157 ≤ 2010 := tv_rng (th_fd hD hth r0 (g := GG_150) rfl (k := 157) (t := (0, 0, 2010, [])) rfl rfl)
  have nf0 : fc_1 (20, [2], [50, 2, 0, 157, 11, 0, 3, 2, 0, 157, 2, 0, 11]) ws (vs) := by
    refine ⟨fun n hn => ?_, ?_⟩
    · have hn : n ∈ [2] := hn
      rw [hl]
      simp only [List.mem_cons, List.not_mem_nil, or_false] at hn
      show n < 13; omega
    · show w_fi ws (n_v vs 2) 157 ≤ w_fi ws (n_v vs 2) 11
      rw [q2]
      first | omega | grind
  have nf1 : fc_1 (20, [6, 2], [30, -4001, -1, 0, 0, -2, 1, 11]) ws (vs) := by
    refine ⟨fun n hn => ?_, ?_⟩
    · have hn : n ∈ [6, 2] := hn
      rw [hl]
      simp only [List.mem_cons, List.not_mem_nil, or_false] at hn
      show n < 13; omega
    · show (-1) * v_iv (n_v vs 6) + ((-2) * w_fi ws (n_v vs 2) 11 + 0) ≤ (-4001)
      rw [q2]
      omega
  refine ⟨(fun _ h => (by cases h)), [], trivial, ?_, (fun _ h => (by cases h))⟩
  rw [List.append_nil]
  exact List.forall_mem_cons.mpr ⟨⟨show (20 : Nat) < 100 from by decide, nf0⟩, List.forall_mem_cons.mpr ⟨⟨show (20 : Nat) < 100 from by decide, nf1⟩, (fun _ h => (by cases h))⟩⟩
def o_Mo_styleTokens_6 : or_T := (21, 11, [(0, (2, 0, 0, [150])), (2, (2, 0, 0, [150])), (5, (0, 0, 1999, [])), (6, (0, 0, 4001, [])), (7, (0, 32, 32, [])), (8, (0, 32, 32, [])), (9, (0, 1, 1, [])), (10, (0, 1, 2000, []))], [(20, [5, 2, 7], [50, 1, 1, 1010, 1001, 4, 11, 0, 6, 4, 2, 1, 0, 0, 1, 2, 1, 10, 1, 2, 1, 2, 9, 5, 3, 1, 1, 1, 0, 0, 256]), (20, [2, 5, 7], [50, 1, 0, 10, 4, 7, 0, 3, 2, 0, 10, 1, 1, 1, 2, 1, 2, 0, -1]), (24, [0, 2], []), (101, [2, 10], [11]), (1, [10, 5, 9], []), (9, [5, 2], [11]), (7, [7, 8], [0]), (20, [5, 2, 7], [50, 1, 1, 1010, 1001, 4, 11, 0, 6, 4, 2, 1, 0, 0, 1, 2, 1, 10, 1, 2, 1, 2, 9, 5, 3, 1, 1, 1, 0, 0, 256]), (20, [2, 5, 7], [50, 1, 0, 10, 4, 7, 0, 3, 2, 0, 10, 1, 1, 1, 2, 1, 2, 0, -1]), (20, [2], [50, 2, 0, 157, 11, 0, 3, 2, 0, 157, 2, 0, 11]), (20, [6, 2], [30, -4001, -1, 0, 0, -2, 1, 11])], [], [], [(20, [2], [50, 2, 0, 157, 11, 0, 3, 2, 0, 157, 2, 0, 11]), (20, [6, 2], [30, -4001, -1, 0, 0, -2, 1, 11])], [], [(10, 5, 1, 1)])
theorem oo_Mo_styleTokens_6 {kA : Nat → ClassId} : or_ok kA GG o_Mo_styleTokens_6 := by
  intro A ta ws vs hD hth hl hk hds hf
  have hl : vs.length = 11 := hl
  have hk : ∀ q ∈ ([(0, (2, 0, 0, [150])), (2, (2, 0, 0, [150])), (5, (0, 0, 1999, [])), (6, (0, 0, 4001, [])), (7, (0, 32, 32, [])), (8, (0, 32, 32, [])), (9, (0, 1, 1, [])), (10, (0, 1, 2000, []))] : List (Nat × tv_T)), tv_ok ta q.2 (n_v vs q.1) := hk
  obtain ⟨t0, hk⟩ := List.forall_mem_cons.mp hk
  have t0 : tv_ok ta (2, 0, 0, [150]) (n_v vs 0) := t0
  have r0 : ta (v_ad (n_v vs 0)) = some 150 := tv_rg t0
  obtain ⟨t2, hk⟩ := List.forall_mem_cons.mp hk
  have t2 : tv_ok ta (2, 0, 0, [150]) (n_v vs 2) := t2
  have r2 : ta (v_ad (n_v vs 2)) = some 150 := tv_rg t2
  obtain ⟨t5, hk⟩ := List.forall_mem_cons.mp hk
  have t5 : tv_ok ta (0, 0, 1999, []) (n_v vs 5) := t5
  have k5 : 0 ≤ v_iv (n_v vs 5) ∧ v_iv (n_v vs 5) ≤ 1999 := tv_rng t5
  obtain ⟨t6, hk⟩ := List.forall_mem_cons.mp hk
  have t6 : tv_ok ta (0, 0, 4001, []) (n_v vs 6) := t6
  have k6 : 0 ≤ v_iv (n_v vs 6) ∧ v_iv (n_v vs 6) ≤ 4001 := tv_rng t6
  obtain ⟨t7, hk⟩ := List.forall_mem_cons.mp hk
  have t7 : tv_ok ta (0, 32, 32, []) (n_v vs 7) := t7
  have k7 : 32 ≤ v_iv (n_v vs 7) ∧ v_iv (n_v vs 7) ≤ 32 := tv_rng t7
  obtain ⟨t8, hk⟩ := List.forall_mem_cons.mp hk
  have t8 : tv_ok ta (0, 32, 32, []) (n_v vs 8) := t8
  have k8 : 32 ≤ v_iv (n_v vs 8) ∧ v_iv (n_v vs 8) ≤ 32 := tv_rng t8
  obtain ⟨t9, hk⟩ := List.forall_mem_cons.mp hk
  have t9 : tv_ok ta (0, 1, 1, []) (n_v vs 9) := t9
  have k9 : 1 ≤ v_iv (n_v vs 9) ∧ v_iv (n_v vs 9) ≤ 1 := tv_rng t9
  obtain ⟨t10, hk⟩ := List.forall_mem_cons.mp hk
  have t10 : tv_ok ta (0, 1, 2000, []) (n_v vs 10) := t10
  have k10 : 1 ≤ v_iv (n_v vs 10) ∧ v_iv (n_v vs 10) ≤ 2000 := tv_rng t10
  have hds : ∀ q ∈ ([(10, 5, 1, 1)] : List of_T), n_iv vs q.2.1 + q.2.2.1 ≤ n_iv vs q.1 ∧ n_iv vs q.1 ≤ n_iv vs q.2.1 + q.2.2.2 := hds
  obtain ⟨d0, hds⟩ := List.forall_mem_cons.mp hds
  have d0 : v_iv (n_v vs 5) + 1 ≤ v_iv (n_v vs 10) ∧ v_iv (n_v vs 10) ≤ v_iv (n_v vs 5) + 1 := d0
  have hf : fc_ok [(20, [5, 2, 7], [50, 1, 1, 1010, 1001, 4, 11, 0, 6, 4, 2, 1, 0, 0, 1, 2, 1, 10, 1, 2, 1, 2, 9, 5, 3, 1, 1, 1, 0, 0, 256]), (20, [2, 5, 7], [50, 1, 0, 10, 4, 7, 0, 3, 2, 0, 10, 1, 1, 1, 2, 1, 2, 0, -1]), (24, [0, 2], []), (101, [2, 10], [11]), (1, [10, 5, 9], []), (9, [5, 2], [11]), (7, [7, 8], [0]), (20, [5, 2, 7], [50, 1, 1, 1010, 1001, 4, 11, 0, 6, 4, 2, 1, 0, 0, 1, 2, 1, 10, 1, 2, 1, 2, 9, 5, 3, 1, 1, 1, 0, 0, 256]), (20, [2, 5, 7], [50, 1, 0, 10, 4, 7, 0, 3, 2, 0, 10, 1, 1, 1, 2, 1, 2, 0, -1]), (20, [2], [50, 2, 0, 157, 11, 0, 3, 2, 0, 157, 2, 0, 11]), (20, [6, 2], [30, -4001, -1, 0, 0, -2, 1, 11])] ta ws vs := hf
  obtain ⟨f0, hf⟩ := fc_un (show (20 : Nat) < 100 from by decide) hf
  have f0 : ((v_iv (n_v vs 5) + 1) ≤ w_fi ws (n_v vs 2) 10) → (v_iv (n_v vs 7) = (w_ei ws (w_ar ws (n_v vs 2) 1) (v_iv (n_v vs 5)) % 256)) := f0
  obtain ⟨f1, hf⟩ := fc_un (show (20 : Nat) < 100 from by decide) hf
  have f1 : (w_fi ws (n_v vs 2) 10 ≤ v_iv (n_v vs 5)) → (v_iv (n_v vs 7) = (-1)) := f1
  obtain ⟨f2, hf⟩ := fc_un (show (24 : Nat) < 100 from by decide) hf
  have f2 : n_v vs 0 = n_v vs 2 := f2
  obtain ⟨ta1, w1, le1, ⟨_, s1⟩, hf⟩ := fc_us (show ¬ (101 : Nat) < 100 from by decide) hf
  have s1 : (∀ b j, w_el ws b j = w_el w1 b j) ∧ ∀ b j, w_fd ws b j = if b = v_ad (n_v vs 2) ∧ j = 11 then n_v vs 10 else w_fd w1 b j := s1
  obtain ⟨f4, hf⟩ := fc_un (show (1 : Nat) < 100 from by decide) hf
  have f4 : v_iv (n_v vs 10) = v_iv (n_v vs 5) + v_iv (n_v vs 9) := f4
  obtain ⟨f5, hf⟩ := fc_un (show (9 : Nat) < 100 from by decide) hf
  have f5 : n_v vs 5 = w_fd w1 (v_ad (n_v vs 2)) 11 := f5
  obtain ⟨f6, hf⟩ := fc_un (show (7 : Nat) < 100 from by decide) hf
  have f6 : v_iv (n_v vs 7) = v_iv (n_v vs 8) := f6
  obtain ⟨f7, hf⟩ := fc_un (show (20 : Nat) < 100 from by decide) hf
  have f7 : ((v_iv (n_v vs 5) + 1) ≤ w_fi w1 (n_v vs 2) 10) → (v_iv (n_v vs 7) = (w_ei w1 (w_ar w1 (n_v vs 2) 1) (v_iv (n_v vs 5)) % 256)) := f7
  obtain ⟨f8, hf⟩ := fc_un (show (20 : Nat) < 100 from by decide) hf
  have f8 : (w_fi w1 (n_v vs 2) 10 ≤ v_iv (n_v vs 5)) → (v_iv (n_v vs 7) = (-1)) := f8
  obtain ⟨f9, hf⟩ := fc_un (show (20 : Nat) < 100 from by decide) hf
  have f9 : w_fi w1 (n_v vs 2) 157 ≤ w_fi w1 (n_v vs 2) 11 := f9
  obtain ⟨f10, hf⟩ := fc_un (show (20 : Nat) < 100 from by decide) hf
  have f10 : (-1) * v_iv (n_v vs 6) + ((-2) * w_fi w1 (n_v vs 2) 11 + 0) ≤ (-4001) := f10
  have q2 : n_v vs 2 = n_v vs 0 := f2.symm
  rw [q2] at f0
  rw [q2] at f1
  rw [q2] at s1
  rw [q2] at f5
  rw [q2] at f7
  rw [q2] at f8
  rw [q2] at f9
  rw [q2] at f10
  have ar_0_1_1 : w_ar w1 (n_v vs 0) 1 = w_ar ws (n_v vs 0) 1 := by show v_ad (w_fd w1 _ _) = v_ad (w_fd ws _ _); rw [s1.2, if_neg (fun e => absurd e.2 (by decide))]
  have cr_0_1 : ta (w_ar ws (n_v vs 0) 1) = some 151 := tv_rg (th_fd hD hth r0 (g := GG_150) rfl (k := 1) (t := (2, 0, 0, [151])) rfl rfl)
  have g5 : v_iv (n_v vs 5) = w_fi w1 (n_v vs 0) 11 := congrArg v_iv f5
  rw [ar_0_1_1] at f7
  have fe_0_10_1 : w_fi ws (n_v vs 0) 10 = w_fi w1 (n_v vs 0) 10 := by show v_iv (w_fd _ _ _) = v_iv (w_fd _ _ _); rw [s1.2, if_neg (fun e => absurd e.2 (by decide))]
  have fe_0_11_1 : w_fi ws (n_v vs 0) 11 = v_iv (n_v vs 10) := by show v_iv (w_fd _ _ _) = _; rw [s1.2, if_pos ⟨rfl, rfl⟩]
  have fe_0_157_1 : w_fi ws (n_v vs 0) 157 = w_fi w1 (n_v vs 0) 157 := by show v_iv (w_fd _ _ _) = v_iv (w_fd _ _ _); rw [s1.2, if_neg (fun e => absurd e.2 (by decide))]
  have hE_0_1_1 : ∀ j : Int, w_ei ws (w_ar ws (n_v vs 0) 1) j = w_ei w1 (w_ar ws (n_v vs 0) 1) j := fun j => s1.1 _ _
  have hK_0_1 : ∀ j : Int, 0 ≤ j → j < 2000 → (-128) ≤ w_ei ws (w_ar ws (n_v vs 0) 1) j ∧ w_ei ws (w_ar ws (n_v vs 0) 1) j ≤ 127 := fun j h0 h1 => th_el hD hth cr_0_1 (kd := 1) (n := 2000) (m := 2000) (lo := (-128)) (hi := 127) (rs := []) (L := []) rfl (by decide) (j := j.toNat) (by omega)
  have kz_0_10 : 0 ≤ w_fi ws (n_v vs 0) 10 ∧ w_fi ws (n_v vs 0) 10 ≤ 2000 := tv_rng (th_fd hD hth r0 (g := GG_150) rfl (k := 10) (t := (0, 0, 2000, [])) rfl rfl)
  have kz_0_11 : 0 ≤ w_fi ws (n_v vs 0) 11 ∧ w_fi ws (n_v vs 0) 11 ≤ 2000 := tv_rng (th_fd hD hth r0 (g := GG_150) rfl (k := 11) (t := (0, 0, 2000, [])) rfl rfl)
  have kz_0_157 : 0 ≤ w_fi ws (n_v vs 0) 157 ∧ w_fi ws (n_v vs 0) 157 ≤ 2010 := tv_rng (th_fd hD hth r0 (g := GG_150) rfl (k := 157) (t := (0, 0, 2010, [])) rfl rfl)
  have nf0 : fc_1 (20, [2], [50, 2, 0, 157, 11, 0, 3, 2, 0, 157, 2, 0, 11]) ws (vs) := by
    refine ⟨fun n hn => ?_, ?_⟩
    · have hn : n ∈ [2] := hn
      rw [hl]
      simp only [List.mem_cons, List.not_mem_nil, or_false] at hn
      show n < 11; omega
    · show w_fi ws (n_v vs 2) 157 ≤ w_fi ws (n_v vs 2) 11
      rw [q2]
      first | omega | grind
  have nf1 : fc_1 (20, [6, 2], [30, -4001, -1, 0, 0, -2, 1, 11]) ws (vs) := by
    refine ⟨fun n hn => ?_, ?_⟩
    · have hn : n ∈ [6, 2] := hn
      rw [hl]
      simp only [List.mem_cons, List.not_mem_nil, or_false] at hn
      show n < 11; omega
    · show (-1) * v_iv (n_v vs 6) + ((-2) * w_fi ws (n_v vs 2) 11 + 0) ≤ (-4001)
      rw [q2]
      omega
  refine ⟨(fun _ h => (by cases h)), [], trivial, ?_, (fun _ h => (by cases h))⟩
  rw [List.append_nil]
  exact List.forall_mem_cons.mpr ⟨⟨show (20 : Nat) < 100 from by decide, nf0⟩, List.forall_mem_cons.mpr ⟨⟨show (20 : Nat) < 100 from by decide, nf1⟩, (fun _ h => (by cases h))⟩⟩
def o_Mo_styleTokens_7 : or_T := (60, 11, [(0, (2, 0, 0, [150])), (2, (2, 0, 0, [150])), (5, (0, 0, 1999, [])), (6, (0, 0, 4001, [])), (7, (0, 0, 255, [])), (8, (0, 32, 32, [])), (9, (0, -1, -1, [])), (10, (0, 10, 10, []))], [(7, [9, 10], [1]), (20, [5, 2, 9], [50, 1, 1, 1010, 1001, 4, 11, 0, 6, 4, 2, 1, 0, 0, 1, 2, 1, 10, 1, 2, 1, 2, 9, 5, 3, 1, 1, 1, 0, 0, 256]), (20, [2, 5, 9], [50, 1, 0, 10, 4, 7, 0, 3, 2, 0, 10, 1, 1, 1, 2, 1, 2, 0, -1]), (9, [5, 2], [11]), (7, [7, 8], [1]), (20, [5, 2, 7], [50, 1, 1, 1010, 1001, 4, 11, 0, 6, 4, 2, 1, 0, 0, 1, 2, 1, 10, 1, 2, 1, 2, 9, 5, 3, 1, 1, 1, 0, 0, 256]), (20, [2, 5, 7], [50, 1, 0, 10, 4, 7, 0, 3, 2, 0, 10, 1, 1, 1, 2, 1, 2, 0, -1]), (20, [2], [50, 2, 0, 157, 11, 0, 3, 2, 0, 157, 2, 0, 11]), (20, [6, 2], [30, -4001, -1, 0, 0, -2, 1, 11]), (24, [0, 2], [])], [], [(0, 0, 4001, [])], [(20, [2], [50, 2, 0, 157, 11, 0, 3, 2, 0, 157, 2, 0, 11]), (20, [11, 2], [30, -4001, -1, 0, 0, -2, 1, 11]), (24, [0, 2], [])], [(11, 6, 0, 0)], [])
theorem oo_Mo_styleTokens_7 {kA : Nat → ClassId} : or_ok kA GG o_Mo_styleTokens_7 := by
  intro A ta ws vs hD hth hl hk hds hf
  have hl : vs.length = 11 := hl
  have hk : ∀ q ∈ ([(0, (2, 0, 0, [150])), (2, (2, 0, 0, [150])), (5, (0, 0, 1999, [])), (6, (0, 0, 4001, [])), (7, (0, 0, 255, [])), (8, (0, 32, 32, [])), (9, (0, -1, -1, [])), (10, (0, 10, 10, []))] : List (Nat × tv_T)), tv_ok ta q.2 (n_v vs q.1) := hk
  obtain ⟨t0, hk⟩ := List.forall_mem_cons.mp hk
  have t0 : tv_ok ta (2, 0, 0, [150]) (n_v vs 0) := t0
  have r0 : ta (v_ad (n_v vs 0)) = some 150 := tv_rg t0
  obtain ⟨t2, hk⟩ := List.forall_mem_cons.mp hk
  have t2 : tv_ok ta (2, 0, 0, [150]) (n_v vs 2) := t2
  have r2 : ta (v_ad (n_v vs 2)) = some 150 := tv_rg t2
  obtain ⟨t5, hk⟩ := List.forall_mem_cons.mp hk
  have t5 : tv_ok ta (0, 0, 1999, []) (n_v vs 5) := t5
  have k5 : 0 ≤ v_iv (n_v vs 5) ∧ v_iv (n_v vs 5) ≤ 1999 := tv_rng t5
  obtain ⟨t6, hk⟩ := List.forall_mem_cons.mp hk
  have t6 : tv_ok ta (0, 0, 4001, []) (n_v vs 6) := t6
  have k6 : 0 ≤ v_iv (n_v vs 6) ∧ v_iv (n_v vs 6) ≤ 4001 := tv_rng t6
  obtain ⟨t7, hk⟩ := List.forall_mem_cons.mp hk
  have t7 : tv_ok ta (0, 0, 255, []) (n_v vs 7) := t7
  have k7 : 0 ≤ v_iv (n_v vs 7) ∧ v_iv (n_v vs 7) ≤ 255 := tv_rng t7
  obtain ⟨t8, hk⟩ := List.forall_mem_cons.mp hk
  have t8 : tv_ok ta (0, 32, 32, []) (n_v vs 8) := t8
  have k8 : 32 ≤ v_iv (n_v vs 8) ∧ v_iv (n_v vs 8) ≤ 32 := tv_rng t8
  obtain ⟨t9, hk⟩ := List.forall_mem_cons.mp hk
  have t9 : tv_ok ta (0, -1, -1, []) (n_v vs 9) := t9
  have k9 : (-1) ≤ v_iv (n_v vs 9) ∧ v_iv (n_v vs 9) ≤ (-1) := tv_rng t9
  obtain ⟨t10, hk⟩ := List.forall_mem_cons.mp hk
  have t10 : tv_ok ta (0, 10, 10, []) (n_v vs 10) := t10
  have k10 : 10 ≤ v_iv (n_v vs 10) ∧ v_iv (n_v vs 10) ≤ 10 := tv_rng t10
  have hf : fc_ok [(7, [9, 10], [1]), (20, [5, 2, 9], [50, 1, 1, 1010, 1001, 4, 11, 0, 6, 4, 2, 1, 0, 0, 1, 2, 1, 10, 1, 2, 1, 2, 9, 5, 3, 1, 1, 1, 0, 0, 256]), (20, [2, 5, 9], [50, 1, 0, 10, 4, 7, 0, 3, 2, 0, 10, 1, 1, 1, 2, 1, 2, 0, -1]), (9, [5, 2], [11]), (7, [7, 8], [1]), (20, [5, 2, 7], [50, 1, 1, 1010, 1001, 4, 11, 0, 6, 4, 2, 1, 0, 0, 1, 2, 1, 10, 1, 2, 1, 2, 9, 5, 3, 1, 1, 1, 0, 0, 256]), (20, [2, 5, 7], [50, 1, 0, 10, 4, 7, 0, 3, 2, 0, 10, 1, 1, 1, 2, 1, 2, 0, -1]), (20, [2], [50, 2, 0, 157, 11, 0, 3, 2, 0, 157, 2, 0, 11]), (20, [6, 2], [30, -4001, -1, 0, 0, -2, 1, 11]), (24, [0, 2], [])] ta ws vs := hf
  obtain ⟨f0, hf⟩ := fc_un (show (7 : Nat) < 100 from by decide) hf
  have f0 : v_iv (n_v vs 9) ≠ v_iv (n_v vs 10) := f0
  obtain ⟨f1, hf⟩ := fc_un (show (20 : Nat) < 100 from by decide) hf
  have f1 : ((v_iv (n_v vs 5) + 1) ≤ w_fi ws (n_v vs 2) 10) → (v_iv (n_v vs 9) = (w_ei ws (w_ar ws (n_v vs 2) 1) (v_iv (n_v vs 5)) % 256)) := f1
  obtain ⟨f2, hf⟩ := fc_un (show (20 : Nat) < 100 from by decide) hf
  have f2 : (w_fi ws (n_v vs 2) 10 ≤ v_iv (n_v vs 5)) → (v_iv (n_v vs 9) = (-1)) := f2
  obtain ⟨f3, hf⟩ := fc_un (show (9 : Nat) < 100 from by decide) hf
  have f3 : n_v vs 5 = w_fd ws (v_ad (n_v vs 2)) 11 := f3
  obtain ⟨f4, hf⟩ := fc_un (show (7 : Nat) < 100 from by decide) hf
  have f4 : v_iv (n_v vs 7) ≠ v_iv (n_v vs 8) := f4
  obtain ⟨f5, hf⟩ := fc_un (show (20 : Nat) < 100 from by decide) hf
  have f5 : ((v_iv (n_v vs 5) + 1) ≤ w_fi ws (n_v vs 2) 10) → (v_iv (n_v vs 7) = (w_ei ws (w_ar ws (n_v vs 2) 1) (v_iv (n_v vs 5)) % 256)) := f5
  obtain ⟨f6, hf⟩ := fc_un (show (20 : Nat) < 100 from by decide) hf
  have f6 : (w_fi ws (n_v vs 2) 10 ≤ v_iv (n_v vs 5)) → (v_iv (n_v vs 7) = (-1)) := f6
  obtain ⟨f7, hf⟩ := fc_un (show (20 : Nat) < 100 from by decide) hf
  have f7 : w_fi ws (n_v vs 2) 157 ≤ w_fi ws (n_v vs 2) 11 := f7
  obtain ⟨f8, hf⟩ := fc_un (show (20 : Nat) < 100 from by decide) hf
  have f8 : (-1) * v_iv (n_v vs 6) + ((-2) * w_fi ws (n_v vs 2) 11 + 0) ≤ (-4001) := f8
  obtain ⟨f9, hf⟩ := fc_un (show (24 : Nat) < 100 from by decide) hf
  have f9 : n_v vs 0 = n_v vs 2 := f9
  have q2 : n_v vs 2 = n_v vs 0 := f9.symm
  rw [q2] at f1
  rw [q2] at f2
  rw [q2] at f3
  rw [q2] at f5
  rw [q2] at f6
  rw [q2] at f7
  rw [q2] at f8
  have cr_0_1 : ta (w_ar ws (n_v vs 0) 1) = some 151 := tv_rg (th_fd hD hth r0 (g := GG_150) rfl (k := 1) (t := (2, 0, 0, [151])) rfl rfl)
  have g3 : v_iv (n_v vs 5) = w_fi ws (n_v vs 0) 11 := congrArg v_iv f3
  have hK_0_1 : ∀ j : Int, 0 ≤ j → j < 2000 → (-128) ≤ w_ei ws (w_ar ws (n_v vs 0) 1) j ∧ w_ei ws (w_ar ws (n_v vs 0) 1) j ≤ 127 := fun j h0 h1 => th_el hD hth cr_0_1 (kd := 1) (n := 2000) (m := 2000) (lo := (-128)) (hi := 127) (rs := []) (L := []) rfl (by decide) (j := j.toNat) (by omega)
  have kz_0_10 : 0 ≤ w_fi ws (n_v vs 0) 10 ∧ w_fi ws (n_v vs 0) 10 ≤ 2000 := tv_rng (th_fd hD hth r0 (g := GG_150) rfl (k := 10) (t := (0, 0, 2000, [])) rfl rfl)
  have kz_0_11 : 0 ≤ w_fi ws (n_v vs 0) 11 ∧ w_fi ws (n_v vs 0) 11 ≤ 2000 := tv_rng (th_fd hD hth r0 (g := GG_150) rfl (k := 11) (t := (0, 0, 2000, [])) rfl rfl)
  have kz_0_157 : 0 ≤ w_fi ws (n_v vs 0) 157 ∧ w_fi ws (n_v vs 0) 157 ≤ 2010 := tv_rng (th_fd hD hth r0 (g := GG_150) rfl (k := 157) (t := (0, 0, 2010, [])) rfl rfl)
  obtain ⟨x, ex, hx⟩ := iv_ex (ta := ta) (lo := 0) (hi := 4001) (z := 0 + (1 * v_iv (n_v vs 6) + 0)) (by omega) (by omega) (by omega) (by omega)
  have ex2 : v_iv (Value.int x) = 0 + (1 * v_iv (n_v vs 6) + 0) := ex
  have ex3 : 0 ≤ v_iv (Value.int x) ∧ v_iv (Value.int x) ≤ 4001 := tv_rng hx
  have e_0 : n_v (vs ++ [Value.int x]) 0 = n_v vs 0 := n_v_old (by rw [hl]; decide)
  have e_2 : n_v (vs ++ [Value.int x]) 2 = n_v vs 2 := n_v_old (by rw [hl]; decide)
  have e_11 : n_v (vs ++ [Value.int x]) 11 = Value.int x := n_v_new hl
  have nf0 : fc_1 (20, [2], [50, 2, 0, 157, 11, 0, 3, 2, 0, 157, 2, 0, 11]) ws (vs ++ [Value.int x]) := by
    refine ⟨fun n hn => ?_, ?_⟩
    · have hn : n ∈ [2] := hn
      rw [List.length_append, hl]
      simp only [List.mem_cons, List.not_mem_nil, or_false] at hn
      show n < 11 + 1; omega
    · show w_fi ws (n_v (vs ++ [Value.int x]) 2) 157 ≤ w_fi ws (n_v (vs ++ [Value.int x]) 2) 11
      rw [e_2]
      rw [q2]
      first | omega | grind
  have nf1 : fc_1 (20, [11, 2], [30, -4001, -1, 0, 0, -2, 1, 11]) ws (vs ++ [Value.int x]) := by
    refine ⟨fun n hn => ?_, ?_⟩
    · have hn : n ∈ [11, 2] := hn
      rw [List.length_append, hl]
      simp only [List.mem_cons, List.not_mem_nil, or_false] at hn
      show n < 11 + 1; omega
    · show (-1) * v_iv (n_v (vs ++ [Value.int x]) 11) + ((-2) * w_fi ws (n_v (vs ++ [Value.int x]) 2) 11 + 0) ≤ (-4001)
      rw [e_2]
      rw [e_11]
      rw [q2]
      omega
  have nf2 : fc_1 (24, [0, 2], []) ws (vs ++ [Value.int x]) := by
    refine ⟨fun n hn => ?_, ?_⟩
    · have hn : n ∈ [0, 2] := hn
      rw [List.length_append, hl]
      simp only [List.mem_cons, List.not_mem_nil, or_false] at hn
      show n < 11 + 1; omega
    · show n_v (vs ++ [Value.int x]) 0 = n_v (vs ++ [Value.int x]) 2
      first | rfl | simp only [e_0, e_2, q2]
  obtain ⟨x0, e0, _, _⟩ := tv_int t6 rfl
  have e1 : v_iv (n_v vs 6) = x0.toInt := by rw [e0]; rfl
  have ho : sy_ofs (vs ++ [Value.int x]) (11, 6, 0, 0) := by
    refine ⟨x, x0, by rw [List.getElem?_append_right (by rw [hl]; decide), hl]; rfl, ?_, ?_, ?_⟩
    · rw [List.getElem?_append_left (by rw [hl]; decide)]; exact n_v_some (by rw [hl]; decide) e0
    · show x0.toInt + 0 ≤ x.toInt; omega
    · show x.toInt ≤ x0.toInt + 0; omega
  exact ⟨(fun _ h => (by cases h)), [Value.int x], ag_one hx, List.forall_mem_cons.mpr ⟨⟨show (20 : Nat) < 100 from by decide, nf0⟩, List.forall_mem_cons.mpr ⟨⟨show (20 : Nat) < 100 from by decide, nf1⟩, List.forall_mem_cons.mpr ⟨⟨show (24 : Nat) < 100 from by decide, nf2⟩, (fun _ h => (by cases h))⟩⟩⟩, List.forall_mem_cons.mpr ⟨ho, (fun _ h => (by cases h))⟩⟩
def o_Mo_styleTokens_8 : or_T := (60, 11, [(0, (2, 0, 0, [150])), (2, (2, 0, 0, [150])), (5, (0, 0, 1999, [])), (6, (0, 0, 4001, [])), (7, (0, 0, 255, [])), (8, (0, 32, 32, [])), (9, (0, 0, 255, [])), (10, (0, 10, 10, []))], [(7, [9, 10], [1]), (20, [5, 2, 9], [50, 1, 1, 1010, 1001, 4, 11, 0, 6, 4, 2, 1, 0, 0, 1, 2, 1, 10, 1, 2, 1, 2, 9, 5, 3, 1, 1, 1, 0, 0, 256]), (20, [2, 5, 9], [50, 1, 0, 10, 4, 7, 0, 3, 2, 0, 10, 1, 1, 1, 2, 1, 2, 0, -1]), (9, [5, 2], [11]), (7, [7, 8], [1]), (20, [5, 2, 7], [50, 1, 1, 1010, 1001, 4, 11, 0, 6, 4, 2, 1, 0, 0, 1, 2, 1, 10, 1, 2, 1, 2, 9, 5, 3, 1, 1, 1, 0, 0, 256]), (20, [2, 5, 7], [50, 1, 0, 10, 4, 7, 0, 3, 2, 0, 10, 1, 1, 1, 2, 1, 2, 0, -1]), (20, [2], [50, 2, 0, 157, 11, 0, 3, 2, 0, 157, 2, 0, 11]), (20, [6, 2], [30, -4001, -1, 0, 0, -2, 1, 11]), (24, [0, 2], [])], [], [(0, 0, 4001, [])], [(20, [2], [50, 2, 0, 157, 11, 0, 3, 2, 0, 157, 2, 0, 11]), (20, [11, 2], [30, -4001, -1, 0, 0, -2, 1, 11]), (24, [0, 2], [])], [(11, 6, 0, 0)], [])
theorem oo_Mo_styleTokens_8 {kA : Nat → ClassId} : or_ok kA GG o_Mo_styleTokens_8 := by
  intro A ta ws vs hD hth hl hk hds hf
  have hl : vs.length = 11 := hl
  have hk : ∀ q ∈ ([(0, (2, 0, 0, [150])), (2, (2, 0, 0, [150])), (5, (0, 0, 1999, [])), (6, (0, 0, 4001, [])), (7, (0, 0, 255, [])), (8, (0, 32, 32, [])), (9, (0, 0, 255, [])), (10, (0, 10, 10, []))] : List (Nat × tv_T)), tv_ok ta q.2 (n_v vs q.1) := hk
  obtain ⟨t0, hk⟩ := List.forall_mem_cons.mp hk
  have t0 : tv_ok ta (2, 0, 0, [150]) (n_v vs 0) := t0
  have r0 : ta (v_ad (n_v vs 0)) = some 150 := tv_rg t0
  obtain ⟨t2, hk⟩ := List.forall_mem_cons.mp hk
  have t2 : tv_ok ta (2, 0, 0, [150]) (n_v vs 2) := t2
  have r2 : ta (v_ad (n_v vs 2)) = some 150 := tv_rg t2
  obtain ⟨t5, hk⟩ := List.forall_mem_cons.mp hk
  have t5 : tv_ok ta (0, 0, 1999, []) (n_v vs 5) := t5
  have k5 : 0 ≤ v_iv (n_v vs 5) ∧ v_iv (n_v vs 5) ≤ 1999 := tv_rng t5
  obtain ⟨t6, hk⟩ := List.forall_mem_cons.mp hk
  have t6 : tv_ok ta (0, 0, 4001, []) (n_v vs 6) := t6
  have k6 : 0 ≤ v_iv (n_v vs 6) ∧ v_iv (n_v vs 6) ≤ 4001 := tv_rng t6
  obtain ⟨t7, hk⟩ := List.forall_mem_cons.mp hk
  have t7 : tv_ok ta (0, 0, 255, []) (n_v vs 7) := t7
  have k7 : 0 ≤ v_iv (n_v vs 7) ∧ v_iv (n_v vs 7) ≤ 255 := tv_rng t7
  obtain ⟨t8, hk⟩ := List.forall_mem_cons.mp hk
  have t8 : tv_ok ta (0, 32, 32, []) (n_v vs 8) := t8
  have k8 : 32 ≤ v_iv (n_v vs 8) ∧ v_iv (n_v vs 8) ≤ 32 := tv_rng t8
  obtain ⟨t9, hk⟩ := List.forall_mem_cons.mp hk
  have t9 : tv_ok ta (0, 0, 255, []) (n_v vs 9) := t9
  have k9 : 0 ≤ v_iv (n_v vs 9) ∧ v_iv (n_v vs 9) ≤ 255 := tv_rng t9
  obtain ⟨t10, hk⟩ := List.forall_mem_cons.mp hk
  have t10 : tv_ok ta (0, 10, 10, []) (n_v vs 10) := t10
  have k10 : 10 ≤ v_iv (n_v vs 10) ∧ v_iv (n_v vs 10) ≤ 10 := tv_rng t10
  have hf : fc_ok [(7, [9, 10], [1]), (20, [5, 2, 9], [50, 1, 1, 1010, 1001, 4, 11, 0, 6, 4, 2, 1, 0, 0, 1, 2, 1, 10, 1, 2, 1, 2, 9, 5, 3, 1, 1, 1, 0, 0, 256]), (20, [2, 5, 9], [50, 1, 0, 10, 4, 7, 0, 3, 2, 0, 10, 1, 1, 1, 2, 1, 2, 0, -1]), (9, [5, 2], [11]), (7, [7, 8], [1]), (20, [5, 2, 7], [50, 1, 1, 1010, 1001, 4, 11, 0, 6, 4, 2, 1, 0, 0, 1, 2, 1, 10, 1, 2, 1, 2, 9, 5, 3, 1, 1, 1, 0, 0, 256]), (20, [2, 5, 7], [50, 1, 0, 10, 4, 7, 0, 3, 2, 0, 10, 1, 1, 1, 2, 1, 2, 0, -1]), (20, [2], [50, 2, 0, 157, 11, 0, 3, 2, 0, 157, 2, 0, 11]), (20, [6, 2], [30, -4001, -1, 0, 0, -2, 1, 11]), (24, [0, 2], [])] ta ws vs := hf
  obtain ⟨f0, hf⟩ := fc_un (show (7 : Nat) < 100 from by decide) hf
  have f0 : v_iv (n_v vs 9) ≠ v_iv (n_v vs 10) := f0
  obtain ⟨f1, hf⟩ := fc_un (show (20 : Nat) < 100 from by decide) hf
  have f1 : ((v_iv (n_v vs 5) + 1) ≤ w_fi ws (n_v vs 2) 10) → (v_iv (n_v vs 9) = (w_ei ws (w_ar ws (n_v vs 2) 1) (v_iv (n_v vs 5)) % 256)) := f1
  obtain ⟨f2, hf⟩ := fc_un (show (20 : Nat) < 100 from by decide) hf
  have f2 : (w_fi ws (n_v vs 2) 10 ≤ v_iv (n_v vs 5)) → (v_iv (n_v vs 9) = (-1)) := f2
  obtain ⟨f3, hf⟩ := fc_un (show (9 : Nat) < 100 from by decide) hf
  have f3 : n_v vs 5 = w_fd ws (v_ad (n_v vs 2)) 11 := f3
  obtain ⟨f4, hf⟩ := fc_un (show (7 : Nat) < 100 from by decide) hf
  have f4 : v_iv (n_v vs 7) ≠ v_iv (n_v vs 8) := f4
  obtain ⟨f5, hf⟩ := fc_un (show (20 : Nat) < 100 from by decide) hf
  have f5 : ((v_iv (n_v vs 5) + 1) ≤ w_fi ws (n_v vs 2) 10) → (v_iv (n_v vs 7) = (w_ei ws (w_ar ws (n_v vs 2) 1) (v_iv (n_v vs 5)) % 256)) := f5
  obtain ⟨f6, hf⟩ := fc_un (show (20 : Nat) < 100 from by decide) hf
  have f6 : (w_fi ws (n_v vs 2) 10 ≤ v_iv (n_v vs 5)) → (v_iv (n_v vs 7) = (-1)) := f6
  obtain ⟨f7, hf⟩ := fc_un (show (20 : Nat) < 100 from by decide) hf
  have f7 : w_fi ws (n_v vs 2) 157 ≤ w_fi ws (n_v vs 2) 11 := f7
  obtain ⟨f8, hf⟩ := fc_un (show (20 : Nat) < 100 from by decide) hf
  have f8 : (-1) * v_iv (n_v vs 6) + ((-2) * w_fi ws (n_v vs 2) 11 + 0) ≤ (-4001) := f8
  obtain ⟨f9, hf⟩ := fc_un (show (24 : Nat) < 100 from by decide) hf
  have f9 : n_v vs 0 = n_v vs 2 := f9
  have q2 : n_v vs 2 = n_v vs 0 := f9.symm
  rw [q2] at f1
  rw [q2] at f2
  rw [q2] at f3
  rw [q2] at f5
  rw [q2] at f6
  rw [q2] at f7
  rw [q2] at f8
  have cr_0_1 : ta (w_ar ws (n_v vs 0) 1) = some 151 := tv_rg (th_fd hD hth r0 (g := GG_150) rfl (k := 1) (t := (2, 0, 0, [151])) rfl rfl)
  have g3 : v_iv (n_v vs 5) = w_fi ws (n_v vs 0) 11 := congrArg v_iv f3
  have hK_0_1 : ∀ j : Int, 0 ≤ j → j < 2000 → (-128) ≤ w_ei ws (w_ar ws (n_v vs 0) 1) j ∧ w_ei ws (w_ar ws (n_v vs 0) 1) j ≤ 127 := fun j h0 h1 => th_el hD hth cr_0_1 (kd := 1) (n := 2000) (m := 2000) (lo := (-128)) (hi := 127) (rs := []) (L := []) rfl (by decide) (j := j.toNat) (by omega)
  have kz_0_10 : 0 ≤ w_fi ws (n_v vs 0) 10 ∧ w_fi ws (n_v vs 0) 10 ≤ 2000 := tv_rng (th_fd hD hth r0 (g := GG_150) rfl (k := 10) (t := (0, 0, 2000, [])) rfl rfl)
  have kz_0_11 : 0 ≤ w_fi ws (n_v vs 0) 11 ∧ w_fi ws (n_v vs 0) 11 ≤ 2000 := tv_rng (th_fd hD hth r0 (g := GG_150) rfl (k := 11) (t := (0, 0, 2000, [])) rfl rfl)
  have kz_0_157 : 0 ≤ w_fi ws (n_v vs 0) 157 ∧ w_fi ws (n_v vs 0) 157 ≤ 2010 := tv_rng (th_fd hD hth r0 (g := GG_150) rfl (k := 157) (t := (0, 0, 2010, [])) rfl rfl)
  obtain ⟨x, ex, hx⟩ := iv_ex (ta := ta) (lo := 0) (hi := 4001) (z := 0 + (1 * v_iv (n_v vs 6) + 0)) (by omega) (by omega) (by omega) (by omega)
  have ex2 : v_iv (Value.int x) = 0 + (1 * v_iv (n_v vs 6) + 0) := ex
  have ex3 : 0 ≤ v_iv (Value.int x) ∧ v_iv (Value.int x) ≤ 4001 := tv_rng hx
  have e_0 : n_v (vs ++ [Value.int x]) 0 = n_v vs 0 := n_v_old (by rw [hl]; decide)
  have e_2 : n_v (vs ++ [Value.int x]) 2 = n_v vs 2 := n_v_old (by rw [hl]; decide)
  have e_11 : n_v (vs ++ [Value.int x]) 11 = Value.int x := n_v_new hl
  have nf0 : fc_1 (20, [2], [50, 2, 0, 157, 11, 0, 3, 2, 0, 157, 2, 0, 11]) ws (vs ++ [Value.int x]) := by
    refine ⟨fun n hn => ?_, ?_⟩
    · have hn : n ∈ [2] := hn
      rw [List.length_append, hl]
      simp only [List.mem_cons, List.not_mem_nil, or_false] at hn
      show n < 11 + 1; omega
    · show w_fi ws (n_v (vs ++ [Value.int x]) 2) 157 ≤ w_fi ws (n_v (vs ++ [Value.int x]) 2) 11
      rw [e_2]
      rw [q2]
      first | omega | grind
  have nf1 : fc_1 (20, [11, 2], [30, -4001, -1, 0, 0, -2, 1, 11]) ws (vs ++ [Value.int x]) := by
    refine ⟨fun n hn => ?_, ?_⟩
    · have hn : n ∈ [11, 2] := hn
      rw [List.length_append, hl]
      simp only [List.mem_cons, List.not_mem_nil, or_false] at hn
      show n < 11 + 1; omega
    · show (-1) * v_iv (n_v (vs ++ [Value.int x]) 11) + ((-2) * w_fi ws (n_v (vs ++ [Value.int x]) 2) 11 + 0) ≤ (-4001)
      rw [e_2]
      rw [e_11]
      rw [q2]
      omega
  have nf2 : fc_1 (24, [0, 2], []) ws (vs ++ [Value.int x]) := by
    refine ⟨fun n hn => ?_, ?_⟩
    · have hn : n ∈ [0, 2] := hn
      rw [List.length_append, hl]
      simp only [List.mem_cons, List.not_mem_nil, or_false] at hn
      show n < 11 + 1; omega
    · show n_v (vs ++ [Value.int x]) 0 = n_v (vs ++ [Value.int x]) 2
      first | rfl | simp only [e_0, e_2, q2]
  obtain ⟨x0, e0, _, _⟩ := tv_int t6 rfl
  have e1 : v_iv (n_v vs 6) = x0.toInt := by rw [e0]; rfl
  have ho : sy_ofs (vs ++ [Value.int x]) (11, 6, 0, 0) := by
    refine ⟨x, x0, by rw [List.getElem?_append_right (by rw [hl]; decide), hl]; rfl, ?_, ?_, ?_⟩
    · rw [List.getElem?_append_left (by rw [hl]; decide)]; exact n_v_some (by rw [hl]; decide) e0
    · show x0.toInt + 0 ≤ x.toInt; omega
    · show x.toInt ≤ x0.toInt + 0; omega
  exact ⟨(fun _ h => (by cases h)), [Value.int x], ag_one hx, List.forall_mem_cons.mpr ⟨⟨show (20 : Nat) < 100 from by decide, nf0⟩, List.forall_mem_cons.mpr ⟨⟨show (20 : Nat) < 100 from by decide, nf1⟩, List.forall_mem_cons.mpr ⟨⟨show (24 : Nat) < 100 from by decide, nf2⟩, (fun _ h => (by cases h))⟩⟩⟩, List.forall_mem_cons.mpr ⟨ho, (fun _ h => (by cases h))⟩⟩
def o_Mo_styleTokens_9 : or_T := (21, 13, [(0, (2, 0, 0, [150])), (2, (2, 0, 0, [150])), (5, (0, 0, 1999, [])), (6, (0, 0, 4001, [])), (7, (0, 0, 255, [])), (8, (0, 32, 32, [])), (9, (0, 10, 10, [])), (10, (0, 10, 10, [])), (11, (0, 1, 1, [])), (12, (0, 1, 2000, []))], [(20, [5, 2, 9], [50, 1, 1, 1010, 1001, 4, 11, 0, 6, 4, 2, 1, 0, 0, 1, 2, 1, 10, 1, 2, 1, 2, 9, 5, 3, 1, 1, 1, 0, 0, 256]), (20, [2, 5, 9], [50, 1, 0, 10, 4, 7, 0, 3, 2, 0, 10, 1, 1, 1, 2, 1, 2, 0, -1]), (20, [5, 2, 7], [50, 1, 1, 1010, 1001, 4, 11, 0, 6, 4, 2, 1, 0, 0, 1, 2, 1, 10, 1, 2, 1, 2, 9, 5, 3, 1, 1, 1, 0, 0, 256]), (20, [2, 5, 7], [50, 1, 0, 10, 4, 7, 0, 3, 2, 0, 10, 1, 1, 1, 2, 1, 2, 0, -1]), (24, [0, 2], []), (101, [2, 12], [11]), (1, [12, 5, 11], []), (9, [5, 2], [11]), (7, [9, 10], [0]), (20, [5, 2, 9], [50, 1, 1, 1010, 1001, 4, 11, 0, 6, 4, 2, 1, 0, 0, 1, 2, 1, 10, 1, 2, 1, 2, 9, 5, 3, 1, 1, 1, 0, 0, 256]), (20, [2, 5, 9], [50, 1, 0, 10, 4, 7, 0, 3, 2, 0, 10, 1, 1, 1, 2, 1, 2, 0, -1]), (7, [7, 8], [1]), (20, [5, 2, 7], [50, 1, 1, 1010, 1001, 4, 11, 0, 6, 4, 2, 1, 0, 0, 1, 2, 1, 10, 1, 2, 1, 2, 9, 5, 3, 1, 1, 1, 0, 0, 256]), (20, [2, 5, 7], [50, 1, 0, 10, 4, 7, 0, 3, 2, 0, 10, 1, 1, 1, 2, 1, 2, 0, -1]), (20, [2], [50, 2, 0, 157, 11, 0, 3, 2, 0, 157, 2, 0, 11]), (20, [6, 2], [30, -4001, -1, 0, 0, -2, 1, 11])], [], [], [(20, [2], [50, 2, 0, 157, 11, 0, 3, 2, 0, 157, 2, 0, 11]), (20, [6, 2], [30, -4001, -1, 0, 0, -2, 1, 11])], [], [(12, 5, 1, 1)])
theorem oo_Mo_styleTokens_9 {kA : Nat → ClassId} : or_ok kA GG o_Mo_styleTokens_9 := by
  intro A ta ws vs hD hth hl hk hds hf
  have hl : vs.length = 13 := hl
  have hk : ∀ q ∈ ([(0, (2, 0, 0, [150])), (2, (2, 0, 0, [150])), (5, (0, 0, 1999, [])), (6, (0, 0, 4001, [])), (7, (0, 0, 255, [])), (8, (0, 32, 32, [])), (9, (0, 10, 10, [])), (10, (0, 10, 10, [])), (11, (0, 1, 1, [])), (12, (0, 1, 2000, []))] : List (Nat × tv_T)), tv_ok ta q.2 (n_v vs q.1) := hk
  obtain ⟨t0, hk⟩ := List.forall_mem_cons.mp hk
  have t0 : tv_ok ta (2, 0, 0, [150]) (n_v vs 0) := t0
  have r0 : ta (v_ad (n_v vs 0)) = some 150 := tv_rg t0
  obtain ⟨t2, hk⟩ := List.forall_mem_cons.mp hk
  have t2 : tv_ok ta (2, 0, 0, [150]) (n_v vs 2) := t2
  have r2 : ta (v_ad (n_v vs 2)) = some 150 := tv_rg t2
  obtain ⟨t5, hk⟩ := List.forall_mem_cons.mp hk
  have t5 : tv_ok ta (0, 0, 1999, []) (n_v vs 5) := t5
  have k5 : 0 ≤ v_iv (n_v vs 5) ∧ v_iv (n_v vs 5) ≤ 1999 := tv_rng t5
  obtain ⟨t6, hk⟩ := List.forall_mem_cons.mp hk
  have t6 : tv_ok ta (0, 0, 4001, []) (n_v vs 6) := t6
  have k6 : 0 ≤ v_iv (n_v vs 6) ∧ v_iv (n_v vs 6) ≤ 4001 := tv_rng t6
  obtain ⟨t7, hk⟩ := List.forall_mem_cons.mp hk
  have t7 : tv_ok ta (0, 0, 255, []) (n_v vs 7) := t7
  have k7 : 0 ≤ v_iv (n_v vs 7) ∧ v_iv (n_v vs 7) ≤ 255 := tv_rng t7
  obtain ⟨t8, hk⟩ := List.forall_mem_cons.mp hk
  have t8 : tv_ok ta (0, 32, 32, []) (n_v vs 8) := t8
  have k8 : 32 ≤ v_iv (n_v vs 8) ∧ v_iv (n_v vs 8) ≤ 32 := tv_rng t8
  obtain ⟨t9, hk⟩ := List.forall_mem_cons.mp hk
  have t9 : tv_ok ta (0, 10, 10, []) (n_v vs 9) := t9
  have k9 : 10 ≤ v_iv (n_v vs 9) ∧ v_iv (n_v vs 9) ≤ 10 := tv_rng t9
  obtain ⟨t10, hk⟩ := List.forall_mem_cons.mp hk
  have t10 : tv_ok ta (0, 10, 10, []) (n_v vs 10) := t10
  have k10 : 10 ≤ v_iv (n_v vs 10) ∧ v_iv (n_v vs 10) ≤ 10 := tv_rng t10
  obtain ⟨t11, hk⟩ := List.forall_mem_cons.mp hk
  have t11 : tv_ok ta (0, 1, 1, []) (n_v vs 11) := t11
  have k11 : 1 ≤ v_iv (n_v vs 11) ∧ v_iv (n_v vs 11) ≤ 1 := tv_rng t11
  obtain ⟨t12, hk⟩ := List.forall_mem_cons.mp hk
  have t12 : tv_ok ta (0, 1, 2000, []) (n_v vs 12) := t12
  have k12 : 1 ≤ v_iv (n_v vs 12) ∧ v_iv (n_v vs 12) ≤ 2000 := tv_rng t12
  have hds : ∀ q ∈ ([(12, 5, 1, 1)] : List of_T), n_iv vs q.2.1 + q.2.2.1 ≤ n_iv vs q.1 ∧ n_iv vs q.1 ≤ n_iv vs q.2.1 + q.2.2.2 := hds
  obtain ⟨d0, hds⟩ := List.forall_mem_cons.mp hds
  have d0 : v_iv (n_v vs 5) + 1 ≤ v_iv (n_v vs 12) ∧ v_iv (n_v vs 12) ≤ v_iv (n_v vs 5) + 1 := d0
  have hf : fc_ok [(20, [5, 2, 9], [50, 1, 1, 1010, 1001, 4, 11, 0, 6, 4, 2, 1, 0, 0, 1, 2, 1, 10, 1, 2, 1, 2, 9, 5, 3, 1, 1, 1, 0, 0, 256]), (20, [2, 5, 9], [50, 1, 0, 10, 4, 7, 0, 3, 2, 0, 10, 1, 1, 1, 2, 1, 2, 0, -1]), (20, [5, 2, 7], [50, 1, 1, 1010, 1001, 4, 11, 0, 6, 4, 2, 1, 0, 0, 1, 2, 1, 10, 1, 2, 1, 2, 9, 5, 3, 1, 1, 1, 0, 0, 256]), (20, [2, 5, 7], [50, 1, 0, 10, 4, 7, 0, 3, 2, 0, 10, 1, 1, 1, 2, 1, 2, 0, -1]), (24, [0, 2], []), (101, [2, 12], [11]), (1, [12, 5, 11], []), (9, [5, 2], [11]), (7, [9, 10], [0]), (20, [5, 2, 9], [50, 1, 1, 1010, 1001, 4, 11, 0, 6, 4, 2, 1, 0, 0, 1, 2, 1, 10, 1, 2, 1, 2, 9, 5, 3, 1, 1, 1, 0, 0, 256]), (20, [2, 5, 9], [50, 1, 0, 10, 4, 7, 0, 3, 2, 0, 10, 1, 1, 1, 2, 1, 2, 0, -1]), (7, [7, 8], [1]), (20, [5, 2, 7], [50, 1, 1, 1010, 1001, 4, 11, 0, 6, 4, 2, 1, 0, 0, 1, 2, 1, 10, 1, 2, 1, 2, 9, 5, 3, 1, 1, 1, 0, 0, 256]), (20, [2, 5, 7], [50, 1, 0, 10, 4, 7, 0, 3, 2, 0, 10, 1, 1, 1, 2, 1, 2, 0, -1]), (20, [2], [50, 2, 0, 157, 11, 0, 3, 2, 0, 157, 2, 0, 11]), (20, [6, 2], [30, -4001, -1, 0, 0, -2, 1, 11])] ta ws vs := hf
  obtain ⟨f0, hf⟩ := fc_un (show (20 : Nat) < 100 from by decide) hf
  have f0 : ((v_iv (n_v vs 5) + 1) ≤ w_fi ws (n_v vs 2) 10) → (v_iv (n_v vs 9) = (w_ei ws (w_ar ws (n_v vs 2) 1) (v_iv (n_v vs 5)) % 256)) := f0
  obtain ⟨f1, hf⟩ := fc_un (show (20 : Nat) < 100 from by decide) hf
  have f1 : (w_fi ws (n_v vs 2) 10 ≤ v_iv (n_v vs 5)) → (v_iv (n_v vs 9) = (-1)) := f1
  obtain ⟨f2, hf⟩ := fc_un (show (20 : Nat) < 100 from by decide) hf
  have f2 : ((v_iv (n_v vs 5) + 1) ≤ w_fi ws (n_v vs 2) 10) → (v_iv (n_v vs 7) = (w_ei ws (w_ar ws (n_v vs 2) 1) (v_iv (n_v vs 5)) % 256)) := f2
  obtain ⟨f3, hf⟩ := fc_un (show (20 : Nat) < 100 from by decide) hf
  have f3 : (w_fi ws (n_v vs 2) 10 ≤ v_iv (n_v vs 5)) → (v_iv (n_v vs 7) = (-1)) := f3
  obtain ⟨f4, hf⟩ := fc_un (show (24 : Nat) < 100 from by decide) hf
  have f4 : n_v vs 0 = n_v vs 2 := f4
  obtain ⟨ta1, w1, le1, ⟨_, s1⟩, hf⟩ := fc_us (show ¬ (101 : Nat) < 100 from by decide) hf
  have s1 : (∀ b j, w_el ws b j = w_el w1 b j) ∧ ∀ b j, w_fd ws b j = if b = v_ad (n_v vs 2) ∧ j = 11 then n_v vs 12 else w_fd w1 b j := s1
  obtain ⟨f6, hf⟩ := fc_un (show (1 : Nat) < 100 from by decide) hf
  have f6 : v_iv (n_v vs 12) = v_iv (n_v vs 5) + v_iv (n_v vs 11) := f6
  obtain ⟨f7, hf⟩ := fc_un (show (9 : Nat) < 100 from by decide) hf
  have f7 : n_v vs 5 = w_fd w1 (v_ad (n_v vs 2)) 11 := f7
  obtain ⟨f8, hf⟩ := fc_un (show (7 : Nat) < 100 from by decide) hf
  have f8 : v_iv (n_v vs 9) = v_iv (n_v vs 10) := f8
  obtain ⟨f9, hf⟩ := fc_un (show (20 : Nat) < 100 from by decide) hf
  have f9 : ((v_iv (n_v vs 5) + 1) ≤ w_fi w1 (n_v vs 2) 10) → (v_iv (n_v vs 9) = (w_ei w1 (w_ar w1 (n_v vs 2) 1) (v_iv (n_v vs 5)) % 256)) := f9
  obtain ⟨f10, hf⟩ := fc_un (show (20 : Nat) < 100 from by decide) hf
  have f10 : (w_fi w1 (n_v vs 2) 10 ≤ v_iv (n_v vs 5)) → (v_iv (n_v vs 9) = (-1)) := f10
  obtain ⟨f11, hf⟩ := fc_un (show (7 : Nat) < 100 from by decide) hf
  have f11 : v_iv (n_v vs 7) ≠ v_iv (n_v vs 8) := f11
  obtain ⟨f12, hf⟩ := fc_un (show (20 : Nat) < 100 from by decide) hf
  have f12 : ((v_iv (n_v vs 5) + 1) ≤ w_fi w1 (n_v vs 2) 10) → (v_iv (n_v vs 7) = (w_ei w1 (w_ar w1 (n_v vs 2) 1) (v_iv (n_v vs 5)) % 256)) := f12
  obtain ⟨f13, hf⟩ := fc_un (show (20 : Nat) < 100 from by decide) hf
  have f13 : (w_fi w1 (n_v vs 2) 10 ≤ v_iv (n_v vs 5)) → (v_iv (n_v vs 7) = (-1)) := f13
  obtain ⟨f14, hf⟩ := fc_un (show (20 : Nat) < 100 from by decide) hf
  have f14 : w_fi w1 (n_v vs 2) 157 ≤ w_fi w1 (n_v vs 2) 11 := f14
  obtain ⟨f15, hf⟩ := fc_un (show (20 : Nat) < 100 from by decide) hf
  have f15 : (-1) * v_iv (n_v vs 6) + ((-2) * w_fi w1 (n_v vs 2) 11 + 0) ≤ (-4001) := f15
  have q2 : n_v vs 2 = n_v vs 0 := f4.symm
  rw [q2] at f0
  rw [q2] at f1
  rw [q2] at f2
  rw [q2] at f3
  rw [q2] at s1
  rw [q2] at f7
  rw [q2] at f9
  rw [q2] at f10
  rw [q2] at f12
  rw [q2] at f13
  rw [q2] at f14
  rw [q2] at f15
  have ar_0_1_1 : w_ar w1 (n_v vs 0) 1 = w_ar ws (n_v vs 0) 1 := by show v_ad (w_fd w1 _ _) = v_ad (w_fd ws _ _); rw [s1.2, if_neg (fun e => absurd e.2 (by decide))]
  have cr_0_1 : ta (w_ar ws (n_v vs 0) 1) = some 151 := tv_rg (th_fd hD hth r0 (g := GG_150) rfl (k := 1) (t := (2, 0, 0, [151])) rfl rfl)
  have g7 : v_iv (n_v vs 5) = w_fi w1 (n_v vs 0) 11 := congrArg v_iv f7
  rw [ar_0_1_1] at f9
  rw [ar_0_1_1] at f12
  have fe_0_10_1 : w_fi ws (n_v vs 0) 10 = w_fi w1 (n_v vs 0) 10 := by show v_iv (w_fd _ _ _) = v_iv (w_fd _ _ _); rw [s1.2, if_neg (fun e => absurd e.2 (by decide))]
  have fe_0_11_1 : w_fi ws (n_v vs 0) 11 = v_iv (n_v vs 12) := by show v_iv (w_fd _ _ _) = _; rw [s1.2, if_pos ⟨rfl, rfl⟩]
  have fe_0_157_1 : w_fi ws (n_v vs 0) 157 = w_fi w1 (n_v vs 0) 157 := by show v_iv (w_fd _ _ _) = v_iv (w_fd _ _ _); rw [s1.2, if_neg (fun e => absurd e.2 (by decide))]
  have hE_0_1_1 : ∀ j : Int, w_ei ws (w_ar ws (n_v vs 0) 1) j = w_ei w1 (w_ar ws (n_v vs 0) 1) j := fun j => s1.1 _ _
  have hK_0_1 : ∀ j : Int, 0 ≤ j → j < 2000 → (-128) ≤ w_ei ws (w_ar ws (n_v vs 0) 1) j ∧ w_ei ws (w_ar ws (n_v vs 0) 1) j ≤ 127 := fun j h0 h1 => th_el hD hth cr_0_1 (kd := 1) (n := 2000) (m := 2000) (lo := (-128)) (hi := 127) (rs := []) (L := []) rfl (by decide) (j := j.toNat) (by omega)
  have kz_0_10 : 0 ≤ w_fi ws (n_v vs 0) 10 ∧ w_fi ws (n_v vs 0) 10 ≤ 2000 := tv_rng (th_fd hD hth r0 (g := GG_150) rfl (k := 10) (t := (0, 0, 2000, [])) rfl rfl)
  have kz_0_11 : 0 ≤ w_fi ws (n_v vs 0) 11 ∧ w_fi ws (n_v vs 0) 11 ≤ 2000 := tv_rng (th_fd hD hth r0 (g := GG_150) rfl (k := 11) (t := (0, 0, 2000, [])) rfl rfl)
  have kz_0_157 : 0 ≤ w_fi ws (n_v vs 0) 157 ∧ w_fi ws (n_v vs 0) 157 ≤ 2010 := tv_rng (th_fd hD hth r0 (g := GG_150) rfl (k := 157) (t := (0, 0, 2010, [])) rfl rfl)
  have nf0 : fc_1 (20, [2], [50, 2, 0, 157, 11, 0, 3, 2, 0, 157, 2, 0, 11]) ws (vs) := by
    refine ⟨fun n hn => ?_, ?_⟩
    · have hn : n ∈ [2] := hn
      rw [hl]
      simp only [List.mem_cons, List.not_mem_nil, or_false] at hn
      show n < 13; omega
    · show w_fi ws (n_v vs 2) 157 ≤ w_fi ws (n_v vs 2) 11
      rw [q2]
      first | omega | grind
  have nf1 : fc_1 (20, [6, 2], [30, -4001, -1, 0, 0, -2, 1, 11]) ws (vs) := by
    refine ⟨fun n hn => ?_, ?_⟩
    · have hn : n ∈ [6, 2] := hn
      rw [hl]
      simp only [List.mem_cons, List.not_mem_nil, or_false] at hn
      show n < 13; omega
    · show (-1) * v_iv (n_v vs 6) + ((-2) * w_fi ws (n_v vs 2) 11 + 0) ≤ (-4001)
      rw [q2]
      omega
  refine ⟨(fun _ h => (by cases h)), [], trivial, ?_, (fun _ h => (by cases h))⟩
  rw [List.append_nil]
  exact List.forall_mem_cons.mpr ⟨⟨show (20 : Nat) < 100 from by decide, nf0⟩, List.forall_mem_cons.mpr ⟨⟨show (20 : Nat) < 100 from by decide, nf1⟩, (fun _ h => (by cases h))⟩⟩
def o_Mo_styleTokens_10 : or_T := (363, 11, [(0, (2, 0, 0, [150])), (2, (2, 0, 0, [150])), (5, (0, 0, 2000, [])), (6, (0, 0, 4001, [])), (7, (0, -1, -1, [])), (9, (1, -1, -1, [])), (10, (0, 0, 0, []))], [(8, [7], [2]), (22, [9, 7], []), (9, [5, 2], [11]), (20, [5, 2, 7], [50, 1, 1, 1010, 1001, 4, 11, 0, 6, 4, 2, 1, 0, 0, 1, 2, 1, 10, 1, 2, 1, 2, 9, 5, 3, 1, 1, 1, 0, 0, 256]), (20, [2, 5, 7], [50, 1, 0, 10, 4, 7, 0, 3, 2, 0, 10, 1, 1, 1, 2, 1, 2, 0, -1]), (20, [2], [50, 2, 0, 157, 11, 0, 3, 2, 0, 157, 2, 0, 11]), (20, [6, 2], [30, -4001, -1, 0, 0, -2, 1, 11]), (24, [0, 2], [])], [], [(0, 0, 4001, [])], [(20, [2, 5, 10], [50, 2, 0, 157, 11, 2, 7, 0, 3, 2, 0, 157, 1, 1, 2, 7, 0, 2, 1, 1, 2, 0, 11, 3, 6, 1, 2, 1, 2, 0, 0, 3, 6, 1, 2, 1, 2, 0, 4, 0, 6, 4, 2, 1, 1, 0, 1, 2, 0, 11]), (20, [11, 5], [30, -4001, -1, 0, 0, -2, 0, 0]), (24, [0, 2], [])], [(11, 6, 0, 0)], [])
theorem oo_Mo_styleTokens_10 {kA : Nat → ClassId} : or_ok kA GG o_Mo_styleTokens_10 := by
  intro A ta ws vs hD hth hl hk hds hf
  have hl : vs.length = 11 := hl
  have hk : ∀ q ∈ ([(0, (2, 0, 0, [150])), (2, (2, 0, 0, [150])), (5, (0, 0, 2000, [])), (6, (0, 0, 4001, [])), (7, (0, -1, -1, [])), (9, (1, -1, -1, [])), (10, (0, 0, 0, []))] : List (Nat × tv_T)), tv_ok ta q.2 (n_v vs q.1) := hk
  obtain ⟨t0, hk⟩ := List.forall_mem_cons.mp hk
  have t0 : tv_ok ta (2, 0, 0, [150]) (n_v vs 0) := t0
  have r0 : ta (v_ad (n_v vs 0)) = some 150 := tv_rg t0
  obtain ⟨t2, hk⟩ := List.forall_mem_cons.mp hk
  have t2 : tv_ok ta (2, 0, 0, [150]) (n_v vs 2) := t2
  have r2 : ta (v_ad (n_v vs 2)) = some 150 := tv_rg t2
  obtain ⟨t5, hk⟩ := List.forall_mem_cons.mp hk
  have t5 : tv_ok ta (0, 0, 2000, []) (n_v vs 5) := t5
  have k5 : 0 ≤ v_iv (n_v vs 5) ∧ v_iv (n_v vs 5) ≤ 2000 := tv_rng t5
  obtain ⟨t6, hk⟩ := List.forall_mem_cons.mp hk
  have t6 : tv_ok ta (0, 0, 4001, []) (n_v vs 6) := t6
  have k6 : 0 ≤ v_iv (n_v vs 6) ∧ v_iv (n_v vs 6) ≤ 4001 := tv_rng t6
  obtain ⟨t7, hk⟩ := List.forall_mem_cons.mp hk
  have t7 : tv_ok ta (0, -1, -1, []) (n_v vs 7) := t7
  have k7 : (-1) ≤ v_iv (n_v vs 7) ∧ v_iv (n_v vs 7) ≤ (-1) := tv_rng t7
  obtain ⟨t9, hk⟩ := List.forall_mem_cons.mp hk
  have t9 : tv_ok ta (1, -1, -1, []) (n_v vs 9) := t9
  have k9 : (-1) ≤ v_iv (n_v vs 9) ∧ v_iv (n_v vs 9) ≤ (-1) := tv_rngL t9
  obtain ⟨t10, hk⟩ := List.forall_mem_cons.mp hk
  have t10 : tv_ok ta (0, 0, 0, []) (n_v vs 10) := t10
  have k10 : 0 ≤ v_iv (n_v vs 10) ∧ v_iv (n_v vs 10) ≤ 0 := tv_rng t10
  have hf : fc_ok [(8, [7], [2]), (22, [9, 7], []), (9, [5, 2], [11]), (20, [5, 2, 7], [50, 1, 1, 1010, 1001, 4, 11, 0, 6, 4, 2, 1, 0, 0, 1, 2, 1, 10, 1, 2, 1, 2, 9, 5, 3, 1, 1, 1, 0, 0, 256]), (20, [2, 5, 7], [50, 1, 0, 10, 4, 7, 0, 3, 2, 0, 10, 1, 1, 1, 2, 1, 2, 0, -1]), (20, [2], [50, 2, 0, 157, 11, 0, 3, 2, 0, 157, 2, 0, 11]), (20, [6, 2], [30, -4001, -1, 0, 0, -2, 1, 11]), (24, [0, 2], [])] ta ws vs := hf
  obtain ⟨f0, hf⟩ := fc_un (show (8 : Nat) < 100 from by decide) hf
  have f0 : v_iv (n_v vs 7) < 0 := f0
  obtain ⟨f1, hf⟩ := fc_un (show (22 : Nat) < 100 from by decide) hf
  have f1 : v_iv (n_v vs 9) = v_iv (n_v vs 7) := f1
  obtain ⟨f2, hf⟩ := fc_un (show (9 : Nat) < 100 from by decide) hf
  have f2 : n_v vs 5 = w_fd ws (v_ad (n_v vs 2)) 11 := f2
  obtain ⟨f3, hf⟩ := fc_un (show (20 : Nat) < 100 from by decide) hf
  have f3 : ((v_iv (n_v vs 5) + 1) ≤ w_fi ws (n_v vs 2) 10) → (v_iv (n_v vs 7) = (w_ei ws (w_ar ws (n_v vs 2) 1) (v_iv (n_v vs 5)) % 256)) := f3
  obtain ⟨f4, hf⟩ := fc_un (show (20 : Nat) < 100 from by decide) hf
  have f4 : (w_fi ws (n_v vs 2) 10 ≤ v_iv (n_v vs 5)) → (v_iv (n_v vs 7) = (-1)) := f4
  obtain ⟨f5, hf⟩ := fc_un (show (20 : Nat) < 100 from by decide) hf
  have f5 : w_fi ws (n_v vs 2) 157 ≤ w_fi ws (n_v vs 2) 11 := f5
  obtain ⟨f6, hf⟩ := fc_un (show (20 : Nat) < 100 from by decide) hf
  have f6 : (-1) * v_iv (n_v vs 6) + ((-2) * w_fi ws (n_v vs 2) 11 + 0) ≤ (-4001) := f6
  obtain ⟨f7, hf⟩ := fc_un (show (24 : Nat) < 100 from by decide) hf
  have f7 : n_v vs 0 = n_v vs 2 := f7
  have q2 : n_v vs 2 = n_v vs 0 := f7.symm
  rw [q2] at f2
  rw [q2] at f3
  rw [q2] at f4
  rw [q2] at f5
  rw [q2] at f6
  have cr_0_1 : ta (w_ar ws (n_v vs 0) 1) = some 151 := tv_rg (th_fd hD hth r0 (g := GG_150) rfl (k := 1) (t := (2, 0, 0, [151])) rfl rfl)
  have g2 : v_iv (n_v vs 5) = w_fi ws (n_v vs 0) 11 := congrArg v_iv f2
  have hK_0_1 : ∀ j : Int, 0 ≤ j → j < 2000 → (-128) ≤ w_ei ws (w_ar ws (n_v vs 0) 1) j ∧ w_ei ws (w_ar ws (n_v vs 0) 1) j ≤ 127 := fun j h0 h1 => th_el hD hth cr_0_1 (kd := 1) (n := 2000) (m := 2000) (lo := (-128)) (hi := 127) (rs := []) (L := []) rfl (by decide) (j := j.toNat) (by omega)
  have kz_0_10 : 0 ≤ w_fi ws (n_v vs 0) 10 ∧ w_fi ws (n_v vs 0) 10 ≤ 2000 := tv_rng (th_fd hD hth r0 (g := GG_150) rfl (k := 10) (t := (0, 0, 2000, [])) rfl rfl)
  have kz_0_11 : 0 ≤ w_fi ws (n_v vs 0) 11 ∧ w_fi ws (n_v vs 0) 11 ≤ 2000 := tv_rng (th_fd hD hth r0 (g := GG_150) rfl (k := 11) (t := (0, 0, 2000, [])) rfl rfl)
  have kz_0_157 : 0 ≤ w_fi ws (n_v vs 0) 157 ∧ w_fi ws (n_v vs 0) 157 ≤ 2010 := tv_rng (th_fd hD hth r0 (g := GG_150) rfl (k := 157) (t := (0, 0, 2010, [])) rfl rfl)
  obtain ⟨x, ex, hx⟩ := iv_ex (ta := ta) (lo := 0) (hi := 4001) (z := 0 + (1 * v_iv (n_v vs 6) + 0)) (by omega) (by omega) (by omega) (by omega)
  have ex2 : v_iv (Value.int x) = 0 + (1 * v_iv (n_v vs 6) + 0) := ex
  have ex3 : 0 ≤ v_iv (Value.int x) ∧ v_iv (Value.int x) ≤ 4001 := tv_rng hx
  have e_0 : n_v (vs ++ [Value.int x]) 0 = n_v vs 0 := n_v_old (by rw [hl]; decide)
  have e_2 : n_v (vs ++ [Value.int x]) 2 = n_v vs 2 := n_v_old (by rw [hl]; decide)
  have e_5 : n_v (vs ++ [Value.int x]) 5 = n_v vs 5 := n_v_old (by rw [hl]; decide)
  have e_10 : n_v (vs ++ [Value.int x]) 10 = n_v vs 10 := n_v_old (by rw [hl]; decide)
  have e_11 : n_v (vs ++ [Value.int x]) 11 = Value.int x := n_v_new hl
  have nf0 : fc_1 (20, [2, 5, 10], [50, 2, 0, 157, 11, 2, 7, 0, 3, 2, 0, 157, 1, 1, 2, 7, 0, 2, 1, 1, 2, 0, 11, 3, 6, 1, 2, 1, 2, 0, 0, 3, 6, 1, 2, 1, 2, 0, 4, 0, 6, 4, 2, 1, 1, 0, 1, 2, 0, 11]) ws (vs ++ [Value.int x]) := by
    refine ⟨fun n hn => ?_, ?_⟩
    · have hn : n ∈ [2, 5, 10] := hn
      rw [List.length_append, hl]
      simp only [List.mem_cons, List.not_mem_nil, or_false] at hn
      show n < 11 + 1; omega
    · show (w_fi ws (n_v (vs ++ [Value.int x]) 2) 157 ≤ v_iv (n_v (vs ++ [Value.int x]) 5)) ∧ ((v_iv (n_v (vs ++ [Value.int x]) 5) ≤ w_fi ws (n_v (vs ++ [Value.int x]) 2) 11) ∧ ((v_iv (n_v (vs ++ [Value.int x]) 10) = 0) ∨ ((v_iv (n_v (vs ++ [Value.int x]) 10) = 4) ∨ ((v_iv (n_v (vs ++ [Value.int x]) 5) + 1) ≤ w_fi ws (n_v (vs ++ [Value.int x]) 2) 11))))
      rw [e_2]
      rw [e_5]
      rw [e_10]
      rw [q2]
      first | omega | grind
  have nf1 : fc_1 (20, [11, 5], [30, -4001, -1, 0, 0, -2, 0, 0]) ws (vs ++ [Value.int x]) := by
    refine ⟨fun n hn => ?_, ?_⟩
    · have hn : n ∈ [11, 5] := hn
      rw [List.length_append, hl]
      simp only [List.mem_cons, List.not_mem_nil, or_false] at hn
      show n < 11 + 1; omega
    · show (-1) * v_iv (n_v (vs ++ [Value.int x]) 11) + ((-2) * v_iv (n_v (vs ++ [Value.int x]) 5) + 0) ≤ (-4001)
      rw [e_5]
      rw [e_11]
      omega
  have nf2 : fc_1 (24, [0, 2], []) ws (vs ++ [Value.int x]) := by
    refine ⟨fun n hn => ?_, ?_⟩
    · have hn : n ∈ [0, 2] := hn
      rw [List.length_append, hl]
      simp only [List.mem_cons, List.not_mem_nil, or_false] at hn
      show n < 11 + 1; omega
    · show n_v (vs ++ [Value.int x]) 0 = n_v (vs ++ [Value.int x]) 2
      first | rfl | simp only [e_0, e_2, q2]
  obtain ⟨x0, e0, _, _⟩ := tv_int t6 rfl
  have e1 : v_iv (n_v vs 6) = x0.toInt := by rw [e0]; rfl
  have ho : sy_ofs (vs ++ [Value.int x]) (11, 6, 0, 0) := by
    refine ⟨x, x0, by rw [List.getElem?_append_right (by rw [hl]; decide), hl]; rfl, ?_, ?_, ?_⟩
    · rw [List.getElem?_append_left (by rw [hl]; decide)]; exact n_v_some (by rw [hl]; decide) e0
    · show x0.toInt + 0 ≤ x.toInt; omega
    · show x.toInt ≤ x0.toInt + 0; omega
  exact ⟨(fun _ h => (by cases h)), [Value.int x], ag_one hx, List.forall_mem_cons.mpr ⟨⟨show (20 : Nat) < 100 from by decide, nf0⟩, List.forall_mem_cons.mpr ⟨⟨show (20 : Nat) < 100 from by decide, nf1⟩, List.forall_mem_cons.mpr ⟨⟨show (24 : Nat) < 100 from by decide, nf2⟩, (fun _ h => (by cases h))⟩⟩⟩, List.forall_mem_cons.mpr ⟨ho, (fun _ h => (by cases h))⟩⟩
def o_Mo_styleTokens_11 : or_T := (250, 14, [(0, (2, 0, 0, [150])), (2, (2, 0, 0, [150])), (5, (0, 0, 1999, [])), (6, (0, 0, 4001, [])), (7, (0, 0, 47, [])), (9, (1, 0, 255, []))], [(8, [7], [3]), (22, [9, 7], []), (9, [5, 2], [11]), (20, [5, 2, 7], [50, 1, 1, 1010, 1001, 4, 11, 0, 6, 4, 2, 1, 0, 0, 1, 2, 1, 10, 1, 2, 1, 2, 9, 5, 3, 1, 1, 1, 0, 0, 256]), (20, [2, 5, 7], [50, 1, 0, 10, 4, 7, 0, 3, 2, 0, 10, 1, 1, 1, 2, 1, 2, 0, -1]), (20, [2], [50, 2, 0, 157, 11, 0, 3, 2, 0, 157, 2, 0, 11]), (20, [6, 2], [30, -4001, -1, 0, 0, -2, 1, 11]), (24, [0, 2], [])], [], [(0, 0, 4001, [])], [(20, [2, 5], [50, 2, 0, 157, 11, 2, 7, 0, 3, 2, 0, 157, 1, 1, 1, 3, 2, 0, 11, 1, 1]), (20, [14, 5], [30, -4001, -1, 0, 0, -2, 0, 0]), (24, [0, 2], [])], [(14, 6, 0, 0)], [])
theorem oo_Mo_styleTokens_11 {kA : Nat → ClassId} : or_ok kA GG o_Mo_styleTokens_11 := by
  intro A ta ws vs hD hth hl hk hds hf
  have hl : vs.length = 14 := hl
  have hk : ∀ q ∈ ([(0, (2, 0, 0, [150])), (2, (2, 0, 0, [150])), (5, (0, 0, 1999, [])), (6, (0, 0, 4001, [])), (7, (0, 0, 47, [])), (9, (1, 0, 255, []))] : List (Nat × tv_T)), tv_ok ta q.2 (n_v vs q.1) := hk
  obtain ⟨t0, hk⟩ := List.forall_mem_cons.mp hk
  have t0 : tv_ok ta (2, 0, 0, [150]) (n_v vs 0) := t0
  have r0 : ta (v_ad (n_v vs 0)) = some 150 := tv_rg t0
  obtain ⟨t2, hk⟩ := List.forall_mem_cons.mp hk
  have t2 : tv_ok ta (2, 0, 0, [150]) (n_v vs 2) := t2
  have r2 : ta (v_ad (n_v vs 2)) = some 150 := tv_rg t2
  obtain ⟨t5, hk⟩ := List.forall_mem_cons.mp hk
  have t5 : tv_ok ta (0, 0, 1999, []) (n_v vs 5) := t5
  have k5 : 0 ≤ v_iv (n_v vs 5) ∧ v_iv (n_v vs 5) ≤ 1999 := tv_rng t5
  obtain ⟨t6, hk⟩ := List.forall_mem_cons.mp hk
  have t6 : tv_ok ta (0, 0, 4001, []) (n_v vs 6) := t6
  have k6 : 0 ≤ v_iv (n_v vs 6) ∧ v_iv (n_v vs 6) ≤ 4001 := tv_rng t6
  obtain ⟨t7, hk⟩ := List.forall_mem_cons.mp hk
  have t7 : tv_ok ta (0, 0, 47, []) (n_v vs 7) := t7
  have k7 : 0 ≤ v_iv (n_v vs 7) ∧ v_iv (n_v vs 7) ≤ 47 := tv_rng t7
  obtain ⟨t9, hk⟩ := List.forall_mem_cons.mp hk
  have t9 : tv_ok ta (1, 0, 255, []) (n_v vs 9) := t9
  have k9 : 0 ≤ v_iv (n_v vs 9) ∧ v_iv (n_v vs 9) ≤ 255 := tv_rngL t9
  have hf : fc_ok [(8, [7], [3]), (22, [9, 7], []), (9, [5, 2], [11]), (20, [5, 2, 7], [50, 1, 1, 1010, 1001, 4, 11, 0, 6, 4, 2, 1, 0, 0, 1, 2, 1, 10, 1, 2, 1, 2, 9, 5, 3, 1, 1, 1, 0, 0, 256]), (20, [2, 5, 7], [50, 1, 0, 10, 4, 7, 0, 3, 2, 0, 10, 1, 1, 1, 2, 1, 2, 0, -1]), (20, [2], [50, 2, 0, 157, 11, 0, 3, 2, 0, 157, 2, 0, 11]), (20, [6, 2], [30, -4001, -1, 0, 0, -2, 1, 11]), (24, [0, 2], [])] ta ws vs := hf
  obtain ⟨f0, hf⟩ := fc_un (show (8 : Nat) < 100 from by decide) hf
  have f0 : 0 ≤ v_iv (n_v vs 7) := f0
  obtain ⟨f1, hf⟩ := fc_un (show (22 : Nat) < 100 from by decide) hf
  have f1 : v_iv (n_v vs 9) = v_iv (n_v vs 7) := f1
  obtain ⟨f2, hf⟩ := fc_un (show (9 : Nat) < 100 from by decide) hf
  have f2 : n_v vs 5 = w_fd ws (v_ad (n_v vs 2)) 11 := f2
  obtain ⟨f3, hf⟩ := fc_un (show (20 : Nat) < 100 from by decide) hf
  have f3 : ((v_iv (n_v vs 5) + 1) ≤ w_fi ws (n_v vs 2) 10) → (v_iv (n_v vs 7) = (w_ei ws (w_ar ws (n_v vs 2) 1) (v_iv (n_v vs 5)) % 256)) := f3
  obtain ⟨f4, hf⟩ := fc_un (show (20 : Nat) < 100 from by decide) hf
  have f4 : (w_fi ws (n_v vs 2) 10 ≤ v_iv (n_v vs 5)) → (v_iv (n_v vs 7) = (-1)) := f4
  obtain ⟨f5, hf⟩ := fc_un (show (20 : Nat) < 100 from by decide) hf
  have f5 : w_fi ws (n_v vs 2) 157 ≤ w_fi ws (n_v vs 2) 11 := f5
  obtain ⟨f6, hf⟩ := fc_un (show (20 : Nat) < 100 from by decide) hf
  have f6 : (-1) * v_iv (n_v vs 6) + ((-2) * w_fi ws (n_v vs 2) 11 + 0) ≤ (-4001) := f6
  obtain ⟨f7, hf⟩ := fc_un (show (24 : Nat) < 100 from by decide) hf
  have f7 : n_v vs 0 = n_v vs 2 := f7
  have q2 : n_v vs 2 = n_v vs 0 := f7.symm
  rw [q2] at f2
  rw [q2] at f3
  rw [q2] at f4
  rw [q2] at f5
  rw [q2] at f6
  have cr_0_1 : ta (w_ar ws (n_v vs 0) 1) = some 151 := tv_rg (th_fd hD hth r0 (g := GG_150) rfl (k := 1) (t := (2, 0, 0, [151])) rfl rfl)
  have g2 : v_iv (n_v vs 5) = w_fi ws (n_v vs 0) 11 := congrArg v_iv f2
  have hK_0_1 : ∀ j : Int, 0 ≤ j → j < 2000 → (-128) ≤ w_ei ws (w_ar ws (n_v vs 0) 1) j ∧ w_ei ws (w_ar ws (n_v vs 0) 1) j ≤ 127 := fun j h0 h1 => th_el hD hth cr_0_1 (kd := 1) (n := 2000) (m := 2000) (lo := (-128)) (hi := 127) (rs := []) (L := []) rfl (by decide) (j := j.toNat) (by omega)
  have kz_0_10 : 0 ≤ w_fi ws (n_v vs 0) 10 ∧ w_fi ws (n_v vs 0) 10 ≤ 2000 := tv_rng (th_fd hD hth r0 (g := GG_150) rfl (k := 10) (t := (0, 0, 2000, [])) rfl rfl)
  have kz_0_11 : 0 ≤ w_fi ws (n_v vs 0) 11 ∧ w_fi ws (n_v vs 0) 11 ≤ 2000 := tv_rng (th_fd hD hth r0 (g := GG_150) rfl (k := 11) (t := (0, 0, 2000, [])) rfl rfl)
  have kz_0_157 : 0 ≤ w_fi ws (n_v vs 0) 157 ∧ w_fi ws (n_v vs 0) 157 ≤ 2010 := tv_rng (th_fd hD hth r0 (g := GG_150) rfl (k := 157) (t := (0, 0, 2010, [])) rfl rfl)
  obtain ⟨x, ex, hx⟩ := iv_ex (ta := ta) (lo := 0) (hi := 4001) (z := 0 + (1 * v_iv (n_v vs 6) + 0)) (by omega) (by omega) (by omega) (by omega)
  have ex2 : v_iv (Value.int x) = 0 + (1 * v_iv (n_v vs 6) + 0) := ex
  have ex3 : 0 ≤ v_iv (Value.int x) ∧ v_iv (Value.int x) ≤ 4001 := tv_rng hx
  have e_0 : n_v (vs ++ [Value.int x]) 0 = n_v vs 0 := n_v_old (by rw [hl]; decide)
  have e_2 : n_v (vs ++ [Value.int x]) 2 = n_v vs 2 := n_v_old (by rw [hl]; decide)
  have e_5 : n_v (vs ++ [Value.int x]) 5 = n_v vs 5 := n_v_old (by rw [hl]; decide)
  have e_14 : n_v (vs ++ [Value.int x]) 14 = Value.int x := n_v_new hl
  have nf0 : fc_1 (20, [2, 5], [50, 2, 0, 157, 11, 2, 7, 0, 3, 2, 0, 157, 1, 1, 1, 3, 2, 0, 11, 1, 1]) ws (vs ++ [Value.int x]) := by
    refine ⟨fun n hn => ?_, ?_⟩
    · have hn : n ∈ [2, 5] := hn
      rw [List.length_append, hl]
      simp only [List.mem_cons, List.not_mem_nil, or_false] at hn
      show n < 14 + 1; omega
    · show (w_fi ws (n_v (vs ++ [Value.int x]) 2) 157 ≤ v_iv (n_v (vs ++ [Value.int x]) 5)) ∧ (w_fi ws (n_v (vs ++ [Value.int x]) 2) 11 = v_iv (n_v (vs ++ [Value.int x]) 5))
      rw [e_2]
      rw [e_5]
      rw [q2]
      first | omega | grind
  have nf1 : fc_1 (20, [14, 5], [30, -4001, -1, 0, 0, -2, 0, 0]) ws (vs ++ [Value.int x]) := by
    refine ⟨fun n hn => ?_, ?_⟩
    · have hn : n ∈ [14, 5] := hn
      rw [List.length_append, hl]
      simp only [List.mem_cons, List.not_mem_nil, or_false] at hn
      show n < 14 + 1; omega
    · show (-1) * v_iv (n_v (vs ++ [Value.int x]) 14) + ((-2) * v_iv (n_v (vs ++ [Value.int x]) 5) + 0) ≤ (-4001)
      rw [e_5]
      rw [e_14]
      omega
  have nf2 : fc_1 (24, [0, 2], []) ws (vs ++ [Value.int x]) := by
    refine ⟨fun n hn => ?_, ?_⟩
    · have hn : n ∈ [0, 2] := hn
      rw [List.length_append, hl]
      simp only [List.mem_cons, List.not_mem_nil, or_false] at hn
      show n < 14 + 1; omega
    · show n_v (vs ++ [Value.int x]) 0 = n_v (vs ++ [Value.int x]) 2
      first | rfl | simp only [e_0, e_2, q2]
  obtain ⟨x0, e0, _, _⟩ := tv_int t6 rfl
  have e1 : v_iv (n_v vs 6) = x0.toInt := by rw [e0]; rfl
  have ho : sy_ofs (vs ++ [Value.int x]) (14, 6, 0, 0) := by
    refine ⟨x, x0, by rw [List.getElem?_append_right (by rw [hl]; decide), hl]; rfl, ?_, ?_, ?_⟩
    · rw [List.getElem?_append_left (by rw [hl]; decide)]; exact n_v_some (by rw [hl]; decide) e0
    · show x0.toInt + 0 ≤ x.toInt; omega
    · show x.toInt ≤ x0.toInt + 0; omega
  exact ⟨(fun _ h => (by cases h)), [Value.int x], ag_one hx, List.forall_mem_cons.mpr ⟨⟨show (20 : Nat) < 100 from by decide, nf0⟩, List.forall_mem_cons.mpr ⟨⟨show (20 : Nat) < 100 from by decide, nf1⟩, List.forall_mem_cons.mpr ⟨⟨show (24 : Nat) < 100 from by decide, nf2⟩, (fun _ h => (by cases h))⟩⟩⟩, List.forall_mem_cons.mpr ⟨ho, (fun _ h => (by cases h))⟩⟩
def o_Mo_styleTokens_12 : or_T := (250, 14, [(0, (2, 0, 0, [150])), (2, (2, 0, 0, [150])), (5, (0, 0, 1999, [])), (6, (0, 0, 4001, [])), (7, (0, 58, 96, [])), (9, (1, 0, 255, []))], [(8, [7], [3]), (22, [9, 7], []), (9, [5, 2], [11]), (20, [5, 2, 7], [50, 1, 1, 1010, 1001, 4, 11, 0, 6, 4, 2, 1, 0, 0, 1, 2, 1, 10, 1, 2, 1, 2, 9, 5, 3, 1, 1, 1, 0, 0, 256]), (20, [2, 5, 7], [50, 1, 0, 10, 4, 7, 0, 3, 2, 0, 10, 1, 1, 1, 2, 1, 2, 0, -1]), (20, [2], [50, 2, 0, 157, 11, 0, 3, 2, 0, 157, 2, 0, 11]), (20, [6, 2], [30, -4001, -1, 0, 0, -2, 1, 11]), (24, [0, 2], [])], [], [(0, 0, 4001, [])], [(20, [2, 5], [50, 2, 0, 157, 11, 2, 7, 0, 3, 2, 0, 157, 1, 1, 1, 3, 2, 0, 11, 1, 1]), (20, [14, 5], [30, -4001, -1, 0, 0, -2, 0, 0]), (24, [0, 2], [])], [(14, 6, 0, 0)], [])
theorem oo_Mo_styleTokens_12 {kA : Nat → ClassId} : or_ok kA GG o_Mo_styleTokens_12 := by
  intro A ta ws vs hD hth hl hk hds hf
  have hl : vs.length = 14 := hl
  have hk : ∀ q ∈ ([(0, (2, 0, 0, [150])), (2, (2, 0, 0, [150])), (5, (0, 0, 1999, [])), (6, (0, 0, 4001, [])), (7, (0, 58, 96, [])), (9, (1, 0, 255, []))] : List (Nat × tv_T)), tv_ok ta q.2 (n_v vs q.1) := hk
  obtain ⟨t0, hk⟩ := List.forall_mem_cons.mp hk
  have t0 : tv_ok ta (2, 0, 0, [150]) (n_v vs 0) := t0
  have r0 : ta (v_ad (n_v vs 0)) = some 150 := tv_rg t0
  obtain ⟨t2, hk⟩ := List.forall_mem_cons.mp hk
  have t2 : tv_ok ta (2, 0, 0, [150]) (n_v vs 2) := t2
  have r2 : ta (v_ad (n_v vs 2)) = some 150 := tv_rg t2
  obtain ⟨t5, hk⟩ := List.forall_mem_cons.mp hk
  have t5 : tv_ok ta (0, 0, 1999, []) (n_v vs 5) := t5
  have k5 : 0 ≤ v_iv (n_v vs 5) ∧ v_iv (n_v vs 5) ≤ 1999 := tv_rng t5
  obtain ⟨t6, hk⟩ := List.forall_mem_cons.mp hk
  have t6 : tv_ok ta (0, 0, 4001, []) (n_v vs 6) := t6
  have k6 : 0 ≤ v_iv (n_v vs 6) ∧ v_iv (n_v vs 6) ≤ 4001 := tv_rng t6
  obtain ⟨t7, hk⟩ := List.forall_mem_cons.mp hk
  have t7 : tv_ok ta (0, 58, 96, []) (n_v vs 7) := t7
  have k7 : 58 ≤ v_iv (n_v vs 7) ∧ v_iv (n_v vs 7) ≤ 96 := tv_rng t7
  obtain ⟨t9, hk⟩ := List.forall_mem_cons.mp hk
  have t9 : tv_ok ta (1, 0, 255, []) (n_v vs 9) := t9
  have k9 : 0 ≤ v_iv (n_v vs 9) ∧ v_iv (n_v vs 9) ≤ 255 := tv_rngL t9
  have hf : fc_ok [(8, [7], [3]), (22, [9, 7], []), (9, [5, 2], [11]), (20, [5, 2, 7], [50, 1, 1, 1010, 1001, 4, 11, 0, 6, 4, 2, 1, 0, 0, 1, 2, 1, 10, 1, 2, 1, 2, 9, 5, 3, 1, 1, 1, 0, 0, 256]), (20, [2, 5, 7], [50, 1, 0, 10, 4, 7, 0, 3, 2, 0, 10, 1, 1, 1, 2, 1, 2, 0, -1]), (20, [2], [50, 2, 0, 157, 11, 0, 3, 2, 0, 157, 2, 0, 11]), (20, [6, 2], [30, -4001, -1, 0, 0, -2, 1, 11]), (24, [0, 2], [])] ta ws vs := hf
  obtain ⟨f0, hf⟩ := fc_un (show (8 : Nat) < 100 from by decide) hf
  have f0 : 0 ≤ v_iv (n_v vs 7) := f0
  obtain ⟨f1, hf⟩ := fc_un (show (22 : Nat) < 100 from by decide) hf
  have f1 : v_iv (n_v vs 9) = v_iv (n_v vs 7) := f1
  obtain ⟨f2, hf⟩ := fc_un (show (9 : Nat) < 100 from by decide) hf
  have f2 : n_v vs 5 = w_fd ws (v_ad (n_v vs 2)) 11 := f2
  obtain ⟨f3, hf⟩ := fc_un (show (20 : Nat) < 100 from by decide) hf
  have f3 : ((v_iv (n_v vs 5) + 1) ≤ w_fi ws (n_v vs 2) 10) → (v_iv (n_v vs 7) = (w_ei ws (w_ar ws (n_v vs 2) 1) (v_iv (n_v vs 5)) % 256)) := f3
  obtain ⟨f4, hf⟩ := fc_un (show (20 : Nat) < 100 from by decide) hf
  have f4 : (w_fi ws (n_v vs 2) 10 ≤ v_iv (n_v vs 5)) → (v_iv (n_v vs 7) = (-1)) := f4
  obtain ⟨f5, hf⟩ := fc_un (show (20 : Nat) < 100 from by decide) hf
  have f5 : w_fi ws (n_v vs 2) 157 ≤ w_fi ws (n_v vs 2) 11 := f5
  obtain ⟨f6, hf⟩ := fc_un (show (20 : Nat) < 100 from by decide) hf
  have f6 : (-1) * v_iv (n_v vs 6) + ((-2) * w_fi ws (n_v vs 2) 11 + 0) ≤ (-4001) := f6
  obtain ⟨f7, hf⟩ := fc_un (show (24 : Nat) < 100 from by decide) hf
  have f7 : n_v vs 0 = n_v vs 2 := f7
  have q2 : n_v vs 2 = n_v vs 0 := f7.symm
  rw [q2] at f2
  rw [q2] at f3
  rw [q2] at f4
  rw [q2] at f5
  rw [q2] at f6
  have cr_0_1 : ta (w_ar ws (n_v vs 0) 1) = some 151 := tv_rg (th_fd hD hth r0 (g := GG_150) rfl (k := 1) (t := (2, 0, 0, [151])) rfl rfl)
  have g2 : v_iv (n_v vs 5) = w_fi ws (n_v vs 0) 11 := congrArg v_iv f2
  have hK_0_1 : ∀ j : Int, 0 ≤ j → j < 2000 → (-128) ≤ w_ei ws (w_ar ws (n_v vs 0) 1) j ∧ w_ei ws (w_ar ws (n_v vs 0) 1) j ≤ 127 := fun j h0 h1 => th_el hD hth cr_0_1 (kd := 1) (n := 2000) (m := 2000) (lo := (-128)) (hi := 127) (rs := []) (L := []) rfl (by decide) (j := j.toNat) (by omega)
  have kz_0_10 : 0 ≤ w_fi ws (n_v vs 0) 10 ∧ w_fi ws (n_v vs 0) 10 ≤ 2000 := tv_rng (th_fd hD hth r0 (g := GG_150) rfl (k := 10) (t := (0, 0, 2000, [])) rfl rfl)
  have kz_0_11 : 0 ≤ w_fi ws (n_v vs 0) 11 ∧ w_fi ws (n_v vs 0) 11 ≤ 2000 := tv_rng (th_fd hD hth r0 (g := GG_150) rfl (k := 11) (t := (0, 0, 2000, [])) rfl rfl)
  have kz_0_157 : 0 ≤ w_fi ws (n_v vs 0) 157 ∧ w_fi ws (n_v vs 0) 157 ≤ 2010 := tv_rng (th_fd hD hth r0 (g := GG_150) rfl (k := 157) (t := (0, 0, 2010, [])) rfl rfl)
  obtain ⟨x, ex, hx⟩ := iv_ex (ta := ta) (lo := 0) (hi := 4001) (z := 0 + (1 * v_iv (n_v vs 6) + 0)) (by omega) (by omega) (by omega) (by omega)
  have ex2 : v_iv (Value.int x) = 0 + (1 * v_iv (n_v vs 6) + 0) := ex
  have ex3 : 0 ≤ v_iv (Value.int x) ∧ v_iv (Value.int x) ≤ 4001 := tv_rng hx
  have e_0 : n_v (vs ++ [Value.int x]) 0 = n_v vs 0 := n_v_old (by rw [hl]; decide)
  have e_2 : n_v (vs ++ [Value.int x]) 2 = n_v vs 2 := n_v_old (by rw [hl]; decide)
  have e_5 : n_v (vs ++ [Value.int x]) 5 = n_v vs 5 := n_v_old (by rw [hl]; decide)
  have e_14 : n_v (vs ++ [Value.int x]) 14 = Value.int x := n_v_new hl
  have nf0 : fc_1 (20, [2, 5], [50, 2, 0, 157, 11, 2, 7, 0, 3, 2, 0, 157, 1, 1, 1, 3, 2, 0, 11, 1, 1]) ws (vs ++ [Value.int x]) := by
    refine ⟨fun n hn => ?_, ?_⟩
    · have hn : n ∈ [2, 5] := hn
      rw [List.length_append, hl]
      simp only [List.mem_cons, List.not_mem_nil, or_false] at hn
      show n < 14 + 1; omega
    · show (w_fi ws (n_v (vs ++ [Value.int x]) 2) 157 ≤ v_iv (n_v (vs ++ [Value.int x]) 5)) ∧ (w_fi ws (n_v (vs ++ [Value.int x]) 2) 11 = v_iv (n_v (vs ++ [Value.int x]) 5))
      rw [e_2]
      rw [e_5]
      rw [q2]
      first | omega | grind
  have nf1 : fc_1 (20, [14, 5], [30, -4001, -1, 0, 0, -2, 0, 0]) ws (vs ++ [Value.int x]) := by
    refine ⟨fun n hn => ?_, ?_⟩
    · have hn : n ∈ [14, 5] := hn
      rw [List.length_append, hl]
      simp only [List.mem_cons, List.not_mem_nil, or_false] at hn
      show n < 14 + 1; omega
    · show (-1) * v_iv (n_v (vs ++ [Value.int x]) 14) + ((-2) * v_iv (n_v (vs ++ [Value.int x]) 5) + 0) ≤ (-4001)
      rw [e_5]
      rw [e_14]
      omega
  have nf2 : fc_1 (24, [0, 2], []) ws (vs ++ [Value.int x]) := by
    refine ⟨fun n hn => ?_, ?_⟩
    · have hn : n ∈ [0, 2] := hn
      rw [List.length_append, hl]
      simp only [List.mem_cons, List.not_mem_nil, or_false] at hn
      show n < 14 + 1; omega
    · show n_v (vs ++ [Value.int x]) 0 = n_v (vs ++ [Value.int x]) 2
      first | rfl | simp only [e_0, e_2, q2]
  obtain ⟨x0, e0, _, _⟩ := tv_int t6 rfl
  have e1 : v_iv (n_v vs 6) = x0.toInt := by rw [e0]; rfl
  have ho : sy_ofs (vs ++ [Value.int x]) (14, 6, 0, 0) := by
    refine ⟨x, x0, by rw [List.getElem?_append_right (by rw [hl]; decide), hl]; rfl, ?_, ?_, ?_⟩
    · rw [List.getElem?_append_left (by rw [hl]; decide)]; exact n_v_some (by rw [hl]; decide) e0
    · show x0.toInt + 0 ≤ x.toInt; omega
    · show x.toInt ≤ x0.toInt + 0; omega
  exact ⟨(fun _ h => (by cases h)), [Value.int x], ag_one hx, List.forall_mem_cons.mpr ⟨⟨show (20 : Nat) < 100 from by decide, nf0⟩, List.forall_mem_cons.mpr ⟨⟨show (20 : Nat) < 100 from by decide, nf1⟩, List.forall_mem_cons.mpr ⟨⟨show (24 : Nat) < 100 from by decide, nf2⟩, (fun _ h => (by cases h))⟩⟩⟩, List.forall_mem_cons.mpr ⟨ho, (fun _ h => (by cases h))⟩⟩
def o_Mo_styleTokens_13 : or_T := (166, 15, [(0, (2, 0, 0, [150])), (2, (2, 0, 0, [150])), (5, (0, 0, 1999, [])), (6, (0, 0, 4001, [])), (7, (0, 48, 57, [])), (9, (1, 0, 255, []))], [(8, [7], [3]), (22, [9, 7], []), (9, [5, 2], [11]), (20, [5, 2, 7], [50, 1, 1, 1010, 1001, 4, 11, 0, 6, 4, 2, 1, 0, 0, 1, 2, 1, 10, 1, 2, 1, 2, 9, 5, 3, 1, 1, 1, 0, 0, 256]), (20, [2, 5, 7], [50, 1, 0, 10, 4, 7, 0, 3, 2, 0, 10, 1, 1, 1, 2, 1, 2, 0, -1]), (20, [2], [50, 2, 0, 157, 11, 0, 3, 2, 0, 157, 2, 0, 11]), (20, [6, 2], [30, -4001, -1, 0, 0, -2, 1, 11]), (24, [0, 2], [])], [], [(0, 0, 4001, [])], [(20, [2, 5], [50, 3, 1, 157, 11, 10, 1, 2, 7, 0, 3, 2, 0, 157, 1, 1, 2, 7, 0, 2, 1, 1, 2, 0, 11, 3, 11, 0, 6, 4, 2, 1, 1, 0, 1, 2, 0, 11, 2, 7, 1, 3, 2, 0, 11, 1, 1, 2, 11, 0, 6, 4, 2, 1, 1, 0, 1, 2, 0, 10, 2, 13, 0, 2, 0, 48, 9, 5, 3, 0, 1, 1, 1, 0, 256, 0, 9, 9, 5, 3, 0, 1, 1, 1, 0, 256, 0, 57]), (20, [15, 5], [30, -4001, -1, 0, 0, -2, 0, 0]), (24, [0, 2], [])], [(15, 6, 0, 0)], [])
theorem oo_Mo_styleTokens_13 {kA : Nat → ClassId} : or_ok kA GG o_Mo_styleTokens_13 := by
  intro A ta ws vs hD hth hl hk hds hf
  have hl : vs.length = 15 := hl
  have hk : ∀ q ∈ ([(0, (2, 0, 0, [150])), (2, (2, 0, 0, [150])), (5, (0, 0, 1999, [])), (6, (0, 0, 4001, [])), (7, (0, 48, 57, [])), (9, (1, 0, 255, []))] : List (Nat × tv_T)), tv_ok ta q.2 (n_v vs q.1) := hk
  obtain ⟨t0, hk⟩ := List.forall_mem_cons.mp hk
  have t0 : tv_ok ta (2, 0, 0, [150]) (n_v vs 0) := t0
  have r0 : ta (v_ad (n_v vs 0)) = some 150 := tv_rg t0
  obtain ⟨t2, hk⟩ := List.forall_mem_cons.mp hk
  have t2 : tv_ok ta (2, 0, 0, [150]) (n_v vs 2) := t2
  have r2 : ta (v_ad (n_v vs 2)) = some 150 := tv_rg t2
  obtain ⟨t5, hk⟩ := List.forall_mem_cons.mp hk
  have t5 : tv_ok ta (0, 0, 1999, []) (n_v vs 5) := t5
  have k5 : 0 ≤ v_iv (n_v vs 5) ∧ v_iv (n_v vs 5) ≤ 1999 := tv_rng t5
  obtain ⟨t6, hk⟩ := List.forall_mem_cons.mp hk
  have t6 : tv_ok ta (0, 0, 4001, []) (n_v vs 6) := t6
  have k6 : 0 ≤ v_iv (n_v vs 6) ∧ v_iv (n_v vs 6) ≤ 4001 := tv_rng t6
  obtain ⟨t7, hk⟩ := List.forall_mem_cons.mp hk
  have t7 : tv_ok ta (0, 48, 57, []) (n_v vs 7) := t7
  have k7 : 48 ≤ v_iv (n_v vs 7) ∧ v_iv (n_v vs 7) ≤ 57 := tv_rng t7
  obtain ⟨t9, hk⟩ := List.forall_mem_cons.mp hk
  have t9 : tv_ok ta (1, 0, 255, []) (n_v vs 9) := t9
  have k9 : 0 ≤ v_iv (n_v vs 9) ∧ v_iv (n_v vs 9) ≤ 255 := tv_rngL t9
  have hf : fc_ok [(8, [7], [3]), (22, [9, 7], []), (9, [5, 2], [11]), (20, [5, 2, 7], [50, 1, 1, 1010, 1001, 4, 11, 0, 6, 4, 2, 1, 0, 0, 1, 2, 1, 10, 1, 2, 1, 2, 9, 5, 3, 1, 1, 1, 0, 0, 256]), (20, [2, 5, 7], [50, 1, 0, 10, 4, 7, 0, 3, 2, 0, 10, 1, 1, 1, 2, 1, 2, 0, -1]), (20, [2], [50, 2, 0, 157, 11, 0, 3, 2, 0, 157, 2, 0, 11]), (20, [6, 2], [30, -4001, -1, 0, 0, -2, 1, 11]), (24, [0, 2], [])] ta ws vs := hf
  obtain ⟨f0, hf⟩ := fc_un (show (8 : Nat) < 100 from by decide) hf
  have f0 : 0 ≤ v_iv (n_v vs 7) := f0
  obtain ⟨f1, hf⟩ := fc_un (show (22 : Nat) < 100 from by decide) hf
  have f1 : v_iv (n_v vs 9) = v_iv (n_v vs 7) := f1
  obtain ⟨f2, hf⟩ := fc_un (show (9 : Nat) < 100 from by decide) hf
  have f2 : n_v vs 5 = w_fd ws (v_ad (n_v vs 2)) 11 := f2
  obtain ⟨f3, hf⟩ := fc_un (show (20 : Nat) < 100 from by decide) hf
  have f3 : ((v_iv (n_v vs 5) + 1) ≤ w_fi ws (n_v vs 2) 10) → (v_iv (n_v vs 7) = (w_ei ws (w_ar ws (n_v vs 2) 1) (v_iv (n_v vs 5)) % 256)) := f3
  obtain ⟨f4, hf⟩ := fc_un (show (20 : Nat) < 100 from by decide) hf
  have f4 : (w_fi ws (n_v vs 2) 10 ≤ v_iv (n_v vs 5)) → (v_iv (n_v vs 7) = (-1)) := f4
  obtain ⟨f5, hf⟩ := fc_un (show (20 : Nat) < 100 from by decide) hf
  have f5 : w_fi ws (n_v vs 2) 157 ≤ w_fi ws (n_v vs 2) 11 := f5
  obtain ⟨f6, hf⟩ := fc_un (show (20 : Nat) < 100 from by decide) hf
  have f6 : (-1) * v_iv (n_v vs 6) + ((-2) * w_fi ws (n_v vs 2) 11 + 0) ≤ (-4001) := f6
  obtain ⟨f7, hf⟩ := fc_un (show (24 : Nat) < 100 from by decide) hf
  have f7 : n_v vs 0 = n_v vs 2 := f7
  have q2 : n_v vs 2 = n_v vs 0 := f7.symm
  rw [q2] at f2
  rw [q2] at f3
  rw [q2] at f4
  rw [q2] at f5
  rw [q2] at f6
  have cr_0_1 : ta (w_ar ws (n_v vs 0) 1) = some 151 := tv_rg (th_fd hD hth r0 (g := GG_150) rfl (k := 1) (t := (2, 0, 0, [151])) rfl rfl)
  have g2 : v_iv (n_v vs 5) = w_fi ws (n_v vs 0) 11 := congrArg v_iv f2
  have hK_0_1 : ∀ j : Int, 0 ≤ j → j < 2000 → (-128) ≤ w_ei ws (w_ar ws (n_v vs 0) 1) j ∧ w_ei ws (w_ar ws (n_v vs 0) 1) j ≤ 127 := fun j h0 h1 => th_el hD hth cr_0_1 (kd := 1) (n := 2000) (m := 2000) (lo := (-128)) (hi := 127) (rs := []) (L := []) rfl (by decide) (j := j.toNat) (by omega)
  have kz_0_10 : 0 ≤ w_fi ws (n_v vs 0) 10 ∧ w_fi ws (n_v vs 0) 10 ≤ 2000 := tv_rng (th_fd hD hth r0 (g := GG_150) rfl (k := 10) (t := (0, 0, 2000, [])) rfl rfl)
  have kz_0_11 : 0 ≤ w_fi ws (n_v vs 0) 11 ∧ w_fi ws (n_v vs 0) 11 ≤ 2000 := tv_rng (th_fd hD hth r0 (g := GG_150) rfl (k := 11) (t := (0, 0, 2000, [])) rfl rfl)
  have kz_0_157 : 0 ≤ w_fi ws (n_v vs 0) 157 ∧ w_fi ws (n_v vs 0) 157 ≤ 2010 := tv_rng (th_fd hD hth r0 (g := GG_150) rfl (k := 157) (t := (0, 0, 2010, [])) rfl rfl)
  obtain ⟨x, ex, hx⟩ := iv_ex (ta := ta) (lo := 0) (hi := 4001) (z := 0 + (1 * v_iv (n_v vs 6) + 0)) (by omega) (by omega) (by omega) (by omega)
  have ex2 : v_iv (Value.int x) = 0 + (1 * v_iv (n_v vs 6) + 0) := ex
  have ex3 : 0 ≤ v_iv (Value.int x) ∧ v_iv (Value.int x) ≤ 4001 := tv_rng hx
  have e_0 : n_v (vs ++ [Value.int x]) 0 = n_v vs 0 := n_v_old (by rw [hl]; decide)
  have e_2 : n_v (vs ++ [Value.int x]) 2 = n_v vs 2 := n_v_old (by rw [hl]; decide)
  have e_5 : n_v (vs ++ [Value.int x]) 5 = n_v vs 5 := n_v_old (by rw [hl]; decide)
  have e_15 : n_v (vs ++ [Value.int x]) 15 = Value.int x := n_v_new hl
  have nf0 : fc_1 (20, [2, 5], [50, 3, 1, 157, 11, 10, 1, 2, 7, 0, 3, 2, 0, 157, 1, 1, 2, 7, 0, 2, 1, 1, 2, 0, 11, 3, 11, 0, 6, 4, 2, 1, 1, 0, 1, 2, 0, 11, 2, 7, 1, 3, 2, 0, 11, 1, 1, 2, 11, 0, 6, 4, 2, 1, 1, 0, 1, 2, 0, 10, 2, 13, 0, 2, 0, 48, 9, 5, 3, 0, 1, 1, 1, 0, 256, 0, 9, 9, 5, 3, 0, 1, 1, 1, 0, 256, 0, 57]) ws (vs ++ [Value.int x]) := by
    refine ⟨fun n hn => ?_, ?_⟩
    · have hn : n ∈ [2, 5] := hn
      rw [List.length_append, hl]
      simp only [List.mem_cons, List.not_mem_nil, or_false] at hn
      show n < 15 + 1; omega
    · show (w_fi ws (n_v (vs ++ [Value.int x]) 2) 157 ≤ v_iv (n_v (vs ++ [Value.int x]) 5)) ∧ ((v_iv (n_v (vs ++ [Value.int x]) 5) ≤ w_fi ws (n_v (vs ++ [Value.int x]) 2) 11) ∧ (((v_iv (n_v (vs ++ [Value.int x]) 5) + 1) ≤ w_fi ws (n_v (vs ++ [Value.int x]) 2) 11) ∨ ((w_fi ws (n_v (vs ++ [Value.int x]) 2) 11 = v_iv (n_v (vs ++ [Value.int x]) 5)) ∧ (((v_iv (n_v (vs ++ [Value.int x]) 5) + 1) ≤ w_fi ws (n_v (vs ++ [Value.int x]) 2) 10) ∧ ((48 ≤ (w_ei ws (w_ar ws (n_v (vs ++ [Value.int x]) 2) 1) (v_iv (n_v (vs ++ [Value.int x]) 5)) % 256)) ∧ ((w_ei ws (w_ar ws (n_v (vs ++ [Value.int x]) 2) 1) (v_iv (n_v (vs ++ [Value.int x]) 5)) % 256) ≤ 57))))))
      rw [e_2]
      rw [e_5]
      rw [q2]
      first | omega | grind
  have nf1 : fc_1 (20, [15, 5], [30, -4001, -1, 0, 0, -2, 0, 0]) ws (vs ++ [Value.int x]) := by
    refine ⟨fun n hn => ?_, ?_⟩
    · have hn : n ∈ [15, 5] := hn
      rw [List.length_append, hl]
      simp only [List.mem_cons, List.not_mem_nil, or_false] at hn
      show n < 15 + 1; omega
    · show (-1) * v_iv (n_v (vs ++ [Value.int x]) 15) + ((-2) * v_iv (n_v (vs ++ [Value.int x]) 5) + 0) ≤ (-4001)
      rw [e_5]
      rw [e_15]
      omega
  have nf2 : fc_1 (24, [0, 2], []) ws (vs ++ [Value.int x]) := by
    refine ⟨fun n hn => ?_, ?_⟩
    · have hn : n ∈ [0, 2] := hn
      rw [List.length_append, hl]
      simp only [List.mem_cons, List.not_mem_nil, or_false] at hn
      show n < 15 + 1; omega
    · show n_v (vs ++ [Value.int x]) 0 = n_v (vs ++ [Value.int x]) 2
      first | rfl | simp only [e_0, e_2, q2]
  obtain ⟨x0, e0, _, _⟩ := tv_int t6 rfl
  have e1 : v_iv (n_v vs 6) = x0.toInt := by rw [e0]; rfl
  have ho : sy_ofs (vs ++ [Value.int x]) (15, 6, 0, 0) := by
    refine ⟨x, x0, by rw [List.getElem?_append_right (by rw [hl]; decide), hl]; rfl, ?_, ?_, ?_⟩
    · rw [List.getElem?_append_left (by rw [hl]; decide)]; exact n_v_some (by rw [hl]; decide) e0
    · show x0.toInt + 0 ≤ x.toInt; omega
    · show x.toInt ≤ x0.toInt + 0; omega
  exact ⟨(fun _ h => (by cases h)), [Value.int x], ag_one hx, List.forall_mem_cons.mpr ⟨⟨show (20 : Nat) < 100 from by decide, nf0⟩, List.forall_mem_cons.mpr ⟨⟨show (20 : Nat) < 100 from by decide, nf1⟩, List.forall_mem_cons.mpr ⟨⟨show (24 : Nat) < 100 from by decide, nf2⟩, (fun _ h => (by cases h))⟩⟩⟩, List.forall_mem_cons.mpr ⟨ho, (fun _ h => (by cases h))⟩⟩
def o_Mo_styleTokens_14 : or_T := (250, 14, [(0, (2, 0, 0, [150])), (2, (2, 0, 0, [150])), (5, (0, 0, 1999, [])), (6, (0, 0, 4001, [])), (7, (0, 123, 255, [])), (9, (1, 0, 255, []))], [(8, [7], [3]), (22, [9, 7], []), (9, [5, 2], [11]), (20, [5, 2, 7], [50, 1, 1, 1010, 1001, 4, 11, 0, 6, 4, 2, 1, 0, 0, 1, 2, 1, 10, 1, 2, 1, 2, 9, 5, 3, 1, 1, 1, 0, 0, 256]), (20, [2, 5, 7], [50, 1, 0, 10, 4, 7, 0, 3, 2, 0, 10, 1, 1, 1, 2, 1, 2, 0, -1]), (20, [2], [50, 2, 0, 157, 11, 0, 3, 2, 0, 157, 2, 0, 11]), (20, [6, 2], [30, -4001, -1, 0, 0, -2, 1, 11]), (24, [0, 2], [])], [], [(0, 0, 4001, [])], [(20, [2, 5], [50, 2, 0, 157, 11, 2, 7, 0, 3, 2, 0, 157, 1, 1, 1, 3, 2, 0, 11, 1, 1]), (20, [14, 5], [30, -4001, -1, 0, 0, -2, 0, 0]), (24, [0, 2], [])], [(14, 6, 0, 0)], [])
theorem oo_Mo_styleTokens_14 {kA : Nat → ClassId} : or_ok kA GG o_Mo_styleTokens_14 := by
  intro A ta ws vs hD hth hl hk hds hf
  have hl : vs.length = 14 := hl
  have hk : ∀ q ∈ ([(0, (2, 0, 0, [150])), (2, (2, 0, 0, [150])), (5, (0, 0, 1999, [])), (6, (0, 0, 4001, [])), (7, (0, 123, 255, [])), (9, (1, 0, 255, []))] : List (Nat × tv_T)), tv_ok ta q.2 (n_v vs q.1) := hk
  obtain ⟨t0, hk⟩ := List.forall_mem_cons.mp hk
  have t0 : tv_ok ta (2, 0, 0, [150]) (n_v vs 0) := t0
  have r0 : ta (v_ad (n_v vs 0)) = some 150 := tv_rg t0
  obtain ⟨t2, hk⟩ := List.forall_mem_cons.mp hk
  have t2 : tv_ok ta (2, 0, 0, [150]) (n_v vs 2) := t2
  have r2 : ta (v_ad (n_v vs 2)) = some 150 := tv_rg t2
  obtain ⟨t5, hk⟩ := List.forall_mem_cons.mp hk
  have t5 : tv_ok ta (0, 0, 1999, []) (n_v vs 5) := t5
  have k5 : 0 ≤ v_iv (n_v vs 5) ∧ v_iv (n_v vs 5) ≤ 1999 := tv_rng t5
  obtain ⟨t6, hk⟩ := List.forall_mem_cons.mp hk
  have t6 : tv_ok ta (0, 0, 4001, []) (n_v vs 6) := t6
  have k6 : 0 ≤ v_iv (n_v vs 6) ∧ v_iv (n_v vs 6) ≤ 4001 := tv_rng t6
  obtain ⟨t7, hk⟩ := List.forall_mem_cons.mp hk
  have t7 : tv_ok ta (0, 123, 255, []) (n_v vs 7) := t7
  have k7 : 123 ≤ v_iv (n_v vs 7) ∧ v_iv (n_v vs 7) ≤ 255 := tv_rng t7
  obtain ⟨t9, hk⟩ := List.forall_mem_cons.mp hk
  have t9 : tv_ok ta (1, 0, 255, []) (n_v vs 9) := t9
  have k9 : 0 ≤ v_iv (n_v vs 9) ∧ v_iv (n_v vs 9) ≤ 255 := tv_rngL t9
  have hf : fc_ok [(8, [7], [3]), (22, [9, 7], []), (9, [5, 2], [11]), (20, [5, 2, 7], [50, 1, 1, 1010, 1001, 4, 11, 0, 6, 4, 2, 1, 0, 0, 1, 2, 1, 10, 1, 2, 1, 2, 9, 5, 3, 1, 1, 1, 0, 0, 256]), (20, [2, 5, 7], [50, 1, 0, 10, 4, 7, 0, 3, 2, 0, 10, 1, 1, 1, 2, 1, 2, 0, -1]), (20, [2], [50, 2, 0, 157, 11, 0, 3, 2, 0, 157, 2, 0, 11]), (20, [6, 2], [30, -4001, -1, 0, 0, -2, 1, 11]), (24, [0, 2], [])] ta ws vs := hf
  obtain ⟨f0, hf⟩ := fc_un (show (8 : Nat) < 100 from by decide) hf
  have f0 : 0 ≤ v_iv (n_v vs 7) := f0
  obtain ⟨f1, hf⟩ := fc_un (show (22 : Nat) < 100 from by decide) hf
  have f1 : v_iv (n_v vs 9) = v_iv (n_v vs 7) := f1
  obtain ⟨f2, hf⟩ := fc_un (show (9 : Nat) < 100 from by decide) hf
  have f2 : n_v vs 5 = w_fd ws (v_ad (n_v vs 2)) 11 := f2
  obtain ⟨f3, hf⟩ := fc_un (show (20 : Nat) < 100 from by decide) hf
  have f3 : ((v_iv (n_v vs 5) + 1) ≤ w_fi ws (n_v vs 2) 10) → (v_iv (n_v vs 7) = (w_ei ws (w_ar ws (n_v vs 2) 1) (v_iv (n_v vs 5)) % 256)) := f3
  obtain ⟨f4, hf⟩ := fc_un (show (20 : Nat) < 100 from by decide) hf
  have f4 : (w_fi ws (n_v vs 2) 10 ≤ v_iv (n_v vs 5)) → (v_iv (n_v vs 7) = (-1)) := f4
  obtain ⟨f5, hf⟩ := fc_un (show (20 : Nat) < 100 from by decide) hf
  have f5 : w_fi ws (n_v vs 2) 157 ≤ w_fi ws (n_v vs 2) 11 := f5
  obtain ⟨f6, hf⟩ := fc_un (show (20 : Nat) < 100 from by decide) hf
  have f6 : (-1) * v_iv (n_v vs 6) + ((-2) * w_fi ws (n_v vs 2) 11 + 0) ≤ (-4001) := f6
  obtain ⟨f7, hf⟩ := fc_un (show (24 : Nat) < 100 from by decide) hf
  have f7 : n_v vs 0 = n_v vs 2 := f7
  have q2 : n_v vs 2 = n_v vs 0 := f7.symm
  rw [q2] at f2
  rw [q2] at f3
  rw [q2] at f4
  rw [q2] at f5
  rw [q2] at f6
  have cr_0_1 : ta (w_ar ws (n_v vs 0) 1) = some 151 := tv_rg (th_fd hD hth r0 (g := GG_150) rfl (k := 1) (t := (2, 0, 0, [151])) rfl rfl)
  have g2 : v_iv (n_v vs 5) = w_fi ws (n_v vs 0) 11 := congrArg v_iv f2
  have hK_0_1 : ∀ j : Int, 0 ≤ j → j < 2000 → (-128) ≤ w_ei ws (w_ar ws (n_v vs 0) 1) j ∧ w_ei ws (w_ar ws (n_v vs 0) 1) j ≤ 127 := fun j h0 h1 => th_el hD hth cr_0_1 (kd := 1) (n := 2000) (m := 2000) (lo := (-128)) (hi := 127) (rs := []) (L := []) rfl (by decide) (j := j.toNat) (by omega)
  have kz_0_10 : 0 ≤ w_fi ws (n_v vs 0) 10 ∧ w_fi ws (n_v vs 0) 10 ≤ 2000 := tv_rng (th_fd hD hth r0 (g := GG_150) rfl (k := 10) (t := (0, 0, 2000, [])) rfl rfl)
  have kz_0_11 : 0 ≤ w_fi ws (n_v vs 0) 11 ∧ w_fi ws (n_v vs 0) 11 ≤ 2000 := tv_rng (th_fd hD hth r0 (g := GG_150) rfl (k := 11) (t := (0, 0, 2000, [])) rfl rfl)
  have kz_0_157 : 0 ≤ w_fi ws (n_v vs 0) 157 ∧ w_fi ws (n_v vs 0) 157 ≤ 2010 := tv_rng (th_fd hD hth r0 (g := GG_150) rfl (k := 157) (t := (0, 0, 2010, [])) rfl rfl)
  obtain ⟨x, ex, hx⟩ := iv_ex (ta := ta) (lo := 0) (hi := 4001) (z := 0 + (1 * v_iv (n_v vs 6) + 0)) (by omega) (by omega) (by omega) (by omega)
  have ex2 : v_iv (Value.int x) = 0 + (1 * v_iv (n_v vs 6) + 0) := ex
  have ex3 : 0 ≤ v_iv (Value.int x) ∧ v_iv (Value.int x) ≤ 4001 := tv_rng hx
  have e_0 : n_v (vs ++ [Value.int x]) 0 = n_v vs 0 := n_v_old (by rw [hl]; decide)
  have e_2 : n_v (vs ++ [Value.int x]) 2 = n_v vs 2 := n_v_old (by rw [hl]; decide)
  have e_5 : n_v (vs ++ [Value.int x]) 5 = n_v vs 5 := n_v_old (by rw [hl]; decide)
  have e_14 : n_v (vs ++ [Value.int x]) 14 = Value.int x := n_v_new hl
  have nf0 : fc_1 (20, [2, 5], [50, 2, 0, 157, 11, 2, 7, 0, 3, 2, 0, 157, 1, 1, 1, 3, 2, 0, 11, 1, 1]) ws (vs ++ [Value.int x]) := by
    refine ⟨fun n hn => ?_, ?_⟩
    · have hn : n ∈ [2, 5] := hn
      rw [List.length_append, hl]
      simp only [List.mem_cons, List.not_mem_nil, or_false] at hn
      show n < 14 + 1; omega
    · show (w_fi ws (n_v (vs ++ [Value.int x]) 2) 157 ≤ v_iv (n_v (vs ++ [Value.int x]) 5)) ∧ (w_fi ws (n_v (vs ++ [Value.int x]) 2) 11 = v_iv (n_v (vs ++ [Value.int x]) 5))
      rw [e_2]
      rw [e_5]
      rw [q2]
      first | omega | grind
  have nf1 : fc_1 (20, [14, 5], [30, -4001, -1, 0, 0, -2, 0, 0]) ws (vs ++ [Value.int x]) := by
    refine ⟨fun n hn => ?_, ?_⟩
    · have hn : n ∈ [14, 5] := hn
      rw [List.length_append, hl]
      simp only [List.mem_cons, List.not_mem_nil, or_false] at hn
      show n < 14 + 1; omega
    · show (-1) * v_iv (n_v (vs ++ [Value.int x]) 14) + ((-2) * v_iv (n_v (vs ++ [Value.int x]) 5) + 0) ≤ (-4001)
      rw [e_5]
      rw [e_14]
      omega
  have nf2 : fc_1 (24, [0, 2], []) ws (vs ++ [Value.int x]) := by
    refine ⟨fun n hn => ?_, ?_⟩
    · have hn : n ∈ [0, 2] := hn
      rw [List.length_append, hl]
      simp only [List.mem_cons, List.not_mem_nil, or_false] at hn
      show n < 14 + 1; omega
    · show n_v (vs ++ [Value.int x]) 0 = n_v (vs ++ [Value.int x]) 2
      first | rfl | simp only [e_0, e_2, q2]
  obtain ⟨x0, e0, _, _⟩ := tv_int t6 rfl
  have e1 : v_iv (n_v vs 6) = x0.toInt := by rw [e0]; rfl
  have ho : sy_ofs (vs ++ [Value.int x]) (14, 6, 0, 0) := by
    refine ⟨x, x0, by rw [List.getElem?_append_right (by rw [hl]; decide), hl]; rfl, ?_, ?_, ?_⟩
    · rw [List.getElem?_append_left (by rw [hl]; decide)]; exact n_v_some (by rw [hl]; decide) e0
    · show x0.toInt + 0 ≤ x.toInt; omega
    · show x.toInt ≤ x0.toInt + 0; omega
  exact ⟨(fun _ h => (by cases h)), [Value.int x], ag_one hx, List.forall_mem_cons.mpr ⟨⟨show (20 : Nat) < 100 from by decide, nf0⟩, List.forall_mem_cons.mpr ⟨⟨show (20 : Nat) < 100 from by decide, nf1⟩, List.forall_mem_cons.mpr ⟨⟨show (24 : Nat) < 100 from by decide, nf2⟩, (fun _ h => (by cases h))⟩⟩⟩, List.forall_mem_cons.mpr ⟨ho, (fun _ h => (by cases h))⟩⟩
def o_Mo_styleTokens_15 : or_T := (103, 13, [(0, (2, 0, 0, [150])), (2, (2, 0, 0, [150])), (5, (0, 0, 1999, [])), (6, (0, 0, 4001, [])), (7, (0, 97, 122, [])), (9, (1, 0, 255, []))], [(8, [7], [3]), (22, [9, 7], []), (9, [5, 2], [11]), (20, [5, 2, 7], [50, 1, 1, 1010, 1001, 4, 11, 0, 6, 4, 2, 1, 0, 0, 1, 2, 1, 10, 1, 2, 1, 2, 9, 5, 3, 1, 1, 1, 0, 0, 256]), (20, [2, 5, 7], [50, 1, 0, 10, 4, 7, 0, 3, 2, 0, 10, 1, 1, 1, 2, 1, 2, 0, -1]), (20, [2], [50, 2, 0, 157, 11, 0, 3, 2, 0, 157, 2, 0, 11]), (20, [6, 2], [30, -4001, -1, 0, 0, -2, 1, 11]), (24, [0, 2], [])], [], [(0, 0, 4001, [])], [(20, [2, 5], [50, 3, 1, 157, 11, 10, 1, 2, 7, 0, 3, 2, 0, 157, 1, 1, 2, 7, 0, 2, 1, 1, 2, 0, 11, 3, 11, 0, 6, 4, 2, 1, 1, 0, 1, 2, 0, 11, 2, 7, 1, 3, 2, 0, 11, 1, 1, 2, 11, 0, 6, 4, 2, 1, 1, 0, 1, 2, 0, 10, 2, 13, 0, 2, 0, 97, 9, 5, 3, 0, 1, 1, 1, 0, 256, 0, 9, 9, 5, 3, 0, 1, 1, 1, 0, 256, 0, 122]), (20, [13, 5], [30, -4001, -1, 0, 0, -2, 0, 0]), (24, [0, 2], [])], [(13, 6, 0, 0)], [])
theorem oo_Mo_styleTokens_15 {kA : Nat → ClassId} : or_ok kA GG o_Mo_styleTokens_15 := by
  intro A ta ws vs hD hth hl hk hds hf
  have hl : vs.length = 13 := hl
  have hk : ∀ q ∈ ([(0, (2, 0, 0, [150])), (2, (2, 0, 0, [150])), (5, (0, 0, 1999, [])), (6, (0, 0, 4001, [])), (7, (0, 97, 122, [])), (9, (1, 0, 255, []))] : List (Nat × tv_T)), tv_ok ta q.2 (n_v vs q.1) := hk
  obtain ⟨t0, hk⟩ := List.forall_mem_cons.mp hk
  have t0 : tv_ok ta (2, 0, 0, [150]) (n_v vs 0) := t0
  have r0 : ta (v_ad (n_v vs 0)) = some 150 := tv_rg t0
  obtain ⟨t2, hk⟩ := List.forall_mem_cons.mp hk
  have t2 : tv_ok ta (2, 0, 0, [150]) (n_v vs 2) := t2
  have r2 : ta (v_ad (n_v vs 2)) = some 150 := tv_rg t2
  obtain ⟨t5, hk⟩ := List.forall_mem_cons.mp hk
  have t5 : tv_ok ta (0, 0, 1999, []) (n_v vs 5) := t5
  have k5 : 0 ≤ v_iv (n_v vs 5) ∧ v_iv (n_v vs 5) ≤ 1999 := tv_rng t5
  obtain ⟨t6, hk⟩ := List.forall_mem_cons.mp hk
  have t6 : tv_ok ta (0, 0, 4001, []) (n_v vs 6) := t6
  have k6 : 0 ≤ v_iv (n_v vs 6) ∧ v_iv (n_v vs 6) ≤ 4001 := tv_rng t6
  obtain ⟨t7, hk⟩ := List.forall_mem_cons.mp hk
  have t7 : tv_ok ta (0, 97, 122, []) (n_v vs 7) := t7
  have k7 : 97 ≤ v_iv (n_v vs 7) ∧ v_iv (n_v vs 7) ≤ 122 := tv_rng t7
  obtain ⟨t9, hk⟩ := List.forall_mem_cons.mp hk
  have t9 : tv_ok ta (1, 0, 255, []) (n_v vs 9) := t9
  have k9 : 0 ≤ v_iv (n_v vs 9) ∧ v_iv (n_v vs 9) ≤ 255 := tv_rngL t9
  have hf : fc_ok [(8, [7], [3]), (22, [9, 7], []), (9, [5, 2], [11]), (20, [5, 2, 7], [50, 1, 1, 1010, 1001, 4, 11, 0, 6, 4, 2, 1, 0, 0, 1, 2, 1, 10, 1, 2, 1, 2, 9, 5, 3, 1, 1, 1, 0, 0, 256]), (20, [2, 5, 7], [50, 1, 0, 10, 4, 7, 0, 3, 2, 0, 10, 1, 1, 1, 2, 1, 2, 0, -1]), (20, [2], [50, 2, 0, 157, 11, 0, 3, 2, 0, 157, 2, 0, 11]), (20, [6, 2], [30, -4001, -1, 0, 0, -2, 1, 11]), (24, [0, 2], [])] ta ws vs := hf
  obtain ⟨f0, hf⟩ := fc_un (show (8 : Nat) < 100 from by decide) hf
  have f0 : 0 ≤ v_iv (n_v vs 7) := f0
  obtain ⟨f1, hf⟩ := fc_un (show (22 : Nat) < 100 from by decide) hf
  have f1 : v_iv (n_v vs 9) = v_iv (n_v vs 7) := f1
  obtain ⟨f2, hf⟩ := fc_un (show (9 : Nat) < 100 from by decide) hf
  have f2 : n_v vs 5 = w_fd ws (v_ad (n_v vs 2)) 11 := f2
  obtain ⟨f3, hf⟩ := fc_un (show (20 : Nat) < 100 from by decide) hf
  have f3 : ((v_iv (n_v vs 5) + 1) ≤ w_fi ws (n_v vs 2) 10) → (v_iv (n_v vs 7) = (w_ei ws (w_ar ws (n_v vs 2) 1) (v_iv (n_v vs 5)) % 256)) := f3
  obtain ⟨f4, hf⟩ := fc_un (show (20 : Nat) < 100 from by decide) hf
  have f4 : (w_fi ws (n_v vs 2) 10 ≤ v_iv (n_v vs 5)) → (v_iv (n_v vs 7) = (-1)) := f4
  obtain ⟨f5, hf⟩ := fc_un (show (20 : Nat) < 100 from by decide) hf
  have f5 : w_fi ws (n_v vs 2) 157 ≤ w_fi ws (n_v vs 2) 11 := f5
  obtain ⟨f6, hf⟩ := fc_un (show (20 : Nat) < 100 from by decide) hf
  have f6 : (-1) * v_iv (n_v vs 6) + ((-2) * w_fi ws (n_v vs 2) 11 + 0) ≤ (-4001) := f6
  obtain ⟨f7, hf⟩ := fc_un (show (24 : Nat) < 100 from by decide) hf
  have f7 : n_v vs 0 = n_v vs 2 := f7
  have q2 : n_v vs 2 = n_v vs 0 := f7.symm
  rw [q2] at f2
  rw [q2] at f3
  rw [q2] at f4
  rw [q2] at f5
  rw [q2] at f6
  have cr_0_1 : ta (w_ar ws (n_v vs 0) 1) = some 151 := tv_rg (th_fd hD hth r0 (g := GG_150) rfl (k := 1) (t := (2, 0, 0, [151])) rfl rfl)
  have g2 : v_iv (n_v vs 5) = w_fi ws (n_v vs 0) 11 := congrArg v_iv f2
  have hK_0_1 : ∀ j : Int, 0 ≤ j → j < 2000 → (-128) ≤ w_ei ws (w_ar ws (n_v vs 0) 1) j ∧ w_ei ws (w_ar ws (n_v vs 0) 1) j ≤ 127 := fun j h0 h1 => th_el hD hth cr_0_1 (kd := 1) (n := 2000) (m := 2000) (lo := (-128)) (hi := 127) (rs := []) (L := []) rfl (by decide) (j := j.toNat) (by omega)
  have kz_0_10 : 0 ≤ w_fi ws (n_v vs 0) 10 ∧ w_fi ws (n_v vs 0) 10 ≤ 2000 := tv_rng (th_fd hD hth r0 (g := GG_150) rfl (k := 10) (t := (0, 0, 2000, [])) rfl rfl)
  have kz_0_11 : 0 ≤ w_fi ws (n_v vs 0) 11 ∧ w_fi ws (n_v vs 0) 11 ≤ 2000 := tv_rng (th_fd hD hth r0 (g := GG_150) rfl (k := 11) (t := (0, 0, 2000, [])) rfl rfl)
  have kz_0_157 : 0 ≤ w_fi ws (n_v vs 0) 157 ∧ w_fi ws (n_v vs 0) 157 ≤ 2010 := tv_rng (th_fd hD hth r0 (g := GG_150) rfl (k := 157) (t := (0, 0, 2010, [])) rfl rfl)
  obtain ⟨x, ex, hx⟩ := iv_ex (ta := ta) (lo := 0) (hi := 4001) (z := 0 + (1 * v_iv (n_v vs 6) + 0)) (by omega) (by omega) (by omega) (by omega)
  have ex2 : v_iv (Value.int x) = 0 + (1 * v_iv (n_v vs 6) + 0) := ex
  have ex3 : 0 ≤ v_iv (Value.int x) ∧ v_iv (Value.int x) ≤ 4001 := tv_rng hx
  have e_0 : n_v (vs ++ [Value.int x]) 0 = n_v vs 0 := n_v_old (by rw [hl]; decide)
  have e_2 : n_v (vs ++ [Value.int x]) 2 = n_v vs 2 := n_v_old (by rw [hl]; decide)
  have e_5 : n_v (vs ++ [Value.int x]) 5 = n_v vs 5 := n_v_old (by rw [hl]; decide)
  have e_13 : n_v (vs ++ [Value.int x]) 13 = Value.int x := n_v_new hl
  have nf0 : fc_1 (20, [2, 5], [50, 3, 1, 157, 11, 10, 1, 2, 7, 0, 3, 2, 0, 157, 1, 1, 2, 7, 0, 2, 1, 1, 2, 0, 11, 3, 11, 0, 6, 4, 2, 1, 1, 0, 1, 2, 0, 11, 2, 7, 1, 3, 2, 0, 11, 1, 1, 2, 11, 0, 6, 4, 2, 1, 1, 0, 1, 2, 0, 10, 2, 13, 0, 2, 0, 97, 9, 5, 3, 0, 1, 1, 1, 0, 256, 0, 9, 9, 5, 3, 0, 1, 1, 1, 0, 256, 0, 122]) ws (vs ++ [Value.int x]) := by
    refine ⟨fun n hn => ?_, ?_⟩
    · have hn : n ∈ [2, 5] := hn
      rw [List.length_append, hl]
      simp only [List.mem_cons, List.not_mem_nil, or_false] at hn
      show n < 13 + 1; omega
    · show (w_fi ws (n_v (vs ++ [Value.int x]) 2) 157 ≤ v_iv (n_v (vs ++ [Value.int x]) 5)) ∧ ((v_iv (n_v (vs ++ [Value.int x]) 5) ≤ w_fi ws (n_v (vs ++ [Value.int x]) 2) 11) ∧ (((v_iv (n_v (vs ++ [Value.int x]) 5) + 1) ≤ w_fi ws (n_v (vs ++ [Value.int x]) 2) 11) ∨ ((w_fi ws (n_v (vs ++ [Value.int x]) 2) 11 = v_iv (n_v (vs ++ [Value.int x]) 5)) ∧ (((v_iv (n_v (vs ++ [Value.int x]) 5) + 1) ≤ w_fi ws (n_v (vs ++ [Value.int x]) 2) 10) ∧ ((97 ≤ (w_ei ws (w_ar ws (n_v (vs ++ [Value.int x]) 2) 1) (v_iv (n_v (vs ++ [Value.int x]) 5)) % 256)) ∧ ((w_ei ws (w_ar ws (n_v (vs ++ [Value.int x]) 2) 1) (v_iv (n_v (vs ++ [Value.int x]) 5)) % 256) ≤ 122))))))
      rw [e_2]
      rw [e_5]
      rw [q2]
      first | omega | grind
  have nf1 : fc_1 (20, [13, 5], [30, -4001, -1, 0, 0, -2, 0, 0]) ws (vs ++ [Value.int x]) := by
    refine ⟨fun n hn => ?_, ?_⟩
    · have hn : n ∈ [13, 5] := hn
      rw [List.length_append, hl]
      simp only [List.mem_cons, List.not_mem_nil, or_false] at hn
      show n < 13 + 1; omega
    · show (-1) * v_iv (n_v (vs ++ [Value.int x]) 13) + ((-2) * v_iv (n_v (vs ++ [Value.int x]) 5) + 0) ≤ (-4001)
      rw [e_5]
      rw [e_13]
      omega
  have nf2 : fc_1 (24, [0, 2], []) ws (vs ++ [Value.int x]) := by
    refine ⟨fun n hn => ?_, ?_⟩
    · have hn : n ∈ [0, 2] := hn
      rw [List.length_append, hl]
      simp only [List.mem_cons, List.not_mem_nil, or_false] at hn
      show n < 13 + 1; omega
    · show n_v (vs ++ [Value.int x]) 0 = n_v (vs ++ [Value.int x]) 2
      first | rfl | simp only [e_0, e_2, q2]
  obtain ⟨x0, e0, _, _⟩ := tv_int t6 rfl
  have e1 : v_iv (n_v vs 6) = x0.toInt := by rw [e0]; rfl
  have ho : sy_ofs (vs ++ [Value.int x]) (13, 6, 0, 0) := by
    refine ⟨x, x0, by rw [List.getElem?_append_right (by rw [hl]; decide), hl]; rfl, ?_, ?_, ?_⟩
    · rw [List.getElem?_append_left (by rw [hl]; decide)]; exact n_v_some (by rw [hl]; decide) e0
    · show x0.toInt + 0 ≤ x.toInt; omega
    · show x.toInt ≤ x0.toInt + 0; omega
  exact ⟨(fun _ h => (by cases h)), [Value.int x], ag_one hx, List.forall_mem_cons.mpr ⟨⟨show (20 : Nat) < 100 from by decide, nf0⟩, List.forall_mem_cons.mpr ⟨⟨show (20 : Nat) < 100 from by decide, nf1⟩, List.forall_mem_cons.mpr ⟨⟨show (24 : Nat) < 100 from by decide, nf2⟩, (fun _ h => (by cases h))⟩⟩⟩, List.forall_mem_cons.mpr ⟨ho, (fun _ h => (by cases h))⟩⟩
def o_Mo_styleTokens_16 : or_T := (363, 18, [(0, (2, 0, 0, [150])), (2, (2, 0, 0, [150])), (6, (0, 0, 1999, [])), (9, (0, 9, 2000, [])), (10, (0, 0, 4001, [])), (11, (0, -1, -1, [])), (15, (0, 9, 2000, [])), (16, (0, 8, 8, [])), (17, (0, 4, 4, []))], [(7, [15, 16], [4]), (2, [15, 9, 6], []), (9, [9, 2], [11]), (20, [9, 2, 11], [50, 1, 1, 1010, 1001, 4, 11, 0, 6, 4, 2, 1, 0, 0, 1, 2, 1, 10, 1, 2, 1, 2, 9, 5, 3, 1, 1, 1, 0, 0, 256]), (20, [2, 9, 11], [50, 1, 0, 10, 4, 7, 0, 3, 2, 0, 10, 1, 1, 1, 2, 1, 2, 0, -1]), (20, [2, 6], [50, 3, 1, 157, 11, 10, 1, 2, 7, 0, 3, 2, 0, 157, 1, 1, 2, 7, 0, 2, 1, 1, 2, 0, 11, 3, 11, 0, 6, 4, 2, 1, 1, 0, 1, 2, 0, 11, 2, 7, 1, 3, 2, 0, 11, 1, 1, 2, 11, 0, 6, 4, 2, 1, 1, 0, 1, 2, 0, 10, 2, 13, 0, 2, 0, 97, 9, 5, 3, 0, 1, 1, 1, 0, 256, 0, 9, 9, 5, 3, 0, 1, 1, 1, 0, 256, 0, 122]), (20, [10, 6], [30, -4001, -1, 0, 0, -2, 0, 0]), (24, [0, 2], [])], [], [(0, 0, 4001, [])], [(20, [2, 6, 17], [50, 2, 0, 157, 11, 2, 7, 0, 3, 2, 0, 157, 1, 1, 2, 7, 0, 2, 1, 1, 2, 0, 11, 3, 6, 1, 2, 1, 2, 0, 0, 3, 6, 1, 2, 1, 2, 0, 4, 0, 6, 4, 2, 1, 1, 0, 1, 2, 0, 11]), (20, [18, 6], [30, -4001, -1, 0, 0, -2, 0, 0]), (24, [0, 2], [])], [(18, 10, 0, 0)], [(15, 9, -1999, 0), (6, 9, -4294967296, 0)])
theorem oo_Mo_styleTokens_16 {kA : Nat → ClassId} : or_ok kA GG o_Mo_styleTokens_16 := by
  intro A ta ws vs hD hth hl hk hds hf
  have hl : vs.length = 18 := hl
  have hk : ∀ q ∈ ([(0, (2, 0, 0, [150])), (2, (2, 0, 0, [150])), (6, (0, 0, 1999, [])), (9, (0, 9, 2000, [])), (10, (0, 0, 4001, [])), (11, (0, -1, -1, [])), (15, (0, 9, 2000, [])), (16, (0, 8, 8, [])), (17, (0, 4, 4, []))] : List (Nat × tv_T)), tv_ok ta q.2 (n_v vs q.1) := hk
  obtain ⟨t0, hk⟩ := List.forall_mem_cons.mp hk
  have t0 : tv_ok ta (2, 0, 0, [150]) (n_v vs 0) := t0
  have r0 : ta (v_ad (n_v vs 0)) = some 150 := tv_rg t0
  obtain ⟨t2, hk⟩ := List.forall_mem_cons.mp hk
  have t2 : tv_ok ta (2, 0, 0, [150]) (n_v vs 2) := t2
  have r2 : ta (v_ad (n_v vs 2)) = some 150 := tv_rg t2
  obtain ⟨t6, hk⟩ := List.forall_mem_cons.mp hk
  have t6 : tv_ok ta (0, 0, 1999, []) (n_v vs 6) := t6
  have k6 : 0 ≤ v_iv (n_v vs 6) ∧ v_iv (n_v vs 6) ≤ 1999 := tv_rng t6
  obtain ⟨t9, hk⟩ := List.forall_mem_cons.mp hk
  have t9 : tv_ok ta (0, 9, 2000, []) (n_v vs 9) := t9
  have k9 : 9 ≤ v_iv (n_v vs 9) ∧ v_iv (n_v vs 9) ≤ 2000 := tv_rng t9
  obtain ⟨t10, hk⟩ := List.forall_mem_cons.mp hk
  have t10 : tv_ok ta (0, 0, 4001, []) (n_v vs 10) := t10
  have k10 : 0 ≤ v_iv (n_v vs 10) ∧ v_iv (n_v vs 10) ≤ 4001 := tv_rng t10
  obtain ⟨t11, hk⟩ := List.forall_mem_cons.mp hk
  have t11 : tv_ok ta (0, -1, -1, []) (n_v vs 11) := t11
  have k11 : (-1) ≤ v_iv (n_v vs 11) ∧ v_iv (n_v vs 11) ≤ (-1) := tv_rng t11
  obtain ⟨t15, hk⟩ := List.forall_mem_cons.mp hk
  have t15 : tv_ok ta (0, 9, 2000, []) (n_v vs 15) := t15
  have k15 : 9 ≤ v_iv (n_v vs 15) ∧ v_iv (n_v vs 15) ≤ 2000 := tv_rng t15
  obtain ⟨t16, hk⟩ := List.forall_mem_cons.mp hk
  have t16 : tv_ok ta (0, 8, 8, []) (n_v vs 16) := t16
  have k16 : 8 ≤ v_iv (n_v vs 16) ∧ v_iv (n_v vs 16) ≤ 8 := tv_rng t16
  obtain ⟨t17, hk⟩ := List.forall_mem_cons.mp hk
  have t17 : tv_ok ta (0, 4, 4, []) (n_v vs 17) := t17
  have k17 : 4 ≤ v_iv (n_v vs 17) ∧ v_iv (n_v vs 17) ≤ 4 := tv_rng t17
  have hds : ∀ q ∈ ([(15, 9, -1999, 0), (6, 9, -4294967296, 0)] : List of_T), n_iv vs q.2.1 + q.2.2.1 ≤ n_iv vs q.1 ∧ n_iv vs q.1 ≤ n_iv vs q.2.1 + q.2.2.2 := hds
  obtain ⟨d0, hds⟩ := List.forall_mem_cons.mp hds
  have d0 : v_iv (n_v vs 9) + (-1999) ≤ v_iv (n_v vs 15) ∧ v_iv (n_v vs 15) ≤ v_iv (n_v vs 9) + 0 := d0
  obtain ⟨d1, hds⟩ := List.forall_mem_cons.mp hds
  have d1 : v_iv (n_v vs 9) + (-4294967296) ≤ v_iv (n_v vs 6) ∧ v_iv (n_v vs 6) ≤ v_iv (n_v vs 9) + 0 := d1
  have hf : fc_ok [(7, [15, 16], [4]), (2, [15, 9, 6], []), (9, [9, 2], [11]), (20, [9, 2, 11], [50, 1, 1, 1010, 1001, 4, 11, 0, 6, 4, 2, 1, 0, 0, 1, 2, 1, 10, 1, 2, 1, 2, 9, 5, 3, 1, 1, 1, 0, 0, 256]), (20, [2, 9, 11], [50, 1, 0, 10, 4, 7, 0, 3, 2, 0, 10, 1, 1, 1, 2, 1, 2, 0, -1]), (20, [2, 6], [50, 3, 1, 157, 11, 10, 1, 2, 7, 0, 3, 2, 0, 157, 1, 1, 2, 7, 0, 2, 1, 1, 2, 0, 11, 3, 11, 0, 6, 4, 2, 1, 1, 0, 1, 2, 0, 11, 2, 7, 1, 3, 2, 0, 11, 1, 1, 2, 11, 0, 6, 4, 2, 1, 1, 0, 1, 2, 0, 10, 2, 13, 0, 2, 0, 97, 9, 5, 3, 0, 1, 1, 1, 0, 256, 0, 9, 9, 5, 3, 0, 1, 1, 1, 0, 256, 0, 122]), (20, [10, 6], [30, -4001, -1, 0, 0, -2, 0, 0]), (24, [0, 2], [])] ta ws vs := hf
  obtain ⟨f0, hf⟩ := fc_un (show (7 : Nat) < 100 from by decide) hf
  have f0 : v_iv (n_v vs 16) < v_iv (n_v vs 15) := f0
  obtain ⟨f1, hf⟩ := fc_un (show (2 : Nat) < 100 from by decide) hf
  have f1 : v_iv (n_v vs 15) = v_iv (n_v vs 9) - v_iv (n_v vs 6) := f1
  obtain ⟨f2, hf⟩ := fc_un (show (9 : Nat) < 100 from by decide) hf
  have f2 : n_v vs 9 = w_fd ws (v_ad (n_v vs 2)) 11 := f2
  obtain ⟨f3, hf⟩ := fc_un (show (20 : Nat) < 100 from by decide) hf
  have f3 : ((v_iv (n_v vs 9) + 1) ≤ w_fi ws (n_v vs 2) 10) → (v_iv (n_v vs 11) = (w_ei ws (w_ar ws (n_v vs 2) 1) (v_iv (n_v vs 9)) % 256)) := f3
  obtain ⟨f4, hf⟩ := fc_un (show (20 : Nat) < 100 from by decide) hf
  have f4 : (w_fi ws (n_v vs 2) 10 ≤ v_iv (n_v vs 9)) → (v_iv (n_v vs 11) = (-1)) := f4
  obtain ⟨f5, hf⟩ := fc_un (show (20 : Nat) < 100 from by decide) hf
  have f5 : (w_fi ws (n_v vs 2) 157 ≤ v_iv (n_v vs 6)) ∧ ((v_iv (n_v vs 6) ≤ w_fi ws (n_v vs 2) 11) ∧ (((v_iv (n_v vs 6) + 1) ≤ w_fi ws (n_v vs 2) 11) ∨ ((w_fi ws (n_v vs 2) 11 = v_iv (n_v vs 6)) ∧ (((v_iv (n_v vs 6) + 1) ≤ w_fi ws (n_v vs 2) 10) ∧ ((97 ≤ (w_ei ws (w_ar ws (n_v vs 2) 1) (v_iv (n_v vs 6)) % 256)) ∧ ((w_ei ws (w_ar ws (n_v vs 2) 1) (v_iv (n_v vs 6)) % 256) ≤ 122)))))) := f5
  obtain ⟨f6, hf⟩ := fc_un (show (20 : Nat) < 100 from by decide) hf
  have f6 : (-1) * v_iv (n_v vs 10) + ((-2) * v_iv (n_v vs 6) + 0) ≤ (-4001) := f6
  obtain ⟨f7, hf⟩ := fc_un (show (24 : Nat) < 100 from by decide) hf
  have f7 : n_v vs 0 = n_v vs 2 := f7
  have q2 : n_v vs 2 = n_v vs 0 := f7.symm
  rw [q2] at f2
  rw [q2] at f3
  rw [q2] at f4
  rw [q2] at f5
  have cr_0_1 : ta (w_ar ws (n_v vs 0) 1) = some 151 := tv_rg (th_fd hD hth r0 (g := GG_150) rfl (k := 1) (t := (2, 0, 0, [151])) rfl rfl)
  have g2 : v_iv (n_v vs 9) = w_fi ws (n_v vs 0) 11 := congrArg v_iv f2
  have hK_0_1 : ∀ j : Int, 0 ≤ j → j < 2000 → (-128) ≤ w_ei ws (w_ar ws (n_v vs 0) 1) j ∧ w_ei ws (w_ar ws (n_v vs 0) 1) j ≤ 127 := fun j h0 h1 => th_el hD hth cr_0_1 (kd := 1) (n := 2000) (m := 2000) (lo := (-128)) (hi := 127) (rs := []) (L := []) rfl (by decide) (j := j.toNat) (by omega)
  have kz_0_10 : 0 ≤ w_fi ws (n_v vs 0) 10 ∧ w_fi ws (n_v vs 0) 10 ≤ 2000 := tv_rng (th_fd hD hth r0 (g := GG_150) rfl (k := 10) (t := (0, 0, 2000, [])) rfl rfl)
  have kz_0_11 : 0 ≤ w_fi ws (n_v vs 0) 11 ∧ w_fi ws (n_v vs 0) 11 ≤ 2000 := tv_rng (th_fd hD hth r0 (g := GG_150) rfl (k := 11) (t := (0, 0, 2000, [])) rfl rfl)
  have kz_0_157 : 0 ≤ w_fi ws (n_v vs 0) 157 ∧ w_fi ws (n_v vs 0) 157 ≤ 2010 := tv_rng (th_fd hD hth r0 (g := GG_150) rfl (k := 157) (t := (0, 0, 2010, [])) rfl rfl)
  obtain ⟨x, ex, hx⟩ := iv_ex (ta := ta) (lo := 0) (hi := 4001) (z := 0 + (1 * v_iv (n_v vs 10) + 0)) (by omega) (by omega) (by omega) (by omega)
  have ex2 : v_iv (Value.int x) = 0 + (1 * v_iv (n_v vs 10) + 0) := ex
  have ex3 : 0 ≤ v_iv (Value.int x) ∧ v_iv (Value.int x) ≤ 4001 := tv_rng hx
  have e_0 : n_v (vs ++ [Value.int x]) 0 = n_v vs 0 := n_v_old (by rw [hl]; decide)
  have e_2 : n_v (vs ++ [Value.int x]) 2 = n_v vs 2 := n_v_old (by rw [hl]; decide)
  have e_6 : n_v (vs ++ [Value.int x]) 6 = n_v vs 6 := n_v_old (by rw [hl]; decide)
  have e_17 : n_v (vs ++ [Value.int x]) 17 = n_v vs 17 := n_v_old (by rw [hl]; decide)
  have e_18 : n_v (vs ++ [Value.int x]) 18 = Value.int x := n_v_new hl
  have nf0 : fc_1 (20, [2, 6, 17], [50, 2, 0, 157, 11, 2, 7, 0, 3, 2, 0, 157, 1, 1, 2, 7, 0, 2, 1, 1, 2, 0, 11, 3, 6, 1, 2, 1, 2, 0, 0, 3, 6, 1, 2, 1, 2, 0, 4, 0, 6, 4, 2, 1, 1, 0, 1, 2, 0, 11]) ws (vs ++ [Value.int x]) := by
    refine ⟨fun n hn => ?_, ?_⟩
    · have hn : n ∈ [2, 6, 17] := hn
      rw [List.length_append, hl]
      simp only [List.mem_cons, List.not_mem_nil, or_false] at hn
      show n < 18 + 1; omega
    · show (w_fi ws (n_v (vs ++ [Value.int x]) 2) 157 ≤ v_iv (n_v (vs ++ [Value.int x]) 6)) ∧ ((v_iv (n_v (vs ++ [Value.int x]) 6) ≤ w_fi ws (n_v (vs ++ [Value.int x]) 2) 11) ∧ ((v_iv (n_v (vs ++ [Value.int x]) 17) = 0) ∨ ((v_iv (n_v (vs ++ [Value.int x]) 17) = 4) ∨ ((v_iv (n_v (vs ++ [Value.int x]) 6) + 1) ≤ w_fi ws (n_v (vs ++ [Value.int x]) 2) 11))))
      rw [e_2]
      rw [e_6]
      rw [e_17]
      rw [q2]
      first | omega | grind
  have nf1 : fc_1 (20, [18, 6], [30, -4001, -1, 0, 0, -2, 0, 0]) ws (vs ++ [Value.int x]) := by
    refine ⟨fun n hn => ?_, ?_⟩
    · have hn : n ∈ [18, 6] := hn
      rw [List.length_append, hl]
      simp only [List.mem_cons, List.not_mem_nil, or_false] at hn
      show n < 18 + 1; omega
    · show (-1) * v_iv (n_v (vs ++ [Value.int x]) 18) + ((-2) * v_iv (n_v (vs ++ [Value.int x]) 6) + 0) ≤ (-4001)
      rw [e_6]
      rw [e_18]
      omega
  have nf2 : fc_1 (24, [0, 2], []) ws (vs ++ [Value.int x]) := by
    refine ⟨fun n hn => ?_, ?_⟩
    · have hn : n ∈ [0, 2] := hn
      rw [List.length_append, hl]
      simp only [List.mem_cons, List.not_mem_nil, or_false] at hn
      show n < 18 + 1; omega
    · show n_v (vs ++ [Value.int x]) 0 = n_v (vs ++ [Value.int x]) 2
      first | rfl | simp only [e_0, e_2, q2]
  obtain ⟨x0, e0, _, _⟩ := tv_int t10 rfl
  have e1 : v_iv (n_v vs 10) = x0.toInt := by rw [e0]; rfl
  have ho : sy_ofs (vs ++ [Value.int x]) (18, 10, 0, 0) := by
    refine ⟨x, x0, by rw [List.getElem?_append_right (by rw [hl]; decide), hl]; rfl, ?_, ?_, ?_⟩
    · rw [List.getElem?_append_left (by rw [hl]; decide)]; exact n_v_some (by rw [hl]; decide) e0
    · show x0.toInt + 0 ≤ x.toInt; omega
    · show x.toInt ≤ x0.toInt + 0; omega
  exact ⟨(fun _ h => (by cases h)), [Value.int x], ag_one hx, List.forall_mem_cons.mpr ⟨⟨show (20 : Nat) < 100 from by decide, nf0⟩, List.forall_mem_cons.mpr ⟨⟨show (20 : Nat) < 100 from by decide, nf1⟩, List.forall_mem_cons.mpr ⟨⟨show (24 : Nat) < 100 from by decide, nf2⟩, (fun _ h => (by cases h))⟩⟩⟩, List.forall_mem_cons.mpr ⟨ho, (fun _ h => (by cases h))⟩⟩
def o_Mo_styleTokens_17 : or_T := (363, 18, [(0, (2, 0, 0, [150])), (2, (2, 0, 0, [150])), (6, (0, 0, 1999, [])), (9, (0, 0, 2000, [])), (10, (0, 0, 4001, [])), (11, (0, -1, -1, [])), (15, (0, 0, 8, [])), (16, (0, 8, 8, [])), (17, (0, 1, 1, []))], [(7, [15, 16], [5]), (2, [15, 9, 6], []), (9, [9, 2], [11]), (20, [9, 2, 11], [50, 1, 1, 1010, 1001, 4, 11, 0, 6, 4, 2, 1, 0, 0, 1, 2, 1, 10, 1, 2, 1, 2, 9, 5, 3, 1, 1, 1, 0, 0, 256]), (20, [2, 9, 11], [50, 1, 0, 10, 4, 7, 0, 3, 2, 0, 10, 1, 1, 1, 2, 1, 2, 0, -1]), (20, [2, 6], [50, 3, 1, 157, 11, 10, 1, 2, 7, 0, 3, 2, 0, 157, 1, 1, 2, 7, 0, 2, 1, 1, 2, 0, 11, 3, 11, 0, 6, 4, 2, 1, 1, 0, 1, 2, 0, 11, 2, 7, 1, 3, 2, 0, 11, 1, 1, 2, 11, 0, 6, 4, 2, 1, 1, 0, 1, 2, 0, 10, 2, 13, 0, 2, 0, 97, 9, 5, 3, 0, 1, 1, 1, 0, 256, 0, 9, 9, 5, 3, 0, 1, 1, 1, 0, 256, 0, 122]), (20, [10, 6], [30, -4001, -1, 0, 0, -2, 0, 0]), (24, [0, 2], [])], [], [(0, 0, 4001, [])], [(20, [2, 6, 17], [50, 2, 0, 157, 11, 2, 7, 0, 3, 2, 0, 157, 1, 1, 2, 7, 0, 2, 1, 1, 2, 0, 11, 3, 6, 1, 2, 1, 2, 0, 0, 3, 6, 1, 2, 1, 2, 0, 4, 0, 6, 4, 2, 1, 1, 0, 1, 2, 0, 11]), (20, [18, 6], [30, -4001, -1, 0, 0, -2, 0, 0]), (24, [0, 2], [])], [(18, 10, 0, 0)], [(15, 9, -1999, 0), (6, 9, -4294967296, 0)])
theorem oo_Mo_styleTokens_17 {kA : Nat → ClassId} : or_ok kA GG o_Mo_styleTokens_17 := by
  intro A ta ws vs hD hth hl hk hds hf
  have hl : vs.length = 18 := hl
  have hk : ∀ q ∈ ([(0, (2, 0, 0, [150])), (2, (2, 0, 0, [150])), (6, (0, 0, 1999, [])), (9, (0, 0, 2000, [])), (10, (0, 0, 4001, [])), (11, (0, -1, -1, [])), (15, (0, 0, 8, [])), (16, (0, 8, 8, [])), (17, (0, 1, 1, []))] : List (Nat × tv_T)), tv_ok ta q.2 (n_v vs q.1) := hk
  obtain ⟨t0, hk⟩ := List.forall_mem_cons.mp hk
  have t0 : tv_ok ta (2, 0, 0, [150]) (n_v vs 0) := t0
  have r0 : ta (v_ad (n_v vs 0)) = some 150 := tv_rg t0
  obtain ⟨t2, hk⟩ := List.forall_mem_cons.mp hk
  have t2 : tv_ok ta (2, 0, 0, [150]) (n_v vs 2) := t2
  have r2 : ta (v_ad (n_v vs 2)) = some 150 := tv_rg t2
  obtain ⟨t6, hk⟩ := List.forall_mem_cons.mp hk
  have t6 : tv_ok ta (0, 0, 1999, []) (n_v vs 6) := t6
  have k6 : 0 ≤ v_iv (n_v vs 6) ∧ v_iv (n_v vs 6) ≤ 1999 := tv_rng t6
  obtain ⟨t9, hk⟩ := List.forall_mem_cons.mp hk
  have t9 : tv_ok ta (0, 0, 2000, []) (n_v vs 9) := t9
  have k9 : 0 ≤ v_iv (n_v vs 9) ∧ v_iv (n_v vs 9) ≤ 2000 := tv_rng t9
  obtain ⟨t10, hk⟩ := List.forall_mem_cons.mp hk
  have t10 : tv_ok ta (0, 0, 4001, []) (n_v vs 10) := t10
  have k10 : 0 ≤ v_iv (n_v vs 10) ∧ v_iv (n_v vs 10) ≤ 4001 := tv_rng t10
  obtain ⟨t11, hk⟩ := List.forall_mem_cons.mp hk
  have t11 : tv_ok ta (0, -1, -1, []) (n_v vs 11) := t11
  have k11 : (-1) ≤ v_iv (n_v vs 11) ∧ v_iv (n_v vs 11) ≤ (-1) := tv_rng t11
  obtain ⟨t15, hk⟩ := List.forall_mem_cons.mp hk
  have t15 : tv_ok ta (0, 0, 8, []) (n_v vs 15) := t15
  have k15 : 0 ≤ v_iv (n_v vs 15) ∧ v_iv (n_v vs 15) ≤ 8 := tv_rng t15
  obtain ⟨t16, hk⟩ := List.forall_mem_cons.mp hk
  have t16 : tv_ok ta (0, 8, 8, []) (n_v vs 16) := t16
  have k16 : 8 ≤ v_iv (n_v vs 16) ∧ v_iv (n_v vs 16) ≤ 8 := tv_rng t16
  obtain ⟨t17, hk⟩ := List.forall_mem_cons.mp hk
  have t17 : tv_ok ta (0, 1, 1, []) (n_v vs 17) := t17
  have k17 : 1 ≤ v_iv (n_v vs 17) ∧ v_iv (n_v vs 17) ≤ 1 := tv_rng t17
  have hds : ∀ q ∈ ([(15, 9, -1999, 0), (6, 9, -4294967296, 0)] : List of_T), n_iv vs q.2.1 + q.2.2.1 ≤ n_iv vs q.1 ∧ n_iv vs q.1 ≤ n_iv vs q.2.1 + q.2.2.2 := hds
  obtain ⟨d0, hds⟩ := List.forall_mem_cons.mp hds
  have d0 : v_iv (n_v vs 9) + (-1999) ≤ v_iv (n_v vs 15) ∧ v_iv (n_v vs 15) ≤ v_iv (n_v vs 9) + 0 := d0
  obtain ⟨d1, hds⟩ := List.forall_mem_cons.mp hds
  have d1 : v_iv (n_v vs 9) + (-4294967296) ≤ v_iv (n_v vs 6) ∧ v_iv (n_v vs 6) ≤ v_iv (n_v vs 9) + 0 := d1
  have hf : fc_ok [(7, [15, 16], [5]), (2, [15, 9, 6], []), (9, [9, 2], [11]), (20, [9, 2, 11], [50, 1, 1, 1010, 1001, 4, 11, 0, 6, 4, 2, 1, 0, 0, 1, 2, 1, 10, 1, 2, 1, 2, 9, 5, 3, 1, 1, 1, 0, 0, 256]), (20, [2, 9, 11], [50, 1, 0, 10, 4, 7, 0, 3, 2, 0, 10, 1, 1, 1, 2, 1, 2, 0, -1]), (20, [2, 6], [50, 3, 1, 157, 11, 10, 1, 2, 7, 0, 3, 2, 0, 157, 1, 1, 2, 7, 0, 2, 1, 1, 2, 0, 11, 3, 11, 0, 6, 4, 2, 1, 1, 0, 1, 2, 0, 11, 2, 7, 1, 3, 2, 0, 11, 1, 1, 2, 11, 0, 6, 4, 2, 1, 1, 0, 1, 2, 0, 10, 2, 13, 0, 2, 0, 97, 9, 5, 3, 0, 1, 1, 1, 0, 256, 0, 9, 9, 5, 3, 0, 1, 1, 1, 0, 256, 0, 122]), (20, [10, 6], [30, -4001, -1, 0, 0, -2, 0, 0]), (24, [0, 2], [])] ta ws vs := hf
  obtain ⟨f0, hf⟩ := fc_un (show (7 : Nat) < 100 from by decide) hf
  have f0 : v_iv (n_v vs 15) ≤ v_iv (n_v vs 16) := f0
  obtain ⟨f1, hf⟩ := fc_un (show (2 : Nat) < 100 from by decide) hf
  have f1 : v_iv (n_v vs 15) = v_iv (n_v vs 9) - v_iv (n_v vs 6) := f1
  obtain ⟨f2, hf⟩ := fc_un (show (9 : Nat) < 100 from by decide) hf
  have f2 : n_v vs 9 = w_fd ws (v_ad (n_v vs 2)) 11 := f2
  obtain ⟨f3, hf⟩ := fc_un (show (20 : Nat) < 100 from by decide) hf
  have f3 : ((v_iv (n_v vs 9) + 1) ≤ w_fi ws (n_v vs 2) 10) → (v_iv (n_v vs 11) = (w_ei ws (w_ar ws (n_v vs 2) 1) (v_iv (n_v vs 9)) % 256)) := f3
  obtain ⟨f4, hf⟩ := fc_un (show (20 : Nat) < 100 from by decide) hf
  have f4 : (w_fi ws (n_v vs 2) 10 ≤ v_iv (n_v vs 9)) → (v_iv (n_v vs 11) = (-1)) := f4
  obtain ⟨f5, hf⟩ := fc_un (show (20 : Nat) < 100 from by decide) hf
  have f5 : (w_fi ws (n_v vs 2) 157 ≤ v_iv (n_v vs 6)) ∧ ((v_iv (n_v vs 6) ≤ w_fi ws (n_v vs 2) 11) ∧ (((v_iv (n_v vs 6) + 1) ≤ w_fi ws (n_v vs 2) 11) ∨ ((w_fi ws (n_v vs 2) 11 = v_iv (n_v vs 6)) ∧ (((v_iv (n_v vs 6) + 1) ≤ w_fi ws (n_v vs 2) 10) ∧ ((97 ≤ (w_ei ws (w_ar ws (n_v vs 2) 1) (v_iv (n_v vs 6)) % 256)) ∧ ((w_ei ws (w_ar ws (n_v vs 2) 1) (v_iv (n_v vs 6)) % 256) ≤ 122)))))) := f5
  obtain ⟨f6, hf⟩ := fc_un (show (20 : Nat) < 100 from by decide) hf
  have f6 : (-1) * v_iv (n_v vs 10) + ((-2) * v_iv (n_v vs 6) + 0) ≤ (-4001) := f6
  obtain ⟨f7, hf⟩ := fc_un (show (24 : Nat) < 100 from by decide) hf
  have f7 : n_v vs 0 = n_v vs 2 := f7
  have q2 : n_v vs 2 = n_v vs 0 := f7.symm
  rw [q2] at f2
  rw [q2] at f3
  rw [q2] at f4
  rw [q2] at f5
  have cr_0_1 : ta (w_ar ws (n_v vs 0) 1) = some 151 := tv_rg (th_fd hD hth r0 (g := GG_150) rfl (k := 1) (t := (2, 0, 0, [151])) rfl rfl)
  have g2 : v_iv (n_v vs 9) = w_fi ws (n_v vs 0) 11 := congrArg v_iv f2
  have hK_0_1 : ∀ j : Int, 0 ≤ j → j < 2000 → (-128) ≤ w_ei ws (w_ar ws (n_v vs 0) 1) j ∧ w_ei ws (w_ar ws (n_v vs 0) 1) j ≤ 127 := fun j h0 h1 => th_el hD hth cr_0_1 (kd := 1) (n := 2000) (m := 2000) (lo := (-128)) (hi := 127) (rs := []) (L := []) rfl (by decide) (j := j.toNat) (by omega)
  have kz_0_10 : 0 ≤ w_fi ws (n_v vs 0) 10 ∧ w_fi ws (n_v vs 0) 10 ≤ 2000 := tv_rng (th_fd hD hth r0 (g := GG_150) rfl (k := 10) (t := (0, 0, 2000, [])) rfl rfl)
  have kz_0_11 : 0 ≤ w_fi ws (n_v vs 0) 11 ∧ w_fi ws (n_v vs 0) 11 ≤ 2000 := tv_rng (th_fd hD hth r0 (g := GG_150) rfl (k := 11) (t := (0, 0, 2000, [])) rfl rfl)
  have kz_0_157 : 0 ≤ w_fi ws (n_v vs 0) 157 ∧ w_fi ws (n_v vs 0) 157 ≤ 2010 := tv_rng (th_fd hD hth r0 (g := GG_150) rfl (k := 157) (t := (0, 0, 2010, [])) rfl rfl)
  obtain ⟨x, ex, hx⟩ := iv_ex (ta := ta) (lo := 0) (hi := 4001) (z := 0 + (1 * v_iv (n_v vs 10) + 0)) (by omega) (by omega) (by omega) (by omega)
  have ex2 : v_iv (Value.int x) = 0 + (1 * v_iv (n_v vs 10) + 0) := ex
  have ex3 : 0 ≤ v_iv (Value.int x) ∧ v_iv (Value.int x) ≤ 4001 := tv_rng hx
  have e_0 : n_v (vs ++ [Value.int x]) 0 = n_v vs 0 := n_v_old (by rw [hl]; decide)
  have e_2 : n_v (vs ++ [Value.int x]) 2 = n_v vs 2 := n_v_old (by rw [hl]; decide)
  have e_6 : n_v (vs ++ [Value.int x]) 6 = n_v vs 6 := n_v_old (by rw [hl]; decide)
  have e_17 : n_v (vs ++ [Value.int x]) 17 = n_v vs 17 := n_v_old (by rw [hl]; decide)
  have e_18 : n_v (vs ++ [Value.int x]) 18 = Value.int x := n_v_new hl
  have nf0 : fc_1 (20, [2, 6, 17], [50, 2, 0, 157, 11, 2, 7, 0, 3, 2, 0, 157, 1, 1, 2, 7, 0, 2, 1, 1, 2, 0, 11, 3, 6, 1, 2, 1, 2, 0, 0, 3, 6, 1, 2, 1, 2, 0, 4, 0, 6, 4, 2, 1, 1, 0, 1, 2, 0, 11]) ws (vs ++ [Value.int x]) := by
    refine ⟨fun n hn => ?_, ?_⟩
    · have hn : n ∈ [2, 6, 17] := hn
      rw [List.length_append, hl]
      simp only [List.mem_cons, List.not_mem_nil, or_false] at hn
      show n < 18 + 1; omega
    · show (w_fi ws (n_v (vs ++ [Value.int x]) 2) 157 ≤ v_iv (n_v (vs ++ [Value.int x]) 6)) ∧ ((v_iv (n_v (vs ++ [Value.int x]) 6) ≤ w_fi ws (n_v (vs ++ [Value.int x]) 2) 11) ∧ ((v_iv (n_v (vs ++ [Value.int x]) 17) = 0) ∨ ((v_iv (n_v (vs ++ [Value.int x]) 17) = 4) ∨ ((v_iv (n_v (vs ++ [Value.int x]) 6) + 1) ≤ w_fi ws (n_v (vs ++ [Value.int x]) 2) 11))))
      rw [e_2]
      rw [e_6]
      rw [e_17]
      rw [q2]
      first | omega | grind
  have nf1 : fc_1 (20, [18, 6], [30, -4001, -1, 0, 0, -2, 0, 0]) ws (vs ++ [Value.int x]) := by
    refine ⟨fun n hn => ?_, ?_⟩
    · have hn : n ∈ [18, 6] := hn
      rw [List.length_append, hl]
      simp only [List.mem_cons, List.not_mem_nil, or_false] at hn
      show n < 18 + 1; omega
    · show (-1) * v_iv (n_v (vs ++ [Value.int x]) 18) + ((-2) * v_iv (n_v (vs ++ [Value.int x]) 6) + 0) ≤ (-4001)
      rw [e_6]
      rw [e_18]
      omega
  have nf2 : fc_1 (24, [0, 2], []) ws (vs ++ [Value.int x]) := by
    refine ⟨fun n hn => ?_, ?_⟩
    · have hn : n ∈ [0, 2] := hn
      rw [List.length_append, hl]
      simp only [List.mem_cons, List.not_mem_nil, or_false] at hn
      show n < 18 + 1; omega
    · show n_v (vs ++ [Value.int x]) 0 = n_v (vs ++ [Value.int x]) 2
      first | rfl | simp only [e_0, e_2, q2]
  obtain ⟨x0, e0, _, _⟩ := tv_int t10 rfl
  have e1 : v_iv (n_v vs 10) = x0.toInt := by rw [e0]; rfl
  have ho : sy_ofs (vs ++ [Value.int x]) (18, 10, 0, 0) := by
    refine ⟨x, x0, by rw [List.getElem?_append_right (by rw [hl]; decide), hl]; rfl, ?_, ?_, ?_⟩
    · rw [List.getElem?_append_left (by rw [hl]; decide)]; exact n_v_some (by rw [hl]; decide) e0
    · show x0.toInt + 0 ≤ x.toInt; omega
    · show x.toInt ≤ x0.toInt + 0; omega
  exact ⟨(fun _ h => (by cases h)), [Value.int x], ag_one hx, List.forall_mem_cons.mpr ⟨⟨show (20 : Nat) < 100 from by decide, nf0⟩, List.forall_mem_cons.mpr ⟨⟨show (20 : Nat) < 100 from by decide, nf1⟩, List.forall_mem_cons.mpr ⟨⟨show (24 : Nat) < 100 from by decide, nf2⟩, (fun _ h => (by cases h))⟩⟩⟩, List.forall_mem_cons.mpr ⟨ho, (fun _ h => (by cases h))⟩⟩
def o_Mo_styleTokens_18 : or_T := (363, 18, [(0, (2, 0, 0, [150])), (2, (2, 0, 0, [150])), (6, (0, 0, 1999, [])), (9, (0, 9, 1999, [])), (10, (0, 0, 4001, [])), (11, (0, 0, 96, [])), (15, (0, 9, 1999, [])), (16, (0, 8, 8, [])), (17, (0, 4, 4, []))], [(7, [15, 16], [4]), (2, [15, 9, 6], []), (9, [9, 2], [11]), (20, [9, 2, 11], [50, 1, 1, 1010, 1001, 4, 11, 0, 6, 4, 2, 1, 0, 0, 1, 2, 1, 10, 1, 2, 1, 2, 9, 5, 3, 1, 1, 1, 0, 0, 256]), (20, [2, 9, 11], [50, 1, 0, 10, 4, 7, 0, 3, 2, 0, 10, 1, 1, 1, 2, 1, 2, 0, -1]), (20, [2, 6], [50, 3, 1, 157, 11, 10, 1, 2, 7, 0, 3, 2, 0, 157, 1, 1, 2, 7, 0, 2, 1, 1, 2, 0, 11, 3, 11, 0, 6, 4, 2, 1, 1, 0, 1, 2, 0, 11, 2, 7, 1, 3, 2, 0, 11, 1, 1, 2, 11, 0, 6, 4, 2, 1, 1, 0, 1, 2, 0, 10, 2, 13, 0, 2, 0, 97, 9, 5, 3, 0, 1, 1, 1, 0, 256, 0, 9, 9, 5, 3, 0, 1, 1, 1, 0, 256, 0, 122]), (20, [10, 6], [30, -4001, -1, 0, 0, -2, 0, 0]), (24, [0, 2], [])], [], [(0, 0, 4001, [])], [(20, [2, 6, 17], [50, 2, 0, 157, 11, 2, 7, 0, 3, 2, 0, 157, 1, 1, 2, 7, 0, 2, 1, 1, 2, 0, 11, 3, 6, 1, 2, 1, 2, 0, 0, 3, 6, 1, 2, 1, 2, 0, 4, 0, 6, 4, 2, 1, 1, 0, 1, 2, 0, 11]), (20, [18, 6], [30, -4001, -1, 0, 0, -2, 0, 0]), (24, [0, 2], [])], [(18, 10, 0, 0)], [(15, 9, -1999, 0), (6, 9, -4294967296, 0)])
theorem oo_Mo_styleTokens_18 {kA : Nat → ClassId} : or_ok kA GG o_Mo_styleTokens_18 := by
  intro A ta ws vs hD hth hl hk hds hf
  have hl : vs.length = 18 := hl
  have hk : ∀ q ∈ ([(0, (2, 0, 0, [150])), (2, (2, 0, 0, [150])), (6, (0, 0, 1999, [])), (9, (0, 9, 1999, [])), (10, (0, 0, 4001, [])), (11, (0, 0, 96, [])), (15, (0, 9, 1999, [])), (16, (0, 8, 8, [])), (17, (0, 4, 4, []))] : List (Nat × tv_T)), tv_ok ta q.2 (n_v vs q.1) := hk
  obtain ⟨t0, hk⟩ := List.forall_mem_cons.mp hk
  have t0 : tv_ok ta (2, 0, 0, [150]) (n_v vs 0) := t0
  have r0 : ta (v_ad (n_v vs 0)) = some 150 := tv_rg t0
  obtain ⟨t2, hk⟩ := List.forall_mem_cons.mp hk
  have t2 : tv_ok ta (2, 0, 0, [150]) (n_v vs 2) := t2
  have r2 : ta (v_ad (n_v vs 2)) = some 150 := tv_rg t2
  obtain ⟨t6, hk⟩ := List.forall_mem_cons.mp hk
  have t6 : tv_ok ta (0, 0, 1999, []) (n_v vs 6) := t6
  have k6 : 0 ≤ v_iv (n_v vs 6) ∧ v_iv (n_v vs 6) ≤ 1999 := tv_rng t6
  obtain ⟨t9, hk⟩ := List.forall_mem_cons.mp hk
  have t9 : tv_ok ta (0, 9, 1999, []) (n_v vs 9) := t9
  have k9 : 9 ≤ v_iv (n_v vs 9) ∧ v_iv (n_v vs 9) ≤ 1999 := tv_rng t9
  obtain ⟨t10, hk⟩ := List.forall_mem_cons.mp hk
  have t10 : tv_ok ta (0, 0, 4001, []) (n_v vs 10) := t10
  have k10 : 0 ≤ v_iv (n_v vs 10) ∧ v_iv (n_v vs 10) ≤ 4001 := tv_rng t10
  obtain ⟨t11, hk⟩ := List.forall_mem_cons.mp hk
  have t11 : tv_ok ta (0, 0, 96, []) (n_v vs 11) := t11
  have k11 : 0 ≤ v_iv (n_v vs 11) ∧ v_iv (n_v vs 11) ≤ 96 := tv_rng t11
  obtain ⟨t15, hk⟩ := List.forall_mem_cons.mp hk
  have t15 : tv_ok ta (0, 9, 1999, []) (n_v vs 15) := t15
  have k15 : 9 ≤ v_iv (n_v vs 15) ∧ v_iv (n_v vs 15) ≤ 1999 := tv_rng t15
  obtain ⟨t16, hk⟩ := List.forall_mem_cons.mp hk
  have t16 : tv_ok ta (0, 8, 8, []) (n_v vs 16) := t16
  have k16 : 8 ≤ v_iv (n_v vs 16) ∧ v_iv (n_v vs 16) ≤ 8 := tv_rng t16
  obtain ⟨t17, hk⟩ := List.forall_mem_cons.mp hk
  have t17 : tv_ok ta (0, 4, 4, []) (n_v vs 17) := t17
  have k17 : 4 ≤ v_iv (n_v vs 17) ∧ v_iv (n_v vs 17) ≤ 4 := tv_rng t17
  have hds : ∀ q ∈ ([(15, 9, -1999, 0), (6, 9, -4294967296, 0)] : List of_T), n_iv vs q.2.1 + q.2.2.1 ≤ n_iv vs q.1 ∧ n_iv vs q.1 ≤ n_iv vs q.2.1 + q.2.2.2 := hds
  obtain ⟨d0, hds⟩ := List.forall_mem_cons.mp hds
  have d0 : v_iv (n_v vs 9) + (-1999) ≤ v_iv (n_v vs 15) ∧ v_iv (n_v vs 15) ≤ v_iv (n_v vs 9) + 0 := d0
  obtain ⟨d1, hds⟩ := List.forall_mem_cons.mp hds
  have d1 : v_iv (n_v vs 9) + (-4294967296) ≤ v_iv (n_v vs 6) ∧ v_iv (n_v vs 6) ≤ v_iv (n_v vs 9) + 0 := d1
  have hf : fc_ok [(7, [15, 16], [4]), (2, [15, 9, 6], []), (9, [9, 2], [11]), (20, [9, 2, 11], [50, 1, 1, 1010, 1001, 4, 11, 0, 6, 4, 2, 1, 0, 0, 1, 2, 1, 10, 1, 2, 1, 2, 9, 5, 3, 1, 1, 1, 0, 0, 256]), (20, [2, 9, 11], [50, 1, 0, 10, 4, 7, 0, 3, 2, 0, 10, 1, 1, 1, 2, 1, 2, 0, -1]), (20, [2, 6], [50, 3, 1, 157, 11, 10, 1, 2, 7, 0, 3, 2, 0, 157, 1, 1, 2, 7, 0, 2, 1, 1, 2, 0, 11, 3, 11, 0, 6, 4, 2, 1, 1, 0, 1, 2, 0, 11, 2, 7, 1, 3, 2, 0, 11, 1, 1, 2, 11, 0, 6, 4, 2, 1, 1, 0, 1, 2, 0, 10, 2, 13, 0, 2, 0, 97, 9, 5, 3, 0, 1, 1, 1, 0, 256, 0, 9, 9, 5, 3, 0, 1, 1, 1, 0, 256, 0, 122]), (20, [10, 6], [30, -4001, -1, 0, 0, -2, 0, 0]), (24, [0, 2], [])] ta ws vs := hf
  obtain ⟨f0, hf⟩ := fc_un (show (7 : Nat) < 100 from by decide) hf
  have f0 : v_iv (n_v vs 16) < v_iv (n_v vs 15) := f0
  obtain ⟨f1, hf⟩ := fc_un (show (2 : Nat) < 100 from by decide) hf
  have f1 : v_iv (n_v vs 15) = v_iv (n_v vs 9) - v_iv (n_v vs 6) := f1
  obtain ⟨f2, hf⟩ := fc_un (show (9 : Nat) < 100 from by decide) hf
  have f2 : n_v vs 9 = w_fd ws (v_ad (n_v vs 2)) 11 := f2
  obtain ⟨f3, hf⟩ := fc_un (show (20 : Nat) < 100 from by decide) hf
  have f3 : ((v_iv (n_v vs 9) + 1) ≤ w_fi ws (n_v vs 2) 10) → (v_iv (n_v vs 11) = (w_ei ws (w_ar ws (n_v vs 2) 1) (v_iv (n_v vs 9)) % 256)) := f3
  obtain ⟨f4, hf⟩ := fc_un (show (20 : Nat) < 100 from by decide) hf
  have f4 : (w_fi ws (n_v vs 2) 10 ≤ v_iv (n_v vs 9)) → (v_iv (n_v vs 11) = (-1)) := f4
  obtain ⟨f5, hf⟩ := fc_un (show (20 : Nat) < 100 from by decide) hf
  have f5 : (w_fi ws (n_v vs 2) 157 ≤ v_iv (n_v vs 6)) ∧ ((v_iv (n_v vs 6) ≤ w_fi ws (n_v vs 2) 11) ∧ (((v_iv (n_v vs 6) + 1) ≤ w_fi ws (n_v vs 2) 11) ∨ ((w_fi ws (n_v vs 2) 11 = v_iv (n_v vs 6)) ∧ (((v_iv (n_v vs 6) + 1) ≤ w_fi ws (n_v vs 2) 10) ∧ ((97 ≤ (w_ei ws (w_ar ws (n_v vs 2) 1) (v_iv (n_v vs 6)) % 256)) ∧ ((w_ei ws (w_ar ws (n_v vs 2) 1) (v_iv (n_v vs 6)) % 256) ≤ 122)))))) := f5
  obtain ⟨f6, hf⟩ := fc_un (show (20 : Nat) < 100 from by decide) hf
  have f6 : (-1) * v_iv (n_v vs 10) + ((-2) * v_iv (n_v vs 6) + 0) ≤ (-4001) := f6
  obtain ⟨f7, hf⟩ := fc_un (show (24 : Nat) < 100 from by decide) hf
  have f7 : n_v vs 0 = n_v vs 2 := f7
  have q2 : n_v vs 2 = n_v vs 0 := f7.symm
  rw [q2] at f2
  rw [q2] at f3
  rw [q2] at f4
  rw [q2] at f5
  have cr_0_1 : ta (w_ar ws (n_v vs 0) 1) = some 151 := tv_rg (th_fd hD hth r0 (g := GG_150) rfl (k := 1) (t := (2, 0, 0, [151])) rfl rfl)
  have g2 : v_iv (n_v vs 9) = w_fi ws (n_v vs 0) 11 := congrArg v_iv f2
  have hK_0_1 : ∀ j : Int, 0 ≤ j → j < 2000 → (-128) ≤ w_ei ws (w_ar ws (n_v vs 0) 1) j ∧ w_ei ws (w_ar ws (n_v vs 0) 1) j ≤ 127 := fun j h0 h1 => th_el hD hth cr_0_1 (kd := 1) (n := 2000) (m := 2000) (lo := (-128)) (hi := 127) (rs := []) (L := []) rfl (by decide) (j := j.toNat) (by omega)
  have kz_0_10 : 0 ≤ w_fi ws (n_v vs 0) 10 ∧ w_fi ws (n_v vs 0) 10 ≤ 2000 := tv_rng (th_fd hD hth r0 (g := GG_150) rfl (k := 10) (t := (0, 0, 2000, [])) rfl rfl)
  have kz_0_11 : 0 ≤ w_fi ws (n_v vs 0) 11 ∧ w_fi ws (n_v vs 0) 11 ≤ 2000 := tv_rng (th_fd hD hth r0 (g := GG_150) rfl (k := 11) (t := (0, 0, 2000, [])) rfl rfl)
  have kz_0_157 : 0 ≤ w_fi ws (n_v vs 0) 157 ∧ w_fi ws (n_v vs 0) 157 ≤ 2010 := tv_rng (th_fd hD hth r0 (g := GG_150) rfl (k := 157) (t := (0, 0, 2010, [])) rfl rfl)
  obtain ⟨x, ex, hx⟩ := iv_ex (ta := ta) (lo := 0) (hi := 4001) (z := 0 + (1 * v_iv (n_v vs 10) + 0)) (by omega) (by omega) (by omega) (by omega)
  have ex2 : v_iv (Value.int x) = 0 + (1 * v_iv (n_v vs 10) + 0) := ex
  have ex3 : 0 ≤ v_iv (Value.int x) ∧ v_iv (Value.int x) ≤ 4001 := tv_rng hx
  have e_0 : n_v (vs ++ [Value.int x]) 0 = n_v vs 0 := n_v_old (by rw [hl]; decide)
  have e_2 : n_v (vs ++ [Value.int x]) 2 = n_v vs 2 := n_v_old (by rw [hl]; decide)
  have e_6 : n_v (vs ++ [Value.int x]) 6 = n_v vs 6 := n_v_old (by rw [hl]; decide)
  have e_17 : n_v (vs ++ [Value.int x]) 17 = n_v vs 17 := n_v_old (by rw [hl]; decide)
  have e_18 : n_v (vs ++ [Value.int x]) 18 = Value.int x := n_v_new hl
  have nf0 : fc_1 (20, [2, 6, 17], [50, 2, 0, 157, 11, 2, 7, 0, 3, 2, 0, 157, 1, 1, 2, 7, 0, 2, 1, 1, 2, 0, 11, 3, 6, 1, 2, 1, 2, 0, 0, 3, 6, 1, 2, 1, 2, 0, 4, 0, 6, 4, 2, 1, 1, 0, 1, 2, 0, 11]) ws (vs ++ [Value.int x]) := by
    refine ⟨fun n hn => ?_, ?_⟩
    · have hn : n ∈ [2, 6, 17] := hn
      rw [List.length_append, hl]
      simp only [List.mem_cons, List.not_mem_nil, or_false] at hn
      show n < 18 + 1; omega
    · show (w_fi ws (n_v (vs ++ [Value.int x]) 2) 157 ≤ v_iv (n_v (vs ++ [Value.int x]) 6)) ∧ ((v_iv (n_v (vs ++ [Value.int x]) 6) ≤ w_fi ws (n_v (vs ++ [Value.int x]) 2) 11) ∧ ((v_iv (n_v (vs ++ [Value.int x]) 17) = 0) ∨ ((v_iv (n_v (vs ++ [Value.int x]) 17) = 4) ∨ ((v_iv (n_v (vs ++ [Value.int x]) 6) + 1) ≤ w_fi ws (n_v (vs ++ [Value.int x]) 2) 11))))
      rw [e_2]
      rw [e_6]
      rw [e_17]
      rw [q2]
      first | omega | grind
  have nf1 : fc_1 (20, [18, 6], [30, -4001, -1, 0, 0, -2, 0, 0]) ws (vs ++ [Value.int x]) := by
    refine ⟨fun n hn => ?_, ?_⟩
    · have hn : n ∈ [18, 6] := hn
      rw [List.length_append, hl]
      simp only [List.mem_cons, List.not_mem_nil, or_false] at hn
      show n < 18 + 1; omega
    · show (-1) * v_iv (n_v (vs ++ [Value.int x]) 18) + ((-2) * v_iv (n_v (vs ++ [Value.int x]) 6) + 0) ≤ (-4001)
      rw [e_6]
      rw [e_18]
      omega
  have nf2 : fc_1 (24, [0, 2], []) ws (vs ++ [Value.int x]) := by
    refine ⟨fun n hn => ?_, ?_⟩
    · have hn : n ∈ [0, 2] := hn
      rw [List.length_append, hl]
      simp only [List.mem_cons, List.not_mem_nil, or_false] at hn
      show n < 18 + 1; omega
    · show n_v (vs ++ [Value.int x]) 0 = n_v (vs ++ [Value.int x]) 2
      first | rfl | simp only [e_0, e_2, q2]
  obtain ⟨x0, e0, _, _⟩ := tv_int t10 rfl
  have e1 : v_iv (n_v vs 10) = x0.toInt := by rw [e0]; rfl
  have ho : sy_ofs (vs ++ [Value.int x]) (18, 10, 0, 0) := by
    refine ⟨x, x0, by rw [List.getElem?_append_right (by rw [hl]; decide), hl]; rfl, ?_, ?_, ?_⟩
    · rw [List.getElem?_append_left (by rw [hl]; decide)]; exact n_v_some (by rw [hl]; decide) e0
    · show x0.toInt + 0 ≤ x.toInt; omega
    · show x.toInt ≤ x0.toInt + 0; omega
  exact ⟨(fun _ h => (by cases h)), [Value.int x], ag_one hx, List.forall_mem_cons.mpr ⟨⟨show (20 : Nat) < 100 from by decide, nf0⟩, List.forall_mem_cons.mpr ⟨⟨show (20 : Nat) < 100 from by decide, nf1⟩, List.forall_mem_cons.mpr ⟨⟨show (24 : Nat) < 100 from by decide, nf2⟩, (fun _ h => (by cases h))⟩⟩⟩, List.forall_mem_cons.mpr ⟨ho, (fun _ h => (by cases h))⟩⟩
def o_Mo_styleTokens_19 : or_T := (363, 18, [(0, (2, 0, 0, [150])), (2, (2, 0, 0, [150])), (6, (0, 0, 1999, [])), (9, (0, 0, 1999, [])), (10, (0, 0, 4001, [])), (11, (0, 0, 96, [])), (15, (0, 0, 8, [])), (16, (0, 8, 8, [])), (17, (0, 1, 1, []))], [(7, [15, 16], [5]), (2, [15, 9, 6], []), (9, [9, 2], [11]), (20, [9, 2, 11], [50, 1, 1, 1010, 1001, 4, 11, 0, 6, 4, 2, 1, 0, 0, 1, 2, 1, 10, 1, 2, 1, 2, 9, 5, 3, 1, 1, 1, 0, 0, 256]), (20, [2, 9, 11], [50, 1, 0, 10, 4, 7, 0, 3, 2, 0, 10, 1, 1, 1, 2, 1, 2, 0, -1]), (20, [2, 6], [50, 3, 1, 157, 11, 10, 1, 2, 7, 0, 3, 2, 0, 157, 1, 1, 2, 7, 0, 2, 1, 1, 2, 0, 11, 3, 11, 0, 6, 4, 2, 1, 1, 0, 1, 2, 0, 11, 2, 7, 1, 3, 2, 0, 11, 1, 1, 2, 11, 0, 6, 4, 2, 1, 1, 0, 1, 2, 0, 10, 2, 13, 0, 2, 0, 97, 9, 5, 3, 0, 1, 1, 1, 0, 256, 0, 9, 9, 5, 3, 0, 1, 1, 1, 0, 256, 0, 122]), (20, [10, 6], [30, -4001, -1, 0, 0, -2, 0, 0]), (24, [0, 2], [])], [], [(0, 0, 4001, [])], [(20, [2, 6, 17], [50, 2, 0, 157, 11, 2, 7, 0, 3, 2, 0, 157, 1, 1, 2, 7, 0, 2, 1, 1, 2, 0, 11, 3, 6, 1, 2, 1, 2, 0, 0, 3, 6, 1, 2, 1, 2, 0, 4, 0, 6, 4, 2, 1, 1, 0, 1, 2, 0, 11]), (20, [18, 6], [30, -4001, -1, 0, 0, -2, 0, 0]), (24, [0, 2], [])], [(18, 10, 0, 0)], [(15, 9, -1999, 0), (6, 9, -4294967296, 0)])
theorem oo_Mo_styleTokens_19 {kA : Nat → ClassId} : or_ok kA GG o_Mo_styleTokens_19 := by
  intro A ta ws vs hD hth hl hk hds hf
  have hl : vs.length = 18 := hl
  have hk : ∀ q ∈ ([(0, (2, 0, 0, [150])), (2, (2, 0, 0, [150])), (6, (0, 0, 1999, [])), (9, (0, 0, 1999, [])), (10, (0, 0, 4001, [])), (11, (0, 0, 96, [])), (15, (0, 0, 8, [])), (16, (0, 8, 8, [])), (17, (0, 1, 1, []))] : List (Nat × tv_T)), tv_ok ta q.2 (n_v vs q.1) := hk
  obtain ⟨t0, hk⟩ := List.forall_mem_cons.mp hk
  have t0 : tv_ok ta (2, 0, 0, [150]) (n_v vs 0) := t0
  have r0 : ta (v_ad (n_v vs 0)) = some 150 := tv_rg t0
  obtain ⟨t2, hk⟩ := List.forall_mem_cons.mp hk
  have t2 : tv_ok ta (2, 0, 0, [150]) (n_v vs 2) := t2
  have r2 : ta (v_ad (n_v vs 2)) = some 150 := tv_rg t2
  obtain ⟨t6, hk⟩ := List.forall_mem_cons.mp hk
  have t6 : tv_ok ta (0, 0, 1999, []) (n_v vs 6) := t6
  have k6 : 0 ≤ v_iv (n_v vs 6) ∧ v_iv (n_v vs 6) ≤ 1999 := tv_rng t6
  obtain ⟨t9, hk⟩ := List.forall_mem_cons.mp hk
  have t9 : tv_ok ta (0, 0, 1999, []) (n_v vs 9) := t9
  have k9 : 0 ≤ v_iv (n_v vs 9) ∧ v_iv (n_v vs 9) ≤ 1999 := tv_rng t9
  obtain ⟨t10, hk⟩ := List.forall_mem_cons.mp hk
  have t10 : tv_ok ta (0, 0, 4001, []) (n_v vs 10) := t10
  have k10 : 0 ≤ v_iv (n_v vs 10) ∧ v_iv (n_v vs 10) ≤ 4001 := tv_rng t10
  obtain ⟨t11, hk⟩ := List.forall_mem_cons.mp hk
  have t11 : tv_ok ta (0, 0, 96, []) (n_v vs 11) := t11
  have k11 : 0 ≤ v_iv (n_v vs 11) ∧ v_iv (n_v vs 11) ≤ 96 := tv_rng t11
  obtain ⟨t15, hk⟩ := List.forall_mem_cons.mp hk
  have t15 : tv_ok ta (0, 0, 8, []) (n_v vs 15) := t15
  have k15 : 0 ≤ v_iv (n_v vs 15) ∧ v_iv (n_v vs 15) ≤ 8 := tv_rng t15
  obtain ⟨t16, hk⟩ := List.forall_mem_cons.mp hk
  have t16 : tv_ok ta (0, 8, 8, []) (n_v vs 16) := t16
  have k16 : 8 ≤ v_iv (n_v vs 16) ∧ v_iv (n_v vs 16) ≤ 8 := tv_rng t16
  obtain ⟨t17, hk⟩ := List.forall_mem_cons.mp hk
  have t17 : tv_ok ta (0, 1, 1, []) (n_v vs 17) := t17
  have k17 : 1 ≤ v_iv (n_v vs 17) ∧ v_iv (n_v vs 17) ≤ 1 := tv_rng t17
  have hds : ∀ q ∈ ([(15, 9, -1999, 0), (6, 9, -4294967296, 0)] : List of_T), n_iv vs q.2.1 + q.2.2.1 ≤ n_iv vs q.1 ∧ n_iv vs q.1 ≤ n_iv vs q.2.1 + q.2.2.2 := hds
  obtain ⟨d0, hds⟩ := List.forall_mem_cons.mp hds
  have d0 : v_iv (n_v vs 9) + (-1999) ≤ v_iv (n_v vs 15) ∧ v_iv (n_v vs 15) ≤ v_iv (n_v vs 9) + 0 := d0
  obtain ⟨d1, hds⟩ := List.forall_mem_cons.mp hds
  have d1 : v_iv (n_v vs 9) + (-4294967296) ≤ v_iv (n_v vs 6) ∧ v_iv (n_v vs 6) ≤ v_iv (n_v vs 9) + 0 := d1
  have hf : fc_ok [(7, [15, 16], [5]), (2, [15, 9, 6], []), (9, [9, 2], [11]), (20, [9, 2, 11], [50, 1, 1, 1010, 1001, 4, 11, 0, 6, 4, 2, 1, 0, 0, 1, 2, 1, 10, 1, 2, 1, 2, 9, 5, 3, 1, 1, 1, 0, 0, 256]), (20, [2, 9, 11], [50, 1, 0, 10, 4, 7, 0, 3, 2, 0, 10, 1, 1, 1, 2, 1, 2, 0, -1]), (20, [2, 6], [50, 3, 1, 157, 11, 10, 1, 2, 7, 0, 3, 2, 0, 157, 1, 1, 2, 7, 0, 2, 1, 1, 2, 0, 11, 3, 11, 0, 6, 4, 2, 1, 1, 0, 1, 2, 0, 11, 2, 7, 1, 3, 2, 0, 11, 1, 1, 2, 11, 0, 6, 4, 2, 1, 1, 0, 1, 2, 0, 10, 2, 13, 0, 2, 0, 97, 9, 5, 3, 0, 1, 1, 1, 0, 256, 0, 9, 9, 5, 3, 0, 1, 1, 1, 0, 256, 0, 122]), (20, [10, 6], [30, -4001, -1, 0, 0, -2, 0, 0]), (24, [0, 2], [])] ta ws vs := hf
  obtain ⟨f0, hf⟩ := fc_un (show (7 : Nat) < 100 from by decide) hf
  have f0 : v_iv (n_v vs 15) ≤ v_iv (n_v vs 16) := f0
  obtain ⟨f1, hf⟩ := fc_un (show (2 : Nat) < 100 from by decide) hf
  have f1 : v_iv (n_v vs 15) = v_iv (n_v vs 9) - v_iv (n_v vs 6) := f1
  obtain ⟨f2, hf⟩ := fc_un (show (9 : Nat) < 100 from by decide) hf
  have f2 : n_v vs 9 = w_fd ws (v_ad (n_v vs 2)) 11 := f2
  obtain ⟨f3, hf⟩ := fc_un (show (20 : Nat) < 100 from by decide) hf
  have f3 : ((v_iv (n_v vs 9) + 1) ≤ w_fi ws (n_v vs 2) 10) → (v_iv (n_v vs 11) = (w_ei ws (w_ar ws (n_v vs 2) 1) (v_iv (n_v vs 9)) % 256)) := f3
  obtain ⟨f4, hf⟩ := fc_un (show (20 : Nat) < 100 from by decide) hf
  have f4 : (w_fi ws (n_v vs 2) 10 ≤ v_iv (n_v vs 9)) → (v_iv (n_v vs 11) = (-1)) := f4
  obtain ⟨f5, hf⟩ := fc_un (show (20 : Nat) < 100 from by decide) hf
  have f5 : (w_fi ws (n_v vs 2) 157 ≤ v_iv (n_v vs 6)) ∧ ((v_iv (n_v vs 6) ≤ w_fi ws (n_v vs 2) 11) ∧ (((v_iv (n_v vs 6) + 1) ≤ w_fi ws (n_v vs 2) 11) ∨ ((w_fi ws (n_v vs 2) 11 = v_iv (n_v vs 6)) ∧ (((v_iv (n_v vs 6) + 1) ≤ w_fi ws (n_v vs 2) 10) ∧ ((97 ≤ (w_ei ws (w_ar ws (n_v vs 2) 1) (v_iv (n_v vs 6)) % 256)) ∧ ((w_ei ws (w_ar ws (n_v vs 2) 1) (v_iv (n_v vs 6)) % 256) ≤ 122)))))) := f5
  obtain ⟨f6, hf⟩ := fc_un (show (20 : Nat) < 100 from by decide) hf
  have f6 : (-1) * v_iv (n_v vs 10) + ((-2) * v_iv (n_v vs 6) + 0) ≤ (-4001) := f6
  obtain ⟨f7, hf⟩ := fc_un (show (24 : Nat) < 100 from by decide) hf
  have f7 : n_v vs 0 = n_v vs 2 := f7
  have q2 : n_v vs 2 = n_v vs 0 := f7.symm
  rw [q2] at f2
  rw [q2] at f3
  rw [q2] at f4
  rw [q2] at f5
  have cr_0_1 : ta (w_ar ws (n_v vs 0) 1) = some 151 := tv_rg (th_fd hD hth r0 (g := GG_150) rfl (k := 1) (t := (2, 0, 0, [151])) rfl rfl)
  have g2 : v_iv (n_v vs 9) = w_fi ws (n_v vs 0) 11 := congrArg v_iv f2
  have hK_0_1 : ∀ j : Int, 0 ≤ j → j < 2000 → (-128) ≤ w_ei ws (w_ar ws (n_v vs 0) 1) j ∧ w_ei ws (w_ar ws (n_v vs 0) 1) j ≤ 127 := fun j h0 h1 => th_el hD hth cr_0_1 (kd := 1) (n := 2000) (m := 2000) (lo := (-128)) (hi := 127) (rs := []) (L := []) rfl (by decide) (j := j.toNat) (by omega)
  have kz_0_10 : 0 ≤ w_fi ws (n_v vs 0) 10 ∧ w_fi ws (n_v vs 0) 10 ≤ 2000 := tv_rng (th_fd hD hth r0 (g := GG_150) rfl (k := 10) (t := (0, 0, 2000, [])) rfl rfl)
  have kz_0_11 : 0 ≤ w_fi ws (n_v vs 0) 11 ∧ w_fi ws (n_v vs 0) 11 ≤ 2000 := tv_rng (th_fd hD hth r0 (g := GG_150) rfl (k := 11) (t := (0, 0, 2000, [])) rfl rfl)
  have kz_0_157 : 0 ≤ w_fi ws (n_v vs 0) 157 ∧ w_fi ws (n_v vs 0) 157 ≤ 2010 := tv_rng (th_fd hD hth r0 (g := GG_150) rfl (k := 157) (t := (0, 0, 2010, [])) rfl rfl)
  obtain ⟨x, ex, hx⟩ := iv_ex (ta := ta) (lo := 0) (hi := 4001) (z := 0 + (1 * v_iv (n_v vs 10) + 0)) (by omega) (by omega) (by omega) (by omega)
  have ex2 : v_iv (Value.int x) = 0 + (1 * v_iv (n_v vs 10) + 0) := ex
  have ex3 : 0 ≤ v_iv (Value.int x) ∧ v_iv (Value.int x) ≤ 4001 := tv_rng hx
  have e_0 : n_v (vs ++ [Value.int x]) 0 = n_v vs 0 := n_v_old (by rw [hl]; decide)
  have e_2 : n_v (vs ++ [Value.int x]) 2 = n_v vs 2 := n_v_old (by rw [hl]; decide)
  have e_6 : n_v (vs ++ [Value.int x]) 6 = n_v vs 6 := n_v_old (by rw [hl]; decide)
  have e_17 : n_v (vs ++ [Value.int x]) 17 = n_v vs 17 := n_v_old (by rw [hl]; decide)
  have e_18 : n_v (vs ++ [Value.int x]) 18 = Value.int x := n_v_new hl
  have nf0 : fc_1 (20, [2, 6, 17], [50, 2, 0, 157, 11, 2, 7, 0, 3, 2, 0, 157, 1, 1, 2, 7, 0, 2, 1, 1, 2, 0, 11, 3, 6, 1, 2, 1, 2, 0, 0, 3, 6, 1, 2, 1, 2, 0, 4, 0, 6, 4, 2, 1, 1, 0, 1, 2, 0, 11]) ws (vs ++ [Value.int x]) := by
    refine ⟨fun n hn => ?_, ?_⟩
    · have hn : n ∈ [2, 6, 17] := hn
      rw [List.length_append, hl]
      simp only [List.mem_cons, List.not_mem_nil, or_false] at hn
      show n < 18 + 1; omega
    · show (w_fi ws (n_v (vs ++ [Value.int x]) 2) 157 ≤ v_iv (n_v (vs ++ [Value.int x]) 6)) ∧ ((v_iv (n_v (vs ++ [Value.int x]) 6) ≤ w_fi ws (n_v (vs ++ [Value.int x]) 2) 11) ∧ ((v_iv (n_v (vs ++ [Value.int x]) 17) = 0) ∨ ((v_iv (n_v (vs ++ [Value.int x]) 17) = 4) ∨ ((v_iv (n_v (vs ++ [Value.int x]) 6) + 1) ≤ w_fi ws (n_v (vs ++ [Value.int x]) 2) 11))))
      rw [e_2]
      rw [e_6]
      rw [e_17]
      rw [q2]
      first | omega | grind
  have nf1 : fc_1 (20, [18, 6], [30, -4001, -1, 0, 0, -2, 0, 0]) ws (vs ++ [Value.int x]) := by
    refine ⟨fun n hn => ?_, ?_⟩
    · have hn : n ∈ [18, 6] := hn
      rw [List.length_append, hl]
      simp only [List.mem_cons, List.not_mem_nil, or_false] at hn
      show n < 18 + 1; omega
    · show (-1) * v_iv (n_v (vs ++ [Value.int x]) 18) + ((-2) * v_iv (n_v (vs ++ [Value.int x]) 6) + 0) ≤ (-4001)
      rw [e_6]
      rw [e_18]
      omega
  have nf2 : fc_1 (24, [0, 2], []) ws (vs ++ [Value.int x]) := by
    refine ⟨fun n hn => ?_, ?_⟩
    · have hn : n ∈ [0, 2] := hn
      rw [List.length_append, hl]
      simp only [List.mem_cons, List.not_mem_nil, or_false] at hn
      show n < 18 + 1; omega
    · show n_v (vs ++ [Value.int x]) 0 = n_v (vs ++ [Value.int x]) 2
      first | rfl | simp only [e_0, e_2, q2]
  obtain ⟨x0, e0, _, _⟩ := tv_int t10 rfl
  have e1 : v_iv (n_v vs 10) = x0.toInt := by rw [e0]; rfl
  have ho : sy_ofs (vs ++ [Value.int x]) (18, 10, 0, 0) := by
    refine ⟨x, x0, by rw [List.getElem?_append_right (by rw [hl]; decide), hl]; rfl, ?_, ?_, ?_⟩
    · rw [List.getElem?_append_left (by rw [hl]; decide)]; exact n_v_some (by rw [hl]; decide) e0
    · show x0.toInt + 0 ≤ x.toInt; omega
    · show x.toInt ≤ x0.toInt + 0; omega
  exact ⟨(fun _ h => (by cases h)), [Value.int x], ag_one hx, List.forall_mem_cons.mpr ⟨⟨show (20 : Nat) < 100 from by decide, nf0⟩, List.forall_mem_cons.mpr ⟨⟨show (20 : Nat) < 100 from by decide, nf1⟩, List.forall_mem_cons.mpr ⟨⟨show (24 : Nat) < 100 from by decide, nf2⟩, (fun _ h => (by cases h))⟩⟩⟩, List.forall_mem_cons.mpr ⟨ho, (fun _ h => (by cases h))⟩⟩
def o_Mo_styleTokens_20 : or_T := (363, 18, [(0, (2, 0, 0, [150])), (2, (2, 0, 0, [150])), (6, (0, 0, 1999, [])), (9, (0, 9, 1999, [])), (10, (0, 0, 4001, [])), (11, (0, 123, 255, [])), (15, (0, 9, 1999, [])), (16, (0, 8, 8, [])), (17, (0, 4, 4, []))], [(7, [15, 16], [4]), (2, [15, 9, 6], []), (9, [9, 2], [11]), (20, [9, 2, 11], [50, 1, 1, 1010, 1001, 4, 11, 0, 6, 4, 2, 1, 0, 0, 1, 2, 1, 10, 1, 2, 1, 2, 9, 5, 3, 1, 1, 1, 0, 0, 256]), (20, [2, 9, 11], [50, 1, 0, 10, 4, 7, 0, 3, 2, 0, 10, 1, 1, 1, 2, 1, 2, 0, -1]), (20, [2, 6], [50, 3, 1, 157, 11, 10, 1, 2, 7, 0, 3, 2, 0, 157, 1, 1, 2, 7, 0, 2, 1, 1, 2, 0, 11, 3, 11, 0, 6, 4, 2, 1, 1, 0, 1, 2, 0, 11, 2, 7, 1, 3, 2, 0, 11, 1, 1, 2, 11, 0, 6, 4, 2, 1, 1, 0, 1, 2, 0, 10, 2, 13, 0, 2, 0, 97, 9, 5, 3, 0, 1, 1, 1, 0, 256, 0, 9, 9, 5, 3, 0, 1, 1, 1, 0, 256, 0, 122]), (20, [10, 6], [30, -4001, -1, 0, 0, -2, 0, 0]), (24, [0, 2], [])], [], [(0, 0, 4001, [])], [(20, [2, 6, 17], [50, 2, 0, 157, 11, 2, 7, 0, 3, 2, 0, 157, 1, 1, 2, 7, 0, 2, 1, 1, 2, 0, 11, 3, 6, 1, 2, 1, 2, 0, 0, 3, 6, 1, 2, 1, 2, 0, 4, 0, 6, 4, 2, 1, 1, 0, 1, 2, 0, 11]), (20, [18, 6], [30, -4001, -1, 0, 0, -2, 0, 0]), (24, [0, 2], [])], [(18, 10, 0, 0)], [(15, 9, -1999, 0), (6, 9, -4294967296, 0)])
theorem oo_Mo_styleTokens_20 {kA : Nat → ClassId} : or_ok kA GG o_Mo_styleTokens_20 := by
  intro A ta ws vs hD hth hl hk hds hf
  have hl : vs.length = 18 := hl
  have hk : ∀ q ∈ ([(0, (2, 0, 0, [150])), (2, (2, 0, 0, [150])), (6, (0, 0, 1999, [])), (9, (0, 9, 1999, [])), (10, (0, 0, 4001, [])), (11, (0, 123, 255, [])), (15, (0, 9, 1999, [])), (16, (0, 8, 8, [])), (17, (0, 4, 4, []))] : List (Nat × tv_T)), tv_ok ta q.2 (n_v vs q.1) := hk
  obtain ⟨t0, hk⟩ := List.forall_mem_cons.mp hk
  have t0 : tv_ok ta (2, 0, 0, [150]) (n_v vs 0) := t0
  have r0 : ta (v_ad (n_v vs 0)) = some 150 := tv_rg t0
  obtain ⟨t2, hk⟩ := List.forall_mem_cons.mp hk
  have t2 : tv_ok ta (2, 0, 0, [150]) (n_v vs 2) := t2
  have r2 : ta (v_ad (n_v vs 2)) = some 150 := tv_rg t2
  obtain ⟨t6, hk⟩ := List.forall_mem_cons.mp hk
  have t6 : tv_ok ta (0, 0, 1999, []) (n_v vs 6) := t6
  have k6 : 0 ≤ v_iv (n_v vs 6) ∧ v_iv (n_v vs 6) ≤ 1999 := tv_rng t6
  obtain ⟨t9, hk⟩ := List.forall_mem_cons.mp hk
  have t9 : tv_ok ta (0, 9, 1999, []) (n_v vs 9) := t9
  have k9 : 9 ≤ v_iv (n_v vs 9) ∧ v_iv (n_v vs 9) ≤ 1999 := tv_rng t9
  obtain ⟨t10, hk⟩ := List.forall_mem_cons.mp hk
  have t10 : tv_ok ta (0, 0, 4001, []) (n_v vs 10) := t10
  have k10 : 0 ≤ v_iv (n_v vs 10) ∧ v_iv (n_v vs 10) ≤ 4001 := tv_rng t10
  obtain ⟨t11, hk⟩ := List.forall_mem_cons.mp hk
  have t11 : tv_ok ta (0, 123, 255, []) (n_v vs 11) := t11
  have k11 : 123 ≤ v_iv (n_v vs 11) ∧ v_iv (n_v vs 11) ≤ 255 := tv_rng t11
  obtain ⟨t15, hk⟩ := List.forall_mem_cons.mp hk
  have t15 : tv_ok ta (0, 9, 1999, []) (n_v vs 15) := t15
  have k15 : 9 ≤ v_iv (n_v vs 15) ∧ v_iv (n_v vs 15) ≤ 1999 := tv_rng t15
  obtain ⟨t16, hk⟩ := List.forall_mem_cons.mp hk
  have t16 : tv_ok ta (0, 8, 8, []) (n_v vs 16) := t16
  have k16 : 8 ≤ v_iv (n_v vs 16) ∧ v_iv (n_v vs 16) ≤ 8 := tv_rng t16
  obtain ⟨t17, hk⟩ := List.forall_mem_cons.mp hk
  have t17 : tv_ok ta (0, 4, 4, []) (n_v vs 17) := t17
  have k17 : 4 ≤ v_iv (n_v vs 17) ∧ v_iv (n_v vs 17) ≤ 4 := tv_rng t17
  have hds : ∀ q ∈ ([(15, 9, -1999, 0), (6, 9, -4294967296, 0)] : List of_T), n_iv vs q.2.1 + q.2.2.1 ≤ n_iv vs q.1 ∧ n_iv vs q.1 ≤ n_iv vs q.2.1 + q.2.2.2 := hds
  obtain ⟨d0, hds⟩ := List.forall_mem_cons.mp hds
  have d0 : v_iv (n_v vs 9) + (-1999) ≤ v_iv (n_v vs 15) ∧ v_iv (n_v vs 15) ≤ v_iv (n_v vs 9) + 0 := d0
  obtain ⟨d1, hds⟩ := List.forall_mem_cons.mp hds
  have d1 : v_iv (n_v vs 9) + (-4294967296) ≤ v_iv (n_v vs 6) ∧ v_iv (n_v vs 6) ≤ v_iv (n_v vs 9) + 0 := d1
  have hf : fc_ok [(7, [15, 16], [4]), (2, [15, 9, 6], []), (9, [9, 2], [11]), (20, [9, 2, 11], [50, 1, 1, 1010, 1001, 4, 11, 0, 6, 4, 2, 1, 0, 0, 1, 2, 1, 10, 1, 2, 1, 2, 9, 5, 3, 1, 1, 1, 0, 0, 256]), (20, [2, 9, 11], [50, 1, 0, 10, 4, 7, 0, 3, 2, 0, 10, 1, 1, 1, 2, 1, 2, 0, -1]), (20, [2, 6], [50, 3, 1, 157, 11, 10, 1, 2, 7, 0, 3, 2, 0, 157, 1, 1, 2, 7, 0, 2, 1, 1, 2, 0, 11, 3, 11, 0, 6, 4, 2, 1, 1, 0, 1, 2, 0, 11, 2, 7, 1, 3, 2, 0, 11, 1, 1, 2, 11, 0, 6, 4, 2, 1, 1, 0, 1, 2, 0, 10, 2, 13, 0, 2, 0, 97, 9, 5, 3, 0, 1, 1, 1, 0, 256, 0, 9, 9, 5, 3, 0, 1, 1, 1, 0, 256, 0, 122]), (20, [10, 6], [30, -4001, -1, 0, 0, -2, 0, 0]), (24, [0, 2], [])] ta ws vs := hf
  obtain ⟨f0, hf⟩ := fc_un (show (7 : Nat) < 100 from by decide) hf
  have f0 : v_iv (n_v vs 16) < v_iv (n_v vs 15) := f0
  obtain ⟨f1, hf⟩ := fc_un (show (2 : Nat) < 100 from by decide) hf
  have f1 : v_iv (n_v vs 15) = v_iv (n_v vs 9) - v_iv (n_v vs 6) := f1
  obtain ⟨f2, hf⟩ := fc_un (show (9 : Nat) < 100 from by decide) hf
  have f2 : n_v vs 9 = w_fd ws (v_ad (n_v vs 2)) 11 := f2
  obtain ⟨f3, hf⟩ := fc_un (show (20 : Nat) < 100 from by decide) hf
  have f3 : ((v_iv (n_v vs 9) + 1) ≤ w_fi ws (n_v vs 2) 10) → (v_iv (n_v vs 11) = (w_ei ws (w_ar ws (n_v vs 2) 1) (v_iv (n_v vs 9)) % 256)) := f3
  obtain ⟨f4, hf⟩ := fc_un (show (20 : Nat) < 100 from by decide) hf
  have f4 : (w_fi ws (n_v vs 2) 10 ≤ v_iv (n_v vs 9)) → (v_iv (n_v vs 11) = (-1)) := f4
  obtain ⟨f5, hf⟩ := fc_un (show (20 : Nat) < 100 from by decide) hf
  have f5 : (w_fi ws (n_v vs 2) 157 ≤ v_iv (n_v vs 6)) ∧ ((v_iv (n_v vs 6) ≤ w_fi ws (n_v vs 2) 11) ∧ (((v_iv (n_v vs 6) + 1) ≤ w_fi ws (n_v vs 2) 11) ∨ ((w_fi ws (n_v vs 2) 11 = v_iv (n_v vs 6)) ∧ (((v_iv (n_v vs 6) + 1) ≤ w_fi ws (n_v vs 2) 10) ∧ ((97 ≤ (w_ei ws (w_ar ws (n_v vs 2) 1) (v_iv (n_v vs 6)) % 256)) ∧ ((w_ei ws (w_ar ws (n_v vs 2) 1) (v_iv (n_v vs 6)) % 256) ≤ 122)))))) := f5
  obtain ⟨f6, hf⟩ := fc_un (show (20 : Nat) < 100 from by decide) hf
  have f6 : (-1) * v_iv (n_v vs 10) + ((-2) * v_iv (n_v vs 6) + 0) ≤ (-4001) := f6
  obtain ⟨f7, hf⟩ := fc_un (show (24 : Nat) < 100 from by decide) hf
  have f7 : n_v vs 0 = n_v vs 2 := f7
  have q2 : n_v vs 2 = n_v vs 0 := f7.symm
  rw [q2] at f2
  rw [q2] at f3
  rw [q2] at f4
  rw [q2] at f5
  have cr_0_1 : ta (w_ar ws (n_v vs 0) 1) = some 151 := tv_rg (th_fd hD hth r0 (g := GG_150) rfl (k := 1) (t := (2, 0, 0, [151])) rfl rfl)
  have g2 : v_iv (n_v vs 9) = w_fi ws (n_v vs 0) 11 := congrArg v_iv f2
  have hK_0_1 : ∀ j : Int, 0 ≤ j → j < 2000 → (-128) ≤ w_ei ws (w_ar ws (n_v vs 0) 1) j ∧ w_ei ws (w_ar ws (n_v vs 0) 1) j ≤ 127 := fun j h0 h1 => th_el hD hth cr_0_1 (kd := 1) (n := 2000) (m := 2000) (lo := (-128)) (hi := 127) (rs := []) (L := []) rfl (by decide) (j := j.toNat) (by omega)
  have kz_0_10 : 0 ≤ w_fi ws (n_v vs 0) 10 ∧ w_fi ws (n_v vs 0) 10 ≤ 2000 := tv_rng (th_fd hD hth r0 (g := GG_150) rfl (k := 10) (t := (0, 0, 2000, [])) rfl rfl)
  have kz_0_11 : 0 ≤ w_fi ws (n_v vs 0) 11 ∧ w_fi ws (n_v vs 0) 11 ≤ 2000 := tv_rng (th_fd hD hth r0 (g := GG_150) rfl (k := 11) (t := (0, 0, 2000, [])) rfl rfl)
  have kz_0_157 : 0 ≤ w_fi ws (n_v vs 0) 157 ∧ w_fi ws (n_v vs 0) 157 ≤ 2010 := tv_rng (th_fd hD hth r0 (g := GG_150) rfl (k := 157) (t := (0, 0, 2010, [])) rfl rfl)
  obtain ⟨x, ex, hx⟩ := iv_ex (ta := ta) (lo := 0) (hi := 4001) (z := 0 + (1 * v_iv (n_v vs 10) + 0)) (by omega) (by omega) (by omega) (by omega)
  have ex2 : v_iv (Value.int x) = 0 + (1 * v_iv (n_v vs 10) + 0) := ex
  have ex3 : 0 ≤ v_iv (Value.int x) ∧ v_iv (Value.int x) ≤ 4001 := tv_rng hx
  have e_0 : n_v (vs ++ [Value.int x]) 0 = n_v vs 0 := n_v_old (by rw [hl]; decide)
  have e_2 : n_v (vs ++ [Value.int x]) 2 = n_v vs 2 := n_v_old (by rw [hl]; decide)
  have e_6 : n_v (vs ++ [Value.int x]) 6 = n_v vs 6 := n_v_old (by rw [hl]; decide)
  have e_17 : n_v (vs ++ [Value.int x]) 17 = n_v vs 17 := n_v_old (by rw [hl]; decide)
  have e_18 : n_v (vs ++ [Value.int x]) 18 = Value.int x := n_v_new hl
  have nf0 : fc_1 (20, [2, 6, 17], [50, 2, 0, 157, 11, 2, 7, 0, 3, 2, 0, 157, 1, 1, 2, 7, 0, 2, 1, 1, 2, 0, 11, 3, 6, 1, 2, 1, 2, 0, 0, 3, 6, 1, 2, 1, 2, 0, 4, 0, 6, 4, 2, 1, 1, 0, 1, 2, 0, 11]) ws (vs ++ [Value.int x]) := by
    refine ⟨fun n hn => ?_, ?_⟩
    · have hn : n ∈ [2, 6, 17] := hn
      rw [List.length_append, hl]
      simp only [List.mem_cons, List.not_mem_nil, or_false] at hn
      show n < 18 + 1; omega
    · show (w_fi ws (n_v (vs ++ [Value.int x]) 2) 157 ≤ v_iv (n_v (vs ++ [Value.int x]) 6)) ∧ ((v_iv (n_v (vs ++ [Value.int x]) 6) ≤ w_fi ws (n_v (vs ++ [Value.int x]) 2) 11) ∧ ((v_iv (n_v (vs ++ [Value.int x]) 17) = 0) ∨ ((v_iv (n_v (vs ++ [Value.int x]) 17) = 4) ∨ ((v_iv (n_v (vs ++ [Value.int x]) 6) + 1) ≤ w_fi ws (n_v (vs ++ [Value.int x]) 2) 11))))
      rw [e_2]
      rw [e_6]
      rw [e_17]
      rw [q2]
      first | omega | grind
  have nf1 : fc_1 (20, [18, 6], [30, -4001, -1, 0, 0, -2, 0, 0]) ws (vs ++ [Value.int x]) := by
    refine ⟨fun n hn => ?_, ?_⟩
    · have hn : n ∈ [18, 6] := hn
      rw [List.length_append, hl]
      simp only [List.mem_cons, List.not_mem_nil, or_false] at hn
      show n < 18 + 1; omega
    · show (-1) * v_iv (n_v (vs ++ [Value.int x]) 18) + ((-2) * v_iv (n_v (vs ++ [Value.int x]) 6) + 0) ≤ (-4001)
      rw [e_6]
      rw [e_18]
      omega
  have nf2 : fc_1 (24, [0, 2], []) ws (vs ++ [Value.int x]) := by
    refine ⟨fun n hn => ?_, ?_⟩
    · have hn : n ∈ [0, 2] := hn
      rw [List.length_append, hl]
      simp only [List.mem_cons, List.not_mem_nil, or_false] at hn
      show n < 18 + 1; omega
    · show n_v (vs ++ [Value.int x]) 0 = n_v (vs ++ [Value.int x]) 2
      first | rfl | simp only [e_0, e_2, q2]
  obtain ⟨x0, e0, _, _⟩ := tv_int t10 rfl
  have e1 : v_iv (n_v vs 10) = x0.toInt := by rw [e0]; rfl
  have ho : sy_ofs (vs ++ [Value.int x]) (18, 10, 0, 0) := by
    refine ⟨x, x0, by rw [List.getElem?_append_right (by rw [hl]; decide), hl]; rfl, ?_, ?_, ?_⟩
    · rw [List.getElem?_append_left (by rw [hl]; decide)]; exact n_v_some (by rw [hl]; decide) e0
    · show x0.toInt + 0 ≤ x.toInt; omega
    · show x.toInt ≤ x0.toInt + 0; omega
  exact ⟨(fun _ h => (by cases h)), [Value.int x], ag_one hx, List.forall_mem_cons.mpr ⟨⟨show (20 : Nat) < 100 from by decide, nf0⟩, List.forall_mem_cons.mpr ⟨⟨show (20 : Nat) < 100 from by decide, nf1⟩, List.forall_mem_cons.mpr ⟨⟨show (24 : Nat) < 100 from by decide, nf2⟩, (fun _ h => (by cases h))⟩⟩⟩, List.forall_mem_cons.mpr ⟨ho, (fun _ h => (by cases h))⟩⟩
def o_Mo_styleTokens_21 : or_T := (363, 18, [(0, (2, 0, 0, [150])), (2, (2, 0, 0, [150])), (6, (0, 0, 1999, [])), (9, (0, 0, 1999, [])), (10, (0, 0, 4001, [])), (11, (0, 123, 255, [])), (15, (0, 0, 8, [])), (16, (0, 8, 8, [])), (17, (0, 1, 1, []))], [(7, [15, 16], [5]), (2, [15, 9, 6], []), (9, [9, 2], [11]), (20, [9, 2, 11], [50, 1, 1, 1010, 1001, 4, 11, 0, 6, 4, 2, 1, 0, 0, 1, 2, 1, 10, 1, 2, 1, 2, 9, 5, 3, 1, 1, 1, 0, 0, 256]), (20, [2, 9, 11], [50, 1, 0, 10, 4, 7, 0, 3, 2, 0, 10, 1, 1, 1, 2, 1, 2, 0, -1]), (20, [2, 6], [50, 3, 1, 157, 11, 10, 1, 2, 7, 0, 3, 2, 0, 157, 1, 1, 2, 7, 0, 2, 1, 1, 2, 0, 11, 3, 11, 0, 6, 4, 2, 1, 1, 0, 1, 2, 0, 11, 2, 7, 1, 3, 2, 0, 11, 1, 1, 2, 11, 0, 6, 4, 2, 1, 1, 0, 1, 2, 0, 10, 2, 13, 0, 2, 0, 97, 9, 5, 3, 0, 1, 1, 1, 0, 256, 0, 9, 9, 5, 3, 0, 1, 1, 1, 0, 256, 0, 122]), (20, [10, 6], [30, -4001, -1, 0, 0, -2, 0, 0]), (24, [0, 2], [])], [], [(0, 0, 4001, [])], [(20, [2, 6, 17], [50, 2, 0, 157, 11, 2, 7, 0, 3, 2, 0, 157, 1, 1, 2, 7, 0, 2, 1, 1, 2, 0, 11, 3, 6, 1, 2, 1, 2, 0, 0, 3, 6, 1, 2, 1, 2, 0, 4, 0, 6, 4, 2, 1, 1, 0, 1, 2, 0, 11]), (20, [18, 6], [30, -4001, -1, 0, 0, -2, 0, 0]), (24, [0, 2], [])], [(18, 10, 0, 0)], [(15, 9, -1999, 0), (6, 9, -4294967296, 0)])
theorem oo_Mo_styleTokens_21 {kA : Nat → ClassId} : or_ok kA GG o_Mo_styleTokens_21 := by
  intro A ta ws vs hD hth hl hk hds hf
  have hl : vs.length = 18 := hl
  have hk : ∀ q ∈ ([(0, (2, 0, 0, [150])), (2, (2, 0, 0, [150])), (6, (0, 0, 1999, [])), (9, (0, 0, 1999, [])), (10, (0, 0, 4001, [])), (11, (0, 123, 255, [])), (15, (0, 0, 8, [])), (16, (0, 8, 8, [])), (17, (0, 1, 1, []))] : List (Nat × tv_T)), tv_ok ta q.2 (n_v vs q.1) := hk
  obtain ⟨t0, hk⟩ := List.forall_mem_cons.mp hk
  have t0 : tv_ok ta (2, 0, 0, [150]) (n_v vs 0) := t0
  have r0 : ta (v_ad (n_v vs 0)) = some 150 := tv_rg t0
  obtain ⟨t2, hk⟩ := List.forall_mem_cons.mp hk
  have t2 : tv_ok ta (2, 0, 0, [150]) (n_v vs 2) := t2
  have r2 : ta (v_ad (n_v vs 2)) = some 150 := tv_rg t2
  obtain ⟨t6, hk⟩ := List.forall_mem_cons.mp hk
  have t6 : tv_ok ta (0, 0, 1999, []) (n_v vs 6) := t6
  have k6 : 0 ≤ v_iv (n_v vs 6) ∧ v_iv (n_v vs 6) ≤ 1999 := tv_rng t6
  obtain ⟨t9, hk⟩ := List.forall_mem_cons.mp hk
  have t9 : tv_ok ta (0, 0, 1999, []) (n_v vs 9) := t9
  have k9 : 0 ≤ v_iv (n_v vs 9) ∧ v_iv (n_v vs 9) ≤ 1999 := tv_rng t9
  obtain ⟨t10, hk⟩ := List.forall_mem_cons.mp hk
  have t10 : tv_ok ta (0, 0, 4001, []) (n_v vs 10) := t10
  have k10 : 0 ≤ v_iv (n_v vs 10) ∧ v_iv (n_v vs 10) ≤ 4001 := tv_rng t10
  obtain ⟨t11, hk⟩ := List.forall_mem_cons.mp hk
  have t11 : tv_ok ta (0, 123, 255, []) (n_v vs 11) := t11
  have k11 : 123 ≤ v_iv (n_v vs 11) ∧ v_iv (n_v vs 11) ≤ 255 := tv_rng t11
  obtain ⟨t15, hk⟩ := List.forall_mem_cons.mp hk
  have t15 : tv_ok ta (0, 0, 8, []) (n_v vs 15) := t15
  have k15 : 0 ≤ v_iv (n_v vs 15) ∧ v_iv (n_v vs 15) ≤ 8 := tv_rng t15
  obtain ⟨t16, hk⟩ := List.forall_mem_cons.mp hk
  have t16 : tv_ok ta (0, 8, 8, []) (n_v vs 16) := t16
  have k16 : 8 ≤ v_iv (n_v vs 16) ∧ v_iv (n_v vs 16) ≤ 8 := tv_rng t16
  obtain ⟨t17, hk⟩ := List.forall_mem_cons.mp hk
  have t17 : tv_ok ta (0, 1, 1, []) (n_v vs 17) := t17
  have k17 : 1 ≤ v_iv (n_v vs 17) ∧ v_iv (n_v vs 17) ≤ 1 := tv_rng t17
  have hds : ∀ q ∈ ([(15, 9, -1999, 0), (6, 9, -4294967296, 0)] : List of_T), n_iv vs q.2.1 + q.2.2.1 ≤ n_iv vs q.1 ∧ n_iv vs q.1 ≤ n_iv vs q.2.1 + q.2.2.2 := hds
  obtain ⟨d0, hds⟩ := List.forall_mem_cons.mp hds
  have d0 : v_iv (n_v vs 9) + (-1999) ≤ v_iv (n_v vs 15) ∧ v_iv (n_v vs 15) ≤ v_iv (n_v vs 9) + 0 := d0
  obtain ⟨d1, hds⟩ := List.forall_mem_cons.mp hds
  have d1 : v_iv (n_v vs 9) + (-4294967296) ≤ v_iv (n_v vs 6) ∧ v_iv (n_v vs 6) ≤ v_iv (n_v vs 9) + 0 := d1
  have hf : fc_ok [(7, [15, 16], [5]), (2, [15, 9, 6], []), (9, [9, 2], [11]), (20, [9, 2, 11], [50, 1, 1, 1010, 1001, 4, 11, 0, 6, 4, 2, 1, 0, 0, 1, 2, 1, 10, 1, 2, 1, 2, 9, 5, 3, 1, 1, 1, 0, 0, 256]), (20, [2, 9, 11], [50, 1, 0, 10, 4, 7, 0, 3, 2, 0, 10, 1, 1, 1, 2, 1, 2, 0, -1]), (20, [2, 6], [50, 3, 1, 157, 11, 10, 1, 2, 7, 0, 3, 2, 0, 157, 1, 1, 2, 7, 0, 2, 1, 1, 2, 0, 11, 3, 11, 0, 6, 4, 2, 1, 1, 0, 1, 2, 0, 11, 2, 7, 1, 3, 2, 0, 11, 1, 1, 2, 11, 0, 6, 4, 2, 1, 1, 0, 1, 2, 0, 10, 2, 13, 0, 2, 0, 97, 9, 5, 3, 0, 1, 1, 1, 0, 256, 0, 9, 9, 5, 3, 0, 1, 1, 1, 0, 256, 0, 122]), (20, [10, 6], [30, -4001, -1, 0, 0, -2, 0, 0]), (24, [0, 2], [])] ta ws vs := hf
  obtain ⟨f0, hf⟩ := fc_un (show (7 : Nat) < 100 from by decide) hf
  have f0 : v_iv (n_v vs 15) ≤ v_iv (n_v vs 16) := f0
  obtain ⟨f1, hf⟩ := fc_un (show (2 : Nat) < 100 from by decide) hf
  have f1 : v_iv (n_v vs 15) = v_iv (n_v vs 9) - v_iv (n_v vs 6) := f1
  obtain ⟨f2, hf⟩ := fc_un (show (9 : Nat) < 100 from by decide) hf
  have f2 : n_v vs 9 = w_fd ws (v_ad (n_v vs 2)) 11 := f2
  obtain ⟨f3, hf⟩ := fc_un (show (20 : Nat) < 100 from by decide) hf
  have f3 : ((v_iv (n_v vs 9) + 1) ≤ w_fi ws (n_v vs 2) 10) → (v_iv (n_v vs 11) = (w_ei ws (w_ar ws (n_v vs 2) 1) (v_iv (n_v vs 9)) % 256)) := f3
  obtain ⟨f4, hf⟩ := fc_un (show (20 : Nat) < 100 from by decide) hf
  have f4 : (w_fi ws (n_v vs 2) 10 ≤ v_iv (n_v vs 9)) → (v_iv (n_v vs 11) = (-1)) := f4
  obtain ⟨f5, hf⟩ := fc_un (show (20 : Nat) < 100 from by decide) hf
  have f5 : (w_fi ws (n_v vs 2) 157 ≤ v_iv (n_v vs 6)) ∧ ((v_iv (n_v vs 6) ≤ w_fi ws (n_v vs 2) 11) ∧ (((v_iv (n_v vs 6) + 1) ≤ w_fi ws (n_v vs 2) 11) ∨ ((w_fi ws (n_v vs 2) 11 = v_iv (n_v vs 6)) ∧ (((v_iv (n_v vs 6) + 1) ≤ w_fi ws (n_v vs 2) 10) ∧ ((97 ≤ (w_ei ws (w_ar ws (n_v vs 2) 1) (v_iv (n_v vs 6)) % 256)) ∧ ((w_ei ws (w_ar ws (n_v vs 2) 1) (v_iv (n_v vs 6)) % 256) ≤ 122)))))) := f5
  obtain ⟨f6, hf⟩ := fc_un (show (20 : Nat) < 100 from by decide) hf
  have f6 : (-1) * v_iv (n_v vs 10) + ((-2) * v_iv (n_v vs 6) + 0) ≤ (-4001) := f6
  obtain ⟨f7, hf⟩ := fc_un (show (24 : Nat) < 100 from by decide) hf
  have f7 : n_v vs 0 = n_v vs 2 := f7
  have q2 : n_v vs 2 = n_v vs 0 := f7.symm
  rw [q2] at f2
  rw [q2] at f3
  rw [q2] at f4
  rw [q2] at f5
  have cr_0_1 : ta (w_ar ws (n_v vs 0) 1) = some 151 := tv_rg (th_fd hD hth r0 (g := GG_150) rfl (k := 1) (t := (2, 0, 0, [151])) rfl rfl)
  have g2 : v_iv (n_v vs 9) = w_fi ws (n_v vs 0) 11 := congrArg v_iv f2
  have hK_0_1 : ∀ j : Int, 0 ≤ j → j < 2000 → (-128) ≤ w_ei ws (w_ar ws (n_v vs 0) 1) j ∧ w_ei ws (w_ar ws (n_v vs 0) 1) j ≤ 127 := fun j h0 h1 => th_el hD hth cr_0_1 (kd := 1) (n := 2000) (m := 2000) (lo := (-128)) (hi := 127) (rs := []) (L := []) rfl (by decide) (j := j.toNat) (by omega)
  have kz_0_10 : 0 ≤ w_fi ws (n_v vs 0) 10 ∧ w_fi ws (n_v vs 0) 10 ≤ 2000 := tv_rng (th_fd hD hth r0 (g := GG_150) rfl (k := 10) (t := (0, 0, 2000, [])) rfl rfl)
  have kz_0_11 : 0 ≤ w_fi ws (n_v vs 0) 11 ∧ w_fi ws (n_v vs 0) 11 ≤ 2000 := tv_rng (th_fd hD hth r0 (g := GG_150) rfl (k := 11) (t := (0, 0, 2000, [])) rfl rfl)
  have kz_0_157 : 0 ≤ w_fi ws (n_v vs 0) 157 ∧ w_fi ws (n_v vs 0) 157 ≤ 2010 := tv_rng (th_fd hD hth r0 (g := GG_150) rfl (k := 157) (t := (0, 0, 2010, [])) rfl rfl)
  obtain ⟨x, ex, hx⟩ := iv_ex (ta := ta) (lo := 0) (hi := 4001) (z := 0 + (1 * v_iv (n_v vs 10) + 0)) (by omega) (by omega) (by omega) (by omega)
  have ex2 : v_iv (Value.int x) = 0 + (1 * v_iv (n_v vs 10) + 0) := ex
  have ex3 : 0 ≤ v_iv (Value.int x) ∧ v_iv (Value.int x) ≤ 4001 := tv_rng hx
  have e_0 : n_v (vs ++ [Value.int x]) 0 = n_v vs 0 := n_v_old (by rw [hl]; decide)
  have e_2 : n_v (vs ++ [Value.int x]) 2 = n_v vs 2 := n_v_old (by rw [hl]; decide)
  have e_6 : n_v (vs ++ [Value.int x]) 6 = n_v vs 6 := n_v_old (by rw [hl]; decide)
  have e_17 : n_v (vs ++ [Value.int x]) 17 = n_v vs 17 := n_v_old (by rw [hl]; decide)
  have e_18 : n_v (vs ++ [Value.int x]) 18 = Value.int x := n_v_new hl
  have nf0 : fc_1 (20, [2, 6, 17], [50, 2, 0, 157, 11, 2, 7, 0, 3, 2, 0, 157, 1, 1, 2, 7, 0, 2, 1, 1, 2, 0, 11, 3, 6, 1, 2, 1, 2, 0, 0, 3, 6, 1, 2, 1, 2, 0, 4, 0, 6, 4, 2, 1, 1, 0, 1, 2, 0, 11]) ws (vs ++ [Value.int x]) := by
    refine ⟨fun n hn => ?_, ?_⟩
    · have hn : n ∈ [2, 6, 17] := hn
      rw [List.length_append, hl]
      simp only [List.mem_cons, List.not_mem_nil, or_false] at hn
      show n < 18 + 1; omega
    · show (w_fi ws (n_v (vs ++ [Value.int x]) 2) 157 ≤ v_iv (n_v (vs ++ [Value.int x]) 6)) ∧ ((v_iv (n_v (vs ++ [Value.int x]) 6) ≤ w_fi ws (n_v (vs ++ [Value.int x]) 2) 11) ∧ ((v_iv (n_v (vs ++ [Value.int x]) 17) = 0) ∨ ((v_iv (n_v (vs ++ [Value.int x]) 17) = 4) ∨ ((v_iv (n_v (vs ++ [Value.int x]) 6) + 1) ≤ w_fi ws (n_v (vs ++ [Value.int x]) 2) 11))))
      rw [e_2]
      rw [e_6]
      rw [e_17]
      rw [q2]
      first | omega | grind
  have nf1 : fc_1 (20, [18, 6], [30, -4001, -1, 0, 0, -2, 0, 0]) ws (vs ++ [Value.int x]) := by
    refine ⟨fun n hn => ?_, ?_⟩
    · have hn : n ∈ [18, 6] := hn
      rw [List.length_append, hl]
      simp only [List.mem_cons, List.not_mem_nil, or_false] at hn
      show n < 18 + 1; omega
    · show (-1) * v_iv (n_v (vs ++ [Value.int x]) 18) + ((-2) * v_iv (n_v (vs ++ [Value.int x]) 6) + 0) ≤ (-4001)
      rw [e_6]
      rw [e_18]
      omega
  have nf2 : fc_1 (24, [0, 2], []) ws (vs ++ [Value.int x]) := by
    refine ⟨fun n hn => ?_, ?_⟩
    · have hn : n ∈ [0, 2] := hn
      rw [List.length_append, hl]
      simp only [List.mem_cons, List.not_mem_nil, or_false] at hn
      show n < 18 + 1; omega
    · show n_v (vs ++ [Value.int x]) 0 = n_v (vs ++ [Value.int x]) 2
      first | rfl | simp only [e_0, e_2, q2]
  obtain ⟨x0, e0, _, _⟩ := tv_int t10 rfl
  have e1 : v_iv (n_v vs 10) = x0.toInt := by rw [e0]; rfl
  have ho : sy_ofs (vs ++ [Value.int x]) (18, 10, 0, 0) := by
    refine ⟨x, x0, by rw [List.getElem?_append_right (by rw [hl]; decide), hl]; rfl, ?_, ?_, ?_⟩
    · rw [List.getElem?_append_left (by rw [hl]; decide)]; exact n_v_some (by rw [hl]; decide) e0
    · show x0.toInt + 0 ≤ x.toInt; omega
    · show x.toInt ≤ x0.toInt + 0; omega
  exact ⟨(fun _ h => (by cases h)), [Value.int x], ag_one hx, List.forall_mem_cons.mpr ⟨⟨show (20 : Nat) < 100 from by decide, nf0⟩, List.forall_mem_cons.mpr ⟨⟨show (20 : Nat) < 100 from by decide, nf1⟩, List.forall_mem_cons.mpr ⟨⟨show (24 : Nat) < 100 from by decide, nf2⟩, (fun _ h => (by cases h))⟩⟩⟩, List.forall_mem_cons.mpr ⟨ho, (fun _ h => (by cases h))⟩⟩
def o_Mo_styleTokens_22 : or_T := (103, 17, [(0, (2, 0, 0, [150])), (2, (2, 0, 0, [150])), (6, (0, 0, 1999, [])), (9, (0, 0, 1999, [])), (10, (0, 0, 4001, [])), (11, (0, 97, 122, [])), (15, (0, 1, 1, [])), (16, (0, 1, 2000, []))], [(20, [9, 2, 11], [50, 1, 1, 1010, 1001, 4, 11, 0, 6, 4, 2, 1, 0, 0, 1, 2, 1, 10, 1, 2, 1, 2, 9, 5, 3, 1, 1, 1, 0, 0, 256]), (20, [2, 9, 11], [50, 1, 0, 10, 4, 7, 0, 3, 2, 0, 10, 1, 1, 1, 2, 1, 2, 0, -1]), (20, [10, 6], [30, -4001, -1, 0, 0, -2, 0, 0]), (24, [0, 2], []), (101, [2, 16], [11]), (1, [16, 9, 15], []), (9, [9, 2], [11]), (20, [9, 2, 11], [50, 1, 1, 1010, 1001, 4, 11, 0, 6, 4, 2, 1, 0, 0, 1, 2, 1, 10, 1, 2, 1, 2, 9, 5, 3, 1, 1, 1, 0, 0, 256]), (20, [2, 9, 11], [50, 1, 0, 10, 4, 7, 0, 3, 2, 0, 10, 1, 1, 1, 2, 1, 2, 0, -1]), (20, [2, 6], [50, 3, 1, 157, 11, 10, 1, 2, 7, 0, 3, 2, 0, 157, 1, 1, 2, 7, 0, 2, 1, 1, 2, 0, 11, 3, 11, 0, 6, 4, 2, 1, 1, 0, 1, 2, 0, 11, 2, 7, 1, 3, 2, 0, 11, 1, 1, 2, 11, 0, 6, 4, 2, 1, 1, 0, 1, 2, 0, 10, 2, 13, 0, 2, 0, 97, 9, 5, 3, 0, 1, 1, 1, 0, 256, 0, 9, 9, 5, 3, 0, 1, 1, 1, 0, 256, 0, 122]), (20, [10, 6], [30, -4001, -1, 0, 0, -2, 0, 0])], [], [], [(20, [2, 6], [50, 3, 1, 157, 11, 10, 1, 2, 7, 0, 3, 2, 0, 157, 1, 1, 2, 7, 0, 2, 1, 1, 2, 0, 11, 3, 11, 0, 6, 4, 2, 1, 1, 0, 1, 2, 0, 11, 2, 7, 1, 3, 2, 0, 11, 1, 1, 2, 11, 0, 6, 4, 2, 1, 1, 0, 1, 2, 0, 10, 2, 13, 0, 2, 0, 97, 9, 5, 3, 0, 1, 1, 1, 0, 256, 0, 9, 9, 5, 3, 0, 1, 1, 1, 0, 256, 0, 122])], [], [(16, 9, 1, 1), (6, 9, -4294967296, 0)])
theorem oo_Mo_styleTokens_22 {kA : Nat → ClassId} : or_ok kA GG o_Mo_styleTokens_22 := by
  intro A ta ws vs hD hth hl hk hds hf
  have hl : vs.length = 17 := hl
  have hk : ∀ q ∈ ([(0, (2, 0, 0, [150])), (2, (2, 0, 0, [150])), (6, (0, 0, 1999, [])), (9, (0, 0, 1999, [])), (10, (0, 0, 4001, [])), (11, (0, 97, 122, [])), (15, (0, 1, 1, [])), (16, (0, 1, 2000, []))] : List (Nat × tv_T)), tv_ok ta q.2 (n_v vs q.1) := hk
  obtain ⟨t0, hk⟩ := List.forall_mem_cons.mp hk
  have t0 : tv_ok ta (2, 0, 0, [150]) (n_v vs 0) := t0
  have r0 : ta (v_ad (n_v vs 0)) = some 150 := tv_rg t0
  obtain ⟨t2, hk⟩ := List.forall_mem_cons.mp hk
  have t2 : tv_ok ta (2, 0, 0, [150]) (n_v vs 2) := t2
  have r2 : ta (v_ad (n_v vs 2)) = some 150 := tv_rg t2
  obtain ⟨t6, hk⟩ := List.forall_mem_cons.mp hk
  have t6 : tv_ok ta (0, 0, 1999, []) (n_v vs 6) := t6
  have k6 : 0 ≤ v_iv (n_v vs 6) ∧ v_iv (n_v vs 6) ≤ 1999 := tv_rng t6
  obtain ⟨t9, hk⟩ := List.forall_mem_cons.mp hk
  have t9 : tv_ok ta (0, 0, 1999, []) (n_v vs 9) := t9
  have k9 : 0 ≤ v_iv (n_v vs 9) ∧ v_iv (n_v vs 9) ≤ 1999 := tv_rng t9
  obtain ⟨t10, hk⟩ := List.forall_mem_cons.mp hk
  have t10 : tv_ok ta (0, 0, 4001, []) (n_v vs 10) := t10
  have k10 : 0 ≤ v_iv (n_v vs 10) ∧ v_iv (n_v vs 10) ≤ 4001 := tv_rng t10
  obtain ⟨t11, hk⟩ := List.forall_mem_cons.mp hk
  have t11 : tv_ok ta (0, 97, 122, []) (n_v vs 11) := t11
  have k11 : 97 ≤ v_iv (n_v vs 11) ∧ v_iv (n_v vs 11) ≤ 122 := tv_rng t11
  obtain ⟨t15, hk⟩ := List.forall_mem_cons.mp hk
  have t15 : tv_ok ta (0, 1, 1, []) (n_v vs 15) := t15
  have k15 : 1 ≤ v_iv (n_v vs 15) ∧ v_iv (n_v vs 15) ≤ 1 := tv_rng t15
  obtain ⟨t16, hk⟩ := List.forall_mem_cons.mp hk
  have t16 : tv_ok ta (0, 1, 2000, []) (n_v vs 16) := t16
  have k16 : 1 ≤ v_iv (n_v vs 16) ∧ v_iv (n_v vs 16) ≤ 2000 := tv_rng t16
  have hds : ∀ q ∈ ([(16, 9, 1, 1), (6, 9, -4294967296, 0)] : List of_T), n_iv vs q.2.1 + q.2.2.1 ≤ n_iv vs q.1 ∧ n_iv vs q.1 ≤ n_iv vs q.2.1 + q.2.2.2 := hds
  obtain ⟨d0, hds⟩ := List.forall_mem_cons.mp hds
  have d0 : v_iv (n_v vs 9) + 1 ≤ v_iv (n_v vs 16) ∧ v_iv (n_v vs 16) ≤ v_iv (n_v vs 9) + 1 := d0
  obtain ⟨d1, hds⟩ := List.forall_mem_cons.mp hds
  have d1 : v_iv (n_v vs 9) + (-4294967296) ≤ v_iv (n_v vs 6) ∧ v_iv (n_v vs 6) ≤ v_iv (n_v vs 9) + 0 := d1
  have hf : fc_ok [(20, [9, 2, 11], [50, 1, 1, 1010, 1001, 4, 11, 0, 6, 4, 2, 1, 0, 0, 1, 2, 1, 10, 1, 2, 1, 2, 9, 5, 3, 1, 1, 1, 0, 0, 256]), (20, [2, 9, 11], [50, 1, 0, 10, 4, 7, 0, 3, 2, 0, 10, 1, 1, 1, 2, 1, 2, 0, -1]), (20, [10, 6], [30, -4001, -1, 0, 0, -2, 0, 0]), (24, [0, 2], []), (101, [2, 16], [11]), (1, [16, 9, 15], []), (9, [9, 2], [11]), (20, [9, 2, 11], [50, 1, 1, 1010, 1001, 4, 11, 0, 6, 4, 2, 1, 0, 0, 1, 2, 1, 10, 1, 2, 1, 2, 9, 5, 3, 1, 1, 1, 0, 0, 256]), (20, [2, 9, 11], [50, 1, 0, 10, 4, 7, 0, 3, 2, 0, 10, 1, 1, 1, 2, 1, 2, 0, -1]), (20, [2, 6], [50, 3, 1, 157, 11, 10, 1, 2, 7, 0, 3, 2, 0, 157, 1, 1, 2, 7, 0, 2, 1, 1, 2, 0, 11, 3, 11, 0, 6, 4, 2, 1, 1, 0, 1, 2, 0, 11, 2, 7, 1, 3, 2, 0, 11, 1, 1, 2, 11, 0, 6, 4, 2, 1, 1, 0, 1, 2, 0, 10, 2, 13, 0, 2, 0, 97, 9, 5, 3, 0, 1, 1, 1, 0, 256, 0, 9, 9, 5, 3, 0, 1, 1, 1, 0, 256, 0, 122]), (20, [10, 6], [30, -4001, -1, 0, 0, -2, 0, 0])] ta ws vs := hf
  obtain ⟨f0, hf⟩ := fc_un (show (20 : Nat) < 100 from by decide) hf
  have f0 : ((v_iv (n_v vs 9) + 1) ≤ w_fi ws (n_v vs 2) 10) → (v_iv (n_v vs 11) = (w_ei ws (w_ar ws (n_v vs 2) 1) (v_iv (n_v vs 9)) % 256)) := f0
  obtain ⟨f1, hf⟩ := fc_un (show (20 : Nat) < 100 from by decide) hf
  have f1 : (w_fi ws (n_v vs 2) 10 ≤ v_iv (n_v vs 9)) → (v_iv (n_v vs 11) = (-1)) := f1
  obtain ⟨f2, hf⟩ := fc_un (show (20 : Nat) < 100 from by decide) hf
  have f2 : (-1) * v_iv (n_v vs 10) + ((-2) * v_iv (n_v vs 6) + 0) ≤ (-4001) := f2
  obtain ⟨f3, hf⟩ := fc_un (show (24 : Nat) < 100 from by decide) hf
  have f3 : n_v vs 0 = n_v vs 2 := f3
  obtain ⟨ta1, w1, le1, ⟨_, s1⟩, hf⟩ := fc_us (show ¬ (101 : Nat) < 100 from by decide) hf
  have s1 : (∀ b j, w_el ws b j = w_el w1 b j) ∧ ∀ b j, w_fd ws b j = if b = v_ad (n_v vs 2) ∧ j = 11 then n_v vs 16 else w_fd w1 b j := s1
  obtain ⟨f5, hf⟩ := fc_un (show (1 : Nat) < 100 from by decide) hf
  have f5 : v_iv (n_v vs 16) = v_iv (n_v vs 9) + v_iv (n_v vs 15) := f5
  obtain ⟨f6, hf⟩ := fc_un (show (9 : Nat) < 100 from by decide) hf
  have f6 : n_v vs 9 = w_fd w1 (v_ad (n_v vs 2)) 11 := f6
  obtain ⟨f7, hf⟩ := fc_un (show (20 : Nat) < 100 from by decide) hf
  have f7 : ((v_iv (n_v vs 9) + 1) ≤ w_fi w1 (n_v vs 2) 10) → (v_iv (n_v vs 11) = (w_ei w1 (w_ar w1 (n_v vs 2) 1) (v_iv (n_v vs 9)) % 256)) := f7
  obtain ⟨f8, hf⟩ := fc_un (show (20 : Nat) < 100 from by decide) hf
  have f8 : (w_fi w1 (n_v vs 2) 10 ≤ v_iv (n_v vs 9)) → (v_iv (n_v vs 11) = (-1)) := f8
  obtain ⟨f9, hf⟩ := fc_un (show (20 : Nat) < 100 from by decide) hf
  have f9 : (w_fi w1 (n_v vs 2) 157 ≤ v_iv (n_v vs 6)) ∧ ((v_iv (n_v vs 6) ≤ w_fi w1 (n_v vs 2) 11) ∧ (((v_iv (n_v vs 6) + 1) ≤ w_fi w1 (n_v vs 2) 11) ∨ ((w_fi w1 (n_v vs 2) 11 = v_iv (n_v vs 6)) ∧ (((v_iv (n_v vs 6) + 1) ≤ w_fi w1 (n_v vs 2) 10) ∧ ((97 ≤ (w_ei w1 (w_ar w1 (n_v vs 2) 1) (v_iv (n_v vs 6)) % 256)) ∧ ((w_ei w1 (w_ar w1 (n_v vs 2) 1) (v_iv (n_v vs 6)) % 256) ≤ 122)))))) := f9
  obtain ⟨f10, hf⟩ := fc_un (show (20 : Nat) < 100 from by decide) hf
  have f10 : (-1) * v_iv (n_v vs 10) + ((-2) * v_iv (n_v vs 6) + 0) ≤ (-4001) := f10
  have q2 : n_v vs 2 = n_v vs 0 := f3.symm
  rw [q2] at f0
  rw [q2] at f1
  rw [q2] at s1
  rw [q2] at f6
  rw [q2] at f7
  rw [q2] at f8
  rw [q2] at f9
  have ar_0_1_1 : w_ar w1 (n_v vs 0) 1 = w_ar ws (n_v vs 0) 1 := by show v_ad (w_fd w1 _ _) = v_ad (w_fd ws _ _); rw [s1.2, if_neg (fun e => absurd e.2 (by decide))]
  have cr_0_1 : ta (w_ar ws (n_v vs 0) 1) = some 151 := tv_rg (th_fd hD hth r0 (g := GG_150) rfl (k := 1) (t := (2, 0, 0, [151])) rfl rfl)
  have g6 : v_iv (n_v vs 9) = w_fi w1 (n_v vs 0) 11 := congrArg v_iv f6
  rw [ar_0_1_1] at f7
  rw [ar_0_1_1] at f9
  have fe_0_10_1 : w_fi ws (n_v vs 0) 10 = w_fi w1 (n_v vs 0) 10 := by show v_iv (w_fd _ _ _) = v_iv (w_fd _ _ _); rw [s1.2, if_neg (fun e => absurd e.2 (by decide))]
  have fe_0_11_1 : w_fi ws (n_v vs 0) 11 = v_iv (n_v vs 16) := by show v_iv (w_fd _ _ _) = _; rw [s1.2, if_pos ⟨rfl, rfl⟩]
  have fe_0_157_1 : w_fi ws (n_v vs 0) 157 = w_fi w1 (n_v vs 0) 157 := by show v_iv (w_fd _ _ _) = v_iv (w_fd _ _ _); rw [s1.2, if_neg (fun e => absurd e.2 (by decide))]
  have hE_0_1_1 : ∀ j : Int, w_ei ws (w_ar ws (n_v vs 0) 1) j = w_ei w1 (w_ar ws (n_v vs 0) 1) j := fun j => s1.1 _ _
  have hK_0_1 : ∀ j : Int, 0 ≤ j → j < 2000 → (-128) ≤ w_ei ws (w_ar ws (n_v vs 0) 1) j ∧ w_ei ws (w_ar ws (n_v vs 0) 1) j ≤ 127 := fun j h0 h1 => th_el hD hth cr_0_1 (kd := 1) (n := 2000) (m := 2000) (lo := (-128)) (hi := 127) (rs := []) (L := []) rfl (by decide) (j := j.toNat) (by omega)
  have kz_0_10 : 0 ≤ w_fi ws (n_v vs 0) 10 ∧ w_fi ws (n_v vs 0) 10 ≤ 2000 := tv_rng (th_fd hD hth r0 (g := GG_150) rfl (k := 10) (t := (0, 0, 2000, [])) rfl rfl)
  have kz_0_11 : 0 ≤ w_fi ws (n_v vs 0) 11 ∧ w_fi ws (n_v vs 0) 11 ≤ 2000 := tv_rng (th_fd hD hth r0 (g := GG_150) rfl (k := 11) (t := (0, 0, 2000, [])) rfl rfl)
  have kz_0_157 : 0 ≤ w_fi ws (n_v vs 0) 157 ∧ w_fi ws (n_v vs 0) 157 ≤ 2010 := tv_rng (th_fd hD hth r0 (g := GG_150) rfl (k := 157) (t := (0, 0, 2010, [])) rfl rfl)
  have nf0 : fc_1 (20, [2, 6], [50, 3, 1, 157, 11, 10, 1, 2, 7, 0, 3, 2, 0, 157, 1, 1, 2, 7, 0, 2, 1, 1, 2, 0, 11, 3, 11, 0, 6, 4, 2, 1, 1, 0, 1, 2, 0, 11, 2, 7, 1, 3, 2, 0, 11, 1, 1, 2, 11, 0, 6, 4, 2, 1, 1, 0, 1, 2, 0, 10, 2, 13, 0, 2, 0, 97, 9, 5, 3, 0, 1, 1, 1, 0, 256, 0, 9, 9, 5, 3, 0, 1, 1, 1, 0, 256, 0, 122]) ws (vs) := by
    refine ⟨fun n hn => ?_, ?_⟩
    · have hn : n ∈ [2, 6] := hn
      rw [hl]
      simp only [List.mem_cons, List.not_mem_nil, or_false] at hn
      show n < 17; omega
    · show (w_fi ws (n_v vs 2) 157 ≤ v_iv (n_v vs 6)) ∧ ((v_iv (n_v vs 6) ≤ w_fi ws (n_v vs 2) 11) ∧ (((v_iv (n_v vs 6) + 1) ≤ w_fi ws (n_v vs 2) 11) ∨ ((w_fi ws (n_v vs 2) 11 = v_iv (n_v vs 6)) ∧ (((v_iv (n_v vs 6) + 1) ≤ w_fi ws (n_v vs 2) 10) ∧ ((97 ≤ (w_ei ws (w_ar ws (n_v vs 2) 1) (v_iv (n_v vs 6)) % 256)) ∧ ((w_ei ws (w_ar ws (n_v vs 2) 1) (v_iv (n_v vs 6)) % 256) ≤ 122))))))
      rw [q2]
      first | omega | grind
  refine ⟨(fun _ h => (by cases h)), [], trivial, ?_, (fun _ h => (by cases h))⟩
  rw [List.append_nil]
  exact List.forall_mem_cons.mpr ⟨⟨show (20 : Nat) < 100 from by decide, nf0⟩, (fun _ h => (by cases h))⟩
def o_Mo_styleTokens_23 : or_T := (363, 16, [(0, (2, 0, 0, [150])), (2, (2, 0, 0, [150])), (6, (0, 0, 1999, [])), (9, (0, 5, 2000, [])), (10, (0, 0, 4001, [])), (11, (0, -1, -1, [])), (13, (0, 5, 2000, [])), (14, (0, 4, 4, [])), (15, (0, 4, 4, []))], [(7, [13, 14], [4]), (2, [13, 9, 6], []), (9, [9, 2], [11]), (20, [9, 2, 11], [50, 1, 1, 1010, 1001, 4, 11, 0, 6, 4, 2, 1, 0, 0, 1, 2, 1, 10, 1, 2, 1, 2, 9, 5, 3, 1, 1, 1, 0, 0, 256]), (20, [2, 9, 11], [50, 1, 0, 10, 4, 7, 0, 3, 2, 0, 10, 1, 1, 1, 2, 1, 2, 0, -1]), (20, [2, 6], [50, 3, 1, 157, 11, 10, 1, 2, 7, 0, 3, 2, 0, 157, 1, 1, 2, 7, 0, 2, 1, 1, 2, 0, 11, 3, 11, 0, 6, 4, 2, 1, 1, 0, 1, 2, 0, 11, 2, 7, 1, 3, 2, 0, 11, 1, 1, 2, 11, 0, 6, 4, 2, 1, 1, 0, 1, 2, 0, 10, 2, 13, 0, 2, 0, 48, 9, 5, 3, 0, 1, 1, 1, 0, 256, 0, 9, 9, 5, 3, 0, 1, 1, 1, 0, 256, 0, 57]), (20, [10, 6], [30, -4001, -1, 0, 0, -2, 0, 0]), (24, [0, 2], [])], [], [(0, 0, 4001, [])], [(20, [2, 6, 15], [50, 2, 0, 157, 11, 2, 7, 0, 3, 2, 0, 157, 1, 1, 2, 7, 0, 2, 1, 1, 2, 0, 11, 3, 6, 1, 2, 1, 2, 0, 0, 3, 6, 1, 2, 1, 2, 0, 4, 0, 6, 4, 2, 1, 1, 0, 1, 2, 0, 11]), (20, [16, 6], [30, -4001, -1, 0, 0, -2, 0, 0]), (24, [0, 2], [])], [(16, 10, 0, 0)], [(13, 9, -1999, 0), (6, 9, -4294967296, 0)])
theorem oo_Mo_styleTokens_23 {kA : Nat → ClassId} : or_ok kA GG o_Mo_styleTokens_23 := by
  intro A ta ws vs hD hth hl hk hds hf
  have hl : vs.length = 16 := hl
  have hk : ∀ q ∈ ([(0, (2, 0, 0, [150])), (2, (2, 0, 0, [150])), (6, (0, 0, 1999, [])), (9, (0, 5, 2000, [])), (10, (0, 0, 4001, [])), (11, (0, -1, -1, [])), (13, (0, 5, 2000, [])), (14, (0, 4, 4, [])), (15, (0, 4, 4, []))] : List (Nat × tv_T)), tv_ok ta q.2 (n_v vs q.1) := hk
  obtain ⟨t0, hk⟩ := List.forall_mem_cons.mp hk
  have t0 : tv_ok ta (2, 0, 0, [150]) (n_v vs 0) := t0
  have r0 : ta (v_ad (n_v vs 0)) = some 150 := tv_rg t0
  obtain ⟨t2, hk⟩ := List.forall_mem_cons.mp hk
  have t2 : tv_ok ta (2, 0, 0, [150]) (n_v vs 2) := t2
  have r2 : ta (v_ad (n_v vs 2)) = some 150 := tv_rg t2
  obtain ⟨t6, hk⟩ := List.forall_mem_cons.mp hk
  have t6 : tv_ok ta (0, 0, 1999, []) (n_v vs 6) := t6
  have k6 : 0 ≤ v_iv (n_v vs 6) ∧ v_iv (n_v vs 6) ≤ 1999 := tv_rng t6
  obtain ⟨t9, hk⟩ := List.forall_mem_cons.mp hk
  have t9 : tv_ok ta (0, 5, 2000, []) (n_v vs 9) := t9
  have k9 : 5 ≤ v_iv (n_v vs 9) ∧ v_iv (n_v vs 9) ≤ 2000 := tv_rng t9
  obtain ⟨t10, hk⟩ := List.forall_mem_cons.mp hk
  have t10 : tv_ok ta (0, 0, 4001, []) (n_v vs 10) := t10
  have k10 : 0 ≤ v_iv (n_v vs 10) ∧ v_iv (n_v vs 10) ≤ 4001 := tv_rng t10
  obtain ⟨t11, hk⟩ := List.forall_mem_cons.mp hk
  have t11 : tv_ok ta (0, -1, -1, []) (n_v vs 11) := t11
  have k11 : (-1) ≤ v_iv (n_v vs 11) ∧ v_iv (n_v vs 11) ≤ (-1) := tv_rng t11
  obtain ⟨t13, hk⟩ := List.forall_mem_cons.mp hk
  have t13 : tv_ok ta (0, 5, 2000, []) (n_v vs 13) := t13
  have k13 : 5 ≤ v_iv (n_v vs 13) ∧ v_iv (n_v vs 13) ≤ 2000 := tv_rng t13
  obtain ⟨t14, hk⟩ := List.forall_mem_cons.mp hk
  have t14 : tv_ok ta (0, 4, 4, []) (n_v vs 14) := t14
  have k14 : 4 ≤ v_iv (n_v vs 14) ∧ v_iv (n_v vs 14) ≤ 4 := tv_rng t14
  obtain ⟨t15, hk⟩ := List.forall_mem_cons.mp hk
  have t15 : tv_ok ta (0, 4, 4, []) (n_v vs 15) := t15
  have k15 : 4 ≤ v_iv (n_v vs 15) ∧ v_iv (n_v vs 15) ≤ 4 := tv_rng t15
  have hds : ∀ q ∈ ([(13, 9, -1999, 0), (6, 9, -4294967296, 0)] : List of_T), n_iv vs q.2.1 + q.2.2.1 ≤ n_iv vs q.1 ∧ n_iv vs q.1 ≤ n_iv vs q.2.1 + q.2.2.2 := hds
  obtain ⟨d0, hds⟩ := List.forall_mem_cons.mp hds
  have d0 : v_iv (n_v vs 9) + (-1999) ≤ v_iv (n_v vs 13) ∧ v_iv (n_v vs 13) ≤ v_iv (n_v vs 9) + 0 := d0
  obtain ⟨d1, hds⟩ := List.forall_mem_cons.mp hds
  have d1 : v_iv (n_v vs 9) + (-4294967296) ≤ v_iv (n_v vs 6) ∧ v_iv (n_v vs 6) ≤ v_iv (n_v vs 9) + 0 := d1
  have hf : fc_ok [(7, [13, 14], [4]), (2, [13, 9, 6], []), (9, [9, 2], [11]), (20, [9, 2, 11], [50, 1, 1, 1010, 1001, 4, 11, 0, 6, 4, 2, 1, 0, 0, 1, 2, 1, 10, 1, 2, 1, 2, 9, 5, 3, 1, 1, 1, 0, 0, 256]), (20, [2, 9, 11], [50, 1, 0, 10, 4, 7, 0, 3, 2, 0, 10, 1, 1, 1, 2, 1, 2, 0, -1]), (20, [2, 6], [50, 3, 1, 157, 11, 10, 1, 2, 7, 0, 3, 2, 0, 157, 1, 1, 2, 7, 0, 2, 1, 1, 2, 0, 11, 3, 11, 0, 6, 4, 2, 1, 1, 0, 1, 2, 0, 11, 2, 7, 1, 3, 2, 0, 11, 1, 1, 2, 11, 0, 6, 4, 2, 1, 1, 0, 1, 2, 0, 10, 2, 13, 0, 2, 0, 48, 9, 5, 3, 0, 1, 1, 1, 0, 256, 0, 9, 9, 5, 3, 0, 1, 1, 1, 0, 256, 0, 57]), (20, [10, 6], [30, -4001, -1, 0, 0, -2, 0, 0]), (24, [0, 2], [])] ta ws vs := hf
  obtain ⟨f0, hf⟩ := fc_un (show (7 : Nat) < 100 from by decide) hf
  have f0 : v_iv (n_v vs 14) < v_iv (n_v vs 13) := f0
  obtain ⟨f1, hf⟩ := fc_un (show (2 : Nat) < 100 from by decide) hf
  have f1 : v_iv (n_v vs 13) = v_iv (n_v vs 9) - v_iv (n_v vs 6) := f1
  obtain ⟨f2, hf⟩ := fc_un (show (9 : Nat) < 100 from by decide) hf
  have f2 : n_v vs 9 = w_fd ws (v_ad (n_v vs 2)) 11 := f2
  obtain ⟨f3, hf⟩ := fc_un (show (20 : Nat) < 100 from by decide) hf
  have f3 : ((v_iv (n_v vs 9) + 1) ≤ w_fi ws (n_v vs 2) 10) → (v_iv (n_v vs 11) = (w_ei ws (w_ar ws (n_v vs 2) 1) (v_iv (n_v vs 9)) % 256)) := f3
  obtain ⟨f4, hf⟩ := fc_un (show (20 : Nat) < 100 from by decide) hf
  have f4 : (w_fi ws (n_v vs 2) 10 ≤ v_iv (n_v vs 9)) → (v_iv (n_v vs 11) = (-1)) := f4
  obtain ⟨f5, hf⟩ := fc_un (show (20 : Nat) < 100 from by decide) hf
  have f5 : (w_fi ws (n_v vs 2) 157 ≤ v_iv (n_v vs 6)) ∧ ((v_iv (n_v vs 6) ≤ w_fi ws (n_v vs 2) 11) ∧ (((v_iv (n_v vs 6) + 1) ≤ w_fi ws (n_v vs 2) 11) ∨ ((w_fi ws (n_v vs 2) 11 = v_iv (n_v vs 6)) ∧ (((v_iv (n_v vs 6) + 1) ≤ w_fi ws (n_v vs 2) 10) ∧ ((48 ≤ (w_ei ws (w_ar ws (n_v vs 2) 1) (v_iv (n_v vs 6)) % 256)) ∧ ((w_ei ws (w_ar ws (n_v vs 2) 1) (v_iv (n_v vs 6)) % 256) ≤ 57)))))) := f5
  obtain ⟨f6, hf⟩ := fc_un (show (20 : Nat) < 100 from by decide) hf
  have f6 : (-1) * v_iv (n_v vs 10) + ((-2) * v_iv (n_v vs 6) + 0) ≤ (-4001) := f6
  obtain ⟨f7, hf⟩ := fc_un (show (24 : Nat) < 100 from by decide) hf
  have f7 : n_v vs 0 = n_v vs 2 := f7
  have q2 : n_v vs 2 = n_v vs 0 := f7.symm
  rw [q2] at f2
  rw [q2] at f3
  rw [q2] at f4
  rw [q2] at f5
  have cr_0_1 : ta (w_ar ws (n_v vs 0) 1) = some 151 := tv_rg (th_fd hD hth r0 (g := GG_150) rfl (k := 1) (t := (2, 0, 0, [151])) rfl rfl)
  have g2 : v_iv (n_v vs 9) = w_fi ws (n_v vs 0) 11 := congrArg v_iv f2
  have hK_0_1 : ∀ j : Int, 0 ≤ j → j < 2000 → (-128) ≤ w_ei ws (w_ar ws (n_v vs 0) 1) j ∧ w_ei ws (w_ar ws (n_v vs 0) 1) j ≤ 127 := fun j h0 h1 => th_el hD hth cr_0_1 (kd := 1) (n := 2000) (m := 2000) (lo := (-128)) (hi := 127) (rs := []) (L := []) rfl (by decide) (j := j.toNat) (by omega)
  have kz_0_10 : 0 ≤ w_fi ws (n_v vs 0) 10 ∧ w_fi ws (n_v vs 0) 10 ≤ 2000 := tv_rng (th_fd hD hth r0 (g := GG_150) rfl (k := 10) (t := (0, 0, 2000, [])) rfl rfl)
  have kz_0_11 : 0 ≤ w_fi ws (n_v vs 0) 11 ∧ w_fi ws (n_v vs 0) 11 ≤ 2000 := tv_rng (th_fd hD hth r0 (g := GG_150) rfl (k := 11) (t := (0, 0, 2000, [])) rfl rfl)
  have kz_0_157 : 0 ≤ w_fi ws (n_v vs 0) 157 ∧ w_fi ws (n_v vs 0) 157 ≤ 2010 := tv_rng (th_fd hD hth r0 (g := GG_150) rfl (k := 157) (t := (0, 0, 2010, [])) rfl rfl)
  obtain ⟨x, ex, hx⟩ := iv_ex (ta := ta) (lo := 0) (hi := 4001) (z := 0 + (1 * v_iv (n_v vs 10) + 0)) (by omega) (by omega) (by omega) (by omega)
  have ex2 : v_iv (Value.int x) = 0 + (1 * v_iv (n_v vs 10) + 0) := ex
  have ex3 : 0 ≤ v_iv (Value.int x) ∧ v_iv (Value.int x) ≤ 4001 := tv_rng hx
  have e_0 : n_v (vs ++ [Value.int x]) 0 = n_v vs 0 := n_v_old (by rw [hl]; decide)
  have e_2 : n_v (vs ++ [Value.int x]) 2 = n_v vs 2 := n_v_old (by rw [hl]; decide)
  have e_6 : n_v (vs ++ [Value.int x]) 6 = n_v vs 6 := n_v_old (by rw [hl]; decide)
  have e_15 : n_v (vs ++ [Value.int x]) 15 = n_v vs 15 := n_v_old (by rw [hl]; decide)
  have e_16 : n_v (vs ++ [Value.int x]) 16 = Value.int x := n_v_new hl
  have nf0 : fc_1 (20, [2, 6, 15], [50, 2, 0, 157, 11, 2, 7, 0, 3, 2, 0, 157, 1, 1, 2, 7, 0, 2, 1, 1, 2, 0, 11, 3, 6, 1, 2, 1, 2, 0, 0, 3, 6, 1, 2, 1, 2, 0, 4, 0, 6, 4, 2, 1, 1, 0, 1, 2, 0, 11]) ws (vs ++ [Value.int x]) := by
    refine ⟨fun n hn => ?_, ?_⟩
    · have hn : n ∈ [2, 6, 15] := hn
      rw [List.length_append, hl]
      simp only [List.mem_cons, List.not_mem_nil, or_false] at hn
      show n < 16 + 1; omega
    · show (w_fi ws (n_v (vs ++ [Value.int x]) 2) 157 ≤ v_iv (n_v (vs ++ [Value.int x]) 6)) ∧ ((v_iv (n_v (vs ++ [Value.int x]) 6) ≤ w_fi ws (n_v (vs ++ [Value.int x]) 2) 11) ∧ ((v_iv (n_v (vs ++ [Value.int x]) 15) = 0) ∨ ((v_iv (n_v (vs ++ [Value.int x]) 15) = 4) ∨ ((v_iv (n_v (vs ++ [Value.int x]) 6) + 1) ≤ w_fi ws (n_v (vs ++ [Value.int x]) 2) 11))))
      rw [e_2]
      rw [e_6]
      rw [e_15]
      rw [q2]
      first | omega | grind
  have nf1 : fc_1 (20, [16, 6], [30, -4001, -1, 0, 0, -2, 0, 0]) ws (vs ++ [Value.int x]) := by
    refine ⟨fun n hn => ?_, ?_⟩
    · have hn : n ∈ [16, 6] := hn
      rw [List.length_append, hl]
      simp only [List.mem_cons, List.not_mem_nil, or_false] at hn
      show n < 16 + 1; omega
    · show (-1) * v_iv (n_v (vs ++ [Value.int x]) 16) + ((-2) * v_iv (n_v (vs ++ [Value.int x]) 6) + 0) ≤ (-4001)
      rw [e_6]
      rw [e_16]
      omega
  have nf2 : fc_1 (24, [0, 2], []) ws (vs ++ [Value.int x]) := by
    refine ⟨fun n hn => ?_, ?_⟩
    · have hn : n ∈ [0, 2] := hn
      rw [List.length_append, hl]
      simp only [List.mem_cons, List.not_mem_nil, or_false] at hn
      show n < 16 + 1; omega
    · show n_v (vs ++ [Value.int x]) 0 = n_v (vs ++ [Value.int x]) 2
      first | rfl | simp only [e_0, e_2, q2]
  obtain ⟨x0, e0, _, _⟩ := tv_int t10 rfl
  have e1 : v_iv (n_v vs 10) = x0.toInt := by rw [e0]; rfl
  have ho : sy_ofs (vs ++ [Value.int x]) (16, 10, 0, 0) := by
    refine ⟨x, x0, by rw [List.getElem?_append_right (by rw [hl]; decide), hl]; rfl, ?_, ?_, ?_⟩
    · rw [List.getElem?_append_left (by rw [hl]; decide)]; exact n_v_some (by rw [hl]; decide) e0
    · show x0.toInt + 0 ≤ x.toInt; omega
    · show x.toInt ≤ x0.toInt + 0; omega
  exact ⟨(fun _ h => (by cases h)), [Value.int x], ag_one hx, List.forall_mem_cons.mpr ⟨⟨show (20 : Nat) < 100 from by decide, nf0⟩, List.forall_mem_cons.mpr ⟨⟨show (20 : Nat) < 100 from by decide, nf1⟩, List.forall_mem_cons.mpr ⟨⟨show (24 : Nat) < 100 from by decide, nf2⟩, (fun _ h => (by cases h))⟩⟩⟩, List.forall_mem_cons.mpr ⟨ho, (fun _ h => (by cases h))⟩⟩
def o_Mo_styleTokens_24 : or_T := (363, 16, [(0, (2, 0, 0, [150])), (2, (2, 0, 0, [150])), (6, (0, 0, 1999, [])), (9, (0, 0, 2000, [])), (10, (0, 0, 4001, [])), (11, (0, -1, -1, [])), (13, (0, 0, 4, [])), (14, (0, 4, 4, [])), (15, (0, 2, 2, []))], [(7, [13, 14], [5]), (2, [13, 9, 6], []), (9, [9, 2], [11]), (20, [9, 2, 11], [50, 1, 1, 1010, 1001, 4, 11, 0, 6, 4, 2, 1, 0, 0, 1, 2, 1, 10, 1, 2, 1, 2, 9, 5, 3, 1, 1, 1, 0, 0, 256]), (20, [2, 9, 11], [50, 1, 0, 10, 4, 7, 0, 3, 2, 0, 10, 1, 1, 1, 2, 1, 2, 0, -1]), (20, [2, 6], [50, 3, 1, 157, 11, 10, 1, 2, 7, 0, 3, 2, 0, 157, 1, 1, 2, 7, 0, 2, 1, 1, 2, 0, 11, 3, 11, 0, 6, 4, 2, 1, 1, 0, 1, 2, 0, 11, 2, 7, 1, 3, 2, 0, 11, 1, 1, 2, 11, 0, 6, 4, 2, 1, 1, 0, 1, 2, 0, 10, 2, 13, 0, 2, 0, 48, 9, 5, 3, 0, 1, 1, 1, 0, 256, 0, 9, 9, 5, 3, 0, 1, 1, 1, 0, 256, 0, 57]), (20, [10, 6], [30, -4001, -1, 0, 0, -2, 0, 0]), (24, [0, 2], [])], [], [(0, 0, 4001, [])], [(20, [2, 6, 15], [50, 2, 0, 157, 11, 2, 7, 0, 3, 2, 0, 157, 1, 1, 2, 7, 0, 2, 1, 1, 2, 0, 11, 3, 6, 1, 2, 1, 2, 0, 0, 3, 6, 1, 2, 1, 2, 0, 4, 0, 6, 4, 2, 1, 1, 0, 1, 2, 0, 11]), (20, [16, 6], [30, -4001, -1, 0, 0, -2, 0, 0]), (24, [0, 2], [])], [(16, 10, 0, 0)], [(13, 9, -1999, 0), (6, 9, -4294967296, 0)])
theorem oo_Mo_styleTokens_24 {kA : Nat → ClassId} : or_ok kA GG o_Mo_styleTokens_24 := by
  intro A ta ws vs hD hth hl hk hds hf
  have hl : vs.length = 16 := hl
  have hk : ∀ q ∈ ([(0, (2, 0, 0, [150])), (2, (2, 0, 0, [150])), (6, (0, 0, 1999, [])), (9, (0, 0, 2000, [])), (10, (0, 0, 4001, [])), (11, (0, -1, -1, [])), (13, (0, 0, 4, [])), (14, (0, 4, 4, [])), (15, (0, 2, 2, []))] : List (Nat × tv_T)), tv_ok ta q.2 (n_v vs q.1) := hk
  obtain ⟨t0, hk⟩ := List.forall_mem_cons.mp hk
  have t0 : tv_ok ta (2, 0, 0, [150]) (n_v vs 0) := t0
  have r0 : ta (v_ad (n_v vs 0)) = some 150 := tv_rg t0
  obtain ⟨t2, hk⟩ := List.forall_mem_cons.mp hk
  have t2 : tv_ok ta (2, 0, 0, [150]) (n_v vs 2) := t2
  have r2 : ta (v_ad (n_v vs 2)) = some 150 := tv_rg t2
  obtain ⟨t6, hk⟩ := List.forall_mem_cons.mp hk
  have t6 : tv_ok ta (0, 0, 1999, []) (n_v vs 6) := t6
  have k6 : 0 ≤ v_iv (n_v vs 6) ∧ v_iv (n_v vs 6) ≤ 1999 := tv_rng t6
  obtain ⟨t9, hk⟩ := List.forall_mem_cons.mp hk
  have t9 : tv_ok ta (0, 0, 2000, []) (n_v vs 9) := t9
  have k9 : 0 ≤ v_iv (n_v vs 9) ∧ v_iv (n_v vs 9) ≤ 2000 := tv_rng t9
  obtain ⟨t10, hk⟩ := List.forall_mem_cons.mp hk
  have t10 : tv_ok ta (0, 0, 4001, []) (n_v vs 10) := t10
  have k10 : 0 ≤ v_iv (n_v vs 10) ∧ v_iv (n_v vs 10) ≤ 4001 := tv_rng t10
  obtain ⟨t11, hk⟩ := List.forall_mem_cons.mp hk
  have t11 : tv_ok ta (0, -1, -1, []) (n_v vs 11) := t11
  have k11 : (-1) ≤ v_iv (n_v vs 11) ∧ v_iv (n_v vs 11) ≤ (-1) := tv_rng t11
  obtain ⟨t13, hk⟩ := List.forall_mem_cons.mp hk
  have t13 : tv_ok ta (0, 0, 4, []) (n_v vs 13) := t13
  have k13 : 0 ≤ v_iv (n_v vs 13) ∧ v_iv (n_v vs 13) ≤ 4 := tv_rng t13
  obtain ⟨t14, hk⟩ := List.forall_mem_cons.mp hk
  have t14 : tv_ok ta (0, 4, 4, []) (n_v vs 14) := t14
  have k14 : 4 ≤ v_iv (n_v vs 14) ∧ v_iv (n_v vs 14) ≤ 4 := tv_rng t14
  obtain ⟨t15, hk⟩ := List.forall_mem_cons.mp hk
  have t15 : tv_ok ta (0, 2, 2, []) (n_v vs 15) := t15
  have k15 : 2 ≤ v_iv (n_v vs 15) ∧ v_iv (n_v vs 15) ≤ 2 := tv_rng t15
  have hds : ∀ q ∈ ([(13, 9, -1999, 0), (6, 9, -4294967296, 0)] : List of_T), n_iv vs q.2.1 + q.2.2.1 ≤ n_iv vs q.1 ∧ n_iv vs q.1 ≤ n_iv vs q.2.1 + q.2.2.2 := hds
  obtain ⟨d0, hds⟩ := List.forall_mem_cons.mp hds
  have d0 : v_iv (n_v vs 9) + (-1999) ≤ v_iv (n_v vs 13) ∧ v_iv (n_v vs 13) ≤ v_iv (n_v vs 9) + 0 := d0
  obtain ⟨d1, hds⟩ := List.forall_mem_cons.mp hds
  have d1 : v_iv (n_v vs 9) + (-4294967296) ≤ v_iv (n_v vs 6) ∧ v_iv (n_v vs 6) ≤ v_iv (n_v vs 9) + 0 := d1
  have hf : fc_ok [(7, [13, 14], [5]), (2, [13, 9, 6], []), (9, [9, 2], [11]), (20, [9, 2, 11], [50, 1, 1, 1010, 1001, 4, 11, 0, 6, 4, 2, 1, 0, 0, 1, 2, 1, 10, 1, 2, 1, 2, 9, 5, 3, 1, 1, 1, 0, 0, 256]), (20, [2, 9, 11], [50, 1, 0, 10, 4, 7, 0, 3, 2, 0, 10, 1, 1, 1, 2, 1, 2, 0, -1]), (20, [2, 6], [50, 3, 1, 157, 11, 10, 1, 2, 7, 0, 3, 2, 0, 157, 1, 1, 2, 7, 0, 2, 1, 1, 2, 0, 11, 3, 11, 0, 6, 4, 2, 1, 1, 0, 1, 2, 0, 11, 2, 7, 1, 3, 2, 0, 11, 1, 1, 2, 11, 0, 6, 4, 2, 1, 1, 0, 1, 2, 0, 10, 2, 13, 0, 2, 0, 48, 9, 5, 3, 0, 1, 1, 1, 0, 256, 0, 9, 9, 5, 3, 0, 1, 1, 1, 0, 256, 0, 57]), (20, [10, 6], [30, -4001, -1, 0, 0, -2, 0, 0]), (24, [0, 2], [])] ta ws vs := hf
  obtain ⟨f0, hf⟩ := fc_un (show (7 : Nat) < 100 from by decide) hf
  have f0 : v_iv (n_v vs 13) ≤ v_iv (n_v vs 14) := f0
  obtain ⟨f1, hf⟩ := fc_un (show (2 : Nat) < 100 from by decide) hf
  have f1 : v_iv (n_v vs 13) = v_iv (n_v vs 9) - v_iv (n_v vs 6) := f1
  obtain ⟨f2, hf⟩ := fc_un (show (9 : Nat) < 100 from by decide) hf
  have f2 : n_v vs 9 = w_fd ws (v_ad (n_v vs 2)) 11 := f2
  obtain ⟨f3, hf⟩ := fc_un (show (20 : Nat) < 100 from by decide) hf
  have f3 : ((v_iv (n_v vs 9) + 1) ≤ w_fi ws (n_v vs 2) 10) → (v_iv (n_v vs 11) = (w_ei ws (w_ar ws (n_v vs 2) 1) (v_iv (n_v vs 9)) % 256)) := f3
  obtain ⟨f4, hf⟩ := fc_un (show (20 : Nat) < 100 from by decide) hf
  have f4 : (w_fi ws (n_v vs 2) 10 ≤ v_iv (n_v vs 9)) → (v_iv (n_v vs 11) = (-1)) := f4
  obtain ⟨f5, hf⟩ := fc_un (show (20 : Nat) < 100 from by decide) hf
  have f5 : (w_fi ws (n_v vs 2) 157 ≤ v_iv (n_v vs 6)) ∧ ((v_iv (n_v vs 6) ≤ w_fi ws (n_v vs 2) 11) ∧ (((v_iv (n_v vs 6) + 1) ≤ w_fi ws (n_v vs 2) 11) ∨ ((w_fi ws (n_v vs 2) 11 = v_iv (n_v vs 6)) ∧ (((v_iv (n_v vs 6) + 1) ≤ w_fi ws (n_v vs 2) 10) ∧ ((48 ≤ (w_ei ws (w_ar ws (n_v vs 2) 1) (v_iv (n_v vs 6)) % 256)) ∧ ((w_ei ws (w_ar ws (n_v vs 2) 1) (v_iv (n_v vs 6)) % 256) ≤ 57)))))) := f5
  obtain ⟨f6, hf⟩ := fc_un (show (20 : Nat) < 100 from by decide) hf
  have f6 : (-1) * v_iv (n_v vs 10) + ((-2) * v_iv (n_v vs 6) + 0) ≤ (-4001) := f6
  obtain ⟨f7, hf⟩ := fc_un (show (24 : Nat) < 100 from by decide) hf
  have f7 : n_v vs 0 = n_v vs 2 := f7
  have q2 : n_v vs 2 = n_v vs 0 := f7.symm
  rw [q2] at f2
  rw [q2] at f3
  rw [q2] at f4
  rw [q2] at f5
  have cr_0_1 : ta (w_ar ws (n_v vs 0) 1) = some 151 := tv_rg (th_fd hD hth r0 (g := GG_150) rfl (k := 1) (t := (2, 0, 0, [151])) rfl rfl)
  have g2 : v_iv (n_v vs 9) = w_fi ws (n_v vs 0) 11 := congrArg v_iv f2
  have hK_0_1 : ∀ j : Int, 0 ≤ j → j < 2000 → (-128) ≤ w_ei ws (w_ar ws (n_v vs 0) 1) j ∧ w_ei ws (w_ar ws (n_v vs 0) 1) j ≤ 127 := fun j h0 h1 => th_el hD hth cr_0_1 (kd := 1) (n := 2000) (m := 2000) (lo := (-128)) (hi := 127) (rs := []) (L := []) rfl (by decide) (j := j.toNat) (by omega)
  have kz_0_10 : 0 ≤ w_fi ws (n_v vs 0) 10 ∧ w_fi ws (n_v vs 0) 10 ≤ 2000 := tv_rng (th_fd hD hth r0 (g := GG_150) rfl (k := 10) (t := (0, 0, 2000, [])) rfl rfl)
  have kz_0_11 : 0 ≤ w_fi ws (n_v vs 0) 11 ∧ w_fi ws (n_v vs 0) 11 ≤ 2000 := tv_rng (th_fd hD hth r0 (g := GG_150) rfl (k := 11) (t := (0, 0, 2000, [])) rfl rfl)
  have kz_0_157 : 0 ≤ w_fi ws (n_v vs 0) 157 ∧ w_fi ws (n_v vs 0) 157 ≤ 2010 := tv_rng (th_fd hD hth r0 (g := GG_150) rfl (k := 157) (t := (0, 0, 2010, [])) rfl rfl)
  obtain ⟨x, ex, hx⟩ := iv_ex (ta := ta) (lo := 0) (hi := 4001) (z := 0 + (1 * v_iv (n_v vs 10) + 0)) (by omega) (by omega) (by omega) (by omega)
  have ex2 : v_iv (Value.int x) = 0 + (1 * v_iv (n_v vs 10) + 0) := ex
  have ex3 : 0 ≤ v_iv (Value.int x) ∧ v_iv (Value.int x) ≤ 4001 := tv_rng hx
  have e_0 : n_v (vs ++ [Value.int x]) 0 = n_v vs 0 := n_v_old (by rw [hl]; decide)
  have e_2 : n_v (vs ++ [Value.int x]) 2 = n_v vs 2 := n_v_old (by rw [hl]; decide)
  have e_6 : n_v (vs ++ [Value.int x]) 6 = n_v vs 6 := n_v_old (by rw [hl]; decide)
  have e_15 : n_v (vs ++ [Value.int x]) 15 = n_v vs 15 := n_v_old (by rw [hl]; decide)
  have e_16 : n_v (vs ++ [Value.int x]) 16 = Value.int x := n_v_new hl
  have nf0 : fc_1 (20, [2, 6, 15], [50, 2, 0, 157, 11, 2, 7, 0, 3, 2, 0, 157, 1, 1, 2, 7, 0, 2, 1, 1, 2, 0, 11, 3, 6, 1, 2, 1, 2, 0, 0, 3, 6, 1, 2, 1, 2, 0, 4, 0, 6, 4, 2, 1, 1, 0, 1, 2, 0, 11]) ws (vs ++ [Value.int x]) := by
    refine ⟨fun n hn => ?_, ?_⟩
    · have hn : n ∈ [2, 6, 15] := hn
      rw [List.length_append, hl]
      simp only [List.mem_cons, List.not_mem_nil, or_false] at hn
      show n < 16 + 1; omega
    · show (w_fi ws (n_v (vs ++ [Value.int x]) 2) 157 ≤ v_iv (n_v (vs ++ [Value.int x]) 6)) ∧ ((v_iv (n_v (vs ++ [Value.int x]) 6) ≤ w_fi ws (n_v (vs ++ [Value.int x]) 2) 11) ∧ ((v_iv (n_v (vs ++ [Value.int x]) 15) = 0) ∨ ((v_iv (n_v (vs ++ [Value.int x]) 15) = 4) ∨ ((v_iv (n_v (vs ++ [Value.int x]) 6) + 1) ≤ w_fi ws (n_v (vs ++ [Value.int x]) 2) 11))))
      rw [e_2]
      rw [e_6]
      rw [e_15]
      rw [q2]
      first | omega | grind
  have nf1 : fc_1 (20, [16, 6], [30, -4001, -1, 0, 0, -2, 0, 0]) ws (vs ++ [Value.int x]) := by
    refine ⟨fun n hn => ?_, ?_⟩
    · have hn : n ∈ [16, 6] := hn
      rw [List.length_append, hl]
      simp only [List.mem_cons, List.not_mem_nil, or_false] at hn
      show n < 16 + 1; omega
    · show (-1) * v_iv (n_v (vs ++ [Value.int x]) 16) + ((-2) * v_iv (n_v (vs ++ [Value.int x]) 6) + 0) ≤ (-4001)
      rw [e_6]
      rw [e_16]
      omega
  have nf2 : fc_1 (24, [0, 2], []) ws (vs ++ [Value.int x]) := by
    refine ⟨fun n hn => ?_, ?_⟩
    · have hn : n ∈ [0, 2] := hn
      rw [List.length_append, hl]
      simp only [List.mem_cons, List.not_mem_nil, or_false] at hn
      show n < 16 + 1; omega
    · show n_v (vs ++ [Value.int x]) 0 = n_v (vs ++ [Value.int x]) 2
      first | rfl | simp only [e_0, e_2, q2]
  obtain ⟨x0, e0, _, _⟩ := tv_int t10 rfl
  have e1 : v_iv (n_v vs 10) = x0.toInt := by rw [e0]; rfl
  have ho : sy_ofs (vs ++ [Value.int x]) (16, 10, 0, 0) := by
    refine ⟨x, x0, by rw [List.getElem?_append_right (by rw [hl]; decide), hl]; rfl, ?_, ?_, ?_⟩
    · rw [List.getElem?_append_left (by rw [hl]; decide)]; exact n_v_some (by rw [hl]; decide) e0
    · show x0.toInt + 0 ≤ x.toInt; omega
    · show x.toInt ≤ x0.toInt + 0; omega
  exact ⟨(fun _ h => (by cases h)), [Value.int x], ag_one hx, List.forall_mem_cons.mpr ⟨⟨show (20 : Nat) < 100 from by decide, nf0⟩, List.forall_mem_cons.mpr ⟨⟨show (20 : Nat) < 100 from by decide, nf1⟩, List.forall_mem_cons.mpr ⟨⟨show (24 : Nat) < 100 from by decide, nf2⟩, (fun _ h => (by cases h))⟩⟩⟩, List.forall_mem_cons.mpr ⟨ho, (fun _ h => (by cases h))⟩⟩
def o_Mo_styleTokens_25 : or_T := (363, 16, [(0, (2, 0, 0, [150])), (2, (2, 0, 0, [150])), (6, (0, 0, 1999, [])), (9, (0, 5, 1999, [])), (10, (0, 0, 4001, [])), (11, (0, 0, 47, [])), (13, (0, 5, 1999, [])), (14, (0, 4, 4, [])), (15, (0, 4, 4, []))], [(7, [13, 14], [4]), (2, [13, 9, 6], []), (9, [9, 2], [11]), (20, [9, 2, 11], [50, 1, 1, 1010, 1001, 4, 11, 0, 6, 4, 2, 1, 0, 0, 1, 2, 1, 10, 1, 2, 1, 2, 9, 5, 3, 1, 1, 1, 0, 0, 256]), (20, [2, 9, 11], [50, 1, 0, 10, 4, 7, 0, 3, 2, 0, 10, 1, 1, 1, 2, 1, 2, 0, -1]), (20, [2, 6], [50, 3, 1, 157, 11, 10, 1, 2, 7, 0, 3, 2, 0, 157, 1, 1, 2, 7, 0, 2, 1, 1, 2, 0, 11, 3, 11, 0, 6, 4, 2, 1, 1, 0, 1, 2, 0, 11, 2, 7, 1, 3, 2, 0, 11, 1, 1, 2, 11, 0, 6, 4, 2, 1, 1, 0, 1, 2, 0, 10, 2, 13, 0, 2, 0, 48, 9, 5, 3, 0, 1, 1, 1, 0, 256, 0, 9, 9, 5, 3, 0, 1, 1, 1, 0, 256, 0, 57]), (20, [10, 6], [30, -4001, -1, 0, 0, -2, 0, 0]), (24, [0, 2], [])], [], [(0, 0, 4001, [])], [(20, [2, 6, 15], [50, 2, 0, 157, 11, 2, 7, 0, 3, 2, 0, 157, 1, 1, 2, 7, 0, 2, 1, 1, 2, 0, 11, 3, 6, 1, 2, 1, 2, 0, 0, 3, 6, 1, 2, 1, 2, 0, 4, 0, 6, 4, 2, 1, 1, 0, 1, 2, 0, 11]), (20, [16, 6], [30, -4001, -1, 0, 0, -2, 0, 0]), (24, [0, 2], [])], [(16, 10, 0, 0)], [(13, 9, -1999, 0), (6, 9, -4294967296, 0)])
theorem oo_Mo_styleTokens_25 {kA : Nat → ClassId} : or_ok kA GG o_Mo_styleTokens_25 := by
  intro A ta ws vs hD hth hl hk hds hf
  have hl : vs.length = 16 := hl
  have hk : ∀ q ∈ ([(0, (2, 0, 0, [150])), (2, (2, 0, 0, [150])), (6, (0, 0, 1999, [])), (9, (0, 5, 1999, [])), (10, (0, 0, 4001, [])), (11, (0, 0, 47, [])), (13, (0, 5, 1999, [])), (14, (0, 4, 4, [])), (15, (0, 4, 4, []))] : List (Nat × tv_T)), tv_ok ta q.2 (n_v vs q.1) := hk
  obtain ⟨t0, hk⟩ := List.forall_mem_cons.mp hk
  have t0 : tv_ok ta (2, 0, 0, [150]) (n_v vs 0) := t0
  have r0 : ta (v_ad (n_v vs 0)) = some 150 := tv_rg t0
  obtain ⟨t2, hk⟩ := List.forall_mem_cons.mp hk
  have t2 : tv_ok ta (2, 0, 0, [150]) (n_v vs 2) := t2
  have r2 : ta (v_ad (n_v vs 2)) = some 150 := tv_rg t2
  obtain ⟨t6, hk⟩ := List.forall_mem_cons.mp hk
  have t6 : tv_ok ta (0, 0, 1999, []) (n_v vs 6) := t6
  have k6 : 0 ≤ v_iv (n_v vs 6) ∧ v_iv (n_v vs 6) ≤ 1999 := tv_rng t6
  obtain ⟨t9, hk⟩ := List.forall_mem_cons.mp hk
  have t9 : tv_ok ta (0, 5, 1999, []) (n_v vs 9) := t9
  have k9 : 5 ≤ v_iv (n_v vs 9) ∧ v_iv (n_v vs 9) ≤ 1999 := tv_rng t9
  obtain ⟨t10, hk⟩ := List.forall_mem_cons.mp hk
  have t10 : tv_ok ta (0, 0, 4001, []) (n_v vs 10) := t10
  have k10 : 0 ≤ v_iv (n_v vs 10) ∧ v_iv (n_v vs 10) ≤ 4001 := tv_rng t10
  obtain ⟨t11, hk⟩ := List.forall_mem_cons.mp hk
  have t11 : tv_ok ta (0, 0, 47, []) (n_v vs 11) := t11
  have k11 : 0 ≤ v_iv (n_v vs 11) ∧ v_iv (n_v vs 11) ≤ 47 := tv_rng t11
  obtain ⟨t13, hk⟩ := List.forall_mem_cons.mp hk
  have t13 : tv_ok ta (0, 5, 1999, []) (n_v vs 13) := t13
  have k13 : 5 ≤ v_iv (n_v vs 13) ∧ v_iv (n_v vs 13) ≤ 1999 := tv_rng t13
  obtain ⟨t14, hk⟩ := List.forall_mem_cons.mp hk
  have t14 : tv_ok ta (0, 4, 4, []) (n_v vs 14) := t14
  have k14 : 4 ≤ v_iv (n_v vs 14) ∧ v_iv (n_v vs 14) ≤ 4 := tv_rng t14
  obtain ⟨t15, hk⟩ := List.forall_mem_cons.mp hk
  have t15 : tv_ok ta (0, 4, 4, []) (n_v vs 15) := t15
  have k15 : 4 ≤ v_iv (n_v vs 15) ∧ v_iv (n_v vs 15) ≤ 4 := tv_rng t15
  have hds : ∀ q ∈ ([(13, 9, -1999, 0), (6, 9, -4294967296, 0)] : List of_T), n_iv vs q.2.1 + q.2.2.1 ≤ n_iv vs q.1 ∧ n_iv vs q.1 ≤ n_iv vs q.2.1 + q.2.2.2 := hds
  obtain ⟨d0, hds⟩ := List.forall_mem_cons.mp hds
  have d0 : v_iv (n_v vs 9) + (-1999) ≤ v_iv (n_v vs 13) ∧ v_iv (n_v vs 13) ≤ v_iv (n_v vs 9) + 0 := d0
  obtain ⟨d1, hds⟩ := List.forall_mem_cons.mp hds
  have d1 : v_iv (n_v vs 9) + (-4294967296) ≤ v_iv (n_v vs 6) ∧ v_iv (n_v vs 6) ≤ v_iv (n_v vs 9) + 0 := d1
  have hf : fc_ok [(7, [13, 14], [4]), (2, [13, 9, 6], []), (9, [9, 2], [11]), (20, [9, 2, 11], [50, 1, 1, 1010, 1001, 4, 11, 0, 6, 4, 2, 1, 0, 0, 1, 2, 1, 10, 1, 2, 1, 2, 9, 5, 3, 1, 1, 1, 0, 0, 256]), (20, [2, 9, 11], [50, 1, 0, 10, 4, 7, 0, 3, 2, 0, 10, 1, 1, 1, 2, 1, 2, 0, -1]), (20, [2, 6], [50, 3, 1, 157, 11, 10, 1, 2, 7, 0, 3, 2, 0, 157, 1, 1, 2, 7, 0, 2, 1, 1, 2, 0, 11, 3, 11, 0, 6, 4, 2, 1, 1, 0, 1, 2, 0, 11, 2, 7, 1, 3, 2, 0, 11, 1, 1, 2, 11, 0, 6, 4, 2, 1, 1, 0, 1, 2, 0, 10, 2, 13, 0, 2, 0, 48, 9, 5, 3, 0, 1, 1, 1, 0, 256, 0, 9, 9, 5, 3, 0, 1, 1, 1, 0, 256, 0, 57]), (20, [10, 6], [30, -4001, -1, 0, 0, -2, 0, 0]), (24, [0, 2], [])] ta ws vs := hf
  obtain ⟨f0, hf⟩ := fc_un (show (7 : Nat) < 100 from by decide) hf
  have f0 : v_iv (n_v vs 14) < v_iv (n_v vs 13) := f0
  obtain ⟨f1, hf⟩ := fc_un (show (2 : Nat) < 100 from by decide) hf
  have f1 : v_iv (n_v vs 13) = v_iv (n_v vs 9) - v_iv (n_v vs 6) := f1
  obtain ⟨f2, hf⟩ := fc_un (show (9 : Nat) < 100 from by decide) hf
  have f2 : n_v vs 9 = w_fd ws (v_ad (n_v vs 2)) 11 := f2
  obtain ⟨f3, hf⟩ := fc_un (show (20 : Nat) < 100 from by decide) hf
  have f3 : ((v_iv (n_v vs 9) + 1) ≤ w_fi ws (n_v vs 2) 10) → (v_iv (n_v vs 11) = (w_ei ws (w_ar ws (n_v vs 2) 1) (v_iv (n_v vs 9)) % 256)) := f3
  obtain ⟨f4, hf⟩ := fc_un (show (20 : Nat) < 100 from by decide) hf
  have f4 : (w_fi ws (n_v vs 2) 10 ≤ v_iv (n_v vs 9)) → (v_iv (n_v vs 11) = (-1)) := f4
  obtain ⟨f5, hf⟩ := fc_un (show (20 : Nat) < 100 from by decide) hf
  have f5 : (w_fi ws (n_v vs 2) 157 ≤ v_iv (n_v vs 6)) ∧ ((v_iv (n_v vs 6) ≤ w_fi ws (n_v vs 2) 11) ∧ (((v_iv (n_v vs 6) + 1) ≤ w_fi ws (n_v vs 2) 11) ∨ ((w_fi ws (n_v vs 2) 11 = v_iv (n_v vs 6)) ∧ (((v_iv (n_v vs 6) + 1) ≤ w_fi ws (n_v vs 2) 10) ∧ ((48 ≤ (w_ei ws (w_ar ws (n_v vs 2) 1) (v_iv (n_v vs 6)) % 256)) ∧ ((w_ei ws (w_ar ws (n_v vs 2) 1) (v_iv (n_v vs 6)) % 256) ≤ 57)))))) := f5
  obtain ⟨f6, hf⟩ := fc_un (show (20 : Nat) < 100 from by decide) hf
  have f6 : (-1) * v_iv (n_v vs 10) + ((-2) * v_iv (n_v vs 6) + 0) ≤ (-4001) := f6
  obtain ⟨f7, hf⟩ := fc_un (show (24 : Nat) < 100 from by decide) hf
  have f7 : n_v vs 0 = n_v vs 2 := f7
  have q2 : n_v vs 2 = n_v vs 0 := f7.symm
  rw [q2] at f2
  rw [q2] at f3
  rw [q2] at f4
  rw [q2] at f5
  have cr_0_1 : ta (w_ar ws (n_v vs 0) 1) = some 151 := tv_rg (th_fd hD hth r0 (g := GG_150) rfl (k := 1) (t := (2, 0, 0, [151])) rfl rfl)
  have g2 : v_iv (n_v vs 9) = w_fi ws (n_v vs 0) 11 := congrArg v_iv f2
  have hK_0_1 : ∀ j : Int, 0 ≤ j → j < 2000 → (-128) ≤ w_ei ws (w_ar ws (n_v vs 0) 1) j ∧ w_ei ws (w_ar ws (n_v vs 0) 1) j ≤ 127 := fun j h0 h1 => th_el hD hth cr_0_1 (kd := 1) (n := 2000) (m := 2000) (lo := (-128)) (hi := 127) (rs := []) (L := []) rfl (by decide) (j := j.toNat) (by omega)
  have kz_0_10 : 0 ≤ w_fi ws (n_v vs 0) 10 ∧ w_fi ws (n_v vs 0) 10 ≤ 2000 := tv_rng (th_fd hD hth r0 (g := GG_150) rfl (k := 10) (t := (0, 0, 2000, [])) rfl rfl)
  have kz_0_11 : 0 ≤ w_fi ws (n_v vs 0) 11 ∧ w_fi ws (n_v vs 0) 11 ≤ 2000 := tv_rng (th_fd hD hth r0 (g := GG_150) rfl (k := 11) (t := (0, 0, 2000, [])) rfl rfl)
  have kz_0_157 : 0 ≤ w_fi ws (n_v vs 0) 157 ∧ w_fi ws (n_v vs 0) 157 ≤ 2010 := tv_rng (th_fd hD hth r0 (g := GG_150) rfl (k := 157) (t := (0, 0, 2010, [])) rfl rfl)
  obtain ⟨x, ex, hx⟩ := iv_ex (ta := ta) (lo := 0) (hi := 4001) (z := 0 + (1 * v_iv (n_v vs 10) + 0)) (by omega) (by omega) (by omega) (by omega)
  have ex2 : v_iv (Value.int x) = 0 + (1 * v_iv (n_v vs 10) + 0) := ex
  have ex3 : 0 ≤ v_iv (Value.int x) ∧ v_iv (Value.int x) ≤ 4001 := tv_rng hx
  have e_0 : n_v (vs ++ [Value.int x]) 0 = n_v vs 0 := n_v_old (by rw [hl]; decide)
  have e_2 : n_v (vs ++ [Value.int x]) 2 = n_v vs 2 := n_v_old (by rw [hl]; decide)
  have e_6 : n_v (vs ++ [Value.int x]) 6 = n_v vs 6 := n_v_old (by rw [hl]; decide)
  have e_15 : n_v (vs ++ [Value.int x]) 15 = n_v vs 15 := n_v_old (by rw [hl]; decide)
  have e_16 : n_v (vs ++ [Value.int x]) 16 = Value.int x := n_v_new hl
  have nf0 : fc_1 (20, [2, 6, 15], [50, 2, 0, 157, 11, 2, 7, 0, 3, 2, 0, 157, 1, 1, 2, 7, 0, 2, 1, 1, 2, 0, 11, 3, 6, 1, 2, 1, 2, 0, 0, 3, 6, 1, 2, 1, 2, 0, 4, 0, 6, 4, 2, 1, 1, 0, 1, 2, 0, 11]) ws (vs ++ [Value.int x]) := by
    refine ⟨fun n hn => ?_, ?_⟩
    · have hn : n ∈ [2, 6, 15] := hn
      rw [List.length_append, hl]
      simp only [List.mem_cons, List.not_mem_nil, or_false] at hn
      show n < 16 + 1; omega
    · show (w_fi ws (n_v (vs ++ [Value.int x]) 2) 157 ≤ v_iv (n_v (vs ++ [Value.int x]) 6)) ∧ ((v_iv (n_v (vs ++ [Value.int x]) 6) ≤ w_fi ws (n_v (vs ++ [Value.int x]) 2) 11) ∧ ((v_iv (n_v (vs ++ [Value.int x]) 15) = 0) ∨ ((v_iv (n_v (vs ++ [Value.int x]) 15) = 4) ∨ ((v_iv (n_v (vs ++ [Value.int x]) 6) + 1) ≤ w_fi ws (n_v (vs ++ [Value.int x]) 2) 11))))
      rw [e_2]
      rw [e_6]
      rw [e_15]
      rw [q2]
      first | omega | grind
  have nf1 : fc_1 (20, [16, 6], [30, -4001, -1, 0, 0, -2, 0, 0]) ws (vs ++ [Value.int x]) := by
    refine ⟨fun n hn => ?_, ?_⟩
    · have hn : n ∈ [16, 6] := hn
      rw [List.length_append, hl]
      simp only [List.mem_cons, List.not_mem_nil, or_false] at hn
      show n < 16 + 1; omega
    · show (-1) * v_iv (n_v (vs ++ [Value.int x]) 16) + ((-2) * v_iv (n_v (vs ++ [Value.int x]) 6) + 0) ≤ (-4001)
      rw [e_6]
      rw [e_16]
      omega
  have nf2 : fc_1 (24, [0, 2], []) ws (vs ++ [Value.int x]) := by
    refine ⟨fun n hn => ?_, ?_⟩
    · have hn : n ∈ [0, 2] := hn
      rw [List.length_append, hl]
      simp only [List.mem_cons, List.not_mem_nil, or_false] at hn
      show n < 16 + 1; omega
    · show n_v (vs ++ [Value.int x]) 0 = n_v (vs ++ [Value.int x]) 2
      first | rfl | simp only [e_0, e_2, q2]
  obtain ⟨x0, e0, _, _⟩ := tv_int t10 rfl
  have e1 : v_iv (n_v vs 10) = x0.toInt := by rw [e0]; rfl
  have ho : sy_ofs (vs ++ [Value.int x]) (16, 10, 0, 0) := by
    refine ⟨x, x0, by rw [List.getElem?_append_right (by rw [hl]; decide), hl]; rfl, ?_, ?_, ?_⟩
    · rw [List.getElem?_append_left (by rw [hl]; decide)]; exact n_v_some (by rw [hl]; decide) e0
    · show x0.toInt + 0 ≤ x.toInt; omega
    · show x.toInt ≤ x0.toInt + 0; omega
  exact ⟨(fun _ h => (by cases h)), [Value.int x], ag_one hx, List.forall_mem_cons.mpr ⟨⟨show (20 : Nat) < 100 from by decide, nf0⟩, List.forall_mem_cons.mpr ⟨⟨show (20 : Nat) < 100 from by decide, nf1⟩, List.forall_mem_cons.mpr ⟨⟨show (24 : Nat) < 100 from by decide, nf2⟩, (fun _ h => (by cases h))⟩⟩⟩, List.forall_mem_cons.mpr ⟨ho, (fun _ h => (by cases h))⟩⟩
def o_Mo_styleTokens_26 : or_T := (363, 16, [(0, (2, 0, 0, [150])), (2, (2, 0, 0, [150])), (6, (0, 0, 1999, [])), (9, (0, 0, 1999, [])), (10, (0, 0, 4001, [])), (11, (0, 0, 47, [])), (13, (0, 0, 4, [])), (14, (0, 4, 4, [])), (15, (0, 2, 2, []))], [(7, [13, 14], [5]), (2, [13, 9, 6], []), (9, [9, 2], [11]), (20, [9, 2, 11], [50, 1, 1, 1010, 1001, 4, 11, 0, 6, 4, 2, 1, 0, 0, 1, 2, 1, 10, 1, 2, 1, 2, 9, 5, 3, 1, 1, 1, 0, 0, 256]), (20, [2, 9, 11], [50, 1, 0, 10, 4, 7, 0, 3, 2, 0, 10, 1, 1, 1, 2, 1, 2, 0, -1]), (20, [2, 6], [50, 3, 1, 157, 11, 10, 1, 2, 7, 0, 3, 2, 0, 157, 1, 1, 2, 7, 0, 2, 1, 1, 2, 0, 11, 3, 11, 0, 6, 4, 2, 1, 1, 0, 1, 2, 0, 11, 2, 7, 1, 3, 2, 0, 11, 1, 1, 2, 11, 0, 6, 4, 2, 1, 1, 0, 1, 2, 0, 10, 2, 13, 0, 2, 0, 48, 9, 5, 3, 0, 1, 1, 1, 0, 256, 0, 9, 9, 5, 3, 0, 1, 1, 1, 0, 256, 0, 57]), (20, [10, 6], [30, -4001, -1, 0, 0, -2, 0, 0]), (24, [0, 2], [])], [], [(0, 0, 4001, [])], [(20, [2, 6, 15], [50, 2, 0, 157, 11, 2, 7, 0, 3, 2, 0, 157, 1, 1, 2, 7, 0, 2, 1, 1, 2, 0, 11, 3, 6, 1, 2, 1, 2, 0, 0, 3, 6, 1, 2, 1, 2, 0, 4, 0, 6, 4, 2, 1, 1, 0, 1, 2, 0, 11]), (20, [16, 6], [30, -4001, -1, 0, 0, -2, 0, 0]), (24, [0, 2], [])], [(16, 10, 0, 0)], [(13, 9, -1999, 0), (6, 9, -4294967296, 0)])
theorem oo_Mo_styleTokens_26 {kA : Nat → ClassId} : or_ok kA GG o_Mo_styleTokens_26 := by
  intro A ta ws vs hD hth hl hk hds hf
  have hl : vs.length = 16 := hl
  have hk : ∀ q ∈ ([(0, (2, 0, 0, [150])), (2, (2, 0, 0, [150])), (6, (0, 0, 1999, [])), (9, (0, 0, 1999, [])), (10, (0, 0, 4001, [])), (11, (0, 0, 47, [])), (13, (0, 0, 4, [])), (14, (0, 4, 4, [])), (15, (0, 2, 2, []))] : List (Nat × tv_T)), tv_ok ta q.2 (n_v vs q.1) := hk
  obtain ⟨t0, hk⟩ := List.forall_mem_cons.mp hk
  have t0 : tv_ok ta (2, 0, 0, [150]) (n_v vs 0) := t0
  have r0 : ta (v_ad (n_v vs 0)) = some 150 := tv_rg t0
  obtain ⟨t2, hk⟩ := List.forall_mem_cons.mp hk
  have t2 : tv_ok ta (2, 0, 0, [150]) (n_v vs 2) := t2
  have r2 : ta (v_ad (n_v vs 2)) = some 150 := tv_rg t2
  obtain ⟨t6, hk⟩ := List.forall_mem_cons.mp hk
  have t6 : tv_ok ta (0, 0, 1999, []) (n_v vs 6) := t6
  have k6 : 0 ≤ v_iv (n_v vs 6) ∧ v_iv (n_v vs 6) ≤ 1999 := tv_rng t6
  obtain ⟨t9, hk⟩ := List.forall_mem_cons.mp hk
  have t9 : tv_ok ta (0, 0, 1999, []) (n_v vs 9) := t9
  have k9 : 0 ≤ v_iv (n_v vs 9) ∧ v_iv (n_v vs 9) ≤ 1999 := tv_rng t9
  obtain ⟨t10, hk⟩ := List.forall_mem_cons.mp hk
  have t10 : tv_ok ta (0, 0, 4001, []) (n_v vs 10) := t10
  have k10 : 0 ≤ v_iv (n_v vs 10) ∧ v_iv (n_v vs 10) ≤ 4001 := tv_rng t10
  obtain ⟨t11, hk⟩ := List.forall_mem_cons.mp hk
  have t11 : tv_ok ta (0, 0, 47, []) (n_v vs 11) := t11
  have k11 : 0 ≤ v_iv (n_v vs 11) ∧ v_iv (n_v vs 11) ≤ 47 := tv_rng t11
  obtain ⟨t13, hk⟩ := List.forall_mem_cons.mp hk
  have t13 : tv_ok ta (0, 0, 4, []) (n_v vs 13) := t13
  have k13 : 0 ≤ v_iv (n_v vs 13) ∧ v_iv (n_v vs 13) ≤ 4 := tv_rng t13
  obtain ⟨t14, hk⟩ := List.forall_mem_cons.mp hk
  have t14 : tv_ok ta (0, 4, 4, []) (n_v vs 14) := t14
  have k14 : 4 ≤ v_iv (n_v vs 14) ∧ v_iv (n_v vs 14) ≤ 4 := tv_rng t14
  obtain ⟨t15, hk⟩ := List.forall_mem_cons.mp hk
  have t15 : tv_ok ta (0, 2, 2, []) (n_v vs 15) := t15
  have k15 : 2 ≤ v_iv (n_v vs 15) ∧ v_iv (n_v vs 15) ≤ 2 := tv_rng t15
  have hds : ∀ q ∈ ([(13, 9, -1999, 0), (6, 9, -4294967296, 0)] : List of_T), n_iv vs q.2.1 + q.2.2.1 ≤ n_iv vs q.1 ∧ n_iv vs q.1 ≤ n_iv vs q.2.1 + q.2.2.2 := hds
  obtain ⟨d0, hds⟩ := List.forall_mem_cons.mp hds
  have d0 : v_iv (n_v vs 9) + (-1999) ≤ v_iv (n_v vs 13) ∧ v_iv (n_v vs 13) ≤ v_iv (n_v vs 9) + 0 := d0
  obtain ⟨d1, hds⟩ := List.forall_mem_cons.mp hds
  have d1 : v_iv (n_v vs 9) + (-4294967296) ≤ v_iv (n_v vs 6) ∧ v_iv (n_v vs 6) ≤ v_iv (n_v vs 9) + 0 := d1
  have hf : fc_ok [(7, [13, 14], [5]), (2, [13, 9, 6], []), (9, [9, 2], [11]), (20, [9, 2, 11], [50, 1, 1, 1010, 1001, 4, 11, 0, 6, 4, 2, 1, 0, 0, 1, 2, 1, 10, 1, 2, 1, 2, 9, 5, 3, 1, 1, 1, 0, 0, 256]), (20, [2, 9, 11], [50, 1, 0, 10, 4, 7, 0, 3, 2, 0, 10, 1, 1, 1, 2, 1, 2, 0, -1]), (20, [2, 6], [50, 3, 1, 157, 11, 10, 1, 2, 7, 0, 3, 2, 0, 157, 1, 1, 2, 7, 0, 2, 1, 1, 2, 0, 11, 3, 11, 0, 6, 4, 2, 1, 1, 0, 1, 2, 0, 11, 2, 7, 1, 3, 2, 0, 11, 1, 1, 2, 11, 0, 6, 4, 2, 1, 1, 0, 1, 2, 0, 10, 2, 13, 0, 2, 0, 48, 9, 5, 3, 0, 1, 1, 1, 0, 256, 0, 9, 9, 5, 3, 0, 1, 1, 1, 0, 256, 0, 57]), (20, [10, 6], [30, -4001, -1, 0, 0, -2, 0, 0]), (24, [0, 2], [])] ta ws vs := hf
  obtain ⟨f0, hf⟩ := fc_un (show (7 : Nat) < 100 from by decide) hf
  have f0 : v_iv (n_v vs 13) ≤ v_iv (n_v vs 14) := f0
  obtain ⟨f1, hf⟩ := fc_un (show (2 : Nat) < 100 from by decide) hf
  have f1 : v_iv (n_v vs 13) = v_iv (n_v vs 9) - v_iv (n_v vs 6) := f1
  obtain ⟨f2, hf⟩ := fc_un (show (9 : Nat) < 100 from by decide) hf
  have f2 : n_v vs 9 = w_fd ws (v_ad (n_v vs 2)) 11 := f2
  obtain ⟨f3, hf⟩ := fc_un (show (20 : Nat) < 100 from by decide) hf
  have f3 : ((v_iv (n_v vs 9) + 1) ≤ w_fi ws (n_v vs 2) 10) → (v_iv (n_v vs 11) = (w_ei ws (w_ar ws (n_v vs 2) 1) (v_iv (n_v vs 9)) % 256)) := f3
  obtain ⟨f4, hf⟩ := fc_un (show (20 : Nat) < 100 from by decide) hf
  have f4 : (w_fi ws (n_v vs 2) 10 ≤ v_iv (n_v vs 9)) → (v_iv (n_v vs 11) = (-1)) := f4
  obtain ⟨f5, hf⟩ := fc_un (show (20 : Nat) < 100 from by decide) hf
  have f5 : (w_fi ws (n_v vs 2) 157 ≤ v_iv (n_v vs 6)) ∧ ((v_iv (n_v vs 6) ≤ w_fi ws (n_v vs 2) 11) ∧ (((v_iv (n_v vs 6) + 1) ≤ w_fi ws (n_v vs 2) 11) ∨ ((w_fi ws (n_v vs 2) 11 = v_iv (n_v vs 6)) ∧ (((v_iv (n_v vs 6) + 1) ≤ w_fi ws (n_v vs 2) 10) ∧ ((48 ≤ (w_ei ws (w_ar ws (n_v vs 2) 1) (v_iv (n_v vs 6)) % 256)) ∧ ((w_ei ws (w_ar ws (n_v vs 2) 1) (v_iv (n_v vs 6)) % 256) ≤ 57)))))) := f5
  obtain ⟨f6, hf⟩ := fc_un (show (20 : Nat) < 100 from by decide) hf
  have f6 : (-1) * v_iv (n_v vs 10) + ((-2) * v_iv (n_v vs 6) + 0) ≤ (-4001) := f6
  obtain ⟨f7, hf⟩ := fc_un (show (24 : Nat) < 100 from by decide) hf
  have f7 : n_v vs 0 = n_v vs 2 := f7
  have q2 : n_v vs 2 = n_v vs 0 := f7.symm
  rw [q2] at f2
  rw [q2] at f3
  rw [q2] at f4
  rw [q2] at f5
  have cr_0_1 : ta (w_ar ws (n_v vs 0) 1) = some 151 := tv_rg (th_fd hD hth r0 (g := GG_150) rfl (k := 1) (t := (2, 0, 0, [151])) rfl rfl)
  have g2 : v_iv (n_v vs 9) = w_fi ws (n_v vs 0) 11 := congrArg v_iv f2
  have hK_0_1 : ∀ j : Int, 0 ≤ j → j < 2000 → (-128) ≤ w_ei ws (w_ar ws (n_v vs 0) 1) j ∧ w_ei ws (w_ar ws (n_v vs 0) 1) j ≤ 127 := fun j h0 h1 => th_el hD hth cr_0_1 (kd := 1) (n := 2000) (m := 2000) (lo := (-128)) (hi := 127) (rs := []) (L := []) rfl (by decide) (j := j.toNat) (by omega)
  have kz_0_10 : 0 ≤ w_fi ws (n_v vs 0) 10 ∧ w_fi ws (n_v vs 0) 10 ≤ 2000 := tv_rng (th_fd hD hth r0 (g := GG_150) rfl (k := 10) (t := (0, 0, 2000, [])) rfl rfl)
  have kz_0_11 : 0 ≤ w_fi ws (n_v vs 0) 11 ∧ w_fi ws (n_v vs 0) 11 ≤ 2000 := tv_rng (th_fd hD hth r0 (g := GG_150) rfl (k := 11) (t := (0, 0, 2000, [])) rfl rfl)
  have kz_0_157 : 0 ≤ w_fi ws (n_v vs 0) 157 ∧ w_fi ws (n_v vs 0) 157 ≤ 2010 := tv_rng (th_fd hD hth r0 (g := GG_150) rfl (k := 157) (t := (0, 0, 2010, [])) rfl rfl)
  obtain ⟨x, ex, hx⟩ := iv_ex (ta := ta) (lo := 0) (hi := 4001) (z := 0 + (1 * v_iv (n_v vs 10) + 0)) (by omega) (by omega) (by omega) (by omega)
  have ex2 : v_iv (Value.int x) = 0 + (1 * v_iv (n_v vs 10) + 0) := ex
  have ex3 : 0 ≤ v_iv (Value.int x) ∧ v_iv (Value.int x) ≤ 4001 := tv_rng hx
  have e_0 : n_v (vs ++ [Value.int x]) 0 = n_v vs 0 := n_v_old (by rw [hl]; decide)
  have e_2 : n_v (vs ++ [Value.int x]) 2 = n_v vs 2 := n_v_old (by rw [hl]; decide)
  have e_6 : n_v (vs ++ [Value.int x]) 6 = n_v vs 6 := n_v_old (by rw [hl]; decide)
  have e_15 : n_v (vs ++ [Value.int x]) 15 = n_v vs 15 := n_v_old (by rw [hl]; decide)
  have e_16 : n_v (vs ++ [Value.int x]) 16 = Value.int x := n_v_new hl
  have nf0 : fc_1 (20, [2, 6, 15], [50, 2, 0, 157, 11, 2, 7, 0, 3, 2, 0, 157, 1, 1, 2, 7, 0, 2, 1, 1, 2, 0, 11, 3, 6, 1, 2, 1, 2, 0, 0, 3, 6, 1, 2, 1, 2, 0, 4, 0, 6, 4, 2, 1, 1, 0, 1, 2, 0, 11]) ws (vs ++ [Value.int x]) := by
    refine ⟨fun n hn => ?_, ?_⟩
    · have hn : n ∈ [2, 6, 15] := hn
      rw [List.length_append, hl]
      simp only [List.mem_cons, List.not_mem_nil, or_false] at hn
      show n < 16 + 1; omega
    · show (w_fi ws (n_v (vs ++ [Value.int x]) 2) 157 ≤ v_iv (n_v (vs ++ [Value.int x]) 6)) ∧ ((v_iv (n_v (vs ++ [Value.int x]) 6) ≤ w_fi ws (n_v (vs ++ [Value.int x]) 2) 11) ∧ ((v_iv (n_v (vs ++ [Value.int x]) 15) = 0) ∨ ((v_iv (n_v (vs ++ [Value.int x]) 15) = 4) ∨ ((v_iv (n_v (vs ++ [Value.int x]) 6) + 1) ≤ w_fi ws (n_v (vs ++ [Value.int x]) 2) 11))))
      rw [e_2]
      rw [e_6]
      rw [e_15]
      rw [q2]
      first | omega | grind
  have nf1 : fc_1 (20, [16, 6], [30, -4001, -1, 0, 0, -2, 0, 0]) ws (vs ++ [Value.int x]) := by
    refine ⟨fun n hn => ?_, ?_⟩
    · have hn : n ∈ [16, 6] := hn
      rw [List.length_append, hl]
      simp only [List.mem_cons, List.not_mem_nil, or_false] at hn
      show n < 16 + 1; omega
    · show (-1) * v_iv (n_v (vs ++ [Value.int x]) 16) + ((-2) * v_iv (n_v (vs ++ [Value.int x]) 6) + 0) ≤ (-4001)
      rw [e_6]
      rw [e_16]
      omega
  have nf2 : fc_1 (24, [0, 2], []) ws (vs ++ [Value.int x]) := by
    refine ⟨fun n hn => ?_, ?_⟩
    · have hn : n ∈ [0, 2] := hn
      rw [List.length_append, hl]
      simp only [List.mem_cons, List.not_mem_nil, or_false] at hn
      show n < 16 + 1; omega
    · show n_v (vs ++ [Value.int x]) 0 = n_v (vs ++ [Value.int x]) 2
      first | rfl | simp only [e_0, e_2, q2]
  obtain ⟨x0, e0, _, _⟩ := tv_int t10 rfl
  have e1 : v_iv (n_v vs 10) = x0.toInt := by rw [e0]; rfl
  have ho : sy_ofs (vs ++ [Value.int x]) (16, 10, 0, 0) := by
    refine ⟨x, x0, by rw [List.getElem?_append_right (by rw [hl]; decide), hl]; rfl, ?_, ?_, ?_⟩
    · rw [List.getElem?_append_left (by rw [hl]; decide)]; exact n_v_some (by rw [hl]; decide) e0
    · show x0.toInt + 0 ≤ x.toInt; omega
    · show x.toInt ≤ x0.toInt + 0; omega
  exact ⟨(fun _ h => (by cases h)), [Value.int x], ag_one hx, List.forall_mem_cons.mpr ⟨⟨show (20 : Nat) < 100 from by decide, nf0⟩, List.forall_mem_cons.mpr ⟨⟨show (20 : Nat) < 100 from by decide, nf1⟩, List.forall_mem_cons.mpr ⟨⟨show (24 : Nat) < 100 from by decide, nf2⟩, (fun _ h => (by cases h))⟩⟩⟩, List.forall_mem_cons.mpr ⟨ho, (fun _ h => (by cases h))⟩⟩
def o_Mo_styleTokens_27 : or_T := (363, 16, [(0, (2, 0, 0, [150])), (2, (2, 0, 0, [150])), (6, (0, 0, 1999, [])), (9, (0, 5, 1999, [])), (10, (0, 0, 4001, [])), (11, (0, 58, 255, [])), (13, (0, 5, 1999, [])), (14, (0, 4, 4, [])), (15, (0, 4, 4, []))], [(7, [13, 14], [4]), (2, [13, 9, 6], []), (9, [9, 2], [11]), (20, [9, 2, 11], [50, 1, 1, 1010, 1001, 4, 11, 0, 6, 4, 2, 1, 0, 0, 1, 2, 1, 10, 1, 2, 1, 2, 9, 5, 3, 1, 1, 1, 0, 0, 256]), (20, [2, 9, 11], [50, 1, 0, 10, 4, 7, 0, 3, 2, 0, 10, 1, 1, 1, 2, 1, 2, 0, -1]), (20, [2, 6], [50, 3, 1, 157, 11, 10, 1, 2, 7, 0, 3, 2, 0, 157, 1, 1, 2, 7, 0, 2, 1, 1, 2, 0, 11, 3, 11, 0, 6, 4, 2, 1, 1, 0, 1, 2, 0, 11, 2, 7, 1, 3, 2, 0, 11, 1, 1, 2, 11, 0, 6, 4, 2, 1, 1, 0, 1, 2, 0, 10, 2, 13, 0, 2, 0, 48, 9, 5, 3, 0, 1, 1, 1, 0, 256, 0, 9, 9, 5, 3, 0, 1, 1, 1, 0, 256, 0, 57]), (20, [10, 6], [30, -4001, -1, 0, 0, -2, 0, 0]), (24, [0, 2], [])], [], [(0, 0, 4001, [])], [(20, [2, 6, 15], [50, 2, 0, 157, 11, 2, 7, 0, 3, 2, 0, 157, 1, 1, 2, 7, 0, 2, 1, 1, 2, 0, 11, 3, 6, 1, 2, 1, 2, 0, 0, 3, 6, 1, 2, 1, 2, 0, 4, 0, 6, 4, 2, 1, 1, 0, 1, 2, 0, 11]), (20, [16, 6], [30, -4001, -1, 0, 0, -2, 0, 0]), (24, [0, 2], [])], [(16, 10, 0, 0)], [(13, 9, -1999, 0), (6, 9, -4294967296, 0)])
theorem oo_Mo_styleTokens_27 {kA : Nat → ClassId} : or_ok kA GG o_Mo_styleTokens_27 := by
  intro A ta ws vs hD hth hl hk hds hf
  have hl : vs.length = 16 := hl
  have hk : ∀ q ∈ ([(0, (2, 0, 0, [150])), (2, (2, 0, 0, [150])), (6, (0, 0, 1999, [])), (9, (0, 5, 1999, [])), (10, (0, 0, 4001, [])), (11, (0, 58, 255, [])), (13, (0, 5, 1999, [])), (14, (0, 4, 4, [])), (15, (0, 4, 4, []))] : List (Nat × tv_T)), tv_ok ta q.2 (n_v vs q.1) := hk
  obtain ⟨t0, hk⟩ := List.forall_mem_cons.mp hk
  have t0 : tv_ok ta (2, 0, 0, [150]) (n_v vs 0) := t0
  have r0 : ta (v_ad (n_v vs 0)) = some 150 := tv_rg t0
  obtain ⟨t2, hk⟩ := List.forall_mem_cons.mp hk
  have t2 : tv_ok ta (2, 0, 0, [150]) (n_v vs 2) := t2
  have r2 : ta (v_ad (n_v vs 2)) = some 150 := tv_rg t2
  obtain ⟨t6, hk⟩ := List.forall_mem_cons.mp hk
  have t6 : tv_ok ta (0, 0, 1999, []) (n_v vs 6) := t6
  have k6 : 0 ≤ v_iv (n_v vs 6) ∧ v_iv (n_v vs 6) ≤ 1999 := tv_rng t6
  obtain ⟨t9, hk⟩ := List.forall_mem_cons.mp hk
  have t9 : tv_ok ta (0, 5, 1999, []) (n_v vs 9) := t9
  have k9 : 5 ≤ v_iv (n_v vs 9) ∧ v_iv (n_v vs 9) ≤ 1999 := tv_rng t9
  obtain ⟨t10, hk⟩ := List.forall_mem_cons.mp hk
  have t10 : tv_ok ta (0, 0, 4001, []) (n_v vs 10) := t10
  have k10 : 0 ≤ v_iv (n_v vs 10) ∧ v_iv (n_v vs 10) ≤ 4001 := tv_rng t10
  obtain ⟨t11, hk⟩ := List.forall_mem_cons.mp hk
  have t11 : tv_ok ta (0, 58, 255, []) (n_v vs 11) := t11
  have k11 : 58 ≤ v_iv (n_v vs 11) ∧ v_iv (n_v vs 11) ≤ 255 := tv_rng t11
  obtain ⟨t13, hk⟩ := List.forall_mem_cons.mp hk
  have t13 : tv_ok ta (0, 5, 1999, []) (n_v vs 13) := t13
  have k13 : 5 ≤ v_iv (n_v vs 13) ∧ v_iv (n_v vs 13) ≤ 1999 := tv_rng t13
  obtain ⟨t14, hk⟩ := List.forall_mem_cons.mp hk
  have t14 : tv_ok ta (0, 4, 4, []) (n_v vs 14) := t14
  have k14 : 4 ≤ v_iv (n_v vs 14) ∧ v_iv (n_v vs 14) ≤ 4 := tv_rng t14
  obtain ⟨t15, hk⟩ := List.forall_mem_cons.mp hk
  have t15 : tv_ok ta (0, 4, 4, []) (n_v vs 15) := t15
  have k15 : 4 ≤ v_iv (n_v vs 15) ∧ v_iv (n_v vs 15) ≤ 4 := tv_rng t15
  have hds : ∀ q ∈ ([(13, 9, -1999, 0), (6, 9, -4294967296, 0)] : List of_T), n_iv vs q.2.1 + q.2.2.1 ≤ n_iv vs q.1 ∧ n_iv vs q.1 ≤ n_iv vs q.2.1 + q.2.2.2 := hds
  obtain ⟨d0, hds⟩ := List.forall_mem_cons.mp hds
  have d0 : v_iv (n_v vs 9) + (-1999) ≤ v_iv (n_v vs 13) ∧ v_iv (n_v vs 13) ≤ v_iv (n_v vs 9) + 0 := d0
  obtain ⟨d1, hds⟩ := List.forall_mem_cons.mp hds
  have d1 : v_iv (n_v vs 9) + (-4294967296) ≤ v_iv (n_v vs 6) ∧ v_iv (n_v vs 6) ≤ v_iv (n_v vs 9) + 0 := d1
  have hf : fc_ok [(7, [13, 14], [4]), (2, [13, 9, 6], []), (9, [9, 2], [11]), (20, [9, 2, 11], [50, 1, 1, 1010, 1001, 4, 11, 0, 6, 4, 2, 1, 0, 0, 1, 2, 1, 10, 1, 2, 1, 2, 9, 5, 3, 1, 1, 1, 0, 0, 256]), (20, [2, 9, 11], [50, 1, 0, 10, 4, 7, 0, 3, 2, 0, 10, 1, 1, 1, 2, 1, 2, 0, -1]), (20, [2, 6], [50, 3, 1, 157, 11, 10, 1, 2, 7, 0, 3, 2, 0, 157, 1, 1, 2, 7, 0, 2, 1, 1, 2, 0, 11, 3, 11, 0, 6, 4, 2, 1, 1, 0, 1, 2, 0, 11, 2, 7, 1, 3, 2, 0, 11, 1, 1, 2, 11, 0, 6, 4, 2, 1, 1, 0, 1, 2, 0, 10, 2, 13, 0, 2, 0, 48, 9, 5, 3, 0, 1, 1, 1, 0, 256, 0, 9, 9, 5, 3, 0, 1, 1, 1, 0, 256, 0, 57]), (20, [10, 6], [30, -4001, -1, 0, 0, -2, 0, 0]), (24, [0, 2], [])] ta ws vs := hf
  obtain ⟨f0, hf⟩ := fc_un (show (7 : Nat) < 100 from by decide) hf
  have f0 : v_iv (n_v vs 14) < v_iv (n_v vs 13) := f0
  obtain ⟨f1, hf⟩ := fc_un (show (2 : Nat) < 100 from by decide) hf
  have f1 : v_iv (n_v vs 13) = v_iv (n_v vs 9) - v_iv (n_v vs 6) := f1
  obtain ⟨f2, hf⟩ := fc_un (show (9 : Nat) < 100 from by decide) hf
  have f2 : n_v vs 9 = w_fd ws (v_ad (n_v vs 2)) 11 := f2
  obtain ⟨f3, hf⟩ := fc_un (show (20 : Nat) < 100 from by decide) hf
  have f3 : ((v_iv (n_v vs 9) + 1) ≤ w_fi ws (n_v vs 2) 10) → (v_iv (n_v vs 11) = (w_ei ws (w_ar ws (n_v vs 2) 1) (v_iv (n_v vs 9)) % 256)) := f3
  obtain ⟨f4, hf⟩ := fc_un (show (20 : Nat) < 100 from by decide) hf
  have f4 : (w_fi ws (n_v vs 2) 10 ≤ v_iv (n_v vs 9)) → (v_iv (n_v vs 11) = (-1)) := f4
  obtain ⟨f5, hf⟩ := fc_un (show (20 : Nat) < 100 from by decide) hf
  have f5 : (w_fi ws (n_v vs 2) 157 ≤ v_iv (n_v vs 6)) ∧ ((v_iv (n_v vs 6) ≤ w_fi ws (n_v vs 2) 11) ∧ (((v_iv (n_v vs 6) + 1) ≤ w_fi ws (n_v vs 2) 11) ∨ ((w_fi ws (n_v vs 2) 11 = v_iv (n_v vs 6)) ∧ (((v_iv (n_v vs 6) + 1) ≤ w_fi ws (n_v vs 2) 10) ∧ ((48 ≤ (w_ei ws (w_ar ws (n_v vs 2) 1) (v_iv (n_v vs 6)) % 256)) ∧ ((w_ei ws (w_ar ws (n_v vs 2) 1) (v_iv (n_v vs 6)) % 256) ≤ 57)))))) := f5
  obtain ⟨f6, hf⟩ := fc_un (show (20 : Nat) < 100 from by decide) hf
  have f6 : (-1) * v_iv (n_v vs 10) + ((-2) * v_iv (n_v vs 6) + 0) ≤ (-4001) := f6
  obtain ⟨f7, hf⟩ := fc_un (show (24 : Nat) < 100 from by decide) hf
  have f7 : n_v vs 0 = n_v vs 2 := f7
  have q2 : n_v vs 2 = n_v vs 0 := f7.symm
  rw [q2] at f2
  rw [q2] at f3
  rw [q2] at f4
  rw [q2] at f5
  have cr_0_1 : ta (w_ar ws (n_v vs 0) 1) = some 151 := tv_rg (th_fd hD hth r0 (g := GG_150) rfl (k := 1) (t := (2, 0, 0, [151])) rfl rfl)
  have g2 : v_iv (n_v vs 9) = w_fi ws (n_v vs 0) 11 := congrArg v_iv f2
  have hK_0_1 : ∀ j : Int, 0 ≤ j → j < 2000 → (-128) ≤ w_ei ws (w_ar ws (n_v vs 0) 1) j ∧ w_ei ws (w_ar ws (n_v vs 0) 1) j ≤ 127 := fun j h0 h1 => th_el hD hth cr_0_1 (kd := 1) (n := 2000) (m := 2000) (lo := (-128)) (hi := 127) (rs := []) (L := []) rfl (by decide) (j := j.toNat) (by omega)
  have kz_0_10 : 0 ≤ w_fi ws (n_v vs 0) 10 ∧ w_fi ws (n_v vs 0) 10 ≤ 2000 := tv_rng (th_fd hD hth r0 (g := GG_150) rfl (k := 10) (t := (0, 0, 2000, [])) rfl rfl)
  have kz_0_11 : 0 ≤ w_fi ws (n_v vs 0) 11 ∧ w_fi ws (n_v vs 0) 11 ≤ 2000 := tv_rng (th_fd hD hth r0 (g := GG_150) rfl (k := 11) (t := (0, 0, 2000, [])) rfl rfl)
  have kz_0_157 : 0 ≤ w_fi ws (n_v vs 0) 157 ∧ w_fi ws (n_v vs 0) 157 ≤ 2010 := tv_rng (th_fd hD hth r0 (g := GG_150) rfl (k := 157) (t := (0, 0, 2010, [])) rfl rfl)
  obtain ⟨x, ex, hx⟩ := iv_ex (ta := ta) (lo := 0) (hi := 4001) (z := 0 + (1 * v_iv (n_v vs 10) + 0)) (by omega) (by omega) (by omega) (by omega)
  have ex2 : v_iv (Value.int x) = 0 + (1 * v_iv (n_v vs 10) + 0) := ex
  have ex3 : 0 ≤ v_iv (Value.int x) ∧ v_iv (Value.int x) ≤ 4001 := tv_rng hx
  have e_0 : n_v (vs ++ [Value.int x]) 0 = n_v vs 0 := n_v_old (by rw [hl]; decide)
  have e_2 : n_v (vs ++ [Value.int x]) 2 = n_v vs 2 := n_v_old (by rw [hl]; decide)
  have e_6 : n_v (vs ++ [Value.int x]) 6 = n_v vs 6 := n_v_old (by rw [hl]; decide)
  have e_15 : n_v (vs ++ [Value.int x]) 15 = n_v vs 15 := n_v_old (by rw [hl]; decide)
  have e_16 : n_v (vs ++ [Value.int x]) 16 = Value.int x := n_v_new hl
  have nf0 : fc_1 (20, [2, 6, 15], [50, 2, 0, 157, 11, 2, 7, 0, 3, 2, 0, 157, 1, 1, 2, 7, 0, 2, 1, 1, 2, 0, 11, 3, 6, 1, 2, 1, 2, 0, 0, 3, 6, 1, 2, 1, 2, 0, 4, 0, 6, 4, 2, 1, 1, 0, 1, 2, 0, 11]) ws (vs ++ [Value.int x]) := by
    refine ⟨fun n hn => ?_, ?_⟩
    · have hn : n ∈ [2, 6, 15] := hn
      rw [List.length_append, hl]
      simp only [List.mem_cons, List.not_mem_nil, or_false] at hn
      show n < 16 + 1; omega
    · show (w_fi ws (n_v (vs ++ [Value.int x]) 2) 157 ≤ v_iv (n_v (vs ++ [Value.int x]) 6)) ∧ ((v_iv (n_v (vs ++ [Value.int x]) 6) ≤ w_fi ws (n_v (vs ++ [Value.int x]) 2) 11) ∧ ((v_iv (n_v (vs ++ [Value.int x]) 15) = 0) ∨ ((v_iv (n_v (vs ++ [Value.int x]) 15) = 4) ∨ ((v_iv (n_v (vs ++ [Value.int x]) 6) + 1) ≤ w_fi ws (n_v (vs ++ [Value.int x]) 2) 11))))
      rw [e_2]
      rw [e_6]
      rw [e_15]
      rw [q2]
      first | omega | grind
  have nf1 : fc_1 (20, [16, 6], [30, -4001, -1, 0, 0, -2, 0, 0]) ws (vs ++ [Value.int x]) := by
    refine ⟨fun n hn => ?_, ?_⟩
    · have hn : n ∈ [16, 6] := hn
      rw [List.length_append, hl]
      simp only [List.mem_cons, List.not_mem_nil, or_false] at hn
      show n < 16 + 1; omega
    · show (-1) * v_iv (n_v (vs ++ [Value.int x]) 16) + ((-2) * v_iv (n_v (vs ++ [Value.int x]) 6) + 0) ≤ (-4001)
      rw [e_6]
      rw [e_16]
      omega
  have nf2 : fc_1 (24, [0, 2], []) ws (vs ++ [Value.int x]) := by
    refine ⟨fun n hn => ?_, ?_⟩
    · have hn : n ∈ [0, 2] := hn
      rw [List.length_append, hl]
      simp only [List.mem_cons, List.not_mem_nil, or_false] at hn
      show n < 16 + 1; omega
    · show n_v (vs ++ [Value.int x]) 0 = n_v (vs ++ [Value.int x]) 2
      first | rfl | simp only [e_0, e_2, q2]
  obtain ⟨x0, e0, _, _⟩ := tv_int t10 rfl
  have e1 : v_iv (n_v vs 10) = x0.toInt := by rw [e0]; rfl
  have ho : sy_ofs (vs ++ [Value.int x]) (16, 10, 0, 0) := by
    refine ⟨x, x0, by rw [List.getElem?_append_right (by rw [hl]; decide), hl]; rfl, ?_, ?_, ?_⟩
    · rw [List.getElem?_append_left (by rw [hl]; decide)]; exact n_v_some (by rw [hl]; decide) e0
    · show x0.toInt + 0 ≤ x.toInt; omega
    · show x.toInt ≤ x0.toInt + 0; omega
  exact ⟨(fun _ h => (by cases h)), [Value.int x], ag_one hx, List.forall_mem_cons.mpr ⟨⟨show (20 : Nat) < 100 from by decide, nf0⟩, List.forall_mem_cons.mpr ⟨⟨show (20 : Nat) < 100 from by decide, nf1⟩, List.forall_mem_cons.mpr ⟨⟨show (24 : Nat) < 100 from by decide, nf2⟩, (fun _ h => (by cases h))⟩⟩⟩, List.forall_mem_cons.mpr ⟨ho, (fun _ h => (by cases h))⟩⟩
def o_Mo_styleTokens_28 : or_T := (363, 16, [(0, (2, 0, 0, [150])), (2, (2, 0, 0, [150])), (6, (0, 0, 1999, [])), (9, (0, 0, 1999, [])), (10, (0, 0, 4001, [])), (11, (0, 58, 255, [])), (13, (0, 0, 4, [])), (14, (0, 4, 4, [])), (15, (0, 2, 2, []))], [(7, [13, 14], [5]), (2, [13, 9, 6], []), (9, [9, 2], [11]), (20, [9, 2, 11], [50, 1, 1, 1010, 1001, 4, 11, 0, 6, 4, 2, 1, 0, 0, 1, 2, 1, 10, 1, 2, 1, 2, 9, 5, 3, 1, 1, 1, 0, 0, 256]), (20, [2, 9, 11], [50, 1, 0, 10, 4, 7, 0, 3, 2, 0, 10, 1, 1, 1, 2, 1, 2, 0, -1]), (20, [2, 6], [50, 3, 1, 157, 11, 10, 1, 2, 7, 0, 3, 2, 0, 157, 1, 1, 2, 7, 0, 2, 1, 1, 2, 0, 11, 3, 11, 0, 6, 4, 2, 1, 1, 0, 1, 2, 0, 11, 2, 7, 1, 3, 2, 0, 11, 1, 1, 2, 11, 0, 6, 4, 2, 1, 1, 0, 1, 2, 0, 10, 2, 13, 0, 2, 0, 48, 9, 5, 3, 0, 1, 1, 1, 0, 256, 0, 9, 9, 5, 3, 0, 1, 1, 1, 0, 256, 0, 57]), (20, [10, 6], [30, -4001, -1, 0, 0, -2, 0, 0]), (24, [0, 2], [])], [], [(0, 0, 4001, [])], [(20, [2, 6, 15], [50, 2, 0, 157, 11, 2, 7, 0, 3, 2, 0, 157, 1, 1, 2, 7, 0, 2, 1, 1, 2, 0, 11, 3, 6, 1, 2, 1, 2, 0, 0, 3, 6, 1, 2, 1, 2, 0, 4, 0, 6, 4, 2, 1, 1, 0, 1, 2, 0, 11]), (20, [16, 6], [30, -4001, -1, 0, 0, -2, 0, 0]), (24, [0, 2], [])], [(16, 10, 0, 0)], [(13, 9, -1999, 0), (6, 9, -4294967296, 0)])
theorem oo_Mo_styleTokens_28 {kA : Nat → ClassId} : or_ok kA GG o_Mo_styleTokens_28 := by
  intro A ta ws vs hD hth hl hk hds hf
  have hl : vs.length = 16 := hl
  have hk : ∀ q ∈ ([(0, (2, 0, 0, [150])), (2, (2, 0, 0, [150])), (6, (0, 0, 1999, [])), (9, (0, 0, 1999, [])), (10, (0, 0, 4001, [])), (11, (0, 58, 255, [])), (13, (0, 0, 4, [])), (14, (0, 4, 4, [])), (15, (0, 2, 2, []))] : List (Nat × tv_T)), tv_ok ta q.2 (n_v vs q.1) := hk
  obtain ⟨t0, hk⟩ := List.forall_mem_cons.mp hk
  have t0 : tv_ok ta (2, 0, 0, [150]) (n_v vs 0) := t0
  have r0 : ta (v_ad (n_v vs 0)) = some 150 := tv_rg t0
  obtain ⟨t2, hk⟩ := List.forall_mem_cons.mp hk
  have t2 : tv_ok ta (2, 0, 0, [150]) (n_v vs 2) := t2
  have r2 : ta (v_ad (n_v vs 2)) = some 150 := tv_rg t2
  obtain ⟨t6, hk⟩ := List.forall_mem_cons.mp hk
  have t6 : tv_ok ta (0, 0, 1999, []) (n_v vs 6) := t6
  have k6 : 0 ≤ v_iv (n_v vs 6) ∧ v_iv (n_v vs 6) ≤ 1999 := tv_rng t6
  obtain ⟨t9, hk⟩ := List.forall_mem_cons.mp hk
  have t9 : tv_ok ta (0, 0, 1999, []) (n_v vs 9) := t9
  have k9 : 0 ≤ v_iv (n_v vs 9) ∧ v_iv (n_v vs 9) ≤ 1999 := tv_rng t9
  obtain ⟨t10, hk⟩ := List.forall_mem_cons.mp hk
  have t10 : tv_ok ta (0, 0, 4001, []) (n_v vs 10) := t10
  have k10 : 0 ≤ v_iv (n_v vs 10) ∧ v_iv (n_v vs 10) ≤ 4001 := tv_rng t10
  obtain ⟨t11, hk⟩ := List.forall_mem_cons.mp hk
  have t11 : tv_ok ta (0, 58, 255, []) (n_v vs 11) := t11
  have k11 : 58 ≤ v_iv (n_v vs 11) ∧ v_iv (n_v vs 11) ≤ 255 := tv_rng t11
  obtain ⟨t13, hk⟩ := List.forall_mem_cons.mp hk
  have t13 : tv_ok ta (0, 0, 4, []) (n_v vs 13) := t13
  have k13 : 0 ≤ v_iv (n_v vs 13) ∧ v_iv (n_v vs 13) ≤ 4 := tv_rng t13
  obtain ⟨t14, hk⟩ := List.forall_mem_cons.mp hk
  have t14 : tv_ok ta (0, 4, 4, []) (n_v vs 14) := t14
  have k14 : 4 ≤ v_iv (n_v vs 14) ∧ v_iv (n_v vs 14) ≤ 4 := tv_rng t14
  obtain ⟨t15, hk⟩ := List.forall_mem_cons.mp hk
  have t15 : tv_ok ta (0, 2, 2, []) (n_v vs 15) := t15
  have k15 : 2 ≤ v_iv (n_v vs 15) ∧ v_iv (n_v vs 15) ≤ 2 := tv_rng t15
  have hds : ∀ q ∈ ([(13, 9, -1999, 0), (6, 9, -4294967296, 0)] : List of_T), n_iv vs q.2.1 + q.2.2.1 ≤ n_iv vs q.1 ∧ n_iv vs q.1 ≤ n_iv vs q.2.1 + q.2.2.2 := hds
  obtain ⟨d0, hds⟩ := List.forall_mem_cons.mp hds
  have d0 : v_iv (n_v vs 9) + (-1999) ≤ v_iv (n_v vs 13) ∧ v_iv (n_v vs 13) ≤ v_iv (n_v vs 9) + 0 := d0
  obtain ⟨d1, hds⟩ := List.forall_mem_cons.mp hds
  have d1 : v_iv (n_v vs 9) + (-4294967296) ≤ v_iv (n_v vs 6) ∧ v_iv (n_v vs 6) ≤ v_iv (n_v vs 9) + 0 := d1
  have hf : fc_ok [(7, [13, 14], [5]), (2, [13, 9, 6], []), (9, [9, 2], [11]), (20, [9, 2, 11], [50, 1, 1, 1010, 1001, 4, 11, 0, 6, 4, 2, 1, 0, 0, 1, 2, 1, 10, 1, 2, 1, 2, 9, 5, 3, 1, 1, 1, 0, 0, 256]), (20, [2, 9, 11], [50, 1, 0, 10, 4, 7, 0, 3, 2, 0, 10, 1, 1, 1, 2, 1, 2, 0, -1]), (20, [2, 6], [50, 3, 1, 157, 11, 10, 1, 2, 7, 0, 3, 2, 0, 157, 1, 1, 2, 7, 0, 2, 1, 1, 2, 0, 11, 3, 11, 0, 6, 4, 2, 1, 1, 0, 1, 2, 0, 11, 2, 7, 1, 3, 2, 0, 11, 1, 1, 2, 11, 0, 6, 4, 2, 1, 1, 0, 1, 2, 0, 10, 2, 13, 0, 2, 0, 48, 9, 5, 3, 0, 1, 1, 1, 0, 256, 0, 9, 9, 5, 3, 0, 1, 1, 1, 0, 256, 0, 57]), (20, [10, 6], [30, -4001, -1, 0, 0, -2, 0, 0]), (24, [0, 2], [])] ta ws vs := hf
  obtain ⟨f0, hf⟩ := fc_un (show (7 : Nat) < 100 from by decide) hf
  have f0 : v_iv (n_v vs 13) ≤ v_iv (n_v vs 14) := f0
  obtain ⟨f1, hf⟩ := fc_un (show (2 : Nat) < 100 from by decide) hf
  have f1 : v_iv (n_v vs 13) = v_iv (n_v vs 9) - v_iv (n_v vs 6) := f1
  obtain ⟨f2, hf⟩ := fc_un (show (9 : Nat) < 100 from by decide) hf
  have f2 : n_v vs 9 = w_fd ws (v_ad (n_v vs 2)) 11 := f2
  obtain ⟨f3, hf⟩ := fc_un (show (20 : Nat) < 100 from by decide) hf
  have f3 : ((v_iv (n_v vs 9) + 1) ≤ w_fi ws (n_v vs 2) 10) → (v_iv (n_v vs 11) = (w_ei ws (w_ar ws (n_v vs 2) 1) (v_iv (n_v vs 9)) % 256)) := f3
  obtain ⟨f4, hf⟩ := fc_un (show (20 : Nat) < 100 from by decide) hf
  have f4 : (w_fi ws (n_v vs 2) 10 ≤ v_iv (n_v vs 9)) → (v_iv (n_v vs 11) = (-1)) := f4
  obtain ⟨f5, hf⟩ := fc_un (show (20 : Nat) < 100 from by decide) hf
  have f5 : (w_fi ws (n_v vs 2) 157 ≤ v_iv (n_v vs 6)) ∧ ((v_iv (n_v vs 6) ≤ w_fi ws (n_v vs 2) 11) ∧ (((v_iv (n_v vs 6) + 1) ≤ w_fi ws (n_v vs 2) 11) ∨ ((w_fi ws (n_v vs 2) 11 = v_iv (n_v vs 6)) ∧ (((v_iv (n_v vs 6) + 1) ≤ w_fi ws (n_v vs 2) 10) ∧ ((48 ≤ (w_ei ws (w_ar ws (n_v vs 2) 1) (v_iv (n_v vs 6)) % 256)) ∧ ((w_ei ws (w_ar ws (n_v vs 2) 1) (v_iv (n_v vs 6)) % 256) ≤ 57)))))) := f5
  obtain ⟨f6, hf⟩ := fc_un (show (20 : Nat) < 100 from by decide) hf
  have f6 : (-1) * v_iv (n_v vs 10) + ((-2) * v_iv (n_v vs 6) + 0) ≤ (-4001) := f6
  obtain ⟨f7, hf⟩ := fc_un (show (24 : Nat) < 100 from by decide) hf
  have f7 : n_v vs 0 = n_v vs 2 := f7
  have q2 : n_v vs 2 = n_v vs 0 := f7.symm
  rw [q2] at f2
  rw [q2] at f3
  rw [q2] at f4
  rw [q2] at f5
  have cr_0_1 : ta (w_ar ws (n_v vs 0) 1) = some 151 := tv_rg (th_fd hD hth r0 (g := GG_150) rfl (k := 1) (t := (2, 0, 0, [151])) rfl rfl)
  have g2 : v_iv (n_v vs 9) = w_fi ws (n_v vs 0) 11 := congrArg v_iv f2
  have hK_0_1 : ∀ j : Int, 0 ≤ j → j < 2000 → (-128) ≤ w_ei ws (w_ar ws (n_v vs 0) 1) j ∧ w_ei ws (w_ar ws (n_v vs 0) 1) j ≤ 127 := fun j h0 h1 => th_el hD hth cr_0_1 (kd := 1) (n := 2000) (m := 2000) (lo := (-128)) (hi := 127) (rs := []) (L := []) rfl (by decide) (j := j.toNat) (by omega)
  have kz_0_10 : 0 ≤ w_fi ws (n_v vs 0) 10 ∧ w_fi ws (n_v vs 0) 10 ≤ 2000 := tv_rng (th_fd hD hth r0 (g := GG_150) rfl (k := 10) (t := (0, 0, 2000, [])) rfl rfl)
  have kz_0_11 : 0 ≤ w_fi ws (n_v vs 0) 11 ∧ w_fi ws (n_v vs 0) 11 ≤ 2000 := tv_rng (th_fd hD hth r0 (g := GG_150) rfl (k := 11) (t := (0, 0, 2000, [])) rfl rfl)
  have kz_0_157 : 0 ≤ w_fi ws (n_v vs 0) 157 ∧ w_fi ws (n_v vs 0) 157 ≤ 2010 := tv_rng (th_fd hD hth r0 (g := GG_150) rfl (k := 157) (t := (0, 0, 2010, [])) rfl rfl)
  obtain ⟨x, ex, hx⟩ := iv_ex (ta := ta) (lo := 0) (hi := 4001) (z := 0 + (1 * v_iv (n_v vs 10) + 0)) (by omega) (by omega) (by omega) (by omega)
  have ex2 : v_iv (Value.int x) = 0 + (1 * v_iv (n_v vs 10) + 0) := ex
  have ex3 : 0 ≤ v_iv (Value.int x) ∧ v_iv (Value.int x) ≤ 4001 := tv_rng hx
  have e_0 : n_v (vs ++ [Value.int x]) 0 = n_v vs 0 := n_v_old (by rw [hl]; decide)
  have e_2 : n_v (vs ++ [Value.int x]) 2 = n_v vs 2 := n_v_old (by rw [hl]; decide)
  have e_6 : n_v (vs ++ [Value.int x]) 6 = n_v vs 6 := n_v_old (by rw [hl]; decide)
  have e_15 : n_v (vs ++ [Value.int x]) 15 = n_v vs 15 := n_v_old (by rw [hl]; decide)
  have e_16 : n_v (vs ++ [Value.int x]) 16 = Value.int x := n_v_new hl
  have nf0 : fc_1 (20, [2, 6, 15], [50, 2, 0, 157, 11, 2, 7, 0, 3, 2, 0, 157, 1, 1, 2, 7, 0, 2, 1, 1, 2, 0, 11, 3, 6, 1, 2, 1, 2, 0, 0, 3, 6, 1, 2, 1, 2, 0, 4, 0, 6, 4, 2, 1, 1, 0, 1, 2, 0, 11]) ws (vs ++ [Value.int x]) := by
    refine ⟨fun n hn => ?_, ?_⟩
    · have hn : n ∈ [2, 6, 15] := hn
      rw [List.length_append, hl]
      simp only [List.mem_cons, List.not_mem_nil, or_false] at hn
      show n < 16 + 1; omega
    · show (w_fi ws (n_v (vs ++ [Value.int x]) 2) 157 ≤ v_iv (n_v (vs ++ [Value.int x]) 6)) ∧ ((v_iv (n_v (vs ++ [Value.int x]) 6) ≤ w_fi ws (n_v (vs ++ [Value.int x]) 2) 11) ∧ ((v_iv (n_v (vs ++ [Value.int x]) 15) = 0) ∨ ((v_iv (n_v (vs ++ [Value.int x]) 15) = 4) ∨ ((v_iv (n_v (vs ++ [Value.int x]) 6) + 1) ≤ w_fi ws (n_v (vs ++ [Value.int x]) 2) 11))))
      rw [e_2]
      rw [e_6]
      rw [e_15]
      rw [q2]
      first | omega | grind
  have nf1 : fc_1 (20, [16, 6], [30, -4001, -1, 0, 0, -2, 0, 0]) ws (vs ++ [Value.int x]) := by
    refine ⟨fun n hn => ?_, ?_⟩
    · have hn : n ∈ [16, 6] := hn
      rw [List.length_append, hl]
      simp only [List.mem_cons, List.not_mem_nil, or_false] at hn
      show n < 16 + 1; omega
    · show (-1) * v_iv (n_v (vs ++ [Value.int x]) 16) + ((-2) * v_iv (n_v (vs ++ [Value.int x]) 6) + 0) ≤ (-4001)
      rw [e_6]
      rw [e_16]
      omega
  have nf2 : fc_1 (24, [0, 2], []) ws (vs ++ [Value.int x]) := by
    refine ⟨fun n hn => ?_, ?_⟩
    · have hn : n ∈ [0, 2] := hn
      rw [List.length_append, hl]
      simp only [List.mem_cons, List.not_mem_nil, or_false] at hn
      show n < 16 + 1; omega
    · show n_v (vs ++ [Value.int x]) 0 = n_v (vs ++ [Value.int x]) 2
      first | rfl | simp only [e_0, e_2, q2]
  obtain ⟨x0, e0, _, _⟩ := tv_int t10 rfl
  have e1 : v_iv (n_v vs 10) = x0.toInt := by rw [e0]; rfl
  have ho : sy_ofs (vs ++ [Value.int x]) (16, 10, 0, 0) := by
    refine ⟨x, x0, by rw [List.getElem?_append_right (by rw [hl]; decide), hl]; rfl, ?_, ?_, ?_⟩
    · rw [List.getElem?_append_left (by rw [hl]; decide)]; exact n_v_some (by rw [hl]; decide) e0
    · show x0.toInt + 0 ≤ x.toInt; omega
    · show x.toInt ≤ x0.toInt + 0; omega
  exact ⟨(fun _ h => (by cases h)), [Value.int x], ag_one hx, List.forall_mem_cons.mpr ⟨⟨show (20 : Nat) < 100 from by decide, nf0⟩, List.forall_mem_cons.mpr ⟨⟨show (20 : Nat) < 100 from by decide, nf1⟩, List.forall_mem_cons.mpr ⟨⟨show (24 : Nat) < 100 from by decide, nf2⟩, (fun _ h => (by cases h))⟩⟩⟩, List.forall_mem_cons.mpr ⟨ho, (fun _ h => (by cases h))⟩⟩
def o_Mo_styleTokens_29 : or_T := (166, 23, [(0, (2, 0, 0, [150])), (2, (2, 0, 0, [150])), (6, (0, 0, 1999, [])), (9, (0, 0, 1999, [])), (10, (0, 0, 4001, [])), (11, (0, 48, 57, [])), (16, (0, -1, -1, [])), (17, (1, -1, -1, [])), (21, (0, 1, 1, [])), (22, (0, 1, 2000, []))], [(22, [17, 16], []), (20, [9, 2, 16], [50, 1, 1, 1010, 1001, 4, 11, 0, 6, 4, 2, 1, 0, 0, 1, 2, 1, 10, 1, 2, 1, 2, 9, 5, 3, 1, 1, 1, 0, 0, 256]), (20, [2, 9, 16], [50, 1, 0, 10, 4, 7, 0, 3, 2, 0, 10, 1, 1, 1, 2, 1, 2, 0, -1]), (20, [9, 2, 11], [50, 1, 1, 1010, 1001, 4, 11, 0, 6, 4, 2, 1, 0, 0, 1, 2, 1, 10, 1, 2, 1, 2, 9, 5, 3, 1, 1, 1, 0, 0, 256]), (20, [2, 9, 11], [50, 1, 0, 10, 4, 7, 0, 3, 2, 0, 10, 1, 1, 1, 2, 1, 2, 0, -1]), (20, [10, 6], [30, -4001, -1, 0, 0, -2, 0, 0]), (24, [0, 2], []), (101, [2, 22], [11]), (1, [22, 9, 21], []), (9, [9, 2], [11]), (22, [17, 16], []), (20, [9, 2, 16], [50, 1, 1, 1010, 1001, 4, 11, 0, 6, 4, 2, 1, 0, 0, 1, 2, 1, 10, 1, 2, 1, 2, 9, 5, 3, 1, 1, 1, 0, 0, 256]), (20, [2, 9, 16], [50, 1, 0, 10, 4, 7, 0, 3, 2, 0, 10, 1, 1, 1, 2, 1, 2, 0, -1]), (20, [9, 2, 11], [50, 1, 1, 1010, 1001, 4, 11, 0, 6, 4, 2, 1, 0, 0, 1, 2, 1, 10, 1, 2, 1, 2, 9, 5, 3, 1, 1, 1, 0, 0, 256]), (20, [2, 9, 11], [50, 1, 0, 10, 4, 7, 0, 3, 2, 0, 10, 1, 1, 1, 2, 1, 2, 0, -1]), (20, [2, 6], [50, 3, 1, 157, 11, 10, 1, 2, 7, 0, 3, 2, 0, 157, 1, 1, 2, 7, 0, 2, 1, 1, 2, 0, 11, 3, 11, 0, 6, 4, 2, 1, 1, 0, 1, 2, 0, 11, 2, 7, 1, 3, 2, 0, 11, 1, 1, 2, 11, 0, 6, 4, 2, 1, 1, 0, 1, 2, 0, 10, 2, 13, 0, 2, 0, 48, 9, 5, 3, 0, 1, 1, 1, 0, 256, 0, 9, 9, 5, 3, 0, 1, 1, 1, 0, 256, 0, 57]), (20, [10, 6], [30, -4001, -1, 0, 0, -2, 0, 0])], [], [], [(20, [2, 6], [50, 3, 1, 157, 11, 10, 1, 2, 7, 0, 3, 2, 0, 157, 1, 1, 2, 7, 0, 2, 1, 1, 2, 0, 11, 3, 11, 0, 6, 4, 2, 1, 1, 0, 1, 2, 0, 11, 2, 7, 1, 3, 2, 0, 11, 1, 1, 2, 11, 0, 6, 4, 2, 1, 1, 0, 1, 2, 0, 10, 2, 13, 0, 2, 0, 48, 9, 5, 3, 0, 1, 1, 1, 0, 256, 0, 9, 9, 5, 3, 0, 1, 1, 1, 0, 256, 0, 57])], [], [(22, 9, 1, 1), (6, 9, -4294967296, 0)])
theorem oo_Mo_styleTokens_29 {kA : Nat → ClassId} : or_ok kA GG o_Mo_styleTokens_29 := by
  intro A ta ws vs hD hth hl hk hds hf
  have hl : vs.length = 23 := hl
  have hk : ∀ q ∈ ([(0, (2, 0, 0, [150])), (2, (2, 0, 0, [150])), (6, (0, 0, 1999, [])), (9, (0, 0, 1999, [])), (10, (0, 0, 4001, [])), (11, (0, 48, 57, [])), (16, (0, -1, -1, [])), (17, (1, -1, -1, [])), (21, (0, 1, 1, [])), (22, (0, 1, 2000, []))] : List (Nat × tv_T)), tv_ok ta q.2 (n_v vs q.1) := hk
  obtain ⟨t0, hk⟩ := List.forall_mem_cons.mp hk
  have t0 : tv_ok ta (2, 0, 0, [150]) (n_v vs 0) := t0
  have r0 : ta (v_ad (n_v vs 0)) = some 150 := tv_rg t0
  obtain ⟨t2, hk⟩ := List.forall_mem_cons.mp hk
  have t2 : tv_ok ta (2, 0, 0, [150]) (n_v vs 2) := t2
  have r2 : ta (v_ad (n_v vs 2)) = some 150 := tv_rg t2
  obtain ⟨t6, hk⟩ := List.forall_mem_cons.mp hk
  have t6 : tv_ok ta (0, 0, 1999, []) (n_v vs 6) := t6
  have k6 : 0 ≤ v_iv (n_v vs 6) ∧ v_iv (n_v vs 6) ≤ 1999 := tv_rng t6
  obtain ⟨t9, hk⟩ := List.forall_mem_cons.mp hk
  have t9 : tv_ok ta (0, 0, 1999, []) (n_v vs 9) := t9
  have k9 : 0 ≤ v_iv (n_v vs 9) ∧ v_iv (n_v vs 9) ≤ 1999 := tv_rng t9
  obtain ⟨t10, hk⟩ := List.forall_mem_cons.mp hk
  have t10 : tv_ok ta (0, 0, 4001, []) (n_v vs 10) := t10
  have k10 : 0 ≤ v_iv (n_v vs 10) ∧ v_iv (n_v vs 10) ≤ 4001 := tv_rng t10
  obtain ⟨t11, hk⟩ := List.forall_mem_cons.mp hk
  have t11 : tv_ok ta (0, 48, 57, []) (n_v vs 11) := t11
  have k11 : 48 ≤ v_iv (n_v vs 11) ∧ v_iv (n_v vs 11) ≤ 57 := tv_rng t11
  obtain ⟨t16, hk⟩ := List.forall_mem_cons.mp hk
  have t16 : tv_ok ta (0, -1, -1, []) (n_v vs 16) := t16
  have k16 : (-1) ≤ v_iv (n_v vs 16) ∧ v_iv (n_v vs 16) ≤ (-1) := tv_rng t16
  obtain ⟨t17, hk⟩ := List.forall_mem_cons.mp hk
  have t17 : tv_ok ta (1, -1, -1, []) (n_v vs 17) := t17
  have k17 : (-1) ≤ v_iv (n_v vs 17) ∧ v_iv (n_v vs 17) ≤ (-1) := tv_rngL t17
  obtain ⟨t21, hk⟩ := List.forall_mem_cons.mp hk
  have t21 : tv_ok ta (0, 1, 1, []) (n_v vs 21) := t21
  have k21 : 1 ≤ v_iv (n_v vs 21) ∧ v_iv (n_v vs 21) ≤ 1 := tv_rng t21
  obtain ⟨t22, hk⟩ := List.forall_mem_cons.mp hk
  have t22 : tv_ok ta (0, 1, 2000, []) (n_v vs 22) := t22
  have k22 : 1 ≤ v_iv (n_v vs 22) ∧ v_iv (n_v vs 22) ≤ 2000 := tv_rng t22
  have hds : ∀ q ∈ ([(22, 9, 1, 1), (6, 9, -4294967296, 0)] : List of_T), n_iv vs q.2.1 + q.2.2.1 ≤ n_iv vs q.1 ∧ n_iv vs q.1 ≤ n_iv vs q.2.1 + q.2.2.2 := hds
  obtain ⟨d0, hds⟩ := List.forall_mem_cons.mp hds
  have d0 : v_iv (n_v vs 9) + 1 ≤ v_iv (n_v vs 22) ∧ v_iv (n_v vs 22) ≤ v_iv (n_v vs 9) + 1 := d0
  obtain ⟨d1, hds⟩ := List.forall_mem_cons.mp hds
  have d1 : v_iv (n_v vs 9) + (-4294967296) ≤ v_iv (n_v vs 6) ∧ v_iv (n_v vs 6) ≤ v_iv (n_v vs 9) + 0 := d1
  have hf : fc_ok [(22, [17, 16], []), (20, [9, 2, 16], [50, 1, 1, 1010, 1001, 4, 11, 0, 6, 4, 2, 1, 0, 0, 1, 2, 1, 10, 1, 2, 1, 2, 9, 5, 3, 1, 1, 1, 0, 0, 256]), (20, [2, 9, 16], [50, 1, 0, 10, 4, 7, 0, 3, 2, 0, 10, 1, 1, 1, 2, 1, 2, 0, -1]), (20, [9, 2, 11], [50, 1, 1, 1010, 1001, 4, 11, 0, 6, 4, 2, 1, 0, 0, 1, 2, 1, 10, 1, 2, 1, 2, 9, 5, 3, 1, 1, 1, 0, 0, 256]), (20, [2, 9, 11], [50, 1, 0, 10, 4, 7, 0, 3, 2, 0, 10, 1, 1, 1, 2, 1, 2, 0, -1]), (20, [10, 6], [30, -4001, -1, 0, 0, -2, 0, 0]), (24, [0, 2], []), (101, [2, 22], [11]), (1, [22, 9, 21], []), (9, [9, 2], [11]), (22, [17, 16], []), (20, [9, 2, 16], [50, 1, 1, 1010, 1001, 4, 11, 0, 6, 4, 2, 1, 0, 0, 1, 2, 1, 10, 1, 2, 1, 2, 9, 5, 3, 1, 1, 1, 0, 0, 256]), (20, [2, 9, 16], [50, 1, 0, 10, 4, 7, 0, 3, 2, 0, 10, 1, 1, 1, 2, 1, 2, 0, -1]), (20, [9, 2, 11], [50, 1, 1, 1010, 1001, 4, 11, 0, 6, 4, 2, 1, 0, 0, 1, 2, 1, 10, 1, 2, 1, 2, 9, 5, 3, 1, 1, 1, 0, 0, 256]), (20, [2, 9, 11], [50, 1, 0, 10, 4, 7, 0, 3, 2, 0, 10, 1, 1, 1, 2, 1, 2, 0, -1]), (20, [2, 6], [50, 3, 1, 157, 11, 10, 1, 2, 7, 0, 3, 2, 0, 157, 1, 1, 2, 7, 0, 2, 1, 1, 2, 0, 11, 3, 11, 0, 6, 4, 2, 1, 1, 0, 1, 2, 0, 11, 2, 7, 1, 3, 2, 0, 11, 1, 1, 2, 11, 0, 6, 4, 2, 1, 1, 0, 1, 2, 0, 10, 2, 13, 0, 2, 0, 48, 9, 5, 3, 0, 1, 1, 1, 0, 256, 0, 9, 9, 5, 3, 0, 1, 1, 1, 0, 256, 0, 57]), (20, [10, 6], [30, -4001, -1, 0, 0, -2, 0, 0])] ta ws vs := hf
  obtain ⟨f0, hf⟩ := fc_un (show (22 : Nat) < 100 from by decide) hf
  have f0 : v_iv (n_v vs 17) = v_iv (n_v vs 16) := f0
  obtain ⟨f1, hf⟩ := fc_un (show (20 : Nat) < 100 from by decide) hf
  have f1 : ((v_iv (n_v vs 9) + 1) ≤ w_fi ws (n_v vs 2) 10) → (v_iv (n_v vs 16) = (w_ei ws (w_ar ws (n_v vs 2) 1) (v_iv (n_v vs 9)) % 256)) := f1
  obtain ⟨f2, hf⟩ := fc_un (show (20 : Nat) < 100 from by decide) hf
  have f2 : (w_fi ws (n_v vs 2) 10 ≤ v_iv (n_v vs 9)) → (v_iv (n_v vs 16) = (-1)) := f2
  obtain ⟨f3, hf⟩ := fc_un (show (20 : Nat) < 100 from by decide) hf
  have f3 : ((v_iv (n_v vs 9) + 1) ≤ w_fi ws (n_v vs 2) 10) → (v_iv (n_v vs 11) = (w_ei ws (w_ar ws (n_v vs 2) 1) (v_iv (n_v vs 9)) % 256)) := f3
  obtain ⟨f4, hf⟩ := fc_un (show (20 : Nat) < 100 from by decide) hf
  have f4 : (w_fi ws (n_v vs 2) 10 ≤ v_iv (n_v vs 9)) → (v_iv (n_v vs 11) = (-1)) := f4
  obtain ⟨f5, hf⟩ := fc_un (show (20 : Nat) < 100 from by decide) hf
  have f5 : (-1) * v_iv (n_v vs 10) + ((-2) * v_iv (n_v vs 6) + 0) ≤ (-4001) := f5
  obtain ⟨f6, hf⟩ := fc_un (show (24 : Nat) < 100 from by decide) hf
  have f6 : n_v vs 0 = n_v vs 2 := f6
  obtain ⟨ta1, w1, le1, ⟨_, s1⟩, hf⟩ := fc_us (show ¬ (101 : Nat) < 100 from by decide) hf
  have s1 : (∀ b j, w_el ws b j = w_el w1 b j) ∧ ∀ b j, w_fd ws b j = if b = v_ad (n_v vs 2) ∧ j = 11 then n_v vs 22 else w_fd w1 b j := s1
  obtain ⟨f8, hf⟩ := fc_un (show (1 : Nat) < 100 from by decide) hf
  have f8 : v_iv (n_v vs 22) = v_iv (n_v vs 9) + v_iv (n_v vs 21) := f8
  obtain ⟨f9, hf⟩ := fc_un (show (9 : Nat) < 100 from by decide) hf
  have f9 : n_v vs 9 = w_fd w1 (v_ad (n_v vs 2)) 11 := f9
  obtain ⟨f10, hf⟩ := fc_un (show (22 : Nat) < 100 from by decide) hf
  have f10 : v_iv (n_v vs 17) = v_iv (n_v vs 16) := f10
  obtain ⟨f11, hf⟩ := fc_un (show (20 : Nat) < 100 from by decide) hf
  have f11 : ((v_iv (n_v vs 9) + 1) ≤ w_fi w1 (n_v vs 2) 10) → (v_iv (n_v vs 16) = (w_ei w1 (w_ar w1 (n_v vs 2) 1) (v_iv (n_v vs 9)) % 256)) := f11
  obtain ⟨f12, hf⟩ := fc_un (show (20 : Nat) < 100 from by decide) hf
  have f12 : (w_fi w1 (n_v vs 2) 10 ≤ v_iv (n_v vs 9)) → (v_iv (n_v vs 16) = (-1)) := f12
  obtain ⟨f13, hf⟩ := fc_un (show (20 : Nat) < 100 from by decide) hf
  have f13 : ((v_iv (n_v vs 9) + 1) ≤ w_fi w1 (n_v vs 2) 10) → (v_iv (n_v vs 11) = (w_ei w1 (w_ar w1 (n_v vs 2) 1) (v_iv (n_v vs 9)) % 256)) := f13
  obtain ⟨f14, hf⟩ := fc_un (show (20 : Nat) < 100 from by decide) hf
  have f14 : (w_fi w1 (n_v vs 2) 10 ≤ v_iv (n_v vs 9)) → (v_iv (n_v vs 11) = (-1)) := f14
  obtain ⟨f15, hf⟩ := fc_un (show (20 : Nat) < 100 from by decide) hf
  have f15 : (w_fi w1 (n_v vs 2) 157 ≤ v_iv (n_v vs 6)) ∧ ((v_iv (n_v vs 6) ≤ w_fi w1 (n_v vs 2) 11) ∧ (((v_iv (n_v vs 6) + 1) ≤ w_fi w1 (n_v vs 2) 11) ∨ ((w_fi w1 (n_v vs 2) 11 = v_iv (n_v vs 6)) ∧ (((v_iv (n_v vs 6) + 1) ≤ w_fi w1 (n_v vs 2) 10) ∧ ((48 ≤ (w_ei w1 (w_ar w1 (n_v vs 2) 1) (v_iv (n_v vs 6)) % 256)) ∧ ((w_ei w1 (w_ar w1 (n_v vs 2) 1) (v_iv (n_v vs 6)) % 256) ≤ 57)))))) := f15
  obtain ⟨f16, hf⟩ := fc_un (show (20 : Nat) < 100 from by decide) hf
  have f16 : (-1) * v_iv (n_v vs 10) + ((-2) * v_iv (n_v vs 6) + 0) ≤ (-4001) := f16
  have q2 : n_v vs 2 = n_v vs 0 := f6.symm
  rw [q2] at f1
  rw [q2] at f2
  rw [q2] at f3
  rw [q2] at f4
  rw [q2] at s1
  rw [q2] at f9
  rw [q2] at f11
  rw [q2] at f12
  rw [q2] at f13
  rw [q2] at f14
  rw [q2] at f15
  have ar_0_1_1 : w_ar w1 (n_v vs 0) 1 = w_ar ws (n_v vs 0) 1 := by show v_ad (w_fd w1 _ _) = v_ad (w_fd ws _ _); rw [s1.2, if_neg (fun e => absurd e.2 (by decide))]
  have cr_0_1 : ta (w_ar ws (n_v vs 0) 1) = some 151 := tv_rg (th_fd hD hth r0 (g := GG_150) rfl (k := 1) (t := (2, 0, 0, [151])) rfl rfl)
  have g9 : v_iv (n_v vs 9) = w_fi w1 (n_v vs 0) 11 := congrArg v_iv f9
  rw [ar_0_1_1] at f11
  rw [ar_0_1_1] at f13
  rw [ar_0_1_1] at f15
  have fe_0_10_1 : w_fi ws (n_v vs 0) 10 = w_fi w1 (n_v vs 0) 10 := by show v_iv (w_fd _ _ _) = v_iv (w_fd _ _ _); rw [s1.2, if_neg (fun e => absurd e.2 (by decide))]
  have fe_0_11_1 : w_fi ws (n_v vs 0) 11 = v_iv (n_v vs 22) := by show v_iv (w_fd _ _ _) = _; rw [s1.2, if_pos ⟨rfl, rfl⟩]
  have fe_0_157_1 : w_fi ws (n_v vs 0) 157 = w_fi w1 (n_v vs 0) 157 := by show v_iv (w_fd _ _ _) = v_iv (w_fd _ _ _); rw [s1.2, if_neg (fun e => absurd e.2 (by decide))]
  have hE_0_1_1 : ∀ j : Int, w_ei ws (w_ar ws (n_v vs 0) 1) j = w_ei w1 (w_ar ws (n_v vs 0) 1) j := fun j => s1.1 _ _
  have hK_0_1 : ∀ j : Int, 0 ≤ j → j < 2000 → (-128) ≤ w_ei ws (w_ar ws (n_v vs 0) 1) j ∧ w_ei ws (w_ar ws (n_v vs 0) 1) j ≤ 127 := fun j h0 h1 => th_el hD hth cr_0_1 (kd := 1) (n := 2000) (m := 2000) (lo := (-128)) (hi := 127) (rs := []) (L := []) rfl (by decide) (j := j.toNat) (by omega)
  have kz_0_10 : 0 ≤ w_fi ws (n_v vs 0) 10 ∧ w_fi ws (n_v vs 0) 10 ≤ 2000 := tv_rng (th_fd hD hth r0 (g := GG_150) rfl (k := 10) (t := (0, 0, 2000, [])) rfl rfl)
  have kz_0_11 : 0 ≤ w_fi ws (n_v vs 0) 11 ∧ w_fi ws (n_v vs 0) 11 ≤ 2000 := tv_rng (th_fd hD hth r0 (g := GG_150) rfl (k := 11) (t := (0, 0, 2000, [])) rfl rfl)
  have kz_0_157 : 0 ≤ w_fi ws (n_v vs 0) 157 ∧ w_fi ws (n_v vs 0) 157 ≤ 2010 := tv_rng (th_fd hD hth r0 (g := GG_150) rfl (k := 157) (t := (0, 0, 2010, [])) rfl rfl)
  have nf0 : fc_1 (20, [2, 6], [50, 3, 1, 157, 11, 10, 1, 2, 7, 0, 3, 2, 0, 157, 1, 1, 2, 7, 0, 2, 1, 1, 2, 0, 11, 3, 11, 0, 6, 4, 2, 1, 1, 0, 1, 2, 0, 11, 2, 7, 1, 3, 2, 0, 11, 1, 1, 2, 11, 0, 6, 4, 2, 1, 1, 0, 1, 2, 0, 10, 2, 13, 0, 2, 0, 48, 9, 5, 3, 0, 1, 1, 1, 0, 256, 0, 9, 9, 5, 3, 0, 1, 1, 1, 0, 256, 0, 57]) ws (vs) := by
    refine ⟨fun n hn => ?_, ?_⟩
    · have hn : n ∈ [2, 6] := hn
      rw [hl]
      simp only [List.mem_cons, List.not_mem_nil, or_false] at hn
      show n < 23; omega
    · show (w_fi ws (n_v vs 2) 157 ≤ v_iv (n_v vs 6)) ∧ ((v_iv (n_v vs 6) ≤ w_fi ws (n_v vs 2) 11) ∧ (((v_iv (n_v vs 6) + 1) ≤ w_fi ws (n_v vs 2) 11) ∨ ((w_fi ws (n_v vs 2) 11 = v_iv (n_v vs 6)) ∧ (((v_iv (n_v vs 6) + 1) ≤ w_fi ws (n_v vs 2) 10) ∧ ((48 ≤ (w_ei ws (w_ar ws (n_v vs 2) 1) (v_iv (n_v vs 6)) % 256)) ∧ ((w_ei ws (w_ar ws (n_v vs 2) 1) (v_iv (n_v vs 6)) % 256) ≤ 57))))))
      rw [q2]
      first | omega | grind
  refine ⟨(fun _ h => (by cases h)), [], trivial, ?_, (fun _ h => (by cases h))⟩
  rw [List.append_nil]
  exact List.forall_mem_cons.mpr ⟨⟨show (20 : Nat) < 100 from by decide, nf0⟩, (fun _ h => (by cases h))⟩
def o_Mo_styleTokens_30 : or_T := (166, 23, [(0, (2, 0, 0, [150])), (2, (2, 0, 0, [150])), (6, (0, 0, 1999, [])), (9, (0, 0, 1999, [])), (10, (0, 0, 4001, [])), (11, (0, 48, 57, [])), (16, (0, 0, 255, [])), (17, (1, 0, 255, [])), (21, (0, 1, 1, [])), (22, (0, 1, 2000, []))], [(22, [17, 16], []), (20, [9, 2, 16], [50, 1, 1, 1010, 1001, 4, 11, 0, 6, 4, 2, 1, 0, 0, 1, 2, 1, 10, 1, 2, 1, 2, 9, 5, 3, 1, 1, 1, 0, 0, 256]), (20, [2, 9, 16], [50, 1, 0, 10, 4, 7, 0, 3, 2, 0, 10, 1, 1, 1, 2, 1, 2, 0, -1]), (20, [9, 2, 11], [50, 1, 1, 1010, 1001, 4, 11, 0, 6, 4, 2, 1, 0, 0, 1, 2, 1, 10, 1, 2, 1, 2, 9, 5, 3, 1, 1, 1, 0, 0, 256]), (20, [2, 9, 11], [50, 1, 0, 10, 4, 7, 0, 3, 2, 0, 10, 1, 1, 1, 2, 1, 2, 0, -1]), (20, [10, 6], [30, -4001, -1, 0, 0, -2, 0, 0]), (24, [0, 2], []), (101, [2, 22], [11]), (1, [22, 9, 21], []), (9, [9, 2], [11]), (22, [17, 16], []), (20, [9, 2, 16], [50, 1, 1, 1010, 1001, 4, 11, 0, 6, 4, 2, 1, 0, 0, 1, 2, 1, 10, 1, 2, 1, 2, 9, 5, 3, 1, 1, 1, 0, 0, 256]), (20, [2, 9, 16], [50, 1, 0, 10, 4, 7, 0, 3, 2, 0, 10, 1, 1, 1, 2, 1, 2, 0, -1]), (20, [9, 2, 11], [50, 1, 1, 1010, 1001, 4, 11, 0, 6, 4, 2, 1, 0, 0, 1, 2, 1, 10, 1, 2, 1, 2, 9, 5, 3, 1, 1, 1, 0, 0, 256]), (20, [2, 9, 11], [50, 1, 0, 10, 4, 7, 0, 3, 2, 0, 10, 1, 1, 1, 2, 1, 2, 0, -1]), (20, [2, 6], [50, 3, 1, 157, 11, 10, 1, 2, 7, 0, 3, 2, 0, 157, 1, 1, 2, 7, 0, 2, 1, 1, 2, 0, 11, 3, 11, 0, 6, 4, 2, 1, 1, 0, 1, 2, 0, 11, 2, 7, 1, 3, 2, 0, 11, 1, 1, 2, 11, 0, 6, 4, 2, 1, 1, 0, 1, 2, 0, 10, 2, 13, 0, 2, 0, 48, 9, 5, 3, 0, 1, 1, 1, 0, 256, 0, 9, 9, 5, 3, 0, 1, 1, 1, 0, 256, 0, 57]), (20, [10, 6], [30, -4001, -1, 0, 0, -2, 0, 0])], [], [], [(20, [2, 6], [50, 3, 1, 157, 11, 10, 1, 2, 7, 0, 3, 2, 0, 157, 1, 1, 2, 7, 0, 2, 1, 1, 2, 0, 11, 3, 11, 0, 6, 4, 2, 1, 1, 0, 1, 2, 0, 11, 2, 7, 1, 3, 2, 0, 11, 1, 1, 2, 11, 0, 6, 4, 2, 1, 1, 0, 1, 2, 0, 10, 2, 13, 0, 2, 0, 48, 9, 5, 3, 0, 1, 1, 1, 0, 256, 0, 9, 9, 5, 3, 0, 1, 1, 1, 0, 256, 0, 57])], [], [(22, 9, 1, 1), (6, 9, -4294967296, 0)])
theorem oo_Mo_styleTokens_30 {kA : Nat → ClassId} : or_ok kA GG o_Mo_styleTokens_30 := by
  intro A ta ws vs hD hth hl hk hds hf
  have hl : vs.length = 23 := hl
  have hk : ∀ q ∈ ([(0, (2, 0, 0, [150])), (2, (2, 0, 0, [150])), (6, (0, 0, 1999, [])), (9, (0, 0, 1999, [])), (10, (0, 0, 4001, [])), (11, (0, 48, 57, [])), (16, (0, 0, 255, [])), (17, (1, 0, 255, [])), (21, (0, 1, 1, [])), (22, (0, 1, 2000, []))] : List (Nat × tv_T)), tv_ok ta q.2 (n_v vs q.1) := hk
  obtain ⟨t0, hk⟩ := List.forall_mem_cons.mp hk
  have t0 : tv_ok ta (2, 0, 0, [150]) (n_v vs 0) := t0
  have r0 : ta (v_ad (n_v vs 0)) = some 150 := tv_rg t0
  obtain ⟨t2, hk⟩ := List.forall_mem_cons.mp hk
  have t2 : tv_ok ta (2, 0, 0, [150]) (n_v vs 2) := t2
  have r2 : ta (v_ad (n_v vs 2)) = some 150 := tv_rg t2
  obtain ⟨t6, hk⟩ := List.forall_mem_cons.mp hk
  have t6 : tv_ok ta (0, 0, 1999, []) (n_v vs 6) := t6
  have k6 : 0 ≤ v_iv (n_v vs 6) ∧ v_iv (n_v vs 6) ≤ 1999 := tv_rng t6
  obtain ⟨t9, hk⟩ := List.forall_mem_cons.mp hk
  have t9 : tv_ok ta (0, 0, 1999, []) (n_v vs 9) := t9
  have k9 : 0 ≤ v_iv (n_v vs 9) ∧ v_iv (n_v vs 9) ≤ 1999 := tv_rng t9
  obtain ⟨t10, hk⟩ := List.forall_mem_cons.mp hk
  have t10 : tv_ok ta (0, 0, 4001, []) (n_v vs 10) := t10
  have k10 : 0 ≤ v_iv (n_v vs 10) ∧ v_iv (n_v vs 10) ≤ 4001 := tv_rng t10
  obtain ⟨t11, hk⟩ := List.forall_mem_cons.mp hk
  have t11 : tv_ok ta (0, 48, 57, []) (n_v vs 11) := t11
  have k11 : 48 ≤ v_iv (n_v vs 11) ∧ v_iv (n_v vs 11) ≤ 57 := tv_rng t11
  obtain ⟨t16, hk⟩ := List.forall_mem_cons.mp hk
  have t16 : tv_ok ta (0, 0, 255, []) (n_v vs 16) := t16
  have k16 : 0 ≤ v_iv (n_v vs 16) ∧ v_iv (n_v vs 16) ≤ 255 := tv_rng t16
  obtain ⟨t17, hk⟩ := List.forall_mem_cons.mp hk
  have t17 : tv_ok ta (1, 0, 255, []) (n_v vs 17) := t17
  have k17 : 0 ≤ v_iv (n_v vs 17) ∧ v_iv (n_v vs 17) ≤ 255 := tv_rngL t17
  obtain ⟨t21, hk⟩ := List.forall_mem_cons.mp hk
  have t21 : tv_ok ta (0, 1, 1, []) (n_v vs 21) := t21
  have k21 : 1 ≤ v_iv (n_v vs 21) ∧ v_iv (n_v vs 21) ≤ 1 := tv_rng t21
  obtain ⟨t22, hk⟩ := List.forall_mem_cons.mp hk
  have t22 : tv_ok ta (0, 1, 2000, []) (n_v vs 22) := t22
  have k22 : 1 ≤ v_iv (n_v vs 22) ∧ v_iv (n_v vs 22) ≤ 2000 := tv_rng t22
  have hds : ∀ q ∈ ([(22, 9, 1, 1), (6, 9, -4294967296, 0)] : List of_T), n_iv vs q.2.1 + q.2.2.1 ≤ n_iv vs q.1 ∧ n_iv vs q.1 ≤ n_iv vs q.2.1 + q.2.2.2 := hds
  obtain ⟨d0, hds⟩ := List.forall_mem_cons.mp hds
  have d0 : v_iv (n_v vs 9) + 1 ≤ v_iv (n_v vs 22) ∧ v_iv (n_v vs 22) ≤ v_iv (n_v vs 9) + 1 := d0
  obtain ⟨d1, hds⟩ := List.forall_mem_cons.mp hds
  have d1 : v_iv (n_v vs 9) + (-4294967296) ≤ v_iv (n_v vs 6) ∧ v_iv (n_v vs 6) ≤ v_iv (n_v vs 9) + 0 := d1
  have hf : fc_ok [(22, [17, 16], []), (20, [9, 2, 16], [50, 1, 1, 1010, 1001, 4, 11, 0, 6, 4, 2, 1, 0, 0, 1, 2, 1, 10, 1, 2, 1, 2, 9, 5, 3, 1, 1, 1, 0, 0, 256]), (20, [2, 9, 16], [50, 1, 0, 10, 4, 7, 0, 3, 2, 0, 10, 1, 1, 1, 2, 1, 2, 0, -1]), (20, [9, 2, 11], [50, 1, 1, 1010, 1001, 4, 11, 0, 6, 4, 2, 1, 0, 0, 1, 2, 1, 10, 1, 2, 1, 2, 9, 5, 3, 1, 1, 1, 0, 0, 256]), (20, [2, 9, 11], [50, 1, 0, 10, 4, 7, 0, 3, 2, 0, 10, 1, 1, 1, 2, 1, 2, 0, -1]), (20, [10, 6], [30, -4001, -1, 0, 0, -2, 0, 0]), (24, [0, 2], []), (101, [2, 22], [11]), (1, [22, 9, 21], []), (9, [9, 2], [11]), (22, [17, 16], []), (20, [9, 2, 16], [50, 1, 1, 1010, 1001, 4, 11, 0, 6, 4, 2, 1, 0, 0, 1, 2, 1, 10, 1, 2, 1, 2, 9, 5, 3, 1, 1, 1, 0, 0, 256]), (20, [2, 9, 16], [50, 1, 0, 10, 4, 7, 0, 3, 2, 0, 10, 1, 1, 1, 2, 1, 2, 0, -1]), (20, [9, 2, 11], [50, 1, 1, 1010, 1001, 4, 11, 0, 6, 4, 2, 1, 0, 0, 1, 2, 1, 10, 1, 2, 1, 2, 9, 5, 3, 1, 1, 1, 0, 0, 256]), (20, [2, 9, 11], [50, 1, 0, 10, 4, 7, 0, 3, 2, 0, 10, 1, 1, 1, 2, 1, 2, 0, -1]), (20, [2, 6], [50, 3, 1, 157, 11, 10, 1, 2, 7, 0, 3, 2, 0, 157, 1, 1, 2, 7, 0, 2, 1, 1, 2, 0, 11, 3, 11, 0, 6, 4, 2, 1, 1, 0, 1, 2, 0, 11, 2, 7, 1, 3, 2, 0, 11, 1, 1, 2, 11, 0, 6, 4, 2, 1, 1, 0, 1, 2, 0, 10, 2, 13, 0, 2, 0, 48, 9, 5, 3, 0, 1, 1, 1, 0, 256, 0, 9, 9, 5, 3, 0, 1, 1, 1, 0, 256, 0, 57]), (20, [10, 6], [30, -4001, -1, 0, 0, -2, 0, 0])] ta ws vs := hf
  obtain ⟨f0, hf⟩ := fc_un (show (22 : Nat) < 100 from by decide) hf
  have f0 : v_iv (n_v vs 17) = v_iv (n_v vs 16) := f0
  obtain ⟨f1, hf⟩ := fc_un (show (20 : Nat) < 100 from by decide) hf
  have f1 : ((v_iv (n_v vs 9) + 1) ≤ w_fi ws (n_v vs 2) 10) → (v_iv (n_v vs 16) = (w_ei ws (w_ar ws (n_v vs 2) 1) (v_iv (n_v vs 9)) % 256)) := f1
  obtain ⟨f2, hf⟩ := fc_un (show (20 : Nat) < 100 from by decide) hf
  have f2 : (w_fi ws (n_v vs 2) 10 ≤ v_iv (n_v vs 9)) → (v_iv (n_v vs 16) = (-1)) := f2
  obtain ⟨f3, hf⟩ := fc_un (show (20 : Nat) < 100 from by decide) hf
  have f3 : ((v_iv (n_v vs 9) + 1) ≤ w_fi ws (n_v vs 2) 10) → (v_iv (n_v vs 11) = (w_ei ws (w_ar ws (n_v vs 2) 1) (v_iv (n_v vs 9)) % 256)) := f3
  obtain ⟨f4, hf⟩ := fc_un (show (20 : Nat) < 100 from by decide) hf
  have f4 : (w_fi ws (n_v vs 2) 10 ≤ v_iv (n_v vs 9)) → (v_iv (n_v vs 11) = (-1)) := f4
  obtain ⟨f5, hf⟩ := fc_un (show (20 : Nat) < 100 from by decide) hf
  have f5 : (-1) * v_iv (n_v vs 10) + ((-2) * v_iv (n_v vs 6) + 0) ≤ (-4001) := f5
  obtain ⟨f6, hf⟩ := fc_un (show (24 : Nat) < 100 from by decide) hf
  have f6 : n_v vs 0 = n_v vs 2 := f6
  obtain ⟨ta1, w1, le1, ⟨_, s1⟩, hf⟩ := fc_us (show ¬ (101 : Nat) < 100 from by decide) hf
  have s1 : (∀ b j, w_el ws b j = w_el w1 b j) ∧ ∀ b j, w_fd ws b j = if b = v_ad (n_v vs 2) ∧ j = 11 then n_v vs 22 else w_fd w1 b j := s1
  obtain ⟨f8, hf⟩ := fc_un (show (1 : Nat) < 100 from by decide) hf
  have f8 : v_iv (n_v vs 22) = v_iv (n_v vs 9) + v_iv (n_v vs 21) := f8
  obtain ⟨f9, hf⟩ := fc_un (show (9 : Nat) < 100 from by decide) hf
  have f9 : n_v vs 9 = w_fd w1 (v_ad (n_v vs 2)) 11 := f9
  obtain ⟨f10, hf⟩ := fc_un (show (22 : Nat) < 100 from by decide) hf
  have f10 : v_iv (n_v vs 17) = v_iv (n_v vs 16) := f10
  obtain ⟨f11, hf⟩ := fc_un (show (20 : Nat) < 100 from by decide) hf
  have f11 : ((v_iv (n_v vs 9) + 1) ≤ w_fi w1 (n_v vs 2) 10) → (v_iv (n_v vs 16) = (w_ei w1 (w_ar w1 (n_v vs 2) 1) (v_iv (n_v vs 9)) % 256)) := f11
  obtain ⟨f12, hf⟩ := fc_un (show (20 : Nat) < 100 from by decide) hf
  have f12 : (w_fi w1 (n_v vs 2) 10 ≤ v_iv (n_v vs 9)) → (v_iv (n_v vs 16) = (-1)) := f12
  obtain ⟨f13, hf⟩ := fc_un (show (20 : Nat) < 100 from by decide) hf
  have f13 : ((v_iv (n_v vs 9) + 1) ≤ w_fi w1 (n_v vs 2) 10) → (v_iv (n_v vs 11) = (w_ei w1 (w_ar w1 (n_v vs 2) 1) (v_iv (n_v vs 9)) % 256)) := f13
  obtain ⟨f14, hf⟩ := fc_un (show (20 : Nat) < 100 from by decide) hf
  have f14 : (w_fi w1 (n_v vs 2) 10 ≤ v_iv (n_v vs 9)) → (v_iv (n_v vs 11) = (-1)) := f14
  obtain ⟨f15, hf⟩ := fc_un (show (20 : Nat) < 100 from by decide) hf
  have f15 : (w_fi w1 (n_v vs 2) 157 ≤ v_iv (n_v vs 6)) ∧ ((v_iv (n_v vs 6) ≤ w_fi w1 (n_v vs 2) 11) ∧ (((v_iv (n_v vs 6) + 1) ≤ w_fi w1 (n_v vs 2) 11) ∨ ((w_fi w1 (n_v vs 2) 11 = v_iv (n_v vs 6)) ∧ (((v_iv (n_v vs 6) + 1) ≤ w_fi w1 (n_v vs 2) 10) ∧ ((48 ≤ (w_ei w1 (w_ar w1 (n_v vs 2) 1) (v_iv (n_v vs 6)) % 256)) ∧ ((w_ei w1 (w_ar w1 (n_v vs 2) 1) (v_iv (n_v vs 6)) % 256) ≤ 57)))))) := f15
  obtain ⟨f16, hf⟩ := fc_un (show (20 : Nat) < 100 from by decide) hf
  have f16 : (-1) * v_iv (n_v vs 10) + ((-2) * v_iv (n_v vs 6) + 0) ≤ (-4001) := f16
  have q2 : n_v vs 2 = n_v vs 0 := f6.symm
  rw [q2] at f1
  rw [q2] at f2
  rw [q2] at f3
  rw [q2] at f4
  rw [q2] at s1
  rw [q2] at f9
  rw [q2] at f11
  rw [q2] at f12
  rw [q2] at f13
  rw [q2] at f14
  rw [q2] at f15
  have ar_0_1_1 : w_ar w1 (n_v vs 0) 1 = w_ar ws (n_v vs 0) 1 := by show v_ad (w_fd w1 _ _) = v_ad (w_fd ws _ _); rw [s1.2, if_neg (fun e => absurd e.2 (by decide))]
  have cr_0_1 : ta (w_ar ws (n_v vs 0) 1) = some 151 := tv_rg (th_fd hD hth r0 (g := GG_150) rfl (k := 1) (t := (2, 0, 0, [151])) rfl rfl)
  have g9 : v_iv (n_v vs 9) = w_fi w1 (n_v vs 0) 11 := congrArg v_iv f9
  rw [ar_0_1_1] at f11
  rw [ar_0_1_1] at f13
  rw [ar_0_1_1] at f15
  have fe_0_10_1 : w_fi ws (n_v vs 0) 10 = w_fi w1 (n_v vs 0) 10 := by show v_iv (w_fd _ _ _) = v_iv (w_fd _ _ _); rw [s1.2, if_neg (fun e => absurd e.2 (by decide))]
  have fe_0_11_1 : w_fi ws (n_v vs 0) 11 = v_iv (n_v vs 22) := by show v_iv (w_fd _ _ _) = _; rw [s1.2, if_pos ⟨rfl, rfl⟩]
  have fe_0_157_1 : w_fi ws (n_v vs 0) 157 = w_fi w1 (n_v vs 0) 157 := by show v_iv (w_fd _ _ _) = v_iv (w_fd _ _ _); rw [s1.2, if_neg (fun e => absurd e.2 (by decide))]
  have hE_0_1_1 : ∀ j : Int, w_ei ws (w_ar ws (n_v vs 0) 1) j = w_ei w1 (w_ar ws (n_v vs 0) 1) j := fun j => s1.1 _ _
  have hK_0_1 : ∀ j : Int, 0 ≤ j → j < 2000 → (-128) ≤ w_ei ws (w_ar ws (n_v vs 0) 1) j ∧ w_ei ws (w_ar ws (n_v vs 0) 1) j ≤ 127 := fun j h0 h1 => th_el hD hth cr_0_1 (kd := 1) (n := 2000) (m := 2000) (lo := (-128)) (hi := 127) (rs := []) (L := []) rfl (by decide) (j := j.toNat) (by omega)
  have kz_0_10 : 0 ≤ w_fi ws (n_v vs 0) 10 ∧ w_fi ws (n_v vs 0) 10 ≤ 2000 := tv_rng (th_fd hD hth r0 (g := GG_150) rfl (k := 10) (t := (0, 0, 2000, [])) rfl rfl)
  have kz_0_11 : 0 ≤ w_fi ws (n_v vs 0) 11 ∧ w_fi ws (n_v vs 0) 11 ≤ 2000 := tv_rng (th_fd hD hth r0 (g := GG_150) rfl (k := 11) (t := (0, 0, 2000, [])) rfl rfl)
  have kz_0_157 : 0 ≤ w_fi ws (n_v vs 0) 157 ∧ w_fi ws (n_v vs 0) 157 ≤ 2010 := tv_rng (th_fd hD hth r0 (g := GG_150) rfl (k := 157) (t := (0, 0, 2010, [])) rfl rfl)
  have nf0 : fc_1 (20, [2, 6], [50, 3, 1, 157, 11, 10, 1, 2, 7, 0, 3, 2, 0, 157, 1, 1, 2, 7, 0, 2, 1, 1, 2, 0, 11, 3, 11, 0, 6, 4, 2, 1, 1, 0, 1, 2, 0, 11, 2, 7, 1, 3, 2, 0, 11, 1, 1, 2, 11, 0, 6, 4, 2, 1, 1, 0, 1, 2, 0, 10, 2, 13, 0, 2, 0, 48, 9, 5, 3, 0, 1, 1, 1, 0, 256, 0, 9, 9, 5, 3, 0, 1, 1, 1, 0, 256, 0, 57]) ws (vs) := by
    refine ⟨fun n hn => ?_, ?_⟩
    · have hn : n ∈ [2, 6] := hn
      rw [hl]
      simp only [List.mem_cons, List.not_mem_nil, or_false] at hn
      show n < 23; omega
    · show (w_fi ws (n_v vs 2) 157 ≤ v_iv (n_v vs 6)) ∧ ((v_iv (n_v vs 6) ≤ w_fi ws (n_v vs 2) 11) ∧ (((v_iv (n_v vs 6) + 1) ≤ w_fi ws (n_v vs 2) 11) ∨ ((w_fi ws (n_v vs 2) 11 = v_iv (n_v vs 6)) ∧ (((v_iv (n_v vs 6) + 1) ≤ w_fi ws (n_v vs 2) 10) ∧ ((48 ≤ (w_ei ws (w_ar ws (n_v vs 2) 1) (v_iv (n_v vs 6)) % 256)) ∧ ((w_ei ws (w_ar ws (n_v vs 2) 1) (v_iv (n_v vs 6)) % 256) ≤ 57))))))
      rw [q2]
      first | omega | grind
  refine ⟨(fun _ h => (by cases h)), [], trivial, ?_, (fun _ h => (by cases h))⟩
  rw [List.append_nil]
  exact List.forall_mem_cons.mpr ⟨⟨show (20 : Nat) < 100 from by decide, nf0⟩, (fun _ h => (by cases h))⟩
def o_Mo_styleTokens_31 : or_T := (166, 16, [(0, (2, 0, 0, [150])), (2, (2, 0, 0, [150])), (6, (0, 0, 1999, [])), (9, (0, 0, 1999, [])), (10, (0, 0, 4001, [])), (11, (0, 48, 57, [])), (14, (0, 1, 1, [])), (15, (0, 1, 2000, []))], [(20, [9, 2, 11], [50, 1, 1, 1010, 1001, 4, 11, 0, 6, 4, 2, 1, 0, 0, 1, 2, 1, 10, 1, 2, 1, 2, 9, 5, 3, 1, 1, 1, 0, 0, 256]), (20, [2, 9, 11], [50, 1, 0, 10, 4, 7, 0, 3, 2, 0, 10, 1, 1, 1, 2, 1, 2, 0, -1]), (20, [10, 6], [30, -4001, -1, 0, 0, -2, 0, 0]), (24, [0, 2], []), (101, [2, 15], [11]), (1, [15, 9, 14], []), (9, [9, 2], [11]), (20, [9, 2, 11], [50, 1, 1, 1010, 1001, 4, 11, 0, 6, 4, 2, 1, 0, 0, 1, 2, 1, 10, 1, 2, 1, 2, 9, 5, 3, 1, 1, 1, 0, 0, 256]), (20, [2, 9, 11], [50, 1, 0, 10, 4, 7, 0, 3, 2, 0, 10, 1, 1, 1, 2, 1, 2, 0, -1]), (20, [2, 6], [50, 3, 1, 157, 11, 10, 1, 2, 7, 0, 3, 2, 0, 157, 1, 1, 2, 7, 0, 2, 1, 1, 2, 0, 11, 3, 11, 0, 6, 4, 2, 1, 1, 0, 1, 2, 0, 11, 2, 7, 1, 3, 2, 0, 11, 1, 1, 2, 11, 0, 6, 4, 2, 1, 1, 0, 1, 2, 0, 10, 2, 13, 0, 2, 0, 48, 9, 5, 3, 0, 1, 1, 1, 0, 256, 0, 9, 9, 5, 3, 0, 1, 1, 1, 0, 256, 0, 57]), (20, [10, 6], [30, -4001, -1, 0, 0, -2, 0, 0])], [], [], [(20, [2, 6], [50, 3, 1, 157, 11, 10, 1, 2, 7, 0, 3, 2, 0, 157, 1, 1, 2, 7, 0, 2, 1, 1, 2, 0, 11, 3, 11, 0, 6, 4, 2, 1, 1, 0, 1, 2, 0, 11, 2, 7, 1, 3, 2, 0, 11, 1, 1, 2, 11, 0, 6, 4, 2, 1, 1, 0, 1, 2, 0, 10, 2, 13, 0, 2, 0, 48, 9, 5, 3, 0, 1, 1, 1, 0, 256, 0, 9, 9, 5, 3, 0, 1, 1, 1, 0, 256, 0, 57])], [], [(15, 9, 1, 1), (6, 9, -4294967296, 0)])
theorem oo_Mo_styleTokens_31 {kA : Nat → ClassId} : or_ok kA GG o_Mo_styleTokens_31 := by
  intro A ta ws vs hD hth hl hk hds hf
  have hl : vs.length = 16 := hl
  have hk : ∀ q ∈ ([(0, (2, 0, 0, [150])), (2, (2, 0, 0, [150])), (6, (0, 0, 1999, [])), (9, (0, 0, 1999, [])), (10, (0, 0, 4001, [])), (11, (0, 48, 57, [])), (14, (0, 1, 1, [])), (15, (0, 1, 2000, []))] : List (Nat × tv_T)), tv_ok ta q.2 (n_v vs q.1) := hk
  obtain ⟨t0, hk⟩ := List.forall_mem_cons.mp hk
  have t0 : tv_ok ta (2, 0, 0, [150]) (n_v vs 0) := t0
  have r0 : ta (v_ad (n_v vs 0)) = some 150 := tv_rg t0
  obtain ⟨t2, hk⟩ := List.forall_mem_cons.mp hk
  have t2 : tv_ok ta (2, 0, 0, [150]) (n_v vs 2) := t2
  have r2 : ta (v_ad (n_v vs 2)) = some 150 := tv_rg t2
  obtain ⟨t6, hk⟩ := List.forall_mem_cons.mp hk
  have t6 : tv_ok ta (0, 0, 1999, []) (n_v vs 6) := t6
  have k6 : 0 ≤ v_iv (n_v vs 6) ∧ v_iv (n_v vs 6) ≤ 1999 := tv_rng t6
  obtain ⟨t9, hk⟩ := List.forall_mem_cons.mp hk
  have t9 : tv_ok ta (0, 0, 1999, []) (n_v vs 9) := t9
  have k9 : 0 ≤ v_iv (n_v vs 9) ∧ v_iv (n_v vs 9) ≤ 1999 := tv_rng t9
  obtain ⟨t10, hk⟩ := List.forall_mem_cons.mp hk
  have t10 : tv_ok ta (0, 0, 4001, []) (n_v vs 10) := t10
  have k10 : 0 ≤ v_iv (n_v vs 10) ∧ v_iv (n_v vs 10) ≤ 4001 := tv_rng t10
  obtain ⟨t11, hk⟩ := List.forall_mem_cons.mp hk
  have t11 : tv_ok ta (0, 48, 57, []) (n_v vs 11) := t11
  have k11 : 48 ≤ v_iv (n_v vs 11) ∧ v_iv (n_v vs 11) ≤ 57 := tv_rng t11
  obtain ⟨t14, hk⟩ := List.forall_mem_cons.mp hk
  have t14 : tv_ok ta (0, 1, 1, []) (n_v vs 14) := t14
  have k14 : 1 ≤ v_iv (n_v vs 14) ∧ v_iv (n_v vs 14) ≤ 1 := tv_rng t14
  obtain ⟨t15, hk⟩ := List.forall_mem_cons.mp hk
  have t15 : tv_ok ta (0, 1, 2000, []) (n_v vs 15) := t15
  have k15 : 1 ≤ v_iv (n_v vs 15) ∧ v_iv (n_v vs 15) ≤ 2000 := tv_rng t15
  have hds : ∀ q ∈ ([(15, 9, 1, 1), (6, 9, -4294967296, 0)] : List of_T), n_iv vs q.2.1 + q.2.2.1 ≤ n_iv vs q.1 ∧ n_iv vs q.1 ≤ n_iv vs q.2.1 + q.2.2.2 := hds
  obtain ⟨d0, hds⟩ := List.forall_mem_cons.mp hds
  have d0 : v_iv (n_v vs 9) + 1 ≤ v_iv (n_v vs 15) ∧ v_iv (n_v vs 15) ≤ v_iv (n_v vs 9) + 1 := d0
  obtain ⟨d1, hds⟩ := List.forall_mem_cons.mp hds
  have d1 : v_iv (n_v vs 9) + (-4294967296) ≤ v_iv (n_v vs 6) ∧ v_iv (n_v vs 6) ≤ v_iv (n_v vs 9) + 0 := d1
  have hf : fc_ok [(20, [9, 2, 11], [50, 1, 1, 1010, 1001, 4, 11, 0, 6, 4, 2, 1, 0, 0, 1, 2, 1, 10, 1, 2, 1, 2, 9, 5, 3, 1, 1, 1, 0, 0, 256]), (20, [2, 9, 11], [50, 1, 0, 10, 4, 7, 0, 3, 2, 0, 10, 1, 1, 1, 2, 1, 2, 0, -1]), (20, [10, 6], [30, -4001, -1, 0, 0, -2, 0, 0]), (24, [0, 2], []), (101, [2, 15], [11]), (1, [15, 9, 14], []), (9, [9, 2], [11]), (20, [9, 2, 11], [50, 1, 1, 1010, 1001, 4, 11, 0, 6, 4, 2, 1, 0, 0, 1, 2, 1, 10, 1, 2, 1, 2, 9, 5, 3, 1, 1, 1, 0, 0, 256]), (20, [2, 9, 11], [50, 1, 0, 10, 4, 7, 0, 3, 2, 0, 10, 1, 1, 1, 2, 1, 2, 0, -1]), (20, [2, 6], [50, 3, 1, 157, 11, 10, 1, 2, 7, 0, 3, 2, 0, 157, 1, 1, 2, 7, 0, 2, 1, 1, 2, 0, 11, 3, 11, 0, 6, 4, 2, 1, 1, 0, 1, 2, 0, 11, 2, 7, 1, 3, 2, 0, 11, 1, 1, 2, 11, 0, 6, 4, 2, 1, 1, 0, 1, 2, 0, 10, 2, 13, 0, 2, 0, 48, 9, 5, 3, 0, 1, 1, 1, 0, 256, 0, 9, 9, 5, 3, 0, 1, 1, 1, 0, 256, 0, 57]), (20, [10, 6], [30, -4001, -1, 0, 0, -2, 0, 0])] ta ws vs := hf
  obtain ⟨f0, hf⟩ := fc_un (show (20 : Nat) < 100 from by decide) hf
  have f0 : ((v_iv (n_v vs 9) + 1) ≤ w_fi ws (n_v vs 2) 10) → (v_iv (n_v vs 11) = (w_ei ws (w_ar ws (n_v vs 2) 1) (v_iv (n_v vs 9)) % 256)) := f0
  obtain ⟨f1, hf⟩ := fc_un (show (20 : Nat) < 100 from by decide) hf
  have f1 : (w_fi ws (n_v vs 2) 10 ≤ v_iv (n_v vs 9)) → (v_iv (n_v vs 11) = (-1)) := f1
  obtain ⟨f2, hf⟩ := fc_un (show (20 : Nat) < 100 from by decide) hf
  have f2 : (-1) * v_iv (n_v vs 10) + ((-2) * v_iv (n_v vs 6) + 0) ≤ (-4001) := f2
  obtain ⟨f3, hf⟩ := fc_un (show (24 : Nat) < 100 from by decide) hf
  have f3 : n_v vs 0 = n_v vs 2 := f3
  obtain ⟨ta1, w1, le1, ⟨_, s1⟩, hf⟩ := fc_us (show ¬ (101 : Nat) < 100 from by decide) hf
  have s1 : (∀ b j, w_el ws b j = w_el w1 b j) ∧ ∀ b j, w_fd ws b j = if b = v_ad (n_v vs 2) ∧ j = 11 then n_v vs 15 else w_fd w1 b j := s1
  obtain ⟨f5, hf⟩ := fc_un (show (1 : Nat) < 100 from by decide) hf
  have f5 : v_iv (n_v vs 15) = v_iv (n_v vs 9) + v_iv (n_v vs 14) := f5
  obtain ⟨f6, hf⟩ := fc_un (show (9 : Nat) < 100 from by decide) hf
  have f6 : n_v vs 9 = w_fd w1 (v_ad (n_v vs 2)) 11 := f6
  obtain ⟨f7, hf⟩ := fc_un (show (20 : Nat) < 100 from by decide) hf
  have f7 : ((v_iv (n_v vs 9) + 1) ≤ w_fi w1 (n_v vs 2) 10) → (v_iv (n_v vs 11) = (w_ei w1 (w_ar w1 (n_v vs 2) 1) (v_iv (n_v vs 9)) % 256)) := f7
  obtain ⟨f8, hf⟩ := fc_un (show (20 : Nat) < 100 from by decide) hf
  have f8 : (w_fi w1 (n_v vs 2) 10 ≤ v_iv (n_v vs 9)) → (v_iv (n_v vs 11) = (-1)) := f8
  obtain ⟨f9, hf⟩ := fc_un (show (20 : Nat) < 100 from by decide) hf
  have f9 : (w_fi w1 (n_v vs 2) 157 ≤ v_iv (n_v vs 6)) ∧ ((v_iv (n_v vs 6) ≤ w_fi w1 (n_v vs 2) 11) ∧ (((v_iv (n_v vs 6) + 1) ≤ w_fi w1 (n_v vs 2) 11) ∨ ((w_fi w1 (n_v vs 2) 11 = v_iv (n_v vs 6)) ∧ (((v_iv (n_v vs 6) + 1) ≤ w_fi w1 (n_v vs 2) 10) ∧ ((48 ≤ (w_ei w1 (w_ar w1 (n_v vs 2) 1) (v_iv (n_v vs 6)) % 256)) ∧ ((w_ei w1 (w_ar w1 (n_v vs 2) 1) (v_iv (n_v vs 6)) % 256) ≤ 57)))))) := f9
  obtain ⟨f10, hf⟩ := fc_un (show (20 : Nat) < 100 from by decide) hf
  have f10 : (-1) * v_iv (n_v vs 10) + ((-2) * v_iv (n_v vs 6) + 0) ≤ (-4001) := f10
  have q2 : n_v vs 2 = n_v vs 0 := f3.symm
  rw [q2] at f0
  rw [q2] at f1
  rw [q2] at s1
  rw [q2] at f6
  rw [q2] at f7
  rw [q2] at f8
  rw [q2] at f9
  have ar_0_1_1 : w_ar w1 (n_v vs 0) 1 = w_ar ws (n_v vs 0) 1 := by show v_ad (w_fd w1 _ _) = v_ad (w_fd ws _ _); rw [s1.2, if_neg (fun e => absurd e.2 (by decide))]
  have cr_0_1 : ta (w_ar ws (n_v vs 0) 1) = some 151 := tv_rg (th_fd hD hth r0 (g := GG_150) rfl (k := 1) (t := (2, 0, 0, [151])) rfl rfl)
  have g6 : v_iv (n_v vs 9) = w_fi w1 (n_v vs 0) 11 := congrArg v_iv f6
  rw [ar_0_1_1] at f7
  rw [ar_0_1_1] at f9
  have fe_0_10_1 : w_fi ws (n_v vs 0) 10 = w_fi w1 (n_v vs 0) 10 := by show v_iv (w_fd _ _ _) = v_iv (w_fd _ _ _); rw [s1.2, if_neg (fun e => absurd e.2 (by decide))]
  have fe_0_11_1 : w_fi ws (n_v vs 0) 11 = v_iv (n_v vs 15) := by show v_iv (w_fd _ _ _) = _; rw [s1.2, if_pos ⟨rfl, rfl⟩]
  have fe_0_157_1 : w_fi ws (n_v vs 0) 157 = w_fi w1 (n_v vs 0) 157 := by show v_iv (w_fd _ _ _) = v_iv (w_fd _ _ _); rw [s1.2, if_neg (fun e => absurd e.2 (by decide))]
  have hE_0_1_1 : ∀ j : Int, w_ei ws (w_ar ws (n_v vs 0) 1) j = w_ei w1 (w_ar ws (n_v vs 0) 1) j := fun j => s1.1 _ _
  have hK_0_1 : ∀ j : Int, 0 ≤ j → j < 2000 → (-128) ≤ w_ei ws (w_ar ws (n_v vs 0) 1) j ∧ w_ei ws (w_ar ws (n_v vs 0) 1) j ≤ 127 := fun j h0 h1 => th_el hD hth cr_0_1 (kd := 1) (n := 2000) (m := 2000) (lo := (-128)) (hi := 127) (rs := []) (L := []) rfl (by decide) (j := j.toNat) (by omega)
  have kz_0_10 : 0 ≤ w_fi ws (n_v vs 0) 10 ∧ w_fi ws (n_v vs 0) 10 ≤ 2000 := tv_rng (th_fd hD hth r0 (g := GG_150) rfl (k := 10) (t := (0, 0, 2000, [])) rfl rfl)
  have kz_0_11 : 0 ≤ w_fi ws (n_v vs 0) 11 ∧ w_fi ws (n_v vs 0) 11 ≤ 2000 := tv_rng (th_fd hD hth r0 (g := GG_150) rfl (k := 11) (t := (0, 0, 2000, [])) rfl rfl)
  have kz_0_157 : 0 ≤ w_fi ws (n_v vs 0) 157 ∧ w_fi ws (n_v vs 0) 157 ≤ 2010 := tv_rng (th_fd hD hth r0 (g := GG_150) rfl (k := 157) (t := (0, 0, 2010, [])) rfl rfl)
  have nf0 : fc_1 (20, [2, 6], [50, 3, 1, 157, 11, 10, 1, 2, 7, 0, 3, 2, 0, 157, 1, 1, 2, 7, 0, 2, 1, 1, 2, 0, 11, 3, 11, 0, 6, 4, 2, 1, 1, 0, 1, 2, 0, 11, 2, 7, 1, 3, 2, 0, 11, 1, 1, 2, 11, 0, 6, 4, 2, 1, 1, 0, 1, 2, 0, 10, 2, 13, 0, 2, 0, 48, 9, 5, 3, 0, 1, 1, 1, 0, 256, 0, 9, 9, 5, 3, 0, 1, 1, 1, 0, 256, 0, 57]) ws (vs) := by
    refine ⟨fun n hn => ?_, ?_⟩
    · have hn : n ∈ [2, 6] := hn
      rw [hl]
      simp only [List.mem_cons, List.not_mem_nil, or_false] at hn
      show n < 16; omega
    · show (w_fi ws (n_v vs 2) 157 ≤ v_iv (n_v vs 6)) ∧ ((v_iv (n_v vs 6) ≤ w_fi ws (n_v vs 2) 11) ∧ (((v_iv (n_v vs 6) + 1) ≤ w_fi ws (n_v vs 2) 11) ∨ ((w_fi ws (n_v vs 2) 11 = v_iv (n_v vs 6)) ∧ (((v_iv (n_v vs 6) + 1) ≤ w_fi ws (n_v vs 2) 10) ∧ ((48 ≤ (w_ei ws (w_ar ws (n_v vs 2) 1) (v_iv (n_v vs 6)) % 256)) ∧ ((w_ei ws (w_ar ws (n_v vs 2) 1) (v_iv (n_v vs 6)) % 256) ≤ 57))))))
      rw [q2]
      first | omega | grind
  refine ⟨(fun _ h => (by cases h)), [], trivial, ?_, (fun _ h => (by cases h))⟩
  rw [List.append_nil]
  exact List.forall_mem_cons.mpr ⟨⟨show (20 : Nat) < 100 from by decide, nf0⟩, (fun _ h => (by cases h))⟩
def o_Mo_styleTokens_32 : or_T := (334, 12, [(0, (2, 0, 0, [150])), (2, (2, 0, 0, [150])), (6, (0, 0, 1999, [])), (10, (0, 0, 4001, []))], [(20, [2, 6], [50, 2, 0, 157, 11, 2, 7, 0, 3, 2, 0, 157, 1, 1, 1, 3, 2, 0, 11, 1, 1]), (20, [10, 6], [30, -4001, -1, 0, 0, -2, 0, 0]), (24, [0, 2], [])], [], [(0, 0, 4001, [])], [(20, [2, 6], [50, 2, 0, 157, 11, 2, 7, 0, 3, 2, 0, 157, 1, 1, 1, 3, 2, 0, 11, 1, 1]), (20, [12, 6], [30, -4001, -1, 0, 0, -2, 0, 0]), (24, [0, 2], [])], [(12, 10, 0, 0)], [])
theorem oo_Mo_styleTokens_32 {kA : Nat → ClassId} : or_ok kA GG o_Mo_styleTokens_32 := by
  intro A ta ws vs hD hth hl hk hds hf
  have hl : vs.length = 12 := hl
  have hk : ∀ q ∈ ([(0, (2, 0, 0, [150])), (2, (2, 0, 0, [150])), (6, (0, 0, 1999, [])), (10, (0, 0, 4001, []))] : List (Nat × tv_T)), tv_ok ta q.2 (n_v vs q.1) := hk
  obtain ⟨t0, hk⟩ := List.forall_mem_cons.mp hk
  have t0 : tv_ok ta (2, 0, 0, [150]) (n_v vs 0) := t0
  have r0 : ta (v_ad (n_v vs 0)) = some 150 := tv_rg t0
  obtain ⟨t2, hk⟩ := List.forall_mem_cons.mp hk
  have t2 : tv_ok ta (2, 0, 0, [150]) (n_v vs 2) := t2
  have r2 : ta (v_ad (n_v vs 2)) = some 150 := tv_rg t2
  obtain ⟨t6, hk⟩ := List.forall_mem_cons.mp hk
  have t6 : tv_ok ta (0, 0, 1999, []) (n_v vs 6) := t6
  have k6 : 0 ≤ v_iv (n_v vs 6) ∧ v_iv (n_v vs 6) ≤ 1999 := tv_rng t6
  obtain ⟨t10, hk⟩ := List.forall_mem_cons.mp hk
  have t10 : tv_ok ta (0, 0, 4001, []) (n_v vs 10) := t10
  have k10 : 0 ≤ v_iv (n_v vs 10) ∧ v_iv (n_v vs 10) ≤ 4001 := tv_rng t10
  have hf : fc_ok [(20, [2, 6], [50, 2, 0, 157, 11, 2, 7, 0, 3, 2, 0, 157, 1, 1, 1, 3, 2, 0, 11, 1, 1]), (20, [10, 6], [30, -4001, -1, 0, 0, -2, 0, 0]), (24, [0, 2], [])] ta ws vs := hf
  obtain ⟨f0, hf⟩ := fc_un (show (20 : Nat) < 100 from by decide) hf
  have f0 : (w_fi ws (n_v vs 2) 157 ≤ v_iv (n_v vs 6)) ∧ (w_fi ws (n_v vs 2) 11 = v_iv (n_v vs 6)) := f0
  obtain ⟨f1, hf⟩ := fc_un (show (20 : Nat) < 100 from by decide) hf
  have f1 : (-1) * v_iv (n_v vs 10) + ((-2) * v_iv (n_v vs 6) + 0) ≤ (-4001) := f1
  obtain ⟨f2, hf⟩ := fc_un (show (24 : Nat) < 100 from by decide) hf
  have f2 : n_v vs 0 = n_v vs 2 := f2
  have q2 : n_v vs 2 = n_v vs 0 := f2.symm
  rw [q2] at f0
  have kz_0_11 : 0 ≤ w_fi ws (n_v vs 0) 11 ∧ w_fi ws (n_v vs 0) 11 ≤ 2000 := tv_rng (th_fd hD hth r0 (g := GG_150) rfl (k := 11) (t := (0, 0, 2000, [])) rfl rfl)
  have kz_0_157 : 0 ≤ w_fi ws (n_v vs 0) 157 ∧ w_fi ws (n_v vs 0) 157 ≤ 2010 := tv_rng (th_fd hD hth r0 (g := GG_150) rfl (k := 157) (t := (0, 0, 2010, [])) rfl rfl)
  obtain ⟨x, ex, hx⟩ := iv_ex (ta := ta) (lo := 0) (hi := 4001) (z := 0 + (1 * v_iv (n_v vs 10) + 0)) (by omega) (by omega) (by omega) (by omega)
  have ex2 : v_iv (Value.int x) = 0 + (1 * v_iv (n_v vs 10) + 0) := ex
  have ex3 : 0 ≤ v_iv (Value.int x) ∧ v_iv (Value.int x) ≤ 4001 := tv_rng hx
  have e_0 : n_v (vs ++ [Value.int x]) 0 = n_v vs 0 := n_v_old (by rw [hl]; decide)
  have e_2 : n_v (vs ++ [Value.int x]) 2 = n_v vs 2 := n_v_old (by rw [hl]; decide)
  have e_6 : n_v (vs ++ [Value.int x]) 6 = n_v vs 6 := n_v_old (by rw [hl]; decide)
  have e_12 : n_v (vs ++ [Value.int x]) 12 = Value.int x := n_v_new hl
  have nf0 : fc_1 (20, [2, 6], [50, 2, 0, 157, 11, 2, 7, 0, 3, 2, 0, 157, 1, 1, 1, 3, 2, 0, 11, 1, 1]) ws (vs ++ [Value.int x]) := by
    refine ⟨fun n hn => ?_, ?_⟩
    · have hn : n ∈ [2, 6] := hn
      rw [List.length_append, hl]
      simp only [List.mem_cons, List.not_mem_nil, or_false] at hn
      show n < 12 + 1; omega
    · show (w_fi ws (n_v (vs ++ [Value.int x]) 2) 157 ≤ v_iv (n_v (vs ++ [Value.int x]) 6)) ∧ (w_fi ws (n_v (vs ++ [Value.int x]) 2) 11 = v_iv (n_v (vs ++ [Value.int x]) 6))
      rw [e_2]
      rw [e_6]
      rw [q2]
      first | omega | grind
  have nf1 : fc_1 (20, [12, 6], [30, -4001, -1, 0, 0, -2, 0, 0]) ws (vs ++ [Value.int x]) := by
    refine ⟨fun n hn => ?_, ?_⟩
    · have hn : n ∈ [12, 6] := hn
      rw [List.length_append, hl]
      simp only [List.mem_cons, List.not_mem_nil, or_false] at hn
      show n < 12 + 1; omega
    · show (-1) * v_iv (n_v (vs ++ [Value.int x]) 12) + ((-2) * v_iv (n_v (vs ++ [Value.int x]) 6) + 0) ≤ (-4001)
      rw [e_6]
      rw [e_12]
      omega
  have nf2 : fc_1 (24, [0, 2], []) ws (vs ++ [Value.int x]) := by
    refine ⟨fun n hn => ?_, ?_⟩
    · have hn : n ∈ [0, 2] := hn
      rw [List.length_append, hl]
      simp only [List.mem_cons, List.not_mem_nil, or_false] at hn
      show n < 12 + 1; omega
    · show n_v (vs ++ [Value.int x]) 0 = n_v (vs ++ [Value.int x]) 2
      first | rfl | simp only [e_0, e_2, q2]
  obtain ⟨x0, e0, _, _⟩ := tv_int t10 rfl
  have e1 : v_iv (n_v vs 10) = x0.toInt := by rw [e0]; rfl
  have ho : sy_ofs (vs ++ [Value.int x]) (12, 10, 0, 0) := by
    refine ⟨x, x0, by rw [List.getElem?_append_right (by rw [hl]; decide), hl]; rfl, ?_, ?_, ?_⟩
    · rw [List.getElem?_append_left (by rw [hl]; decide)]; exact n_v_some (by rw [hl]; decide) e0
    · show x0.toInt + 0 ≤ x.toInt; omega
    · show x.toInt ≤ x0.toInt + 0; omega
  exact ⟨(fun _ h => (by cases h)), [Value.int x], ag_one hx, List.forall_mem_cons.mpr ⟨⟨show (20 : Nat) < 100 from by decide, nf0⟩, List.forall_mem_cons.mpr ⟨⟨show (20 : Nat) < 100 from by decide, nf1⟩, List.forall_mem_cons.mpr ⟨⟨show (24 : Nat) < 100 from by decide, nf2⟩, (fun _ h => (by cases h))⟩⟩⟩, List.forall_mem_cons.mpr ⟨ho, (fun _ h => (by cases h))⟩⟩
def o_Mo_styleTokens_33 : or_T := (334, 13, [(0, (2, 0, 0, [150])), (2, (2, 0, 0, [150])), (6, (0, 0, 1999, [])), (10, (0, 0, 4001, []))], [(20, [2, 6], [50, 2, 0, 157, 11, 2, 7, 0, 3, 2, 0, 157, 1, 1, 1, 3, 2, 0, 11, 1, 1]), (20, [10, 6], [30, -4001, -1, 0, 0, -2, 0, 0]), (24, [0, 2], [])], [], [(0, 0, 4001, [])], [(20, [2, 6], [50, 2, 0, 157, 11, 2, 7, 0, 3, 2, 0, 157, 1, 1, 1, 3, 2, 0, 11, 1, 1]), (20, [13, 6], [30, -4001, -1, 0, 0, -2, 0, 0]), (24, [0, 2], [])], [(13, 10, 0, 0)], [])
theorem oo_Mo_styleTokens_33 {kA : Nat → ClassId} : or_ok kA GG o_Mo_styleTokens_33 := by
  intro A ta ws vs hD hth hl hk hds hf
  have hl : vs.length = 13 := hl
  have hk : ∀ q ∈ ([(0, (2, 0, 0, [150])), (2, (2, 0, 0, [150])), (6, (0, 0, 1999, [])), (10, (0, 0, 4001, []))] : List (Nat × tv_T)), tv_ok ta q.2 (n_v vs q.1) := hk
  obtain ⟨t0, hk⟩ := List.forall_mem_cons.mp hk
  have t0 : tv_ok ta (2, 0, 0, [150]) (n_v vs 0) := t0
  have r0 : ta (v_ad (n_v vs 0)) = some 150 := tv_rg t0
  obtain ⟨t2, hk⟩ := List.forall_mem_cons.mp hk
  have t2 : tv_ok ta (2, 0, 0, [150]) (n_v vs 2) := t2
  have r2 : ta (v_ad (n_v vs 2)) = some 150 := tv_rg t2
  obtain ⟨t6, hk⟩ := List.forall_mem_cons.mp hk
  have t6 : tv_ok ta (0, 0, 1999, []) (n_v vs 6) := t6
  have k6 : 0 ≤ v_iv (n_v vs 6) ∧ v_iv (n_v vs 6) ≤ 1999 := tv_rng t6
  obtain ⟨t10, hk⟩ := List.forall_mem_cons.mp hk
  have t10 : tv_ok ta (0, 0, 4001, []) (n_v vs 10) := t10
  have k10 : 0 ≤ v_iv (n_v vs 10) ∧ v_iv (n_v vs 10) ≤ 4001 := tv_rng t10
  have hf : fc_ok [(20, [2, 6], [50, 2, 0, 157, 11, 2, 7, 0, 3, 2, 0, 157, 1, 1, 1, 3, 2, 0, 11, 1, 1]), (20, [10, 6], [30, -4001, -1, 0, 0, -2, 0, 0]), (24, [0, 2], [])] ta ws vs := hf
  obtain ⟨f0, hf⟩ := fc_un (show (20 : Nat) < 100 from by decide) hf
  have f0 : (w_fi ws (n_v vs 2) 157 ≤ v_iv (n_v vs 6)) ∧ (w_fi ws (n_v vs 2) 11 = v_iv (n_v vs 6)) := f0
  obtain ⟨f1, hf⟩ := fc_un (show (20 : Nat) < 100 from by decide) hf
  have f1 : (-1) * v_iv (n_v vs 10) + ((-2) * v_iv (n_v vs 6) + 0) ≤ (-4001) := f1
  obtain ⟨f2, hf⟩ := fc_un (show (24 : Nat) < 100 from by decide) hf
  have f2 : n_v vs 0 = n_v vs 2 := f2
  have q2 : n_v vs 2 = n_v vs 0 := f2.symm
  rw [q2] at f0
  have kz_0_11 : 0 ≤ w_fi ws (n_v vs 0) 11 ∧ w_fi ws (n_v vs 0) 11 ≤ 2000 := tv_rng (th_fd hD hth r0 (g := GG_150) rfl (k := 11) (t := (0, 0, 2000, [])) rfl rfl)
  have kz_0_157 : 0 ≤ w_fi ws (n_v vs 0) 157 ∧ w_fi ws (n_v vs 0) 157 ≤ 2010 := tv_rng (th_fd hD hth r0 (g := GG_150) rfl (k := 157) (t := (0, 0, 2010, [])) rfl rfl)
  obtain ⟨x, ex, hx⟩ := iv_ex (ta := ta) (lo := 0) (hi := 4001) (z := 0 + (1 * v_iv (n_v vs 10) + 0)) (by omega) (by omega) (by omega) (by omega)
  have ex2 : v_iv (Value.int x) = 0 + (1 * v_iv (n_v vs 10) + 0) := ex
  have ex3 : 0 ≤ v_iv (Value.int x) ∧ v_iv (Value.int x) ≤ 4001 := tv_rng hx
  have e_0 : n_v (vs ++ [Value.int x]) 0 = n_v vs 0 := n_v_old (by rw [hl]; decide)
  have e_2 : n_v (vs ++ [Value.int x]) 2 = n_v vs 2 := n_v_old (by rw [hl]; decide)
  have e_6 : n_v (vs ++ [Value.int x]) 6 = n_v vs 6 := n_v_old (by rw [hl]; decide)
  have e_13 : n_v (vs ++ [Value.int x]) 13 = Value.int x := n_v_new hl
  have nf0 : fc_1 (20, [2, 6], [50, 2, 0, 157, 11, 2, 7, 0, 3, 2, 0, 157, 1, 1, 1, 3, 2, 0, 11, 1, 1]) ws (vs ++ [Value.int x]) := by
    refine ⟨fun n hn => ?_, ?_⟩
    · have hn : n ∈ [2, 6] := hn
      rw [List.length_append, hl]
      simp only [List.mem_cons, List.not_mem_nil, or_false] at hn
      show n < 13 + 1; omega
    · show (w_fi ws (n_v (vs ++ [Value.int x]) 2) 157 ≤ v_iv (n_v (vs ++ [Value.int x]) 6)) ∧ (w_fi ws (n_v (vs ++ [Value.int x]) 2) 11 = v_iv (n_v (vs ++ [Value.int x]) 6))
      rw [e_2]
      rw [e_6]
      rw [q2]
      first | omega | grind
  have nf1 : fc_1 (20, [13, 6], [30, -4001, -1, 0, 0, -2, 0, 0]) ws (vs ++ [Value.int x]) := by
    refine ⟨fun n hn => ?_, ?_⟩
    · have hn : n ∈ [13, 6] := hn
      rw [List.length_append, hl]
      simp only [List.mem_cons, List.not_mem_nil, or_false] at hn
      show n < 13 + 1; omega
    · show (-1) * v_iv (n_v (vs ++ [Value.int x]) 13) + ((-2) * v_iv (n_v (vs ++ [Value.int x]) 6) + 0) ≤ (-4001)
      rw [e_6]
      rw [e_13]
      omega
  have nf2 : fc_1 (24, [0, 2], []) ws (vs ++ [Value.int x]) := by
    refine ⟨fun n hn => ?_, ?_⟩
    · have hn : n ∈ [0, 2] := hn
      rw [List.length_append, hl]
      simp only [List.mem_cons, List.not_mem_nil, or_false] at hn
      show n < 13 + 1; omega
    · show n_v (vs ++ [Value.int x]) 0 = n_v (vs ++ [Value.int x]) 2
      first | rfl | simp only [e_0, e_2, q2]
  obtain ⟨x0, e0, _, _⟩ := tv_int t10 rfl
  have e1 : v_iv (n_v vs 10) = x0.toInt := by rw [e0]; rfl
  have ho : sy_ofs (vs ++ [Value.int x]) (13, 10, 0, 0) := by
    refine ⟨x, x0, by rw [List.getElem?_append_right (by rw [hl]; decide), hl]; rfl, ?_, ?_, ?_⟩
    · rw [List.getElem?_append_left (by rw [hl]; decide)]; exact n_v_some (by rw [hl]; decide) e0
    · show x0.toInt + 0 ≤ x.toInt; omega
    · show x.toInt ≤ x0.toInt + 0; omega
  exact ⟨(fun _ h => (by cases h)), [Value.int x], ag_one hx, List.forall_mem_cons.mpr ⟨⟨show (20 : Nat) < 100 from by decide, nf0⟩, List.forall_mem_cons.mpr ⟨⟨show (20 : Nat) < 100 from by decide, nf1⟩, List.forall_mem_cons.mpr ⟨⟨show (24 : Nat) < 100 from by decide, nf2⟩, (fun _ h => (by cases h))⟩⟩⟩, List.forall_mem_cons.mpr ⟨ho, (fun _ h => (by cases h))⟩⟩
def o_Mo_styleTokens_34 : or_T := (334, 14, [(0, (2, 0, 0, [150])), (2, (2, 0, 0, [150])), (6, (0, 0, 1999, [])), (10, (0, 0, 4001, []))], [(20, [2, 6], [50, 2, 0, 157, 11, 2, 7, 0, 3, 2, 0, 157, 1, 1, 1, 3, 2, 0, 11, 1, 1]), (20, [10, 6], [30, -4001, -1, 0, 0, -2, 0, 0]), (24, [0, 2], [])], [], [(0, 0, 4001, [])], [(20, [2, 6], [50, 2, 0, 157, 11, 2, 7, 0, 3, 2, 0, 157, 1, 1, 1, 3, 2, 0, 11, 1, 1]), (20, [14, 6], [30, -4001, -1, 0, 0, -2, 0, 0]), (24, [0, 2], [])], [(14, 10, 0, 0)], [])
theorem oo_Mo_styleTokens_34 {kA : Nat → ClassId} : or_ok kA GG o_Mo_styleTokens_34 := by
  intro A ta ws vs hD hth hl hk hds hf
  have hl : vs.length = 14 := hl
  have hk : ∀ q ∈ ([(0, (2, 0, 0, [150])), (2, (2, 0, 0, [150])), (6, (0, 0, 1999, [])), (10, (0, 0, 4001, []))] : List (Nat × tv_T)), tv_ok ta q.2 (n_v vs q.1) := hk
  obtain ⟨t0, hk⟩ := List.forall_mem_cons.mp hk
  have t0 : tv_ok ta (2, 0, 0, [150]) (n_v vs 0) := t0
  have r0 : ta (v_ad (n_v vs 0)) = some 150 := tv_rg t0
  obtain ⟨t2, hk⟩ := List.forall_mem_cons.mp hk
  have t2 : tv_ok ta (2, 0, 0, [150]) (n_v vs 2) := t2
  have r2 : ta (v_ad (n_v vs 2)) = some 150 := tv_rg t2
  obtain ⟨t6, hk⟩ := List.forall_mem_cons.mp hk
  have t6 : tv_ok ta (0, 0, 1999, []) (n_v vs 6) := t6
  have k6 : 0 ≤ v_iv (n_v vs 6) ∧ v_iv (n_v vs 6) ≤ 1999 := tv_rng t6
  obtain ⟨t10, hk⟩ := List.forall_mem_cons.mp hk
  have t10 : tv_ok ta (0, 0, 4001, []) (n_v vs 10) := t10
  have k10 : 0 ≤ v_iv (n_v vs 10) ∧ v_iv (n_v vs 10) ≤ 4001 := tv_rng t10
  have hf : fc_ok [(20, [2, 6], [50, 2, 0, 157, 11, 2, 7, 0, 3, 2, 0, 157, 1, 1, 1, 3, 2, 0, 11, 1, 1]), (20, [10, 6], [30, -4001, -1, 0, 0, -2, 0, 0]), (24, [0, 2], [])] ta ws vs := hf
  obtain ⟨f0, hf⟩ := fc_un (show (20 : Nat) < 100 from by decide) hf
  have f0 : (w_fi ws (n_v vs 2) 157 ≤ v_iv (n_v vs 6)) ∧ (w_fi ws (n_v vs 2) 11 = v_iv (n_v vs 6)) := f0
  obtain ⟨f1, hf⟩ := fc_un (show (20 : Nat) < 100 from by decide) hf
  have f1 : (-1) * v_iv (n_v vs 10) + ((-2) * v_iv (n_v vs 6) + 0) ≤ (-4001) := f1
  obtain ⟨f2, hf⟩ := fc_un (show (24 : Nat) < 100 from by decide) hf
  have f2 : n_v vs 0 = n_v vs 2 := f2
  have q2 : n_v vs 2 = n_v vs 0 := f2.symm
  rw [q2] at f0
  have kz_0_11 : 0 ≤ w_fi ws (n_v vs 0) 11 ∧ w_fi ws (n_v vs 0) 11 ≤ 2000 := tv_rng (th_fd hD hth r0 (g := GG_150) rfl (k := 11) (t := (0, 0, 2000, [])) rfl rfl)
  have kz_0_157 : 0 ≤ w_fi ws (n_v vs 0) 157 ∧ w_fi ws (n_v vs 0) 157 ≤ 2010 := tv_rng (th_fd hD hth r0 (g := GG_150) rfl (k := 157) (t := (0, 0, 2010, [])) rfl rfl)
  obtain ⟨x, ex, hx⟩ := iv_ex (ta := ta) (lo := 0) (hi := 4001) (z := 0 + (1 * v_iv (n_v vs 10) + 0)) (by omega) (by omega) (by omega) (by omega)
  have ex2 : v_iv (Value.int x) = 0 + (1 * v_iv (n_v vs 10) + 0) := ex
  have ex3 : 0 ≤ v_iv (Value.int x) ∧ v_iv (Value.int x) ≤ 4001 := tv_rng hx
  have e_0 : n_v (vs ++ [Value.int x]) 0 = n_v vs 0 := n_v_old (by rw [hl]; decide)
  have e_2 : n_v (vs ++ [Value.int x]) 2 = n_v vs 2 := n_v_old (by rw [hl]; decide)
  have e_6 : n_v (vs ++ [Value.int x]) 6 = n_v vs 6 := n_v_old (by rw [hl]; decide)
  have e_14 : n_v (vs ++ [Value.int x]) 14 = Value.int x := n_v_new hl
  have nf0 : fc_1 (20, [2, 6], [50, 2, 0, 157, 11, 2, 7, 0, 3, 2, 0, 157, 1, 1, 1, 3, 2, 0, 11, 1, 1]) ws (vs ++ [Value.int x]) := by
    refine ⟨fun n hn => ?_, ?_⟩
    · have hn : n ∈ [2, 6] := hn
      rw [List.length_append, hl]
      simp only [List.mem_cons, List.not_mem_nil, or_false] at hn
      show n < 14 + 1; omega
    · show (w_fi ws (n_v (vs ++ [Value.int x]) 2) 157 ≤ v_iv (n_v (vs ++ [Value.int x]) 6)) ∧ (w_fi ws (n_v (vs ++ [Value.int x]) 2) 11 = v_iv (n_v (vs ++ [Value.int x]) 6))
      rw [e_2]
      rw [e_6]
      rw [q2]
      first | omega | grind
  have nf1 : fc_1 (20, [14, 6], [30, -4001, -1, 0, 0, -2, 0, 0]) ws (vs ++ [Value.int x]) := by
    refine ⟨fun n hn => ?_, ?_⟩
    · have hn : n ∈ [14, 6] := hn
      rw [List.length_append, hl]
      simp only [List.mem_cons, List.not_mem_nil, or_false] at hn
      show n < 14 + 1; omega
    · show (-1) * v_iv (n_v (vs ++ [Value.int x]) 14) + ((-2) * v_iv (n_v (vs ++ [Value.int x]) 6) + 0) ≤ (-4001)
      rw [e_6]
      rw [e_14]
      omega
  have nf2 : fc_1 (24, [0, 2], []) ws (vs ++ [Value.int x]) := by
    refine ⟨fun n hn => ?_, ?_⟩
    · have hn : n ∈ [0, 2] := hn
      rw [List.length_append, hl]
      simp only [List.mem_cons, List.not_mem_nil, or_false] at hn
      show n < 14 + 1; omega
    · show n_v (vs ++ [Value.int x]) 0 = n_v (vs ++ [Value.int x]) 2
      first | rfl | simp only [e_0, e_2, q2]
  obtain ⟨x0, e0, _, _⟩ := tv_int t10 rfl
  have e1 : v_iv (n_v vs 10) = x0.toInt := by rw [e0]; rfl
  have ho : sy_ofs (vs ++ [Value.int x]) (14, 10, 0, 0) := by
    refine ⟨x, x0, by rw [List.getElem?_append_right (by rw [hl]; decide), hl]; rfl, ?_, ?_, ?_⟩
    · rw [List.getElem?_append_left (by rw [hl]; decide)]; exact n_v_some (by rw [hl]; decide) e0
    · show x0.toInt + 0 ≤ x.toInt; omega
    · show x.toInt ≤ x0.toInt + 0; omega
  exact ⟨(fun _ h => (by cases h)), [Value.int x], ag_one hx, List.forall_mem_cons.mpr ⟨⟨show (20 : Nat) < 100 from by decide, nf0⟩, List.forall_mem_cons.mpr ⟨⟨show (20 : Nat) < 100 from by decide, nf1⟩, List.forall_mem_cons.mpr ⟨⟨show (24 : Nat) < 100 from by decide, nf2⟩, (fun _ h => (by cases h))⟩⟩⟩, List.forall_mem_cons.mpr ⟨ho, (fun _ h => (by cases h))⟩⟩
def o_Mo_styleTokens_35 : or_T := (334, 15, [(0, (2, 0, 0, [150])), (2, (2, 0, 0, [150])), (6, (0, 0, 1999, [])), (10, (0, 0, 4001, []))], [(20, [2, 6], [50, 2, 0, 157, 11, 2, 7, 0, 3, 2, 0, 157, 1, 1, 1, 3, 2, 0, 11, 1, 1]), (20, [10, 6], [30, -4001, -1, 0, 0, -2, 0, 0]), (24, [0, 2], [])], [], [(0, 0, 4001, [])], [(20, [2, 6], [50, 2, 0, 157, 11, 2, 7, 0, 3, 2, 0, 157, 1, 1, 1, 3, 2, 0, 11, 1, 1]), (20, [15, 6], [30, -4001, -1, 0, 0, -2, 0, 0]), (24, [0, 2], [])], [(15, 10, 0, 0)], [])
theorem oo_Mo_styleTokens_35 {kA : Nat → ClassId} : or_ok kA GG o_Mo_styleTokens_35 := by
  intro A ta ws vs hD hth hl hk hds hf
  have hl : vs.length = 15 := hl
  have hk : ∀ q ∈ ([(0, (2, 0, 0, [150])), (2, (2, 0, 0, [150])), (6, (0, 0, 1999, [])), (10, (0, 0, 4001, []))] : List (Nat × tv_T)), tv_ok ta q.2 (n_v vs q.1) := hk
  obtain ⟨t0, hk⟩ := List.forall_mem_cons.mp hk
  have t0 : tv_ok ta (2, 0, 0, [150]) (n_v vs 0) := t0
  have r0 : ta (v_ad (n_v vs 0)) = some 150 := tv_rg t0
  obtain ⟨t2, hk⟩ := List.forall_mem_cons.mp hk
  have t2 : tv_ok ta (2, 0, 0, [150]) (n_v vs 2) := t2
  have r2 : ta (v_ad (n_v vs 2)) = some 150 := tv_rg t2
  obtain ⟨t6, hk⟩ := List.forall_mem_cons.mp hk
  have t6 : tv_ok ta (0, 0, 1999, []) (n_v vs 6) := t6
  have k6 : 0 ≤ v_iv (n_v vs 6) ∧ v_iv (n_v vs 6) ≤ 1999 := tv_rng t6
  obtain ⟨t10, hk⟩ := List.forall_mem_cons.mp hk
  have t10 : tv_ok ta (0, 0, 4001, []) (n_v vs 10) := t10
  have k10 : 0 ≤ v_iv (n_v vs 10) ∧ v_iv (n_v vs 10) ≤ 4001 := tv_rng t10
  have hf : fc_ok [(20, [2, 6], [50, 2, 0, 157, 11, 2, 7, 0, 3, 2, 0, 157, 1, 1, 1, 3, 2, 0, 11, 1, 1]), (20, [10, 6], [30, -4001, -1, 0, 0, -2, 0, 0]), (24, [0, 2], [])] ta ws vs := hf
  obtain ⟨f0, hf⟩ := fc_un (show (20 : Nat) < 100 from by decide) hf
  have f0 : (w_fi ws (n_v vs 2) 157 ≤ v_iv (n_v vs 6)) ∧ (w_fi ws (n_v vs 2) 11 = v_iv (n_v vs 6)) := f0
  obtain ⟨f1, hf⟩ := fc_un (show (20 : Nat) < 100 from by decide) hf
  have f1 : (-1) * v_iv (n_v vs 10) + ((-2) * v_iv (n_v vs 6) + 0) ≤ (-4001) := f1
  obtain ⟨f2, hf⟩ := fc_un (show (24 : Nat) < 100 from by decide) hf
  have f2 : n_v vs 0 = n_v vs 2 := f2
  have q2 : n_v vs 2 = n_v vs 0 := f2.symm
  rw [q2] at f0
  have kz_0_11 : 0 ≤ w_fi ws (n_v vs 0) 11 ∧ w_fi ws (n_v vs 0) 11 ≤ 2000 := tv_rng (th_fd hD hth r0 (g := GG_150) rfl (k := 11) (t := (0, 0, 2000, [])) rfl rfl)
  have kz_0_157 : 0 ≤ w_fi ws (n_v vs 0) 157 ∧ w_fi ws (n_v vs 0) 157 ≤ 2010 := tv_rng (th_fd hD hth r0 (g := GG_150) rfl (k := 157) (t := (0, 0, 2010, [])) rfl rfl)
  obtain ⟨x, ex, hx⟩ := iv_ex (ta := ta) (lo := 0) (hi := 4001) (z := 0 + (1 * v_iv (n_v vs 10) + 0)) (by omega) (by omega) (by omega) (by omega)
  have ex2 : v_iv (Value.int x) = 0 + (1 * v_iv (n_v vs 10) + 0) := ex
  have ex3 : 0 ≤ v_iv (Value.int x) ∧ v_iv (Value.int x) ≤ 4001 := tv_rng hx
  have e_0 : n_v (vs ++ [Value.int x]) 0 = n_v vs 0 := n_v_old (by rw [hl]; decide)
  have e_2 : n_v (vs ++ [Value.int x]) 2 = n_v vs 2 := n_v_old (by rw [hl]; decide)
  have e_6 : n_v (vs ++ [Value.int x]) 6 = n_v vs 6 := n_v_old (by rw [hl]; decide)
  have e_15 : n_v (vs ++ [Value.int x]) 15 = Value.int x := n_v_new hl
  have nf0 : fc_1 (20, [2, 6], [50, 2, 0, 157, 11, 2, 7, 0, 3, 2, 0, 157, 1, 1, 1, 3, 2, 0, 11, 1, 1]) ws (vs ++ [Value.int x]) := by
    refine ⟨fun n hn => ?_, ?_⟩
    · have hn : n ∈ [2, 6] := hn
      rw [List.length_append, hl]
      simp only [List.mem_cons, List.not_mem_nil, or_false] at hn
      show n < 15 + 1; omega
    · show (w_fi ws (n_v (vs ++ [Value.int x]) 2) 157 ≤ v_iv (n_v (vs ++ [Value.int x]) 6)) ∧ (w_fi ws (n_v (vs ++ [Value.int x]) 2) 11 = v_iv (n_v (vs ++ [Value.int x]) 6))
      rw [e_2]
      rw [e_6]
      rw [q2]
      first | omega | grind
  have nf1 : fc_1 (20, [15, 6], [30, -4001, -1, 0, 0, -2, 0, 0]) ws (vs ++ [Value.int x]) := by
    refine ⟨fun n hn => ?_, ?_⟩
    · have hn : n ∈ [15, 6] := hn
      rw [List.length_append, hl]
      simp only [List.mem_cons, List.not_mem_nil, or_false] at hn
      show n < 15 + 1; omega
    · show (-1) * v_iv (n_v (vs ++ [Value.int x]) 15) + ((-2) * v_iv (n_v (vs ++ [Value.int x]) 6) + 0) ≤ (-4001)
      rw [e_6]
      rw [e_15]
      omega
  have nf2 : fc_1 (24, [0, 2], []) ws (vs ++ [Value.int x]) := by
    refine ⟨fun n hn => ?_, ?_⟩
    · have hn : n ∈ [0, 2] := hn
      rw [List.length_append, hl]
      simp only [List.mem_cons, List.not_mem_nil, or_false] at hn
      show n < 15 + 1; omega
    · show n_v (vs ++ [Value.int x]) 0 = n_v (vs ++ [Value.int x]) 2
      first | rfl | simp only [e_0, e_2, q2]
  obtain ⟨x0, e0, _, _⟩ := tv_int t10 rfl
  have e1 : v_iv (n_v vs 10) = x0.toInt := by rw [e0]; rfl
  have ho : sy_ofs (vs ++ [Value.int x]) (15, 10, 0, 0) := by
    refine ⟨x, x0, by rw [List.getElem?_append_right (by rw [hl]; decide), hl]; rfl, ?_, ?_, ?_⟩
    · rw [List.getElem?_append_left (by rw [hl]; decide)]; exact n_v_some (by rw [hl]; decide) e0
    · show x0.toInt + 0 ≤ x.toInt; omega
    · show x.toInt ≤ x0.toInt + 0; omega
  exact ⟨(fun _ h => (by cases h)), [Value.int x], ag_one hx, List.forall_mem_cons.mpr ⟨⟨show (20 : Nat) < 100 from by decide, nf0⟩, List.forall_mem_cons.mpr ⟨⟨show (20 : Nat) < 100 from by decide, nf1⟩, List.forall_mem_cons.mpr ⟨⟨show (24 : Nat) < 100 from by decide, nf2⟩, (fun _ h => (by cases h))⟩⟩⟩, List.forall_mem_cons.mpr ⟨ho, (fun _ h => (by cases h))⟩⟩
def o_Mo_styleTokens_36 : or_T := (334, 16, [(0, (2, 0, 0, [150])), (2, (2, 0, 0, [150])), (6, (0, 0, 1999, [])), (10, (0, 0, 4001, []))], [(20, [2, 6], [50, 2, 0, 157, 11, 2, 7, 0, 3, 2, 0, 157, 1, 1, 1, 3, 2, 0, 11, 1, 1]), (20, [10, 6], [30, -4001, -1, 0, 0, -2, 0, 0]), (24, [0, 2], [])], [], [(0, 0, 4001, [])], [(20, [2, 6], [50, 2, 0, 157, 11, 2, 7, 0, 3, 2, 0, 157, 1, 1, 1, 3, 2, 0, 11, 1, 1]), (20, [16, 6], [30, -4001, -1, 0, 0, -2, 0, 0]), (24, [0, 2], [])], [(16, 10, 0, 0)], [])
theorem oo_Mo_styleTokens_36 {kA : Nat → ClassId} : or_ok kA GG o_Mo_styleTokens_36 := by
  intro A ta ws vs hD hth hl hk hds hf
  have hl : vs.length = 16 := hl
  have hk : ∀ q ∈ ([(0, (2, 0, 0, [150])), (2, (2, 0, 0, [150])), (6, (0, 0, 1999, [])), (10, (0, 0, 4001, []))] : List (Nat × tv_T)), tv_ok ta q.2 (n_v vs q.1) := hk
  obtain ⟨t0, hk⟩ := List.forall_mem_cons.mp hk
  have t0 : tv_ok ta (2, 0, 0, [150]) (n_v vs 0) := t0
  have r0 : ta (v_ad (n_v vs 0)) = some 150 := tv_rg t0
  obtain ⟨t2, hk⟩ := List.forall_mem_cons.mp hk
  have t2 : tv_ok ta (2, 0, 0, [150]) (n_v vs 2) := t2
  have r2 : ta (v_ad (n_v vs 2)) = some 150 := tv_rg t2
  obtain ⟨t6, hk⟩ := List.forall_mem_cons.mp hk
  have t6 : tv_ok ta (0, 0, 1999, []) (n_v vs 6) := t6
  have k6 : 0 ≤ v_iv (n_v vs 6) ∧ v_iv (n_v vs 6) ≤ 1999 := tv_rng t6
  obtain ⟨t10, hk⟩ := List.forall_mem_cons.mp hk
  have t10 : tv_ok ta (0, 0, 4001, []) (n_v vs 10) := t10
  have k10 : 0 ≤ v_iv (n_v vs 10) ∧ v_iv (n_v vs 10) ≤ 4001 := tv_rng t10
  have hf : fc_ok [(20, [2, 6], [50, 2, 0, 157, 11, 2, 7, 0, 3, 2, 0, 157, 1, 1, 1, 3, 2, 0, 11, 1, 1]), (20, [10, 6], [30, -4001, -1, 0, 0, -2, 0, 0]), (24, [0, 2], [])] ta ws vs := hf
  obtain ⟨f0, hf⟩ := fc_un (show (20 : Nat) < 100 from by decide) hf
  have f0 : (w_fi ws (n_v vs 2) 157 ≤ v_iv (n_v vs 6)) ∧ (w_fi ws (n_v vs 2) 11 = v_iv (n_v vs 6)) := f0
  obtain ⟨f1, hf⟩ := fc_un (show (20 : Nat) < 100 from by decide) hf
  have f1 : (-1) * v_iv (n_v vs 10) + ((-2) * v_iv (n_v vs 6) + 0) ≤ (-4001) := f1
  obtain ⟨f2, hf⟩ := fc_un (show (24 : Nat) < 100 from by decide) hf
  have f2 : n_v vs 0 = n_v vs 2 := f2
  have q2 : n_v vs 2 = n_v vs 0 := f2.symm
  rw [q2] at f0
  have kz_0_11 : 0 ≤ w_fi ws (n_v vs 0) 11 ∧ w_fi ws (n_v vs 0) 11 ≤ 2000 := tv_rng (th_fd hD hth r0 (g := GG_150) rfl (k := 11) (t := (0, 0, 2000, [])) rfl rfl)
  have kz_0_157 : 0 ≤ w_fi ws (n_v vs 0) 157 ∧ w_fi ws (n_v vs 0) 157 ≤ 2010 := tv_rng (th_fd hD hth r0 (g := GG_150) rfl (k := 157) (t := (0, 0, 2010, [])) rfl rfl)
  obtain ⟨x, ex, hx⟩ := iv_ex (ta := ta) (lo := 0) (hi := 4001) (z := 0 + (1 * v_iv (n_v vs 10) + 0)) (by omega) (by omega) (by omega) (by omega)
  have ex2 : v_iv (Value.int x) = 0 + (1 * v_iv (n_v vs 10) + 0) := ex
  have ex3 : 0 ≤ v_iv (Value.int x) ∧ v_iv (Value.int x) ≤ 4001 := tv_rng hx
  have e_0 : n_v (vs ++ [Value.int x]) 0 = n_v vs 0 := n_v_old (by rw [hl]; decide)
  have e_2 : n_v (vs ++ [Value.int x]) 2 = n_v vs 2 := n_v_old (by rw [hl]; decide)
  have e_6 : n_v (vs ++ [Value.int x]) 6 = n_v vs 6 := n_v_old (by rw [hl]; decide)
  have e_16 : n_v (vs ++ [Value.int x]) 16 = Value.int x := n_v_new hl
  have nf0 : fc_1 (20, [2, 6], [50, 2, 0, 157, 11, 2, 7, 0, 3, 2, 0, 157, 1, 1, 1, 3, 2, 0, 11, 1, 1]) ws (vs ++ [Value.int x]) := by
    refine ⟨fun n hn => ?_, ?_⟩
    · have hn : n ∈ [2, 6] := hn
      rw [List.length_append, hl]
      simp only [List.mem_cons, List.not_mem_nil, or_false] at hn
      show n < 16 + 1; omega
    · show (w_fi ws (n_v (vs ++ [Value.int x]) 2) 157 ≤ v_iv (n_v (vs ++ [Value.int x]) 6)) ∧ (w_fi ws (n_v (vs ++ [Value.int x]) 2) 11 = v_iv (n_v (vs ++ [Value.int x]) 6))
      rw [e_2]
      rw [e_6]
      rw [q2]
      first | omega | grind
  have nf1 : fc_1 (20, [16, 6], [30, -4001, -1, 0, 0, -2, 0, 0]) ws (vs ++ [Value.int x]) := by
    refine ⟨fun n hn => ?_, ?_⟩
    · have hn : n ∈ [16, 6] := hn
      rw [List.length_append, hl]
      simp only [List.mem_cons, List.not_mem_nil, or_false] at hn
      show n < 16 + 1; omega
    · show (-1) * v_iv (n_v (vs ++ [Value.int x]) 16) + ((-2) * v_iv (n_v (vs ++ [Value.int x]) 6) + 0) ≤ (-4001)
      rw [e_6]
      rw [e_16]
      omega
  have nf2 : fc_1 (24, [0, 2], []) ws (vs ++ [Value.int x]) := by
    refine ⟨fun n hn => ?_, ?_⟩
    · have hn : n ∈ [0, 2] := hn
      rw [List.length_append, hl]
      simp only [List.mem_cons, List.not_mem_nil, or_false] at hn
      show n < 16 + 1; omega
    · show n_v (vs ++ [Value.int x]) 0 = n_v (vs ++ [Value.int x]) 2
      first | rfl | simp only [e_0, e_2, q2]
  obtain ⟨x0, e0, _, _⟩ := tv_int t10 rfl
  have e1 : v_iv (n_v vs 10) = x0.toInt := by rw [e0]; rfl
  have ho : sy_ofs (vs ++ [Value.int x]) (16, 10, 0, 0) := by
    refine ⟨x, x0, by rw [List.getElem?_append_right (by rw [hl]; decide), hl]; rfl, ?_, ?_, ?_⟩
    · rw [List.getElem?_append_left (by rw [hl]; decide)]; exact n_v_some (by rw [hl]; decide) e0
    · show x0.toInt + 0 ≤ x.toInt; omega
    · show x.toInt ≤ x0.toInt + 0; omega
  exact ⟨(fun _ h => (by cases h)), [Value.int x], ag_one hx, List.forall_mem_cons.mpr ⟨⟨show (20 : Nat) < 100 from by decide, nf0⟩, List.forall_mem_cons.mpr ⟨⟨show (20 : Nat) < 100 from by decide, nf1⟩, List.forall_mem_cons.mpr ⟨⟨show (24 : Nat) < 100 from by decide, nf2⟩, (fun _ h => (by cases h))⟩⟩⟩, List.forall_mem_cons.mpr ⟨ho, (fun _ h => (by cases h))⟩⟩
def o_Mo_styleTokens_37 : or_T := (334, 17, [(0, (2, 0, 0, [150])), (2, (2, 0, 0, [150])), (6, (0, 0, 1999, [])), (10, (0, 0, 4001, []))], [(20, [2, 6], [50, 2, 0, 157, 11, 2, 7, 0, 3, 2, 0, 157, 1, 1, 1, 3, 2, 0, 11, 1, 1]), (20, [10, 6], [30, -4001, -1, 0, 0, -2, 0, 0]), (24, [0, 2], [])], [], [(0, 0, 4001, [])], [(20, [2, 6], [50, 2, 0, 157, 11, 2, 7, 0, 3, 2, 0, 157, 1, 1, 1, 3, 2, 0, 11, 1, 1]), (20, [17, 6], [30, -4001, -1, 0, 0, -2, 0, 0]), (24, [0, 2], [])], [(17, 10, 0, 0)], [])
theorem oo_Mo_styleTokens_37 {kA : Nat → ClassId} : or_ok kA GG o_Mo_styleTokens_37 := by
  intro A ta ws vs hD hth hl hk hds hf
  have hl : vs.length = 17 := hl
  have hk : ∀ q ∈ ([(0, (2, 0, 0, [150])), (2, (2, 0, 0, [150])), (6, (0, 0, 1999, [])), (10, (0, 0, 4001, []))] : List (Nat × tv_T)), tv_ok ta q.2 (n_v vs q.1) := hk
  obtain ⟨t0, hk⟩ := List.forall_mem_cons.mp hk
  have t0 : tv_ok ta (2, 0, 0, [150]) (n_v vs 0) := t0
  have r0 : ta (v_ad (n_v vs 0)) = some 150 := tv_rg t0
  obtain ⟨t2, hk⟩ := List.forall_mem_cons.mp hk
  have t2 : tv_ok ta (2, 0, 0, [150]) (n_v vs 2) := t2
  have r2 : ta (v_ad (n_v vs 2)) = some 150 := tv_rg t2
  obtain ⟨t6, hk⟩ := List.forall_mem_cons.mp hk
  have t6 : tv_ok ta (0, 0, 1999, []) (n_v vs 6) := t6
  have k6 : 0 ≤ v_iv (n_v vs 6) ∧ v_iv (n_v vs 6) ≤ 1999 := tv_rng t6
  obtain ⟨t10, hk⟩ := List.forall_mem_cons.mp hk
  have t10 : tv_ok ta (0, 0, 4001, []) (n_v vs 10) := t10
  have k10 : 0 ≤ v_iv (n_v vs 10) ∧ v_iv (n_v vs 10) ≤ 4001 := tv_rng t10
  have hf : fc_ok [(20, [2, 6], [50, 2, 0, 157, 11, 2, 7, 0, 3, 2, 0, 157, 1, 1, 1, 3, 2, 0, 11, 1, 1]), (20, [10, 6], [30, -4001, -1, 0, 0, -2, 0, 0]), (24, [0, 2], [])] ta ws vs := hf
  obtain ⟨f0, hf⟩ := fc_un (show (20 : Nat) < 100 from by decide) hf
  have f0 : (w_fi ws (n_v vs 2) 157 ≤ v_iv (n_v vs 6)) ∧ (w_fi ws (n_v vs 2) 11 = v_iv (n_v vs 6)) := f0
  obtain ⟨f1, hf⟩ := fc_un (show (20 : Nat) < 100 from by decide) hf
  have f1 : (-1) * v_iv (n_v vs 10) + ((-2) * v_iv (n_v vs 6) + 0) ≤ (-4001) := f1
  obtain ⟨f2, hf⟩ := fc_un (show (24 : Nat) < 100 from by decide) hf
  have f2 : n_v vs 0 = n_v vs 2 := f2
  have q2 : n_v vs 2 = n_v vs 0 := f2.symm
  rw [q2] at f0
  have kz_0_11 : 0 ≤ w_fi ws (n_v vs 0) 11 ∧ w_fi ws (n_v vs 0) 11 ≤ 2000 := tv_rng (th_fd hD hth r0 (g := GG_150) rfl (k := 11) (t := (0, 0, 2000, [])) rfl rfl)
  have kz_0_157 : 0 ≤ w_fi ws (n_v vs 0) 157 ∧ w_fi ws (n_v vs 0) 157 ≤ 2010 := tv_rng (th_fd hD hth r0 (g := GG_150) rfl (k := 157) (t := (0, 0, 2010, [])) rfl rfl)
  obtain ⟨x, ex, hx⟩ := iv_ex (ta := ta) (lo := 0) (hi := 4001) (z := 0 + (1 * v_iv (n_v vs 10) + 0)) (by omega) (by omega) (by omega) (by omega)
  have ex2 : v_iv (Value.int x) = 0 + (1 * v_iv (n_v vs 10) + 0) := ex
  have ex3 : 0 ≤ v_iv (Value.int x) ∧ v_iv (Value.int x) ≤ 4001 := tv_rng hx
  have e_0 : n_v (vs ++ [Value.int x]) 0 = n_v vs 0 := n_v_old (by rw [hl]; decide)
  have e_2 : n_v (vs ++ [Value.int x]) 2 = n_v vs 2 := n_v_old (by rw [hl]; decide)
  have e_6 : n_v (vs ++ [Value.int x]) 6 = n_v vs 6 := n_v_old (by rw [hl]; decide)
  have e_17 : n_v (vs ++ [Value.int x]) 17 = Value.int x := n_v_new hl
  have nf0 : fc_1 (20, [2, 6], [50, 2, 0, 157, 11, 2, 7, 0, 3, 2, 0, 157, 1, 1, 1, 3, 2, 0, 11, 1, 1]) ws (vs ++ [Value.int x]) := by
    refine ⟨fun n hn => ?_, ?_⟩
    · have hn : n ∈ [2, 6] := hn
      rw [List.length_append, hl]
      simp only [List.mem_cons, List.not_mem_nil, or_false] at hn
      show n < 17 + 1; omega
    · show (w_fi ws (n_v (vs ++ [Value.int x]) 2) 157 ≤ v_iv (n_v (vs ++ [Value.int x]) 6)) ∧ (w_fi ws (n_v (vs ++ [Value.int x]) 2) 11 = v_iv (n_v (vs ++ [Value.int x]) 6))
      rw [e_2]
      rw [e_6]
      rw [q2]
      first | omega | grind
  have nf1 : fc_1 (20, [17, 6], [30, -4001, -1, 0, 0, -2, 0, 0]) ws (vs ++ [Value.int x]) := by
    refine ⟨fun n hn => ?_, ?_⟩
    · have hn : n ∈ [17, 6] := hn
      rw [List.length_append, hl]
      simp only [List.mem_cons, List.not_mem_nil, or_false] at hn
      show n < 17 + 1; omega
    · show (-1) * v_iv (n_v (vs ++ [Value.int x]) 17) + ((-2) * v_iv (n_v (vs ++ [Value.int x]) 6) + 0) ≤ (-4001)
      rw [e_6]
      rw [e_17]
      omega
  have nf2 : fc_1 (24, [0, 2], []) ws (vs ++ [Value.int x]) := by
    refine ⟨fun n hn => ?_, ?_⟩
    · have hn : n ∈ [0, 2] := hn
      rw [List.length_append, hl]
      simp only [List.mem_cons, List.not_mem_nil, or_false] at hn
      show n < 17 + 1; omega
    · show n_v (vs ++ [Value.int x]) 0 = n_v (vs ++ [Value.int x]) 2
      first | rfl | simp only [e_0, e_2, q2]
  obtain ⟨x0, e0, _, _⟩ := tv_int t10 rfl
  have e1 : v_iv (n_v vs 10) = x0.toInt := by rw [e0]; rfl
  have ho : sy_ofs (vs ++ [Value.int x]) (17, 10, 0, 0) := by
    refine ⟨x, x0, by rw [List.getElem?_append_right (by rw [hl]; decide), hl]; rfl, ?_, ?_, ?_⟩
    · rw [List.getElem?_append_left (by rw [hl]; decide)]; exact n_v_some (by rw [hl]; decide) e0
    · show x0.toInt + 0 ≤ x.toInt; omega
    · show x.toInt ≤ x0.toInt + 0; omega
  exact ⟨(fun _ h => (by cases h)), [Value.int x], ag_one hx, List.forall_mem_cons.mpr ⟨⟨show (20 : Nat) < 100 from by decide, nf0⟩, List.forall_mem_cons.mpr ⟨⟨show (20 : Nat) < 100 from by decide, nf1⟩, List.forall_mem_cons.mpr ⟨⟨show (24 : Nat) < 100 from by decide, nf2⟩, (fun _ h => (by cases h))⟩⟩⟩, List.forall_mem_cons.mpr ⟨ho, (fun _ h => (by cases h))⟩⟩
def o_Mo_styleTokens_38 : or_T := (334, 18, [(0, (2, 0, 0, [150])), (2, (2, 0, 0, [150])), (6, (0, 0, 1999, [])), (10, (0, 0, 4001, []))], [(20, [2, 6], [50, 2, 0, 157, 11, 2, 7, 0, 3, 2, 0, 157, 1, 1, 1, 3, 2, 0, 11, 1, 1]), (20, [10, 6], [30, -4001, -1, 0, 0, -2, 0, 0]), (24, [0, 2], [])], [], [(0, 0, 4001, [])], [(20, [2, 6], [50, 2, 0, 157, 11, 2, 7, 0, 3, 2, 0, 157, 1, 1, 1, 3, 2, 0, 11, 1, 1]), (20, [18, 6], [30, -4001, -1, 0, 0, -2, 0, 0]), (24, [0, 2], [])], [(18, 10, 0, 0)], [])
theorem oo_Mo_styleTokens_38 {kA : Nat → ClassId} : or_ok kA GG o_Mo_styleTokens_38 := by
  intro A ta ws vs hD hth hl hk hds hf
  have hl : vs.length = 18 := hl
  have hk : ∀ q ∈ ([(0, (2, 0, 0, [150])), (2, (2, 0, 0, [150])), (6, (0, 0, 1999, [])), (10, (0, 0, 4001, []))] : List (Nat × tv_T)), tv_ok ta q.2 (n_v vs q.1) := hk
  obtain ⟨t0, hk⟩ := List.forall_mem_cons.mp hk
  have t0 : tv_ok ta (2, 0, 0, [150]) (n_v vs 0) := t0
  have r0 : ta (v_ad (n_v vs 0)) = some 150 := tv_rg t0
  obtain ⟨t2, hk⟩ := List.forall_mem_cons.mp hk
  have t2 : tv_ok ta (2, 0, 0, [150]) (n_v vs 2) := t2
  have r2 : ta (v_ad (n_v vs 2)) = some 150 := tv_rg t2
  obtain ⟨t6, hk⟩ := List.forall_mem_cons.mp hk
  have t6 : tv_ok ta (0, 0, 1999, []) (n_v vs 6) := t6
  have k6 : 0 ≤ v_iv (n_v vs 6) ∧ v_iv (n_v vs 6) ≤ 1999 := tv_rng t6
  obtain ⟨t10, hk⟩ := List.forall_mem_cons.mp hk
  have t10 : tv_ok ta (0, 0, 4001, []) (n_v vs 10) := t10
  have k10 : 0 ≤ v_iv (n_v vs 10) ∧ v_iv (n_v vs 10) ≤ 4001 := tv_rng t10
  have hf : fc_ok [(20, [2, 6], [50, 2, 0, 157, 11, 2, 7, 0, 3, 2, 0, 157, 1, 1, 1, 3, 2, 0, 11, 1, 1]), (20, [10, 6], [30, -4001, -1, 0, 0, -2, 0, 0]), (24, [0, 2], [])] ta ws vs := hf
  obtain ⟨f0, hf⟩ := fc_un (show (20 : Nat) < 100 from by decide) hf
  have f0 : (w_fi ws (n_v vs 2) 157 ≤ v_iv (n_v vs 6)) ∧ (w_fi ws (n_v vs 2) 11 = v_iv (n_v vs 6)) := f0
  obtain ⟨f1, hf⟩ := fc_un (show (20 : Nat) < 100 from by decide) hf
  have f1 : (-1) * v_iv (n_v vs 10) + ((-2) * v_iv (n_v vs 6) + 0) ≤ (-4001) := f1
  obtain ⟨f2, hf⟩ := fc_un (show (24 : Nat) < 100 from by decide) hf
  have f2 : n_v vs 0 = n_v vs 2 := f2
  have q2 : n_v vs 2 = n_v vs 0 := f2.symm
  rw [q2] at f0
  have kz_0_11 : 0 ≤ w_fi ws (n_v vs 0) 11 ∧ w_fi ws (n_v vs 0) 11 ≤ 2000 := tv_rng (th_fd hD hth r0 (g := GG_150) rfl (k := 11) (t := (0, 0, 2000, [])) rfl rfl)
  have kz_0_157 : 0 ≤ w_fi ws (n_v vs 0) 157 ∧ w_fi ws (n_v vs 0) 157 ≤ 2010 := tv_rng (th_fd hD hth r0 (g := GG_150) rfl (k := 157) (t := (0, 0, 2010, [])) rfl rfl)
  obtain ⟨x, ex, hx⟩ := iv_ex (ta := ta) (lo := 0) (hi := 4001) (z := 0 + (1 * v_iv (n_v vs 10) + 0)) (by omega) (by omega) (by omega) (by omega)
  have ex2 : v_iv (Value.int x) = 0 + (1 * v_iv (n_v vs 10) + 0) := ex
  have ex3 : 0 ≤ v_iv (Value.int x) ∧ v_iv (Value.int x) ≤ 4001 := tv_rng hx
  have e_0 : n_v (vs ++ [Value.int x]) 0 = n_v vs 0 := n_v_old (by rw [hl]; decide)
  have e_2 : n_v (vs ++ [Value.int x]) 2 = n_v vs 2 := n_v_old (by rw [hl]; decide)
  have e_6 : n_v (vs ++ [Value.int x]) 6 = n_v vs 6 := n_v_old (by rw [hl]; decide)
  have e_18 : n_v (vs ++ [Value.int x]) 18 = Value.int x := n_v_new hl
  have nf0 : fc_1 (20, [2, 6], [50, 2, 0, 157, 11, 2, 7, 0, 3, 2, 0, 157, 1, 1, 1, 3, 2, 0, 11, 1, 1]) ws (vs ++ [Value.int x]) := by
    refine ⟨fun n hn => ?_, ?_⟩
    · have hn : n ∈ [2, 6] := hn
      rw [List.length_append, hl]
      simp only [List.mem_cons, List.not_mem_nil, or_false] at hn
      show n < 18 + 1; omega
    · show (w_fi ws (n_v (vs ++ [Value.int x]) 2) 157 ≤ v_iv (n_v (vs ++ [Value.int x]) 6)) ∧ (w_fi ws (n_v (vs ++ [Value.int x]) 2) 11 = v_iv (n_v (vs ++ [Value.int x]) 6))
      rw [e_2]
      rw [e_6]
      rw [q2]
      first | omega | grind
  have nf1 : fc_1 (20, [18, 6], [30, -4001, -1, 0, 0, -2, 0, 0]) ws (vs ++ [Value.int x]) := by
    refine ⟨fun n hn => ?_, ?_⟩
    · have hn : n ∈ [18, 6] := hn
      rw [List.length_append, hl]
      simp only [List.mem_cons, List.not_mem_nil, or_false] at hn
      show n < 18 + 1; omega
    · show (-1) * v_iv (n_v (vs ++ [Value.int x]) 18) + ((-2) * v_iv (n_v (vs ++ [Value.int x]) 6) + 0) ≤ (-4001)
      rw [e_6]
      rw [e_18]
      omega
  have nf2 : fc_1 (24, [0, 2], []) ws (vs ++ [Value.int x]) := by
    refine ⟨fun n hn => ?_, ?_⟩
    · have hn : n ∈ [0, 2] := hn
      rw [List.length_append, hl]
      simp only [List.mem_cons, List.not_mem_nil, or_false] at hn
      show n < 18 + 1; omega
    · show n_v (vs ++ [Value.int x]) 0 = n_v (vs ++ [Value.int x]) 2
      first | rfl | simp only [e_0, e_2, q2]
  obtain ⟨x0, e0, _, _⟩ := tv_int t10 rfl
  have e1 : v_iv (n_v vs 10) = x0.toInt := by rw [e0]; rfl
  have ho : sy_ofs (vs ++ [Value.int x]) (18, 10, 0, 0) := by
    refine ⟨x, x0, by rw [List.getElem?_append_right (by rw [hl]; decide), hl]; rfl, ?_, ?_, ?_⟩
    · rw [List.getElem?_append_left (by rw [hl]; decide)]; exact n_v_some (by rw [hl]; decide) e0
    · show x0.toInt + 0 ≤ x.toInt; omega
    · show x.toInt ≤ x0.toInt + 0; omega
  exact ⟨(fun _ h => (by cases h)), [Value.int x], ag_one hx, List.forall_mem_cons.mpr ⟨⟨show (20 : Nat) < 100 from by decide, nf0⟩, List.forall_mem_cons.mpr ⟨⟨show (20 : Nat) < 100 from by decide, nf1⟩, List.forall_mem_cons.mpr ⟨⟨show (24 : Nat) < 100 from by decide, nf2⟩, (fun _ h => (by cases h))⟩⟩⟩, List.forall_mem_cons.mpr ⟨ho, (fun _ h => (by cases h))⟩⟩
def o_Mo_styleTokens_39 : or_T := (334, 19, [(0, (2, 0, 0, [150])), (2, (2, 0, 0, [150])), (6, (0, 0, 1999, [])), (10, (0, 0, 4001, []))], [(20, [2, 6], [50, 2, 0, 157, 11, 2, 7, 0, 3, 2, 0, 157, 1, 1, 1, 3, 2, 0, 11, 1, 1]), (20, [10, 6], [30, -4001, -1, 0, 0, -2, 0, 0]), (24, [0, 2], [])], [], [(0, 0, 4001, [])], [(20, [2, 6], [50, 2, 0, 157, 11, 2, 7, 0, 3, 2, 0, 157, 1, 1, 1, 3, 2, 0, 11, 1, 1]), (20, [19, 6], [30, -4001, -1, 0, 0, -2, 0, 0]), (24, [0, 2], [])], [(19, 10, 0, 0)], [])
theorem oo_Mo_styleTokens_39 {kA : Nat → ClassId} : or_ok kA GG o_Mo_styleTokens_39 := by
  intro A ta ws vs hD hth hl hk hds hf
  have hl : vs.length = 19 := hl
  have hk : ∀ q ∈ ([(0, (2, 0, 0, [150])), (2, (2, 0, 0, [150])), (6, (0, 0, 1999, [])), (10, (0, 0, 4001, []))] : List (Nat × tv_T)), tv_ok ta q.2 (n_v vs q.1) := hk
  obtain ⟨t0, hk⟩ := List.forall_mem_cons.mp hk
  have t0 : tv_ok ta (2, 0, 0, [150]) (n_v vs 0) := t0
  have r0 : ta (v_ad (n_v vs 0)) = some 150 := tv_rg t0
  obtain ⟨t2, hk⟩ := List.forall_mem_cons.mp hk
  have t2 : tv_ok ta (2, 0, 0, [150]) (n_v vs 2) := t2
  have r2 : ta (v_ad (n_v vs 2)) = some 150 := tv_rg t2
  obtain ⟨t6, hk⟩ := List.forall_mem_cons.mp hk
  have t6 : tv_ok ta (0, 0, 1999, []) (n_v vs 6) := t6
  have k6 : 0 ≤ v_iv (n_v vs 6) ∧ v_iv (n_v vs 6) ≤ 1999 := tv_rng t6
  obtain ⟨t10, hk⟩ := List.forall_mem_cons.mp hk
  have t10 : tv_ok ta (0, 0, 4001, []) (n_v vs 10) := t10
  have k10 : 0 ≤ v_iv (n_v vs 10) ∧ v_iv (n_v vs 10) ≤ 4001 := tv_rng t10
  have hf : fc_ok [(20, [2, 6], [50, 2, 0, 157, 11, 2, 7, 0, 3, 2, 0, 157, 1, 1, 1, 3, 2, 0, 11, 1, 1]), (20, [10, 6], [30, -4001, -1, 0, 0, -2, 0, 0]), (24, [0, 2], [])] ta ws vs := hf
  obtain ⟨f0, hf⟩ := fc_un (show (20 : Nat) < 100 from by decide) hf
  have f0 : (w_fi ws (n_v vs 2) 157 ≤ v_iv (n_v vs 6)) ∧ (w_fi ws (n_v vs 2) 11 = v_iv (n_v vs 6)) := f0
  obtain ⟨f1, hf⟩ := fc_un (show (20 : Nat) < 100 from by decide) hf
  have f1 : (-1) * v_iv (n_v vs 10) + ((-2) * v_iv (n_v vs 6) + 0) ≤ (-4001) := f1
  obtain ⟨f2, hf⟩ := fc_un (show (24 : Nat) < 100 from by decide) hf
  have f2 : n_v vs 0 = n_v vs 2 := f2
  have q2 : n_v vs 2 = n_v vs 0 := f2.symm
  rw [q2] at f0
  have kz_0_11 : 0 ≤ w_fi ws (n_v vs 0) 11 ∧ w_fi ws (n_v vs 0) 11 ≤ 2000 := tv_rng (th_fd hD hth r0 (g := GG_150) rfl (k := 11) (t := (0, 0, 2000, [])) rfl rfl)
  have kz_0_157 : 0 ≤ w_fi ws (n_v vs 0) 157 ∧ w_fi ws (n_v vs 0) 157 ≤ 2010 := tv_rng (th_fd hD hth r0 (g := GG_150) rfl (k := 157) (t := (0, 0, 2010, [])) rfl rfl)
  obtain ⟨x, ex, hx⟩ := iv_ex (ta := ta) (lo := 0) (hi := 4001) (z := 0 + (1 * v_iv (n_v vs 10) + 0)) (by omega) (by omega) (by omega) (by omega)
  have ex2 : v_iv (Value.int x) = 0 + (1 * v_iv (n_v vs 10) + 0) := ex
  have ex3 : 0 ≤ v_iv (Value.int x) ∧ v_iv (Value.int x) ≤ 4001 := tv_rng hx
  have e_0 : n_v (vs ++ [Value.int x]) 0 = n_v vs 0 := n_v_old (by rw [hl]; decide)
  have e_2 : n_v (vs ++ [Value.int x]) 2 = n_v vs 2 := n_v_old (by rw [hl]; decide)
  have e_6 : n_v (vs ++ [Value.int x]) 6 = n_v vs 6 := n_v_old (by rw [hl]; decide)
  have e_19 : n_v (vs ++ [Value.int x]) 19 = Value.int x := n_v_new hl
  have nf0 : fc_1 (20, [2, 6], [50, 2, 0, 157, 11, 2, 7, 0, 3, 2, 0, 157, 1, 1, 1, 3, 2, 0, 11, 1, 1]) ws (vs ++ [Value.int x]) := by
    refine ⟨fun n hn => ?_, ?_⟩
    · have hn : n ∈ [2, 6] := hn
      rw [List.length_append, hl]
      simp only [List.mem_cons, List.not_mem_nil, or_false] at hn
      show n < 19 + 1; omega
    · show (w_fi ws (n_v (vs ++ [Value.int x]) 2) 157 ≤ v_iv (n_v (vs ++ [Value.int x]) 6)) ∧ (w_fi ws (n_v (vs ++ [Value.int x]) 2) 11 = v_iv (n_v (vs ++ [Value.int x]) 6))
      rw [e_2]
      rw [e_6]
      rw [q2]
      first | omega | grind
  have nf1 : fc_1 (20, [19, 6], [30, -4001, -1, 0, 0, -2, 0, 0]) ws (vs ++ [Value.int x]) := by
    refine ⟨fun n hn => ?_, ?_⟩
    · have hn : n ∈ [19, 6] := hn
      rw [List.length_append, hl]
      simp only [List.mem_cons, List.not_mem_nil, or_false] at hn
      show n < 19 + 1; omega
    · show (-1) * v_iv (n_v (vs ++ [Value.int x]) 19) + ((-2) * v_iv (n_v (vs ++ [Value.int x]) 6) + 0) ≤ (-4001)
      rw [e_6]
      rw [e_19]
      omega
  have nf2 : fc_1 (24, [0, 2], []) ws (vs ++ [Value.int x]) := by
    refine ⟨fun n hn => ?_, ?_⟩
    · have hn : n ∈ [0, 2] := hn
      rw [List.length_append, hl]
      simp only [List.mem_cons, List.not_mem_nil, or_false] at hn
      show n < 19 + 1; omega
    · show n_v (vs ++ [Value.int x]) 0 = n_v (vs ++ [Value.int x]) 2
      first | rfl | simp only [e_0, e_2, q2]
  obtain ⟨x0, e0, _, _⟩ := tv_int t10 rfl
  have e1 : v_iv (n_v vs 10) = x0.toInt := by rw [e0]; rfl
  have ho : sy_ofs (vs ++ [Value.int x]) (19, 10, 0, 0) := by
    refine ⟨x, x0, by rw [List.getElem?_append_right (by rw [hl]; decide), hl]; rfl, ?_, ?_, ?_⟩
    · rw [List.getElem?_append_left (by rw [hl]; decide)]; exact n_v_some (by rw [hl]; decide) e0
    · show x0.toInt + 0 ≤ x.toInt; omega
    · show x.toInt ≤ x0.toInt + 0; omega
  exact ⟨(fun _ h => (by cases h)), [Value.int x], ag_one hx, List.forall_mem_cons.mpr ⟨⟨show (20 : Nat) < 100 from by decide, nf0⟩, List.forall_mem_cons.mpr ⟨⟨show (20 : Nat) < 100 from by decide, nf1⟩, List.forall_mem_cons.mpr ⟨⟨show (24 : Nat) < 100 from by decide, nf2⟩, (fun _ h => (by cases h))⟩⟩⟩, List.forall_mem_cons.mpr ⟨ho, (fun _ h => (by cases h))⟩⟩
def o_Mo_styleTokens_40 : or_T := (334, 20, [(0, (2, 0, 0, [150])), (2, (2, 0, 0, [150])), (6, (0, 0, 1999, [])), (10, (0, 0, 4001, []))], [(20, [2, 6], [50, 2, 0, 157, 11, 2, 7, 0, 3, 2, 0, 157, 1, 1, 1, 3, 2, 0, 11, 1, 1]), (20, [10, 6], [30, -4001, -1, 0, 0, -2, 0, 0]), (24, [0, 2], [])], [], [(0, 0, 4001, [])], [(20, [2, 6], [50, 2, 0, 157, 11, 2, 7, 0, 3, 2, 0, 157, 1, 1, 1, 3, 2, 0, 11, 1, 1]), (20, [20, 6], [30, -4001, -1, 0, 0, -2, 0, 0]), (24, [0, 2], [])], [(20, 10, 0, 0)], [])
theorem oo_Mo_styleTokens_40 {kA : Nat → ClassId} : or_ok kA GG o_Mo_styleTokens_40 := by
  intro A ta ws vs hD hth hl hk hds hf
  have hl : vs.length = 20 := hl
  have hk : ∀ q ∈ ([(0, (2, 0, 0, [150])), (2, (2, 0, 0, [150])), (6, (0, 0, 1999, [])), (10, (0, 0, 4001, []))] : List (Nat × tv_T)), tv_ok ta q.2 (n_v vs q.1) := hk
  obtain ⟨t0, hk⟩ := List.forall_mem_cons.mp hk
  have t0 : tv_ok ta (2, 0, 0, [150]) (n_v vs 0) := t0
  have r0 : ta (v_ad (n_v vs 0)) = some 150 := tv_rg t0
  obtain ⟨t2, hk⟩ := List.forall_mem_cons.mp hk
  have t2 : tv_ok ta (2, 0, 0, [150]) (n_v vs 2) := t2
  have r2 : ta (v_ad (n_v vs 2)) = some 150 := tv_rg t2
  obtain ⟨t6, hk⟩ := List.forall_mem_cons.mp hk
  have t6 : tv_ok ta (0, 0, 1999, []) (n_v vs 6) := t6
  have k6 : 0 ≤ v_iv (n_v vs 6) ∧ v_iv (n_v vs 6) ≤ 1999 := tv_rng t6
  obtain ⟨t10, hk⟩ := List.forall_mem_cons.mp hk
  have t10 : tv_ok ta (0, 0, 4001, []) (n_v vs 10) := t10
  have k10 : 0 ≤ v_iv (n_v vs 10) ∧ v_iv (n_v vs 10) ≤ 4001 := tv_rng t10
  have hf : fc_ok [(20, [2, 6], [50, 2, 0, 157, 11, 2, 7, 0, 3, 2, 0, 157, 1, 1, 1, 3, 2, 0, 11, 1, 1]), (20, [10, 6], [30, -4001, -1, 0, 0, -2, 0, 0]), (24, [0, 2], [])] ta ws vs := hf
  obtain ⟨f0, hf⟩ := fc_un (show (20 : Nat) < 100 from by decide) hf
  have f0 : (w_fi ws (n_v vs 2) 157 ≤ v_iv (n_v vs 6)) ∧ (w_fi ws (n_v vs 2) 11 = v_iv (n_v vs 6)) := f0
  obtain ⟨f1, hf⟩ := fc_un (show (20 : Nat) < 100 from by decide) hf
  have f1 : (-1) * v_iv (n_v vs 10) + ((-2) * v_iv (n_v vs 6) + 0) ≤ (-4001) := f1
  obtain ⟨f2, hf⟩ := fc_un (show (24 : Nat) < 100 from by decide) hf
  have f2 : n_v vs 0 = n_v vs 2 := f2
  have q2 : n_v vs 2 = n_v vs 0 := f2.symm
  rw [q2] at f0
  have kz_0_11 : 0 ≤ w_fi ws (n_v vs 0) 11 ∧ w_fi ws (n_v vs 0) 11 ≤ 2000 := tv_rng (th_fd hD hth r0 (g := GG_150) rfl (k := 11) (t := (0, 0, 2000, [])) rfl rfl)
  have kz_0_157 : 0 ≤ w_fi ws (n_v vs 0) 157 ∧ w_fi ws (n_v vs 0) 157 ≤ 2010 := tv_rng (th_fd hD hth r0 (g := GG_150) rfl (k := 157) (t := (0, 0, 2010, [])) rfl rfl)
  obtain ⟨x, ex, hx⟩ := iv_ex (ta := ta) (lo := 0) (hi := 4001) (z := 0 + (1 * v_iv (n_v vs 10) + 0)) (by omega) (by omega) (by omega) (by omega)
  have ex2 : v_iv (Value.int x) = 0 + (1 * v_iv (n_v vs 10) + 0) := ex
  have ex3 : 0 ≤ v_iv (Value.int x) ∧ v_iv (Value.int x) ≤ 4001 := tv_rng hx
  have e_0 : n_v (vs ++ [Value.int x]) 0 = n_v vs 0 := n_v_old (by rw [hl]; decide)
  have e_2 : n_v (vs ++ [Value.int x]) 2 = n_v vs 2 := n_v_old (by rw [hl]; decide)
  have e_6 : n_v (vs ++ [Value.int x]) 6 = n_v vs 6 := n_v_old (by rw [hl]; decide)
  have e_20 : n_v (vs ++ [Value.int x]) 20 = Value.int x := n_v_new hl
  have nf0 : fc_1 (20, [2, 6], [50, 2, 0, 157, 11, 2, 7, 0, 3, 2, 0, 157, 1, 1, 1, 3, 2, 0, 11, 1, 1]) ws (vs ++ [Value.int x]) := by
    refine ⟨fun n hn => ?_, ?_⟩
    · have hn : n ∈ [2, 6] := hn
      rw [List.length_append, hl]
      simp only [List.mem_cons, List.not_mem_nil, or_false] at hn
      show n < 20 + 1; omega
    · show (w_fi ws (n_v (vs ++ [Value.int x]) 2) 157 ≤ v_iv (n_v (vs ++ [Value.int x]) 6)) ∧ (w_fi ws (n_v (vs ++ [Value.int x]) 2) 11 = v_iv (n_v (vs ++ [Value.int x]) 6))
      rw [e_2]
      rw [e_6]
      rw [q2]
      first | omega | grind
  have nf1 : fc_1 (20, [20, 6], [30, -4001, -1, 0, 0, -2, 0, 0]) ws (vs ++ [Value.int x]) := by
    refine ⟨fun n hn => ?_, ?_⟩
    · have hn : n ∈ [20, 6] := hn
      rw [List.length_append, hl]
      simp only [List.mem_cons, List.not_mem_nil, or_false] at hn
      show n < 20 + 1; omega
    · show (-1) * v_iv (n_v (vs ++ [Value.int x]) 20) + ((-2) * v_iv (n_v (vs ++ [Value.int x]) 6) + 0) ≤ (-4001)
      rw [e_6]
      rw [e_20]
      omega
  have nf2 : fc_1 (24, [0, 2], []) ws (vs ++ [Value.int x]) := by
    refine ⟨fun n hn => ?_, ?_⟩
    · have hn : n ∈ [0, 2] := hn
      rw [List.length_append, hl]
      simp only [List.mem_cons, List.not_mem_nil, or_false] at hn
      show n < 20 + 1; omega
    · show n_v (vs ++ [Value.int x]) 0 = n_v (vs ++ [Value.int x]) 2
      first | rfl | simp only [e_0, e_2, q2]
  obtain ⟨x0, e0, _, _⟩ := tv_int t10 rfl
  have e1 : v_iv (n_v vs 10) = x0.toInt := by rw [e0]; rfl
  have ho : sy_ofs (vs ++ [Value.int x]) (20, 10, 0, 0) := by
    refine ⟨x, x0, by rw [List.getElem?_append_right (by rw [hl]; decide), hl]; rfl, ?_, ?_, ?_⟩
    · rw [List.getElem?_append_left (by rw [hl]; decide)]; exact n_v_some (by rw [hl]; decide) e0
    · show x0.toInt + 0 ≤ x.toInt; omega
    · show x.toInt ≤ x0.toInt + 0; omega
  exact ⟨(fun _ h => (by cases h)), [Value.int x], ag_one hx, List.forall_mem_cons.mpr ⟨⟨show (20 : Nat) < 100 from by decide, nf0⟩, List.forall_mem_cons.mpr ⟨⟨show (20 : Nat) < 100 from by decide, nf1⟩, List.forall_mem_cons.mpr ⟨⟨show (24 : Nat) < 100 from by decide, nf2⟩, (fun _ h => (by cases h))⟩⟩⟩, List.forall_mem_cons.mpr ⟨ho, (fun _ h => (by cases h))⟩⟩
def o_Mo_styleTokens_41 : or_T := (334, 21, [(0, (2, 0, 0, [150])), (2, (2, 0, 0, [150])), (6, (0, 0, 1999, [])), (10, (0, 0, 4001, []))], [(20, [2, 6], [50, 2, 0, 157, 11, 2, 7, 0, 3, 2, 0, 157, 1, 1, 1, 3, 2, 0, 11, 1, 1]), (20, [10, 6], [30, -4001, -1, 0, 0, -2, 0, 0]), (24, [0, 2], [])], [], [(0, 0, 4001, [])], [(20, [2, 6], [50, 2, 0, 157, 11, 2, 7, 0, 3, 2, 0, 157, 1, 1, 1, 3, 2, 0, 11, 1, 1]), (20, [21, 6], [30, -4001, -1, 0, 0, -2, 0, 0]), (24, [0, 2], [])], [(21, 10, 0, 0)], [])
theorem oo_Mo_styleTokens_41 {kA : Nat → ClassId} : or_ok kA GG o_Mo_styleTokens_41 := by
  intro A ta ws vs hD hth hl hk hds hf
  have hl : vs.length = 21 := hl
  have hk : ∀ q ∈ ([(0, (2, 0, 0, [150])), (2, (2, 0, 0, [150])), (6, (0, 0, 1999, [])), (10, (0, 0, 4001, []))] : List (Nat × tv_T)), tv_ok ta q.2 (n_v vs q.1) := hk
  obtain ⟨t0, hk⟩ := List.forall_mem_cons.mp hk
  have t0 : tv_ok ta (2, 0, 0, [150]) (n_v vs 0) := t0
  have r0 : ta (v_ad (n_v vs 0)) = some 150 := tv_rg t0
  obtain ⟨t2, hk⟩ := List.forall_mem_cons.mp hk
  have t2 : tv_ok ta (2, 0, 0, [150]) (n_v vs 2) := t2
  have r2 : ta (v_ad (n_v vs 2)) = some 150 := tv_rg t2
  obtain ⟨t6, hk⟩ := List.forall_mem_cons.mp hk
  have t6 : tv_ok ta (0, 0, 1999, []) (n_v vs 6) := t6
  have k6 : 0 ≤ v_iv (n_v vs 6) ∧ v_iv (n_v vs 6) ≤ 1999 := tv_rng t6
  obtain ⟨t10, hk⟩ := List.forall_mem_cons.mp hk
  have t10 : tv_ok ta (0, 0, 4001, []) (n_v vs 10) := t10
  have k10 : 0 ≤ v_iv (n_v vs 10) ∧ v_iv (n_v vs 10) ≤ 4001 := tv_rng t10
  have hf : fc_ok [(20, [2, 6], [50, 2, 0, 157, 11, 2, 7, 0, 3, 2, 0, 157, 1, 1, 1, 3, 2, 0, 11, 1, 1]), (20, [10, 6], [30, -4001, -1, 0, 0, -2, 0, 0]), (24, [0, 2], [])] ta ws vs := hf
  obtain ⟨f0, hf⟩ := fc_un (show (20 : Nat) < 100 from by decide) hf
  have f0 : (w_fi ws (n_v vs 2) 157 ≤ v_iv (n_v vs 6)) ∧ (w_fi ws (n_v vs 2) 11 = v_iv (n_v vs 6)) := f0
  obtain ⟨f1, hf⟩ := fc_un (show (20 : Nat) < 100 from by decide) hf
  have f1 : (-1) * v_iv (n_v vs 10) + ((-2) * v_iv (n_v vs 6) + 0) ≤ (-4001) := f1
  obtain ⟨f2, hf⟩ := fc_un (show (24 : Nat) < 100 from by decide) hf
  have f2 : n_v vs 0 = n_v vs 2 := f2
  have q2 : n_v vs 2 = n_v vs 0 := f2.symm
  rw [q2] at f0
  have kz_0_11 : 0 ≤ w_fi ws (n_v vs 0) 11 ∧ w_fi ws (n_v vs 0) 11 ≤ 2000 := tv_rng (th_fd hD hth r0 (g := GG_150) rfl (k := 11) (t := (0, 0, 2000, [])) rfl rfl)
  have kz_0_157 : 0 ≤ w_fi ws (n_v vs 0) 157 ∧ w_fi ws (n_v vs 0) 157 ≤ 2010 := tv_rng (th_fd hD hth r0 (g := GG_150) rfl (k := 157) (t := (0, 0, 2010, [])) rfl rfl)
  obtain ⟨x, ex, hx⟩ := iv_ex (ta := ta) (lo := 0) (hi := 4001) (z := 0 + (1 * v_iv (n_v vs 10) + 0)) (by omega) (by omega) (by omega) (by omega)
  have ex2 : v_iv (Value.int x) = 0 + (1 * v_iv (n_v vs 10) + 0) := ex
  have ex3 : 0 ≤ v_iv (Value.int x) ∧ v_iv (Value.int x) ≤ 4001 := tv_rng hx
  have e_0 : n_v (vs ++ [Value.int x]) 0 = n_v vs 0 := n_v_old (by rw [hl]; decide)
  have e_2 : n_v (vs ++ [Value.int x]) 2 = n_v vs 2 := n_v_old (by rw [hl]; decide)
  have e_6 : n_v (vs ++ [Value.int x]) 6 = n_v vs 6 := n_v_old (by rw [hl]; decide)
  have e_21 : n_v (vs ++ [Value.int x]) 21 = Value.int x := n_v_new hl
  have nf0 : fc_1 (20, [2, 6], [50, 2, 0, 157, 11, 2, 7, 0, 3, 2, 0, 157, 1, 1, 1, 3, 2, 0, 11, 1, 1]) ws (vs ++ [Value.int x]) := by
    refine ⟨fun n hn => ?_, ?_⟩
    · have hn : n ∈ [2, 6] := hn
      rw [List.length_append, hl]
      simp only [List.mem_cons, List.not_mem_nil, or_false] at hn
      show n < 21 + 1; omega
    · show (w_fi ws (n_v (vs ++ [Value.int x]) 2) 157 ≤ v_iv (n_v (vs ++ [Value.int x]) 6)) ∧ (w_fi ws (n_v (vs ++ [Value.int x]) 2) 11 = v_iv (n_v (vs ++ [Value.int x]) 6))
      rw [e_2]
      rw [e_6]
      rw [q2]
      first | omega | grind
  have nf1 : fc_1 (20, [21, 6], [30, -4001, -1, 0, 0, -2, 0, 0]) ws (vs ++ [Value.int x]) := by
    refine ⟨fun n hn => ?_, ?_⟩
    · have hn : n ∈ [21, 6] := hn
      rw [List.length_append, hl]
      simp only [List.mem_cons, List.not_mem_nil, or_false] at hn
      show n < 21 + 1; omega
    · show (-1) * v_iv (n_v (vs ++ [Value.int x]) 21) + ((-2) * v_iv (n_v (vs ++ [Value.int x]) 6) + 0) ≤ (-4001)
      rw [e_6]
      rw [e_21]
      omega
  have nf2 : fc_1 (24, [0, 2], []) ws (vs ++ [Value.int x]) := by
    refine ⟨fun n hn => ?_, ?_⟩
    · have hn : n ∈ [0, 2] := hn
      rw [List.length_append, hl]
      simp only [List.mem_cons, List.not_mem_nil, or_false] at hn
      show n < 21 + 1; omega
    · show n_v (vs ++ [Value.int x]) 0 = n_v (vs ++ [Value.int x]) 2
      first | rfl | simp only [e_0, e_2, q2]
  obtain ⟨x0, e0, _, _⟩ := tv_int t10 rfl
  have e1 : v_iv (n_v vs 10) = x0.toInt := by rw [e0]; rfl
  have ho : sy_ofs (vs ++ [Value.int x]) (21, 10, 0, 0) := by
    refine ⟨x, x0, by rw [List.getElem?_append_right (by rw [hl]; decide), hl]; rfl, ?_, ?_, ?_⟩
    · rw [List.getElem?_append_left (by rw [hl]; decide)]; exact n_v_some (by rw [hl]; decide) e0
    · show x0.toInt + 0 ≤ x.toInt; omega
    · show x.toInt ≤ x0.toInt + 0; omega
  exact ⟨(fun _ h => (by cases h)), [Value.int x], ag_one hx, List.forall_mem_cons.mpr ⟨⟨show (20 : Nat) < 100 from by decide, nf0⟩, List.forall_mem_cons.mpr ⟨⟨show (20 : Nat) < 100 from by decide, nf1⟩, List.forall_mem_cons.mpr ⟨⟨show (24 : Nat) < 100 from by decide, nf2⟩, (fun _ h => (by cases h))⟩⟩⟩, List.forall_mem_cons.mpr ⟨ho, (fun _ h => (by cases h))⟩⟩
