def o_Mo_reached_0 : or_T := (18, 6, [(0, (2, 0, 0, [150])), (1, (0, 0, 23999, [])), (2, (0, 0, 999999, [])), (3, (0, 0, 1000100, [])), (4, (2, 0, 0, [251])), (5, (0, 1, 1000000, []))], [(20, [0, 3], [50, 0, 1, 142, 5, 2, 0, 4, 3, 9, 0, 5, 3, 0, 142, 7, 0, 0, 0, 0, 14, 4, 2, 1, 1, 9, 6, 5, 2, 7, 0, 1, 1, 0, 4, 0, 999999]), (20, [3, 2], [30, 0, 1, 0, 0, -1, 0, 0]), (20, [2, 3], [30, 3, 1, 0, 0, -1, 0, 0]), (100, [4, 1, 2], []), (9, [4, 0], [140]), (7, [5, 2], [4]), (10, [5, 4, 1], []), (20, [0, 3], [50, 0, 2, 142, 140, 5, 2, 0, 4, 0, 5, 3, 0, 142, 7, 0, 15, 0, 140, 2, 0, 24000, 4, 2, 1, 1, 9, 6, 5, 2, 7, 0, 1, 1, 0, 4]), (20, [0, 3], [50, 0, 1, 142, 5, 2, 0, 4, 3, 9, 0, 5, 3, 0, 142, 7, 0, 0, 0, 0, 14, 4, 2, 1, 1, 9, 6, 5, 2, 7, 0, 1, 1, 0, 4, 0, 999999]), (20, [3, 2], [30, 0, 1, 0, 0, -1, 0, 0]), (20, [2, 3], [30, 3, 1, 0, 0, -1, 0, 0])], [], [], [(20, [0, 3], [50, 0, 2, 142, 140, 5, 2, 0, 4, 0, 5, 3, 0, 142, 7, 0, 15, 0, 140, 2, 0, 24000, 4, 2, 1, 1, 9, 6, 5, 2, 7, 0, 1, 1, 0, 4]), (20, [0, 2], [50, 0, 2, 142, 140, 0, 13, 4, 9, 3, 0, 142, 9, 2, 1, 1, 0, 4, 0, 1, 15, 0, 140, 2, 0, 24000, 1, 1]), (23, [2], [999999, 1])], [], [(5, 2, 1, 4294967296)])
set_option maxHeartbeats 8000000 in
theorem oo_Mo_reached_0 {kA : Nat → ClassId} : or_ok kA GG o_Mo_reached_0 := by
  intro A ta ws vs hD hth hl hk hds hf
  have hl : vs.length = 6 := hl
  have hk : ∀ q ∈ ([(0, (2, 0, 0, [150])), (1, (0, 0, 23999, [])), (2, (0, 0, 999999, [])), (3, (0, 0, 1000100, [])), (4, (2, 0, 0, [251])), (5, (0, 1, 1000000, []))] : List (Nat × tv_T)), tv_ok ta q.2 (n_v vs q.1) := hk
  obtain ⟨t0, hk⟩ := List.forall_mem_cons.mp hk
  have t0 : tv_ok ta (2, 0, 0, [150]) (n_v vs 0) := t0
  have r0 : ta (v_ad (n_v vs 0)) = some 150 := tv_rg t0
  obtain ⟨t1, hk⟩ := List.forall_mem_cons.mp hk
  have t1 : tv_ok ta (0, 0, 23999, []) (n_v vs 1) := t1
  have k1 : 0 ≤ v_iv (n_v vs 1) ∧ v_iv (n_v vs 1) ≤ 23999 := tv_rng t1
  obtain ⟨t2, hk⟩ := List.forall_mem_cons.mp hk
  have t2 : tv_ok ta (0, 0, 999999, []) (n_v vs 2) := t2
  have k2 : 0 ≤ v_iv (n_v vs 2) ∧ v_iv (n_v vs 2) ≤ 999999 := tv_rng t2
  obtain ⟨t3, hk⟩ := List.forall_mem_cons.mp hk
  have t3 : tv_ok ta (0, 0, 1000100, []) (n_v vs 3) := t3
  have k3 : 0 ≤ v_iv (n_v vs 3) ∧ v_iv (n_v vs 3) ≤ 1000100 := tv_rng t3
  obtain ⟨t4, hk⟩ := List.forall_mem_cons.mp hk
  have t4 : tv_ok ta (2, 0, 0, [251]) (n_v vs 4) := t4
  have r4 : ta (v_ad (n_v vs 4)) = some 251 := tv_rg t4
  obtain ⟨t5, hk⟩ := List.forall_mem_cons.mp hk
  have t5 : tv_ok ta (0, 1, 1000000, []) (n_v vs 5) := t5
  have k5 : 1 ≤ v_iv (n_v vs 5) ∧ v_iv (n_v vs 5) ≤ 1000000 := tv_rng t5
  have hds : ∀ q ∈ ([(5, 2, 1, 4294967296)] : List of_T), n_iv vs q.2.1 + q.2.2.1 ≤ n_iv vs q.1 ∧ n_iv vs q.1 ≤ n_iv vs q.2.1 + q.2.2.2 := hds
  obtain ⟨d0, hds⟩ := List.forall_mem_cons.mp hds
  have d0 : v_iv (n_v vs 2) + 1 ≤ v_iv (n_v vs 5) ∧ v_iv (n_v vs 5) ≤ v_iv (n_v vs 2) + 4294967296 := d0
  have hf : fc_ok [(20, [0, 3], [50, 0, 1, 142, 5, 2, 0, 4, 3, 9, 0, 5, 3, 0, 142, 7, 0, 0, 0, 0, 14, 4, 2, 1, 1, 9, 6, 5, 2, 7, 0, 1, 1, 0, 4, 0, 999999]), (20, [3, 2], [30, 0, 1, 0, 0, -1, 0, 0]), (20, [2, 3], [30, 3, 1, 0, 0, -1, 0, 0]), (100, [4, 1, 2], []), (9, [4, 0], [140]), (7, [5, 2], [4]), (10, [5, 4, 1], []), (20, [0, 3], [50, 0, 2, 142, 140, 5, 2, 0, 4, 0, 5, 3, 0, 142, 7, 0, 15, 0, 140, 2, 0, 24000, 4, 2, 1, 1, 9, 6, 5, 2, 7, 0, 1, 1, 0, 4]), (20, [0, 3], [50, 0, 1, 142, 5, 2, 0, 4, 3, 9, 0, 5, 3, 0, 142, 7, 0, 0, 0, 0, 14, 4, 2, 1, 1, 9, 6, 5, 2, 7, 0, 1, 1, 0, 4, 0, 999999]), (20, [3, 2], [30, 0, 1, 0, 0, -1, 0, 0]), (20, [2, 3], [30, 3, 1, 0, 0, -1, 0, 0])] ta ws vs := hf
  obtain ⟨f0, hf⟩ := fc_un (show (20 : Nat) < 100 from by decide) hf
  have f0 : ∀ j0 : Int, 0 ≤ j0 → j0 < 4 → ((w_ei ws (w_ar ws (n_v vs 0) 142) (j0) ≤ 0) ∨ ((v_iv (n_v vs 3) + ((j0 - v_iv (n_v vs 3)) % 4)) ≤ 999999)) := f0
  obtain ⟨f1, hf⟩ := fc_un (show (20 : Nat) < 100 from by decide) hf
  have f1 : 1 * v_iv (n_v vs 3) + ((-1) * v_iv (n_v vs 2) + 0) ≤ 0 := f1
  obtain ⟨f2, hf⟩ := fc_un (show (20 : Nat) < 100 from by decide) hf
  have f2 : 1 * v_iv (n_v vs 2) + ((-1) * v_iv (n_v vs 3) + 0) ≤ 3 := f2
  obtain ⟨ta1, w1, le1, ⟨_, s1⟩, hf⟩ := fc_us (show ¬ (100 : Nat) < 100 from by decide) hf
  have s1 : (∀ b j, w_el ws b j = if b = v_ad (n_v vs 4) ∧ j = (v_iv (n_v vs 1)).toNat then v_iv (n_v vs 2) else w_el w1 b j) ∧ ∀ b k, w_fd ws b k = w_fd w1 b k := s1
  obtain ⟨f4, hf⟩ := fc_un (show (9 : Nat) < 100 from by decide) hf
  have f4 : n_v vs 4 = w_fd w1 (v_ad (n_v vs 0)) 140 := f4
  obtain ⟨f5, hf⟩ := fc_un (show (7 : Nat) < 100 from by decide) hf
  have f5 : v_iv (n_v vs 2) < v_iv (n_v vs 5) := f5
  obtain ⟨f6, hf⟩ := fc_un (show (10 : Nat) < 100 from by decide) hf
  have f6 : v_iv (n_v vs 5) = w_el w1 (v_ad (n_v vs 4)) (v_iv (n_v vs 1)).toNat := f6
  obtain ⟨f7, hf⟩ := fc_un (show (20 : Nat) < 100 from by decide) hf
  have f7 : ∀ j0 : Int, 0 ≤ j0 → j0 < 4 → (w_ei w1 (w_ar w1 (n_v vs 0) 142) (j0) ≤ cntE (w_ei w1 (w_ar w1 (n_v vs 0) 140)) ((v_iv (n_v vs 3) + ((j0 - v_iv (n_v vs 3)) % 4))) (24000 : Int).toNat) := f7
  obtain ⟨f8, hf⟩ := fc_un (show (20 : Nat) < 100 from by decide) hf
  have f8 : ∀ j0 : Int, 0 ≤ j0 → j0 < 4 → ((w_ei w1 (w_ar w1 (n_v vs 0) 142) (j0) ≤ 0) ∨ ((v_iv (n_v vs 3) + ((j0 - v_iv (n_v vs 3)) % 4)) ≤ 999999)) := f8
  obtain ⟨f9, hf⟩ := fc_un (show (20 : Nat) < 100 from by decide) hf
  have f9 : 1 * v_iv (n_v vs 3) + ((-1) * v_iv (n_v vs 2) + 0) ≤ 0 := f9
  obtain ⟨f10, hf⟩ := fc_un (show (20 : Nat) < 100 from by decide) hf
  have f10 : 1 * v_iv (n_v vs 2) + ((-1) * v_iv (n_v vs 3) + 0) ≤ 3 := f10
  have ar_0_140_1 : w_ar w1 (n_v vs 0) 140 = w_ar ws (n_v vs 0) 140 := by show v_ad (w_fd w1 _ _) = v_ad (w_fd ws _ _); rw [s1.2]
  have cr_0_140 : ta (w_ar ws (n_v vs 0) 140) = some 251 := tv_rg (th_fd hD hth r0 (g := GG_150) rfl (k := 140) (t := (2, 0, 0, [251])) rfl rfl)
  have ar_0_142_1 : w_ar w1 (n_v vs 0) 142 = w_ar ws (n_v vs 0) 142 := by show v_ad (w_fd w1 _ _) = v_ad (w_fd ws _ _); rw [s1.2]
  have cr_0_142 : ta (w_ar ws (n_v vs 0) 142) = some 253 := tv_rg (th_fd hD hth r0 (g := GG_150) rfl (k := 142) (t := (2, 0, 0, [253])) rfl rfl)
  have ad_4 : v_ad (n_v vs 4) = w_ar ws (n_v vs 0) 140 := (congrArg v_ad f4).trans ar_0_140_1
  rw [ad_4] at f6
  have h6 : v_iv (n_v vs 5) = w_ei w1 (w_ar ws (n_v vs 0) 140) (v_iv (n_v vs 1)) := f6
  rw [ar_0_140_1] at f7
  rw [ar_0_142_1] at f7
  rw [ar_0_142_1] at f8
  have ee_0_140_1_1 : w_el ws (w_ar ws (n_v vs 0) 140) (v_iv (n_v vs 1)).toNat = v_iv (n_v vs 2) := by rw [s1.1, if_pos ⟨ad_4.symm, rfl⟩]
  have br_0_140_1_0 : w_ei ws (w_ar ws (n_v vs 0) 140) (v_iv (n_v vs 1)) = w_el ws (w_ar ws (n_v vs 0) 140) (v_iv (n_v vs 1)).toNat := rfl
  have br_0_140_1_1 : w_ei w1 (w_ar ws (n_v vs 0) 140) (v_iv (n_v vs 1)) = w_el w1 (w_ar ws (n_v vs 0) 140) (v_iv (n_v vs 1)).toNat := rfl
  have hE_0_140_1 : ∀ j : Int, 0 ≤ j → (j = v_iv (n_v vs 1) → w_ei ws (w_ar ws (n_v vs 0) 140) j = v_iv (n_v vs 2)) ∧ (j ≠ v_iv (n_v vs 1) → w_ei ws (w_ar ws (n_v vs 0) 140) j = w_ei w1 (w_ar ws (n_v vs 0) 140) j) := fun j hj => ⟨fun h => by unfold w_ei; rw [s1.1, if_pos ⟨ad_4.symm, by rw [h]⟩], fun h => by unfold w_ei; rw [s1.1, if_neg (fun e => h (by have := e.2; omega))]⟩
  have hK_0_140 : ∀ j : Int, 0 ≤ j → j < 24000 → 0 ≤ w_ei ws (w_ar ws (n_v vs 0) 140) j ∧ w_ei ws (w_ar ws (n_v vs 0) 140) j ≤ 1000000 := fun j h0 h1 => th_el hD hth cr_0_140 (kd := 0) (n := 24000) (m := 24000) (lo := 0) (hi := 1000000) (rs := []) (L := []) rfl (by decide) (j := j.toNat) (by omega)
  have hE_0_142_1 : ∀ j : Int, w_ei ws (w_ar ws (n_v vs 0) 142) j = w_ei w1 (w_ar ws (n_v vs 0) 142) j := fun j => by unfold w_ei; rw [s1.1, if_neg (fun e => by have e1 := e.1; rw [← e1] at r4; rw [cr_0_142] at r4; exact absurd (Option.some.inj r4) (by decide))]
  have hK_0_142 : ∀ j : Int, 0 ≤ j → j < 4 → 0 ≤ w_ei ws (w_ar ws (n_v vs 0) 142) j ∧ w_ei ws (w_ar ws (n_v vs 0) 142) j ≤ 24009 := fun j h0 h1 => th_el hD hth cr_0_142 (kd := 0) (n := 4) (m := 4) (lo := 0) (hi := 24009) (rs := []) (L := []) rfl (by decide) (j := j.toNat) (by omega)
  first | have qi1 := (hE_0_140_1 (v_iv (n_v vs 1)) (by omega)).1 (by omega) | have qi1 := (hE_0_140_1 (v_iv (n_v vs 1)) (by omega)).2 (by omega) | skip
  first | have qi2 := hK_0_140 (v_iv (n_v vs 1)) (by omega) (by omega) | skip
  first | have qi3 := f0 ((v_iv (n_v vs 2) % 4)) (by omega) (by omega) | skip
  first | rw [show ((v_iv (n_v vs 3) + ((v_iv (n_v vs 2) % 4) - v_iv (n_v vs 3)) % 4) : Int) = v_iv (n_v vs 2) from by omega] at qi3 | skip
  first | have qi4 := f7 ((v_iv (n_v vs 2) % 4)) (by omega) (by omega) | skip
  first | rw [show ((v_iv (n_v vs 3) + ((v_iv (n_v vs 2) % 4) - v_iv (n_v vs 3)) % 4) : Int) = v_iv (n_v vs 2) from by omega] at qi4 | skip
  first | have qi5 := f8 ((v_iv (n_v vs 2) % 4)) (by omega) (by omega) | skip
  first | rw [show ((v_iv (n_v vs 3) + ((v_iv (n_v vs 2) % 4) - v_iv (n_v vs 3)) % 4) : Int) = v_iv (n_v vs 2) from by omega] at qi5 | skip
  first | have qi6 := hK_0_140 ((v_iv (n_v vs 2) % 4)) (by omega) (by omega) | skip
  first | rw [show ((v_iv (n_v vs 3) + ((v_iv (n_v vs 2) % 4) - v_iv (n_v vs 3)) % 4) : Int) = v_iv (n_v vs 2) from by omega] at qi6 | skip
  first | have qi7 := hK_0_142 ((v_iv (n_v vs 2) % 4)) (by omega) (by omega) | skip
  first | rw [show ((v_iv (n_v vs 3) + ((v_iv (n_v vs 2) % 4) - v_iv (n_v vs 3)) % 4) : Int) = v_iv (n_v vs 2) from by omega] at qi7 | skip
  first | have qi8 := (hE_0_140_1 ((v_iv (n_v vs 2) % 4)) (by omega)).1 (by omega) | have qi8 := (hE_0_140_1 ((v_iv (n_v vs 2) % 4)) (by omega)).2 (by omega) | skip
  have qi9 := hE_0_142_1 ((v_iv (n_v vs 2) % 4))
  first | have hC1 := cnt_setD (t := v_iv (n_v vs 2)) (n := (24000 : Int).toNat) (f1 := w_ei ws (w_ar ws (n_v vs 0) 140)) (f0 := w_ei w1 (w_ar ws (n_v vs 0) 140)) hE_0_140_1 (by omega) (by omega) | skip
  have hCb1_0 := cnt_bd (w_ei ws (w_ar ws (n_v vs 0) 140)) (v_iv (n_v vs 2)) (24000 : Int).toNat
  have hCb1_1 := cnt_bd (w_ei w1 (w_ar ws (n_v vs 0) 140)) (v_iv (n_v vs 2)) (24000 : Int).toNat
  first | have hU := cnt_up (n := (24000 : Int).toNat) (f1 := w_ei ws (w_ar ws (n_v vs 0) 140)) (f0 := w_ei w1 (w_ar ws (n_v vs 0) 140)) hE_0_140_1 (by omega) (by omega) (by omega) | skip
  first | have hU2 := hU (v_iv (n_v vs 2)) | skip
  have nf0 : fc_1 (20, [0, 3], [50, 0, 2, 142, 140, 5, 2, 0, 4, 0, 5, 3, 0, 142, 7, 0, 15, 0, 140, 2, 0, 24000, 4, 2, 1, 1, 9, 6, 5, 2, 7, 0, 1, 1, 0, 4]) ws (vs) := by
    refine ⟨fun n hn => ?_, ?_⟩
    · have hn : n ∈ [0, 3] := hn
      rw [hl]
      simp only [List.mem_cons, List.not_mem_nil, or_false] at hn
      show n < 6; omega
    · show ∀ j0 : Int, 0 ≤ j0 → j0 < 4 → (w_ei ws (w_ar ws (n_v vs 0) 142) (j0) ≤ cntE (w_ei ws (w_ar ws (n_v vs 0) 140)) ((v_iv (n_v vs 3) + ((j0 - v_iv (n_v vs 3)) % 4))) (24000 : Int).toNat)
      first | (intro j0 hj00 hj01; (rcases Decidable.em (j0 = v_iv (n_v vs 1)) with hc11 | hc11); (have hc11v := (hE_0_140_1 (j0) hj00).1 hc11; (first | have i1 := f0 (j0) hj00 | skip); (first | have i2 := f7 (j0) hj00 | skip); (first | have i3 := f8 (j0) hj00 | skip); (first | have i4 := hK_0_140 (j0) hj00 | skip); (first | have i5 := hK_0_142 (j0) hj00 | skip); (first | have i6 := hE_0_142_1 (j0) | skip); (first | have i7 := hU (v_iv (n_v vs 3) + ((j0 - v_iv (n_v vs 3)) % 4)) | skip); (first | have i8 := hV (v_iv (n_v vs 3) + ((j0 - v_iv (n_v vs 3)) % 4)) | skip); (first | have i9 := hV (v_iv (n_v vs 2)) | skip); (first | have i10 := cnt_bd (w_ei ws (w_ar ws (n_v vs 0) 140)) (v_iv (n_v vs 3) + ((j0 - v_iv (n_v vs 3)) % 4)) (24000 : Int).toNat | skip); (first | rw [show ((v_iv (n_v vs 3) + (j0 - v_iv (n_v vs 3)) % 4) : Int) = v_iv (n_v vs 2) from by omega] | skip); omega); (have hc11v := (hE_0_140_1 (j0) hj00).2 hc11; (first | have i1 := f0 (j0) hj00 | skip); (first | have i2 := f7 (j0) hj00 | skip); (first | have i3 := f8 (j0) hj00 | skip); (first | have i4 := hK_0_140 (j0) hj00 | skip); (first | have i5 := hK_0_142 (j0) hj00 | skip); (first | have i6 := hE_0_142_1 (j0) | skip); (first | have i7 := hU (v_iv (n_v vs 3) + ((j0 - v_iv (n_v vs 3)) % 4)) | skip); (first | have i8 := hV (v_iv (n_v vs 3) + ((j0 - v_iv (n_v vs 3)) % 4)) | skip); (first | have i9 := hV (v_iv (n_v vs 2)) | skip); (first | have i10 := cnt_bd (w_ei ws (w_ar ws (n_v vs 0) 140)) (v_iv (n_v vs 3) + ((j0 - v_iv (n_v vs 3)) % 4)) (24000 : Int).toNat | skip); (first | rw [show ((v_iv (n_v vs 3) + (j0 - v_iv (n_v vs 3)) % 4) : Int) = v_iv (n_v vs 2) from by omega] | skip); omega)) | (set_option maxHeartbeats 200000 in grind)
  have nf1 : fc_1 (20, [0, 2], [50, 0, 2, 142, 140, 0, 13, 4, 9, 3, 0, 142, 9, 2, 1, 1, 0, 4, 0, 1, 15, 0, 140, 2, 0, 24000, 1, 1]) ws (vs) := by
    refine ⟨fun n hn => ?_, ?_⟩
    · have hn : n ∈ [0, 2] := hn
      rw [hl]
      simp only [List.mem_cons, List.not_mem_nil, or_false] at hn
      show n < 6; omega
    · show (w_ei ws (w_ar ws (n_v vs 0) 142) ((v_iv (n_v vs 2) % 4)) + 1) ≤ cntE (w_ei ws (w_ar ws (n_v vs 0) 140)) (v_iv (n_v vs 2)) (24000 : Int).toNat
      first | (omega) | (set_option maxHeartbeats 200000 in grind)
  have nf2 : fc_1 (23, [2], [999999, 1]) ws (vs) := by
    refine ⟨fun n hn => ?_, ?_⟩
    · have hn : n ∈ [2] := hn
      rw [hl]
      simp only [List.mem_cons, List.not_mem_nil, or_false] at hn
      show n < 6; omega
    · show 1 * v_iv (n_v vs 2) + 0 ≤ 999999
      omega
  refine ⟨(fun _ h => (by cases h)), [], trivial, ?_, (fun _ h => (by cases h))⟩
  rw [List.append_nil]
  exact List.forall_mem_cons.mpr ⟨⟨show (20 : Nat) < 100 from by decide, nf0⟩, List.forall_mem_cons.mpr ⟨⟨show (20 : Nat) < 100 from by decide, nf1⟩, List.forall_mem_cons.mpr ⟨⟨show (23 : Nat) < 100 from by decide, nf2⟩, (fun _ h => (by cases h))⟩⟩⟩
def o_Mo_reached_1 : or_T := (49, 17, [(0, (2, 0, 0, [150])), (2, (0, 0, 999999, [])), (3, (0, 0, 1000100, [])), (7, (0, 0, 3, [])), (11, (2, 0, 0, [253])), (14, (0, 0, 24009, [])), (15, (0, 1, 1, [])), (16, (0, 1, 24010, []))], [(1, [16, 14, 15], []), (10, [14, 11, 7], []), (9, [11, 0], [142]), (20, [0, 3], [50, 0, 2, 142, 140, 5, 2, 0, 4, 0, 5, 3, 0, 142, 7, 0, 15, 0, 140, 2, 0, 24000, 4, 2, 1, 1, 9, 6, 5, 2, 7, 0, 1, 1, 0, 4]), (20, [0, 2], [50, 0, 2, 142, 140, 0, 13, 4, 9, 3, 0, 142, 9, 2, 1, 1, 0, 4, 0, 1, 15, 0, 140, 2, 0, 24000, 1, 1]), (23, [2], [999999, 1]), (20, [0, 3], [50, 0, 1, 142, 5, 2, 0, 4, 3, 9, 0, 5, 3, 0, 142, 7, 0, 0, 0, 0, 14, 4, 2, 1, 1, 9, 6, 5, 2, 7, 0, 1, 1, 0, 4, 0, 999999]), (20, [3, 2], [30, 0, 1, 0, 0, -1, 0, 0]), (20, [2, 3], [30, 3, 1, 0, 0, -1, 0, 0])], [(16, (0, 1, 24001, []))], [], [], [], [(16, 14, 1, 1)])
set_option maxHeartbeats 8000000 in
theorem oo_Mo_reached_1 {kA : Nat → ClassId} : or_ok kA GG o_Mo_reached_1 := by
  intro A ta ws vs hD hth hl hk hds hf
  have hl : vs.length = 17 := hl
  have hk : ∀ q ∈ ([(0, (2, 0, 0, [150])), (2, (0, 0, 999999, [])), (3, (0, 0, 1000100, [])), (7, (0, 0, 3, [])), (11, (2, 0, 0, [253])), (14, (0, 0, 24009, [])), (15, (0, 1, 1, [])), (16, (0, 1, 24010, []))] : List (Nat × tv_T)), tv_ok ta q.2 (n_v vs q.1) := hk
  obtain ⟨t0, hk⟩ := List.forall_mem_cons.mp hk
  have t0 : tv_ok ta (2, 0, 0, [150]) (n_v vs 0) := t0
  have r0 : ta (v_ad (n_v vs 0)) = some 150 := tv_rg t0
  obtain ⟨t2, hk⟩ := List.forall_mem_cons.mp hk
  have t2 : tv_ok ta (0, 0, 999999, []) (n_v vs 2) := t2
  have k2 : 0 ≤ v_iv (n_v vs 2) ∧ v_iv (n_v vs 2) ≤ 999999 := tv_rng t2
  obtain ⟨t3, hk⟩ := List.forall_mem_cons.mp hk
  have t3 : tv_ok ta (0, 0, 1000100, []) (n_v vs 3) := t3
  have k3 : 0 ≤ v_iv (n_v vs 3) ∧ v_iv (n_v vs 3) ≤ 1000100 := tv_rng t3
  obtain ⟨t7, hk⟩ := List.forall_mem_cons.mp hk
  have t7 : tv_ok ta (0, 0, 3, []) (n_v vs 7) := t7
  have k7 : 0 ≤ v_iv (n_v vs 7) ∧ v_iv (n_v vs 7) ≤ 3 := tv_rng t7
  obtain ⟨t11, hk⟩ := List.forall_mem_cons.mp hk
  have t11 : tv_ok ta (2, 0, 0, [253]) (n_v vs 11) := t11
  have r11 : ta (v_ad (n_v vs 11)) = some 253 := tv_rg t11
  obtain ⟨t14, hk⟩ := List.forall_mem_cons.mp hk
  have t14 : tv_ok ta (0, 0, 24009, []) (n_v vs 14) := t14
  have k14 : 0 ≤ v_iv (n_v vs 14) ∧ v_iv (n_v vs 14) ≤ 24009 := tv_rng t14
  obtain ⟨t15, hk⟩ := List.forall_mem_cons.mp hk
  have t15 : tv_ok ta (0, 1, 1, []) (n_v vs 15) := t15
  have k15 : 1 ≤ v_iv (n_v vs 15) ∧ v_iv (n_v vs 15) ≤ 1 := tv_rng t15
  obtain ⟨t16, hk⟩ := List.forall_mem_cons.mp hk
  have t16 : tv_ok ta (0, 1, 24010, []) (n_v vs 16) := t16
  have k16 : 1 ≤ v_iv (n_v vs 16) ∧ v_iv (n_v vs 16) ≤ 24010 := tv_rng t16
  have hds : ∀ q ∈ ([(16, 14, 1, 1)] : List of_T), n_iv vs q.2.1 + q.2.2.1 ≤ n_iv vs q.1 ∧ n_iv vs q.1 ≤ n_iv vs q.2.1 + q.2.2.2 := hds
  obtain ⟨d0, hds⟩ := List.forall_mem_cons.mp hds
  have d0 : v_iv (n_v vs 14) + 1 ≤ v_iv (n_v vs 16) ∧ v_iv (n_v vs 16) ≤ v_iv (n_v vs 14) + 1 := d0
  have hf : fc_ok [(1, [16, 14, 15], []), (10, [14, 11, 7], []), (9, [11, 0], [142]), (20, [0, 3], [50, 0, 2, 142, 140, 5, 2, 0, 4, 0, 5, 3, 0, 142, 7, 0, 15, 0, 140, 2, 0, 24000, 4, 2, 1, 1, 9, 6, 5, 2, 7, 0, 1, 1, 0, 4]), (20, [0, 2], [50, 0, 2, 142, 140, 0, 13, 4, 9, 3, 0, 142, 9, 2, 1, 1, 0, 4, 0, 1, 15, 0, 140, 2, 0, 24000, 1, 1]), (23, [2], [999999, 1]), (20, [0, 3], [50, 0, 1, 142, 5, 2, 0, 4, 3, 9, 0, 5, 3, 0, 142, 7, 0, 0, 0, 0, 14, 4, 2, 1, 1, 9, 6, 5, 2, 7, 0, 1, 1, 0, 4, 0, 999999]), (20, [3, 2], [30, 0, 1, 0, 0, -1, 0, 0]), (20, [2, 3], [30, 3, 1, 0, 0, -1, 0, 0])] ta ws vs := hf
  obtain ⟨f0, hf⟩ := fc_un (show (1 : Nat) < 100 from by decide) hf
  have f0 : v_iv (n_v vs 16) = v_iv (n_v vs 14) + v_iv (n_v vs 15) := f0
  obtain ⟨f1, hf⟩ := fc_un (show (10 : Nat) < 100 from by decide) hf
  have f1 : v_iv (n_v vs 14) = w_el ws (v_ad (n_v vs 11)) (v_iv (n_v vs 7)).toNat := f1
  obtain ⟨f2, hf⟩ := fc_un (show (9 : Nat) < 100 from by decide) hf
  have f2 : n_v vs 11 = w_fd ws (v_ad (n_v vs 0)) 142 := f2
  obtain ⟨f3, hf⟩ := fc_un (show (20 : Nat) < 100 from by decide) hf
  have f3 : ∀ j0 : Int, 0 ≤ j0 → j0 < 4 → (w_ei ws (w_ar ws (n_v vs 0) 142) (j0) ≤ cntE (w_ei ws (w_ar ws (n_v vs 0) 140)) ((v_iv (n_v vs 3) + ((j0 - v_iv (n_v vs 3)) % 4))) (24000 : Int).toNat) := f3
  obtain ⟨f4, hf⟩ := fc_un (show (20 : Nat) < 100 from by decide) hf
  have f4 : (w_ei ws (w_ar ws (n_v vs 0) 142) ((v_iv (n_v vs 2) % 4)) + 1) ≤ cntE (w_ei ws (w_ar ws (n_v vs 0) 140)) (v_iv (n_v vs 2)) (24000 : Int).toNat := f4
  obtain ⟨f5, hf⟩ := fc_un (show (23 : Nat) < 100 from by decide) hf
  have f5 : 1 * v_iv (n_v vs 2) + 0 ≤ 999999 := f5
  obtain ⟨f6, hf⟩ := fc_un (show (20 : Nat) < 100 from by decide) hf
  have f6 : ∀ j0 : Int, 0 ≤ j0 → j0 < 4 → ((w_ei ws (w_ar ws (n_v vs 0) 142) (j0) ≤ 0) ∨ ((v_iv (n_v vs 3) + ((j0 - v_iv (n_v vs 3)) % 4)) ≤ 999999)) := f6
  obtain ⟨f7, hf⟩ := fc_un (show (20 : Nat) < 100 from by decide) hf
  have f7 : 1 * v_iv (n_v vs 3) + ((-1) * v_iv (n_v vs 2) + 0) ≤ 0 := f7
  obtain ⟨f8, hf⟩ := fc_un (show (20 : Nat) < 100 from by decide) hf
  have f8 : 1 * v_iv (n_v vs 2) + ((-1) * v_iv (n_v vs 3) + 0) ≤ 3 := f8
  have cr_0_140 : ta (w_ar ws (n_v vs 0) 140) = some 251 := tv_rg (th_fd hD hth r0 (g := GG_150) rfl (k := 140) (t := (2, 0, 0, [251])) rfl rfl)
  have cr_0_142 : ta (w_ar ws (n_v vs 0) 142) = some 253 := tv_rg (th_fd hD hth r0 (g := GG_150) rfl (k := 142) (t := (2, 0, 0, [253])) rfl rfl)
  have ad_11 : v_ad (n_v vs 11) = w_ar ws (n_v vs 0) 142 := congrArg v_ad f2
  rw [ad_11] at f1
  have h1 : v_iv (n_v vs 14) = w_ei ws (w_ar ws (n_v vs 0) 142) (v_iv (n_v vs 7)) := f1
  have br_0_142_7_0 : w_ei ws (w_ar ws (n_v vs 0) 142) (v_iv (n_v vs 7)) = w_el ws (w_ar ws (n_v vs 0) 142) (v_iv (n_v vs 7)).toNat := rfl
  have hK_0_140 : ∀ j : Int, 0 ≤ j → j < 24000 → 0 ≤ w_ei ws (w_ar ws (n_v vs 0) 140) j ∧ w_ei ws (w_ar ws (n_v vs 0) 140) j ≤ 1000000 := fun j h0 h1 => th_el hD hth cr_0_140 (kd := 0) (n := 24000) (m := 24000) (lo := 0) (hi := 1000000) (rs := []) (L := []) rfl (by decide) (j := j.toNat) (by omega)
  have hK_0_142 : ∀ j : Int, 0 ≤ j → j < 4 → 0 ≤ w_ei ws (w_ar ws (n_v vs 0) 142) j ∧ w_ei ws (w_ar ws (n_v vs 0) 142) j ≤ 24009 := fun j h0 h1 => th_el hD hth cr_0_142 (kd := 0) (n := 4) (m := 4) (lo := 0) (hi := 24009) (rs := []) (L := []) rfl (by decide) (j := j.toNat) (by omega)
  first | have qi1 := f3 (v_iv (n_v vs 7)) (by omega) (by omega) | skip
  first | have qi2 := f6 (v_iv (n_v vs 7)) (by omega) (by omega) | skip
  first | have qi3 := hK_0_142 (v_iv (n_v vs 7)) (by omega) (by omega) | skip
  have hCb0_0 := cnt_bd (w_ei ws (w_ar ws (n_v vs 0) 140)) (v_iv (n_v vs 2)) (24000 : Int).toNat
  have hW := fun t : Int => cnt_bd (w_ei ws (w_ar ws (n_v vs 0) 140)) t (24000 : Int).toNat
  have rf16 : tv_ok ta (0, 1, 24001, []) (n_v vs 16) := tv_in t16 (by first | omega | (omega) | (set_option maxHeartbeats 200000 in grind)) (by first | omega | (omega) | (set_option maxHeartbeats 200000 in grind))
  refine ⟨List.forall_mem_cons.mpr ⟨rf16, (fun _ h => (by cases h))⟩, [], trivial, ?_, (fun _ h => (by cases h))⟩
  rw [List.append_nil]
  exact (fun _ h => (by cases h))
def o_Mo_reached_2 : or_T := (50, 17, [(0, (2, 0, 0, [150])), (2, (0, 0, 999999, [])), (3, (0, 0, 1000100, [])), (7, (0, 0, 3, [])), (11, (2, 0, 0, [253])), (14, (0, 0, 24009, [])), (15, (0, 1, 1, [])), (16, (0, 1, 24001, []))], [(23, [2], [999999, 1]), (20, [3, 2], [30, 0, 1, 0, 0, -1, 0, 0]), (20, [2, 3], [30, 3, 1, 0, 0, -1, 0, 0]), (100, [11, 7, 16], []), (1, [16, 14, 15], []), (10, [14, 11, 7], []), (9, [11, 0], [142]), (20, [0, 3], [50, 0, 2, 142, 140, 5, 2, 0, 4, 0, 5, 3, 0, 142, 7, 0, 15, 0, 140, 2, 0, 24000, 4, 2, 1, 1, 9, 6, 5, 2, 7, 0, 1, 1, 0, 4]), (20, [0, 2], [50, 0, 2, 142, 140, 0, 13, 4, 9, 3, 0, 142, 9, 2, 1, 1, 0, 4, 0, 1, 15, 0, 140, 2, 0, 24000, 1, 1]), (23, [2], [999999, 1]), (20, [0, 3], [50, 0, 1, 142, 5, 2, 0, 4, 3, 9, 0, 5, 3, 0, 142, 7, 0, 0, 0, 0, 14, 4, 2, 1, 1, 9, 6, 5, 2, 7, 0, 1, 1, 0, 4, 0, 999999]), (20, [3, 2], [30, 0, 1, 0, 0, -1, 0, 0]), (20, [2, 3], [30, 3, 1, 0, 0, -1, 0, 0])], [], [], [(20, [0, 3], [50, 0, 2, 142, 140, 5, 2, 0, 4, 0, 5, 3, 0, 142, 7, 0, 15, 0, 140, 2, 0, 24000, 4, 2, 1, 1, 9, 6, 5, 2, 7, 0, 1, 1, 0, 4]), (20, [0, 3], [50, 0, 1, 142, 5, 2, 0, 4, 3, 9, 0, 5, 3, 0, 142, 7, 0, 0, 0, 0, 14, 4, 2, 1, 1, 9, 6, 5, 2, 7, 0, 1, 1, 0, 4, 0, 999999])], [], [(16, 14, 1, 1)])
set_option maxHeartbeats 8000000 in
theorem oo_Mo_reached_2 {kA : Nat → ClassId} : or_ok kA GG o_Mo_reached_2 := by
  intro A ta ws vs hD hth hl hk hds hf
  have hl : vs.length = 17 := hl
  have hk : ∀ q ∈ ([(0, (2, 0, 0, [150])), (2, (0, 0, 999999, [])), (3, (0, 0, 1000100, [])), (7, (0, 0, 3, [])), (11, (2, 0, 0, [253])), (14, (0, 0, 24009, [])), (15, (0, 1, 1, [])), (16, (0, 1, 24001, []))] : List (Nat × tv_T)), tv_ok ta q.2 (n_v vs q.1) := hk
  obtain ⟨t0, hk⟩ := List.forall_mem_cons.mp hk
  have t0 : tv_ok ta (2, 0, 0, [150]) (n_v vs 0) := t0
  have r0 : ta (v_ad (n_v vs 0)) = some 150 := tv_rg t0
  obtain ⟨t2, hk⟩ := List.forall_mem_cons.mp hk
  have t2 : tv_ok ta (0, 0, 999999, []) (n_v vs 2) := t2
  have k2 : 0 ≤ v_iv (n_v vs 2) ∧ v_iv (n_v vs 2) ≤ 999999 := tv_rng t2
  obtain ⟨t3, hk⟩ := List.forall_mem_cons.mp hk
  have t3 : tv_ok ta (0, 0, 1000100, []) (n_v vs 3) := t3
  have k3 : 0 ≤ v_iv (n_v vs 3) ∧ v_iv (n_v vs 3) ≤ 1000100 := tv_rng t3
  obtain ⟨t7, hk⟩ := List.forall_mem_cons.mp hk
  have t7 : tv_ok ta (0, 0, 3, []) (n_v vs 7) := t7
  have k7 : 0 ≤ v_iv (n_v vs 7) ∧ v_iv (n_v vs 7) ≤ 3 := tv_rng t7
  obtain ⟨t11, hk⟩ := List.forall_mem_cons.mp hk
  have t11 : tv_ok ta (2, 0, 0, [253]) (n_v vs 11) := t11
  have r11 : ta (v_ad (n_v vs 11)) = some 253 := tv_rg t11
  obtain ⟨t14, hk⟩ := List.forall_mem_cons.mp hk
  have t14 : tv_ok ta (0, 0, 24009, []) (n_v vs 14) := t14
  have k14 : 0 ≤ v_iv (n_v vs 14) ∧ v_iv (n_v vs 14) ≤ 24009 := tv_rng t14
  obtain ⟨t15, hk⟩ := List.forall_mem_cons.mp hk
  have t15 : tv_ok ta (0, 1, 1, []) (n_v vs 15) := t15
  have k15 : 1 ≤ v_iv (n_v vs 15) ∧ v_iv (n_v vs 15) ≤ 1 := tv_rng t15
  obtain ⟨t16, hk⟩ := List.forall_mem_cons.mp hk
  have t16 : tv_ok ta (0, 1, 24001, []) (n_v vs 16) := t16
  have k16 : 1 ≤ v_iv (n_v vs 16) ∧ v_iv (n_v vs 16) ≤ 24001 := tv_rng t16
  have hds : ∀ q ∈ ([(16, 14, 1, 1)] : List of_T), n_iv vs q.2.1 + q.2.2.1 ≤ n_iv vs q.1 ∧ n_iv vs q.1 ≤ n_iv vs q.2.1 + q.2.2.2 := hds
  obtain ⟨d0, hds⟩ := List.forall_mem_cons.mp hds
  have d0 : v_iv (n_v vs 14) + 1 ≤ v_iv (n_v vs 16) ∧ v_iv (n_v vs 16) ≤ v_iv (n_v vs 14) + 1 := d0
  have hf : fc_ok [(23, [2], [999999, 1]), (20, [3, 2], [30, 0, 1, 0, 0, -1, 0, 0]), (20, [2, 3], [30, 3, 1, 0, 0, -1, 0, 0]), (100, [11, 7, 16], []), (1, [16, 14, 15], []), (10, [14, 11, 7], []), (9, [11, 0], [142]), (20, [0, 3], [50, 0, 2, 142, 140, 5, 2, 0, 4, 0, 5, 3, 0, 142, 7, 0, 15, 0, 140, 2, 0, 24000, 4, 2, 1, 1, 9, 6, 5, 2, 7, 0, 1, 1, 0, 4]), (20, [0, 2], [50, 0, 2, 142, 140, 0, 13, 4, 9, 3, 0, 142, 9, 2, 1, 1, 0, 4, 0, 1, 15, 0, 140, 2, 0, 24000, 1, 1]), (23, [2], [999999, 1]), (20, [0, 3], [50, 0, 1, 142, 5, 2, 0, 4, 3, 9, 0, 5, 3, 0, 142, 7, 0, 0, 0, 0, 14, 4, 2, 1, 1, 9, 6, 5, 2, 7, 0, 1, 1, 0, 4, 0, 999999]), (20, [3, 2], [30, 0, 1, 0, 0, -1, 0, 0]), (20, [2, 3], [30, 3, 1, 0, 0, -1, 0, 0])] ta ws vs := hf
  obtain ⟨f0, hf⟩ := fc_un (show (23 : Nat) < 100 from by decide) hf
  have f0 : 1 * v_iv (n_v vs 2) + 0 ≤ 999999 := f0
  obtain ⟨f1, hf⟩ := fc_un (show (20 : Nat) < 100 from by decide) hf
  have f1 : 1 * v_iv (n_v vs 3) + ((-1) * v_iv (n_v vs 2) + 0) ≤ 0 := f1
  obtain ⟨f2, hf⟩ := fc_un (show (20 : Nat) < 100 from by decide) hf
  have f2 : 1 * v_iv (n_v vs 2) + ((-1) * v_iv (n_v vs 3) + 0) ≤ 3 := f2
  obtain ⟨ta1, w1, le1, ⟨_, s1⟩, hf⟩ := fc_us (show ¬ (100 : Nat) < 100 from by decide) hf
  have s1 : (∀ b j, w_el ws b j = if b = v_ad (n_v vs 11) ∧ j = (v_iv (n_v vs 7)).toNat then v_iv (n_v vs 16) else w_el w1 b j) ∧ ∀ b k, w_fd ws b k = w_fd w1 b k := s1
  obtain ⟨f4, hf⟩ := fc_un (show (1 : Nat) < 100 from by decide) hf
  have f4 : v_iv (n_v vs 16) = v_iv (n_v vs 14) + v_iv (n_v vs 15) := f4
  obtain ⟨f5, hf⟩ := fc_un (show (10 : Nat) < 100 from by decide) hf
  have f5 : v_iv (n_v vs 14) = w_el w1 (v_ad (n_v vs 11)) (v_iv (n_v vs 7)).toNat := f5
  obtain ⟨f6, hf⟩ := fc_un (show (9 : Nat) < 100 from by decide) hf
  have f6 : n_v vs 11 = w_fd w1 (v_ad (n_v vs 0)) 142 := f6
  obtain ⟨f7, hf⟩ := fc_un (show (20 : Nat) < 100 from by decide) hf
  have f7 : ∀ j0 : Int, 0 ≤ j0 → j0 < 4 → (w_ei w1 (w_ar w1 (n_v vs 0) 142) (j0) ≤ cntE (w_ei w1 (w_ar w1 (n_v vs 0) 140)) ((v_iv (n_v vs 3) + ((j0 - v_iv (n_v vs 3)) % 4))) (24000 : Int).toNat) := f7
  obtain ⟨f8, hf⟩ := fc_un (show (20 : Nat) < 100 from by decide) hf
  have f8 : (w_ei w1 (w_ar w1 (n_v vs 0) 142) ((v_iv (n_v vs 2) % 4)) + 1) ≤ cntE (w_ei w1 (w_ar w1 (n_v vs 0) 140)) (v_iv (n_v vs 2)) (24000 : Int).toNat := f8
  obtain ⟨f9, hf⟩ := fc_un (show (23 : Nat) < 100 from by decide) hf
  have f9 : 1 * v_iv (n_v vs 2) + 0 ≤ 999999 := f9
  obtain ⟨f10, hf⟩ := fc_un (show (20 : Nat) < 100 from by decide) hf
  have f10 : ∀ j0 : Int, 0 ≤ j0 → j0 < 4 → ((w_ei w1 (w_ar w1 (n_v vs 0) 142) (j0) ≤ 0) ∨ ((v_iv (n_v vs 3) + ((j0 - v_iv (n_v vs 3)) % 4)) ≤ 999999)) := f10
  obtain ⟨f11, hf⟩ := fc_un (show (20 : Nat) < 100 from by decide) hf
  have f11 : 1 * v_iv (n_v vs 3) + ((-1) * v_iv (n_v vs 2) + 0) ≤ 0 := f11
  obtain ⟨f12, hf⟩ := fc_un (show (20 : Nat) < 100 from by decide) hf
  have f12 : 1 * v_iv (n_v vs 2) + ((-1) * v_iv (n_v vs 3) + 0) ≤ 3 := f12
  have ar_0_140_1 : w_ar w1 (n_v vs 0) 140 = w_ar ws (n_v vs 0) 140 := by show v_ad (w_fd w1 _ _) = v_ad (w_fd ws _ _); rw [s1.2]
  have cr_0_140 : ta (w_ar ws (n_v vs 0) 140) = some 251 := tv_rg (th_fd hD hth r0 (g := GG_150) rfl (k := 140) (t := (2, 0, 0, [251])) rfl rfl)
  have ar_0_142_1 : w_ar w1 (n_v vs 0) 142 = w_ar ws (n_v vs 0) 142 := by show v_ad (w_fd w1 _ _) = v_ad (w_fd ws _ _); rw [s1.2]
  have cr_0_142 : ta (w_ar ws (n_v vs 0) 142) = some 253 := tv_rg (th_fd hD hth r0 (g := GG_150) rfl (k := 142) (t := (2, 0, 0, [253])) rfl rfl)
  have ad_11 : v_ad (n_v vs 11) = w_ar ws (n_v vs 0) 142 := (congrArg v_ad f6).trans ar_0_142_1
  rw [ad_11] at f5
  have h5 : v_iv (n_v vs 14) = w_ei w1 (w_ar ws (n_v vs 0) 142) (v_iv (n_v vs 7)) := f5
  rw [ar_0_140_1] at f7
  rw [ar_0_142_1] at f7
  rw [ar_0_140_1] at f8
  rw [ar_0_142_1] at f8
  rw [ar_0_142_1] at f10
  have ee_0_142_7_1 : w_el ws (w_ar ws (n_v vs 0) 142) (v_iv (n_v vs 7)).toNat = v_iv (n_v vs 16) := by rw [s1.1, if_pos ⟨ad_11.symm, rfl⟩]
  have br_0_142_7_0 : w_ei ws (w_ar ws (n_v vs 0) 142) (v_iv (n_v vs 7)) = w_el ws (w_ar ws (n_v vs 0) 142) (v_iv (n_v vs 7)).toNat := rfl
  have br_0_142_7_1 : w_ei w1 (w_ar ws (n_v vs 0) 142) (v_iv (n_v vs 7)) = w_el w1 (w_ar ws (n_v vs 0) 142) (v_iv (n_v vs 7)).toNat := rfl
  have hE_0_140_1 : ∀ j : Int, w_ei ws (w_ar ws (n_v vs 0) 140) j = w_ei w1 (w_ar ws (n_v vs 0) 140) j := fun j => by unfold w_ei; rw [s1.1, if_neg (fun e => by have e1 := e.1; rw [← e1] at r11; rw [cr_0_140] at r11; exact absurd (Option.some.inj r11) (by decide))]
  have hK_0_140 : ∀ j : Int, 0 ≤ j → j < 24000 → 0 ≤ w_ei ws (w_ar ws (n_v vs 0) 140) j ∧ w_ei ws (w_ar ws (n_v vs 0) 140) j ≤ 1000000 := fun j h0 h1 => th_el hD hth cr_0_140 (kd := 0) (n := 24000) (m := 24000) (lo := 0) (hi := 1000000) (rs := []) (L := []) rfl (by decide) (j := j.toNat) (by omega)
  have hE_0_142_1 : ∀ j : Int, 0 ≤ j → (j = v_iv (n_v vs 7) → w_ei ws (w_ar ws (n_v vs 0) 142) j = v_iv (n_v vs 16)) ∧ (j ≠ v_iv (n_v vs 7) → w_ei ws (w_ar ws (n_v vs 0) 142) j = w_ei w1 (w_ar ws (n_v vs 0) 142) j) := fun j hj => ⟨fun h => by unfold w_ei; rw [s1.1, if_pos ⟨ad_11.symm, by rw [h]⟩], fun h => by unfold w_ei; rw [s1.1, if_neg (fun e => h (by have := e.2; omega))]⟩
  have hK_0_142 : ∀ j : Int, 0 ≤ j → j < 4 → 0 ≤ w_ei ws (w_ar ws (n_v vs 0) 142) j ∧ w_ei ws (w_ar ws (n_v vs 0) 142) j ≤ 24009 := fun j h0 h1 => th_el hD hth cr_0_142 (kd := 0) (n := 4) (m := 4) (lo := 0) (hi := 24009) (rs := []) (L := []) rfl (by decide) (j := j.toNat) (by omega)
  first | have qi1 := (hE_0_142_1 (v_iv (n_v vs 7)) (by omega)).1 (by omega) | have qi1 := (hE_0_142_1 (v_iv (n_v vs 7)) (by omega)).2 (by omega) | skip
  first | have qi2 := f7 (v_iv (n_v vs 7)) (by omega) (by omega) | skip
  first | have qi3 := f10 (v_iv (n_v vs 7)) (by omega) (by omega) | skip
  first | have qi4 := hK_0_142 (v_iv (n_v vs 7)) (by omega) (by omega) | skip
  first | have qi5 := f7 ((v_iv (n_v vs 2) % 4)) (by omega) (by omega) | skip
  first | have qi6 := f10 ((v_iv (n_v vs 2) % 4)) (by omega) (by omega) | skip
  first | have qi7 := hK_0_140 ((v_iv (n_v vs 2) % 4)) (by omega) (by omega) | skip
  first | have qi8 := hK_0_142 ((v_iv (n_v vs 2) % 4)) (by omega) (by omega) | skip
  have qi9 := hE_0_140_1 ((v_iv (n_v vs 2) % 4))
  first | have qi10 := (hE_0_142_1 ((v_iv (n_v vs 2) % 4)) (by omega)).1 (by omega) | have qi10 := (hE_0_142_1 ((v_iv (n_v vs 2) % 4)) (by omega)).2 (by omega) | skip
  have hC1 : cntE (w_ei ws (w_ar ws (n_v vs 0) 140)) (v_iv (n_v vs 2)) (24000 : Int).toNat = cntE (w_ei w1 (w_ar ws (n_v vs 0) 140)) (v_iv (n_v vs 2)) (24000 : Int).toNat := cnt_eq (fun j _ _ => hE_0_140_1 j)
  have hCb1_0 := cnt_bd (w_ei ws (w_ar ws (n_v vs 0) 140)) (v_iv (n_v vs 2)) (24000 : Int).toNat
  have hCb1_1 := cnt_bd (w_ei w1 (w_ar ws (n_v vs 0) 140)) (v_iv (n_v vs 2)) (24000 : Int).toNat
  first | have hV : ∀ t : Int, cntE (w_ei ws (w_ar ws (n_v vs 0) 140)) t (24000 : Int).toNat = cntE (w_ei w1 (w_ar ws (n_v vs 0) 140)) t (24000 : Int).toNat := fun t => cnt_eq (fun j _ _ => hE_0_140_1 j) | skip
  first | have hB2 : w_ei w1 (w_ar ws (n_v vs 0) 142) (v_iv (n_v vs 7)) = w_ei w1 (w_ar ws (n_v vs 0) 142) (v_iv (n_v vs 2) % 4) := congrArg _ (show (v_iv (n_v vs 7) : Int) = v_iv (n_v vs 2) % 4 from by omega) | skip
  have nf0 : fc_1 (20, [0, 3], [50, 0, 2, 142, 140, 5, 2, 0, 4, 0, 5, 3, 0, 142, 7, 0, 15, 0, 140, 2, 0, 24000, 4, 2, 1, 1, 9, 6, 5, 2, 7, 0, 1, 1, 0, 4]) ws (vs) := by
    refine ⟨fun n hn => ?_, ?_⟩
    · have hn : n ∈ [0, 3] := hn
      rw [hl]
      simp only [List.mem_cons, List.not_mem_nil, or_false] at hn
      show n < 17; omega
    · show ∀ j0 : Int, 0 ≤ j0 → j0 < 4 → (w_ei ws (w_ar ws (n_v vs 0) 142) (j0) ≤ cntE (w_ei ws (w_ar ws (n_v vs 0) 140)) ((v_iv (n_v vs 3) + ((j0 - v_iv (n_v vs 3)) % 4))) (24000 : Int).toNat)
      first | (intro j0 hj00 hj01; (rcases Decidable.em (j0 = v_iv (n_v vs 7)) with hc10 | hc10); (have hc10v := (hE_0_142_1 (j0) hj00).1 hc10; (first | have i1 := f7 (j0) hj00 | skip); (first | have i2 := f10 (j0) hj00 | skip); (first | have i3 := hK_0_140 (j0) hj00 | skip); (first | have i4 := hK_0_142 (j0) hj00 | skip); (first | have i5 := hE_0_140_1 (j0) | skip); (first | have i6 := hU (v_iv (n_v vs 3) + ((j0 - v_iv (n_v vs 3)) % 4)) | skip); (first | have i7 := hV (v_iv (n_v vs 3) + ((j0 - v_iv (n_v vs 3)) % 4)) | skip); (first | have i8 := hV (v_iv (n_v vs 2)) | skip); (first | have i9 := cnt_bd (w_ei ws (w_ar ws (n_v vs 0) 140)) (v_iv (n_v vs 3) + ((j0 - v_iv (n_v vs 3)) % 4)) (24000 : Int).toNat | skip); (first | rw [show ((v_iv (n_v vs 3) + (j0 - v_iv (n_v vs 3)) % 4) : Int) = v_iv (n_v vs 2) from by omega] | skip); omega); (have hc10v := (hE_0_142_1 (j0) hj00).2 hc10; (first | have i1 := f7 (j0) hj00 | skip); (first | have i2 := f10 (j0) hj00 | skip); (first | have i3 := hK_0_140 (j0) hj00 | skip); (first | have i4 := hK_0_142 (j0) hj00 | skip); (first | have i5 := hE_0_140_1 (j0) | skip); (first | have i6 := hU (v_iv (n_v vs 3) + ((j0 - v_iv (n_v vs 3)) % 4)) | skip); (first | have i7 := hV (v_iv (n_v vs 3) + ((j0 - v_iv (n_v vs 3)) % 4)) | skip); (first | have i8 := hV (v_iv (n_v vs 2)) | skip); (first | have i9 := cnt_bd (w_ei ws (w_ar ws (n_v vs 0) 140)) (v_iv (n_v vs 3) + ((j0 - v_iv (n_v vs 3)) % 4)) (24000 : Int).toNat | skip); (first | rw [show ((v_iv (n_v vs 3) + (j0 - v_iv (n_v vs 3)) % 4) : Int) = v_iv (n_v vs 2) from by omega] | skip); omega)) | (set_option maxHeartbeats 200000 in grind)
  have nf1 : fc_1 (20, [0, 3], [50, 0, 1, 142, 5, 2, 0, 4, 3, 9, 0, 5, 3, 0, 142, 7, 0, 0, 0, 0, 14, 4, 2, 1, 1, 9, 6, 5, 2, 7, 0, 1, 1, 0, 4, 0, 999999]) ws (vs) := by
    refine ⟨fun n hn => ?_, ?_⟩
    · have hn : n ∈ [0, 3] := hn
      rw [hl]
      simp only [List.mem_cons, List.not_mem_nil, or_false] at hn
      show n < 17; omega
    · show ∀ j0 : Int, 0 ≤ j0 → j0 < 4 → ((w_ei ws (w_ar ws (n_v vs 0) 142) (j0) ≤ 0) ∨ ((v_iv (n_v vs 3) + ((j0 - v_iv (n_v vs 3)) % 4)) ≤ 999999))
      first | (intro j0 hj00 hj01; (rcases Decidable.em (j0 = v_iv (n_v vs 7)) with hc8 | hc8); (have hc8v := (hE_0_142_1 (j0) hj00).1 hc8; (first | have i1 := f7 (j0) hj00 | skip); (first | have i2 := f10 (j0) hj00 | skip); (first | have i3 := hK_0_142 (j0) hj00 | skip); (first | have i4 := hU (v_iv (n_v vs 3) + ((j0 - v_iv (n_v vs 3)) % 4)) | skip); (first | have i5 := hV (v_iv (n_v vs 3) + ((j0 - v_iv (n_v vs 3)) % 4)) | skip); (first | have i6 := hV (v_iv (n_v vs 2)) | skip); (first | have i7 := cnt_bd (w_ei ws (w_ar ws (n_v vs 0) 140)) (v_iv (n_v vs 3) + ((j0 - v_iv (n_v vs 3)) % 4)) (24000 : Int).toNat | skip); (first | rw [show ((v_iv (n_v vs 3) + (j0 - v_iv (n_v vs 3)) % 4) : Int) = v_iv (n_v vs 2) from by omega] | skip); omega); (have hc8v := (hE_0_142_1 (j0) hj00).2 hc8; (first | have i1 := f7 (j0) hj00 | skip); (first | have i2 := f10 (j0) hj00 | skip); (first | have i3 := hK_0_142 (j0) hj00 | skip); (first | have i4 := hU (v_iv (n_v vs 3) + ((j0 - v_iv (n_v vs 3)) % 4)) | skip); (first | have i5 := hV (v_iv (n_v vs 3) + ((j0 - v_iv (n_v vs 3)) % 4)) | skip); (first | have i6 := hV (v_iv (n_v vs 2)) | skip); (first | have i7 := cnt_bd (w_ei ws (w_ar ws (n_v vs 0) 140)) (v_iv (n_v vs 3) + ((j0 - v_iv (n_v vs 3)) % 4)) (24000 : Int).toNat | skip); (first | rw [show ((v_iv (n_v vs 3) + (j0 - v_iv (n_v vs 3)) % 4) : Int) = v_iv (n_v vs 2) from by omega] | skip); omega)) | (set_option maxHeartbeats 200000 in grind)
  refine ⟨(fun _ h => (by cases h)), [], trivial, ?_, (fun _ h => (by cases h))⟩
  rw [List.append_nil]
  exact List.forall_mem_cons.mpr ⟨⟨show (20 : Nat) < 100 from by decide, nf0⟩, List.forall_mem_cons.mpr ⟨⟨show (20 : Nat) < 100 from by decide, nf1⟩, (fun _ h => (by cases h))⟩⟩
def n_Mo_reached_an : List an_T := []
def t_Mo_reached_ct : ct_L := []
set_option maxRecDepth 100000 in
theorem c_Mo_reached {l : Launch} {D : va_G} {kA : Nat → ClassId} : ct_ok l D kA GG y_Mo_reached z_Mo_reached e_Mo_reached := chk_all_ok (FT := [(317, 13, 140), (321, 13, 141), (324, 13, 142)]) (PT := []) (CT := t_Mo_reached_ct) (KT := []) (NT := []) (AN := n_Mo_reached_an) (OT := [o_Mo_reached_0, o_Mo_reached_1, o_Mo_reached_2]) 0 200 (List.forall_mem_cons.mpr ⟨oo_Mo_reached_0, List.forall_mem_cons.mpr ⟨oo_Mo_reached_1, List.forall_mem_cons.mpr ⟨oo_Mo_reached_2, List.forall_mem_nil _⟩⟩⟩) (by decide +kernel) ⟨List.forall_mem_cons.mpr ⟨gf_Mo_317, List.forall_mem_cons.mpr ⟨gf_Mo_321, List.forall_mem_cons.mpr ⟨gf_Mo_324, List.forall_mem_nil _⟩⟩⟩, List.forall_mem_nil _, List.forall_mem_nil _, List.forall_mem_nil _, List.forall_mem_nil _, GG_pl⟩ (by decide +kernel)
